/-! ===== public call: order ===== -/
def oX (x : Int32) : Nat → Int32
  | 0 => x
  | i + 1 => oX x i / 10
/-- the i-th digit from behind, as a player -/
def oD (x : Int32) (i : Nat) : Int32 := oX x i % 10 - 1
def oN (x : Int32) (i : Nat) : Nat := (oD x i).toInt.toNat
def bAdd (s p : Nat) : Nat := s ||| 2 ^ p
/-- who are named by the first i digits -/
def oS (x : Int32) : Nat → Nat
  | 0 => 0
  | i + 1 => bAdd (oS x i) (oN x i)
def oGo (x : Int32) (n i : Nat) : Prop := iP (oD x i) n ∧ bIn (oS x i) (oN x i) = false
def oOk (x : Int32) (n : Nat) : Prop := (∀ i, i < n → oGo x n i) ∧ oX x n = 0
theorem b_add : ∀ s, s < 16 → ∀ p, p < 4 → nI s ||| ((1 : Int32) <<< (nI p &&& 31)) = nI (bAdd s p) := by decide +kernel
theorem b_add_lt : ∀ s, s < 16 → ∀ p, p < 4 → bAdd s p < 16 := by decide +kernel
theorem b_add_in : ∀ s, s < 16 → ∀ p, p < 4 → ∀ q, q < 4 → bIn (bAdd s p) q = (bIn s q || decide (q = p)) := by decide +kernel
theorem b_add_pop : ∀ s, s < 16 → ∀ p, p < 4 → bIn s p = false → bPop (bAdd s p) = bPop s + 1 := by decide +kernel
theorem b_full4 : ∀ n, n < 5 → ∀ s, s < 16 → ∀ p, p < 4 → (((!bIn s 0 || decide (0 < n)) && (!bIn s 1 || decide (1 < n)) && (!bIn s 2 || decide (2 < n)) && (!bIn s 3 || decide (3 < n)) && decide (bPop s = n)) = true → (!decide (p < n) || bIn s p) = true) := by decide +kernel
theorem b_full (n : Nat) (hn : n < 5) (s : Nat) (hs : s < 16) (h : ∀ p, p < 4 → bIn s p = true → p < n) (hp : bPop s = n) : ∀ p, p < 4 → p < n → bIn s p = true := by
  intro p hp4 hpn
  have k : ∀ p, p < 4 → (!bIn s p || decide (p < n)) = true := fun p hp => by
    cases hb : bIn s p with
    | false => rfl
    | true => rw [decide_eq_true (h p hp hb)]; rfl
  have r := b_full4 n hn s hs p hp4 (by rw [k 0 (by omega), k 1 (by omega), k 2 (by omega), k 3 (by omega), decide_eq_true hp]; rfl)
  rw [decide_eq_true hpn] at r
  exact r
theorem oN_of {x : Int32} {n i : Nat} (hn : n ≤ 4) (h : iP (oD x i) n) : oN x i < n ∧ oD x i = nI (oN x i) := by
  obtain ⟨k, hk, e⟩ := h
  have : oN x i = k := by unfold oN; rw [e, nI_toInt (by omega)]; rfl
  rw [this]
  exact ⟨hk, e⟩
/-- the sets named so far -/
theorem oS_ok {x : Int32} {n : Nat} (hn : n ≤ 4) : ∀ i, (∀ j, j < i → oGo x n j) → oS x i < 16 ∧ bPop (oS x i) = i ∧ ∀ p, p < 4 → (bIn (oS x i) p = true ↔ ∃ j, j < i ∧ oN x j = p)
  | 0, _ => by
    refine ⟨(show 0 < 16 by omega), (by decide : bPop 0 = 0), fun p _ => ⟨fun h => ?_, fun ⟨j, hj, _⟩ => absurd hj (Nat.not_lt_zero j)⟩⟩
    have e : bIn 0 p = false := Nat.zero_testBit p
    exact absurd (e.symm.trans h) (by decide)
  | i + 1, h => by
    obtain ⟨a, b, c⟩ := oS_ok hn i fun j hj => h j (by omega)
    obtain ⟨g1, g2⟩ := h i (Nat.lt_succ_self i)
    obtain ⟨e1, e2⟩ := oN_of hn g1
    refine ⟨b_add_lt _ a _ (by omega), (b_add_pop _ a _ (by omega) g2).trans (by rw [b]), fun p hp => ?_⟩
    show bIn (bAdd (oS x i) (oN x i)) p = true ↔ _
    rw [b_add_in _ a _ (by omega) p hp, Bool.or_eq_true, decide_eq_true_eq, c p hp]
    constructor
    · rintro (⟨j, hj, e⟩ | e)
      · exact ⟨j, by omega, e⟩
      · exact ⟨i, by omega, e.symm⟩
    · rintro ⟨j, hj, e⟩
      by_cases hji : j = i
      · subst hji; exact Or.inr e.symm
      · exact Or.inl ⟨j, by omega, e⟩
/-- the new ORDER -/
def oO (v : Vw) (x : Int32) : Nat → Nat := fun k => if k < vn v then oN x (vn v - 1 - k) else vO v k
def oP (v : Vw) (x : Int32) : Nat → Nat := fun p => if p < vn v then (if oO v x 0 = p then 0 else if oO v x 1 = p then 1 else if oO v x 2 = p then 2 else 3) else vP v p
def vOr (v : Vw) (x : Int32) : Vw := (vn v, vH v, vY v, vT v, oO v x, oP v x, vB v, vZ v)
theorem oO_lt {v : Vw} {x : Int32} (hv : vOk v) (h : oOk x (vn v)) {k : Nat} (hk : k < vn v) : oO v x k < vn v := by
  unfold oO
  rw [if_pos hk]
  exact (oN_of hv.1 (h.1 _ (by omega)).1).1
theorem oO_ne {v : Vw} {x : Int32} (hv : vOk v) (h : oOk x (vn v)) {k j : Nat} (hk : k < vn v) (hj : j < k) : oO v x j ≠ oO v x k := by
  have hn := hv.1
  intro e
  unfold oO at e
  rw [if_pos hk, if_pos (by omega)] at e
  have hlt := (oN_of hn (h.1 (vn v - 1 - j) (by omega)).1).1
  have hg := (h.1 (vn v - 1 - j) (by omega)).2
  have hs := oS_ok hn (vn v - 1 - j) fun i hi => h.1 i (by omega)
  have := (hs.2.2 (oN x (vn v - 1 - j)) (by omega)).mpr ⟨vn v - 1 - k, by omega, e.symm⟩
  rw [hg] at this
  cases this
theorem oO_at {v : Vw} {x : Int32} (hv : vOk v) (h : oOk x (vn v)) {p : Nat} (hp : p < vn v) : ∃ k, k < vn v ∧ oO v x k = p := by
  have hn := hv.1
  have hs := oS_ok hn (vn v) h.1
  have hb := b_full (vn v) (by omega) (oS x (vn v)) hs.1 (fun q hq hi => by
    obtain ⟨j, hj, e⟩ := (hs.2.2 q hq).mp hi
    rw [← e]
    exact (oN_of hn (h.1 j hj).1).1) hs.2.1 p (by omega) hp
  obtain ⟨j, hj, e⟩ := (hs.2.2 p (by omega)).mp hb
  refine ⟨vn v - 1 - j, by omega, ?_⟩
  unfold oO
  rw [if_pos (by omega), show vn v - 1 - (vn v - 1 - j) = j by omega]
  exact e
theorem oP_at {v : Vw} {x : Int32} (hv : vOk v) (h : oOk x (vn v)) {k : Nat} (hk : k < vn v) : oP v x (oO v x k) = k := by
  have hn := hv.1
  have hne : ∀ j, j < k → oO v x j ≠ oO v x k := fun j hj => oO_ne hv h hk hj
  unfold oP
  rw [if_pos (oO_lt hv h hk)]
  rcases (by omega : k = 0 ∨ k = 1 ∨ k = 2 ∨ k = 3) with rfl | rfl | rfl | rfl
  · rw [if_pos rfl]
  · rw [if_neg (hne 0 (by omega)), if_pos rfl]
  · rw [if_neg (hne 0 (by omega)), if_neg (hne 1 (by omega)), if_pos rfl]
  · rw [if_neg (hne 0 (by omega)), if_neg (hne 1 (by omega)), if_neg (hne 2 (by omega))]
theorem vOr_ok {v : Vw} {x : Int32} (hv : vOk v) (h : oOk x (vn v)) : vOk (vOr v x) := by
  obtain ⟨a, b, c, e, f, g, i, j⟩ := id hv
  refine ⟨a, b, c, fun k hk => ⟨?_, ?_⟩, fun k hk => ⟨oO_lt hv h hk, oP_at hv h hk⟩, fun p hp => ?_, i, j⟩
  · show oO v x k < 4
    by_cases hkn : k < vn v
    · have := oO_lt hv h hkn; omega
    · unfold oO; rw [if_neg hkn]; exact (e k hk).1
  · show oP v x k < 4
    unfold oP
    split
    · split
      · omega
      · split
        · omega
        · split <;> omega
    · exact (e k hk).2
  · obtain ⟨k, hk, rfl⟩ := oO_at hv h hp
    show oP v x (oO v x k) < vn v ∧ oO v x (oP v x (oO v x k)) = _
    rw [oP_at hv h hk]
    exact ⟨hk, rfl⟩
section PO
variable {l : Launch} {G : zG}
theorem nI_dn : ∀ m, m < 5 → nI m + (-1 : Int32) = nI m - 1 := by decide +kernel
theorem cTurn_79 {d : Nat} {I : zIM} {L : zLM} {v : Vw} {x : Int32} {P : Int32 → zIM → zLM → Prop} (hv : vOk v) (hG : cG v I) (h : oOk x (vn v)) (hd : 2 ≤ d) (hP : ∀ J I', (∀ a b, a ≠ 5 → J a b = I a b) → qFF (vOr v x) J L I' L → P 1 I' L) : ∀ m i (J : zIM), i + m = vn v → (∀ a b, a ≠ 5 → J a b = I a b) → (∀ k, k < 4 → J 5 k = if m ≤ k ∧ k < vn v then nI (oN x (vn v - 1 - k)) else I 5 k) → K_X2_turnAs_79 l G d P J L (oX x i) (nI m - 1)
  | 0, i, J, hi, h1, h2 => by
    have hn := hv.1
    refine t_X2_turnAs_79 ⟨fun _ => ⟨1, _, hd, cFindFollowers (vOr_ok hv h) ?_ (Nat.le_refl 1), ?_⟩, fun c => absurd (by decide) c⟩
    · obtain ⟨a, b, c, e, f, g, _, j⟩ := id hG
      refine ⟨(h1 _ _ (by omega)).trans a, (h1 _ _ (by omega)).trans b, fun p hp => (h1 _ _ (by omega)).trans (c p hp), fun p hp => (h1 _ _ (by omega)).trans (e p hp), fun p hp => (h1 _ _ (by omega)).trans (f p hp), fun k hk => ?_, fun p hp => (h1 _ _ (by omega)).trans (j p hp)⟩
      rw [h2 k hk]
      show _ = nI (oO v x k)
      unfold oO
      by_cases hkn : k < vn v
      · rw [if_pos ⟨Nat.zero_le _, hkn⟩, if_pos hkn]
      · rw [if_neg (fun z => hkn z.2), if_neg hkn]; exact g k hk
    · rintro I' _ ⟨rfl, q2⟩
      exact hP J I' h1 ⟨rfl, q2⟩
  | m + 1, i, J, hi, h1, h2 => by
    have hn := hv.1
    obtain ⟨e1, e2⟩ := oN_of hn (h.1 i (by omega)).1
    have e2 : oX x i % 10 - 1 = nI (oN x i) := e2
    rw [nI_pred]
    refine t_X2_turnAs_79 ⟨fun c => absurd c (nI_pos (by omega)), fun _ => ⟨m, rfl, by omega, ?_⟩⟩
    rw [nI_dn m (by omega), e2]
    refine cTurn_79 hv hG h hd hP m (i + 1) _ (by omega) (fun a b q => by rw [xI_ne (by omega)]; exact h1 a b q) (fun k hk => ?_)
    by_cases hkm : k = m
    · subst hkm
      rw [xI_eq, if_pos ⟨Nat.le_refl _, by omega⟩, show vn v - 1 - k = i by omega]
    · rw [xI_ne (by omega), h2 k hk]
      by_cases hmk : m ≤ k ∧ k < vn v
      · rw [if_pos hmk, if_pos ⟨by omega, hmk.2⟩]
      · rw [if_neg hmk, if_neg (by omega)]
theorem cTurn_12 {d : Nat} {I : zIM} {L : zLM} {v : Vw} {x : Int32} {P : Int32 → zIM → zLM → Prop} (hv : vOk v) (hG : cG v I) (hd : 2 ≤ d) (hno : ¬ oOk x (vn v) → P 0 I L) (hyes : oOk x (vn v) → ∀ J I', (∀ a b, a ≠ 5 → J a b = I a b) → qFF (vOr v x) J L I' L → P 1 I' L) : ∀ m i, i + m = vn v → (∀ j, j < i → oGo x (vn v) j) → K_X2_turnAs_12 l G d P I L x (oX x i) (nI (oS x i)) (nI m - 1)
  | 0, i, hi, hg => by
    have hn := hv.1
    obtain rfl : i = vn v := by omega
    refine t_X2_turnAs_12 ⟨fun _ => ⟨fun z => ?_, fun z => hno fun w => z w.2⟩, fun c => absurd (by decide) c⟩
    rw [hG.1]
    refine cTurn_79 hv hG ⟨hg, z⟩ hd (hyes ⟨hg, z⟩) (vn v) 0 I (by omega) (fun _ _ _ => rfl) (fun k hk => ?_)
    rw [if_neg (by omega)]
  | m + 1, i, hi, hg => by
    have hn := hv.1
    have one : ¬ (1 : Int32) = 0 := by decide
    have hs := (oS_ok hn i hg).1
    rw [nI_pred]
    refine t_X2_turnAs_12 ⟨fun c => absurd c (nI_pos (by omega)), fun _ => ⟨0, _, by omega, cHasB (oX x i % 10 - 1) hv hG, ?_⟩⟩
    rintro y _ _ ⟨hy, rfl, rfl⟩
    by_cases hp : iP (oD x i) (vn v)
    · obtain rfl := zB_t hy hp
      obtain ⟨e1, e2⟩ := oN_of hn hp
      have e2 : oX x i % 10 - 1 = nI (oN x i) := e2
      rw [e2, nI_dn m (by omega)]
      refine ⟨fun c => absurd c one, fun _ => ⟨fun c => ?_, fun c => hno fun w => ?_⟩⟩
      · have hb := (b_in _ hs _ (by omega)).mp c
        rw [b_add _ hs _ (by omega)]
        exact cTurn_12 hv hG hd hno hyes m (i + 1) (by omega) fun j hj => by
          by_cases hji : j = i
          · subst hji; exact ⟨hp, hb⟩
          · exact hg j (by omega)
      · exact c ((b_in _ hs _ (by omega)).mpr (w.1 i (by omega)).2)
    · obtain rfl := zB_f hy hp
      exact ⟨fun _ => hno fun w => hp (w.1 i (by omega)).1, fun c => absurd rfl c⟩
theorem cTurnAs {d : Nat} {I : zIM} {L : zLM} {v : Vw} {x : Int32} {P : Int32 → zIM → zLM → Prop} (hv : vOk v) (hG : cG v I) (hd : 2 ≤ d) (hno : ¬ oOk x (vn v) → P 0 I L) (hyes : oOk x (vn v) → ∀ J I', (∀ a b, a ≠ 5 → J a b = I a b) → qFF (vOr v x) J L I' L → P 1 I' L) : zCi l G d mX2_turnAs [.ref 1, .int x] I L P := by
  refine t_X2_turnAs ?_
  rw [hG.1]
  exact cTurn_12 hv hG hd hno hyes (vn v) 0 (by omega) (fun j hj => absurd hj (Nat.not_lt_zero j))
/-! the reference -/
theorem cOrd_85 {d : Nat} {I : zIM} {L : zLM} {v : Vw} {x : Int32} {P : Int32 → zIM → zLM → Prop} (hv : vOk v) (hM : mG v I) (h : oOk x (vn v)) (hd : 2 ≤ d) (hP : ∀ J, (∀ a b, a ≠ 49 → a ≠ 50 → a ≠ 52 → J a b = I a b) → mG (vOr v x) J → P 1 (mSt (vOr v x) (xI J 44 36 0)) L) : ∀ f k (J : zIM), f + k = vn v → (∀ a b, a ≠ 49 → a ≠ 50 → a ≠ 52 → J a b = I a b) → (∀ j, j < vn v → J 52 j = nI (oO v x j)) → (vn v = 0 → J 49 0 = 0) → (∀ j, j < k → J 49 j = nI (oO v x j) ∧ J 50 (oO v x j) = nI j) → K_X9_order_85 l G d P J L (nI k)
  | 0, k, J, hf, h1, h2, h0, h3 => by
    have hn := hv.1
    obtain rfl : k = vn v := by omega
    have e6 : J 44 6 = nI (vn v) := (h1 _ _ (by omega) (by omega) (by omega)).trans hM.1
    have hm : mG (vOr v x) J := by
      obtain ⟨a, b, c, e, f, g, i, j, w⟩ := hM
      refine ⟨e6, (h1 _ _ (by omega) (by omega) (by omega)).trans b, fun p hp => (h1 _ _ (by omega) (by omega) (by omega)).trans (c p hp), fun p hp => (h1 _ _ (by omega) (by omega) (by omega)).trans (e p hp), fun p hp => (h1 _ _ (by omega) (by omega) (by omega)).trans (f p hp), fun j hj => (h3 j hj).1, fun p hp => ?_, fun m hm => (h1 _ _ (by omega) (by omega) (by omega)).trans (j m hm), h0⟩
      obtain ⟨k, hk, rfl⟩ := oO_at hv h hp
      rw [(h3 k hk).2]
      show _ = nI (oP v x (oO v x k))
      rw [oP_at hv h hk]
    refine t_X9_order_85 ⟨fun _ => ⟨1, _, hd, cStartsAnew9 (vOr_ok hv h) e6 (Nat.le_refl 1), ?_⟩, fun c => absurd ?_ c⟩
    · rintro _ _ ⟨rfl, rfl⟩
      exact hP J h1 hm
    · rw [e6]; exact nI_le (Nat.le_refl _) (by omega)
  | f + 1, k, J, hf, h1, h2, h0, h3 => by
    have hn := hv.1
    have e6 : J 44 6 = nI (vn v) := (h1 _ _ (by omega) (by omega) (by omega)).trans hM.1
    have hlt := oO_lt hv h (show k < vn v by omega)
    refine t_X9_order_85 ⟨fun c => absurd c ?_, fun _ => ⟨k, rfl, by omega, oO v x k, h2 k (by omega), by omega, ?_⟩⟩
    · rw [e6]; exact nI_ge (by omega) (by omega)
    · rw [nI_1, h2 k (by omega)]
      refine cOrd_85 hv hM h hd hP f (k + 1) _ (by omega) (fun a b q1 q2 q3 => by rw [xI_ne (by omega), xI_ne (by omega)]; exact h1 a b q1 q2 q3) (fun j hj => by rw [xI_ne (by omega), xI_ne (by omega)]; exact h2 j hj) (fun z => absurd z (by omega)) (fun j hj => ?_)
      by_cases hjk : j = k
      · subst hjk
        exact ⟨by rw [xI_ne (by omega), xI_eq], xI_eq⟩
      · have hne := oO_ne hv h (show k < vn v by omega) (show j < k by omega)
        exact ⟨by rw [xI_ne (by omega), xI_ne (by omega)]; exact (h3 j (by omega)).1, by rw [xI_ne (fun z => hne z.2), xI_ne (by omega)]; exact (h3 j (by omega)).2⟩
end PO
section PO2
variable {l : Launch} {G : zG}
theorem i_mod {x : Int32} (h : x ≤ 0) (n : Nat) (hn : n < 2 ^ 31) : ¬ iP (x % 10 - 1) n := by
  rw [iP_iff hn]
  have a : x.toInt ≤ 0 := i_le0.mp h
  have e : (x % 10).toInt = x.toInt.tmod 10 := by rw [Int32.toInt_mod]; rfl
  have b0 : 0 ≤ (-x.toInt).tmod 10 := Int.tmod_nonneg 10 (by omega)
  have b1 : (-x.toInt).tmod 10 < 10 := Int.tmod_lt_of_pos _ (by omega)
  rw [Int.neg_tmod] at b0 b1
  have s : (x % 10 - 1).toInt = x.toInt.tmod 10 - 1 := by
    rw [Int32.toInt_sub, e, show (1 : Int32).toInt = 1 from by decide]
    apply Int.bmod_eq_of_le <;> omega
  rw [s]
  omega
theorem cOrd_12 {d : Nat} {I : zIM} {L : zLM} {v : Vw} {x : Int32} {P : Int32 → zIM → zLM → Prop} (hv : vOk v) (hM : mG v I) (hd : 2 ≤ d) (hno : ¬ oOk x (vn v) → ∀ J, (∀ a b, a ≠ 52 → J a b = I a b) → P (-1) J L) (hP : oOk x (vn v) → ∀ J, (∀ a b, a ≠ 49 → a ≠ 50 → a ≠ 52 → J a b = I a b) → mG (vOr v x) J → P 1 (mSt (vOr v x) (xI J 44 36 0)) L) : ∀ m i (J : zIM), i + m = vn v → (∀ j, j < i → oGo x (vn v) j) → (∀ a b, a ≠ 52 → J a b = I a b) → (∀ k, m ≤ k → k < vn v → J 52 k = nI (oN x (vn v - 1 - k))) → K_X9_order_12 l G d P J L (nI (oS x i)) (oX x i) (nI m - 1)
  | 0, i, J, hi, hg, h1, h2 => by
    have hn := hv.1
    obtain rfl : i = vn v := by omega
    refine t_X9_order_12 ⟨fun _ => ⟨fun z => ?_, fun z => hno (fun w => z w.2) J h1⟩, fun c => absurd (by decide) c⟩
    rw [← nI_0]
    refine cOrd_85 hv hM ⟨hg, z⟩ hd (hP ⟨hg, z⟩) (vn v) 0 J (by omega) (fun a b _ _ q => h1 a b q) (fun j hj => ?_) (fun z => (h1 _ _ (by omega)).trans (hM.2.2.2.2.2.2.2.2 z)) (fun j hj => absurd hj (Nat.not_lt_zero j))
    rw [h2 j (Nat.zero_le _) hj]
    unfold oO
    rw [if_pos hj]
  | m + 1, i, J, hi, hg, h1, h2 => by
    have hn := hv.1
    have one : ¬ (1 : Int32) = 0 := by decide
    have hs := (oS_ok hn i hg).1
    have e6 : J 44 6 = nI (vn v) := (h1 _ _ (by omega)).trans hM.1
    rw [nI_pred]
    refine t_X9_order_12 ⟨fun c => absurd c (nI_pos (by omega)), fun _ => ⟨fun c => hno (fun w => i_mod c (vn v) (by omega) (w.1 i (by omega)).1) J h1, fun _ => ⟨1, _, hd, cIsPlayer9 (oX x i % 10 - 1) hn e6 (Nat.le_refl 1), ?_⟩⟩⟩
    rintro y _ _ ⟨hy, rfl, rfl⟩
    by_cases hp : iP (oD x i) (vn v)
    · obtain rfl := zB_t hy hp
      obtain ⟨e1, e2⟩ := oN_of hn hp
      have e2 : oX x i % 10 - 1 = nI (oN x i) := e2
      rw [e2, nI_dn m (by omega)]
      refine ⟨fun c => absurd c one, fun _ => ⟨0, _, by omega, cIsIn9 hs (show oN x i < 4 by omega), ?_⟩⟩
      rintro y _ _ ⟨hy, rfl, rfl⟩
      by_cases hb : bIn (oS x i) (oN x i) = true
      · obtain rfl := zB_t hy hb
        exact ⟨fun c => absurd c one, fun _ => hno (fun w => by rw [(w.1 i (by omega)).2] at hb; cases hb) J h1⟩
      · obtain rfl := zB_f hy hb
        refine ⟨fun _ => ⟨m, rfl, by omega, ?_⟩, fun c => absurd rfl c⟩
        rw [b_add _ hs _ (by omega)]
        refine cOrd_12 hv hM hd hno hP m (i + 1) _ (by omega) (fun j hj => ?_) (fun a b q => by rw [xI_ne (by omega)]; exact h1 a b q) (fun k hk hkn => ?_)
        · by_cases hji : j = i
          · subst hji; exact ⟨hp, by simpa using hb⟩
          · exact hg j (by omega)
        · by_cases hkm : k = m
          · subst hkm
            rw [xI_eq, show vn v - 1 - k = i by omega]
          · rw [xI_ne (by omega)]; exact h2 k (by omega) hkn
    · obtain rfl := zB_f hy hp
      exact ⟨fun _ => hno (fun w => hp (w.1 i (by omega)).1) J h1, fun c => absurd rfl c⟩
theorem s_order (x : Int32) : zStep l G mX8_order mX9_order [.int x] := by
  rintro I L ⟨v, o, nb, hv, hG, hF, hM, hLw, hNm, hTp, hDd, hIm, hCh, hBd, hTr, hSh⟩
  have hn := hv.1
  have one : ¬ (1 : Int32) = 0 := by decide
  by_cases h : oOk x (vn v)
  · have hv1 := vOr_ok hv h
    refine ⟨fun y I' L' => 1 = y ∧ L = L' ∧ ∃ I2, (∀ a b, a ≠ 5 → a ≠ 6 → a ≠ 8 → I2 a b = I a b) ∧ cG (vOr v x) I2 ∧ cF (vOr v x) I2 ∧ xI (cSt (vOr v x) I2) 20 4 0 = I', ?_, ?_⟩
    · refine t_X8_order ⟨2, fun y I' L' => 1 = y ∧ L = L' ∧ (∀ a b, a ≠ 5 → a ≠ 6 → a ≠ 8 → I' a b = I a b) ∧ cG (vOr v x) I' ∧ cF (vOr v x) I', by decide, cTurnAs hv hG (Nat.le_refl 2) (fun z => absurd h z) (fun _ J I' q1 q2 => ⟨rfl, rfl, fun a b w1 w2 w3 => (q2.2.1 a b w2 w3).trans (q1 a b w1), q2.2.2.1, q2.2.2.2⟩), ?_⟩
      rintro _ I2 _ ⟨rfl, rfl, g1, g2, g3⟩
      refine ⟨fun _ => ⟨2, _, by decide, cStartNew hv1 g2 (Nat.le_refl 2), ?_⟩, fun c => absurd c one⟩
      rintro _ _ ⟨rfl, rfl⟩
      exact ⟨rfl, rfl, I2, g1, g2, g3, rfl⟩
    · rintro _ _ _ ⟨rfl, rfl, I2, g1, g2, g3, rfl⟩
      have k1 : ∀ a b, ¬ (a = 20 ∧ b < 5) → xI (cSt (vOr v x) I2) 20 4 0 a b = I2 a b := fun a b q => by rw [xI_ne (by omega), cSt_ne (by omega)]
      have k2 : ∀ a b, a ≠ 5 → a ≠ 6 → a ≠ 8 → ¬ (a = 20 ∧ b < 5) → xI (cSt (vOr v x) I2) 20 4 0 a b = I a b := fun a b q1 q2 q3 q4 => (k1 a b q4).trans (g1 a b q1 q2 q3)
      have hMk : mG v (xI (cSt (vOr v x) I2) 20 4 0) := hM.off (k2 _ _ (by omega) (by omega) (by omega) (by omega)) (k2 _ _ (by omega) (by omega) (by omega) (by omega)) (fun a b _ => k2 _ _ (by omega) (by omega) (by omega) (by omega))
      refine t_X9_order ?_
      rw [hMk.1, ← nI_0]
      refine cOrd_12 hv hMk (by decide) (fun z => absurd h z) (fun _ J q1 q2 => ⟨rfl, ?_⟩) (vn v) 0 _ (by omega) (fun j hj => absurd hj (Nat.not_lt_zero j)) (fun _ _ _ => rfl) (fun k hk hkn => absurd hkn (by omega))
      have f0 := mFirst hv1 q2
      have m1 : ∀ a b, (a = 44 → b ≠ 33 ∧ b ≠ 34 ∧ b ≠ 35 ∧ b ≠ 36) → mSt (vOr v x) (xI J 44 36 0) a b = J a b := fun a b w => by rw [mSt_ne (by omega), xI_ne (by omega)]
      have m2 : ∀ a b, (a = 44 → b ≠ 33 ∧ b ≠ 34 ∧ b ≠ 35 ∧ b ≠ 36) → a ≠ 49 → a ≠ 50 → a ≠ 52 → mSt (vOr v x) (xI J 44 36 0) a b = xI (cSt (vOr v x) I2) 20 4 0 a b := fun a b w w1 w2 w3 => (m1 a b w).trans (q1 a b w1 w2 w3)
      have off : ∀ a b, a ≠ 5 → a ≠ 6 → a ≠ 8 → ¬ (a = 20 ∧ b < 5) → (a = 44 → b ≠ 33 ∧ b ≠ 34 ∧ b ≠ 35 ∧ b ≠ 36) → a ≠ 49 → a ≠ 50 → a ≠ 52 → mSt (vOr v x) (xI J 44 36 0) a b = I a b := fun a b w1 w2 w3 w4 w w5 w6 w7 => (m2 a b w w5 w6 w7).trans (k2 a b w1 w2 w3 w4)
      have off9 : ∀ a b, 9 ≤ a → ¬ (a = 20 ∧ b < 5) → (a = 44 → b ≠ 33 ∧ b ≠ 34 ∧ b ≠ 35 ∧ b ≠ 36) → a ≠ 49 → a ≠ 50 → a ≠ 52 → mSt (vOr v x) (xI J 44 36 0) a b = I a b := fun a b w1 w4 w w5 w6 w7 => off a b (by omega) (by omega) (by omega) w4 w w5 w6 w7
      have nm : rNum v o (mSt (vOr v x) (xI J 44 36 0)) := hNm.off (off9 _ _ (by omega) (by omega) (by omega) (by omega) (by omega) (by omega)) (fun b => off9 _ _ (by omega) (by omega) (by omega) (by omega) (by omega) (by omega))
      refine ⟨vOr v x, o, nb, hv1, g2.off (fun a b w1 w2 => (m2 a b (by omega) (by omega) (by omega) (by omega)).trans (k1 a b (by omega))), g3.off (fun b => (m2 8 b (by omega) (by omega) (by omega) (by omega)).trans (k1 8 b (by omega))), q2.off (m1 _ _ (by omega)) (m1 _ _ (by omega)) (fun a b w => m1 _ _ (by omega)),
        hLw.off (off9 _ _ (by omega) (by omega) (by omega) (by omega) (by omega) (by omega)) (fun b => off9 _ _ (by omega) (by omega) (by omega) (by omega) (by omega) (by omega)) (off9 _ _ (by omega) (by omega) (by omega) (by omega) (by omega) (by omega)) (fun b => off9 _ _ (by omega) (by omega) (by omega) (by omega) (by omega) (by omega)), ?_,
        hTp.off (off9 _ _ (by omega) (by omega) (by omega) (by omega) (by omega) (by omega)) (off9 _ _ (by omega) (by omega) (by omega) (by omega) (by omega) (by omega)) (fun a b w => off9 _ _ (by omega) (by omega) (by omega) (by omega) (by omega) (by omega)),
        ⟨_, 0, _, dStart hv1, ?_, ?_, ?_, rfl, rfl, ?_⟩, Or.inl ⟨?_, ?_⟩,
        hCh.off (Nat.le_refl _) (off9 _ _ (by omega) (by omega) (by omega) (by omega) (by omega) (by omega)) (off9 _ _ (by omega) (by omega) (by omega) (by omega) (by omega) (by omega)) (off9 _ _ (by omega) (by omega) (by omega) (by omega) (by omega) (by omega)) (off9 _ _ (by omega) (by omega) (by omega) (by omega) (by omega) (by omega)) (fun a b w => off9 _ _ (by omega) (by omega) (by omega) (by omega) (by omega) (by omega)),
        hBd.off (off9 _ _ (by omega) (by omega) (by omega) (by omega) (by omega) (by omega)) (off9 _ _ (by omega) (by omega) (by omega) (by omega) (by omega) (by omega)) (fun a b w => off9 _ _ (by omega) (by omega) (by omega) (by omega) (by omega) (by omega)),
        hTr.off (off9 _ _ (by omega) (by omega) (by omega) (by omega) (by omega) (by omega)) (off9 _ _ (by omega) (by omega) (by omega) (by omega) (by omega) (by omega)) (fun a b w => off9 _ _ (by omega) (by omega) (by omega) (by omega) (by omega) (by omega)),
        hSh.off (Nat.le_refl _) (fun a b w => off9 _ _ (by omega) (by omega) (by omega) (by omega) (by omega) (by omega)) (fun _ _ _ => rfl)⟩
      · cases o with
        | none => exact nm
        | some f => exact nm
      · rw [m2 20 0 (by omega) (by omega) (by omega) (by omega), xI_ne (by omega)]; rfl
      · rw [m2 20 1 (by omega) (by omega) (by omega) (by omega), xI_ne (by omega)]; rfl
      · rw [m2 20 2 (by omega) (by omega) (by omega) (by omega), xI_ne (by omega)]; rfl
      · rw [← f0]
        show xI J 44 36 0 49 0 = _
        exact xI_ne (by omega)
      · rw [m2 20 4 (by omega) (by omega) (by omega) (by omega)]; exact xI_eq
      · rw [mSt_ne (by omega)]; exact xI_eq
  · refine ⟨zE (-1) I L, ?_, ?_⟩
    · refine t_X8_order ⟨2, zE 0 I L, by decide, cTurnAs hv hG (Nat.le_refl 2) (fun _ => zE.of rfl) (fun z => absurd z h), ?_⟩
      rintro _ _ _ ⟨rfl, rfl, rfl⟩
      exact ⟨fun c => absurd rfl c, fun _ => zE.of rfl⟩
    · rintro _ _ _ ⟨rfl, rfl, rfl⟩
      refine t_X9_order ?_
      rw [hM.1, ← nI_0]
      refine cOrd_12 hv hM (by decide) (fun _ J q => ⟨rfl, v, o, nb, hv, hG.off (fun a b w1 w2 => q _ _ (by omega)), hF.off (fun b => q _ _ (by omega)), hM.off (q _ _ (by omega)) (q _ _ (by omega)) (fun a b w => q _ _ (by omega)), hLw.off (q _ _ (by omega)) (fun b => q _ _ (by omega)) (q _ _ (by omega)) (fun b => q _ _ (by omega)), hNm.off (q _ _ (by omega)) (fun b => q _ _ (by omega)), hTp.off (q _ _ (by omega)) (q _ _ (by omega)) (fun a b w => q _ _ (by omega)), hDd.off (fun b w => q _ _ (by omega)) (fun b w1 w2 => q _ _ (by omega)), hIm.off (fun b w1 w2 => q _ _ (by omega)) (fun b w1 w2 => q _ _ (by omega)), hCh.off (Nat.le_refl _) (q _ _ (by omega)) (q _ _ (by omega)) (q _ _ (by omega)) (q _ _ (by omega)) (fun a b w => q _ _ (by omega)), hBd.off (q _ _ (by omega)) (q _ _ (by omega)) (fun a b w => q _ _ (by omega)), hTr.off (q _ _ (by omega)) (q _ _ (by omega)) (fun a b w => q _ _ (by omega)), hSh.off (Nat.le_refl _) (fun a b w => q _ _ (by omega)) (fun _ _ _ => rfl)⟩) (fun z => absurd z h) (vn v) 0 I (by omega) (fun j hj => absurd hj (Nat.not_lt_zero j)) (fun _ _ _ => rfl) (fun k hk hkn => absurd hkn (by omega))
end PO2
