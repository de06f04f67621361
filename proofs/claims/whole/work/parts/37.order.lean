/-! ===== public call: order ===== -/
def oX (x : Int32) : Nat → Int32
  | 0 => x
  | i + 1 => oX x i / 10
/-- the i-th digit from behind, as a player -/
def oD (x : Int32) (i : Nat) : Int32 := oX x i % 10 - 1
def oN (x : Int32) (i : Nat) : Nat := (oD x i).toInt.toNat
def bAdd (s p : Nat) : Nat := s ||| 2 ^ p
/-- who are named by the first i digits -/
def oS (x : Int32) : Nat → Nat
  | 0 => 0
  | i + 1 => bAdd (oS x i) (oN x i)
def oGo (x : Int32) (n i : Nat) : Prop := iP (oD x i) n ∧ bIn (oS x i) (oN x i) = false
def oOk (x : Int32) (n : Nat) : Prop := (∀ i, i < n → oGo x n i) ∧ oX x n = 0
theorem b_add : ∀ s, s < 16 → ∀ p, p < 4 → nI s ||| ((1 : Int32) <<< (nI p &&& 31)) = nI (bAdd s p) := by decide +kernel
theorem b_add_lt : ∀ s, s < 16 → ∀ p, p < 4 → bAdd s p < 16 := by decide +kernel
theorem b_add_in : ∀ s, s < 16 → ∀ p, p < 4 → ∀ q, q < 4 → bIn (bAdd s p) q = (bIn s q || decide (q = p)) := by decide +kernel
theorem b_add_pop : ∀ s, s < 16 → ∀ p, p < 4 → bIn s p = false → bPop (bAdd s p) = bPop s + 1 := by decide +kernel
theorem b_full4 : ∀ n, n < 5 → ∀ s, s < 16 → ∀ p, p < 4 → (((!bIn s 0 || decide (0 < n)) && (!bIn s 1 || decide (1 < n)) && (!bIn s 2 || decide (2 < n)) && (!bIn s 3 || decide (3 < n)) && decide (bPop s = n)) = true → (!decide (p < n) || bIn s p) = true) := by decide +kernel
theorem b_full (n : Nat) (hn : n < 5) (s : Nat) (hs : s < 16) (h : ∀ p, p < 4 → bIn s p = true → p < n) (hp : bPop s = n) : ∀ p, p < 4 → p < n → bIn s p = true := by
  intro p hp4 hpn
  have k : ∀ p, p < 4 → (!bIn s p || decide (p < n)) = true := fun p hp => by
    cases hb : bIn s p with
    | false => rfl
    | true => rw [decide_eq_true (h p hp hb)]; rfl
  have r := b_full4 n hn s hs p hp4 (by rw [k 0 (by omega), k 1 (by omega), k 2 (by omega), k 3 (by omega), decide_eq_true hp]; rfl)
  rw [decide_eq_true hpn] at r
  exact r
theorem oN_of {x : Int32} {n i : Nat} (hn : n ≤ 4) (h : iP (oD x i) n) : oN x i < n ∧ oD x i = nI (oN x i) := by
  obtain ⟨k, hk, e⟩ := h
  have : oN x i = k := by unfold oN; rw [e, nI_toInt (by omega)]; rfl
  rw [this]
  exact ⟨hk, e⟩
/-- the sets named so far -/
theorem oS_ok {x : Int32} {n : Nat} (hn : n ≤ 4) : ∀ i, (∀ j, j < i → oGo x n j) → oS x i < 16 ∧ bPop (oS x i) = i ∧ ∀ p, p < 4 → (bIn (oS x i) p = true ↔ ∃ j, j < i ∧ oN x j = p)
  | 0, _ => by
    refine ⟨(show 0 < 16 by omega), (by decide : bPop 0 = 0), fun p _ => ⟨fun h => ?_, fun ⟨j, hj, _⟩ => absurd hj (Nat.not_lt_zero j)⟩⟩
    have e : bIn 0 p = false := Nat.zero_testBit p
    exact absurd (e.symm.trans h) (by decide)
  | i + 1, h => by
    obtain ⟨a, b, c⟩ := oS_ok hn i fun j hj => h j (by omega)
    obtain ⟨g1, g2⟩ := h i (Nat.lt_succ_self i)
    obtain ⟨e1, e2⟩ := oN_of hn g1
    refine ⟨b_add_lt _ a _ (by omega), (b_add_pop _ a _ (by omega) g2).trans (by rw [b]), fun p hp => ?_⟩
    show bIn (bAdd (oS x i) (oN x i)) p = true ↔ _
    rw [b_add_in _ a _ (by omega) p hp, Bool.or_eq_true, decide_eq_true_eq, c p hp]
    constructor
    · rintro (⟨j, hj, e⟩ | e)
      · exact ⟨j, by omega, e⟩
      · exact ⟨i, by omega, e.symm⟩
    · rintro ⟨j, hj, e⟩
      by_cases hji : j = i
      · subst hji; exact Or.inr e.symm
      · exact Or.inl ⟨j, by omega, e⟩
/-- the new ORDER -/
def oO (v : Vw) (x : Int32) : Nat → Nat := fun k => if k < vn v then oN x (vn v - 1 - k) else vO v k
def oP (v : Vw) (x : Int32) : Nat → Nat := fun p => if p < vn v then (if oO v x 0 = p then 0 else if oO v x 1 = p then 1 else if oO v x 2 = p then 2 else 3) else vP v p
def vOr (v : Vw) (x : Int32) : Vw := (vn v, vH v, vY v, vT v, oO v x, oP v x, vB v, vZ v)
theorem oO_lt {v : Vw} {x : Int32} (hv : vOk v) (h : oOk x (vn v)) {k : Nat} (hk : k < vn v) : oO v x k < vn v := by
  unfold oO
  rw [if_pos hk]
  exact (oN_of hv.1 (h.1 _ (by omega)).1).1
theorem oO_ne {v : Vw} {x : Int32} (hv : vOk v) (h : oOk x (vn v)) {k j : Nat} (hk : k < vn v) (hj : j < k) : oO v x j ≠ oO v x k := by
  have hn := hv.1
  intro e
  unfold oO at e
  rw [if_pos hk, if_pos (by omega)] at e
  have hlt := (oN_of hn (h.1 (vn v - 1 - j) (by omega)).1).1
  have hg := (h.1 (vn v - 1 - j) (by omega)).2
  have hs := oS_ok hn (vn v - 1 - j) fun i hi => h.1 i (by omega)
  have := (hs.2.2 (oN x (vn v - 1 - j)) (by omega)).mpr ⟨vn v - 1 - k, by omega, e.symm⟩
  rw [hg] at this
  cases this
theorem oO_at {v : Vw} {x : Int32} (hv : vOk v) (h : oOk x (vn v)) {p : Nat} (hp : p < vn v) : ∃ k, k < vn v ∧ oO v x k = p := by
  have hn := hv.1
  have hs := oS_ok hn (vn v) h.1
  have hb := b_full (vn v) (by omega) (oS x (vn v)) hs.1 (fun q hq hi => by
    obtain ⟨j, hj, e⟩ := (hs.2.2 q hq).mp hi
    rw [← e]
    exact (oN_of hn (h.1 j hj).1).1) hs.2.1 p (by omega) hp
  obtain ⟨j, hj, e⟩ := (hs.2.2 p (by omega)).mp hb
  refine ⟨vn v - 1 - j, by omega, ?_⟩
  unfold oO
  rw [if_pos (by omega), show vn v - 1 - (vn v - 1 - j) = j by omega]
  exact e
theorem oP_at {v : Vw} {x : Int32} (hv : vOk v) (h : oOk x (vn v)) {k : Nat} (hk : k < vn v) : oP v x (oO v x k) = k := by
  have hn := hv.1
  have hne : ∀ j, j < k → oO v x j ≠ oO v x k := fun j hj => oO_ne hv h hk hj
  unfold oP
  rw [if_pos (oO_lt hv h hk)]
  rcases (by omega : k = 0 ∨ k = 1 ∨ k = 2 ∨ k = 3) with rfl | rfl | rfl | rfl
  · rw [if_pos rfl]
  · rw [if_neg (hne 0 (by omega)), if_pos rfl]
  · rw [if_neg (hne 0 (by omega)), if_neg (hne 1 (by omega)), if_pos rfl]
  · rw [if_neg (hne 0 (by omega)), if_neg (hne 1 (by omega)), if_neg (hne 2 (by omega))]
theorem vOr_ok {v : Vw} {x : Int32} (hv : vOk v) (h : oOk x (vn v)) : vOk (vOr v x) := by
  obtain ⟨a, b, c, e, f, g, i, j⟩ := id hv
  refine ⟨a, b, c, fun k hk => ⟨?_, ?_⟩, fun k hk => ⟨oO_lt hv h hk, oP_at hv h hk⟩, fun p hp => ?_, i, j⟩
  · show oO v x k < 4
    by_cases hkn : k < vn v
    · have := oO_lt hv h hkn; omega
    · unfold oO; rw [if_neg hkn]; exact (e k hk).1
  · show oP v x k < 4
    unfold oP
    split
    · split
      · omega
      · split
        · omega
        · split <;> omega
    · exact (e k hk).2
  · obtain ⟨k, hk, rfl⟩ := oO_at hv h hp
    show oP v x (oO v x k) < vn v ∧ oO v x (oP v x (oO v x k)) = _
    rw [oP_at hv h hk]
    exact ⟨hk, rfl⟩
