/-! ===== specs: numbers, sets, the players' view ===== -/
theorem nI_add1 (a : Nat) : nI a + 1 = nI (a + 1) := nI_add a 1
theorem nI_mul (a b : Nat) : nI a * nI b = nI (a * b) := by unfold nI; rw [Int32.ofNat_mul]
theorem nI_sub {a b : Nat} (h : b ≤ a) : nI a - nI b = nI (a - b) := by
  have e : nI a = nI (a - b) + nI b := by rw [nI_add, Nat.sub_add_cancel h]
  rw [e, Int32.add_sub_cancel]
theorem nI_lit (n : Nat) : (OfNat.ofNat n : Int32) = nI n := rfl
theorem nI_inj {a b : Nat} (ha : a < 2 ^ 31) (hb : b < 2 ^ 31) (h : nI a = nI b) : a = b := by
  have h1 := nI_toInt ha
  rw [h, nI_toInt hb] at h1
  omega
theorem nI_le_iff {a b : Nat} (ha : a < 2 ^ 31) (hb : b < 2 ^ 31) : nI a ≤ nI b ↔ a ≤ b := by
  rw [Int32.le_iff_toInt_le, nI_toInt ha, nI_toInt hb]; omega
theorem nI_lt_iff {a b : Nat} (ha : a < 2 ^ 31) (hb : b < 2 ^ 31) : nI a < nI b ↔ a < b := by
  rw [Int32.lt_iff_toInt_lt, nI_toInt ha, nI_toInt hb]; omega
theorem nI_eq_iff {a b : Nat} (ha : a < 2 ^ 31) (hb : b < 2 ^ 31) : nI a = nI b ↔ a = b := ⟨nI_inj ha hb, fun h => by rw [h]⟩
theorem nI_ne2 {a : Nat} (ha : a < 1000000) : ¬ nI a = (-2 : Int32) := by
  intro h
  have h1 := nI_toInt (n := a) (by omega)
  rw [h] at h1
  have h2 : (-2 : Int32).toInt = -2 := by decide
  omega
/-- an int that lies within, by its number -/
theorem nI_within {x : Int32} {n : Nat} (h0 : ¬ x < 0) (h1 : ¬ nI n ≤ x) (hn : n < 2 ^ 31) : ∃ k, k < n ∧ x = nI k := by
  have a : (0 : Int) ≤ x.toInt := by
    have := Int32.not_lt.mp h0
    simpa using Int32.le_iff_toInt_le.mp this
  have b : x.toInt < (n : Int) := by
    have := Int32.not_le.mp h1
    rw [Int32.lt_iff_toInt_lt, nI_toInt hn] at this
    exact this
  refine ⟨x.toInt.toNat, by omega, ?_⟩
  apply Int32.toInt_inj.mp
  rw [nI_toInt (by omega)]
  omega
/-! sets of players: numbers below 16 -/
def bIn (s p : Nat) : Bool := s.testBit p
def bDel (s p : Nat) : Nat := if s.testBit p then s - 2 ^ p else s
def bPop (s : Nat) : Nat := (if s.testBit 0 then 1 else 0) + (if s.testBit 1 then 1 else 0) + (if s.testBit 2 then 1 else 0) + (if s.testBit 3 then 1 else 0)
def bAll (n : Nat) : Nat := 2 ^ n - 1
theorem b_in : ∀ s, s < 16 → ∀ p, p < 4 → (((nI s >>> (nI p &&& 31)) &&& 1) = 0 ↔ bIn s p = false) := by decide +kernel
theorem b_in1 : ∀ s, s < 16 → ∀ p, p < 4 → (((nI s >>> (nI p &&& 31)) &&& 1) = 1 ↔ bIn s p = true) := by decide +kernel
theorem b_inv : ∀ s, s < 16 → ∀ p, p < 4 → ((nI s >>> (nI p &&& 31)) &&& 1) = (if bIn s p then 1 else 0) := by decide +kernel
theorem b_del : ∀ s, s < 16 → ∀ p, p < 4 → nI s &&& ((1 <<< (nI p &&& 31)) ^^^ (-1)) = nI (bDel s p) := by decide +kernel
theorem b_del_lt : ∀ s, s < 16 → ∀ p, p < 4 → bDel s p < 16 := by decide +kernel
theorem b_del_in : ∀ s, s < 16 → ∀ p, p < 4 → ∀ q, q < 4 → bIn (bDel s p) q = (bIn s q && decide (q ≠ p)) := by decide +kernel
theorem b_all : ∀ n, n < 5 → ((1 : Int32) <<< (nI n &&& 31)) - 1 = nI (bAll n) := by decide +kernel
theorem b_all_lt : ∀ n, n < 5 → bAll n < 16 := by decide +kernel
theorem b_all_in : ∀ n, n < 5 → ∀ p, p < 4 → bIn (bAll n) p = decide (p < n) := by decide +kernel
theorem b_del0 : ∀ s, s < 16 → ∀ p, p < 4 → (nI (bDel s p) = 0 ↔ bDel s p = 0) := by decide +kernel
theorem b_ne_at : ∀ s, s < 16 → s ≠ 0 → bIn s 0 = true ∨ bIn s 1 = true ∨ bIn s 2 = true ∨ bIn s 3 = true := by decide +kernel
theorem b_pop_le : ∀ s, s < 16 → bPop s ≤ 4 := by decide +kernel
theorem b_16 : ∀ p, p < 4 → ∀ s, s < 16 → (nI p * 16) + nI s = nI (16 * p + s) := by decide +kernel
/-! the players, as both sides hold them: number, HITS, WAYS, whom TOLD, the ORDER, places in it, BELL, PRIZES -/
abbrev Vw : Type := Nat × (Nat → Nat) × (Nat → Nat) × (Nat → Nat) × (Nat → Nat) × (Nat → Nat) × Nat × (Nat → Nat)
def vn (v : Vw) : Nat := v.1
def vH (v : Vw) : Nat → Nat := v.2.1
def vY (v : Vw) : Nat → Nat := v.2.2.1
def vT (v : Vw) : Nat → Nat := v.2.2.2.1
def vO (v : Vw) : Nat → Nat := v.2.2.2.2.1
def vP (v : Vw) : Nat → Nat := v.2.2.2.2.2.1
def vB (v : Vw) : Nat := v.2.2.2.2.2.2.1
def vZ (v : Vw) : Nat → Nat := v.2.2.2.2.2.2.2
def vOk (v : Vw) : Prop := vn v ≤ 4 ∧ vB v ≤ 9 ∧ (∀ p, p < 4 → vH v p ≤ 12 ∧ vY v p ≤ 5 ∧ vT v p ≤ 3) ∧ (∀ k, k < 4 → vO v k < 4 ∧ vP v k < 4) ∧ (∀ k, k < vn v → vO v k < vn v ∧ vP v (vO v k) = k) ∧ (∀ p, p < vn v → vP v p < vn v ∧ vO v (vP v p) = p) ∧ (∀ m, m < 5 → vZ v m ≤ 9) ∧ (∀ p, vn v ≤ p → vT v p = 0)
/-- the class holds them so (all but FOLLOWERS) -/
def cG (v : Vw) (I : zIM) : Prop := I 1 6 = nI (vn v) ∧ I 1 7 = nI (vB v) ∧ (∀ p, p < 4 → I 2 p = nI (vH v p)) ∧ (∀ p, p < 4 → I 3 p = nI (vY v p)) ∧ (∀ p, p < 4 → I 4 p = nI (vT v p)) ∧ (∀ k, k < 4 → I 5 k = nI (vO v k)) ∧ (∀ p, p < vn v → I 6 p = nI (vP v p)) ∧ (∀ m, m < 5 → I 7 m = nI (vZ v m))
/-- the first in the ORDER, from place k on, who is in s; 0 -/
def sFirst (v : Vw) (s : Nat) : Nat → Nat → Nat
  | 0, _ => 0
  | f + 1, k => if bIn s (vO v k) then vO v k else sFirst v s f (k + 1)
def vFirst (v : Vw) (s : Nat) : Nat := sFirst v s (vn v) 0
/-- who follows: from place k on behind p's, f more to look at -/
def sFol (v : Vw) (p s : Nat) : Nat → Nat → Nat
  | 0, _ => p
  | f + 1, k => if bIn s (vO v ((vP v p + k) % vn v)) then vO v ((vP v p + k) % vn v) else sFol v p s f (k + 1)
def vFol (v : Vw) (p s : Nat) : Nat := sFol v p s (vn v) 1
def cF (v : Vw) (I : zIM) : Prop := ∀ p, p < vn v → ∀ s, s < 16 → I 8 (16 * p + s) = nI (vFol v p s)
theorem sFirst_lt {v : Vw} (hv : vOk v) (s : Nat) : ∀ f k, f + k = vn v → sFirst v s f k < 4 ∧ (0 < vn v → sFirst v s f k < vn v)
  | 0, k, h => ⟨Nat.zero_lt_succ 3, fun h => h⟩
  | f + 1, k, h => by
    unfold sFirst
    split
    · exact ⟨(hv.2.2.2.1 k (by have := hv.1; omega)).1, fun _ => (hv.2.2.2.2.1 k (by omega)).1⟩
    · exact sFirst_lt hv s f (k + 1) (by omega)
theorem sFol_lt {v : Vw} (hv : vOk v) {p : Nat} (hp : p < vn v) (s : Nat) : ∀ f k, sFol v p s f k < vn v
  | 0, k => hp
  | f + 1, k => by
    unfold sFol
    split
    · exact (hv.2.2.2.2.1 _ (Nat.mod_lt _ (by omega))).1
    · exact sFol_lt hv hp s f (k + 1)
