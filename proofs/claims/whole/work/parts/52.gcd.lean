/-! ===== lowest terms ===== -/
theorem l_mod {a b : Nat} (ha : a < 2 ^ 62) (hb : b < 2 ^ 62) : lN a % lN b = lN (a % b) := (Int64.ofNat_mod (by omega) (by omega)).symm
theorem l_nz {b : Nat} (h0 : 0 < b) (hb : b < 2 ^ 62) : ¬ lN b = 0 := by
  intro h
  have e := pk_lT (n := b) (by omega)
  rw [h, Int64.toInt_zero] at e
  omega
theorem l_gcd (a b : Nat) : Nat.gcd a b = Nat.gcd b (a % b) := by
  rw [Nat.gcd_comm a b, Nat.gcd_rec b a, Nat.gcd_comm]
/-- part 0 above, 1 below the line -/
def sPrt (A B : Nat) (part : Int32) : Int64 := if part = 0 then lN A / lN (Nat.gcd A B) else lN B / lN (Nat.gcd A B)
theorem l_max1 {g : Nat} (h0 : 0 < g) (hg : g < 2 ^ 62) : (if (1 : Int64) < lN g then lN g else (1 : Int64)) = lN g := by
  by_cases h : 1 < g
  · have e : (1 : Int64) < lN g := by
      rw [Int64.lt_iff_toInt_lt, pk_lT (by omega), show (1 : Int64).toInt = 1 from by decide]
      omega
    rw [if_pos e]
  · obtain rfl : g = 1 := by omega
    decide
theorem l_half {a b k : Nat} (hb : 0 < b) (h : b < 2 ^ (k + 1)) (h0 : 0 < a % b) : b % (a % b) < 2 ^ k := by
  have h1 := Nat.mod_lt a hb
  have h2 := Nat.mod_lt b h0
  have h3 : b % (a % b) + (a % b) ≤ b := by
    have := Nat.div_add_mod b (a % b)
    have h4 : 1 ≤ b / (a % b) := (Nat.one_le_div_iff h0).mpr (by omega)
    have h5 : a % b * 1 ≤ (a % b) * (b / (a % b)) := Nat.mul_le_mul_left _ h4
    omega
  rw [Nat.pow_succ] at h
  omega
section LW
variable {l : Launch} {G : zG} {d : Nat} {I : zIM} {L : zLM}
theorem cLow_9 {A B : Nat} {part : Int32} {P : Int64 → zIM → zLM → Prop} (hA : A < 2 ^ 62) (hB : B < 2 ^ 62) (hB0 : 0 < B) (hP : P (sPrt A B part) I L) (hd : 1 ≤ d) : ∀ k a b i, b < 2 ^ k → a < 2 ^ 62 → b < 2 ^ 62 → i + 2 * k ≤ 100 → Nat.gcd a b = Nat.gcd A B → K_X8_lowest_9 l G d P I L (lN A) (lN B) part (lN a) (lN b) (nI i) := by
  have hg0 : 0 < Nat.gcd A B := Nat.gcd_pos_of_pos_right _ hB0
  have fin : ∀ a i, Nat.gcd a 0 = Nat.gcd A B → K_X8_lowest_9 l G d P I L (lN A) (lN B) part (lN a) (lN 0) (nI i) := by
    intro a i e
    rw [Nat.gcd_zero_right] at e
    have hle : Nat.gcd A B ≤ B := Nat.gcd_le_right _ hB0
    have E : ((¬ part = 0 → ((¬ (if (1 : Int64) < lN a then lN a else (1 : Int64)) = 0) ∧ (P (lN B / (if (1 : Int64) < lN a then lN a else (1 : Int64))) I L))) ∧ (part = 0 → ((¬ (if (1 : Int64) < lN a then lN a else (1 : Int64)) = 0) ∧ (P (lN A / (if (1 : Int64) < lN a then lN a else (1 : Int64))) I L)))) := by
      rw [e, l_max1 hg0 (by omega)]
      unfold sPrt at hP
      refine ⟨fun c => ⟨l_nz hg0 (by omega), ?_⟩, fun c => ⟨l_nz hg0 (by omega), ?_⟩⟩
      · rw [if_neg c] at hP
        exact hP
      · rw [if_pos c] at hP
        exact hP
    exact t_X8_lowest_9 hd ⟨fun _ => E, fun _ => ⟨fun _ => E, fun c => absurd rfl c⟩⟩
  intro k
  induction k with
  | zero =>
    intro a b i hb ha hb2 hi e
    obtain rfl : b = 0 := by
      rw [Nat.pow_zero] at hb
      omega
    exact fin a i e
  | succ k ih =>
    intro a b i hb ha hb2 hi e
    by_cases h0 : b = 0
    · subst h0
      exact fin a i e
    · refine t_X8_lowest_9 hd ⟨fun c => absurd c (nI_ge (b := 100) (by omega) (by omega)), fun _ => ⟨fun c => absurd c (l_nz (by omega) hb2), fun _ => ⟨l_nz (by omega) hb2, ?_⟩⟩⟩
      rw [l_mod ha hb2, nI_1]
      have h1 := Nat.mod_lt a (show 0 < b by omega)
      rw [l_gcd] at e
      by_cases h2 : a % b = 0
      · rw [h2] at e ⊢
        exact fin b (i + 1) e
      · refine t_X8_lowest_9 hd ⟨fun c => absurd c (nI_ge (b := 100) (by omega) (by omega)), fun _ => ⟨fun c => absurd c (l_nz (by omega) (by omega)), fun _ => ⟨l_nz (by omega) (by omega), ?_⟩⟩⟩
        rw [l_mod hb2 (by omega), nI_1]
        have h3 := Nat.mod_lt b (show 0 < a % b by omega)
        exact ih (a % b) (b % (a % b)) (i + 1 + 1) (l_half (by omega) hb (by omega)) (by omega) (by omega) (by omega) (by rw [← l_gcd]; exact e)
theorem cLowest {A B : Nat} {part : Int32} (hA : A < 2 ^ 48) (hB : B < 2 ^ 48) (hB0 : 0 < B) (hd : 1 ≤ d) : zCl l G d mX8_lowest [.long (lN A), .long (lN B), .int part] I L (zE (sPrt A B part) I L) :=
  t_X8_lowest (cLow_9 (by omega) (by omega) hB0 (zE.of rfl) hd 48 A B 0 hB (by omega) (by omega) (by omega) rfl)
theorem mCommon_6 {P : Int64 → zIM → zLM → Prop} {g : Nat} (hP : P (lN g) I L) : ∀ n a b, b ≤ n → a < 2 ^ 62 → b < 2 ^ 62 → Nat.gcd a b = g → K_X9_common_6 l G d P I L (lN a) (lN b)
  | 0, a, b, hb, ha, hb2, e => by
    obtain rfl : b = 0 := by omega
    rw [Nat.gcd_zero_right] at e
    subst e
    exact t_X9_common_6 ⟨fun _ => hP, fun c => absurd rfl c⟩
  | n + 1, a, b, hb, ha, hb2, e => by
    by_cases h0 : b = 0
    · subst h0
      rw [Nat.gcd_zero_right] at e
      subst e
      exact t_X9_common_6 ⟨fun _ => hP, fun c => absurd rfl c⟩
    · have h1 := Nat.mod_lt a (show 0 < b by omega)
      refine t_X9_common_6 ⟨fun c => absurd c (l_nz (by omega) hb2), fun _ => ⟨l_nz (by omega) hb2, ?_⟩⟩
      rw [l_mod ha hb2]
      rw [l_gcd] at e
      exact mCommon_6 hP n b (a % b) (by omega) hb2 (by omega) e
theorem mCommon {A B : Nat} (hA : A < 2 ^ 62) (hB : B < 2 ^ 62) : zCl l G d mX9_common [.long (lN A), .long (lN B)] I L (zE (lN (Nat.gcd A B)) I L) :=
  t_X9_common (mCommon_6 (zE.of rfl) B A B (Nat.le_refl _) hA hB rfl)
theorem pow12 : ∀ k, k ≤ 9 → 12 ^ k < 2 ^ 34 ∧ 0 < 12 ^ k ∧ zPOW k = lN (12 ^ k) := by decide +kernel
theorem l_self : ∀ k, k ≤ 9 → zPOW k / zPOW k = 1 := by decide +kernel
theorem mPartOf {k A : Nat} {part : Int32} (hb : I 44 9 = nI k) (hk : k ≤ 9) (hp : L 56 k = zPOW k) (hA : A < 2 ^ 48) (hpart : part = 0 ∨ part = 1) (hd : 1 ≤ d) : zCl l G d mX9_partOf [.ref 44, .long (lN A), .int part] I L (zE (sPrt A (12 ^ k) part) I L) := by
  obtain ⟨p1, p2, p3⟩ := pow12 k hk
  have hg0 : 0 < Nat.gcd A (12 ^ k) := Nat.gcd_pos_of_pos_right _ p2
  have hle : Nat.gcd A (12 ^ k) ≤ 12 ^ k := Nat.gcd_le_right _ p2
  refine t_X9_partOf ⟨fun c => ⟨k, hb, by omega, ?_⟩, fun c => zE.of ?_⟩
  · rw [hp, p3]
    refine bL 0 (mCommon (by omega) (by omega)) (by omega) ⟨fun c2 => ⟨k, hb, by omega, l_nz hg0 (by omega), zE.of ?_⟩, fun c2 => ⟨l_nz hg0 (by omega), zE.of ?_⟩⟩
    · rw [hp, p3, sPrt, if_neg c2]
    · rw [sPrt, if_pos c2]
  · have e : A = 0 := by
      by_cases h : A = 0
      · exact h
      · exact absurd c (l_nz (by omega) (by omega))
    subst e
    unfold sPrt
    rw [Nat.gcd_zero_left, ← p3, l_self k hk]
    rcases hpart with rfl | rfl
    · rw [if_pos rfl, show lN 0 = 0 from by decide, Int64.zero_div]
      decide
    · rw [if_neg i1_0]
      decide
end LW
