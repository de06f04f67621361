/-! ===== public call: seen ===== -/
def pw (b : Int64) : Nat → Int64
  | 0 => 1
  | k + 1 => pw b k * b
/-- how likely a of a + c, by h of twelve, times a constant -/
def sT (a c h : Nat) : Int64 := pw (nI h).toInt64 a * pw ((12 : Int32) - nI h).toInt64 c
/-- the likeliest, from h on -/
def sSn (a c : Nat) : Nat → Nat → Int32 → Int64 → Int32
  | 0, _, b, _ => b
  | f + 1, h, b, m => if sT a c h ≤ m then sSn a c f (h + 1) b m else sSn a c f (h + 1) (nI h) (sT a c h)
theorem l_of : ∀ b, b < 13 → (nI b).toInt64 = lN b := by decide +kernel
section PE
variable {l : Launch} {G : zG}
theorem cPower_5 {d k : Nat} {I : zIM} {L : zLM} {b : Int32} (hk : k < 1000) : ∀ f i, f + i = k → K_X8_power_5 l G d (zE (pw b.toInt64 k) I L) I L b (nI k) (pw b.toInt64 i) (nI i)
  | 0, i, h => by
    obtain rfl : i = k := by omega
    exact t_X8_power_5 ⟨fun _ => zE.of rfl, fun c => absurd (nI_le (Nat.le_refl _) (by omega)) c⟩
  | f + 1, i, h => by
    refine t_X8_power_5 ⟨fun c => absurd c (nI_ge (by omega) (by omega)), fun _ => ?_⟩
    rw [nI_1]
    exact cPower_5 hk f (i + 1) (by omega)
theorem cPower {d k : Nat} {I : zIM} {L : zLM} (b : Int32) (hk : k < 1000) : zCl l G d mX8_power [.int b, .int (nI k)] I L (zE (pw b.toInt64 k) I L) := by
  have h := cPower_5 (l := l) (G := G) (d := d) (I := I) (L := L) (b := b) hk k 0 (by omega)
  rw [nI_0] at h
  exact t_X8_power h
theorem cSeen8 {d a b : Nat} {I : zIM} {L : zLM} (hab : a ≤ b) (hb : b ≤ 12) (hd : 1 ≤ d) : ∀ f h (x : Int32) (m : Int64), f + h = 13 → K_X8_seen_29 l G d (zE (sSn a (b - a) f h x m) I L) I L (nI a) (nI b) x m (nI h)
  | 0, h, x, m, hf => by
    refine t_X8_seen_29 ⟨fun _ => zE.of rfl, fun c => absurd ?_ c⟩
    obtain rfl : h = 13 := by omega
    decide
  | f + 1, h, x, m, hf => by
    refine t_X8_seen_29 ⟨fun c => ?_, fun _ => ⟨0, _, hd, cPower (nI h) (by omega), ?_⟩⟩
    · have := (nI_lt_iff (a := 12) (by omega) (by omega)).mp c
      omega
    · rintro _ _ _ ⟨rfl, rfl, rfl⟩
      rw [nI_sub hab]
      refine ⟨0, _, hd, cPower ((12 : Int32) - nI h) (by omega), ?_⟩
      rintro _ _ _ ⟨rfl, rfl, rfl⟩
      rw [nI_1]
      refine ⟨fun c => ?_, fun c => ?_⟩
      · rw [show sSn a (b - a) (f + 1) h x m = sSn a (b - a) f (h + 1) x m from if_pos c]
        exact cSeen8 hab hb hd f (h + 1) x m (by omega)
      · rw [show sSn a (b - a) (f + 1) h x m = sSn a (b - a) f (h + 1) (nI h) (sT a (b - a) h) from if_neg c]
        exact cSeen8 hab hb hd f (h + 1) _ _ (by omega)
/-- the product of the first i -/
def sPr (a h i : Nat) : Int64 := if i ≤ a then pw (nI h).toInt64 i else pw (nI h).toInt64 a * pw ((12 : Int32) - nI h).toInt64 (i - a)
theorem sPr_end {a b h : Nat} (hab : a ≤ b) : sPr a h b = sT a (b - a) h := by
  unfold sPr sT
  split
  · rename_i h2
    obtain rfl : a = b := by omega
    rw [Nat.sub_self]
    show _ = _ * 1
    rw [Int64.mul_one]
  · rfl
theorem cSeen9_48 {d a b h : Nat} {I : zIM} {L : zLM} {P : Int32 → zIM → zLM → Prop} {x : Int32} {m : Int64} (hab : a ≤ b) (hb : b ≤ 12) (h1 : sT a (b - a) h ≤ m → K_X9_seen_35 l G d P I L (nI a) (nI b) x m (nI (h + 1))) (h2 : ¬ sT a (b - a) h ≤ m → K_X9_seen_35 l G d P I L (nI a) (nI b) (nI h) (sT a (b - a) h) (nI (h + 1))) : ∀ f i, f + i = b → K_X9_seen_48 l G d P I L (nI a) (nI b) x m (nI h) (sPr a h i) (nI i)
  | 0, i, hf => by
    obtain rfl : i = b := by omega
    rw [sPr_end hab]
    refine t_X9_seen_48 ⟨fun _ => ⟨fun c => ⟨fun _ => ?_, fun z => absurd c z⟩, fun c => ⟨fun z => absurd z c, fun _ => ?_⟩⟩, fun c => absurd (nI_le (Nat.le_refl _) (by omega)) c⟩
    · rw [nI_1]; exact h1 c
    · rw [nI_1]; exact h2 c
  | f + 1, i, hf => by
    refine t_X9_seen_48 ⟨fun c => absurd c (nI_ge (by omega) (by omega)), fun _ => ⟨fun c => ?_, fun c => ?_⟩⟩
    · have hai := (nI_le_iff (by omega) (by omega)).mp c
      rw [nI_1, show sPr a h i * ((12 : Int32) - nI h).toInt64 = sPr a h (i + 1) from ?_]
      · exact cSeen9_48 hab hb h1 h2 f (i + 1) (by omega)
      · unfold sPr
        by_cases e : i = a
        · subst e
          rw [if_pos (Nat.le_refl i), if_neg (show ¬ i + 1 ≤ i by omega), show i + 1 - i = 0 + 1 by omega]
          show _ = _ * (1 * _)
          rw [Int64.one_mul]
        · rw [if_neg (show ¬ i ≤ a by omega), if_neg (show ¬ i + 1 ≤ a by omega), show i + 1 - a = (i - a) + 1 by omega]
          show _ = _ * (_ * _)
          rw [Int64.mul_assoc]
    · have hai : ¬ a ≤ i := fun z => c (nI_le z (by omega))
      rw [nI_1, show sPr a h i * (nI h).toInt64 = sPr a h (i + 1) from ?_]
      · exact cSeen9_48 hab hb h1 h2 f (i + 1) (by omega)
      · unfold sPr
        rw [if_pos (by omega), if_pos (by omega)]
        rfl
theorem cSeen9 {d a b : Nat} {I : zIM} {L : zLM} {P : Int32 → zIM → zLM → Prop} (hab : a ≤ b) (hb : b ≤ 12) : ∀ f h (x : Int32) (m : Int64), f + h = 13 → P (sSn a (b - a) f h x m) I L → K_X9_seen_35 l G d P I L (nI a) (nI b) x m (nI h)
  | 0, h, x, m, hf, hP => by
    refine t_X9_seen_35 ⟨fun _ => hP, fun c => absurd ?_ c⟩
    obtain rfl : h = 13 := by omega
    decide
  | f + 1, h, x, m, hf, hP => by
    refine t_X9_seen_35 ⟨fun c => ?_, fun _ => ?_⟩
    · have := (nI_lt_iff (a := 12) (by omega) (by omega)).mp c
      omega
    · have g := cSeen9_48 (l := l) (G := G) (d := d) (I := I) (L := L) (P := P) (h := h) (x := x) (m := m) hab hb
        (fun c => cSeen9 hab hb f (h + 1) x m (by omega) (by rw [show sSn a (b - a) (f + 1) h x m = sSn a (b - a) f (h + 1) x m from if_pos c] at hP; exact hP))
        (fun c => cSeen9 hab hb f (h + 1) _ _ (by omega) (by rw [show sSn a (b - a) (f + 1) h x m = sSn a (b - a) f (h + 1) (nI h) (sT a (b - a) h) from if_neg c] at hP; exact hP)) b 0 (by omega)
      rw [show sPr a h 0 = 1 from if_pos (Nat.zero_le _), nI_0] at g
      exact g
theorem s_seen (x1 x2 : Int32) : zStep l G mX8_seen mX9_seen [.int x1, .int x2] := by
  intro I L hR
  have one : ¬ (1 : Int32) = 0 := by decide
  by_cases h2 : iN x2 0 12
  · obtain ⟨b, -, hb, rfl⟩ := id h2
    by_cases h1 : iN x1 0 b
    · obtain ⟨a, -, ha, rfl⟩ := id h1
      refine ⟨zE (sSn a (b - a) 13 0 0 (-1)) I L, ?_, ?_⟩
      · refine t_X8_seen ⟨0, _, by decide, cWithin8 (nI b) 12 (by omega), ?_⟩
        rintro y _ _ ⟨hy, rfl, rfl⟩
        obtain rfl := zB_t hy h2
        refine ⟨fun c => absurd c one, fun _ => ⟨0, _, by decide, cWithin8 (nI a) b (by omega), ?_⟩⟩
        rintro y _ _ ⟨hy, rfl, rfl⟩
        obtain rfl := zB_t hy h1
        refine ⟨fun _ => ?_, fun c => absurd c one⟩
        have g := cSeen8 (l := l) (G := G) (d := 900) (I := I) (L := L) ha hb (by decide) 13 0 0 (-1) (by omega)
        rw [nI_0] at g
        exact g
      · rintro _ _ _ ⟨rfl, rfl, rfl⟩
        refine t_X9_seen ⟨0, _, by decide, cWithin9 (nI b) 0 12 (by omega) (by omega), ?_⟩
        rintro y _ _ ⟨hy, rfl, rfl⟩
        obtain rfl := zB_t hy h2
        rw [l_of b (by omega)]
        refine ⟨fun c => absurd c one, fun _ => ⟨0, _, by decide, cWithin9 (nI a) 0 b (by omega) (by omega), ?_⟩⟩
        rintro y _ _ ⟨hy, rfl, rfl⟩
        obtain rfl := zB_t hy h1
        refine ⟨fun _ => ?_, fun c => absurd c one⟩
        have g := cSeen9 (l := l) (G := G) (d := 900) (I := I) (L := L) (P := fun y2 I2 L2 => sSn a (b - a) 13 0 0 (-1) = y2 ∧ Rel I2 L2) ha hb 13 0 0 (-1) (by omega) ⟨rfl, hR⟩
        rw [nI_0] at g
        exact g
    · refine ⟨zE (-1) I L, ?_, ?_⟩
      · refine t_X8_seen ⟨0, _, by decide, cWithin8 (nI b) 12 (by omega), ?_⟩
        rintro y _ _ ⟨hy, rfl, rfl⟩
        obtain rfl := zB_t hy h2
        refine ⟨fun c => absurd c one, fun _ => ⟨0, _, by decide, cWithin8 x1 b (by omega), ?_⟩⟩
        rintro y _ _ ⟨hy, rfl, rfl⟩
        obtain rfl := zB_f hy h1
        exact ⟨fun c => absurd rfl c, fun _ => zE.of rfl⟩
      · rintro _ _ _ ⟨rfl, rfl, rfl⟩
        refine t_X9_seen ⟨0, _, by decide, cWithin9 (nI b) 0 12 (by omega) (by omega), ?_⟩
        rintro y _ _ ⟨hy, rfl, rfl⟩
        obtain rfl := zB_t hy h2
        rw [l_of b (by omega)]
        refine ⟨fun c => absurd c one, fun _ => ⟨0, _, by decide, cWithin9 x1 0 b (by omega) (by omega), ?_⟩⟩
        rintro y _ _ ⟨hy, rfl, rfl⟩
        obtain rfl := zB_f hy h1
        exact ⟨fun c => absurd rfl c, fun _ => ⟨rfl, hR⟩⟩
  · refine ⟨zE (-1) I L, ?_, ?_⟩
    · refine t_X8_seen ⟨0, _, by decide, cWithin8 x2 12 (by omega), ?_⟩
      rintro y _ _ ⟨hy, rfl, rfl⟩
      obtain rfl := zB_f hy h2
      exact ⟨fun _ => zE.of rfl, fun c => absurd rfl c⟩
    · rintro _ _ _ ⟨rfl, rfl, rfl⟩
      refine t_X9_seen ⟨0, _, by decide, cWithin9 x2 0 12 (by omega) (by omega), ?_⟩
      rintro y _ _ ⟨hy, rfl, rfl⟩
      obtain rfl := zB_f hy h2
      exact ⟨fun _ => ⟨rfl, hR⟩, fun c => absurd rfl c⟩
end PE
