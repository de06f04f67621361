/-! ===== helpers: within, isPlayer, isIn; the deed's start ===== -/
theorem cG.off {v : Vw} {I I' : zIM} (h : cG v I) (ho : ∀ a b, 1 ≤ a → a ≤ 8 → I' a b = I a b) : cG v I' := by
  obtain ⟨a, b, c, d, e, f, i, g⟩ := h
  exact ⟨(ho 1 6 (by decide) (by decide)).trans a, (ho 1 7 (by decide) (by decide)).trans b, fun p hp => (ho 2 p (by decide) (by decide)).trans (c p hp), fun p hp => (ho 3 p (by decide) (by decide)).trans (d p hp), fun p hp => (ho 4 p (by decide) (by decide)).trans (e p hp), fun p hp => (ho 5 p (by decide) (by decide)).trans (f p hp), fun p hp => (ho 6 p (by decide) (by decide)).trans (i p hp), fun p hp => (ho 7 p (by decide) (by decide)).trans (g p hp)⟩
theorem cF.off {v : Vw} {I I' : zIM} (h : cF v I) (ho : ∀ b, I' 8 b = I 8 b) : cF v I' := fun p hp s hs => (ho _).trans (h p hp s hs)
/-- answers 1 or 0, whether p; changes nothing -/
def zB (p : Prop) (I : zIM) (L : zLM) : Int32 → zIM → zLM → Prop := fun y I' L' => (y = 1 ∧ p ∨ y = 0 ∧ ¬ p) ∧ I = I' ∧ L = L'
theorem zB.y {p : Prop} {I : zIM} {L : zLM} (h : p) : zB p I L 1 I L := ⟨Or.inl ⟨rfl, h⟩, rfl, rfl⟩
theorem zB.n {p : Prop} {I : zIM} {L : zLM} (h : ¬ p) : zB p I L 0 I L := ⟨Or.inr ⟨rfl, h⟩, rfl, rfl⟩
def iN (x : Int32) (a b : Nat) : Prop := ∃ k, a ≤ k ∧ k ≤ b ∧ x = nI k
theorem iN_iff {x : Int32} {a b : Nat} (hb : b < 2 ^ 31) : iN x a b ↔ ((a : Int) ≤ x.toInt ∧ x.toInt ≤ (b : Int)) := by
  constructor
  · rintro ⟨k, h1, h2, rfl⟩
    rw [nI_toInt (by omega)]
    omega
  · rintro ⟨h1, h2⟩
    refine ⟨x.toInt.toNat, by omega, by omega, ?_⟩
    apply Int32.toInt_inj.mp
    rw [nI_toInt (by omega)]
    omega
theorem i64_lt {x : Int32} {k : Nat} (hk : k < 2 ^ 31) : (x.toInt64 < lN k ↔ x.toInt < (k : Int)) ∧ (lN k < x.toInt64 ↔ (k : Int) < x.toInt) := by
  rw [Int64.lt_iff_toInt_lt, Int64.lt_iff_toInt_lt, Int32.toInt_toInt64, lN_toInt hk]
  exact ⟨Iff.rfl, Iff.rfl⟩
section HP
variable {l : Launch} {G : zG} {d : Nat} {I : zIM} {L : zLM} {v : Vw}
theorem cWithin8 (x : Int32) (n : Nat) (hn : n < 2 ^ 31) : zCi l G d mX8_isWithin [.int x, .int (nI n)] I L (zB (iN x 0 n) I L) := by
  have e0 : x < 0 ↔ x.toInt < 0 := by rw [Int32.lt_iff_toInt_lt, Int32.toInt_zero]
  have e1 : nI n < x ↔ (n : Int) < x.toInt := by rw [Int32.lt_iff_toInt_lt, nI_toInt hn]
  refine t_X8_isWithin ⟨fun c => zB.n ?_, fun c => ⟨fun c2 => zB.n ?_, fun c2 => zB.y ?_⟩⟩
  · rw [iN_iff hn]; rw [e0] at c; omega
  · rw [iN_iff hn]; rw [e1] at c2; omega
  · rw [iN_iff hn]; rw [e0] at c; rw [e1] at c2; omega
theorem cWithin9 (x : Int32) (a b : Nat) (ha : a < 2 ^ 31) (hb : b < 2 ^ 31) : zCi l G d mX9_within [.long (x.toInt64), .long (lN a), .long (lN b)] I L (zB (iN x a b) I L) := by
  refine t_X9_within ⟨fun c => zB.n ?_, fun c => ⟨fun c2 => zB.n ?_, fun c2 => zB.y ?_⟩⟩
  · rw [iN_iff hb]; rw [(i64_lt ha).1] at c; omega
  · rw [iN_iff hb]; rw [(i64_lt hb).2] at c2; omega
  · rw [iN_iff hb]; rw [(i64_lt ha).1] at c; rw [(i64_lt hb).2] at c2; omega
/-- a player's number -/
def iP (x : Int32) (n : Nat) : Prop := ∃ k, k < n ∧ x = nI k
theorem iP_iff {x : Int32} {n : Nat} (hn : n < 2 ^ 31) : iP x n ↔ (0 ≤ x.toInt ∧ x.toInt < (n : Int)) := by
  constructor
  · rintro ⟨k, h1, rfl⟩
    rw [nI_toInt (by omega)]
    omega
  · rintro ⟨h1, h2⟩
    refine ⟨x.toInt.toNat, by omega, ?_⟩
    apply Int32.toInt_inj.mp
    rw [nI_toInt (by omega)]
    omega
theorem nI_m1 (n : Nat) (hn : n < 5) : (nI n - 1).toInt = (n : Int) - 1 := by
  revert n
  decide +kernel
theorem cIsPlayer9 (x : Int32) {n : Nat} (hn : n ≤ 4) (h : I 44 6 = nI n) (hd : 1 ≤ d) : zCi l G d mX9_isPlayer [.ref 44, .int x] I L (zB (iP x n) I L) := by
  have e0 : (x.toInt64 < 0 ↔ x.toInt < 0) := by rw [Int64.lt_iff_toInt_lt, Int32.toInt_toInt64, Int64.toInt_zero]
  have e1 : ((nI n - 1).toInt64 < x.toInt64 ↔ (n : Int) - 1 < x.toInt) := by rw [Int64.lt_iff_toInt_lt, Int32.toInt_toInt64, Int32.toInt_toInt64, nI_m1 n (by omega)]
  refine t_X9_isPlayer ⟨0, zB (iP x n) I L, hd, ?_, ?_⟩
  · rw [h]
    refine t_X9_within ⟨fun c => zB.n ?_, fun c => ⟨fun c2 => zB.n ?_, fun c2 => zB.y ?_⟩⟩
    · rw [iP_iff (by omega)]; rw [e0] at c; omega
    · rw [iP_iff (by omega)]; rw [e1] at c2; omega
    · rw [iP_iff (by omega)]; rw [e0] at c; rw [e1] at c2; omega
  · rintro y _ _ ⟨hy, rfl, rfl⟩
    exact ⟨hy.elim (fun z => Or.inr z.1) (fun z => Or.inl z.1), hy, rfl, rfl⟩
theorem cHasB (x : Int32) (hv : vOk v) (hG : cG v I) : zCi l G d mX2_has [.ref 1, .int x] I L (zB (iP x (vn v)) I L) := by
  have hn := hv.1
  have e0 : x < 0 ↔ x.toInt < 0 := by rw [Int32.lt_iff_toInt_lt, Int32.toInt_zero]
  have e1 : nI (vn v) ≤ x ↔ (vn v : Int) ≤ x.toInt := by rw [Int32.le_iff_toInt_le, nI_toInt (by omega)]
  refine t_X2_has ⟨fun c => zB.n ?_, fun c => ⟨fun c2 => zB.n ?_, fun c2 => zB.y ?_⟩⟩
  · rw [iP_iff (by omega)]; rw [e0] at c; omega
  · rw [iP_iff (by omega)]; rw [hG.1, e1] at c2; omega
  · rw [iP_iff (by omega)]; rw [e0] at c; rw [hG.1, e1] at c2; omega
theorem cIsIn9 {s p : Nat} (hs : s < 16) (hp : p < 4) : zCi l G d mX9_isIn [.int (nI s), .int (nI p)] I L (zB (bIn s p = true) I L) :=
  t_X9_isIn ⟨fun c => zB.n fun h => c ((b_in1 s hs p hp).mpr h), fun c => zB.y ((b_in1 s hs p hp).mp c)⟩
theorem cAll9 {n : Nat} (hn : n ≤ 4) (h : I 44 6 = nI n) : zCi l G d mX9_all [.ref 44] I L (zE (nI (bAll n)) I L) :=
  t_X9_all (zE.of (by rw [h]; exact b_all n (by omega)))
/-- the deed begins: the class's cells -/
def cSt (v : Vw) (I : zIM) : zIM := xI (xI (xI I 20 0 (nI (bAll (vn v)))) 20 1 0) 20 2 (nI (vFirst v (bAll (vn v))))
def zU (I' : zIM) (L : zLM) : zIM → zLM → Prop := fun I2 L2 => I' = I2 ∧ L = L2
theorem cStart (hv : vOk v) (hG : cG v I) (hd : 1 ≤ d) : zCv l G d mX1_start [.ref 20] I L (zU (cSt v I) L) := by
  have hn := hv.1
  refine t_X1_start ⟨0, _, hd, cAll hv hG, ?_⟩
  rintro _ _ _ ⟨rfl, rfl, rfl⟩
  refine ⟨0, _, hd, cFirst hv (hG.off fun a b h1 h8 => ?_) (b_all_lt _ (by omega)), ?_⟩
  · rw [xI_ne (by omega), xI_ne (by omega)]
  · rintro _ _ _ ⟨rfl, rfl, rfl⟩
    exact ⟨rfl, rfl⟩
theorem cStartNew (hv : vOk v) (hG : cG v I) (hd : 2 ≤ d) : zCv l G d mX1_startForNewGroup [.ref 20] I L (zU (xI (cSt v I) 20 4 0) L) := by
  refine t_X1_startForNewGroup ⟨1, _, hd, cStart hv hG (Nat.le_refl 1), ?_⟩
  rintro _ _ ⟨rfl, rfl⟩
  exact ⟨rfl, rfl⟩
/-- the same, the reference's cells -/
def mSt (v : Vw) (I : zIM) : zIM := xI (xI (xI I 44 33 (nI (bAll (vn v)))) 44 34 (I 49 0)) 44 35 0
theorem cStartsAnew9 (hv : vOk v) (h : I 44 6 = nI (vn v)) (hd : 1 ≤ d) : zCv l G d mX9_startsAnew [.ref 44] I L (zU (mSt v (xI I 44 36 0)) L) := by
  refine t_X9_startsAnew ⟨0, _, hd, cAll9 hv.1 ((xI_ne (by omega)).trans h), ?_⟩
  rintro _ _ _ ⟨rfl, rfl, rfl⟩
  exact ⟨rfl, rfl⟩
end HP
