/-! ===== the relation between the class's cells (0 .. 43) and the reference's (44 .. 68) ===== -/
/-- THE LAW: none, or in how many of twelve it hits: h a t m n -/
abbrev Lw : Type := Option (Nat → Nat → Nat → Nat → Nat → Nat)
def rLaw (o : Lw) (I : zIM) : Prop := match o with
  | none => I 9 6 = 0 ∧ I 44 15 = -1
  | some f => (∃ n, 0 < n ∧ n < 1000 ∧ I 9 6 = nI n) ∧ (∃ n, n ≤ 120 ∧ I 44 15 = nI n) ∧ (∀ h a t m n, f h a t m n ≤ 12) ∧
    (∀ (l : Launch) (G : zG) (d : Nat) (I' : zIM) (L' : zLM), 3 ≤ d → I' 9 6 = I 9 6 → (∀ b, I' 12 b = I 12 b) → ∀ h a t m n, h ≤ 12 → a < 4 → t < 4 → m ≤ 4 → n ≤ 9 →
      zCi l G d mX3_number [.ref 9, .int (nI h), .int (nI a), .int (nI t), .int (nI m), .int (nI n)] I' L' (fun y I2 L2 => nI (f h a t m n) = y ∧ L' = L2 ∧ ∀ x b, x ≠ 13 → (x = 9 → b ≠ 8) → I2 x b = I' x b)) ∧
    (∀ (l : Launch) (G : zG) (d : Nat) (I' : zIM) (L' : zLM), 100 ≤ d → I' 44 15 = I 44 15 → (∀ b, I' 54 b = I 54 b) → ∀ h a t m n, h ≤ 12 → I' 45 a = nI h → a < 4 → t < 4 → m ≤ 4 → n ≤ 9 →
      zCi l G d mX9_hitsOf [.ref 44, .int (nI a), .int (nI t), .int (nI m), .int (nI n)] I' L' (fun y I2 L2 => nI (f h a t m n) = y ∧ L' = L2 ∧ ∀ x b, x ≠ 55 → (x = 44 → b < 16 ∨ 20 < b) → I2 x b = I' x b))
/-- in how many of twelve a throws so at b, m being in, behind t throws -/
def sNum (v : Vw) (o : Lw) (t m a b : Nat) : Nat := match o with
  | none => vH v a
  | some f => f (vH v a) a b m t
theorem sNum_le {v : Vw} {o : Lw} {I : zIM} (hv : vOk v) (h : rLaw o I) {t m a b : Nat} (ha : a < 4) : sNum v o t m a b ≤ 12 := by
  cases o with
  | none => exact (hv.2.2.1 a ha).1
  | some f => exact h.2.2.1 _ _ _ _ _
/-- the class's table of THE LAW's numbers, if it stands -/
def rNum (v : Vw) (o : Lw) (I : zIM) : Prop := I 14 8 = 0 ∨ (I 14 8 = 1 ∧ ∀ t, t < 9 → ∀ m, 2 ≤ m → m ≤ vn v → ∀ a, a < vn v → ∀ b, b < vn v → I 19 (((t * 5 + m) * 4 + a) * 4 + b) = nI (sNum v o t m a b))
/-- the reference holds the players so -/
def mG (v : Vw) (I : zIM) : Prop := I 44 6 = nI (vn v) ∧ I 44 9 = nI (vB v) ∧ (∀ p, p < 4 → I 45 p = nI (vH v p)) ∧ (∀ p, p < 4 → I 45 (4 + p) = nI (vY v p)) ∧ (∀ p, p < 4 → I 45 (8 + p) = nI (vT v p)) ∧ (∀ k, k < vn v → I 49 k = nI (vO v k)) ∧ (∀ p, p < vn v → I 50 p = nI (vP v p)) ∧ (∀ m, m < 5 → I 51 m = nI (vZ v m)) ∧ (vn v = 0 → I 49 0 = 0)
/-- THE TAPE -/
def rTp (I : zIM) : Prop := ∃ n, n ≤ 120 ∧ I 9 0 = nI n ∧ I 44 13 = nI n ∧ ∀ i, i < n → ∃ k, k ≤ 255 ∧ I 10 i = nI k ∧ I 53 i = nI k
/-- where a FIGHT in deed may stand -/
def dOk (v : Vw) (s t w : Nat) : Prop := s < 16 ∧ (∀ p, bIn s p = true → p < vn v) ∧ t ≤ 9 ∧ w < 4 ∧ (0 < vn v → w < vn v) ∧ (2 ≤ bPop s → bIn s w = true)
def rDd (v : Vw) (I : zIM) : Prop := ∃ s t w, dOk v s t w ∧ I 20 0 = nI s ∧ I 20 1 = nI t ∧ I 20 2 = nI w ∧ I 44 33 = nI s ∧ I 44 35 = nI t ∧ I 44 34 = nI w
def rIm (v : Vw) (I : zIM) : Prop := (I 20 4 = 0 ∧ I 44 36 = 0) ∨ (I 20 4 = 1 ∧ I 44 36 = 1 ∧ ∃ s t w, dOk v s t w ∧ I 20 5 = nI s ∧ I 20 6 = nI t ∧ I 20 7 = nI w ∧ I 44 37 = nI s ∧ I 44 39 = nI t ∧ I 44 38 = nI w)
/-- the greatest that HITS, WAY, whom TOLD may be -/
def gMax (w : Nat) : Nat := if w = 0 then 12 else if w = 1 then 5 else 3
def rCh (v : Vw) (I : zIM) : Prop := ∃ dn kp, dn ≤ kp ∧ kp ≤ 40 ∧ I 22 4 = nI dn ∧ I 44 5 = nI dn ∧ I 22 5 = nI kp ∧ I 44 4 = nI kp ∧
  ∀ i, i < kp → ∃ p w b c, p < vn v ∧ w ≤ 2 ∧ b ≤ gMax w ∧ c ≤ gMax w ∧ I 23 i = nI p ∧ I 24 i = nI w ∧ I 25 i = nI b ∧ I 26 i = nI c ∧ I 46 i = nI (4 * w + p) ∧ I 47 i = nI b ∧ I 48 i = nI c
def rBd (n : Nat) (I : zIM) : Prop := n ≤ 50 ∧ I 27 1 = nI n ∧ I 44 40 = nI n ∧ ∀ i, i < n → ∃ k, k < 8 ∧ I 28 i = nI k ∧ I 63 i = nI k
def rTr (I : zIM) : Prop := ∃ n, n < 1000 ∧ I 27 3 = nI n ∧ I 44 43 = nI n ∧ ∀ i, i < n → i < 24 → I 29 i = I 64 i
/-- a SHELF: nothing, a THROWER, a ROW -/
def rS1 (nb d : Nat) (I : zIM) (L : zLM) : Prop :=
  (I (31 + 2 * d) 0 = -2 ∧ I 65 d = -1) ∨
  (∃ b, b < nb ∧ I (31 + 2 * d) 0 = -1 ∧ I (31 + 2 * d) 1 = nI b ∧ I 65 d = nI b) ∨
  (∃ s n, s < 5 ∧ n ≤ 60 ∧ I (31 + 2 * d) 0 = nI s ∧ I (31 + 2 * d) 2 = nI n ∧ I 65 d = nI (50 + s) ∧ I 66 d = nI n ∧ ∀ i, i < n → L (32 + 2 * d) i = L 67 (60 * d + i))
def rSh (nb : Nat) (I : zIM) (L : zLM) : Prop := ∀ d, d < 6 → rS1 nb d I L
def Rel (I : zIM) (L : zLM) : Prop := ∃ (v : Vw) (o : Lw) (nb : Nat), vOk v ∧ cG v I ∧ cF v I ∧ mG v I ∧ rLaw o I ∧ rNum v o I ∧ rTp I ∧ rDd v I ∧ rIm v I ∧ rCh v I ∧ rBd nb I ∧ rTr I ∧ rSh nb I L
/-! each part stays, where its cells stay -/
theorem rLaw.off {o : Lw} {I I' : zIM} (h : rLaw o I) (h1 : I' 9 6 = I 9 6) (h2 : ∀ b, I' 12 b = I 12 b) (h3 : I' 44 15 = I 44 15) (h4 : ∀ b, I' 54 b = I 54 b) : rLaw o I' := by
  cases o with
  | none => exact ⟨h1.trans h.1, h3.trans h.2⟩
  | some f =>
    obtain ⟨⟨n1, a1, a2, a3⟩, ⟨n2, b1, b2⟩, c, e, g⟩ := h
    exact ⟨⟨n1, a1, a2, h1.trans a3⟩, ⟨n2, b1, h3.trans b2⟩, c, fun l G d J K hd q1 q2 => e l G d J K hd (q1.trans h1) (fun b => (q2 b).trans (h2 b)), fun l G d J K hd q1 q2 => g l G d J K hd (q1.trans h3) (fun b => (q2 b).trans (h4 b))⟩
theorem rNum.off {v : Vw} {o : Lw} {I I' : zIM} (h : rNum v o I) (h1 : I' 14 8 = I 14 8) (h2 : ∀ b, I' 19 b = I 19 b) : rNum v o I' := by
  rcases h with h | ⟨h, k⟩
  · exact Or.inl (h1.trans h)
  · exact Or.inr ⟨h1.trans h, fun t ht m h2m hm a ha b hb => (h2 _).trans (k t ht m h2m hm a ha b hb)⟩
theorem mG.off {v : Vw} {I I' : zIM} (h : mG v I) (h1 : I' 44 6 = I 44 6) (h2 : I' 44 9 = I 44 9) (ho : ∀ a b, (a = 45 ∨ a = 49 ∨ a = 50 ∨ a = 51) → I' a b = I a b) : mG v I' := by
  obtain ⟨a, b, c, d, e, f, i, g, j⟩ := h
  exact ⟨h1.trans a, h2.trans b, fun p hp => (ho 45 _ (by omega)).trans (c p hp), fun p hp => (ho 45 _ (by omega)).trans (d p hp), fun p hp => (ho 45 _ (by omega)).trans (e p hp), fun p hp => (ho 49 _ (by omega)).trans (f p hp), fun p hp => (ho 50 _ (by omega)).trans (i p hp), fun p hp => (ho 51 _ (by omega)).trans (g p hp), fun hn => (ho 49 _ (by omega)).trans (j hn)⟩
theorem rTp.off {I I' : zIM} (h : rTp I) (h1 : I' 9 0 = I 9 0) (h2 : I' 44 13 = I 44 13) (ho : ∀ a b, (a = 10 ∨ a = 53) → I' a b = I a b) : rTp I' := by
  obtain ⟨n, a, b, c, d⟩ := h
  refine ⟨n, a, h1.trans b, h2.trans c, fun i hi => ?_⟩
  obtain ⟨k, q1, q2, q3⟩ := d i hi
  exact ⟨k, q1, (ho 10 _ (by omega)).trans q2, (ho 53 _ (by omega)).trans q3⟩
theorem rDd.off {v : Vw} {I I' : zIM} (h : rDd v I) (h1 : ∀ b, b < 3 → I' 20 b = I 20 b) (h2 : ∀ b, 33 ≤ b → b ≤ 35 → I' 44 b = I 44 b) : rDd v I' := by
  obtain ⟨s, t, w, k, a, b, c, d, e, f⟩ := h
  exact ⟨s, t, w, k, (h1 0 (by omega)).trans a, (h1 1 (by omega)).trans b, (h1 2 (by omega)).trans c, (h2 33 (by omega) (by omega)).trans d, (h2 35 (by omega) (by omega)).trans e, (h2 34 (by omega) (by omega)).trans f⟩
theorem rIm.off {v : Vw} {I I' : zIM} (h : rIm v I) (h1 : ∀ b, 4 ≤ b → b ≤ 7 → I' 20 b = I 20 b) (h2 : ∀ b, 36 ≤ b → b ≤ 39 → I' 44 b = I 44 b) : rIm v I' := by
  rcases h with ⟨a, b⟩ | ⟨a, b, s, t, w, k, c1, c2, c3, c4, c5, c6⟩
  · exact Or.inl ⟨(h1 4 (by omega) (by omega)).trans a, (h2 36 (by omega) (by omega)).trans b⟩
  · exact Or.inr ⟨(h1 4 (by omega) (by omega)).trans a, (h2 36 (by omega) (by omega)).trans b, s, t, w, k, (h1 5 (by omega) (by omega)).trans c1, (h1 6 (by omega) (by omega)).trans c2, (h1 7 (by omega) (by omega)).trans c3, (h2 37 (by omega) (by omega)).trans c4, (h2 39 (by omega) (by omega)).trans c5, (h2 38 (by omega) (by omega)).trans c6⟩
theorem rCh.off {v v' : Vw} {I I' : zIM} (h : rCh v I) (hn : vn v ≤ vn v') (h1 : I' 22 4 = I 22 4) (h2 : I' 22 5 = I 22 5) (h3 : I' 44 4 = I 44 4) (h4 : I' 44 5 = I 44 5) (ho : ∀ a b, ((23 ≤ a ∧ a ≤ 26) ∨ (46 ≤ a ∧ a ≤ 48)) → I' a b = I a b) : rCh v' I' := by
  obtain ⟨dn, kp, a, b, c, d, e, f, g⟩ := h
  refine ⟨dn, kp, a, b, h1.trans c, h4.trans d, h2.trans e, h3.trans f, fun i hi => ?_⟩
  obtain ⟨p, w, x, y, q0, q1, q2, q3, q4, q5, q6, q7, q8, q9, q10⟩ := g i hi
  exact ⟨p, w, x, y, by omega, q1, q2, q3, (ho 23 _ (by omega)).trans q4, (ho 24 _ (by omega)).trans q5, (ho 25 _ (by omega)).trans q6, (ho 26 _ (by omega)).trans q7, (ho 46 _ (by omega)).trans q8, (ho 47 _ (by omega)).trans q9, (ho 48 _ (by omega)).trans q10⟩
theorem rBd.off {n : Nat} {I I' : zIM} (h : rBd n I) (h1 : I' 27 1 = I 27 1) (h2 : I' 44 40 = I 44 40) (ho : ∀ a b, (a = 28 ∨ a = 63) → I' a b = I a b) : rBd n I' := by
  obtain ⟨a, b, c, d⟩ := h
  refine ⟨a, h1.trans b, h2.trans c, fun i hi => ?_⟩
  obtain ⟨k, q1, q2, q3⟩ := d i hi
  exact ⟨k, q1, (ho 28 _ (by omega)).trans q2, (ho 63 _ (by omega)).trans q3⟩
theorem rTr.off {I I' : zIM} (h : rTr I) (h1 : I' 27 3 = I 27 3) (h2 : I' 44 43 = I 44 43) (ho : ∀ a b, (a = 29 ∨ a = 64) → I' a b = I a b) : rTr I' := by
  obtain ⟨n, a, b, c, d⟩ := h
  exact ⟨n, a, h1.trans b, h2.trans c, fun i hi h24 => by rw [ho 29 _ (by omega), ho 64 _ (by omega)]; exact d i hi h24⟩
theorem rSh.off {nb nb' : Nat} {I I' : zIM} {L L' : zLM} (h : rSh nb I L) (hn : nb ≤ nb') (ho : ∀ a b, ((31 ≤ a ∧ a ≤ 42) ∨ a = 65 ∨ a = 66) → I' a b = I a b) (hL : ∀ a b, ((31 ≤ a ∧ a ≤ 42) ∨ a = 67) → L' a b = L a b) : rSh nb' I' L' := by
  intro d hd
  rcases h d hd with ⟨a, b⟩ | ⟨b, a1, a2, a3, a4⟩ | ⟨s, n, a1, a2, a3, a4, a5, a6, a7⟩
  · exact Or.inl ⟨(ho _ _ (by omega)).trans a, (ho _ _ (by omega)).trans b⟩
  · exact Or.inr (Or.inl ⟨b, by omega, (ho _ _ (by omega)).trans a2, (ho _ _ (by omega)).trans a3, (ho _ _ (by omega)).trans a4⟩)
  · exact Or.inr (Or.inr ⟨s, n, a1, a2, (ho _ _ (by omega)).trans a3, (ho _ _ (by omega)).trans a4, (ho _ _ (by omega)).trans a5, (ho _ _ (by omega)).trans a6, fun i hi => by rw [hL _ _ (by omega), hL _ _ (by omega)]; exact a7 i hi⟩)
/-- a public call: both sides answer alike, and the relation stays; ar: the arguments behind the object -/
def zStep (l : Launch) (G : zG) (Mc Mm : zM) (ar : List Value) : Prop := ∀ (I : zIM) (L : zLM), Rel I L → ∃ P : Int32 → zIM → zLM → Prop, zCi l G 900 Mc (.ref 0 :: ar) I L P ∧ ∀ y I1 L1, P y I1 L1 → zCi l G 900 Mm (.ref 44 :: ar) I1 L1 (fun y2 I2 L2 => y = y2 ∧ Rel I2 L2)
def zStepL (l : Launch) (G : zG) (Mc Mm : zM) (ar : List Value) : Prop := ∀ (I : zIM) (L : zLM), Rel I L → ∃ P : Int64 → zIM → zLM → Prop, zCl l G 900 Mc (.ref 0 :: ar) I L P ∧ ∀ y I1 L1, P y I1 L1 → zCl l G 900 Mm (.ref 44 :: ar) I1 L1 (fun y2 I2 L2 => y = y2 ∧ Rel I2 L2)
