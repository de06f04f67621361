/-! ===== the reference works THE LAW out ===== -/
def nR (I0 I : zIM) : Prop := ∀ a b, ¬ (a = 44 ∧ (b = 17 ∨ b = 19 ∨ b = 20)) → I a b = I0 a b
theorem nR.rf {I : zIM} : nR I I := fun _ _ _ => rfl
theorem nR.tr {I0 I1 I2 : zIM} (h : nR I0 I1) (g : nR I1 I2) : nR I0 I2 := fun a b z => (g a b z).trans (h a b z)
theorem nR17 {I : zIM} {x : Int32} : nR I (xI I 44 17 x) := fun a b z => xI_ne (by omega)
theorem nR19 {I : zIM} {x : Int32} : nR I (xI I 44 19 x) := fun a b z => xI_ne (by omega)
theorem nR20 {I : zIM} {x : Int32} : nR I (xI I 44 20 x) := fun a b z => xI_ne (by omega)
def wR (X : Nat → Nat) (N : Nat) (e : Nat → Int32) (I : zIM) : Prop := I 44 18 = nI N ∧ N ≤ 120 ∧ (∀ i, i < N → X i ≤ 255) ∧ ((I 44 16 = -1 ∧ ∀ i, i < N → I 53 i = nI (X i)) ∨ (I 44 16 = 0 ∧ ∀ i, i < N → I 54 i = nI (X i))) ∧ ∀ j, j < 5 → I 55 j = e j
theorem wR.off {X : Nat → Nat} {N : Nat} {e : Nat → Int32} {I I' : zIM} (h : wR X N e I) (g : nR I I') : wR X N e I' := by
  obtain ⟨h1, h2, h3, h4, h5⟩ := h
  refine ⟨(g 44 18 (by omega)).trans h1, h2, h3, ?_, fun j hj => (g 55 j (by omega)).trans (h5 j hj)⟩
  rcases h4 with ⟨a, b⟩ | ⟨a, b⟩
  · exact Or.inl ⟨(g 44 16 (by omega)).trans a, fun i hi => (g 53 i (by omega)).trans (b i hi)⟩
  · exact Or.inr ⟨(g 44 16 (by omega)).trans a, fun i hi => (g 54 i (by omega)).trans (b i hi)⟩
/-- reading goes on at p, r more may be opened -/
def gR (X : Nat → Nat) (N : Nat) (e : Nat → Int32) (p r : Nat) (I : zIM) : Prop := wR X N e I ∧ I 44 17 = nI p ∧ I 44 19 = -1 ∧ I 44 20 = nI (6 - r) ∧ p ≤ N
/-- what a part read leaves -/
def qN (a : zPr) (e : Nat → Int32) (I0 : zIM) (L0 : zLM) : Int32 → zIM → zLM → Prop := fun y I L => L0 = L ∧ nR I0 I ∧ I 44 17 = nI a.2.1 ∧ (a.1 = true → a.2.2.2 e = y ∧ I 44 19 = -1 ∧ I 44 20 = I0 44 20) ∧ (¬ a.1 = true → I 44 19 = nI a.2.1)
theorem m1_lt : (-1 : Int32) < 0 := by decide
theorem m1_nle : ¬ (0 : Int32) ≤ -1 := by decide
section RX
variable {l : Launch} {G : zG} {d : Nat} {I J : zIM} {L : zLM} {M : zM} {args : List Value}
theorem bX (d1 : Nat) {e : Int32} {K : Int32 → zIM → zLM → Prop} (h : zCi l G d1 M args I L (zE e J L)) (hd : d1 + 1 ≤ d) (k : K e J L) : ∃ (d2 : Nat) (P2 : Int32 → zIM → zLM → Prop), d2 + 1 ≤ d ∧ zCi l G d2 M args I L P2 ∧ ∀ (y : Int32) (I1 : zIM) (L1 : zLM), P2 y I1 L1 → K y I1 L1 :=
  ⟨d1, _, hd, h, fun _ _ _ ⟨a, b, c⟩ => by subst a; subst b; subst c; exact k⟩
end RX
section RE
variable {l : Launch} {G : zG} {d : Nat} {I : zIM} {L : zLM} {X : Nat → Nat} {N : Nat} {e : Nat → Int32}
theorem tB_le {p : Nat} (hX : ∀ i, i < N → X i ≤ 255) : tB X N p ≤ 255 := by
  unfold tB
  by_cases c : p < N
  · rw [if_pos c]; exact hX p c
  · rw [if_neg c]; omega
theorem rBy {p : Nat} (hw : wR X N e I) (h : I 44 17 = nI p) (hp : p ≤ N) : zCi l G d mX9_byteAt [.ref 44] I L (zE (nI (tB X N p)) I L) := by
  obtain ⟨h1, h2, h3, h4, h5⟩ := hw
  refine t_X9_byteAt ⟨fun c => zE.of ?_, fun c => ?_⟩
  · rw [h1, h] at c
    have := (nI_le_iff (by omega) (by omega)).mp c
    rw [tB, if_neg (by omega), nI_0]
  · rw [h1, h] at c
    have hlt : p < N := by
      by_cases z : p < N
      · exact z
      · exact absurd (nI_le (by omega) (by omega)) c
    rcases h4 with ⟨a, b⟩ | ⟨a, b⟩
    · refine ⟨fun z => absurd z (by rw [a]; decide), fun _ => ⟨p, h, by omega, zE.of ?_⟩⟩
      rw [b p hlt, tB, if_pos hlt]
    · refine ⟨fun _ => ⟨p, by rw [a, h, Int32.zero_add], by omega, zE.of ?_⟩, fun z => absurd (by rw [a]; decide) z⟩
      rw [b p hlt, tB, if_pos hlt]
theorem rWr {p : Nat} (h17 : I 44 17 = nI p) (h19 : I 44 19 = -1) : zCi l G d mX9_wrong [.ref 44] I L (zE 0 (xI I 44 19 (nI p)) L) :=
  t_X9_wrong ⟨fun c => absurd c (by rw [h19]; decide), fun _ => ⟨rfl, by rw [h17], rfl⟩⟩
theorem rTkF {k : Nat} {c : Int32} (h : I 44 19 = nI k) (hk : k < 2 ^ 31) : zCi l G d mX9_takes [.ref 44, .int c] I L (zE 0 I L) :=
  t_X9_takes ⟨fun _ => zE.of rfl, fun z => absurd (by rw [h, ← nI_0]; exact nI_le (Nat.zero_le _) hk) z⟩
theorem rTkY {p c : Nat} (hw : wR X N e I) (h : I 44 17 = nI p) (h19 : I 44 19 = -1) (hp : p ≤ N) (hc : tB X N p = c) (hd : 1 ≤ d) : zCi l G d mX9_takes [.ref 44, .int (nI c)] I L (zE 1 (xI I 44 17 (nI (p + 1))) L) := by
  refine t_X9_takes ⟨fun z => absurd z (by rw [h19]; decide), fun _ => bE 0 (rBy hw h hp) (by omega) ⟨fun _ => ⟨rfl, by rw [h, nI_1], rfl⟩, fun z => absurd (by rw [hc]) z⟩⟩
theorem rTkN {p c : Nat} (hw : wR X N e I) (h : I 44 17 = nI p) (h19 : I 44 19 = -1) (hp : p ≤ N) (hc : ¬ tB X N p = c) (hc2 : c < 1000) (hd : 1 ≤ d) : zCi l G d mX9_takes [.ref 44, .int (nI c)] I L (zE 0 I L) := by
  have := tB_le (p := p) hw.2.2.1
  refine t_X9_takes ⟨fun z => absurd z (by rw [h19]; decide), fun _ => bE 0 (rBy hw h hp) (by omega) ⟨fun z => absurd (nI_inj (by omega) (by omega) z) hc, fun _ => zE.of rfl⟩⟩
/-- the number's digits after the first -/
theorem rDgs {P : Int32 → zIM → zLM → Prop} (hd : 1 ≤ d) : ∀ f i p u (I1 : zIM), f + i = 4 → 1 ≤ i → wR X N e I1 → I1 44 17 = nI p → p ≤ N → (∀ J, nR I1 J → J 44 17 = nI (pNum X N f p u).1 → J 44 19 = I1 44 19 → J 44 20 = I1 44 20 → P (nI (pNum X N f p u).2) J L) → K_X9_one_176 l G d P I1 L (nI u) (nI i)
  | 0, i, p, u, I1, h, h1, hw, h17, hp, hP => t_X9_one_176 ⟨fun _ => ⟨fun _ => t_X9_one_242 (hP I1 nR.rf h17 rfl rfl), fun z => absurd z (fun z => absurd (nI_inj (b := 0) (by omega) (by omega) (z.trans nI_0.symm)) (by omega))⟩, fun c => absurd (nI_le (a := 4) (by omega) (by omega)) c⟩
  | f + 1, i, p, u, I1, h, h1, hw, h17, hp, hP => by
    have i0 : ¬ nI i = 0 := fun z => absurd (nI_inj (b := 0) (by omega) (by omega) (z.trans nI_0.symm)) (by omega)
    have ht := tB_le (N := N) (p := p) hw.2.2.1
    unfold pNum at hP
    have stop : ¬ dg (tB X N p) = true → P (nI u) I1 L := fun z => by
      rw [if_neg z] at hP
      exact hP I1 nR.rf h17 rfl rfl
    refine t_X9_one_176 ⟨fun c => absurd c (nI_ge (b := 4) (by omega) (by omega)), fun _ => bE 0 (rBy hw h17 hp) (by omega) ⟨fun c => ⟨fun _ => t_X9_one_242 (stop fun z => ?_), fun z => absurd z i0⟩, fun c => bE 0 (rBy hw h17 hp) (by omega) ⟨fun c2 => ⟨fun _ => t_X9_one_242 (stop fun z => ?_), fun z => absurd z i0⟩, fun c2 => bE 0 (rBy hw h17 hp) (by omega) ?_⟩⟩⟩
    · have hc : 48 ≤ tB X N p ∧ tB X N p ≤ 57 := by unfold dg at z; simpa using z
      exact nI_nlt (b := 48) hc.1 (by omega) c
    · have hc : 48 ≤ tB X N p ∧ tB X N p ≤ 57 := by unfold dg at z; simpa using z
      exact nI_nlt (a := 57) hc.2 (by omega) c2
    · have h48 : 48 ≤ tB X N p := by
        by_cases z : 48 ≤ tB X N p
        · exact z
        · exact absurd (nI_lt (b := 48) (by omega) (by omega)) c
      have h57 : tB X N p ≤ 57 := by
        by_cases z : tB X N p ≤ 57
        · exact z
        · exact absurd (nI_lt (a := 57) (by omega) (by omega)) c2
      have hdg : dg (tB X N p) = true := by unfold dg; simp [h48, h57]
      rw [if_pos hdg] at hP
      have hlt : p < N := tB_lt (X := X) (by omega)
      rw [h17, nI_1, nI_1, show (10 : Int32) = nI 10 from rfl, show (48 : Int32) = nI 48 from rfl, nI_mul, nI_add, nI_sub (by omega), Nat.mul_comm 10 u]
      exact rDgs hd f (i + 1) (p + 1) _ _ (by omega) (by omega) (hw.off nR17) xI_eq hlt fun J g1 g2 g3 g4 => hP J (nR17.tr g1) g2 (g3.trans (xI_ne (by omega))) (g4.trans (xI_ne (by omega)))
/-- a digit, or neither digit nor name -/
theorem rDig {p r : Nat} (h : gR X N e p r I) (hn : nmI (tB X N p) = 9) (hd : 1 ≤ d) : K_X9_one_176 l G d (qN (pB X N p) e I L) I L (0 : Int32) (0 : Int32) := by
  obtain ⟨hw, h17, h19, h20, hp⟩ := h
  have ht := tB_le (N := N) (p := p) hw.2.2.1
  have bad : ¬ dg (tB X N p) = true → qN (pB X N p) e I L 0 (xI I 44 19 (nI p)) L := fun z => by
    have hb : pB X N p = (false, p, [], fun _ => 0) := by unfold pB; rw [if_neg z, if_neg (fun q => q hn)]
    rw [hb]
    exact ⟨rfl, nR19, (xI_ne (by omega)).trans h17, fun q => absurd q Bool.false_ne_true, fun _ => xI_eq⟩
  refine t_X9_one_176 ⟨fun c => absurd c (by decide), fun _ => bE 0 (rBy hw h17 hp) (by omega) ⟨fun c => ⟨fun z => absurd rfl z, fun _ => bX 0 (rWr h17 h19) (by omega) ?_⟩, fun c => bE 0 (rBy hw h17 hp) (by omega) ⟨fun c2 => ⟨fun z => absurd rfl z, fun _ => bX 0 (rWr h17 h19) (by omega) ?_⟩, fun c2 => bE 0 (rBy hw h17 hp) (by omega) ?_⟩⟩⟩
  · refine t_X9_one_242 (bad fun z => ?_)
    have hc : 48 ≤ tB X N p ∧ tB X N p ≤ 57 := by unfold dg at z; simpa using z
    exact nI_nlt (b := 48) hc.1 (by omega) c
  · refine t_X9_one_242 (bad fun z => ?_)
    have hc : 48 ≤ tB X N p ∧ tB X N p ≤ 57 := by unfold dg at z; simpa using z
    exact nI_nlt (a := 57) hc.2 (by omega) c2
  · have h48 : 48 ≤ tB X N p := by
      by_cases z : 48 ≤ tB X N p
      · exact z
      · exact absurd (nI_lt (b := 48) (by omega) (by omega)) c
    have h57 : tB X N p ≤ 57 := by
      by_cases z : tB X N p ≤ 57
      · exact z
      · exact absurd (nI_lt (a := 57) (by omega) (by omega)) c2
    have hdg : dg (tB X N p) = true := by unfold dg; simp [h48, h57]
    have hlt : p < N := tB_lt (X := X) (by omega)
    have hb : pB X N p = (true, (pNum X N 3 (p + 1) (0 * 10 + tB X N p - 48)).1, [nI (pNum X N 3 (p + 1) (0 * 10 + tB X N p - 48)).2], fun _ => nI (pNum X N 3 (p + 1) (0 * 10 + tB X N p - 48)).2) := by
      unfold pB
      rw [if_pos hdg, show pNum X N 4 p 0 = if dg (tB X N p) = true then pNum X N 3 (p + 1) (0 * 10 + tB X N p - 48) else (p, 0) from rfl, if_pos hdg]
    rw [hb, h17, nI_1, show (10 : Int32) * 0 + nI (tB X N p) - 48 = nI (0 * 10 + tB X N p - 48) by rw [show (10 : Int32) * 0 = nI (0 * 10) from rfl, show (48 : Int32) = nI 48 from rfl, nI_add, nI_sub (by omega)], show (0 : Int32) + 1 = nI 1 from rfl]
    exact rDgs hd 3 1 (p + 1) _ _ rfl (Nat.le_refl _) (hw.off nR17) xI_eq hlt fun J g1 g2 g3 g4 => ⟨rfl, nR17.tr g1, g2, fun _ => ⟨rfl, g3.trans ((xI_ne (by omega)).trans h19), g4.trans (xI_ne (by omega))⟩, fun z => absurd rfl z⟩
/-- * / % -/
theorem rL4 {p0 r : Nat} {I0 : zIM} {sub : Nat → zPr} (D : Nat) (hD : D + 1 ≤ d) (hr : I0 44 20 = nI (6 - r)) (hsubW : ∀ p, p ≤ N → pW N p (sub p)) (hsub : ∀ p (I : zIM), gR X N e p r I → zCi l G D mX9_one [.ref 44] I L (qN (sub p) e I L)) (hw0 : wR X N e I0) : ∀ f a I1 x1, 120 ≤ f + a.2.1 → pW N p0 a → qN a e I0 L x1 I1 L → K_X9_product_10 l G d (qN (pLoop X N 4 sub f a) e I0 L) I1 L x1 (nI (tB X N a.2.1))
  | f, a, I1, x1, hf, hW, hq => by
    obtain ⟨-, g1, g2, g3, g4⟩ := id hq
    have hN := hw0.2.1
    have haN := hW.2.1
    have hw1 := hw0.off g1
    have ht := tB_le (N := N) (p := a.2.1) hw0.2.2.1
    have q : ∀ c, c < 1000 → (nI (tB X N a.2.1) = nI c ↔ tB X N a.2.1 = c) := fun c hc => nI_eq_iff (by omega) (by omega)
    have lp : pLoop X N 4 sub f a = if 0 < f ∧ a.1 = true ∧ sgL 4 (tB X N a.2.1) = true then pLoop X N 4 sub (f - 1) (cmb (tB X N a.2.1) a (sub (a.2.1 + 1))) else a := by
      cases f with
      | zero => rw [if_neg (fun z => absurd z.1 (by omega))]; rfl
      | succ f =>
        rw [pLoop, if_neg (show ¬ (4 = 2) by omega)]
        by_cases z : a.1 = true ∧ sgL 4 (tB X N a.2.1) = true
        · rw [if_pos z, if_pos ⟨by omega, z⟩]; rfl
        · rw [if_neg z, if_neg (fun y => z y.2)]
    have stop : ¬ (a.1 = true ∧ sgL 4 (tB X N a.2.1) = true) → qN (pLoop X N 4 sub f a) e I0 L x1 I1 L := fun z => by
      rw [lp, if_neg (fun y => z y.2)]
      exact hq
    by_cases ha : a.1 = true
    rotate_left
    · refine t_X9_product_10 ⟨fun _ => stop fun z => ha z.1, fun c => absurd ?_ c⟩
      rw [g4 ha, ← nI_0]
      exact nI_le (Nat.zero_le _) (by omega)
    obtain ⟨k1, k2, k3⟩ := g3 ha
    have go : ∀ c, (c = 42 ∨ c = 47 ∨ c = 37) → tB X N a.2.1 = c → K_X9_product_35 l G d (qN (pLoop X N 4 sub f a) e I0 L) I1 L x1 (nI (tB X N a.2.1)) := fun c hc hcc => by
      have hs : sgL 4 (tB X N a.2.1) = true := by rw [hcc]; rcases hc with rfl | rfl | rfl <;> decide
      have hlt : a.2.1 < N := tB_lt (X := X) (by omega)
      have hpre : gR X N e (a.2.1 + 1) r (xI I1 44 17 (nI (a.2.1 + 1))) := ⟨hw1.off nR17, xI_eq, (xI_ne (by omega)).trans k2, (xI_ne (by omega)).trans (k3.trans hr), hlt⟩
      have hW2 := cmb_ok hW ha hs (hsubW (a.2.1 + 1) hlt)
      have hp2 := (hsubW (a.2.1 + 1) hlt)
      rw [lp, if_pos ⟨by omega, ha, hs⟩]
      refine t_X9_product_35 ?_
      rw [g2, nI_1]
      refine ⟨D, _, hD, hsub (a.2.1 + 1) _ hpre, ?_⟩
      rintro y1 I2 _ ⟨rfl, w1, w2, w3, w4⟩
      have fin : ∀ s0, (s0 = jn (nI (tB X N a.2.1)) x1 y1) → K_X9_product_85 l G d (qN (pLoop X N 4 sub (f - 1) (cmb (tB X N a.2.1) a (sub (a.2.1 + 1)))) e I0 L) I2 L s0 := fun s0 hs0 => by
        refine t_X9_product_85 (bE 0 (rBy (hw1.off (nR17.tr w1)) w2 hp2.2.1) (by omega) ?_)
        have := hp2.1
        refine rL4 D hD hr hsubW hsub hw0 (f - 1) (cmb (tB X N a.2.1) a (sub (a.2.1 + 1))) I2 s0 (show 120 ≤ f - 1 + (sub (a.2.1 + 1)).2.1 by omega) hW2 ⟨rfl, g1.tr (nR17.tr w1), w2, fun z => ?_, w4⟩
        obtain ⟨z1, z2, z3⟩ := w3 z
        refine ⟨?_, z2, z3.trans ((xI_ne (by omega)).trans k3)⟩
        show jn (nI (tB X N a.2.1)) (a.2.2.2 e) ((sub (a.2.1 + 1)).2.2.2 e) = s0
        rw [hs0, k1, z1]
      rcases hc with rfl | rfl | rfl
      · rw [hcc] at fin ⊢
        exact ⟨fun c => absurd rfl c, fun _ => fin _ rfl⟩
      · rw [hcc] at fin ⊢
        exact ⟨fun _ => ⟨fun y0 => ⟨fun c => absurd rfl c, fun _ => ⟨y0, fin _ (by unfold jn; rw [if_neg (by decide), if_neg (by decide), if_neg (by decide), if_neg (by decide), if_pos (show nI 47 = 47 from rfl), if_neg y0])⟩⟩, fun y0 => fin _ (by unfold jn; rw [if_neg (by decide), if_neg (by decide), if_neg (by decide), if_neg (by decide), if_pos (show nI 47 = 47 from rfl), if_pos y0])⟩, fun c => absurd c (by decide)⟩
      · rw [hcc] at fin ⊢
        exact ⟨fun _ => ⟨fun y0 => ⟨fun _ => ⟨y0, fin _ (by unfold jn; rw [if_neg (by decide), if_neg (by decide), if_neg (by decide), if_neg (by decide), if_neg (by decide), if_neg (by decide), if_neg (by decide), if_neg (by decide), if_neg (by decide), if_neg y0])⟩, fun c => absurd c (by decide)⟩, fun y0 => fin _ (by unfold jn; rw [if_neg (by decide), if_neg (by decide), if_neg (by decide), if_neg (by decide), if_neg (by decide), if_neg (by decide), if_neg (by decide), if_neg (by decide), if_neg (by decide), if_pos y0])⟩, fun c => absurd c (by decide)⟩
    refine t_X9_product_10 ⟨fun c => absurd c (by rw [k2]; decide), fun _ => ⟨fun c => go 42 (by omega) ((q 42 (by omega)).mp c) , fun c1 => ⟨fun c => go 47 (by omega) ((q 47 (by omega)).mp c), fun c2 => ⟨fun c3 => stop fun z => ?_, fun c => go 37 (by omega) ((q 37 (by omega)).mp c)⟩⟩⟩⟩
    have : tB X N a.2.1 = 42 ∨ tB X N a.2.1 = 47 ∨ tB X N a.2.1 = 37 := by
      have := z.2
      simpa [sgL, or_assoc] using this
    rcases this with y | y | y
    · exact c1 ((q 42 (by omega)).mpr y)
    · exact c2 ((q 47 (by omega)).mpr y)
    · exact c3 ((q 37 (by omega)).mpr y)
termination_by f => f
decreasing_by omega
end RE
