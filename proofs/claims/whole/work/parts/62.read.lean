/-! ===== the class reads a text ===== -/
def tW (X : Nat → Nat) (N : Nat) (I : zIM) : Prop := I 9 0 = nI N ∧ (∀ i, i < N → I 10 i = nI (X i)) ∧ N ≤ 120 ∧ ∀ i, i < N → X i ≤ 255
theorem tW.off {X : Nat → Nat} {N : Nat} {I I' : zIM} (h : tW X N I) (h1 : I' 9 0 = I 9 0) (h2 : ∀ b, I' 10 b = I 10 b) : tW X N I' := ⟨h1.trans h.1, fun i hi => (h2 i).trans (h.2.1 i hi), h.2.2⟩
/-- the cells of a row from m on -/
def cAt (R : Nat) : List Int32 → Nat → zIM → Prop
  | [], _, _ => True
  | c :: cs, m, I => I R m = c ∧ cAt R cs (m + 1) I
theorem cAt_off {R : Nat} {I I' : zIM} : ∀ (cs : List Int32) (m : Nat), (∀ b, m ≤ b → b < m + cs.length → I' R b = I R b) → cAt R cs m I → cAt R cs m I'
  | [], m, h, hc => trivial
  | c :: cs, m, h, hc => by
    rw [List.length_cons] at h
    exact ⟨(h m (Nat.le_refl _) (by omega)).trans hc.1, cAt_off cs (m + 1) (fun b h1 h2 => h b (by omega) (by omega)) hc.2⟩
theorem cAt_app {R : Nat} {I : zIM} : ∀ (a b : List Int32) (m : Nat), cAt R (a ++ b) m I ↔ cAt R a m I ∧ cAt R b (m + a.length) I
  | [], b, m => ⟨fun h => ⟨trivial, h⟩, fun h => h.2⟩
  | c :: a, b, m => by
    have ih := cAt_app (R := R) (I := I) a b (m + 1)
    rw [List.length_cons, show m + (a.length + 1) = m + 1 + a.length by omega]
    constructor
    · intro h
      obtain ⟨h1, h2⟩ := ih.mp h.2
      exact ⟨⟨h.1, h1⟩, h2⟩
    · intro h
      exact ⟨h.1.1, ih.mpr ⟨h.1.2, h.2⟩⟩
def nx (X : Nat → Nat) (N p : Nat) : Int32 := if p < N then nI (X p) else -1
def b2 (b : Bool) : Int32 := if b = true then 1 else 0
theorem b2_ok (b : Bool) : b2 b = 0 ∨ b2 b = 1 := by cases b; exact Or.inl rfl; exact Or.inr rfl
/-- what reading leaves -/
def qR (r : zPr) (m : Nat) (I0 : zIM) (L0 : zLM) : Int32 → zIM → zLM → Prop := fun y I' L' => L0 = L' ∧ b2 r.1 = y ∧ I' 9 2 = nI r.2.1 ∧ (∀ a b, a ≠ 11 → ¬ (a = 9 ∧ (b = 2 ∨ b = 4)) → I' a b = I0 a b) ∧ (∃ m', m' ≤ 256 ∧ I' 9 4 = nI m') ∧ (r.1 = true → I' 9 4 = nI (m + r.2.2.1.length) ∧ (∀ b, b < m → I' 11 b = I0 11 b) ∧ cAt 11 r.2.2.1 m I')
def tP (X : Nat → Nat) (N p m : Nat) (I : zIM) : Prop := tW X N I ∧ I 9 2 = nI p ∧ I 9 4 = nI m ∧ p ≤ N ∧ m ≤ p + 130
section RD
variable {l : Launch} {G : zG} {d : Nat} {I : zIM} {L : zLM} {X : Nat → Nat} {N : Nat}
theorem nx_eq {p c : Nat} (hX : ∀ i, i < N → X i ≤ 255) (hc : c < 1000) (h0 : c ≠ 0) : nx X N p = nI c ↔ tB X N p = c := by
  unfold nx tB
  by_cases h : p < N
  · rw [if_pos h, if_pos h]
    have := hX p h
    exact nI_eq_iff (by omega) (by omega)
  · rw [if_neg h, if_neg h]
    constructor
    · intro e
      exact absurd e.symm (nI_nm (by omega)).1
    · intro e
      exact absurd e.symm h0
theorem nx_in {p : Nat} (h : tB X N p ≠ 0) : nx X N p = nI (tB X N p) := by
  have hp := tB_lt h
  unfold nx tB
  rw [if_pos hp, if_pos hp]
theorem cNx {p : Nat} (hw : tW X N I) (h2 : I 9 2 = nI p) (hp : p ≤ N) : zCi l G d mX3_next [.ref 9] I L (zE (nx X N p) I L) := by
  have hN := hw.2.2.1
  refine t_X3_next ⟨fun c => zE.of ?_, fun c => ⟨p, h2, ?_, zE.of ?_⟩⟩
  · rw [hw.1, h2] at c
    have := (nI_le_iff (by omega) (by omega)).mp c
    rw [nx, if_neg (by omega)]
  · rw [hw.1, h2] at c
    have : ¬ N ≤ p := fun z => c (nI_le z (by omega))
    omega
  · rw [hw.1, h2] at c
    have : ¬ N ≤ p := fun z => c (nI_le z (by omega))
    rw [hw.2.1 p (by omega), nx, if_pos (by omega)]
theorem cDg (hw : tW X N I) (p : Nat) : zCi l G d mX3_isDigit [.int (nx X N p)] I L (zB (dg (tB X N p) = true) I L) := by
  have hX := hw.2.2.2
  have key : (¬ nx X N p < (48 : Int32) ∧ ¬ (57 : Int32) < nx X N p) ↔ dg (tB X N p) = true := by
    unfold dg nx tB
    by_cases h : p < N
    · have := hX p h
      rw [if_pos h, if_pos h, Int32.lt_iff_toInt_lt, Int32.lt_iff_toInt_lt, nI_toInt (by omega), show (48 : Int32).toInt = 48 from by decide, show (57 : Int32).toInt = 57 from by decide]
      simp only [Bool.and_eq_true, decide_eq_true_eq]
      omega
    · rw [if_neg h, if_neg h]
      decide
  refine t_X3_isDigit ⟨fun c => zB.n fun h => (key.mpr h).1 c, fun c => ⟨fun c2 => zB.n fun h => (key.mpr h).2 c2, fun c2 => zB.y (key.mp ⟨c, c2⟩)⟩⟩
theorem cSg (hw : tW X N I) (p : Nat) {lv : Nat} (hl : lv < 5) : zCi l G d mX3_isSign [.int (nx X N p), .int (nI lv)] I L (zB (sgL lv (tB X N p) = true) I L) := by
  have q : ∀ c, c < 1000 → c ≠ 0 → (nx X N p = nI c ↔ tB X N p = c) := fun c h1 h2 => nx_eq hw.2.2.2 h1 h2
  generalize tB X N p = t at q ⊢
  rcases (by omega : lv = 0 ∨ lv = 1 ∨ lv = 2 ∨ lv = 3 ∨ lv = 4) with rfl | rfl | rfl | rfl | rfl
  · refine t_X3_isSign ⟨fun _ => ⟨fun c => t_X3_isSign_43 ⟨Or.inl rfl, zB.n fun h => c ((q 124 (by omega) (by omega)).mpr (by simpa [sgL] using h))⟩, fun c => t_X3_isSign_43 ⟨Or.inr rfl, zB.y (by simpa [sgL] using (q 124 (by omega) (by omega)).mp c)⟩⟩, fun c => absurd c (by decide), fun c => absurd c (by decide), fun c => absurd c (by decide), fun c => absurd rfl c⟩
  · refine t_X3_isSign ⟨fun c => absurd c (by decide), fun _ => ⟨fun c => t_X3_isSign_55 ⟨Or.inl rfl, zB.n fun h => c ((q 38 (by omega) (by omega)).mpr (by simpa [sgL] using h))⟩, fun c => t_X3_isSign_55 ⟨Or.inr rfl, zB.y (by simpa [sgL] using (q 38 (by omega) (by omega)).mp c)⟩⟩, fun c => absurd c (by decide), fun c => absurd c (by decide), fun _ c => absurd rfl c⟩
  · have e : sgL 2 t = true ↔ (t = 60 ∨ t = 61 ∨ t = 62) := by simp [sgL, or_assoc]
    refine t_X3_isSign ⟨fun c => absurd c (by decide), fun c => absurd c (by decide), fun _ => ⟨fun c => t_X3_isSign_74 (t_X3_isSign_79 ⟨Or.inr rfl, zB.y (e.mpr (Or.inl ((q 60 (by omega) (by omega)).mp c)))⟩), fun c1 => ⟨fun c => t_X3_isSign_74 (t_X3_isSign_79 ⟨Or.inr rfl, zB.y (e.mpr (Or.inr (Or.inl ((q 61 (by omega) (by omega)).mp c))))⟩), fun c2 => ⟨fun c => t_X3_isSign_79 ⟨Or.inl rfl, zB.n fun h => ?_⟩, fun c => t_X3_isSign_74 (t_X3_isSign_79 ⟨Or.inr rfl, zB.y (e.mpr (Or.inr (Or.inr ((q 62 (by omega) (by omega)).mp c))))⟩)⟩⟩⟩, fun c => absurd c (by decide), fun _ _ c => absurd rfl c⟩
    rcases e.mp h with h | h | h
    · exact c1 ((q 60 (by omega) (by omega)).mpr h)
    · exact c2 ((q 61 (by omega) (by omega)).mpr h)
    · exact c ((q 62 (by omega) (by omega)).mpr h)
  · have e : sgL 3 t = true ↔ (t = 43 ∨ t = 45) := by simp [sgL]
    refine t_X3_isSign ⟨fun c => absurd c (by decide), fun c => absurd c (by decide), fun c => absurd c (by decide), fun _ => ⟨fun c => t_X3_isSign_92 (t_X3_isSign_97 ⟨Or.inr rfl, zB.y (e.mpr (Or.inl ((q 43 (by omega) (by omega)).mp c)))⟩), fun c1 => ⟨fun c => t_X3_isSign_97 ⟨Or.inl rfl, zB.n fun h => ?_⟩, fun c => t_X3_isSign_92 (t_X3_isSign_97 ⟨Or.inr rfl, zB.y (e.mpr (Or.inr ((q 45 (by omega) (by omega)).mp c)))⟩)⟩⟩, fun _ _ _ c => absurd rfl c⟩
    rcases e.mp h with h | h
    · exact c1 ((q 43 (by omega) (by omega)).mpr h)
    · exact c ((q 45 (by omega) (by omega)).mpr h)
  · have e : sgL 4 t = true ↔ (t = 42 ∨ t = 47 ∨ t = 37) := by simp [sgL, or_assoc]
    refine t_X3_isSign ⟨fun c => absurd c (by decide), fun c => absurd c (by decide), fun c => absurd c (by decide), fun c => absurd c (by decide), fun _ _ _ _ => ⟨fun c => t_X3_isSign_116 (t_X3_isSign_121 ⟨Or.inr rfl, zB.y (e.mpr (Or.inl ((q 42 (by omega) (by omega)).mp c)))⟩), fun c1 => ⟨fun c => t_X3_isSign_116 (t_X3_isSign_121 ⟨Or.inr rfl, zB.y (e.mpr (Or.inr (Or.inl ((q 47 (by omega) (by omega)).mp c))))⟩), fun c2 => ⟨fun c => t_X3_isSign_121 ⟨Or.inl rfl, zB.n fun h => ?_⟩, fun c => t_X3_isSign_116 (t_X3_isSign_121 ⟨Or.inr rfl, zB.y (e.mpr (Or.inr (Or.inr ((q 37 (by omega) (by omega)).mp c))))⟩)⟩⟩⟩⟩
    rcases e.mp h with h | h | h
    · exact c1 ((q 42 (by omega) (by omega)).mpr h)
    · exact c2 ((q 47 (by omega) (by omega)).mpr h)
    · exact c ((q 37 (by omega) (by omega)).mpr h)
theorem cWr {m : Nat} (c : Int32) (h : I 9 4 = nI m) (hm : m < 256) : zCv l G d mX3_write [.ref 9, .int c] I L (zU (xI (xI I 11 m c) 9 4 (nI (m + 1))) L) := by
  refine t_X3_write ⟨fun z => absurd z ?_, fun _ => ⟨m, h, hm, ?_, rfl⟩⟩
  · rw [h]
    exact nI_ge (b := 256) (by omega) (by omega)
  · rw [h, nI_1]
def qW (I0 : zIM) (L0 : zLM) : zIM → zLM → Prop := fun I' L' => L0 = L' ∧ (∀ a b, a ≠ 11 → ¬ (a = 9 ∧ b = 4) → I' a b = I0 a b) ∧ ∃ m', m' ≤ 256 ∧ I' 9 4 = nI m'
theorem cWr2 {m : Nat} (c : Int32) (h : I 9 4 = nI m) (hm : m ≤ 256) : zCv l G d mX3_write [.ref 9, .int c] I L (qW I L) := by
  by_cases e : m < 256
  · refine zCv_mono (cWr c h e) ?_
    rintro _ _ ⟨rfl, rfl⟩
    exact ⟨rfl, fun a b h1 h2 => by rw [xI_ne h2, xI_ne (by omega)], m + 1, by omega, xI_eq⟩
  · refine t_X3_write ⟨fun _ => ⟨rfl, fun _ _ _ _ => rfl, m, hm, h⟩, fun z => absurd ?_ z⟩
    rw [h]
    exact nI_le (a := 256) (by omega) (by omega)
/-- after a good end of a part, one cell more -/
theorem qR_write {m p : Nat} {r : zPr} {I0 : zIM} {L0 : zLM} {I' : zIM} {c : Int32} {v2 : (Nat → Int32) → Int32} (hq : qR r m I0 L0 (b2 r.1) I' L0) (hr : r.1 = true) (hlen : m + r.2.2.1.length < 256) (hp : I' 9 2 = nI p) : qR (true, p, r.2.2.1 ++ [c], v2) m I0 L0 1 (xI (xI I' 11 (m + r.2.2.1.length) c) 9 4 (nI (m + r.2.2.1.length + 1))) L0 := by
  obtain ⟨-, -, -, g4, -, g6⟩ := hq
  obtain ⟨k1, k2, k3⟩ := g6 hr
  refine ⟨rfl, rfl, (by rw [xI_ne (by omega), xI_ne (by omega)]; exact hp), fun a b h1 h2 => by rw [xI_ne (by omega), xI_ne (by omega)]; exact g4 a b h1 h2, ⟨_, by omega, xI_eq⟩, fun _ => ⟨?_, fun b hb => by rw [xI_ne (by omega), xI_ne (by omega)]; exact k2 b hb, ?_⟩⟩
  · rw [xI_eq]
    show nI (m + r.2.2.1.length + 1) = nI (m + (r.2.2.1 ++ [c]).length)
    rw [List.length_append]
    rfl
  · show cAt 11 (r.2.2.1 ++ [c]) m _
    rw [cAt_app]
    exact ⟨cAt_off _ _ (fun b h1 h2 => by rw [xI_ne (by omega), xI_ne (by omega)]) k3, (xI_ne (by omega)).trans xI_eq, trivial⟩
theorem tP_to {p m p' m' : Nat} {I' : zIM} (h : tP X N p m I) (ho : ∀ a b, a ≠ 11 → ¬ (a = 9 ∧ (b = 2 ∨ b = 4)) → I' a b = I a b) (h2 : I' 9 2 = nI p') (h4 : I' 9 4 = nI m') (hp : p' ≤ N) (hm : m' ≤ p' + 130) : tP X N p' m' I' :=
  ⟨h.1.off (ho _ _ (by omega) (by omega)) (fun b => ho 10 b (by omega) (by omega)), h2, h4, hp, hm⟩
/-- a number -/
theorem cRN_4 {P : Int32 → zIM → zLM → Prop} (hd : 1 ≤ d) : ∀ f i p u (I : zIM), f + i = 4 → tW X N I → I 9 2 = nI p → p ≤ N → (∀ J, (∀ a b, ¬ (a = 9 ∧ b = 2) → J a b = I a b) → J 9 2 = nI (pNum X N f p u).1 → ∃ (d2 : Nat) (P2 : zIM → zLM → Prop), d2 + 1 ≤ d ∧ zCv l G d2 mX3_write [.ref 9, .int (nI (pNum X N f p u).2)] J L P2 ∧ ∀ (I2 : zIM) (L2 : zLM), P2 I2 L2 → (P (1 : Int32) I2 L2)) → K_X3_readNumber_4 l G d P I L (nI u) (nI i)
  | 0, i, p, u, I, h, hw, h2, hp, hW => t_X3_readNumber_4 ⟨fun _ => hW I (fun _ _ _ => rfl) h2, fun c => absurd (nI_le (a := 4) (by omega) (by omega)) c⟩
  | f + 1, i, p, u, I, h, hw, h2, hp, hW => by
    unfold pNum at hW
    refine t_X3_readNumber_4 ⟨fun c => absurd c (nI_ge (b := 4) (by omega) (by omega)), fun _ => bE 0 (cNx hw h2 hp) (by omega) (bB 0 (cDg hw p) (by omega) (fun e => ⟨fun c => absurd c i1_0, fun _ => bE 0 (cNx hw h2 hp) (by omega) ?_⟩) (fun e => ⟨fun _ => ?_, fun c => absurd rfl c⟩))⟩
    · have hc : 48 ≤ tB X N p ∧ tB X N p ≤ 57 := by unfold dg at e; simpa using e
      have hlt : p < N := tB_lt (X := X) (by omega)
      rw [if_pos e] at hW
      rw [nx_in (by omega), h2, nI_1, nI_1, show (10 : Int32) = nI 10 from rfl, show (48 : Int32) = nI 48 from rfl, nI_mul, nI_add, nI_sub (by omega)]
      refine cRN_4 hd f (i + 1) (p + 1) _ _ (by omega) (hw.off (xI_ne (by omega)) (fun b => xI_ne (by omega))) xI_eq hlt (fun J g1 g2 => hW J (fun a b hab => (g1 a b hab).trans (xI_ne hab)) g2)
    · rw [if_neg e] at hW
      exact hW I (fun _ _ _ => rfl) h2
theorem cRB_num {p m : Nat} (h : tP X N p m I) (e : dg (tB X N p) = true) (hd : 2 ≤ d) : zCi l G d mX3_readNumber [.ref 9] I L (qR (pB X N p) m I L) := by
  obtain ⟨hw, h2, h4, hp, hm⟩ := h
  have hN := hw.2.2.1
  refine t_X3_readNumber ?_
  have := cRN_4 (l := l) (G := G) (d := d) (L := L) (P := qR (pB X N p) m I L) (by omega) 4 0 p 0 I rfl hw h2 hp (fun J g1 g2 => ?_)
  · rw [nI_0] at this
    exact this
  · refine bV 0 (cWr _ ((g1 9 4 (by omega)).trans h4) (by omega)) (by omega) ?_
    have hb : pB X N p = (true, (pNum X N 4 p 0).1, [nI (pNum X N 4 p 0).2], fun _ => nI (pNum X N 4 p 0).2) := by unfold pB; rw [if_pos e]
    rw [hb]
    refine ⟨rfl, rfl, by rw [xI_ne (by omega), xI_ne (by omega)]; exact g2, fun a b q1 q2 => by rw [xI_ne (by omega), xI_ne (by omega)]; exact g1 a b (by omega), ⟨_, by omega, xI_eq⟩, fun _ => ⟨xI_eq, fun b hb => by rw [xI_ne (by omega), xI_ne (by omega)]; exact g1 11 b (by omega), (xI_ne (by omega)).trans xI_eq, trivial⟩⟩
theorem cRB_name {p m : Nat} (h : tP X N p m I) (e : ¬ dg (tB X N p) = true) (e2 : nmI (tB X N p) ≠ 9) (hd : 1 ≤ d) : K_X3_readOperand_47 l G d (qR (pB X N p) m I L) I L (nx X N p) := by
  obtain ⟨hw, h2, h4, hp, hm⟩ := h
  have hN := hw.2.2.1
  have h0 : tB X N p ≠ 0 := by rcases nmI_of e2 with ⟨z, _⟩ | ⟨z, _⟩ | ⟨z, _⟩ | ⟨z, _⟩ | ⟨z, _⟩ <;> omega
  refine t_X3_readOperand_47 (bV 0 (cWr (m := m) _ ((xI_ne (by omega)).trans h4) (by omega)) (by omega) ?_)
  have hb : pB X N p = (true, p + 1, [-(nI (tB X N p))], fun e => e (nmI (tB X N p))) := by unfold pB; rw [if_neg e, if_pos e2]
  rw [hb, nx_in h0, h2, nI_1]
  refine ⟨rfl, rfl, by rw [xI_ne (by omega), xI_ne (by omega)]; exact xI_eq, fun a b q1 q2 => by rw [xI_ne (by omega), xI_ne (by omega), xI_ne (by omega)], ⟨_, by omega, xI_eq⟩, fun _ => ⟨xI_eq, fun b hb => by rw [xI_ne (by omega), xI_ne (by omega), xI_ne (by omega)], (xI_ne (by omega)).trans xI_eq, trivial⟩⟩
/-- nothing read: a FAULT here -/
theorem qR_bad {p m m1 : Nat} {I' : zIM} {y : List Int32 × ((Nat → Int32) → Int32)} (h2 : I' 9 2 = nI p) (h4 : I' 9 4 = nI m1) (hm : m1 ≤ 256) (ho : ∀ a b, a ≠ 11 → ¬ (a = 9 ∧ (b = 2 ∨ b = 4)) → I' a b = I a b) : qR (false, p, y) m I L 0 I' L :=
  ⟨rfl, rfl, h2, ho, ⟨m1, hm, h4⟩, fun z => by cases z⟩
/-- the loop of a level -/
theorem cRL {p0 m lv op : Nat} {I0 : zIM} {sub : Nat → zPr} (h0 : tP X N p0 m I0) (hl : lv < 5) (hsubW : ∀ p, p ≤ N → pW N p (sub p)) (D : Nat) (hD : D + 1 ≤ d) (hsub : ∀ p m (I : zIM), tP X N p m I → zCi l G D mX3_readJoined [.ref 9, .int (nI (lv + 1)), .int (nI op)] I L (qR (sub p) m I L)) : ∀ f i r I1, f + i = 120 → pW N p0 r → qR r m I0 L (b2 r.1) I1 L → K_X3_readJoined_23 l G d (qR (pLoop X N lv sub f r) m I0 L) I1 L (nI lv) (nI op) (b2 r.1) (nI i)
  | 0, i, r, I1, h, hr, hq => t_X3_readJoined_23 ⟨fun _ => ⟨b2_ok _, hq⟩, fun c => absurd (nI_le (a := 120) (by omega) (by omega)) c⟩
  | f + 1, i, r, I1, h, hr, hq => by
    have hN := h0.1.2.2.1
    obtain ⟨hw0, z2, z4, hp0, hm0⟩ := id h0
    obtain ⟨-, -, g3, g4, ⟨m1, g5, g5'⟩, g6⟩ := id hq
    have hw1 : tW X N I1 := hw0.off (g4 _ _ (by omega) (by omega)) (fun b => g4 10 b (by omega) (by omega))
    have hrN := hr.2.1
    unfold pLoop
    refine t_X3_readJoined_23 ⟨fun c => absurd c (nI_ge (b := 120) (by omega) (by omega)), fun _ => ⟨fun c => ?_, fun c => ?_⟩⟩
    · have e : ¬ r.1 = true := fun z => by rw [z] at c; exact i1_0 c
      rw [if_neg (fun z => e z.1)]
      exact ⟨b2_ok _, hq⟩
    · have er : r.1 = true := by
        cases hh : r.1 with
        | true => rfl
        | false => rw [hh] at c; exact absurd rfl c
      obtain ⟨w1, w2, w3, w4⟩ := hr.2.2 er
      obtain ⟨k1, k2, k3⟩ := g6 er
      refine bE 0 (cNx hw1 g3 hrN) (by omega) (bB 0 (cSg hw1 r.2.1 hl) (by omega) (fun e => ⟨fun c => absurd c i1_0, fun _ => bE 0 (cNx hw1 g3 hrN) (by omega) ?_⟩) (fun e => ⟨fun _ => ?_, fun c => absurd rfl c⟩))
      rotate_left
      · rw [if_neg (fun z => e z.2)]
        exact ⟨b2_ok _, hq⟩
      rw [if_pos ⟨er, e⟩]
      have hlt : r.2.1 < N := tB_lt (sgL_nz e)
      have hpre : tP X N (r.2.1 + 1) (m + r.2.2.1.length) (xI I1 9 2 (nI (r.2.1 + 1))) := tP_to h0 (fun a b h1 h2 => (xI_ne (by omega)).trans (g4 a b h1 h2)) xI_eq ((xI_ne (by omega)).trans k1) hlt (by omega)
      rw [nI_1, g3, nI_1, nx_in (sgL_nz e)]
      refine ⟨D, _, hD, hsub (r.2.1 + 1) (m + r.2.2.1.length) _ hpre, ?_⟩
      rintro y10 I10 _ ⟨rfl, rfl, j3, j4, ⟨m2, j5, j5'⟩, j6⟩
      have hsw := hsubW (r.2.1 + 1) hlt
      have hcw := cmb_ok hr er e hsw
      have lv2 : (¬ nI lv = (2 : Int32) ↔ ¬ lv = 2) := by
        rw [show (2 : Int32) = nI 2 from rfl, nI_eq_iff (by omega) (by omega)]
      have off10 : ∀ a b, a ≠ 11 → ¬ (a = 9 ∧ (b = 2 ∨ b = 4)) → I10 a b = I0 a b := fun a b h1 h2 => (j4 a b h1 h2).trans ((xI_ne (by omega)).trans (g4 a b h1 h2))
      -- the cell behind both
      have key : ∃ (d11 : Nat) (P11 : zIM → zLM → Prop), d11 + 1 ≤ d ∧ zCv l G d11 mX3_write [.ref 9, .int (-(nI (tB X N r.2.1)))] I10 L P11 ∧ ∀ (I11 : zIM) (L11 : zLM), P11 I11 L11 → L = L11 ∧ qR (cmb (tB X N r.2.1) r (sub (r.2.1 + 1))) m I0 L (b2 (sub (r.2.1 + 1)).1) I11 L := by
        cases hg : (sub (r.2.1 + 1)).1 with
        | true =>
          obtain ⟨n1, n2, n3⟩ := j6 hg
          obtain ⟨v1, v2, v3, v4⟩ := hsw.2.2 hg
          have hsN := hsw.2.1
          refine bV 0 (cWr _ n1 (by omega)) (by omega) ⟨rfl, rfl, ?_, ?_, fun a b h1 h2 => by rw [xI_ne (by omega), xI_ne (by omega)]; exact off10 a b h1 h2, ⟨_, by omega, xI_eq⟩, fun _ => ⟨?_, fun b hb => ?_, ?_⟩⟩
          · show b2 (sub (r.2.1 + 1)).1 = _
            rw [hg]
          · show _ = nI (sub (r.2.1 + 1)).2.1
            rw [xI_ne (by omega), xI_ne (by omega)]
            exact j3
          · rw [xI_eq]
            show _ = nI (m + (r.2.2.1 ++ (sub (r.2.1 + 1)).2.2.1 ++ [-(nI (tB X N r.2.1))]).length)
            rw [List.length_append, List.length_append]
            show _ = nI (m + (r.2.2.1.length + (sub (r.2.1 + 1)).2.2.1.length + 1))
            rw [← Nat.add_assoc, ← Nat.add_assoc]
          · rw [xI_ne (by omega), xI_ne (by omega), n2 b (by omega), xI_ne (by omega)]
            exact k2 b hb
          · show cAt 11 (r.2.2.1 ++ (sub (r.2.1 + 1)).2.2.1 ++ [-(nI (tB X N r.2.1))]) m _
            rw [cAt_app, cAt_app, List.length_append, ← Nat.add_assoc]
            refine ⟨⟨cAt_off _ _ (fun b h1 h2 => by rw [xI_ne (by omega), xI_ne (by omega), n2 b (by omega), xI_ne (by omega)]) k3, cAt_off _ _ (fun b h1 h2 => by rw [xI_ne (by omega), xI_ne (by omega)]) n3⟩, (xI_ne (by omega)).trans xI_eq, trivial⟩
        | false =>
          refine ⟨0, _, by omega, cWr2 _ j5' j5, ?_⟩
          rintro I11 _ ⟨rfl, q1, m3, q2, q3⟩
          refine ⟨rfl, rfl, ?_, ?_, fun a b h1 h2 => (q1 a b h1 (by omega)).trans (off10 a b h1 h2), ⟨m3, q2, q3⟩, fun z => ?_⟩
          · show b2 (sub (r.2.1 + 1)).1 = _
            rw [hg]
          · show _ = nI (sub (r.2.1 + 1)).2.1
            exact (q1 9 2 (by omega) (by omega)).trans j3
          · have z : (sub (r.2.1 + 1)).1 = true := z
            rw [hg] at z
            cases z
      obtain ⟨d11, P11, y1, y2, y3⟩ := key
      refine ⟨d11, P11, y1, y2, fun I11 L11 hp11 => ?_⟩
      obtain ⟨eL, hq11⟩ := y3 I11 L11 hp11
      subst eL
      refine ⟨fun c2 => ?_, fun c2 => ⟨b2_ok _, ?_⟩⟩
      · rw [if_neg (lv2.mp c2), nI_1]
        exact cRL h0 hl hsubW D hD hsub f (i + 1) (cmb (tB X N r.2.1) r (sub (r.2.1 + 1))) I11 (by omega) hcw hq11
      · have e2 : lv = 2 := by
          by_cases z : lv = 2
          · exact z
          · exact absurd c2 (lv2.mpr z)
        rw [if_pos e2]
        exact hq11
end RD
