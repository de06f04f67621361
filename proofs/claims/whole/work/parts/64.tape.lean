/-! ===== the class reads lines and THE TAPE ===== -/
def toP (r : zLn) : zPr := (r.1, r.2.1, r.2.2.1, fun _ => 0)
/-- what a text up to here is -/
def lW (N p m : Nat) (r : zLn) : Prop := p ≤ r.2.1 ∧ r.2.1 ≤ N ∧ (r.1 = true → p < r.2.1 ∧ r.2.2.1.length ≤ r.2.1 - p + 2)
section LR
variable {l : Launch} {G : zG} {d : Nat} {I : zIM} {L : zLM} {X : Nat → Nat} {N : Nat}
theorem pLn_ok {p m : Nat} (h : p ≤ N) : lW N p m (pLn X N p m) := by
  have hE := pE_ok (X := X) h
  unfold pLn
  generalize pE X N p = a at hE ⊢
  obtain ⟨a1, a2, a3⟩ := hE
  by_cases c : a.1 = true
  · rw [if_pos c]
    obtain ⟨b1, b2, b3, b4⟩ := a3 c
    by_cases c2 : tB X N a.2.1 = 63
    · rw [if_pos c2]
      have hlt : a.2.1 < N := tB_lt (X := X) (by omega)
      have hE2 := pE_ok (X := X) (show a.2.1 + 1 ≤ N from hlt)
      generalize pE X N (a.2.1 + 1) = b at hE2 ⊢
      obtain ⟨e1, e2, e3⟩ := hE2
      refine ⟨show p ≤ b.2.1 by omega, e2, fun z => ?_⟩
      obtain ⟨f1, f2, f3, f4⟩ := e3 z
      refine ⟨show p < b.2.1 by omega, ?_⟩
      show (a.2.2.1 ++ [-63, nI (m + a.2.2.1.length + 2 + b.2.2.1.length + 1)] ++ b.2.2.1 ++ [-59]).length ≤ b.2.1 - p + 2
      rw [List.length_append, List.length_append, List.length_append]
      show a.2.2.1.length + 2 + b.2.2.1.length + 1 ≤ b.2.1 - p + 2
      omega
    · rw [if_neg c2]
      refine ⟨a1, a2, fun _ => ⟨b1, ?_⟩⟩
      show (a.2.2.1 ++ [-59]).length ≤ a.2.1 - p + 2
      rw [List.length_append]
      show a.2.2.1.length + 1 ≤ a.2.1 - p + 2
      omega
  · rw [if_neg c]
    exact ⟨a1, a2, fun z => by cases z⟩
theorem cLine {p m : Nat} (h : tP X N p m I) (hm2 : m ≤ 2 * p) (hd : 110 ≤ d) : zCi l G d mX3_readLine [.ref 9] I L (qR (toP (pLn X N p m)) m I L) := by
  obtain ⟨hw, h2, h4, hp, hm⟩ := id h
  have hN := hw.2.2.1
  have hE := pE_ok (X := X) hp
  have c1 := cRE (l := l) (G := G) (d := 100) (L := L) h (Nat.le_refl 100)
  unfold pLn
  refine t_X3_readLine ⟨100, _, by omega, c1, ?_⟩
  generalize pE X N p = a at hE ⊢
  rintro y1 I1 _ ⟨rfl, rfl, g3, g4, ⟨m1, g5, g5'⟩, g6⟩
  obtain ⟨a1, a2, a3⟩ := hE
  refine ⟨fun c => ?_, fun c => ?_⟩
  rotate_left
  · have e : ¬ a.1 = true := fun z => by rw [z] at c; exact i1_0 c
    rw [if_neg e]
    exact qR_bad g3 g5' g5 g4
  have e : a.1 = true := by
    cases hh : a.1 with
    | true => rfl
    | false => rw [hh] at c; exact absurd rfl c
  obtain ⟨b1, b2', b3, b4⟩ := a3 e
  obtain ⟨k1, k2, k3⟩ := g6 e
  have hw1 : tW X N I1 := hw.off (g4 _ _ (by omega) (by omega)) (fun b => g4 10 b (by omega) (by omega))
  rw [if_pos e]
  refine bE 0 (cNx hw1 g3 a2) (by omega) ⟨fun c2 => ?_, fun c2 => ?_⟩
  · have t63 : ¬ tB X N a.2.1 = 63 := fun z => c2 ((nx_eq (c := 63) hw.2.2.2 (by omega) (by omega)).mpr z)
    rw [if_neg t63]
    refine bV 0 (cWr _ k1 (by omega)) (by omega) ⟨rfl, rfl, ?_, fun x b h1 h2 => by rw [xI_ne (by omega), xI_ne (by omega)]; exact g4 x b h1 h2, ⟨_, by omega, xI_eq⟩, fun _ => ⟨?_, fun b hb => by rw [xI_ne (by omega), xI_ne (by omega)]; exact k2 b hb, ?_⟩⟩
    · rw [xI_ne (by omega), xI_ne (by omega)]
      exact g3
    · rw [xI_eq]
      show _ = nI (m + (a.2.2.1 ++ [-59]).length)
      rw [List.length_append]
      rfl
    · show cAt 11 (a.2.2.1 ++ [-59]) m _
      rw [cAt_app]
      exact ⟨cAt_off _ _ (fun b h1 h2 => by rw [xI_ne (by omega), xI_ne (by omega)]) k3, (xI_ne (by omega)).trans xI_eq, trivial⟩
  · have t63 : tB X N a.2.1 = 63 := (nx_eq (c := 63) hw.2.2.2 (by omega) (by omega)).mp c2
    have hlt : a.2.1 < N := tB_lt (X := X) (by omega)
    rw [if_pos t63, g3, nI_1]
    refine bV 0 (cWr (m := m + a.2.2.1.length) _ ((xI_ne (by omega)).trans k1) (by omega)) (by omega) (bV 0 (cWr (m := m + a.2.2.1.length + 1) _ xI_eq (by omega)) (by omega) ?_)
    -- the second E
    have oJ : ∀ x b, x ≠ 11 → ¬ (x = 9 ∧ (b = 2 ∨ b = 4)) → xI (xI (xI (xI (xI I1 9 2 (nI (a.2.1 + 1))) 11 (m + a.2.2.1.length) (-63 : Int32)) 9 4 (nI (m + a.2.2.1.length + 1))) 11 (m + a.2.2.1.length + 1) (0 : Int32)) 9 4 (nI (m + a.2.2.1.length + 1 + 1)) x b = I x b := fun x b h1 h2 => by
      rw [xI_ne (by omega), xI_ne (by omega), xI_ne (by omega), xI_ne (by omega), xI_ne (by omega)]
      exact g4 x b h1 h2
    have hpre : tP X N (a.2.1 + 1) (m + a.2.2.1.length + 1 + 1) (xI (xI (xI (xI (xI I1 9 2 (nI (a.2.1 + 1))) 11 (m + a.2.2.1.length) (-63 : Int32)) 9 4 (nI (m + a.2.2.1.length + 1))) 11 (m + a.2.2.1.length + 1) (0 : Int32)) 9 4 (nI (m + a.2.2.1.length + 1 + 1))) :=
      tP_to h oJ (by rw [xI_ne (by omega), xI_ne (by omega), xI_ne (by omega), xI_ne (by omega)]; exact xI_eq) xI_eq hlt (by omega)
    refine ⟨100, _, by omega, cRE hpre (Nat.le_refl 100), ?_⟩
    have hE2 := pE_ok (X := X) (show a.2.1 + 1 ≤ N from hlt)
    generalize pE X N (a.2.1 + 1) = b at hE2 ⊢
    obtain ⟨e1, e2, e3⟩ := hE2
    rintro y8 I8 _ ⟨rfl, rfl, j3, j4, ⟨m2, j5, j5'⟩, j6⟩
    have o8 : ∀ x b, x ≠ 11 → ¬ (x = 9 ∧ (b = 2 ∨ b = 4)) → I8 x b = I x b := fun x b h1 h2 => (j4 x b h1 h2).trans (oJ x b h1 h2)
    refine ⟨fun c3 => ?_, fun c3 => ?_⟩
    rotate_left
    · have eb : b.1 = false := by
        cases hh : b.1 with
        | true => rw [hh] at c3; exact absurd c3 i1_0
        | false => rfl
      show qR (b.1, b.2.1, _) m I L 0 I8 L
      rw [eb]
      exact qR_bad j3 j5' j5 o8
    have eb : b.1 = true := by
      cases hh : b.1 with
      | true => rfl
      | false => rw [hh] at c3; exact absurd rfl c3
    obtain ⟨f1, f2, f3, f4⟩ := e3 eb
    obtain ⟨n1, n2, n3⟩ := j6 eb
    refine bV 0 (cWr (m := m + a.2.2.1.length + 1 + 1 + b.2.2.1.length) _ n1 (by omega)) (by omega) ?_
    have e94 : xI (xI (xI I1 9 2 (nI (a.2.1 + 1))) 11 (m + a.2.2.1.length) (-63 : Int32)) 9 4 (nI (m + a.2.2.1.length + 1)) 9 4 = nI (m + a.2.2.1.length + 1) := xI_eq
    rw [e94]
    refine ⟨fun c => absurd c (nI_pos (by omega)), fun _ => ⟨fun c => absurd c (nI_ge (b := 256) (by omega) (by omega)), fun _ => ⟨m + a.2.2.1.length + 1, rfl, by omega, rfl, ?_, ?_, fun x z h1 h2 => ?_, ⟨m + a.2.2.1.length + 1 + 1 + b.2.2.1.length + 1, by omega, ?_⟩, fun _ => ⟨?_, fun z hz => ?_, ?_⟩⟩⟩⟩
    · show b2 b.1 = 1
      rw [eb]
      rfl
    · rw [xI_ne (by omega), xI_ne (by omega), xI_ne (by omega)]
      exact j3
    · rw [xI_ne (by omega), xI_ne (by omega), xI_ne (by omega)]
      exact o8 x z h1 h2
    · rw [xI_ne (by omega)]
      exact xI_eq
    · rw [xI_ne (by omega), xI_eq]
      show _ = nI (m + (a.2.2.1 ++ [-63, nI (m + a.2.2.1.length + 2 + b.2.2.1.length + 1)] ++ b.2.2.1 ++ [-59]).length)
      rw [List.length_append, List.length_append, List.length_append]
      show _ = nI (m + (a.2.2.1.length + 2 + b.2.2.1.length + 1))
      rw [show m + (a.2.2.1.length + 2 + b.2.2.1.length + 1) = m + a.2.2.1.length + 1 + 1 + b.2.2.1.length + 1 by omega]
    · rw [xI_ne (by omega), xI_ne (by omega), xI_ne (by omega), n2 z (by omega), xI_ne (by omega), xI_ne (by omega), xI_ne (by omega), xI_ne (by omega), xI_ne (by omega)]
      exact k2 z hz
    · show cAt 11 (a.2.2.1 ++ [-63, nI (m + a.2.2.1.length + 2 + b.2.2.1.length + 1)] ++ b.2.2.1 ++ [-59]) m _
      rw [cAt_app, cAt_app, cAt_app, List.length_append, List.length_append, List.length_append]
      refine ⟨⟨⟨cAt_off _ _ (fun z h1 h2 => ?_) k3, ?_, ?_, trivial⟩, cAt_off _ _ (fun z h1 h2 => ?_) n3⟩, ?_, trivial⟩
      · rw [xI_ne (by omega), xI_ne (by omega), xI_ne (by omega), n2 z (by omega), xI_ne (by omega), xI_ne (by omega), xI_ne (by omega), xI_ne (by omega), xI_ne (by omega)]
      · rw [xI_ne (by omega), xI_ne (by omega), xI_ne (by omega), n2 _ (by omega), xI_ne (by omega), xI_ne (by omega), xI_ne (by omega)]
        exact xI_eq
      · rw [xI_eq, xI_eq, show m + a.2.2.1.length + 2 + b.2.2.1.length + 1 = m + a.2.2.1.length + 1 + 1 + b.2.2.1.length + 1 by omega]
      · have h1 : m + (a.2.2.1.length + 2) ≤ z := h1
        rw [xI_ne (by omega), xI_ne (by omega), xI_ne (by show ¬ ((11 : Nat) = 11 ∧ z = m + a.2.2.1.length + 1 + 1 + b.2.2.1.length); have h2 : z < m + (a.2.2.1.length + 2) + b.2.2.1.length := h2; omega)]
      · rw [xI_ne (by show ¬ ((11 : Nat) = 11 ∧ m + (a.2.2.1.length + 2 + b.2.2.1.length) = m + a.2.2.1.length + 1); omega), xI_ne (by omega)]
        rw [show m + (a.2.2.1.length + [(-63 : Int32), nI (m + a.2.2.1.length + 2 + b.2.2.1.length + 1)].length + b.2.2.1.length) = m + a.2.2.1.length + 1 + 1 + b.2.2.1.length by show m + (a.2.2.1.length + 2 + b.2.2.1.length) = _; omega]
        exact xI_eq
/-- the whole text's end -/
def qTp (r : zLn) (N : Nat) (I0 : zIM) (L0 : zLM) : Int32 → zIM → zLM → Prop := fun y I' L' => L0 = L' ∧ I' 9 0 = 0 ∧
  ((r.1 = true ∧ r.2.1 = N ∧ y = -1 ∧ I' 9 6 = nI r.2.2.1.length ∧ cAt 12 r.2.2.1 0 I' ∧ ∀ a b, a ≠ 11 → a ≠ 12 → ¬ (a = 9 ∧ (b = 0 ∨ b = 2 ∨ b = 4 ∨ b = 6)) → I' a b = I0 a b) ∨
  (¬ (r.1 = true ∧ r.2.1 = N) ∧ y = nI r.2.1 ∧ ∀ a b, a ≠ 11 → ¬ (a = 9 ∧ (b = 0 ∨ b = 2 ∨ b = 4)) → I' a b = I0 a b))
def lT2 (N : Nat) (r : zLn) : Prop := r.2.1 ≤ N ∧ (r.1 = true → r.2.2.1.length ≤ 2 * r.2.1 + 1)
theorem cAt_copy {I I' : zIM} : ∀ (cs : List Int32) (m : Nat), (∀ b, m ≤ b → b < m + cs.length → I' 12 b = I 11 b) → cAt 11 cs m I → cAt 12 cs m I'
  | [], m, h, hc => trivial
  | c :: cs, m, h, hc => by
    rw [List.length_cons] at h
    exact ⟨(h m (Nat.le_refl _) (by omega)).trans hc.1, cAt_copy cs (m + 1) (fun b h1 h2 => h b (by omega) (by omega)) hc.2⟩
theorem cRT {I0 : zIM} (hw0 : tW X N I0) (hd : 120 ≤ d) : ∀ f i r I1, f + i = 120 → lT2 N r → qR (toP r) 0 I0 L (b2 r.1) I1 L → K_X3_readTape_17 l G d (qTp (pTx X N f r) N I0 L) I1 L (b2 r.1) (nI i) := by
  have hN := hw0.2.2.1
  have fin : ∀ r I1, lT2 N r → qR (toP r) 0 I0 L (b2 r.1) I1 L → ((b2 r.1 = 0 → (K_X3_readTape_80 l G d (qTp r N I0 L) I1 L (I1 9 2))) ∧ (¬ b2 r.1 = 0 → (((¬ (I1 9 2) = (I1 9 0) → (K_X3_readTape_80 l G d (qTp r N I0 L) I1 L (I1 9 2))) ∧ ((I1 9 2) = (I1 9 0) → (K_X3_readTape_80 l G d (qTp r N I0 L) I1 L (-1 : Int32))))))) := by
    rintro r I1 ⟨hrN, hlen⟩ ⟨-, -, g3, g4, ⟨m1, g5, g5'⟩, g6⟩
    have g3 : I1 9 2 = nI r.2.1 := g3
    have e90 : I1 9 0 = nI N := (g4 9 0 (by omega) (by omega)).trans hw0.1
    have bad : ¬ (r.1 = true ∧ r.2.1 = N) → K_X3_readTape_80 l G d (qTp r N I0 L) I1 L (nI r.2.1) := fun hn =>
      t_X3_readTape_80 (by omega) ⟨fun _ => t_X3_readTape_111 ⟨rfl, xI_eq, Or.inr ⟨hn, rfl, fun a b h1 h2 => (xI_ne (by omega)).trans (g4 a b h1 (by omega))⟩⟩, fun c => absurd c (nI_nm (by omega)).1⟩
    rw [g3, e90]
    refine ⟨fun c => bad fun z => ?_, fun c => ⟨fun c2 => bad fun z => c2 (by rw [z.2]), fun c2 => ?_⟩⟩
    · rw [z.1] at c
      exact i1_0 c
    · have er : r.1 = true := by
        cases hh : r.1 with
        | true => rfl
        | false => rw [hh] at c; exact absurd rfl c
      have eN : r.2.1 = N := nI_inj (by omega) (by omega) c2
      obtain ⟨k1, -, k3⟩ := g6 er
      have k1 : I1 9 4 = nI r.2.2.1.length := by rw [k1, Nat.zero_add]; rfl
      have k3 : cAt 11 r.2.2.1 0 I1 := k3
      have hl := hlen er
      refine t_X3_readTape_80 (by omega) ⟨fun c => absurd rfl c, fun _ => ⟨r.2.2.1.length, k1, by omega, by omega, t_X3_readTape_111 ⟨rfl, xI_eq, Or.inl ⟨er, eN, rfl, ?_, ?_, fun a b h1 h2 h3 => ?_⟩⟩⟩⟩
      · rw [xI_ne (by omega), xI_eq]
        show (if _ then _ else _) = _
        rw [if_neg (by omega)]
        exact k1
      · refine cAt_copy (I := I1) _ _ (fun b h1 h2 => ?_) k3
        rw [xI_ne (by omega), xI_ne (by omega)]
        show (if (12 = 12 ∧ (0 ≤ b ∧ b < 0 + r.2.2.1.length)) then I1 11 (0 + (b - 0)) else I1 12 b) = I1 11 b
        rw [if_pos ⟨rfl, h1, h2⟩, Nat.zero_add, Nat.sub_zero]
      · rw [xI_ne (by omega), xI_ne (by omega)]
        show (if (a = 12 ∧ _) then _ else I1 a b) = _
        rw [if_neg (fun z => h2 z.1)]
        exact g4 a b h1 (by omega)
  intro f
  induction f with
  | zero =>
    intro i r I1 h hr hq
    exact t_X3_readTape_17 ⟨fun _ => fin r I1 hr hq, fun c => absurd (nI_le (a := 120) (by omega) (by omega)) c⟩
  | succ f ih =>
    intro i r I1 h hr hq
    obtain ⟨-, -, g3, g4, -, g6⟩ := id hq
    have g3 : I1 9 2 = nI r.2.1 := g3
    have hrN := hr.1
    have hw1 : tW X N I1 := hw0.off (g4 _ _ (by omega) (by omega)) (fun b => g4 10 b (by omega) (by omega))
    unfold pTx
    refine t_X3_readTape_17 ⟨fun c => absurd c (nI_ge (b := 120) (by omega) (by omega)), fun _ => ⟨fun c => ?_, fun c => ?_⟩⟩
    · have e : ¬ r.1 = true := fun z => by rw [z] at c; exact i1_0 c
      rw [if_neg (fun z => e z.1)]
      exact fin r I1 hr hq
    · have er : r.1 = true := by
        cases hh : r.1 with
        | true => rfl
        | false => rw [hh] at c; exact absurd rfl c
      refine bE 0 (cNx hw1 g3 hrN) (by omega) ⟨fun c2 => ?_, fun c2 => ?_⟩
      · have t59 : ¬ tB X N r.2.1 = 59 := fun z => c2 ((nx_eq (c := 59) hw0.2.2.2 (by omega) (by omega)).mpr z)
        rw [if_neg (fun z => t59 z.2)]
        exact fin r I1 hr hq
      · have t59 : tB X N r.2.1 = 59 := (nx_eq (c := 59) hw0.2.2.2 (by omega) (by omega)).mp c2
        have hlt : r.2.1 < N := tB_lt (X := X) (by omega)
        rw [if_pos ⟨er, t59⟩, g3, nI_1]
        obtain ⟨k1, -, k3⟩ := g6 er
        have k1 : I1 9 4 = nI r.2.2.1.length := by rw [k1, Nat.zero_add]; rfl
        have k3 : cAt 11 r.2.2.1 0 I1 := k3
        have hl := hr.2 er
        have hpre : tP X N (r.2.1 + 1) r.2.2.1.length (xI I1 9 2 (nI (r.2.1 + 1))) := ⟨hw1.off (xI_ne (by omega)) (fun b => xI_ne (by omega)), xI_eq, (xI_ne (by omega)).trans k1, hlt, by omega⟩
        have hln := pLn_ok (X := X) (N := N) (p := r.2.1 + 1) (m := r.2.2.1.length) hlt
        refine ⟨110, _, by omega, cLine hpre (by omega) (Nat.le_refl 110), ?_⟩
        generalize pLn X N (r.2.1 + 1) r.2.2.1.length = r2 at hln ⊢
        rintro y11 I11 _ ⟨rfl, rfl, j3, j4, j5, j6⟩
        rw [nI_1]
        refine ih (i + 1) (r2.1, r2.2.1, r.2.2.1 ++ r2.2.2.1, _) I11 (by omega) ⟨hln.2.1, fun z => ?_⟩ ⟨rfl, rfl, j3, fun a b h1 h2 => (j4 a b h1 h2).trans ((xI_ne (by omega)).trans (g4 a b h1 h2)), j5, fun z => ?_⟩
        · have := hln.2.2 z
          show (r.2.2.1 ++ r2.2.2.1).length ≤ 2 * r2.2.1 + 1
          rw [List.length_append]
          omega
        · obtain ⟨n1, n2, n3⟩ := j6 z
          refine ⟨?_, fun b hb => absurd hb (Nat.not_lt_zero _), ?_⟩
          · show _ = nI (0 + (r.2.2.1 ++ r2.2.2.1).length)
            rw [List.length_append, Nat.zero_add]
            exact n1
          · show cAt 11 (r.2.2.1 ++ r2.2.2.1) 0 I11
            rw [cAt_app, Nat.zero_add]
            exact ⟨cAt_off _ _ (fun b h1 h2 => by rw [n2 b (by omega), xI_ne (by omega)]) k3, n3⟩
theorem cReadTape (hw : tW X N I) (hd : 120 ≤ d) : zCi l G d mX3_readTape [.ref 9] I L (qTp (pAll X N) N I L) := by
  have hN := hw.2.2.1
  have hln := pLn_ok (X := X) (N := N) (p := 0) (m := 0) (Nat.zero_le _)
  have hpre : tP X N 0 0 (xI (xI I 9 2 (0 : Int32)) 9 4 (0 : Int32)) := ⟨hw.off (by rw [xI_ne (by omega), xI_ne (by omega)]) (fun b => by rw [xI_ne (by omega), xI_ne (by omega)]), by rw [xI_ne (by omega), xI_eq, nI_0], by rw [xI_eq, nI_0], Nat.zero_le _, Nat.zero_le _⟩
  refine t_X3_readTape ⟨110, _, by omega, cLine hpre (Nat.le_refl 0) (Nat.le_refl 110), ?_⟩
  unfold pAll
  generalize pLn X N 0 0 = r at hln ⊢
  rintro y I1 _ ⟨rfl, rfl, g3, g4, g5, g6⟩
  have := cRT (l := l) (G := G) (d := d) (L := L) hw hd 120 0 r I1 rfl ⟨hln.2.1, fun z => by have := hln.2.2 z; omega⟩ ⟨rfl, rfl, g3, fun a b h1 h2 => (g4 a b h1 h2).trans (by rw [xI_ne (by omega), xI_ne (by omega)]), g5, fun z => ⟨(g6 z).1, fun b hb => absurd hb (Nat.not_lt_zero _), (g6 z).2.2⟩⟩
  rw [nI_0] at this
  exact this
end LR
