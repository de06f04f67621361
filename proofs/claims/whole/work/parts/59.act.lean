/-! ===== public call: act ===== -/
def aB (k : Nat) : Nat := if k = 3 then 2 else if k = 4 then 1 else if k = 5 then 3 else if k = 7 then 4 else 0
/-- the KIND whose body runs -/
def oW (act : Nat) : Nat → Nat → Nat
  | 0, k => k
  | f + 1, k => if k = 0 ∨ ¬ zOWN (k * 4 + act) = 0 then k else oW act f (aB k)
theorem aB_ok : ∀ k, k < 8 → (k ≠ 0 → zABO k = nI (aB k)) ∧ aB k < 8 := by decide +kernel
theorem oW_lt (act : Nat) : ∀ f k, k < 8 → oW act f k < 8
  | 0, k, h => h
  | f + 1, k, h => by
    unfold oW
    split
    · exact h
    · exact oW_lt act f _ (aB_ok k h).2
/-- the trace when codes have been added to n -/
def tC : List Int32 → Nat → zIM → zIM
  | [], _, I => I
  | c :: cs, n, I => tC cs (n + 1) (xI (if n < 24 then xI I 29 n c else I) 27 3 (nI (n + 1)))
def tM : List Int32 → Nat → zIM → zIM
  | [], _, I => I
  | c :: cs, n, I => tM cs (n + 1) (xI (if n < 24 then xI I 64 n c else I) 44 43 (nI (n + 1)))
theorem tC_off : ∀ (cs : List Int32) (n : Nat) (I : zIM) (a b : Nat), a ≠ 29 → ¬ (a = 27 ∧ b = 3) → tC cs n I a b = I a b
  | [], n, I, a, b, h1, h2 => rfl
  | c :: cs, n, I, a, b, h1, h2 => by
    unfold tC
    rw [tC_off cs _ _ a b h1 h2, xI_ne h2]
    split
    · exact xI_ne (by omega)
    · rfl
theorem tM_off : ∀ (cs : List Int32) (n : Nat) (I : zIM) (a b : Nat), a ≠ 64 → ¬ (a = 44 ∧ b = 43) → tM cs n I a b = I a b
  | [], n, I, a, b, h1, h2 => rfl
  | c :: cs, n, I, a, b, h1, h2 => by
    unfold tM
    rw [tM_off cs _ _ a b h1 h2, xI_ne h2]
    split
    · exact xI_ne (by omega)
    · rfl
theorem tC_ran : ∀ (cs : List Int32) (n : Nat) (I : zIM), I 27 3 = nI n → tC cs n I 27 3 = nI (n + cs.length)
  | [], n, I, h => h
  | c :: cs, n, I, h => by
    unfold tC
    rw [tC_ran cs (n + 1) _ xI_eq, List.length_cons, Nat.add_comm cs.length 1, Nat.add_assoc]
theorem tM_ran : ∀ (cs : List Int32) (n : Nat) (I : zIM), I 44 43 = nI n → tM cs n I 44 43 = nI (n + cs.length)
  | [], n, I, h => h
  | c :: cs, n, I, h => by
    unfold tM
    rw [tM_ran cs (n + 1) _ xI_eq, List.length_cons, Nat.add_comm cs.length 1, Nat.add_assoc]
theorem tC_app : ∀ (a b : List Int32) (n : Nat) (I : zIM), tC (a ++ b) n I = tC b (n + a.length) (tC a n I)
  | [], b, n, I => rfl
  | c :: a, b, n, I => by
    show tC (a ++ b) (n + 1) _ = tC b (n + (a.length + 1)) (tC a (n + 1) _)
    rw [tC_app a b (n + 1), Nat.add_assoc, Nat.add_comm 1]
theorem tM_app : ∀ (a b : List Int32) (n : Nat) (I : zIM), tM (a ++ b) n I = tM b (n + a.length) (tM a n I)
  | [], b, n, I => rfl
  | c :: a, b, n, I => by
    show tM (a ++ b) (n + 1) _ = tM b (n + (a.length + 1)) (tM a (n + 1) _)
    rw [tM_app a b (n + 1), Nat.add_assoc, Nat.add_comm 1]
theorem t_same : ∀ (cs : List Int32) (n : Nat) (I J : zIM), (∀ i, i < n → i < 24 → I 29 i = J 64 i) → ∀ i, i < n + cs.length → i < 24 → tC cs n I 29 i = tM cs n J 64 i
  | [], n, I, J, h, i, h1, h2 => h i h1 h2
  | c :: cs, n, I, J, h, i, h1, h2 => by
    unfold tC tM
    rw [List.length_cons] at h1
    refine t_same cs (n + 1) _ _ (fun j hj hj2 => ?_) i (by omega) h2
    rw [xI_ne (by omega), xI_ne (by omega)]
    by_cases e : j = n
    · subst e
      rw [if_pos hj2, if_pos hj2, xI_eq, xI_eq]
    · split
      · rw [xI_ne (by omega), xI_ne (by omega)]
        exact h j (by omega) hj2
      · exact h j (by omega) hj2
/-! what an act answers, which bodies run -/
def lA (k : Nat) : List Int32 := if k = 1 ∨ k = 4 ∨ k = 7 then [20, 1] else if k = 6 then [70, 1] else [1]
def wA (b : Int32) (k : Nat) (x : Int32) : Int32 := if k = 1 ∨ k = 4 ∨ k = 7 then x + b + 3 else if k = 6 then (x + b) * 2 else x + b
def lH (K k : Nat) : List Int32 := if k = 3 ∨ k = 5 then [40, 11] else if k = 4 ∨ k = 7 then [50, 11] ++ lA K else [11]
def wH (b : Int32) (K k : Nat) (x : Int32) : Int32 := if k = 3 ∨ k = 5 then (x ^^^ b) * 3 else if k = 4 ∨ k = 7 then (x ^^^ b) - wA b K 2 else x ^^^ b
def lT0 (K : Nat) : List Int32 := 10 :: lA K
def wT0 (b : Int32) (K : Nat) (x : Int32) : Int32 := wA b K x * 2
def lT (K k : Nat) : List Int32 := if k = 3 ∨ k = 5 then 41 :: 30 :: lT0 K else if k = 2 then 30 :: lT0 K else if k = 7 then 80 :: (lT0 K ++ lH K K) else lT0 K
def wT (b : Int32) (K k : Nat) (x : Int32) : Int32 := if k = 3 ∨ k = 5 then -(wT0 b K (x + 1)) else if k = 2 then -(wT0 b K x) else if k = 7 then wT0 b K x + wH b K K 2 else wT0 b K x
def lL0 (K : Nat) : List Int32 := 2 :: (lT K K ++ lH K K)
def wL0 (b : Int32) (K : Nat) (x : Int32) : Int32 := wT b K K x - wH b K K 1
def lL (K k : Nat) : List Int32 := if k = 5 then 60 :: lL0 K else if k = 7 then 81 :: lL0 K else lL0 K
def wL (b : Int32) (K k : Nat) (x : Int32) : Int32 := if k = 5 then wL0 b K x ^^^ 5 else if k = 7 then wL0 b K x - 1 else wL0 b K x
theorem l_len : ∀ K, K < 8 → ∀ k, k < 8 → (lA k).length ≤ 60 ∧ (lH K k).length ≤ 60 ∧ (lT K k).length ≤ 60 ∧ (lL K k).length ≤ 60 := by decide +kernel
/-- answers e, leaves the world I1 L -/
def zF {α : Type} (e : α) (I1 : zIM) (L : zLM) : α → zIM → zLM → Prop := fun y I' L' => e = y ∧ I1 = I' ∧ L = L'
section AF
variable {l : Launch} {G : zG} {d d1 : Nat} {M : zM} {args : List Value} {I I1 : zIM} {L : zLM}
theorem bF (d1 : Nat) {e : Int32} {K : Int32 → zIM → zLM → Prop} (h : zCi l G d1 M args I L (zF e I1 L)) (hd : d1 + 1 ≤ d) (k : K e I1 L) : ∃ (d2 : Nat) (P2 : Int32 → zIM → zLM → Prop), d2 + 1 ≤ d ∧ zCi l G d2 M args I L P2 ∧ ∀ (y : Int32) (I1 : zIM) (L1 : zLM), P2 y I1 L1 → K y I1 L1 :=
  ⟨d1, _, hd, h, fun _ _ _ ⟨a, b, c⟩ => by subst a; subst b; subst c; exact k⟩
theorem bV (d1 : Nat) {K : zIM → zLM → Prop} (h : zCv l G d1 M args I L (zU I1 L)) (hd : d1 + 1 ≤ d) (k : K I1 L) : ∃ (d2 : Nat) (P2 : zIM → zLM → Prop), d2 + 1 ≤ d ∧ zCv l G d2 M args I L P2 ∧ ∀ (I1 : zIM) (L1 : zLM), P2 I1 L1 → K I1 L1 :=
  ⟨d1, _, hd, h, fun _ _ ⟨b, c⟩ => by subst b; subst c; exact k⟩
end AF
section RB
variable {l : Launch} {G : zG} {d : Nat} {I : zIM} {L : zLM} {P : Int32 → zIM → zLM → Prop} {x2 x3 x4 : Int32}
theorem rb_1 (h : P (x3 + (I 27 4)) I L) : zCi l G d mX6_runBody [.ref 27, .int (1 : Int32), .int x2, .int x3, .int x4] I L P :=
  t_X6_runBody ⟨fun _ => h, fun c => absurd c (by decide), fun c => absurd c (by decide), fun c => absurd c (by decide), fun c => absurd c (by decide), fun c => absurd c (by decide), fun c => absurd c (by decide), fun c => absurd c (by decide), fun c => absurd c (by decide), fun c => absurd c (by decide), fun c => absurd c (by decide), fun c => absurd c (by decide), fun c => absurd rfl c⟩
theorem rb_2 (h : (∃ (d2 : Nat) (Qd2 : Int32 → zIM → zLM → Prop), d2 + 1 ≤ d ∧ zCi l G d2 mX6_own [.ref 27, .int (1 : Int32), .int x3, .int x4] I L Qd2 ∧ ∀ (yd2 : Int32) (Id2 : zIM) (Ld2 : zLM), Qd2 yd2 Id2 Ld2 → ((∃ (d3 : Nat) (Qd3 : Int32 → zIM → zLM → Prop), d3 + 1 ≤ d ∧ zCi l G d3 mX6_own [.ref 27, .int (2 : Int32), .int (1 : Int32), .int x4] Id2 Ld2 Qd3 ∧ ∀ (yd3 : Int32) (Id3 : zIM) (Ld3 : zLM), Qd3 yd3 Id3 Ld3 → (P (yd2 - yd3) Id3 Ld3))))) : zCi l G d mX6_runBody [.ref 27, .int (2 : Int32), .int x2, .int x3, .int x4] I L P :=
  t_X6_runBody ⟨fun c => absurd c (by decide), fun _ => h, fun c => absurd c (by decide), fun c => absurd c (by decide), fun c => absurd c (by decide), fun c => absurd c (by decide), fun c => absurd c (by decide), fun c => absurd c (by decide), fun c => absurd c (by decide), fun c => absurd c (by decide), fun c => absurd c (by decide), fun c => absurd c (by decide), fun _ c => absurd rfl c⟩
theorem rb_10 (h : (∃ (d2 : Nat) (Qd2 : Int32 → zIM → zLM → Prop), d2 + 1 ≤ d ∧ zCi l G d2 mX6_own [.ref 27, .int (0 : Int32), .int x3, .int x4] I L Qd2 ∧ ∀ (yd2 : Int32) (Id2 : zIM) (Ld2 : zLM), Qd2 yd2 Id2 Ld2 → (P (yd2 * (2 : Int32)) Id2 Ld2))) : zCi l G d mX6_runBody [.ref 27, .int (10 : Int32), .int x2, .int x3, .int x4] I L P :=
  t_X6_runBody ⟨fun c => absurd c (by decide), fun c => absurd c (by decide), fun _ => h, fun c => absurd c (by decide), fun c => absurd c (by decide), fun c => absurd c (by decide), fun c => absurd c (by decide), fun c => absurd c (by decide), fun c => absurd c (by decide), fun c => absurd c (by decide), fun c => absurd c (by decide), fun c => absurd c (by decide), fun _ _ c => absurd rfl c⟩
theorem rb_11 (h : P (x3 ^^^ (I 27 4)) I L) : zCi l G d mX6_runBody [.ref 27, .int (11 : Int32), .int x2, .int x3, .int x4] I L P :=
  t_X6_runBody ⟨fun c => absurd c (by decide), fun c => absurd c (by decide), fun c => absurd c (by decide), fun _ => h, fun c => absurd c (by decide), fun c => absurd c (by decide), fun c => absurd c (by decide), fun c => absurd c (by decide), fun c => absurd c (by decide), fun c => absurd c (by decide), fun c => absurd c (by decide), fun c => absurd c (by decide), fun _ _ _ c => absurd rfl c⟩
theorem rb_20 (h : (∃ (d2 : Nat) (Qd2 : Int32 → zIM → zLM → Prop), d2 + 1 ≤ d ∧ zCi l G d2 mX6_run [.ref 27, .int x2, .int (0 : Int32), .int x3, .int x4] I L Qd2 ∧ ∀ (yd2 : Int32) (Id2 : zIM) (Ld2 : zLM), Qd2 yd2 Id2 Ld2 → (P (yd2 + (3 : Int32)) Id2 Ld2))) : zCi l G d mX6_runBody [.ref 27, .int (20 : Int32), .int x2, .int x3, .int x4] I L P :=
  t_X6_runBody ⟨fun c => absurd c (by decide), fun c => absurd c (by decide), fun c => absurd c (by decide), fun c => absurd c (by decide), fun _ => h, fun c => absurd c (by decide), fun c => absurd c (by decide), fun c => absurd c (by decide), fun c => absurd c (by decide), fun c => absurd c (by decide), fun c => absurd c (by decide), fun c => absurd c (by decide), fun _ _ _ _ c => absurd rfl c⟩
theorem rb_30 (h : (∃ (d2 : Nat) (Qd2 : Int32 → zIM → zLM → Prop), d2 + 1 ≤ d ∧ zCi l G d2 mX6_run [.ref 27, .int x2, .int (1 : Int32), .int x3, .int x4] I L Qd2 ∧ ∀ (yd2 : Int32) (Id2 : zIM) (Ld2 : zLM), Qd2 yd2 Id2 Ld2 → (P (-yd2) Id2 Ld2))) : zCi l G d mX6_runBody [.ref 27, .int (30 : Int32), .int x2, .int x3, .int x4] I L P :=
  t_X6_runBody ⟨fun c => absurd c (by decide), fun c => absurd c (by decide), fun c => absurd c (by decide), fun c => absurd c (by decide), fun c => absurd c (by decide), fun _ => h, fun c => absurd c (by decide), fun c => absurd c (by decide), fun c => absurd c (by decide), fun c => absurd c (by decide), fun c => absurd c (by decide), fun c => absurd c (by decide), fun _ _ _ _ _ c => absurd rfl c⟩
theorem rb_40 (h : (∃ (d2 : Nat) (Qd2 : Int32 → zIM → zLM → Prop), d2 + 1 ≤ d ∧ zCi l G d2 mX6_run [.ref 27, .int x2, .int (2 : Int32), .int x3, .int x4] I L Qd2 ∧ ∀ (yd2 : Int32) (Id2 : zIM) (Ld2 : zLM), Qd2 yd2 Id2 Ld2 → (P (yd2 * (3 : Int32)) Id2 Ld2))) : zCi l G d mX6_runBody [.ref 27, .int (40 : Int32), .int x2, .int x3, .int x4] I L P :=
  t_X6_runBody ⟨fun c => absurd c (by decide), fun c => absurd c (by decide), fun c => absurd c (by decide), fun c => absurd c (by decide), fun c => absurd c (by decide), fun c => absurd c (by decide), fun _ => h, fun c => absurd c (by decide), fun c => absurd c (by decide), fun c => absurd c (by decide), fun c => absurd c (by decide), fun c => absurd c (by decide), fun _ _ _ _ _ _ c => absurd rfl c⟩
theorem rb_41 (h : (∃ (d2 : Nat) (Qd2 : Int32 → zIM → zLM → Prop), d2 + 1 ≤ d ∧ zCi l G d2 mX6_run [.ref 27, .int x2, .int (1 : Int32), .int (x3 + (1 : Int32)), .int x4] I L Qd2 ∧ ∀ (yd2 : Int32) (Id2 : zIM) (Ld2 : zLM), Qd2 yd2 Id2 Ld2 → (P (yd2) Id2 Ld2))) : zCi l G d mX6_runBody [.ref 27, .int (41 : Int32), .int x2, .int x3, .int x4] I L P :=
  t_X6_runBody ⟨fun c => absurd c (by decide), fun c => absurd c (by decide), fun c => absurd c (by decide), fun c => absurd c (by decide), fun c => absurd c (by decide), fun c => absurd c (by decide), fun c => absurd c (by decide), fun _ => h, fun c => absurd c (by decide), fun c => absurd c (by decide), fun c => absurd c (by decide), fun c => absurd c (by decide), fun _ _ _ _ _ _ _ c => absurd rfl c⟩
theorem rb_50 (h : (∃ (d2 : Nat) (Qd2 : Int32 → zIM → zLM → Prop), d2 + 1 ≤ d ∧ zCi l G d2 mX6_run [.ref 27, .int x2, .int (2 : Int32), .int x3, .int x4] I L Qd2 ∧ ∀ (yd2 : Int32) (Id2 : zIM) (Ld2 : zLM), Qd2 yd2 Id2 Ld2 → ((∃ (d3 : Nat) (Qd3 : Int32 → zIM → zLM → Prop), d3 + 1 ≤ d ∧ zCi l G d3 mX6_own [.ref 27, .int (0 : Int32), .int (2 : Int32), .int x4] Id2 Ld2 Qd3 ∧ ∀ (yd3 : Int32) (Id3 : zIM) (Ld3 : zLM), Qd3 yd3 Id3 Ld3 → (P (yd2 - yd3) Id3 Ld3))))) : zCi l G d mX6_runBody [.ref 27, .int (50 : Int32), .int x2, .int x3, .int x4] I L P :=
  t_X6_runBody ⟨fun c => absurd c (by decide), fun c => absurd c (by decide), fun c => absurd c (by decide), fun c => absurd c (by decide), fun c => absurd c (by decide), fun c => absurd c (by decide), fun c => absurd c (by decide), fun c => absurd c (by decide), fun _ => h, fun c => absurd c (by decide), fun c => absurd c (by decide), fun c => absurd c (by decide), fun _ _ _ _ _ _ _ _ c => absurd rfl c⟩
theorem rb_60 (h : (∃ (d2 : Nat) (Qd2 : Int32 → zIM → zLM → Prop), d2 + 1 ≤ d ∧ zCi l G d2 mX6_run [.ref 27, .int x2, .int (3 : Int32), .int x3, .int x4] I L Qd2 ∧ ∀ (yd2 : Int32) (Id2 : zIM) (Ld2 : zLM), Qd2 yd2 Id2 Ld2 → (P (yd2 ^^^ (5 : Int32)) Id2 Ld2))) : zCi l G d mX6_runBody [.ref 27, .int (60 : Int32), .int x2, .int x3, .int x4] I L P :=
  t_X6_runBody ⟨fun c => absurd c (by decide), fun c => absurd c (by decide), fun c => absurd c (by decide), fun c => absurd c (by decide), fun c => absurd c (by decide), fun c => absurd c (by decide), fun c => absurd c (by decide), fun c => absurd c (by decide), fun c => absurd c (by decide), fun _ => h, fun c => absurd c (by decide), fun c => absurd c (by decide), fun _ _ _ _ _ _ _ _ _ c => absurd rfl c⟩
theorem rb_70 (h : (∃ (d2 : Nat) (Qd2 : Int32 → zIM → zLM → Prop), d2 + 1 ≤ d ∧ zCi l G d2 mX6_run [.ref 27, .int x2, .int (0 : Int32), .int x3, .int x4] I L Qd2 ∧ ∀ (yd2 : Int32) (Id2 : zIM) (Ld2 : zLM), Qd2 yd2 Id2 Ld2 → (P (yd2 * (2 : Int32)) Id2 Ld2))) : zCi l G d mX6_runBody [.ref 27, .int (70 : Int32), .int x2, .int x3, .int x4] I L P :=
  t_X6_runBody ⟨fun c => absurd c (by decide), fun c => absurd c (by decide), fun c => absurd c (by decide), fun c => absurd c (by decide), fun c => absurd c (by decide), fun c => absurd c (by decide), fun c => absurd c (by decide), fun c => absurd c (by decide), fun c => absurd c (by decide), fun c => absurd c (by decide), fun _ => h, fun c => absurd c (by decide), fun _ _ _ _ _ _ _ _ _ _ c => absurd rfl c⟩
theorem rb_80 (h : (∃ (d2 : Nat) (Qd2 : Int32 → zIM → zLM → Prop), d2 + 1 ≤ d ∧ zCi l G d2 mX6_run [.ref 27, .int x2, .int (1 : Int32), .int x3, .int x4] I L Qd2 ∧ ∀ (yd2 : Int32) (Id2 : zIM) (Ld2 : zLM), Qd2 yd2 Id2 Ld2 → ((∃ (d3 : Nat) (Qd3 : Int32 → zIM → zLM → Prop), d3 + 1 ≤ d ∧ zCi l G d3 mX6_own [.ref 27, .int (2 : Int32), .int (2 : Int32), .int x4] Id2 Ld2 Qd3 ∧ ∀ (yd3 : Int32) (Id3 : zIM) (Ld3 : zLM), Qd3 yd3 Id3 Ld3 → (P (yd2 + yd3) Id3 Ld3))))) : zCi l G d mX6_runBody [.ref 27, .int (80 : Int32), .int x2, .int x3, .int x4] I L P :=
  t_X6_runBody ⟨fun c => absurd c (by decide), fun c => absurd c (by decide), fun c => absurd c (by decide), fun c => absurd c (by decide), fun c => absurd c (by decide), fun c => absurd c (by decide), fun c => absurd c (by decide), fun c => absurd c (by decide), fun c => absurd c (by decide), fun c => absurd c (by decide), fun c => absurd c (by decide), fun _ => h, fun _ _ _ _ _ _ _ _ _ _ _ c => absurd rfl c⟩
theorem rb_81 (h : (∃ (d2 : Nat) (Qd2 : Int32 → zIM → zLM → Prop), d2 + 1 ≤ d ∧ zCi l G d2 mX6_run [.ref 27, .int x2, .int (3 : Int32), .int x3, .int x4] I L Qd2 ∧ ∀ (yd2 : Int32) (Id2 : zIM) (Ld2 : zLM), Qd2 yd2 Id2 Ld2 → (P (yd2 - (1 : Int32)) Id2 Ld2))) : zCi l G d mX6_runBody [.ref 27, .int (81 : Int32), .int x2, .int x3, .int x4] I L P :=
  t_X6_runBody ⟨fun c => absurd c (by decide), fun c => absurd c (by decide), fun c => absurd c (by decide), fun c => absurd c (by decide), fun c => absurd c (by decide), fun c => absurd c (by decide), fun c => absurd c (by decide), fun c => absurd c (by decide), fun c => absurd c (by decide), fun c => absurd c (by decide), fun c => absurd c (by decide), fun c => absurd c (by decide), fun _ _ _ _ _ _ _ _ _ _ _ _ => h⟩
theorem cRun_6 {x dp : Int32} {act : Nat} (ha : act < 4) : ∀ f k i, f + i = 8 → k < 8 → K_X6_run_45 l G d P I L (nI act) x dp (nI (oW act f k)) → K_X6_run_6 l G d P I L (nI act) x dp (nI k) (nI i)
  | 0, k, i, h, hk, hh => t_X6_run_6 ⟨fun _ => hh, fun c => absurd (nI_le (a := 8) (by omega) (by omega)) c⟩
  | f + 1, k, i, h, hk, hh => by
    unfold oW at hh
    refine t_X6_run_6 ⟨fun c => absurd c (nI_ge (b := 8) (by omega) (by omega)), fun _ => ⟨fun c => ?_, fun c => ⟨k * 4 + act, q_4p k act, by omega, fun c2 => ?_, fun c2 => ⟨k, rfl, hk, ?_⟩⟩⟩⟩
    · have e : k = 0 := by
        rw [← nI_0] at c
        have := (nI_le_iff (by omega) (by omega)).mp c
        omega
      rw [if_pos (Or.inl e)] at hh
      exact hh
    · rw [if_pos (Or.inr c2)] at hh
      exact hh
    · have e : k ≠ 0 := fun z => c (by rw [z]; decide)
      rw [if_neg (fun z => z.elim e (fun z => z c2))] at hh
      rw [(aB_ok k hk).1 e, nI_1]
      exact cRun_6 ha f (aB k) (i + 1) (by omega) (aB_ok k hk).2 hh
theorem cRun {x : Int32} {k act n dp j d1 : Nat} {c u : Int32} (hk : k < 8) (ha : act < 4) (hdp : dp ≤ 40) (hn : n < 900) (hr : I 27 3 = nI n) (hj : oW act 8 k = j) (hc : zOWN (j * 4 + act) = c) (hu : zABO j = u)
    (h : zCi l G d1 mX6_runBody [.ref 27, .int c, .int u, .int x, .int (nI (dp + 1))] (tC [c] n I) L P) (hd : d1 + 1 ≤ d) : zCi l G d mX6_run [.ref 27, .int (nI k), .int (nI act), .int x, .int (nI dp)] I L P := by
  have hj8 : j < 8 := by rw [← hj]; exact oW_lt act 8 k hk
  refine t_X6_run (cRun_6 ha 8 k 0 rfl hk ?_)
  rw [hj]
  refine t_X6_run_45 ⟨fun c => absurd c (nI_pos (by omega)), fun _ => ⟨fun _ => ⟨j * 4 + act, q_4p j act, by omega, ?_⟩, fun c => absurd (nI_le (b := 40) (by omega) (by omega)) c⟩⟩
  rw [hc, hr]
  have h91 : ∀ J, (xI J 27 3 (nI (n + 1)) = tC [c] n I) → J 27 3 = nI n → K_X6_run_91 l G d P J L x (nI dp) (nI j) c := by
    intro J e1 e2
    refine t_X6_run_91 ⟨j, rfl, hj8, d1, P, hd, ?_, fun _ _ _ h => h⟩
    rw [e2, nI_1, nI_1, e1, hu]
    exact h
  refine ⟨fun c2 => ?_, fun c2 => ⟨n, rfl, ?_, ?_⟩⟩
  · have : 24 ≤ n := (nI_le_iff (a := 24) (by omega) (by omega)).mp c2
    refine h91 I ?_ hr
    show _ = xI (if n < 24 then xI I 29 n c else I) 27 3 (nI (n + 1))
    rw [if_neg (by omega)]
  · exact Nat.not_le.mp fun z => c2 (nI_le (a := 24) z (by omega))
  · have h24 : n < 24 := Nat.not_le.mp fun z => c2 (nI_le (a := 24) z (by omega))
    refine h91 _ ?_ ((xI_ne (by omega)).trans hr)
    show _ = xI (if n < 24 then xI I 29 n c else I) 27 3 (nI (n + 1))
    rw [if_pos h24]
/-- the acting THROWER: its number, its KIND, what ran -/
def aW (K b n : Nat) (I : zIM) : Prop := I 27 3 = nI n ∧ I 27 4 = nI b ∧ b < 50 ∧ I 28 b = nI K ∧ K < 8
theorem aW.tc {K b n : Nat} {I : zIM} (h : aW K b n I) (cs : List Int32) : aW K b (n + cs.length) (tC cs n I) :=
  ⟨tC_ran cs n I h.1, (tC_off cs n I _ _ (by omega) (by omega)).trans h.2.1, h.2.2.1, (tC_off cs n I _ _ (by omega) (by omega)).trans h.2.2.2.1, h.2.2.2.2⟩
theorem cOwn {x : Int32} {K b n act dp d1 : Nat} (hw : aW K b n I) (h : zCi l G d1 mX6_run [.ref 27, .int (nI K), .int (nI act), .int x, .int (nI dp)] I L P) (hd : d1 + 1 ≤ d) : zCi l G d mX6_own [.ref 27, .int (nI act), .int x, .int (nI dp)] I L P := by
  refine t_X6_own ⟨b, hw.2.1, hw.2.2.1, d1, P, hd, ?_, fun _ _ _ h => h⟩
  rw [hw.2.2.2.1]
  exact h
end RB
section CA
variable {l : Launch} {G : zG} {d : Nat} {I : zIM} {L : zLM} {K b n : Nat}
theorem cA (x : Int32) {k dp : Nat} (hw : aW K b n I) (hk : k < 8) (hdp : dp ≤ 38) (hn : n < 800) (hd : 6 ≤ d) : zCi l G d mX6_run [.ref 27, .int (nI k), .int (0 : Int32), .int x, .int (nI dp)] I L (zF (wA (nI b) k x) (tC (lA k) n I) L) := by
  have base : ∀ {d k dp n} {I : zIM}, aW K b n I → k < 8 → dp ≤ 40 → n < 900 → oW 0 8 k = 0 → 1 ≤ d → zCi l G d mX6_run [.ref 27, .int (nI k), .int (0 : Int32), .int x, .int (nI dp)] I L (zF (x + nI b) (tC [1] n I) L) := by
    intro d k dp n I hw hk hdp hn hj hd
    refine cRun (act := 0) (d1 := 0) hk (by omega) hdp hn hw.1 hj rfl rfl (rb_1 ⟨?_, rfl, rfl⟩) (by omega)
    exact (congrArg (fun z => x + z) (hw.tc [1]).2.1).symm
  have all : ∀ k, k < 8 → (oW 0 8 k = 1 ∧ (k = 1 ∨ k = 4 ∨ k = 7)) ∨ (oW 0 8 k = 6 ∧ k = 6) ∨ (oW 0 8 k = 0 ∧ ¬ (k = 1 ∨ k = 4 ∨ k = 7) ∧ ¬ k = 6) := by decide +kernel
  rcases all k hk with ⟨hj, e⟩ | ⟨hj, e⟩ | ⟨hj, e1, e2⟩
  · rw [lA, if_pos e, wA, if_pos e]
    exact cRun (act := 0) (d1 := 5) hk (by omega) (by omega) (by omega) hw.1 hj rfl rfl (rb_20 (bF 3 (base (k := 0) (hw.tc [20]) (by omega) (by omega) (by show n + 1 < 900; omega) rfl (by omega)) (by omega) ⟨rfl, rfl, rfl⟩)) (by omega)
  · rw [lA, if_neg (by omega), if_pos e, wA, if_neg (by omega), if_pos e]
    exact cRun (act := 0) (d1 := 5) hk (by omega) (by omega) (by omega) hw.1 hj rfl rfl (rb_70 (bF 3 (base (k := 0) (hw.tc [70]) (by omega) (by omega) (by show n + 1 < 900; omega) rfl (by omega)) (by omega) ⟨rfl, rfl, rfl⟩)) (by omega)
  · rw [lA, if_neg e1, if_neg e2, wA, if_neg e1, if_neg e2]
    exact base hw hk (by omega) (by omega) hj (by omega)
theorem cAo (x : Int32) {dp : Nat} (hw : aW K b n I) (hdp : dp ≤ 38) (hn : n < 800) (hd : 7 ≤ d) : zCi l G d mX6_own [.ref 27, .int (0 : Int32), .int x, .int (nI dp)] I L (zF (wA (nI b) K x) (tC (lA K) n I) L) :=
  cOwn (act := 0) (d1 := 6) hw (cA x hw hw.2.2.2.2 hdp hn (Nat.le_refl 6)) (by omega)
theorem cH (x : Int32) {k dp : Nat} (hw : aW K b n I) (hk : k < 8) (hdp : dp ≤ 36) (hn : n < 700) (hd : 12 ≤ d) : zCi l G d mX6_run [.ref 27, .int (nI k), .int (2 : Int32), .int x, .int (nI dp)] I L (zF (wH (nI b) K k x) (tC (lH K k) n I) L) := by
  have base : ∀ {d k dp n} {I : zIM}, aW K b n I → k < 8 → dp ≤ 40 → n < 900 → oW 2 8 k = 0 → 1 ≤ d → zCi l G d mX6_run [.ref 27, .int (nI k), .int (2 : Int32), .int x, .int (nI dp)] I L (zF (x ^^^ nI b) (tC [11] n I) L) := by
    intro d k dp n I hw hk hdp hn hj hd
    refine cRun (act := 2) (d1 := 0) hk (by omega) hdp hn hw.1 hj rfl rfl (rb_11 ⟨?_, rfl, rfl⟩) (by omega)
    exact (congrArg (fun z => x ^^^ z) (hw.tc [11]).2.1).symm
  have all : ∀ k, k < 8 → (oW 2 8 k = 3 ∧ (k = 3 ∨ k = 5)) ∨ (oW 2 8 k = 4 ∧ (k = 4 ∨ k = 7) ∧ ¬ (k = 3 ∨ k = 5)) ∨ (oW 2 8 k = 0 ∧ ¬ (k = 3 ∨ k = 5) ∧ ¬ (k = 4 ∨ k = 7)) := by decide +kernel
  rcases all k hk with ⟨hj, e⟩ | ⟨hj, e, e0⟩ | ⟨hj, e1, e2⟩
  · rw [lH, if_pos e, wH, if_pos e]
    exact cRun (act := 2) (d1 := 5) hk (by omega) (by omega) (by omega) hw.1 hj rfl rfl (rb_40 (bF 3 (base (k := 2) (hw.tc [40]) (by omega) (by omega) (by show n + 1 < 900; omega) rfl (by omega)) (by omega) ⟨rfl, rfl, rfl⟩)) (by omega)
  · rw [lH, if_neg e0, if_pos e, wH, if_neg e0, if_pos e, tC_app]
    exact cRun (act := 2) (d1 := 11) hk (by omega) (by omega) (by omega) hw.1 hj rfl rfl (rb_50 (bF 3 (base (k := 1) (hw.tc [50]) (by omega) (by omega) (by show n + 1 < 900; omega) rfl (by omega)) (by omega) (bF 7 (cAo 2 (hw.tc [50, 11]) (by omega) (by show n + 2 < 800; omega) (by omega)) (by omega) ⟨rfl, rfl, rfl⟩))) (by omega)
  · rw [lH, if_neg e1, if_neg e2, wH, if_neg e1, if_neg e2]
    exact base hw hk (by omega) (by omega) hj (by omega)
theorem cHo (x : Int32) {dp : Nat} (hw : aW K b n I) (hdp : dp ≤ 36) (hn : n < 700) (hd : 13 ≤ d) : zCi l G d mX6_own [.ref 27, .int (2 : Int32), .int x, .int (nI dp)] I L (zF (wH (nI b) K K x) (tC (lH K K) n I) L) :=
  cOwn (act := 2) (d1 := 12) hw (cH x hw hw.2.2.2.2 hdp hn (Nat.le_refl 12)) (by omega)
theorem cT (x : Int32) {k dp : Nat} (hw : aW K b n I) (hk : k < 8) (hdp : dp ≤ 30) (hn : n < 600) (hd : 30 ≤ d) : zCi l G d mX6_run [.ref 27, .int (nI k), .int (1 : Int32), .int x, .int (nI dp)] I L (zF (wT (nI b) K k x) (tC (lT K k) n I) L) := by
  have len := l_len K hw.2.2.2.2
  have base : ∀ {d k dp n} {I : zIM} (x : Int32), aW K b n I → k < 8 → dp ≤ 34 → n < 610 → oW 1 8 k = 0 → 10 ≤ d → zCi l G d mX6_run [.ref 27, .int (nI k), .int (1 : Int32), .int x, .int (nI dp)] I L (zF (wT0 (nI b) K x) (tC (lT0 K) n I) L) := by
    intro d k dp n I x hw hk hdp hn hj hd
    exact cRun (act := 1) (d1 := 9) hk (by omega) (by omega) (by omega) hw.1 hj rfl rfl (rb_10 (bF 7 (cAo x (hw.tc [10]) (by omega) (by show n + 1 < 800; omega) (by omega)) (by omega) ⟨rfl, rfl, rfl⟩)) (by omega)
  have air : ∀ {d k dp n} {I : zIM} (x : Int32), aW K b n I → k < 8 → dp ≤ 33 → n < 605 → oW 1 8 k = 2 → 13 ≤ d → zCi l G d mX6_run [.ref 27, .int (nI k), .int (1 : Int32), .int x, .int (nI dp)] I L (zF (-(wT0 (nI b) K x)) (tC (30 :: lT0 K) n I) L) := by
    intro d k dp n I x hw hk hdp hn hj hd
    exact cRun (act := 1) (d1 := 12) hk (by omega) (by omega) (by omega) hw.1 hj rfl rfl (rb_30 (bF 10 (base (k := 0) x (hw.tc [30]) (by omega) (by omega) (by show n + 1 < 610; omega) rfl (by omega)) (by omega) ⟨rfl, rfl, rfl⟩)) (by omega)
  have all : ∀ k, k < 8 → (oW 1 8 k = 3 ∧ (k = 3 ∨ k = 5)) ∨ (oW 1 8 k = 2 ∧ k = 2) ∨ (oW 1 8 k = 7 ∧ k = 7) ∨ (oW 1 8 k = 0 ∧ ¬ (k = 3 ∨ k = 5) ∧ ¬ k = 2 ∧ ¬ k = 7) := by decide +kernel
  rcases all k hk with ⟨hj, e⟩ | ⟨hj, e⟩ | ⟨hj, e⟩ | ⟨hj, e1, e2, e3⟩
  · rw [lT, if_pos e, wT, if_pos e]
    exact cRun (act := 1) (d1 := 15) hk (by omega) (by omega) (by omega) hw.1 hj rfl rfl (rb_41 (bF 13 (air (k := 2) (x + 1) (hw.tc [41]) (by omega) (by omega) (by show n + 1 < 605; omega) rfl (by omega)) (by omega) ⟨rfl, rfl, rfl⟩)) (by omega)
  · rw [lT, if_neg (by omega), if_pos e, wT, if_neg (by omega), if_pos e]
    exact air x hw hk (by omega) (by omega) hj (by omega)
  · rw [lT, if_neg (by omega), if_neg (by omega), if_pos e, wT, if_neg (by omega), if_neg (by omega), if_pos e]
    have e1 : tC (80 :: (lT0 K ++ lH K K)) n I = tC (lH K K) (n + 1 + (lT0 K).length) (tC (lT0 K) (n + 1) (tC [80] n I)) := tC_app (lT0 K) (lH K K) (n + 1) _
    have hl : (lT0 K).length ≤ 60 := (len 0 (by omega)).2.2.1
    rw [e1]
    exact cRun (act := 1) (d1 := 20) hk (by omega) (by omega) (by omega) hw.1 hj rfl rfl (rb_80 (bF 10 (base (k := 4) x (hw.tc [80]) (by omega) (by omega) (by show n + 1 < 610; omega) rfl (by omega)) (by omega) (bF 13 (cHo 2 ((hw.tc [80]).tc (lT0 K)) (by omega) (by show n + 1 + (lT0 K).length < 700; omega) (by omega)) (by omega) ⟨rfl, rfl, rfl⟩))) (by omega)
  · rw [lT, if_neg e1, if_neg e2, if_neg e3, wT, if_neg e1, if_neg e2, if_neg e3]
    exact base x hw hk (by omega) (by omega) hj (by omega)
theorem cTo' (x : Int32) {dp : Nat} (hw : aW K b n I) (hdp : dp ≤ 30) (hn : n < 600) (hd : 31 ≤ d) : zCi l G d mX6_own [.ref 27, .int (1 : Int32), .int x, .int (nI dp)] I L (zF (wT (nI b) K K x) (tC (lT K K) n I) L) :=
  cOwn (act := 1) (d1 := 30) hw (cT x hw hw.2.2.2.2 hdp hn (Nat.le_refl 30)) (by omega)
theorem cTe (x : Int32) {k dp : Nat} (hw : aW K b n I) (hk : k < 8) (hdp : dp ≤ 20) (hn : n < 500) (hd : 50 ≤ d) : zCi l G d mX6_run [.ref 27, .int (nI k), .int (3 : Int32), .int x, .int (nI dp)] I L (zF (wL (nI b) K k x) (tC (lL K k) n I) L) := by
  have len := l_len K hw.2.2.2.2 K hw.2.2.2.2
  have base : ∀ {d k dp n} {I : zIM}, aW K b n I → k < 8 → dp ≤ 24 → n < 510 → oW 3 8 k = 0 → 40 ≤ d → zCi l G d mX6_run [.ref 27, .int (nI k), .int (3 : Int32), .int x, .int (nI dp)] I L (zF (wL0 (nI b) K x) (tC (lL0 K) n I) L) := by
    intro d k dp n I hw hk hdp hn hj hd
    have e1 : tC (lL0 K) n I = tC (lH K K) (n + 1 + (lT K K).length) (tC (lT K K) (n + 1) (tC [2] n I)) := tC_app (lT K K) (lH K K) (n + 1) _
    rw [e1]
    exact cRun (act := 3) (d1 := 39) hk (by omega) (by omega) (by omega) hw.1 hj rfl rfl (rb_2 (bF 31 (cTo' x (hw.tc [2]) (by omega) (by show n + 1 < 600; omega) (by omega)) (by omega) (bF 13 (cHo 1 ((hw.tc [2]).tc (lT K K)) (by omega) (by show n + 1 + (lT K K).length < 700; omega) (by omega)) (by omega) ⟨rfl, rfl, rfl⟩))) (by omega)
  have all : ∀ k, k < 8 → (oW 3 8 k = 5 ∧ k = 5) ∨ (oW 3 8 k = 7 ∧ k = 7) ∨ (oW 3 8 k = 0 ∧ ¬ k = 5 ∧ ¬ k = 7) := by decide +kernel
  rcases all k hk with ⟨hj, e⟩ | ⟨hj, e⟩ | ⟨hj, e1, e2⟩
  · rw [lL, if_pos e, wL, if_pos e]
    exact cRun (act := 3) (d1 := 42) hk (by omega) (by omega) (by omega) hw.1 hj rfl rfl (rb_60 (bF 40 (base (k := 3) (hw.tc [60]) (by omega) (by omega) (by show n + 1 < 510; omega) rfl (by omega)) (by omega) ⟨rfl, rfl, rfl⟩)) (by omega)
  · rw [lL, if_neg (by omega), if_pos e, wL, if_neg (by omega), if_pos e]
    exact cRun (act := 3) (d1 := 42) hk (by omega) (by omega) (by omega) hw.1 hj rfl rfl (rb_81 (bF 40 (base (k := 4) (hw.tc [81]) (by omega) (by omega) (by show n + 1 < 510; omega) rfl (by omega)) (by omega) ⟨rfl, rfl, rfl⟩)) (by omega)
  · rw [lL, if_neg e1, if_neg e2, wL, if_neg e1, if_neg e2]
    exact base hw hk (by omega) (by omega) hj (by omega)
/-- an act by its number -/
def lX (K act : Nat) : List Int32 := if act = 0 then lA K else if act = 1 then lT K K else if act = 2 then lH K K else lL K K
def wX (b : Int32) (K act : Nat) (x : Int32) : Int32 := if act = 0 then wA b K x else if act = 1 then wT b K K x else if act = 2 then wH b K K x else wL b K K x
theorem cAct (x : Int32) {act : Nat} (ha : act < 4) (hw : aW K b 0 I) (hd : 60 ≤ d) : zCi l G d mX6_own [.ref 27, .int (nI act), .int x, .int (0 : Int32)] I L (zF (wX (nI b) K act x) (tC (lX K act) 0 I) L) := by
  rcases (by omega : act = 0 ∨ act = 1 ∨ act = 2 ∨ act = 3) with rfl | rfl | rfl | rfl
  · exact cOwn (act := 0) (dp := 0) (d1 := 50) hw (cA x hw hw.2.2.2.2 (by omega) (by omega) (by omega)) (by omega)
  · exact cOwn (act := 1) (dp := 0) (d1 := 50) hw (cT x hw hw.2.2.2.2 (by omega) (by omega) (by omega)) (by omega)
  · exact cOwn (act := 2) (dp := 0) (d1 := 50) hw (cH x hw hw.2.2.2.2 (by omega) (by omega) (by omega)) (by omega)
  · exact cOwn (act := 3) (dp := 0) (d1 := 50) hw (cTe x hw hw.2.2.2.2 (by omega) (by omega) (by omega)) (by omega)
end CA
