/-! ===== THE LAW's text: a parser on bytes: good, place, cells, value by names ===== -/
abbrev zPr : Type := Bool × Nat × List Int32 × ((Nat → Int32) → Int32)
abbrev zLn : Type := Bool × Nat × List Int32 × ((Nat → Int32) → Option Int32)
/-- the byte at p; 0: the end -/
def tB (X : Nat → Nat) (N p : Nat) : Nat := if p < N then X p else 0
def sgL (lv c : Nat) : Bool := if lv = 0 then c == 124 else if lv = 1 then c == 38 else if lv = 2 then (c == 60 || c == 61 || c == 62) else if lv = 3 then (c == 43 || c == 45) else (c == 42 || c == 47 || c == 37)
/-- what a sign joins -/
def jn (s a b : Int32) : Int32 := if s = 38 then (if a = 0 then 0 else if b = 0 then 0 else 1) else if s = 42 then a * b else if s = 43 then a + b else if s = 45 then a - b else if s = 47 then (if b = 0 then 0 else a / b) else if s = 60 then (if b ≤ a then 0 else 1) else if s = 61 then (if a = b then 1 else 0) else if s = 62 then (if a ≤ b then 0 else 1) else if s = 124 then (if a = 0 then (if b = 0 then 0 else 1) else 1) else (if b = 0 then 0 else a % b)
def dg (c : Nat) : Bool := decide (48 ≤ c) && decide (c ≤ 57)
/-- a name's place; 9: none -/
def nmI (c : Nat) : Nat := if c = 104 then 0 else if c = 97 then 1 else if c = 116 then 2 else if c = 109 then 3 else if c = 110 then 4 else 9
def pNum (X : Nat → Nat) (N : Nat) : Nat → Nat → Nat → Nat × Nat
  | 0, p, u => (p, u)
  | f + 1, p, u => if dg (tB X N p) = true then pNum X N f (p + 1) (u * 10 + tB X N p - 48) else (p, u)
def pB (X : Nat → Nat) (N p : Nat) : zPr :=
  if dg (tB X N p) = true then (true, (pNum X N 4 p 0).1, [nI (pNum X N 4 p 0).2], fun _ => nI (pNum X N 4 p 0).2)
  else if nmI (tB X N p) ≠ 9 then (true, p + 1, [-(nI (tB X N p))], fun e => e (nmI (tB X N p)))
  else (false, p, [], fun _ => 0)
def cmb (s : Nat) (r r2 : zPr) : zPr := (r2.1, r2.2.1, r.2.2.1 ++ r2.2.2.1 ++ [-(nI s)], fun e => jn (nI s) (r.2.2.2 e) (r2.2.2.2 e))
def pLoop (X : Nat → Nat) (N lv : Nat) (sub : Nat → zPr) : Nat → zPr → zPr
  | 0, r => r
  | f + 1, r => if r.1 = true ∧ sgL lv (tB X N r.2.1) = true then (if lv = 2 then cmb (tB X N r.2.1) r (sub (r.2.1 + 1)) else pLoop X N lv sub f (cmb (tB X N r.2.1) r (sub (r.2.1 + 1)))) else r
/-- level 5 - k -/
def pJ (X : Nat → Nat) (N : Nat) (q : Nat → zPr) : Nat → Nat → zPr
  | 0, p => q p
  | k + 1, p => pLoop X N (4 - k) (pJ X N q k) 120 (pJ X N q k p)
/-- an operand, r more of ( ! - may be opened -/
def pO (X : Nat → Nat) (N : Nat) : Nat → Nat → zPr
  | 0, p => pB X N p
  | r + 1, p => if dg (tB X N p) = true ∨ nmI (tB X N p) ≠ 9 then pB X N p
    else if tB X N p = 40 then (if (pJ X N (pO X N r) 5 (p + 1)).1 = true ∧ tB X N (pJ X N (pO X N r) 5 (p + 1)).2.1 = 41 then (true, (pJ X N (pO X N r) 5 (p + 1)).2.1 + 1, (pJ X N (pO X N r) 5 (p + 1)).2.2) else (false, (pJ X N (pO X N r) 5 (p + 1)).2))
    else if tB X N p = 33 then ((pO X N r (p + 1)).1, (pO X N r (p + 1)).2.1, (pO X N r (p + 1)).2.2.1 ++ [-33], fun e => if (pO X N r (p + 1)).2.2.2 e = 0 then 1 else 0)
    else if tB X N p = 45 then ((pO X N r (p + 1)).1, (pO X N r (p + 1)).2.1, (pO X N r (p + 1)).2.2.1 ++ [-126], fun e => -((pO X N r (p + 1)).2.2.2 e))
    else (false, p, [], fun _ => 0)
def pE (X : Nat → Nat) (N p : Nat) : zPr := pJ X N (pO X N 6) 5 p
def pLn (X : Nat → Nat) (N p m : Nat) : zLn :=
  if (pE X N p).1 = true then
    (if tB X N (pE X N p).2.1 = 63 then
      ((pE X N ((pE X N p).2.1 + 1)).1, (pE X N ((pE X N p).2.1 + 1)).2.1, (pE X N p).2.2.1 ++ [-63, nI (m + (pE X N p).2.2.1.length + 2 + (pE X N ((pE X N p).2.1 + 1)).2.2.1.length + 1)] ++ (pE X N ((pE X N p).2.1 + 1)).2.2.1 ++ [-59], fun e => if (pE X N p).2.2.2 e = 0 then none else some ((pE X N ((pE X N p).2.1 + 1)).2.2.2 e))
    else (true, (pE X N p).2.1, (pE X N p).2.2.1 ++ [-59], fun e => some ((pE X N p).2.2.2 e)))
  else (false, (pE X N p).2.1, [], fun _ => none)
def orS (a b : Option Int32) : Option Int32 := match a with
  | some u => some u
  | none => b
def pTx (X : Nat → Nat) (N : Nat) : Nat → zLn → zLn
  | 0, r => r
  | f + 1, r => if r.1 = true ∧ tB X N r.2.1 = 59 then pTx X N f ((pLn X N (r.2.1 + 1) r.2.2.1.length).1, (pLn X N (r.2.1 + 1) r.2.2.1.length).2.1, r.2.2.1 ++ (pLn X N (r.2.1 + 1) r.2.2.1.length).2.2.1, fun e => orS (r.2.2.2 e) ((pLn X N (r.2.1 + 1) r.2.2.1.length).2.2.2 e)) else r
def pAll (X : Nat → Nat) (N : Nat) : zLn := pTx X N 120 (pLn X N 0 0)
/-! the cells run -/
def sh (st : List Int32) : Int32 := st.headD 0
def xc (e : Nat → Int32) (c : Int32) (st : List Int32) : List Int32 :=
  if 0 < -c then (if -c = 33 then (if sh st = 0 then 1 else 0) :: st.tail else if -c = 97 then e 1 :: st else if -c = 104 then e 0 :: st else if -c = 109 then e 3 :: st else if -c = 110 then e 4 :: st else if -c = 116 then e 2 :: st else if -c = 126 then (-(sh st)) :: st.tail else jn (-c) (sh st.tail) (sh st) :: st.tail.tail) else c :: st
def exl (e : Nat → Int32) : List Int32 → List Int32 → List Int32
  | [], st => st
  | c :: cs, st => exl e cs (xc e c st)
theorem exl_app (e : Nat → Int32) : ∀ (a b st : List Int32), exl e (a ++ b) st = exl e b (exl e a st)
  | [], b, st => rfl
  | c :: a, b, st => exl_app e a b (xc e c st)
/-- cells that run on -/
def cOn (c : Int32) : Prop := ¬ -c = 59 ∧ ¬ -c = 63
/-- what a part of the text is -/
def pW (N p : Nat) (a : zPr) : Prop := p ≤ a.2.1 ∧ a.2.1 ≤ N ∧ (a.1 = true → p < a.2.1 ∧ p + a.2.2.1.length ≤ a.2.1 ∧ (∀ c, c ∈ a.2.2.1 → cOn c) ∧ ∀ e st, exl e a.2.2.1 st = a.2.2.2 e :: st)
section TX
variable {X : Nat → Nat} {N : Nat}
theorem tB_lt {p : Nat} (h : tB X N p ≠ 0) : p < N := by
  by_cases c : p < N
  · exact c
  · exact absurd (if_neg c) h
theorem xc_num (e : Nat → Int32) {u : Nat} (hu : u < 2 ^ 31) (st : List Int32) : xc e (nI u) st = nI u :: st ∧ cOn (nI u) := by
  have h : ¬ (0 : Int32) < -(nI u) := by
    rw [Int32.lt_iff_toInt_lt, Int32.toInt_zero, Int32.toInt_neg, nI_toInt hu, Int.bmod_eq_of_le (by omega) (by omega)]
    omega
  refine ⟨if_neg h, fun c => h (by rw [c]; decide), fun c => h (by rw [c]; decide)⟩
theorem xc_op (e : Nat → Int32) {s : Nat} (hs : s = 124 ∨ s = 38 ∨ s = 60 ∨ s = 61 ∨ s = 62 ∨ s = 43 ∨ s = 45 ∨ s = 42 ∨ s = 47 ∨ s = 37) (a b : Int32) (st : List Int32) : xc e (-(nI s)) (b :: a :: st) = jn (nI s) a b :: st ∧ cOn (-(nI s)) := by
  unfold xc cOn
  rw [Int32.neg_neg]
  rcases hs with rfl | rfl | rfl | rfl | rfl | rfl | rfl | rfl | rfl | rfl <;>
  · rw [if_pos (by decide), if_neg (by decide), if_neg (by decide), if_neg (by decide), if_neg (by decide), if_neg (by decide), if_neg (by decide), if_neg (by decide)]
    exact ⟨rfl, by decide, by decide⟩
theorem sgL_op {lv c : Nat} (h : sgL lv c = true) : c = 124 ∨ c = 38 ∨ c = 60 ∨ c = 61 ∨ c = 62 ∨ c = 43 ∨ c = 45 ∨ c = 42 ∨ c = 47 ∨ c = 37 := by
  unfold sgL at h
  split at h
  · simp only [beq_iff_eq] at h; omega
  split at h
  · simp only [beq_iff_eq] at h; omega
  split at h
  · simp only [Bool.or_eq_true, beq_iff_eq] at h; omega
  split at h
  · simp only [Bool.or_eq_true, beq_iff_eq] at h; omega
  · simp only [Bool.or_eq_true, beq_iff_eq] at h; omega
theorem nmI_of {c : Nat} (h : nmI c ≠ 9) : (c = 104 ∧ nmI c = 0) ∨ (c = 97 ∧ nmI c = 1) ∨ (c = 116 ∧ nmI c = 2) ∨ (c = 109 ∧ nmI c = 3) ∨ (c = 110 ∧ nmI c = 4) := by
  unfold nmI at h ⊢
  by_cases h1 : c = 104
  · exact Or.inl ⟨h1, if_pos h1⟩
  rw [if_neg h1] at h ⊢
  by_cases h2 : c = 97
  · exact Or.inr (Or.inl ⟨h2, if_pos h2⟩)
  rw [if_neg h2] at h ⊢
  by_cases h3 : c = 116
  · exact Or.inr (Or.inr (Or.inl ⟨h3, if_pos h3⟩))
  rw [if_neg h3] at h ⊢
  by_cases h4 : c = 109
  · exact Or.inr (Or.inr (Or.inr (Or.inl ⟨h4, if_pos h4⟩)))
  rw [if_neg h4] at h ⊢
  by_cases h5 : c = 110
  · exact Or.inr (Or.inr (Or.inr (Or.inr ⟨h5, if_pos h5⟩)))
  rw [if_neg h5] at h
  exact absurd rfl h
theorem xc_nm (e : Nat → Int32) {c : Nat} (h : nmI c ≠ 9) (st : List Int32) : xc e (-(nI c)) st = e (nmI c) :: st ∧ cOn (-(nI c)) := by
  unfold xc cOn
  rw [Int32.neg_neg]
  rcases nmI_of h with ⟨rfl, e1⟩ | ⟨rfl, e1⟩ | ⟨rfl, e1⟩ | ⟨rfl, e1⟩ | ⟨rfl, e1⟩ <;> rw [e1] <;> exact ⟨rfl, by decide, by decide⟩
theorem xc_not (e : Nat → Int32) (a : Int32) (st : List Int32) : xc e (-33) (a :: st) = (if a = 0 then 1 else 0) :: st ∧ cOn (-33) := ⟨rfl, by decide, by decide⟩
theorem xc_neg (e : Nat → Int32) (a : Int32) (st : List Int32) : xc e (-126) (a :: st) = (-a) :: st ∧ cOn (-126) := ⟨rfl, by decide, by decide⟩
theorem pNum_ok : ∀ f p u, p ≤ N → p ≤ (pNum X N f p u).1 ∧ (pNum X N f p u).1 ≤ N ∧ (pNum X N f p u).2 ≤ (u + 1) * 10 ^ f
  | 0, p, u, h => ⟨Nat.le_refl _, h, by show u ≤ _; omega⟩
  | f + 1, p, u, h => by
    unfold pNum
    by_cases c : dg (tB X N p) = true
    · rw [if_pos c]
      have hc : 48 ≤ tB X N p ∧ tB X N p ≤ 57 := by unfold dg at c; simpa using c
      have hp : p < N := tB_lt (X := X) (by omega)
      obtain ⟨a1, a2, a3⟩ := pNum_ok f (p + 1) (u * 10 + tB X N p - 48) hp
      refine ⟨by omega, a2, Nat.le_trans a3 ?_⟩
      rw [Nat.pow_succ, Nat.mul_comm (10 ^ f) 10, ← Nat.mul_assoc]
      exact Nat.mul_le_mul_right _ (by omega)
    · rw [if_neg c]
      refine ⟨Nat.le_refl _, h, ?_⟩
      have : (u + 1) * 1 ≤ (u + 1) * 10 ^ (f + 1) := Nat.mul_le_mul_left _ (Nat.pow_pos (by omega))
      show u ≤ _
      omega
theorem pB_ok {p : Nat} (h : p ≤ N) : pW N p (pB X N p) := by
  unfold pB
  by_cases c : dg (tB X N p) = true
  · rw [if_pos c]
    have hc : 48 ≤ tB X N p ∧ tB X N p ≤ 57 := by unfold dg at c; simpa using c
    have hp : p < N := tB_lt (X := X) (by omega)
    have e1 : pNum X N 4 p 0 = pNum X N 3 (p + 1) (0 * 10 + tB X N p - 48) := by
      rw [show pNum X N 4 p 0 = if dg (tB X N p) = true then pNum X N 3 (p + 1) (0 * 10 + tB X N p - 48) else (p, 0) from rfl, if_pos c]
    obtain ⟨a1, a2, a3⟩ := pNum_ok (X := X) (N := N) 3 (p + 1) (0 * 10 + tB X N p - 48) hp
    rw [← e1] at a1 a2 a3
    have hu : (pNum X N 4 p 0).2 < 2 ^ 31 := by omega
    exact ⟨show p ≤ (pNum X N 4 p 0).1 by omega, a2, fun _ => ⟨show p < (pNum X N 4 p 0).1 by omega, show p + 1 ≤ (pNum X N 4 p 0).1 by omega, fun c hc => by rw [List.mem_singleton.mp hc]; exact (xc_num (fun _ => 0) hu []).2, fun e st => (xc_num e hu st).1⟩⟩
  · rw [if_neg c]
    by_cases c2 : nmI (tB X N p) ≠ 9
    · rw [if_pos c2]
      have hp : p < N := tB_lt (X := X) (by rcases nmI_of c2 with ⟨e, _⟩ | ⟨e, _⟩ | ⟨e, _⟩ | ⟨e, _⟩ | ⟨e, _⟩ <;> omega)
      exact ⟨show p ≤ p + 1 by omega, hp, fun _ => ⟨Nat.lt_succ_self p, Nat.le_refl (p + 1), fun c hc => by rw [List.mem_singleton.mp hc]; exact (xc_nm (fun _ => 0) c2 []).2, fun e st => (xc_nm e c2 st).1⟩⟩
    · rw [if_neg c2]
      exact ⟨Nat.le_refl _, h, fun z => by cases z⟩
theorem cmb_ok {p : Nat} {lv : Nat} {r r2 : zPr} (h : pW N p r) (hr : r.1 = true) (hs : sgL lv (tB X N r.2.1) = true) (h2 : pW N (r.2.1 + 1) r2) : pW N p (cmb (tB X N r.2.1) r r2) := by
  obtain ⟨a1, a2, a3⟩ := h
  obtain ⟨b1, b2, b3⟩ := h2
  obtain ⟨q1, q2, q3, q4⟩ := a3 hr
  refine ⟨show p ≤ r2.2.1 by omega, b2, fun z => ?_⟩
  obtain ⟨w1, w2, w3, w4⟩ := b3 z
  refine ⟨show p < r2.2.1 by omega, ?_, fun c hc => ?_, fun e st => ?_⟩
  · show p + (r.2.2.1 ++ r2.2.2.1 ++ [-(nI (tB X N r.2.1))]).length ≤ r2.2.1
    rw [List.length_append, List.length_append]
    show p + (r.2.2.1.length + r2.2.2.1.length + 1) ≤ r2.2.1
    omega
  · rcases List.mem_append.mp hc with hc | hc
    · rcases List.mem_append.mp hc with hc | hc
      · exact q3 c hc
      · exact w3 c hc
    · rw [List.mem_singleton.mp hc]
      exact (xc_op (fun _ => 0) (sgL_op hs) 0 0 []).2
  · show exl e (r.2.2.1 ++ r2.2.2.1 ++ [-(nI (tB X N r.2.1))]) st = _
    rw [exl_app, exl_app, q4, w4]
    exact (xc_op e (sgL_op hs) _ _ st).1
theorem sgL_nz {lv c : Nat} (h : sgL lv c = true) : c ≠ 0 := by
  have := sgL_op h
  omega
theorem pLoop_ok {lv : Nat} {sub : Nat → zPr} (hsub : ∀ p, p ≤ N → pW N p (sub p)) : ∀ f p r, pW N p r → pW N p (pLoop X N lv sub f r)
  | 0, p, r, h => h
  | f + 1, p, r, h => by
    unfold pLoop
    by_cases c : r.1 = true ∧ sgL lv (tB X N r.2.1) = true
    · rw [if_pos c]
      have hp : r.2.1 < N := tB_lt (X := X) (sgL_nz c.2)
      have h2 := cmb_ok h c.1 c.2 (hsub (r.2.1 + 1) hp)
      split
      · exact h2
      · exact pLoop_ok hsub f p _ h2
    · rw [if_neg c]
      exact h
theorem pJ_ok {q : Nat → zPr} (hq : ∀ p, p ≤ N → pW N p (q p)) : ∀ k p, p ≤ N → pW N p (pJ X N q k p)
  | 0, p, h => hq p h
  | k + 1, p, h => pLoop_ok (fun p hp => pJ_ok hq k p hp) 120 p _ (pJ_ok hq k p h)
theorem pW_bad {p : Nat} {a : zPr} {y : List Int32 × ((Nat → Int32) → Int32)} (h1 : p ≤ a.2.1) (h2 : a.2.1 ≤ N) : pW N p (false, a.2.1, y) := ⟨h1, h2, fun z => by cases z⟩
theorem pO_ok : ∀ r p, p ≤ N → pW N p (pO X N r p)
  | 0, p, h => pB_ok h
  | r + 1, p, h => by
    unfold pO
    by_cases c : dg (tB X N p) = true ∨ nmI (tB X N p) ≠ 9
    · rw [if_pos c]
      exact pB_ok h
    rw [if_neg c]
    by_cases c1 : tB X N p = 40
    · rw [if_pos c1]
      have hp : p < N := tB_lt (X := X) (by omega)
      have ih := pJ_ok (X := X) (fun p hp => pO_ok r p hp) 5 (p + 1) hp
      generalize pJ X N (pO X N r) 5 (p + 1) = a at ih ⊢
      obtain ⟨a1, a2, a3⟩ := ih
      by_cases c2 : a.1 = true ∧ tB X N a.2.1 = 41
      · rw [if_pos c2]
        obtain ⟨b1, b2, b3, b4⟩ := a3 c2.1
        have hp2 : a.2.1 < N := tB_lt (X := X) (by omega)
        exact ⟨show p ≤ a.2.1 + 1 by omega, hp2, fun _ => ⟨show p < a.2.1 + 1 by omega, show p + a.2.2.1.length ≤ a.2.1 + 1 by omega, b3, b4⟩⟩
      · rw [if_neg c2]
        exact ⟨show p ≤ a.2.1 by omega, a2, fun z => by cases z⟩
    rw [if_neg c1]
    by_cases c3 : tB X N p = 33
    · rw [if_pos c3]
      have hp : p < N := tB_lt (X := X) (by omega)
      have ih := pO_ok r (p + 1) hp
      generalize pO X N r (p + 1) = a at ih ⊢
      obtain ⟨a1, a2, a3⟩ := ih
      refine ⟨show p ≤ a.2.1 by omega, a2, fun z => ?_⟩
      obtain ⟨b1, b2, b3, b4⟩ := a3 z
      refine ⟨show p < a.2.1 by omega, ?_, fun c hc => ?_, fun e st => ?_⟩
      · show p + (a.2.2.1 ++ [-33]).length ≤ a.2.1
        rw [List.length_append]
        show p + (a.2.2.1.length + 1) ≤ a.2.1
        omega
      · rcases List.mem_append.mp hc with hc | hc
        · exact b3 c hc
        · rw [List.mem_singleton.mp hc]
          exact (xc_not (fun _ => 0) 0 []).2
      · show exl e (a.2.2.1 ++ [-33]) st = _
        rw [exl_app, b4]
        exact (xc_not e _ st).1
    rw [if_neg c3]
    by_cases c4 : tB X N p = 45
    · rw [if_pos c4]
      have hp : p < N := tB_lt (X := X) (by omega)
      have ih := pO_ok r (p + 1) hp
      generalize pO X N r (p + 1) = a at ih ⊢
      obtain ⟨a1, a2, a3⟩ := ih
      refine ⟨show p ≤ a.2.1 by omega, a2, fun z => ?_⟩
      obtain ⟨b1, b2, b3, b4⟩ := a3 z
      refine ⟨show p < a.2.1 by omega, ?_, fun c hc => ?_, fun e st => ?_⟩
      · show p + (a.2.2.1 ++ [-126]).length ≤ a.2.1
        rw [List.length_append]
        show p + (a.2.2.1.length + 1) ≤ a.2.1
        omega
      · rcases List.mem_append.mp hc with hc | hc
        · exact b3 c hc
        · rw [List.mem_singleton.mp hc]
          exact (xc_neg (fun _ => 0) 0 []).2
      · show exl e (a.2.2.1 ++ [-126]) st = _
        rw [exl_app, b4]
        exact (xc_neg e _ st).1
    rw [if_neg c4]
    exact ⟨Nat.le_refl _, h, fun z => by cases z⟩
theorem pE_ok {p : Nat} (h : p ≤ N) : pW N p (pE X N p) := pJ_ok (fun p hp => pO_ok 6 p hp) 5 p h
end TX
