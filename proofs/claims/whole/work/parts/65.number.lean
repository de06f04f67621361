/-! ===== the class works THE LAW out: cells on a stack ===== -/
def stk : List Int32 → zIM → Prop
  | [], _ => True
  | x :: st, I => I 13 st.length = x ∧ stk st I
def mS (st : List Int32) (I : zIM) : Prop := I 9 8 = nI st.length ∧ stk st I
def nS (I0 I : zIM) : Prop := ∀ a b, a ≠ 13 → (a = 9 → b ≠ 8) → I a b = I0 a b
theorem nS.rf {I : zIM} : nS I I := fun _ _ _ _ => rfl
theorem nS.tr {I0 I1 I2 : zIM} (h : nS I0 I1) (g : nS I1 I2) : nS I0 I2 := fun a b h1 h2 => (g a b h1 h2).trans (h a b h1 h2)
theorem stk_off {I I' : zIM} : ∀ (st : List Int32), (∀ b, b < st.length → I' 13 b = I 13 b) → stk st I → stk st I'
  | [], h, hs => trivial
  | x :: st, h, hs => by
    rw [List.length_cons] at h
    exact ⟨(h _ (Nat.lt_succ_self _)).trans hs.1, stk_off st (fun b hb => h b (by omega)) hs.2⟩
theorem xc_len (e : Nat → Int32) (c : Int32) (st : List Int32) : (xc e c st).length ≤ st.length + 1 := by
  have t1 : st.tail.length ≤ st.length := by rw [List.length_tail]; omega
  have t2 : st.tail.tail.length ≤ st.length := by rw [List.length_tail, List.length_tail]; omega
  unfold xc
  repeat' split
  all_goals (rw [List.length_cons]; omega)
def clp (y : Int32) : Int32 := if (0 : Int32) < (if y < (12 : Int32) then y else (12 : Int32)) then (if y < (12 : Int32) then y else (12 : Int32)) else (0 : Int32)
section NR
variable {l : Launch} {G : zG} {d : Nat} {I : zIM} {L : zLM} {P : Int32 → zIM → zLM → Prop}
theorem cPush {st : List Int32} (x : Int32) (h : mS st I) (hl : st.length < 120) : zCv l G d mX3_push [.ref 9, .int x] I L (fun I' L' => L = L' ∧ mS (x :: st) I' ∧ nS I I') := by
  refine t_X3_push ⟨fun c => absurd c ?_, fun _ => ⟨st.length, h.1, hl, rfl, ⟨?_, ?_, ?_⟩, fun a b h1 h2 => ?_⟩⟩
  · rw [h.1]
    exact nI_ge (b := 120) (by omega) (by omega)
  · rw [xI_eq, h.1, nI_1]
    rfl
  · rw [xI_ne (by omega), xI_eq]
  · exact stk_off _ (fun b hb => by rw [xI_ne (by omega), xI_ne (by omega)]) h.2
  · rw [xI_ne (by omega), xI_ne (by omega)]
theorem cPop {st : List Int32} (h : mS st I) (hl : st.length ≤ 120) : zCi l G d mX3_pop [.ref 9] I L (fun y I' L' => L = L' ∧ sh st = y ∧ mS st.tail I' ∧ nS I I') := by
  cases st with
  | nil =>
    refine t_X3_pop ⟨fun c => absurd c ?_, fun _ => ⟨rfl, rfl, h, nS.rf⟩⟩
    rw [h.1]
    decide
  | cons x st =>
    rw [List.length_cons] at hl
    have e : I 9 8 = nI (st.length + 1) := h.1
    refine t_X3_pop ⟨fun _ => ⟨st.length, by rw [e, nI_pred], by omega, rfl, h.2.1.symm, ⟨?_, ?_⟩, fun a b h1 h2 => xI_ne (by omega)⟩, fun c => absurd ?_ c⟩
    · rw [xI_eq, e, nI_pred]
      rfl
    · exact stk_off _ (fun b hb => xI_ne (by omega)) h.2.2
    · rw [e, ← nI_0]
      exact nI_lt (by omega) (by omega)
theorem cJoined (s a b : Int32) (hs : ¬ s = 37 → True) : zCi l G d mX3_joined [.int s, .int a, .int b] I L (zE (jn s a b) I L) := by
  unfold jn
  refine t_X3_joined ⟨fun c => ⟨fun c1 => t_X3_joined_110 (t_X3_joined_111 (zE.of ?_)), fun c1 => ⟨fun c2 => t_X3_joined_110 (t_X3_joined_111 (zE.of ?_)), fun c2 => t_X3_joined_111 (zE.of ?_)⟩⟩, fun c => zE.of ?_, fun c => zE.of ?_, fun c => zE.of ?_, fun c => ⟨fun c1 => ⟨c1, t_X3_joined_168 (zE.of ?_)⟩, fun c1 => t_X3_joined_168 (zE.of ?_)⟩, fun c => ⟨fun c1 => t_X3_joined_122 (zE.of ?_), fun c1 => t_X3_joined_122 (zE.of ?_)⟩, fun c => ⟨fun c1 => t_X3_joined_133 (zE.of ?_), fun c1 => t_X3_joined_133 (zE.of ?_)⟩, fun c => ⟨fun c1 => t_X3_joined_144 (zE.of ?_), fun c1 => t_X3_joined_144 (zE.of ?_)⟩, fun c => ⟨fun c1 => t_X3_joined_92 (t_X3_joined_97 (zE.of ?_)), fun c1 => ⟨fun c2 => t_X3_joined_97 (zE.of ?_), fun c2 => t_X3_joined_92 (t_X3_joined_97 (zE.of ?_))⟩⟩, fun n1 n2 n3 n4 n5 n6 n7 n8 n9 => ⟨fun c1 => ⟨c1, t_X3_joined_180 (zE.of ?_)⟩, fun c1 => t_X3_joined_180 (zE.of ?_)⟩⟩
  · rw [if_pos c, if_pos c1]
  · rw [if_pos c, if_neg c1, if_pos c2]
  · rw [if_pos c, if_neg c1, if_neg c2]
  · rw [c, if_neg (by decide), if_pos rfl]
  · rw [c, if_neg (by decide), if_neg (by decide), if_pos rfl]
  · rw [c, if_neg (by decide), if_neg (by decide), if_neg (by decide), if_pos rfl]
  · rw [c, if_neg (by decide), if_neg (by decide), if_neg (by decide), if_neg (by decide), if_pos rfl, if_neg c1]
  · rw [c, if_neg (by decide), if_neg (by decide), if_neg (by decide), if_neg (by decide), if_pos rfl, if_pos c1]
  · rw [c, if_neg (by decide), if_neg (by decide), if_neg (by decide), if_neg (by decide), if_neg (by decide), if_pos rfl, if_pos c1]
  · rw [c, if_neg (by decide), if_neg (by decide), if_neg (by decide), if_neg (by decide), if_neg (by decide), if_pos rfl, if_neg c1]
  · rw [c, if_neg (by decide), if_neg (by decide), if_neg (by decide), if_neg (by decide), if_neg (by decide), if_neg (by decide), if_pos rfl, if_neg c1]
  · rw [c, if_neg (by decide), if_neg (by decide), if_neg (by decide), if_neg (by decide), if_neg (by decide), if_neg (by decide), if_pos rfl, if_pos c1]
  · rw [c, if_neg (by decide), if_neg (by decide), if_neg (by decide), if_neg (by decide), if_neg (by decide), if_neg (by decide), if_neg (by decide), if_pos rfl, if_pos c1]
  · rw [c, if_neg (by decide), if_neg (by decide), if_neg (by decide), if_neg (by decide), if_neg (by decide), if_neg (by decide), if_neg (by decide), if_pos rfl, if_neg c1]
  · rw [c, if_neg (by decide), if_neg (by decide), if_neg (by decide), if_neg (by decide), if_neg (by decide), if_neg (by decide), if_neg (by decide), if_neg (by decide), if_pos rfl, if_neg c1]
  · rw [c, if_neg (by decide), if_neg (by decide), if_neg (by decide), if_neg (by decide), if_neg (by decide), if_neg (by decide), if_neg (by decide), if_neg (by decide), if_pos rfl, if_pos c1, if_pos c2]
  · rw [c, if_neg (by decide), if_neg (by decide), if_neg (by decide), if_neg (by decide), if_neg (by decide), if_neg (by decide), if_neg (by decide), if_neg (by decide), if_pos rfl, if_pos c1, if_neg c2]
  · rw [if_neg n1, if_neg n2, if_neg n3, if_neg n4, if_neg n5, if_neg n6, if_neg n7, if_neg n8, if_neg n9, if_neg c1]
  · rw [if_neg n1, if_neg n2, if_neg n3, if_neg n4, if_neg n5, if_neg n6, if_neg n7, if_neg n8, if_neg n9, if_pos c1]
/-- one cell -/
theorem cCell {e : Nat → Int32} {c : Int32} {i Lc : Nat} {st : List Int32} (hc : I 12 i = c) (ho : cOn c) (hi : i < Lc) (hL : Lc ≤ 256) (h6 : I 9 6 = nI Lc) (hs : mS st I) (hl : st.length < 120) (hd : 3 ≤ d)
    (next : ∀ I', mS (xc e c st) I' → nS I I' → K_X3_number_8 l G d P I' L (e 0) (e 1) (e 2) (e 3) (e 4) (nI (i + 1))) : K_X3_number_8 l G d P I L (e 0) (e 1) (e 2) (e 3) (e 4) (nI i) := by
  unfold xc at next
  -- push x on st', then go on
  have psh : ∀ (I1 : zIM) (st' : List Int32) (x : Int32), mS st' I1 → nS I I1 → st'.length < 120 → (∀ I', mS (x :: st') I' → nS I I' → K_X3_number_8 l G d P I' L (e 0) (e 1) (e 2) (e 3) (e 4) (nI (i + 1))) → ∃ (d2 : Nat) (P2 : zIM → zLM → Prop), d2 + 1 ≤ d ∧ zCv l G d2 mX3_push [.ref 9, .int x] I1 L P2 ∧ ∀ (I2 : zIM) (L2 : zLM), P2 I2 L2 → (K_X3_number_270 l G d P I2 L2 (e 0) (e 1) (e 2) (e 3) (e 4) (nI i)) := by
    intro I1 st' x h1 h2 h3 nxt
    refine ⟨0, _, by omega, cPush x h1 h3, ?_⟩
    rintro I2 _ ⟨rfl, g1, g2⟩
    refine t_X3_number_270 ?_
    rw [nI_1]
    exact nxt I2 g1 (h2.tr g2)
  have tl : st.tail.length < 120 := by rw [List.length_tail]; omega
  have tl2 : st.tail.tail.length < 120 := by rw [List.length_tail]; omega
  refine t_X3_number_8 (by omega) ⟨fun z => absurd z ?_, fun _ => ⟨i, rfl, by omega, ?_⟩⟩
  · rw [h6]
    exact nI_ge hi (by omega)
  rw [hc]
  refine ⟨fun c0 => ?_, fun c0 => ?_⟩
  rotate_left
  · rw [if_neg c0] at next
    exact psh I st c hs nS.rf hl next
  rw [if_pos c0] at next
  refine ⟨fun z => ?_, fun z => absurd z ho.1, fun z => absurd z ho.2, fun z => ?_, fun z => ?_, fun z => ?_, fun z => ?_, fun z => ?_, fun z => ?_, fun n33 _ _ n97 n104 n109 n110 n116 n126 => ?_⟩
  · rw [if_pos z] at next
    refine ⟨0, _, by omega, cPop hs (by omega), ?_⟩
    rintro y I5 _ ⟨rfl, rfl, g1, g2⟩
    refine ⟨fun c1 => t_X3_number_187 (psh I5 _ _ g1 g2 tl fun I' q1 q2 => next I' (by rw [if_neg c1]; exact q1) q2), fun c1 => t_X3_number_187 (psh I5 _ _ g1 g2 tl fun I' q1 q2 => next I' (by rw [if_pos c1]; exact q1) q2)⟩
  · rw [z, if_neg (by decide), if_pos rfl] at next
    exact psh I st _ hs nS.rf hl next
  · rw [z, if_neg (by decide), if_neg (by decide), if_pos rfl] at next
    exact psh I st _ hs nS.rf hl next
  · rw [z, if_neg (by decide), if_neg (by decide), if_neg (by decide), if_pos rfl] at next
    exact psh I st _ hs nS.rf hl next
  · rw [z, if_neg (by decide), if_neg (by decide), if_neg (by decide), if_neg (by decide), if_pos rfl] at next
    exact psh I st _ hs nS.rf hl next
  · rw [z, if_neg (by decide), if_neg (by decide), if_neg (by decide), if_neg (by decide), if_neg (by decide), if_pos rfl] at next
    exact psh I st _ hs nS.rf hl next
  · rw [z, if_neg (by decide), if_neg (by decide), if_neg (by decide), if_neg (by decide), if_neg (by decide), if_neg (by decide), if_pos rfl] at next
    refine ⟨0, _, by omega, cPop hs (by omega), ?_⟩
    rintro y I5 _ ⟨rfl, rfl, g1, g2⟩
    exact psh I5 _ _ g1 g2 tl next
  · rw [if_neg n33, if_neg n97, if_neg n104, if_neg n109, if_neg n110, if_neg n116, if_neg n126] at next
    refine ⟨0, _, by omega, cPop hs (by omega), ?_⟩
    rintro y I5 _ ⟨rfl, rfl, g1, g2⟩
    refine ⟨0, _, by omega, cPop g1 (by omega), ?_⟩
    rintro y2 I6 _ ⟨rfl, rfl, g3, g4⟩
    exact bE 0 (cJoined _ _ _ (fun _ => trivial)) (by omega) (psh I6 _ _ g3 (g2.tr g4) tl2 next)
/-- cells that run on -/
theorem cCells {e : Nat → Int32} {Lc : Nat} (hL : Lc ≤ 256) (hd : 3 ≤ d) : ∀ (cs : List Int32) (i : Nat) (st : List Int32) (I : zIM), cAt 12 cs i I → (∀ c, c ∈ cs → cOn c) → i + cs.length ≤ Lc → I 9 6 = nI Lc → mS st I → st.length + cs.length ≤ 120 →
    (∀ I', mS (exl e cs st) I' → nS I I' → K_X3_number_8 l G d P I' L (e 0) (e 1) (e 2) (e 3) (e 4) (nI (i + cs.length))) → K_X3_number_8 l G d P I L (e 0) (e 1) (e 2) (e 3) (e 4) (nI i)
  | [], i, st, I, hc, ho, hi, h6, hs, hl, next => next I hs nS.rf
  | c :: cs, i, st, I, hc, ho, hi, h6, hs, hl, next => by
    rw [List.length_cons] at hi hl next
    refine cCell hc.1 (ho c List.mem_cons_self) (by omega) hL h6 hs (by omega) hd fun I' g1 g2 => ?_
    have hx := xc_len e c st
    refine cCells hL hd cs (i + 1) (xc e c st) I' (cAt_off _ _ (fun b h1 h2 => g2 12 b (by omega) (by omega)) hc.2) (fun c hc => ho c (List.mem_cons_of_mem _ hc)) (by omega) ((g2 9 6 (by omega) (by omega)).trans h6) g1 (by omega) fun I2 q1 q2 => ?_
    rw [show i + 1 + cs.length = i + (cs.length + 1) by omega]
    exact next I2 q1 (g2.tr q2)
/-- the end of a LINE: ; -/
theorem cSemi {e : Nat → Int32} {i Lc : Nat} {st : List Int32} {I0 : zIM} (hc : I 12 i = -59) (hi : i < Lc) (hL : Lc ≤ 256) (h6 : I 9 6 = nI Lc) (hs : mS st I) (hl : st.length ≤ 120) (hd : 3 ≤ d) (h0 : nS I0 I) (hP : ∀ I', nS I0 I' → P (clp (sh st)) I' L) : K_X3_number_8 l G d P I L (e 0) (e 1) (e 2) (e 3) (e 4) (nI i) := by
  refine t_X3_number_8 (by omega) ⟨fun z => absurd z ?_, fun _ => ⟨i, rfl, by omega, ?_⟩⟩
  · rw [h6]
    exact nI_ge hi (by omega)
  rw [hc]
  refine ⟨fun _ => ⟨fun z => absurd z (by decide), fun _ => ?_, fun z => absurd z (by decide), fun z => absurd z (by decide), fun z => absurd z (by decide), fun z => absurd z (by decide), fun z => absurd z (by decide), fun z => absurd z (by decide), fun z => absurd z (by decide), fun _ z => absurd rfl z⟩, fun z => absurd (by decide) z⟩
  refine ⟨0, _, by omega, cPop hs hl, ?_⟩
  rintro y I5 _ ⟨rfl, rfl, g1, g2⟩
  exact hP I5 (h0.tr g2)
/-- ? -/
theorem cAsk {e : Nat → Int32} {i J Lc : Nat} {x : Int32} {st : List Int32} (hc : I 12 i = -63) (hc2 : I 12 (i + 1) = nI J) (hi : i + 1 < J) (hJ : J ≤ Lc) (hL : Lc ≤ 256) (h6 : I 9 6 = nI Lc) (hs : mS (x :: st) I) (hl : st.length < 120) (hd : 3 ≤ d)
    (yes : ¬ x = 0 → ∀ I', mS st I' → nS I I' → K_X3_number_8 l G d P I' L (e 0) (e 1) (e 2) (e 3) (e 4) (nI (i + 2))) (no : x = 0 → ∀ I', mS st I' → nS I I' → K_X3_number_8 l G d P I' L (e 0) (e 1) (e 2) (e 3) (e 4) (nI J)) : K_X3_number_8 l G d P I L (e 0) (e 1) (e 2) (e 3) (e 4) (nI i) := by
  refine t_X3_number_8 (by omega) ⟨fun z => absurd z ?_, fun _ => ⟨i, rfl, by omega, ?_⟩⟩
  · rw [h6]
    exact nI_ge (by omega) (by omega)
  rw [hc]
  refine ⟨fun _ => ⟨fun z => absurd z (by decide), fun z => absurd z (by decide), fun _ => ?_, fun z => absurd z (by decide), fun z => absurd z (by decide), fun z => absurd z (by decide), fun z => absurd z (by decide), fun z => absurd z (by decide), fun z => absurd z (by decide), fun _ _ z => absurd rfl z⟩, fun z => absurd (by decide) z⟩
  refine ⟨0, _, by omega, cPop hs (by rw [List.length_cons]; omega), ?_⟩
  rintro y I5 _ ⟨rfl, rfl, g1, g2⟩
  refine ⟨fun c => ?_, fun c => ?_⟩
  · refine bE 1 (e := nI (J - 1)) (t_X3_lastOfLine ⟨fun z => absurd z ?_, fun _ => ⟨i + 1, nI_1 i, by omega, zE.of ?_⟩⟩) (by omega) (t_X3_number_227 (by omega) (t_X3_number_270 ?_))
    · rw [g2 9 6 (by omega) (by omega), h6, nI_1]
      exact nI_ge (by omega) (by omega)
    · rw [g2 12 _ (by omega) (by omega), hc2, show nI J - (1 : Int32) = nI (J - 1) from nI_sub (b := 1) (by omega)]
    · rw [if_pos (show nI i < nI (J - 1) from nI_lt (by omega) (by omega)), nI_1, show J - 1 + 1 = J by omega]
      exact no c I5 g1 g2
  · refine t_X3_number_227 (by omega) (t_X3_number_270 ?_)
    rw [nI_1, if_pos (show nI i < nI (i + 1) from nI_lt (by omega) (by omega)), nI_1]
    exact yes c I5 g1 g2
end NR
section NL
variable {l : Launch} {G : zG} {d : Nat} {L : zLM} {P : Int32 → zIM → zLM → Prop} {X : Nat → Nat} {N : Nat} {e : Nat → Int32}
/-- a LINE, from its first cell on -/
theorem cLnRun {I0 I : zIM} {p m Lc : Nat} (hp : p ≤ N) (hN : N ≤ 120) (hg : (pLn X N p m).1 = true) (hc : cAt 12 (pLn X N p m).2.2.1 m I) (hm : m + (pLn X N p m).2.2.1.length ≤ Lc) (hL : Lc ≤ 256) (h6 : I 9 6 = nI Lc) (hs : mS [] I) (h0 : nS I0 I) (hd : 3 ≤ d) :
    (∀ u, (pLn X N p m).2.2.2 e = some u → (∀ I', nS I0 I' → P (clp u) I' L) → K_X3_number_8 l G d P I L (e 0) (e 1) (e 2) (e 3) (e 4) (nI m)) ∧
    ((pLn X N p m).2.2.2 e = none → (∀ I', mS [] I' → nS I0 I' → K_X3_number_8 l G d P I' L (e 0) (e 1) (e 2) (e 3) (e 4) (nI (m + (pLn X N p m).2.2.1.length))) → K_X3_number_8 l G d P I L (e 0) (e 1) (e 2) (e 3) (e 4) (nI m)) := by
  have hE := pE_ok (X := X) hp
  unfold pLn at hg hc hm ⊢
  generalize pE X N p = a at hE hg hc hm ⊢
  obtain ⟨a1, a2, a3⟩ := hE
  by_cases c : a.1 = true
  rotate_left
  · rw [if_neg c] at hg
    cases hg
  rw [if_pos c] at hg hc hm ⊢
  obtain ⟨b1, b2, b3, b4⟩ := a3 c
  by_cases c2 : tB X N a.2.1 = 63
  · rw [if_pos c2] at hg hc hm ⊢
    have hlt : a.2.1 < N := tB_lt (X := X) (by omega)
    have hE2 := pE_ok (X := X) (show a.2.1 + 1 ≤ N from hlt)
    generalize pE X N (a.2.1 + 1) = b at hE2 hg hc hm ⊢
    obtain ⟨e1, e2, e3⟩ := hE2
    obtain ⟨f1, f2, f3, f4⟩ := e3 hg
    have hc : cAt 12 (a.2.2.1 ++ [-63, nI (m + a.2.2.1.length + 2 + b.2.2.1.length + 1)] ++ b.2.2.1 ++ [-59]) m I := hc
    rw [cAt_app, cAt_app, cAt_app, List.length_append, List.length_append, List.length_append] at hc
    obtain ⟨⟨⟨k1, k2, k3, -⟩, k4⟩, k5, -⟩ := hc
    have hlen : (a.2.2.1 ++ [-63, nI (m + a.2.2.1.length + 2 + b.2.2.1.length + 1)] ++ b.2.2.1 ++ [-59]).length = a.2.2.1.length + 2 + b.2.2.1.length + 1 := by
      rw [List.length_append, List.length_append, List.length_append]
      rfl
    have hm : m + (a.2.2.1 ++ [-63, nI (m + a.2.2.1.length + 2 + b.2.2.1.length + 1)] ++ b.2.2.1 ++ [-59]).length ≤ Lc := hm
    rw [hlen] at hm
    have k4 : cAt 12 b.2.2.1 (m + (a.2.2.1.length + 2)) I := k4
    have k5 : I 12 (m + (a.2.2.1.length + 2 + b.2.2.1.length)) = -59 := k5
    refine ⟨fun u hu hP => ?_, fun hn next => ?_⟩
    · have hu : (if a.2.2.2 e = 0 then none else some (b.2.2.2 e)) = some u := hu
      by_cases z : a.2.2.2 e = 0
      · rw [if_pos z] at hu
        cases hu
      rw [if_neg z] at hu
      cases hu
      refine cCells hL hd a.2.2.1 m [] I k1 b3 (by omega) h6 hs (by show 0 + _ ≤ 120; omega) fun I1 g1 g2 => ?_
      rw [b4] at g1
      refine cAsk (J := m + a.2.2.1.length + 2 + b.2.2.1.length + 1) ((g2 12 _ (by omega) (by omega)).trans k2) ((g2 12 _ (by omega) (by omega)).trans k3) (by omega) (by omega) hL ((g2 9 6 (by omega) (by omega)).trans h6) g1 (by show 0 < 120; omega) hd (fun _ I2 g3 g4 => ?_) (fun z2 => absurd z2 z)
      have g24 := g2.tr g4
      rw [show m + a.2.2.1.length + 2 = m + (a.2.2.1.length + 2) by omega]
      refine cCells hL hd b.2.2.1 _ [] I2 (cAt_off _ _ (fun x h1 h2 => g24 12 x (by omega) (by omega)) k4) f3 (by omega) ((g24 9 6 (by omega) (by omega)).trans h6) g3 (by show 0 + _ ≤ 120; omega) fun I3 g5 g6 => ?_
      rw [f4] at g5
      have g26 := g24.tr g6
      rw [show m + (a.2.2.1.length + 2) + b.2.2.1.length = m + (a.2.2.1.length + 2 + b.2.2.1.length) by omega]
      exact cSemi (I0 := I0) ((g26 12 _ (by omega) (by omega)).trans k5) (by omega) hL ((g26 9 6 (by omega) (by omega)).trans h6) g5 (by show 1 ≤ 120; omega) hd (h0.tr g26) hP
    · have hn : (if a.2.2.2 e = 0 then none else some (b.2.2.2 e)) = none := hn
      by_cases z : a.2.2.2 e = 0
      rotate_left
      · rw [if_neg z] at hn
        cases hn
      refine cCells hL hd a.2.2.1 m [] I k1 b3 (by omega) h6 hs (by show 0 + _ ≤ 120; omega) fun I1 g1 g2 => ?_
      rw [b4] at g1
      refine cAsk (J := m + a.2.2.1.length + 2 + b.2.2.1.length + 1) ((g2 12 _ (by omega) (by omega)).trans k2) ((g2 12 _ (by omega) (by omega)).trans k3) (by omega) (by omega) hL ((g2 9 6 (by omega) (by omega)).trans h6) g1 (by show 0 < 120; omega) hd (fun z2 => absurd z z2) (fun _ I2 g3 g4 => ?_)
      have := next I2 g3 (h0.tr (g2.tr g4))
      have e5 : m + a.2.2.1.length + 2 + b.2.2.1.length + 1 = m + (a.2.2.1 ++ [-63, nI (m + a.2.2.1.length + 2 + b.2.2.1.length + 1)] ++ b.2.2.1 ++ [-59]).length := by rw [hlen]; omega
      rw [e5]
      exact this
  · rw [if_neg c2] at hg hc hm ⊢
    have hc : cAt 12 (a.2.2.1 ++ [-59]) m I := hc
    rw [cAt_app] at hc
    obtain ⟨k1, k5, -⟩ := hc
    have hm : m + (a.2.2.1 ++ [-59]).length ≤ Lc := hm
    rw [List.length_append] at hm
    have hm : m + (a.2.2.1.length + 1) ≤ Lc := hm
    refine ⟨fun u hu hP => ?_, fun hn => by cases hn⟩
    cases hu
    refine cCells hL hd a.2.2.1 m [] I k1 b3 (by omega) h6 hs (by show 0 + _ ≤ 120; omega) fun I1 g1 g2 => ?_
    rw [b4] at g1
    exact cSemi (I0 := I0) ((g2 12 _ (by omega) (by omega)).trans k5) (by omega) hL ((g2 9 6 (by omega) (by omega)).trans h6) g1 (by show 1 ≤ 120; omega) hd (h0.tr g2) hP
theorem pTx_good : ∀ f r, (pTx X N f r).1 = true → r.1 = true
  | 0, r, h => h
  | f + 1, r, h => by
    unfold pTx at h
    by_cases c : r.1 = true ∧ tB X N r.2.1 = 59
    · exact c.1
    · rw [if_neg c] at h
      exact h
theorem pTx_pre : ∀ f r, ∃ t, (pTx X N f r).2.2.1 = r.2.2.1 ++ t
  | 0, r => ⟨[], (List.append_nil _).symm⟩
  | f + 1, r => by
    unfold pTx
    by_cases c : r.1 = true ∧ tB X N r.2.1 = 59
    · rw [if_pos c]
      obtain ⟨t, ht⟩ := pTx_pre f ((pLn X N (r.2.1 + 1) r.2.2.1.length).1, (pLn X N (r.2.1 + 1) r.2.2.1.length).2.1, r.2.2.1 ++ (pLn X N (r.2.1 + 1) r.2.2.1.length).2.2.1, fun e => orS (r.2.2.2 e) ((pLn X N (r.2.1 + 1) r.2.2.1.length).2.2.2 e))
      refine ⟨(pLn X N (r.2.1 + 1) r.2.2.1.length).2.2.1 ++ t, ?_⟩
      rw [ht, List.append_assoc]
    · rw [if_neg c]
      exact ⟨[], (List.append_nil _).symm⟩
/-- the text up to here runs so -/
def rPf (l : Launch) (G : zG) (d : Nat) (P : Int32 → zIM → zLM → Prop) (L : zLM) (e : Nat → Int32) (I : zIM) (r : zLn) : Prop :=
  (∀ u, r.2.2.2 e = some u → (∀ I', nS I I' → P (clp u) I' L) → K_X3_number_8 l G d P I L (e 0) (e 1) (e 2) (e 3) (e 4) (nI 0)) ∧
  (r.2.2.2 e = none → (∀ I', mS [] I' → nS I I' → K_X3_number_8 l G d P I' L (e 0) (e 1) (e 2) (e 3) (e 4) (nI r.2.2.1.length)) → K_X3_number_8 l G d P I L (e 0) (e 1) (e 2) (e 3) (e 4) (nI 0))
theorem cTxRun {I : zIM} {Lc : Nat} (hN : N ≤ 120) (hL : Lc ≤ 256) (h6 : I 9 6 = nI Lc) (hd : 3 ≤ d) : ∀ f r, (pTx X N f r).1 = true → cAt 12 (pTx X N f r).2.2.1 0 I → (pTx X N f r).2.2.1.length ≤ Lc → r.2.1 ≤ N → rPf l G d P L e I r → rPf l G d P L e I (pTx X N f r)
  | 0, r, hg, hc, hl, hr, h => h
  | f + 1, r, hg, hc, hl, hr, h => by
    have hgr := pTx_good (f + 1) r hg
    unfold pTx at hg hc hl ⊢
    by_cases c : r.1 = true ∧ tB X N r.2.1 = 59
    rotate_left
    · rw [if_neg c]
      exact h
    rw [if_pos c] at hg hc hl ⊢
    have hlt : r.2.1 < N := tB_lt (X := X) (by omega)
    have hln := pLn_ok (X := X) (N := N) (p := r.2.1 + 1) (m := r.2.2.1.length) hlt
    have hg2 : (pLn X N (r.2.1 + 1) r.2.2.1.length).1 = true := pTx_good (X := X) (N := N) f ((pLn X N (r.2.1 + 1) r.2.2.1.length).1, (pLn X N (r.2.1 + 1) r.2.2.1.length).2.1, r.2.2.1 ++ (pLn X N (r.2.1 + 1) r.2.2.1.length).2.2.1, fun e => orS (r.2.2.2 e) ((pLn X N (r.2.1 + 1) r.2.2.1.length).2.2.2 e)) hg
    obtain ⟨t, ht⟩ := pTx_pre (X := X) (N := N) f ((pLn X N (r.2.1 + 1) r.2.2.1.length).1, (pLn X N (r.2.1 + 1) r.2.2.1.length).2.1, r.2.2.1 ++ (pLn X N (r.2.1 + 1) r.2.2.1.length).2.2.1, fun e => orS (r.2.2.2 e) ((pLn X N (r.2.1 + 1) r.2.2.1.length).2.2.2 e))
    have hc2 := hc
    have hl2 := hl
    rw [ht, cAt_app, cAt_app, Nat.zero_add] at hc2
    rw [ht, List.length_append, List.length_append] at hl2
    refine cTxRun hN hL h6 hd f _ hg hc hl hln.2.1 ?_
    refine ⟨fun u hu hP => ?_, fun hn next => ?_⟩
    · have hu : orS (r.2.2.2 e) ((pLn X N (r.2.1 + 1) r.2.2.1.length).2.2.2 e) = some u := hu
      cases hr2 : r.2.2.2 e with
      | some u' =>
        rw [hr2] at hu
        cases hu
        exact h.1 u hr2 hP
      | none =>
        rw [hr2] at hu
        refine h.2 hr2 fun I1 g1 g2 => ?_
        exact (cLnRun (I0 := I) (p := r.2.1 + 1) hlt hN hg2 (cAt_off _ _ (fun b h1 h2 => g2 12 b (by omega) (by omega)) hc2.1.2) (by omega) hL ((g2 9 6 (by omega) (by omega)).trans h6) g1 g2 hd).1 u hu hP
    · have hn : orS (r.2.2.2 e) ((pLn X N (r.2.1 + 1) r.2.2.1.length).2.2.2 e) = none := hn
      cases hr2 : r.2.2.2 e with
      | some u' =>
        rw [hr2] at hn
        cases hn
      | none =>
        rw [hr2] at hn
        refine h.2 hr2 fun I1 g1 g2 => ?_
        refine (cLnRun (I0 := I) (p := r.2.1 + 1) hlt hN hg2 (cAt_off _ _ (fun b h1 h2 => g2 12 b (by omega) (by omega)) hc2.1.2) (by omega) hL ((g2 9 6 (by omega) (by omega)).trans h6) g1 g2 hd).2 hn fun I2 q1 q2 => ?_
        have := next I2 q1 q2
        have e5 : r.2.2.1.length + (pLn X N (r.2.1 + 1) r.2.2.1.length).2.2.1.length = (r.2.2.1 ++ (pLn X N (r.2.1 + 1) r.2.2.1.length).2.2.1).length := (List.length_append).symm
        rw [e5]
        exact this
/-- what THE LAW gives, by names -/
def lwV (X : Nat → Nat) (N : Nat) (e : Nat → Int32) : Int32 := match (pAll X N).2.2.2 e with
  | some u => clp u
  | none => 0
theorem cNumber {I : zIM} (hN : N ≤ 120) (hg : (pAll X N).1 = true) (hc : cAt 12 (pAll X N).2.2.1 0 I) (hl : (pAll X N).2.2.1.length ≤ 256) (h6 : I 9 6 = nI (pAll X N).2.2.1.length) (hd : 3 ≤ d) : zCi l G d mX3_number [.ref 9, .int (e 0), .int (e 1), .int (e 2), .int (e 3), .int (e 4)] I L (fun y I' L' => lwV X N e = y ∧ L = L' ∧ nS I I') := by
  have o1 : nS I (xI I 9 8 (0 : Int32)) := fun a b h1 h2 => xI_ne (by omega)
  have s1 : mS [] (xI I 9 8 (0 : Int32)) := ⟨xI_eq.trans nI_0.symm, trivial⟩
  have hc1 : cAt 12 (pAll X N).2.2.1 0 (xI I 9 8 (0 : Int32)) := cAt_off _ _ (fun b _ _ => xI_ne (by omega)) hc
  have h61 : xI I 9 8 (0 : Int32) 9 6 = nI (pAll X N).2.2.1.length := (xI_ne (by omega)).trans h6
  have hg0 : (pLn X N 0 0).1 = true := pTx_good 120 _ hg
  have h0 := pLn_ok (X := X) (N := N) (p := 0) (m := 0) (Nat.zero_le _)
  obtain ⟨t, ht⟩ := pTx_pre (X := X) (N := N) 120 (pLn X N 0 0)
  have hc2 : cAt 12 (pLn X N 0 0).2.2.1 0 (xI I 9 8 (0 : Int32)) := by
    have := hc1
    unfold pAll at this
    rw [ht, cAt_app] at this
    exact this.1
  have hl2 : (pLn X N 0 0).2.2.1.length ≤ (pAll X N).2.2.1.length := by
    unfold pAll
    rw [ht, List.length_append]
    omega
  have run := cTxRun (l := l) (G := G) (d := d) (P := fun y I' L' => lwV X N e = y ∧ L = L' ∧ nS I I') (L := L) (e := e) (X := X) (I := xI I 9 8 (0 : Int32)) hN hl h61 hd 120 (pLn X N 0 0) hg hc1 (Nat.le_refl _) h0.2.1 (by
    have := cLnRun (l := l) (G := G) (d := d) (P := fun y I' L' => lwV X N e = y ∧ L = L' ∧ nS I I') (L := L) (e := e) (I0 := xI I 9 8 (0 : Int32)) (I := xI I 9 8 (0 : Int32)) (p := 0) (m := 0) (Nat.zero_le _) hN hg0 hc2 (by omega) hl h61 s1 nS.rf hd
    rw [Nat.zero_add] at this
    exact this)
  refine t_X3_number ?_
  have goal : K_X3_number_8 l G d (fun y I' L' => lwV X N e = y ∧ L = L' ∧ nS I I') (xI I 9 8 (0 : Int32)) L (e 0) (e 1) (e 2) (e 3) (e 4) (nI 0) := by
    cases hF : (pAll X N).2.2.2 e with
    | some u =>
      refine run.1 u hF fun I' g => ⟨?_, rfl, o1.tr g⟩
      unfold lwV
      rw [hF]
    | none =>
      refine run.2 hF fun I' g1 g2 => ?_
      refine t_X3_number_8 (by omega) ⟨fun _ => ⟨?_, rfl, o1.tr g2⟩, fun c => absurd ?_ c⟩
      · unfold lwV
        rw [hF]
      · rw [g2 9 6 (by omega) (by omega), h61]
        exact nI_le (Nat.le_refl _) (show (pAll X N).2.2.1.length < 2 ^ 31 by omega)
  rw [nI_0] at goal
  exact goal
end NL
