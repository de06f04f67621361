/-! ===== law: both read THE TAPE alike ===== -/
theorem clp_i (y : Int32) : (clp y).toInt = if y.toInt < 0 then 0 else if 12 < y.toInt then 12 else y.toInt := by
  unfold clp
  have e12 : (12 : Int32).toInt = 12 := by decide
  have e0 : (0 : Int32).toInt = 0 := by decide
  by_cases c : y < 12
  · rw [if_pos c]
    rw [Int32.lt_iff_toInt_lt, e12] at c
    by_cases c2 : 0 < y
    · rw [if_pos c2]
      rw [Int32.lt_iff_toInt_lt, e0] at c2
      rw [if_neg (by omega), if_neg (by omega)]
    · rw [if_neg c2]
      rw [Int32.lt_iff_toInt_lt, e0] at c2
      by_cases h : y.toInt < 0
      · rw [if_pos h]
        exact e0
      · rw [if_neg h, if_neg (by omega), e0]
        omega
  · rw [if_neg c, if_pos (by decide)]
    rw [Int32.lt_iff_toInt_lt, e12] at c
    rw [e12, if_neg (by omega)]
    by_cases h : 12 < y.toInt
    · rw [if_pos h]
    · rw [if_neg h]
      omega
theorem clp_0 : clp 0 = 0 := by decide
theorem lwV_eq (X : Nat → Nat) (N : Nat) (e : Nat → Int32) : lwV X N e = clp (((pAll X N).2.2.2 e).getD 0) := by
  unfold lwV
  cases (pAll X N).2.2.2 e with
  | some u => rfl
  | none => exact clp_0.symm
def evN (h a t m n : Nat) : Nat → Int32
  | 0 => nI h
  | 1 => nI a
  | 2 => nI t
  | 3 => nI m
  | _ => nI n
def lwN (X : Nat → Nat) (N h a t m n : Nat) : Nat := (lwV X N (evN h a t m n)).toInt.toNat
theorem lwN_ok (X : Nat → Nat) (N h a t m n : Nat) : lwN X N h a t m n ≤ 12 ∧ nI (lwN X N h a t m n) = lwV X N (evN h a t m n) := by
  have := clp_i (((pAll X N).2.2.2 (evN h a t m n)).getD 0)
  rw [← lwV_eq] at this
  have h1 : (lwV X N (evN h a t m n)).toInt = (lwN X N h a t m n : Int) ∧ lwN X N h a t m n ≤ 12 := by
    unfold lwN
    rw [this]
    split
    · omega
    · split <;> omega
  refine ⟨h1.2, Int32.toInt_inj.mp ?_⟩
  rw [h1.1, nI_toInt (by omega)]
section LW
variable {l : Launch} {G : zG} {d : Nat} {I : zIM} {L : zLM} {X : Nat → Nat} {N : Nat}
theorem pLn_pos {p m : Nat} (h : (pLn X N p m).1 = true) : 0 < (pLn X N p m).2.2.1.length := by
  unfold pLn at h ⊢
  by_cases c : (pE X N p).1 = true
  · rw [if_pos c] at h ⊢
    by_cases c2 : tB X N (pE X N p).2.1 = 63
    · rw [if_pos c2]
      show 0 < List.length (_ ++ [-59])
      rw [List.length_append]
      exact Nat.succ_pos _
    · rw [if_neg c2]
      show 0 < List.length (_ ++ [-59])
      rw [List.length_append]
      exact Nat.succ_pos _
  · rw [if_neg c] at h
    cases h
theorem pTx_len : ∀ f r, lT2 N r → lT2 N (pTx X N f r)
  | 0, r, h => h
  | f + 1, r, h => by
    unfold pTx
    by_cases c : r.1 = true ∧ tB X N r.2.1 = 59
    · rw [if_pos c]
      have hlt : r.2.1 < N := tB_lt (X := X) (by omega)
      obtain ⟨a1, a2, a3⟩ := pLn_ok (X := X) (N := N) (p := r.2.1 + 1) (m := r.2.2.1.length) hlt
      refine pTx_len f _ ⟨a2, fun z => ?_⟩
      obtain ⟨b1, b2⟩ := a3 z
      have := h.2 c.1
      show (r.2.2.1 ++ (pLn X N (r.2.1 + 1) r.2.2.1.length).2.2.1).length ≤ 2 * (pLn X N (r.2.1 + 1) r.2.2.1.length).2.1 + 1
      rw [List.length_append]
      omega
    · rw [if_neg c]
      exact h
theorem pAll_len (hN : N ≤ 120) (h : (pAll X N).1 = true) : 0 < (pAll X N).2.2.1.length ∧ (pAll X N).2.2.1.length ≤ 241 := by
  obtain ⟨a1, a2, a3⟩ := pLn_ok (X := X) (N := N) (p := 0) (m := 0) (Nat.zero_le _)
  have hg : (pLn X N 0 0).1 = true := pTx_good 120 _ h
  have h2 : lT2 N (pAll X N) := pTx_len 120 _ ⟨a2, fun z => by obtain ⟨b1, b2⟩ := a3 z; omega⟩
  have h3 := h2.2 h
  have h4 := h2.1
  obtain ⟨t, ht⟩ := pTx_pre (X := X) (N := N) 120 (pLn X N 0 0)
  have h5 := pLn_pos hg
  have h6 : (pAll X N).2.2.1.length = (pLn X N 0 0).2.2.1.length + t.length := by
    unfold pAll
    rw [ht, List.length_append]
  omega
theorem pAll_le : (pAll X N).2.1 ≤ N := by
  obtain ⟨a1, a2, a3⟩ := pLn_ok (X := X) (N := N) (p := 0) (m := 0) (Nat.zero_le _)
  exact (pTx_len (X := X) 120 _ ⟨a2, fun z => by obtain ⟨b1, b2⟩ := a3 z; omega⟩ : lT2 N (pAll X N)).1
theorem wS_off {b x : Int32} {a c : Nat} (h : a = 44 → c < 16 ∨ 20 < c) : wS I b x a c = I a c := by
  unfold wS
  rw [xI_ne (by omega), xI_ne (by omega), xI_ne (by omega), xI_ne (by omega), xI_ne (by omega)]
theorem wS_wR {b : Int32} {e : Nat → Int32} (hN : N ≤ 120) (hX : ∀ i, i < N → X i ≤ 255) (hb : (b = -1 ∧ ∀ i, i < N → I 53 i = nI (X i)) ∨ (b = 0 ∧ ∀ i, i < N → I 54 i = nI (X i))) (he : ∀ j, j < 5 → I 55 j = e j) : wR X N e (wS I b (nI N)) := by
  have e16 : wS I b (nI N) 44 16 = b := by
    unfold wS
    rw [xI_ne (by omega), xI_ne (by omega), xI_ne (by omega), xI_ne (by omega), xI_eq]
  have e18 : wS I b (nI N) 44 18 = nI N := by
    unfold wS
    rw [xI_ne (by omega), xI_ne (by omega), xI_eq]
  refine ⟨e18, hN, hX, ?_, fun j hj => (wS_off (by omega)).trans (he j hj)⟩
  rcases hb with ⟨h1, h2⟩ | ⟨h1, h2⟩
  · exact Or.inl ⟨e16.trans h1, fun i hi => (wS_off (by omega)).trans (h2 i hi)⟩
  · exact Or.inr ⟨e16.trans h1, fun i hi => (wS_off (by omega)).trans (h2 i hi)⟩
theorem rHits {h a t m n : Nat} (hN : N ≤ 120) (hX : ∀ i, i < N → X i ≤ 255) (h54 : ∀ i, i < N → I 54 i = nI (X i)) (h15 : I 44 15 = nI N) (hg : (pAll X N).1 = true ∧ (pAll X N).2.1 = N) (ha : a < 4) (h45 : I 45 a = nI h) (hd : 100 ≤ d) :
    zCi l G d mX9_hitsOf [.ref 44, .int (nI a), .int (nI t), .int (nI m), .int (nI n)] I L (fun y I2 L2 => lwV X N (evN h a t m n) = y ∧ L = L2 ∧ ∀ x b, x ≠ 55 → (x = 44 → b < 16 ∨ 20 < b) → I2 x b = I x b) := by
  refine t_X9_hitsOf ⟨fun _ => ⟨a, rfl, by omega, ?_⟩, fun c => absurd (by rw [h15, ← nI_0]; exact nI_le (Nat.zero_le _) (by omega)) c⟩
  rw [h15, h45]
  refine ⟨90, _, by omega, rWork (X := X) (e := evN h a t m n) (by omega) (wS_wR hN hX (Or.inr ⟨rfl, fun i hi => ?_⟩) fun j hj => ?_), ?_⟩
  · rw [xI_ne (by omega), xI_ne (by omega), xI_ne (by omega), xI_ne (by omega), xI_ne (by omega)]
    exact h54 i hi
  · rcases (by omega : j = 0 ∨ j = 1 ∨ j = 2 ∨ j = 3 ∨ j = 4) with rfl | rfl | rfl | rfl | rfl
    · rw [xI_ne (by omega), xI_ne (by omega), xI_ne (by omega), xI_ne (by omega), xI_eq]; rfl
    · rw [xI_ne (by omega), xI_ne (by omega), xI_ne (by omega), xI_eq]; rfl
    · rw [xI_ne (by omega), xI_ne (by omega), xI_eq]; rfl
    · rw [xI_ne (by omega), xI_eq]; rfl
    · rw [xI_eq]; rfl
  · rintro y3 I3 _ ⟨rfl, q1, q2, q3⟩
    have q2 := (q2 hg).2
    have off : ∀ x b, x ≠ 55 → (x = 44 → b < 16 ∨ 20 < b) → I3 x b = I x b := fun x b h1 h2 => by
      rw [q1 x b (by omega), wS_off h2, xI_ne (by omega), xI_ne (by omega), xI_ne (by omega), xI_ne (by omega), xI_ne (by omega)]
    have hc := clp_i y3
    rw [lwV_eq, q2]
    have e12 : (12 : Int32).toInt = 12 := by decide
    have e0 : (0 : Int32).toInt = 0 := by decide
    refine ⟨fun c => ⟨fun c2 => ⟨Int32.toInt_inj.mp ?_, rfl, off⟩, fun c2 => ⟨Int32.toInt_inj.mp ?_, rfl, off⟩⟩, fun c => ⟨Int32.toInt_inj.mp ?_, rfl, off⟩⟩
    · rw [Int32.le_iff_toInt_le] at c c2
      rw [hc, if_neg (by omega), if_neg (by omega)]
    · rw [Int32.le_iff_toInt_le] at c c2
      rw [hc, if_neg (by omega), if_pos (by omega), e12]
    · rw [Int32.le_iff_toInt_le] at c
      rw [hc, if_pos (by omega), e0]
theorem rCopy {P : Int32 → zIM → zLM → Prop} (hN : N ≤ 120) : ∀ f i (J : zIM), f + i = N → (∀ j, j < i → J 54 j = J 53 j) → (∀ J', (∀ a b, a ≠ 54 → J' a b = J a b) → (∀ j, j < N → J' 54 j = J' 53 j) → P 1 (xI J' 44 15 (nI N)) L) → K_X9_law_37 l G d P J L (nI N) (nI i)
  | 0, i, J, h, hj, hP => t_X9_law_37 ⟨fun _ => hP J (fun _ _ _ => rfl) (fun j hj2 => hj j (by omega)), fun c => absurd (nI_le (by omega) (by omega)) c⟩
  | f + 1, i, J, h, hj, hP => t_X9_law_37 ⟨fun c => absurd c (nI_ge (by omega) (by omega)), fun _ => ⟨i, rfl, by omega, by
    rw [nI_1]
    refine rCopy hN f (i + 1) _ (by omega) (fun j hj2 => ?_) fun J' g1 g2 => hP J' (fun a b hab => (g1 a b hab).trans (xI_ne (by omega))) g2
    rw [xI_ne (a := 53) (by omega)]
    by_cases e : j = i
    · rw [e, xI_eq]
    · rw [xI_ne (by omega)]
      exact hj j (by omega)⟩⟩
theorem s_law : zStep l G mX8_law mX9_law [] := by
  rintro I L ⟨v, o, nb, hv, hG, hF, hM, hLw, hNm, hTp, hDd, hIm, hCh, hBd, hTr, hSh⟩
  obtain ⟨n, hn, t1, t2, t3⟩ := hTp
  let X : Nat → Nat := fun i => (I 10 i).toInt.toNat
  have hX3 : ∀ i, i < n → X i ≤ 255 ∧ I 10 i = nI (X i) ∧ I 53 i = nI (X i) := fun i hi => by
    obtain ⟨k, k1, k2, k3⟩ := t3 i hi
    have e : X i = k := by
      show (I 10 i).toInt.toNat = k
      rw [k2, nI_toInt (by omega)]
      omega
    rw [e]
    exact ⟨k1, k2, k3⟩
  clear_value X
  have hw : tW X n I := ⟨t1, fun i hi => (hX3 i hi).2.1, hn, fun i hi => (hX3 i hi).1⟩
  have hple := pAll_le (X := X) (N := n)
  refine ⟨fun y I' L' => L = L' ∧ I' 9 0 = 0 ∧ ((((pAll X n).1 = true ∧ (pAll X n).2.1 = n) ∧ y = 1 ∧ I' 14 8 = 0 ∧ I' 9 6 = nI (pAll X n).2.2.1.length ∧ cAt 12 (pAll X n).2.2.1 0 I' ∧ ∀ a b, a ≠ 11 → a ≠ 12 → ¬ (a = 9 ∧ (b = 0 ∨ b = 2 ∨ b = 4 ∨ b = 6)) → ¬ (a = 14 ∧ b = 8) → I' a b = I a b) ∨ (¬ ((pAll X n).1 = true ∧ (pAll X n).2.1 = n) ∧ y = -100 - nI (pAll X n).2.1 ∧ ∀ a b, a ≠ 11 → ¬ (a = 9 ∧ (b = 0 ∨ b = 2 ∨ b = 4)) → I' a b = I a b)), ?_, ?_⟩
  · refine t_X8_law ⟨890, _, by decide, cReadTape hw (by decide), ?_⟩
    rintro y1 I1 _ ⟨rfl, g0, g⟩
    rcases g with ⟨h1, h2, rfl, h4, h5, h6⟩ | ⟨h1, rfl, h3⟩
    · refine ⟨fun _ => ⟨0, fun I' L' => I' = xI I1 14 8 0 ∧ L' = L, by decide, t_X4_forgetNumbers ⟨rfl, rfl⟩, ?_⟩, fun c => absurd rfl c⟩
      rintro _ _ ⟨rfl, rfl⟩
      exact ⟨rfl, (xI_ne (by omega)).trans g0, Or.inl ⟨⟨h1, h2⟩, rfl, xI_eq, (xI_ne (by omega)).trans h4, cAt_off _ _ (fun b _ _ => xI_ne (by omega)) h5, fun a b q1 q2 q3 q4 => (xI_ne (by omega)).trans (h6 a b q1 q2 q3)⟩⟩
    · exact ⟨fun c => absurd c (nI_nm (by omega)).1, fun _ => ⟨rfl, g0, Or.inr ⟨h1, rfl, h3⟩⟩⟩
  · rintro y I1 _ ⟨rfl, g0, g⟩
    have o44 : ∀ a b, a ≠ 9 → a ≠ 11 → a ≠ 12 → a ≠ 14 → I1 a b = I a b := fun a b h1 h2 h3 h4 => by
      rcases g with ⟨_, _, _, _, _, g⟩ | ⟨_, _, g⟩
      · exact g a b h2 h3 (by omega) (by omega)
      · exact g a b h2 (by omega)
    have e13 : I1 44 13 = nI n := (o44 44 13 (by omega) (by omega) (by omega) (by omega)).trans t2
    refine t_X9_law ?_
    rw [e13]
    refine ⟨890, _, by decide, rWork (X := X) (e := fun j => I1 55 j) (by decide) (wS_wR hn (fun i hi => (hX3 i hi).1) (Or.inl ⟨rfl, fun i hi => (o44 53 i (by omega) (by omega) (by omega) (by omega)).trans (hX3 i hi).2.2⟩) fun j hj => rfl), ?_⟩
    rintro y1 I2 _ ⟨rfl, q1, q2, q3⟩
    have o2 : ∀ a b, (a = 44 → b < 16 ∨ 20 < b) → I2 a b = I1 a b := fun a b h => (q1 a b (by omega)).trans (wS_off h)
    rcases g with ⟨hg, rfl, g8, g6, gc, go⟩ | ⟨hg, rfl, go⟩
    · obtain ⟨k1, k2⟩ := q2 hg
      have hlen := pAll_len hn hg.1
      refine ⟨fun _ => ?_, fun c => absurd (by rw [k1]; decide) c⟩
      rw [o2 44 13 (by omega), e13, ← nI_0]
      refine rCopy hn n 0 _ (Nat.add_zero n) (fun j hj => absurd hj (by omega)) fun J' j1 j2 => ⟨rfl, ?_⟩
      have off : ∀ a b, a ≠ 11 → a ≠ 12 → a ≠ 54 → ¬ (a = 9 ∧ (b = 0 ∨ b = 2 ∨ b = 4 ∨ b = 6)) → ¬ (a = 14 ∧ b = 8) → ¬ (a = 44 ∧ (b = 13 ∨ b = 15 ∨ b = 16 ∨ b = 17 ∨ b = 18 ∨ b = 19 ∨ b = 20)) → xI J' 44 15 (nI n) a b = I a b := fun a b h1 h2 h3 h4 h5 h6 => by
        rw [xI_ne (by omega), j1 a b h3, xI_ne (by omega), o2 a b (by omega)]
        exact go a b h1 h2 h4 h5
      have k9 : ∀ a b, a ≠ 54 → a ≠ 44 → xI J' 44 15 (nI n) a b = I1 a b := fun a b h1 h2 => by
        rw [xI_ne (by omega), j1 a b h1, xI_ne (by omega), o2 a b (by omega)]
      have j54 : ∀ i, i < n → xI J' 44 15 (nI n) 54 i = nI (X i) := fun i hi => by
        rw [xI_ne (by omega), j2 i hi, j1 53 i (by omega), xI_ne (by omega), o2 53 i (by omega), o44 53 i (by omega) (by omega) (by omega) (by omega)]
        exact (hX3 i hi).2.2
      have k13 : xI J' 44 15 (nI n) 44 13 = nI 0 := by rw [xI_ne (by omega), j1 44 13 (by omega), xI_eq]
      have k96 : xI J' 44 15 (nI n) 9 6 = nI (pAll X n).2.2.1.length := (k9 9 6 (by omega) (by omega)).trans g6
      have kc : cAt 12 (pAll X n).2.2.1 0 (xI J' 44 15 (nI n)) := cAt_off _ _ (fun b _ _ => k9 12 b (by omega) (by omega)) gc
      have hL2 : rLaw (some (lwN X n)) (xI J' 44 15 (nI n)) := by
        refine ⟨⟨_, hlen.1, by omega, k96⟩, ⟨n, hn, xI_eq⟩, fun h a t m n' => (lwN_ok X n h a t m n').1, ?_, ?_⟩
        · intro l G d I' L' hd p1 p2 h a t m n' _ _ _ _ _
          rw [(lwN_ok X n h a t m n').2]
          exact cNumber (X := X) (N := n) (e := evN h a t m n') hn hg.1 (cAt_off _ _ (fun b _ _ => p2 b) kc) (by omega) (p1.trans k96) hd
        · intro l G d I' L' hd p1 p2 h a t m n' _ h45 ha _ _ _
          rw [(lwN_ok X n h a t m n').2]
          exact rHits hn (fun i hi => (hX3 i hi).1) (fun i hi => (p2 i).trans (j54 i hi)) (p1.trans xI_eq) hg ha h45 hd
      refine ⟨v, some (lwN X n), nb, hv, hG.off (fun a b h1 h8 => off a b (by omega) (by omega) (by omega) (by omega) (by omega) (by omega)), hF.off (fun b => off 8 b (by omega) (by omega) (by omega) (by omega) (by omega) (by omega)), hM.off (off _ _ (by omega) (by omega) (by omega) (by omega) (by omega) (by omega)) (off _ _ (by omega) (by omega) (by omega) (by omega) (by omega) (by omega)) (fun a b h => off a b (by omega) (by omega) (by omega) (by omega) (by omega) (by omega)), hL2, Or.inl ((k9 14 8 (by omega) (by omega)).trans g8), ⟨0, by omega, (k9 9 0 (by omega) (by omega)).trans (g0.trans nI_0.symm), k13, fun i hi => absurd hi (by omega)⟩, hDd.off (fun b hb => off 20 b (by omega) (by omega) (by omega) (by omega) (by omega) (by omega)) (fun b h1 h2 => off 44 b (by omega) (by omega) (by omega) (by omega) (by omega) (by omega)), hIm.off (fun b h1 h2 => off 20 b (by omega) (by omega) (by omega) (by omega) (by omega) (by omega)) (fun b h1 h2 => off 44 b (by omega) (by omega) (by omega) (by omega) (by omega) (by omega)), hCh.off (Nat.le_refl _) (off _ _ (by omega) (by omega) (by omega) (by omega) (by omega) (by omega)) (off _ _ (by omega) (by omega) (by omega) (by omega) (by omega) (by omega)) (off _ _ (by omega) (by omega) (by omega) (by omega) (by omega) (by omega)) (off _ _ (by omega) (by omega) (by omega) (by omega) (by omega) (by omega)) (fun a b h => off a b (by omega) (by omega) (by omega) (by omega) (by omega) (by omega)), hBd.off (off _ _ (by omega) (by omega) (by omega) (by omega) (by omega) (by omega)) (off _ _ (by omega) (by omega) (by omega) (by omega) (by omega) (by omega)) (fun a b h => off a b (by omega) (by omega) (by omega) (by omega) (by omega) (by omega)), hTr.off (off _ _ (by omega) (by omega) (by omega) (by omega) (by omega) (by omega)) (off _ _ (by omega) (by omega) (by omega) (by omega) (by omega) (by omega)) (fun a b h => off a b (by omega) (by omega) (by omega) (by omega) (by omega) (by omega)), hSh.off (Nat.le_refl _) (fun a b h => off a b (by omega) (by omega) (by omega) (by omega) (by omega) (by omega)) (fun _ _ _ => rfl)⟩
    · have k1 := q3 hg
      refine ⟨fun c => absurd c ?_, fun _ => ?_⟩
      · rw [k1, ← nI_0]
        exact nI_nlt (Nat.zero_le _) (by omega)
      · have off : ∀ a b, a ≠ 11 → ¬ (a = 9 ∧ (b = 0 ∨ b = 2 ∨ b = 4)) → ¬ (a = 44 ∧ (b = 13 ∨ b = 16 ∨ b = 17 ∨ b = 18 ∨ b = 19 ∨ b = 20)) → xI I2 44 13 0 a b = I a b := fun a b h1 h2 h3 => by
          rw [xI_ne (by omega), o2 a b (by omega)]
          exact go a b h1 h2
        refine ⟨by rw [k1], v, o, nb, hv, hG.off (fun a b h1 h8 => off a b (by omega) (by omega) (by omega)), hF.off (fun b => off 8 b (by omega) (by omega) (by omega)), hM.off (off _ _ (by omega) (by omega) (by omega)) (off _ _ (by omega) (by omega) (by omega)) (fun a b h => off a b (by omega) (by omega) (by omega)), hLw.off (off _ _ (by omega) (by omega) (by omega)) (fun b => off _ _ (by omega) (by omega) (by omega)) (off _ _ (by omega) (by omega) (by omega)) (fun b => off _ _ (by omega) (by omega) (by omega)), hNm.off (off _ _ (by omega) (by omega) (by omega)) (fun b => off _ _ (by omega) (by omega) (by omega)), ⟨0, by omega, ?_, xI_eq.trans nI_0.symm, fun i hi => absurd hi (by omega)⟩, hDd.off (fun b hb => off 20 b (by omega) (by omega) (by omega)) (fun b h1 h2 => off 44 b (by omega) (by omega) (by omega)), hIm.off (fun b h1 h2 => off 20 b (by omega) (by omega) (by omega)) (fun b h1 h2 => off 44 b (by omega) (by omega) (by omega)), hCh.off (Nat.le_refl _) (off _ _ (by omega) (by omega) (by omega)) (off _ _ (by omega) (by omega) (by omega)) (off _ _ (by omega) (by omega) (by omega)) (off _ _ (by omega) (by omega) (by omega)) (fun a b h => off a b (by omega) (by omega) (by omega)), hBd.off (off _ _ (by omega) (by omega) (by omega)) (off _ _ (by omega) (by omega) (by omega)) (fun a b h => off a b (by omega) (by omega) (by omega)), hTr.off (off _ _ (by omega) (by omega) (by omega)) (off _ _ (by omega) (by omega) (by omega)) (fun a b h => off a b (by omega) (by omega) (by omega)), hSh.off (Nat.le_refl _) (fun a b h => off a b (by omega) (by omega) (by omega)) (fun _ _ _ => rfl)⟩
        rw [xI_ne (by omega), o2 9 0 (by omega), nI_0]
        exact g0
end LW
