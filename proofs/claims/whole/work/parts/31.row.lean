/-! ===== public calls: row, taken ===== -/
/-- the KIND above (THROWER's: itself) -/
def upK (k : Nat) : Nat := if k = 3 then 2 else if k = 4 then 1 else if k = 5 then 3 else if k = 7 then 4 else 0
def sUn : Nat → Nat → Nat → Bool
  | 0, k, t => k == t
  | f + 1, k, t => if k = t then true else if k = 0 then false else sUn f (upK k) t
theorem upK_lt {k : Nat} : upK k < 8 := by unfold upK; repeat' split <;> try decide
theorem zABO_up : ∀ k, k < 8 → k ≠ 0 → zABO k = nI (upK k) := by decide +kernel
def rnkK (k : Nat) : Nat := ([0, 1, 1, 2, 2, 3, 1, 3] : List Nat).getD k 0
theorem rnkK_up : ∀ k, k < 8 → k ≠ 0 → rnkK (upK k) < rnkK k := by decide +kernel
theorem rnkK_0 : ∀ k, k < 8 → (rnkK k = 0 → k = 0) := by decide +kernel
theorem i_le0 {x : Int32} : x ≤ 0 ↔ x.toInt ≤ 0 := by rw [Int32.le_iff_toInt_le, Int32.toInt_zero]
section PR
variable {l : Launch} {G : zG}
theorem cHoldRow_17 {d q n : Nat} {I : zIM} {L0 : zLM} (hq : q < 6) (hn : n ≤ 60) : ∀ f i (L : zLM), f + i = n → (∀ j, j < i → L (32 + 2 * q) j = 0) → (∀ a b, a ≠ 32 + 2 * q → L a b = L0 a b) → K_X5_holdRow_17 l G d (fun I' L' => I = I' ∧ (∀ j, j < n → L' (32 + 2 * q) j = 0) ∧ ∀ a b, a ≠ 32 + 2 * q → L' a b = L0 a b) I L (nI n) (nI i) q
  | 0, i, L, h, h1, h2 => t_X5_holdRow_17 hq ⟨fun _ => ⟨rfl, fun j hj => h1 j (by omega), h2⟩, fun c => absurd (nI_le (by omega) (by omega)) c⟩
  | f + 1, i, L, h, h1, h2 => by
    refine t_X5_holdRow_17 hq ⟨fun c => absurd c (nI_ge (by omega) (by omega)), fun _ => ⟨i, rfl, by omega, ?_⟩⟩
    rw [nI_1]
    refine cHoldRow_17 hq hn f (i + 1) _ (by omega) (fun j hj => ?_) (fun a b ha => (xL_ne (fun z => ha z.1)).trans (h2 a b ha))
    by_cases e : j = i
    · subst e; exact xL_eq
    · exact (xL_ne (by omega)).trans (h1 j (by omega))
theorem cHoldRow {d q n : Nat} {I : zIM} {L : zLM} (hq : q < 6) (hn : n ≤ 60) (s : Int32) : zCv l G d mX5_holdRow [.ref (31 + 2 * q), .int s, .int (nI n)] I L (fun I' L' => xI (xI (xI I (31 + 2 * q) 0 s) (31 + 2 * q) 1 (-1)) (31 + 2 * q) 2 (nI n) = I' ∧ (∀ j, j < n → L' (32 + 2 * q) j = 0) ∧ ∀ a b, a ≠ 32 + 2 * q → L' a b = L a b) :=
  t_X5_holdRow hq (cHoldRow_17 hq hn n 0 L (by omega) (fun _ h => absurd h (Nat.not_lt_zero _)) (fun _ _ _ => rfl))
theorem cRow9_57 {d q : Nat} {I : zIM} {L0 : zLM} {P : Int32 → zIM → zLM → Prop} (hq : q < 6) (hP : ∀ L', (∀ j, j < 60 → L' 67 (60 * q + j) = 0) → (∀ a b, (a ≠ 67 ∨ b < 60 * q ∨ 60 * q + 60 ≤ b) → L' a b = L0 a b) → P 1 I L') : ∀ f i (L : zLM), f + i = 60 → (∀ j, j < i → L 67 (60 * q + j) = 0) → (∀ a b, (a ≠ 67 ∨ b < 60 * q ∨ 60 * q + 60 ≤ b) → L a b = L0 a b) → K_X9_row_57 l G d P I L (nI q) (nI (60 * q + i))
  | 0, i, L, h, h1, h2 => by
    have e : ((60 : Int32) * nI q) + 60 = nI (60 * q + 60) := by rw [show (60 : Int32) = nI 60 from rfl, nI_mul, nI_add]
    refine t_X9_row_57 ⟨fun _ => hP L (fun j hj => h1 j (by omega)) h2, fun c => absurd ?_ c⟩
    rw [e]
    exact nI_le (by omega) (by omega)
  | f + 1, i, L, h, h1, h2 => by
    have e : ((60 : Int32) * nI q) + 60 = nI (60 * q + 60) := by rw [show (60 : Int32) = nI 60 from rfl, nI_mul, nI_add]
    refine t_X9_row_57 ⟨fun c => absurd c ?_, fun _ => ⟨60 * q + i, rfl, by omega, ?_⟩⟩
    · rw [e]; exact nI_ge (by omega) (by omega)
    · rw [nI_1, show 60 * q + i + 1 = 60 * q + (i + 1) by omega]
      refine cRow9_57 hq hP f (i + 1) _ (by omega) (fun j hj => ?_) (fun a b ha => (xL_ne (by omega)).trans (h2 a b ha))
      by_cases z : j = i
      · subst z; exact xL_eq
      · exact (xL_ne (by omega)).trans (h1 j (by omega))
theorem s_row (x1 x2 x3 : Int32) : zStep l G mX8_row mX9_row [.int x1, .int x2, .int x3] := by
  rintro I L ⟨v, o, nb, hv, hG, hF, hM, hLw, hNm, hTp, hDd, hIm, hCh, hBd, hTr, hSh⟩
  have hR : Rel I L := ⟨v, o, nb, hv, hG, hF, hM, hLw, hNm, hTp, hDd, hIm, hCh, hBd, hTr, hSh⟩
  have i60 : (60 : Int32).toInt = 60 := by decide
  by_cases h1 : iN x1 0 5
  · obtain ⟨q, q0, q5, rfl⟩ := h1
    by_cases h2 : iN x2 0 4
    · obtain ⟨s, s0, s4, rfl⟩ := h2
      by_cases h60 : x3 ≤ 60
      · by_cases h0 : 0 ≤ x3
        · obtain ⟨n, hn, rfl⟩ : ∃ n, n ≤ 60 ∧ x3 = nI n := by
            rw [Int32.le_iff_toInt_le, i60] at h60
            rw [Int32.le_iff_toInt_le, Int32.toInt_zero] at h0
            obtain ⟨k, _, hk, e⟩ := (iN_iff (x := x3) (a := 0) (b := 60) (by decide)).mpr ⟨by omega, by omega⟩
            exact ⟨k, hk, e⟩
          refine ⟨fun y I' L' => 1 = y ∧ xI (xI (xI I (31 + 2 * q) 0 (nI s)) (31 + 2 * q) 1 (-1)) (31 + 2 * q) 2 (nI n) = I' ∧ (∀ j, j < n → L' (32 + 2 * q) j = 0) ∧ ∀ a b, a ≠ 32 + 2 * q → L' a b = L a b, ?_, ?_⟩
          · refine t_X8_row ⟨0, _, by decide, cWithin8 (nI q) 5 (by decide), ?_⟩
            rintro y _ _ ⟨hy, rfl, rfl⟩
            obtain rfl := zB_t hy ⟨q, q0, q5, rfl⟩
            refine ⟨fun c => absurd c (by decide), fun _ => ⟨0, _, by decide, cWithin8 (nI s) 4 (by decide), ?_⟩⟩
            rintro y _ _ ⟨hy, rfl, rfl⟩
            obtain rfl := zB_t hy ⟨s, s0, s4, rfl⟩
            refine ⟨fun c => absurd c (by decide), fun _ => ⟨fun _ => ⟨fun _ => ⟨q, rfl, by omega, 0, _, by decide, cHoldRow (by omega) hn (nI s), ?_⟩, fun c => absurd h0 c⟩, fun c => absurd h60 c⟩⟩
            rintro _ _ ⟨rfl, h3, h4⟩
            exact ⟨rfl, rfl, h3, h4⟩
          · rintro _ _ L1 ⟨rfl, rfl, z1, z2⟩
            refine t_X9_row ⟨1, _, by decide, cIsShelf9 (nI q) (Nat.le_refl 1), ?_⟩
            rintro y _ _ ⟨hy, rfl, rfl⟩
            obtain rfl := zB_t hy ⟨q, q0, q5, rfl⟩
            refine ⟨fun c => absurd c (by decide), fun _ => ⟨0, _, by decide, cWithin9 (nI s) 0 4 (by decide) (by decide), ?_⟩⟩
            rintro y _ _ ⟨hy, rfl, rfl⟩
            obtain rfl := zB_t hy ⟨s, s0, s4, rfl⟩
            refine ⟨fun c => absurd c (by decide), fun _ => ⟨fun _ => ⟨fun _ => ⟨q, rfl, by omega, ?_⟩, fun c => absurd h0 c⟩, fun c => absurd h60 c⟩⟩
            rw [show (60 : Int32) * nI q = nI (60 * q + 0) by rw [show (60 : Int32) = nI 60 from rfl, nI_mul]; rfl, show (50 : Int32) + nI s = nI (50 + s) by rw [show (50 : Int32) = nI 50 from rfl, nI_add]]
            refine cRow9_57 (L0 := L1) (by omega) (fun L' w1 w2 => ⟨rfl, ?_⟩) 60 0 L1 rfl (fun _ h => absurd h (Nat.not_lt_zero _)) (fun _ _ _ => rfl)
            refine rel_sh (a := nI s) (b := -1) (c := nI n) (e := nI (50 + s)) (f := nI n) (q := q) (L := L) (by omega) hv hG hF hM hLw hNm hTp hDd hIm hCh hBd hTr hSh (Or.inr (Or.inr ⟨s, n, by omega, hn, ?_, ?_, ?_, ?_, fun i hi => ?_⟩)) (fun d hd hne => ⟨fun z hz => ?_, fun z hz => ?_⟩)
            · unfold xSh; rw [xI_ne (by omega), xI_ne (by omega), xI_ne (by omega), xI_ne (by omega), xI_eq]
            · unfold xSh; rw [xI_ne (by omega), xI_ne (by omega), xI_eq]
            · unfold xSh; rw [xI_ne (by omega), xI_eq]
            · unfold xSh; rw [xI_eq]
            · rw [w2 _ _ (by omega), z1 i hi, w1 i (by omega)]
            · rw [w2 _ _ (by omega), z2 _ _ (by omega)]
            · rw [w2 _ _ (by omega), z2 _ _ (by omega)]
        · refine ⟨fun y I' L' => -14 = y ∧ I = I' ∧ L = L', ?_, ?_⟩
          · refine t_X8_row ⟨0, _, by decide, cWithin8 (nI q) 5 (by decide), ?_⟩
            rintro y _ _ ⟨hy, rfl, rfl⟩
            obtain rfl := zB_t hy ⟨q, q0, q5, rfl⟩
            refine ⟨fun c => absurd c (by decide), fun _ => ⟨0, _, by decide, cWithin8 (nI s) 4 (by decide), ?_⟩⟩
            rintro y _ _ ⟨hy, rfl, rfl⟩
            obtain rfl := zB_t hy ⟨s, s0, s4, rfl⟩
            exact ⟨fun c => absurd c (by decide), fun _ => ⟨fun _ => ⟨fun c => absurd c h0, fun _ => ⟨rfl, rfl, rfl⟩⟩, fun c => absurd h60 c⟩⟩
          · rintro _ _ _ ⟨rfl, rfl, rfl⟩
            refine t_X9_row ⟨1, _, by decide, cIsShelf9 (nI q) (Nat.le_refl 1), ?_⟩
            rintro y _ _ ⟨hy, rfl, rfl⟩
            obtain rfl := zB_t hy ⟨q, q0, q5, rfl⟩
            refine ⟨fun c => absurd c (by decide), fun _ => ⟨0, _, by decide, cWithin9 (nI s) 0 4 (by decide) (by decide), ?_⟩⟩
            rintro y _ _ ⟨hy, rfl, rfl⟩
            obtain rfl := zB_t hy ⟨s, s0, s4, rfl⟩
            exact ⟨fun c => absurd c (by decide), fun _ => ⟨fun _ => ⟨fun c => absurd c h0, fun _ => ⟨rfl, hR⟩⟩, fun c => absurd h60 c⟩⟩
      · refine ⟨fun y I' L' => -1 = y ∧ I = I' ∧ L = L', ?_, ?_⟩
        · refine t_X8_row ⟨0, _, by decide, cWithin8 (nI q) 5 (by decide), ?_⟩
          rintro y _ _ ⟨hy, rfl, rfl⟩
          obtain rfl := zB_t hy ⟨q, q0, q5, rfl⟩
          refine ⟨fun c => absurd c (by decide), fun _ => ⟨0, _, by decide, cWithin8 (nI s) 4 (by decide), ?_⟩⟩
          rintro y _ _ ⟨hy, rfl, rfl⟩
          obtain rfl := zB_t hy ⟨s, s0, s4, rfl⟩
          exact ⟨fun c => absurd c (by decide), fun _ => ⟨fun c => absurd c h60, fun _ => ⟨rfl, rfl, rfl⟩⟩⟩
        · rintro _ _ _ ⟨rfl, rfl, rfl⟩
          refine t_X9_row ⟨1, _, by decide, cIsShelf9 (nI q) (Nat.le_refl 1), ?_⟩
          rintro y _ _ ⟨hy, rfl, rfl⟩
          obtain rfl := zB_t hy ⟨q, q0, q5, rfl⟩
          refine ⟨fun c => absurd c (by decide), fun _ => ⟨0, _, by decide, cWithin9 (nI s) 0 4 (by decide) (by decide), ?_⟩⟩
          rintro y _ _ ⟨hy, rfl, rfl⟩
          obtain rfl := zB_t hy ⟨s, s0, s4, rfl⟩
          exact ⟨fun c => absurd c (by decide), fun _ => ⟨fun c => absurd c h60, fun _ => ⟨rfl, hR⟩⟩⟩
    · refine ⟨fun y I' L' => -1 = y ∧ I = I' ∧ L = L', ?_, ?_⟩
      · refine t_X8_row ⟨0, _, by decide, cWithin8 (nI q) 5 (by decide), ?_⟩
        rintro y _ _ ⟨hy, rfl, rfl⟩
        obtain rfl := zB_t hy ⟨q, q0, q5, rfl⟩
        refine ⟨fun c => absurd c (by decide), fun _ => ⟨0, _, by decide, cWithin8 x2 4 (by decide), ?_⟩⟩
        rintro y _ _ ⟨hy, rfl, rfl⟩
        obtain rfl := zB_f hy h2
        exact ⟨fun _ => ⟨rfl, rfl, rfl⟩, fun c => absurd rfl c⟩
      · rintro _ _ _ ⟨rfl, rfl, rfl⟩
        refine t_X9_row ⟨1, _, by decide, cIsShelf9 (nI q) (Nat.le_refl 1), ?_⟩
        rintro y _ _ ⟨hy, rfl, rfl⟩
        obtain rfl := zB_t hy ⟨q, q0, q5, rfl⟩
        refine ⟨fun c => absurd c (by decide), fun _ => ⟨0, _, by decide, cWithin9 x2 0 4 (by decide) (by decide), ?_⟩⟩
        rintro y _ _ ⟨hy, rfl, rfl⟩
        obtain rfl := zB_f hy h2
        exact ⟨fun _ => ⟨rfl, hR⟩, fun c => absurd rfl c⟩
  · refine ⟨fun y I' L' => -1 = y ∧ I = I' ∧ L = L', ?_, ?_⟩
    · refine t_X8_row ⟨0, _, by decide, cWithin8 x1 5 (by decide), ?_⟩
      rintro y _ _ ⟨hy, rfl, rfl⟩
      obtain rfl := zB_f hy h1
      exact ⟨fun _ => ⟨rfl, rfl, rfl⟩, fun c => absurd rfl c⟩
    · rintro _ _ _ ⟨rfl, rfl, rfl⟩
      refine t_X9_row ⟨1, _, by decide, cIsShelf9 x1 (Nat.le_refl 1), ?_⟩
      rintro y _ _ ⟨hy, rfl, rfl⟩
      obtain rfl := zB_f hy h1
      exact ⟨fun _ => ⟨rfl, hR⟩, fun c => absurd rfl c⟩
/-! taken -/
theorem cIsUnder_4 {d t : Nat} {I : zIM} {L : zLM} (ht : t < 8) : ∀ f k i, f + i = 8 → k < 8 → K_X6_isUnder_4 l G d (zB (sUn f k t = true) I L) I L (nI t) (nI k) (nI i)
  | 0, k, i, h, hk => by
    have e : nI k = nI t ↔ k = t := nI_eq_iff (by omega) (by omega)
    refine t_X6_isUnder_4 ⟨fun _ => ⟨fun c => zB.n ?_, fun c => zB.y ?_⟩, fun c => absurd (nI_le (a := 8) (by omega) (by omega)) c⟩
    · simpa [sUn] using fun z => c (e.mpr z)
    · simpa [sUn] using e.mp c
  | f + 1, k, i, h, hk => by
    have e : nI k = nI t ↔ k = t := nI_eq_iff (by omega) (by omega)
    refine t_X6_isUnder_4 ⟨fun c => absurd c (nI_ge (b := 8) (by omega) (by omega)), fun _ => ⟨fun c => absurd c (nI_pos (by omega)), fun _ => ⟨fun c => ⟨fun n => absurd c n, fun _ => zB.y (by rw [sUn, if_pos (e.mp c)])⟩, fun c => ⟨k, rfl, hk, ?_⟩⟩⟩⟩
    have hkt : ¬ k = t := fun z => c (e.mpr z)
    rw [nI_1]
    by_cases hk0 : k = 0
    · subst hk0
      have z0 : zABO 0 = -1 := rfl
      have hm : ¬ (-1 : Int32) = nI t := fun z => (nI_nm (by omega)).1 z.symm
      have ef : ¬ sUn (f + 1) 0 t = true := by rw [sUn, if_neg hkt, if_pos rfl]; decide
      rw [z0]
      exact t_X6_isUnder_4 ⟨fun _ => ⟨fun _ => zB.n ef, fun z => absurd z hm⟩, fun _ => ⟨fun _ => ⟨fun _ => zB.n ef, fun z => absurd z hm⟩, fun z => absurd (by decide) z⟩⟩
    · rw [zABO_up k hk hk0, show sUn (f + 1) k t = sUn f (upK k) t by rw [sUn, if_neg hkt, if_neg hk0]]
      exact cIsUnder_4 ht f (upK k) (i + 1) (by omega) upK_lt
theorem cIsUnder {d k t : Nat} {I : zIM} {L : zLM} (hk : k < 8) (ht : t < 8) : zCi l G d mX6_isUnder [.int (nI k), .int (nI t)] I L (zB (sUn 8 k t = true) I L) :=
  t_X6_isUnder (cIsUnder_4 ht 8 k 0 rfl hk)
theorem cAbove9 {d k : Nat} {I : zIM} {L : zLM} (hk : k < 8) : zCi l G d mX9_above [.int (nI k)] I L (zE (nI (upK k)) I L) := by
  have e : ∀ j : Nat, j < 10 → (nI k = nI j ↔ k = j) := fun j hj => nI_eq_iff (by omega) (by omega)
  refine t_X9_above ⟨fun c3 => ⟨fun c4 => ⟨fun c5 => ⟨fun c7 => zE.of ?_, fun c => ?_⟩, fun c => ?_⟩, fun c => ?_⟩, fun c => ?_⟩
  · have m3 : ¬ k = 3 := fun z => c3 ((e 3 (by omega)).mpr z)
    have m4 : ¬ k = 4 := fun z => c4 ((e 4 (by omega)).mpr z)
    have m5 : ¬ k = 5 := fun z => c5 ((e 5 (by omega)).mpr z)
    have m7 : ¬ k = 7 := fun z => c7 ((e 7 (by omega)).mpr z)
    rw [upK, if_neg m3, if_neg m4, if_neg m5, if_neg m7]
    rfl
  · obtain rfl := (e 7 (by omega)).mp c; exact zE.of rfl
  · obtain rfl := (e 5 (by omega)).mp c; exact zE.of rfl
  · obtain rfl := (e 4 (by omega)).mp c; exact zE.of rfl
  · obtain rfl := (e 3 (by omega)).mp c; exact zE.of rfl
theorem cTaken9_58 {q b k0 t : Nat} {I : zIM} {L : zLM} {P : Int32 → zIM → zLM → Prop} {r : Int32} (hq : q < 6) (ht : t < 8) (hb : b < 50) (h65 : I 65 q = nI b) (h63 : I 63 b = nI k0) (hP : P r I L) : ∀ f k, k < 8 → rnkK k ≤ f → (if sUn f k t = true then nI k0 else -12) = r → K_X9_taken_58 l G 900 P I L (nI q) (nI t) (nI k) := by
  have hkind : ∀ (d : Nat), zCi l G d mX9_kindOf [.ref 44, .int (I 65 q)] I L (zE (nI k0) I L) := fun d => t_X9_kindOf ⟨b, h65, hb, zE.of h63⟩
  intro f
  induction f with
  | zero =>
    intro k hk hr he
    obtain rfl := rnkK_0 k hk (by omega)
    have e : nI 0 = nI t ↔ 0 = t := nI_eq_iff (by omega) (by omega)
    refine t_X9_taken_58 ⟨fun c => ⟨fun n => absurd c n, fun _ => ⟨q, rfl, hq, 0, _, by decide, hkind 0, ?_⟩⟩, fun c => ⟨fun _ => ⟨fun _ => ?_, fun z => absurd z c⟩, fun z => absurd (by decide) z⟩⟩
    · rintro _ _ _ ⟨rfl, rfl, rfl⟩
      rw [if_pos (by simpa [sUn] using e.mp c)] at he
      rw [he]; exact hP
    · rw [if_neg (by simpa [sUn] using fun z => c (e.mpr z))] at he
      rw [he]; exact hP
  | succ f ih =>
    intro k hk hr he
    have e : nI k = nI t ↔ k = t := nI_eq_iff (by omega) (by omega)
    refine t_X9_taken_58 ⟨fun c => ⟨fun n => absurd c n, fun _ => ⟨q, rfl, hq, 0, _, by decide, hkind 0, ?_⟩⟩, fun c => ⟨fun c0 => ⟨fun _ => ?_, fun z => absurd z c⟩, fun c0 => ⟨0, _, by decide, cAbove9 hk, ?_⟩⟩⟩
    · rintro _ _ _ ⟨rfl, rfl, rfl⟩
      rw [if_pos (by rw [sUn, if_pos (e.mp c)])] at he
      rw [he]; exact hP
    · have hk0 : k = 0 := by rw [i_le0, nI_toInt (by omega)] at c0; omega
      subst hk0
      rw [if_neg (by rw [sUn, if_neg (fun z => c (e.mpr z)), if_pos rfl]; decide)] at he
      rw [he]; exact hP
    · have hk0 : k ≠ 0 := fun z => c0 (by rw [i_le0, nI_toInt (by omega)]; omega)
      rintro _ _ _ ⟨rfl, rfl, rfl⟩
      exact ih (upK k) upK_lt (by have := rnkK_up k hk hk0; omega) (by rw [← he, show sUn (f + 1) k t = sUn f (upK k) t by rw [sUn, if_neg (fun z => c (e.mpr z)), if_neg hk0]])
theorem rnkK_le : ∀ k, k < 8 → rnkK k ≤ 8 := by decide +kernel
theorem s_taken (x1 x2 : Int32) : zStep l G mX8_taken mX9_taken [.int x1, .int x2] := by
  rintro I L ⟨v, o, nb, hv, hG, hF, hM, hLw, hNm, hTp, hDd, hIm, hCh, hBd, hTr, hSh⟩
  have hR : Rel I L := ⟨v, o, nb, hv, hG, hF, hM, hLw, hNm, hTp, hDd, hIm, hCh, hBd, hTr, hSh⟩
  -- the same answer, nothing changed
  suffices h : ∃ r : Int32, (∀ P : Int32 → zIM → zLM → Prop, P r I L → zCi l G 900 mX8_taken [.ref 0, .int x1, .int x2] I L P) ∧ (∀ P : Int32 → zIM → zLM → Prop, P r I L → zCi l G 900 mX9_taken [.ref 44, .int x1, .int x2] I L P) by
    obtain ⟨r, h8, h9⟩ := h
    refine ⟨zE r I L, h8 _ (zE.of rfl), ?_⟩
    rintro _ _ _ ⟨rfl, rfl, rfl⟩
    exact h9 _ ⟨rfl, hR⟩
  by_cases h1 : iN x1 0 5
  · obtain ⟨q, q0, q5, rfl⟩ := h1
    by_cases h2 : iN x2 0 7
    · obtain ⟨t, t0, t7, rfl⟩ := h2
      -- up to the shelf's own cells
      have A8 : ∀ P : Int32 → zIM → zLM → Prop, ((¬ I (31 + 2 * q) 0 = -2 → ((I (31 + 2 * q) 0 = -1 → ∃ j : Nat, I (31 + 2 * q) 1 = nI j ∧ j < 50 ∧ ∃ (d9 : Nat) (P9 : Int32 → zIM → zLM → Prop), d9 + 1 ≤ 900 ∧ zCi l G d9 mX6_isUnder [.int (I 28 j), .int (nI t)] I L P9 ∧ ∀ (y9 : Int32) (I9 : zIM) (L9 : zLM), P9 y9 I9 L9 → ((y9 = 0 → P (-12) I9 L9) ∧ (¬ y9 = 0 → P (I 28 j) I9 L9))) ∧ (¬ I (31 + 2 * q) 0 = -1 → P (-12) I L))) ∧ (I (31 + 2 * q) 0 = -2 → P (-11) I L)) → zCi l G 900 mX8_taken [.ref 0, .int (nI q), .int (nI t)] I L P := by
        intro P h
        refine t_X8_taken ⟨0, _, by decide, cWithin8 (nI q) 5 (by decide), ?_⟩
        rintro y _ _ ⟨hy, rfl, rfl⟩
        obtain rfl := zB_t hy ⟨q, q0, q5, rfl⟩
        refine ⟨fun c => absurd c (by decide), fun _ => ⟨0, _, by decide, cWithin8 (nI t) 7 (by decide), ?_⟩⟩
        rintro y _ _ ⟨hy, rfl, rfl⟩
        obtain rfl := zB_t hy ⟨t, t0, t7, rfl⟩
        exact ⟨fun _ => ⟨q, rfl, by omega, h⟩, fun c => absurd c (by decide)⟩
      have A9 : ∀ P : Int32 → zIM → zLM → Prop, ((0 ≤ I 65 q → ((I 65 q < 50 → ∃ (d8 : Nat) (P8 : Int32 → zIM → zLM → Prop), d8 + 1 ≤ 900 ∧ zCi l G d8 mX9_kindOf [.ref 44, .int (I 65 q)] I L P8 ∧ ∀ (y8 : Int32) (I8 : zIM) (L8 : zLM), P8 y8 I8 L8 → K_X9_taken_58 l G 900 P I8 L8 (nI q) (nI t) y8) ∧ (¬ I 65 q < 50 → P (-12) I L))) ∧ (¬ 0 ≤ I 65 q → P (-11) I L)) → zCi l G 900 mX9_taken [.ref 44, .int (nI q), .int (nI t)] I L P := by
        intro P h
        refine t_X9_taken ⟨1, _, by decide, cIsShelf9 (nI q) (Nat.le_refl 1), ?_⟩
        rintro y _ _ ⟨hy, rfl, rfl⟩
        obtain rfl := zB_t hy ⟨q, q0, q5, rfl⟩
        refine ⟨fun c => absurd c (by decide), fun _ => ⟨0, _, by decide, cWithin9 (nI t) 0 7 (by decide) (by decide), ?_⟩⟩
        rintro y _ _ ⟨hy, rfl, rfl⟩
        obtain rfl := zB_t hy ⟨t, t0, t7, rfl⟩
        exact ⟨fun _ => ⟨q, rfl, by omega, h⟩, fun c => absurd c (by decide)⟩
      rcases hSh q (by omega) with ⟨a, b⟩ | ⟨c, c1, c2, c3, c4⟩ | ⟨s, n, s5, n6, a1, a2, a3, a4, a5⟩
      · refine ⟨-11, fun P hP => A8 P ⟨fun z => absurd a z, fun _ => hP⟩, fun P hP => A9 P ⟨fun z => absurd z ?_, fun _ => hP⟩⟩
        rw [b]; decide
      · obtain ⟨b1, b2, b3, b4⟩ := id hBd
        obtain ⟨k, k8, e1, e2⟩ := b4 c c1
        refine ⟨if sUn 8 k t = true then nI k else -12, fun P hP => A8 P ⟨fun _ => ⟨fun _ => ⟨c, c3, by omega, 0, zB (sUn 8 k t = true) I L, by decide, by rw [e1]; exact cIsUnder k8 (by omega), ?_⟩, fun z => absurd c2 z⟩, fun z => absurd (c2.symm.trans z) (by decide)⟩, fun P hP => A9 P ⟨fun _ => ⟨fun _ => ⟨0, zE (nI k) I L, by decide, t_X9_kindOf ⟨c, c4, by omega, zE.of e2⟩, ?_⟩, fun z => absurd ?_ z⟩, fun z => absurd ?_ z⟩⟩
        · rintro y _ _ ⟨hy, rfl, rfl⟩
          rcases hy with ⟨rfl, hu⟩ | ⟨rfl, hu⟩
          · rw [if_pos hu] at hP
            exact ⟨fun z => absurd z (by decide), fun _ => by rw [e1]; exact hP⟩
          · rw [if_neg hu] at hP
            exact ⟨fun _ => hP, fun z => absurd rfl z⟩
        · rintro _ _ _ ⟨rfl, rfl, rfl⟩
          exact cTaken9_58 (by omega) (by omega) (by omega) c4 e2 hP 8 k k8 (rnkK_le k k8) rfl
        · rw [c4]; exact nI_lt (b := 50) (by omega) (by decide)
        · rw [c4]; exact nI_pos' (by omega)
      · refine ⟨-12, fun P hP => A8 P ⟨fun _ => ⟨fun z => absurd (a1.symm.trans z) (nI_nm (by omega)).1, fun _ => hP⟩, fun z => absurd (a1.symm.trans z) (nI_nm (by omega)).2⟩, fun P hP => A9 P ⟨fun _ => ⟨fun z => absurd z ?_, fun _ => hP⟩, fun z => absurd ?_ z⟩⟩
        · rw [a3]; exact nI_nlt (b := 50) (by omega) (by omega)
        · rw [a3]; exact nI_pos' (by omega)
    · refine ⟨-1, fun P hP => ?_, fun P hP => ?_⟩
      · refine t_X8_taken ⟨0, _, by decide, cWithin8 (nI q) 5 (by decide), ?_⟩
        rintro y _ _ ⟨hy, rfl, rfl⟩
        obtain rfl := zB_t hy ⟨q, q0, q5, rfl⟩
        refine ⟨fun c => absurd c (by decide), fun _ => ⟨0, _, by decide, cWithin8 x2 7 (by decide), ?_⟩⟩
        rintro y _ _ ⟨hy, rfl, rfl⟩
        obtain rfl := zB_f hy h2
        exact ⟨fun c => absurd rfl c, fun _ => hP⟩
      · refine t_X9_taken ⟨1, _, by decide, cIsShelf9 (nI q) (Nat.le_refl 1), ?_⟩
        rintro y _ _ ⟨hy, rfl, rfl⟩
        obtain rfl := zB_t hy ⟨q, q0, q5, rfl⟩
        refine ⟨fun c => absurd c (by decide), fun _ => ⟨0, _, by decide, cWithin9 x2 0 7 (by decide) (by decide), ?_⟩⟩
        rintro y _ _ ⟨hy, rfl, rfl⟩
        obtain rfl := zB_f hy h2
        exact ⟨fun c => absurd rfl c, fun _ => hP⟩
  · refine ⟨-1, fun P hP => ?_, fun P hP => ?_⟩
    · refine t_X8_taken ⟨0, _, by decide, cWithin8 x1 5 (by decide), ?_⟩
      rintro y _ _ ⟨hy, rfl, rfl⟩
      obtain rfl := zB_f hy h1
      exact ⟨fun _ => hP, fun c => absurd rfl c⟩
    · refine t_X9_taken ⟨1, _, by decide, cIsShelf9 x1 (Nat.le_refl 1), ?_⟩
      rintro y _ _ ⟨hy, rfl, rfl⟩
      obtain rfl := zB_f hy h1
      exact ⟨fun _ => hP, fun c => absurd rfl c⟩
end PR
