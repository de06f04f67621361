/-! ===== public call: mend ===== -/
/-- how many CHANGES are kept behind a new one; behind which the old ones lie -/
def uN (dn : Nat) : Nat := if dn < 40 then dn else 39
def uO (dn : Nat) : Nat := if dn < 40 then 0 else 1
/-- the lists lo .. hi got one more, the first dropped, where forty were kept -/
def qSh (lo hi dn : Nat) (xs : Nat → Int32) (I J : zIM) : Prop := ∀ a, lo ≤ a → a ≤ hi → J a (uN dn) = xs a ∧ ∀ i, i < uN dn → J a i = I a (i + uO dn)
theorem xcI_at {I : zIM} {q b : Nat} (hb : b < 39) : xcI I q q 1 0 39 q b = I q (1 + b) := by
  unfold xcI
  rw [if_pos ⟨rfl, by omega, by omega⟩, Nat.sub_zero]
theorem xcI_ne {I : zIM} {q a b : Nat} (h : a ≠ q) : xcI I q q 1 0 39 a b = I a b := by
  unfold xcI
  exact if_neg fun z => h z.1
section PM
variable {l : Launch} {G : zG}
theorem cCame {d dn : Nat} {I : zIM} {L : zLM} (hdn : dn ≤ 40) (h : I 22 4 = nI dn) (hd : 2 ≤ d) (x1 x2 x3 x4 : Int32) : ∃ J, zCv l G d mX0_came [.ref 22, .int x1, .int x2, .int x3, .int x4] I L (zU J L) ∧ J 22 4 = nI (uN dn + 1) ∧ J 22 5 = nI (uN dn + 1) ∧ (∀ a b, (a < 22 ∨ 26 < a) → J a b = I a b) ∧
    qSh 23 26 dn (fun a => if a = 23 then x1 else if a = 24 then x2 else if a = 25 then x3 else x4) I J := by
  by_cases hd40 : dn < 40
  · have eu : uN dn = dn := if_pos hd40
    have eo : uO dn = 0 := if_pos hd40
    refine ⟨_, t_X0_came ⟨fun _ => ⟨dn, h, hd40, rfl, rfl⟩, fun c => absurd ?_ c⟩, ?_, ?_, ?_, ?_⟩
    · rw [h]; exact (show nI dn < nI 40 from nI_lt (by omega) (by omega))
    · rw [xI_ne (by omega), xI_eq, h, nI_1, eu]
    · rw [xI_eq, h, nI_1, eu]
    · intro a b hab
      rw [xI_ne (by omega), xI_ne (by omega), xI_ne (by omega), xI_ne (by omega), xI_ne (by omega), xI_ne (by omega)]
    · intro a h1 h2
      rw [eu, eo]
      rcases (by omega : a = 23 ∨ a = 24 ∨ a = 25 ∨ a = 26) with rfl | rfl | rfl | rfl
      · exact ⟨by rw [xI_ne (by omega), xI_ne (by omega), xI_ne (by omega), xI_ne (by omega), xI_ne (by omega), xI_eq]; rfl, fun i hi => by rw [xI_ne (by omega), xI_ne (by omega), xI_ne (by omega), xI_ne (by omega), xI_ne (by omega), xI_ne (by omega)]; rfl⟩
      · exact ⟨by rw [xI_ne (by omega), xI_ne (by omega), xI_ne (by omega), xI_ne (by omega), xI_eq]; rfl, fun i hi => by rw [xI_ne (by omega), xI_ne (by omega), xI_ne (by omega), xI_ne (by omega), xI_ne (by omega), xI_ne (by omega)]; rfl⟩
      · exact ⟨by rw [xI_ne (by omega), xI_ne (by omega), xI_ne (by omega), xI_eq]; rfl, fun i hi => by rw [xI_ne (by omega), xI_ne (by omega), xI_ne (by omega), xI_ne (by omega), xI_ne (by omega), xI_ne (by omega)]; rfl⟩
      · exact ⟨by rw [xI_ne (by omega), xI_ne (by omega), xI_eq]; rfl, fun i hi => by rw [xI_ne (by omega), xI_ne (by omega), xI_ne (by omega), xI_ne (by omega), xI_ne (by omega), xI_ne (by omega)]; rfl⟩
  · have eu : uN dn = 39 := if_neg hd40
    have eo : uO dn = 1 := if_neg hd40
    refine ⟨xI (xI (xI (xI (xI (xI (xI (xcI (xcI (xcI (xcI I 23 23 1 0 39) 24 24 1 0 39) 25 25 1 0 39) 26 26 1 0 39) 22 4 39) 23 39 x1) 24 39 x2) 25 39 x3) 26 39 x4) 22 4 ((39 : Int32) + (1 : Int32))) 22 5 ((39 : Int32) + (1 : Int32)), t_X0_came ⟨fun c => absurd c ?_, fun _ => ⟨1, zU _ L, hd, t_X0_dropFirst (q0 := 23) rfl (Nat.le_refl 1) ⟨rfl, rfl⟩, ?_⟩⟩, ?_⟩
    · rw [h]; exact (show ¬ nI dn < nI 40 from nI_nlt (by omega) (by omega))
    · rintro _ _ ⟨rfl, rfl⟩
      refine ⟨1, zU _ L, hd, t_X0_dropFirst (q0 := 24) rfl (Nat.le_refl 1) ⟨rfl, rfl⟩, ?_⟩
      rintro _ _ ⟨rfl, rfl⟩
      refine ⟨1, zU _ L, hd, t_X0_dropFirst (q0 := 25) rfl (Nat.le_refl 1) ⟨rfl, rfl⟩, ?_⟩
      rintro _ _ ⟨rfl, rfl⟩
      refine ⟨1, zU _ L, hd, t_X0_dropFirst (q0 := 26) rfl (Nat.le_refl 1) ⟨rfl, rfl⟩, ?_⟩
      rintro _ _ ⟨rfl, rfl⟩
      exact ⟨rfl, rfl⟩
    · refine ⟨?_, ?_, ?_, ?_⟩
      · rw [xI_ne (by omega), xI_eq, eu]; rfl
      · rw [xI_eq, eu]; rfl
      · intro a b hab
        rw [xI_ne (by omega), xI_ne (by omega), xI_ne (by omega), xI_ne (by omega), xI_ne (by omega), xI_ne (by omega), xI_ne (by omega), xcI_ne (by omega), xcI_ne (by omega), xcI_ne (by omega), xcI_ne (by omega)]
      · intro a h1 h2
        rw [eu, eo]
        rcases (by omega : a = 23 ∨ a = 24 ∨ a = 25 ∨ a = 26) with rfl | rfl | rfl | rfl
        · exact ⟨by rw [xI_ne (by omega), xI_ne (by omega), xI_ne (by omega), xI_ne (by omega), xI_ne (by omega), xI_eq]; rfl, fun i hi => by rw [xI_ne (by omega), xI_ne (by omega), xI_ne (by omega), xI_ne (by omega), xI_ne (by omega), xI_ne (by omega), xI_ne (by omega), xcI_ne (by omega), xcI_ne (by omega), xcI_ne (by omega), xcI_at hi, Nat.add_comm]⟩
        · exact ⟨by rw [xI_ne (by omega), xI_ne (by omega), xI_ne (by omega), xI_ne (by omega), xI_eq]; rfl, fun i hi => by rw [xI_ne (by omega), xI_ne (by omega), xI_ne (by omega), xI_ne (by omega), xI_ne (by omega), xI_ne (by omega), xI_ne (by omega), xcI_ne (by omega), xcI_ne (by omega), xcI_at hi, xcI_ne (by omega), Nat.add_comm]⟩
        · exact ⟨by rw [xI_ne (by omega), xI_ne (by omega), xI_ne (by omega), xI_eq]; rfl, fun i hi => by rw [xI_ne (by omega), xI_ne (by omega), xI_ne (by omega), xI_ne (by omega), xI_ne (by omega), xI_ne (by omega), xI_ne (by omega), xcI_ne (by omega), xcI_at hi, xcI_ne (by omega), xcI_ne (by omega), Nat.add_comm]⟩
        · exact ⟨by rw [xI_ne (by omega), xI_ne (by omega), xI_eq]; rfl, fun i hi => by rw [xI_ne (by omega), xI_ne (by omega), xI_ne (by omega), xI_ne (by omega), xI_ne (by omega), xI_ne (by omega), xI_ne (by omega), xcI_at hi, xcI_ne (by omega), xcI_ne (by omega), xcI_ne (by omega), Nat.add_comm]⟩
/-- what becomes leaves -/
def qBc (I J : zIM) (dn j : Nat) (x y : Int32) : Prop := J 44 5 = nI (uN dn + 1) ∧ J 44 4 = nI (uN dn + 1) ∧ J 45 j = y ∧ (∀ a b, ¬ (a = 45 ∧ b = j) → (a = 44 → b ≠ 4 ∧ b ≠ 5) → (a < 46 ∨ 48 < a) → J a b = I a b) ∧
    qSh 46 48 dn (fun a => if a = 46 then nI j else if a = 47 then x else y) I J
theorem cBecomes_26 {d j : Nat} {I : zIM} {L : zLM} {P : Int32 → zIM → zLM → Prop} {x y : Int32} (hj : j < 12) (h : I 44 5 = nI 40) (hP : ∀ J, qBc I J 40 j x y → P x J L) : ∀ f i (J : zIM), f + i = 39 → (∀ a b, (a < 46 ∨ 48 < a) → J a b = I a b) → (∀ a, 46 ≤ a → a ≤ 48 → (∀ b, b < i → J a b = I a (b + 1)) ∧ (∀ b, i ≤ b → J a b = I a b)) → K_X9_becomes_26 l G d P J L (nI j) y x (nI (i + 1))
  | 0, i, J, hi, h1, h2 => by
    obtain rfl : i = 39 := by omega
    have e5 : J 44 5 - (1 : Int32) = nI 39 := by rw [h1 44 5 (by omega), h, nI_pred]
    refine t_X9_becomes_26 ⟨fun _ => ⟨39, e5, by omega, j, rfl, hj, hP _ ⟨?_, ?_, ?_, ?_, ?_⟩⟩, fun c => absurd ?_ c⟩
    · rw [xI_ne (by omega), xI_ne (by omega), xI_eq, e5]; rfl
    · rw [xI_ne (by omega), xI_eq, e5]; rfl
    · exact xI_eq
    · intro a b q1 q2 q3
      rw [xI_ne (by omega), xI_ne (by omega), xI_ne (by omega), xI_ne (by omega), xI_ne (by omega), xI_ne (by omega), xI_ne (by omega)]
      exact h1 a b q3
    · intro a q1 q2
      have g := h2 a q1 q2
      show _ ∧ ∀ i, i < 39 → _ = I a (i + 1)
      show xI (xI (xI (xI (xI (xI (xI J 44 5 _) 46 39 _) 47 39 _) 48 39 _) 44 5 _) 44 4 _) 45 j _ a 39 = _ ∧ _
      rcases (by omega : a = 46 ∨ a = 47 ∨ a = 48) with rfl | rfl | rfl
      · exact ⟨by rw [xI_ne (by omega), xI_ne (by omega), xI_ne (by omega), xI_ne (by omega), xI_ne (by omega), xI_eq]; rfl, fun i hi => by rw [xI_ne (by omega), xI_ne (by omega), xI_ne (by omega), xI_ne (by omega), xI_ne (by omega), xI_ne (by omega), xI_ne (by omega)]; exact g.1 i hi⟩
      · exact ⟨by rw [xI_ne (by omega), xI_ne (by omega), xI_ne (by omega), xI_ne (by omega), xI_eq]; rfl, fun i hi => by rw [xI_ne (by omega), xI_ne (by omega), xI_ne (by omega), xI_ne (by omega), xI_ne (by omega), xI_ne (by omega), xI_ne (by omega)]; exact g.1 i hi⟩
      · exact ⟨by rw [xI_ne (by omega), xI_ne (by omega), xI_ne (by omega), xI_eq]; rfl, fun i hi => by rw [xI_ne (by omega), xI_ne (by omega), xI_ne (by omega), xI_ne (by omega), xI_ne (by omega), xI_ne (by omega), xI_ne (by omega)]; exact g.1 i hi⟩
    · exact nI_le (a := 40) (by omega) (by omega)
  | f + 1, i, J, hi, h1, h2 => by
    refine t_X9_becomes_26 ⟨fun c => absurd c ?_, fun _ => ⟨i + 1, rfl, by omega, i, nI_pred i, by omega, ?_⟩⟩
    · exact (show ¬ nI 40 ≤ nI (i + 1) from nI_ge (by omega) (by omega))
    · rw [nI_1]
      refine cBecomes_26 hj h hP f (i + 1) _ (by omega) (fun a b q => ?_) (fun a q1 q2 => ?_)
      · rw [xI_ne (by omega), xI_ne (by omega), xI_ne (by omega)]; exact h1 a b q
      · have g := h2 a q1 q2
        rcases (by omega : a = 46 ∨ a = 47 ∨ a = 48) with rfl | rfl | rfl
        · refine ⟨fun b hb => ?_, fun b hb => by rw [xI_ne (by omega), xI_ne (by omega), xI_ne (by omega)]; exact g.2 b (by omega)⟩
          rw [xI_ne (by omega), xI_ne (by omega)]
          by_cases hbi : b = i
          · subst hbi; rw [xI_eq]; exact g.2 _ (by omega)
          · rw [xI_ne (by omega)]; exact g.1 b (by omega)
        · refine ⟨fun b hb => ?_, fun b hb => by rw [xI_ne (by omega), xI_ne (by omega), xI_ne (by omega)]; exact g.2 b (by omega)⟩
          rw [xI_ne (by omega)]
          by_cases hbi : b = i
          · subst hbi; rw [xI_eq]; exact g.2 _ (by omega)
          · rw [xI_ne (by omega), xI_ne (by omega)]; exact g.1 b (by omega)
        · refine ⟨fun b hb => ?_, fun b hb => by rw [xI_ne (by omega), xI_ne (by omega), xI_ne (by omega)]; exact g.2 b (by omega)⟩
          by_cases hbi : b = i
          · subst hbi; rw [xI_eq]; exact g.2 _ (by omega)
          · rw [xI_ne (by omega), xI_ne (by omega), xI_ne (by omega)]; exact g.1 b (by omega)
theorem cBecomes {d dn j : Nat} {I : zIM} {L : zLM} {P : Int32 → zIM → zLM → Prop} {x y : Int32} (hj : j < 12) (hdn : dn ≤ 40) (h : I 44 5 = nI dn) (hx : I 45 j = x) (h1 : x = y → P x I L) (hP : x ≠ y → ∀ J, qBc I J dn j x y → P x J L) : zCi l G d mX9_becomes [.ref 44, .int (nI j), .int y] I L P := by
  refine t_X9_becomes ⟨j, rfl, hj, fun c => ⟨fun c2 => ⟨dn, h, ?_, ?_⟩, fun c2 => ?_⟩, fun c => ?_⟩
  · have : ¬ dn = 40 := fun z => c2 (by rw [h, z]; rfl)
    omega
  · have hd40 : dn < 40 := by
      have : ¬ dn = 40 := fun z => c2 (by rw [h, z]; rfl)
      omega
    have eu : uN dn = dn := if_pos hd40
    have eo : uO dn = 0 := if_pos hd40
    rw [hx] at c ⊢
    refine hP c _ ⟨?_, ?_, ?_, ?_, ?_⟩
    · rw [xI_ne (by omega), xI_ne (by omega), xI_eq, h, nI_1, eu]
    · rw [xI_ne (by omega), xI_eq, h, nI_1, eu]
    · exact xI_eq
    · intro a b q1 q2 q3
      rw [xI_ne (by omega), xI_ne (by omega), xI_ne (by omega), xI_ne (by omega), xI_ne (by omega), xI_ne (by omega)]
    · intro a q1 q2
      rw [eu, eo]
      rcases (by omega : a = 46 ∨ a = 47 ∨ a = 48) with rfl | rfl | rfl
      · exact ⟨by rw [xI_ne (by omega), xI_ne (by omega), xI_ne (by omega), xI_ne (by omega), xI_ne (by omega), xI_eq]; rfl, fun i hi => by rw [xI_ne (by omega), xI_ne (by omega), xI_ne (by omega), xI_ne (by omega), xI_ne (by omega), xI_ne (by omega)]; rfl⟩
      · exact ⟨by rw [xI_ne (by omega), xI_ne (by omega), xI_ne (by omega), xI_ne (by omega), xI_eq]; rfl, fun i hi => by rw [xI_ne (by omega), xI_ne (by omega), xI_ne (by omega), xI_ne (by omega), xI_ne (by omega), xI_ne (by omega)]; rfl⟩
      · exact ⟨by rw [xI_ne (by omega), xI_ne (by omega), xI_ne (by omega), xI_eq]; rfl, fun i hi => by rw [xI_ne (by omega), xI_ne (by omega), xI_ne (by omega), xI_ne (by omega), xI_ne (by omega), xI_ne (by omega)]; rfl⟩
  · obtain rfl : dn = 40 := by
      rw [h] at c2
      exact nI_inj (b := 40) (by omega) (by omega) c2
    rw [hx] at c ⊢
    exact cBecomes_26 hj h (hP c) 39 0 I (by omega) (fun _ _ _ => rfl) (fun _ _ _ => ⟨fun b hb => absurd hb (Nat.not_lt_zero b), fun _ _ => rfl⟩)
  · rw [hx] at c ⊢
    exact h1 c
end PM
section PN
variable {l : Launch} {G : zG}
theorem cToldW {d w p : Nat} {I : zIM} {L : zLM} {v : Vw} (hG : cG v I) (hw : w ≤ 2) (hp : p < 4) : zCi l G d mX2_told [.ref 1, .int (nI p), .int (nI w)] I L (zE (nI (vG v w p)) I L) := by
  have e : ∀ j : Nat, j < 10 → (nI w = nI j ↔ w = j) := fun j hj => nI_eq_iff (by omega) (by omega)
  refine t_X2_told ⟨fun c0 => ⟨fun c1 => ⟨p, rfl, hp, zE.of ?_⟩, fun c => ⟨p, rfl, hp, zE.of ?_⟩⟩, fun c => ⟨p, rfl, hp, zE.of ?_⟩⟩
  · have h0 : ¬ w = 0 := fun z => c0 ((e 0 (by omega)).mpr z)
    have h1 : ¬ w = 1 := fun z => c1 ((e 1 (by omega)).mpr z)
    unfold vG
    rw [if_neg h0, if_neg h1]
    exact hG.2.2.2.2.1 p hp
  · obtain rfl := (e 1 (by omega)).mp c
    exact hG.2.2.2.1 p hp
  · obtain rfl := (e 0 (by omega)).mp c
    exact hG.2.2.1 p hp
theorem cGreatest {d w : Nat} {I : zIM} {L : zLM} (hw : w ≤ 2) : zCi l G d mX8_greatest [.int (nI w)] I L (zE (nI (gMax w)) I L) := by
  have e : ∀ j : Nat, j < 10 → (nI w = nI j ↔ w = j) := fun j hj => nI_eq_iff (by omega) (by omega)
  refine t_X8_greatest ⟨fun c0 => ⟨fun c1 => zE.of ?_, fun c => zE.of ?_⟩, fun c => zE.of ?_⟩
  · have h0 : ¬ w = 0 := fun z => c0 ((e 0 (by omega)).mpr z)
    have h1 : ¬ w = 1 := fun z => c1 ((e 1 (by omega)).mpr z)
    unfold gMax
    rw [if_neg h0, if_neg h1]; rfl
  · obtain rfl := (e 1 (by omega)).mp c
    rfl
  · obtain rfl := (e 0 (by omega)).mp c
    rfl
theorem vG_le {v : Vw} (hv : vOk v) {w p : Nat} (hw : w ≤ 2) (hp : p < 4) : vG v w p ≤ gMax w := by
  obtain ⟨a, b, c⟩ := hv.2.2.1 p hp
  rcases (by omega : w = 0 ∨ w = 1 ∨ w = 2) with rfl | rfl | rfl
  · exact a
  · exact b
  · exact c
theorem gMax_lt (w : Nat) : gMax w < 13 := by
  unfold gMax
  split
  · decide
  · split <;> decide
theorem uN_le (dn : Nat) : uN dn ≤ 39 := by unfold uN; split <;> omega
/-- the reference, behind its checks -/
theorem cMend9 {d w p k : Nat} {I : zIM} {L : zLM} {P : Int32 → zIM → zLM → Prop} {v : Vw} (hv : vOk v) (hM : mG v I) (hw : w ≤ 2) (hp : p < vn v) (hk : k ≤ gMax w) (hd : 10 ≤ d) (hB : zCi l G (d - 1) mX9_becomes [.ref 44, .int (nI (4 * w + p)), .int (nI k)] I L P) : zCi l G d mX9_mend [.ref 44, .int (nI p), .int (nI w), .int (nI k)] I L P := by
  have hn := hv.1
  have e : ∀ j : Nat, j < 10 → (nI w = nI j ↔ w = j) := fun j hj => nI_eq_iff (by omega) (by omega)
  have one : ¬ (1 : Int32) = 0 := by decide
  refine t_X9_mend ⟨1, _, by omega, cIsPlayer9 (nI p) hn hM.1 (Nat.le_refl 1), ?_⟩
  rintro y _ _ ⟨hy, rfl, rfl⟩
  obtain rfl := zB_t hy ⟨p, hp, rfl⟩
  refine ⟨fun _ => ⟨fun c => ?_, fun c => ?_, fun c => ?_, fun c0 c1 c2 => absurd rfl (fun z : (0 : Nat) = 0 => ?_)⟩, fun c => absurd c one⟩
  · obtain rfl := (e 0 (by omega)).mp c
    refine ⟨0, _, by omega, cWithin9 (nI k) 0 12 (by omega) (by omega), ?_⟩
    rintro y _ _ ⟨hy, rfl, rfl⟩
    obtain rfl := zB_t hy ⟨k, Nat.zero_le _, hk, rfl⟩
    refine ⟨fun c => absurd c one, fun _ => ⟨d - 1, P, by omega, ?_, fun _ _ _ h => h⟩⟩
    rw [show 4 * 0 + p = p by omega] at hB
    exact hB
  · obtain rfl := (e 1 (by omega)).mp c
    refine ⟨0, _, by omega, cWithin9 (nI k) 0 5 (by omega) (by omega), ?_⟩
    rintro y _ _ ⟨hy, rfl, rfl⟩
    obtain rfl := zB_t hy ⟨k, Nat.zero_le _, hk, rfl⟩
    refine ⟨fun c => absurd c one, fun _ => ⟨d - 1, P, by omega, ?_, fun _ _ _ h => h⟩⟩
    rw [show ((4 : Int32) + nI p) = nI (4 * 1 + p) from nI_add 4 p]
    exact hB
  · obtain rfl := (e 2 (by omega)).mp c
    refine ⟨0, _, by omega, cWithin9 (nI k) 0 3 (by omega) (by omega), ?_⟩
    rintro y _ _ ⟨hy, rfl, rfl⟩
    obtain rfl := zB_t hy ⟨k, Nat.zero_le _, hk, rfl⟩
    refine ⟨fun c => absurd c one, fun _ => ⟨d - 1, P, by omega, ?_, fun _ _ _ h => h⟩⟩
    rw [show ((8 : Int32) + nI p) = nI (4 * 2 + p) from nI_add 8 p]
    exact hB
  · rcases (by omega : w = 0 ∨ w = 1 ∨ w = 2) with rfl | rfl | rfl
    · exact c0 rfl
    · exact c1 rfl
    · exact c2 rfl
/-- the reference, where a check fails -/
theorem cMend9_no {d : Nat} {I : zIM} {L : zLM} {P : Int32 → zIM → zLM → Prop} {n : Nat} (hn : n ≤ 4) (h6 : I 44 6 = nI n) (x1 x2 x3 : Int32) (hd : 10 ≤ d) (hP : P (-1) I L) (hno : ¬ (iP x1 n ∧ ∃ w, w ≤ 2 ∧ x2 = nI w ∧ iN x3 0 (gMax w))) : zCi l G d mX9_mend [.ref 44, .int x1, .int x2, .int x3] I L P := by
  have one : ¬ (1 : Int32) = 0 := by decide
  refine t_X9_mend ⟨1, _, by omega, cIsPlayer9 x1 hn h6 (Nat.le_refl 1), ?_⟩
  rintro y _ _ ⟨hy, rfl, rfl⟩
  by_cases hp : iP x1 n
  · obtain rfl := zB_t hy hp
    refine ⟨fun _ => ⟨fun c => ?_, fun c => ?_, fun c => ?_, fun c0 c1 c2 => hP⟩, fun c => absurd c one⟩
    · refine ⟨0, _, by omega, cWithin9 x3 0 12 (by omega) (by omega), ?_⟩
      rintro y _ _ ⟨hy, rfl, rfl⟩
      obtain rfl := zB_f hy (fun z => hno ⟨hp, 0, by omega, c, z⟩)
      exact ⟨fun _ => hP, fun c => absurd rfl c⟩
    · refine ⟨0, _, by omega, cWithin9 x3 0 5 (by omega) (by omega), ?_⟩
      rintro y _ _ ⟨hy, rfl, rfl⟩
      obtain rfl := zB_f hy (fun z => hno ⟨hp, 1, by omega, c, z⟩)
      exact ⟨fun _ => hP, fun c => absurd rfl c⟩
    · refine ⟨0, _, by omega, cWithin9 x3 0 3 (by omega) (by omega), ?_⟩
      rintro y _ _ ⟨hy, rfl, rfl⟩
      obtain rfl := zB_f hy (fun z => hno ⟨hp, 2, by omega, c, z⟩)
      exact ⟨fun _ => hP, fun c => absurd rfl c⟩
  · obtain rfl := zB_f hy hp
    exact ⟨fun c => absurd rfl c, fun _ => hP⟩
/-- the class, where a check fails -/
theorem cMend8_no {d : Nat} {I : zIM} {L : zLM} {v : Vw} (hv : vOk v) (hG : cG v I) (x1 x2 x3 : Int32) (hd : 10 ≤ d) (hno : ¬ (iP x1 (vn v) ∧ ∃ w, w ≤ 2 ∧ x2 = nI w ∧ iN x3 0 (gMax w))) : zCi l G d mX8_mend [.ref 0, .int x1, .int x2, .int x3] I L (zE (-1) I L) := by
  have one : ¬ (1 : Int32) = 0 := by decide
  refine t_X8_mend ⟨0, _, by omega, cHasB x1 hv hG, ?_⟩
  rintro y _ _ ⟨hy, rfl, rfl⟩
  by_cases hp : iP x1 (vn v)
  · obtain rfl := zB_t hy hp
    refine ⟨fun c => absurd c one, fun _ => ⟨0, _, by omega, cWithin8 x2 2 (by omega), ?_⟩⟩
    rintro y _ _ ⟨hy, rfl, rfl⟩
    by_cases hw : iN x2 0 2
    · obtain rfl := zB_t hy hw
      obtain ⟨w, -, hw2, rfl⟩ := hw
      have := gMax_lt w
      refine ⟨fun c => absurd c one, fun _ => ⟨0, _, by omega, cGreatest hw2, ?_⟩⟩
      rintro _ _ _ ⟨rfl, rfl, rfl⟩
      refine ⟨0, _, by omega, cWithin8 x3 (gMax w) (by omega), ?_⟩
      rintro y _ _ ⟨hy, rfl, rfl⟩
      obtain rfl := zB_f hy (fun z => hno ⟨hp, w, hw2, rfl, z⟩)
      exact ⟨fun c => absurd rfl c, fun _ => zE.of rfl⟩
    · obtain rfl := zB_f hy hw
      exact ⟨fun _ => zE.of rfl, fun c => absurd rfl c⟩
  · obtain rfl := zB_f hy hp
    exact ⟨fun _ => zE.of rfl, fun c => absurd rfl c⟩
theorem s_mend (x1 x2 x3 : Int32) : zStep l G mX8_mend mX9_mend [.int x1, .int x2, .int x3] := by
  rintro I L ⟨v, o, nb, hv, hG, hF, hM, hLw, hNm, hTp, hDd, hIm, hCh, hBd, hTr, hSh⟩
  have hR : Rel I L := ⟨v, o, nb, hv, hG, hF, hM, hLw, hNm, hTp, hDd, hIm, hCh, hBd, hTr, hSh⟩
  have hn := hv.1
  have one : ¬ (1 : Int32) = 0 := by decide
  by_cases hno : iP x1 (vn v) ∧ ∃ w, w ≤ 2 ∧ x2 = nI w ∧ iN x3 0 (gMax w)
  rotate_left
  · refine ⟨_, cMend8_no hv hG x1 x2 x3 (by decide) hno, ?_⟩
    rintro _ _ _ ⟨rfl, rfl, rfl⟩
    exact cMend9_no hn hM.1 x1 x2 x3 (by decide) ⟨rfl, hR⟩ hno
  obtain ⟨⟨p, hp, rfl⟩, w, hw, rfl, k, -, hk, rfl⟩ := hno
  have hgl := gMax_lt w
  have hvl := vG_le hv hw (show p < 4 by omega)
  obtain ⟨dn, kp, k1, k2, d1, d2, d3, d4, en⟩ := hCh
  have hMx : I 45 (4 * w + p) = nI (vG v w p) := by
    rcases (by omega : w = 0 ∨ w = 1 ∨ w = 2) with rfl | rfl | rfl
    · rw [show 4 * 0 + p = p by omega]; exact hM.2.2.1 p (by omega)
    · exact hM.2.2.2.1 p (by omega)
    · exact hM.2.2.2.2.1 p (by omega)
  obtain ⟨J, cJ, j1, j2, j3, j4⟩ := cCame (l := l) (G := G) (d := 2) (L := L) (show dn ≤ 40 by omega) d1 (Nat.le_refl 2) (nI p) (nI w) (nI (vG v w p)) (nI k)
  refine ⟨fun y I' L' => nI (vG v w p) = y ∧ (if vG v w p = k then I else cTl J w p (nI k)) = I' ∧ L = L', ?_, ?_⟩
  · refine t_X8_mend ⟨0, _, by omega, cHasB (nI p) hv hG, ?_⟩
    rintro y _ _ ⟨hy, rfl, rfl⟩
    obtain rfl := zB_t hy ⟨p, hp, rfl⟩
    refine ⟨fun c => absurd c one, fun _ => ⟨0, _, by omega, cWithin8 (nI w) 2 (by omega), ?_⟩⟩
    rintro y _ _ ⟨hy, rfl, rfl⟩
    obtain rfl := zB_t hy ⟨w, Nat.zero_le _, hw, rfl⟩
    refine ⟨fun c => absurd c one, fun _ => ⟨0, _, by omega, cGreatest hw, ?_⟩⟩
    rintro _ _ _ ⟨rfl, rfl, rfl⟩
    refine ⟨0, _, by omega, cWithin8 (nI k) (gMax w) (by omega), ?_⟩
    rintro y _ _ ⟨hy, rfl, rfl⟩
    obtain rfl := zB_t hy ⟨k, Nat.zero_le _, hk, rfl⟩
    refine ⟨fun _ => ⟨0, _, by omega, cToldW hG hw (by omega), ?_⟩, fun c => absurd c one⟩
    rintro _ _ _ ⟨rfl, rfl, rfl⟩
    refine ⟨fun c => ?_, fun c => ⟨2, _, by omega, cJ, ?_⟩⟩
    · exact ⟨rfl, if_pos (nI_inj (by omega) (by omega) c), rfl⟩
    · rintro _ _ ⟨rfl, rfl⟩
      refine ⟨1, _, by omega, cTell8 hw (by omega) (nI k) (Nat.le_refl 1), ?_⟩
      rintro _ _ ⟨rfl, rfl⟩
      exact ⟨rfl, if_neg (fun z => c (by rw [z])), rfl⟩
  · rintro _ _ _ ⟨rfl, rfl, rfl⟩
    by_cases hvk : vG v w p = k
    · rw [if_pos hvk]
      refine cMend9 hv hM hw hp hk (by omega) (cBecomes (dn := dn) (by omega) (by omega) d2 hMx (fun _ => ⟨rfl, hR⟩) (fun c => absurd (by rw [hvk]) c))
    · rw [if_neg hvk]
      have z1 : ∀ a z, (a < 22 ∨ 26 < a) → a ≠ 2 + w → a ≠ 14 → cTl J w p (nI k) a z = I a z := fun a z h1 h2 h3 => (cTl_ne (by omega) (by omega)).trans (j3 a z h1)
      have hM' : mG v (cTl J w p (nI k)) := hM.off (z1 _ _ (by omega) (by omega) (by omega)) (z1 _ _ (by omega) (by omega) (by omega)) (fun a b h => z1 a b (by omega) (by omega) (by omega))
      refine cMend9 hv hM' hw hp hk (by omega) (cBecomes (dn := dn) (by omega) (by omega) ((z1 _ _ (by omega) (by omega) (by omega)).trans d2) ((z1 _ _ (by omega) (by omega) (by omega)).trans hMx) (fun c => absurd (nI_inj (by omega) (by omega) c) hvk) (fun _ K ⟨b1, b2, b3, b4, b5⟩ => ⟨rfl, ?_⟩))
      have off : ∀ x z, ¬ (x = 2 + w ∧ z = p) → ¬ (x = 14 ∧ z = 8) → ¬ (x = 45 ∧ z = 4 * w + p) → (x < 22 ∨ 26 < x) → (x = 44 → z ≠ 4 ∧ z ≠ 5) → (x < 46 ∨ 48 < x) → K x z = I x z := fun x z h1 h2 h3 h4 h5 h6 => by rw [b4 x z h3 h5 h6, cTl_ne h1 h2, j3 x z h4]
      have c0 : ∀ x z, 22 ≤ x → x ≤ 26 → K x z = J x z := fun x z h1 h2 => by rw [b4 x z (by omega) (by omega) (by omega), cTl_ne (by omega) (by omega)]
      have hu := uN_le dn
      refine rel_md (w := w) (p := p) (k := k) hw hp hk hv hG hF hM hLw hNm hTp hDd hIm hBd hTr hSh ?_ b3 (fun h => ?_) (fun h => ?_) off ⟨uN dn + 1, uN dn + 1, Nat.le_refl _, by omega, ?_, b1, ?_, b2, fun j hj => ?_⟩
      · rw [b4 _ _ (by omega) (by omega) (by omega)]; exact cTl_at
      · rw [b4 _ _ (by omega) (by omega) (by omega)]; exact cTl_14.1 h
      · rw [b4 _ _ (by omega) (by omega) (by omega), cTl_14.2 h hw]; exact j3 _ _ (by omega)
      · rw [c0 _ _ (by omega) (by omega)]; exact j1
      · rw [c0 _ _ (by omega) (by omega)]; exact j2
      · by_cases hju : j = uN dn
        · subst hju
          refine ⟨p, w, vG v w p, k, hp, hw, hvl, hk, ?_, ?_, ?_, ?_, (b5 46 (by omega) (by omega)).1, (b5 47 (by omega) (by omega)).1, (b5 48 (by omega) (by omega)).1⟩
          · rw [c0 _ _ (by omega) (by omega)]; exact (j4 23 (by omega) (by omega)).1
          · rw [c0 _ _ (by omega) (by omega)]; exact (j4 24 (by omega) (by omega)).1
          · rw [c0 _ _ (by omega) (by omega)]; exact (j4 25 (by omega) (by omega)).1
          · rw [c0 _ _ (by omega) (by omega)]; exact (j4 26 (by omega) (by omega)).1
        · have hj2 : j < uN dn := by omega
          have hj3 : j + uO dn < kp := by
            unfold uN at hj2; unfold uO
            split at hj2
            · rename_i h; rw [if_pos h]; omega
            · rename_i h; rw [if_neg h]; omega
          obtain ⟨p', w', b', c', r0, r1, r2, r3, r4, r5, r6, r7, r8, r9, r10⟩ := en _ hj3
          refine ⟨p', w', b', c', r0, r1, r2, r3, ?_, ?_, ?_, ?_, ?_, ?_, ?_⟩
          · rw [c0 _ _ (by omega) (by omega), (j4 23 (by omega) (by omega)).2 j hj2]; exact r4
          · rw [c0 _ _ (by omega) (by omega), (j4 24 (by omega) (by omega)).2 j hj2]; exact r5
          · rw [c0 _ _ (by omega) (by omega), (j4 25 (by omega) (by omega)).2 j hj2]; exact r6
          · rw [c0 _ _ (by omega) (by omega), (j4 26 (by omega) (by omega)).2 j hj2]; exact r7
          · rw [(b5 46 (by omega) (by omega)).2 j hj2, z1 _ _ (by omega) (by omega) (by omega)]; exact r8
          · rw [(b5 47 (by omega) (by omega)).2 j hj2, z1 _ _ (by omega) (by omega) (by omega)]; exact r9
          · rw [(b5 48 (by omega) (by omega)).2 j hj2, z1 _ _ (by omega) (by omega) (by omega)]; exact r10
end PN
