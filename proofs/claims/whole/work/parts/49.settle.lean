/-! ===== public call: settle ===== -/
theorem xc_in {I : zIM} {q0 q1 b : Nat} (h : b < 4) : xcI I q0 q1 0 0 4 q1 b = I q0 b := by
  unfold xcI
  rw [if_pos ⟨rfl, Nat.zero_le _, by omega⟩, Nat.sub_zero, Nat.zero_add]
theorem xc_out {I : zIM} {q0 q1 a b : Nat} (h : ¬ (a = q1 ∧ b < 4)) : xcI I q0 q1 0 0 4 a b = I a b := by
  unfold xcI
  exact if_neg (by omega)
/-- k WAYS changed so far, y the WAYS now; f more at most -/
def sSt (v : Vw) (o : Lw) : Nat → Nat → (Nat → Nat) → Nat × (Nat → Nat)
  | 0, k, y => (k, y)
  | f + 1, k, y => if sFM (vYs v y) o (vn v) 0 = 9 then (k, y) else sSt v o f (k + 1) (wU y (sFM (vYs v y) o (vn v) 0) (sWould (vYs v y) o (sFM (vYs v y) o (vn v) 0)))
def sSet (v : Vw) (o : Lw) (x : Option Nat) (r : Nat × (Nat → Nat)) : Int32 := if sFM (vYs v r.2) o (vn v) 0 = 9 then (match x with | none => nI r.1 | some p => nI (r.2 p)) else -2
theorem y_up {y : Nat → Nat} (hy : ∀ p, p < 4 → y p ≤ 5) {q w : Nat} (hw : w ≤ 5) : ∀ p, p < 4 → wU y q w p ≤ 5 := fun p hp => by
  unfold wU
  split
  · exact hw
  · exact hy p hp
theorem sMove9 {r : Nat} {u : Vw} {o : Lw} (hu : vOk u) (h : r = 9 ∨ r < 4) : sMove u o r = -2 ↔ r = 9 := by
  constructor
  · intro e
    rcases h with h | h
    · exact h
    · have := sWould_le (o := o) hu h
      rw [sMove, if_neg (by omega)] at e
      exact absurd e (nI_ne2 (by omega))
  · intro e
    rw [e]
    rfl
section ST
variable {l : Launch} {G : zG} {d : Nat} {v : Vw} {o : Lw}
theorem cSet_42 (hv : vOk v) {J : zIM} {L0 : zLM} (hG : cG v J) (hF : cF v J) (hL : rLaw o J) (hJ : ∀ b, b < 4 → J 43 b = J 3 b) {x1 : Int32} {x : Option Nat} (hx : x1 = -1 ∧ x = none ∨ ∃ p, p < vn v ∧ x1 = nI p ∧ x = some p) {P : Int32 → zIM → zLM → Prop} (hd : 14 ≤ d) (R : Nat × (Nat → Nat)) (hP : ∀ I L, oC J I → oCL L0 L → rNum v o I → P (sSet v o x R) I L) : ∀ f k y I L, f + k = 8 → (∀ p, p < 4 → y p ≤ 5) → oCx (fun a b => a = 3 ∧ b < 4) J I → (∀ p, p < 4 → I 3 p = nI (y p)) → oCL L0 L → rNum v o I → sSt v o f k y = R →
    K_X8_settle_42 l G d P I L x1 (nI k) (sMove (vYs v y) o (sFM (vYs v y) o (vn v) 0)) := by
  have fin : ∀ (k : Nat) (y : Nat → Nat) (I : zIM) (L : zLM), (∀ p, p < 4 → y p ≤ 5) → oCx (fun a b => a = 3 ∧ b < 4) J I → (∀ p, p < 4 → I 3 p = nI (y p)) → oCL L0 L → rNum v o I → (k, y) = R →
      ((sMove (vYs v y) o (sFM (vYs v y) o (vn v) 0) = (-2 : Int32) → (((¬ x1 = (-1 : Int32) → (∃ j4 : Nat, x1 = nI j4 ∧ j4 < 4 ∧ (P (I 3 j4) (xcI I 43 3 0 0 4) L))) ∧ (x1 = (-1 : Int32) → (P (nI k) (xcI I 43 3 0 0 4) L))))) ∧ (¬ sMove (vYs v y) o (sFM (vYs v y) o (vn v) 0) = (-2 : Int32) → (P (-2 : Int32) (xcI I 43 3 0 0 4) L))) := by
    intro k y I L hy hI h3 hL2 hN e
    subst e
    have hn := hv.1
    have hv2 : vOk (vYs v y) := vYs_ok hv hy
    have hr : sFM (vYs v y) o (vn v) 0 = 9 ∨ sFM (vYs v y) o (vn v) 0 < 4 := (sFM_lt (v := vYs v y) (vn v) 0 (by rfl)).elim Or.inl fun z => Or.inr (Nat.lt_of_lt_of_le z hn)
    have hPf := hP (xcI I 43 3 0 0 4) L (fun a b h1 h2 h3' h6 h7 => by
      by_cases e : a = 3 ∧ b < 4
      · obtain ⟨rfl, hb⟩ := e
        rw [xc_in hb, hI 43 b (by omega) (by omega) (by omega) (by omega) (by omega) (by omega)]
        exact hJ b hb
      · rw [xc_out e]
        exact hI a b h1 h2 h3' h6 h7 e) hL2 (hN.off (xc_out (by omega)) (fun b => xc_out (by omega)))
    refine ⟨fun c => ?_, fun c => ?_⟩
    · have c9 := (sMove9 hv2 hr).mp c
      unfold sSet at hPf
      rw [if_pos c9] at hPf
      refine ⟨fun c1 => ?_, fun c1 => ?_⟩
      · rcases hx with ⟨h1, h2⟩ | ⟨p, hp, h1, h2⟩
        · exact absurd h1 c1
        · subst h2
          refine ⟨p, h1, by omega, ?_⟩
          rw [h3 p (by omega)]
          exact hPf
      · rcases hx with ⟨h1, h2⟩ | ⟨p, hp, h1, h2⟩
        · subst h2
          exact hPf
        · rw [h1] at c1
          exact absurd c1 (nI_nm (by omega)).1
    · unfold sSet at hPf
      rw [if_neg (fun z => c ((sMove9 hv2 hr).mpr z))] at hPf
      exact hPf
  intro f
  induction f with
  | zero =>
    intro k y I L h hy hI h3 hL2 hN e
    exact t_X8_settle_42 (by omega) ⟨fun c => fin k y I L hy hI h3 hL2 hN e, fun c => ⟨fun _ => fin k y I L hy hI h3 hL2 hN e, fun c8 => absurd (nI_le (a := 8) (by omega) (by omega)) c8⟩⟩
  | succ f ih =>
    intro k y I L h hy hI h3 hL2 hN e
    have hn := hv.1
    have hv2 : vOk (vYs v y) := vYs_ok hv hy
    have hr : sFM (vYs v y) o (vn v) 0 = 9 ∨ sFM (vYs v y) o (vn v) 0 < vn v := sFM_lt (v := vYs v y) (vn v) 0 (by rfl)
    unfold sSt at e
    refine t_X8_settle_42 (by omega) ⟨fun c => ?_, fun c => ⟨fun c8 => absurd c8 (nI_ge (b := 8) (by omega) (by omega)), fun _ => ?_⟩⟩
    · have c9 := (sMove9 (o := o) hv2 (by omega)).mp c
      rw [if_pos c9] at e
      exact fin k y I L hy hI h3 hL2 hN e
    · have c9 : ¬ sFM (vYs v y) o (vn v) 0 = 9 := fun z => c ((sMove9 hv2 (by omega)).mpr z)
      have hr4 : sFM (vYs v y) o (vn v) 0 < vn v := by omega
      have hw := sWould_le (o := o) hv2 (p := sFM (vYs v y) o (vn v) 0) (by omega)
      rw [if_neg c9] at e
      rw [sMove, if_neg c9]
      obtain ⟨q1, q2⟩ := q_div6 (sFM (vYs v y) o (vn v) 0) (by omega) (sWould (vYs v y) o (sFM (vYs v y) o (vn v) 0)) (by omega)
      refine ⟨_, q1, by omega, ?_⟩
      rw [q2]
      generalize sFM (vYs v y) o (vn v) 0 = r at *
      generalize sWould (vYs v y) o r = w at *
      have hy2 := y_up hy (q := r) hw
      have hI2 : oCx (fun a b => a = 3 ∧ b < 4) J (xI I 3 r (nI w)) := fun a z h1 h2 h3 h6 h7 h8 => (xI_ne (by omega)).trans (hI a z h1 h2 h3 h6 h7 h8)
      have h32 : ∀ p, p < 4 → xI I 3 r (nI w) 3 p = nI (wU y r w p) := fun q hq => by
        by_cases e : q = r
        · subst e
          rw [xI_eq, wU_eq]
        · rw [xI_ne (by omega), wU_ne e]
          exact h3 q hq
      have hv3 : vOk (vYs v (wU y r w)) := vYs_ok hv hy2
      refine ⟨12, _, by omega, cFirstMove (v := vYs v (wU y r w)) hv3 (cG_w hG hI2 h32) (cF_y (hI2.gF hF)) (hI2.gL hL) (rNum_y (hN.off (xI_ne (by omega)) (fun _ => xI_ne (by omega)))) (Nat.le_refl 12), ?_⟩
      rintro y10 I10 L10 ⟨rfl, g1, g2, g3⟩
      rw [nI_1]
      exact ih (k + 1) (wU y r w) I10 L10 (by omega) hy2 (hI2.tr g1) (fun p hp => (g1 3 p (by omega) (by omega) (by omega) (by omega) (by omega)).trans (h32 p hp)) (hL2.tr g2) (rNum_y' g3) e
/-! the reference -/
theorem mSet_108 (hv : vOk v) {J : zIM} {L : zLM} (hM : mG v J) (hJ : ∀ b, b < vn v → J 62 b = J 45 (4 + b)) {x3 x4 : Int32} {P : Int32 → zIM → zLM → Prop} {R : Int32} (hR : (x3 < 0 → x4 = R) ∧ (¬ x3 < 0 → (-2 : Int32) = R)) (hP : ∀ I, oM J I → P R I L) : ∀ f p I, f + p = vn v → oMx (fun a b => a = 45 ∧ 4 + p ≤ b ∧ b < 4 + vn v) J I → K_X9_settle_108 l G d P I L x3 x4 (nI p)
  | 0, p, I, h, hI => by
    have hn := hv.1
    have hO : oM J I := fun a b h1 h2 h3 h4 => hI a b h1 h2 h3 h4 (by omega)
    refine t_X9_settle_108 ⟨fun c => ⟨fun c1 => ?_, fun c1 => ?_⟩, fun c => absurd (by rw [(hO.gG hM).1]; exact nI_le (by omega) (by omega)) c⟩
    · rw [hR.1 c1]
      exact hP I hO
    · rw [hR.2 c1]
      exact hP I hO
  | f + 1, p, I, h, hI => by
    have hn := hv.1
    refine t_X9_settle_108 ⟨fun c => absurd c (by rw [hI 44 6 (by omega) (by omega) (by omega) (by omega) (by omega), hM.1]; exact nI_ge (by omega) (by omega)), fun c => ⟨p, rfl, by omega, 4 + p, q_4a p, by omega, ?_⟩⟩
    rw [nI_1]
    refine mSet_108 hv hM hJ hR hP f (p + 1) _ (by omega) (fun a b h1 h2 h3 h4 h5 => ?_)
    by_cases e : a = 45 ∧ b = 4 + p
    · obtain ⟨rfl, rfl⟩ := e
      rw [xI_eq, hI 62 p (by omega) (by omega) (by omega) (by omega) (by omega)]
      exact hJ p (by omega)
    · exact (xI_ne e).trans (hI a b h1 h2 h3 h4 (by omega))
theorem aI_lt0 {r : Nat} (h : r = 9 ∨ r < 4) : aI r < 0 ↔ r = 9 := by
  constructor
  · intro e
    rcases h with h | h
    · exact h
    · rw [aI_ne (by omega)] at e
      exact absurd e (nI_pos (by omega))
  · intro e
    rw [e]
    decide
theorem mSet_52 (hv : vOk v) {J : zIM} {L0 : zLM} (hM : mG v J) (hL : rLaw o J) (hJ : ∀ b, b < vn v → J 62 b = J 45 (4 + b)) {x1 : Int32} {x : Option Nat} (hx : x1 = -1 ∧ x = none ∨ ∃ p, p < vn v ∧ x1 = nI p ∧ x = some p) {P : Int32 → zIM → zLM → Prop} (hd : 112 ≤ d) (R : Nat × (Nat → Nat)) (hP : ∀ I L, oM J I → oML L0 L → P (sSet v o x R) I L) : ∀ f k y I L, f + k = 8 → (∀ p, p < 4 → y p ≤ 5) → oMx (fun a b => a = 45 ∧ 4 ≤ b ∧ b < 4 + vn v) J I → (∀ p, p < 4 → I 45 (4 + p) = nI (y p)) → oML L0 L → sSt v o f k y = R →
    K_X9_settle_52 l G d P I L x1 (nI k) (aI (sFM (vYs v y) o (vn v) 0)) := by
  have fin : ∀ (k : Nat) (y : Nat → Nat) (I : zIM) (L : zLM), (∀ p, p < 4 → y p ≤ 5) → oMx (fun a b => a = 45 ∧ 4 ≤ b ∧ b < 4 + vn v) J I → (∀ p, p < 4 → I 45 (4 + p) = nI (y p)) → oML L0 L → (k, y) = R →
      ((¬ x1 = (-1 : Int32) → (∃ j3 : Nat, ((4 : Int32) + x1) = nI j3 ∧ j3 < 12 ∧ (K_X9_settle_108 l G d P I L (aI (sFM (vYs v y) o (vn v) 0)) (I 45 j3) (0 : Int32)))) ∧ (x1 = (-1 : Int32) → (K_X9_settle_108 l G d P I L (aI (sFM (vYs v y) o (vn v) 0)) (nI k) (0 : Int32)))) := by
    intro k y I L hy hI h3 hL2 e
    subst e
    have hn := hv.1
    have hv2 : vOk (vYs v y) := vYs_ok hv hy
    have hr : sFM (vYs v y) o (vn v) 0 = 9 ∨ sFM (vYs v y) o (vn v) 0 < 4 := (sFM_lt (v := vYs v y) (vn v) 0 (by rfl)).elim Or.inl fun z => Or.inr (Nat.lt_of_lt_of_le z hn)
    have go : ∀ x4 : Int32, (sFM (vYs v y) o (vn v) 0 = 9 → x4 = sSet v o x (k, y)) → K_X9_settle_108 l G d P I L (aI (sFM (vYs v y) o (vn v) 0)) x4 (0 : Int32) := by
      intro x4 h4
      have := mSet_108 (l := l) (G := G) (d := d) (L := L) (P := P) (R := sSet v o x (k, y)) (x3 := aI (sFM (vYs v y) o (vn v) 0)) (x4 := x4) hv hM hJ ⟨fun c => h4 ((aI_lt0 hr).mp c), fun c => by unfold sSet; rw [if_neg (fun z => c ((aI_lt0 hr).mpr z))]⟩ (fun I' hI' => hP I' L hI' hL2) (vn v) 0 I (by omega) (fun a b h1 h2 h3 h4 h5 => hI a b h1 h2 h3 h4 (by omega))
      rw [nI_0] at this
      exact this
    refine ⟨fun c1 => ?_, fun c1 => ?_⟩
    · rcases hx with ⟨h1, h2⟩ | ⟨p, hp, h1, h2⟩
      · exact absurd h1 c1
      · subst h2; subst h1
        refine ⟨4 + p, q_4a p, by omega, go _ fun c9 => ?_⟩
        rw [h3 p (by omega)]
        unfold sSet
        rw [if_pos c9]
    · rcases hx with ⟨h1, h2⟩ | ⟨p, hp, h1, h2⟩
      · subst h2
        refine go _ fun c9 => ?_
        unfold sSet
        rw [if_pos c9]
      · rw [h1] at c1
        exact absurd c1 (nI_nm (by omega)).1
  intro f
  induction f with
  | zero =>
    intro k y I L h hy hI h3 hL2 e
    exact t_X9_settle_52 ⟨fun c => fin k y I L hy hI h3 hL2 e, fun c => ⟨fun _ => fin k y I L hy hI h3 hL2 e, fun c8 => absurd (nI_le (a := 8) (by omega) (by omega)) c8⟩⟩
  | succ f ih =>
    intro k y I L h hy hI h3 hL2 e
    have hn := hv.1
    have hv2 : vOk (vYs v y) := vYs_ok hv hy
    have hr : sFM (vYs v y) o (vn v) 0 = 9 ∨ sFM (vYs v y) o (vn v) 0 < vn v := sFM_lt (v := vYs v y) (vn v) 0 (by rfl)
    have hI8 : oMx (fun a b => a = 45 ∧ 4 ≤ b ∧ b < 8) J I := fun a b h1 h2 h3 h4 h5 => hI a b h1 h2 h3 h4 (by omega)
    unfold sSt at e
    refine t_X9_settle_52 ⟨fun c => ?_, fun c => ⟨fun c8 => absurd c8 (nI_ge (b := 8) (by omega) (by omega)), fun _ => ?_⟩⟩
    · have c9 := (aI_lt0 (by omega)).mp c
      rw [if_pos c9] at e
      exact fin k y I L hy hI h3 hL2 e
    · have c9 : ¬ sFM (vYs v y) o (vn v) 0 = 9 := fun z => c ((aI_lt0 (by omega)).mpr z)
      have hr4 : sFM (vYs v y) o (vn v) 0 < vn v := by omega
      have hw := sWould_le (o := o) hv2 (p := sFM (vYs v y) o (vn v) 0) (by omega)
      rw [if_neg c9] at e
      rw [aI_ne c9]
      have hMI : mG (vYs v y) I := mG_w hM hI8 h3
      refine ⟨108, _, by omega, mWouldOf (v := vYs v y) hv2 hMI (hI8.gL hL) hr4 (Nat.le_refl 108), ?_⟩
      rintro y7 I7 L7 ⟨rfl, g1, g2⟩
      refine ⟨_, q_4a _, by omega, ?_⟩
      generalize sFM (vYs v y) o (vn v) 0 = r at *
      generalize sWould (vYs v y) o r = w at *
      have hy2 := y_up hy (q := r) hw
      have hI2 : oMx (fun a b => a = 45 ∧ 4 ≤ b ∧ b < 4 + vn v) J (xI I7 45 (4 + r) (nI w)) := fun a z h1 h2 h3 h4 h5 => (xI_ne (by omega)).trans ((g1 a z h1 h2 h3 h4).trans (hI a z h1 h2 h3 h4 h5))
      have hI28 : oMx (fun a b => a = 45 ∧ 4 ≤ b ∧ b < 8) J (xI I7 45 (4 + r) (nI w)) := fun a b h1 h2 h3 h4 h5 => hI2 a b h1 h2 h3 h4 (by omega)
      have h32 : ∀ p, p < 4 → xI I7 45 (4 + r) (nI w) 45 (4 + p) = nI (wU y r w p) := fun q hq => by
        by_cases e : q = r
        · subst e
          rw [xI_eq, wU_eq]
        · rw [xI_ne (by omega), wU_ne e, g1 45 (4 + q) (by omega) (by omega) (by omega) (by omega)]
          exact h3 q hq
      refine ⟨110, _, by omega, mRest (v := vYs v (wU y r w)) (vYs_ok hv hy2) (mG_w hM hI28 h32) (hI28.gL hL) (Nat.le_refl 110), ?_⟩
      rintro y9 I9 L9 ⟨rfl, g3, g4⟩
      rw [nI_1]
      exact ih (k + 1) (wU y r w) I9 L9 (by omega) hy2 (hI2.tr g3) (fun p hp => (g3 45 (4 + p) (by omega) (by omega) (by omega) (by omega)).trans (h32 p hp)) ((hL2.tr g2).tr g4) e
theorem mSet_17 (hv : vOk v) {I0 : zIM} {L0 : zLM} (hM : mG v I0) (hL : rLaw o I0) {x1 : Int32} {x : Option Nat} (hx : x1 = -1 ∧ x = none ∨ ∃ p, p < vn v ∧ x1 = nI p ∧ x = some p) (hd : 112 ≤ d) : ∀ f p I, f + p = vn v → (∀ a b, a ≠ 62 → I a b = I0 a b) → (∀ b, b < p → I 62 b = I0 45 (4 + b)) → K_X9_settle_17 l G d (qM (sSet v o x (sSt v o 8 0 (vY v))) I0 L0) I L0 x1 (nI p)
  | 0, p, I, h, ho, h6 => by
    have hn := hv.1
    have hMI : mG v I := hM.off (ho _ _ (by decide)) (ho _ _ (by decide)) (fun a b h => ho a b (by omega))
    have hLI : rLaw o I := hL.off (ho _ _ (by decide)) (fun _ => ho _ _ (by decide)) (ho _ _ (by decide)) (fun _ => ho _ _ (by decide))
    refine t_X9_settle_17 ⟨fun c => ⟨110, _, by omega, mRest hv hMI hLI (Nat.le_refl 110), ?_⟩, fun c => absurd (by rw [hMI.1]; exact nI_le (by omega) (by omega)) c⟩
    rintro y9 I9 L9 ⟨rfl, g3, g4⟩
    have := mSet_52 (l := l) (G := G) (d := d) (L0 := L0) (J := I) (P := qM (sSet v o x (sSt v o 8 0 (vY v))) I0 L0) hv hMI hLI (fun b hb => (h6 b (by omega)).trans (ho 45 _ (by decide)).symm) hx hd (sSt v o 8 0 (vY v)) (fun I' L' q1 q2 => ⟨rfl, fun a b h1 h2 h3 h4 h5 => (q1 a b h1 h2 h3 (fun z => by have := h5 z; omega)).trans (ho a b h4), q2.up⟩) 8 0 (vY v) I9 L9 rfl (fun p hp => (hv.2.2.1 p hp).2.1) (fun a b h1 h2 h3 h4 h5 => g3 a b h1 h2 h3 h4) (fun p hp => (g3.gG hMI).2.2.2.1 p hp) g4 rfl
    rw [nI_0] at this
    exact this
  | f + 1, p, I, h, ho, h6 => by
    have hn := hv.1
    refine t_X9_settle_17 ⟨fun c => absurd c (by rw [ho _ _ (by decide), hM.1]; exact nI_ge (by omega) (by omega)), fun c => ⟨4 + p, q_4a p, by omega, p, rfl, by omega, ?_⟩⟩
    rw [nI_1]
    refine mSet_17 hv hM hL hx hd f (p + 1) _ (by omega) (fun a b ha => (xI_ne (by omega)).trans (ho a b ha)) (fun b hb => ?_)
    by_cases e : b = p
    · subst e
      exact xI_eq.trans (ho 45 _ (by decide))
    · exact (xI_ne (by omega)).trans (h6 b (by omega))
theorem s_settle (x1 : Int32) : zStep l G mX8_settle mX9_settle [.int x1] := by
  refine zStep_of fun v o nb I L hR => ?_
  obtain ⟨hv, hG, hF, hM, hLw, hNm, -⟩ := id hR
  have hn := hv.1
  have cgo : ∀ x, (x1 = -1 ∧ x = none ∨ ∃ p, p < vn v ∧ x1 = nI p ∧ x = some p) → ∃ (d2 : Nat) (P2 : Int32 → zIM → zLM → Prop), d2 + 1 ≤ 900 ∧ zCi l G d2 mX8_firstMove [.ref 0] (xcI I 3 43 0 0 4) L P2 ∧ ∀ (y2 : Int32) (I2 : zIM) (L2 : zLM), P2 y2 I2 L2 → (K_X8_settle_42 l G 900 (qC (sSet v o x (sSt v o 8 0 (vY v))) v o I L) I2 L2 x1 (0 : Int32) y2) := by
    intro x hx
    have ho : ∀ a b, a ≠ 43 → xcI I 3 43 0 0 4 a b = I a b := fun a b ha => xc_out (by omega)
    have hG1 : cG v (xcI I 3 43 0 0 4) := hG.off fun a b _ _ => ho a b (by omega)
    have hF1 : cF v (xcI I 3 43 0 0 4) := hF.off fun b => ho 8 b (by omega)
    have hL1 : rLaw o (xcI I 3 43 0 0 4) := hLw.off (ho _ _ (by decide)) (fun _ => ho _ _ (by decide)) (ho _ _ (by decide)) (fun _ => ho _ _ (by decide))
    refine ⟨12, _, by omega, cFirstMove hv hG1 hF1 hL1 (hNm.off (ho _ _ (by decide)) (fun _ => ho _ _ (by decide))) (Nat.le_refl 12), ?_⟩
    rintro y2 I2 L2 ⟨rfl, g1, g2, g3⟩
    have := cSet_42 (l := l) (G := G) (d := 900) (L0 := L) (J := xcI I 3 43 0 0 4) (P := qC (sSet v o x (sSt v o 8 0 (vY v))) v o I L) hv hG1 hF1 hL1 (fun b hb => by rw [xc_in hb, ho 3 b (by decide)]) hx (by omega) (sSt v o 8 0 (vY v)) (fun I' L' q1 q2 q3 => ⟨rfl, fun a b h1 h2 h3 _ h5 h6 h7 => (q1 a b h1 h2 h3 h6 h7).trans (ho a b h5), q2.up, q3⟩) 8 0 (vY v) I2 L2 rfl (fun p hp => (hv.2.2.1 p hp).2.1) (fun a b h1 h2 h3 h4 h5 _ => g1 a b h1 h2 h3 h4 h5) (fun p hp => (g1.gG hG1).2.2.2.1 p hp) g2 g3 rfl
    rw [nI_0] at this
    exact this
  have mgo : ∀ x, (x1 = -1 ∧ x = none ∨ ∃ p, p < vn v ∧ x1 = nI p ∧ x = some p) → ∀ I1 L1, RelV v o nb I1 L1 → K_X9_settle_17 l G 900 (qM (sSet v o x (sSt v o 8 0 (vY v))) I1 L1) I1 L1 x1 (0 : Int32) := by
    intro x hx I1 L1 hR1
    have := mSet_17 (l := l) (G := G) (d := 900) (L0 := L1) hv hR1.2.2.2.1 hR1.2.2.2.2.1 hx (by omega) (vn v) 0 I1 (by omega) (fun _ _ _ => rfl) (fun b hb => absurd hb (by omega))
    rw [nI_0] at this
    exact this
  by_cases hm : x1 = -1
  · refine ⟨sSet v o none (sSt v o 8 0 (vY v)), t_X8_settle (by omega) ⟨fun _ => cgo none (Or.inl ⟨hm, rfl⟩), fun c => absurd hm c⟩, fun I1 L1 hR1 _ _ => t_X9_settle ⟨fun _ => mgo none (Or.inl ⟨hm, rfl⟩) I1 L1 hR1, fun c => absurd hm c⟩⟩
  · by_cases h1 : iP x1 (vn v)
    · obtain ⟨p, hp, e⟩ := id h1
      refine ⟨sSet v o (some p) (sSt v o 8 0 (vY v)), t_X8_settle (by omega) ⟨fun c => absurd c hm, fun _ => bBt 0 (cHasB _ hv hG) (by omega) h1 ⟨fun _ => cgo (some p) (Or.inr ⟨p, hp, e, rfl⟩), fun c => absurd c i1_0⟩⟩, fun I1 L1 hR1 _ _ => t_X9_settle ⟨fun c => absurd c hm, fun _ => bBt 1 (cIsPlayer9 _ hn hR1.2.2.2.1.1 (by omega)) (by omega) h1 ⟨fun _ => mgo (some p) (Or.inr ⟨p, hp, e, rfl⟩) I1 L1 hR1, fun c => absurd c i1_0⟩⟩⟩
    · exact ⟨-1, t_X8_settle (by omega) ⟨fun c => absurd c hm, fun _ => bBf 0 (cHasB _ hv hG) (by omega) h1 ⟨fun c => absurd rfl c, fun _ => qC.of rfl hNm⟩⟩, fun I1 L1 hR1 _ _ => t_X9_settle ⟨fun c => absurd c hm, fun _ => bBf 1 (cIsPlayer9 _ hn hR1.2.2.2.1.1 (by omega)) (by omega) h1 ⟨fun c => absurd rfl c, fun _ => qM.of rfl⟩⟩⟩
end ST
