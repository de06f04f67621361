/-! ===== contracts: Group.findFollowers, come ===== -/
/-- all of cG but the places -/
def cGm (v : Vw) (I : zIM) : Prop := I 1 6 = nI (vn v) ∧ I 1 7 = nI (vB v) ∧ (∀ p, p < 4 → I 2 p = nI (vH v p)) ∧ (∀ p, p < 4 → I 3 p = nI (vY v p)) ∧ (∀ p, p < 4 → I 4 p = nI (vT v p)) ∧ (∀ k, k < 4 → I 5 k = nI (vO v k)) ∧ (∀ m, m < 5 → I 7 m = nI (vZ v m))
theorem cG_m {v : Vw} {I : zIM} : cG v I ↔ cGm v I ∧ ∀ p, p < vn v → I 6 p = nI (vP v p) := by
  unfold cG cGm
  constructor
  · rintro ⟨a, b, c, d, e, f, g, h⟩
    exact ⟨⟨a, b, c, d, e, f, h⟩, g⟩
  · rintro ⟨⟨a, b, c, d, e, f, h⟩, g⟩
    exact ⟨a, b, c, d, e, f, g, h⟩
theorem cGm.off {v : Vw} {I I' : zIM} (h : cGm v I) (ho : ∀ a b, a ≠ 6 → a ≠ 8 → I' a b = I a b) : cGm v I' := by
  obtain ⟨a, b, c, d, e, f, g⟩ := h
  exact ⟨(ho 1 6 (by decide) (by decide)).trans a, (ho 1 7 (by decide) (by decide)).trans b, fun p hp => (ho 2 p (by decide) (by decide)).trans (c p hp), fun p hp => (ho 3 p (by decide) (by decide)).trans (d p hp), fun p hp => (ho 4 p (by decide) (by decide)).trans (e p hp), fun p hp => (ho 5 p (by decide) (by decide)).trans (f p hp), fun p hp => (ho 7 p (by decide) (by decide)).trans (g p hp)⟩
theorem xI_ne {I : zIM} {k i a b : Nat} {x : Int32} (h : ¬ (a = k ∧ b = i)) : xI I k i x a b = I a b := if_neg h
theorem xI_eq {I : zIM} {k i : Nat} {x : Int32} : xI I k i x k i = x := if_pos ⟨rfl, rfl⟩
theorem xL_ne {I : zLM} {k i a b : Nat} {x : Int64} (h : ¬ (a = k ∧ b = i)) : xL I k i x a b = I a b := if_neg h
theorem xL_eq {I : zLM} {k i : Nat} {x : Int64} : xL I k i x k i = x := if_pos ⟨rfl, rfl⟩
/-- what findFollowers leaves -/
def qFF (v : Vw) (I0 : zIM) (L0 : zLM) : zIM → zLM → Prop := fun I' L' => L' = L0 ∧ (∀ a b, a ≠ 6 → a ≠ 8 → I' a b = I0 a b) ∧ cG v I' ∧ cF v I'
section FF
variable {l : Launch} {G : zG} {d : Nat} {L : zLM} {v : Vw} {I0 : zIM}
theorem cFF_40 (hv : vOk v) (hd : 1 ≤ d) {p : Nat} (hp : p < vn v) (after : ∀ I, (∀ a b, a ≠ 6 → a ≠ 8 → I a b = I0 a b) → cG v I → (∀ q, q < p + 1 → ∀ s, s < 16 → I 8 (16 * q + s) = nI (vFol v q s)) → K_X2_findFollowers_30 l G d (qFF v I0 L) I L (nI (p + 1))) : ∀ f s I, f + s = 16 → (∀ a b, a ≠ 6 → a ≠ 8 → I a b = I0 a b) → cG v I → (∀ q, q < p → ∀ s, s < 16 → I 8 (16 * q + s) = nI (vFol v q s)) → (∀ s', s' < s → I 8 (16 * p + s') = nI (vFol v p s')) → K_X2_findFollowers_40 l G d (qFF v I0 L) I L (nI p) (nI s)
  | 0, s, I, h, ho, hG, h1, h2 => by
    refine t_X2_findFollowers_40 ⟨fun c => ?_, fun c => absurd (nI_le (a := 16) (by omega) (by omega)) c⟩
    rw [nI_1]
    refine after I ho hG fun q hq s' hs' => ?_
    by_cases e : q = p
    · subst e
      exact h2 s' (by omega)
    · exact h1 q (by omega) s' hs'
  | f + 1, s, I, h, ho, hG, h1, h2 => by
    have hn := hv.1
    refine t_X2_findFollowers_40 ⟨fun c => absurd c (nI_ge (b := 16) (by omega) (by omega)), fun c => ⟨0, _, hd, cFollowerOf hv hG (s := s) (by omega) hp, ?_⟩⟩
    rintro _ _ _ ⟨rfl, rfl, rfl⟩
    refine ⟨16 * p + s, b_16 p (by omega) s (by omega), by omega, ?_⟩
    rw [nI_1]
    have off : ∀ a b, a ≠ 8 → xI I 8 (16 * p + s) (nI (vFol v p s)) a b = I a b := fun a b ha => xI_ne (fun z => ha z.1)
    refine cFF_40 hv hd hp after f (s + 1) _ (by omega) (fun a b h6 h8 => (off a b h8).trans (ho a b h6 h8)) ?_ (fun q hq s' hs' => (xI_ne (by omega)).trans (h1 q hq s' hs')) (fun s' hs' => ?_)
    · obtain ⟨m, g⟩ := cG_m.mp hG
      exact cG_m.mpr ⟨m.off fun a b _ h8 => off a b h8, fun q hq => (off 6 q (by decide)).trans (g q hq)⟩
    · by_cases e : s' = s
      · subst e
        exact xI_eq
      · exact (xI_ne (by omega)).trans (h2 s' (by omega))
theorem cFF_30 (hv : vOk v) (hd : 1 ≤ d) : ∀ f p I, f + p = vn v → (∀ a b, a ≠ 6 → a ≠ 8 → I a b = I0 a b) → cG v I → (∀ q, q < p → ∀ s, s < 16 → I 8 (16 * q + s) = nI (vFol v q s)) → K_X2_findFollowers_30 l G d (qFF v I0 L) I L (nI p)
  | 0, p, I, h, ho, hG, h1 => by
    have hn := hv.1
    refine t_X2_findFollowers_30 ⟨fun c => ⟨rfl, ho, hG, fun q hq s hs => h1 q (by omega) s hs⟩, fun c => absurd ?_ c⟩
    rw [hG.1]
    exact nI_le (by omega) (by omega)
  | f + 1, p, I, h, ho, hG, h1 => by
    have hn := hv.1
    refine t_X2_findFollowers_30 ⟨fun c => absurd c ?_, fun c => ?_⟩
    · rw [hG.1]
      exact nI_ge (by omega) (by omega)
    · exact cFF_40 hv hd (by omega) (fun I ho hG h1 => cFF_30 hv hd f (p + 1) I (by omega) ho hG h1) 16 0 I (by omega) ho hG h1 (fun s' hs' => absurd hs' (Nat.not_lt_zero _))
theorem cFF_2 (hv : vOk v) (hd : 1 ≤ d) : ∀ f k I, f + k = vn v → (∀ a b, a ≠ 6 → a ≠ 8 → I a b = I0 a b) → cGm v I → (∀ j, j < k → I 6 (vO v j) = nI j) → K_X2_findFollowers_2 l G d (qFF v I0 L) I L (nI k)
  | 0, k, I, h, ho, hG, h1 => by
    have hn := hv.1
    refine t_X2_findFollowers_2 ⟨fun c => ?_, fun c => absurd ?_ c⟩
    · refine cFF_30 hv hd (vn v) 0 I (by omega) ho (cG_m.mpr ⟨hG, fun p hp => ?_⟩) (fun q hq => absurd hq (Nat.not_lt_zero _))
      obtain ⟨a, b⟩ := hv.2.2.2.2.2.1 p hp
      have := h1 (vP v p) (by omega)
      rw [b] at this
      exact this
    · rw [hG.1]
      exact nI_le (by omega) (by omega)
  | f + 1, k, I, h, ho, hG, h1 => by
    have hn := hv.1
    have hO := hv.2.2.2.2.1 k (by omega)
    refine t_X2_findFollowers_2 ⟨fun c => absurd c ?_, fun c => ⟨k, rfl, by omega, vO v k, hG.2.2.2.2.2.1 k (by omega), by omega, ?_⟩⟩
    · rw [hG.1]
      exact nI_ge (by omega) (by omega)
    · rw [nI_1]
      have off : ∀ a b, a ≠ 6 → xI I 6 (vO v k) (nI k) a b = I a b := fun a b ha => xI_ne (fun z => ha z.1)
      refine cFF_2 hv hd f (k + 1) _ (by omega) (fun a b h6 h8 => (off a b h6).trans (ho a b h6 h8)) (hG.off fun a b h6 _ => off a b h6) (fun j hj => ?_)
      by_cases e : j = k
      · subst e
        exact xI_eq
      · refine (xI_ne fun z => ?_).trans (h1 j (by omega))
        have := (hv.2.2.2.2.1 j (by omega)).2
        rw [z.2, hO.2] at this
        omega
theorem cFindFollowers (hv : vOk v) (hG : cGm v I0) (hd : 1 ≤ d) : zCv l G d mX2_findFollowers [.ref 1] I0 L (qFF v I0 L) :=
  t_X2_findFollowers (cFF_2 hv hd (vn v) 0 I0 (by omega) (fun _ _ _ _ => rfl) hG (fun j hj => absurd hj (Nat.not_lt_zero _)))
end FF
/-- one more player -/
def wU (f : Nat → Nat) (k x : Nat) : Nat → Nat := fun j => if j = k then x else f j
def vCome (v : Vw) (h y : Nat) : Vw := (vn v + 1, wU (vH v) (vn v) h, wU (vY v) (vn v) y, vT v, wU (vO v) (vn v) (vn v), wU (vP v) (vn v) (vn v), vB v, vZ v)
theorem wU_eq {f : Nat → Nat} {k x : Nat} : wU f k x k = x := if_pos rfl
theorem wU_ne {f : Nat → Nat} {k x j : Nat} (h : j ≠ k) : wU f k x j = f j := if_neg h
theorem vCome_ok {v : Vw} (hv : vOk v) {h y : Nat} (hn : vn v < 4) (hh : h ≤ 12) (hy : y ≤ 5) : vOk (vCome v h y) := by
  obtain ⟨a, b, c, e, f, g, i, j⟩ := hv
  refine ⟨by show vn v + 1 ≤ 4; omega, b, fun p hp => ?_, fun k hk => ?_, fun k hk => ?_, fun p hp => ?_, i, fun p hp => j p (Nat.le_of_succ_le hp)⟩
  · obtain ⟨c1, c2, c3⟩ := c p hp
    refine ⟨?_, ?_, c3⟩
    · show wU (vH v) (vn v) h p ≤ 12
      unfold wU; split
      · exact hh
      · exact c1
    · show wU (vY v) (vn v) y p ≤ 5
      unfold wU; split
      · exact hy
      · exact c2
  · obtain ⟨e1, e2⟩ := e k hk
    constructor
    · show wU (vO v) (vn v) (vn v) k < 4
      unfold wU; split <;> omega
    · show wU (vP v) (vn v) (vn v) k < 4
      unfold wU; split <;> omega
  · have hk : k < vn v + 1 := hk
    show wU (vO v) (vn v) (vn v) k < vn v + 1 ∧ wU (vP v) (vn v) (vn v) (wU (vO v) (vn v) (vn v) k) = k
    by_cases hkn : k = vn v
    · rw [hkn, wU_eq, wU_eq]
      exact ⟨by omega, rfl⟩
    · obtain ⟨f1, f2⟩ := f k (by omega)
      rw [wU_ne hkn, wU_ne (by omega)]
      exact ⟨by omega, f2⟩
  · have hp : p < vn v + 1 := hp
    show wU (vP v) (vn v) (vn v) p < vn v + 1 ∧ wU (vO v) (vn v) (vn v) (wU (vP v) (vn v) (vn v) p) = p
    by_cases hpn : p = vn v
    · rw [hpn, wU_eq, wU_eq]
      exact ⟨by omega, rfl⟩
    · obtain ⟨f1, f2⟩ := g p (by omega)
      rw [wU_ne hpn, wU_ne (by omega)]
      exact ⟨by omega, f2⟩
/-- what come leaves: the group's cells hold the new view, all else stays -/
def qCome (v : Vw) (h y : Nat) (I0 : zIM) (L0 : zLM) : Int32 → zIM → zLM → Prop := fun r I' L' => r = nI (vn v) ∧ L' = L0 ∧ (∀ a b, (a = 0 ∨ 9 ≤ a) → I' a b = I0 a b) ∧ cG (vCome v h y) I' ∧ cF (vCome v h y) I'
theorem cCome {l : Launch} {G : zG} {d : Nat} {I : zIM} {L : zLM} {v : Vw} (hv : vOk v) (hG : cG v I) {h y : Nat} (hn : vn v < 4) (hh : h ≤ 12) (hy : y ≤ 5) (hd : 2 ≤ d) : zCi l G d mX2_come [.ref 1, .int (nI h), .int (nI y)] I L (qCome v h y I L) := by
  obtain ⟨a, b, c, e, f, g, i, j⟩ := id hG
  refine t_X2_come ⟨vn v, a, hn, 1, _, hd, cFindFollowers (vCome_ok hv hn hh hy) ?_ (Nat.le_refl 1), ?_⟩
  · refine ⟨?_, ?_, fun p hp => ?_, fun p hp => ?_, fun p hp => ?_, fun k hk => ?_, fun m hm => ?_⟩
    · rw [a, nI_1]; exact xI_eq
    · rw [xI_ne (by omega), xI_ne (by omega), xI_ne (by omega), xI_ne (by omega)]; exact b
    · show _ = nI (wU (vH v) (vn v) h p)
      rw [xI_ne (by omega), xI_ne (by omega), xI_ne (by omega)]
      by_cases hp2 : p = vn v
      · subst hp2; rw [xI_eq, wU_eq]
      · rw [xI_ne (by omega), wU_ne hp2]; exact c p hp
    · show _ = nI (wU (vY v) (vn v) y p)
      rw [xI_ne (by omega), xI_ne (by omega)]
      by_cases hp2 : p = vn v
      · subst hp2; rw [xI_eq, wU_eq]
      · rw [xI_ne (by omega), xI_ne (by omega), wU_ne hp2]; exact e p hp
    · rw [xI_ne (by omega), xI_ne (by omega), xI_ne (by omega), xI_ne (by omega)]; exact f p hp
    · show _ = nI (wU (vO v) (vn v) (vn v) k)
      rw [xI_ne (by omega)]
      by_cases hp2 : k = vn v
      · subst hp2; rw [xI_eq, wU_eq]; exact a
      · rw [xI_ne (by omega), xI_ne (by omega), xI_ne (by omega), wU_ne hp2]; exact g k hk
    · rw [xI_ne (by omega), xI_ne (by omega), xI_ne (by omega), xI_ne (by omega)]; exact j m hm
  · rintro I' L' ⟨h1, h2, h3, h4⟩
    exact ⟨a, h1, fun x z hx => by rw [h2 x z (by omega) (by omega), xI_ne (by omega), xI_ne (by omega), xI_ne (by omega), xI_ne (by omega)], h3, h4⟩
