/-! ===== contracts: Group.strongest, plainAim, told, findFollowers, come ===== -/
/-- whom: 9 nobody; the class says -2 -/
def aI (a : Nat) : Int32 := if a = 9 then -2 else nI a
def sg (m : Bool) : Int32 := if m then 1 else -1
theorem b_sg : ∀ m : Bool, ∀ a, a < 13 → ∀ b, b < 13 → (sg m * nI a ≤ sg m * nI b ↔ ¬ (if m then b < a else a < b)) := by decide +kernel
/-- who of s has the most (m) or fewest HITS, from p on, b so far -/
def sBest (v : Vw) (s : Nat) (m : Bool) : Nat → Nat → Nat → Nat
  | 0, _, b => b
  | f + 1, p, b => sBest v s m f (p + 1) (if bIn s p = true ∧ (b = 9 ∨ (if m then vH v b < vH v p else vH v p < vH v b)) then p else b)
theorem sBest_lt {v : Vw} {s : Nat} {m : Bool} : ∀ f p b, f + p = vn v → (b = 9 ∨ b < vn v) → (sBest v s m f p b = 9 ∨ sBest v s m f p b < vn v)
  | 0, p, b, h, hb => hb
  | f + 1, p, b, h, hb => by
    unfold sBest
    refine sBest_lt f (p + 1) _ (by omega) ?_
    by_cases hc : bIn s p = true ∧ (b = 9 ∨ (if m then vH v b < vH v p else vH v p < vH v b))
    · rw [if_pos hc]
      exact Or.inr (by omega)
    · rw [if_neg hc]
      exact hb
/-- by a way that looks at nothing that follows: at whom; BEST: 9 -/
def sPlain (v : Vw) (p s : Nat) : Nat :=
  if vY v p = 0 then sBest v (bDel s p) true (vn v) 0 9
  else if vY v p = 1 then sBest v (bDel s p) false (vn v) 0 9
  else if vY v p = 3 then (if bDel s p = 0 then 9 else vFol v p (bDel s p))
  else if vY v p = 4 then (if bIn (bDel s p) (vT v p) = true then vT v p else 9)
  else 9
section GS
variable {l : Launch} {G : zG} {d : Nat} {I : zIM} {L : zLM} {v : Vw}
theorem cStrongest_6 (hv : vOk v) (hG : cG v I) {s : Nat} (hs : s < 16) (m : Bool) : ∀ f p b, f + p = vn v → (b = 9 ∨ b < vn v) → K_X2_strongest_6 l G d (zE (aI (sBest v s m f p b)) I L) I L (nI s) (sg m) (aI b) (nI p)
  | 0, p, b, h, hb => by
    have hn := hv.1
    refine t_X2_strongest_6 ⟨fun c => zE.of rfl, fun c => absurd ?_ c⟩
    rw [hG.1]
    exact nI_le (by omega) (by omega)
  | f + 1, p, b, h, hb => by
    have hn := hv.1
    have hp : p < 4 := by omega
    have ih1 := cStrongest_6 hv hG hs m f (p + 1) b (by omega) hb
    have ih2 := cStrongest_6 hv hG hs m f (p + 1) p (by omega) (Or.inr (by omega))
    have hap : aI p = nI p := if_neg (by omega)
    rw [hap] at ih2
    refine t_X2_strongest_6 ⟨fun c => absurd c ?_, fun c => ⟨fun c2 => ?_, fun c2 => ⟨fun c3 => ?_, fun c3 => ⟨p, rfl, hp, b, ?_, ?_, ?_⟩⟩⟩⟩
    · rw [hG.1]
      exact nI_ge (by omega) (by omega)
    · have e := (b_in s hs p hp).mp c2
      rw [nI_1, sBest, if_neg (by rw [e]; exact fun z => by cases z.1)]
      exact ih1
    · have e : bIn s p = true := by
        cases hb : bIn s p with
        | true => rfl
        | false => exact absurd ((b_in s hs _ hp).mpr hb) c2
      have hb9 : b = 9 := by
        rcases hb with h9 | h9
        · exact h9
        · rw [show aI b = nI b from if_neg (by omega)] at c3
          exact absurd c3 (nI_ne2 (by omega))
      rw [nI_1, sBest, if_pos ⟨e, Or.inl hb9⟩]
      exact ih2
    · rcases hb with h9 | h9
      · exact absurd (by rw [h9]; rfl) c3
      · exact if_neg (by omega)
    · rcases hb with h9 | h9
      · exact absurd (by rw [h9]; rfl) c3
      · omega
    · have hb4 : b < vn v := by
        rcases hb with h9 | h9
        · exact absurd (by rw [h9]; rfl) c3
        · exact h9
      have e : bIn s p = true := by
        cases hb : bIn s p with
        | true => rfl
        | false => exact absurd ((b_in s hs _ hp).mpr hb) c2
      have h1 := (hv.2.2.1 p hp).1
      have h2 := (hv.2.2.1 b (by omega)).1
      rw [hG.2.2.1 p hp, hG.2.2.1 b (by omega), b_sg m _ (by omega) _ (by omega)]
      refine ⟨fun c4 => ?_, fun c4 => ?_⟩
      · have hno : ¬ (bIn s p = true ∧ (b = 9 ∨ (if m then vH v b < vH v p else vH v p < vH v b))) := fun z => z.2.elim (fun y => by omega) c4
        rw [nI_1, sBest, if_neg hno]
        exact ih1
      · rw [nI_1, sBest, if_pos ⟨e, Or.inr (Classical.not_not.mp c4)⟩]
        exact ih2
theorem cStrongest (hv : vOk v) (hG : cG v I) {s : Nat} (hs : s < 16) (m : Bool) : zCi l G d mX2_strongest [.ref 1, .int (nI s), .int (sg m)] I L (zE (aI (sBest v s m (vn v) 0 9)) I L) :=
  t_X2_strongest (cStrongest_6 hv hG hs m (vn v) 0 9 (by omega) (Or.inl rfl))
theorem cPlainAim (hv : vOk v) (hG : cG v I) (hF : cF v I) {p s : Nat} (hp : p < vn v) (hs : s < 16) (hd : 1 ≤ d) : zCi l G d mX2_plainAim [.ref 1, .int (nI p), .int (nI s)] I L (zE (aI (sPlain v p s)) I L) := by
  have hn := hv.1
  have hp4 : p < 4 := by omega
  have hdl := b_del_lt s hs p hp4
  have hY := (hv.2.2.1 p hp4).2.1
  have hT := (hv.2.2.1 p hp4).2.2
  refine t_X2_plainAim ⟨p, rfl, hp4, ?_⟩
  rw [hG.2.2.2.1 p hp4, hG.2.2.2.2.1 p hp4, b_del s hs p hp4]
  have e0 : ∀ k : Nat, k < 10 → (nI (vY v p) = nI k ↔ vY v p = k) := fun k hk => nI_eq_iff (by omega) (by omega)
  refine ⟨fun c => ⟨0, _, hd, cStrongest hv hG hdl true, ?_⟩, fun c => ⟨0, _, hd, cStrongest hv hG hdl false, ?_⟩, fun c => zE.of ?_, fun c => ⟨fun c2 => ⟨0, _, hd, cAfter hF hp hv hdl, ?_⟩, fun c2 => zE.of ?_⟩, fun c => ⟨fun c2 => zE.of ?_, fun c2 => zE.of ?_⟩, fun c1 c2 c3 c4 c5 => zE.of ?_⟩
  · have c := (e0 0 (by omega)).mp c
    rintro _ _ _ ⟨rfl, rfl, rfl⟩
    exact zE.of (by rw [sPlain, if_pos c])
  · have c := (e0 1 (by omega)).mp c
    rintro _ _ _ ⟨rfl, rfl, rfl⟩
    exact zE.of (by rw [sPlain, if_neg (by omega), if_pos c])
  · have c := (e0 2 (by omega)).mp c
    rw [sPlain, if_neg (by omega), if_neg (by omega), if_neg (by omega), if_neg (by omega)]
    rfl
  · have c := (e0 3 (by omega)).mp c
    rintro _ _ _ ⟨rfl, rfl, rfl⟩
    have c2' : ¬ bDel s p = 0 := fun z => c2 ((b_del0 s hs p hp4).mpr z)
    have hf := sFol_lt hv hp (bDel s p) (vn v) 1
    refine zE.of ?_
    rw [sPlain, if_neg (by omega), if_neg (by omega), if_pos c, if_neg c2']
    exact (if_neg (by unfold vFol; omega)).symm
  · have c := (e0 3 (by omega)).mp c
    rw [sPlain, if_neg (by omega), if_neg (by omega), if_pos c, if_pos ((b_del0 s hs p hp4).mp c2)]
    rfl
  · have c := (e0 4 (by omega)).mp c
    have e := (b_in _ hdl _ (by omega)).mp c2
    rw [sPlain, if_neg (by omega), if_neg (by omega), if_neg (by omega), if_pos c, e]
    rfl
  · have c := (e0 4 (by omega)).mp c
    have e : bIn (bDel s p) (vT v p) = true := by
      cases hb : bIn (bDel s p) (vT v p) with
      | true => rfl
      | false => exact absurd ((b_in _ hdl _ (by omega)).mpr hb) c2
    rw [sPlain, if_neg (by omega), if_neg (by omega), if_neg (by omega), if_pos c, if_pos e]
    exact (if_neg (by omega)).symm
  · have c1 := fun z => c1 ((e0 0 (by omega)).mpr z)
    have c2 := fun z => c2 ((e0 1 (by omega)).mpr z)
    have c4 := fun z => c4 ((e0 3 (by omega)).mpr z)
    have c5 := fun z => c5 ((e0 4 (by omega)).mpr z)
    rw [sPlain, if_neg c1, if_neg c2, if_neg c4, if_neg c5]
    rfl
theorem cTold {p w : Nat} (hp : p < 4) : zCi l G d mX2_told [.ref 1, .int (nI p), .int (nI w)] I L (zE (if nI w = 0 then I 2 p else if nI w = 1 then I 3 p else I 4 p) I L) :=
  t_X2_told ⟨fun c => ⟨fun c2 => ⟨p, rfl, hp, zE.of (by rw [if_neg c, if_neg c2])⟩, fun c2 => ⟨p, rfl, hp, zE.of (by rw [if_neg c, if_pos c2])⟩⟩, fun c => ⟨p, rfl, hp, zE.of (by rw [if_pos c])⟩⟩
end GS
