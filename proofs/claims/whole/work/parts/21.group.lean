/-! ===== contracts: Integer.bitCount, Group ===== -/
/-- answers e, changes nothing -/
def zE {α : Type} (e : α) (I : zIM) (L : zLM) : α → zIM → zLM → Prop := fun y I' L' => e = y ∧ I = I' ∧ L = L'
theorem zE.of {α : Type} {a e : α} {I : zIM} {L : zLM} (h : a = e) : zE e I L a I L := ⟨h.symm, rfl, rfl⟩
section GR
variable {l : Launch} {G : zG} {d : Nat} {I : zIM} {L : zLM} {v : Vw}
theorem cBit (s : Nat) (hs : s < 16) : zCi l G d mJ6_bitCount_0f7a4 [.int (nI s)] I L (zE (nI (bPop s)) I L) := by
  refine t_J6_bitCount_0f7a4 (zE.of ?_)
  revert s
  decide +kernel
theorem cHas (x : Int32) : zCi l G d mX2_has [.ref 1, .int x] I L (zE (if x < 0 then 0 else if I 1 6 ≤ x then 0 else 1) I L) :=
  t_X2_has ⟨fun c => zE.of (if_pos c).symm, fun c => ⟨fun c2 => zE.of (by rw [if_neg c, if_pos c2]), fun c2 => zE.of (by rw [if_neg c, if_neg c2])⟩⟩
theorem cAll (hv : vOk v) (hG : cG v I) : zCi l G d mX2_all [.ref 1] I L (zE (nI (bAll (vn v))) I L) :=
  t_X2_all (zE.of (by rw [hG.1]; exact b_all _ (by have := hv.1; omega)))
theorem cAfter {p s : Nat} (hF : cF v I) (hp : p < vn v) (hv : vOk v) (hs : s < 16) : zCi l G d mX2_after [.ref 1, .int (nI p), .int (nI s)] I L (zE (nI (vFol v p s)) I L) :=
  t_X2_after ⟨16 * p + s, b_16 p (by have := hv.1; omega) s hs, by have := hv.1; omega, zE.of (hF p hp s hs)⟩
theorem cFirst_2 (hv : vOk v) (hG : cG v I) {s : Nat} (hs : s < 16) : ∀ f k, f + k = vn v → K_X2_first_2 l G d (zE (nI (sFirst v s f k)) I L) I L (nI s) (nI k)
  | 0, k, h => by
    have hn := hv.1
    refine t_X2_first_2 ⟨fun c => zE.of nI_0.symm, fun c => absurd ?_ c⟩
    rw [hG.1]
    exact nI_le (by omega) (by omega)
  | f + 1, k, h => by
    have hn := hv.1
    have hO := (hv.2.2.2.1 k (by omega)).1
    refine t_X2_first_2 ⟨fun c => absurd c ?_, fun c => ⟨k, rfl, by omega, ?_⟩⟩
    · rw [hG.1]
      exact nI_ge (by omega) (by omega)
    · rw [hG.2.2.2.2.2.1 k (by omega)]
      refine ⟨fun c2 => ?_, fun c2 => ?_⟩
      · have e := (b_in s hs _ hO).mp c2
        rw [nI_1, show sFirst v s (f + 1) k = sFirst v s f (k + 1) by rw [sFirst, e]; rfl]
        exact cFirst_2 hv hG hs f (k + 1) (by omega)
      · have e : bIn s (vO v k) = true := by
          cases hb : bIn s (vO v k) with
          | true => rfl
          | false => exact absurd ((b_in s hs _ hO).mpr hb) c2
        exact zE.of (by rw [sFirst, if_pos e])
theorem cFirst (hv : vOk v) (hG : cG v I) {s : Nat} (hs : s < 16) : zCi l G d mX2_first [.ref 1, .int (nI s)] I L (zE (nI (vFirst v s)) I L) :=
  t_X2_first (cFirst_2 hv hG hs (vn v) 0 (by omega))
def sOver (v : Vw) (s t : Nat) : Prop := vB v ≤ t ∨ bPop s < 2
theorem cIsOver (hv : vOk v) (hG : cG v I) {s t : Nat} (hs : s < 16) (ht : t < 1000) (hd : 1 ≤ d) : zCi l G d mX2_isOver [.ref 1, .int (nI s), .int (nI t)] I L (fun y I' L' => (y = 1 ∧ sOver v s t ∨ y = 0 ∧ ¬ sOver v s t) ∧ I = I' ∧ L = L') := by
  have hb := hv.2.1
  have hp := b_pop_le s hs
  refine t_X2_isOver ⟨fun c => ⟨Or.inl ⟨rfl, Or.inl ?_⟩, rfl, rfl⟩, fun c => ⟨0, _, hd, cBit s hs, ?_⟩⟩
  · rw [hG.2.1] at c
    exact (nI_le_iff (by omega) (by omega)).mp c
  · rw [hG.2.1] at c
    have c' : ¬ vB v ≤ t := fun h => c (nI_le h (by omega))
    rintro _ _ _ ⟨rfl, rfl, rfl⟩
    refine ⟨fun c2 => ⟨Or.inr ⟨rfl, fun h => ?_⟩, rfl, rfl⟩, fun c2 => ⟨Or.inl ⟨rfl, Or.inr ?_⟩, rfl, rfl⟩⟩
    · have h2 : 2 ≤ bPop s := (nI_le_iff (a := 2) (by omega) (by omega)).mp c2
      rcases h with h | h
      · exact c' h
      · omega
    · exact Nat.not_le.mp fun h => c2 (nI_le (a := 2) h (by omega))
/-! who follows -/
theorem sFol_place {v : Vw} {p : Nat} (hn : 0 < vn v) (k : Nat) : (if vn v ≤ (vP v p + k) % vn v + 1 then 0 else (vP v p + k) % vn v + 1) = (vP v p + (k + 1)) % vn v := by
  have h := Nat.mod_lt (vP v p + k) hn
  have e : (vP v p + (k + 1)) % vn v = ((vP v p + k) % vn v + 1) % vn v := by
    rw [← Nat.add_assoc]
    exact (Nat.mod_add_mod _ _ _).symm
  rw [e]
  split
  · have h2 : (vP v p + k) % vn v + 1 = vn v := by omega
    rw [h2, Nat.mod_self]
  · rename_i h3
    exact (Nat.mod_eq_of_lt (Nat.not_le.mp h3)).symm
theorem cFollowerOf_10 (hv : vOk v) (hG : cG v I) {p s : Nat} (hs : s < 16) (hp : p < vn v) : ∀ f k, f + k = vn v → K_X2_followerOf_10 l G d (zE (nI (sFol v p s f (k + 1))) I L) I L (nI p) (nI s) (nI ((vP v p + k) % vn v)) (nI k)
  | 0, k, h => by
    have hn := hv.1
    refine t_X2_followerOf_10 ⟨fun c => zE.of rfl, fun c => absurd ?_ c⟩
    rw [hG.1]
    exact nI_le (by omega) (by omega)
  | f + 1, k, h => by
    have hn := hv.1
    have hm := Nat.mod_lt (vP v p + k) (show 0 < vn v by omega)
    have hm2 := Nat.mod_lt (vP v p + (k + 1)) (show 0 < vn v by omega)
    have hO := (hv.2.2.2.1 ((vP v p + (k + 1)) % vn v) (by omega)).1
    have hpl := sFol_place (v := v) (p := p) (by omega) k
    have hI := hG.2.2.2.2.2.1 ((vP v p + (k + 1)) % vn v) (by omega)
    have key : (((nI s >>> (nI (vO v ((vP v p + (k + 1)) % vn v)) &&& 31)) &&& 1) = 0 → K_X2_followerOf_10 l G d (zE (nI (sFol v p s (f + 1) (k + 1))) I L) I L (nI p) (nI s) (nI ((vP v p + (k + 1)) % vn v)) (nI (k + 1))) ∧
        (¬ ((nI s >>> (nI (vO v ((vP v p + (k + 1)) % vn v)) &&& 31)) &&& 1) = 0 → zE (nI (sFol v p s (f + 1) (k + 1))) I L (nI (vO v ((vP v p + (k + 1)) % vn v))) I L) := by
      refine ⟨fun c2 => ?_, fun c2 => ?_⟩
      · have e := (b_in s hs _ hO).mp c2
        rw [show sFol v p s (f + 1) (k + 1) = sFol v p s f (k + 1 + 1) by rw [sFol, e]; rfl]
        exact cFollowerOf_10 hv hG hs hp f (k + 1) (by omega)
      · have e : bIn s (vO v ((vP v p + (k + 1)) % vn v)) = true := by
          cases hb : bIn s (vO v ((vP v p + (k + 1)) % vn v)) with
          | true => rfl
          | false => exact absurd ((b_in s hs _ hO).mpr hb) c2
        exact zE.of (by rw [sFol, if_pos e])
    refine t_X2_followerOf_10 ⟨fun c => absurd c ?_, fun c => ⟨fun c1 => ?_, fun c1 => ?_⟩⟩
    · rw [hG.1]
      exact nI_ge (by omega) (by omega)
    · rw [hG.1, nI_1, nI_le_iff (by omega) (by omega)] at c1
      rw [if_pos c1] at hpl
      rw [← hpl] at key hI
      rw [hI, nI_1]
      exact key
    · rw [hG.1, nI_1] at c1
      have c1' : ¬ vn v ≤ (vP v p + k) % vn v + 1 := fun z => c1 (nI_le z (by omega))
      rw [if_neg c1'] at hpl
      rw [nI_1]
      refine ⟨(vP v p + k) % vn v + 1, rfl, by omega, ?_⟩
      rw [← hpl] at key hI
      rw [hI, nI_1]
      exact key
theorem cFollowerOf (hv : vOk v) (hG : cG v I) {p s : Nat} (hs : s < 16) (hp : p < vn v) : zCi l G d mX2_followerOf [.ref 1, .int (nI p), .int (nI s)] I L (zE (nI (vFol v p s)) I L) := by
  have hn := hv.1
  refine t_X2_followerOf ⟨p, rfl, by omega, ?_⟩
  rw [hG.2.2.2.2.2.2.1 p hp]
  have h := cFollowerOf_10 (l := l) (G := G) (d := d) (L := L) hv hG hs hp (vn v) 0 (by omega)
  rw [show (vP v p + 0) % vn v = vP v p from Nat.mod_eq_of_lt (hv.2.2.2.2.2.1 p hp).1] at h
  exact h
end GR
