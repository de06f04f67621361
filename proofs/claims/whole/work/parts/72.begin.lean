/-! ===== where both begin: the relation ===== -/
theorem rOf_out {a b : Nat} (h : 69 ≤ a ∨ 60 ≤ b) : ∀ U : List (Nat × Nat × Nat), (∀ u, u ∈ U → u.1 < 69 ∧ u.2.1 < 60) → rOf U a b = none
  | [], _ => rfl
  | u :: U, hu => (if_neg (fun z => by have := hu u List.mem_cons_self; omega)).trans (rOf_out h U fun u h => hu u (List.mem_cons_of_mem _ h))
theorem zR0_out {a b : Nat} (h : 69 ≤ a ∨ 60 ≤ b) : zR0 a b = none := by
  unfold zR0
  rw [List.getD_eq_getElem?_getD, List.getD_eq_getElem?_getD]
  have hl : zRT.length = 69 := rfl
  by_cases c : a < zRT.length
  · have hr : ∀ r, r ∈ zRT → r.length ≤ 60 := by decide +kernel
    rw [List.getElem?_eq_getElem c]
    have := hr _ (List.getElem_mem c)
    rw [Option.getD_some, List.getElem?_eq_none (by omega)]
    rfl
  · rw [List.getElem?_eq_none (show zRT.length ≤ a by omega)]
    rfl
theorem rOf_all : rOf awU = zR0 := by
  funext a b
  by_cases h : 69 ≤ a ∨ 60 ≤ b
  · rw [rOf_out h awU (by decide +kernel), zR0_out h]
  · have k : ∀ a, a < 69 → ∀ b, b < 60 → rOf awU a b = zR0 a b := by decide +kernel
    exact k a (by omega) b (by omega)
theorem cw_zs : cw 69 0 0 = zs (iOf awV) (fun _ _ => 0) := by
  unfold cw zs
  rw [List.drop_zero, List.drop_zero, rOf_all]
  rfl
def v00 : Vw := (0, fun _ => 0, fun _ => 0, fun _ => 0, fun _ => 0, fun _ => 0, 6, fun m => if m = 1 then 9 else if m = 2 then 4 else if m = 3 then 2 else if m = 4 then 1 else 0)
theorem v00_ok : vOk v00 := ⟨by decide, by decide, by decide, by decide, by decide, by decide, by decide, fun _ _ => rfl⟩
theorem bIn_0 (p : Nat) : ¬ bIn 0 p = true := by
  unfold bIn
  simp
theorem d00_ok : dOk v00 0 0 0 := ⟨by decide, fun p h => absurd h (bIn_0 p), by decide, by decide, fun h => absurd h (by decide), fun h => absurd h (by decide)⟩
theorem rel_0 : Rel (iOf awV) (fun _ _ => 0) := by
  refine ⟨v00, none, 0, v00_ok, ⟨by decide +kernel, by decide +kernel, by decide +kernel, by decide +kernel, by decide +kernel, by decide +kernel, by decide +kernel, by decide +kernel⟩, fun p hp => absurd hp (Nat.not_lt_zero p), ⟨by decide +kernel, by decide +kernel, by decide +kernel, by decide +kernel, by decide +kernel, by decide +kernel, by decide +kernel, by decide +kernel, fun _ => by decide +kernel⟩, ⟨by decide +kernel, by decide +kernel⟩, Or.inl (by decide +kernel), ⟨0, by decide, by decide +kernel, by decide +kernel, fun i hi => absurd hi (by omega)⟩, ⟨0, 0, 0, d00_ok, by decide +kernel, by decide +kernel, by decide +kernel, by decide +kernel, by decide +kernel, by decide +kernel⟩, Or.inl ⟨by decide +kernel, by decide +kernel⟩, ⟨0, 0, by decide, by decide, by decide +kernel, by decide +kernel, by decide +kernel, by decide +kernel, fun i hi => absurd hi (by omega)⟩, ⟨by decide, by decide +kernel, by decide +kernel, fun i hi => absurd hi (by omega)⟩, ⟨0, by decide, by decide +kernel, by decide +kernel, fun i hi => absurd hi (by omega)⟩, ?_⟩
  have k : ∀ d, d < 6 → iOf awV (31 + 2 * d) 0 = -2 ∧ iOf awV 65 d = -1 := by decide +kernel
  exact fun d hd => Or.inl (k d hd)
