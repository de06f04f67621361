/-! ===== who follows p among s: the same as among s without p ===== -/
theorem sFol_self {v : Vw} (hv : vOk v) {p k : Nat} (hp : p < vn v) (h1 : 1 ≤ k) (h2 : k ≤ vn v) (h : vO v ((vP v p + k) % vn v) = p) : k = vn v := by
  obtain ⟨a, b⟩ := hv.2.2.2.2.2.1 p hp
  have hm := Nat.mod_lt (vP v p + k) (show 0 < vn v by omega)
  have e := (hv.2.2.2.2.1 _ hm).2
  rw [h] at e
  by_cases c : vP v p + k < vn v
  · rw [Nat.mod_eq_of_lt c] at e
    omega
  · rw [Nat.mod_eq_sub_mod (by omega), Nat.mod_eq_of_lt (by omega)] at e
    omega
theorem sFol_del {v : Vw} (hv : vOk v) {p s : Nat} (hp : p < vn v) (hs : s < 16) : ∀ f k, f + k = vn v + 1 → 1 ≤ k → sFol v p s f k = sFol v p (bDel s p) f k
  | 0, k, _, _ => rfl
  | f + 1, k, hf, hk => by
    have hn := hv.1
    have hm := Nat.mod_lt (vP v p + k) (show 0 < vn v by omega)
    have hO := (hv.2.2.2.1 ((vP v p + k) % vn v) (by omega)).1
    have b := b_del_in s hs p (by omega) _ hO
    have ih := sFol_del hv hp hs f (k + 1) (by omega) (by omega)
    unfold sFol
    by_cases e : vO v ((vP v p + k) % vn v) = p
    · have hkn := sFol_self hv hp hk (by omega) e
      obtain rfl : f = 0 := by omega
      rw [e] at b ⊢
      have b' : bIn (bDel s p) p = false := by rw [b]; simp
      rw [b']
      show (if bIn s p = true then p else p) = p
      split <;> rfl
    · have b' : bIn (bDel s p) (vO v ((vP v p + k) % vn v)) = bIn s (vO v ((vP v p + k) % vn v)) := by rw [b]; simp [e]
      rw [b', ih]
theorem vFol_del {v : Vw} (hv : vOk v) {p s : Nat} (hp : p < vn v) (hs : s < 16) : vFol v p s = vFol v p (bDel s p) := sFol_del hv hp hs (vn v) 1 (by omega) (Nat.le_refl 1)
