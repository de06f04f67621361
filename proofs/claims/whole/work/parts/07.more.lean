/-! ===== Math, System.arraycopy; from the law's walk to whole_start (written by wip/whole/gen/p07.py) ===== -/
section ZK
variable {X : zX} {M : zM} {cs : Nat × Nat} {pc pc' : Nat} {ls : List (Option Value)} {st : List Value} {w : zWd}
theorem z_mmax {idx : Nat} {x y : Int32} (hd : decode M.2.1 pc = .ok (.invokestatic idx, 3)) (hp : pc + 3 = pc') (hlk : Cond.methodLink M.1.cls idx Lib.Math.max.name ∈ zTb) (hm : Cond.static Lib.Math.max.name ∈ zTb ∧ Cond.initialized "java/lang/Math" ∈ zTb ∧ Cond.code Lib.Math.max.name Lib.Math.max.code 2 (some .int) ∈ zTb) (hdp : 1 ≤ X.2.2.1) (hst : (st.map fun v => v.category).sum ≤ 8) (hcs : cs.1 ≤ X.2.2.2.1 ∧ cs.2 ≤ X.2.2.2.2.1)
    (kk : zWp X M cs pc' ls (.int (if x < y then y else x) :: st) w) : zWp X M cs pc ls (.int y :: .int x :: st) w := by
  subst hp
  intro p e s m args below meth c H locs als Qf R C hH hl F
  have hk := kk p e s m args below meth c H locs als Qf R C hH hl F
  have h1 := C.2.2.2.2.2.2.2.2.1
  have h2 := C.2.2.2.2.2.2.2.2.2.1
  have h3 := zst8 (G := X.2.1) hst
  exact va_mmax C.1 C.2.1 (C.2.2.2.1.trans hl.1.symm) C.2.2.2.2.1 (C.2.2.2.2.2.1 _ hlk) (C.2.2.2.2.2.1 _ hm.1) (C.2.2.2.2.2.1 _ hm.2.1) (C.2.2.2.2.2.1 _ hm.2.2) (by omega) (by omega) (Nat.le_trans hcs.1 C.2.2.2.2.2.2.2.2.2.2.1) (Nat.le_trans hcs.2 C.2.2.2.2.2.2.2.2.2.2.2) hd hk
theorem z_mmin {idx : Nat} {x y : Int32} (hd : decode M.2.1 pc = .ok (.invokestatic idx, 3)) (hp : pc + 3 = pc') (hlk : Cond.methodLink M.1.cls idx Lib.Math.min.name ∈ zTb) (hm : Cond.static Lib.Math.min.name ∈ zTb ∧ Cond.initialized "java/lang/Math" ∈ zTb ∧ Cond.code Lib.Math.min.name Lib.Math.min.code 2 (some .int) ∈ zTb) (hdp : 1 ≤ X.2.2.1) (hst : (st.map fun v => v.category).sum ≤ 8) (hcs : cs.1 ≤ X.2.2.2.1 ∧ cs.2 ≤ X.2.2.2.2.1)
    (kk : zWp X M cs pc' ls (.int (if y < x then y else x) :: st) w) : zWp X M cs pc ls (.int y :: .int x :: st) w := by
  subst hp
  intro p e s m args below meth c H locs als Qf R C hH hl F
  have hk := kk p e s m args below meth c H locs als Qf R C hH hl F
  have h1 := C.2.2.2.2.2.2.2.2.1
  have h2 := C.2.2.2.2.2.2.2.2.2.1
  have h3 := zst8 (G := X.2.1) hst
  exact va_mmin C.1 C.2.1 (C.2.2.2.1.trans hl.1.symm) C.2.2.2.2.1 (C.2.2.2.2.2.1 _ hlk) (C.2.2.2.2.2.1 _ hm.1) (C.2.2.2.2.2.1 _ hm.2.1) (C.2.2.2.2.2.1 _ hm.2.2) (by omega) (by omega) (Nat.le_trans hcs.1 C.2.2.2.2.2.2.2.2.2.2.1) (Nat.le_trans hcs.2 C.2.2.2.2.2.2.2.2.2.2.2) hd hk
theorem z_mmaxl {idx : Nat} {x y : Int64} (hd : decode M.2.1 pc = .ok (.invokestatic idx, 3)) (hp : pc + 3 = pc') (hlk : Cond.methodLink M.1.cls idx Lib.MathLoose.max_long.x ∈ zTb) (hm : Cond.static Lib.MathLoose.max_long.x ∈ zTb ∧ Cond.initialized "java/lang/Math" ∈ zTb ∧ Cond.code Lib.MathLoose.max_long.x Lib.MathLoose.max_long.code 4 (some .long) ∈ zTb) (hdp : 1 ≤ X.2.2.1) (hst : (st.map fun v => v.category).sum ≤ 8) (hcs : cs.1 ≤ X.2.2.2.1 ∧ cs.2 ≤ X.2.2.2.2.1)
    (kk : zWp X M cs pc' ls (.long (if y < x then x else y) :: st) w) : zWp X M cs pc ls (.long y :: .long x :: st) w := by
  subst hp
  intro p e s m args below meth c H locs als Qf R C hH hl F
  have hk := kk p e s m args below meth c H locs als Qf R C hH hl F
  have h1 := C.2.2.2.2.2.2.2.2.1
  have h2 := C.2.2.2.2.2.2.2.2.2.1
  have h3 := zst8 (G := X.2.1) hst
  exact va_mmax_long C.1 C.2.1 (C.2.2.2.1.trans hl.1.symm) C.2.2.2.2.1 (C.2.2.2.2.2.1 _ hlk) (C.2.2.2.2.2.1 _ hm.1) (C.2.2.2.2.2.1 _ hm.2.1) (C.2.2.2.2.2.1 _ hm.2.2) (by omega) (by omega) (Nat.le_trans hcs.1 C.2.2.2.2.2.2.2.2.2.2.1) (Nat.le_trans hcs.2 C.2.2.2.2.2.2.2.2.2.2.2) hd hk
theorem z_mminl {idx : Nat} {x y : Int64} (hd : decode M.2.1 pc = .ok (.invokestatic idx, 3)) (hp : pc + 3 = pc') (hlk : Cond.methodLink M.1.cls idx Lib.MathLoose.min_long.x ∈ zTb) (hm : Cond.static Lib.MathLoose.min_long.x ∈ zTb ∧ Cond.initialized "java/lang/Math" ∈ zTb ∧ Cond.code Lib.MathLoose.min_long.x Lib.MathLoose.min_long.code 4 (some .long) ∈ zTb) (hdp : 1 ≤ X.2.2.1) (hst : (st.map fun v => v.category).sum ≤ 8) (hcs : cs.1 ≤ X.2.2.2.1 ∧ cs.2 ≤ X.2.2.2.2.1)
    (kk : zWp X M cs pc' ls (.long (if y < x then y else x) :: st) w) : zWp X M cs pc ls (.long y :: .long x :: st) w := by
  subst hp
  intro p e s m args below meth c H locs als Qf R C hH hl F
  have hk := kk p e s m args below meth c H locs als Qf R C hH hl F
  have h1 := C.2.2.2.2.2.2.2.2.1
  have h2 := C.2.2.2.2.2.2.2.2.2.1
  have h3 := zst8 (G := X.2.1) hst
  exact va_mmin_long C.1 C.2.1 (C.2.2.2.1.trans hl.1.symm) C.2.2.2.2.1 (C.2.2.2.2.2.1 _ hlk) (C.2.2.2.2.2.1 _ hm.1) (C.2.2.2.2.2.1 _ hm.2.1) (C.2.2.2.2.2.1 _ hm.2.2) (by omega) (by omega) (Nat.le_trans hcs.1 C.2.2.2.2.2.2.2.2.2.2.1) (Nat.le_trans hcs.2 C.2.2.2.2.2.2.2.2.2.2.2) hd hk
theorem z_mabsl {idx : Nat} {x : Int64} (hd : decode M.2.1 pc = .ok (.invokestatic idx, 3)) (hp : pc + 3 = pc') (hlk : Cond.methodLink M.1.cls idx Lib.MathLoose.abs_long.x ∈ zTb) (hm : Cond.static Lib.MathLoose.abs_long.x ∈ zTb ∧ Cond.initialized "java/lang/Math" ∈ zTb ∧ Cond.code Lib.MathLoose.abs_long.x Lib.MathLoose.abs_long.code 2 (some .long) ∈ zTb) (hdp : 1 ≤ X.2.2.1) (hst : (st.map fun v => v.category).sum ≤ 8) (hcs : cs.1 ≤ X.2.2.2.1 ∧ cs.2 ≤ X.2.2.2.2.1)
    (kk : zWp X M cs pc' ls (.long (if 0 < x then x else -x) :: st) w) : zWp X M cs pc ls (.long x :: st) w := by
  subst hp
  intro p e s m args below meth c H locs als Qf R C hH hl F
  have hk := kk p e s m args below meth c H locs als Qf R C hH hl F
  have h1 := C.2.2.2.2.2.2.2.2.1
  have h2 := C.2.2.2.2.2.2.2.2.2.1
  have h3 := zst8 (G := X.2.1) hst
  exact va_mabs_long C.1 C.2.1 (C.2.2.2.1.trans hl.1.symm) C.2.2.2.2.1 (C.2.2.2.2.2.1 _ hlk) (C.2.2.2.2.2.1 _ hm.1) (C.2.2.2.2.2.1 _ hm.2.1) (C.2.2.2.2.2.1 _ hm.2.2) (by omega) (by omega) (Nat.le_trans hcs.1 C.2.2.2.2.2.2.2.2.2.2.1) (Nat.le_trans hcs.2 C.2.2.2.2.2.2.2.2.2.2.2) hd hk
end ZK
def zcpI (w : zWd) (q0 q1 sp dp n : Nat) : zWd := (w.1, w.2.1, fun a b => if a = q1 ∧ (dp ≤ b ∧ b < dp + n) then w.2.2.1 q0 (sp + (b - dp)) else w.2.2.1 a b, w.2.2.2)
def zcpL (w : zWd) (q0 q1 sp dp n : Nat) : zWd := (w.1, w.2.1, w.2.2.1, fun a b => if a = q1 ∧ (dp ≤ b ∧ b < dp + n) then w.2.2.2 q0 (sp + (b - dp)) else w.2.2.2 a b)
theorem nn_of {z : Int32} {n : Nat} (h : z = nI n) (hn : n < 2 ^ 31) : ¬ z < 0 ∧ z.toNatClampNeg = n ∧ z.toInt = (n : Int) := by
  subst h
  exact ⟨nI_pos hn, nI_clamp hn, nI_toInt hn⟩
def zcpM : Prop := Cond.native arraycopyName ∈ zTb ∧ Cond.static arraycopyName ∈ zTb ∧ Cond.initialized "java/lang/System" ∈ zTb
theorem z_cpyi {X : zX} {M : zM} {cs : Nat × Nat} {pc pc' : Nat} {ls : List (Option Value)} {st : List Value} {w w' : zWd} {idx q0 q1 n0 n1 sp dp n : Nat} {isp idp iN : Int32} (hd : decode M.2.1 pc = .ok (.invokestatic idx, 3)) (hp : pc + 3 = pc') (hlk : Cond.methodLink M.1.cls idx arraycopyName ∈ zTb) (hm : zcpM) (hdp : 1 ≤ X.2.2.1) (hst : (st.map fun v => v.category).sum ≤ 8)
    (hs0 : w.1[q0]? = some (0, n0)) (hs1 : w.1[q1]? = some (0, n1)) (h1 : isp = nI sp) (h2 : idp = nI dp) (h3 : iN = nI n) (h4 : sp + n ≤ n0) (h5 : dp + n ≤ n1) (hb : n0 < 2 ^ 31 ∧ n1 < 2 ^ 31) (hw : zcpI w q0 q1 sp dp n = w')
    (kk : zWp X M cs pc' ls st w') : zWp X M cs pc ls (.int iN :: .int idp :: .ref q1 :: .int isp :: .ref q0 :: st) w := by
  subst hp
  subst hw
  intro p e s m args below meth c H locs als Qf R C hH hl F T hT XX
  obtain ⟨a1, a2, a3, a4, a5, a6⟩ := id hH
  have r1 := C.2.2.2.2.2.2.2.2.1
  have r2 := C.2.2.2.2.2.2.2.2.2.1
  have r3 := zst8 (G := X.2.1) hst
  have r4 : nativeFrameWords "java/lang/System" "arraycopy" 5 ≤ 40 := by decide +kernel
  obtain ⟨u1, u2, u3⟩ := nn_of h1 (by omega)
  obtain ⟨v1, v2, v3⟩ := nn_of h2 (by omega)
  obtain ⟨x1, x2, x3⟩ := nn_of h3 (by omega)
  have hc0 : H[zad X.2.1 q0]? = some (vp_cell (X.2.1.1 0) (n0, .inl (w.2.2.1 q0))) := a3 q0 _ (zconc_get hs0)
  have hc1 : H[zad X.2.1 q1]? = some (vp_cell (X.2.1.1 0) (n1, .inl (w.2.2.1 q1))) := a3 q1 _ (zconc_get hs1)
  obtain ⟨-, k0, hk0, cm0, hkk0⟩ := (a2.2 0 _ rfl).1 n0 (fun j => .int (w.2.2.1 q0 j))
  obtain ⟨vm', X', step⟩ := XX.arraycopy C.1 C.2.2.2.2.1 (C.2.2.2.2.2.1 _ hlk) (C.2.2.2.2.2.1 _ hm.1) (C.2.2.2.2.2.1 _ hm.2.1) (C.2.2.2.2.2.1 _ hm.2.2) (src := zad X.2.1 q0) (dst := zad X.2.1 q1) (cs := vp_cell (X.2.1.1 0) (n0, .inl (w.2.2.1 q0))) (cd := vp_cell (X.2.1.1 0) (n1, .inl (w.2.2.1 q1))) (srcPos := isp) (destPos := idp) (n := iN) (by rw [hT]; exact hc0) (by rw [hT]; exact hc1)
    (fun _ h => by cases h) (fun _ h => by cases h) (fun h => by cases h) (fun h => by cases h) hk0 hk0 hkk0 hkk0 (by simp [refKind]) u1 v1 x1
    (by rw [u3, x3]; show ¬ _ > ((arrV _ n0 _).slots.size : Int); rw [arrV_size]; omega)
    (by rw [v3, x3]; show ¬ _ > ((arrV _ n1 _).slots.size : Int); rw [arrV_size]; omega)
    (fun vm₁ _ i hi => by
      have e : (vp_cell (X.2.1.1 0) (n0, .inl (w.2.2.1 q0))).slots.getD (isp.toNatClampNeg + i) .null = .int (w.2.2.1 q0 (isp.toNatClampNeg + i)) := by
        show (arrV _ n0 _).slots.getD _ _ = _
        rw [Array.getD_eq_getD_getElem?, arrV_read _ _ (by omega)]
        rfl
      exact ⟨by rw [e]; rfl, by rw [e]; exact trivial⟩)
    (g := F0 m pc als (.int iN :: .int idp :: .ref (zad X.2.1 q1) :: .int isp :: .ref (zad X.2.1 q0) :: st.map (zcv X.2.1))) rfl (hl.1.trans C.2.2.2.1.symm) (rest := st.map (zcv X.2.1)) rfl (by rw [C.2.1]; exact hd) (by omega) (by show 2 * 0 + _ + _ ≤ _; omega)
  have e1 : copied (vp_cell (X.2.1.1 0) (n0, .inl (w.2.2.1 q0))) (vp_cell (X.2.1.1 0) (n1, .inl (w.2.2.1 q1))) isp idp iN = vp_cell (X.2.1.1 0) (n1, .inl ((zcpI w q0 q1 sp dp n).2.2.1 q1)) := by
    refine (va_copied (fun z => .int z) _ _ (w.2.2.1 q0) (w.2.2.1 q1) (n0 := n0) (by omega)).trans ?_
    rw [vp_cell_i, u2, v2, x2]
    congr 1
    funext b
    unfold va_cpy zcpI
    simp
  rw [e1] at X' step
  have hla : zad X.2.1 q1 < H.size := (Array.getElem?_eq_some_iff.mp hc1).1
  have hq1 := (zD (G := X.2.1) a5).2 q1 _ (zconc_get hs1)
  obtain ⟨t, b1, b2⟩ := kk p e s m args below meth c _ _ als Qf R C (zHp_set (H1 := H.setIfInBounds (zad X.2.1 q1) (vp_cell (X.2.1.1 0) (n1, .inl ((zcpI w q0 q1 sp dp n).2.2.1 q1)))) hH hs1 rfl (E := .inl (X.2.1.1 0, n1, .inl ((zcpI w q0 q1 sp dp n).2.2.1 q1))) rfl
    (fun j sh hj => zce_congr (w := w) (w' := (zcpI w q0 q1 sp dp n)) (fun _ => rfl) (fun b => if_neg fun z => hj z.1) (fun _ => rfl) sh)
    (a3.set (zD a5) (zconc_get hs1) (show (H.setIfInBounds _ _)[zad X.2.1 q1]? = some _ by simp [Array.getElem?_setIfInBounds, hla]) (fun q hq => by simp [Array.getElem?_setIfInBounds, Ne.symm hq])) (by simp)
    ⟨by simp; exact a6.1, fun q g1 g2 => by
      rw [show (H.setIfInBounds (zad X.2.1 q1) (vp_cell (X.2.1.1 0) (n1, .inl ((zcpI w q0 q1 sp dp n).2.2.1 q1))))[q]? = H[q]? by simp [Array.getElem?_setIfInBounds, show ¬ zad X.2.1 q1 = q from fun z => g2 (by rw [← z]; exact hq1)]]
      exact a6.2.1 q g1 g2, fun q hq => by
      rcases List.mem_append.mp hq with h | h
      · exact a6.2.2 q h
      · obtain ⟨z, -, hz⟩ := List.mem_map.mp h
        rw [← hz]
        exact hq1⟩) hl F _ (by rw [← hT]; rfl) X'
  exact ⟨t, step t b1, b2⟩
theorem z_cpyl {X : zX} {M : zM} {cs : Nat × Nat} {pc pc' : Nat} {ls : List (Option Value)} {st : List Value} {w w' : zWd} {idx q0 q1 n0 n1 sp dp n : Nat} {isp idp iN : Int32} (hd : decode M.2.1 pc = .ok (.invokestatic idx, 3)) (hp : pc + 3 = pc') (hlk : Cond.methodLink M.1.cls idx arraycopyName ∈ zTb) (hm : zcpM) (hdp : 1 ≤ X.2.2.1) (hst : (st.map fun v => v.category).sum ≤ 8)
    (hs0 : w.1[q0]? = some (1, n0)) (hs1 : w.1[q1]? = some (1, n1)) (h1 : isp = nI sp) (h2 : idp = nI dp) (h3 : iN = nI n) (h4 : sp + n ≤ n0) (h5 : dp + n ≤ n1) (hb : n0 < 2 ^ 31 ∧ n1 < 2 ^ 31) (hw : zcpL w q0 q1 sp dp n = w')
    (kk : zWp X M cs pc' ls st w') : zWp X M cs pc ls (.int iN :: .int idp :: .ref q1 :: .int isp :: .ref q0 :: st) w := by
  subst hp
  subst hw
  intro p e s m args below meth c H locs als Qf R C hH hl F T hT XX
  obtain ⟨a1, a2, a3, a4, a5, a6⟩ := id hH
  have r1 := C.2.2.2.2.2.2.2.2.1
  have r2 := C.2.2.2.2.2.2.2.2.2.1
  have r3 := zst8 (G := X.2.1) hst
  have r4 : nativeFrameWords "java/lang/System" "arraycopy" 5 ≤ 40 := by decide +kernel
  obtain ⟨u1, u2, u3⟩ := nn_of h1 (by omega)
  obtain ⟨v1, v2, v3⟩ := nn_of h2 (by omega)
  obtain ⟨x1, x2, x3⟩ := nn_of h3 (by omega)
  have hc0 : H[zad X.2.1 q0]? = some (vp_cell (X.2.1.1 1) (n0, .inr (.inl (w.2.2.2 q0)))) := a3 q0 _ (zconc_get hs0)
  have hc1 : H[zad X.2.1 q1]? = some (vp_cell (X.2.1.1 1) (n1, .inr (.inl (w.2.2.2 q1)))) := a3 q1 _ (zconc_get hs1)
  obtain ⟨-, k0, hk0, cm0, hkk0⟩ := (a2.2 1 _ rfl).1 n0 (fun j => .long (w.2.2.2 q0 j))
  obtain ⟨vm', X', step⟩ := XX.arraycopy C.1 C.2.2.2.2.1 (C.2.2.2.2.2.1 _ hlk) (C.2.2.2.2.2.1 _ hm.1) (C.2.2.2.2.2.1 _ hm.2.1) (C.2.2.2.2.2.1 _ hm.2.2) (src := zad X.2.1 q0) (dst := zad X.2.1 q1) (cs := vp_cell (X.2.1.1 1) (n0, .inr (.inl (w.2.2.2 q0)))) (cd := vp_cell (X.2.1.1 1) (n1, .inr (.inl (w.2.2.2 q1)))) (srcPos := isp) (destPos := idp) (n := iN) (by rw [hT]; exact hc0) (by rw [hT]; exact hc1)
    (fun _ h => by cases h) (fun _ h => by cases h) (fun h => by cases h) (fun h => by cases h) hk0 hk0 hkk0 hkk0 (by simp [refKind]) u1 v1 x1
    (by rw [u3, x3]; show ¬ _ > ((arrV _ n0 _).slots.size : Int); rw [arrV_size]; omega)
    (by rw [v3, x3]; show ¬ _ > ((arrV _ n1 _).slots.size : Int); rw [arrV_size]; omega)
    (fun vm₁ _ i hi => by
      have e : (vp_cell (X.2.1.1 1) (n0, .inr (.inl (w.2.2.2 q0)))).slots.getD (isp.toNatClampNeg + i) .null = .long (w.2.2.2 q0 (isp.toNatClampNeg + i)) := by
        show (arrV _ n0 _).slots.getD _ _ = _
        rw [Array.getD_eq_getD_getElem?, arrV_read _ _ (by omega)]
        rfl
      exact ⟨by rw [e]; rfl, by rw [e]; exact trivial⟩)
    (g := F0 m pc als (.int iN :: .int idp :: .ref (zad X.2.1 q1) :: .int isp :: .ref (zad X.2.1 q0) :: st.map (zcv X.2.1))) rfl (hl.1.trans C.2.2.2.1.symm) (rest := st.map (zcv X.2.1)) rfl (by rw [C.2.1]; exact hd) (by omega) (by show 2 * 0 + _ + _ ≤ _; omega)
  have e1 : copied (vp_cell (X.2.1.1 1) (n0, .inr (.inl (w.2.2.2 q0)))) (vp_cell (X.2.1.1 1) (n1, .inr (.inl (w.2.2.2 q1)))) isp idp iN = vp_cell (X.2.1.1 1) (n1, .inr (.inl ((zcpL w q0 q1 sp dp n).2.2.2 q1))) := by
    refine (va_copied (fun z => .long z) _ _ (w.2.2.2 q0) (w.2.2.2 q1) (n0 := n0) (by omega)).trans ?_
    rw [vp_cell_l, u2, v2, x2]
    congr 1
    funext b
    unfold va_cpy zcpL
    simp
  rw [e1] at X' step
  have hla : zad X.2.1 q1 < H.size := (Array.getElem?_eq_some_iff.mp hc1).1
  have hq1 := (zD (G := X.2.1) a5).2 q1 _ (zconc_get hs1)
  obtain ⟨t, b1, b2⟩ := kk p e s m args below meth c _ _ als Qf R C (zHp_set (H1 := H.setIfInBounds (zad X.2.1 q1) (vp_cell (X.2.1.1 1) (n1, .inr (.inl ((zcpL w q0 q1 sp dp n).2.2.2 q1))))) hH hs1 rfl (E := .inl (X.2.1.1 1, n1, .inr (.inl ((zcpL w q0 q1 sp dp n).2.2.2 q1)))) rfl
    (fun j sh hj => zce_congr (w := w) (w' := (zcpL w q0 q1 sp dp n)) (fun _ => rfl) (fun _ => rfl) (fun b => if_neg fun z => hj z.1) sh)
    (a3.set (zD a5) (zconc_get hs1) (show (H.setIfInBounds _ _)[zad X.2.1 q1]? = some _ by simp [Array.getElem?_setIfInBounds, hla]) (fun q hq => by simp [Array.getElem?_setIfInBounds, Ne.symm hq])) (by simp)
    ⟨by simp; exact a6.1, fun q g1 g2 => by
      rw [show (H.setIfInBounds (zad X.2.1 q1) (vp_cell (X.2.1.1 1) (n1, .inr (.inl ((zcpL w q0 q1 sp dp n).2.2.2 q1)))))[q]? = H[q]? by simp [Array.getElem?_setIfInBounds, show ¬ zad X.2.1 q1 = q from fun z => g2 (by rw [← z]; exact hq1)]]
      exact a6.2.1 q g1 g2, fun q hq => by
      rcases List.mem_append.mp hq with h | h
      · exact a6.2.2 q h
      · obtain ⟨z, -, hz⟩ := List.mem_map.mp h
        rw [← hz]
        exact hq1⟩) hl F _ (by rw [← hT]; rfl) X'
  exact ⟨t, step t b1, b2⟩
theorem zt_POWERS {args : Array Value} {s : State} {A : Nat → Prop} (h : (Jvm.Cond.and given_1 narrow_1).before args s = true) (hts : ∀ w ∈ lw_tbl, w.before args s = true) (hA : ∀ a : Nat, a < s.heap.size → ¬ A a) : ∃ t : Nat, va_Z RX4 "POWERS" "[J" (.ref t) A s s.heap ∧ va_T .long t 10 (fun j => .long (zPOW j)) A s s.heap := by
  have hs := flat_of_before _ h
  have h1 : (Cond.arrayOf (.static RX4 "POWERS" "[J") .long).before args s = true := hs _ (by decide +kernel)
  have h2 : (Term.length (.static RX4 "POWERS" "[J")).eval args s none [] s = some (.int (Int32.ofNat 10)) := va_eqt (hs (Cond.eq (.length (.static RX4 "POWERS" "[J")) (.int 10)) (by decide +kernel))
  have h3 : ∀ j : Nat, j < 10 → (Term.elem (.static RX4 "POWERS" "[J") (.int (Int32.ofNat j))).eval args s none [] s = some (.long (zPOW j)) := by
    intro j hj
    match j, hj with
    | 0, _ => exact va_eqtl (hs (Cond.eq (.elem (.static RX4 "POWERS" "[J") (.int 0)) (.long (zPOW 0))) (by decide +kernel))
    | 1, _ => exact va_eqtl (hs (Cond.eq (.elem (.static RX4 "POWERS" "[J") (.int 1)) (.long (zPOW 1))) (by decide +kernel))
    | 2, _ => exact va_eqtl (hs (Cond.eq (.elem (.static RX4 "POWERS" "[J") (.int 2)) (.long (zPOW 2))) (by decide +kernel))
    | 3, _ => exact va_eqtl (hs (Cond.eq (.elem (.static RX4 "POWERS" "[J") (.int 3)) (.long (zPOW 3))) (by decide +kernel))
    | 4, _ => exact va_eqtl (hs (Cond.eq (.elem (.static RX4 "POWERS" "[J") (.int 4)) (.long (zPOW 4))) (by decide +kernel))
    | 5, _ => exact va_eqtl (hs (Cond.eq (.elem (.static RX4 "POWERS" "[J") (.int 5)) (.long (zPOW 5))) (by decide +kernel))
    | 6, _ => exact va_eqtl (hs (Cond.eq (.elem (.static RX4 "POWERS" "[J") (.int 6)) (.long (zPOW 6))) (by decide +kernel))
    | 7, _ => exact va_eqtl (hs (Cond.eq (.elem (.static RX4 "POWERS" "[J") (.int 7)) (.long (zPOW 7))) (by decide +kernel))
    | 8, _ => exact va_eqtl (hs (Cond.eq (.elem (.static RX4 "POWERS" "[J") (.int 8)) (.long (zPOW 8))) (by decide +kernel))
    | 9, _ => exact va_eqtl (hs (Cond.eq (.elem (.static RX4 "POWERS" "[J") (.int 9)) (.long (zPOW 9))) (by decide +kernel))
    | k + 10, h => omega
  obtain ⟨t, e1, e2⟩ := va_Tof (by decide) h1 h2 h3 hA
  exact ⟨t, va_Zof (hts (.laysStatic RX4 "POWERS" "[J") (by decide +kernel)) (hts (.initialized RX4) (by decide +kernel)) e1 hA, e2⟩
theorem zt_ABOVE {args : Array Value} {s : State} {A : Nat → Prop} (h : (Jvm.Cond.and given_1 narrow_1).before args s = true) (hts : ∀ w ∈ lw_tbl, w.before args s = true) (hA : ∀ a : Nat, a < s.heap.size → ¬ A a) : ∃ t : Nat, va_Z RX6 "ABOVE" "[I" (.ref t) A s s.heap ∧ va_T .int t 8 (fun j => .int (zABO j)) A s s.heap := by
  have hs := flat_of_before _ h
  have h1 : (Cond.arrayOf (.static RX6 "ABOVE" "[I") .int).before args s = true := hs _ (by decide +kernel)
  have h2 : (Term.length (.static RX6 "ABOVE" "[I")).eval args s none [] s = some (.int (Int32.ofNat 8)) := va_eqt (hs (Cond.eq (.length (.static RX6 "ABOVE" "[I")) (.int 8)) (by decide +kernel))
  have h3 : ∀ j : Nat, j < 8 → (Term.elem (.static RX6 "ABOVE" "[I") (.int (Int32.ofNat j))).eval args s none [] s = some (.int (zABO j)) := by
    intro j hj
    match j, hj with
    | 0, _ => exact va_eqt (hs (Cond.eq (.elem (.static RX6 "ABOVE" "[I") (.int 0)) (.int (zABO 0))) (by decide +kernel))
    | 1, _ => exact va_eqt (hs (Cond.eq (.elem (.static RX6 "ABOVE" "[I") (.int 1)) (.int (zABO 1))) (by decide +kernel))
    | 2, _ => exact va_eqt (hs (Cond.eq (.elem (.static RX6 "ABOVE" "[I") (.int 2)) (.int (zABO 2))) (by decide +kernel))
    | 3, _ => exact va_eqt (hs (Cond.eq (.elem (.static RX6 "ABOVE" "[I") (.int 3)) (.int (zABO 3))) (by decide +kernel))
    | 4, _ => exact va_eqt (hs (Cond.eq (.elem (.static RX6 "ABOVE" "[I") (.int 4)) (.int (zABO 4))) (by decide +kernel))
    | 5, _ => exact va_eqt (hs (Cond.eq (.elem (.static RX6 "ABOVE" "[I") (.int 5)) (.int (zABO 5))) (by decide +kernel))
    | 6, _ => exact va_eqt (hs (Cond.eq (.elem (.static RX6 "ABOVE" "[I") (.int 6)) (.int (zABO 6))) (by decide +kernel))
    | 7, _ => exact va_eqt (hs (Cond.eq (.elem (.static RX6 "ABOVE" "[I") (.int 7)) (.int (zABO 7))) (by decide +kernel))
    | k + 8, h => omega
  obtain ⟨t, e1, e2⟩ := va_Tof (by decide) h1 h2 h3 hA
  exact ⟨t, va_Zof (hts (.laysStatic RX6 "ABOVE" "[I") (by decide +kernel)) (hts (.initialized RX6) (by decide +kernel)) e1 hA, e2⟩
theorem zt_OWN {args : Array Value} {s : State} {A : Nat → Prop} (h : (Jvm.Cond.and given_1 narrow_1).before args s = true) (hts : ∀ w ∈ lw_tbl, w.before args s = true) (hA : ∀ a : Nat, a < s.heap.size → ¬ A a) : ∃ t : Nat, va_Z RX6 "OWN" "[I" (.ref t) A s s.heap ∧ va_T .int t 32 (fun j => .int (zOWN j)) A s s.heap := by
  have hs := flat_of_before _ h
  have h1 : (Cond.arrayOf (.static RX6 "OWN" "[I") .int).before args s = true := hs _ (by decide +kernel)
  have h2 : (Term.length (.static RX6 "OWN" "[I")).eval args s none [] s = some (.int (Int32.ofNat 32)) := va_eqt (hs (Cond.eq (.length (.static RX6 "OWN" "[I")) (.int 32)) (by decide +kernel))
  have h3 : ∀ j : Nat, j < 32 → (Term.elem (.static RX6 "OWN" "[I") (.int (Int32.ofNat j))).eval args s none [] s = some (.int (zOWN j)) := by
    intro j hj
    match j, hj with
    | 0, _ => exact va_eqt (hs (Cond.eq (.elem (.static RX6 "OWN" "[I") (.int 0)) (.int (zOWN 0))) (by decide +kernel))
    | 1, _ => exact va_eqt (hs (Cond.eq (.elem (.static RX6 "OWN" "[I") (.int 1)) (.int (zOWN 1))) (by decide +kernel))
    | 2, _ => exact va_eqt (hs (Cond.eq (.elem (.static RX6 "OWN" "[I") (.int 2)) (.int (zOWN 2))) (by decide +kernel))
    | 3, _ => exact va_eqt (hs (Cond.eq (.elem (.static RX6 "OWN" "[I") (.int 3)) (.int (zOWN 3))) (by decide +kernel))
    | 4, _ => exact va_eqt (hs (Cond.eq (.elem (.static RX6 "OWN" "[I") (.int 4)) (.int (zOWN 4))) (by decide +kernel))
    | 5, _ => exact va_eqt (hs (Cond.eq (.elem (.static RX6 "OWN" "[I") (.int 5)) (.int (zOWN 5))) (by decide +kernel))
    | 6, _ => exact va_eqt (hs (Cond.eq (.elem (.static RX6 "OWN" "[I") (.int 6)) (.int (zOWN 6))) (by decide +kernel))
    | 7, _ => exact va_eqt (hs (Cond.eq (.elem (.static RX6 "OWN" "[I") (.int 7)) (.int (zOWN 7))) (by decide +kernel))
    | 8, _ => exact va_eqt (hs (Cond.eq (.elem (.static RX6 "OWN" "[I") (.int 8)) (.int (zOWN 8))) (by decide +kernel))
    | 9, _ => exact va_eqt (hs (Cond.eq (.elem (.static RX6 "OWN" "[I") (.int 9)) (.int (zOWN 9))) (by decide +kernel))
    | 10, _ => exact va_eqt (hs (Cond.eq (.elem (.static RX6 "OWN" "[I") (.int 10)) (.int (zOWN 10))) (by decide +kernel))
    | 11, _ => exact va_eqt (hs (Cond.eq (.elem (.static RX6 "OWN" "[I") (.int 11)) (.int (zOWN 11))) (by decide +kernel))
    | 12, _ => exact va_eqt (hs (Cond.eq (.elem (.static RX6 "OWN" "[I") (.int 12)) (.int (zOWN 12))) (by decide +kernel))
    | 13, _ => exact va_eqt (hs (Cond.eq (.elem (.static RX6 "OWN" "[I") (.int 13)) (.int (zOWN 13))) (by decide +kernel))
    | 14, _ => exact va_eqt (hs (Cond.eq (.elem (.static RX6 "OWN" "[I") (.int 14)) (.int (zOWN 14))) (by decide +kernel))
    | 15, _ => exact va_eqt (hs (Cond.eq (.elem (.static RX6 "OWN" "[I") (.int 15)) (.int (zOWN 15))) (by decide +kernel))
    | 16, _ => exact va_eqt (hs (Cond.eq (.elem (.static RX6 "OWN" "[I") (.int 16)) (.int (zOWN 16))) (by decide +kernel))
    | 17, _ => exact va_eqt (hs (Cond.eq (.elem (.static RX6 "OWN" "[I") (.int 17)) (.int (zOWN 17))) (by decide +kernel))
    | 18, _ => exact va_eqt (hs (Cond.eq (.elem (.static RX6 "OWN" "[I") (.int 18)) (.int (zOWN 18))) (by decide +kernel))
    | 19, _ => exact va_eqt (hs (Cond.eq (.elem (.static RX6 "OWN" "[I") (.int 19)) (.int (zOWN 19))) (by decide +kernel))
    | 20, _ => exact va_eqt (hs (Cond.eq (.elem (.static RX6 "OWN" "[I") (.int 20)) (.int (zOWN 20))) (by decide +kernel))
    | 21, _ => exact va_eqt (hs (Cond.eq (.elem (.static RX6 "OWN" "[I") (.int 21)) (.int (zOWN 21))) (by decide +kernel))
    | 22, _ => exact va_eqt (hs (Cond.eq (.elem (.static RX6 "OWN" "[I") (.int 22)) (.int (zOWN 22))) (by decide +kernel))
    | 23, _ => exact va_eqt (hs (Cond.eq (.elem (.static RX6 "OWN" "[I") (.int 23)) (.int (zOWN 23))) (by decide +kernel))
    | 24, _ => exact va_eqt (hs (Cond.eq (.elem (.static RX6 "OWN" "[I") (.int 24)) (.int (zOWN 24))) (by decide +kernel))
    | 25, _ => exact va_eqt (hs (Cond.eq (.elem (.static RX6 "OWN" "[I") (.int 25)) (.int (zOWN 25))) (by decide +kernel))
    | 26, _ => exact va_eqt (hs (Cond.eq (.elem (.static RX6 "OWN" "[I") (.int 26)) (.int (zOWN 26))) (by decide +kernel))
    | 27, _ => exact va_eqt (hs (Cond.eq (.elem (.static RX6 "OWN" "[I") (.int 27)) (.int (zOWN 27))) (by decide +kernel))
    | 28, _ => exact va_eqt (hs (Cond.eq (.elem (.static RX6 "OWN" "[I") (.int 28)) (.int (zOWN 28))) (by decide +kernel))
    | 29, _ => exact va_eqt (hs (Cond.eq (.elem (.static RX6 "OWN" "[I") (.int 29)) (.int (zOWN 29))) (by decide +kernel))
    | 30, _ => exact va_eqt (hs (Cond.eq (.elem (.static RX6 "OWN" "[I") (.int 30)) (.int (zOWN 30))) (by decide +kernel))
    | 31, _ => exact va_eqt (hs (Cond.eq (.elem (.static RX6 "OWN" "[I") (.int 31)) (.int (zOWN 31))) (by decide +kernel))
    | k + 32, h => omega
  obtain ⟨t, e1, e2⟩ := va_Tof (by decide) h1 h2 h3 hA
  exact ⟨t, va_Zof (hts (.laysStatic RX6 "OWN" "[I") (by decide +kernel)) (hts (.initialized RX6) (by decide +kernel)) e1 hA, e2⟩
