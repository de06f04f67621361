/-! ===== a call with more on the stack below it; reading what was just stored ===== -/
theorem xI_self {I : zIM} {L : zLM} {k i : Nat} {v : Int32} : (zs (xI I k i v) L).2.2.1 k i = v := if_pos ⟨rfl, rfl⟩
theorem xL_self {I : zIM} {L : zLM} {k i : Nat} {v : Int64} : (zs I (xL L k i v)).2.2.2 k i = v := if_pos ⟨rfl, rfl⟩
theorem z_callVw {X : zX} {M : zM} {cs : Nat × Nat} {pc pc' : Nat} {ls : List (Option Value)} {st : List Value} {w : zWd} {idx d' mc' ms' n b ci : Nat} {M' : zM} {As st0 : List Value} {Q' : Option Value → zWd → Prop} (hd : decode M.2.1 pc = .ok (.invokevirtual idx, 3)) (hp : pc + 3 = pc') (hlk : Cond.methodLink M.1.cls idx M'.1 ∈ zTb) (hM : zMeV M' n) (hC : zCn X.1 X.2.1 d' M' mc' ms' (.ref b :: As) w Q')
    (hs : w.1[b]? = some (3, ci)) (hci : ci < 10) (hcl : zR ci = M'.1.cls) (hn : As.length = n) (hdp : d' + 1 ≤ X.2.2.1) (hst : (st.map fun v => v.category).sum ≤ 16) (hml : M'.2.2.1 ≤ 30) (hcs : cs.1 + mc' ≤ X.2.2.2.1 ∧ cs.2 + ms' ≤ X.2.2.2.2.1) (hsk : st0 = As.reverse ++ .ref b :: st)
    (kk : ∀ r w', Q' r w' → zWp X M (cs.1 + mc', cs.2 + ms') pc' ls (r.toList ++ st) w') : zWp X M cs pc ls st0 w := by
  subst hp
  subst hsk
  intro p e s m args below meth c H locs als Qf R C hH hl F
  rw [zmapr]
  obtain ⟨⟨m1, m2, m3, m4⟩, m5, m6⟩ := hM
  have h1 := C.2.2.2.2.2.2.2.2.1
  have h2 := C.2.2.2.2.2.2.2.2.2.1
  have hst' : ((st.map (zcv X.2.1)).map fun v => v.category).sum ≤ 16 := by
    rw [List.map_map, show ((fun v : Value => v.category) ∘ zcv X.2.1) = (fun v => v.category) from funext fun v => zcv_cat _ v]
    exact hst
  have hlen : ∀ sig, parseMethodDescriptor M'.1.desc = some sig → (As.map (zcv X.2.1)).length = sig.parameters.length := by
    intro sig hsig
    have h3 := m3.2.2
    rw [hsig] at h3
    rw [List.length_map, hn]
    exact (Option.some.inj h3).symm
  obtain ⟨cellB, hcB, hoB, hclB⟩ := va_recv hH.2.1 hH.2.2.1 (zcls_at ci hci) (zobj hci hs)
  have hK : Back X.1 R p e below s args M'.1 3 16 (PreOf R mc' ms' (va_Pc ((.ref b :: As).map (zcv X.2.1)) (zPre X.2.1 w))) (PostOf (fun _ => zQa X.2.1 Q') mc' ms' (zA X.2.1)) :=
    back_of (bytes := M'.2.1) (maxL := M'.2.2.1) (ret := M'.2.2.2) hC (zblind _) rfl rfl (by show d' + 1 ≤ _; omega) (by show 16 + (M'.2.2.1 + 11) + 64 * d' ≤ _; omega) (pay_in C.2.2.2.2.2.1 (zGI m2)) List.mem_cons_self (fun a' U hW => word_at hW (Or.inl (by first | rfl | simp [Cond.onTables, Cond.keeps, Cond.steady])) (C.2.2.2.2.2.1 _ m1))
  refine zrun C hH hl F ?_ kk
  intro T hT XX
  obtain ⟨v, vm₁, ⟨U', l2, c2, s2⟩, hW₁, X', ⟨g', mk, t, L, e1, e2, hq, h1, hL, h2, h3⟩, st'⟩ := callV XX C.1 (C := zR ci) (bytes := M'.2.1) (maxL := M'.2.2.1) (ret := M'.2.2.2) C.2.2.2.2.1 (C.2.2.2.2.2.1 _ hlk) (C.2.2.2.2.2.1 _ m5) (by rw [hcl]; exact C.2.2.2.2.2.1 _ m6) (C.2.2.2.2.2.1 _ m2) ⟨m3.1, m3.2.1⟩ hK (by rw [hT]; exact hcB) hoB hclB (g := F0 m pc als ((As.map (zcv X.2.1)).reverse ++ .ref (zad X.2.1 b) :: st.map (zcv X.2.1))) rfl (hl.1.trans C.2.2.2.1.symm) (argsL := As.map (zcv X.2.1)) (rest := st.map (zcv X.2.1)) hlen rfl (by show 2 * 0 + _ ≤ _; omega) (by rw [C.2.1]; exact hd)
    (fun vm₁ hW₁ => ⟨Nat.le_trans hcs.1 C.2.2.2.2.2.2.2.2.2.2.1, Nat.le_trans hcs.2 C.2.2.2.2.2.2.2.2.2.2.2, rfl, zPre.of (U := T.setVm vm₁) hH hT hW₁⟩)
  dsimp only [Pt.U, Pt.locs, Pt.cells, Pt.slots] at X' e1 e2 h1 h2 h3 st'
  subst h1; subst h2; subst h3
  exact ⟨v, (T.setVm vm₁).calling g' mk _, t, U', L, hT, X', hL, e1, e2, hq, st'⟩
