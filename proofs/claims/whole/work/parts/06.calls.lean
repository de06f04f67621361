/-! ===== rows: making, calls, returns; a contract out of a walk ===== -/
def zal (w : zWd) (sh : zSh) : zWd := (w.1 ++ [sh], fun a b => if a = w.1.length then none else w.2.1 a b, fun a b => if a = w.1.length then 0 else w.2.2.1 a b, fun a b => if a = w.1.length then 0 else w.2.2.2 a b)
theorem zal_conc {G : zG} {w : zWd} {sh : zSh} : zconc G (zal w sh) = zconc G w ++ [(zad G w.1.length, zce G (zal w sh) w.1.length sh)] := by
  apply List.ext_getElem?
  intro j
  have hl : (zal w sh).1 = w.1 ++ [sh] := rfl
  by_cases h1 : j < w.1.length
  · have e := List.getElem?_eq_getElem h1
    rw [List.getElem?_append_left (by rw [zconc_len]; exact h1), zconc_get e, zconc_get (w := zal w sh) (sh := w.1[j]) (by rw [hl, List.getElem?_append_left h1, e])]
    congr 2
    exact zce_congr (w := w) (w' := zal w sh) (fun b => if_neg (by omega)) (fun b => if_neg (by omega)) (fun b => if_neg (by omega)) _
  · rw [List.getElem?_append_right (by rw [zconc_len]; omega), zconc_len]
    by_cases h2 : j = w.1.length
    · subst h2
      rw [Nat.sub_self, zconc_get (w := zal w sh) (sh := sh) (by rw [hl, List.getElem?_append_right (Nat.le_refl _), Nat.sub_self]; rfl)]
      rfl
    · rw [List.getElem?_eq_none (by rw [zconc_len, hl, List.length_append]; simp; omega), List.getElem?_eq_none (by simp; omega)]
theorem zHp_al {G : zG} {w : zWd} {sh : zSh} {s : State} {H H1 : Heap} {locs : List Loc} (h : zHp G w s H locs) (hl : w.1.length < 1000) (hz : H1.size = H.size + 1) (ho : ∀ q, q < H.size → H1[q]? = H[q]?)
    (hc : va_at G.2.1 zcls (zad G w.1.length, zce G (zal w sh) w.1.length sh) H1) : zHp G (zal w sh) s H1 locs := by
  obtain ⟨a1, a2, a3, a4, a5, a6⟩ := h
  refine ⟨a1, a2, ?_, ?_, ?_, ⟨Nat.le_trans a6.1 (by omega), fun q h1 h2 => (ho q (Nat.lt_of_lt_of_le h1 a6.1)).trans (a6.2.1 q h1 h2), a6.2.2⟩⟩
  · rw [zal_conc]
    refine (a3.kept fun k q hk => ho q.1 (a3 k q hk).lt).app fun k q hk => ?_
    have hz : k < 1 := (List.getElem?_eq_some_iff.mp hk).1
    rw [show k = 0 by omega] at hk
    cases hk
    exact hc
  · rw [hz, a4]
    show G.2.2.1 + w.1.length + 1 = G.2.2.1 + (w.1 ++ [sh]).length
    rw [List.length_append]
    rfl
  · show (w.1 ++ [sh]).length ≤ 1000
    rw [List.length_append]
    show w.1.length + 1 ≤ 1000
    omega
theorem zborn : ∀ ci, ci < 10 → ∀ j, j < zN ci → defaultValue (zty ci j) = (match zkof (zty ci j) with | 0 => Value.int 0 | 1 => Value.long 0 | _ => Value.null) := zlt10 (by decide +kernel) (by decide +kernel) (by decide +kernel) (by decide +kernel) (by decide +kernel) (by decide +kernel) (by decide +kernel) (by decide +kernel) (by decide +kernel) (by decide +kernel)
section ZC
variable {X : zX} {M : zM} {cs : Nat × Nat} {pc pc' : Nat} {ls : List (Option Value)} {st : List Value} {w : zWd}
theorem z_new {idx ci : Nat} (hd : decode M.2.1 pc = .ok (.new idx, 3)) (hp : pc + 3 = pc') (hci : ci < 10) (hlk : Cond.classLink M.1.cls idx (zR ci) ∈ zTb) (hin : Cond.instantiable (zR ci) (zN ci) ∈ zTb) (hini : Cond.initialized (zR ci) ∈ zTb)
    (hl0 : w.1.length < 1000) (hcs : cs.1 + 1 ≤ X.2.2.2.1 ∧ cs.2 + zN ci ≤ X.2.2.2.2.1) (kk : zWp X M (cs.1 + 1, cs.2 + zN ci) pc' ls (.ref w.1.length :: st) (zal w (3, ci))) : zWp X M cs pc ls st w := by
  subst hp
  intro p e s m args below meth c H locs als Qf R C hH hl F
  obtain ⟨a1, a2, a3, a4, a5, a6⟩ := id hH
  have hKn := a2.1 ci _ (zcls_at ci hci)
  refine W.newcK C.1 C.2.1 C.2.2.2.2.1 (C.2.2.2.2.2.1 _ hlk) (C.2.2.2.2.2.1 _ hin) (C.2.2.2.2.2.1 _ hini) rfl hd (Nat.le_trans hcs.1 C.2.2.2.2.2.2.2.2.2.2.1) (Nat.le_trans hcs.2 C.2.2.2.2.2.2.2.2.2.2.2) hKn.2.1 rfl fun H1 kC hkC e1 z1 o1 => ?_
  have ea : zad X.2.1 w.1.length = H.size := by rw [zad_lt hl0, a4]
  have hk := kk p e s m args below meth c H1 locs als Qf R C (zHp_al hH hl0 z1 o1 ?_) hl F
  · rw [List.map_cons, show zcv X.2.1 (.ref w.1.length) = .ref H.size from congrArg Value.ref ea] at hk
    exact hk
  · rw [ea]
    refine ⟨_, zcls_at ci hci, (u_born (zty ci) C.2.2.2.2.2.1 (zin ci hci) hKn hkC e1 (zty_ok ci hci)).to fun j hj => ?_⟩
    show defaultValue (zty ci j) = vp_V ((List.range (zN ci)).map (zfv X.2.1 (zal w (3, ci)) w.1.length ci)) j
    unfold vp_V
    rw [List.getD_eq_getElem?_getD, zfs_at hj, zborn ci hci j hj]
    show _ = zfv X.2.1 (zal w (3, ci)) w.1.length ci j
    unfold zfv zal
    simp only [if_true]
    split <;> simp_all [va_rf]
theorem z_newi {n : Int32} {N : Nat} (hd : decode M.2.1 pc = .ok (.newarray .int, 2)) (hp : pc + 2 = pc') (hn : n = nI N) (hN : N ≤ 100000) (har : Cond.arrayClass .int ∈ zTb)
    (hl0 : w.1.length < 1000) (hcs : cs.1 + 1 ≤ X.2.2.2.1 ∧ cs.2 + N ≤ X.2.2.2.2.1) (kk : zWp X M (cs.1 + 1, cs.2 + N) pc' ls (.ref w.1.length :: st) (zal w (0, N))) : zWp X M cs pc ls (.int n :: st) w := by
  subst hp
  intro p e s m args below meth c H locs als Qf R C hH hl F
  obtain ⟨a1, a2, a3, a4, a5, a6⟩ := id hH
  have ec : n.toNatClampNeg = N := by rw [hn]; exact nI_clamp (by omega)
  have ea : zad X.2.1 w.1.length = H.size := by rw [zad_lt hl0, a4]
  refine va_newaK C.1 C.2.1 (atype := .int) (C.2.2.2.2.2.1 _ har) rfl hd rfl (by rw [hn]; exact nI_pos (by omega)) ec (by show N * 4 ≤ _; omega) (Nat.le_trans hcs.1 C.2.2.2.2.2.2.2.2.2.2.1) (Nat.le_trans hcs.2 C.2.2.2.2.2.2.2.2.2.2.2) rfl fun H1 cA e1 z1 o1 hAr hNm => ?_
  have hcA : cA = X.2.1.1 0 := by
    have h2 : s.vm.findClass ("[" ++ FieldType.int.toString) = some (X.2.1.1 0) := (a2.2 0 _ rfl).2
    exact Option.some.inj (hNm.symm.trans h2)
  have hk := kk p e s m args below meth c H1 locs als Qf R C (zHp_al hH hl0 z1 o1 ?_) hl F
  · rw [List.map_cons, show zcv X.2.1 (.ref w.1.length) = .ref H.size from congrArg Value.ref ea] at hk
    exact hk
  · rw [ea]
    show H1[H.size]? = some (vp_cell (X.2.1.1 0) (N, .inl ((zal w (0, N)).2.2.1 w.1.length)))
    rw [e1, vp_cell_i, hcA]
    unfold zal
    simp only [if_true]
    rfl
theorem z_newl {n : Int32} {N : Nat} (hd : decode M.2.1 pc = .ok (.newarray .long, 2)) (hp : pc + 2 = pc') (hn : n = nI N) (hN : N ≤ 100000) (har : Cond.arrayClass .long ∈ zTb)
    (hl0 : w.1.length < 1000) (hcs : cs.1 + 1 ≤ X.2.2.2.1 ∧ cs.2 + N ≤ X.2.2.2.2.1) (kk : zWp X M (cs.1 + 1, cs.2 + N) pc' ls (.ref w.1.length :: st) (zal w (1, N))) : zWp X M cs pc ls (.int n :: st) w := by
  subst hp
  intro p e s m args below meth c H locs als Qf R C hH hl F
  obtain ⟨a1, a2, a3, a4, a5, a6⟩ := id hH
  have ec : n.toNatClampNeg = N := by rw [hn]; exact nI_clamp (by omega)
  have ea : zad X.2.1 w.1.length = H.size := by rw [zad_lt hl0, a4]
  refine va_newaK C.1 C.2.1 (atype := .long) (C.2.2.2.2.2.1 _ har) rfl hd rfl (by rw [hn]; exact nI_pos (by omega)) ec (by show N * 8 ≤ _; omega) (Nat.le_trans hcs.1 C.2.2.2.2.2.2.2.2.2.2.1) (Nat.le_trans hcs.2 C.2.2.2.2.2.2.2.2.2.2.2) rfl fun H1 cA e1 z1 o1 hAr hNm => ?_
  have hcA : cA = X.2.1.1 1 := by
    have h2 : s.vm.findClass ("[" ++ FieldType.long.toString) = some (X.2.1.1 1) := (a2.2 1 _ rfl).2
    exact Option.some.inj (hNm.symm.trans h2)
  have hk := kk p e s m args below meth c H1 locs als Qf R C (zHp_al hH hl0 z1 o1 ?_) hl F
  · rw [List.map_cons, show zcv X.2.1 (.ref w.1.length) = .ref H.size from congrArg Value.ref ea] at hk
    exact hk
  · rw [ea]
    show H1[H.size]? = some (vp_cell (X.2.1.1 1) (N, .inr (.inl ((zal w (1, N)).2.2.2 w.1.length))))
    rw [e1, vp_cell_l, hcA]
    unfold zal
    simp only [if_true]
    rfl
theorem z_newq {n : Int32} {idx N : Nat} (hd : decode M.2.1 pc = .ok (.anewarray idx, 3)) (hp : pc + 3 = pc') (hn : n = nI N) (hN : N ≤ 100000) (hlk : Cond.classLink M.1.cls idx RX5 ∈ zTb)
    (hl0 : w.1.length < 1000) (hcs : cs.1 + 1 ≤ X.2.2.2.1 ∧ cs.2 + N ≤ X.2.2.2.2.1) (kk : zWp X M (cs.1 + 1, cs.2 + N) pc' ls (.ref w.1.length :: st) (zal w (2, N))) : zWp X M cs pc ls (.int n :: st) w := by
  subst hp
  intro p e s m args below meth c H locs als Qf R C hH hl F
  obtain ⟨a1, a2, a3, a4, a5, a6⟩ := id hH
  have ec : n.toNatClampNeg = N := by rw [hn]; exact nI_clamp (by omega)
  subst ec
  have ea : zad X.2.1 w.1.length = H.size := by rw [zad_lt hl0, a4]
  refine W.anew C.1 C.2.1 C.2.2.2.2.1 (C.2.2.2.2.2.1 _ hlk) (va_AO.use a1.1.2.1) rfl hd rfl (by rw [hn]; exact nI_pos (by omega)) (by omega) (Nat.le_trans hcs.1 C.2.2.2.2.2.2.2.2.2.2.1) (Nat.le_trans hcs.2 C.2.2.2.2.2.2.2.2.2.2.2) fun cA kA comp f1 f2 f3 f4 => ?_
  generalize hH1 : H.push ({ cls := cA, slots := Array.replicate n.toNatClampNeg .null, vm := .none } : Cell) = H1
  have z1 : H1.size = H.size + 1 := by rw [← hH1, Array.size_push]
  have e1 : H1[H.size]? = some (arrV cA n.toNatClampNeg (fun _ => .null)) := by rw [← hH1, Array.getElem?_push_size, ← arrV_new]
  have o1 : ∀ q : Nat, q < H.size → H1[q]? = H[q]? := fun q hq => by rw [← hH1, Array.getElem?_push, if_neg (Nat.ne_of_lt hq)]
  have hcA : cA = X.2.1.1 2 := by
    obtain ⟨_, _, _, _, _, h2⟩ := (a2.2 2 _ rfl).2
    exact Option.some.inj (f1.symm.trans h2)
  have hk := kk p e s m args below meth c H1 locs als Qf R C (zHp_al hH hl0 z1 o1 ?_) hl F
  · rw [List.map_cons, show zcv X.2.1 (.ref w.1.length) = .ref H.size from congrArg Value.ref ea] at hk
    exact hk
  · rw [ea]
    show H1[H.size]? = some (vp_cell (X.2.1.1 2) (n.toNatClampNeg, .inr (.inr (.inr (.inr (fun j => ((zal w (2, n.toNatClampNeg)).2.1 w.1.length j).map (zad X.2.1)))))))
    rw [e1, vp_cell_q, hcA]
    unfold zal
    simp only [if_true]
    rfl
theorem z_aast {q n j v : Nat} {i : Int32} {w' : zWd} (hd : decode M.2.1 pc = .ok (.aastore, 1)) (hp : pc + 1 = pc') (hs : w.1[q]? = some (2, n)) (hn : n < 2 ^ 31) (hi : i = nI j) (hj : j < n) (hv : w.1[v]? = some (3, 5)) (hw : zuR w q j (some v) = w')
    (kk : zWp X M cs pc' ls st w') : zWp X M cs pc ls (.ref v :: .int i :: .ref q :: st) w := by
  subst hp
  subst hw
  intro p e s m args below meth c H locs als Qf R C hH hl F
  obtain ⟨a1, a2, a3, a4, a5, a6⟩ := id hH
  have ec : i.toNatClampNeg = j := by rw [hi]; exact nI_clamp (Nat.lt_trans hj hn)
  obtain ⟨r', hr', cellV, g1, g2, g3, -⟩ := a3 v _ (zobj (by decide) hv)
  have hcls := (a2.1 5 _ (zcls_at 5 (by decide))).2
  obtain ⟨kA, comp, k1, k2, k3, -⟩ := (a2.2 2 _ rfl).2
  have hcomp : comp = X.2.1.2.1.1 5 := Option.some.inj (k3.symm.trans hcls.1)
  subst hcomp
  obtain ⟨kC, hkC, -⟩ := hcls.2
  have hin := zin_of hi hj hn
  refine W.aast C.1 C.2.1 (a3 q _ (zconc_get hs)) (fun q h => by cases h) (fun h => by cases h) k1 k2 rfl hkC ⟨fun z => hin (Or.inl z), by show _ < (arrV _ _ _).slots.size; rw [arrV_size, ec]; exact hj⟩ g1 (fun q h => by rw [g3] at h; cases h) (by rw [g2]; exact hkC) (by rw [g2]; exact va_assign hcls) rfl rfl hd fun H1 e z oq => ?_
  refine kk p _ s m args below meth c H1 _ als Qf R C (zHp_set hH hs rfl (E := .inl (X.2.1.1 2, n, .inr (.inr (.inr (.inr (fun b => ((zuR w q j (some v)).2.1 q b).map (zad X.2.1))))))) rfl (fun j sh hj => zuR_off j sh hj) ?_ z (a6.put z oq ((zD a5).2 q _ (zconc_get hs)))) hl F
  refine a3.set (zD a5) (zconc_get hs) ?_ oq
  show H1[zad X.2.1 q]? = some (vp_cell _ _)
  rw [e]
  show some ((vp_cell (X.2.1.1 2) (n, .inr (.inr (.inr (.inr (fun b => (w.2.1 q b).map (zad X.2.1))))))).setSlot _ _) = _
  rw [vp_cell_q, vp_cell_q, arrV_store, ec]
  congr 2
  funext b
  by_cases hb : b = j
  · subst hb; simp [updV, zuR, va_rf]
  · simp [updV, zuR, hb]
theorem z_oinit {q idx : Nat} (hd : decode M.2.1 pc = .ok (.invokespecial idx, 3)) (hp : pc + 3 = pc') (hlk : Cond.methodLink M.1.cls idx objectInit ∈ zTb) (hin : Cond.instanceMethod objectInit ∈ zTb) (hco : Cond.code objectInit ⟨#[0xb1]⟩ 1 none ∈ zTb) (hdp : 1 ≤ X.2.2.1) (hst : (st.map fun v => v.category).sum ≤ 8)
    (kk : zWp X M cs pc' ls st w) : zWp X M cs pc ls (.ref q :: st) w := by
  subst hp
  intro p e s m args below meth c H locs als Qf R C hH hl F
  have hk := kk p e s m args below meth c H locs als Qf R C hH hl F
  have hst' : ((st.map (zcv X.2.1)).map fun v => v.category).sum ≤ 8 := by
    rw [List.map_map, show ((fun v : Value => v.category) ∘ zcv X.2.1) = (fun v => v.category) from funext fun v => zcv_cat _ v]
    exact hst
  have h1 := C.2.2.2.2.2.2.2.2.1
  have h2 := C.2.2.2.2.2.2.2.2.2.1
  exact W.objInit C.1 C.2.1 C.2.2.2.2.1 (C.2.2.2.2.2.1 _ hlk) (C.2.2.2.2.2.1 _ hin) (C.2.2.2.2.2.1 _ hco) rfl (hl.1.trans C.2.2.2.1.symm) rfl hd (by omega) (by show 2 * 0 + _ + 12 ≤ _; omega) hk
/-! calls -/
theorem zPre.of {G : zG} {w : zWd} {s U : State} {H : Heap} {locs : List Loc} (h : zHp G w s H locs) (hU : U.heap = H) (hW : s.WarmedH U.vm) : zPre G w U := by
  obtain ⟨a1, a2, a3, a4, a5, a6⟩ := h
  subst hU
  exact ⟨(a1.moved hW).kept a6.1 a6.2.1, va_K.moved hW.alike a2, a3, a4, a5⟩
theorem zblind {G : zG} {w : zWd} (av : List Value) : FrameBlind (va_Pc av (zPre G w)) := by
  intro a U g mk h
  obtain ⟨h0, h1, h2, h3, h4, h5⟩ := h
  exact ⟨h0, h1.moved (u := U) (State.WarmedH.refl U), va_K.moved (u := U) (Vm.Alike.refl U.vm) h2, h3, h4, h5⟩
def zQa (G : zG) (Q : Option Value → zWd → Prop) (st : State) (o : Outcome) (t : State) : Prop := (∃ (r : Option Value) (w' : zWd), o = .returned (r.map (zcv G)) ∧ Q r w' ∧ zPre G w' t) ∧ va_F (zA G) st t
/-- behind a call -/
theorem zrun {Q' : Option Value → zWd → Prop} {mc' ms' : Nat} {p : Program} {e : Env} {s : State} {m : MethodId} {args : Array Value} {below : List Frame} {meth : Method} {c : Code} {H : Heap} {locs : List Loc} {als : Array Slot} {Qf : State → Prop} {R : Room} {st0 : List Value}
    (C : zCx X M p s m args meth c R) (hH : zHp X.2.1 w s H locs) (hl : lv_has als M.2.2.1 (zll X.2.1 0 ls))
    (F : ∀ (r : Option Value) (w' : zWd) (H' : Heap) (locs' : List Loc) (pc' : Nat) (als' : Array Slot), X.2.2.2.2.2 r w' → zHp X.2.1 w' s H' locs' → zRet M pc' r →
      W p X.1 e R s m args below meth c H' locs' X.2.2.2.1 X.2.2.2.2.1 Qf (F0 m pc' als' (r.map (zcv X.2.1)).toList))
    (hr : va_Run p X.1 e R s m args below meth c H locs cs.1 cs.2 mc' ms' (F0 m pc als st0) (st.map (zcv X.2.1)) (zQa X.2.1 Q') (zA X.2.1))
    (kk : ∀ r w', Q' r w' → zWp X M (cs.1 + mc', cs.2 + ms') (pc + 3) ls (r.toList ++ st) w') : W p X.1 e R s m args below meth c H locs cs.1 cs.2 Qf (F0 m pc als st0) := by
  intro T hT XX
  obtain ⟨v, st₀, t, T', L, h0, X', hL, e1, e2, ⟨⟨r, w', hv, hq, b1, b2, b3, b4, b5⟩, hz, hk⟩, stp⟩ := hr T hT XX
  cases hv
  rw [h0] at hz hk
  obtain ⟨a1, a2, a3, a4, a5, a6⟩ := id hH
  obtain ⟨t2, c1, c2⟩ := kk r w' hq p e s m args below meth c T'.heap (locs ++ L) als Qf R C
    ⟨a1, a2, by rw [e1]; exact b3, by rw [e1]; exact b4, b5, ⟨Nat.le_trans a6.1 (by rw [e1]; exact hz), fun q h1 h2 => by rw [e1, hk q (Nat.lt_of_lt_of_le h1 a6.1) h2]; exact a6.2.1 q h1 h2, fun q hq => by
      rcases List.mem_append.mp hq with h | h
      · exact a6.2.2 q h
      · exact hL q h⟩⟩ hl F T' rfl X'
  refine ⟨t2, stp t2 ?_, c2⟩
  have ee : (r.toList ++ st).map (zcv X.2.1) = (r.map (zcv X.2.1)).toList ++ st.map (zcv X.2.1) := by cases r <;> rfl
  rw [ee] at c1
  exact c1
/-- what the tables say of a method, and of a call of it -/
def zMe (M' : zM) (n : Nat) : Prop := Cond.initialized M'.1.cls ∈ zTb ∧ Cond.code M'.1 M'.2.1 M'.2.2.1 M'.2.2.2 ∈ zTb ∧ (M'.1.cls ≠ "java/lang/invoke/MethodHandle" ∧ M'.1.cls ≠ "java/lang/invoke/VarHandle" ∧ (parseMethodDescriptor M'.1.desc).map (fun d => d.parameters.length) = some n) ∧ M'.2.2.1 ≤ 40
def zMeV (M' : zM) (n : Nat) : Prop := zMe M' n ∧ Cond.instanceMethod M'.1 ∈ zTb ∧ Cond.selects M'.1.cls M'.1 M'.1 ∈ zTb
def zMeS (M' : zM) (n : Nat) : Prop := zMe M' n ∧ Cond.static M'.1 ∈ zTb
def zMeI (M' : zM) (n : Nat) : Prop := zMe M' n ∧ Cond.instanceMethod M'.1 ∈ zTb ∧ M'.1.name = "<init>" ∧ M'.2.2.2 = none
theorem zst8 {G : zG} {st : List Value} (hst : (st.map fun v => v.category).sum ≤ 8) : ((st.map (zcv G)).map fun v => v.category).sum ≤ 8 := by
  rw [List.map_map, show ((fun v : Value => v.category) ∘ zcv G) = (fun v => v.category) from funext fun v => zcv_cat _ v]
  exact hst
theorem zmapr {G : zG} (As : List Value) (b : Nat) (st : List Value) : (As.reverse ++ .ref b :: st).map (zcv G) = (As.map (zcv G)).reverse ++ .ref (zad G b) :: st.map (zcv G) := by
  rw [List.map_append, List.map_reverse, List.map_cons]; rfl
theorem z_callV {idx d' mc' ms' n b ci : Nat} {M' : zM} {As st0 : List Value} {Q' : Option Value → zWd → Prop} (hd : decode M.2.1 pc = .ok (.invokevirtual idx, 3)) (hp : pc + 3 = pc') (hlk : Cond.methodLink M.1.cls idx M'.1 ∈ zTb) (hM : zMeV M' n) (hC : zCn X.1 X.2.1 d' M' mc' ms' (.ref b :: As) w Q')
    (hs : w.1[b]? = some (3, ci)) (hci : ci < 10) (hcl : zR ci = M'.1.cls) (hn : As.length = n) (hdp : d' + 1 ≤ X.2.2.1) (hst : (st.map fun v => v.category).sum ≤ 8) (hcs : cs.1 + mc' ≤ X.2.2.2.1 ∧ cs.2 + ms' ≤ X.2.2.2.2.1) (hsk : st0 = As.reverse ++ .ref b :: st)
    (kk : ∀ r w', Q' r w' → zWp X M (cs.1 + mc', cs.2 + ms') pc' ls (r.toList ++ st) w') : zWp X M cs pc ls st0 w := by
  subst hp
  subst hsk
  intro p e s m args below meth c H locs als Qf R C hH hl F
  rw [zmapr]
  obtain ⟨⟨m1, m2, m3, m4⟩, m5, m6⟩ := hM
  have h1 := C.2.2.2.2.2.2.2.2.1
  have h2 := C.2.2.2.2.2.2.2.2.2.1
  have hG : GoodIn zTb (wsV M.1.cls idx M'.1.cls M'.1 (zws M')) := by
    intro x hx
    have hm : x ∈ zTb := by
      simp only [wsV, zws, List.mem_append, List.mem_cons, List.not_mem_nil, or_false] at hx
      rcases hx with (rfl | rfl | rfl | rfl) | rfl | hx
      · exact hlk
      · exact m5
      · exact m6
      · exact m1
      · exact m2
      · exact hx
    exact ⟨hm, zgood x hm⟩
  refine zrun C hH hl F (va_runV (As := As.map (zcv X.2.1)) (C := M'.1.cls) (own := M.1.cls) (index := idx) (n := n) ⟨C.1, C.2.1, C.2.2.2.1, C.2.2.2.2.1, C.2.2.2.2.2.1⟩ hC (cwV n C.2.2.2.2.2.1 hG rfl rfl rfl ⟨rfl, m3.1, m3.2.1, m3.2.2⟩ ⟨by show d' + 1 ≤ _; omega, by show 8 + (M'.2.2.1 + 11) + 64 * d' ≤ _; omega⟩)
    ⟨zblind _, ?_, fun U hU hW => ⟨rfl, zPre.of hH hU hW⟩⟩ rfl (by rw [List.length_map]; exact hn) hl.1 rfl (lv_room (zst8 hst)) hd ⟨Nat.le_trans hcs.1 C.2.2.2.2.2.2.2.2.2.2.1, Nat.le_trans hcs.2 C.2.2.2.2.2.2.2.2.2.2.2⟩) kk
  rw [← hcl]
  exact va_recv hH.2.1 hH.2.2.1 (zcls_at ci hci) (zobj hci hs)
theorem z_callS {idx d' mc' ms' n : Nat} {M' : zM} {As st0 : List Value} {Q' : Option Value → zWd → Prop} (hd : decode M.2.1 pc = .ok (.invokestatic idx, 3)) (hp : pc + 3 = pc') (hlk : Cond.methodLink M.1.cls idx M'.1 ∈ zTb) (hM : zMeS M' n) (hC : zCn X.1 X.2.1 d' M' mc' ms' As w Q')
    (hn : As.length = n) (hdp : d' + 1 ≤ X.2.2.1) (hst : (st.map fun v => v.category).sum ≤ 8) (hcs : cs.1 + mc' ≤ X.2.2.2.1 ∧ cs.2 + ms' ≤ X.2.2.2.2.1) (hsk : st0 = As.reverse ++ st)
    (kk : ∀ r w', Q' r w' → zWp X M (cs.1 + mc', cs.2 + ms') pc' ls (r.toList ++ st) w') : zWp X M cs pc ls st0 w := by
  subst hp
  subst hsk
  intro p e s m args below meth c H locs als Qf R C hH hl F
  rw [List.map_append, List.map_reverse]
  obtain ⟨⟨m1, m2, m3, m4⟩, m5⟩ := hM
  have h1 := C.2.2.2.2.2.2.2.2.1
  have h2 := C.2.2.2.2.2.2.2.2.2.1
  have hG : GoodIn zTb (va_wsS M.1.cls idx M'.1 (zws M')) := by
    intro x hx
    have hm : x ∈ zTb := by
      simp only [va_wsS, zws, List.mem_append, List.mem_cons, List.not_mem_nil, or_false] at hx
      rcases hx with (rfl | rfl | rfl) | rfl | hx
      · exact hlk
      · exact m5
      · exact m1
      · exact m2
      · exact hx
    exact ⟨hm, zgood x hm⟩
  exact zrun C hH hl F (va_runS (As := As.map (zcv X.2.1)) (own := M.1.cls) (index := idx) (n := n) ⟨C.1, C.2.1, C.2.2.2.1, C.2.2.2.2.1, C.2.2.2.2.2.1⟩ hC (va_cwS n C.2.2.2.2.2.1 hG rfl rfl rfl m3 ⟨by show d' + 1 ≤ _; omega, by show 8 + (M'.2.2.1 + 11) + 64 * d' ≤ _; omega⟩)
    ⟨zblind _, fun U hU hW => ⟨rfl, zPre.of hH hU hW⟩⟩ rfl (by rw [List.length_map]; exact hn) hl.1 rfl (lv_room (zst8 hst)) hd ⟨Nat.le_trans hcs.1 C.2.2.2.2.2.2.2.2.2.2.1, Nat.le_trans hcs.2 C.2.2.2.2.2.2.2.2.2.2.2⟩) kk
theorem zGI {M' : zM} (m2 : Cond.code M'.1 M'.2.1 M'.2.2.1 M'.2.2.2 ∈ zTb) : GoodIn zTb (zws M') := by
  intro x hx
  have hm : x ∈ zTb := by
    rcases List.mem_cons.mp hx with rfl | hx
    · exact m2
    · exact hx
  exact ⟨hm, zgood x hm⟩
theorem z_callI {idx d' mc' ms' n b : Nat} {y : MethodName} {cd : ByteArray} {mL : Nat} {As st0 : List Value} {Q' : Option Value → zWd → Prop} (hd : decode M.2.1 pc = .ok (.invokespecial idx, 3)) (hp : pc + 3 = pc') (hlk : Cond.methodLink M.1.cls idx y ∈ zTb) (hM : zMeI (y, cd, mL, none) n) (hC : zCn X.1 X.2.1 d' (y, cd, mL, none) mc' ms' (.ref b :: As) w Q')
    (hn : As.length = n) (hdp : d' + 1 ≤ X.2.2.1) (hst : (st.map fun v => v.category).sum ≤ 8) (hcs : cs.1 + mc' ≤ X.2.2.2.1 ∧ cs.2 + ms' ≤ X.2.2.2.2.1) (hsk : st0 = As.reverse ++ .ref b :: st)
    (kk : ∀ r w', Q' r w' → zWp X M (cs.1 + mc', cs.2 + ms') pc' ls (r.toList ++ st) w') : zWp X M cs pc ls st0 w := by
  subst hp
  subst hsk
  intro p e s m args below meth c H locs als Qf R C hH hl F
  rw [zmapr]
  obtain ⟨⟨m1, m2, m3, m4⟩, m5, m6, m7⟩ := hM
  have h1 := C.2.2.2.2.2.2.2.2.1
  have h2 := C.2.2.2.2.2.2.2.2.2.1
  exact zrun C hH hl F (va_runI (As := As.map (zcv X.2.1)) (own := M.1.cls) (index := idx) (n := n) ⟨C.1, C.2.1, C.2.2.2.1, C.2.2.2.2.1, C.2.2.2.2.2.1⟩ hC (cwI n C.2.2.2.2.2.1 (zGI m2) rfl rfl rfl (C.2.2.2.2.2.1 _ m1) (C.2.2.2.2.2.1 _ hlk) (C.2.2.2.2.2.1 _ m5) m6 m3 ⟨by show d' + 1 ≤ _; omega, by show 8 + (mL + 11) + 64 * d' ≤ _; have : mL ≤ 40 := m4; omega⟩)
    ⟨zblind _, fun U hU hW => ⟨rfl, zPre.of hH hU hW⟩⟩ rfl (by rw [List.length_map]; exact hn) hl.1 rfl (lv_room (zst8 hst)) hd ⟨Nat.le_trans hcs.1 C.2.2.2.2.2.2.2.2.2.2.1, Nat.le_trans hcs.2 C.2.2.2.2.2.2.2.2.2.2.2⟩) kk
theorem z_callIN {idx d' mc' ms' n b : Nat} {y : MethodName} {cd : ByteArray} {mL : Nat} {As st0 : List Value} {Q' : Option Value → zWd → Prop} (hd : decode M.2.1 pc = .ok (.invokespecial idx, 3)) (hp : pc + 3 = pc') (hlk : ∀ U : State, zNest U → va_Nw (.methodLinkNest M.1.cls idx y RX8) U) (hM : zMeI (y, cd, mL, none) n) (hC : zCn X.1 X.2.1 d' (y, cd, mL, none) mc' ms' (.ref b :: As) w Q')
    (hn : As.length = n) (hdp : d' + 1 ≤ X.2.2.1) (hst : (st.map fun v => v.category).sum ≤ 8) (hcs : cs.1 + mc' ≤ X.2.2.2.1 ∧ cs.2 + ms' ≤ X.2.2.2.2.1) (hsk : st0 = As.reverse ++ .ref b :: st)
    (kk : ∀ r w', Q' r w' → zWp X M (cs.1 + mc', cs.2 + ms') pc' ls (r.toList ++ st) w') : zWp X M cs pc ls st0 w := by
  subst hp
  subst hsk
  intro p e s m args below meth c H locs als Qf R C hH hl F
  rw [zmapr]
  obtain ⟨⟨m1, m2, m3, m4⟩, m5, m6, m7⟩ := hM
  have h1 := C.2.2.2.2.2.2.2.2.1
  have h2 := C.2.2.2.2.2.2.2.2.2.1
  exact zrun C hH hl F (va_runIN (As := As.map (zcv X.2.1)) (own := M.1.cls) (index := idx) (n := n) ⟨C.1, C.2.1, C.2.2.2.1, C.2.2.2.2.1, C.2.2.2.2.2.1⟩ hC ⟨va_cnB n C.2.2.2.2.2.1 (zGI m2) rfl rfl rfl (hlk s hH.1.1.2.2) (C.2.2.2.2.2.1 _ m1) m3 ⟨by show d' + 1 ≤ _; omega, by show 8 + (mL + 11) + 64 * d' ≤ _; have : mL ≤ 40 := m4; omega⟩, m6, C.2.2.2.2.2.1 _ m5⟩
    ⟨zblind _, fun U hU hW => ⟨rfl, zPre.of hH hU hW⟩⟩ rfl (by rw [List.length_map]; exact hn) hl.1 rfl (lv_room (zst8 hst)) hd ⟨Nat.le_trans hcs.1 C.2.2.2.2.2.2.2.2.2.2.1, Nat.le_trans hcs.2 C.2.2.2.2.2.2.2.2.2.2.2⟩) kk
/-! returns -/
theorem z_vret (hd : decode M.2.1 pc = .ok (.return_, 1)) (hr : M.2.2.2 = none) (hcs : cs.1 ≤ X.2.2.2.1 ∧ cs.2 ≤ X.2.2.2.2.1) (hq : X.2.2.2.2.2 none w) : zWp X M cs pc ls [] w := by
  intro p e s m args below meth c H locs als Qf R C hH hl F
  exact W.widen hcs.1 hcs.2 (F none w H locs pc als hq hH ⟨hd, hr⟩)
theorem z_iret {v : Int32} {ty : FieldType} (hd : decode M.2.1 pc = .ok (.ireturn, 1)) (hr : M.2.2.2 = some ty) (hn : narrow ty (.int v) = .int v) (hcs : cs.1 ≤ X.2.2.2.1 ∧ cs.2 ≤ X.2.2.2.2.1) (hq : X.2.2.2.2.2 (some (.int v)) w) : zWp X M cs pc ls [.int v] w := by
  intro p e s m args below meth c H locs als Qf R C hH hl F
  exact W.widen hcs.1 hcs.2 (F (some (.int v)) w H locs pc als hq hH ⟨hd, ty, hr, hn⟩)
theorem z_lret {v : Int64} (hd : decode M.2.1 pc = .ok (.lreturn, 1)) (hr : M.2.2.2 = some .long) (hcs : cs.1 ≤ X.2.2.2.1 ∧ cs.2 ≤ X.2.2.2.2.1) (hq : X.2.2.2.2.2 (some (.long v)) w) : zWp X M cs pc ls [.long v] w := by
  intro p e s m args below meth c H locs als Qf R C hH hl F
  exact W.widen hcs.1 hcs.2 (F (some (.long v)) w H locs pc als hq hH ⟨hd, hr⟩)
end ZC
/-- a contract out of a walk from the entry -/
theorem zCn.of {l : Launch} {G : zG} {d mc ms : Nat} {M : zM} {args : List Value} {w : zWd} {Q : Option Value → zWd → Prop} {ls : List (Option Value)} (hpn : plainName M.1.cls = true) (hle : (zen args).length ≤ M.2.2.1) (hls : zen args ++ List.replicate (M.2.2.1 - (zen args).length) none = ls)
    (k : zWp (l, G, d, mc, ms, Q) M (0, 0) 0 ls [] w) : zCn l G d M mc ms args w Q := by
  subst hls
  refine Met.ofW (cc := M.2.1) (maxL := M.2.2.1) (ret := M.2.2.2) hpn rfl ?_
  intro p e s m args' below meth c s₁ B hml hv
  obtain ⟨rfl, b1, b2, b3, b4, b5⟩ := hv
  have hts : ∀ w ∈ zws M, w.before (args.map (zcv G)).toArray s = true := atoms_spec (ws := zws M) B.pre
  have hl := lv_entry (args.map (zcv G)) (n := M.2.2.1) (by rw [zen_len]; exact hle)
  rw [lg_entry_eq]
  generalize (lg_sl (args.map (zcv G)) ++ List.replicate (M.2.2.1 - (lg_sl (args.map (zcv G))).length) Slot.unset).toArray = als at hl ⊢
  rw [← zen_lv args 0 (M.2.2.1 - (zen args).length)] at hl
  have hlocks := B.notSynchronized
  have hloc : ∀ (H' : Heap) (locs' : List Loc) (w' : zWd), zHp G w' s H' locs' → ∀ q ∈ locs', zA G q.base := fun _ _ _ h => h.2.2.2.2.2.2.2
  refine k p e s m _ below meth c s.heap [] als _ (zrm d mc ms) ⟨B.exec, B.bytes, B.returns, hml, findClass_of_methodNamed B.named, fun w hw => hts w (List.mem_cons_of_mem _ hw), B.notSynchronized, fun h => ((name_of_methodNamed B.named B.method).1).trans h, Nat.le_refl _, Nat.le_refl _, Nat.le_refl _, Nat.le_refl _⟩ ⟨b1, b2, b3, b4, b5, va_S.rf⟩ hl ?_
  intro r w' H' locs' pc' als' hq hH' hret
  have hF : ∀ t : State, t.heap = H' → va_F (zA G) s t := fun t ht => hH'.2.2.2.2.2.F ht
  match r, hret with
  | none, hret =>
    exact W.vret B.exec B.bytes (B.returns.trans hret.2) (fun t ht hW => ⟨⟨none, w', rfl, hq, zPre.of hH' ht hW⟩, hF t ht⟩) (hloc _ _ _ hH') hret.1
  | some (.int v), hret =>
    obtain ⟨h1, ty, h2, h3⟩ := hret
    exact W.zret B.exec B.bytes (B.returns.trans h2) h3 (fun t ht hW => ⟨⟨some (.int v), w', rfl, hq, zPre.of hH' ht hW⟩, hF t ht⟩) (hloc _ _ _ hH') h1
  | some (.long v), hret =>
    exact W.lret B.exec B.bytes (B.returns.trans hret.2) (fun t ht hW => ⟨⟨some (.long v), w', rfl, hq, zPre.of hH' ht hW⟩, hF t ht⟩) (hloc _ _ _ hH') hret.1
