/-! ===== rows over the world: fields, arrays, making, calls, returns ===== -/
/-- a field that a class's instruction names: own class, pool index, class, place -/
def zFl (own : String) (idx ci j : Nat) : Prop := ci < 10 ∧ j < zN ci ∧ Cond.fieldLink own idx (zT ci j).1 (zT ci j).2.1 (zT ci j).2.2.1 ∈ zTb
theorem zin : ∀ ci, ci < 10 → ∀ w ∈ u_ws (zR ci) (zT ci) (zN ci), w ∈ zTb := by
  have key : ∀ (ws : List Cond), ws.all (fun w => decide (w ∈ lw_tbl) && goodWord w) = true → ∀ w ∈ ws, w ∈ zTb := fun ws h w hw => by
    have h1 := List.all_eq_true.mp h w hw
    simp only [Bool.and_eq_true, decide_eq_true_eq] at h1
    exact List.mem_filter.mpr h1
  exact zlt10 (key _ (by decide +kernel)) (key _ (by decide +kernel)) (key _ (by decide +kernel)) (key _ (by decide +kernel)) (key _ (by decide +kernel)) (key _ (by decide +kernel)) (key _ (by decide +kernel)) (key _ (by decide +kernel)) (key _ (by decide +kernel)) (key _ (by decide +kernel))
theorem zgood : ∀ w ∈ zTb, (w.onTables && w.keeps) = true ∨ ∃ ty, w = .arrayClass ty := fun w hw => good_of_word (List.mem_filter.mp hw).2
section ZM
variable {X : zX} {M : zM} {cs : Nat × Nat} {pc pc' : Nat} {ls : List (Option Value)} {st : List Value} {w : zWd}
theorem zobj {G : zG} {w : zWd} {q ci : Nat} (hci : ci < 10) (h : w.1[q]? = some (3, ci)) : (zconc G w)[q]? = some (zad G q, .inr (ci, (List.range (zN ci)).map (zfv G w q ci))) := zconc_get h
theorem zfs_at {G : zG} {w : zWd} {q ci j : Nat} (hj : j < zN ci) : ((List.range (zN ci)).map (zfv G w q ci))[j]? = some (zfv G w q ci j) := by
  rw [List.getElem?_map, List.getElem?_range hj]; rfl
theorem z_get {v : Value} {q idx ci j : Nat} (hd : decode M.2.1 pc = .ok (.getfield idx, 3)) (hp : pc + 3 = pc') (hF : zFl M.1.cls idx ci j) (hs : w.1[q]? = some (3, ci)) (hv : zfv X.2.1 w q ci j = zcv X.2.1 v)
    (kk : zWp X M cs pc' ls (v :: st) w) : zWp X M cs pc ls (.ref q :: st) w := by
  subst hp
  intro p e s m args below meth c H locs als Qf R C hH hl F
  have hk := kk p e s m args below meth c H locs als Qf R C hH hl F
  obtain ⟨hci, hj, hlk⟩ := hF
  exact va_get C.1 C.2.1 C.2.2.2.2.2.1 (zin ci hci) C.2.2.2.2.1 hH.2.1 hH.2.2.1 q (zobj hci hs) (zcls_at ci hci) j hj (C.2.2.2.2.2.1 _ hlk) (fun _ h => h) ((zfs_at hj).trans (congrArg some hv)) hd hk
theorem z_geti {x : Int32} {q idx ci j : Nat} (hd : decode M.2.1 pc = .ok (.getfield idx, 3)) (hp : pc + 3 = pc') (hF : zFl M.1.cls idx ci j) (hs : w.1[q]? = some (3, ci)) (ht : zkof (zty ci j) = 0) (hv : w.2.2.1 q j = x)
    (kk : zWp X M cs pc' ls (.int x :: st) w) : zWp X M cs pc ls (.ref q :: st) w :=
  z_get hd hp hF hs (by unfold zfv; rw [ht, hv]; rfl) kk
theorem z_getl {x : Int64} {q idx ci j : Nat} (hd : decode M.2.1 pc = .ok (.getfield idx, 3)) (hp : pc + 3 = pc') (hF : zFl M.1.cls idx ci j) (hs : w.1[q]? = some (3, ci)) (ht : zkof (zty ci j) = 1) (hv : w.2.2.2 q j = x)
    (kk : zWp X M cs pc' ls (.long x :: st) w) : zWp X M cs pc ls (.ref q :: st) w :=
  z_get hd hp hF hs (by unfold zfv; rw [ht, hv]; rfl) kk
theorem z_getr {x : Nat} {q idx ci j : Nat} (hd : decode M.2.1 pc = .ok (.getfield idx, 3)) (hp : pc + 3 = pc') (hF : zFl M.1.cls idx ci j) (hs : w.1[q]? = some (3, ci)) (ht : zkof (zty ci j) = 2) (hv : w.2.1 q j = some x)
    (kk : zWp X M cs pc' ls (.ref x :: st) w) : zWp X M cs pc ls (.ref q :: st) w :=
  z_get hd hp hF hs (by unfold zfv; rw [ht, hv]; rfl) kk
theorem zHp_set {G : zG} {w w' : zWd} {s : State} {H H1 : Heap} {locs locs1 : List Loc} {k : Nat} {sh : zSh} {E : va_E} (h : zHp G w s H locs) (hs : w.1[k]? = some sh) (h1 : w'.1 = w.1) (h2 : E = zce G w' k sh) (h3 : ∀ (j : Nat) (sh' : zSh), j ≠ k → zce G w' j sh' = zce G w j sh')
    (hP : va_P G.2.1 zcls ((zconc G w).set k (zad G k, E)) H1) (hz : H1.size = H.size) (hS : va_S (zA G) s.heap H1 locs1) : zHp G w' s H1 locs1 := by
  obtain ⟨a1, a2, a3, a4, a5, a6⟩ := h
  rw [zconc_set hs h1 h2 h3] at hP
  exact ⟨a1, a2, hP, by rw [hz, h1]; exact a4, by rw [h1]; exact a5, hS⟩
theorem z_put {v : Value} {w' : zWd} {q idx ci j : Nat} (hd : decode M.2.1 pc = .ok (.putfield idx, 3)) (hp : pc + 3 = pc') (hF : zFl M.1.cls idx ci j) (hs : w.1[q]? = some (3, ci)) (hf : (zT ci j).2.2.2 = false) (hn : narrow (zty ci j) (zcv X.2.1 v) = zcv X.2.1 v) (hfit : fits (zty ci j) (zcv X.2.1 v) = true)
    (h1 : w'.1 = w.1) (h2 : ((List.range (zN ci)).map (zfv X.2.1 w q ci)).set j (zcv X.2.1 v) = (List.range (zN ci)).map (zfv X.2.1 w' q ci)) (h3 : ∀ (j : Nat) (sh' : zSh), j ≠ q → zce X.2.1 w' j sh' = zce X.2.1 w j sh')
    (kk : zWp X M cs pc' ls st w') : zWp X M cs pc ls (v :: .ref q :: st) w := by
  subst hp
  intro p e s m args below meth c H locs als Qf R C hH hl F
  obtain ⟨hci, hj, hlk⟩ := hF
  have hsz : ∀ (H1 : Heap) (locs1 : List Loc), va_S (zA X.2.1) s.heap H1 locs1 → True := fun _ _ _ => trivial
  obtain ⟨a1, a2, a3, a4, a5, a6⟩ := id hH
  obtain ⟨r, g1, cell, q1, q2, q3, q4⟩ := a3 q _ (zobj hci hs)
  have hr : r = (zR ci, zT ci, zN ci) := Option.some.inj (g1.symm.trans (zcls_at ci hci))
  subst hr
  have hap := va_apart (own := M.1.cls) C.2.2.2.2.2.1 (zin ci hci) (zty ci) (zty_ok ci hci) (znm_ok ci hci) a2 (zcls_at ci hci)
  obtain ⟨hS, hfc, kC, hkC, hkind⟩ := a2.1 ci _ (zcls_at ci hci)
  obtain ⟨cf, kf, fi, f, hi, hsl⟩ := hS j hj
  have hlay := C.2.2.2.2.2.1 _ (zin ci hci _ (u_in_lay hj))
  unfold u_lay at hlay
  rw [if_neg (by rw [hf]; decide)] at hlay
  have hst := (u_facts hfc hkC (u_lays C.2.2.2.2.2.1 (zin ci hci) hj) hi).1
  have h6 := u_store hfc hkC hkind hlay hi (zty_ok ci hci j hj) hn hfit
  refine W.putK C.1 C.2.1 (f := f) ⟨C.2.2.2.2.1, C.2.2.2.2.2.1 _ hlk, ⟨_, _, _, hi⟩, hst⟩ (by rw [q2]; exact h6) q1 q3 (by rw [hsl]; exact k2_hasslot (q4 j hj)) rfl rfl hd fun H' e1 e2 e3 => ?_
  rw [hsl] at e1 ⊢
  refine kk p e s m args below meth c H' _ als Qf R C (zHp_set hH hs h1 (E := .inr (ci, ((List.range (zN ci)).map (zfv X.2.1 w q ci)).set j (zcv X.2.1 v))) (by rw [h2]; rfl) h3 ?_ e2 (a6.put e2 e3 ((zD a5).2 q _ (zobj hci hs)))) hl F
  exact a3.set (zD a5) (zobj hci hs) ⟨_, zcls_at ci hci, t_OB.to (V := updV (vp_V ((List.range (zN ci)).map (zfv X.2.1 w q ci))) j (zcv X.2.1 v)) ⟨_, e1, q2, q3, t_set q4 hap hj _⟩ (fun k _ => vp_updV_set (by simpa using hj) _ k)⟩ e3
theorem zfv_I {G : zG} {w : zWd} {q ci j : Nat} {v : Int32} (ht : zkof (zty ci j) = 0) : ((List.range (zN ci)).map (zfv G w q ci)).set j (.int v) = (List.range (zN ci)).map (zfv G (zuI w q j v) q ci) := by
  refine zrange_set (fun _ => ?_) (fun k hk => ?_)
  · unfold zfv; rw [ht]; simp [zuI]
  · unfold zfv zuI; simp only [hk, and_false, if_false]
theorem zfv_L {G : zG} {w : zWd} {q ci j : Nat} {v : Int64} (ht : zkof (zty ci j) = 1) : ((List.range (zN ci)).map (zfv G w q ci)).set j (.long v) = (List.range (zN ci)).map (zfv G (zuL w q j v) q ci) := by
  refine zrange_set (fun _ => ?_) (fun k hk => ?_)
  · unfold zfv; rw [ht]; simp [zuL]
  · unfold zfv zuL; simp only [hk, and_false, if_false]
theorem zfv_R {G : zG} {w : zWd} {q ci j x : Nat} (ht : zkof (zty ci j) = 2) : ((List.range (zN ci)).map (zfv G w q ci)).set j (.ref (zad G x)) = (List.range (zN ci)).map (zfv G (zuR w q j (some x)) q ci) := by
  refine zrange_set (fun _ => ?_) (fun k hk => ?_)
  · unfold zfv; rw [ht]; simp [zuR, va_rf]
  · unfold zfv zuR; simp only [hk, and_false, if_false]
theorem z_puti {x : Int32} {w' : zWd} {q idx ci j : Nat} (hd : decode M.2.1 pc = .ok (.putfield idx, 3)) (hp : pc + 3 = pc') (hF : zFl M.1.cls idx ci j) (hs : w.1[q]? = some (3, ci)) (ht : zkof (zty ci j) = 0) (hf : (zT ci j).2.2.2 = false) (hn : narrow (zty ci j) (.int x) = .int x) (hfit : fits (zty ci j) (.int x) = true)
    (hw : zuI w q j x = w') (kk : zWp X M cs pc' ls st w') : zWp X M cs pc ls (.int x :: .ref q :: st) w := by
  subst hw
  exact z_put (w' := zuI w q j x) hd hp hF hs hf hn hfit rfl (zfv_I ht) (fun j sh hj => zuI_off j sh hj) kk
theorem z_putl {x : Int64} {w' : zWd} {q idx ci j : Nat} (hd : decode M.2.1 pc = .ok (.putfield idx, 3)) (hp : pc + 3 = pc') (hF : zFl M.1.cls idx ci j) (hs : w.1[q]? = some (3, ci)) (ht : zty ci j = .long) (hf : (zT ci j).2.2.2 = false)
    (hw : zuL w q j x = w') (kk : zWp X M cs pc' ls st w') : zWp X M cs pc ls (.long x :: .ref q :: st) w := by
  subst hw
  exact z_put (w' := zuL w q j x) hd hp hF hs hf (by rw [ht]; rfl) (by rw [ht]; rfl) rfl (zfv_L (by rw [ht]; rfl)) (fun j sh hj => zuL_off j sh hj) kk
/-- a final field that holds a cell, in a constructor -/
theorem z_putr {x : Nat} {w' : zWd} {q idx ci j : Nat} (hd : decode M.2.1 pc = .ok (.putfield idx, 3)) (hp : pc + 3 = pc') (hF : zFl M.1.cls idx ci j) (hs : w.1[q]? = some (3, ci)) (ht : zkof (zty ci j) = 2) (hf : (zT ci j).2.2.2 = true) (hin : M.1.name = "<init>") (hdc : (zT ci j).1 = M.1.cls)
    (hw : zuR w q j (some x) = w') (kk : zWp X M cs pc' ls st w') : zWp X M cs pc ls (.ref x :: .ref q :: st) w := by
  subst hp
  subst hw
  intro p e s m args below meth c H locs als Qf R C hH hl F
  obtain ⟨hci, hj, hlk⟩ := hF
  obtain ⟨a1, a2, a3, a4, a5, a6⟩ := id hH
  obtain ⟨r, g1, cell, q1, q2, q3, q4⟩ := a3 q _ (zobj hci hs)
  have hr : r = (zR ci, zT ci, zN ci) := Option.some.inj (g1.symm.trans (zcls_at ci hci))
  subst hr
  have hap := va_apart (own := M.1.cls) C.2.2.2.2.2.1 (zin ci hci) (zty ci) (zty_ok ci hci) (znm_ok ci hci) a2 (zcls_at ci hci)
  obtain ⟨hS, hfc, kC, hkC, hkind⟩ := a2.1 ci _ (zcls_at ci hci)
  obtain ⟨cf, kf, fi, f, hi, hsl⟩ := hS j hj
  have hlay := C.2.2.2.2.2.1 _ (zin ci hci _ (u_in_lay hj))
  unfold u_lay at hlay
  rw [if_pos hf] at hlay
  have hst := (u_facts hfc hkC (u_lays C.2.2.2.2.2.1 (zin ci hci) hj) hi).1
  have hcf : m.cls = cf := by
    obtain ⟨_, _, c', _, _, _, -, -, hf', -, -, -, hown2, -⟩ := Cond.laysFinal_spec hlay
    have e1 : c' = cf := by have := hi.symm.trans hf'; simp at this; exact this.1.symm
    rw [hdc] at hown2
    rw [← e1]; exact Option.some.inj (C.2.2.2.2.1.symm.trans hown2)
  have hn : narrow (zty ci j) (.ref (zad X.2.1 x)) = .ref (zad X.2.1 x) := by cases hz : zty ci j <;> first | rfl | (rw [hz] at ht; simp [zkof] at ht)
  have hfit : fits (zty ci j) (.ref (zad X.2.1 x)) = true := by cases hz : zty ci j <;> first | rfl | (rw [hz] at ht; simp [zkof] at ht)
  have h6 := u_fits hfc hkC hkind (Or.inr hlay) hi (zty_ok ci hci j hj) hn hfit
  refine W.putFinK C.1 C.2.1 C.2.2.2.2.1 (C.2.2.2.2.2.1 _ hlk) hi hst hcf (C.2.2.2.2.2.2.2.1 hin) (by rw [q2]; exact h6) q1 q3 (by rw [hsl]; exact k2_hasslot (q4 j hj)) rfl rfl hd fun H' e1 e2 e3 => ?_
  rw [hsl] at e1 ⊢
  refine kk p e s m args below meth c H' _ als Qf R C (zHp_set hH hs rfl (E := .inr (ci, ((List.range (zN ci)).map (zfv X.2.1 w q ci)).set j (.ref (zad X.2.1 x)))) (by rw [zfv_R ht]; rfl) (fun j sh hj => zuR_off j sh hj) ?_ e2 (a6.put e2 e3 ((zD a5).2 q _ (zobj hci hs)))) hl F
  exact a3.set (zD a5) (zobj hci hs) ⟨_, zcls_at ci hci, t_OB.to (V := updV (vp_V ((List.range (zN ci)).map (zfv X.2.1 w q ci))) j (.ref (zad X.2.1 x))) ⟨_, e1, q2, q3, t_set q4 hap hj _⟩ (fun k _ => vp_updV_set (by simpa using hj) _ k)⟩ e3
/-! arrays -/
theorem zin_of {i : Int32} {j n : Nat} (hi : i = nI j) (hj : j < n) (hn : n < 2 ^ 31) : vp_in i n := by rw [hi]; exact nI_in hj hn
theorem z_iald {q n j : Nat} {i x : Int32} (hd : decode M.2.1 pc = .ok (.iaload, 1)) (hp : pc + 1 = pc') (hs : w.1[q]? = some (0, n)) (hn : n < 2 ^ 31) (hi : i = nI j) (hj : j < n) (hv : w.2.2.1 q j = x)
    (kk : zWp X M cs pc' ls (.int x :: st) w) : zWp X M cs pc ls (.int i :: .ref q :: st) w := by
  subst hp
  subst hv
  intro p e s m args below meth c H locs als Qf R C hH hl F
  have hk := kk p e s m args below meth c H locs als Qf R C hH hl F
  refine va_iald C.1 C.2.1 hH.2.1 hH.2.2.1 q 0 (zconc_get hs) rfl (zin_of hi hj hn) hd ?_
  rw [hi, nI_clamp (Nat.lt_trans hj hn)]
  exact hk
theorem z_lald {q n j : Nat} {i : Int32} {x : Int64} (hd : decode M.2.1 pc = .ok (.laload, 1)) (hp : pc + 1 = pc') (hs : w.1[q]? = some (1, n)) (hn : n < 2 ^ 31) (hi : i = nI j) (hj : j < n) (hv : w.2.2.2 q j = x)
    (kk : zWp X M cs pc' ls (.long x :: st) w) : zWp X M cs pc ls (.int i :: .ref q :: st) w := by
  subst hp
  subst hv
  intro p e s m args below meth c H locs als Qf R C hH hl F
  have hk := kk p e s m args below meth c H locs als Qf R C hH hl F
  refine va_lald C.1 C.2.1 hH.2.1 hH.2.2.1 q 1 (zconc_get hs) rfl (zin_of hi hj hn) hd ?_
  rw [hi, nI_clamp (Nat.lt_trans hj hn)]
  exact hk
theorem z_aald {q n j x : Nat} {i : Int32} (hd : decode M.2.1 pc = .ok (.aaload, 1)) (hp : pc + 1 = pc') (hs : w.1[q]? = some (2, n)) (hn : n < 2 ^ 31) (hi : i = nI j) (hj : j < n) (hv : w.2.1 q j = some x)
    (kk : zWp X M cs pc' ls (.ref x :: st) w) : zWp X M cs pc ls (.int i :: .ref q :: st) w := by
  subst hp
  intro p e s m args below meth c H locs als Qf R C hH hl F
  have hk := kk p e s m args below meth c H locs als Qf R C hH hl F
  refine va_aldq C.1 C.2.1 hH.2.1 hH.2.2.1 q 2 (zconc_get hs) rfl (zin_of hi hj hn) hd ?_
  rw [hi, nI_clamp (Nat.lt_trans hj hn), hv]
  exact hk
theorem z_iast {q n j : Nat} {i x : Int32} {w' : zWd} (hd : decode M.2.1 pc = .ok (.iastore, 1)) (hp : pc + 1 = pc') (hs : w.1[q]? = some (0, n)) (hn : n < 2 ^ 31) (hi : i = nI j) (hj : j < n) (hw : zuI w q j x = w')
    (kk : zWp X M cs pc' ls st w') : zWp X M cs pc ls (.int x :: .int i :: .ref q :: st) w := by
  subst hp
  subst hw
  intro p e s m args below meth c H locs als Qf R C hH hl F
  obtain ⟨a1, a2, a3, a4, a5, a6⟩ := id hH
  have ec : i.toNatClampNeg = j := by rw [hi]; exact nI_clamp (Nat.lt_trans hj hn)
  refine W.iast C.1 C.2.1 (a3 q _ (zconc_get hs)) ((a2.2 0 _ rfl).1 n (fun j => .int (w.2.2.1 q j))) (fun z => by cases z) (by show ¬ (i < 0 ∨ (arrV _ _ _).slots.size ≤ _); rw [arrV_size]; exact zin_of hi hj hn) rfl rfl hd fun H1 e z oq => ?_
  refine kk p _ s m args below meth c H1 _ als Qf R C (zHp_set hH hs rfl (E := .inl (X.2.1.1 0, n, .inl ((zuI w q j x).2.2.1 q))) rfl (fun j sh hj => zuI_off j sh hj) ?_ z (a6.put z oq ((zD a5).2 q _ (zconc_get hs)))) hl F
  refine a3.set (zD a5) (zconc_get hs) ?_ oq
  show H1[zad X.2.1 q]? = some (vp_cell _ _)
  rw [e]
  show some ((vp_cell (X.2.1.1 0) (n, .inl (w.2.2.1 q))).setSlot _ _) = _
  rw [vp_cell_i, vp_cell_i, arrV_store, ec]
  congr 2
  funext b
  by_cases hb : b = j
  · subst hb; simp [updV, zuI]
  · simp [updV, zuI, hb]
theorem z_last {q n j : Nat} {i : Int32} {x : Int64} {w' : zWd} (hd : decode M.2.1 pc = .ok (.lastore, 1)) (hp : pc + 1 = pc') (hs : w.1[q]? = some (1, n)) (hn : n < 2 ^ 31) (hi : i = nI j) (hj : j < n) (hw : zuL w q j x = w')
    (kk : zWp X M cs pc' ls st w') : zWp X M cs pc ls (.long x :: .int i :: .ref q :: st) w := by
  subst hp
  subst hw
  intro p e s m args below meth c H locs als Qf R C hH hl F
  obtain ⟨a1, a2, a3, a4, a5, a6⟩ := id hH
  have ec : i.toNatClampNeg = j := by rw [hi]; exact nI_clamp (Nat.lt_trans hj hn)
  refine W.last C.1 C.2.1 (a3 q _ (zconc_get hs)) ((a2.2 1 _ rfl).1 n (fun j => .long (w.2.2.2 q j))) (fun z => by cases z) (by show ¬ (i < 0 ∨ (arrV _ _ _).slots.size ≤ _); rw [arrV_size]; exact zin_of hi hj hn) rfl rfl hd fun H1 e z oq => ?_
  refine kk p _ s m args below meth c H1 _ als Qf R C (zHp_set hH hs rfl (E := .inl (X.2.1.1 1, n, .inr (.inl ((zuL w q j x).2.2.2 q)))) rfl (fun j sh hj => zuL_off j sh hj) ?_ z (a6.put z oq ((zD a5).2 q _ (zconc_get hs)))) hl F
  refine a3.set (zD a5) (zconc_get hs) ?_ oq
  show H1[zad X.2.1 q]? = some (vp_cell _ _)
  rw [e]
  show some ((vp_cell (X.2.1.1 1) (n, .inr (.inl (w.2.2.2 q)))).setSlot _ _) = _
  rw [vp_cell_l, vp_cell_l, arrV_store, ec]
  congr 2
  funext b
  by_cases hb : b = j
  · subst hb; simp [updV, zuL]
  · simp [updV, zuL, hb]
/-! the script, the tables -/
theorem zad_ex {G : zG} (e : Nat) : zad G (1000 + e) = G.2.2.2.2.2 e := by
  unfold zad
  rw [if_neg (by omega), show 1000 + e - 1000 = e by omega]
theorem z_sld {j : Nat} {i : Int32} (hd : decode M.2.1 pc = .ok (.iaload, 1)) (hp : pc + 1 = pc') (hn : X.2.1.2.2.2.1 < 2 ^ 31) (hi : i = nI j) (hj : j < X.2.1.2.2.2.1)
    (kk : zWp X M cs pc' ls (.int (X.2.1.2.2.2.2.1 j) :: st) w) : zWp X M cs pc ls (.int i :: .ref 1000 :: st) w := by
  subst hp
  intro p e s m args below meth c H locs als Qf R C hH hl F
  have hk := kk p e s m args below meth c H locs als Qf R C hH hl F
  obtain ⟨⟨g1, g2, g3, -⟩, a2, a3, a4, a5, a6⟩ := id hH
  show W p X.1 e R s m args below meth c H locs cs.1 cs.2 Qf (F0 m pc als (.int i :: .ref (zad X.2.1 (1000 + 0)) :: _))
  rw [zad_ex]
  refine va_sld C.1 C.2.1 g3 (Nat.lt_of_lt_of_le g2 g1.1) (Nat.not_le.mpr g2) a6 (zin_of hi hj hn) hd ?_
  rw [hi, nI_clamp (Nat.lt_trans hj hn)]
  exact hk
theorem z_slen (hd : decode M.2.1 pc = .ok (.arraylength, 1)) (hp : pc + 1 = pc')
    (kk : zWp X M cs pc' ls (.int (nI X.2.1.2.2.2.1) :: st) w) : zWp X M cs pc ls (.ref 1000 :: st) w := by
  subst hp
  intro p e s m args below meth c H locs als Qf R C hH hl F
  have hk := kk p e s m args below meth c H locs als Qf R C hH hl F
  obtain ⟨⟨g1, g2, g3, -⟩, a2, a3, a4, a5, a6⟩ := id hH
  show W p X.1 e R s m args below meth c H locs cs.1 cs.2 Qf (F0 m pc als (.ref (zad X.2.1 (1000 + 0)) :: _))
  rw [zad_ex]
  exact va_slen C.1 C.2.1 g3 (Nat.lt_of_lt_of_le g2 g1.1) (Nat.not_le.mpr g2) a6 hd hk
theorem z_tpow {j : Nat} {i : Int32} (hd : decode M.2.1 pc = .ok (.laload, 1)) (hp : pc + 1 = pc') (hi : i = nI j) (hj : j < 10)
    (kk : zWp X M cs pc' ls (.long (zPOW j) :: st) w) : zWp X M cs pc ls (.int i :: .ref 1001 :: st) w := by
  subst hp
  intro p e s m args below meth c H locs als Qf R C hH hl F
  have hk := kk p e s m args below meth c H locs als Qf R C hH hl F
  obtain ⟨⟨g1, g2, g3, ⟨g4, g5⟩, -⟩, a2, a3, a4, a5, a6⟩ := id hH
  show W p X.1 e R s m args below meth c H locs cs.1 cs.2 Qf (F0 m pc als (.int i :: .ref (zad X.2.1 (1000 + 1)) :: _))
  rw [zad_ex]
  exact va_tl C.1 C.2.1 g5 a6 (zin_of hi hj (by decide)) (by rw [hi, nI_clamp (Nat.lt_trans hj (by decide))]; rfl) hd hk
theorem z_tabo {j : Nat} {i : Int32} (hd : decode M.2.1 pc = .ok (.iaload, 1)) (hp : pc + 1 = pc') (hi : i = nI j) (hj : j < 8)
    (kk : zWp X M cs pc' ls (.int (zABO j) :: st) w) : zWp X M cs pc ls (.int i :: .ref 1002 :: st) w := by
  subst hp
  intro p e s m args below meth c H locs als Qf R C hH hl F
  have hk := kk p e s m args below meth c H locs als Qf R C hH hl F
  obtain ⟨⟨g1, g2, g3, -, ⟨g4, g5⟩, -⟩, a2, a3, a4, a5, a6⟩ := id hH
  show W p X.1 e R s m args below meth c H locs cs.1 cs.2 Qf (F0 m pc als (.int i :: .ref (zad X.2.1 (1000 + 2)) :: _))
  rw [zad_ex]
  exact va_ti C.1 C.2.1 g5 a6 (zin_of hi hj (by decide)) (by rw [hi, nI_clamp (Nat.lt_trans hj (by decide))]; rfl) hd hk
theorem z_town {j : Nat} {i : Int32} (hd : decode M.2.1 pc = .ok (.iaload, 1)) (hp : pc + 1 = pc') (hi : i = nI j) (hj : j < 32)
    (kk : zWp X M cs pc' ls (.int (zOWN j) :: st) w) : zWp X M cs pc ls (.int i :: .ref 1003 :: st) w := by
  subst hp
  intro p e s m args below meth c H locs als Qf R C hH hl F
  have hk := kk p e s m args below meth c H locs als Qf R C hH hl F
  obtain ⟨⟨g1, g2, g3, -, -, ⟨g4, g5⟩⟩, a2, a3, a4, a5, a6⟩ := id hH
  show W p X.1 e R s m args below meth c H locs cs.1 cs.2 Qf (F0 m pc als (.int i :: .ref (zad X.2.1 (1000 + 3)) :: _))
  rw [zad_ex]
  exact va_ti C.1 C.2.1 g5 a6 (zin_of hi hj (by decide)) (by rw [hi, nI_clamp (Nat.lt_trans hj (by decide))]; rfl) hd hk
theorem z_gpow {idx : Nat} (hd : decode M.2.1 pc = .ok (.getstatic idx, 3)) (hp : pc + 3 = pc') (hlk : Cond.fieldLink M.1.cls idx RX4 "POWERS" "[J" ∈ zTb)
    (kk : zWp X M cs pc' ls (.ref 1001 :: st) w) : zWp X M cs pc ls st w := by
  subst hp
  intro p e s m args below meth c H locs als Qf R C hH hl F
  have hk := kk p e s m args below meth c H locs als Qf R C hH hl F
  obtain ⟨⟨g1, g2, g3, ⟨g4, g5⟩, -⟩, a2, a3, a4, a5, a6⟩ := id hH
  refine va_gets C.1 C.2.1 g4 a6 C.2.2.2.2.1 (C.2.2.2.2.2.1 _ hlk) (fun _ h => h) hd ?_
  rw [← zad_ex]
  exact hk
theorem z_gabo {idx : Nat} (hd : decode M.2.1 pc = .ok (.getstatic idx, 3)) (hp : pc + 3 = pc') (hlk : Cond.fieldLink M.1.cls idx RX6 "ABOVE" "[I" ∈ zTb)
    (kk : zWp X M cs pc' ls (.ref 1002 :: st) w) : zWp X M cs pc ls st w := by
  subst hp
  intro p e s m args below meth c H locs als Qf R C hH hl F
  have hk := kk p e s m args below meth c H locs als Qf R C hH hl F
  obtain ⟨⟨g1, g2, g3, -, ⟨g4, g5⟩, -⟩, a2, a3, a4, a5, a6⟩ := id hH
  refine va_gets C.1 C.2.1 g4 a6 C.2.2.2.2.1 (C.2.2.2.2.2.1 _ hlk) (fun _ h => h) hd ?_
  rw [← zad_ex]
  exact hk
theorem z_gown {idx : Nat} (hd : decode M.2.1 pc = .ok (.getstatic idx, 3)) (hp : pc + 3 = pc') (hlk : Cond.fieldLink M.1.cls idx RX6 "OWN" "[I" ∈ zTb)
    (kk : zWp X M cs pc' ls (.ref 1003 :: st) w) : zWp X M cs pc ls st w := by
  subst hp
  intro p e s m args below meth c H locs als Qf R C hH hl F
  have hk := kk p e s m args below meth c H locs als Qf R C hH hl F
  obtain ⟨⟨g1, g2, g3, -, -, ⟨g4, g5⟩⟩, a2, a3, a4, a5, a6⟩ := id hH
  refine va_gets C.1 C.2.1 g4 a6 C.2.2.2.2.1 (C.2.2.2.2.2.1 _ hlk) (fun _ h => h) hd ?_
  rw [← zad_ex]
  exact hk
end ZM
