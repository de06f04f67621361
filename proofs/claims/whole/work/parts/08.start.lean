def R_law : String := "ThreeSnowballsLaw"
def lw_P (b : Addr) (xs : List Int32) (args : Array Value) (s : State) : Prop := args = #[.ref b] ∧ s.IntsAt b xs ∧ xs.length ≤ 3072 ∧ (Jvm.Cond.and given_1 narrow_1).before args s = true
def lw_Q (_ : Array Value) (s : State) (o : Outcome) (t : State) : Prop := o = .returned (some (.int 1)) ∧ Framed s o t [] 600000 7302250
def lw_Z (below : List Frame) (a : Array Value) (s : State) : State → Prop := fun t => ∃ o, t.status = .running ∧ Ended t below o ∧ lw_Q a s o t
/-- the law's own end, with 1 on the stack, nothing written that was there before, its room as the claim has it -/
theorem lw_ret {p : Program} {l : Launch} {e : Env} {s : State} {m : MethodId} {below : List Frame} {meth : Method} {c : Code} {b : Nat} (hx : p.tables.exec = Jvm.exec) (hb : c.code = code) (hr : meth.sig.returnType = ret) (hlocks : meth.locks = false) {pc : Nat} {H : Heap} {ls : Array Slot} (hdg : decode code pc = .ok (.ireturn, 1)) : W p l e room_1 s m #[Value.ref b] below meth c H [] 600000 7302250 (lw_Z below #[Value.ref b] s) (F0 m pc ls [.int 1]) := by
  intro T hT X
  obtain ⟨fs, hret, hrun, hended, hW, hframe⟩ := X.leave (v := some (.int 1)) (hlocks := hlocks) (fun h => by rw [hr] at h; cases h)
  have hmeth' : T.vm.method? m = some meth := X.method'
  refine ⟨T.setFrames fs, ?_, .returned (some (.int 1)), hrun, hended, rfl, ⟨_, rfl⟩, hW, hframe⟩
  jvm_step X.here [X.here.top, hx, hb, hdg, hmeth', hr, ret, narrow_b1]
  (try refine ⟨rfl, ?_⟩); (try refine ⟨rfl, ?_⟩)
  first | (intro acts; rw [hret _ acts rfl rfl rfl]) | rw [hret _ _ rfl rfl rfl]
  exact Steps.refl _
/-- what holds at the law's entry: the machine, the code, the tables' words (any of lw_tbl by 'hts w (by decide +kernel)'), the script of L ints xs at the cell b, what the Statement gives of the start (any of its parts by flat_of_before) -/
def lw_At (p : Program) (s : State) (m : MethodId) (meth : Method) (c : Code) (b L : Nat) (xs : Nat → Int32) : Prop :=
  p.tables.exec = Jvm.exec ∧ c.code = code ∧ meth.sig.returnType = ret ∧ c.maxLocals = 4 ∧ s.vm.findClass R_law = some m.cls ∧ (∀ w ∈ lw_tbl, w.before #[Value.ref b] s = true) ∧ va_X b L xs s s.heap ∧ b < s.heap.size ∧ meth.locks = false ∧ (Jvm.Cond.and given_1 narrow_1).before #[Value.ref b] s = true
/-! ===== from a walk over the abstract world to the law's start ===== -/
def mL_law : zM := (yL_law, code, 4, ret)
def zw0 : zWd := ([], fun _ _ => none, fun _ _ => 0, fun _ _ => 0)
def zXl (l : Launch) (G : zG) : zX := (l, G, 1000, 600000, 7302250, fun r _ => r = some (.int 1))
theorem z_u_known {C : String} {T : u_T} {N : Nat} {args : Array Value} {s : State} (hts : ∀ w ∈ lw_tbl, w.before args s = true) (hin : ∀ w ∈ u_ws C T N, w ∈ zTb) (hi : Cond.instantiable C N ∈ lw_tbl) : ∃ (cC : ClassId) (iS : Nat → Nat), u_Kn s C T N cC iS :=
  u_known (C := C) (T := T) (N := N) (n := N) hts (fun w h => (List.mem_filter.mp (hin w h)).1) (hts _ hi)
theorem zstart (K : ∀ (l : Launch) (G : zG), G.2.2.2.1 ≤ 3072 → zWp (zXl l G) mL_law (0, 0) 0 [some (.ref 1000), none, none, none] [] zw0) {p : Program} {e : Env} {s : State} {m : MethodId} {below : List Frame} {meth : Method} {c : Code} (l : Launch) {b L : Nat} {xs : Nat → Int32} (hL : L ≤ 3072) (C0 : lw_At p s m meth c b L xs) :
    W p l e room_1 s m #[Value.ref b] below meth c s.heap [] 0 0 (lw_Z below #[Value.ref b] s) (entryFrame m ([Value.ref b] : List Value).toArray 4) := by
  obtain ⟨hx, hb, hr, hml, hown, hts, hX, hbl, hlocks, hgv⟩ := id C0
  have hA : ∀ a : Nat, a < s.heap.size → ¬ (fun q : Nat => s.heap.size ≤ q) a := fun a h => Nat.not_le.mpr h
  obtain ⟨t1, y1, y2⟩ := zt_POWERS hgv hts hA
  obtain ⟨t2, y3, y4⟩ := zt_ABOVE hgv hts hA
  obtain ⟨t3, y5, y6⟩ := zt_OWN hgv hts hA
  have hkn : ∀ ci, ci < 10 → ∃ (cC : ClassId) (iS : Nat → Nat), u_Kn s (zR ci) (zT ci) (zN ci) cC iS := by
    intro ci hci
    refine z_u_known hts (zin ci hci) ?_
    revert ci
    exact zlt10 (by decide +kernel) (by decide +kernel) (by decide +kernel) (by decide +kernel) (by decide +kernel) (by decide +kernel) (by decide +kernel) (by decide +kernel) (by decide +kernel) (by decide +kernel)
  have hkn2 : ∀ ci, ∃ q : ClassId × (Nat → Nat), ci < 10 → u_Kn s (zR ci) (zT ci) (zN ci) q.1 q.2 := by
    intro ci
    by_cases h : ci < 10
    · obtain ⟨a, b, h2⟩ := hkn ci h
      exact ⟨(a, b), fun _ => h2⟩
    · exact ⟨(0, fun _ => 0), fun z => absurd z h⟩
  have hD : ∃ D : va_G, ∀ (k : Nat) (q : vw_C), zcls[k]? = some q → u_Kn s q.1 q.2.1 q.2.2 (D.1 k) (D.2 k) := by
    refine ⟨(fun k => (Classical.choose (hkn2 k)).1, fun k => (Classical.choose (hkn2 k)).2), fun k q hq => ?_⟩
    have hk : k < 10 := (List.getElem?_eq_some_iff.mp hq).1
    have e := zcls_at k hk
    rw [hq] at e
    cases e
    exact Classical.choose_spec (hkn2 k) hk
  obtain ⟨D, hD⟩ := hD
  obtain ⟨c0, k0, j0, z0a, z0b, z0c⟩ : ∃ (cA : ClassId) (kA : Class) (comp : ClassId), s.vm.findClass ("[" ++ FieldType.int.toString) = some cA ∧ s.vm.classes[cA]? = some kA ∧ kA.kind = .array comp .int := Cond.arrayClass_spec (hts (.arrayClass .int) (by decide +kernel))
  obtain ⟨c1, k1, j1, z1a, z1b, z1c⟩ : ∃ (cA : ClassId) (kA : Class) (comp : ClassId), s.vm.findClass ("[" ++ FieldType.long.toString) = some cA ∧ s.vm.classes[cA]? = some kA ∧ kA.kind = .array comp .long := Cond.arrayClass_spec (hts (.arrayClass .long) (by decide +kernel))
  obtain ⟨j2, c2, k2, z2a, z2b, z2c, z2d, z2e⟩ := Cond.arrayOver_spec (hts (.arrayOver (.object RX5)) (by decide +kernel))
  obtain ⟨G, hG⟩ : ∃ G : zG, G = (fun k => if k = 0 then c0 else if k = 1 then c1 else c2, D, s.heap.size, L, xs, fun e => if e = 0 then b else if e = 1 then t1 else if e = 2 then t2 else t3) := ⟨_, rfl⟩
  have g0 : G.1 0 = c0 := by rw [hG]; rfl
  have g1 : G.1 1 = c1 := by rw [hG]; rfl
  have g2 : G.1 2 = c2 := by rw [hG]; rfl
  have gD : G.2.1 = D := by rw [hG]
  have gN : G.2.2.1 = s.heap.size := by rw [hG]
  have gL : G.2.2.2.1 = L := by rw [hG]
  have gx : G.2.2.2.2.1 = xs := by rw [hG]
  have e0 : G.2.2.2.2.2 0 = b := by rw [hG]; rfl
  have e1 : G.2.2.2.2.2 1 = t1 := by rw [hG]; rfl
  have e2 : G.2.2.2.2.2 2 = t2 := by rw [hG]; rfl
  have e3 : G.2.2.2.2.2 3 = t3 := by rw [hG]; rfl
  have gA : zA G = fun q : Nat => s.heap.size ≤ q := by unfold zA; rw [gN]
  clear hG
  have hEx : zEx G s s.heap := by
    unfold zEx
    rw [gN, gL, gx, e0, e1, e2, e3, gA]
    exact ⟨⟨Nat.le_refl _, va_AO.of (hts (.arrayOver (.object RX5)) (by decide +kernel)), va_Nw.of rfl (hts (.methodLinkNest RX8 9 yX2_init RX8) (by decide +kernel)), va_Nw.of rfl (hts (.methodLinkNest RX8 18 yX3_init RX8) (by decide +kernel)), va_Nw.of rfl (hts (.methodLinkNest RX8 52 yX0_init RX8) (by decide +kernel)), va_Nw.of rfl (hts (.methodLinkNest RX8 59 yX6_init RX8) (by decide +kernel)), va_Nw.of rfl (hts (.methodLinkNest RX8 70 yX5_init RX8) (by decide +kernel))⟩, hbl, hX, ⟨y1, y2⟩, ⟨y3, y4⟩, ⟨y5, y6⟩⟩
  have hK : va_K G.2.1 zcls (ztys G) s := by
    rw [gD]
    refine ⟨hD, fun k q hk => ?_⟩
    unfold ztys at hk
    rw [g0, g1, g2] at hk
    match k, hk with
    | 0, hk => cases hk; exact ⟨fun n z => ⟨(fun k h => by cases h), k0, z0b, j0, z0c⟩, z0a⟩
    | 1, hk => cases hk; exact ⟨fun n z => ⟨(fun k h => by cases h), k1, z1b, j1, z1c⟩, z1a⟩
    | 2, hk => cases hk; exact ⟨fun n z => ⟨(fun k h => by cases h), k2, z2c, j2, z2d⟩, k2, j2, z2c, z2d, z2a, z2e⟩
    | k + 3, hk => simp at hk
  have hH : zHp G zw0 s s.heap [] := ⟨hEx, hK, fun k q h => by simp [zconc, zw0] at h, by rw [gN]; rfl, Nat.zero_le _, va_S.rf⟩
  have hl := lv_entry ([.ref b]) (n := 4) (Nat.le_of_ble_eq_true rfl)
  rw [lg_entry_eq]
  generalize (lg_sl ([.ref b]) ++ List.replicate (4 - (lg_sl ([.ref b])).length) Slot.unset).toArray = als at hl ⊢
  have hl : lv_has als 4 [(0, .ref b)] := hl
  have ez : zad G 1000 = b := (zad_ex (G := G) 0).trans e0
  refine K l G (by rw [gL]; exact hL) p e s m #[.ref b] below meth c s.heap [] als _ room_1 ⟨hx, hb, hr, hml, hown, fun w hw => hts w (List.mem_filter.mp hw).1, hlocks, fun h => absurd h (by decide), Nat.le_of_ble_eq_true rfl, Nat.le_of_ble_eq_true rfl, Nat.le_refl _, Nat.le_refl _⟩ hH ?_ ?_
  · show lv_has als 4 [(0, .ref (zad G 1000))]
    rw [ez]
    exact hl
  · intro r w' H' locs' pc' als' hq hH' hret
    have hq : r = some (.int 1) := hq
    subst hq
    obtain ⟨h1, ty, -, -⟩ := hret
    have hS : ∀ q ∈ locs', zA G q.base := hH'.2.2.2.2.2.2.2
    rw [gA] at hS
    exact va_forget hS (lw_ret hx hb hr hlocks h1)
