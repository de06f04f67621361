/-! ===== THE ABSTRACT WORLD: cells by number; what they hold by (cell, place): references, ints, longs ===== -/
/-- the tables' words that stay as they are through a call -/
def zTb : List Cond := lw_tbl.filter goodWord
theorem zTb_at {w : Cond} (i : Nat) (h : lw_tbl[i]? = some w) (g : goodWord w = true) : w ∈ zTb := List.mem_filter.mpr ⟨List.mem_of_getElem? h, g⟩
abbrev zSh : Type := Nat × Nat
abbrev zWd : Type := List zSh × (Nat → Nat → Option Nat) × (Nat → Nat → Int32) × (Nat → Nat → Int64)
/-- a method: its name, code, locals, what it returns -/
abbrev zM : Type := MethodName × ByteArray × Nat × Option FieldType
/-- what is fixed for a run: array classes; classes' numbers and slots; the heap's size at the law's entry; the script's length and ints; the addresses of script (0) and tables (1 POWERS, 2 ABOVE, 3 OWN) -/
abbrev zG : Type := (Nat → ClassId) × va_G × Nat × Nat × (Nat → Int32) × (Nat → Nat)
def zcls : List vw_C := [(RX0, TX0, 6), (RX1, TX1, 8), (RX2, TX2, 9), (RX3, TX3, 9), (RX4, TX4, 9), (RX5, TX5, 4), (RX6, TX6, 5), (RX7, TX7, 8), (RX8, TX8, 9), (RX9, TX9, 50)]
def zR (ci : Nat) : String := match ci with
  | 0 => RX0 | 1 => RX1 | 2 => RX2 | 3 => RX3 | 4 => RX4 | 5 => RX5 | 6 => RX6 | 7 => RX7 | 8 => RX8 | _ => RX9
def zT (ci : Nat) : u_T := match ci with
  | 0 => TX0 | 1 => TX1 | 2 => TX2 | 3 => TX3 | 4 => TX4 | 5 => TX5 | 6 => TX6 | 7 => TX7 | 8 => TX8 | _ => TX9
def zN (ci : Nat) : Nat := match ci with
  | 0 => 6 | 1 => 8 | 2 => 9 | 3 => 9 | 4 => 9 | 5 => 4 | 6 => 5 | 7 => 8 | 8 => 9 | _ => 50
def zty (ci : Nat) : Nat → FieldType := match ci with
  | 0 => tyX0 | 1 => tyX1 | 2 => tyX2 | 3 => tyX3 | 4 => tyX4 | 5 => tyX5 | 6 => tyX6 | 7 => tyX7 | 8 => tyX8 | _ => tyX9
theorem zlt10 {P : Nat → Prop} (h0 : P 0) (h1 : P 1) (h2 : P 2) (h3 : P 3) (h4 : P 4) (h5 : P 5) (h6 : P 6) (h7 : P 7) (h8 : P 8) (h9 : P 9) : ∀ ci, ci < 10 → P ci := by
  intro ci h
  match ci, h with
  | 0, _ => exact h0
  | 1, _ => exact h1
  | 2, _ => exact h2
  | 3, _ => exact h3
  | 4, _ => exact h4
  | 5, _ => exact h5
  | 6, _ => exact h6
  | 7, _ => exact h7
  | 8, _ => exact h8
  | 9, _ => exact h9
  | k + 10, h => omega
theorem zcls_at : ∀ ci, ci < 10 → zcls[ci]? = some (zR ci, zT ci, zN ci) := zlt10 rfl rfl rfl rfl rfl rfl rfl rfl rfl rfl
theorem zty_ok : ∀ ci, ci < 10 → ∀ k, k < zN ci → parseFieldDescriptor (zT ci k).2.2.1 = some (zty ci k) := zlt10 tyX0_ok tyX1_ok tyX2_ok tyX3_ok tyX4_ok tyX5_ok tyX6_ok tyX7_ok tyX8_ok tyX9_ok
theorem znm_ok : ∀ ci, ci < 10 → ∀ a, a < zN ci → ∀ b, b < zN ci → a ≠ b → (zT ci a).2.1 ≠ (zT ci b).2.1 := zlt10 nmX0 nmX1 nmX2 nmX3 nmX4 nmX5 nmX6 nmX7 nmX8 nmX9
/-- kinds of fields: 0 int or boolean, 1 long, 2 a reference -/
def zkof (t : FieldType) : Nat := match t with
  | .long => 1
  | .object _ => 2
  | .array _ => 2
  | _ => 0
/-- addresses: cells from the heap's size at the law's entry on; the script and the tables from 1000 on -/
def zad (G : zG) (k : Nat) : Nat := if k < 1000 then G.2.2.1 + k else G.2.2.2.2.2 (k - 1000)
def zcv (G : zG) (v : Value) : Value := match v with
  | .ref k => .ref (zad G k)
  | u => u
theorem zcv_cat (G : zG) (v : Value) : (zcv G v).category = v.category := by cases v <;> rfl
def zfv (G : zG) (w : zWd) (k ci j : Nat) : Value := match zkof (zty ci j) with
  | 0 => .int (w.2.2.1 k j)
  | 1 => .long (w.2.2.2 k j)
  | _ => va_rf ((w.2.1 k j).map (zad G))
def zce (G : zG) (w : zWd) (k : Nat) (sh : zSh) : va_E := match sh.1 with
  | 0 => .inl (G.1 0, sh.2, .inl (w.2.2.1 k))
  | 1 => .inl (G.1 1, sh.2, .inr (.inl (w.2.2.2 k)))
  | 2 => .inl (G.1 2, sh.2, .inr (.inr (.inr (.inr (fun j => (w.2.1 k j).map (zad G))))))
  | _ => .inr (sh.2, (List.range (zN sh.2)).map (zfv G w k sh.2))
def zconc (G : zG) (w : zWd) : va_W := (List.range w.1.length).map (fun k => (zad G k, zce G w k (w.1.getD k (0, 0))))
def zA (G : zG) : Nat → Prop := fun q => G.2.2.1 ≤ q
def ztys (G : zG) : List (ClassId × FieldType) := [(G.1 0, .int), (G.1 1, .long), (G.1 2, .object RX5)]
def zPOW : Nat → Int64 := fun j => ([1, 12, 144, 1728, 20736, 248832, 2985984, 35831808, 429981696, 5159780352] : List Int64).getD j 0
def zABO : Nat → Int32 := fun j => ([-1, 0, 0, 2, 1, 3, 0, 4] : List Int32).getD j 0
def zOWN : Nat → Int32 := fun j => ([1, 10, 11, 2, 20, 0, 0, 0, 0, 30, 0, 0, 0, 41, 40, 0, 0, 0, 50, 0, 0, 0, 0, 60, 70, 0, 0, 0, 0, 80, 0, 81] : List Int32).getD j 0
/-- the nest mates' constructors that ThreeSnowballs() calls -/
def zNest (U : State) : Prop := va_Nw (.methodLinkNest RX8 9 yX2_init RX8) U ∧ va_Nw (.methodLinkNest RX8 18 yX3_init RX8) U ∧ va_Nw (.methodLinkNest RX8 52 yX0_init RX8) U ∧ va_Nw (.methodLinkNest RX8 59 yX6_init RX8) U ∧ va_Nw (.methodLinkNest RX8 70 yX5_init RX8) U
theorem zNest.moved {u U : State} (hW : u.WarmedH U.vm) (h : zNest u) : zNest U := ⟨h.1.warmM hW, h.2.1.warmM hW, h.2.2.1.warmM hW, h.2.2.2.1.warmM hW, h.2.2.2.2.warmM hW⟩
/-- what lies outside: the script, the tables -/
def zEx (G : zG) (U : State) (H : Heap) : Prop :=
  (G.2.2.1 ≤ H.size ∧ va_AO RX5 U ∧ zNest U) ∧ G.2.2.2.2.2 0 < G.2.2.1 ∧ va_X (G.2.2.2.2.2 0) G.2.2.2.1 G.2.2.2.2.1 U H ∧
  (va_Z RX4 "POWERS" "[J" (.ref (G.2.2.2.2.2 1)) (zA G) U H ∧ va_T .long (G.2.2.2.2.2 1) 10 (fun j => .long (zPOW j)) (zA G) U H) ∧
  (va_Z RX6 "ABOVE" "[I" (.ref (G.2.2.2.2.2 2)) (zA G) U H ∧ va_T .int (G.2.2.2.2.2 2) 8 (fun j => .int (zABO j)) (zA G) U H) ∧
  (va_Z RX6 "OWN" "[I" (.ref (G.2.2.2.2.2 3)) (zA G) U H ∧ va_T .int (G.2.2.2.2.2 3) 32 (fun j => .int (zOWN j)) (zA G) U H)
theorem zEx.moved {G : zG} {u U : State} {H : Heap} (hW : u.WarmedH U.vm) (h : zEx G u H) : zEx G U H := by
  have hvm := hW.alike
  obtain ⟨h1, h2, h3, ⟨h4, h5⟩, ⟨h6, h7⟩, ⟨h8, h9⟩⟩ := h
  exact ⟨⟨h1.1, h1.2.1.moved hvm, h1.2.2.moved hW⟩, h2, h3.moved hvm, ⟨h4.moved hvm, h5.moved hvm⟩, ⟨h6.moved hvm, h7.moved hvm⟩, ⟨h8.moved hvm, h9.moved hvm⟩⟩
theorem zEx.kept {G : zG} {U : State} {H H1 : Heap} (h : zEx G U H) (hs : H.size ≤ H1.size) (hq : ∀ a : Nat, a < H.size → ¬ zA G a → H1[a]? = H[a]?) : zEx G U H1 := by
  obtain ⟨h1, h2, h3, ⟨h4, h5⟩, ⟨h6, h7⟩, ⟨h8, h9⟩⟩ := h
  exact ⟨⟨Nat.le_trans h1.1 hs, h1.2⟩, h2, h3.kept (hq _ (Nat.lt_of_lt_of_le h2 h1.1) (Nat.not_le.mpr h2)), ⟨h4.kept hq, h5.kept hq⟩, ⟨h6.kept hq, h7.kept hq⟩, ⟨h8.kept hq, h9.kept hq⟩⟩
/-- a method's start or end: the world w stands in the heap -/
def zPre (G : zG) (w : zWd) (U : State) : Prop :=
  zEx G U U.heap ∧ va_K G.2.1 zcls (ztys G) U ∧ va_P G.2.1 zcls (zconc G w) U.heap ∧ U.heap.size = G.2.2.1 + w.1.length ∧ w.1.length ≤ 1000
/-- within a method that began at s: the heap H holds w -/
def zHp (G : zG) (w : zWd) (s : State) (H : Heap) (locs : List Loc) : Prop :=
  zEx G s s.heap ∧ va_K G.2.1 zcls (ztys G) s ∧ va_P G.2.1 zcls (zconc G w) H ∧ H.size = G.2.2.1 + w.1.length ∧ w.1.length ≤ 1000 ∧ va_S (zA G) s.heap H locs
def zws (M : zM) : List Cond := .code M.1 M.2.1 M.2.2.1 M.2.2.2 :: zTb
def zrm (d mc ms : Nat) : Room := { frames := d, cells := mc, slots := ms, locals := 64 * d }
/-- the contract of a call: with args, from world w, at most d frames deep: it returns r and leaves w', Q r w' -/
def zCn (l : Launch) (G : zG) (d : Nat) (M : zM) (mc ms : Nat) (args : List Value) (w : zWd) (Q : Option Value → zWd → Prop) : Prop :=
  Met l M.1 (zws M) (zrm d mc ms) (va_Pc (args.map (zcv G)) (zPre G w)) (fun _ st o t => (∃ (r : Option Value) (w' : zWd), o = .returned (r.map (zcv G)) ∧ Q r w' ∧ zPre G w' t) ∧ va_F (zA G) st t) mc ms (zA G)
/-- locals: a list by number, none: not known -/
def zll (G : zG) : Nat → List (Option Value) → List (Nat × Value)
  | _, [] => []
  | i, none :: t => zll G (i + 1) t
  | i, some v :: t => (i, zcv G v) :: zll G (i + 1) t
def zen : List Value → List (Option Value)
  | [] => []
  | v :: t => if v.category = 2 then some v :: none :: zen t else some v :: zen t
def zst1 : Nat → Value → List (Option Value) → List (Option Value)
  | _, _, [] => []
  | 0, v, _ :: t => some v :: t
  | n + 1, v, a :: t => (match n, a with
    | 0, some u => if u.category = 2 then none else some u
    | _, a => a) :: zst1 n v t
def zst2 : Nat → Value → List (Option Value) → List (Option Value)
  | _, _, [] => []
  | 0, v, _ :: t => some v :: (match t with
    | [] => []
    | _ :: t2 => none :: t2)
  | n + 1, v, a :: t => (match n, a with
    | 0, some u => if u.category = 2 then none else some u
    | _, a => a) :: zst2 n v t
/-- ls' knows no more than ls -/
def zsub : List (Option Value) → List (Option Value) → Prop
  | [], _ => True
  | none :: a, ls => zsub a ls.tail
  | some v :: a, ls => ls.head? = some (some v) ∧ zsub a ls.tail
abbrev zX : Type := Launch × zG × Nat × Nat × Nat × (Option Value → zWd → Prop)
def zCx (X : zX) (M : zM) (p : Program) (s : State) (m : MethodId) (args : Array Value) (meth : Method) (c : Code) (R : Room) : Prop :=
  p.tables.exec = Jvm.exec ∧ c.code = M.2.1 ∧ meth.sig.returnType = M.2.2.2 ∧ c.maxLocals = M.2.2.1 ∧ s.vm.findClass M.1.cls = some m.cls ∧ (∀ w ∈ zTb, w.before args s = true) ∧ meth.locks = false ∧ (M.1.name = "<init>" → meth.name = "<init>") ∧
  X.2.2.1 ≤ R.frames ∧ 64 * X.2.2.1 ≤ R.locals ∧ X.2.2.2.1 ≤ R.cells ∧ X.2.2.2.2.1 ≤ R.slots
def zRet (M : zM) (pc : Nat) (r : Option Value) : Prop := match r with
  | none => decode M.2.1 pc = .ok (.return_, 1) ∧ M.2.2.2 = none
  | some (.int v) => decode M.2.1 pc = .ok (.ireturn, 1) ∧ ∃ ty, M.2.2.2 = some ty ∧ narrow ty (.int v) = .int v
  | some (.long _) => decode M.2.1 pc = .ok (.lreturn, 1) ∧ M.2.2.2 = some .long
  | _ => False
/-- from here the method comes to its end with Q -/
def zWp (X : zX) (M : zM) (cs : Nat × Nat) (pc : Nat) (ls : List (Option Value)) (st : List Value) (w : zWd) : Prop :=
  ∀ (p : Program) (e : Env) (s : State) (m : MethodId) (args : Array Value) (below : List Frame) (meth : Method) (c : Code) (H : Heap) (locs : List Loc) (als : Array Slot) (Qf : State → Prop) (R : Room),
    zCx X M p s m args meth c R → zHp X.2.1 w s H locs → lv_has als M.2.2.1 (zll X.2.1 0 ls) →
    (∀ (r : Option Value) (w' : zWd) (H' : Heap) (locs' : List Loc) (pc' : Nat) (als' : Array Slot), X.2.2.2.2.2 r w' → zHp X.2.1 w' s H' locs' → zRet M pc' r →
      W p X.1 e R s m args below meth c H' locs' X.2.2.2.1 X.2.2.2.2.1 Qf (F0 m pc' als' (r.map (zcv X.2.1)).toList)) →
    W p X.1 e R s m args below meth c H locs cs.1 cs.2 Qf (F0 m pc als (st.map (zcv X.2.1)))
/-! locals -/
theorem zll_mem {G : zG} : ∀ (ls : List (Option Value)) (k i : Nat) (v : Value), ls[i]? = some (some v) → (k + i, zcv G v) ∈ zll G k ls
  | [], k, i, v, h => by simp at h
  | none :: t, k, 0, v, h => by simp at h
  | none :: t, k, i + 1, v, h => by
    rw [List.getElem?_cons_succ] at h
    have := zll_mem (G := G) t (k + 1) i v h
    simp only [zll]
    rw [show k + (i + 1) = k + 1 + i by omega]
    exact this
  | some u :: t, k, 0, v, h => by
    rw [List.getElem?_cons_zero] at h
    cases h
    simp [zll]
  | some u :: t, k, i + 1, v, h => by
    rw [List.getElem?_cons_succ] at h
    have := zll_mem (G := G) t (k + 1) i v h
    simp only [zll]
    rw [show k + (i + 1) = k + 1 + i by omega]
    exact List.mem_cons_of_mem _ this
theorem zll_inv {G : zG} : ∀ (ls : List (Option Value)) (k : Nat) (q : Nat × Value), q ∈ zll G k ls → ∃ (i : Nat) (v : Value), q = (k + i, zcv G v) ∧ ls[i]? = some (some v)
  | [], k, q, h => by simp [zll] at h
  | none :: t, k, q, h => by
    simp only [zll] at h
    obtain ⟨i, v, h1, h2⟩ := zll_inv t (k + 1) q h
    exact ⟨i + 1, v, by rw [h1]; congr 1; omega, by rw [List.getElem?_cons_succ]; exact h2⟩
  | some u :: t, k, q, h => by
    simp only [zll] at h
    rcases List.mem_cons.mp h with h | h
    · exact ⟨0, u, h, rfl⟩
    · obtain ⟨i, v, h1, h2⟩ := zll_inv t (k + 1) q h
      exact ⟨i + 1, v, by rw [h1]; congr 1; omega, by rw [List.getElem?_cons_succ]; exact h2⟩
theorem zll_at {G : zG} {als : Array Slot} {n i : Nat} {ls : List (Option Value)} {v : Value} (h : lv_has als n (zll G 0 ls)) (hi : ls[i]? = some (some v)) : als[i]? = some (.val (zcv G v)) := by
  have h1 := h.2.2 _ (zll_mem (G := G) ls 0 i v hi)
  simpa using h1
theorem zll_of {G : zG} {als : Array Slot} {n : Nat} {ls : List (Option Value)} (h1 : als.size = n) (h2 : lv_wf als) (h3 : ∀ (i : Nat) (v : Value), ls[i]? = some (some v) → als[i]? = some (.val (zcv G v))) : lv_has als n (zll G 0 ls) := by
  refine ⟨h1, h2, fun q hq => ?_⟩
  obtain ⟨i, v, e, h⟩ := zll_inv ls 0 q hq
  subst e
  simpa using h3 i v h
theorem zsub_at : ∀ (a ls : List (Option Value)), zsub a ls → ∀ (i : Nat) (v : Value), a[i]? = some (some v) → ls[i]? = some (some v)
  | [], _, _, i, v, h => by simp at h
  | none :: a, ls, hs, 0, v, h => by simp at h
  | none :: a, ls, hs, i + 1, v, h => by
    rw [List.getElem?_cons_succ] at h
    have := zsub_at a ls.tail hs i v h
    simpa using this
  | some u :: a, ls, hs, 0, v, h => by
    rw [List.getElem?_cons_zero] at h
    cases h
    have := hs.1
    cases ls with
    | nil => simp at this
    | cons x t => simpa using this
  | some u :: a, ls, hs, i + 1, v, h => by
    rw [List.getElem?_cons_succ] at h
    have := zsub_at a ls.tail hs.2 i v h
    simpa using this
theorem zst1_at : ∀ (n : Nat) (v : Value) (ls : List (Option Value)) (j : Nat) (u : Value), (zst1 n v ls)[j]? = some (some u) → (j = n ∧ u = v) ∨ (j ≠ n ∧ ls[j]? = some (some u) ∧ ¬ (j + 1 = n ∧ u.category = 2))
  | n, v, [], j, u, h => by cases n <;> simp [zst1] at h
  | 0, v, a :: t, 0, u, h => by
    simp [zst1] at h
    exact Or.inl ⟨rfl, h.symm⟩
  | 0, v, a :: t, j + 1, u, h => by
    simp only [zst1, List.getElem?_cons_succ] at h
    exact Or.inr ⟨by omega, by rw [List.getElem?_cons_succ]; exact h, by omega⟩
  | n + 1, v, a :: t, 0, u, h => by
    simp only [zst1, List.getElem?_cons_zero, Option.some.injEq] at h
    refine Or.inr ⟨by omega, ?_, ?_⟩
    · rw [List.getElem?_cons_zero]
      cases n with
      | zero =>
        cases a with
        | none => simp at h
        | some x =>
          simp only at h
          split at h
          · cases h
          · rw [h]
      | succ k => simpa using h
    · rintro ⟨h1, h2⟩
      obtain rfl : n = 0 := by omega
      cases a with
      | none => simp at h
      | some x =>
        simp only at h
        split at h
        · cases h
        · rename_i hx
          cases h
          exact hx h2
  | n + 1, v, a :: t, j + 1, u, h => by
    simp only [zst1, List.getElem?_cons_succ] at h
    rcases zst1_at n v t j u h with ⟨h1, h2⟩ | ⟨h1, h2, h3⟩
    · exact Or.inl ⟨by omega, h2⟩
    · exact Or.inr ⟨by omega, by rw [List.getElem?_cons_succ]; exact h2, fun q => h3 ⟨by omega, q.2⟩⟩
theorem zst2_at : ∀ (n : Nat) (v : Value) (ls : List (Option Value)) (j : Nat) (u : Value), (zst2 n v ls)[j]? = some (some u) → (j = n ∧ u = v) ∨ (j ≠ n ∧ j ≠ n + 1 ∧ ls[j]? = some (some u) ∧ ¬ (j + 1 = n ∧ u.category = 2))
  | n, v, [], j, u, h => by cases n <;> simp [zst2] at h
  | 0, v, a :: t, 0, u, h => by
    simp [zst2] at h
    exact Or.inl ⟨rfl, h.symm⟩
  | 0, v, a :: [], j + 1, u, h => by simp [zst2] at h
  | 0, v, a :: b :: t, 1, u, h => by simp [zst2] at h
  | 0, v, a :: b :: t, j + 2, u, h => by
    simp only [zst2, List.getElem?_cons_succ] at h
    exact Or.inr ⟨by omega, by omega, by rw [List.getElem?_cons_succ, List.getElem?_cons_succ]; exact h, by omega⟩
  | n + 1, v, a :: t, 0, u, h => by
    simp only [zst2, List.getElem?_cons_zero, Option.some.injEq] at h
    refine Or.inr ⟨by omega, by omega, ?_, ?_⟩
    · rw [List.getElem?_cons_zero]
      cases n with
      | zero =>
        cases a with
        | none => simp at h
        | some x =>
          simp only at h
          split at h
          · cases h
          · rw [h]
      | succ k => simpa using h
    · rintro ⟨h1, h2⟩
      obtain rfl : n = 0 := by omega
      cases a with
      | none => simp at h
      | some x =>
        simp only at h
        split at h
        · cases h
        · rename_i hx
          cases h
          exact hx h2
  | n + 1, v, a :: t, j + 1, u, h => by
    simp only [zst2, List.getElem?_cons_succ] at h
    rcases zst2_at n v t j u h with ⟨h1, h2⟩ | ⟨h1, h2, h3, h4⟩
    · exact Or.inl ⟨by omega, h2⟩
    · exact Or.inr ⟨by omega, by omega, by rw [List.getElem?_cons_succ]; exact h3, fun q => h4 ⟨by omega, q.2⟩⟩
theorem zst1_has {G : zG} {als : Array Slot} {nL n : Nat} {v : Value} {ls : List (Option Value)} (h : lv_has als nL (zll G 0 ls))
    (h' : lv_has als nL ((n, zcv G v) :: (zll G 0 ls).filter (fun q => !(q.1 == n) && !(q.1 + 1 == n && q.2.category == 2)))) : True := trivial
theorem zst1_ok {G : zG} {als : Array Slot} {nL n : Nat} {v : Value} {ls : List (Option Value)}
    (h : lv_has als nL ((n, zcv G v) :: (zll G 0 ls).filter (fun q => !(q.1 == n) && !(q.1 + 1 == n && q.2.category == 2)))) : lv_has als nL (zll G 0 (zst1 n v ls)) := by
  refine zll_of h.1 h.2.1 fun j u hj => ?_
  rcases zst1_at n v ls j u hj with ⟨h1, h2⟩ | ⟨h1, h2, h3⟩
  · subst h1; subst h2
    exact h.2.2 (_, _) List.mem_cons_self
  · refine h.2.2 (j, zcv G u) (List.mem_cons_of_mem _ (List.mem_filter.mpr ⟨by simpa using zll_mem (G := G) ls 0 j u h2, ?_⟩))
    simp only [Bool.and_eq_true, Bool.not_eq_true', beq_eq_false_iff_ne, ne_eq, Bool.and_eq_false_iff]
    refine ⟨h1, ?_⟩
    by_cases a : j + 1 = n
    · right
      rw [zcv_cat]
      exact fun q => h3 ⟨a, q⟩
    · exact Or.inl a
theorem zst2_ok {G : zG} {als : Array Slot} {nL n : Nat} {v : Value} {ls : List (Option Value)}
    (h : lv_has als nL ((n, zcv G v) :: (zll G 0 ls).filter (fun q => !(q.1 == n) && (!(q.1 == n + 1) && !(q.1 + 1 == n && q.2.category == 2))))) : lv_has als nL (zll G 0 (zst2 n v ls)) := by
  refine zll_of h.1 h.2.1 fun j u hj => ?_
  rcases zst2_at n v ls j u hj with ⟨h1, h2⟩ | ⟨h1, h1b, h2, h3⟩
  · subst h1; subst h2
    exact h.2.2 (_, _) List.mem_cons_self
  · refine h.2.2 (j, zcv G u) (List.mem_cons_of_mem _ (List.mem_filter.mpr ⟨by simpa using zll_mem (G := G) ls 0 j u h2, ?_⟩))
    simp only [Bool.and_eq_true, Bool.not_eq_true', beq_eq_false_iff_ne, ne_eq, Bool.and_eq_false_iff]
    refine ⟨h1, h1b, ?_⟩
    by_cases a : j + 1 = n
    · right
      rw [zcv_cat]
      exact fun q => h3 ⟨a, q⟩
    · exact Or.inl a
theorem zen_lv {G : zG} : ∀ (args : List Value) (i k : Nat), zll G i (zen args ++ List.replicate k none) = lv_args i (args.map (zcv G))
  | [], i, k => by
    show zll G i ([] ++ List.replicate k none) = []
    induction k generalizing i with
    | zero => rfl
    | succ k ih => exact ih (i + 1)
  | v :: t, i, k => by
    by_cases hc : v.category = 2
    · have hc' : (zcv G v).category = 2 := by rw [zcv_cat]; exact hc
      simp only [zen, if_pos hc, List.cons_append, zll, List.map_cons, lv_args, if_pos hc']
      rw [zen_lv t (i + 1 + 1) k]
    · have hc' : ¬ (zcv G v).category = 2 := by rw [zcv_cat]; exact hc
      simp only [zen, if_neg hc, List.cons_append, zll, List.map_cons, lv_args, if_neg hc']
      rw [zen_lv t (i + 1) k]
theorem zen_len {G : zG} : ∀ (args : List Value), (lg_sl (args.map (zcv G))).length = (zen args).length
  | [] => rfl
  | v :: t => by
    have ih := zen_len (G := G) t
    by_cases hc : v.category = 2
    · have hc' : (zcv G v).category = 2 := by rw [zcv_cat]; exact hc
      simp only [lg_sl, List.map_cons, List.flatMap_cons, if_pos hc', zen, if_pos hc, List.length_append, List.length_cons, List.length_nil] at ih ⊢
      omega
    · have hc' : ¬ (zcv G v).category = 2 := by rw [zcv_cat]; exact hc
      simp only [lg_sl, List.map_cons, List.flatMap_cons, if_neg hc', zen, if_neg hc, List.length_append, List.length_cons, List.length_nil] at ih ⊢
      omega
/-! the world's list -/
theorem zconc_len (G : zG) (w : zWd) : (zconc G w).length = w.1.length := by simp [zconc]
theorem zconc_get {G : zG} {w : zWd} {k : Nat} {sh : zSh} (h : w.1[k]? = some sh) : (zconc G w)[k]? = some (zad G k, zce G w k sh) := by
  have hk : k < w.1.length := (List.getElem?_eq_some_iff.mp h).1
  unfold zconc
  rw [List.getElem?_map, List.getElem?_range hk, Option.map_some, List.getD_eq_getElem?_getD, h]
  rfl
theorem zconc_inv {G : zG} {w : zWd} {k : Nat} {q : Nat × va_E} (h : (zconc G w)[k]? = some q) : ∃ sh, w.1[k]? = some sh ∧ q = (zad G k, zce G w k sh) := by
  have hk : k < w.1.length := by rw [← zconc_len G w]; exact (List.getElem?_eq_some_iff.mp h).1
  refine ⟨w.1[k], List.getElem?_eq_getElem hk, ?_⟩
  have := zconc_get (G := G) (List.getElem?_eq_getElem hk)
  rw [h] at this
  exact Option.some.inj this
theorem zconc_set {G : zG} {w w' : zWd} {k : Nat} {sh : zSh} {E : va_E} (h : w.1[k]? = some sh) (h1 : w'.1 = w.1) (h2 : E = zce G w' k sh) (h3 : ∀ (j : Nat) (sh' : zSh), j ≠ k → zce G w' j sh' = zce G w j sh') : (zconc G w).set k (zad G k, E) = zconc G w' := by
  have hk : k < w.1.length := (List.getElem?_eq_some_iff.mp h).1
  subst h2
  apply List.ext_getElem?
  intro j
  by_cases hj : j = k
  · subst hj
    rw [List.getElem?_set_self (by rw [zconc_len]; exact hk), zconc_get (w := w') (by rw [h1]; exact h)]
  · rw [List.getElem?_set_ne (Ne.symm hj)]
    by_cases hl : j < w.1.length
    · have e := List.getElem?_eq_getElem hl
      rw [zconc_get e, zconc_get (w := w') (by rw [h1]; exact e), h3 j _ hj]
    · rw [List.getElem?_eq_none (by rw [zconc_len]; omega), List.getElem?_eq_none (by rw [zconc_len, h1]; omega)]
theorem zad_lt {G : zG} {k : Nat} (h : k < 1000) : zad G k = G.2.2.1 + k := if_pos h
theorem zD {G : zG} {w : zWd} (h : w.1.length ≤ 1000) : va_D (zA G) (zconc G w) := by
  refine ⟨fun i j x y hi hj hxy => ?_, fun k q hk => ?_⟩
  · obtain ⟨s1, e1, rfl⟩ := zconc_inv hi
    obtain ⟨s2, e2, rfl⟩ := zconc_inv hj
    have l1 := (List.getElem?_eq_some_iff.mp e1).1
    have l2 := (List.getElem?_eq_some_iff.mp e2).1
    have e : zad G i = zad G j := hxy
    rw [zad_lt (by omega), zad_lt (by omega)] at e
    omega
  · obtain ⟨s1, e1, rfl⟩ := zconc_inv hk
    have l1 := (List.getElem?_eq_some_iff.mp e1).1
    show G.2.2.1 ≤ zad G k
    rw [zad_lt (by omega)]
    omega
/-! writing -/
def zuI (w : zWd) (k i : Nat) (v : Int32) : zWd := (w.1, w.2.1, fun a b => if a = k ∧ b = i then v else w.2.2.1 a b, w.2.2.2)
def zuL (w : zWd) (k i : Nat) (v : Int64) : zWd := (w.1, w.2.1, w.2.2.1, fun a b => if a = k ∧ b = i then v else w.2.2.2 a b)
def zuR (w : zWd) (k i : Nat) (v : Option Nat) : zWd := (w.1, fun a b => if a = k ∧ b = i then v else w.2.1 a b, w.2.2.1, w.2.2.2)
theorem zce_congr {G : zG} {w w' : zWd} {j : Nat} (hR : ∀ b, w'.2.1 j b = w.2.1 j b) (hI : ∀ b, w'.2.2.1 j b = w.2.2.1 j b) (hL : ∀ b, w'.2.2.2 j b = w.2.2.2 j b) (sh : zSh) : zce G w' j sh = zce G w j sh := by
  have e1 : w'.2.1 j = w.2.1 j := funext hR
  have e2 : w'.2.2.1 j = w.2.2.1 j := funext hI
  have e3 : w'.2.2.2 j = w.2.2.2 j := funext hL
  have e4 : zfv G w' j sh.2 = zfv G w j sh.2 := by funext b; unfold zfv; rw [e1, e2, e3]
  unfold zce
  rw [e1, e2, e3, e4]
theorem zuI_off {G : zG} {w : zWd} {k i : Nat} {v : Int32} (j : Nat) (sh : zSh) (hj : j ≠ k) : zce G (zuI w k i v) j sh = zce G w j sh := by
  refine zce_congr (w := w) (w' := zuI w k i v) (fun _ => rfl) (fun b => ?_) (fun _ => rfl) sh
  exact if_neg fun q => hj q.1
theorem zuL_off {G : zG} {w : zWd} {k i : Nat} {v : Int64} (j : Nat) (sh : zSh) (hj : j ≠ k) : zce G (zuL w k i v) j sh = zce G w j sh := by
  refine zce_congr (w := w) (w' := zuL w k i v) (fun _ => rfl) (fun _ => rfl) (fun b => ?_) sh
  exact if_neg fun q => hj q.1
theorem zuR_off {G : zG} {w : zWd} {k i : Nat} {v : Option Nat} (j : Nat) (sh : zSh) (hj : j ≠ k) : zce G (zuR w k i v) j sh = zce G w j sh := by
  refine zce_congr (w := w) (w' := zuR w k i v) (fun b => ?_) (fun _ => rfl) (fun _ => rfl) sh
  exact if_neg fun q => hj q.1
theorem zrange_set {f g : Nat → Value} {N i : Nat} {v : Value} (hv : i < N → g i = v) (ho : ∀ j, j ≠ i → g j = f j) : ((List.range N).map f).set i v = (List.range N).map g := by
  apply List.ext_getElem?
  intro j
  by_cases hj : j = i
  · subst hj
    by_cases hl : j < N
    · rw [List.getElem?_set_self (by simpa using hl), List.getElem?_map, List.getElem?_range hl, Option.map_some, hv hl]
    · rw [List.getElem?_eq_none (by simp; omega), List.getElem?_eq_none (by simp; omega)]
  · rw [List.getElem?_set_ne (Ne.symm hj), List.getElem?_map, List.getElem?_map]
    by_cases hl : j < N
    · rw [List.getElem?_range hl, Option.map_some, Option.map_some, ho j hj]
    · rw [List.getElem?_eq_none (by simp; omega)]
      rfl
