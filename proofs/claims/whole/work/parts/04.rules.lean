/-! ===== rows: an instruction, over zWp (written by wip/whole/gen/rules.py) ===== -/
theorem z_iconst {X : zX} {M : zM} {cs : Nat × Nat} {pc pc' : Nat} {ls : List (Option Value)} {st : List Value} {w : zWd} {n : Int} {v : Int32} (hd : decode M.2.1 pc = .ok (.iconst n, 1)) (hp : pc + 1 = pc') (hv : Int32.ofInt n = v) (kk : zWp X M cs pc' ls (.int v :: st) w) : zWp X M cs pc ls (st) w := by
  subst hp
  intro p e s m args below meth c H locs als Qf R C hH hl F
  exact lv_iconst C.1 C.2.1 hd hv (kk p e s m args below meth c H locs als Qf R C hH hl F)
theorem z_bipush {X : zX} {M : zM} {cs : Nat × Nat} {pc pc' : Nat} {ls : List (Option Value)} {st : List Value} {w : zWd} {n : Int} {v : Int32} (hd : decode M.2.1 pc = .ok (.bipush n, 2)) (hp : pc + 2 = pc') (hv : (Int8.ofInt n).toInt32 = v) (kk : zWp X M cs pc' ls (.int v :: st) w) : zWp X M cs pc ls (st) w := by
  subst hp
  intro p e s m args below meth c H locs als Qf R C hH hl F
  exact lv_bipush C.1 C.2.1 hd hv (kk p e s m args below meth c H locs als Qf R C hH hl F)
theorem z_sipush {X : zX} {M : zM} {cs : Nat × Nat} {pc pc' : Nat} {ls : List (Option Value)} {st : List Value} {w : zWd} {n : Int} {v : Int32} (hd : decode M.2.1 pc = .ok (.sipush n, 3)) (hp : pc + 3 = pc') (hv : (Int16.ofInt n).toInt32 = v) (kk : zWp X M cs pc' ls (.int v :: st) w) : zWp X M cs pc ls (st) w := by
  subst hp
  intro p e s m args below meth c H locs als Qf R C hH hl F
  exact lv_sipush C.1 C.2.1 hd hv (kk p e s m args below meth c H locs als Qf R C hH hl F)
theorem z_lconst {X : zX} {M : zM} {cs : Nat × Nat} {pc pc' : Nat} {ls : List (Option Value)} {st : List Value} {w : zWd} {n : Fin 2} {v : Int64} (hd : decode M.2.1 pc = .ok (.lconst n, 1)) (hp : pc + 1 = pc') (hv : Int64.ofNat (n : Nat) = v) (kk : zWp X M cs pc' ls (.long v :: st) w) : zWp X M cs pc ls (st) w := by
  subst hp
  intro p e s m args below meth c H locs als Qf R C hH hl F
  exact lv_lconst C.1 C.2.1 hd hv (kk p e s m args below meth c H locs als Qf R C hH hl F)
theorem z_ldc {X : zX} {M : zM} {cs : Nat × Nat} {pc pc' : Nat} {ls : List (Option Value)} {st : List Value} {w : zWd} {n : Nat} {v : Int32} (hd : decode M.2.1 pc = .ok (.ldc n, 2)) (hp : pc + 2 = pc') (hv : Cond.constant M.1.cls n v ∈ zTb) (kk : zWp X M cs pc' ls (.int v :: st) w) : zWp X M cs pc ls (st) w := by
  subst hp
  intro p e s m args below meth c H locs als Qf R C hH hl F
  exact lv_ldc C.1 C.2.1 C.2.2.2.2.1 (C.2.2.2.2.2.1 _ hv) hd (kk p e s m args below meth c H locs als Qf R C hH hl F)
theorem z_ldc2 {X : zX} {M : zM} {cs : Nat × Nat} {pc pc' : Nat} {ls : List (Option Value)} {st : List Value} {w : zWd} {n : Nat} {v : Int64} (hd : decode M.2.1 pc = .ok (.ldc2_w n, 3)) (hp : pc + 3 = pc') (hv : Cond.constantLong M.1.cls n v ∈ zTb) (kk : zWp X M cs pc' ls (.long v :: st) w) : zWp X M cs pc ls (st) w := by
  subst hp
  intro p e s m args below meth c H locs als Qf R C hH hl F
  exact lv_ldc2 C.1 C.2.1 C.2.2.2.2.1 (C.2.2.2.2.2.1 _ hv) hd (kk p e s m args below meth c H locs als Qf R C hH hl F)
theorem z_iload_n {X : zX} {M : zM} {cs : Nat × Nat} {pc pc' : Nat} {ls : List (Option Value)} {st : List Value} {w : zWd} {k : Fin 4} {x : Int32} (hd : decode M.2.1 pc = .ok (.iload_n k, 1)) (hp : pc + 1 = pc') (hx : ls[(k : Nat)]? = some (some (.int x))) (kk : zWp X M cs pc' ls (.int x :: st) w) : zWp X M cs pc ls (st) w := by
  subst hp
  intro p e s m args below meth c H locs als Qf R C hH hl F
  exact lv_iload_n C.1 C.2.1 hd rfl (zll_at hl hx) (kk p e s m args below meth c H locs als Qf R C hH hl F)
theorem z_iload {X : zX} {M : zM} {cs : Nat × Nat} {pc pc' : Nat} {ls : List (Option Value)} {st : List Value} {w : zWd} {i : Nat} {x : Int32} (hd : decode M.2.1 pc = .ok (.iload i, 2)) (hp : pc + 2 = pc') (hx : ls[i]? = some (some (.int x))) (kk : zWp X M cs pc' ls (.int x :: st) w) : zWp X M cs pc ls (st) w := by
  subst hp
  intro p e s m args below meth c H locs als Qf R C hH hl F
  exact lv_iload C.1 C.2.1 hd (zll_at hl hx) (kk p e s m args below meth c H locs als Qf R C hH hl F)
theorem z_lload_n {X : zX} {M : zM} {cs : Nat × Nat} {pc pc' : Nat} {ls : List (Option Value)} {st : List Value} {w : zWd} {k : Fin 4} {x : Int64} (hd : decode M.2.1 pc = .ok (.lload_n k, 1)) (hp : pc + 1 = pc') (hx : ls[(k : Nat)]? = some (some (.long x))) (kk : zWp X M cs pc' ls (.long x :: st) w) : zWp X M cs pc ls (st) w := by
  subst hp
  intro p e s m args below meth c H locs als Qf R C hH hl F
  exact lv_lload_n C.1 C.2.1 hd rfl (zll_at hl hx) (kk p e s m args below meth c H locs als Qf R C hH hl F)
theorem z_lload {X : zX} {M : zM} {cs : Nat × Nat} {pc pc' : Nat} {ls : List (Option Value)} {st : List Value} {w : zWd} {i : Nat} {x : Int64} (hd : decode M.2.1 pc = .ok (.lload i, 2)) (hp : pc + 2 = pc') (hx : ls[i]? = some (some (.long x))) (kk : zWp X M cs pc' ls (.long x :: st) w) : zWp X M cs pc ls (st) w := by
  subst hp
  intro p e s m args below meth c H locs als Qf R C hH hl F
  exact lv_lload C.1 C.2.1 hd (zll_at hl hx) (kk p e s m args below meth c H locs als Qf R C hH hl F)
theorem z_aload_n {X : zX} {M : zM} {cs : Nat × Nat} {pc pc' : Nat} {ls : List (Option Value)} {st : List Value} {w : zWd} {k : Fin 4} {x : Nat} (hd : decode M.2.1 pc = .ok (.aload_n k, 1)) (hp : pc + 1 = pc') (hx : ls[(k : Nat)]? = some (some (.ref x))) (kk : zWp X M cs pc' ls (.ref x :: st) w) : zWp X M cs pc ls (st) w := by
  subst hp
  intro p e s m args below meth c H locs als Qf R C hH hl F
  exact lv_aload_n C.1 C.2.1 hd rfl (zll_at hl hx) (kk p e s m args below meth c H locs als Qf R C hH hl F)
theorem z_aload {X : zX} {M : zM} {cs : Nat × Nat} {pc pc' : Nat} {ls : List (Option Value)} {st : List Value} {w : zWd} {i : Nat} {x : Nat} (hd : decode M.2.1 pc = .ok (.aload i, 2)) (hp : pc + 2 = pc') (hx : ls[i]? = some (some (.ref x))) (kk : zWp X M cs pc' ls (.ref x :: st) w) : zWp X M cs pc ls (st) w := by
  subst hp
  intro p e s m args below meth c H locs als Qf R C hH hl F
  exact lv_aload C.1 C.2.1 hd (zll_at hl hx) (kk p e s m args below meth c H locs als Qf R C hH hl F)
theorem z_istore_n {X : zX} {M : zM} {cs : Nat × Nat} {pc pc' : Nat} {ls : List (Option Value)} {st : List Value} {w : zWd} {ls' : List (Option Value)} {k : Fin 4} {x : Int32} (hd : decode M.2.1 pc = .ok (.istore_n k, 1)) (hp : pc + 1 = pc') (hi : (k : Nat) < M.2.2.1) (hs : zst1 (k : Nat) (.int x) ls = ls') (kk : zWp X M cs pc' ls' st w) : zWp X M cs pc ls (.int x :: st) w := by
  subst hp
  subst hs
  intro p e s m args below meth c H locs als Qf R C hH hl F
  exact lv_istore_n C.1 C.2.1 hd rfl hl hi rfl (fun als' hl' => kk p e s m args below meth c H locs als' Qf R C hH (zst1_ok hl') F)
theorem z_istore {X : zX} {M : zM} {cs : Nat × Nat} {pc pc' : Nat} {ls : List (Option Value)} {st : List Value} {w : zWd} {ls' : List (Option Value)} {i : Nat} {x : Int32} (hd : decode M.2.1 pc = .ok (.istore i, 2)) (hp : pc + 2 = pc') (hi : i < M.2.2.1) (hs : zst1 i (.int x) ls = ls') (kk : zWp X M cs pc' ls' st w) : zWp X M cs pc ls (.int x :: st) w := by
  subst hp
  subst hs
  intro p e s m args below meth c H locs als Qf R C hH hl F
  exact lv_istore C.1 C.2.1 hd hl hi rfl (fun als' hl' => kk p e s m args below meth c H locs als' Qf R C hH (zst1_ok hl') F)
theorem z_lstore_n {X : zX} {M : zM} {cs : Nat × Nat} {pc pc' : Nat} {ls : List (Option Value)} {st : List Value} {w : zWd} {ls' : List (Option Value)} {k : Fin 4} {x : Int64} (hd : decode M.2.1 pc = .ok (.lstore_n k, 1)) (hp : pc + 1 = pc') (hi : (k : Nat) + 1 < M.2.2.1) (hs : zst2 (k : Nat) (.long x) ls = ls') (kk : zWp X M cs pc' ls' st w) : zWp X M cs pc ls (.long x :: st) w := by
  subst hp
  subst hs
  intro p e s m args below meth c H locs als Qf R C hH hl F
  exact lv_lstore_n C.1 C.2.1 hd rfl hl hi rfl (fun als' hl' => kk p e s m args below meth c H locs als' Qf R C hH (zst2_ok hl') F)
theorem z_lstore {X : zX} {M : zM} {cs : Nat × Nat} {pc pc' : Nat} {ls : List (Option Value)} {st : List Value} {w : zWd} {ls' : List (Option Value)} {i : Nat} {x : Int64} (hd : decode M.2.1 pc = .ok (.lstore i, 2)) (hp : pc + 2 = pc') (hi : i + 1 < M.2.2.1) (hs : zst2 i (.long x) ls = ls') (kk : zWp X M cs pc' ls' st w) : zWp X M cs pc ls (.long x :: st) w := by
  subst hp
  subst hs
  intro p e s m args below meth c H locs als Qf R C hH hl F
  exact lv_lstore C.1 C.2.1 hd hl hi rfl (fun als' hl' => kk p e s m args below meth c H locs als' Qf R C hH (zst2_ok hl') F)
theorem z_astore_n {X : zX} {M : zM} {cs : Nat × Nat} {pc pc' : Nat} {ls : List (Option Value)} {st : List Value} {w : zWd} {ls' : List (Option Value)} {k : Fin 4} {x : Nat} (hd : decode M.2.1 pc = .ok (.astore_n k, 1)) (hp : pc + 1 = pc') (hi : (k : Nat) < M.2.2.1) (hs : zst1 (k : Nat) (.ref x) ls = ls') (kk : zWp X M cs pc' ls' st w) : zWp X M cs pc ls (.ref x :: st) w := by
  subst hp
  subst hs
  intro p e s m args below meth c H locs als Qf R C hH hl F
  exact lv_astore_n C.1 C.2.1 hd rfl hl hi rfl (fun als' hl' => kk p e s m args below meth c H locs als' Qf R C hH (zst1_ok hl') F)
theorem z_astore {X : zX} {M : zM} {cs : Nat × Nat} {pc pc' : Nat} {ls : List (Option Value)} {st : List Value} {w : zWd} {ls' : List (Option Value)} {i : Nat} {x : Nat} (hd : decode M.2.1 pc = .ok (.astore i, 2)) (hp : pc + 2 = pc') (hi : i < M.2.2.1) (hs : zst1 i (.ref x) ls = ls') (kk : zWp X M cs pc' ls' st w) : zWp X M cs pc ls (.ref x :: st) w := by
  subst hp
  subst hs
  intro p e s m args below meth c H locs als Qf R C hH hl F
  exact lv_astore C.1 C.2.1 hd hl hi rfl (fun als' hl' => kk p e s m args below meth c H locs als' Qf R C hH (zst1_ok hl') F)
theorem z_iinc {X : zX} {M : zM} {cs : Nat × Nat} {pc pc' : Nat} {ls : List (Option Value)} {st : List Value} {w : zWd} {ls' : List (Option Value)} {i : Nat} {n : Int} {x v : Int32} (hd : decode M.2.1 pc = .ok (.iinc i n, 3)) (hp : pc + 3 = pc') (hx : ls[i]? = some (some (.int x))) (hv : x + Int32.ofInt n = v) (hi : i < M.2.2.1) (hs : zst1 i (.int v) ls = ls') (kk : zWp X M cs pc' ls' st w) : zWp X M cs pc ls st w := by
  subst hp
  subst hs
  intro p e s m args below meth c H locs als Qf R C hH hl F
  obtain ⟨k, hk⟩ := List.getElem?_of_mem (zll_mem (G := X.2.1) ls 0 i (.int x) hx)
  rw [Nat.zero_add] at hk
  exact lv_iinc C.1 C.2.1 hd hl hk hv hi rfl (fun als' hl' => kk p e s m args below meth c H locs als' Qf R C hH (zst1_ok hl') F)
theorem z_iadd {X : zX} {M : zM} {cs : Nat × Nat} {pc pc' : Nat} {ls : List (Option Value)} {st : List Value} {w : zWd} {x y : Int32} (hd : decode M.2.1 pc = .ok (.iadd, 1)) (hp : pc + 1 = pc')  (kk : zWp X M cs pc' ls (.int (x + y) :: st) w) : zWp X M cs pc ls (.int y :: .int x :: st) w := by
  subst hp
  intro p e s m args below meth c H locs als Qf R C hH hl F
  exact lv_iadd C.1 C.2.1 hd (kk p e s m args below meth c H locs als Qf R C hH hl F)
theorem z_isub {X : zX} {M : zM} {cs : Nat × Nat} {pc pc' : Nat} {ls : List (Option Value)} {st : List Value} {w : zWd} {x y : Int32} (hd : decode M.2.1 pc = .ok (.isub, 1)) (hp : pc + 1 = pc')  (kk : zWp X M cs pc' ls (.int (x - y) :: st) w) : zWp X M cs pc ls (.int y :: .int x :: st) w := by
  subst hp
  intro p e s m args below meth c H locs als Qf R C hH hl F
  exact lv_isub C.1 C.2.1 hd (kk p e s m args below meth c H locs als Qf R C hH hl F)
theorem z_imul {X : zX} {M : zM} {cs : Nat × Nat} {pc pc' : Nat} {ls : List (Option Value)} {st : List Value} {w : zWd} {x y : Int32} (hd : decode M.2.1 pc = .ok (.imul, 1)) (hp : pc + 1 = pc')  (kk : zWp X M cs pc' ls (.int (x * y) :: st) w) : zWp X M cs pc ls (.int y :: .int x :: st) w := by
  subst hp
  intro p e s m args below meth c H locs als Qf R C hH hl F
  exact lv_imul C.1 C.2.1 hd (kk p e s m args below meth c H locs als Qf R C hH hl F)
theorem z_iand {X : zX} {M : zM} {cs : Nat × Nat} {pc pc' : Nat} {ls : List (Option Value)} {st : List Value} {w : zWd} {x y : Int32} (hd : decode M.2.1 pc = .ok (.iand, 1)) (hp : pc + 1 = pc')  (kk : zWp X M cs pc' ls (.int (x &&& y) :: st) w) : zWp X M cs pc ls (.int y :: .int x :: st) w := by
  subst hp
  intro p e s m args below meth c H locs als Qf R C hH hl F
  exact lv_iand C.1 C.2.1 hd (kk p e s m args below meth c H locs als Qf R C hH hl F)
theorem z_ior {X : zX} {M : zM} {cs : Nat × Nat} {pc pc' : Nat} {ls : List (Option Value)} {st : List Value} {w : zWd} {x y : Int32} (hd : decode M.2.1 pc = .ok (.ior, 1)) (hp : pc + 1 = pc')  (kk : zWp X M cs pc' ls (.int (x ||| y) :: st) w) : zWp X M cs pc ls (.int y :: .int x :: st) w := by
  subst hp
  intro p e s m args below meth c H locs als Qf R C hH hl F
  exact lv_ior C.1 C.2.1 hd (kk p e s m args below meth c H locs als Qf R C hH hl F)
theorem z_ixor {X : zX} {M : zM} {cs : Nat × Nat} {pc pc' : Nat} {ls : List (Option Value)} {st : List Value} {w : zWd} {x y : Int32} (hd : decode M.2.1 pc = .ok (.ixor, 1)) (hp : pc + 1 = pc')  (kk : zWp X M cs pc' ls (.int (x ^^^ y) :: st) w) : zWp X M cs pc ls (.int y :: .int x :: st) w := by
  subst hp
  intro p e s m args below meth c H locs als Qf R C hH hl F
  exact lv_ixor C.1 C.2.1 hd (kk p e s m args below meth c H locs als Qf R C hH hl F)
theorem z_rem32 (x y : Int32) : x - x / y * y = x % y := by
  have h : x / y = Int32.ofInt (x.toInt.tdiv y.toInt) := by
    apply Int32.toInt_inj.mp
    rw [Int32.toInt_div, Int32.toInt_ofInt]
  have h2 : x % y = Int32.ofInt (x.toInt.tmod y.toInt) := by rw [← Int32.toInt_mod, Int32.ofInt_toInt]
  rw [h, h2, Int.tmod_def, Int32.ofInt_sub, Int32.ofInt_mul, Int32.ofInt_toInt, Int32.ofInt_toInt, Int32.mul_comm]
theorem z_rem64 (x y : Int64) : x - x / y * y = x % y := by
  have h : x / y = Int64.ofInt (x.toInt.tdiv y.toInt) := by
    apply Int64.toInt_inj.mp
    rw [Int64.toInt_div, Int64.toInt_ofInt]
  have h2 : x % y = Int64.ofInt (x.toInt.tmod y.toInt) := by rw [← Int64.toInt_mod, Int64.ofInt_toInt]
  rw [h, h2, Int.tmod_def, Int64.ofInt_sub, Int64.ofInt_mul, Int64.ofInt_toInt, Int64.ofInt_toInt, Int64.mul_comm]
theorem z_idiv {X : zX} {M : zM} {cs : Nat × Nat} {pc pc' : Nat} {ls : List (Option Value)} {st : List Value} {w : zWd} {x y : Int32} (hd : decode M.2.1 pc = .ok (.idiv, 1)) (hp : pc + 1 = pc') (hne : ¬ y = 0) (kk : zWp X M cs pc' ls (.int (x / y) :: st) w) : zWp X M cs pc ls (.int y :: .int x :: st) w := by
  subst hp
  intro p e s m args below meth c H locs als Qf R C hH hl F
  exact lv_idiv C.1 C.2.1 hd hne (kk p e s m args below meth c H locs als Qf R C hH hl F)
theorem z_irem {X : zX} {M : zM} {cs : Nat × Nat} {pc pc' : Nat} {ls : List (Option Value)} {st : List Value} {w : zWd} {x y : Int32} (hd : decode M.2.1 pc = .ok (.irem, 1)) (hp : pc + 1 = pc') (hne : ¬ y = 0) (kk : zWp X M cs pc' ls (.int (x % y) :: st) w) : zWp X M cs pc ls (.int y :: .int x :: st) w := by
  subst hp
  intro p e s m args below meth c H locs als Qf R C hH hl F
  refine lv_irem C.1 C.2.1 hd hne ?_
  rw [z_rem32]
  exact (kk p e s m args below meth c H locs als Qf R C hH hl F)
theorem z_ladd {X : zX} {M : zM} {cs : Nat × Nat} {pc pc' : Nat} {ls : List (Option Value)} {st : List Value} {w : zWd} {x y : Int64} (hd : decode M.2.1 pc = .ok (.ladd, 1)) (hp : pc + 1 = pc')  (kk : zWp X M cs pc' ls (.long (x + y) :: st) w) : zWp X M cs pc ls (.long y :: .long x :: st) w := by
  subst hp
  intro p e s m args below meth c H locs als Qf R C hH hl F
  exact lv_ladd C.1 C.2.1 hd (kk p e s m args below meth c H locs als Qf R C hH hl F)
theorem z_lsub {X : zX} {M : zM} {cs : Nat × Nat} {pc pc' : Nat} {ls : List (Option Value)} {st : List Value} {w : zWd} {x y : Int64} (hd : decode M.2.1 pc = .ok (.lsub, 1)) (hp : pc + 1 = pc')  (kk : zWp X M cs pc' ls (.long (x - y) :: st) w) : zWp X M cs pc ls (.long y :: .long x :: st) w := by
  subst hp
  intro p e s m args below meth c H locs als Qf R C hH hl F
  exact lv_lsub C.1 C.2.1 hd (kk p e s m args below meth c H locs als Qf R C hH hl F)
theorem z_lmul {X : zX} {M : zM} {cs : Nat × Nat} {pc pc' : Nat} {ls : List (Option Value)} {st : List Value} {w : zWd} {x y : Int64} (hd : decode M.2.1 pc = .ok (.lmul, 1)) (hp : pc + 1 = pc')  (kk : zWp X M cs pc' ls (.long (x * y) :: st) w) : zWp X M cs pc ls (.long y :: .long x :: st) w := by
  subst hp
  intro p e s m args below meth c H locs als Qf R C hH hl F
  exact lv_lmul C.1 C.2.1 hd (kk p e s m args below meth c H locs als Qf R C hH hl F)
theorem z_land {X : zX} {M : zM} {cs : Nat × Nat} {pc pc' : Nat} {ls : List (Option Value)} {st : List Value} {w : zWd} {x y : Int64} (hd : decode M.2.1 pc = .ok (.land, 1)) (hp : pc + 1 = pc')  (kk : zWp X M cs pc' ls (.long (x &&& y) :: st) w) : zWp X M cs pc ls (.long y :: .long x :: st) w := by
  subst hp
  intro p e s m args below meth c H locs als Qf R C hH hl F
  exact lv_land C.1 C.2.1 hd (kk p e s m args below meth c H locs als Qf R C hH hl F)
theorem z_lor {X : zX} {M : zM} {cs : Nat × Nat} {pc pc' : Nat} {ls : List (Option Value)} {st : List Value} {w : zWd} {x y : Int64} (hd : decode M.2.1 pc = .ok (.lor, 1)) (hp : pc + 1 = pc')  (kk : zWp X M cs pc' ls (.long (x ||| y) :: st) w) : zWp X M cs pc ls (.long y :: .long x :: st) w := by
  subst hp
  intro p e s m args below meth c H locs als Qf R C hH hl F
  exact lv_lor C.1 C.2.1 hd (kk p e s m args below meth c H locs als Qf R C hH hl F)
theorem z_ldiv {X : zX} {M : zM} {cs : Nat × Nat} {pc pc' : Nat} {ls : List (Option Value)} {st : List Value} {w : zWd} {x y : Int64} (hd : decode M.2.1 pc = .ok (.ldiv, 1)) (hp : pc + 1 = pc') (hne : ¬ y = 0) (kk : zWp X M cs pc' ls (.long (x / y) :: st) w) : zWp X M cs pc ls (.long y :: .long x :: st) w := by
  subst hp
  intro p e s m args below meth c H locs als Qf R C hH hl F
  exact lv_ldiv C.1 C.2.1 hd hne (kk p e s m args below meth c H locs als Qf R C hH hl F)
theorem z_lrem {X : zX} {M : zM} {cs : Nat × Nat} {pc pc' : Nat} {ls : List (Option Value)} {st : List Value} {w : zWd} {x y : Int64} (hd : decode M.2.1 pc = .ok (.lrem, 1)) (hp : pc + 1 = pc') (hne : ¬ y = 0) (kk : zWp X M cs pc' ls (.long (x % y) :: st) w) : zWp X M cs pc ls (.long y :: .long x :: st) w := by
  subst hp
  intro p e s m args below meth c H locs als Qf R C hH hl F
  refine lv_lrem C.1 C.2.1 hd hne ?_
  rw [z_rem64]
  exact (kk p e s m args below meth c H locs als Qf R C hH hl F)
theorem z_ishl {X : zX} {M : zM} {cs : Nat × Nat} {pc pc' : Nat} {ls : List (Option Value)} {st : List Value} {w : zWd} {x y : Int32} (hd : decode M.2.1 pc = .ok (.ishl, 1)) (hp : pc + 1 = pc')  (kk : zWp X M cs pc' ls (.int (x <<< (y &&& 31)) :: st) w) : zWp X M cs pc ls (.int y :: .int x :: st) w := by
  subst hp
  intro p e s m args below meth c H locs als Qf R C hH hl F
  exact lv_ishl C.1 C.2.1 hd (kk p e s m args below meth c H locs als Qf R C hH hl F)
theorem z_ishr {X : zX} {M : zM} {cs : Nat × Nat} {pc pc' : Nat} {ls : List (Option Value)} {st : List Value} {w : zWd} {x y : Int32} (hd : decode M.2.1 pc = .ok (.ishr, 1)) (hp : pc + 1 = pc')  (kk : zWp X M cs pc' ls (.int (x >>> (y &&& 31)) :: st) w) : zWp X M cs pc ls (.int y :: .int x :: st) w := by
  subst hp
  intro p e s m args below meth c H locs als Qf R C hH hl F
  exact lv_ishr C.1 C.2.1 hd (kk p e s m args below meth c H locs als Qf R C hH hl F)
theorem z_iushr {X : zX} {M : zM} {cs : Nat × Nat} {pc pc' : Nat} {ls : List (Option Value)} {st : List Value} {w : zWd} {x y : Int32} (hd : decode M.2.1 pc = .ok (.iushr, 1)) (hp : pc + 1 = pc')  (kk : zWp X M cs pc' ls (.int ((x.toUInt32 >>> (y.toUInt32 &&& Int32.toUInt32 31)).toInt32) :: st) w) : zWp X M cs pc ls (.int y :: .int x :: st) w := by
  subst hp
  intro p e s m args below meth c H locs als Qf R C hH hl F
  exact lv_iushr C.1 C.2.1 hd rfl (kk p e s m args below meth c H locs als Qf R C hH hl F)
theorem z_lshl {X : zX} {M : zM} {cs : Nat × Nat} {pc pc' : Nat} {ls : List (Option Value)} {st : List Value} {w : zWd} {x : Int64} {y : Int32} (hd : decode M.2.1 pc = .ok (.lshl, 1)) (hp : pc + 1 = pc')  (kk : zWp X M cs pc' ls (.long (x <<< (y.toInt64 &&& 63)) :: st) w) : zWp X M cs pc ls (.int y :: .long x :: st) w := by
  subst hp
  intro p e s m args below meth c H locs als Qf R C hH hl F
  exact lv_lshl C.1 C.2.1 hd rfl (kk p e s m args below meth c H locs als Qf R C hH hl F)
theorem z_ineg {X : zX} {M : zM} {cs : Nat × Nat} {pc pc' : Nat} {ls : List (Option Value)} {st : List Value} {w : zWd} {x : Int32} (hd : decode M.2.1 pc = .ok (.ineg, 1)) (hp : pc + 1 = pc')  (kk : zWp X M cs pc' ls (.int (-x) :: st) w) : zWp X M cs pc ls (.int x :: st) w := by
  subst hp
  intro p e s m args below meth c H locs als Qf R C hH hl F
  exact lv_ineg C.1 C.2.1 hd (kk p e s m args below meth c H locs als Qf R C hH hl F)
theorem z_lneg {X : zX} {M : zM} {cs : Nat × Nat} {pc pc' : Nat} {ls : List (Option Value)} {st : List Value} {w : zWd} {x : Int64} (hd : decode M.2.1 pc = .ok (.lneg, 1)) (hp : pc + 1 = pc')  (kk : zWp X M cs pc' ls (.long (-x) :: st) w) : zWp X M cs pc ls (.long x :: st) w := by
  subst hp
  intro p e s m args below meth c H locs als Qf R C hH hl F
  exact lv_lneg C.1 C.2.1 hd (kk p e s m args below meth c H locs als Qf R C hH hl F)
theorem z_i2l {X : zX} {M : zM} {cs : Nat × Nat} {pc pc' : Nat} {ls : List (Option Value)} {st : List Value} {w : zWd} {x : Int32} (hd : decode M.2.1 pc = .ok (.i2l, 1)) (hp : pc + 1 = pc')  (kk : zWp X M cs pc' ls (.long x.toInt64 :: st) w) : zWp X M cs pc ls (.int x :: st) w := by
  subst hp
  intro p e s m args below meth c H locs als Qf R C hH hl F
  exact lv_i2l C.1 C.2.1 hd rfl (kk p e s m args below meth c H locs als Qf R C hH hl F)
theorem z_l2i {X : zX} {M : zM} {cs : Nat × Nat} {pc pc' : Nat} {ls : List (Option Value)} {st : List Value} {w : zWd} {x : Int64} (hd : decode M.2.1 pc = .ok (.l2i, 1)) (hp : pc + 1 = pc')  (kk : zWp X M cs pc' ls (.int x.toInt32 :: st) w) : zWp X M cs pc ls (.long x :: st) w := by
  subst hp
  intro p e s m args below meth c H locs als Qf R C hH hl F
  exact lv_l2i C.1 C.2.1 hd rfl (kk p e s m args below meth c H locs als Qf R C hH hl F)
theorem z_i2b {X : zX} {M : zM} {cs : Nat × Nat} {pc pc' : Nat} {ls : List (Option Value)} {st : List Value} {w : zWd} {x : Int32} (hd : decode M.2.1 pc = .ok (.i2b, 1)) (hp : pc + 1 = pc')  (kk : zWp X M cs pc' ls (.int x.toInt8.toInt32 :: st) w) : zWp X M cs pc ls (.int x :: st) w := by
  subst hp
  intro p e s m args below meth c H locs als Qf R C hH hl F
  exact lv_i2b C.1 C.2.1 hd rfl (kk p e s m args below meth c H locs als Qf R C hH hl F)
theorem z_i2s {X : zX} {M : zM} {cs : Nat × Nat} {pc pc' : Nat} {ls : List (Option Value)} {st : List Value} {w : zWd} {x : Int32} (hd : decode M.2.1 pc = .ok (.i2s, 1)) (hp : pc + 1 = pc')  (kk : zWp X M cs pc' ls (.int x.toInt16.toInt32 :: st) w) : zWp X M cs pc ls (.int x :: st) w := by
  subst hp
  intro p e s m args below meth c H locs als Qf R C hH hl F
  exact lv_i2s C.1 C.2.1 hd rfl (kk p e s m args below meth c H locs als Qf R C hH hl F)
theorem z_dup {X : zX} {M : zM} {cs : Nat × Nat} {pc pc' : Nat} {ls : List (Option Value)} {st : List Value} {w : zWd} {v : Value} (hd : decode M.2.1 pc = .ok (.dup, 1)) (hp : pc + 1 = pc') (hc : v.category = 1) (kk : zWp X M cs pc' ls (v :: v :: st) w) : zWp X M cs pc ls (v :: st) w := by
  subst hp
  intro p e s m args below meth c H locs als Qf R C hH hl F
  exact lv_dup C.1 C.2.1 hd (by rw [zcv_cat]; exact hc) (kk p e s m args below meth c H locs als Qf R C hH hl F)
theorem z_pop {X : zX} {M : zM} {cs : Nat × Nat} {pc pc' : Nat} {ls : List (Option Value)} {st : List Value} {w : zWd} {v : Value} (hd : decode M.2.1 pc = .ok (.pop, 1)) (hp : pc + 1 = pc') (hc : v.category = 1) (kk : zWp X M cs pc' ls (st) w) : zWp X M cs pc ls (v :: st) w := by
  subst hp
  intro p e s m args below meth c H locs als Qf R C hH hl F
  exact lv_pop C.1 C.2.1 hd (by rw [zcv_cat]; exact hc) (kk p e s m args below meth c H locs als Qf R C hH hl F)
theorem z_dup2 {X : zX} {M : zM} {cs : Nat × Nat} {pc pc' : Nat} {ls : List (Option Value)} {st : List Value} {w : zWd} {v u : Value} (hd : decode M.2.1 pc = .ok (.dup2, 1)) (hp : pc + 1 = pc') (hc : v.category = 1) (hc2 : u.category = 1) (kk : zWp X M cs pc' ls (v :: u :: v :: u :: st) w) : zWp X M cs pc ls (v :: u :: st) w := by
  subst hp
  intro p e s m args below meth c H locs als Qf R C hH hl F
  exact lv_dup2_11 C.1 C.2.1 hd (by rw [zcv_cat]; exact hc) (by rw [zcv_cat]; exact hc2) (kk p e s m args below meth c H locs als Qf R C hH hl F)
theorem z_lcmp {X : zX} {M : zM} {cs : Nat × Nat} {pc pc' : Nat} {ls : List (Option Value)} {st : List Value} {w : zWd} {x y : Int64} (hd : decode M.2.1 pc = .ok (.lcmp, 1)) (hp : pc + 1 = pc')  (kk : zWp X M cs pc' ls (.int (lg_cmp x y) :: st) w) : zWp X M cs pc ls (.long y :: .long x :: st) w := by
  subst hp
  intro p e s m args below meth c H locs als Qf R C hH hl F
  exact W.lcmp C.1 C.2.1 hd (kk p e s m args below meth c H locs als Qf R C hH hl F)
theorem z_if_eq {X : zX} {M : zM} {cs : Nat × Nat} {pc pc' : Nat} {ls : List (Option Value)} {st : List Value} {w : zWd} {tgt : Nat} {off : Int} {x : Int32} (hd : decode M.2.1 pc = .ok (.ifCond .eq off, 3)) (hp : pc + 3 = pc') (ht : (pc : Int) + off = (tgt : Int)) (kt : x = 0 → zWp X M cs tgt ls st w) (kf : ¬ x = 0 → zWp X M cs pc' ls st w) : zWp X M cs pc ls (.int x :: st) w := by
  subst hp
  intro p e s m args below meth c H locs als Qf R C hH hl F
  exact lv_if_eq C.1 C.2.1 hd ht (fun h => kt h p e s m args below meth c H locs als Qf R C hH hl F) (fun h => kf h p e s m args below meth c H locs als Qf R C hH hl F)
theorem z_icmp_eq {X : zX} {M : zM} {cs : Nat × Nat} {pc pc' : Nat} {ls : List (Option Value)} {st : List Value} {w : zWd} {tgt : Nat} {off : Int} {x y : Int32} (hd : decode M.2.1 pc = .ok (.if_icmp .eq off, 3)) (hp : pc + 3 = pc') (ht : (pc : Int) + off = (tgt : Int)) (kt : x = y → zWp X M cs tgt ls st w) (kf : ¬ x = y → zWp X M cs pc' ls st w) : zWp X M cs pc ls (.int y :: .int x :: st) w := by
  subst hp
  intro p e s m args below meth c H locs als Qf R C hH hl F
  exact lv_icmp_eq C.1 C.2.1 hd ht (fun h => kt h p e s m args below meth c H locs als Qf R C hH hl F) (fun h => kf h p e s m args below meth c H locs als Qf R C hH hl F)
theorem z_if_ne {X : zX} {M : zM} {cs : Nat × Nat} {pc pc' : Nat} {ls : List (Option Value)} {st : List Value} {w : zWd} {tgt : Nat} {off : Int} {x : Int32} (hd : decode M.2.1 pc = .ok (.ifCond .ne off, 3)) (hp : pc + 3 = pc') (ht : (pc : Int) + off = (tgt : Int)) (kt : ¬ x = 0 → zWp X M cs tgt ls st w) (kf : x = 0 → zWp X M cs pc' ls st w) : zWp X M cs pc ls (.int x :: st) w := by
  subst hp
  intro p e s m args below meth c H locs als Qf R C hH hl F
  exact lv_if_ne C.1 C.2.1 hd ht (fun h => kt h p e s m args below meth c H locs als Qf R C hH hl F) (fun h => kf h p e s m args below meth c H locs als Qf R C hH hl F)
theorem z_icmp_ne {X : zX} {M : zM} {cs : Nat × Nat} {pc pc' : Nat} {ls : List (Option Value)} {st : List Value} {w : zWd} {tgt : Nat} {off : Int} {x y : Int32} (hd : decode M.2.1 pc = .ok (.if_icmp .ne off, 3)) (hp : pc + 3 = pc') (ht : (pc : Int) + off = (tgt : Int)) (kt : ¬ x = y → zWp X M cs tgt ls st w) (kf : x = y → zWp X M cs pc' ls st w) : zWp X M cs pc ls (.int y :: .int x :: st) w := by
  subst hp
  intro p e s m args below meth c H locs als Qf R C hH hl F
  exact lv_icmp_ne C.1 C.2.1 hd ht (fun h => kt h p e s m args below meth c H locs als Qf R C hH hl F) (fun h => kf h p e s m args below meth c H locs als Qf R C hH hl F)
theorem z_if_lt {X : zX} {M : zM} {cs : Nat × Nat} {pc pc' : Nat} {ls : List (Option Value)} {st : List Value} {w : zWd} {tgt : Nat} {off : Int} {x : Int32} (hd : decode M.2.1 pc = .ok (.ifCond .lt off, 3)) (hp : pc + 3 = pc') (ht : (pc : Int) + off = (tgt : Int)) (kt : x < 0 → zWp X M cs tgt ls st w) (kf : ¬ x < 0 → zWp X M cs pc' ls st w) : zWp X M cs pc ls (.int x :: st) w := by
  subst hp
  intro p e s m args below meth c H locs als Qf R C hH hl F
  exact lv_if_lt C.1 C.2.1 hd ht (fun h => kt h p e s m args below meth c H locs als Qf R C hH hl F) (fun h => kf h p e s m args below meth c H locs als Qf R C hH hl F)
theorem z_icmp_lt {X : zX} {M : zM} {cs : Nat × Nat} {pc pc' : Nat} {ls : List (Option Value)} {st : List Value} {w : zWd} {tgt : Nat} {off : Int} {x y : Int32} (hd : decode M.2.1 pc = .ok (.if_icmp .lt off, 3)) (hp : pc + 3 = pc') (ht : (pc : Int) + off = (tgt : Int)) (kt : x < y → zWp X M cs tgt ls st w) (kf : ¬ x < y → zWp X M cs pc' ls st w) : zWp X M cs pc ls (.int y :: .int x :: st) w := by
  subst hp
  intro p e s m args below meth c H locs als Qf R C hH hl F
  exact lv_icmp_lt C.1 C.2.1 hd ht (fun h => kt h p e s m args below meth c H locs als Qf R C hH hl F) (fun h => kf h p e s m args below meth c H locs als Qf R C hH hl F)
theorem z_if_ge {X : zX} {M : zM} {cs : Nat × Nat} {pc pc' : Nat} {ls : List (Option Value)} {st : List Value} {w : zWd} {tgt : Nat} {off : Int} {x : Int32} (hd : decode M.2.1 pc = .ok (.ifCond .ge off, 3)) (hp : pc + 3 = pc') (ht : (pc : Int) + off = (tgt : Int)) (kt : 0 ≤ x → zWp X M cs tgt ls st w) (kf : ¬ 0 ≤ x → zWp X M cs pc' ls st w) : zWp X M cs pc ls (.int x :: st) w := by
  subst hp
  intro p e s m args below meth c H locs als Qf R C hH hl F
  exact lv_if_ge C.1 C.2.1 hd ht (fun h => kt h p e s m args below meth c H locs als Qf R C hH hl F) (fun h => kf h p e s m args below meth c H locs als Qf R C hH hl F)
theorem z_icmp_ge {X : zX} {M : zM} {cs : Nat × Nat} {pc pc' : Nat} {ls : List (Option Value)} {st : List Value} {w : zWd} {tgt : Nat} {off : Int} {x y : Int32} (hd : decode M.2.1 pc = .ok (.if_icmp .ge off, 3)) (hp : pc + 3 = pc') (ht : (pc : Int) + off = (tgt : Int)) (kt : y ≤ x → zWp X M cs tgt ls st w) (kf : ¬ y ≤ x → zWp X M cs pc' ls st w) : zWp X M cs pc ls (.int y :: .int x :: st) w := by
  subst hp
  intro p e s m args below meth c H locs als Qf R C hH hl F
  exact lv_icmp_ge C.1 C.2.1 hd ht (fun h => kt h p e s m args below meth c H locs als Qf R C hH hl F) (fun h => kf h p e s m args below meth c H locs als Qf R C hH hl F)
theorem z_if_gt {X : zX} {M : zM} {cs : Nat × Nat} {pc pc' : Nat} {ls : List (Option Value)} {st : List Value} {w : zWd} {tgt : Nat} {off : Int} {x : Int32} (hd : decode M.2.1 pc = .ok (.ifCond .gt off, 3)) (hp : pc + 3 = pc') (ht : (pc : Int) + off = (tgt : Int)) (kt : 0 < x → zWp X M cs tgt ls st w) (kf : ¬ 0 < x → zWp X M cs pc' ls st w) : zWp X M cs pc ls (.int x :: st) w := by
  subst hp
  intro p e s m args below meth c H locs als Qf R C hH hl F
  exact lv_if_gt C.1 C.2.1 hd ht (fun h => kt h p e s m args below meth c H locs als Qf R C hH hl F) (fun h => kf h p e s m args below meth c H locs als Qf R C hH hl F)
theorem z_icmp_gt {X : zX} {M : zM} {cs : Nat × Nat} {pc pc' : Nat} {ls : List (Option Value)} {st : List Value} {w : zWd} {tgt : Nat} {off : Int} {x y : Int32} (hd : decode M.2.1 pc = .ok (.if_icmp .gt off, 3)) (hp : pc + 3 = pc') (ht : (pc : Int) + off = (tgt : Int)) (kt : y < x → zWp X M cs tgt ls st w) (kf : ¬ y < x → zWp X M cs pc' ls st w) : zWp X M cs pc ls (.int y :: .int x :: st) w := by
  subst hp
  intro p e s m args below meth c H locs als Qf R C hH hl F
  exact lv_icmp_gt C.1 C.2.1 hd ht (fun h => kt h p e s m args below meth c H locs als Qf R C hH hl F) (fun h => kf h p e s m args below meth c H locs als Qf R C hH hl F)
theorem z_if_le {X : zX} {M : zM} {cs : Nat × Nat} {pc pc' : Nat} {ls : List (Option Value)} {st : List Value} {w : zWd} {tgt : Nat} {off : Int} {x : Int32} (hd : decode M.2.1 pc = .ok (.ifCond .le off, 3)) (hp : pc + 3 = pc') (ht : (pc : Int) + off = (tgt : Int)) (kt : x ≤ 0 → zWp X M cs tgt ls st w) (kf : ¬ x ≤ 0 → zWp X M cs pc' ls st w) : zWp X M cs pc ls (.int x :: st) w := by
  subst hp
  intro p e s m args below meth c H locs als Qf R C hH hl F
  exact lv_if_le C.1 C.2.1 hd ht (fun h => kt h p e s m args below meth c H locs als Qf R C hH hl F) (fun h => kf h p e s m args below meth c H locs als Qf R C hH hl F)
theorem z_icmp_le {X : zX} {M : zM} {cs : Nat × Nat} {pc pc' : Nat} {ls : List (Option Value)} {st : List Value} {w : zWd} {tgt : Nat} {off : Int} {x y : Int32} (hd : decode M.2.1 pc = .ok (.if_icmp .le off, 3)) (hp : pc + 3 = pc') (ht : (pc : Int) + off = (tgt : Int)) (kt : x ≤ y → zWp X M cs tgt ls st w) (kf : ¬ x ≤ y → zWp X M cs pc' ls st w) : zWp X M cs pc ls (.int y :: .int x :: st) w := by
  subst hp
  intro p e s m args below meth c H locs als Qf R C hH hl F
  exact lv_icmp_le C.1 C.2.1 hd ht (fun h => kt h p e s m args below meth c H locs als Qf R C hH hl F) (fun h => kf h p e s m args below meth c H locs als Qf R C hH hl F)
theorem z_lc_eq {X : zX} {M : zM} {cs : Nat × Nat} {pc pc' : Nat} {ls : List (Option Value)} {st : List Value} {w : zWd} {tgt : Nat} {off : Int} {x y : Int64} (hd : decode M.2.1 pc = .ok (.lcmp, 1)) (hd2 : decode M.2.1 (pc + 1) = .ok (.ifCond .eq off, 3)) (hp : pc + 4 = pc') (ht : ((pc + 1 : Nat) : Int) + off = (tgt : Int)) (kt : x = y → zWp X M cs tgt ls st w) (kf : ¬ x = y → zWp X M cs pc' ls st w) : zWp X M cs pc ls (.long y :: .long x :: st) w := z_lcmp hd rfl (z_if_eq hd2 hp ht (fun h => kt ((lg_cmp_eq x y).mp h)) (fun h => kf (fun q => h ((lg_cmp_eq x y).mpr q))))
theorem z_lc_ne {X : zX} {M : zM} {cs : Nat × Nat} {pc pc' : Nat} {ls : List (Option Value)} {st : List Value} {w : zWd} {tgt : Nat} {off : Int} {x y : Int64} (hd : decode M.2.1 pc = .ok (.lcmp, 1)) (hd2 : decode M.2.1 (pc + 1) = .ok (.ifCond .ne off, 3)) (hp : pc + 4 = pc') (ht : ((pc + 1 : Nat) : Int) + off = (tgt : Int)) (kt : ¬ x = y → zWp X M cs tgt ls st w) (kf : x = y → zWp X M cs pc' ls st w) : zWp X M cs pc ls (.long y :: .long x :: st) w := z_lcmp hd rfl (z_if_ne hd2 hp ht (fun h => kt (fun q => h ((lg_cmp_eq x y).mpr q))) (fun h => kf ((lg_cmp_eq x y).mp h)))
theorem z_lc_lt {X : zX} {M : zM} {cs : Nat × Nat} {pc pc' : Nat} {ls : List (Option Value)} {st : List Value} {w : zWd} {tgt : Nat} {off : Int} {x y : Int64} (hd : decode M.2.1 pc = .ok (.lcmp, 1)) (hd2 : decode M.2.1 (pc + 1) = .ok (.ifCond .lt off, 3)) (hp : pc + 4 = pc') (ht : ((pc + 1 : Nat) : Int) + off = (tgt : Int)) (kt : x < y → zWp X M cs tgt ls st w) (kf : ¬ x < y → zWp X M cs pc' ls st w) : zWp X M cs pc ls (.long y :: .long x :: st) w := z_lcmp hd rfl (z_if_lt hd2 hp ht (fun h => kt ((lg_cmp_lt x y).mp h)) (fun h => kf (fun q => h ((lg_cmp_lt x y).mpr q))))
theorem z_lc_ge {X : zX} {M : zM} {cs : Nat × Nat} {pc pc' : Nat} {ls : List (Option Value)} {st : List Value} {w : zWd} {tgt : Nat} {off : Int} {x y : Int64} (hd : decode M.2.1 pc = .ok (.lcmp, 1)) (hd2 : decode M.2.1 (pc + 1) = .ok (.ifCond .ge off, 3)) (hp : pc + 4 = pc') (ht : ((pc + 1 : Nat) : Int) + off = (tgt : Int)) (kt : y ≤ x → zWp X M cs tgt ls st w) (kf : ¬ y ≤ x → zWp X M cs pc' ls st w) : zWp X M cs pc ls (.long y :: .long x :: st) w := z_lcmp hd rfl (z_if_ge hd2 hp ht (fun h => kt ((lg_cmp_ge x y).mp h)) (fun h => kf (fun q => h ((lg_cmp_ge x y).mpr q))))
theorem z_lc_gt {X : zX} {M : zM} {cs : Nat × Nat} {pc pc' : Nat} {ls : List (Option Value)} {st : List Value} {w : zWd} {tgt : Nat} {off : Int} {x y : Int64} (hd : decode M.2.1 pc = .ok (.lcmp, 1)) (hd2 : decode M.2.1 (pc + 1) = .ok (.ifCond .gt off, 3)) (hp : pc + 4 = pc') (ht : ((pc + 1 : Nat) : Int) + off = (tgt : Int)) (kt : y < x → zWp X M cs tgt ls st w) (kf : ¬ y < x → zWp X M cs pc' ls st w) : zWp X M cs pc ls (.long y :: .long x :: st) w := z_lcmp hd rfl (z_if_gt hd2 hp ht (fun h => kt ((lg_cmp_gt x y).mp h)) (fun h => kf (fun q => h ((lg_cmp_gt x y).mpr q))))
theorem z_lc_le {X : zX} {M : zM} {cs : Nat × Nat} {pc pc' : Nat} {ls : List (Option Value)} {st : List Value} {w : zWd} {tgt : Nat} {off : Int} {x y : Int64} (hd : decode M.2.1 pc = .ok (.lcmp, 1)) (hd2 : decode M.2.1 (pc + 1) = .ok (.ifCond .le off, 3)) (hp : pc + 4 = pc') (ht : ((pc + 1 : Nat) : Int) + off = (tgt : Int)) (kt : x ≤ y → zWp X M cs tgt ls st w) (kf : ¬ x ≤ y → zWp X M cs pc' ls st w) : zWp X M cs pc ls (.long y :: .long x :: st) w := z_lcmp hd rfl (z_if_le hd2 hp ht (fun h => kt ((lg_cmp_le x y).mp h)) (fun h => kf (fun q => h ((lg_cmp_le x y).mpr q))))
theorem z_goto {X : zX} {M : zM} {cs : Nat × Nat} {pc pc' : Nat} {ls : List (Option Value)} {st : List Value} {w : zWd} {off : Int} (hd : decode M.2.1 pc = .ok (.goto off, 3)) (ht : (pc : Int) + off = (pc' : Int)) (kk : zWp X M cs pc' ls st w) : zWp X M cs pc ls st w := by
  intro p e s m args below meth c H locs als Qf R C hH hl F
  exact lv_goto C.1 C.2.1 hd ht (kk p e s m args below meth c H locs als Qf R C hH hl F)
theorem z_sub {X : zX} {M : zM} {cs : Nat × Nat} {pc pc' : Nat} {ls : List (Option Value)} {st : List Value} {w : zWd} (ls' : List (Option Value)) (hs : zsub ls' ls) (kk : zWp X M cs pc ls' st w) : zWp X M cs pc ls st w := by
  intro p e s m args below meth c H locs als Qf R C hH hl F
  exact kk p e s m args below meth c H locs als Qf R C hH (zll_of hl.1 hl.2.1 fun i v hi => zll_at hl (zsub_at _ _ hs i v hi)) F
theorem z_lookup {X : zX} {M : zM} {cs : Nat × Nat} {pc pc' : Nat} {ls : List (Option Value)} {st : List Value} {w : zWd} {dflt : Int} {ps : Array (Int × Int)} {len : Nat} {x : Int32} (hd : decode M.2.1 pc = .ok (.lookupswitch dflt ps, len)) (hp : (ps.toList.zip (ps.toList.drop 1)).all (fun (a, next) => a.1 < next.1) = true) (ht : (pc : Int) + Op.lookupswitch.offset ps.toList dflt x.toInt = (pc' : Int)) (kk : zWp X M cs pc' ls st w) : zWp X M cs pc ls (.int x :: st) w := by
  intro p e s m args below meth c H locs als Qf R C hH hl F
  exact lv_lookup C.1 C.2.1 hd hp rfl ht (kk p e s m args below meth c H locs als Qf R C hH hl F)
theorem z_tableOut {X : zX} {M : zM} {cs : Nat × Nat} {pc pc' : Nat} {ls : List (Option Value)} {st : List Value} {w : zWd} {dflt lo hi : Int} {offs : Array Int} {len : Nat} {x : Int32} (hd : decode M.2.1 pc = .ok (.tableswitch dflt lo hi offs, len)) (h : x.toInt < lo ∨ hi < x.toInt) (ht : (pc : Int) + dflt = (pc' : Int)) (kk : zWp X M cs pc' ls st w) : zWp X M cs pc ls (.int x :: st) w := by
  intro p e s m args below meth c H locs als Qf R C hH hl F
  exact lv_tableOut C.1 C.2.1 hd h ht (kk p e s m args below meth c H locs als Qf R C hH hl F)
theorem z_tableIn {X : zX} {M : zM} {cs : Nat × Nat} {pc pc' : Nat} {ls : List (Option Value)} {st : List Value} {w : zWd} {dflt lo hi : Int} {offs : Array Int} {len : Nat} {x : Int32} {off : Int} (hd : decode M.2.1 pc = .ok (.tableswitch dflt lo hi offs, len)) (h1 : ¬ x.toInt < lo) (h2 : ¬ hi < x.toInt) (ho : offs[(x.toInt - lo).toNat]? = some off) (ht : (pc : Int) + off = (pc' : Int)) (kk : zWp X M cs pc' ls st w) : zWp X M cs pc ls (.int x :: st) w := by
  intro p e s m args below meth c H locs als Qf R C hH hl F
  exact lv_tableIn C.1 C.2.1 hd h1 h2 ho ht (kk p e s m args below meth c H locs als Qf R C hH hl F)
