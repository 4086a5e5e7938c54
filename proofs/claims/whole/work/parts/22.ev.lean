/-! ===== an equation of the small machine for each instruction ===== -/
theorem ev_pure {sc : zSc} {d M pc len : Nat} {lv : zLv} {st st' : List Value} {g : zSg} {h : zHp} {op : Instr} {mq : Option (List Bool)} (hd : zD M pc = some (op, len, mq)) (hm : zMo mq lv = lv) (hs : zPure (zOn M) op lv st = some st') : zE sc d M pc lv st g h = zE sc d M (pc + len) lv st' g h := by
  rw [zE_eq, hd]
  simp only
  rw [hm]
  unfold zStep
  rw [hs]
theorem ev_loc {sc : zSc} {d M pc len : Nat} {lv lv' : zLv} {st st' : List Value} {g : zSg} {h : zHp} {op : Instr} {mq : Option (List Bool)} (hd : zD M pc = some (op, len, mq)) (hm : zMo mq lv = lv) (hp : zPure (zOn M) op lv st = none) (hs : zLoc op lv st = some (lv', st')) : zE sc d M pc lv st g h = zE sc d M (pc + len) lv' st' g h := by
  rw [zE_eq, hd]
  simp only
  rw [hm]
  unfold zStep
  rw [hp, hs]
theorem ev_br {sc : zSc} {d M pc pc' len : Nat} {lv : zLv} {st st' : List Value} {g : zSg} {h : zHp} {op : Instr} {mq : Option (List Bool)} (hd : zD M pc = some (op, len, mq)) (hm : zMo mq lv = lv) (hp : zPure (zOn M) op lv st = none) (hl : zLoc op lv st = none) (hs : zBr op pc st = some (pc', st')) : zE sc d M pc lv st g h = zE sc d M pc' lv st' g h := by
  rw [zE_eq, hd]
  simp only
  rw [hm]
  unfold zStep
  rw [hp, hl, hs]
theorem ev_heap {sc : zSc} {d M pc len : Nat} {lv : zLv} {st st' : List Value} {g g' : zSg} {h h' : zHp} {op : Instr} {mq : Option (List Bool)} (hd : zD M pc = some (op, len, mq)) (hm : zMo mq lv = lv) (hp : zPure (zOn M) op lv st = none) (hl : zLoc op lv st = none) (hb : zBr op pc st = none) (hs : zHeap sc d (zIni M) (zOn M) op st g h = some (st', g', h')) : zE sc d M pc lv st g h = zE sc d M (pc + len) lv st' g' h' := by
  rw [zE_eq, hd]
  simp only
  rw [hm]
  unfold zStep
  rw [hp, hl, hb, hs]
theorem ev_stuck {sc : zSc} {d M pc len : Nat} {lv : zLv} {st : List Value} {g : zSg} {h : zHp} {op : Instr} {mq : Option (List Bool)} (hd : zD M pc = some (op, len, mq)) (hm : zMo mq lv = lv) (hp : zPure (zOn M) op lv st = none) (hl : zLoc op lv st = none) (hb : zBr op pc st = none) (hs : zHeap sc d (zIni M) (zOn M) op st g h = none) (hr : zRet (zRt M) op st = none) (hc : zCal (zOn M) op st g = none) : zE sc d M pc lv st g h = none := by
  rw [zE_eq, hd]
  simp only
  rw [hm]
  unfold zStep
  rw [hp, hl, hb, hs, hr, hc]
theorem ev_ret {sc : zSc} {d M pc len : Nat} {lv : zLv} {st : List Value} {g : zSg} {h : zHp} {op : Instr} {mq : Option (List Bool)} {r : Option Value} (hd : zD M pc = some (op, len, mq)) (hm : zMo mq lv = lv) (hp : zPure (zOn M) op lv st = none) (hl : zLoc op lv st = none) (hb : zBr op pc st = none) (hs : zHeap sc d (zIni M) (zOn M) op st g h = none) (hr : zRet (zRt M) op st = some r) : zE sc d M pc lv st g h = some (r, g, h) := by
  rw [zE_eq, hd]
  simp only
  rw [hm]
  unfold zStep
  rw [hp, hl, hb, hs, hr]
theorem ev_mask {sc : zSc} {d M pc : Nat} {lv : zLv} {st : List Value} {g : zSg} {h : zHp} {op : Instr} {len : Nat} {mq : Option (List Bool)} (hd : zD M pc = some (op, len, mq)) : zE sc d M pc lv st g h = zE sc d M pc (zMo mq lv) st g h := by
  have hi : zMo mq (zMo mq lv) = zMo mq lv := by
    cases mq with
    | none => rfl
    | some b =>
      simp only [zMo]
      apply List.ext_getElem?
      intro i
      simp only [List.getElem?_zipWith]
      cases b[i]? with
      | none => rfl
      | some x =>
        cases lv[i]? with
        | none => rfl
        | some y => cases x <;> rfl
  rw [zE_eq, hd, zE_eq sc d M pc (zMo mq lv), hd]
  simp only
  rw [hi]
theorem ev_iconst {sc : zSc} {d M pc : Nat} {lv : zLv} {st : List Value} {g : zSg} {h : zHp} {mq : Option (List Bool)} {n : Int} {v : Int32} (hd : zD M pc = some (.iconst n, 1, mq)) (hm : zMo mq lv = lv) (hv : Int32.ofInt n = v) : zE sc d M pc lv st g h = zE sc d M (pc + 1) lv (.int v :: st) g h := by subst hv; exact ev_pure hd hm rfl
theorem ev_bipush {sc : zSc} {d M pc : Nat} {lv : zLv} {st : List Value} {g : zSg} {h : zHp} {mq : Option (List Bool)} {n : Int} {v : Int32} (hd : zD M pc = some (.bipush n, 2, mq)) (hm : zMo mq lv = lv) (hv : (Int8.ofInt n).toInt32 = v) : zE sc d M pc lv st g h = zE sc d M (pc + 2) lv (.int v :: st) g h := by subst hv; exact ev_pure hd hm rfl
theorem ev_sipush {sc : zSc} {d M pc : Nat} {lv : zLv} {st : List Value} {g : zSg} {h : zHp} {mq : Option (List Bool)} {n : Int} {v : Int32} (hd : zD M pc = some (.sipush n, 3, mq)) (hm : zMo mq lv = lv) (hv : (Int16.ofInt n).toInt32 = v) : zE sc d M pc lv st g h = zE sc d M (pc + 3) lv (.int v :: st) g h := by subst hv; exact ev_pure hd hm rfl
theorem ev_lconst {sc : zSc} {d M pc : Nat} {lv : zLv} {st : List Value} {g : zSg} {h : zHp} {mq : Option (List Bool)} {n : Fin 2} {v : Int64} (hd : zD M pc = some (.lconst n, 1, mq)) (hm : zMo mq lv = lv) (hv : Int64.ofNat n.val = v) : zE sc d M pc lv st g h = zE sc d M (pc + 1) lv (.long v :: st) g h := by subst hv; exact ev_pure hd hm rfl
theorem ev_ldc {sc : zSc} {d M pc : Nat} {lv : zLv} {st : List Value} {g : zSg} {h : zHp} {mq : Option (List Bool)} {i : Nat} {v : Int32} (hd : zD M pc = some (.ldc i, 2, mq) ∧ zKc (zOn M) i = some (.inl v)) (hm : zMo mq lv = lv) : zE sc d M pc lv st g h = zE sc d M (pc + 2) lv (.int v :: st) g h := ev_pure hd.1 hm (by simp [zPure, z_ci, hd.2])
theorem ev_ldcS {sc : zSc} {d M pc : Nat} {lv : zLv} {st : List Value} {g : zSg} {h : zHp} {mq : Option (List Bool)} {i j : Nat} (hd : zD M pc = some (.ldc i, 2, mq) ∧ zKc (zOn M) i = none ∧ zTc (zOn M) i = some j) (hm : zMo mq lv = lv) : zE sc d M pc lv st g h = zE sc d M (pc + 2) lv (.ref (1000 + j) :: st) g h := ev_pure hd.1 hm (by simp [zPure, z_ci, z_ct, hd.2.1, hd.2.2])
theorem ev_ldcw {sc : zSc} {d M pc : Nat} {lv : zLv} {st : List Value} {g : zSg} {h : zHp} {mq : Option (List Bool)} {i : Nat} {v : Int32} (hd : zD M pc = some (.ldc_w i, 3, mq) ∧ zKc (zOn M) i = some (.inl v)) (hm : zMo mq lv = lv) : zE sc d M pc lv st g h = zE sc d M (pc + 3) lv (.int v :: st) g h := ev_pure hd.1 hm (by simp [zPure, z_ci, hd.2])
theorem ev_ldc2 {sc : zSc} {d M pc : Nat} {lv : zLv} {st : List Value} {g : zSg} {h : zHp} {mq : Option (List Bool)} {i : Nat} {v : Int64} (hd : zD M pc = some (.ldc2_w i, 3, mq) ∧ zKc (zOn M) i = some (.inr v)) (hm : zMo mq lv = lv) : zE sc d M pc lv st g h = zE sc d M (pc + 3) lv (.long v :: st) g h := ev_pure hd.1 hm (by simp [zPure, z_cl, hd.2])
theorem ev_gsW {sc : zSc} {d M pc : Nat} {lv : zLv} {st : List Value} {g : zSg} {h : zHp} {mq : Option (List Bool)} {i : Nat} (hd : zD M pc = some (.getstatic i, 3, mq) ∧ zSc' (zOn M) i = some 0) (hm : zMo mq lv = lv) : zE sc d M pc lv st g h = zE sc d M (pc + 3) lv (.ref 1200 :: st) g h := ev_pure hd.1 hm (by simp [zPure, z_st, hd.2])
theorem ev_gsC {sc : zSc} {d M pc : Nat} {lv : zLv} {st : List Value} {g : zSg} {h : zHp} {mq : Option (List Bool)} {i : Nat} (hd : zD M pc = some (.getstatic i, 3, mq) ∧ zSc' (zOn M) i = some 1) (hm : zMo mq lv = lv) : zE sc d M pc lv st g h = zE sc d M (pc + 3) lv (.int 1 :: st) g h := ev_pure hd.1 hm (by simp [zPure, z_st, hd.2])
theorem ev_gsF {sc : zSc} {d M pc : Nat} {lv : zLv} {st : List Value} {g : zSg} {h : zHp} {mq : Option (List Bool)} {i : Nat} (hd : zD M pc = some (.getstatic i, 3, mq) ∧ zSc' (zOn M) i = some 2) (hm : zMo mq lv = lv) : zE sc d M pc lv st g h = zE sc d M (pc + 3) lv (.ref 1400 :: st) g h := ev_pure hd.1 hm (by simp [zPure, z_st, hd.2])
theorem ev_iload {sc : zSc} {d M pc : Nat} {lv : zLv} {st : List Value} {g : zSg} {h : zHp} {mq : Option (List Bool)} {i : Nat} {x : Int32} (hd : zD M pc = some (.iload i, 2, mq)) (hm : zMo mq lv = lv) (hl : zLg lv i = some (.int x)) : zE sc d M pc lv st g h = zE sc d M (pc + 2) lv (.int x :: st) g h := ev_pure hd hm (by simp [zPure, z_il, hl])
theorem ev_iload_n {sc : zSc} {d M pc : Nat} {lv : zLv} {st : List Value} {g : zSg} {h : zHp} {mq : Option (List Bool)} {i : Fin 4} {x : Int32} (hd : zD M pc = some (.iload_n i, 1, mq)) (hm : zMo mq lv = lv) (hl : zLg lv i.val = some (.int x)) : zE sc d M pc lv st g h = zE sc d M (pc + 1) lv (.int x :: st) g h := ev_pure hd hm (by simp [zPure, z_il, hl])
theorem ev_lload {sc : zSc} {d M pc : Nat} {lv : zLv} {st : List Value} {g : zSg} {h : zHp} {mq : Option (List Bool)} {i : Nat} {x : Int64} (hd : zD M pc = some (.lload i, 2, mq)) (hm : zMo mq lv = lv) (hl : zLg lv i = some (.long x)) : zE sc d M pc lv st g h = zE sc d M (pc + 2) lv (.long x :: st) g h := ev_pure hd hm (by simp [zPure, z_ll, hl])
theorem ev_lload_n {sc : zSc} {d M pc : Nat} {lv : zLv} {st : List Value} {g : zSg} {h : zHp} {mq : Option (List Bool)} {i : Fin 4} {x : Int64} (hd : zD M pc = some (.lload_n i, 1, mq)) (hm : zMo mq lv = lv) (hl : zLg lv i.val = some (.long x)) : zE sc d M pc lv st g h = zE sc d M (pc + 1) lv (.long x :: st) g h := ev_pure hd hm (by simp [zPure, z_ll, hl])
theorem ev_aload {sc : zSc} {d M pc : Nat} {lv : zLv} {st : List Value} {g : zSg} {h : zHp} {mq : Option (List Bool)} {i x : Nat} (hd : zD M pc = some (.aload i, 2, mq)) (hm : zMo mq lv = lv) (hl : zLg lv i = some (.ref x)) (hx : x ≠ 1400) : zE sc d M pc lv st g h = zE sc d M (pc + 2) lv (.ref x :: st) g h := ev_pure hd hm (by simp [zPure, z_al, hl, hx])
theorem ev_aload_n {sc : zSc} {d M pc : Nat} {lv : zLv} {st : List Value} {g : zSg} {h : zHp} {mq : Option (List Bool)} {i : Fin 4} {x : Nat} (hd : zD M pc = some (.aload_n i, 1, mq)) (hm : zMo mq lv = lv) (hl : zLg lv i.val = some (.ref x)) (hx : x ≠ 1400) : zE sc d M pc lv st g h = zE sc d M (pc + 1) lv (.ref x :: st) g h := ev_pure hd hm (by simp [zPure, z_al, hl, hx])
theorem ev_dup {sc : zSc} {d M pc : Nat} {lv : zLv} {st : List Value} {g : zSg} {h : zHp} {mq : Option (List Bool)} {v : Value} (hd : zD M pc = some (.dup, 1, mq)) (hm : zMo mq lv = lv) (hv : v.category = 1) : zE sc d M pc lv (v :: st) g h = zE sc d M (pc + 1) lv (v :: v :: st) g h := ev_pure hd hm (by simp [zPure, z_dup, hv])
theorem ev_dup2 {sc : zSc} {d M pc : Nat} {lv : zLv} {st : List Value} {g : zSg} {h : zHp} {mq : Option (List Bool)} {v w : Value} (hd : zD M pc = some (.dup2, 1, mq)) (hm : zMo mq lv = lv) (hv : v.category = 1) (hw : w.category = 1) : zE sc d M pc lv (v :: w :: st) g h = zE sc d M (pc + 1) lv (v :: w :: v :: w :: st) g h := ev_pure hd hm (by simp [zPure, z_dup2, hv, hw])
theorem ev_pop {sc : zSc} {d M pc : Nat} {lv : zLv} {st : List Value} {g : zSg} {h : zHp} {mq : Option (List Bool)} {v : Value} (hd : zD M pc = some (.pop, 1, mq)) (hm : zMo mq lv = lv) (hv : v.category = 1) : zE sc d M pc lv (v :: st) g h = zE sc d M (pc + 1) lv st g h := ev_pure hd hm (by simp [zPure, z_pop, hv])
theorem ev_iadd {sc : zSc} {d M pc : Nat} {lv : zLv} {st : List Value} {g : zSg} {h : zHp} {mq : Option (List Bool)} {x y : Int32} (hd : zD M pc = some (.iadd, 1, mq)) (hm : zMo mq lv = lv) : zE sc d M pc lv (.int y :: .int x :: st) g h = zE sc d M (pc + 1) lv (.int (x + y) :: st) g h := ev_pure hd hm rfl
theorem ev_isub {sc : zSc} {d M pc : Nat} {lv : zLv} {st : List Value} {g : zSg} {h : zHp} {mq : Option (List Bool)} {x y : Int32} (hd : zD M pc = some (.isub, 1, mq)) (hm : zMo mq lv = lv) : zE sc d M pc lv (.int y :: .int x :: st) g h = zE sc d M (pc + 1) lv (.int (x - y) :: st) g h := ev_pure hd hm rfl
theorem ev_imul {sc : zSc} {d M pc : Nat} {lv : zLv} {st : List Value} {g : zSg} {h : zHp} {mq : Option (List Bool)} {x y : Int32} (hd : zD M pc = some (.imul, 1, mq)) (hm : zMo mq lv = lv) : zE sc d M pc lv (.int y :: .int x :: st) g h = zE sc d M (pc + 1) lv (.int (x * y) :: st) g h := ev_pure hd hm rfl
theorem ev_ishl {sc : zSc} {d M pc : Nat} {lv : zLv} {st : List Value} {g : zSg} {h : zHp} {mq : Option (List Bool)} {x y : Int32} (hd : zD M pc = some (.ishl, 1, mq)) (hm : zMo mq lv = lv) : zE sc d M pc lv (.int y :: .int x :: st) g h = zE sc d M (pc + 1) lv (.int (x <<< (y &&& 31)) :: st) g h := ev_pure hd hm rfl
theorem ev_ishr {sc : zSc} {d M pc : Nat} {lv : zLv} {st : List Value} {g : zSg} {h : zHp} {mq : Option (List Bool)} {x y : Int32} (hd : zD M pc = some (.ishr, 1, mq)) (hm : zMo mq lv = lv) : zE sc d M pc lv (.int y :: .int x :: st) g h = zE sc d M (pc + 1) lv (.int (x >>> (y &&& 31)) :: st) g h := ev_pure hd hm rfl
theorem ev_iand {sc : zSc} {d M pc : Nat} {lv : zLv} {st : List Value} {g : zSg} {h : zHp} {mq : Option (List Bool)} {x y : Int32} (hd : zD M pc = some (.iand, 1, mq)) (hm : zMo mq lv = lv) : zE sc d M pc lv (.int y :: .int x :: st) g h = zE sc d M (pc + 1) lv (.int (x &&& y) :: st) g h := ev_pure hd hm rfl
theorem ev_ior {sc : zSc} {d M pc : Nat} {lv : zLv} {st : List Value} {g : zSg} {h : zHp} {mq : Option (List Bool)} {x y : Int32} (hd : zD M pc = some (.ior, 1, mq)) (hm : zMo mq lv = lv) : zE sc d M pc lv (.int y :: .int x :: st) g h = zE sc d M (pc + 1) lv (.int (x ||| y) :: st) g h := ev_pure hd hm rfl
theorem ev_ixor {sc : zSc} {d M pc : Nat} {lv : zLv} {st : List Value} {g : zSg} {h : zHp} {mq : Option (List Bool)} {x y : Int32} (hd : zD M pc = some (.ixor, 1, mq)) (hm : zMo mq lv = lv) : zE sc d M pc lv (.int y :: .int x :: st) g h = zE sc d M (pc + 1) lv (.int (x ^^^ y) :: st) g h := ev_pure hd hm rfl
theorem ev_iushr {sc : zSc} {d M pc : Nat} {lv : zLv} {st : List Value} {g : zSg} {h : zHp} {mq : Option (List Bool)} {x y : Int32} (hd : zD M pc = some (.iushr, 1, mq)) (hm : zMo mq lv = lv) : zE sc d M pc lv (.int y :: .int x :: st) g h = zE sc d M (pc + 1) lv (.int ((x.toUInt32 >>> (y.toUInt32 &&& Int32.toUInt32 31)).toInt32) :: st) g h := ev_pure hd hm rfl
theorem ev_idiv {sc : zSc} {d M pc : Nat} {lv : zLv} {st : List Value} {g : zSg} {h : zHp} {mq : Option (List Bool)} {x y : Int32} (hd : zD M pc = some (.idiv, 1, mq)) (hm : zMo mq lv = lv) (hy : y ≠ 0) : zE sc d M pc lv (.int y :: .int x :: st) g h = zE sc d M (pc + 1) lv (.int (x / y) :: st) g h := ev_pure hd hm (by simp [zPure, z_i2, hy])
theorem ev_idiv_c {sc : zSc} {d M pc : Nat} {lv : zLv} {st : List Value} {g : zSg} {h : zHp} {mq : Option (List Bool)} {x y : Int32} (hd : zD M pc = some (.idiv, 1, mq)) (hm : zMo mq lv = lv) : zE sc d M pc lv (.int y :: .int x :: st) g h = (if y = 0 then none else zE sc d M (pc + 1) lv (.int (x / y) :: st) g h) := by
  by_cases hy : y = 0
  · rw [if_pos hy]
    exact ev_stuck hd hm (by simp [zPure, z_i2, hy]) rfl rfl rfl rfl rfl
  · rw [if_neg hy]
    exact ev_pure hd hm (by simp [zPure, z_i2, hy])
theorem ev_irem {sc : zSc} {d M pc : Nat} {lv : zLv} {st : List Value} {g : zSg} {h : zHp} {mq : Option (List Bool)} {x y : Int32} (hd : zD M pc = some (.irem, 1, mq)) (hm : zMo mq lv = lv) (hy : y ≠ 0) : zE sc d M pc lv (.int y :: .int x :: st) g h = zE sc d M (pc + 1) lv (.int (x - x / y * y) :: st) g h := ev_pure hd hm (by simp [zPure, z_i2, hy])
theorem ev_irem_c {sc : zSc} {d M pc : Nat} {lv : zLv} {st : List Value} {g : zSg} {h : zHp} {mq : Option (List Bool)} {x y : Int32} (hd : zD M pc = some (.irem, 1, mq)) (hm : zMo mq lv = lv) : zE sc d M pc lv (.int y :: .int x :: st) g h = (if y = 0 then none else zE sc d M (pc + 1) lv (.int (x - x / y * y) :: st) g h) := by
  by_cases hy : y = 0
  · rw [if_pos hy]
    exact ev_stuck hd hm (by simp [zPure, z_i2, hy]) rfl rfl rfl rfl rfl
  · rw [if_neg hy]
    exact ev_pure hd hm (by simp [zPure, z_i2, hy])
theorem ev_lrem {sc : zSc} {d M pc : Nat} {lv : zLv} {st : List Value} {g : zSg} {h : zHp} {mq : Option (List Bool)} {x y : Int64} (hd : zD M pc = some (.lrem, 1, mq)) (hm : zMo mq lv = lv) (hy : y ≠ 0) : zE sc d M pc lv (.long y :: .long x :: st) g h = zE sc d M (pc + 1) lv (.long (x - x / y * y) :: st) g h := ev_pure hd hm (by simp [zPure, z_l2, hy])
theorem ev_ineg {sc : zSc} {d M pc : Nat} {lv : zLv} {st : List Value} {g : zSg} {h : zHp} {mq : Option (List Bool)} {x : Int32} (hd : zD M pc = some (.ineg, 1, mq)) (hm : zMo mq lv = lv) : zE sc d M pc lv (.int x :: st) g h = zE sc d M (pc + 1) lv (.int (-x) :: st) g h := ev_pure hd hm rfl
theorem ev_i2l {sc : zSc} {d M pc : Nat} {lv : zLv} {st : List Value} {g : zSg} {h : zHp} {mq : Option (List Bool)} {x : Int32} (hd : zD M pc = some (.i2l, 1, mq)) (hm : zMo mq lv = lv) : zE sc d M pc lv (.int x :: st) g h = zE sc d M (pc + 1) lv (.long x.toInt64 :: st) g h := ev_pure hd hm rfl
theorem ev_i2c {sc : zSc} {d M pc : Nat} {lv : zLv} {st : List Value} {g : zSg} {h : zHp} {mq : Option (List Bool)} {x : Int32} (hd : zD M pc = some (.i2c, 1, mq)) (hm : zMo mq lv = lv) : zE sc d M pc lv (.int x :: st) g h = zE sc d M (pc + 1) lv (.int (x.toUInt32 % 65536).toInt32 :: st) g h := ev_pure hd hm rfl
theorem ev_l2i {sc : zSc} {d M pc : Nat} {lv : zLv} {st : List Value} {g : zSg} {h : zHp} {mq : Option (List Bool)} {x : Int64} (hd : zD M pc = some (.l2i, 1, mq)) (hm : zMo mq lv = lv) : zE sc d M pc lv (.long x :: st) g h = zE sc d M (pc + 1) lv (.int x.toInt32 :: st) g h := ev_pure hd hm rfl
theorem ev_ladd {sc : zSc} {d M pc : Nat} {lv : zLv} {st : List Value} {g : zSg} {h : zHp} {mq : Option (List Bool)} {x y : Int64} (hd : zD M pc = some (.ladd, 1, mq)) (hm : zMo mq lv = lv) : zE sc d M pc lv (.long y :: .long x :: st) g h = zE sc d M (pc + 1) lv (.long (x + y) :: st) g h := ev_pure hd hm rfl
theorem ev_lsub {sc : zSc} {d M pc : Nat} {lv : zLv} {st : List Value} {g : zSg} {h : zHp} {mq : Option (List Bool)} {x y : Int64} (hd : zD M pc = some (.lsub, 1, mq)) (hm : zMo mq lv = lv) : zE sc d M pc lv (.long y :: .long x :: st) g h = zE sc d M (pc + 1) lv (.long (x - y) :: st) g h := ev_pure hd hm rfl
theorem ev_lmul {sc : zSc} {d M pc : Nat} {lv : zLv} {st : List Value} {g : zSg} {h : zHp} {mq : Option (List Bool)} {x y : Int64} (hd : zD M pc = some (.lmul, 1, mq)) (hm : zMo mq lv = lv) : zE sc d M pc lv (.long y :: .long x :: st) g h = zE sc d M (pc + 1) lv (.long (x * y) :: st) g h := ev_pure hd hm rfl
theorem ev_land {sc : zSc} {d M pc : Nat} {lv : zLv} {st : List Value} {g : zSg} {h : zHp} {mq : Option (List Bool)} {x y : Int64} (hd : zD M pc = some (.land, 1, mq)) (hm : zMo mq lv = lv) : zE sc d M pc lv (.long y :: .long x :: st) g h = zE sc d M (pc + 1) lv (.long (x &&& y) :: st) g h := ev_pure hd hm rfl
theorem ev_lor {sc : zSc} {d M pc : Nat} {lv : zLv} {st : List Value} {g : zSg} {h : zHp} {mq : Option (List Bool)} {x y : Int64} (hd : zD M pc = some (.lor, 1, mq)) (hm : zMo mq lv = lv) : zE sc d M pc lv (.long y :: .long x :: st) g h = zE sc d M (pc + 1) lv (.long (x ||| y) :: st) g h := ev_pure hd hm rfl
theorem ev_lxor {sc : zSc} {d M pc : Nat} {lv : zLv} {st : List Value} {g : zSg} {h : zHp} {mq : Option (List Bool)} {x y : Int64} (hd : zD M pc = some (.lxor, 1, mq)) (hm : zMo mq lv = lv) : zE sc d M pc lv (.long y :: .long x :: st) g h = zE sc d M (pc + 1) lv (.long (x ^^^ y) :: st) g h := ev_pure hd hm rfl
theorem ev_lcmp {sc : zSc} {d M pc : Nat} {lv : zLv} {st : List Value} {g : zSg} {h : zHp} {mq : Option (List Bool)} {x y : Int64} (hd : zD M pc = some (.lcmp, 1, mq)) (hm : zMo mq lv = lv) : zE sc d M pc lv (.long y :: .long x :: st) g h = zE sc d M (pc + 1) lv (.int (lg_cmp x y) :: st) g h := ev_pure hd hm rfl
theorem ev_lshl {sc : zSc} {d M pc : Nat} {lv : zLv} {st : List Value} {g : zSg} {h : zHp} {mq : Option (List Bool)} {x : Int64} {y : Int32} (hd : zD M pc = some (.lshl, 1, mq)) (hm : zMo mq lv = lv) : zE sc d M pc lv (.int y :: .long x :: st) g h = zE sc d M (pc + 1) lv (.long (x <<< (y.toInt64 &&& 63)) :: st) g h := ev_pure hd hm rfl
theorem ev_lshr {sc : zSc} {d M pc : Nat} {lv : zLv} {st : List Value} {g : zSg} {h : zHp} {mq : Option (List Bool)} {x : Int64} {y : Int32} (hd : zD M pc = some (.lshr, 1, mq)) (hm : zMo mq lv = lv) : zE sc d M pc lv (.int y :: .long x :: st) g h = zE sc d M (pc + 1) lv (.long (x >>> (y.toInt64 &&& 63)) :: st) g h := ev_pure hd hm rfl
theorem ev_lushr {sc : zSc} {d M pc : Nat} {lv : zLv} {st : List Value} {g : zSg} {h : zHp} {mq : Option (List Bool)} {x : Int64} {y : Int32} (hd : zD M pc = some (.lushr, 1, mq)) (hm : zMo mq lv = lv) : zE sc d M pc lv (.int y :: .long x :: st) g h = zE sc d M (pc + 1) lv (.long ((x.toUInt64 >>> (y.toInt64.toUInt64 &&& Int64.toUInt64 63)).toInt64) :: st) g h := ev_pure hd hm rfl
theorem ev_istore {sc : zSc} {d M pc : Nat} {lv : zLv} {st : List Value} {g : zSg} {h : zHp} {mq : Option (List Bool)} {i : Nat} {x : Int32} {lv' : zLv} (hd : zD M pc = some (.istore i, 2, mq)) (hm : zMo mq lv = lv) (hi : i < lv.length) (hl : zSto lv i (.int x) = lv') : zE sc d M pc lv (.int x :: st) g h = zE sc d M (pc + 2) lv' st g h := by subst hl; exact ev_loc hd hm rfl (by simp [zLoc, z_is, hi])
theorem ev_istore_n {sc : zSc} {d M pc : Nat} {lv : zLv} {st : List Value} {g : zSg} {h : zHp} {mq : Option (List Bool)} {i : Fin 4} {x : Int32} {lv' : zLv} (hd : zD M pc = some (.istore_n i, 1, mq)) (hm : zMo mq lv = lv) (hi : i.val < lv.length) (hl : zSto lv i.val (.int x) = lv') : zE sc d M pc lv (.int x :: st) g h = zE sc d M (pc + 1) lv' st g h := by subst hl; exact ev_loc hd hm rfl (by simp [zLoc, z_is, hi])
theorem ev_lstore {sc : zSc} {d M pc : Nat} {lv : zLv} {st : List Value} {g : zSg} {h : zHp} {mq : Option (List Bool)} {i : Nat} {x : Int64} {lv' : zLv} (hd : zD M pc = some (.lstore i, 2, mq)) (hm : zMo mq lv = lv) (hi : i + 1 < lv.length) (hl : zStL lv i (.long x) = lv') : zE sc d M pc lv (.long x :: st) g h = zE sc d M (pc + 2) lv' st g h := by subst hl; exact ev_loc hd hm rfl (by simp [zLoc, z_ls, hi])
theorem ev_lstore_n {sc : zSc} {d M pc : Nat} {lv : zLv} {st : List Value} {g : zSg} {h : zHp} {mq : Option (List Bool)} {i : Fin 4} {x : Int64} {lv' : zLv} (hd : zD M pc = some (.lstore_n i, 1, mq)) (hm : zMo mq lv = lv) (hi : i.val + 1 < lv.length) (hl : zStL lv i.val (.long x) = lv') : zE sc d M pc lv (.long x :: st) g h = zE sc d M (pc + 1) lv' st g h := by subst hl; exact ev_loc hd hm rfl (by simp [zLoc, z_ls, hi])
theorem ev_astore {sc : zSc} {d M pc : Nat} {lv : zLv} {st : List Value} {g : zSg} {h : zHp} {mq : Option (List Bool)} {i x : Nat} {lv' : zLv} (hd : zD M pc = some (.astore i, 2, mq)) (hm : zMo mq lv = lv) (hi : i < lv.length) (hx : x ≠ 1400) (hl : zSto lv i (.ref x) = lv') : zE sc d M pc lv (.ref x :: st) g h = zE sc d M (pc + 2) lv' st g h := by subst hl; exact ev_loc hd hm rfl (by simp [zLoc, z_as, hi, hx])
theorem ev_astore_n {sc : zSc} {d M pc : Nat} {lv : zLv} {st : List Value} {g : zSg} {h : zHp} {mq : Option (List Bool)} {i : Fin 4} {x : Nat} {lv' : zLv} (hd : zD M pc = some (.astore_n i, 1, mq)) (hm : zMo mq lv = lv) (hi : i.val < lv.length) (hx : x ≠ 1400) (hl : zSto lv i.val (.ref x) = lv') : zE sc d M pc lv (.ref x :: st) g h = zE sc d M (pc + 1) lv' st g h := by subst hl; exact ev_loc hd hm rfl (by simp [zLoc, z_as, hi, hx])
theorem ev_iinc {sc : zSc} {d M pc : Nat} {lv : zLv} {st : List Value} {g : zSg} {h : zHp} {mq : Option (List Bool)} {i : Nat} {n : Int} {x v : Int32} {lv' : zLv} (hd : zD M pc = some (.iinc i n, 3, mq)) (hm : zMo mq lv = lv) (hg : zLg lv i = some (.int x)) (hv : Int32.ofInt n = v) (hl : zSto lv i (.int (x + v)) = lv') : zE sc d M pc lv st g h = zE sc d M (pc + 3) lv' st g h := by subst hv; subst hl; exact ev_loc hd hm rfl (by simp [zLoc, z_ic, hg])
theorem ev_goto {sc : zSc} {d M pc : Nat} {lv : zLv} {st : List Value} {g : zSg} {h : zHp} {mq : Option (List Bool)} {off : Int} {t : Nat} (hd : zD M pc = some (.goto off, 3, mq)) (hm : zMo mq lv = lv) (ht : zTg pc off = some t) : zE sc d M pc lv st g h = zE sc d M t lv st g h := ev_br hd hm rfl rfl (by simp [zBr, ht])
theorem ev_ifeq {sc : zSc} {d M pc : Nat} {lv : zLv} {st : List Value} {g : zSg} {h : zHp} {mq : Option (List Bool)} {off : Int} {t : Nat} {x : Int32} (hd : zD M pc = some (.ifCond .eq off, 3, mq)) (hm : zMo mq lv = lv) (ht : zTg pc off = some t) : zE sc d M pc lv (.int x :: st) g h = (if x = 0 then zE sc d M t lv st g h else zE sc d M (pc + 3) lv st g h) := by
  rw [ev_br hd hm rfl rfl (pc' := if zC1 .eq x then t else pc + 3) (st' := st) (by simp [zBr, z_b1, ht])]
  by_cases hx : x = 0 <;> simp [zC1, hx]
theorem ev_ifne {sc : zSc} {d M pc : Nat} {lv : zLv} {st : List Value} {g : zSg} {h : zHp} {mq : Option (List Bool)} {off : Int} {t : Nat} {x : Int32} (hd : zD M pc = some (.ifCond .ne off, 3, mq)) (hm : zMo mq lv = lv) (ht : zTg pc off = some t) : zE sc d M pc lv (.int x :: st) g h = (if x = 0 then zE sc d M (pc + 3) lv st g h else zE sc d M t lv st g h) := by
  rw [ev_br hd hm rfl rfl (pc' := if zC1 .ne x then t else pc + 3) (st' := st) (by simp [zBr, z_b1, ht])]
  by_cases hx : x = 0 <;> simp [zC1, hx]
theorem ev_iflt {sc : zSc} {d M pc : Nat} {lv : zLv} {st : List Value} {g : zSg} {h : zHp} {mq : Option (List Bool)} {off : Int} {t : Nat} {x : Int32} (hd : zD M pc = some (.ifCond .lt off, 3, mq)) (hm : zMo mq lv = lv) (ht : zTg pc off = some t) : zE sc d M pc lv (.int x :: st) g h = (if x < 0 then zE sc d M t lv st g h else zE sc d M (pc + 3) lv st g h) := by
  rw [ev_br hd hm rfl rfl (pc' := if zC1 .lt x then t else pc + 3) (st' := st) (by simp [zBr, z_b1, ht])]
  by_cases hx : x < 0 <;> simp [zC1, hx]
theorem ev_ifge {sc : zSc} {d M pc : Nat} {lv : zLv} {st : List Value} {g : zSg} {h : zHp} {mq : Option (List Bool)} {off : Int} {t : Nat} {x : Int32} (hd : zD M pc = some (.ifCond .ge off, 3, mq)) (hm : zMo mq lv = lv) (ht : zTg pc off = some t) : zE sc d M pc lv (.int x :: st) g h = (if x < 0 then zE sc d M (pc + 3) lv st g h else zE sc d M t lv st g h) := by
  rw [ev_br hd hm rfl rfl (pc' := if zC1 .ge x then t else pc + 3) (st' := st) (by simp [zBr, z_b1, ht])]
  by_cases hx : x < 0 <;> simp [zC1, hx]
theorem ev_ifgt {sc : zSc} {d M pc : Nat} {lv : zLv} {st : List Value} {g : zSg} {h : zHp} {mq : Option (List Bool)} {off : Int} {t : Nat} {x : Int32} (hd : zD M pc = some (.ifCond .gt off, 3, mq)) (hm : zMo mq lv = lv) (ht : zTg pc off = some t) : zE sc d M pc lv (.int x :: st) g h = (if 0 < x then zE sc d M t lv st g h else zE sc d M (pc + 3) lv st g h) := by
  rw [ev_br hd hm rfl rfl (pc' := if zC1 .gt x then t else pc + 3) (st' := st) (by simp [zBr, z_b1, ht])]
  by_cases hx : 0 < x <;> simp [zC1, hx]
theorem ev_ifle {sc : zSc} {d M pc : Nat} {lv : zLv} {st : List Value} {g : zSg} {h : zHp} {mq : Option (List Bool)} {off : Int} {t : Nat} {x : Int32} (hd : zD M pc = some (.ifCond .le off, 3, mq)) (hm : zMo mq lv = lv) (ht : zTg pc off = some t) : zE sc d M pc lv (.int x :: st) g h = (if 0 < x then zE sc d M (pc + 3) lv st g h else zE sc d M t lv st g h) := by
  rw [ev_br hd hm rfl rfl (pc' := if zC1 .le x then t else pc + 3) (st' := st) (by simp [zBr, z_b1, ht])]
  by_cases hx : 0 < x <;> simp [zC1, hx]
theorem ev_iceq {sc : zSc} {d M pc : Nat} {lv : zLv} {st : List Value} {g : zSg} {h : zHp} {mq : Option (List Bool)} {off : Int} {t : Nat} {x y : Int32} (hd : zD M pc = some (.if_icmp .eq off, 3, mq)) (hm : zMo mq lv = lv) (ht : zTg pc off = some t) : zE sc d M pc lv (.int y :: .int x :: st) g h = (if x = y then zE sc d M t lv st g h else zE sc d M (pc + 3) lv st g h) := by
  rw [ev_br hd hm rfl rfl (pc' := if zC2 .eq x y then t else pc + 3) (st' := st) (by simp [zBr, z_b2, ht])]
  by_cases hx : x = y <;> simp [zC2, hx]
theorem ev_icne {sc : zSc} {d M pc : Nat} {lv : zLv} {st : List Value} {g : zSg} {h : zHp} {mq : Option (List Bool)} {off : Int} {t : Nat} {x y : Int32} (hd : zD M pc = some (.if_icmp .ne off, 3, mq)) (hm : zMo mq lv = lv) (ht : zTg pc off = some t) : zE sc d M pc lv (.int y :: .int x :: st) g h = (if x = y then zE sc d M (pc + 3) lv st g h else zE sc d M t lv st g h) := by
  rw [ev_br hd hm rfl rfl (pc' := if zC2 .ne x y then t else pc + 3) (st' := st) (by simp [zBr, z_b2, ht])]
  by_cases hx : x = y <;> simp [zC2, hx]
theorem ev_iclt {sc : zSc} {d M pc : Nat} {lv : zLv} {st : List Value} {g : zSg} {h : zHp} {mq : Option (List Bool)} {off : Int} {t : Nat} {x y : Int32} (hd : zD M pc = some (.if_icmp .lt off, 3, mq)) (hm : zMo mq lv = lv) (ht : zTg pc off = some t) : zE sc d M pc lv (.int y :: .int x :: st) g h = (if x < y then zE sc d M t lv st g h else zE sc d M (pc + 3) lv st g h) := by
  rw [ev_br hd hm rfl rfl (pc' := if zC2 .lt x y then t else pc + 3) (st' := st) (by simp [zBr, z_b2, ht])]
  by_cases hx : x < y <;> simp [zC2, hx]
theorem ev_icge {sc : zSc} {d M pc : Nat} {lv : zLv} {st : List Value} {g : zSg} {h : zHp} {mq : Option (List Bool)} {off : Int} {t : Nat} {x y : Int32} (hd : zD M pc = some (.if_icmp .ge off, 3, mq)) (hm : zMo mq lv = lv) (ht : zTg pc off = some t) : zE sc d M pc lv (.int y :: .int x :: st) g h = (if x < y then zE sc d M (pc + 3) lv st g h else zE sc d M t lv st g h) := by
  rw [ev_br hd hm rfl rfl (pc' := if zC2 .ge x y then t else pc + 3) (st' := st) (by simp [zBr, z_b2, ht])]
  by_cases hx : x < y <;> simp [zC2, hx]
theorem ev_icgt {sc : zSc} {d M pc : Nat} {lv : zLv} {st : List Value} {g : zSg} {h : zHp} {mq : Option (List Bool)} {off : Int} {t : Nat} {x y : Int32} (hd : zD M pc = some (.if_icmp .gt off, 3, mq)) (hm : zMo mq lv = lv) (ht : zTg pc off = some t) : zE sc d M pc lv (.int y :: .int x :: st) g h = (if y < x then zE sc d M t lv st g h else zE sc d M (pc + 3) lv st g h) := by
  rw [ev_br hd hm rfl rfl (pc' := if zC2 .gt x y then t else pc + 3) (st' := st) (by simp [zBr, z_b2, ht])]
  by_cases hx : y < x <;> simp [zC2, hx]
theorem ev_icle {sc : zSc} {d M pc : Nat} {lv : zLv} {st : List Value} {g : zSg} {h : zHp} {mq : Option (List Bool)} {off : Int} {t : Nat} {x y : Int32} (hd : zD M pc = some (.if_icmp .le off, 3, mq)) (hm : zMo mq lv = lv) (ht : zTg pc off = some t) : zE sc d M pc lv (.int y :: .int x :: st) g h = (if y < x then zE sc d M (pc + 3) lv st g h else zE sc d M t lv st g h) := by
  rw [ev_br hd hm rfl rfl (pc' := if zC2 .le x y then t else pc + 3) (st' := st) (by simp [zBr, z_b2, ht])]
  by_cases hx : y < x <;> simp [zC2, hx]
theorem z_cmp (x y : Int64) : (lg_cmp x y = 0 ↔ x = y) ∧ (lg_cmp x y < 0 ↔ x < y) ∧ (0 < lg_cmp x y ↔ y < x) := by
  unfold lg_cmp
  by_cases h1 : x < y
  · have h2 : ¬ y < x := fun h => by have a := Int64.lt_iff_toInt_lt.mp h; have b := Int64.lt_iff_toInt_lt.mp h1; omega
    have h3 : x ≠ y := fun h => by rw [h] at h1; have b := Int64.lt_iff_toInt_lt.mp h1; omega
    simp [h1, h2, h3]
  · by_cases h2 : x = y
    · subst h2
      simp
    · have h3 : y < x := by
        rcases Int64.lt_or_lt_of_ne h2 with h | h
        · exact absurd h h1
        · exact h
      simp [h1, h2, h3]
theorem ev_ileq {sc : zSc} {d M pc : Nat} {lv : zLv} {st : List Value} {g : zSg} {h : zHp} {mq : Option (List Bool)} {off : Int} {t : Nat} {x y : Int64} (hd : zD M pc = some (.ifCond .eq off, 3, mq)) (hm : zMo mq lv = lv) (ht : zTg pc off = some t) : zE sc d M pc lv (.int (lg_cmp x y) :: st) g h = (if x = y then zE sc d M t lv st g h else zE sc d M (pc + 3) lv st g h) := by
  rw [ev_ifeq hd hm ht]
  simp only [(z_cmp x y).1]
theorem ev_ilne {sc : zSc} {d M pc : Nat} {lv : zLv} {st : List Value} {g : zSg} {h : zHp} {mq : Option (List Bool)} {off : Int} {t : Nat} {x y : Int64} (hd : zD M pc = some (.ifCond .ne off, 3, mq)) (hm : zMo mq lv = lv) (ht : zTg pc off = some t) : zE sc d M pc lv (.int (lg_cmp x y) :: st) g h = (if x = y then zE sc d M (pc + 3) lv st g h else zE sc d M t lv st g h) := by
  rw [ev_ifne hd hm ht]
  simp only [(z_cmp x y).1]
theorem ev_illt {sc : zSc} {d M pc : Nat} {lv : zLv} {st : List Value} {g : zSg} {h : zHp} {mq : Option (List Bool)} {off : Int} {t : Nat} {x y : Int64} (hd : zD M pc = some (.ifCond .lt off, 3, mq)) (hm : zMo mq lv = lv) (ht : zTg pc off = some t) : zE sc d M pc lv (.int (lg_cmp x y) :: st) g h = (if x < y then zE sc d M t lv st g h else zE sc d M (pc + 3) lv st g h) := by
  rw [ev_iflt hd hm ht]
  simp only [(z_cmp x y).2.1]
theorem ev_ilge {sc : zSc} {d M pc : Nat} {lv : zLv} {st : List Value} {g : zSg} {h : zHp} {mq : Option (List Bool)} {off : Int} {t : Nat} {x y : Int64} (hd : zD M pc = some (.ifCond .ge off, 3, mq)) (hm : zMo mq lv = lv) (ht : zTg pc off = some t) : zE sc d M pc lv (.int (lg_cmp x y) :: st) g h = (if x < y then zE sc d M (pc + 3) lv st g h else zE sc d M t lv st g h) := by
  rw [ev_ifge hd hm ht]
  simp only [(z_cmp x y).2.1]
theorem ev_ilgt {sc : zSc} {d M pc : Nat} {lv : zLv} {st : List Value} {g : zSg} {h : zHp} {mq : Option (List Bool)} {off : Int} {t : Nat} {x y : Int64} (hd : zD M pc = some (.ifCond .gt off, 3, mq)) (hm : zMo mq lv = lv) (ht : zTg pc off = some t) : zE sc d M pc lv (.int (lg_cmp x y) :: st) g h = (if y < x then zE sc d M t lv st g h else zE sc d M (pc + 3) lv st g h) := by
  rw [ev_ifgt hd hm ht]
  simp only [(z_cmp x y).2.2]
theorem ev_ille {sc : zSc} {d M pc : Nat} {lv : zLv} {st : List Value} {g : zSg} {h : zHp} {mq : Option (List Bool)} {off : Int} {t : Nat} {x y : Int64} (hd : zD M pc = some (.ifCond .le off, 3, mq)) (hm : zMo mq lv = lv) (ht : zTg pc off = some t) : zE sc d M pc lv (.int (lg_cmp x y) :: st) g h = (if y < x then zE sc d M (pc + 3) lv st g h else zE sc d M t lv st g h) := by
  rw [ev_ifle hd hm ht]
  simp only [(z_cmp x y).2.2]
theorem ev_ret_int {sc : zSc} {d M pc : Nat} {lv : zLv} {g : zSg} {h : zHp} {mq : Option (List Bool)} {x : Int32} (hd : zD M pc = some (.ireturn, 1, mq)) (hm : zMo mq lv = lv) (ht : zRt M = some .int) : zE sc d M pc lv [.int x] g h = some (some (.int x), g, h) := ev_ret hd hm rfl rfl rfl rfl (by rw [ht]; rfl)
theorem ev_ret_bool {sc : zSc} {d M pc : Nat} {lv : zLv} {g : zSg} {h : zHp} {mq : Option (List Bool)} {x : Int32} (hd : zD M pc = some (.ireturn, 1, mq)) (hm : zMo mq lv = lv) (ht : zRt M = some .boolean) : zE sc d M pc lv [.int x] g h = (if x = 0 ∨ x = 1 then some (some (.int x), g, h) else none) := by
  by_cases hx : x = 0 ∨ x = 1
  · rw [if_pos hx]
    exact ev_ret hd hm rfl rfl rfl rfl (by rw [ht]; rcases hx with rfl | rfl <;> rfl)
  · rw [if_neg hx]
    exact ev_stuck hd hm rfl rfl rfl rfl (by rw [ht]; simp [zRet, zRk, hx]) rfl
theorem ev_ret_byte {sc : zSc} {d M pc : Nat} {lv : zLv} {g : zSg} {h : zHp} {mq : Option (List Bool)} {x : Int32} (hd : zD M pc = some (.ireturn, 1, mq)) (hm : zMo mq lv = lv) (ht : zRt M = some .byte) (hx : x = 0) : zE sc d M pc lv [.int x] g h = some (some (.int x), g, h) := ev_ret hd hm rfl rfl rfl rfl (by rw [ht]; subst hx; rfl)
theorem ev_ret_char {sc : zSc} {d M pc : Nat} {lv : zLv} {g : zSg} {h : zHp} {mq : Option (List Bool)} {x : Int32} (hd : zD M pc = some (.ireturn, 1, mq)) (hm : zMo mq lv = lv) (ht : zRt M = some .char) (hx : (x.toUInt32 % 65536).toInt32 = x) : zE sc d M pc lv [.int x] g h = some (some (.int x), g, h) := ev_ret hd hm rfl rfl rfl rfl (by rw [ht]; simp [zRet, zRk, hx])
theorem ev_ret_long {sc : zSc} {d M pc : Nat} {lv : zLv} {g : zSg} {h : zHp} {mq : Option (List Bool)} {x : Int64} (hd : zD M pc = some (.lreturn, 1, mq)) (hm : zMo mq lv = lv) (ht : zRt M = some .long) : zE sc d M pc lv [.long x] g h = some (some (.long x), g, h) := ev_ret hd hm rfl rfl rfl rfl (by rw [ht]; rfl)
theorem ev_ret_void {sc : zSc} {d M pc : Nat} {lv : zLv} {g : zSg} {h : zHp} {mq : Option (List Bool)} (hd : zD M pc = some (.return_, 1, mq)) (hm : zMo mq lv = lv) (ht : zRt M = none) : zE sc d M pc lv [] g h = some (none, g, h) := ev_ret hd hm rfl rfl rfl rfl (by rw [ht]; rfl)
