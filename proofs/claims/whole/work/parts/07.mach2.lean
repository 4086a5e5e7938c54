/-! ===== the heap's instructions ===== -/
def zKi (a : Nat) : Option ((Nat × Nat) ⊕ Nat) := zKL[a]?
def zFl (o i : Nat) : Option (Nat × Nat) := (zFt.lookup (o, i)).map (fun q => (q.1, q.2.1))
def zFc (ci k : Nat) : Option Nat := ((zFs[ci]?).getD [])[k]?
def zOb (g : zSg) (a ci : Nat) : Bool := decide (a < g.1) && decide (zKi a = some (.inr ci))
def zAr (g : zSg) (a t n : Nat) : Bool := decide (a < g.1) && decide (zKi a = some (.inl (t, n)))
def zTw (a : Nat) : Bool := a == 3 || a == 9
def zTk (a : Nat) : Bool := a == 33 || a == 39
def z_gf (g : zSg) (h : zHp) (a k : Nat) : Nat → Option Value
  | 0 => some (.int (h.1 a k))
  | 1 => some (.int (h.1 a k))
  | 2 => some (.long (h.2.1 a k))
  | 3 => match zG g a k with
    | some b => if b < 1000 then some (.ref b) else none
    | none => none
  | 4 => match h.2.2 a k with
    | some b => if zTw b then some (.ref b) else none
    | none => none
  | _ => none
def z_get (o i : Nat) (g : zSg) (h : zHp) : List Value → Option (List Value)
  | .ref a :: r => match zFl o i with
    | some (ci, k) => if ci = 100 then
        (if 1000 ≤ a ∧ a < 1005 then (if k = 0 then some (.ref (a + 100) :: r) else some (.int 0 :: r)) else none)
      else if zOb g a ci then match zFc ci k with
        | some c => (z_gf g h a k c).map (fun v => v :: r)
        | none => none
      else none
    | none => none
  | _ => none
def z_pf (ini : Nat) (ci : Nat) (g : zSg) (h : zHp) (a k : Nat) (v : Value) (c : Nat) : Option (zSg × zHp) := match c, v with
  | 0, .int x => some (g, zPI h a k x)
  | 1, .int x => if x = 0 ∨ x = 1 then some (g, zPI h a k x) else none
  | 2, .long x => some (g, zPL h a k x)
  | 3, .ref b => if b < g.1 ∧ zG g a k = none ∧ ini = ci then some ((g.1, ((a, k), b) :: g.2), h) else none
  | 4, .ref b => if b < g.1 then some (g, zPR h a k b) else none
  | _, _ => none
def z_put (ini o i : Nat) (g : zSg) (h : zHp) : List Value → Option (List Value × zSg × zHp)
  | v :: .ref a :: r => match zFl o i with
    | some (ci, k) => if zOb g a ci then match zFc ci k with
        | some c => (z_pf ini ci g h a k v c).map (fun q => (r, q.1, q.2))
        | none => none
      else none
    | none => none
  | _ => none
def zLn (a : Nat) : Option (Nat × Nat) := match zKi a with
  | some (.inl q) => some q
  | _ => none
def z_iald (sc : zSc) (g : zSg) (h : zHp) : List Value → Option (List Value)
  | .int i :: .ref a :: r => if a = 1300 then (if zin i sc.1 then some (.int (sc.2 i.toNatClampNeg) :: r) else none)
    else if a < g.1 then match zLn a with
      | some (0, n) => if zin i n then some (.int (h.1 a i.toNatClampNeg) :: r) else none
      | _ => none
    else none
  | _ => none
def z_bald (g : zSg) (h : zHp) : List Value → Option (List Value)
  | .int i :: .ref a :: r => if 1100 ≤ a ∧ a < 1105 then (if zin i (zBt.getD (a - 1100) []).length then some (.int ((zBt.getD (a - 1100) []).getD i.toNatClampNeg 0) :: r) else none)
    else if a < g.1 then match zLn a with
      | some (1, n) => if zin i n then some (.int (h.1 a i.toNatClampNeg) :: r) else none
      | _ => none
    else none
  | _ => none
def z_lald (g : zSg) (h : zHp) : List Value → Option (List Value)
  | .int i :: .ref a :: r => if a = 1200 then (if zin i 6 then some (.long (zWi i.toNatClampNeg) :: r) else none)
    else if a < g.1 then match zLn a with
      | some (2, n) => if zin i n then some (.long (h.2.1 a i.toNatClampNeg) :: r) else none
      | _ => none
    else none
  | _ => none
def z_aald (g : zSg) (h : zHp) : List Value → Option (List Value)
  | .int i :: .ref a :: r => if a < g.1 then match zLn a with
      | some (3, n) => if zin i n then match h.2.2 a i.toNatClampNeg with
          | some b => if zTk b then some (.ref b :: r) else none
          | none => none
        else none
      | _ => none
    else none
  | _ => none
def z_iast (g : zSg) (h : zHp) : List Value → Option (List Value × zSg × zHp)
  | .int x :: .int i :: .ref a :: r => if a < g.1 then match zLn a with
      | some (0, n) => if zin i n then some (r, g, zPI h a i.toNatClampNeg x) else none
      | _ => none
    else none
  | _ => none
def z_bast (g : zSg) (h : zHp) : List Value → Option (List Value × zSg × zHp)
  | .int x :: .int i :: .ref a :: r => if a < g.1 ∧ (x = 0 ∨ x = 1) then match zLn a with
      | some (1, n) => if zin i n then some (r, g, zPI h a i.toNatClampNeg x) else none
      | _ => none
    else none
  | _ => none
def z_last (g : zSg) (h : zHp) : List Value → Option (List Value × zSg × zHp)
  | .long x :: .int i :: .ref a :: r => if a < g.1 then match zLn a with
      | some (2, n) => if zin i n then some (r, g, zPL h a i.toNatClampNeg x) else none
      | _ => none
    else none
  | _ => none
def z_aast (g : zSg) (h : zHp) : List Value → Option (List Value × zSg × zHp)
  | .ref b :: .int i :: .ref a :: r => if a < g.1 ∧ zOb g b 4 = true then match zLn a with
      | some (3, n) => if zin i n then some (r, g, zPR h a i.toNatClampNeg b) else none
      | _ => none
    else none
  | _ => none
def z_alen (sc : zSc) (g : zSg) : List Value → Option (List Value)
  | .ref a :: r => if a = 1300 then some (.int (Int32.ofNat sc.1) :: r)
    else if a = 1200 then some (.int 6 :: r)
    else if 1100 ≤ a ∧ a < 1105 then some (.int (Int32.ofNat (zBt.getD (a - 1100) []).length) :: r)
    else if a < g.1 then match zLn a with
      | some (_, n) => some (.int (Int32.ofNat n) :: r)
      | _ => none
    else none
  | _ => none
def zFree (g : zSg) : Bool := decide (g.1 < 1000) && g.2.all (fun e => decide (e.1.1 < g.1) && decide (e.2 < g.1))
def zLl (o i : Nat) : Option Nat := (zLt.lookup (o, i)).map (·.1)
def z_new (o i : Nat) (st : List Value) (g : zSg) (h : zHp) : Option (List Value × zSg × zHp) := match zLl o i with
  | some ci => if zKi g.1 = some (.inr ci) ∧ zFree g = true then some (.ref g.1 :: st, (g.1 + 1, g.2), zBk h g.1) else none
  | none => none
def zAt' : ArrayType → Nat
  | .int => 0
  | .boolean => 1
  | .long => 2
  | _ => 9
def z_newa (t : ArrayType) (g : zSg) (h : zHp) : List Value → Option (List Value × zSg × zHp)
  | .int n :: r => if ¬ n < 0 ∧ zAt' t ≠ 9 ∧ n.toNatClampNeg ≤ 1000 ∧ zKi g.1 = some (.inl (zAt' t, n.toNatClampNeg)) ∧ zFree g = true then some (.ref g.1 :: r, (g.1 + 1, g.2), zBk h g.1) else none
  | _ => none
def z_newq (o i : Nat) (g : zSg) (h : zHp) : List Value → Option (List Value × zSg × zHp)
  | .int n :: r => if zLl o i = some 4 ∧ ¬ n < 0 ∧ n.toNatClampNeg ≤ 1000 ∧ zKi g.1 = some (.inl (3, n.toNatClampNeg)) ∧ zFree g = true then some (.ref g.1 :: r, (g.1 + 1, g.2), zBk h g.1) else none
  | _ => none
def z_oi (d o i : Nat) : List Value → Option (List Value)
  | .ref a :: r => if (zOt.lookup (o, i)).isSome = true ∧ a < 1000 ∧ 0 < d ∧ (r.map fun v => v.category).sum ≤ 8 then some r else none
  | _ => none
def z_cpy (d o i : Nat) (g : zSg) (h : zHp) : List Value → Option (List Value × zSg × zHp)
  | .int n :: .int dp :: .ref b :: .int sp :: .ref a :: r =>
    if (zAt.lookup (o, i)).isSome = true ∧ 0 < d ∧ a < g.1 ∧ b < g.1 ∧ (r.map fun v => v.category).sum ≤ 8 ∧ ¬ sp < 0 ∧ ¬ dp < 0 ∧ ¬ n < 0 then
      match zLn a, zLn b with
      | some (0, na), some (0, nb) => if sp.toNatClampNeg + n.toNatClampNeg ≤ na ∧ dp.toNatClampNeg + n.toNatClampNeg ≤ nb then some (r, g, zCI h a b sp.toNatClampNeg dp.toNatClampNeg n.toNatClampNeg) else none
      | some (2, na), some (2, nb) => if sp.toNatClampNeg + n.toNatClampNeg ≤ na ∧ dp.toNatClampNeg + n.toNatClampNeg ≤ nb then some (r, g, zCL h a b sp.toNatClampNeg dp.toNatClampNeg n.toNatClampNeg) else none
      | _, _ => none
    else none
  | _ => none
def zHeap (sc : zSc) (d ini o : Nat) (op : Instr) (st : List Value) (g : zSg) (h : zHp) : Option (List Value × zSg × zHp) :=
  match op with
  | .getfield i => (z_get o i g h st).map (fun s => (s, g, h))
  | .putfield i => z_put ini o i g h st
  | .iaload => (z_iald sc g h st).map (fun s => (s, g, h))
  | .baload => (z_bald g h st).map (fun s => (s, g, h))
  | .laload => (z_lald g h st).map (fun s => (s, g, h))
  | .aaload => (z_aald g h st).map (fun s => (s, g, h))
  | .iastore => z_iast g h st
  | .bastore => z_bast g h st
  | .lastore => z_last g h st
  | .aastore => z_aast g h st
  | .arraylength => (z_alen sc g st).map (fun s => (s, g, h))
  | .new i => z_new o i st g h
  | .newarray t => z_newa t g h st
  | .anewarray i => z_newq o i g h st
  | .invokespecial i => (z_oi d o i st).map (fun s => (s, g, h))
  | .invokestatic i => z_cpy d o i g h st
  | _ => none
/-! calls -/
def zCk (o i : Nat) : Option (Nat × Nat) := (zCt.lookup (o, i)).map (fun q => (q.1, q.2.1))
def zRc (g : zSg) (M : Nat) : Value → Bool
  | .ref a => if 1000 ≤ a ∧ a < 1005 then decide (zO (zOn M) = "java/lang/String") else decide (a < g.1) && (match zKi a with
    | some (.inr ci) => decide (zCo[ci]? = some (zOn M))
    | _ => false)
  | _ => false
def zCa0 (o : Nat) (op : Instr) (st : List Value) (g : zSg) : Option (Nat × List Value × List Value × Bool) := match op with
  | .invokevirtual i => match zCk o i with
    | some (0, M) => match (st.take (zNp M + 1)).reverse with
      | b :: as => if as.length = zNp M ∧ zRc g M b = true ∧ ((st.drop (zNp M + 1)).map fun v => v.category).sum ≤ 8 then some (M, b :: as, st.drop (zNp M + 1), false) else none
      | [] => none
    | _ => none
  | .invokespecial i => match zCk o i with
    | some (2, M) => match (st.take (zNp M + 1)).reverse with
      | .ref a :: as => if as.length = zNp M ∧ a < 1000 ∧ ((st.drop (zNp M + 1)).map fun v => v.category).sum ≤ 8 then some (M, .ref a :: as, st.drop (zNp M + 1), true) else none
      | _ => none
    | _ => none
  | .invokestatic i => match zCk o i with
    | some (1, M) => if (st.take (zNp M)).length = zNp M ∧ ((st.drop (zNp M)).map fun v => v.category).sum ≤ 8 then some (M, (st.take (zNp M)).reverse, st.drop (zNp M), false) else none
    | some (3, M) => if (st.take (zNp M)).length = zNp M ∧ ((st.drop (zNp M)).map fun v => v.category).sum ≤ 8 then some (M, (st.take (zNp M)).reverse, st.drop (zNp M), false) else none
    | _ => none
  | _ => none
def zExp : List Value → zLv
  | [] => []
  | .long x :: r => some (.long x) :: none :: zExp r
  | .double x :: r => some (.double x) :: none :: zExp r
  | v :: r => some v :: zExp r
def zCal (o : Nat) (op : Instr) (st : List Value) (g : zSg) : Option (Nat × List Value × List Value × Bool) := match zCa0 o op st g with
  | some q => if (zExp q.2.1).length ≤ zML q.1 then some q else none
  | none => none
def zEnt (M : Nat) (as : List Value) : zLv := zExp as ++ List.replicate (zML M - (zExp as).length) none
/-- a method of which class's making is it? (the class's number, 99 of none) -/
def zIni (M : Nat) : Nat := if (zY M).name = "<init>" then (zCo.idxOf (zOn M)) else 99
def zLk (op : Instr) (len : Nat) : Bool := match op with
  | .bipush _ | .ldc _ | .iload _ | .lload _ | .aload _ | .istore _ | .lstore _ | .astore _ | .newarray _ => len == 2
  | .sipush _ | .ldc_w _ | .ldc2_w _ | .getstatic _ | .getfield _ | .putfield _ | .invokevirtual _ | .invokespecial _ | .invokestatic _ | .goto _ | .ifCond _ _ | .if_icmp _ _ | .iinc _ _ | .new _ | .anewarray _ => len == 3
  | .tableswitch _ _ _ _ | .lookupswitch _ _ => true
  | _ => len == 1
def zMk (M pc : Nat) : Option (List Bool) := ((zMkT[M]?).getD []).lookup pc
def zMo (mq : Option (List Bool)) (lv : zLv) : zLv := match mq with
  | none => lv
  | some m => List.zipWith (fun b o => match b with | true => o | false => none) m lv
def zD (M pc : Nat) : Option (Instr × Nat × Option (List Bool)) := match decode (zBy M) pc with
  | .ok (op, len) => if zLk op len then some (op, len, zMk M pc) else none
  | .error _ => none
abbrev zNx : Type := (Nat × zLv × List Value × zSg × zHp) ⊕ (Option Value ⊕ (Nat × List Value × List Value × Bool))
def zStep (sc : zSc) (d M : Nat) (op : Instr) (len pc : Nat) (lv : zLv) (st : List Value) (g : zSg) (h : zHp) : Option zNx :=
  match zPure (zOn M) op lv st with
  | some st' => some (.inl (pc + len, lv, st', g, h))
  | none => match zLoc op lv st with
    | some (lv', st') => some (.inl (pc + len, lv', st', g, h))
    | none => match zBr op pc st with
      | some (pc', st') => some (.inl (pc', lv, st', g, h))
      | none => match zHeap sc d (zIni M) (zOn M) op st g h with
        | some (st', g', h') => some (.inl (pc + len, lv, st', g', h'))
        | none => match zRet (zRt M) op st with
          | some r => some (.inr (.inl r))
          | none => match zCal (zOn M) op st g with
            | some c => some (.inr (.inr c))
            | none => none
abbrev zRs : Type := Option Value × zSg × zHp
def zX (sc : zSc) : Nat → Nat → Nat → Nat → zLv → List Value → zSg → zHp → Option zRs
  | 0, _, _, _, _, _, _, _ => none
  | n + 1, d, M, pc, lv, st, g, h => match zD M pc with
    | none => none
    | some (op, len, mq) => match zStep sc d M op len pc (zMo mq lv) st g h with
      | none => none
      | some (.inl (pc', lv', st', g', h')) => zX sc n d M pc' lv' st' g' h'
      | some (.inr (.inl r)) => some (r, g, h)
      | some (.inr (.inr (M', as, rest, ini))) => match d with
        | 0 => none
        | d' + 1 => match zX sc n d' M' 0 (zEnt M' as) [] g h with
          | none => none
          | some (r, g', h') => if ini = true ∨ g' = g then zX sc n (d' + 1) M (pc + 3) (zMo mq lv) (r.toList ++ rest) g' h' else none
