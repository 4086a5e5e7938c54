/-! ===== calls with their arguments on the stack; switches; the layout ===== -/
theorem zCal_0 {o i M' : Nat} {b : Value} {as rest st : List Value} {g : zSg} (hk : zCk o i = some (0, M')) (hn : as.length = zNp M') (hle : (zExp (b :: as)).length ≤ zML M') (hst : st = as.reverse ++ b :: rest) (hrc : zRc g M' b = true) (hcat : (rest.map fun v => v.category).sum ≤ 8) : zCal o (.invokevirtual i) st g = some (M', b :: as, rest, false) := by
  have h1 : st.take (zNp M' + 1) = as.reverse ++ [b] := by
    rw [hst, ← hn, show as.reverse ++ b :: rest = (as.reverse ++ [b]) ++ rest by simp, List.take_append_of_le_length (by simp)]
    exact List.take_of_length_le (by simp)
  have h2 : st.drop (zNp M' + 1) = rest := by
    rw [hst, ← hn, show as.reverse ++ b :: rest = (as.reverse ++ [b]) ++ rest by simp]
    exact List.drop_left' (by simp)
  have h3 : zCa0 o (.invokevirtual i) st g = some (M', b :: as, rest, false) := by
    simp only [zCa0, hk, h1, h2, List.reverse_append, List.reverse_reverse, List.reverse_cons, List.reverse_nil, List.nil_append, List.singleton_append]
    rw [if_pos ⟨hn, hrc, hcat⟩]
  unfold zCal
  rw [h3]
  simp only
  rw [if_pos hle]
theorem zCal_2 {o i M' a : Nat} {as rest st : List Value} {g : zSg} (hk : zCk o i = some (2, M')) (hn : as.length = zNp M') (hle : (zExp (.ref a :: as)).length ≤ zML M') (hst : st = as.reverse ++ .ref a :: rest) (ha : a < 1000) (hcat : (rest.map fun v => v.category).sum ≤ 8) : zCal o (.invokespecial i) st g = some (M', .ref a :: as, rest, true) := by
  have h1 : st.take (zNp M' + 1) = as.reverse ++ [.ref a] := by
    rw [hst, ← hn, show as.reverse ++ .ref a :: rest = (as.reverse ++ [.ref a]) ++ rest by simp, List.take_append_of_le_length (by simp)]
    exact List.take_of_length_le (by simp)
  have h2 : st.drop (zNp M' + 1) = rest := by
    rw [hst, ← hn, show as.reverse ++ .ref a :: rest = (as.reverse ++ [.ref a]) ++ rest by simp]
    exact List.drop_left' (by simp)
  have h3 : zCa0 o (.invokespecial i) st g = some (M', .ref a :: as, rest, true) := by
    simp only [zCa0, hk, h1, h2, List.reverse_append, List.reverse_reverse, List.reverse_cons, List.reverse_nil, List.nil_append, List.singleton_append]
    rw [if_pos ⟨hn, ha, hcat⟩]
  unfold zCal
  rw [h3]
  simp only
  rw [if_pos hle]
theorem zCal_1 {o i M' kd : Nat} {as rest st : List Value} {g : zSg} (hk : zCk o i = some (kd, M')) (hkd : kd = 1 ∨ kd = 3) (hn : as.length = zNp M') (hle : (zExp as).length ≤ zML M') (hst : st = as.reverse ++ rest) (hcat : (rest.map fun v => v.category).sum ≤ 8) : zCal o (.invokestatic i) st g = some (M', as, rest, false) := by
  have h1 : st.take (zNp M') = as.reverse := by
    rw [hst, ← hn, List.take_append_of_le_length (by simp)]
    exact List.take_of_length_le (by simp)
  have h2 : st.drop (zNp M') = rest := by
    rw [hst, ← hn]
    exact List.drop_left' (by simp)
  have h3 : zCa0 o (.invokestatic i) st g = some (M', as, rest, false) := by
    rcases hkd with rfl | rfl
    · simp only [zCa0, hk, h1, h2, List.reverse_reverse]
      rw [if_pos ⟨by rw [List.length_reverse]; exact hn, hcat⟩]
    · simp only [zCa0, hk, h1, h2, List.reverse_reverse]
      rw [if_pos ⟨by rw [List.length_reverse]; exact hn, hcat⟩]
  unfold zCal
  rw [h3]
  simp only
  rw [if_pos hle]
/-- an object of a class -/
def zIO (g : zSg) (a ci : Nat) : Prop := zOb g a ci = true ∧ g.1 ≤ 1000
theorem zIO_rc {g : zSg} {a ci M : Nat} (h : zIO g a ci) (hc : zCo[ci]? = some (zOn M)) : zRc g M (.ref a) = true := by
  obtain ⟨h1, h2⟩ := zOb_iff.mp h.1
  have h3 := h.2
  unfold zRc
  simp only
  rw [if_neg (show ¬ (1000 ≤ a ∧ a < 1005) by omega), h2]
  simp [h1, hc]
theorem zIO_lt {g : zSg} {a ci : Nat} (h : zIO g a ci) : a < 1000 ∧ a < g.1 ∧ a ≠ 1400 := by
  obtain ⟨h1, h2⟩ := zOb_iff.mp h.1
  have h3 := h.2
  exact ⟨by omega, h1, by omega⟩
section
variable {sc : zSc} {d M pc M' i np ml ci kd : Nat} {b : Value} {lv : zLv} {st as rest : List Value} {g : zSg} {h : zHp} {mq : Option (List Bool)}
theorem ev_vi {a : Nat} (hd : zD M pc = some (.invokevirtual i, 3, mq) ∧ zCk (zOn M) i = some (0, M') ∧ zNp M' = np ∧ zML M' = ml ∧ zCo[ci]? = some (zOn M') ∧ (zRt M' = some .int ∨ zRt M' = some .boolean ∨ zRt M' = some .char ∨ zRt M' = some .byte)) (hm : zMo mq lv = lv) (ha : zIO g a ci) (hst : st = as.reverse ++ .ref a :: rest) (hn : as.length = np) (hle : (zExp (.ref a :: as)).length ≤ ml) (hcat : (rest.map fun v => v.category).sum ≤ 8) :
    zE sc (d + 1) M pc lv st g h = zBi (zRun sc d M' (.ref a :: as) g h) g (fun v h1 => zE sc (d + 1) M (pc + 3) lv (.int v :: rest) g h1) :=
  ev_calli hd.1 hm ⟨rfl, rfl, rfl, rfl, rfl⟩ (zCal_0 hd.2.1 (by rw [hd.2.2.1]; exact hn) (by rw [hd.2.2.2.1]; exact hle) hst (zIO_rc ha hd.2.2.2.2.1) hcat) hd.2.2.2.2.2
theorem ev_vj {a : Nat} (hd : zD M pc = some (.invokevirtual i, 3, mq) ∧ zCk (zOn M) i = some (0, M') ∧ zNp M' = np ∧ zML M' = ml ∧ zCo[ci]? = some (zOn M') ∧ zRt M' = some .long) (hm : zMo mq lv = lv) (ha : zIO g a ci) (hst : st = as.reverse ++ .ref a :: rest) (hn : as.length = np) (hle : (zExp (.ref a :: as)).length ≤ ml) (hcat : (rest.map fun v => v.category).sum ≤ 8) :
    zE sc (d + 1) M pc lv st g h = zBj (zRun sc d M' (.ref a :: as) g h) g (fun v h1 => zE sc (d + 1) M (pc + 3) lv (.long v :: rest) g h1) :=
  ev_callj hd.1 hm ⟨rfl, rfl, rfl, rfl, rfl⟩ (zCal_0 hd.2.1 (by rw [hd.2.2.1]; exact hn) (by rw [hd.2.2.2.1]; exact hle) hst (zIO_rc ha hd.2.2.2.2.1) hcat) hd.2.2.2.2.2
theorem ev_vv {a : Nat} (hd : zD M pc = some (.invokevirtual i, 3, mq) ∧ zCk (zOn M) i = some (0, M') ∧ zNp M' = np ∧ zML M' = ml ∧ zCo[ci]? = some (zOn M') ∧ zRt M' = none) (hm : zMo mq lv = lv) (ha : zIO g a ci) (hst : st = as.reverse ++ .ref a :: rest) (hn : as.length = np) (hle : (zExp (.ref a :: as)).length ≤ ml) (hcat : (rest.map fun v => v.category).sum ≤ 8) :
    zE sc (d + 1) M pc lv st g h = zBv (zRun sc d M' (.ref a :: as) g h) g (fun h1 => zE sc (d + 1) M (pc + 3) lv rest g h1) :=
  ev_callv hd.1 hm ⟨rfl, rfl, rfl, rfl, rfl⟩ (zCal_0 hd.2.1 (by rw [hd.2.2.1]; exact hn) (by rw [hd.2.2.2.1]; exact hle) hst (zIO_rc ha hd.2.2.2.2.1) hcat) hd.2.2.2.2.2
theorem ev_vs {a : Nat} (hd : zD M pc = some (.invokevirtual i, 3, mq) ∧ zCk (zOn M) i = some (0, M') ∧ zNp M' = np ∧ zML M' = ml ∧ zO (zOn M') = "java/lang/String" ∧ (zRt M' = some .int ∨ zRt M' = some .boolean ∨ zRt M' = some .char ∨ zRt M' = some .byte)) (hm : zMo mq lv = lv) (ha : 1000 ≤ a ∧ a < 1005) (hst : st = as.reverse ++ .ref a :: rest) (hn : as.length = np) (hle : (zExp (.ref a :: as)).length ≤ ml) (hcat : (rest.map fun v => v.category).sum ≤ 8) :
    zE sc (d + 1) M pc lv st g h = zBi (zRun sc d M' (.ref a :: as) g h) g (fun v h1 => zE sc (d + 1) M (pc + 3) lv (.int v :: rest) g h1) :=
  ev_calli hd.1 hm ⟨rfl, rfl, rfl, rfl, rfl⟩ (zCal_0 hd.2.1 (by rw [hd.2.2.1]; exact hn) (by rw [hd.2.2.2.1]; exact hle) hst (by unfold zRc; simp only; rw [if_pos ha]; exact decide_eq_true hd.2.2.2.2.1) hcat) hd.2.2.2.2.2
theorem ev_si (hd : zD M pc = some (.invokestatic i, 3, mq) ∧ zAt.lookup (zOn M, i) = none ∧ zCk (zOn M) i = some (kd, M') ∧ (kd = 1 ∨ kd = 3) ∧ zNp M' = np ∧ zML M' = ml ∧ (zRt M' = some .int ∨ zRt M' = some .boolean ∨ zRt M' = some .char ∨ zRt M' = some .byte)) (hm : zMo mq lv = lv) (hst : st = as.reverse ++ rest) (hn : as.length = np) (hle : (zExp as).length ≤ ml) (hcat : (rest.map fun v => v.category).sum ≤ 8) :
    zE sc (d + 1) M pc lv st g h = zBi (zRun sc d M' as g h) g (fun v h1 => zE sc (d + 1) M (pc + 3) lv (.int v :: rest) g h1) :=
  ev_calli hd.1 hm ⟨rfl, rfl, rfl, by simp only [zHeap, z_cpy]; split <;> simp [hd.2.1], rfl⟩ (zCal_1 hd.2.2.1 hd.2.2.2.1 (by rw [hd.2.2.2.2.1]; exact hn) (by rw [hd.2.2.2.2.2.1]; exact hle) hst hcat) hd.2.2.2.2.2.2
theorem ev_sj (hd : zD M pc = some (.invokestatic i, 3, mq) ∧ zAt.lookup (zOn M, i) = none ∧ zCk (zOn M) i = some (kd, M') ∧ (kd = 1 ∨ kd = 3) ∧ zNp M' = np ∧ zML M' = ml ∧ zRt M' = some .long) (hm : zMo mq lv = lv) (hst : st = as.reverse ++ rest) (hn : as.length = np) (hle : (zExp as).length ≤ ml) (hcat : (rest.map fun v => v.category).sum ≤ 8) :
    zE sc (d + 1) M pc lv st g h = zBj (zRun sc d M' as g h) g (fun v h1 => zE sc (d + 1) M (pc + 3) lv (.long v :: rest) g h1) :=
  ev_callj hd.1 hm ⟨rfl, rfl, rfl, by simp only [zHeap, z_cpy]; split <;> simp [hd.2.1], rfl⟩ (zCal_1 hd.2.2.1 hd.2.2.2.1 (by rw [hd.2.2.2.2.1]; exact hn) (by rw [hd.2.2.2.2.2.1]; exact hle) hst hcat) hd.2.2.2.2.2.2
theorem ev_sv (hd : zD M pc = some (.invokestatic i, 3, mq) ∧ zAt.lookup (zOn M, i) = none ∧ zCk (zOn M) i = some (kd, M') ∧ (kd = 1 ∨ kd = 3) ∧ zNp M' = np ∧ zML M' = ml ∧ zRt M' = none) (hm : zMo mq lv = lv) (hst : st = as.reverse ++ rest) (hn : as.length = np) (hle : (zExp as).length ≤ ml) (hcat : (rest.map fun v => v.category).sum ≤ 8) :
    zE sc (d + 1) M pc lv st g h = zBv (zRun sc d M' as g h) g (fun h1 => zE sc (d + 1) M (pc + 3) lv rest g h1) :=
  ev_callv hd.1 hm ⟨rfl, rfl, rfl, by simp only [zHeap, z_cpy]; split <;> simp [hd.2.1], rfl⟩ (zCal_1 hd.2.2.1 hd.2.2.2.1 (by rw [hd.2.2.2.2.1]; exact hn) (by rw [hd.2.2.2.2.2.1]; exact hle) hst hcat) hd.2.2.2.2.2.2
theorem ev_in {a : Nat} (hd : zD M pc = some (.invokespecial i, 3, mq) ∧ zOt.lookup (zOn M, i) = none ∧ zCk (zOn M) i = some (2, M') ∧ zNp M' = np ∧ zML M' = ml ∧ zRt M' = none) (hm : zMo mq lv = lv) (ha : a < 1000) (hst : st = as.reverse ++ .ref a :: rest) (hn : as.length = np) (hle : (zExp (.ref a :: as)).length ≤ ml) (hcat : (rest.map fun v => v.category).sum ≤ 8) :
    zE sc (d + 1) M pc lv st g h = zBn (zRun sc d M' (.ref a :: as) g h) (fun g1 h1 => zE sc (d + 1) M (pc + 3) lv rest g1 h1) :=
  ev_calln hd.1 hm ⟨rfl, rfl, rfl, by simp only [zHeap, z_oi]; split <;> simp [hd.2.1], rfl⟩ (zCal_2 hd.2.2.1 (by rw [hd.2.2.2.1]; exact hn) (by rw [hd.2.2.2.2.1]; exact hle) hst ha hcat) hd.2.2.2.2.2
/-- a switch goes to a place -/
theorem ev_sw {op : Instr} {len t : Nat} {x : Int32} (hd : zD M pc = some (op, len, mq)) (hm : zMo mq lv = lv) (hp : zPure (zOn M) op lv (.int x :: st) = none ∧ zLoc op lv (.int x :: st) = none) (hs : zBr op pc (.int x :: st) = some (t, st)) : zE sc d M pc lv (.int x :: st) g h = zE sc d M t lv st g h := ev_br hd hm hp.1 hp.2 hs
theorem z_tsO {dd lo hi : Int} {offs : Array Int} {x : Int32} {t : Nat} (h : x.toInt < lo ∨ hi < x.toInt) (ht : zTg pc dd = some t) : zBr (.tableswitch dd lo hi offs) pc (.int x :: st) = some (t, st) := by
  simp only [zBr, z_ts]
  rw [if_pos h, ht]
  rfl
end
theorem z_ite {α : Type} {c : Prop} [Decidable c] {a a' b b' : α} (h1 : a = a') (h2 : b = b') : (if c then a else b) = (if c then a' else b') := by rw [h1, h2]
theorem z_it1 {α : Type} {c : Prop} [Decidable c] {a a' b : α} (h1 : a = a') : (if c then a else b) = (if c then a' else b) := by rw [h1]
theorem z_it2 {α : Type} {c : Prop} [Decidable c] {a b b' : α} (h1 : b = b') : (if c then a else b) = (if c then a else b') := by rw [h1]
theorem z_cbi {x : Option zRs} {g : zSg} {f f' : Int32 → zHp → Option zRs} (h : ∀ v h1, f v h1 = f' v h1) : zBi x g f = zBi x g f' := by rw [show f = f' from funext fun v => funext fun h1 => h v h1]
theorem z_cbj {x : Option zRs} {g : zSg} {f f' : Int64 → zHp → Option zRs} (h : ∀ v h1, f v h1 = f' v h1) : zBj x g f = zBj x g f' := by rw [show f = f' from funext fun v => funext fun h1 => h v h1]
theorem z_cbv {x : Option zRs} {g : zSg} {f f' : zHp → Option zRs} (h : ∀ h1, f h1 = f' h1) : zBv x g f = zBv x g f' := by rw [show f = f' from funext h]
theorem z_cbn {x : Option zRs} {f f' : zSg → zHp → Option zRs} (h : ∀ g1 h1, f g1 h1 = f' g1 h1) : zBn x f = zBn x f' := by rw [show f = f' from funext fun v => funext fun h1 => h v h1]
theorem z_cot {o : Option Nat} {f f' : (t : Nat) → zTw t = true → Option zRs} (h : ∀ t ht, f t ht = f' t ht) : zOT o f = zOT o f' := by rw [show f = f' from funext fun v => funext fun h1 => h v h1]
theorem z_cok {o : Option Nat} {f f' : (t : Nat) → zTk t = true → Option zRs} (h : ∀ t ht, f t ht = f' t ht) : zOK o f = zOK o f' := by rw [show f = f' from funext fun v => funext fun h1 => h v h1]
def zGL : zSg := (73, zVF)
def zS6 (g : zSg) (t : Nat) : Prop := zIO g t 6 ∧ (zG g t 3 = some (t + 1) ∧ t + 1 < 1000) ∧ (zG g t 4 = some (t + 2) ∧ t + 2 < 1000) ∧ (zG g t 5 = some (t + 3) ∧ t + 3 < 1000) ∧ (zG g t 6 = some (t + 4) ∧ t + 4 < 1000) ∧ (zG g t 7 = some (t + 5) ∧ t + 5 < 1000) ∧ zIA g (t + 1) 0 6 ∧ zIA g (t + 2) 0 6 ∧ zIA g (t + 3) 0 5 ∧ zIA g (t + 4) 2 6 ∧ zIA g (t + 5) 2 99
def zS4 (g : zSg) (t : Nat) : Prop := zIO g t 4 ∧ (zG g t 0 = some (t + 1) ∧ t + 1 < 1000) ∧ (zG g t 1 = some (t + 2) ∧ t + 2 < 1000) ∧ (zG g t 2 = some (t + 3) ∧ t + 3 < 1000) ∧ (zG g t 3 = some (t + 4) ∧ t + 4 < 1000) ∧ (zG g t 4 = some (t + 5) ∧ t + 5 < 1000) ∧ zIA g (t + 1) 0 5 ∧ zIA g (t + 2) 0 5 ∧ zIA g (t + 3) 0 5 ∧ zIA g (t + 4) 2 25 ∧ zIA g (t + 5) 0 300
theorem zIA_of {g : zSg} {a t n : Nat} (h : (decide (a < g.1) && (decide (g.1 ≤ 1000) && decide (zLn a = some (t, n)))) = true) : zIA g a t n := by
  simp only [Bool.and_eq_true, decide_eq_true_eq] at h
  exact h
theorem zIO_of {g : zSg} {a ci : Nat} (h : (zOb g a ci && decide (g.1 ≤ 1000)) = true) : zIO g a ci := by
  simp only [Bool.and_eq_true, decide_eq_true_eq] at h
  exact h
theorem zS6_3 : zS6 zGL 3 := ⟨zIO_of (by decide +kernel), by decide +kernel, by decide +kernel, by decide +kernel, by decide +kernel, by decide +kernel, zIA_of (by decide +kernel), zIA_of (by decide +kernel), zIA_of (by decide +kernel), zIA_of (by decide +kernel), zIA_of (by decide +kernel)⟩
theorem zS6_9 : zS6 zGL 9 := ⟨zIO_of (by decide +kernel), by decide +kernel, by decide +kernel, by decide +kernel, by decide +kernel, by decide +kernel, zIA_of (by decide +kernel), zIA_of (by decide +kernel), zIA_of (by decide +kernel), zIA_of (by decide +kernel), zIA_of (by decide +kernel)⟩
theorem zS4_26 : zS4 zGL 26 := ⟨zIO_of (by decide +kernel), by decide +kernel, by decide +kernel, by decide +kernel, by decide +kernel, by decide +kernel, zIA_of (by decide +kernel), zIA_of (by decide +kernel), zIA_of (by decide +kernel), zIA_of (by decide +kernel), zIA_of (by decide +kernel)⟩
theorem zS4_33 : zS4 zGL 33 := ⟨zIO_of (by decide +kernel), by decide +kernel, by decide +kernel, by decide +kernel, by decide +kernel, by decide +kernel, zIA_of (by decide +kernel), zIA_of (by decide +kernel), zIA_of (by decide +kernel), zIA_of (by decide +kernel), zIA_of (by decide +kernel)⟩
theorem zS4_39 : zS4 zGL 39 := ⟨zIO_of (by decide +kernel), by decide +kernel, by decide +kernel, by decide +kernel, by decide +kernel, by decide +kernel, zIA_of (by decide +kernel), zIA_of (by decide +kernel), zIA_of (by decide +kernel), zIA_of (by decide +kernel), zIA_of (by decide +kernel)⟩
theorem zTw_6 {t : Nat} (h : zTw t = true) : zS6 zGL t := by
  unfold zTw at h
  simp only [Bool.or_eq_true, beq_iff_eq] at h
  rcases h with rfl | rfl
  · exact zS6_3
  · exact zS6_9
theorem zTk_4 {t : Nat} (h : zTk t = true) : zS4 zGL t := by
  unfold zTk at h
  simp only [Bool.or_eq_true, beq_iff_eq] at h
  rcases h with rfl | rfl
  · exact zS4_33
  · exact zS4_39
theorem ev_mk {sc : zSc} {d M pc : Nat} {lv lv' : zLv} {st : List Value} {g : zSg} {h : zHp} {op : Instr} {len : Nat} {mq : Option (List Bool)} (hd : zD M pc = some (op, len, mq)) (hl : zMo mq lv = lv') : zE sc d M pc lv st g h = zE sc d M pc lv' st g h := by subst hl; exact ev_mask hd
section
variable {sc : zSc} {d M pc a b n m : Nat} {lv : zLv} {st : List Value} {g : zSg} {h : zHp} {mq : Option (List Bool)} {j : Int32}
theorem ev_iald_k (hd : zD M pc = some (.iaload, 1, mq)) (hm : zMo mq lv = lv) (ha : zIA g a 0 n) (hj : zin j n = true ∧ j.toNatClampNeg = m) : zE sc d M pc lv (.int j :: .ref a :: st) g h = zE sc d M (pc + 1) lv (.int (h.1 a m) :: st) g h := by rw [← hj.2]; exact ev_iald hd hm ha hj.1
theorem ev_bald_k (hd : zD M pc = some (.baload, 1, mq)) (hm : zMo mq lv = lv) (ha : zIA g a 1 n) (hj : zin j n = true ∧ j.toNatClampNeg = m) : zE sc d M pc lv (.int j :: .ref a :: st) g h = zE sc d M (pc + 1) lv (.int (h.1 a m) :: st) g h := by rw [← hj.2]; exact ev_bald hd hm ha hj.1
theorem ev_lald_k (hd : zD M pc = some (.laload, 1, mq)) (hm : zMo mq lv = lv) (ha : zIA g a 2 n) (hj : zin j n = true ∧ j.toNatClampNeg = m) : zE sc d M pc lv (.int j :: .ref a :: st) g h = zE sc d M (pc + 1) lv (.long (h.2.1 a m) :: st) g h := by rw [← hj.2]; exact ev_lald hd hm ha hj.1
theorem ev_iast_k {x : Int32} (hd : zD M pc = some (.iastore, 1, mq)) (hm : zMo mq lv = lv) (ha : zIA g a 0 n) (hj : zin j n = true ∧ j.toNatClampNeg = m) : zE sc d M pc lv (.int x :: .int j :: .ref a :: st) g h = zE sc d M (pc + 1) lv st g (zPI h a m x) := by rw [← hj.2]; exact ev_iast hd hm ha hj.1
theorem ev_bast_k {x : Int32} (hd : zD M pc = some (.bastore, 1, mq)) (hm : zMo mq lv = lv) (ha : zIA g a 1 n) (hx : x = 0 ∨ x = 1) (hj : zin j n = true ∧ j.toNatClampNeg = m) : zE sc d M pc lv (.int x :: .int j :: .ref a :: st) g h = zE sc d M (pc + 1) lv st g (zPI h a m x) := by rw [← hj.2]; exact ev_bast hd hm ha hx hj.1
theorem ev_last_k {x : Int64} (hd : zD M pc = some (.lastore, 1, mq)) (hm : zMo mq lv = lv) (ha : zIA g a 2 n) (hj : zin j n = true ∧ j.toNatClampNeg = m) : zE sc d M pc lv (.long x :: .int j :: .ref a :: st) g h = zE sc d M (pc + 1) lv st g (zPL h a m x) := by rw [← hj.2]; exact ev_last hd hm ha hj.1
theorem ev_ret_b1 {x : Int32} (hd : zD M pc = some (.ireturn, 1, mq)) (hm : zMo mq lv = lv) (ht : zRt M = some .boolean) (hx : x = 0 ∨ x = 1) : zE sc d M pc lv [.int x] g h = some (some (.int x), g, h) := by rw [ev_ret_bool hd hm ht, if_pos hx]
theorem z_tsI {pc : Nat} {st : List Value} {dd lo hi : Int} {offs : Array Int} {x : Int32} {t : Nat} {o : Int} (h : ¬ (x.toInt < lo ∨ hi < x.toInt)) (ho : offs[(x.toInt - lo).toNat]? = some o) (ht : zTg pc o = some t) : zBr (.tableswitch dd lo hi offs) pc (.int x :: st) = some (t, st) := by
  simp only [zBr, z_ts]
  rw [if_neg h, ho]
  simp only
  rw [ht]
  rfl
theorem z_lkI {pc : Nat} {st : List Value} {dd o : Int} {ps : Array (Int × Int)} {x : Int32} {t : Nat} (hp : (ps.toList.zip (ps.toList.drop 1)).all (fun (a, next) => a.1 < next.1) = true) (ho : Op.lookupswitch.offset ps.toList dd x.toInt = o) (ht : zTg pc o = some t) : zBr (.lookupswitch dd ps) pc (.int x :: st) = some (t, st) := by
  simp only [zBr, z_lk']
  rw [if_pos hp, ho, ht]
  rfl
end
