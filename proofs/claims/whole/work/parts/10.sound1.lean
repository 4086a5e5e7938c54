/-! ===== the small machine is sound: instructions without the heap ===== -/
def zCtx (D : va_G) (C : Nat → ClassId) (B0 : Nat) (sp : Nat → Nat) (fq : Value) (sc : zSc) (M : Nat) (p : Program) (s : State) (m : MethodId) (args : Array Value) (meth : Method) (c : Code) : Prop :=
  p.tables.exec = Jvm.exec ∧ c.code = zBy M ∧ c.maxLocals = zML M ∧ s.vm.findClass (zO (zOn M)) = some m.cls ∧ (∀ w ∈ zTb, w.before args s = true) ∧ va_K D zCl (zTys C) s ∧ zRO B0 sp fq sc s s.heap ∧ (zIni M ≠ 99 → meth.name = "<init>") ∧ B0 ≤ s.heap.size ∧ fq.category = 1
def zLh (tr : Value → Value) (ls : Array Slot) (nL : Nat) (lv : zLv) : Prop := ls.size = nL ∧ lv_wf ls ∧ lv.length = nL ∧ ∀ (i : Nat) (v : Value), lv[i]? = some (some v) → ls[i]? = some (.val (tr v))
theorem zLh.at {tr : Value → Value} {ls : Array Slot} {nL : Nat} {lv : zLv} (h : zLh tr ls nL lv) {i : Nat} {v : Value} (hv : zLg lv i = some v) : ls[i]? = some (.val (tr v)) := by
  apply h.2.2.2
  unfold zLg at hv
  cases hx : lv[i]? with
  | none => rw [hx] at hv; cases hv
  | some o => rw [hx] at hv; cases hv; rfl
theorem z_i1_some {f : Int32 → Option Value} {st st' : List Value} (h : z_i1 f st = some st') : ∃ x r v, st = .int x :: r ∧ f x = some v ∧ st' = v :: r := by
  unfold z_i1 at h
  split at h
  · rename_i x r
    cases hf : f x with
    | none => rw [hf] at h; cases h
    | some v => rw [hf] at h; cases h; exact ⟨x, r, v, rfl, hf, rfl⟩
  · cases h
theorem z_l1_some {f : Int64 → Option Value} {st st' : List Value} (h : z_l1 f st = some st') : ∃ x r v, st = .long x :: r ∧ f x = some v ∧ st' = v :: r := by
  unfold z_l1 at h
  split at h
  · rename_i x r
    cases hf : f x with
    | none => rw [hf] at h; cases h
    | some v => rw [hf] at h; cases h; exact ⟨x, r, v, rfl, hf, rfl⟩
  · cases h
theorem z_i2_some {f : Int32 → Int32 → Option Value} {st st' : List Value} (h : z_i2 f st = some st') : ∃ x y r v, st = .int y :: .int x :: r ∧ f x y = some v ∧ st' = v :: r := by
  unfold z_i2 at h
  split at h
  · rename_i y x r
    cases hf : f x y with
    | none => rw [hf] at h; cases h
    | some v => rw [hf] at h; cases h; exact ⟨x, y, r, v, rfl, hf, rfl⟩
  · cases h
theorem z_l2_some {f : Int64 → Int64 → Option Value} {st st' : List Value} (h : z_l2 f st = some st') : ∃ x y r v, st = .long y :: .long x :: r ∧ f x y = some v ∧ st' = v :: r := by
  unfold z_l2 at h
  split at h
  · rename_i y x r
    cases hf : f x y with
    | none => rw [hf] at h; cases h
    | some v => rw [hf] at h; cases h; exact ⟨x, y, r, v, rfl, hf, rfl⟩
  · cases h
theorem z_li_some {f : Int64 → Int32 → Option Value} {st st' : List Value} (h : z_li f st = some st') : ∃ x y r v, st = .int y :: .long x :: r ∧ f x y = some v ∧ st' = v :: r := by
  unfold z_li at h
  split at h
  · rename_i y x r
    cases hf : f x y with
    | none => rw [hf] at h; cases h
    | some v => rw [hf] at h; cases h; exact ⟨x, y, r, v, rfl, hf, rfl⟩
  · cases h
theorem z_il_some {lv : zLv} {i : Nat} {st st' : List Value} (h : z_il lv i st = some st') : ∃ x, zLg lv i = some (.int x) ∧ st' = .int x :: st := by
  unfold z_il at h
  split at h
  · rename_i x hx; cases h; exact ⟨x, hx, rfl⟩
  · cases h
theorem z_ll_some {lv : zLv} {i : Nat} {st st' : List Value} (h : z_ll lv i st = some st') : ∃ x, zLg lv i = some (.long x) ∧ st' = .long x :: st := by
  unfold z_ll at h
  split at h
  · rename_i x hx; cases h; exact ⟨x, hx, rfl⟩
  · cases h
theorem z_al_some {lv : zLv} {i : Nat} {st st' : List Value} (h : z_al lv i st = some st') : ∃ x, zLg lv i = some (.ref x) ∧ x ≠ 1400 ∧ st' = .ref x :: st := by
  unfold z_al at h
  split at h
  · rename_i x hx
    by_cases h4 : x = 1400
    · rw [if_pos h4] at h; cases h
    · rw [if_neg h4] at h; cases h; exact ⟨x, hx, h4, rfl⟩
  · cases h
theorem z_ci_some {o i : Nat} {st st' : List Value} (h : z_ci o i st = some st') : ∃ v, Cond.constant (zO o) i v ∈ zTb ∧ st' = .int v :: st := by
  unfold z_ci zKc at h
  cases hk : zKt.lookup (o, i) with
  | none => rw [hk] at h; cases h
  | some q =>
    obtain ⟨v | v, w⟩ := q
    · rw [hk] at h
      cases h
      have hm := List.all_eq_true.mp z_okKt _ (z_lk hk)
      exact ⟨v, z_wd_in hm, rfl⟩
    · rw [hk] at h; cases h
theorem z_cl_some {o i : Nat} {st st' : List Value} (h : z_cl o i st = some st') : ∃ v, Cond.constantLong (zO o) i v ∈ zTb ∧ st' = .long v :: st := by
  unfold z_cl zKc at h
  cases hk : zKt.lookup (o, i) with
  | none => rw [hk] at h; cases h
  | some q =>
    obtain ⟨v | v, w⟩ := q
    · rw [hk] at h; cases h
    · rw [hk] at h
      cases h
      have hm := List.all_eq_true.mp z_okKt _ (z_lk hk)
      exact ⟨v, z_wd_in hm, rfl⟩
theorem z_ct_some {o i : Nat} {st st' : List Value} (h : z_ct o i st = some st') : ∃ t j, ((o, i), (t, j)) ∈ zTt ∧ st' = .ref (1000 + j) :: st := by
  unfold z_ct zTc at h
  cases hk : zTt.lookup (o, i) with
  | none => rw [hk] at h; cases h
  | some q =>
    obtain ⟨t, j⟩ := q
    rw [hk] at h
    cases h
    exact ⟨t, j, z_lk hk, rfl⟩
theorem z_st_some {o i : Nat} {st st' : List Value} (h : z_st o i st = some st') : (Cond.fieldLink (zO o) i "UntoldFacts$Family" "WITH" "[J" ∈ zTb ∧ st' = .ref 1200 :: st) ∨ (Cond.fieldLink (zO o) i "java/lang/String" "COMPACT_STRINGS" "Z" ∈ zTb ∧ st' = .int 1 :: st) ∨ (Cond.fieldLink (zO o) i "jdk/internal/util/Preconditions" "SIOOBE_FORMATTER" "Ljava/util/function/BiFunction;" ∈ zTb ∧ st' = .ref 1400 :: st) := by
  unfold z_st zSc' at h
  cases hk : zSt.lookup (o, i) with
  | none => rw [hk] at h; cases h
  | some q =>
    obtain ⟨t, j⟩ := q
    rw [hk] at h
    have hm := List.all_eq_true.mp z_okSt _ (z_lk hk)
    match t, h, hm with
    | 0, h, hm => cases h; exact Or.inl ⟨z_wd_in hm, rfl⟩
    | 1, h, hm => cases h; exact Or.inr (Or.inl ⟨z_wd_in hm, rfl⟩)
    | 2, h, hm => cases h; exact Or.inr (Or.inr ⟨z_wd_in hm, rfl⟩)
    | _ + 3, h, hm => cases h
set_option maxRecDepth 100000 in
theorem zTt_lt : ∀ e ∈ zTt, e.2.2 < 5 := by decide +kernel
section
variable {p : Program} {l : Launch} {e : Env} {R : Room} {s : State} {m : MethodId} {args : Array Value} {below : List Frame} {meth : Method} {c : Code} {H : Heap} {locs : List Loc} {cells slots : Nat} {Q : State → Prop}
variable {D : va_G} {C : Nat → ClassId} {B0 : Nat} {sp : Nat → Nat} {fq : Value} {sc : zSc} {M : Nat}
set_option maxHeartbeats 4000000 in
theorem zPure_ok (hc : zCtx D C B0 sp fq sc M p s m args meth c) {op : Instr} {len pc : Nat} {lv : zLv} {st st' : List Value} {ls : Array Slot} (hd : decode (zBy M) pc = .ok (op, len)) (hk : zLk op len = true) (hl : zLh (zTr (zad B0 sp) fq) ls (zML M) lv) (hS : va_S (zA B0) s.heap H locs) (hs : zPure (zOn M) op lv st = some st')
    (k : W p l e R s m args below meth c H locs cells slots Q (F0 m (pc + len) ls (st'.map (zTr (zad B0 sp) fq)))) : W p l e R s m args below meth c H locs cells slots Q (F0 m pc ls (st.map (zTr (zad B0 sp) fq))) := by
  obtain ⟨hx, hb, hml, hown, hts, hK, hRO, hin, hB, hfq⟩ := hc
  cases op with
  | iconst n =>
    obtain rfl : len = 1 := by simpa [zLk] using hk
    cases hs
    exact lv_iconst hx hb hd rfl k
  | bipush n =>
    obtain rfl : len = 2 := by simpa [zLk] using hk
    cases hs
    exact lv_bipush hx hb hd rfl k
  | sipush n =>
    obtain rfl : len = 3 := by simpa [zLk] using hk
    cases hs
    exact lv_sipush hx hb hd rfl k
  | lconst n =>
    obtain rfl : len = 1 := by simpa [zLk] using hk
    cases hs
    exact lv_lconst hx hb hd rfl k
  | ldc i =>
    obtain rfl : len = 2 := by simpa [zLk] using hk
    simp only [zPure] at hs
    cases h1 : z_ci (zOn M) i st with
    | some a =>
      rw [h1] at hs
      cases hs
      obtain ⟨v, hw, rfl⟩ := z_ci_some h1
      exact lv_ldc hx hb hown (hts _ hw) hd k
    | none =>
      rw [h1] at hs
      obtain ⟨t, j, hm, rfl⟩ := z_ct_some hs
      have hj := zTt_lt _ hm
      have hr : vk_R (zO (zOn M)) i t (sp (1000 + j)) s := hRO.2.1 ((zOn M, i), (t, j)) hm
      generalize zO (zOn M) = own at hr hown
      refine va_ldcS (own := own) (tx := t) (q := sp (1000 + j)) hx hb hown hr hd ?_
      have k := k
      rw [List.map_cons, zTr_ref (by show 1000 + j ≠ 1400; have : j < 5 := hj; omega)] at k
      have hz : zad B0 sp (1000 + j) = sp (1000 + j) := if_neg (by omega)
      rw [hz] at k
      exact k
  | ldc_w i =>
    obtain rfl : len = 3 := by simpa [zLk] using hk
    obtain ⟨v, hw, rfl⟩ := z_ci_some hs
    exact lv_ldcw hx hb hown (hts _ hw) hd k
  | ldc2_w i =>
    obtain rfl : len = 3 := by simpa [zLk] using hk
    obtain ⟨v, hw, rfl⟩ := z_cl_some hs
    exact lv_ldc2 hx hb hown (hts _ hw) hd k
  | getstatic i =>
    obtain rfl : len = 3 := by simpa [zLk] using hk
    rcases z_st_some hs with ⟨hw, rfl⟩ | ⟨hw, rfl⟩ | ⟨hw, rfl⟩
    · exact va_gets hx hb hRO.2.2.1 hS hown (hts _ hw) (fun _ h => h) hd k
    · exact va_gets hx hb hRO.2.2.2.2.1 hS hown (hts _ hw) (fun _ h => h) hd k
    · exact va_gets hx hb hRO.2.2.2.2.2.1 hS hown (hts _ hw) (fun _ h => h) hd k
  | iload i =>
    obtain rfl : len = 2 := by simpa [zLk] using hk
    obtain ⟨x, hv, rfl⟩ := z_il_some hs
    exact lv_iload hx hb hd (hl.at hv) k
  | iload_n i =>
    obtain rfl : len = 1 := by simpa [zLk] using hk
    obtain ⟨x, hv, rfl⟩ := z_il_some hs
    exact lv_iload_n hx hb hd rfl (hl.at hv) k
  | lload i =>
    obtain rfl : len = 2 := by simpa [zLk] using hk
    obtain ⟨x, hv, rfl⟩ := z_ll_some hs
    exact lv_lload hx hb hd (hl.at hv) k
  | lload_n i =>
    obtain rfl : len = 1 := by simpa [zLk] using hk
    obtain ⟨x, hv, rfl⟩ := z_ll_some hs
    exact lv_lload_n hx hb hd rfl (hl.at hv) k
  | aload i =>
    obtain rfl : len = 2 := by simpa [zLk] using hk
    obtain ⟨x, hv, h4, rfl⟩ := z_al_some hs
    have h5 := hl.at hv
    rw [zTr_ref h4] at h5
    rw [List.map_cons, zTr_ref h4] at k
    exact lv_aload hx hb hd h5 k
  | aload_n i =>
    obtain rfl : len = 1 := by simpa [zLk] using hk
    obtain ⟨x, hv, h4, rfl⟩ := z_al_some hs
    have h5 := hl.at hv
    rw [zTr_ref h4] at h5
    rw [List.map_cons, zTr_ref h4] at k
    exact lv_aload_n hx hb hd rfl h5 k
  | dup =>
    obtain rfl : len = 1 := by simpa [zLk] using hk
    cases st with
    | nil => cases hs
    | cons v r =>
      by_cases hv : v.category = 1
      · have h1 : st' = v :: v :: r := by
          have := hs
          simp only [zPure, z_dup, if_pos hv] at this
          exact (Option.some.inj this).symm
        subst h1
        exact lv_dup hx hb hd (by rw [zTr_cat hfq]; exact hv) k
      · simp [zPure, z_dup, hv] at hs
  | pop =>
    obtain rfl : len = 1 := by simpa [zLk] using hk
    cases st with
    | nil => cases hs
    | cons v r =>
      by_cases hv : v.category = 1
      · have h1 : st' = r := by
          have := hs
          simp only [zPure, z_pop, if_pos hv] at this
          exact (Option.some.inj this).symm
        subst h1
        exact lv_pop hx hb hd (by rw [zTr_cat hfq]; exact hv) k
      · simp [zPure, z_pop, hv] at hs
  | dup2 =>
    obtain rfl : len = 1 := by simpa [zLk] using hk
    simp only [zPure] at hs
    match st, hs with
    | [], hs => cases hs
    | [v], hs =>
      by_cases hv : v.category = 2
      · simp only [z_dup2, if_pos hv] at hs
        cases hs
        exact lv_dup2_2 hx hb hd (by rw [zTr_cat hfq]; exact hv) k
      · simp [z_dup2, hv] at hs
    | v :: w :: r, hs =>
      by_cases hv : v.category = 1 ∧ w.category = 1
      · simp only [z_dup2, if_pos hv] at hs
        cases hs
        exact lv_dup2_11 hx hb hd (by rw [zTr_cat hfq]; exact hv.1) (by rw [zTr_cat hfq]; exact hv.2) k
      · by_cases hv2 : v.category = 2
        · simp only [z_dup2, if_neg hv, if_pos hv2] at hs
          cases hs
          exact lv_dup2_2 hx hb hd (by rw [zTr_cat hfq]; exact hv2) k
        · simp [z_dup2, hv, hv2] at hs
  | iadd =>
    obtain rfl : len = 1 := by simpa [zLk] using hk
    obtain ⟨x, y, r, v, rfl, hv, rfl⟩ := z_i2_some hs
    cases hv
    exact lv_iadd hx hb hd k
  | isub =>
    obtain rfl : len = 1 := by simpa [zLk] using hk
    obtain ⟨x, y, r, v, rfl, hv, rfl⟩ := z_i2_some hs
    cases hv
    exact lv_isub hx hb hd k
  | imul =>
    obtain rfl : len = 1 := by simpa [zLk] using hk
    obtain ⟨x, y, r, v, rfl, hv, rfl⟩ := z_i2_some hs
    cases hv
    exact lv_imul hx hb hd k
  | ishl =>
    obtain rfl : len = 1 := by simpa [zLk] using hk
    obtain ⟨x, y, r, v, rfl, hv, rfl⟩ := z_i2_some hs
    cases hv
    exact lv_ishl hx hb hd k
  | ishr =>
    obtain rfl : len = 1 := by simpa [zLk] using hk
    obtain ⟨x, y, r, v, rfl, hv, rfl⟩ := z_i2_some hs
    cases hv
    exact lv_ishr hx hb hd k
  | iand =>
    obtain rfl : len = 1 := by simpa [zLk] using hk
    obtain ⟨x, y, r, v, rfl, hv, rfl⟩ := z_i2_some hs
    cases hv
    exact lv_iand hx hb hd k
  | ior =>
    obtain rfl : len = 1 := by simpa [zLk] using hk
    obtain ⟨x, y, r, v, rfl, hv, rfl⟩ := z_i2_some hs
    cases hv
    exact lv_ior hx hb hd k
  | ixor =>
    obtain rfl : len = 1 := by simpa [zLk] using hk
    obtain ⟨x, y, r, v, rfl, hv, rfl⟩ := z_i2_some hs
    cases hv
    exact lv_ixor hx hb hd k
  | iushr =>
    obtain rfl : len = 1 := by simpa [zLk] using hk
    obtain ⟨x, y, r, v, rfl, hv, rfl⟩ := z_i2_some hs
    cases hv
    exact lv_iushr hx hb hd rfl k
  | idiv =>
    obtain rfl : len = 1 := by simpa [zLk] using hk
    obtain ⟨x, y, r, v, rfl, hv, rfl⟩ := z_i2_some hs
    by_cases h0 : y = 0
    · rw [if_pos h0] at hv; cases hv
    · rw [if_neg h0] at hv; cases hv
      exact lv_idiv hx hb hd h0 k
  | irem =>
    obtain rfl : len = 1 := by simpa [zLk] using hk
    obtain ⟨x, y, r, v, rfl, hv, rfl⟩ := z_i2_some hs
    by_cases h0 : y = 0
    · rw [if_pos h0] at hv; cases hv
    · rw [if_neg h0] at hv; cases hv
      exact lv_irem hx hb hd h0 k
  | lrem =>
    obtain rfl : len = 1 := by simpa [zLk] using hk
    obtain ⟨x, y, r, v, rfl, hv, rfl⟩ := z_l2_some hs
    by_cases h0 : y = 0
    · rw [if_pos h0] at hv; cases hv
    · rw [if_neg h0] at hv; cases hv
      exact lv_lrem hx hb hd h0 k
  | ineg =>
    obtain rfl : len = 1 := by simpa [zLk] using hk
    obtain ⟨x, r, v, rfl, hv, rfl⟩ := z_i1_some hs
    cases hv
    exact lv_ineg hx hb hd k
  | i2l =>
    obtain rfl : len = 1 := by simpa [zLk] using hk
    obtain ⟨x, r, v, rfl, hv, rfl⟩ := z_i1_some hs
    cases hv
    exact lv_i2l hx hb hd rfl k
  | i2c =>
    obtain rfl : len = 1 := by simpa [zLk] using hk
    obtain ⟨x, r, v, rfl, hv, rfl⟩ := z_i1_some hs
    cases hv
    exact lv_i2c hx hb hd rfl k
  | l2i =>
    obtain rfl : len = 1 := by simpa [zLk] using hk
    obtain ⟨x, r, v, rfl, hv, rfl⟩ := z_l1_some hs
    cases hv
    exact lv_l2i hx hb hd rfl k
  | ladd =>
    obtain rfl : len = 1 := by simpa [zLk] using hk
    obtain ⟨x, y, r, v, rfl, hv, rfl⟩ := z_l2_some hs
    cases hv
    exact lv_ladd hx hb hd k
  | lsub =>
    obtain rfl : len = 1 := by simpa [zLk] using hk
    obtain ⟨x, y, r, v, rfl, hv, rfl⟩ := z_l2_some hs
    cases hv
    exact lv_lsub hx hb hd k
  | lmul =>
    obtain rfl : len = 1 := by simpa [zLk] using hk
    obtain ⟨x, y, r, v, rfl, hv, rfl⟩ := z_l2_some hs
    cases hv
    exact lv_lmul hx hb hd k
  | land =>
    obtain rfl : len = 1 := by simpa [zLk] using hk
    obtain ⟨x, y, r, v, rfl, hv, rfl⟩ := z_l2_some hs
    cases hv
    exact lv_land hx hb hd k
  | lor =>
    obtain rfl : len = 1 := by simpa [zLk] using hk
    obtain ⟨x, y, r, v, rfl, hv, rfl⟩ := z_l2_some hs
    cases hv
    exact lv_lor hx hb hd k
  | lxor =>
    obtain rfl : len = 1 := by simpa [zLk] using hk
    obtain ⟨x, y, r, v, rfl, hv, rfl⟩ := z_l2_some hs
    cases hv
    exact lv_lxor hx hb hd k
  | lshl =>
    obtain rfl : len = 1 := by simpa [zLk] using hk
    obtain ⟨x, y, r, v, rfl, hv, rfl⟩ := z_li_some hs
    cases hv
    exact lv_lshl hx hb hd rfl k
  | lshr =>
    obtain rfl : len = 1 := by simpa [zLk] using hk
    obtain ⟨x, y, r, v, rfl, hv, rfl⟩ := z_li_some hs
    cases hv
    exact lv_lshr hx hb hd rfl k
  | lushr =>
    obtain rfl : len = 1 := by simpa [zLk] using hk
    obtain ⟨x, y, r, v, rfl, hv, rfl⟩ := z_li_some hs
    cases hv
    exact lv_lushr hx hb hd rfl k
  | lcmp =>
    obtain rfl : len = 1 := by simpa [zLk] using hk
    obtain ⟨x, y, r, v, rfl, hv, rfl⟩ := z_l2_some hs
    cases hv
    exact W.lcmp hx hb hd k
  | _ => cases hs
end
