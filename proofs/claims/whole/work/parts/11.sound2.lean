/-! ===== soundness: locals and branches ===== -/
theorem z_cat2 {w : Value} (h : w.category = 2) : (∃ x, w = .long x) ∨ ∃ x, w = .double x := by
  cases w with
  | long x => exact Or.inl ⟨x, rfl⟩
  | double x => exact Or.inr ⟨x, rfl⟩
  | _ => simp [Value.category] at h
theorem zInv_len (lv : zLv) (i : Nat) : (zInv lv i).length = lv.length := by
  unfold zInv
  split
  · rfl
  · split <;> simp
theorem zInv_get {lv : zLv} {i j : Nat} {w : Value} (hj : (zInv lv i)[j]? = some (some w)) : lv[j]? = some (some w) ∧ ¬ (j + 1 = i ∧ w.category = 2) := by
  cases i with
  | zero => exact ⟨hj, fun h => by omega⟩
  | succ i =>
    by_cases hji : j = i
    · subst hji
      have key : lv[j]? = some (some w) → ¬ w.category = 2 → lv[j]? = some (some w) ∧ ¬ (j + 1 = j + 1 ∧ w.category = 2) := fun a b => ⟨a, fun c => b c.2⟩
      unfold zInv at hj
      simp only at hj
      by_cases hl : j < lv.length
      · cases hx : zLg lv j with
        | none =>
          rw [hx] at hj
          simp only at hj
          unfold zLg at hx
          rw [hj] at hx
          simp at hx
        | some u =>
          rw [hx] at hj
          have hu : lv[j]? = some (some u) := by
            unfold zLg at hx
            cases hq : lv[j]? with
            | none => rw [hq] at hx; simp at hx
            | some o => rw [hq] at hx; simp at hx; rw [hx]
          cases u with
          | long x => simp [hl] at hj
          | double x => simp [hl] at hj
          | _ =>
            simp only at hj
            refine key hj ?_
            rw [hu] at hj
            cases hj
            simp [Value.category]
      · split at hj
        · simp [hl] at hj
        · simp [hl] at hj
        · simp [hl] at hj
    · refine ⟨?_, fun h => hji (by omega)⟩
      unfold zInv at hj
      simp only at hj
      split at hj
      · rw [List.getElem?_set_ne (Ne.symm hji)] at hj; exact hj
      · rw [List.getElem?_set_ne (Ne.symm hji)] at hj; exact hj
      · exact hj
theorem zSto_get {lv : zLv} {i j : Nat} {v w : Value} (hj : (zSto lv i v)[j]? = some (some w)) : (j = i ∧ w = v) ∨ (j ≠ i ∧ lv[j]? = some (some w) ∧ ¬ (j + 1 = i ∧ w.category = 2)) := by
  unfold zSto at hj
  by_cases hji : j = i
  · subst hji
    by_cases hl : j < lv.length
    · rw [List.getElem?_set_self (by rw [zInv_len]; exact hl)] at hj
      cases hj
      exact Or.inl ⟨rfl, rfl⟩
    · rw [List.getElem?_eq_none (by rw [List.length_set, zInv_len]; omega)] at hj
      cases hj
  · rw [List.getElem?_set_ne (Ne.symm hji)] at hj
    exact Or.inr ⟨hji, zInv_get hj⟩
theorem zStL_get {lv : zLv} {i j : Nat} {v w : Value} (hj : (zStL lv i v)[j]? = some (some w)) : (j = i ∧ w = v) ∨ (j ≠ i ∧ j ≠ i + 1 ∧ lv[j]? = some (some w) ∧ ¬ (j + 1 = i ∧ w.category = 2)) := by
  unfold zStL at hj
  by_cases hji : j = i
  · subst hji
    by_cases hl : j < lv.length
    · rw [List.getElem?_set_self (by rw [List.length_set, zInv_len]; exact hl)] at hj
      cases hj
      exact Or.inl ⟨rfl, rfl⟩
    · rw [List.getElem?_eq_none (by rw [List.length_set, List.length_set, zInv_len]; omega)] at hj
      cases hj
  · rw [List.getElem?_set_ne (Ne.symm hji)] at hj
    by_cases hj1 : j = i + 1
    · subst hj1
      by_cases hl : i + 1 < lv.length
      · rw [List.getElem?_set_self (by rw [zInv_len]; exact hl)] at hj
        cases hj
      · rw [List.getElem?_eq_none (by rw [List.length_set, zInv_len]; omega)] at hj
        cases hj
    · rw [List.getElem?_set_ne (Ne.symm hj1)] at hj
      exact Or.inr ⟨hji, hj1, zInv_get hj⟩
/-- the locals that are known, as the kit lists them -/
def zAl (tr : Value → Value) (lv : zLv) : List (Nat × Value) := (List.range lv.length).filterMap (fun i => (zLg lv i).map (fun v => (i, tr v)))
theorem zAl_mem {tr : Value → Value} {lv : zLv} {i : Nat} {v : Value} (h : lv[i]? = some (some v)) : (i, tr v) ∈ zAl tr lv := by
  unfold zAl
  rw [List.mem_filterMap]
  refine ⟨i, List.mem_range.mpr (List.getElem?_eq_some_iff.mp h).1, ?_⟩
  unfold zLg
  rw [h]
  rfl
theorem zAl_has {tr : Value → Value} {ls : Array Slot} {nL : Nat} {lv : zLv} (h : zLh tr ls nL lv) : lv_has ls nL (zAl tr lv) := by
  refine ⟨h.1, h.2.1, fun q hq => ?_⟩
  unfold zAl at hq
  rw [List.mem_filterMap] at hq
  obtain ⟨i, -, hi⟩ := hq
  cases hx : zLg lv i with
  | none => rw [hx] at hi; cases hi
  | some v =>
    rw [hx] at hi
    cases hi
    exact h.at hx
theorem zLh_sto {tr : Value → Value} {ls' : Array Slot} {nL i : Nat} {lv : zLv} {v : Value} (hcat : ∀ v, (tr v).category = v.category) (hn : lv.length = nL) (h : lv_has ls' nL ((i, tr v) :: (zAl tr lv).filter (fun q => !(q.1 == i) && !(q.1 + 1 == i && q.2.category == 2)))) : zLh tr ls' nL (zSto lv i v) := by
  refine ⟨h.1, h.2.1, ?_, fun j w hj => ?_⟩
  · unfold zSto
    rw [List.length_set, zInv_len, hn]
  · rcases zSto_get hj with ⟨rfl, rfl⟩ | ⟨h1, h2, h3⟩
    · exact h.2.2 (j, tr w) List.mem_cons_self
    · refine h.2.2 (j, tr w) (List.mem_cons_of_mem _ (List.mem_filter.mpr ⟨zAl_mem h2, ?_⟩))
      simp only [hcat]
      by_cases hj1 : j + 1 = i
      · have hc : ¬ w.category = 2 := fun z => h3 ⟨hj1, z⟩
        simp [h1, hc]
      · simp [h1, hj1]
theorem zLh_stl {tr : Value → Value} {ls' : Array Slot} {nL i : Nat} {lv : zLv} {v : Value} (hcat : ∀ v, (tr v).category = v.category) (hn : lv.length = nL) (h : lv_has ls' nL ((i, tr v) :: (zAl tr lv).filter (fun q => !(q.1 == i) && (!(q.1 == i + 1) && !(q.1 + 1 == i && q.2.category == 2))))) : zLh tr ls' nL (zStL lv i v) := by
  refine ⟨h.1, h.2.1, ?_, fun j w hj => ?_⟩
  · unfold zStL
    rw [List.length_set, List.length_set, zInv_len, hn]
  · rcases zStL_get hj with ⟨rfl, rfl⟩ | ⟨h1, h1', h2, h3⟩
    · exact h.2.2 (j, tr w) List.mem_cons_self
    · refine h.2.2 (j, tr w) (List.mem_cons_of_mem _ (List.mem_filter.mpr ⟨zAl_mem h2, ?_⟩))
      simp only [hcat]
      by_cases hj1 : j + 1 = i
      · have hc : ¬ w.category = 2 := fun z => h3 ⟨hj1, z⟩
        simp [h1, h1', hc]
      · simp [h1, h1', hj1]
theorem z_is_some {lv lv' : zLv} {i : Nat} {st st' : List Value} (h : z_is lv i st = some (lv', st')) : ∃ x, st = .int x :: st' ∧ i < lv.length ∧ lv' = zSto lv i (.int x) := by
  unfold z_is at h
  split at h
  · rename_i x r
    by_cases hi : i < lv.length
    · rw [if_pos hi] at h; cases h; exact ⟨x, rfl, hi, rfl⟩
    · rw [if_neg hi] at h; cases h
  · cases h
theorem z_ls_some {lv lv' : zLv} {i : Nat} {st st' : List Value} (h : z_ls lv i st = some (lv', st')) : ∃ x, st = .long x :: st' ∧ i + 1 < lv.length ∧ lv' = zStL lv i (.long x) := by
  unfold z_ls at h
  split at h
  · rename_i x r
    by_cases hi : i + 1 < lv.length
    · rw [if_pos hi] at h; cases h; exact ⟨x, rfl, hi, rfl⟩
    · rw [if_neg hi] at h; cases h
  · cases h
theorem z_as_some {lv lv' : zLv} {i : Nat} {st st' : List Value} (h : z_as lv i st = some (lv', st')) : ∃ x, st = .ref x :: st' ∧ i < lv.length ∧ x ≠ 1400 ∧ lv' = zSto lv i (.ref x) := by
  unfold z_as at h
  split at h
  · rename_i x r
    by_cases hi : i < lv.length ∧ x ≠ 1400
    · rw [if_pos hi] at h; cases h; exact ⟨x, rfl, hi.1, hi.2, rfl⟩
    · rw [if_neg hi] at h; cases h
  · cases h
theorem z_ic_some {lv lv' : zLv} {i : Nat} {n : Int} {st st' : List Value} (h : z_ic lv i n st = some (lv', st')) : ∃ x, zLg lv i = some (.int x) ∧ st = st' ∧ lv' = zSto lv i (.int (x + Int32.ofInt n)) := by
  unfold z_ic at h
  split at h
  · rename_i x hx
    cases h
    exact ⟨x, hx, rfl, rfl⟩
  · cases h
theorem zLg_lt {lv : zLv} {i : Nat} {v : Value} (h : zLg lv i = some v) : i < lv.length ∧ lv[i]? = some (some v) := by
  unfold zLg at h
  cases hq : lv[i]? with
  | none => rw [hq] at h; simp at h
  | some o => rw [hq] at h; simp at h; exact ⟨(List.getElem?_eq_some_iff.mp hq).1, by rw [h]⟩
theorem zTg_some {pc t : Nat} {off : Int} (h : zTg pc off = some t) : (pc : Int) + off = (t : Int) := by
  unfold zTg at h
  by_cases h0 : 0 ≤ (pc : Int) + off
  · rw [if_pos h0] at h
    cases h
    omega
  · rw [if_neg h0] at h; cases h
theorem z_b1_some {pc pc' : Nat} {cd : ClassFile.Cond} {off : Int} {st st' : List Value} (h : z_b1 pc cd off st = some (pc', st')) : ∃ (x : Int32) (t : Nat), st = .int x :: st' ∧ (pc : Int) + off = (t : Int) ∧ pc' = (if zC1 cd x then t else pc + 3) := by
  unfold z_b1 at h
  split at h
  · rename_i x r
    cases ht : zTg pc off with
    | none => rw [ht] at h; cases h
    | some t => rw [ht] at h; cases h; exact ⟨x, t, rfl, zTg_some ht, rfl⟩
  · cases h
theorem z_b2_some {pc pc' : Nat} {cd : ClassFile.Cond} {off : Int} {st st' : List Value} (h : z_b2 pc cd off st = some (pc', st')) : ∃ (x y : Int32) (t : Nat), st = .int y :: .int x :: st' ∧ (pc : Int) + off = (t : Int) ∧ pc' = (if zC2 cd x y then t else pc + 3) := by
  unfold z_b2 at h
  split at h
  · rename_i y x r
    cases ht : zTg pc off with
    | none => rw [ht] at h; cases h
    | some t => rw [ht] at h; cases h; exact ⟨x, y, t, rfl, zTg_some ht, rfl⟩
  · cases h
section
variable {p : Program} {l : Launch} {e : Env} {R : Room} {s : State} {m : MethodId} {args : Array Value} {below : List Frame} {meth : Method} {c : Code} {H : Heap} {locs : List Loc} {cells slots : Nat} {Q : State → Prop}
variable {D : va_G} {C : Nat → ClassId} {B0 : Nat} {sp : Nat → Nat} {fq : Value} {sc : zSc} {M : Nat}
set_option maxHeartbeats 4000000 in
theorem zLoc_ok (hc : zCtx D C B0 sp fq sc M p s m args meth c) {op : Instr} {len pc : Nat} {lv lv' : zLv} {st st' : List Value} {ls : Array Slot} (hd : decode (zBy M) pc = .ok (op, len)) (hk : zLk op len = true) (hl : zLh (zTr (zad B0 sp) fq) ls (zML M) lv) (hs : zLoc op lv st = some (lv', st'))
    (k : ∀ ls' : Array Slot, zLh (zTr (zad B0 sp) fq) ls' (zML M) lv' → W p l e R s m args below meth c H locs cells slots Q (F0 m (pc + len) ls' (st'.map (zTr (zad B0 sp) fq)))) : W p l e R s m args below meth c H locs cells slots Q (F0 m pc ls (st.map (zTr (zad B0 sp) fq))) := by
  obtain ⟨hx, hb, hml, hown, hts, hK, hRO, hin, hB, hfq⟩ := hc
  have hcat := fun v => zTr_cat (ad := zad B0 sp) hfq v
  have hn := hl.2.2.1
  have hh := zAl_has hl
  generalize zML M = nL at hl hn hh k
  cases op with
  | istore i =>
    obtain rfl : len = 2 := by simpa [zLk] using hk
    obtain ⟨x, rfl, hi, rfl⟩ := z_is_some hs
    exact lv_istore hx hb hd hh (by omega) rfl (fun ls' h' => k ls' (zLh_sto hcat hn h'))
  | istore_n i =>
    obtain rfl : len = 1 := by simpa [zLk] using hk
    obtain ⟨x, rfl, hi, rfl⟩ := z_is_some hs
    exact lv_istore_n hx hb hd rfl hh (by omega) rfl (fun ls' h' => k ls' (zLh_sto hcat hn h'))
  | lstore i =>
    obtain rfl : len = 2 := by simpa [zLk] using hk
    obtain ⟨x, rfl, hi, rfl⟩ := z_ls_some hs
    exact lv_lstore hx hb hd hh (by omega) rfl (fun ls' h' => k ls' (zLh_stl hcat hn h'))
  | lstore_n i =>
    obtain rfl : len = 1 := by simpa [zLk] using hk
    obtain ⟨x, rfl, hi, rfl⟩ := z_ls_some hs
    exact lv_lstore_n hx hb hd rfl hh (by omega) rfl (fun ls' h' => k ls' (zLh_stl hcat hn h'))
  | astore i =>
    obtain rfl : len = 2 := by simpa [zLk] using hk
    obtain ⟨x, rfl, hi, h4, rfl⟩ := z_as_some hs
    rw [List.map_cons, zTr_ref h4]
    exact lv_astore hx hb hd hh (by omega) rfl (fun ls' h' => k ls' (zLh_sto hcat hn (by rw [zTr_ref h4]; exact h')))
  | astore_n i =>
    obtain rfl : len = 1 := by simpa [zLk] using hk
    obtain ⟨x, rfl, hi, h4, rfl⟩ := z_as_some hs
    rw [List.map_cons, zTr_ref h4]
    exact lv_astore_n hx hb hd rfl hh (by omega) rfl (fun ls' h' => k ls' (zLh_sto hcat hn (by rw [zTr_ref h4]; exact h')))
  | iinc i n =>
    obtain rfl : len = 3 := by simpa [zLk] using hk
    obtain ⟨x, hx2, rfl, rfl⟩ := z_ic_some hs
    obtain ⟨h1, h2⟩ := zLg_lt hx2
    obtain ⟨j, hj⟩ := List.getElem?_of_mem (zAl_mem (tr := zTr (zad B0 sp) fq) h2)
    exact lv_iinc hx hb hd hh (k := j) hj rfl (by omega) rfl (fun ls' h' => k ls' (zLh_sto hcat hn h'))
  | _ => cases hs
set_option maxHeartbeats 4000000 in
theorem zBr_ok (hc : zCtx D C B0 sp fq sc M p s m args meth c) {op : Instr} {len pc pc' : Nat} {st st' : List Value} {ls : Array Slot} (hd : decode (zBy M) pc = .ok (op, len)) (hk : zLk op len = true) (hs : zBr op pc st = some (pc', st'))
    (k : W p l e R s m args below meth c H locs cells slots Q (F0 m pc' ls (st'.map (zTr (zad B0 sp) fq)))) : W p l e R s m args below meth c H locs cells slots Q (F0 m pc ls (st.map (zTr (zad B0 sp) fq))) := by
  obtain ⟨hx, hb, hml, hown, hts, hK, hRO, hin, hB, hfq⟩ := hc
  cases op with
  | goto off =>
    obtain rfl : len = 3 := by simpa [zLk] using hk
    simp only [zBr] at hs
    cases ht : zTg pc off with
    | none => rw [ht] at hs; cases hs
    | some t => rw [ht] at hs; cases hs; exact lv_goto hx hb hd (zTg_some ht) k
  | ifCond cd off =>
    obtain rfl : len = 3 := by simpa [zLk] using hk
    obtain ⟨x, t, rfl, ht, rfl⟩ := z_b1_some hs
    cases cd with
    | eq => exact lv_if_eq hx hb hd ht (fun h => by simpa [zC1, h] using k) (fun h => by simpa [zC1, h] using k)
    | ne => exact lv_if_ne hx hb hd ht (fun h => by simpa [zC1, h] using k) (fun h => by simpa [zC1, h] using k)
    | lt => exact lv_if_lt hx hb hd ht (fun h => by simpa [zC1, h] using k) (fun h => by simpa [zC1, h] using k)
    | ge => exact lv_if_ge hx hb hd ht (fun h => by simpa [zC1, Int32.not_lt.mpr h] using k) (fun h => by simpa [zC1, Int32.not_le.mp h] using k)
    | gt => exact lv_if_gt hx hb hd ht (fun h => by simpa [zC1, h] using k) (fun h => by simpa [zC1, h] using k)
    | le => exact lv_if_le hx hb hd ht (fun h => by simpa [zC1, Int32.not_lt.mpr h] using k) (fun h => by simpa [zC1, Int32.not_le.mp h] using k)
  | if_icmp cd off =>
    obtain rfl : len = 3 := by simpa [zLk] using hk
    obtain ⟨x, y, t, rfl, ht, rfl⟩ := z_b2_some hs
    cases cd with
    | eq => exact lv_icmp_eq hx hb hd ht (fun h => by simpa [zC2, h] using k) (fun h => by simpa [zC2, h] using k)
    | ne => exact lv_icmp_ne hx hb hd ht (fun h => by simpa [zC2, h] using k) (fun h => by simpa [zC2, h] using k)
    | lt => exact lv_icmp_lt hx hb hd ht (fun h => by simpa [zC2, h] using k) (fun h => by simpa [zC2, h] using k)
    | ge => exact lv_icmp_ge hx hb hd ht (fun h => by simpa [zC2, Int32.not_lt.mpr h] using k) (fun h => by simpa [zC2, Int32.not_le.mp h] using k)
    | gt => exact lv_icmp_gt hx hb hd ht (fun h => by simpa [zC2, h] using k) (fun h => by simpa [zC2, h] using k)
    | le => exact lv_icmp_le hx hb hd ht (fun h => by simpa [zC2, Int32.not_lt.mpr h] using k) (fun h => by simpa [zC2, Int32.not_le.mp h] using k)
  | tableswitch d lo hi offs =>
    simp only [zBr] at hs
    unfold z_ts at hs
    split at hs
    · rename_i x r
      by_cases h0 : x.toInt < lo ∨ hi < x.toInt
      · rw [if_pos h0] at hs
        cases ht : zTg pc d with
        | none => rw [ht] at hs; cases hs
        | some t => rw [ht] at hs; cases hs; exact lv_tableOut hx hb hd h0 (zTg_some ht) k
      · rw [if_neg h0] at hs
        cases ho : offs[(x.toInt - lo).toNat]? with
        | none => rw [ho] at hs; cases hs
        | some o =>
          rw [ho] at hs
          simp only at hs
          cases ht : zTg pc o with
          | none => rw [ht] at hs; cases hs
          | some t => rw [ht] at hs; cases hs; exact lv_tableIn hx hb hd (fun h => h0 (Or.inl h)) (fun h => h0 (Or.inr h)) ho (zTg_some ht) k
    · cases hs
  | lookupswitch d ps =>
    simp only [zBr] at hs
    unfold z_lk' at hs
    split at hs
    · rename_i x r
      by_cases h0 : (ps.toList.zip (ps.toList.drop 1)).all (fun (a, next) => a.1 < next.1) = true
      · rw [if_pos h0] at hs
        cases ht : zTg pc (Op.lookupswitch.offset ps.toList d x.toInt) with
        | none => rw [ht] at hs; cases hs
        | some t => rw [ht] at hs; cases hs; exact lv_lookup hx hb hd h0 rfl (zTg_some ht) k
      · rw [if_neg h0] at hs; cases hs
    · cases hs
  | _ => cases hs
end
