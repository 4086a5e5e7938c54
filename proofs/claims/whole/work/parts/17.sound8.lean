/-! ===== soundness: entry, return, calls ===== -/
theorem zExp_len {tr : Value → Value} (hcat : ∀ v, (tr v).category = v.category) : ∀ as : List Value, (lg_sl (as.map tr)).length = (zExp as).length
  | [] => rfl
  | v :: as => by
    have ih := zExp_len hcat as
    have h1 : lg_sl ((v :: as).map tr) = (if (tr v).category = 2 then [.val (tr v), .second] else [.val (tr v)]) ++ lg_sl (as.map tr) := by simp [lg_sl]
    rw [h1, List.length_append, ih, hcat]
    cases v <;> simp [zExp, Value.category] <;> omega
theorem zExp_args {tr : Value → Value} (hcat : ∀ v, (tr v).category = v.category) : ∀ (as : List Value) (off i : Nat) (v : Value), (zExp as)[i]? = some (some v) → (off + i, tr v) ∈ lv_args off (as.map tr)
  | [], off, i, v, h => by simp [zExp] at h
  | u :: as, off, i, v, h => by
    have one : u.category ≠ 2 → zExp (u :: as) = some u :: zExp as := by
      intro hu
      cases u <;> simp [zExp, Value.category] at hu ⊢
    have two : u.category = 2 → zExp (u :: as) = some u :: none :: zExp as := by
      intro hu
      cases u <;> simp [zExp, Value.category] at hu ⊢
    by_cases hu : u.category = 2
    · rw [two hu] at h
      have hl : lv_args off ((u :: as).map tr) = (off, tr u) :: lv_args (off + 2) (as.map tr) := by simp [lv_args, hcat, hu]
      rw [hl]
      match i, h with
      | 0, h =>
        simp at h
        subst h
        exact List.mem_cons_self
      | 1, h => simp at h
      | j + 2, h =>
        simp at h
        have ih := zExp_args hcat as (off + 2) j v h
        rw [show off + (j + 2) = off + 2 + j by omega]
        exact List.mem_cons_of_mem _ ih
    · rw [one hu] at h
      have hl : lv_args off ((u :: as).map tr) = (off, tr u) :: lv_args (off + 1) (as.map tr) := by simp [lv_args, hcat, hu]
      rw [hl]
      match i, h with
      | 0, h =>
        simp at h
        subst h
        exact List.mem_cons_self
      | j + 1, h =>
        simp at h
        have ih := zExp_args hcat as (off + 1) j v h
        rw [show off + (j + 1) = off + 1 + j by omega]
        exact List.mem_cons_of_mem _ ih
theorem zEnt_ok {tr : Value → Value} (hcat : ∀ v, (tr v).category = v.category) {M : Nat} {as : List Value} (hle : (zExp as).length ≤ zML M) {ls : Array Slot} (h : lv_has ls (zML M) (lv_args 0 (as.map tr))) : zLh tr ls (zML M) (zEnt M as) := by
  refine ⟨h.1, h.2.1, ?_, fun i v hi => ?_⟩
  · unfold zEnt
    rw [List.length_append, List.length_replicate]
    omega
  · unfold zEnt at hi
    by_cases hl : i < (zExp as).length
    · rw [List.getElem?_append_left hl] at hi
      have := h.2.2 _ (zExp_args hcat as 0 i v hi)
      rw [Nat.zero_add] at this
      exact this
    · rw [List.getElem?_append_right (by omega), List.getElem?_replicate] at hi
      split at hi <;> simp at hi
theorem zM_at {M : Nat} (hM : M < zMt.length) : ∃ q, zMt[M]? = some q := ⟨_, List.getElem?_eq_getElem hM⟩
theorem zM_ok {M : Nat} (hM : M < zMt.length) : (zY M).cls = zO (zOn M) ∧ plainFor (zY M) = true ∧ zML M ≤ 40 ∧ (zY M).cls ≠ "java/lang/invoke/MethodHandle" ∧ (zY M).cls ≠ "java/lang/invoke/VarHandle" ∧ (parseMethodDescriptor (zY M).desc).map (fun d => d.parameters.length) = some (zNp M) := by
  obtain ⟨q, hq⟩ := zM_at hM
  have h1 := List.all_eq_true.mp z_okMt q (List.mem_of_getElem? hq)
  unfold z_okM at h1
  simp only [Bool.and_eq_true, decide_eq_true_eq] at h1
  unfold zY zOn zML zNp
  rw [hq]
  exact ⟨h1.1.1.1.1.1, h1.1.1.1.1.2, h1.1.1.1.2, h1.1.1.2, h1.1.2, h1.2⟩
set_option maxRecDepth 100000 in
theorem zM_len : zMt.length = 198 := rfl
theorem zM_code {M : Nat} (hM : M < 197) : Cond.code (zY M) (zBy M) (zML M) (zRt M) ∈ zTb := by
  have hl : M < zMt.length := by rw [zM_len]; omega
  obtain ⟨q, hq⟩ := zM_at hl
  have h1 := congrArg (fun x => x[M]?) z_cds
  simp only [List.getElem?_dropLast, List.length_map, zM_len] at h1
  rw [if_pos (by omega), if_pos (by omega), List.getElem?_map, List.getElem?_map, hq] at h1
  simp only [Option.map_some, Option.some.injEq] at h1
  unfold zY zBy zML zRt
  rw [hq]
  exact List.mem_filter.mpr ⟨List.mem_of_getElem? h1, rfl⟩
set_option maxRecDepth 100000 in
theorem z_callee : zCt.all (fun e => decide (e.2.2.1 < 197)) = true := by decide +kernel
def zRm (d cc ss : Nat) : Room := { frames := d, cells := cc, slots := ss, locals := 70 * d }
def zWs (M : Nat) : List Cond := Cond.code (zY M) (zBy M) (zML M) (zRt M) :: zTb
theorem zWs_good {M : Nat} (hM : M < 197) : ∀ w ∈ zWs M, w ∈ zTb ∧ ((w.onTables && w.keeps) = true ∨ ∃ ty, w = .arrayClass ty) := by
  have key : ∀ w ∈ zTb, w ∈ zTb ∧ ((w.onTables && w.keeps) = true ∨ ∃ ty, w = .arrayClass ty) := fun w hw => ⟨hw, good_of_word (List.mem_filter.mp hw).2⟩
  intro w hw
  rcases List.mem_cons.mp hw with rfl | h
  · exact key _ (zM_code hM)
  · exact key _ h
def zSta (D : va_G) (C : Nat → ClassId) (B0 : Nat) (sp : Nat → Nat) (fq : Value) (sc : zSc) (g : zSg) (h : zHp) (U : State) : Prop := U.heap.size = B0 + g.1 ∧ va_P D zCl (zWo C (zad B0 sp) g h) U.heap ∧ va_K D zCl (zTys C) U ∧ zRO B0 sp fq sc U U.heap
def zQc (D : va_G) (C : Nat → ClassId) (B0 : Nat) (sp : Nat → Nat) (g : zSg) (h : zHp) (r : Option Value) : Array Value → State → Outcome → State → Prop := match r with
  | some (.int x) => va_Qi (S := Unit) (fun y _ => y = x) (fun _ t => va_P D zCl (zWo C (zad B0 sp) g h) t.heap) (zA B0)
  | some (.long x) => va_Ql (S := Unit) (fun y _ => y = x) (fun _ t => va_P D zCl (zWo C (zad B0 sp) g h) t.heap) (zA B0)
  | none => va_Qv (S := Unit) (fun _ => True) (fun _ t => va_P D zCl (zWo C (zad B0 sp) g h) t.heap) (zA B0)
  | _ => fun _ _ _ _ => False
/-- the contract that a run of the small machine gives -/
def zMet (l : Launch) (D : va_G) (C : Nat → ClassId) (B0 : Nat) (sp : Nat → Nat) (fq : Value) (sc : zSc) (d M : Nat) (as : List Value) (g g' : zSg) (h h' : zHp) (r : Option Value) : Prop :=
  Met l (zY M) (zWs M) (zRm d (g'.1 - g.1) (zSl g'.1 - zSl g.1)) (va_Pc (as.map (zTr (zad B0 sp) fq)) (zSta D C B0 sp fq sc g h)) (zQc D C B0 sp g' h' r) (g'.1 - g.1) (zSl g'.1 - zSl g.1) (zA B0)
theorem zRk_ok {t : Option FieldType} {op : Instr} {st : List Value} {r : Option Value} (h : zRet t op st = some r) : (∃ x ty, r = some (.int x) ∧ op = .ireturn ∧ st = [.int x] ∧ t = some ty ∧ narrow ty (.int x) = .int x) ∨ (∃ x, r = some (.long x) ∧ op = .lreturn ∧ st = [.long x] ∧ t = some .long) ∨ (r = none ∧ op = .return_ ∧ st = [] ∧ t = none) := by
  unfold zRet at h
  split at h
  · rename_i x
    split at h
    · rename_i hk
      cases h
      unfold zRk at hk
      split at hk
      · rename_i h1; cases h1
      · rename_i y h1; cases h1; exact Or.inl ⟨x, _, rfl, rfl, rfl, rfl, rfl⟩
      · rename_i y h1; cases h1
      · rename_i y h1
        cases h1
        refine Or.inl ⟨x, _, rfl, rfl, rfl, rfl, ?_⟩
        simp at hk
        rcases hk with rfl | rfl <;> rfl
      · rename_i y h1
        cases h1
        refine Or.inl ⟨x, _, rfl, rfl, rfl, rfl, ?_⟩
        simp at hk
        subst hk
        rfl
      · rename_i y h1
        cases h1
        refine Or.inl ⟨x, _, rfl, rfl, rfl, rfl, ?_⟩
        simp at hk
        have h2 := pk_nc x
        rw [hk] at h2
        exact h2
      · cases hk
    · cases h
  · rename_i x
    split at h
    · rename_i hk
      cases h
      unfold zRk at hk
      split at hk
      · rename_i h1; cases h1
      · rename_i y h1; cases h1
      · rename_i y h1; cases h1; exact Or.inr (Or.inl ⟨x, rfl, rfl, rfl, rfl⟩)
      · rename_i y h1; cases h1
      · rename_i y h1; cases h1
      · rename_i y h1; cases h1
      · cases hk
    · cases h
  · split at h
    · rename_i hk
      cases h
      unfold zRk at hk
      split at hk
      · exact Or.inr (Or.inr ⟨rfl, rfl, rfl, rfl⟩)
      · rename_i y h1; cases h1
      · rename_i y h1; cases h1
      · rename_i y h1; cases h1
      · rename_i y h1; cases h1
      · rename_i y h1; cases h1
      · cases hk
    · cases h
  · cases h
theorem zBlind {D : va_G} {C : Nat → ClassId} {B0 : Nat} {sp : Nat → Nat} {fq : Value} {sc : zSc} {as : List Value} {g : zSg} {h : zHp} : FrameBlind (va_Pc as (zSta D C B0 sp fq sc g h)) := by
  intro a U f mq q
  obtain ⟨q0, q1, q2, q3, q4⟩ := q
  exact ⟨q0, q1, q2, va_K.moved (u := U) (U := U.calling f mq a) (Vm.Alike.refl U.vm) q3, q4.blind rfl⟩
section
variable {p : Program} {l : Launch} {e : Env} {R : Room} {s : State} {m : MethodId} {args : Array Value} {below : List Frame} {meth : Method} {c : Code} {H : Heap} {locs : List Loc} {cells slots : Nat} {Q : State → Prop}
variable {D : va_G} {C : Nat → ClassId} {B0 : Nat} {sp : Nat → Nat} {fq : Value} {sc : zSc} {M : Nat} {g g' : zSg} {h h' : zHp} {pc i d : Nat} {st st' : List Value} {ls : Array Slot}
theorem zgo_ok {r : Option Value} {a : Array Value} {rest : List Value} {mc ms : Nat} (hr : va_Run p l e R s m args below meth c H locs cells slots mc ms (F0 m pc ls (st.map (zTr (zad B0 sp) fq))) (rest.map (zTr (zad B0 sp) fq)) (zQc D C B0 sp g' h' r a) (zA B0)) (hS : va_S (zA B0) s.heap H locs)
    (k : ∀ (H1 : Heap) (locs1 : List Loc), va_P D zCl (zWo C (zad B0 sp) g' h') H1 → va_S (zA B0) s.heap H1 locs1 → W p l e R s m args below meth c H1 locs1 (cells + mc) (slots + ms) Q (F0 m (pc + 3) ls ((r.toList ++ rest).map (zTr (zad B0 sp) fq)))) : W p l e R s m args below meth c H locs cells slots Q (F0 m pc ls (st.map (zTr (zad B0 sp) fq))) := by
  cases r with
  | none =>
    refine va_callv (a := a) hr hS (fun q _ z => z) (fun q z => z) (fun u t H1 locs1 ht hvm hw hB hz1 hk1 hS1 => ?_)
    rw [ht] at hB
    exact k H1 locs1 hB hS1
  | some v =>
    cases v with
    | int x =>
      refine va_calli (a := a) hr hS (fun q _ z => z) (fun q z => z) (fun y u t H1 locs1 ht hvm hw hB hz1 hk1 hS1 => ?_)
      rw [ht] at hB
      rw [hw]
      exact k H1 locs1 hB hS1
    | long x =>
      refine va_calll (a := a) hr hS (fun q _ z => z) (fun q z => z) (fun y u t H1 locs1 ht hvm hw hB hz1 hk1 hS1 => ?_)
      rw [ht] at hB
      rw [hw]
      exact k H1 locs1 hB hS1
    | _ =>
      intro T hT X
      obtain ⟨v, st₀, t, T', L, h0, X', hL, e1, e2, hq, st⟩ := hr T hT X
      exact hq.elim
end
