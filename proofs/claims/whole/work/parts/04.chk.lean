/-! ===== the tables hold: each word that a row names stands in lw_tbl and is a good one ===== -/
theorem z_lk {α β : Type} [BEq α] [LawfulBEq α] : ∀ {l : List (α × β)} {a : α} {b : β}, l.lookup a = some b → (a, b) ∈ l
  | [], a, b, h => by simp at h
  | (x, y) :: l, a, b, h => by
    rw [List.lookup_cons] at h
    cases hx : (a == x) with
    | true =>
      rw [hx] at h
      have h1 : a = x := eq_of_beq hx
      have h2 : y = b := Option.some.inj h
      subst h1; subst h2
      exact List.mem_cons_self
    | false =>
      rw [hx] at h
      exact List.mem_cons_of_mem _ (z_lk h)
/-- the words that every method is given -/
def zTb : List Cond := lw_tbl.filter goodWord
def z_wd (i : Nat) (w : Cond) : Bool := decide (lw_tbl[i]? = some w) && goodWord w
theorem z_wd_in {i : Nat} {w : Cond} (h : z_wd i w = true) : w ∈ zTb := by
  unfold z_wd at h
  rw [Bool.and_eq_true, decide_eq_true_eq] at h
  exact List.mem_filter.mpr ⟨List.mem_of_getElem? h.1, h.2⟩
def zO (o : Nat) : String := zOw.getD o ""
def zY (M : Nat) : MethodName := (zMt[M]?.map (·.1)).getD ⟨"", "", ""⟩
def zBy (M : Nat) : ByteArray := (zMt[M]?.map (·.2.1)).getD ⟨#[]⟩
def zML (M : Nat) : Nat := (zMt[M]?.map (·.2.2.1)).getD 0
def zRt (M : Nat) : Option FieldType := (zMt[M]?.map (·.2.2.2.1)).getD none
def zOn (M : Nat) : Nat := (zMt[M]?.map (·.2.2.2.2.1)).getD 0
def zNp (M : Nat) : Nat := (zMt[M]?.map (·.2.2.2.2.2.1)).getD 0
def z_okM (q : MethodName × ByteArray × Nat × Option FieldType × Nat × Nat × Nat) : Bool :=
  decide (q.1.cls = zO q.2.2.2.2.1) && plainFor q.1 && decide (q.2.2.1 ≤ 40)
    && decide (q.1.cls ≠ "java/lang/invoke/MethodHandle") && decide (q.1.cls ≠ "java/lang/invoke/VarHandle") && decide ((parseMethodDescriptor q.1.desc).map (fun d => d.parameters.length) = some q.2.2.2.2.2.1)
set_option maxRecDepth 100000 in
theorem z_okMt : zMt.all z_okM = true := by decide +kernel
set_option maxRecDepth 100000 in
set_option maxHeartbeats 4000000 in
theorem z_cds : (zMt.map (fun q => lw_tbl[q.2.2.2.2.2.2]?)).dropLast = (zMt.map (fun q => some (Cond.code q.1 q.2.1 q.2.2.1 q.2.2.2.1))).dropLast := rfl
set_option maxRecDepth 100000 in
theorem z_okU : zCl.all (fun r => (u_ws r.1 r.2.1 r.2.2).all (fun w => lw_tbl.contains w && goodWord w)) = true := by decide +kernel
