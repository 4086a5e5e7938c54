/-! ===== soundness: the heap's instructions, words and pictures ===== -/
theorem zFl_mem {o i ci k : Nat} (h : zFl o i = some (ci, k)) : ∃ w, ((o, i), (ci, k, w)) ∈ zFt := by
  unfold zFl at h
  cases hk : zFt.lookup (o, i) with
  | none => rw [hk] at h; cases h
  | some q =>
    obtain ⟨a, b, w⟩ := q
    rw [hk] at h
    cases h
    exact ⟨w, z_lk hk⟩
theorem zFl_in {o i ci k : Nat} (h : zFl o i = some (ci, k)) (h1 : ci ≠ 100) : ∃ r : vw_C, zCl[ci]? = some r ∧ k < r.2.2 ∧ Cond.fieldLink (zO o) i (r.2.1 k).1 (r.2.1 k).2.1 (r.2.1 k).2.2.1 ∈ zTb := by
  obtain ⟨w, hm⟩ := zFl_mem h
  have h2 := List.all_eq_true.mp z_okFt _ hm
  unfold z_okF at h2
  simp only at h2
  cases hr : zCl[ci]? with
  | none =>
    rw [hr] at h2
    simp only [Bool.and_eq_true, decide_eq_true_eq] at h2
    exact absurd h2.1 h1
  | some r =>
    rw [hr] at h2
    simp only [Bool.and_eq_true, decide_eq_true_eq] at h2
    exact ⟨r, rfl, h2.1, z_wd_in h2.2⟩
theorem zFl_str {o i k : Nat} (h : zFl o i = some (100, k)) : (k = 0 → Cond.fieldLink (zO o) i "java/lang/String" "value" "[B" ∈ zTb) ∧ (k ≠ 0 → Cond.fieldLink (zO o) i "java/lang/String" "coder" "B" ∈ zTb) := by
  obtain ⟨w, hm⟩ := zFl_mem h
  have h2 := List.all_eq_true.mp z_okFt _ hm
  unfold z_okF at h2
  have hn : zCl[100]? = none := rfl
  simp only [hn, Bool.and_eq_true, decide_eq_true_eq] at h2
  constructor
  · intro hk
    rw [if_pos hk] at h2
    exact z_wd_in h2.2
  · intro hk
    rw [if_neg hk] at h2
    exact z_wd_in h2.2
theorem z_uws {ci : Nat} {r : vw_C} (h : zCl[ci]? = some r) : ∀ w ∈ u_ws r.1 r.2.1 r.2.2, w ∈ zTb := by
  intro w hw
  have h1 := List.all_eq_true.mp z_okU r (List.mem_of_getElem? h)
  have h2 := List.all_eq_true.mp h1 w hw
  rw [Bool.and_eq_true] at h2
  exact List.mem_filter.mpr ⟨List.contains_iff_mem.mp h2.1, h2.2⟩
theorem zCl_lt {ci : Nat} {r : vw_C} (h : zCl[ci]? = some r) : ci < 9 := (List.getElem?_eq_some_iff.mp h).1
theorem zFc_lt {ci k c : Nat} (h : zFc ci k = some c) : k < ((zFs[ci]?).getD []).length := (List.getElem?_eq_some_iff.mp h).1
def z_Tp (r : vw_C) (k : Nat) : Nat → Prop
  | 0 => parseFieldDescriptor (r.2.1 k).2.2.1 = some .int ∧ (r.2.1 k).2.2.2 = false
  | 1 => parseFieldDescriptor (r.2.1 k).2.2.1 = some .boolean ∧ (r.2.1 k).2.2.2 = false
  | 2 => parseFieldDescriptor (r.2.1 k).2.2.1 = some .long ∧ (r.2.1 k).2.2.2 = false
  | 3 => (r.2.1 k).1 = r.1 ∧ (r.2.1 k).2.2.2 = true ∧ ((∃ z, parseFieldDescriptor (r.2.1 k).2.2.1 = some (.object z)) ∨ ∃ z, parseFieldDescriptor (r.2.1 k).2.2.1 = some (.array z))
  | _ => (r.2.1 k).2.2.2 = false ∧ ∃ z, parseFieldDescriptor (r.2.1 k).2.2.1 = some (.object z)
theorem z_T {ci k c : Nat} {r : vw_C} (h : zCl[ci]? = some r) (hk : k < 44) (hc : zFc ci k = some c) : k < r.2.2 ∧ z_Tp r k c := by
  have h1 := List.all_eq_true.mp (List.all_eq_true.mp z_okTt ci (List.mem_range.mpr (zCl_lt h))) k (List.mem_range.mpr hk)
  unfold z_okT at h1
  rw [h, hc] at h1
  simp only [Bool.and_eq_true, decide_eq_true_eq] at h1
  refine ⟨h1.1, ?_⟩
  have h2 := h1.2
  match c, h2 with
  | 0, h2 => simpa [z_Tp] using h2
  | 1, h2 => simpa [z_Tp] using h2
  | 2, h2 => simpa [z_Tp] using h2
  | 3, h2 =>
    simp only [Bool.and_eq_true, decide_eq_true_eq] at h2
    refine ⟨h2.1.1, h2.1.2, ?_⟩
    have h3 := h2.2
    split at h3
    · rename_i z hz; exact Or.inl ⟨z, hz⟩
    · rename_i z hz; exact Or.inr ⟨z, hz⟩
    · cases h3
  | n + 4, h2 =>
    simp only [Bool.and_eq_true, decide_eq_true_eq] at h2
    refine ⟨h2.1, ?_⟩
    have h3 := h2.2
    split at h3
    · rename_i z hz; exact ⟨z, hz⟩
    · cases h3
theorem zCo_at {ci : Nat} {r : vw_C} (h : zCl[ci]? = some r) : ∃ o, zCo[ci]? = some o ∧ zO o = r.1 ∧ r.2.2 = ((zFs[ci]?).getD []).length := by
  have h1 := List.all_eq_true.mp z_okCo ci (List.mem_range.mpr (zCl_lt h))
  rw [h] at h1
  cases ho : zCo[ci]? with
  | none => rw [ho] at h1; cases h1
  | some o =>
    rw [ho] at h1
    simp only [Bool.and_eq_true, decide_eq_true_eq] at h1
    exact ⟨o, rfl, h1.1, h1.2⟩
set_option maxRecDepth 100000 in
theorem z_fsl : ∀ ci, ci < 9 → ((zFs[ci]?).getD []).length ≤ 43 := by decide +kernel
theorem z_k44 {ci k c : Nat} {r : vw_C} (h : zCl[ci]? = some r) (hc : zFc ci k = some c) : k < 44 := by
  have h1 := zFc_lt hc
  have h2 := z_fsl ci (zCl_lt h)
  omega
set_option maxRecDepth 100000 in
theorem z_okN : zCl.all (fun r => (List.range r.2.2).all (fun a => (List.range r.2.2).all (fun b => decide (a = b) || decide ((r.2.1 a).2.1 ≠ (r.2.1 b).2.1)))) = true := by decide +kernel
theorem z_nm {ci : Nat} {r : vw_C} (h : zCl[ci]? = some r) : ∀ a, a < r.2.2 → ∀ b, b < r.2.2 → a ≠ b → (r.2.1 a).2.1 ≠ (r.2.1 b).2.1 := by
  intro a ha b hb hab
  have h1 := List.all_eq_true.mp (List.all_eq_true.mp (List.all_eq_true.mp z_okN r (List.mem_of_getElem? h)) a (List.mem_range.mpr ha)) b (List.mem_range.mpr hb)
  simp only [Bool.or_eq_true, decide_eq_true_eq] at h1
  rcases h1 with h1 | h1
  · exact absurd h1 hab
  · exact h1
/-- a class's field types -/
def z_ty (r : vw_C) (k : Nat) : FieldType := (parseFieldDescriptor (r.2.1 k).2.2.1).getD .int
theorem z_ty_ok {ci : Nat} {r : vw_C} (h : zCl[ci]? = some r) : ∀ k, k < r.2.2 → parseFieldDescriptor (r.2.1 k).2.2.1 = some (z_ty r k) := by
  intro k hk
  obtain ⟨o, -, -, hl⟩ := zCo_at h
  have hc : ∃ c, zFc ci k = some c := by
    unfold zFc
    exact ⟨_, List.getElem?_eq_getElem (by omega)⟩
  obtain ⟨c, hc⟩ := hc
  have h1 := (z_T h (z_k44 h hc) hc).2
  unfold z_ty
  match c, h1 with
  | 0, h1 => rw [h1.1]; rfl
  | 1, h1 => rw [h1.1]; rfl
  | 2, h1 => rw [h1.1]; rfl
  | 3, h1 =>
    rcases h1.2.2 with ⟨z, hz⟩ | ⟨z, hz⟩
    · rw [hz]; rfl
    · rw [hz]; rfl
  | n + 4, h1 =>
    obtain ⟨z, hz⟩ := h1.2
    rw [hz]; rfl
theorem zin_iff {i : Int32} {n : Nat} : zin i n = true ↔ vp_in i n := by
  unfold zin vp_in
  rw [decide_eq_true_eq]
theorem zOb_iff {g : zSg} {a ci : Nat} : zOb g a ci = true ↔ a < g.1 ∧ zKi a = some (.inr ci) := by
  unfold zOb
  rw [Bool.and_eq_true, decide_eq_true_eq, decide_eq_true_eq]
theorem zLn_iff {a t n : Nat} : zLn a = some (t, n) ↔ zKi a = some (.inl (t, n)) := by
  unfold zLn
  split
  · rename_i q hq
    rw [hq]
    constructor
    · intro h; cases h; rfl
    · intro h; cases h; rfl
  · rename_i hq
    constructor
    · intro h; cases h
    · intro h; exact absurd h (hq _)
/-- slots of the first n cells -/
def zSz : ((Nat × Nat) ⊕ Nat) → Nat
  | .inl q => q.2
  | .inr ci => ((zFs[ci]?).getD []).length
def zSl (n : Nat) : Nat := ((zKL.take n).map zSz).sum
theorem zSl_succ {n : Nat} {kd : (Nat × Nat) ⊕ Nat} (h : zKi n = some kd) : zSl (n + 1) = zSl n + zSz kd := by
  unfold zSl
  unfold zKi at h
  rw [List.take_add_one, h]
  simp
theorem zSl_le {n m : Nat} (h : n ≤ m) : zSl n ≤ zSl m := by
  obtain ⟨j, rfl⟩ := Nat.le.dest h
  induction j with
  | zero => exact Nat.le_refl _
  | succ j ih =>
    refine Nat.le_trans (ih (by omega)) ?_
    cases hk : zKi (n + j) with
    | none =>
      unfold zKi at hk
      show zSl (n + j) ≤ zSl (n + j + 1)
      unfold zSl
      rw [List.take_add_one, hk]
      simp
    | some kd =>
      show zSl (n + j) ≤ zSl (n + j + 1)
      rw [zSl_succ hk]
      omega
theorem zad_lt {B0 : Nat} {sp : Nat → Nat} {a : Nat} (h : a < 1000) : zad B0 sp a = B0 + a := if_pos h
theorem zad_ge {B0 : Nat} {sp : Nat → Nat} {a : Nat} (h : ¬ a < 1000) : zad B0 sp a = sp a := if_neg h
theorem zG_cons_self {g : zSg} {a k b : Nat} : zG (g.1, ((a, k), b) :: g.2) a k = some b := by
  unfold zG
  simp
theorem zG_cons_ne {g : zSg} {a k b a' k' : Nat} (h : ¬ (a' = a ∧ k' = k)) : zG (g.1, ((a, k), b) :: g.2) a' k' = zG g a' k' := by
  unfold zG
  rw [List.lookup_cons]
  have : ((a', k') == (a, k)) = false := by
    rw [beq_eq_false_iff_ne]
    intro e
    cases e
    exact h ⟨rfl, rfl⟩
  rw [this]
theorem zFree_none {g : zSg} (h : zFree g = true) (k : Nat) : zG g g.1 k = none := by
  unfold zG
  cases hq : g.2.lookup (g.1, k) with
  | none => rfl
  | some b =>
    have hm := z_lk hq
    unfold zFree at h
    rw [Bool.and_eq_true] at h
    have h1 := List.all_eq_true.mp h.2 _ hm
    simp at h1
theorem zFree_lt {g : zSg} (h : zFree g = true) : g.1 < 1000 := by
  unfold zFree at h
  rw [Bool.and_eq_true, decide_eq_true_eq] at h
  exact h.1
theorem zBk_ne {h : zHp} {a b : Nat} (hb : b ≠ a) : (zBk h a).1 b = h.1 b ∧ (zBk h a).2.1 b = h.2.1 b ∧ (zBk h a).2.2 b = h.2.2 b := by
  refine ⟨?_, ?_, ?_⟩ <;> · funext y; simp [zBk, hb]
/-- the upper bound of the heap's size, out of the machine's own books -/
theorem W_size {p : Program} {l : Launch} {e : Env} {R : Room} {s : State} {m : MethodId} {args : Array Value} {below : List Frame} {meth : Method} {c : Code} {H : Heap} {locs : List Loc} {cells slots : Nat} {Q : State → Prop} {g : JFrame}
    (k : H.size ≤ s.heap.size + cells → W p l e R s m args below meth c H locs cells slots Q g) : W p l e R s m args below meth c H locs cells slots Q g := by
  intro T hT X
  exact k (by rw [← hT]; exact X.heapSize) T hT X
theorem z_size {D : va_G} {C : Nat → ClassId} {B0 : Nat} {sp : Nat → Nat} {g : zSg} {h : zHp} {s : State} {H : Heap} {locs : List Loc} {cells : Nat} (hg : g.1 ≤ 1000) (hP : va_P D zCl (zWo C (zad B0 sp) g h) H) (hS : va_S (zA B0) s.heap H locs) (hcl : s.heap.size + cells = B0 + g.1) (hB : B0 ≤ s.heap.size) (hu : H.size ≤ s.heap.size + cells) : H.size = B0 + g.1 := by
  have h1 := hS.1
  by_cases h0 : g.1 = 0
  · omega
  · have h2 := (hP (g.1 - 1) _ (zWo_get (by omega))).lt
    simp only [zad_lt (B0 := B0) (sp := sp) (show g.1 - 1 < 1000 by omega)] at h2
    omega
