/-! ===== the methods of Family: what they answer ===== -/
theorem iL {k n : Nat} {m : Int32} (hm : m = nI n) (h : k < n) (hn : n < 2 ^ 31) : nI k < m := by rw [hm]; exact nI_lt h hn
theorem iG {k n : Nat} {m : Int32} (hm : m = nI n) (h : n ≤ k) (hk : k < 2 ^ 31) : ¬ nI k < m := by rw [hm]; exact nI_nlt h hk
theorem z01t {α : Type} {a b : α} : (if (if true = true then (1 : Int32) else 0) = 0 then a else b) = b := rfl
theorem z01f {α : Type} {a b : α} : (if (if false = true then (1 : Int32) else 0) = 0 then a else b) = a := rfl
theorem X_has (sc : zSc) (d : Nat) (g : zSg) (h : zHp) {a k : Nat} (ha : a < 2 ^ 31) (hk : k < 31) : zRun sc d 11 [.int (nI a), .int (nI k)] g h = some (some (.int (if a.testBit k then 1 else 0)), g, h) := by
  rw [E_X_has, nI_bit ha hk]
  cases a.testBit k with
  | true => rw [z01t]; rfl
  | false => rw [z01f]; rfl
theorem Fa_having (sc : zSc) (d : Nat) (g : zSg) (h : zHp) (A : Nat → Bool) {f : Nat} (hf : f < 6) : zRun sc d 12 [.long (jF A), .int (nI f)] g h = some (some (.long (jF (fun s => A s && s.testBit f))), g, h) := by
  rw [E_Fa_having, if_neg (nI_pos (by omega)), if_pos (iL (m := 6) (n := 6) rfl hf (by decide)), if_pos (zin_nI hf (by decide)), nI_clamp (by omega), jF_W hf, jF_and]
theorem Fa_lacking (sc : zSc) (d : Nat) (g : zSg) (h : zHp) (A : Nat → Bool) {f : Nat} (hf : f < 6) : zRun sc d 13 [.long (jF A), .int (nI f)] g h = some (some (.long (jF (fun s => A s && !s.testBit f))), g, h) := by
  rw [E_Fa_lacking, if_neg (nI_pos (by omega)), if_pos (iL (m := 6) (n := 6) rfl hf (by decide)), if_pos (zin_nI hf (by decide)), nI_clamp (by omega), jF_W hf, jF_not, jF_and]
theorem Fa_holds (sc : zSc) (d : Nat) (g : zSg) (h : zHp) (A : Nat → Bool) {s : Nat} (hs : s < 64) : zRun sc d 14 [.long (jF A), .int (nI s)] g h = some (some (.int (if A s then 1 else 0)), g, h) := by
  rw [E_Fa_holds, jF_shr A hs, jF_and1]
  simp only [Nat.zero_add, hs, decide_true, Bool.and_true]
  cases A s <;> simp
def subN (a s : Nat) : Nat → Bool
  | 0 => true
  | k + 1 => subN a s k && (!a.testBit k || s.testBit k)
def disN (a s : Nat) : Nat → Bool
  | 0 => true
  | k + 1 => disN a s k && !(a.testBit k && s.testBit k)
theorem Fa_havingAll_l (sc : zSc) (d : Nat) (g : zSg) (h : zHp) (A : Nat → Bool) {a : Nat} (ha : a < 64) : ∀ n k, k + n = 6 → zE sc (d + 1) 10 5 [none, none, some (.int (nI a)), some (.long (jF (fun s => A s && subN a s k))), none, some (.int (nI k))] [] g h = some (some (.long (jF (fun s => A s && subN a s 6))), g, h) := by
  intro n
  induction n with
  | zero =>
    intro k hk
    have : k = 6 := by omega
    subst this
    rw [E_Fa_havingAll_5, if_neg (iG (m := 6) (n := 6) rfl (by decide) (by decide))]
  | succ n ih =>
    intro k hk
    have hn := ih (k + 1) (by omega)
    rw [E_Fa_havingAll_5, if_pos (iL (m := 6) (n := 6) rfl (by omega) (by decide)), X_has sc d g h (by omega) (by omega), zBi_some]
    cases hb : a.testBit k with
    | false =>
      rw [z01f, nI_1, ← hn]
      congr 6
      simp [subN, hb]
    | true =>
      rw [z01t, Fa_having sc d g h _ (by omega), zBj_some, nI_1, ← hn]
      congr 6
      refine congrArg _ (jF_ext ?_)
      intro s _
      simp [subN, hb, Bool.and_assoc]
theorem Fa_havingAll (sc : zSc) (d : Nat) (g : zSg) (h : zHp) (A : Nat → Bool) {a : Nat} (ha : a < 64) : zRun sc (d + 1) 10 [.long (jF A), .int (nI a)] g h = some (some (.long (jF (fun s => A s && subN a s 6))), g, h) := by
  rw [E_Fa_havingAll]
  have := Fa_havingAll_l sc d g h A ha 6 0 (by decide)
  rw [← this]
  congr 6
  refine congrArg _ (jF_ext ?_)
  intro s _
  simp [subN]
theorem Fa_havingNone_l (sc : zSc) (d : Nat) (g : zSg) (h : zHp) (A : Nat → Bool) {a : Nat} (ha : a < 64) : ∀ n k, k + n = 6 → zE sc (d + 1) 85 5 [none, none, some (.int (nI a)), some (.long (jF (fun s => A s && disN a s k))), none, some (.int (nI k))] [] g h = some (some (.long (jF (fun s => A s && disN a s 6))), g, h) := by
  intro n
  induction n with
  | zero =>
    intro k hk
    have : k = 6 := by omega
    subst this
    rw [E_Fa_havingNone_5, if_neg (iG (m := 6) (n := 6) rfl (by decide) (by decide))]
  | succ n ih =>
    intro k hk
    have hn := ih (k + 1) (by omega)
    rw [E_Fa_havingNone_5, if_pos (iL (m := 6) (n := 6) rfl (by omega) (by decide)), X_has sc d g h (by omega) (by omega), zBi_some]
    cases hb : a.testBit k with
    | false =>
      rw [z01f, nI_1, ← hn]
      congr 6
      simp [disN, hb]
    | true =>
      rw [z01t, Fa_lacking sc d g h _ (by omega), zBj_some, nI_1, ← hn]
      congr 6
      refine congrArg _ (jF_ext ?_)
      intro s _
      simp [disN, hb, Bool.and_assoc]
theorem Fa_havingNone (sc : zSc) (d : Nat) (g : zSg) (h : zHp) (A : Nat → Bool) {a : Nat} (ha : a < 64) : zRun sc (d + 1) 85 [.long (jF A), .int (nI a)] g h = some (some (.long (jF (fun s => A s && disN a s 6))), g, h) := by
  rw [E_Fa_havingNone]
  have := Fa_havingNone_l sc d g h A ha 6 0 (by decide)
  rw [← this]
  congr 6
  refine congrArg _ (jF_ext ?_)
  intro s _
  simp [disN]
/-- f put to each set of a family -/
def putF (A : Nat → Bool) (f s : Nat) : Bool := s.testBit f && (A s || A (s - 2 ^ f))
theorem put_bit {s f : Nat} (h : 2 ^ f ≤ s) (h2 : (s - 2 ^ f).testBit f = false) : s.testBit f = true := by
  have h3 : s = 2 ^ f + (s - 2 ^ f) := by omega
  rw [h3, Nat.testBit_two_pow_add_eq, h2]
  rfl
theorem put_ge {s f : Nat} (h : s.testBit f = true) : 2 ^ f ≤ s := Nat.ge_two_pow_of_testBit h
theorem put_not {s f : Nat} (h : s.testBit f = true) : (s - 2 ^ f).testBit f = false := by
  have h1 := put_ge h
  have h3 : s = 2 ^ f + (s - 2 ^ f) := by omega
  rw [h3, Nat.testBit_two_pow_add_eq] at h
  simpa using h
theorem Fa_put (sc : zSc) (d : Nat) (g : zSg) (h : zHp) (A : Nat → Bool) {f : Nat} (hf : f < 6) : zRun sc (d + 1) 81 [.long (jF A), .int (nI f)] g h = some (some (.long (jF (putF A f))), g, h) := by
  have h2 : 2 ^ f < 64 := Nat.pow_lt_pow_right (by decide) hf
  rw [E_Fa_put, Fa_having sc d g h A hf, zBj_some, Fa_lacking sc d g h A hf, zBj_some, nI_shl1 (by omega), jF_shl _ h2, jF_or]
  congr 4
  apply jF_ext
  intro s hs
  unfold putF
  cases hb : s.testBit f with
  | true =>
    have h3 := put_ge hb
    simp [h3, put_not hb]
  | false =>
    by_cases h3 : 2 ^ f ≤ s
    · cases h4 : (s - 2 ^ f).testBit f with
      | true => simp
      | false => rw [put_bit h3 h4] at hb; cases hb
    · simp [h3]
/-- in all sets of a family, in none, is there a set at all -/
def allB (A : Nat → Bool) (f : Nat) : Bool := (List.range 64).all (fun s => !A s || s.testBit f)
def nonB (A : Nat → Bool) (f : Nat) : Bool := (List.range 64).all (fun s => !(A s && s.testBit f))
def empB (A : Nat → Bool) : Bool := (List.range 64).all (fun s => !A s)
theorem jF_emp (A : Nat → Bool) : jF A = 0 ↔ empB A = true := by
  rw [jF_eq0]
  unfold empB
  rw [List.all_eq_true]
  constructor
  · intro h s hs
    rw [h s (List.mem_range.mp hs)]
    rfl
  · intro h s hs
    have := h s (List.mem_range.mpr hs)
    simpa using this
theorem allB_iff (A : Nat → Bool) (f : Nat) : jF (fun s => A s && !s.testBit f) = 0 ↔ allB A f = true := by
  rw [jF_emp]
  unfold empB allB
  simp only [Bool.not_and, Bool.not_not]
theorem nonB_iff (A : Nat → Bool) (f : Nat) : jF (fun s => A s && s.testBit f) = 0 ↔ nonB A f = true := by
  rw [jF_emp]
  rfl
theorem jN_step (A : Nat → Bool) (k : Nat) : jN A k ||| 2 ^ k = jN A k + 2 ^ k := by
  rw [Nat.add_comm, Nat.or_comm]
  exact (Nat.two_pow_add_eq_or_of_lt (jN_lt A k) 1 |> fun h => by simpa using h.symm)
def sureK (A : Nat → Bool) (F : Nat) : Nat := if empB A then 0 else jN (allB A) F
def sureN (A : Nat → Bool) (F : Nat) : Nat := if empB A then 0 else jN (nonB A) F
theorem jN_succ_t {A : Nat → Bool} {k : Nat} (h : A k = true) : jN A k ||| 2 ^ k = jN A (k + 1) := by
  rw [jN_step]
  simp [jN, h]
theorem jN_succ_f {A : Nat → Bool} {k : Nat} (h : A k = false) : jN A k = jN A (k + 1) := by
  simp [jN, h]
theorem Fa_inAll_l (sc : zSc) (d : Nat) (g : zSg) (h : zHp) (A : Nat → Bool) {F : Nat} (hF : F ≤ 6) (he : empB A = false) : ∀ n k, k + n = F → zE sc (d + 1) 66 5 [some (.long (jF A)), none, some (.int (nI F)), some (.int (nI (jN (allB A) k))), some (.int (nI k))] [] g h = some (some (.int (nI (jN (allB A) F))), g, h) := by
  have hne : ¬ jF A = 0 := fun z => by rw [(jF_emp A).mp z] at he; cases he
  intro n
  induction n with
  | zero =>
    intro k hk
    have : k = F := by omega
    subst this
    rw [E_Fa_inAll_5, if_neg (nI_nlt (Nat.le_refl k) (by omega))]
  | succ n ih =>
    intro k hk
    have hn := ih (k + 1) (by omega)
    rw [E_Fa_inAll_5, if_pos (nI_lt (by omega) (by omega)), if_neg hne, Fa_lacking sc d g h _ (by omega), zBj_some]
    cases hb : allB A k with
    | true => rw [if_pos ((allB_iff A k).mpr hb), nI_shl1 (by omega), nI_or, jN_succ_t hb, nI_1, hn]
    | false =>
      rw [if_neg (fun z => by rw [(allB_iff A k).mp z] at hb; cases hb), nI_1]
      rw [← jN_succ_f hb] at hn
      exact hn
theorem Fa_inAll (sc : zSc) (d : Nat) (g : zSg) (h : zHp) (A : Nat → Bool) {F : Nat} (hF : F ≤ 6) : zRun sc (d + 1) 66 [.long (jF A), .int (nI F)] g h = some (some (.int (nI (sureK A F))), g, h) := by
  rw [E_Fa_inAll]
  unfold sureK
  cases he : empB A with
  | false => exact Fa_inAll_l sc d g h A hF he F 0 (by omega)
  | true =>
    rw [E_Fa_inAll_5, if_pos ((jF_emp A).mpr he)]
    split <;> rfl
theorem Fa_inNone_l (sc : zSc) (d : Nat) (g : zSg) (h : zHp) (A : Nat → Bool) {F : Nat} (hF : F ≤ 6) (he : empB A = false) : ∀ n k, k + n = F → zE sc (d + 1) 57 5 [some (.long (jF A)), none, some (.int (nI F)), some (.int (nI (jN (nonB A) k))), some (.int (nI k))] [] g h = some (some (.int (nI (jN (nonB A) F))), g, h) := by
  have hne : ¬ jF A = 0 := fun z => by rw [(jF_emp A).mp z] at he; cases he
  intro n
  induction n with
  | zero =>
    intro k hk
    have : k = F := by omega
    subst this
    rw [E_Fa_inNone_5, if_neg (nI_nlt (Nat.le_refl k) (by omega))]
  | succ n ih =>
    intro k hk
    have hn := ih (k + 1) (by omega)
    rw [E_Fa_inNone_5, if_pos (nI_lt (by omega) (by omega)), if_neg hne, Fa_having sc d g h _ (by omega), zBj_some]
    cases hb : nonB A k with
    | true => rw [if_pos ((nonB_iff A k).mpr hb), nI_shl1 (by omega), nI_or, jN_succ_t hb, nI_1, hn]
    | false =>
      rw [if_neg (fun z => by rw [(nonB_iff A k).mp z] at hb; cases hb), nI_1]
      rw [← jN_succ_f hb] at hn
      exact hn
theorem Fa_inNone (sc : zSc) (d : Nat) (g : zSg) (h : zHp) (A : Nat → Bool) {F : Nat} (hF : F ≤ 6) : zRun sc (d + 1) 57 [.long (jF A), .int (nI F)] g h = some (some (.int (nI (sureN A F))), g, h) := by
  rw [E_Fa_inNone]
  unfold sureN
  cases he : empB A with
  | false => exact Fa_inNone_l sc d g h A hF he F 0 (by omega)
  | true =>
    rw [E_Fa_inNone_5, if_pos ((jF_emp A).mpr he)]
    split <;> rfl
/-- the i-th set of a family, by rising numbers, from s on, n sets to look at -/
def pickN (A : Nat → Bool) (i : Int32) : Nat → Nat → Int32 → Int32
  | 0, _, _ => -1
  | n + 1, s, c => if A s then (if c = i then nI s else pickN A i n (s + 1) (c + 1)) else pickN A i n (s + 1) c
theorem Fa_countOrSet_l (sc : zSc) (d : Nat) (g : zSg) (h : zHp) (A : Nat → Bool) (i : Int32) : ∀ n s c, s + n = 64 → zE sc (d + 1) 63 15 [some (.long (jF A)), none, some (.int i), some (.int c), some (.int (nI s))] [] g h = some (some (.int (pickN A i n s c)), g, h) := by
  intro n
  induction n with
  | zero =>
    intro s c hs
    rw [E_Fa_countOrSet_15, if_neg (iG (m := 64) (n := 64) rfl (by omega) (by omega))]
    rfl
  | succ n ih =>
    intro s c hs
    rw [E_Fa_countOrSet_15, if_pos (iL (m := 64) (n := 64) rfl (by omega) (by decide)), Fa_holds sc d g h A (by omega), zBi_some]
    unfold pickN
    cases hA : A s with
    | false => rw [z01f, nI_1, ih (s + 1) c (by omega), if_neg (by decide)]
    | true =>
      rw [z01t, if_pos rfl]
      by_cases hc : c = i
      · rw [if_pos hc, if_pos hc]
      · rw [if_neg hc, if_neg hc, nI_1, ih (s + 1) (c + 1) (by omega)]
theorem Fa_countOrSet (sc : zSc) (d : Nat) (g : zSg) (h : zHp) (A : Nat → Bool) (i : Int32) : zRun sc (d + 1) 63 [.long (jF A), .int i] g h = some (some (.int (if i = -1 then nI (cN A 64) else pickN A i 64 0 0)), g, h) := by
  rw [E_Fa_countOrSet]
  by_cases hi : i = -1
  · rw [if_pos hi, if_pos hi, JL_bc, zBi_some]
  · rw [if_neg hi, if_neg hi]
    exact Fa_countOrSet_l sc d g h A i 64 0 0 (by decide)
