/-! ===== the reference: the same words ===== -/
def MoT (h : zHp) (T : TT) : Prop := h.1 46 0 = nI T.F ∧ h.1 46 3 = nI T.P ∧ h.1 46 5 = nI T.C ∧ ∀ f, f < T.F → h.1 47 f = nI (T.w f) ∧ h.1 48 f = nI (T.fo f)
def MoC (h : zHp) (T : TT) : Prop := (∀ s, s < 2 ^ T.F → h.1 50 s = nI (clN T.fo s T.F)) ∧ h.2.1 46 7 = jF (clB T)
def MoK (h : zHp) (T : TT) (K : KK) : Prop := (∀ p, p < T.P → h.1 51 p = nI (K.kn p) ∧ h.1 52 p = nI (K.ht p) ∧ h.1 54 p = K.ins p) ∧ (∀ p q, p < T.P → q < T.P → p ≠ q → h.2.1 53 (5 * p + q) = jF (K.V p q)) ∧ (∀ i, i < 5 * K.L → h.1 55 i = K.lg i) ∧ h.1 46 12 = nI K.L ∧ h.1 46 14 = K.sd
/-- within the sets of F facts -/
def inF (F : Nat) (A : Nat → Bool) : Prop := ∀ s, A s = true → s < 2 ^ F
theorem inF_f {F : Nat} {A : Nat → Bool} (i : inF F A) {s : Nat} (h : 2 ^ F ≤ s) : A s = false := by
  cases hb : A s with
  | false => rfl
  | true => have := i s hb; omega
theorem jF_t {α : Type} (A : Nat → Bool) {k : Nat} (hk : k < 64) (x y : α) : (if ((jF A >>> ((nI k).toInt64 &&& 63)) &&& 1) = 1 then x else y) = bif A k then x else y := by
  rw [jF_sar A hk]
  cases A k <;> simp
theorem i_or0 (x : Int32) : x ||| 0 = x := Int32.or_zero
theorem j_or0 (x : Int64) : x ||| 0 = x := Int64.or_zero
theorem i_andm (x : Int32) : x &&& -1 = x := Int32.and_neg_one
theorem j_andm (x : Int64) : x &&& -1 = x := Int64.and_neg_one
theorem sh_F {F : Nat} (hF : F ≤ 6) : (1 : Int32) <<< (nI F &&& 31) = nI (2 ^ F) := nI_shl1 (by omega)
theorem Mo_has (sc : zSc) (d : Nat) (h : zHp) {a k : Nat} (ha : a < 2 ^ 31) (hk : k < 31) : zRun sc d 129 [.int (nI a), .int (nI k)] zGL h = some (some (.int (bI (a.testBit k))), zGL, h) := by
  rw [E_Mo_has, nI_bit ha hk]
  cases a.testBit k <;> rfl
theorem Mo_hatOf (sc : zSc) (d : Nat) (h : zHp) {T : TT} (O : TOK T) (D : MoT h T) {s m : Nat} (hs : s < 64) (hm : 0 < m) (hm2 : m < 2 ^ 31) : zRun sc (d + 1) 128 [.ref 46, .int (nI s), .int (nI m)] zGL h = some (some (.int (nI (wtN T.w s T.F % m))), zGL, h) := by
  have hle := wt_b O s
  have hF6 := O.1
  rw [E_Mo_hatOf]
  refine (zUp (fun k => zE sc (d + 1) 128 5 [some (.ref 46), some (.int (nI s)), some (.int (nI m)), some (.int (nI (wtN T.w s k))), some (.int (nI k))] [] zGL h) T.F (fun k hk => ?_)).trans ?_
  · rw [E_Mo_hatOf_5, D.1, if_pos (nI_lt hk (by omega)), Mo_has sc d h (by omega) (by omega), zBi_some, bI_c]
    cases hb : s.testBit k with
    | false => rw [cond_false, Int32.add_zero, nI_1, show wtN T.w s (k + 1) = wtN T.w s k by simp [wtN, hb]]
    | true => rw [cond_true, if_pos (zin_nI (by omega) (by decide)), nI_clamp (by omega), (D.2.2.2 k hk).1, nI_add, nI_1, show wtN T.w s (k + 1) = wtN T.w s k + T.w k by simp [wtN, hb]]
  · rw [E_Mo_hatOf_5, D.1, if_neg (nI_nlt (Nat.le_refl _) (by omega)), if_neg (nI_ne0 hm hm2), pk_rem (by omega) hm hm2]
theorem fam_step {A : Nat → Bool} {k s : Nat} (hs : s ≠ k) : (decide (s < k + 1) && A s) = (decide (s < k) && A s) := by
  rw [show decide (s < k + 1) = decide (s < k) by apply decide_eq_decide.mpr; omega]
theorem fam_t {A : Nat → Bool} {k : Nat} (h : A k = true) : jF (fun s => (decide (s < k) && A s) || s == k) = jF (fun s => decide (s < k + 1) && A s) := by
  apply jF_ext
  intro s _
  by_cases hs : s = k
  · subst hs; simp [h]
  · rw [fam_step hs]; simp [hs]
theorem fam_f {A : Nat → Bool} {k : Nat} (h : A k = false) : jF (fun s => decide (s < k) && A s) = jF (fun s => decide (s < k + 1) && A s) := by
  apply jF_ext
  intro s _
  by_cases hs : s = k
  · subst hs; simp [h]
  · rw [fam_step hs]
theorem fam_0 (A : Nat → Bool) : jF (fun s => decide (s < 0) && A s) = 0 := by
  rw [jF_0]
  apply jF_ext
  intro s _
  simp
theorem fam_F {A : Nat → Bool} {F : Nat} (i : inF F A) : jF (fun s => decide (s < 2 ^ F) && A s) = jF A := by
  apply jF_ext
  intro s _
  by_cases hs : s < 2 ^ F
  · simp [hs]
  · simp [hs, inF_f i (show 2 ^ F ≤ s by omega)]
/-- the sets with a hat, an int as it may stand -/
def whB (T : TT) (v : Int32) (s : Nat) : Bool := clB T s && decide (nI (wtN T.w s T.F % T.C) = v)
theorem whB_in (T : TT) (v : Int32) : inF T.F (whB T v) := fun s h => by
  unfold whB at h
  rw [Bool.and_eq_true] at h
  exact clB_lt h.1
theorem weB_in (T : TT) (v : Nat) : inF T.F (weB T v) := fun s h => by
  unfold weB at h
  rw [Bool.and_eq_true] at h
  exact clB_lt h.1
theorem whB_we {T : TT} (O : TOK T) {v : Nat} (hv : v < 99) : whB T (nI v) = weB T v := by
  funext s
  have : wtN T.w s T.F % T.C < 99 := Nat.lt_of_lt_of_le (Nat.mod_lt _ (by have := O.2.2.1; omega)) O.2.2.2.1
  unfold whB weB
  congr 1
  apply bool_ext
  rw [decide_eq_true_eq, beq_iff_eq]
  exact nI_eq (by omega) (by omega)
theorem Mo_withHat (sc : zSc) (d : Nat) (h : zHp) {T : TT} (O : TOK T) (D : MoT h T) (C : MoC h T) (v : Int32) : zRun sc (d + 2) 130 [.ref 46, .int v] zGL h = some (some (.long (jF (whB T v))), zGL, h) := by
  have hp := p2_le O.1
  have hC2 := O.2.2.1
  have hC9 := O.2.2.2.1
  rw [E_Mo_withHat, ← fam_0 (whB T v)]
  refine (zUp (fun k => zE sc (d + 2) 130 5 [some (.ref 46), some (.int v), some (.long (jF (fun s => decide (s < k) && whB T v s))), none, some (.int (nI k))] [] zGL h) (2 ^ T.F) (fun k hk => ?_)).trans ?_
  · rw [E_Mo_withHat_5, D.1, sh_F O.1, if_pos (nI_lt hk (by omega)), C.2, jF_t _ (by omega)]
    cases hb : clB T k with
    | false => rw [cond_false, j_or0, nI_1, fam_f (by simp [whB, hb])]
    | true =>
      rw [cond_true, D.2.2.1, Mo_hatOf sc d h O D (by omega) (by omega) (by omega), zBi_some]
      by_cases hv : nI (wtN T.w k T.F % T.C) = v
      · rw [if_pos hv, nI_1, jF_bit1 (by omega), jF_or, fam_t (by simp [whB, hb, hv])]
      · rw [if_neg hv, nI_1, j_or0, fam_f (by simp [whB, hv])]
  · rw [E_Mo_withHat_5, D.1, sh_F O.1, if_neg (nI_nlt (Nat.le_refl _) (by omega)), fam_F (whB_in T v)]
theorem Mo_bits (sc : zSc) (d : Nat) (h : zHp) (A : Nat → Bool) : zRun sc d 146 [.long (jF A)] zGL h = some (some (.int (nI (cN A 64))), zGL, h) := by
  rw [E_Mo_bits]
  refine (zUp (fun k => zE sc d 146 4 [some (.long (jF A)), none, some (.int (nI (cN A k))), some (.int (nI k))] [] zGL h) 64 (fun k hk => ?_)).trans ?_
  · rw [E_Mo_bits_4, if_pos (iL (m := 64) (n := 64) rfl hk (by decide)), jF_sar A hk, nI_1]
    cases hb : A k with
    | false => rw [show cN A (k + 1) = cN A k by simp [cN, hb]]; rw [if_neg (by decide), show (0 : Int64).toInt32 = 0 from rfl, Int32.add_zero]
    | true => rw [show cN A (k + 1) = cN A k + 1 by simp [cN, hb]]; rw [if_pos rfl, show (1 : Int64).toInt32 = 1 from rfl, nI_1]
  · rw [E_Mo_bits_4, if_neg (iG (m := 64) (n := 64) rfl (Nat.le_refl _) (by decide))]
/-- is an int one of the first n numbers -/
def isI (v : Int32) (n : Nat) : Bool := decide (¬ v < 0 ∧ v < nI n)
theorem isI_of {v : Int32} {n : Nat} (hn : n < 2 ^ 31) (h : isI v n = true) : ∃ k, k < n ∧ v = nI k := by
  unfold isI at h
  rw [decide_eq_true_eq] at h
  obtain ⟨j, hj, rfl⟩ := nI_of h.1
  exact ⟨j, (nI_ltI hj hn).mp h.2, rfl⟩
theorem isI_n {n k : Nat} (hn : n < 2 ^ 31) (hk : k < n) : isI (nI k) n = true := by
  unfold isI
  rw [decide_eq_true_eq]
  exact ⟨nI_pos (by omega), nI_lt hk hn⟩
theorem nI_m1 {n : Nat} (hn : n < 2 ^ 31) : (nI n - 1).toInt = (n : Int) - 1 := by
  cases n with
  | zero => rfl
  | succ n => rw [nI_pred, nI_toInt (by omega)]; omega
theorem Mo_in (sc : zSc) (d : Nat) (h : zHp) (v : Int32) {n : Nat} (hn : n < 2 ^ 31) : zRun sc d 132 [.long v.toInt64, .long 0, .long ((nI n - 1).toInt64)] zGL h = some (some (.int (bI (isI v n))), zGL, h) := by
  rw [E_Mo_in]
  have e1 : v.toInt64 < 0 ↔ v < 0 := by
    rw [Int64.lt_iff_toInt_lt, Int32.lt_iff_toInt_lt, Int32.toInt_toInt64]
    rfl
  have e2 : (nI n - 1).toInt64 < v.toInt64 ↔ ¬ v < nI n := by
    rw [Int64.lt_iff_toInt_lt, Int32.lt_iff_toInt_lt, Int32.toInt_toInt64, Int32.toInt_toInt64, nI_m1 hn, nI_toInt hn]
    omega
  unfold isI
  by_cases h1 : v < 0
  · rw [if_pos (e1.mpr h1)]
    simp [h1, bI]
  · rw [if_neg (fun z => h1 (e1.mp z))]
    by_cases h2 : v < nI n
    · rw [if_neg (fun z => e2.mp z h2)]
      simp [h1, h2, bI]
    · rw [if_pos (e2.mpr h2)]
      simp [h2, bI]
theorem bI_01 (b : Bool) : bI b = 0 ∨ bI b = 1 := by cases b <;> simp [bI]
theorem Mo_isFact (sc : zSc) (d : Nat) (h : zHp) {T : TT} (O : TOK T) (D : MoT h T) (v : Int32) : zRun sc (d + 1) 148 [.ref 46, .int v] zGL h = some (some (.int (bI (isI v T.F))), zGL, h) := by
  have := O.1
  rw [E_Mo_isFact, D.1, Mo_in sc d h v (by omega), zBi_some, if_pos (bI_01 _)]
theorem Mo_isPerson (sc : zSc) (d : Nat) (h : zHp) {T : TT} (O : TOK T) (D : MoT h T) (v : Int32) : zRun sc (d + 1) 151 [.ref 46, .int v] zGL h = some (some (.int (bI (isI v T.P))), zGL, h) := by
  have := O.2.1
  rw [E_Mo_isPerson, D.2.1, Mo_in sc d h v (by omega), zBi_some, if_pos (bI_01 _)]
theorem Mo_isSet (sc : zSc) (d : Nat) (h : zHp) {T : TT} (O : TOK T) (D : MoT h T) (v : Int32) : zRun sc (d + 1) 155 [.ref 46, .int v] zGL h = some (some (.int (bI (isI v (2 ^ T.F)))), zGL, h) := by
  have := p2_le O.1
  rw [E_Mo_isSet, D.1, sh_F O.1, Mo_in sc d h v (by omega), zBi_some, if_pos (bI_01 _)]
def twoB (T : TT) (v w : Int32) : Bool := isI v T.P && isI w T.P && decide (v ≠ w)
theorem Mo_areTwo (sc : zSc) (d : Nat) (h : zHp) {T : TT} (O : TOK T) (D : MoT h T) (v w : Int32) : zRun sc (d + 2) 157 [.ref 46, .int v, .int w] zGL h = some (some (.int (bI (twoB T v w))), zGL, h) := by
  rw [E_Mo_areTwo, Mo_isPerson sc d h O D, zBi_some, bI_c]
  unfold twoB
  cases isI v T.P with
  | false => rfl
  | true =>
    rw [cond_true, Mo_isPerson sc d h O D, zBi_some, bI_c]
    cases isI w T.P with
    | false => rfl
    | true =>
      rw [cond_true]
      by_cases hv : v = w
      · rw [if_pos hv]; simp [hv, bI]
      · rw [if_neg hv]; simp [hv, bI]
theorem twoB_of {T : TT} (O : TOK T) {v w : Int32} (h : twoB T v w = true) : ∃ p q, p < T.P ∧ q < T.P ∧ p ≠ q ∧ v = nI p ∧ w = nI q := by
  have := O.2.1
  unfold twoB at h
  simp only [Bool.and_eq_true, decide_eq_true_eq] at h
  obtain ⟨p, hp, rfl⟩ := isI_of (by omega) h.1.1
  obtain ⟨q, hq, rfl⟩ := isI_of (by omega) h.1.2
  exact ⟨p, q, hp, hq, fun z => h.2 (by rw [z]), rfl, rfl⟩
theorem Mo_knowers (sc : zSc) (d : Nat) (h : zHp) {T : TT} {K : KK} (O : TOK T) (D : MoT h T) (R : MoK h T K) (kk : KOK T K) {f : Nat} (hf : f < 6) : zRun sc (d + 1) 149 [.ref 46, .int (nI f)] zGL h = some (some (.int (nI (jN (fun p => (K.kn p).testBit f) T.P))), zGL, h) := by
  have hP5 := O.2.1
  rw [E_Mo_knowers]
  refine (zUp (fun k => zE sc (d + 1) 149 4 [some (.ref 46), some (.int (nI f)), some (.int (nI (jN (fun p => (K.kn p).testBit f) k))), some (.int (nI k))] [] zGL h) T.P (fun k hk => ?_)).trans ?_
  · have hkn := KOK_kn O kk hk
    rw [E_Mo_knowers_4, D.2.1, if_pos (nI_lt hk (by omega)), if_pos (zin_nI (by omega) (by decide)), nI_clamp (by omega), (R.1 k hk).1, Mo_has sc d h (by omega) (by omega), zBi_some, bI_c]
    cases hb : (K.kn k).testBit f with
    | false => rw [cond_false, i_or0, nI_1, ← jN_succ_f (A := fun p => (K.kn p).testBit f) hb]
    | true => rw [cond_true, nI_shl1 (by omega), nI_or, nI_1, jN_succ_t (A := fun p => (K.kn p).testBit f) hb]
  · rw [E_Mo_knowers_4, D.2.1, if_neg (nI_nlt (Nat.le_refl _) (by omega))]
/-- all that is in some of the first k sets of a family -/
def unN (A : Nat → Bool) : Nat → Nat
  | 0 => 0
  | k + 1 => if A k then unN A k ||| k else unN A k
theorem unN_lt {A : Nat → Bool} {F : Nat} : ∀ {k : Nat}, k ≤ 2 ^ F → unN A k < 2 ^ F
  | 0, _ => Nat.two_pow_pos F
  | k + 1, h => by
    have := unN_lt (A := A) (F := F) (k := k) (by omega)
    unfold unN
    split
    · exact Nat.or_lt_two_pow this (by omega)
    · exact this
theorem unN_bit {A : Nat → Bool} {f : Nat} : ∀ {k : Nat}, (unN A k).testBit f = true ↔ ∃ s, s < k ∧ A s = true ∧ s.testBit f = true
  | 0 => by simp [unN]
  | k + 1 => by
    have ih := unN_bit (A := A) (f := f) (k := k)
    unfold unN
    constructor
    · intro h
      split at h
      · rename_i hA
        rw [Nat.testBit_or, Bool.or_eq_true] at h
        rcases h with h | h
        · obtain ⟨s, h1, h2⟩ := ih.mp h
          exact ⟨s, by omega, h2⟩
        · exact ⟨k, by omega, hA, h⟩
      · obtain ⟨s, h1, h2⟩ := ih.mp h
        exact ⟨s, by omega, h2⟩
    · rintro ⟨s, h1, h2, h3⟩
      by_cases hs : s = k
      · subst hs
        rw [if_pos h2, Nat.testBit_or, h3, Bool.or_true]
      · have := ih.mpr ⟨s, by omega, h2, h3⟩
        split
        · rw [Nat.testBit_or, this, Bool.true_or]
        · exact this
theorem nonB_t {A : Nat → Bool} {f : Nat} : nonB A f = true ↔ ∀ s, s < 64 → A s = true → s.testBit f = false := by
  unfold nonB
  rw [List.all_eq_true]
  constructor
  · intro h s hs hA
    have := h s (List.mem_range.mpr hs)
    simpa [hA] using this
  · intro h s hs
    have := h s (List.mem_range.mp hs)
    cases hA : A s with
    | false => rfl
    | true => simp [this hA]
theorem allB_t {A : Nat → Bool} {f : Nat} : allB A f = true ↔ ∀ s, s < 64 → A s = true → s.testBit f = true := by
  unfold allB
  rw [List.all_eq_true]
  constructor
  · intro h s hs hA
    have := h s (List.mem_range.mpr hs)
    simpa [hA] using this
  · intro h s hs
    have := h s (List.mem_range.mp hs)
    cases hA : A s with
    | false => rfl
    | true => simp [this hA]
theorem two_m1 {F f : Nat} : (2 ^ F - 1).testBit f = decide (f < F) := Nat.testBit_two_pow_sub_one F f
theorem none_eq {A : Nat → Bool} {F : Nat} (hF : F ≤ 6) (i : inF F A) : anN (2 ^ F - 1) (unN A (2 ^ F)) = jN (nonB A) F := by
  have hp := p2_le hF
  have hp1 := Nat.two_pow_pos F
  apply Nat.eq_of_testBit_eq
  intro f
  rw [anN_bit (by omega), two_m1, jN_bit]
  congr 1
  apply bool_ext
  rw [nonB_t, Bool.not_eq_true']
  constructor
  · intro h s hs hA
    cases hb : s.testBit f with
    | false => rfl
    | true => rw [unN_bit.mpr ⟨s, i s hA, hA, hb⟩] at h; cases h
  · intro h
    cases hb : (unN A (2 ^ F)).testBit f with
    | false => rfl
    | true =>
      obtain ⟨s, h1, h2, h3⟩ := unN_bit.mp hb
      rw [h s (by omega) h2] at h3
      cases h3
theorem Mo_inNone (sc : zSc) (d : Nat) (h : zHp) {T : TT} (O : TOK T) (D : MoT h T) {A : Nat → Bool} (i : inF T.F A) : zRun sc d 153 [.ref 46, .long (jF A)] zGL h = some (some (.int (nI (jN (nonB A) T.F))), zGL, h) := by
  have hp := p2_le O.1
  have hp1 := Nat.two_pow_pos T.F
  rw [E_Mo_inNone]
  refine (zUp (fun k => zE sc d 153 5 [some (.ref 46), some (.long (jF A)), none, some (.int (nI (unN A k))), some (.int (nI k))] [] zGL h) (2 ^ T.F) (fun k hk => ?_)).trans ?_
  · rw [E_Mo_inNone_5, D.1, sh_F O.1, if_pos (nI_lt hk (by omega)), jF_t _ (by omega)]
    cases hb : A k with
    | false => rw [cond_false, i_or0, nI_1, show unN A (k + 1) = unN A k by simp [unN, hb]]
    | true => rw [cond_true, nI_or, nI_1, show unN A (k + 1) = unN A k ||| k by simp [unN, hb]]
  · have hu := unN_lt (A := A) (F := T.F) (Nat.le_refl _)
    have := none_eq O.1 i
    unfold anN at this
    rw [E_Mo_inNone_5, D.1, sh_F O.1, if_neg (nI_nlt (Nat.le_refl _) (by omega)), show nI (2 ^ T.F) - 1 = nI (2 ^ T.F - 1) from nI_sub (b := 1) hp1, nI_andn (by omega) (by omega), this]
def alK (A : Nat → Bool) (F : Nat) : Nat → Nat
  | 0 => 2 ^ F - 1
  | k + 1 => if A k then alK A F k &&& k else alK A F k
theorem alK_bit {A : Nat → Bool} {F f : Nat} : ∀ {k : Nat}, (alK A F k).testBit f = true ↔ f < F ∧ ∀ s, s < k → A s = true → s.testBit f = true
  | 0 => by unfold alK; rw [two_m1]; simp
  | k + 1 => by
    have ih := alK_bit (A := A) (F := F) (f := f) (k := k)
    unfold alK
    constructor
    · intro h
      split at h
      · rename_i hA
        rw [Nat.testBit_and, Bool.and_eq_true] at h
        have h1 := ih.mp h.1
        refine ⟨h1.1, fun s hs hA2 => ?_⟩
        by_cases hk : s = k
        · rw [hk]; exact h.2
        · exact h1.2 s (by omega) hA2
      · rename_i hA
        have h1 := ih.mp h
        refine ⟨h1.1, fun s hs hA2 => ?_⟩
        by_cases hk : s = k
        · rw [hk] at hA2; exact absurd hA2 hA
        · exact h1.2 s (by omega) hA2
    · rintro ⟨h1, h2⟩
      have h3 := ih.mpr ⟨h1, fun s hs => h2 s (by omega)⟩
      split
      · rename_i hA
        rw [Nat.testBit_and, h3, h2 k (by omega) hA]
        rfl
      · exact h3
theorem all_eq {A : Nat → Bool} {F : Nat} (hF : F ≤ 6) (i : inF F A) : alK A F (2 ^ F) = jN (allB A) F := by
  have hp := p2_le hF
  apply Nat.eq_of_testBit_eq
  intro f
  apply bool_ext
  rw [alK_bit, jN_bit, Bool.and_eq_true, decide_eq_true_eq, allB_t]
  constructor
  · rintro ⟨h1, h2⟩
    exact ⟨h1, fun s _ hA => h2 s (i s hA) hA⟩
  · rintro ⟨h1, h2⟩
    exact ⟨h1, fun s hs hA => h2 s (by omega) hA⟩
theorem Mo_inAll (sc : zSc) (d : Nat) (h : zHp) {T : TT} (O : TOK T) (D : MoT h T) {A : Nat → Bool} (i : inF T.F A) : zRun sc d 161 [.ref 46, .long (jF A)] zGL h = some (some (.int (nI (jN (allB A) T.F))), zGL, h) := by
  have hp := p2_le O.1
  have hp1 := Nat.two_pow_pos T.F
  rw [E_Mo_inAll, D.1, sh_F O.1, show nI (2 ^ T.F) - 1 = nI (2 ^ T.F - 1) from nI_sub (b := 1) hp1]
  refine (zUp (fun k => zE sc d 161 12 [some (.ref 46), some (.long (jF A)), none, some (.int (nI (alK A T.F k))), some (.int (nI k))] [] zGL h) (2 ^ T.F) (fun k hk => ?_)).trans ?_
  · rw [E_Mo_inAll_12, D.1, sh_F O.1, if_pos (nI_lt hk (by omega)), jF_t _ (by omega)]
    cases hb : A k with
    | false => rw [cond_false, i_andm, nI_1, show alK A T.F (k + 1) = alK A T.F k by simp [alK, hb]]
    | true => rw [cond_true, nI_and, nI_1, show alK A T.F (k + 1) = alK A T.F k &&& k by simp [alK, hb]]
  · rw [E_Mo_inAll_12, D.1, sh_F O.1, if_neg (nI_nlt (Nat.le_refl _) (by omega)), all_eq O.1 i]
