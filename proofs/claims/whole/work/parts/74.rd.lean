/-! ===== what the text tells ===== -/
def wB : Nat → List Nat
  | 0 => [104, 97, 116, 115]
  | 1 => [102, 97, 99, 116]
  | 2 => [102, 111, 108, 108, 111, 119, 115]
  | 3 => [112, 101, 114, 115, 111, 110]
  | _ => [107, 110, 111, 119, 115]
abbrev PF : Type := Nat × Nat
def wdQ (tl : Nat) (tb : Nat → Nat) (s j : Nat) : Bool := decide (kdN tl tb s = 1) && (decide (tkE tl tb s - s = (wB j).length) && allR (fun k => tb (s + k) == (wB j).getD k 0) (wB j).length 0)
def nuQ (tl : Nat) (tb : Nat → Nat) (lo hb s : Nat) : PF ⊕ (Nat × Nat) := if kdN tl tb s = 2 then (if 3 < tkE tl tb s - s ∨ tkV tl tb s < lo ∨ hb ≤ tkV tl tb s then .inl (2, s) else .inr (tkE tl tb s, tkV tl tb s)) else .inl (1, s)
def sgQ (tl : Nat) (tb : Nat → Nat) (s c : Nat) : Bool := decide (kdN tl tb s = 3) && tb s == c
def liP (tl : Nat) (tb : Nat → Nat) (F : Nat) : Nat → Nat → Nat → PF ⊕ (Nat × Nat)
  | 0, p, a => .inr (p, a)
  | n + 1, p, a => match nuQ tl tb 0 F (skP tl tb p) with
    | .inl f => .inl f
    | .inr (e, v) => if a.testBit v then .inl (4, skP tl tb p) else if sgQ tl tb (skP tl tb e) 44 then liP tl tb F n (skP tl tb e + 1) (a ||| 2 ^ v) else .inr (e, a ||| 2 ^ v)
def fiP (tl : Nat) (tb : Nat → Nat) (T : TT) (e : Nat) : PF ⊕ (Nat × TT) := if sgQ tl tb (skP tl tb e) 59 then .inr (skP tl tb e + 1, T) else .inl (1, skP tl tb e)
def adF (T : TT) (v a : Nat) : TT := (T.F + 1, T.P, T.C, updN T.w T.F v, updN T.fo T.F a, T.tk)
def adP (T : TT) (a : Nat) : TT := (T.F, T.P + 1, T.C, T.w, T.fo, updN T.tk T.P a)
def seC (T : TT) (v : Nat) : TT := (T.F, T.P, v, T.w, T.fo, T.tk)
def fxC (T : TT) : TT := seC T (if T.C = 0 then 10 else T.C)
def htP (tl : Nat) (tb : Nat → Nat) (T : TT) (s : Nat) : PF ⊕ (Nat × TT) := if T.C = 0 then (match nuQ tl tb 2 100 (skP tl tb (tkE tl tb s)) with
    | .inl f => .inl f
    | .inr (e, v) => fiP tl tb (seC T v) e) else .inl (3, s)
def faP (tl : Nat) (tb : Nat → Nat) (T : TT) (s : Nat) : PF ⊕ (Nat × TT) := if 0 < T.P then .inl (1, s) else if T.F = 6 then .inl (3, s) else (match nuQ tl tb 1 100 (skP tl tb (tkE tl tb s)) with
    | .inl f => .inl f
    | .inr (e, v) => if wdQ tl tb (skP tl tb e) 2 then (match liP tl tb T.F 7 (tkE tl tb (skP tl tb e)) 0 with
        | .inl f => .inl f
        | .inr (e2, a) => fiP tl tb (adF T v a) e2) else fiP tl tb (adF T v 0) e)
def peP (tl : Nat) (tb : Nat → Nat) (T : TT) (s : Nat) : PF ⊕ (Nat × TT) := if T.P = 5 then .inl (3, s) else if wdQ tl tb (skP tl tb (tkE tl tb s)) 4 then (match liP tl tb T.F 7 (tkE tl tb (skP tl tb (tkE tl tb s))) 0 with
        | .inl f => .inl f
        | .inr (e2, a) => fiP tl tb (adP T a) e2) else fiP tl tb (adP T 0) (tkE tl tb s)
def clP (tl : Nat) (tb : Nat → Nat) (T : TT) (s : Nat) : PF ⊕ (Nat × TT) := if wdQ tl tb s 0 then htP tl tb T s else if wdQ tl tb s 1 then faP tl tb T s else if wdQ tl tb s 3 then peP tl tb T s else .inl (1, s)
def tnP (tl : Nat) (tb : Nat → Nat) : Nat → Nat → TT → PF ⊕ TT
  | 0, _, T => .inr T
  | n + 1, p, T => if skP tl tb p < tl then (match clP tl tb T (skP tl tb p) with
    | .inl f => .inl f
    | .inr (p', T') => tnP tl tb n p' T') else .inr T
def tn0 : TT := (0, 0, 0, fun _ => 0, fun _ => 0, fun _ => 0)
/-! the JDK's words -/
theorem wB_z : ∀ j, j < 5 → zBt.getD (1000 + j + 100 - 1100) [] = (wB j).map nI := by decide +kernel
theorem wB_l : ∀ j, j < 5 → (Int32.ofNat (zBt.getD (1000 + j + 100 - 1100) []).length) >>> ((0 : Int32) &&& 31) = nI (wB j).length ∧ (wB j).length < 8 := by decide +kernel
theorem wB_c : ∀ j, j < 5 → ∀ k, k < (wB j).length → (((((((wB j).map nI).getD k 0) &&& (255 : Int32)).toUInt32 % 65536).toInt32).toUInt32 % 65536).toInt32 = (((((wB j).map nI).getD k 0) &&& (255 : Int32)).toUInt32 % 65536).toInt32 ∧ (((((wB j).map nI).getD k 0) &&& (255 : Int32)).toUInt32 % 65536).toInt32 = nI ((wB j).getD k 0) ∧ ((nI ((wB j).getD k 0)).toUInt32 % 65536).toInt32 = nI ((wB j).getD k 0) ∧ (wB j).getD k 0 < 256 := by decide +kernel
theorem JS_len (sc : zSc) (d : Nat) (g : zSg) (h : zHp) {j : Nat} (hj : j < 5) : zRun sc (d + 1) 30 [.ref (1000 + j)] g h = some (some (.int (nI (wB j).length)), g, h) := by
  rw [E_JS_length sc d g h (1000 + j) (by omega), E_JS_coder sc d g h (1000 + j) (by omega), if_neg (by decide), if_pos rfl, zBi_some, (wB_l j hj).1]
theorem JS_char (sc : zSc) (d : Nat) (g : zSg) (h : zHp) {j k : Nat} (hj : j < 5) (hk : k < (wB j).length) : zRun sc (d + 4) 32 [.ref (1000 + j), .int (nI k)] g h = some (some (.int (nI ((wB j).getD k 0))), g, h) := by
  have hl := (wB_l j hj).2
  obtain ⟨c1, c2, c3, -⟩ := wB_c j hj k hk
  rw [E_JS_charAt sc (d + 3) g h (1000 + j) (by omega), E_JS_isLatin1 sc (d + 3) g h (1000 + j) (by omega), if_neg (by decide), if_pos rfl, zBi_some, if_neg (by decide), E_J1_charAt sc (d + 2) g h (1000 + j + 100) (by omega), E_JS_checkIndex sc (d + 1), E_JP_checkIndex sc d, wB_z j hj, List.length_map, if_neg (nI_pos (by omega)), if_pos (show nI k < Int32.ofNat (wB j).length from nI_lt hk (by omega)), zBi_some, zBv_some, if_pos (zin_nI hk (by omega)), nI_clamp (by omega), if_pos c1, zBi_some, c2, if_pos c3]
/-! ===== the class's reader ===== -/
def dD (h : zHp) (f : PF) : Prop := h.1 15 7 = nI f.1 ∧ h.1 15 8 = nI f.2 ∧ ¬ h.1 15 7 = 0
theorem Rd_fail_a (sc : zSc) (d : Nat) (h : zHp) (h7 : h.1 15 7 = 0) (v : Int32) : zRun sc (d + 1) 38 [.ref 15, .int v] zGL h = some (none, zGL, zPI (zPI h 15 7 v) 15 8 (h.1 15 4)) := by
  rw [E_Rd_fail, E_Rd_failAt, if_pos h7, zBv_some]
theorem Rd_fail_d (sc : zSc) (d : Nat) (h : zHp) (h7 : ¬ h.1 15 7 = 0) (v : Int32) : zRun sc (d + 1) 38 [.ref 15, .int v] zGL h = some (none, zGL, h) := by
  rw [E_Rd_fail, E_Rd_failAt, if_neg h7, zBv_some]
theorem Rd_step_d (sc : zSc) (d : Nat) (h : zHp) (h7 : ¬ h.1 15 7 = 0) : zRun sc (d + 1) 24 [.ref 15] zGL h = some (none, zGL, h) := by
  rw [E_Rd_step, if_neg h7]
theorem Rd_num_d (sc : zSc) (d : Nat) (h : zHp) (h7 : ¬ h.1 15 7 = 0) (a b : Int32) : zRun sc (d + 2) 40 [.ref 15, .int a, .int b] zGL h = some (some (.int (h.1 15 6)), zGL, h) := by
  have h44 : ∀ v, zE sc (d + 2) 40 44 [some (.ref 15), none, none, some (.int v)] [] zGL h = some (some (.int v), zGL, h) := fun v => by
    rw [E_Rd_readNumber_44 sc (d + 1), Rd_fail_d sc d h h7, zBv_some, Rd_step_d sc d h h7, zBv_some]
  rw [E_Rd_readNumber sc (d + 1), h44, Rd_fail_d sc d h h7, zBv_some, Rd_step_d sc d h h7, zBv_some]
  repeat' split
  all_goals rfl
theorem Rd_byte_y (sc : zSc) (d : Nat) (h : zHp) {tl : Nat} {tb : Nat → Nat} (X : TxD h tl tb) (o : txOK tl tb) (v : Int32) : ∃ w, zRun sc d 25 [.ref 15, .int v] zGL h = some (some (.int w), zGL, h) := by
  rw [E_Rd_byteAt, X.1]
  by_cases h0 : v < 0
  · exact ⟨_, if_pos h0⟩
  · rw [if_neg h0]
    obtain ⟨j, hj, rfl⟩ := nI_of h0
    have ht := o.1
    by_cases h1 : j < tl
    · rw [if_pos (nI_lt h1 (by omega)), if_pos (zin_nI (by omega) (by decide))]
      exact ⟨_, rfl⟩
    · rw [if_neg (nI_nlt (by omega) hj)]
      exact ⟨_, rfl⟩
theorem Rd_sign_y (sc : zSc) (d : Nat) (h : zHp) {tl : Nat} {tb : Nat → Nat} (X : TxD h tl tb) (o : txOK tl tb) (c : Int32) : ∃ w, zRun sc (d + 1) 42 [.ref 15, .int c] zGL h = some (some (.int w), zGL, h) := by
  rw [E_Rd_isSign]
  obtain ⟨w, e⟩ := Rd_byte_y sc d h X o (h.1 15 4)
  rw [e, zBi_some]
  repeat' split
  all_goals exact ⟨_, rfl⟩
theorem Rd_word_y (sc : zSc) (d : Nat) (h : zHp) {tl : Nat} {tb : Nat → Nat} (X : TxD h tl tb) (o : txOK tl tb) {j : Nat} (hj : j < 5) : ∃ w, zRun sc (d + 5) 29 [.ref 15, .ref (1000 + j)] zGL h = some (some (.int w), zGL, h) := by
  have hl := (wB_l j hj).2
  have key : ∀ n k, k + n = (wB j).length → ∃ w, zE sc (d + 5) 29 28 [some (.ref 15), some (.ref (1000 + j)), some (.int (nI k))] [] zGL h = some (some (.int w), zGL, h) := by
    intro n
    induction n with
    | zero =>
      intro k hk
      rw [E_Rd_isWord_28 sc (d + 4) h (1000 + j) (by omega), JS_len sc (d + 3) zGL h hj, zBi_some, if_neg (nI_nlt (by omega) (by omega))]
      exact ⟨_, rfl⟩
    | succ n ih =>
      intro k hk
      obtain ⟨w, e⟩ := Rd_byte_y sc (d + 4) h X o (h.1 15 4 + nI k)
      rw [E_Rd_isWord_28 sc (d + 4) h (1000 + j) (by omega), JS_len sc (d + 3) zGL h hj, zBi_some, if_pos (nI_lt (by omega) (by omega)), e, zBi_some, JS_char sc d zGL h hj (by omega), zBi_some, nI_1]
      split
      · exact ih (k + 1) (by omega)
      · exact ⟨_, rfl⟩
  rw [E_Rd_isWord sc (d + 4) h (1000 + j) (by omega), JS_len sc (d + 3) zGL h hj, zBi_some]
  split
  · split
    · exact key _ 0 (Nat.zero_add _)
    · exact ⟨_, rfl⟩
  · exact ⟨_, rfl⟩
theorem Rd_end_d (sc : zSc) (d : Nat) (h : zHp) {tl : Nat} {tb : Nat → Nat} (X : TxD h tl tb) (o : txOK tl tb) (h7 : ¬ h.1 15 7 = 0) : zRun sc (d + 2) 41 [.ref 15] zGL h = some (none, zGL, h) := by
  obtain ⟨w, e⟩ := Rd_sign_y sc d h X o 59
  rw [E_Rd_readEnd sc (d + 1), e, zBi_some, Rd_fail_d sc d h h7, zBv_some, Rd_step_d sc d h h7, zBv_some]
  split <;> rfl
theorem Rd_list_x (sc : zSc) (d : Nat) (h : zHp) (h7 : ¬ h.1 15 7 = 0) (v1 v3 v5 : Int32) : zE sc (d + 1) 44 65 [some (.ref 15), some (.int v1), none, some (.int v3), none, some (.int v5)] [] zGL h = some (some (.int v1), zGL, h) := by
  rw [E_Rd_readList_65, if_neg h7, E_Rd_readList_85, E_Rd_readList_86, if_neg h7, E_Rd_readList_6, if_pos rfl, i_or0]
theorem Rd_list_d (sc : zSc) (d : Nat) (h : zHp) (h7 : ¬ h.1 15 7 = 0) {t : Nat} (ht : zTw t = true) (hr : h.2.2 15 1 = some t) : zRun sc (d + 3) 44 [.ref 15] zGL h = some (some (.int 0), zGL, h) := by
  rw [E_Rd_readList sc (d + 2), E_Rd_readList_6 sc (d + 2), if_neg (by decide), if_neg (by decide), Rd_step_d sc (d + 1) h h7, zBv_some, zOT_k hr ht, Rd_num_d sc d h h7, zBi_some, if_neg h7, Rd_list_x sc (d + 2) h h7]
theorem Rd_sign (sc : zSc) (d : Nat) (h : zHp) {tl : Nat} {tb : Nat → Nat} (X : TxD h tl tb) (o : txOK tl tb) {p : Nat} (hp : p ≤ tl) (R : Rd h tl tb p) {c : Nat} (hc : c < 256) : zRun sc (d + 1) 42 [.ref 15, .int (nI c)] zGL h = some (some (.int (bI (sgQ tl tb (skP tl tb p) c))), zGL, h) := by
  obtain ⟨s1, s2⟩ := sk_b tb hp
  have ht := o.1
  have hk := kd_lt tl tb (skP tl tb p)
  rw [E_Rd_isSign, R.1, R.2.1, Rd_byteAt sc d h X o (by omega), zBi_some]
  unfold sgQ
  by_cases h3 : kdN tl tb (skP tl tb p) = 3
  · have hs : skP tl tb p < tl := by
      rcases Nat.lt_or_ge (skP tl tb p) tl with z | z
      · exact z
      · rw [kd_0.mpr z] at h3; cases h3
    have hb := o.2 _ hs
    rw [if_pos (show nI (kdN tl tb (skP tl tb p)) = 3 by rw [h3]; rfl), if_pos hs]
    by_cases he : tb (skP tl tb p) = c
    · rw [if_pos (by rw [he])]
      simp [h3, he, bI]
    · rw [if_neg (fun z => he ((nI_eq (by omega) (by omega)).mp z))]
      simp [he, bI]
  · rw [if_neg (iN (m := 3) (n := 3) rfl h3 (by omega) (by decide))]
    simp [h3, bI]
theorem tkE_1 {tl : Nat} {tb : Nat → Nat} {s : Nat} (h : kdN tl tb s = 1) : tkE tl tb s = ruK tl tb 1 s := by
  unfold tkE
  rw [if_neg (by omega), if_neg (by omega), h]
theorem Rd_word (sc : zSc) (d : Nat) (h : zHp) {tl : Nat} {tb : Nat → Nat} (X : TxD h tl tb) (o : txOK tl tb) {p : Nat} (hp : p ≤ tl) (R : Rd h tl tb p) {j : Nat} (hj : j < 5) : zRun sc (d + 5) 29 [.ref 15, .ref (1000 + j)] zGL h = some (some (.int (bI (wdQ tl tb (skP tl tb p) j))), zGL, h) := by
  have hl := (wB_l j hj).2
  obtain ⟨s1, s2⟩ := sk_b tb hp
  have ht := o.1
  have hk := kd_lt tl tb (skP tl tb p)
  obtain ⟨e1, e2, -⟩ := tkE_b (tb := tb) s2
  rw [E_Rd_isWord sc (d + 4) h (1000 + j) (by omega), JS_len sc (d + 3) zGL h hj, zBi_some, R.1, R.2.2.1, R.2.1, nI_sub e1]
  unfold wdQ
  by_cases h1 : kdN tl tb (skP tl tb p) = 1
  · rw [if_pos (show nI (kdN tl tb (skP tl tb p)) = 1 by rw [h1]; rfl)]
    by_cases h2 : tkE tl tb (skP tl tb p) - skP tl tb p = (wB j).length
    · rw [if_pos (by rw [h2])]
      have key : ∀ n k, k + n = (wB j).length → zE sc (d + 5) 29 28 [some (.ref 15), some (.ref (1000 + j)), some (.int (nI k))] [] zGL h = some (some (.int (bI (allR (fun k => tb (skP tl tb p + k) == (wB j).getD k 0) n k))), zGL, h) := by
        intro n
        induction n with
        | zero =>
          intro k hk
          rw [E_Rd_isWord_28 sc (d + 4) h (1000 + j) (by omega), JS_len sc (d + 3) zGL h hj, zBi_some, if_neg (nI_nlt (by omega) (by omega))]
          rfl
        | succ n ih =>
          intro k hk
          have hs : skP tl tb p + k < tl := by omega
          have hb := o.2 _ hs
          have hc := (wB_c j hj k (by omega)).2.2.2
          rw [E_Rd_isWord_28 sc (d + 4) h (1000 + j) (by omega), JS_len sc (d + 3) zGL h hj, zBi_some, if_pos (nI_lt (by omega) (by omega)), R.2.1, nI_add, Rd_byteAt sc _ h X o (by omega), zBi_some, if_pos hs, JS_char sc d zGL h hj (by omega), zBi_some, nI_1, ih (k + 1) (by omega), allR]
          by_cases he : tb (skP tl tb p + k) = (wB j).getD k 0
          · rw [if_pos (by rw [he])]
            simp only [he, beq_self_eq_true, Bool.true_and]
          · rw [if_neg (fun z => he ((nI_eq (by omega) (by omega)).mp z))]
            rw [show (tb (skP tl tb p + k) == (wB j).getD k 0) = false from beq_eq_false_iff_ne.mpr he]
            rfl
      rw [show (0 : Int32) = nI 0 from rfl, key _ 0 (Nat.zero_add _)]
      simp only [h1, h2, decide_true, Bool.true_and]
    · rw [if_neg (fun z => h2 ((nI_eq (by omega) (by omega)).mp z))]
      simp [h2, bI]
  · rw [if_neg (iN (m := 1) (n := 1) rfl h1 (by omega) (by decide))]
    simp [h1, bI]
