/-! ===== the text, scanned ===== -/
theorem iN {k n : Nat} {m : Int32} (hm : m = nI n) (h : ¬ k = n) (hk : k < 2 ^ 31) (hn : n < 2 ^ 31) : ¬ nI k = m := by rw [hm]; exact fun z => h ((nI_eq hk hn).mp z)
def kdN (tl : Nat) (tb : Nat → Nat) (i : Nat) : Nat := if i < tl then (if 97 ≤ tb i ∧ tb i ≤ 122 then 1 else if 48 ≤ tb i ∧ tb i ≤ 57 then 2 else 3) else 0
/-- the end of a run -/
def rnE (B : Nat → Bool) : Nat → Nat → Nat
  | 0, i => i
  | n + 1, i => if B i then rnE B n (i + 1) else i
def ruN (tl : Nat) (B : Nat → Bool) (i : Nat) : Nat := rnE B (tl - i) i
theorem ru_s {tl : Nat} {B : Nat → Bool} {i : Nat} (hi : i < tl) (hb : B i = true) : ruN tl B i = ruN tl B (i + 1) := by
  unfold ruN
  rw [show tl - i = (tl - (i + 1)) + 1 by omega, rnE, hb, if_pos rfl]
theorem ru_e {tl : Nat} {B : Nat → Bool} {i : Nat} (h : i < tl → B i = false) : ruN tl B i = i := by
  unfold ruN
  cases hn : tl - i with
  | zero => rfl
  | succ n => rw [rnE, h (by omega), if_neg (by decide)]
theorem rn_ge {B : Nat → Bool} : ∀ n i, i ≤ rnE B n i ∧ rnE B n i ≤ i + n
  | 0, i => ⟨Nat.le_refl _, Nat.le_refl _⟩
  | n + 1, i => by
    have := rn_ge (B := B) n (i + 1)
    unfold rnE
    split <;> omega
theorem ru_ge (tl : Nat) (B : Nat → Bool) (i : Nat) : i ≤ ruN tl B i := (rn_ge _ _).1
theorem ru_le {tl : Nat} {B : Nat → Bool} {i : Nat} (h : i ≤ tl) : ruN tl B i ≤ tl := by
  have := (rn_ge (B := B) (tl - i) i).2
  unfold ruN
  omega
theorem rn_at {B : Nat → Bool} : ∀ n i, rnE B n i < i + n → B (rnE B n i) = false
  | 0, i, h => absurd h (Nat.lt_irrefl _)
  | n + 1, i, h => by
    rw [rnE] at h ⊢
    cases hb : B i with
    | false => rw [if_neg (by decide)]; exact hb
    | true =>
      rw [hb, if_pos rfl] at h
      rw [if_pos rfl]
      exact rn_at n (i + 1) (by omega)
theorem ru_at {tl : Nat} {B : Nat → Bool} {i : Nat} (h : ruN tl B i < tl) : B (ruN tl B i) = false := by
  have := ru_ge tl B i
  exact rn_at (tl - i) i (by unfold ruN at h this; omega)
theorem rn_in {B : Nat → Bool} : ∀ n i j, i ≤ j → j < rnE B n i → B j = true
  | 0, i, j, h1, h2 => absurd h2 (Nat.not_lt.mpr h1)
  | n + 1, i, j, h1, h2 => by
    rw [rnE] at h2
    cases hb : B i with
    | false => rw [hb, if_neg (by decide)] at h2; omega
    | true =>
      rw [hb, if_pos rfl] at h2
      by_cases hj : j = i
      · rw [hj]; exact hb
      · exact rn_in n (i + 1) j (by omega) h2
theorem ru_in {tl : Nat} {B : Nat → Bool} {i j : Nat} (h1 : i ≤ j) (h2 : j < ruN tl B i) : B j = true := rn_in _ _ _ h1 h2
def skP (tl : Nat) (tb : Nat → Nat) (i : Nat) : Nat := ruN tl (fun j => tb j == 32) i
def ruK (tl : Nat) (tb : Nat → Nat) (k i : Nat) : Nat := ruN tl (fun j => kdN tl tb j == k) i
def tkE (tl : Nat) (tb : Nat → Nat) (s : Nat) : Nat := if kdN tl tb s = 0 then s else if kdN tl tb s = 3 then s + 1 else ruK tl tb (kdN tl tb s) s
def vN (tb : Nat → Nat) (s : Nat) : Nat → Nat
  | 0 => 0
  | n + 1 => 10 * vN tb s n + (tb (s + n) - 48)
def tkV (tl : Nat) (tb : Nat → Nat) (s : Nat) : Nat := if kdN tl tb s = 2 then vN tb s (min (ruK tl tb 2 s - s) 3) else 0
theorem kd_lt (tl : Nat) (tb : Nat → Nat) (i : Nat) : kdN tl tb i < 4 := by
  unfold kdN
  repeat' split
  all_goals decide
theorem kd_0 {tl : Nat} {tb : Nat → Nat} {i : Nat} : kdN tl tb i = 0 ↔ tl ≤ i := by
  unfold kdN
  repeat' split
  all_goals omega
theorem kd_1 {tl : Nat} {tb : Nat → Nat} {i : Nat} : kdN tl tb i = 1 ↔ i < tl ∧ 97 ≤ tb i ∧ tb i ≤ 122 := by
  unfold kdN
  repeat' split
  all_goals omega
theorem kd_2 {tl : Nat} {tb : Nat → Nat} {i : Nat} : kdN tl tb i = 2 ↔ i < tl ∧ 48 ≤ tb i ∧ tb i ≤ 57 := by
  unfold kdN
  repeat' split
  all_goals omega
theorem ruK_lt {tl : Nat} {tb : Nat → Nat} {k s : Nat} (hk : kdN tl tb s = k) (hs : s < tl) : ruK tl tb k s = ruK tl tb k (s + 1) ∧ s < ruK tl tb k s ∧ ruK tl tb k s ≤ tl := by
  have h1 : ruK tl tb k s = ruK tl tb k (s + 1) := ru_s hs (by rw [hk]; simp)
  have h2 := ru_ge tl (fun j => kdN tl tb j == k) (s + 1)
  have h3 := ru_le (tl := tl) (B := fun j => kdN tl tb j == k) (i := s) (by omega)
  refine ⟨h1, ?_, h3⟩
  rw [h1]
  exact h2
theorem tkE_b {tl : Nat} {tb : Nat → Nat} {s : Nat} (hs : s ≤ tl) : s ≤ tkE tl tb s ∧ tkE tl tb s ≤ tl ∧ (s < tl → s < tkE tl tb s) := by
  unfold tkE
  by_cases h0 : kdN tl tb s = 0
  · rw [if_pos h0]
    have := kd_0.mp h0
    omega
  · rw [if_neg h0]
    have h1 : s < tl := by
      rcases Nat.lt_or_ge s tl with h | h
      · exact h
      · exact absurd (kd_0.mpr h) h0
    by_cases h3 : kdN tl tb s = 3
    · rw [if_pos h3]; omega
    · rw [if_neg h3]
      have := ruK_lt (tb := tb) rfl h1
      omega
theorem sk_b {tl : Nat} (tb : Nat → Nat) {p : Nat} (hp : p ≤ tl) : p ≤ skP tl tb p ∧ skP tl tb p ≤ tl := ⟨ru_ge _ _ _, ru_le hp⟩
theorem vN_b {tb : Nat → Nat} {s : Nat} : ∀ {n : Nat}, (∀ j, j < n → tb (s + j) ≤ 57) → vN tb s n < 10 ^ n
  | 0, _ => by simp [vN]
  | n + 1, h => by
    have h1 := vN_b (tb := tb) (s := s) (n := n) (fun j hj => h j (by omega))
    have h2 := h n (Nat.lt_succ_self n)
    rw [Nat.pow_succ]
    unfold vN
    omega
def txOK (tl : Nat) (tb : Nat → Nat) : Prop := tl ≤ 400 ∧ ∀ i, i < tl → tb i < 256
theorem Rd_byteAt (sc : zSc) (d : Nat) (h : zHp) {tl : Nat} {tb : Nat → Nat} (X : TxD h tl tb) (o : txOK tl tb) {i : Nat} (hi : i < 2 ^ 31) : zRun sc d 25 [.ref 15, .int (nI i)] zGL h = some (some (.int (nI (if i < tl then tb i else 0))), zGL, h) := by
  have ht := o.1
  rw [E_Rd_byteAt, if_neg (nI_pos hi), X.1]
  by_cases hl : i < tl
  · rw [if_pos (nI_lt hl (by omega)), if_pos (zin_nI (by omega) (by decide)), nI_clamp hi, X.2 i hl, if_pos hl]
  · rw [if_neg (nI_nlt (by omega) hi), if_neg hl]
    rfl
theorem Rd_kindAt (sc : zSc) (d : Nat) (h : zHp) {tl : Nat} {tb : Nat → Nat} (X : TxD h tl tb) (o : txOK tl tb) {i : Nat} (hi : i < 2 ^ 31) : zRun sc d 26 [.ref 15, .int (nI i)] zGL h = some (some (.int (nI (kdN tl tb i))), zGL, h) := by
  have ht := o.1
  rw [E_Rd_kindAt, if_neg (nI_pos hi), X.1]
  unfold kdN
  by_cases hl : i < tl
  · have hb := o.2 i hl
    rw [if_pos (nI_lt hl (by omega)), if_pos (zin_nI (by omega) (by decide)), nI_clamp hi, X.2 i hl, if_pos hl]
    by_cases h1 : 97 ≤ tb i
    · rw [if_neg (iG (m := 97) (n := 97) rfl h1 (by omega))]
      by_cases h2 : tb i ≤ 122
      · rw [if_neg (iG' (m := 122) (n := 122) rfl h2 (by decide)), if_pos (show 97 ≤ tb i ∧ tb i ≤ 122 from ⟨h1, h2⟩)]
        rfl
      · rw [if_pos (iL' (m := 122) (n := 122) rfl (by omega) (by omega)), E_Rd_kindAt_41, if_neg (iG (m := 48) (n := 48) rfl (by omega) (by omega)), if_pos (iL' (m := 57) (n := 57) rfl (by omega) (by omega)), if_neg (show ¬ (97 ≤ tb i ∧ tb i ≤ 122) by omega), if_neg (show ¬ (48 ≤ tb i ∧ tb i ≤ 57) by omega)]
        rfl
    · rw [if_pos (iL (m := 97) (n := 97) rfl (by omega) (by decide)), E_Rd_kindAt_41, if_neg (show ¬ (97 ≤ tb i ∧ tb i ≤ 122) by omega)]
      by_cases h3 : 48 ≤ tb i
      · rw [if_neg (iG (m := 48) (n := 48) rfl h3 (by omega))]
        by_cases h4 : tb i ≤ 57
        · rw [if_neg (iG' (m := 57) (n := 57) rfl h4 (by decide)), if_pos (show 48 ≤ tb i ∧ tb i ≤ 57 from ⟨h3, h4⟩)]
          rfl
        · rw [if_pos (iL' (m := 57) (n := 57) rfl (by omega) (by omega)), if_neg (show ¬ (48 ≤ tb i ∧ tb i ≤ 57) by omega)]
          rfl
      · rw [if_pos (iL (m := 48) (n := 48) rfl (by omega) (by decide)), if_neg (show ¬ (48 ≤ tb i ∧ tb i ≤ 57) by omega)]
        rfl
  · rw [if_neg (nI_nlt (by omega) hi), if_neg hl]
    rfl
theorem zPI_o {h : zHp} {a k : Nat} {v w : Int32} : zPI (zPI h a k v) a k w = zPI h a k w := by
  refine Prod.ext (funext fun x => funext fun y => ?_) rfl
  show (zPI (zPI h a k v) a k w).1 x y = (zPI h a k w).1 x y
  rw [zPI_1, zPI_1, zPI_1]
  by_cases hc : x = a ∧ y = k
  · rw [if_pos hc, if_pos hc]
  · rw [if_neg hc, if_neg hc, if_neg hc]
def rdH (h : zHp) (s k e v : Int32) : zHp := zPI (zPI (zPI (zPI h 15 4 s) 15 3 k) 15 5 e) 15 6 v
def Rd (h : zHp) (tl : Nat) (tb : Nat → Nat) (p : Nat) : Prop := h.1 15 3 = nI (kdN tl tb (skP tl tb p)) ∧ h.1 15 4 = nI (skP tl tb p) ∧ h.1 15 5 = nI (tkE tl tb (skP tl tb p)) ∧ h.1 15 6 = nI (tkV tl tb (skP tl tb p)) ∧ h.1 15 7 = 0 ∧ h.1 15 8 = -1
def sF (h h' : zHp) : Prop := h'.2 = h.2 ∧ (∀ x, x ≠ 15 → h'.1 x = h.1 x) ∧ ∀ k, k < 3 ∨ 8 < k → h'.1 15 k = h.1 15 k
theorem sF_r (h : zHp) : sF h h := ⟨rfl, fun _ _ => rfl, fun _ _ => rfl⟩
theorem sF_t {a b c : zHp} (h1 : sF a b) (h2 : sF b c) : sF a c := ⟨h2.1.trans h1.1, fun x hx => (h2.2.1 x hx).trans (h1.2.1 x hx), fun k hk => (h2.2.2 k hk).trans (h1.2.2 k hk)⟩
theorem sF_I {h : zHp} {k : Nat} {v : Int32} (hk : 3 ≤ k) (hk2 : k ≤ 8) : sF h (zPI h 15 k v) := ⟨rfl, fun x hx => funext fun y => if_neg (fun z => hx z.1), fun j hj => if_neg (fun z => by omega)⟩
theorem sF_X {h h' : zHp} {tl : Nat} {tb : Nat → Nat} (f : sF h h') (X : TxD h tl tb) : TxD h' tl tb := by
  unfold TxD at X ⊢
  rw [f.2.1 1 (by decide), f.2.1 2 (by decide)]
  exact X
theorem Rd_value (sc : zSc) (d : Nat) (h : zHp) {tl : Nat} {tb : Nat → Nat} (X : TxD h tl tb) (o : txOK tl tb) {s : Nat} (hk : kdN tl tb s = 2) (h4 : h.1 15 4 = nI s) (h5 : h.1 15 5 = nI (ruK tl tb 2 s)) : zRun sc d 27 [.ref 15] zGL h = some (some (.int (nI (tkV tl tb s))), zGL, h) := by
  have ht := o.1
  have hs := (kd_2.mp hk).1
  obtain ⟨-, b1, b2⟩ := ruK_lt hk hs
  have hin : ∀ j, s ≤ j → j < ruK tl tb 2 s → j < tl ∧ 48 ≤ tb j ∧ tb j ≤ 57 := fun j h1 h2 => kd_2.mp (by have := ru_in h1 h2; simpa using this)
  unfold tkV
  rw [if_pos hk, E_Rd_valueOfToken, h4]
  refine (zUp (fun n => zE sc d 27 7 [some (.ref 15), some (.int (nI (vN tb s n))), some (.int (nI (s + n)))] [] zGL h) (min (ruK tl tb 2 s - s) 3) (fun n hn => ?_)).trans ?_
  · have := hin (s + n) (by omega) (by omega)
    rw [E_Rd_valueOfToken_7, h5, if_pos (nI_lt (by omega) (by omega)), X.1, if_pos (nI_lt (by omega) (by omega)), h4, nI_3, if_pos (nI_lt (by omega) (by omega)), if_pos (zin_nI (by omega) (by decide)), nI_clamp (by omega), X.2 _ this.1, show (10 : Int32) = nI 10 from rfl, nI_mul, nI_add, show (48 : Int32) = nI 48 from rfl, nI_sub (by omega), nI_1]
    rw [show vN tb s (n + 1) = vN tb s n * 10 + tb (s + n) - 48 by rw [vN]; omega]
    rfl
  · rw [E_Rd_valueOfToken_7, h5, X.1, h4, nI_3]
    by_cases hc : ruK tl tb 2 s - s ≤ 3
    · rw [if_neg (nI_nlt (by omega) (by omega))]
    · rw [if_pos (nI_lt (by omega) (by omega)), if_pos (nI_lt (by omega) (by omega)), if_neg (nI_nlt (by omega) (by omega))]
theorem Rd_step (sc : zSc) (d : Nat) (h : zHp) {tl : Nat} {tb : Nat → Nat} (X : TxD h tl tb) (o : txOK tl tb) {p : Nat} (hp : p ≤ tl) (h5 : h.1 15 5 = nI p) (h7 : h.1 15 7 = 0) (h8 : h.1 15 8 = -1) : ∃ h', zRun sc (d + 1) 24 [.ref 15] zGL h = some (none, zGL, h') ∧ Rd h' tl tb p ∧ sF h h' := by
  have ht := o.1
  have k1 : ∀ n i, i + n = tl → zE sc (d + 1) 24 16 [some (.ref 15)] [] zGL (zPI h 15 4 (nI i)) = zE sc (d + 1) 24 56 [some (.ref 15)] [] zGL (zPI h 15 4 (nI (skP tl tb i))) := by
    intro n
    induction n with
    | zero =>
      intro i hi
      rw [E_Rd_step_16, show (zPI h 15 4 (nI i)).1 15 4 = nI i from rfl, show (zPI h 15 4 (nI i)).1 1 1 = h.1 1 1 from rfl, X.1, if_neg (nI_nlt (by omega) (by omega)), show skP tl tb i = i from ru_e (fun z => by omega)]
    | succ n ih =>
      intro i hi
      have X1 : TxD (zPI h 15 4 (nI i)) tl tb := sF_X (sF_I (by decide) (by decide)) X
      have hl : i < tl := by omega
      rw [E_Rd_step_16, show (zPI h 15 4 (nI i)).1 15 4 = nI i from rfl, show (zPI h 15 4 (nI i)).1 1 1 = h.1 1 1 from rfl, X.1, if_pos (nI_lt hl (by omega)), Rd_byteAt sc d _ X1 o (by omega), zBi_some, if_pos hl]
      by_cases hb : tb i = 32
      · rw [if_pos (show nI (tb i) = (32 : Int32) by rw [hb]; rfl), show (zPI h 15 4 (nI i)).1 15 4 = nI i from rfl, zPI_o, nI_1, ih (i + 1) (by omega), show skP tl tb i = skP tl tb (i + 1) from ru_s hl (by simp [hb])]
      · have hb2 := o.2 i hl
        rw [if_neg (iN (m := 32) (n := 32) rfl hb (by omega) (by decide)), show skP tl tb i = i from ru_e (fun _ => by simp [hb])]
  obtain ⟨s1, s2⟩ := sk_b tb hp
  have fin : zRun sc (d + 1) 24 [.ref 15] zGL h = some (none, zGL, rdH h (nI (skP tl tb p)) (nI (kdN tl tb (skP tl tb p))) (nI (tkE tl tb (skP tl tb p))) (nI (tkV tl tb (skP tl tb p)))) := by
    rw [E_Rd_step, if_pos h7, h5, k1 (tl - p) p (by omega)]
    generalize skP tl tb p = s at s1 s2 ⊢
    have X1 : ∀ v, TxD (zPI h 15 4 v) tl tb := fun v => sF_X (sF_I (by decide) (by decide)) X
    have X2 : ∀ v w, TxD (zPI (zPI h 15 4 v) 15 3 w) tl tb := fun v w => sF_X (sF_I (by decide) (by decide)) (X1 v)
    have X3 : ∀ v w u, TxD (zPI (zPI (zPI h 15 4 v) 15 3 w) 15 5 u) tl tb := fun v w u => sF_X (sF_I (by decide) (by decide)) (X2 v w)
    have r3 : ∀ v w u, (zPI (zPI (zPI h 15 4 v) 15 3 w) 15 5 u).1 15 3 = w := fun _ _ _ => rfl
    have r4 : ∀ v w u, (zPI (zPI (zPI h 15 4 v) 15 3 w) 15 5 u).1 15 4 = v := fun _ _ _ => rfl
    have r5 : ∀ v w u, (zPI (zPI (zPI h 15 4 v) 15 3 w) 15 5 u).1 15 5 = u := fun _ _ _ => rfl
    have r1 : ∀ v w u, (zPI (zPI (zPI h 15 4 v) 15 3 w) 15 5 u).1 1 1 = nI tl := fun _ _ _ => X.1
    have hk4 := kd_lt tl tb s
    rw [E_Rd_step_56, show (zPI h 15 4 (nI s)).1 15 4 = nI s from rfl, Rd_kindAt sc d _ (X1 _) o (by omega), zBi_some, show (zPI (zPI h 15 4 (nI s)) 15 3 (nI (kdN tl tb s))).1 15 3 = nI (kdN tl tb s) from rfl, show (zPI (zPI h 15 4 (nI s)) 15 3 (nI (kdN tl tb s))).1 15 4 = nI s from rfl, nI_1]
    by_cases h0 : kdN tl tb s = 0
    · have hs := kd_0.mp h0
      rw [if_pos (show nI (kdN tl tb s) = 0 by rw [h0]; rfl), E_Rd_step_92, r3, if_neg (show ¬ nI (kdN tl tb s) = 3 by rw [h0]; decide), r5, r1, if_neg (nI_nlt hs (by omega)), E_Rd_step_142, r3, if_neg (show ¬ nI (kdN tl tb s) = 2 by rw [h0]; decide), show tkE tl tb s = s from if_pos h0, show tkV tl tb s = 0 from if_neg (by omega)]
      rfl
    · have hs : s < tl := by
        rcases Nat.lt_or_ge s tl with z | z
        · exact z
        · exact absurd (kd_0.mpr z) h0
      rw [if_neg (nI_ne0 (by omega) (by omega))]
      by_cases h3 : kdN tl tb s = 3
      · rw [E_Rd_step_92, r3, if_pos (show nI (kdN tl tb s) = 3 by rw [h3]; rfl), E_Rd_step_142, r3, if_neg (show ¬ nI (kdN tl tb s) = 2 by rw [h3]; decide), show tkE tl tb s = s + 1 from (if_neg h0).trans (if_pos h3), show tkV tl tb s = 0 from if_neg (by omega)]
        rfl
      · obtain ⟨e1, e2, e3⟩ := ruK_lt (tl := tl) (tb := tb) rfl hs
        have k2 : ∀ n i, i + n = tl → zE sc (d + 1) 24 92 [some (.ref 15)] [] zGL (zPI (zPI (zPI h 15 4 (nI s)) 15 3 (nI (kdN tl tb s))) 15 5 (nI i)) = zE sc (d + 1) 24 142 [some (.ref 15)] [] zGL (zPI (zPI (zPI h 15 4 (nI s)) 15 3 (nI (kdN tl tb s))) 15 5 (nI (ruK tl tb (kdN tl tb s) i))) := by
          intro n
          induction n with
          | zero =>
            intro i hi
            rw [E_Rd_step_92, r3, if_neg (iN (m := 3) (n := 3) rfl h3 (by omega) (by decide)), r5, r1, if_neg (nI_nlt (by omega) (by omega)), show ruK tl tb (kdN tl tb s) i = i from ru_e (fun z => by omega)]
          | succ n ih =>
            intro i hi
            have hl : i < tl := by omega
            have hki := kd_lt tl tb i
            rw [E_Rd_step_92, r3, if_neg (iN (m := 3) (n := 3) rfl h3 (by omega) (by decide)), r5, r1, if_pos (nI_lt hl (by omega)), Rd_kindAt sc d _ (X3 _ _ _) o (by omega), zBi_some, r3, r5]
            by_cases hb : kdN tl tb i = kdN tl tb s
            · rw [if_pos (by rw [hb]), zPI_o, nI_1, ih (i + 1) (by omega), show ruK tl tb (kdN tl tb s) i = ruK tl tb (kdN tl tb s) (i + 1) from ru_s hl (by simp [hb])]
            · rw [if_neg (fun z => hb ((nI_eq (by omega) (by omega)).mp z)), show ruK tl tb (kdN tl tb s) i = i from ru_e (fun _ => by simp [hb])]
        rw [k2 (tl - (s + 1)) (s + 1) (by omega), ← e1, E_Rd_step_142, r3, show tkE tl tb s = ruK tl tb (kdN tl tb s) s from (if_neg h0).trans (if_neg h3)]
        by_cases h2 : kdN tl tb s = 2
        · rw [if_pos (show nI (kdN tl tb s) = 2 by rw [h2]; rfl), Rd_value sc d _ (X3 _ _ _) o h2 (r4 _ _ _) (by rw [r5, h2]), zBi_some]
          rfl
        · rw [if_neg (iN (m := 2) (n := 2) rfl h2 (by omega) (by decide)), show tkV tl tb s = 0 from if_neg h2]
          rfl
  refine ⟨_, fin, ⟨rfl, rfl, rfl, rfl, h7, h8⟩, sF_t (sF_I (k := 4) (by decide) (by decide)) (sF_t (sF_I (k := 3) (by decide) (by decide)) (sF_t (sF_I (k := 5) (by decide) (by decide)) (sF_I (k := 6) (by decide) (by decide))))⟩
