/-! ===== plans: what both seek ===== -/
def PQ : Type := Nat × Nat × (Nat → Bool) × (Nat → Bool)
def vld (T : TT) (o : Nat) (Q : PQ) : Bool := decide (o % 6 < T.F) && (if o < 6 then Q.1.testBit (o % 6) && (sureN Q.2.2.1 T.F).testBit (o % 6) else Q.2.1.testBit (o % 6) && (sureN Q.2.2.2 T.F).testBit (o % 6))
def nxt (T : TT) (o : Nat) (Q : PQ) : PQ := if o < 6 then (Q.1, clN T.fo (Q.2.1 ||| 2 ^ (o % 6)) T.F, imgN T.fo (thB Q.2.2.1 (o % 6) (Q.2.1.testBit (o % 6))) (o % 6) T.F, thB Q.2.2.2 (o % 6) true) else (clN T.fo (Q.1 ||| 2 ^ (o % 6)) T.F, Q.2.1, thB Q.2.2.1 (o % 6) true, imgN T.fo (thB Q.2.2.2 (o % 6) (Q.1.testBit (o % 6))) (o % 6) T.F)
theorem nxt_a {T : TT} {o : Nat} {Q : PQ} (ho : o < 6) : nxt T o Q = (Q.1, clN T.fo (Q.2.1 ||| 2 ^ (o % 6)) T.F, imgN T.fo (thB Q.2.2.1 (o % 6) (Q.2.1.testBit (o % 6))) (o % 6) T.F, thB Q.2.2.2 (o % 6) true) := if_pos ho
theorem nxt_b {T : TT} {o : Nat} {Q : PQ} (ho : ¬ o < 6) : nxt T o Q = (clN T.fo (Q.1 ||| 2 ^ (o % 6)) T.F, Q.2.1, thB Q.2.2.1 (o % 6) true, imgN T.fo (thB Q.2.2.2 (o % 6) (Q.1.testBit (o % 6))) (o % 6) T.F) := if_neg ho
def fsR {α : Type} (w : Nat → Option α) : Nat → Nat → Option α
  | 0, _ => none
  | m + 1, o => match w o with
    | some x => some x
    | none => fsR w m (o + 1)
def srch (T : TT) (G : Nat) : Nat → PQ → Option (List Nat)
  | 0, Q => if subN G (Q.1 &&& Q.2.1) 6 then some [] else none
  | n + 1, Q => fsR (fun o => if vld T o Q then (srch T G n (nxt T o Q)).map (fun l => o :: l) else none) 12 0
def PQok (T : TT) (Q : PQ) : Prop := Q.1 < 2 ^ T.F ∧ Q.2.1 < 2 ^ T.F ∧ inF T.F Q.2.2.1 ∧ inF T.F Q.2.2.2
theorem vld_f {T : TT} {o : Nat} {Q : PQ} (h : vld T o Q = true) : o % 6 < T.F := by
  unfold vld at h
  rw [Bool.and_eq_true, decide_eq_true_eq] at h
  exact h.1
theorem nxt_ok {T : TT} {o : Nat} {Q : PQ} (h : vld T o Q = true) (q : PQok T Q) : PQok T (nxt T o Q) := by
  have hf := vld_f h
  obtain ⟨q1, q2, q3, q4⟩ := q
  by_cases ho : o < 6
  · rw [nxt_a ho]
    exact ⟨q1, clN_lt (or_ltF q2 hf) (Nat.le_refl _), img_in (thB_in q3 _ _) hf, thB_in q4 _ _⟩
  · rw [nxt_b ho]
    exact ⟨clN_lt (or_ltF q1 hf) (Nat.le_refl _), q2, thB_in q3 _ _, img_in (thB_in q4 _ _) hf⟩
theorem fsR_add {α : Type} {w : Nat → Option α} : ∀ {m n o : Nat}, fsR w (m + n) o = match fsR w m o with | some x => some x | none => fsR w n (o + m)
  | 0, n, o => by rw [Nat.zero_add]; rfl
  | m + 1, n, o => by
    rw [show m + 1 + n = (m + n) + 1 by omega]
    rw [fsR, show fsR w (m + 1) o = match w o with | some x => some x | none => fsR w m (o + 1) from rfl]
    cases h : w o with
    | some x => rfl
    | none => exact (fsR_add (m := m) (n := n) (o := o + 1)).trans (by rw [show o + 1 + m = o + (m + 1) by omega])
theorem fsR_none {α : Type} {w : Nat → Option α} : ∀ {m o : Nat}, (∀ i, i < m → w (o + i) = none) → fsR w m o = none
  | 0, _, _ => rfl
  | m + 1, o, h => by
    unfold fsR
    rw [show w o = none from h 0 (by omega)]
    exact fsR_none (fun i hi => by rw [show o + 1 + i = o + (i + 1) by omega]; exact h (i + 1) (by omega))
theorem srch_len {T : TT} {G : Nat} : ∀ {n : Nat} {Q : PQ} {l : List Nat}, srch T G n Q = some l → l.length = n ∧ ∀ o, o ∈ l → o < 12 ∧ o % 6 < T.F
  | 0, Q, l, h => by
    unfold srch at h
    split at h
    · cases h; simp
    · cases h
  | n + 1, Q, l, h => by
    have key : ∀ m o, o + m = 12 → ∀ l, fsR (fun o => if vld T o Q then (srch T G n (nxt T o Q)).map (fun l => o :: l) else none) m o = some l → l.length = n + 1 ∧ ∀ o, o ∈ l → o < 12 ∧ o % 6 < T.F := by
      intro m
      induction m with
      | zero => intro o _ l h; cases h
      | succ m ih =>
        intro o ho l h
        unfold fsR at h
        cases hv : vld T o Q with
        | false =>
          simp only [hv] at h
          exact ih (o + 1) (by omega) l h
        | true =>
          cases hs : srch T G n (nxt T o Q) with
          | none =>
            simp only [hv, hs] at h
            exact ih (o + 1) (by omega) l h
          | some l' =>
            simp only [hv, hs] at h
            have h2 := srch_len hs
            cases h
            refine ⟨by simp [h2.1], ?_⟩
            intro u hu
            rcases List.mem_cons.mp hu with rfl | hu
            · exact ⟨by omega, vld_f hv⟩
            · exact h2.2 u hu
    exact key 12 0 rfl l h
/-! no plan is shorter than what is wanting -/
theorem cN_le1 {A B : Nat → Bool} {f : Nat} : ∀ {n : Nat}, (∀ s, s < n → A s = true → B s = true ∨ s = f) → cN A n ≤ cN B n + 1 ∧ (n ≤ f → cN A n ≤ cN B n)
  | 0, _ => ⟨by simp [cN], fun _ => by simp [cN]⟩
  | n + 1, h => by
    have ih := cN_le1 (n := n) (fun s hs => h s (by omega))
    have hn := h n (by omega)
    unfold cN
    cases hA : A n with
    | false =>
      have h1 := ih.1
      refine ⟨by simp; split <;> omega, fun hf => ?_⟩
      have h2 := ih.2 (by omega)
      simp
      split <;> omega
    | true =>
      rcases hn hA with hB | hB
      · rw [hB]
        have h1 := ih.1
        refine ⟨by simp; omega, fun hf => ?_⟩
        have h2 := ih.2 (by omega)
        simp; omega
      · have h2 := ih.2 (by omega)
        refine ⟨by simp; split <;> omega, fun hf => by omega⟩
def fewN (T : TT) (G : Nat) (Q : PQ) : Nat := pN (anN (anN G (jN (folB T) T.F)) Q.1) 6 + pN (anN (anN G (jN (folB T) T.F)) Q.2.1) 6
theorem cl_new {T : TT} {s i : Nat} : ∀ {k : Nat}, k ≤ T.F → (clN T.fo s k).testBit i = true → s.testBit i = true ∨ (i < T.F ∧ folB T i = true)
  | 0, _, h => .inl h
  | k + 1, hk, h => by
    rw [clN] at h
    split at h
    · rename_i hc
      rw [Nat.testBit_or, Bool.or_eq_true, Nat.testBit_two_pow, decide_eq_true_eq] at h
      rcases h with h | h
      · exact cl_new (by omega) h
      · right
        rw [← h]
        exact ⟨by omega, by simp [folB, hc.1]⟩
    · exact cl_new (by omega) h
theorem few_1 {T : TT} {G s f : Nat} (hG : G < 64) : pN (anN (anN G (jN (folB T) T.F)) s) 6 ≤ pN (anN (anN G (jN (folB T) T.F)) (clN T.fo (s ||| 2 ^ f) T.F)) 6 + 1 := by
  have hW : anN G (jN (folB T) T.F) < 64 := anN_lt (F := 6) hG (Nat.le_refl 6)
  refine (cN_le1 (f := f) ?_).1
  intro i hi
  rw [anN_bit hW, anN_bit hW, Bool.and_eq_true]
  rintro ⟨h1, h2⟩
  cases hc : (clN T.fo (s ||| 2 ^ f) T.F).testBit i with
  | false => left; rw [h1]; rfl
  | true =>
    right
    rcases cl_new (Nat.le_refl _) hc with h3 | ⟨h3, h4⟩
    · rw [Nat.testBit_or, Bool.or_eq_true, Nat.testBit_two_pow, decide_eq_true_eq] at h3
      rcases h3 with h3 | h3
      · rw [h3] at h2; cases h2
      · exact h3.symm
    · rw [anN_bit hG, jN_bit, h4] at h1
      simp [h3] at h1
theorem few_n {T : TT} {G : Nat} (hG : G < 64) (o : Nat) (Q : PQ) : fewN T G Q ≤ fewN T G (nxt T o Q) + 1 := by
  unfold fewN
  by_cases ho : o < 6
  · have := few_1 (T := T) (s := Q.2.1) (f := o % 6) hG
    rw [nxt_a ho]
    simp only []
    omega
  · have := few_1 (T := T) (s := Q.1) (f := o % 6) hG
    rw [nxt_b ho]
    simp only []
    omega
theorem srch_few {T : TT} {G : Nat} (hG : G < 64) : ∀ {n : Nat} {Q : PQ} {l : List Nat}, srch T G n Q = some l → fewN T G Q ≤ n
  | 0, Q, l, h => by
    unfold srch at h
    split at h
    · rename_i hs
      have hs' := subN_iff.mp hs
      have hW : anN G (jN (folB T) T.F) < 64 := anN_lt (F := 6) hG (Nat.le_refl 6)
      have hz : ∀ x : Nat, (∀ f, f < 6 → G.testBit f = true → x.testBit f = true) → pN (anN (anN G (jN (folB T) T.F)) x) 6 = 0 := by
        intro x hx
        unfold pN
        rw [cN_ext (B := fun _ => false)]
        · decide
        · intro i hi
          rw [anN_bit hW, anN_bit hG]
          cases hb : G.testBit i with
          | false => rfl
          | true => rw [hx i hi hb]; simp
      unfold fewN
      rw [hz Q.1 (fun f hf hb => by have := hs' f hf hb; rw [Nat.testBit_and, Bool.and_eq_true] at this; exact this.1), hz Q.2.1 (fun f hf hb => by have := hs' f hf hb; rw [Nat.testBit_and, Bool.and_eq_true] at this; exact this.2)]
      exact Nat.le_refl 0
    · cases h
  | n + 1, Q, l, h => by
    have key : ∀ m o, fsR (fun o => if vld T o Q then (srch T G n (nxt T o Q)).map (fun l => o :: l) else none) m o = some l → fewN T G Q ≤ n + 1 := by
      intro m
      induction m with
      | zero => intro o h; cases h
      | succ m ih =>
        intro o h
        unfold fsR at h
        cases hv : vld T o Q with
        | false =>
          simp only [hv] at h
          exact ih (o + 1) h
        | true =>
          cases hs : srch T G n (nxt T o Q) with
          | none =>
            simp only [hv, hs] at h
            exact ih (o + 1) h
          | some l' =>
            have h1 := srch_few hG hs
            have h2 := few_n (T := T) hG o Q
            omega
    exact key 12 0 h
theorem sN_in {F : Nat} (hF : F ≤ 6) (A : Nat → Bool) : sureN A F < 2 ^ F := by
  unfold sureN
  split
  · exact Nat.two_pow_pos F
  · exact jN_lt _ F
