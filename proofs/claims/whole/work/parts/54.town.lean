/-! ===== the methods of Town: what they answer ===== -/
def TnD (h : zHp) (t F C : Nat) (w fo : Nat → Nat) : Prop := h.1 t 0 = nI F ∧ F ≤ 6 ∧ h.1 t 2 = nI C ∧ 2 ≤ C ∧ C ≤ 99 ∧ (∀ f, f < F → h.1 (t + 1) f = nI (w f) ∧ w f ≤ 99) ∧ ∀ f, f < F → h.1 (t + 2) f = nI (fo f) ∧ fo f < 2 ^ f
def wtN (w : Nat → Nat) (s : Nat) : Nat → Nat
  | 0 => 0
  | k + 1 => wtN w s k + (if s.testBit k then w k else 0)
theorem wtN_le {w : Nat → Nat} {s : Nat} : ∀ {k : Nat}, (∀ f, f < k → w f ≤ 99) → wtN w s k ≤ 99 * k
  | 0, _ => Nat.le_refl _
  | k + 1, h => by
    have h1 := wtN_le (s := s) (fun f hf => h f (Nat.lt_succ_of_lt hf))
    have h2 := h k (Nat.lt_succ_self k)
    unfold wtN
    split <;> omega
def clN (fo : Nat → Nat) (s : Nat) : Nat → Nat
  | 0 => s
  | k + 1 => if fo k ≠ 0 ∧ clN fo s k &&& fo k = fo k then clN fo s k ||| 2 ^ k else clN fo s k
theorem or_lt64 {a k : Nat} (ha : a < 64) (hk : k < 6) : a ||| 2 ^ k < 64 := Nat.or_lt_two_pow (n := 6) ha (Nat.pow_lt_pow_right (by decide) hk)
theorem clN_lt {fo : Nat → Nat} {s : Nat} (hs : s < 64) : ∀ {k : Nat}, k ≤ 6 → clN fo s k < 64
  | 0, _ => hs
  | k + 1, h => by
    have ih := clN_lt (fo := fo) hs (k := k) (by omega)
    unfold clN
    split
    · exact or_lt64 ih (by omega)
    · exact ih
theorem i_irem {a c : Nat} (ha : a < 2 ^ 31) (hc : 0 < c) (hc2 : c < 2 ^ 31) : nI a - nI a / nI c * nI c = nI (a % c) := pk_rem ha hc hc2
section
variable (sc : zSc) (d : Nat) (g : zSg) (h : zHp) {t F C : Nat} {w fo : Nat → Nat} (q : zS6 g t) (D : TnD h t F C w fo)
theorem Tn_weightOf_l {s : Nat} (hs : s < 64) : ∀ n k, k + n = F → zE sc (d + 1) 16 4 [some (.ref t), some (.int (nI s)), some (.int (nI (wtN w s k))), some (.int (nI k))] [] g h = some (some (.int (nI (wtN w s F))), g, h) := by
  obtain ⟨hF, hF6, hC, hC2, hC9, hw, hfo⟩ := D
  intro n
  induction n with
  | zero =>
    intro k hk
    have : k = F := by omega
    subst this
    rw [E_Tn_weightOf_4 sc d g h t q, hF, if_neg (nI_nlt (Nat.le_refl k) (by omega))]
  | succ n ih =>
    intro k hk
    have hn := ih (k + 1) (by omega)
    have hwk := hw k (by omega)
    rw [E_Tn_weightOf_4 sc d g h t q, hF, if_pos (nI_lt (by omega) (by omega)), X_has sc d g h (by omega) (by omega), zBi_some]
    cases hb : s.testBit k with
    | false =>
      rw [z01f, nI_1]
      rw [show wtN w s (k + 1) = wtN w s k by simp [wtN, hb]] at hn
      exact hn
    | true =>
      rw [z01t, if_pos (zin_nI (by omega) (by decide)), nI_clamp (by omega), hwk.1, nI_add, nI_1]
      rw [show wtN w s (k + 1) = wtN w s k + w k by simp [wtN, hb]] at hn
      exact hn
theorem Tn_weightOf {s : Nat} (hs : s < 64) : zRun sc (d + 1) 16 [.ref t, .int (nI s)] g h = some (some (.int (nI (wtN w s F))), g, h) := by
  rw [E_Tn_weightOf sc d g h t q]
  exact Tn_weightOf_l sc d g h q D hs F 0 (by omega)
theorem Tn_hatOf {s : Nat} (hs : s < 64) : zRun sc (d + 2) 15 [.ref t, .int (nI s)] g h = some (some (.int (nI (wtN w s F % C))), g, h) := by
  have hw1 := Tn_weightOf sc d g h q D hs
  obtain ⟨hF, hF6, hC, hC2, hC9, hw, hfo⟩ := D
  have hle := wtN_le (w := w) (s := s) (fun f hf => (hw f hf).2)
  rw [E_Tn_hatOf sc (d + 1) g h t q, hC, if_pos (show (0 : Int32) < nI C from nI_lt (a := 0) (by omega) (by omega)), if_neg (show ¬ (99 : Int32) < nI C from nI_nlt (a := 99) hC9 (by decide)), hw1, zBi_some, hC, if_neg (nI_ne0 (by omega) (by omega)), i_irem (by omega) (by omega) (by omega)]
theorem Tn_closure_l {s : Nat} (hs : s < 64) : ∀ n k, k + n = F → zE sc d 18 4 [some (.ref t), none, some (.int (nI (clN fo s k))), some (.int (nI k))] [] g h = some (some (.int (nI (clN fo s F))), g, h) := by
  obtain ⟨hF, hF6, hC, hC2, hC9, hw, hfo⟩ := D
  intro n
  induction n with
  | zero =>
    intro k hk
    have : k = F := by omega
    subst this
    rw [E_Tn_closure_4 sc d g h t q, hF, if_neg (nI_nlt (Nat.le_refl k) (by omega))]
  | succ n ih =>
    intro k hk
    have hn := ih (k + 1) (by omega)
    have hfk := hfo k (by omega)
    have h26 : 2 ^ k < 64 := Nat.pow_lt_pow_right (by decide) (show k < 6 by omega)
    have hcl := clN_lt (fo := fo) hs (k := k) (by omega)
    rw [E_Tn_closure_4 sc d g h t q, hF, if_pos (nI_lt (by omega) (by omega)), if_pos (zin_nI (by omega) (by decide)), nI_clamp (by omega), hfk.1]
    by_cases h0 : fo k = 0
    · rw [if_pos (by rw [h0]; rfl), nI_1]
      rw [show clN fo s (k + 1) = clN fo s k by simp [clN, h0]] at hn
      exact hn
    · rw [if_neg (nI_ne0 (by omega) (by omega)), if_pos (zin_nI (by omega) (by decide)), if_pos (zin_nI (by omega) (by decide)), nI_and]
      by_cases h1 : clN fo s k &&& fo k = fo k
      · rw [if_pos (by rw [h1]), nI_shl1 (by omega), nI_or, nI_1]
        rw [show clN fo s (k + 1) = clN fo s k ||| 2 ^ k by simp [clN, h0, h1]] at hn
        exact hn
      · have h2 : clN fo s k &&& fo k ≤ fo k := Nat.and_le_right
        rw [if_neg (fun z => h1 ((nI_eq (by omega) (by omega)).mp z)), nI_1]
        rw [show clN fo s (k + 1) = clN fo s k by simp [clN, h1]] at hn
        exact hn
theorem Tn_closure {s : Nat} (hs : s < 64) : zRun sc d 18 [.ref t, .int (nI s)] g h = some (some (.int (nI (clN fo s F))), g, h) := by
  rw [E_Tn_closure sc d g h t q]
  exact Tn_closure_l sc d g h q D hs F 0 (by omega)
end
/-- does a set hold all from which something follows -/
def ndB (a s : Nat) : Bool := decide (a ≠ 0) && subN a s 6
theorem subN_iff {a s : Nat} : ∀ {k : Nat}, subN a s k = true ↔ ∀ f, f < k → a.testBit f = true → s.testBit f = true
  | 0 => by simp [subN]
  | k + 1 => by
    unfold subN
    rw [Bool.and_eq_true, subN_iff]
    constructor
    · rintro ⟨h1, h2⟩ f hf ha
      by_cases hk : f = k
      · subst hk
        simpa [ha] using h2
      · exact h1 f (by omega) ha
    · intro h
      refine ⟨fun f hf => h f (by omega), ?_⟩
      have := h k (Nat.lt_succ_self k)
      cases ha : a.testBit k with
      | false => rfl
      | true => simp [this ha]
theorem subN_and {a s : Nat} (ha : a < 64) : subN a s 6 = true ↔ s &&& a = a := by
  rw [subN_iff]
  constructor
  · intro h
    apply Nat.eq_of_testBit_eq
    intro f
    rw [Nat.testBit_and]
    cases hb : a.testBit f with
    | false => simp
    | true =>
      have hf : f < 6 := by
        rcases Nat.lt_or_ge f 6 with h1 | h1
        · exact h1
        · have : a < 2 ^ f := Nat.lt_of_lt_of_le ha (Nat.pow_le_pow_right (n := 2) (by decide) h1)
          rw [Nat.testBit_lt_two_pow this] at hb
          cases hb
      simp [h f hf hb]
  · intro h f hf hb
    rw [← h, Nat.testBit_and, Bool.and_eq_true] at hb
    exact hb.1
theorem clN_step {fo : Nat → Nat} {s k : Nat} (hk : fo k < 64) : clN fo s (k + 1) = if ndB (fo k) (clN fo s k) then clN fo s k ||| 2 ^ k else clN fo s k := by
  have h := subN_and (a := fo k) (s := clN fo s k) hk
  unfold clN ndB
  by_cases h0 : fo k = 0
  · simp [h0]
  · by_cases h1 : clN fo s k &&& fo k = fo k
    · simp [h0, h1, h.mpr h1]
    · have : subN (fo k) (clN fo s k) 6 = false := by
        cases hb : subN (fo k) (clN fo s k) 6 with
        | false => rfl
        | true => exact absurd (h.mp hb) h1
      simp [h0, h1, this]
/-- what a family becomes that learns f: each set with f, closed by the first k facts -/
def imgN (fo : Nat → Nat) (A : Nat → Bool) (f k u : Nat) : Bool := (List.range 64).any (fun s => A s && clN fo (s ||| 2 ^ f) k == u)
theorem imgN_iff {fo : Nat → Nat} {A : Nat → Bool} {f k u : Nat} : imgN fo A f k u = true ↔ ∃ s, s < 64 ∧ A s = true ∧ clN fo (s ||| 2 ^ f) k = u := by
  unfold imgN
  rw [List.any_eq_true]
  constructor
  · rintro ⟨s, hs, h⟩
    rw [Bool.and_eq_true, beq_iff_eq] at h
    exact ⟨s, List.mem_range.mp hs, h.1, h.2⟩
  · rintro ⟨s, hs, h1, h2⟩
    exact ⟨s, List.mem_range.mpr hs, by simp [h1, h2]⟩
theorem or_bit {s f : Nat} (h : s.testBit f = true) : s ||| 2 ^ f = s := by
  apply Nat.eq_of_testBit_eq
  intro i
  rw [Nat.testBit_or, Nat.testBit_two_pow]
  by_cases hi : f = i
  · subst hi; simp [h]
  · simp [hi]
theorem or_add {s f : Nat} (h : s.testBit f = false) : s ||| 2 ^ f = s + 2 ^ f := by
  apply Nat.eq_of_testBit_eq
  intro i
  rw [Nat.testBit_or, Nat.testBit_two_pow]
  sorry
