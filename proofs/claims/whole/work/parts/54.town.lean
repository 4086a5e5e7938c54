/-! ===== the methods of Town: what they answer ===== -/
def TnD (h : zHp) (t F C : Nat) (w fo : Nat → Nat) : Prop := h.1 t 0 = nI F ∧ F ≤ 6 ∧ h.1 t 2 = nI C ∧ 2 ≤ C ∧ C ≤ 99 ∧ (∀ f, f < F → h.1 (t + 1) f = nI (w f) ∧ w f ≤ 99) ∧ ∀ f, f < F → h.1 (t + 2) f = nI (fo f) ∧ fo f < 2 ^ f
def wtN (w : Nat → Nat) (s : Nat) : Nat → Nat
  | 0 => 0
  | k + 1 => wtN w s k + (if s.testBit k then w k else 0)
theorem wtN_le {w : Nat → Nat} {s : Nat} : ∀ {k : Nat}, (∀ f, f < k → w f ≤ 99) → wtN w s k ≤ 99 * k
  | 0, _ => Nat.le_refl _
  | k + 1, h => by
    have h1 := wtN_le (s := s) (fun f hf => h f (Nat.lt_succ_of_lt hf))
    have h2 := h k (Nat.lt_succ_self k)
    unfold wtN
    split <;> omega
def clN (fo : Nat → Nat) (s : Nat) : Nat → Nat
  | 0 => s
  | k + 1 => if fo k ≠ 0 ∧ clN fo s k &&& fo k = fo k then clN fo s k ||| 2 ^ k else clN fo s k
theorem or_lt64 {a k : Nat} (ha : a < 64) (hk : k < 6) : a ||| 2 ^ k < 64 := Nat.or_lt_two_pow (n := 6) ha (Nat.pow_lt_pow_right (by decide) hk)
theorem clN_lt {fo : Nat → Nat} {s : Nat} (hs : s < 64) : ∀ {k : Nat}, k ≤ 6 → clN fo s k < 64
  | 0, _ => hs
  | k + 1, h => by
    have ih := clN_lt (fo := fo) hs (k := k) (by omega)
    unfold clN
    split
    · exact or_lt64 ih (by omega)
    · exact ih
theorem i_irem {a c : Nat} (ha : a < 2 ^ 31) (hc : 0 < c) (hc2 : c < 2 ^ 31) : nI a - nI a / nI c * nI c = nI (a % c) := pk_rem ha hc hc2
section
variable (sc : zSc) (d : Nat) (g : zSg) (h : zHp) {t F C : Nat} {w fo : Nat → Nat} (q : zS6 g t) (D : TnD h t F C w fo)
theorem Tn_weightOf_l {s : Nat} (hs : s < 64) : ∀ n k, k + n = F → zE sc (d + 1) 16 4 [some (.ref t), some (.int (nI s)), some (.int (nI (wtN w s k))), some (.int (nI k))] [] g h = some (some (.int (nI (wtN w s F))), g, h) := by
  obtain ⟨hF, hF6, hC, hC2, hC9, hw, hfo⟩ := D
  intro n
  induction n with
  | zero =>
    intro k hk
    have : k = F := by omega
    subst this
    rw [E_Tn_weightOf_4 sc d g h t q, hF, if_neg (nI_nlt (Nat.le_refl k) (by omega))]
  | succ n ih =>
    intro k hk
    have hn := ih (k + 1) (by omega)
    have hwk := hw k (by omega)
    rw [E_Tn_weightOf_4 sc d g h t q, hF, if_pos (nI_lt (by omega) (by omega)), X_has sc d g h (by omega) (by omega), zBi_some]
    cases hb : s.testBit k with
    | false =>
      rw [z01f, nI_1]
      rw [show wtN w s (k + 1) = wtN w s k by simp [wtN, hb]] at hn
      exact hn
    | true =>
      rw [z01t, if_pos (zin_nI (by omega) (by decide)), nI_clamp (by omega), hwk.1, nI_add, nI_1]
      rw [show wtN w s (k + 1) = wtN w s k + w k by simp [wtN, hb]] at hn
      exact hn
theorem Tn_weightOf {s : Nat} (hs : s < 64) : zRun sc (d + 1) 16 [.ref t, .int (nI s)] g h = some (some (.int (nI (wtN w s F))), g, h) := by
  rw [E_Tn_weightOf sc d g h t q]
  exact Tn_weightOf_l sc d g h q D hs F 0 (by omega)
end
