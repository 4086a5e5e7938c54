/-! ===== the methods of Town: what they answer ===== -/
def TT : Type := Nat × Nat × Nat × (Nat → Nat) × (Nat → Nat) × (Nat → Nat)
def TT.F (T : TT) : Nat := T.1
def TT.P (T : TT) : Nat := T.2.1
def TT.C (T : TT) : Nat := T.2.2.1
def TT.w (T : TT) : Nat → Nat := T.2.2.2.1
def TT.fo (T : TT) : Nat → Nat := T.2.2.2.2.1
def TT.tk (T : TT) : Nat → Nat := T.2.2.2.2.2
def TOK (T : TT) : Prop := T.F ≤ 6 ∧ T.P ≤ 5 ∧ 2 ≤ T.C ∧ T.C ≤ 99 ∧ (∀ f, f < T.F → T.w f ≤ 99 ∧ T.fo f < 2 ^ f) ∧ ∀ p, p < T.P → T.tk p < 2 ^ T.F
def TnD (h : zHp) (t : Nat) (T : TT) : Prop := h.1 t 0 = nI T.F ∧ h.1 t 1 = nI T.P ∧ h.1 t 2 = nI T.C ∧ (∀ f, f < T.F → h.1 (t + 1) f = nI (T.w f) ∧ h.1 (t + 2) f = nI (T.fo f)) ∧ ∀ p, p < T.P → h.1 (t + 3) p = nI (T.tk p)
theorem zUp {α : Type} (e : Nat → α) (N : Nat) (hs : ∀ k, k < N → e k = e (k + 1)) : e 0 = e N := by
  induction N with
  | zero => rfl
  | succ n ih => exact (ih (fun k hk => hs k (Nat.lt_succ_of_lt hk))).trans (hs n (Nat.lt_succ_self n))
theorem zUpH {α : Type} {e : Nat → zHp → α} {inv : Nat → zHp → Prop} (N : Nat) (hs : ∀ k h, k < N → inv k h → ∃ h', e k h = e (k + 1) h' ∧ inv (k + 1) h') (h : zHp) (i0 : inv 0 h) : ∃ h', e 0 h = e N h' ∧ inv N h' := by
  induction N with
  | zero => exact ⟨h, rfl, i0⟩
  | succ n ih =>
    obtain ⟨h1, e1, i1⟩ := ih (fun k h hk => hs k h (Nat.lt_succ_of_lt hk))
    obtain ⟨h2, e2, i2⟩ := hs n h1 (Nat.lt_succ_self n) i1
    exact ⟨h2, e1.trans e2, i2⟩
theorem p2_64 {k : Nat} (hk : k < 6) : 2 ^ k < 64 := Nat.pow_lt_pow_right (by decide) hk
theorem p2_le {F : Nat} (hF : F ≤ 6) : 2 ^ F ≤ 64 := Nat.pow_le_pow_right (n := 2) (by decide) hF
def wtN (w : Nat → Nat) (s : Nat) : Nat → Nat
  | 0 => 0
  | k + 1 => wtN w s k + (if s.testBit k then w k else 0)
theorem wtN_le {w : Nat → Nat} {s : Nat} : ∀ {k : Nat}, (∀ f, f < k → w f ≤ 99) → wtN w s k ≤ 99 * k
  | 0, _ => Nat.le_refl _
  | k + 1, h => by
    have h1 := wtN_le (s := s) (fun f hf => h f (Nat.lt_succ_of_lt hf))
    have h2 := h k (Nat.lt_succ_self k)
    unfold wtN
    split <;> omega
def clN (fo : Nat → Nat) (s : Nat) : Nat → Nat
  | 0 => s
  | k + 1 => if fo k ≠ 0 ∧ clN fo s k &&& fo k = fo k then clN fo s k ||| 2 ^ k else clN fo s k
theorem or_ltF {a k F : Nat} (ha : a < 2 ^ F) (hk : k < F) : a ||| 2 ^ k < 2 ^ F := Nat.or_lt_two_pow ha (Nat.pow_lt_pow_right (by decide) hk)
theorem clN_lt {fo : Nat → Nat} {s F : Nat} (hs : s < 2 ^ F) : ∀ {k : Nat}, k ≤ F → clN fo s k < 2 ^ F
  | 0, _ => hs
  | k + 1, h => by
    have ih := clN_lt (fo := fo) hs (k := k) (by omega)
    unfold clN
    split
    · exact or_ltF ih (by omega)
    · exact ih
theorem i_irem {a c : Nat} (ha : a < 2 ^ 31) (hc : 0 < c) (hc2 : c < 2 ^ 31) : nI a - nI a / nI c * nI c = nI (a % c) := pk_rem ha hc hc2
theorem Tn_weightOf (sc : zSc) (d : Nat) (g : zSg) (h : zHp) {t : Nat} {T : TT} (q : zS6 g t) (O : TOK T) (D : TnD h t T) {s : Nat} (hs : s < 64) : zRun sc (d + 1) 16 [.ref t, .int (nI s)] g h = some (some (.int (nI (wtN T.w s T.F))), g, h) := by
  obtain ⟨hF6, hP5, hC2, hC9, hf, htk⟩ := O
  obtain ⟨hF, hP, hC, hw, hk⟩ := D
  rw [E_Tn_weightOf sc d g h t q]
  refine (zUp (fun k => zE sc (d + 1) 16 4 [some (.ref t), some (.int (nI s)), some (.int (nI (wtN T.w s k))), some (.int (nI k))] [] g h) T.F (fun k hk => ?_)).trans ?_
  · have hwk := hw k hk
    rw [E_Tn_weightOf_4 sc d g h t q, hF, if_pos (nI_lt hk (by omega)), X_has sc d g h (by omega) (by omega), zBi_some]
    cases hb : s.testBit k with
    | false => rw [z01f, nI_1, show wtN T.w s (k + 1) = wtN T.w s k by simp [wtN, hb]]
    | true => rw [z01t, if_pos (zin_nI (by omega) (by decide)), nI_clamp (by omega), hwk.1, nI_add, nI_1, show wtN T.w s (k + 1) = wtN T.w s k + T.w k by simp [wtN, hb]]
  · rw [E_Tn_weightOf_4 sc d g h t q, hF, if_neg (nI_nlt (Nat.le_refl _) (by omega))]
theorem wt_b {T : TT} (O : TOK T) (s : Nat) : wtN T.w s T.F ≤ 594 := by
  have h1 := wtN_le (w := T.w) (s := s) (fun f hf => (O.2.2.2.2.1 f hf).1)
  have := O.1
  omega
theorem Tn_hatOf (sc : zSc) (d : Nat) (g : zSg) (h : zHp) {t : Nat} {T : TT} (q : zS6 g t) (O : TOK T) (D : TnD h t T) {s : Nat} (hs : s < 64) : zRun sc (d + 2) 15 [.ref t, .int (nI s)] g h = some (some (.int (nI (wtN T.w s T.F % T.C))), g, h) := by
  have hw1 := Tn_weightOf sc d g h q O D hs
  have hle := wt_b O s
  obtain ⟨hF6, hP5, hC2, hC9, hf, htk⟩ := O
  obtain ⟨hF, hP, hC, hw, hk⟩ := D
  rw [E_Tn_hatOf sc (d + 1) g h t q, hC, if_pos (show (0 : Int32) < nI T.C from nI_lt (a := 0) (by omega) (by omega)), if_neg (show ¬ (99 : Int32) < nI T.C from nI_nlt (a := 99) hC9 (by decide)), hw1, zBi_some, hC, if_neg (nI_ne0 (by omega) (by omega)), i_irem (by omega) (by omega) (by omega)]
theorem Tn_closure (sc : zSc) (d : Nat) (g : zSg) (h : zHp) {t : Nat} {T : TT} (q : zS6 g t) (O : TOK T) (D : TnD h t T) {s : Nat} (hs : s < 64) : zRun sc d 18 [.ref t, .int (nI s)] g h = some (some (.int (nI (clN T.fo s T.F))), g, h) := by
  obtain ⟨hF6, hP5, hC2, hC9, hf, htk⟩ := O
  obtain ⟨hF, hP, hC, hw, hk⟩ := D
  rw [E_Tn_closure sc d g h t q]
  refine (zUp (fun k => zE sc d 18 4 [some (.ref t), none, some (.int (nI (clN T.fo s k))), some (.int (nI k))] [] g h) T.F (fun k hk => ?_)).trans ?_
  · have hfk := (hw k hk).2
    have hfl := (hf k hk).2
    have h26 := p2_64 (show k < 6 by omega)
    have hcl := clN_lt (fo := T.fo) (s := s) (F := 6) hs (k := k) (by omega)
    rw [E_Tn_closure_4 sc d g h t q, hF, if_pos (nI_lt hk (by omega)), if_pos (zin_nI (by omega) (by decide)), nI_clamp (by omega), hfk]
    by_cases h0 : T.fo k = 0
    · rw [if_pos (by rw [h0]; rfl), nI_1, show clN T.fo s (k + 1) = clN T.fo s k by simp [clN, h0]]
    · rw [if_neg (nI_ne0 (by omega) (by omega)), if_pos (zin_nI (by omega) (by decide)), if_pos (zin_nI (by omega) (by decide)), nI_and]
      by_cases h1 : clN T.fo s k &&& T.fo k = T.fo k
      · rw [if_pos (by rw [h1]), nI_shl1 (by omega), nI_or, nI_1, show clN T.fo s (k + 1) = clN T.fo s k ||| 2 ^ k by simp [clN, h0, h1]]
      · have h2 : clN T.fo s k &&& T.fo k ≤ T.fo k := Nat.and_le_right
        rw [if_neg (fun z => h1 ((nI_eq (by omega) (by omega)).mp z)), nI_1, show clN T.fo s (k + 1) = clN T.fo s k by simp [clN, h1]]
  · rw [E_Tn_closure_4 sc d g h t q, hF, if_neg (nI_nlt (Nat.le_refl _) (by omega))]
/-- does a set hold all from which something follows -/
def ndB (a s : Nat) : Bool := decide (a ≠ 0) && subN a s 6
theorem subN_iff {a s : Nat} : ∀ {k : Nat}, subN a s k = true ↔ ∀ f, f < k → a.testBit f = true → s.testBit f = true
  | 0 => by simp [subN]
  | k + 1 => by
    unfold subN
    rw [Bool.and_eq_true, subN_iff]
    constructor
    · rintro ⟨h1, h2⟩ f hf ha
      by_cases hk : f = k
      · subst hk
        simpa [ha] using h2
      · exact h1 f (by omega) ha
    · intro h
      refine ⟨fun f hf => h f (by omega), ?_⟩
      have := h k (Nat.lt_succ_self k)
      cases ha : a.testBit k with
      | false => rfl
      | true => simp [this ha]
theorem bit_lt {a f k : Nat} (ha : a < 2 ^ k) (hb : a.testBit f = true) : f < k := by
  rcases Nat.lt_or_ge f k with h1 | h1
  · exact h1
  · have : a < 2 ^ f := Nat.lt_of_lt_of_le ha (Nat.pow_le_pow_right (n := 2) (by decide) h1)
    rw [Nat.testBit_lt_two_pow this] at hb
    cases hb
theorem subN_and {a s : Nat} (ha : a < 64) : subN a s 6 = true ↔ s &&& a = a := by
  rw [subN_iff]
  constructor
  · intro h
    apply Nat.eq_of_testBit_eq
    intro f
    rw [Nat.testBit_and]
    cases hb : a.testBit f with
    | false => simp
    | true => simp [h f (bit_lt (k := 6) ha hb) hb]
  · intro h f hf hb
    rw [← h, Nat.testBit_and, Bool.and_eq_true] at hb
    exact hb.1
theorem clN_step {fo : Nat → Nat} {s k : Nat} (hk : fo k < 64) : clN fo s (k + 1) = if ndB (fo k) (clN fo s k) then clN fo s k ||| 2 ^ k else clN fo s k := by
  have h := subN_and (a := fo k) (s := clN fo s k) hk
  unfold ndB
  rw [clN]
  by_cases h0 : fo k = 0
  · simp [h0]
  · by_cases h1 : clN fo s k &&& fo k = fo k
    · simp [h0, h1, h.mpr h1]
    · have : subN (fo k) (clN fo s k) 6 = false := by
        cases hb : subN (fo k) (clN fo s k) 6 with
        | false => rfl
        | true => exact absurd (h.mp hb) h1
      simp [h0, h1, this]
/-- what a family becomes that learns f: each set with f, closed by the first k facts -/
def imgN (fo : Nat → Nat) (A : Nat → Bool) (f k u : Nat) : Bool := (List.range 64).any (fun s => A s && clN fo (s ||| 2 ^ f) k == u)
theorem imgN_iff {fo : Nat → Nat} {A : Nat → Bool} {f k u : Nat} : imgN fo A f k u = true ↔ ∃ s, s < 64 ∧ A s = true ∧ clN fo (s ||| 2 ^ f) k = u := by
  unfold imgN
  rw [List.any_eq_true]
  constructor
  · rintro ⟨s, hs, h⟩
    rw [Bool.and_eq_true, beq_iff_eq] at h
    exact ⟨s, List.mem_range.mp hs, h.1, h.2⟩
  · rintro ⟨s, hs, h1, h2⟩
    exact ⟨s, List.mem_range.mpr hs, by simp [h1, h2]⟩
theorem or_bit {s f : Nat} (h : s.testBit f = true) : s ||| 2 ^ f = s := by
  apply Nat.eq_of_testBit_eq
  intro i
  rw [Nat.testBit_or, Nat.testBit_two_pow]
  by_cases hi : f = i
  · subst hi; simp [h]
  · simp [hi]
theorem or_add {s f : Nat} (hs : s < 64) (hf : f < 6) (h : s.testBit f = false) : s ||| 2 ^ f = s + 2 ^ f := by
  have : ∀ s, s < 64 → ∀ f, f < 6 → s.testBit f = false → s ||| 2 ^ f = s + 2 ^ f := by decide +kernel
  exact this s hs f hf h
theorem or_sub {s f : Nat} (hs : s < 64) (hf : f < 6) (h : s.testBit f = true) : (s - 2 ^ f) ||| 2 ^ f = s := by
  have : ∀ s, s < 64 → ∀ f, f < 6 → s.testBit f = true → (s - 2 ^ f) ||| 2 ^ f = s := by decide +kernel
  exact this s hs f hf h
theorem or_get (s f : Nat) : (s ||| 2 ^ f).testBit f = true := by
  rw [Nat.testBit_or, Nat.testBit_two_pow_self]
  simp
theorem putF_iff {A : Nat → Bool} {f u : Nat} (hf : f < 6) (hu : u < 64) : putF A f u = true ↔ ∃ s, s < 64 ∧ A s = true ∧ s ||| 2 ^ f = u := by
  unfold putF
  rw [Bool.and_eq_true, Bool.or_eq_true]
  constructor
  · rintro ⟨h1, h2 | h2⟩
    · exact ⟨u, hu, h2, or_bit h1⟩
    · exact ⟨u - 2 ^ f, Nat.lt_of_le_of_lt (Nat.sub_le _ _) hu, h2, or_sub hu hf h1⟩
  · rintro ⟨s, hs, h1, h2⟩
    rw [← h2]
    refine ⟨or_get s f, ?_⟩
    cases hb : s.testBit f with
    | true => rw [or_bit hb]; exact .inl h1
    | false =>
      right
      rw [or_add hs hf hb, Nat.add_sub_cancel]
      exact h1
theorem bool_ext {a b : Bool} (h : a = true ↔ b = true) : a = b := by
  cases a <;> cases b <;> simp_all
theorem img_0 {fo : Nat → Nat} {A : Nat → Bool} {f u : Nat} (hf : f < 6) (hu : u < 64) : putF A f u = imgN fo A f 0 u := by
  apply bool_ext
  rw [putF_iff hf hu, imgN_iff]
  rfl
theorem img_step {fo : Nat → Nat} {A : Nat → Bool} {f k u : Nat} (hf : f < 6) (hk : k < 6) (hfo : fo k < 64) (hu : u < 64) : imgN fo A f (k + 1) u = ((imgN fo A f k u && !(imgN fo A f k u && ndB (fo k) u && !u.testBit k)) || putF (fun u => imgN fo A f k u && ndB (fo k) u && !u.testBit k) k u) := by
  apply bool_ext
  rw [imgN_iff, Bool.or_eq_true, putF_iff hk hu]
  constructor
  · rintro ⟨s, hs, h1, h2⟩
    have hc : clN fo (s ||| 2 ^ f) k < 2 ^ 6 := clN_lt (or_ltF (F := 6) hs hf) (by omega)
    have hi : imgN fo A f k (clN fo (s ||| 2 ^ f) k) = true := imgN_iff.mpr ⟨s, hs, h1, rfl⟩
    rw [clN_step hfo] at h2
    cases hn : ndB (fo k) (clN fo (s ||| 2 ^ f) k) with
    | false =>
      rw [hn, if_neg (by decide)] at h2
      rw [← h2, hi, hn]
      simp
    | true =>
      rw [hn, if_pos rfl] at h2
      cases hb : (clN fo (s ||| 2 ^ f) k).testBit k with
      | true =>
        rw [or_bit hb] at h2
        rw [← h2, hi, hb]
        simp
      | false =>
        right
        exact ⟨_, hc, by simp [hi, hn, hb], h2⟩
  · rintro (h1 | ⟨c, hc, h1, h2⟩)
    · rw [Bool.and_eq_true] at h1
      obtain ⟨h1, h3⟩ := h1
      obtain ⟨s, hs, h4, h5⟩ := imgN_iff.mp h1
      refine ⟨s, hs, h4, ?_⟩
      rw [clN_step hfo, h5]
      cases hn : ndB (fo k) u with
      | false => rfl
      | true =>
        rw [h1, hn] at h3
        rw [if_pos rfl]
        exact or_bit (by simpa using h3)
    · simp only [Bool.and_eq_true] at h1
      obtain ⟨⟨h1, h3⟩, h6⟩ := h1
      obtain ⟨s, hs, h4, h5⟩ := imgN_iff.mp h1
      refine ⟨s, hs, h4, ?_⟩
      rw [clN_step hfo, h5, h3, if_pos rfl]
      exact h2
