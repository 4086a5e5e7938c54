/-! ===== a party ===== -/
def lwN (n : Nat) : Nat → Nat → Nat
  | 0, k => k
  | m + 1, k => if n.testBit k then k else lwN n m (k + 1)
def lw6 (n : Nat) : Nat := lwN n 6 0
theorem lw_ok : ∀ n, n < 64 → n ≠ 0 → n.testBit (lw6 n) = true ∧ lw6 n < 6 := by decide +kernel
theorem nt_i : ∀ n, n < 64 → n ≠ 0 → (nI n ^^^ (-1)) &&& (nI n - 1) = nI (2 ^ (lw6 n) - 1) := by decide +kernel
theorem JI_nt (sc : zSc) (d : Nat) (g : zSg) (h : zHp) {n : Nat} (h0 : n ≠ 0) (hn : n < 64) : zRun sc d 90 [.int (nI n)] g h = some (some (.int (nI (lw6 n))), g, h) := by
  have hk := (lw_ok n hn h0).2
  rw [E_JI_numberOfTrailingZeros, nt_i n hn h0]
  revert hk
  generalize lw6 n = k
  intro hk
  match k, hk with
  | 0, _ => rw [if_neg (by decide)]; rfl
  | 1, _ => rw [if_pos (by decide), if_neg (by decide), E_JI_numberOfTrailingZeros_34, if_neg (by decide), E_JI_numberOfTrailingZeros_49, if_neg (by decide), E_JI_numberOfTrailingZeros_62, if_neg (by decide)]; rfl
  | 2, _ => rw [if_pos (by decide), if_neg (by decide), E_JI_numberOfTrailingZeros_34, if_neg (by decide), E_JI_numberOfTrailingZeros_49, if_neg (by decide), E_JI_numberOfTrailingZeros_62, if_neg (by decide)]; rfl
  | 3, _ => rw [if_pos (by decide), if_neg (by decide), E_JI_numberOfTrailingZeros_34, if_neg (by decide), E_JI_numberOfTrailingZeros_49, if_neg (by decide), E_JI_numberOfTrailingZeros_62, if_pos (by decide)]; rfl
  | 4, _ => rw [if_pos (by decide), if_neg (by decide), E_JI_numberOfTrailingZeros_34, if_neg (by decide), E_JI_numberOfTrailingZeros_49, if_neg (by decide), E_JI_numberOfTrailingZeros_62, if_pos (by decide)]; rfl
  | 5, _ => rw [if_pos (by decide), if_neg (by decide), E_JI_numberOfTrailingZeros_34, if_neg (by decide), E_JI_numberOfTrailingZeros_49, if_pos (by decide), E_JI_numberOfTrailingZeros_62, if_neg (by decide)]; rfl
  | k + 6, hk => omega
def saf (T : TT) (K : KK) (S a b : Nat) : Nat := if a = b then 0 else (K.kn a &&& sureN (K.V a b) T.F) &&& S
def oth (P a b : Nat) : Nat := anN (2 ^ P - 1) (2 ^ a ||| 2 ^ b)
theorem p_m1 {P : Nat} (hP : P ≤ 5) : 2 ^ P - 1 < 32 := by
  have := p2_32 hP
  have := Nat.two_pow_pos P
  omega
theorem oth_bit {P a b k : Nat} (hP : P ≤ 5) : (oth P a b).testBit k = (decide (k < P) && !(decide (a = k) || decide (b = k))) := by
  have := p_m1 hP
  unfold oth
  rw [anN_bit (by omega), two_m1, Nat.testBit_or, Nat.testBit_two_pow, Nat.testBit_two_pow]
theorem oth_lt {P a b : Nat} (hP : P ≤ 5) : oth P a b < 32 := anN_lt (F := 5) (p_m1 hP) (by decide)
theorem oth_2 {P a b : Nat} (hP : P ≤ 5) : anN (anN (2 ^ P - 1) (2 ^ a)) (2 ^ b) = oth P a b := by
  have h1 := p_m1 hP
  have h2 : anN (2 ^ P - 1) (2 ^ a) < 32 := anN_lt (F := 5) h1 (by decide)
  apply Nat.eq_of_testBit_eq
  intro k
  rw [anN_bit (by omega), anN_bit (by omega), oth_bit hP, two_m1, Nat.testBit_two_pow, Nat.testBit_two_pow]
  cases decide (k < P) <;> cases decide (a = k) <;> cases decide (b = k) <;> rfl
theorem nI_an {a b : Nat} (ha : a < 2 ^ 31) (hb : b < 2 ^ 31) : nI a &&& (nI b ^^^ (-1)) = nI (anN a b) := nI_andn ha hb
def paW (T : TT) (K : KK) (S k : Nat) : Option Nat := if saf T K S (k / T.P) (k % T.P) = 0 then none else some k
def paF (T : TT) (K : KK) (S : Nat) : Option Nat := fsR (paW T K S) (T.P * T.P) 0
def paS (T : TT) (K : KK) (S k : Nat) : KK := sayK T K (k / T.P) (k % T.P) (lw6 (saf T K S (k / T.P) (k % T.P))) (oth T.P (k / T.P) (k % T.P))
def paN (T : TT) (S : Nat) : Nat → KK → Nat × KK
  | 0, K => (0, K)
  | m + 1, K => match paF T K S with
    | none => (0, K)
    | some k => ((paN T S m (paS T K S k)).1 + 1, (paN T S m (paS T K S k)).2)
theorem dm_1 : ∀ P, P < 6 → ∀ k, k < 25 → k < P * P → k / P < P ∧ k % P < P := by decide +kernel
theorem dm_2 : ∀ P, P < 6 → ∀ k, k < 25 → k < P * P → k % P + 1 < P → (k + 1) / P = k / P ∧ (k + 1) % P = k % P + 1 ∧ k + 1 < P * P := by decide +kernel
theorem dm_3 : ∀ P, P < 6 → ∀ k, k < 25 → k < P * P → ¬ k % P + 1 < P → k % P + 1 = P := by decide +kernel
theorem dm_4 : ∀ P, P < 6 → ∀ k, k < 25 → (k < P * P ∧ ¬ k % P + 1 < P ∧ k / P + 1 < P) → (k + 1) / P = k / P + 1 ∧ (k + 1) % P = 0 ∧ k + 1 < P * P := by decide +kernel
theorem dm_5 : ∀ P, P < 6 → ∀ k, k < 25 → (k < P * P ∧ ¬ k % P + 1 < P ∧ ¬ k / P + 1 < P) → k + 1 = P * P ∧ k / P + 1 = P := by decide +kernel
theorem dm_n : ∀ P, P < 6 → ∀ k, k < 25 → k < P * P → (k % P + 1 < P → (k + 1) / P = k / P ∧ (k + 1) % P = k % P + 1 ∧ k + 1 < P * P) ∧ (¬ k % P + 1 < P → k % P + 1 = P ∧ (k / P + 1 < P → (k + 1) / P = k / P + 1 ∧ (k + 1) % P = 0 ∧ k + 1 < P * P) ∧ (¬ k / P + 1 < P → k + 1 = P * P ∧ k / P + 1 = P)) ∧ k / P < P ∧ k % P < P := fun P hP k hk h => ⟨dm_2 P hP k hk h, fun z => ⟨dm_3 P hP k hk h z, fun y => dm_4 P hP k hk ⟨h, z, y⟩, fun y => dm_5 P hP k hk ⟨h, z, y⟩⟩, dm_1 P hP k hk h⟩
theorem sq_25 {P : Nat} (hP : P ≤ 5) : P * P ≤ 25 := Nat.mul_le_mul hP hP
theorem saf_b {T : TT} {K : KK} (O : TOK T) (kk : KOK T K) {S a b : Nat} (ha : a < T.P) : saf T K S a b < 64 := by
  unfold saf
  split
  · decide
  · have h1 := KOK_kn O kk ha
    have h2 : (K.kn a &&& sureN (K.V a b) T.F) &&& S ≤ K.kn a &&& sureN (K.V a b) T.F := Nat.and_le_left
    have h3 : K.kn a &&& sureN (K.V a b) T.F ≤ K.kn a := Nat.and_le_left
    omega
theorem saf_f {T : TT} {K : KK} (O : TOK T) (kk : KOK T K) {S a b : Nat} (ha : a < T.P) (h : saf T K S a b ≠ 0) : a ≠ b ∧ lw6 (saf T K S a b) < T.F ∧ (sureN (K.V a b) T.F).testBit (lw6 (saf T K S a b)) = true := by
  have h1 := lw_ok _ (saf_b O kk (S := S) (b := b) ha) h
  have hab : a ≠ b := fun z => h (if_pos z)
  have h2 : (sureN (K.V a b) T.F).testBit (lw6 (saf T K S a b)) = true := by
    have h3 := h1.1
    have e : saf T K S a b = (K.kn a &&& sureN (K.V a b) T.F) &&& S := if_neg hab
    have h4 : ((K.kn a &&& sureN (K.V a b) T.F) &&& S).testBit (lw6 (saf T K S a b)) = true := by rw [← e]; exact h3
    rw [Nat.testBit_and, Nat.testBit_and, Bool.and_eq_true, Bool.and_eq_true] at h4
    exact h4.1.2
  exact ⟨hab, bit_lt (sN_in O.1 _) h2, h2⟩
theorem fsR_v {w : Nat → Option Nat} (hw : ∀ k j, w k = some j → j = k) {m o j : Nat} (h : fsR w m o = some j) : o ≤ j ∧ j < o + m ∧ w j = some j := by
  obtain ⟨i, hi, e⟩ := fsR_some h
  have := hw _ _ e
  subst this
  exact ⟨by omega, by omega, e⟩
theorem paW_v {T : TT} {K : KK} {S : Nat} : ∀ k j, paW T K S k = some j → j = k := by
  intro k j h
  unfold paW at h
  split at h
  · cases h
  · cases h; rfl
theorem paF_b {T : TT} {K : KK} {S k : Nat} (h : paF T K S = some k) : k < T.P * T.P ∧ saf T K S (k / T.P) (k % T.P) ≠ 0 := by
  obtain ⟨-, h1, h2⟩ := fsR_v paW_v h
  refine ⟨by omega, fun z => ?_⟩
  unfold paW at h2
  rw [if_pos z] at h2
  cases h2
theorem paS_ok {T : TT} {K : KK} (O : TOK T) (kk : KOK T K) {S k : Nat} (h : paF T K S = some k) : KOK T (paS T K S k) := by
  obtain ⟨h1, h2⟩ := paF_b h
  have hP5 := O.2.1
  have h25 := sq_25 hP5
  have hd := dm_n T.P (by omega) k (by omega) h1
  exact KOK_say O kk (saf_f O kk hd.2.2.1 h2).2.1 (oth_lt hP5)
theorem X_first (sc : zSc) (d : Nat) (h : zHp) {t : Nat} {T : TT} {K : KK} (ht : zTw t = true) (h8 : h.2.2 0 8 = some t) (O : TOK T) (S : TnS h t T) (R : TkD h 26 T K) (kk : KOK T K) {u : Nat} (hu : u < 64) : (paF T K u = none → zRun sc (d + 6) 89 [.ref 0, .int (nI u)] zGL h = some (some (.int 0), zGL, h)) ∧ (∀ j, paF T K u = some j → ∃ h', zRun sc (d + 6) 89 [.ref 0, .int (nI u)] zGL h = some (some (.int 1), zGL, h') ∧ TkD h' 26 T (paS T K u j) ∧ zFr 26 32 h h') := by
  have h15 := tw_15 ht
  have hP5 := O.2.1
  have hF6 := O.1
  have h25 := sq_25 hP5
  have hpp := Nat.two_pow_pos T.P
  have hm1 := p_m1 hP5
  have key : ∀ m k, k + (m + 1) = T.P * T.P → (fsR (paW T K u) (m + 1) k = none → zE sc (d + 6) 89 15 [some (.ref 0), some (.int (nI u)), some (.int (nI (k / T.P))), some (.int (nI (k % T.P))), none, none] [] zGL h = some (some (.int 0), zGL, h)) ∧ (∀ j, fsR (paW T K u) (m + 1) k = some j → ∃ h', zE sc (d + 6) 89 15 [some (.ref 0), some (.int (nI u)), some (.int (nI (k / T.P))), some (.int (nI (k % T.P))), none, none] [] zGL h = some (some (.int 1), zGL, h') ∧ TkD h' 26 T (paS T K u j) ∧ zFr 26 32 h h') := by
    intro m
    induction m with
    | zero =>
      intro k hk
      obtain ⟨d1, d2, d3, d4⟩ := dm_n T.P (by omega) k (by omega) (by omega)
      have hnx : ¬ k % T.P + 1 < T.P := fun z => by have := d1 z; omega
      have hny : ¬ k / T.P + 1 < T.P := fun z => by have := (d2 hnx).2.1 z; omega
      have e50 : zE sc (d + 6) 89 15 [some (.ref 0), some (.int (nI u)), some (.int (nI (k / T.P))), some (.int (nI (k % T.P))), none, none] [] zGL h = zE sc (d + 6) 89 50 [some (.ref 0), some (.int (nI u)), some (.int (nI (k / T.P))), some (.int (nI (k % T.P))), none, none] [.int (nI (saf T K u (k / T.P) (k % T.P)))] zGL h := by
        rw [E_X_sayFirstSafe_15 sc (d + 5), zOT_k h8 ht, S.1.2.1, if_pos (nI_lt d4 (by omega))]
        unfold saf
        by_cases hab : k / T.P = k % T.P
        · rw [if_pos (by rw [hab]), if_pos hab]; rfl
        · rw [if_neg (fun z => hab ((nI_eq (by omega) (by omega)).mp z)), zOT_k h8 ht, Tk_safeFacts sc (d + 2) zGL h zS4_26 (zTw_6 ht) O S.1 R d3 d4 hab, zBi_some, nI_and, if_neg hab]
      have hsb := saf_b O kk (S := u) (b := k % T.P) d3
      rw [e50]
      by_cases hz : saf T K u (k / T.P) (k % T.P) = 0
      · have hw : paW T K u k = none := if_pos hz
        rw [fsR_n hw]
        refine ⟨fun _ => ?_, fun j hj => by cases hj⟩
        rw [E_X_sayFirstSafe_50 sc (d + 5), if_pos (by rw [hz]; rfl), nI_1, E_X_sayFirstSafe_15 sc (d + 5), zOT_k h8 ht, S.1.2.1, if_neg (nI_nlt (by omega) (by omega)), nI_1, E_X_sayFirstSafe_2 sc (d + 5), zOT_k h8 ht, S.1.2.1, if_neg (nI_nlt (by omega) (by omega))]
      · have hw : paW T K u k = some k := if_neg hz
        obtain ⟨s1, s2, s3⟩ := saf_f O kk d3 hz
        rw [fsR_y hw]
        refine ⟨fun hj => (by cases hj), fun j hj => ?_⟩
        cases hj
        obtain ⟨h', g1, g2, g3⟩ := Tk_speak sc d zGL h zS4_26 (zTw_6 ht) (by omega) O S R kk d3 d4 s2 (oth_lt (a := k / T.P) (b := k % T.P) hP5)
        refine ⟨h', ?_, g2, g3⟩
        have p1 : 2 ^ (k / T.P) ||| 2 ^ (k % T.P) < 2 ^ 5 := Nat.or_lt_two_pow (Nat.pow_lt_pow_right (by decide) (by omega)) (Nat.pow_lt_pow_right (by decide) (by omega))
        rw [E_X_sayFirstSafe_50 sc (d + 5), if_neg (nI_ne0 (by omega) (by omega)), X_everybody sc _ h ht h8 O S.1, zBi_some, zOT_k h8 ht, JI_nt sc _ zGL h hz hsb, zBi_some, nI_shl1 (by omega), nI_shl1 (by omega), nI_or, nI_an (by omega) (by omega)]
        show zBi (zRun sc (d + 5) 77 [.ref 26, .ref t, .int (nI (k / T.P)), .int (nI (k % T.P)), .int (nI (lw6 (saf T K u (k / T.P) (k % T.P)))), .int (nI (oth T.P (k / T.P) (k % T.P)))] zGL h) zGL _ = _
        rw [g1, zBi_some]
    | succ m ih =>
      intro k hk
      obtain ⟨d1, d2, d3, d4⟩ := dm_n T.P (by omega) k (by omega) (by omega)
      have e50 : zE sc (d + 6) 89 15 [some (.ref 0), some (.int (nI u)), some (.int (nI (k / T.P))), some (.int (nI (k % T.P))), none, none] [] zGL h = zE sc (d + 6) 89 50 [some (.ref 0), some (.int (nI u)), some (.int (nI (k / T.P))), some (.int (nI (k % T.P))), none, none] [.int (nI (saf T K u (k / T.P) (k % T.P)))] zGL h := by
        rw [E_X_sayFirstSafe_15 sc (d + 5), zOT_k h8 ht, S.1.2.1, if_pos (nI_lt d4 (by omega))]
        unfold saf
        by_cases hab : k / T.P = k % T.P
        · rw [if_pos (by rw [hab]), if_pos hab]; rfl
        · rw [if_neg (fun z => hab ((nI_eq (by omega) (by omega)).mp z)), zOT_k h8 ht, Tk_safeFacts sc (d + 2) zGL h zS4_26 (zTw_6 ht) O S.1 R d3 d4 hab, zBi_some, nI_and, if_neg hab]
      have hsb := saf_b O kk (S := u) (b := k % T.P) d3
      rw [e50]
      by_cases hz : saf T K u (k / T.P) (k % T.P) = 0
      · have hw : paW T K u k = none := if_pos hz
        rw [fsR_n hw]
        have hnext : zE sc (d + 6) 89 50 [some (.ref 0), some (.int (nI u)), some (.int (nI (k / T.P))), some (.int (nI (k % T.P))), none, none] [.int (nI (saf T K u (k / T.P) (k % T.P)))] zGL h = zE sc (d + 6) 89 15 [some (.ref 0), some (.int (nI u)), some (.int (nI ((k + 1) / T.P))), some (.int (nI ((k + 1) % T.P))), none, none] [] zGL h := by
          rw [E_X_sayFirstSafe_50 sc (d + 5), if_pos (by rw [hz]; rfl), nI_1]
          by_cases hx : k % T.P + 1 < T.P
          · have := d1 hx
            rw [this.1, this.2.1]
          · obtain ⟨x1, x2, x3⟩ := d2 hx
            have hy : k / T.P + 1 < T.P := Classical.byContradiction fun z => by have := x3 z; omega
            have := x2 hy
            rw [E_X_sayFirstSafe_15 sc (d + 5), zOT_k h8 ht, S.1.2.1, if_neg (nI_nlt (by omega) (by omega)), nI_1, E_X_sayFirstSafe_2 sc (d + 5), zOT_k h8 ht, S.1.2.1, if_pos (nI_lt hy (by omega)), this.1, this.2.1]
            rfl
        rw [hnext]
        exact ih (k + 1) (by omega)
      · have hw : paW T K u k = some k := if_neg hz
        obtain ⟨s1, s2, s3⟩ := saf_f O kk d3 hz
        rw [fsR_y hw]
        refine ⟨fun hj => (by cases hj), fun j hj => ?_⟩
        cases hj
        obtain ⟨h', g1, g2, g3⟩ := Tk_speak sc d zGL h zS4_26 (zTw_6 ht) (by omega) O S R kk d3 d4 s2 (oth_lt (a := k / T.P) (b := k % T.P) hP5)
        refine ⟨h', ?_, g2, g3⟩
        have p1 : 2 ^ (k / T.P) ||| 2 ^ (k % T.P) < 2 ^ 5 := Nat.or_lt_two_pow (Nat.pow_lt_pow_right (by decide) (by omega)) (Nat.pow_lt_pow_right (by decide) (by omega))
        rw [E_X_sayFirstSafe_50 sc (d + 5), if_neg (nI_ne0 (by omega) (by omega)), X_everybody sc _ h ht h8 O S.1, zBi_some, zOT_k h8 ht, JI_nt sc _ zGL h hz hsb, zBi_some, nI_shl1 (by omega), nI_shl1 (by omega), nI_or, nI_an (by omega) (by omega)]
        show zBi (zRun sc (d + 5) 77 [.ref 26, .ref t, .int (nI (k / T.P)), .int (nI (k % T.P)), .int (nI (lw6 (saf T K u (k / T.P) (k % T.P)))), .int (nI (oth T.P (k / T.P) (k % T.P)))] zGL h) zGL _ = _
        rw [g1, zBi_some]
  unfold paF
  rw [E_X_sayFirstSafe sc (d + 5), E_X_sayFirstSafe_2 sc (d + 5), zOT_k h8 ht, S.1.2.1]
  by_cases hP : T.P = 0
  · rw [hP]
    exact ⟨fun _ => by rw [if_neg (by decide)], fun j hj => by cases hj⟩
  · have hsq : 0 < T.P * T.P := Nat.mul_pos (by omega) (by omega)
    have k0 := key (T.P * T.P - 1) 0 (by omega)
    rw [show T.P * T.P - 1 + 1 = T.P * T.P by omega, Nat.zero_div, Nat.zero_mod] at k0
    rw [if_pos (show (0 : Int32) < nI T.P from nI_lt (a := 0) (by omega) (by omega))]
    exact k0
