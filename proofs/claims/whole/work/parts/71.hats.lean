/-! ===== the count of hats ===== -/
def allR (w : Nat → Bool) : Nat → Nat → Bool
  | 0, _ => true
  | n + 1, k => w k && allR w n (k + 1)
theorem allR_iff {w : Nat → Bool} : ∀ {n k : Nat}, allR w n k = true ↔ ∀ j, j < n → w (k + j) = true
  | 0, k => by simp [allR]
  | n + 1, k => by
    unfold allR
    rw [Bool.and_eq_true, allR_iff]
    constructor
    · rintro ⟨h1, h2⟩ j hj
      cases j with
      | zero => exact h1
      | succ j => rw [show k + (j + 1) = k + 1 + j by omega]; exact h2 j (by omega)
    · intro h
      exact ⟨h 0 (by omega), fun j hj => by rw [show k + 1 + j = k + (j + 1) by omega]; exact h (j + 1) (by omega)⟩
def hpB (T : TT) (d m : Nat) : Bool := allR (fun s => allR (fun t => !(clB T s && clB T t && decide (s ≠ t) && decide (pN (s ^^^ t) 6 ≤ d)) || decide (wtN T.w s T.F % m ≠ wtN T.w t T.F % m)) 64 0) 64 0
theorem hpB_iff {T : TT} {d m : Nat} : hpB T d m = true ↔ ∀ s t, s < 64 → t < 64 → clB T s = true → clB T t = true → s ≠ t → pN (s ^^^ t) 6 ≤ d → wtN T.w s T.F % m ≠ wtN T.w t T.F % m := by
  unfold hpB
  rw [allR_iff]
  constructor
  · intro h s t hs ht cs ct hn hp
    have h1 := h s hs
    rw [allR_iff] at h1
    have h2 := h1 t ht
    rw [Nat.zero_add, Nat.zero_add, cs, ct] at h2
    simpa [hn, hp] using h2
  · intro h s hs
    rw [allR_iff]
    intro t ht
    rw [Nat.zero_add, Nat.zero_add]
    cases cs : clB T s with
    | false => rfl
    | true =>
      cases ct : clB T t with
      | false => rfl
      | true =>
        by_cases hn : s = t
        · simp [hn]
        · by_cases hp : pN (s ^^^ t) 6 ≤ d
          · have := h s t hs ht cs ct hn hp
            simp [hn, hp, this]
          · simp [hp]
def dfN (a b : Nat) : Nat := if a < b then b - a else a - b
theorem dfN_le {a b n : Nat} (ha : a ≤ n) (hb : b ≤ n) : dfN a b ≤ n := by unfold dfN; split <;> omega
theorem df_neg : ∀ c, c < 595 → 0 < c → -(nI c) < 0 ∧ -(-(nI c)) = nI c := by decide +kernel
theorem dfN_ab {a b : Nat} (ha : a ≤ 594) (hb : b ≤ 594) : (if nI a - nI b < 0 then -(nI a - nI b) else nI a - nI b) = nI (dfN a b) := by
  unfold dfN
  by_cases h : a < b
  · have h1 : nI a - nI b = -(nI (b - a)) := by
      rw [← nI_sub (by omega : a ≤ b)]
      exact (Int32.neg_sub).symm
    have h2 := df_neg (b - a) (by omega) (by omega)
    rw [h1, if_pos h2.1, h2.2, if_pos h]
  · rw [nI_sub (by omega), if_neg (nI_pos (by omega)), if_neg h]
theorem df_mod {a b m : Nat} (hm : 0 < m) : a % m = b % m ↔ ∃ i, dfN a b = i * m := by
  unfold dfN
  constructor
  · intro h
    by_cases hl : a < b
    · rw [if_pos hl]
      refine ⟨b / m - a / m, ?_⟩
      have h1 := Nat.div_add_mod a m
      have h2 := Nat.div_add_mod b m
      rw [Nat.sub_mul, Nat.mul_comm _ m, Nat.mul_comm _ m]
      omega
    · rw [if_neg hl]
      refine ⟨a / m - b / m, ?_⟩
      have h1 := Nat.div_add_mod a m
      have h2 := Nat.div_add_mod b m
      rw [Nat.sub_mul, Nat.mul_comm _ m, Nat.mul_comm _ m]
      omega
  · rintro ⟨i, h⟩
    by_cases hl : a < b
    · rw [if_pos hl] at h
      rw [show b = a + i * m by omega, Nat.add_mul_mod_self_right]
    · rw [if_neg hl] at h
      rw [show a = b + i * m by omega, Nat.add_mul_mod_self_right]
def apT (T : TT) (d s u k : Nat) : Bool := (List.range u).any (fun t => decide (s < t) && clB T t && decide (pN (s ^^^ t) 6 ≤ d) && decide (dfN (wtN T.w s T.F) (wtN T.w t T.F) = k))
theorem apT_s {T : TT} {d s u k : Nat} : apT T d s (u + 1) k = (apT T d s u k || (decide (s < u) && clB T u && decide (pN (s ^^^ u) 6 ≤ d) && decide (dfN (wtN T.w s T.F) (wtN T.w u T.F) = k))) := by
  unfold apT
  rw [List.range_succ, List.any_append]
  simp
theorem apT_0 {T : TT} {d s k : Nat} : apT T d s (s + 1) k = false := by
  unfold apT
  rw [List.any_eq_false]
  intro t ht
  have := List.mem_range.mp ht
  simp [show ¬ s < t by omega]
theorem apT_iff {T : TT} {d s u k : Nat} : apT T d s u k = true ↔ ∃ t, t < u ∧ s < t ∧ clB T t = true ∧ pN (s ^^^ t) 6 ≤ d ∧ dfN (wtN T.w s T.F) (wtN T.w t T.F) = k := by
  unfold apT
  rw [List.any_eq_true]
  constructor
  · rintro ⟨t, ht, h⟩
    simp only [Bool.and_eq_true, decide_eq_true_eq] at h
    exact ⟨t, List.mem_range.mp ht, h.1.1.1, h.1.1.2, h.1.2, h.2⟩
  · rintro ⟨t, ht, h1, h2, h3, h4⟩
    exact ⟨t, List.mem_range.mpr ht, by simp [h1, h2, h3, h4]⟩
def apS (T : TT) (d u k : Nat) : Bool := (List.range u).any (fun s => clB T s && apT T d s 64 k)
theorem apS_s {T : TT} {d u k : Nat} : apS T d (u + 1) k = (apS T d u k || (clB T u && apT T d u 64 k)) := by
  unfold apS
  rw [List.range_succ, List.any_append]
  simp
theorem apS_iff {T : TT} {d u k : Nat} : apS T d u k = true ↔ ∃ s, s < u ∧ clB T s = true ∧ apT T d s 64 k = true := by
  unfold apS
  rw [List.any_eq_true]
  constructor
  · rintro ⟨s, hs, h⟩
    rw [Bool.and_eq_true] at h
    exact ⟨s, List.mem_range.mp hs, h.1, h.2⟩
  · rintro ⟨s, hs, h1, h2⟩
    exact ⟨s, List.mem_range.mpr hs, by simp [h1, h2]⟩
theorem pN_xor0 : ∀ x, x < 64 → (pN x 6 = 0 ↔ x = 0) := by decide +kernel
theorem xor_64 {s t : Nat} (hs : s < 64) (ht : t < 64) : s ^^^ t < 64 := Nat.xor_lt_two_pow (n := 6) hs ht
theorem xor_0 {s t : Nat} (h : s ^^^ t = 0) : s = t := by
  apply Nat.eq_of_testBit_eq
  intro i
  have h1 : (s ^^^ t).testBit i = false := by rw [h]; exact Nat.zero_testBit i
  rw [Nat.testBit_xor] at h1
  cases hs : s.testBit i <;> cases ht : t.testBit i <;> simp_all
theorem pN_pos {s t : Nat} (hs : s < 64) (ht : t < 64) : 1 ≤ pN (s ^^^ t) 6 ↔ s ≠ t := by
  have h := pN_xor0 (s ^^^ t) (xor_64 hs ht)
  constructor
  · rintro h1 rfl
    rw [Nat.xor_self] at h1
    exact absurd h1 (by decide)
  · intro hn
    rcases Nat.eq_zero_or_pos (pN (s ^^^ t) 6) with h0 | h0
    · exact absurd (xor_0 (h.mp h0)) hn
    · exact h0
theorem ap_hp {T : TT} (O : TOK T) {d m : Nat} (hm : 0 < m) : (∀ i, i * m ≤ 594 → apS T d 64 (i * m) = false) ↔ hpB T d m = true := by
  rw [hpB_iff]
  constructor
  · intro h s t hs ht cs ct hn hp he
    rcases Nat.lt_or_ge s t with hl | hl
    · obtain ⟨i, hi⟩ := (df_mod hm).mp he
      have h1 := h i (by rw [← hi]; exact dfN_le (wt_b O s) (wt_b O t))
      have h2 : apS T d 64 (i * m) = true := apS_iff.mpr ⟨s, hs, cs, apT_iff.mpr ⟨t, ht, hl, ct, hp, hi⟩⟩
      rw [h1] at h2; cases h2
    · obtain ⟨i, hi⟩ := (df_mod hm).mp he.symm
      have h1 := h i (by rw [← hi]; exact dfN_le (wt_b O t) (wt_b O s))
      have h2 : apS T d 64 (i * m) = true := apS_iff.mpr ⟨t, ht, ct, apT_iff.mpr ⟨s, hs, by omega, cs, by rw [Nat.xor_comm]; exact hp, hi⟩⟩
      rw [h1] at h2; cases h2
  · intro h i hi
    cases hb : apS T d 64 (i * m) with
    | false => rfl
    | true =>
      obtain ⟨s, hs, cs, h1⟩ := apS_iff.mp hb
      obtain ⟨t, ht, hl, ct, hp, he⟩ := apT_iff.mp h1
      exact absurd ((df_mod hm).mpr ⟨i, he⟩) (h s t hs ht cs ct (by omega) hp)
theorem Hc_to (sc : zSc) (d : Nat) (h0 : zHp) {t : Nat} {T : TT} (ht : zTw t = true) (O : TOK T) (S0 : TnS h0 t T) {dd s : Nat} (hs : s < 64) (hd : dd ≤ 6) (X : Nat → Bool) (hX : ∀ k, k ≤ 594 → h0.1 20 k = bI (X k)) : ∃ h', zRun sc (d + 2) 102 [.ref 19, .ref t, .int (nI dd), .int (nI s)] zGL h0 = some (none, zGL, h') ∧ zFr 20 21 h0 h' ∧ ∀ k, k ≤ 594 → h'.1 20 k = bI (X k || apT T dd s 64 k) := by
  have qt := zTw_6 ht
  have h15 := tw_15 ht
  have hws := wt_b O s
  have key : ∀ n u h, u + n = 64 → s < u → zFr 20 21 h0 h → (∀ k, k ≤ 594 → h.1 20 k = bI (X k || apT T dd s u k)) → ∃ h', zE sc (d + 2) 102 12 [some (.ref 19), some (.ref t), some (.int (nI dd)), some (.int (nI s)), some (.int (nI (wtN T.w s T.F))), some (.int (nI u)), none] [] zGL h = some (none, zGL, h') ∧ zFr 20 21 h0 h' ∧ ∀ k, k ≤ 594 → h'.1 20 k = bI (X k || apT T dd s 64 k) := by
    intro n
    induction n with
    | zero =>
      intro u h hu hsu f i
      have : u = 64 := by omega
      subst this
      refine ⟨h, ?_, f, i⟩
      rw [E_Hc_findDifferencesTo_12 sc _ h t qt, if_neg (iG (m := 64) (n := 64) rfl (by omega) (by omega))]
    | succ n ih =>
      intro u h hu hsu f i
      have S := TnS_fr f (by omega) S0
      have hwu := wt_b O u
      have hxl := xor_64 hs (show u < 64 by omega)
      have hpl : pN (s ^^^ u) 6 ≤ 6 := cN_le _ 6
      have hdl := dfN_le hws hwu
      have skip : (clB T u && decide (pN (s ^^^ u) 6 ≤ dd)) = false → ∀ k, k ≤ 594 → h.1 20 k = bI (X k || apT T dd s (u + 1) k) := by
        intro hb k hk
        rw [i k hk, apT_s]
        have : (decide (s < u) && clB T u && decide (pN (s ^^^ u) 6 ≤ dd) && decide (dfN (wtN T.w s T.F) (wtN T.w u T.F) = k)) = false := by
          rw [Bool.and_assoc (decide (s < u)), hb]
          simp
        rw [this, Bool.or_false]
      rw [E_Hc_findDifferencesTo_12 sc _ h t qt, if_pos (iL (m := 64) (n := 64) rfl (by omega) (by decide)), S.2.2.2, Fa_holds sc _ zGL h _ (by omega), zBi_some]
      cases hc : clB T u with
      | false =>
        rw [z01f, nI_1]
        exact ih (u + 1) h (by omega) (by omega) f (skip (by rw [hc]; rfl))
      | true =>
        rw [z01t, nI_xor, JI_bc sc _ zGL h hxl, zBi_some]
        by_cases hp : dd < pN (s ^^^ u) 6
        · rw [if_pos (nI_lt hp (by omega)), nI_1]
          exact ih (u + 1) h (by omega) (by omega) f (skip (by rw [hc]; simp; omega))
        · rw [if_neg (nI_nlt (by omega) (by omega)), Tn_weightOf sc d zGL h qt O S.1 (by omega), zBi_some, JM_ab, zBi_some, dfN_ab hws hwu, if_neg (iG' (m := 594) (n := 594) rfl hdl (by decide)), if_pos (zin_nI (by omega) (by decide)), nI_clamp (by omega), nI_1]
          refine ih (u + 1) _ (by omega) (by omega) (zFr_t f (zFr_I (by omega) (by omega))) ?_
          intro k hk
          rw [zPI_1, apT_s]
          by_cases hkk : k = dfN (wtN T.w s T.F) (wtN T.w u T.F)
          · rw [if_pos ⟨rfl, hkk⟩]
            have : (decide (s < u) && clB T u && decide (pN (s ^^^ u) 6 ≤ dd) && decide (dfN (wtN T.w s T.F) (wtN T.w u T.F) = k)) = true := by
              simp [hsu, hc, hkk, show pN (s ^^^ u) 6 ≤ dd by omega]
            rw [this]
            simp [bI]
          · rw [if_neg (by omega), i k hk]
            have : (decide (s < u) && clB T u && decide (pN (s ^^^ u) 6 ≤ dd) && decide (dfN (wtN T.w s T.F) (wtN T.w u T.F) = k)) = false := by
              simp [show ¬ dfN (wtN T.w s T.F) (wtN T.w u T.F) = k from fun z => hkk z.symm]
            rw [this, Bool.or_false]
  rw [E_Hc_findDifferencesTo sc _ h0 t qt, Tn_weightOf sc d zGL h0 qt O S0.1 hs, zBi_some, nI_1]
  refine key (63 - s) (s + 1) h0 (by omega) (by omega) (zFr_r _ _ _) ?_
  intro k hk
  rw [apT_0, Bool.or_false]
  exact hX k hk
theorem Hc_fd (sc : zSc) (d : Nat) (h0 : zHp) {t : Nat} {T : TT} (ht : zTw t = true) (O : TOK T) (S0 : TnS h0 t T) {dd : Nat} (hd : dd ≤ 6) : ∃ h', zRun sc (d + 3) 101 [.ref 19, .ref t, .int (nI dd)] zGL h0 = some (none, zGL, h') ∧ zFr 20 21 h0 h' ∧ ∀ k, k ≤ 594 → h'.1 20 k = bI (apS T dd 64 k) := by
  have qt := zTw_6 ht
  have h15 := tw_15 ht
  rw [E_Hc_findDifferences sc _ h0 t qt]
  obtain ⟨h1, e1, i1, i2⟩ := zUpH (e := fun k h => zE sc (d + 3) 101 2 [some (.ref 19), some (.ref t), some (.int (nI dd)), some (.int (nI k))] [] zGL h) (inv := fun k h1 => zFr 20 21 h0 h1 ∧ ∀ j, j < k → h1.1 20 j = 0) 595 (fun k h1 hk i => by
    refine ⟨zPI h1 20 k 0, ?_, zFr_t i.1 (zFr_I (by omega) (by omega)), ?_⟩
    · rw [E_Hc_findDifferences_2 sc _ h1 t qt, if_neg (iG' (m := 594) (n := 594) rfl (by omega) (by decide)), if_pos (zin_nI hk (by decide)), nI_clamp (by omega), nI_1]
    · intro j hj
      rw [zPI_1]
      by_cases hjk : j = k
      · rw [if_pos ⟨rfl, hjk⟩]
      · rw [if_neg (by omega)]; exact i.2 j (by omega)) h0 ⟨zFr_r _ _ _, fun j hj => by omega⟩
  refine exEq e1 ?_
  rw [E_Hc_findDifferences_2 sc _ h1 t qt, if_pos (iL' (m := 594) (n := 594) rfl (by decide) (by decide))]
  obtain ⟨h2, e2, j1, j2⟩ := zUpH (e := fun k h => zE sc (d + 3) 101 24 [some (.ref 19), some (.ref t), some (.int (nI dd)), some (.int (nI k))] [] zGL h) (inv := fun u h1 => zFr 20 21 h0 h1 ∧ ∀ k, k ≤ 594 → h1.1 20 k = bI (apS T dd u k)) 64 (fun u h hu i => by
    obtain ⟨f, i⟩ := i
    have S := TnS_fr f (by omega) S0
    cases hc : clB T u with
    | false =>
      refine ⟨h, ?_, f, ?_⟩
      · rw [E_Hc_findDifferences_24 sc _ h t qt, if_pos (iL (m := 64) (n := 64) rfl hu (by decide)), S.2.2.2, Fa_holds sc _ zGL h _ hu, zBi_some, hc, z01f, nI_1]
      · intro k hk
        rw [apS_s, hc, Bool.false_and, Bool.or_false]
        exact i k hk
    | true =>
      obtain ⟨h', r1, r2, r3⟩ := Hc_to sc d h ht O S hu hd (apS T dd u) i
      refine ⟨h', ?_, zFr_t f r2, ?_⟩
      · rw [E_Hc_findDifferences_24 sc _ h t qt, if_pos (iL (m := 64) (n := 64) rfl hu (by decide)), S.2.2.2, Fa_holds sc _ zGL h _ hu, zBi_some, hc, z01t, r1, zBv_some, nI_1]
      · intro k hk
        rw [apS_s, hc, Bool.true_and]
        exact r3 k hk) h1 ⟨i1, fun k hk => by rw [i2 k (by omega)]; rfl⟩
  refine ⟨h2, e2.trans ?_, j1, j2⟩
  rw [E_Hc_findDifferences_24 sc _ h2 t qt, if_neg (iG (m := 64) (n := 64) rfl (by omega) (by omega))]
theorem Hc_tells (sc : zSc) (d : Nat) (h : zHp) {X : Nat → Bool} (i : ∀ k, k ≤ 594 → h.1 20 k = bI (X k)) {m : Nat} (hm : 0 < m) (hm2 : m ≤ 99) : ∀ n j, 595 ≤ j * m + n → j * m ≤ 594 + 99 → ∃ b : Bool, zE sc d 104 2 [some (.ref 19), some (.int (nI m)), some (.int (nI (j * m)))] [] zGL h = some (some (.int (bI b)), zGL, h) ∧ (b = true ↔ ∀ u, j ≤ u → u * m ≤ 594 → X (u * m) = false) := by
  intro n
  induction n with
  | zero =>
    intro j hj hj2
    refine ⟨true, ?_, ?_⟩
    · rw [E_Hc_tellsAll_2, if_pos (iL' (m := 594) (n := 594) rfl (by omega) (by omega))]; rfl
    · simp only [true_iff]
      intro u hu hu2
      have := Nat.mul_le_mul_right m hu
      omega
  | succ n ih =>
    intro j hj hj2
    by_cases hl : 594 < j * m
    · refine ⟨true, ?_, ?_⟩
      · rw [E_Hc_tellsAll_2, if_pos (iL' (m := 594) (n := 594) rfl (by omega) (by omega))]; rfl
      · simp only [true_iff]
        intro u hu hu2
        have := Nat.mul_le_mul_right m hu
        omega
    · rw [E_Hc_tellsAll_2, if_neg (iG' (m := 594) (n := 594) rfl (by omega) (by decide)), if_pos (zin_nI (by omega) (by decide)), nI_clamp (by omega), i _ (by omega), bI_c]
      cases hx : X (j * m) with
      | true =>
        refine ⟨false, rfl, ?_⟩
        simp only [Bool.false_eq_true, false_iff]
        intro hh
        have := hh j (Nat.le_refl j) (by omega)
        rw [hx] at this; cases this
      | false =>
        obtain ⟨b, r1, r2⟩ := ih (j + 1) (by rw [Nat.add_mul]; omega) (by rw [Nat.add_mul]; omega)
        rw [Nat.add_mul, Nat.one_mul] at r1
        refine ⟨b, ?_, ?_⟩
        · rw [cond_false, nI_add, r1]
        · rw [r2]
          constructor
          · intro hh u hu hu2
            by_cases he : u = j
            · rw [he]; exact hx
            · exact hh u (by omega) hu2
          · intro hh u hu hu2
            exact hh u (by omega) hu2
def hatW (T : TT) (d m : Nat) : Option Nat := if hpB T d m then some m else none
def hatV (T : TT) (d : Nat) : Int32 := oI (fsR (hatW T d) 98 2)
theorem Hc_least (sc : zSc) (d : Nat) (h : zHp) {t : Nat} {T : TT} (ht : zTw t = true) (O : TOK T) (S : TnS h t T) {dd : Nat} (hd : dd ≤ 6) : ∃ h', zRun sc (d + 4) 100 [.ref 19, .ref t, .int (nI dd)] zGL h = some (some (.int (hatV T dd)), zGL, h') ∧ zFr 20 21 h h' := by
  have qt := zTw_6 ht
  obtain ⟨h1, r1, r2, r3⟩ := Hc_fd sc d h ht O S hd
  refine ⟨h1, ?_, r2⟩
  rw [E_Hc_least sc _ h t qt, r1, zBv_some]
  have key : ∀ n m, m + n = 100 → 2 ≤ m → zE sc (d + 4) 100 8 [some (.ref 19), none, none, some (.int (nI m))] [] zGL h1 = some (some (.int (oI (fsR (hatW T dd) n m))), zGL, h1) := by
    intro n
    induction n with
    | zero =>
      intro m hm hm2
      rw [E_Hc_least_8, if_pos (iL' (m := 99) (n := 99) rfl (by omega) (by omega))]
      rfl
    | succ n ih =>
      intro m hm hm2
      obtain ⟨b, s1, s2⟩ := Hc_tells sc (d + 3) h1 r3 (m := m) (by omega) (by omega) 595 0 (by omega) (by omega)
      rw [Nat.zero_mul] at s1
      have hb : b = hpB T dd m := by
        apply bool_ext
        rw [s2, ← ap_hp O (by omega)]
        exact ⟨fun hh i => hh i (Nat.zero_le i), fun hh i _ => hh i⟩
      rw [E_Hc_least_8, if_neg (iG' (m := 99) (n := 99) rfl (by omega) (by decide)), E_Hc_tellsAll, show (0 : Int32) = nI 0 from rfl, s1, zBi_some, hb, show nI 0 = (0 : Int32) from rfl, bI_c, fsR, hatW]
      cases hpB T dd m with
      | true => rfl
      | false => rw [cond_false, nI_1, ih (m + 1) (by omega) (by omega)]; rfl
  exact key 98 2 rfl (by decide)
/-! the reference -/
theorem Mo_in' (sc : zSc) (d : Nat) (h : zHp) (v lo hi : Int32) : zRun sc d 132 [.long v.toInt64, .long lo.toInt64, .long hi.toInt64] zGL h = some (some (.int (bI (decide (¬ v < lo ∧ ¬ hi < v)))), zGL, h) := by
  rw [E_Mo_in]
  simp only [Int64.lt_iff_toInt_lt, Int32.toInt_toInt64, Int32.lt_iff_toInt_lt]
  by_cases h1 : v.toInt < lo.toInt
  · rw [if_pos h1]; simp [h1, bI]
  · rw [if_neg h1]
    by_cases h2 : hi.toInt < v.toInt
    · rw [if_pos h2]; simp [h2, bI]
    · rw [if_neg h2]; simp [h1, h2, bI]
theorem i64_j : ∀ n, n < 64 → (nI n).toInt64 = jF n.testBit ∧ cN n.testBit 64 = pN n 6 := by decide +kernel
def prK (T : TT) (d m k : Nat) : Bool := !(clB T (k / 2 ^ T.F) && clB T (k % 2 ^ T.F) && decide (1 ≤ pN (k / 2 ^ T.F ^^^ k % 2 ^ T.F) 6 ∧ pN (k / 2 ^ T.F ^^^ k % 2 ^ T.F) 6 ≤ d)) || decide (wtN T.w (k / 2 ^ T.F) T.F % m ≠ wtN T.w (k % 2 ^ T.F) T.F % m)
theorem pr_hp {T : TT} (O : TOK T) {d m : Nat} : allR (prK T d m) (2 ^ T.F * 2 ^ T.F) 0 = hpB T d m := by
  have hp := p2_le O.1
  have hp0 : 0 < 2 ^ T.F := Nat.two_pow_pos _
  apply bool_ext
  rw [allR_iff, hpB_iff]
  constructor
  · intro h s t hs ht cs ct hn hpn
    have hs2 := clB_lt cs
    have ht2 := clB_lt ct
    have h1 := h (s * 2 ^ T.F + t) (by
      have := Nat.mul_le_mul_right (2 ^ T.F) (show s + 1 ≤ 2 ^ T.F by omega)
      rw [Nat.add_mul, Nat.one_mul] at this
      omega)
    have e1 : (s * 2 ^ T.F + t) / 2 ^ T.F = s := by rw [Nat.mul_comm, Nat.mul_add_div hp0, Nat.div_eq_of_lt ht2, Nat.add_zero]
    have e2 : (s * 2 ^ T.F + t) % 2 ^ T.F = t := by rw [Nat.mul_comm, Nat.mul_add_mod, Nat.mod_eq_of_lt ht2]
    unfold prK at h1
    rw [Nat.zero_add, e1, e2, cs, ct] at h1
    have := (pN_pos hs ht).mpr hn
    simpa [this, hpn] using h1
  · intro h k hk
    rw [Nat.zero_add]
    unfold prK
    have h1 : k / 2 ^ T.F < 2 ^ T.F := (Nat.div_lt_iff_lt_mul hp0).mpr hk
    have h2 : k % 2 ^ T.F < 2 ^ T.F := Nat.mod_lt _ hp0
    cases cs : clB T (k / 2 ^ T.F) with
    | false => rfl
    | true =>
      cases ct : clB T (k % 2 ^ T.F) with
      | false => rfl
      | true =>
        by_cases hd : 1 ≤ pN (k / 2 ^ T.F ^^^ k % 2 ^ T.F) 6 ∧ pN (k / 2 ^ T.F ^^^ k % 2 ^ T.F) 6 ≤ d
        · have := h _ _ (by omega) (by omega) cs ct ((pN_pos (by omega) (by omega)).mp hd.1) hd.2
          simp [this]
        · simp [hd]
theorem Mo_parts (sc : zSc) (c : Nat) (h : zHp) {T : TT} (O : TOK T) (D : MoT h T) (C : MoC h T) {d m : Nat} (hd : d ≤ 6) (hm : 2 ≤ m) (hm2 : m ≤ 99) : zRun sc (c + 2) 183 [.ref 46, .int (nI m), .int (nI d)] zGL h = some (some (.int (bI (hpB T d m))), zGL, h) := by
  have hF6 := O.1
  have hp := p2_le hF6
  have hp0 : 0 < 2 ^ T.F := Nat.two_pow_pos _
  have hpp : 2 ^ (2 * T.F) = 2 ^ T.F * 2 ^ T.F := by rw [Nat.two_mul, Nat.pow_add]
  have hpm : 2 ^ T.F * 2 ^ T.F ≤ 4096 := Nat.mul_le_mul hp hp
  have h0 : (1 : Int32) <<< ((2 * h.1 46 0) &&& 31) = nI (2 ^ T.F * 2 ^ T.F) := by rw [D.1, n2, nI_shl1 (by omega), hpp]
  rw [E_Mo_parts, ← pr_hp O]
  have key : ∀ n k, k + n = 2 ^ T.F * 2 ^ T.F → zE sc (c + 2) 183 5 [some (.ref 46), some (.int (nI m)), some (.int (nI d)), some (.int 1), some (.int (nI k)), none, none, none] [] zGL h = some (some (.int (bI (allR (prK T d m) n k))), zGL, h) := by
    intro n
    induction n with
    | zero =>
      intro k hk
      rw [E_Mo_parts_5, h0, if_neg (nI_nlt (by omega) (by omega)), if_pos (.inr rfl)]
      rfl
    | succ n ih =>
      intro k hk
      have h1 : k / 2 ^ T.F < 2 ^ T.F := (Nat.div_lt_iff_lt_mul hp0).mpr (by omega)
      have h2 : k % 2 ^ T.F < 2 ^ T.F := Nat.mod_lt _ hp0
      have hxl := xor_64 (show k / 2 ^ T.F < 64 by omega) (show k % 2 ^ T.F < 64 by omega)
      have hpl : pN (k / 2 ^ T.F ^^^ k % 2 ^ T.F) 6 ≤ 6 := cN_le _ 6
      have e1 : nI k >>> (nI T.F &&& 31) = nI (k / 2 ^ T.F) := pk_shrN (by omega) _ T.F (i_amt T.F (by omega))
      have e2 : nI k &&& (1 <<< (nI T.F &&& 31) - 1) = nI (k % 2 ^ T.F) := by rw [sh_F hF6, show (1 : Int32) = nI 1 from rfl, nI_sub hp0, nI_and, Nat.and_two_pow_sub_one_eq_mod]
      rw [E_Mo_parts_5, h0, if_pos (nI_lt (by omega) (by omega)), if_neg (by decide), D.1, e1, e2, C.2, jF_t _ (by omega), jF_t _ (by omega), E_Mo_parts_76, allR, prK]
      cases cs : clB T (k / 2 ^ T.F) with
      | false => rw [cond_false, E_Mo_parts_77, if_pos rfl, nI_1, ih (k + 1) (by omega)]; rfl
      | true =>
        rw [cond_true]
        cases ct : clB T (k % 2 ^ T.F) with
        | false => rw [cond_false, E_Mo_parts_77, if_pos rfl, nI_1, ih (k + 1) (by omega)]; rfl
        | true =>
          have hin := Mo_in' sc (c + 1) h (nI (pN (k / 2 ^ T.F ^^^ k % 2 ^ T.F) 6)) 1 (nI d)
          rw [show (1 : Int32).toInt64 = (1 : Int64) from rfl] at hin
          rw [cond_true, E_Mo_parts_77, if_neg (by decide), nI_xor, (i64_j _ hxl).1, Mo_bits, zBi_some, (i64_j _ hxl).2, hin, zBi_some, bI_c]
          by_cases hdd : 1 ≤ pN (k / 2 ^ T.F ^^^ k % 2 ^ T.F) 6 ∧ pN (k / 2 ^ T.F ^^^ k % 2 ^ T.F) 6 ≤ d
          · rw [show decide (¬ nI (pN (k / 2 ^ T.F ^^^ k % 2 ^ T.F) 6) < 1 ∧ ¬ nI d < nI (pN (k / 2 ^ T.F ^^^ k % 2 ^ T.F) 6)) = true from decide_eq_true ⟨iG (m := 1) (n := 1) rfl hdd.1 (by omega), nI_nlt hdd.2 (by omega)⟩, cond_true, Mo_hatOf sc c h O D (by omega) (by omega) (by omega), zBi_some, Mo_hatOf sc c h O D (by omega) (by omega) (by omega), zBi_some]
            have ml1 : wtN T.w (k / 2 ^ T.F) T.F % m < m := Nat.mod_lt _ (by omega)
            have ml2 : wtN T.w (k % 2 ^ T.F) T.F % m < m := Nat.mod_lt _ (by omega)
            by_cases he : wtN T.w (k / 2 ^ T.F) T.F % m = wtN T.w (k % 2 ^ T.F) T.F % m
            · rw [if_pos (by rw [he]), nI_1, E_Mo_parts_5]
              rw [if_pos (show (0 : Int32) = 0 ∨ (0 : Int32) = 1 from .inl rfl), if_pos rfl, ite_self]
              simp [he, hdd, bI]
            · rw [if_neg (fun z => he ((nI_eq (by omega) (by omega)).mp z)), nI_1, ih (k + 1) (by omega)]
              simp [he]
          · rw [show decide (¬ nI (pN (k / 2 ^ T.F ^^^ k % 2 ^ T.F) 6) < 1 ∧ ¬ nI d < nI (pN (k / 2 ^ T.F ^^^ k % 2 ^ T.F) 6)) = false from decide_eq_false (fun z => hdd ⟨by
              rcases Nat.lt_or_ge (pN (k / 2 ^ T.F ^^^ k % 2 ^ T.F) 6) 1 with hh | hh
              · exact absurd (nI_lt (b := 1) hh (by decide)) z.1
              · exact hh, by
              rcases Nat.lt_or_ge d (pN (k / 2 ^ T.F ^^^ k % 2 ^ T.F) 6) with hh | hh
              · exact absurd (nI_lt hh (by omega)) z.2
              · exact hh⟩), cond_false, nI_1, ih (k + 1) (by omega)]
            simp [hdd]
  exact key _ 0 (by omega)
theorem Mo_hats (sc : zSc) (c : Nat) (h : zHp) {T : TT} (O : TOK T) (D : MoT h T) (C : MoC h T) {d : Nat} (hd1 : 1 ≤ d) (hd : d ≤ 6) : zRun sc (c + 3) 182 [.ref 46, .int (nI d)] zGL h = some (some (.int (hatV T d)), zGL, h) := by
  have hin := Mo_in' sc (c + 2) h (nI d) 1 6
  rw [show (1 : Int32).toInt64 = (1 : Int64) from rfl, show (6 : Int32).toInt64 = (6 : Int64) from rfl] at hin
  rw [E_Mo_hats, hin, zBi_some, show decide (¬ nI d < 1 ∧ ¬ 6 < nI d) = true from decide_eq_true ⟨iG (m := 1) (n := 1) rfl hd1 (by omega), iG' (m := 6) (n := 6) rfl hd (by decide)⟩, if_neg (by decide)]
  have key : ∀ n m, m + n = 100 → 2 ≤ m → zE sc (c + 3) 182 17 [some (.ref 46), some (.int (nI d)), some (.int (nI m))] [] zGL h = some (some (.int (oI (fsR (hatW T d) n m))), zGL, h) := by
    intro n
    induction n with
    | zero =>
      intro m hm hm2
      rw [E_Mo_hats_17, if_neg (iG (m := 100) (n := 100) rfl (by omega) (by omega))]
      rfl
    | succ n ih =>
      intro m hm hm2
      rw [E_Mo_hats_17, if_pos (iL (m := 100) (n := 100) rfl (by omega) (by decide)), Mo_parts sc c h O D C hd hm2 (by omega), zBi_some, bI_c, fsR, hatW]
      cases hpB T d m with
      | true => rfl
      | false => rw [cond_false, nI_1, ih (m + 1) (by omega) (by omega)]; rfl
  exact key 98 2 rfl (by decide)
