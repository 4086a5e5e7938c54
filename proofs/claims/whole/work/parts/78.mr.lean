/-! ===== the reference's reader: places, words, numbers ===== -/
theorem lN_big {n : Nat} (h : n < 2 ^ 63) : (lN n).toInt = (n : Int) := by
  exact Int64.toInt_ofNat_of_lt h
theorem lN_ltB {a b : Nat} (ha : a < 2 ^ 63) (hb : b < 2 ^ 63) : lN a < lN b ↔ a < b := by
  rw [Int64.lt_iff_toInt_lt, lN_big ha, lN_big hb]
  omega
theorem lN_eqB {a b : Nat} (ha : a < 2 ^ 63) (hb : b < 2 ^ 63) : lN a = lN b ↔ a = b := by
  constructor
  · intro h
    have := congrArg Int64.toInt h
    rw [lN_big ha, lN_big hb] at this
    omega
  · intro h; rw [h]
theorem sk_i {tl : Nat} {tb : Nat → Nat} (p : Nat) : skP tl tb (skP tl tb p) = skP tl tb p := ru_e (fun h => ru_at h)
theorem sk_n {tl : Nat} {tb : Nat → Nat} {p : Nat} (h : skP tl tb p < tl) : ¬ tb (skP tl tb p) = 32 := by
  have h1 : (tb (skP tl tb p) == 32) = false := ru_at h
  simpa using h1
theorem MoX_m {a b : List Nat} {h h' : zHp} {tl : Nat} {tb : Nat → Nat} (f : mFr a b h h') (ha : 56 ∉ a) (hb : 16 ∉ b) (X : MoX h tl tb) : MoX h' tl tb := by
  unfold MoX at X ⊢
  rw [(f.2.1 16 hb).1, (f.1 56 (by decide) ha).1]
  exact X
def AtP (h : zHp) (tl : Nat) (tb : Nat → Nat) (p : Nat) : Prop := ∃ q, h.1 46 18 = nI q ∧ q ≤ tl ∧ skP tl tb q = skP tl tb p
def hrV (tl : Nat) (tb : Nat → Nat) (s : Nat) : Int32 := if s < tl then nI (tb s) else -1
theorem Mo_here (sc : zSc) (d : Nat) (h : zHp) {tl : Nat} {tb : Nat → Nat} (X : MoX h tl tb) (o : txOK tl tb) {p : Nat} (A : AtP h tl tb p) : zRun sc d 134 [.ref 46] zGL h = some (some (.int (hrV tl tb (skP tl tb p))), zGL, zPI h 46 18 (nI (skP tl tb p))) := by
  obtain ⟨q, h18, hq, hs⟩ := A
  have ht := o.1
  rw [← hs]
  have key : ∀ n i, i + n = tl → zE sc d 134 0 [some (.ref 46)] [] zGL (zPI h 46 18 (nI i)) = zE sc d 134 38 [some (.ref 46)] [] zGL (zPI h 46 18 (nI (skP tl tb i))) := by
    intro n
    induction n with
    | zero =>
      intro i hi
      rw [E_Mo_here_0, show (zPI h 46 18 (nI i)).1 46 18 = nI i from rfl, show (zPI h 46 18 (nI i)).1 46 16 = h.1 46 16 from rfl, X.1, if_neg (nI_nlt (by omega) (by omega)), show skP tl tb i = i from ru_e (fun z => by omega)]
    | succ n ih =>
      intro i hi
      have hl : i < tl := by omega
      have hb2 := o.2 i hl
      rw [E_Mo_here_0, show (zPI h 46 18 (nI i)).1 46 18 = nI i from rfl, show (zPI h 46 18 (nI i)).1 46 16 = h.1 46 16 from rfl, X.1, if_pos (nI_lt hl (by omega)), if_pos (zin_nI (by omega) (by decide)), nI_clamp (by omega), show (zPI h 46 18 (nI i)).1 56 i = h.1 56 i from rfl, X.2 i hl]
      by_cases hb : tb i = 32
      · rw [if_pos (show nI (tb i) = (32 : Int32) by rw [hb]; rfl), zPI_o, nI_1, ih (i + 1) (by omega), show skP tl tb i = skP tl tb (i + 1) from ru_s hl (by simp [hb])]
      · rw [if_neg (iN (m := 32) (n := 32) rfl hb (by omega) (by decide)), show skP tl tb i = i from ru_e (fun _ => by simp [hb])]
  have e0 : zRun sc d 134 [.ref 46] zGL h = zE sc d 134 0 [some (.ref 46)] [] zGL (zPI h 46 18 (nI q)) := by
    rw [← h18, zPI_self]
    exact (E_Mo_here sc d h).trans (E_Mo_here_0 sc d h).symm
  obtain ⟨s1, s2⟩ := sk_b tb hq
  rw [e0, key (tl - q) q (by omega), E_Mo_here_38, show (zPI h 46 18 (nI (skP tl tb q))).1 46 18 = nI (skP tl tb q) from rfl, show (zPI h 46 18 (nI (skP tl tb q))).1 46 16 = h.1 46 16 from rfl, X.1]
  unfold hrV
  by_cases hl : skP tl tb q < tl
  · rw [if_pos (nI_lt hl (by omega)), if_pos (zin_nI (by omega) (by decide)), nI_clamp (by omega), show ∀ i, (zPI h 46 18 (nI (skP tl tb q))).1 56 i = h.1 56 i from fun _ => rfl, X.2 _ hl, if_pos hl]
  · rw [if_neg (nI_nlt (by omega) (by omega)), if_neg hl]
theorem hr_neg {tl : Nat} {tb : Nat → Nat} (o : txOK tl tb) (s : Nat) : hrV tl tb s < 0 ↔ tl ≤ s := by
  unfold hrV
  by_cases hl : s < tl
  · have := o.2 s hl
    rw [if_pos hl]
    exact ⟨fun z => absurd z (nI_pos (by omega)), fun z => by omega⟩
  · rw [if_neg hl]
    exact ⟨fun _ => by omega, fun _ => by decide⟩
theorem hr_sg {tl : Nat} {tb : Nat → Nat} (o : txOK tl tb) (s : Nat) {c : Nat} {v : Int32} (hv : v = nI c) (hc : c = 44 ∨ c = 59) : hrV tl tb s = v ↔ sgQ tl tb s c = true := by
  unfold hrV sgQ
  rw [hv, Bool.and_eq_true, decide_eq_true_eq, beq_iff_eq]
  by_cases hl : s < tl
  · have := o.2 s hl
    rw [if_pos hl, nI_eq (by omega) (by omega)]
    constructor
    · intro h
      refine ⟨?_, h⟩
      unfold kdN
      rw [if_pos hl, if_neg (by omega), if_neg (by omega)]
    · exact fun h => h.2
  · rw [if_neg hl]
    constructor
    · intro h
      exact absurd h.symm (nI_nm1 (by omega))
    · intro h
      rw [kd_0.mpr (by omega)] at h
      exact absurd h.1 (by decide)
theorem hr_dg {tl : Nat} {tb : Nat → Nat} (o : txOK tl tb) (s : Nat) : decide (¬ hrV tl tb s < 48 ∧ ¬ 57 < hrV tl tb s) = decide (kdN tl tb s = 2) := by
  apply decide_eq_decide.mpr
  unfold hrV
  rw [kd_2]
  by_cases hl : s < tl
  · have := o.2 s hl
    rw [if_pos hl]
    constructor
    · rintro ⟨h1, h2⟩
      refine ⟨hl, ?_, ?_⟩
      · rcases Nat.lt_or_ge (tb s) 48 with z | z
        · exact absurd (iL (m := 48) (n := 48) rfl z (by decide)) h1
        · exact z
      · rcases Nat.lt_or_ge 57 (tb s) with z | z
        · exact absurd (iL' (m := 57) (n := 57) rfl z (by omega)) h2
        · exact z
    · rintro ⟨-, h1, h2⟩
      exact ⟨iG (m := 48) (n := 48) rfl h1 (by omega), iG' (m := 57) (n := 57) rfl h2 (by decide)⟩
  · rw [if_neg hl]
    constructor
    · rintro ⟨h1, -⟩
      exact absurd (show (-1 : Int32) < 48 by decide) h1
    · rintro ⟨h1, -⟩
      exact absurd h1 hl
/-! words as numbers -/
def sdG (c : Nat → Nat) : Nat → Nat
  | 0 => 0
  | n + 1 => if 10000000000000 < sdG c n then 20000000000000 else 27 * sdG c n + c n - 96
theorem sdG_b {c : Nat → Nat} : ∀ {n : Nat}, (∀ k, k < n → 97 ≤ c k ∧ c k ≤ 122) → sdG c n ≤ 270000000000026
  | 0, _ => by simp [sdG]
  | n + 1, h => by
    have h1 := sdG_b (c := c) (n := n) (fun k hk => h k (by omega))
    have h2 := h n (Nat.lt_succ_self n)
    unfold sdG
    split <;> omega
theorem sd_inj {e : Nat → Nat} : ∀ {m n : Nat} {c : Nat → Nat}, (∀ k, k < n → 97 ≤ c k ∧ c k ≤ 122) → (∀ k, k < m → 97 ≤ e k ∧ e k ≤ 122) → sdG e m ≤ 10000000000000 → (sdG c n = sdG e m ↔ n = m ∧ ∀ k, k < m → c k = e k)
  | 0, 0, c, _, _, _ => by simp [sdG]
  | 0, n + 1, c, hc, _, _ => by
    have h2 := hc n (Nat.lt_succ_self n)
    unfold sdG
    constructor
    · intro h
      split at h <;> omega
    · intro h
      omega
  | m + 1, 0, c, _, he, _ => by
    have h2 := he m (Nat.lt_succ_self m)
    unfold sdG
    constructor
    · intro h
      split at h <;> omega
    · intro h
      omega
  | m + 1, n + 1, c, hc, he, hb => by
    have h1 := hc n (Nat.lt_succ_self n)
    have h2 := he m (Nat.lt_succ_self m)
    have hm : sdG e m ≤ 10000000000000 := by
      rcases Nat.lt_or_ge 10000000000000 (sdG e m) with z | z
      · rw [sdG, if_pos z] at hb
        omega
      · exact z
    have ih := sd_inj (e := e) (m := m) (n := n) (c := c) (fun k hk => hc k (by omega)) (fun k hk => he k (by omega)) hm
    rw [sdG, if_neg (by omega)] at hb
    show (if 10000000000000 < sdG c n then 20000000000000 else 27 * sdG c n + c n - 96) = (if 10000000000000 < sdG e m then 20000000000000 else 27 * sdG e m + e m - 96) ↔ _
    rw [if_neg (show ¬ 10000000000000 < sdG e m by omega)]
    constructor
    · intro h
      split at h
      · omega
      · have h3 : sdG c n = sdG e m := by omega
        have h4 := ih.mp h3
        refine ⟨by omega, fun k hk => ?_⟩
        by_cases hkm : k = m
        · have h7 : n = m := h4.1
          rw [hkm]
          rw [h3] at h
          rw [h7] at h h1
          omega
        · exact h4.2 k (by omega)
    · rintro ⟨h3, h4⟩
      have h5 := ih.mpr ⟨by omega, fun k hk => h4 k (by omega)⟩
      have h6 := h4 m (Nat.lt_succ_self m)
      rw [h5, if_neg (by omega), show n = m by omega, h6]
def cdN (j : Nat) : Nat := sdG (fun k => (wB j).getD k 0) (wB j).length
theorem cd_b : ∀ j, j < 5 → cdN j ≤ 10000000000000 ∧ ∀ k, k < (wB j).length → 97 ≤ (wB j).getD k 0 ∧ (wB j).getD k 0 ≤ 122 := by decide +kernel
def sdW (tl : Nat) (tb : Nat → Nat) (s : Nat) : Nat := sdG (fun k => tb (s + k)) (ruK tl tb 1 s - s)
theorem run_l {tl : Nat} {tb : Nat → Nat} {s k : Nat} (hk : k < ruK tl tb 1 s - s) : 97 ≤ tb (s + k) ∧ tb (s + k) ≤ 122 := by
  have := ru_in (tl := tl) (B := fun j => kdN tl tb j == 1) (i := s) (j := s + k) (by omega) (by show s + k < ruK tl tb 1 s; omega)
  exact (kd_1.mp (by simpa using this)).2
theorem wd_sd {tl : Nat} {tb : Nat → Nat} {s j : Nat} (hj : j < 5) : lN (sdW tl tb s) = lN (cdN j) ↔ wdQ tl tb s j = true := by
  obtain ⟨c1, c2⟩ := cd_b j hj
  have hb := sdG_b (c := fun k => tb (s + k)) (n := ruK tl tb 1 s - s) (fun k hk => run_l hk)
  rw [lN_eqB (by unfold sdW; omega) (by omega)]
  unfold sdW cdN
  rw [sd_inj (fun k hk => run_l hk) c2 c1]
  unfold wdQ
  rw [Bool.and_eq_true, Bool.and_eq_true, decide_eq_true_eq, decide_eq_true_eq, allR_iff]
  have hl : 0 < (wB j).length := by
    have : ∀ j, j < 5 → 0 < (wB j).length := by decide
    exact this j hj
  by_cases h1 : kdN tl tb s = 1
  · rw [tkE_1 h1]
    constructor
    · rintro ⟨a, b⟩
      exact ⟨h1, a, fun k hk => by rw [Nat.zero_add]; exact beq_iff_eq.mpr (b k hk)⟩
    · rintro ⟨-, a, b⟩
      refine ⟨a, fun k hk => ?_⟩
      have := b k hk
      rw [Nat.zero_add] at this
      exact beq_iff_eq.mp this
  · have : ruK tl tb 1 s = s := ru_e (fun _ => by simp [h1])
    rw [this]
    constructor
    · rintro ⟨a, -⟩; omega
    · rintro ⟨a, -⟩; exact absurd a h1
theorem Mo_readWord (sc : zSc) (d : Nat) (h : zHp) {tl : Nat} {tb : Nat → Nat} (X : MoX h tl tb) (o : txOK tl tb) {p : Nat} (hp : p ≤ tl) (A : AtP h tl tb p) : ∃ h', zRun sc (d + 1) 136 [.ref 46] zGL h = some (none, zGL, h') ∧ h'.1 46 18 = nI (skP tl tb p) ∧ h'.2.1 46 19 = lN (sdW tl tb (skP tl tb p)) ∧ h'.1 46 20 = nI (ruK tl tb 1 (skP tl tb p)) ∧ mFr [] [18, 19, 20] h h' := by
  have ht := o.1
  obtain ⟨s1, s2⟩ := sk_b tb hp
  rw [E_Mo_readWord, Mo_here sc d h X o A, zBi_some]
  generalize skP tl tb p = s at s1 s2 ⊢
  have key : ∀ m n h1, s + n + m = tl → s + n ≤ ruK tl tb 1 s → mFr [] [18, 19, 20] h h1 → h1.1 46 18 = nI s → h1.2.1 46 19 = lN (sdG (fun k => tb (s + k)) n) → h1.1 46 20 = nI (s + n) → ∃ h', zE sc (d + 1) 136 18 [some (.ref 46), none] [] zGL h1 = some (none, zGL, h') ∧ h'.1 46 18 = nI s ∧ h'.2.1 46 19 = lN (sdW tl tb s) ∧ h'.1 46 20 = nI (ruK tl tb 1 s) ∧ mFr [] [18, 19, 20] h h' := by
    intro m
    induction m with
    | zero =>
      intro n h1 hn hr f a1 a2 a3
      have X1 := MoX_m f (by decide) (by decide) X
      have hle := ru_le (tl := tl) (B := fun j => kdN tl tb j == 1) (i := s) (by omega)
      have e : ruK tl tb 1 s = s + n := by unfold ruK at hr ⊢; omega
      refine ⟨h1, ?_, a1, ?_, by rw [e]; exact a3, f⟩
      · rw [E_Mo_readWord_18, a3, X1.1, if_neg (nI_nlt (by omega) (by omega))]
      · unfold sdW
        rw [e, show s + n - s = n by omega]
        exact a2
    | succ m ih =>
      intro n h1 hn hr f a1 a2 a3
      have X1 := MoX_m f (by decide) (by decide) X
      have hl : s + n < tl := by omega
      have hb2 := o.2 _ hl
      have hin := Mo_in' sc d h1 (nI (tb (s + n))) 97 122
      have hin' : zRun sc d 132 [.long (nI (tb (s + n))).toInt64, .long 97, .long 122] zGL h1 = some (some (.int (bI (decide (¬ nI (tb (s + n)) < 97 ∧ ¬ 122 < nI (tb (s + n)))))), zGL, h1) := hin
      rw [E_Mo_readWord_18, a3, X1.1, if_pos (nI_lt hl (by omega)), if_pos (zin_nI (by omega) (by decide)), nI_clamp (by omega), X1.2 _ hl, hin', zBi_some]
      by_cases hk : kdN tl tb (s + n) = 1
      · obtain ⟨-, k1, k2⟩ := kd_1.mp hk
        have hd : decide (¬ nI (tb (s + n)) < 97 ∧ ¬ 122 < nI (tb (s + n))) = true := decide_eq_true ⟨iG (m := 97) (n := 97) rfl k1 (by omega), iG' (m := 122) (n := 122) rfl k2 (by decide)⟩
        have hlt : s + n + 1 ≤ ruK tl tb 1 s := by
          rcases Nat.lt_or_ge (s + n) (ruK tl tb 1 s) with z | z
          · exact z
          · have e : ruK tl tb 1 s = s + n := by omega
            have := ru_at (tl := tl) (B := fun j => kdN tl tb j == 1) (i := s) (by show ruK tl tb 1 s < tl; omega)
            rw [show ruN tl (fun j => kdN tl tb j == 1) s = s + n from e] at this
            simp [hk] at this
        have hsb := sdG_b (c := fun k => tb (s + k)) (n := n) (fun k hk => run_l (tl := tl) (by omega))
        rw [hd, if_neg (show ¬ bI true = 0 by decide), a2, a3, nI_clamp (by omega), if_pos (zin_nI (by omega) (by decide)), X1.2 _ hl]
        have hv : (if (10000000000000 : Int64) < lN (sdG (fun k => tb (s + k)) n) then zE sc (d + 1) 136 92 [some (.ref 46), none] [.long 20000000000000, .ref 46] zGL h1 else zE sc (d + 1) 136 92 [some (.ref 46), none] [.long ((((27 : Int64) * lN (sdG (fun k => tb (s + k)) n)) + (nI (tb (s + n))).toInt64) - (96 : Int64)), .ref 46] zGL h1) = zE sc (d + 1) 136 92 [some (.ref 46), none] [.long (lN (sdG (fun k => tb (s + k)) (n + 1))), .ref 46] zGL h1 := by
          have hc : ((10000000000000 : Int64) < lN (sdG (fun k => tb (s + k)) n)) ↔ 10000000000000 < sdG (fun k => tb (s + k)) n := lN_ltB (a := 10000000000000) (by decide) (by omega)
          rw [sdG]
          by_cases hbig : 10000000000000 < sdG (fun k => tb (s + k)) n
          · rw [if_pos (hc.mpr hbig), if_pos hbig]
            rfl
          · rw [if_neg (fun z => hbig (hc.mp z)), if_neg hbig, nI_l (by omega), show (27 : Int64) = lN 27 from rfl, show (96 : Int64) = lN 96 from rfl, lN_mul, lN_add, lN_sub (by omega)]
        rw [hv, E_Mo_readWord_92]
        refine ih (n + 1) _ (by omega) (by omega) (mFr_t f (mFr_t (mFr_g (by decide)) (mFr_f (by decide)))) a1 rfl ?_
        rw [zPI_1, if_pos ⟨rfl, rfl⟩, show ∀ v, (zPL h1 46 19 v).1 46 20 = h1.1 46 20 from fun _ => rfl, a3, nI_1, Nat.add_assoc]
      · have hd : decide (¬ nI (tb (s + n)) < 97 ∧ ¬ 122 < nI (tb (s + n))) = false := decide_eq_false (fun z => hk (kd_1.mpr ⟨hl, by
          rcases Nat.lt_or_ge (tb (s + n)) 97 with y | y
          · exact absurd (iL (m := 97) (n := 97) rfl y (by decide)) z.1
          · exact y, by
          rcases Nat.lt_or_ge 122 (tb (s + n)) with y | y
          · exact absurd (iL' (m := 122) (n := 122) rfl y (by omega)) z.2
          · exact y⟩))
        have e : ruK tl tb 1 s = s + n := by
          rcases Nat.lt_or_ge (s + n) (ruK tl tb 1 s) with z | z
          · have := ru_in (tl := tl) (B := fun j => kdN tl tb j == 1) (i := s) (j := s + n) (by omega) z
            simp [hk] at this
          · omega
        refine ⟨h1, ?_, a1, ?_, by rw [e]; exact a3, f⟩
        · rw [hd, if_pos (show bI false = 0 from rfl)]
        · unfold sdW
          rw [e, show s + n - s = n by omega]
          exact a2
  exact key (tl - s) 0 _ (by omega) (ru_ge _ _ _) (mFr_t (mFr_f (by decide)) (mFr_t (mFr_g (by decide)) (mFr_f (by decide)))) rfl rfl rfl
