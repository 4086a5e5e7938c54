/-! ===== the class's reader: numbers, lists, clauses ===== -/
theorem dD_mk {h : zHp} {f n : Nat} {v : Int32} (hf : 0 < f) (hf2 : f < 5) (hv : v = nI n) : dD (zPI (zPI h 15 7 (nI f)) 15 8 v) (f, n) := ⟨rfl, hv, nI_ne0 hf (by omega)⟩
theorem sF_f {h : zHp} {v w : Int32} : sF h (zPI (zPI h 15 7 v) 15 8 w) := sF_t (sF_I (by decide) (by decide)) (sF_I (by decide) (by decide))
theorem tkE_3 {tl : Nat} {tb : Nat → Nat} {s : Nat} (h : kdN tl tb s = 3) : tkE tl tb s = s + 1 := by
  unfold tkE
  rw [if_neg (by omega), if_pos h]
theorem sg_3 {tl : Nat} {tb : Nat → Nat} {s c : Nat} (h : sgQ tl tb s c = true) : kdN tl tb s = 3 ∧ s < tl := by
  unfold sgQ at h
  rw [Bool.and_eq_true, decide_eq_true_eq] at h
  refine ⟨h.1, ?_⟩
  rcases Nat.lt_or_ge s tl with z | z
  · exact z
  · rw [kd_0.mpr z] at h; exact absurd h.1 (by decide)
theorem tkV_b {tl : Nat} {tb : Nat → Nat} (s : Nat) : tkV tl tb s < 1000 := by
  unfold tkV
  split
  · rename_i hk
    have h1 : vN tb s (min (ruK tl tb 2 s - s) 3) < 10 ^ (min (ruK tl tb 2 s - s) 3) := vN_b (fun j hj => by
      have := ru_in (tl := tl) (B := fun j => kdN tl tb j == 2) (i := s) (j := s + j) (by omega) (by show s + j < ruK tl tb 2 s; omega)
      exact (kd_2.mp (by simpa using this)).2.2)
    have h2 : 10 ^ (min (ruK tl tb 2 s - s) 3) ≤ 10 ^ 3 := Nat.pow_le_pow_right (by decide) (by omega)
    omega
  · decide
theorem Rd_num (sc : zSc) (d : Nat) (h : zHp) {tl : Nat} {tb : Nat → Nat} (X : TxD h tl tb) (o : txOK tl tb) {p : Nat} (hp : p ≤ tl) (R : Rd h tl tb p) {lo hb : Nat} {hi : Int32} (hlo : lo < 1000) (hhi : hi.toInt = (hb : Int) - 1) : (∀ f, nuQ tl tb lo hb (skP tl tb p) = .inl f → ∃ h' v, zRun sc (d + 2) 40 [.ref 15, .int (nI lo), .int hi] zGL h = some (some (.int v), zGL, h') ∧ dD h' f ∧ sF h h') ∧ (∀ e v, nuQ tl tb lo hb (skP tl tb p) = .inr (e, v) → e ≤ tl ∧ p < e ∧ lo ≤ v ∧ v < hb ∧ ∃ h', zRun sc (d + 2) 40 [.ref 15, .int (nI lo), .int hi] zGL h = some (some (.int (nI v)), zGL, h') ∧ Rd h' tl tb e ∧ sF h h') := by
  obtain ⟨s1, s2⟩ := sk_b tb hp
  have ht := o.1
  have hk := kd_lt tl tb (skP tl tb p)
  obtain ⟨e1, e2, e3⟩ := tkE_b (tb := tb) s2
  have hv := tkV_b (tl := tl) (tb := tb) (skP tl tb p)
  obtain ⟨r3, r4, r5, r6, r7, r8⟩ := R
  have hgt : hi < nI (tkV tl tb (skP tl tb p)) ↔ hb ≤ tkV tl tb (skP tl tb p) := by
    rw [Int32.lt_iff_toInt_lt, hhi, nI_toInt (by omega)]
    omega
  have h44 : ∀ v, zE sc (d + 2) 40 44 [some (.ref 15), none, none, some (.int v)] [] zGL h = some (some (.int v), zGL, zPI (zPI h 15 7 2) 15 8 (h.1 15 4)) := fun v => by
    rw [E_Rd_readNumber_44 sc (d + 1), Rd_fail_a sc d h r7, zBv_some, Rd_step_d sc d _ (show ¬ (2 : Int32) = 0 by decide), zBv_some]
  unfold nuQ
  rw [E_Rd_readNumber sc (d + 1), r3, r5, r6]
  by_cases h2 : kdN tl tb (skP tl tb p) = 2
  · rw [if_pos h2, if_pos (show nI (kdN tl tb (skP tl tb p)) = 2 by rw [h2]; rfl), r4, nI_sub e1]
    have hst : skP tl tb p < tl := (kd_2.mp h2).1
    by_cases hbad : 3 < tkE tl tb (skP tl tb p) - skP tl tb p ∨ tkV tl tb (skP tl tb p) < lo ∨ hb ≤ tkV tl tb (skP tl tb p)
    · rw [if_pos hbad]
      refine ⟨fun f hf => ?_, fun e v hf => by cases hf⟩
      cases hf
      refine ⟨_, nI (tkV tl tb (skP tl tb p)), ?_, dD_mk (by decide) (by decide) r4, sF_f⟩
      rw [h44]
      by_cases b1 : 3 < tkE tl tb (skP tl tb p) - skP tl tb p
      · rw [if_pos (iL' (m := 3) (n := 3) rfl b1 (by omega))]
        rfl
      · rw [if_neg (iG' (m := 3) (n := 3) rfl (by omega) (by decide))]
        by_cases b2 : tkV tl tb (skP tl tb p) < lo
        · rw [if_pos (nI_lt b2 (by omega))]
          rfl
        · rw [if_neg (nI_nlt (by omega) (by omega)), if_pos (hgt.mpr (by omega))]
          rfl
    · rw [if_neg hbad]
      refine ⟨fun f hf => (by cases hf), fun e v hf => ?_⟩
      cases hf
      obtain ⟨h', g1, g2, g3⟩ := Rd_step sc d h X o e2 r5 r7 r8
      refine ⟨e2, by have := e3 hst; omega, by omega, by omega, h', ?_, g2, g3⟩
      rw [if_neg (iG' (m := 3) (n := 3) rfl (by omega) (by decide)), if_neg (nI_nlt (by omega) (by omega)), if_neg (fun z => hbad (.inr (.inr (hgt.mp z)))), g1, zBv_some]
  · rw [if_neg h2, if_neg (iN (m := 2) (n := 2) rfl h2 (by omega) (by decide))]
    refine ⟨fun f hf => ?_, fun e v hf => by cases hf⟩
    cases hf
    refine ⟨_, nI (tkV tl tb (skP tl tb p)), ?_, dD_mk (by decide) (by decide) r4, sF_f⟩
    rw [Rd_fail_a sc d h r7, zBv_some, Rd_step_d sc d _ (show ¬ (1 : Int32) = 0 by decide), zBv_some]
    rfl
theorem Rd_end (sc : zSc) (d : Nat) (h : zHp) {tl : Nat} {tb : Nat → Nat} (X : TxD h tl tb) (o : txOK tl tb) {p : Nat} (hp : p ≤ tl) (R : Rd h tl tb p) : (sgQ tl tb (skP tl tb p) 59 = false → ∃ h', zRun sc (d + 2) 41 [.ref 15] zGL h = some (none, zGL, h') ∧ dD h' (1, skP tl tb p) ∧ sF h h') ∧ (sgQ tl tb (skP tl tb p) 59 = true → skP tl tb p + 1 ≤ tl ∧ ∃ h', zRun sc (d + 2) 41 [.ref 15] zGL h = some (none, zGL, h') ∧ Rd h' tl tb (skP tl tb p + 1) ∧ sF h h') := by
  have R0 := R
  obtain ⟨r3, r4, r5, r6, r7, r8⟩ := R
  constructor
  · intro hs
    refine ⟨_, ?_, dD_mk (by decide) (by decide) r4, sF_f⟩
    rw [E_Rd_readEnd sc (d + 1), show (59 : Int32) = nI 59 from rfl, Rd_sign sc d h X o hp R0 (by decide), zBi_some, hs, if_pos (show bI false = 0 from rfl), Rd_fail_a sc d h r7, zBv_some, Rd_step_d sc d _ (show ¬ (1 : Int32) = 0 by decide), zBv_some]
    rfl
  · intro hs
    obtain ⟨k3, hl⟩ := sg_3 hs
    rw [tkE_3 k3] at r5
    obtain ⟨h', g1, g2, g3⟩ := Rd_step sc d h X o (show skP tl tb p + 1 ≤ tl from hl) r5 r7 r8
    refine ⟨hl, h', ?_, g2, g3⟩
    rw [E_Rd_readEnd sc (d + 1), show (59 : Int32) = nI 59 from rfl, Rd_sign sc d h X o hp R0 (by decide), zBi_some, hs, if_neg (by decide), g1, zBv_some]
theorem sF_d {h h' : zHp} {t : Nat} {T : TT} (f : sF h h') (ht : zTw t = true) (D : TnD h t T) : TnD h' t T := by
  have h15 := tw_15 ht
  unfold TnD at D ⊢
  rw [f.2.1 t (by omega), f.2.1 (t + 1) (by omega), f.2.1 (t + 2) (by omega), f.2.1 (t + 3) (by omega)]
  exact D
theorem pN_or {a v : Nat} (hv : v < 6) (h : a.testBit v = false) : ∀ n, cN (a ||| 2 ^ v).testBit n = cN a.testBit n + (if v < n then 1 else 0)
  | 0 => rfl
  | n + 1 => by
    have ih := pN_or hv h n
    unfold cN
    rw [ih, Nat.testBit_or, Nat.testBit_two_pow]
    by_cases hn : v = n
    · subst hn
      simp [h]
    · simp only [hn, decide_false, Bool.or_false]
      by_cases h1 : v < n
      · rw [if_pos h1, if_pos (show v < n + 1 by omega)]; omega
      · rw [if_neg h1, if_neg (show ¬ v < n + 1 by omega)]; omega
theorem Rd_list_l (sc : zSc) (d : Nat) {tl : Nat} {tb : Nat → Nat} (o : txOK tl tb) {t F : Nat} (ht : zTw t = true) (hF : F ≤ 6) : ∀ n k p a h, k + n = 7 → pN a 6 = k → a < 2 ^ F → p ≤ tl → TxD h tl tb → h.2.2 15 1 = some t → h.1 t 0 = nI F → h.1 15 5 = nI p → h.1 15 7 = 0 → h.1 15 8 = -1 → (∀ f, liP tl tb F n p a = .inl f → ∃ h' v, zE sc (d + 3) 44 6 [some (.ref 15), some (.int (nI a)), some (.int 1), some (.int (nI k)), none, none] [] zGL h = some (some (.int v), zGL, h') ∧ dD h' f ∧ sF h h') ∧ (∀ e a', liP tl tb F n p a = .inr (e, a') → e ≤ tl ∧ p < e ∧ a' < 2 ^ F ∧ ∃ h', zE sc (d + 3) 44 6 [some (.ref 15), some (.int (nI a)), some (.int 1), some (.int (nI k)), none, none] [] zGL h = some (some (.int (nI a')), zGL, h') ∧ Rd h' tl tb e ∧ sF h h') := by
  have h15 := tw_15 ht
  have hp6 := p2_le hF
  intro n
  induction n with
  | zero =>
    intro k p a h hk hc
    have := cN_le a.testBit 6
    unfold pN at hc
    omega
  | succ n ih =>
    intro k p a h hk hc ha hp X hr hf h5 h7 h8
    obtain ⟨h1, e1, R1, f1⟩ := Rd_step sc (d + 1) h X o hp h5 h7 h8
    have X1 := sF_X f1 X
    have hr1 : h1.2.2 15 1 = some t := by rw [f1.1]; exact hr
    have hf1 : h1.1 t 0 = nI F := by rw [f1.2.1 t (by omega)]; exact hf
    have hhi : (nI F - 1).toInt = (F : Int) - 1 := nI_m1 (by omega)
    obtain ⟨n1, n2⟩ := Rd_num sc d h1 X1 o hp R1 (lo := 0) (hb := F) (hi := nI F - 1) (by decide) hhi
    have base : zE sc (d + 3) 44 6 [some (.ref 15), some (.int (nI a)), some (.int 1), some (.int (nI k)), none, none] [] zGL h = (zBi (zRun sc (d + 2) 40 [.ref 15, .int (nI 0), .int (nI F - 1)] zGL h1) zGL fun x3 h3 => (if (h3.1 15 7) = 0 then (zBi (zRun sc (d + 2) 11 [.int (nI a), .int x3] zGL h3) zGL fun x4 h4 => (if x4 = 0 then zE sc (d + 3) 44 65 [some (.ref 15), some (.int (nI a)), none, some (.int (nI k)), none, some (.int x3)] [] zGL h4 else (zBv (zRun sc (d + 2) 39 [.ref 15, .int 4, .int (h1.1 15 4)] zGL h4) zGL fun h5 => zE sc (d + 3) 44 65 [some (.ref 15), some (.int (nI a)), none, some (.int (nI k)), none, some (.int x3)] [] zGL h5))) else zE sc (d + 3) 44 65 [some (.ref 15), some (.int (nI a)), none, some (.int (nI k)), none, some (.int x3)] [] zGL h3)) := by
      rw [E_Rd_readList_6 sc (d + 2), if_neg (by decide), if_neg (iG' (m := 6) (n := 6) rfl (by omega) (by decide)), e1, zBv_some, zOT_k hr1 ht, hf1]
      rfl
    rw [liP, base]
    cases hnu : nuQ tl tb 0 F (skP tl tb p) with
    | inl f =>
      obtain ⟨h3, v, g1, g2, g3⟩ := n1 f hnu
      refine ⟨fun f' hf' => ?_, fun e a' hf' => by cases hf'⟩
      cases hf'
      refine ⟨h3, nI a, ?_, g2, sF_t f1 g3⟩
      rw [g1, zBi_some, if_neg g2.2.2, Rd_list_x sc (d + 2) h3 g2.2.2]
    | inr q =>
      obtain ⟨e, v⟩ := q
      obtain ⟨b1, b2, -, b3, h3, g1, g2, g3⟩ := n2 e v hnu
      have X3 := sF_X g3 X1
      have f3 := sF_t f1 g3
      have r7 : h3.1 15 7 = 0 := g2.2.2.2.2.1
      dsimp only
      rw [g1, zBi_some, if_pos r7, X_hasB sc _ zGL h3 (by omega) (by omega), zBi_some]
      cases hb : a.testBit v with
      | true =>
        simp only [if_true]
        refine ⟨fun f' hf' => ?_, fun e a' hf' => by cases hf'⟩
        cases hf'
        have dd : dD (zPI (zPI h3 15 7 (nI 4)) 15 8 (h1.1 15 4)) (4, skP tl tb p) := dD_mk (by decide) (by decide) R1.2.1
        refine ⟨_, nI a, ?_, dd, sF_t f3 sF_f⟩
        rw [if_neg (show ¬ bI true = 0 by decide), E_Rd_failAt, if_pos r7, zBv_some]
        exact Rd_list_x sc (d + 2) _ dd.2.2 _ _ _
      | false =>
        simp only [Bool.false_eq_true, if_false]
        rw [if_pos (show bI false = 0 from rfl), E_Rd_readList_65, if_pos r7, show (44 : Int32) = nI 44 from rfl, Rd_sign sc (d + 1) h3 X3 o b1 g2 (by decide), zBi_some]
        have hor := or_ltF ha b3
        cases hsg : sgQ tl tb (skP tl tb e) 44 with
        | true =>
          obtain ⟨k3, hl⟩ := sg_3 hsg
          have r5 := g2.2.2.1
          rw [tkE_3 k3] at r5
          have hsk := (sk_b tb b1).1
          simp only [if_true]
          rw [if_neg (show ¬ bI true = 0 by decide), E_Rd_readList_86, if_pos r7, nI_shl1 (by omega), nI_or, nI_1]
          obtain ⟨i1, i2⟩ := ih (k + 1) (skP tl tb e + 1) (a ||| 2 ^ v) h3 (by omega) (by
            have := pN_or (a := a) (show v < 6 by omega) hb 6
            rw [if_pos (by omega)] at this
            unfold pN at hc ⊢
            omega) hor hl X3 (by rw [f3.1]; exact hr) (by rw [f3.2.1 t (by omega)]; exact hf) r5 r7 g2.2.2.2.2.2
          refine ⟨fun f' hf' => ?_, fun e' a' hf' => ?_⟩
          · obtain ⟨h', v', j1, j2, j3⟩ := i1 f' hf'
            exact ⟨h', v', j1, j2, sF_t f3 j3⟩
          · obtain ⟨c1, c2, c3, h', j1, j2, j3⟩ := i2 e' a' hf'
            exact ⟨c1, by omega, c3, h', j1, j2, sF_t f3 j3⟩
        | false =>
          simp only [Bool.false_eq_true, if_false]
          rw [if_pos (show bI false = 0 from rfl), E_Rd_readList_85, E_Rd_readList_86, if_pos r7, nI_shl1 (by omega), nI_or, E_Rd_readList_6 sc (d + 2), if_pos rfl]
          refine ⟨fun f' hf' => by (exfalso; cases hf'), fun e' a' hf' => ?_⟩
          cases hf'
          exact ⟨b1, b2, hor, h3, rfl, g2, f3⟩
theorem Rd_list (sc : zSc) (d : Nat) (h : zHp) {tl : Nat} {tb : Nat → Nat} (o : txOK tl tb) {t F : Nat} (ht : zTw t = true) (hF : F ≤ 6) {p : Nat} (hp : p ≤ tl) (X : TxD h tl tb) (hr : h.2.2 15 1 = some t) (hf : h.1 t 0 = nI F) (h5 : h.1 15 5 = nI p) (h7 : h.1 15 7 = 0) (h8 : h.1 15 8 = -1) : (∀ f, liP tl tb F 7 p 0 = .inl f → ∃ h' v, zRun sc (d + 3) 44 [.ref 15] zGL h = some (some (.int v), zGL, h') ∧ dD h' f ∧ sF h h') ∧ (∀ e a', liP tl tb F 7 p 0 = .inr (e, a') → e ≤ tl ∧ p < e ∧ a' < 2 ^ F ∧ ∃ h', zRun sc (d + 3) 44 [.ref 15] zGL h = some (some (.int (nI a')), zGL, h') ∧ Rd h' tl tb e ∧ sF h h') := by
  rw [E_Rd_readList sc (d + 2)]
  exact Rd_list_l sc d o ht hF 7 0 p 0 h rfl (by decide) (Nat.two_pow_pos _) hp X hr hf h5 h7 h8
