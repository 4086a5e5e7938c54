/-! ===== the law's loop ===== -/
theorem okS_l {sc : zSc} {D M1 : Nat} {as1 : List Value} {M2 : Nat} {as2 : List Value} {h : zHp} {F G : zHp → Option zRs} (o : okS sc D M1 as1 M2 as2 h) (hF : ∀ h2, SI h2 → ∃ g' h', F h2 = some (some (.int 1), g', h')) : ∃ g' h', (zBi (zRun sc D M1 as1 zGL h) zGL fun x1 h1 => zBi (zRun sc D M2 as2 zGL h1) zGL fun x2 h2 => if x1 = x2 then F h2 else G h2) = some (some (.int 1), g', h') := by
  obtain ⟨v, h1, h2, e1, e2, s⟩ := o
  rw [e1, zBi_some, e2, zBi_some, if_pos rfl]
  exact hF h2 s
theorem ex_t {sc : zSc} {n : Nat} (hn : n ≤ 2560) {j : Nat} (hj : 5 * j ≤ 2560) : (Int32.ofNat n - 5 < nI (5 * j)) ↔ n < 5 * j + 5 := by
  have h1 : (nI n - nI 5).toInt = (n : Int) - (5 : Nat) := pk_sub_toInt (by omega) (by decide)
  rw [Int32.lt_iff_toInt_lt, nI_toInt (by omega)]
  have h2 : (Int32.ofNat n - 5).toInt = (n : Int) - (5 : Nat) := h1
  rw [h2]
  omega
set_option maxRecDepth 20000 in
set_option maxHeartbeats 4000000 in
theorem law_l (sc : zSc) (d : Nat) (hL : sc.1 ≤ 2560) : ∀ n j h, sc.1 ≤ 5 * (j + n) → 5 * j ≤ sc.1 → SI h → ∃ g' h', zE sc (d + 20 + 1) 197 18 [some (.ref 1300), some (.ref 0), some (.ref 46), some (.int (nI (5 * j)))] [] zGL h = some (some (.int 1), g', h') := by
  intro n
  induction n with
  | zero =>
    intro j h hn hj s
    rw [E_Lw_18 sc (d + 20), if_pos ((ex_t (sc := sc) hL (by omega)).mpr (by omega))]
    exact ⟨_, _, rfl⟩
  | succ n ih =>
    intro j h hn hj s
    by_cases hx : sc.1 < 5 * j + 5
    · rw [E_Lw_18 sc (d + 20), if_pos ((ex_t (sc := sc) hL (by omega)).mpr hx)]
      exact ⟨_, _, rfl⟩
    have z0 : zin (nI (5 * j)) sc.1 = true := zin_nI (by omega) (by omega)
    have z1 : zin (nI (5 * j) + 1) sc.1 = true := by rw [nI_1]; exact zin_nI (by omega) (by omega)
    have z2 : zin (nI (5 * j) + 2) sc.1 = true := by rw [nI_2]; exact zin_nI (by omega) (by omega)
    have z3 : zin (nI (5 * j) + 3) sc.1 = true := by rw [nI_3]; exact zin_nI (by omega) (by omega)
    have z4 : zin (nI (5 * j) + 4) sc.1 = true := by rw [nI_4]; exact zin_nI (by omega) (by omega)
    have nx : ∀ h2, SI h2 → ∃ g' h', zE sc (d + 20 + 1) 197 18 [some (.ref 1300), some (.ref 0), some (.ref 46), some (.int (nI (5 * j) + 5))] [] zGL h2 = some (some (.int 1), g', h') := fun h2 s2 => by
      have e : nI (5 * j) + 5 = nI (5 * (j + 1)) := nI_add (5 * j) 5
      rw [e]
      exact ih (j + 1) h2 (by omega) (by omega) s2
    rw [E_Lw_18 sc (d + 20), if_neg (fun z => hx ((ex_t (sc := sc) hL (by omega)).mp z)), if_pos z0]
    simp only [if_pos z1, if_pos z2, if_pos z3, if_pos z4]
    generalize sc.2 (nI (5 * j)).toNatClampNeg &&& 31 = op
    by_cases c0 : op = 0
    · rw [if_pos c0]
      exact okS_l (op_feed sc d h s _ _) nx
    rw [if_neg c0]
    by_cases c1 : op = 1
    · rw [if_pos c1]
      exact okS_l (op_town sc d h s) nx
    rw [if_neg c1]
    by_cases c2 : op = 2
    · rw [if_pos c2]
      exact okS_l (op_fault sc d h s) nx
    rw [if_neg c2]
    by_cases c3 : op = 3
    · rw [if_pos c3]
      exact okS_l (op_told sc d h s _) nx
    rw [if_neg c3]
    by_cases c4 : op = 4
    · rw [if_pos c4]
      exact okS_l (op_fact sc d h s _ _) nx
    rw [if_neg c4]
    by_cases c5 : op = 5
    · rw [if_pos c5]
      exact okS_l (op_person sc d h s _ _) nx
    rw [if_neg c5]
    by_cases c6 : op = 6
    · rw [if_pos c6]
      exact okS_l (op_closed sc d h s _) nx
    rw [if_neg c6]
    by_cases c7 : op = 7
    · rw [if_pos c7]
      exact okS_l (op_canKnow sc d h s _ _ _) nx
    rw [if_neg c7]
    by_cases c8 : op = 8
    · rw [if_pos c8]
      exact okS_l (op_sure sc d h s _ _ _) nx
    rw [if_neg c8]
    by_cases c9 : op = 9
    · rw [if_pos c9]
      exact okS_l (op_safe sc d h s _ _) nx
    rw [if_neg c9]
    by_cases c10 : op = 10
    · rw [if_pos c10]
      exact okS_l (op_odds sc d h s _ _ _) nx
    rw [if_neg c10]
    by_cases c11 : op = 11
    · rw [if_pos c11]
      exact okS_l (op_best sc d h s _ _) nx
    rw [if_neg c11]
    by_cases c12 : op = 12
    · rw [if_pos c12]
      exact okS_l (op_say sc d h s _ _ _ _) nx
    rw [if_neg c12]
    by_cases c13 : op = 13
    · rw [if_pos c13]
      exact okS_l (op_silent sc d h s _ _) nx
    rw [if_neg c13]
    by_cases c14 : op = 14
    · rw [if_pos c14]
      exact okS_l (op_morning sc d h s) nx
    rw [if_neg c14]
    by_cases c15 : op = 15
    · rw [if_pos c15]
      exact okS_l (op_party sc d h s _) nx
    rw [if_neg c15]
    by_cases c16 : op = 16
    · rw [if_pos c16]
      exact okS_l (op_plan sc d h s _ _ _) nx
    rw [if_neg c16]
    by_cases c17 : op = 17
    · rw [if_pos c17]
      exact okS_l (op_hats sc d h s _) nx
    rw [if_neg c17]
    by_cases c18 : op = 18
    · rw [if_pos c18]
      exact okS_l (op_common sc d h s _ _ _) nx
    rw [if_neg c18]
    by_cases c19 : op = 19
    · rw [if_pos c19]
      exact okS_l (op_knew sc d h s _ _) nx
    rw [if_neg c19]
    by_cases c20 : op = 20
    · rw [if_pos c20]
      exact okS_l (op_bore sc d h s) nx
    rw [if_neg c20]
    by_cases c21 : op = 21
    · rw [if_pos c21]
      exact okS_l (op_log sc d h s _ _) nx
    rw [if_neg c21]
    by_cases c22 : op = 22
    · rw [if_pos c22]
      exact okS_l (op_write sc d h s _ _ _) nx
    rw [if_neg c22]
    by_cases c23 : op = 23
    · rw [if_pos c23]
      exact okS_l (op_tear sc d h s) nx
    rw [if_neg c23]
    by_cases c24 : op = 24
    · rw [if_pos c24]
      exact okS_l (op_judge sc d h s) nx
    rw [if_neg c24]
    by_cases c25 : op = 25
    · rw [if_pos c25]
      exact okS_l (op_drift sc d h s _ _) nx
    rw [if_neg c25]
    by_cases c26 : op = 26
    · rw [if_pos c26]
      exact okS_l (op_seed sc d h s _) nx
    rw [if_neg c26]
    by_cases c27 : op = 27
    · rw [if_pos c27]
      exact okS_l (op_keep sc d h s _) nx
    rw [if_neg c27]
    by_cases c28 : op = 28
    · rw [if_pos c28]
      exact okS_l (op_goBack sc d h s _) nx
    rw [if_neg c28]
    exact nx h s
theorem goal : zGoal := by
  intro sc hL
  obtain ⟨h1, e1, G1⟩ := init_X sc 30
  obtain ⟨h2, e2, M2, f2⟩ := init_M sc 30 h1
  have s2 : SI h2 := ⟨3, 9, T00, K00, X00, B00, I00, -1, GO_0, GX_f f2 (.inr (.inr (by decide))) (by decide) G1, M2⟩
  obtain ⟨g', h', e⟩ := law_l sc 19 hL 512 0 h2 (by omega) (by omega) s2
  refine ⟨g', h', ?_⟩
  show zE sc (30 + 9 + 1) 197 0 [some (.ref 1300), none, none, none] [] (0, []) zH0 = _
  rw [E_Lw_0, e1, zBn_some, E_Lw_7, e2, zBn_some, zg_full, E_Lw_15]
  exact e
