/-! ===== calls that ask ===== -/
theorem op_fault (sc : zSc) (d : Nat) (h : zHp) (s : SI h) : okS sc (d + 20) 48 [.ref 0] 144 [.ref 46] h := by
  have s0 := s
  obtain ⟨t, t', T, K, X, B, I, fl, O, G, M⟩ := s
  exact okS_q s0 (by rw [E_X_fault, G.2.2.2.2.2.2]) (by rw [E_Mo_fault, M.2.2.2.2.2.2])
theorem op_told (sc : zSc) (d : Nat) (h : zHp) (s : SI h) (v : Int32) : okS sc (d + 20) 49 [.ref 0, .int v] 145 [.ref 46, .int v] h := by
  have s0 := s
  obtain ⟨t, t', T, K, X, B, I, fl, ⟨⟨ht, -, -⟩, O, kk, xo, bo, ko⟩, ⟨⟨h8, -, -, -⟩, S, R, TX, BK, KP, -⟩, MT, MC, MK, MX, MB, MI, -⟩ := s
  by_cases c0 : v = 0
  · exact okS_q s0 (by rw [E_X_told, if_pos c0, zOT_k h8 ht, S.1.1]) (by rw [E_Mo_told, if_pos c0, MT.1])
  by_cases c1 : v = 1
  · exact okS_q s0 (by rw [E_X_told, if_neg c0, if_pos c1, zOT_k h8 ht, S.1.2.1]) (by rw [E_Mo_told, if_neg c0, if_pos c1, MT.2.1])
  by_cases c2 : v = 2
  · exact okS_q s0 (by rw [E_X_told, if_neg c0, if_neg c1, if_pos c2, zOT_k h8 ht, S.1.2.2.1]) (by rw [E_Mo_told, if_neg c0, if_neg c1, if_pos c2, MT.2.2.1])
  by_cases c3 : v = 3
  · exact okS_q s0 (by rw [E_X_told, if_neg c0, if_neg c1, if_neg c2, if_pos c3, TX.1]) (by rw [E_Mo_told, if_neg c0, if_neg c1, if_neg c2, if_pos c3, MX.1])
  by_cases c4 : v = 4
  · exact okS_q s0 (by rw [E_X_told, if_neg c0, if_neg c1, if_neg c2, if_neg c3, if_pos c4, R.2.2.2.1]) (by rw [E_Mo_told, if_neg c0, if_neg c1, if_neg c2, if_neg c3, if_pos c4, MK.2.2.2.1])
  by_cases c5 : v = 5
  · exact okS_q s0 (by rw [E_X_told, if_neg c0, if_neg c1, if_neg c2, if_neg c3, if_neg c4, if_pos c5, BK.1]) (by rw [E_Mo_told, if_neg c0, if_neg c1, if_neg c2, if_neg c3, if_neg c4, if_pos c5, MB.1])
  by_cases c6 : v = 6
  · exact okS_q s0 (by rw [E_X_told, if_neg c0, if_neg c1, if_neg c2, if_neg c3, if_neg c4, if_neg c5, if_pos c6, zOT_k h8 ht, S.2.2.2, JL_bc, zBi_some]) (by rw [E_Mo_told, if_neg c0, if_neg c1, if_neg c2, if_neg c3, if_neg c4, if_neg c5, if_pos c6, MC.2, Mo_bits, zBi_some])
  exact okS_q s0 (by rw [E_X_told, if_neg c0, if_neg c1, if_neg c2, if_neg c3, if_neg c4, if_neg c5, if_neg c6]) (by rw [E_Mo_told, if_neg c0, if_neg c1, if_neg c2, if_neg c3, if_neg c4, if_neg c5, if_neg c6])
theorem op_fact (sc : zSc) (d : Nat) (h : zHp) (s : SI h) (v w : Int32) : okS sc (d + 20) 51 [.ref 0, .int v, .int w] 147 [.ref 46, .int v, .int w] h := by
  have s0 := s
  obtain ⟨t, t', T, K, X, B, I, fl, ⟨⟨ht, -, -⟩, O, kk, xo, bo, ko⟩, ⟨⟨h8, -, -, -⟩, S, R, TX, BK, KP, -⟩, MT, MC, MK, MX, MB, MI, -⟩ := s
  have hF6 := O.1
  cases hv : isI v T.F with
  | false => exact okS_q s0 (by rw [E_X_fact, X_isFact sc _ h ht h8 S.1, zBi_some, hv, b0]) (by rw [E_Mo_fact, Mo_isFact sc _ h O MT, zBi_some, hv, b0])
  | true =>
    obtain ⟨f, hf, rfl⟩ := isI_of (by omega) hv
    by_cases c0 : w = 0
    · exact okS_q s0 (by rw [E_X_fact, X_isFact sc _ h ht h8 S.1, zBi_some, hv, b1, if_pos c0, zOT_k h8 ht, if_pos (zin_nI (by omega) (by decide)), nI_clamp (by omega), (S.1.2.2.2.1 f hf).1]) (by rw [E_Mo_fact, Mo_isFact sc _ h O MT, zBi_some, hv, b1, if_pos c0, if_pos (zin_nI (by omega) (by decide)), nI_clamp (by omega), (MT.2.2.2 f hf).1])
    by_cases c1 : w = 1
    · exact okS_q s0 (by rw [E_X_fact, X_isFact sc _ h ht h8 S.1, zBi_some, hv, b1, if_neg c0, if_pos c1, zOT_k h8 ht, if_pos (zin_nI (by omega) (by decide)), nI_clamp (by omega), (S.1.2.2.2.1 f hf).2]) (by rw [E_Mo_fact, Mo_isFact sc _ h O MT, zBi_some, hv, b1, if_neg c0, if_pos c1, if_pos (zin_nI (by omega) (by decide)), nI_clamp (by omega), (MT.2.2.2 f hf).2])
    by_cases c2 : w = 2
    · exact okS_q s0 (by rw [E_X_fact, X_isFact sc _ h ht h8 S.1, zBi_some, hv, b1, if_neg c0, if_neg c1, if_pos c2, zOT_k h8 ht, Tk_whoKnows sc _ zGL h zS4_26 (zTw_6 ht) O S.1 R kk (by omega), zBi_some]) (by rw [E_Mo_fact, Mo_isFact sc _ h O MT, zBi_some, hv, b1, if_neg c0, if_neg c1, if_pos c2, Mo_knowers sc _ h O MT MK kk (by omega), zBi_some])
    exact okS_q s0 (by rw [E_X_fact, X_isFact sc _ h ht h8 S.1, zBi_some, hv, b1, if_neg c0, if_neg c1, if_neg c2]) (by rw [E_Mo_fact, Mo_isFact sc _ h O MT, zBi_some, hv, b1, if_neg c0, if_neg c1, if_neg c2])
theorem op_person (sc : zSc) (d : Nat) (h : zHp) (s : SI h) (v w : Int32) : okS sc (d + 20) 54 [.ref 0, .int v, .int w] 150 [.ref 46, .int v, .int w] h := by
  have s0 := s
  obtain ⟨t, t', T, K, X, B, I, fl, ⟨⟨ht, -, -⟩, O, kk, xo, bo, ko⟩, ⟨⟨h8, -, -, -⟩, S, R, TX, BK, KP, -⟩, MT, MC, MK, MX, MB, MI, -⟩ := s
  have hP5 := O.2.1
  cases hv : isI v T.P with
  | false => exact okS_q s0 (by rw [E_X_person, X_isPerson sc _ h ht h8 S.1, zBi_some, hv, b0]) (by rw [E_Mo_person, Mo_isPerson sc _ h O MT, zBi_some, hv, b0])
  | true =>
    obtain ⟨p, hp, rfl⟩ := isI_of (by omega) hv
    by_cases c0 : w = 0
    · exact okS_q s0 (by rw [E_X_person, X_isPerson sc _ h ht h8 S.1, zBi_some, hv, b1, if_pos c0, if_pos (zin_nI (by omega) (by decide)), nI_clamp (by omega), (R.1 p hp).1]) (by rw [E_Mo_person, Mo_isPerson sc _ h O MT, zBi_some, hv, b1, if_pos c0, if_pos (zin_nI (by omega) (by decide)), nI_clamp (by omega), (MK.1 p hp).1])
    by_cases c1 : w = 1
    · exact okS_q s0 (by rw [E_X_person, X_isPerson sc _ h ht h8 S.1, zBi_some, hv, b1, if_neg c0, if_pos c1, if_pos (zin_nI (by omega) (by decide)), nI_clamp (by omega), (R.1 p hp).2.1]) (by rw [E_Mo_person, Mo_isPerson sc _ h O MT, zBi_some, hv, b1, if_neg c0, if_pos c1, if_pos (zin_nI (by omega) (by decide)), nI_clamp (by omega), (MK.1 p hp).2.1])
    by_cases c2 : w = 2
    · exact okS_q s0 (by rw [E_X_person, X_isPerson sc _ h ht h8 S.1, zBi_some, hv, b1, if_neg c0, if_neg c1, if_pos c2, if_pos (zin_nI (by omega) (by decide)), nI_clamp (by omega), (R.1 p hp).2.2]) (by rw [E_Mo_person, Mo_isPerson sc _ h O MT, zBi_some, hv, b1, if_neg c0, if_neg c1, if_pos c2, if_pos (zin_nI (by omega) (by decide)), nI_clamp (by omega), (MK.1 p hp).2.2])
    by_cases c3 : w = 3
    · exact okS_q s0 (by rw [E_X_person, X_isPerson sc _ h ht h8 S.1, zBi_some, hv, b1, if_neg c0, if_neg c1, if_neg c2, if_pos c3, zOT_k h8 ht, Tk_plainLack sc _ zGL h zS4_26 (zTw_6 ht) O S R kk hp, zBi_some]) (by rw [E_Mo_person, Mo_isPerson sc _ h O MT, zBi_some, hv, b1, if_neg c0, if_neg c1, if_neg c2, if_pos c3, Mo_plainLack sc _ h O MT MC MK kk hp, zBi_some])
    exact okS_q s0 (by rw [E_X_person, X_isPerson sc _ h ht h8 S.1, zBi_some, hv, b1, if_neg c0, if_neg c1, if_neg c2, if_neg c3]) (by rw [E_Mo_person, Mo_isPerson sc _ h O MT, zBi_some, hv, b1, if_neg c0, if_neg c1, if_neg c2, if_neg c3])
theorem op_closed (sc : zSc) (d : Nat) (h : zHp) (s : SI h) (v : Int32) : okS sc (d + 20) 58 [.ref 0, .int v] 154 [.ref 46, .int v] h := by
  have s0 := s
  obtain ⟨t, t', T, K, X, B, I, fl, ⟨⟨ht, -, -⟩, O, kk, xo, bo, ko⟩, ⟨⟨h8, -, -, -⟩, S, R, TX, BK, KP, -⟩, MT, MC, MK, MX, MB, MI, -⟩ := s
  have hp := p2_le O.1
  cases hv : isI v (2 ^ T.F) with
  | false => exact okS_q s0 (by rw [E_X_closed, X_isSet sc _ h ht h8 O S.1, zBi_some, hv, b0]) (by rw [E_Mo_closed, Mo_isSet sc _ h O MT, zBi_some, hv, b0])
  | true =>
    obtain ⟨a, ha, rfl⟩ := isI_of (by omega) hv
    exact okS_q s0 (by rw [E_X_closed, X_isSet sc _ h ht h8 O S.1, zBi_some, hv, b1, zOT_k h8 ht, Tn_closure sc _ zGL h (zTw_6 ht) O S.1 (by omega), zBi_some]) (by rw [E_Mo_closed, Mo_isSet sc _ h O MT, zBi_some, hv, b1, if_pos (zin_nI (by omega) (by decide)), nI_clamp (by omega), MC.1 a ha])
theorem op_canKnow (sc : zSc) (d : Nat) (h : zHp) (s : SI h) (v w i : Int32) : okS sc (d + 20) 60 [.ref 0, .int v, .int w, .int i] 156 [.ref 46, .int v, .int w, .int i] h := by
  have s0 := s
  obtain ⟨t, t', T, K, X, B, I, fl, ⟨⟨ht, -, -⟩, O, kk, xo, bo, ko⟩, ⟨⟨h8, -, -, -⟩, S, R, TX, BK, KP, -⟩, MT, MC, MK, MX, MB, MI, -⟩ := s
  have hP5 := O.2.1
  cases hv : twoB T v w with
  | false => exact okS_q s0 (by rw [E_X_canKnow, X_areTwo sc _ h ht h8 S.1, zBi_some, hv, b0]) (by rw [E_Mo_canKnow, Mo_areTwo sc _ h O MT, zBi_some, hv, b0])
  | true =>
    obtain ⟨p, q, hp, hq, hn, rfl, rfl⟩ := twoB_of O hv
    have h5 := v5' (show p < 5 by omega) (show q < 5 by omega)
    exact okS_q s0 (by rw [E_X_canKnow, X_areTwo sc _ h ht h8 S.1, zBi_some, hv, b1, Tk_view sc _ zGL h zS4_26 O R hp hq hn, zBj_some, Fa_countOrSet sc _ zGL h, zBi_some]) (by rw [E_Mo_canKnow, Mo_areTwo sc _ h O MT, zBi_some, hv, b1, h5.1, if_pos (zin_nI h5.2 (by decide)), nI_clamp (by omega), MK.2.1 p q hp hq hn, Mo_pick sc _ h O MT (KOK_in kk hp hq hn), zBi_some])
theorem op_sure (sc : zSc) (d : Nat) (h : zHp) (s : SI h) (v w i : Int32) : okS sc (d + 20) 64 [.ref 0, .int v, .int w, .int i] 159 [.ref 46, .int v, .int w, .int i] h := by
  have s0 := s
  obtain ⟨t, t', T, K, X, B, I, fl, ⟨⟨ht, -, -⟩, O, kk, xo, bo, ko⟩, ⟨⟨h8, -, -, -⟩, S, R, TX, BK, KP, -⟩, MT, MC, MK, MX, MB, MI, -⟩ := s
  cases hv : twoB T v w with
  | false => exact okS_q s0 (by rw [E_X_sure, X_areTwo sc _ h ht h8 S.1, zBi_some, hv, b0]) (by rw [E_Mo_sure, Mo_areTwo sc _ h O MT, zBi_some, hv, b0])
  | true =>
    obtain ⟨p, q, hp, hq, hn, rfl, rfl⟩ := twoB_of O hv
    by_cases c0 : i = 0
    · exact okS_q s0 (by rw [E_X_sure, X_areTwo sc _ h ht h8 S.1, zBi_some, hv, b1, if_pos c0, zOT_k h8 ht, Tk_sureKnown sc _ zGL h zS4_26 (zTw_6 ht) O S.1 R hp hq hn, zBi_some]) (by rw [E_Mo_sure, Mo_areTwo sc _ h O MT, zBi_some, hv, b1, if_pos c0, Mo_sureKnows sc _ h O MT MK kk hp hq hn, zBi_some])
    by_cases c1 : i = 1
    · exact okS_q s0 (by rw [E_X_sure, X_areTwo sc _ h ht h8 S.1, zBi_some, hv, b1, if_neg c0, if_pos c1, zOT_k h8 ht, Tk_sureLacked sc _ zGL h zS4_26 (zTw_6 ht) O S.1 R hp hq hn, zBi_some]) (by rw [E_Mo_sure, Mo_areTwo sc _ h O MT, zBi_some, hv, b1, if_neg c0, if_pos c1, Mo_sureLacks sc _ h O MT MK kk hp hq hn, zBi_some])
    exact okS_q s0 (by rw [E_X_sure, X_areTwo sc _ h ht h8 S.1, zBi_some, hv, b1, if_neg c0, if_neg c1]) (by rw [E_Mo_sure, Mo_areTwo sc _ h O MT, zBi_some, hv, b1, if_neg c0, if_neg c1])
theorem op_safe (sc : zSc) (d : Nat) (h : zHp) (s : SI h) (v w : Int32) : okS sc (d + 20) 68 [.ref 0, .int v, .int w] 164 [.ref 46, .int v, .int w] h := by
  have s0 := s
  obtain ⟨t, t', T, K, X, B, I, fl, ⟨⟨ht, -, -⟩, O, kk, xo, bo, ko⟩, ⟨⟨h8, -, -, -⟩, S, R, TX, BK, KP, -⟩, MT, MC, MK, MX, MB, MI, -⟩ := s
  cases hv : twoB T v w with
  | false => exact okS_q s0 (by rw [E_X_safe, X_areTwo sc _ h ht h8 S.1, zBi_some, hv, b0]) (by rw [E_Mo_safe, Mo_areTwo sc _ h O MT, zBi_some, hv, b0])
  | true =>
    obtain ⟨p, q, hp, hq, hn, rfl, rfl⟩ := twoB_of O hv
    exact okS_q s0 (by rw [E_X_safe, X_areTwo sc _ h ht h8 S.1, zBi_some, hv, b1, zOT_k h8 ht, Tk_safeFacts sc _ zGL h zS4_26 (zTw_6 ht) O S.1 R hp hq hn, zBi_some]) (by rw [E_Mo_safe, Mo_areTwo sc _ h O MT, zBi_some, hv, b1, Mo_safeOf sc _ h O MT MK kk hp hq hn, zBi_some])
theorem op_odds (sc : zSc) (d : Nat) (h : zHp) (s : SI h) (v w i : Int32) : okS sc (d + 20) 70 [.ref 0, .int v, .int w, .int i] 166 [.ref 46, .int v, .int w, .int i] h := by
  have s0 := s
  obtain ⟨t, t', T, K, X, B, I, fl, ⟨⟨ht, -, -⟩, O, kk, xo, bo, ko⟩, ⟨⟨h8, -, -, -⟩, S, R, TX, BK, KP, -⟩, MT, MC, MK, MX, MB, MI, -⟩ := s
  have hF6 := O.1
  cases hv : twoB T v w with
  | false => exact okS_q s0 (by rw [E_X_odds, X_areTwo sc _ h ht h8 S.1, zBi_some, hv, b0]) (by rw [E_Mo_odds, Mo_areTwo sc _ h O MT, zBi_some, hv, b0])
  | true =>
    obtain ⟨p, q, hp, hq, hn, rfl, rfl⟩ := twoB_of O hv
    cases hi : isI i T.F with
    | false => exact okS_q s0 (by rw [E_X_odds, X_areTwo sc _ h ht h8 S.1, zBi_some, hv, b1, X_isFact sc _ h ht h8 S.1, zBi_some, hi, b0]) (by rw [E_Mo_odds, Mo_areTwo sc _ h O MT, zBi_some, hv, b1, Mo_isFact sc _ h O MT, zBi_some, hi, b0])
    | true =>
      obtain ⟨f, hf, rfl⟩ := isI_of (by omega) hi
      exact okS_q s0 (by rw [E_X_odds, X_areTwo sc _ h ht h8 S.1, zBi_some, hv, b1, X_isFact sc _ h ht h8 S.1, zBi_some, hi, b1, Tk_chance sc _ zGL h zS4_26 O R hp hq hn (by omega), zBi_some]) (by rw [E_Mo_odds, Mo_areTwo sc _ h O MT, zBi_some, hv, b1, Mo_isFact sc _ h O MT, zBi_some, hi, b1, Mo_oddsOf sc _ h O MT MK kk hp hq hn (by omega), zBi_some])
theorem op_best (sc : zSc) (d : Nat) (h : zHp) (s : SI h) (v w : Int32) : okS sc (d + 20) 72 [.ref 0, .int v, .int w] 169 [.ref 46, .int v, .int w] h := by
  have s0 := s
  obtain ⟨t, t', T, K, X, B, I, fl, ⟨⟨ht, -, -⟩, O, kk, xo, bo, ko⟩, ⟨⟨h8, -, -, -⟩, S, R, TX, BK, KP, -⟩, MT, MC, MK, MX, MB, MI, -⟩ := s
  cases hv : twoB T v w with
  | false => exact okS_q s0 (by rw [E_X_best, X_areTwo sc _ h ht h8 S.1, zBi_some, hv, b0]) (by rw [E_Mo_best, Mo_areTwo sc _ h O MT, zBi_some, hv, b0])
  | true =>
    obtain ⟨p, q, hp, hq, hn, rfl, rfl⟩ := twoB_of O hv
    exact okS_q s0 (by rw [E_X_best, X_areTwo sc _ h ht h8 S.1, zBi_some, hv, b1, zOT_k h8 ht, Tk_bestSaying sc _ zGL h zS4_26 (zTw_6 ht) O S.1 R kk hp hq hn, zBi_some]) (by rw [E_Mo_best, Mo_areTwo sc _ h O MT, zBi_some, hv, b1, Mo_bestOf sc _ h O MT MK kk hp hq hn, zBi_some])
theorem twoB_p {T : TT} {v w : Int32} (h : twoB T v w = true) : isI v T.P = true ∧ isI w T.P = true ∧ v ≠ w := by
  unfold twoB at h
  rw [Bool.and_eq_true, Bool.and_eq_true, decide_eq_true_eq] at h
  exact ⟨h.1.1, h.1.2, h.2⟩
theorem twoB_i {T : TT} {v w : Int32} (h1 : isI v T.P = true) (h2 : isI w T.P = true) (h3 : v ≠ w) : twoB T v w = true := by
  unfold twoB
  rw [h1, h2, decide_eq_true h3]
  rfl
theorem op_common (sc : zSc) (d : Nat) (h : zHp) (s : SI h) (c v w : Int32) : okS sc (d + 20) 105 [.ref 0, .int c, .int v, .int w] 184 [.ref 46, .int c, .int v, .int w] h := by
  have s0 := s
  obtain ⟨t, t', T, K, X, B, I, fl, ⟨⟨ht, -, -⟩, O, kk, xo, bo, ko⟩, ⟨⟨h8, -, -, -⟩, S, R, TX, BK, KP, -⟩, MT, MC, MK, MX, MB, MI, -⟩ := s
  have hP5 := O.2.1
  have cl : ∀ (b1' : twoB T c v = false ∨ twoB T c w = false ∨ twoB T v w = false), zRun sc (d + 20) 105 [.ref 0, .int c, .int v, .int w] zGL h = some (some (.int (-1000000001)), zGL, h) := by
    intro hb
    rw [E_X_common, X_areTwo sc _ h ht h8 S.1, zBi_some]
    cases h1 : twoB T c v with
    | false => rw [b0]
    | true =>
      rw [b1, X_areTwo sc _ h ht h8 S.1, zBi_some]
      cases h2 : twoB T c w with
      | false => rw [b0]
      | true =>
        rw [b1, X_areTwo sc _ h ht h8 S.1, zBi_some]
        cases h3 : twoB T v w with
        | false => rw [b0]
        | true => rw [h1, h2, h3] at hb; simp at hb
  have rf : ∀ (b1' : twoB T v w = false ∨ twoB T c v = false ∨ c = w), zRun sc (d + 20) 184 [.ref 46, .int c, .int v, .int w] zGL h = some (some (.int (-1000000001)), zGL, h) := by
    intro hb
    rw [E_Mo_common, Mo_areTwo sc _ h O MT, zBi_some]
    cases h1 : twoB T v w with
    | false => rw [b0]
    | true =>
      rw [b1, Mo_areTwo sc _ h O MT, zBi_some]
      cases h2 : twoB T c v with
      | false => rw [b0]
      | true =>
        rw [h1, h2] at hb
        rw [b1, if_pos (by simpa using hb)]
  cases hab : twoB T v w with
  | false => exact okS_q s0 (cl (.inr (.inr hab))) (rf (.inl hab))
  | true =>
    cases hca : twoB T c v with
    | false => exact okS_q s0 (cl (.inl hca)) (rf (.inr (.inl hca)))
    | true =>
      cases hcb : twoB T c w with
      | false =>
        refine okS_q s0 (cl (.inr (.inl hcb))) (rf (.inr (.inr ?_)))
        apply Classical.byContradiction
        intro hne
        rw [twoB_i (twoB_p hca).1 (twoB_p hab).2.1 hne] at hcb
        cases hcb
      | true =>
        have hne := (twoB_p hcb).2.2
        obtain ⟨r, p, hr, hp, hn1, e1, e2⟩ := twoB_of O hca
        obtain ⟨r', q, hr', hq, hn2, e3, e4⟩ := twoB_of O hcb
        have : r = r' := (nI_eq (by omega) (by omega)).mp (e1.symm.trans e3)
        subst this
        subst e1
        subst e2
        subst e4
        exact okS_q s0 (by rw [E_X_common, X_areTwo sc _ h ht h8 S.1, zBi_some, hca, b1, X_areTwo sc _ h ht h8 S.1, zBi_some, hcb, b1, X_areTwo sc _ h ht h8 S.1, zBi_some, hab, b1, zOT_k h8 ht, Tk_sureKnown sc _ zGL h zS4_26 (zTw_6 ht) O S.1 R hr hp hn1, zBi_some, zOT_k h8 ht, Tk_sureKnown sc _ zGL h zS4_26 (zTw_6 ht) O S.1 R hr hq hn2, zBi_some]) (by rw [E_Mo_common, Mo_areTwo sc _ h O MT, zBi_some, hab, b1, Mo_areTwo sc _ h O MT, zBi_some, hca, b1, if_neg hne, Mo_sureKnows sc _ h O MT MK kk hr hp hn1, zBi_some, Mo_sureKnows sc _ h O MT MK kk hr hq hn2, zBi_some])
theorem op_log (sc : zSc) (d : Nat) (h : zHp) (s : SI h) (v w : Int32) : okS sc (d + 20) 111 [.ref 0, .int v, .int w] 188 [.ref 46, .int v, .int w] h := by
  have s0 := s
  obtain ⟨t, t', T, K, X, B, I, fl, ⟨⟨ht, -, -⟩, O, kk, xo, bo, ko⟩, ⟨⟨h8, -, -, -⟩, S, R, TX, BK, KP, -⟩, MT, MC, MK, MX, MB, MI, -⟩ := s
  have hL := kk.2.2.1
  have m5 : zRun sc (d + 19) 132 [.long w.toInt64, .long 0, .long 4] zGL h = some (some (.int (bI (isI w 5))), zGL, h) := Mo_in sc (d + 19) h w (n := 5) (by decide)
  have mL := Mo_in sc (d + 19) h v (n := K.L) (by omega)
  have c5 : isI w 5 = false → w < 0 ∨ ¬ w < 5 := fun hf => by
    unfold isI at hf
    rw [decide_eq_false_iff_not] at hf
    by_cases z : w < 0
    · exact .inl z
    · exact .inr (fun y => hf ⟨z, y⟩)
  cases hw : isI w 5 with
  | false =>
    refine okS_q (v := -1000000002) s0 ?_ (by rw [E_Mo_log, m5, zBi_some, hw, b0])
    rw [E_X_log]
    rcases c5 hw with z | z
    · rw [if_pos z]
    · rw [if_neg z]
      split <;> rfl
  | true =>
    obtain ⟨k, hk, rfl⟩ := isI_of (by decide) hw
    cases hv : isI v K.L with
    | false =>
      refine okS_q (v := -1) s0 ?_ (by rw [E_Mo_log, m5, zBi_some, hw, b1, MK.2.2.2.1, mL, zBi_some, hv, b0])
      rw [E_X_log, if_neg (nI_pos (by omega)), if_pos (iL (m := 5) (n := 5) rfl hk (by decide)), R.2.2.2.1]
      have := i_is v (n := K.L) h
      unfold isI at hv
      rw [decide_eq_false_iff_not] at hv
      by_cases z : v < 0
      · rw [if_pos z]
      · rw [if_neg z, if_neg (fun y => hv ⟨z, y⟩)]
    | true =>
      obtain ⟨i, hi, rfl⟩ := isI_of (by omega) hv
      have e1 : nI i * 5 + nI k = nI (5 * i + k) := by rw [n5, nI_add]
      have e2 : 5 * nI i + nI k = nI (5 * i + k) := by rw [n5', nI_add]
      exact okS_q s0 (by rw [E_X_log, if_neg (nI_pos (by omega)), if_pos (iL (m := 5) (n := 5) rfl hk (by decide)), if_neg (nI_pos (by omega)), R.2.2.2.1, if_pos (nI_lt hi (by omega)), e1, if_pos (zin_nI (by omega) (by decide)), nI_clamp (by omega), R.2.2.1 _ (by omega)]) (by rw [E_Mo_log, m5, zBi_some, hw, b1, MK.2.2.2.1, mL, zBi_some, hv, b1, e2, if_pos (zin_nI (by omega) (by decide)), nI_clamp (by omega), MK.2.2.1 _ (by omega)])
