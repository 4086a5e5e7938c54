/-! ===== a party: the reference; it ends ===== -/
theorem Mo_pOn (sc : zSc) (d : Nat) (h : zHp) {T : TT} {K : KK} (O : TOK T) (D : MoT h T) (C : MoC h T) (R : MoK h T K) (kk : KOK T K) {u : Nat} (hu : u < 64) : (paF T K u = none → zRun sc (d + 4) 178 [.ref 46, .int (nI u)] zGL h = some (some (.int 0), zGL, h)) ∧ (∀ j, paF T K u = some j → ∃ h', zRun sc (d + 4) 178 [.ref 46, .int (nI u)] zGL h = some (some (.int 1), zGL, h') ∧ MoK h' T (paS T K u j) ∧ kFr h h') := by
  have hP5 := O.2.1
  have hF6 := O.1
  have h25 := sq_25 hP5
  have hpp := Nat.two_pow_pos T.P
  have hp32 := p2_32 hP5
  have hm1 := p_m1 hP5
  have key : ∀ m k, k + m = T.P * T.P → (fsR (paW T K u) m k = none → zE sc (d + 4) 178 2 [some (.ref 46), some (.int (nI u)), some (.int (nI k)), none, none, none, none, none] [] zGL h = some (some (.int 0), zGL, h)) ∧ (∀ j, fsR (paW T K u) m k = some j → ∃ h', zE sc (d + 4) 178 2 [some (.ref 46), some (.int (nI u)), some (.int (nI k)), none, none, none, none, none] [] zGL h = some (some (.int 1), zGL, h') ∧ MoK h' T (paS T K u j) ∧ kFr h h') := by
    intro m
    induction m with
    | zero =>
      intro k hk
      refine ⟨fun _ => ?_, fun j hj => by cases hj⟩
      rw [E_Mo_partyOn_2 sc (d + 3), D.2.1, nI_mul, if_neg (nI_nlt (by omega) (by omega))]
    | succ m ih =>
      intro k hk
      have hP0 : 0 < T.P := by
        rcases Nat.eq_zero_or_pos T.P with z | z
        · rw [z] at hk; omega
        · exact z
      obtain ⟨d1, d2, d3, d4⟩ := dm_n T.P (by omega) k (by omega) (by omega)
      have e49 : zE sc (d + 4) 178 2 [some (.ref 46), some (.int (nI u)), some (.int (nI k)), none, none, none, none, none] [] zGL h = zE sc (d + 4) 178 49 [some (.ref 46), some (.int (nI u)), some (.int (nI k)), some (.int (nI (k / T.P))), some (.int (nI (k % T.P))), none, none, none] [.int (nI (saf T K u (k / T.P) (k % T.P)))] zGL h := by
        rw [E_Mo_partyOn_2 sc (d + 3), D.2.1, nI_mul, if_pos (nI_lt (by omega) (by omega)), if_neg (nI_ne0 hP0 (by omega)), if_neg (nI_ne0 hP0 (by omega)), i_irem (by omega) hP0 (by omega), pk_div (by omega) hP0 (by omega)]
        unfold saf
        by_cases hab : k / T.P = k % T.P
        · rw [if_pos (by rw [hab]), if_pos hab]; rfl
        · rw [if_neg (fun z => hab ((nI_eq (by omega) (by omega)).mp z)), Mo_safeOf sc (d + 1) h O D R kk d3 d4 hab, zBi_some, nI_and, if_neg hab]
      have hsb := saf_b O kk (S := u) (b := k % T.P) d3
      rw [e49, E_Mo_partyOn_49]
      by_cases hz : saf T K u (k / T.P) (k % T.P) = 0
      · have hw : paW T K u k = none := if_pos hz
        rw [fsR_n hw, if_pos (by rw [hz]; rfl), nI_1]
        exact ih (k + 1) (by omega)
      · have hw : paW T K u k = some k := if_neg hz
        obtain ⟨s1, s2, s3⟩ := saf_f O kk d3 hz
        have hlw := lw_ok _ hsb hz
        rw [fsR_y hw, if_neg (nI_ne0 (by omega) (by omega))]
        refine ⟨fun hj => (by cases hj), fun j hj => ?_⟩
        cases hj
        obtain ⟨h', g1, g2, g3⟩ := Mo_sayNow sc d h O D C R kk d3 d4 s1 s2 (oth_lt (a := k / T.P) (b := k % T.P) hP5) (by rw [oth_bit hP5]; simp) (by rw [oth_bit hP5]; simp)
        refine ⟨h', ?_, g2, g3⟩
        have loop : ∀ n i, i + n = 6 → (saf T K u (k / T.P) (k % T.P)).testBit (lwN (saf T K u (k / T.P) (k % T.P)) n i) = true → lwN (saf T K u (k / T.P) (k % T.P)) n i = lw6 (saf T K u (k / T.P) (k % T.P)) → zE sc (d + 4) 178 59 [some (.ref 46), none, none, some (.int (nI (k / T.P))), some (.int (nI (k % T.P))), some (.int (nI (saf T K u (k / T.P) (k % T.P)))), some (.int (nI i)), none] [] zGL h = some (some (.int 1), zGL, h') := by
          have hit : ∀ i, i < 7 → (saf T K u (k / T.P) (k % T.P)).testBit i = true → i = lw6 (saf T K u (k / T.P) (k % T.P)) → zE sc (d + 4) 178 59 [some (.ref 46), none, none, some (.int (nI (k / T.P))), some (.int (nI (k % T.P))), some (.int (nI (saf T K u (k / T.P) (k % T.P)))), some (.int (nI i)), none] [] zGL h = some (some (.int 1), zGL, h') := by
            intro i hi hb he
            have q2 : anN (2 ^ T.P - 1) (2 ^ (k / T.P)) < 32 := anN_lt (F := 5) hm1 (by decide)
            have q3 : 2 ^ (k / T.P) < 2 ^ 5 := Nat.pow_lt_pow_right (by decide) (by omega)
            have q4 : 2 ^ (k % T.P) < 2 ^ 5 := Nat.pow_lt_pow_right (by decide) (by omega)
            have e1 : nI (2 ^ T.P) - 1 = nI (2 ^ T.P - 1) := nI_sub (b := 1) (by omega)
            rw [E_Mo_partyOn_59 sc (d + 3), Mo_has sc _ h (by omega) (by omega), zBi_some, hb, b1, D.2.1, nI_shl1 (by omega), nI_shl1 (by omega), nI_shl1 (by omega), e1, nI_an (by omega) (by omega), nI_an (by omega) (by omega), oth_2 hP5, he, g1, zBi_some]
          intro n
          induction n with
          | zero =>
            intro i hi hb he
            exact hit i (by omega) hb he
          | succ n ihn =>
            intro i hi hb he
            cases hc : (saf T K u (k / T.P) (k % T.P)).testBit i with
            | true =>
              rw [lwN, hc, if_pos rfl] at hb he
              exact hit i (by omega) hb he
            | false =>
              rw [lwN, hc, if_neg (by decide)] at hb he
              rw [E_Mo_partyOn_59 sc (d + 3), Mo_has sc _ h (by omega) (by omega), zBi_some, hc, b0, nI_1]
              exact ihn (i + 1) (by omega) hb he
        exact loop 6 0 rfl hlw.1 rfl
  unfold paF
  rw [E_Mo_partyOn sc (d + 3)]
  exact key (T.P * T.P) 0 (Nat.zero_add _)
/-- what was said before all is safe for nobody any more -/
def saI (T : TT) (K : KK) (U : Nat) : Prop := ∀ f, U.testBit f = true → ∀ a b s, a < T.P → b < T.P → a ≠ b → K.V a b s = true → s.testBit f = true
theorem sureN_bit {A : Nat → Bool} {F f : Nat} (h : (sureN A F).testBit f = true) : (∃ s, s < 64 ∧ A s = true) ∧ ∀ s, s < 64 → A s = true → s.testBit f = false := by
  unfold sureN at h
  cases he : empB A with
  | true => rw [he, if_pos rfl] at h; simp at h
  | false =>
    rw [he, if_neg (by decide), jN_bit, Bool.and_eq_true] at h
    refine ⟨?_, nonB_t.mp h.2⟩
    unfold empB at he
    rw [List.all_eq_false] at he
    obtain ⟨s, hs, h2⟩ := he
    exact ⟨s, List.mem_range.mp hs, by simpa using h2⟩
theorem saI_full {T : TT} {K : KK} (O : TOK T) (kk : KOK T K) {S U : Nat} (i : saI T K U) (hU : U < 64) (h6 : pN U 6 = 6) : paF T K S = none := by
  have hP5 := O.2.1
  have h25 := sq_25 hP5
  have hall : ∀ U, U < 64 → pN U 6 = 6 → ∀ f, f < 6 → U.testBit f = true := by decide +kernel
  unfold paF
  apply fsR_none
  intro k hk
  rw [Nat.zero_add]
  have hd := dm_n T.P (by omega) k (by omega) hk
  by_cases hz : saf T K S (k / T.P) (k % T.P) = 0
  · exact if_pos hz
  · exfalso
    obtain ⟨s1, s2, s3⟩ := saf_f O kk hd.2.2.1 hz
    obtain ⟨⟨s, hs, hv⟩, hn⟩ := sureN_bit s3
    have hF6 := O.1
    have := i _ (hall U hU h6 (lw6 (saf T K S (k / T.P) (k % T.P))) (by omega)) _ _ s hd.2.2.1 hd.2.2.2 s1 hv
    rw [hn s hs hv] at this
    cases this
theorem img_bit {fo : Nat → Nat} {A : Nat → Bool} {f F u : Nat} (h : imgN fo A f F u = true) : u.testBit f = true ∧ ∃ s, s < 64 ∧ A s = true ∧ ∀ g, s.testBit g = true → u.testBit g = true := by
  obtain ⟨s, hs, h1, h2⟩ := imgN_iff.mp h
  rw [← h2]
  refine ⟨clN_sup (k := 0) (Nat.zero_le _) (or_get s f), s, hs, h1, fun g hg => clN_sup (k := 0) (Nat.zero_le _) ?_⟩
  show (s ||| 2 ^ f).testBit g = true
  rw [Nat.testBit_or, hg]
  rfl
theorem saI_say {T : TT} {K : KK} (O : TOK T) {U a b f : Nat} (i : saI T K U) : saI T (sayK T K a b f (oth T.P a b)) (U ||| 2 ^ f) := by
  have hP5 := O.2.1
  intro g hg p q s hp hq hpq hv
  have hg' : U.testBit g = true ∨ f = g := by
    rw [Nat.testBit_or, Nat.testBit_two_pow, Bool.or_eq_true, decide_eq_true_eq] at hg
    exact hg
  have he : ∀ k, k < T.P → (oth T.P a b ||| 2 ^ a ||| 2 ^ b).testBit k = true := fun k hk => by
    rw [Nat.testBit_or, Nat.testBit_or, oth_bit hP5, Nat.testBit_two_pow, Nat.testBit_two_pow]
    simp only [hk, decide_true, Bool.true_and]
    cases decide (a = k) <;> cases decide (b = k) <;> rfl
  have hv' : sayV T K a b f (oth T.P a b ||| 2 ^ a ||| 2 ^ b) p q s = true := hv
  unfold sayV at hv'
  rw [if_neg (by rw [he p hp, he q hq]; simp [hpq])] at hv'
  split at hv'
  · rw [Bool.and_eq_true] at hv'
    rcases hg' with z | z
    · exact i g z p q s hp hq hpq hv'.1
    · rw [← z]; exact hv'.2
  · split at hv'
    · obtain ⟨h1, s0, -, h2, h3⟩ := img_bit hv'
      rw [Bool.and_eq_true] at h2
      rcases hg' with z | z
      · exact h3 g (i g z p q s0 hp hq hpq h2.1)
      · rw [← z]; exact h1
    · obtain ⟨h1, s0, -, h2, h3⟩ := img_bit hv'
      rcases hg' with z | z
      · exact h3 g (i g z p q s0 hp hq hpq h2)
      · rw [← z]; exact h1
theorem X_party_l (sc : zSc) (d : Nat) {t : Nat} {T : TT} (ht : zTw t = true) (O : TOK T) {u : Nat} (hu : u < 64) : ∀ m n K h, n + m = 6 → h.2.2 0 8 = some t → TnS h t T → TkD h 26 T K → KOK T K → ∃ h', zE sc (d + 7) 88 13 [some (.ref 0), some (.int (nI u)), some (.int (nI n))] [] zGL h = some (some (.int (nI (n + (paN T u m K).1))), zGL, h') ∧ TkD h' 26 T (paN T u m K).2 ∧ zFr 26 32 h h' ∧ KOK T (paN T u m K).2 := by
  have h15 := tw_15 ht
  intro m
  induction m with
  | zero =>
    intro n K h hn h8 S R kk
    refine ⟨h, ?_, R, zFr_r _ _ _, kk⟩
    rw [E_X_party_13 sc (d + 6), if_neg (iG (m := 6) (n := 6) rfl (by omega) (by omega))]
    rfl
  | succ m ih =>
    intro n K h hn h8 S R kk
    obtain ⟨x1, x2⟩ := X_first sc d h ht h8 O S R kk hu
    rw [E_X_party_13 sc (d + 6), if_pos (iL (m := 6) (n := 6) rfl (by omega) (by decide)), paN]
    cases hf : paF T K u with
    | none =>
      refine ⟨h, ?_, R, zFr_r _ _ _, kk⟩
      rw [x1 hf, zBi_some, if_pos rfl]
      rfl
    | some k =>
      obtain ⟨h1, g1, g2, g3⟩ := x2 k hf
      obtain ⟨h2, i1, i2, i3, i4⟩ := ih (n + 1) (paS T K u k) h1 (by omega) (by rw [(g3 0 (by omega)).2.2]; exact h8) (TnS_fr g3 (.inl (by omega)) S) g2 (paS_ok O kk hf)
      refine ⟨h2, ?_, i2, zFr_t g3 i3, i4⟩
      rw [g1, zBi_some, if_neg (by decide), nI_1, i1]
      dsimp only
      rw [show n + 1 + (paN T u m (paS T K u k)).1 = n + ((paN T u m (paS T K u k)).1 + 1) by omega]
theorem Mo_party_l (sc : zSc) (d : Nat) {T : TT} (O : TOK T) {u : Nat} (hu : u < 64) : ∀ m n K U h, n + m = 6 → MoT h T → MoC h T → MoK h T K → KOK T K → saI T K U → U < 64 → pN U 6 = n → ∃ h', zE sc (d + 5) 177 13 [some (.ref 46), some (.int (nI u)), some (.int (nI n))] [] zGL h = some (some (.int (nI (n + (paN T u m K).1))), zGL, h') ∧ MoK h' T (paN T u m K).2 ∧ kFr h h' := by
  have hP5 := O.2.1
  have h25 := sq_25 hP5
  have hF6 := O.1
  intro m
  induction m with
  | zero =>
    intro n K U h hn D C R kk sa hU hc
    obtain ⟨x1, x2⟩ := Mo_pOn sc d h O D C R kk hu
    refine ⟨h, ?_, R, mFr_r _ _ _⟩
    rw [E_Mo_party_13 sc (d + 4), x1 (saI_full O kk sa hU (by omega)), zBi_some, if_pos rfl]
    rfl
  | succ m ih =>
    intro n K U h hn D C R kk sa hU hc
    obtain ⟨x1, x2⟩ := Mo_pOn sc d h O D C R kk hu
    rw [E_Mo_party_13 sc (d + 4), paN]
    cases hf : paF T K u with
    | none =>
      refine ⟨h, ?_, R, mFr_r _ _ _⟩
      rw [x1 hf, zBi_some, if_pos rfl]
      rfl
    | some k =>
      obtain ⟨h1, g1, g2, g3⟩ := x2 k hf
      obtain ⟨b1', b2'⟩ := paF_b hf
      have hd := dm_n T.P (by omega) k (by omega) b1'
      obtain ⟨s1, s2, s3⟩ := saf_f O kk hd.2.2.1 b2'
      obtain ⟨⟨s, hs, hv⟩, hnb⟩ := sureN_bit s3
      have hnew : U.testBit (lw6 (saf T K u (k / T.P) (k % T.P))) = false := by
        cases hb : U.testBit (lw6 (saf T K u (k / T.P) (k % T.P))) with
        | false => rfl
        | true =>
          have := sa _ hb _ _ s hd.2.2.1 hd.2.2.2 s1 hv
          rw [hnb s hs hv] at this
          cases this
      obtain ⟨h2, i1, i2, i3⟩ := ih (n + 1) (paS T K u k) (U ||| 2 ^ (lw6 (saf T K u (k / T.P) (k % T.P)))) h1 (by omega) (MoT_k g3 D) (MoC_k g3 C) g2 (paS_ok O kk hf) (saI_say O sa) (or_ltF (F := 6) hU (by omega)) (by
        have := pN_or (a := U) (show lw6 (saf T K u (k / T.P) (k % T.P)) < 6 by omega) hnew 6
        rw [if_pos (by omega)] at this
        unfold pN at hc ⊢
        omega)
      refine ⟨h2, ?_, i2, mFr_t g3 i3⟩
      rw [g1, zBi_some, if_neg (by decide), nI_1, i1]
      dsimp only
      rw [show n + 1 + (paN T u m (paS T K u k)).1 = n + ((paN T u m (paS T K u k)).1 + 1) by omega]
theorem op_party (sc : zSc) (d : Nat) (h : zHp) (s : SI h) (v : Int32) : okS sc (d + 20) 88 [.ref 0, .int v] 177 [.ref 46, .int v] h := by
  have s0 := s
  obtain ⟨t, t', T, K, X, B, I, fl, ⟨⟨ht, ht', hne⟩, O, kk, xo, bo, ko⟩, G, M⟩ := s
  have h8 := G.1.1
  have S := G.2.1
  have hp := p2_le O.1
  cases hv : isI v (2 ^ T.F) with
  | false => exact okS_q s0 (by rw [E_X_party, X_isSet sc _ h ht h8 O S.1, zBi_some, hv, b0]) (by rw [E_Mo_party, Mo_isSet sc _ h O M.1, zBi_some, hv, b0])
  | true =>
    obtain ⟨u, hu, rfl⟩ := isI_of (by omega) hv
    obtain ⟨h1, r1, r2, r3, r4⟩ := X_party_l sc (d + 13) ht O (u := u) (by omega) 6 0 K h rfl h8 S G.2.2.1 kk
    have G1 := GX_K r3 ht r2 G
    have M1 := GM_f r3 (by decide) M
    obtain ⟨h2, q1, q2, q3⟩ := Mo_party_l sc (d + 15) O (u := u) (by omega) 6 0 K 0 h1 rfl M1.1 M1.2.1 M1.2.2.1 kk (fun f hf => by simp at hf) (by decide) (by decide)
    refine ⟨nI (0 + (paN T u 6 K).1), h1, h2, ?_, ?_, t, t', T, (paN T u 6 K).2, X, B, I, fl, ⟨⟨ht, ht', hne⟩, O, r4, xo, bo, ko⟩, GX_k q3 ht G1, GM_K q3 q2 M1⟩
    · rw [E_X_party, X_isSet sc _ h ht h8 O S.1, zBi_some, hv, b1]
      exact r1
    · rw [E_Mo_party, Mo_isSet sc _ h1 O M1.1, zBi_some, hv, b1]
      exact q1
