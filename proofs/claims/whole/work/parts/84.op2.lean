/-! ===== more calls ===== -/
theorem GX_u {lo hi : Nat} {h h' : zHp} (f : zFr lo hi h h') (c1 : 1 ≤ lo) (c2 : hi ≤ 32) (c3 : hi ≤ 3 ∨ 15 ≤ lo) {t t' : Nat} {T : TT} {K K' : KK} {X X' : XX} {B B' : BB} {I : II} {fl : Int32} (ht : zTw t = true) (R : TkD h' 26 T K') (Xn : TxD h' X'.1 X'.2) (Bn : BkD h' B'.1 B'.2.1 B'.2.2.1 B'.2.2.2) (G : GX h t t' T K X B I fl) : GX h' t t' T K' X' B' I fl := by
  have h15 := tw_15 ht
  have h3 := tw_3 ht
  obtain ⟨⟨g1, g2, g3, g4⟩, g5, g6, g7, g8, g9, g10⟩ := G
  have f0 := f 0 (by omega)
  refine ⟨⟨by rw [f0.2.2]; exact g1, by rw [f0.2.2]; exact g2, by rw [(f 32 (by omega)).2.2]; exact g3, by rw [(f 32 (by omega)).2.2]; exact g4⟩, TnS_fr f (by omega) g5, R, Xn, Bn, fun i hi => ⟨?_, fun hk => TkD_fr f (by omega) ((g9 i hi).2 hk)⟩, by rw [f0.1]; exact g10⟩
  rw [(f 45 (by omega)).1]; exact (g9 i hi).1
theorem GM_u {a b : List Nat} {h h' : zHp} (f : mFr a b h h') (ha : ∀ x, x ∈ [47, 48, 50, 70, 71, 72] → x ∉ a) (hb : ∀ k, k ∈ [0, 3, 5, 7, 17] → k ∉ b) {T : TT} {K K' : KK} {X X' : XX} {B B' : BB} {I : II} {fl : Int32} (R : MoK h' T K') (Xn : MoX h' X'.1 X'.2) (Bn : MoB h' B'.1 B'.2.1 B'.2.2.1 B'.2.2.2) (G : GM h T K X B I fl) : GM h' T K' X' B' I fl := by
  obtain ⟨g1, g2, g3, g4, g5, g6, g7⟩ := G
  have r : ∀ x, x ∈ [47, 48, 50, 70, 71, 72] → x ≠ 46 → h'.1 x = h.1 x ∧ h'.2.1 x = h.2.1 x := fun x h1 h2 => f.1 x h2 (ha x h1)
  refine ⟨MoT_m f ⟨ha 47 (by decide), ha 48 (by decide)⟩ ⟨hb 0 (by decide), hb 3 (by decide), hb 5 (by decide)⟩ g1, MoC_m f (ha 50 (by decide)) (hb 7 (by decide)) g2, R, Xn, Bn, fun i hi => ⟨?_, fun hk => MoI_e (r 70 (by decide) (by decide)).1 (r 71 (by decide) (by decide)).2 ((g6 i hi).2 hk)⟩, by rw [(f.2.1 17 (hb 17 (by decide))).1]; exact g7⟩
  rw [(r 72 (by decide) (by decide)).1]; exact (g6 i hi).1
theorem MoK_m {a b : List Nat} {h h' : zHp} {T : TT} {K : KK} (f : mFr a b h h') (ha : ∀ x, x ∈ [51, 52, 53, 54, 55] → x ∉ a) (hb : ∀ k, k ∈ [12, 14] → k ∉ b) (R : MoK h T K) : MoK h' T K := by
  have r : ∀ x, x ∈ [51, 52, 53, 54, 55] → x ≠ 46 → h'.1 x = h.1 x ∧ h'.2.1 x = h.2.1 x := fun x h1 h2 => f.1 x h2 (ha x h1)
  unfold MoK at R ⊢
  rw [(r 51 (by decide) (by decide)).1, (r 52 (by decide) (by decide)).1, (r 54 (by decide) (by decide)).1, (r 53 (by decide) (by decide)).2, (r 55 (by decide) (by decide)).1, (f.2.1 12 (hb 12 (by decide))).1, (f.2.1 14 (hb 14 (by decide))).1]
  exact R
theorem MoB_m {a b : List Nat} {h h' : zHp} {bc : Nat} {x y z : Nat → Nat} (f : mFr a b h h') (ha : ∀ u, u ∈ [66, 67, 68] → u ∉ a) (hb : 35 ∉ b) (R : MoB h bc x y z) : MoB h' bc x y z := by
  unfold MoB at R ⊢
  rw [(f.2.1 35 hb).1, (f.1 66 (by decide) (ha 66 (by decide))).1, (f.1 67 (by decide) (ha 67 (by decide))).1, (f.1 68 (by decide) (ha 68 (by decide))).1]
  exact R
theorem TxD_fr {lo hi : Nat} {h h' : zHp} {tl : Nat} {tb : Nat → Nat} (f : zFr lo hi h h') (c : 3 ≤ lo) (R : TxD h tl tb) : TxD h' tl tb := by
  unfold TxD at R ⊢
  rw [(f 1 (by omega)).1, (f 2 (by omega)).1]
  exact R
theorem BkD_fr {lo hi : Nat} {h h' : zHp} {bc : Nat} {x y z : Nat → Nat} (f : zFr lo hi h h') (c : hi ≤ 21 ∨ 25 ≤ lo) (R : BkD h bc x y z) : BkD h' bc x y z := by
  unfold BkD at R ⊢
  rw [(f 21 (by omega)).1, (f 22 (by omega)).1, (f 23 (by omega)).1, (f 24 (by omega)).1]
  exact R
theorem op_tear (sc : zSc) (d : Nat) (h : zHp) (s : SI h) : okS sc (d + 20) 114 [.ref 0] 190 [.ref 46] h := by
  obtain ⟨t, t', T, K, X, B, I, fl, ⟨⟨ht, ht', hne⟩, O, kk, xo, bo, ko⟩, G, M⟩ := s
  have f1 : zFr 21 25 h (zPI h 21 4 0) := zFr_I (by decide) (by decide)
  have f2 : mFr [] [35] (zPI h 21 4 0) (zPI (zPI h 21 4 0) 46 35 0) := mFr_f (by decide)
  have G1 : GX (zPI h 21 4 0) t t' T K X (0, B.2) I fl := GX_u f1 (by decide) (by decide) (.inr (by decide)) ht (TkD_fr f1 (.inr (by decide)) G.2.2.1) (TxD_fr f1 (by decide) G.2.2.2.1) ⟨rfl, fun k hk => absurd hk (Nat.not_lt_zero k)⟩ G
  have M1 := GM_f f1 (by decide) M
  have M2 : GM (zPI (zPI h 21 4 0) 46 35 0) T K X (0, B.2) I fl := GM_u f2 (by decide) (by decide) (MoK_m f2 (by decide) (by decide) M1.2.2.1) (MoX_m f2 (by decide) (by decide) M1.2.2.2.1) ⟨rfl, fun k hk => absurd hk (Nat.not_lt_zero k)⟩ M1
  refine ⟨nI B.1, _, _, by rw [E_X_tear, G.2.2.2.2.1.1], by rw [E_Mo_tear, M1.2.2.2.2.1.1], t, t', T, K, X, (0, B.2), I, fl, ⟨⟨ht, ht', hne⟩, O, kk, xo, ⟨Nat.zero_le _, fun k hk => absurd hk (Nat.not_lt_zero k)⟩, ko⟩, GX_m f2 (by decide) ht G1, M2⟩
theorem op_seed (sc : zSc) (d : Nat) (h : zHp) (s : SI h) (v : Int32) : okS sc (d + 20) 120 [.ref 0, .int v] 194 [.ref 46, .int v] h := by
  have s0 := s
  obtain ⟨t, t', T, K, X, B, I, fl, ⟨⟨ht, ht', hne⟩, O, kk, xo, bo, ko⟩, G, M⟩ := s
  by_cases hv : v < 0
  · exact okS_q s0 (by rw [E_X_seed, if_pos hv]) (by rw [E_Mo_seed, if_pos hv])
  · have f1 : zFr 26 32 h (zPI h 26 6 v) := zFr_I (by decide) (by decide)
    have f2 : kFr (zPI h 26 6 v) (zPI (zPI h 26 6 v) 46 14 v) := mFr_f (by decide)
    have G1 := GX_K f1 ht (TkD_sd G.2.2.1 v) G
    have M1 := GM_f f1 (by decide) M
    have M2 := GM_K f2 (MoK_sd M1.2.2.1 v) M1
    exact ⟨K.sd, _, _, by rw [E_X_seed, if_neg hv, G.2.2.1.2.2.2.2], by rw [E_Mo_seed, if_neg hv, M1.2.2.1.2.2.2.2], t, t', T, sdK K v, X, B, I, fl, ⟨⟨ht, ht', hne⟩, O, KOK_sd kk hv, xo, bo, ko⟩, GX_k f2 ht G1, M2⟩
theorem op_silent (sc : zSc) (d : Nat) (h : zHp) (s : SI h) (v w : Int32) : okS sc (d + 20) 83 [.ref 0, .int v, .int w] 174 [.ref 46, .int v, .int w] h := by
  have s0 := s
  obtain ⟨t, t', T, K, X, B, I, fl, ⟨⟨ht, ht', hne⟩, O, kk, xo, bo, ko⟩, G, M⟩ := s
  have h8 := G.1.1
  have S := G.2.1
  cases hv : twoB T v w with
  | false => exact okS_q s0 (by rw [E_X_silent, X_areTwo sc _ h ht h8 S.1, zBi_some, hv, b0]) (by rw [E_Mo_silent, Mo_areTwo sc _ h O M.1, zBi_some, hv, b0])
  | true =>
    obtain ⟨p, q, hp, hq, hn, rfl, rfl⟩ := twoB_of O hv
    obtain ⟨h1, r1, r2, r3⟩ := Tk_holdTongue sc (d + 16) zGL h zS4_26 (zTw_6 ht) O S G.2.2.1 kk hp hq hn
    have G1 := GX_K r3 ht r2 G
    have M1 := GM_f r3 (by decide) M
    obtain ⟨h2, q1, q2, q3⟩ := Mo_silentNow sc (d + 15) h1 O M1.1 M1.2.1 M1.2.2.1 kk hp hq hn
    exact ⟨_, h1, h2, by rw [E_X_silent, X_areTwo sc _ h ht h8 S.1, zBi_some, hv, b1, zOT_k h8 ht, r1, zBi_some], by rw [E_Mo_silent, Mo_areTwo sc _ h1 O M1.1, zBi_some, hv, b1, q1, zBi_some], t, t', T, silK T K p q, X, B, I, fl, ⟨⟨ht, ht', hne⟩, O, KOK_sil kk, xo, bo, ko⟩, GX_k q3 ht G1, GM_K q3 q2 M1⟩
theorem op_morning (sc : zSc) (d : Nat) (h : zHp) (s : SI h) : okS sc (d + 20) 86 [.ref 0] 176 [.ref 46] h := by
  obtain ⟨t, t', T, K, X, B, I, fl, ⟨⟨ht, ht', hne⟩, O, kk, xo, bo, ko⟩, G, M⟩ := s
  have h15 := tw_15 ht
  have h8 := G.1.1
  have S := G.2.1
  obtain ⟨h1, r1, r2, r3⟩ := Tk_wake sc (d + 16) zGL h zS4_26 (zTw_6 ht) (by omega) O S G.2.2.1 kk
  have G1 := GX_K r3 ht r2 G
  have M1 := GM_f r3 (by decide) M
  obtain ⟨h2, q1, q2, q3⟩ := Mo_morning sc (d + 17) h1 O M1.1 M1.2.1 M1.2.2.1 kk
  exact ⟨_, h1, h2, by rw [E_X_morning, zOT_k h8 ht, r1, zBi_some], q1, t, t', T, wakK T K, X, B, I, fl, ⟨⟨ht, ht', hne⟩, O, KOK_wak O kk, xo, bo, ko⟩, GX_k q3 ht G1, GM_K q3 q2 M1⟩
theorem op_say (sc : zSc) (d : Nat) (h : zHp) (s : SI h) (v w i l : Int32) : okS sc (d + 20) 74 [.ref 0, .int v, .int w, .int i, .int l] 171 [.ref 46, .int v, .int w, .int i, .int l] h := by
  have s0 := s
  obtain ⟨t, t', T, K, X, B, I, fl, ⟨⟨ht, ht', hne⟩, O, kk, xo, bo, ko⟩, G, M⟩ := s
  have h15 := tw_15 ht
  have h8 := G.1.1
  have S := G.2.1
  have hF6 := O.1
  have hP5 := O.2.1
  have hp32 := p2_32 hP5
  have hpp := Nat.two_pow_pos T.P
  cases hv : twoB T v w with
  | false => exact okS_q s0 (by rw [E_X_say, X_areTwo sc _ h ht h8 S.1, zBi_some, hv, b0]) (by rw [E_Mo_say, Mo_areTwo sc _ h O M.1, zBi_some, hv, b0])
  | true =>
    obtain ⟨p, q, hp, hq, hn, rfl, rfl⟩ := twoB_of O hv
    cases hi : isI i T.F with
    | false => exact okS_q s0 (by rw [E_X_say, X_areTwo sc _ h ht h8 S.1, zBi_some, hv, b1, X_isFact sc _ h ht h8 S.1, zBi_some, hi, b0]) (by rw [E_Mo_say, Mo_areTwo sc _ h O M.1, zBi_some, hv, b1, Mo_isFact sc _ h O M.1, zBi_some, hi, b0])
    | true =>
      obtain ⟨f, hf, rfl⟩ := isI_of (by omega) hi
      have mP := Mo_in sc (d + 19) h l (n := 2 ^ T.P) (by omega)
      cases hl : isI l (2 ^ T.P) with
      | false => exact okS_q s0 (by rw [E_X_say, X_areTwo sc _ h ht h8 S.1, zBi_some, hv, b1, X_isFact sc _ h ht h8 S.1, zBi_some, hi, b1, X_isPSet sc _ h ht h8 O S.1, zBi_some, hl, b0]) (by rw [E_Mo_say, Mo_areTwo sc _ h O M.1, zBi_some, hv, b1, Mo_isFact sc _ h O M.1, zBi_some, hi, b1, M.1.2.1, nI_shl1 (by omega), mP, zBi_some, hl, b0])
      | true =>
        obtain ⟨a, ha, rfl⟩ := isI_of (by omega) hl
        cases c1 : a.testBit p with
        | true => exact okS_q s0 (by rw [E_X_say, X_areTwo sc _ h ht h8 S.1, zBi_some, hv, b1, X_isFact sc _ h ht h8 S.1, zBi_some, hi, b1, X_isPSet sc _ h ht h8 O S.1, zBi_some, hl, b1, X_hasB sc _ zGL h (by omega) (by omega), zBi_some, c1, b1]) (by rw [E_Mo_say, Mo_areTwo sc _ h O M.1, zBi_some, hv, b1, Mo_isFact sc _ h O M.1, zBi_some, hi, b1, M.1.2.1, nI_shl1 (by omega), mP, zBi_some, hl, b1, Mo_has sc _ h (by omega) (by omega), zBi_some, c1, b1])
        | false =>
          cases c2 : a.testBit q with
          | true => exact okS_q s0 (by rw [E_X_say, X_areTwo sc _ h ht h8 S.1, zBi_some, hv, b1, X_isFact sc _ h ht h8 S.1, zBi_some, hi, b1, X_isPSet sc _ h ht h8 O S.1, zBi_some, hl, b1, X_hasB sc _ zGL h (by omega) (by omega), zBi_some, c1, b0, X_hasB sc _ zGL h (by omega) (by omega), zBi_some, c2, b1]) (by rw [E_Mo_say, Mo_areTwo sc _ h O M.1, zBi_some, hv, b1, Mo_isFact sc _ h O M.1, zBi_some, hi, b1, M.1.2.1, nI_shl1 (by omega), mP, zBi_some, hl, b1, Mo_has sc _ h (by omega) (by omega), zBi_some, c1, b0, Mo_has sc _ h (by omega) (by omega), zBi_some, c2, b1])
          | false =>
            have hk := KOK_kn O kk hp
            cases c3 : (K.kn p).testBit f with
            | false => exact okS_q s0 (by rw [E_X_say, X_areTwo sc _ h ht h8 S.1, zBi_some, hv, b1, X_isFact sc _ h ht h8 S.1, zBi_some, hi, b1, X_isPSet sc _ h ht h8 O S.1, zBi_some, hl, b1, X_hasB sc _ zGL h (by omega) (by omega), zBi_some, c1, b0, X_hasB sc _ zGL h (by omega) (by omega), zBi_some, c2, b0, if_pos (zin_nI (by omega) (by decide)), nI_clamp (by omega), (G.2.2.1.1 p hp).1, X_hasB sc _ zGL h (by omega) (by omega), zBi_some, c3, b0]) (by rw [E_Mo_say, Mo_areTwo sc _ h O M.1, zBi_some, hv, b1, Mo_isFact sc _ h O M.1, zBi_some, hi, b1, M.1.2.1, nI_shl1 (by omega), mP, zBi_some, hl, b1, Mo_has sc _ h (by omega) (by omega), zBi_some, c1, b0, Mo_has sc _ h (by omega) (by omega), zBi_some, c2, b0, if_pos (zin_nI (by omega) (by decide)), nI_clamp (by omega), (M.2.2.1.1 p hp).1, Mo_has sc _ h (by omega) (by omega), zBi_some, c3, b0])
            | true =>
              obtain ⟨h1, r1, r2, r3⟩ := Tk_speak sc (d + 14) zGL h zS4_26 (zTw_6 ht) (by omega) O S G.2.2.1 kk hp hq hf (show a < 32 by omega)
              have G1 := GX_K r3 ht r2 G
              have M1 := GM_f r3 (by decide) M
              have mP1 := Mo_in sc (d + 19) h1 (nI a) (n := 2 ^ T.P) (by omega)
              obtain ⟨h2, q1, q2, q3⟩ := Mo_sayNow sc (d + 16) h1 O M1.1 M1.2.1 M1.2.2.1 kk hp hq hn hf (show a < 32 by omega) c1 c2
              refine ⟨_, h1, h2, by rw [E_X_say, X_areTwo sc _ h ht h8 S.1, zBi_some, hv, b1, X_isFact sc _ h ht h8 S.1, zBi_some, hi, b1, X_isPSet sc _ h ht h8 O S.1, zBi_some, hl, b1, X_hasB sc _ zGL h (by omega) (by omega), zBi_some, c1, b0, X_hasB sc _ zGL h (by omega) (by omega), zBi_some, c2, b0, if_pos (zin_nI (by omega) (by decide)), nI_clamp (by omega), (G.2.2.1.1 p hp).1, X_hasB sc _ zGL h (by omega) (by omega), zBi_some, c3, b1, zOT_k h8 ht, r1, zBi_some], ?_, t, t', T, sayK T K p q f a, X, B, I, fl, ⟨⟨ht, ht', hne⟩, O, KOK_say O kk hf (by omega), xo, bo, ko⟩, GX_k q3 ht G1, GM_K q3 q2 M1⟩
              rw [E_Mo_say, Mo_areTwo sc _ h1 O M1.1, zBi_some, hv, b1, Mo_isFact sc _ h1 O M1.1, zBi_some, hi, b1, M1.1.2.1, nI_shl1 (by omega), mP1, zBi_some, hl, b1, Mo_has sc _ h1 (by omega) (by omega), zBi_some, c1, b0, Mo_has sc _ h1 (by omega) (by omega), zBi_some, c2, b0, if_pos (zin_nI (by omega) (by decide)), nI_clamp (by omega), (M1.2.2.1.1 p hp).1, Mo_has sc _ h1 (by omega) (by omega), zBi_some, c3, b1, q1, zBi_some]
              cases (K.kn q).testBit f <;> rfl
theorem op_judge (sc : zSc) (d : Nat) (h : zHp) (s : SI h) : okS sc (d + 20) 115 [.ref 0] 191 [.ref 46] h := by
  obtain ⟨t, t', T, K, X, B, I, fl, ⟨⟨ht, ht', hne⟩, O, kk, xo, bo, ko⟩, G, M⟩ := s
  have h8 := G.1.1
  obtain ⟨h1, r1, r2⟩ := Bk_fw sc (d + 18) h O kk ht zS4_26 (by decide) bo G.2.2.2.2.1 G.2.1.1 G.2.2.1
  have G1 := GX_f r2 (.inr (.inl (by decide))) ht G
  have M1 := GM_f r2 (by decide) M
  obtain ⟨h2, q1, q2⟩ := Mo_judge sc (d + 19) h1 O kk bo M1.2.2.2.2.1 M1.2.1 M1.2.2.1
  exact ⟨_, h1, h2, by rw [E_X_judge, zOT_k h8 ht, r1, zBi_some], q1, t, t', T, K, X, B, I, fl, ⟨⟨ht, ht', hne⟩, O, kk, xo, bo, ko⟩, GX_m q2 (by decide) ht G1, GM_m q2 (by decide) (by decide) M1⟩
theorem op_hats (sc : zSc) (d : Nat) (h : zHp) (s : SI h) (v : Int32) : okS sc (d + 20) 99 [.ref 0, .int v] 182 [.ref 46, .int v] h := by
  have s0 := s
  obtain ⟨t, t', T, K, X, B, I, fl, ⟨⟨ht, ht', hne⟩, O, kk, xo, bo, ko⟩, G, M⟩ := s
  have h8 := G.1.1
  have m6 : zRun sc (d + 19) 132 [.long v.toInt64, .long 1, .long 6] zGL h = some (some (.int (bI (decide (¬ v < 1 ∧ ¬ 6 < v)))), zGL, h) := Mo_in' sc (d + 19) h v 1 6
  by_cases hv : ¬ v < 1 ∧ ¬ 6 < v
  · obtain ⟨v1, v6⟩ := hv
    obtain ⟨k, hk, rfl⟩ := nI_of (x := v) (fun z => v1 (by
      rw [Int32.lt_iff_toInt_lt] at z ⊢
      have e0 : (0 : Int32).toInt = 0 := rfl
      have e1 : (1 : Int32).toInt = 1 := rfl
      omega))
    have hk1 : 1 ≤ k := by
      rcases Nat.lt_or_ge k 1 with z | z
      · exact absurd (iL (m := 1) (n := 1) rfl z (by decide)) v1
      · exact z
    have hk6 : k ≤ 6 := by
      rcases Nat.lt_or_ge 6 k with z | z
      · exact absurd (iL' (m := 6) (n := 6) rfl z hk) v6
      · exact z
    obtain ⟨h1, r1, r2⟩ := Hc_least sc (d + 15) h ht O G.2.1 hk6
    have G1 := GX_f r2 (.inl (by decide)) ht G
    have M1 := GM_f r2 (by decide) M
    exact ⟨_, h1, h1, by rw [E_X_hats, if_neg v1, if_neg v6, zOT_k h8 ht, r1, zBi_some], Mo_hats sc (d + 17) h1 O M1.1 M1.2.1 hk1 hk6, t, t', T, K, X, B, I, fl, ⟨⟨ht, ht', hne⟩, O, kk, xo, bo, ko⟩, G1, M1⟩
  · refine okS_q (v := -1000000002) s0 ?_ (by rw [E_Mo_hats, m6, zBi_some, decide_eq_false hv, b0])
    rw [E_X_hats]
    by_cases v1 : v < 1
    · rw [if_pos v1]
    · rw [if_neg v1, if_pos (Classical.byContradiction fun z => hv ⟨v1, z⟩)]
theorem op_plan (sc : zSc) (d : Nat) (h : zHp) (s : SI h) (v w i : Int32) : okS sc (d + 20) 91 [.ref 0, .int v, .int w, .int i] 179 [.ref 46, .int v, .int w, .int i] h := by
  have s0 := s
  obtain ⟨t, t', T, K, X, B, I, fl, ⟨⟨ht, ht', hne⟩, O, kk, xo, bo, ko⟩, G, M⟩ := s
  have h8 := G.1.1
  have S := G.2.1
  cases hv : twoB T v w with
  | false => exact okS_q s0 (by rw [E_X_plan, X_areTwo sc _ h ht h8 S.1, zBi_some, hv, b0]) (by rw [E_Mo_plan, Mo_areTwo sc _ h O M.1, zBi_some, hv, b0])
  | true =>
    obtain ⟨p, q, hp, hq, hn, rfl, rfl⟩ := twoB_of O hv
    obtain ⟨h1, r1, r2, r3⟩ := Pl_find sc (d + 3) h O kk ht zS4_26 (by decide) S G.2.2.1 hp hq hn
    have G1 := GX_f r2 (.inl (by decide)) ht G
    have M1 := GM_f r2 (by decide) M
    obtain ⟨h2, q1, q2⟩ := Mo_plan sc (d + 16) h1 O M1.1 M1.2.1 M1.2.2.1 kk hp hq hn i
    refine ⟨plV T K p q i, h1, h2, ?_, q1, t, t', T, K, X, B, I, fl, ⟨⟨ht, ht', hne⟩, O, kk, xo, bo, ko⟩, GX_m q2 (by decide) ht G1, GM_m q2 (by decide) (by decide) M1⟩
    rw [E_X_plan, X_areTwo sc _ h ht h8 S.1, zBi_some, hv, b1, zOT_k h8 ht, r1, zBv_some]
    unfold plV
    by_cases hi : i = -1
    · rw [if_pos hi]
      revert r3
      cases fsR (plS T (plG K p q) (plQ K p q)) 7 0 with
      | none => intro r3; rw [show h1.1 16 8 = -1 from r3]; rfl
      | some x =>
        intro r3
        obtain ⟨n, l⟩ := x
        rw [r3.1]
        simp only [plA, hi, if_true]
    · rw [if_neg hi, Pl_part sc _ h1 hi (fun n l ho => by
        obtain ⟨j, hj, e⟩ := fsR_some ho
        have := (plS_some e).1
        omega) r3, zBi_some]
theorem op_write (sc : zSc) (d : Nat) (h : zHp) (s : SI h) (v w i : Int32) : okS sc (d + 20) 112 [.ref 0, .int v, .int w, .int i] 189 [.ref 46, .int v, .int w, .int i] h := by
  have s0 := s
  obtain ⟨t, t', T, K, X, B, I, fl, ⟨⟨ht, ht', hne⟩, O, kk, xo, bo, ko⟩, G, M⟩ := s
  have h8 := G.1.1
  have S := G.2.1
  have hF6 := O.1
  cases hv : twoB T v w with
  | false => exact okS_q s0 (by rw [E_X_write, X_areTwo sc _ h ht h8 S.1, zBi_some, hv, b0]) (by rw [E_Mo_write, Mo_areTwo sc _ h O M.1, zBi_some, hv, b0])
  | true =>
    obtain ⟨p, q, hp, hq, hn, rfl, rfl⟩ := twoB_of O hv
    cases hi : isI i T.F with
    | false => exact okS_q s0 (by rw [E_X_write, X_areTwo sc _ h ht h8 S.1, zBi_some, hv, b1, X_isFact sc _ h ht h8 S.1, zBi_some, hi, b0]) (by rw [E_Mo_write, Mo_areTwo sc _ h O M.1, zBi_some, hv, b1, Mo_isFact sc _ h O M.1, zBi_some, hi, b0])
    | true =>
      obtain ⟨f, hf, rfl⟩ := isI_of (by omega) hi
      have hx := Bk_append sc (d + 19) h G.2.2.2.2.1 bo.1 p q f
      by_cases hb : B.1 = 30
      · exact okS_q s0 (by rw [E_X_write, X_areTwo sc _ h ht h8 S.1, zBi_some, hv, b1, X_isFact sc _ h ht h8 S.1, zBi_some, hi, b1, hx.1 hb, zBi_some, if_pos rfl]) ((Mo_write sc (d + 17) h O M.1 M.2.2.2.2.1 bo.1 hp hq hn hf).1 hb)
      · have hlt : B.1 < 30 := by have := bo.1; omega
        obtain ⟨h1, r1, r2, r3⟩ := hx.2 hlt
        have G1 : GX h1 t t' T K X (B.1 + 1, updN B.2.1 B.1 p, updN B.2.2.1 B.1 q, updN B.2.2.2 B.1 f) I fl := GX_u r3 (by decide) (by decide) (.inr (by decide)) ht (TkD_fr r3 (.inr (by decide)) G.2.2.1) (TxD_fr r3 (by decide) G.2.2.2.1) r2 G
        have M1 := GM_f r3 (by decide) M
        obtain ⟨h2, q1, q2, q3⟩ := (Mo_write sc (d + 17) h1 O M1.1 M1.2.2.2.2.1 bo.1 hp hq hn hf).2 hlt
        have M2 : GM h2 T K X (B.1 + 1, updN B.2.1 B.1 p, updN B.2.2.1 B.1 q, updN B.2.2.2 B.1 f) I fl := GM_u q3 (by decide) (by decide) (MoK_m q3 (by decide) (by decide) M1.2.2.1) (MoX_m q3 (by decide) (by decide) M1.2.2.2.1) q2 M1
        refine ⟨nI (B.1 + 1), h1, h2, by rw [E_X_write, X_areTwo sc _ h ht h8 S.1, zBi_some, hv, b1, X_isFact sc _ h ht h8 S.1, zBi_some, hi, b1, r1, zBi_some, if_neg (by decide), r2.1], q1, t, t', T, K, X, (B.1 + 1, updN B.2.1 B.1 p, updN B.2.2.1 B.1 q, updN B.2.2.2 B.1 f), I, fl, ⟨⟨ht, ht', hne⟩, O, kk, xo, ⟨hlt, fun k hk => ?_⟩, ko⟩, GX_m q3 (by decide) ht G1, M2⟩
        have hk' : k < B.1 + 1 := hk
        show updN B.2.1 B.1 p k < T.P ∧ updN B.2.2.1 B.1 q k < T.P ∧ updN B.2.2.2 B.1 f k < T.F
        unfold updN
        by_cases he : k = B.1
        · rw [if_pos he, if_pos he, if_pos he]; exact ⟨hp, hq, hf⟩
        · rw [if_neg he, if_neg he, if_neg he]; exact bo.2 k (by omega)
theorem i_1 {v : Int32} (h : ¬ v < 1) : ∃ k, 1 ≤ k ∧ k < 2 ^ 31 ∧ v = nI k := by
  obtain ⟨k, hk, rfl⟩ := nI_of (x := v) (fun z => h (by
    rw [Int32.lt_iff_toInt_lt] at z ⊢
    have e0 : (0 : Int32).toInt = 0 := rfl
    have e1 : (1 : Int32).toInt = 1 := rfl
    omega))
  refine ⟨k, ?_, hk, rfl⟩
  rcases Nat.lt_or_ge k 1 with z | z
  · exact absurd (iL (m := 1) (n := 1) rfl z (by decide)) h
  · exact z
theorem op_feed (sc : zSc) (d : Nat) (h : zHp) (s : SI h) (v : Int32) (w : Int64) : okS sc (d + 20) 20 [.ref 0, .int v, .long w] 131 [.ref 46, .int v, .long w] h := by
  have s0 := s
  obtain ⟨t, t', T, K, X, B, I, fl, ⟨⟨ht, ht', hne⟩, O, kk, xo, bo, ko⟩, G, M⟩ := s
  have m8 : zRun sc (d + 19) 132 [.long v.toInt64, .long 1, .long 8] zGL h = some (some (.int (bI (decide (¬ v < 1 ∧ ¬ 8 < v)))), zGL, h) := Mo_in' sc (d + 19) h v 1 8
  by_cases hv : ¬ v < 1 ∧ ¬ 8 < v
  · obtain ⟨v1, v8⟩ := hv
    obtain ⟨n, hn1, hn, rfl⟩ := i_1 v1
    have hn8 : n ≤ 8 := by
      rcases Nat.lt_or_ge 8 n with z | z
      · exact absurd (iL' (m := 8) (n := 8) rfl z hn) v8
      · exact z
    have ht4 := xo.1
    by_cases hf : X.1 + n ≤ 400
    · obtain ⟨h1, r1, r2, r3⟩ := Tx_append sc (d + 19) h G.2.2.2.1 w hn1 hn8 hf
      have G1 : GX h1 t t' T K (X.1 + n, fdN X.1 X.2 n w) B I fl := GX_u r3 (by decide) (by decide) (.inl (by decide)) ht (TkD_fr r3 (.inr (by decide)) G.2.2.1) r2 (BkD_fr r3 (.inl (by decide)) G.2.2.2.2.1) G
      have M1 := GM_f r3 (by decide) M
      obtain ⟨h2, q1, q2, q3⟩ := Mo_feed sc (d + 19) h1 M1.2.2.2.1 w hn1 hn8 hf
      have M2 : GM h2 T K (X.1 + n, fdN X.1 X.2 n w) B I fl := GM_u q3 (by decide) (by decide) (MoK_m q3 (by decide) (by decide) M1.2.2.1) q2 (MoB_m q3 (by decide) (by decide) M1.2.2.2.2.1) M1
      refine ⟨nI (X.1 + n), h1, h2, by rw [E_X_feed, if_neg v1, if_neg v8, r1, zBi_some, if_neg (by decide), r2.1], q1, t, t', T, K, (X.1 + n, fdN X.1 X.2 n w), B, I, fl, ⟨⟨ht, ht', hne⟩, O, kk, ⟨hf, fun i hi => ?_⟩, bo, ko⟩, GX_m q3 (by decide) ht G1, M2⟩
      show fdN X.1 X.2 n w i < 256
      unfold fdN
      by_cases he : i < X.1
      · rw [if_pos he]; exact xo.2 i he
      · rw [if_neg he]; exact byN_lt _ _
    · exact okS_q (v := -1000000004) s0 (by rw [E_X_feed, if_neg v1, if_neg v8, E_Tx_append, if_neg (nI_pos hn), G.2.2.2.1.1, nI_add, if_pos (iL' (m := 400) (n := 400) rfl (by omega) (by omega)), zBi_some, if_pos rfl]) (by rw [E_Mo_feed, m8, zBi_some, decide_eq_true ⟨v1, v8⟩, b1, M.2.2.2.1.1, nI_add, if_pos (iL' (m := 400) (n := 400) rfl (by omega) (by omega))])
  · refine okS_q (v := -1000000002) s0 ?_ (by rw [E_Mo_feed, m8, zBi_some, decide_eq_false hv, b0])
    rw [E_X_feed]
    by_cases v1 : v < 1
    · rw [if_pos v1]
    · rw [if_neg v1, if_pos (Classical.byContradiction fun z => hv ⟨v1, z⟩)]
