/-! ===== talks by draws ===== -/
def drA (T : TT) (K : KK) : Nat := drM K.sd / 65536 % T.P
def drS (K : KK) : Nat := drM (nI (drM K.sd))
def drB (T : TT) (K : KK) : Nat := if drS K / 65536 % (T.P - 1) < drA T K then drS K / 65536 % (T.P - 1) else drS K / 65536 % (T.P - 1) + 1
def drC (T : TT) (K : KK) (q : Int32) : Option Nat := match beN (K.kn (drA T K)) (K.V (drA T K) (drB T K)) T.F with
  | some f => if nI (chN (K.V (drA T K) (drB T K)) f) < q then none else some f
  | none => none
def drK (T : TT) (K : KK) (q : Int32) : KK := match drC T K q with
  | some f => sayK T (sdK K (nI (drS K))) (drA T K) (drB T K) f 0
  | none => silK T (sdK K (nI (drS K))) (drA T K) (drB T K)
def drI (T : TT) (K : KK) (q : Int32) : Bool := match drC T K q with
  | some f => (K.kn (drB T K)).testBit f
  | none => false
theorem dr_ab {T : TT} (K : KK) (hP : 2 ≤ T.P) : drA T K < T.P ∧ drB T K < T.P ∧ drA T K ≠ drB T K ∧ drS K / 65536 % (T.P - 1) < T.P - 1 := by
  have h1 : drA T K < T.P := Nat.mod_lt _ (by omega)
  have h2 : drS K / 65536 % (T.P - 1) < T.P - 1 := Nat.mod_lt _ (by omega)
  unfold drB
  split <;> omega
theorem drC_f {T : TT} {K : KK} {q : Int32} {f : Nat} (h : drC T K q = some f) : f < T.F ∧ beN (K.kn (drA T K)) (K.V (drA T K) (drB T K)) T.F = some f ∧ ¬ nI (chN (K.V (drA T K) (drB T K)) f) < q := by
  unfold drC at h
  cases hb : beN (K.kn (drA T K)) (K.V (drA T K) (drB T K)) T.F with
  | none => rw [hb] at h; cases h
  | some g =>
    rw [hb] at h
    dsimp only at h
    split at h
    · cases h
    · cases h
      exact ⟨beN_lt hb, rfl, by assumption⟩
theorem drC_n {T : TT} {K : KK} {q : Int32} (h : drC T K q = none) : beN (K.kn (drA T K)) (K.V (drA T K) (drB T K)) T.F = none ∨ ∃ f, beN (K.kn (drA T K)) (K.V (drA T K) (drB T K)) T.F = some f ∧ nI (chN (K.V (drA T K) (drB T K)) f) < q := by
  unfold drC at h
  cases hb : beN (K.kn (drA T K)) (K.V (drA T K) (drB T K)) T.F with
  | none => exact .inl rfl
  | some g =>
    rw [hb] at h
    dsimp only at h
    split at h
    · exact .inr ⟨g, rfl, by assumption⟩
    · cases h
theorem sdK_kn (K : KK) (x : Int32) : (sdK K x).kn = K.kn := rfl
theorem sdK_V (K : KK) (x : Int32) : (sdK K x).V = K.V := rfl
theorem sd_ok (x : Int32) : ¬ nI (drM x) < 0 := nI_pos (drM_lt x)
theorem KOK_dr {T : TT} (O : TOK T) {K : KK} (kk : KOK T K) (q : Int32) : KOK T (drK T K q) := by
  have k1 : KOK T (sdK K (nI (drS K))) := KOK_sd kk (sd_ok _)
  unfold drK
  cases hc : drC T K q with
  | none => exact KOK_sil k1
  | some f => exact KOK_say O k1 (drC_f hc).1 (by decide)
theorem X_drift1 (sc : zSc) (d : Nat) (h : zHp) {t : Nat} {T : TT} {K : KK} (ht : zTw t = true) (h8 : h.2.2 0 8 = some t) (O : TOK T) (S : TnS h t T) (R : TkD h 26 T K) (kk : KOK T K) (hP : 2 ≤ T.P) (q : Int32) : ∃ h', zRun sc (d + 7) 118 [.ref 0, .int q] zGL h = some (some (.int (bI (drI T K q))), zGL, h') ∧ TkD h' 26 T (drK T K q) ∧ zFr 26 32 h h' := by
  have h15 := tw_15 ht
  have hP5 := O.2.1
  have hF6 := O.1
  obtain ⟨pa, pb, pn, p0⟩ := dr_ab K hP
  have r6 : h.1 26 6 = K.sd := R.2.2.2.2
  have hd1 := Tk_draw sc (d + 6) zGL h zS4_26 (by rw [r6]; exact kk.2.2.2.2) (n := T.P) (by omega) (by omega)
  rw [r6] at hd1
  have f1 : zFr 26 32 h (zPI h 26 6 (nI (drM K.sd))) := zFr_I (by decide) (by decide)
  have S1 := TnS_fr f1 (.inl (by omega)) S
  have hd2 := Tk_draw sc (d + 6) zGL (zPI h 26 6 (nI (drM K.sd))) zS4_26 (sd_ok _) (n := T.P - 1) (by omega) (by omega)
  rw [show (zPI h 26 6 (nI (drM K.sd))).1 26 6 = nI (drM K.sd) from rfl, zPI_o] at hd2
  have f2 : zFr 26 32 h (zPI h 26 6 (nI (drS K))) := zFr_I (by decide) (by decide)
  have S2 := TnS_fr f2 (.inl (by omega)) S
  have R2 : TkD (zPI h 26 6 (nI (drS K))) 26 T (sdK K (nI (drS K))) := TkD_sd R _
  have k2 : KOK T (sdK K (nI (drS K))) := KOK_sd kk (sd_ok _)
  have h82 : (zPI h 26 6 (nI (drS K))).2.2 0 8 = some t := h8
  have e0 : zRun sc (d + 7) 118 [.ref 0, .int q] zGL h = zE sc (d + 7) 118 40 [some (.ref 0), some (.int q), some (.int (nI (drA T K))), some (.int (nI (drB T K))), none] [] zGL (zPI h 26 6 (nI (drS K))) := by
    rw [E_X_driftOnce sc (d + 6), zOT_k h8 ht, S.1.2.1, hd1, zBi_some, zOT_k (show (zPI h 26 6 (nI (drM K.sd))).2.2 0 8 = some t from h8) ht, S1.1.2.1, show (1 : Int32) = nI 1 from rfl, nI_sub (by omega), hd2, zBi_some]
    show (if nI (drS K / 65536 % (T.P - 1)) < nI (drA T K) then zE sc (d + 7) 118 40 [some (.ref 0), some (.int q), some (.int (nI (drA T K))), some (.int (nI (drS K / 65536 % (T.P - 1)))), none] [] zGL (zPI h 26 6 (nI (drS K))) else zE sc (d + 7) 118 40 [some (.ref 0), some (.int q), some (.int (nI (drA T K))), some (.int (nI (drS K / 65536 % (T.P - 1)) + 1)), none] [] zGL (zPI h 26 6 (nI (drS K)))) = _
    unfold drB
    by_cases hb : drS K / 65536 % (T.P - 1) < drA T K
    · rw [if_pos (nI_lt hb (by omega)), if_pos hb]
    · rw [if_neg (nI_nlt (by omega) (by omega)), if_neg hb, nI_1]
  have hbe := Tk_bestSaying sc (d + 4) zGL (zPI h 26 6 (nI (drS K))) zS4_26 (zTw_6 ht) O S2.1 R2 k2 pa pb pn
  rw [sdK_kn, sdK_V] at hbe
  rw [e0, E_X_driftOnce_40 sc (d + 6), zOT_k h82 ht, hbe, zBi_some]
  obtain ⟨h3, g1, g2, g3⟩ := Tk_holdTongue sc (d + 3) zGL (zPI h 26 6 (nI (drS K))) zS4_26 (zTw_6 ht) O S2 R2 k2 pa pb pn
  have sil : zE sc (d + 7) 118 93 [some (.ref 0), none, some (.int (nI (drA T K))), some (.int (nI (drB T K))), none] [] zGL (zPI h 26 6 (nI (drS K))) = some (some (.int 0), zGL, h3) := by
    rw [E_X_driftOnce_93 sc (d + 6), zOT_k h82 ht, g1, zBi_some]
  have hch : ∀ f, f < 6 → zRun sc (d + 6) 71 [.ref 26, .int (nI (drA T K)), .int (nI (drB T K)), .int (nI f)] zGL (zPI h 26 6 (nI (drS K))) = some (some (.int (nI (chN (K.V (drA T K) (drB T K)) f))), zGL, zPI h 26 6 (nI (drS K))) := fun f hf => by
    have hc := Tk_chance sc (d + 5) zGL (zPI h 26 6 (nI (drS K))) zS4_26 O R2 pa pb pn hf
    rw [sdK_V] at hc
    exact hc
  unfold drI drK
  cases hc : drC T K q with
  | none =>
    refine ⟨h3, ?_, g2, zFr_t f2 g3⟩
    rcases drC_n hc with hb | ⟨f, hb, hlt⟩
    · rw [hb, if_pos (show oI none = -1 from rfl), sil]
      rfl
    · have hf := beN_lt hb
      rw [hb, show oI (some f) = nI f from rfl, if_neg (nI_nm1 (by omega)), hch f (by omega), zBi_some, if_pos hlt, sil]
      rfl
  | some f =>
    obtain ⟨hf, hb, hlt⟩ := drC_f hc
    obtain ⟨h4, s1, s2, s3⟩ := Tk_speak sc (d + 1) zGL (zPI h 26 6 (nI (drS K))) zS4_26 (zTw_6 ht) (by omega) O S2 R2 k2 pa pb hf (show 0 < 32 by decide)
    rw [sdK_kn, nI_0, show (if (K.kn (drB T K)).testBit f = true then (1 : Int32) else 0) = bI ((K.kn (drB T K)).testBit f) from rfl] at s1
    refine ⟨h4, ?_, s2, zFr_t f2 s3⟩
    rw [hb, show oI (some f) = nI f from rfl, if_neg (nI_nm1 (by omega)), hch f (by omega), zBi_some, if_neg hlt, zOT_k h82 ht, s1, zBi_some]
theorem Mo_drift1 (sc : zSc) (d : Nat) (h : zHp) {T : TT} {K : KK} (O : TOK T) (D : MoT h T) (C : MoC h T) (R : MoK h T K) (kk : KOK T K) (hP : 2 ≤ T.P) (q v1 v3 v4 : Int32) (h4 : v4 < v1) : ∃ h', zE sc (d + 5) 192 44 [some (.ref 46), some (.int v1), some (.int q), some (.int v3), some (.int v4), none, none, none, none] [] zGL h = zE sc (d + 5) 192 44 [some (.ref 46), some (.int v1), some (.int q), some (.int (v3 + bI (drI T K q))), some (.int (v4 + 1)), none, none, none, none] [] zGL h' ∧ MoK h' T (drK T K q) ∧ kFr h h' := by
  have hP5 := O.2.1
  have hF6 := O.1
  obtain ⟨pa, pb, pn, p0⟩ := dr_ab K hP
  have r6 : h.1 46 14 = K.sd := R.2.2.2.2
  have hd1 := Mo_draw sc (d + 4) h (by rw [r6]; exact kk.2.2.2.2) (n := T.P) (by omega) (by omega)
  rw [r6] at hd1
  have hd2 := Mo_draw sc (d + 4) (zPI h 46 14 (nI (drM K.sd))) (sd_ok _) (n := T.P - 1) (by omega) (by omega)
  rw [show (zPI h 46 14 (nI (drM K.sd))).1 46 14 = nI (drM K.sd) from rfl, zPI_o] at hd2
  have f2 : kFr h (zPI h 46 14 (nI (drS K))) := mFr_f (by decide)
  have D2 := MoT_k f2 D
  have C2 := MoC_k f2 C
  have R2 : MoK (zPI h 46 14 (nI (drS K))) T (sdK K (nI (drS K))) := MoK_sd R _
  have k2 : KOK T (sdK K (nI (drS K))) := KOK_sd kk (sd_ok _)
  have e0 : ∃ s0 s1 : Int32, s1 + s0 = nI (drB T K) ∧ zE sc (d + 5) 192 44 [some (.ref 46), some (.int v1), some (.int q), some (.int v3), some (.int v4), none, none, none, none] [] zGL h = zE sc (d + 5) 192 86 [some (.ref 46), some (.int v1), some (.int q), some (.int v3), some (.int v4), some (.int (nI (drA T K))), none, none, none] [.int s0, .int s1] zGL (zPI h 46 14 (nI (drS K))) := by
    rw [E_Mo_drift_44 sc (d + 4), if_pos h4, D.2.1, hd1, zBi_some, show (zPI h 46 14 (nI (drM K.sd))).1 46 3 = h.1 46 3 from rfl, D.2.1, show (1 : Int32) = nI 1 from rfl, nI_sub (by omega), hd2, zBi_some]
    show ∃ s0 s1 : Int32, s1 + s0 = nI (drB T K) ∧ (if nI (drS K / 65536 % (T.P - 1)) < nI (drA T K) then zE sc (d + 5) 192 86 [some (.ref 46), some (.int v1), some (.int q), some (.int v3), some (.int v4), some (.int (nI (drA T K))), none, none, none] [.int 0, .int (nI (drS K / 65536 % (T.P - 1)))] zGL (zPI h 46 14 (nI (drS K))) else zE sc (d + 5) 192 86 [some (.ref 46), some (.int v1), some (.int q), some (.int v3), some (.int v4), some (.int (nI (drA T K))), none, none, none] [.int (nI 1), .int (nI (drS K / 65536 % (T.P - 1)))] zGL (zPI h 46 14 (nI (drS K)))) = _
    unfold drB
    by_cases hb : drS K / 65536 % (T.P - 1) < drA T K
    · rw [if_pos (nI_lt hb (by omega)), if_pos hb]
      exact ⟨0, _, Int32.add_zero _, rfl⟩
    · rw [if_neg (nI_nlt (by omega) (by omega)), if_neg hb]
      exact ⟨nI 1, _, nI_add _ _, rfl⟩
  obtain ⟨s0, s1, es, e0⟩ := e0
  have hbe := Mo_bestOf sc (d + 1) (zPI h 46 14 (nI (drS K))) O D2 R2 k2 pa pb pn
  rw [sdK_kn, sdK_V] at hbe
  have hod : ∀ f, f < 6 → zRun sc (d + 4) 167 [.ref 46, .int (nI (drA T K)), .int (nI (drB T K)), .int (nI f)] zGL (zPI h 46 14 (nI (drS K))) = some (some (.int (nI (chN (K.V (drA T K) (drB T K)) f))), zGL, zPI h 46 14 (nI (drS K))) := fun f hf => by
    have hc := Mo_oddsOf sc (d + 2) (zPI h 46 14 (nI (drS K))) O D2 R2 k2 pa pb pn hf
    rw [sdK_V] at hc
    exact hc
  obtain ⟨h3, g1, g2, g3⟩ := Mo_silentNow sc d (zPI h 46 14 (nI (drS K))) O D2 C2 R2 k2 pa pb pn
  have sil : zE sc (d + 5) 192 147 [some (.ref 46), some (.int v1), some (.int q), some (.int v3), some (.int v4), some (.int (nI (drA T K))), some (.int (nI (drB T K))), none, none] [] zGL (zPI h 46 14 (nI (drS K))) = zE sc (d + 5) 192 44 [some (.ref 46), some (.int v1), some (.int q), some (.int v3), some (.int (v4 + 1)), none, none, none, none] [] zGL h3 := by
    rw [E_Mo_drift_147 sc (d + 4), g1, zBi_some]
  rw [e0, E_Mo_drift_86 sc (d + 4), es, hbe, zBi_some]
  have on := oI_neg (beN (K.kn (drA T K)) (K.V (drA T K) (drB T K)) T.F) (fun b hb => by have := beN_lt hb; omega)
  unfold drI drK
  cases hc : drC T K q with
  | none =>
    refine ⟨h3, ?_, g2, mFr_t f2 g3⟩
    rcases drC_n hc with hb | ⟨f, hb, hlt⟩
    · rw [if_pos (on.mpr hb), sil]
      show _ = zE sc (d + 5) 192 44 [some (.ref 46), some (.int v1), some (.int q), some (.int (v3 + 0)), some (.int (v4 + 1)), none, none, none, none] [] zGL h3
      rw [Int32.add_zero]
    · have hf := beN_lt hb
      rw [hb] at on ⊢
      rw [if_neg (fun z => by cases on.mp z), show oI (some f) = nI f from rfl, hod f (by omega), zBi_some, if_pos hlt, sil]
      show _ = zE sc (d + 5) 192 44 [some (.ref 46), some (.int v1), some (.int q), some (.int (v3 + 0)), some (.int (v4 + 1)), none, none, none, none] [] zGL h3
      rw [Int32.add_zero]
  | some f =>
    obtain ⟨hf, hb, hlt⟩ := drC_f hc
    obtain ⟨h5, t1, t2, t3⟩ := Mo_sayNow sc (d + 1) (zPI h 46 14 (nI (drS K))) O D2 C2 R2 k2 pa pb pn hf (show 0 < 32 by decide) (by simp) (by simp)
    rw [sdK_kn, nI_0, show (if (K.kn (drB T K)).testBit f = true then (1 : Int32) else 0) = bI ((K.kn (drB T K)).testBit f) from rfl] at t1
    refine ⟨h5, ?_, t2, mFr_t f2 t3⟩
    rw [hb] at on ⊢
    rw [if_neg (fun z => by cases on.mp z), show oI (some f) = nI f from rfl, hod f (by omega), zBi_some, if_neg hlt, t1, zBi_some]
    dsimp only
    cases (K.kn (drB T K)).testBit f with
    | false => rw [b0]; rfl
    | true => rw [b1]; rfl
def drN (T : TT) (q : Int32) : Nat → KK → Int32 → KK × Int32
  | 0, K, v => (K, v)
  | n + 1, K, v => drN T q n (drK T K q) (v + bI (drI T K q))
theorem KOK_drN {T : TT} (O : TOK T) (q : Int32) : ∀ n (K : KK) v, KOK T K → KOK T (drN T q n K v).1
  | 0, _, _, kk => kk
  | n + 1, K, v, kk => KOK_drN O q n _ _ (KOK_dr O kk q)
theorem X_drift_l (sc : zSc) (d : Nat) {t : Nat} {T : TT} (ht : zTw t = true) (O : TOK T) (hP : 2 ≤ T.P) (q : Int32) {n : Nat} (hn : n ≤ 99) : ∀ m k K v h, k + m = n → h.2.2 0 8 = some t → TnS h t T → TkD h 26 T K → KOK T K → ∃ h', zE sc (d + 8) 117 43 [some (.ref 0), some (.int (nI n)), some (.int q), some (.int v), some (.int (nI k))] [] zGL h = some (some (.int (drN T q m K v).2), zGL, h') ∧ TkD h' 26 T (drN T q m K v).1 ∧ zFr 26 32 h h' := by
  have h15 := tw_15 ht
  intro m
  induction m with
  | zero =>
    intro k K v h hk h8 S R kk
    refine ⟨h, ?_, R, zFr_r _ _ _⟩
    rw [E_X_drift_43 sc (d + 7), if_neg (nI_nlt (by omega) (by omega))]
    rfl
  | succ m ih =>
    intro k K v h hk h8 S R kk
    obtain ⟨h1, g1, g2, g3⟩ := X_drift1 sc d h ht h8 O S R kk hP q
    obtain ⟨h2, i1, i2, i3⟩ := ih (k + 1) (drK T K q) (v + bI (drI T K q)) h1 (by omega) (by rw [(g3 0 (by omega)).2.2]; exact h8) (TnS_fr g3 (.inl (by omega)) S) g2 (KOK_dr O kk q)
    refine ⟨h2, ?_, i2, zFr_t g3 i3⟩
    rw [E_X_drift_43 sc (d + 7), if_pos (nI_lt (by omega) (by omega)), g1, zBi_some, nI_1, i1]
    rfl
theorem Mo_drift_l (sc : zSc) (d : Nat) {T : TT} (O : TOK T) (hP : 2 ≤ T.P) (q : Int32) {n : Nat} (hn : n ≤ 99) : ∀ m k K v h, k + m = n → MoT h T → MoC h T → MoK h T K → KOK T K → ∃ h', zE sc (d + 5) 192 44 [some (.ref 46), some (.int (nI n)), some (.int q), some (.int v), some (.int (nI k)), none, none, none, none] [] zGL h = some (some (.int (drN T q m K v).2), zGL, h') ∧ MoK h' T (drN T q m K v).1 ∧ kFr h h' := by
  intro m
  induction m with
  | zero =>
    intro k K v h hk D C R kk
    refine ⟨h, ?_, R, mFr_r _ _ _⟩
    rw [E_Mo_drift_44 sc (d + 4), if_neg (nI_nlt (by omega) (by omega))]
    rfl
  | succ m ih =>
    intro k K v h hk D C R kk
    obtain ⟨h1, g1, g2, g3⟩ := Mo_drift1 sc d h O D C R kk hP q (nI n) v (nI k) (nI_lt (by omega) (by omega))
    obtain ⟨h2, i1, i2, i3⟩ := ih (k + 1) (drK T K q) (v + bI (drI T K q)) h1 (by omega) (MoT_k g3 D) (MoC_k g3 C) g2 (KOK_dr O kk q)
    refine ⟨h2, ?_, i2, mFr_t g3 i3⟩
    rw [g1, nI_1, i1]
    rfl
theorem op_drift (sc : zSc) (d : Nat) (h : zHp) (s : SI h) (v q : Int32) : okS sc (d + 20) 117 [.ref 0, .int v, .int q] 192 [.ref 46, .int v, .int q] h := by
  have s0 := s
  obtain ⟨t, t', T, K, X, B, I, fl, ⟨⟨ht, ht', hne⟩, O, kk, xo, bo, ko⟩, G, M⟩ := s
  have h8 := G.1.1
  have S := G.2.1
  have hP5 := O.2.1
  have m1 : ∀ h : zHp, zRun sc (d + 19) 132 [.long v.toInt64, .long 1, .long 99] zGL h = some (some (.int (bI (decide (¬ v < 1 ∧ ¬ 99 < v)))), zGL, h) := fun h => Mo_in' sc (d + 19) h v 1 99
  have m2 : ∀ h : zHp, zRun sc (d + 19) 132 [.long q.toInt64, .long 0, .long 1000000] zGL h = some (some (.int (bI (decide (¬ q < 0 ∧ ¬ 1000000 < q)))), zGL, h) := fun h => Mo_in' sc (d + 19) h q 0 1000000
  by_cases hv : ¬ v < 1 ∧ ¬ 99 < v
  · by_cases hq : ¬ q < 0 ∧ ¬ 1000000 < q
    · by_cases hP : 2 ≤ T.P
      · obtain ⟨v1, v99⟩ := hv
        obtain ⟨n, hn1, hn, rfl⟩ := i_1 v1
        have hn9 : n ≤ 99 := by
          rcases Nat.lt_or_ge 99 n with z | z
          · exact absurd (iL' (m := 99) (n := 99) rfl z hn) v99
          · exact z
        obtain ⟨h1, r1, r2, r3⟩ := X_drift_l sc (d + 12) ht O hP q hn9 n 0 K 0 h (by omega) h8 S G.2.2.1 kk
        have G1 := GX_K r3 ht r2 G
        have M1 := GM_f r3 (by decide) M
        obtain ⟨h2, q1, q2, q3⟩ := Mo_drift_l sc (d + 15) O hP q hn9 n 0 K 0 h1 (by omega) M1.1 M1.2.1 M1.2.2.1 kk
        have r1' : zE sc (d + 20) 117 43 [some (.ref 0), some (.int (nI n)), some (.int q), some (.int 0), some (.int 0)] [] zGL h = some (some (.int (drN T q n K 0).2), zGL, h1) := r1
        have q1' : zE sc (d + 20) 192 44 [some (.ref 46), some (.int (nI n)), some (.int q), some (.int 0), some (.int 0), none, none, none, none] [] zGL h1 = some (some (.int (drN T q n K 0).2), zGL, h2) := q1
        refine ⟨(drN T q n K 0).2, h1, h2, ?_, ?_, t, t', T, (drN T q n K 0).1, X, B, I, fl, ⟨⟨ht, ht', hne⟩, O, KOK_drN O q n K 0 kk, xo, bo, ko⟩, GX_k q3 ht G1, GM_K q3 q2 M1⟩
        · rw [E_X_drift, if_neg v1, if_neg v99, if_neg hq.1, if_neg hq.2, zOT_k h8 ht, S.1.2.1, if_neg (iG (m := 2) (n := 2) rfl hP (by omega)), r1']
        · rw [E_Mo_drift, m1, zBi_some, decide_eq_true ⟨v1, v99⟩, b1, m2, zBi_some, decide_eq_true hq, b1, M1.1.2.1, if_neg (iG (m := 2) (n := 2) rfl hP (by omega)), q1']
      · exact okS_q (v := -1000000003) s0 (by rw [E_X_drift, if_neg hv.1, if_neg hv.2, if_neg hq.1, if_neg hq.2, zOT_k h8 ht, S.1.2.1, if_pos (iL (m := 2) (n := 2) rfl (by omega) (by decide))]) (by rw [E_Mo_drift, m1, zBi_some, decide_eq_true hv, b1, m2, zBi_some, decide_eq_true hq, b1, M.1.2.1, if_pos (iL (m := 2) (n := 2) rfl (by omega) (by decide))])
    · refine okS_q (v := -1000000002) s0 ?_ (by rw [E_Mo_drift, m1, zBi_some, decide_eq_true hv, b1, m2, zBi_some, decide_eq_false hq, b0])
      rw [E_X_drift, if_neg hv.1, if_neg hv.2]
      by_cases q1 : q < 0
      · rw [if_pos q1]
      · rw [if_neg q1, if_pos (Classical.byContradiction fun z => hq ⟨q1, z⟩)]
  · refine okS_q (v := -1000000002) s0 ?_ (by rw [E_Mo_drift, m1, zBi_some, decide_eq_false hv, b0])
    rw [E_X_drift]
    by_cases v1 : v < 1
    · rw [if_pos v1]
    · rw [if_neg v1, if_pos (Classical.byContradiction fun z => hv ⟨v1, z⟩)]
