/-! ===== the reference's reader: clauses ===== -/
def MS (h : zHp) (T : TT) : Prop := h.1 46 23 = nI T.F ∧ h.1 46 26 = nI T.P ∧ h.1 46 28 = nI T.C ∧ (∀ f, f < T.F → h.1 57 f = nI (T.w f) ∧ h.1 58 f = nI (T.fo f)) ∧ ∀ p, p < T.P → h.1 59 p = nI (T.tk p)
def MR (h : zHp) (T : TT) : Prop := MS h T ∧ h.1 46 17 = -1
def mF (h h' : zHp) : Prop := mFr [57, 58, 59] [17, 18, 19, 20, 21, 22, 23, 26, 28] h h'
theorem MS_m {a b : List Nat} {h h' : zHp} {T : TT} (f : mFr a b h h') (ha : 57 ∉ a ∧ 58 ∉ a ∧ 59 ∉ a) (hb : 23 ∉ b ∧ 26 ∉ b ∧ 28 ∉ b) (M : MS h T) : MS h' T := by
  unfold MS at M ⊢
  rw [(f.2.1 23 hb.1).1, (f.2.1 26 hb.2.1).1, (f.2.1 28 hb.2.2).1, (f.1 57 (by decide) ha.1).1, (f.1 58 (by decide) ha.2.1).1, (f.1 59 (by decide) ha.2.2).1]
  exact M
theorem MS_57 {h : zHp} {T : TT} {v : Int32} (M : MS h T) : MS (zPI h 57 T.F v) T := ⟨M.1, M.2.1, M.2.2.1, fun f hf => ⟨by rw [zPI_1, if_neg (by omega)]; exact (M.2.2.2.1 f hf).1, (M.2.2.2.1 f hf).2⟩, M.2.2.2.2⟩
theorem MS_58 {h : zHp} {T : TT} {v : Int32} (M : MS h T) : MS (zPI h 58 T.F v) T := ⟨M.1, M.2.1, M.2.2.1, fun f hf => ⟨(M.2.2.2.1 f hf).1, by rw [zPI_1, if_neg (by omega)]; exact (M.2.2.2.1 f hf).2⟩, M.2.2.2.2⟩
theorem MS_59 {h : zHp} {T : TT} {v : Int32} (M : MS h T) : MS (zPI h 59 T.P v) T := ⟨M.1, M.2.1, M.2.2.1, M.2.2.2.1, fun p hp => by rw [zPI_1, if_neg (by omega)]; exact M.2.2.2.2 p hp⟩
theorem MS_s8 {h h' : zHp} {T : TT} (M : MS h T) (f : mFr [58] [17, 18, 21, 22] h h') (hj : ∀ j, j ≠ T.F → h'.1 58 j = h.1 58 j) : MS h' T := by
  obtain ⟨m1, m2, m3, m4, m5⟩ := M
  refine ⟨by rw [(f.2.1 23 (by decide)).1]; exact m1, by rw [(f.2.1 26 (by decide)).1]; exact m2, by rw [(f.2.1 28 (by decide)).1]; exact m3, fun g hg => ⟨?_, ?_⟩, fun p hp => ?_⟩
  · rw [(f.1 57 (by decide) (by decide)).1]; exact (m4 g hg).1
  · rw [hj g (by omega)]; exact (m4 g hg).2
  · rw [(f.1 59 (by decide) (by decide)).1]; exact m5 p hp
theorem MS_s9 {h h' : zHp} {T : TT} (M : MS h T) (f : mFr [59] [17, 18, 21, 22] h h') (hj : ∀ j, j ≠ T.P → h'.1 59 j = h.1 59 j) : MS h' T := by
  obtain ⟨m1, m2, m3, m4, m5⟩ := M
  refine ⟨by rw [(f.2.1 23 (by decide)).1]; exact m1, by rw [(f.2.1 26 (by decide)).1]; exact m2, by rw [(f.2.1 28 (by decide)).1]; exact m3, fun g hg => ⟨?_, ?_⟩, fun p hp => ?_⟩
  · rw [(f.1 57 (by decide) (by decide)).1]; exact (m4 g hg).1
  · rw [(f.1 58 (by decide) (by decide)).1]; exact (m4 g hg).2
  · rw [hj p (by omega)]; exact m5 p hp
theorem MS_F {h : zHp} {T : TT} {v a : Nat} (M : MS h T) (h7 : h.1 57 T.F = nI v) (h8 : h.1 58 T.F = nI a) : MS (zPI h 46 23 (nI (T.F + 1))) (adF T v a) := by
  obtain ⟨m1, m2, m3, m4, m5⟩ := M
  refine ⟨rfl, m2, m3, fun f hf => ?_, m5⟩
  have hf' : f < T.F + 1 := hf
  show h.1 57 f = nI (updN T.w T.F v f) ∧ h.1 58 f = nI (updN T.fo T.F a f)
  unfold updN
  by_cases he : f = T.F
  · rw [if_pos he, if_pos he, he]; exact ⟨h7, h8⟩
  · rw [if_neg he, if_neg he]; exact m4 f (by omega)
theorem MS_P {h : zHp} {T : TT} {a : Nat} (M : MS h T) (h9 : h.1 59 T.P = nI a) : MS (zPI h 46 26 (nI (T.P + 1))) (adP T a) := by
  obtain ⟨m1, m2, m3, m4, m5⟩ := M
  refine ⟨m1, rfl, m3, m4, fun p hp => ?_⟩
  have hp' : p < T.P + 1 := hp
  show h.1 59 p = nI (updN T.tk T.P a p)
  unfold updN
  by_cases he : p = T.P
  · rw [if_pos he, he]; exact h9
  · rw [if_neg he]; exact m5 p (by omega)
def cdK (j k : Nat) : Nat := sdG (fun i => (wB j).getD i 0) k
theorem Mo_cw (sc : zSc) (d : Nat) (h : zHp) : (zRun sc d 137 [.int 104, .int 97, .int 116, .int 115] zGL h = some (some (.long (lN (cdN 0))), zGL, h)) ∧ (zRun sc d 137 [.int 102, .int 97, .int 99, .int 116] zGL h = some (some (.long (lN (cdN 1))), zGL, h)) ∧ (zRun sc d 137 [.int 102, .int 111, .int 108, .int 108] zGL h = some (some (.long (lN (cdK 2 4))), zGL, h)) ∧ (zRun sc d 137 [.int 112, .int 101, .int 114, .int 115] zGL h = some (some (.long (lN (cdK 3 4))), zGL, h)) ∧ (zRun sc d 137 [.int 107, .int 110, .int 111, .int 119] zGL h = some (some (.long (lN (cdK 4 4))), zGL, h)) := by
  refine ⟨(E_Mo_code sc d h _ _ _ _).trans (congrArg (fun v => some (some (Value.long v), zGL, h)) ?_), (E_Mo_code sc d h _ _ _ _).trans (congrArg (fun v => some (some (Value.long v), zGL, h)) ?_), (E_Mo_code sc d h _ _ _ _).trans (congrArg (fun v => some (some (Value.long v), zGL, h)) ?_), (E_Mo_code sc d h _ _ _ _).trans (congrArg (fun v => some (some (Value.long v), zGL, h)) ?_), (E_Mo_code sc d h _ _ _ _).trans (congrArg (fun v => some (some (Value.long v), zGL, h)) ?_)⟩ <;> decide +kernel
theorem Mo_lw (sc : zSc) (d : Nat) (h : zHp) : (zRun sc d 138 [.long (lN (cdK 2 4)), .int 111] zGL h = some (some (.long (lN (cdK 2 5))), zGL, h)) ∧ (zRun sc d 138 [.long (lN (cdK 2 5)), .int 119] zGL h = some (some (.long (lN (cdK 2 6))), zGL, h)) ∧ (zRun sc d 138 [.long (lN (cdK 2 6)), .int 115] zGL h = some (some (.long (lN (cdN 2))), zGL, h)) ∧ (zRun sc d 138 [.long (lN (cdK 3 4)), .int 111] zGL h = some (some (.long (lN (cdK 3 5))), zGL, h)) ∧ (zRun sc d 138 [.long (lN (cdK 3 5)), .int 110] zGL h = some (some (.long (lN (cdN 3))), zGL, h)) ∧ (zRun sc d 138 [.long (lN (cdK 4 4)), .int 115] zGL h = some (some (.long (lN (cdN 4))), zGL, h)) := by
  refine ⟨(E_Mo_longer sc d h _ _).trans (congrArg (fun v => some (some (Value.long v), zGL, h)) ?_), (E_Mo_longer sc d h _ _).trans (congrArg (fun v => some (some (Value.long v), zGL, h)) ?_), (E_Mo_longer sc d h _ _).trans (congrArg (fun v => some (some (Value.long v), zGL, h)) ?_), (E_Mo_longer sc d h _ _).trans (congrArg (fun v => some (some (Value.long v), zGL, h)) ?_), (E_Mo_longer sc d h _ _).trans (congrArg (fun v => some (some (Value.long v), zGL, h)) ?_), (E_Mo_longer sc d h _ _).trans (congrArg (fun v => some (some (Value.long v), zGL, h)) ?_)⟩ <;> decide +kernel
def faI (tl : Nat) (tb : Nat → Nat) (F e0 : Nat) : PF ⊕ (Nat × Nat × Nat) := match nuQ tl tb 1 100 (skP tl tb e0) with
  | .inl f => .inl f
  | .inr (e, v) => if wdQ tl tb (skP tl tb e) 2 then (match liP tl tb F 7 (tkE tl tb (skP tl tb e)) 0 with
      | .inl f => .inl f
      | .inr (e2, a) => .inr (e2, v, a)) else .inr (e, v, 0)
def peI (tl : Nat) (tb : Nat → Nat) (F e0 : Nat) : PF ⊕ (Nat × Nat) := if wdQ tl tb (skP tl tb e0) 4 then liP tl tb F 7 (tkE tl tb (skP tl tb e0)) 0 else .inr (e0, 0)
theorem wdQ_1 {tl : Nat} {tb : Nat → Nat} {s j : Nat} (h : wdQ tl tb s j = true) : kdN tl tb s = 1 := by
  unfold wdQ at h
  rw [Bool.and_eq_true, decide_eq_true_eq] at h
  exact h.1
theorem Mo_fact (sc : zSc) (d : Nat) (h : zHp) {tl : Nat} {tb : Nat → Nat} (X : MoX h tl tb) (o : txOK tl tb) {T : TT} (O : rdO T) (hF : T.F < 6) (M : MR h T) {e0 : Nat} (he0 : e0 ≤ tl) (A : AtP h tl tb e0) : (∀ f, faI tl tb T.F e0 = .inl f → ∃ h', zRun sc (d + 3) 141 [.ref 46] zGL h = some (some (.int (nI f.1)), zGL, h') ∧ mfl h' f ∧ mF h h') ∧ (∀ e v a, faI tl tb T.F e0 = .inr (e, v, a) → e ≤ tl ∧ ∃ h', zRun sc (d + 3) 141 [.ref 46] zGL h = some (some (.int 0), zGL, h') ∧ AtP h' tl tb e ∧ MR h' (adF T v a) ∧ mF h h') := by
  have hF6 := O.1
  obtain ⟨M, h17⟩ := M
  obtain ⟨s1, s2⟩ := sk_b tb he0
  rw [E_Mo_takeFact sc (d + 2), M.1, if_pos (zin_nI hF (by decide)), nI_clamp (by omega)]
  have fA : mF h (zPI h 58 T.F 0) := mFr_I (by decide) (by decide)
  have XA : MoX (zPI h 58 T.F 0) tl tb := MoX_m fA (by decide) (by decide) X
  have MA : MS (zPI h 58 T.F 0) T := MS_58 M
  obtain ⟨q, a1, a2, a3⟩ := A
  have AA : AtP (zPI h 58 T.F 0) tl tb e0 := ⟨q, a1, a2, a3⟩
  obtain ⟨n1, n2⟩ := Mo_num sc (d + 1) (zPI h 58 T.F 0) XA o he0 AA (lo := 1) (hb := 100) (hi := 99) (by decide) rfl
  have hz : ∀ (v : zHp), zRun sc (d + 2) 140 [.ref 46, .int (nI 1), .int 99] zGL v = zRun sc (d + 2) 140 [.ref 46, .int 1, .int 99] zGL v := fun _ => rfl
  unfold faI
  cases hnu : nuQ tl tb 1 100 (skP tl tb e0) with
  | inl f =>
    obtain ⟨h1, g1, g2, g3⟩ := n1 f hnu
    rw [hz] at g1
    refine ⟨fun f' hf' => ?_, fun e v a hf' => by cases hf'⟩
    cases hf'
    have g4 := g2.2.1
    have g5 := g2.2.2
    rw [g1, zBi_some, if_pos (zin_nI hF (by decide)), if_neg (nI_ne0 g4 (by omega)), E_Mo_takeFact_91]
    exact ⟨_, rfl, ⟨g2.1, g4, g5⟩, mFr_t fA (mFr_t (mFr_w g3 (fun _ z => nomatch z) (by decide)) (mFr_t (mFr_I (by decide) (by decide)) (mFr_f (by decide))))⟩
  | inr q =>
    obtain ⟨e, v⟩ := q
    obtain ⟨-, -, -, b1, b2, -, b3, -⟩ := nuQ_b s2 hnu
    obtain ⟨h1, g1, g18, g21, g22, g17, g3⟩ := n2 e v hnu
    rw [hz] at g1
    rw [g1, zBi_some, if_pos (zin_nI hF (by decide)), if_pos rfl, g21]
    dsimp only
    have M1 : MS h1 T := MS_m g3 (by decide) (by decide) MA
    have f1 : mF h h1 := mFr_t fA (mFr_w g3 (fun _ z => nomatch z) (by decide))
    have z8 : h1.1 58 T.F = 0 := by rw [(g3.1 58 (by decide) (by decide)).1]; exact if_pos ⟨rfl, rfl⟩
    generalize hzB : zPI h1 57 T.F (nI v) = hB
    have fB : mF h hB := by rw [← hzB]; exact mFr_t f1 (mFr_I (by decide) (by decide))
    have MB : MS hB T := by rw [← hzB]; exact MS_57 M1
    have B7 : hB.1 57 T.F = nI v := by rw [← hzB]; exact if_pos ⟨rfl, rfl⟩
    have B8 : hB.1 58 T.F = 0 := by rw [← hzB]; exact z8
    have B17 : hB.1 46 17 = -1 := by rw [← hzB]; exact g17.trans h17
    have AB : AtP hB tl tb e := AtP_e (by rw [← hzB]; exact g18) b2
    obtain ⟨h2, r1, r18, r19, r20, r2⟩ := Mo_readWord sc (d + 1) hB (MoX_m fB (by decide) (by decide) X) o b2 AB
    have M2 : MS h2 T := MS_m r2 (by decide) (by decide) MB
    have f2 : mF h h2 := mFr_t fB (mFr_w r2 (fun _ z => nomatch z) (by decide))
    have C7 : h2.1 57 T.F = nI v := by rw [(r2.1 57 (by decide) (by decide)).1]; exact B7
    have C8 : h2.1 58 T.F = 0 := by rw [(r2.1 58 (by decide) (by decide)).1]; exact B8
    have C17 : h2.1 46 17 = -1 := by rw [(r2.2.1 17 (by decide)).1]; exact B17
    rw [r1, zBv_some, (Mo_cw sc (d + 2) h2).2.2.1, zBj_some, (Mo_lw sc (d + 2) h2).1, zBj_some, (Mo_lw sc (d + 2) h2).2.1, zBj_some, (Mo_lw sc (d + 2) h2).2.2.1, zBj_some, r19]
    have hwd := wd_sd (tl := tl) (tb := tb) (s := skP tl tb e) (j := 2) (by decide)
    have hwn : wdQ tl tb (skP tl tb e) 2 = false → ¬ lN (sdW tl tb (skP tl tb e)) = lN (cdN 2) := fun hf z => by rw [hwd.mp z] at hf; cases hf
    cases hw : wdQ tl tb (skP tl tb e) 2 with
    | false =>
      rw [if_neg (hwn hw), if_neg (show ¬ false = true by decide), E_Mo_takeFact_91]
      refine ⟨fun f' hf' => (by cases hf'), fun e' v' a' hf' => ?_⟩
      cases hf'
      rw [M2.1, nI_1]
      exact ⟨b2, _, rfl, AtP_s r18 b2, ⟨MS_F M2 C7 C8, C17⟩, mFr_t f2 (mFr_f (by decide))⟩
    | true =>
      obtain ⟨j1, j2⟩ := sk_b tb b2
      obtain ⟨l1, l2, -⟩ := tkE_b (tb := tb) j2
      rw [if_pos (hwd.mpr hw), if_pos rfl, r20, ← tkE_1 (wdQ_1 hw)]
      generalize hzC : zPI h2 46 18 (nI (tkE tl tb (skP tl tb e))) = hC
      have fC : mF h hC := by rw [← hzC]; exact mFr_t f2 (mFr_f (by decide))
      have MC : MS hC T := by rw [← hzC]; exact MS_m (mFr_f (a := []) (b := [18]) (by decide)) (by decide) (by decide) M2
      obtain ⟨i1, i2⟩ := Mo_set sc d hC o za_58 (.inl rfl) hF (by decide) hF6 l2 (MoX_m fC (by decide) (by decide) X) (AtP_e (by rw [← hzC]; rfl) l2) (by rw [← hzC]; exact C8)
      cases hl : liP tl tb T.F 7 (tkE tl tb (skP tl tb e)) 0 with
      | inl f =>
        obtain ⟨h4, k1, k2, k3⟩ := i1 f hl
        refine ⟨fun f' hf' => ?_, fun e v a hf' => by cases hf'⟩
        cases hf'
        rw [k1, zBi_some, E_Mo_takeFact_91]
        exact ⟨_, rfl, ⟨k2.1, k2.2.1, k2.2.2⟩, mFr_t fC (mFr_t (mFr_w k3 (by decide) (by decide)) (mFr_f (by decide)))⟩
      | inr q =>
        obtain ⟨e4, a4⟩ := q
        obtain ⟨m1, m2, m3⟩ := liP_b 7 _ 0 l2 (Nat.two_pow_pos _) hl
        obtain ⟨h4, k1, k2, k3, k4, k5, k6⟩ := i2 e4 a4 hl
        refine ⟨fun f' hf' => (by cases hf'), fun e' v' a' hf' => ?_⟩
        cases hf'
        have M4 : MS h4 T := MS_s8 MC k6 k4
        have D7 : h4.1 57 T.F = nI v := by rw [(k6.1 57 (by decide) (by decide)).1, ← hzC]; exact C7
        rw [k1, zBi_some, E_Mo_takeFact_91, M4.1, nI_1]
        obtain ⟨q4, x1, x2, x3⟩ := k2
        refine ⟨m1, _, rfl, ⟨q4, x1, x2, x3⟩, ⟨MS_F M4 D7 k3, ?_⟩, mFr_t fC (mFr_t (mFr_w k6 (by decide) (by decide)) (mFr_f (by decide)))⟩
        show h4.1 46 17 = -1
        rw [k5, ← hzC]
        exact C17
theorem Mo_person (sc : zSc) (d : Nat) (h : zHp) {tl : Nat} {tb : Nat → Nat} (X : MoX h tl tb) (o : txOK tl tb) {T : TT} (O : rdO T) (hP : T.P < 5) (M : MR h T) {e : Nat} (b2 : e ≤ tl) (A : AtP h tl tb e) : (∀ f, peI tl tb T.F e = .inl f → ∃ h', zRun sc (d + 3) 143 [.ref 46] zGL h = some (some (.int (nI f.1)), zGL, h') ∧ mfl h' f ∧ mF h h') ∧ (∀ e2 a, peI tl tb T.F e = .inr (e2, a) → e2 ≤ tl ∧ ∃ h', zRun sc (d + 3) 143 [.ref 46] zGL h = some (some (.int 0), zGL, h') ∧ AtP h' tl tb e2 ∧ MR h' (adP T a) ∧ mF h h') := by
  have hF6 := O.1
  obtain ⟨M, h17⟩ := M
  rw [E_Mo_takePerson sc (d + 2), M.2.1, if_pos (zin_nI hP (by decide)), nI_clamp (by omega)]
  obtain ⟨q, a1, a2, a3⟩ := A
  generalize hzB : zPI h 59 T.P 0 = hB
  have fB : mF h hB := by rw [← hzB]; exact mFr_I (by decide) (by decide)
  have MB : MS hB T := by rw [← hzB]; exact MS_59 M
  have B9 : hB.1 59 T.P = 0 := by rw [← hzB]; exact if_pos ⟨rfl, rfl⟩
  have B17 : hB.1 46 17 = -1 := by rw [← hzB]; exact h17
  have AB : AtP hB tl tb e := ⟨q, by rw [← hzB]; exact a1, a2, a3⟩
  obtain ⟨h2, r1, r18, r19, r20, r2⟩ := Mo_readWord sc (d + 1) hB (MoX_m fB (by decide) (by decide) X) o b2 AB
  have M2 : MS h2 T := MS_m r2 (by decide) (by decide) MB
  have f2 : mF h h2 := mFr_t fB (mFr_w r2 (fun _ z => nomatch z) (by decide))
  have C9 : h2.1 59 T.P = 0 := by rw [(r2.1 59 (by decide) (by decide)).1]; exact B9
  have C17 : h2.1 46 17 = -1 := by rw [(r2.2.1 17 (by decide)).1]; exact B17
  rw [r1, zBv_some, (Mo_cw sc (d + 2) h2).2.2.2.2, zBj_some, (Mo_lw sc (d + 2) h2).2.2.2.2.2, zBj_some, r19]
  have hwd := wd_sd (tl := tl) (tb := tb) (s := skP tl tb e) (j := 4) (by decide)
  have hwn : wdQ tl tb (skP tl tb e) 4 = false → ¬ lN (sdW tl tb (skP tl tb e)) = lN (cdN 4) := fun hf z => by rw [hwd.mp z] at hf; cases hf
  unfold peI
  cases hw : wdQ tl tb (skP tl tb e) 4 with
  | false =>
    rw [if_neg (hwn hw), if_neg (show ¬ false = true by decide), E_Mo_takePerson_64]
    refine ⟨fun f' hf' => (by cases hf'), fun e' a' hf' => ?_⟩
    cases hf'
    rw [M2.2.1, nI_1]
    exact ⟨b2, _, rfl, AtP_s r18 b2, ⟨MS_P M2 C9, C17⟩, mFr_t f2 (mFr_f (by decide))⟩
  | true =>
    obtain ⟨j1, j2⟩ := sk_b tb b2
    obtain ⟨l1, l2, -⟩ := tkE_b (tb := tb) j2
    rw [if_pos (hwd.mpr hw), if_pos rfl, r20, ← tkE_1 (wdQ_1 hw)]
    generalize hzC : zPI h2 46 18 (nI (tkE tl tb (skP tl tb e))) = hC
    have fC : mF h hC := by rw [← hzC]; exact mFr_t f2 (mFr_f (by decide))
    have MC : MS hC T := by rw [← hzC]; exact MS_m (mFr_f (a := []) (b := [18]) (by decide)) (by decide) (by decide) M2
    rw [MC.1]
    obtain ⟨i1, i2⟩ := Mo_set sc d hC o za_59 (.inr rfl) hP (by decide) hF6 l2 (MoX_m fC (by decide) (by decide) X) (AtP_e (by rw [← hzC]; rfl) l2) (by rw [← hzC]; exact C9)
    cases hl : liP tl tb T.F 7 (tkE tl tb (skP tl tb e)) 0 with
    | inl f =>
      obtain ⟨h4, k1, k2, k3⟩ := i1 f hl
      refine ⟨fun f' hf' => ?_, fun e a hf' => by cases hf'⟩
      cases hf'
      rw [k1, zBi_some, E_Mo_takePerson_64]
      exact ⟨_, rfl, ⟨k2.1, k2.2.1, k2.2.2⟩, mFr_t fC (mFr_t (mFr_w k3 (by decide) (by decide)) (mFr_f (by decide)))⟩
    | inr q =>
      obtain ⟨e4, a4⟩ := q
      obtain ⟨m1, m2, m3⟩ := liP_b 7 _ 0 l2 (Nat.two_pow_pos _) hl
      obtain ⟨h4, k1, k2, k3, k4, k5, k6⟩ := i2 e4 a4 hl
      refine ⟨fun f' hf' => (by cases hf'), fun e' a' hf' => ?_⟩
      cases hf'
      have M4 : MS h4 T := MS_s9 MC k6 k4
      rw [k1, zBi_some, E_Mo_takePerson_64, M4.2.1, nI_1]
      obtain ⟨q4, x1, x2, x3⟩ := k2
      refine ⟨m1, _, rfl, ⟨q4, x1, x2, x3⟩, ⟨MS_P M4 k3, ?_⟩, mFr_t fC (mFr_t (mFr_w k6 (by decide) (by decide)) (mFr_f (by decide)))⟩
      show h4.1 46 17 = -1
      rw [k5, ← hzC]
      exact C17
