/-! ===== plans: both searches, both answers ===== -/
theorem MoK_p {h h' : zHp} {T : TT} {K : KK} (f : pFr h h') (R : MoK h T K) : MoK h' T K := by
  obtain ⟨f1, f2, -⟩ := f
  unfold MoK at R ⊢
  rw [(f1 51 (by decide) (by decide)).1, (f1 52 (by decide) (by decide)).1, (f1 54 (by decide) (by decide)).1, (f1 53 (by decide) (by decide)).2, (f1 55 (by decide) (by decide)).1, (f2 12 (by decide)).1, (f2 14 (by decide)).1]
  exact R
theorem iL' {k n : Nat} {m : Int32} (hm : m = nI n) (h : n < k) (hk : k < 2 ^ 31) : m < nI k := by rw [hm]; exact nI_lt h hk
theorem iG' {k n : Nat} {m : Int32} (hm : m = nI n) (h : k ≤ n) (hn : n < 2 ^ 31) : ¬ m < nI k := by rw [hm]; exact nI_nlt h hn
theorem fsR_y {α : Type} {w : Nat → Option α} {m o : Nat} {x : α} (h : w o = some x) : fsR w (m + 1) o = some x := by rw [fsR, h]
theorem fsR_n {α : Type} {w : Nat → Option α} {m o : Nat} (h : w o = none) : fsR w (m + 1) o = fsR w m (o + 1) := by rw [fsR, h]
def fpX (x : Option zRs) (h : zHp) (N : Nat) : Option (List Nat) → Prop
  | some l => ∃ h', x = some (some (.int 1), zGL, h') ∧ pFr h h' ∧ ∀ i, i < N → h'.1 65 i = nI (l.getD i 0)
  | none => ∃ h', x = some (some (.int 0), zGL, h') ∧ pFr h h' ∧ lwE 0 h h'
theorem Mo_findPlan (sc : zSc) (c : Nat) {N G : Nat} (h : zHp) {T : TT} {Q : PQ} (O : TOK T) (hN : N ≤ 6) (hG : G < 64) (q : PQok T Q) (D : MoT h T) (C : MoC h T) (L : Lv h 0 Q) : fpX (zRun sc (c + 3) 180 [.ref 46, .int (nI N), .int (nI G)] zGL h) h N (srch T G N Q) := by
  have f1 : pFr h (zPI h 65 0 (-1)) := mFr_I (by decide) (by decide)
  have l1 : lwE 0 h (zPI h 65 0 (-1)) := fun i hi => by simp [zPI_1, zPI_2]
  have r := Mo_fp sc c N G O hN hG N 0 Q (zPI h 65 0 (-1)) (by omega) q (MoT_p f1 D) (MoC_p f1 C) (lwE_Lv l1 L) (by rw [zPI_1, if_pos ⟨rfl, rfl⟩])
  have e0 : zRun sc (c + 3) 180 [.ref 46, .int (nI N), .int (nI G)] zGL h = e9 sc c N G (nI 0) (zPI h 65 0 (-1)) := E_Mo_findPlan sc (c + 2) h (nI N) (nI G)
  rw [e0]
  cases hs : srch T G N Q with
  | some l =>
    rw [hs] at r
    obtain ⟨h', r1, r2, -, r4⟩ := r
    exact ⟨h', r1, mFr_t f1 r2, fun i hi => by have := r4 i hi; rwa [Nat.zero_add] at this⟩
  | none =>
    rw [hs] at r
    obtain ⟨h', r1, r2, -, r4⟩ := r
    refine ⟨h', ?_, mFr_t f1 r2, lwE_t l1 r4⟩
    rw [r1]
    unfold e9
    rw [E_Mo_findPlan_9, if_pos (by decide)]
def plS (T : TT) (G : Nat) (Q : PQ) (n : Nat) : Option (Nat × List Nat) := (srch T G n Q).map (fun l => (n, l))
def plA (p q : Nat) (i : Int32) : Option (Nat × List Nat) → Int32
  | none => -1
  | some (n, l) => if i = -1 then nI n else if isI i (2 * n) = true then (if i.toNatClampNeg % 2 = 1 then nI (l.getD (i.toNatClampNeg / 2) 0 % 6) else if l.getD (i.toNatClampNeg / 2) 0 < 6 then nI p else nI q) else -1
def plQ (K : KK) (p q : Nat) : PQ := (K.kn p, K.kn q, K.V p q, K.V q p)
theorem plQ_ok {T : TT} {K : KK} (kk : KOK T K) {p q : Nat} (hp : p < T.P) (hq : q < T.P) (hn : p ≠ q) : PQok T (plQ K p q) := ⟨clB_lt (kk.1 p hp).1, clB_lt (kk.1 q hq).1, KOK_in kk hp hq hn, KOK_in kk hq hp (Ne.symm hn)⟩
def plG (K : KK) (p q : Nat) : Nat := K.kn p ||| K.kn q
theorem plG_lt {T : TT} {K : KK} (O : TOK T) (kk : KOK T K) {p q : Nat} (hp : p < T.P) (hq : q < T.P) : plG K p q < 64 := Nat.or_lt_two_pow (n := 6) (KOK_kn O kk hp) (KOK_kn O kk hq)
theorem n2 (n : Nat) : (2 : Int32) * nI n = nI (2 * n) := by rw [show (2 : Int32) = nI 2 from rfl, nI_mul]
theorem d2 {k : Nat} (hk : k < 2 ^ 31) : nI k / 2 = nI (k / 2) ∧ nI k - nI k / 2 * 2 = nI (k % 2) := ⟨pk_div (d := 2) hk (by decide) (by decide), pk_rem (d := 2) hk (by decide) (by decide)⟩
theorem isI_m1 (n : Nat) : isI (-1) n = false := by
  unfold isI
  rw [decide_eq_false_iff_not]
  rintro ⟨h, -⟩
  exact h (by decide)
theorem Mo_plan_l (sc : zSc) (c : Nat) {T : TT} {K : KK} (O : TOK T) (kk : KOK T K) {p q : Nat} (hp : p < T.P) (hq : q < T.P) (hn : p ≠ q) (i : Int32) : ∀ m N h, N + m = 7 → MoT h T → MoC h T → MoK h T K → Lv h 0 (plQ K p q) → ∃ h', zE sc (c + 4) 179 71 [some (.ref 46), some (.int (nI p)), some (.int (nI q)), some (.int i), some (.int (nI N)), none] [] zGL h = some (some (.int (plA p q i (fsR (plS T (plG K p q) (plQ K p q)) m N))), zGL, h') ∧ pFr h h' := by
  have hP5 := O.2.1
  have hG := plG_lt O kk hp hq
  intro m
  induction m with
  | zero =>
    intro N h hm D C R L
    refine ⟨h, ?_, mFr_r _ _ h⟩
    rw [E_Mo_plan_71, if_pos (iL' (m := 6) (n := 6) rfl (by omega) (by omega))]
    rfl
  | succ m ih =>
    intro N h hm D C R L
    have hR1 : h.1 51 p ||| h.1 51 q = nI (plG K p q) := by rw [(R.1 p hp).1, (R.1 q hq).1, nI_or]; rfl
    have r := Mo_findPlan sc c (N := N) h O (by omega) hG (plQ_ok kk hp hq hn) D C L
    rw [E_Mo_plan_71, if_neg (iG' (m := 6) (n := 6) rfl (by omega) (by decide)), if_pos (zin_nI (by omega) (by decide)), if_pos (zin_nI (by omega) (by decide)), nI_clamp (by omega), nI_clamp (by omega), hR1]
    cases hs : srch T (plG K p q) N (plQ K p q) with
    | none =>
      rw [hs] at r
      obtain ⟨h1, r1, r2, r3⟩ := r
      obtain ⟨h2, s1, s2⟩ := ih (N + 1) h1 (by omega) (MoT_p r2 D) (MoC_p r2 C) (MoK_p r2 R) (lwE_Lv r3 L)
      refine ⟨h2, ?_, mFr_t r2 s2⟩
      rw [r1, zBi_some, if_pos rfl, nI_1, s1, fsR_n (show plS T (plG K p q) (plQ K p q) N = none by unfold plS; rw [hs]; rfl)]
    | some l =>
      rw [hs] at r
      obtain ⟨h1, r1, r2, r3⟩ := r
      refine ⟨h1, ?_, r2⟩
      rw [r1, zBi_some, if_neg (by decide), fsR_y (show plS T (plG K p q) (plQ K p q) N = some (N, l) by unfold plS; rw [hs]; rfl)]
      simp only [plA]
      by_cases hi : i = -1
      · rw [if_pos hi, E_Mo_plan_121, if_pos hi, if_pos hi]
      · rw [if_neg hi, n2, Mo_in sc _ h1 i (by omega), zBi_some, bI_c, if_neg hi]
        cases hb : isI i (2 * N) with
        | false => rw [cond_false, E_Mo_plan_121, if_neg hi, if_neg (by decide)]
        | true =>
          obtain ⟨k, hk, rfl⟩ := isI_of (by omega) hb
          have hl := (srch_len hs).2
          have hll := (srch_len hs).1
          have hk2 : k / 2 < N := by omega
          have hm := List.getElem_mem (l := l) (n := k / 2) (by omega)
          have hgd : l.getD (k / 2) 0 = l[k / 2]'(by omega) := by simp [List.getD, hll, hk2]
          rw [← hgd] at hm
          have h12 := (hl _ hm).1
          rw [cond_true, (d2 (by omega)).2, (d2 (by omega)).1, if_pos (zin_nI (by omega) (by decide)), nI_clamp (by omega), nI_clamp (by omega), r3 _ hk2, d6 h12, if_pos rfl]
          by_cases ho : k % 2 = 1
          · rw [if_pos (by rw [ho]; rfl), if_pos ho]
          · rw [if_neg (show ¬ nI (k % 2) = 1 from fun z => ho ((nI_eq (b := 1) (by omega) (by decide)).mp z)), if_neg ho]
            by_cases h6 : l.getD (k / 2) 0 < 6
            · rw [if_pos (iL (m := 6) (n := 6) rfl h6 (by decide)), if_pos h6]
            · rw [if_neg (iG (m := 6) (n := 6) rfl (by omega) (by omega)), if_neg h6]
def plV (T : TT) (K : KK) (p q : Nat) (i : Int32) : Int32 := plA p q i (fsR (plS T (plG K p q) (plQ K p q)) 7 0)
theorem Mo_plan (sc : zSc) (c : Nat) (h : zHp) {T : TT} {K : KK} (O : TOK T) (D : MoT h T) (C : MoC h T) (R : MoK h T K) (kk : KOK T K) {p q : Nat} (hp : p < T.P) (hq : q < T.P) (hn : p ≠ q) (i : Int32) : ∃ h', zRun sc (c + 4) 179 [.ref 46, .int (nI p), .int (nI q), .int i] zGL h = some (some (.int (plV T K p q i)), zGL, h') ∧ pFr h h' := by
  have hP5 := O.2.1
  have h5 := v5' (show p < 5 by omega) (show q < 5 by omega)
  have h5' := v5' (show q < 5 by omega) (show p < 5 by omega)
  have ht : twoB T (nI p) (nI q) = true := by
    unfold twoB
    rw [isI_n (by omega) hp, isI_n (by omega) hq]
    simp only [Bool.and_self, Bool.true_and, decide_eq_true_eq]
    exact fun z => hn ((nI_eq (by omega) (by omega)).mp z)
  rw [E_Mo_plan, Mo_areTwo sc (c + 1) h O D, zBi_some, ht, if_neg (by decide), if_pos (zin_nI (by omega) (by decide)), if_pos (zin_nI (by omega) (by decide)), h5.1, if_pos (zin_nI h5.2 (by decide)), h5'.1, if_pos (zin_nI h5'.2 (by decide)), nI_clamp (by omega), nI_clamp (by omega), nI_clamp (by omega), nI_clamp (by omega)]
  have f1 : pFr h (zPL (zPL (zPI (zPI h 61 0 (h.1 51 p)) 62 0 ((zPI h 61 0 (h.1 51 p)).1 51 q)) 63 0 ((zPI (zPI h 61 0 (h.1 51 p)) 62 0 ((zPI h 61 0 (h.1 51 p)).1 51 q)).2.1 53 (5 * p + q))) 64 0 ((zPL (zPI (zPI h 61 0 (h.1 51 p)) 62 0 ((zPI h 61 0 (h.1 51 p)).1 51 q)) 63 0 ((zPI (zPI h 61 0 (h.1 51 p)) 62 0 ((zPI h 61 0 (h.1 51 p)).1 51 q)).2.1 53 (5 * p + q))).2.1 53 (5 * q + p))) := mFr_t (mFr_I (by decide) (by decide)) (mFr_t (mFr_I (by decide) (by decide)) (mFr_t (mFr_L (by decide) (by decide)) (mFr_L (by decide) (by decide))))
  have hL : Lv (zPL (zPL (zPI (zPI h 61 0 (h.1 51 p)) 62 0 ((zPI h 61 0 (h.1 51 p)).1 51 q)) 63 0 ((zPI (zPI h 61 0 (h.1 51 p)) 62 0 ((zPI h 61 0 (h.1 51 p)).1 51 q)).2.1 53 (5 * p + q))) 64 0 ((zPL (zPI (zPI h 61 0 (h.1 51 p)) 62 0 ((zPI h 61 0 (h.1 51 p)).1 51 q)) 63 0 ((zPI (zPI h 61 0 (h.1 51 p)) 62 0 ((zPI h 61 0 (h.1 51 p)).1 51 q)).2.1 53 (5 * p + q))).2.1 53 (5 * q + p))) 0 (plQ K p q) := by
    refine ⟨?_, ?_, ?_, ?_⟩
    · simp [zPL_1, zPI_1, (R.1 p hp).1, plQ]
    · simp [zPL_1, zPI_1, (R.1 q hq).1, plQ]
    · simp [zPL_2, zPI_2, R.2.1 p q hp hq hn, plQ]
    · simp [zPL_2, zPI_2, R.2.1 q p hq hp (Ne.symm hn), plQ]
  obtain ⟨h2, e2, f2⟩ := Mo_plan_l sc c O kk hp hq hn i 7 0 _ rfl (MoT_p f1 D) (MoC_p f1 C) (MoK_p f1 R) hL
  exact ⟨h2, e2, mFr_t f1 f2⟩
/-! the class's planner -/
def off (b : Bool) : Nat := bif b then 0 else 6
def mkQ (b : Bool) (mi yo : Nat) (mS yS : Nat → Bool) : PQ := bif b then (mi, yo, mS, yS) else (yo, mi, yS, mS)
theorem off_m {b : Bool} {f : Nat} (hf : f < 6) : (off b + f) % 6 = f := by
  cases b
  · show (6 + f) % 6 = f; omega
  · show (0 + f) % 6 = f; omega
theorem vld_o {T : TT} {b : Bool} {f mi yo : Nat} {mS yS : Nat → Bool} (hf : f < 6) : vld T (off b + f) (mkQ b mi yo mS yS) = (decide (f < T.F) && (mi.testBit f && (sureN mS T.F).testBit f)) := by
  unfold vld
  rw [off_m hf]
  cases b
  · rw [if_neg (show ¬ off false + f < 6 from (by show ¬ 6 + f < 6; omega))]; rfl
  · rw [if_pos (show off true + f < 6 from (by show 0 + f < 6; omega))]; rfl
theorem nxt_o {T : TT} {b : Bool} {f mi yo : Nat} {mS yS : Nat → Bool} (hf : f < 6) : nxt T (off b + f) (mkQ b mi yo mS yS) = mkQ b mi (clN T.fo (yo ||| 2 ^ f) T.F) (imgN T.fo (thB mS f (yo.testBit f)) f T.F) (thB yS f true) := by
  cases b
  · rw [nxt_b (show ¬ off false + f < 6 from (by show ¬ 6 + f < 6; omega)), off_m hf]; rfl
  · rw [nxt_a (show off true + f < 6 from (by show 0 + f < 6; omega)), off_m hf]; rfl
def PlC (h : zHp) (N G : Nat) (T : TT) (p q t : Nat) : Prop := h.1 16 7 = nI N ∧ h.1 16 5 = nI G ∧ h.1 16 6 = nI (anN G (jN (folB T) T.F)) ∧ h.2.2 16 2 = some t ∧ h.1 16 3 = nI p ∧ h.1 16 4 = nI q ∧ TnS h t T
theorem tw_15 {t : Nat} (h : zTw t = true) : t + 6 ≤ 15 := by
  unfold zTw at h
  rw [Bool.or_eq_true, beq_iff_eq, beq_iff_eq] at h
  omega
theorem PlC_f {h h' : zHp} {N G : Nat} {T : TT} {p q t : Nat} (ht : zTw t = true) (f : zFr 17 19 h h') (C : PlC h N G T p q t) : PlC h' N G T p q t := by
  have := tw_15 ht
  have f0 := f 16 (by omega)
  unfold PlC at C ⊢
  rw [f0.1, f0.2.2]
  exact ⟨C.1, C.2.1, C.2.2.1, C.2.2.2.1, C.2.2.2.2.1, C.2.2.2.2.2.1, TnS_fr f (by omega) C.2.2.2.2.2.2⟩
def plR (p q dp n : Nat) (x : Option zRs) (h : zHp) : Option (List Nat) → Prop
  | some l => ∃ h', x = some (some (.int 1), zGL, h') ∧ zFr 17 19 h h' ∧ (∀ i, i < dp → h'.1 17 i = h.1 17 i ∧ h'.1 18 i = h.1 18 i) ∧ ∀ i, i < n → h'.1 17 (dp + i) = nI (if l.getD i 0 < 6 then p else q) ∧ h'.1 18 (dp + i) = nI (l.getD i 0 % 6)
  | none => ∃ h', x = some (some (.int 0), zGL, h') ∧ zFr 17 19 h h' ∧ ∀ i, i < dp → h'.1 17 i = h.1 17 i ∧ h'.1 18 i = h.1 18 i
theorem plR_h {p q dp n : Nat} {x y : Option zRs} {h h1 : zHp} (e : x = y) (f : zFr 17 19 h h1) (hl : ∀ i, i < dp → h1.1 17 i = h.1 17 i ∧ h1.1 18 i = h.1 18 i) : ∀ {o : Option (List Nat)}, plR p q dp n y h1 o → plR p q dp n x h o
  | some l, r => by
    obtain ⟨h', r1, r2, r3, r4⟩ := r
    exact ⟨h', e.trans r1, zFr_t f r2, fun i hi => ⟨(r3 i hi).1.trans (hl i hi).1, (r3 i hi).2.trans (hl i hi).2⟩, r4⟩
  | none, r => by
    obtain ⟨h', r1, r2, r3⟩ := r
    exact ⟨h', e.trans r1, zFr_t f r2, fun i hi => ⟨(r3 i hi).1.trans (hl i hi).1, (r3 i hi).2.trans (hl i hi).2⟩⟩
theorem bI_k (b : Bool) (A B : Option zRs) (k : Int32 → zHp → Option zRs) : (if bI b = 0 then zBi A zGL k else zBi B zGL k) = zBi (bif b then B else A) zGL k := by cases b <;> rfl
theorem fsR_F {T : TT} {b : Bool} {mi yo : Nat} {mS yS : Nat → Bool} (O : TOK T) (w : Nat → Option (List Nat)) : fsR (fun o => if vld T o (mkQ b mi yo mS yS) then w o else none) 6 (off b) = fsR (fun o => if vld T o (mkQ b mi yo mS yS) then w o else none) T.F (off b) := by
  have hF6 := O.1
  obtain ⟨r, hr⟩ : ∃ r, T.F + r = 6 := ⟨6 - T.F, by omega⟩
  rw [← hr, fsR_add]
  cases fsR (fun o => if vld T o (mkQ b mi yo mS yS) then w o else none) T.F (off b) with
  | some x => rfl
  | none =>
    refine fsR_none (fun i hi => ?_)
    rw [show off b + T.F + i = off b + (T.F + i) by omega, vld_o (show T.F + i < 6 by omega)]
    simp [show ¬ T.F + i < T.F by omega]
theorem Pl_search (sc : zSc) (c N G p q t : Nat) {T : TT} (O : TOK T) (hN : N ≤ 6) (hG : G < 64) (ht : zTw t = true) (hp : p < 5) (hq : q < 5) : ∀ n dp Q h, dp + n = N → PQok T Q → PlC h N G T p q t → plR p q dp n (zRun sc (c + 2 * n + 3) 94 [.ref 16, .int (nI dp), .int (nI Q.1), .int (nI Q.2.1), .long (jF Q.2.2.1), .long (jF Q.2.2.2)] zGL h) h (srch T G n Q) := by
  have hF6 := O.1
  have hp64 := p2_le hF6
  have qt : zS6 zGL t := zTw_6 ht
  have hW : anN G (jN (folB T) T.F) < 64 := anN_lt (F := 6) hG (Nat.le_refl 6)
  intro n
  induction n with
  | zero =>
    intro dp Q h hd qk C
    have q1 := qk.1
    have q2 := qk.2.1
    have hand : Q.1 &&& Q.2.1 ≤ Q.1 := Nat.and_le_left
    have hand2 : Q.1 &&& Q.2.1 &&& G ≤ G := Nat.and_le_right
    show plR p q dp 0 (zRun sc (c + 3) 94 _ zGL h) h _
    rw [E_Pl_search, C.1, if_neg (nI_nlt (by omega) (by omega)), E_Pl_search_14, C.2.1, nI_and, nI_and, srch]
    cases hb : subN G (Q.1 &&& Q.2.1) 6 with
    | true =>
      rw [if_pos (by rw [(subN_and hG).mp hb]), if_pos rfl]
      exact ⟨h, rfl, zFr_r _ _ h, fun _ _ => ⟨rfl, rfl⟩, fun i hi => absurd hi (Nat.not_lt_zero i)⟩
    | false =>
      rw [if_neg (fun z => by have := (subN_and hG).mpr ((nI_eq (by omega) (by omega)).mp z); rw [hb] at this; cases this), if_neg (by decide)]
      exact ⟨h, rfl, zFr_r _ _ h, fun _ _ => ⟨rfl, rfl⟩⟩
  | succ n ih =>
    intro dp Q h hd qk C
    have froms : ∀ (b : Bool) (mi yo : Nat) (mS yS : Nat → Bool) (h : zHp), PQok T (mkQ b mi yo mS yS) → mi < 2 ^ T.F → yo < 2 ^ T.F → PlC h N G T p q t → plR p q dp (n + 1) (zRun sc (c + 2 * n + 4) 97 [.ref 16, .int (nI dp), .int (bI b), .int (nI mi), .int (nI yo), .long (jF mS), .long (jF yS)] zGL h) h (fsR (fun o => if vld T o (mkQ b mi yo mS yS) then (srch T G n (nxt T o (mkQ b mi yo mS yS))).map (fun l => o :: l) else none) 6 (off b)) := by
      intro b mi yo mS yS h qm hmi hyo C
      have hand : mi &&& sureN mS T.F ≤ mi := Nat.and_le_left
      rw [fsR_F O, E_Pl_searchFrom, C.2.2.2.1, zOT_some ht, C.2.2.2.2.2.2.1.1, Fa_inNone sc (c + 2 * n + 2) zGL h mS hF6, zBi_some, nI_and]
      have loop : ∀ m f h, f + m = T.F → PlC h N G T p q t → plR p q dp (n + 1) (zE sc (c + 2 * n + 4) 97 19 [some (.ref 16), some (.int (nI dp)), some (.int (bI b)), some (.int (nI mi)), some (.int (nI yo)), some (.long (jF mS)), none, some (.long (jF yS)), none, some (.int (nI (mi &&& sureN mS T.F))), some (.int (nI f)), none, none, none, none, none, none] [] zGL h) h (fsR (fun o => if vld T o (mkQ b mi yo mS yS) then (srch T G n (nxt T o (mkQ b mi yo mS yS))).map (fun l => o :: l) else none) m (off b + f)) := by
        intro m
        induction m with
        | zero =>
          intro f h hf C
          rw [E_Pl_searchFrom_19, C.2.2.2.1, zOT_some ht, C.2.2.2.2.2.2.1.1, if_neg (nI_nlt (by omega) (by omega))]
          exact ⟨h, rfl, zFr_r _ _ h, fun _ _ => ⟨rfl, rfl⟩⟩
        | succ m ihm =>
          intro f h hf C
          have hfF : f < T.F := by omega
          have hf6 : f < 6 := by omega
          have hv : vld T (off b + f) (mkQ b mi yo mS yS) = (mi &&& sureN mS T.F).testBit f := by
            rw [vld_o hf6, Nat.testBit_and]
            simp [hfF]
          rw [fsR, E_Pl_searchFrom_19, C.2.2.2.1, zOT_some ht, C.2.2.2.2.2.2.1.1, if_pos (nI_lt hfF (by omega)), X_hasB sc _ zGL h (by omega) (by omega), zBi_some, bI_c, ← hv]
          cases hvv : vld T (off b + f) (mkQ b mi yo mS yS) with
          | false =>
            simp only [if_neg Bool.false_ne_true]
            rw [cond_false, nI_1, show off b + f + 1 = off b + (f + 1) by omega]
            exact ihm (f + 1) h (by omega) C
          | true =>
            simp only [if_true]
            rw [cond_true, bI_c, C.2.2.2.2.1, C.2.2.2.2.2.1]
            have hs0 : (bif b then zE sc (c + 2 * n + 3 + 1) 97 64 [some (.ref 16), some (.int (nI dp)), some (.int (bI b)), some (.int (nI mi)), some (.int (nI yo)), some (.long (jF mS)), none, some (.long (jF yS)), none, some (.int (nI (mi &&& sureN mS T.F))), some (.int (nI f)), none, none, none, none, none, none] [.int (nI p), .int (nI dp), .ref 17] zGL h else zE sc (c + 2 * n + 3 + 1) 97 64 [some (.ref 16), some (.int (nI dp)), some (.int (bI b)), some (.int (nI mi)), some (.int (nI yo)), some (.long (jF mS)), none, some (.long (jF yS)), none, some (.int (nI (mi &&& sureN mS T.F))), some (.int (nI f)), none, none, none, none, none, none] [.int (nI q), .int (nI dp), .ref 17] zGL h) = zE sc (c + 2 * n + 3 + 1) 97 64 [some (.ref 16), some (.int (nI dp)), some (.int (bI b)), some (.int (nI mi)), some (.int (nI yo)), some (.long (jF mS)), none, some (.long (jF yS)), none, some (.int (nI (mi &&& sureN mS T.F))), some (.int (nI f)), none, none, none, none, none, none] [.int (nI (bif b then p else q)), .int (nI dp), .ref 17] zGL h := by cases b <;> rfl
            rw [hs0]
            have f1 : zFr 17 19 h (zPI (zPI h 17 dp (nI (bif b then p else q))) 18 dp (nI f)) := zFr_t (zFr_I (by omega) (by omega)) (zFr_I (by omega) (by omega))
            have g1 : ∀ i, i < dp → (zPI (zPI h 17 dp (nI (bif b then p else q))) 18 dp (nI f)).1 17 i = h.1 17 i ∧ (zPI (zPI h 17 dp (nI (bif b then p else q))) 18 dp (nI f)).1 18 i = h.1 18 i := by
              intro i hi
              constructor
              · rw [zPI_1, if_neg (by omega), zPI_1, if_neg (by omega)]
              · rw [zPI_1, if_neg (by omega), zPI_1, if_neg (by omega)]
            have g2 : (zPI (zPI h 17 dp (nI (bif b then p else q))) 18 dp (nI f)).1 17 dp = nI (bif b then p else q) ∧ (zPI (zPI h 17 dp (nI (bif b then p else q))) 18 dp (nI f)).1 18 dp = nI f := by
              constructor
              · rw [zPI_1, if_neg (by omega), zPI_1, if_pos ⟨rfl, rfl⟩]
              · rw [zPI_1, if_pos ⟨rfl, rfl⟩]
            have C1 := PlC_f ht f1 C
            rw [E_Pl_searchFrom_64, if_pos (zin_nI (by omega) (by decide)), if_pos (zin_nI (by omega) (by decide)), nI_clamp (by omega)]
            generalize zPI (zPI h 17 dp (nI (bif b then p else q))) 18 dp (nI f) = h1 at f1 g1 g2 C1 ⊢
            have hh : zRun sc (c + 2 * n + 3) 79 [.ref t, .long (jF mS), .int (nI f), .int (bI (yo.testBit f))] zGL h1 = some (some (.long (jF (imgN T.fo (thB mS f (yo.testBit f)) f T.F))), zGL, h1) := Tn_heard sc (c + 2 * n) zGL h1 qt O C1.2.2.2.2.2.2 mS hf6 _
            have hg : zRun sc (c + 2 * n + 3) 12 [.long (jF yS), .int (nI f)] zGL h1 = some (some (.long (jF (thB yS f true))), zGL, h1) := by
              rw [Fa_having sc _ zGL h1 yS hf6]
              congr 4
              apply jF_ext
              intro s _
              unfold thB
              cases s.testBit f <;> rfl
            have hor := or_ltF hyo hfF
            rw [C1.2.2.2.1, zOT_some ht, nI_shl1 (by omega), nI_or, Tn_closure sc _ zGL h1 qt O C1.2.2.2.2.2.2.1 (by omega), zBi_some, C1.2.2.2.1, zOT_some ht, X_hasB sc _ zGL h1 (by omega) (by omega), zBi_some, hh, zBj_some, hg, zBj_some, bI_k, nI_1]
            have r := ih (dp + 1) _ h1 (by omega) (nxt_ok hvv qm) C1
            rw [nxt_o hf6] at r
            rw [nxt_o hf6]
            have hX : (bif b then zRun sc (c + 2 * n + 3) 94 [.ref 16, .int (nI (dp + 1)), .int (nI mi), .int (nI (clN T.fo (yo ||| 2 ^ f) T.F)), .long (jF (imgN T.fo (thB mS f (yo.testBit f)) f T.F)), .long (jF (thB yS f true))] zGL h1 else zRun sc (c + 2 * n + 3) 94 [.ref 16, .int (nI (dp + 1)), .int (nI (clN T.fo (yo ||| 2 ^ f) T.F)), .int (nI mi), .long (jF (thB yS f true)), .long (jF (imgN T.fo (thB mS f (yo.testBit f)) f T.F))] zGL h1) = zRun sc (c + 2 * n + 3) 94 [.ref 16, .int (nI (dp + 1)), .int (nI (mkQ b mi (clN T.fo (yo ||| 2 ^ f) T.F) (imgN T.fo (thB mS f (yo.testBit f)) f T.F) (thB yS f true)).1), .int (nI (mkQ b mi (clN T.fo (yo ||| 2 ^ f) T.F) (imgN T.fo (thB mS f (yo.testBit f)) f T.F) (thB yS f true)).2.1), .long (jF (mkQ b mi (clN T.fo (yo ||| 2 ^ f) T.F) (imgN T.fo (thB mS f (yo.testBit f)) f T.F) (thB yS f true)).2.2.1), .long (jF (mkQ b mi (clN T.fo (yo ||| 2 ^ f) T.F) (imgN T.fo (thB mS f (yo.testBit f)) f T.F) (thB yS f true)).2.2.2)] zGL h1 := by cases b <;> rfl
            rw [hX]
            cases hs : srch T G n (mkQ b mi (clN T.fo (yo ||| 2 ^ f) T.F) (imgN T.fo (thB mS f (yo.testBit f)) f T.F) (thB yS f true)) with
            | some l =>
              rw [hs] at r
              obtain ⟨h', r1, r2, r3, r4⟩ := r
              refine ⟨h', ?_, zFr_t f1 r2, fun i hi => ?_, fun i hi => ?_⟩
              · rw [r1, zBi_some, E_Pl_searchFrom_153, if_neg (by decide)]
              · exact ⟨(r3 i (by omega)).1.trans (g1 i hi).1, (r3 i (by omega)).2.trans (g1 i hi).2⟩
              · cases i with
                | zero =>
                  rw [Nat.add_zero, (r3 dp (by omega)).1, (r3 dp (by omega)).2, g2.1, g2.2]
                  show nI (bif b then p else q) = nI (if off b + f < 6 then p else q) ∧ nI f = nI ((off b + f) % 6)
                  rw [off_m hf6]
                  refine ⟨?_, rfl⟩
                  cases b
                  · rw [if_neg (show ¬ off false + f < 6 from (by show ¬ 6 + f < 6; omega))]; rfl
                  · rw [if_pos (show off true + f < 6 from (by show 0 + f < 6; omega))]; rfl
                | succ i =>
                  rw [show dp + (i + 1) = dp + 1 + i by omega]
                  exact r4 i (by omega)
            | none =>
              rw [hs] at r
              obtain ⟨h', r1, r2, r3⟩ := r
              refine plR_h ?_ (zFr_t f1 r2) (fun i hi => ⟨(r3 i (by omega)).1.trans (g1 i hi).1, (r3 i (by omega)).2.trans (g1 i hi).2⟩) (ihm (f + 1) h' (by omega) (PlC_f ht r2 C1))
              rw [r1, zBi_some, E_Pl_searchFrom_153, if_pos rfl, nI_1]
      exact loop T.F 0 h (by omega) C
    have q1 := qk.1
    have q2 := qk.2.1
    have a1 := anN_lt (F := 6) (b := Q.1) hW (Nat.le_refl 6)
    have a2 := anN_lt (F := 6) (b := Q.2.1) hW (Nat.le_refl 6)
    have b1 : pN (anN (anN G (jN (folB T) T.F)) Q.1) 6 ≤ 6 := cN_le _ 6
    have b2 : pN (anN (anN G (jN (folB T) T.F)) Q.2.1) 6 ≤ 6 := cN_le _ 6
    have e95 : zRun sc (c + 2 * n + 4) 95 [.ref 16, .int (nI Q.1), .int (nI Q.2.1)] zGL h = some (some (.int (nI (fewN T G Q))), zGL, h) := by
      have j1 : nI (anN G (jN (folB T) T.F)) &&& (nI Q.1 ^^^ (-1)) = nI (anN (anN G (jN (folB T) T.F)) Q.1) := nI_andn (by omega) (by omega)
      have j2 : nI (anN G (jN (folB T) T.F)) &&& (nI Q.2.1 ^^^ (-1)) = nI (anN (anN G (jN (folB T) T.F)) Q.2.1) := nI_andn (by omega) (by omega)
      rw [E_Pl_fewestToCome, C.2.2.1, j1, JI_bc sc _ zGL h a1, zBi_some, C.2.2.1, j2, JI_bc sc _ zGL h a2, zBi_some, nI_add]
      rfl
    show plR p q dp (n + 1) (zRun sc (c + 2 * n + 5) 94 _ zGL h) h _
    rw [E_Pl_search, C.1, if_pos (nI_lt (by omega) (by omega)), if_pos (iL (m := 6) (n := 6) rfl (by omega) (by decide)), e95, zBi_some, C.1, nI_add]
    by_cases hfw : N < dp + fewN T G Q
    · rw [if_pos (nI_lt hfw (by unfold fewN; omega))]
      cases hs : srch T G (n + 1) Q with
      | some l => have := srch_few hG hs; omega
      | none => exact ⟨h, rfl, zFr_r _ _ h, fun _ _ => ⟨rfl, rfl⟩⟩
    · rw [if_neg (nI_nlt (by omega) (by omega)), srch, show (12 : Nat) = 6 + 6 from rfl, fsR_add]
      have r1 := froms true Q.1 Q.2.1 Q.2.2.1 Q.2.2.2 h qk q1 q2 C
      rw [show mkQ true Q.1 Q.2.1 Q.2.2.1 Q.2.2.2 = Q from rfl, show off true = 0 from rfl, show bI true = (1 : Int32) from rfl] at r1
      cases hs : fsR (fun o => if vld T o Q then (srch T G n (nxt T o Q)).map (fun l => o :: l) else none) 6 0 with
      | some l =>
        rw [hs] at r1
        obtain ⟨h', r1, r2, r3, r4⟩ := r1
        exact ⟨h', by rw [r1, zBi_some, if_neg (by decide)], r2, r3, r4⟩
      | none =>
        rw [hs] at r1
        obtain ⟨h', r1, r2, r3⟩ := r1
        have s1 := froms false Q.2.1 Q.1 Q.2.2.2 Q.2.2.1 h' qk q2 q1 (PlC_f ht r2 C)
        rw [show mkQ false Q.2.1 Q.1 Q.2.2.2 Q.2.2.1 = Q from rfl, show off false = 6 from rfl, show bI false = (0 : Int32) from rfl] at s1
        rw [r1, zBi_some, if_pos rfl, Nat.zero_add]
        simp only []
        cases hs2 : fsR (fun o => if vld T o Q then (srch T G n (nxt T o Q)).map (fun l => o :: l) else none) 6 6 with
        | some l =>
          rw [hs2] at s1
          obtain ⟨h2, s1, s2, s3, s4⟩ := s1
          exact ⟨h2, by rw [s1, zBi_some, if_neg (by decide)], zFr_t r2 s2, fun i hi => ⟨(s3 i hi).1.trans (r3 i hi).1, (s3 i hi).2.trans (r3 i hi).2⟩, s4⟩
        | none =>
          rw [hs2] at s1
          obtain ⟨h2, s1, s2, s3⟩ := s1
          exact ⟨h2, by rw [s1, zBi_some, if_pos rfl], zFr_t r2 s2, fun i hi => ⟨(s3 i hi).1.trans (r3 i hi).1, (s3 i hi).2.trans (r3 i hi).2⟩⟩
