/-! ===== the reference: frames; closed sets; the first morning ===== -/
def mFr (a b : List Nat) (h h' : zHp) : Prop := (∀ x, x ≠ 46 → x ∉ a → h'.1 x = h.1 x ∧ h'.2.1 x = h.2.1 x) ∧ (∀ k, k ∉ b → h'.1 46 k = h.1 46 k ∧ h'.2.1 46 k = h.2.1 46 k) ∧ h'.2.2 = h.2.2
theorem mFr_r (a b : List Nat) (h : zHp) : mFr a b h h := ⟨fun _ _ _ => ⟨rfl, rfl⟩, fun _ _ => ⟨rfl, rfl⟩, rfl⟩
theorem mFr_t {a b : List Nat} {x y z : zHp} (h1 : mFr a b x y) (h2 : mFr a b y z) : mFr a b x z := ⟨fun u hu hv => ⟨(h2.1 u hu hv).1.trans (h1.1 u hu hv).1, (h2.1 u hu hv).2.trans (h1.1 u hu hv).2⟩, fun k hk => ⟨(h2.2.1 k hk).1.trans (h1.2.1 k hk).1, (h2.2.1 k hk).2.trans (h1.2.1 k hk).2⟩, h2.2.2.trans h1.2.2⟩
theorem mFr_w {a b a' b' : List Nat} {x y : zHp} (h1 : mFr a b x y) (ha : ∀ u, u ∈ a → u ∈ a') (hb : ∀ u, u ∈ b → u ∈ b') : mFr a' b' x y := ⟨fun u hu hv => h1.1 u hu (fun z => hv (ha u z)), fun k hk => h1.2.1 k (fun z => hk (hb k z)), h1.2.2⟩
theorem mFr_I {a b : List Nat} {h : zHp} {c k : Nat} {v : Int32} (hc : c ∈ a) (hn : c ≠ 46) : mFr a b h (zPI h c k v) := ⟨fun x _ hx => ⟨funext fun y => if_neg (fun z => hx (by rw [z.1]; exact hc)), rfl⟩, fun j _ => ⟨if_neg (fun z => hn z.1.symm), rfl⟩, rfl⟩
theorem mFr_L {a b : List Nat} {h : zHp} {c k : Nat} {v : Int64} (hc : c ∈ a) (hn : c ≠ 46) : mFr a b h (zPL h c k v) := ⟨fun x _ hx => ⟨rfl, funext fun y => if_neg (fun z => hx (by rw [z.1]; exact hc))⟩, fun j _ => ⟨rfl, if_neg (fun z => hn z.1.symm)⟩, rfl⟩
theorem mFr_f {a b : List Nat} {h : zHp} {k : Nat} {v : Int32} (hk : k ∈ b) : mFr a b h (zPI h 46 k v) := ⟨fun x hn _ => ⟨funext fun y => if_neg (fun z => hn z.1), rfl⟩, fun j hj => ⟨if_neg (fun z => hj (by rw [z.2]; exact hk)), rfl⟩, rfl⟩
theorem mFr_g {a b : List Nat} {h : zHp} {k : Nat} {v : Int64} (hk : k ∈ b) : mFr a b h (zPL h 46 k v) := ⟨fun x hn _ => ⟨rfl, funext fun y => if_neg (fun z => hn z.1)⟩, fun j hj => ⟨rfl, if_neg (fun z => hj (by rw [z.2]; exact hk))⟩, rfl⟩
def kFr (h h' : zHp) : Prop := mFr [51, 52, 53, 54, 55, 60] [12, 14] h h'
theorem MoT_m {a b : List Nat} {h h' : zHp} {T : TT} (f : mFr a b h h') (ha : 47 ∉ a ∧ 48 ∉ a) (hb : 0 ∉ b ∧ 3 ∉ b ∧ 5 ∉ b) (D : MoT h T) : MoT h' T := by
  unfold MoT at D ⊢
  rw [(f.2.1 0 hb.1).1, (f.2.1 3 hb.2.1).1, (f.2.1 5 hb.2.2).1, (f.1 47 (by decide) ha.1).1, (f.1 48 (by decide) ha.2).1]
  exact D
theorem MoC_m {a b : List Nat} {h h' : zHp} {T : TT} (f : mFr a b h h') (ha : 50 ∉ a) (hb : 7 ∉ b) (D : MoC h T) : MoC h' T := by
  unfold MoC at D ⊢
  rw [(f.2.1 7 hb).2, (f.1 50 (by decide) ha).1]
  exact D
theorem MoT_k {h h' : zHp} {T : TT} (f : kFr h h') (D : MoT h T) : MoT h' T := MoT_m f (by decide) (by decide) D
theorem MoC_k {h h' : zHp} {T : TT} (f : kFr h h') (D : MoC h T) : MoC h' T := MoC_m f (by decide) (by decide) D
theorem zPL_self (h : zHp) (a k : Nat) : zPL h a k (h.2.1 a k) = h := by
  unfold zPL
  have : (fun x y => if x = a ∧ y = k then h.2.1 a k else h.2.1 x y) = h.2.1 := by
    funext x y
    split
    · rename_i hx; rw [hx.1, hx.2]
    · rfl
  rw [this]
theorem zPI_self (h : zHp) (a k : Nat) : zPI h a k (h.1 a k) = h := by
  unfold zPI
  have : (fun x y => if x = a ∧ y = k then h.1 a k else h.1 x y) = h.1 := by
    funext x y
    split
    · rename_i hx; rw [hx.1, hx.2]
    · rfl
  rw [this]
theorem Mo_plainLack (sc : zSc) (d : Nat) (h : zHp) {T : TT} {K : KK} (O : TOK T) (D : MoT h T) (C : MoC h T) (R : MoK h T K) (kk : KOK T K) {p : Nat} (hp : p < T.P) : zRun sc (d + 3) 152 [.ref 46, .int (nI p)] zGL h = some (some (.int (nI (sureN (weB T (K.ht p)) T.F))), zGL, h) := by
  have hP := O.2.1
  have h1 := (kk.1 p hp).2.1
  have h2 := O.2.2.2.1
  rw [E_Mo_plainLack, if_pos (zin_nI (by omega) (by decide)), nI_clamp (by omega), (R.1 p hp).2.1, Mo_withHat sc d h O D C, zBj_some, whB_we O (by omega), Mo_inNone sc _ h O D (weB_in T _), zBi_some]
  unfold sureN
  rw [(kk.1 p hp).2.2]
  rfl
theorem disN_iff {a s : Nat} : ∀ {k : Nat}, disN a s k = true ↔ ∀ f, f < k → ¬ (a.testBit f = true ∧ s.testBit f = true)
  | 0 => by simp [disN]
  | k + 1 => by
    unfold disN
    rw [Bool.and_eq_true, disN_iff]
    constructor
    · rintro ⟨h1, h2⟩ f hf ha
      by_cases hk : f = k
      · subst hk
        simp [ha] at h2
      · exact h1 f (by omega) ha
    · intro h
      refine ⟨fun f hf => h f (by omega), ?_⟩
      have := h k (Nat.lt_succ_self k)
      cases ha : a.testBit k with
      | false => rfl
      | true => cases hs : s.testBit k with
        | false => rfl
        | true => exact absurd ⟨ha, hs⟩ this
theorem disN_and {a s : Nat} (ha : a < 64) : disN a s 6 = true ↔ s &&& a = 0 := by
  rw [disN_iff]
  constructor
  · intro h
    apply Nat.eq_of_testBit_eq
    intro f
    rw [Nat.testBit_and, Nat.zero_testBit]
    cases hb : a.testBit f with
    | false => simp
    | true =>
      cases hs : s.testBit f with
      | false => rfl
      | true => exact absurd ⟨hb, hs⟩ (h f (bit_lt (k := 6) ha hb))
  · intro h f hf hb
    have := Nat.testBit_and s a f
    rw [h, Nat.zero_testBit, hb.1, hb.2] at this
    cases this
theorem Mo_silentNow (sc : zSc) (d : Nat) (h : zHp) {T : TT} {K : KK} (O : TOK T) (D : MoT h T) (C : MoC h T) (R : MoK h T K) (kk : KOK T K) {a b : Nat} (ha : a < T.P) (hb : b < T.P) (hn : a ≠ b) : ∃ h', zRun sc (d + 4) 175 [.ref 46, .int (nI a), .int (nI b)] zGL h = some (some (.int (nI (cN (K.V b a) 64) - nI (cN (silV T K a b) 64))), zGL, h') ∧ MoK h' T (silK T K a b) ∧ kFr h h' := by
  have hP5 := O.2.1
  have hp := p2_le O.1
  have hkb := KOK_kn O kk hb
  have h5 := v5' (show b < 5 by omega) (show a < 5 by omega)
  have hs := sureN_lt (weB T (K.ht b)) O.1
  have hw := silW_lt (K := K) O b
  have iV := KOK_in kk hb ha (Ne.symm hn)
  refine ⟨zPL h 53 (5 * b + a) (jF (silV T K a b)), ?_, ?_, mFr_L (by decide) (by decide)⟩
  · rw [E_Mo_silentNow, Mo_plainLack sc d h O D C R kk hb, zBi_some, if_pos (zin_nI (by omega) (by decide)), h5.1, if_pos (zin_nI h5.2 (by decide)), nI_clamp (by omega), nI_clamp (by omega), (R.1 b hb).1, R.2.1 b a hb ha (Ne.symm hn), nI_andn (by omega) (by omega)]
    have hfold : jN (fun k => (sureN (weB T (K.ht b)) T.F).testBit k && !(K.kn b).testBit k) 31 = silW T K b := rfl
    rw [hfold]
    have h0 : jF (K.V b a) = jF (fun s => K.V b a s && (decide (0 ≤ s) || disN (silW T K b) s 6)) := jF_ext (fun s _ => by simp)
    refine (?_ : _ = _).trans ((zUp (fun k => zE sc (d + 4) 175 34 [some (.ref 46), some (.int (nI a)), some (.int (nI b)), some (.int (nI (silW T K b))), some (.long (jF (K.V b a))), none, some (.long (jF (fun s => K.V b a s && (decide (k ≤ s) || disN (silW T K b) s 6)))), none, some (.int (nI k))] [] zGL h) (2 ^ T.F) (fun k hk => ?_)).trans ?_)
    · rw [← h0]; rfl
    · rw [E_Mo_silentNow_34, D.1, sh_F O.1, if_pos (nI_lt hk (by omega)), nI_and, nI_1]
      have hst : ∀ s, s ≠ k → decide (k + 1 ≤ s) = decide (k ≤ s) := fun s hs => by apply decide_eq_decide.mpr; omega
      have hle : k &&& silW T K b ≤ silW T K b := Nat.and_le_right
      by_cases hz : k &&& silW T K b = 0
      · rw [if_pos (by rw [hz]; rfl), j_andm, jF_ext (A := fun s => K.V b a s && (decide (k + 1 ≤ s) || disN (silW T K b) s 6)) (B := fun s => K.V b a s && (decide (k ≤ s) || disN (silW T K b) s 6))]
        intro s _
        by_cases hsk : s = k
        · subst hsk; simp [(disN_and hw).mpr hz]
        · rw [hst s hsk]
      · rw [if_neg (nI_ne0 (by omega) (by omega)), jF_bit1 (by omega), jF_not, jF_and, jF_ext (A := fun s => K.V b a s && (decide (k + 1 ≤ s) || disN (silW T K b) s 6)) (B := fun s => (K.V b a s && (decide (k ≤ s) || disN (silW T K b) s 6)) && !(s == k))]
        intro s _
        by_cases hsk : s = k
        · subst hsk
          have : disN (silW T K b) s 6 = false := by
            cases hb : disN (silW T K b) s 6 with
            | false => rfl
            | true => exact absurd ((disN_and hw).mp hb) hz
          have h1 : ¬ (s + 1 ≤ s) := by omega
          simp [this]
        · rw [hst s hsk]
          simp [hsk]
    · have hlast : jF (fun s => K.V b a s && (decide (2 ^ T.F ≤ s) || disN (silW T K b) s 6)) = jF (silV T K a b) := by
        apply jF_ext
        intro s _
        unfold silV
        by_cases hs2 : 2 ^ T.F ≤ s
        · rw [inF_f iV hs2]; rfl
        · simp [hs2]
      rw [E_Mo_silentNow_34, D.1, sh_F O.1, if_neg (nI_nlt (Nat.le_refl _) (by omega)), h5.1, if_pos (zin_nI h5.2 (by decide)), hlast, Mo_bits, zBi_some, Mo_bits, zBi_some, nI_clamp (by omega)]
  · refine ⟨R.1, ?_, R.2.2⟩
    intro p q hp hq hpq
    rw [zPL_2]
    by_cases hc : p = b ∧ q = a
    · rw [if_pos ⟨rfl, by rw [hc.1, hc.2]⟩]
      show _ = jF (if p = b ∧ q = a then _ else _)
      rw [if_pos hc]
    · rw [if_neg (by omega), R.2.1 p q hp hq hpq]
      show _ = jF (if p = b ∧ q = a then _ else _)
      rw [if_neg hc]
theorem n5' (L : Nat) : 5 * nI L = nI (5 * L) := by rw [show (5 : Int32) = nI 5 from rfl, nI_mul]
theorem Mo_couldKnow_l (sc : zSc) (d : Nat) (h : zHp) {T : TT} {K : KK} (O : TOK T) (D : MoT h T) (C : MoC h T) (R : MoK h T K) (kk : KOK T K) {q : Nat} (hq : q < T.P) : ∀ n i s, i + n = K.L → s < 2 ^ T.F → zE sc (d + 1) 186 5 [some (.ref 46), some (.int (nI q)), none, some (.int (nI s)), some (.int (nI i)), none, none] [] zGL h = some (some (.int (bI (fitN T K.lg q n i s))), zGL, h) := by
  have hF6 := O.1
  have hp := p2_le O.1
  have hP5 := O.2.1
  have hL6 := kk.2.2.1
  intro n
  induction n with
  | zero =>
    intro i s hi hs
    rw [E_Mo_couldKnow_5, R.2.2.2.1, if_neg (nI_nlt (by omega) (by omega))]
    rfl
  | succ n ih =>
    intro i s hi hs
    obtain ⟨⟨f, hf, ef⟩, l, hl, el⟩ := kk.2.2.2.1 i (by omega)
    have r0 := R.2.2.1 (5 * i) (by omega)
    have r1 := R.2.2.1 (5 * i + 1) (by omega)
    have r2 := R.2.2.1 (5 * i + 2) (by omega)
    have r3 := R.2.2.1 (5 * i + 3) (by omega)
    have r4 := R.2.2.1 (5 * i + 4) (by omega)
    have hfI : fI K.lg i = f := by unfold fI; rw [ef, nI_clamp (by omega)]
    have hlI : lI K.lg i = l := by unfold lI; rw [el, nI_clamp (by omega)]
    have hor := or_ltF hs hf
    have s5 : zE sc (d + 1) 186 5 [some (.ref 46), some (.int (nI q)), none, some (.int (nI s)), some (.int (nI i)), none, none] [] zGL h = if K.lg (5 * i) = nI q ∧ s.testBit f = false then some (some (.int 0), zGL, h) else zE sc (d + 1) 186 51 [some (.ref 46), some (.int (nI q)), none, some (.int (nI s)), some (.int (nI i)), some (.int (nI f)), none] [] zGL h := by
      rw [E_Mo_couldKnow_5, R.2.2.2.1, if_pos (nI_lt (by omega) (by omega)), n5', nI_2, if_pos (zin_nI (by omega) (by decide)), if_pos (zin_nI (by omega) (by decide)), nI_clamp (by omega), nI_clamp (by omega), r0, r2, ef, Mo_has sc d h (by omega) (by omega), zBi_some, bI_c]
      by_cases hS : K.lg (5 * i) = nI q
      · rw [if_pos hS]
        cases s.testBit f with
        | false => rw [if_pos ⟨hS, rfl⟩]; rfl
        | true => rw [if_neg (fun z => by cases z.2)]; rfl
      · rw [if_neg hS, if_neg (fun z => hS z.1)]
    have s51 : zE sc (d + 1) 186 51 [some (.ref 46), some (.int (nI q)), none, some (.int (nI s)), some (.int (nI i)), some (.int (nI f)), none] [] zGL h = zE sc (d + 1) 186 71 [some (.ref 46), some (.int (nI q)), none, some (.int (nI s)), some (.int (nI i)), some (.int (nI f)), none] [.int (bI (decide (K.lg (5 * i + 1) = nI q)))] zGL h := by
      rw [E_Mo_couldKnow_51, n5', nI_1, if_pos (zin_nI (by omega) (by decide)), nI_clamp (by omega), r1]
      exact bI_d (fun x => zE sc (d + 1) 186 71 [some (.ref 46), some (.int (nI q)), none, some (.int (nI s)), some (.int (nI i)), some (.int (nI f)), none] [.int x] zGL h)
    have s71 : ∀ hb : Bool, zE sc (d + 1) 186 71 [some (.ref 46), some (.int (nI q)), none, some (.int (nI s)), some (.int (nI i)), some (.int (nI f)), none] [.int (bI hb)] zGL h = if hb = true ∧ s.testBit f ≠ decide (K.lg (5 * i + 4) = 1) then some (some (.int 0), zGL, h) else zE sc (d + 1) 186 109 [some (.ref 46), some (.int (nI q)), none, some (.int (nI s)), some (.int (nI i)), some (.int (nI f)), some (.int (bI hb))] [] zGL h := by
      intro hb
      rw [E_Mo_couldKnow_71, bI_c]
      cases hb with
      | false => rw [cond_false, if_neg (fun z => by cases z.1)]
      | true =>
        rw [cond_true, Mo_has sc d h (by omega) (by omega), zBi_some, n5', nI_4, if_pos (zin_nI (by omega) (by decide)), nI_clamp (by omega), r4, bI_d (fun x => zE sc (d + 1) 186 104 [some (.ref 46), some (.int (nI q)), none, some (.int (nI s)), some (.int (nI i)), some (.int (nI f)), some (.int (bI true))] [.int x, .int (bI (s.testBit f))] zGL h), E_Mo_couldKnow_104]
        by_cases he : s.testBit f = decide (K.lg (5 * i + 4) = 1)
        · rw [if_pos (bI_e.mpr he), if_neg (fun z => z.2 he)]
        · rw [if_neg (fun z => he (bI_e.mp z)), if_pos ⟨rfl, he⟩]
    have s132 : zE sc (d + 1) 186 132 [some (.ref 46), some (.int (nI q)), none, some (.int (nI s)), some (.int (nI i)), some (.int (nI f)), none] [] zGL h = zE sc (d + 1) 186 5 [some (.ref 46), some (.int (nI q)), none, some (.int (nI (clN T.fo (s ||| 2 ^ f) T.F))), some (.int (nI (i + 1))), none, none] [] zGL h := by
      rw [E_Mo_couldKnow_132, nI_shl1 (by omega), nI_or, if_pos (zin_nI (by omega) (by decide)), nI_clamp (by omega), C.1 _ hor, nI_1]
    have s109 : ∀ hb : Bool, zE sc (d + 1) 186 109 [some (.ref 46), some (.int (nI q)), none, some (.int (nI s)), some (.int (nI i)), some (.int (nI f)), some (.int (bI hb))] [] zGL h = zE sc (d + 1) 186 5 [some (.ref 46), some (.int (nI q)), none, some (.int (nI (if hb = true ∨ l.testBit q = true then clN T.fo (s ||| 2 ^ f) T.F else s))), some (.int (nI (i + 1))), none, none] [] zGL h := by
      intro hb
      rw [E_Mo_couldKnow_109, bI_c]
      cases hb with
      | true => rw [cond_true, s132, if_pos (.inl rfl)]
      | false =>
        rw [cond_false, n5', nI_3, if_pos (zin_nI (by omega) (by decide)), nI_clamp (by omega), r3, el, Mo_has sc d h (by omega) (by omega), zBi_some, bI_c]
        cases l.testBit q with
        | false => rw [cond_false, nI_1, if_neg (by decide)]
        | true => rw [cond_true, s132, if_pos (.inr rfl)]
    rw [s5, fitN, hfI, hlI]
    by_cases c1 : K.lg (5 * i) = nI q ∧ s.testBit f = false
    · rw [if_pos c1, if_pos c1]; rfl
    · rw [if_neg c1, if_neg c1, s51, s71]
      by_cases c2 : K.lg (5 * i + 1) = nI q ∧ s.testBit f ≠ decide (K.lg (5 * i + 4) = 1)
      · rw [if_pos ⟨decide_eq_true c2.1, c2.2⟩, if_pos c2]; rfl
      · rw [if_neg (fun z => c2 ⟨of_decide_eq_true z.1, z.2⟩), if_neg c2, s109]
        have hcl := clN_lt (fo := T.fo) hor (Nat.le_refl _)
        by_cases c3 : K.lg (5 * i + 1) = nI q ∨ l.testBit q = true
        · rw [if_pos (c3.imp decide_eq_true id), if_pos c3, ih (i + 1) _ (by omega) hcl]
        · rw [if_neg (fun z => c3 (z.imp of_decide_eq_true id)), if_neg c3, ih (i + 1) _ (by omega) hs]
theorem Mo_couldKnow (sc : zSc) (d : Nat) (h : zHp) {T : TT} {K : KK} (O : TOK T) (D : MoT h T) (C : MoC h T) (R : MoK h T K) (kk : KOK T K) {q : Nat} (hq : q < T.P) {s : Nat} (hs : s < 2 ^ T.F) : zRun sc (d + 1) 186 [.ref 46, .int (nI q), .int (nI s)] zGL h = some (some (.int (bI (fitN T K.lg q K.L 0 s))), zGL, h) := by
  rw [E_Mo_couldKnow]
  exact Mo_couldKnow_l sc d h O D C R kk hq K.L 0 s (by omega) hs
theorem Mo_draw (sc : zSc) (d : Nat) (h : zHp) (hs : ¬ h.1 46 14 < 0) {n : Nat} (h0 : 0 < n) (hn : n < 2 ^ 31) : zRun sc d 193 [.ref 46, .int (nI n)] zGL h = some (some (.int (nI (drM (h.1 46 14) / 65536 % n))), zGL, zPI h 46 14 (nI (drM (h.1 46 14)))) := by
  have := drM_lt (h.1 46 14)
  have h1 : drM (h.1 46 14) / 65536 ≤ drM (h.1 46 14) := Nat.div_le_self _ _
  rw [E_Mo_draw, if_neg (nI_ne0 h0 hn), dr_m hs, zPI_1, if_pos ⟨rfl, rfl⟩, show (65536 : Int32) = nI 65536 from rfl, pk_div (by omega) (by decide) (by decide), pk_rem (by omega) h0 hn]
/-! closed sets -/
theorem an_sub {a s : Nat} (ha : a < 64) : anN a s = 0 ↔ subN a s 6 = true := by
  rw [subN_iff]
  constructor
  · intro h f hf hb
    have := anN_bit (a := a) (b := s) (k := f) ha
    rw [h, Nat.zero_testBit, hb] at this
    simpa using this.symm
  · intro h
    apply Nat.eq_of_testBit_eq
    intro f
    rw [anN_bit ha, Nat.zero_testBit]
    cases hb : a.testBit f with
    | false => rfl
    | true => rw [h f (bit_lt (k := 6) ha hb) hb]; rfl
theorem Mo_pass (sc : zSc) (d : Nat) (h : zHp) {T : TT} (O : TOK T) (D : MoT h T) (v1 v3 : Int32) {s : Nat} (hs : s < 2 ^ T.F) : zE sc d 126 31 [some (.ref 46), some (.int v1), some (.int (nI s)), some (.int v3), some (.int 0)] [] zGL h = zE sc d 126 21 [some (.ref 46), some (.int v1), some (.int (nI (clN T.fo s T.F))), some (.int v3), none] [] zGL h := by
  have hF6 := O.1
  have hp := p2_le O.1
  refine (zUp (fun k => zE sc d 126 31 [some (.ref 46), some (.int v1), some (.int (nI (clN T.fo s k))), some (.int v3), some (.int (nI k))] [] zGL h) T.F (fun k hk => ?_)).trans ?_
  · have hfl := lt_64 (O.2.2.2.2.1 k hk).2 (by omega)
    have hcl := clN_lt (fo := T.fo) hs (k := k) (by omega)
    rw [E_Mo_findClosed_31, D.1, if_pos (nI_lt hk (by omega)), if_pos (zin_nI (by omega) (by decide)), nI_clamp (by omega), (D.2.2.2 k hk).2, nI_1, clN_step hfl]
    unfold ndB
    by_cases h0 : T.fo k = 0
    · rw [if_pos (by rw [h0]; rfl), i_or0, if_neg (by simp [h0])]
    · rw [if_neg (nI_ne0 (by omega) (by omega)), if_pos (zin_nI (by omega) (by decide)), nI_andn (by omega) (by omega)]
      have hfold : jN (fun i => (T.fo k).testBit i && !(clN T.fo s k).testBit i) 31 = anN (T.fo k) (clN T.fo s k) := rfl
      have hlt := anN_lt (F := 6) (b := clN T.fo s k) hfl (Nat.le_refl 6)
      rw [hfold]
      by_cases hz : anN (T.fo k) (clN T.fo s k) = 0
      · rw [if_pos (by rw [hz]; rfl), nI_shl1 (by omega), nI_or, if_pos (by simp [h0, (an_sub hfl).mp hz])]
      · rw [if_neg (nI_ne0 (by omega) (by omega)), i_or0, if_neg (fun z => hz ((an_sub hfl).mpr (by rw [Bool.and_eq_true] at z; exact z.2)))]
  · rw [E_Mo_findClosed_31, D.1, if_neg (nI_nlt (Nat.le_refl _) (by omega))]
def cFr (h h' : zHp) : Prop := mFr [50] [7] h h'
theorem Mo_findClosed (sc : zSc) (d : Nat) (h : zHp) {T : TT} (O : TOK T) (D : MoT h T) : ∃ h', zRun sc d 126 [.ref 46] zGL h = some (none, zGL, h') ∧ MoC h' T ∧ cFr h h' := by
  have hF6 := O.1
  have hp := p2_le O.1
  have hfo : ∀ f, f < T.F → T.fo f < 2 ^ f := fun f hf => (O.2.2.2.2.1 f hf).2
  rw [E_Mo_findClosed]
  obtain ⟨h1, e1, i1, i2, i3⟩ := zUpH (e := fun k h => zE sc d 126 7 [some (.ref 46), some (.int (nI k)), none, none, none] [] zGL h) (inv := fun k h1 => cFr h h1 ∧ (∀ s, s < k → h1.1 50 s = nI (clN T.fo s T.F)) ∧ h1.2.1 46 7 = jF (fun s => decide (s < k) && clB T s)) (2 ^ T.F) (fun k h1 hk i => by
      obtain ⟨i1, i2, i3⟩ := i
      have D1 := MoT_m i1 (by decide) (by decide) D
      have hcl := clN_lt (fo := T.fo) hk (Nat.le_refl _)
      have hfin : ∀ v3, v3 = nI (clN T.fo k T.F) → zE sc d 126 21 [some (.ref 46), some (.int (nI k)), some (.int (nI (clN T.fo k T.F))), some (.int v3), none] [] zGL h1 = zE sc d 126 7 [some (.ref 46), some (.int (nI (k + 1))), none, none, none] [] zGL (zPL (zPI h1 50 k (nI (clN T.fo k T.F))) 46 7 (jF (fun s => decide (s < k + 1) && clB T s))) := by
        intro v3 hv
        rw [E_Mo_findClosed_21, if_pos hv.symm, if_pos (zin_nI (by omega) (by decide)), nI_clamp (by omega), nI_1, zPI_2, i3]
        by_cases hc : clN T.fo k T.F = k
        · rw [if_pos (by rw [hc]), jF_bit1 (by omega), jF_or, fam_t (by simp [clB, hk, hc])]
        · rw [if_neg (fun z => hc ((nI_eq (by omega) (by omega)).mp z)), j_or0, fam_f (by simp [clB, hc])]
      refine ⟨zPL (zPI h1 50 k (nI (clN T.fo k T.F))) 46 7 (jF (fun s => decide (s < k + 1) && clB T s)), ?_, mFr_t i1 (mFr_t (mFr_I (by decide) (by decide)) (mFr_g (by decide))), ?_, by rw [zPL_2, if_pos ⟨rfl, rfl⟩]⟩
      · rw [E_Mo_findClosed_7, D1.1, sh_F O.1, if_pos (nI_lt hk (by omega)), E_Mo_findClosed_21, if_neg (fun z => by
          have e1 := congrArg Int32.toInt z
          rw [nI_toInt (by omega)] at e1
          have : (-1 : Int32).toInt = -1 := rfl
          omega), Mo_pass sc d h1 O D1 _ _ hk]
        by_cases hc : clN T.fo k T.F = k
        · exact hfin (nI k) (by rw [hc])
        · rw [E_Mo_findClosed_21, if_neg (fun z => hc ((nI_eq (by omega) (by omega)).mp z)), Mo_pass sc d h1 O D1 _ _ hcl, clN_idem hF6 hfo]
          exact hfin _ rfl
      · intro s hs
        rw [zPL_1, zPI_1]
        by_cases hsk : s = k
        · rw [if_pos ⟨rfl, hsk⟩, hsk]
        · rw [if_neg (by omega), i2 s (by omega)]) (zPL h 46 7 0) ⟨mFr_g (by decide), fun s hs => by omega, by rw [zPL_2, if_pos ⟨rfl, rfl⟩, fam_0]⟩
  have D1 := MoT_m i1 (by decide) (by decide) D
  refine ⟨h1, e1.trans ?_, ⟨i2, ?_⟩, i1⟩
  · rw [E_Mo_findClosed_7, D1.1, sh_F O.1, if_neg (nI_nlt (Nat.le_refl _) (by omega))]
  · rw [i3]
    apply jF_ext
    intro s _
    unfold clB
    by_cases hs : s < 2 ^ T.F <;> simp [hs]
