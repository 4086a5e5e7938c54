/-! ===== plans: the reference's search ===== -/
def pFr (h h' : zHp) : Prop := mFr [61, 62, 63, 64, 65] [] h h'
theorem MoT_p {h h' : zHp} {T : TT} (f : pFr h h') (D : MoT h T) : MoT h' T := MoT_m f (by decide) (by decide) D
theorem MoC_p {h h' : zHp} {T : TT} (f : pFr h h') (D : MoC h T) : MoC h' T := MoC_m f (by decide) (by decide) D
def Lv (h : zHp) (d : Nat) (Q : PQ) : Prop := h.1 61 d = nI Q.1 ∧ h.1 62 d = nI Q.2.1 ∧ h.2.1 63 d = jF Q.2.2.1 ∧ h.2.1 64 d = jF Q.2.2.2
def lwE (d : Nat) (h h' : zHp) : Prop := ∀ i, i ≤ d → h'.1 61 i = h.1 61 i ∧ h'.1 62 i = h.1 62 i ∧ h'.2.1 63 i = h.2.1 63 i ∧ h'.2.1 64 i = h.2.1 64 i
theorem lwE_Lv {d : Nat} {h h' : zHp} {Q : PQ} (e : lwE d h h') (L : Lv h d Q) : Lv h' d Q := by
  have := e d (Nat.le_refl d)
  unfold Lv at L ⊢
  rw [this.1, this.2.1, this.2.2.1, this.2.2.2]
  exact L
theorem lwE_t {d : Nat} {a b c : zHp} (h1 : lwE d a b) (h2 : lwE d b c) : lwE d a c := fun i hi => ⟨(h2 i hi).1.trans (h1 i hi).1, (h2 i hi).2.1.trans (h1 i hi).2.1, (h2 i hi).2.2.1.trans (h1 i hi).2.2.1, (h2 i hi).2.2.2.trans (h1 i hi).2.2.2⟩
theorem lwE_w {d d' : Nat} {a b : zHp} (h1 : lwE d a b) (h : d' ≤ d) : lwE d' a b := fun i hi => h1 i (by omega)
theorem d6 {o : Nat} (ho : o < 12) : nI o - nI o / 6 * 6 = nI (o % 6) := by
  rw [show (6 : Int32) = nI 6 from rfl]
  exact pk_rem (by omega) (by decide) (by decide)
theorem Mo_tryAt (sc : zSc) (c : Nat) (h : zHp) {T : TT} (O : TOK T) (D : MoT h T) (C : MoC h T) {d o : Nat} {Q : PQ} (hd : d < 6) (ho : o < 12) (q : PQok T Q) (L : Lv h d Q) : ∃ h', zRun sc (c + 2) 181 [.ref 46, .int (nI d), .int (nI o)] zGL h = some (some (.int (bI (vld T o Q))), zGL, h') ∧ (vld T o Q = false → h' = h) ∧ (vld T o Q = true → Lv h' (d + 1) (nxt T o Q)) ∧ pFr h h' ∧ lwE d h h' ∧ h'.1 65 = h.1 65 := by
  have hF6 := O.1
  have hp := p2_le hF6
  obtain ⟨q1, q2, q3, q4⟩ := q
  obtain ⟨l1, l2, l3, l4⟩ := L
  have hf6 : o % 6 < 6 := Nat.mod_lt _ (by decide)
  have hsn : ∀ A, inF T.F A → (zRun sc (c + 1) 153 [.ref 46, .long (jF A)] zGL h = some (some (.int (nI (jN (nonB A) T.F))), zGL, h)) ∧ (if empB A = true then (0 : Int32) else nI (jN (nonB A) T.F)) = nI (sureN A T.F) := by
    intro A iA
    refine ⟨Mo_inNone sc _ h O D iA, ?_⟩
    unfold sureN
    cases empB A <;> rfl
  have n0 : vld T o Q = false → (∃ h', some (some (Value.int 0), zGL, h) = some (some (.int (bI (vld T o Q))), zGL, h') ∧ (vld T o Q = false → h' = h) ∧ (vld T o Q = true → Lv h' (d + 1) (nxt T o Q)) ∧ pFr h h' ∧ lwE d h h' ∧ h'.1 65 = h.1 65) := fun hv => ⟨h, by rw [hv]; rfl, fun _ => rfl, fun z => (by rw [hv] at z; cases z), mFr_r _ _ h, fun _ _ => ⟨rfl, rfl, rfl, rfl⟩, rfl⟩
  have hpi : ∀ a b : Nat, nI d + 1 = nI (d + 1) := fun _ _ => nI_1 d
  have z62 : ∀ v, (zPI h 61 (d + 1) v).1 62 d = h.1 62 d := fun v => by rw [zPI_1, if_neg (by omega)]
  have z50 : ∀ v k, (zPI h 61 (d + 1) v).1 50 k = h.1 50 k := fun v k => by rw [zPI_1, if_neg (by omega)]
  by_cases o6 : o < 6
  · have hv : vld T o Q = (decide (o % 6 < T.F) && (Q.1.testBit (o % 6) && (sureN Q.2.2.1 T.F).testBit (o % 6))) := by unfold vld; rw [if_pos o6]
    have s1 := hsn _ q3
    rw [E_Mo_tryAt, if_pos (iL (m := 6) (n := 6) rfl o6 (by decide)), d6 ho, E_Mo_tryAt_16, if_neg (by decide), if_pos (zin_nI (by omega) (by decide)), nI_clamp (by omega), l1, E_Mo_tryAt_38, if_neg (by decide), if_pos (zin_nI (by omega) (by decide)), nI_clamp (by omega), l3, E_Mo_tryAt_60, D.1]
    by_cases hf : o % 6 < T.F
    · rw [if_pos (nI_lt hf (by omega)), Mo_has sc _ h (by omega) (by omega), zBi_some, bI_c]
      cases hb1 : Q.1.testBit (o % 6) with
      | false => rw [cond_false]; exact n0 (by rw [hv, hb1]; simp)
      | true =>
        have hs6 := sureN_lt Q.2.2.1 hF6
        rw [cond_true, s1.1, zBi_some, Mo_sureOf, zBi_some, s1.2, Mo_has sc _ h (by omega) (by omega), zBi_some, bI_c]
        cases hb2 : (sureN Q.2.2.1 T.F).testBit (o % 6) with
        | false => rw [cond_false]; exact n0 (by rw [hv, hb2]; simp)
        | true =>
          have hvt : vld T o Q = true := by rw [hv, hb1, hb2]; simp [hf]
          have hor := or_ltF q2 hf
          have et := Mo_those sc c h O D q4 hf6 true
          rw [show bI true = (1 : Int32) from rfl] at et
          rw [cond_true, if_neg (by decide), if_pos (zin_nI (by omega) (by decide)), nI_clamp (by omega), l2, E_Mo_tryAt_119, Mo_has sc _ h (by omega) (by omega), zBi_some, Mo_those sc c h O D q3 hf6, zBj_some, Mo_learnt sc _ h O D C (thB_in q3 _ _) hf, zBj_some, if_neg (by decide), if_pos (zin_nI (by omega) (by decide)), nI_clamp (by omega), l4, E_Mo_tryAt_162, et, zBj_some, if_neg (by decide), if_pos (zin_nI (by omega) (by decide)), nI_clamp (by omega), l1, nI_1, E_Mo_tryAt_205, if_pos (zin_nI (by omega) (by decide)), if_neg (by decide), if_pos (zin_nI (by omega) (by decide)), nI_clamp (by omega), nI_clamp (by omega), z62, l2, nI_shl1 (by omega), nI_or, if_pos (zin_nI (by omega) (by decide)), nI_clamp (by omega), z50, C.1 _ hor, nI_1, E_Mo_tryAt_242, if_pos (zin_nI (by omega) (by decide)), if_neg (by decide), nI_clamp (by omega), nI_1, E_Mo_tryAt_262, if_pos (zin_nI (by omega) (by decide)), if_neg (by decide), nI_1, if_pos (zin_nI (by omega) (by decide)), nI_clamp (by omega)]
          refine ⟨_, by rw [hvt]; rfl, fun z => (by rw [hvt] at z; cases z), fun _ => ?_, mFr_t (mFr_I (by decide) (by decide)) (mFr_t (mFr_I (by decide) (by decide)) (mFr_t (mFr_L (by decide) (by decide)) (mFr_L (by decide) (by decide)))), ?_, ?_⟩
          · rw [nxt_a o6]
            refine ⟨?_, ?_, ?_, ?_⟩
            · simp [zPL_1, zPI_1]
            · simp [zPL_1, zPI_1]
            · simp [zPL_2, zPI_2]
            · simp [zPL_2, zPI_2]
          · intro i hi
            have hi2 : ¬ i = d + 1 := by omega
            simp [zPL_1, zPI_1, zPL_2, zPI_2, hi2]
          · funext y
            simp [zPL_1, zPI_1]
    · rw [if_neg (nI_nlt (by omega) (by omega))]
      exact n0 (by rw [hv]; simp [hf])
  · have hv : vld T o Q = (decide (o % 6 < T.F) && (Q.2.1.testBit (o % 6) && (sureN Q.2.2.2 T.F).testBit (o % 6))) := by unfold vld; rw [if_neg o6]
    have s1 := hsn _ q4
    rw [E_Mo_tryAt, if_neg (iG (m := 6) (n := 6) rfl (by omega) (by omega)), d6 ho, E_Mo_tryAt_16, if_pos rfl, if_pos (zin_nI (by omega) (by decide)), nI_clamp (by omega), l2, E_Mo_tryAt_38, if_pos rfl, if_pos (zin_nI (by omega) (by decide)), nI_clamp (by omega), l4, E_Mo_tryAt_60, D.1]
    by_cases hf : o % 6 < T.F
    · rw [if_pos (nI_lt hf (by omega)), Mo_has sc _ h (by omega) (by omega), zBi_some, bI_c]
      cases hb1 : Q.2.1.testBit (o % 6) with
      | false => rw [cond_false]; exact n0 (by rw [hv, hb1]; simp)
      | true =>
        have hs6 := sureN_lt Q.2.2.2 hF6
        rw [cond_true, s1.1, zBi_some, Mo_sureOf, zBi_some, s1.2, Mo_has sc _ h (by omega) (by omega), zBi_some, bI_c]
        cases hb2 : (sureN Q.2.2.2 T.F).testBit (o % 6) with
        | false => rw [cond_false]; exact n0 (by rw [hv, hb2]; simp)
        | true =>
          have hvt : vld T o Q = true := by rw [hv, hb1, hb2]; simp [hf]
          have hor := or_ltF q1 hf
          have et := Mo_those sc c h O D q3 hf6 true
          rw [show bI true = (1 : Int32) from rfl] at et
          rw [cond_true, if_pos rfl, if_pos (zin_nI (by omega) (by decide)), nI_clamp (by omega), l1, E_Mo_tryAt_119, Mo_has sc _ h (by omega) (by omega), zBi_some, Mo_those sc c h O D q4 hf6, zBj_some, Mo_learnt sc _ h O D C (thB_in q4 _ _) hf, zBj_some, if_pos rfl, if_pos (zin_nI (by omega) (by decide)), nI_clamp (by omega), l3, E_Mo_tryAt_162, et, zBj_some, if_pos rfl, if_pos (zin_nI (by omega) (by decide)), nI_clamp (by omega), l1, nI_shl1 (by omega), nI_or, if_pos (zin_nI (by omega) (by decide)), nI_clamp (by omega), C.1 _ hor, nI_1, E_Mo_tryAt_205, if_pos (zin_nI (by omega) (by decide)), if_pos rfl, if_pos (zin_nI (by omega) (by decide)), nI_clamp (by omega), nI_clamp (by omega), z62, l2, nI_1, E_Mo_tryAt_242, if_pos (zin_nI (by omega) (by decide)), if_pos rfl, nI_clamp (by omega), nI_1, E_Mo_tryAt_262, if_pos (zin_nI (by omega) (by decide)), if_pos rfl, nI_1, if_pos (zin_nI (by omega) (by decide)), nI_clamp (by omega)]
          refine ⟨_, by rw [hvt]; rfl, fun z => (by rw [hvt] at z; cases z), fun _ => ?_, mFr_t (mFr_I (by decide) (by decide)) (mFr_t (mFr_I (by decide) (by decide)) (mFr_t (mFr_L (by decide) (by decide)) (mFr_L (by decide) (by decide)))), ?_, ?_⟩
          · rw [nxt_b o6]
            refine ⟨?_, ?_, ?_, ?_⟩
            · simp [zPL_1, zPI_1]
            · simp [zPL_1, zPI_1]
            · simp [zPL_2, zPI_2]
            · simp [zPL_2, zPI_2]
          · intro i hi
            have hi2 : ¬ i = d + 1 := by omega
            simp [zPL_1, zPI_1, zPL_2, zPI_2, hi2]
          · funext y
            simp [zPL_1, zPI_1]
    · rw [if_neg (nI_nlt (by omega) (by omega))]
      exact n0 (by rw [hv]; simp [hf])
noncomputable def e9 (sc : zSc) (c N G : Nat) (v : Int32) (h : zHp) : Option zRs := zE sc (c + 3) 180 9 [some (.ref 46), some (.int (nI N)), some (.int (nI G)), some (.int v), none] [] zGL h
def fpR (sc : zSc) (c N G d n : Nat) (x : Option zRs) (h : zHp) : Option (List Nat) → Prop
  | some l => ∃ h', x = some (some (.int 1), zGL, h') ∧ pFr h h' ∧ (∀ i, i < d → h'.1 65 i = h.1 65 i) ∧ ∀ i, i < n → h'.1 65 (d + i) = nI (l.getD i 0)
  | none => ∃ h', x = e9 sc c N G (nI d + -1) h' ∧ pFr h h' ∧ (∀ i, i < d → h'.1 65 i = h.1 65 i) ∧ lwE d h h'
theorem fpR_h {sc : zSc} {c N G d n : Nat} {x y : Option zRs} {h h1 : zHp} (e : x = y) (f : pFr h h1) (ht : ∀ i, i < d → h1.1 65 i = h.1 65 i) (hl : lwE d h h1) : ∀ {o : Option (List Nat)}, fpR sc c N G d n y h1 o → fpR sc c N G d n x h o
  | some l, r => by
    obtain ⟨h', r1, r2, r3, r4⟩ := r
    exact ⟨h', e.trans r1, mFr_t f r2, fun i hi => (r3 i hi).trans (ht i hi), r4⟩
  | none, r => by
    obtain ⟨h', r1, r2, r3, r4⟩ := r
    exact ⟨h', e.trans r1, mFr_t f r2, fun i hi => (r3 i hi).trans (ht i hi), lwE_t hl r4⟩
theorem m1_s (d : Nat) : nI (d + 1) + -1 = nI d := by
  rw [← nI_1, Int32.add_assoc, show (1 : Int32) + -1 = 0 by decide, Int32.add_zero]
theorem Mo_fp (sc : zSc) (c N G : Nat) {T : TT} (O : TOK T) (hN : N ≤ 6) (hG : G < 64) : ∀ n d Q h, d + n = N → PQok T Q → MoT h T → MoC h T → Lv h d Q → h.1 65 d = -1 → fpR sc c N G d n (e9 sc c N G (nI d) h) h (srch T G n Q) := by
  have hF6 := O.1
  have hp := p2_le hF6
  intro n
  induction n with
  | zero =>
    intro d Q h hd q D C L ht
    have hdN : d = N := by omega
    have hand : Q.1 &&& Q.2.1 ≤ Q.2.1 := Nat.and_le_right
    have q2 := q.2.1
    have hfold : jN (fun k => G.testBit k && !(Q.1 &&& Q.2.1).testBit k) 31 = anN G (Q.1 &&& Q.2.1) := rfl
    have hlt := anN_lt (F := 6) (b := Q.1 &&& Q.2.1) hG (Nat.le_refl 6)
    have h0 : e9 sc c N G (nI d) h = zE sc (c + 3) 180 38 [some (.ref 46), some (.int (nI N)), some (.int (nI G)), some (.int (nI d)), none] [.int (bI (subN G (Q.1 &&& Q.2.1) 6))] zGL h := by
      unfold e9
      rw [E_Mo_findPlan_9, if_neg (nI_pos (by omega)), if_pos (zin_nI (by omega) (by decide)), if_pos (zin_nI (by omega) (by decide)), nI_clamp (by omega), L.1, L.2.1, nI_and, nI_andn (by omega) (by omega), hfold]
      by_cases hz : anN G (Q.1 &&& Q.2.1) = 0
      · rw [if_pos (by rw [hz]; rfl), (an_sub hG).mp hz]; rfl
      · rw [if_neg (nI_ne0 (by omega) (by omega))]
        cases hb : subN G (Q.1 &&& Q.2.1) 6 with
        | false => rfl
        | true => exact absurd ((an_sub hG).mpr hb) hz
    rw [srch, h0, E_Mo_findPlan_38, if_pos (by rw [hdN]), bI_c]
    cases subN G (Q.1 &&& Q.2.1) 6 with
    | true =>
      rw [cond_true]
      exact ⟨h, rfl, mFr_r _ _ h, fun _ _ => rfl, fun i hi => absurd hi (Nat.not_lt_zero i)⟩
    | false =>
      rw [cond_false, E_Mo_findPlan_52, if_pos (zin_nI (by omega) (by decide)), if_pos (zin_nI (by omega) (by decide)), nI_clamp (by omega), E_Mo_findPlan_62, if_neg (nI_nlt (by omega) (by omega)), E_Mo_findPlan_105, if_neg (nI_nlt (by omega) (by omega))]
      refine ⟨_, rfl, mFr_I (by decide) (by decide), fun i hi => ?_, fun i hi => ?_⟩
      · rw [zPI_1, if_neg (by omega)]
      · simp [zPI_1, zPI_2]
  | succ n ih =>
    intro d Q h hd q D C L ht
    -- one option after the other
    have inner : ∀ m o h, o + m = 12 → MoT h T → MoC h T → Lv h d Q → h.1 65 d = nI o → fpR sc c N G d (n + 1) (zE sc (c + 3) 180 62 [some (.ref 46), some (.int (nI N)), some (.int (nI G)), some (.int (nI d)), none] [] zGL h) h (fsR (fun o => if vld T o Q then (srch T G n (nxt T o Q)).map (fun l => o :: l) else none) m o) := by
      intro m
      induction m with
      | zero =>
        intro o h ho D C L ht
        rw [E_Mo_findPlan_62, if_pos (nI_lt (by omega) (by omega)), if_pos (zin_nI (by omega) (by decide)), nI_clamp (by omega), ht, if_neg (iG (m := 12) (n := 12) rfl (by omega) (by omega)), E_Mo_findPlan_105, if_pos (nI_lt (by omega) (by omega)), if_pos (zin_nI (by omega) (by decide)), nI_clamp (by omega), ht, if_neg (iG (m := 12) (n := 12) rfl (by omega) (by omega))]
        exact ⟨h, rfl, mFr_r _ _ h, fun _ _ => rfl, fun _ _ => ⟨rfl, rfl, rfl, rfl⟩⟩
      | succ m ihm =>
        intro o h ho D C L ht
        obtain ⟨h1, t1, t2, t3, t4, t5, t6⟩ := Mo_tryAt sc c h O D C (d := d) (o := o) (by omega) (by omega) q L
        have ht1 : h1.1 65 d = nI o := by rw [t6]; exact ht
        have s62 : zE sc (c + 3) 180 62 [some (.ref 46), some (.int (nI N)), some (.int (nI G)), some (.int (nI d)), none] [] zGL h = (bif vld T o Q then zE sc (c + 3) 180 105 [some (.ref 46), some (.int (nI N)), some (.int (nI G)), some (.int (nI d)), none] [] zGL h1 else zE sc (c + 3) 180 62 [some (.ref 46), some (.int (nI N)), some (.int (nI G)), some (.int (nI d)), none] [] zGL (zPI h1 65 d (nI (o + 1)))) := by
          rw [E_Mo_findPlan_62, if_pos (nI_lt (by omega) (by omega)), if_pos (zin_nI (by omega) (by decide)), nI_clamp (by omega), ht, if_pos (iL (m := 12) (n := 12) rfl (by omega) (by decide)), if_pos (zin_nI (by omega) (by decide)), t1, zBi_some, bI_c, if_pos (zin_nI (by omega) (by decide)), if_pos (zin_nI (by omega) (by decide)), ht1, nI_1]
        -- the next option
        have again : ∀ h2, pFr h h2 → (∀ i, i < d → h2.1 65 i = h.1 65 i) → lwE d h h2 → (fpR sc c N G d (n + 1) (zE sc (c + 3) 180 62 [some (.ref 46), some (.int (nI N)), some (.int (nI G)), some (.int (nI d)), none] [] zGL (zPI h2 65 d (nI (o + 1)))) h (fsR (fun o => if vld T o Q then (srch T G n (nxt T o Q)).map (fun l => o :: l) else none) m (o + 1))) := by
          intro h2 f2 g2 l2
          have f3 : pFr h2 (zPI h2 65 d (nI (o + 1))) := mFr_I (by decide) (by decide)
          have l3 : lwE d h2 (zPI h2 65 d (nI (o + 1))) := fun i hi => by simp [zPI_1, zPI_2]
          refine fpR_h rfl (mFr_t f2 f3) (fun i hi => ?_) (lwE_t l2 l3) (ihm (o + 1) _ (by omega) (MoT_p (mFr_t f2 f3) D) (MoC_p (mFr_t f2 f3) C) (lwE_Lv (lwE_t l2 l3) L) (by rw [zPI_1, if_pos ⟨rfl, rfl⟩]))
          rw [zPI_1, if_neg (by omega), g2 i hi]
        rw [s62, fsR]
        cases hv : vld T o Q with
        | false =>
          simp only [if_neg Bool.false_ne_true]
          rw [cond_false]
          exact again h1 t4 (fun i _ => by rw [t6]) t5
        | true =>
          simp only [if_true]
          rw [cond_true, E_Mo_findPlan_105, if_pos (nI_lt (by omega) (by omega)), if_pos (zin_nI (by omega) (by decide)), nI_clamp (by omega), ht1, if_pos (iL (m := 12) (n := 12) rfl (by omega) (by decide)), nI_1, if_pos (zin_nI (by omega) (by decide)), nI_clamp (by omega)]
          have f2 : pFr h1 (zPI h1 65 (d + 1) (-1)) := mFr_I (by decide) (by decide)
          have l2 : lwE (d + 1) h1 (zPI h1 65 (d + 1) (-1)) := fun i hi => by simp [zPI_1, zPI_2]
          have D2 := MoT_p (mFr_t t4 f2) D
          have C2 := MoC_p (mFr_t t4 f2) C
          have r := ih (d + 1) (nxt T o Q) (zPI h1 65 (d + 1) (-1)) (by omega) (nxt_ok hv q) D2 C2 (lwE_Lv l2 (t3 hv)) (by rw [zPI_1, if_pos ⟨rfl, rfl⟩])
          cases hs : srch T G n (nxt T o Q) with
          | some l =>
            rw [hs] at r
            obtain ⟨h', r1, r2, r3, r4⟩ := r
            refine ⟨h', r1, mFr_t t4 (mFr_t f2 r2), fun i hi => ?_, fun i hi => ?_⟩
            · rw [r3 i (by omega), zPI_1, if_neg (by omega), t6]
            · cases i with
              | zero => rw [Nat.add_zero, r3 d (by omega), zPI_1, if_neg (by omega), ht1]; rfl
              | succ i => rw [show d + (i + 1) = d + 1 + i by omega, r4 i (by omega)]; rfl
          | none =>
            rw [hs] at r
            obtain ⟨h', r1, r2, r3, r4⟩ := r
            have f3 := mFr_t t4 (mFr_t f2 r2)
            have l3 : lwE d h h' := lwE_t t5 (lwE_w (lwE_t l2 r4) (by omega))
            have D3 := MoT_p f3 D
            have ht3 : h'.1 65 d = nI o := by rw [r3 d (by omega), zPI_1, if_neg (by omega), ht1]
            have L3 := lwE_Lv l3 L
            have hdn : ¬ nI d = nI N := fun z => by have := (nI_eq (by omega) (by omega)).mp z; omega
            have back : e9 sc c N G (nI (d + 1)) (zPI h1 65 (d + 1) (-1)) = zE sc (c + 3) 180 62 [some (.ref 46), some (.int (nI N)), some (.int (nI G)), some (.int (nI d)), none] [] zGL (zPI h' 65 d (nI (o + 1))) := by
              rw [r1, m1_s]
              unfold e9
              rw [E_Mo_findPlan_9, if_neg (nI_pos (by omega)), if_pos (zin_nI (by omega) (by decide)), if_pos (zin_nI (by omega) (by decide)), nI_clamp (by omega), E_Mo_findPlan_38, if_neg hdn, E_Mo_findPlan_38, if_neg hdn, ite_self, E_Mo_findPlan_52, if_pos (zin_nI (by omega) (by decide)), if_pos (zin_nI (by omega) (by decide)), nI_clamp (by omega), ht3, nI_1]
            exact fpR_h back (mFr_r _ _ h) (fun _ _ => rfl) (fun _ _ => ⟨rfl, rfl, rfl, rfl⟩) (again h' f3 (fun i hi => by rw [r3 i (by omega), zPI_1, if_neg (by omega), t6]) l3)
    have hdn : ¬ nI d = nI N := fun z => by have := (nI_eq (by omega) (by omega)).mp z; omega
    have start : e9 sc c N G (nI d) h = zE sc (c + 3) 180 62 [some (.ref 46), some (.int (nI N)), some (.int (nI G)), some (.int (nI d)), none] [] zGL (zPI h 65 d (nI 0)) := by
      unfold e9
      rw [E_Mo_findPlan_9, if_neg (nI_pos (by omega)), if_pos (zin_nI (by omega) (by decide)), if_pos (zin_nI (by omega) (by decide)), nI_clamp (by omega), E_Mo_findPlan_38, if_neg hdn, E_Mo_findPlan_38, if_neg hdn, ite_self, E_Mo_findPlan_52, if_pos (zin_nI (by omega) (by decide)), if_pos (zin_nI (by omega) (by decide)), nI_clamp (by omega), ht]
      rfl
    have f1 : pFr h (zPI h 65 d (nI 0)) := mFr_I (by decide) (by decide)
    have l1 : lwE d h (zPI h 65 d (nI 0)) := fun i hi => by simp [zPI_1, zPI_2]
    exact fpR_h start f1 (fun i hi => by rw [zPI_1, if_neg (by omega)]) l1 (inner 12 0 _ rfl (MoT_p f1 D) (MoC_p f1 C) (lwE_Lv l1 L) (by rw [zPI_1, if_pos ⟨rfl, rfl⟩]))
