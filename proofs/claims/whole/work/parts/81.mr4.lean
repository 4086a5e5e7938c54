/-! ===== the reference's reader: a clause, the whole text ===== -/
def mcR (x : Option zRs) (tl : Nat) (tb : Nat → Nat) (h : zHp) : PF ⊕ (Nat × TT) → Prop
  | .inl f => ∃ h', x = some (some (.int (nI f.1)), zGL, h') ∧ mfl h' f ∧ mF h h'
  | .inr q => ∃ h', x = some (some (.int 0), zGL, h') ∧ AtP h' tl tb q.1 ∧ MR h' q.2 ∧ mF h h'
theorem mcR_h {x y : Option zRs} {tl : Nat} {tb : Nat → Nat} {h h1 : zHp} (e : x = y) (f : mF h h1) : ∀ {r : PF ⊕ (Nat × TT)}, mcR y tl tb h1 r → mcR x tl tb h r
  | .inl _, ⟨h', a, b, c⟩ => ⟨h', e.trans a, b, mFr_t f c⟩
  | .inr _, ⟨h', a, b, c, k⟩ => ⟨h', e.trans a, b, c, mFr_t f k⟩
theorem Mo_fin (sc : zSc) (d : Nat) (h : zHp) {tl : Nat} {tb : Nat → Nat} (X : MoX h tl tb) (o : txOK tl tb) {T : TT} (M : MR h T) {e : Nat} (A : AtP h tl tb e) : mcR (zE sc (d + 1) 135 210 [some (.ref 46), none, some (.int 0)] [] zGL h) tl tb h (fiP tl tb T e) := by
  have hsgn := hr_sg o (skP tl tb e) (c := 59) (v := 59) rfl (.inr rfl)
  have hsn : sgQ tl tb (skP tl tb e) 59 = false → ¬ hrV tl tb (skP tl tb e) = 59 := fun hf z => by rw [hsgn.mp z] at hf; cases hf
  rw [E_Mo_takeClause_210, if_pos rfl, Mo_here sc d h X o A, zBi_some]
  unfold fiP
  cases hsg : sgQ tl tb (skP tl tb e) 59 with
  | true =>
    obtain ⟨k3, hl⟩ := sg_3 hsg
    rw [if_pos (hsgn.mpr hsg), if_pos rfl, E_Mo_takeClause_233, show (zPI h 46 18 (nI (skP tl tb e))).1 46 18 = nI (skP tl tb e) from rfl, nI_1, zPI_o]
    exact ⟨_, rfl, AtP_e rfl hl, ⟨MS_m (mFr_f (a := []) (b := [18]) (by decide)) (by decide) (by decide) M.1, M.2⟩, mFr_f (by decide)⟩
  | false =>
    rw [if_neg (hsn hsg), if_neg (show ¬ false = true by decide), E_Mo_fails, zBi_some]
    exact ⟨_, rfl, mfl_mk rfl (by decide) (by decide), mFr_t (mFr_f (by decide)) (mFr_f (by decide))⟩
theorem Mo_210f (sc : zSc) (d : Nat) (h : zHp) {f : PF} (hf : mfl h f) : zE sc (d + 1) 135 210 [some (.ref 46), none, some (.int (nI f.1))] [] zGL h = some (some (.int (nI f.1)), zGL, zPI h 46 18 (h.1 46 18 + 1)) := by
  have h1 := hf.2.1
  have h2 := hf.2.2
  rw [E_Mo_takeClause_210, if_neg (nI_ne0 h1 (by omega)), E_Mo_takeClause_233]
theorem Mo_clause (sc : zSc) (d : Nat) (h : zHp) {tl : Nat} {tb : Nat → Nat} (X : MoX h tl tb) (o : txOK tl tb) {T : TT} (O : rdO T) (M : MR h T) {p : Nat} (hp : p ≤ tl) (A : AtP h tl tb p) : mcR (zRun sc (d + 4) 135 [.ref 46] zGL h) tl tb h (clP tl tb T (skP tl tb p)) := by
  have hF6 := O.1
  have hP5 := O.2.1
  have hC99 : T.C ≤ 99 := by rcases O.2.2.1 with z | z <;> omega
  obtain ⟨s1, s2⟩ := sk_b tb hp
  obtain ⟨e1, e2, -⟩ := tkE_b (tb := tb) s2
  obtain ⟨h1, r1, r18, r19, r20, r2⟩ := Mo_readWord sc (d + 2) h X o hp A
  have M1 : MS h1 T := MS_m r2 (by decide) (by decide) M.1
  have f1 : mF h h1 := mFr_w r2 (fun _ z => nomatch z) (by decide)
  have C17 : h1.1 46 17 = -1 := by rw [(r2.2.1 17 (by decide)).1]; exact M.2
  have fails : ∀ v : Nat, mF h (zPI h1 46 17 (nI (skP tl tb p))) := fun _ => mFr_t f1 (mFr_f (by decide))
  have h101 : zE sc (d + 4) 135 101 [some (.ref 46), none, none] [] zGL h1 = some (some (.int (nI 1)), zGL, zPI h1 46 17 (nI (skP tl tb p))) := by
    rw [E_Mo_takeClause_101 sc (d + 3), E_Mo_fails, zBi_some, r18]
    rfl
  have h150 : zE sc (d + 4) 135 150 [some (.ref 46), none, none] [] zGL h1 = some (some (.int (nI 3)), zGL, zPI h1 46 17 (nI (skP tl tb p))) := by
    rw [E_Mo_takeClause_150 sc (d + 3), E_Mo_fails, zBi_some, r18]
    rfl
  have wn : ∀ j, j < 5 → wdQ tl tb (skP tl tb p) j = false → ¬ lN (sdW tl tb (skP tl tb p)) = lN (cdN j) := fun j hj hf z => by rw [(wd_sd hj).mp z] at hf; cases hf
  rw [E_Mo_takeClause sc (d + 3), r1, zBv_some, (Mo_cw sc (d + 3) h1).1, zBj_some, (Mo_cw sc (d + 3) h1).2.1, zBj_some, (Mo_cw sc (d + 3) h1).2.2.2.1, zBj_some, (Mo_lw sc (d + 3) h1).2.2.2.1, zBj_some, (Mo_lw sc (d + 3) h1).2.2.2.2.1, zBj_some, r19]
  unfold clP
  cases w0 : wdQ tl tb (skP tl tb p) 0 with
  | true =>
    rw [if_pos ((wd_sd (by decide)).mpr w0), if_pos rfl, E_Mo_takeClause_84, if_neg (show ¬ (0 : Int32) < 0 by decide), if_neg (show ¬ (0 : Int32) = 1 by decide), E_Mo_takeClause_111, if_pos rfl, M1.2.2.1]
    unfold htP
    by_cases hc : T.C = 0
    · rw [if_pos hc, if_neg (show ¬ (0 : Int32) < nI T.C by rw [hc]; decide), E_Mo_takeClause_160, if_pos rfl, r20, ← tkE_1 (wdQ_1 w0)]
      generalize hzC : zPI h1 46 18 (nI (tkE tl tb (skP tl tb p))) = hC
      have fC : mF h hC := by rw [← hzC]; exact mFr_t f1 (mFr_f (by decide))
      have MC : MS hC T := by rw [← hzC]; exact MS_m (mFr_f (a := []) (b := [18]) (by decide)) (by decide) (by decide) M1
      have D17 : hC.1 46 17 = -1 := by rw [← hzC]; exact C17
      obtain ⟨n1, n2⟩ := Mo_num sc (d + 2) hC (MoX_m fC (by decide) (by decide) X) o e2 (AtP_e (by rw [← hzC]; rfl) e2) (lo := 2) (hb := 100) (hi := 99) (by decide) rfl
      have hz : ∀ (v : zHp), zRun sc (d + 3) 140 [.ref 46, .int (nI 2), .int 99] zGL v = zRun sc (d + 3) 140 [.ref 46, .int 2, .int 99] zGL v := fun _ => rfl
      obtain ⟨k1, k2⟩ := sk_b tb e2
      cases hnu : nuQ tl tb 2 100 (skP tl tb (tkE tl tb (skP tl tb p))) with
      | inl f =>
        obtain ⟨h3, g1, g2, g3⟩ := n1 f hnu
        rw [hz] at g1
        rw [g1, zBi_some, Mo_210f sc (d + 3) _ (show mfl (zPI h3 46 28 (h3.1 46 21)) f from g2)]
        exact ⟨_, rfl, g2, mFr_t fC (mFr_t (mFr_w g3 (fun _ z => nomatch z) (by decide)) (mFr_t (mFr_f (by decide)) (mFr_f (by decide))))⟩
      | inr q =>
        obtain ⟨e, v⟩ := q
        obtain ⟨-, -, -, b1, b2, b3, b4, -⟩ := nuQ_b k2 hnu
        obtain ⟨h3, g1, g18, g21, g22, g17, g3⟩ := n2 e v hnu
        rw [hz] at g1
        have M3 : MS h3 T := MS_m g3 (by decide) (by decide) MC
        have f3 : mF h (zPI h3 46 28 (nI v)) := mFr_t fC (mFr_t (mFr_w g3 (fun _ z => nomatch z) (by decide)) (mFr_f (by decide)))
        rw [g1, zBi_some, g21]
        refine mcR_h rfl f3 (Mo_fin sc (d + 3) (zPI h3 46 28 (nI v)) (MoX_m f3 (by decide) (by decide) X) o (T := seC T v) ⟨⟨M3.1, M3.2.1, rfl, M3.2.2.2.1, M3.2.2.2.2⟩, g17.trans D17⟩ (AtP_e g18 b2))
    · rw [if_neg hc, if_pos (show (0 : Int32) < nI T.C from nI_lt (a := 0) (by omega) (by omega)), h150]
      exact ⟨_, rfl, mfl_mk rfl (by decide) (by decide), fails 0⟩
  | false =>
    rw [if_neg (wn 0 (by decide) w0), if_neg (show ¬ false = true by decide)]
    cases w1 : wdQ tl tb (skP tl tb p) 1 with
    | true =>
      rw [if_pos ((wd_sd (by decide)).mpr w1), if_pos rfl, E_Mo_takeClause_84, if_neg (show ¬ (1 : Int32) < 0 by decide), if_pos rfl, M1.2.1]
      unfold faP
      by_cases hP : 0 < T.P
      · rw [if_pos hP, if_pos (show (0 : Int32) < nI T.P from nI_lt (a := 0) hP (by omega)), h101]
        exact ⟨_, rfl, mfl_mk rfl (by decide) (by decide), fails 0⟩
      · rw [if_neg hP, if_neg (show ¬ (0 : Int32) < nI T.P from nI_nlt (a := 0) (by omega) (by decide)), E_Mo_takeClause_111, if_neg (show ¬ (1 : Int32) = 0 by decide), if_pos rfl, M1.1]
        by_cases hF : T.F = 6
        · rw [if_pos hF, if_pos (show nI T.F = (6 : Int32) by rw [hF]; rfl), h150]
          exact ⟨_, rfl, mfl_mk rfl (by decide) (by decide), fails 0⟩
        · rw [if_neg hF, if_neg (iN (m := 6) (n := 6) rfl hF (by omega) (by decide)), E_Mo_takeClause_160, if_neg (show ¬ (1 : Int32) = 0 by decide), if_pos rfl, r20, ← tkE_1 (wdQ_1 w1)]
          generalize hzC : zPI h1 46 18 (nI (tkE tl tb (skP tl tb p))) = hC
          have fC : mF h hC := by rw [← hzC]; exact mFr_t f1 (mFr_f (by decide))
          have MC : MR hC T := by rw [← hzC]; exact ⟨MS_m (mFr_f (a := []) (b := [18]) (by decide)) (by decide) (by decide) M1, C17⟩
          obtain ⟨n1, n2⟩ := Mo_fact sc d hC (MoX_m fC (by decide) (by decide) X) o O (by omega) MC e2 (AtP_e (by rw [← hzC]; rfl) e2)
          have go : mcR (zBi (zRun sc (d + 3) 141 [.ref 46] zGL hC) zGL fun x2 h2 => zE sc (d + 3 + 1) 135 209 [some (.ref 46), none, none] [.int x2] zGL h2) tl tb h (match faI tl tb T.F (tkE tl tb (skP tl tb p)) with | .inl f => .inl f | .inr (e2, v, a) => fiP tl tb (adF T v a) e2) := by
            cases hfa : faI tl tb T.F (tkE tl tb (skP tl tb p)) with
            | inl f =>
              obtain ⟨h3, g1, g2, g3⟩ := n1 f hfa
              rw [g1, zBi_some, E_Mo_takeClause_209, Mo_210f sc (d + 3) _ g2]
              exact ⟨_, rfl, g2, mFr_t fC (mFr_t g3 (mFr_f (by decide)))⟩
            | inr q =>
              obtain ⟨e, v, a⟩ := q
              obtain ⟨b2, h3, g1, g2, g3, g4⟩ := n2 e v a hfa
              rw [g1, zBi_some, E_Mo_takeClause_209]
              have f3 := mFr_t fC g4
              exact mcR_h rfl f3 (Mo_fin sc (d + 3) h3 (MoX_m f3 (by decide) (by decide) X) o g3 g2)
          unfold faI at go
          revert go
          cases nuQ tl tb 1 100 (skP tl tb (tkE tl tb (skP tl tb p))) with
          | inl f => exact fun go => go
          | inr q =>
            obtain ⟨e, v⟩ := q
            dsimp only
            cases wdQ tl tb (skP tl tb e) 2 with
            | false => exact fun go => go
            | true =>
              simp only [if_true]
              cases liP tl tb T.F 7 (tkE tl tb (skP tl tb e)) 0 with
              | inl f => exact fun go => go
              | inr q => exact fun go => go
    | false =>
      rw [if_neg (wn 1 (by decide) w1), if_neg (show ¬ false = true by decide)]
      cases w3 : wdQ tl tb (skP tl tb p) 3 with
      | true =>
        rw [if_pos ((wd_sd (by decide)).mpr w3), if_pos rfl, E_Mo_takeClause_84, if_neg (show ¬ (2 : Int32) < 0 by decide), if_neg (show ¬ (2 : Int32) = 1 by decide), E_Mo_takeClause_111, if_neg (show ¬ (2 : Int32) = 0 by decide), if_neg (show ¬ (2 : Int32) = 1 by decide), M1.2.1]
        unfold peP
        by_cases hP : T.P = 5
        · rw [if_pos hP, if_pos (show nI T.P = (5 : Int32) by rw [hP]; rfl), h150]
          exact ⟨_, rfl, mfl_mk rfl (by decide) (by decide), fails 0⟩
        · rw [if_neg hP, if_neg (iN (m := 5) (n := 5) rfl hP (by omega) (by decide)), E_Mo_takeClause_160, if_neg (show ¬ (2 : Int32) = 0 by decide), if_neg (show ¬ (2 : Int32) = 1 by decide), r20, ← tkE_1 (wdQ_1 w3)]
          generalize hzC : zPI h1 46 18 (nI (tkE tl tb (skP tl tb p))) = hC
          have fC : mF h hC := by rw [← hzC]; exact mFr_t f1 (mFr_f (by decide))
          have MC : MR hC T := by rw [← hzC]; exact ⟨MS_m (mFr_f (a := []) (b := [18]) (by decide)) (by decide) (by decide) M1, C17⟩
          obtain ⟨n1, n2⟩ := Mo_person sc d hC (MoX_m fC (by decide) (by decide) X) o O (by omega) MC e2 (AtP_e (by rw [← hzC]; rfl) e2)
          have go : mcR (zBi (zRun sc (d + 3) 143 [.ref 46] zGL hC) zGL fun x2 h2 => zE sc (d + 3 + 1) 135 209 [some (.ref 46), none, none] [.int x2] zGL h2) tl tb h (match peI tl tb T.F (tkE tl tb (skP tl tb p)) with | .inl f => .inl f | .inr (e2, a) => fiP tl tb (adP T a) e2) := by
            cases hfa : peI tl tb T.F (tkE tl tb (skP tl tb p)) with
            | inl f =>
              obtain ⟨h3, g1, g2, g3⟩ := n1 f hfa
              rw [g1, zBi_some, E_Mo_takeClause_209, Mo_210f sc (d + 3) _ g2]
              exact ⟨_, rfl, g2, mFr_t fC (mFr_t g3 (mFr_f (by decide)))⟩
            | inr q =>
              obtain ⟨e, a⟩ := q
              obtain ⟨b2, h3, g1, g2, g3, g4⟩ := n2 e a hfa
              rw [g1, zBi_some, E_Mo_takeClause_209]
              have f3 := mFr_t fC g4
              exact mcR_h rfl f3 (Mo_fin sc (d + 3) h3 (MoX_m f3 (by decide) (by decide) X) o g3 g2)
          unfold peI at go
          revert go
          cases wdQ tl tb (skP tl tb (tkE tl tb (skP tl tb p))) 4 with
          | false => exact fun go => go
          | true =>
            simp only [if_true]
            exact fun go => go
      | false =>
        rw [if_neg (wn 3 (by decide) w3), if_neg (show ¬ false = true by decide), E_Mo_takeClause_84, if_pos (show (-1 : Int32) < 0 by decide), h101]
        exact ⟨_, rfl, mfl_mk rfl (by decide) (by decide), fails 0⟩
def mtR (sc : zSc) (d : Nat) (x : Option zRs) (h : zHp) : PF ⊕ TT → Prop
  | .inl f => ∃ h', x = zE sc d 133 46 [some (.ref 46), some (.int (nI f.1)), none] [] zGL h' ∧ mfl h' f ∧ mF h h'
  | .inr T => ∃ h', x = zE sc d 133 46 [some (.ref 46), some (.int 0), none] [] zGL h' ∧ MR h' T ∧ rdO T ∧ mF h h'
theorem mtR_h {sc : zSc} {d : Nat} {x y : Option zRs} {h h1 : zHp} (e : x = y) (f : mF h h1) : ∀ {r : PF ⊕ TT}, mtR sc d y h1 r → mtR sc d x h r
  | .inl _, ⟨h', a, b, c⟩ => ⟨h', e.trans a, b, mFr_t f c⟩
  | .inr _, ⟨h', a, b, c, k⟩ => ⟨h', e.trans a, b, c, mFr_t f k⟩
theorem Mo_town_l (sc : zSc) (d : Nat) {tl : Nat} {tb : Nat → Nat} (o : txOK tl tb) : ∀ n k p T h, k + n = 400 → k ≤ p → p ≤ tl → rdO T → MoX h tl tb → AtP h tl tb p → MR h T → mtR sc (d + 5) (zE sc (d + 5) 133 27 [some (.ref 46), some (.int 0), none] [] zGL h) h (tnP tl tb n p T) := by
  have ht := o.1
  intro n
  induction n with
  | zero =>
    intro k p T h hk hkp hp O X A M
    obtain ⟨s1, s2⟩ := sk_b tb hp
    rw [E_Mo_town_27 sc (d + 4), if_pos rfl, Mo_here sc _ h X o A, zBi_some, if_pos ((hr_neg o _).mpr (by omega))]
    exact ⟨_, rfl, ⟨MS_m (mFr_f (a := []) (b := [18]) (by decide)) (by decide) (by decide) M.1, M.2⟩, O, mFr_f (by decide)⟩
  | succ n ih =>
    intro k p T h hk hkp hp O X A M
    obtain ⟨s1, s2⟩ := sk_b tb hp
    rw [E_Mo_town_27 sc (d + 4), if_pos rfl, Mo_here sc _ h X o A, zBi_some, tnP]
    have f1 : mF h (zPI h 46 18 (nI (skP tl tb p))) := mFr_f (by decide)
    have M1 : MR (zPI h 46 18 (nI (skP tl tb p))) T := ⟨MS_m (mFr_f (a := []) (b := [18]) (by decide)) (by decide) (by decide) M.1, M.2⟩
    by_cases hs : skP tl tb p < tl
    · rw [if_neg (fun z => by have := (hr_neg o _).mp z; omega), if_pos hs]
      have hc := Mo_clause sc d (zPI h 46 18 (nI (skP tl tb p))) (MoX_m f1 (by decide) (by decide) X) o O M1 hp (AtP_s rfl hp)
      cases hcl : clP tl tb T (skP tl tb p) with
      | inl f =>
        rw [hcl] at hc
        obtain ⟨h2, g1, g2, g3⟩ := hc
        have z1 := g2.2.1
        have z2 := g2.2.2
        rw [g1, zBi_some, E_Mo_town_27 sc (d + 4), if_neg (nI_ne0 z1 (by omega))]
        exact ⟨h2, rfl, g2, mFr_t f1 g3⟩
      | inr q =>
        obtain ⟨p', T'⟩ := q
        rw [hcl] at hc
        obtain ⟨h2, g1, g2, g3, g4⟩ := hc
        obtain ⟨b1, b2, b3⟩ := clP_b s2 O hcl
        rw [g1, zBi_some]
        have f2 := mFr_t f1 g4
        exact mtR_h rfl f2 (ih (k + 1) p' T' h2 (by omega) (by omega) b2 b3 (MoX_m f2 (by decide) (by decide) X) g2 g3)
    · rw [if_pos ((hr_neg o _).mpr (by omega)), if_neg hs]
      exact ⟨_, rfl, M1, O, f1⟩
