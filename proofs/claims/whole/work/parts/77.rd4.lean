/-! ===== the class's reader: facts, persons, the whole text ===== -/
theorem Tn_addF (sc : zSc) (d : Nat) (h : zHp) {t : Nat} (ht : zTw t = true) {T : TT} (D : TnD h t T) (hF : T.F < 6) (v a : Nat) : ∃ h', zRun sc d 45 [.ref t, .int (nI v), .int (nI a)] zGL h = some (none, zGL, h') ∧ TnD h' t (adF T v a) ∧ rF t h h' ∧ h'.1 15 = h.1 15 := by
  have h15 := tw_15 ht
  obtain ⟨q1, q2, q3, q4, q5⟩ := D
  have z1 : (zPI h (t + 1) T.F (nI v)).1 t 0 = nI T.F := by rw [zPI_1, if_neg (by omega), q1]
  have z2 : (zPI (zPI h (t + 1) T.F (nI v)) (t + 2) T.F (nI a)).1 t 0 = nI T.F := by rw [zPI_1, if_neg (by omega), z1]
  refine ⟨zPI (zPI (zPI h (t + 1) T.F (nI v)) (t + 2) T.F (nI a)) t 0 (nI (T.F + 1)), ?_, ⟨?_, ?_, ?_, fun f hf => ?_, fun p hp => ?_⟩, ?_, ?_⟩
  · rw [E_Tn_addFact sc d zGL h t (zTw_6 ht), q1, if_pos (iL (m := 6) (n := 6) rfl hF (by decide)), if_pos (zin_nI hF (by decide)), nI_clamp (by omega), z1, if_pos (zin_nI hF (by decide)), nI_clamp (by omega), z2, nI_1]
  · rw [zPI_1, if_pos ⟨rfl, rfl⟩]; rfl
  · rw [zPI_1, if_neg (by omega), zPI_1, if_neg (by omega), zPI_1, if_neg (by omega)]; exact q2
  · rw [zPI_1, if_neg (by omega), zPI_1, if_neg (by omega), zPI_1, if_neg (by omega)]; exact q3
  · have hf' : f < T.F + 1 := hf
    show _ = nI (updN T.w T.F v f) ∧ _ = nI (updN T.fo T.F a f)
    unfold updN
    by_cases he : f = T.F
    · rw [if_pos he, if_pos he, zPI_1, if_neg (by omega), zPI_1, if_neg (by omega), zPI_1, if_pos ⟨rfl, he⟩, zPI_1, if_neg (by omega), zPI_1, if_pos ⟨rfl, he⟩]
      exact ⟨rfl, rfl⟩
    · rw [if_neg he, if_neg he, zPI_1, if_neg (by omega), zPI_1, if_neg (by omega), zPI_1, if_neg (by omega), zPI_1, if_neg (by omega), zPI_1, if_neg (by omega), zPI_1, if_neg (by omega)]
      exact q4 f (by omega)
  · rw [zPI_1, if_neg (by omega), zPI_1, if_neg (by omega), zPI_1, if_neg (by omega)]; exact q5 p hp
  · exact rF_t (rF_I (by omega) (by omega)) (rF_t (rF_I (by omega) (by omega)) (rF_I (by omega) (by omega)))
  · funext y
    rw [zPI_1, if_neg (by omega), zPI_1, if_neg (by omega), zPI_1, if_neg (by omega)]
theorem Tn_addP (sc : zSc) (d : Nat) (h : zHp) {t : Nat} (ht : zTw t = true) {T : TT} (D : TnD h t T) (hP : T.P < 5) (a : Nat) : ∃ h', zRun sc d 47 [.ref t, .int (nI a)] zGL h = some (none, zGL, h') ∧ TnD h' t (adP T a) ∧ rF t h h' ∧ h'.1 15 = h.1 15 := by
  have h15 := tw_15 ht
  obtain ⟨q1, q2, q3, q4, q5⟩ := D
  have z1 : (zPI h (t + 3) T.P (nI a)).1 t 1 = nI T.P := by rw [zPI_1, if_neg (by omega), q2]
  refine ⟨zPI (zPI h (t + 3) T.P (nI a)) t 1 (nI (T.P + 1)), ?_, ⟨?_, ?_, ?_, fun f hf => ?_, fun p hp => ?_⟩, ?_, ?_⟩
  · rw [E_Tn_addPerson sc d zGL h t (zTw_6 ht), q2, if_pos (iL (m := 5) (n := 5) rfl hP (by decide)), if_pos (zin_nI hP (by decide)), nI_clamp (by omega), z1, nI_1]
  · rw [zPI_1, if_neg (by omega), zPI_1, if_neg (by omega)]; exact q1
  · rw [zPI_1, if_pos ⟨rfl, rfl⟩]; rfl
  · rw [zPI_1, if_neg (by omega), zPI_1, if_neg (by omega)]; exact q3
  · rw [zPI_1, if_neg (by omega), zPI_1, if_neg (by omega), zPI_1, if_neg (by omega), zPI_1, if_neg (by omega)]; exact q4 f hf
  · have hp' : p < T.P + 1 := hp
    show _ = nI (updN T.tk T.P a p)
    unfold updN
    by_cases he : p = T.P
    · rw [if_pos he, zPI_1, if_neg (by omega), zPI_1, if_pos ⟨rfl, he⟩]
    · rw [if_neg he, zPI_1, if_neg (by omega), zPI_1, if_neg (by omega)]
      exact q5 p (by omega)
  · exact rF_t (rF_I (by omega) (by omega)) (rF_I (by omega) (by omega))
  · funext y
    rw [zPI_1, if_neg (by omega), zPI_1, if_neg (by omega)]
theorem Rd_15 {h h' : zHp} {tl : Nat} {tb : Nat → Nat} {p : Nat} (e : h'.1 15 = h.1 15) (R : Rd h tl tb p) : Rd h' tl tb p := by
  unfold Rd
  rw [e]
  exact R
theorem Rd_fa64 (sc : zSc) (d : Nat) (h : zHp) {tl : Nat} {tb : Nat → Nat} (X : TxD h tl tb) (o : txOK tl tb) {t : Nat} {T : TT} (ht : zTw t = true) (D : TR h t T) (hF : T.F < 6) {e : Nat} (he : e ≤ tl) (R : Rd h tl tb e) (v a : Nat) : cR (zE sc (d + 3) 43 64 [some (.ref 15), some (.int (nI v)), none] [.int (nI a)] zGL h) t tl tb h (fiP tl tb (adF T v a) e) := by
  obtain ⟨m1, m2⟩ := Rd_end sc d h X o he R
  rw [E_Rd_readFact_64 sc (d + 2)]
  unfold fiP
  cases hsg : sgQ tl tb (skP tl tb e) 59 with
  | false =>
    obtain ⟨h4, g4, dd, f4⟩ := m1 hsg
    rw [g4, zBv_some, if_neg dd.2.2]
    exact ⟨h4, rfl, dd, rF_s f4⟩
  | true =>
    obtain ⟨-, h4, g4, R4, f4⟩ := m2 hsg
    have D4 := TR_s ht f4 D
    obtain ⟨h5, g5, D5, f5, e5⟩ := Tn_addF sc (d + 2) h4 ht D4.1 hF v a
    rw [g4, zBv_some, if_pos R4.2.2.2.2.1, zOT_k D4.2.2 ht, g5, zBv_some]
    exact ⟨h5, rfl, Rd_15 e5 R4, ⟨D5, by rw [e5]; exact D4.2.1, by rw [f5.1]; exact D4.2.2⟩, rF_t (rF_s f4) f5⟩
theorem Rd_fa64_d (sc : zSc) (d : Nat) (h : zHp) {tl : Nat} {tb : Nat → Nat} (X : TxD h tl tb) (o : txOK tl tb) (h7 : ¬ h.1 15 7 = 0) (v a : Int32) : zE sc (d + 3) 43 64 [some (.ref 15), some (.int v), none] [.int a] zGL h = some (none, zGL, h) := by
  rw [E_Rd_readFact_64 sc (d + 2), Rd_end_d sc d h X o h7, zBv_some, if_neg h7]
theorem Rd_fa_d2 (sc : zSc) (d : Nat) (h : zHp) {tl : Nat} {tb : Nat → Nat} (X : TxD h tl tb) (o : txOK tl tb) {t : Nat} (ht : zTw t = true) (hr : h.2.2 15 1 = some t) (h7 : ¬ h.1 15 7 = 0) (x2 : Int32) : (zBi (zRun sc (d + 5) 29 [.ref 15, .ref 1002] zGL h) zGL fun x3 h3 => (if x3 = 0 then zE sc (d + 6) 43 64 [some (.ref 15), some (.int x2), none] [.int 0] zGL h3 else (zBi (zRun sc (d + 5) 44 [.ref 15] zGL h3) zGL fun x4 h4 => zE sc (d + 6) 43 64 [some (.ref 15), some (.int x2), none] [.int x4] zGL h4))) = some (none, zGL, h) := by
  obtain ⟨w, e⟩ := Rd_word_y sc d h X o (j := 2) (by decide)
  have e' : zRun sc (d + 5) 29 [.ref 15, .ref 1002] zGL h = some (some (.int w), zGL, h) := e
  rw [e', zBi_some, Rd_fa64_d sc (d + 3) h X o h7, Rd_list_d sc (d + 2) h h7 ht hr, zBi_some, Rd_fa64_d sc (d + 3) h X o h7]
  split <;> rfl
theorem Rd_fa_d (sc : zSc) (d : Nat) (h : zHp) {tl : Nat} {tb : Nat → Nat} (X : TxD h tl tb) (o : txOK tl tb) {t : Nat} (ht : zTw t = true) (hr : h.2.2 15 1 = some t) (h7 : ¬ h.1 15 7 = 0) : zE sc (d + 6) 43 35 [some (.ref 15), none, none] [] zGL h = some (none, zGL, h) := by
  rw [E_Rd_readFact_35 sc (d + 5), Rd_step_d sc (d + 4) h h7, zBv_some, Rd_num_d sc (d + 3) h h7, zBi_some, Rd_fa_d2 sc d h X o ht hr h7]
theorem Rd_fact (sc : zSc) (d : Nat) (h : zHp) {tl : Nat} {tb : Nat → Nat} (X : TxD h tl tb) (o : txOK tl tb) {t : Nat} {T : TT} (ht : zTw t = true) (O : rdO T) (D : TR h t T) {p : Nat} (hp : p ≤ tl) (R : Rd h tl tb p) : cR (zRun sc (d + 6) 43 [.ref 15] zGL h) t tl tb h (faP tl tb T (skP tl tb p)) := by
  have h15 := tw_15 ht
  have hF6 := O.1
  have hP5 := O.2.1
  obtain ⟨r3, r4, r5, r6, r7, r8⟩ := R
  obtain ⟨s1, s2⟩ := sk_b tb hp
  obtain ⟨e1, e2, -⟩ := tkE_b (tb := tb) s2
  unfold faP
  rw [E_Rd_readFact sc (d + 5), zOT_k D.2.2 ht, show h.1 t 1 = nI T.P from D.1.2.1, zOT_k D.2.2 ht, show h.1 t 0 = nI T.F from D.1.1]
  by_cases hP : 0 < T.P
  · have dd : dD (zPI (zPI h 15 7 (nI 1)) 15 8 (h.1 15 4)) (1, skP tl tb p) := dD_mk (by decide) (by decide) r4
    rw [if_pos hP, if_pos (show (0 : Int32) < nI T.P from nI_lt (a := 0) hP (by omega)), Rd_fail_a sc (d + 4) h r7, zBv_some]
    exact ⟨_, Rd_fa_d sc d _ (sF_X sF_f X) o ht D.2.2 dd.2.2, dd, rF_s sF_f⟩
  · rw [if_neg hP, if_neg (show ¬ (0 : Int32) < nI T.P from nI_nlt (a := 0) (by omega) (by decide))]
    by_cases hF : T.F = 6
    · have dd : dD (zPI (zPI h 15 7 (nI 3)) 15 8 (h.1 15 4)) (3, skP tl tb p) := dD_mk (by decide) (by decide) r4
      rw [if_pos hF, if_pos (show nI T.F = (6 : Int32) by rw [hF]; rfl), Rd_fail_a sc (d + 4) h r7, zBv_some]
      exact ⟨_, Rd_fa_d sc d _ (sF_X sF_f X) o ht D.2.2 dd.2.2, dd, rF_s sF_f⟩
    · rw [if_neg hF, if_neg (iN (m := 6) (n := 6) rfl hF (by omega) (by decide)), E_Rd_readFact_35 sc (d + 5)]
      obtain ⟨h2, g1, R2, f2⟩ := Rd_step sc (d + 4) h X o e2 r5 r7 r8
      have X2 := sF_X f2 X
      have D2 := TR_s ht f2 D
      obtain ⟨n1, n2⟩ := Rd_num sc (d + 3) h2 X2 o e2 R2 (lo := 1) (hb := 100) (hi := 99) (by decide) rfl
      rw [g1, zBv_some]
      cases hnu : nuQ tl tb 1 100 (skP tl tb (tkE tl tb (skP tl tb p))) with
      | inl f =>
        obtain ⟨h3, v, g3, dd, f3⟩ := n1 f hnu
        have g3' : zRun sc (d + 5) 40 [.ref 15, .int 1, .int 99] zGL h2 = some (some (.int v), zGL, h3) := g3
        rw [g3', zBi_some, Rd_fa_d2 sc d h3 (sF_X f3 X2) o ht (TR_s ht f3 D2).2.2 dd.2.2]
        exact ⟨h3, rfl, dd, rF_s (sF_t f2 f3)⟩
      | inr q =>
        obtain ⟨e, v⟩ := q
        obtain ⟨b1, b2, b3, b4, h3, g3, R3, f3⟩ := n2 e v hnu
        have g3' : zRun sc (d + 5) 40 [.ref 15, .int 1, .int 99] zGL h2 = some (some (.int (nI v)), zGL, h3) := g3
        have X3 := sF_X f3 X2
        have D3 := TR_s ht f3 D2
        have f23 := sF_t f2 f3
        have w2 : zRun sc (d + 5) 29 [.ref 15, .ref 1002] zGL h3 = some (some (.int (bI (wdQ tl tb (skP tl tb e) 2))), zGL, h3) := Rd_word sc d h3 X3 o b1 R3 (j := 2) (by decide)
        rw [g3', zBi_some, w2, zBi_some]
        dsimp only
        cases hw : wdQ tl tb (skP tl tb e) 2 with
        | false =>
          rw [if_pos (show bI false = 0 from rfl), if_neg (by decide)]
          exact cR_h rfl (rF_s f23) (Rd_fa64 sc (d + 3) h3 X3 o ht D3 (by omega) b1 R3 v 0)
        | true =>
          rw [if_neg (show ¬ bI true = 0 by decide), if_pos rfl]
          obtain ⟨j1, j2⟩ := sk_b tb b1
          obtain ⟨l1, l2, -⟩ := tkE_b (tb := tb) j2
          obtain ⟨i1, i2⟩ := Rd_list sc (d + 2) h3 o ht hF6 l2 X3 D3.2.2 D3.1.1 R3.2.2.1 R3.2.2.2.2.1 R3.2.2.2.2.2
          cases hl : liP tl tb T.F 7 (tkE tl tb (skP tl tb e)) 0 with
          | inl f =>
            obtain ⟨h4, v4, g4, dd, f4⟩ := i1 f hl
            rw [g4, zBi_some, Rd_fa64_d sc (d + 3) h4 (sF_X f4 X3) o dd.2.2]
            exact ⟨h4, rfl, dd, rF_s (sF_t f23 f4)⟩
          | inr q =>
            obtain ⟨e4, a4⟩ := q
            obtain ⟨c1, c2, c3, h4, g4, R4, f4⟩ := i2 e4 a4 hl
            rw [g4, zBi_some]
            exact cR_h rfl (rF_s (sF_t f23 f4)) (Rd_fa64 sc (d + 3) h4 (sF_X f4 X3) o ht (TR_s ht f4 D3) (by omega) c1 R4 v a4)
theorem Rd_pe37 (sc : zSc) (d : Nat) (h : zHp) {tl : Nat} {tb : Nat → Nat} (X : TxD h tl tb) (o : txOK tl tb) {t : Nat} {T : TT} (ht : zTw t = true) (D : TR h t T) (hP : T.P < 5) {e : Nat} (he : e ≤ tl) (R : Rd h tl tb e) (a : Nat) : cR (zE sc (d + 3) 46 37 [some (.ref 15), none] [.int (nI a)] zGL h) t tl tb h (fiP tl tb (adP T a) e) := by
  obtain ⟨m1, m2⟩ := Rd_end sc d h X o he R
  rw [E_Rd_readPerson_37 sc (d + 2)]
  unfold fiP
  cases hsg : sgQ tl tb (skP tl tb e) 59 with
  | false =>
    obtain ⟨h4, g4, dd, f4⟩ := m1 hsg
    rw [g4, zBv_some, if_neg dd.2.2]
    exact ⟨h4, rfl, dd, rF_s f4⟩
  | true =>
    obtain ⟨-, h4, g4, R4, f4⟩ := m2 hsg
    have D4 := TR_s ht f4 D
    obtain ⟨h5, g5, D5, f5, e5⟩ := Tn_addP sc (d + 2) h4 ht D4.1 hP a
    rw [g4, zBv_some, if_pos R4.2.2.2.2.1, zOT_k D4.2.2 ht, g5, zBv_some]
    exact ⟨h5, rfl, Rd_15 e5 R4, ⟨D5, by rw [e5]; exact D4.2.1, by rw [f5.1]; exact D4.2.2⟩, rF_t (rF_s f4) f5⟩
theorem Rd_pe37_d (sc : zSc) (d : Nat) (h : zHp) {tl : Nat} {tb : Nat → Nat} (X : TxD h tl tb) (o : txOK tl tb) (h7 : ¬ h.1 15 7 = 0) (a : Int32) : zE sc (d + 3) 46 37 [some (.ref 15), none] [.int a] zGL h = some (none, zGL, h) := by
  rw [E_Rd_readPerson_37 sc (d + 2), Rd_end_d sc d h X o h7, zBv_some, if_neg h7]
theorem Rd_person (sc : zSc) (d : Nat) (h : zHp) {tl : Nat} {tb : Nat → Nat} (X : TxD h tl tb) (o : txOK tl tb) {t : Nat} {T : TT} (ht : zTw t = true) (O : rdO T) (D : TR h t T) {p : Nat} (hp : p ≤ tl) (R : Rd h tl tb p) : cR (zRun sc (d + 6) 46 [.ref 15] zGL h) t tl tb h (peP tl tb T (skP tl tb p)) := by
  have h15 := tw_15 ht
  have hF6 := O.1
  have hP5 := O.2.1
  obtain ⟨r3, r4, r5, r6, r7, r8⟩ := R
  obtain ⟨s1, s2⟩ := sk_b tb hp
  obtain ⟨e1, e2, -⟩ := tkE_b (tb := tb) s2
  unfold peP
  rw [E_Rd_readPerson sc (d + 5), zOT_k D.2.2 ht, show h.1 t 1 = nI T.P from D.1.2.1]
  by_cases hP : T.P = 5
  · have dd : dD (zPI (zPI h 15 7 (nI 3)) 15 8 (h.1 15 4)) (3, skP tl tb p) := dD_mk (by decide) (by decide) r4
    have X1 : TxD (zPI (zPI h 15 7 (nI 3)) 15 8 (h.1 15 4)) tl tb := sF_X sF_f X
    obtain ⟨w, e⟩ := Rd_word_y sc d _ X1 o (j := 4) (by decide)
    have e' : zRun sc (d + 5) 29 [.ref 15, .ref 1004] zGL (zPI (zPI h 15 7 (nI 3)) 15 8 (h.1 15 4)) = some (some (.int w), zGL, zPI (zPI h 15 7 (nI 3)) 15 8 (h.1 15 4)) := e
    rw [if_pos hP, if_pos (show nI T.P = (5 : Int32) by rw [hP]; rfl), Rd_fail_a sc (d + 4) h r7, zBv_some]
    refine ⟨_, ?_, dd, rF_s sF_f⟩
    show zE sc (d + 6) 46 16 [some (.ref 15), none] [] zGL (zPI (zPI h 15 7 (nI 3)) 15 8 (h.1 15 4)) = _
    rw [E_Rd_readPerson_16 sc (d + 5), Rd_step_d sc (d + 4) _ dd.2.2, zBv_some, e', zBi_some, Rd_pe37_d sc (d + 3) _ X1 o dd.2.2, Rd_list_d sc (d + 2) _ dd.2.2 ht D.2.2, zBi_some, Rd_pe37_d sc (d + 3) _ X1 o dd.2.2]
    split <;> rfl
  · rw [if_neg hP, if_neg (iN (m := 5) (n := 5) rfl hP (by omega) (by decide)), E_Rd_readPerson_16 sc (d + 5)]
    obtain ⟨h3, g1, R3, f3⟩ := Rd_step sc (d + 4) h X o e2 r5 r7 r8
    have X3 := sF_X f3 X
    have D3 := TR_s ht f3 D
    have w2 : zRun sc (d + 5) 29 [.ref 15, .ref 1004] zGL h3 = some (some (.int (bI (wdQ tl tb (skP tl tb (tkE tl tb (skP tl tb p))) 4))), zGL, h3) := Rd_word sc d h3 X3 o e2 R3 (j := 4) (by decide)
    rw [g1, zBv_some, w2, zBi_some]
    cases hw : wdQ tl tb (skP tl tb (tkE tl tb (skP tl tb p))) 4 with
    | false =>
      rw [if_pos (show bI false = 0 from rfl), if_neg (by decide)]
      exact cR_h rfl (rF_s f3) (Rd_pe37 sc (d + 3) h3 X3 o ht D3 (by omega) e2 R3 0)
    | true =>
      rw [if_neg (show ¬ bI true = 0 by decide), if_pos rfl]
      obtain ⟨j1, j2⟩ := sk_b tb e2
      obtain ⟨l1, l2, -⟩ := tkE_b (tb := tb) j2
      obtain ⟨i1, i2⟩ := Rd_list sc (d + 2) h3 o ht hF6 l2 X3 D3.2.2 D3.1.1 R3.2.2.1 R3.2.2.2.2.1 R3.2.2.2.2.2
      cases hl : liP tl tb T.F 7 (tkE tl tb (skP tl tb (tkE tl tb (skP tl tb p)))) 0 with
      | inl f =>
        obtain ⟨h4, v4, g4, dd, f4⟩ := i1 f hl
        rw [g4, zBi_some, Rd_pe37_d sc (d + 3) h4 (sF_X f4 X3) o dd.2.2]
        exact ⟨h4, rfl, dd, rF_s (sF_t f3 f4)⟩
      | inr q =>
        obtain ⟨e4, a4⟩ := q
        obtain ⟨c1, c2, c3, h4, g4, R4, f4⟩ := i2 e4 a4 hl
        rw [g4, zBi_some]
        exact cR_h rfl (rF_s (sF_t f3 f4)) (Rd_pe37 sc (d + 3) h4 (sF_X f4 X3) o ht (TR_s ht f4 D3) (by omega) c1 R4 a4)
theorem cR_v {x : Option zRs} {t tl : Nat} {tb : Nat → Nat} {h : zHp} : ∀ {r : PF ⊕ (Nat × TT)}, cR x t tl tb h r → cR (zBv x zGL fun h1 => some (none, zGL, h1)) t tl tb h r
  | .inl _, ⟨h', a, b⟩ => ⟨h', by rw [a, zBv_some], b⟩
  | .inr _, ⟨h', a, b⟩ => ⟨h', by rw [a, zBv_some], b⟩
theorem Rd_clause (sc : zSc) (d : Nat) (h : zHp) {tl : Nat} {tb : Nat → Nat} (X : TxD h tl tb) (o : txOK tl tb) {t : Nat} {T : TT} (ht : zTw t = true) (O : rdO T) (D : TR h t T) {p : Nat} (hp : p ≤ tl) (R : Rd h tl tb p) : cR (zRun sc (d + 7) 28 [.ref 15] zGL h) t tl tb h (clP tl tb T (skP tl tb p)) := by
  have w0 : zRun sc (d + 6) 29 [.ref 15, .ref 1000] zGL h = some (some (.int (bI (wdQ tl tb (skP tl tb p) 0))), zGL, h) := Rd_word sc (d + 1) h X o hp R (j := 0) (by decide)
  have w1 : zRun sc (d + 6) 29 [.ref 15, .ref 1001] zGL h = some (some (.int (bI (wdQ tl tb (skP tl tb p) 1))), zGL, h) := Rd_word sc (d + 1) h X o hp R (j := 1) (by decide)
  have w3 : zRun sc (d + 6) 29 [.ref 15, .ref 1003] zGL h = some (some (.int (bI (wdQ tl tb (skP tl tb p) 3))), zGL, h) := Rd_word sc (d + 1) h X o hp R (j := 3) (by decide)
  unfold clP
  rw [E_Rd_readClause sc (d + 6), w0, zBi_some]
  cases c0 : wdQ tl tb (skP tl tb p) 0 with
  | true =>
    rw [if_neg (show ¬ bI true = 0 by decide), if_pos rfl]
    exact cR_v (Rd_hats sc (d + 3) h X o ht D hp R)
  | false =>
    rw [if_pos (show bI false = 0 from rfl), if_neg (by decide), w1, zBi_some]
    cases c1 : wdQ tl tb (skP tl tb p) 1 with
    | true =>
      rw [if_neg (show ¬ bI true = 0 by decide), if_pos rfl]
      exact cR_v (Rd_fact sc d h X o ht O D hp R)
    | false =>
      rw [if_pos (show bI false = 0 from rfl), if_neg (by decide), w3, zBi_some]
      cases c3 : wdQ tl tb (skP tl tb p) 3 with
      | true =>
        rw [if_neg (show ¬ bI true = 0 by decide), if_pos rfl]
        exact cR_v (Rd_person sc d h X o ht O D hp R)
      | false =>
        rw [if_pos (show bI false = 0 from rfl), if_neg (by decide), Rd_fail_a sc (d + 5) h R.2.2.2.2.1, zBv_some]
        exact ⟨_, rfl, dD_mk (by decide) (by decide) R.2.1, rF_s sF_f⟩
def rdR (x : Option zRs) (t : Nat) (h : zHp) : PF ⊕ TT → Prop
  | .inl f => ∃ h', x = some (some (.int (nI f.1)), zGL, h') ∧ h'.1 15 8 = nI f.2 ∧ ¬ nI f.1 = 0 ∧ rF t h h'
  | .inr T => ∃ h', x = some (some (.int 0), zGL, h') ∧ h'.1 15 8 = -1 ∧ TnD h' t (fxC T) ∧ rdO T ∧ rF t h h'
theorem rdR_h {x y : Option zRs} {t : Nat} {h h1 : zHp} (e : x = y) (f : rF t h h1) : ∀ {r : PF ⊕ TT}, rdR y t h1 r → rdR x t h r
  | .inl _, ⟨h', a, b, c, k⟩ => ⟨h', e.trans a, b, c, rF_t f k⟩
  | .inr _, ⟨h', a, b, c, k, l⟩ => ⟨h', e.trans a, b, c, k, rF_t f l⟩
theorem Rd_read_l (sc : zSc) (d : Nat) {tl : Nat} {tb : Nat → Nat} (o : txOK tl tb) {t : Nat} (ht : zTw t = true) : ∀ n k p T h, k + n = 400 → k ≤ p → p ≤ tl → rdO T → TxD h tl tb → Rd h tl tb p → TR h t T → rdR (zE sc (d + 8) 23 38 [some (.ref 15), none, some (.int (nI k))] [] zGL h) t h (tnP tl tb n p T) := by
  intro n
  induction n with
  | zero =>
    intro k p T h hk hkp hp O X R D
    rw [E_Rd_read_38 sc (d + 7), if_neg (iG (m := 400) (n := 400) rfl (by omega) (by omega)), R.2.2.2.2.1]
    exact ⟨h, rfl, R.2.2.2.2.2, D.1, O, rF_s (sF_r h)⟩
  | succ n ih =>
    intro k p T h hk hkp hp O X R D
    have ht4 := o.1
    obtain ⟨s1, s2⟩ := sk_b tb hp
    have hkd := kd_lt tl tb (skP tl tb p)
    rw [E_Rd_read_38 sc (d + 7), if_pos (iL (m := 400) (n := 400) rfl (by omega) (by decide)), R.1, R.2.2.2.2.1, tnP]
    by_cases hs : skP tl tb p < tl
    · have hk0 : ¬ kdN tl tb (skP tl tb p) = 0 := fun z => by have := kd_0.mp z; omega
      rw [if_pos hs, if_neg (nI_ne0 (by omega) (by omega)), if_pos rfl]
      have hc := Rd_clause sc d h X o ht O D hp R
      cases hcl : clP tl tb T (skP tl tb p) with
      | inl f =>
        rw [hcl] at hc
        obtain ⟨h1, g1, dd, f1⟩ := hc
        rw [g1, zBv_some]
        refine ⟨h1, ?_, dd.2.1, by rw [← dd.1]; exact dd.2.2, f1⟩
        rw [E_Rd_read_38 sc (d + 7), if_neg dd.2.2, dd.1]
        repeat' split
        all_goals rfl
      | inr q =>
        obtain ⟨p', T'⟩ := q
        rw [hcl] at hc
        obtain ⟨h1, g1, R1, D1, f1⟩ := hc
        obtain ⟨b1, b2, b3⟩ := clP_b s2 O hcl
        rw [g1, zBv_some, nI_1]
        exact rdR_h rfl f1 (ih (k + 1) p' T' h1 (by omega) (by omega) b2 b3 (rF_X ht f1 X) R1 D1)
    · rw [if_neg hs, if_pos (show nI (kdN tl tb (skP tl tb p)) = 0 by rw [kd_0.mpr (by omega)]; rfl)]
      exact ⟨h, rfl, R.2.2.2.2.2, D.1, O, rF_s (sF_r h)⟩
/-- nothing but the reader and the draft town's first four rows -/
def qF (t : Nat) (h h' : zHp) : Prop := (∀ x, x ≠ 15 → (x < t ∨ t + 4 ≤ x) → h'.1 x = h.1 x) ∧ h'.2.1 = h.2.1 ∧ ∀ x, x ≠ 15 → h'.2.2 x = h.2.2 x
def reR (x : Option zRs) (t : Nat) (h : zHp) : PF ⊕ TT → Prop
  | .inl f => ∃ h', x = some (some (.int (nI f.1)), zGL, h') ∧ h'.1 15 8 = nI f.2 ∧ ¬ nI f.1 = 0 ∧ qF t h h'
  | .inr T => ∃ h', x = some (some (.int 0), zGL, h') ∧ h'.1 15 8 = -1 ∧ TnD h' t (fxC T) ∧ rdO T ∧ qF t h h'
theorem Rd_read (sc : zSc) (d : Nat) (h : zHp) {tl : Nat} {tb : Nat → Nat} (X : TxD h tl tb) (o : txOK tl tb) {t : Nat} (ht : zTw t = true) : reR (zRun sc (d + 8) 23 [.ref 15, .ref t] zGL h) t h (tnP tl tb 400 0 tn0) := by
  have h15 := tw_15 ht
  rw [E_Rd_read sc (d + 7) h t (zTw_6 ht), zOT_k (t := t) (by rw [zPR_3, if_pos ⟨rfl, rfl⟩]) ht, E_Tn_clear sc _ zGL _ t (zTw_6 ht), zBv_some]
  generalize hz : zPI (zPI (zPI (zPR h 15 1 t) t 0 0) t 1 0) t 2 10 = h2
  have f2 : qF t h h2 := by
    rw [← hz]
    refine ⟨fun x h1 h2 => ?_, rfl, fun x hx => ?_⟩
    · funext y
      rw [zPI_1, if_neg (by omega), zPI_1, if_neg (by omega), zPI_1, if_neg (by omega)]
      rfl
    · funext y
      show (zPR h 15 1 t).2.2 x y = _
      rw [zPR_3, if_neg (fun z => hx z.1)]
  have r2 : h2.2.2 15 1 = some t := by rw [← hz]; show (zPR h 15 1 t).2.2 15 1 = _; rw [zPR_3, if_pos ⟨rfl, rfl⟩]
  have D2 : TnD h2 t (fxC tn0) := by
    rw [← hz]
    refine ⟨?_, ?_, ?_, fun f hf => absurd hf (Nat.not_lt_zero f), fun p hp => absurd hp (Nat.not_lt_zero p)⟩
    · rw [zPI_1, if_neg (by omega), zPI_1, if_neg (by omega), zPI_1, if_pos ⟨rfl, rfl⟩]; rfl
    · rw [zPI_1, if_neg (by omega), zPI_1, if_pos ⟨rfl, rfl⟩]; rfl
    · rw [zPI_1, if_pos ⟨rfl, rfl⟩]; rfl
  generalize hz3 : zPI (zPI (zPI (zPI h2 15 2 0) 15 7 0) 15 8 (-1)) 15 5 0 = h3
  have f3 : rF t h2 h3 := by rw [← hz3]; exact rF_t rF_15 (rF_t rF_15 (rF_t rF_15 rF_15))
  have e3 : ∀ x, x ≠ 15 → h3.1 x = h2.1 x := fun x hx => by
    rw [← hz3]
    funext y
    rw [zPI_1, if_neg (fun z => hx z.1), zPI_1, if_neg (fun z => hx z.1), zPI_1, if_neg (fun z => hx z.1), zPI_1, if_neg (fun z => hx z.1)]
  have h3t : 3 ≤ t := by
    have := ht
    unfold zTw at this
    simp at this
    omega
  have X3 : TxD h3 tl tb := by
    unfold TxD at X ⊢
    rw [e3 1 (by decide), e3 2 (by decide), f2.1 1 (by decide) (by omega), f2.1 2 (by decide) (by omega)]
    exact X
  have D3 : TR h3 t tn0 := by
    refine ⟨?_, by rw [← hz3]; rfl, by rw [f3.1]; exact r2⟩
    unfold TnD at D2 ⊢
    rw [e3 t (by omega), e3 (t + 1) (by omega), e3 (t + 2) (by omega), e3 (t + 3) (by omega)]
    exact D2
  obtain ⟨h4, g4, R4, f4⟩ := Rd_step sc (d + 6) h3 X3 o (Nat.zero_le tl) (by rw [← hz3]; rfl) (by rw [← hz3]; rfl) (by rw [← hz3]; rfl)
  have hO : rdO tn0 := ⟨by decide, by decide, .inl rfl, fun f hf => absurd hf (Nat.not_lt_zero f), fun p hp => absurd hp (Nat.not_lt_zero p)⟩
  have key := Rd_read_l sc d o ht 400 0 0 tn0 h4 rfl (Nat.le_refl _) (Nat.zero_le _) hO (sF_X f4 X3) R4 (TR_s ht f4 D3)
  have hq : ∀ h', rF t h4 h' → qF t h h' := fun h' f5 => by
    have fA := rF_t f3 (rF_t (rF_s f4) f5)
    refine ⟨fun x h1 h2 => (fA.2 x h1 h2).trans (f2.1 x h1 h2), by rw [fA.1]; exact f2.2.1, fun x hx => by rw [fA.1]; exact f2.2.2 x hx⟩
  rw [g4, zBv_some]
  cases hr : tnP tl tb 400 0 tn0 with
  | inl f =>
    rw [hr] at key
    obtain ⟨h', k1, k2, k3, k4⟩ := key
    exact ⟨h', k1, k2, k3, hq h' k4⟩
  | inr T =>
    rw [hr] at key
    obtain ⟨h', k1, k2, k3, k4, k5⟩ := key
    exact ⟨h', k1, k2, k3, k4, hq h' k5⟩
