/-! ===== the class's reader: clauses; the whole text ===== -/
theorem nuQ_b {tl : Nat} {tb : Nat → Nat} {lo hb s e v : Nat} (hs : s ≤ tl) (h : nuQ tl tb lo hb s = .inr (e, v)) : kdN tl tb s = 2 ∧ e = tkE tl tb s ∧ v = tkV tl tb s ∧ s < e ∧ e ≤ tl ∧ lo ≤ v ∧ v < hb ∧ e - s ≤ 3 := by
  unfold nuQ at h
  split at h
  · rename_i h2
    split at h
    · cases h
    · rename_i hb
      cases h
      have := tkE_b (tb := tb) hs
      have h3 := (kd_2.mp h2).1
      refine ⟨h2, rfl, rfl, this.2.2 h3, this.2.1, by omega, by omega, by omega⟩
  · cases h
theorem liP_b {tl : Nat} {tb : Nat → Nat} {F e a' : Nat} : ∀ n p a, p ≤ tl → a < 2 ^ F → liP tl tb F n p a = .inr (e, a') → e ≤ tl ∧ p ≤ e ∧ a' < 2 ^ F := by
  intro n
  induction n with
  | zero =>
    intro p a hp ha h
    cases h
    exact ⟨hp, Nat.le_refl _, ha⟩
  | succ n ih =>
    intro p a hp ha h
    rw [liP] at h
    cases hn : nuQ tl tb 0 F (skP tl tb p) with
    | inl f => rw [hn] at h; cases h
    | inr q =>
      obtain ⟨e1, v⟩ := q
      obtain ⟨s1, s2⟩ := sk_b tb hp
      obtain ⟨-, -, -, b1, b2, -, b3, -⟩ := nuQ_b s2 hn
      rw [hn] at h
      dsimp only at h
      split at h
      · cases h
      · split at h
        · rename_i hsg
          have h1 := (sg_3 hsg).2
          have h2 := (sk_b tb b2).1
          have := ih _ _ h1 (or_ltF ha b3) h
          omega
        · cases h
          exact ⟨b2, by omega, or_ltF ha b3⟩
def rdO (T : TT) : Prop := T.F ≤ 6 ∧ T.P ≤ 5 ∧ (T.C = 0 ∨ (2 ≤ T.C ∧ T.C ≤ 99)) ∧ (∀ f, f < T.F → T.w f ≤ 99 ∧ T.fo f < 2 ^ f) ∧ ∀ p, p < T.P → T.tk p < 2 ^ T.F
theorem rdO_T {T : TT} (O : rdO T) : TOK (fxC T) := by
  obtain ⟨o1, o2, o3, o4, o5⟩ := O
  refine ⟨o1, o2, ?_, ?_, o4, o5⟩
  · show 2 ≤ (if T.C = 0 then 10 else T.C)
    split <;> omega
  · show (if T.C = 0 then 10 else T.C) ≤ 99
    split <;> omega
theorem rdO_F {T : TT} (O : rdO T) (hF : T.F < 6) (hP : T.P = 0) {v a : Nat} (hv : v ≤ 99) (ha : a < 2 ^ T.F) : rdO (adF T v a) := by
  obtain ⟨o1, o2, o3, o4, o5⟩ := O
  refine ⟨hF, o2, o3, fun f hf => ?_, fun p hp => by have : p < T.P := hp; omega⟩
  show updN T.w T.F v f ≤ 99 ∧ updN T.fo T.F a f < 2 ^ f
  have hf' : f < T.F + 1 := hf
  unfold updN
  by_cases he : f = T.F
  · rw [if_pos he, if_pos he, he]; exact ⟨hv, ha⟩
  · rw [if_neg he, if_neg he]; exact o4 f (by omega)
theorem rdO_P {T : TT} (O : rdO T) (hP : T.P < 5) {a : Nat} (ha : a < 2 ^ T.F) : rdO (adP T a) := by
  obtain ⟨o1, o2, o3, o4, o5⟩ := O
  refine ⟨o1, hP, o3, o4, fun p hp => ?_⟩
  show updN T.tk T.P a p < 2 ^ T.F
  have hp' : p < T.P + 1 := hp
  unfold updN
  by_cases he : p = T.P
  · rw [if_pos he]; exact ha
  · rw [if_neg he]; exact o5 p (by omega)
theorem rdO_C {T : TT} (O : rdO T) {v : Nat} (h2 : 2 ≤ v) (h9 : v < 100) : rdO (seC T v) := ⟨O.1, O.2.1, .inr ⟨h2, show v ≤ 99 by omega⟩, O.2.2.2.1, O.2.2.2.2⟩
theorem fiP_b {tl : Nat} {tb : Nat → Nat} {T T' : TT} {e p : Nat} (h : fiP tl tb T e = .inr (p, T')) : sgQ tl tb (skP tl tb e) 59 = true ∧ p = skP tl tb e + 1 ∧ T' = T := by
  unfold fiP at h
  split at h
  · cases h; exact ⟨by assumption, rfl, rfl⟩
  · cases h
theorem clP_b {tl : Nat} {tb : Nat → Nat} {T T' : TT} {s p : Nat} (hs : s ≤ tl) (O : rdO T) (h : clP tl tb T s = .inr (p, T')) : s < p ∧ p ≤ tl ∧ rdO T' := by
  have hfi : ∀ {T1 : TT} {e : Nat}, s ≤ e → e ≤ tl → rdO T1 → fiP tl tb T1 e = .inr (p, T') → s < p ∧ p ≤ tl ∧ rdO T' := by
    intro T1 e h1 h2 O1 hf
    obtain ⟨a1, a2, a3⟩ := fiP_b hf
    have := (sk_b tb h2).1
    have := (sg_3 a1).2
    rw [a3]
    exact ⟨by omega, by omega, O1⟩
  obtain ⟨e1, e2, -⟩ := tkE_b (tb := tb) hs
  obtain ⟨k1, k2⟩ := sk_b tb e2
  unfold clP at h
  split at h
  · unfold htP at h
    split at h
    · cases hn : nuQ tl tb 2 100 (skP tl tb (tkE tl tb s)) with
      | inl f => rw [hn] at h; cases h
      | inr q =>
        obtain ⟨e, v⟩ := q
        obtain ⟨-, -, -, b1, b2, b3, b4, -⟩ := nuQ_b k2 hn
        rw [hn] at h
        exact hfi (by omega) b2 (rdO_C O b3 b4) h
    · cases h
  · split at h
    · unfold faP at h
      split at h
      · cases h
      · rename_i hP
        split at h
        · cases h
        · rename_i hF
          have hF6 := O.1
          cases hn : nuQ tl tb 1 100 (skP tl tb (tkE tl tb s)) with
          | inl f => rw [hn] at h; cases h
          | inr q =>
            obtain ⟨e, v⟩ := q
            obtain ⟨-, -, -, b1, b2, b3, b4, -⟩ := nuQ_b k2 hn
            obtain ⟨j1, j2⟩ := sk_b tb b2
            obtain ⟨l1, l2, -⟩ := tkE_b (tb := tb) j2
            rw [hn] at h
            dsimp only at h
            split at h
            · cases hl : liP tl tb T.F 7 (tkE tl tb (skP tl tb e)) 0 with
              | inl f => rw [hl] at h; cases h
              | inr q =>
                obtain ⟨e2', a⟩ := q
                obtain ⟨m1, m2, m3⟩ := liP_b 7 _ 0 l2 (Nat.two_pow_pos _) hl
                rw [hl] at h
                exact hfi (by omega) m1 (rdO_F O (by omega) (by omega) (by omega) m3) h
            · exact hfi (by omega) b2 (rdO_F O (by omega) (by omega) (by omega) (Nat.two_pow_pos _)) h
    · split at h
      · unfold peP at h
        split at h
        · cases h
        · rename_i hP
          have hP5 := O.2.1
          obtain ⟨l1, l2, -⟩ := tkE_b (tb := tb) k2
          split at h
          · cases hl : liP tl tb T.F 7 (tkE tl tb (skP tl tb (tkE tl tb s))) 0 with
            | inl f => rw [hl] at h; cases h
            | inr q =>
              obtain ⟨e2', a⟩ := q
              obtain ⟨m1, m2, m3⟩ := liP_b 7 _ 0 l2 (Nat.two_pow_pos _) hl
              rw [hl] at h
              exact hfi (by omega) m1 (rdO_P O (by omega) m3) h
          · exact hfi e1 e2 (rdO_P O (by omega) (Nat.two_pow_pos _)) h
      · cases h
def TR (h : zHp) (t : Nat) (T : TT) : Prop := TnD h t (fxC T) ∧ h.1 15 2 = bI (decide (T.C ≠ 0)) ∧ h.2.2 15 1 = some t
def rF (t : Nat) (h h' : zHp) : Prop := h'.2 = h.2 ∧ ∀ x, x ≠ 15 → (x < t ∨ t + 4 ≤ x) → h'.1 x = h.1 x
theorem rF_t {t : Nat} {a b c : zHp} (h1 : rF t a b) (h2 : rF t b c) : rF t a c := ⟨h2.1.trans h1.1, fun x hx hy => (h2.2 x hx hy).trans (h1.2 x hx hy)⟩
theorem rF_s {t : Nat} {h h' : zHp} (f : sF h h') : rF t h h' := ⟨f.1, fun x hx _ => f.2.1 x hx⟩
theorem rF_X {t : Nat} (ht : zTw t = true) {h h' : zHp} {tl : Nat} {tb : Nat → Nat} (f : rF t h h') (X : TxD h tl tb) : TxD h' tl tb := by
  have h3 : 3 ≤ t := by
    unfold zTw at ht
    simp at ht
    omega
  unfold TxD at X ⊢
  rw [f.2 1 (by decide) (by omega), f.2 2 (by decide) (by omega)]
  exact X
theorem TR_s {t : Nat} {T : TT} (ht : zTw t = true) {h h' : zHp} (f : sF h h') (D : TR h t T) : TR h' t T := ⟨sF_d f ht D.1, by rw [f.2.2 2 (by decide)]; exact D.2.1, by rw [f.1]; exact D.2.2⟩
def cR (x : Option zRs) (t tl : Nat) (tb : Nat → Nat) (h : zHp) : PF ⊕ (Nat × TT) → Prop
  | .inl f => ∃ h', x = some (none, zGL, h') ∧ dD h' f ∧ rF t h h'
  | .inr q => ∃ h', x = some (none, zGL, h') ∧ Rd h' tl tb q.1 ∧ TR h' t q.2 ∧ rF t h h'
theorem cR_h {x y : Option zRs} {t tl : Nat} {tb : Nat → Nat} {h h1 : zHp} (e : x = y) (f : rF t h h1) : ∀ {r : PF ⊕ (Nat × TT)}, cR y t tl tb h1 r → cR x t tl tb h r
  | .inl _, ⟨h', a, b, c⟩ => ⟨h', e.trans a, b, rF_t f c⟩
  | .inr _, ⟨h', a, b, c, k⟩ => ⟨h', e.trans a, b, c, rF_t f k⟩
theorem rF_I {t : Nat} {h : zHp} {a k : Nat} {v : Int32} (h1 : t ≤ a) (h2 : a < t + 4) : rF t h (zPI h a k v) := ⟨rfl, fun x _ hx => funext fun y => if_neg (fun z => by omega)⟩
theorem rF_15 {t : Nat} {h : zHp} {k : Nat} {v : Int32} : rF t h (zPI h 15 k v) := ⟨rfl, fun x h1 _ => funext fun y => if_neg (fun z => h1 z.1)⟩
theorem Rd_hats (sc : zSc) (d : Nat) (h : zHp) {tl : Nat} {tb : Nat → Nat} (X : TxD h tl tb) (o : txOK tl tb) {t : Nat} {T : TT} (ht : zTw t = true) (D : TR h t T) {p : Nat} (hp : p ≤ tl) (R : Rd h tl tb p) : cR (zRun sc (d + 3) 37 [.ref 15] zGL h) t tl tb h (htP tl tb T (skP tl tb p)) := by
  have h15 := tw_15 ht
  obtain ⟨r3, r4, r5, r6, r7, r8⟩ := R
  obtain ⟨s1, s2⟩ := sk_b tb hp
  obtain ⟨e1, e2, -⟩ := tkE_b (tb := tb) s2
  unfold htP
  rw [E_Rd_readHats sc (d + 2), D.2.1]
  by_cases hc : T.C = 0
  · rw [if_pos hc, if_pos (show bI (decide (T.C ≠ 0)) = 0 by simp [hc, bI])]
    have f1 : rF t h (zPI h 15 2 1) := rF_15
    obtain ⟨h2, g1, R2, f2⟩ := Rd_step sc (d + 1) (zPI h 15 2 1) (rF_X ht f1 X) o e2 r5 r7 r8
    have X2 := sF_X f2 (rF_X ht f1 X)
    have f2' := rF_t f1 (rF_s f2)
    have D0 : TnD (zPI h 15 2 1) t (fxC T) := by
      unfold TnD
      have z : ∀ x, x ≠ 15 → (zPI h 15 2 1).1 x = h.1 x := fun x hx => funext fun y => if_neg (fun z => hx z.1)
      rw [z t (by omega), z (t + 1) (by omega), z (t + 2) (by omega), z (t + 3) (by omega)]
      exact D.1
    have D2 : TnD h2 t (fxC T) := sF_d f2 ht D0
    have d22 : h2.1 15 2 = 1 := by rw [f2.2.2 2 (by decide)]; rfl
    have hr2 : h2.2.2 15 1 = some t := by rw [f2.1]; exact D.2.2
    obtain ⟨n1, n2⟩ := Rd_num sc d h2 X2 o e2 R2 (lo := 2) (hb := 100) (hi := 99) (by decide) rfl
    rw [g1, zBv_some]
    cases hnu : nuQ tl tb 2 100 (skP tl tb (tkE tl tb (skP tl tb p))) with
    | inl f =>
      obtain ⟨h3, v, g3, dd, f3⟩ := n1 f hnu
      have g3' : zRun sc (d + 2) 40 [.ref 15, .int 2, .int 99] zGL h2 = some (some (.int v), zGL, h3) := g3
      rw [g3', zBi_some, Rd_end_d sc d h3 (sF_X f3 X2) o dd.2.2, zBv_some, if_neg dd.2.2]
      exact ⟨h3, rfl, dd, rF_t f2' (rF_s f3)⟩
    | inr q =>
      obtain ⟨e, v⟩ := q
      obtain ⟨b1, b2, b3, b4, h3, g3, R3, f3⟩ := n2 e v hnu
      have g3' : zRun sc (d + 2) 40 [.ref 15, .int 2, .int 99] zGL h2 = some (some (.int (nI v)), zGL, h3) := g3
      have X3 := sF_X f3 X2
      obtain ⟨m1, m2⟩ := Rd_end sc d h3 X3 o b1 R3
      rw [g3', zBi_some]
      dsimp only
      unfold fiP
      cases hsg : sgQ tl tb (skP tl tb e) 59 with
      | false =>
        obtain ⟨h4, g4, dd, f4⟩ := m1 hsg
        rw [g4, zBv_some, if_neg dd.2.2]
        exact ⟨h4, rfl, dd, rF_t f2' (rF_t (rF_s f3) (rF_s f4))⟩
      | true =>
        obtain ⟨-, h4, g4, R4, f4⟩ := m2 hsg
        have f34 := sF_t f3 f4
        have D4 : TnD h4 t (fxC T) := sF_d f34 ht D2
        rw [g4, zBv_some, if_pos R4.2.2.2.2.1, zOT_k (t := t) (by rw [f34.1]; exact hr2) ht]
        have z : ∀ k, (zPI h4 t 2 (nI v)).1 15 k = h4.1 15 k := fun k => if_neg (fun z => by omega)
        refine ⟨_, rfl, ?_, ⟨?_, ?_, ?_⟩, rF_t f2' (rF_t (rF_s f34) (rF_I (by omega) (by omega)))⟩
        · unfold Rd
          simp only [z]
          exact R4
        · obtain ⟨q1, q2, q3, q4, q5⟩ := D4
          refine ⟨?_, ?_, ?_, fun f hf => ?_, fun p hp => ?_⟩
          · rw [zPI_1, if_neg (by omega)]; exact q1
          · rw [zPI_1, if_neg (by omega)]; exact q2
          · rw [zPI_1, if_pos ⟨rfl, rfl⟩]
            show nI v = nI (if v = 0 then 10 else v)
            rw [if_neg (by omega)]
          · rw [zPI_1, if_neg (by omega), zPI_1, if_neg (by omega)]; exact q4 f hf
          · rw [zPI_1, if_neg (by omega)]; exact q5 p hp
        · rw [z, f34.2.2 2 (by decide), d22]
          show (1 : Int32) = bI (decide (v ≠ 0))
          rw [decide_eq_true (show v ≠ 0 by omega)]
          rfl
        · show h4.2.2 15 1 = some t
          rw [f34.1]; exact hr2
  · rw [if_neg hc, if_neg (show ¬ bI (decide (T.C ≠ 0)) = 0 by simp [hc, bI]), Rd_fail_a sc (d + 1) h r7, zBv_some]
    exact ⟨_, rfl, dD_mk (by decide) (by decide) r4, rF_s sF_f⟩
