/-! ===== the reference's reader: numbers, lists ===== -/
theorem tkE_2 {tl : Nat} {tb : Nat → Nat} {s : Nat} (h : kdN tl tb s = 2) : tkE tl tb s = ruK tl tb 2 s := by
  unfold tkE
  rw [if_neg (by omega), if_neg (by omega), h]
def mfl (h : zHp) (f : PF) : Prop := h.1 46 17 = nI f.2 ∧ 0 < f.1 ∧ f.1 < 5
theorem mfl_mk {h : zHp} {f n : Nat} (h1 : h.1 46 17 = nI n) (hf : 0 < f) (hf2 : f < 5) : mfl h (f, n) := ⟨h1, hf, hf2⟩
theorem Mo_num (sc : zSc) (d : Nat) (h : zHp) {tl : Nat} {tb : Nat → Nat} (X : MoX h tl tb) (o : txOK tl tb) {p : Nat} (hp : p ≤ tl) (A : AtP h tl tb p) {lo hb : Nat} {hi : Int32} (hlo : lo < 1000) (hhi : hi.toInt = (hb : Int) - 1) : (∀ f, nuQ tl tb lo hb (skP tl tb p) = .inl f → ∃ h', zRun sc (d + 1) 140 [.ref 46, .int (nI lo), .int hi] zGL h = some (some (.int (nI f.1)), zGL, h') ∧ mfl h' f ∧ mFr [] [17, 18, 21, 22] h h') ∧ (∀ e v, nuQ tl tb lo hb (skP tl tb p) = .inr (e, v) → ∃ h', zRun sc (d + 1) 140 [.ref 46, .int (nI lo), .int hi] zGL h = some (some (.int 0), zGL, h') ∧ h'.1 46 18 = nI e ∧ h'.1 46 21 = nI v ∧ h'.1 46 22 = nI (skP tl tb p) ∧ h'.1 46 17 = h.1 46 17 ∧ mFr [] [17, 18, 21, 22] h h') := by
  have ht := o.1
  obtain ⟨s1, s2⟩ := sk_b tb hp
  have hin : zRun sc d 132 [.long (hrV tl tb (skP tl tb p)).toInt64, .long 48, .long 57] zGL (zPI h 46 18 (nI (skP tl tb p))) = some (some (.int (bI (decide (¬ hrV tl tb (skP tl tb p) < 48 ∧ ¬ 57 < hrV tl tb (skP tl tb p))))), zGL, zPI h 46 18 (nI (skP tl tb p))) := Mo_in' sc d _ _ 48 57
  rw [E_Mo_takeNumber, Mo_here sc d h X o A, zBi_some, hin, zBi_some, hr_dg o]
  generalize skP tl tb p = s at s1 s2 ⊢
  have hv := tkV_b (tl := tl) (tb := tb) s
  unfold nuQ
  by_cases h2 : kdN tl tb s = 2
  · have hs := (kd_2.mp h2).1
    rw [if_pos h2, decide_eq_true h2, if_neg (show ¬ bI true = 0 by decide)]
    generalize hz : zPI (zPI (zPI h 46 18 (nI s)) 46 22 ((zPI h 46 18 (nI s)).1 46 18)) 46 21 0 = h0
    have f0 : mFr [] [17, 18, 21, 22] h h0 := by rw [← hz]; exact mFr_t (mFr_f (by decide)) (mFr_t (mFr_f (by decide)) (mFr_f (by decide)))
    have X0 := MoX_m f0 (by decide) (by decide) X
    have i22 : h0.1 46 22 = nI s := by rw [← hz]; rfl
    have i17 : h0.1 46 17 = h.1 46 17 := by rw [← hz]; rfl
    have key : ∀ m i h1, i + m = tl → s ≤ i → mFr [] [18, 21] h0 h1 → h1.1 46 18 = nI i → (i - s ≤ 3 → h1.1 46 21 = nI (vN tb s (i - s))) → (∀ j, s ≤ j → j < i → tb j ≤ 57) → ∃ h2, zE sc (d + 1) 140 42 [some (.ref 46), some (.int (nI lo)), some (.int hi), none] [] zGL h1 = zE sc (d + 1) 140 129 [some (.ref 46), some (.int (nI lo)), some (.int hi), none] [] zGL h2 ∧ h2.1 46 18 = nI (ruK tl tb 2 i) ∧ (ruK tl tb 2 i - s ≤ 3 → h2.1 46 21 = nI (vN tb s (ruK tl tb 2 i - s))) ∧ mFr [] [18, 21] h0 h2 := by
      intro m
      induction m with
      | zero =>
        intro i h1 hi1 hsi f a1 a2 a3
        have X1 := MoX_m f (by decide) (by decide) X0
        have e : ruK tl tb 2 i = i := ru_e (fun z => by omega)
        rw [e]
        refine ⟨h1, ?_, a1, a2, f⟩
        rw [E_Mo_takeNumber_42, a1, X1.1, if_neg (nI_nlt (by omega) (by omega))]
      | succ m ih =>
        intro i h1 hi1 hsi f a1 a2 a3
        have X1 := MoX_m f (by decide) (by decide) X0
        have hl : i < tl := by omega
        have hb2 := o.2 i hl
        have hin' : zRun sc d 132 [.long (nI (tb i)).toInt64, .long 48, .long 57] zGL h1 = some (some (.int (bI (decide (¬ nI (tb i) < 48 ∧ ¬ 57 < nI (tb i))))), zGL, h1) := Mo_in' sc d _ _ 48 57
        have hdg := hr_dg o i
        unfold hrV at hdg
        rw [if_pos hl] at hdg
        rw [E_Mo_takeNumber_42, a1, X1.1, if_pos (nI_lt hl (by omega)), if_pos (zin_nI (by omega) (by decide)), nI_clamp (by omega), X1.2 _ hl, hin', zBi_some, hdg]
        by_cases hk : kdN tl tb i = 2
        · obtain ⟨-, k1, k2⟩ := kd_2.mp hk
          have e : ruK tl tb 2 i = ruK tl tb 2 (i + 1) := ru_s hl (by simp [hk])
          rw [decide_eq_true hk, if_neg (show ¬ bI true = 0 by decide), e, a1, if_pos (zin_nI (by omega) (by decide)), nI_clamp (by omega), X1.2 _ hl]
          have a3' : ∀ j, s ≤ j → j < i + 1 → tb j ≤ 57 := fun j j1 j2 => by
            by_cases hj : j = i
            · rw [hj]; exact k2
            · exact a3 j j1 (by omega)
          have go : ∀ x : Int32, (i + 1 - s ≤ 3 → x = nI (vN tb s (i + 1 - s))) → ∃ h2, zE sc (d + 1) 140 113 [some (.ref 46), some (.int (nI lo)), some (.int hi), none] [.int x, .ref 46] zGL h1 = zE sc (d + 1) 140 129 [some (.ref 46), some (.int (nI lo)), some (.int hi), none] [] zGL h2 ∧ h2.1 46 18 = nI (ruK tl tb 2 (i + 1)) ∧ (ruK tl tb 2 (i + 1) - s ≤ 3 → h2.1 46 21 = nI (vN tb s (ruK tl tb 2 (i + 1) - s))) ∧ mFr [] [18, 21] h0 h2 := by
            intro x hx
            rw [E_Mo_takeNumber_113]
            refine ih (i + 1) _ (by omega) (by omega) (mFr_t f (mFr_t (mFr_f (by decide)) (mFr_f (by decide)))) ?_ hx a3'
            rw [zPI_1, if_pos ⟨rfl, rfl⟩, show ∀ v, (zPI h1 46 21 v).1 46 18 = h1.1 46 18 from fun _ => rfl, a1, nI_1]
          by_cases h3 : i - s < 3
          · have hvb : vN tb s (i - s) < 10 ^ (i - s) := vN_b (fun j hj => a3 _ (by omega) (by omega))
            have hp3 : 10 ^ (i - s) ≤ 10 ^ 2 := Nat.pow_le_pow_right (by decide) (by omega)
            rw [a2 (by omega), if_neg (iG' (m := 10000) (n := 10000) rfl (by omega) (by decide))]
            refine go _ (fun _ => ?_)
            rw [show (10 : Int32) = nI 10 from rfl, show (48 : Int32) = nI 48 from rfl, nI_mul, nI_add, nI_sub (by omega), show i + 1 - s = (i - s) + 1 by omega, vN, show s + (i - s) = i by omega]
            congr 1
            omega
          · split
            · exact go _ (fun z => by omega)
            · exact go _ (fun z => by omega)
        · have e : ruK tl tb 2 i = i := ru_e (fun _ => by simp [hk])
          rw [decide_eq_false hk, if_pos (show bI false = 0 from rfl), e]
          exact ⟨h1, rfl, a1, a2, f⟩
    obtain ⟨h3, g1, g2, g3, g4⟩ := key (tl - s) s h0 (by omega) (Nat.le_refl _) (mFr_r _ _ _) (by rw [← hz]; rfl) (fun _ => by rw [Nat.sub_self, ← hz]; rfl) (fun j j1 j2 => by omega)
    have f3 : mFr [] [17, 18, 21, 22] h h3 := mFr_t f0 (mFr_w g4 (fun _ z => z) (by decide))
    have j22 : h3.1 46 22 = nI s := by rw [(g4.2.1 22 (by decide)).1, i22]
    have j17 : h3.1 46 17 = h.1 46 17 := by rw [(g4.2.1 17 (by decide)).1, i17]
    obtain ⟨-, b1, b2⟩ := ruK_lt h2 hs
    rw [g1, E_Mo_takeNumber_129, g2, j22, nI_sub (by omega), tkE_2 h2]
    have h157 : zE sc (d + 1) 140 157 [some (.ref 46), none, none, none] [] zGL h3 = some (some (.int (nI 2)), zGL, zPI h3 46 17 (nI s)) := by
      rw [E_Mo_takeNumber_157, E_Mo_fails, zBi_some, j22]
      rfl
    have hmf : mfl (zPI h3 46 17 (nI s)) (2, s) := mfl_mk rfl (by decide) (by decide)
    have f4 : mFr [] [17, 18, 21, 22] h (zPI h3 46 17 (nI s)) := mFr_t f3 (mFr_f (by decide))
    by_cases c1 : 3 < ruK tl tb 2 s - s
    · rw [if_pos (iL' (m := 3) (n := 3) rfl c1 (by omega)), if_pos (.inl c1), h157]
      exact ⟨fun f hf => by cases hf; exact ⟨_, rfl, hmf, f4⟩, fun e v hf => (by cases hf)⟩
    · have hV : tkV tl tb s = vN tb s (ruK tl tb 2 s - s) := by
        unfold tkV
        rw [if_pos h2, Nat.min_eq_left (by omega)]
      have hin3 := Mo_in' sc d h3 (nI (tkV tl tb s)) (nI lo) hi
      rw [if_neg (iG' (m := 3) (n := 3) rfl (by omega) (by decide)), g3 (by omega), ← hV, hin3, zBi_some]
      have hgt : hi < nI (tkV tl tb s) ↔ hb ≤ tkV tl tb s := by
        rw [Int32.lt_iff_toInt_lt, hhi, nI_toInt (by omega)]
        omega
      by_cases c2 : tkV tl tb s < lo ∨ hb ≤ tkV tl tb s
      · have hd : decide (¬ nI (tkV tl tb s) < nI lo ∧ ¬ hi < nI (tkV tl tb s)) = false := decide_eq_false (fun z => by
          rcases c2 with y | y
          · exact z.1 (nI_lt y (by omega))
          · exact z.2 (hgt.mpr y))
        rw [hd, if_pos (show bI false = 0 from rfl), if_pos (.inr c2), h157]
        exact ⟨fun f hf => by cases hf; exact ⟨_, rfl, hmf, f4⟩, fun e v hf => (by cases hf)⟩
      · have hd : decide (¬ nI (tkV tl tb s) < nI lo ∧ ¬ hi < nI (tkV tl tb s)) = true := decide_eq_true ⟨nI_nlt (by omega) (by omega), fun z => c2 (.inr (hgt.mp z))⟩
        rw [hd, if_neg (show ¬ bI true = 0 by decide), if_neg (show ¬ (3 < ruK tl tb 2 s - s ∨ tkV tl tb s < lo ∨ hb ≤ tkV tl tb s) by omega)]
        refine ⟨fun f hf => (by cases hf), fun e v hf => ?_⟩
        cases hf
        exact ⟨h3, rfl, g2, by rw [g3 (by omega), ← hV], j22, j17, f3⟩
  · rw [if_neg h2, decide_eq_false h2, if_pos (show bI false = 0 from rfl), E_Mo_fails, zBi_some]
    refine ⟨fun f hf => ?_, fun e v hf => (by cases hf)⟩
    cases hf
    exact ⟨_, rfl, mfl_mk rfl (by decide) (by decide), mFr_t (mFr_f (by decide)) (mFr_f (by decide))⟩
theorem AtP_e {h : zHp} {tl : Nat} {tb : Nat → Nat} {e : Nat} (h1 : h.1 46 18 = nI e) (he : e ≤ tl) : AtP h tl tb e := ⟨e, h1, he, rfl⟩
theorem AtP_s {h : zHp} {tl : Nat} {tb : Nat → Nat} {e : Nat} (h1 : h.1 46 18 = nI (skP tl tb e)) (he : e ≤ tl) : AtP h tl tb e := ⟨skP tl tb e, h1, (sk_b tb he).2, sk_i e⟩
theorem Mo_set_l (sc : zSc) (d : Nat) {tl : Nat} {tb : Nat → Nat} (o : txOK tl tb) {F ix a1 n1 : Nat} (q1 : zIA zGL a1 0 n1) (ha1 : a1 = 58 ∨ a1 = 59) (hix : ix < n1) (hn1 : n1 ≤ 6) (hF : F ≤ 6) : ∀ n k p a h, k + n = 7 → pN a 6 = k → a < 2 ^ F → p ≤ tl → MoX h tl tb → AtP h tl tb p → h.1 a1 ix = nI a → (∀ f, liP tl tb F n p a = .inl f → ∃ h', zE sc (d + 2) 142 3 [some (.ref 46), some (.ref a1), some (.int (nI ix)), some (.int (nI F)), some (.int 1), none] [] zGL h = some (some (.int (nI f.1)), zGL, h') ∧ mfl h' f ∧ mFr [a1] [17, 18, 21, 22] h h') ∧ (∀ e a', liP tl tb F n p a = .inr (e, a') → ∃ h', zE sc (d + 2) 142 3 [some (.ref 46), some (.ref a1), some (.int (nI ix)), some (.int (nI F)), some (.int 1), none] [] zGL h = some (some (.int 0), zGL, h') ∧ AtP h' tl tb e ∧ h'.1 a1 ix = nI a' ∧ (∀ j, j ≠ ix → h'.1 a1 j = h.1 a1 j) ∧ h'.1 46 17 = h.1 46 17 ∧ mFr [a1] [17, 18, 21, 22] h h') := by
  have hp6 := p2_le hF
  have ht := o.1
  intro n
  induction n with
  | zero =>
    intro k p a h hk hc
    have := cN_le a.testBit 6
    unfold pN at hc
    omega
  | succ n ih =>
    intro k p a h hk hc ha hp X A hrow
    obtain ⟨s1, s2⟩ := sk_b tb hp
    have hhi : (nI F - 1).toInt = (F : Int) - 1 := nI_m1 (by omega)
    obtain ⟨n1', n2'⟩ := Mo_num sc d h X o hp A (lo := 0) (hb := F) (hi := nI F - 1) (by decide) hhi
    have hz : ∀ (v : zHp), zRun sc (d + 1) 140 [.ref 46, .int (nI 0), .int (nI F - 1)] zGL v = zRun sc (d + 1) 140 [.ref 46, .int 0, .int (nI F - 1)] zGL v := fun _ => rfl
    rw [E_Mo_takeSet_3 sc (d + 1) h a1 n1 q1, if_neg (show ¬ (1 : Int32) = 0 by decide), liP]
    cases hnu : nuQ tl tb 0 F (skP tl tb p) with
    | inl f =>
      obtain ⟨h3, g1, g2, g3⟩ := n1' f hnu
      rw [hz] at g1
      refine ⟨fun f' hf' => ?_, fun e a' hf' => by cases hf'⟩
      cases hf'
      refine ⟨h3, ?_, g2, mFr_w g3 (fun _ z => nomatch z) (fun _ z => z)⟩
      rw [g1, zBi_some, if_pos (show (0 : Int32) < nI f.1 from nI_lt (a := 0) g2.2.1 (by have := g2.2.2; omega))]
    | inr q =>
      obtain ⟨e, v⟩ := q
      obtain ⟨-, -, -, b1, b2, -, b3, -⟩ := nuQ_b s2 hnu
      obtain ⟨h3, g1, g18, g21, g22, g17, g3⟩ := n2' e v hnu
      rw [hz] at g1
      have hrow3 : h3.1 a1 ix = nI a := by rw [(g3.1 a1 (by omega) (by simp)).1]; exact hrow
      have X3 := MoX_m g3 (by decide) (by decide) X
      have f3 : mFr [a1] [17, 18, 21, 22] h h3 := mFr_w g3 (fun _ z => nomatch z) (fun _ z => z)
      dsimp only
      rw [g1, zBi_some, if_neg (show ¬ (0 : Int32) < 0 by decide), if_pos (zin_nI hix (by omega)), nI_clamp (by omega), hrow3, g21, Mo_has sc (d + 1) h3 (by omega) (by omega), zBi_some]
      cases hb : a.testBit v with
      | true =>
        simp only [if_true]
        refine ⟨fun f' hf' => ?_, fun e a' hf' => by cases hf'⟩
        cases hf'
        refine ⟨zPI h3 46 17 (h3.1 46 22), ?_, mfl_mk g22 (by decide) (by decide), mFr_t f3 (mFr_f (by decide))⟩
        rw [if_neg (show ¬ bI true = 0 by decide), E_Mo_fails, zBi_some]
        rfl
      | false =>
        simp only [Bool.false_eq_true, if_false]
        have hor := or_ltF ha b3
        rw [if_pos (show bI false = 0 from rfl), if_pos (zin_nI hix (by omega)), if_pos (zin_nI hix (by omega)), hrow3, g21, nI_shl1 (by omega), nI_or]
        generalize hzA : zPI h3 a1 ix (nI (a ||| 2 ^ v)) = hA
        have fA : mFr [a1] [17, 18, 21, 22] h hA := by rw [← hzA]; exact mFr_t f3 (mFr_I (by simp) (by omega))
        have xA : 56 ∉ [a1] := by simp; omega
        have XA : MoX hA tl tb := MoX_m fA xA (by decide) X
        have rA : hA.1 a1 ix = nI (a ||| 2 ^ v) := by rw [← hzA, zPI_1, if_pos ⟨rfl, rfl⟩]
        have jA : ∀ j, j ≠ ix → hA.1 a1 j = h.1 a1 j := fun j hj => by rw [← hzA, zPI_1, if_neg (fun z => hj z.2), (g3.1 a1 (by omega) (by simp)).1]
        have tA : hA.1 46 17 = h.1 46 17 := by rw [← hzA, zPI_1, if_neg (by omega)]; exact g17
        have AA : AtP hA tl tb e := AtP_e (by rw [← hzA, zPI_1, if_neg (by omega)]; exact g18) b2
        obtain ⟨w1, w2⟩ := sk_b tb b2
        rw [Mo_here sc (d + 1) hA XA o AA, zBi_some]
        have hsgn := hr_sg o (skP tl tb e) (c := 44) (v := 44) rfl (.inl rfl)
        cases hsg : sgQ tl tb (skP tl tb e) 44 with
        | true =>
          obtain ⟨k3, hl⟩ := sg_3 hsg
          simp only [if_true]
          rw [if_pos (hsgn.mpr hsg), E_Mo_takeSet_75 sc (d + 1) _ a1 n1 q1, if_neg (show ¬ (1 : Int32) = 0 by decide), show (zPI hA 46 18 (nI (skP tl tb e))).1 46 18 = nI (skP tl tb e) from rfl, nI_1, zPI_o]
          have fB : mFr [a1] [17, 18, 21, 22] h (zPI hA 46 18 (nI (skP tl tb e + 1))) := mFr_t fA (mFr_f (by decide))
          have hB : ∀ j, (zPI hA 46 18 (nI (skP tl tb e + 1))).1 a1 j = hA.1 a1 j := fun j => by rw [zPI_1, if_neg (by omega)]
          obtain ⟨i1, i2⟩ := ih (k + 1) (skP tl tb e + 1) (a ||| 2 ^ v) (zPI hA 46 18 (nI (skP tl tb e + 1))) (by omega) (by
            have := pN_or (a := a) (show v < 6 by omega) hb 6
            rw [if_pos (by omega)] at this
            unfold pN at hc ⊢
            omega) hor hl (MoX_m fB xA (by decide) X) (AtP_e rfl hl) (by rw [hB, rA])
          refine ⟨fun f' hf' => ?_, fun e' a' hf' => ?_⟩
          · obtain ⟨h', j1, j2, j3⟩ := i1 f' hf'
            exact ⟨h', j1, j2, mFr_t fB j3⟩
          · obtain ⟨h', j1, j2, j3, j4, j5, j6⟩ := i2 e' a' hf'
            exact ⟨h', j1, j2, j3, fun j hj => by rw [j4 j hj, hB, jA j hj], by rw [j5]; exact tA, mFr_t fB j6⟩
        | false =>
          simp only [Bool.false_eq_true, if_false]
          rw [if_neg (fun z => by rw [hsgn.mp z] at hsg; cases hsg), E_Mo_takeSet_75 sc (d + 1) _ a1 n1 q1, if_pos rfl, show (zPI hA 46 18 (nI (skP tl tb e))).1 46 18 = nI (skP tl tb e) from rfl, Int32.add_zero, zPI_o, E_Mo_takeSet_3 sc (d + 1) _ a1 n1 q1, if_pos rfl]
          refine ⟨fun f' hf' => by (exfalso; cases hf'), fun e' a' hf' => ?_⟩
          cases hf'
          have hB : ∀ j, (zPI hA 46 18 (nI (skP tl tb e))).1 a1 j = hA.1 a1 j := fun j => by rw [zPI_1, if_neg (by omega)]
          exact ⟨_, rfl, AtP_s rfl b2, by rw [hB, rA], fun j hj => by rw [hB, jA j hj], tA, mFr_t fA (mFr_f (by decide))⟩
theorem Mo_set (sc : zSc) (d : Nat) (h : zHp) {tl : Nat} {tb : Nat → Nat} (o : txOK tl tb) {F ix a1 n1 : Nat} (q1 : zIA zGL a1 0 n1) (ha1 : a1 = 58 ∨ a1 = 59) (hix : ix < n1) (hn1 : n1 ≤ 6) (hF : F ≤ 6) {p : Nat} (hp : p ≤ tl) (X : MoX h tl tb) (A : AtP h tl tb p) (hrow : h.1 a1 ix = 0) : (∀ f, liP tl tb F 7 p 0 = .inl f → ∃ h', zRun sc (d + 2) 142 [.ref 46, .ref a1, .int (nI ix), .int (nI F)] zGL h = some (some (.int (nI f.1)), zGL, h') ∧ mfl h' f ∧ mFr [a1] [17, 18, 21, 22] h h') ∧ (∀ e a', liP tl tb F 7 p 0 = .inr (e, a') → ∃ h', zRun sc (d + 2) 142 [.ref 46, .ref a1, .int (nI ix), .int (nI F)] zGL h = some (some (.int 0), zGL, h') ∧ AtP h' tl tb e ∧ h'.1 a1 ix = nI a' ∧ (∀ j, j ≠ ix → h'.1 a1 j = h.1 a1 j) ∧ h'.1 46 17 = h.1 46 17 ∧ mFr [a1] [17, 18, 21, 22] h h') := by
  rw [E_Mo_takeSet sc (d + 1) h a1 n1 q1]
  exact Mo_set_l sc d o q1 ha1 hix hn1 hF 7 0 p 0 h rfl (by decide) (Nat.two_pow_pos _) hp X A hrow
