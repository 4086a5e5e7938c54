/-! ===== the reference: a saying ===== -/
def WW (h0 : zHp) (a P : Nat) (N O : Nat → Nat → Nat → Bool) (dn : Nat → Nat → Prop) (h : zHp) : Prop := h.1 = h0.1 ∧ h.2.2 = h0.2.2 ∧ (∀ x, x ≠ a → h.2.1 x = h0.2.1 x) ∧ ∀ p q, p < P → q < P → p ≠ q → (dn p q → h.2.1 a (5 * p + q) = jF (N p q)) ∧ (¬ dn p q → h.2.1 a (5 * p + q) = jF (O p q))
theorem WW_w {h0 : zHp} {a P : Nat} {N O : Nat → Nat → Nat → Bool} {dn dn' : Nat → Nat → Prop} {h : zHp} {x : Int64} {p q : Nat} (hP : P ≤ 5) (hq : q < P) (i : WW h0 a P N O dn h) (hx : p ≠ q → x = jF (N p q)) (hd : ∀ p' q', dn' p' q' ↔ dn p' q' ∨ (p' = p ∧ q' = q)) : WW h0 a P N O dn' (zPL h a (5 * p + q) x) := by
  obtain ⟨i1, i2, i3, i4⟩ := i
  refine ⟨i1, i2, ?_, ?_⟩
  · intro y hy
    rw [← i3 y hy]
    funext z
    rw [zPL_2, if_neg (by omega)]
  · intro p' q' hp' hq' hn
    rw [zPL_2, hd]
    by_cases he : p' = p ∧ q' = q
    · obtain ⟨rfl, rfl⟩ := he
      rw [if_pos ⟨rfl, rfl⟩, hx hn]
      exact ⟨fun _ => rfl, fun z => absurd (.inr ⟨rfl, rfl⟩) z⟩
    · rw [if_neg (by omega)]
      exact ⟨fun z => (i4 p' q' hp' hq' hn).1 (z.resolve_right he), fun z => (i4 p' q' hp' hq' hn).2 (fun y => z (.inl y))⟩
theorem WW_s {h0 : zHp} {a P : Nat} {N O : Nat → Nat → Nat → Bool} {dn dn' : Nat → Nat → Prop} {h : zHp} (i : WW h0 a P N O dn h) (hd : ∀ p q, p < P → q < P → p ≠ q → (dn' p q ↔ dn p q) ∨ O p q = N p q) : WW h0 a P N O dn' h := by
  obtain ⟨i1, i2, i3, i4⟩ := i
  refine ⟨i1, i2, i3, ?_⟩
  intro p q hp hq hn
  have := i4 p q hp hq hn
  rcases hd p q hp hq hn with he | he
  · rw [he]; exact this
  · rw [he] at this ⊢
    have h2 : h.2.1 a (5 * p + q) = jF (N p q) := (Classical.em (dn p q)).elim this.1 this.2
    exact ⟨fun _ => h2, fun _ => h2⟩
theorem WW_k {h0 : zHp} {P : Nat} {N O : Nat → Nat → Nat → Bool} {dn : Nat → Nat → Prop} {h : zHp} (i : WW h0 53 P N O dn h) : kFr h0 h := ⟨fun x _ hx => ⟨by rw [i.1], by rw [i.2.2.1 x (fun z => hx (by rw [z]; decide))]⟩, fun k _ => ⟨by rw [i.1], by rw [i.2.2.1 46 (by decide)]⟩, i.2.1⟩
theorem Mo_sayNow (sc : zSc) (d : Nat) (h : zHp) {T : TT} {K : KK} (O : TOK T) (D : MoT h T) (C : MoC h T) (R : MoK h T K) (kk : KOK T K) {a b f l : Nat} (ha : a < T.P) (hb : b < T.P) (hab : a ≠ b) (hf : f < T.F) (hl : l < 32) (hla : l.testBit a = false) (hlb : l.testBit b = false) : ∃ h', zRun sc (d + 3) 172 [.ref 46, .int (nI a), .int (nI b), .int (nI f), .int (nI l)] zGL h = some (some (.int (if (K.kn b).testBit f then 1 else 0)), zGL, h') ∧ MoK h' T (sayK T K a b f l) ∧ kFr h h' := by
  have O0 := O
  obtain ⟨hF6, hP5, hC2, hC9, hfo, htk⟩ := O
  have hp := p2_le hF6
  have hkb := KOK_kn O0 kk hb
  have he : l ||| 2 ^ a ||| 2 ^ b < 32 := or_lt32 (or_lt32 hl (by omega)) (by omega)
  have heb : ∀ q, q ≠ a → q ≠ b → (l ||| 2 ^ a ||| 2 ^ b).testBit q = l.testBit q := by
    intro q h1 h2
    rw [Nat.testBit_or, Nat.testBit_or, Nat.testBit_two_pow_of_ne (Ne.symm h1), Nat.testBit_two_pow_of_ne (Ne.symm h2), Bool.or_false, Bool.or_false]
  have hea : (l ||| 2 ^ a ||| 2 ^ b).testBit a = true := by rw [Nat.testBit_or, or_get, Bool.true_or]
  have hebb : (l ||| 2 ^ a ||| 2 ^ b).testBit b = true := or_get _ _
  rw [E_Mo_sayNow, if_pos (zin_nI (by omega) (by decide)), nI_clamp (by omega), (R.1 b hb).1, Mo_has sc _ h (by omega) (by omega), zBi_some, nI_shl1 (by omega), nI_shl1 (by omega), nI_or, nI_or]
  generalize hE : l ||| 2 ^ a ||| 2 ^ b = e at *
  obtain ⟨h1, e1, i1⟩ := zUpH (e := fun p h => zE sc (d + 3) 172 27 [some (.ref 46), some (.int (nI a)), some (.int (nI b)), some (.int (nI f)), some (.int (nI l)), some (.int (bI ((K.kn b).testBit f))), some (.int (nI e)), some (.int (nI p)), none, none] [] zGL h) (inv := fun p h1 => WW h 53 T.P (sayV T K a b f e) K.V (fun p' _ => p' < p) h1) T.P (fun p h1 hp1 i => by
      have D1 := MoT_k (WW_k i) D
      have C1 := MoC_k (WW_k i) C
      cases hep : e.testBit p with
      | false =>
        refine ⟨h1, ?_, WW_s i (fun p' q' h1 h2 h3 => ?_)⟩
        · rw [E_Mo_sayNow_27, D1.2.1, if_pos (nI_lt hp1 (by omega)), Mo_has sc _ h1 (by omega) (by omega), zBi_some, hep, bI_c, cond_false, nI_1]
        · by_cases hpp : p' = p
          · right; rw [hpp]; unfold sayV; rw [if_pos (.inr (.inl hep))]
          · left; omega
      | true =>
        have hsv : ∀ q, p ≠ q → e.testBit q = true → sayV T K a b f e p q = if q = a then (fun s => K.V p q s && s.testBit f) else if q = b then imgN T.fo (fun s => K.V p q s && s.testBit f == (K.kn b).testBit f) f T.F else imgN T.fo (K.V p q) f T.F := by
          intro q hpq heq
          unfold sayV
          rw [if_neg (by rw [hep, heq]; simp [hpq])]
        have h5 := v5' (show p < 5 by omega) (show b < 5 by omega)
        have h5a := v5' (show p < 5 by omega) (show a < 5 by omega)
        -- the hearer
        have st1 : ∃ x, zE sc (d + 3) 172 27 [some (.ref 46), some (.int (nI a)), some (.int (nI b)), some (.int (nI f)), some (.int (nI l)), some (.int (bI ((K.kn b).testBit f))), some (.int (nI e)), some (.int (nI p)), none, none] [] zGL h1 = zE sc (d + 3) 172 99 [some (.ref 46), some (.int (nI a)), some (.int (nI b)), some (.int (nI f)), some (.int (nI l)), some (.int (bI ((K.kn b).testBit f))), some (.int (nI e)), some (.int (nI p)), some (.int (nI (5 * p))), none] [.long x, .int (nI (5 * p + b)), .ref 53] zGL h1 ∧ (p ≠ b → x = jF (sayV T K a b f e p b)) := by
          by_cases hpb : p = b
          · refine ⟨h1.2.1 53 (5 * p + b), ?_, fun z => absurd hpb z⟩
            rw [E_Mo_sayNow_27, D1.2.1, if_pos (nI_lt hp1 (by omega)), Mo_has sc _ h1 (by omega) (by omega), zBi_some, hep, bI_c, cond_true, if_pos (by rw [hpb]), h5.1, if_pos (zin_nI h5.2 (by decide)), nI_clamp (by omega), n5']
          · refine ⟨jF (sayV T K a b f e p b), ?_, fun _ => rfl⟩
            have hold := (i.2.2.2 p b hp1 hb hpb).2 (by omega)
            have iV := KOK_in kk hp1 hb hpb
            rw [E_Mo_sayNow_27, D1.2.1, if_pos (nI_lt hp1 (by omega)), Mo_has sc _ h1 (by omega) (by omega), zBi_some, hep, bI_c, cond_true, if_neg (fun z => hpb ((nI_eq (by omega) (by omega)).mp z)), h5.1, if_pos (zin_nI h5.2 (by decide)), nI_clamp (by omega), hold, Mo_those sc (d + 1) h1 O0 D1 iV (by omega), zBj_some, Mo_learnt sc _ h1 O0 D1 C1 (thB_in iV _ _) hf, zBj_some, n5', hsv b hpb hebb, if_neg (Ne.symm hab), if_pos rfl]
            rfl
        obtain ⟨x, ex, hx⟩ := st1
        have i2 : WW h 53 T.P (sayV T K a b f e) K.V (fun p' q' => p' < p ∨ (p' = p ∧ q' = b)) (zPL h1 53 (5 * p + b) x) := WW_w hP5 hb i hx (fun _ _ => Iff.rfl)
        have D2 := MoT_k (WW_k i2) D
        -- the speaker
        have st2 : ∃ h3, zE sc (d + 3) 172 99 [some (.ref 46), some (.int (nI a)), some (.int (nI b)), some (.int (nI f)), some (.int (nI l)), some (.int (bI ((K.kn b).testBit f))), some (.int (nI e)), some (.int (nI p)), some (.int (nI (5 * p))), none] [.long x, .int (nI (5 * p + b)), .ref 53] zGL h1 = zE sc (d + 3) 172 145 [some (.ref 46), some (.int (nI a)), some (.int (nI b)), some (.int (nI f)), some (.int (nI l)), some (.int (bI ((K.kn b).testBit f))), some (.int (nI e)), some (.int (nI p)), some (.int (nI (5 * p))), some (.int (nI 0))] [] zGL h3 ∧ WW h 53 T.P (sayV T K a b f e) K.V (fun p' q' => p' < p ∨ (p' = p ∧ (q' = a ∨ q' = b ∨ q' < 0))) h3 := by
          by_cases hpa : p = a
          · refine ⟨zPL h1 53 (5 * p + b) x, ?_, WW_s i2 (fun p' q' h1 h2 h3 => ?_)⟩
            · rw [E_Mo_sayNow_99, if_pos (zin_nI h5.2 (by decide)), if_pos (by rw [hpa]), nI_add, if_pos (zin_nI h5a.2 (by decide)), if_pos (zin_nI h5a.2 (by decide)), nI_clamp (by omega), nI_clamp (by omega), zPL_self]
              rfl
            · left; omega
          · refine ⟨zPL (zPL h1 53 (5 * p + b) x) 53 (5 * p + a) (jF (sayV T K a b f e p a)), ?_, WW_w hP5 ha i2 (fun _ => rfl) (fun p' q' => by omega)⟩
            have hold := (i2.2.2.2 p a hp1 ha hpa).2 (by omega)
            have iV := KOK_in kk hp1 ha hpa
            have et := Mo_those sc (d + 1) (zPL h1 53 (5 * p + b) x) O0 D2 iV (show f < 6 by omega) true
            rw [show bI true = (1 : Int32) from rfl] at et
            rw [E_Mo_sayNow_99, if_pos (zin_nI h5.2 (by decide)), if_neg (fun z => hpa ((nI_eq (by omega) (by omega)).mp z)), nI_add, if_pos (zin_nI h5a.2 (by decide)), nI_clamp (by omega), nI_clamp (by omega), hold, et, zBj_some, if_pos (zin_nI h5a.2 (by decide)), hsv a hpa hea, if_pos rfl]
            rw [jF_ext (A := thB (K.V p a) f true) (B := fun s => K.V p a s && s.testBit f) (fun s _ => by unfold thB; cases s.testBit f <;> rfl)]
            rfl
        obtain ⟨h3, e3, i3⟩ := st2
        -- those who listen
        obtain ⟨h4, e4, i4⟩ := zUpH (e := fun q h => zE sc (d + 3) 172 145 [some (.ref 46), some (.int (nI a)), some (.int (nI b)), some (.int (nI f)), some (.int (nI l)), some (.int (bI ((K.kn b).testBit f))), some (.int (nI e)), some (.int (nI p)), some (.int (nI (5 * p))), some (.int (nI q))] [] zGL h) (inv := fun q h4 => WW h 53 T.P (sayV T K a b f e) K.V (fun p' q' => p' < p ∨ (p' = p ∧ (q' = a ∨ q' = b ∨ q' < q))) h4) T.P (fun q h4 hq i => by
            have D4 := MoT_k (WW_k i) D
            have C4 := MoC_k (WW_k i) C
            have h5q := v5' (show p < 5 by omega) (show q < 5 by omega)
            have hself : zE sc (d + 3) 172 198 [some (.ref 46), some (.int (nI a)), some (.int (nI b)), some (.int (nI f)), some (.int (nI l)), some (.int (bI ((K.kn b).testBit f))), some (.int (nI e)), some (.int (nI p)), some (.int (nI (5 * p))), some (.int (nI q))] [.int (nI (5 * p + q)), .ref 53] zGL h4 = zE sc (d + 3) 172 145 [some (.ref 46), some (.int (nI a)), some (.int (nI b)), some (.int (nI f)), some (.int (nI l)), some (.int (bI ((K.kn b).testBit f))), some (.int (nI e)), some (.int (nI p)), some (.int (nI (5 * p))), some (.int (nI (q + 1)))] [] zGL h4 := by
              rw [E_Mo_sayNow_198, nI_add, if_pos (zin_nI h5q.2 (by decide)), if_pos (zin_nI h5q.2 (by decide)), nI_clamp (by omega), zPL_self, nI_1]
            by_cases hqp : q = p
            · refine ⟨h4, ?_, WW_s i (fun p' q' h1 h2 h3 => by left; omega)⟩
              rw [E_Mo_sayNow_145, D4.2.1, if_pos (nI_lt hq (by omega)), if_pos (by rw [hqp]), nI_add, hself]
            · have hpq : p ≠ q := Ne.symm hqp
              cases hlq : l.testBit q with
              | false =>
                refine ⟨h4, ?_, WW_s i (fun p' q' h1 h2 h3 => ?_)⟩
                · rw [E_Mo_sayNow_145, D4.2.1, if_pos (nI_lt hq (by omega)), if_neg (fun z => hqp ((nI_eq (by omega) (by omega)).mp z)), Mo_has sc _ h4 (by omega) (by omega), zBi_some, hlq, bI_c, cond_false, nI_add, hself]
                · by_cases hqq : p' = p ∧ q' = q ∧ q ≠ a ∧ q ≠ b
                  · right
                    rw [hqq.1, hqq.2.1]
                    unfold sayV
                    rw [if_pos (.inr (.inr (by rw [heb q hqq.2.2.1 hqq.2.2.2]; exact hlq)))]
                  · left; omega
              | true =>
                have hqa : q ≠ a := fun z => by rw [z, hla] at hlq; cases hlq
                have hqb : q ≠ b := fun z => by rw [z, hlb] at hlq; cases hlq
                have hold := (i.2.2.2 p q hp1 hq hpq).2 (by omega)
                have iV := KOK_in kk hp1 hq hpq
                refine ⟨zPL h4 53 (5 * p + q) (jF (sayV T K a b f e p q)), ?_, WW_w hP5 hq i (fun _ => rfl) (fun p' q' => by omega)⟩
                rw [E_Mo_sayNow_145, D4.2.1, if_pos (nI_lt hq (by omega)), if_neg (fun z => hqp ((nI_eq (by omega) (by omega)).mp z)), Mo_has sc _ h4 (by omega) (by omega), zBi_some, hlq, bI_c, cond_true, nI_add, if_pos (zin_nI h5q.2 (by decide)), nI_clamp (by omega), hold, Mo_learnt sc _ h4 O0 D4 C4 iV hf, zBj_some, if_pos (zin_nI h5q.2 (by decide)), nI_1, hsv q hpq (by rw [heb q hqa hqb]; exact hlq), if_neg hqa, if_neg hqb]) h3 i3
        have D4 := MoT_k (WW_k i4) D
        refine ⟨h4, ex.trans (e3.trans (e4.trans ?_)), WW_s i4 (fun p' q' h1 h2 h3 => by left; omega)⟩
        rw [E_Mo_sayNow_145, D4.2.1, if_neg (nI_nlt (Nat.le_refl _) (by omega)), nI_1]) h ⟨rfl, rfl, fun _ _ => rfl, fun p q hp hq hn => ⟨fun z => absurd z (Nat.not_lt_zero p), fun _ => R.2.1 p q hp hq hn⟩⟩
  refine exEq e1 ?_
  have f1 := WW_k i1
  have D1 := MoT_k f1 D
  have C1 := MoC_k f1 C
  rw [E_Mo_sayNow_27, D1.2.1, if_neg (nI_nlt (Nat.le_refl _) (by omega))]
  obtain ⟨h2, e2, j1, j2, j3, j4⟩ := zUpH (e := fun k h => zE sc (d + 3) 172 224 [some (.ref 46), some (.int (nI a)), some (.int (nI b)), some (.int (nI f)), some (.int (nI l)), some (.int (bI ((K.kn b).testBit f))), none, some (.int (nI k)), none, none] [] zGL h) (inv := fun k h2 => kFr h h2 ∧ h2.2 = h1.2 ∧ (∀ x, x ≠ 51 → h2.1 x = h1.1 x) ∧ ∀ p, p < T.P → h2.1 51 p = nI (if p < k then sayN T K b f l p else K.kn p)) T.P (fun k h2 hk i => by
      obtain ⟨j1, j2, j3, j4⟩ := i
      have D2 := MoT_k j1 D
      have C2 := MoC_k j1 C
      have hkk := clB_lt (kk.1 k hk).1
      have hor := or_ltF hkk hf
      have h51 : h2.1 51 k = nI (K.kn k) := by rw [j4 k hk, if_neg (Nat.lt_irrefl k)]
      by_cases hc : k = b ∨ l.testBit k = true
      · refine ⟨zPI h2 51 k (nI (sayN T K b f l k)), ?_, mFr_t j1 (mFr_I (by decide) (by decide)), j2, ?_, ?_⟩
        · have hto : zE sc (d + 3) 172 224 [some (.ref 46), some (.int (nI a)), some (.int (nI b)), some (.int (nI f)), some (.int (nI l)), some (.int (bI ((K.kn b).testBit f))), none, some (.int (nI k)), none, none] [] zGL h2 = zE sc (d + 3) 172 255 [some (.ref 46), some (.int (nI a)), some (.int (nI b)), some (.int (nI f)), some (.int (nI l)), some (.int (bI ((K.kn b).testBit f))), none, some (.int (nI k)), none, none] [.int (nI k), .ref 51] zGL h2 := by
            rw [E_Mo_sayNow_224, D2.2.1, if_pos (nI_lt hk (by omega))]
            by_cases hkb2 : k = b
            · rw [if_pos (by rw [hkb2])]
            · rw [if_neg (fun z => hkb2 ((nI_eq (by omega) (by omega)).mp z)), Mo_has sc _ h2 (by omega) (by omega), zBi_some, hc.resolve_left hkb2, bI_c, cond_true]
          refine hto.trans ?_
          rw [E_Mo_sayNow_255, if_pos (zin_nI (by omega) (by decide)), nI_clamp (by omega), h51, nI_shl1 (by omega), nI_or, if_pos (zin_nI (by omega) (by decide)), if_pos (zin_nI (by omega) (by decide)), nI_clamp (by omega), C2.1 _ hor, nI_1]
          unfold sayN
          rw [if_pos hc]
        · intro x hx
          rw [← j3 x hx]
          funext y
          rw [zPI_1, if_neg (by omega)]
        · intro p hp
          rw [zPI_1]
          by_cases hpk : p = k
          · rw [if_pos ⟨rfl, hpk⟩, if_pos (by omega), hpk]
          · rw [if_neg (by omega), j4 p hp]
            by_cases hlt : p < k
            · rw [if_pos hlt, if_pos (by omega)]
            · rw [if_neg hlt, if_neg (by omega)]
      · refine ⟨h2, ?_, j1, j2, j3, ?_⟩
        · have hcl : l.testBit k = false := by
            cases hz : l.testBit k with
            | false => rfl
            | true => exact absurd (.inr hz) hc
          rw [E_Mo_sayNow_224, D2.2.1, if_pos (nI_lt hk (by omega)), if_neg (fun z => hc (.inl ((nI_eq (by omega) (by omega)).mp z))), Mo_has sc _ h2 (by omega) (by omega), zBi_some, hcl, bI_c, cond_false, if_pos (zin_nI (by omega) (by decide)), if_pos (zin_nI (by omega) (by decide)), zPI_self, nI_1]
        · intro p hp
          rw [j4 p hp]
          by_cases hpk : p = k
          · subst hpk
            rw [if_neg (Nat.lt_irrefl p), if_pos (by omega)]
            unfold sayN
            rw [if_neg hc]
          · by_cases hlt : p < k
            · rw [if_pos hlt, if_pos (by omega)]
            · rw [if_neg hlt, if_neg (by omega)]) h1 ⟨f1, rfl, fun _ _ => rfl, fun p hp => by rw [if_neg (by omega), i1.1]; exact (R.1 p hp).1⟩
  refine exEq e2 ?_
  have D2 := MoT_k j1 D
  have hL : h2.1 46 12 = nI K.L := by rw [j3 46 (by decide), i1.1, R.2.2.2.1]
  have hK6 := kk.2.2.1
  have hins : h2.1 54 a = K.ins a := by rw [j3 54 (by decide), i1.1, (R.1 a ha).2.2]
  have hto : zE sc (d + 3) 172 224 [some (.ref 46), some (.int (nI a)), some (.int (nI b)), some (.int (nI f)), some (.int (nI l)), some (.int (bI ((K.kn b).testBit f))), none, some (.int (nI T.P)), none, none] [] zGL h2 = zE sc (d + 3) 172 305 [some (.ref 46), some (.int (nI a)), some (.int (nI b)), some (.int (nI f)), some (.int (nI l)), some (.int (bI ((K.kn b).testBit f))), none, none, none, none] [.int (bI ((K.kn b).testBit f)), .int (K.ins a), .int (nI a), .ref 54] zGL h2 := by
    rw [E_Mo_sayNow_224, D2.2.1, if_neg (nI_nlt (Nat.le_refl _) (by omega)), if_pos (zin_nI (by omega) (by decide)), nI_clamp (by omega), hins, bI_c]
    cases (K.kn b).testBit f <;> rfl
  refine exEq hto ?_
  have hbI : (if (K.kn b).testBit f = true then (1 : Int32) else 0) = bI ((K.kn b).testBit f) := rfl
  rw [hbI]
  have hpre : ∀ h3 : zHp, h3.2 = h2.2 → (∀ x, x ≠ 46 → x ≠ 55 → h3.1 x = (zPI h2 54 a (K.ins a + bI ((K.kn b).testBit f))).1 x) → (∀ i, i < 5 * (sayK T K a b f l).L → h3.1 55 i = (sayK T K a b f l).lg i) → h3.1 46 12 = nI (sayK T K a b f l).L → (∀ y, y ≠ 12 → h3.1 46 y = h2.1 46 y) → MoK h3 T (sayK T K a b f l) ∧ kFr h h3 := by
    intro h3 k1 k2 k3 k4 k5
    refine ⟨⟨?_, ?_, k3, k4, ?_⟩, ?_⟩
    · intro p hp
      rw [k2 51 (by omega) (by omega), k2 52 (by omega) (by omega), k2 54 (by omega) (by omega), zPI_1, if_neg (by omega), zPI_1, if_neg (by omega), zPI_1, j4 p hp, if_pos hp]
      refine ⟨rfl, ?_, ?_⟩
      · rw [j3 52 (by decide), i1.1]
        exact (R.1 p hp).2.1
      · show _ = sayI K a b f p
        unfold sayI
        by_cases hpa : p = a
        · rw [if_pos ⟨rfl, hpa⟩, if_pos hpa, hpa, hbI]
        · rw [if_neg (by omega), if_neg hpa, j3 54 (by decide), i1.1]
          exact (R.1 p hp).2.2
    · intro p q hp hq hn
      rw [k1, j2, (i1.2.2.2 p q hp hq hn).1 hp]
      show _ = jF (sayV T K a b f (l ||| 2 ^ a ||| 2 ^ b) p q)
      rw [hE]
    · rw [k5 14 (by decide), j3 46 (by decide), i1.1]
      exact R.2.2.2.2
    · refine mFr_t j1 ⟨fun x hx1 hx2 => ⟨?_, by rw [k1]⟩, fun k hk => ⟨k5 k (fun z => hk (by rw [z]; decide)), by rw [k1]⟩, by rw [k1]⟩
      rw [k2 x hx1 (fun z => hx2 (by rw [z]; decide))]
      funext y
      rw [zPI_1, if_neg (fun z => hx2 (by rw [z.1]; decide))]
  have hlog : ∀ i, i < 5 * K.L → h2.1 55 i = K.lg i := fun i hi => by rw [j3 55 (by decide), i1.1]; exact R.2.2.1 i hi
  have n1 : ¬ ((46 : Nat) = 54) := by decide
  have n2 : ¬ ((46 : Nat) = 55) := by decide
  rw [E_Mo_sayNow_305, if_pos (zin_nI (by omega) (by decide)), nI_clamp (by omega)]
  simp only [zPI_1, n1, n2, false_and, if_false, hL, n5', nI_1, nI_2, nI_3, nI_4]
  by_cases h6 : K.L < 60
  · have hKL : (sayK T K a b f l).L = K.L + 1 := if_pos h6
    have hKg : (sayK T K a b f l).lg = sayL K a b f l := if_pos h6
    rw [if_pos (iL (m := 60) (n := 60) rfl h6 (by decide)), if_pos (zin_nI (by omega) (by decide)), if_pos (zin_nI (by omega) (by decide)), if_pos (zin_nI (by omega) (by decide)), if_pos (zin_nI (by omega) (by decide)), nI_clamp (by omega), nI_clamp (by omega), nI_clamp (by omega), nI_clamp (by omega), bI_c]
    have hto2 : ∀ (x y : Option zRs) (w : Int32 → Option zRs), w 0 = y → w 1 = x → (bif (K.kn b).testBit f then x else y) = w (bI ((K.kn b).testBit f)) := by
      intro x y w h0 h1
      cases (K.kn b).testBit f
      · exact h0.symm
      · exact h1.symm
    rw [hto2 _ _ (fun v => zE sc (d + 2 + 1) 172 393 [some (.ref 46), none, none, none, none, some (.int (bI ((K.kn b).testBit f))), none, none, none, none] [.int v, .int (nI (5 * K.L + 4)), .ref 55] zGL (zPI (zPI (zPI (zPI (zPI h2 54 a (K.ins a + bI ((K.kn b).testBit f))) 55 (5 * K.L) (nI a)) 55 (5 * K.L + 1) (nI b)) 55 (5 * K.L + 2) (nI f)) 55 (5 * K.L + 3) (nI l))) rfl rfl]
    rw [E_Mo_sayNow_393, if_pos (zin_nI (by omega) (by decide)), if_pos (bI_01 _), nI_clamp (by omega)]
    refine ⟨_, rfl, hpre _ rfl ?_ ?_ ?_ ?_⟩
    · intro x hx1 hx2
      funext y
      simp only [zPI_1]
      rw [if_neg (by omega), if_neg (by omega), if_neg (by omega), if_neg (by omega), if_neg (by omega), if_neg (by omega)]
    · rw [hKL, hKg]
      intro i hi
      simp only [zPI_1]
      unfold sayL
      rw [if_neg (by omega)]
      by_cases c4 : i = 5 * K.L + 4
      · rw [if_pos ⟨trivial, c4⟩, if_neg (by omega), if_neg (by omega), if_neg (by omega), if_neg (by omega), if_pos c4, hbI]
      rw [if_neg (by omega)]
      by_cases c3 : i = 5 * K.L + 3
      · rw [if_pos ⟨trivial, c3⟩, if_neg (by omega), if_neg (by omega), if_neg (by omega), if_pos c3]
      rw [if_neg (by omega)]
      by_cases c2 : i = 5 * K.L + 2
      · rw [if_pos ⟨trivial, c2⟩, if_neg (by omega), if_neg (by omega), if_pos c2]
      rw [if_neg (by omega)]
      by_cases c1 : i = 5 * K.L + 1
      · rw [if_pos ⟨trivial, c1⟩, if_neg (by omega), if_pos c1]
      rw [if_neg (by omega)]
      by_cases c0 : i = 5 * K.L
      · rw [if_pos ⟨trivial, c0⟩, if_pos c0]
      rw [if_neg (by omega), if_neg (by omega), if_neg c0, if_neg c1, if_neg c2, if_neg c3, if_neg c4]
      exact hlog i (by omega)
    · rw [hKL, zPI_1, if_pos ⟨rfl, rfl⟩]
      simp only [zPI_1, n1, n2, false_and, if_false, hL, nI_1]
    · intro y hy
      simp only [zPI_1, n1, n2, false_and, if_false]
      rw [if_neg (fun z => hy z.2)]
  · have hKL : (sayK T K a b f l).L = K.L := if_neg h6
    have hKg : (sayK T K a b f l).lg = K.lg := if_neg h6
    rw [if_neg (iG (m := 60) (n := 60) rfl (by omega) (by omega)), if_pos (bI_01 _)]
    refine ⟨_, rfl, hpre _ rfl (fun _ _ _ => rfl) ?_ ?_ ?_⟩
    · rw [hKL, hKg]
      intro i hi
      rw [zPI_1, if_neg (by omega)]
      exact hlog i hi
    · rw [hKL, zPI_1, if_neg (by omega), hL]
    · intro y hy
      rw [zPI_1, if_neg (by omega)]
