/-! ===== the reference: mornings ===== -/
theorem d5 {k : Nat} (hk : k < 25) : nI k / 5 = nI (k / 5) ∧ nI k - nI k / 5 * 5 = nI (k % 5) := by
  rw [show (5 : Int32) = nI 5 from rfl]
  exact ⟨pk_div (by omega) (by decide) (by decide), pk_rem (by omega) (by decide) (by decide)⟩
theorem Mo_begin (sc : zSc) (d : Nat) (h : zHp) {T : TT} (O : TOK T) (D : MoT h T) (C : MoC h T) (hk0 : ∀ p, p < T.P → h.1 49 p = nI (T.tk p)) : ∃ h', zRun sc (d + 3) 127 [.ref 46] zGL h = some (none, zGL, h') ∧ MoK h' T (begK T (h.1 46 14)) ∧ kFr h h' := by
  have O0 := O
  obtain ⟨hF6, hP5, hC2, hC9, hfo, htk⟩ := O
  have hp := p2_le hF6
  have hkn : ∀ p, p < T.P → clN T.fo (T.tk p) T.F < 64 := fun p hp => lt_64 (clN_lt (htk p hp) (Nat.le_refl _)) hF6
  have hht : ∀ p, wtN T.w (clN T.fo (T.tk p) T.F) T.F % T.C < 99 := fun p => Nat.lt_of_lt_of_le (Nat.mod_lt _ (by omega)) hC9
  rw [E_Mo_begin]
  obtain ⟨h1, e1, i1, i2, i3⟩ := zUpH (e := fun k h => zE sc (d + 3) 127 2 [some (.ref 46), some (.int (nI k))] [] zGL h) (inv := fun k h1 => kFr h h1 ∧ h1.1 46 = h.1 46 ∧ ∀ p, p < k → p < T.P → h1.1 51 p = nI ((begK T (h.1 46 14)).kn p) ∧ h1.1 52 p = nI ((begK T (h.1 46 14)).ht p) ∧ h1.1 54 p = 0) 5 (fun k h1 hk i => by
      obtain ⟨i1, i2, i3⟩ := i
      have D1 := MoT_k i1 D
      have C1 := MoC_k i1 C
      have hkv : (if k < T.P then clN T.fo (T.tk k) T.F else 0) < 64 := by
        split
        · exact hkn k (by assumption)
        · decide
      have hto : zE sc (d + 3) 127 2 [some (.ref 46), some (.int (nI k))] [] zGL h1 = zE sc (d + 3) 127 35 [some (.ref 46), some (.int (nI k))] [.int (nI (if k < T.P then clN T.fo (T.tk k) T.F else 0)), .int (nI k), .ref 51] zGL h1 := by
        rw [E_Mo_begin_2, if_pos (iL (m := 5) (n := 5) rfl hk (by decide)), D1.2.1]
        by_cases hkP : k < T.P
        · have ht := htk k hkP
          rw [if_pos (nI_lt hkP (by omega)), if_pos (zin_nI (by omega) (by decide)), nI_clamp (by omega), (i1.1 49 (by decide) (by decide)).1, hk0 k hkP, if_pos (zin_nI (by omega) (by decide)), nI_clamp (by omega), C1.1 _ ht, if_pos hkP]
        · rw [if_neg (nI_nlt (by omega) (by omega)), if_neg hkP]; rfl
      have f2 : kFr h1 (zPI h1 51 k (nI (if k < T.P then clN T.fo (T.tk k) T.F else 0))) := mFr_I (by decide) (by decide)
      have D2 := MoT_k f2 D1
      refine ⟨zPI (zPI (zPI h1 51 k (nI (if k < T.P then clN T.fo (T.tk k) T.F else 0))) 52 k (nI (wtN T.w (if k < T.P then clN T.fo (T.tk k) T.F else 0) T.F % T.C))) 54 k 0, ?_, ?_, ?_, ?_⟩
      · rw [hto, E_Mo_begin_35, if_pos (zin_nI (by omega) (by decide)), if_pos (zin_nI (by omega) (by decide)), nI_clamp (by omega), D2.2.2.1, zPI_1, if_pos ⟨rfl, rfl⟩, Mo_hatOf sc (d + 1) _ O0 D2 hkv (by omega) (by omega), zBi_some, if_pos (zin_nI (by omega) (by decide)), if_pos (zin_nI (by omega) (by decide)), nI_1]
      · exact mFr_t i1 (mFr_t f2 (mFr_t (mFr_I (by decide) (by decide)) (mFr_I (by decide) (by decide))))
      · funext y
        rw [zPI_1, if_neg (by omega), zPI_1, if_neg (by omega), zPI_1, if_neg (by omega), i2]
      · intro p hp hpP
        by_cases hpk : p = k
        · subst hpk
          refine ⟨?_, ?_, ?_⟩
          · rw [zPI_1, if_neg (by omega), zPI_1, if_neg (by omega), zPI_1, if_pos ⟨rfl, rfl⟩, if_pos hpP]; rfl
          · rw [zPI_1, if_neg (by omega), zPI_1, if_pos ⟨rfl, rfl⟩, if_pos hpP]; rfl
          · rw [zPI_1, if_pos ⟨rfl, rfl⟩]
        · have := i3 p (by omega) hpP
          refine ⟨?_, ?_, ?_⟩
          · rw [zPI_1, if_neg (by omega), zPI_1, if_neg (by omega), zPI_1, if_neg (by omega), this.1]
          · rw [zPI_1, if_neg (by omega), zPI_1, if_neg (by omega), zPI_1, if_neg (by omega), this.2.1]
          · rw [zPI_1, if_neg (by omega), zPI_1, if_neg (by omega), zPI_1, if_neg (by omega), this.2.2]) h ⟨mFr_r _ _ h, rfl, fun p hp => by omega⟩
  refine exEq e1 ?_
  have D1 := MoT_k i1 D
  rw [E_Mo_begin_2, if_neg (iG (m := 5) (n := 5) rfl (Nat.le_refl _) (by decide))]
  obtain ⟨h2, e2, j1, j2, j3⟩ := zUpH (e := fun k h => zE sc (d + 3) 127 71 [some (.ref 46), some (.int (nI k))] [] zGL h) (inv := fun k h2 => kFr h h2 ∧ h2.1 = h1.1 ∧ ∀ j, j < k → j % 5 < T.P → h2.2.1 53 j = jF (weB T ((begK T (h.1 46 14)).ht (j % 5)))) 25 (fun k h2 hk i => by
      obtain ⟨j1, j2, j3⟩ := i
      have D2 := MoT_k j1 D
      have C2 := MoC_k j1 C
      refine ⟨zPL h2 53 k (jF (whB T (h2.1 52 (k % 5)))), ?_, mFr_t j1 (mFr_L (by decide) (by decide)), j2, ?_⟩
      · rw [E_Mo_begin_71, if_pos (iL (m := 25) (n := 25) rfl hk (by decide)), (d5 hk).2, if_pos (zin_nI (by omega) (by decide)), nI_clamp (by omega), Mo_withHat sc d h2 O0 D2 C2, zBj_some, if_pos (zin_nI hk (by decide)), nI_clamp (by omega), nI_1]
      · intro j hj hjP
        rw [zPL_2]
        by_cases hjk : j = k
        · subst hjk
          rw [if_pos ⟨rfl, rfl⟩, j2, (i3 (j % 5) (by omega) hjP).2.1, whB_we O0 (v := (begK T (h.1 46 14)).ht (j % 5)) (hht (j % 5))]
        · rw [if_neg (by omega), j3 j (by omega) hjP]) h1 ⟨i1, rfl, fun j hj => by omega⟩
  refine exEq e2 ?_
  refine ⟨zPI h2 46 12 0, ?_, ?_, mFr_t j1 (mFr_f (by decide))⟩
  · rw [E_Mo_begin_71, if_neg (iG (m := 25) (n := 25) rfl (Nat.le_refl _) (by decide))]
  · refine ⟨?_, ?_, ?_, ?_, ?_⟩
    · intro p hp
      rw [zPI_1, if_neg (by omega), zPI_1, if_neg (by omega), zPI_1, if_neg (by omega), j2]
      exact i3 p (by omega) hp
    · intro p q hp hq hn
      rw [zPI_2, j3 (5 * p + q) (by omega) (by omega), show (5 * p + q) % 5 = q by omega]
      rfl
    · intro i hi
      exact absurd hi (Nat.not_lt_zero i)
    · rw [zPI_1, if_pos ⟨rfl, rfl⟩]; rfl
    · rw [zPI_1, if_neg (by omega), j2, i2]; rfl
def skN (T : TT) (K : KK) (j : Nat) : Nat := if j / 5 ≠ j % 5 ∧ j / 5 < T.P ∧ j % 5 < T.P then sureK (K.V (j / 5) (j % 5)) T.F else 0
theorem skN_lt {T : TT} (O : TOK T) (K : KK) (j : Nat) : skN T K j < 64 := by
  unfold skN
  split
  · exact sureK_lt _ O.1
  · decide
theorem Mo_morning (sc : zSc) (d : Nat) (h : zHp) {T : TT} {K : KK} (O : TOK T) (D : MoT h T) (C : MoC h T) (R : MoK h T K) (kk : KOK T K) : ∃ h', zRun sc (d + 3) 176 [.ref 46] zGL h = some (some (.int (nI (jN (wakC T K) T.P))), zGL, h') ∧ MoK h' T (wakK T K) ∧ kFr h h' := by
  have O0 := O
  obtain ⟨hF6, hP5, hC2, hC9, hfo, htk⟩ := O
  have hp := p2_le hF6
  have hht : ∀ p, wtN T.w (K.kn p) T.F % T.C < 99 := fun p => Nat.lt_of_lt_of_le (Nat.mod_lt _ (by omega)) hC9
  rw [E_Mo_morning]
  have hf60 : ∀ h1 : zHp, h1.2 = h.2 → (∀ x, x ≠ 60 → h1.1 x = h.1 x) → kFr h h1 := fun h1 e1 e2 => ⟨fun x _ hx => ⟨e2 x (fun z => hx (by rw [z]; decide)), by rw [e1]⟩, fun k _ => ⟨by rw [e2 46 (by decide)], by rw [e1]⟩, by rw [e1]⟩
  obtain ⟨h1, e1, i1, i2, i3⟩ := zUpH (e := fun k h => zE sc (d + 3) 176 4 [some (.ref 46), some (.int 0), some (.int (nI k)), none, none, none] [] zGL h) (inv := fun k h1 => h1.2 = h.2 ∧ (∀ x, x ≠ 60 → h1.1 x = h.1 x) ∧ ∀ j, j < k → h1.1 60 j = nI (skN T K j)) 25 (fun k h1 hk i => by
      obtain ⟨i1, i2, i3⟩ := i
      have fr := hf60 h1 i1 i2
      have D1 := MoT_k fr D
      have R1 : MoK h1 T K := by
        unfold MoK
        rw [i1, i2 51 (by decide), i2 52 (by decide), i2 54 (by decide), i2 55 (by decide), i2 46 (by decide)]
        exact R
      have hto : zE sc (d + 3) 176 4 [some (.ref 46), some (.int 0), some (.int (nI k)), none, none, none] [] zGL h1 = zE sc (d + 3) 176 44 [some (.ref 46), some (.int 0), some (.int (nI k)), none, none, none] [.int (bI (decide (k / 5 ≠ k % 5 ∧ k / 5 < T.P ∧ k % 5 < T.P)))] zGL h1 := by
        rw [E_Mo_morning_4, if_pos (iL (m := 25) (n := 25) rfl hk (by decide)), (d5 hk).2, (d5 hk).1, D1.2.1]
        by_cases c1 : k / 5 = k % 5
        · rw [if_pos (by rw [c1]), E_Mo_morning_43, show bI (decide (k / 5 ≠ k % 5 ∧ k / 5 < T.P ∧ k % 5 < T.P)) = 0 by simp [c1, bI]]
        · rw [if_neg (fun z => c1 ((nI_eq (by omega) (by omega)).mp z))]
          by_cases c2 : k / 5 < T.P
          · rw [if_pos (nI_lt c2 (by omega))]
            by_cases c3 : k % 5 < T.P
            · rw [if_pos (nI_lt c3 (by omega)), show bI (decide (k / 5 ≠ k % 5 ∧ k / 5 < T.P ∧ k % 5 < T.P)) = 1 by simp [c1, c2, c3, bI]]
            · rw [if_neg (nI_nlt (by omega) (by omega)), E_Mo_morning_43, show bI (decide (k / 5 ≠ k % 5 ∧ k / 5 < T.P ∧ k % 5 < T.P)) = 0 by simp [c3, bI]]
          · rw [if_neg (nI_nlt (by omega) (by omega)), E_Mo_morning_43, show bI (decide (k / 5 ≠ k % 5 ∧ k / 5 < T.P ∧ k % 5 < T.P)) = 0 by simp [c2, bI]]
      refine ⟨zPI h1 60 k (nI (skN T K k)), ?_, i1, ?_, ?_⟩
      · rw [hto, E_Mo_morning_44, bI_c]
        by_cases c : k / 5 ≠ k % 5 ∧ k / 5 < T.P ∧ k % 5 < T.P
        · rw [decide_eq_true c, cond_true, (d5 hk).2, (d5 hk).1, Mo_sureKnows sc (d + 1) h1 O0 D1 R1 kk c.2.1 c.2.2 c.1, zBi_some, if_pos (zin_nI hk (by decide)), nI_clamp (by omega), nI_1]
          unfold skN
          rw [if_pos c]
        · rw [decide_eq_false c, cond_false, if_pos (zin_nI hk (by decide)), nI_clamp (by omega), nI_1]
          unfold skN
          rw [if_neg c]
          rfl
      · intro x hx
        rw [← i2 x hx]
        funext y
        rw [zPI_1, if_neg (by omega)]
      · intro j hj
        rw [zPI_1]
        by_cases hjk : j = k
        · rw [if_pos ⟨rfl, hjk⟩, hjk]
        · rw [if_neg (by omega), i3 j (by omega)]) h ⟨rfl, fun _ _ => rfl, fun j hj => by omega⟩
  refine exEq e1 ?_
  have f1 := hf60 h1 i1 i2
  rw [E_Mo_morning_4, if_neg (iG (m := 25) (n := 25) rfl (Nat.le_refl _) (by decide))]
  obtain ⟨h2, e2, j1, j2, j3, j4⟩ := zUpH (e := fun k h => zE sc (d + 3) 176 77 [some (.ref 46), some (.int (nI (jN (wakC T K) k))), some (.int (nI k)), none, none, none] [] zGL h) (inv := fun k h2 => kFr h h2 ∧ h2.2 = h.2 ∧ (∀ x, x ≠ 52 → h2.1 x = h1.1 x) ∧ ∀ p, p < T.P → h2.1 52 p = nI (if p < k then wtN T.w (K.kn p) T.F % T.C else K.ht p)) T.P (fun k h2 hk i => by
      obtain ⟨j1, j2, j3, j4⟩ := i
      have D2 := MoT_k j1 D
      have hkk := (kk.1 k hk).2.1
      have hhk := hht k
      have h51 : h2.1 51 k = nI (K.kn k) := by rw [j3 51 (by decide), i2 51 (by decide)]; exact (R.1 k hk).1
      refine ⟨zPI h2 52 k (nI (wtN T.w (K.kn k) T.F % T.C)), ?_, mFr_t j1 (mFr_I (by decide) (by decide)), j2, ?_, ?_⟩
      · rw [E_Mo_morning_77, D2.2.1, if_pos (nI_lt hk (by omega)), if_pos (zin_nI (by omega) (by decide)), nI_clamp (by omega), h51, D2.2.2.1, Mo_hatOf sc (d + 1) h2 O0 D2 (KOK_kn O0 kk hk) (by omega) (by omega), zBi_some, if_pos (zin_nI (by omega) (by decide)), j4 k hk, if_neg (Nat.lt_irrefl k)]
        by_cases hc : wtN T.w (K.kn k) T.F % T.C = K.ht k
        · rw [if_pos (by rw [hc]), E_Mo_morning_118, if_pos (zin_nI (by omega) (by decide)), i_or0, nI_1, nI_clamp (by omega), ← jN_succ_f (A := wakC T K) (by simp [wakC, hc])]
        · rw [if_neg (fun z => hc ((nI_eq (by omega) (by omega)).mp z)), E_Mo_morning_118, if_pos (zin_nI (by omega) (by decide)), nI_shl1 (by omega), nI_or, nI_1, nI_clamp (by omega), jN_succ_t (A := wakC T K) (by simp [wakC, hc])]
      · intro x hx
        rw [← j3 x hx]
        funext y
        rw [zPI_1, if_neg (by omega)]
      · intro p hp
        rw [zPI_1]
        by_cases hpk : p = k
        · rw [if_pos ⟨rfl, hpk⟩, if_pos (by omega), hpk]
        · rw [if_neg (by omega), j4 p hp]
          by_cases hlt : p < k
          · rw [if_pos hlt, if_pos (by omega)]
          · rw [if_neg hlt, if_neg (by omega)]) h1 ⟨f1, i1, fun _ _ => rfl, fun p hp => by rw [if_neg (by omega), i2 52 (by decide)]; exact (R.1 p hp).2.1⟩
  refine exEq e2 ?_
  have D2 := MoT_k j1 D
  rw [E_Mo_morning_77, D2.2.1, if_neg (nI_nlt (Nat.le_refl _) (by omega))]
  obtain ⟨h3, e3, k1, k2, k3⟩ := zUpH (e := fun k h => zE sc (d + 3) 176 135 [some (.ref 46), some (.int (nI (jN (wakC T K) T.P))), some (.int (nI k)), none, none, none] [] zGL h) (inv := fun k h3 => kFr h h3 ∧ h3.1 = h2.1 ∧ ∀ j, j < k → h3.2.1 53 j = jF (fun s => whB T (h2.1 52 (j % 5)) s && subN (skN T K j) s 6)) 25 (fun k h3 hk i => by
      obtain ⟨k1, k2, k3⟩ := i
      have f4 : kFr h3 (zPL h3 53 k 0) := mFr_L (by decide) (by decide)
      have D4 := MoT_k (mFr_t k1 f4) D
      have C4 := MoC_k (mFr_t k1 f4) C
      have h60 : h3.1 60 k = nI (skN T K k) := by rw [k2, j3 60 (by decide), i3 k hk]
      have hsk := skN_lt O0 K k
      obtain ⟨h5, e5, l1, l2, l3, l4⟩ := zUpH (e := fun j h => zE sc (d + 3) 176 164 [some (.ref 46), some (.int (nI (jN (wakC T K) T.P))), some (.int (nI k)), some (.long (jF (whB T (h3.1 52 (k % 5))))), none, some (.int (nI j))] [] zGL h) (inv := fun j h5 => kFr h3 h5 ∧ h5.1 = h3.1 ∧ (∀ y, y ≠ k → h5.2.1 53 y = h3.2.1 53 y) ∧ h5.2.1 53 k = jF (fun s => decide (s < j) && (whB T (h3.1 52 (k % 5)) s && subN (skN T K k) s 6))) (2 ^ T.F) (fun j h5 hj i => by
          obtain ⟨l1, l2, l3, l4⟩ := i
          have D5 := MoT_k (mFr_t k1 l1) D
          refine ⟨zPL h5 53 k (jF (fun s => decide (s < j + 1) && (whB T (h3.1 52 (k % 5)) s && subN (skN T K k) s 6))), ?_, mFr_t l1 (mFr_L (by decide) (by decide)), l2, ?_, by rw [zPL_2, if_pos ⟨rfl, rfl⟩]⟩
          · have hfold : jN (fun i => (skN T K k).testBit i && !j.testBit i) 31 = anN (skN T K k) j := rfl
            have hlt := anN_lt (F := 6) (b := j) hsk (Nat.le_refl 6)
            rw [E_Mo_morning_164, D5.1, sh_F hF6, if_pos (nI_lt hj (by omega)), if_pos (zin_nI hk (by decide)), if_pos (zin_nI hk (by decide)), nI_clamp (by omega), l2, h60, nI_andn (by omega) (by omega), hfold, l4, jF_bit1 (by omega), jF_and, jF_or, nI_1]
            by_cases hz : anN (skN T K k) j = 0
            · rw [if_pos (by rw [hz]; rfl), if_pos (zin_nI hk (by decide))]
              congr 2
              apply jF_ext
              intro s _
              by_cases hs : s = j
              · subst hs; simp [(an_sub hsk).mp hz]
              · rw [show decide (s < j + 1) = decide (s < j) by apply decide_eq_decide.mpr; omega]; simp [hs]
            · have hz2 : subN (skN T K k) j 6 = false := by
                cases hb : subN (skN T K k) j 6 with
                | false => rfl
                | true => exact absurd ((an_sub hsk).mpr hb) hz
              rw [if_neg (nI_ne0 (by omega) (by omega)), if_pos (zin_nI hk (by decide)), j_or0, fam_f (A := fun s => whB T (h3.1 52 (k % 5)) s && subN (skN T K k) s 6) (by simp [hz2])]
          · intro y hy
            rw [zPL_2, if_neg (fun z => hy z.2), l3 y hy]) (zPL h3 53 k 0) ⟨f4, rfl, fun y hy => by rw [zPL_2, if_neg (fun z => hy z.2)], by rw [zPL_2, if_pos ⟨rfl, rfl⟩, fam_0]⟩
      have D5 := MoT_k (mFr_t k1 l1) D
      refine ⟨h5, ?_, mFr_t k1 l1, l2.trans k2, ?_⟩
      · rw [E_Mo_morning_135, if_pos (iL (m := 25) (n := 25) rfl hk (by decide)), if_pos (zin_nI hk (by decide)), (d5 hk).2, if_pos (zin_nI (by omega) (by decide)), nI_clamp (by omega), nI_clamp (by omega), Mo_withHat sc d _ O0 D4 C4, zBj_some]
        refine e5.trans ?_
        rw [E_Mo_morning_164, D5.1, sh_F hF6, if_neg (nI_nlt (Nat.le_refl _) (by omega)), nI_1]
      · intro j hj
        by_cases hjk : j = k
        · subst hjk
          rw [l4, fam_F (A := fun s => whB T (h3.1 52 (j % 5)) s && subN (skN T K j) s 6) (fun s hs => whB_in T _ s (by rw [Bool.and_eq_true] at hs; exact hs.1)), k2]
        · rw [l3 j hjk, k3 j (by omega)]) h2 ⟨j1, rfl, fun j hj => by omega⟩
  refine exEq e3 ?_
  refine ⟨zPI h3 46 12 0, ?_, ?_, mFr_t k1 (mFr_f (by decide))⟩
  · rw [E_Mo_morning_135, if_neg (iG (m := 25) (n := 25) rfl (Nat.le_refl _) (by decide))]
  · refine ⟨?_, ?_, ?_, ?_, ?_⟩
    · intro p hp
      rw [zPI_1, if_neg (by omega), zPI_1, if_neg (by omega), zPI_1, if_neg (by omega), k2, j3 51 (by decide), j3 54 (by decide), i2 51 (by decide), i2 54 (by decide), j4 p hp, if_pos hp]
      exact ⟨(R.1 p hp).1, rfl, (R.1 p hp).2.2⟩
    · intro p q hp hq hn
      rw [zPI_2, k3 (5 * p + q) (by omega), show (5 * p + q) % 5 = q by omega, j4 q hq, if_pos hq, whB_we O0 (hht q)]
      have : skN T K (5 * p + q) = sureK (K.V p q) T.F := by
        unfold skN
        rw [show (5 * p + q) % 5 = q by omega, show (5 * p + q) / 5 = p by omega, if_pos ⟨hn, hp, hq⟩]
      rw [this]
      rfl
    · intro i hi
      exact absurd hi (Nat.not_lt_zero i)
    · rw [zPI_1, if_pos ⟨rfl, rfl⟩]; rfl
    · rw [zPI_1, if_neg (by omega), k2, j3 46 (by decide), i2 46 (by decide)]
      exact R.2.2.2.2
