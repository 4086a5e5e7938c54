/-! ===== images ===== -/
theorem Mo_keep (sc : zSc) (d : Nat) (h : zHp) {T : TT} {K : KK} (O : TOK T) (kk : KOK T K) (R : MoK h T K) {i : Nat} (hi : i < 2) : ∃ h', zRun sc (d + 1) 195 [.ref 46, .int (nI i)] zGL h = some (some (.int 1), zGL, h') ∧ MoI h' i T K ∧ (∀ i' T' K', i' ≠ i → K'.L ≤ 60 → T'.P ≤ 5 → MoI h i' T' K' → MoI h' i' T' K') ∧ h'.1 72 i = 1 ∧ (∀ j, j ≠ i → h'.1 72 j = h.1 72 j) ∧ mFr [70, 71, 72] [] h h' := by
  have hP5 := O.2.1
  have hL := kk.2.2.1
  have m2 : zRun sc d 132 [.long (nI i).toInt64, .long 0, .long 1] zGL h = some (some (.int (bI (isI (nI i) 2))), zGL, h) := Mo_in sc d h (nI i) (n := 2) (by decide)
  rw [E_Mo_keep, m2, zBi_some, isI_n (by decide) hi, b1, show (320 : Int32) = nI 320 from rfl, nI_mul]
  obtain ⟨h1, e1, i1, i2, i3⟩ := zUpH (e := fun k h => zE sc (d + 1) 195 21 [some (.ref 46), some (.int (nI i)), some (.int (nI (320 * i))), some (.int (nI k))] [] zGL h) (inv := fun k h1 => mFr [70] [] h h1 ∧ (∀ j, j < 320 * i ∨ 320 * i + 320 ≤ j → h1.1 70 j = h.1 70 j) ∧ ∀ p, p < k → h1.1 70 (320 * i + p) = h.1 51 p ∧ h1.1 70 (320 * i + 5 + p) = h.1 52 p ∧ h1.1 70 (320 * i + 10 + p) = h.1 54 p) 5 (fun k h1 hk iv => by
      obtain ⟨i1, i2, i3⟩ := iv
      refine ⟨zPI (zPI (zPI h1 70 (320 * i + k) (h1.1 51 k)) 70 (320 * i + 5 + k) (h1.1 52 k)) 70 (320 * i + 10 + k) (h1.1 54 k), ?_, mFr_t i1 (mFr_t (mFr_I (by decide) (by decide)) (mFr_t (mFr_I (by decide) (by decide)) (mFr_I (by decide) (by decide)))), ?_, ?_⟩
      · rw [E_Mo_keep_21, if_pos (iL (m := 5) (n := 5) rfl hk (by decide)), if_pos (zin_nI hk (by decide)), nI_add, if_pos (zin_nI (by omega) (by decide)), if_pos (zin_nI hk (by decide)), show (5 : Int32) = nI 5 from rfl, nI_add, nI_add, if_pos (zin_nI (by omega) (by decide)), if_pos (zin_nI hk (by decide)), show (10 : Int32) = nI 10 from rfl, nI_add, nI_add, if_pos (zin_nI (by omega) (by decide)), nI_clamp (by omega), nI_clamp (by omega), nI_clamp (by omega), nI_clamp (by omega), nI_1]
        rfl
      · intro j hj
        rw [zPI_1, if_neg (by omega), zPI_1, if_neg (by omega), zPI_1, if_neg (by omega)]
        exact i2 j hj
      · intro p hp
        by_cases hpk : p = k
        · subst hpk
          refine ⟨?_, ?_, ?_⟩
          · rw [zPI_1, if_neg (by omega), zPI_1, if_neg (by omega), zPI_1, if_pos ⟨rfl, rfl⟩, (i1.1 51 (by decide) (by decide)).1]
          · rw [zPI_1, if_neg (by omega), zPI_1, if_pos ⟨rfl, rfl⟩, (i1.1 52 (by decide) (by decide)).1]
          · rw [zPI_1, if_pos ⟨rfl, rfl⟩, (i1.1 54 (by decide) (by decide)).1]
        · have := i3 p (by omega)
          refine ⟨?_, ?_, ?_⟩
          · rw [zPI_1, if_neg (by omega), zPI_1, if_neg (by omega), zPI_1, if_neg (by omega), this.1]
          · rw [zPI_1, if_neg (by omega), zPI_1, if_neg (by omega), zPI_1, if_neg (by omega), this.2.1]
          · rw [zPI_1, if_neg (by omega), zPI_1, if_neg (by omega), zPI_1, if_neg (by omega), this.2.2]) h ⟨mFr_r _ _ _, fun _ _ => rfl, fun p hp => by omega⟩
  refine exEq e1 ?_
  rw [E_Mo_keep_21, if_neg (iG (m := 5) (n := 5) rfl (by omega) (by omega)), show (15 : Int32) = nI 15 from rfl, show (16 : Int32) = nI 16 from rfl, nI_add, nI_add, if_pos (zin_nI (by omega) (by decide)), if_pos (zin_nI (by omega) (by decide)), nI_clamp (by omega), nI_clamp (by omega)]
  generalize hz : zPI (zPI h1 70 (320 * i + 15) (h1.1 46 12)) 70 (320 * i + 16) ((zPI h1 70 (320 * i + 15) (h1.1 46 12)).1 46 14) = h2
  have f2 : mFr [70] [] h h2 := by rw [← hz]; exact mFr_t i1 (mFr_t (mFr_I (by decide) (by decide)) (mFr_I (by decide) (by decide)))
  have a15 : h2.1 70 (320 * i + 15) = h.1 46 12 := by rw [← hz, zPI_1, if_neg (by omega), zPI_1, if_pos ⟨rfl, rfl⟩, (i1.2.1 12 (by decide)).1]
  have a16 : h2.1 70 (320 * i + 16) = h.1 46 14 := by rw [← hz, zPI_1, if_pos ⟨rfl, rfl⟩, zPI_1, if_neg (by omega), (i1.2.1 14 (by decide)).1]
  have a0 : ∀ j, j < 320 * i ∨ 320 * i + 320 ≤ j → h2.1 70 j = h.1 70 j := fun j hj => by rw [← hz, zPI_1, if_neg (by omega), zPI_1, if_neg (by omega)]; exact i2 j hj
  have a3 : ∀ p, p < 5 → h2.1 70 (320 * i + p) = h.1 51 p ∧ h2.1 70 (320 * i + 5 + p) = h.1 52 p ∧ h2.1 70 (320 * i + 10 + p) = h.1 54 p := fun p hp => by
    have := i3 p hp
    rw [← hz, zPI_1, if_neg (by omega), zPI_1, if_neg (by omega), zPI_1, if_neg (by omega), zPI_1, if_neg (by omega), zPI_1, if_neg (by omega), zPI_1, if_neg (by omega)]
    exact this
  obtain ⟨h3, e3, j1, j2, j3, j4⟩ := zUpH (e := fun k h => zE sc (d + 1) 195 107 [some (.ref 46), some (.int (nI i)), some (.int (nI (320 * i))), some (.int (nI k))] [] zGL h) (inv := fun k h3 => mFr [70] [] h h3 ∧ (∀ j, j < 320 * i ∨ 320 * i + 320 ≤ j → h3.1 70 j = h.1 70 j) ∧ (∀ j, j < 20 → h3.1 70 (320 * i + j) = h2.1 70 (320 * i + j)) ∧ ∀ p, p < k → h3.1 70 (320 * i + 20 + p) = h.1 55 p) 300 (fun k h3 hk iv => by
      obtain ⟨j1, j2, j3, j4⟩ := iv
      refine ⟨zPI h3 70 (320 * i + 20 + k) (h3.1 55 k), ?_, mFr_t j1 (mFr_I (by decide) (by decide)), fun j hj => ?_, fun j hj => ?_, fun p hp => ?_⟩
      · rw [E_Mo_keep_107, if_pos (iL (m := 300) (n := 300) rfl hk (by decide)), if_pos (zin_nI hk (by decide)), show (20 : Int32) = nI 20 from rfl, nI_add, nI_add, if_pos (zin_nI (by omega) (by decide)), nI_clamp (by omega), nI_clamp (by omega), nI_1]
      · rw [zPI_1, if_neg (by omega)]; exact j2 j hj
      · rw [zPI_1, if_neg (by omega)]; exact j3 j hj
      · rw [zPI_1]
        by_cases hpk : p = k
        · rw [if_pos ⟨rfl, by rw [hpk]⟩, hpk, (j1.1 55 (by decide) (by decide)).1]
        · rw [if_neg (by omega)]; exact j4 p (by omega)) h2 ⟨f2, a0, fun _ _ => rfl, fun p hp => by omega⟩
  refine exEq e3 ?_
  rw [E_Mo_keep_107, if_neg (iG (m := 300) (n := 300) rfl (by omega) (by omega))]
  obtain ⟨h4, e4, k1, k2, k3, k4⟩ := zUpH (e := fun k h => zE sc (d + 1) 195 139 [some (.ref 46), some (.int (nI i)), none, some (.int (nI k))] [] zGL h) (inv := fun k h4 => mFr [70, 71] [] h h4 ∧ h4.1 = h3.1 ∧ (∀ j, j < 25 * i ∨ 25 * i + 25 ≤ j → h4.2.1 71 j = h.2.1 71 j) ∧ ∀ p, p < k → h4.2.1 71 (25 * i + p) = h.2.1 53 p) 25 (fun k h4 hk iv => by
      obtain ⟨k1, k2, k3, k4⟩ := iv
      refine ⟨zPL h4 71 (25 * i + k) (h4.2.1 53 k), ?_, mFr_t k1 (mFr_L (by decide) (by decide)), k2, fun j hj => ?_, fun p hp => ?_⟩
      · rw [E_Mo_keep_139, if_pos (iL (m := 25) (n := 25) rfl hk (by decide)), if_pos (zin_nI hk (by decide)), show (25 : Int32) = nI 25 from rfl, nI_mul, nI_add, if_pos (zin_nI (by omega) (by decide)), nI_clamp (by omega), nI_clamp (by omega), nI_1]
      · rw [zPL_2, if_neg (by omega)]; exact k3 j hj
      · rw [zPL_2]
        by_cases hpk : p = k
        · rw [if_pos ⟨rfl, by rw [hpk]⟩, hpk, (k1.1 53 (by decide) (by decide)).2]
        · rw [if_neg (by omega)]; exact k4 p (by omega)) h3 ⟨mFr_w j1 (by decide) (by decide), rfl, fun j _ => by rw [(j1.1 71 (by decide) (by decide)).2], fun p hp => by omega⟩
  refine exEq e4 ?_
  have r5 : ∀ k, (zPI h4 72 i 1).1 70 k = h3.1 70 k := fun k => by rw [zPI_1, if_neg (by omega), k2]
  refine ⟨zPI h4 72 i 1, ?_, ⟨fun p hp => ?_, fun p q hp hq hn => ?_, fun j hj => ?_, ?_, ?_⟩, fun i' T' K' hne hL' hP' M => ?_, ?_, fun j hj => ?_, mFr_t (mFr_w k1 (by decide) (by decide)) (mFr_I (by decide) (by decide))⟩
  · rw [E_Mo_keep_139, if_neg (iG (m := 25) (n := 25) rfl (by omega) (by omega)), if_pos (zin_nI hi (by decide)), nI_clamp (by omega)]
  · have b := a3 p (by omega)
    have c1 := j3 p (by omega)
    have c2 := j3 (5 + p) (by omega)
    have c3 := j3 (10 + p) (by omega)
    rw [← Nat.add_assoc] at c2 c3
    rw [r5, r5, r5, c1, c2, c3, b.1, b.2.1, b.2.2]
    exact R.1 p hp
  · rw [zPI_2, k4 (5 * p + q) (by omega)]
    exact R.2.1 p q hp hq hn
  · rw [r5, j4 j (by omega)]
    exact R.2.2.1 j hj
  · rw [r5, j3 15 (by omega), a15]
    exact R.2.2.2.1
  · rw [r5, j3 16 (by omega), a16]
    exact R.2.2.2.2
  · obtain ⟨m1, m2', m3, m4, m5⟩ := M
    have out : ∀ j, j < 320 → (zPI h4 72 i 1).1 70 (320 * i' + j) = h.1 70 (320 * i' + j) := fun j hj => by rw [r5]; exact j2 _ (by omega)
    refine ⟨fun p hp => ?_, fun p q hp hq hn => ?_, fun j hj => ?_, ?_, ?_⟩
    · have c1 := out p (by omega)
      have c2 := out (5 + p) (by omega)
      have c3 := out (10 + p) (by omega)
      rw [← Nat.add_assoc] at c2 c3
      rw [c1, c2, c3]
      exact m1 p hp
    · rw [zPI_2, k3 _ (by omega)]
      exact m2' p q hp hq hn
    · have c1 := out (20 + j) (by omega)
      rw [← Nat.add_assoc] at c1
      rw [c1]
      exact m3 j hj
    · rw [out 15 (by decide)]; exact m4
    · rw [out 16 (by decide)]; exact m5
  · rw [zPI_1, if_pos ⟨rfl, rfl⟩]
  · rw [zPI_1, if_neg (fun z => hj z.2), (k1.1 72 (by decide) (by decide)).1]
theorem Mo_goBack (sc : zSc) (d : Nat) (h : zHp) {T : TT} {K : KK} (O : TOK T) (kk : KOK T K) {i : Nat} (hi : i < 2) (M : MoI h i T K) (h72 : ¬ h.1 72 i = 0) : ∃ h', zRun sc (d + 1) 196 [.ref 46, .int (nI i)] zGL h = some (some (.int 1), zGL, h') ∧ MoK h' T K ∧ kFr h h' := by
  have hP5 := O.2.1
  have hL := kk.2.2.1
  obtain ⟨m1, m2', m3, m4, m5⟩ := M
  have m2 : zRun sc d 132 [.long (nI i).toInt64, .long 0, .long 1] zGL h = some (some (.int (bI (isI (nI i) 2))), zGL, h) := Mo_in sc d h (nI i) (n := 2) (by decide)
  rw [E_Mo_goBack, m2, zBi_some, isI_n (by decide) hi, b1, if_pos (zin_nI hi (by decide)), nI_clamp (by omega), if_neg h72, show (320 : Int32) = nI 320 from rfl, nI_mul]
  obtain ⟨h1, e1, i1, i3⟩ := zUpH (e := fun k h => zE sc (d + 1) 196 34 [some (.ref 46), some (.int (nI i)), some (.int (nI (320 * i))), some (.int (nI k))] [] zGL h) (inv := fun k h1 => kFr h h1 ∧ ∀ p, p < k → h1.1 51 p = h.1 70 (320 * i + p) ∧ h1.1 52 p = h.1 70 (320 * i + 5 + p) ∧ h1.1 54 p = h.1 70 (320 * i + 10 + p)) 5 (fun k h1 hk iv => by
      obtain ⟨i1, i3⟩ := iv
      have r7 := (i1.1 70 (by decide) (by decide)).1
      refine ⟨zPI (zPI (zPI h1 51 k (h1.1 70 (320 * i + k))) 52 k (h1.1 70 (320 * i + 5 + k))) 54 k (h1.1 70 (320 * i + 10 + k)), ?_, mFr_t i1 (mFr_t (mFr_I (by decide) (by decide)) (mFr_t (mFr_I (by decide) (by decide)) (mFr_I (by decide) (by decide)))), ?_⟩
      · rw [E_Mo_goBack_34, if_pos (iL (m := 5) (n := 5) rfl hk (by decide)), nI_add, if_pos (zin_nI (by omega) (by decide)), if_pos (zin_nI hk (by decide)), show (5 : Int32) = nI 5 from rfl, nI_add, nI_add, if_pos (zin_nI (by omega) (by decide)), if_pos (zin_nI hk (by decide)), show (10 : Int32) = nI 10 from rfl, nI_add, nI_add, if_pos (zin_nI (by omega) (by decide)), if_pos (zin_nI hk (by decide)), nI_clamp (by omega), nI_clamp (by omega), nI_clamp (by omega), nI_clamp (by omega), nI_1]
        rfl
      · intro p hp
        by_cases hpk : p = k
        · subst hpk
          refine ⟨?_, ?_, ?_⟩
          · rw [zPI_1, if_neg (by omega), zPI_1, if_neg (by omega), zPI_1, if_pos ⟨rfl, rfl⟩, r7]
          · rw [zPI_1, if_neg (by omega), zPI_1, if_pos ⟨rfl, rfl⟩, r7]
          · rw [zPI_1, if_pos ⟨rfl, rfl⟩, r7]
        · have := i3 p (by omega)
          refine ⟨?_, ?_, ?_⟩
          · rw [zPI_1, if_neg (by omega), zPI_1, if_neg (by omega), zPI_1, if_neg (by omega), this.1]
          · rw [zPI_1, if_neg (by omega), zPI_1, if_neg (by omega), zPI_1, if_neg (by omega), this.2.1]
          · rw [zPI_1, if_neg (by omega), zPI_1, if_neg (by omega), zPI_1, if_neg (by omega), this.2.2]) h ⟨mFr_r _ _ _, fun p hp => by omega⟩
  refine exEq e1 ?_
  rw [E_Mo_goBack_34, if_neg (iG (m := 5) (n := 5) rfl (by omega) (by omega)), show (15 : Int32) = nI 15 from rfl, show (16 : Int32) = nI 16 from rfl, nI_add, nI_add, if_pos (zin_nI (by omega) (by decide)), if_pos (zin_nI (by omega) (by decide)), nI_clamp (by omega), nI_clamp (by omega)]
  generalize hz : zPI (zPI h1 46 12 (h1.1 70 (320 * i + 15))) 46 14 ((zPI h1 46 12 (h1.1 70 (320 * i + 15))).1 70 (320 * i + 16)) = h2
  have f2 : kFr h h2 := by rw [← hz]; exact mFr_t i1 (mFr_t (mFr_f (by decide)) (mFr_f (by decide)))
  have a12 : h2.1 46 12 = nI K.L := by rw [← hz, zPI_1, if_neg (by omega), zPI_1, if_pos ⟨rfl, rfl⟩, (i1.1 70 (by decide) (by decide)).1, m4]
  have a14 : h2.1 46 14 = K.sd := by rw [← hz, zPI_1, if_pos ⟨rfl, rfl⟩, zPI_1, if_neg (by omega), (i1.1 70 (by decide) (by decide)).1, m5]
  have a3 : ∀ x, x ≠ 46 → h2.1 x = h1.1 x := fun x hx => by rw [← hz]; funext y; rw [zPI_1, if_neg (fun z => hx z.1), zPI_1, if_neg (fun z => hx z.1)]
  obtain ⟨h3, e3, j1, j2, j4⟩ := zUpH (e := fun k h => zE sc (d + 1) 196 120 [some (.ref 46), some (.int (nI i)), some (.int (nI (320 * i))), some (.int (nI k))] [] zGL h) (inv := fun k h3 => kFr h h3 ∧ (∀ x, x ≠ 55 → h3.1 x = h2.1 x) ∧ ∀ p, p < k → h3.1 55 p = h.1 70 (320 * i + 20 + p)) 300 (fun k h3 hk iv => by
      obtain ⟨j1, j2, j4⟩ := iv
      refine ⟨zPI h3 55 k (h3.1 70 (320 * i + 20 + k)), ?_, mFr_t j1 (mFr_I (by decide) (by decide)), fun x hx => ?_, fun p hp => ?_⟩
      · rw [E_Mo_goBack_120, if_pos (iL (m := 300) (n := 300) rfl hk (by decide)), show (20 : Int32) = nI 20 from rfl, nI_add, nI_add, if_pos (zin_nI (by omega) (by decide)), if_pos (zin_nI hk (by decide)), nI_clamp (by omega), nI_clamp (by omega), nI_1]
      · rw [← j2 x hx]
        funext y
        rw [zPI_1, if_neg (fun z => hx z.1)]
      · rw [zPI_1]
        by_cases hpk : p = k
        · rw [if_pos ⟨rfl, hpk⟩, hpk, (j1.1 70 (by decide) (by decide)).1]
        · rw [if_neg (by omega)]; exact j4 p (by omega)) h2 ⟨f2, fun _ _ => rfl, fun p hp => by omega⟩
  refine exEq e3 ?_
  rw [E_Mo_goBack_120, if_neg (iG (m := 300) (n := 300) rfl (by omega) (by omega))]
  obtain ⟨h4, e4, k1, k2, k4⟩ := zUpH (e := fun k h => zE sc (d + 1) 196 152 [some (.ref 46), some (.int (nI i)), none, some (.int (nI k))] [] zGL h) (inv := fun k h4 => kFr h h4 ∧ h4.1 = h3.1 ∧ ∀ p, p < k → h4.2.1 53 p = h.2.1 71 (25 * i + p)) 25 (fun k h4 hk iv => by
      obtain ⟨k1, k2, k4⟩ := iv
      refine ⟨zPL h4 53 k (h4.2.1 71 (25 * i + k)), ?_, mFr_t k1 (mFr_L (by decide) (by decide)), k2, fun p hp => ?_⟩
      · rw [E_Mo_goBack_152, if_pos (iL (m := 25) (n := 25) rfl hk (by decide)), show (25 : Int32) = nI 25 from rfl, nI_mul, nI_add, if_pos (zin_nI (by omega) (by decide)), if_pos (zin_nI hk (by decide)), nI_clamp (by omega), nI_clamp (by omega), nI_1]
      · rw [zPL_2]
        by_cases hpk : p = k
        · rw [if_pos ⟨rfl, hpk⟩, hpk, (k1.1 71 (by decide) (by decide)).2]
        · rw [if_neg (by omega)]; exact k4 p (by omega)) h3 ⟨j1, rfl, fun p hp => by omega⟩
  refine exEq e4 ?_
  refine ⟨h4, ?_, ⟨fun p hp => ?_, fun p q hp hq hn => ?_, fun j hj => ?_, ?_, ?_⟩, k1⟩
  · rw [E_Mo_goBack_152, if_neg (iG (m := 25) (n := 25) rfl (by omega) (by omega))]
  · have b := i3 p (by omega)
    rw [k2, j2 51 (by decide), j2 52 (by decide), j2 54 (by decide), a3 51 (by decide), a3 52 (by decide), a3 54 (by decide), b.1, b.2.1, b.2.2]
    exact m1 p hp
  · rw [k4 (5 * p + q) (by omega)]
    exact m2' p q hp hq hn
  · rw [k2, j4 j (by omega)]
    exact m3 j hj
  · rw [k2, j2 46 (by decide), a12]
  · rw [k2, j2 46 (by decide), a14]
theorem X_isImage (sc : zSc) (d : Nat) (h : zHp) (v : Int32) : zRun sc d 122 [.ref 0, .int v] zGL h = some (some (.int (bI (isI v 2))), zGL, h) := by
  rw [E_X_isImage]
  exact i_is v (n := 2) h
theorem zOK_k {o : Option Nat} {t : Nat} {f : (t : Nat) → zTk t = true → Option zRs} (ho : o = some t) (ht : zTk t = true) : zOK o f = f t ht := by rw [ho]; exact zOK_some ht f
theorem im_t : ∀ i, i < 2 → zTk (33 + 6 * i) = true := by decide
def upI (I : II) (i : Nat) (K : KK) : II := (fun j => if j = i then true else I.1 j, fun j => if j = i then K else I.2 j)
theorem op_keep (sc : zSc) (d : Nat) (h : zHp) (s : SI h) (v : Int32) : okS sc (d + 20) 121 [.ref 0, .int v] 195 [.ref 46, .int v] h := by
  have s0 := s
  obtain ⟨t, t', T, K, X, B, I, fl, ⟨⟨ht, ht', hne⟩, O, kk, xo, bo, ko⟩, G, M⟩ := s
  have h15 := tw_15 ht
  have m2 : zRun sc (d + 19) 132 [.long v.toInt64, .long 0, .long 1] zGL h = some (some (.int (bI (isI v 2))), zGL, h) := Mo_in sc (d + 19) h v (n := 2) (by decide)
  cases hv : isI v 2 with
  | false => exact okS_q s0 (by rw [E_X_keep, X_isImage, zBi_some, hv, b0]) (by rw [E_Mo_keep, m2, zBi_some, hv, b0])
  | true =>
    obtain ⟨i, hi, rfl⟩ := isI_of (by decide) hv
    have hp5 := O.2.1
    obtain ⟨⟨g1, g2, g3, g4⟩, g5, g6, g7, g8, g9, g10⟩ := G
    have himg : h.2.2 32 i = some (33 + 6 * i) := by
      match i, hi with
      | 0, _ => exact g3
      | 1, _ => exact g4
    obtain ⟨h1, r1, r2, r3⟩ := Tk_copyFrom sc (d + 18) zGL h (zTk_4 (im_t i hi)) zS4_26 (.inr (by omega)) O g6 kk
    have f1 : zFr (33 + 6 * i) 46 h (zPI h1 45 i 1) := zFr_t (zFr_w r3 (Nat.le_refl _) (by omega)) (zFr_I (by omega) (by decide))
    have e45 : ∀ x, x ≠ 45 → (zPI h1 45 i 1).1 x = h1.1 x := fun x hx => funext fun y => by rw [zPI_1, if_neg (fun z => hx z.1)]
    have f45 : zFr 45 46 h1 (zPI h1 45 i 1) := zFr_I (by decide) (by decide)
    have G1 : GX (zPI h1 45 i 1) t t' T K X B (upI I i K) fl := by
      have f0 := f1 0 (by omega)
      refine ⟨⟨by rw [f0.2.2]; exact g1, by rw [f0.2.2]; exact g2, by rw [(f1 32 (by omega)).2.2]; exact g3, by rw [(f1 32 (by omega)).2.2]; exact g4⟩, TnS_fr f1 (by omega) g5, TkD_fr f1 (by omega) g6, ?_, ?_, fun j hj => ?_, by rw [f0.1]; exact g10⟩
      · exact TxD_fr f1 (by omega) g7
      · exact BkD_fr f1 (by omega) g8
      · by_cases hji : j = i
        · subst hji
          refine ⟨?_, fun _ => ?_⟩
          · rw [zPI_1, if_pos ⟨rfl, rfl⟩]
            simp [upI, bI]
          · have : (upI I j K).2 j = K := if_pos rfl
            rw [this]
            exact TkD_fr f45 (by omega) r2
        · have e1 : (upI I i K).1 j = I.1 j := if_neg hji
          have e2 : (upI I i K).2 j = I.2 j := if_neg hji
          rw [e1, e2]
          refine ⟨?_, fun hk => ?_⟩
          · rw [zPI_1, if_neg (fun z => hji z.2), (r3 45 (by omega)).1]
            exact (g9 j hj).1
          · exact TkD_fr f45 (by omega) (TkD_fr r3 (by omega) ((g9 j hj).2 hk))
    have M1 := GM_f f1 (by omega) M
    obtain ⟨h2, q1, q2, q3, q4, q5, q6⟩ := Mo_keep sc (d + 19) (zPI h1 45 i 1) O kk M1.2.2.1 hi
    have M2 : GM h2 T K X B (upI I i K) fl := by
      obtain ⟨n1, n2, n3, n4, n5, n6, n7⟩ := M1
      refine ⟨MoT_m q6 (by decide) (by decide) n1, MoC_m q6 (by decide) (by decide) n2, MoK_m q6 (by decide) (by decide) n3, MoX_m q6 (by decide) (by decide) n4, MoB_m q6 (by decide) (by decide) n5, fun j hj => ?_, by rw [(q6.2.1 17 (by decide)).1]; exact n7⟩
      by_cases hji : j = i
      · subst hji
        refine ⟨?_, fun _ => ?_⟩
        · rw [q4]; simp [upI, bI]
        · have : (upI I j K).2 j = K := if_pos rfl
          rw [this]
          exact q2
      · have e1 : (upI I i K).1 j = I.1 j := if_neg hji
        have e2 : (upI I i K).2 j = I.2 j := if_neg hji
        rw [e1, e2]
        refine ⟨?_, fun hk => ?_⟩
        · rw [q5 j hji]
          exact (n6 j hj).1
        · exact q3 j T (I.2 j) hji (ko j hj hk).2.2.1 hp5 ((n6 j hj).2 hk)
    refine ⟨1, zPI h1 45 i 1, h2, ?_, q1, t, t', T, K, X, B, upI I i K, fl, ⟨⟨ht, ht', hne⟩, O, kk, xo, bo, fun j hj hk => ?_⟩, GX_m q6 (by decide) ht G1, M2⟩
    · rw [E_X_keep, X_isImage, zBi_some, hv, b1, if_pos (zin_nI hi (by decide)), nI_clamp (by omega), zOK_k himg (im_t i hi), r1, zBv_some, if_pos (zin_nI hi (by decide))]
    · by_cases hji : j = i
      · have : (upI I i K).2 j = K := if_pos hji
        rw [this]; exact kk
      · have e1 : (upI I i K).1 j = I.1 j := if_neg hji
        have e2 : (upI I i K).2 j = I.2 j := if_neg hji
        rw [e1] at hk
        rw [e2]
        exact ko j hj hk
theorem op_goBack (sc : zSc) (d : Nat) (h : zHp) (s : SI h) (v : Int32) : okS sc (d + 20) 124 [.ref 0, .int v] 196 [.ref 46, .int v] h := by
  have s0 := s
  obtain ⟨t, t', T, K, X, B, I, fl, ⟨⟨ht, ht', hne⟩, O, kk, xo, bo, ko⟩, G, M⟩ := s
  have m2 : zRun sc (d + 19) 132 [.long v.toInt64, .long 0, .long 1] zGL h = some (some (.int (bI (isI v 2))), zGL, h) := Mo_in sc (d + 19) h v (n := 2) (by decide)
  cases hv : isI v 2 with
  | false => exact okS_q s0 (by rw [E_X_goBack, X_isImage, zBi_some, hv, b0]) (by rw [E_Mo_goBack, m2, zBi_some, hv, b0])
  | true =>
    obtain ⟨i, hi, rfl⟩ := isI_of (by decide) hv
    have g9 := G.2.2.2.2.2.1 i hi
    have n6 := M.2.2.2.2.2.1 i hi
    have himg : h.2.2 32 i = some (33 + 6 * i) := by
      match i, hi with
      | 0, _ => exact G.1.2.2.1
      | 1, _ => exact G.1.2.2.2
    cases hk : I.1 i with
    | false => exact okS_q (v := -1000000003) s0 (by rw [E_X_goBack, X_isImage, zBi_some, hv, b1, if_pos (zin_nI hi (by decide)), nI_clamp (by omega), g9.1, hk, b0]) (by rw [E_Mo_goBack, m2, zBi_some, hv, b1, if_pos (zin_nI hi (by decide)), nI_clamp (by omega), n6.1, hk, b0])
    | true =>
      have kI := ko i hi hk
      obtain ⟨h1, r1, r2, r3⟩ := Tk_copyFrom sc (d + 18) zGL h zS4_26 (zTk_4 (im_t i hi)) (.inl (by omega)) O (g9.2 hk) kI
      have G1 := GX_K r3 ht r2 G
      have M1 := GM_f r3 (by decide) M
      have n6' := M1.2.2.2.2.2.1 i hi
      obtain ⟨h2, q1, q2, q3⟩ := Mo_goBack sc (d + 19) h1 O kI hi (n6'.2 hk) (by rw [n6'.1, hk]; decide)
      exact ⟨1, h1, h2, by rw [E_X_goBack, X_isImage, zBi_some, hv, b1, if_pos (zin_nI hi (by decide)), nI_clamp (by omega), g9.1, hk, b1, if_pos (zin_nI hi (by decide)), zOK_k himg (im_t i hi), r1, zBv_some], q1, t, t', T, I.2 i, X, B, I, fl, ⟨⟨ht, ht', hne⟩, O, kI, xo, bo, ko⟩, GX_k q3 ht G1, GM_K q3 q2 M1⟩
