/-! ===== what always holds of a talk ===== -/
theorem we_ne {T : TT} (O : TOK T) {s : Nat} (h : clB T s = true) : empB (weB T (wtN T.w s T.F % T.C)) = false := by
  have hs : s < 64 := lt_64 (clB_lt h) O.1
  cases he : empB (weB T (wtN T.w s T.F % T.C)) with
  | false => rfl
  | true =>
    unfold empB at he
    rw [List.all_eq_true] at he
    have := he s (List.mem_range.mpr hs)
    simp [weB, h] at this
theorem cl_clB {T : TT} (O : TOK T) {s : Nat} (hs : s < 2 ^ T.F) : clB T (clN T.fo s T.F) = true := by
  unfold clB
  rw [Bool.and_eq_true, decide_eq_true_eq, beq_iff_eq]
  exact ⟨clN_lt hs (Nat.le_refl _), clN_idem O.1 (fun f hf => (O.2.2.2.2.1 f hf).2)⟩
theorem ht_lt {T : TT} (O : TOK T) (x : Nat) : x % T.C < T.C := Nat.mod_lt _ (by have := O.2.2.1; omega)
theorem KOK_beg {T : TT} (O : TOK T) {sd : Int32} (hs : ¬ sd < 0) : KOK T (begK T sd) := by
  refine ⟨fun p hp => ?_, fun p q s hp hq hn h => weB_in T _ s h, Nat.zero_le 60, fun i hi => absurd hi (Nat.not_lt_zero i), hs⟩
  have h1 := cl_clB O (O.2.2.2.2.2 p hp)
  exact ⟨h1, ht_lt O _, we_ne O h1⟩
theorem KOK_wak {T : TT} (O : TOK T) {K : KK} (kk : KOK T K) : KOK T (wakK T K) := by
  refine ⟨fun p hp => ?_, fun p q s hp hq hn h => ?_, Nat.zero_le 60, fun i hi => absurd hi (Nat.not_lt_zero i), kk.2.2.2.2⟩
  · have h1 := (kk.1 p hp).1
    exact ⟨h1, ht_lt O _, we_ne O h1⟩
  · have h1 : (weB T (wtN T.w (K.kn q) T.F % T.C) s && subN (sureK (K.V p q) T.F) s 6) = true := h
    rw [Bool.and_eq_true] at h1
    exact weB_in T _ s h1.1
theorem KOK_sil {T : TT} {K : KK} (kk : KOK T K) {a b : Nat} : KOK T (silK T K a b) := by
  refine ⟨kk.1, fun p q s hp hq hn h => ?_, kk.2.2⟩
  have h1 : (if p = b ∧ q = a then silV T K a b else K.V p q) s = true := h
  by_cases hc : p = b ∧ q = a
  · rw [if_pos hc] at h1
    unfold silV at h1
    rw [Bool.and_eq_true] at h1
    rw [← hc.1, ← hc.2] at h1
    exact kk.2.1 p q s hp hq hn h1.1
  · rw [if_neg hc] at h1
    exact kk.2.1 p q s hp hq hn h1
theorem sayV_in {T : TT} {K : KK} (kk : KOK T K) {a b f e p q : Nat} (hf : f < T.F) (hp : p < T.P) (hq : q < T.P) (hn : p ≠ q) : inF T.F (sayV T K a b f e p q) := by
  have iV := KOK_in kk hp hq hn
  unfold sayV
  split
  · exact iV
  · split
    · intro s hs
      rw [Bool.and_eq_true] at hs
      exact iV s hs.1
    · split
      · exact img_in (A := fun s => K.V p q s && s.testBit f == (K.kn b).testBit f) (thB_in iV f _) hf
      · exact img_in iV hf
theorem KOK_say {T : TT} (O : TOK T) {K : KK} (kk : KOK T K) {a b f l : Nat} (hf : f < T.F) (hl : l < 32) : KOK T (sayK T K a b f l) := by
  refine ⟨fun p hp => ⟨?_, (kk.1 p hp).2⟩, fun p q s hp hq hn h => sayV_in kk hf hp hq hn s h, ?_, ?_, kk.2.2.2.2⟩
  · show clB T (sayN T K b f l p) = true
    unfold sayN
    split
    · exact cl_clB O (or_ltF (clB_lt (kk.1 p hp).1) hf)
    · exact (kk.1 p hp).1
  · have := kk.2.2.1
    show (if K.L < 60 then K.L + 1 else K.L) ≤ 60
    split <;> omega
  · intro i hi
    have hi' : i < (if K.L < 60 then K.L + 1 else K.L) := hi
    show (∃ f', f' < T.F ∧ (if K.L < 60 then sayL K a b f l else K.lg) (5 * i + 2) = nI f') ∧ ∃ l', l' < 32 ∧ (if K.L < 60 then sayL K a b f l else K.lg) (5 * i + 3) = nI l'
    by_cases h6 : K.L < 60
    · rw [if_pos h6] at hi'
      by_cases hiL : i = K.L
      · subst hiL
        refine ⟨⟨f, hf, ?_⟩, l, hl, ?_⟩
        · rw [if_pos h6]; unfold sayL; rw [if_neg (by omega), if_neg (by omega), if_pos rfl]
        · rw [if_pos h6]; unfold sayL; rw [if_neg (by omega), if_neg (by omega), if_neg (by omega), if_pos rfl]
      · obtain ⟨⟨f', h1, h2⟩, l', h3, h4⟩ := kk.2.2.2.1 i (by omega)
        refine ⟨⟨f', h1, ?_⟩, l', h3, ?_⟩
        · rw [if_pos h6]; unfold sayL; rw [if_neg (by omega), if_neg (by omega), if_neg (by omega), if_neg (by omega), if_neg (by omega)]; exact h2
        · rw [if_pos h6]; unfold sayL; rw [if_neg (by omega), if_neg (by omega), if_neg (by omega), if_neg (by omega), if_neg (by omega)]; exact h4
    · rw [if_neg h6] at hi'
      rw [if_neg h6]
      obtain ⟨⟨f', h1, h2⟩, l', h3, h4⟩ := kk.2.2.2.1 i hi'
      exact ⟨⟨f', h1, h2⟩, l', h3, h4⟩
/-- the same talk with another seed -/
def sdK (K : KK) (sd : Int32) : KK := (K.kn, K.ht, K.ins, K.V, K.lg, K.L, sd)
theorem KOK_sd {T : TT} {K : KK} (kk : KOK T K) {sd : Int32} (hs : ¬ sd < 0) : KOK T (sdK K sd) := ⟨kk.1, kk.2.1, kk.2.2.1, kk.2.2.2.1, hs⟩
theorem TkD_sd {h : zHp} {a : Nat} {T : TT} {K : KK} (R : TkD h a T K) (sd : Int32) : TkD (zPI h a 6 sd) a T (sdK K sd) := by
  refine ⟨fun p hp => ?_, R.2.1, fun i hi => ?_, ?_, ?_⟩
  · rw [zPI_1, if_neg (by omega), zPI_1, if_neg (by omega), zPI_1, if_neg (by omega)]
    exact R.1 p hp
  · rw [zPI_1, if_neg (by omega)]
    exact R.2.2.1 i hi
  · rw [zPI_1, if_neg (by omega)]
    exact R.2.2.2.1
  · rw [zPI_1, if_pos ⟨rfl, rfl⟩]
    rfl
theorem MoK_sd {h : zHp} {T : TT} {K : KK} (R : MoK h T K) (sd : Int32) : MoK (zPI h 46 14 sd) T (sdK K sd) := by
  refine ⟨fun p hp => ?_, R.2.1, fun i hi => ?_, ?_, ?_⟩
  · rw [zPI_1, if_neg (by omega), zPI_1, if_neg (by omega), zPI_1, if_neg (by omega)]
    exact R.1 p hp
  · rw [zPI_1, if_neg (by omega)]
    exact R.2.2.1 i hi
  · rw [zPI_1, if_neg (by omega)]
    exact R.2.2.2.1
  · rw [zPI_1, if_pos ⟨rfl, rfl⟩]
    rfl
theorem TkD_fr {lo hi a : Nat} {h h' : zHp} {T : TT} {K : KK} (f : zFr lo hi h h') (ha : a + 6 ≤ lo ∨ hi ≤ a) (R : TkD h a T K) : TkD h' a T K := by
  have f0 := f a (by omega)
  have f1 := f (a + 1) (by omega)
  have f2 := f (a + 2) (by omega)
  have f3 := f (a + 3) (by omega)
  have f4 := f (a + 4) (by omega)
  have f5 := f (a + 5) (by omega)
  unfold TkD at R ⊢
  rw [f0.1, f1.1, f2.1, f3.1, f4.2.1, f5.1]
  exact R
theorem MoK_fr {lo hi : Nat} {h h' : zHp} {T : TT} {K : KK} (f : zFr lo hi h h') (ha : hi ≤ 46) (R : MoK h T K) : MoK h' T K := by
  unfold MoK at R ⊢
  rw [(f 46 (by omega)).1, (f 51 (by omega)).1, (f 52 (by omega)).1, (f 53 (by omega)).2.1, (f 54 (by omega)).1, (f 55 (by omega)).1]
  exact R
theorem MoT_fr {lo hi : Nat} {h h' : zHp} {T : TT} (f : zFr lo hi h h') (ha : hi ≤ 46) (R : MoT h T) : MoT h' T := by
  unfold MoT at R ⊢
  rw [(f 46 (by omega)).1, (f 47 (by omega)).1, (f 48 (by omega)).1]
  exact R
theorem MoC_fr {lo hi : Nat} {h h' : zHp} {T : TT} (f : zFr lo hi h h') (ha : hi ≤ 46) (R : MoC h T) : MoC h' T := by
  unfold MoC at R ⊢
  rw [(f 46 (by omega)).2.1, (f 50 (by omega)).1]
  exact R
theorem mFr_z {a b : List Nat} {h h' : zHp} (f : mFr a b h h') (ha : ∀ x, x ∈ a → 46 ≤ x ∧ x < 73) : zFr 46 73 h h' := fun x hx => ⟨(f.1 x (by omega) (fun z => by have := ha x z; omega)).1, (f.1 x (by omega) (fun z => by have := ha x z; omega)).2, by rw [f.2.2]⟩
