/-! ===== a morning; a saying ===== -/
theorem empB_ext {A B : Nat → Bool} (h : ∀ s, s < 64 → A s = B s) : empB A = empB B := by
  unfold empB
  apply bool_ext
  rw [List.all_eq_true, List.all_eq_true]
  constructor
  · intro h1 s hs; rw [← h s (List.mem_range.mp hs)]; exact h1 s hs
  · intro h1 s hs; rw [h s (List.mem_range.mp hs)]; exact h1 s hs
theorem allB_ext {A B : Nat → Bool} (h : ∀ s, s < 64 → A s = B s) (f : Nat) : allB A f = allB B f := by
  unfold allB
  apply bool_ext
  rw [List.all_eq_true, List.all_eq_true]
  constructor
  · intro h1 s hs; rw [← h s (List.mem_range.mp hs)]; exact h1 s hs
  · intro h1 s hs; rw [h s (List.mem_range.mp hs)]; exact h1 s hs
theorem sureK_ext {A B : Nat → Bool} {F : Nat} (h : ∀ s, s < 64 → A s = B s) : sureK A F = sureK B F := by
  unfold sureK
  rw [empB_ext h, jN_ext (fun f _ => allB_ext h f)]
theorem bJ_jF' {A : Nat → Bool} : ∀ s, s < 64 → bJ (jF A) s = A s := by
  intro s hs
  rw [bJ_jF]
  simp [hs]
def wakK (T : TT) (K : KK) : KK := (K.kn, fun p => wtN T.w (K.kn p) T.F % T.C, K.ins, fun p q s => weB T (wtN T.w (K.kn q) T.F % T.C) s && subN (sureK (K.V p q) T.F) s 6, K.lg, 0, K.sd)
def wakC (T : TT) (K : KK) (p : Nat) : Bool := decide (wtN T.w (K.kn p) T.F % T.C ≠ K.ht p)
theorem Tk_wake (sc : zSc) (d : Nat) (g : zSg) (h : zHp) {a t : Nat} {T : TT} {K : KK} (q0 : zS4 g a) (q1 : zS6 g t) (hat : t + 6 ≤ a) (O : TOK T) (S : TnS h t T) (R : TkD h a T K) (kk : KOK T K) : ∃ h', zRun sc (d + 3) 87 [.ref a, .ref t] g h = some (some (.int (nI (jN (wakC T K) T.P))), g, h') ∧ TkD h' a T (wakK T K) ∧ zFr a (a + 6) h h' := by
  have O0 := O
  obtain ⟨hF6, hP5, hC2, hC9, hfo, htk⟩ := O
  have hht : ∀ p, wtN T.w (K.kn p) T.F % T.C < 99 := fun p => Nat.lt_of_lt_of_le (Nat.mod_lt _ (by omega)) hC9
  have hfr : ∀ h1 : zHp, h1.2 = h.2 → (∀ x, x ≠ a + 2 → h1.1 x = h.1 x) → zFr a (a + 6) h h1 := fun h1 e1 e2 x hx => ⟨e2 x (by omega), by rw [e1], by rw [e1]⟩
  rw [E_Tk_wake sc (d + 2) g h a q0 t q1]
  obtain ⟨h1, e1, i1, i2, i3⟩ := zUpH (e := fun k h => zE sc (d + 3) 87 4 [some (.ref a), some (.ref t), some (.int (nI (jN (wakC T K) k))), some (.int (nI k)), none, none, none] [] g h) (inv := fun k h1 => h1.2 = h.2 ∧ (∀ x, x ≠ a + 2 → h1.1 x = h.1 x) ∧ ∀ p, p < T.P → h1.1 (a + 2) p = nI (if p < k then wtN T.w (K.kn p) T.F % T.C else K.ht p)) T.P (fun k h1 hk i => by
      obtain ⟨i1, i2, i3⟩ := i
      have S1 := TnS_fr (hfr h1 i1 i2) (by omega) S
      have hkk := (kk.1 k hk).2.1
      have hhk := hht k
      refine ⟨zPI h1 (a + 2) k (nI (wtN T.w (K.kn k) T.F % T.C)), ?_, i1, ?_, ?_⟩
      · rw [E_Tk_wake_4 sc (d + 2) g h1 a q0 t q1, S1.1.2.1, if_pos (nI_lt hk (by omega)), if_pos (zin_nI (by omega) (by decide)), nI_clamp (by omega), i2 (a + 1) (by omega), (R.1 k hk).1, Tn_hatOf sc d g h1 q1 O0 S1.1 (KOK_kn O0 kk hk), zBi_some, if_pos (zin_nI (by omega) (by decide)), i3 k hk, if_neg (Nat.lt_irrefl k)]
        by_cases hc : wtN T.w (K.kn k) T.F % T.C = K.ht k
        · rw [if_pos (by rw [hc]), if_pos (zin_nI (by omega) (by decide)), nI_1, ← jN_succ_f (A := wakC T K) (by simp [wakC, hc])]
        · rw [if_neg (fun z => hc ((nI_eq (by omega) (by omega)).mp z)), if_pos (zin_nI (by omega) (by decide)), nI_1, nI_shl1 (by omega), nI_or, jN_succ_t (A := wakC T K) (by simp [wakC, hc])]
      · intro x hx
        rw [← i2 x hx]
        funext y
        rw [zPI_1, if_neg (by omega)]
      · intro p hp
        rw [zPI_1]
        by_cases hpk : p = k
        · rw [if_pos ⟨rfl, hpk⟩, if_pos (by omega), hpk]
        · rw [if_neg (by omega), i3 p hp]
          by_cases hlt : p < k
          · rw [if_pos hlt, if_pos (by omega)]
          · rw [if_neg hlt, if_neg (by omega)]) h ⟨rfl, fun _ _ => rfl, fun p hp => by rw [if_neg (by omega)]; exact (R.1 p hp).2.1⟩
  refine exEq e1 ?_
  have S1 := TnS_fr (hfr h1 i1 i2) (by omega) S
  rw [E_Tk_wake_4 sc (d + 2) g h1 a q0 t q1, S1.1.2.1, if_neg (nI_nlt (Nat.le_refl _) (by omega))]
  obtain ⟨h2, e2, j⟩ := vLoop (h0 := h1) (a := a + 4) (P := T.P) (N := (wakK T K).V) (O := K.V) (e1 := fun p h => zE sc (d + 3) 87 57 [some (.ref a), some (.ref t), some (.int (nI (jN (wakC T K) T.P))), some (.int (nI p)), none, none, none] [] g h) (e2 := fun p q h => zE sc (d + 3) 87 68 [some (.ref a), some (.ref t), some (.int (nI (jN (wakC T K) T.P))), some (.int (nI p)), some (.int (nI q)), none, none] [] g h)
    (fun p h2 hp i => by
      have S2 := TnS_fr (VW_fr i (lo := a) (hi := a + 6) (by omega) (by omega)) (by omega) S1
      rw [E_Tk_wake_57 sc (d + 2) g h2 a q0 t q1, S2.1.2.1, if_pos (nI_lt hp (by omega))]
      rfl)
    (fun p h2 hp i => by
      have S2 := TnS_fr (VW_fr i (lo := a) (hi := a + 6) (by omega) (by omega)) (by omega) S1
      rw [E_Tk_wake_68 sc (d + 2) g h2 a q0 t q1, S2.1.2.1, if_neg (nI_nlt (Nat.le_refl _) (by omega)), nI_1])
    (fun p q h2 hp hq i => by
      have S2 := TnS_fr (VW_fr i (lo := a) (hi := a + 6) (by omega) (by omega)) (by omega) S1
      have h5 := v5 (show p < 5 by omega) (show q < 5 by omega)
      refine ⟨zPL h2 (a + 4) (5 * p + q) (jF (fun s => weB T (wtN T.w (K.kn q) T.F % T.C) s && subN (sureK (bJ (h2.2.1 (a + 4) (5 * p + q))) T.F) s 6)), ?_, VW_w hP5 hq i (fun hn => ?_)⟩
      · rw [E_Tk_wake_68 sc (d + 2) g h2 a q0 t q1, S2.1.2.1, if_pos (nI_lt hq (by omega)), if_pos (zin_nI (by omega) (by decide)), nI_clamp (by omega), i.1, i3 q hq, if_pos hq, Tn_wearers sc _ g h2 q1 S2 (hht q), zBj_some, Tk_sureKnown' sc d g h2 q0 q1 O0 S2.1 (show p < 5 by omega) (show q < 5 by omega), zBi_some, Fa_havingAll sc (d + 1) g h2 _ (sureK_lt _ hF6), zBj_some, h5.1, if_pos (zin_nI h5.2 (by decide)), nI_clamp (by omega), nI_1]
      · rw [i.2.2.2 p q hp hq hn, if_neg (by omega), sureK_ext bJ_jF']
        rfl)
    (fun p q hp hq hn => by rw [i1]; exact R.2.1 p q hp hq hn)
  refine exEq e2 ?_
  have S2 := TnS_fr (VW_fr j (lo := a) (hi := a + 6) (by omega) (by omega)) (by omega) S1
  refine ⟨zPI h2 a 5 0, ?_, ?_, zFr_t (hfr h1 i1 i2) (zFr_t (VW_fr j (by omega) (by omega)) (zFr_I (by omega) (by omega)))⟩
  · rw [E_Tk_wake_57 sc (d + 2) g h2 a q0 t q1, S2.1.2.1, if_neg (nI_nlt (Nat.le_refl _) (by omega))]
  · refine ⟨?_, ?_, ?_, ?_, ?_⟩
    · intro p hp
      rw [zPI_1, if_neg (by omega), zPI_1, if_neg (by omega), zPI_1, if_neg (by omega), j.1, i2 (a + 1) (by omega), i2 (a + 3) (by omega), i3 p hp, if_pos hp]
      exact ⟨(R.1 p hp).1, rfl, (R.1 p hp).2.2⟩
    · intro p q hp hq hn
      rw [zPI_2, j.2.2.2 p q hp hq hn, if_pos (by omega)]
    · intro i hi
      exact absurd hi (Nat.not_lt_zero i)
    · rw [zPI_1, if_pos ⟨rfl, rfl⟩]; rfl
    · rw [zPI_1, if_neg (by omega), j.1, i2 a (by omega), R.2.2.2.2]; rfl
def sayV (T : TT) (K : KK) (a b f e p q : Nat) : Nat → Bool := if p = q ∨ e.testBit p = false ∨ e.testBit q = false then K.V p q else if q = a then (fun s => K.V p q s && s.testBit f) else if q = b then imgN T.fo (fun s => K.V p q s && s.testBit f == (K.kn b).testBit f) f T.F else imgN T.fo (K.V p q) f T.F
theorem Tk_show (sc : zSc) (d : Nat) (g : zSg) (h : zHp) {a0 t : Nat} {T : TT} {K : KK} (q0 : zS4 g a0) (q1 : zS6 g t) (hat : t + 6 ≤ a0) (O : TOK T) (S : TnS h t T) (R : TkD h a0 T K) (kk : KOK T K) {a b f e : Nat} (ha : a < T.P) (hb : b < T.P) (hf : f < T.F) (he : e < 2 ^ 31) : ∃ h', zRun sc (d + 4) 78 [.ref a0, .ref t, .int (nI a), .int (nI b), .int (nI f), .int (nI e)] g h = some (none, g, h') ∧ VW h (a0 + 4) T.P (sayV T K a b f e) K.V T.P 0 h' := by
  have O0 := O
  obtain ⟨hF6, hP5, hC2, hC9, hfo, htk⟩ := O
  have hkb := KOK_kn O0 kk hb
  rw [E_Tk_show sc (d + 3) g h a0 q0 t q1, if_pos (zin_nI (by omega) (by decide)), nI_clamp (by omega), (R.1 b hb).1, X_has sc _ g h (by omega) (by omega), zBi_some]
  obtain ⟨h2, e2, j⟩ := vLoop (h0 := h) (a := a0 + 4) (P := T.P) (N := sayV T K a b f e) (O := K.V) (e1 := fun p h => zE sc (d + 4) 78 16 [some (.ref a0), some (.ref t), some (.int (nI a)), some (.int (nI b)), some (.int (nI f)), some (.int (nI e)), some (.int (if (K.kn b).testBit f then 1 else 0)), some (.int (nI p)), none, none] [] g h) (e2 := fun p q h => zE sc (d + 4) 78 28 [some (.ref a0), some (.ref t), some (.int (nI a)), some (.int (nI b)), some (.int (nI f)), some (.int (nI e)), some (.int (if (K.kn b).testBit f then 1 else 0)), some (.int (nI p)), some (.int (nI q)), none] [] g h)
    (fun p h2 hp i => by
      have S2 := TnS_fr (VW_fr i (lo := a0) (hi := a0 + 6) (by omega) (by omega)) (by omega) S
      rw [E_Tk_show_16 sc (d + 3) g h2 a0 q0 t q1, S2.1.2.1, if_pos (nI_lt hp (by omega))]
      rfl)
    (fun p h2 hp i => by
      have S2 := TnS_fr (VW_fr i (lo := a0) (hi := a0 + 6) (by omega) (by omega)) (by omega) S
      rw [E_Tk_show_28 sc (d + 3) g h2 a0 q0 t q1, S2.1.2.1, if_neg (nI_nlt (Nat.le_refl _) (by omega)), nI_1])
    (fun p q h2 hp hq i => by
      have S2 := TnS_fr (VW_fr i (lo := a0) (hi := a0 + 6) (by omega) (by omega)) (by omega) S
      have h5 := v5 (show p < 5 by omega) (show q < 5 by omega)
      by_cases hpq : p = q
      · refine ⟨h2, ?_, VW_s i (fun z => absurd hpq z)⟩
        rw [E_Tk_show_28 sc (d + 3) g h2 a0 q0 t q1, S2.1.2.1, if_pos (nI_lt hq (by omega)), if_pos (by rw [hpq]), nI_1]
      cases hep : e.testBit p with
      | false =>
        refine ⟨h2, ?_, VW_s i (fun z => by unfold sayV; rw [if_pos (.inr (.inl hep))])⟩
        rw [E_Tk_show_28 sc (d + 3) g h2 a0 q0 t q1, S2.1.2.1, if_pos (nI_lt hq (by omega)), if_neg (fun z => hpq ((nI_eq (by omega) (by omega)).mp z)), X_has sc _ g h2 he (by omega), zBi_some, hep, z01f, nI_1]
      | true =>
      cases heq : e.testBit q with
      | false =>
        refine ⟨h2, ?_, VW_s i (fun z => by unfold sayV; rw [if_pos (.inr (.inr heq))])⟩
        rw [E_Tk_show_28 sc (d + 3) g h2 a0 q0 t q1, S2.1.2.1, if_pos (nI_lt hq (by omega)), if_neg (fun z => hpq ((nI_eq (by omega) (by omega)).mp z)), X_has sc _ g h2 he (by omega), zBi_some, hep, z01t, X_has sc _ g h2 he (by omega), zBi_some, heq, z01f, nI_1]
      | true =>
        have hold : h2.2.1 (a0 + 4) (5 * p + q) = jF (K.V p q) := by rw [i.2.2.2 p q hp hq hpq, if_neg (by omega)]
        refine ⟨zPL h2 (a0 + 4) (5 * p + q) (jF (sayV T K a b f e p q)), ?_, VW_w hP5 hq i (fun _ => rfl)⟩
        rw [E_Tk_show_28 sc (d + 3) g h2 a0 q0 t q1, S2.1.2.1, if_pos (nI_lt hq (by omega)), if_neg (fun z => hpq ((nI_eq (by omega) (by omega)).mp z)), X_has sc _ g h2 he (by omega), zBi_some, hep, z01t, X_has sc _ g h2 he (by omega), zBi_some, heq, z01t]
        have hsv : sayV T K a b f e p q = if q = a then (fun s => K.V p q s && s.testBit f) else if q = b then imgN T.fo (fun s => K.V p q s && s.testBit f == (K.kn b).testBit f) f T.F else imgN T.fo (K.V p q) f T.F := by
          unfold sayV
          rw [if_neg (by rw [hep, heq]; simp [hpq])]
        by_cases hqa : q = a
        · rw [if_pos (by rw [hqa]), h5.1, if_pos (zin_nI h5.2 (by decide)), nI_clamp (by omega), hold, Fa_having sc _ g h2 _ (show f < 6 by omega), zBj_some, if_pos (zin_nI h5.2 (by decide)), nI_1, hsv, if_pos hqa]
        · rw [if_neg (fun z => hqa ((nI_eq (by omega) (by omega)).mp z))]
          by_cases hqb : q = b
          · rw [if_pos (by rw [hqb]), h5.1, if_pos (zin_nI h5.2 (by decide)), nI_clamp (by omega), hold, Tn_heard sc d g h2 q1 O0 S2 _ (show f < 6 by omega), zBj_some, if_pos (zin_nI h5.2 (by decide)), nI_1, hsv, if_neg hqa, if_pos hqb]
          · rw [if_neg (fun z => hqb ((nI_eq (by omega) (by omega)).mp z)), h5.1, if_pos (zin_nI h5.2 (by decide)), nI_clamp (by omega), hold, Tn_learned sc (d + 1) g h2 q1 O0 S2 _ (show f < 6 by omega), zBj_some, if_pos (zin_nI h5.2 (by decide)), nI_1, hsv, if_neg hqa, if_neg hqb])
    (fun p q hp hq hn => R.2.1 p q hp hq hn)
  refine ⟨h2, e2.trans ?_, j⟩
  have S2 := TnS_fr (VW_fr j (lo := a0) (hi := a0 + 6) (by omega) (by omega)) (by omega) S
  rw [E_Tk_show_16 sc (d + 3) g h2 a0 q0 t q1, S2.1.2.1, if_neg (nI_nlt (Nat.le_refl _) (by omega))]
