/-! ===== a saying; a silence; what fits the log ===== -/
def sayL (K : KK) (a b f l : Nat) (i : Nat) : Int32 := if i = 5 * K.L then nI a else if i = 5 * K.L + 1 then nI b else if i = 5 * K.L + 2 then nI f else if i = 5 * K.L + 3 then nI l else if i = 5 * K.L + 4 then (if (K.kn b).testBit f then 1 else 0) else K.lg i
def sayN (T : TT) (K : KK) (b f l : Nat) (p : Nat) : Nat := if p = b ∨ l.testBit p = true then clN T.fo (K.kn p ||| 2 ^ f) T.F else K.kn p
def sayI (K : KK) (a b f : Nat) (p : Nat) : Int32 := if p = a then K.ins p + (if (K.kn b).testBit f then 1 else 0) else K.ins p
def sayK (T : TT) (K : KK) (a b f l : Nat) : KK := (sayN T K b f l, K.ht, sayI K a b f, sayV T K a b f (l ||| 2 ^ a ||| 2 ^ b), (if K.L < 60 then sayL K a b f l else K.lg), (if K.L < 60 then K.L + 1 else K.L), K.sd)
theorem or_lt32 {l a : Nat} (hl : l < 32) (ha : a < 5) : l ||| 2 ^ a < 32 := or_ltF (F := 5) hl ha
theorem n5 (L : Nat) : nI L * 5 = nI (5 * L) := by rw [show (5 : Int32) = nI 5 from rfl, nI_mul, Nat.mul_comm]
theorem nI_2 (a : Nat) : nI a + 2 = nI (a + 2) := nI_add a 2
theorem nI_3 (a : Nat) : nI a + 3 = nI (a + 3) := nI_add a 3
theorem nI_4 (a : Nat) : nI a + 4 = nI (a + 4) := nI_add a 4
theorem Tk_note (sc : zSc) (d : Nat) (g : zSg) (h : zHp) {a0 : Nat} (q0 : zS4 g a0) {L : Nat} (hL : h.1 a0 5 = nI L) (hL6 : L < 60) (v1 v2 v3 v4 v5 : Int32) : zRun sc d 82 [.ref a0, .int v1, .int v2, .int v3, .int v4, .int v5] g h = some (none, g, zPI (zPI (zPI (zPI (zPI (zPI h (a0 + 5) (5 * L) v1) (a0 + 5) (5 * L + 1) v2) (a0 + 5) (5 * L + 2) v3) (a0 + 5) (5 * L + 3) v4) (a0 + 5) (5 * L + 4) v5) a0 5 (nI (L + 1))) := by
  rw [E_Tk_note sc d g h a0 q0, hL, n5, if_pos (zin_nI (by omega) (by decide)), nI_1, if_pos (zin_nI (by omega) (by decide)), nI_2, if_pos (zin_nI (by omega) (by decide)), nI_3, if_pos (zin_nI (by omega) (by decide)), nI_4, if_pos (zin_nI (by omega) (by decide)), nI_clamp (by omega), nI_clamp (by omega), nI_clamp (by omega), nI_clamp (by omega), nI_clamp (by omega)]
  simp only [zPI_1]
  rw [if_neg (by omega), if_neg (by omega), if_neg (by omega), if_neg (by omega), if_neg (by omega), hL, nI_1]
theorem Tk_speak (sc : zSc) (d : Nat) (g : zSg) (h : zHp) {a0 t : Nat} {T : TT} {K : KK} (q0 : zS4 g a0) (q1 : zS6 g t) (hat : t + 6 ≤ a0) (O : TOK T) (S : TnS h t T) (R : TkD h a0 T K) (kk : KOK T K) {a b f l : Nat} (ha : a < T.P) (hb : b < T.P) (hf : f < T.F) (hl : l < 32) : ∃ h', zRun sc (d + 5) 77 [.ref a0, .ref t, .int (nI a), .int (nI b), .int (nI f), .int (nI l)] g h = some (some (.int (if (K.kn b).testBit f then 1 else 0)), g, h') ∧ TkD h' a0 T (sayK T K a b f l) ∧ zFr a0 (a0 + 6) h h' := by
  have O0 := O
  obtain ⟨hF6, hP5, hC2, hC9, hfo, htk⟩ := O
  have hkb := KOK_kn O0 kk hb
  have he : l ||| 2 ^ a ||| 2 ^ b < 32 := or_lt32 (or_lt32 hl (by omega)) (by omega)
  have e0 : zRun sc (d + 5) 77 [.ref a0, .ref t, .int (nI a), .int (nI b), .int (nI f), .int (nI l)] g h = zE sc (d + 5) 77 19 [some (.ref a0), some (.ref t), some (.int (nI a)), some (.int (nI b)), some (.int (nI f)), some (.int (nI l)), none, none] [.int (if (K.kn b).testBit f then 1 else 0)] g h := by
    rw [E_Tk_speak sc (d + 4) g h a0 q0 t q1, if_pos (zin_nI (by omega) (by decide)), nI_clamp (by omega), (R.1 b hb).1, X_has sc _ g h (by omega) (by omega), zBi_some]
    cases (K.kn b).testBit f <;> rfl
  refine exEq e0 ?_
  obtain ⟨h1, e1, j⟩ := Tk_show sc d g h q0 q1 hat O0 S R kk ha hb hf (show l ||| 2 ^ a ||| 2 ^ b < 2 ^ 31 by omega)
  rw [E_Tk_speak_19 sc (d + 4) g h a0 q0 t q1, nI_shl1 (by omega), nI_shl1 (by omega), nI_or, nI_or, e1, zBv_some]
  have f1 : zFr a0 (a0 + 6) h h1 := VW_fr j (by omega) (by omega)
  generalize hin : (if (K.kn b).testBit f then (1 : Int32) else 0) = ins
  have hfr : ∀ h2 : zHp, h2.2 = h1.2 → (∀ x, x ≠ a0 + 1 → h2.1 x = h1.1 x) → zFr a0 (a0 + 6) h1 h2 := fun h2 e1 e2 x hx => ⟨e2 x (by omega), by rw [e1], by rw [e1]⟩
  obtain ⟨h2, e2, i1, i2, i3⟩ := zUpH (e := fun k h => zE sc (d + 5) 77 43 [some (.ref a0), some (.ref t), some (.int (nI a)), some (.int (nI b)), some (.int (nI f)), some (.int (nI l)), some (.int ins), some (.int (nI k))] [] g h) (inv := fun k h2 => h2.2 = h1.2 ∧ (∀ x, x ≠ a0 + 1 → h2.1 x = h1.1 x) ∧ ∀ p, p < T.P → h2.1 (a0 + 1) p = nI (if p < k then sayN T K b f l p else K.kn p)) T.P (fun k h2 hk i => by
      obtain ⟨i1, i2, i3⟩ := i
      have S2 := TnS_fr (zFr_t f1 (hfr h2 i1 i2)) (by omega) S
      have hkk := KOK_kn O0 kk hk
      have hor := or_ltF (F := 6) hkk (show f < 6 by omega)
      by_cases hc : k = b ∨ l.testBit k = true
      · refine ⟨zPI h2 (a0 + 1) k (nI (sayN T K b f l k)), ?_, i1, ?_, ?_⟩
        · have hto : zE sc (d + 5) 77 43 [some (.ref a0), some (.ref t), some (.int (nI a)), some (.int (nI b)), some (.int (nI f)), some (.int (nI l)), some (.int ins), some (.int (nI k))] [] g h2 = zE sc (d + 5) 77 68 [some (.ref a0), some (.ref t), some (.int (nI a)), some (.int (nI b)), some (.int (nI f)), some (.int (nI l)), some (.int ins), some (.int (nI k))] [] g h2 := by
            rw [E_Tk_speak_43 sc (d + 4) g h2 a0 q0 t q1, S2.1.2.1, if_pos (nI_lt hk (by omega))]
            by_cases hkb2 : k = b
            · rw [if_pos (by rw [hkb2])]
            · rw [if_neg (fun z => hkb2 ((nI_eq (by omega) (by omega)).mp z)), X_has sc _ g h2 (by omega) (by omega), zBi_some, hc.resolve_left hkb2, z01t]
          refine hto.trans ?_
          rw [E_Tk_speak_68 sc (d + 4) g h2 a0 q0 t q1, if_pos (zin_nI (by omega) (by decide)), nI_clamp (by omega), i3 k hk, if_neg (Nat.lt_irrefl k), nI_shl1 (by omega), nI_or, Tn_closure sc _ g h2 q1 O0 S2.1 hor, zBi_some, if_pos (zin_nI (by omega) (by decide)), nI_1]
          unfold sayN
          rw [if_pos hc]
        · intro x hx
          rw [← i2 x hx]
          funext y
          rw [zPI_1, if_neg (by omega)]
        · intro p hp
          rw [zPI_1]
          by_cases hpk : p = k
          · rw [if_pos ⟨rfl, hpk⟩, if_pos (by omega), hpk]
          · rw [if_neg (by omega), i3 p hp]
            by_cases hlt : p < k
            · rw [if_pos hlt, if_pos (by omega)]
            · rw [if_neg hlt, if_neg (by omega)]
      · refine ⟨h2, ?_, i1, i2, ?_⟩
        · have hcl : l.testBit k = false := by
            cases hz : l.testBit k with
            | false => rfl
            | true => exact absurd (.inr hz) hc
          rw [E_Tk_speak_43 sc (d + 4) g h2 a0 q0 t q1, S2.1.2.1, if_pos (nI_lt hk (by omega)), if_neg (fun z => hc (.inl ((nI_eq (by omega) (by omega)).mp z))), X_has sc _ g h2 (by omega) (by omega), zBi_some, hcl, z01f, nI_1]
        · intro p hp
          rw [i3 p hp]
          by_cases hpk : p = k
          · subst hpk
            rw [if_neg (Nat.lt_irrefl p), if_pos (by omega)]
            unfold sayN
            rw [if_neg hc]
          · by_cases hlt : p < k
            · rw [if_pos hlt, if_pos (by omega)]
            · rw [if_neg hlt, if_neg (by omega)]) h1 ⟨rfl, fun _ _ => rfl, fun p hp => by rw [if_neg (by omega), j.1]; exact (R.1 p hp).1⟩
  refine exEq e2 ?_
  have S2 := TnS_fr (zFr_t f1 (hfr h2 i1 i2)) (by omega) S
  have hL : h2.1 a0 5 = nI K.L := by rw [i2 a0 (by omega), j.1, R.2.2.2.1]
  have hK6 := kk.2.2.1
  have hins : h2.1 (a0 + 3) a = K.ins a := by rw [i2 (a0 + 3) (by omega), j.1, (R.1 a ha).2.2]
  rw [E_Tk_speak_43 sc (d + 4) g h2 a0 q0 t q1, S2.1.2.1, if_neg (nI_nlt (Nat.le_refl _) (by omega)), if_pos (zin_nI (by omega) (by decide)), if_pos (zin_nI (by omega) (by decide)), nI_clamp (by omega), hins]
  have hpre : ∀ h3 : zHp, h3.2 = h2.2 → (∀ x, x ≠ a0 → x ≠ a0 + 5 → h3.1 x = (zPI h2 (a0 + 3) a (K.ins a + ins)).1 x) → (∀ i, i < 5 * (sayK T K a b f l).L → h3.1 (a0 + 5) i = (sayK T K a b f l).lg i) → h3.1 a0 5 = nI (sayK T K a b f l).L → h3.1 a0 6 = h2.1 a0 6 → TkD h3 a0 T (sayK T K a b f l) ∧ zFr a0 (a0 + 6) h h3 := by
    intro h3 k1 k2 k3 k4 k5
    refine ⟨⟨?_, ?_, k3, k4, ?_⟩, ?_⟩
    · intro p hp
      rw [k2 (a0 + 1) (by omega) (by omega), k2 (a0 + 2) (by omega) (by omega), k2 (a0 + 3) (by omega) (by omega), zPI_1, if_neg (by omega), zPI_1, if_neg (by omega), zPI_1, i3 p hp, if_pos hp]
      refine ⟨rfl, ?_, ?_⟩
      · rw [i2 (a0 + 2) (by omega), j.1]
        exact (R.1 p hp).2.1
      · show _ = sayI K a b f p
        unfold sayI
        by_cases hpa : p = a
        · rw [if_pos ⟨rfl, hpa⟩, if_pos hpa, hpa, hin]
        · rw [if_neg (by omega), if_neg hpa, i2 (a0 + 3) (by omega), j.1]
          exact (R.1 p hp).2.2
    · intro p q hp hq hn
      rw [k1, i1, j.2.2.2 p q hp hq hn, if_pos (by omega)]
      rfl
    · rw [k5, i2 a0 (by omega), j.1]
      exact R.2.2.2.2
    · refine zFr_t f1 (zFr_t (hfr h2 i1 i2) ?_)
      intro x hx
      refine ⟨?_, by rw [k1], by rw [k1]⟩
      rw [k2 x (by omega) (by omega)]
      funext y
      rw [zPI_1, if_neg (by omega)]
  have hL3 : (zPI h2 (a0 + 3) a (K.ins a + ins)).1 a0 5 = nI K.L := by rw [zPI_1, if_neg (by omega), hL]
  have hlog : ∀ i, i < 5 * K.L → h2.1 (a0 + 5) i = K.lg i := fun i hi => by rw [i2 (a0 + 5) (by omega), j.1]; exact R.2.2.1 i hi
  by_cases h6 : K.L < 60
  · have hKL : (sayK T K a b f l).L = K.L + 1 := if_pos h6
    have hKg : (sayK T K a b f l).lg = sayL K a b f l := if_pos h6
    rw [hL3, if_pos (iL (m := 60) (n := 60) rfl h6 (by decide)), Tk_note sc _ g _ q0 hL3 h6, zBv_some]
    refine ⟨_, rfl, hpre _ rfl ?_ ?_ ?_ ?_⟩
    · intro x hx1 hx2
      funext y
      simp only [zPI_1]
      rw [if_neg (by omega), if_neg (by omega), if_neg (by omega), if_neg (by omega), if_neg (by omega), if_neg (by omega)]
    · rw [hKL, hKg]
      intro i hi
      simp only [zPI_1]
      unfold sayL
      rw [if_neg (by omega)]
      by_cases c4 : i = 5 * K.L + 4
      · rw [if_pos ⟨trivial, c4⟩, if_neg (by omega), if_neg (by omega), if_neg (by omega), if_neg (by omega), if_pos c4, hin]
      rw [if_neg (by omega)]
      by_cases c3 : i = 5 * K.L + 3
      · rw [if_pos ⟨trivial, c3⟩, if_neg (by omega), if_neg (by omega), if_neg (by omega), if_pos c3]
      rw [if_neg (by omega)]
      by_cases c2 : i = 5 * K.L + 2
      · rw [if_pos ⟨trivial, c2⟩, if_neg (by omega), if_neg (by omega), if_pos c2]
      rw [if_neg (by omega)]
      by_cases c1 : i = 5 * K.L + 1
      · rw [if_pos ⟨trivial, c1⟩, if_neg (by omega), if_pos c1]
      rw [if_neg (by omega)]
      by_cases c0 : i = 5 * K.L
      · rw [if_pos ⟨trivial, c0⟩, if_pos c0]
      rw [if_neg (by omega), if_neg (by omega), if_neg c0, if_neg c1, if_neg c2, if_neg c3, if_neg c4]
      exact hlog i (by omega)
    · rw [hKL, zPI_1, if_pos ⟨rfl, rfl⟩]
    · simp only [zPI_1]
      rw [if_neg (by omega), if_neg (by omega), if_neg (by omega), if_neg (by omega), if_neg (by omega), if_neg (by omega), if_neg (by omega)]
  · have hKL : (sayK T K a b f l).L = K.L := if_neg h6
    have hKg : (sayK T K a b f l).lg = K.lg := if_neg h6
    rw [hL3, if_neg (iG (m := 60) (n := 60) rfl (by omega) (by omega))]
    refine ⟨_, rfl, hpre _ rfl (fun _ _ _ => rfl) ?_ ?_ ?_⟩
    · rw [hKL, hKg]
      intro i hi
      rw [zPI_1, if_neg (by omega)]
      exact hlog i hi
    · rw [hKL, hL3]
    · rw [zPI_1, if_neg (by omega)]
def anN (a b : Nat) : Nat := jN (fun k => a.testBit k && !b.testBit k) 31
theorem anN_bit {a b k : Nat} (ha : a < 64) : (anN a b).testBit k = (a.testBit k && !b.testBit k) := by
  unfold anN
  rw [jN_bit]
  by_cases hk : k < 31
  · simp [hk]
  · have : a.testBit k = false := Nat.testBit_lt_two_pow (Nat.lt_of_lt_of_le ha (Nat.pow_le_pow_right (n := 2) (i := 6) (by decide) (by omega)))
    simp [this]
theorem anN_lt {a b F : Nat} (ha : a < 2 ^ F) (hF : F ≤ 6) : anN a b < 2 ^ F := by
  apply Nat.lt_pow_two_of_testBit
  intro i hi
  rw [anN_bit (lt_64 ha hF), Nat.testBit_lt_two_pow (Nat.lt_of_lt_of_le ha (Nat.pow_le_pow_right (n := 2) (by decide) hi))]
  rfl
/-- what b waits to hear; the view of b on a after a's silence -/
def silW (T : TT) (K : KK) (b : Nat) : Nat := anN (sureN (weB T (K.ht b)) T.F) (K.kn b)
def silV (T : TT) (K : KK) (a b : Nat) (s : Nat) : Bool := K.V b a s && disN (silW T K b) s 6
def silK (T : TT) (K : KK) (a b : Nat) : KK := (K.kn, K.ht, K.ins, fun p q => if p = b ∧ q = a then silV T K a b else K.V p q, K.lg, K.L, K.sd)
theorem silW_lt {T : TT} {K : KK} (O : TOK T) (b : Nat) : silW T K b < 64 := by
  have := anN_lt (F := 6) (b := K.kn b) (sureN_lt (weB T (K.ht b)) O.1) (Nat.le_refl 6)
  exact this
theorem Tk_holdTongue (sc : zSc) (d : Nat) (g : zSg) (h : zHp) {a0 t : Nat} {T : TT} {K : KK} (q0 : zS4 g a0) (q1 : zS6 g t) (O : TOK T) (S : TnS h t T) (R : TkD h a0 T K) (kk : KOK T K) {a b : Nat} (ha : a < T.P) (hb : b < T.P) (hn : a ≠ b) : ∃ h', zRun sc (d + 3) 84 [.ref a0, .ref t, .int (nI a), .int (nI b)] g h = some (some (.int (nI (cN (K.V b a) 64) - nI (cN (silV T K a b) 64))), g, h') ∧ TkD h' a0 T (silK T K a b) ∧ zFr a0 (a0 + 6) h h' := by
  have hP5 := O.2.1
  have hkb := KOK_kn O kk hb
  have h5 := v5 (show b < 5 by omega) (show a < 5 by omega)
  have hs := sureN_lt (weB T (K.ht b)) O.1
  refine ⟨zPL h (a0 + 4) (5 * b + a) (jF (silV T K a b)), ?_, ?_, zFr_L (by omega) (by omega)⟩
  · rw [E_Tk_holdTongue sc (d + 2) g h a0 q0 t q1, Tk_plainLack sc d g h q0 q1 O S R kk hb, zBi_some, if_pos (zin_nI (by omega) (by decide)), h5.1, if_pos (zin_nI h5.2 (by decide)), nI_clamp (by omega), nI_clamp (by omega), (R.1 b hb).1, R.2.1 b a hb ha (Ne.symm hn), nI_andn (by omega) (by omega)]
    have := Fa_havingNone sc (d + 1) g h (K.V b a) (silW_lt (K := K) O b)
    unfold silW anN at this
    rw [this, zBj_some, if_pos (zin_nI h5.2 (by decide)), JL_bc, zBi_some, JL_bc, zBi_some]
    rfl
  · refine ⟨R.1, ?_, R.2.2⟩
    intro p q hp hq hpq
    rw [zPL_2]
    by_cases hc : p = b ∧ q = a
    · rw [if_pos ⟨rfl, by rw [hc.1, hc.2]⟩]
      show _ = jF (if p = b ∧ q = a then _ else _)
      rw [if_pos hc]
    · rw [if_neg (by omega), R.2.1 p q hp hq hpq]
      show _ = jF (if p = b ∧ q = a then _ else _)
      rw [if_neg hc]
