/-! ===== what a talk is; what it answers ===== -/
theorem nI_mul (a b : Nat) : nI a * nI b = nI (a * b) := by
  unfold nI
  rw [Int32.ofNat_mul]
theorem nI_sub {a b : Nat} (h : b ≤ a) : nI a - nI b = nI (a - b) := by
  have : nI a = nI (a - b) + nI b := by rw [nI_add]; congr 1; omega
  rw [this, Int32.add_sub_cancel]
def KK : Type := (Nat → Nat) × (Nat → Nat) × (Nat → Int32) × (Nat → Nat → Nat → Bool) × (Nat → Int32) × Nat × Int32
def KK.kn (K : KK) : Nat → Nat := K.1
def KK.ht (K : KK) : Nat → Nat := K.2.1
def KK.ins (K : KK) : Nat → Int32 := K.2.2.1
def KK.V (K : KK) : Nat → Nat → Nat → Bool := K.2.2.2.1
def KK.lg (K : KK) : Nat → Int32 := K.2.2.2.2.1
def KK.L (K : KK) : Nat := K.2.2.2.2.2.1
def KK.sd (K : KK) : Int32 := K.2.2.2.2.2.2
def KOK (T : TT) (K : KK) : Prop := (∀ p, p < T.P → clB T (K.kn p) = true ∧ K.ht p < T.C ∧ empB (weB T (K.ht p)) = false) ∧ (∀ p q s, p < T.P → q < T.P → p ≠ q → K.V p q s = true → s < 2 ^ T.F) ∧ K.L ≤ 60 ∧ (∀ i, i < K.L → (∃ f, f < T.F ∧ K.lg (5 * i + 2) = nI f) ∧ ∃ l, l < 32 ∧ K.lg (5 * i + 3) = nI l) ∧ ¬ K.sd < 0
def TkD (h : zHp) (a : Nat) (T : TT) (K : KK) : Prop := (∀ p, p < T.P → h.1 (a + 1) p = nI (K.kn p) ∧ h.1 (a + 2) p = nI (K.ht p) ∧ h.1 (a + 3) p = K.ins p) ∧ (∀ p q, p < T.P → q < T.P → p ≠ q → h.2.1 (a + 4) (5 * p + q) = jF (K.V p q)) ∧ (∀ i, i < 5 * K.L → h.1 (a + 5) i = K.lg i) ∧ h.1 a 5 = nI K.L ∧ h.1 a 6 = K.sd
theorem clB_lt {T : TT} {s : Nat} (h : clB T s = true) : s < 2 ^ T.F := by
  unfold clB at h
  rw [Bool.and_eq_true, decide_eq_true_eq] at h
  exact h.1
theorem KOK_kn {T : TT} {K : KK} (O : TOK T) (k : KOK T K) {p : Nat} (hp : p < T.P) : K.kn p < 64 := lt_64 (clB_lt (k.1 p hp).1) O.1
theorem v5 {p q : Nat} (hp : p < 5) (hq : q < 5) : nI p * 5 + nI q = nI (5 * p + q) ∧ 5 * p + q < 25 := by
  refine ⟨?_, by omega⟩
  rw [show (5 : Int32) = nI 5 from rfl, nI_mul, nI_add, Nat.mul_comm]
theorem Tk_view' (sc : zSc) (d : Nat) (g : zSg) (h : zHp) {a : Nat} (q0 : zS4 g a) {p q : Nat} (hp : p < 5) (hq : q < 5) : zRun sc d 62 [.ref a, .int (nI p), .int (nI q)] g h = some (some (.long (h.2.1 (a + 4) (5 * p + q))), g, h) := by
  have := v5 hp hq
  rw [E_Tk_view sc d g h a q0, if_neg (nI_pos (by omega)), if_pos (iL (m := 5) (n := 5) rfl hp (by decide)), if_neg (nI_pos (by omega)), if_pos (iL (m := 5) (n := 5) rfl hq (by decide)), E_Tk_view_23 sc d g h a q0, if_neg (by decide), this.1, if_pos (zin_nI this.2 (by decide)), nI_clamp (by omega)]
theorem Tk_view (sc : zSc) (d : Nat) (g : zSg) (h : zHp) {a : Nat} {T : TT} {K : KK} (q0 : zS4 g a) (O : TOK T) (R : TkD h a T K) {p q : Nat} (hp : p < T.P) (hq : q < T.P) (hn : p ≠ q) : zRun sc d 62 [.ref a, .int (nI p), .int (nI q)] g h = some (some (.long (jF (K.V p q))), g, h) := by
  have := O.2.1
  rw [Tk_view' sc d g h q0 (by omega) (by omega), R.2.1 p q hp hq hn]
theorem Tk_sureKnown (sc : zSc) (d : Nat) (g : zSg) (h : zHp) {a t : Nat} {T : TT} {K : KK} (q0 : zS4 g a) (q1 : zS6 g t) (O : TOK T) (D : TnD h t T) (R : TkD h a T K) {p q : Nat} (hp : p < T.P) (hq : q < T.P) (hn : p ≠ q) : zRun sc (d + 2) 65 [.ref a, .ref t, .int (nI p), .int (nI q)] g h = some (some (.int (nI (sureK (K.V p q) T.F))), g, h) := by
  rw [E_Tk_sureKnown sc (d + 1) g h a q0 t q1, Tk_view sc (d + 1) g h q0 O R hp hq hn, zBj_some, D.1, Fa_inAll sc d g h _ O.1, zBi_some]
theorem Tk_sureKnown' (sc : zSc) (d : Nat) (g : zSg) (h : zHp) {a t : Nat} {T : TT} (q0 : zS4 g a) (q1 : zS6 g t) (O : TOK T) (D : TnD h t T) {p q : Nat} (hp : p < 5) (hq : q < 5) : zRun sc (d + 2) 65 [.ref a, .ref t, .int (nI p), .int (nI q)] g h = some (some (.int (nI (sureK (bJ (h.2.1 (a + 4) (5 * p + q))) T.F))), g, h) := by
  have e := Fa_inAll sc d g h (bJ (h.2.1 (a + 4) (5 * p + q))) O.1
  rw [jF_self] at e
  rw [E_Tk_sureKnown sc (d + 1) g h a q0 t q1, Tk_view' sc (d + 1) g h q0 hp hq, zBj_some, D.1, e, zBi_some]
theorem Tk_sureLacked (sc : zSc) (d : Nat) (g : zSg) (h : zHp) {a t : Nat} {T : TT} {K : KK} (q0 : zS4 g a) (q1 : zS6 g t) (O : TOK T) (D : TnD h t T) (R : TkD h a T K) {p q : Nat} (hp : p < T.P) (hq : q < T.P) (hn : p ≠ q) : zRun sc (d + 2) 67 [.ref a, .ref t, .int (nI p), .int (nI q)] g h = some (some (.int (nI (sureN (K.V p q) T.F))), g, h) := by
  rw [E_Tk_sureLacked sc (d + 1) g h a q0 t q1, Tk_view sc (d + 1) g h q0 O R hp hq hn, zBj_some, D.1, Fa_inNone sc d g h _ O.1, zBi_some]
theorem Tk_safeFacts (sc : zSc) (d : Nat) (g : zSg) (h : zHp) {a t : Nat} {T : TT} {K : KK} (q0 : zS4 g a) (q1 : zS6 g t) (O : TOK T) (D : TnD h t T) (R : TkD h a T K) {p q : Nat} (hp : p < T.P) (hq : q < T.P) (hn : p ≠ q) : zRun sc (d + 3) 69 [.ref a, .ref t, .int (nI p), .int (nI q)] g h = some (some (.int (nI (K.kn p &&& sureN (K.V p q) T.F))), g, h) := by
  have := O.2.1
  rw [E_Tk_safeFacts sc (d + 2) g h a q0 t q1, if_pos (zin_nI (by omega) (by decide)), Tk_sureLacked sc d g h q0 q1 O D R hp hq hn, zBi_some, nI_clamp (by omega), (R.1 p hp).1, nI_and]
/-- the odds that f is not known -/
def chN (A : Nat → Bool) (f : Nat) : Nat := cN (fun s => A s && !s.testBit f) 64 * 1000000 / cN A 64
theorem chN_le (A : Nat → Bool) (f : Nat) : chN A f ≤ 64000000 := by
  have h1 := cN_le (fun s => A s && !s.testBit f) 64
  have h2 : chN A f ≤ cN (fun s => A s && !s.testBit f) 64 * 1000000 := Nat.div_le_self _ _
  omega
theorem Tk_chance (sc : zSc) (d : Nat) (g : zSg) (h : zHp) {a : Nat} {T : TT} {K : KK} (q0 : zS4 g a) (O : TOK T) (R : TkD h a T K) {p q f : Nat} (hp : p < T.P) (hq : q < T.P) (hn : p ≠ q) (hf : f < 6) : zRun sc (d + 1) 71 [.ref a, .int (nI p), .int (nI q), .int (nI f)] g h = some (some (.int (nI (chN (K.V p q) f))), g, h) := by
  have h1 := cN_le (K.V p q) 64
  have h2 := cN_le (fun s => K.V p q s && !s.testBit f) 64
  rw [E_Tk_chance sc d g h a q0, Tk_view sc d g h q0 O R hp hq hn, zBj_some, JL_bc, zBi_some]
  by_cases h0 : cN (K.V p q) 64 = 0
  · rw [if_pos (by rw [h0]; rfl)]
    unfold chN
    rw [h0, Nat.div_zero]
    rfl
  · rw [if_neg (nI_ne0 (by omega) (by omega)), Fa_lacking sc d g h _ hf, zBj_some, JL_bc, zBi_some, if_neg (nI_ne0 (by omega) (by omega)), show (1000000 : Int32) = nI 1000000 from rfl, nI_mul, pk_div (by omega) (by omega) (by omega)]
    rfl
/-- a number or none -/
def oI : Option Nat → Int32
  | none => -1
  | some b => nI b
def beC (A : Nat → Bool) (k : Nat) : Option Nat → Bool
  | none => true
  | some b => decide (chN A b < chN A k)
/-- the first of the facts below k that is known and of which the odds are greatest -/
def beN (s : Nat) (A : Nat → Bool) : Nat → Option Nat
  | 0 => none
  | k + 1 => if s.testBit k && beC A k (beN s A k) then some k else beN s A k
theorem beN_lt {s : Nat} {A : Nat → Bool} : ∀ {k b : Nat}, beN s A k = some b → b < k
  | 0, b, h => by cases h
  | k + 1, b, h => by
    unfold beN at h
    split at h
    · cases h; omega
    · exact Nat.lt_succ_of_lt (beN_lt h)
def bgI (A : Nat → Bool) : Option Nat → Int32
  | none => -1
  | some b => nI (chN A b)
theorem bg_lt {A : Nat → Bool} (o : Option Nat) (k : Nat) : bgI A o < nI (chN A k) ↔ beC A k o = true := by
  have h1 := chN_le A k
  cases o with
  | none =>
    simp only [bgI, beC, iff_true]
    rw [Int32.lt_iff_toInt_lt, nI_toInt (by omega)]
    have : (-1 : Int32).toInt = -1 := rfl
    omega
  | some b =>
    have h2 := chN_le A b
    simp only [bgI, beC, decide_eq_true_eq]
    exact nI_ltI (by omega) (by omega)
theorem Tk_bestSaying (sc : zSc) (d : Nat) (g : zSg) (h : zHp) {a t : Nat} {T : TT} {K : KK} (q0 : zS4 g a) (q1 : zS6 g t) (O : TOK T) (D : TnD h t T) (R : TkD h a T K) (kk : KOK T K) {p q : Nat} (hp : p < T.P) (hq : q < T.P) (hn : p ≠ q) : zRun sc (d + 2) 73 [.ref a, .ref t, .int (nI p), .int (nI q)] g h = some (some (.int (oI (beN (K.kn p) (K.V p q) T.F))), g, h) := by
  have hkn := KOK_kn O kk hp
  have hF6 := O.1
  have hP5 := O.2.1
  rw [E_Tk_bestSaying sc (d + 1) g h a q0 t q1]
  refine (zUp (fun k => zE sc (d + 2) 73 9 [some (.ref a), some (.ref t), some (.int (nI p)), some (.int (nI q)), some (.int (oI (beN (K.kn p) (K.V p q) k))), some (.int (bgI (K.V p q) (beN (K.kn p) (K.V p q) k))), some (.int (nI k))] [] g h) T.F (fun k hk => ?_)).trans ?_
  · rw [E_Tk_bestSaying_9 sc (d + 1) g h a q0 t q1, D.1, if_pos (nI_lt hk (by omega)), if_pos (zin_nI (by omega) (by decide)), nI_clamp (by omega), (R.1 p hp).1, X_has sc (d + 1) g h (by omega) (by omega), zBi_some]
    have hch := Tk_chance sc d g h q0 O R hp hq hn (show k < 6 by omega)
    cases hb : (K.kn p).testBit k with
    | false =>
      rw [z01f, nI_1]
      have : beN (K.kn p) (K.V p q) (k + 1) = beN (K.kn p) (K.V p q) k := by simp [beN, hb]
      rw [this]
    | true =>
      rw [z01t, hch, zBi_some]
      by_cases hl : bgI (K.V p q) (beN (K.kn p) (K.V p q) k) < nI (chN (K.V p q) k)
      · rw [if_pos hl, hch, zBi_some, nI_1]
        have hl' := (bg_lt _ _).mp hl
        have : beN (K.kn p) (K.V p q) (k + 1) = some k := by rw [beN, hb, hl']; rfl
        rw [this]
        rfl
      · rw [if_neg hl, nI_1]
        have hl' : ¬ _ := fun z => hl ((bg_lt _ _).mpr z)
        have : beN (K.kn p) (K.V p q) (k + 1) = beN (K.kn p) (K.V p q) k := by
          rw [beN, hb]
          rw [Bool.not_eq_true] at hl'
          rw [hl']
          rfl
        rw [this]
  · rw [E_Tk_bestSaying_9 sc (d + 1) g h a q0 t q1, D.1, if_neg (nI_nlt (Nat.le_refl _) (by omega))]
theorem Tk_whoKnows (sc : zSc) (d : Nat) (g : zSg) (h : zHp) {a t : Nat} {T : TT} {K : KK} (q0 : zS4 g a) (q1 : zS6 g t) (O : TOK T) (D : TnD h t T) (R : TkD h a T K) (kk : KOK T K) {f : Nat} (hf : f < 6) : zRun sc (d + 1) 53 [.ref a, .ref t, .int (nI f)] g h = some (some (.int (nI (jN (fun p => (K.kn p).testBit f) T.P))), g, h) := by
  have hP5 := O.2.1
  rw [E_Tk_whoKnows sc d g h a q0 t q1]
  refine (zUp (fun k => zE sc (d + 1) 53 5 [some (.ref a), some (.ref t), some (.int (nI f)), some (.int (nI (jN (fun p => (K.kn p).testBit f) k))), some (.int (nI k))] [] g h) T.P (fun k hk => ?_)).trans ?_
  · have hkn := KOK_kn O kk hk
    rw [E_Tk_whoKnows_5 sc d g h a q0 t q1, D.2.1, if_pos (nI_lt hk (by omega)), if_pos (zin_nI (by omega) (by decide)), nI_clamp (by omega), (R.1 k hk).1, X_has sc d g h (by omega) (by omega), zBi_some]
    cases hb : (K.kn k).testBit f with
    | false => rw [z01f, nI_1, ← jN_succ_f (A := fun p => (K.kn p).testBit f) hb]
    | true => rw [z01t, nI_shl1 (by omega), nI_or, nI_1, jN_succ_t (A := fun p => (K.kn p).testBit f) hb]
  · rw [E_Tk_whoKnows_5 sc d g h a q0 t q1, D.2.1, if_neg (nI_nlt (Nat.le_refl _) (by omega))]
theorem Tk_plainLack (sc : zSc) (d : Nat) (g : zSg) (h : zHp) {a t : Nat} {T : TT} {K : KK} (q0 : zS4 g a) (q1 : zS6 g t) (O : TOK T) (S : TnS h t T) (R : TkD h a T K) (kk : KOK T K) {p : Nat} (hp : p < T.P) : zRun sc (d + 2) 56 [.ref a, .ref t, .int (nI p)] g h = some (some (.int (nI (sureN (weB T (K.ht p)) T.F))), g, h) := by
  have hP5 := O.2.1
  have h1 := (kk.1 p hp).2.1
  have h2 := O.2.2.2.1
  rw [E_Tk_plainLack sc (d + 1) g h a q0 t q1, if_pos (zin_nI (by omega) (by decide)), nI_clamp (by omega), (R.1 p hp).2.1, Tn_wearers sc (d + 1) g h q1 S (by omega), zBj_some, S.1.1, Fa_inNone sc d g h _ O.1, zBi_some]
theorem sureK_lt (A : Nat → Bool) {F : Nat} (hF : F ≤ 6) : sureK A F < 64 := by
  unfold sureK
  split
  · decide
  · exact lt_64 (jN_lt _ F) hF
theorem sureN_lt (A : Nat → Bool) {F : Nat} (hF : F ≤ 6) : sureN A F < 64 := by
  unfold sureN
  split
  · decide
  · exact lt_64 (jN_lt _ F) hF
/-- how many facts one is sure of in the first k others -/
def surN (F : Nat) (V : Nat → Nat → Nat → Bool) (p : Nat) : Nat → Nat
  | 0 => 0
  | k + 1 => if k = p then surN F V p k else surN F V p k + (pN (sureK (V p k) F) 6 + pN (sureN (V p k) F) 6)
theorem surN_le (F : Nat) (V : Nat → Nat → Nat → Bool) (p : Nat) : ∀ k, surN F V p k ≤ 12 * k
  | 0 => Nat.le_refl _
  | k + 1 => by
    have h1 := surN_le F V p k
    have h2 := cN_le (sureK (V p k) F).testBit 6
    have h3 := cN_le (sureN (V p k) F).testBit 6
    unfold surN pN
    split <;> omega
theorem Tk_sureness (sc : zSc) (d : Nat) (g : zSg) (h : zHp) {a t : Nat} {T : TT} {K : KK} (q0 : zS4 g a) (q1 : zS6 g t) (O : TOK T) (D : TnD h t T) (R : TkD h a T K) {p : Nat} (hp : p < T.P) : zRun sc (d + 3) 110 [.ref a, .ref t, .int (nI p)] g h = some (some (.int (nI (surN T.F K.V p T.P))), g, h) := by
  have hP5 := O.2.1
  rw [E_Tk_sureness sc (d + 2) g h a q0 t q1]
  refine (zUp (fun k => zE sc (d + 3) 110 5 [some (.ref a), some (.ref t), some (.int (nI p)), some (.int (nI (surN T.F K.V p k))), some (.int (nI k))] [] g h) T.P (fun k hk => ?_)).trans ?_
  · rw [E_Tk_sureness_5 sc (d + 2) g h a q0 t q1, D.2.1, if_pos (nI_lt hk (by omega))]
    by_cases hkp : k = p
    · rw [if_pos (by rw [hkp]), nI_1, show surN T.F K.V p (k + 1) = surN T.F K.V p k by simp [surN, hkp]]
    · rw [if_neg (fun z => hkp ((nI_eq (by omega) (by omega)).mp z)), Tk_sureKnown sc d g h q0 q1 O D R hp hk (Ne.symm hkp), zBi_some, JI_bc sc _ g h (sureK_lt _ O.1), zBi_some, Tk_sureLacked sc d g h q0 q1 O D R hp hk (Ne.symm hkp), zBi_some, JI_bc sc _ g h (sureN_lt _ O.1), zBi_some, nI_add, nI_add, nI_1, show surN T.F K.V p (k + 1) = surN T.F K.V p k + pN (sureK (K.V p k) T.F) 6 + pN (sureN (K.V p k) T.F) 6 by simp [surN, hkp, Nat.add_assoc]]
  · rw [E_Tk_sureness_5 sc (d + 2) g h a q0 t q1, D.2.1, if_neg (nI_nlt (Nat.le_refl _) (by omega))]
