/-! ===== what fits the log; draws; copies ===== -/
def fI (lg : Nat → Int32) (i : Nat) : Nat := (lg (5 * i + 2)).toNatClampNeg
def lI (lg : Nat → Int32) (i : Nat) : Nat := (lg (5 * i + 3)).toNatClampNeg
def fitN (T : TT) (lg : Nat → Int32) (q : Nat) : Nat → Nat → Nat → Bool
  | 0, _, _ => true
  | n + 1, i, s => if lg (5 * i) = nI q ∧ s.testBit (fI lg i) = false then false else if lg (5 * i + 1) = nI q ∧ s.testBit (fI lg i) ≠ decide (lg (5 * i + 4) = 1) then false else fitN T lg q n (i + 1) (if lg (5 * i + 1) = nI q ∨ (lI lg i).testBit q = true then clN T.fo (s ||| 2 ^ fI lg i) T.F else s)
def bI (b : Bool) : Int32 := if b = true then 1 else 0
theorem bI_c {α : Type} (b : Bool) (x y : α) : (if bI b = 0 then x else y) = bif b then y else x := by cases b <;> rfl
theorem bI_d {α : Type} {c : Prop} {dc : Decidable c} (f : Int32 → α) : (if c then f 1 else f 0) = f (bI (decide c)) := by
  by_cases h : c
  · simp [h, bI]
  · simp [h, bI]
theorem bI_e {b c : Bool} : bI b = bI c ↔ b = c := by cases b <;> cases c <;> simp [bI]
theorem X_hasB (sc : zSc) (d : Nat) (g : zSg) (h : zHp) {a k : Nat} (ha : a < 2 ^ 31) (hk : k < 31) : zRun sc d 11 [.int (nI a), .int (nI k)] g h = some (some (.int (bI (a.testBit k))), g, h) := X_has sc d g h ha hk
theorem Tk_fitsLog_l (sc : zSc) (d : Nat) (g : zSg) (h : zHp) {a0 t : Nat} {T : TT} {K : KK} (q0 : zS4 g a0) (q1 : zS6 g t) (O : TOK T) (D : TnD h t T) (R : TkD h a0 T K) (kk : KOK T K) {q : Nat} (hq : q < T.P) : ∀ n i s, i + n = K.L → s < 64 → zE sc (d + 1) 108 6 [some (.ref a0), some (.ref t), some (.int (nI q)), none, some (.int (nI s)), some (.int (nI i)), none, none, none] [] g h = some (some (.int (bI (fitN T K.lg q n i s))), g, h) := by
  have hF6 := O.1
  have hP5 := O.2.1
  have hL6 := kk.2.2.1
  intro n
  induction n with
  | zero =>
    intro i s hi hs
    rw [E_Tk_fitsLog_6 sc d g h a0 q0 t q1, R.2.2.2.1, if_neg (nI_nlt (by omega) (by omega))]
    rfl
  | succ n ih =>
    intro i s hi hs
    obtain ⟨⟨f, hf, ef⟩, l, hl, el⟩ := kk.2.2.2.1 i (by omega)
    have r0 := R.2.2.1 (5 * i) (by omega)
    have r1 := R.2.2.1 (5 * i + 1) (by omega)
    have r2 := R.2.2.1 (5 * i + 2) (by omega)
    have r3 := R.2.2.1 (5 * i + 3) (by omega)
    have r4 := R.2.2.1 (5 * i + 4) (by omega)
    have hfI : fI K.lg i = f := by unfold fI; rw [ef, nI_clamp (by omega)]
    have hlI : lI K.lg i = l := by unfold lI; rw [el, nI_clamp (by omega)]
    have s6 : zE sc (d + 1) 108 6 [some (.ref a0), some (.ref t), some (.int (nI q)), none, some (.int (nI s)), some (.int (nI i)), none, none, none] [] g h = zE sc (d + 1) 108 62 [some (.ref a0), some (.ref t), some (.int (nI q)), none, some (.int (nI s)), some (.int (nI i)), some (.int (nI (5 * i))), some (.int (bI (s.testBit f))), none] [.int (bI (decide (K.lg (5 * i + 1) = nI q)))] g h := by
      rw [E_Tk_fitsLog_6 sc d g h a0 q0 t q1, R.2.2.2.1, if_pos (nI_lt (by omega) (by omega)), if_pos (iL (m := 60) (n := 60) rfl (by omega) (by decide)), n5, nI_2, if_pos (zin_nI (by omega) (by decide)), nI_clamp (by omega), r2, ef, X_hasB sc d g h (by omega) (by omega), zBi_some, nI_1, if_pos (zin_nI (by omega) (by decide)), nI_clamp (by omega), r1]
      exact bI_d (fun x => zE sc (d + 1) 108 62 [some (.ref a0), some (.ref t), some (.int (nI q)), none, some (.int (nI s)), some (.int (nI i)), some (.int (nI (5 * i))), some (.int (bI (s.testBit f))), none] [.int x] g h)
    have s62 : ∀ s0 : Int32, zE sc (d + 1) 108 62 [some (.ref a0), some (.ref t), some (.int (nI q)), none, some (.int (nI s)), some (.int (nI i)), some (.int (nI (5 * i))), some (.int (bI (s.testBit f))), none] [.int s0] g h = if K.lg (5 * i) = nI q ∧ s.testBit f = false then some (some (.int 0), g, h) else zE sc (d + 1) 108 82 [some (.ref a0), some (.ref t), some (.int (nI q)), none, some (.int (nI s)), some (.int (nI i)), some (.int (nI (5 * i))), some (.int (bI (s.testBit f))), some (.int s0)] [] g h := by
      intro s0
      rw [E_Tk_fitsLog_62 sc d g h a0 q0 t q1, if_pos (zin_nI (by omega) (by decide)), nI_clamp (by omega), r0, bI_c]
      by_cases hS : K.lg (5 * i) = nI q
      · rw [if_pos hS]
        cases s.testBit f with
        | false => rw [if_pos ⟨hS, rfl⟩]; rfl
        | true => rw [if_neg (fun z => by cases z.2)]; rfl
      · rw [if_neg hS, if_neg (fun z => hS z.1)]
    have s82 : ∀ hb kb : Bool, zE sc (d + 1) 108 82 [some (.ref a0), some (.ref t), some (.int (nI q)), none, some (.int (nI s)), some (.int (nI i)), some (.int (nI (5 * i))), some (.int (bI kb)), some (.int (bI hb))] [] g h = if hb = true ∧ kb ≠ decide (K.lg (5 * i + 4) = 1) then some (some (.int 0), g, h) else zE sc (d + 1) 108 112 [some (.ref a0), some (.ref t), some (.int (nI q)), none, some (.int (nI s)), some (.int (nI i)), some (.int (nI (5 * i))), none, some (.int (bI hb))] [] g h := by
      intro hb kb
      rw [E_Tk_fitsLog_82 sc d g h a0 q0 t q1, bI_c]
      cases hb with
      | false => rw [cond_false, if_neg (fun z => by cases z.1)]
      | true =>
        rw [cond_true, nI_4, if_pos (zin_nI (by omega) (by decide)), nI_clamp (by omega), r4, bI_d (fun x => zE sc (d + 1) 108 107 [some (.ref a0), some (.ref t), some (.int (nI q)), none, some (.int (nI s)), some (.int (nI i)), some (.int (nI (5 * i))), none, some (.int (bI true))] [.int x, .int (bI kb)] g h), E_Tk_fitsLog_107 sc d g h a0 q0 t q1]
        by_cases he : kb = decide (K.lg (5 * i + 4) = 1)
        · rw [if_pos (bI_e.mpr he), if_neg (fun z => z.2 he)]
        · rw [if_neg (fun z => he (bI_e.mp z)), if_pos ⟨rfl, he⟩]
    have s133 : zE sc (d + 1) 108 133 [some (.ref a0), some (.ref t), some (.int (nI q)), none, some (.int (nI s)), some (.int (nI i)), some (.int (nI (5 * i))), none, none] [] g h = zE sc (d + 1) 108 6 [some (.ref a0), some (.ref t), some (.int (nI q)), none, some (.int (nI (clN T.fo (s ||| 2 ^ f) T.F))), some (.int (nI (i + 1))), none, none, none] [] g h := by
      rw [E_Tk_fitsLog_133 sc d g h a0 q0 t q1, nI_2, if_pos (zin_nI (by omega) (by decide)), nI_clamp (by omega), r2, ef, nI_shl1 (by omega), nI_or, Tn_closure sc d g h q1 O D (or_ltF (F := 6) hs (by omega)), zBi_some, nI_1]
    have s112 : ∀ hb : Bool, zE sc (d + 1) 108 112 [some (.ref a0), some (.ref t), some (.int (nI q)), none, some (.int (nI s)), some (.int (nI i)), some (.int (nI (5 * i))), none, some (.int (bI hb))] [] g h = zE sc (d + 1) 108 6 [some (.ref a0), some (.ref t), some (.int (nI q)), none, some (.int (nI (if hb = true ∨ l.testBit q = true then clN T.fo (s ||| 2 ^ f) T.F else s))), some (.int (nI (i + 1))), none, none, none] [] g h := by
      intro hb
      rw [E_Tk_fitsLog_112 sc d g h a0 q0 t q1, bI_c]
      cases hb with
      | true => rw [cond_true, s133, if_pos (.inl rfl)]
      | false =>
        rw [cond_false, nI_3, if_pos (zin_nI (by omega) (by decide)), nI_clamp (by omega), r3, el, X_hasB sc d g h (by omega) (by omega), zBi_some, bI_c]
        cases l.testBit q with
        | false => rw [cond_false, nI_1, if_neg (by decide)]
        | true => rw [cond_true, s133, if_pos (.inr rfl)]
    rw [s6, s62, fitN, hfI, hlI]
    by_cases c1 : K.lg (5 * i) = nI q ∧ s.testBit f = false
    · rw [if_pos c1, if_pos c1]; rfl
    · rw [if_neg c1, if_neg c1, s82]
      by_cases c2 : K.lg (5 * i + 1) = nI q ∧ s.testBit f ≠ decide (K.lg (5 * i + 4) = 1)
      · rw [if_pos ⟨decide_eq_true c2.1, c2.2⟩, if_pos c2]; rfl
      · rw [if_neg (fun z => c2 ⟨of_decide_eq_true z.1, z.2⟩), if_neg c2, s112]
        have hcl : clN T.fo (s ||| 2 ^ f) T.F < 64 := clN_lt (F := 6) (or_ltF (F := 6) hs (by omega)) hF6
        by_cases c3 : K.lg (5 * i + 1) = nI q ∨ l.testBit q = true
        · rw [if_pos (c3.imp decide_eq_true id), if_pos c3, ih (i + 1) _ (by omega) hcl]
        · rw [if_neg (fun z => c3 (z.imp of_decide_eq_true id)), if_neg c3, ih (i + 1) _ (by omega) hs]
theorem Tk_fitsLog (sc : zSc) (d : Nat) (g : zSg) (h : zHp) {a0 t : Nat} {T : TT} {K : KK} (q0 : zS4 g a0) (q1 : zS6 g t) (O : TOK T) (D : TnD h t T) (R : TkD h a0 T K) (kk : KOK T K) {q : Nat} (hq : q < T.P) {s : Nat} (hs : s < 64) : zRun sc (d + 1) 108 [.ref a0, .ref t, .int (nI q), .int (nI s)] g h = some (some (.int (bI (fitN T K.lg q K.L 0 s))), g, h) := by
  rw [E_Tk_fitsLog sc d g h a0 q0 t q1]
  exact Tk_fitsLog_l sc d g h q0 q1 O D R kk hq K.L 0 s (by omega) hs
def knwB (T : TT) (K : KK) (q : Nat) (s : Nat) : Bool := weB T (K.ht q) s && fitN T K.lg q K.L 0 s
theorem Tk_knownAtFirst (sc : zSc) (d : Nat) (g : zSg) (h : zHp) {a0 t : Nat} {T : TT} {K : KK} (q0 : zS4 g a0) (q1 : zS6 g t) (O : TOK T) (S : TnS h t T) (R : TkD h a0 T K) (kk : KOK T K) {q : Nat} (hq : q < T.P) : zRun sc (d + 2) 107 [.ref a0, .ref t, .int (nI q)] g h = some (some (.long (jF (knwB T K q))), g, h) := by
  have hP5 := O.2.1
  have h1 := (kk.1 q hq).2.1
  have h2 := O.2.2.2.1
  rw [E_Tk_knownAtFirst sc (d + 1) g h a0 q0 t q1, if_pos (zin_nI (by omega) (by decide)), nI_clamp (by omega), (R.1 q hq).2.1, Tn_wearers sc _ g h q1 S (show K.ht q < 99 by omega), zBj_some, jF_0]
  refine (?_ : _ = _).trans ((zUp (fun k => zE sc (d + 2) 107 17 [some (.ref a0), some (.ref t), some (.int (nI q)), some (.long (jF (weB T (K.ht q)))), none, some (.long (jF (fun s => decide (s < k) && knwB T K q s))), none, some (.int (nI k))] [] g h) 64 (fun k hk => ?_)).trans ?_)
  · simp only [Nat.not_lt_zero, decide_false, Bool.false_and]
    rfl
  · rw [E_Tk_knownAtFirst_17 sc (d + 1) g h a0 q0 t q1, if_pos (iL (m := 64) (n := 64) rfl hk (by decide)), Fa_holds sc _ g h _ hk, zBi_some]
    have hd : ∀ s, s ≠ k → decide (s < k + 1) = decide (s < k) := fun s hs => by apply decide_eq_decide.mpr; omega
    cases hw : weB T (K.ht q) k with
    | false =>
      rw [z01f, nI_1, jF_ext (A := fun s => decide (s < k + 1) && knwB T K q s) (B := fun s => decide (s < k) && knwB T K q s)]
      intro s _
      by_cases hs : s = k
      · subst hs; simp [knwB, hw]
      · rw [hd s hs]
    | true =>
      rw [z01t, Tk_fitsLog sc d g h q0 q1 O S.1 R kk hq hk, zBi_some, bI_c]
      cases hfit : fitN T K.lg q K.L 0 k with
      | false =>
        rw [cond_false, nI_1, jF_ext (A := fun s => decide (s < k + 1) && knwB T K q s) (B := fun s => decide (s < k) && knwB T K q s)]
        intro s _
        by_cases hs : s = k
        · subst hs; simp [knwB, hfit]
        · rw [hd s hs]
      | true =>
        rw [cond_true, nI_1, jF_bit1 hk, jF_or, jF_ext (A := fun s => decide (s < k + 1) && knwB T K q s) (B := fun s => (decide (s < k) && knwB T K q s) || s == k)]
        intro s _
        by_cases hs : s = k
        · subst hs; simp [knwB, hw, hfit]
        · rw [hd s hs]; simp [hs]
  · rw [E_Tk_knownAtFirst_17 sc (d + 1) g h a0 q0 t q1, if_neg (iG (m := 64) (n := 64) rfl (by omega) (by decide))]
    rw [jF_ext (A := fun s => decide (s < 64) && knwB T K q s) (B := knwB T K q) (fun s hs => by simp [hs])]
/-! draws -/
def drM (sd : Int32) : Nat := (sd.toNatClampNeg * 1103515245 + 12345) % 2147483648
theorem drM_lt (sd : Int32) : drM sd < 2 ^ 31 := Nat.mod_lt _ (by decide)
theorem dr_x {sd : Int32} (hs : ¬ sd < 0) : sd.toInt64 * 1103515245 + 12345 = lN (sd.toNatClampNeg * 1103515245 + 12345) ∧ sd.toNatClampNeg * 1103515245 + 12345 < 2 ^ 63 := by
  obtain ⟨j, hj, rfl⟩ := nI_of hs
  rw [nI_clamp hj, nI_l hj, show (1103515245 : Int64) = lN 1103515245 from rfl, show (12345 : Int64) = lN 12345 from rfl, lN_mul, lN_add]
  refine ⟨rfl, by omega⟩
theorem lN_and (a b : Nat) : lN a &&& lN b = lN (a &&& b) := by
  apply Int64.toBitVec_inj.1
  show BitVec.ofNat 64 a &&& BitVec.ofNat 64 b = BitVec.ofNat 64 (a &&& b)
  apply BitVec.eq_of_getLsbD_eq
  intro i hi
  simp [hi]
theorem dr_c {sd : Int32} (hs : ¬ sd < 0) : ((sd.toInt64 * 1103515245 + 12345) &&& 2147483647).toInt32 = nI (drM sd) := by
  obtain ⟨h1, h2⟩ := dr_x hs
  rw [h1, show (2147483647 : Int64) = lN (2 ^ 31 - 1) from rfl, lN_and, Nat.and_two_pow_sub_one_eq_mod, lN_i]
  rfl
theorem dr_m {sd : Int32} (hs : ¬ sd < 0) : ((sd.toInt64 * 1103515245 + 12345) - (sd.toInt64 * 1103515245 + 12345) / 2147483648 * 2147483648).toInt32 = nI (drM sd) := by
  obtain ⟨h1, h2⟩ := dr_x hs
  rw [h1, show (2147483648 : Int64) = lN 2147483648 from rfl, pk_lRem h2 (by decide) (by decide), lN_i]
  rfl
theorem Tk_draw (sc : zSc) (d : Nat) (g : zSg) (h : zHp) {a0 : Nat} (q0 : zS4 g a0) (hs : ¬ h.1 a0 6 < 0) {n : Nat} (h0 : 0 < n) (hn : n < 2 ^ 31) : zRun sc d 119 [.ref a0, .int (nI n)] g h = some (some (.int (nI (drM (h.1 a0 6) / 65536 % n))), g, zPI h a0 6 (nI (drM (h.1 a0 6)))) := by
  have := drM_lt (h.1 a0 6)
  have h1 : drM (h.1 a0 6) / 65536 ≤ drM (h.1 a0 6) := Nat.div_le_self _ _
  rw [E_Tk_draw sc d g h a0 q0, if_pos (show (0 : Int32) < nI n from nI_lt (a := 0) h0 hn), if_neg (nI_ne0 h0 hn), dr_c hs, zPI_1, if_pos ⟨rfl, rfl⟩, show (65536 : Int32) = nI 65536 from rfl, pk_div (by omega) (by decide) (by decide), pk_rem (by omega) h0 hn]
/-! copies -/
theorem zCI_1 {h : zHp} {a b sp dp n x y : Nat} : (zCI h a b sp dp n).1 x y = if x = b then va_cpy (h.1 a) (h.1 b) sp dp n y else h.1 x y := rfl
theorem zCI_2 {h : zHp} {a b sp dp n : Nat} : (zCI h a b sp dp n).2 = h.2 := rfl
theorem zCL_1 {h : zHp} {a b sp dp n : Nat} : (zCL h a b sp dp n).1 = h.1 := rfl
theorem zCL_2 {h : zHp} {a b sp dp n x y : Nat} : (zCL h a b sp dp n).2.1 x y = if x = b then va_cpy (h.2.1 a) (h.2.1 b) sp dp n y else h.2.1 x y := rfl
theorem zFr_CI {lo hi : Nat} {h : zHp} {a b sp dp n : Nat} (hl : lo ≤ b) (hh : b < hi) : zFr lo hi h (zCI h a b sp dp n) := fun x hx => ⟨funext fun y => if_neg (fun z => by omega), rfl, rfl⟩
theorem zFr_CL {lo hi : Nat} {h : zHp} {a b sp dp n : Nat} (hl : lo ≤ b) (hh : b < hi) : zFr lo hi h (zCL h a b sp dp n) := fun x hx => ⟨rfl, funext fun y => if_neg (fun z => by omega), rfl⟩
theorem cpy0 {α : Type} {f g : Nat → α} {n j : Nat} (h : j < n) : va_cpy f g 0 0 n j = f j := by
  rw [pk_cpy_in (Nat.zero_le _) (by omega)]
  congr 1
  omega
theorem Tk_copyFrom (sc : zSc) (d : Nat) (g : zSg) (h : zHp) {a0 a1 : Nat} {T : TT} {K : KK} (q0 : zS4 g a0) (q1 : zS4 g a1) (hd : a0 + 6 ≤ a1 ∨ a1 + 6 ≤ a0) (O : TOK T) (R : TkD h a1 T K) (kk : KOK T K) : ∃ h', zRun sc (d + 1) 123 [.ref a0, .ref a1] g h = some (none, g, h') ∧ TkD h' a0 T K ∧ zFr a0 (a0 + 6) h h' := by
  have hP5 := O.2.1
  have hL6 := kk.2.2.1
  refine ⟨_, E_Tk_copyFrom sc d g h a0 q0 a1 q1, ?_, ?_⟩
  · rw [show (0 : Int32).toNatClampNeg = 0 from rfl, show (5 : Int32).toNatClampNeg = 5 from rfl, show (25 : Int32).toNatClampNeg = 25 from rfl, show (300 : Int32).toNatClampNeg = 300 from rfl]
    have n0 : ∀ i j, i ≤ 5 → j ≤ 5 → a1 + i ≠ a0 + j := fun i j hi hj => by omega
    refine ⟨?_, ?_, ?_, ?_, ?_⟩
    · intro p hp
      simp only [zPI_1, zCI_1, zCL_1]
      refine ⟨?_, ?_, ?_⟩
      · rw [if_neg (by omega), if_neg (by omega), if_neg (by omega), if_neg (by omega), if_neg (by omega), if_pos trivial, cpy0 (by omega)]
        exact (R.1 p hp).1
      · rw [if_neg (by omega), if_neg (by omega), if_neg (by omega), if_neg (by omega), if_pos trivial, cpy0 (by omega)]
        show (if a1 + 2 = a0 + 1 then _ else _) = _
        rw [if_neg (by omega)]
        exact (R.1 p hp).2.1
      · rw [if_neg (by omega), if_neg (by omega), if_neg (by omega), if_pos trivial, cpy0 (by omega)]
        show (if a1 + 3 = a0 + 2 then _ else if a1 + 3 = a0 + 1 then _ else _) = _
        rw [if_neg (by omega), if_neg (by omega)]
        exact (R.1 p hp).2.2
    · intro p q hp hq hn
      rw [zPI_2, zPI_2, zCI_2, zCL_2, if_pos rfl, cpy0 (by omega), zCI_2, zCI_2, zCI_2]
      exact R.2.1 p q hp hq hn
    · intro i hi
      rw [zPI_1, if_neg (by omega), zPI_1, if_neg (by omega), zCI_1, if_pos rfl, cpy0 (by omega), zCL_1, zCI_1, if_neg (by omega), zCI_1, if_neg (by omega), zCI_1, if_neg (by omega)]
      exact R.2.2.1 i hi
    · rw [zPI_1, if_neg (by omega), zPI_1, if_pos ⟨rfl, rfl⟩, zCI_1, if_neg (by omega), zCL_1, zCI_1, if_neg (by omega), zCI_1, if_neg (by omega), zCI_1, if_neg (by omega)]
      exact R.2.2.2.1
    · rw [zPI_1, if_pos ⟨rfl, rfl⟩, zPI_1, if_neg (by omega), zCI_1, if_neg (by omega), zCL_1, zCI_1, if_neg (by omega), zCI_1, if_neg (by omega), zCI_1, if_neg (by omega)]
      exact R.2.2.2.2
  · exact zFr_t (zFr_CI (by omega) (by omega)) (zFr_t (zFr_CI (by omega) (by omega)) (zFr_t (zFr_CI (by omega) (by omega)) (zFr_t (zFr_CL (by omega) (by omega)) (zFr_t (zFr_CI (by omega) (by omega)) (zFr_t (zFr_I (by omega) (by omega)) (zFr_I (by omega) (by omega)))))))
