theorem pick_end {A : Nat → Bool} {i : Int32} : ∀ {n s : Nat} {c : Int32}, (∀ u, s ≤ u → A u = false) → pickN A i n s c = -1
  | 0, _, _, _ => rfl
  | n + 1, s, c, h => by
    unfold pickN
    rw [h s (Nat.le_refl s), if_neg (by decide)]
    exact pick_end (fun u hu => h u (by omega))
theorem cN_end {A : Nat → Bool} {m : Nat} (h : ∀ u, m ≤ u → A u = false) : ∀ n, cN A (m + n) = cN A m
  | 0 => rfl
  | n + 1 => by
    rw [show m + (n + 1) = (m + n) + 1 by omega, cN, h (m + n) (by omega)]
    simpa using cN_end h n
theorem Mo_pick_l (sc : zSc) (d : Nat) (h : zHp) {T : TT} (O : TOK T) (D : MoT h T) {A : Nat → Bool} (iA : inF T.F A) (i : Int32) : ∀ n s c, s + n = 2 ^ T.F → c ≤ s → zE sc d 158 6 [some (.ref 46), some (.long (jF A)), none, some (.int i), some (.int (nI c)), some (.int (nI s))] [] zGL h = some (some (.int (if i = -1 then nI (c + cN (fun u => A (s + u)) n) else pickN A i n s (nI c))), zGL, h) := by
  have hp := p2_le O.1
  intro n
  induction n with
  | zero =>
    intro s c hs hc
    rw [E_Mo_pick_6, D.1, sh_F O.1, if_neg (nI_nlt (by omega) (by omega))]
    by_cases hi : i = -1
    · rw [if_pos hi, if_pos hi]; rfl
    · rw [if_neg hi, if_neg hi]; rfl
  | succ n ih =>
    intro s c hs hc
    have hadd := cN_add (fun u => A (s + u)) 1 n
    have h1 : cN (fun u => A (s + u)) 1 = if A s then 1 else 0 := by unfold cN; simp [cN]
    have h2 : cN (fun u => (fun u => A (s + u)) (1 + u)) n = cN (fun u => A (s + 1 + u)) n := cN_ext (fun u _ => by simp only [Nat.add_assoc])
    rw [E_Mo_pick_6, D.1, sh_F O.1, if_pos (nI_lt (by omega) (by omega)), jF_t _ (by omega), Nat.add_comm n 1, hadd, h1, h2]
    unfold pickN
    rw [Nat.add_comm 1 n]
    cases hb : A s with
    | false =>
      rw [cond_false, nI_1, ih (s + 1) c (by omega) (by omega)]
      simp [pickN, hb]
    | true =>
      rw [cond_true]
      by_cases hc2 : nI c = i
      · have hne : i ≠ -1 := by
          intro z
          rw [z] at hc2
          have e1 := congrArg Int32.toInt hc2
          rw [nI_toInt (by omega)] at e1
          have : (-1 : Int32).toInt = -1 := rfl
          omega
        rw [if_pos hc2, if_neg hne]
        simp [pickN, hb, hc2]
      · rw [if_neg hc2, nI_1, nI_1, ih (s + 1) (c + 1) (by omega) (by omega)]
        by_cases hi : i = -1
        · rw [if_pos hi, if_pos hi]; congr 5; simp; omega
        · rw [if_neg hi, if_neg hi]; simp [pickN, hb, hc2, nI_1]
theorem Mo_pick (sc : zSc) (d : Nat) (h : zHp) {T : TT} (O : TOK T) (D : MoT h T) {A : Nat → Bool} (iA : inF T.F A) (i : Int32) : zRun sc d 158 [.ref 46, .long (jF A), .int i] zGL h = some (some (.int (if i = -1 then nI (cN A 64) else pickN A i 64 0 0)), zGL, h) := by
  have hp := p2_le O.1
  rw [E_Mo_pick]
  refine (Mo_pick_l sc d h O D iA i (2 ^ T.F) 0 0 (by omega) (by omega)).trans ?_
  have e1 : cN (fun u => A (0 + u)) (2 ^ T.F) = cN A 64 := by
    have := cN_end (A := A) (m := 2 ^ T.F) (fun u hu => inF_f iA hu) (64 - 2 ^ T.F)
    rw [show 2 ^ T.F + (64 - 2 ^ T.F) = 64 by omega] at this
    rw [this]
    exact cN_ext (fun u _ => by rw [Nat.zero_add])
  have e2 : ∀ m n s (c : Int32), s + n = 2 ^ T.F → pickN A i n s c = pickN A i (n + m) s c := by
    intro m n
    induction n with
    | zero => intro s c hs; exact (pick_end (fun u hu => inF_f iA (by omega))).symm
    | succ n ih =>
      intro s c hs
      rw [show n + 1 + m = (n + m) + 1 by omega]
      unfold pickN
      rw [← ih (s + 1) _ (by omega), ← ih (s + 1) _ (by omega)]
  rw [e1, e2 (64 - 2 ^ T.F) (2 ^ T.F) 0 _ (by omega), show 2 ^ T.F + (64 - 2 ^ T.F) = 64 by omega, Nat.zero_add]
  rfl
theorem v5' {p q : Nat} (hp : p < 5) (hq : q < 5) : 5 * nI p + nI q = nI (5 * p + q) ∧ 5 * p + q < 25 := by
  refine ⟨?_, by omega⟩
  rw [show (5 : Int32) = nI 5 from rfl, nI_mul, nI_add]
theorem Mo_sureOf (sc : zSc) (d : Nat) (h : zHp) (v : Int32) (A : Nat → Bool) : zRun sc d 162 [.int v, .long (jF A)] zGL h = some (some (.int (if empB A then 0 else v)), zGL, h) := by
  rw [E_Mo_sureOf]
  cases he : empB A with
  | true => rw [if_pos ((jF_emp A).mpr he)]; rfl
  | false => rw [if_neg (fun z => by rw [(jF_emp A).mp z] at he; cases he)]; rfl
theorem KOK_in {T : TT} {K : KK} (kk : KOK T K) {p q : Nat} (hp : p < T.P) (hq : q < T.P) (hn : p ≠ q) : inF T.F (K.V p q) := fun s hs => kk.2.1 p q s hp hq hn hs
theorem Mo_sureKnows (sc : zSc) (d : Nat) (h : zHp) {T : TT} {K : KK} (O : TOK T) (D : MoT h T) (R : MoK h T K) (kk : KOK T K) {p q : Nat} (hp : p < T.P) (hq : q < T.P) (hn : p ≠ q) : zRun sc (d + 1) 160 [.ref 46, .int (nI p), .int (nI q)] zGL h = some (some (.int (nI (sureK (K.V p q) T.F))), zGL, h) := by
  have hP := O.2.1
  have h5 := v5' (show p < 5 by omega) (show q < 5 by omega)
  rw [E_Mo_sureKnows, h5.1, if_pos (zin_nI h5.2 (by decide)), nI_clamp (by omega), R.2.1 p q hp hq hn, Mo_inAll sc d h O D (KOK_in kk hp hq hn), zBi_some, if_pos (zin_nI h5.2 (by decide)), R.2.1 p q hp hq hn, Mo_sureOf, zBi_some]
  unfold sureK
  cases empB (K.V p q) <;> rfl
theorem Mo_sureLacks (sc : zSc) (d : Nat) (h : zHp) {T : TT} {K : KK} (O : TOK T) (D : MoT h T) (R : MoK h T K) (kk : KOK T K) {p q : Nat} (hp : p < T.P) (hq : q < T.P) (hn : p ≠ q) : zRun sc (d + 1) 163 [.ref 46, .int (nI p), .int (nI q)] zGL h = some (some (.int (nI (sureN (K.V p q) T.F))), zGL, h) := by
  have hP := O.2.1
  have h5 := v5' (show p < 5 by omega) (show q < 5 by omega)
  rw [E_Mo_sureLacks, h5.1, if_pos (zin_nI h5.2 (by decide)), nI_clamp (by omega), R.2.1 p q hp hq hn, Mo_inNone sc d h O D (KOK_in kk hp hq hn), zBi_some, if_pos (zin_nI h5.2 (by decide)), R.2.1 p q hp hq hn, Mo_sureOf, zBi_some]
  unfold sureN
  cases empB (K.V p q) <;> rfl
theorem Mo_safeOf (sc : zSc) (d : Nat) (h : zHp) {T : TT} {K : KK} (O : TOK T) (D : MoT h T) (R : MoK h T K) (kk : KOK T K) {p q : Nat} (hp : p < T.P) (hq : q < T.P) (hn : p ≠ q) : zRun sc (d + 2) 165 [.ref 46, .int (nI p), .int (nI q)] zGL h = some (some (.int (nI (K.kn p &&& sureN (K.V p q) T.F))), zGL, h) := by
  have hP := O.2.1
  rw [E_Mo_safeOf, if_pos (zin_nI (by omega) (by decide)), Mo_sureLacks sc d h O D R kk hp hq hn, zBi_some, nI_clamp (by omega), (R.1 p hp).1, nI_and]
def thB (A : Nat → Bool) (f : Nat) (b : Bool) (s : Nat) : Bool := A s && s.testBit f == b
theorem thB_in {F : Nat} {A : Nat → Bool} (i : inF F A) (f : Nat) (b : Bool) : inF F (thB A f b) := fun s h => by
  unfold thB at h
  rw [Bool.and_eq_true] at h
  exact i s h.1
theorem Mo_those (sc : zSc) (d : Nat) (h : zHp) {T : TT} (O : TOK T) (D : MoT h T) {A : Nat → Bool} (iA : inF T.F A) {f : Nat} (hf : f < 6) (b : Bool) : zRun sc (d + 1) 168 [.ref 46, .long (jF A), .int (nI f), .int (bI b)] zGL h = some (some (.long (jF (thB A f b))), zGL, h) := by
  have hp := p2_le O.1
  rw [E_Mo_those, ← fam_0 (thB A f b)]
  refine (zUp (fun k => zE sc (d + 1) 168 6 [some (.ref 46), some (.long (jF A)), none, some (.int (nI f)), some (.int (bI b)), some (.long (jF (fun s => decide (s < k) && thB A f b s))), none, some (.int (nI k))] [] zGL h) (2 ^ T.F) (fun k hk => ?_)).trans ?_
  · rw [E_Mo_those_6, D.1, sh_F O.1, if_pos (nI_lt hk (by omega)), Mo_has sc d h (by omega) (by omega), zBi_some, jF_bit1 (by omega), jF_and, jF_or, nI_1]
    by_cases hb : k.testBit f = b
    · rw [if_pos (bI_e.mpr hb)]
      congr 8
      refine congrArg _ (jF_ext ?_)
      intro s _
      by_cases hs : s = k
      · subst hs; simp [thB, hb]
      · rw [fam_step hs]; simp [hs]
    · rw [if_neg (fun z => hb (bI_e.mp z)), j_or0, fam_f (by simp [thB, hb])]
  · rw [E_Mo_those_6, D.1, sh_F O.1, if_neg (nI_nlt (Nat.le_refl _) (by omega)), fam_F (thB_in iA f b)]
theorem Mo_oddsOf (sc : zSc) (d : Nat) (h : zHp) {T : TT} {K : KK} (O : TOK T) (D : MoT h T) (R : MoK h T K) (kk : KOK T K) {p q f : Nat} (hp : p < T.P) (hq : q < T.P) (hn : p ≠ q) (hf : f < 6) : zRun sc (d + 2) 167 [.ref 46, .int (nI p), .int (nI q), .int (nI f)] zGL h = some (some (.int (nI (chN (K.V p q) f))), zGL, h) := by
  have hP := O.2.1
  have h5 := v5' (show p < 5 by omega) (show q < 5 by omega)
  have c1 := cN_le (K.V p q) 64
  have c2 := cN_le (thB (K.V p q) f false) 64
  have e : cN (thB (K.V p q) f false) 64 = cN (fun s => K.V p q s && !s.testBit f) 64 := cN_ext (fun s _ => by unfold thB; cases s.testBit f <;> rfl)
  rw [E_Mo_oddsOf, h5.1, if_pos (zin_nI h5.2 (by decide)), nI_clamp (by omega), R.2.1 p q hp hq hn]
  by_cases h0 : jF (K.V p q) = 0
  · rw [if_pos h0]
    have : cN (K.V p q) 64 = 0 := by
      rw [cN_ext (B := fun _ => false) (fun s hs => (jF_eq0 _).mp h0 s hs)]
      decide
    unfold chN
    rw [this, Nat.div_zero]
    rfl
  · have hpos : 0 < cN (K.V p q) 64 := by
      rcases Nat.eq_zero_or_pos (cN (K.V p q) 64) with hz | hz
      · exfalso
        apply h0
        rw [jF_eq0]
        have key : ∀ n, cN (K.V p q) n = 0 → ∀ s, s < n → K.V p q s = false := by
          intro n
          induction n with
          | zero => intro _ s hs; omega
          | succ n ih =>
            intro hc s hs
            unfold cN at hc
            cases hb : K.V p q n with
            | true => rw [hb] at hc; simp at hc
            | false =>
              by_cases hsn : s = n
              · rw [hsn]; exact hb
              · exact ih (by omega) s (by omega)
        exact key 64 hz
      · exact hz
    have e3 := Mo_those sc d h O D (KOK_in kk hp hq hn) hf false
    rw [if_neg h0, show (0 : Int32) = bI false from rfl, e3, zBj_some, Mo_bits, zBi_some, Mo_bits, zBi_some, show bI false = (0 : Int32) from rfl, if_neg (nI_ne0 hpos (by omega)), show (1000000 : Int32) = nI 1000000 from rfl, nI_mul, pk_div (by omega) hpos (by omega), e, Nat.mul_comm]
    rfl
theorem oI_neg (o : Option Nat) (h : ∀ b, o = some b → b < 2 ^ 31) : oI o < 0 ↔ o = none := by
  cases o with
  | none => simp only [oI, iff_true]; decide
  | some b =>
    simp only [oI]
    constructor
    · intro z; exact absurd z (nI_pos (h b rfl))
    · intro z; cases z
theorem Mo_bestOf (sc : zSc) (d : Nat) (h : zHp) {T : TT} {K : KK} (O : TOK T) (D : MoT h T) (R : MoK h T K) (kk : KOK T K) {p q : Nat} (hp : p < T.P) (hq : q < T.P) (hn : p ≠ q) : zRun sc (d + 3) 170 [.ref 46, .int (nI p), .int (nI q)] zGL h = some (some (.int (oI (beN (K.kn p) (K.V p q) T.F))), zGL, h) := by
  have hkn := KOK_kn O kk hp
  have hF6 := O.1
  have hP5 := O.2.1
  rw [E_Mo_bestOf]
  refine (zUp (fun k => zE sc (d + 3) 170 5 [some (.ref 46), some (.int (nI p)), some (.int (nI q)), some (.int (oI (beN (K.kn p) (K.V p q) k))), some (.int (nI k))] [] zGL h) T.F (fun k hk => ?_)).trans ?_
  · rw [E_Mo_bestOf_5, D.1, if_pos (nI_lt hk (by omega)), if_pos (zin_nI (by omega) (by decide)), nI_clamp (by omega), (R.1 p hp).1, Mo_has sc _ h (by omega) (by omega), zBi_some, bI_c]
    cases hb : (K.kn p).testBit k with
    | false => rw [cond_false, nI_1, show beN (K.kn p) (K.V p q) (k + 1) = beN (K.kn p) (K.V p q) k by simp [beN, hb]]
    | true =>
      rw [cond_true]
      cases ho : beN (K.kn p) (K.V p q) k with
      | none =>
        rw [if_pos (by decide), nI_1, show beN (K.kn p) (K.V p q) (k + 1) = some k by simp [beN, hb, ho, beC]]
        rfl
      | some b =>
        have hbl := beN_lt ho
        rw [show oI (some b) = nI b from rfl, if_neg (nI_pos (by omega)), Mo_oddsOf sc d h O D R kk hp hq hn (show k < 6 by omega), zBi_some, Mo_oddsOf sc d h O D R kk hp hq hn (show b < 6 by omega), zBi_some]
        have l1 := chN_le (K.V p q) b
        have l2 := chN_le (K.V p q) k
        by_cases hl : chN (K.V p q) b < chN (K.V p q) k
        · rw [if_pos (nI_lt hl (by omega)), nI_1, show beN (K.kn p) (K.V p q) (k + 1) = some k by simp [beN, hb, ho, beC, hl]]
          rfl
        · rw [if_neg (nI_nlt (by omega) (by omega)), nI_1, show beN (K.kn p) (K.V p q) (k + 1) = some b by simp [beN, hb, ho, beC, hl]]
          rfl
  · rw [E_Mo_bestOf_5, D.1, if_neg (nI_nlt (Nat.le_refl _) (by omega))]
def imK (fo : Nat → Nat) (A : Nat → Bool) (f F k u : Nat) : Bool := (List.range k).any (fun s => A s && clN fo (s ||| 2 ^ f) F == u)
theorem imK_s {fo : Nat → Nat} {A : Nat → Bool} {f F k u : Nat} : imK fo A f F (k + 1) u = (imK fo A f F k u || (A k && clN fo (k ||| 2 ^ f) F == u)) := by
  unfold imK
  rw [List.range_succ, List.any_append]
  simp
theorem imK_F {fo : Nat → Nat} {A : Nat → Bool} {f F u : Nat} (hF : F ≤ 6) (i : inF F A) : imK fo A f F (2 ^ F) u = imgN fo A f F u := by
  have := p2_le hF
  apply bool_ext
  rw [imgN_iff]
  unfold imK
  rw [List.any_eq_true]
  constructor
  · rintro ⟨s, hs, h⟩
    rw [Bool.and_eq_true, beq_iff_eq] at h
    have := List.mem_range.mp hs
    exact ⟨s, by omega, h.1, h.2⟩
  · rintro ⟨s, hs, h1, h2⟩
    exact ⟨s, List.mem_range.mpr (i s h1), by simp [h1, h2]⟩
theorem Mo_learnt (sc : zSc) (d : Nat) (h : zHp) {T : TT} (O : TOK T) (D : MoT h T) (C : MoC h T) {A : Nat → Bool} (iA : inF T.F A) {f : Nat} (hf : f < T.F) : zRun sc d 173 [.ref 46, .long (jF A), .int (nI f)] zGL h = some (some (.long (jF (imgN T.fo A f T.F))), zGL, h) := by
  have hp := p2_le O.1
  have hF6 := O.1
  rw [E_Mo_learnt, show (0 : Int64) = jF (imK T.fo A f T.F 0) by rw [jF_0]; rfl]
  refine (zUp (fun k => zE sc d 173 6 [some (.ref 46), some (.long (jF A)), none, some (.int (nI f)), some (.long (jF (imK T.fo A f T.F k))), none, some (.int (nI k))] [] zGL h) (2 ^ T.F) (fun k hk => ?_)).trans ?_
  · have hor := or_ltF hk hf
    have hcl := clN_lt (fo := T.fo) hor (Nat.le_refl _)
    rw [E_Mo_learnt_6, D.1, sh_F O.1, if_pos (nI_lt hk (by omega)), jF_t _ (by omega), nI_1]
    cases hb : A k with
    | false => rw [cond_false, j_or0, jF_ext (A := imK T.fo A f T.F (k + 1)) (B := imK T.fo A f T.F k) (fun u _ => by rw [imK_s, hb]; simp)]
    | true =>
      rw [cond_true, nI_shl1 (by omega), nI_or, if_pos (zin_nI (by omega) (by decide)), nI_clamp (by omega), C.1 _ hor, jF_bit1 (by omega), jF_or, jF_ext (A := imK T.fo A f T.F (k + 1)) (B := fun u => imK T.fo A f T.F k u || u == clN T.fo (k ||| 2 ^ f) T.F)]
      intro u _
      rw [imK_s, hb, Bool.true_and]
      congr 1
      apply bool_ext
      rw [beq_iff_eq, beq_iff_eq]
      exact eq_comm
  · rw [E_Mo_learnt_6, D.1, sh_F O.1, if_neg (nI_nlt (Nat.le_refl _) (by omega)), jF_ext (A := imK T.fo A f T.F (2 ^ T.F)) (B := imgN T.fo A f T.F) (fun u _ => imK_F O.1 iA)]
theorem img_in {T : TT} {A : Nat → Bool} (iA : inF T.F A) {f : Nat} (hf : f < T.F) : inF T.F (imgN T.fo A f T.F) := fun u h => by
  obtain ⟨s, _, h1, h2⟩ := imgN_iff.mp h
  rw [← h2]
  exact clN_lt (or_ltF (iA s h1) hf) (Nat.le_refl _)
