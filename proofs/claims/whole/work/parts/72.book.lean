/-! ===== the book; the text ===== -/
def jdN (T : TT) (a b f : Nat → Nat) : Nat → Nat → (Nat → Nat) → Option Nat
  | 0, _, _ => none
  | n + 1, k, kn => if (kn (a k)).testBit (f k) && !(kn (b k)).testBit (f k) then jdN T a b f n (k + 1) (fun p => if p = b k then clN T.fo (kn p ||| 2 ^ f k) T.F else kn p) else some k
def bkOK (T : TT) (bc : Nat) (a b f : Nat → Nat) : Prop := bc ≤ 30 ∧ ∀ k, k < bc → a k < T.P ∧ b k < T.P ∧ f k < T.F
def BkD (h : zHp) (bc : Nat) (a b f : Nat → Nat) : Prop := h.1 21 4 = nI bc ∧ ∀ k, k < bc → h.1 22 k = nI (a k) ∧ h.1 23 k = nI (b k) ∧ h.1 24 k = nI (f k)
def MoB (h : zHp) (bc : Nat) (a b f : Nat → Nat) : Prop := h.1 46 35 = nI bc ∧ ∀ k, k < bc → h.1 66 k = nI (a k) ∧ h.1 67 k = nI (b k) ∧ h.1 68 k = nI (f k)
theorem kn_upd {T : TT} {kn : Nat → Nat} (hk : ∀ p, p < T.P → kn p < 2 ^ T.F) {q f : Nat} (hf : f < T.F) : ∀ p, p < T.P → (if p = q then clN T.fo (kn p ||| 2 ^ f) T.F else kn p) < 2 ^ T.F := by
  intro p hp
  split
  · exact clN_lt (or_ltF (hk p hp) hf) (Nat.le_refl _)
  · exact hk p hp
theorem Bk_fw_l (sc : zSc) (d : Nat) {T : TT} (O : TOK T) {t bc : Nat} {a b f : Nat → Nat} (ht : zTw t = true) (bo : bkOK T bc a b f) : ∀ n k kn h, k + n = bc → BkD h bc a b f → TnD h t T → (∀ p, p < T.P → kn p < 2 ^ T.F) → (∀ p, p < T.P → h.1 25 p = nI (kn p)) → ∃ h', zE sc (d + 1) 116 16 [some (.ref 21), some (.ref t), none, some (.int (nI k)), none, none] [] zGL h = some (some (.int (oI (jdN T a b f n k kn))), zGL, h') ∧ zFr 25 26 h h' := by
  have qt := zTw_6 ht
  have h15 := tw_15 ht
  have hF6 := O.1
  have hP5 := O.2.1
  have hp := p2_le hF6
  obtain ⟨b30, bo⟩ := bo
  intro n
  induction n with
  | zero =>
    intro k kn h hk B D hkn hr
    refine ⟨h, ?_, zFr_r _ _ _⟩
    rw [E_Bk_firstWrong_16 sc _ h t qt, B.1, if_neg (nI_nlt (by omega) (by omega))]
    rfl
  | succ n ih =>
    intro k kn h hk B D hkn hr
    obtain ⟨oa, ob, of⟩ := bo k (by omega)
    obtain ⟨b1, b2, b3⟩ := B.2 k (by omega)
    have ka := hkn _ oa
    have kb := hkn _ ob
    have hor := or_ltF kb of
    rw [E_Bk_firstWrong_16 sc _ h t qt, B.1, if_pos (nI_lt (by omega) (by omega)), if_pos (iL (m := 30) (n := 30) rfl (by omega) (by decide)), if_pos (zin_nI (by omega) (by decide)), if_pos (zin_nI (by omega) (by decide)), if_pos (zin_nI (by omega) (by decide)), nI_clamp (by omega), b1, b2, b3, if_pos (zin_nI (by omega) (by decide)), nI_clamp (by omega), nI_clamp (by omega), hr _ oa, X_hasB sc _ zGL h (by omega) (by omega), zBi_some, bI_c, jdN]
    cases hA : (kn (a k)).testBit (f k) with
    | false => exact ⟨h, rfl, zFr_r _ _ _⟩
    | true =>
      rw [cond_true, if_pos (zin_nI (by omega) (by decide)), hr _ ob, X_hasB sc _ zGL h (by omega) (by omega), zBi_some, bI_c]
      cases hB : (kn (b k)).testBit (f k) with
      | true => exact ⟨h, rfl, zFr_r _ _ _⟩
      | false =>
        rw [cond_false, if_pos (zin_nI (by omega) (by decide)), hr _ ob, nI_shl1 (by omega), nI_or, Tn_closure sc _ zGL h qt O D (by omega), zBi_some, if_pos (zin_nI (by omega) (by decide)), nI_1, if_pos (show (true && !false) = true from rfl)]
        have f1 : zFr 25 26 h (zPI h 25 (b k) (nI (clN T.fo (kn (b k) ||| 2 ^ f k) T.F))) := zFr_I (by omega) (by omega)
        have g21 := f1 21 (by omega)
        have g22 := f1 22 (by omega)
        have g23 := f1 23 (by omega)
        have g24 := f1 24 (by omega)
        have gt := f1 t (by omega)
        have gt1 := f1 (t + 1) (by omega)
        have gt2 := f1 (t + 2) (by omega)
        have gt3 := f1 (t + 3) (by omega)
        have B1 : BkD (zPI h 25 (b k) (nI (clN T.fo (kn (b k) ||| 2 ^ f k) T.F))) bc a b f := by
          unfold BkD at B ⊢
          rw [g21.1, g22.1, g23.1, g24.1]
          exact B
        have D1 : TnD (zPI h 25 (b k) (nI (clN T.fo (kn (b k) ||| 2 ^ f k) T.F))) t T := by
          unfold TnD at D ⊢
          rw [gt.1, gt1.1, gt2.1, gt3.1]
          exact D
        obtain ⟨h', r1, r2⟩ := ih (k + 1) (fun p => if p = b k then clN T.fo (kn p ||| 2 ^ f k) T.F else kn p) (zPI h 25 (b k) (nI (clN T.fo (kn (b k) ||| 2 ^ f k) T.F))) (by omega) B1 D1 (kn_upd hkn of) (fun p hp => by
          rw [zPI_1]
          by_cases he : p = b k
          · rw [if_pos ⟨rfl, he⟩, if_pos he, he]
          · rw [if_neg (by omega), if_neg he, hr p hp])
        exact ⟨h', r1, zFr_t f1 r2⟩
theorem Bk_fw (sc : zSc) (d : Nat) (h : zHp) {T : TT} {K : KK} (O : TOK T) (kk : KOK T K) {t a2 bc : Nat} {a b f : Nat → Nat} (ht : zTw t = true) (q2 : zS4 zGL a2) (ha : 26 ≤ a2) (bo : bkOK T bc a b f) (B : BkD h bc a b f) (D : TnD h t T) (R : TkD h a2 T K) : ∃ h', zRun sc (d + 1) 116 [.ref 21, .ref t, .ref a2] zGL h = some (some (.int (oI (jdN T a b f bc 0 K.kn))), zGL, h') ∧ zFr 25 26 h h' := by
  have qt := zTw_6 ht
  have h15 := tw_15 ht
  have hP5 := O.2.1
  rw [E_Bk_firstWrong sc _ h t qt a2 q2, show (0 : Int32).toNatClampNeg = 0 from rfl, show (5 : Int32).toNatClampNeg = 5 from rfl]
  have f1 : zFr 25 26 h (zCI h (a2 + 1) 25 0 0 5) := zFr_CI (by omega) (by omega)
  have g21 := f1 21 (by omega)
  have g22 := f1 22 (by omega)
  have g23 := f1 23 (by omega)
  have g24 := f1 24 (by omega)
  have gt := f1 t (by omega)
  have gt1 := f1 (t + 1) (by omega)
  have gt2 := f1 (t + 2) (by omega)
  have gt3 := f1 (t + 3) (by omega)
  have B1 : BkD (zCI h (a2 + 1) 25 0 0 5) bc a b f := by
    unfold BkD at B ⊢
    rw [g21.1, g22.1, g23.1, g24.1]
    exact B
  have D1 : TnD (zCI h (a2 + 1) 25 0 0 5) t T := by
    unfold TnD at D ⊢
    rw [gt.1, gt1.1, gt2.1, gt3.1]
    exact D
  obtain ⟨h', r1, r2⟩ := Bk_fw_l sc d O ht bo bc 0 K.kn _ (by omega) B1 D1 (fun p hp => clB_lt (kk.1 p hp).1) (fun p hp => by rw [zCI_1, if_pos rfl, cpy0 (by omega), (R.1 p hp).1])
  exact ⟨h', r1, zFr_t f1 r2⟩
def jFr (h h' : zHp) : Prop := mFr [69] [] h h'
theorem Mo_jd_l (sc : zSc) (d : Nat) {T : TT} (O : TOK T) {bc : Nat} {a b f : Nat → Nat} (bo : bkOK T bc a b f) : ∀ n k kn h, k + n = bc → MoB h bc a b f → MoC h T → (∀ p, p < T.P → kn p < 2 ^ T.F) → (∀ p, p < T.P → h.1 69 p = nI (kn p)) → ∃ h', zE sc (d + 1) 191 27 [some (.ref 46), some (.int (nI k)), none] [] zGL h = some (some (.int (oI (jdN T a b f n k kn))), zGL, h') ∧ jFr h h' := by
  have hF6 := O.1
  have hP5 := O.2.1
  have hp := p2_le hF6
  obtain ⟨b30, bo⟩ := bo
  intro n
  induction n with
  | zero =>
    intro k kn h hk B C hkn hr
    refine ⟨h, ?_, mFr_r _ _ _⟩
    rw [E_Mo_judge_27, B.1, if_neg (nI_nlt (by omega) (by omega))]
    rfl
  | succ n ih =>
    intro k kn h hk B C hkn hr
    obtain ⟨oa, ob, of⟩ := bo k (by omega)
    obtain ⟨b1, b2, b3⟩ := B.2 k (by omega)
    have ka := hkn _ oa
    have kb := hkn _ ob
    have hor := or_ltF kb of
    rw [E_Mo_judge_27, B.1, if_pos (nI_lt (by omega) (by omega)), if_pos (zin_nI (by omega) (by decide)), if_pos (zin_nI (by omega) (by decide)), nI_clamp (by omega), b1, b2, b3, if_pos (zin_nI (by omega) (by decide)), if_pos (zin_nI (by omega) (by decide)), nI_clamp (by omega), nI_clamp (by omega), hr _ oa, Mo_has sc _ h (by omega) (by omega), zBi_some, bI_c, jdN]
    cases hA : (kn (a k)).testBit (f k) with
    | false => exact ⟨h, rfl, mFr_r _ _ _⟩
    | true =>
      rw [cond_true, if_pos (zin_nI (by omega) (by decide)), if_pos (zin_nI (by omega) (by decide)), hr _ ob, b3, Mo_has sc _ h (by omega) (by omega), zBi_some, bI_c]
      cases hB : (kn (b k)).testBit (f k) with
      | true => exact ⟨h, rfl, mFr_r _ _ _⟩
      | false =>
        rw [cond_false, if_pos (zin_nI (by omega) (by decide)), if_pos (zin_nI (by omega) (by decide)), hr _ ob, b3, nI_shl1 (by omega), nI_or, if_pos (zin_nI (by omega) (by decide)), if_pos (zin_nI (by omega) (by decide)), nI_clamp (by omega), C.1 _ hor, nI_1, if_pos (show (true && !false) = true from rfl)]
        have f1 : jFr h (zPI h 69 (b k) (nI (clN T.fo (kn (b k) ||| 2 ^ f k) T.F))) := mFr_I (by decide) (by decide)
        have B1 : MoB (zPI h 69 (b k) (nI (clN T.fo (kn (b k) ||| 2 ^ f k) T.F))) bc a b f := by
          unfold MoB at B ⊢
          rw [(f1.2.1 35 (by decide)).1, (f1.1 66 (by decide) (by decide)).1, (f1.1 67 (by decide) (by decide)).1, (f1.1 68 (by decide) (by decide)).1]
          exact B
        obtain ⟨h', r1, r2⟩ := ih (k + 1) (fun p => if p = b k then clN T.fo (kn p ||| 2 ^ f k) T.F else kn p) (zPI h 69 (b k) (nI (clN T.fo (kn (b k) ||| 2 ^ f k) T.F))) (by omega) B1 (MoC_m f1 (by decide) (by decide) C) (kn_upd hkn of) (fun p hp => by
          rw [zPI_1]
          by_cases he : p = b k
          · rw [if_pos ⟨rfl, he⟩, if_pos he, he]
          · rw [if_neg (by omega), if_neg he, hr p hp])
        exact ⟨h', r1, mFr_t f1 r2⟩
theorem Mo_judge (sc : zSc) (d : Nat) (h : zHp) {T : TT} {K : KK} (O : TOK T) (kk : KOK T K) {bc : Nat} {a b f : Nat → Nat} (bo : bkOK T bc a b f) (B : MoB h bc a b f) (C : MoC h T) (R : MoK h T K) : ∃ h', zRun sc (d + 1) 191 [.ref 46] zGL h = some (some (.int (oI (jdN T a b f bc 0 K.kn))), zGL, h') ∧ jFr h h' := by
  have hP5 := O.2.1
  rw [E_Mo_judge]
  obtain ⟨h1, e1, i1, i2⟩ := zUpH (e := fun k h => zE sc (d + 1) 191 2 [some (.ref 46), some (.int (nI k)), none] [] zGL h) (inv := fun k h1 => jFr h h1 ∧ ∀ p, p < k → h1.1 69 p = h.1 51 p) 5 (fun k h1 hk i => by
    refine ⟨zPI h1 69 k (h1.1 51 k), ?_, mFr_t i.1 (mFr_I (by decide) (by decide)), ?_⟩
    · rw [E_Mo_judge_2, if_pos (iL (m := 5) (n := 5) rfl hk (by decide)), if_pos (zin_nI hk (by decide)), if_pos (zin_nI hk (by decide)), nI_clamp (by omega), nI_1]
    · intro p hp
      rw [zPI_1]
      by_cases he : p = k
      · rw [if_pos ⟨rfl, he⟩, he, (i.1.1 51 (by decide) (by decide)).1]
      · rw [if_neg (by omega)]; exact i.2 p (by omega)) h ⟨mFr_r _ _ _, fun p hp => by omega⟩
  refine exEq e1 ?_
  rw [E_Mo_judge_2, if_neg (iG (m := 5) (n := 5) rfl (by omega) (by omega))]
  have B1 : MoB h1 bc a b f := by
    unfold MoB at B ⊢
    rw [(i1.2.1 35 (by decide)).1, (i1.1 66 (by decide) (by decide)).1, (i1.1 67 (by decide) (by decide)).1, (i1.1 68 (by decide) (by decide)).1]
    exact B
  obtain ⟨h', r1, r2⟩ := Mo_jd_l sc d O bo bc 0 K.kn h1 (by omega) B1 (MoC_m i1 (by decide) (by decide) C) (fun p hp => clB_lt (kk.1 p hp).1) (fun p hp => by rw [i2 p (by omega), (R.1 p hp).1])
  exact ⟨h', r1, mFr_t i1 r2⟩
def updN (u : Nat → Nat) (k v i : Nat) : Nat := if i = k then v else u i
theorem Bk_append (sc : zSc) (d : Nat) (h : zHp) {bc : Nat} {a b f : Nat → Nat} (B : BkD h bc a b f) (hb : bc ≤ 30) (p q g : Nat) : (bc = 30 → zRun sc d 113 [.ref 21, .int (nI p), .int (nI q), .int (nI g)] zGL h = some (some (.int 0), zGL, h)) ∧ (bc < 30 → ∃ h', zRun sc d 113 [.ref 21, .int (nI p), .int (nI q), .int (nI g)] zGL h = some (some (.int 1), zGL, h') ∧ BkD h' (bc + 1) (updN a bc p) (updN b bc q) (updN f bc g) ∧ zFr 21 25 h h') := by
  obtain ⟨b0, b1⟩ := B
  constructor
  · intro he
    rw [E_Bk_append, b0, if_neg (iG (m := 30) (n := 30) rfl (by omega) (by omega))]
  · intro hl
    have z1 : ∀ k v, (zPI h 22 k v).1 21 4 = nI bc := fun k v => by rw [zPI_1, if_neg (by omega), b0]
    have z2 : ∀ k v k' v', (zPI (zPI h 22 k v) 23 k' v').1 21 4 = nI bc := fun k v k' v' => by rw [zPI_1, if_neg (by omega), z1]
    have z3 : ∀ k v k' v' k'' v'', (zPI (zPI (zPI h 22 k v) 23 k' v') 24 k'' v'').1 21 4 = nI bc := fun k v k' v' k'' v'' => by rw [zPI_1, if_neg (by omega), z2]
    refine ⟨_, by rw [E_Bk_append, b0, if_pos (iL (m := 30) (n := 30) rfl hl (by decide)), if_pos (zin_nI hl (by decide)), z1, if_pos (zin_nI hl (by decide)), z2, if_pos (zin_nI hl (by decide)), z3, nI_clamp (by omega), nI_1], ⟨by rw [zPI_1, if_pos ⟨rfl, rfl⟩], fun k hk => ?_⟩, zFr_t (zFr_I (by omega) (by omega)) (zFr_t (zFr_I (by omega) (by omega)) (zFr_t (zFr_I (by omega) (by omega)) (zFr_I (by omega) (by omega))))⟩
    unfold updN
    by_cases he : k = bc
    · subst he
      simp [zPI_1]
    · have := b1 k (by omega)
      simp [zPI_1, he, this.1, this.2.1, this.2.2]
theorem Mo_write (sc : zSc) (d : Nat) (h : zHp) {T : TT} (O : TOK T) (D : MoT h T) {bc : Nat} {a b f : Nat → Nat} (B : MoB h bc a b f) (hb : bc ≤ 30) {p q g : Nat} (hp : p < T.P) (hq : q < T.P) (hn : p ≠ q) (hg : g < T.F) : (bc = 30 → zRun sc (d + 3) 189 [.ref 46, .int (nI p), .int (nI q), .int (nI g)] zGL h = some (some (.int (-1000000004)), zGL, h)) ∧ (bc < 30 → ∃ h', zRun sc (d + 3) 189 [.ref 46, .int (nI p), .int (nI q), .int (nI g)] zGL h = some (some (.int (nI (bc + 1))), zGL, h') ∧ MoB h' (bc + 1) (updN a bc p) (updN b bc q) (updN f bc g) ∧ mFr [66, 67, 68] [35] h h') := by
  have hP5 := O.2.1
  have hF6 := O.1
  obtain ⟨b0, b1⟩ := B
  have ht : twoB T (nI p) (nI q) = true := by
    unfold twoB
    rw [isI_n (by omega) hp, isI_n (by omega) hq]
    simp only [Bool.and_self, Bool.true_and, decide_eq_true_eq]
    exact fun z => hn ((nI_eq (by omega) (by omega)).mp z)
  constructor
  · intro he
    rw [E_Mo_write, Mo_areTwo sc d h O D, zBi_some, ht, if_neg (by decide), Mo_isFact sc (d + 1) h O D, zBi_some, isI_n (by omega) hg, if_neg (by decide), b0, if_pos (by rw [he]; rfl)]
  · intro hl
    have z1 : ∀ k v, (zPI h 66 k v).1 46 35 = nI bc := fun k v => by rw [zPI_1, if_neg (by omega), b0]
    have z2 : ∀ k v k' v', (zPI (zPI h 66 k v) 67 k' v').1 46 35 = nI bc := fun k v k' v' => by rw [zPI_1, if_neg (by omega), z1]
    have z3 : ∀ k v k' v' k'' v'', (zPI (zPI (zPI h 66 k v) 67 k' v') 68 k'' v'').1 46 35 = nI bc := fun k v k' v' k'' v'' => by rw [zPI_1, if_neg (by omega), z2]
    have z4 : ∀ (h : zHp) v, (zPI h 46 35 v).1 46 35 = v := fun h v => by rw [zPI_1, if_pos ⟨rfl, rfl⟩]
    have n30 : ¬ nI bc = 30 := fun z => by have := (nI_eq (b := 30) (by omega) (by decide)).mp z; omega
    refine ⟨_, by rw [E_Mo_write, Mo_areTwo sc d h O D, zBi_some, ht, if_neg (by decide), Mo_isFact sc (d + 1) h O D, zBi_some, isI_n (by omega) hg, if_neg (by decide), b0, if_neg n30, if_pos (zin_nI hl (by decide)), z1, if_pos (zin_nI hl (by decide)), z2, if_pos (zin_nI hl (by decide)), z3, z4, nI_clamp (by omega), nI_1], ⟨by rw [zPI_1, if_pos ⟨rfl, rfl⟩], fun k hk => ?_⟩, mFr_t (mFr_I (by decide) (by decide)) (mFr_t (mFr_I (by decide) (by decide)) (mFr_t (mFr_I (by decide) (by decide)) (mFr_f (by decide))))⟩
    unfold updN
    by_cases he : k = bc
    · subst he
      simp [zPI_1]
    · have := b1 k (by omega)
      simp [zPI_1, he, this.1, this.2.1, this.2.2]
/-! the text -/
def byN (w : Int64) (j : Nat) : Nat := uJ w / 2 ^ (8 * j) % 256
theorem byN_lt (w : Int64) (j : Nat) : byN w j < 256 := Nat.mod_lt _ (by decide)
theorem uJ_32 (x : Int64) : x.toInt32.toBitVec.toNat = uJ x % 2 ^ 32 := by
  rw [Int64.toBitVec_toInt32, BitVec.signExtend_eq_setWidth_of_le _ (by decide), BitVec.toNat_setWidth]
  rfl
theorem by_u (w : Int64) {j : Nat} (hj : j < 8) : ((w.toUInt64 >>> ((nI (8 * j)).toInt64.toUInt64 &&& Int64.toUInt64 63)).toInt64).toInt32 &&& 255 = nI (byN w j) := by
  rw [pk_and _ 8 (by decide), uJ_32, uJ_shr w (show 8 * j < 64 by omega)]
  congr 1
  unfold byN
  omega
theorem by_s (w : Int64) {j : Nat} (hj : j < 8) : ((w >>> ((nI (8 * j)).toInt64 &&& 63)) &&& 255).toInt32 = nI (byN w j) := by
  have h1 : uJ ((w >>> ((nI (8 * j)).toInt64 &&& 63)) &&& 255) = byN w j := by
    rw [uJ_and, show uJ 255 = 2 ^ 8 - 1 from rfl, Nat.and_two_pow_sub_one_eq_mod]
    unfold byN
    apply Nat.eq_of_testBit_eq
    intro i
    rw [show (256 : Nat) = 2 ^ 8 from rfl, Nat.testBit_mod_two_pow, Nat.testBit_mod_two_pow]
    by_cases hi : i < 8
    · simp only [hi, decide_true, Bool.true_and]
      rw [Nat.testBit_div_two_pow]
      show (w.toBitVec.sshiftRight' (((nI (8 * j)).toInt64 &&& 63).toBitVec.smod 64)).getLsbD i = _
      rw [j_amt _ (show 8 * j < 64 by omega)]
      show (w.toBitVec.sshiftRight (BitVec.ofNat 64 (8 * j)).toNat).getLsbD i = _
      rw [BitVec.toNat_ofNat, Nat.mod_eq_of_lt (by omega), BitVec.getLsbD_sshiftRight]
      simp only [show 8 * j + i < 64 by omega, if_true, show ¬ 64 ≤ i by omega, decide_false, Bool.not_false, Bool.true_and]
      rw [Nat.add_comm]
      rfl
    · simp [hi]
  apply Int32.toBitVec_inj.1
  apply BitVec.eq_of_toNat_eq
  have h2 := byN_lt w j
  rw [uJ_32, h1]
  show _ = (BitVec.ofNat 32 (byN w j)).toNat
  rw [BitVec.toNat_ofNat]
def TxD (h : zHp) (tl : Nat) (tb : Nat → Nat) : Prop := h.1 1 1 = nI tl ∧ ∀ i, i < tl → h.1 2 i = nI (tb i)
def MoX (h : zHp) (tl : Nat) (tb : Nat → Nat) : Prop := h.1 46 16 = nI tl ∧ ∀ i, i < tl → h.1 56 i = nI (tb i)
def fdN (tl : Nat) (tb : Nat → Nat) (n : Nat) (w : Int64) (i : Nat) : Nat := if i < tl then tb i else byN w (n - 1 - (i - tl))
theorem n8 (j : Nat) : (8 : Int32) * nI j = nI (8 * j) := by rw [show (8 : Int32) = nI 8 from rfl, nI_mul]
theorem Tx_append (sc : zSc) (d : Nat) (h : zHp) {tl : Nat} {tb : Nat → Nat} (X : TxD h tl tb) {n : Nat} (w : Int64) (hn : 1 ≤ n) (hn8 : n ≤ 8) (ht : tl + n ≤ 400) : ∃ h', zRun sc d 21 [.ref 1, .int (nI n), .long w] zGL h = some (some (.int 1), zGL, h') ∧ TxD h' (tl + n) (fdN tl tb n w) ∧ zFr 1 3 h h' := by
  obtain ⟨x0, x1⟩ := X
  rw [E_Tx_append, if_neg (nI_pos (by omega)), x0, nI_add, if_neg (iG' (m := 400) (n := 400) rfl ht (by decide))]
  obtain ⟨h1, e1, i1, i2, i3⟩ := zUpH (e := fun k h => zE sc d 21 21 [some (.ref 1), some (.int (nI n)), some (.long w), none, some (.int (nI k))] [] zGL h) (inv := fun k h1 => zFr 1 3 h h1 ∧ h1.1 1 1 = nI tl ∧ ∀ i, i < tl + k → h1.1 2 i = nI (fdN tl tb n w i)) n (fun k h1 hk i => by
    obtain ⟨i1, i2, i3⟩ := i
    refine ⟨zPI h1 2 (tl + k) (nI (byN w (n - 1 - k))), ?_, zFr_t i1 (zFr_I (by omega) (by omega)), ?_, ?_⟩
    · rw [E_Tx_append_21, if_pos (nI_lt hk (by omega)), i2, nI_add, if_pos (zin_nI (by omega) (by decide)), nI_clamp (by omega), show (1 : Int32) = nI 1 from rfl, nI_sub (by omega), nI_sub (by omega), n8, by_u w (by omega), nI_add]
    · rw [zPI_1, if_neg (by omega), i2]
    · intro j hj
      rw [zPI_1]
      by_cases he : j = tl + k
      · rw [if_pos ⟨rfl, he⟩]
        unfold fdN
        rw [if_neg (by omega), he, show tl + k - tl = k by omega]
      · rw [if_neg (by omega), i3 j (by omega)]) h ⟨zFr_r _ _ _, x0, fun j hj => by unfold fdN; rw [if_pos (by omega), x1 j (by omega)]⟩
  refine exEq e1 ?_
  rw [E_Tx_append_21, if_neg (nI_nlt (Nat.le_refl _) (by omega)), i2, nI_add]
  refine ⟨_, rfl, ⟨by rw [zPI_1, if_pos ⟨rfl, rfl⟩], fun i hi => by rw [zPI_1, if_neg (by omega)]; exact i3 i hi⟩, zFr_t i1 (zFr_I (by omega) (by omega))⟩
theorem Mo_feed_l (sc : zSc) (d : Nat) {tl : Nat} {tb : Nat → Nat} (w : Int64) {n : Nat} (hn8 : n ≤ 8) (ht : tl + n ≤ 400) (h0 : zHp) : ∀ m k h, k + m = n → mFr [56] [16] h0 h → h.1 46 16 = nI (tl + k) → (∀ i, i < tl + k → h.1 56 i = nI (fdN tl tb n w i)) → ∃ h', zE sc (d + 1) 131 35 [some (.ref 46), none, some (.long w), none, some (.int (nI m - 1))] [] zGL h = some (some (.int (nI (tl + n))), zGL, h') ∧ MoX h' (tl + n) (fdN tl tb n w) ∧ mFr [56] [16] h0 h' := by
  intro m
  induction m with
  | zero =>
    intro k h hk f i2 i3
    have : k = n := by omega
    subst this
    refine ⟨h, ?_, ⟨i2, i3⟩, f⟩
    rw [E_Mo_feed_35, if_pos (by decide), i2]
  | succ m ih =>
    intro k h hk f i2 i3
    have e : nI (m + 1) - 1 = nI m := by rw [← nI_1, Int32.add_sub_cancel]
    have z : ∀ v, (zPI h 56 (tl + k) v).1 46 16 = nI (tl + k) := fun v => by rw [zPI_1, if_neg (by omega), i2]
    rw [E_Mo_feed_35, e, if_neg (nI_pos (by omega)), i2, if_pos (zin_nI (by omega) (by decide)), nI_clamp (by omega), n8, by_s w (by omega), z, nI_1, show (-1 : Int32) = -1 from rfl, ← Int32.sub_eq_add_neg]
    refine ih (k + 1) _ (by omega) (mFr_t f (mFr_t (mFr_I (by decide) (by decide)) (mFr_f (by decide)))) (by rw [zPI_1, if_pos ⟨rfl, rfl⟩, Nat.add_assoc]) ?_
    intro i hi
    rw [zPI_1, if_neg (by omega), zPI_1]
    by_cases he : i = tl + k
    · rw [if_pos ⟨rfl, he⟩]
      unfold fdN
      rw [if_neg (by omega), he, show n - 1 - (tl + k - tl) = m by omega]
    · rw [if_neg (by omega), i3 i (by omega)]
theorem Mo_feed (sc : zSc) (d : Nat) (h : zHp) {tl : Nat} {tb : Nat → Nat} (X : MoX h tl tb) {n : Nat} (w : Int64) (hn : 1 ≤ n) (hn8 : n ≤ 8) (ht : tl + n ≤ 400) : ∃ h', zRun sc (d + 1) 131 [.ref 46, .int (nI n), .long w] zGL h = some (some (.int (nI (tl + n))), zGL, h') ∧ MoX h' (tl + n) (fdN tl tb n w) ∧ mFr [56] [16] h h' := by
  have hin := Mo_in' sc d h (nI n) 1 8
  rw [show (1 : Int32).toInt64 = (1 : Int64) from rfl, show (8 : Int32).toInt64 = (8 : Int64) from rfl, show decide (¬ nI n < 1 ∧ ¬ 8 < nI n) = true from decide_eq_true ⟨iG (m := 1) (n := 1) rfl hn (by omega), iG' (m := 8) (n := 8) rfl hn8 (by decide)⟩] at hin
  rw [E_Mo_feed, hin, zBi_some, if_neg (by decide), X.1, nI_add, if_neg (iG' (m := 400) (n := 400) rfl ht (by decide))]
  exact Mo_feed_l sc d w hn8 ht h n 0 h (by omega) (mFr_r _ _ _) X.1 (fun i hi => by unfold fdN; rw [if_pos (show i < tl from hi)]; exact X.2 i hi)
