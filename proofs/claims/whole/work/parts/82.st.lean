/-! ===== the whole state: class and reference ===== -/
abbrev BB : Type := Nat × (Nat → Nat) × (Nat → Nat) × (Nat → Nat)
abbrev II : Type := (Nat → Bool) × (Nat → KK)
abbrev XX : Type := Nat × (Nat → Nat)
def MoI (h : zHp) (i : Nat) (T : TT) (K : KK) : Prop := (∀ p, p < T.P → h.1 70 (320 * i + p) = nI (K.kn p) ∧ h.1 70 (320 * i + 5 + p) = nI (K.ht p) ∧ h.1 70 (320 * i + 10 + p) = K.ins p) ∧ (∀ p q, p < T.P → q < T.P → p ≠ q → h.2.1 71 (25 * i + (5 * p + q)) = jF (K.V p q)) ∧ (∀ j, j < 5 * K.L → h.1 70 (320 * i + 20 + j) = K.lg j) ∧ h.1 70 (320 * i + 15) = nI K.L ∧ h.1 70 (320 * i + 16) = K.sd
def GX (h : zHp) (t t' : Nat) (T : TT) (K : KK) (X : XX) (B : BB) (I : II) (fl : Int32) : Prop := (h.2.2 0 8 = some t ∧ h.2.2 0 9 = some t' ∧ h.2.2 32 0 = some 33 ∧ h.2.2 32 1 = some 39) ∧ TnS h t T ∧ TkD h 26 T K ∧ TxD h X.1 X.2 ∧ BkD h B.1 B.2.1 B.2.2.1 B.2.2.2 ∧ (∀ i, i < 2 → h.1 45 i = bI (I.1 i) ∧ (I.1 i = true → TkD h (33 + 6 * i) T (I.2 i))) ∧ h.1 0 10 = fl
def GM (h : zHp) (T : TT) (K : KK) (X : XX) (B : BB) (I : II) (fl : Int32) : Prop := MoT h T ∧ MoC h T ∧ MoK h T K ∧ MoX h X.1 X.2 ∧ MoB h B.1 B.2.1 B.2.2.1 B.2.2.2 ∧ (∀ i, i < 2 → h.1 72 i = bI (I.1 i) ∧ (I.1 i = true → MoI h i T (I.2 i))) ∧ h.1 46 17 = fl
def GO (t t' : Nat) (T : TT) (K : KK) (X : XX) (B : BB) (I : II) : Prop := (zTw t = true ∧ zTw t' = true ∧ t ≠ t') ∧ TOK T ∧ KOK T K ∧ txOK X.1 X.2 ∧ bkOK T B.1 B.2.1 B.2.2.1 B.2.2.2 ∧ ∀ i, i < 2 → I.1 i = true → KOK T (I.2 i)
def SI (h : zHp) : Prop := ∃ t t' T K X B I fl, GO t t' T K X B I ∧ GX h t t' T K X B I fl ∧ GM h T K X B I fl
def okS (sc : zSc) (d M1 : Nat) (as1 : List Value) (M2 : Nat) (as2 : List Value) (h : zHp) : Prop := ∃ v h1 h2, zRun sc d M1 as1 zGL h = some (some (.int v), zGL, h1) ∧ zRun sc d M2 as2 zGL h1 = some (some (.int v), zGL, h2) ∧ SI h2
theorem okS_q {sc : zSc} {d M1 : Nat} {as1 : List Value} {M2 : Nat} {as2 : List Value} {h : zHp} {v : Int32} (s : SI h) (hx : zRun sc d M1 as1 zGL h = some (some (.int v), zGL, h)) (hy : zRun sc d M2 as2 zGL h = some (some (.int v), zGL, h)) : okS sc d M1 as1 M2 as2 h := ⟨v, h, h, hx, hy, s⟩
theorem tw_3 {t : Nat} (ht : zTw t = true) : 3 ≤ t := by
  unfold zTw at ht
  simp at ht
  omega
theorem GX_f {lo hi : Nat} {h h' : zHp} (f : zFr lo hi h h') (c : (15 ≤ lo ∧ hi ≤ 21) ∨ (25 ≤ lo ∧ hi ≤ 26) ∨ 46 ≤ lo) {t t' : Nat} {T : TT} {K : KK} {X : XX} {B : BB} {I : II} {fl : Int32} (ht : zTw t = true) (G : GX h t t' T K X B I fl) : GX h' t t' T K X B I fl := by
  have h15 := tw_15 ht
  obtain ⟨⟨g1, g2, g3, g4⟩, g5, g6, g7, g8, g9, g10⟩ := G
  have f0 := f 0 (by omega)
  refine ⟨⟨by rw [f0.2.2]; exact g1, by rw [f0.2.2]; exact g2, by rw [(f 32 (by omega)).2.2]; exact g3, by rw [(f 32 (by omega)).2.2]; exact g4⟩, TnS_fr f (by omega) g5, TkD_fr f (by omega) g6, ?_, ?_, fun i hi => ⟨?_, fun hk => TkD_fr f (by omega) ((g9 i hi).2 hk)⟩, by rw [f0.1]; exact g10⟩
  · unfold TxD at g7 ⊢
    rw [(f 1 (by omega)).1, (f 2 (by omega)).1]; exact g7
  · unfold BkD at g8 ⊢
    rw [(f 21 (by omega)).1, (f 22 (by omega)).1, (f 23 (by omega)).1, (f 24 (by omega)).1]; exact g8
  · rw [(f 45 (by omega)).1]; exact (g9 i hi).1
theorem GX_K {h h' : zHp} (f : zFr 26 32 h h') {t t' : Nat} {T : TT} {K K' : KK} {X : XX} {B : BB} {I : II} {fl : Int32} (ht : zTw t = true) (R : TkD h' 26 T K') (G : GX h t t' T K X B I fl) : GX h' t t' T K' X B I fl := by
  have h15 := tw_15 ht
  obtain ⟨⟨g1, g2, g3, g4⟩, g5, g6, g7, g8, g9, g10⟩ := G
  have f0 := f 0 (by omega)
  refine ⟨⟨by rw [f0.2.2]; exact g1, by rw [f0.2.2]; exact g2, by rw [(f 32 (by omega)).2.2]; exact g3, by rw [(f 32 (by omega)).2.2]; exact g4⟩, TnS_fr f (by omega) g5, R, ?_, ?_, fun i hi => ⟨?_, fun hk => TkD_fr f (by omega) ((g9 i hi).2 hk)⟩, by rw [f0.1]; exact g10⟩
  · unfold TxD at g7 ⊢
    rw [(f 1 (by omega)).1, (f 2 (by omega)).1]; exact g7
  · unfold BkD at g8 ⊢
    rw [(f 21 (by omega)).1, (f 22 (by omega)).1, (f 23 (by omega)).1, (f 24 (by omega)).1]; exact g8
  · rw [(f 45 (by omega)).1]; exact (g9 i hi).1
theorem MoI_e {h h' : zHp} {i : Nat} {T : TT} {K : KK} (e1 : h'.1 70 = h.1 70) (e2 : h'.2.1 71 = h.2.1 71) (M : MoI h i T K) : MoI h' i T K := by
  unfold MoI at M ⊢
  rw [e1, e2]
  exact M
theorem GM_f {lo hi : Nat} {h h' : zHp} (f : zFr lo hi h h') (c : hi ≤ 46) {T : TT} {K : KK} {X : XX} {B : BB} {I : II} {fl : Int32} (G : GM h T K X B I fl) : GM h' T K X B I fl := by
  obtain ⟨g1, g2, g3, g4, g5, g6, g7⟩ := G
  refine ⟨MoT_fr f c g1, MoC_fr f c g2, MoK_fr f c g3, ?_, ?_, fun i hi => ⟨?_, fun hk => MoI_e (f 70 (by omega)).1 (f 71 (by omega)).2.1 ((g6 i hi).2 hk)⟩, by rw [(f 46 (by omega)).1]; exact g7⟩
  · unfold MoX at g4 ⊢
    rw [(f 46 (by omega)).1, (f 56 (by omega)).1]; exact g4
  · unfold MoB at g5 ⊢
    rw [(f 46 (by omega)).1, (f 66 (by omega)).1, (f 67 (by omega)).1, (f 68 (by omega)).1]; exact g5
  · rw [(f 72 (by omega)).1]; exact (g6 i hi).1
theorem GM_K {h h' : zHp} (f : kFr h h') {T : TT} {K K' : KK} {X : XX} {B : BB} {I : II} {fl : Int32} (R : MoK h' T K') (G : GM h T K X B I fl) : GM h' T K' X B I fl := by
  obtain ⟨g1, g2, g3, g4, g5, g6, g7⟩ := G
  refine ⟨MoT_k f g1, MoC_k f g2, R, MoX_m f (by decide) (by decide) g4, ?_, fun i hi => ⟨?_, fun hk => MoI_e (f.1 70 (by decide) (by decide)).1 (f.1 71 (by decide) (by decide)).2 ((g6 i hi).2 hk)⟩, by rw [(f.2.1 17 (by decide)).1]; exact g7⟩
  · unfold MoB at g5 ⊢
    rw [(f.2.1 35 (by decide)).1, (f.1 66 (by decide) (by decide)).1, (f.1 67 (by decide) (by decide)).1, (f.1 68 (by decide) (by decide)).1]; exact g5
  · rw [(f.1 72 (by decide) (by decide)).1]; exact (g6 i hi).1
theorem GM_m {a b : List Nat} {h h' : zHp} (f : mFr a b h h') (ha : ∀ x, x ∈ [47, 48, 50, 51, 52, 53, 54, 55, 56, 66, 67, 68, 70, 71, 72] → x ∉ a) (hb : ∀ k, k ∈ [0, 3, 5, 7, 12, 14, 16, 17, 35] → k ∉ b) {T : TT} {K : KK} {X : XX} {B : BB} {I : II} {fl : Int32} (G : GM h T K X B I fl) : GM h' T K X B I fl := by
  obtain ⟨g1, g2, g3, g4, g5, g6, g7⟩ := G
  have r : ∀ x, x ∈ [47, 48, 50, 51, 52, 53, 54, 55, 56, 66, 67, 68, 70, 71, 72] → x ≠ 46 → h'.1 x = h.1 x ∧ h'.2.1 x = h.2.1 x := fun x h1 h2 => f.1 x h2 (ha x h1)
  have q : ∀ k, k ∈ [0, 3, 5, 7, 12, 14, 16, 17, 35] → h'.1 46 k = h.1 46 k ∧ h'.2.1 46 k = h.2.1 46 k := fun k h1 => f.2.1 k (hb k h1)
  refine ⟨MoT_m f ⟨ha 47 (by decide), ha 48 (by decide)⟩ ⟨hb 0 (by decide), hb 3 (by decide), hb 5 (by decide)⟩ g1, MoC_m f (ha 50 (by decide)) (hb 7 (by decide)) g2, ?_, MoX_m f (ha 56 (by decide)) (hb 16 (by decide)) g4, ?_, fun i hi => ⟨?_, fun hk => MoI_e (r 70 (by decide) (by decide)).1 (r 71 (by decide) (by decide)).2 ((g6 i hi).2 hk)⟩, by rw [(q 17 (by decide)).1]; exact g7⟩
  · unfold MoK at g3 ⊢
    rw [(r 51 (by decide) (by decide)).1, (r 52 (by decide) (by decide)).1, (r 54 (by decide) (by decide)).1, (r 53 (by decide) (by decide)).2, (r 55 (by decide) (by decide)).1, (q 12 (by decide)).1, (q 14 (by decide)).1]; exact g3
  · unfold MoB at g5 ⊢
    rw [(q 35 (by decide)).1, (r 66 (by decide) (by decide)).1, (r 67 (by decide) (by decide)).1, (r 68 (by decide) (by decide)).1]; exact g5
  · rw [(r 72 (by decide) (by decide)).1]; exact (g6 i hi).1
theorem GX_m {a b : List Nat} {h h' : zHp} (f : mFr a b h h') (ha : ∀ x, x ∈ a → 46 ≤ x ∧ x < 73) {t t' : Nat} {T : TT} {K : KK} {X : XX} {B : BB} {I : II} {fl : Int32} (ht : zTw t = true) (G : GX h t t' T K X B I fl) : GX h' t t' T K X B I fl := GX_f (mFr_z f ha) (.inr (.inr (by decide))) ht G
theorem GX_k {h h' : zHp} (f : kFr h h') {t t' : Nat} {T : TT} {K : KK} {X : XX} {B : BB} {I : II} {fl : Int32} (ht : zTw t = true) (G : GX h t t' T K X B I fl) : GX h' t t' T K X B I fl := GX_m f (by decide) ht G
/-! the class's questions -/
theorem i_is (v : Int32) {n : Nat} (h : zHp) : (if v < 0 then some (some (Value.int 0), zGL, h) else (if v < nI n then some (some (Value.int 1), zGL, h) else some (some (Value.int 0), zGL, h))) = some (some (.int (bI (isI v n))), zGL, h) := by
  unfold isI
  by_cases h1 : v < 0
  · rw [if_pos h1]; simp [h1, bI]
  · rw [if_neg h1]
    by_cases h2 : v < nI n
    · rw [if_pos h2]; simp [h1, h2, bI]
    · rw [if_neg h2]; simp [h2, bI]
theorem X_isFact (sc : zSc) (d : Nat) (h : zHp) {t : Nat} {T : TT} (ht : zTw t = true) (h8 : h.2.2 0 8 = some t) (D : TnD h t T) (v : Int32) : zRun sc d 52 [.ref 0, .int v] zGL h = some (some (.int (bI (isI v T.F))), zGL, h) := by
  rw [E_X_isFact, zOT_k h8 ht, D.1, i_is]
theorem X_isPerson (sc : zSc) (d : Nat) (h : zHp) {t : Nat} {T : TT} (ht : zTw t = true) (h8 : h.2.2 0 8 = some t) (D : TnD h t T) (v : Int32) : zRun sc d 55 [.ref 0, .int v] zGL h = some (some (.int (bI (isI v T.P))), zGL, h) := by
  rw [E_X_isPerson, zOT_k h8 ht, D.2.1, i_is]
theorem X_isSet (sc : zSc) (d : Nat) (h : zHp) {t : Nat} {T : TT} (ht : zTw t = true) (h8 : h.2.2 0 8 = some t) (O : TOK T) (D : TnD h t T) (v : Int32) : zRun sc d 59 [.ref 0, .int v] zGL h = some (some (.int (bI (isI v (2 ^ T.F)))), zGL, h) := by
  rw [E_X_isFactSet, zOT_k h8 ht, D.1, sh_F O.1, i_is]
theorem X_areTwo (sc : zSc) (d : Nat) (h : zHp) {t : Nat} {T : TT} (ht : zTw t = true) (h8 : h.2.2 0 8 = some t) (D : TnD h t T) (v w : Int32) : zRun sc (d + 1) 61 [.ref 0, .int v, .int w] zGL h = some (some (.int (bI (twoB T v w))), zGL, h) := by
  rw [E_X_areTwo, X_isPerson sc d h ht h8 D, zBi_some, X_isPerson sc d h ht h8 D, zBi_some]
  unfold twoB
  cases isI v T.P with
  | false => rfl
  | true =>
    cases isI w T.P with
    | false => rfl
    | true =>
      rw [if_neg (show ¬ bI true = 0 by decide), if_neg (show ¬ bI true = 0 by decide)]
      by_cases he : v = w
      · rw [if_pos he]; simp [he, bI]
      · rw [if_neg he]; simp [he, bI]
theorem X_everybody (sc : zSc) (d : Nat) (h : zHp) {t : Nat} {T : TT} (ht : zTw t = true) (h8 : h.2.2 0 8 = some t) (O : TOK T) (D : TnD h t T) : zRun sc d 76 [.ref 0] zGL h = some (some (.int (nI (2 ^ T.P - 1))), zGL, h) := by
  have hP5 := O.2.1
  have hp := Nat.two_pow_pos T.P
  rw [E_X_everybody, zOT_k h8 ht, D.2.1, nI_shl1 (by omega), show (1 : Int32) = nI 1 from rfl, nI_sub (by omega)]
theorem p2_32 {P : Nat} (hP : P ≤ 5) : 2 ^ P ≤ 32 := Nat.pow_le_pow_right (n := 2) (by decide) hP
theorem X_isPSet (sc : zSc) (d : Nat) (h : zHp) {t : Nat} {T : TT} (ht : zTw t = true) (h8 : h.2.2 0 8 = some t) (O : TOK T) (D : TnD h t T) (v : Int32) : zRun sc (d + 1) 75 [.ref 0, .int v] zGL h = some (some (.int (bI (isI v (2 ^ T.P)))), zGL, h) := by
  have hp32 := p2_32 O.2.1
  have hp := Nat.two_pow_pos T.P
  rw [E_X_isPersonSet, X_everybody sc d h ht h8 O D, zBi_some]
  unfold isI
  by_cases h1 : v < 0
  · rw [if_pos h1]; simp [h1, bI]
  · rw [if_neg h1]
    obtain ⟨j, hj, rfl⟩ := nI_of h1
    by_cases h2 : j < 2 ^ T.P
    · rw [if_neg (nI_nlt (by omega) (by omega)), decide_eq_true ⟨h1, nI_lt h2 (by omega)⟩]; rfl
    · rw [if_pos (nI_lt (by omega) hj), decide_eq_false (fun z => nI_nlt (by omega) hj z.2)]; rfl
theorem b0 {α : Type} {x y : α} : (if bI false = 0 then x else y) = x := if_pos rfl
theorem b1 {α : Type} {x y : α} : (if bI true = 0 then x else y) = y := if_neg (by decide)
