/-! ===== closed sets; the tables of a town ===== -/
theorem clN_mono {fo : Nat → Nat} {s i k : Nat} (h : (clN fo s k).testBit i = true) : (clN fo s (k + 1)).testBit i = true := by
  rw [clN]
  split
  · rw [Nat.testBit_or, h]; rfl
  · exact h
theorem clN_sup {fo : Nat → Nat} {s i k n : Nat} (hk : k ≤ n) (h : (clN fo s k).testBit i = true) : (clN fo s n).testBit i = true := by
  induction n with
  | zero => rw [show k = 0 by omega] at h; exact h
  | succ n ih =>
    by_cases hn : k = n + 1
    · rw [← hn]; exact h
    · exact clN_mono (ih (by omega))
theorem clN_low {fo : Nat → Nat} {s i k n : Nat} (hi : i < k) (hk : k ≤ n) : (clN fo s n).testBit i = (clN fo s k).testBit i := by
  induction n with
  | zero => rw [show k = 0 by omega]
  | succ n ih =>
    by_cases hn : k = n + 1
    · rw [← hn]
    · rw [← ih (by omega), clN]
      split
      · rw [Nat.testBit_or, Nat.testBit_two_pow_of_ne (by omega), Bool.or_false]
      · rfl
def clK (fo : Nat → Nat) (s : Nat) : Nat → Bool
  | 0 => true
  | k + 1 => clK fo s k && !(ndB (fo k) s && !s.testBit k)
theorem clK_iff {fo : Nat → Nat} {s : Nat} : ∀ {k : Nat}, clK fo s k = true ↔ ∀ f, f < k → ndB (fo f) s = true → s.testBit f = true
  | 0 => by simp [clK]
  | k + 1 => by
    unfold clK
    rw [Bool.and_eq_true, clK_iff]
    constructor
    · rintro ⟨h1, h2⟩ f hf ha
      by_cases hk : f = k
      · subst hk
        simpa [ha] using h2
      · exact h1 f (by omega) ha
    · intro h
      refine ⟨fun f hf => h f (by omega), ?_⟩
      have := h k (Nat.lt_succ_self k)
      cases ha : ndB (fo k) s with
      | false => rfl
      | true => simp [this ha]
theorem clK_cl {fo : Nat → Nat} {s : Nat} : ∀ {k : Nat}, (∀ f, f < k → fo f < 64) → clK fo s k = true → clN fo s k = s
  | 0, _, _ => rfl
  | k + 1, hf, h => by
    have h' := clK_iff.mp h
    have ih := clK_cl (k := k) (fun f h => hf f (by omega)) (clK_iff.mpr fun f h => h' f (by omega))
    rw [clN_step (hf k (by omega)), ih]
    split
    · rename_i hn
      exact or_bit (h' k (by omega) hn)
    · rfl
theorem cl_clK {fo : Nat → Nat} {s F : Nat} (hf : ∀ f, f < F → fo f < 64) (h : clN fo s F = s) : clK fo s F = true := by
  have hk : ∀ k, k ≤ F → clN fo s k = s := by
    intro k hk
    apply Nat.eq_of_testBit_eq
    intro i
    apply bool_ext
    constructor
    · intro h1
      have := clN_sup hk h1
      rwa [h] at this
    · intro h1
      exact clN_sup (k := 0) (Nat.zero_le k) h1
  apply clK_iff.mpr
  intro f hF hn
  have h1 := hk (f + 1) hF
  rw [clN_step (hf f hF), hk f (by omega), hn, if_pos rfl] at h1
  rw [← h1]
  exact or_get s f
theorem clK_eq {fo : Nat → Nat} {s F : Nat} (hf : ∀ f, f < F → fo f < 64) : clK fo s F = (clN fo s F == s) := by
  apply bool_ext
  rw [beq_iff_eq]
  exact ⟨clK_cl hf, cl_clK hf⟩
theorem lt_64 {a k : Nat} (h : a < 2 ^ k) (hk : k ≤ 6) : a < 64 := Nat.lt_of_lt_of_le h (p2_le hk)
theorem clN_idem {fo : Nat → Nat} {s F : Nat} (hF : F ≤ 6) (hf : ∀ f, f < F → fo f < 2 ^ f) : clN fo (clN fo s F) F = clN fo s F := by
  have h64 : ∀ f, f < F → fo f < 64 := fun f h => lt_64 (hf f h) (by omega)
  apply clK_cl h64
  apply clK_iff.mpr
  intro f h hn
  have hn2 : ndB (fo f) (clN fo s f) = true := by
    unfold ndB at hn ⊢
    rw [Bool.and_eq_true] at hn ⊢
    refine ⟨hn.1, ?_⟩
    have h3 := subN_iff.mp hn.2
    apply subN_iff.mpr
    intro i hi hb
    rw [← clN_low (bit_lt (hf f h) hb) (show f ≤ F by omega)]
    exact h3 i hi hb
  have h2 : (clN fo s (f + 1)).testBit f = true := by
    rw [clN_step (h64 f h), hn2, if_pos rfl]
    exact or_get _ f
  exact clN_sup (by omega) h2
def clB (T : TT) (s : Nat) : Bool := decide (s < 2 ^ T.F) && clN T.fo s T.F == s
def weB (T : TT) (v : Nat) (s : Nat) : Bool := clB T s && wtN T.w s T.F % T.C == v
def TnS (h : zHp) (t : Nat) (T : TT) : Prop := TnD h t T ∧ (∀ f, f < T.F → h.2.1 (t + 4) f = jF (ndB (T.fo f))) ∧ (∀ v, v < 99 → h.2.1 (t + 5) v = jF (weB T v)) ∧ h.2.1 t 8 = jF (clB T)
theorem Tn_learned (sc : zSc) (d : Nat) (g : zSg) (h : zHp) {t : Nat} {T : TT} (q : zS6 g t) (O : TOK T) (S : TnS h t T) (A : Nat → Bool) {f : Nat} (hf : f < 6) : zRun sc (d + 2) 80 [.ref t, .long (jF A), .int (nI f)] g h = some (some (.long (jF (imgN T.fo A f T.F))), g, h) := by
  obtain ⟨hF6, hP5, hC2, hC9, hfo, htk⟩ := O
  obtain ⟨⟨hF, hP, hC, hw, hk⟩, hn, hwe, hcl⟩ := S
  rw [E_Tn_learned sc (d + 1) g h t q, Fa_put sc d g h A hf, zBj_some, jF_ext (B := imgN T.fo A f 0) (fun u hu => img_0 hf hu)]
  refine (zUp (fun k => zE sc (d + 2) 80 10 [some (.ref t), none, none, none, some (.long (jF (imgN T.fo A f k))), none, some (.int (nI k)), none, none] [] g h) T.F (fun k hk => ?_)).trans ?_
  · have hfl := (hfo k hk).2
    rw [E_Tn_learned_10 sc (d + 1) g h t q, hF, if_pos (nI_lt hk (by omega)), if_pos (zin_nI (by omega) (by decide)), nI_clamp (by omega), hn k hk, jF_and, Fa_lacking sc (d + 1) g h _ (show k < 6 by omega), zBj_some, Fa_put sc d g h _ (show k < 6 by omega), zBj_some, jF_not, jF_and, jF_or, nI_1]
    rw [jF_ext (A := imgN T.fo A f (k + 1)) (fun u hu => img_step hf (show k < 6 by omega) (lt_64 hfl (by omega)) hu)]
  · rw [E_Tn_learned_10 sc (d + 1) g h t q, hF, if_neg (nI_nlt (Nat.le_refl _) (by omega))]
theorem Tn_heard (sc : zSc) (d : Nat) (g : zSg) (h : zHp) {t : Nat} {T : TT} (q : zS6 g t) (O : TOK T) (S : TnS h t T) (A : Nat → Bool) {f : Nat} (hf : f < 6) (b : Bool) : zRun sc (d + 3) 79 [.ref t, .long (jF A), .int (nI f), .int (if b then 1 else 0)] g h = some (some (.long (jF (imgN T.fo (fun s => A s && s.testBit f == b) f T.F))), g, h) := by
  rw [E_Tn_heard sc (d + 2) g h t q]
  cases b with
  | false =>
    rw [z01f, Fa_lacking sc (d + 2) g h A hf, zBj_some, Tn_learned sc d g h q O S _ hf, zBj_some]
    rw [show (fun s => A s && s.testBit f == false) = (fun s => A s && !s.testBit f) from funext fun s => by cases s.testBit f <;> rfl]
  | true =>
    rw [z01t, Fa_having sc (d + 2) g h A hf, zBj_some, Tn_learned sc d g h q O S _ hf, zBj_some]
    rw [show (fun s => A s && s.testBit f == true) = (fun s => A s && s.testBit f) from funext fun s => by cases s.testBit f <;> rfl]
theorem Tn_wearers (sc : zSc) (d : Nat) (g : zSg) (h : zHp) {t : Nat} {T : TT} (q : zS6 g t) (S : TnS h t T) {v : Nat} (hv : v < 99) : zRun sc d 19 [.ref t, .int (nI v)] g h = some (some (.long (jF (weB T v))), g, h) := by
  rw [E_Tn_wearers sc d g h t q, if_neg (nI_pos (by omega)), if_pos (iL (m := 99) (n := 99) rfl hv (by decide)), if_pos (zin_nI hv (by decide)), nI_clamp (by omega), S.2.2.1 v hv]
def folB (T : TT) (f : Nat) : Bool := decide (T.fo f ≠ 0)
theorem Tn_followers (sc : zSc) (d : Nat) (g : zSg) (h : zHp) {t : Nat} {T : TT} (q : zS6 g t) (O : TOK T) (D : TnD h t T) : zRun sc d 93 [.ref t] g h = some (some (.int (nI (jN (folB T) T.F))), g, h) := by
  obtain ⟨hF6, hP5, hC2, hC9, hfo, htk⟩ := O
  obtain ⟨hF, hP, hC, hw, hk⟩ := D
  rw [E_Tn_followers sc d g h t q]
  refine (zUp (fun k => zE sc d 93 4 [some (.ref t), some (.int (nI (jN (folB T) k))), some (.int (nI k))] [] g h) T.F (fun k hk => ?_)).trans ?_
  · have hfl := (hfo k hk).2
    have h26 := p2_64 (show k < 6 by omega)
    rw [E_Tn_followers_4 sc d g h t q, hF, if_pos (nI_lt hk (by omega)), if_pos (zin_nI (by omega) (by decide)), nI_clamp (by omega), (hw k hk).2]
    by_cases h0 : T.fo k = 0
    · rw [if_pos (by rw [h0]; rfl), nI_1, ← jN_succ_f (show folB T k = false by simp [folB, h0])]
    · rw [if_neg (nI_ne0 (by omega) (by omega)), nI_shl1 (by omega), nI_or, nI_1, jN_succ_t (show folB T k = true by simp [folB, h0])]
  · rw [E_Tn_followers_4 sc d g h t q, hF, if_neg (nI_nlt (Nat.le_refl _) (by omega))]
theorem exEq {α : Type} {Q : zHp → Prop} {a b : α} {c : zHp → α} (e : a = b) (h : ∃ h', b = c h' ∧ Q h') : ∃ h', a = c h' ∧ Q h' := by rw [e]; exact h
/-! frames -/
def zFr (lo hi : Nat) (h h' : zHp) : Prop := ∀ x, x < lo ∨ hi ≤ x → h'.1 x = h.1 x ∧ h'.2.1 x = h.2.1 x ∧ h'.2.2 x = h.2.2 x
theorem zFr_r (lo hi : Nat) (h : zHp) : zFr lo hi h h := fun _ _ => ⟨rfl, rfl, rfl⟩
theorem zFr_t {lo hi : Nat} {a b c : zHp} (h1 : zFr lo hi a b) (h2 : zFr lo hi b c) : zFr lo hi a c := fun x hx => ⟨(h2 x hx).1.trans (h1 x hx).1, (h2 x hx).2.1.trans (h1 x hx).2.1, (h2 x hx).2.2.trans (h1 x hx).2.2⟩
theorem zFr_w {lo hi lo' hi' : Nat} {a b : zHp} (h1 : zFr lo hi a b) (hl : lo' ≤ lo) (hh : hi ≤ hi') : zFr lo' hi' a b := fun x hx => h1 x (by omega)
theorem zFr_I {lo hi : Nat} {h : zHp} {a k : Nat} {v : Int32} (hl : lo ≤ a) (hh : a < hi) : zFr lo hi h (zPI h a k v) := fun x hx => ⟨funext fun y => if_neg (fun z => by omega), rfl, rfl⟩
theorem zFr_L {lo hi : Nat} {h : zHp} {a k : Nat} {v : Int64} (hl : lo ≤ a) (hh : a < hi) : zFr lo hi h (zPL h a k v) := fun x hx => ⟨rfl, funext fun y => if_neg (fun z => by omega), rfl⟩
theorem zFr_R {lo hi : Nat} {h : zHp} {a k v : Nat} (hl : lo ≤ a) (hh : a < hi) : zFr lo hi h (zPR h a k v) := fun x hx => ⟨rfl, rfl, funext fun y => if_neg (fun z => by omega)⟩
theorem zPI_1 {h : zHp} {a k x y : Nat} {v : Int32} : (zPI h a k v).1 x y = if x = a ∧ y = k then v else h.1 x y := rfl
theorem zPI_2 {h : zHp} {a k : Nat} {v : Int32} : (zPI h a k v).2 = h.2 := rfl
theorem zPL_1 {h : zHp} {a k : Nat} {v : Int64} : (zPL h a k v).1 = h.1 := rfl
theorem zPL_2 {h : zHp} {a k x y : Nat} {v : Int64} : (zPL h a k v).2.1 x y = if x = a ∧ y = k then v else h.2.1 x y := rfl
theorem zPL_3 {h : zHp} {a k : Nat} {v : Int64} : (zPL h a k v).2.2 = h.2.2 := rfl
theorem st_amt : ∀ F, F ≤ 6 → (64 : Int32) - nI (2 ^ F) = nI (64 - 2 ^ F) := by decide +kernel
theorem TnD_h {h h' : zHp} {t : Nat} {T : TT} (e : h'.1 = h.1) (D : TnD h t T) : TnD h' t T := by
  unfold TnD
  rw [e]
  exact D
theorem Tn_settle (sc : zSc) (d : Nat) (g : zSg) (h : zHp) {t : Nat} {T : TT} (q : zS6 g t) (O : TOK T) (D : TnD h t T) : ∃ h', zRun sc (d + 4) 9 [.ref t] g h = some (none, g, h') ∧ TnS h' t T ∧ h'.1 = h.1 ∧ zFr t (t + 6) h h' := by
  have O0 := O
  obtain ⟨hF6, hP5, hC2, hC9, hfo, htk⟩ := O
  have hpF := p2_le hF6
  have hp1 : 0 < 2 ^ T.F := Nat.two_pow_pos T.F
  rw [E_Tn_settle sc (d + 3) g h t q, D.1, nI_shl1 (by omega), st_amt _ hF6, jF_m1, jF_shr _ (by omega)]
  obtain ⟨h1, e1, i1⟩ := zUpH (e := fun k h => zE sc (d + 4) 9 21 [some (.ref t), some (.int (nI (2 ^ T.F))), some (.int (nI k))] [] g h) (inv := fun k h1 => h1.1 = h.1 ∧ zFr t (t + 6) h h1 ∧ h1.2.1 t 8 = jF (fun s => decide (s < 2 ^ T.F) && clK T.fo s k) ∧ ∀ f, f < k → h1.2.1 (t + 4) f = jF (ndB (T.fo f))) T.F (fun k h1 hk i => by
      obtain ⟨i1, i2, i3, i4⟩ := i
      have D1 := TnD_h i1 D
      have hfl := lt_64 (hfo k hk).2 (by omega)
      have hkey : zE sc (d + 4) 9 21 [some (.ref t), some (.int (nI (2 ^ T.F))), some (.int (nI k))] [] g h1 = zE sc (d + 4) 9 59 [some (.ref t), some (.int (nI (2 ^ T.F))), some (.int (nI k))] [.long (jF (ndB (T.fo k))), .int (nI k), .ref (t + 4)] g h1 := by
        rw [E_Tn_settle_21 sc (d + 3) g h1 t q, D1.1, if_pos (nI_lt hk (by omega)), if_pos (zin_nI (by omega) (by decide)), nI_clamp (by omega), (D1.2.2.2.1 k hk).2]
        by_cases h0 : T.fo k = 0
        · rw [if_pos (by rw [h0]; rfl), jF_0, jF_ext (A := ndB (T.fo k)) (B := fun _ => false) (fun s hs => by simp [ndB, h0])]
        · rw [if_neg (nI_ne0 (by omega) (by omega)), if_pos (zin_nI (by omega) (by decide)), jF_m1, Fa_havingAll sc (d + 2) g h1 _ hfl, zBj_some, jF_ext (A := ndB (T.fo k)) (B := fun s => true && subN (T.fo k) s 6) (fun s hs => by simp [ndB, h0])]
      refine ⟨zPL (zPL h1 (t + 4) k (jF (ndB (T.fo k)))) t 8 (jF (fun s => decide (s < 2 ^ T.F) && clK T.fo s (k + 1))), ?_, ?_⟩
      · rw [hkey, E_Tn_settle_59 sc (d + 3) g h1 t q, if_pos (zin_nI (by omega) (by decide)), if_pos (zin_nI (by omega) (by decide)), nI_clamp (by omega), zPL_2, if_pos ⟨rfl, rfl⟩, Fa_lacking sc (d + 3) g _ _ (show k < 6 by omega), zBj_some, zPL_2, if_neg (by omega), i3, jF_not, jF_and, nI_1]
        rw [jF_ext (A := fun s => decide (s < 2 ^ T.F) && clK T.fo s (k + 1)) (fun s _ => by rw [clK, ← Bool.and_assoc])]
      · refine ⟨i1, zFr_t i2 (zFr_t (zFr_L (by omega) (by omega)) (zFr_L (by omega) (by omega))), by rw [zPL_2, if_pos ⟨rfl, rfl⟩], ?_⟩
        intro f hf
        rw [zPL_2, if_neg (by omega), zPL_2]
        by_cases hfk : f = k
        · rw [if_pos ⟨rfl, hfk⟩, hfk]
        · rw [if_neg (by omega), i4 f (by omega)]) (zPL h t 8 (jF (fun s => true && decide (s + (64 - 2 ^ T.F) < 64)))) ⟨rfl, zFr_L (by omega) (by omega), by
        rw [zPL_2, if_pos ⟨rfl, rfl⟩]
        apply jF_ext
        intro s _
        unfold clK
        by_cases hs : s < 2 ^ T.F
        · simp [hs]; omega
        · simp [hs]; omega, by intro f hf; omega⟩
  obtain ⟨i1, i2, i3, i4⟩ := i1
  have D1 := TnD_h i1 D
  refine exEq e1 ?_
  rw [E_Tn_settle_21 sc (d + 3) g h1 t q, D1.1, if_neg (nI_nlt (Nat.le_refl _) (by omega))]
  obtain ⟨h2, e2, j1, j2, j3, j4, j5⟩ := zUpH (e := fun k h => zE sc (d + 4) 9 91 [some (.ref t), some (.int (nI (2 ^ T.F))), some (.int (nI k))] [] g h) (inv := fun k h2 => h2.1 = h.1 ∧ zFr t (t + 6) h h2 ∧ h2.2.1 t = h1.2.1 t ∧ h2.2.1 (t + 4) = h1.2.1 (t + 4) ∧ ∀ v, v < k → h2.2.1 (t + 5) v = 0) 99 (fun k h2 hk i => by
      obtain ⟨j1, j2, j3, j4, j5⟩ := i
      refine ⟨zPL h2 (t + 5) k 0, ?_, j1, zFr_t j2 (zFr_L (by omega) (by omega)), ?_, ?_, ?_⟩
      · rw [E_Tn_settle_91 sc (d + 3) g h2 t q, if_pos (iL (m := 99) (n := 99) rfl hk (by decide)), if_pos (zin_nI hk (by decide)), nI_clamp (by omega), nI_1]
      · funext y; rw [zPL_2, if_neg (by omega), j3]
      · funext y; rw [zPL_2, if_neg (by omega), j4]
      · intro v hv
        rw [zPL_2]
        by_cases hvk : v = k
        · rw [if_pos ⟨rfl, hvk⟩]
        · rw [if_neg (by omega), j5 v (by omega)]) h1 ⟨i1, i2, rfl, rfl, fun v hv => by omega⟩
  refine exEq e2 ?_
  rw [E_Tn_settle_91 sc (d + 3) g h2 t q, if_neg (iG (m := 99) (n := 99) rfl (Nat.le_refl _) (by decide))]
  have hcl : h2.2.1 t 8 = jF (clB T) := by
    rw [j3, i3]
    apply jF_ext
    intro s _
    unfold clB
    rw [clK_eq (fun f hf => lt_64 (hfo f hf).2 (by omega))]
  obtain ⟨h3, e3, k1, k2, k3, k4, k5⟩ := zUpH (e := fun k h => zE sc (d + 4) 9 112 [some (.ref t), some (.int (nI (2 ^ T.F))), some (.int (nI k))] [] g h) (inv := fun k h3 => h3.1 = h.1 ∧ zFr t (t + 6) h h3 ∧ h3.2.1 t = h2.2.1 t ∧ h3.2.1 (t + 4) = h2.2.1 (t + 4) ∧ ∀ v, v < 99 → h3.2.1 (t + 5) v = jF (fun s => decide (s < k) && weB T v s)) (2 ^ T.F) (fun k h3 hk i => by
      obtain ⟨k1, k2, k3, k4, k5⟩ := i
      have D3 := TnD_h k1 D
      have hsame : clB T k = false → zE sc (d + 4) 9 112 [some (.ref t), some (.int (nI (2 ^ T.F))), some (.int (nI k))] [] g h3 = zE sc (d + 4) 9 112 [some (.ref t), some (.int (nI (2 ^ T.F))), some (.int (nI (k + 1)))] [] g h3 := by
        intro hb
        rw [E_Tn_settle_112 sc (d + 3) g h3 t q, if_pos (nI_lt hk (by omega)), k3, hcl, Fa_holds sc (d + 3) g h3 _ (by omega), zBi_some, hb, z01f, nI_1]
      cases hb : clB T k with
      | false =>
        refine ⟨h3, hsame hb, k1, k2, k3, k4, ?_⟩
        intro v hv
        rw [k5 v hv]
        apply jF_ext
        intro s _
        by_cases hs : s = k
        · subst hs; simp [weB, hb]
        · rw [show decide (s < k + 1) = decide (s < k) by apply decide_eq_decide.mpr; omega]
      | true =>
        have hlt : wtN T.w k T.F % T.C < 99 := Nat.lt_of_lt_of_le (Nat.mod_lt _ (by omega)) hC9
        refine ⟨zPL h3 (t + 5) (wtN T.w k T.F % T.C) (jF (fun s => (decide (s < k) && weB T (wtN T.w k T.F % T.C) s) || s == k)), ?_, ?_⟩
        · rw [E_Tn_settle_112 sc (d + 3) g h3 t q, if_pos (nI_lt hk (by omega)), k3, hcl, Fa_holds sc (d + 3) g h3 _ (by omega), zBi_some, hb, z01t, Tn_hatOf sc (d + 1) g h3 q O0 D3 (by omega), zBi_some, if_pos (zin_nI hlt (by decide)), if_pos (zin_nI hlt (by decide)), nI_clamp (by omega), k5 _ hlt, jF_bit1 (by omega), jF_or, nI_1]
        · refine ⟨k1, zFr_t k2 (zFr_L (by omega) (by omega)), ?_, ?_, ?_⟩
          · funext y; rw [zPL_2, if_neg (by omega), k3]
          · funext y; rw [zPL_2, if_neg (by omega), k4]
          · intro v hv
            rw [zPL_2]
            by_cases hvk : v = wtN T.w k T.F % T.C
            · rw [if_pos ⟨rfl, hvk⟩]
              apply jF_ext
              intro s _
              by_cases hs : s = k
              · subst hs; simp [weB, hb, hvk]
              · rw [show decide (s < k + 1) = decide (s < k) by apply decide_eq_decide.mpr; omega, ← hvk]
                simp [hs]
            · rw [if_neg (by omega), k5 v hv]
              apply jF_ext
              intro s _
              by_cases hs : s = k
              · subst hs
                have : (wtN T.w s T.F % T.C == v) = false := by rw [beq_eq_false_iff_ne]; exact fun z => hvk z.symm
                simp [weB, this]
              · rw [show decide (s < k + 1) = decide (s < k) by apply decide_eq_decide.mpr; omega]) h2 ⟨j1, j2, rfl, rfl, by
        intro v hv
        rw [j5 v hv, jF_0]
        apply jF_ext
        intro s _
        simp⟩
  refine ⟨h3, ?_, ?_, k1, k2⟩
  · refine e3.trans ?_
    rw [E_Tn_settle_112 sc (d + 3) g h3 t q, if_neg (nI_nlt (Nat.le_refl _) (by omega))]
  · refine ⟨TnD_h k1 D, ?_, ?_, by rw [k3, hcl]⟩
    · intro f hf; rw [k4, j4, i4 f hf]
    · intro v hv
      rw [k5 v hv]
      apply jF_ext
      intro s _
      unfold weB clB
      by_cases hs : s < 2 ^ T.F
      · simp [hs]
      · simp [hs]
