/-! ===== plans: the class's answer ===== -/
theorem nI_nm1 {k : Nat} (hk : k < 2 ^ 31) : ¬ nI k = -1 := fun z => by
  have h1 := congrArg Int32.toInt z
  rw [nI_toInt hk] at h1
  have h2 : (-1 : Int32).toInt = -1 := rfl
  omega
theorem zPR_3 {h : zHp} {a k v x y : Nat} : (zPR h a k v).2.2 x y = if x = a ∧ y = k then some v else h.2.2 x y := rfl
theorem zPI_3 {h : zHp} {a k : Nat} {v : Int32} : (zPI h a k v).2.2 = h.2.2 := rfl
theorem fsR_some {α : Type} {w : Nat → Option α} {x : α} : ∀ {m o : Nat}, fsR w m o = some x → ∃ j, j < m ∧ w (o + j) = some x
  | 0, _, h => by cases h
  | m + 1, o, h => by
    unfold fsR at h
    cases hw : w o with
    | some y =>
      rw [hw] at h
      exact ⟨0, by omega, by rw [Nat.add_zero, hw]; exact h⟩
    | none =>
      rw [hw] at h
      obtain ⟨j, hj, hx⟩ := fsR_some h
      exact ⟨j + 1, by omega, by rw [show o + (j + 1) = o + 1 + j by omega]; exact hx⟩
theorem plS_some {T : TT} {G : Nat} {Q : PQ} {j n : Nat} {l : List Nat} (h : plS T G Q j = some (n, l)) : j = n ∧ srch T G n Q = some l := by
  unfold plS at h
  cases hs : srch T G j Q with
  | none => rw [hs] at h; cases h
  | some l' =>
    rw [hs] at h
    simp only [Option.map_some, Option.some.injEq, Prod.mk.injEq] at h
    obtain ⟨rfl, rfl⟩ := h
    exact ⟨rfl, hs⟩
def fndR (p q : Nat) (h : zHp) : Option (Nat × List Nat) → Prop
  | none => h.1 16 8 = -1
  | some (n, l) => h.1 16 8 = nI n ∧ ∀ i, i < n → h.1 17 i = nI (if l.getD i 0 < 6 then p else q) ∧ h.1 18 i = nI (l.getD i 0 % 6)
def PlB (h : zHp) (G : Nat) (T : TT) (p q t : Nat) : Prop := h.1 16 5 = nI G ∧ h.1 16 6 = nI (anN G (jN (folB T) T.F)) ∧ h.2.2 16 2 = some t ∧ h.1 16 3 = nI p ∧ h.1 16 4 = nI q ∧ TnS h t T
theorem Pl_find_l (sc : zSc) (c : Nat) {T : TT} {K : KK} (O : TOK T) (kk : KOK T K) {t a2 : Nat} (ht : zTw t = true) (q2 : zS4 zGL a2) (ha : 19 ≤ a2) {p q : Nat} (hp : p < T.P) (hq : q < T.P) (hn : p ≠ q) : ∀ m N h, N + m = 7 → PlB h (plG K p q) T p q t → h.1 16 8 = -1 → TkD h a2 T K → ∃ h', zE sc (c + 16) 92 57 [some (.ref 16), none, some (.ref a2), some (.int (nI p)), some (.int (nI q)), some (.int (nI N))] [] zGL h = some (none, zGL, h') ∧ zFr 16 19 h h' ∧ fndR p q h' (fsR (plS T (plG K p q) (plQ K p q)) m N) := by
  have hP5 := O.2.1
  have hG := plG_lt O kk hp hq
  have h15 := tw_15 ht
  intro m
  induction m with
  | zero =>
    intro N h hm B h8 R
    refine ⟨h, ?_, zFr_r _ _ h, h8⟩
    rw [E_Pl_find_57 sc _ h a2 q2, if_pos (iL' (m := 6) (n := 6) rfl (by omega) (by omega))]
  | succ m ih =>
    intro N h hm B h8 R
    have f1 : zFr 16 19 h (zPI h 16 7 (nI N)) := zFr_I (by omega) (by omega)
    have R1 := TkD_fr f1 (by omega) R
    have C1 : PlC (zPI h 16 7 (nI N)) N (plG K p q) T p q t := by
      refine ⟨by rw [zPI_1, if_pos ⟨rfl, rfl⟩], ?_, ?_, B.2.2.1, ?_, ?_, TnS_fr f1 (by omega) B.2.2.2.2.2⟩
      · rw [zPI_1, if_neg (by omega)]; exact B.1
      · rw [zPI_1, if_neg (by omega)]; exact B.2.1
      · rw [zPI_1, if_neg (by omega)]; exact B.2.2.2.1
      · rw [zPI_1, if_neg (by omega)]; exact B.2.2.2.2.1
    have h81 : (zPI h 16 7 (nI N)).1 16 8 = -1 := by rw [zPI_1, if_neg (by omega)]; exact h8
    have r := Pl_search sc (c + 12 - 2 * N) N (plG K p q) p q t O (by omega) hG ht (by omega) (by omega) N 0 (plQ K p q) (zPI h 16 7 (nI N)) (by omega) (plQ_ok kk hp hq hn) C1
    rw [show c + 12 - 2 * N + 2 * N + 3 = c + 15 by omega] at r
    simp only [plQ] at r
    rw [show nI 0 = (0 : Int32) from rfl] at r
    rw [E_Pl_find_57 sc _ h a2 q2, if_neg (iG' (m := 6) (n := 6) rfl (by omega) (by decide)), if_pos h8, if_pos (zin_nI (by omega) (by decide)), if_pos (zin_nI (by omega) (by decide)), Tk_view sc _ zGL _ q2 O R1 hp hq hn, zBj_some, Tk_view sc _ zGL _ q2 O R1 hq hp (Ne.symm hn), zBj_some, nI_clamp (by omega), nI_clamp (by omega), (R1.1 p hp).1, (R1.1 q hq).1]
    cases hs : srch T (plG K p q) N (plQ K p q) with
    | none =>
      simp only [plQ] at hs
      rw [hs] at r
      obtain ⟨h1, r1, r2, -⟩ := r
      have r2' := zFr_w r2 (show 16 ≤ 17 by omega) (Nat.le_refl 19)
      have f16 := r2 16 (by omega)
      have C2 := PlC_f ht r2 C1
      obtain ⟨h2, s1, s2, s3⟩ := ih (N + 1) h1 (by omega) ⟨C2.2.1, C2.2.2.1, C2.2.2.2.1, C2.2.2.2.2.1, C2.2.2.2.2.2.1, C2.2.2.2.2.2.2⟩ (by rw [f16.1]; exact h81) (TkD_fr r2' (by omega) R1)
      have hz : plS T (plG K p q) (plQ K p q) N = none := by unfold plS plQ; rw [hs]; rfl
      refine ⟨h2, ?_, zFr_t f1 (zFr_t r2' s2), ?_⟩
      · rw [r1, zBi_some, if_pos rfl, nI_1, s1]
      · rw [fsR_n hz]; exact s3
    | some l =>
      simp only [plQ] at hs
      rw [hs] at r
      obtain ⟨h1, r1, r2, -, r4⟩ := r
      have r2' := zFr_w r2 (show 16 ≤ 17 by omega) (Nat.le_refl 19)
      have hz : plS T (plG K p q) (plQ K p q) N = some (N, l) := by unfold plS plQ; rw [hs]; rfl
      refine ⟨zPI h1 16 8 (nI N), ?_, zFr_t f1 (zFr_t r2' (zFr_I (by omega) (by omega))), ?_⟩
      · rw [r1, zBi_some, if_neg (by decide), nI_1, E_Pl_find_57 sc _ _ a2 q2]
        by_cases h6 : 6 < N + 1
        · rw [if_pos (iL' (m := 6) (n := 6) rfl h6 (by omega))]
        · have k8 : ¬ (zPI h1 16 8 (nI N)).1 16 8 = -1 := by rw [zPI_1, if_pos ⟨rfl, rfl⟩]; exact nI_nm1 (by omega)
          rw [if_neg (iG' (m := 6) (n := 6) rfl (by omega) (by decide)), if_neg k8]
      · rw [fsR_y hz]
        refine ⟨by rw [zPI_1, if_pos ⟨rfl, rfl⟩], fun i hi => ?_⟩
        have := r4 i hi
        rw [Nat.zero_add] at this
        exact ⟨by rw [zPI_1, if_neg (by omega)]; exact this.1, by rw [zPI_1, if_neg (by omega)]; exact this.2⟩
theorem Pl_find (sc : zSc) (c : Nat) (h : zHp) {T : TT} {K : KK} (O : TOK T) (kk : KOK T K) {t a2 : Nat} (ht : zTw t = true) (q2 : zS4 zGL a2) (ha : 19 ≤ a2) (S : TnS h t T) (R : TkD h a2 T K) {p q : Nat} (hp : p < T.P) (hq : q < T.P) (hn : p ≠ q) : ∃ h', zRun sc (c + 16) 92 [.ref 16, .ref t, .ref a2, .int (nI p), .int (nI q)] zGL h = some (none, zGL, h') ∧ zFr 16 19 h h' ∧ fndR p q h' (fsR (plS T (plG K p q) (plQ K p q)) 7 0) := by
  have hP5 := O.2.1
  have hG := plG_lt O kk hp hq
  have h15 := tw_15 ht
  have qt : zS6 zGL t := zTw_6 ht
  have hjl : jN (folB T) T.F < 64 := lt_64 (jN_lt _ _) O.1
  rw [E_Pl_find sc _ h t qt a2 q2, if_pos (zin_nI (by omega) (by decide)), if_pos (zin_nI (by omega) (by decide)), nI_clamp (by omega), nI_clamp (by omega)]
  have f0 : zFr 16 19 h (zPI (zPI (zPR h 16 2 t) 16 3 (nI p)) 16 4 (nI q)) := zFr_t (zFr_R (by omega) (by omega)) (zFr_t (zFr_I (by omega) (by omega)) (zFr_I (by omega) (by omega)))
  have k3 : (zPI (zPI (zPR h 16 2 t) 16 3 (nI p)) 16 4 (nI q)).1 16 3 = nI p := by rw [zPI_1, if_neg (by omega), zPI_1, if_pos ⟨rfl, rfl⟩]
  have k4 : (zPI (zPI (zPR h 16 2 t) 16 3 (nI p)) 16 4 (nI q)).1 16 4 = nI q := by rw [zPI_1, if_pos ⟨rfl, rfl⟩]
  have k2 : (zPI (zPI (zPR h 16 2 t) 16 3 (nI p)) 16 4 (nI q)).2.2 16 2 = some t := by
    rw [zPI_3, zPI_3, zPR_3, if_pos ⟨rfl, rfl⟩]
  generalize zPI (zPI (zPR h 16 2 t) 16 3 (nI p)) 16 4 (nI q) = h0 at f0 k2 k3 k4 ⊢
  have R0 := TkD_fr f0 (by omega) R
  have S0 := TnS_fr f0 (by omega) S
  have hg : nI (K.kn p ||| K.kn q) = nI (plG K p q) := rfl
  rw [(R0.1 p hp).1, (R0.1 q hq).1, nI_or, hg]
  have f1 : zFr 16 19 h0 (zPI h0 16 5 (nI (plG K p q))) := zFr_I (by omega) (by omega)
  have S1 := TnS_fr f1 (by omega) S0
  have e6 : nI (plG K p q) &&& (nI (jN (folB T) T.F) ^^^ (-1)) = nI (anN (plG K p q) (jN (folB T) T.F)) := nI_andn (by omega) (by omega)
  rw [Tn_followers sc _ zGL _ qt O S1.1, zBi_some, zPI_1, if_pos ⟨rfl, rfl⟩, e6]
  have f2 : zFr 16 19 h (zPI (zPI (zPI h0 16 5 (nI (plG K p q))) 16 6 (nI (anN (plG K p q) (jN (folB T) T.F)))) 16 8 (-1)) := zFr_t f0 (zFr_t f1 (zFr_t (zFr_I (by omega) (by omega)) (zFr_I (by omega) (by omega))))
  obtain ⟨h2, s1, s2, s3⟩ := Pl_find_l sc c O kk ht q2 ha hp hq hn 7 0 (zPI (zPI (zPI h0 16 5 (nI (plG K p q))) 16 6 (nI (anN (plG K p q) (jN (folB T) T.F)))) 16 8 (-1)) rfl ⟨by simp [zPI_1], by simp [zPI_1], by rw [zPI_2, zPI_2, zPI_2]; exact k2, by simp [zPI_1, k3], by simp [zPI_1, k4], TnS_fr f2 (by omega) S⟩ (by simp [zPI_1]) (TkD_fr f2 (by omega) R)
  exact ⟨h2, s1, zFr_t f2 s2, s3⟩
theorem i_neg {i : Int32} (h : i < 0) (n : Nat) : isI i n = false := by
  unfold isI
  rw [decide_eq_false_iff_not]
  rintro ⟨h1, -⟩
  exact h1 h
theorem i_of {i : Int32} (h : ¬ i < 0) : ∃ k, k < 2 ^ 31 ∧ i = nI k := by
  refine ⟨i.toNatClampNeg, ?_, ?_⟩
  · have h1 : i.toInt < 2 ^ 31 := Int32.toInt_lt i
    have h2 : i.toNatClampNeg = i.toInt.toNat := rfl
    omega
  · have h2 : i.toNatClampNeg = i.toInt.toNat := rfl
    have h3 : ¬ i.toInt < 0 := fun z => h (Int32.lt_iff_toInt_lt.mpr (by simpa using z))
    have h1 : i.toInt < 2 ^ 31 := Int32.toInt_lt i
    apply Int32.toInt_inj.mp
    rw [nI_toInt (by omega)]
    omega
theorem Pl_part (sc : zSc) (d : Nat) (h : zHp) {p q : Nat} {i : Int32} (hi : ¬ i = -1) {o : Option (Nat × List Nat)} (ho : ∀ n l, o = some (n, l) → n ≤ 6) (r : fndR p q h o) : zRun sc d 98 [.ref 16, .int i] zGL h = some (some (.int (plA p q i o)), zGL, h) := by
  rw [E_Pl_part]
  by_cases h0 : i < 0
  · rw [if_pos h0]
    match o with
    | none => rfl
    | some (n, l) => simp only [plA]; rw [if_neg hi, i_neg h0, if_neg (by decide)]
  · rw [if_neg h0]
    obtain ⟨k, hk, rfl⟩ := i_of h0
    rw [(d2 hk).2, (d2 hk).1]
    match o, r with
    | none, r =>
      rw [show h.1 16 8 = -1 from r, if_neg]
      · rfl
      · intro z
        rw [Int32.lt_iff_toInt_lt, nI_toInt (by omega)] at z
        have : (-1 : Int32).toInt = -1 := rfl
        omega
    | some (n, l), r =>
      have hn6 := ho n l rfl
      simp only [plA]
      rw [r.1, if_neg hi]
      by_cases hkn : k < 2 * n
      · have rr := r.2 (k / 2) (by omega)
        rw [if_pos (nI_lt (by omega) (by omega)), if_pos (iL (m := 6) (n := 6) rfl (by omega) (by decide)), isI_n (by omega) hkn, if_pos rfl, nI_clamp (by omega), nI_clamp (by omega), rr.1, rr.2]
        by_cases ho : k % 2 = 1
        · rw [if_neg (by rw [ho]; decide), if_pos (zin_nI (by omega) (by decide)), if_pos ho]
        · rw [if_pos (by rw [show k % 2 = 0 by omega]; rfl), if_pos (zin_nI (by omega) (by decide)), if_neg ho]
          split <;> rfl
      · have : isI (nI k) (2 * n) = false := by
          cases hb : isI (nI k) (2 * n) with
          | false => rfl
          | true =>
            obtain ⟨j, hj, e⟩ := isI_of (by omega) hb
            have := (nI_eq (by omega) (by omega)).mp e
            omega
        rw [if_neg (nI_nlt (by omega) (by omega)), this, if_neg (by decide)]
