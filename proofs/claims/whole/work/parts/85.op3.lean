/-! ===== knew, bore ===== -/
theorem knw_in (T : TT) (K : KK) (q : Nat) : inF T.F (knwB T K q) := fun s h => by
  unfold knwB at h
  rw [Bool.and_eq_true] at h
  exact weB_in T _ s h.1
theorem Mo_knew (sc : zSc) (d : Nat) (h : zHp) {T : TT} {K : KK} (O : TOK T) (D : MoT h T) (C : MoC h T) (R : MoK h T K) (kk : KOK T K) {q : Nat} (hq : q < T.P) (i : Int32) : zRun sc (d + 3) 185 [.ref 46, .int (nI q), .int i] zGL h = some (some (.int (if i = -1 then nI (cN (knwB T K q) 64) else pickN (knwB T K q) i 64 0 0)), zGL, h) := by
  have hP5 := O.2.1
  have hp := p2_le O.1
  have h1 := (kk.1 q hq).2.1
  have h2 := O.2.2.2.1
  have hI : isI (nI q) T.P = true := isI_n (by omega) hq
  rw [E_Mo_knew, Mo_isPerson sc _ h O D, zBi_some, hI, b1, if_pos (zin_nI (by omega) (by decide)), nI_clamp (by omega), (R.1 q hq).2.1, Mo_withHat sc _ h O D C, zBj_some, whB_we O (show K.ht q < 99 by omega), ← fam_0 (knwB T K q)]
  refine (zUp (fun k => zE sc (d + 3) 185 28 [some (.ref 46), some (.int (nI q)), some (.int i), some (.long (jF (weB T (K.ht q)))), none, some (.long (jF (fun s => decide (s < k) && knwB T K q s))), none, some (.int (nI k))] [] zGL h) (2 ^ T.F) (fun k hk => ?_)).trans ?_
  · rw [E_Mo_knew_28, D.1, sh_F O.1, if_pos (nI_lt hk (by omega)), jF_t _ (by omega)]
    cases hb : weB T (K.ht q) k with
    | false => rw [cond_false, j_or0, nI_1, fam_f (by simp [knwB, hb])]
    | true =>
      rw [cond_true, Mo_couldKnow sc _ h O D C R kk hq hk, zBi_some]
      cases hfit : fitN T K.lg q K.L 0 k with
      | false => rw [b0, nI_1, j_or0, fam_f (by simp [knwB, hfit])]
      | true => rw [b1, nI_1, jF_bit1 (by omega), jF_or, fam_t (by simp [knwB, hb, hfit])]
  · rw [E_Mo_knew_28, D.1, sh_F O.1, if_neg (nI_nlt (Nat.le_refl _) (by omega)), fam_F (knw_in T K q), Mo_pick sc _ h O D (knw_in T K q), zBi_some]
theorem op_knew (sc : zSc) (d : Nat) (h : zHp) (s : SI h) (v i : Int32) : okS sc (d + 20) 106 [.ref 0, .int v, .int i] 185 [.ref 46, .int v, .int i] h := by
  have s0 := s
  obtain ⟨t, t', T, K, X, B, I, fl, ⟨⟨ht, -, -⟩, O, kk, xo, bo, ko⟩, ⟨⟨h8, -, -, -⟩, S, R, TX, BK, KP, -⟩, MT, MC, MK, MX, MB, MI, -⟩ := s
  have hP5 := O.2.1
  cases hv : isI v T.P with
  | false => exact okS_q s0 (by rw [E_X_knew, X_isPerson sc _ h ht h8 S.1, zBi_some, hv, b0]) (by rw [E_Mo_knew, Mo_isPerson sc _ h O MT, zBi_some, hv, b0])
  | true =>
    obtain ⟨q, hq, rfl⟩ := isI_of (by omega) hv
    exact okS_q s0 (by rw [E_X_knew, X_isPerson sc _ h ht h8 S.1, zBi_some, hv, b1, zOT_k h8 ht, Tk_knownAtFirst sc _ zGL h zS4_26 (zTw_6 ht) O S R kk hq, zBj_some, Fa_countOrSet sc _ zGL h, zBi_some]) (Mo_knew sc (d + 17) h O MT MC MK kk hq i)
/-- who bores: the first of the first k who is sure of least, and of how much -/
def boN (u : Nat → Nat) : Nat → Option Nat × Nat
  | 0 => (none, 0)
  | k + 1 => if (boN u k).1 = none ∨ u k < (boN u k).2 then (some k, u k) else boN u k
theorem boN_b {u : Nat → Nat} {n : Nat} (hu : ∀ k, u k ≤ n) : ∀ k, (boN u k).2 ≤ n ∧ ∀ b, (boN u k).1 = some b → b < k
  | 0 => ⟨Nat.zero_le _, fun b h => by cases h⟩
  | k + 1 => by
    have ih := boN_b hu k
    unfold boN
    split
    · exact ⟨hu k, fun b h => by cases h; omega⟩
    · exact ⟨ih.1, fun b h => Nat.lt_succ_of_lt (ih.2 b h)⟩
theorem boN_t {u : Nat → Nat} {k : Nat} (h : (boN u k).1 = none ∨ u k < (boN u k).2) : boN u (k + 1) = (some k, u k) := if_pos h
theorem boN_f {u : Nat → Nat} {k : Nat} (h : ¬ ((boN u k).1 = none ∨ u k < (boN u k).2)) : boN u (k + 1) = boN u k := if_neg h
theorem oI_m1 {o : Option Nat} (h : ∀ b, o = some b → b < 2 ^ 31) : oI o = -1 ↔ o = none := by
  cases o with
  | none => simp [oI]
  | some b => exact ⟨fun z => absurd z (nI_nm1 (h b rfl)), fun z => by cases z⟩
theorem op_bore (sc : zSc) (d : Nat) (h : zHp) (s : SI h) : okS sc (d + 20) 109 [.ref 0] 187 [.ref 46] h := by
  have s0 := s
  obtain ⟨t, t', T, K, X, B, I, fl, ⟨⟨ht, -, -⟩, O, kk, xo, bo, ko⟩, ⟨⟨h8, -, -, -⟩, S, R, TX, BK, KP, -⟩, MT, MC, MK, MX, MB, MI, -⟩ := s
  have hP5 := O.2.1
  have hu : ∀ k, surN T.F K.V k T.P ≤ 60 := fun k => by have := surN_le T.F K.V k T.P; omega
  have hb := boN_b (u := fun k => surN T.F K.V k T.P) hu
  have ho : ∀ k, k ≤ T.P → ∀ b, (boN (fun k => surN T.F K.V k T.P) k).1 = some b → b < 2 ^ 31 := fun k hk b hb' => by have := (hb k).2 b hb'; omega
  refine okS_q (v := oI (boN (fun k => surN T.F K.V k T.P) T.P).1) s0 ?_ ?_
  · rw [E_X_bore]
    refine (zUp (fun k => zE sc (d + 20) 109 6 [some (.ref 0), some (.int (oI (boN (fun k => surN T.F K.V k T.P) k).1)), some (.int (nI (boN (fun k => surN T.F K.V k T.P) k).2)), some (.int (nI k)), none] [] zGL h) T.P (fun k hk => ?_)).trans ?_
    · have hbk := (hb k).1
      have huk := hu k
      rw [E_X_bore_6, zOT_k h8 ht, S.1.2.1, if_pos (nI_lt hk (by omega)), zOT_k h8 ht, Tk_sureness sc _ zGL h zS4_26 (zTw_6 ht) O S.1 R hk, zBi_some, nI_1]
      by_cases c1 : (boN (fun k => surN T.F K.V k T.P) k).1 = none
      · rw [if_pos ((oI_m1 (ho k (by omega))).mpr c1), boN_t (.inl c1)]
        rfl
      · rw [if_neg (fun z => c1 ((oI_m1 (ho k (by omega))).mp z))]
        by_cases c2 : surN T.F K.V k T.P < (boN (fun k => surN T.F K.V k T.P) k).2
        · rw [if_pos (nI_lt c2 (by omega)), boN_t (.inr c2)]
          rfl
        · rw [if_neg (nI_nlt (by omega) (by omega)), boN_f (fun z => z.elim c1 c2)]
    · rw [E_X_bore_6, zOT_k h8 ht, S.1.2.1, if_neg (nI_nlt (Nat.le_refl _) (by omega))]
  · rw [E_Mo_bore]
    refine (zUp (fun k => zE sc (d + 20) 187 6 [some (.ref 46), some (.int (oI (boN (fun k => surN T.F K.V k T.P) k).1)), some (.int (nI (boN (fun k => surN T.F K.V k T.P) k).2)), some (.int (nI k)), none, none] [] zGL h) T.P (fun k hk => ?_)).trans ?_
    · have hbk := (hb k).1
      have huk := hu k
      rw [E_Mo_bore_6, MT.2.1, if_pos (nI_lt hk (by omega))]
      refine (zUp (fun j => zE sc (d + 20) 187 20 [some (.ref 46), some (.int (oI (boN (fun k => surN T.F K.V k T.P) k).1)), some (.int (nI (boN (fun k => surN T.F K.V k T.P) k).2)), some (.int (nI k)), some (.int (nI (surN T.F K.V k j))), some (.int (nI j))] [] zGL h) T.P (fun j hj => ?_)).trans ?_
      · rw [E_Mo_bore_20, MT.2.1, if_pos (nI_lt hj (by omega))]
        by_cases hkj : j = k
        · rw [if_pos (by rw [hkj]), Int32.add_zero, nI_1, show surN T.F K.V k (j + 1) = surN T.F K.V k j by simp [surN, hkj]]
        · have i1 := i64_j _ (sureK_lt (K.V k j) O.1)
          have i2 := i64_j _ (sureN_lt (K.V k j) O.1)
          rw [if_neg (fun z => hkj ((nI_eq (by omega) (by omega)).mp z).symm), Mo_sureKnows sc _ h O MT MK kk hk hj (Ne.symm hkj), zBi_some, i1.1, Mo_bits, zBi_some, i1.2, Mo_sureLacks sc _ h O MT MK kk hk hj (Ne.symm hkj), zBi_some, i2.1, Mo_bits, zBi_some, i2.2, nI_add, nI_add, nI_1, show surN T.F K.V k (j + 1) = surN T.F K.V k j + (pN (sureK (K.V k j) T.F) 6 + pN (sureN (K.V k j) T.F) 6) by simp [surN, hkj]]
      · rw [E_Mo_bore_20, MT.2.1, if_neg (nI_nlt (Nat.le_refl _) (by omega))]
        have on := oI_neg _ (ho k (by omega))
        by_cases c1 : (boN (fun k => surN T.F K.V k T.P) k).1 = none
        · rw [if_pos (on.mpr c1), E_Mo_bore_83, E_Mo_bore_88, if_neg (by decide), E_Mo_bore_100, if_neg (by decide), nI_1, boN_t (.inl c1)]
          rfl
        · rw [if_neg (fun z => c1 (on.mp z))]
          by_cases c2 : surN T.F K.V k T.P < (boN (fun k => surN T.F K.V k T.P) k).2
          · rw [if_pos (nI_lt c2 (by omega)), E_Mo_bore_83, E_Mo_bore_88, if_neg (by decide), E_Mo_bore_100, if_neg (by decide), nI_1, boN_t (.inr c2)]
            rfl
          · rw [if_neg (nI_nlt (by omega) (by omega)), E_Mo_bore_88, if_pos rfl, E_Mo_bore_100, if_pos rfl, nI_1, boN_f (fun z => z.elim c1 c2)]
    · rw [E_Mo_bore_6, MT.2.1, if_neg (nI_nlt (Nat.le_refl _) (by omega))]
