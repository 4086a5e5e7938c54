/-! ===== a talk goes on ===== -/
theorem TnS_fr {lo hi t : Nat} {h h' : zHp} {T : TT} (f : zFr lo hi h h') (ht : t + 6 ≤ lo ∨ hi ≤ t) (S : TnS h t T) : TnS h' t T := by
  have f0 := f t (by omega)
  have f1 := f (t + 1) (by omega)
  have f2 := f (t + 2) (by omega)
  have f3 := f (t + 3) (by omega)
  have f4 := f (t + 4) (by omega)
  have f5 := f (t + 5) (by omega)
  unfold TnS TnD at S ⊢
  rw [f0.1, f1.1, f2.1, f3.1, f4.2.1, f5.2.1, f0.2.1]
  exact S
def VW (h0 : zHp) (a P : Nat) (N O : Nat → Nat → Nat → Bool) (p q : Nat) (h : zHp) : Prop := h.1 = h0.1 ∧ h.2.2 = h0.2.2 ∧ (∀ x, x ≠ a → h.2.1 x = h0.2.1 x) ∧ ∀ p' q', p' < P → q' < P → p' ≠ q' → h.2.1 a (5 * p' + q') = jF (if p' < p ∨ (p' = p ∧ q' < q) then N p' q' else O p' q')
theorem VW_w {h0 : zHp} {a P : Nat} {N O : Nat → Nat → Nat → Bool} {p q : Nat} {h : zHp} {x : Int64} (hP : P ≤ 5) (hq : q < P) (i : VW h0 a P N O p q h) (hx : p ≠ q → x = jF (N p q)) : VW h0 a P N O p (q + 1) (zPL h a (5 * p + q) x) := by
  obtain ⟨i1, i2, i3, i4⟩ := i
  refine ⟨i1, i2, ?_, ?_⟩
  · intro y hy
    rw [← i3 y hy]
    funext z
    rw [zPL_2, if_neg (by omega)]
  · intro p' q' hp' hq' hn
    rw [zPL_2]
    by_cases he : p' = p ∧ q' = q
    · obtain ⟨rfl, rfl⟩ := he
      rw [if_pos ⟨rfl, rfl⟩, hx hn, if_pos (by omega)]
    · rw [if_neg (by omega), i4 p' q' hp' hq' hn]
      by_cases hc : p' < p ∨ (p' = p ∧ q' < q)
      · rw [if_pos hc, if_pos (by omega)]
      · rw [if_neg hc, if_neg (by omega)]
theorem VW_s {h0 : zHp} {a P : Nat} {N O : Nat → Nat → Nat → Bool} {p q : Nat} {h : zHp} (i : VW h0 a P N O p q h) (hx : p ≠ q → O p q = N p q) : VW h0 a P N O p (q + 1) h := by
  obtain ⟨i1, i2, i3, i4⟩ := i
  refine ⟨i1, i2, i3, ?_⟩
  intro p' q' hp' hq' hn
  rw [i4 p' q' hp' hq' hn]
  by_cases he : p' = p ∧ q' = q
  · obtain ⟨rfl, rfl⟩ := he
    rw [if_neg (by omega), if_pos (by omega), hx hn]
  · by_cases hc : p' < p ∨ (p' = p ∧ q' < q)
    · rw [if_pos hc, if_pos (by omega)]
    · rw [if_neg hc, if_neg (by omega)]
theorem VW_o {h0 : zHp} {a P : Nat} {N O : Nat → Nat → Nat → Bool} {p : Nat} {h : zHp} (i : VW h0 a P N O p P h) : VW h0 a P N O (p + 1) 0 h := by
  obtain ⟨i1, i2, i3, i4⟩ := i
  refine ⟨i1, i2, i3, ?_⟩
  intro p' q' hp' hq' hn
  rw [i4 p' q' hp' hq' hn]
  by_cases hc : p' < p ∨ (p' = p ∧ q' < P)
  · rw [if_pos hc, if_pos (by omega)]
  · rw [if_neg hc, if_neg (by omega)]
theorem vLoop {α : Type} {e1 : Nat → zHp → α} {e2 : Nat → Nat → zHp → α} {h0 : zHp} {a P : Nat} {N O : Nat → Nat → Nat → Bool} (hin : ∀ p h, p < P → VW h0 a P N O p 0 h → e1 p h = e2 p 0 h) (hout : ∀ p h, p < P → VW h0 a P N O p P h → e2 p P h = e1 (p + 1) h) (hstep : ∀ p q h, p < P → q < P → VW h0 a P N O p q h → ∃ h', e2 p q h = e2 p (q + 1) h' ∧ VW h0 a P N O p (q + 1) h') (hO : ∀ p q, p < P → q < P → p ≠ q → h0.2.1 a (5 * p + q) = jF (O p q)) : ∃ h', e1 0 h0 = e1 P h' ∧ VW h0 a P N O P 0 h' := by
  refine zUpH (e := e1) (inv := fun p h => VW h0 a P N O p 0 h) P (fun p h hp i => ?_) h0 ⟨rfl, rfl, fun _ _ => rfl, fun p' q' hp' hq' hn => by rw [if_neg (by omega)]; exact hO p' q' hp' hq' hn⟩
  obtain ⟨h1, e, i1⟩ := zUpH (e := e2 p) (inv := fun q h => VW h0 a P N O p q h) P (fun q h hq i => hstep p q h hp hq i) h i
  exact ⟨h1, (hin p h hp i).trans (e.trans (hout p h1 hp i1)), VW_o i1⟩
theorem VW_fr {h0 : zHp} {a P : Nat} {N O : Nat → Nat → Nat → Bool} {p q : Nat} {h : zHp} (i : VW h0 a P N O p q h) {lo hi : Nat} (hl : lo ≤ a) (hh : a < hi) : zFr lo hi h0 h := by
  intro x hx
  rw [i.1, i.2.1, i.2.2.1 x (by omega)]
  exact ⟨rfl, rfl, rfl⟩
def begK (T : TT) (sd : Int32) : KK := (fun p => clN T.fo (T.tk p) T.F, fun p => wtN T.w (clN T.fo (T.tk p) T.F) T.F % T.C, fun _ => 0, fun _ q => weB T (wtN T.w (clN T.fo (T.tk q) T.F) T.F % T.C), fun _ => 0, 0, sd)
theorem Tk_begin (sc : zSc) (d : Nat) (g : zSg) (h : zHp) {a t : Nat} {T : TT} (q0 : zS4 g a) (q1 : zS6 g t) (hat : t + 6 ≤ a) (O : TOK T) (S : TnS h t T) : ∃ h', zRun sc (d + 3) 17 [.ref a, .ref t] g h = some (none, g, h') ∧ TkD h' a T (begK T (h.1 a 6)) ∧ zFr a (a + 6) h h' := by
  have O0 := O
  obtain ⟨hF6, hP5, hC2, hC9, hfo, htk⟩ := O
  have hkn : ∀ p, p < T.P → clN T.fo (T.tk p) T.F < 64 := fun p hp => lt_64 (clN_lt (htk p hp) (Nat.le_refl _)) hF6
  have hht : ∀ p, wtN T.w (clN T.fo (T.tk p) T.F) T.F % T.C < 99 := fun p => Nat.lt_of_lt_of_le (Nat.mod_lt _ (by omega)) hC9
  rw [E_Tk_begin sc (d + 2) g h a q0 t q1]
  obtain ⟨h1, e1, i1, i2, i3⟩ := zUpH (e := fun k h => zE sc (d + 3) 17 2 [some (.ref a), some (.ref t), some (.int (nI k)), none] [] g h) (inv := fun k h1 => zFr a (a + 6) h h1 ∧ h1.1 a = h.1 a ∧ ∀ p, p < k → h1.1 (a + 1) p = nI ((begK T (h.1 a 6)).kn p) ∧ h1.1 (a + 2) p = nI ((begK T (h.1 a 6)).ht p) ∧ h1.1 (a + 3) p = 0) T.P (fun k h1 hk i => by
      obtain ⟨i1, i2, i3⟩ := i
      have S1 := TnS_fr i1 (by omega) S
      have f2 : zFr a (a + 6) h1 (zPI h1 (a + 1) k (nI (clN T.fo (T.tk k) T.F))) := zFr_I (by omega) (by omega)
      have S2 := TnS_fr f2 (by omega) S1
      refine ⟨zPI (zPI (zPI h1 (a + 1) k (nI (clN T.fo (T.tk k) T.F))) (a + 2) k (nI (wtN T.w (clN T.fo (T.tk k) T.F) T.F % T.C))) (a + 3) k 0, ?_, ?_, ?_, ?_⟩
      · rw [E_Tk_begin_2 sc (d + 2) g h1 a q0 t q1, S1.1.2.1, if_pos (nI_lt hk (by omega)), if_pos (zin_nI (by omega) (by decide)), nI_clamp (by omega), S1.1.2.2.2.2 k hk, Tn_closure sc _ g h1 q1 O0 S1.1 (lt_64 (htk k hk) hF6), zBi_some, if_pos (zin_nI (by omega) (by decide)), if_pos (zin_nI (by omega) (by decide)), zPI_1, if_pos ⟨rfl, rfl⟩, Tn_hatOf sc d g _ q1 O0 S2.1 (hkn k hk), zBi_some, if_pos (zin_nI (by omega) (by decide)), if_pos (zin_nI (by omega) (by decide)), nI_1]
      · exact zFr_t i1 (zFr_t f2 (zFr_t (zFr_I (by omega) (by omega)) (zFr_I (by omega) (by omega))))
      · funext y
        rw [zPI_1, if_neg (by omega), zPI_1, if_neg (by omega), zPI_1, if_neg (by omega), i2]
      · intro p hp
        have hc1 : ¬ (a + 1 = a + 3 ∧ p = k) := by omega
        by_cases hpk : p = k
        · subst hpk
          refine ⟨?_, ?_, ?_⟩
          · rw [zPI_1, if_neg (by omega), zPI_1, if_neg (by omega), zPI_1, if_pos ⟨rfl, rfl⟩]; rfl
          · rw [zPI_1, if_neg (by omega), zPI_1, if_pos ⟨rfl, rfl⟩]; rfl
          · rw [zPI_1, if_pos ⟨rfl, rfl⟩]
        · have := i3 p (by omega)
          refine ⟨?_, ?_, ?_⟩
          · rw [zPI_1, if_neg (by omega), zPI_1, if_neg (by omega), zPI_1, if_neg (by omega), this.1]
          · rw [zPI_1, if_neg (by omega), zPI_1, if_neg (by omega), zPI_1, if_neg (by omega), this.2.1]
          · rw [zPI_1, if_neg (by omega), zPI_1, if_neg (by omega), zPI_1, if_neg (by omega), this.2.2]) h ⟨zFr_r _ _ h, rfl, fun p hp => by omega⟩
  refine exEq e1 ?_
  have S1 := TnS_fr i1 (by omega) S
  rw [E_Tk_begin_2 sc (d + 2) g h1 a q0 t q1, S1.1.2.1, if_neg (nI_nlt (Nat.le_refl _) (by omega))]
  obtain ⟨h2, e2, j⟩ := vLoop (h0 := h1) (a := a + 4) (P := T.P) (N := (begK T (h.1 a 6)).V) (O := fun p q => bJ (h1.2.1 (a + 4) (5 * p + q))) (e1 := fun p h => zE sc (d + 3) 17 57 [some (.ref a), some (.ref t), some (.int (nI p)), none] [] g h) (e2 := fun p q h => zE sc (d + 3) 17 67 [some (.ref a), some (.ref t), some (.int (nI p)), some (.int (nI q))] [] g h)
    (fun p h2 hp i => by
      have S2 := TnS_fr (VW_fr i (lo := a) (hi := a + 6) (by omega) (by omega)) (by omega) S1
      rw [E_Tk_begin_57 sc (d + 2) g h2 a q0 t q1, S2.1.2.1, if_pos (nI_lt hp (by omega))]
      rfl)
    (fun p h2 hp i => by
      have S2 := TnS_fr (VW_fr i (lo := a) (hi := a + 6) (by omega) (by omega)) (by omega) S1
      rw [E_Tk_begin_67 sc (d + 2) g h2 a q0 t q1, S2.1.2.1, if_neg (nI_nlt (Nat.le_refl _) (by omega)), nI_1])
    (fun p q h2 hp hq i => by
      have S2 := TnS_fr (VW_fr i (lo := a) (hi := a + 6) (by omega) (by omega)) (by omega) S1
      have h5 := v5 (show p < 5 by omega) (show q < 5 by omega)
      refine ⟨zPL h2 (a + 4) (5 * p + q) (jF ((begK T (h.1 a 6)).V p q)), ?_, VW_w hP5 hq i (fun _ => rfl)⟩
      rw [E_Tk_begin_67 sc (d + 2) g h2 a q0 t q1, S2.1.2.1, if_pos (nI_lt hq (by omega)), if_pos (zin_nI (by omega) (by decide)), nI_clamp (by omega), i.1, (i3 q hq).2.1, Tn_wearers sc _ g h2 q1 S2 (v := (begK T (h.1 a 6)).ht q) (hht q), zBj_some, h5.1, if_pos (zin_nI h5.2 (by decide)), nI_clamp (by omega), nI_1]
      rfl)
    (fun p q hp hq hn => (jF_self _).symm)
  refine exEq e2 ?_
  have S2 := TnS_fr (VW_fr j (lo := a) (hi := a + 6) (by omega) (by omega)) (by omega) S1
  refine ⟨zPI h2 a 5 0, ?_, ?_, zFr_t i1 (zFr_t (VW_fr j (by omega) (by omega)) (zFr_I (by omega) (by omega)))⟩
  · rw [E_Tk_begin_57 sc (d + 2) g h2 a q0 t q1, S2.1.2.1, if_neg (nI_nlt (Nat.le_refl _) (by omega))]
  · refine ⟨?_, ?_, ?_, ?_, ?_⟩
    · intro p hp
      rw [zPI_1, if_neg (by omega), zPI_1, if_neg (by omega), zPI_1, if_neg (by omega), j.1]
      exact i3 p hp
    · intro p q hp hq hn
      rw [zPI_2, j.2.2.2 p q hp hq hn, if_pos (by omega)]
    · intro i hi
      exact absurd hi (Nat.not_lt_zero i)
    · rw [zPI_1, if_pos ⟨rfl, rfl⟩]; rfl
    · rw [zPI_1, if_neg (by omega), j.1, i2]; rfl
