/-! ===== a new town ===== -/
theorem tw_2 {t t' : Nat} (h1 : zTw t = true) (h2 : zTw t' = true) (h : t ≠ t') : (t = 3 ∧ t' = 9) ∨ (t = 9 ∧ t' = 3) := by
  unfold zTw at h1 h2
  simp at h1 h2
  omega
theorem TnS_e {h h' : zHp} {t : Nat} {T : TT} (e : ∀ x, t ≤ x → x < t + 6 → h'.1 x = h.1 x ∧ h'.2.1 x = h.2.1 x) (S : TnS h t T) : TnS h' t T := by
  unfold TnS TnD at S ⊢
  rw [(e t (by omega) (by omega)).1, (e (t + 1) (by omega) (by omega)).1, (e (t + 2) (by omega) (by omega)).1, (e (t + 3) (by omega) (by omega)).1, (e t (by omega) (by omega)).2, (e (t + 4) (by omega) (by omega)).2, (e (t + 5) (by omega) (by omega)).2]
  exact S
theorem X_town (sc : zSc) (d : Nat) (h : zHp) {t t' : Nat} {T : TT} {K : KK} {X : XX} {B : BB} {I : II} {fl : Int32} (O : GO t t' T K X B I) (G : GX h t t' T K X B I fl) : (∀ f, tnP X.1 X.2 400 0 tn0 = .inl f → ∃ h', zRun sc (d + 9) 22 [.ref 0] zGL h = some (some (.int (-10 - nI f.1)), zGL, h') ∧ GX h' t t' T K (0, X.2) B I (nI f.2) ∧ zFr 0 46 h h') ∧ (∀ T', tnP X.1 X.2 400 0 tn0 = .inr T' → rdO T' ∧ ∃ h', zRun sc (d + 9) 22 [.ref 0] zGL h = some (some (.int (nI T'.P)), zGL, h') ∧ GX h' t' t (fxC T') (begK (fxC T') K.sd) (0, X.2) (0, B.2) (fun _ => false, I.2) (-1) ∧ zFr 0 46 h h') := by
  obtain ⟨⟨ht, ht', hne⟩, OT, kk, xo, bo, ko⟩ := O
  obtain ⟨⟨g1, g2, g3, g4⟩, g5, g6, g7, g8, g9, g10⟩ := G
  have htt := tw_2 ht ht' hne
  have hrd := Rd_read sc d h g7 xo ht'
  rw [E_X_town sc (d + 8), zOT_k g2 ht']
  cases hr : tnP X.1 X.2 400 0 tn0 with
  | inl f =>
    rw [hr] at hrd
    obtain ⟨h2, e1, e2, e3, e4⟩ := hrd
    refine ⟨fun f' hf' => ?_, fun T' hf' => (by cases hf')⟩
    cases hf'
    have f2 : zFr 3 16 h h2 := fun x hx => ⟨e4.1 x (by omega) (by omega), by rw [e4.2.1], e4.2.2 x (by omega)⟩
    rw [e1, zBi_some, if_neg e3]
    have f3 : zFr 0 16 h (zPI (zPI h2 1 1 0) 0 10 ((zPI h2 1 1 0).1 15 8)) := zFr_t (zFr_w f2 (by decide) (by decide)) (zFr_t (zFr_I (by decide) (by decide)) (zFr_I (by decide) (by decide)))
    refine ⟨_, rfl, ⟨⟨?_, ?_, ?_, ?_⟩, ?_, TkD_fr f3 (.inr (by decide)) g6, ?_, BkD_fr f3 (.inl (by decide)) g8, fun i hi => ⟨?_, fun hk => TkD_fr f3 (.inr (by omega)) ((g9 i hi).2 hk)⟩, ?_⟩, zFr_w f3 (by decide) (by decide)⟩
    · show h2.2.2 0 8 = some t
      rw [e4.2.2 0 (by decide)]; exact g1
    · show h2.2.2 0 9 = some t'
      rw [e4.2.2 0 (by decide)]; exact g2
    · show h2.2.2 32 0 = some 33
      rw [e4.2.2 32 (by decide)]; exact g3
    · show h2.2.2 32 1 = some 39
      rw [e4.2.2 32 (by decide)]; exact g4
    · refine TnS_e (fun x h1 h2' => ⟨?_, ?_⟩) g5
      · funext y
        rw [zPI_1, if_neg (by omega), zPI_1, if_neg (by omega), e4.1 x (by omega) (by omega)]
      · show h2.2.1 x = h.2.1 x
        rw [e4.2.1]
    · exact ⟨rfl, fun i hi => absurd hi (Nat.not_lt_zero i)⟩
    · rw [(f3 45 (by decide)).1]; exact (g9 i hi).1
    · show h2.1 15 8 = nI f.2
      exact e2
  | inr T' =>
    rw [hr] at hrd
    obtain ⟨h2, e1, e2, e3, e5, e4⟩ := hrd
    refine ⟨fun f' hf' => (by cases hf'), fun T'' hf' => ?_⟩
    cases hf'
    have OT' := rdO_T e5
    have f2 : zFr 3 16 h h2 := fun x hx => ⟨e4.1 x (by omega) (by omega), by rw [e4.2.1], e4.2.2 x (by omega)⟩
    rw [e1, zBi_some, if_pos rfl]
    generalize hz3 : zPI (zPI h2 1 1 0) 0 10 ((zPI h2 1 1 0).1 15 8) = h3
    have f3 : zFr 0 16 h h3 := by rw [← hz3]; exact zFr_t (zFr_w f2 (by decide) (by decide)) (zFr_t (zFr_I (by decide) (by decide)) (zFr_I (by decide) (by decide)))
    have r8 : h3.2.2 0 8 = some t := by rw [← hz3]; show h2.2.2 0 8 = some t; rw [e4.2.2 0 (by decide)]; exact g1
    have r9 : h3.2.2 0 9 = some t' := by rw [← hz3]; show h2.2.2 0 9 = some t'; rw [e4.2.2 0 (by decide)]; exact g2
    have D3 : TnD h3 t' (fxC T') := by
      have z : ∀ x, t' ≤ x → h3.1 x = h2.1 x := fun x hx => by rw [← hz3]; funext y; rw [zPI_1, if_neg (by omega), zPI_1, if_neg (by omega)]
      unfold TnD at e3 ⊢
      rw [z t' (by omega), z (t' + 1) (by omega), z (t' + 2) (by omega), z (t' + 3) (by omega)]
      exact e3
    have i11 : h3.1 1 1 = 0 := by rw [← hz3]; rfl
    have i010 : h3.1 0 10 = -1 := by rw [← hz3]; exact e2
    rw [zOT_k r8 ht, zOT_k r9 ht', zOT_k (t := t') (by rw [zPR_3, if_neg (by omega), zPR_3, if_pos ⟨rfl, rfl⟩]) ht']
    generalize hz4 : zPR (zPR h3 0 8 t') 0 9 t = h4
    have e41 : h4.1 = h3.1 := by rw [← hz4]; rfl
    have f4 : zFr 0 16 h h4 := by rw [← hz4]; exact zFr_t f3 (zFr_t (zFr_R (by decide) (by decide)) (zFr_R (by decide) (by decide)))
    have s8 : h4.2.2 0 8 = some t' := by rw [← hz4, zPR_3, if_neg (by omega), zPR_3, if_pos ⟨rfl, rfl⟩]
    have s9 : h4.2.2 0 9 = some t := by rw [← hz4, zPR_3, if_pos ⟨rfl, rfl⟩]
    obtain ⟨h6, k1, k2, k3, k4⟩ := Tn_settle sc (d + 4) zGL h4 (zTw_6 ht') OT' (TnD_h e41 D3)
    have f6 : zFr 0 16 h h6 := zFr_t f4 (zFr_w k4 (by omega) (by omega))
    have s86 : h6.2.2 0 8 = some t' := by rw [(k4 0 (by omega)).2.2]; exact s8
    have s96 : h6.2.2 0 9 = some t := by rw [(k4 0 (by omega)).2.2]; exact s9
    obtain ⟨h8, l1, l2, l3⟩ := Tk_begin sc (d + 5) zGL h6 zS4_26 (zTw_6 ht') (by omega) OT' k2
    have hsd : h6.1 26 6 = K.sd := by rw [(f6 26 (by omega)).1]; exact g6.2.2.2.2
    rw [hsd] at l2
    rw [k1, zBv_some, zOT_k s86 ht', l1, zBv_some]
    have s88 : h8.2.2 0 8 = some t' := by rw [(l3 0 (by omega)).2.2]; exact s86
    rw [E_X_town_86 sc (d + 8), if_pos (by decide), if_pos (by decide), E_X_town_86 sc (d + 8), if_pos (by decide), if_pos (by decide), E_X_town_86 sc (d + 8), if_neg (by decide)]
    generalize hz9 : zPI (zPI (zPI h8 21 4 0) 45 (0 : Int32).toNatClampNeg 0) 45 ((0 : Int32) + 1).toNatClampNeg 0 = h9
    have f9 : zFr 21 46 h8 h9 := by rw [← hz9]; exact zFr_t (zFr_I (by decide) (by decide)) (zFr_t (zFr_I (by decide) (by decide)) (zFr_I (by decide) (by decide)))
    have n45 : ∀ x, x ≠ 21 → x ≠ 45 → h9.1 x = h8.1 x := fun x h1 h2 => by rw [← hz9]; funext y; rw [zPI_1, if_neg (fun z => h2 z.1), zPI_1, if_neg (fun z => h2 z.1), zPI_1, if_neg (fun z => h1 z.1)]
    have n92 : h9.2 = h8.2 := by rw [← hz9]; rfl
    have S9 : TnS h9 t' (fxC T') := TnS_fr f9 (.inl (by omega)) (TnS_fr l3 (.inl (by omega)) k2)
    rw [zOT_k (t := t') (by rw [n92]; exact s88) ht', S9.1.2.1]
    have f89 : zFr 0 46 h h9 := zFr_t (zFr_w f6 (by decide) (by decide)) (zFr_t (zFr_w l3 (by decide) (by decide)) (zFr_w f9 (by decide) (by decide)))
    have m32 : h9.2.2 32 = h.2.2 32 := by rw [n92, (l3 32 (by omega)).2.2, (f6 32 (by omega)).2.2]
    refine ⟨e5, h9, rfl, ⟨⟨by rw [n92]; exact s88, ?_, by rw [m32]; exact g3, by rw [m32]; exact g4⟩, S9, ?_, ⟨?_, fun i hi => absurd hi (Nat.not_lt_zero i)⟩, ⟨?_, fun i hi => absurd hi (Nat.not_lt_zero i)⟩, fun i hi => ⟨?_, fun hk => (by cases hk)⟩, ?_⟩, f89⟩
    · rw [n92, (l3 0 (by omega)).2.2]; exact s96
    · unfold TkD at l2 ⊢
      rw [n45 26 (by decide) (by decide), n45 27 (by decide) (by decide), n45 28 (by decide) (by decide), n45 29 (by decide) (by decide), n45 31 (by decide) (by decide), n92]
      exact l2
    · rw [n45 1 (by decide) (by decide), (l3 1 (by omega)).1, k3, e41]; exact i11
    · rw [← hz9]; rfl
    · match i, hi with
      | 0, _ => rw [← hz9]; rfl
      | 1, _ => rw [← hz9]; rfl
    · rw [n45 0 (by decide) (by decide), (l3 0 (by omega)).1, k3, e41]; exact i010
theorem Mo_town (sc : zSc) (d : Nat) (h : zHp) {t t' : Nat} {T : TT} {K : KK} {X : XX} {B : BB} {I : II} {fl : Int32} (O : GO t t' T K X B I) (M : GM h T K X B I fl) : (∀ f, tnP X.1 X.2 400 0 tn0 = .inl f → ∃ h', zRun sc (d + 5) 133 [.ref 46] zGL h = some (some (.int (-10 - nI f.1)), zGL, h') ∧ GM h' T K (0, X.2) B I (nI f.2) ∧ zFr 46 73 h h') ∧ (∀ T', tnP X.1 X.2 400 0 tn0 = .inr T' → ∃ h', zRun sc (d + 5) 133 [.ref 46] zGL h = some (some (.int (nI T'.P)), zGL, h') ∧ GM h' (fxC T') (begK (fxC T') K.sd) (0, X.2) (0, B.2) (fun _ => false, I.2) (-1) ∧ zFr 46 73 h h') := by
  obtain ⟨-, OT, kk, xo, bo, ko⟩ := O
  obtain ⟨g1, g2, g3, g4, g5, g6, g7⟩ := M
  rw [E_Mo_town sc (d + 4)]
  generalize hz0 : zPI (zPI (zPI (zPI (zPI h 46 17 (-1)) 46 18 0) 46 23 0) 46 26 0) 46 28 0 = h0
  have f0 : mF h h0 := by rw [← hz0]; exact mFr_t (mFr_f (by decide)) (mFr_t (mFr_f (by decide)) (mFr_t (mFr_f (by decide)) (mFr_t (mFr_f (by decide)) (mFr_f (by decide)))))
  have M0 : MR h0 tn0 := by
    rw [← hz0]
    exact ⟨⟨rfl, rfl, rfl, fun f hf => absurd hf (Nat.not_lt_zero f), fun p hp => absurd hp (Nat.not_lt_zero p)⟩, rfl⟩
  have hO : rdO tn0 := ⟨by decide, by decide, .inl rfl, fun f hf => absurd hf (Nat.not_lt_zero f), fun p hp => absurd hp (Nat.not_lt_zero p)⟩
  have hl := Mo_town_l sc d xo 400 0 0 tn0 h0 rfl (Nat.le_refl _) (Nat.zero_le _) hO (MoX_m f0 (by decide) (by decide) g4) (AtP_e (by rw [← hz0]; rfl) (Nat.zero_le _)) M0
  cases hr : tnP X.1 X.2 400 0 tn0 with
  | inl f =>
    rw [hr] at hl
    obtain ⟨h1, e1, e2, e3⟩ := hl
    refine ⟨fun f' hf' => ?_, fun T' hf' => (by cases hf')⟩
    cases hf'
    have z1 := e2.2.1
    have z2 := e2.2.2
    have fA : mFr [57, 58, 59] [16, 17, 18, 19, 20, 21, 22, 23, 26, 28] h (zPI h1 46 16 0) := mFr_t (mFr_w (mFr_t f0 e3) (fun _ z => z) (by decide)) (mFr_f (by decide))
    refine ⟨zPI h1 46 16 0, ?_, ⟨MoT_m fA (by decide) (by decide) g1, MoC_m fA (by decide) (by decide) g2, MoK_m fA (by decide) (by decide) g3, ⟨rfl, fun i hi => absurd hi (Nat.not_lt_zero i)⟩, MoB_m fA (by decide) (by decide) g5, fun i hi => ⟨?_, fun hk => MoI_e (fA.1 70 (by decide) (by decide)).1 (fA.1 71 (by decide) (by decide)).2 ((g6 i hi).2 hk)⟩, e2.1⟩, mFr_z fA (by decide)⟩
    · rw [e1, E_Mo_town_46 sc (d + 4), if_pos (show (0 : Int32) < nI f.1 from nI_lt (a := 0) z1 (by omega))]
    · rw [(fA.1 72 (by decide) (by decide)).1]; exact (g6 i hi).1
  | inr T' =>
    rw [hr] at hl
    obtain ⟨h1, e1, e2, e5, e3⟩ := hl
    refine ⟨fun f' hf' => (by cases hf'), fun T'' hf' => ?_⟩
    cases hf'
    have OT' := rdO_T e5
    obtain ⟨o1, o2, o3, o4, o5⟩ := e5
    obtain ⟨⟨m1, m2, m3, m4, m5⟩, m17⟩ := e2
    have hC99 : T'.C ≤ 99 := by rcases o3 with z | z <;> omega
    -- the counts
    have eA : ∃ hA, zE sc (d + 5) 133 46 [some (.ref 46), some (.int 0), none] [] zGL h1 = zE sc (d + 5) 133 98 [some (.ref 46), none, some (.int 0)] [] zGL hA ∧ hA.1 46 0 = nI T'.F ∧ hA.1 46 3 = nI T'.P ∧ hA.1 46 5 = nI (fxC T').C ∧ hA.1 46 16 = 0 ∧ mFr [] [0, 3, 5, 16] h1 hA := by
      rw [E_Mo_town_46 sc (d + 4), if_neg (show ¬ (0 : Int32) < 0 by decide)]
      have q0 : (zPI h1 46 16 0).1 46 23 = nI T'.F := m1
      rw [q0]
      have q1 : (zPI (zPI h1 46 16 0) 46 0 (nI T'.F)).1 46 26 = nI T'.P := m2
      rw [q1]
      have q2 : (zPI (zPI (zPI h1 46 16 0) 46 0 (nI T'.F)) 46 3 (nI T'.P)).1 46 28 = nI T'.C := m3
      rw [q2]
      by_cases hc : T'.C = 0
      · rw [if_neg (show ¬ (0 : Int32) < nI T'.C by rw [hc]; decide)]
        refine ⟨_, rfl, rfl, rfl, ?_, rfl, mFr_t (mFr_f (by decide)) (mFr_t (mFr_f (by decide)) (mFr_t (mFr_f (by decide)) (mFr_f (by decide))))⟩
        show (10 : Int32) = nI (if T'.C = 0 then 10 else T'.C)
        rw [if_pos hc]
        rfl
      · rw [if_pos (show (0 : Int32) < nI T'.C from nI_lt (a := 0) (by omega) (by omega))]
        refine ⟨_, rfl, rfl, rfl, ?_, rfl, mFr_t (mFr_f (by decide)) (mFr_t (mFr_f (by decide)) (mFr_t (mFr_f (by decide)) (mFr_f (by decide))))⟩
        show nI T'.C = nI (if T'.C = 0 then 10 else T'.C)
        rw [if_neg hc]
    obtain ⟨hA, eA, a0, a3, a5, a16, fA⟩ := eA
    obtain ⟨hB, eB, b1', b2'⟩ := zUpH (e := fun k h => zE sc (d + 5) 133 98 [some (.ref 46), none, some (.int (nI k))] [] zGL h) (inv := fun k hB => mFr [47, 48] [] hA hB ∧ ∀ f, f < k → f < T'.F → hB.1 47 f = nI (T'.w f) ∧ hB.1 48 f = nI (T'.fo f)) 6 (fun k hB hk iv => by
      obtain ⟨i1, i2⟩ := iv
      have r57 : hB.1 57 k = h1.1 57 k := by rw [(i1.1 57 (by decide) (by decide)).1, (fA.1 57 (by decide) (by decide)).1]
      have r58 : hB.1 58 k = h1.1 58 k := by rw [(i1.1 58 (by decide) (by decide)).1, (fA.1 58 (by decide) (by decide)).1]
      have rF : (zPI hB 47 k (hB.1 57 k)).1 46 0 = nI T'.F := by
        show hB.1 46 0 = nI T'.F
        rw [(i1.2.1 0 (by decide)).1]; exact a0
      rw [E_Mo_town_98 sc (d + 4), if_pos (iL (m := 6) (n := 6) rfl hk (by decide)), if_pos (zin_nI hk (by decide)), if_pos (zin_nI hk (by decide)), nI_clamp (by omega), rF, if_pos (zin_nI hk (by decide)), if_pos (zin_nI hk (by decide)), if_pos (zin_nI hk (by decide)), nI_1]
      by_cases hf : k < T'.F
      · rw [if_pos (nI_lt hf (by omega))]
        refine ⟨_, rfl, mFr_t i1 (mFr_t (mFr_I (by decide) (by decide)) (mFr_I (by decide) (by decide))), fun f hf1 hf2 => ?_⟩
        by_cases he : f = k
        · subst he
          refine ⟨?_, ?_⟩
          · rw [zPI_1, if_neg (by omega), zPI_1, if_pos ⟨rfl, rfl⟩, r57]; exact (m4 f hf2).1
          · rw [zPI_1, if_pos ⟨rfl, rfl⟩]
            show hB.1 58 f = _
            rw [r58]; exact (m4 f hf2).2
        · have := i2 f (by omega) hf2
          refine ⟨?_, ?_⟩
          · rw [zPI_1, if_neg (by omega), zPI_1, if_neg (by omega)]; exact this.1
          · rw [zPI_1, if_neg (by omega), zPI_1, if_neg (by omega)]; exact this.2
      · rw [if_neg (nI_nlt (by omega) (by omega))]
        refine ⟨_, rfl, mFr_t i1 (mFr_t (mFr_I (by decide) (by decide)) (mFr_I (by decide) (by decide))), fun f hf1 hf2 => ?_⟩
        have := i2 f (by omega) hf2
        refine ⟨?_, ?_⟩
        · rw [zPI_1, if_neg (by omega), zPI_1, if_neg (by omega)]; exact this.1
        · rw [zPI_1, if_neg (by omega), zPI_1, if_neg (by omega)]; exact this.2) hA ⟨mFr_r _ _ _, fun f hf => by omega⟩
    obtain ⟨hC, eC, c1', c2'⟩ := zUpH (e := fun k h => zE sc (d + 5) 133 148 [some (.ref 46), none, some (.int (nI k))] [] zGL h) (inv := fun k hC => mFr [49] [] hB hC ∧ ∀ p, p < k → p < T'.P → hC.1 49 p = nI (T'.tk p)) 5 (fun k hC hk iv => by
      obtain ⟨i1, i2⟩ := iv
      have r59 : hC.1 59 k = h1.1 59 k := by rw [(i1.1 59 (by decide) (by decide)).1, (b1'.1 59 (by decide) (by decide)).1, (fA.1 59 (by decide) (by decide)).1]
      have rP : hC.1 46 3 = nI T'.P := by rw [(i1.2.1 3 (by decide)).1, (b1'.2.1 3 (by decide)).1]; exact a3
      rw [E_Mo_town_148 sc (d + 4), if_pos (iL (m := 5) (n := 5) rfl hk (by decide)), rP, if_pos (zin_nI hk (by decide)), if_pos (zin_nI hk (by decide)), nI_clamp (by omega), nI_1]
      by_cases hp : k < T'.P
      · rw [if_pos (nI_lt hp (by omega))]
        refine ⟨_, rfl, mFr_t i1 (mFr_I (by decide) (by decide)), fun p hp1 hp2 => ?_⟩
        rw [zPI_1]
        by_cases he : p = k
        · rw [if_pos ⟨rfl, he⟩, r59, ← he]; exact m5 p hp2
        · rw [if_neg (by omega)]; exact i2 p (by omega) hp2
      · rw [if_neg (nI_nlt (by omega) (by omega)), if_pos (zin_nI hk (by decide))]
        refine ⟨_, rfl, mFr_t i1 (mFr_I (by decide) (by decide)), fun p hp1 hp2 => ?_⟩
        rw [zPI_1, if_neg (by omega)]; exact i2 p (by omega) hp2) hB ⟨mFr_r _ _ _, fun p hp => by omega⟩
    generalize hzD : zPI (zPI (zPI hC 46 35 0) 72 0 0) 72 1 0 = hD
    have fD : mFr [72] [35] hC hD := by rw [← hzD]; exact mFr_t (mFr_f (by decide)) (mFr_t (mFr_I (by decide) (by decide)) (mFr_I (by decide) (by decide)))
    have fBD : mFr [49, 72] [35] hB hD := mFr_t (mFr_w c1' (by decide) (by decide)) (mFr_w fD (by decide) (by decide))
    have fAD : mFr [47, 48, 49, 72] [35] hA hD := mFr_t (mFr_w b1' (by decide) (by decide)) (mFr_w fBD (by decide) (by decide))
    have DT : MoT hD (fxC T') := by
      refine ⟨by rw [(fAD.2.1 0 (by decide)).1]; exact a0, by rw [(fAD.2.1 3 (by decide)).1]; exact a3, by rw [(fAD.2.1 5 (by decide)).1]; exact a5, fun f hf => ?_⟩
      rw [(fBD.1 47 (by decide) (by decide)).1, (fBD.1 48 (by decide) (by decide)).1]
      have hf' : f < T'.F := hf
      exact b2' f (by omega) hf'
    obtain ⟨hE, k1, k2, k3⟩ := Mo_findClosed sc (d + 4) hD OT' DT
    have ET := MoT_m k3 (by decide) (by decide) DT
    obtain ⟨hG, l1, l2, l3⟩ := Mo_begin sc (d + 1) hE OT' ET k2 (fun p hp => by
      have hp' : p < T'.P := hp
      rw [(k3.1 49 (by decide) (by decide)).1, (fD.1 49 (by decide) (by decide)).1]
      exact c2' p (by omega) hp')
    have fH : mFr [47, 48, 49, 50, 51, 52, 53, 54, 55, 57, 58, 59, 60, 72] [0, 3, 5, 7, 12, 14, 16, 17, 18, 19, 20, 21, 22, 23, 26, 28, 35] h hG := mFr_t (mFr_w (mFr_t f0 e3) (by decide) (by decide)) (mFr_t (mFr_w fA (by decide) (by decide)) (mFr_t (mFr_w fAD (by decide) (by decide)) (mFr_t (mFr_w k3 (by decide) (by decide)) (mFr_w l3 (by decide) (by decide)))))
    have hsd : hE.1 46 14 = K.sd := by
      rw [(k3.2.1 14 (by decide)).1, (fAD.2.1 14 (by decide)).1, (fA.2.1 14 (by decide)).1, (e3.2.1 14 (by decide)).1, (f0.2.1 14 (by decide)).1]
      exact g3.2.2.2.2
    rw [hsd] at l2
    have GT := MoT_k l3 ET
    have back : ∀ k, k ∉ [12, 14] → k ∉ [7] → hG.1 46 k = hD.1 46 k := fun k h1 h2 => by rw [(l3.2.1 k h1).1, (k3.2.1 k h2).1]
    have r72 : hG.1 72 = hD.1 72 := by rw [(l3.1 72 (by decide) (by decide)).1, (k3.1 72 (by decide) (by decide)).1]
    refine ⟨hG, ?_, ⟨GT, MoC_k l3 k2, l2, ⟨?_, fun i hi => absurd hi (Nat.not_lt_zero i)⟩, ⟨?_, fun i hi => absurd hi (Nat.not_lt_zero i)⟩, fun i hi => ⟨?_, fun hk => (by cases hk)⟩, ?_⟩, mFr_z fH (by decide)⟩
    · refine e1.trans (eA.trans (Eq.trans eB ?_))
      show zE sc (d + 5) 133 98 [some (.ref 46), none, some (.int (nI 6))] [] zGL hB = _
      rw [E_Mo_town_98 sc (d + 4), if_neg (iG (m := 6) (n := 6) rfl (by omega) (by omega))]
      refine Eq.trans eC ?_
      show zE sc (d + 5) 133 148 [some (.ref 46), none, some (.int (nI 5))] [] zGL hC = _
      rw [E_Mo_town_148 sc (d + 4), if_neg (iG (m := 5) (n := 5) rfl (by omega) (by omega)), hzD, k1, zBv_some, l1, zBv_some, GT.2.1]
      rfl
    · rw [back 16 (by decide) (by decide), (fAD.2.1 16 (by decide)).1]; exact a16
    · rw [back 35 (by decide) (by decide), ← hzD]; rfl
    · rw [r72]
      match i, hi with
      | 0, _ => rw [← hzD]; rfl
      | 1, _ => rw [← hzD]; rfl
    · rw [back 17 (by decide) (by decide), (fAD.2.1 17 (by decide)).1, (fA.2.1 17 (by decide)).1]; exact m17
theorem op_town (sc : zSc) (d : Nat) (h : zHp) (s : SI h) : okS sc (d + 20) 22 [.ref 0] 133 [.ref 46] h := by
  obtain ⟨t, t', T, K, X, B, I, fl, O, G, M⟩ := s
  have O0 := O
  obtain ⟨⟨ht, ht', hne⟩, OT, kk, xo, bo, ko⟩ := O
  obtain ⟨x1, x2⟩ := X_town sc (d + 11) h O0 G
  have x0 : txOK 0 X.2 := ⟨by decide, fun i hi => absurd hi (Nat.not_lt_zero i)⟩
  cases hr : tnP X.1 X.2 400 0 tn0 with
  | inl f =>
    obtain ⟨h1, e1, e2, e3⟩ := x1 f hr
    have M1 := GM_f e3 (Nat.le_refl _) M
    obtain ⟨h2, q1, q2, q3⟩ := (Mo_town sc (d + 15) h1 O0 M1).1 f hr
    exact ⟨_, h1, h2, e1, q1, t, t', T, K, (0, X.2), B, I, nI f.2, ⟨⟨ht, ht', hne⟩, OT, kk, x0, bo, ko⟩, GX_f q3 (.inr (.inr (by decide))) ht e2, q2⟩
  | inr T' =>
    obtain ⟨hO, h1, e1, e2, e3⟩ := x2 T' hr
    have M1 := GM_f e3 (Nat.le_refl _) M
    obtain ⟨h2, q1, q2, q3⟩ := (Mo_town sc (d + 15) h1 O0 M1).2 T' hr
    have OT' := rdO_T hO
    exact ⟨_, h1, h2, e1, q1, t', t, fxC T', begK (fxC T') K.sd, (0, X.2), (0, B.2), (fun _ => false, I.2), -1, ⟨⟨ht', ht, Ne.symm hne⟩, OT', KOK_beg OT' kk.2.2.2.2, x0, ⟨Nat.zero_le _, fun i hi => absurd hi (Nat.not_lt_zero i)⟩, fun i hi hk => (by cases hk)⟩, GX_f q3 (.inr (.inr (by decide))) ht' e2, q2⟩
