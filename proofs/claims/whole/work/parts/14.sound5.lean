/-! ===== soundness: writes of the heap ===== -/
section
variable {p : Program} {l : Launch} {e : Env} {R : Room} {s : State} {m : MethodId} {args : Array Value} {below : List Frame} {meth : Method} {c : Code} {H : Heap} {locs : List Loc} {cells slots : Nat} {Q : State → Prop}
variable {D : va_G} {C : Nat → ClassId} {B0 : Nat} {sp : Nat → Nat} {fq : Value} {sc : zSc} {M : Nat} {g g' : zSg} {h h' : zHp} {pc i : Nat} {st st' : List Value} {ls : Array Slot}
theorem z_ini {ci : Nat} {r : vw_C} (hr : zCl[ci]? = some r) (hi : zIni M = ci) : zIni M ≠ 99 ∧ zO (zOn M) = r.1 := by
  have h9 := zCl_lt hr
  refine ⟨by omega, ?_⟩
  unfold zIni at hi
  by_cases hn : (zY M).name = "<init>"
  · rw [if_pos hn] at hi
    obtain ⟨o, h1, h2, -⟩ := zCo_at hr
    have hl : zCo.idxOf (zOn M) < zCo.length := by
      rw [hi]
      exact (List.getElem?_eq_some_iff.mp h1).1
    have h3 := List.getElem_idxOf hl
    have h4 := List.getElem?_eq_getElem hl
    rw [h3, hi, h1] at h4
    rw [← h2, Option.some.inj h4]
  · rw [if_neg hn] at hi
    omega
theorem zput_ok (hc : zCtx D C B0 sp fq sc M p s m args meth c) (hg : g.1 ≤ 1000) (hP : va_P D zCl (zWo C (zad B0 sp) g h) H) (hS : va_S (zA B0) s.heap H locs) (hd : decode (zBy M) pc = .ok (.putfield i, 3)) (hs : z_put (zIni M) (zOn M) i g h st = some (st', g', h'))
    (k : ∀ (H1 : Heap) (locs1 : List Loc), va_P D zCl (zWo C (zad B0 sp) g' h') H1 → va_S (zA B0) s.heap H1 locs1 → W p l e R s m args below meth c H1 locs1 cells slots Q (F0 m (pc + 3) ls (st'.map (zTr (zad B0 sp) fq)))) : g'.1 = g.1 ∧ W p l e R s m args below meth c H locs cells slots Q (F0 m pc ls (st.map (zTr (zad B0 sp) fq))) := by
  obtain ⟨hx, hb, hml, hown, hts, hK, hRO, hin, hB, hfq⟩ := hc
  have hD := zWo_D (C := C) (B0 := B0) (sp := sp) (h := h) hg
  unfold z_put at hs
  split at hs
  · rename_i v a r
    cases hf : zFl (zOn M) i with
    | none => rw [hf] at hs; cases hs
    | some q =>
      obtain ⟨ci, kf⟩ := q
      rw [hf] at hs
      simp only at hs
      by_cases ho : zOb g a ci = true
      · rw [if_pos ho] at hs
        obtain ⟨ha, hki⟩ := zOb_iff.mp ho
        cases hfc : zFc ci kf with
        | none => rw [hfc] at hs; cases hs
        | some cd =>
          rw [hfc] at hs
          simp only at hs
          have h100 : ci ≠ 100 := by
            intro hh
            rw [hh] at hfc
            have : zFc 100 kf = none := by
              show (([] : List Nat))[kf]? = none
              rfl
            rw [this] at hfc
            cases hfc
          obtain ⟨r0, hr0, hkf, hw⟩ := zFl_in hf h100
          cases hv : z_pf (zIni M) ci g h a kf v cd with
          | none => rw [hv] at hs; cases hs
          | some q2 =>
            rw [hv] at hs
            cases hs
            have hw := hts _ hw
            have hu := z_uws hr0
            have hfi : zIni M = ci → zO (zOn M) = r0.1 ∧ meth.name = "<init>" := fun z => ⟨(z_ini hr0 z).2, hin (z_ini hr0 z).1⟩
            generalize zIni M = ini at hv hfi
            generalize zO (zOn M) = own at hown hw hfi
            rw [List.map_cons, List.map_cons, zTr_ref (z_ne14 ha hg)]
            have he := zWo_get (C := C) (ad := zad B0 sp) (h := h) ha
            rw [zCe_ob hki] at he
            have hT := (z_T hr0 (z_k44 hr0 hfc) hfc).2
            have hlen : kf < (((zFs[ci]?).getD []).mapIdx (fun k c => zFv (zad B0 sp) g h a k c)).length := by
              rw [List.length_mapIdx]
              exact zFc_lt hfc
            match cd, hT, hv with
            | 0, hT, hv =>
              cases v with
              | int x =>
                simp only [z_pf] at hv
                cases hv
                refine ⟨rfl, va_put (ci := ci) (C := r0.1) (T := r0.2.1) (N := r0.2.2) hx hb hts hu (z_ty r0) (z_ty_ok hr0) (z_nm hr0) hown hK hP hD hS a he hr0 kf hkf hw (fun _ z => z) hT.2 hT.1 rfl rfl hlen hd (fun H1 locs1 h1 h2 h3 => k H1 locs1 ?_ h3)⟩
                have hset := zWo_set (C := C) (ad := zad B0 sp) (g := g) (g' := g) (h := h) (h' := zPI h a kf x) (e := .inr (ci, (((zFs[ci]?).getD []).mapIdx (fun k c => zFv (zad B0 sp) g h a k c)).set kf (.int x))) ha rfl
                  (by rw [zCe_ob hki, zFv_set (g := g) (h := h) hfc (v := .int x) (by simp [zFv, zPI]) (fun j d hj => by match d with | 0 => simp [zFv, zPI, hj] | 1 => simp [zFv, zPI, hj] | 2 => rfl | 3 => rfl | _ + 4 => rfl)])
                  (fun b hb1 => zCe_row (zPI_ne hb1) rfl rfl (fun _ => rfl))
                rw [← hset]
                exact h1
              | _ => cases hv
            | 1, hT, hv =>
              cases v with
              | int x =>
                simp only [z_pf] at hv
                by_cases h01 : x = 0 ∨ x = 1
                · rw [if_pos h01] at hv
                  cases hv
                  have hnar : narrow .boolean (.int x) = .int x := by rcases h01 with rfl | rfl <;> rfl
                  have hfit : fits .boolean (.int x) = true := by rcases h01 with rfl | rfl <;> rfl
                  refine ⟨rfl, va_put (ci := ci) (C := r0.1) (T := r0.2.1) (N := r0.2.2) hx hb hts hu (z_ty r0) (z_ty_ok hr0) (z_nm hr0) hown hK hP hD hS a he hr0 kf hkf hw (fun _ z => z) hT.2 hT.1 hnar hfit hlen hd (fun H1 locs1 h1 h2 h3 => k H1 locs1 ?_ h3)⟩
                  have hset := zWo_set (C := C) (ad := zad B0 sp) (g := g) (g' := g) (h := h) (h' := zPI h a kf x) (e := .inr (ci, (((zFs[ci]?).getD []).mapIdx (fun k c => zFv (zad B0 sp) g h a k c)).set kf (.int x))) ha rfl
                    (by rw [zCe_ob hki, zFv_set (g := g) (h := h) hfc (v := .int x) (by simp [zFv, zPI]) (fun j d hj => by match d with | 0 => simp [zFv, zPI, hj] | 1 => simp [zFv, zPI, hj] | 2 => rfl | 3 => rfl | _ + 4 => rfl)])
                    (fun b hb1 => zCe_row (zPI_ne hb1) rfl rfl (fun _ => rfl))
                  rw [← hset]
                  exact h1
                · rw [if_neg h01] at hv; cases hv
              | _ => cases hv
            | 2, hT, hv =>
              cases v with
              | long x =>
                simp only [z_pf] at hv
                cases hv
                refine ⟨rfl, va_put (ci := ci) (C := r0.1) (T := r0.2.1) (N := r0.2.2) hx hb hts hu (z_ty r0) (z_ty_ok hr0) (z_nm hr0) hown hK hP hD hS a he hr0 kf hkf hw (fun _ z => z) hT.2 hT.1 rfl rfl hlen hd (fun H1 locs1 h1 h2 h3 => k H1 locs1 ?_ h3)⟩
                have hset := zWo_set (C := C) (ad := zad B0 sp) (g := g) (g' := g) (h := h) (h' := zPL h a kf x) (e := .inr (ci, (((zFs[ci]?).getD []).mapIdx (fun k c => zFv (zad B0 sp) g h a k c)).set kf (.long x))) ha rfl
                  (by rw [zCe_ob hki, zFv_set (g := g) (h := h) hfc (v := .long x) (by simp [zFv, zPL]) (fun j d hj => by match d with | 0 => rfl | 1 => rfl | 2 => simp [zFv, zPL, hj] | 3 => rfl | _ + 4 => rfl)])
                  (fun b hb1 => zCe_row rfl (zPL_ne hb1) rfl (fun _ => rfl))
                rw [← hset]
                exact h1
              | _ => cases hv
            | 3, hT, hv =>
              cases v with
              | ref b =>
                simp only [z_pf] at hv
                by_cases h01 : b < g.1 ∧ zG g a kf = none ∧ ini = ci
                · rw [if_pos h01] at hv
                  cases hv
                  obtain ⟨hown2, hname⟩ := hfi h01.2.2
                  have hb14 : b ≠ 1400 := z_ne14 h01.1 hg
                  rw [zTr_ref hb14]
                  have hty : ∃ ty, parseFieldDescriptor (r0.2.1 kf).2.2.1 = some ty ∧ narrow ty (.ref (zad B0 sp b)) = .ref (zad B0 sp b) ∧ fits ty (.ref (zad B0 sp b)) = true := by
                    rcases hT.2.2 with ⟨z, hz⟩ | ⟨z, hz⟩
                    · exact ⟨_, hz, rfl, rfl⟩
                    · exact ⟨_, hz, rfl, rfl⟩
                  obtain ⟨ty, t1, t2, t3⟩ := hty
                  refine ⟨rfl, va_putF (ci := ci) (C := r0.1) (T := r0.2.1) (N := r0.2.2) hx hb hts hu (z_ty r0) (z_ty_ok hr0) (z_nm hr0) hown hK hP hD hS a he hr0 kf hkf hw (fun _ z => z) hT.2.1 hname (by rw [hown2]; exact hT.1) t1 t2 t3 hlen hd (fun H1 locs1 h1 h2 h3 => k H1 locs1 ?_ h3)⟩
                  have hset := zWo_set (C := C) (ad := zad B0 sp) (g := g) (g' := (g.1, ((a, kf), b) :: g.2)) (h := h) (h' := h) (e := .inr (ci, (((zFs[ci]?).getD []).mapIdx (fun k c => zFv (zad B0 sp) g h a k c)).set kf (.ref (zad B0 sp b)))) ha rfl
                    (by rw [zCe_ob hki, zFv_set (g := g) (h := h) hfc (v := .ref (zad B0 sp b)) (by simp only [zFv, zG_cons_self]; rfl) (fun j d hj => by match d with | 0 => rfl | 1 => rfl | 2 => rfl | 3 => simp only [zFv]; rw [zG_cons_ne (fun z => hj z.2)] | _ + 4 => rfl)])
                    (fun b1 hb1 => zCe_row rfl rfl rfl (fun k1 => zG_cons_ne (fun z => hb1 z.1)))
                  rw [← hset]
                  exact h1
                · rw [if_neg h01] at hv; cases hv
              | _ => cases hv
            | 4, hT, hv =>
              cases v with
              | ref b =>
                simp only [z_pf] at hv
                by_cases h01 : b < g.1
                · rw [if_pos h01] at hv
                  cases hv
                  have hb14 : b ≠ 1400 := z_ne14 h01 hg
                  rw [zTr_ref hb14]
                  obtain ⟨z, hz⟩ := hT.2
                  refine ⟨rfl, va_put (ci := ci) (C := r0.1) (T := r0.2.1) (N := r0.2.2) hx hb hts hu (z_ty r0) (z_ty_ok hr0) (z_nm hr0) hown hK hP hD hS a he hr0 kf hkf hw (fun _ z => z) hT.1 hz rfl rfl hlen hd (fun H1 locs1 h1 h2 h3 => k H1 locs1 ?_ h3)⟩
                  have hset := zWo_set (C := C) (ad := zad B0 sp) (g := g) (g' := g) (h := h) (h' := zPR h a kf b) (e := .inr (ci, (((zFs[ci]?).getD []).mapIdx (fun k c => zFv (zad B0 sp) g h a k c)).set kf (.ref (zad B0 sp b)))) ha rfl
                    (by rw [zCe_ob hki, zFv_set (g := g) (h := h) hfc (v := .ref (zad B0 sp b)) (by simp [zFv, zPR, va_rf]) (fun j d hj => by match d with | 0 => rfl | 1 => rfl | 2 => rfl | 3 => rfl | _ + 4 => simp [zFv, zPR, hj])])
                    (fun b1 hb1 => zCe_row rfl rfl (zPR_ne hb1) (fun _ => rfl))
                  rw [← hset]
                  exact h1
                · rw [if_neg h01] at hv; cases hv
              | _ => cases hv
            | n + 5, hT, hv => simp [z_pf] at hv
      · rw [if_neg ho] at hs; cases hs
  · cases hs
theorem ziast_ok (hc : zCtx D C B0 sp fq sc M p s m args meth c) (hg : g.1 ≤ 1000) (hP : va_P D zCl (zWo C (zad B0 sp) g h) H) (hS : va_S (zA B0) s.heap H locs) (hd : decode (zBy M) pc = .ok (.iastore, 1)) (hs : z_iast g h st = some (st', g', h'))
    (k : ∀ (H1 : Heap) (locs1 : List Loc), va_P D zCl (zWo C (zad B0 sp) g' h') H1 → va_S (zA B0) s.heap H1 locs1 → W p l e R s m args below meth c H1 locs1 cells slots Q (F0 m (pc + 1) ls (st'.map (zTr (zad B0 sp) fq)))) : g'.1 = g.1 ∧ W p l e R s m args below meth c H locs cells slots Q (F0 m pc ls (st.map (zTr (zad B0 sp) fq))) := by
  obtain ⟨hx, hb, hml, hown, hts, hK, hRO, hin, hB, hfq⟩ := hc
  have hD := zWo_D (C := C) (B0 := B0) (sp := sp) (h := h) hg
  unfold z_iast at hs
  split at hs
  · rename_i x j a r
    by_cases ha : a < g.1
    · rw [if_pos ha] at hs
      split at hs
      · rename_i n hn
        by_cases hi : zin j n = true
        · rw [if_pos hi] at hs
          cases hs
          have he := zWo_get (C := C) (ad := zad B0 sp) (h := h) ha
          rw [zCe_i (zLn_iff.mp hn)] at he
          rw [List.map_cons, List.map_cons, List.map_cons, zTr_ref (z_ne14 ha hg)]
          refine ⟨rfl, va_iast hx hb hK hP hD hS a 0 he rfl (zin_iff.mp hi) hd (fun H1 locs1 h1 h2 h3 => k H1 locs1 ?_ h3)⟩
          have hset := zWo_set (C := C) (ad := zad B0 sp) (g := g) (g' := g) (h := h) (h' := zPI h a j.toNatClampNeg x) (e := .inl (C 0, n, .inl (upd (h.1 a) j.toNatClampNeg x))) ha rfl
            (by rw [zCe_i (zLn_iff.mp hn), zPI_up]) (fun b hb1 => zCe_row (zPI_ne hb1) rfl rfl (fun _ => rfl))
          rw [← hset]
          exact h1
        · rw [if_neg hi] at hs; cases hs
      · cases hs
    · rw [if_neg ha] at hs; cases hs
  · cases hs
theorem zbast_ok (hc : zCtx D C B0 sp fq sc M p s m args meth c) (hg : g.1 ≤ 1000) (hP : va_P D zCl (zWo C (zad B0 sp) g h) H) (hS : va_S (zA B0) s.heap H locs) (hd : decode (zBy M) pc = .ok (.bastore, 1)) (hs : z_bast g h st = some (st', g', h'))
    (k : ∀ (H1 : Heap) (locs1 : List Loc), va_P D zCl (zWo C (zad B0 sp) g' h') H1 → va_S (zA B0) s.heap H1 locs1 → W p l e R s m args below meth c H1 locs1 cells slots Q (F0 m (pc + 1) ls (st'.map (zTr (zad B0 sp) fq)))) : g'.1 = g.1 ∧ W p l e R s m args below meth c H locs cells slots Q (F0 m pc ls (st.map (zTr (zad B0 sp) fq))) := by
  obtain ⟨hx, hb, hml, hown, hts, hK, hRO, hin, hB, hfq⟩ := hc
  have hD := zWo_D (C := C) (B0 := B0) (sp := sp) (h := h) hg
  unfold z_bast at hs
  split at hs
  · rename_i x j a r
    by_cases ha : a < g.1 ∧ (x = 0 ∨ x = 1)
    · rw [if_pos ha] at hs
      split at hs
      · rename_i n hn
        by_cases hi : zin j n = true
        · rw [if_pos hi] at hs
          cases hs
          have he := zWo_get (C := C) (ad := zad B0 sp) (h := h) ha.1
          rw [zCe_z (zLn_iff.mp hn)] at he
          rw [List.map_cons, List.map_cons, List.map_cons, zTr_ref (z_ne14 ha.1 hg)]
          refine ⟨rfl, va_zast hx hb hK hP hD hS a 1 he rfl (zin_iff.mp hi) hd (fun H1 locs1 h1 h2 h3 => k H1 locs1 ?_ h3)⟩
          have hnar : vp_nar .boolean x = x := by rcases ha.2 with rfl | rfl <;> rfl
          rw [hnar] at h1
          have hset := zWo_set (C := C) (ad := zad B0 sp) (g := g) (g' := g) (h := h) (h' := zPI h a j.toNatClampNeg x) (e := .inl (C 1, n, .inl (upd (h.1 a) j.toNatClampNeg x))) ha.1 rfl
            (by rw [zCe_z (zLn_iff.mp hn), zPI_up]) (fun b hb1 => zCe_row (zPI_ne hb1) rfl rfl (fun _ => rfl))
          rw [← hset]
          exact h1
        · rw [if_neg hi] at hs; cases hs
      · cases hs
    · rw [if_neg ha] at hs; cases hs
  · cases hs
theorem zlast_ok (hc : zCtx D C B0 sp fq sc M p s m args meth c) (hg : g.1 ≤ 1000) (hP : va_P D zCl (zWo C (zad B0 sp) g h) H) (hS : va_S (zA B0) s.heap H locs) (hd : decode (zBy M) pc = .ok (.lastore, 1)) (hs : z_last g h st = some (st', g', h'))
    (k : ∀ (H1 : Heap) (locs1 : List Loc), va_P D zCl (zWo C (zad B0 sp) g' h') H1 → va_S (zA B0) s.heap H1 locs1 → W p l e R s m args below meth c H1 locs1 cells slots Q (F0 m (pc + 1) ls (st'.map (zTr (zad B0 sp) fq)))) : g'.1 = g.1 ∧ W p l e R s m args below meth c H locs cells slots Q (F0 m pc ls (st.map (zTr (zad B0 sp) fq))) := by
  obtain ⟨hx, hb, hml, hown, hts, hK, hRO, hin, hB, hfq⟩ := hc
  have hD := zWo_D (C := C) (B0 := B0) (sp := sp) (h := h) hg
  unfold z_last at hs
  split at hs
  · rename_i x j a r
    by_cases ha : a < g.1
    · rw [if_pos ha] at hs
      split at hs
      · rename_i n hn
        by_cases hi : zin j n = true
        · rw [if_pos hi] at hs
          cases hs
          have he := zWo_get (C := C) (ad := zad B0 sp) (h := h) ha
          rw [zCe_l (zLn_iff.mp hn)] at he
          rw [List.map_cons, List.map_cons, List.map_cons, zTr_ref (z_ne14 ha hg)]
          refine ⟨rfl, va_last hx hb hK hP hD hS a 2 he rfl (zin_iff.mp hi) hd (fun H1 locs1 h1 h2 h3 => k H1 locs1 ?_ h3)⟩
          have hset := zWo_set (C := C) (ad := zad B0 sp) (g := g) (g' := g) (h := h) (h' := zPL h a j.toNatClampNeg x) (e := .inl (C 2, n, .inr (.inl (vp_updL (h.2.1 a) j.toNatClampNeg x)))) ha rfl
            (by rw [zCe_l (zLn_iff.mp hn), zPL_up]) (fun b hb1 => zCe_row rfl (zPL_ne hb1) rfl (fun _ => rfl))
          rw [← hset]
          exact h1
        · rw [if_neg hi] at hs; cases hs
      · cases hs
    · rw [if_neg ha] at hs; cases hs
  · cases hs
theorem zaast_ok (hc : zCtx D C B0 sp fq sc M p s m args meth c) (hg : g.1 ≤ 1000) (hP : va_P D zCl (zWo C (zad B0 sp) g h) H) (hS : va_S (zA B0) s.heap H locs) (hd : decode (zBy M) pc = .ok (.aastore, 1)) (hs : z_aast g h st = some (st', g', h'))
    (k : ∀ (H1 : Heap) (locs1 : List Loc), va_P D zCl (zWo C (zad B0 sp) g' h') H1 → va_S (zA B0) s.heap H1 locs1 → W p l e R s m args below meth c H1 locs1 cells slots Q (F0 m (pc + 1) ls (st'.map (zTr (zad B0 sp) fq)))) : g'.1 = g.1 ∧ W p l e R s m args below meth c H locs cells slots Q (F0 m pc ls (st.map (zTr (zad B0 sp) fq))) := by
  obtain ⟨hx, hb, hml, hown, hts, hK, hRO, hin, hB, hfq⟩ := hc
  have hD := zWo_D (C := C) (B0 := B0) (sp := sp) (h := h) hg
  unfold z_aast at hs
  split at hs
  · rename_i b j a r
    by_cases ha : a < g.1 ∧ zOb g b 4 = true
    · rw [if_pos ha] at hs
      split at hs
      · rename_i n hn
        by_cases hi : zin j n = true
        · rw [if_pos hi] at hs
          cases hs
          obtain ⟨hb1, hb2⟩ := zOb_iff.mp ha.2
          have he := zWo_get (C := C) (ad := zad B0 sp) (h := h) ha.1
          rw [zCe_q (zLn_iff.mp hn)] at he
          have he2 := zWo_get (C := C) (ad := zad B0 sp) (h := h) hb1
          rw [zCe_ob hb2] at he2
          rw [List.map_cons, List.map_cons, List.map_cons, zTr_ref (z_ne14 ha.1 hg), zTr_ref (z_ne14 hb1 hg)]
          refine ⟨rfl, va_astq (r := (RX5, TX5, 7)) hx hb hK hP hD hS a 3 b 4 he rfl he2 rfl (zin_iff.mp hi) hd (fun H1 locs1 h1 h2 h3 => k H1 locs1 ?_ h3)⟩
          have hset := zWo_set (C := C) (ad := zad B0 sp) (g := g) (g' := g) (h := h) (h' := zPR h a j.toNatClampNeg b) (e := .inl (C 3, n, .inr (.inr (.inr (.inr (va_up (fun j => (h.2.2 a j).map (zad B0 sp)) j.toNatClampNeg (some (zad B0 sp b)))))))) ha.1 rfl
            (by
              rw [zCe_q (zLn_iff.mp hn), zPR_up]
              congr 7
              funext y
              by_cases hy : y = j.toNatClampNeg
              · subst hy; simp [va_up]
              · simp [va_up, hy]) (fun b hb1 => zCe_row rfl rfl (zPR_ne hb1) (fun _ => rfl))
          rw [← hset]
          exact h1
        · rw [if_neg hi] at hs; cases hs
      · cases hs
    · rw [if_neg ha] at hs; cases hs
  · cases hs
end
