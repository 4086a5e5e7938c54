/-! ===== soundness: reads of the heap ===== -/
section
variable {p : Program} {l : Launch} {e : Env} {R : Room} {s : State} {m : MethodId} {args : Array Value} {below : List Frame} {meth : Method} {c : Code} {H : Heap} {locs : List Loc} {cells slots : Nat} {Q : State → Prop}
variable {D : va_G} {C : Nat → ClassId} {B0 : Nat} {sp : Nat → Nat} {fq : Value} {sc : zSc} {M : Nat} {g : zSg} {h : zHp} {pc i : Nat} {st st' : List Value} {ls : Array Slot}
theorem z_bl (j : Nat) (hj : j < 5) : zBl.getD j 0 = (zBt.getD j []).length := by
  match j, hj with
  | 0, _ => rfl
  | 1, _ => rfl
  | 2, _ => rfl
  | 3, _ => rfl
  | 4, _ => rfl
theorem z_ne14 {a : Nat} {g : zSg} (ha : a < g.1) (hg : g.1 ≤ 1000) : a ≠ 1400 := by omega
theorem zget_ok (hc : zCtx D C B0 sp fq sc M p s m args meth c) (hg : g.1 ≤ 1000) (hP : va_P D zCl (zWo C (zad B0 sp) g h) H) (hS : va_S (zA B0) s.heap H locs) (hd : decode (zBy M) pc = .ok (.getfield i, 3)) (hs : z_get (zOn M) i g h st = some st')
    (k : W p l e R s m args below meth c H locs cells slots Q (F0 m (pc + 3) ls (st'.map (zTr (zad B0 sp) fq)))) : W p l e R s m args below meth c H locs cells slots Q (F0 m pc ls (st.map (zTr (zad B0 sp) fq))) := by
  obtain ⟨hx, hb, hml, hown, hts, hK, hRO, hin, hB, hfq⟩ := hc
  unfold z_get at hs
  split at hs
  · rename_i a r
    cases hf : zFl (zOn M) i with
    | none => rw [hf] at hs; cases hs
    | some q =>
      obtain ⟨ci, kf⟩ := q
      rw [hf] at hs
      simp only at hs
      by_cases h100 : ci = 100
      · subst h100
        rw [if_pos rfl] at hs
        by_cases ha : 1000 ≤ a ∧ a < 1005
        · rw [if_pos ha] at hs
          obtain ⟨hw1, hw2⟩ := zFl_str hf
          obtain ⟨j, rfl⟩ := Nat.le.dest ha.1
          have hj : j < 5 := by have h9 : (1000 + j : Nat) < 1005 := ha.2; omega
          have hE := hRO.1.1 j hj
          rw [List.map_cons, zTr_ref (by show (_ : Nat) ≠ 1400; omega), zad_ge (by show ¬ (_ : Nat) < 1000; omega)]
          by_cases hk : kf = 0
          · rw [if_pos hk] at hs
            cases hs
            rw [List.map_cons, zTr_ref (by show (_ : Nat) ≠ 1400; omega), zad_ge (by show ¬ (_ : Nat) < 1000; omega), show 1000 + j + 100 = 1100 + j by omega] at k
            have hw := hts _ (hw1 hk)
            generalize zO (zOn M) = own at hown hw
            exact vk_getf hx hb hE.2.2.1 hS hown hw (fun _ z => z) hd k
          · rw [if_neg hk] at hs
            cases hs
            have hw := hts _ (hw2 hk)
            generalize zO (zOn M) = own at hown hw
            exact vk_getf hx hb hE.2.1 hS hown hw (fun _ z => z) hd k
        · rw [if_neg ha] at hs; cases hs
      · rw [if_neg h100] at hs
        obtain ⟨r0, hr0, hkf, hw⟩ := zFl_in hf h100
        by_cases ho : zOb g a ci = true
        · rw [if_pos ho] at hs
          obtain ⟨ha, hki⟩ := zOb_iff.mp ho
          cases hfc : zFc ci kf with
          | none => rw [hfc] at hs; cases hs
          | some cd =>
            rw [hfc] at hs
            simp only at hs
            cases hv : z_gf g h a kf cd with
            | none => rw [hv] at hs; cases hs
            | some v =>
              rw [hv] at hs
              cases hs
              have hw := hts _ hw
              have hu := z_uws hr0
              generalize zO (zOn M) = own at hown hw
              rw [List.map_cons, zTr_ref (z_ne14 ha hg)]
              have he := zWo_get (C := C) (ad := zad B0 sp) (h := h) ha
              rw [zCe_ob hki] at he
              have hval : zFv (zad B0 sp) g h a kf cd = zTr (zad B0 sp) fq v := by
                match cd, hv with
                | 0, hv => cases hv; rfl
                | 1, hv => cases hv; rfl
                | 2, hv => cases hv; rfl
                | 3, hv =>
                  simp only [z_gf] at hv
                  cases hz : zG g a kf with
                  | none => rw [hz] at hv; cases hv
                  | some b =>
                    rw [hz] at hv
                    simp only at hv
                    by_cases hb1 : b < 1000
                    · rw [if_pos hb1] at hv
                      cases hv
                      rw [zTr_ref (by omega)]
                      simp [zFv, hz, va_rf]
                    · rw [if_neg hb1] at hv; cases hv
                | 4, hv =>
                  simp only [z_gf] at hv
                  cases hz : h.2.2 a kf with
                  | none => rw [hz] at hv; cases hv
                  | some b =>
                    rw [hz] at hv
                    simp only at hv
                    by_cases hb1 : zTw b = true
                    · rw [if_pos hb1] at hv
                      cases hv
                      have hb2 : b ≠ 1400 := by
                        intro hbb
                        rw [hbb] at hb1
                        exact absurd hb1 (by decide)
                      rw [zTr_ref hb2]
                      simp [zFv, hz, va_rf]
                    · rw [if_neg hb1] at hv; cases hv
                | n + 5, hv => simp [z_gf] at hv
              exact va_get (ci := ci) (C := r0.1) (T := r0.2.1) (N := r0.2.2) hx hb hts hu hown hK hP a he hr0 kf hkf hw (fun _ z => z) (zFv_at hfc) hd (by rw [hval]; exact k)
        · rw [if_neg ho] at hs; cases hs
  · cases hs
theorem ziald_ok (hc : zCtx D C B0 sp fq sc M p s m args meth c) (hg : g.1 ≤ 1000) (hP : va_P D zCl (zWo C (zad B0 sp) g h) H) (hS : va_S (zA B0) s.heap H locs) (hd : decode (zBy M) pc = .ok (.iaload, 1)) (hs : z_iald sc g h st = some st')
    (k : W p l e R s m args below meth c H locs cells slots Q (F0 m (pc + 1) ls (st'.map (zTr (zad B0 sp) fq)))) : W p l e R s m args below meth c H locs cells slots Q (F0 m pc ls (st.map (zTr (zad B0 sp) fq))) := by
  obtain ⟨hx, hb, hml, hown, hts, hK, hRO, hin, hB, hfq⟩ := hc
  unfold z_iald at hs
  split at hs
  · rename_i j a r
    by_cases h13 : a = 1300
    · subst h13
      rw [if_pos rfl] at hs
      by_cases hi : zin j sc.1 = true
      · rw [if_pos hi] at hs
        cases hs
        have h9 := hRO.2.2.2.2.2.2.2.2
        exact va_sld hx hb h9.1 (by omega) (fun z => by unfold zA at z; omega) hS (zin_iff.mp hi) hd k
      · rw [if_neg hi] at hs; cases hs
    · rw [if_neg h13] at hs
      by_cases ha : a < g.1
      · rw [if_pos ha] at hs
        split at hs
        · rename_i n hn
          by_cases hi : zin j n = true
          · rw [if_pos hi] at hs
            cases hs
            have he := zWo_get (C := C) (ad := zad B0 sp) (h := h) ha
            rw [zCe_i (zLn_iff.mp hn)] at he
            rw [List.map_cons, List.map_cons, zTr_ref (z_ne14 ha hg)]
            exact va_iald hx hb hK hP a 0 he rfl (zin_iff.mp hi) hd k
          · rw [if_neg hi] at hs; cases hs
        · cases hs
      · rw [if_neg ha] at hs; cases hs
  · cases hs
theorem zbald_ok (hc : zCtx D C B0 sp fq sc M p s m args meth c) (hg : g.1 ≤ 1000) (hP : va_P D zCl (zWo C (zad B0 sp) g h) H) (hS : va_S (zA B0) s.heap H locs) (hd : decode (zBy M) pc = .ok (.baload, 1)) (hs : z_bald g h st = some st')
    (k : W p l e R s m args below meth c H locs cells slots Q (F0 m (pc + 1) ls (st'.map (zTr (zad B0 sp) fq)))) : W p l e R s m args below meth c H locs cells slots Q (F0 m pc ls (st.map (zTr (zad B0 sp) fq))) := by
  obtain ⟨hx, hb, hml, hown, hts, hK, hRO, hin, hB, hfq⟩ := hc
  unfold z_bald at hs
  split at hs
  · rename_i j a r
    by_cases h13 : 1100 ≤ a ∧ a < 1105
    · rw [if_pos h13] at hs
      obtain ⟨b, rfl⟩ := Nat.le.dest h13.1
      have hb5 : b < 5 := by have h9 : (1100 + b : Nat) < 1105 := (by first | exact h13.2 | exact h11.2); omega
      rw [show 1100 + b - 1100 = b by omega] at hs
      by_cases hi : zin j (zBt.getD b []).length = true
      · rw [if_pos hi] at hs
        cases hs
        have hE := (hRO.1.1 b hb5).2.2.2
        rw [z_bl b hb5] at hE
        rw [List.map_cons, List.map_cons, zTr_ref (by show (_ : Nat) ≠ 1400; omega), zad_ge (by show ¬ (_ : Nat) < 1000; omega)]
        exact va_tb hx hb hE hS (zin_iff.mp hi) rfl hd k
      · rw [if_neg hi] at hs; cases hs
    · rw [if_neg h13] at hs
      by_cases ha : a < g.1
      · rw [if_pos ha] at hs
        split at hs
        · rename_i n hn
          by_cases hi : zin j n = true
          · rw [if_pos hi] at hs
            cases hs
            have he := zWo_get (C := C) (ad := zad B0 sp) (h := h) ha
            rw [zCe_z (zLn_iff.mp hn)] at he
            rw [List.map_cons, List.map_cons, zTr_ref (z_ne14 ha hg)]
            exact va_zald hx hb hK hP a 1 he rfl (zin_iff.mp hi) hd k
          · rw [if_neg hi] at hs; cases hs
        · cases hs
      · rw [if_neg ha] at hs; cases hs
  · cases hs
theorem zlald_ok (hc : zCtx D C B0 sp fq sc M p s m args meth c) (hg : g.1 ≤ 1000) (hP : va_P D zCl (zWo C (zad B0 sp) g h) H) (hS : va_S (zA B0) s.heap H locs) (hd : decode (zBy M) pc = .ok (.laload, 1)) (hs : z_lald g h st = some st')
    (k : W p l e R s m args below meth c H locs cells slots Q (F0 m (pc + 1) ls (st'.map (zTr (zad B0 sp) fq)))) : W p l e R s m args below meth c H locs cells slots Q (F0 m pc ls (st.map (zTr (zad B0 sp) fq))) := by
  obtain ⟨hx, hb, hml, hown, hts, hK, hRO, hin, hB, hfq⟩ := hc
  unfold z_lald at hs
  split at hs
  · rename_i j a r
    by_cases h13 : a = 1200
    · subst h13
      rw [if_pos rfl] at hs
      by_cases hi : zin j 6 = true
      · rw [if_pos hi] at hs
        cases hs
        exact va_tl hx hb hRO.2.2.2.1 hS (zin_iff.mp hi) rfl hd k
      · rw [if_neg hi] at hs; cases hs
    · rw [if_neg h13] at hs
      by_cases ha : a < g.1
      · rw [if_pos ha] at hs
        split at hs
        · rename_i n hn
          by_cases hi : zin j n = true
          · rw [if_pos hi] at hs
            cases hs
            have he := zWo_get (C := C) (ad := zad B0 sp) (h := h) ha
            rw [zCe_l (zLn_iff.mp hn)] at he
            rw [List.map_cons, List.map_cons, zTr_ref (z_ne14 ha hg)]
            exact va_lald hx hb hK hP a 2 he rfl (zin_iff.mp hi) hd k
          · rw [if_neg hi] at hs; cases hs
        · cases hs
      · rw [if_neg ha] at hs; cases hs
  · cases hs
theorem zaald_ok (hc : zCtx D C B0 sp fq sc M p s m args meth c) (hg : g.1 ≤ 1000) (hP : va_P D zCl (zWo C (zad B0 sp) g h) H) (hS : va_S (zA B0) s.heap H locs) (hd : decode (zBy M) pc = .ok (.aaload, 1)) (hs : z_aald g h st = some st')
    (k : W p l e R s m args below meth c H locs cells slots Q (F0 m (pc + 1) ls (st'.map (zTr (zad B0 sp) fq)))) : W p l e R s m args below meth c H locs cells slots Q (F0 m pc ls (st.map (zTr (zad B0 sp) fq))) := by
  obtain ⟨hx, hb, hml, hown, hts, hK, hRO, hin, hB, hfq⟩ := hc
  unfold z_aald at hs
  split at hs
  · rename_i j a r
    by_cases ha : a < g.1
    · rw [if_pos ha] at hs
      split at hs
      · rename_i n hn
        by_cases hi : zin j n = true
        · rw [if_pos hi] at hs
          cases hz : h.2.2 a j.toNatClampNeg with
          | none => rw [hz] at hs; cases hs
          | some b =>
            rw [hz] at hs
            simp only at hs
            by_cases hb1 : zTk b = true
            · rw [if_pos hb1] at hs
              cases hs
              have hb2 : b ≠ 1400 := by
                intro hbb
                rw [hbb] at hb1
                exact absurd hb1 (by decide)
              have he := zWo_get (C := C) (ad := zad B0 sp) (h := h) ha
              rw [zCe_q (zLn_iff.mp hn)] at he
              rw [List.map_cons, List.map_cons, zTr_ref (z_ne14 ha hg)]
              rw [List.map_cons, zTr_ref hb2] at k
              exact va_aldq hx hb hK hP a 3 he rfl (zin_iff.mp hi) hd (by rw [hz]; exact k)
            · rw [if_neg hb1] at hs; cases hs
        · rw [if_neg hi] at hs; cases hs
      · cases hs
    · rw [if_neg ha] at hs; cases hs
  · cases hs
theorem zCe_arr {C : Nat → ClassId} {ad : Nat → Nat} {g : zSg} {h : zHp} {a t n : Nat} (hk : zKi a = some (.inl (t, n))) : ∃ (t0 : Nat) (ty : FieldType) (x : vp_A), zCe C ad g h a = .inl (C t0, x) ∧ x.1 = n ∧ (zTys C)[t0]? = some (C t0, ty) := by
  match t, hk with
  | 0, hk => exact ⟨0, .int, _, zCe_i hk, rfl, rfl⟩
  | 1, hk => exact ⟨1, .boolean, _, zCe_z hk, rfl, rfl⟩
  | 2, hk => exact ⟨2, .long, _, zCe_l hk, rfl, rfl⟩
  | t + 3, hk =>
    refine ⟨3, .object "UntoldFacts$Talk", (n, .inr (.inr (.inr (.inr (fun j => (h.2.2 a j).map ad))))), ?_, rfl, rfl⟩
    unfold zCe
    rw [hk]
    rfl
theorem zalen_ok (hc : zCtx D C B0 sp fq sc M p s m args meth c) (hg : g.1 ≤ 1000) (hP : va_P D zCl (zWo C (zad B0 sp) g h) H) (hS : va_S (zA B0) s.heap H locs) (hd : decode (zBy M) pc = .ok (.arraylength, 1)) (hs : z_alen sc g st = some st')
    (k : W p l e R s m args below meth c H locs cells slots Q (F0 m (pc + 1) ls (st'.map (zTr (zad B0 sp) fq)))) : W p l e R s m args below meth c H locs cells slots Q (F0 m pc ls (st.map (zTr (zad B0 sp) fq))) := by
  obtain ⟨hx, hb, hml, hown, hts, hK, hRO, hin, hB, hfq⟩ := hc
  unfold z_alen at hs
  split at hs
  · rename_i a r
    by_cases h13 : a = 1300
    · subst h13
      rw [if_pos rfl] at hs
      cases hs
      have h9 := hRO.2.2.2.2.2.2.2.2
      exact va_slen (b := sp 1300) hx hb h9.1 (by omega) (fun z => by unfold zA at z; omega) hS hd k
    · rw [if_neg h13] at hs
      by_cases h12 : a = 1200
      · subst h12
        rw [if_pos rfl] at hs
        cases hs
        exact va_tlen hx hb hRO.2.2.2.1 hS rfl hd k
      · rw [if_neg h12] at hs
        by_cases h11 : 1100 ≤ a ∧ a < 1105
        · rw [if_pos h11] at hs
          obtain ⟨b, rfl⟩ := Nat.le.dest h11.1
          have hb5 : b < 5 := by have h9 : (1100 + b : Nat) < 1105 := (by first | exact h13.2 | exact h11.2); omega
          rw [show 1100 + b - 1100 = b by omega] at hs
          cases hs
          have hE := (hRO.1.1 b hb5).2.2.2
          rw [z_bl b hb5] at hE
          rw [List.map_cons, zTr_ref (by show (_ : Nat) ≠ 1400; omega), zad_ge (by show ¬ (_ : Nat) < 1000; omega)]
          exact va_tlen hx hb hE hS rfl hd k
        · rw [if_neg h11] at hs
          by_cases ha : a < g.1
          · rw [if_pos ha] at hs
            split at hs
            · rename_i t n hn
              cases hs
              have he := zWo_get (C := C) (ad := zad B0 sp) (h := h) ha
              obtain ⟨t0, ty, x, h1, h2, h3⟩ := zCe_arr (C := C) (ad := zad B0 sp) (g := g) (h := h) (zLn_iff.mp hn)
              rw [h1] at he
              rw [List.map_cons, zTr_ref (z_ne14 ha hg)]
              exact va_alen hx hb hK hP a t0 he h3 (by rw [h2]) hd k
            · cases hs
          · rw [if_neg ha] at hs; cases hs
  · cases hs
end
