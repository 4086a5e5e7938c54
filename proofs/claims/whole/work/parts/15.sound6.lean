/-! ===== soundness: new objects and arrays, Object(), arraycopy ===== -/
def z_has (w : Cond) : Bool := lw_tbl.contains w && goodWord w
theorem z_has_in {w : Cond} (h : z_has w = true) : w ∈ zTb := by
  unfold z_has at h
  rw [Bool.and_eq_true] at h
  exact List.mem_filter.mpr ⟨List.contains_iff_mem.mp h.1, h.2⟩
set_option maxRecDepth 100000 in
theorem z_wI : Cond.arrayClass .int ∈ zTb := z_has_in (by decide +kernel)
set_option maxRecDepth 100000 in
theorem z_wZ : Cond.arrayClass .boolean ∈ zTb := z_has_in (by decide +kernel)
set_option maxRecDepth 100000 in
theorem z_wJ : Cond.arrayClass .long ∈ zTb := z_has_in (by decide +kernel)
set_option maxRecDepth 100000 in
theorem z_wO1 : Cond.instanceMethod objectInit ∈ zTb := z_has_in (by decide +kernel)
set_option maxRecDepth 100000 in
theorem z_wO2 : Cond.code objectInit ⟨#[0xb1]⟩ 1 none ∈ zTb := z_has_in (by decide +kernel)
set_option maxRecDepth 100000 in
theorem z_wA1 : Cond.native arraycopyName ∈ zTb := z_has_in (by decide +kernel)
set_option maxRecDepth 100000 in
theorem z_wA2 : Cond.static arraycopyName ∈ zTb := z_has_in (by decide +kernel)
set_option maxRecDepth 100000 in
theorem z_wA3 : Cond.initialized "java/lang/System" ∈ zTb := z_has_in (by decide +kernel)
theorem zLl_in {o i ci : Nat} (h : zLl o i = some ci) : ∃ r : vw_C, zCl[ci]? = some r ∧ Cond.classLink (zO o) i r.1 ∈ zTb ∧ Cond.instantiable r.1 r.2.2 ∈ zTb ∧ Cond.initialized r.1 ∈ zTb := by
  unfold zLl at h
  cases hk : zLt.lookup (o, i) with
  | none => rw [hk] at h; cases h
  | some q =>
    obtain ⟨a, w1, w2, w3⟩ := q
    rw [hk] at h
    cases h
    have h2 := List.all_eq_true.mp z_okLt _ (z_lk hk)
    unfold z_okL at h2
    simp only at h2
    cases hr : zCl[a]? with
    | none => rw [hr] at h2; cases h2
    | some r =>
      rw [hr] at h2
      simp only [Bool.and_eq_true] at h2
      exact ⟨r, rfl, z_wd_in h2.1.1, z_wd_in h2.1.2, z_wd_in h2.2⟩
theorem z_new_some {o i : Nat} {st st' : List Value} {g g' : zSg} {h h' : zHp} (hs : z_new o i st g h = some (st', g', h')) : ∃ ci, zLl o i = some ci ∧ zKi g.1 = some (.inr ci) ∧ zFree g = true ∧ st' = .ref g.1 :: st ∧ g' = (g.1 + 1, g.2) ∧ h' = zBk h g.1 := by
  unfold z_new at hs
  cases hl : zLl o i with
  | none => rw [hl] at hs; cases hs
  | some ci =>
    rw [hl] at hs
    simp only at hs
    by_cases h1 : zKi g.1 = some (.inr ci) ∧ zFree g = true
    · rw [if_pos h1] at hs
      cases hs
      exact ⟨ci, rfl, h1.1, h1.2, rfl, rfl, rfl⟩
    · rw [if_neg h1] at hs; cases hs
theorem z_newa_some {t : ArrayType} {st st' : List Value} {g g' : zSg} {h h' : zHp} (hs : z_newa t g h st = some (st', g', h')) : ∃ n r, st = .int n :: r ∧ ¬ n < 0 ∧ zAt' t ≠ 9 ∧ n.toNatClampNeg ≤ 1000 ∧ zKi g.1 = some (.inl (zAt' t, n.toNatClampNeg)) ∧ zFree g = true ∧ st' = .ref g.1 :: r ∧ g' = (g.1 + 1, g.2) ∧ h' = zBk h g.1 := by
  unfold z_newa at hs
  split at hs
  · rename_i n r
    by_cases h1 : ¬ n < 0 ∧ zAt' t ≠ 9 ∧ n.toNatClampNeg ≤ 1000 ∧ zKi g.1 = some (.inl (zAt' t, n.toNatClampNeg)) ∧ zFree g = true
    · rw [if_pos h1] at hs
      cases hs
      exact ⟨n, r, rfl, h1.1, h1.2.1, h1.2.2.1, h1.2.2.2.1, h1.2.2.2.2, rfl, rfl, rfl⟩
    · rw [if_neg h1] at hs; cases hs
  · cases hs
theorem z_newq_some {o i : Nat} {st st' : List Value} {g g' : zSg} {h h' : zHp} (hs : z_newq o i g h st = some (st', g', h')) : ∃ n r, st = .int n :: r ∧ zLl o i = some 4 ∧ ¬ n < 0 ∧ n.toNatClampNeg ≤ 1000 ∧ zKi g.1 = some (.inl (3, n.toNatClampNeg)) ∧ zFree g = true ∧ st' = .ref g.1 :: r ∧ g' = (g.1 + 1, g.2) ∧ h' = zBk h g.1 := by
  unfold z_newq at hs
  split at hs
  · rename_i n r
    by_cases h1 : zLl o i = some 4 ∧ ¬ n < 0 ∧ n.toNatClampNeg ≤ 1000 ∧ zKi g.1 = some (.inl (3, n.toNatClampNeg)) ∧ zFree g = true
    · rw [if_pos h1] at hs
      cases hs
      exact ⟨n, r, rfl, h1.1, h1.2.1, h1.2.2.1, h1.2.2.2.1, h1.2.2.2.2, rfl, rfl, rfl⟩
    · rw [if_neg h1] at hs; cases hs
  · cases hs
section
variable {p : Program} {l : Launch} {e : Env} {R : Room} {s : State} {m : MethodId} {args : Array Value} {below : List Frame} {meth : Method} {c : Code} {H : Heap} {locs : List Loc} {cells slots : Nat} {Q : State → Prop}
variable {D : va_G} {C : Nat → ClassId} {B0 : Nat} {sp : Nat → Nat} {fq : Value} {sc : zSc} {M : Nat} {g g' : zSg} {h h' : zHp} {pc i : Nat} {st st' : List Value} {ls : Array Slot}
/-- the picture behind a new cell -/
theorem z_pushed {H1 : Heap} (hfr : zFree g = true) (hP : va_P D zCl (zWo C (zad B0 sp) g h) H) (hsz : H.size = B0 + g.1) (o1 : ∀ q : Nat, q < B0 + g.1 → H1[q]? = H[q]?) (z1 : H1.size = B0 + g.1 + 1) (hS : va_S (zA B0) s.heap H locs) (hat : va_at D zCl (zad B0 sp g.1, zCe C (zad B0 sp) (g.1 + 1, g.2) (zBk h g.1) g.1) H1) :
    va_P D zCl (zWo C (zad B0 sp) (g.1 + 1, g.2) (zBk h g.1)) H1 ∧ va_S (zA B0) s.heap H1 locs := by
  have hk : ∀ (k : Nat) (x : Nat × va_E), (zWo C (zad B0 sp) g h)[k]? = some x → H1[x.1]? = H[x.1]? := fun k x hx => o1 x.1 (by rw [← hsz]; exact (hP k x hx).lt)
  constructor
  · rw [← zWo_push (C := C) (ad := zad B0 sp) (g := g) (h := h) (h' := zBk h g.1) (v := g.2) (fun b hb => zCe_row (zBk_ne (by omega)).1 (zBk_ne (by omega)).2.1 (zBk_ne (by omega)).2.2 (fun _ => rfl))]
    refine (hP.kept hk).app (fun k x hx => ?_)
    have hz : k < 1 := (List.getElem?_eq_some_iff.mp hx).1
    rw [show k = 0 by omega] at hx
    cases hx
    exact hat
  · have h1 := hS.1
    exact ⟨by omega, fun q a b => (o1 q (by omega)).trans (hS.2.1 q a b), hS.2.2⟩
theorem znew_ok (hc : zCtx D C B0 sp fq sc M p s m args meth c) (hg : g.1 ≤ 1000) (hP : va_P D zCl (zWo C (zad B0 sp) g h) H) (hS : va_S (zA B0) s.heap H locs) (hcl : s.heap.size + cells = B0 + g.1) (hd : decode (zBy M) pc = .ok (.new i, 3)) (hs : z_new (zOn M) i st g h = some (st', g', h'))
    (hce : cells + (g'.1 - g.1) ≤ R.cells) (hsl : slots + (zSl g'.1 - zSl g.1) ≤ R.slots)
    (k : ∀ (H1 : Heap) (locs1 : List Loc), va_P D zCl (zWo C (zad B0 sp) g' h') H1 → va_S (zA B0) s.heap H1 locs1 → W p l e R s m args below meth c H1 locs1 (cells + (g'.1 - g.1)) (slots + (zSl g'.1 - zSl g.1)) Q (F0 m (pc + 3) ls (st'.map (zTr (zad B0 sp) fq)))) : W p l e R s m args below meth c H locs cells slots Q (F0 m pc ls (st.map (zTr (zad B0 sp) fq))) := by
  obtain ⟨hx, hb, hml, hown, hts, hK, hRO, hin, hB, hfq⟩ := hc
  obtain ⟨ci, hl, hki, hfr, rfl, rfl, rfl⟩ := z_new_some hs
  obtain ⟨r, hr, w1, w2, w3⟩ := zLl_in hl
  obtain ⟨o, -, -, hlen⟩ := zCo_at hr
  have hlt := zFree_lt hfr
  have hss : zSl (g.1 + 1) - zSl g.1 = r.2.2 := by
    rw [zSl_succ hki]
    simp only [zSz]
    omega
  have hcc : g.1 + 1 - g.1 = 1 := by omega
  simp only [hss, hcc] at hce hsl k
  refine W_size (fun hu => ?_)
  have hsz := z_size hg hP hS hcl hB hu
  have w1 := hts _ w1
  have w2 := hts _ w2
  have w3 := hts _ w3
  have hKn := hK.1 ci _ hr
  have hu2 := z_uws hr
  generalize zO (zOn M) = own at hown w1
  refine W.newcK (C := r.1) (n := r.2.2) hx hb hown w1 w2 w3 rfl hd hce hsl hKn.2.1 hsz fun H1 kC hkC e1 z1 o1 => ?_
  have had : zad B0 sp g.1 = B0 + g.1 := zad_lt hlt
  obtain ⟨p1, p2⟩ := z_pushed (C := C) (sp := sp) hfr hP hsz o1 z1 hS (by
    rw [zCe_ob hki, had]
    refine ⟨r, hr, (u_born (z_ty r) hts hu2 hKn hkC e1 (z_ty_ok hr)).to (fun j hj => ?_)⟩
    have hfc : ∃ cd, zFc ci j = some cd := by
      unfold zFc
      exact ⟨_, List.getElem?_eq_getElem (by omega)⟩
    obtain ⟨cd, hfc⟩ := hfc
    have hT := (z_T hr (z_k44 hr hfc) hfc).2
    have hv : vp_V (((zFs[ci]?).getD []).mapIdx (fun k c => zFv (zad B0 sp) (g.1 + 1, g.2) (zBk h g.1) g.1 k c)) j = zFv (zad B0 sp) (g.1 + 1, g.2) (zBk h g.1) g.1 j cd := by
      unfold vp_V
      rw [List.getD_eq_getElem?_getD, zFv_at hfc]
      rfl
    rw [hv]
    unfold z_ty
    match cd, hT with
    | 0, hT => rw [hT.1]; simp [zFv, zBk, defaultValue]
    | 1, hT => rw [hT.1]; simp [zFv, zBk, defaultValue]
    | 2, hT => rw [hT.1]; simp [zFv, zBk, defaultValue]
    | 3, hT =>
      have hz : zG (g.1 + 1, g.2) g.1 j = none := zFree_none hfr j
      rcases hT.2.2 with ⟨z, hz2⟩ | ⟨z, hz2⟩
      · rw [hz2]; simp [zFv, hz, defaultValue, va_rf]
      · rw [hz2]; simp [zFv, hz, defaultValue, va_rf]
    | n + 4, hT =>
      obtain ⟨z, hz2⟩ := hT.2
      rw [hz2]; simp [zFv, zBk, defaultValue, va_rf])
  have k := k H1 locs p1 p2
  rw [List.map_cons, zTr_ref (show g.1 ≠ 1400 by omega), had] at k
  exact k
theorem z_arr_at {H1 : Heap} {cA : ClassId} {t n : Nat} {ty : FieldType} (hkt : (t = 0 ∧ ty = .int) ∨ (t = 1 ∧ ty = .boolean) ∨ (t = 2 ∧ ty = .long)) (hlt : g.1 < 1000) (hK : va_K D zCl (zTys C) s) (hki : zKi g.1 = some (.inl (t, n))) (hNm : s.vm.findClass ("[" ++ ty.toString) = some cA) (e1 : H1[B0 + g.1]? = some (arrV cA n (fun _ => defaultValue ty))) :
    va_at D zCl (zad B0 sp g.1, zCe C (zad B0 sp) (g.1 + 1, g.2) (zBk h g.1) g.1) H1 := by
  rw [zad_lt hlt]
  rcases hkt with ⟨rfl, rfl⟩ | ⟨rfl, rfl⟩ | ⟨rfl, rfl⟩
  · have hcA : C 0 = cA := Option.some.inj (((hK.2 0 _ rfl).2 : s.vm.findClass ("[" ++ (FieldType.int).toString) = some (C 0)).symm.trans hNm)
    rw [zCe_i hki, hcA]
    show H1[B0 + g.1]? = some (vp_cell _ _)
    rw [e1, vp_cell_i]
    simp [zBk, defaultValue]
  · have hcA : C 1 = cA := Option.some.inj (((hK.2 1 _ rfl).2 : s.vm.findClass ("[" ++ (FieldType.boolean).toString) = some (C 1)).symm.trans hNm)
    rw [zCe_z hki, hcA]
    show H1[B0 + g.1]? = some (vp_cell _ _)
    rw [e1, vp_cell_i]
    simp [zBk, defaultValue]
  · have hcA : C 2 = cA := Option.some.inj (((hK.2 2 _ rfl).2 : s.vm.findClass ("[" ++ (FieldType.long).toString) = some (C 2)).symm.trans hNm)
    rw [zCe_l hki, hcA]
    show H1[B0 + g.1]? = some (vp_cell _ _)
    rw [e1, vp_cell_l]
    simp [zBk, defaultValue]
theorem znewa_ok {t : ArrayType} (hc : zCtx D C B0 sp fq sc M p s m args meth c) (hg : g.1 ≤ 1000) (hP : va_P D zCl (zWo C (zad B0 sp) g h) H) (hS : va_S (zA B0) s.heap H locs) (hcl : s.heap.size + cells = B0 + g.1) (hd : decode (zBy M) pc = .ok (.newarray t, 2)) (hs : z_newa t g h st = some (st', g', h'))
    (hce : cells + (g'.1 - g.1) ≤ R.cells) (hsl : slots + (zSl g'.1 - zSl g.1) ≤ R.slots)
    (k : ∀ (H1 : Heap) (locs1 : List Loc), va_P D zCl (zWo C (zad B0 sp) g' h') H1 → va_S (zA B0) s.heap H1 locs1 → W p l e R s m args below meth c H1 locs1 (cells + (g'.1 - g.1)) (slots + (zSl g'.1 - zSl g.1)) Q (F0 m (pc + 2) ls (st'.map (zTr (zad B0 sp) fq)))) : W p l e R s m args below meth c H locs cells slots Q (F0 m pc ls (st.map (zTr (zad B0 sp) fq))) := by
  obtain ⟨hx, hb, hml, hown, hts, hK, hRO, hin, hB, hfq⟩ := hc
  obtain ⟨n, r, rfl, hn, h9, hn1, hki, hfr, rfl, rfl, rfl⟩ := z_newa_some hs
  have hlt := zFree_lt hfr
  have hss : zSl (g.1 + 1) - zSl g.1 = n.toNatClampNeg := by
    rw [zSl_succ hki]
    simp only [zSz]
    omega
  have hcc : g.1 + 1 - g.1 = 1 := by omega
  simp only [hss, hcc] at hce hsl k
  refine W_size (fun hu => ?_)
  have hsz := z_size hg hP hS hcl hB hu
  have had : zad B0 sp g.1 = B0 + g.1 := zad_lt hlt
  have hkt : ∃ ty, newarray.typeOf t = ty ∧ (Cond.arrayClass ty).before args s = true ∧ componentBytes ty ≤ 8 ∧ ((zAt' t = 0 ∧ ty = .int) ∨ (zAt' t = 1 ∧ ty = .boolean) ∨ (zAt' t = 2 ∧ ty = .long)) := by
    cases t with
    | int => exact ⟨.int, rfl, hts _ z_wI, by decide, Or.inl ⟨rfl, rfl⟩⟩
    | boolean => exact ⟨.boolean, rfl, hts _ z_wZ, by decide, Or.inr (Or.inl ⟨rfl, rfl⟩)⟩
    | long => exact ⟨.long, rfl, hts _ z_wJ, by decide, Or.inr (Or.inr ⟨rfl, rfl⟩)⟩
    | _ => exact absurd rfl h9
  obtain ⟨ty, hty, hwd, hby, hkt⟩ := hkt
  refine va_newaK hx hb (by rw [hty]; exact hwd) rfl hd rfl hn rfl (by rw [hty]; exact Nat.le_trans (Nat.mul_le_mul hn1 hby) (by decide)) hce hsl hsz fun H1 cA e1 z1 o1 hAr hNm => ?_
  rw [hty] at e1 hNm
  obtain ⟨p1, p2⟩ := z_pushed (C := C) (sp := sp) hfr hP hsz o1 z1 hS (z_arr_at hkt hlt hK hki hNm e1)
  have k := k H1 locs p1 p2
  rw [List.map_cons, zTr_ref (show g.1 ≠ 1400 by omega), had] at k
  exact k
theorem znewq_ok (hc : zCtx D C B0 sp fq sc M p s m args meth c) (hg : g.1 ≤ 1000) (hP : va_P D zCl (zWo C (zad B0 sp) g h) H) (hS : va_S (zA B0) s.heap H locs) (hcl : s.heap.size + cells = B0 + g.1) (hd : decode (zBy M) pc = .ok (.anewarray i, 3)) (hs : z_newq (zOn M) i g h st = some (st', g', h'))
    (hce : cells + (g'.1 - g.1) ≤ R.cells) (hsl : slots + (zSl g'.1 - zSl g.1) ≤ R.slots)
    (k : ∀ (H1 : Heap) (locs1 : List Loc), va_P D zCl (zWo C (zad B0 sp) g' h') H1 → va_S (zA B0) s.heap H1 locs1 → W p l e R s m args below meth c H1 locs1 (cells + (g'.1 - g.1)) (slots + (zSl g'.1 - zSl g.1)) Q (F0 m (pc + 3) ls (st'.map (zTr (zad B0 sp) fq)))) : W p l e R s m args below meth c H locs cells slots Q (F0 m pc ls (st.map (zTr (zad B0 sp) fq))) := by
  obtain ⟨hx, hb, hml, hown, hts, hK, hRO, hin, hB, hfq⟩ := hc
  obtain ⟨n, r, rfl, hl, hn, hn1, hki, hfr, rfl, rfl, rfl⟩ := z_newq_some hs
  obtain ⟨r0, hr, w1, w2, w3⟩ := zLl_in hl
  have hr4 : r0.1 = "UntoldFacts$Talk" := by
    have h4 : zCl[4]? = some (RX5, TX5, 7) := rfl
    rw [h4] at hr
    cases hr
    rfl
  have hlt := zFree_lt hfr
  have hss : zSl (g.1 + 1) - zSl g.1 = n.toNatClampNeg := by
    rw [zSl_succ hki]
    simp only [zSz]
    omega
  have hcc : g.1 + 1 - g.1 = 1 := by omega
  simp only [hss, hcc] at hce hsl k
  refine W_size (fun hu => ?_)
  have hsz := z_size hg hP hS hcl hB hu
  have had : zad B0 sp g.1 = B0 + g.1 := zad_lt hlt
  have w1 := hts _ w1
  rw [hr4] at w1
  generalize zO (zOn M) = own at hown w1
  have hover := va_AO.use (A := args) hRO.2.2.2.2.2.2.2.1
  refine W.anew hx hb hown w1 hover rfl hd rfl hn (by omega) hce hsl fun cA kA comp f1 f2 f3 f4 => ?_
  generalize hH1 : H.push ({ cls := cA, slots := Array.replicate n.toNatClampNeg .null, vm := .none } : Cell) = H1
  have z1 : H1.size = B0 + g.1 + 1 := by rw [← hH1, Array.size_push, hsz]
  have e1 : H1[B0 + g.1]? = some (arrV cA n.toNatClampNeg (fun _ => .null)) := by rw [← hH1, ← hsz, Array.getElem?_push_size, ← arrV_new]
  have o1 : ∀ q : Nat, q < B0 + g.1 → H1[q]? = H[q]? := by
    intro q hq
    rw [← hH1, Array.getElem?_push, if_neg (by omega)]
  obtain ⟨p1, p2⟩ := z_pushed (C := C) (sp := sp) hfr hP hsz o1 z1 hS (by
    rw [had, zCe_q hki]
    have hcA : C 3 = cA := by
      obtain ⟨_, _, _, _, _, h5⟩ := (hK.2 3 _ rfl).2
      exact Option.some.inj (h5.symm.trans f1)
    rw [hcA]
    show H1[B0 + g.1]? = some (vp_cell _ _)
    rw [e1, vp_cell_q]
    simp [zBk, va_rf])
  have k := k H1 locs p1 p2
  rw [List.map_cons, zTr_ref (show g.1 ≠ 1400 by omega), had] at k
  rw [hsz]
  exact k
theorem zoi_ok {d : Nat} (hc : zCtx D C B0 sp fq sc M p s m args meth c) (hls : ls.size = zML M) (hfr : d ≤ R.frames) (hlo : 70 * d ≤ R.locals) (hd : decode (zBy M) pc = .ok (.invokespecial i, 3)) (hs : z_oi d (zOn M) i st = some st')
    (k : W p l e R s m args below meth c H locs cells slots Q (F0 m (pc + 3) ls (st'.map (zTr (zad B0 sp) fq)))) : W p l e R s m args below meth c H locs cells slots Q (F0 m pc ls (st.map (zTr (zad B0 sp) fq))) := by
  obtain ⟨hx, hb, hml, hown, hts, hK, hRO, hin, hB, hfq⟩ := hc
  unfold z_oi at hs
  split at hs
  · rename_i a r
    by_cases h1 : (zOt.lookup (zOn M, i)).isSome = true ∧ a < 1000 ∧ 0 < d ∧ (r.map fun v => v.category).sum ≤ 8
    · rw [if_pos h1] at hs
      cases hs
      obtain ⟨q, hq⟩ := Option.isSome_iff_exists.mp h1.1
      have hw := z_wd_in (List.all_eq_true.mp z_okOt _ (z_lk hq))
      have hw := hts _ hw
      simp only at hw
      rw [List.map_cons, zTr_ref (z_ne14 (g := (1000, [])) h1.2.1 (Nat.le_refl _))]
      generalize zO (zOn M) = own at hown hw
      exact W.objInit hx hb hown hw (hts _ z_wO1) (hts _ z_wO2) rfl (by rw [hml]; exact hls) rfl hd (by omega) (by
        have h2 := lv_room (m := m) (pc := pc) (ls := ls) (rest := zTr (zad B0 sp) fq (.ref a) :: st'.map (zTr (zad B0 sp) fq)) (st := st'.map (zTr (zad B0 sp) fq)) (by rw [zTr_cats hfq]; exact h1.2.2.2)
        have h3 : 2 * (F0 m pc ls (.ref (zad B0 sp a) :: st'.map (zTr (zad B0 sp) fq))).monitorRoom + ((st'.map (zTr (zad B0 sp) fq)).map fun v => v.category).sum ≤ 8 := h2
        omega) k
    · rw [if_neg h1] at hs; cases hs
  · cases hs
end
