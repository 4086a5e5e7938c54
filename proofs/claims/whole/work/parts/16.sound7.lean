/-! ===== soundness: arraycopy; all instructions of the heap ===== -/
theorem z_put_g {ini o i : Nat} {st st' : List Value} {g g' : zSg} {h h' : zHp} (hs : z_put ini o i g h st = some (st', g', h')) : g'.1 = g.1 := by
  unfold z_put at hs
  split at hs
  · rename_i v a r
    cases hf : zFl o i with
    | none => rw [hf] at hs; cases hs
    | some q =>
      rw [hf] at hs
      simp only at hs
      by_cases ho : zOb g a q.1 = true
      · rw [if_pos ho] at hs
        cases hfc : zFc q.1 q.2 with
        | none => rw [hfc] at hs; cases hs
        | some cd =>
          rw [hfc] at hs
          simp only at hs
          cases hv : z_pf ini q.1 g h a q.2 v cd with
          | none => rw [hv] at hs; cases hs
          | some q2 =>
            rw [hv] at hs
            cases hs
            unfold z_pf at hv
            split at hv
            · cases hv; rfl
            · split at hv <;> cases hv; rfl
            · cases hv; rfl
            · split at hv <;> cases hv; rfl
            · split at hv <;> cases hv; rfl
            · cases hv
      · rw [if_neg ho] at hs; cases hs
  · cases hs
theorem z_iast_g {st st' : List Value} {g g' : zSg} {h h' : zHp} (hs : z_iast g h st = some (st', g', h')) : g' = g := by
  unfold z_iast at hs
  split at hs
  · split at hs
    · split at hs
      · split at hs <;> cases hs; rfl
      · cases hs
    · cases hs
  · cases hs
theorem z_bast_g {st st' : List Value} {g g' : zSg} {h h' : zHp} (hs : z_bast g h st = some (st', g', h')) : g' = g := by
  unfold z_bast at hs
  split at hs
  · split at hs
    · split at hs
      · split at hs <;> cases hs; rfl
      · cases hs
    · cases hs
  · cases hs
theorem z_last_g {st st' : List Value} {g g' : zSg} {h h' : zHp} (hs : z_last g h st = some (st', g', h')) : g' = g := by
  unfold z_last at hs
  split at hs
  · split at hs
    · split at hs
      · split at hs <;> cases hs; rfl
      · cases hs
    · cases hs
  · cases hs
theorem z_aast_g {st st' : List Value} {g g' : zSg} {h h' : zHp} (hs : z_aast g h st = some (st', g', h')) : g' = g := by
  unfold z_aast at hs
  split at hs
  · split at hs
    · split at hs
      · split at hs <;> cases hs; rfl
      · cases hs
    · cases hs
  · cases hs
theorem z_cpy_some {d o i : Nat} {st st' : List Value} {g g' : zSg} {h h' : zHp} (hs : z_cpy d o i g h st = some (st', g', h')) : ∃ (n dp sp : Int32) (a b na nb : Nat), st = .int n :: .int dp :: .ref b :: .int sp :: .ref a :: st' ∧ (zAt.lookup (o, i)).isSome = true ∧ 0 < d ∧ a < g.1 ∧ b < g.1 ∧ (st'.map fun v => v.category).sum ≤ 8 ∧ ¬ sp < 0 ∧ ¬ dp < 0 ∧ ¬ n < 0 ∧ sp.toNatClampNeg + n.toNatClampNeg ≤ na ∧ dp.toNatClampNeg + n.toNatClampNeg ≤ nb ∧ g' = g ∧
    ((zKi a = some (.inl (0, na)) ∧ zKi b = some (.inl (0, nb)) ∧ h' = zCI h a b sp.toNatClampNeg dp.toNatClampNeg n.toNatClampNeg) ∨ (zKi a = some (.inl (2, na)) ∧ zKi b = some (.inl (2, nb)) ∧ h' = zCL h a b sp.toNatClampNeg dp.toNatClampNeg n.toNatClampNeg)) := by
  unfold z_cpy at hs
  split at hs
  · rename_i n dp b sp a r
    by_cases h1 : (zAt.lookup (o, i)).isSome = true ∧ 0 < d ∧ a < g.1 ∧ b < g.1 ∧ (r.map fun v => v.category).sum ≤ 8 ∧ ¬ sp < 0 ∧ ¬ dp < 0 ∧ ¬ n < 0
    · rw [if_pos h1] at hs
      split at hs
      · rename_i na nb hna hnb
        split at hs
        · rename_i h2
          cases hs
          exact ⟨n, dp, sp, a, b, na, nb, rfl, h1.1, h1.2.1, h1.2.2.1, h1.2.2.2.1, h1.2.2.2.2.1, h1.2.2.2.2.2.1, h1.2.2.2.2.2.2.1, h1.2.2.2.2.2.2.2, h2.1, h2.2, rfl, Or.inl ⟨zLn_iff.mp hna, zLn_iff.mp hnb, rfl⟩⟩
        · cases hs
      · rename_i na nb hna hnb
        split at hs
        · rename_i h2
          cases hs
          exact ⟨n, dp, sp, a, b, na, nb, rfl, h1.1, h1.2.1, h1.2.2.1, h1.2.2.2.1, h1.2.2.2.2.1, h1.2.2.2.2.2.1, h1.2.2.2.2.2.2.1, h1.2.2.2.2.2.2.2, h2.1, h2.2, rfl, Or.inr ⟨zLn_iff.mp hna, zLn_iff.mp hnb, rfl⟩⟩
        · cases hs
      · cases hs
    · rw [if_neg h1] at hs; cases hs
  · cases hs
section
variable {p : Program} {l : Launch} {e : Env} {R : Room} {s : State} {m : MethodId} {args : Array Value} {below : List Frame} {meth : Method} {c : Code} {H : Heap} {locs : List Loc} {cells slots : Nat} {Q : State → Prop}
variable {D : va_G} {C : Nat → ClassId} {B0 : Nat} {sp : Nat → Nat} {fq : Value} {sc : zSc} {M : Nat} {g g' : zSg} {h h' : zHp} {pc i d : Nat} {st st' : List Value} {ls : Array Slot}
theorem zcpy_ok (hc : zCtx D C B0 sp fq sc M p s m args meth c) (hls : ls.size = zML M) (hg : g.1 ≤ 1000) (hP : va_P D zCl (zWo C (zad B0 sp) g h) H) (hS : va_S (zA B0) s.heap H locs) (hfr : d ≤ R.frames) (hlo : 70 * d ≤ R.locals) (hd : decode (zBy M) pc = .ok (.invokestatic i, 3)) (hs : z_cpy d (zOn M) i g h st = some (st', g', h'))
    (k : ∀ (H1 : Heap) (locs1 : List Loc), va_P D zCl (zWo C (zad B0 sp) g' h') H1 → va_S (zA B0) s.heap H1 locs1 → W p l e R s m args below meth c H1 locs1 cells slots Q (F0 m (pc + 3) ls (st'.map (zTr (zad B0 sp) fq)))) : W p l e R s m args below meth c H locs cells slots Q (F0 m pc ls (st.map (zTr (zad B0 sp) fq))) := by
  obtain ⟨hx, hb, hml, hown, hts, hK, hRO, hin, hB, hfq⟩ := hc
  have hD := zWo_D (C := C) (B0 := B0) (sp := sp) (h := h) hg
  obtain ⟨n, dp, sq, a, b, na, nb, rfl, hlk, hd0, ha, hb1, hr, h1, h2, h3, h4, h5, rfl, hor⟩ := z_cpy_some hs
  obtain ⟨q, hq⟩ := Option.isSome_iff_exists.mp hlk
  have hw := hts _ (z_wd_in (List.all_eq_true.mp z_okAt _ (z_lk hq)))
  simp only at hw
  have hr' : ((st'.map (zTr (zad B0 sp) fq)).map fun v => v.category).sum + (nativeFrameWords "java/lang/System" "arraycopy" 5 + 11) ≤ R.locals := by
    rw [zTr_cats hfq]
    have h7 : nativeFrameWords "java/lang/System" "arraycopy" 5 = 7 := by decide
    omega
  generalize zO (zOn M) = own at hown hw
  simp only [List.map_cons]
  rw [zTr_ref (z_ne14 ha hg), zTr_ref (z_ne14 hb1 hg)]
  have hea := zWo_get (C := C) (ad := zad B0 sp) (h := h) ha
  have heb := zWo_get (C := C) (ad := zad B0 sp) (h := h) hb1
  rcases hor with ⟨ka, kb, rfl⟩ | ⟨ka, kb, rfl⟩
  · rw [zCe_i ka] at hea
    rw [zCe_i kb] at heb
    refine va_copyi hx hb (by rw [hml, hls]) hown hw (hts _ z_wA1) (hts _ z_wA2) (hts _ z_wA3) hK hP hD hS a b 0 0 hea heb rfl rfl rfl h1 h2 h3 h4 h5 (fun _ _ => rfl) (by omega) hr' hd (fun H1 locs1 q1 q2 q3 => k H1 locs1 ?_ q3)
    have hset := zWo_set (C := C) (ad := zad B0 sp) (g := g') (g' := g') (h := h) (h' := zCI h a b sq.toNatClampNeg dp.toNatClampNeg n.toNatClampNeg) (e := .inl (C 0, nb, .inl (va_cpy (h.1 a) (h.1 b) sq.toNatClampNeg dp.toNatClampNeg n.toNatClampNeg))) hb1 rfl
      (by rw [zCe_i kb]; congr 4; funext y; simp [zCI]) (fun b2 hb2 => zCe_row (by funext y; simp [zCI, hb2]) rfl rfl (fun _ => rfl))
    rw [← hset]
    exact q1
  · rw [zCe_l ka] at hea
    rw [zCe_l kb] at heb
    refine va_copyl hx hb (by rw [hml, hls]) hown hw (hts _ z_wA1) (hts _ z_wA2) (hts _ z_wA3) hK hP hD hS a b 2 2 hea heb rfl rfl rfl h1 h2 h3 h4 h5 (fun _ _ => rfl) (by omega) hr' hd (fun H1 locs1 q1 q2 q3 => k H1 locs1 ?_ q3)
    have hset := zWo_set (C := C) (ad := zad B0 sp) (g := g') (g' := g') (h := h) (h' := zCL h a b sq.toNatClampNeg dp.toNatClampNeg n.toNatClampNeg) (e := .inl (C 2, nb, .inr (.inl (va_cpy (h.2.1 a) (h.2.1 b) sq.toNatClampNeg dp.toNatClampNeg n.toNatClampNeg)))) hb1 rfl
      (by rw [zCe_l kb]; congr 5; funext y; simp [zCL]) (fun b2 hb2 => zCe_row rfl (by funext y; simp [zCL, hb2]) rfl (fun _ => rfl))
    rw [← hset]
    exact q1
theorem zm_some {α β : Type} {o : Option α} {f : α → β} {y : β} (h : o.map f = some y) : ∃ x, o = some x ∧ f x = y := by
  cases o with
  | none => cases h
  | some x => exact ⟨x, rfl, Option.some.inj h⟩
set_option maxHeartbeats 4000000 in
theorem zHeap_g {sc : zSc} {ini o : Nat} {op : Instr} (hs : zHeap sc d ini o op st g h = some (st', g', h')) : g.1 ≤ g'.1 ∧ (g.1 ≤ 1000 → g'.1 ≤ 1000) := by
  have same : g' = g → g.1 ≤ g'.1 ∧ (g.1 ≤ 1000 → g'.1 ≤ 1000) := fun z => by rw [z]; exact ⟨Nat.le_refl _, fun z => z⟩
  have fresh : zFree g = true → g' = (g.1 + 1, g.2) → g.1 ≤ g'.1 ∧ (g.1 ≤ 1000 → g'.1 ≤ 1000) := fun y z => by
    rw [z]
    have := zFree_lt y
    exact ⟨Nat.le_succ _, fun _ => this⟩
  cases op with
  | getfield i => obtain ⟨x, -, hx⟩ := zm_some hs; cases hx; exact same rfl
  | putfield i => rw [z_put_g hs]; exact ⟨Nat.le_refl _, fun z => z⟩
  | iaload => obtain ⟨x, -, hx⟩ := zm_some hs; cases hx; exact same rfl
  | baload => obtain ⟨x, -, hx⟩ := zm_some hs; cases hx; exact same rfl
  | laload => obtain ⟨x, -, hx⟩ := zm_some hs; cases hx; exact same rfl
  | aaload => obtain ⟨x, -, hx⟩ := zm_some hs; cases hx; exact same rfl
  | arraylength => obtain ⟨x, -, hx⟩ := zm_some hs; cases hx; exact same rfl
  | iastore => exact same (z_iast_g hs)
  | bastore => exact same (z_bast_g hs)
  | lastore => exact same (z_last_g hs)
  | aastore => exact same (z_aast_g hs)
  | new i => obtain ⟨ci, -, -, h1, -, h2, -⟩ := z_new_some hs; exact fresh h1 h2
  | newarray t => obtain ⟨n, r, -, -, -, -, -, h1, -, h2, -⟩ := z_newa_some hs; exact fresh h1 h2
  | anewarray i => obtain ⟨n, r, -, -, -, -, -, h1, -, h2, -⟩ := z_newq_some hs; exact fresh h1 h2
  | invokespecial i => obtain ⟨x, -, hx⟩ := zm_some hs; cases hx; exact same rfl
  | invokestatic i => obtain ⟨n, dp, sq, a, b, na, nb, -, -, -, -, -, -, -, -, -, -, -, h1, -⟩ := z_cpy_some hs; exact same h1
  | _ => cases hs
set_option maxHeartbeats 4000000 in
theorem zHeap_ok {op : Instr} {len : Nat} (hc : zCtx D C B0 sp fq sc M p s m args meth c) (hls : ls.size = zML M) (hg : g.1 ≤ 1000) (hP : va_P D zCl (zWo C (zad B0 sp) g h) H) (hS : va_S (zA B0) s.heap H locs) (hcl : s.heap.size + cells = B0 + g.1) (hfr : d ≤ R.frames) (hlo : 70 * d ≤ R.locals) (hd : decode (zBy M) pc = .ok (op, len)) (hk : zLk op len = true) (hs : zHeap sc d (zIni M) (zOn M) op st g h = some (st', g', h'))
    (hce : cells + (g'.1 - g.1) ≤ R.cells) (hsl : slots + (zSl g'.1 - zSl g.1) ≤ R.slots)
    (k : ∀ (H1 : Heap) (locs1 : List Loc), va_P D zCl (zWo C (zad B0 sp) g' h') H1 → va_S (zA B0) s.heap H1 locs1 → W p l e R s m args below meth c H1 locs1 (cells + (g'.1 - g.1)) (slots + (zSl g'.1 - zSl g.1)) Q (F0 m (pc + len) ls (st'.map (zTr (zad B0 sp) fq)))) : W p l e R s m args below meth c H locs cells slots Q (F0 m pc ls (st.map (zTr (zad B0 sp) fq))) := by
  have k0 : g'.1 = g.1 → ∀ (H1 : Heap) (locs1 : List Loc), va_P D zCl (zWo C (zad B0 sp) g' h') H1 → va_S (zA B0) s.heap H1 locs1 → W p l e R s m args below meth c H1 locs1 cells slots Q (F0 m (pc + len) ls (st'.map (zTr (zad B0 sp) fq))) := by
    intro hgg H1 locs1 h1 h2
    have h3 := k H1 locs1 h1 h2
    rw [hgg, Nat.sub_self, Nat.sub_self, Nat.add_zero, Nat.add_zero] at h3
    exact h3
  cases op with
  | getfield i =>
    obtain rfl : len = 3 := by simpa [zLk] using hk
    obtain ⟨x, h1, hx⟩ := zm_some hs
    cases hx
    exact zget_ok hc hg hP hS hd h1 (k0 rfl H locs hP hS)
  | putfield i =>
    obtain rfl : len = 3 := by simpa [zLk] using hk
    exact (zput_ok hc hg hP hS hd hs (k0 (z_put_g hs))).2
  | iaload =>
    obtain rfl : len = 1 := by simpa [zLk] using hk
    obtain ⟨x, h1, hx⟩ := zm_some hs
    cases hx
    exact ziald_ok hc hg hP hS hd h1 (k0 rfl H locs hP hS)
  | baload =>
    obtain rfl : len = 1 := by simpa [zLk] using hk
    obtain ⟨x, h1, hx⟩ := zm_some hs
    cases hx
    exact zbald_ok hc hg hP hS hd h1 (k0 rfl H locs hP hS)
  | laload =>
    obtain rfl : len = 1 := by simpa [zLk] using hk
    obtain ⟨x, h1, hx⟩ := zm_some hs
    cases hx
    exact zlald_ok hc hg hP hS hd h1 (k0 rfl H locs hP hS)
  | aaload =>
    obtain rfl : len = 1 := by simpa [zLk] using hk
    obtain ⟨x, h1, hx⟩ := zm_some hs
    cases hx
    exact zaald_ok hc hg hP hS hd h1 (k0 rfl H locs hP hS)
  | arraylength =>
    obtain rfl : len = 1 := by simpa [zLk] using hk
    obtain ⟨x, h1, hx⟩ := zm_some hs
    cases hx
    exact zalen_ok hc hg hP hS hd h1 (k0 rfl H locs hP hS)
  | iastore =>
    obtain rfl : len = 1 := by simpa [zLk] using hk
    exact (ziast_ok hc hg hP hS hd hs (k0 (by rw [z_iast_g hs]))).2
  | bastore =>
    obtain rfl : len = 1 := by simpa [zLk] using hk
    exact (zbast_ok hc hg hP hS hd hs (k0 (by rw [z_bast_g hs]))).2
  | lastore =>
    obtain rfl : len = 1 := by simpa [zLk] using hk
    exact (zlast_ok hc hg hP hS hd hs (k0 (by rw [z_last_g hs]))).2
  | aastore =>
    obtain rfl : len = 1 := by simpa [zLk] using hk
    exact (zaast_ok hc hg hP hS hd hs (k0 (by rw [z_aast_g hs]))).2
  | new i =>
    obtain rfl : len = 3 := by simpa [zLk] using hk
    exact znew_ok hc hg hP hS hcl hd hs hce hsl k
  | newarray t =>
    obtain rfl : len = 2 := by simpa [zLk] using hk
    exact znewa_ok hc hg hP hS hcl hd hs hce hsl k
  | anewarray i =>
    obtain rfl : len = 3 := by simpa [zLk] using hk
    exact znewq_ok hc hg hP hS hcl hd hs hce hsl k
  | invokespecial i =>
    obtain rfl : len = 3 := by simpa [zLk] using hk
    obtain ⟨x, h1, hx⟩ := zm_some hs
    cases hx
    exact zoi_ok hc hls hfr hlo hd h1 (k0 rfl H locs hP hS)
  | invokestatic i =>
    obtain rfl : len = 3 := by simpa [zLk] using hk
    have hgg : g' = g := by obtain ⟨n, dp, sq, a, b, na, nb, -, -, -, -, -, -, -, -, -, -, -, h1, -⟩ := z_cpy_some hs; exact h1
    exact zcpy_ok hc hls hg hP hS hfr hlo hd hs (k0 (by rw [hgg]))
  | _ => cases hs
end
