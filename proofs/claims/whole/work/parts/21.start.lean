/-! ===== from the law's entry to the small machine ===== -/
def zSi : List Nat := [49, 58, 88, 63, 98]
def zTm (i : Nat) : Term := .string "UntoldFacts$Reader" (zSi.getD i 0)
abbrev zGiv : List Cond := flatC (Jvm.Cond.and given_1 narrow_1)
set_option maxRecDepth 100000 in
theorem z_g1 : ∀ i, i < 5 → Cond.exactly (zTm i) "java/lang/String" ∈ zGiv := by decide +kernel
set_option maxRecDepth 100000 in
theorem z_g2 : ∀ i, i < 5 → Cond.eq (.field (zTm i) "java/lang/String" "coder" "B") (.int 0) ∈ zGiv := by decide +kernel
set_option maxRecDepth 100000 in
theorem z_g3 : ∀ i, i < 5 → Cond.arrayOf (.field (zTm i) "java/lang/String" "value" "[B") .byte ∈ zGiv := by decide +kernel
set_option maxRecDepth 100000 in
theorem z_g4 : ∀ i, i < 5 → Cond.eq (.length (.field (zTm i) "java/lang/String" "value" "[B")) (.int (Int32.ofNat (zBl.getD i 0))) ∈ zGiv := by decide +kernel
set_option maxRecDepth 100000 in
theorem z_g5 : ∀ i, i < 5 → ∀ j, j < zBl.getD i 0 → Cond.eq (.elem (.field (zTm i) "java/lang/String" "value" "[B") (.int (Int32.ofNat j))) (.int ((zBt.getD i []).getD j 0)) ∈ zGiv := by decide +kernel
set_option maxRecDepth 100000 in
theorem z_g6 : ∀ i, i < 5 → ∀ j, j < 5 → i ≠ j → (Cond.not (Cond.eq (zTm i) (zTm j)) ∈ zGiv ∨ Cond.not (Cond.eq (zTm j) (zTm i)) ∈ zGiv) := by decide +kernel
set_option maxRecDepth 100000 in
theorem z_g7 : Cond.arrayOf (.static "UntoldFacts$Family" "WITH" "[J") .long ∈ zGiv ∧ Cond.eq (.length (.static "UntoldFacts$Family" "WITH" "[J")) (.int (Int32.ofNat 6)) ∈ zGiv := by decide +kernel
set_option maxRecDepth 100000 in
theorem z_g8 : ∀ j, j < 6 → Cond.eq (.elem (.static "UntoldFacts$Family" "WITH" "[J") (.int (Int32.ofNat j))) (.long (zWi j)) ∈ zGiv := by decide +kernel
set_option maxRecDepth 100000 in
theorem z_g9 : Cond.eq (.static "java/lang/String" "COMPACT_STRINGS" "Z") (.int 1) ∈ zGiv ∧ Cond.isRef (.static "jdk/internal/util/Preconditions" "SIOOBE_FORMATTER" "Ljava/util/function/BiFunction;") ∈ zGiv := by decide +kernel
set_option maxRecDepth 100000 in
theorem z_h1 : Cond.laysStatic "UntoldFacts$Family" "WITH" "[J" ∈ lw_tbl ∧ Cond.initialized "UntoldFacts$Family" ∈ lw_tbl ∧ Cond.laysStatic "java/lang/String" "COMPACT_STRINGS" "Z" ∈ lw_tbl ∧ Cond.initialized "java/lang/String" ∈ lw_tbl ∧ Cond.laysStatic "jdk/internal/util/Preconditions" "SIOOBE_FORMATTER" "Ljava/util/function/BiFunction;" ∈ lw_tbl ∧ Cond.initialized "jdk/internal/util/Preconditions" ∈ lw_tbl := by decide +kernel
set_option maxRecDepth 100000 in
theorem z_h2 : ∀ e ∈ zTt, Cond.stringRef (zO e.1.1) e.1.2 e.2.1 ∈ lw_tbl ∧ zO e.1.1 = "UntoldFacts$Reader" ∧ e.1.2 = zSi.getD e.2.2 0 := by decide +kernel
set_option maxRecDepth 100000 in
theorem z_h3 : Cond.arrayOver (.object "UntoldFacts$Talk") ∈ lw_tbl := by decide +kernel
set_option maxRecDepth 100000 in
theorem z_h4 : zCl.all (fun r => z_has (.instantiable r.1 r.2.2)) = true := by decide +kernel
theorem z_nest {e : (Nat × Nat) × (Nat × Nat × Nat × Nat × Nat × Nat)} (he : e ∈ zCt) (h3 : e.2.1 = 3) : Cond.methodLinkNest (zO e.1.1) e.1.2 (zY e.2.2.1) "UntoldFacts" ∈ lw_tbl := by
  have h2 := List.all_eq_true.mp z_okCt _ he
  unfold z_okC at h2
  rw [h3] at h2
  simp only [Bool.and_eq_true, decide_eq_true_eq] at h2
  exact List.mem_of_getElem? h2.2.1
theorem zSl_max (n : Nat) : zSl n ≤ 100000 := by
  have h73 : zSl 73 ≤ 100000 := by decide +kernel
  rcases Nat.lt_or_ge n 73 with h | h
  · exact Nat.le_trans (zSl_le (Nat.le_of_lt h)) h73
  · have : zSl n = zSl 73 := by
      unfold zSl
      rw [List.take_of_length_le (show zKL.length ≤ n from h), List.take_of_length_le (show zKL.length ≤ 73 from Nat.le_refl _)]
    rw [this]
    exact h73
def zH0 : zHp := (fun _ _ => 0, fun _ _ => 0, fun _ _ => none)
def zGoal : Prop := ∀ sc : zSc, sc.1 ≤ 2560 → ∃ g' h', zE sc 40 197 0 [some (.ref 1300), none, none, none] [] (0, []) zH0 = some (some (.int 1), g', h')
theorem z_arrK {s : State} {args : Array Value} {ty : FieldType} (hw : (Cond.arrayClass ty).before args s = true) : ∃ cA, ArrOfT s cA ty ∧ s.vm.findClass ("[" ++ ty.toString) = some cA := by
  obtain ⟨cA, kA, comp, h1, h2, h3⟩ := Cond.arrayClass_spec hw
  exact ⟨cA, fun n z => ⟨fun k h => (by cases h), kA, h2, comp, h3⟩, h1⟩
set_option maxRecDepth 100000 in
theorem z_law : zBy 197 = code ∧ zML 197 = 4 ∧ zO (zOn 197) = "UntoldFactsLaw" ∧ zIni 197 = 99 ∧ zRt 197 = some .boolean := ⟨rfl, rfl, rfl, rfl, rfl⟩
set_option maxHeartbeats 4000000 in
theorem zStart (hZ : zGoal) {p : Program} {e : Env} {s : State} {m : MethodId} {below : List Frame} {meth : Method} {c : Code} (l : Launch) {b L : Nat} {xs : Nat → Int32} (hL : L ≤ 2560) (C0 : lw_At p s m meth c b L xs) : W p l e room_1 s m #[Value.ref b] below meth c s.heap [] 0 0 (lw_Z below #[Value.ref b] s) (entryFrame m ([Value.ref b] : List Value).toArray 4) := by
  obtain ⟨hx, hb, hr, hml, hown, hts, hX, hbl, hlocks, hgv⟩ := id C0
  have hs := flat_of_before _ hgv
  have htb : ∀ w ∈ zTb, w.before #[Value.ref b] s = true := fun w hw => hts w (List.mem_filter.mp hw).1
  have hA : ∀ a : Nat, a < s.heap.size → ¬ zA s.heap.size a := fun a ha z => by unfold zA at z; omega
  obtain ⟨adK, adV, hK1, hK2⟩ := vk_Sof (N := 5) (tm := zTm) (len := zBl) (byt := zBt) (A := zA s.heap.size) (fun i hi => by match i, hi with | 0, _ => decide | 1, _ => decide | 2, _ => decide | 3, _ => decide | 4, _ => decide) (fun i hi => hs _ (z_g1 i hi)) (fun i hi => hs _ (z_g2 i hi)) (fun i hi => hs _ (z_g3 i hi)) (fun i hi => hs _ (z_g4 i hi)) (fun i hi j hj => hs _ (z_g5 i hi j hj)) (fun i j hi hj hij => (z_g6 i hi j hj hij).imp (fun h => hs _ h) (fun h => hs _ h)) hA
  obtain ⟨tW, hW1, hW2⟩ := va_Tof (tm := .static "UntoldFacts$Family" "WITH" "[J") (ty := .long) (N := 6) (f := fun j => .long (zWi j)) (A := zA s.heap.size) (by decide) (hs _ z_g7.1) (va_eqt (hs _ z_g7.2)) (fun j hj => va_eqtl (hs _ (z_g8 j hj))) hA
  obtain ⟨l1, l2, l3, l4, l5, l6⟩ := z_h1
  have hZW := va_Zref (A := zA s.heap.size) (hts _ l1) (hts _ l2) hW1 hA
  have hZC := va_Zof (A := zA s.heap.size) (hts _ l3) (hts _ l4) (va_eqi (hs _ z_g9.1)) hA
  obtain ⟨fq, hfq, hZF⟩ : ∃ fq : Value, fq.category = 1 ∧ va_Z "jdk/internal/util/Preconditions" "SIOOBE_FORMATTER" "Ljava/util/function/BiFunction;" fq (zA s.heap.size) s s.heap := by
    rcases va_Zqof (A := zA s.heap.size) (hts _ l5) (hts _ l6) (hs _ z_g9.2) hA with h | ⟨t, h⟩
    · exact ⟨.null, rfl, h⟩
    · exact ⟨.ref t, rfl, h⟩
  obtain ⟨sp, hsp⟩ : ∃ sp : Nat → Nat, (∀ i, i < 5 → sp (1000 + i) = adK i ∧ sp (1100 + i) = adV i) ∧ sp 1200 = tW ∧ sp 1300 = b := by
    refine ⟨fun a => if a < 1100 then adK (a - 1000) else if a < 1200 then adV (a - 1100) else if a < 1300 then tW else b, fun i hi => ⟨?_, ?_⟩, rfl, rfl⟩
    · dsimp only
      rw [if_pos (by omega), show 1000 + i - 1000 = i by omega]
    · dsimp only
      rw [if_neg (by omega), if_pos (by omega), show 1100 + i - 1100 = i by omega]
  have hRO : zRO s.heap.size sp fq (L, xs) s s.heap := by
    refine ⟨⟨fun i hi => ?_, fun i j hi hj hij => ?_⟩, fun e he => ?_, by rw [hsp.2.1]; exact hZW, by rw [hsp.2.1]; exact hW2, hZC, hZF, fun e he h3 => va_Nw.of rfl (hts _ (z_nest he h3)), va_AO.of (hts _ z_h3), by rw [hsp.2.2]; exact hX, by rw [hsp.2.2]; exact hbl⟩
    · simp only [(hsp.1 i hi).1, (hsp.1 i hi).2]
      exact hK1.1 i hi
    · simp only [(hsp.1 i hi).1, (hsp.1 j hj).1] at hij
      exact hK1.2 i j hi hj hij
    · obtain ⟨h1, h2, h3⟩ := z_h2 e he
      have h5 := zTt_lt e he
      rw [(hsp.1 _ h5).1]
      refine vk_R.of (hts _ h1) ?_
      rw [h2, h3]
      exact hK2 _ h5
  obtain ⟨D, hD⟩ : ∃ D : va_G, ∀ (ci : Nat) (r : vw_C), zCl[ci]? = some r → u_Kn s r.1 r.2.1 r.2.2 (D.1 ci) (D.2 ci) := by
    have h0 : ∀ ci : Nat, ∃ q : ClassId × (Nat → Nat), ∀ r, zCl[ci]? = some r → u_Kn s r.1 r.2.1 r.2.2 q.1 q.2 := by
      intro ci
      cases hr : zCl[ci]? with
      | none => exact ⟨(0, fun _ => 0), fun r h => by cases h⟩
      | some r =>
        obtain ⟨cC, iS, h1⟩ := u_known (C := r.1) (T := r.2.1) (N := r.2.2) htb (z_uws hr) (htb _ (z_has_in (List.all_eq_true.mp z_h4 r (List.mem_of_getElem? hr))))
        exact ⟨(cC, iS), fun r2 h2 => by cases h2; exact h1⟩
    obtain ⟨f, hf⟩ := Classical.axiomOfChoice h0
    exact ⟨(fun ci => (f ci).1, fun ci => (f ci).2), fun ci r h => hf ci r h⟩
  obtain ⟨cI, i1, i2⟩ := z_arrK (htb _ z_wI)
  obtain ⟨cZ, z1, z2⟩ := z_arrK (htb _ z_wZ)
  obtain ⟨cJ, j1, j2⟩ := z_arrK (htb _ z_wJ)
  obtain ⟨comp, cT, kT, t1, -, t3, t4, t5⟩ := Cond.arrayOver_spec (hts _ z_h3)
  have hK : va_K D zCl (zTys (fun t => if t = 0 then cI else if t = 1 then cZ else if t = 2 then cJ else cT)) s := by
    refine ⟨fun ci r h => hD ci r h, fun k q hq => ?_⟩
    match k, hq with
    | 0, hq => cases hq; exact ⟨i1, i2⟩
    | 1, hq => cases hq; exact ⟨z1, z2⟩
    | 2, hq => cases hq; exact ⟨j1, j2⟩
    | 3, hq => cases hq; exact ⟨fun n z => ⟨fun k h => (by cases h), kT, t3, comp, t4⟩, kT, comp, t3, t4, t1, t5⟩
    | k + 4, hq => simp [zTys] at hq
  generalize (fun t : Nat => if t = 0 then cI else if t = 1 then cZ else if t = 2 then cJ else cT) = C at hK
  obtain ⟨e1, e2, e3, e4, e5⟩ := z_law
  have hctx : zCtx D C s.heap.size sp fq (L, xs) 197 p s m #[Value.ref b] meth c := ⟨hx, by rw [e1]; exact hb, by rw [e2]; exact hml, by rw [e3]; exact hown, htb, hK, hRO, fun h => absurd e4 h, Nat.le_refl _, hfq⟩
  obtain ⟨g', h', hz⟩ := hZ (L, xs) hL
  obtain ⟨n, hn⟩ := (zE_iff _).mp hz
  have hgg := zX_g _ _ _ _ _ _ _ _ _ _ _ _ hn
  have hg1 : g'.1 ≤ 1000 := hgg.2 (Nat.zero_le _)
  have hsm := zSl_max g'.1
  have hs0 : zSl 0 = 0 := rfl
  have hl := lv_entry ([.ref b]) (n := 4) (Nat.le_of_ble_eq_true rfl)
  rw [lg_entry_eq]
  generalize (lg_sl ([.ref b]) ++ List.replicate (4 - (lg_sl ([.ref b])).length) Slot.unset).toArray = ls at hl ⊢
  have had : zad s.heap.size sp 1300 = b := by rw [zad_ge (by omega)]; exact hsp.2.2
  refine zBody_all l D C s.heap.size sp fq (L, xs) n 40 197 0 _ [] (0, []) zH0 _ g' h' hn p e room_1 s m _ below meth c s.heap [] 0 0 _ ls hctx ?_ (Nat.zero_le _) (fun k q h => by simp [zWo] at h) va_S.rf rfl (by decide) (by decide) (by show 0 + (g'.1 - 0) ≤ 600000; omega) (by show 0 + (zSl g'.1 - zSl 0) ≤ 7302250; omega) ?_
  · rw [e2]
    refine ⟨hl.1, hl.2.1, rfl, fun i v hi => ?_⟩
    match i, hi with
    | 0, hi =>
      cases hi
      rw [zTr_ref (by decide), had]
      exact hl.2.2 (0, .ref b) List.mem_cons_self
    | 1, hi => cases hi
    | 2, hi => cases hi
    | 3, hi => cases hi
    | i + 4, hi => simp at hi
  · intro pcr lsr op H1 locs1 hd hrt hP1 hS1
    rcases zRk_ok hrt with ⟨x, ty, hx1, rfl, -, -, -⟩ | ⟨x, hx1, -⟩ | ⟨hx1, -⟩
    · refine va_forget (fun q hq => hS1.2.2 q hq) ?_
      refine W.widen (k := 600000) (n := 7302250) (by show 0 + (g'.1 - 0) ≤ 600000; omega) (by show 0 + (zSl g'.1 - zSl 0) ≤ 7302250; omega) ?_
      rw [e1] at hd
      exact lw_ret hx hb hr hlocks hd
    · cases hx1
    · cases hx1
