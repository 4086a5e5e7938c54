/-! ===== soundness: calls ===== -/
theorem zCk_mem {o i kd M : Nat} (h : zCk o i = some (kd, M)) : ∃ a b c f, ((o, i), (kd, M, a, b, c, f)) ∈ zCt := by
  unfold zCk at h
  cases hk : zCt.lookup (o, i) with
  | none => rw [hk] at h; cases h
  | some q =>
    obtain ⟨q1, q2, a, b, c, f⟩ := q
    rw [hk] at h
    cases h
    exact ⟨a, b, c, f, z_lk hk⟩
theorem zCk_lt {o i kd M : Nat} (h : zCk o i = some (kd, M)) : M < 197 := by
  obtain ⟨a, b, c, f, hm⟩ := zCk_mem h
  have := List.all_eq_true.mp z_callee _ hm
  simpa using this
theorem zCk_ini {o i kd M : Nat} (h : zCk o i = some (kd, M)) : Cond.initialized (zY M).cls ∈ zTb := by
  obtain ⟨a, b, c, f, hm⟩ := zCk_mem h
  have h2 := List.all_eq_true.mp z_okCt _ hm
  unfold z_okC at h2
  simp only [Bool.and_eq_true] at h2
  exact z_wd_in h2.1.2
theorem zCk_0 {o i M : Nat} (h : zCk o i = some (0, M)) : Cond.methodLink (zO o) i (zY M) ∈ zTb ∧ Cond.instanceMethod (zY M) ∈ zTb ∧ Cond.selects (zY M).cls (zY M) (zY M) ∈ zTb := by
  obtain ⟨a, b, c, f, hm⟩ := zCk_mem h
  have h2 := List.all_eq_true.mp z_okCt _ hm
  unfold z_okC at h2
  simp only [Bool.and_eq_true] at h2
  exact ⟨z_wd_in h2.2.1.1, z_wd_in h2.2.1.2, z_wd_in h2.2.2⟩
theorem zCk_1 {o i M : Nat} (h : zCk o i = some (1, M)) : Cond.methodLink (zO o) i (zY M) ∈ zTb ∧ Cond.static (zY M) ∈ zTb := by
  obtain ⟨a, b, c, f, hm⟩ := zCk_mem h
  have h2 := List.all_eq_true.mp z_okCt _ hm
  unfold z_okC at h2
  simp only [Bool.and_eq_true] at h2
  exact ⟨z_wd_in h2.2.1, z_wd_in h2.2.2⟩
theorem zCk_2 {o i M : Nat} (h : zCk o i = some (2, M)) : Cond.methodLink (zO o) i (zY M) ∈ zTb ∧ Cond.instanceMethod (zY M) ∈ zTb ∧ (zY M).name = "<init>" ∧ zRt M = none := by
  obtain ⟨a, b, c, f, hm⟩ := zCk_mem h
  have h2 := List.all_eq_true.mp z_okCt _ hm
  unfold z_okC at h2
  simp only [Bool.and_eq_true, decide_eq_true_eq] at h2
  exact ⟨z_wd_in h2.2.1.1.1, z_wd_in h2.2.1.1.2, h2.2.1.2, h2.2.2⟩
theorem zCk_3 {o i M : Nat} (h : zCk o i = some (3, M)) : (∃ e ∈ zCt, e.2.1 = 3 ∧ e.1 = (o, i) ∧ e.2.2.1 = M) ∧ Cond.static (zY M) ∈ zTb := by
  obtain ⟨a, b, c, f, hm⟩ := zCk_mem h
  have h2 := List.all_eq_true.mp z_okCt _ hm
  unfold z_okC at h2
  simp only [Bool.and_eq_true] at h2
  exact ⟨⟨_, hm, rfl, rfl, rfl⟩, z_wd_in h2.2.2⟩
theorem z_split {st : List Value} {n : Nat} {b : Value} {as : List Value} (h : (st.take (n + 1)).reverse = b :: as) : st = as.reverse ++ b :: st.drop (n + 1) := by
  have h1 : st.take (n + 1) = as.reverse ++ [b] := by
    have := congrArg List.reverse h
    simpa using this
  calc st = st.take (n + 1) ++ st.drop (n + 1) := (List.take_append_drop _ _).symm
    _ = as.reverse ++ b :: st.drop (n + 1) := by rw [h1]; simp
theorem z_nat5 {a : Nat} (h : 1000 ≤ a ∧ a < 1005) : ∃ j, j < 5 ∧ a = 1000 + j ∧ a ≠ 1400 ∧ ¬ a < 1000 := ⟨a - 1000, by omega, by omega, by omega, by omega⟩
section
variable {p : Program} {l : Launch} {e : Env} {R : Room} {s : State} {m : MethodId} {args : Array Value} {below : List Frame} {meth : Method} {c : Code} {H : Heap} {locs : List Loc} {cells slots : Nat} {Q : State → Prop}
variable {D : va_G} {C : Nat → ClassId} {B0 : Nat} {sp : Nat → Nat} {fq : Value} {sc : zSc} {M : Nat} {g g' : zSg} {h h' : zHp} {pc i d : Nat} {st st' : List Value} {ls : Array Slot}
set_option maxHeartbeats 4000000 in
theorem zCal_ok {op : Instr} {len M' : Nat} {as rest : List Value} {ini : Bool} {r : Option Value} (hc : zCtx D C B0 sp fq sc M p s m args meth c) (hls : ls.size = zML M) (hg : g.1 ≤ 1000) (hP : va_P D zCl (zWo C (zad B0 sp) g h) H) (hS : va_S (zA B0) s.heap H locs) (hcl : s.heap.size + cells = B0 + g.1) (hfr : d + 1 ≤ R.frames) (hlo : 70 * (d + 1) ≤ R.locals) (hd : decode (zBy M) pc = .ok (op, len)) (hk : zLk op len = true) (hs : zCal (zOn M) op st g = some (M', as, rest, ini))
    (hM : zMet l D C B0 sp fq sc d M' as g g' h h' r)
    (hce : cells + (g'.1 - g.1) ≤ R.cells) (hsl : slots + (zSl g'.1 - zSl g.1) ≤ R.slots)
    (k : ∀ (H1 : Heap) (locs1 : List Loc), va_P D zCl (zWo C (zad B0 sp) g' h') H1 → va_S (zA B0) s.heap H1 locs1 → W p l e R s m args below meth c H1 locs1 (cells + (g'.1 - g.1)) (slots + (zSl g'.1 - zSl g.1)) Q (F0 m (pc + 3) ls ((r.toList ++ rest).map (zTr (zad B0 sp) fq)))) : W p l e R s m args below meth c H locs cells slots Q (F0 m pc ls (st.map (zTr (zad B0 sp) fq))) := by
  obtain ⟨hx, hb, hml, hown, hts, hK, hRO, hin, hB, hfq⟩ := hc
  refine W_size (fun hu => ?_)
  have hsz := z_size hg hP hS hcl hB hu
  have hPc : ∀ U : State, U.heap = H → s.WarmedH U.vm → va_Pc (as.map (zTr (zad B0 sp) fq)) (zSta D C B0 sp fq sc g h) (as.map (zTr (zad B0 sp) fq)).toArray U := by
    intro U hU hW
    refine ⟨rfl, by rw [hU]; exact hsz, by rw [hU]; exact hP, va_K.moved hW.alike hK, ?_⟩
    rw [hU]
    exact hRO.move hW hB hS.2.1
  have hcat : (((rest.map (zTr (zad B0 sp) fq)).map fun v => v.category).sum) = (rest.map fun v => v.category).sum := zTr_cats hfq rest
  have hs0 : zCa0 (zOn M) op st g = some (M', as, rest, ini) := by
    unfold zCal at hs
    cases hq : zCa0 (zOn M) op st g with
    | none => rw [hq] at hs; cases hs
    | some q =>
      rw [hq] at hs
      simp only at hs
      split at hs
      · exact hs
      · cases hs
  unfold zMet at hM
  cases op with
  | invokevirtual i =>
    obtain rfl : len = 3 := by simpa [zLk] using hk
    simp only [zCa0] at hs0
    split at hs0
    · rename_i M1 hck
      split at hs0
      · rename_i b as1 hrev
        split at hs0
        · rename_i hcond
          cases hs0
          have hM7 := zCk_lt hck
          have hM8 : M' < zMt.length := by rw [zM_len]; omega
          obtain ⟨m1, m2, m3, m4, m5, m6⟩ := zM_ok hM8
          have hini := hts _ (zCk_ini hck)
          obtain ⟨w1, w2, w3⟩ := zCk_0 hck
          have w1 := hts _ w1
          have w2 := hts _ w2
          have w3 := hts _ w3
          have hst := z_split hrev
          have hcode := hts _ (zM_code hM7)
          have hpay := pay_in hts (zWs_good hM7)
          have hlen : ∀ sig, parseMethodDescriptor (zY M').desc = some sig → as1.length = sig.parameters.length := by
            intro sig hsig
            rw [hsig] at m6
            rw [hcond.1]
            exact (Option.some.inj m6).symm
          -- the receiver
          have hrec : ∃ a : Nat, b = .ref a ∧ a ≠ 1400 ∧ ∃ cellB : Cell, H[zad B0 sp a]? = some cellB ∧ cellB.vm.isStatics = false ∧ s.vm.findClass (zY M').cls = some cellB.cls := by
            have hrc := hcond.2.1
            unfold zRc at hrc
            split at hrc
            · rename_i a
              by_cases ha : 1000 ≤ a ∧ a < 1005
              · rw [if_pos ha] at hrc
                obtain ⟨j, hj5, hj, hn4, hn5⟩ := z_nat5 ha
                refine ⟨a, rfl, hn4, ?_⟩
                rw [zad_ge hn5, m1, of_decide_eq_true hrc, hj]
                exact vk_recv (adK := fun i => sp (1000 + i)) hRO.1 hj5 hS
              · rw [if_neg ha] at hrc
                rw [Bool.and_eq_true, decide_eq_true_eq] at hrc
                have ha1 : (a : Nat) < g.1 := hrc.1
                have hrc2 := hrc.2
                split at hrc2
                · rename_i ci hci
                  rw [decide_eq_true_eq] at hrc2
                  refine ⟨a, rfl, z_ne14 ha1 hg, ?_⟩
                  have he := zWo_get (C := C) (ad := zad B0 sp) (h := h) ha1
                  rw [zCe_ob hci] at he
                  have hci9 : ci < zCo.length := (List.getElem?_eq_some_iff.mp hrc2).1
                  have hci9' : ci < 9 := hci9
                  have hr1 : ∃ r1, zCl[ci]? = some r1 := ⟨_, List.getElem?_eq_getElem (by exact hci9')⟩
                  obtain ⟨r1, hr1⟩ := hr1
                  obtain ⟨o, h1, h2, -⟩ := zCo_at hr1
                  rw [hrc2] at h1
                  cases h1
                  rw [m1, h2]
                  exact va_recv hK hP hr1 he
                · cases hrc2
            · cases hrc
          obtain ⟨a, rfl, ha14, hcell⟩ := hrec
          have hmap : (Value.ref a :: as1).map (zTr (zad B0 sp) fq) = .ref (zad B0 sp a) :: as1.map (zTr (zad B0 sp) fq) := by rw [List.map_cons, zTr_ref ha14]
          rw [hmap] at hPc hM
          have hstk : st.map (zTr (zad B0 sp) fq) = (as1.map (zTr (zad B0 sp) fq)).reverse ++ .ref (zad B0 sp a) :: (st.drop (zNp M' + 1)).map (zTr (zad B0 sp) fq) := by
            conv => lhs; rw [hst]
            simp only [List.map_append, List.map_reverse, List.map_cons, zTr_ref ha14]
          generalize hO : zO (zOn M) = own at hown w1
          refine zgo_ok (a := (Value.ref (zad B0 sp a) :: as1.map (zTr (zad B0 sp) fq)).toArray) (rest := st.drop (zNp M' + 1)) (va_runV (Ts := zTb) (own := own) (C := (zY M').cls) (As := as1.map (zTr (zad B0 sp) fq)) (n := as1.length) (bytes := zBy M') (maxL := zML M') (ret := zRt M') ⟨hx, hb, hml, hown, hts⟩ hM
            ⟨⟨rfl, rfl, by show d + 1 ≤ R.frames; omega, by show 8 + (zML M' + 11) + 70 * d ≤ R.locals; omega, hpay, List.mem_cons_self, hcode, hini, ⟨m4, m5⟩, hlen, w1⟩, w2, w3⟩
            ⟨zBlind, hcell, hPc⟩ rfl (by simp) (by rw [hls]) hstk (lv_room (by rw [hcat]; exact hcond.2.2)) hd ⟨hce, hsl⟩) hS k
        · cases hs0
      · cases hs0
    · cases hs0
  | invokespecial i =>
    obtain rfl : len = 3 := by simpa [zLk] using hk
    simp only [zCa0] at hs0
    split at hs0
    · rename_i M1 hck
      split at hs0
      · rename_i a as1 hrev
        split at hs0
        · rename_i hcond
          cases hs0
          have hM7 := zCk_lt hck
          have hM8 : M' < zMt.length := by rw [zM_len]; omega
          obtain ⟨m1, m2, m3, m4, m5, m6⟩ := zM_ok hM8
          have hini := hts _ (zCk_ini hck)
          obtain ⟨w1, w2, w3, w4⟩ := zCk_2 hck
          have w1 := hts _ w1
          have w2 := hts _ w2
          have hst := z_split hrev
          have hcode := hts _ (zM_code hM7)
          have hpay := pay_in hts (zWs_good hM7)
          have hlen : ∀ sig, parseMethodDescriptor (zY M').desc = some sig → as1.length = sig.parameters.length := by
            intro sig hsig
            rw [hsig] at m6
            rw [hcond.1]
            exact (Option.some.inj m6).symm
          have ha14 : a ≠ 1400 := z_ne14 (g := (1000, [])) hcond.2.1 (Nat.le_refl _)
          have hmap : (Value.ref a :: as1).map (zTr (zad B0 sp) fq) = .ref (zad B0 sp a) :: as1.map (zTr (zad B0 sp) fq) := by rw [List.map_cons, zTr_ref ha14]
          rw [hmap] at hPc hM
          have hstk : st.map (zTr (zad B0 sp) fq) = (as1.map (zTr (zad B0 sp) fq)).reverse ++ .ref (zad B0 sp a) :: (st.drop (zNp M' + 1)).map (zTr (zad B0 sp) fq) := by
            conv => lhs; rw [hst]
            simp only [List.map_append, List.map_reverse, List.map_cons, zTr_ref ha14]
          rw [w4] at hcode
          generalize hO : zO (zOn M) = own at hown w1
          refine zgo_ok (a := (Value.ref (zad B0 sp a) :: as1.map (zTr (zad B0 sp) fq)).toArray) (rest := st.drop (zNp M' + 1)) (va_runI (Ts := zTb) (own := own) (As := as1.map (zTr (zad B0 sp) fq)) (n := as1.length) (bytes := zBy M') (maxL := zML M') ⟨hx, hb, hml, hown, hts⟩ hM
            ⟨⟨rfl, rfl, by show d + 1 ≤ R.frames; omega, by show 8 + (zML M' + 11) + 70 * d ≤ R.locals; omega, hpay, by rw [← w4]; exact List.mem_cons_self, hcode, hini, ⟨m4, m5⟩, hlen, w1⟩, w3, w2⟩
            ⟨zBlind, hPc⟩ rfl (by simp) (by rw [hls]) hstk (lv_room (by rw [hcat]; exact hcond.2.2)) hd ⟨hce, hsl⟩) hS k
        · cases hs0
      · cases hs0
    · cases hs0
  | invokestatic i =>
    obtain rfl : len = 3 := by simpa [zLk] using hk
    simp only [zCa0] at hs0
    split at hs0
    · rename_i M1 hck
      split at hs0
      · rename_i hcond
        cases hs0
        have hM7 := zCk_lt hck
        have hM8 : M' < zMt.length := by rw [zM_len]; omega
        obtain ⟨m1, m2, m3, m4, m5, m6⟩ := zM_ok hM8
        have hini := hts _ (zCk_ini hck)
        obtain ⟨w1, w2⟩ := zCk_1 hck
        have w1 := hts _ w1
        have w2 := hts _ w2
        have hcode := hts _ (zM_code hM7)
        have hpay := pay_in hts (zWs_good hM7)
        have hlen : ∀ sig, parseMethodDescriptor (zY M').desc = some sig → zNp M' = sig.parameters.length := by
          intro sig hsig
          rw [hsig] at m6
          exact (Option.some.inj m6).symm
        have hstk : st.map (zTr (zad B0 sp) fq) = (((st.take (zNp M')).reverse).map (zTr (zad B0 sp) fq)).reverse ++ (st.drop (zNp M')).map (zTr (zad B0 sp) fq) := by
          rw [← List.map_reverse, List.reverse_reverse, ← List.map_append, List.take_append_drop]
        generalize hO : zO (zOn M) = own at hown w1
        refine zgo_ok (a := (((st.take (zNp M')).reverse).map (zTr (zad B0 sp) fq)).toArray) (rest := st.drop (zNp M')) (va_runS (Ts := zTb) (own := own) (As := ((st.take (zNp M')).reverse).map (zTr (zad B0 sp) fq)) (n := zNp M') (bytes := zBy M') (maxL := zML M') (ret := zRt M') ⟨hx, hb, hml, hown, hts⟩ hM
          ⟨⟨rfl, rfl, by show d + 1 ≤ R.frames; omega, by show 8 + (zML M' + 11) + 70 * d ≤ R.locals; omega, hpay, List.mem_cons_self, hcode, hini, ⟨m4, m5⟩, hlen, w1⟩, w2⟩
          ⟨zBlind, hPc⟩ rfl (by rw [List.length_map, List.length_reverse]; exact hcond.1) (by rw [hls]) hstk (lv_room (by rw [hcat]; exact hcond.2)) hd ⟨hce, hsl⟩) hS k
      · cases hs0
    · rename_i M1 hck
      split at hs0
      · rename_i hcond
        cases hs0
        have hM7 := zCk_lt hck
        have hM8 : M' < zMt.length := by rw [zM_len]; omega
        obtain ⟨m1, m2, m3, m4, m5, m6⟩ := zM_ok hM8
        have hini := hts _ (zCk_ini hck)
        obtain ⟨⟨e0, he0, he1, he2, he3⟩, w2⟩ := zCk_3 hck
        have w1 := hRO.2.2.2.2.2.2.1 e0 he0 he1
        rw [he2, he3] at w1
        simp only at w1
        have w1 := va_Nw.use (A := args) rfl w1
        have w2 := hts _ w2
        have hcode := hts _ (zM_code hM7)
        have hpay := pay_in hts (zWs_good hM7)
        have hlen : ∀ sig, parseMethodDescriptor (zY M').desc = some sig → zNp M' = sig.parameters.length := by
          intro sig hsig
          rw [hsig] at m6
          exact (Option.some.inj m6).symm
        have hstk : st.map (zTr (zad B0 sp) fq) = (((st.take (zNp M')).reverse).map (zTr (zad B0 sp) fq)).reverse ++ (st.drop (zNp M')).map (zTr (zad B0 sp) fq) := by
          rw [← List.map_reverse, List.reverse_reverse, ← List.map_append, List.take_append_drop]
        generalize hO : zO (zOn M) = own at hown w1
        refine zgo_ok (a := (((st.take (zNp M')).reverse).map (zTr (zad B0 sp) fq)).toArray) (rest := st.drop (zNp M')) (va_runSN (Ts := zTb) (own := own) (As := ((st.take (zNp M')).reverse).map (zTr (zad B0 sp) fq)) (n := zNp M') (bytes := zBy M') (maxL := zML M') (ret := zRt M') ⟨hx, hb, hml, hown, hts⟩ hM
          ⟨⟨⟨rfl, rfl, by show d + 1 ≤ R.frames; omega, by show 8 + (zML M' + 11) + 70 * d ≤ R.locals; omega, hpay, List.mem_cons_self⟩, hcode, hini, ⟨m4, m5⟩, hlen, w1⟩, w2, trivial⟩
          ⟨zBlind, hPc⟩ rfl (by rw [List.length_map, List.length_reverse]; exact hcond.1) (by rw [hls]) hstk (lv_room (by rw [hcat]; exact hcond.2)) hd ⟨hce, hsl⟩) hS k
      · cases hs0
    · cases hs0
  | _ => cases hs0
end
