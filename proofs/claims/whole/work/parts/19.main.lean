/-! ===== soundness: a run of the small machine is a run of the machine ===== -/
theorem zStep_g {sc : zSc} {d M len pc pc' : Nat} {op : Instr} {lv lv' : zLv} {st st' : List Value} {g g' : zSg} {h h' : zHp} (hs : zStep sc d M op len pc lv st g h = some (.inl (pc', lv', st', g', h'))) : g.1 ≤ g'.1 ∧ (g.1 ≤ 1000 → g'.1 ≤ 1000) := by
  unfold zStep at hs
  split at hs
  · cases hs; exact ⟨Nat.le_refl _, fun z => z⟩
  · split at hs
    · cases hs; exact ⟨Nat.le_refl _, fun z => z⟩
    · split at hs
      · cases hs; exact ⟨Nat.le_refl _, fun z => z⟩
      · split at hs
        · rename_i hh
          cases hs
          exact zHeap_g hh
        · split at hs
          · cases hs
          · split at hs <;> cases hs
theorem zX_g (sc : zSc) : ∀ (n d M pc : Nat) (lv : zLv) (st : List Value) (g : zSg) (h : zHp) (r : Option Value) (g' : zSg) (h' : zHp), zX sc n d M pc lv st g h = some (r, g', h') → g.1 ≤ g'.1 ∧ (g.1 ≤ 1000 → g'.1 ≤ 1000) := by
  intro n
  induction n with
  | zero => intro d M pc lv st g h r g' h' hz; simp [zX] at hz
  | succ n ih =>
    intro d M pc lv st g h r g' h' hz
    rw [zX] at hz
    cases hd : zD M pc with
    | none => rw [hd] at hz; cases hz
    | some q =>
      obtain ⟨op, len, mq⟩ := q
      rw [hd] at hz
      simp only at hz
      cases hs : zStep sc d M op len pc (zMo mq lv) st g h with
      | none => rw [hs] at hz; cases hz
      | some x =>
        rw [hs] at hz
        rcases x with ⟨pc1, lv1, st1, g1, h1⟩ | r1 | ⟨M1, as, rest, ini⟩
        · have a1 := zStep_g hs
          have a2 := ih _ _ _ _ _ _ _ _ _ _ hz
          exact ⟨Nat.le_trans a1.1 a2.1, fun z => a2.2 (a1.2 z)⟩
        · cases hz; exact ⟨Nat.le_refl _, fun z => z⟩
        · cases d with
          | zero => cases hz
          | succ d1 =>
            simp only at hz
            cases hc : zX sc n d1 M1 0 (zEnt M1 as) [] g h with
            | none => rw [hc] at hz; cases hz
            | some y =>
              obtain ⟨r1, g1, h1⟩ := y
              rw [hc] at hz
              simp only at hz
              split at hz
              · have a1 := ih _ _ _ _ _ _ _ _ _ _ hc
                have a2 := ih _ _ _ _ _ _ _ _ _ _ hz
                exact ⟨Nat.le_trans a1.1 a2.1, fun z => a2.2 (a1.2 z)⟩
              · cases hz
def zBody (l : Launch) (D : va_G) (C : Nat → ClassId) (B0 : Nat) (sp : Nat → Nat) (fq : Value) (sc : zSc) (n : Nat) : Prop :=
  ∀ (d M pc : Nat) (lv : zLv) (st : List Value) (g : zSg) (h : zHp) (r : Option Value) (g' : zSg) (h' : zHp), zX sc n d M pc lv st g h = some (r, g', h') →
  ∀ (p : Program) (e : Env) (R : Room) (s : State) (m : MethodId) (args : Array Value) (below : List Frame) (meth : Method) (c : Code) (H : Heap) (locs : List Loc) (cells slots : Nat) (Q : State → Prop) (ls : Array Slot),
    zCtx D C B0 sp fq sc M p s m args meth c → zLh (zTr (zad B0 sp) fq) ls (zML M) lv → g.1 ≤ 1000 → va_P D zCl (zWo C (zad B0 sp) g h) H → va_S (zA B0) s.heap H locs → s.heap.size + cells = B0 + g.1 → d ≤ R.frames → 70 * d ≤ R.locals → cells + (g'.1 - g.1) ≤ R.cells → slots + (zSl g'.1 - zSl g.1) ≤ R.slots →
    (∀ (pcr : Nat) (lsr : Array Slot) (op : Instr) (H1 : Heap) (locs1 : List Loc), decode (zBy M) pcr = .ok (op, 1) → zRet (zRt M) op r.toList = some r → va_P D zCl (zWo C (zad B0 sp) g' h') H1 → va_S (zA B0) s.heap H1 locs1 → W p l e R s m args below meth c H1 locs1 (cells + (g'.1 - g.1)) (slots + (zSl g'.1 - zSl g.1)) Q (F0 m pcr lsr (r.toList.map (zTr (zad B0 sp) fq)))) →
    W p l e R s m args below meth c H locs cells slots Q (F0 m pc ls (st.map (zTr (zad B0 sp) fq)))
theorem zRet_len {t : Option FieldType} {op : Instr} {st : List Value} {r : Option Value} {len : Nat} (h : zRet t op st = some r) (hk : zLk op len = true) : len = 1 ∧ st = r.toList ∧ zRet t op r.toList = some r := by
  have h0 := h
  rcases zRk_ok h with ⟨x, ty, rfl, rfl, rfl, -, -⟩ | ⟨x, rfl, rfl, rfl, -⟩ | ⟨rfl, rfl, rfl, -⟩
  · exact ⟨by simpa [zLk] using hk, rfl, h0⟩
  · exact ⟨by simpa [zLk] using hk, rfl, h0⟩
  · exact ⟨by simpa [zLk] using hk, rfl, h0⟩
theorem zMet_of {l : Launch} {D : va_G} {C : Nat → ClassId} {B0 : Nat} {sp : Nat → Nat} {fq : Value} {sc : zSc} {n d M : Nat} {as : List Value} {g g' : zSg} {h h' : zHp} {r : Option Value} (hB : zBody l D C B0 sp fq sc n) (hM : M < 197) (hle : (zExp as).length ≤ zML M) (hfq : fq.category = 1) (hg : g.1 ≤ 1000) (hz : zX sc n d M 0 (zEnt M as) [] g h = some (r, g', h')) : zMet l D C B0 sp fq sc d M as g g' h h' r := by
  have hM8 : M < zMt.length := by rw [zM_len]; omega
  obtain ⟨m1, m2, m3, m4, m5, m6⟩ := zM_ok hM8
  refine va_MetF (cc := zBy M) (maxL := zML M) (ret := zRt M) m2 rfl ?_
  intro p e s m args below meth c s₁ B hml hv
  obtain ⟨rfl, hsz, hP, hK, hRO⟩ := hv
  have hx := B.exec
  have hb := B.bytes
  have hr := B.returns
  have hts := atoms_spec (ws := zWs M) B.pre
  have hown : s.vm.findClass (zY M).cls = some m.cls := findClass_of_methodNamed B.named
  have hlocks := B.notSynchronized
  have hname : meth.name = (zY M).name := (name_of_methodNamed B.named B.method).1
  have hcat := fun v => zTr_cat (ad := zad B0 sp) hfq v
  have hctx : zCtx D C B0 sp fq sc M p s m (as.map (zTr (zad B0 sp) fq)).toArray meth c := by
    refine ⟨hx, hb, hml, by rw [← m1]; exact hown, fun w hw => hts w (List.mem_cons_of_mem _ hw), hK, hRO, fun hi => ?_, by omega, hfq⟩
    unfold zIni at hi
    by_cases hn : (zY M).name = "<init>"
    · rw [hname, hn]
    · rw [if_neg hn] at hi; exact absurd rfl hi
  have hl := lv_entry (as.map (zTr (zad B0 sp) fq)) (n := zML M) (by rw [zExp_len hcat]; exact hle)
  rw [lg_entry_eq]
  generalize (lg_sl (as.map (zTr (zad B0 sp) fq)) ++ List.replicate (zML M - (lg_sl (as.map (zTr (zad B0 sp) fq))).length) Slot.unset).toArray = ls at hl ⊢
  refine hB d M 0 (zEnt M as) [] g h r g' h' hz p e _ s m _ below meth c s.heap [] 0 0 _ ls hctx (zEnt_ok hcat hle hl) hg hP va_S.rf hsz (Nat.le_refl d) (Nat.le_refl (70 * d)) (Nat.le_of_eq (Nat.zero_add _)) (Nat.le_of_eq (Nat.zero_add _)) ?_
  intro pcr lsr op H1 locs1 hd hrt hP1 hS1
  rw [Nat.zero_add, Nat.zero_add]
  rcases zRk_ok hrt with ⟨x, ty, rfl, rfl, -, ht, hn⟩ | ⟨x, rfl, rfl, -, ht⟩ | ⟨rfl, rfl, -, ht⟩
  · exact W.zret (v := x) (ty := ty) hx hb (hr.trans ht) hn (fun t ht2 hW => ⟨⟨x, (), rfl, rfl, by have hP2 := hP1; rw [← ht2] at hP2; exact hP2⟩, hS1.F ht2⟩) hS1.2.2 hd
  · exact W.lret (v := x) hx hb (hr.trans ht) (fun t ht2 hW => ⟨⟨x, (), rfl, rfl, by have hP2 := hP1; rw [← ht2] at hP2; exact hP2⟩, hS1.F ht2⟩) hS1.2.2 hd
  · exact W.vret hx hb (hr.trans ht) (fun t ht2 hW => ⟨⟨(), rfl, trivial, by have hP2 := hP1; rw [← ht2] at hP2; exact hP2⟩, hS1.F ht2⟩) hS1.2.2 hd
theorem zMo_lh {tr : Value → Value} {ls : Array Slot} {nL : Nat} {lv : zLv} {mq : Option (List Bool)} (h : zLh tr ls nL lv) (hm : (zMo mq lv).length = lv.length) : zLh tr ls nL (zMo mq lv) := by
  refine ⟨h.1, h.2.1, hm.trans h.2.2.1, fun i v hi => h.2.2.2 i v ?_⟩
  cases mq with
  | none => exact hi
  | some b =>
    simp only [zMo, List.getElem?_zipWith] at hi
    cases h1 : b[i]? with
    | none => rw [h1] at hi; simp at hi
    | some x =>
      cases h2 : lv[i]? with
      | none => rw [h1, h2] at hi; simp at hi
      | some y =>
        rw [h1, h2] at hi
        cases x with
        | false => simp at hi
        | true => simpa using hi
set_option maxRecDepth 100000 in
theorem z_mkl : (List.range 198).all (fun M => ((zMkT[M]?).getD []).all (fun e => decide (e.2.length = zML M))) = true := by decide +kernel
set_option maxRecDepth 100000 in
theorem z_mkT : zMkT.length = 198 := rfl
theorem zMk_len {M pc : Nat} {lv : zLv} (hl : lv.length = zML M) : (zMo (zMk M pc) lv).length = lv.length := by
  unfold zMk
  cases hq : ((zMkT[M]?).getD []).lookup pc with
  | none => rfl
  | some b =>
    have hM : M < 198 := by
      rcases Nat.lt_or_ge M 198 with h1 | h1
      · exact h1
      · rw [List.getElem?_eq_none (by rw [z_mkT]; exact h1)] at hq
        cases hq
    have h1 := List.all_eq_true.mp (List.all_eq_true.mp z_mkl M (List.mem_range.mpr hM)) _ (z_lk hq)
    rw [decide_eq_true_eq] at h1
    simp only at h1
    show (List.zipWith _ b lv).length = lv.length
    rw [List.length_zipWith]
    omega
theorem zD_some {M pc len : Nat} {op : Instr} {mq : Option (List Bool)} (h : zD M pc = some (op, len, mq)) : decode (zBy M) pc = .ok (op, len) ∧ zLk op len = true ∧ mq = zMk M pc := by
  unfold zD at h
  split at h
  · rename_i op1 len1 hq
    split at h
    · rename_i hk
      cases h
      exact ⟨hq, hk, rfl⟩
    · cases h
  · cases h
theorem zCal_lt {o : Nat} {op : Instr} {st : List Value} {g : zSg} {M : Nat} {as rest : List Value} {ini : Bool} (hs : zCal o op st g = some (M, as, rest, ini)) : M < 197 ∧ (zExp as).length ≤ zML M := by
  unfold zCal at hs
  cases hq : zCa0 o op st g with
  | none => rw [hq] at hs; cases hs
  | some q =>
    rw [hq] at hs
    simp only at hs
    split at hs
    · rename_i hle
      cases hs
      refine ⟨?_, hle⟩
      unfold zCa0 at hq
      split at hq
      · split at hq
        · rename_i hck
          split at hq
          · split at hq
            · cases hq; exact zCk_lt hck
            · cases hq
          · cases hq
        · cases hq
      · split at hq
        · rename_i hck
          split at hq
          · split at hq
            · cases hq; exact zCk_lt hck
            · cases hq
          · cases hq
        · cases hq
      · split at hq
        · rename_i hck
          split at hq
          · cases hq; exact zCk_lt hck
          · cases hq
        · rename_i hck
          split at hq
          · cases hq; exact zCk_lt hck
          · cases hq
        · cases hq
      · cases hq
    · cases hs
set_option maxHeartbeats 4000000 in
theorem zBody_all (l : Launch) (D : va_G) (C : Nat → ClassId) (B0 : Nat) (sp : Nat → Nat) (fq : Value) (sc : zSc) : ∀ n, zBody l D C B0 sp fq sc n := by
  intro n
  induction n with
  | zero => intro d M pc lv st g h r g' h' hz; simp [zX] at hz
  | succ n ih =>
    intro d M pc lv st g h r g' h' hz p e R s m args below meth c H locs cells slots Q ls hctx hl hg hP hS hcl hfr hlo hce hsl hret
    have hfq : fq.category = 1 := hctx.2.2.2.2.2.2.2.2.2
    rw [zX] at hz
    cases hd0 : zD M pc with
    | none => rw [hd0] at hz; cases hz
    | some q =>
      obtain ⟨op, len, mq⟩ := q
      rw [hd0] at hz
      simp only at hz
      obtain ⟨hd, hk, rfl⟩ := zD_some hd0
      have hl := zMo_lh hl (zMk_len hl.2.2.1 (pc := pc))
      generalize zMo (zMk M pc) lv = lv0 at hz hl
      cases hs : zStep sc d M op len pc lv0 st g h with
      | none => rw [hs] at hz; cases hz
      | some x =>
        rw [hs] at hz
        unfold zStep at hs
        cases h1 : zPure (zOn M) op lv0 st with
        | some st1 =>
          rw [h1] at hs
          cases hs
          exact zPure_ok hctx hd hk hl hS h1 (ih _ _ _ _ _ _ _ _ _ _ hz p e R s m args below meth c H locs cells slots Q ls hctx hl hg hP hS hcl hfr hlo hce hsl hret)
        | none =>
          rw [h1] at hs
          simp only at hs
          cases h2 : zLoc op lv0 st with
          | some y =>
            obtain ⟨lv1, st1⟩ := y
            rw [h2] at hs
            cases hs
            exact zLoc_ok hctx hd hk hl h2 (fun ls1 hl1 => ih _ _ _ _ _ _ _ _ _ _ hz p e R s m args below meth c H locs cells slots Q ls1 hctx hl1 hg hP hS hcl hfr hlo hce hsl hret)
          | none =>
            rw [h2] at hs
            simp only at hs
            cases h3 : zBr op pc st with
            | some y =>
              obtain ⟨pc1, st1⟩ := y
              rw [h3] at hs
              cases hs
              exact zBr_ok hctx hd hk h3 (ih _ _ _ _ _ _ _ _ _ _ hz p e R s m args below meth c H locs cells slots Q ls hctx hl hg hP hS hcl hfr hlo hce hsl hret)
            | none =>
              rw [h3] at hs
              simp only at hs
              cases h4 : zHeap sc d (zIni M) (zOn M) op st g h with
              | some y =>
                obtain ⟨st1, g1, h1'⟩ := y
                rw [h4] at hs
                cases hs
                simp only at hz
                have a1 := zHeap_g h4
                have a2 := zX_g _ _ _ _ _ _ _ _ _ _ _ _ hz
                have b1 := zSl_le a1.1
                have b2 := zSl_le a2.1
                refine zHeap_ok hctx hl.1 hg hP hS hcl hfr hlo hd hk h4 (by omega) (by omega) (fun H1 locs1 hP1 hS1 => ?_)
                refine ih _ _ _ _ _ _ _ _ _ _ hz p e R s m args below meth c H1 locs1 _ _ Q ls hctx hl (a1.2 hg) hP1 hS1 (by omega) hfr hlo (by omega) (by omega) ?_
                intro pcr lsr op2 H2 locs2 c1 c2 c3 c4
                have h9 := hret pcr lsr op2 H2 locs2 c1 c2 c3 c4
                rw [show cells + (g1.1 - g.1) + (g'.1 - g1.1) = cells + (g'.1 - g.1) by omega, show slots + (zSl g1.1 - zSl g.1) + (zSl g'.1 - zSl g1.1) = slots + (zSl g'.1 - zSl g.1) by omega]
                exact h9
              | none =>
                rw [h4] at hs
                simp only at hs
                cases h5 : zRet (zRt M) op st with
                | some r1 =>
                  rw [h5] at hs
                  cases hs
                  simp only at hz
                  cases hz
                  obtain ⟨rfl, rfl, h7⟩ := zRet_len h5 hk
                  have h9 := hret pc ls op H locs hd h7 hP hS
                  rw [Nat.sub_self, Nat.sub_self, Nat.add_zero, Nat.add_zero] at h9
                  exact h9
                | none =>
                  rw [h5] at hs
                  simp only at hs
                  cases h6 : zCal (zOn M) op st g with
                  | none => rw [h6] at hs; cases hs
                  | some y =>
                    obtain ⟨M1, as, rest, ini⟩ := y
                    rw [h6] at hs
                    cases hs
                    cases d with
                    | zero => cases hz
                    | succ d1 =>
                      simp only at hz
                      cases hc : zX sc n d1 M1 0 (zEnt M1 as) [] g h with
                      | none => rw [hc] at hz; cases hz
                      | some y =>
                        obtain ⟨r1, g1, h1'⟩ := y
                        rw [hc] at hz
                        simp only at hz
                        split at hz
                        · have a1 := zX_g _ _ _ _ _ _ _ _ _ _ _ _ hc
                          have a2 := zX_g _ _ _ _ _ _ _ _ _ _ _ _ hz
                          have b1 := zSl_le a1.1
                          have b2 := zSl_le a2.1
                          obtain ⟨hM7, hle⟩ := zCal_lt h6
                          refine zCal_ok hctx hl.1 hg hP hS hcl hfr hlo hd hk h6 (zMet_of ih hM7 hle hfq hg hc) (by omega) (by omega) (fun H1 locs1 hP1 hS1 => ?_)
                          refine ih _ _ _ _ _ _ _ _ _ _ hz p e R s m args below meth c H1 locs1 _ _ Q ls hctx hl (a1.2 hg) hP1 hS1 (by omega) hfr hlo (by omega) (by omega) ?_
                          intro pcr lsr op2 H2 locs2 c1 c2 c3 c4
                          have h9 := hret pcr lsr op2 H2 locs2 c1 c2 c3 c4
                          rw [show cells + (g1.1 - g.1) + (g'.1 - g1.1) = cells + (g'.1 - g.1) by omega, show slots + (zSl g1.1 - zSl g.1) + (zSl g'.1 - zSl g1.1) = slots + (zSl g'.1 - zSl g.1) by omega]
                          exact h9
                        · cases hz
