/-! ===== an equation of the small machine for each instruction: heap, calls ===== -/
section
variable {sc : zSc} {d M pc i a b k n ci : Nat} {lv : zLv} {st : List Value} {g : zSg} {h : zHp} {mq : Option (List Bool)}
theorem z_ci100 {ci k c : Nat} (h : zFc ci k = some c) : ci ≠ 100 := by
  rintro rfl
  have h0 : zFc 100 k = none := rfl
  rw [h0] at h
  cases h
/-- a Town, a Talk in a field, an array: read, and of the kind that it must be -/
def zOT (o : Option Nat) (f : (t : Nat) → zTw t = true → Option zRs) : Option zRs := match o with
  | some t => if ht : zTw t = true then f t ht else none
  | none => none
def zOK (o : Option Nat) (f : (t : Nat) → zTk t = true → Option zRs) : Option zRs := match o with
  | some t => if ht : zTk t = true then f t ht else none
  | none => none
theorem zOT_some {t : Nat} (ht : zTw t = true) (f : (t : Nat) → zTw t = true → Option zRs) : zOT (some t) f = f t ht := by
  simp [zOT, ht]
theorem zOK_some {t : Nat} (ht : zTk t = true) (f : (t : Nat) → zTk t = true → Option zRs) : zOK (some t) f = f t ht := by
  simp [zOK, ht]
theorem ev_getI (hd : zD M pc = some (.getfield i, 3, mq) ∧ zFl (zOn M) i = some (ci, k) ∧ zFc ci k = some 0) (hm : zMo mq lv = lv) (ho : zOb g a ci = true) : zE sc d M pc lv (.ref a :: st) g h = zE sc d M (pc + 3) lv (.int (h.1 a k) :: st) g h :=
  ev_heap hd.1 hm rfl rfl rfl (by simp [zHeap, z_get, hd.2.1, z_ci100 hd.2.2, ho, hd.2.2, z_gf])
theorem ev_getZ (hd : zD M pc = some (.getfield i, 3, mq) ∧ zFl (zOn M) i = some (ci, k) ∧ zFc ci k = some 1) (hm : zMo mq lv = lv) (ho : zOb g a ci = true) : zE sc d M pc lv (.ref a :: st) g h = zE sc d M (pc + 3) lv (.int (h.1 a k) :: st) g h :=
  ev_heap hd.1 hm rfl rfl rfl (by simp [zHeap, z_get, hd.2.1, z_ci100 hd.2.2, ho, hd.2.2, z_gf])
theorem ev_getL (hd : zD M pc = some (.getfield i, 3, mq) ∧ zFl (zOn M) i = some (ci, k) ∧ zFc ci k = some 2) (hm : zMo mq lv = lv) (ho : zOb g a ci = true) : zE sc d M pc lv (.ref a :: st) g h = zE sc d M (pc + 3) lv (.long (h.2.1 a k) :: st) g h :=
  ev_heap hd.1 hm rfl rfl rfl (by simp [zHeap, z_get, hd.2.1, z_ci100 hd.2.2, ho, hd.2.2, z_gf])
theorem ev_getR (hd : zD M pc = some (.getfield i, 3, mq) ∧ zFl (zOn M) i = some (ci, k) ∧ zFc ci k = some 3) (hm : zMo mq lv = lv) (ho : zOb g a ci = true) (hz : zG g a k = some b ∧ b < 1000) : zE sc d M pc lv (.ref a :: st) g h = zE sc d M (pc + 3) lv (.ref b :: st) g h :=
  ev_heap hd.1 hm rfl rfl rfl (by simp [zHeap, z_get, hd.2.1, z_ci100 hd.2.2, ho, hd.2.2, z_gf, hz.1, hz.2])
theorem ev_getT (hd : zD M pc = some (.getfield i, 3, mq) ∧ zFl (zOn M) i = some (ci, k) ∧ zFc ci k = some 4) (hm : zMo mq lv = lv) (ho : zOb g a ci = true) : zE sc d M pc lv (.ref a :: st) g h = zOT (h.2.2 a k) (fun t _ => zE sc d M (pc + 3) lv (.ref t :: st) g h) := by
  have h9 := z_ci100 hd.2.2
  unfold zOT
  cases hr : h.2.2 a k with
  | none => exact ev_stuck hd.1 hm rfl rfl rfl (by simp [zHeap, z_get, hd.2.1, h9, ho, hd.2.2, z_gf, hr]) rfl rfl
  | some t =>
    simp only
    by_cases ht : zTw t = true
    · rw [dif_pos ht]
      exact ev_heap hd.1 hm rfl rfl rfl (by simp [zHeap, z_get, hd.2.1, h9, ho, hd.2.2, z_gf, hr, ht])
    · rw [dif_neg ht]
      exact ev_stuck hd.1 hm rfl rfl rfl (by simp [zHeap, z_get, hd.2.1, h9, ho, hd.2.2, z_gf, hr, ht]) rfl rfl
theorem ev_getS (hd : zD M pc = some (.getfield i, 3, mq) ∧ zFl (zOn M) i = some (100, 0)) (hm : zMo mq lv = lv) (ha : 1000 ≤ a ∧ a < 1005) : zE sc d M pc lv (.ref a :: st) g h = zE sc d M (pc + 3) lv (.ref (a + 100) :: st) g h :=
  ev_heap hd.1 hm rfl rfl rfl (by simp [zHeap, z_get, hd.2, ha.1, ha.2])
theorem ev_getC (hd : zD M pc = some (.getfield i, 3, mq) ∧ zFl (zOn M) i = some (100, 1)) (hm : zMo mq lv = lv) (ha : 1000 ≤ a ∧ a < 1005) : zE sc d M pc lv (.ref a :: st) g h = zE sc d M (pc + 3) lv (.int 0 :: st) g h :=
  ev_heap hd.1 hm rfl rfl rfl (by simp [zHeap, z_get, hd.2, ha.1, ha.2])
theorem ev_putI {x : Int32} (hd : zD M pc = some (.putfield i, 3, mq) ∧ zFl (zOn M) i = some (ci, k) ∧ zFc ci k = some 0) (hm : zMo mq lv = lv) (ho : zOb g a ci = true) : zE sc d M pc lv (.int x :: .ref a :: st) g h = zE sc d M (pc + 3) lv st g (zPI h a k x) :=
  ev_heap hd.1 hm rfl rfl rfl (by simp [zHeap, z_put, hd.2.1, ho, hd.2.2, z_pf])
theorem ev_putZ {x : Int32} (hd : zD M pc = some (.putfield i, 3, mq) ∧ zFl (zOn M) i = some (ci, k) ∧ zFc ci k = some 1) (hm : zMo mq lv = lv) (ho : zOb g a ci = true) (hx : x = 0 ∨ x = 1) : zE sc d M pc lv (.int x :: .ref a :: st) g h = zE sc d M (pc + 3) lv st g (zPI h a k x) :=
  ev_heap hd.1 hm rfl rfl rfl (by simp [zHeap, z_put, hd.2.1, ho, hd.2.2, z_pf, hx])
theorem ev_putL {x : Int64} (hd : zD M pc = some (.putfield i, 3, mq) ∧ zFl (zOn M) i = some (ci, k) ∧ zFc ci k = some 2) (hm : zMo mq lv = lv) (ho : zOb g a ci = true) : zE sc d M pc lv (.long x :: .ref a :: st) g h = zE sc d M (pc + 3) lv st g (zPL h a k x) :=
  ev_heap hd.1 hm rfl rfl rfl (by simp [zHeap, z_put, hd.2.1, ho, hd.2.2, z_pf])
theorem ev_putF (hd : zD M pc = some (.putfield i, 3, mq) ∧ zFl (zOn M) i = some (ci, k) ∧ zFc ci k = some 3 ∧ zIni M = ci) (hm : zMo mq lv = lv) (ho : zOb g a ci = true) (hb : b < g.1 ∧ zG g a k = none) : zE sc d M pc lv (.ref b :: .ref a :: st) g h = zE sc d M (pc + 3) lv st (g.1, ((a, k), b) :: g.2) h :=
  ev_heap hd.1 hm rfl rfl rfl (by simp [zHeap, z_put, hd.2.1, ho, hd.2.2.1, hd.2.2.2, z_pf, hb.1, hb.2])
theorem ev_putT (hd : zD M pc = some (.putfield i, 3, mq) ∧ zFl (zOn M) i = some (ci, k) ∧ zFc ci k = some 4) (hm : zMo mq lv = lv) (ho : zOb g a ci = true) (hb : b < g.1) : zE sc d M pc lv (.ref b :: .ref a :: st) g h = zE sc d M (pc + 3) lv st g (zPR h a k b) :=
  ev_heap hd.1 hm rfl rfl rfl (by simp [zHeap, z_put, hd.2.1, ho, hd.2.2, z_pf, hb])
/-- an array of a kind -/
def zIA (g : zSg) (a t n : Nat) : Prop := a < g.1 ∧ g.1 ≤ 1000 ∧ zLn a = some (t, n)
theorem zIA_ne {t : Nat} (h : zIA g a t n) : a < 1000 ∧ a ≠ 1300 ∧ a ≠ 1200 ∧ ¬ (1100 ≤ a ∧ a < 1105) := by
  obtain ⟨h1, h2, h3⟩ := h
  refine ⟨by omega, by omega, by omega, by omega⟩
theorem ev_iald {j : Int32} (hd : zD M pc = some (.iaload, 1, mq)) (hm : zMo mq lv = lv) (ha : zIA g a 0 n) (hj : zin j n = true) : zE sc d M pc lv (.int j :: .ref a :: st) g h = zE sc d M (pc + 1) lv (.int (h.1 a j.toNatClampNeg) :: st) g h := by
  have h1 := zIA_ne ha
  exact ev_heap hd hm rfl rfl rfl (by simp [zHeap, z_iald, h1.2.1, ha.1, ha.2.2, hj])
theorem ev_iald_c {j : Int32} (hd : zD M pc = some (.iaload, 1, mq)) (hm : zMo mq lv = lv) (ha : zIA g a 0 n) : zE sc d M pc lv (.int j :: .ref a :: st) g h = (if zin j n = true then zE sc d M (pc + 1) lv (.int (h.1 a j.toNatClampNeg) :: st) g h else none) := by
  have h1 := zIA_ne ha
  by_cases hj : zin j n = true
  · rw [if_pos hj]; exact ev_iald hd hm ha hj
  · rw [if_neg hj]; exact ev_stuck hd hm rfl rfl rfl (by simp [zHeap, z_iald, h1.2.1, ha.1, ha.2.2, hj]) rfl rfl
theorem ev_sld_c {j : Int32} (hd : zD M pc = some (.iaload, 1, mq)) (hm : zMo mq lv = lv) : zE sc d M pc lv (.int j :: .ref 1300 :: st) g h = (if zin j sc.1 = true then zE sc d M (pc + 1) lv (.int (sc.2 j.toNatClampNeg) :: st) g h else none) := by
  by_cases hj : zin j sc.1 = true
  · rw [if_pos hj]; exact ev_heap hd hm rfl rfl rfl (by simp [zHeap, z_iald, hj])
  · rw [if_neg hj]; exact ev_stuck hd hm rfl rfl rfl (by simp [zHeap, z_iald, hj]) rfl rfl
theorem ev_bald {j : Int32} (hd : zD M pc = some (.baload, 1, mq)) (hm : zMo mq lv = lv) (ha : zIA g a 1 n) (hj : zin j n = true) : zE sc d M pc lv (.int j :: .ref a :: st) g h = zE sc d M (pc + 1) lv (.int (h.1 a j.toNatClampNeg) :: st) g h := by
  have h1 := zIA_ne ha
  exact ev_heap hd hm rfl rfl rfl (by simp only [zHeap, z_bald]; rw [if_neg h1.2.2.2, if_pos ha.1, ha.2.2]; simp only; rw [if_pos hj]; rfl)
theorem ev_bald_c {j : Int32} (hd : zD M pc = some (.baload, 1, mq)) (hm : zMo mq lv = lv) (ha : zIA g a 1 n) : zE sc d M pc lv (.int j :: .ref a :: st) g h = (if zin j n = true then zE sc d M (pc + 1) lv (.int (h.1 a j.toNatClampNeg) :: st) g h else none) := by
  have h1 := zIA_ne ha
  by_cases hj : zin j n = true
  · rw [if_pos hj]; exact ev_bald hd hm ha hj
  · rw [if_neg hj]; exact ev_stuck hd hm rfl rfl rfl (by simp only [zHeap, z_bald]; rw [if_neg h1.2.2.2, if_pos ha.1, ha.2.2]; simp only; rw [if_neg hj]; rfl) rfl rfl
theorem ev_cald_c {j : Int32} (hd : zD M pc = some (.baload, 1, mq)) (hm : zMo mq lv = lv) (ha : 1100 ≤ a ∧ a < 1105) : zE sc d M pc lv (.int j :: .ref a :: st) g h = (if zin j (zBt.getD (a - 1100) []).length = true then zE sc d M (pc + 1) lv (.int ((zBt.getD (a - 1100) []).getD j.toNatClampNeg 0) :: st) g h else none) := by
  by_cases hj : zin j (zBt.getD (a - 1100) []).length = true
  · rw [if_pos hj]; exact ev_heap hd hm rfl rfl rfl (by simp only [zHeap, z_bald]; rw [if_pos ha, if_pos hj]; rfl)
  · rw [if_neg hj]; exact ev_stuck hd hm rfl rfl rfl (by simp only [zHeap, z_bald]; rw [if_pos ha, if_neg hj]; rfl) rfl rfl
theorem ev_lald {j : Int32} (hd : zD M pc = some (.laload, 1, mq)) (hm : zMo mq lv = lv) (ha : zIA g a 2 n) (hj : zin j n = true) : zE sc d M pc lv (.int j :: .ref a :: st) g h = zE sc d M (pc + 1) lv (.long (h.2.1 a j.toNatClampNeg) :: st) g h := by
  have h1 := zIA_ne ha
  exact ev_heap hd hm rfl rfl rfl (by simp [zHeap, z_lald, h1.2.2.1, ha.1, ha.2.2, hj])
theorem ev_lald_c {j : Int32} (hd : zD M pc = some (.laload, 1, mq)) (hm : zMo mq lv = lv) (ha : zIA g a 2 n) : zE sc d M pc lv (.int j :: .ref a :: st) g h = (if zin j n = true then zE sc d M (pc + 1) lv (.long (h.2.1 a j.toNatClampNeg) :: st) g h else none) := by
  have h1 := zIA_ne ha
  by_cases hj : zin j n = true
  · rw [if_pos hj]; exact ev_lald hd hm ha hj
  · rw [if_neg hj]; exact ev_stuck hd hm rfl rfl rfl (by simp [zHeap, z_lald, h1.2.2.1, ha.1, ha.2.2, hj]) rfl rfl
theorem ev_wld_c {j : Int32} (hd : zD M pc = some (.laload, 1, mq)) (hm : zMo mq lv = lv) : zE sc d M pc lv (.int j :: .ref 1200 :: st) g h = (if zin j 6 = true then zE sc d M (pc + 1) lv (.long (zWi j.toNatClampNeg) :: st) g h else none) := by
  by_cases hj : zin j 6 = true
  · rw [if_pos hj]; exact ev_heap hd hm rfl rfl rfl (by simp [zHeap, z_lald, hj])
  · rw [if_neg hj]; exact ev_stuck hd hm rfl rfl rfl (by simp [zHeap, z_lald, hj]) rfl rfl
theorem ev_aald {j : Int32} (hd : zD M pc = some (.aaload, 1, mq)) (hm : zMo mq lv = lv) (ha : zIA g a 3 n) (hj : zin j n = true) : zE sc d M pc lv (.int j :: .ref a :: st) g h = zOK (h.2.2 a j.toNatClampNeg) (fun t _ => zE sc d M (pc + 1) lv (.ref t :: st) g h) := by
  unfold zOK
  cases hr : h.2.2 a j.toNatClampNeg with
  | none => exact ev_stuck hd hm rfl rfl rfl (by simp [zHeap, z_aald, ha.1, ha.2.2, hj, hr]) rfl rfl
  | some t =>
    simp only
    by_cases ht : zTk t = true
    · rw [dif_pos ht]
      exact ev_heap hd hm rfl rfl rfl (by simp [zHeap, z_aald, ha.1, ha.2.2, hj, hr, ht])
    · rw [dif_neg ht]
      exact ev_stuck hd hm rfl rfl rfl (by simp [zHeap, z_aald, ha.1, ha.2.2, hj, hr, ht]) rfl rfl
theorem ev_aald_c {j : Int32} (hd : zD M pc = some (.aaload, 1, mq)) (hm : zMo mq lv = lv) (ha : zIA g a 3 n) : zE sc d M pc lv (.int j :: .ref a :: st) g h = (if zin j n = true then zOK (h.2.2 a j.toNatClampNeg) (fun t _ => zE sc d M (pc + 1) lv (.ref t :: st) g h) else none) := by
  by_cases hj : zin j n = true
  · rw [if_pos hj]; exact ev_aald hd hm ha hj
  · rw [if_neg hj]; exact ev_stuck hd hm rfl rfl rfl (by simp [zHeap, z_aald, ha.1, ha.2.2, hj]) rfl rfl
theorem ev_iast {j x : Int32} (hd : zD M pc = some (.iastore, 1, mq)) (hm : zMo mq lv = lv) (ha : zIA g a 0 n) (hj : zin j n = true) : zE sc d M pc lv (.int x :: .int j :: .ref a :: st) g h = zE sc d M (pc + 1) lv st g (zPI h a j.toNatClampNeg x) :=
  ev_heap hd hm rfl rfl rfl (by simp [zHeap, z_iast, ha.1, ha.2.2, hj])
theorem ev_iast_c {j x : Int32} (hd : zD M pc = some (.iastore, 1, mq)) (hm : zMo mq lv = lv) (ha : zIA g a 0 n) : zE sc d M pc lv (.int x :: .int j :: .ref a :: st) g h = (if zin j n = true then zE sc d M (pc + 1) lv st g (zPI h a j.toNatClampNeg x) else none) := by
  by_cases hj : zin j n = true
  · rw [if_pos hj]; exact ev_iast hd hm ha hj
  · rw [if_neg hj]; exact ev_stuck hd hm rfl rfl rfl (by simp [zHeap, z_iast, ha.1, ha.2.2, hj]) rfl rfl
theorem ev_bast {j x : Int32} (hd : zD M pc = some (.bastore, 1, mq)) (hm : zMo mq lv = lv) (ha : zIA g a 1 n) (hx : x = 0 ∨ x = 1) (hj : zin j n = true) : zE sc d M pc lv (.int x :: .int j :: .ref a :: st) g h = zE sc d M (pc + 1) lv st g (zPI h a j.toNatClampNeg x) :=
  ev_heap hd hm rfl rfl rfl (by simp [zHeap, z_bast, ha.1, ha.2.2, hj, hx])
theorem ev_bast_c {j x : Int32} (hd : zD M pc = some (.bastore, 1, mq)) (hm : zMo mq lv = lv) (ha : zIA g a 1 n) (hx : x = 0 ∨ x = 1) : zE sc d M pc lv (.int x :: .int j :: .ref a :: st) g h = (if zin j n = true then zE sc d M (pc + 1) lv st g (zPI h a j.toNatClampNeg x) else none) := by
  by_cases hj : zin j n = true
  · rw [if_pos hj]; exact ev_bast hd hm ha hx hj
  · rw [if_neg hj]; exact ev_stuck hd hm rfl rfl rfl (by simp [zHeap, z_bast, ha.1, ha.2.2, hj, hx]) rfl rfl
theorem ev_last {j : Int32} {x : Int64} (hd : zD M pc = some (.lastore, 1, mq)) (hm : zMo mq lv = lv) (ha : zIA g a 2 n) (hj : zin j n = true) : zE sc d M pc lv (.long x :: .int j :: .ref a :: st) g h = zE sc d M (pc + 1) lv st g (zPL h a j.toNatClampNeg x) :=
  ev_heap hd hm rfl rfl rfl (by simp [zHeap, z_last, ha.1, ha.2.2, hj])
theorem ev_last_c {j : Int32} {x : Int64} (hd : zD M pc = some (.lastore, 1, mq)) (hm : zMo mq lv = lv) (ha : zIA g a 2 n) : zE sc d M pc lv (.long x :: .int j :: .ref a :: st) g h = (if zin j n = true then zE sc d M (pc + 1) lv st g (zPL h a j.toNatClampNeg x) else none) := by
  by_cases hj : zin j n = true
  · rw [if_pos hj]; exact ev_last hd hm ha hj
  · rw [if_neg hj]; exact ev_stuck hd hm rfl rfl rfl (by simp [zHeap, z_last, ha.1, ha.2.2, hj]) rfl rfl
theorem ev_aast {j : Int32} (hd : zD M pc = some (.aastore, 1, mq)) (hm : zMo mq lv = lv) (ha : zIA g a 3 n) (hb : zOb g b 4 = true) (hj : zin j n = true) : zE sc d M pc lv (.ref b :: .int j :: .ref a :: st) g h = zE sc d M (pc + 1) lv st g (zPR h a j.toNatClampNeg b) :=
  ev_heap hd hm rfl rfl rfl (by simp [zHeap, z_aast, ha.1, ha.2.2, hj, hb])
theorem ev_alenS (hd : zD M pc = some (.arraylength, 1, mq)) (hm : zMo mq lv = lv) : zE sc d M pc lv (.ref 1300 :: st) g h = zE sc d M (pc + 1) lv (.int (Int32.ofNat sc.1) :: st) g h :=
  ev_heap hd hm rfl rfl rfl (by simp [zHeap, z_alen])
theorem ev_alenW (hd : zD M pc = some (.arraylength, 1, mq)) (hm : zMo mq lv = lv) : zE sc d M pc lv (.ref 1200 :: st) g h = zE sc d M (pc + 1) lv (.int 6 :: st) g h :=
  ev_heap hd hm rfl rfl rfl (by simp [zHeap, z_alen])
theorem ev_alenB (hd : zD M pc = some (.arraylength, 1, mq)) (hm : zMo mq lv = lv) (ha : 1100 ≤ a ∧ a < 1105) : zE sc d M pc lv (.ref a :: st) g h = zE sc d M (pc + 1) lv (.int (Int32.ofNat (zBt.getD (a - 1100) []).length) :: st) g h :=
  ev_heap hd hm rfl rfl rfl (by simp only [zHeap, z_alen]; rw [if_neg (show ¬ a = 1300 by omega), if_neg (show ¬ a = 1200 by omega), if_pos ha]; rfl)
theorem ev_new (hd : zD M pc = some (.new i, 3, mq) ∧ zLl (zOn M) i = some ci) (hm : zMo mq lv = lv) (hk : zKi g.1 = some (.inr ci) ∧ zFree g = true) : zE sc d M pc lv st g h = zE sc d M (pc + 3) lv (.ref g.1 :: st) (g.1 + 1, g.2) (zBk h g.1) :=
  ev_heap hd.1 hm rfl rfl rfl (by simp [zHeap, z_new, hd.2, hk.1, hk.2])
theorem ev_newa {t : ArrayType} {j : Int32} (hd : zD M pc = some (.newarray t, 2, mq)) (hm : zMo mq lv = lv) (hk : ¬ j < 0 ∧ zAt' t ≠ 9 ∧ j.toNatClampNeg ≤ 1000 ∧ zKi g.1 = some (.inl (zAt' t, j.toNatClampNeg)) ∧ zFree g = true) : zE sc d M pc lv (.int j :: st) g h = zE sc d M (pc + 2) lv (.ref g.1 :: st) (g.1 + 1, g.2) (zBk h g.1) :=
  ev_heap hd hm rfl rfl rfl (by simp only [zHeap, z_newa]; rw [if_pos hk])
theorem ev_newq {j : Int32} (hd : zD M pc = some (.anewarray i, 3, mq) ∧ zLl (zOn M) i = some 4) (hm : zMo mq lv = lv) (hk : ¬ j < 0 ∧ j.toNatClampNeg ≤ 1000 ∧ zKi g.1 = some (.inl (3, j.toNatClampNeg)) ∧ zFree g = true) : zE sc d M pc lv (.int j :: st) g h = zE sc d M (pc + 3) lv (.ref g.1 :: st) (g.1 + 1, g.2) (zBk h g.1) :=
  ev_heap hd.1 hm rfl rfl rfl (by simp only [zHeap, z_newq]; rw [if_pos ⟨hd.2, hk⟩])
theorem ev_oi (hd : zD M pc = some (.invokespecial i, 3, mq) ∧ (zOt.lookup (zOn M, i)).isSome = true) (hm : zMo mq lv = lv) (ha : a < 1000) (hc : (st.map fun v => v.category).sum ≤ 8) : zE sc (d + 1) M pc lv (.ref a :: st) g h = zE sc (d + 1) M (pc + 3) lv st g h :=
  ev_heap hd.1 hm rfl rfl rfl (by simp only [zHeap, z_oi]; rw [if_pos ⟨hd.2, ha, Nat.succ_pos d, hc⟩]; rfl)
theorem ev_cpyI {nn dp sp : Int32} {na nb : Nat} (hd : zD M pc = some (.invokestatic i, 3, mq) ∧ (zAt.lookup (zOn M, i)).isSome = true) (hm : zMo mq lv = lv) (ha : zIA g a 0 na) (hb : zIA g b 0 nb) (hc : (st.map fun v => v.category).sum ≤ 8) (h1 : ¬ sp < 0 ∧ ¬ dp < 0 ∧ ¬ nn < 0 ∧ sp.toNatClampNeg + nn.toNatClampNeg ≤ na ∧ dp.toNatClampNeg + nn.toNatClampNeg ≤ nb) : zE sc (d + 1) M pc lv (.int nn :: .int dp :: .ref b :: .int sp :: .ref a :: st) g h = zE sc (d + 1) M (pc + 3) lv st g (zCI h a b sp.toNatClampNeg dp.toNatClampNeg nn.toNatClampNeg) :=
  ev_heap hd.1 hm rfl rfl rfl (by simp only [zHeap, z_cpy]; rw [if_pos ⟨hd.2, Nat.succ_pos d, ha.1, hb.1, hc, h1.1, h1.2.1, h1.2.2.1⟩, ha.2.2, hb.2.2]; simp only; rw [if_pos ⟨h1.2.2.2.1, h1.2.2.2.2⟩])
theorem ev_cpyL {nn dp sp : Int32} {na nb : Nat} (hd : zD M pc = some (.invokestatic i, 3, mq) ∧ (zAt.lookup (zOn M, i)).isSome = true) (hm : zMo mq lv = lv) (ha : zIA g a 2 na) (hb : zIA g b 2 nb) (hc : (st.map fun v => v.category).sum ≤ 8) (h1 : ¬ sp < 0 ∧ ¬ dp < 0 ∧ ¬ nn < 0 ∧ sp.toNatClampNeg + nn.toNatClampNeg ≤ na ∧ dp.toNatClampNeg + nn.toNatClampNeg ≤ nb) : zE sc (d + 1) M pc lv (.int nn :: .int dp :: .ref b :: .int sp :: .ref a :: st) g h = zE sc (d + 1) M (pc + 3) lv st g (zCL h a b sp.toNatClampNeg dp.toNatClampNeg nn.toNatClampNeg) :=
  ev_heap hd.1 hm rfl rfl rfl (by simp only [zHeap, z_cpy]; rw [if_pos ⟨hd.2, Nat.succ_pos d, ha.1, hb.1, hc, h1.1, h1.2.1, h1.2.2.1⟩, ha.2.2, hb.2.2]; simp only; rw [if_pos ⟨h1.2.2.2.1, h1.2.2.2.2⟩])
end
/-! calls -/
theorem zX_rk (sc : zSc) : ∀ (n d M pc : Nat) (lv : zLv) (st : List Value) (g : zSg) (h : zHp) (r : Option Value) (g' : zSg) (h' : zHp), zX sc n d M pc lv st g h = some (r, g', h') → zRk (zRt M) r = true := by
  intro n
  induction n with
  | zero => intro d M pc lv st g h r g' h' hz; simp [zX] at hz
  | succ n ih =>
    intro d M pc lv st g h r g' h' hz
    rw [zX] at hz
    cases hd : zD M pc with
    | none => rw [hd] at hz; cases hz
    | some q =>
      obtain ⟨op, len, mq⟩ := q
      rw [hd] at hz
      simp only at hz
      cases hs : zStep sc d M op len pc (zMo mq lv) st g h with
      | none => rw [hs] at hz; cases hz
      | some x =>
        rw [hs] at hz
        rcases x with ⟨pc1, lv1, st1, g1, h1⟩ | r1 | ⟨M1, as, rest, ini⟩
        · exact ih _ _ _ _ _ _ _ _ _ _ hz
        · cases hz
          unfold zStep at hs
          repeat' split at hs
          all_goals try cases hs
          rename_i hr
          unfold zRet at hr
          repeat' split at hr
          all_goals try cases hr
          all_goals assumption
        · cases d with
          | zero => cases hz
          | succ d1 =>
            simp only at hz
            cases hc : zX sc n d1 M1 0 (zEnt M1 as) [] g h with
            | none => rw [hc] at hz; cases hz
            | some y =>
              obtain ⟨r1, g1, h1⟩ := y
              rw [hc] at hz
              simp only at hz
              split at hz
              · exact ih _ _ _ _ _ _ _ _ _ _ hz
              · cases hz
noncomputable def zRun (sc : zSc) (d M : Nat) (as : List Value) (g : zSg) (h : zHp) : Option zRs := zE sc d M 0 (zEnt M as) [] g h
theorem zRun_rk {sc : zSc} {d M : Nat} {as : List Value} {g g' : zSg} {h h' : zHp} {r : Option Value} (hz : zRun sc d M as g h = some (r, g', h')) : zRk (zRt M) r = true := by
  obtain ⟨n, hn⟩ := (zE_iff sc).mp hz
  exact zX_rk sc _ _ _ _ _ _ _ _ _ _ _ hn
def zBi (x : Option zRs) (g : zSg) (f : Int32 → zHp → Option zRs) : Option zRs := match x with
  | some (some (.int v), g1, h1) => if g1 = g then f v h1 else none
  | _ => none
def zBj (x : Option zRs) (g : zSg) (f : Int64 → zHp → Option zRs) : Option zRs := match x with
  | some (some (.long v), g1, h1) => if g1 = g then f v h1 else none
  | _ => none
def zBv (x : Option zRs) (g : zSg) (f : zHp → Option zRs) : Option zRs := match x with
  | some (none, g1, h1) => if g1 = g then f h1 else none
  | _ => none
def zBn (x : Option zRs) (f : zSg → zHp → Option zRs) : Option zRs := match x with
  | some (none, g1, h1) => f g1 h1
  | _ => none
theorem zBi_some (v : Int32) (g : zSg) (h : zHp) (f : Int32 → zHp → Option zRs) : zBi (some (some (.int v), g, h)) g f = f v h := if_pos rfl
theorem zBj_some (v : Int64) (g : zSg) (h : zHp) (f : Int64 → zHp → Option zRs) : zBj (some (some (.long v), g, h)) g f = f v h := if_pos rfl
theorem zBv_some (g : zSg) (h : zHp) (f : zHp → Option zRs) : zBv (some (none, g, h)) g f = f h := if_pos rfl
theorem zBn_some (g : zSg) (h : zHp) (f : zSg → zHp → Option zRs) : zBn (some (none, g, h)) f = f g h := rfl
theorem ev_call {sc : zSc} {d M pc M' : Nat} {lv : zLv} {st as rest : List Value} {g : zSg} {h : zHp} {op : Instr} {mq : Option (List Bool)} {ini : Bool} (hd : zD M pc = some (op, 3, mq)) (hm : zMo mq lv = lv) (hp : zPure (zOn M) op lv st = none) (hl : zLoc op lv st = none) (hb : zBr op pc st = none) (hs : zHeap sc (d + 1) (zIni M) (zOn M) op st g h = none) (hr : zRet (zRt M) op st = none) (hc : zCal (zOn M) op st g = some (M', as, rest, ini)) :
    zE sc (d + 1) M pc lv st g h = (match zRun sc d M' as g h with
      | none => none
      | some (r, g', h') => if ini = true ∨ g' = g then zE sc (d + 1) M (pc + 3) lv (r.toList ++ rest) g' h' else none) := by
  rw [zE_eq, hd]
  simp only
  rw [hm]
  unfold zStep
  rw [hp, hl, hb, hs, hr, hc]
  rfl
section
variable {sc : zSc} {d M pc M' : Nat} {lv : zLv} {st as rest : List Value} {g : zSg} {h : zHp} {op : Instr} {mq : Option (List Bool)}
theorem ev_calli (hd : zD M pc = some (op, 3, mq)) (hm : zMo mq lv = lv) (hn : zPure (zOn M) op lv st = none ∧ zLoc op lv st = none ∧ zBr op pc st = none ∧ zHeap sc (d + 1) (zIni M) (zOn M) op st g h = none ∧ zRet (zRt M) op st = none) (hc : zCal (zOn M) op st g = some (M', as, rest, false)) (ht : zRt M' = some .int ∨ zRt M' = some .boolean ∨ zRt M' = some .char ∨ zRt M' = some .byte) :
    zE sc (d + 1) M pc lv st g h = zBi (zRun sc d M' as g h) g (fun v h1 => zE sc (d + 1) M (pc + 3) lv (.int v :: rest) g h1) := by
  rw [ev_call hd hm hn.1 hn.2.1 hn.2.2.1 hn.2.2.2.1 hn.2.2.2.2 hc]
  cases hz : zRun sc d M' as g h with
  | none => rfl
  | some q =>
    obtain ⟨r, g1, h1⟩ := q
    have hk := zRun_rk hz
    have hv : ∃ v, r = some (.int v) := by
      rcases ht with e | e | e | e <;> · rw [e] at hk; unfold zRk at hk; split at hk <;> simp_all
    obtain ⟨v, rfl⟩ := hv
    by_cases hg : g1 = g
    · subst hg; simp [zBi]
    · simp [zBi, hg]
theorem ev_callj (hd : zD M pc = some (op, 3, mq)) (hm : zMo mq lv = lv) (hn : zPure (zOn M) op lv st = none ∧ zLoc op lv st = none ∧ zBr op pc st = none ∧ zHeap sc (d + 1) (zIni M) (zOn M) op st g h = none ∧ zRet (zRt M) op st = none) (hc : zCal (zOn M) op st g = some (M', as, rest, false)) (ht : zRt M' = some .long) :
    zE sc (d + 1) M pc lv st g h = zBj (zRun sc d M' as g h) g (fun v h1 => zE sc (d + 1) M (pc + 3) lv (.long v :: rest) g h1) := by
  rw [ev_call hd hm hn.1 hn.2.1 hn.2.2.1 hn.2.2.2.1 hn.2.2.2.2 hc]
  cases hz : zRun sc d M' as g h with
  | none => rfl
  | some q =>
    obtain ⟨r, g1, h1⟩ := q
    have hk := zRun_rk hz
    have hv : ∃ v, r = some (.long v) := by
      rw [ht] at hk; unfold zRk at hk; split at hk <;> simp_all
    obtain ⟨v, rfl⟩ := hv
    by_cases hg : g1 = g
    · subst hg; simp [zBj]
    · simp [zBj, hg]
theorem ev_callv (hd : zD M pc = some (op, 3, mq)) (hm : zMo mq lv = lv) (hn : zPure (zOn M) op lv st = none ∧ zLoc op lv st = none ∧ zBr op pc st = none ∧ zHeap sc (d + 1) (zIni M) (zOn M) op st g h = none ∧ zRet (zRt M) op st = none) (hc : zCal (zOn M) op st g = some (M', as, rest, false)) (ht : zRt M' = none) :
    zE sc (d + 1) M pc lv st g h = zBv (zRun sc d M' as g h) g (fun h1 => zE sc (d + 1) M (pc + 3) lv rest g h1) := by
  rw [ev_call hd hm hn.1 hn.2.1 hn.2.2.1 hn.2.2.2.1 hn.2.2.2.2 hc]
  cases hz : zRun sc d M' as g h with
  | none => rfl
  | some q =>
    obtain ⟨r, g1, h1⟩ := q
    have hk := zRun_rk hz
    have hv : r = none := by
      rw [ht] at hk; unfold zRk at hk; split at hk <;> simp_all
    subst hv
    by_cases hg : g1 = g
    · subst hg; simp [zBv]
    · simp [zBv, hg]
theorem ev_calln (hd : zD M pc = some (op, 3, mq)) (hm : zMo mq lv = lv) (hn : zPure (zOn M) op lv st = none ∧ zLoc op lv st = none ∧ zBr op pc st = none ∧ zHeap sc (d + 1) (zIni M) (zOn M) op st g h = none ∧ zRet (zRt M) op st = none) (hc : zCal (zOn M) op st g = some (M', as, rest, true)) (ht : zRt M' = none) :
    zE sc (d + 1) M pc lv st g h = zBn (zRun sc d M' as g h) (fun g1 h1 => zE sc (d + 1) M (pc + 3) lv rest g1 h1) := by
  rw [ev_call hd hm hn.1 hn.2.1 hn.2.2.1 hn.2.2.2.1 hn.2.2.2.2 hc]
  cases hz : zRun sc d M' as g h with
  | none => rfl
  | some q =>
    obtain ⟨r, g1, h1⟩ := q
    have hk := zRun_rk hz
    have hv : r = none := by
      rw [ht] at hk; unfold zRk at hk; split at hk <;> simp_all
    subst hv
    simp [zBn]
end
