/-! ===== the machine's picture of the heap ===== -/
def zad (B0 : Nat) (sp : Nat → Nat) (a : Nat) : Nat := if a < 1000 then B0 + a else sp a
def zTr (ad : Nat → Nat) (fq : Value) : Value → Value
  | .ref a => if a = 1400 then fq else .ref (ad a)
  | v => v
def zFv (ad : Nat → Nat) (g : zSg) (h : zHp) (a k : Nat) : Nat → Value
  | 0 => .int (h.1 a k)
  | 1 => .int (h.1 a k)
  | 2 => .long (h.2.1 a k)
  | 3 => va_rf ((zG g a k).map ad)
  | _ => va_rf ((h.2.2 a k).map ad)
def zCe (C : Nat → ClassId) (ad : Nat → Nat) (g : zSg) (h : zHp) (a : Nat) : va_E := match zKi a with
  | some (.inr ci) => .inr (ci, ((zFs[ci]?).getD []).mapIdx (fun k c => zFv ad g h a k c))
  | some (.inl (0, n)) => .inl (C 0, n, .inl (h.1 a))
  | some (.inl (1, n)) => .inl (C 1, n, .inl (h.1 a))
  | some (.inl (2, n)) => .inl (C 2, n, .inr (.inl (h.2.1 a)))
  | some (.inl (_, n)) => .inl (C 3, n, .inr (.inr (.inr (.inr (fun j => (h.2.2 a j).map ad)))))
  | none => .inr (0, [])
def zWo (C : Nat → ClassId) (ad : Nat → Nat) (g : zSg) (h : zHp) : va_W := (List.range g.1).map (fun a => (ad a, zCe C ad g h a))
def zTys (C : Nat → ClassId) : List (ClassId × FieldType) := [(C 0, .int), (C 1, .boolean), (C 2, .long), (C 3, .object "UntoldFacts$Talk")]
def zA (B0 : Nat) : Nat → Prop := fun q => B0 ≤ q
theorem zWo_get {C : Nat → ClassId} {ad : Nat → Nat} {g : zSg} {h : zHp} {a : Nat} (ha : a < g.1) : (zWo C ad g h)[a]? = some (ad a, zCe C ad g h a) := by
  unfold zWo
  rw [List.getElem?_map, List.getElem?_range ha]
  rfl
theorem zWo_none {C : Nat → ClassId} {ad : Nat → Nat} {g : zSg} {h : zHp} {a : Nat} (ha : ¬ a < g.1) : (zWo C ad g h)[a]? = none := by
  unfold zWo
  rw [List.getElem?_eq_none]
  simp
  omega
theorem zWo_some {C : Nat → ClassId} {ad : Nat → Nat} {g : zSg} {h : zHp} {a : Nat} {q : Nat × va_E} (hq : (zWo C ad g h)[a]? = some q) : a < g.1 ∧ q = (ad a, zCe C ad g h a) := by
  by_cases ha : a < g.1
  · rw [zWo_get ha] at hq
    exact ⟨ha, (Option.some.inj hq).symm⟩
  · rw [zWo_none ha] at hq
    cases hq
theorem zWo_set {C : Nat → ClassId} {ad : Nat → Nat} {g g' : zSg} {h h' : zHp} {a : Nat} {e : va_E} (ha : a < g.1) (hg : g'.1 = g.1) (he : zCe C ad g' h' a = e) (hb : ∀ b, b ≠ a → zCe C ad g' h' b = zCe C ad g h b) : (zWo C ad g h).set a (ad a, e) = zWo C ad g' h' := by
  apply List.ext_getElem?
  intro i
  by_cases hi : i < g.1
  · by_cases hia : i = a
    · subst hia
      rw [List.getElem?_set_self (by simp [zWo]; exact ha), zWo_get (by rw [hg]; exact ha), he]
    · rw [List.getElem?_set_ne (Ne.symm hia), zWo_get hi, zWo_get (by rw [hg]; exact hi), hb i hia]
  · rw [zWo_none (by rw [hg]; exact hi), List.getElem?_eq_none]
    simp [zWo]
    omega
theorem zWo_push {C : Nat → ClassId} {ad : Nat → Nat} {g : zSg} {h h' : zHp} {v : List ((Nat × Nat) × Nat)} (hb : ∀ b, b < g.1 → zCe C ad (g.1 + 1, v) h' b = zCe C ad g h b) : zWo C ad g h ++ [(ad g.1, zCe C ad (g.1 + 1, v) h' g.1)] = zWo C ad (g.1 + 1, v) h' := by
  unfold zWo
  rw [List.range_succ, List.map_append]
  congr 1
  apply List.map_congr_left
  intro a ha
  rw [hb a (List.mem_range.mp ha)]
theorem zWo_D {C : Nat → ClassId} {B0 : Nat} {sp : Nat → Nat} {g : zSg} {h : zHp} (hg : g.1 ≤ 1000) : va_D (zA B0) (zWo C (zad B0 sp) g h) := by
  refine ⟨fun i j x y hi hj hxy => ?_, fun k q hk => ?_⟩
  · obtain ⟨h1, rfl⟩ := zWo_some hi
    obtain ⟨h2, rfl⟩ := zWo_some hj
    simp only [zad] at hxy
    rw [if_pos (by omega), if_pos (by omega)] at hxy
    omega
  · obtain ⟨h1, rfl⟩ := zWo_some hk
    show B0 ≤ zad B0 sp k
    unfold zad
    rw [if_pos (by omega)]
    omega
theorem zPI_ne {h : zHp} {a b k : Nat} {x : Int32} (hb : b ≠ a) : (zPI h a k x).1 b = h.1 b := by
  funext y
  simp [zPI, hb]
theorem zPI_up {h : zHp} {a k : Nat} {x : Int32} : (zPI h a k x).1 a = upd (h.1 a) k x := by
  funext y
  simp [zPI, upd]
theorem zPL_ne {h : zHp} {a b k : Nat} {x : Int64} (hb : b ≠ a) : (zPL h a k x).2.1 b = h.2.1 b := by
  funext y
  simp [zPL, hb]
theorem zPL_up {h : zHp} {a k : Nat} {x : Int64} : (zPL h a k x).2.1 a = vp_updL (h.2.1 a) k x := by
  funext y
  simp [zPL, vp_updL]
theorem zPR_ne {h : zHp} {a b k : Nat} {x : Nat} (hb : b ≠ a) : (zPR h a k x).2.2 b = h.2.2 b := by
  funext y
  simp [zPR, hb]
theorem zPR_up {h : zHp} {a k : Nat} {x : Nat} : (zPR h a k x).2.2 a = va_up (h.2.2 a) k (some x) := by
  funext y
  simp [zPR, va_up]
/-- a cell reads its own row alone -/
theorem zCe_row {C : Nat → ClassId} {ad : Nat → Nat} {g g' : zSg} {h h' : zHp} {b : Nat} (h1 : h'.1 b = h.1 b) (h2 : h'.2.1 b = h.2.1 b) (h3 : h'.2.2 b = h.2.2 b) (hG : ∀ k, zG g' b k = zG g b k) : zCe C ad g' h' b = zCe C ad g h b := by
  have hf : ∀ k c, zFv ad g' h' b k c = zFv ad g h b k c := by
    intro k c
    match c with
    | 0 => simp [zFv, h1]
    | 1 => simp [zFv, h1]
    | 2 => simp [zFv, h2]
    | 3 => simp [zFv, hG]
    | _ + 4 => simp [zFv, h3]
  unfold zCe
  rw [h1, h2, h3]
  simp only [hf]
theorem zCe_ob {C : Nat → ClassId} {ad : Nat → Nat} {g : zSg} {h : zHp} {a ci : Nat} (hk : zKi a = some (.inr ci)) : zCe C ad g h a = .inr (ci, ((zFs[ci]?).getD []).mapIdx (fun k c => zFv ad g h a k c)) := by
  unfold zCe
  rw [hk]
theorem zCe_i {C : Nat → ClassId} {ad : Nat → Nat} {g : zSg} {h : zHp} {a n : Nat} (hk : zKi a = some (.inl (0, n))) : zCe C ad g h a = .inl (C 0, n, .inl (h.1 a)) := by
  unfold zCe
  rw [hk]
  rfl
theorem zCe_z {C : Nat → ClassId} {ad : Nat → Nat} {g : zSg} {h : zHp} {a n : Nat} (hk : zKi a = some (.inl (1, n))) : zCe C ad g h a = .inl (C 1, n, .inl (h.1 a)) := by
  unfold zCe
  rw [hk]
  rfl
theorem zCe_l {C : Nat → ClassId} {ad : Nat → Nat} {g : zSg} {h : zHp} {a n : Nat} (hk : zKi a = some (.inl (2, n))) : zCe C ad g h a = .inl (C 2, n, .inr (.inl (h.2.1 a))) := by
  unfold zCe
  rw [hk]
  rfl
theorem zCe_q {C : Nat → ClassId} {ad : Nat → Nat} {g : zSg} {h : zHp} {a n : Nat} (hk : zKi a = some (.inl (3, n))) : zCe C ad g h a = .inl (C 3, n, .inr (.inr (.inr (.inr (fun j => (h.2.2 a j).map ad))))) := by
  unfold zCe
  rw [hk]
  rfl
/-- a field's new value in the list of fields -/
theorem zFv_set {ad : Nat → Nat} {g g' : zSg} {h h' : zHp} {a k c : Nat} {l : List Nat} {v : Value} (hk : l[k]? = some c) (hv : zFv ad g' h' a k c = v) (ho : ∀ j d, j ≠ k → zFv ad g' h' a j d = zFv ad g h a j d) : l.mapIdx (fun j d => zFv ad g' h' a j d) = (l.mapIdx (fun j d => zFv ad g h a j d)).set k v := by
  apply List.ext_getElem?
  intro i
  by_cases hi : i = k
  · subst hi
    have hl : i < l.length := (List.getElem?_eq_some_iff.mp hk).1
    rw [List.getElem?_set_self (by simpa using hl), List.getElem?_mapIdx, hk]
    simp [hv]
  · rw [List.getElem?_set_ne (Ne.symm hi), List.getElem?_mapIdx, List.getElem?_mapIdx]
    cases l[i]? with
    | none => rfl
    | some d => simp [ho i d hi]
theorem zFv_at {ad : Nat → Nat} {g : zSg} {h : zHp} {a k c : Nat} {l : List Nat} (hk : l[k]? = some c) : (l.mapIdx (fun j d => zFv ad g h a j d))[k]? = some (zFv ad g h a k c) := by
  rw [List.getElem?_mapIdx, hk]
  rfl
theorem zTr_cat {ad : Nat → Nat} {fq : Value} (hf : fq.category = 1) (v : Value) : (zTr ad fq v).category = v.category := by
  cases v with
  | ref a =>
    show (if a = 1400 then fq else .ref (ad a)).category = 1
    by_cases ha : a = 1400
    · rw [if_pos ha, hf]
    · rw [if_neg ha]; rfl
  | _ => rfl
theorem zTr_cats {ad : Nat → Nat} {fq : Value} (hf : fq.category = 1) (r : List Value) : ((r.map (zTr ad fq)).map fun v => v.category).sum = (r.map fun v => v.category).sum := by
  rw [List.map_map]
  congr 1
  apply List.map_congr_left
  intro v _
  exact zTr_cat hf v
theorem zTr_ref {ad : Nat → Nat} {fq : Value} {a : Nat} (ha : a ≠ 1400) : zTr ad fq (.ref a) = .ref (ad a) := if_neg ha
/-! what nobody writes -/
def zBl : List Nat := [4, 4, 7, 6, 5]
def zRO (B0 : Nat) (sp : Nat → Nat) (fq : Value) (sc : zSc) (U : State) (H : Heap) : Prop :=
  vk_S 5 zBl zBt (fun i => sp (1000 + i)) (fun i => sp (1100 + i)) (zA B0) U H ∧ (∀ e ∈ zTt, vk_R (zO e.1.1) e.1.2 e.2.1 (sp (1000 + e.2.2)) U) ∧
  va_Z "UntoldFacts$Family" "WITH" "[J" (.ref (sp 1200)) (zA B0) U H ∧ va_T .long (sp 1200) 6 (fun j => .long (zWi j)) (zA B0) U H ∧
  va_Z "java/lang/String" "COMPACT_STRINGS" "Z" (.int 1) (zA B0) U H ∧ va_Z "jdk/internal/util/Preconditions" "SIOOBE_FORMATTER" "Ljava/util/function/BiFunction;" fq (zA B0) U H ∧
  (∀ e ∈ zCt, e.2.1 = 3 → va_Nw (.methodLinkNest (zO e.1.1) e.1.2 (zY e.2.2.1) "UntoldFacts") U) ∧ va_AO "UntoldFacts$Talk" U ∧ va_X (sp 1300) sc.1 sc.2 U H ∧ sp 1300 < B0
theorem zRO.move {B0 : Nat} {sp : Nat → Nat} {fq : Value} {sc : zSc} {s U : State} {H H1 : Heap} (h : zRO B0 sp fq sc s H) (hW : s.WarmedH U.vm) (hs : B0 ≤ H.size) (hq : ∀ a : Nat, a < H.size → ¬ zA B0 a → H1[a]? = H[a]?) : zRO B0 sp fq sc U H1 := by
  obtain ⟨h1, h2, h3, h4, h5, h6, h7, h8, h9, h10⟩ := h
  exact ⟨(h1.moved hW.alike).kept hq, fun e he => (h2 e he).warm hW, (h3.moved hW.alike).kept hq, (h4.moved hW.alike).kept hq, (h5.moved hW.alike).kept hq, (h6.moved hW.alike).kept hq, fun e he hk => va_Nw.warmM hW (h7 e he hk), h8.moved hW.alike, (h9.moved hW.alike).kept (hq _ (by omega) (fun z => by unfold zA at z; omega)), h10⟩
theorem zRO.blind {B0 : Nat} {sp : Nat → Nat} {fq : Value} {sc : zSc} {s U : State} {H : Heap} (h : zRO B0 sp fq sc s H) (hv : U.vm = s.vm) : zRO B0 sp fq sc U H := by
  obtain ⟨h1, h2, h3, h4, h5, h6, h7, h8, h9, h10⟩ := h
  have hA : s.vm.Alike U.vm := by rw [hv]; exact Vm.Alike.refl s.vm
  exact ⟨h1.moved hA, fun e he => (h2 e he).same hv, h3.moved hA, h4.moved hA, h5.moved hA, h6.moved hA, fun e he hk => (h7 e he hk).same rfl hv.symm, h8.moved hA, h9.moved hA, h10⟩
set_option maxRecDepth 100000 in
theorem z_okSt : zSt.all (fun e => match e.2.1 with
  | 0 => z_wd e.2.2 (.fieldLink (zO e.1.1) e.1.2 "UntoldFacts$Family" "WITH" "[J")
  | 1 => z_wd e.2.2 (.fieldLink (zO e.1.1) e.1.2 "java/lang/String" "COMPACT_STRINGS" "Z")
  | 2 => z_wd e.2.2 (.fieldLink (zO e.1.1) e.1.2 "jdk/internal/util/Preconditions" "SIOOBE_FORMATTER" "Ljava/util/function/BiFunction;")
  | _ => false) = true := by decide +kernel
/-- the fields' codes are their types -/
def z_okT (ci k : Nat) : Bool := match zCl[ci]?, zFc ci k with
  | some r, some c => decide (k < r.2.2) && (match c with
    | 0 => decide (parseFieldDescriptor (r.2.1 k).2.2.1 = some .int) && decide ((r.2.1 k).2.2.2 = false)
    | 1 => decide (parseFieldDescriptor (r.2.1 k).2.2.1 = some .boolean) && decide ((r.2.1 k).2.2.2 = false)
    | 2 => decide (parseFieldDescriptor (r.2.1 k).2.2.1 = some .long) && decide ((r.2.1 k).2.2.2 = false)
    | 3 => decide ((r.2.1 k).1 = r.1) && decide ((r.2.1 k).2.2.2 = true) && (match parseFieldDescriptor (r.2.1 k).2.2.1 with
      | some (.object _) => true
      | some (.array _) => true
      | _ => false)
    | _ => decide ((r.2.1 k).2.2.2 = false) && (match parseFieldDescriptor (r.2.1 k).2.2.1 with
      | some (.object _) => true
      | _ => false))
  | some r, none => decide (r.2.2 ≤ k)
  | none, _ => true
set_option maxRecDepth 100000 in
theorem z_okTt : (List.range 9).all (fun ci => (List.range 44).all (fun k => z_okT ci k)) = true := by decide +kernel
set_option maxRecDepth 100000 in
theorem z_okCo : (List.range 9).all (fun ci => match zCl[ci]?, zCo[ci]? with
  | some r, some o => decide (zO o = r.1) && decide (r.2.2 = ((zFs[ci]?).getD []).length)
  | _, _ => false) = true := by decide +kernel
