/-! ===== the beginning ===== -/
def T00 : TT := fxC tn0
theorem rdO_0 : rdO tn0 := ⟨by decide, by decide, .inl rfl, fun f hf => absurd hf (Nat.not_lt_zero f), fun p hp => absurd hp (Nat.not_lt_zero p)⟩
theorem T00_ok : TOK T00 := rdO_T rdO_0
def K00 : KK := begK T00 0
theorem K00_ok : KOK T00 K00 := KOK_beg T00_ok (by decide)
def I00 : II := (fun _ => false, fun _ => K00)
def B00 : BB := (0, fun _ => 0, fun _ => 0, fun _ => 0)
def X00 : XX := (0, fun _ => 0)
theorem GO_0 : GO 3 9 T00 K00 X00 B00 I00 := ⟨⟨by decide, by decide, by decide⟩, T00_ok, K00_ok, ⟨by decide, fun i hi => absurd hi (Nat.not_lt_zero i)⟩, ⟨by decide, fun i hi => absurd hi (Nat.not_lt_zero i)⟩, fun i _ hk => (by cases hk)⟩
def hx0 : zHp := zPI (zBk (zPR (zBk (zBk (zBk (zBk (zBk (zBk (zPR (zBk (zBk (zBk (zBk (zBk (zBk (zBk (zBk (zBk (zBk (zBk (zBk (zBk (zBk (zBk (zBk (zBk (zBk (zBk (zBk (zPR (zBk (zBk (zBk (zPR (zBk (zPR (zBk (zBk (zBk (zBk (zBk (zBk (zPR (zBk (zBk (zBk (zBk (zBk (zBk (zBk (zBk (zBk zH0 0) 1) 2) 3) 4) 5) 6) 7) 8) 0 8 3) 9) 10) 11) 12) 13) 14) 0 9 9) 15) 15 1 9) 16) 17) 18) 16 2 3) 19) 20) 21) 22) 23) 24) 25) 26) 27) 28) 29) 30) 31) 32) 33) 34) 35) 36) 37) 38) 32 (0 : Int32).toNatClampNeg 33) 39) 40) 41) 42) 43) 44) 32 (1 : Int32).toNatClampNeg 39) 45) 0 10 (-1)
set_option maxRecDepth 10000 in
theorem hx_r : hx0.2.2 0 8 = some 3 ∧ hx0.2.2 0 9 = some 9 ∧ hx0.2.2 32 0 = some 33 ∧ hx0.2.2 32 1 = some 39 := ⟨rfl, rfl, rfl, rfl⟩
set_option maxRecDepth 10000 in
theorem hx_i : hx0.1 0 10 = -1 ∧ hx0.1 1 1 = 0 ∧ hx0.1 21 4 = 0 ∧ hx0.1 45 0 = 0 ∧ hx0.1 45 1 = 0 ∧ hx0.1 26 6 = 0 := ⟨rfl, rfl, rfl, rfl, rfl, rfl⟩
theorem init_X (sc : zSc) (d : Nat) : ∃ h', zRun sc (d + 9) 0 [.ref 0] zg1_0 (zBk zH0 0) = some (none, zg46_42, h') ∧ GX h' 3 9 T00 K00 X00 B00 I00 (-1) := by
  have t3 : zTw 3 = true := by decide
  rw [I_X]
  show ∃ h', (zBv (zRun sc (d + 8) 8 [.ref 3] zg46_42 hx0) zg46_42 fun h1 => (zOT (h1.2.2 0 8) fun t2 ht2 => (zBv (zRun sc (d + 8) 9 [.ref t2] zg46_42 h1) zg46_42 fun h3 => (zOT (h3.2.2 0 8) fun t4 ht4 => (zBv (zRun sc (d + 8) 17 [.ref 26, .ref t4] zg46_42 h3) zg46_42 fun h5 => some (none, zg46_42, h5)))))) = some (none, zg46_42, h') ∧ GX h' 3 9 T00 K00 X00 B00 I00 (-1)
  rw [E_Tn_clear sc _ zg46_42 hx0 3 zS6x_3, zBv_some]
  generalize hz : zPI (zPI (zPI hx0 3 0 0) 3 1 0) 3 2 10 = h1
  have e12 : h1.2 = hx0.2 := by rw [← hz]; rfl
  have e11 : ∀ x, x ≠ 3 → h1.1 x = hx0.1 x := fun x hx => by rw [← hz]; funext y; rw [zPI_1, if_neg (fun z => hx z.1), zPI_1, if_neg (fun z => hx z.1), zPI_1, if_neg (fun z => hx z.1)]
  have D1 : TnD h1 3 T00 := by
    rw [← hz]
    exact ⟨rfl, rfl, rfl, fun f hf => absurd hf (Nat.not_lt_zero f), fun p hp => absurd hp (Nat.not_lt_zero p)⟩
  obtain ⟨r8, r9, r32, r33⟩ := hx_r
  obtain ⟨i010, i11, i21, i450, i451, i26⟩ := hx_i
  obtain ⟨h3, k1, k2, k3, k4⟩ := Tn_settle sc (d + 4) zg46_42 h1 zS6x_3 T00_ok D1
  have s83 : h3.2.2 0 8 = some 3 := by rw [(k4 0 (by decide)).2.2, e12]; exact r8
  obtain ⟨h5, l1, l2, l3⟩ := Tk_begin sc (d + 5) zg46_42 h3 zS4x_26 zS6x_3 (by decide) T00_ok k2
  have hsd : h3.1 26 6 = 0 := by rw [k3, e11 26 (by decide)]; exact i26
  rw [hsd] at l2
  have c1 : ∀ x, x ≠ 3 → (x < 26 ∨ 32 ≤ x) → h5.1 x = hx0.1 x := fun x h1' h2' => by rw [(l3 x h2').1, k3, e11 x h1']
  have c2 : ∀ x, (x < 3 ∨ 9 ≤ x) → (x < 26 ∨ 32 ≤ x) → h5.2.2 x = hx0.2.2 x := fun x h1' h2' => by rw [(l3 x h2').2.2, (k4 x h1').2.2, e12]
  refine ⟨h5, ?_, ⟨⟨?_, ?_, ?_, ?_⟩, TnS_fr l3 (.inl (by decide)) k2, l2, ⟨?_, fun i hi => absurd hi (Nat.not_lt_zero i)⟩, ⟨?_, fun i hi => absurd hi (Nat.not_lt_zero i)⟩, fun i hi => ⟨?_, fun hk => (by cases hk)⟩, ?_⟩⟩
  · rw [zOT_k (t := 3) (by rw [e12]; exact r8) t3, k1, zBv_some, zOT_k s83 t3, l1, zBv_some]
  · rw [c2 0 (by decide) (by decide)]; exact r8
  · rw [c2 0 (by decide) (by decide)]; exact r9
  · rw [c2 32 (by decide) (by decide)]; exact r32
  · rw [c2 32 (by decide) (by decide)]; exact r33
  · rw [c1 1 (by decide) (by decide)]; exact i11
  · rw [c1 21 (by decide) (by decide)]; exact i21
  · rw [c1 45 (by decide) (by decide)]
    match i, hi with
    | 0, _ => exact i450
    | 1, _ => exact i451
  · rw [c1 0 (by decide) (by decide)]; exact i010
theorem zBk_fr {h : zHp} {lo hi a : Nat} (h1 : lo ≤ a) (h2 : a < hi) : zFr lo hi h (zBk h a) := fun x hx => zBk_ne (by omega)
def hm0 (h : zHp) : zHp := zBk (zBk (zBk (zBk (zBk (zBk (zBk (zBk (zBk (zBk (zBk (zBk (zBk (zBk (zBk (zBk (zPI (zBk (zBk (zBk (zBk (zBk (zBk (zBk (zPI (zBk (zBk (zBk (zBk h 46) 47) 48) 49) 46 5 10) 50) 51) 52) 53) 54) 55) 56) 46 17 (-1)) 57) 58) 59) 60) 61) 62) 63) 64) 65) 66) 67) 68) 69) 70) 71) 72
theorem hm_f (h : zHp) : zFr 46 73 h (hm0 h) := by
  unfold hm0
  repeat (first | exact zFr_r _ _ _ | (refine zFr_t ?_ (zBk_fr (by decide) (by decide))) | (refine zFr_t ?_ (zFr_I (by decide) (by decide))))
set_option maxRecDepth 10000 in
theorem hm_i (h : zHp) : (hm0 h).1 46 0 = 0 ∧ (hm0 h).1 46 3 = 0 ∧ (hm0 h).1 46 5 = 10 ∧ (hm0 h).1 46 14 = 0 ∧ (hm0 h).1 46 16 = 0 ∧ (hm0 h).1 46 17 = -1 ∧ (hm0 h).1 46 35 = 0 ∧ (hm0 h).1 72 0 = 0 ∧ (hm0 h).1 72 1 = 0 := ⟨rfl, rfl, rfl, rfl, rfl, rfl, rfl, rfl, rfl⟩
theorem init_M (sc : zSc) (d : Nat) (h : zHp) : ∃ h', zRun sc (d + 9) 125 [.ref 46] zg47_42 (zBk h 46) = some (none, zg73_68, h') ∧ GM h' T00 K00 X00 B00 I00 (-1) ∧ zFr 46 73 h h' := by
  obtain ⟨i0, i3, i5, i14, i16, i17, i35, i720, i721⟩ := hm_i h
  rw [I_M]
  show ∃ h', (zBv (zRun sc (d + 8) 126 [.ref 46] zg73_68 (hm0 h)) zg73_68 fun h1 => (zBv (zRun sc (d + 8) 127 [.ref 46] zg73_68 h1) zg73_68 fun h2 => some (none, zg73_68, h2))) = some (none, zg73_68, h') ∧ GM h' T00 K00 X00 B00 I00 (-1) ∧ zFr 46 73 h h'
  rw [zg_full]
  have D0 : MoT (hm0 h) T00 := ⟨i0, i3, i5, fun f hf => absurd hf (Nat.not_lt_zero f)⟩
  obtain ⟨h1, k1, k2, k3⟩ := Mo_findClosed sc (d + 8) (hm0 h) T00_ok D0
  have D1 := MoT_m k3 (by decide) (by decide) D0
  obtain ⟨h2, l1, l2, l3⟩ := Mo_begin sc (d + 5) h1 T00_ok D1 k2 (fun p hp => absurd hp (Nat.not_lt_zero p))
  have hsd : h1.1 46 14 = 0 := by rw [(k3.2.1 14 (by decide)).1]; exact i14
  rw [hsd] at l2
  have back : ∀ k, k ∉ [12, 14] → k ∉ [7] → h2.1 46 k = (hm0 h).1 46 k := fun k h1' h2' => by rw [(l3.2.1 k h1').1, (k3.2.1 k h2').1]
  refine ⟨h2, by rw [k1, zBv_some, l1, zBv_some], ⟨MoT_k l3 D1, MoC_k l3 k2, l2, ⟨?_, fun i hi => absurd hi (Nat.not_lt_zero i)⟩, ⟨?_, fun i hi => absurd hi (Nat.not_lt_zero i)⟩, fun i hi => ⟨?_, fun hk => (by cases hk)⟩, ?_⟩, zFr_t (hm_f h) (zFr_t (mFr_z k3 (by decide)) (mFr_z l3 (by decide)))⟩
  · rw [back 16 (by decide) (by decide)]; exact i16
  · rw [back 35 (by decide) (by decide)]; exact i35
  · rw [(l3.1 72 (by decide) (by decide)).1, (k3.1 72 (by decide) (by decide)).1]
    match i, hi with
    | 0, _ => exact i720
    | 1, _ => exact i721
  · rw [back 17 (by decide) (by decide)]; exact i17
