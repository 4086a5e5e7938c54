/-! ===== Long.bitCount, Integer.bitCount ===== -/
def uJ (x : Int64) : Nat := x.toBitVec.toNat
theorem uJ_lt (x : Int64) : uJ x < 2 ^ 64 := x.toBitVec.isLt
theorem uJ_and (x y : Int64) : uJ (x &&& y) = uJ x &&& uJ y := by
  show (x.toBitVec &&& y.toBitVec).toNat = _
  rw [BitVec.toNat_and]
  rfl
theorem uJ_add {x y : Int64} (h : uJ x + uJ y < 2 ^ 64) : uJ (x + y) = uJ x + uJ y := by
  show (x.toBitVec + y.toBitVec).toNat = _
  rw [BitVec.toNat_add]
  exact Nat.mod_eq_of_lt h
theorem uJ_sub {x y : Int64} (h : uJ y ≤ uJ x) : uJ (x - y) = uJ x - uJ y := by
  show (x.toBitVec - y.toBitVec).toNat = _
  rw [BitVec.toNat_sub]
  have h1 : x.toBitVec.toNat = uJ x := rfl
  have h2 : y.toBitVec.toNat = uJ y := rfl
  have h3 := uJ_lt x
  have h4 := uJ_lt y
  rw [h1, h2]
  omega
theorem uJ_shr (x : Int64) {k : Nat} (hk : k < 64) : uJ ((x.toUInt64 >>> ((nI k).toInt64.toUInt64 &&& Int64.toUInt64 63)).toInt64) = uJ x / 2 ^ k := by
  show (x.toBitVec >>> (((nI k).toInt64.toUInt64 &&& Int64.toUInt64 63).toBitVec % 64)).toNat = _
  rw [j_amtU k hk, BitVec.ushiftRight_eq', BitVec.toNat_ushiftRight, BitVec.toNat_ofNat, Nat.mod_eq_of_lt (by omega), Nat.shiftRight_eq_div_pow]
  rfl
def q1 (x : Int64) : Int64 := x - (((x.toUInt64 >>> ((1 : Int32).toInt64.toUInt64 &&& Int64.toUInt64 63)).toInt64) &&& (6148914691236517205 : Int64))
def q2 (x : Int64) : Int64 := (x &&& (3689348814741910323 : Int64)) + (((x.toUInt64 >>> ((2 : Int32).toInt64.toUInt64 &&& Int64.toUInt64 63)).toInt64) &&& (3689348814741910323 : Int64))
def q3 (x : Int64) : Int64 := (x + ((x.toUInt64 >>> ((4 : Int32).toInt64.toUInt64 &&& Int64.toUInt64 63)).toInt64)) &&& (1085102592571150095 : Int64)
def q4 (x : Int64) : Int64 := x + ((x.toUInt64 >>> ((8 : Int32).toInt64.toUInt64 &&& Int64.toUInt64 63)).toInt64)
def q5 (x : Int64) : Int64 := x + ((x.toUInt64 >>> ((16 : Int32).toInt64.toUInt64 &&& Int64.toUInt64 63)).toInt64)
def q6 (x : Int64) : Int64 := x + ((x.toUInt64 >>> ((32 : Int32).toInt64.toUInt64 &&& Int64.toUInt64 63)).toInt64)
theorem q1_u (x : Int64) : uJ (q1 x) = s1 (mk8 85 8) (uJ x) := by
  have h1 := uJ_shr x (k := 1) (by decide)
  have h2 : uJ (6148914691236517205 : Int64) = mk8 85 8 := by decide +kernel
  have h3 : uJ x / 2 ^ 1 &&& mk8 85 8 ≤ uJ x / 2 ^ 1 := Nat.and_le_left
  unfold q1
  rw [uJ_sub, uJ_and, h2, show (1 : Int32) = nI 1 from rfl, h1]
  · rfl
  · rw [uJ_and, h2, show (1 : Int32) = nI 1 from rfl, h1]
    omega
theorem q2_u (x : Int64) : uJ (q2 x) = s2 (mk8 51 8) (uJ x) := by
  have h1 := uJ_shr x (k := 2) (by decide)
  have h2 : uJ (3689348814741910323 : Int64) = mk8 51 8 := by decide +kernel
  have h3 : uJ x / 2 ^ 2 &&& mk8 51 8 ≤ mk8 51 8 := Nat.and_le_right
  have h4 : uJ x &&& mk8 51 8 ≤ mk8 51 8 := Nat.and_le_right
  have h5 : mk8 51 8 = 3689348814741910323 := by decide +kernel
  unfold q2
  rw [uJ_add, uJ_and, uJ_and, h2, show (2 : Int32) = nI 2 from rfl, h1]
  · rfl
  · rw [uJ_and, uJ_and, h2, show (2 : Int32) = nI 2 from rfl, h1]
    omega
theorem q3_u (x : Int64) (hx : uJ x < 2 ^ 63) : uJ (q3 x) = s3 (mk8 15 8) (uJ x) := by
  have h1 := uJ_shr x (k := 4) (by decide)
  have h2 : uJ (1085102592571150095 : Int64) = mk8 15 8 := by decide +kernel
  unfold q3
  rw [uJ_and, uJ_add, h2, show (4 : Int32) = nI 4 from rfl, h1]
  · rfl
  · rw [show (4 : Int32) = nI 4 from rfl, h1]
    omega
theorem q4_u (x : Int64) (hx : s4 (uJ x) < 2 ^ 64) : uJ (q4 x) = s4 (uJ x) := by
  have h1 := uJ_shr x (k := 8) (by decide)
  unfold s4 at hx
  unfold q4
  rw [uJ_add, show (8 : Int32) = nI 8 from rfl, h1]
  · rfl
  · rw [show (8 : Int32) = nI 8 from rfl, h1]
    exact hx
theorem q5_u (x : Int64) (hx : s5 (uJ x) < 2 ^ 64) : uJ (q5 x) = s5 (uJ x) := by
  have h1 := uJ_shr x (k := 16) (by decide)
  unfold s5 at hx
  unfold q5
  rw [uJ_add, show (16 : Int32) = nI 16 from rfl, h1]
  · rfl
  · rw [show (16 : Int32) = nI 16 from rfl, h1]
    exact hx
theorem q6_u (x : Int64) (hx : s6 (uJ x) < 2 ^ 64) : uJ (q6 x) = s6 (uJ x) := by
  have h1 := uJ_shr x (k := 32) (by decide)
  unfold s6 at hx
  unfold q6
  rw [uJ_add, show (32 : Int32) = nI 32 from rfl, h1]
  · rfl
  · rw [show (32 : Int32) = nI 32 from rfl, h1]
    exact hx
theorem q_all (x : Int64) : (q6 (q5 (q4 (q3 (q2 (q1 x)))))).toInt32 &&& 127 = nI (pN (uJ x) 64) := by
  have hx := uJ_lt x
  have h2 : uJ (q2 (q1 x)) < 2 ^ 63 := by
    rw [q2_u]
    have h3 : uJ (q1 x) / 4 &&& mk8 51 8 ≤ mk8 51 8 := Nat.and_le_right
    have h4 : uJ (q1 x) &&& mk8 51 8 ≤ mk8 51 8 := Nat.and_le_right
    have h5 : mk8 51 8 = 3689348814741910323 := by decide +kernel
    unfold s2
    omega
  have h3 : uJ (q3 (q2 (q1 x))) = d8 8 (uJ x) := by
    rw [q3_u _ h2, q2_u, q1_u]
    exact s_all 8 (uJ x) (by rw [show (256 : Nat) ^ 8 = 2 ^ 64 by decide]; exact hx)
  obtain ⟨e1, e2, e3, e4, e5⟩ := s456 (uJ x)
  have h6 : uJ (q6 (q5 (q4 (q3 (q2 (q1 x)))))) = s6 (s5 (s4 (d8 8 (uJ x)))) := by
    rw [q6_u, q5_u, q4_u, h3]
    · rw [h3]; exact e4
    · rw [q4_u, h3]
      · exact e3
      · rw [h3]; exact e4
    · rw [q5_u, q4_u, h3]
      · exact e2
      · rw [h3]; exact e4
      · rw [q4_u, h3]
        · exact e3
        · rw [h3]; exact e4
  rw [pk_and _ 7 (by decide)]
  congr 1
  have h7 : ((q6 (q5 (q4 (q3 (q2 (q1 x)))))).toInt32).toBitVec.toNat = uJ (q6 (q5 (q4 (q3 (q2 (q1 x)))))) % 2 ^ 32 := by
    rw [Int64.toBitVec_toInt32, BitVec.signExtend_eq_setWidth_of_le _ (by decide), BitVec.toNat_setWidth]
    rfl
  rw [h7, h6, ← e1]
  omega
set_option maxRecDepth 100000 in
theorem JL_bc (sc : zSc) (d : Nat) (g : zSg) (h : zHp) (A : Nat → Bool) : zRun sc d 50 [.long (jF A)] g h = some (some (.int (nI (cN A 64))), g, h) := by
  have h1 : zRun sc d 50 [.long (jF A)] g h = some (some (.int ((q6 (q5 (q4 (q3 (q2 (q1 (jF A))))))).toInt32 &&& 127)), g, h) := E_JL_bitCount sc d g h (jF A)
  rw [h1, q_all]
  have h2 : pN (uJ (jF A)) 64 = cN A 64 := by
    unfold pN
    apply cN_ext
    intro s hs
    have h3 := bJ_jF A s
    rw [show (uJ (jF A)).testBit s = bJ (jF A) s from rfl, h3]
    simp [hs]
  rw [h2]
/-! small ints -/
def qi (v0 : Int32) : Int32 :=
  let a := v0 - (((v0.toUInt32 >>> ((1 : Int32).toUInt32 &&& Int32.toUInt32 31)).toInt32) &&& (1431655765 : Int32))
  let b := (a &&& (858993459 : Int32)) + (((a.toUInt32 >>> ((2 : Int32).toUInt32 &&& Int32.toUInt32 31)).toInt32) &&& (858993459 : Int32))
  let c := (b + ((b.toUInt32 >>> ((4 : Int32).toUInt32 &&& Int32.toUInt32 31)).toInt32)) &&& (252645135 : Int32)
  let e := c + ((c.toUInt32 >>> ((8 : Int32).toUInt32 &&& Int32.toUInt32 31)).toInt32)
  let f := e + ((e.toUInt32 >>> ((16 : Int32).toUInt32 &&& Int32.toUInt32 31)).toInt32)
  f &&& (63 : Int32)
theorem qi_64 : ∀ n, n < 64 → qi (nI n) = nI (pN n 6) := by decide +kernel
set_option maxRecDepth 100000 in
theorem JI_bc (sc : zSc) (d : Nat) (g : zSg) (h : zHp) {n : Nat} (hn : n < 64) : zRun sc d 96 [.int (nI n)] g h = some (some (.int (nI (pN n 6))), g, h) := by
  have h1 : zRun sc d 96 [.int (nI n)] g h = some (some (.int (qi (nI n))), g, h) := E_JI_bitCount sc d g h (nI n)
  rw [h1, qi_64 n hn]
theorem JM_ab (sc : zSc) (d : Nat) (g : zSg) (h : zHp) (x : Int32) : zRun sc d 103 [.int x] g h = some (some (.int (if x < 0 then -x else x)), g, h) := by
  rw [E_JM_abs]
  split <;> rfl
