/-! ===== bits: families of sets as longs, sets as ints ===== -/
def jN (A : Nat → Bool) : Nat → Nat
  | 0 => 0
  | n + 1 => jN A n + (if A n then 2 ^ n else 0)
theorem jN_lt (A : Nat → Bool) : ∀ n, jN A n < 2 ^ n
  | 0 => by simp [jN]
  | n + 1 => by
    have h := jN_lt A n
    have h2 : 2 ^ (n + 1) = 2 ^ n + 2 ^ n := by rw [Nat.pow_succ]; omega
    unfold jN
    split <;> omega
theorem jN_bit (A : Nat → Bool) : ∀ n s, (jN A n).testBit s = (decide (s < n) && A s)
  | 0, s => by simp [jN]
  | n + 1, s => by
    have hl := jN_lt A n
    have ih := jN_bit A n s
    unfold jN
    cases hA : A n with
    | false =>
      simp only [Bool.false_eq_true, if_false, Nat.add_zero]
      rw [ih]
      by_cases h1 : s < n
      · simp [h1, Nat.lt_succ_of_lt h1]
      · by_cases h2 : s = n
        · subst h2; simp [hA]
        · simp [h1, show ¬ s < n + 1 by omega]
    | true =>
      simp only [if_true]
      rw [Nat.add_comm]
      by_cases h2 : s = n
      · subst h2
        rw [Nat.testBit_two_pow_add_eq, Nat.testBit_lt_two_pow hl]
        simp [hA]
      · by_cases h1 : s < n
        · rw [Nat.testBit_two_pow_add_gt h1, ih]
          simp [h1, Nat.lt_succ_of_lt h1]
        · have h3 : 2 ^ n + jN A n < 2 ^ s := by
            have h4 : 2 ^ (n + 1) ≤ 2 ^ s := Nat.pow_le_pow_right (by decide) (by omega)
            have h5 : 2 ^ (n + 1) = 2 ^ n + 2 ^ n := by rw [Nat.pow_succ]; omega
            omega
          rw [Nat.testBit_lt_two_pow h3]
          simp [show ¬ s < n + 1 by omega]
theorem jN_ext {A B : Nat → Bool} {n : Nat} (h : ∀ s, s < n → A s = B s) : jN A n = jN B n := by
  apply Nat.eq_of_testBit_eq
  intro s
  rw [jN_bit, jN_bit]
  by_cases hs : s < n
  · simp [hs, h s hs]
  · simp [hs]
theorem jN_self {x n : Nat} (h : x < 2 ^ n) : jN x.testBit n = x := by
  apply Nat.eq_of_testBit_eq
  intro s
  rw [jN_bit]
  by_cases hs : s < n
  · simp [hs]
  · have : x < 2 ^ s := Nat.lt_of_lt_of_le h (Nat.pow_le_pow_right (by decide) (by omega))
    rw [Nat.testBit_lt_two_pow this]
    simp [hs]
/-- a family of sets, as a long -/
def jF (A : Nat → Bool) : Int64 := lN (jN A 64)
def bJ (x : Int64) (s : Nat) : Bool := x.toBitVec.getLsbD s
theorem jF_bv (A : Nat → Bool) : (jF A).toBitVec = BitVec.ofNat 64 (jN A 64) := rfl
theorem bJ_jF (A : Nat → Bool) (s : Nat) : bJ (jF A) s = (decide (s < 64) && A s) := by
  unfold bJ
  rw [jF_bv, BitVec.getLsbD_ofNat, jN_bit]
  by_cases hs : s < 64 <;> simp [hs]
theorem bJ_ext {x y : Int64} (h : ∀ s, s < 64 → bJ x s = bJ y s) : x = y := by
  apply Int64.toBitVec_inj.1
  apply BitVec.eq_of_getLsbD_eq
  intro i hi
  exact h i hi
theorem jF_ext {A B : Nat → Bool} (h : ∀ s, s < 64 → A s = B s) : jF A = jF B := by
  unfold jF
  rw [jN_ext h]
theorem jF_inj {A B : Nat → Bool} (h : jF A = jF B) {s : Nat} (hs : s < 64) : A s = B s := by
  have h1 := bJ_jF A s
  rw [h, bJ_jF] at h1
  simpa [hs] using h1.symm
theorem jF_self (x : Int64) : jF (bJ x) = x := bJ_ext (fun s hs => by rw [bJ_jF]; simp [hs])
theorem jF_and (A B : Nat → Bool) : jF A &&& jF B = jF (fun s => A s && B s) := by
  apply bJ_ext
  intro s hs
  show ((jF A).toBitVec &&& (jF B).toBitVec).getLsbD s = _
  rw [BitVec.getLsbD_and]
  have h1 := bJ_jF A s
  have h2 := bJ_jF B s
  unfold bJ at h1 h2
  rw [h1, h2, bJ_jF]
  simp [hs]
theorem jF_or (A B : Nat → Bool) : jF A ||| jF B = jF (fun s => A s || B s) := by
  apply bJ_ext
  intro s hs
  show ((jF A).toBitVec ||| (jF B).toBitVec).getLsbD s = _
  rw [BitVec.getLsbD_or]
  have h1 := bJ_jF A s
  have h2 := bJ_jF B s
  unfold bJ at h1 h2
  rw [h1, h2, bJ_jF]
  simp [hs]
theorem jF_xor (A B : Nat → Bool) : jF A ^^^ jF B = jF (fun s => A s ^^ B s) := by
  apply bJ_ext
  intro s hs
  show ((jF A).toBitVec ^^^ (jF B).toBitVec).getLsbD s = _
  rw [BitVec.getLsbD_xor]
  have h1 := bJ_jF A s
  have h2 := bJ_jF B s
  unfold bJ at h1 h2
  rw [h1, h2, bJ_jF]
  simp [hs]
theorem jF_m1 : (-1 : Int64) = jF (fun _ => true) := by decide +kernel
theorem jF_0 : (0 : Int64) = jF (fun _ => false) := by decide +kernel
theorem jF_not (A : Nat → Bool) : jF A ^^^ (-1) = jF (fun s => !A s) := by
  rw [jF_m1, jF_xor]
  apply jF_ext
  intro s _
  cases A s <;> rfl
theorem jF_W {f : Nat} (hf : f < 6) : zWi f = jF (fun s => s.testBit f) := by
  have h : ∀ f, f < 6 → zWi f = jF (fun s => s.testBit f) := by decide +kernel
  exact h f hf
theorem jF_eq0 (A : Nat → Bool) : jF A = 0 ↔ ∀ s, s < 64 → A s = false := by
  rw [jF_0]
  constructor
  · intro h s hs
    exact jF_inj h hs
  · intro h
    exact jF_ext h
theorem j_amt : ∀ k, k < 64 → ((nI k).toInt64 &&& 63).toBitVec.smod 64 = BitVec.ofNat 64 k := by decide +kernel
theorem jF_bit1 {s : Nat} (hs : s < 64) : (1 : Int64) <<< ((nI s).toInt64 &&& 63) = jF (fun u => u == s) := by
  have h : ∀ s, s < 64 → (1 : Int64) <<< ((nI s).toInt64 &&& 63) = jF (fun u => u == s) := by decide +kernel
  exact h s hs
theorem jF_shl (A : Nat → Bool) {k : Nat} (hk : k < 64) : jF A <<< ((nI k).toInt64 &&& 63) = jF (fun s => decide (k ≤ s) && A (s - k)) := by
  apply bJ_ext
  intro s hs
  show ((jF A).toBitVec <<< ((nI k).toInt64 &&& 63).toBitVec.smod 64).getLsbD s = _
  rw [j_amt k hk, BitVec.shiftLeft_eq', BitVec.getLsbD_shiftLeft, bJ_jF]
  have h1 := bJ_jF A (s - k)
  unfold bJ at h1
  rw [BitVec.toNat_ofNat, Nat.mod_eq_of_lt (by omega), h1]
  by_cases h2 : k ≤ s
  · simp [hs, h2, show s - k < 64 by omega, show ¬ s < k by omega]
  · simp [hs, h2, show s < k by omega]
theorem jb_and1 (x : Int64) : x &&& 1 = if bJ x 0 then 1 else 0 := by
  apply bJ_ext
  intro s hs
  have h1 : bJ (x &&& 1) s = (bJ x s && bJ 1 s) := by
    show (x.toBitVec &&& (1 : Int64).toBitVec).getLsbD s = _
    rw [BitVec.getLsbD_and]
    rfl
  have h2 : ∀ s, s < 64 → bJ 1 s = (s == 0) := by decide +kernel
  have h3 : ∀ s, s < 64 → bJ 0 s = false := by decide +kernel
  rw [h1, h2 s hs]
  cases hb : bJ x 0 with
  | true =>
    by_cases h0 : s = 0
    · subst h0; simp [hb, h2]
    · simp [h0, h2 s hs]
  | false =>
    by_cases h0 : s = 0
    · subst h0; simp [hb, h3]
    · simp [h0, h3 s hs]
theorem jF_sar (A : Nat → Bool) {k : Nat} (hk : k < 64) : (jF A >>> ((nI k).toInt64 &&& 63)) &&& 1 = if A k then 1 else 0 := by
  rw [jb_and1]
  have h : bJ (jF A >>> ((nI k).toInt64 &&& 63)) 0 = A k := by
    show ((jF A).toBitVec.sshiftRight' (((nI k).toInt64 &&& 63).toBitVec.smod 64)).getLsbD 0 = _
    rw [j_amt k hk]
    show ((jF A).toBitVec.sshiftRight (BitVec.ofNat 64 k).toNat).getLsbD 0 = _
    have h1 := bJ_jF A k
    unfold bJ at h1
    rw [BitVec.toNat_ofNat, Nat.mod_eq_of_lt (by omega), BitVec.getLsbD_sshiftRight, Nat.add_zero, if_pos hk, h1]
    simp [hk]
  rw [h]
theorem j_amtU : ∀ k, k < 64 → ((nI k).toInt64.toUInt64 &&& Int64.toUInt64 63).toBitVec % 64 = BitVec.ofNat 64 k := by decide +kernel
theorem jF_shr (A : Nat → Bool) {k : Nat} (hk : k < 64) : ((jF A).toUInt64 >>> ((nI k).toInt64.toUInt64 &&& Int64.toUInt64 63)).toInt64 = jF (fun s => A (s + k) && decide (s + k < 64)) := by
  apply bJ_ext
  intro s hs
  show ((jF A).toBitVec >>> (((nI k).toInt64.toUInt64 &&& Int64.toUInt64 63).toBitVec % 64)).getLsbD s = _
  rw [j_amtU k hk, BitVec.ushiftRight_eq', BitVec.getLsbD_ushiftRight, bJ_jF]
  have h1 := bJ_jF A (k + s)
  unfold bJ at h1
  rw [BitVec.toNat_ofNat, Nat.mod_eq_of_lt (by omega), h1, Nat.add_comm]
  by_cases h2 : s + k < 64 <;> simp [hs, h2]
theorem jF_and1 (A : Nat → Bool) : jF A &&& 1 = if A 0 then 1 else 0 := by
  rw [jb_and1, bJ_jF]
  simp
/-! ints -/
theorem i_amt : ∀ k, k < 32 → ((nI k &&& 31).toBitVec.smod 32).toNat = k := by decide +kernel
theorem nI_and (a b : Nat) : nI a &&& nI b = nI (a &&& b) := by
  apply Int32.toBitVec_inj.1
  show BitVec.ofNat 32 a &&& BitVec.ofNat 32 b = BitVec.ofNat 32 (a &&& b)
  apply BitVec.eq_of_getLsbD_eq
  intro i hi
  simp [hi]
theorem nI_or (a b : Nat) : nI a ||| nI b = nI (a ||| b) := by
  apply Int32.toBitVec_inj.1
  show BitVec.ofNat 32 a ||| BitVec.ofNat 32 b = BitVec.ofNat 32 (a ||| b)
  apply BitVec.eq_of_getLsbD_eq
  intro i hi
  simp [hi]
theorem nI_xor (a b : Nat) : nI a ^^^ nI b = nI (a ^^^ b) := by
  apply Int32.toBitVec_inj.1
  show BitVec.ofNat 32 a ^^^ BitVec.ofNat 32 b = BitVec.ofNat 32 (a ^^^ b)
  apply BitVec.eq_of_getLsbD_eq
  intro i hi
  simp [hi]
theorem nI_shl1 {k : Nat} (hk : k < 31) : (1 : Int32) <<< (nI k &&& 31) = nI (2 ^ k) := by
  have h : ∀ k, k < 31 → (1 : Int32) <<< (nI k &&& 31) = nI (2 ^ k) := by decide +kernel
  exact h k hk
theorem nI_bit {a k : Nat} (ha : a < 2 ^ 31) (hk : k < 31) : (nI a >>> (nI k &&& 31)) &&& 1 = if a.testBit k then 1 else 0 := by
  rw [pk_shrN ha _ k (i_amt k (by omega))]
  have h2 : a / 2 ^ k ≤ a := Nat.div_le_self _ _
  rw [pk_andN (by omega) 1 (by decide)]
  rw [Nat.testBit_eq_decide_div_mod_eq]
  rcases Nat.mod_two_eq_zero_or_one (a / 2 ^ k) with h | h
  · simp [h, nI]
  · simp [h, nI]
/-- a set less another: javac's ~ is ^ -1 -/
theorem nI_andn {a b : Nat} (ha : a < 2 ^ 31) (hb : b < 2 ^ 31) : nI a &&& (nI b ^^^ (-1)) = nI (jN (fun k => a.testBit k && !b.testBit k) 31) := by
  apply Int32.toBitVec_inj.1
  show BitVec.ofNat 32 a &&& (BitVec.ofNat 32 b ^^^ (-1 : Int32).toBitVec) = BitVec.ofNat 32 _
  apply BitVec.eq_of_getLsbD_eq
  intro i hi
  have h1 : ∀ i, i < 32 → (-1 : Int32).toBitVec.getLsbD i = true := by decide +kernel
  rw [BitVec.getLsbD_and, BitVec.getLsbD_xor, h1 i hi]
  simp only [BitVec.getLsbD_ofNat, hi, decide_true, Bool.true_and, jN_bit]
  by_cases h31 : i < 31
  · simp [h31]
  · have : i = 31 := by omega
    subst this
    rw [Nat.testBit_lt_two_pow ha]
    simp
theorem zin_nI {k n : Nat} (h : k < n) (hn : n < 2 ^ 31) : zin (nI k) n = true := zin_iff.mpr (vp_in_nI h hn)
