/-! ===== counting bits ===== -/
def cN (A : Nat → Bool) : Nat → Nat
  | 0 => 0
  | n + 1 => cN A n + (if A n then 1 else 0)
theorem cN_le (A : Nat → Bool) : ∀ n, cN A n ≤ n
  | 0 => Nat.le_refl _
  | n + 1 => by
    have h := cN_le A n
    unfold cN
    split <;> omega
theorem cN_ext {A B : Nat → Bool} : ∀ {n : Nat}, (∀ s, s < n → A s = B s) → cN A n = cN B n
  | 0, _ => rfl
  | n + 1, h => by
    unfold cN
    rw [cN_ext (fun s hs => h s (Nat.lt_succ_of_lt hs)), h n (Nat.lt_succ_self n)]
theorem cN_add (A : Nat → Bool) (m : Nat) : ∀ n, cN A (m + n) = cN A m + cN (fun s => A (m + s)) n
  | 0 => rfl
  | n + 1 => by
    show cN A (m + n) + (if A (m + n) then 1 else 0) = cN A m + (cN (fun s => A (m + s)) n + (if A (m + n) then 1 else 0))
    rw [cN_add A m n]
    omega
/-- the bits of a number below 2 ^ n -/
def pN (x n : Nat) : Nat := cN x.testBit n
/-- and of two numbers, cut at the eighth bit -/
theorem and_256 (p q r t : Nat) (hq : q < 256) (ht : t < 256) : (256 * p + q) &&& (256 * r + t) = 256 * (p &&& r) + (q &&& t) := by
  have h1 : q &&& t < 256 := Nat.lt_of_le_of_lt Nat.and_le_left hq
  apply Nat.eq_of_testBit_eq
  intro i
  rw [Nat.testBit_and]
  have key : ∀ (a b : Nat), b < 256 → (256 * a + b).testBit i = if i < 8 then b.testBit i else a.testBit (i - 8) := by
    intro a b hb
    exact Nat.testBit_two_pow_mul_add (i := 8) a hb i
  rw [key p q hq, key r t ht, key _ _ h1]
  split
  · rw [Nat.testBit_and]
  · rw [Nat.testBit_and]
/-- a byte, n times -/
def mk8 (c : Nat) : Nat → Nat
  | 0 => 0
  | n + 1 => 256 * mk8 c n + c
def s1 (m x : Nat) : Nat := x - ((x / 2) &&& m)
def s2 (m a : Nat) : Nat := (a &&& m) + ((a / 4) &&& m)
def s3 (m b : Nat) : Nat := (b + b / 16) &&& m
theorem s1_a : ∀ b, b < 256 → ∀ e, e < 2 → (e * 128 + b / 2) &&& 85 = (b / 2) &&& 85 := by decide +kernel
theorem s2_a : ∀ a, a < 256 → ∀ e, e < 4 → (e * 64 + a / 4) &&& 51 = (a / 4) &&& 51 := by decide +kernel
theorem s12_b : ∀ q, q < 256 → s1 85 q < 256 ∧ s2 51 (s1 85 q) % 16 ≤ 4 ∧ s2 51 (s1 85 q) / 16 ≤ 4 := by decide +kernel
theorem s3_a : ∀ b, b < 80 → b % 16 ≤ 4 → ∀ e, e < 5 → (b + (e * 16 + b / 16)) &&& 15 = (b + b / 16) &&& 15 := by decide +kernel
theorem s123 : ∀ q, q < 256 → s3 15 (s2 51 (s1 85 q)) = pN q 8 := by decide +kernel
theorem s1_step (m p q : Nat) (hq : q < 256) : s1 (256 * m + 85) (256 * p + q) = 256 * s1 m p + s1 85 q := by
  unfold s1
  have e : (256 * p + q) / 2 = 256 * (p / 2) + (p % 2 * 128 + q / 2) := by omega
  rw [e, and_256 _ _ _ _ (by omega) (by decide), s1_a q hq (p % 2) (Nat.mod_lt _ (by decide))]
  have h1 : p / 2 &&& m ≤ p / 2 := Nat.and_le_left
  have h2 : q / 2 &&& 85 ≤ q / 2 := Nat.and_le_left
  omega
theorem s2_step (m p q : Nat) (hq : q < 256) : s2 (256 * m + 51) (256 * p + q) = 256 * s2 m p + s2 51 q := by
  unfold s2
  have e : (256 * p + q) / 4 = 256 * (p / 4) + (p % 4 * 64 + q / 4) := by omega
  rw [e, and_256 _ _ _ _ hq (by decide), and_256 _ _ _ _ (by omega) (by decide), s2_a q hq (p % 4) (Nat.mod_lt _ (by decide))]
  omega
theorem s3_step (m p q : Nat) (hq : q < 80) (hq1 : q % 16 ≤ 4) (hp : p % 16 ≤ 4) : s3 (256 * m + 15) (256 * p + q) = 256 * s3 m p + s3 15 q := by
  unfold s3
  have e : 256 * p + q + (256 * p + q) / 16 = 256 * (p + p / 16) + (q + (p % 16 * 16 + q / 16)) := by omega
  rw [e, and_256 _ _ _ _ (by omega) (by decide), s3_a q hq hq1 (p % 16) (by omega)]
theorem s2_low (n x : Nat) : s2 (mk8 51 n) (s1 (mk8 85 n) x) % 16 ≤ 4 := by
  cases n with
  | zero => simp [mk8, s2]
  | succ n =>
    have hx : x = 256 * (x / 256) + x % 256 := by omega
    have hb := s12_b (x % 256) (Nat.mod_lt _ (by decide))
    rw [hx]
    unfold mk8
    rw [s1_step _ _ _ (Nat.mod_lt _ (by decide)), s2_step _ _ _ hb.1]
    omega
def d8 : Nat → Nat → Nat
  | 0, _ => 0
  | n + 1, x => 256 * d8 n (x / 256) + pN (x % 256) 8
theorem s_all : ∀ n x, x < 256 ^ n → s3 (mk8 15 n) (s2 (mk8 51 n) (s1 (mk8 85 n) x)) = d8 n x
  | 0, x, h => by
    have : x = 0 := by simp at h; omega
    subst this
    simp [mk8, s1, s2, s3, d8]
  | n + 1, x, h => by
    have hx : x = 256 * (x / 256) + x % 256 := by omega
    have hm : x % 256 < 256 := Nat.mod_lt _ (by decide)
    have hb := s12_b (x % 256) hm
    have ih := s_all n (x / 256) (by rw [Nat.pow_succ] at h; omega)
    have hl := s2_low n (x / 256)
    conv => lhs; rw [hx]
    unfold mk8
    rw [s1_step _ _ _ hm, s2_step _ _ _ hb.1, s3_step _ _ _ (by omega) hb.2.1 hl, ih, s123 _ hm]
    rfl
theorem pN_8 (p q n : Nat) (hq : q < 256) : pN (256 * p + q) (8 + n) = pN q 8 + pN p n := by
  unfold pN
  rw [cN_add]
  have key : ∀ i, (256 * p + q).testBit i = if i < 8 then q.testBit i else p.testBit (i - 8) := fun i => Nat.testBit_two_pow_mul_add (i := 8) p hq i
  congr 1
  · apply cN_ext
    intro s hs
    rw [key, if_pos hs]
  · apply cN_ext
    intro s hs
    rw [key, if_neg (by omega), show 8 + s - 8 = s by omega]
theorem pN_le8 (q : Nat) : pN q 8 ≤ 8 := cN_le _ 8
/-- the last three steps, on eight bytes -/
def s4 (y : Nat) : Nat := y + y / 256
def s5 (y : Nat) : Nat := y + y / 65536
def s6 (y : Nat) : Nat := y + y / 4294967296
def y8 (c0 c1 c2 c3 c4 c5 c6 c7 : Nat) : Nat := 256 * (256 * (256 * (256 * (256 * (256 * (256 * c7 + c6) + c5) + c4) + c3) + c2) + c1) + c0
theorem y8_s4 {c0 c1 c2 c3 c4 c5 c6 c7 : Nat} (h0 : c0 < 256) : s4 (y8 c0 c1 c2 c3 c4 c5 c6 c7) = y8 (c0 + c1) (c1 + c2) (c2 + c3) (c3 + c4) (c4 + c5) (c5 + c6) (c6 + c7) c7 := by
  unfold s4 y8
  have h : (256 * (256 * (256 * (256 * (256 * (256 * (256 * c7 + c6) + c5) + c4) + c3) + c2) + c1) + c0) / 256 = 256 * (256 * (256 * (256 * (256 * (256 * c7 + c6) + c5) + c4) + c3) + c2) + c1 := by omega
  rw [h]
  omega
theorem y8_s5 {c0 c1 c2 c3 c4 c5 c6 c7 : Nat} (h0 : c0 < 256) (h1 : c1 < 256) : s5 (y8 c0 c1 c2 c3 c4 c5 c6 c7) = y8 (c0 + c2) (c1 + c3) (c2 + c4) (c3 + c5) (c4 + c6) (c5 + c7) c6 c7 := by
  unfold s5 y8
  generalize hK : 256 * (256 * (256 * (256 * (256 * c7 + c6) + c5) + c4) + c3) + c2 = K
  have h : (256 * (256 * K + c1) + c0) / 65536 = K := by omega
  rw [h, ← hK]
  omega
theorem y8_s6 {c0 c1 c2 c3 c4 c5 c6 c7 : Nat} (h0 : c0 < 256) (h1 : c1 < 256) (h2 : c2 < 256) (h3 : c3 < 256) : s6 (y8 c0 c1 c2 c3 c4 c5 c6 c7) = y8 (c0 + c4) (c1 + c5) (c2 + c6) (c3 + c7) c4 c5 c6 c7 := by
  unfold s6 y8
  generalize hK : 256 * (256 * (256 * c7 + c6) + c5) + c4 = K
  have h : (256 * (256 * (256 * (256 * K + c3) + c2) + c1) + c0) / 4294967296 = K := by omega
  rw [h, ← hK]
  omega
theorem y8_mod {c0 c1 c2 c3 c4 c5 c6 c7 : Nat} (h0 : c0 < 128) : y8 c0 c1 c2 c3 c4 c5 c6 c7 % 128 = c0 := by
  unfold y8
  generalize 256 * (256 * (256 * (256 * (256 * (256 * c7 + c6) + c5) + c4) + c3) + c2) + c1 = K
  omega
theorem y8_lt {c0 c1 c2 c3 c4 c5 c6 c7 : Nat} (h0 : c0 < 256) (h1 : c1 < 256) (h2 : c2 < 256) (h3 : c3 < 256) (h4 : c4 < 256) (h5 : c5 < 256) (h6 : c6 < 256) (h7 : c7 < 256) : y8 c0 c1 c2 c3 c4 c5 c6 c7 < 2 ^ 64 := by
  unfold y8
  have k1 : 256 * c7 + c6 < 65536 := by omega
  generalize 256 * c7 + c6 = k at k1
  have k2 : 256 * k + c5 < 16777216 := by omega
  generalize 256 * k + c5 = k' at k2
  have k3 : 256 * k' + c4 < 4294967296 := by omega
  generalize 256 * k' + c4 = k'' at k3
  have k4 : 256 * k'' + c3 < 1099511627776 := by omega
  generalize 256 * k'' + c3 = q at k4
  have k5 : 256 * q + c2 < 281474976710656 := by omega
  generalize 256 * q + c2 = q' at k5
  have k6 : 256 * q' + c1 < 72057594037927936 := by omega
  generalize 256 * q' + c1 = q'' at k6
  omega
theorem pN_step (y n : Nat) : pN y (8 + n) = pN (y % 256) 8 + pN (y / 256) n := by
  have h := pN_8 (y / 256) (y % 256) n (Nat.mod_lt _ (by decide))
  rw [show 256 * (y / 256) + y % 256 = y by omega] at h
  exact h
theorem s456 (x : Nat) : s6 (s5 (s4 (d8 8 x))) % 128 = pN x 64 ∧ s6 (s5 (s4 (d8 8 x))) < 2 ^ 64 ∧ s5 (s4 (d8 8 x)) < 2 ^ 64 ∧ s4 (d8 8 x) < 2 ^ 64 ∧ d8 8 x < 2 ^ 64 := by
  have h8 : pN (x / 256 / 256 / 256 / 256 / 256 / 256 / 256) 8 = pN (x / 256 / 256 / 256 / 256 / 256 / 256 / 256 % 256) 8 + 0 := pN_step _ 0
  have hp : pN x 64 = pN (x % 256) 8 + (pN (x / 256 % 256) 8 + (pN (x / 256 / 256 % 256) 8 + (pN (x / 256 / 256 / 256 % 256) 8 + (pN (x / 256 / 256 / 256 / 256 % 256) 8 + (pN (x / 256 / 256 / 256 / 256 / 256 % 256) 8 + (pN (x / 256 / 256 / 256 / 256 / 256 / 256 % 256) 8 + (pN (x / 256 / 256 / 256 / 256 / 256 / 256 / 256 % 256) 8 + 0))))))) := by
    rw [pN_step x 56, pN_step _ 48, pN_step _ 40, pN_step _ 32, pN_step _ 24, pN_step _ 16, pN_step _ 8, h8]
  have hd : d8 8 x = y8 (pN (x % 256) 8) (pN (x / 256 % 256) 8) (pN (x / 256 / 256 % 256) 8) (pN (x / 256 / 256 / 256 % 256) 8) (pN (x / 256 / 256 / 256 / 256 % 256) 8) (pN (x / 256 / 256 / 256 / 256 / 256 % 256) 8) (pN (x / 256 / 256 / 256 / 256 / 256 / 256 % 256) 8) (pN (x / 256 / 256 / 256 / 256 / 256 / 256 / 256 % 256) 8) := by
    simp only [d8, y8, Nat.mul_zero, Nat.zero_add]
  have b0 := pN_le8 (x % 256)
  have b1 := pN_le8 (x / 256 % 256)
  have b2 := pN_le8 (x / 256 / 256 % 256)
  have b3 := pN_le8 (x / 256 / 256 / 256 % 256)
  have b4 := pN_le8 (x / 256 / 256 / 256 / 256 % 256)
  have b5 := pN_le8 (x / 256 / 256 / 256 / 256 / 256 % 256)
  have b6 := pN_le8 (x / 256 / 256 / 256 / 256 / 256 / 256 % 256)
  have b7 := pN_le8 (x / 256 / 256 / 256 / 256 / 256 / 256 / 256 % 256)
  rw [hp, hd]
  clear hp hd h8
  generalize pN (x % 256) 8 = c0 at *
  generalize pN (x / 256 % 256) 8 = c1 at *
  generalize pN (x / 256 / 256 % 256) 8 = c2 at *
  generalize pN (x / 256 / 256 / 256 % 256) 8 = c3 at *
  generalize pN (x / 256 / 256 / 256 / 256 % 256) 8 = c4 at *
  generalize pN (x / 256 / 256 / 256 / 256 / 256 % 256) 8 = c5 at *
  generalize pN (x / 256 / 256 / 256 / 256 / 256 / 256 % 256) 8 = c6 at *
  generalize pN (x / 256 / 256 / 256 / 256 / 256 / 256 / 256 % 256) 8 = c7 at *
  rw [y8_s4 (by omega), y8_s5 (by omega) (by omega), y8_s6 (by omega) (by omega) (by omega) (by omega), y8_mod (by omega)]
  refine ⟨by omega, y8_lt ?_ ?_ ?_ ?_ ?_ ?_ ?_ ?_, y8_lt ?_ ?_ ?_ ?_ ?_ ?_ ?_ ?_, y8_lt ?_ ?_ ?_ ?_ ?_ ?_ ?_ ?_, y8_lt ?_ ?_ ?_ ?_ ?_ ?_ ?_ ?_⟩ <;> omega
