/-! how many bits are set -/
def cnt (f : Nat → Bool) : Nat → Nat
  | 0 => 0
  | n + 1 => cnt f n + (f n).toNat
theorem cnt_le (f : Nat → Bool) : ∀ n, cnt f n ≤ n
  | 0 => Nat.le_refl _
  | n + 1 => by
    have := cnt_le f n
    unfold cnt
    cases f n <;> simp <;> omega
theorem cnt_add (f : Nat → Bool) (a : Nat) : ∀ n, cnt f (a + n) = cnt f a + cnt (fun j => f (a + j)) n
  | 0 => rfl
  | n + 1 => by
    show cnt f (a + n) + (f (a + n)).toNat = cnt f a + (cnt (fun j => f (a + j)) n + (f (a + n)).toNat)
    rw [cnt_add f a n]
    omega
theorem cnt_congr {f g : Nat → Bool} : ∀ n, (∀ i, i < n → f i = g i) → cnt f n = cnt g n
  | 0, _ => rfl
  | n + 1, h => by
    unfold cnt
    rw [cnt_congr n (fun i hi => h i (by omega)), h n (by omega)]
/-- byte by byte -/
def mk8 (m : Nat) : Nat → Nat
  | 0 => 0
  | n + 1 => mk8 m n * 256 + m
theorem mk8_s (m n : Nat) : mk8 m (n + 1) = mk8 m n * 256 + m := rfl
theorem dvq {x m q r : Nat} (h : x = m * q + r) (hr : r < m) : x / m = q := by
  rw [h, Nat.mul_add_div (by omega), Nat.div_eq_of_lt hr, Nat.add_zero]
theorem and_256 (a b c d : Nat) (hb : b < 256) (hd : d < 256) : (a * 256 + b) &&& (c * 256 + d) = (a &&& c) * 256 + (b &&& d) := by
  apply Nat.eq_of_testBit_eq
  intro i
  have hbd : b &&& d < 2 ^ 8 := Nat.lt_of_le_of_lt Nat.and_le_left hb
  rw [Nat.testBit_and, show (256 : Nat) = 2 ^ 8 by decide, Nat.mul_comm a, Nat.mul_comm c, Nat.mul_comm (a &&& c), Nat.testBit_two_pow_mul_add _ hb, Nat.testBit_two_pow_mul_add _ hd, Nat.testBit_two_pow_mul_add _ hbd]
  by_cases h : i < 8
  · simp [h]
  · simp [h]
def S1 (n x : Nat) : Nat := x - ((x / 2) &&& mk8 0x55 n)
def S2 (n x : Nat) : Nat := (x &&& mk8 0x33 n) + ((x / 4) &&& mk8 0x33 n)
def S3 (n x : Nat) : Nat := (x + x / 16) &&& mk8 0x0F n
def s1 (x : Nat) : Nat := x - ((x / 2) &&& 0x55)
def s2 (x : Nat) : Nat := (x &&& 0x33) + ((x / 4) &&& 0x33)
def s3 (x : Nat) : Nat := (x + x / 16) &&& 0x0F
theorem b1_d : ∀ lo, lo < 256 → ∀ h, h < 2 → ((h * 128 + lo / 2) &&& 0x55) = ((lo / 2) &&& 0x55) ∧ ((lo / 2) &&& 0x55) ≤ lo ∧ s1 lo < 256 := by decide +kernel
theorem b2_d : ∀ lo, lo < 256 → ∀ h, h < 4 → ((h * 64 + lo / 4) &&& 0x33) = ((lo / 4) &&& 0x33) ∧ s2 lo < 256 := by decide +kernel
theorem b3_d : ∀ lo, lo < 256 → s2 (s1 lo) < 0x45 ∧ s2 (s1 lo) % 16 ≤ 4 ∧ s3 (s2 (s1 lo)) = cnt lo.testBit 8 ∧ ∀ h, h < 5 → ((s2 (s1 lo) + (h * 16 + s2 (s1 lo) / 16)) &&& 0x0F) = s3 (s2 (s1 lo)) := by decide +kernel
theorem S1_s (n hi lo : Nat) (h : lo < 256) : S1 (n + 1) (hi * 256 + lo) = S1 n hi * 256 + s1 lo := by
  unfold S1 s1
  rw [mk8_s]
  obtain ⟨x1, x2, -⟩ := b1_d lo h (hi % 2) (by omega)
  have e : (hi * 256 + lo) / 2 = hi / 2 * 256 + (hi % 2 * 128 + lo / 2) := by omega
  rw [e, and_256 _ _ _ _ (by omega) (by decide), x1]
  have : (hi / 2 &&& mk8 0x55 n) ≤ hi := Nat.le_trans Nat.and_le_left (by omega)
  omega
theorem S2_s (n hi lo : Nat) (h : lo < 256) : S2 (n + 1) (hi * 256 + lo) = S2 n hi * 256 + s2 lo := by
  unfold S2 s2
  rw [mk8_s]
  obtain ⟨x1, -⟩ := b2_d lo h (hi % 4) (by omega)
  have e : (hi * 256 + lo) / 4 = hi / 4 * 256 + (hi % 4 * 64 + lo / 4) := by omega
  rw [e, and_256 hi lo _ _ h (by decide), and_256 _ _ _ _ (by omega) (by decide), x1]
  omega
theorem S3_s (n hi lo : Nat) (h : lo < 256) (hh : hi % 16 ≤ 4) : S3 (n + 1) (hi * 256 + s2 (s1 lo)) = S3 n hi * 256 + s3 (s2 (s1 lo)) := by
  obtain ⟨x1, x2, x3, x4⟩ := b3_d lo h
  have x4 := x4 (hi % 16) (by omega)
  unfold S3
  rw [mk8_s]
  generalize s2 (s1 lo) = l at *
  have e : hi * 256 + l + (hi * 256 + l) / 16 = (hi + hi / 16) * 256 + (l + (hi % 16 * 16 + l / 16)) := by omega
  rw [e, and_256 _ _ _ _ (by omega) (by decide), x4]
theorem S12_m (n x : Nat) (h : x < 256 ^ n) : S2 n (S1 n x) % 16 ≤ 4 := by
  cases n with
  | zero =>
    have : x = 0 := by simp at h; exact h
    subst this
    decide
  | succ n =>
    have e : x = x / 256 * 256 + x % 256 := by omega
    have hl : x % 256 < 256 := Nat.mod_lt _ (by decide)
    rw [e, S1_s n _ _ hl, S2_s n _ _ (b1_d _ hl 0 (by decide)).2.2]
    have := (b3_d _ hl).2.1
    omega
theorem S123_s (n x : Nat) (h : x < 256 ^ (n + 1)) : S3 (n + 1) (S2 (n + 1) (S1 (n + 1) x)) = S3 n (S2 n (S1 n (x / 256))) * 256 + cnt (x % 256).testBit 8 := by
  have hl : x % 256 < 256 := Nat.mod_lt _ (by decide)
  have hx : x / 256 < 256 ^ n := by
    rw [Nat.pow_succ] at h
    exact Nat.div_lt_of_lt_mul (by rw [Nat.mul_comm]; exact h)
  have e : x = x / 256 * 256 + x % 256 := by omega
  have e2 : S1 (n + 1) x = S1 n (x / 256) * 256 + s1 (x % 256) := by
    have := S1_s n (x / 256) (x % 256) hl
    rw [← e] at this
    exact this
  rw [e2, S2_s n _ _ (b1_d _ hl 0 (by decide)).2.2, S3_s n _ _ hl (S12_m n _ hx), (b3_d _ hl).2.2.1]
/-- the bytes' numbers -/
def pb (x i : Nat) : Nat := cnt (x / 256 ^ i % 256).testBit 8
theorem pb_le (x i : Nat) : pb x i ≤ 8 := cnt_le _ 8
theorem S123_8 (x : Nat) (h : x < 2 ^ 64) : S3 8 (S2 8 (S1 8 x)) = pb x 0 + 256 * pb x 1 + 65536 * pb x 2 + 16777216 * pb x 3 + 4294967296 * pb x 4 + 1099511627776 * pb x 5 + 281474976710656 * pb x 6 + 72057594037927936 * pb x 7 := by
  have h8 : x < 256 ^ 8 := by have : (256 : Nat) ^ 8 = 2 ^ 64 := by decide
                              omega
  have d : ∀ i, x / 256 ^ i / 256 = x / 256 ^ (i + 1) := fun i => by rw [Nat.div_div_eq_div_mul, Nat.pow_succ]
  have l : ∀ n i, i + n = 8 → x / 256 ^ i < 256 ^ n := fun n i hi => by
    apply Nat.div_lt_of_lt_mul
    rw [← Nat.pow_add, hi]
    exact h8
  have z : S3 0 (S2 0 (S1 0 (x / 256 ^ 8))) = 0 := by
    unfold S3 mk8
    exact Nat.and_zero _
  have e0 : x = x / 256 ^ 0 := by simp
  have st : ∀ n i, i + (n + 1) = 8 → S3 (n + 1) (S2 (n + 1) (S1 (n + 1) (x / 256 ^ i))) = S3 n (S2 n (S1 n (x / 256 ^ (i + 1)))) * 256 + pb x i := fun n i hi => by
    rw [S123_s n _ (l (n + 1) i hi), d]
    rfl
  have q0 := st 7 0 rfl
  have q1 := st 6 1 rfl
  have q2 := st 5 2 rfl
  have q3 := st 4 3 rfl
  have q4 := st 3 4 rfl
  have q5 := st 2 5 rfl
  have q6 := st 1 6 rfl
  have q7 := st 0 7 rfl
  rw [← e0] at q0
  rw [z] at q7
  rw [q0, q1, q2, q3, q4, q5, q6, q7]
  omega
theorem pb_sum (x : Nat) : cnt x.testBit 64 = pb x 0 + pb x 1 + pb x 2 + pb x 3 + pb x 4 + pb x 5 + pb x 6 + pb x 7 := by
  have e : ∀ i, cnt (fun j => x.testBit (8 * i + j)) 8 = pb x i := fun i => by
    unfold pb
    apply cnt_congr
    intro j hj
    rw [show (256 : Nat) = 2 ^ 8 by decide, Nat.testBit_mod_two_pow, ← Nat.pow_mul, Nat.testBit_div_two_pow, Nat.add_comm j]
    simp [hj]
  have s : ∀ i, cnt x.testBit (8 * i + 8) = cnt x.testBit (8 * i) + pb x i := fun i => by rw [cnt_add, e]
  have q0 := s 0
  have q1 := s 1
  have q2 := s 2
  have q3 := s 3
  have q4 := s 4
  have q5 := s 5
  have q6 := s 6
  have q7 := s 7
  simp only [Nat.reduceMul, Nat.reduceAdd] at q0 q1 q2 q3 q4 q5 q6 q7
  rw [q7, q6, q5, q4, q3, q2, q1, q0]
  show 0 + _ + _ + _ + _ + _ + _ + _ + _ = _
  omega
/-- longs as numbers -/
def toN (x : Int64) : Nat := x.toBitVec.toNat
theorem toN_lt (x : Int64) : toN x < 2 ^ 64 := x.toBitVec.isLt
theorem toN_and (x y : Int64) : toN (x &&& y) = toN x &&& toN y := rfl
theorem toN_add (x y : Int64) : toN (x + y) = (toN x + toN y) % 2 ^ 64 := by
  unfold toN
  rw [Int64.toBitVec_add, BitVec.toNat_add]
theorem toN_sub {x y : Int64} (h : toN y ≤ toN x) : toN (x - y) = toN x - toN y := by
  unfold toN at *
  rw [Int64.toBitVec_sub, BitVec.toNat_sub]
  have := x.toBitVec.isLt
  omega
theorem toN_ushr (x : Int64) (n : Nat) (hn : n < 64) : toN (pj_ushrL x (nI n)) = toN x / 2 ^ n := by
  unfold toN
  apply Nat.eq_of_testBit_eq
  intro i
  rw [Nat.testBit_div_two_pow, Nat.add_comm]
  exact tb_ushr x n hn i
theorem toN_tb (x : Int64) (i : Nat) : tb x i = (toN x).testBit i := rfl
theorem toI_127 (x : Int64) : (Int64.toInt32 x) &&& nI 127 = nI (toN x % 128) := by
  have e : (Int64.toInt32 x) = nI (toN x % 2 ^ 32) := by
    apply Int32.toBitVec_inj.mp
    apply BitVec.eq_of_toNat_eq
    show (x.toBitVec.signExtend 32).toNat = (BitVec.ofNat 32 (toN x % 2 ^ 32)).toNat
    rw [BitVec.toNat_ofNat, Nat.mod_mod, BitVec.signExtend_eq_setWidth_of_le _ (by decide), BitVec.toNat_setWidth]
    rfl
  rw [e, (pk_andN (Nat.mod_lt _ (by decide)) 7 (by decide) : nI (toN x % 2 ^ 32) &&& nI 127 = nI (toN x % 2 ^ 32 % 2 ^ 7))]
  congr 1
  omega
theorem md128 (a b : Nat) (h : b < 128) : (128 * a + b) % 128 = b := by omega
theorem bc_a {c0 c1 c2 c3 c4 c5 c6 c7 X3 X4 X5 : Nat} (p0 : c0 ≤ 8) (p1 : c1 ≤ 8) (p2 : c2 ≤ 8) (p3 : c3 ≤ 8) (p4 : c4 ≤ 8) (p5 : c5 ≤ 8) (p6 : c6 ≤ 8) (p7 : c7 ≤ 8)
    (e3 : X3 = c0 + 256 * c1 + 65536 * c2 + 16777216 * c3 + 4294967296 * c4 + 1099511627776 * c5 + 281474976710656 * c6 + 72057594037927936 * c7)
    (e4 : X4 = (X3 + X3 / 2 ^ 8) % 2 ^ 64) (e5 : X5 = (X4 + X4 / 2 ^ 16) % 2 ^ 64) : (X5 + X5 / 2 ^ 32) % 2 ^ 64 % 128 = c0 + c1 + c2 + c3 + c4 + c5 + c6 + c7 := by
  have v4 : X3 / 2 ^ 8 = c1 + 256 * c2 + 65536 * c3 + 16777216 * c4 + 4294967296 * c5 + 1099511627776 * c6 + 281474976710656 * c7 := dvq (r := c0) (by clear e4 e5; omega) (by clear e3 e4 e5; omega)
  have a4 : X4 = c0 + c1 + 256 * (c1 + c2) + 65536 * (c2 + c3) + 16777216 * (c3 + c4) + 4294967296 * (c4 + c5) + 1099511627776 * (c5 + c6) + 281474976710656 * (c6 + c7) + 72057594037927936 * c7 := by
    rw [e4, v4, e3, Nat.mod_eq_of_lt (by clear e3 e4 e5 v4; omega)]
    clear e3 e4 e5 v4
    omega
  clear e4 v4 e3
  have v5 : X4 / 2 ^ 16 = c2 + c3 + 256 * (c3 + c4) + 65536 * (c4 + c5) + 16777216 * (c5 + c6) + 4294967296 * (c6 + c7) + 1099511627776 * c7 := dvq (r := c0 + c1 + 256 * (c1 + c2)) (by clear e5; omega) (by clear e5 a4; omega)
  have a5 : X5 = c0 + c1 + c2 + c3 + 256 * (c1 + c2 + c3 + c4) + 65536 * (c2 + c3 + c4 + c5) + 16777216 * (c3 + c4 + c5 + c6) + 4294967296 * (c4 + c5 + c6 + c7) + 1099511627776 * (c5 + c6 + c7) + 281474976710656 * (c6 + c7) + 72057594037927936 * c7 := by
    rw [e5, v5, a4, Nat.mod_eq_of_lt (by clear e5 a4 v5; omega)]
    clear e5 a4 v5
    omega
  clear e5 v5 a4
  have v6 : X5 / 2 ^ 32 = c4 + c5 + c6 + c7 + 256 * (c5 + c6 + c7) + 65536 * (c6 + c7) + 16777216 * c7 := dvq (r := c0 + c1 + c2 + c3 + 256 * (c1 + c2 + c3 + c4) + 65536 * (c2 + c3 + c4 + c5) + 16777216 * (c3 + c4 + c5 + c6)) (by omega) (by clear a5; omega)
  have lt : X5 + X5 / 2 ^ 32 < 2 ^ 64 := by rw [v6]; clear v6; omega
  rw [Nat.mod_eq_of_lt lt, v6, a5]
  clear lt v6 a5
  have e : c0 + c1 + c2 + c3 + 256 * (c1 + c2 + c3 + c4) + 65536 * (c2 + c3 + c4 + c5) + 16777216 * (c3 + c4 + c5 + c6) + 4294967296 * (c4 + c5 + c6 + c7) + 1099511627776 * (c5 + c6 + c7) + 281474976710656 * (c6 + c7) + 72057594037927936 * c7 + (c4 + c5 + c6 + c7 + 256 * (c5 + c6 + c7) + 65536 * (c6 + c7) + 16777216 * c7)
    = 128 * (2 * (c1 + c2 + c3 + c4) + 512 * (c2 + c3 + c4 + c5) + 131072 * (c3 + c4 + c5 + c6) + 33554432 * (c4 + c5 + c6 + c7) + 8589934592 * (c5 + c6 + c7) + 2199023255552 * (c6 + c7) + 562949953421312 * c7 + 2 * (c5 + c6 + c7) + 512 * (c6 + c7) + 131072 * c7) + (c0 + c1 + c2 + c3 + c4 + c5 + c6 + c7) := by omega
  rw [e, md128 _ _ (by omega)]
theorem JLong_bitCount_eq (x : Int64) (z : pj_S) : JLong_bitCount x z = some (nI (cnt (tb x) 64), z) := by
  unfold JLong_bitCount
  simp only [pj_bI]
  rw [toI_127]
  have m1 : toN (6148914691236517205 : Int64) = mk8 0x55 8 := by decide
  have m2 : toN (3689348814741910323 : Int64) = mk8 0x33 8 := by decide
  have m3 : toN (1085102592571150095 : Int64) = mk8 0x0F 8 := by decide
  have hx := toN_lt x
  have a1 : toN (x - ((pj_ushrL x (nI 1)) &&& (6148914691236517205 : Int64))) = S1 8 (toN x) := by
    have : toN ((pj_ushrL x (nI 1)) &&& (6148914691236517205 : Int64)) = (toN x / 2) &&& mk8 0x55 8 := by
      rw [toN_and, toN_ushr x 1 (by decide), m1]
    rw [toN_sub (by rw [this]; exact Nat.le_trans Nat.and_le_left (by omega)), this]
    rfl
  generalize x - ((pj_ushrL x (nI 1)) &&& (6148914691236517205 : Int64)) = x1 at a1 ⊢
  have k33 : mk8 0x33 8 = 3689348814741910323 := by decide
  have a2 : toN ((x1 &&& (3689348814741910323 : Int64)) + ((pj_ushrL x1 (nI 2)) &&& (3689348814741910323 : Int64))) = S2 8 (S1 8 (toN x)) := by
    rw [toN_add, toN_and, toN_and, toN_ushr x1 2 (by decide), m2, ← a1]
    unfold S2
    have h1 : toN x1 &&& mk8 0x33 8 ≤ mk8 0x33 8 := Nat.and_le_right
    have h2 : (toN x1 / 2 ^ 2) &&& mk8 0x33 8 ≤ mk8 0x33 8 := Nat.and_le_right
    rw [k33] at *
    rw [Nat.mod_eq_of_lt (by omega)]
  generalize (x1 &&& (3689348814741910323 : Int64)) + ((pj_ushrL x1 (nI 2)) &&& (3689348814741910323 : Int64)) = x2 at a2 ⊢
  have b2 : toN x2 ≤ 2 * 3689348814741910323 := by
    rw [a2]
    unfold S2
    have h1 : S1 8 (toN x) &&& mk8 0x33 8 ≤ mk8 0x33 8 := Nat.and_le_right
    have h2 : (S1 8 (toN x) / 4) &&& mk8 0x33 8 ≤ mk8 0x33 8 := Nat.and_le_right
    rw [k33] at *
    omega
  have a3 : toN ((x2 + (pj_ushrL x2 (nI 4))) &&& (1085102592571150095 : Int64)) = S3 8 (S2 8 (S1 8 (toN x))) := by
    rw [toN_and, toN_add, toN_ushr x2 4 (by decide), m3, ← a2]
    unfold S3
    rw [Nat.mod_eq_of_lt (by omega)]
  rw [S123_8 _ hx] at a3
  generalize (x2 + (pj_ushrL x2 (nI 4))) &&& (1085102592571150095 : Int64) = x3 at a3 ⊢
  have pc : cnt (tb x) 64 = cnt (toN x).testBit 64 := cnt_congr 64 (fun i _ => rfl)
  rw [pc, pb_sum, toN_add, toN_ushr _ 32 (by decide), toN_add, toN_ushr _ 16 (by decide), toN_add, toN_ushr _ 8 (by decide), bc_a (pb_le _ 0) (pb_le _ 1) (pb_le _ 2) (pb_le _ 3) (pb_le _ 4) (pb_le _ 5) (pb_le _ 6) (pb_le _ 7) a3 rfl rfl]
