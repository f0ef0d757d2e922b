/-! NUMBERS: an int as n stands for Int32.ofNat (n + 2^31), a long for Int64.ofNat (n + 2^63) -/
def q32 (n : Nat) : Int32 := Int32.ofNat (n + 2147483648)
def q64 (n : Nat) : Int64 := Int64.ofNat (n + 9223372036854775808)
theorem bm32 (x : Int) : x.bmod 4294967296 = if x % 4294967296 < 2147483648 then x % 4294967296 else x % 4294967296 - 4294967296 := by
  have e1 : ((4294967296 : Nat) : Int) = 4294967296 := rfl
  have e2 : ((4294967296 : Int) + 1) / 2 = 2147483648 := by decide
  unfold Int.bmod; rw [e1, e2]
theorem bm64 (x : Int) : x.bmod 18446744073709551616 = if x % 18446744073709551616 < 9223372036854775808 then x % 18446744073709551616 else x % 18446744073709551616 - 18446744073709551616 := by
  have e1 : ((18446744073709551616 : Nat) : Int) = 18446744073709551616 := rfl
  have e2 : ((18446744073709551616 : Int) + 1) / 2 = 9223372036854775808 := by decide
  unfold Int.bmod; rw [e1, e2]
theorem ofNat_cong {a b : Nat} (h : a % 4294967296 = b % 4294967296) : Int32.ofNat a = Int32.ofNat b := by
  apply Int32.toInt_inj.mp
  rw [Int32.toInt_ofNat', Int32.toInt_ofNat']
  have ha : ((a : Int) % 4294967296) = ((b : Int) % 4294967296) := by omega
  rw [show Int32.size = 4294967296 from rfl, bm32, bm32, ha]
theorem ofNat_cong64 {a b : Nat} (h : a % 18446744073709551616 = b % 18446744073709551616) : Int64.ofNat a = Int64.ofNat b := by
  apply Int64.toInt_inj.mp
  rw [Int64.toInt_ofNat', Int64.toInt_ofNat']
  have ha : ((a : Int) % 18446744073709551616) = ((b : Int) % 18446744073709551616) := by omega
  rw [show Int64.size = 18446744073709551616 from rfl, bm64, bm64, ha]
theorem q32_toInt {n : Nat} (h : n < 4294967296) : (q32 n).toInt = (n : Int) - 2147483648 := by
  unfold q32
  rw [Int32.toInt_ofNat']
  rw [show Int32.size = 4294967296 from rfl, bm32]
  split <;> omega
theorem q64_toInt {n : Nat} (h : n < 18446744073709551616) : (q64 n).toInt = (n : Int) - 9223372036854775808 := by
  unfold q64
  rw [Int64.toInt_ofNat']
  rw [show Int64.size = 18446744073709551616 from rfl, bm64]
  split <;> omega
theorem q32_lt {a b : Nat} (ha : a < 4294967296) (hb : b < 4294967296) : q32 a < q32 b ↔ a < b := by
  rw [Int32.lt_iff_toInt_lt, q32_toInt ha, q32_toInt hb]; omega
theorem q32_eq {a b : Nat} (ha : a < 4294967296) (hb : b < 4294967296) : q32 a = q32 b ↔ a = b := by
  rw [← Int32.toInt_inj, q32_toInt ha, q32_toInt hb]; omega
theorem q32_clamp {a : Nat} (h1 : 2147483648 ≤ a) (h2 : a < 4294967296) : (q32 a).toNatClampNeg = a - 2147483648 := by
  show (q32 a).toInt.toNat = _
  rw [q32_toInt h2]; omega
theorem q32_of {x : Int32} : ∃ n : Nat, n < 4294967296 ∧ x = q32 n ∧ (n : Int) = x.toInt + 2147483648 := by
  have h1 := Int32.toInt_lt x
  have h2 := Int32.le_toInt x
  refine ⟨(x.toInt + 2147483648).toNat, by omega, ?_, by omega⟩
  apply Int32.toInt_inj.mp
  rw [q32_toInt (by omega)]
  omega
theorem iadd_ok {a b : Nat} : q32 a + q32 b = q32 (iadd a b) := by
  unfold q32 iadd
  rw [← Int32.ofNat_add]
  apply ofNat_cong; omega
theorem isub_ok {a b : Nat} (hb : b < 4294967296) : q32 a - q32 b = q32 (isub a b) := by
  unfold q32 isub
  rw [← Int32.add_left_inj (c := Int32.ofNat (b + 2147483648)), Int32.sub_add_cancel, ← Int32.ofNat_add]
  apply ofNat_cong; omega
theorem imul_ok {a b : Nat} : q32 a * q32 b = q32 (imul a b) := by
  unfold q32 imul u32
  rw [← Int32.ofNat_mul]
  apply ofNat_cong
  have h := Nat.mul_mod (a + 2147483648) (b + 2147483648) 4294967296
  omega
theorem ineg_ok {a : Nat} (ha : a < 4294967296) : -(q32 a) = q32 (ineg a) := by
  unfold q32 ineg
  rw [← Int32.add_left_inj (c := Int32.ofNat (a + 2147483648)), Int32.add_left_neg, ← Int32.ofNat_add]
  show Int32.ofNat 0 = _
  apply ofNat_cong; omega
theorem lt_iadd {a b : Nat} : iadd a b < 4294967296 := Nat.mod_lt _ (by decide)
theorem lt_isub {a b : Nat} : isub a b < 4294967296 := Nat.mod_lt _ (by decide)
theorem lt_imul {a b : Nat} : imul a b < 4294967296 := Nat.mod_lt _ (by decide)
theorem lt_ineg {a : Nat} : ineg a < 4294967296 := Nat.mod_lt _ (by decide)
theorem u32_lt {a : Nat} : u32 a < 4294967296 := Nat.mod_lt _ (by decide)
theorem q32_u32 {a : Nat} : Int32.ofNat (u32 a) = q32 a := by
  unfold q32 u32; apply ofNat_cong; omega
theorem q32_u32' {a : Nat} : q32 (u32 a) = Int32.ofNat a := by
  unfold q32 u32; apply ofNat_cong; omega
theorem iand_ok {a b : Nat} : q32 a &&& q32 b = q32 (iand a b) := by
  unfold iand
  rw [← q32_u32, ← q32_u32, q32_u32']
  apply Int32.toBitVec_inj.mp
  rw [Int32.toBitVec_and]
  show BitVec.ofNat 32 _ &&& BitVec.ofNat 32 _ = BitVec.ofNat 32 _
  rw [← BitVec.ofNat_and]; rfl
theorem ior_ok {a b : Nat} : q32 a ||| q32 b = q32 (ior a b) := by
  unfold ior
  rw [← q32_u32, ← q32_u32, q32_u32']
  apply Int32.toBitVec_inj.mp
  rw [Int32.toBitVec_or]
  show BitVec.ofNat 32 _ ||| BitVec.ofNat 32 _ = BitVec.ofNat 32 _
  rw [← BitVec.ofNat_or]; rfl
theorem ixor_ok {a b : Nat} : q32 a ^^^ q32 b = q32 (ixor a b) := by
  unfold ixor
  rw [← q32_u32, ← q32_u32, q32_u32']
  apply Int32.toBitVec_inj.mp
  rw [Int32.toBitVec_xor]
  show BitVec.ofNat 32 _ ^^^ BitVec.ofNat 32 _ = BitVec.ofNat 32 _
  rw [← BitVec.ofNat_xor]; rfl
theorem ladd_ok {a b : Nat} : q64 a + q64 b = q64 (ladd a b) := by
  unfold q64 ladd
  rw [← Int64.ofNat_add]
  apply ofNat_cong64; omega
theorem lsub_ok {a b : Nat} (hb : b < 18446744073709551616) : q64 a - q64 b = q64 (lsub a b) := by
  unfold q64 lsub
  rw [← Int64.add_left_inj (c := Int64.ofNat (b + 9223372036854775808)), Int64.sub_add_cancel, ← Int64.ofNat_add]
  apply ofNat_cong64; omega
theorem lmul_ok {a b : Nat} : q64 a * q64 b = q64 (lmul a b) := by
  unfold q64 lmul u64
  rw [← Int64.ofNat_mul]
  apply ofNat_cong64
  have h := Nat.mul_mod (a + 9223372036854775808) (b + 9223372036854775808) 18446744073709551616
  omega
theorem i2l_ok {a : Nat} (ha : a < 4294967296) : (q32 a).toInt64 = q64 (i2l a) := by
  apply Int64.toInt_inj.mp
  rw [Int32.toInt_toInt64, q32_toInt ha, q64_toInt (by unfold i2l; omega)]
  unfold i2l; omega
theorem lt_i2l {a : Nat} (ha : a < 4294967296) : i2l a < 18446744073709551616 := by unfold i2l; omega
