/-! Numbers: Int32, Int64 and Int. -/
theorem w32_b (a : Int) : w32 a = a.bmod 4294967296 := by
  unfold w32
  rw [Int.bmod_def]
  split <;> omega
theorem w64_b (a : Int) : w64 a = a.bmod 18446744073709551616 := by
  unfold w64
  rw [Int.bmod_def]
  split <;> omega
theorem w8_b (a : Int) : w8 a = a.bmod 256 := by
  unfold w8
  rw [Int.bmod_def]
  split <;> omega
theorem w32_r (a : Int) : -2147483648 ≤ w32 a ∧ w32 a < 2147483648 := by unfold w32; omega
theorem w64_r (a : Int) : -9223372036854775808 ≤ w64 a ∧ w64 a < 9223372036854775808 := by unfold w64; omega
theorem w8_r (a : Int) : -128 ≤ w8 a ∧ w8 a < 128 := by unfold w8; omega
theorem w32_id {a : Int} (h1 : -2147483648 ≤ a) (h2 : a < 2147483648) : w32 a = a := by unfold w32; omega
theorem w64_id {a : Int} (h1 : -9223372036854775808 ≤ a) (h2 : a < 9223372036854775808) : w64 a = a := by unfold w64; omega
theorem w8_id {a : Int} (h1 : -128 ≤ a) (h2 : a < 128) : w8 a = a := by unfold w8; omega
theorem t32 {a : Int} (h1 : -2147483648 ≤ a) (h2 : a < 2147483648) : (Int32.ofInt a).toInt = a := Int32.toInt_ofInt_of_le (by simpa using h1) (by simpa using h2)
theorem t64 {a : Int} (h1 : -9223372036854775808 ≤ a) (h2 : a < 9223372036854775808) : (Int64.ofInt a).toInt = a := Int64.toInt_ofInt_of_le (by simpa using h1) (by simpa using h2)
theorem r32 (v : Int32) : -2147483648 ≤ v.toInt ∧ v.toInt < 2147483648 := ⟨by have := Int32.le_toInt v; omega, by have := Int32.toInt_lt v; omega⟩
theorem r64 (v : Int64) : -9223372036854775808 ≤ v.toInt ∧ v.toInt < 9223372036854775808 := ⟨by have := Int64.le_toInt v; omega, by have := Int64.toInt_lt v; omega⟩
theorem e32 {v : Int32} {a : Int} (h : v.toInt = a) : v = Int32.ofInt a := by rw [← h, Int32.ofInt_toInt]
theorem e64 {v : Int64} {a : Int} (h : v.toInt = a) : v = Int64.ofInt a := by rw [← h, Int64.ofInt_toInt]
theorem o32 (a : Int) : Int32.ofInt a = Int32.ofInt (w32 a) := by
  apply Int32.toInt_inj.1
  rw [t32 (w32_r a).1 (w32_r a).2, Int32.toInt_ofInt, w32_b]
theorem o64 (a : Int) : Int64.ofInt a = Int64.ofInt (w64 a) := by
  apply Int64.toInt_inj.1
  rw [t64 (w64_r a).1 (w64_r a).2, Int64.toInt_ofInt, w64_b]
theorem add32 (a b : Int) : Int32.ofInt a + Int32.ofInt b = Int32.ofInt (w32 (a + b)) := by rw [← o32, Int32.ofInt_add]
theorem sub32 (a b : Int) : Int32.ofInt a - Int32.ofInt b = Int32.ofInt (w32 (a - b)) := by rw [← o32, Int32.ofInt_sub]
theorem mul32 (a b : Int) : Int32.ofInt a * Int32.ofInt b = Int32.ofInt (w32 (a * b)) := by rw [← o32, Int32.ofInt_mul]
theorem neg32 (a : Int) : -Int32.ofInt a = Int32.ofInt (w32 (-a)) := by rw [← o32, Int32.ofInt_neg]
theorem add64 (a b : Int) : Int64.ofInt a + Int64.ofInt b = Int64.ofInt (w64 (a + b)) := by rw [← o64, Int64.ofInt_add]
theorem sub64 (a b : Int) : Int64.ofInt a - Int64.ofInt b = Int64.ofInt (w64 (a - b)) := by rw [← o64, Int64.ofInt_sub]
theorem mul64 (a b : Int) : Int64.ofInt a * Int64.ofInt b = Int64.ofInt (w64 (a * b)) := by rw [← o64, Int64.ofInt_mul]
theorem neg64 (a : Int) : -Int64.ofInt a = Int64.ofInt (w64 (-a)) := by rw [← o64, Int64.ofInt_neg]
theorem div32 {a b : Int} (ha : -2147483648 ≤ a ∧ a < 2147483648) (hb : -2147483648 ≤ b ∧ b < 2147483648) : Int32.ofInt a / Int32.ofInt b = Int32.ofInt (w32 (a.tdiv b)) := by
  apply e32
  rw [Int32.toInt_div, t32 ha.1 ha.2, t32 hb.1 hb.2, w32_b]
theorem div64 {a b : Int} (ha : -9223372036854775808 ≤ a ∧ a < 9223372036854775808) (hb : -9223372036854775808 ≤ b ∧ b < 9223372036854775808) : Int64.ofInt a / Int64.ofInt b = Int64.ofInt (w64 (a.tdiv b)) := by
  apply e64
  rw [Int64.toInt_div, t64 ha.1 ha.2, t64 hb.1 hb.2, w64_b]
theorem tmod_r {a b lo hi : Int} (hl : lo ≤ 0 ∧ 0 < hi) (ha : lo ≤ a ∧ a < hi) : lo ≤ a.tmod b ∧ a.tmod b < hi := by
  have h0 : (a.tmod b).natAbs = a.natAbs % b.natAbs := Int.natAbs_tmod a b
  have h1 : a.natAbs % b.natAbs ≤ a.natAbs := Nat.mod_le _ _
  by_cases h : 0 ≤ a
  · have h2 := Int.tmod_nonneg b h
    omega
  · have h2 : 0 ≤ (-a).tmod b := Int.tmod_nonneg b (by omega)
    rw [Int.neg_tmod] at h2
    omega
theorem rem32 {a b : Int} (ha : -2147483648 ≤ a ∧ a < 2147483648) (hb : -2147483648 ≤ b ∧ b < 2147483648) : Int32.ofInt a - Int32.ofInt a / Int32.ofInt b * Int32.ofInt b = Int32.ofInt (a.tmod b) := by
  rw [div32 ha hb, mul32, sub32, ← o32, Int32.ofInt_sub, ← o32, Int32.ofInt_mul, ← o32, Int.tmod_def a b, Int32.ofInt_sub, Int32.ofInt_mul, Int32.mul_comm]
theorem rem64 {a b : Int} (ha : -9223372036854775808 ≤ a ∧ a < 9223372036854775808) (hb : -9223372036854775808 ≤ b ∧ b < 9223372036854775808) : Int64.ofInt a - Int64.ofInt a / Int64.ofInt b * Int64.ofInt b = Int64.ofInt (a.tmod b) := by
  rw [div64 ha hb, mul64, sub64, ← o64, Int64.ofInt_sub, ← o64, Int64.ofInt_mul, ← o64, Int.tmod_def a b, Int64.ofInt_sub, Int64.ofInt_mul, Int64.mul_comm]
theorem l2i_ (a : Int) : (Int64.ofInt a).toInt32 = Int32.ofInt (w32 a) := by rw [Int64.toInt32_ofInt, ← o32]
theorem i2l_ {a : Int} (h : -2147483648 ≤ a ∧ a < 2147483648) : (Int32.ofInt a).toInt64 = Int64.ofInt a := by
  apply e64
  rw [Int32.toInt_toInt64, t32 h.1 h.2]
theorem i2b_ (a : Int) : (Int32.ofInt a).toInt8.toInt32 = Int32.ofInt (w8 a) := by
  apply e32
  rw [Int8.toInt_toInt32, Int32.toInt_toInt8, Int32.toInt_ofInt, w8_b]
  show (Int.bmod a 4294967296).bmod 256 = a.bmod 256
  exact Int.bmod_bmod_of_dvd (by decide)
theorem lt32 {a b : Int} (ha : -2147483648 ≤ a ∧ a < 2147483648) (hb : -2147483648 ≤ b ∧ b < 2147483648) : Int32.ofInt a < Int32.ofInt b ↔ a < b := by
  rw [Int32.lt_iff_toInt_lt, t32 ha.1 ha.2, t32 hb.1 hb.2]
theorem le32 {a b : Int} (ha : -2147483648 ≤ a ∧ a < 2147483648) (hb : -2147483648 ≤ b ∧ b < 2147483648) : Int32.ofInt a ≤ Int32.ofInt b ↔ a ≤ b := by
  rw [Int32.le_iff_toInt_le, t32 ha.1 ha.2, t32 hb.1 hb.2]
theorem eq32 {a b : Int} (ha : -2147483648 ≤ a ∧ a < 2147483648) (hb : -2147483648 ≤ b ∧ b < 2147483648) : Int32.ofInt a = Int32.ofInt b ↔ a = b := by
  rw [← Int32.toInt_inj, t32 ha.1 ha.2, t32 hb.1 hb.2]
theorem z32 : (0 : Int32) = Int32.ofInt 0 := rfl
theorem cl32 {a : Int} (h1 : -2147483648 ≤ a) (h2 : a < 2147483648) : (Int32.ofInt a).toNatClampNeg = a.toNat := by
  show (Int32.ofInt a).toInt.toNat = a.toNat
  rw [t32 h1 h2]
theorem cmp64 {a b : Int} (ha : -9223372036854775808 ≤ a ∧ a < 9223372036854775808) (hb : -9223372036854775808 ≤ b ∧ b < 9223372036854775808) : lg_cmp (Int64.ofInt a) (Int64.ofInt b) = Int32.ofInt (lcm3 a b) := by
  unfold lg_cmp lcm3
  have h1 : (Int64.ofInt a > Int64.ofInt b) ↔ b < a := by
    show Int64.ofInt b < Int64.ofInt a ↔ b < a
    rw [Int64.lt_iff_toInt_lt, t64 ha.1 ha.2, t64 hb.1 hb.2]
  have h2 : (Int64.ofInt a = Int64.ofInt b) ↔ a = b := by rw [← Int64.toInt_inj, t64 ha.1 ha.2, t64 hb.1 hb.2]
  simp only [h1, h2]
  by_cases c1 : b < a
  · rw [if_pos c1, if_neg (by omega), if_pos c1]; rfl
  · rw [if_neg c1]
    by_cases c2 : a = b
    · rw [if_pos c2, if_neg (by omega), if_neg c1]; rfl
    · rw [if_neg c2, if_pos (by omega)]; rfl
theorem lcm3_r (a b : Int) : -2147483648 ≤ lcm3 a b ∧ lcm3 a b < 2147483648 := by
  unfold lcm3
  split
  · omega
  · split <;> omega
theorem w16u_r (a : Int) : 0 ≤ w16u a ∧ w16u a < 65536 := by unfold w16u; omega
theorem i2c_ {a : Int} (h : -2147483648 ≤ a ∧ a < 2147483648) : ((Int32.ofInt a).toUInt32 % 65536).toInt32 = Int32.ofInt (w16u a) := by
  apply e32
  have hu : ((Int32.ofInt a).toUInt32 % 65536).toNat = (w16u a).toNat := by
    rw [UInt32.toNat_mod]
    have : ((Int32.ofInt a).toUInt32.toNat : Int) = a % 4294967296 := by
      have h1 : (Int32.ofInt a).toUInt32.toNat = (BitVec.ofInt 32 a).toNat := rfl
      rw [h1, BitVec.toNat_ofInt]
      omega
    show (Int32.ofInt a).toUInt32.toNat % 65536 = _
    unfold w16u
    omega
  have h2 : ((((Int32.ofInt a).toUInt32 % 65536).toInt32).toInt) = (((Int32.ofInt a).toUInt32 % 65536).toNat : Int) := by
    have h3 : ((Int32.ofInt a).toUInt32 % 65536).toNat < 65536 := by
      rw [hu]; have := w16u_r a; omega
    show (BitVec.toInt (((Int32.ofInt a).toUInt32 % 65536).toBitVec)) = _
    rw [BitVec.toInt_eq_toNat_of_lt]
    · rfl
    · show 2 * ((Int32.ofInt a).toUInt32 % 65536).toNat < 2 ^ 32
      omega
  rw [h2, hu]
  have := w16u_r a
  omega
