/-! numbers of the small machine and the machine's own -/
theorem w32_eq (x : Int) : w32 x = x.bmod 4294967296 := by
  unfold w32
  rw [Int.bmod_def]
  split <;> omega
theorem w64_eq (x : Int) : w64 x = x.bmod 18446744073709551616 := by
  unfold w64
  rw [Int.bmod_def]
  split <;> omega
theorem pm_32 (x : Int) : (Int32.ofInt x).toInt = w32 x := by rw [w32_eq, Int32.toInt_ofInt]
theorem pm_64 (x : Int) : (Int64.ofInt x).toInt = w64 x := by rw [w64_eq, Int64.toInt_ofInt]
theorem w32_in (x : Int) : -2147483648 ≤ w32 x ∧ w32 x < 2147483648 := by unfold w32; omega
theorem w64_in (x : Int) : -9223372036854775808 ≤ w64 x ∧ w64 x < 9223372036854775808 := by unfold w64; omega
theorem w32_id {x : Int} (h : -2147483648 ≤ x ∧ x < 2147483648) : w32 x = x := by unfold w32; omega
theorem w64_id {x : Int} (h : -9223372036854775808 ≤ x ∧ x < 9223372036854775808) : w64 x = x := by unfold w64; omega
theorem pm_32id {x : Int} (h : -2147483648 ≤ x ∧ x < 2147483648) : (Int32.ofInt x).toInt = x := by rw [pm_32, w32_id h]
theorem pm_64id {x : Int} (h : -9223372036854775808 ≤ x ∧ x < 9223372036854775808) : (Int64.ofInt x).toInt = x := by rw [pm_64, w64_id h]
theorem pm_of32 (x : Int32) : Int32.ofInt x.toInt = x := by rw [← Int32.toInt_inj, pm_32id ⟨Int32.le_toInt x, Int32.toInt_lt x⟩]
theorem pm_of64 (x : Int64) : Int64.ofInt x.toInt = x := by rw [← Int64.toInt_inj, pm_64id ⟨Int64.le_toInt x, Int64.toInt_lt x⟩]
theorem pm_e32 {x : Int32} {y : Int} (h : x.toInt = y) : x = Int32.ofInt y := by rw [← h, pm_of32]
theorem pm_e64 {x : Int64} {y : Int} (h : x.toInt = y) : x = Int64.ofInt y := by rw [← h, pm_of64]
theorem pm_r32 (x : Int32) : -2147483648 ≤ x.toInt ∧ x.toInt < 2147483648 := ⟨Int32.le_toInt x, Int32.toInt_lt x⟩
theorem pm_r64 (x : Int64) : -9223372036854775808 ≤ x.toInt ∧ x.toInt < 9223372036854775808 := ⟨Int64.le_toInt x, Int64.toInt_lt x⟩
theorem pm_w32w (x : Int) : Int32.ofInt (w32 x) = Int32.ofInt x := by rw [← Int32.toInt_inj, pm_32id (w32_in x), pm_32]
theorem pm_iadd (a b : Int) : Int32.ofInt a + Int32.ofInt b = Int32.ofInt (w32 (a + b)) := by rw [pm_w32w, Int32.ofInt_add]
theorem pm_isub (a b : Int) : Int32.ofInt a - Int32.ofInt b = Int32.ofInt (w32 (a - b)) := by rw [pm_w32w, Int32.ofInt_sub]
theorem pm_imul (a b : Int) : Int32.ofInt a * Int32.ofInt b = Int32.ofInt (w32 (a * b)) := by rw [pm_w32w, Int32.ofInt_mul]
theorem pm_ineg (a : Int) : -Int32.ofInt a = Int32.ofInt (w32 (-a)) := by rw [pm_w32w, Int32.ofInt_neg]
theorem pm_idiv {a b : Int} (ha : -2147483648 ≤ a ∧ a < 2147483648) (hb : -2147483648 ≤ b ∧ b < 2147483648) : Int32.ofInt a / Int32.ofInt b = Int32.ofInt (w32 (a.tdiv b)) := by
  apply pm_e32
  rw [Int32.toInt_div, pm_32id ha, pm_32id hb, w32_eq]
theorem pm_irem {a b : Int} (ha : -2147483648 ≤ a ∧ a < 2147483648) (hb : -2147483648 ≤ b ∧ b < 2147483648) (h0 : b ≠ 0) : Int32.ofInt a - Int32.ofInt a / Int32.ofInt b * Int32.ofInt b = Int32.ofInt (a.tmod b) := by
  rw [pm_idiv ha hb, pm_w32w, ← Int32.ofInt_mul, ← Int32.ofInt_sub]
  congr 1
  have := Int.tmod_add_mul_tdiv a b
  rw [Int.mul_comm] at this
  omega
theorem pm_irem_in {a b : Int} (ha : -2147483648 ≤ a ∧ a < 2147483648) : -2147483648 ≤ a.tmod b ∧ a.tmod b < 2147483648 := by
  have h1 : (a.tmod b).natAbs ≤ a.natAbs := by rw [Int.natAbs_tmod]; exact Nat.mod_le _ _
  rcases Int.le_total 0 a with h | h
  · have := Int.tmod_nonneg b h
    omega
  · have h2 := Int.tmod_nonneg b (a := -a) (by omega)
    rw [Int.neg_tmod] at h2
    omega
theorem pm_lt {a b : Int} (ha : -2147483648 ≤ a ∧ a < 2147483648) (hb : -2147483648 ≤ b ∧ b < 2147483648) : Int32.ofInt a < Int32.ofInt b ↔ a < b := by rw [Int32.lt_iff_toInt_lt, pm_32id ha, pm_32id hb]
theorem pm_le {a b : Int} (ha : -2147483648 ≤ a ∧ a < 2147483648) (hb : -2147483648 ≤ b ∧ b < 2147483648) : Int32.ofInt a ≤ Int32.ofInt b ↔ a ≤ b := by rw [Int32.le_iff_toInt_le, pm_32id ha, pm_32id hb]
theorem pm_eq {a b : Int} (ha : -2147483648 ≤ a ∧ a < 2147483648) (hb : -2147483648 ≤ b ∧ b < 2147483648) : Int32.ofInt a = Int32.ofInt b ↔ a = b := by rw [← Int32.toInt_inj, pm_32id ha, pm_32id hb]
theorem pm_clamp {a : Int} (ha : 0 ≤ a ∧ a < 2147483648) : (Int32.ofInt a).toNatClampNeg = a.toNat := by
  show (Int32.ofInt a).toInt.toNat = a.toNat
  rw [pm_32id (by omega)]
theorem pm_vin {a : Int} {n : Nat} (ha : 0 ≤ a ∧ a < 2147483648) (h : a.toNat < n) : ¬ (Int32.ofInt a < 0 ∨ n ≤ (Int32.ofInt a).toNatClampNeg) := by
  rw [pm_clamp ha]
  rintro (h1 | h1)
  · have := (pm_lt (b := 0) (by omega) (by omega)).mp h1
    omega
  · omega
theorem pm_i2l {a : Int} (ha : -2147483648 ≤ a ∧ a < 2147483648) : (Int32.ofInt a).toInt64 = Int64.ofInt a := by
  apply pm_e64
  rw [Int32.toInt_toInt64, pm_32id ha]
theorem w8_in (x : Int) : -128 ≤ w8 x ∧ w8 x < 128 := by unfold w8; omega
theorem pm_i2b (a : Int) : (Int32.ofInt a).toInt8.toInt32 = Int32.ofInt (w8 a) := by
  apply pm_e32
  rw [Int8.toInt_toInt32, Int32.toInt_toInt8, pm_32]
  unfold w8 w32
  rw [Int.bmod_def]
  split <;> omega
theorem pm_i2c {a : Int} (ha : -2147483648 ≤ a ∧ a < 2147483648) : ((Int32.ofInt a).toUInt32 % 65536).toInt32 = Int32.ofInt (a % 65536) := by
  apply pm_e32
  have h1 : (Int32.ofInt a).toUInt32.toNat = (a % 4294967296).toNat := by
    show (Int32.ofInt a).toBitVec.toNat = _
    show (BitVec.ofInt 32 a).toNat = _
    rw [BitVec.toNat_ofInt]
    rfl
  have h2 : ((Int32.ofInt a).toUInt32 % 65536).toNat = (a % 4294967296).toNat % 65536 := by
    rw [UInt32.toNat_mod, h1]
    rfl
  have h3 : ((Int32.ofInt a).toUInt32 % 65536).toInt32.toInt = ((((Int32.ofInt a).toUInt32 % 65536).toNat : Nat) : Int).bmod 4294967296 := by
    show (((Int32.ofInt a).toUInt32 % 65536).toBitVec).toInt = _
    rw [BitVec.toInt_eq_toNat_bmod]
    rfl
  rw [h3, h2, Int.bmod_def]
  split <;> omega
theorem pm_lcmpE {a b : Int} (ha : -9223372036854775808 ≤ a ∧ a < 9223372036854775808) (hb : -9223372036854775808 ≤ b ∧ b < 9223372036854775808) : lg_cmp (Int64.ofInt a) (Int64.ofInt b) = Int32.ofInt (pm_lcmp a b) := by
  unfold lg_cmp pm_lcmp
  simp only [gt_iff_lt, Int64.lt_iff_toInt_lt, ← Int64.toInt_inj, pm_64id ha, pm_64id hb]
  by_cases h1 : b < a
  · simp only [h1, if_true]; rfl
  · by_cases h2 : a = b
    · simp only [h1, h2, if_true, if_false]; first | rfl | (simp; done) | (subst h2; simp; rfl)
    · simp only [h1, h2, if_false]; rfl
