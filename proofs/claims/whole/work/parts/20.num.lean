/-! numbers of the machine and whole numbers -/
def zI (a : Int) : Int32 := Int32.ofInt a
def zJ (a : Int) : Int64 := Int64.ofInt a
theorem zI_add (a b : Int) : zI a + zI b = zI (a + b) := (Int32.ofInt_add a b).symm
theorem zI_sub (a b : Int) : zI a - zI b = zI (a - b) := (Int32.ofInt_sub a b).symm
theorem zI_mul (a b : Int) : zI a * zI b = zI (a * b) := (Int32.ofInt_mul a b).symm
theorem zI_neg (a : Int) : - zI a = zI (-a) := (Int32.ofInt_neg a).symm
theorem zJ_add (a b : Int) : zJ a + zJ b = zJ (a + b) := (Int64.ofInt_add a b).symm
theorem zJ_sub (a b : Int) : zJ a - zJ b = zJ (a - b) := (Int64.ofInt_sub a b).symm
theorem zJ_mul (a b : Int) : zJ a * zJ b = zJ (a * b) := (Int64.ofInt_mul a b).symm
theorem zJ_neg (a : Int) : - zJ a = zJ (-a) := (Int64.ofInt_neg a).symm
theorem zI_lit (n : Nat) : (OfNat.ofNat n : Int32) = zI (n : Int) := rfl
theorem zJ_lit (n : Nat) : (OfNat.ofNat n : Int64) = zJ (n : Int) := rfl
theorem zI_toInt {a : Int} (h1 : -2147483648 ≤ a) (h2 : a ≤ 2147483647) : (zI a).toInt = a := Int32.toInt_ofInt_of_le (by omega) (by omega)
theorem zJ_toInt {a : Int} (h1 : -9223372036854775808 ≤ a) (h2 : a ≤ 9223372036854775807) : (zJ a).toInt = a := Int64.toInt_ofInt_of_le (by omega) (by omega)
theorem zI_lt {a b : Int} (h1 : -2147483648 ≤ a) (h2 : a ≤ 2147483647) (h3 : -2147483648 ≤ b) (h4 : b ≤ 2147483647) : (zI a < zI b ↔ a < b) := by
  rw [Int32.lt_iff_toInt_lt, zI_toInt h1 h2, zI_toInt h3 h4]
theorem zI_le {a b : Int} (h1 : -2147483648 ≤ a) (h2 : a ≤ 2147483647) (h3 : -2147483648 ≤ b) (h4 : b ≤ 2147483647) : (zI a ≤ zI b ↔ a ≤ b) := by
  rw [Int32.le_iff_toInt_le, zI_toInt h1 h2, zI_toInt h3 h4]
theorem zI_eq {a b : Int} (h1 : -2147483648 ≤ a) (h2 : a ≤ 2147483647) (h3 : -2147483648 ≤ b) (h4 : b ≤ 2147483647) : (zI a = zI b ↔ a = b) := by
  rw [← Int32.toInt_inj, zI_toInt h1 h2, zI_toInt h3 h4]
theorem zJ_lt {a b : Int} (h1 : -9223372036854775808 ≤ a) (h2 : a ≤ 9223372036854775807) (h3 : -9223372036854775808 ≤ b) (h4 : b ≤ 9223372036854775807) : (zJ a < zJ b ↔ a < b) := by
  rw [Int64.lt_iff_toInt_lt, zJ_toInt h1 h2, zJ_toInt h3 h4]
theorem zJ_le {a b : Int} (h1 : -9223372036854775808 ≤ a) (h2 : a ≤ 9223372036854775807) (h3 : -9223372036854775808 ≤ b) (h4 : b ≤ 9223372036854775807) : (zJ a ≤ zJ b ↔ a ≤ b) := by
  rw [Int64.le_iff_toInt_le, zJ_toInt h1 h2, zJ_toInt h3 h4]
theorem zJ_eq {a b : Int} (h1 : -9223372036854775808 ≤ a) (h2 : a ≤ 9223372036854775807) (h3 : -9223372036854775808 ≤ b) (h4 : b ≤ 9223372036854775807) : (zJ a = zJ b ↔ a = b) := by
  rw [← Int64.toInt_inj, zJ_toInt h1 h2, zJ_toInt h3 h4]
theorem zI_long {a : Int} (h1 : -2147483648 ≤ a) (h2 : a ≤ 2147483647) : (zI a).toInt64 = zJ a := by
  rw [← Int64.toInt_inj, Int32.toInt_toInt64, zI_toInt h1 h2, zJ_toInt (by omega) (by omega)]
theorem zJ_int (a : Int) : (zJ a).toInt32 = zI a := Int64.toInt32_ofInt
theorem zI_nat {a : Int} (h1 : -2147483648 ≤ a) (h2 : a ≤ 2147483647) : (zI a).toNatClampNeg = a.toNat := by
  show (zI a).toInt.toNat = _
  rw [zI_toInt h1 h2]
theorem zI_div {a b : Int} (h1 : -2147483648 ≤ a) (h2 : a ≤ 2147483647) (h3 : -2147483648 ≤ b) (h4 : b ≤ 2147483647) : zI a / zI b = zI (a.tdiv b) := (Int32.ofInt_tdiv (by simpa using h1) (by rw [Int32.toInt_maxValue]; omega) (by simpa using h3) (by rw [Int32.toInt_maxValue]; omega)).symm
theorem zJ_div {a b : Int} (h1 : -9223372036854775808 ≤ a) (h2 : a ≤ 9223372036854775807) (h3 : -9223372036854775808 ≤ b) (h4 : b ≤ 9223372036854775807) : zJ a / zJ b = zJ (a.tdiv b) := (Int64.ofInt_tdiv (by simpa using h1) (by rw [Int64.toInt_maxValue]; omega) (by simpa using h3) (by rw [Int64.toInt_maxValue]; omega)).symm
theorem zI_of (x : Int32) : zI x.toInt = x := Int32.ofInt_toInt x
theorem zJ_of (x : Int64) : zJ x.toInt = x := Int64.ofInt_toInt x
theorem zI_rng (x : Int32) : -2147483648 ≤ x.toInt ∧ x.toInt ≤ 2147483647 := ⟨by have := Int32.le_toInt x; omega, by have := Int32.toInt_lt x; omega⟩
theorem zI_long' (x : Int32) : x.toInt64 = zJ x.toInt := by
  obtain ⟨h1, h2⟩ := zI_rng x
  conv => lhs; rw [← zI_of x]
  exact zI_long h1 h2
theorem zr_tmod (a b : Int) : a - a.tdiv b * b = a.tmod b := by rw [Int.tmod_def, Int.mul_comm]
theorem zJ_rem {a b : Int} (h1 : -9223372036854775808 ≤ a) (h2 : a ≤ 9223372036854775807) (h3 : -9223372036854775808 ≤ b) (h4 : b ≤ 9223372036854775807) : zJ a - zJ a / zJ b * zJ b = zJ (a.tmod b) := by
  rw [zJ_div h1 h2 h3 h4, zJ_mul, zJ_sub, zr_tmod]
theorem zI_rem {a b : Int} (h1 : -2147483648 ≤ a) (h2 : a ≤ 2147483647) (h3 : -2147483648 ≤ b) (h4 : b ≤ 2147483647) : zI a - zI a / zI b * zI b = zI (a.tmod b) := by
  rw [zI_div h1 h2 h3 h4, zI_mul, zI_sub, zr_tmod]
theorem tmod_rng {a b : Int} {M : Int} (h1 : -M ≤ a) (h2 : a ≤ M) : -M ≤ a.tmod b ∧ a.tmod b ≤ M := by
  by_cases h : 0 ≤ a
  · have := Int.tmod_nonneg b h
    have h3 : a.tmod b ≤ a := by
      obtain ⟨n, rfl⟩ := Int.eq_ofNat_of_zero_le h
      rcases Int.natAbs_eq b with hb | hb <;> rw [hb]
      · rw [← Int.ofNat_tmod]; exact_mod_cast Nat.mod_le _ _
      · rw [Int.tmod_neg, ← Int.ofNat_tmod]; exact_mod_cast Nat.mod_le _ _
    omega
  · obtain ⟨n, hn⟩ := Int.eq_ofNat_of_zero_le (show 0 ≤ -a by omega)
    have ha : a = -(n : Int) := by omega
    have h3 : 0 ≤ (n : Int).tmod b ∧ (n : Int).tmod b ≤ n := by
      refine ⟨Int.tmod_nonneg b (by omega), ?_⟩
      rcases Int.natAbs_eq b with hb | hb <;> rw [hb]
      · rw [← Int.ofNat_tmod]; exact_mod_cast Nat.mod_le _ _
      · rw [Int.tmod_neg, ← Int.ofNat_tmod]; exact_mod_cast Nat.mod_le _ _
    rw [ha, Int.neg_tmod]
    omega
theorem zJ_rem0 {a b : Int} (h1 : -9223372036854775807 ≤ a) (h2 : a ≤ 9223372036854775807) (h3 : -9223372036854775808 ≤ b) (h4 : b ≤ 9223372036854775807) : (zJ a - zJ a / zJ b * zJ b = zJ 0 ↔ b ∣ a) := by
  rw [zJ_rem (by omega) h2 h3 h4, zJ_eq (by have := tmod_rng (b := b) h1 h2; omega) (by have := tmod_rng (b := b) h1 h2; omega) (by decide) (by decide)]
  exact ⟨Int.dvd_of_tmod_eq_zero, Int.tmod_eq_zero_of_dvd⟩
theorem zI_rem0 {a b : Int} (h1 : -2147483647 ≤ a) (h2 : a ≤ 2147483647) (h3 : -2147483648 ≤ b) (h4 : b ≤ 2147483647) : (zI a - zI a / zI b * zI b = zI 0 ↔ b ∣ a) := by
  rw [zI_rem (by omega) h2 h3 h4, zI_eq (by have := tmod_rng (b := b) h1 h2; omega) (by have := tmod_rng (b := b) h1 h2; omega) (by decide) (by decide)]
  exact ⟨Int.dvd_of_tmod_eq_zero, Int.tmod_eq_zero_of_dvd⟩
