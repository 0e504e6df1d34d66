/-! NUMBERS: Int32 and Int64 by the whole numbers that they stand for -/
def iI (z : Int) : Int32 := Int32.ofInt z
def jJ (z : Int) : Int64 := Int64.ofInt z
theorem iI_add (a b : Int) : iI a + iI b = iI (a + b) := (Int32.ofInt_add a b).symm
theorem iI_sub (a b : Int) : iI a - iI b = iI (a - b) := (Int32.ofInt_sub a b).symm
theorem iI_mul (a b : Int) : iI a * iI b = iI (a * b) := (Int32.ofInt_mul a b).symm
theorem iI_neg (a : Int) : -iI a = iI (-a) := (Int32.ofInt_neg a).symm
theorem iI_nI (n : Nat) : nI n = iI (n : Int) := (Int32.ofInt_eq_ofNat).symm
theorem iI_toInt {z : Int} (h : -2147483648 ≤ z) (h' : z < 2147483648) : (iI z).toInt = z := Int32.toInt_ofInt_of_le h h'
theorem iI_of (x : Int32) : iI x.toInt = x := Int32.ofInt_toInt x
theorem iI_lt {a b : Int} (h : -2147483648 ≤ a) (h' : a < 2147483648) (k : -2147483648 ≤ b) (k' : b < 2147483648) : iI a < iI b ↔ a < b := by
  rw [Int32.lt_iff_toInt_lt, iI_toInt h h', iI_toInt k k']
theorem iI_le {a b : Int} (h : -2147483648 ≤ a) (h' : a < 2147483648) (k : -2147483648 ≤ b) (k' : b < 2147483648) : iI a ≤ iI b ↔ a ≤ b := by
  rw [Int32.le_iff_toInt_le, iI_toInt h h', iI_toInt k k']
theorem iI_eq {a b : Int} (h : -2147483648 ≤ a) (h' : a < 2147483648) (k : -2147483648 ≤ b) (k' : b < 2147483648) : iI a = iI b ↔ a = b := by
  rw [← Int32.toInt_inj, iI_toInt h h', iI_toInt k k']
theorem iI_0 : (0 : Int32) = iI 0 := by decide +kernel
theorem iI_1 : (1 : Int32) = iI 1 := by decide +kernel
theorem iI_m1 : (-1 : Int32) = iI (-1) := by decide +kernel
theorem iI_clamp {z : Int} (h : 0 ≤ z) (h' : z < 2147483648) : (iI z).toNatClampNeg = z.toNat := by
  show (iI z).toInt.toNat = z.toNat
  rw [iI_toInt (by omega) h']
theorem i32_lo (x : Int32) : -2147483648 ≤ x.toInt := x.le_toInt
theorem i32_hi (x : Int32) : x.toInt < 2147483648 := x.toInt_lt
theorem i_lt {x y : Int32} : x < y ↔ x.toInt < y.toInt := Int32.lt_iff_toInt_lt
theorem i_le {x y : Int32} : x ≤ y ↔ x.toInt ≤ y.toInt := Int32.le_iff_toInt_le
theorem i_eq {x y : Int32} : x = y ↔ x.toInt = y.toInt := Int32.toInt_inj.symm
theorem i_cl (x : Int32) : (x.toNatClampNeg : Int) = if 0 ≤ x.toInt then x.toInt else 0 := by
  show ((x.toInt.toNat : Nat) : Int) = _
  split <;> omega
/-- an index within: the number -/
theorem in_nat {x : Int32} {n : Nat} (h : vp_in x n) : x.toNatClampNeg < n := by
  rcases Nat.lt_or_ge x.toNatClampNeg n with q | q
  · exact q
  · exact absurd (Or.inr q) h
theorem in_of {x : Int32} {n : Nat} (h0 : 0 ≤ x.toInt) (h : x.toInt < n) : vp_in x n := vp_in_iff.mpr ⟨h0, h⟩
theorem jJ_add (a b : Int) : jJ a + jJ b = jJ (a + b) := (Int64.ofInt_add a b).symm
theorem jJ_sub (a b : Int) : jJ a - jJ b = jJ (a - b) := (Int64.ofInt_sub a b).symm
theorem jJ_mul (a b : Int) : jJ a * jJ b = jJ (a * b) := (Int64.ofInt_mul a b).symm
theorem jJ_neg (a : Int) : -jJ a = jJ (-a) := (Int64.ofInt_neg a).symm
theorem jJ_toInt {z : Int} (h : -9223372036854775808 ≤ z) (h' : z < 9223372036854775808) : (jJ z).toInt = z := Int64.toInt_ofInt_of_le h h'
theorem jJ_of (x : Int64) : jJ x.toInt = x := Int64.ofInt_toInt x
theorem jJ_lt {a b : Int} (h : -9223372036854775808 ≤ a) (h' : a < 9223372036854775808) (k : -9223372036854775808 ≤ b) (k' : b < 9223372036854775808) : jJ a < jJ b ↔ a < b := by
  rw [Int64.lt_iff_toInt_lt, jJ_toInt h h', jJ_toInt k k']
theorem jJ_le {a b : Int} (h : -9223372036854775808 ≤ a) (h' : a < 9223372036854775808) (k : -9223372036854775808 ≤ b) (k' : b < 9223372036854775808) : jJ a ≤ jJ b ↔ a ≤ b := by
  rw [Int64.le_iff_toInt_le, jJ_toInt h h', jJ_toInt k k']
theorem jJ_eq {a b : Int} (h : -9223372036854775808 ≤ a) (h' : a < 9223372036854775808) (k : -9223372036854775808 ≤ b) (k' : b < 9223372036854775808) : jJ a = jJ b ↔ a = b := by
  rw [← Int64.toInt_inj, jJ_toInt h h', jJ_toInt k k']
theorem j_lt {x y : Int64} : x < y ↔ x.toInt < y.toInt := Int64.lt_iff_toInt_lt
theorem j_le {x y : Int64} : x ≤ y ↔ x.toInt ≤ y.toInt := Int64.le_iff_toInt_le
theorem j_eq {x y : Int64} : x = y ↔ x.toInt = y.toInt := Int64.toInt_inj.symm
theorem j64_lo (x : Int64) : -9223372036854775808 ≤ x.toInt := x.le_toInt
theorem j64_hi (x : Int64) : x.toInt < 9223372036854775808 := x.toInt_lt
theorem iI_l {z : Int} (h : -2147483648 ≤ z) (h' : z < 2147483648) : (iI z).toInt64 = jJ z := by
  rw [← Int64.toInt_inj, Int32.toInt_toInt64, iI_toInt h h', jJ_toInt (by omega) (by omega)]
