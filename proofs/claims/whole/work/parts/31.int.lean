/-! INTS as integers -/
def iZ (z : Int) : Int32 := Int32.ofInt z
theorem iZ_toInt {z : Int} (h1 : -2147483648 ≤ z) (h2 : z < 2147483648) : (iZ z).toInt = z := Int32.toInt_ofInt_of_le (by omega) (by omega)
theorem iZ_of (x : Int32) : ∃ z : Int, -2147483648 ≤ z ∧ z < 2147483648 ∧ x = iZ z := ⟨x.toInt, by have := x.le_toInt; omega, by have := x.toInt_lt; omega, (Int32.ofInt_toInt x).symm⟩
theorem iZ_nat (n : Nat) : Int32.ofNat n = iZ (n : Int) := Int32.ofInt_eq_ofNat.symm
theorem iZ_lit (n : Nat) : (OfNat.ofNat n : Int32) = iZ (n : Int) := Int32.ofInt_eq_ofNat.symm
theorem iZ_add (a b : Int) : iZ a + iZ b = iZ (a + b) := (Int32.ofInt_add a b).symm
theorem iZ_sub (a b : Int) : iZ a - iZ b = iZ (a - b) := (Int32.ofInt_sub a b).symm
theorem iZ_mul (a b : Int) : iZ a * iZ b = iZ (a * b) := (Int32.ofInt_mul a b).symm
theorem iZ_neg (a : Int) : - iZ a = iZ (-a) := (Int32.ofInt_neg a).symm
theorem iZ_lt {a b : Int} (h1 : -2147483648 ≤ a) (h2 : a < 2147483648) (h3 : -2147483648 ≤ b) (h4 : b < 2147483648) : iZ a < iZ b ↔ a < b := by
  rw [Int32.lt_iff_toInt_lt, iZ_toInt h1 h2, iZ_toInt h3 h4]
theorem iZ_le {a b : Int} (h1 : -2147483648 ≤ a) (h2 : a < 2147483648) (h3 : -2147483648 ≤ b) (h4 : b < 2147483648) : iZ a ≤ iZ b ↔ a ≤ b := by
  rw [Int32.le_iff_toInt_le, iZ_toInt h1 h2, iZ_toInt h3 h4]
theorem iZ_eq {a b : Int} (h1 : -2147483648 ≤ a) (h2 : a < 2147483648) (h3 : -2147483648 ≤ b) (h4 : b < 2147483648) : iZ a = iZ b ↔ a = b := by
  rw [← Int32.toInt_inj, iZ_toInt h1 h2, iZ_toInt h3 h4]
theorem iZ_clamp {a : Int} (h1 : -2147483648 ≤ a) (h2 : a < 2147483648) : (iZ a).toNatClampNeg = a.toNat := Int32.toNatClampNeg_ofInt_of_le (by omega) (by omega)
theorem iZ_div {a b : Int} (h1 : -2147483648 < a) (h2 : a < 2147483648) (h3 : -2147483648 ≤ b) (h4 : b < 2147483648) : iZ a / iZ b = iZ (a.tdiv b) := by
  rw [← Int32.toInt_inj, Int32.toInt_div_of_ne_left, iZ_toInt (by omega) h2, iZ_toInt h3 h4]
  · by_cases hb : b = 0
    · subst hb; simp [iZ]
    · have h5 : (a.tdiv b).natAbs ≤ a.natAbs := Int.natAbs_tdiv_le_natAbs a b
      rw [iZ_toInt (by omega) (by omega)]
  · intro h
    have : (iZ a).toInt = Int32.minValue.toInt := by rw [h]
    rw [iZ_toInt (by omega) h2] at this
    have h6 : Int32.minValue.toInt = -2147483648 := by decide
    omega
theorem iZ_rem {a b : Int} (h1 : -2147483648 < a) (h2 : a < 2147483648) (h3 : -2147483648 ≤ b) (h4 : b < 2147483648) : gIrem (iZ a) (iZ b) = iZ (a.tmod b) := by
  unfold gIrem
  rw [iZ_div h1 h2 h3 h4, iZ_mul, iZ_sub]
  congr 1
  rw [Int.tmod_def, Int.mul_comm]
theorem tdiv_nn {a b : Int} (h : 0 ≤ a) : a.tdiv b = a / b := Int.tdiv_eq_ediv_of_nonneg h
theorem tmod_nn {a b : Int} (h : 0 ≤ a) : a.tmod b = a % b := Int.tmod_eq_emod_of_nonneg h
theorem gmax_Z {a b : Int} (h1 : -2147483648 ≤ a) (h2 : a < 2147483648) (h3 : -2147483648 ≤ b) (h4 : b < 2147483648) : gmax (iZ a) (iZ b) = iZ (max a b) := by
  unfold gmax
  by_cases h : a < b
  · rw [if_pos ((iZ_lt h1 h2 h3 h4).mpr h)]; congr 1; omega
  · rw [if_neg (fun q => h ((iZ_lt h1 h2 h3 h4).mp q))]; congr 1; omega
theorem gmin_Z {a b : Int} (h1 : -2147483648 ≤ a) (h2 : a < 2147483648) (h3 : -2147483648 ≤ b) (h4 : b < 2147483648) : gmin (iZ a) (iZ b) = iZ (min a b) := by
  unfold gmin
  by_cases h : b < a
  · rw [if_pos ((iZ_lt h3 h4 h1 h2).mpr h)]; congr 1; omega
  · rw [if_neg (fun q => h ((iZ_lt h3 h4 h1 h2).mp q))]; congr 1; omega
