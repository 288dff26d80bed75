/-! DRAWS -/
def lcg (z : Nat) : Nat := (1103515245 * z + 12345) % 2147483648
theorem lcg_lt (z : Nat) : lcg z < 2147483648 := Nat.mod_lt _ (by decide)
theorem l_nat {y : Int64} {n : Nat} (h : y.toInt = (n : Int)) : y.toBitVec.toNat = n := by
  have h1 : y.toBitVec.toInt = (n : Int) := h
  have h2 := y.toBitVec.isLt
  rw [BitVec.toInt_eq_toNat_bmod] at h1
  have h3 : (y.toBitVec.toNat : Int).bmod (2 ^ 64) = y.toBitVec.toNat ∨ (y.toBitVec.toNat : Int).bmod (2 ^ 64) = y.toBitVec.toNat - 2 ^ 64 := by
    rw [Int.bmod_def]
    have : ((y.toBitVec.toNat : Int)) % (2 ^ 64 : Nat) = y.toBitVec.toNat := Int.emod_eq_of_lt (by omega) (by omega)
    rw [this]
    split
    · exact Or.inl rfl
    · exact Or.inr rfl
  rcases h3 with q | q <;> rw [q] at h1 <;> omega
theorem l_land {y : Int64} {n : Nat} (h : y.toInt = (n : Int)) : (y &&& 2147483647).toInt = ((n % 2147483648 : Nat) : Int) := by
  have h1 := l_nat h
  have h2 : (y &&& 2147483647).toBitVec.toNat = n % 2147483648 := by
    rw [Int64.toBitVec_and, BitVec.toNat_and, h1]
    exact Nat.and_two_pow_sub_one_eq_mod n 31
  show (y &&& 2147483647).toBitVec.toInt = _
  rw [BitVec.toInt_eq_toNat_bmod, h2]
  exact Int.bmod_eq_of_le (by omega) (by omega)
theorem l_to32 {y : Int64} {n : Nat} (h : y.toInt = (n : Int)) (hn : n < 2147483648) : y.toInt32 = iZ (n : Int) := by
  apply Int32.toInt_inj.mp
  rw [Int64.toInt_toInt32, h, iZ_toInt (by omega) (by omega)]
  exact Int.bmod_eq_of_le (by omega) (by omega)
theorem l_mul {y : Int64} {n : Nat} (h : y.toInt = (n : Int)) (hn : n < 2147483648) : (1103515245 * y + 12345).toInt = ((1103515245 * n + 12345 : Nat) : Int) := by
  rw [Int64.toInt_add, Int64.toInt_mul, h, show (1103515245 : Int64).toInt = 1103515245 from rfl, show (12345 : Int64).toInt = 12345 from rfl]
  rw [Int.bmod_eq_of_le (n := (1103515245 : Int) * (n : Int)) (by omega) (by omega)]
  rw [Int.bmod_eq_of_le (by omega) (by omega)]
  omega
theorem l_div {x y : Int64} {a b : Nat} (hx : x.toInt = (a : Int)) (hy : y.toInt = (b : Int)) : (x / y).toInt = ((a / b : Nat) : Int) := by
  rw [Int64.toInt_div_of_ne_left, hx, hy, tdiv_nn (by omega), ← Int.natCast_ediv]
  intro h
  have h1 : x.toInt = Int64.minValue.toInt := by rw [h]
  have h2 : Int64.minValue.toInt = -9223372036854775808 := by decide
  omega
theorem l_rem {x y : Int64} {a b : Nat} (hx : x.toInt = (a : Int)) (hy : y.toInt = (b : Int)) (ha : a < 9223372036854775808) : (gLrem x y).toInt = ((a % b : Nat) : Int) := by
  unfold gLrem
  rw [Int64.toInt_sub, Int64.toInt_mul, l_div hx hy, hx, hy]
  have h1 : a / b * b ≤ a := Nat.div_mul_le_self a b
  have h2 : ((a / b : Nat) : Int) * (b : Int) = ((a / b * b : Nat) : Int) := by rw [Int.natCast_mul]
  have h3 : a % b = a - a / b * b := by have := Nat.div_add_mod a b; rw [Nat.mul_comm] at this; omega
  rw [h2, Int.bmod_eq_of_le (n := ((a / b * b : Nat) : Int)) (by omega) (by omega), Int.bmod_eq_of_le (by omega) (by omega), h3]
  omega
theorem iZ_l64 {z : Nat} (h : z < 2147483648) : (iZ (z : Int)).toInt64.toInt = (z : Int) := iZ_l (by omega) (by omega)
section gDw
variable {X : Nat × (Nat → Int32)} {v : Vt} {I : Nat → Nat → Int32} {J : Nat → Nat → Int64}
theorem c_draw {z n : Nat} (hz : z < 2147483648) (hn : 1 ≤ n) (hn2 : n ≤ 14610) (h : I 50 9 = iZ (z : Int)) : fX11_draw 50 (iZ (n : Int)) (mkS X I J v) = some (iZ ((lcg z / 64 % n : Nat) : Int), mkS X (gup I 50 9 (iZ (lcg z : Nat))) J v) := by
  have hl := lcg_lt z
  have e : ((1103515245 * (iZ (z : Int)).toInt64 + 12345) &&& 2147483647).toInt32 = iZ (lcg z : Nat) := l_to32 (l_land (l_mul (iZ_l64 hz) hz)) hl
  unfold fX11_draw
  simp only [bO, o50, h, e, gup_s]
  rw [if_neg (by rw [cL_lt (by omega) (by omega) (by decide)]; omega), if_neg (by rw [cL_eq (by omega) (by omega) (by decide)]; omega), show (64 : Int32) = iZ 64 from rfl, iZ_div (by omega) (by omega) (by omega) (by omega), tdiv_nn (by omega), iZ_rem (by omega) (by omega) (by omega) (by omega), tmod_nn (by omega)]
  congr 3
theorem m_drawOf {z n : Nat} (hz : z < 2147483648) (hn : 1 ≤ n) (hn2 : n ≤ 14610) (h : J 267 46 = (iZ (z : Int)).toInt64) : fX12_drawOf 267 (iZ (n : Int)) (mkS X I J v) = some (iZ ((lcg z / 64 % n : Nat) : Int), mkS X I (gup J 267 46 (iZ (lcg z : Nat)).toInt64) v) := by
  have hl := lcg_lt z
  have e : gLrem (1103515245 * (iZ (z : Int)).toInt64 + 12345) 2147483648 = (iZ (lcg z : Nat)).toInt64 := by
    apply Int64.toInt_inj.mp
    rw [l_rem (l_mul (iZ_l64 hz) hz) (show (2147483648 : Int64).toInt = ((2147483648 : Nat) : Int) from rfl) (by omega), iZ_l64 hl]
    rfl
  unfold fX12_drawOf
  simp only [bO, o267, h, e, gup_s]
  have hn0 : ¬ (iZ (n : Int)).toInt64 = 0 := fun q => by
    have q2 : (iZ (n : Int)).toInt64.toInt = 0 := by rw [q]; rfl
    rw [iZ_l64 (by omega)] at q2
    omega
  rw [if_neg hn0]
  have d1 : (((iZ (lcg z : Nat)).toInt64) / 64).toInt = ((lcg z / 64 : Nat) : Int) := l_div (iZ_l64 hl) (show (64 : Int64).toInt = ((64 : Nat) : Int) from rfl)
  have hm : lcg z / 64 % n < 2147483648 := by
    have := Nat.mod_lt (lcg z / 64) (show 0 < n by omega)
    omega
  rw [l_to32 (l_rem d1 (iZ_l64 (by omega)) (by omega)) hm]
end gDw
