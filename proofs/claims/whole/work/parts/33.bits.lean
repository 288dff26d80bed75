/-! MASKS AND SHIFTS of ints -/
theorem iZ_bv (z : Int) : (iZ z).toBitVec = BitVec.ofInt 32 z := rfl
theorem iZ_mask (z : Int) (k : Nat) (hk : k < 31) : iZ z &&& iZ ((2 : Int) ^ k - 1) = iZ (z % 2 ^ k) := by
  apply Int32.toBitVec_inj.mp
  show BitVec.ofInt 32 z &&& BitVec.ofInt 32 ((2 : Int) ^ k - 1) = BitVec.ofInt 32 (z % 2 ^ k)
  apply BitVec.eq_of_toNat_eq
  have hp : (2 : Int) ^ k ≤ 2 ^ 30 := by
    have : (2 : Nat) ^ k ≤ 2 ^ 30 := Nat.pow_le_pow_right (by decide) (by omega)
    exact_mod_cast this
  have hp1 : (1 : Int) ≤ 2 ^ k := by
    have : 1 ≤ (2 : Nat) ^ k := Nat.one_le_two_pow
    exact_mod_cast this
  rw [BitVec.toNat_and, BitVec.toNat_ofInt, BitVec.toNat_ofInt, BitVec.toNat_ofInt]
  have e1 : (((2 : Int) ^ k - 1) % ((2 ^ 32 : Nat) : Int)).toNat = 2 ^ k - 1 := by
    rw [Int.emod_eq_of_lt (by omega) (by omega)]
    have : ((2 : Int) ^ k - 1) = ((2 ^ k - 1 : Nat) : Int) := by
      rw [Int.ofNat_sub Nat.one_le_two_pow]
      simp
    rw [this]
    rfl
  rw [e1, Nat.and_two_pow_sub_one_eq_mod]
  have h0 := Int.emod_nonneg z (show ((2 ^ 32 : Nat) : Int) ≠ 0 by decide)
  have h1 := Int.emod_nonneg z (show (2 : Int) ^ k ≠ 0 by omega)
  have h2 := Int.emod_lt_of_pos z (show (0 : Int) < 2 ^ k by omega)
  rw [Int.emod_eq_of_lt (a := z % 2 ^ k) h1 (by omega)]
  have hd : (2 : Int) ^ k ∣ ((2 ^ 32 : Nat) : Int) := by
    have : (2 : Nat) ^ k ∣ 2 ^ 32 := Nat.pow_dvd_pow 2 (by omega)
    exact_mod_cast this
  have e2 : (z % ((2 ^ 32 : Nat) : Int)) % 2 ^ k = z % 2 ^ k := Int.emod_emod_of_dvd z hd
  apply Int.ofNat.inj
  show (((z % ((2 ^ 32 : Nat) : Int)).toNat % 2 ^ k : Nat) : Int) = ((z % 2 ^ k).toNat : Int)
  rw [Int.natCast_emod, Int.toNat_of_nonneg h0, Int.toNat_of_nonneg h1]
  simpa using e2
theorem iZ_sh31 {s : Nat} (hs : s < 32) : iZ (s : Int) &&& 31 = iZ (s : Int) := by
  have := iZ_mask (s : Int) 5 (by decide)
  rw [show ((2 : Int) ^ 5 - 1) = 31 from rfl, show ((2 : Int) ^ 5) = 32 from rfl, Int.emod_eq_of_lt (by omega) (by omega)] at this
  exact this
theorem sh_smod : ∀ s : Nat, s < 32 → (BitVec.ofInt 32 (s : Int)).smod 32#32 = BitVec.ofNat 32 s := by decide +kernel
theorem iZ_shr {z : Int} {s : Nat} (hs : s < 32) (h1 : -2147483648 ≤ z) (h2 : z < 2147483648) : iZ z >>> (iZ (s : Int) &&& 31) = iZ (z / 2 ^ s) := by
  rw [iZ_sh31 hs]
  apply Int32.toInt_inj.mp
  have hp : (1 : Int) ≤ 2 ^ s := by
    have : 1 ≤ (2 : Nat) ^ s := Nat.one_le_two_pow
    exact_mod_cast this
  have hb1 : -2147483648 ≤ z / 2 ^ s := by
    rw [Int.le_ediv_iff_mul_le (by omega)]
    have : (-2147483648 : Int) * 2 ^ s ≤ -2147483648 * 1 := Int.mul_le_mul_of_nonpos_left (by omega) hp
    omega
  have hb2 : z / 2 ^ s < 2147483648 := by
    rw [Int.ediv_lt_iff_lt_mul (by omega)]
    have : (2147483648 : Int) * 1 ≤ 2147483648 * 2 ^ s := Int.mul_le_mul_of_nonneg_left hp (by omega)
    omega
  rw [iZ_toInt hb1 hb2]
  show ((iZ z).toBitVec.sshiftRight' ((iZ (s : Int)).toBitVec.smod 32)).toInt = _
  rw [iZ_bv (s : Int), show (32 : BitVec 32) = 32#32 from rfl, sh_smod s hs]
  show ((iZ z).toBitVec.sshiftRight (BitVec.ofNat 32 s).toNat).toInt = _
  rw [BitVec.toInt_sshiftRight, BitVec.toNat_ofNat, Nat.mod_eq_of_lt (by omega)]
  show (iZ z).toInt >>> s = _
  rw [iZ_toInt h1 h2, Int.shiftRight_eq_div_pow]
  simp
theorem iZ_shl {z : Int} {s : Nat} (hs : s < 32) : iZ z <<< (iZ (s : Int) &&& 31) = iZ (z * 2 ^ s) := by
  rw [iZ_sh31 hs]
  apply Int32.toBitVec_inj.mp
  show (iZ z).toBitVec <<< ((iZ (s : Int)).toBitVec.smod 32) = _
  rw [iZ_bv (s : Int), show (32 : BitVec 32) = 32#32 from rfl, sh_smod s hs, iZ_bv, iZ_bv]
  show BitVec.ofInt 32 z <<< (BitVec.ofNat 32 s).toNat = _
  rw [BitVec.toNat_ofNat, Nat.mod_eq_of_lt (by omega), BitVec.shiftLeft_eq_mul_twoPow]
  apply BitVec.eq_of_toInt_eq
  rw [BitVec.toInt_mul, BitVec.toInt_ofInt, BitVec.toInt_ofInt]
  have : (BitVec.twoPow 32 s).toInt = ((2 : Int) ^ s).bmod (2 ^ 32) := by
    have e : BitVec.twoPow 32 s = BitVec.ofInt 32 ((2 : Int) ^ s) := by
      apply BitVec.eq_of_toNat_eq
      rw [BitVec.toNat_twoPow, BitVec.toNat_ofInt]
      have : ((2 : Int) ^ s) = ((2 ^ s : Nat) : Int) := by simp
      rw [this]
      rfl
    rw [e, BitVec.toInt_ofInt]
  rw [this]
  simp [Int.bmod_mul_bmod]
theorem iZ_b8 {z : Int} (h1 : -2147483648 ≤ z) (h2 : z < 2147483648) : (iZ z).toInt8.toInt32 = iZ (z.bmod 256) := by
  apply Int32.toInt_inj.mp
  have hb : -128 ≤ z.bmod 256 ∧ z.bmod 256 < 128 := by
    have a1 := Int.le_bmod (x := z) (m := 256) (by decide)
    have a2 := Int.bmod_lt (x := z) (m := 256) (by decide)
    omega
  rw [iZ_toInt (by omega) (by omega), Int8.toInt_toInt32, Int32.toInt_toInt8, iZ_toInt h1 h2]
/-! comparisons with written numbers -/
theorem iZ_lit' (n : Nat) : (no_index (OfNat.ofNat n) : Int32) = iZ (OfNat.ofNat n : Int) := iZ_lit n
theorem cL_lt {a : Int} {n : Nat} (h1 : -2147483648 ≤ a) (h2 : a < 2147483648) (hn : (OfNat.ofNat n : Int) < 2147483648) : iZ a < (no_index (OfNat.ofNat n) : Int32) ↔ a < (OfNat.ofNat n : Int) := by
  have : (0 : Int) ≤ (OfNat.ofNat n : Int) := Int.natCast_nonneg n
  rw [iZ_lit', iZ_lt h1 h2 (by omega) hn]
theorem cR_lt {a : Int} {n : Nat} (h1 : -2147483648 ≤ a) (h2 : a < 2147483648) (hn : (OfNat.ofNat n : Int) < 2147483648) : (no_index (OfNat.ofNat n) : Int32) < iZ a ↔ (OfNat.ofNat n : Int) < a := by
  have : (0 : Int) ≤ (OfNat.ofNat n : Int) := Int.natCast_nonneg n
  rw [iZ_lit', iZ_lt (by omega) hn h1 h2]
theorem cL_eq {a : Int} {n : Nat} (h1 : -2147483648 ≤ a) (h2 : a < 2147483648) (hn : (OfNat.ofNat n : Int) < 2147483648) : iZ a = (no_index (OfNat.ofNat n) : Int32) ↔ a = (OfNat.ofNat n : Int) := by
  have : (0 : Int) ≤ (OfNat.ofNat n : Int) := Int.natCast_nonneg n
  rw [iZ_lit', iZ_eq h1 h2 (by omega) hn]
theorem cM_eq {a : Int} (h1 : -2147483648 ≤ a) (h2 : a < 2147483648) : iZ a = (-1 : Int32) ↔ a = -1 := by
  rw [show (-1 : Int32) = iZ (-1) from rfl, iZ_eq h1 h2 (by omega) (by omega)]
theorem aL (a : Int) (n : Nat) : iZ a + (no_index (OfNat.ofNat n) : Int32) = iZ (a + (OfNat.ofNat n : Int)) := by rw [iZ_lit', iZ_add]
theorem aR (a : Int) (n : Nat) : (no_index (OfNat.ofNat n) : Int32) + iZ a = iZ ((OfNat.ofNat n : Int) + a) := by rw [iZ_lit', iZ_add]
theorem sL (a : Int) (n : Nat) : iZ a - (no_index (OfNat.ofNat n) : Int32) = iZ (a - (OfNat.ofNat n : Int)) := by rw [iZ_lit', iZ_sub]
theorem sR (a : Int) (n : Nat) : (no_index (OfNat.ofNat n) : Int32) - iZ a = iZ ((OfNat.ofNat n : Int) - a) := by rw [iZ_lit', iZ_sub]
theorem pL (a : Int) (n : Nat) : iZ a * (no_index (OfNat.ofNat n) : Int32) = iZ (a * (OfNat.ofNat n : Int)) := by rw [iZ_lit', iZ_mul]
theorem pR (a : Int) (n : Nat) : (no_index (OfNat.ofNat n) : Int32) * iZ a = iZ ((OfNat.ofNat n : Int) * a) := by rw [iZ_lit', iZ_mul]
