/-! SMALL METHODS -/
section gSm
variable {X : Nat × (Nat → Int32)} {I : Nat → Nat → Int32} {J : Nat → Nat → Int64} {v : Vt}
theorem m_isIn {x y z : Int64} {s : gH} : fX12_isIn x y z s = some (if y.toInt ≤ x.toInt ∧ x.toInt ≤ z.toInt then 1 else 0, s) := by
  unfold fX12_isIn gX12_isIn
  simp only [lg_cmp_lt, lg_cmp_gt, Int64.lt_iff_toInt_lt]
  by_cases h1 : x.toInt < y.toInt
  · rw [if_pos h1, if_neg (by omega)]; rfl
  · rw [if_neg h1]
    by_cases h2 : z.toInt < x.toInt
    · rw [if_pos h2, if_neg (by omega)]; rfl
    · rw [if_neg h2, if_pos (by omega)]; rfl
theorem iZ_l {z : Int} (h1 : -2147483648 ≤ z) (h2 : z < 2147483648) : (iZ z).toInt64.toInt = z := by
  rw [Int32.toInt_toInt64, iZ_toInt h1 h2]
theorem m_refuses {n : Nat} (hn : n < 6) : fX12_refuses 267 (iZ n) (mkS X I J v) = some (-1, mkS X (gup I 269 n (I 269 n + 1)) J v) := by
  simp only [fX12_refuses, o267R, bO, a269 _ _ _ _ n hn, b269 _ _ _ _ n _ hn]
  rfl
theorem m_isRefused {n : Nat} (hn : n < 6) : fX12_isRefused 267 (iZ n) (mkS X I J v) = some (0, mkS X (gup I 269 n (I 269 n + 1)) J v) := by
  simp only [fX12_isRefused, gX12_isRefused, o267R, bO, a269 _ _ _ _ n hn, b269 _ _ _ _ n _ hn]
  rfl
theorem c_refuse {n : Nat} (hn : n < 6) : fX11_refuse 50 (iZ n) (mkS X I J v) = some (-1, mkS X (gup I 196 n (I 196 n + 1)) J v) := by
  have h1 : ¬ iZ (n : Int) < 0 := by rw [show (0 : Int32) = iZ 0 from rfl, iZ_lt (by omega) (by omega) (by omega) (by omega)]; omega
  have h2 : iZ (n : Int) < iZ 6 := by rw [iZ_lt (by omega) (by omega) (by omega) (by omega)]; omega
  simp only [fX11_refuse, o50R, bO, n196, a196 _ _ _ _ n hn, b196 _ _ _ _ n _ hn, if_neg h1, if_pos h2]
  rfl
theorem c_deny {n : Nat} (hn : n < 6) : fX11_deny 50 (iZ n) (mkS X I J v) = some (0, mkS X (gup I 196 n (I 196 n + 1)) J v) := by
  simp only [fX11_deny, gX11_deny, o50, bO, c_refuse hn]
  rfl
/-- what both count of refusals -/
def rRef (I : Nat → Nat → Int32) : Prop := ∀ k, k < 6 → I 196 k = I 269 k
theorem m_status {z : Int} (h1 : -2147483648 ≤ z) (h2 : z < 2147483648) : fX12_status 267 (iZ z) (mkS X I J v) = some (if 0 ≤ z ∧ z ≤ 5 then I 269 z.toNat else -1, mkS X I J v) := by
  unfold fX12_status
  simp only [m_isIn, bO, iZ_l h1 h2, o267R]
  by_cases h : 0 ≤ z ∧ z ≤ 5
  · obtain ⟨n, rfl⟩ := Int.eq_ofNat_of_zero_le h.1
    simp only [show (Int64.toInt 0) = 0 from rfl, show (Int64.toInt 5) = 5 from rfl, if_pos h]
    rw [if_neg (by decide), a269 _ _ _ _ n (by omega)]
    rfl
  · simp only [show (Int64.toInt 0) = 0 from rfl, show (Int64.toInt 5) = 5 from rfl, if_neg h]
    rfl
theorem c_status {z : Int} (h1 : -2147483648 ≤ z) (h2 : z < 2147483648) : fX11_status 50 (iZ z) (mkS X I J v) = some (if 0 ≤ z ∧ z ≤ 5 then I 196 z.toNat else -1, mkS X I J v) := by
  unfold fX11_status
  simp only [bO, o50R, n196, show (0 : Int32) = iZ 0 from rfl, iZ_lt h1 h2 (show (-2147483648 : Int) ≤ 0 by omega) (by omega), iZ_lt h1 h2 (show (-2147483648 : Int) ≤ 6 by omega) (by omega)]
  by_cases h : 0 ≤ z ∧ z ≤ 5
  · obtain ⟨n, rfl⟩ := Int.eq_ofNat_of_zero_le h.1
    rw [if_neg (by omega), if_pos (by omega), if_pos h, a196 _ _ _ _ n (by omega)]
    rfl
  · rw [if_neg h]
    by_cases h3 : z < 0
    · rw [if_pos h3]
    · rw [if_neg h3, if_neg (by omega)]
theorem m_seed {z : Int} (h1 : -2147483648 ≤ z) (h2 : z < 2147483648) : fX12_seed 267 (iZ z) (mkS X I J v) = if z < 0 then some (0, mkS X (gup I 269 5 (I 269 5 + 1)) J v) else some (1, mkS X I (gup J 267 46 (iZ z).toInt64) v) := by
  unfold fX12_seed gX12_seed
  simp only [bO, o267, show (0 : Int32) = iZ 0 from rfl, iZ_lt h1 h2 (show (-2147483648 : Int) ≤ 0 by omega) (by omega)]
  by_cases h : z < 0
  · rw [if_pos h, if_pos h, show (5 : Int32) = iZ ((5 : Nat) : Int) from rfl, m_isRefused (by decide)]
    rfl
  · rw [if_neg h, if_neg h]
    rfl
theorem c_seed {z : Int} (h1 : -2147483648 ≤ z) (h2 : z < 2147483648) : fX11_seed 50 (iZ z) (mkS X I J v) = if z < 0 then some (0, mkS X (gup I 196 5 (I 196 5 + 1)) J v) else some (1, mkS X (gup I 50 9 (iZ z)) J v) := by
  unfold fX11_seed gX11_seed
  simp only [bO, o50, show (0 : Int32) = iZ 0 from rfl, iZ_lt h1 h2 (show (-2147483648 : Int) ≤ 0 by omega) (by omega)]
  by_cases h : z < 0
  · rw [if_pos h, if_pos h, show (5 : Int32) = iZ ((5 : Nat) : Int) from rfl, c_deny (by decide)]
    rfl
  · rw [if_neg h, if_neg h]
    rfl
theorem m_fault {x : Int32} : fX12_fault 267 x (mkS X I J v) = some (if x = 0 then I 267 7 else if x = 1 then I 267 8 else -1, mkS X I J v) := by
  unfold fX12_fault
  simp only [bO, o267]
  split
  · rfl
  · split <;> rfl
theorem c_fault {x : Int32} : fX11_fault 50 x (mkS X I J v) = some (if x = 0 then I 53 0 else if x = 1 then I 53 1 else -1, mkS X I J v) := by
  unfold fX11_fault
  simp only [bO, o50R, o53]
  split
  · rfl
  · split <;> rfl
end gSm
