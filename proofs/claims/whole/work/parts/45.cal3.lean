/-! THE CALENDAR: the class's -/
section gCl3
theorem c_isDay {z : Int} {s : gH} (h1 : -2147483648 ≤ z) (h2 : z < 2147483648) : fX11_isDay (iZ z) s = some (if 0 ≤ z ∧ z < 14610 then 1 else 0, s) := by
  unfold fX11_isDay gX11_isDay
  simp (disch := omega) only [cL_lt]
  by_cases h3 : z < 0
  · rw [if_pos h3, if_neg (by omega)]; rfl
  · rw [if_neg h3]
    by_cases h4 : z < 14610
    · rw [if_pos h4, if_pos (by omega)]; rfl
    · rw [if_neg h4, if_neg (by omega)]; rfl
theorem m_isDay {z : Int} {s : gH} (h1 : -2147483648 ≤ z) (h2 : z < 2147483648) : fX12_isDay (iZ z) s = some (if 0 ≤ z ∧ z < 14610 then 1 else 0, s) := by
  unfold fX12_isDay gX12_isDay
  simp only [m_isIn, bO, iZ_l h1 h2, show (Int64.toInt 0) = 0 from rfl, show (Int64.toInt 14609) = 14609 from rfl]
  by_cases h : 0 ≤ z ∧ z ≤ 14609
  · rw [if_pos h, if_pos (by omega)]; rfl
  · rw [if_neg h, if_neg (by omega)]; rfl
theorem c_yearOf {d : Nat} {s : gH} (hd : d < 20000) : fX0_yearOf (iZ (d : Int)) s = some (iZ (cY d : Nat), s) := by
  unfold fX0_yearOf
  have e1 : gIrem (iZ (d : Int)) 1461 = iZ ((d % 1461 : Nat) : Int) := by
    rw [show (1461 : Int32) = iZ 1461 from rfl, iZ_rem (by omega) (by omega) (by omega) (by omega), tmod_nn (by omega)]
    congr 1
  have e2 : iZ (d : Int) / 1461 = iZ ((d / 1461 : Nat) : Int) := by
    rw [show (1461 : Int32) = iZ 1461 from rfl, iZ_div (by omega) (by omega) (by omega) (by omega), tdiv_nn (by omega)]
    congr 1
  rw [e1, e2, glet_eq]
  simp (disch := omega) only [cL_lt, sL, pL, aL]
  unfold cY
  by_cases h : d % 1461 < 366
  · rw [if_pos (by omega), if_pos h]
    congr 3
    try omega
  · rw [if_neg (by omega), if_neg h]
    rw [show (365 : Int32) = iZ 365 from rfl, iZ_div (by omega) (by omega) (by omega) (by omega), tdiv_nn (by omega), iZ_add]
    congr 3
    omega
theorem c_firstOfYear {y : Nat} {s : gH} (hy : y < 1000) : fX0_firstOfYear (iZ (y : Int)) s = some (iZ (cF y : Nat), s) := by
  unfold fX0_firstOfYear cF
  simp only [pL, aL]
  rw [show (4 : Int32) = iZ 4 from rfl, iZ_div (by omega) (by omega) (by omega) (by omega), tdiv_nn (by omega), iZ_add]
  congr 3
  try omega
theorem gAh_c : ∀ j, j < 13 → gAh j = iZ ((cAh (j + 1) : Nat) : Int) := by decide +kernel
theorem cAh_le : ∀ m, m < 20 → cAh m ≤ 365 := by decide +kernel
theorem cA_le {y m : Nat} (h : m < 20) : cA y m ≤ 366 := by
  have := cAh_le m h
  unfold cA
  split <;> omega
theorem c_daysAhead {y m : Nat} {s : gH} (hy : y < 1000) (h1 : 1 ≤ m) (h2 : m ≤ 13) : fX0_daysAhead (iZ (y : Int)) (iZ (m : Int)) s = some (iZ (cA y m : Nat), s) := by
  unfold fX0_daysAhead
  have e1 : gIrem (iZ (y : Int)) 4 = iZ ((y % 4 : Nat) : Int) := by
    rw [show (4 : Int32) = iZ 4 from rfl, iZ_rem (by omega) (by omega) (by omega) (by omega), tmod_nn (by omega)]
    congr 1
  have e2 : gAl (iZ (m : Int) - 1) = some (iZ ((cAh m : Nat) : Int)) := by
    rw [show (1 : Int32) = iZ 1 from rfl, iZ_sub, show ((m : Int) - 1) = ((m - 1 : Nat) : Int) by omega]
    unfold gAl
    rw [if_pos (iZ_in (by omega) (by decide)), iZ_cl (by omega), gAh_c (m - 1) (by omega), show m - 1 + 1 = m by omega]
  rw [e1, e2]
  simp (disch := omega) only [cL_lt, cR_lt, cL_eq, bO, aL]
  have := cAh_le m (by omega)
  unfold cA
  rw [if_neg (by omega), if_neg (by omega)]
  by_cases h3 : 2 < m
  · rw [if_pos (by omega)]
    by_cases h4 : y % 4 = 0
    · rw [if_pos (by omega), if_pos ⟨h3, h4⟩]
      congr 3
    · rw [if_neg (by omega), if_neg (by omega)]
      congr 3
  · rw [if_neg (by omega), if_neg (by omega)]
    congr 3
theorem c_monthL {y b : Nat} {s : gH} (hy : y < 1000) (hb : b < 100000) : ∀ (m fuel : Nat), m ≤ 11 → m + 1 ≤ fuel → gX0_monthOf_L15 (iZ (y : Int)) (iZ (b : Int)) fuel (iZ ((m + 1 : Nat) : Int)) s = some (iZ (cMo y b m : Nat), s) := by
  intro m
  induction m with
  | zero =>
    intro fuel h1 h2
    obtain ⟨n, rfl⟩ : ∃ n, fuel = n + 1 := ⟨fuel - 1, by omega⟩
    unfold gX0_monthOf_L15
    simp (disch := omega) only [cR_lt]
    rw [if_neg (by omega)]
    rfl
  | succ m ih =>
    intro fuel h1 h2
    obtain ⟨n, rfl⟩ : ∃ n, fuel = n + 1 := ⟨fuel - 1, by omega⟩
    unfold gX0_monthOf_L15
    have hA := cA_le (y := y) (m := m + 2) (by omega)
    simp (disch := omega) only [cR_lt]
    rw [if_pos (by omega), show ((m + 1 + 1 : Nat) : Int) = ((m + 2 : Nat) : Int) from rfl, c_daysAhead hy (by omega) (by omega), gb2_some]
    simp (disch := omega) only [iZ_lt]
    show _ = some (iZ ((if cA y (m + 2) ≤ b then m + 2 else cMo y b m : Nat) : Int), s)
    by_cases h : cA y (m + 2) ≤ b
    · rw [if_neg (by omega), if_pos h]
    · rw [if_pos (by omega), if_neg h]
      rw [show (iZ ((m + 2 : Nat) : Int) + (-1)) = iZ ((m + 1 : Nat) : Int) by rw [show (-1 : Int32) = iZ (-1) from rfl, iZ_add]; congr 1; omega]
      exact ih n (by omega) (by omega)
theorem c_monthOf {d : Nat} {s : gH} (hd : d < 14610) : fX0_monthOf (iZ (d : Int)) s = some (iZ (cM d : Nat), s) := by
  obtain ⟨q1, q2, q3, q4, q5, q6, q7, q8, q9, q10, q11⟩ := cGood_all' hd
  unfold fX0_monthOf
  rw [c_yearOf (by omega), gb2_some, c_firstOfYear (by omega), gb2_some, glet_eq, iZ_sub, show ((d : Int) - (cF (cY d) : Nat)) = ((d - cF (cY d) : Nat) : Int) by omega]
  exact c_monthL (by omega) (by omega) 11 20000 (by decide) (by decide)
theorem c_weekdayOf {d : Nat} {s : gH} (hd : d < 20000) : fX0_weekdayOf (iZ (d : Int)) s = some (iZ (((d + 5) % 7 : Nat) : Int), s) := by
  unfold fX0_weekdayOf
  simp only [aL]
  rw [show (7 : Int32) = iZ 7 from rfl, iZ_rem (by omega) (by omega) (by omega) (by omega), tmod_nn (by omega)]
  congr 3
theorem m_weekdayOf {d : Nat} {s : gH} (hd : d < 20000) : fX12_weekdayOf (iZ (d : Int)) s = some (iZ (((d + 5) % 7 : Nat) : Int), s) := c_weekdayOf hd
theorem c_firstOfMonth {y m : Nat} {s : gH} (hy : y < 1000) (h1 : 1 ≤ m) (h2 : m ≤ 13) : fX0_firstOfMonth (iZ (y : Int)) (iZ (m : Int)) s = some (iZ ((cF y + cA y m : Nat) : Int), s) := by
  unfold fX0_firstOfMonth
  rw [c_firstOfYear hy, gb2_some, c_daysAhead hy h1 h2, gb2_some, iZ_add]
  congr 3
theorem cLn_facts : ∀ y, y < 40 → ∀ m, m < 13 → 1 ≤ m → cA y m ≤ cA y (m + 1) ∧ cLn y m ≤ 31 := by decide +kernel
theorem c_monthLengthOf {y m : Nat} {s : gH} (hy : y < 40) (h1 : 1 ≤ m) (h2 : m ≤ 12) : fX0_monthLengthOf (iZ (y : Int)) (iZ (m : Int)) s = some (iZ (cLn y m : Nat), s) := by
  unfold fX0_monthLengthOf
  have hf := cLn_facts y hy m (by omega) h1
  rw [show (iZ (m : Int) + 1) = iZ ((m + 1 : Nat) : Int) by rw [show (1 : Int32) = iZ 1 from rfl, iZ_add]; rfl, c_daysAhead (by omega) (by omega) (by omega), gb2_some, c_daysAhead (by omega) h1 (by omega), gb2_some, iZ_sub]
  unfold cLn
  congr 3
  omega
/-- the day of a date -/
def cDay (y m d : Int) : Int := if (2000 ≤ y ∧ y < 2040) ∧ (1 ≤ m ∧ m ≤ 12) ∧ 1 ≤ d ∧ d ≤ (cLn (y - 2000).toNat m.toNat : Nat) then ((cF (y - 2000).toNat + cA (y - 2000).toNat m.toNat : Nat) : Int) + d - 1 else -1
theorem c_day {y m d : Int} {s : gH} (y1 : -2147483648 ≤ y) (y2 : y < 2147483648) (m1 : -2147483648 ≤ m) (m2 : m < 2147483648) (d1 : -2147483648 ≤ d) (d2 : d < 2147483648) : fX11_day 50 (iZ y) (iZ m) (iZ d) s = some (iZ (cDay y m d), s) := by
  unfold fX11_day cDay
  simp (disch := omega) only [cL_lt, cR_lt, sL]
  by_cases hy : 2000 ≤ y ∧ y < 2040
  · rw [if_neg (by omega), if_pos hy.2]
    by_cases hm : 1 ≤ m ∧ m ≤ 12
    · rw [if_neg (by omega), if_neg (by omega)]
      by_cases hd : 1 ≤ d
      · rw [if_neg (by omega)]
        obtain ⟨yn, hyn⟩ : ∃ n : Nat, y - 2000 = (n : Int) := ⟨(y - 2000).toNat, by omega⟩
        obtain ⟨mn, hmn⟩ : ∃ n : Nat, m = (n : Int) := ⟨m.toNat, by omega⟩
        subst hmn
        rw [hyn, c_monthLengthOf (by omega) (by omega) (by omega), gb2_some]
        have hf := cLn_facts yn (by omega) mn (by omega) (by omega)
        have hA := cA_le (y := yn) (m := mn) (by omega)
        have hF : cF yn ≤ 20000 := by unfold cF; omega
        simp (disch := omega) only [iZ_lt, Int.toNat_natCast]
        by_cases h4 : d ≤ (cLn yn mn : Nat)
        · rw [if_neg (by omega), if_pos ⟨hy, hm, hd, h4⟩, c_firstOfMonth (by omega) (by omega) (by omega), gb2_some, iZ_add]
          simp only [sL]
        · rw [if_pos (by omega), if_neg (by omega)]
          rfl
      · rw [if_pos (by omega), if_neg (by omega)]; rfl
    · rw [if_neg (c := _ ∧ _) (by omega)]
      by_cases h1 : m < 1
      · rw [if_pos h1]; rfl
      · rw [if_neg h1, if_pos (by omega)]; rfl
  · rw [if_neg (c := (2000 ≤ y ∧ y < 2040) ∧ _) (fun q => hy q.1)]
    by_cases h1 : y < 2000
    · rw [if_pos h1]; rfl
    · rw [if_neg h1, if_neg (by omega)]; rfl
end gCl3
