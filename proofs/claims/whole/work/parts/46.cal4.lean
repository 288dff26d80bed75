/-! THE CALENDAR: the reference's day and date -/
def calInv (I : Nat → Nat → Int32) : Prop := I 267 17 = 0 ∨ (I 267 17 = 1 ∧ calOK I)
def laid (I : Nat → Nat → Int32) : Nat → Nat → Int32 := if I 267 17 = 0 then calF (gup I 267 17 1) 0 14610 else I
theorem laid_ok {I : Nat → Nat → Int32} (h : calInv I) : calOK (laid I) ∧ laid I 267 17 = 1 := by
  unfold laid
  rcases h with h | ⟨h1, h2⟩
  · rw [if_pos h]
    exact ⟨calF_ok _, by rw [calF_out _ _ _ (by omega), gup_s]⟩
  · rw [if_neg (by rw [h1]; decide)]
    exact ⟨h2, h1⟩
theorem laid_out {I : Nat → Nat → Int32} {r k : Nat} (h : r < 271 ∨ 274 < r) (h2 : r ≠ 267 ∨ k ≠ 17) : laid I r k = I r k := by
  unfold laid
  split
  · rw [calF_out _ _ _ h]
    rcases h2 with h2 | h2
    · exact gup_r h2
    · exact gup_k h2
  · rfl
theorem laid_id {I : Nat → Nat → Int32} (h : I 267 17 = 1) : laid I = I := by
  unfold laid
  rw [if_neg (by rw [h]; decide)]
section gCl4
variable {X : Nat × (Nat → Int32)} {J : Nat → Nat → Int64} {v : Vt} {I : Nat → Nat → Int32}
theorem m_laysDays (h : calInv I) : fX12_laysDays 267 (mkS X I J v) = some ((), mkS X (laid I) J v) := by
  rcases h with h | ⟨h1, h2⟩
  · rw [m_lays0 h]; unfold laid; rw [if_pos h]
  · rw [m_lays1 h1, laid_id h1]
theorem cDay_iff {y m d : Int} {k : Nat} (hk : k < 14610) : ((2000 + cY k : Nat) : Int) = y ∧ ((cM k : Nat) : Int) = m ∧ ((cD k : Nat) : Int) = d ↔ cDay y m d = (k : Int) := by
  obtain ⟨q1, q2, q3, q4, q5, q6, q7, q8, q9, q10, q11⟩ := cGood_all' hk
  constructor
  · rintro ⟨rfl, rfl, rfl⟩
    unfold cDay
    have e1 : (((2000 + cY k : Nat) : Int) - 2000).toNat = cY k := by omega
    rw [e1, Int.toNat_natCast, if_pos ⟨by omega, by omega, by omega, by omega⟩]
    omega
  · intro h
    unfold cDay at h
    by_cases hc : (2000 ≤ y ∧ y < 2040) ∧ (1 ≤ m ∧ m ≤ 12) ∧ 1 ≤ d ∧ d ≤ (cLn (y - 2000).toNat m.toNat : Nat)
    · rw [if_pos hc] at h
      obtain ⟨hy, hm, hd1, hd2⟩ := hc
      obtain ⟨yn, hyn⟩ : ∃ n : Nat, y = ((2000 + n : Nat) : Int) := ⟨(y - 2000).toNat, by omega⟩
      obtain ⟨mn, rfl⟩ : ∃ n : Nat, m = (n : Int) := ⟨m.toNat, by omega⟩
      obtain ⟨dn, rfl⟩ : ∃ n : Nat, d = (n : Int) := ⟨d.toNat, by omega⟩
      subst hyn
      have e1 : (((2000 + yn : Nat) : Int) - 2000).toNat = yn := by omega
      rw [e1, Int.toNat_natCast] at h hd2
      have hf := cLn_facts yn (by omega) mn (by omega) (by omega)
      obtain ⟨b1, b2, b3, b4⟩ := cBack_all (y := yn) (m := mn) (d := dn) (by omega) (by omega) (by omega) (by omega) (by omega) (by omega)
      have hk2 : k = cF yn + cA yn mn + dn - 1 := by omega
      rw [hk2, b2, b3, b4]
      exact ⟨rfl, rfl, rfl⟩
    · rw [if_neg hc] at h
      omega
theorem cDay_range (y m d : Int) : cDay y m d = -1 ∨ (0 ≤ cDay y m d ∧ cDay y m d < 14610) := by
  unfold cDay
  by_cases hc : (2000 ≤ y ∧ y < 2040) ∧ (1 ≤ m ∧ m ≤ 12) ∧ 1 ≤ d ∧ d ≤ (cLn (y - 2000).toNat m.toNat : Nat)
  · right
    rw [if_pos hc]
    obtain ⟨hy, hm, hd1, hd2⟩ := hc
    have hf := cLn_facts (y - 2000).toNat (by omega) m.toNat (by omega) (by omega)
    obtain ⟨b1, -⟩ := cBack_all (y := (y - 2000).toNat) (m := m.toNat) (d := d.toNat) (by omega) (by omega) (by omega) (by omega) (by omega) (by omega)
    omega
  · left
    rw [if_neg hc]
theorem m_dayL {y m d : Int} (hI : calOK I) (y1 : -2147483648 ≤ y) (y2 : y < 2147483648) (m1 : -2147483648 ≤ m) (m2 : m < 2147483648) (d1 : -2147483648 ≤ d) (d2 : d < 2147483648) : ∀ (fuel k : Nat), k ≤ 14610 → 14610 - k < fuel → (cDay y m d = -1 ∨ (k : Int) ≤ cDay y m d) → gX12_dayOf_L7 267 (iZ y) (iZ m) (iZ d) fuel (iZ (k : Int)) (mkS X I J v) = some (iZ (cDay y m d), mkS X I J v) := by
  intro fuel
  induction fuel with
  | zero => intro k h1 h2; omega
  | succ n ih =>
    intro k h1 h2 h3
    have hr := cDay_range y m d
    unfold gX12_dayOf_L7
    simp (disch := omega) only [cL_lt]
    by_cases hk : k < 14610
    · obtain ⟨q1, q2, q3, q4, q5, q6, q7, q8, q9, q10, q11⟩ := cGood_all' hk
      obtain ⟨i1, i2, i3, i4⟩ := hI k hk
      have hd := cDay_iff (y := y) (m := m) (d := d) hk
      have hln := cLn_facts (cY k) q1 (cM k) (by omega) q2
      rw [if_pos (by omega)]
      simp only [bO, o267R, a271 _ _ _ _ k hk, a272 _ _ _ _ k hk, a273 _ _ _ _ k hk, i1, i2, i3]
      simp (disch := omega) only [iZ_eq, aL]
      have hgo : ¬ (((2000 + cY k : Nat) : Int) = y ∧ ((cM k : Nat) : Int) = m ∧ ((cD k : Nat) : Int) = d) → gX12_dayOf_L7 267 (iZ y) (iZ m) (iZ d) n (iZ ((k : Int) + 1)) (mkS X I J v) = some (iZ (cDay y m d), mkS X I J v) := by
        intro hne
        rw [hd] at hne
        exact ih (k + 1) (by omega) (by omega) (by omega)
      by_cases g1 : ((2000 + cY k : Nat) : Int) = y
      · rw [if_pos g1]
        by_cases g2 : ((cM k : Nat) : Int) = m
        · rw [if_pos g2]
          by_cases g3 : ((cD k : Nat) : Int) = d
          · rw [if_pos g3, hd.mp ⟨g1, g2, g3⟩]
          · rw [if_neg g3]
            exact hgo (fun q => g3 q.2.2)
        · rw [if_neg g2]
          exact hgo (fun q => g2 q.2.1)
      · rw [if_neg g1]
        exact hgo (fun q => g1 q.1)
    · rw [if_neg (by omega)]
      have : cDay y m d = -1 := by omega
      rw [this]
      rfl
theorem m_dayOf {y m d : Int} (hI : calInv I) (y1 : -2147483648 ≤ y) (y2 : y < 2147483648) (m1 : -2147483648 ≤ m) (m2 : m < 2147483648) (d1 : -2147483648 ≤ d) (d2 : d < 2147483648) : fX12_dayOf 267 (iZ y) (iZ m) (iZ d) (mkS X I J v) = some (iZ (cDay y m d), mkS X (laid I) J v) := by
  unfold fX12_dayOf
  simp only [o267]
  rw [m_laysDays hI, gb2_some]
  have hr := cDay_range y m d
  exact m_dayL (laid_ok hI).1 y1 y2 m1 m2 d1 d2 20000 0 (by decide) (by decide) (by omega)
theorem m_day {y m d : Int} (hI : calInv I) (y1 : -2147483648 ≤ y) (y2 : y < 2147483648) (m1 : -2147483648 ≤ m) (m2 : m < 2147483648) (d1 : -2147483648 ≤ d) (d2 : d < 2147483648) : fX12_day 267 (iZ y) (iZ m) (iZ d) (mkS X I J v) = some (iZ (cDay y m d), mkS X (laid I) J v) := by
  unfold fX12_day
  simp only [o267]
  rw [m_dayOf hI y1 y2 m1 m2 d1 d2]
  rfl
/-- what the calendar tells of a day -/
def cTell (d : Nat) (x : Int32) : Int32 := if x = 0 then iZ ((2000 + cY d : Nat) : Int) else if x = 1 then iZ (cM d : Nat) else if x = 2 then iZ (cD d : Nat) else if x = 3 then iZ (((d + 5) % 7 : Nat) : Int) else if x = 4 then iZ (cN d : Nat) else if x = 5 then iZ (cLm (cY d) (cM d) : Nat) else -1
theorem m_longMonthOf {d : Nat} (hI : calOK I) (hd : d < 14610) : fX12_longMonthOf 267 (iZ (d : Int)) (mkS X I J v) = some (iZ (cLm (cY d) (cM d) : Nat), mkS X I J v) := by
  obtain ⟨q1, q2, q3, -⟩ := cGood_all' hd
  obtain ⟨i1, i2, i3, i4⟩ := hI d hd
  unfold fX12_longMonthOf
  simp only [bO, o267R, a271 _ _ _ _ d hd, a272 _ _ _ _ d hd, i1, i2]
  rw [m_longMonth (by omega) (by omega)]
  rfl
theorem m_date_ {z : Int} {x : Int32} (hI : calInv I) (h1 : -2147483648 ≤ z) (h2 : z < 2147483648) : fX12_date_ 267 (iZ z) x (mkS X I J v) = if 0 ≤ z ∧ z < 14610 then some (cTell z.toNat x, mkS X (laid I) J v) else some (-1, mkS X I J v) := by
  unfold fX12_date_
  rw [m_isDay h1 h2, gb2_some]
  by_cases hz : 0 ≤ z ∧ z < 14610
  · rw [if_pos hz, if_pos hz, if_neg (by decide)]
    obtain ⟨d, rfl⟩ : ∃ n : Nat, z = (n : Int) := ⟨z.toNat, by omega⟩
    have hd : d < 14610 := by omega
    obtain ⟨i1, i2, i3, i4⟩ := (laid_ok hI).1 d hd
    simp only [o267]
    rw [m_laysDays hI, gb2_some]
    simp only [bO, o267, o267R, a271 _ _ _ _ d hd, a272 _ _ _ _ d hd, a273 _ _ _ _ d hd, a274 _ _ _ _ d hd, i1, i2, i3, i4, m_weekdayOf (show d < 20000 by omega), m_longMonthOf (laid_ok hI).1 hd, Int.toNat_natCast]
    unfold cTell
    split
    · rfl
    · split
      · rfl
      · split
        · rfl
        · split
          · rfl
          · split
            · rfl
            · split <;> rfl
  · rw [if_neg hz, if_neg hz, if_pos rfl]
end gCl4
