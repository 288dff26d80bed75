/-! THE ALMANAC, one day on; what the calendar tells -/
section gAlm2
variable {X : Nat × (Nat → Int32)} {J : Nat → Nat → Int64} {v : Vt} {I : Nat → Nat → Int32}
theorem almS_almS (I : Nat → Nat → Int32) (d e : Nat) : almS (almS I d) e = almS I e := by
  funext r k
  unfold almS
  by_cases h : r = 58 ∧ k < 8
  · rw [if_pos h, if_pos h]
  · rw [if_neg h, if_neg h, if_neg h]
theorem alm0 (d : Nat) : alm d 0 = iZ (d : Int) := rfl
theorem alm1 (d : Nat) : alm d 1 = iZ (cY d : Nat) := rfl
theorem alm2 (d : Nat) : alm d 2 = iZ (cM d : Nat) := rfl
theorem alm3 (d : Nat) : alm d 3 = iZ (cD d : Nat) := rfl
theorem alm4 (d : Nat) : alm d 4 = iZ (((d + 5) % 7 : Nat) : Int) := rfl
theorem alm5 (d : Nat) : alm d 5 = iZ (cLn (cY d) (cM d) : Nat) := rfl
theorem alm6 (d : Nat) : alm d 6 = iZ (cN d : Nat) := rfl
theorem alm7 (d : Nat) : alm d 7 = iZ ((cF (cY d + 1) - cF (cY d) : Nat) : Int) := rfl
theorem c_forward {d : Nat} (hd : d < 14610) : fX0_forward 58 (mkS X (almS I d) J v) = some ((), mkS X (almS I (if d + 1 < 14610 then d + 1 else d)) J v) := by
  obtain ⟨q1, q2, q3, q4, q5, q6, q7, q8, q9, q10, q11⟩ := cGood_all' hd
  have hln := cLn_facts (cY d) q1 (cM d) (by omega) q2
  unfold fX0_forward
  simp only [bO, o58, almS_in (show 3 < 8 by decide), almS_in (show 5 < 8 by decide), almS_in (show 0 < 8 by decide), alm3, alm5, alm0]
  simp (disch := omega) only [iZ_lt, aL]
  by_cases h : cD d < cLn (cY d) (cM d)
  · rw [if_pos (by omega)]
    obtain ⟨s1, s2, s3⟩ := cStep_of hd
    have hlt : ¬ (cLm (cY d) (cM d) < cD d + 1) := by omega
    rw [if_neg hlt, if_neg (by omega)] at s1 s2
    have hd1 : d + 1 < 14610 := by
      obtain ⟨b1, -⟩ := cBack_all (y := cY d) (m := cM d) (d := cD d + 1) (by omega) (by omega) (by omega) (by omega) (by omega) (by omega)
      omega
    rw [if_pos hd1]
    simp only [gup_k (show (3 : Nat) ≠ 0 by decide), gup_k (show (6 : Nat) ≠ 0 by decide), gup_k (show (6 : Nat) ≠ 3 by decide), gup_k (show (4 : Nat) ≠ 0 by decide), gup_k (show (4 : Nat) ≠ 3 by decide), gup_k (show (4 : Nat) ≠ 6 by decide), almS_in (show 3 < 8 by decide), almS_in (show 6 < 8 by decide), almS_in (show 4 < 8 by decide), alm3, alm6, alm4]
    simp (disch := omega) only [cL_eq, aL]
    have e3 : ((cD d : Nat) : Int) + 1 = ((cD (d + 1) : Nat) : Int) := by
      have : cD (d + 1) = cD d + 1 := by
        unfold cD; rw [s1, s2]; omega
      omega
    have e6 : ((cN d : Nat) : Int) + 1 = ((cN (d + 1) : Nat) : Int) := by
      have : cN (d + 1) = cN d + 1 := by
        unfold cN; rw [s1]; omega
      omega
    rw [e3, e6]
    have key : ∀ w : Int32, w = iZ (((d + 1 + 5) % 7 : Nat) : Int) → gup (gup (gup (gup (almS I d) 58 0 (iZ ((d : Int) + 1))) 58 3 (iZ (cD (d + 1) : Nat))) 58 6 (iZ (cN (d + 1) : Nat))) 58 4 w = almS I (d + 1) := by
      intro w hw
      rw [hw]
      apply almS_of
      · intro k hk
        rcases (show k = 0 ∨ k = 1 ∨ k = 2 ∨ k = 3 ∨ k = 4 ∨ k = 5 ∨ k = 6 ∨ k = 7 by omega) with rfl | rfl | rfl | rfl | rfl | rfl | rfl | rfl <;> simp [gup, alm, almS, s1, s2]
      · intro r k h
        have hne : ∀ j, j < 8 → ¬ (r = 58 ∧ k = j) := fun j hj q => by omega
        unfold gup almS
        simp only [if_neg (hne 0 (by decide)), if_neg (hne 3 (by decide)), if_neg (hne 6 (by decide)), if_neg (hne 4 (by decide))]
        rw [if_neg (by omega)]
    by_cases h6 : (d + 5) % 7 = 6
    · rw [if_pos (by omega), key _ (by rw [show (0 : Int32) = iZ 0 from rfl]; congr 1; omega)]
    · rw [if_neg (by omega), key _ (by congr 1; omega)]
  · rw [if_neg (by omega)]
    by_cases hd1 : d + 1 < 14610
    · rw [if_pos hd1, show ((d : Int) + 1) = ((d + 1 : Nat) : Int) by omega, c_moveTo hd1, almS_almS]
      rfl
    · rw [if_neg hd1]
      unfold fX0_moveTo
      rw [c_isDay (by omega) (by omega), if_neg (by omega)]
      rfl
theorem c_calendarOf {d : Nat} {x : Int32} (hd : d < 14610) : fX3_calendarOf 57 (iZ (d : Int)) x (mkS X I J v) = some (cTell d x, mkS X (almS I d) J v) := by
  obtain ⟨q1, q2, q3, q4, q5, q6, q7, q8, q9, q10, q11⟩ := cGood_all' hd
  unfold fX3_calendarOf
  simp only [bO, o57R, o58, c_moveTo hd, gb2_some]
  simp only [bO, o57R, o58, almS_in (show 3 < 8 by decide), almS_in (show 5 < 8 by decide), almS_in (show 1 < 8 by decide), almS_in (show 2 < 8 by decide), almS_in (show 4 < 8 by decide), almS_in (show 6 < 8 by decide), alm1, alm2, alm3, alm4, alm5, alm6, aR, q7]
  unfold cTell
  rw [show (2000 : Int) + ((cY d : Nat) : Int) = ((2000 + cY d : Nat) : Int) by omega]
  split
  · rfl
  · split
    · rfl
    · split
      · rfl
      · split
        · rfl
        · split
          · rfl
          · split <;> rfl
theorem c_date {z : Int} {x : Int32} (h1 : -2147483648 ≤ z) (h2 : z < 2147483648) : fX11_date 50 (iZ z) x (mkS X I J v) = if 0 ≤ z ∧ z < 14610 then some (cTell z.toNat x, mkS X (almS I z.toNat) J v) else some (-1, mkS X I J v) := by
  unfold fX11_date
  rw [c_isDay h1 h2, gb2_some]
  by_cases hz : 0 ≤ z ∧ z < 14610
  · rw [if_pos hz, if_pos hz, if_neg (by decide)]
    obtain ⟨d, rfl⟩ : ∃ n : Nat, z = (n : Int) := ⟨z.toNat, by omega⟩
    simp only [bO, o50R, o57, Int.toNat_natCast, c_calendarOf (show d < 14610 by omega)]
  · rw [if_neg hz, if_neg hz, if_pos rfl]
end gAlm2
