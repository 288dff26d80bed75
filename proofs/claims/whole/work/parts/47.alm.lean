/-! THE ALMANAC object of the class -/
/-- its fields at a day -/
def alm (d k : Nat) : Int32 := if k = 0 then iZ (d : Int) else if k = 1 then iZ (cY d : Nat) else if k = 2 then iZ (cM d : Nat) else if k = 3 then iZ (cD d : Nat) else if k = 4 then iZ (((d + 5) % 7 : Nat) : Int) else if k = 5 then iZ (cLn (cY d) (cM d) : Nat) else if k = 6 then iZ (cN d : Nat) else iZ ((cF (cY d + 1) - cF (cY d) : Nat) : Int)
def almS (I : Nat → Nat → Int32) (d : Nat) : Nat → Nat → Int32 := fun r k => if r = 58 ∧ k < 8 then alm d k else I r k
theorem almS_out {I : Nat → Nat → Int32} {d r k : Nat} (h : r ≠ 58) : almS I d r k = I r k := if_neg (fun q => h q.1)
theorem almS_in {I : Nat → Nat → Int32} {d k : Nat} (h : k < 8) : almS I d 58 k = alm d k := if_pos ⟨rfl, h⟩
theorem almS_of {I I' : Nat → Nat → Int32} {d : Nat} (h1 : ∀ k, k < 8 → I' 58 k = alm d k) (h2 : ∀ r k, (r ≠ 58 ∨ 8 ≤ k) → I' r k = I r k) : I' = almS I d := by
  funext r k
  unfold almS
  by_cases h : r = 58 ∧ k < 8
  · rw [if_pos h, h.1, h1 k h.2]
  · rw [if_neg h, h2 r k (by omega)]
section gAlm
variable {X : Nat × (Nat → Int32)} {J : Nat → Nat → Int64} {v : Vt}
theorem c_moveL {y b : Nat} {k110 : gH → Option (Unit × gH)} (hy : y < 1000) (hb : b < 100000) : ∀ (m fuel : Nat) (I : Nat → Nat → Int32), m ≤ 11 → m + 1 ≤ fuel → I 58 2 = iZ ((m + 1 : Nat) : Int) → I 58 1 = iZ (y : Int) → I 58 6 = iZ ((b + 1 : Nat) : Int) → gX0_moveTo_L71 k110 58 fuel (mkS X I J v) = k110 (mkS X (gup I 58 2 (iZ (cMo y b m : Nat))) J v) := by
  intro m
  induction m with
  | zero =>
    intro fuel I h1 h2 i2 i1 i6
    obtain ⟨n, rfl⟩ : ∃ n, fuel = n + 1 := ⟨fuel - 1, by omega⟩
    unfold gX0_moveTo_L71
    simp only [bO, o58, i2]
    simp (disch := omega) only [cR_lt]
    rw [if_neg (by omega), gup_id (by rw [i2]; rfl)]
  | succ m ih =>
    intro fuel I h1 h2 i2 i1 i6
    obtain ⟨n, rfl⟩ : ∃ n, fuel = n + 1 := ⟨fuel - 1, by omega⟩
    unfold gX0_moveTo_L71
    have hA := cA_le (y := y) (m := m + 2) (by omega)
    simp only [bO, o58, i2, i1]
    simp (disch := omega) only [cR_lt]
    rw [if_pos (by omega), show ((m + 1 + 1 : Nat) : Int) = ((m + 2 : Nat) : Int) from rfl, c_daysAhead hy (by omega) (by omega), gb2_some]
    simp only [bO, o58, i2, i6]
    simp (disch := omega) only [iZ_lt]
    by_cases h : cA y (m + 2) ≤ b
    · rw [if_pos (by omega), gup_id]
      rw [i2]
      show _ = iZ ((if cA y (m + 2) ≤ b then m + 2 else cMo y b m : Nat) : Int)
      rw [if_pos h]
    · rw [if_neg (by omega)]
      rw [show (iZ ((m + 1 + 1 : Nat) : Int) - 1) = iZ ((m + 1 : Nat) : Int) by rw [show (1 : Int32) = iZ 1 from rfl, iZ_sub]; congr 1; omega]
      rw [ih n (gup I 58 2 (iZ ((m + 1 : Nat) : Int))) (by omega) (by omega) (by rw [gup_s]) (by rw [gup_k (by decide), i1]) (by rw [gup_k (by decide), i6]), gup_gup]
      have e : cMo y b (m + 1) = cMo y b m := by
        show (if cA y (m + 2) ≤ b then m + 2 else cMo y b m) = _
        rw [if_neg h]
      rw [e]
theorem c_moveTo {d : Nat} {I : Nat → Nat → Int32} (hd : d < 14610) : fX0_moveTo 58 (iZ (d : Int)) (mkS X I J v) = some ((), mkS X (almS I d) J v) := by
  obtain ⟨q1, q2, q3, q4, q5, q6, q7, q8, q9, q10, q11⟩ := cGood_all' hd
  have hln := cLn_facts (cY d) q1 (cM d) (by omega) q2
  unfold fX0_moveTo
  rw [c_isDay (by omega) (by omega), if_pos (by omega : (0 : Int) ≤ (d : Int) ∧ (d : Int) < 14610), gb2_some, if_neg (by decide)]
  simp only [bO, o58, c_weekdayOf (show d < 20000 by omega), c_yearOf (show d < 20000 by omega)]
  simp only [gup_s, gup_k (show (1 : Nat) ≠ 6 by decide), gup_k (show (1 : Nat) ≠ 7 by decide)]
  rw [c_firstOfYear (by omega)]
  simp only [bO, o58, gup_s, gup_k (show (1 : Nat) ≠ 6 by decide)]
  rw [show (iZ (cY d : Nat) + 1) = iZ ((cY d + 1 : Nat) : Int) by rw [show (1 : Int32) = iZ 1 from rfl, iZ_add]; rfl, c_firstOfYear (by omega)]
  simp only [bO, o58, gup_s, gup_k (show (1 : Nat) ≠ 6 by decide)]
  rw [c_firstOfYear (by omega)]
  simp only [bO, o58]
  have e6 : iZ (d : Int) - iZ (cF (cY d) : Nat) + 1 = iZ (((d - cF (cY d)) + 1 : Nat) : Int) := by
    rw [iZ_sub, show (1 : Int32) = iZ 1 from rfl, iZ_add]; congr 1; omega
  have e7 : iZ (cF (cY d + 1) : Nat) - iZ (cF (cY d) : Nat) = iZ ((cF (cY d + 1) - cF (cY d) : Nat) : Int) := by
    rw [iZ_sub]; congr 1; omega
  rw [e6, e7, c_moveL (y := cY d) (b := d - cF (cY d)) (by omega) (by omega) 11 20000 _ (by decide) (by decide) (by rw [gup_s]; rfl) (by simp [gup]) (by simp [gup])]
  simp only [bO, o58]
  rw [show cMo (cY d) (d - cF (cY d)) 11 = cM d from rfl]
  simp only [show ∀ (I : Nat → Nat → Int32) (x y z w u : Int32), gup (gup (gup (gup (gup I 58 1 x) 58 6 y) 58 7 z) 58 2 w) 58 2 u 58 6 = y from fun I x y z w u => by simp [gup], show ∀ (I : Nat → Nat → Int32) (x y z w u : Int32), gup (gup (gup (gup (gup I 58 1 x) 58 6 y) 58 7 z) 58 2 w) 58 2 u 58 1 = x from fun I x y z w u => by simp [gup], gup_s]
  rw [c_daysAhead (by omega) q2 (by omega)]
  simp only [bO, o58]
  simp only [show ∀ (I : Nat → Nat → Int32) (x y z w u t : Int32), gup (gup (gup (gup (gup (gup I 58 1 x) 58 6 y) 58 7 z) 58 2 w) 58 2 u) 58 3 t 58 2 = u from fun I x y z w u t => by simp [gup], show ∀ (I : Nat → Nat → Int32) (x y z w u t : Int32), gup (gup (gup (gup (gup (gup I 58 1 x) 58 6 y) 58 7 z) 58 2 w) 58 2 u) 58 3 t 58 1 = x from fun I x y z w u t => by simp [gup]]
  rw [show (iZ (cM d : Nat) + 1) = iZ ((cM d + 1 : Nat) : Int) by rw [show (1 : Int32) = iZ 1 from rfl, iZ_add]; rfl, c_daysAhead (by omega) (by omega) (by omega)]
  simp only [bO, o58]
  simp only [show ∀ (I : Nat → Nat → Int32) (x y z w u t : Int32), gup (gup (gup (gup (gup (gup I 58 1 x) 58 6 y) 58 7 z) 58 2 w) 58 2 u) 58 3 t 58 2 = u from fun I x y z w u t => by simp [gup], show ∀ (I : Nat → Nat → Int32) (x y z w u t : Int32), gup (gup (gup (gup (gup (gup I 58 1 x) 58 6 y) 58 7 z) 58 2 w) 58 2 u) 58 3 t 58 1 = x from fun I x y z w u t => by simp [gup]]
  rw [c_daysAhead (by omega) q2 (by omega)]
  simp only [bO, o58]
  congr 3
  have e3 : iZ ((d - cF (cY d) + 1 : Nat) : Int) - iZ (cA (cY d) (cM d) : Nat) = iZ (cD d : Nat) := by
    rw [iZ_sub]; unfold cD; congr 1; omega
  have e5 : iZ (cA (cY d) (cM d + 1) : Nat) - iZ (cA (cY d) (cM d) : Nat) = iZ (cLn (cY d) (cM d) : Nat) := by
    rw [iZ_sub]; unfold cLn; congr 1; omega
  rw [e3, e5]
  apply almS_of
  · intro k hk
    rcases (show k = 0 ∨ k = 1 ∨ k = 2 ∨ k = 3 ∨ k = 4 ∨ k = 5 ∨ k = 6 ∨ k = 7 by omega) with rfl | rfl | rfl | rfl | rfl | rfl | rfl | rfl <;> simp [gup, alm, cN]
  · intro r k h
    have hne : ∀ j, j < 8 → ¬ (r = 58 ∧ k = j) := fun j hj q => by omega
    unfold gup
    simp only [if_neg (hne 0 (by decide)), if_neg (hne 1 (by decide)), if_neg (hne 2 (by decide)), if_neg (hne 3 (by decide)), if_neg (hne 4 (by decide)), if_neg (hne 5 (by decide)), if_neg (hne 6 (by decide)), if_neg (hne 7 (by decide))]
end gAlm
