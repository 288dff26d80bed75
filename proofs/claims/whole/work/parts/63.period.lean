/-! PERIODS -/
def rPer (u d : Nat) : Nat := if u = 0 then d else if u = 1 then (d + 5) / 7 else if u = 2 then 12 * cY d + cM d - 1 else cY d
def pFst (u p : Nat) : Nat := if u = 0 then p else if u = 1 then 7 * p - 5 else if u = 2 then cF (p / 12) + cA (p / 12) (p % 12 + 1) else cF p
theorem cAh_mono : ∀ m, m < 12 → 1 ≤ m → cAh m ≤ cAh (m + 1) := by decide +kernel
theorem cA_mono {y m : Nat} (h1 : 1 ≤ m) (h2 : m < 12) : cA y m ≤ cA y (m + 1) := by
  have := cAh_mono m h2 h1
  unfold cA
  by_cases h : 2 < m ∧ y % 4 = 0
  · rw [if_pos h, if_pos (by omega)]; omega
  · rw [if_neg h]; omega
theorem cAh_12 : cAh 12 = 334 := rfl
theorem cAh_13 : cAh 13 = 365 := rfl
theorem cAh_1 : cAh 1 = 0 := rfl
theorem pFst_step (u p : Nat) : pFst u p ≤ pFst u (p + 1) := by
  unfold pFst
  by_cases u0 : u = 0
  · rw [if_pos u0, if_pos u0]; omega
  · rw [if_neg u0, if_neg u0]
    by_cases u1 : u = 1
    · rw [if_pos u1, if_pos u1]; omega
    · rw [if_neg u1, if_neg u1]
      by_cases u2 : u = 2
      · rw [if_pos u2, if_pos u2]
        by_cases h : p % 12 = 11
        · rw [show (p + 1) / 12 = p / 12 + 1 by omega, show (p + 1) % 12 = 0 by omega, h]
          unfold cA cF
          rw [show 11 + 1 = 12 from rfl, cAh_12, cAh_1]
          split <;> split <;> omega
        · rw [show (p + 1) / 12 = p / 12 by omega, show (p + 1) % 12 = p % 12 + 1 by omega]
          have := cA_mono (y := p / 12) (m := p % 12 + 1) (by omega) (by omega)
          omega
      · rw [if_neg u2, if_neg u2]
        unfold cF; omega
theorem pFst_mono {u p p' : Nat} (h : p ≤ p') : pFst u p ≤ pFst u p' := by
  obtain ⟨m, rfl⟩ : ∃ m, p' = p + m := ⟨p' - p, by omega⟩
  clear h
  induction m with
  | zero => exact Nat.le_refl _
  | succ m ih => exact Nat.le_trans ih (pFst_step u (p + m))
theorem rPer_in {u d : Nat} (hd : d < 14610) : pFst u (rPer u d) ≤ d ∧ d < pFst u (rPer u d + 1) := by
  obtain ⟨q1, q2, q3, q4, q5, q6, q7, q8, q9, q10, q11⟩ := cGood_all' hd
  unfold pFst rPer
  by_cases u0 : u = 0
  · simp only [if_pos u0]; omega
  · simp only [if_neg u0]
    by_cases u1 : u = 1
    · simp only [if_pos u1]; omega
    · simp only [if_neg u1]
      by_cases u2 : u = 2
      · simp only [if_pos u2]
        have e1 : (12 * cY d + cM d - 1) / 12 = cY d := by omega
        have e2 : (12 * cY d + cM d - 1) % 12 + 1 = cM d := by omega
        rw [e1, e2]
        constructor
        · omega
        · unfold cLn at q5
          by_cases h : cM d = 12
          · rw [show (12 * cY d + cM d - 1 + 1) / 12 = cY d + 1 by omega]
            rw [show (12 * cY d + cM d - 1 + 1) % 12 + 1 = 1 by omega]
            rw [show cA (cY d + 1) 1 = 0 from by unfold cA; rw [cAh_1, if_neg (by omega)]]
            omega
          · rw [show (12 * cY d + cM d - 1 + 1) / 12 = cY d by omega]
            rw [show (12 * cY d + cM d - 1 + 1) % 12 + 1 = cM d + 1 by omega]
            omega
      · simp only [if_neg u2]; omega
theorem rPer_eq {u d p : Nat} (hd : d < 14610) (h1 : pFst u p ≤ d) (h2 : d < pFst u (p + 1)) : rPer u d = p := by
  obtain ⟨a, b⟩ := rPer_in (u := u) hd
  rcases Nat.lt_trichotomy (rPer u d) p with h | h | h
  · have := pFst_mono (u := u) (show rPer u d + 1 ≤ p from h)
    omega
  · exact h
  · have := pFst_mono (u := u) (show p + 1 ≤ rPer u d from h)
    omega
theorem rPer_mono {u d e : Nat} (h : d ≤ e) (he : e < 14610) : rPer u d ≤ rPer u e := by
  obtain ⟨a, b⟩ := rPer_in (u := u) (d := d) (by omega)
  obtain ⟨a', b'⟩ := rPer_in (u := u) he
  apply Classical.byContradiction
  intro q
  have := pFst_mono (u := u) (show rPer u e + 1 ≤ rPer u d by omega)
  omega
theorem rPer_le {u d : Nat} (hd : d < 14610) : rPer u d ≤ 14609 ∧ (u = 1 → rPer u d ≤ 2087) ∧ (u = 2 → rPer u d ≤ 479) ∧ (2 < u → rPer u d ≤ 39) := by
  obtain ⟨q1, q2, q3, q4, q5, q6, q7, q8, q9, q10, q11⟩ := cGood_all' hd
  unfold rPer
  by_cases u0 : u = 0
  · simp only [if_pos u0]; omega
  · simp only [if_neg u0]
    by_cases u1 : u = 1
    · simp only [if_pos u1]; omega
    · simp only [if_neg u1]
      by_cases u2 : u = 2
      · simp only [if_pos u2]; omega
      · simp only [if_neg u2]; omega
/-- the periods that may be asked for -/
def pOK (u p : Nat) : Prop := p ≤ 14800 ∧ (u = 2 → p ≤ 700) ∧ (2 < u → p ≤ 200)
theorem pOK_of {u d n : Nat} (hd : d < 14610) (hn : n ≤ 110) : pOK u (rPer u d + n) := by
  obtain ⟨a, b, c, e⟩ := rPer_le (u := u) hd
  exact ⟨by omega, fun h => by have := c h; omega, fun h => by have := e h; omega⟩
theorem pOK_dn {u p p' : Nat} (h : pOK u p) (hp : p' ≤ p) : pOK u p' := ⟨by have := h.1; omega, fun q => by have := h.2.1 q; omega, fun q => by have := h.2.2 q; omega⟩
theorem pFst_le {u p : Nat} (hu : u < 4) (h : pOK u p) : pFst u p ≤ 200000 := by
  obtain ⟨a, b, c⟩ := h
  unfold pFst
  split
  · omega
  · split
    · omega
    · split
      · next u2 =>
        have := cA_le (y := p / 12) (m := p % 12 + 1) (by omega)
        have := b u2
        unfold cF; omega
      · unfold cF
        have := c (by omega)
        omega
theorem c_periodOf {u d : Nat} {s : gH} (hu : u < 4) (hd : d < 14610) : fX0_periodOf (iZ (u : Int)) (iZ (d : Int)) s = some (iZ (rPer u d : Nat), s) := by
  obtain ⟨q1, q2, q3, q4, q5, q6, q7, q8, q9, q10, q11⟩ := cGood_all' hd
  unfold fX0_periodOf rPer
  simp only [c_yearOf (show d < 20000 by omega), c_monthOf hd, gb2_some, aL, pL, iZ_add, sL]
  rw [show (7 : Int32) = iZ 7 from rfl, iZ_div (by omega) (by omega) (by decide) (by decide), tdiv_nn (by omega)]
  simp (disch := omega) only [cL_eq]
  rcases (show u = 0 ∨ u = 1 ∨ u = 2 ∨ u = 3 by omega) with rfl | rfl | rfl | rfl
  · rfl
  · show some (iZ (((d : Int) + 5) / 7), s) = some (iZ (((d + 5) / 7 : Nat) : Int), s)
    congr 2
  · show some (iZ (((cY d : Nat) : Int) * 12 + (cM d : Nat) - 1), s) = some (iZ ((12 * cY d + cM d - 1 : Nat) : Int), s)
    congr 3
    omega
  · rfl
theorem c_firstOfPeriod {u p : Nat} {s : gH} (hu : u < 4) (hp : pOK u p) : fX0_firstOfPeriod (iZ (u : Int)) (iZ (p : Int)) s = some (iZ (pFst u p : Nat), s) := by
  obtain ⟨a, b, c⟩ := hp
  unfold fX0_firstOfPeriod pFst
  simp only [pL, sL]
  rw [show (0 : Int32) = iZ 0 from rfl, gmax_Z (by decide) (by decide) (by omega) (by omega)]
  rw [show (12 : Int32) = iZ 12 from rfl, iZ_div (by omega) (by omega) (by decide) (by decide), iZ_rem (by omega) (by omega) (by decide) (by decide), tdiv_nn (by omega), tmod_nn (by omega)]
  simp only [aL]
  rcases (show u = 0 ∨ u = 1 ∨ u = 2 ∨ u = 3 by omega) with rfl | rfl | rfl | rfl
  · rfl
  · show some (iZ (max 0 ((p : Int) * 7 - 5)), s) = some (iZ ((7 * p - 5 : Nat) : Int), s)
    congr 3
    omega
  · show (gb2 (fX0_firstOfMonth (iZ ((p : Int) / 12)) (iZ ((p : Int) % 12 + 1)) s) fun r3 s4 => some (r3, s4)) = some (iZ ((cF (p / 12) + cA (p / 12) (p % 12 + 1) : Nat) : Int), s)
    have := b rfl
    rw [show (p : Int) / 12 = ((p / 12 : Nat) : Int) by omega, show (p : Int) % 12 + 1 = ((p % 12 + 1 : Nat) : Int) by omega, c_firstOfMonth (by omega) (by omega) (by omega)]
    rfl
  · show (gb2 (fX0_firstOfYear (iZ (p : Int)) s) fun r6 s7 => some (r6, s7)) = some (iZ ((cF p : Nat) : Int), s)
    rw [c_firstOfYear (by have := c (by decide); omega)]
    rfl
