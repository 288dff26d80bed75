/-! THE CALENDAR: the reference's rows of days -/
section gCl
variable {X : Nat × (Nat → Int32)} {J : Nat → Nat → Int64} {v : Vt}
theorem m_longMonth {y m : Nat} {s : gH} (hy : y < 100) (hm : m < 100) : fX12_longMonth (iZ ((2000 + y : Nat) : Int)) (iZ (m : Int)) s = some (iZ (cLm y m : Nat), s) := by
  unfold fX12_longMonth cLm fX12_isLeap gX12_isLeap
  have e : gIrem (iZ ((2000 + y : Nat) : Int)) 4 = iZ ((y % 4 : Nat) : Int) := by
    rw [show (4 : Int32) = iZ 4 from rfl, iZ_rem (by omega) (by omega) (by omega) (by omega), tmod_nn (by omega)]
    congr 1
    omega
  rw [e]
  simp (disch := omega) only [cL_eq]
  by_cases h2 : m = 2
  · rw [if_pos (by omega), if_pos h2]
    by_cases h4 : y % 4 = 0
    · rw [if_pos (by omega), if_pos h4]
      rfl
    · rw [if_neg (by omega), if_neg h4]
      rfl
  · rw [if_neg (by omega), if_neg h2]
    by_cases g4 : m = 4
    · rw [if_pos (by omega), if_pos (by omega)]; rfl
    · rw [if_neg (by omega)]
      by_cases g6 : m = 6
      · rw [if_pos (by omega), if_pos (by omega)]; rfl
      · rw [if_neg (by omega)]
        by_cases g9 : m = 9
        · rw [if_pos (by omega), if_pos (by omega)]; rfl
        · rw [if_neg (by omega)]
          by_cases g11 : m = 11
          · rw [if_pos (by omega), if_pos (by omega)]; rfl
          · rw [if_neg (by omega), if_neg (by omega)]; rfl
/-- the four rows, laid from day k on -/
def calF (I : Nat → Nat → Int32) (k m : Nat) : Nat → Nat → Int32 := gfill (gfill (gfill (gfill I 271 k m (fun j => iZ ((2000 + cY (j + k) : Nat) : Int))) 272 k m (fun j => iZ (cM (j + k) : Nat))) 273 k m (fun j => iZ (cD (j + k) : Nat))) 274 k m (fun j => iZ (cN (j + k) : Nat))
theorem gup_comm {α : Type} {I : Nat → Nat → α} {r r' k k' : Nat} {x y : α} (h : r ≠ r') : gup (gup I r k x) r' k' y = gup (gup I r' k' y) r k x := by
  funext a j
  unfold gup
  by_cases h1 : a = r ∧ j = k
  · have h2 : ¬ (a = r' ∧ j = k') := fun q => h (h1.1.symm.trans q.1)
    rw [if_pos h1, if_neg h2, if_pos h1]
  · rw [if_neg h1, if_neg h1]
theorem calF_step (I : Nat → Nat → Int32) (k m : Nat) : calF (gup (gup (gup (gup I 271 k (iZ ((2000 + cY k : Nat) : Int))) 272 k (iZ (cM k : Nat))) 273 k (iZ (cD k : Nat))) 274 k (iZ (cN k : Nat))) (k + 1) m = calF I k (m + 1) := by
  have e1 : ∀ (f : Nat → Int32), (fun j => f (j + (k + 1))) = fun j => (fun i => f (i + k)) (j + 1) := fun f => by funext j; show f _ = f _; congr 1; omega
  unfold calF
  rw [e1 (fun i => iZ ((2000 + cY i : Nat) : Int)), e1 (fun i => iZ (cM i : Nat)), e1 (fun i => iZ (cD i : Nat)), e1 (fun i => iZ (cN i : Nat))]
  rw [gfill_gup (r' := 274) (r := 271) (by decide), gfill_gup (r' := 273) (r := 271) (by decide), gfill_gup (r' := 272) (r := 271) (by decide), gfill_step (f := fun i => iZ ((2000 + cY (i + k) : Nat) : Int)) (by simp)]
  rw [gfill_gup (r' := 274) (r := 272) (by decide), gfill_gup (r' := 273) (r := 272) (by decide), gfill_step (f := fun i => iZ (cM (i + k) : Nat)) (by simp)]
  rw [gfill_gup (r' := 274) (r := 273) (by decide), gfill_step (f := fun i => iZ (cD (i + k) : Nat)) (by simp)]
  rw [gfill_step (f := fun i => iZ (cN (i + k) : Nat)) (by simp)]
theorem cStep_of {k : Nat} (h : k < 14610) : cY (k + 1) = (if 12 < (if cLm (cY k) (cM k) < cD k + 1 then cM k + 1 else cM k) then cY k + 1 else cY k) ∧ cM (k + 1) = (if 12 < (if cLm (cY k) (cM k) < cD k + 1 then cM k + 1 else cM k) then 1 else (if cLm (cY k) (cM k) < cD k + 1 then cM k + 1 else cM k)) ∧ cD (k + 1) = (if cLm (cY k) (cM k) < cD k + 1 then 1 else cD k + 1) ∧ cN (k + 1) = (if 12 < (if cLm (cY k) (cM k) < cD k + 1 then cM k + 1 else cM k) then 1 else cN k + 1) := by
  have := cStep_all k h
  unfold cStep at this
  simpa only [Bool.and_eq_true, beq_iff_eq, and_assoc] using this
theorem m_laysL : ∀ (fuel k : Nat) (I : Nat → Nat → Int32), k ≤ 14610 → 14610 - k < fuel →
    gX12_laysDays_L27 267 fuel (iZ ((2000 + cY k : Nat) : Int)) (iZ (cM k : Nat)) (iZ (cD k : Nat)) (iZ (cN k : Nat)) (iZ (k : Int)) (mkS X I J v) = some ((), mkS X (calF I k (14610 - k)) J v) := by
  intro fuel
  induction fuel with
  | zero => intro k I h1 h2; omega
  | succ n ih =>
    intro k I h1 h2
    unfold gX12_laysDays_L27
    simp (disch := omega) only [cL_lt]
    by_cases hk : k < 14610
    · obtain ⟨q1, q2, q3, q4, q5, q6, q7, q8, q9, q10, q11⟩ := cGood_all' hk
      obtain ⟨s1, s2, s3, s4⟩ := cStep_of hk
      have hlm : cLm (cY k) (cM k) ≤ 31 := by unfold cLm; split; split <;> omega; split <;> omega
      have hN : cN k ≤ 14610 := by unfold cN; omega
      rw [if_pos (by omega)]
      simp only [bO, o267R, b271 _ _ _ _ k _ hk, b272 _ _ _ _ k _ hk, b273 _ _ _ _ k _ hk, b274 _ _ _ _ k _ hk, show ∀ x, gnar 2 x = x from fun _ => rfl, m_longMonth (y := cY k) (m := cM k) (by omega) (by omega)]
      simp (disch := omega) only [aL, iZ_lt]
      have hst := calF_step I k (14610 - (k + 1))
      rw [show 14610 - (k + 1) + 1 = 14610 - k by omega] at hst
      by_cases c1 : cLm (cY k) (cM k) < cD k + 1
      · rw [if_pos (by omega)]
        simp (disch := omega) only [cR_lt]
        rw [if_pos c1] at s1 s2 s3 s4
        by_cases c2 : 12 < cM k + 1
        · rw [if_pos c2] at s1 s2 s4
          rw [if_pos (by omega)]
          have := ih (k + 1) (gup (gup (gup (gup I 271 k (iZ ((2000 + cY k : Nat) : Int))) 272 k (iZ (cM k : Nat))) 273 k (iZ (cD k : Nat))) 274 k (iZ (cN k : Nat))) (by omega) (by omega)
          rw [s1, s2, s3, s4, hst] at this
          rw [← this]
          congr 1
        · rw [if_neg c2] at s1 s2 s4
          rw [if_neg (by omega)]
          have := ih (k + 1) (gup (gup (gup (gup I 271 k (iZ ((2000 + cY k : Nat) : Int))) 272 k (iZ (cM k : Nat))) 273 k (iZ (cD k : Nat))) 274 k (iZ (cN k : Nat))) (by omega) (by omega)
          rw [s1, s2, s3, s4, hst] at this
          rw [← this]
          congr 1
      · rw [if_neg (by omega)]
        simp (disch := omega) only [cR_lt]
        rw [if_neg c1] at s1 s2 s3 s4
        rw [if_neg (by omega)] at s1 s2 s4
        rw [if_neg (by omega)]
        have := ih (k + 1) (gup (gup (gup (gup I 271 k (iZ ((2000 + cY k : Nat) : Int))) 272 k (iZ (cM k : Nat))) 273 k (iZ (cD k : Nat))) 274 k (iZ (cN k : Nat))) (by omega) (by omega)
        rw [s1, s2, s3, s4, hst] at this
        rw [← this]
        congr 1
    · have hk : k = 14610 := by omega
      subst hk
      rw [if_neg (by omega), show 14610 - 14610 = 0 from rfl]
      unfold calF
      simp only [gfill_0]
/-- the rows of days, when they are laid -/
def calOK (I : Nat → Nat → Int32) : Prop := ∀ k, k < 14610 → I 271 k = iZ ((2000 + cY k : Nat) : Int) ∧ I 272 k = iZ (cM k : Nat) ∧ I 273 k = iZ (cD k : Nat) ∧ I 274 k = iZ (cN k : Nat)
theorem calF_ok (I : Nat → Nat → Int32) : calOK (calF I 0 14610) := by
  intro k hk
  unfold calF
  refine ⟨?_, ?_, ?_, ?_⟩
  · rw [gfill_out (by omega), gfill_out (by omega), gfill_out (by omega), gfill_in (by omega) (by omega)]; rfl
  · rw [gfill_out (by omega), gfill_out (by omega), gfill_in (by omega) (by omega)]; rfl
  · rw [gfill_out (by omega), gfill_in (by omega) (by omega)]; rfl
  · rw [gfill_in (by omega) (by omega)]; rfl
theorem calF_out (I : Nat → Nat → Int32) (r k : Nat) (h : r < 271 ∨ 274 < r) : calF I 0 14610 r k = I r k := by
  unfold calF
  rw [gfill_out (by omega), gfill_out (by omega), gfill_out (by omega), gfill_out (by omega)]
theorem m_lays1 {I : Nat → Nat → Int32} (h : I 267 17 = 1) : fX12_laysDays 267 (mkS X I J v) = some ((), mkS X I J v) := by
  unfold fX12_laysDays
  simp only [bO, o267, h]
  rfl
theorem m_lays0 {I : Nat → Nat → Int32} (h : I 267 17 = 0) : fX12_laysDays 267 (mkS X I J v) = some ((), mkS X (calF (gup I 267 17 1) 0 14610) J v) := by
  unfold fX12_laysDays
  simp only [bO, o267, h]
  rw [if_pos trivial]
  have := m_laysL (X := X) (J := J) (v := v) 20000 0 (gup I 267 17 1) (by decide) (by decide)
  exact this
end gCl
