/-! WHETHER A RULE COUNTS A DAY: the object's answer -/
def tf (b : Bool) : Int32 := if b = true then 1 else 0
theorem tf_t : tf true = 1 := rfl
theorem tf_f : tf false = 0 := rfl
theorem tf_0 {b : Bool} : tf b = 0 ↔ b = false := by cases b <;> decide
theorem gzr_tf {b : Bool} {s : gH} : gzr (some (tf b, s)) = some (tf b, s) := by cases b <;> rfl
theorem tf_ite {b : Bool} {s : gH} : (if tf b = 0 then some ((0 : Int32), s) else some (1, s)) = some (tf b, s) := by cases b <;> rfl
section gCnt
variable {X : Nat × (Nat → Int32)} {I : Nat → Nat → Int32} {J : Nat → Nat → Int64} {v : Vt} {q d : Nat} {R : RuL}
theorem On_bits (hI : cRl I q R) (ok : RuLok R) (hd : d < 14610) : R.On d = (ib (I q 9) (cD d) || ib (I q 10) (cLn (cY d) (cM d) + 1 - cD d)) := by
  obtain ⟨q1, q2, q3, q4, q5, q6, q7, q8, q9, q10, q11⟩ := cGood_all' hd
  have hln := cLn_facts (cY d) q1 (cM d) (by omega) q2
  apply Bool.eq_iff_iff.mpr
  unfold RuL.On
  rw [exF_iff, Bool.or_eq_true, hI.dt _ q4 (by omega), hI.db _ (by omega) (by omega)]
  constructor
  · rintro ⟨j, a, b, c⟩
    have hj := ok.onF j (by omega)
    by_cases h : 0 < R.onF j
    · rw [if_pos h, beq_iff_eq] at c
      exact Or.inl ⟨j, by omega, c.symm⟩
    · rw [if_neg h, beq_iff_eq] at c
      exact Or.inr ⟨j, by omega, by omega⟩
  · rintro (⟨j, a, b⟩ | ⟨j, a, b⟩)
    · refine ⟨j, by omega, by omega, ?_⟩
      rw [if_pos (by omega), beq_iff_eq]; omega
    · refine ⟨j, by omega, by omega, ?_⟩
      rw [if_neg (by omega), beq_iff_eq]; omega
theorem By_bits (hI : cRl I q R) : R.By d = ib (I q 11) ((d + 5) % 7) := by
  apply Bool.eq_iff_iff.mpr
  unfold RuL.By
  rw [exF_iff, hI.wd _ (by omega)]
  constructor
  · rintro ⟨j, a, b, c⟩
    exact ⟨j, by omega, by simpa using c⟩
  · rintro ⟨j, a, b⟩
    exact ⟨j, by omega, by omega, by simpa using b⟩
theorem c_dateTold (hq : isRule q) (hI : cRl I q R) (ok : RuLok R) (hd : d < 14610) (hA : ∀ k, k < 8 → I 58 k = alm d k) : fX8_dateTold q 58 (mkS X I J v) = some (tf (R.onN == 0 || R.On d), mkS X I J v) := by
  obtain ⟨q1, q2, q3, q4, q5, q6, q7, q8, q9, q10, q11⟩ := cGood_all' hd
  have hln := cLn_facts (cY d) q1 (cM d) (by omega) q2
  have hon := ok.onN
  unfold fX8_dateTold gX8_dateTold
  simp only [bO, o58, rl_i hq, hI.onN, hA 3 (by decide), hA 5 (by decide), alm3, alm5]
  simp (disch := omega) only [cL_eq, aL, iZ_sub]
  by_cases h : R.onN = 0
  · rw [if_pos (by omega), h]; rfl
  · rw [if_neg (by omega)]
    have e : ((cLn (cY d) (cM d) : Nat) : Int) + 1 - (cD d : Nat) = ((cLn (cY d) (cM d) + 1 - cD d : Nat) : Int) := by omega
    rw [e]
    simp (disch := omega) only [ib_shr]
    rw [On_bits hI ok hd, show (R.onN == 0) = false from by simpa using h]
    cases ib (I q 9) (cD d) <;> cases ib (I q 10) (cLn (cY d) (cM d) + 1 - cD d) <;> rfl
theorem c_weekdayTold (hq : isRule q) (hI : cRl I q R) (ok : RuLok R) (hA : ∀ k, k < 8 → I 58 k = alm d k) : fX8_weekdayTold q 58 (mkS X I J v) = some (tf (R.byN == 0 || R.By d), mkS X I J v) := by
  have hby := ok.byN
  unfold fX8_weekdayTold gX8_weekdayTold
  simp only [bO, o58, rl_i hq, rl_by hq, row_i (rl_row1 hq), hI.byN, hA 4 (by decide), alm4]
  simp (disch := omega) only [cL_eq, ib_shr]
  by_cases h : R.byN = 0
  · rw [if_pos (by omega), h]; rfl
  · rw [if_neg (by omega), By_bits hI, show (R.byN == 0) = false from by simpa using h]
    cases ib (I q 11) ((d + 5) % 7) <;> rfl
theorem c_placeL {w : Nat} {f b : Int} (hq : isRule q) (hI : cRl I q R) (ok : RuLok R) (hw : w < 7) (f1 : 0 ≤ f) (f2 : f < 1000) (b1 : 0 ≤ b) (b2 : b < 1000) : ∀ (m j fuel : Nat), j + m = R.byN → m < fuel → gX8_placeTold_L23 q (iZ (w : Int)) (iZ f) (iZ b) fuel (iZ (j : Int)) (mkS X I J v) = some (tf (exF (fun k => R.byW k == w && (R.byP k == 0 || R.byP k == f || R.byP k == -b)) j m), mkS X I J v) := by
  have hby := ok.byN
  have hcap := (rule_all hq).2.1
  intro m
  induction m with
  | zero =>
    intro j fuel hj hf
    obtain ⟨n, rfl⟩ : ∃ n, fuel = n + 1 := ⟨fuel - 1, by omega⟩
    unfold gX8_placeTold_L23
    simp only [bO, rl_by hq, row_i (rl_row1 hq), hI.byN]
    simp (disch := omega) only [iZ_lt]
    rw [if_neg (by omega)]
    rfl
  | succ m ih =>
    intro j fuel hj hf
    obtain ⟨n, rfl⟩ : ∃ n, fuel = n + 1 := ⟨fuel - 1, by omega⟩
    have hp := ok.byP j (by omega)
    have hwj := ok.byW j (by omega)
    have e3 : (8 * R.byP j + (R.byW j : Int)) / 2 ^ 3 = R.byP j := by
      rw [show ((2 : Int) ^ 3) = 8 from rfl]; omega
    have e7 : (8 * R.byP j + (R.byW j : Int)) % 2 ^ 3 = R.byW j := by
      rw [show ((2 : Int) ^ 3) = 8 from rfl]; omega
    unfold gX8_placeTold_L23
    simp only [bO, rl_by hq, row_i (rl_row1 hq), row_R (rl_row1 hq), row_n (rl_row1 hq), hI.byN, hcap]
    simp (disch := omega) only [iZ_lt]
    rw [if_pos (by omega), if_pos (by omega), row_g (rl_row1 hq) I J (by omega)]
    simp only [bO]
    rw [show q + 1 + 1 = q + 2 from rfl, hI.byF j (by omega), show ((3 : Int32) &&& 31) = (iZ ((3 : Nat) : Int) &&& 31) from rfl, iZ_shr (by decide) (by omega) (by omega), e3]
    rw [show (7 : Int32) = iZ ((2 : Int) ^ 3 - 1) from rfl, iZ_mask _ 3 (by decide), e7]
    have e1 : iZ (j : Int) + 1 = iZ ((j + 1 : Nat) : Int) := by rw [aL]; rfl
    rw [e1, ih (j + 1) n (by omega) (by omega)]
    simp (disch := omega) only [iZ_eq, cL_eq, iZ_neg]
    show _ = some (tf ((R.byW j == w && (R.byP j == 0 || R.byP j == f || R.byP j == -b)) || exF _ (j + 1) m), _)
    by_cases h1 : R.byW j = w
    · rw [if_pos (by omega), show (R.byW j == w) = true from by simpa using h1]
      by_cases h2 : R.byP j = 0
      · rw [if_pos h2, show (R.byP j == 0) = true from by simpa using h2]; rfl
      · rw [if_neg h2, show (R.byP j == 0) = false from by simpa using h2]
        by_cases h3 : R.byP j = f
        · rw [if_pos h3, show (R.byP j == f) = true from by simpa using h3]; rfl
        · rw [if_neg h3, show (R.byP j == f) = false from by simpa using h3]
          by_cases h4 : R.byP j = -b
          · rw [if_pos h4, show (R.byP j == -b) = true from by simpa using h4]; rfl
          · rw [if_neg h4, show (R.byP j == -b) = false from by simpa using h4]; rfl
    · rw [if_neg (by omega), show (R.byW j == w) = false from by simpa using h1]; rfl
theorem c_placeTold {n len : Nat} (hq : isRule q) (hI : cRl I q R) (ok : RuLok R) (h1 : 1 ≤ n) (h2 : n ≤ len) (h3 : len ≤ 366) : fX8_placeTold q (iZ (((d + 5) % 7 : Nat) : Int)) (iZ (n : Int)) (iZ (len : Int)) (mkS X I J v) = some (tf (R.Pl d n len), mkS X I J v) := by
  have hby := ok.byN
  unfold fX8_placeTold gX8_placeTold
  simp only [bO, sL, iZ_sub]
  rw [show (7 : Int32) = iZ 7 from rfl, iZ_div (by omega) (by omega) (by decide) (by decide), iZ_div (by omega) (by omega) (by decide) (by decide), tdiv_nn (by omega), tdiv_nn (by omega)]
  simp only [aL]
  have e1 : ((n : Int) - 1) / 7 + 1 = (((n - 1) / 7 + 1 : Nat) : Int) := by omega
  have e2 : ((len : Int) - n) / 7 + 1 = (((len - n) / 7 + 1 : Nat) : Int) := by omega
  rw [show (0 : Int32) = iZ ((0 : Nat) : Int) from rfl, c_placeL hq hI ok (by omega) (by omega) (by omega) (by omega) (by omega) R.byN 0 20000 (by omega) (by omega), gzr_tf]
  unfold RuL.Pl
  rw [e1, e2]
theorem c_inMonth (hq : isRule q) (hI : cRl I q R) (ok : RuLok R) (hd : d < 14610) (hA : ∀ k, k < 8 → I 58 k = alm d k) : fX8_countsInMonth q 58 (mkS X I J v) = some (tf (R.Mo d), mkS X I J v) := by
  obtain ⟨q1, q2, q3, q4, q5, q6, q7, q8, q9, q10, q11⟩ := cGood_all' hd
  obtain ⟨p1, p2, p3, p4, p5, p6, p7, p8, p9, p10, p11⟩ := cGood_all' ok.b
  have hln := cLn_facts (cY d) q1 (cM d) (by omega) q2
  have hln2 := cLn_facts (cY R.b) p1 (cM R.b) (by omega) p2
  have hon := ok.onN
  have hby := ok.byN
  unfold fX8_countsInMonth gX8_countsInMonth
  simp only [rl_c hq, c_dateTold hq hI ok hd hA, c_weekdayTold hq hI ok hA]
  simp only [bO, o58, rl_i hq, rl_by hq, row_i (rl_row1 hq), hI.byN, hI.onN, hI.bd, hA 3 (by decide), hA 4 (by decide), hA 5 (by decide), alm3, alm4, alm5]
  rw [c_placeTold hq hI ok q4 q5 (by omega)]
  simp (disch := omega) only [cR_lt, iZ_eq]
  simp only [gb2_some, rl_c hq, tf_0, c_weekdayTold hq hI ok hA]
  unfold RuL.Mo
  by_cases h : 0 < R.onN
  · rw [if_pos (by omega), if_pos h, show (R.onN == 0) = false from by simp; omega]
    cases R.On d <;> cases (R.byN == 0 || R.By d) <;> rfl
  · rw [if_neg (by omega), if_neg h]
    by_cases h2 : 0 < R.byN
    · rw [if_pos (by omega), if_pos h2, ← q7, gzr_tf]
    · rw [if_neg (by omega), if_neg h2]
      by_cases h3 : cD d = cD R.b
      · rw [if_pos (by omega), show (cD d == cD R.b) = true from by simpa using h3]; rfl
      · rw [if_neg (by omega), show (cD d == cD R.b) = false from by simpa using h3]; rfl
theorem c_inYear (hq : isRule q) (hI : cRl I q R) (ok : RuLok R) (hd : d < 14610) (hA : ∀ k, k < 8 → I 58 k = alm d k) : fX8_countsInYear q 58 (mkS X I J v) = some (tf (if 0 < R.byN then R.Pl d (cN d) (if cY d % 4 = 0 then 366 else 365) else cM d == cM R.b && cD d == cD R.b), mkS X I J v) := by
  obtain ⟨q1, q2, q3, q4, q5, q6, q7, q8, q9, q10, q11⟩ := cGood_all' hd
  obtain ⟨p1, p2, p3, p4, p5, p6, p7, p8, p9, p10, p11⟩ := cGood_all' ok.b
  have hln := cLn_facts (cY d) q1 (cM d) (by omega) q2
  have hln2 := cLn_facts (cY R.b) p1 (cM R.b) (by omega) p2
  have hby := ok.byN
  have e : cF (cY d + 1) - cF (cY d) = (if cY d % 4 = 0 then 366 else 365) := by unfold cF; split <;> omega
  have hN : 1 ≤ cN d ∧ cN d ≤ cF (cY d + 1) - cF (cY d) := by unfold cN; omega
  have hl : cF (cY d + 1) - cF (cY d) ≤ 366 := by rw [e]; split <;> omega
  unfold fX8_countsInYear gX8_countsInYear
  simp only [bO, o58, rl_c hq, rl_i hq, rl_by hq, row_i (rl_row1 hq), hI.byN, hI.bd, hI.bm, hA 2 (by decide), hA 3 (by decide), hA 4 (by decide), hA 6 (by decide), hA 7 (by decide), alm2, alm3, alm4, alm6, alm7]
  rw [c_placeTold hq hI ok hN.1 hN.2 hl, e]
  simp (disch := omega) only [cR_lt, iZ_eq]
  simp only [gb2_some]
  by_cases h2 : 0 < R.byN
  · rw [if_pos (by omega), if_pos h2, gzr_tf]
  · rw [if_neg (by omega), if_neg h2]
    by_cases h3 : cM d = cM R.b
    · rw [if_pos (by omega), show (cM d == cM R.b) = true from by simpa using h3]
      by_cases h4 : cD d = cD R.b
      · rw [if_pos (by omega), show (cD d == cD R.b) = true from by simpa using h4]; rfl
      · rw [if_neg (by omega), show (cD d == cD R.b) = false from by simpa using h4]; rfl
    · rw [if_neg (by omega), show (cM d == cM R.b) = false from by simpa using h3]; rfl
theorem c_counts (hq : isRule q) (hI : cRl I q R) (ok : RuLok R) (hd : d < 14610) (hA : ∀ k, k < 8 → I 58 k = alm d k) : fX8_counts q 58 (mkS X I J v) = some (tf (R.Of d), mkS X I J v) := by
  obtain ⟨q1, q2, q3, q4, q5, q6, q7, q8, q9, q10, q11⟩ := cGood_all' hd
  have hon := ok.onN
  have hby := ok.byN
  have hu := ok.u
  unfold fX8_counts gX8_counts
  simp only [bO, o58, rl_i hq, rl_by hq, row_i (rl_row1 hq), hI.byN, hI.onN, hI.u, hI.mk, hI.bw, hA 2 (by decide), hA 4 (by decide), alm2, alm4]
  simp (disch := omega) only [cR_lt, cL_eq, iZ_eq, ib_shr]
  simp only [gb2_some, rl_c hq, c_dateTold hq hI ok hd hA, c_inMonth hq hI ok hd hA, c_inYear hq hI ok hd hA, tf_0, c_weekdayTold hq hI ok hA, bO, o58, rl_i hq, rl_by hq, row_i (rl_row1 hq), hI.byN, hI.bw, hA 4 (by decide), alm4]
  simp (disch := omega) only [cR_lt, cL_eq, iZ_eq]
  have key : ∀ o : Option (Int32 × gH), o = some (tf (R.Of d), mkS X I J v) → gzr o = some (tf (R.Of d), mkS X I J v) := by
    rintro o rfl
    exact gzr_tf
  apply key
  have main : R.In d = true → ∀ o : Option (Int32 × gH), o = (if (R.u : Int) = 0 then
        if (R.onN == 0 || R.On d) = false then some ((0 : Int32), mkS X I J v) else if (R.byN == 0 || R.By d) = false then some (0, mkS X I J v) else some (1, mkS X I J v)
      else if (R.u : Int) = 1 then
        if (R.onN == 0 || R.On d) = false then some (0, mkS X I J v) else if (0 : Int) < (R.byN : Int) then (if (R.byN == 0 || R.By d) = false then some (0, mkS X I J v) else some (1, mkS X I J v)) else if (((d + 5) % 7 : Nat) : Int) = (((R.b + 5) % 7 : Nat) : Int) then some (1, mkS X I J v) else some (0, mkS X I J v)
      else if (R.u : Int) = 2 then some (tf (R.Mo d), mkS X I J v)
      else if R.mk = 0 then if (0 : Int) < (R.onN : Int) then some (tf (R.Mo d), mkS X I J v) else some (tf (if 0 < R.byN then R.Pl d (cN d) (if cY d % 4 = 0 then 366 else 365) else cM d == cM R.b && cD d == cD R.b), mkS X I J v) else some (tf (R.Mo d), mkS X I J v)) → o = some (tf (R.Of d), mkS X I J v) := by
    intro hin o ho
    rw [ho]
    unfold RuL.Of RuL.Yr
    rw [hin]
    by_cases u0 : R.u = 0
    · rw [if_pos (by omega), if_pos u0]
      cases (R.onN == 0 || R.On d) <;> cases (R.byN == 0 || R.By d) <;> rfl
    · rw [if_neg (by omega), if_neg u0]
      by_cases u1 : R.u = 1
      · rw [if_pos (by omega), if_pos u1]
        by_cases h : 0 < R.byN
        · rw [if_pos (show (0 : Int) < (R.byN : Int) by omega), if_pos h, show (R.byN == 0) = false from by simp; omega]
          cases (R.onN == 0 || R.On d) <;> cases R.By d <;> rfl
        · rw [if_neg (show ¬ (0 : Int) < (R.byN : Int) by omega), if_neg h]
          by_cases h3 : (d + 5) % 7 = (R.b + 5) % 7
          · rw [if_pos (show (((d + 5) % 7 : Nat) : Int) = (((R.b + 5) % 7 : Nat) : Int) by omega), show ((d + 5) % 7 == (R.b + 5) % 7) = true from by simpa using h3]
            cases (R.onN == 0 || R.On d) <;> rfl
          · rw [if_neg (show ¬ (((d + 5) % 7 : Nat) : Int) = (((R.b + 5) % 7 : Nat) : Int) by omega), show ((d + 5) % 7 == (R.b + 5) % 7) = false from by simpa using h3]
            cases (R.onN == 0 || R.On d) <;> rfl
      · rw [if_neg (by omega), if_neg u1]
        by_cases u2 : R.u = 2
        · rw [if_pos (by omega), if_pos u2]
          rfl
        · rw [if_neg (by omega), if_neg u2]
          by_cases hm : R.mk = 0
          · rw [if_pos hm]
            by_cases h : 0 < R.onN
            · rw [if_pos (by omega), if_pos (Or.inr h)]; rfl
            · rw [if_neg (show ¬ (0 : Int) < (R.onN : Int) by omega), if_neg (show ¬ (R.mk ≠ 0 ∨ 0 < R.onN) from fun q => q.elim (fun a => a hm) h)]
          · rw [if_neg hm, if_pos (Or.inl hm)]; rfl
  have hin0 : R.mk ≠ 0 → ib R.mk (cM d) = false → R.Of d = false := by
    intro h1 h2
    have : R.In d = false := by
      unfold RuL.In
      rw [h2, show (R.mk == 0) = false from by simpa using h1]; rfl
    unfold RuL.Of RuL.Yr
    rw [this, if_pos (Or.inl h1)]
    split
    · rfl
    · split
      · rfl
      · split <;> rfl
  by_cases hm : R.mk = 0
  · rw [if_pos hm]
    exact main (by unfold RuL.In; rw [hm]; rfl) _ rfl
  · rw [if_neg hm]
    by_cases hb : ib R.mk (cM d) = false
    · rw [if_pos hb, hin0 hm hb]; rfl
    · rw [if_neg hb]
      exact main (by unfold RuL.In; simp at hb; rw [hb]; simp) _ rfl
end gCnt
