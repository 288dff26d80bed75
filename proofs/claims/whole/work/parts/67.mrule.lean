/-! THE REFERENCE's rules -/
def mRl (I : Nat → Nat → Int32) (r : Nat) (R : RuL) : Prop := I 276 (2 + 42 * r + 2) = iZ (R.u : Int) ∧ I 281 (2 * r + 1) = iZ (R.b : Int) ∧ I 276 (2 + 42 * r + 4) = R.mk ∧ I 276 (2 + 42 * r + 5) = iZ (R.onN : Int) ∧ (∀ k, k < R.onN → I 276 (2 + 42 * r + (6 + k)) = iZ (R.onF k)) ∧ I 276 (2 + 42 * r + 14) = iZ (R.byN : Int) ∧ (∀ k, k < R.byN → I 276 (2 + 42 * r + (15 + 2 * k)) = iZ (R.byP k)) ∧ (∀ k, k < R.byN → I 276 (2 + 42 * r + (15 + 2 * k + 1)) = iZ (R.byW k : Nat)) ∧ I 276 (2 + 42 * r + 31) = iZ (R.atN : Int) ∧ (∀ k, k < R.atN → I 276 (2 + 42 * r + (32 + k)) = iZ (R.atF k)) ∧ I 276 (2 + 42 * r + 40) = iZ R.un ∧ I 276 (2 + 42 * r + 41) = iZ R.ct
section gMr
variable {X : Nat × (Nat → Int32)} {I : Nat → Nat → Int32} {J : Nat → Nat → Int64} {v : Vt} {r d : Nat} {R : RuL}
theorem m_c (I : Nat → Nat → Int32) (J : Nat → Nat → Int64) {β : Type} (o : Option β) : gcv (mkS X I J v) 267 12 o = o := gcv_mk k_267
theorem m_ruleAt {w : Nat} {s : gH} : fX12_ruleAt (iZ (r : Int)) (iZ (w : Int)) s = some (iZ ((2 + 42 * r + w : Nat) : Int), s) := by
  unfold fX12_ruleAt
  rw [pR, aR, iZ_add]
  congr 2
theorem m_ruleHas {w : Nat} (hr : r < 6) (hw : w < 42) : fX12_ruleHas 267 (iZ (r : Int)) (iZ (w : Int)) (mkS X I J v) = some (I 276 (2 + 42 * r + w), mkS X I J v) := by
  unfold fX12_ruleHas
  simp only [bO, o267R, m_ruleAt, a276 _ _ _ _ _ (show 2 + 42 * r + w < 272 by omega)]
theorem m_h2 (hr : r < 6) (h : mRl I r R) : fX12_ruleHas 267 (iZ (r : Int)) 2 (mkS X I J v) = some (iZ (R.u : Int), mkS X I J v) := by
  rw [show (2 : Int32) = iZ ((2 : Nat) : Int) from rfl, m_ruleHas hr (by decide), h.1]
theorem m_h4 (hr : r < 6) (h : mRl I r R) : fX12_ruleHas 267 (iZ (r : Int)) 4 (mkS X I J v) = some (R.mk, mkS X I J v) := by
  rw [show (4 : Int32) = iZ ((4 : Nat) : Int) from rfl, m_ruleHas hr (by decide), h.2.2.1]
theorem m_h5 (hr : r < 6) (h : mRl I r R) : fX12_ruleHas 267 (iZ (r : Int)) 5 (mkS X I J v) = some (iZ (R.onN : Int), mkS X I J v) := by
  rw [show (5 : Int32) = iZ ((5 : Nat) : Int) from rfl, m_ruleHas hr (by decide), h.2.2.2.1]
theorem m_h6 {k : Nat} (hr : r < 6) (h : mRl I r R) (ok : RuLok R) (hk : k < R.onN) : fX12_ruleHas 267 (iZ (r : Int)) (6 + iZ (k : Int)) (mkS X I J v) = some (iZ (R.onF k), mkS X I J v) := by
  have := ok.onN
  rw [show (6 : Int32) = iZ ((6 : Nat) : Int) from rfl, iZ_add, show ((6 : Nat) : Int) + (k : Int) = ((6 + k : Nat) : Int) by omega, m_ruleHas hr (by omega), h.2.2.2.2.1 k hk]
theorem m_h14 (hr : r < 6) (h : mRl I r R) : fX12_ruleHas 267 (iZ (r : Int)) 14 (mkS X I J v) = some (iZ (R.byN : Int), mkS X I J v) := by
  rw [show (14 : Int32) = iZ ((14 : Nat) : Int) from rfl, m_ruleHas hr (by decide), h.2.2.2.2.2.1]
theorem m_h15 {k : Nat} (hr : r < 6) (h : mRl I r R) (ok : RuLok R) (hk : k < R.byN) : fX12_ruleHas 267 (iZ (r : Int)) (15 + 2 * iZ (k : Int)) (mkS X I J v) = some (iZ (R.byP k), mkS X I J v) := by
  have := ok.byN
  rw [pR, aR, show (15 : Int) + 2 * (k : Int) = ((15 + 2 * k : Nat) : Int) by omega, m_ruleHas hr (by omega), h.2.2.2.2.2.2.1 k hk]
theorem m_h16 {k : Nat} (hr : r < 6) (h : mRl I r R) (ok : RuLok R) (hk : k < R.byN) : fX12_ruleHas 267 (iZ (r : Int)) (15 + 2 * iZ (k : Int) + 1) (mkS X I J v) = some (iZ (R.byW k : Nat), mkS X I J v) := by
  have := ok.byN
  rw [pR, aR, aL, show (15 : Int) + 2 * (k : Int) + 1 = ((15 + 2 * k + 1 : Nat) : Int) by omega, m_ruleHas hr (by omega), h.2.2.2.2.2.2.2.1 k hk]
theorem m_h31 (hr : r < 6) (h : mRl I r R) : fX12_ruleHas 267 (iZ (r : Int)) 31 (mkS X I J v) = some (iZ (R.atN : Int), mkS X I J v) := by
  rw [show (31 : Int32) = iZ ((31 : Nat) : Int) from rfl, m_ruleHas hr (by decide), h.2.2.2.2.2.2.2.2.1]
theorem m_h32 {k : Nat} (hr : r < 6) (h : mRl I r R) (ok : RuLok R) (hk : k < R.atN) : fX12_ruleHas 267 (iZ (r : Int)) (32 + iZ (k : Int)) (mkS X I J v) = some (iZ (R.atF k), mkS X I J v) := by
  have := ok.atN
  rw [aR, show (32 : Int) + (k : Int) = ((32 + k : Nat) : Int) by omega, m_ruleHas hr (by omega), h.2.2.2.2.2.2.2.2.2.1 k hk]
theorem m_h40 (hr : r < 6) (h : mRl I r R) : fX12_ruleHas 267 (iZ (r : Int)) 40 (mkS X I J v) = some (iZ R.un, mkS X I J v) := by
  rw [show (40 : Int32) = iZ ((40 : Nat) : Int) from rfl, m_ruleHas hr (by decide), h.2.2.2.2.2.2.2.2.2.2.1]
theorem m_h41 (hr : r < 6) (h : mRl I r R) : fX12_ruleHas 267 (iZ (r : Int)) 41 (mkS X I J v) = some (iZ R.ct, mkS X I J v) := by
  rw [show (41 : Int32) = iZ ((41 : Nat) : Int) from rfl, m_ruleHas hr (by decide), h.2.2.2.2.2.2.2.2.2.2.2]
theorem m_fromOf (hr : r < 6) (h : mRl I r R) : fX12_fromOf 267 (iZ (r : Int)) (mkS X I J v) = some (iZ (R.b : Int), mkS X I J v) := by
  unfold fX12_fromOf
  rw [pR, aL, show (2 : Int) * (r : Int) + 1 = ((2 * r + 1 : Nat) : Int) by omega]
  simp only [bO, o267R, a281 _ _ _ _ _ (show 2 * r + 1 < 264 by omega), h.2.1]
theorem m_yr (hc : calOK I) (hd : d < 14610) : gaI (mkS X I J v) 271 2 (iZ (d : Int)) = some (iZ ((2000 + cY d : Nat) : Int)) := by rw [a271 _ _ _ _ _ hd, (hc d hd).1]
theorem m_mo (hc : calOK I) (hd : d < 14610) : gaI (mkS X I J v) 272 2 (iZ (d : Int)) = some (iZ (cM d : Nat)) := by rw [a272 _ _ _ _ _ hd, (hc d hd).2.1]
theorem m_da (hc : calOK I) (hd : d < 14610) : gaI (mkS X I J v) 273 2 (iZ (d : Int)) = some (iZ (cD d : Nat)) := by rw [a273 _ _ _ _ _ hd, (hc d hd).2.2.1]
theorem m_iy (hc : calOK I) (hd : d < 14610) : gaI (mkS X I J v) 274 2 (iZ (d : Int)) = some (iZ (cN d : Nat)) := by rw [a274 _ _ _ _ _ hd, (hc d hd).2.2.2]
theorem m_periodOf (hr : r < 6) (h : mRl I r R) (ok : RuLok R) (hc : calOK I) (hd : d < 14610) : fX12_periodOf 267 (iZ (r : Int)) (iZ (d : Int)) (mkS X I J v) = some (iZ (rPer R.u d : Nat), mkS X I J v) := by
  obtain ⟨q1, q2, q3, q4, q5, q6, q7, q8, q9, q10, q11⟩ := cGood_all' hd
  have hu := ok.u
  unfold fX12_periodOf rPer
  simp only [m_c, m_h2 hr h, bO, o267R, m_yr hc hd, m_mo hc hd, aL, sL, pR, iZ_add]
  rw [show (7 : Int32) = iZ 7 from rfl, iZ_div (by omega) (by omega) (by decide) (by decide), tdiv_nn (by omega)]
  generalize R.u = u at hu
  rcases (show u = 0 ∨ u = 1 ∨ u = 2 ∨ u = 3 by omega) with rfl | rfl | rfl | rfl
  · rfl
  · show some (iZ (((d : Int) + 5) / 7), _) = some (iZ (((d + 5) / 7 : Nat) : Int), _)
    congr 2
  · show some (iZ (12 * (((2000 + cY d : Nat) : Int) - 2000) + (cM d : Nat) - 1), _) = some (iZ ((12 * cY d + cM d - 1 : Nat) : Int), _)
    congr 3
    omega
  · show some (iZ (((2000 + cY d : Nat) : Int) - 2000), _) = some (iZ (cY d : Nat), _)
    congr 3
    omega
theorem m_datedL (hr : r < 6) (h : mRl I r R) (ok : RuLok R) (hc : calOK I) (hd : d < 14610) : ∀ (m j fuel : Nat), j + m = R.onN → m < fuel → gX12_isDated_L2 267 (iZ (r : Int)) (iZ (d : Int)) fuel (iZ (j : Int)) (mkS X I J v) = some (tf (exF (fun k => if 0 < R.onF k then ((cD d : Nat) : Int) == R.onF k else ((cD d : Nat) : Int) == (cLm (cY d) (cM d) : Nat) + 1 + R.onF k) j m), mkS X I J v) := by
  obtain ⟨q1, q2, q3, q4, q5, q6, q7, q8, q9, q10, q11⟩ := cGood_all' hd
  have hln := cLn_facts (cY d) q1 (cM d) (by omega) q2
  have hon := ok.onN
  intro m
  induction m with
  | zero =>
    intro j fuel hj hf
    obtain ⟨n, rfl⟩ : ∃ n, fuel = n + 1 := ⟨fuel - 1, by omega⟩
    unfold gX12_isDated_L2
    simp only [bO, m_c, m_h5 hr h]
    rw [if_neg (by rw [iZ_lt (by omega) (by omega) (by omega) (by omega)]; omega)]
    rfl
  | succ m ih =>
    intro j fuel hj hf
    obtain ⟨n, rfl⟩ : ∃ n, fuel = n + 1 := ⟨fuel - 1, by omega⟩
    have hp := ok.onF j (by omega)
    unfold gX12_isDated_L2
    simp only [bO, m_c, m_h5 hr h]
    rw [if_pos (by rw [iZ_lt (by omega) (by omega) (by omega) (by omega)]; omega), m_h6 hr h ok (by omega)]
    simp only [bO, m_c, o267R, m_da hc hd, m_longMonthOf hc hd, aL, iZ_add]
    have e1 : (j : Int) + 1 = ((j + 1 : Nat) : Int) := by omega
    rw [e1, ih (j + 1) n (by omega) (by omega)]
    simp (disch := omega) only [iZ_eq, cR_lt]
    show _ = some (tf ((if 0 < R.onF j then ((cD d : Nat) : Int) == R.onF j else ((cD d : Nat) : Int) == (cLm (cY d) (cM d) : Nat) + 1 + R.onF j) || exF _ (j + 1) m), _)
    by_cases h1 : 0 < R.onF j
    · rw [if_pos h1, if_pos h1]
      by_cases h2 : ((cD d : Nat) : Int) = R.onF j
      · rw [if_pos h2, show (((cD d : Nat) : Int) == R.onF j) = true from by simpa using h2]; rfl
      · rw [if_neg h2, show (((cD d : Nat) : Int) == R.onF j) = false from by simpa using h2]; rfl
    · rw [if_neg h1, if_neg h1]
      by_cases h2 : ((cD d : Nat) : Int) = (cLm (cY d) (cM d) : Nat) + 1 + R.onF j
      · rw [if_pos h2, show (((cD d : Nat) : Int) == (cLm (cY d) (cM d) : Nat) + 1 + R.onF j) = true from by simpa using h2]; rfl
      · rw [if_neg h2, show (((cD d : Nat) : Int) == (cLm (cY d) (cM d) : Nat) + 1 + R.onF j) = false from by simpa using h2]; rfl
theorem m_isDated (hr : r < 6) (h : mRl I r R) (ok : RuLok R) (hc : calOK I) (hd : d < 14610) : fX12_isDated 267 (iZ (r : Int)) (iZ (d : Int)) (mkS X I J v) = some (tf (R.On d), mkS X I J v) := by
  have hon := ok.onN
  unfold fX12_isDated gX12_isDated
  rw [show (0 : Int32) = iZ ((0 : Nat) : Int) from rfl, m_datedL hr h ok hc hd R.onN 0 20000 (by omega) (by omega), gzr_tf]
  rfl
theorem m_weekdayL (hr : r < 6) (h : mRl I r R) (ok : RuLok R) (hd : d < 14610) : ∀ (m j fuel : Nat), j + m = R.byN → m < fuel → gX12_isWeekday_L2 267 (iZ (r : Int)) (iZ (d : Int)) fuel (iZ (j : Int)) (mkS X I J v) = some (tf (exF (fun k => R.byW k == (d + 5) % 7) j m), mkS X I J v) := by
  have hon := ok.byN
  intro m
  induction m with
  | zero =>
    intro j fuel hj hf
    obtain ⟨n, rfl⟩ : ∃ n, fuel = n + 1 := ⟨fuel - 1, by omega⟩
    unfold gX12_isWeekday_L2
    simp only [bO, m_c, m_h14 hr h]
    rw [if_neg (by rw [iZ_lt (by omega) (by omega) (by omega) (by omega)]; omega)]
    rfl
  | succ m ih =>
    intro j fuel hj hf
    obtain ⟨n, rfl⟩ : ∃ n, fuel = n + 1 := ⟨fuel - 1, by omega⟩
    have hp := ok.byW j (by omega)
    unfold gX12_isWeekday_L2
    simp only [bO, m_c, m_h14 hr h]
    rw [if_pos (by rw [iZ_lt (by omega) (by omega) (by omega) (by omega)]; omega), m_h16 hr h ok (by omega)]
    simp only [bO, m_c, m_weekdayOf (show d < 20000 by omega), aL]
    have e1 : (j : Int) + 1 = ((j + 1 : Nat) : Int) := by omega
    rw [e1, ih (j + 1) n (by omega) (by omega)]
    simp (disch := omega) only [iZ_eq]
    show _ = some (tf ((R.byW j == (d + 5) % 7) || exF _ (j + 1) m), _)
    by_cases h2 : R.byW j = (d + 5) % 7
    · rw [if_pos (by omega), show (R.byW j == (d + 5) % 7) = true from by simpa using h2]; rfl
    · rw [if_neg (by omega), show (R.byW j == (d + 5) % 7) = false from by simpa using h2]; rfl
theorem m_isWeekday (hr : r < 6) (h : mRl I r R) (ok : RuLok R) (hd : d < 14610) : fX12_isWeekday 267 (iZ (r : Int)) (iZ (d : Int)) (mkS X I J v) = some (tf (R.By d), mkS X I J v) := by
  have hon := ok.byN
  unfold fX12_isWeekday gX12_isWeekday
  rw [show (0 : Int32) = iZ ((0 : Nat) : Int) from rfl, m_weekdayL hr h ok hd R.byN 0 20000 (by omega) (by omega), gzr_tf]
  rfl
theorem m_placedL {f b : Int} (hr : r < 6) (h : mRl I r R) (ok : RuLok R) (hd : d < 14610) (f1 : 0 ≤ f) (f2 : f < 1000) (b1 : 0 ≤ b) (b2 : b < 1000) : ∀ (m j fuel : Nat), j + m = R.byN → m < fuel → gX12_isPlaced_L25 267 (iZ (r : Int)) (iZ (d : Int)) (iZ f) (iZ (-b)) fuel (iZ (j : Int)) (mkS X I J v) = some (tf (exF (fun k => R.byW k == (d + 5) % 7 && (R.byP k == 0 || R.byP k == f || R.byP k == -b)) j m), mkS X I J v) := by
  have hon := ok.byN
  intro m
  induction m with
  | zero =>
    intro j fuel hj hf
    obtain ⟨n, rfl⟩ : ∃ n, fuel = n + 1 := ⟨fuel - 1, by omega⟩
    unfold gX12_isPlaced_L25
    simp only [bO, m_c, m_h14 hr h]
    rw [if_neg (by rw [iZ_lt (by omega) (by omega) (by omega) (by omega)]; omega)]
    rfl
  | succ m ih =>
    intro j fuel hj hf
    obtain ⟨n, rfl⟩ : ∃ n, fuel = n + 1 := ⟨fuel - 1, by omega⟩
    have hw := ok.byW j (by omega)
    have hp := ok.byP j (by omega)
    unfold gX12_isPlaced_L25
    simp only [bO, m_c, m_h14 hr h]
    rw [if_pos (by rw [iZ_lt (by omega) (by omega) (by omega) (by omega)]; omega), m_h15 hr h ok (by omega)]
    simp only [bO, m_c]
    rw [m_h16 hr h ok (by omega)]
    simp only [bO, m_c, m_weekdayOf (show d < 20000 by omega), aL]
    have e1 : (j : Int) + 1 = ((j + 1 : Nat) : Int) := by omega
    rw [e1, ih (j + 1) n (by omega) (by omega)]
    simp (disch := omega) only [iZ_eq, cL_eq]
    show _ = some (tf ((R.byW j == (d + 5) % 7 && (R.byP j == 0 || R.byP j == f || R.byP j == -b)) || exF _ (j + 1) m), _)
    by_cases h1 : R.byW j = (d + 5) % 7
    · rw [if_pos (by omega), show (R.byW j == (d + 5) % 7) = true from by simpa using h1]
      by_cases h2 : R.byP j = 0
      · rw [if_pos h2, show (R.byP j == 0) = true from by simpa using h2]; rfl
      · rw [if_neg h2, show (R.byP j == 0) = false from by simpa using h2]
        by_cases h3 : R.byP j = f
        · rw [if_pos h3, show (R.byP j == f) = true from by simpa using h3]; rfl
        · rw [if_neg h3, show (R.byP j == f) = false from by simpa using h3]
          by_cases h4 : R.byP j = -b
          · rw [if_pos h4, show (R.byP j == -b) = true from by simpa using h4]; rfl
          · rw [if_neg h4, show (R.byP j == -b) = false from by simpa using h4]; rfl
    · rw [if_neg (by omega), show (R.byW j == (d + 5) % 7) = false from by simpa using h1]; rfl
theorem m_isPlaced {n len : Nat} (hr : r < 6) (h : mRl I r R) (ok : RuLok R) (hd : d < 14610) (h1 : 1 ≤ n) (h2 : n ≤ len) (h3 : len ≤ 366) : fX12_isPlaced 267 (iZ (r : Int)) (iZ (d : Int)) (iZ (n : Int)) (iZ (len : Int)) (mkS X I J v) = some (tf (R.Pl d n len), mkS X I J v) := by
  have hby := ok.byN
  unfold fX12_isPlaced gX12_isPlaced
  simp only [bO, sL, iZ_sub]
  rw [show (7 : Int32) = iZ 7 from rfl, iZ_div (by omega) (by omega) (by decide) (by decide), iZ_div (by omega) (by omega) (by decide) (by decide), tdiv_nn (by omega), tdiv_nn (by omega)]
  simp only [aL, iZ_neg]
  have e1 : ((n : Int) - 1) / 7 + 1 = (((n - 1) / 7 + 1 : Nat) : Int) := by omega
  have e2 : ((len : Int) - n) / 7 + 1 = (((len - n) / 7 + 1 : Nat) : Int) := by omega
  rw [show (0 : Int32) = iZ ((0 : Nat) : Int) from rfl, m_placedL hr h ok hd (by omega) (by omega) (by omega) (by omega) R.byN 0 20000 (by omega) (by omega), gzr_tf]
  unfold RuL.Pl
  rw [e1, e2]
theorem m_hasIn (hr : r < 6) (h : mRl I r R) : fX12_hasIn 267 (iZ (r : Int)) (mkS X I J v) = some (tf (R.mk != 0), mkS X I J v) := by
  unfold fX12_hasIn gX12_hasIn
  simp only [bO, m_c, m_h4 hr h]
  by_cases q : R.mk = 0
  · rw [if_pos q, show (R.mk != 0) = false from by simpa using q]; rfl
  · rw [if_neg q, show (R.mk != 0) = true from by simpa using q]; rfl
theorem m_hasOn (hr : r < 6) (h : mRl I r R) (ok : RuLok R) : fX12_hasOn 267 (iZ (r : Int)) (mkS X I J v) = some (tf (decide (0 < R.onN)), mkS X I J v) := by
  have := ok.onN
  unfold fX12_hasOn gX12_hasOn
  simp only [bO, m_c, m_h5 hr h]
  simp (disch := omega) only [cR_lt]
  by_cases q : 0 < R.onN
  · rw [if_pos (by omega), decide_eq_true q]; rfl
  · rw [if_neg (by omega), decide_eq_false q]; rfl
theorem m_hasBy (hr : r < 6) (h : mRl I r R) (ok : RuLok R) : fX12_hasBy 267 (iZ (r : Int)) (mkS X I J v) = some (tf (decide (0 < R.byN)), mkS X I J v) := by
  have := ok.byN
  unfold fX12_hasBy gX12_hasBy
  simp only [bO, m_c, m_h14 hr h]
  simp (disch := omega) only [cR_lt]
  by_cases q : 0 < R.byN
  · rw [if_pos (by omega), decide_eq_true q]; rfl
  · rw [if_neg (by omega), decide_eq_false q]; rfl
theorem ib_1 {x : Int32} {k : Nat} (hk : k < 32) : (x >>> (iZ (k : Int) &&& 31)) &&& 1 = 1 ↔ ib x k = true := by
  have e := ib_shr (x := x) hk
  have e0 : ∀ y : Int32, y &&& 1 = 0 ∨ y &&& 1 = 1 := by
    intro y
    have h : ib (y &&& 1) 0 = ib y 0 := by
      unfold ib
      rw [Int32.toBitVec_and, BitVec.getLsbD_and]
      simp
    have e1 : ∀ i, i < 32 → i ≠ 0 → ib (y &&& 1) i = false := by
      intro i hi h0
      unfold ib
      rw [Int32.toBitVec_and, BitVec.getLsbD_and]
      have e1 : ∀ i, i < 32 → i ≠ 0 → (1 : Int32).toBitVec.getLsbD i = false := by decide +kernel
      rw [e1 i hi h0, Bool.and_false]
    cases hb : ib y 0
    · left
      apply Int32.toBitVec_inj.mp
      apply BitVec.eq_of_getLsbD_eq
      intro i hi
      by_cases h0 : i = 0
      · subst h0
        show ib (y &&& 1) 0 = _
        rw [h, hb]; rfl
      · show ib (y &&& 1) i = _
        rw [e1 i hi h0]
        have e2 : ∀ i, i < 32 → (0 : Int32).toBitVec.getLsbD i = false := by decide +kernel
        rw [e2 i hi]
    · right
      apply Int32.toBitVec_inj.mp
      apply BitVec.eq_of_getLsbD_eq
      intro i hi
      by_cases h0 : i = 0
      · subst h0
        show ib (y &&& 1) 0 = _
        rw [h, hb]; rfl
      · show ib (y &&& 1) i = _
        rw [e1 i hi h0]
        have e2 : ∀ i, i < 32 → i ≠ 0 → (1 : Int32).toBitVec.getLsbD i = false := by decide +kernel
        rw [e2 i hi h0]
  constructor
  · intro h
    cases hb : ib x k
    · rw [e.mpr hb] at h
      exact absurd h (by decide)
    · rfl
  · intro h
    rcases e0 (x >>> (iZ (k : Int) &&& 31)) with q | q
    · rw [e.mp q] at h; cases h
    · exact q
theorem m_isOf {x : Int32} {k : Nat} {s : gH} (hk : k < 32) : fX12_isOf x (iZ (k : Int)) s = some (tf (ib x k), s) := by
  unfold fX12_isOf gX12_isOf
  simp only [ib_1 hk]
  cases ib x k <;> rfl
theorem m_isInMonths (hr : r < 6) (h : mRl I r R) (hc : calOK I) (hd : d < 14610) : fX12_isInMonths 267 (iZ (r : Int)) (iZ (d : Int)) (mkS X I J v) = some (tf (R.In d), mkS X I J v) := by
  obtain ⟨q1, q2, q3, q4, q5, q6, q7, q8, q9, q10, q11⟩ := cGood_all' hd
  unfold fX12_isInMonths gX12_isInMonths
  simp only [bO, m_c, o267R, m_hasIn hr h, m_h4 hr h, m_mo hc hd, m_isOf (show cM d < 32 by omega), tf_0]
  unfold RuL.In
  by_cases q : R.mk = 0
  · rw [if_pos (by simpa using q), q]; rfl
  · rw [if_neg (by simpa using q), show (R.mk == 0) = false from by simpa using q]
    cases ib R.mk (cM d) <;> rfl
theorem m_dateOfBegin (hr : r < 6) (h : mRl I r R) (ok : RuLok R) (hc : calOK I) (hd : d < 14610) : fX12_isDateOfBegin 267 (iZ (r : Int)) (iZ (d : Int)) (mkS X I J v) = some (tf (cD d == cD R.b), mkS X I J v) := by
  obtain ⟨q1, q2, q3, q4, q5, q6, q7, q8, q9, q10, q11⟩ := cGood_all' hd
  obtain ⟨p1, p2, p3, p4, p5, p6, p7, p8, p9, p10, p11⟩ := cGood_all' ok.b
  have hln := cLn_facts (cY d) q1 (cM d) (by omega) q2
  have hln2 := cLn_facts (cY R.b) p1 (cM R.b) (by omega) p2
  unfold fX12_isDateOfBegin gX12_isDateOfBegin
  simp only [bO, m_c, o267R, m_da hc hd, m_fromOf hr h, m_da hc ok.b]
  simp (disch := omega) only [iZ_eq]
  by_cases q : cD d = cD R.b
  · rw [if_pos (by omega), show (cD d == cD R.b) = true from by simpa using q]; rfl
  · rw [if_neg (by omega), show (cD d == cD R.b) = false from by simpa using q]; rfl
theorem m_isOfMonth (hr : r < 6) (h : mRl I r R) (ok : RuLok R) (hc : calOK I) (hd : d < 14610) : fX12_isOfMonth 267 (iZ (r : Int)) (iZ (d : Int)) (mkS X I J v) = some (tf (R.Mo d), mkS X I J v) := by
  obtain ⟨q1, q2, q3, q4, q5, q6, q7, q8, q9, q10, q11⟩ := cGood_all' hd
  have hln := cLn_facts (cY d) q1 (cM d) (by omega) q2
  unfold fX12_isOfMonth gX12_isOfMonth
  simp only [bO, m_c, o267R, m_hasOn hr h ok, m_hasBy hr h ok, m_dateOfBegin hr h ok hc hd, m_da hc hd, m_longMonthOf hc hd, m_isDated hr h ok hc hd, m_isWeekday hr h ok hd, tf_0]
  rw [m_isPlaced hr h ok hd q4 (by omega) (by omega)]
  simp only [bO]
  unfold RuL.Mo
  by_cases a : 0 < R.onN
  · rw [if_pos a, if_neg (by rw [decide_eq_true a]; decide)]
    cases R.On d
    · rfl
    · rw [if_neg (by decide)]
      by_cases b : 0 < R.byN
      · rw [if_neg (by rw [decide_eq_true b]; decide), show (R.byN == 0) = false from by simp; omega]
        cases R.By d <;> rfl
      · rw [if_pos (by simpa using b), show (R.byN == 0) = true from by simp; omega]; rfl
  · rw [if_neg a, if_pos (by simpa using a)]
    by_cases b : 0 < R.byN
    · rw [if_pos b, if_neg (by rw [decide_eq_true b]; decide), gzr_tf]
    · rw [if_neg b, if_pos (by simpa using b), gzr_tf]
theorem m_isLeap {y : Nat} {s : gH} (hy : y < 1000) : fX12_isLeap (iZ ((2000 + y : Nat) : Int)) s = some (tf (decide (y % 4 = 0)), s) := by
  unfold fX12_isLeap gX12_isLeap
  rw [show (4 : Int32) = iZ 4 from rfl, iZ_rem (by omega) (by omega) (by decide) (by decide), tmod_nn (by omega)]
  simp (disch := omega) only [cL_eq]
  by_cases q : y % 4 = 0
  · rw [if_pos (by omega), decide_eq_true q]; rfl
  · rw [if_neg (by omega), decide_eq_false q]; rfl
theorem m_isOfYear (hr : r < 6) (h : mRl I r R) (ok : RuLok R) (hc : calOK I) (hd : d < 14610) : fX12_isOfYear 267 (iZ (r : Int)) (iZ (d : Int)) (mkS X I J v) = some (tf (R.Yr d), mkS X I J v) := by
  obtain ⟨q1, q2, q3, q4, q5, q6, q7, q8, q9, q10, q11⟩ := cGood_all' hd
  obtain ⟨p1, p2, p3, p4, p5, p6, p7, p8, p9, p10, p11⟩ := cGood_all' ok.b
  have e : cF (cY d + 1) - cF (cY d) = (if cY d % 4 = 0 then 366 else 365) := by unfold cF; split <;> omega
  have hN : 1 ≤ cN d ∧ cN d ≤ cF (cY d + 1) - cF (cY d) := by unfold cN; omega
  unfold fX12_isOfYear gX12_isOfYear
  simp only [bO, m_c, o267R, m_hasIn hr h, m_hasOn hr h ok, m_hasBy hr h ok, m_isInMonths hr h hc hd, m_isOfMonth hr h ok hc hd, m_dateOfBegin hr h ok hc hd, m_fromOf hr h, m_mo hc hd, m_mo hc ok.b, m_iy hc hd, m_yr hc hd, m_isLeap (show cY d < 1000 by omega), tf_0]
  simp (disch := omega) only [iZ_eq]
  unfold RuL.Yr
  have fin : ∀ {b1 b2 : Bool}, gzr (if b1 = false then some ((0 : Int32), mkS X I J v) else if b2 = false then some (0, mkS X I J v) else some (1, mkS X I J v)) = some (tf (b1 && b2), mkS X I J v) := by
    intro b1 b2
    cases b1 <;> cases b2 <;> rfl
  by_cases a : R.mk = 0
  · rw [if_pos (show (R.mk != 0) = false by simpa using a)]
    by_cases b : 0 < R.onN
    · rw [if_neg (show ¬ (decide (0 < R.onN)) = false by rw [decide_eq_true b]; decide), if_pos (Or.inr b)]
      exact fin
    · rw [if_pos (show (decide (0 < R.onN)) = false by simpa using b), if_neg (show ¬ (R.mk ≠ 0 ∨ 0 < R.onN) from fun q => q.elim (fun z => z a) b)]
      by_cases c : 0 < R.byN
      · rw [if_neg (show ¬ (decide (0 < R.byN)) = false by rw [decide_eq_true c]; decide), if_pos c]
        by_cases l : cY d % 4 = 0
        · rw [if_pos l] at e ⊢
          rw [if_neg (show ¬ (decide (cY d % 4 = 0)) = false by simpa using l), show (366 : Int32) = iZ ((366 : Nat) : Int) from rfl, m_isPlaced hr h ok hd hN.1 (by omega) (by decide)]
          exact gzr_tf
        · rw [if_neg l] at e ⊢
          rw [if_pos (show (decide (cY d % 4 = 0)) = false by simpa using l), show (365 : Int32) = iZ ((365 : Nat) : Int) from rfl, m_isPlaced hr h ok hd hN.1 (by omega) (by decide)]
          exact gzr_tf
      · rw [if_pos (show (decide (0 < R.byN)) = false by simpa using c), if_neg c]
        by_cases l : cM d = cM R.b
        · rw [if_pos (by omega), show (cM d == cM R.b) = true from by simpa using l]
          cases (cD d == cD R.b) <;> rfl
        · rw [if_neg (by omega), show (cM d == cM R.b) = false from by simpa using l]; rfl
  · rw [if_neg (show ¬ (R.mk != 0) = false by simpa using a), if_pos (Or.inl a)]
    exact fin
theorem m_isOfPeriod (hr : r < 6) (h : mRl I r R) (ok : RuLok R) (hc : calOK I) (hd : d < 14610) : fX12_isOfPeriod 267 (iZ (r : Int)) (iZ (d : Int)) (mkS X I J v) = some (tf (R.Of d), mkS X I J v) := by
  have hu := ok.u
  have hb := ok.b
  unfold fX12_isOfPeriod gX12_isOfPeriod
  simp only [bO, m_c, m_h2 hr h, m_hasIn hr h, m_hasOn hr h ok, m_hasBy hr h ok, m_isInMonths hr h hc hd, m_isOfMonth hr h ok hc hd, m_isOfYear hr h ok hc hd, m_isDated hr h ok hc hd, m_isWeekday hr h ok hd, m_fromOf hr h, m_weekdayOf (show d < 20000 by omega), m_weekdayOf (show R.b < 20000 by omega), tf_0]
  simp (disch := omega) only [iZ_eq, cL_eq]
  have eO : (R.onN == 0) = !decide (0 < R.onN) := by
    apply Bool.eq_iff_iff.mpr; simp
  have eB : (R.byN == 0) = !decide (0 < R.byN) := by
    apply Bool.eq_iff_iff.mpr; simp
  unfold RuL.Of
  rw [eO, eB]
  by_cases u0 : R.u = 0
  · rw [if_pos (by omega), if_pos u0]
    cases R.In d <;> cases decide (0 < R.onN) <;> cases R.On d <;> cases decide (0 < R.byN) <;> cases R.By d <;> rfl
  · rw [if_neg (by omega), if_neg u0]
    by_cases u1 : R.u = 1
    · rw [if_pos (by omega), if_pos u1]
      by_cases c : 0 < R.byN
      · rw [if_pos c, decide_eq_true c]
        cases R.In d <;> cases decide (0 < R.onN) <;> cases R.On d <;> cases R.By d <;> rfl
      · rw [if_neg c, decide_eq_false c]
        by_cases l : (d + 5) % 7 = (R.b + 5) % 7
        · rw [if_pos (show (((d + 5) % 7 : Nat) : Int) = (((R.b + 5) % 7 : Nat) : Int) by omega), show ((d + 5) % 7 == (R.b + 5) % 7) = true from by simpa using l]
          cases R.In d <;> cases decide (0 < R.onN) <;> cases R.On d <;> rfl
        · rw [if_neg (show ¬ (((d + 5) % 7 : Nat) : Int) = (((R.b + 5) % 7 : Nat) : Int) by omega), show ((d + 5) % 7 == (R.b + 5) % 7) = false from by simpa using l]
          cases R.In d <;> cases decide (0 < R.onN) <;> cases R.On d <;> rfl
    · rw [if_neg (by omega), if_neg u1]
      by_cases u2 : R.u = 2
      · rw [if_pos (by omega), if_pos u2]
        cases R.In d <;> cases R.Mo d <;> rfl
      · rw [if_neg (by omega), if_neg u2, gzr_tf]
theorem m_isAtL {n many : Nat} (hr : r < 6) (h : mRl I r R) (ok : RuLok R) (h1 : n < 1000) (h2 : many < 1000) : ∀ (m j fuel : Nat), j + m = R.atN → m < fuel → gX12_isAt_L15 267 (iZ (r : Int)) (iZ (n : Int)) (iZ (many : Int)) fuel (iZ (j : Int)) (mkS X I J v) = some (tf (exF (fun k => R.atF k == (n : Int) || R.atF k == (n : Int) - many - 1) j m), mkS X I J v) := by
  have hon := ok.atN
  intro m
  induction m with
  | zero =>
    intro j fuel hj hf
    obtain ⟨n, rfl⟩ : ∃ n, fuel = n + 1 := ⟨fuel - 1, by omega⟩
    unfold gX12_isAt_L15
    simp only [bO, m_c, m_h31 hr h]
    rw [if_neg (by rw [iZ_lt (by omega) (by omega) (by omega) (by omega)]; omega)]
    rfl
  | succ m ih =>
    intro j fuel hj hf
    obtain ⟨f, rfl⟩ : ∃ n, fuel = n + 1 := ⟨fuel - 1, by omega⟩
    have hp := ok.atF j (by omega)
    unfold gX12_isAt_L15
    simp only [bO, m_c, m_h31 hr h]
    rw [if_pos (by rw [iZ_lt (by omega) (by omega) (by omega) (by omega)]; omega), m_h32 hr h ok (by omega)]
    simp only [bO, m_c]
    rw [m_h32 hr h ok (by omega)]
    simp only [bO, m_c, aL, iZ_sub, sL]
    have e1 : (j : Int) + 1 = ((j + 1 : Nat) : Int) := by omega
    rw [e1, ih (j + 1) f (by omega) (by omega)]
    simp (disch := omega) only [iZ_eq]
    show _ = some (tf ((R.atF j == (n : Int) || R.atF j == (n : Int) - many - 1) || exF _ (j + 1) m), _)
    by_cases h2 : R.atF j = (n : Int)
    · rw [if_pos (by omega), show (R.atF j == (n : Int)) = true from by simpa using h2]; rfl
    · rw [if_neg (by omega), show (R.atF j == (n : Int)) = false from by simpa using h2]
      by_cases h3 : R.atF j = (n : Int) - many - 1
      · rw [if_pos (by omega), show (R.atF j == (n : Int) - many - 1) = true from by simpa using h3]; rfl
      · rw [if_neg (by omega), show (R.atF j == (n : Int) - many - 1) = false from by simpa using h3]; rfl
theorem m_isAt {n many : Nat} (hr : r < 6) (h : mRl I r R) (ok : RuLok R) (h1 : n < 1000) (h2 : many < 1000) : fX12_isAt 267 (iZ (r : Int)) (iZ (n : Int)) (iZ (many : Int)) (mkS X I J v) = some (tf (rAt R n many), mkS X I J v) := by
  have hon := ok.atN
  unfold fX12_isAt gX12_isAt rAt
  simp only [bO, m_c, m_h31 hr h]
  simp (disch := omega) only [cL_eq]
  by_cases q : R.atN = 0
  · rw [if_pos (by omega), q]; rfl
  · rw [if_neg (by omega), show (R.atN == 0) = false from by simpa using q, show (0 : Int32) = iZ ((0 : Nat) : Int) from rfl, m_isAtL hr h ok h1 h2 R.atN 0 20000 (by omega) (by omega), gzr_tf]
    rfl
end gMr
