/-! DAY SETS: one day; two sets -/
theorem d_shr {d : Nat} (h : d < 2147483648) : iZ (d : Int) >>> (6 &&& 31) = iZ ((d / 64 : Nat) : Int) := by
  rw [show (6 : Int32) = iZ ((6 : Nat) : Int) from rfl, iZ_shr (by decide) (by omega) (by omega)]
  congr 1
theorem d_and {d : Nat} : iZ (d : Int) &&& 63 = iZ ((d % 64 : Nat) : Int) := by
  rw [show (63 : Int32) = iZ ((2 : Int) ^ 6 - 1) from rfl, iZ_mask _ 6 (by decide)]
  congr 1
theorem wb_one {s j : Nat} (hs : s < 64) (hj : j < 64) : wb (gLshl 1 (iZ (s : Int))) j = decide (j = s) := by
  rw [wb_shl hs hj]
  have e : ∀ i, i < 64 → wb 1 i = decide (i = 0) := by decide +kernel
  by_cases h : s ≤ j
  · rw [decide_eq_true h, Bool.true_and, e _ (by omega)]
    congr 1
    apply propext
    omega
  · rw [decide_eq_false h, decide_eq_false (show ¬ j = s by omega)]
    rfl
section gDs2
variable {X : Nat × (Nat → Int32)} {I : Nat → Nat → Int32} {J : Nat → Nat → Int64} {v : Vt} {r r2 : Nat}
theorem ds_put {z : Int} (h : isDS r) (h1 : -2147483648 ≤ z) (h2 : z < 2147483648) : ∃ f, fX2_put r (iZ z) (mkS X I J v) = some ((), mkS X I (jset J (r + 1) f) v) ∧ ∀ d, d < 14656 → bg f d = (dsf J r d || (decide (z < 14610) && decide ((d : Int) = z))) := by
  unfold fX2_put
  rw [c_isDay h1 h2, gb2_some]
  by_cases hz : 0 ≤ z ∧ z < 14610
  · rw [if_pos hz, if_neg (by decide)]
    obtain ⟨n, rfl⟩ : ∃ n : Nat, z = (n : Int) := ⟨z.toNat, by omega⟩
    have hn : n / 64 < 229 := by omega
    rw [ds_R h, d_shr (by omega), d_and]
    simp only [bO]
    rw [ds_g h _ _ hn]
    simp only [bO]
    rw [ds_s h _ _ hn]
    simp only [bO]
    refine ⟨_, by rw [jset_gup hn], ?_⟩
    intro d hd
    unfold dsf bg
    dsimp only
    have hz2 := hz.2
    rw [decide_eq_true hz2, Bool.true_and]
    by_cases hdn : d / 64 = n / 64
    · rw [hdn, if_pos rfl, wb_or, wb_one (by omega) (by omega)]
      congr 2
      apply propext
      omega
    · rw [if_neg hdn, decide_eq_false (show ¬ ((d : Int) = (n : Int)) by omega), Bool.or_false]
  · rw [if_neg hz, if_pos rfl]
    refine ⟨J (r + 1), by rw [jset_self], ?_⟩
    intro d hd
    unfold dsf
    by_cases q : z < 14610
    · rw [decide_eq_false (show ¬ ((d : Int) = z) by omega), Bool.and_false, Bool.or_false]
    · rw [decide_eq_false q, Bool.false_and, Bool.or_false]
theorem ds_take {z : Int} (h : isDS r) (h1 : -2147483648 ≤ z) (h2 : z < 2147483648) : ∃ f, fX2_take r (iZ z) (mkS X I J v) = some ((), mkS X I (jset J (r + 1) f) v) ∧ ∀ d, d < 14656 → bg f d = (dsf J r d && !(decide (z < 14610) && decide ((d : Int) = z))) := by
  unfold fX2_take
  rw [c_isDay h1 h2, gb2_some]
  by_cases hz : 0 ≤ z ∧ z < 14610
  · rw [if_pos hz, if_neg (by decide)]
    obtain ⟨n, rfl⟩ : ∃ n : Nat, z = (n : Int) := ⟨z.toNat, by omega⟩
    have hn : n / 64 < 229 := by omega
    rw [ds_R h, d_shr (by omega), d_and]
    simp only [bO]
    rw [ds_g h _ _ hn]
    simp only [bO]
    rw [ds_s h _ _ hn]
    simp only [bO]
    refine ⟨_, by rw [jset_gup hn], ?_⟩
    intro d hd
    unfold dsf bg
    dsimp only
    have hz2 := hz.2
    rw [decide_eq_true hz2, Bool.true_and]
    by_cases hdn : d / 64 = n / 64
    · rw [hdn, if_pos rfl, wb_and, wb_not (by omega), wb_one (by omega) (by omega)]
      congr 3
      apply propext
      omega
    · rw [if_neg hdn, decide_eq_false (show ¬ ((d : Int) = (n : Int)) by omega), Bool.not_false, Bool.and_true]
  · rw [if_neg hz, if_pos rfl]
    refine ⟨J (r + 1), by rw [jset_self], ?_⟩
    intro d hd
    unfold dsf
    by_cases q : z < 14610
    · rw [decide_eq_false (show ¬ ((d : Int) = z) by omega), Bool.and_false, Bool.not_false, Bool.and_true]
    · rw [decide_eq_false q, Bool.false_and, Bool.not_false, Bool.and_true]
theorem ds_holds {z : Int} (h : isDS r) (h1 : -2147483648 ≤ z) (h2 : z < 2147483648) : fX2_holds r (iZ z) (mkS X I J v) = some (if 0 ≤ z ∧ z < 14610 ∧ dsf J r z.toNat = true then 1 else 0, mkS X I J v) := by
  unfold fX2_holds gX2_holds
  rw [c_isDay h1 h2, gb2_some]
  by_cases hz : 0 ≤ z ∧ z < 14610
  · rw [if_pos hz, if_neg (by decide)]
    obtain ⟨n, rfl⟩ : ∃ n : Nat, z = (n : Int) := ⟨z.toNat, by omega⟩
    have hn : n / 64 < 229 := by omega
    rw [ds_R h, d_shr (by omega), d_and]
    simp only [bO]
    rw [ds_g h _ _ hn]
    simp only [bO, lgc_0, Int.toNat_natCast]
    have e : (gLushr (J (r + 1) (n / 64)) (iZ ((n % 64 : Nat) : Int)) &&& 1 = 0) ↔ dsf J r n = false := by
      have e1 : ∀ i, i < 64 → wb 1 i = decide (i = 0) := by decide +kernel
      constructor
      · intro q
        have := congrArg (fun x => wb x 0) q
        simp only [wb_and, wb_0, wb_ushr (show n % 64 < 64 by omega), e1 0 (by decide)] at this
        simpa [dsf, bg] using this
      · intro q
        apply wb_ext
        intro i hi
        rw [wb_and, wb_0, e1 i hi, wb_ushr (by omega)]
        by_cases h0 : i = 0
        · subst h0
          have : wb (J (r + 1) (n / 64)) (n % 64) = false := q
          simp [this]
        · simp [h0]
    by_cases hb : dsf J r n = true
    · rw [if_neg (show ¬ (gLushr (J (r + 1) (n / 64)) (iZ ((n % 64 : Nat) : Int)) &&& 1 = 0) by rw [e, hb]; decide), if_pos ⟨by omega, by omega, hb⟩]
      rfl
    · rw [if_pos (show gLushr (J (r + 1) (n / 64)) (iZ ((n % 64 : Nat) : Int)) &&& 1 = 0 by rw [e]; simpa using hb), if_neg (fun q => hb q.2.2)]
      rfl
  · rw [if_neg hz, if_pos rfl, if_neg (fun q => hz ⟨q.1, q.2.1⟩)]
    rfl
theorem ds_uniteL (h : isDS r) (h2 : isDS r2) (hne : r ≠ r2) : ∀ (fuel i : Nat) (J : Nat → Nat → Int64), i ≤ 229 → 229 - i < fuel → gX2_unite_L2 r r2 fuel (iZ (i : Int)) (mkS X I J v) = some ((), mkS X I (jput J (r + 1) i (fun k => J (r + 1) k ||| J (r2 + 1) k)) v) := by
  intro fuel
  induction fuel with
  | zero => intro i J h1 h2; omega
  | succ n ih =>
    intro i J q1 q2
    unfold gX2_unite_L2
    simp (disch := omega) only [cL_lt, aL]
    by_cases hi : i < 229
    · rw [if_pos (by omega), ds_R h, ds_R h2]
      simp only [bO]
      rw [ds_g h _ _ hi, ds_g h2 _ _ hi]
      simp only [bO]
      rw [ds_s h _ _ hi, show (i : Int) + 1 = ((i + 1 : Nat) : Int) by omega]
      simp only [bO]
      rw [ih _ _ (by omega) (by omega)]
      congr 3
      funext b k
      unfold jput gup
      dsimp only
      by_cases hb : b = r + 1 ∧ i + 1 ≤ k ∧ k < 229
      · rw [if_pos hb, if_pos (show b = r + 1 ∧ i ≤ k ∧ k < 229 by omega), if_neg (by omega), if_neg (by omega)]
      · rw [if_neg hb]
        by_cases hb2 : b = r + 1 ∧ k = i
        · rw [if_pos hb2, if_pos (show b = r + 1 ∧ i ≤ k ∧ k < 229 by omega), hb2.2]
        · rw [if_neg hb2, if_neg (by omega)]
    · rw [if_neg (by omega), jput_end (by omega)]
theorem ds_limitL (h : isDS r) (h2 : isDS r2) (hne : r ≠ r2) : ∀ (fuel i : Nat) (J : Nat → Nat → Int64), i ≤ 229 → 229 - i < fuel → gX2_limit_L2 r r2 fuel (iZ (i : Int)) (mkS X I J v) = some ((), mkS X I (jput J (r + 1) i (fun k => J (r + 1) k &&& J (r2 + 1) k)) v) := by
  intro fuel
  induction fuel with
  | zero => intro i J h1 h2; omega
  | succ n ih =>
    intro i J q1 q2
    unfold gX2_limit_L2
    simp (disch := omega) only [cL_lt, aL]
    by_cases hi : i < 229
    · rw [if_pos (by omega), ds_R h, ds_R h2]
      simp only [bO]
      rw [ds_g h _ _ hi, ds_g h2 _ _ hi]
      simp only [bO]
      rw [ds_s h _ _ hi, show (i : Int) + 1 = ((i + 1 : Nat) : Int) by omega]
      simp only [bO]
      rw [ih _ _ (by omega) (by omega)]
      congr 3
      funext b k
      unfold jput gup
      dsimp only
      by_cases hb : b = r + 1 ∧ i + 1 ≤ k ∧ k < 229
      · rw [if_pos hb, if_pos (show b = r + 1 ∧ i ≤ k ∧ k < 229 by omega), if_neg (by omega), if_neg (by omega)]
      · rw [if_neg hb]
        by_cases hb2 : b = r + 1 ∧ k = i
        · rw [if_pos hb2, if_pos (show b = r + 1 ∧ i ≤ k ∧ k < 229 by omega), hb2.2]
        · rw [if_neg hb2, if_neg (by omega)]
    · rw [if_neg (by omega), jput_end (by omega)]
theorem ds_withoutL (h : isDS r) (h2 : isDS r2) (hne : r ≠ r2) : ∀ (fuel i : Nat) (J : Nat → Nat → Int64), i ≤ 229 → 229 - i < fuel → gX2_without_L2 r r2 fuel (iZ (i : Int)) (mkS X I J v) = some ((), mkS X I (jput J (r + 1) i (fun k => J (r + 1) k &&& (J (r2 + 1) k ^^^ (-1)))) v) := by
  intro fuel
  induction fuel with
  | zero => intro i J h1 h2; omega
  | succ n ih =>
    intro i J q1 q2
    unfold gX2_without_L2
    simp (disch := omega) only [cL_lt, aL]
    by_cases hi : i < 229
    · rw [if_pos (by omega), ds_R h, ds_R h2]
      simp only [bO]
      rw [ds_g h _ _ hi, ds_g h2 _ _ hi]
      simp only [bO]
      rw [ds_s h _ _ hi, show (i : Int) + 1 = ((i + 1 : Nat) : Int) by omega]
      simp only [bO]
      rw [ih _ _ (by omega) (by omega)]
      congr 3
      funext b k
      unfold jput gup
      dsimp only
      by_cases hb : b = r + 1 ∧ i + 1 ≤ k ∧ k < 229
      · rw [if_pos hb, if_pos (show b = r + 1 ∧ i ≤ k ∧ k < 229 by omega), if_neg (by omega), if_neg (by omega)]
      · rw [if_neg hb]
        by_cases hb2 : b = r + 1 ∧ k = i
        · rw [if_pos hb2, if_pos (show b = r + 1 ∧ i ≤ k ∧ k < 229 by omega), hb2.2]
        · rw [if_neg hb2, if_neg (by omega)]
    · rw [if_neg (by omega), jput_end (by omega)]
theorem ds_unite (h : isDS r) (h2 : isDS r2) (hne : r ≠ r2) : ∃ f, fX2_unite r r2 (mkS X I J v) = some ((), mkS X I (jset J (r + 1) f) v) ∧ ∀ d, d < 14656 → bg f d = (dsf J r d || dsf J r2 d) :=
  ⟨_, ds_uniteL h h2 hne 20000 0 J (by omega) (by omega), fun d hd => by unfold bg dsf bg; rw [wb_or]⟩
theorem ds_limit (h : isDS r) (h2 : isDS r2) (hne : r ≠ r2) : ∃ f, fX2_limit r r2 (mkS X I J v) = some ((), mkS X I (jset J (r + 1) f) v) ∧ ∀ d, d < 14656 → bg f d = (dsf J r d && dsf J r2 d) :=
  ⟨_, ds_limitL h h2 hne 20000 0 J (by omega) (by omega), fun d hd => by unfold bg dsf bg; rw [wb_and]⟩
theorem ds_without (h : isDS r) (h2 : isDS r2) (hne : r ≠ r2) : ∃ f, fX2_without r r2 (mkS X I J v) = some ((), mkS X I (jset J (r + 1) f) v) ∧ ∀ d, d < 14656 → bg f d = (dsf J r d && !dsf J r2 d) :=
  ⟨_, ds_withoutL h h2 hne 20000 0 J (by omega) (by omega), fun d hd => by unfold bg dsf bg; rw [wb_and, wb_not (by omega)]⟩
end gDs2
