/-! WORDS: the lowest one, the highest one, without the lowest -/
theorem wb_low {x : Int64} {t i : Nat} (ht : wb x t = true) (h : ∀ j, j < t → wb x j = false) (hi : i < 64) : wb (x &&& -x) i = decide (i = t) := by
  rw [wb_and, wb_neg, decide_eq_true hi, Bool.true_and]
  by_cases h1 : i < t
  · rw [h i h1, decide_eq_false (show ¬ i = t by omega)]; rfl
  · by_cases h2 : i = t
    · subst h2
      rw [ht, decide_eq_false (by rintro ⟨j, hj, hb⟩; rw [h j hj] at hb; cases hb)]
      simp
    · rw [decide_eq_true (⟨t, by omega, ht⟩ : ∃ j, j < i ∧ wb x j = true), decide_eq_false h2]
      cases wb x i <;> rfl
theorem cnt_low {x : Int64} {t : Nat} (ht : wb x t = true) (h : ∀ j, j < t → wb x j = false) : cnt (wb ((x &&& -x) - 1)) 0 64 = t := by
  have h64 := wb_lt ht
  have e : cnt (wb ((x &&& -x) - 1)) 0 64 = cnt (fun i => decide (i < t)) 0 64 := by
    apply cnt_congr
    intro i hi
    rw [Nat.zero_add, wb_sub1 hi, wb_low ht h hi]
    have e2 : (∃ j, j < i ∧ wb (x &&& -x) j = true) ↔ t < i := by
      constructor
      · rintro ⟨j, hj, hb⟩
        rw [wb_low ht h (by omega)] at hb
        have := of_decide_eq_true hb
        omega
      · intro q
        refine ⟨t, q, ?_⟩
        rw [wb_low ht h h64]
        simp
    simp only [e2]
    by_cases q : i < t
    · simp [q, show ¬ i = t by omega, show ¬ t < i by omega]
    · by_cases q2 : i = t
      · simp [q2]
      · simp [q, q2, show t < i by omega]
  rw [e, cnt_lt]
  omega
theorem wb_drop {x : Int64} {i : Nat} (hi : i < 64) : wb (x &&& (x - 1)) i = (wb x i && decide (∃ j, j < i ∧ wb x j = true)) := by
  rw [wb_and, wb_sub1 hi]
  cases wb x i <;> simp
theorem cnt_ex {P : Nat → Bool} {k : Nat} : ∀ {i : Nat}, k < cnt P 0 i ↔ ∃ j, j < i ∧ P j = true ∧ k ≤ cnt P 0 j := by
  intro i
  induction i with
  | zero => simp [cnt]
  | succ i ih =>
    show k < cnt P 0 i + (if P (0 + i) = true then 1 else 0) ↔ _
    rw [Nat.zero_add]
    constructor
    · intro h
      by_cases hk : k < cnt P 0 i
      · obtain ⟨j, h1, h2⟩ := ih.mp hk
        exact ⟨j, by omega, h2⟩
      · by_cases hp : P i = true
        · exact ⟨i, by omega, hp, by rw [if_pos hp] at h; omega⟩
        · rw [if_neg hp] at h; omega
    · rintro ⟨j, h1, h2, h3⟩
      by_cases hj : j = i
      · subst hj; rw [if_pos h2]; omega
      · have := ih.mpr ⟨j, by omega, h2, h3⟩
        omega
theorem cnt_mono (P : Nat → Bool) (a : Nat) {m n : Nat} (h : m ≤ n) : cnt P a m ≤ cnt P a n := by
  obtain ⟨k, rfl⟩ := Nat.le.dest h
  rw [cnt_add]
  omega
/-- the highest one: all below it are set -/
theorem smear_step {x y : Int64} {w : Nat} (hw : w < 64) (h : ∀ i, i < 64 → (wb y i = true ↔ ∃ j, i ≤ j ∧ j < i + w ∧ wb x j = true)) : ∀ i, i < 64 → (wb (y ||| gLushr y (iZ (w : Int))) i = true ↔ ∃ j, i ≤ j ∧ j < i + (w + w) ∧ wb x j = true) := by
  intro i hi
  rw [wb_or, wb_ushr hw, Bool.or_eq_true, h i hi]
  by_cases h2 : w + i < 64
  · rw [h (w + i) h2]
    constructor
    · rintro (⟨j, a, b, c⟩ | ⟨j, a, b, c⟩)
      · exact ⟨j, a, by omega, c⟩
      · exact ⟨j, by omega, by omega, c⟩
    · rintro ⟨j, a, b, c⟩
      by_cases q : j < i + w
      · exact Or.inl ⟨j, a, q, c⟩
      · exact Or.inr ⟨j, by omega, by omega, c⟩
  · rw [wb_ge (by omega)]
    constructor
    · rintro (⟨j, a, b, c⟩ | h)
      · exact ⟨j, a, by omega, c⟩
      · cases h
    · rintro ⟨j, a, b, c⟩
      have := wb_lt c
      exact Or.inl ⟨j, a, by omega, c⟩
theorem c_smear {K : Int64 → gH → Option (Int32 × gH)} {x2 : Int32} {x : Int64} {s : gH} {n : Nat} : ∃ y : Int64, gX2_lastUpTo_L67 K x2 (n + 7) x 1 s = K y s ∧ ∀ i, i < 64 → (wb y i = true ↔ ∃ j, i ≤ j ∧ j < i + 64 ∧ wb x j = true) := by
  have h0 : ∀ i, i < 64 → (wb x i = true ↔ ∃ j, i ≤ j ∧ j < i + 1 ∧ wb x j = true) := by
    intro i hi
    constructor
    · intro h
      exact ⟨i, by omega, by omega, h⟩
    · rintro ⟨j, a, b, c⟩
      rw [show j = i by omega] at c
      exact c
  have h1 := smear_step (w := 1) (by decide) h0
  have h2 := smear_step (w := 2) (by decide) h1
  have h3 := smear_step (w := 4) (by decide) h2
  have h4 := smear_step (w := 8) (by decide) h3
  have h5 := smear_step (w := 16) (by decide) h4
  have h6 := smear_step (w := 32) (by decide) h5
  refine ⟨_, ?_, h6⟩
  have st : ∀ (m : Nat) (y : Int64) (w : Nat), w < 64 → gX2_lastUpTo_L67 K x2 (m + 1) y (iZ (w : Int)) s = gX2_lastUpTo_L67 K x2 m (y ||| gLushr y (iZ (w : Int))) (iZ ((w + w : Nat) : Int)) s := by
    intro m y w hw
    rw [gX2_lastUpTo_L67]
    simp (disch := omega) only [cL_lt, glet_eq, pL]
    rw [if_pos (by omega), show ((w : Int) * 2) = ((w + w : Nat) : Int) by omega]
  rw [show (1 : Int32) = iZ ((1 : Nat) : Int) from rfl, st _ _ 1 (by decide), st _ _ 2 (by decide), st _ _ 4 (by decide), st _ _ 8 (by decide), st _ _ 16 (by decide), st _ _ 32 (by decide)]
  rw [gX2_lastUpTo_L67]
  rw [if_neg (by decide)]
theorem cnt_smear {x y : Int64} {t : Nat} (ht : wb x t = true) (h : ∀ j, t < j → wb x j = false) (hy : ∀ i, i < 64 → (wb y i = true ↔ ∃ j, i ≤ j ∧ j < i + 64 ∧ wb x j = true)) : cnt (wb y) 0 64 = t + 1 := by
  have h64 := wb_lt ht
  have e : cnt (wb y) 0 64 = cnt (fun i => decide (i < t + 1)) 0 64 := by
    apply cnt_congr
    intro i hi
    rw [Nat.zero_add]
    apply Bool.eq_iff_iff.mpr
    rw [hy i hi, decide_eq_true_eq]
    constructor
    · rintro ⟨j, a, b, c⟩
      apply Classical.byContradiction
      intro q
      rw [h j (by omega)] at c
      cases c
    · intro q
      exact ⟨t, by omega, by omega, ht⟩
  rw [e, cnt_lt]
  omega
theorem wb_hi {x : Int64} (h : x ≠ 0) : ∃ t, t < 64 ∧ wb x t = true ∧ ∀ j, t < j → wb x j = false := by
  obtain ⟨i, hi, hb, -⟩ := wb_ne h
  have key : ∀ n, (∃ i, 64 ≤ i + n ∧ wb x i = true) → ∃ t, t < 64 ∧ wb x t = true ∧ ∀ j, t < j → wb x j = false := by
    intro n
    induction n with
    | zero => rintro ⟨i, hi, hb⟩; have := wb_lt hb; omega
    | succ n ih =>
      rintro ⟨i, hi, hb⟩
      by_cases q : ∃ i, 64 ≤ i + n ∧ wb x i = true
      · exact ih q
      · refine ⟨i, wb_lt hb, hb, fun j hj => ?_⟩
        cases hj' : wb x j
        · rfl
        · exact absurd ⟨j, by omega, hj'⟩ q
  exact key 64 ⟨i, by omega, hb⟩
