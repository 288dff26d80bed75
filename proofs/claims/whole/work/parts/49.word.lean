/-! WORDS of sixty-four bits -/
def wb (x : Int64) (i : Nat) : Bool := x.toBitVec.getLsbD i
theorem wb_ge {x : Int64} {i : Nat} (h : 64 ≤ i) : wb x i = false := BitVec.getLsbD_of_ge _ _ h
theorem wb_lt {x : Int64} {i : Nat} (h : wb x i = true) : i < 64 := by
  rcases Nat.lt_or_ge i 64 with h1 | h1
  · exact h1
  · rw [wb_ge h1] at h; cases h
theorem wb_ext {x y : Int64} (h : ∀ i, i < 64 → wb x i = wb y i) : x = y := Int64.toBitVec_inj.mp (BitVec.eq_of_getLsbD_eq h)
theorem wb_and (x y : Int64) (i : Nat) : wb (x &&& y) i = (wb x i && wb y i) := by unfold wb; rw [Int64.toBitVec_and, BitVec.getLsbD_and]
theorem wb_or (x y : Int64) (i : Nat) : wb (x ||| y) i = (wb x i || wb y i) := by unfold wb; rw [Int64.toBitVec_or, BitVec.getLsbD_or]
theorem wb_xor (x y : Int64) (i : Nat) : wb (x ^^^ y) i = (wb x i ^^ wb y i) := by unfold wb; rw [Int64.toBitVec_xor, BitVec.getLsbD_xor]
theorem wb_0 (i : Nat) : wb 0 i = false := by unfold wb; rw [Int64.toBitVec_zero]; simp
theorem wb_m1 {i : Nat} (h : i < 64) : wb (-1) i = true := by
  unfold wb
  rw [show ((-1 : Int64)).toBitVec = BitVec.allOnes 64 by decide, BitVec.getLsbD_allOnes]
  simpa using h
theorem wb_m1' (i : Nat) : wb (-1) i = decide (i < 64) := by
  unfold wb
  rw [show ((-1 : Int64)).toBitVec = BitVec.allOnes 64 by decide, BitVec.getLsbD_allOnes]
theorem wb_not {x : Int64} {i : Nat} (h : i < 64) : wb (x ^^^ (-1)) i = !wb x i := by rw [wb_xor, wb_m1 h]; simp
theorem sh64_1 : ∀ s : Nat, s < 64 → ((iZ (s : Int)).toInt64 &&& 63).toBitVec.smod 64 = BitVec.ofNat 64 s := by decide +kernel
theorem sh64_2 : ∀ s : Nat, s < 64 → ((iZ (s : Int)).toInt64.toUInt64 &&& Int64.toUInt64 63).toBitVec % 64 = BitVec.ofNat 64 s := by decide +kernel
theorem gLshl_bv {x : Int64} {s : Nat} (h : s < 64) : (gLshl x (iZ (s : Int))).toBitVec = x.toBitVec <<< s := by
  unfold gLshl
  rw [Int64.toBitVec_shiftLeft, sh64_1 s h, BitVec.shiftLeft_eq', BitVec.toNat_ofNat, Nat.mod_eq_of_lt (by omega)]
theorem gLushr_bv {x : Int64} {s : Nat} (h : s < 64) : (gLushr x (iZ (s : Int))).toBitVec = x.toBitVec >>> s := by
  unfold gLushr
  show (x.toUInt64 >>> _).toBitVec = _
  rw [UInt64.toBitVec_shiftRight, sh64_2 s h, BitVec.ushiftRight_eq', BitVec.toNat_ofNat, Nat.mod_eq_of_lt (by omega)]
  rfl
theorem wb_shl {x : Int64} {s i : Nat} (h : s < 64) (hi : i < 64) : wb (gLshl x (iZ (s : Int))) i = (decide (s ≤ i) && wb x (i - s)) := by
  unfold wb
  rw [gLshl_bv h, BitVec.getLsbD_shiftLeft]
  have e : (!decide (i < s)) = decide (s ≤ i) := by
    by_cases q : i < s
    · simp [q]
    · simp [q]; omega
  rw [decide_eq_true hi, Bool.true_and, e]
theorem wb_ushr {x : Int64} {s i : Nat} (h : s < 64) : wb (gLushr x (iZ (s : Int))) i = wb x (s + i) := by
  unfold wb
  rw [gLushr_bv h, BitVec.getLsbD_ushiftRight]
theorem wb_neg (x : Int64) (i : Nat) : wb (-x) i = (wb x i ^^ (decide (i < 64) && decide (∃ j, j < i ∧ wb x j = true))) := by
  unfold wb
  rw [Int64.toBitVec_neg, BitVec.getLsbD_neg]
theorem wb_sub1 {x : Int64} {i : Nat} (hi : i < 64) : wb (x - 1) i = (!(wb x i ^^ decide (∃ j, j < i ∧ wb x j = true))) := by
  have e : x - 1 = (-x) ^^^ (-1) := by
    apply Int64.toBitVec_inj.mp
    rw [Int64.toBitVec_sub, Int64.toBitVec_xor, Int64.toBitVec_neg, show ((-1 : Int64)).toBitVec = BitVec.allOnes 64 by decide, BitVec.xor_allOnes, BitVec.not_neg]
    rfl
  rw [e, wb_not hi, wb_neg, decide_eq_true hi, Bool.true_and]
theorem lgc_0 (x : Int64) : lg_cmp x 0 = 0 ↔ x = 0 := by
  unfold lg_cmp
  split
  · rename_i h
    constructor
    · intro q; exact absurd q (by decide)
    · intro q; subst q; exact absurd h (by decide)
  · split
    · simp [*]
    · constructor
      · intro q; exact absurd q (by decide)
      · intro q; contradiction
theorem wb_ne {x : Int64} (h : x ≠ 0) : ∃ i, i < 64 ∧ wb x i = true ∧ ∀ j, j < i → wb x j = false := by
  have h1 : ∃ i, wb x i = true := by
    apply Classical.byContradiction
    intro q
    apply h
    apply wb_ext
    intro i hi
    rw [wb_0]
    rcases hb : wb x i with _ | _
    · rfl
    · exact absurd ⟨i, hb⟩ q
  have key : ∀ n, (∃ i, i < n ∧ wb x i = true) → ∃ i, i < 64 ∧ wb x i = true ∧ ∀ j, j < i → wb x j = false := by
    intro n
    induction n with
    | zero => rintro ⟨i, hi, -⟩; omega
    | succ n ih =>
      rintro ⟨i, hi, hb⟩
      by_cases q : ∃ i, i < n ∧ wb x i = true
      · exact ih q
      · refine ⟨i, wb_lt hb, hb, fun j hj => ?_⟩
        rcases hj' : wb x j with _ | _
        · rfl
        · exact absurd ⟨j, by omega, hj'⟩ q
  obtain ⟨i, hi⟩ := h1
  exact key (i + 1) ⟨i, by omega, hi⟩
/-- how many of n bits from a on -/
def cnt (P : Nat → Bool) (a : Nat) : Nat → Nat
  | 0 => 0
  | n + 1 => cnt P a n + (if P (a + n) then 1 else 0)
theorem cnt_congr {P Q : Nat → Bool} {a : Nat} : ∀ {n : Nat}, (∀ i, i < n → P (a + i) = Q (a + i)) → cnt P a n = cnt Q a n := by
  intro n
  induction n with
  | zero => intro _; rfl
  | succ n ih =>
    intro h
    show cnt P a n + _ = cnt Q a n + _
    rw [ih (fun i hi => h i (by omega)), h n (by omega)]
theorem cnt_add (P : Nat → Bool) (a m n : Nat) : cnt P a (m + n) = cnt P a m + cnt P (a + m) n := by
  induction n with
  | zero => rfl
  | succ n ih =>
    show cnt P a (m + n) + (if P (a + (m + n)) then 1 else 0) = cnt P a m + (cnt P (a + m) n + (if P (a + m + n) then 1 else 0))
    rw [ih, Nat.add_assoc a m n, Nat.add_assoc]
theorem cnt_le (P : Nat → Bool) (a n : Nat) : cnt P a n ≤ n := by
  induction n with
  | zero => exact Nat.le_refl _
  | succ n ih =>
    show cnt P a n + _ ≤ _
    split <;> omega
theorem cnt_lt {t : Nat} (n : Nat) : cnt (fun i => decide (i < t)) 0 n = min n t := by
  induction n with
  | zero => simp [cnt]
  | succ n ih =>
    show cnt _ 0 n + _ = _
    rw [ih]
    simp only [Nat.zero_add, decide_eq_true_eq]
    split <;> omega
theorem cnt_zero {P : Nat → Bool} {a n : Nat} (h : ∀ i, i < n → P (a + i) = false) : cnt P a n = 0 := by
  induction n with
  | zero => rfl
  | succ n ih =>
    show cnt P a n + _ = 0
    rw [ih (fun i hi => h i (by omega)), h n (by omega)]
    rfl
theorem cnt_shift (P : Nat → Bool) (a b n : Nat) : cnt (fun i => P (b + i)) a n = cnt P (b + a) n := by
  induction n with
  | zero => rfl
  | succ n ih =>
    show cnt (fun i => P (b + i)) a n + (if P (b + (a + n)) then 1 else 0) = cnt P (b + a) n + (if P (b + a + n) then 1 else 0)
    rw [ih, Nat.add_assoc]
theorem cnt_front (P : Nat → Bool) (a n : Nat) : cnt P a (n + 1) = (if P a then 1 else 0) + cnt P (a + 1) n := by
  rw [show n + 1 = 1 + n from Nat.add_comm _ _, cnt_add]
  show 0 + (if P (a + 0) then 1 else 0) + _ = _
  rw [Nat.zero_add, Nat.add_zero]
