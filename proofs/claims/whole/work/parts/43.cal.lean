/-! THE CALENDAR in numbers: years from 2000 on -/
def cY (d : Nat) : Nat := d / 1461 * 4 + (if d % 1461 < 366 then 0 else (d % 1461 - 1) / 365)
def cF (y : Nat) : Nat := y * 365 + (y + 3) / 4
def cAh (m : Nat) : Nat := ([0, 31, 59, 90, 120, 151, 181, 212, 243, 273, 304, 334, 365] : List Nat).getD (m - 1) 0
def cA (y m : Nat) : Nat := cAh m + (if 2 < m ∧ y % 4 = 0 then 1 else 0)
def cMo (y b : Nat) : Nat → Nat
  | 0 => 1
  | m + 1 => if cA y (m + 2) ≤ b then m + 2 else cMo y b m
def cM (d : Nat) : Nat := cMo (cY d) (d - cF (cY d)) 11
def cD (d : Nat) : Nat := d - cF (cY d) - cA (cY d) (cM d) + 1
def cN (d : Nat) : Nat := d - cF (cY d) + 1
def cLn (y m : Nat) : Nat := cA y (m + 1) - cA y m
def cLm (y m : Nat) : Nat := if m = 2 then (if y % 4 = 0 then 29 else 28) else if m = 4 ∨ m = 6 ∨ m = 9 ∨ m = 11 then 30 else 31
/-- the day behind, as one counts on -/
def cStep (k : Nat) : Bool :=
  let y := cY k; let m := cM k; let d := cD k; let n := cN k
  let m1 := if cLm y m < d + 1 then m + 1 else m
  let d1 := if cLm y m < d + 1 then 1 else d + 1
  let y2 := if 12 < m1 then y + 1 else y
  let m2 := if 12 < m1 then 1 else m1
  let n2 := if 12 < m1 then 1 else n + 1
  cY (k + 1) == y2 && cM (k + 1) == m2 && cD (k + 1) == d1 && cN (k + 1) == n2
/-- what holds of each day -/
def cGood (k : Nat) : Bool :=
  let y := cY k; let m := cM k; let d := cD k
  decide (y < 40) && decide (1 ≤ m) && decide (m ≤ 12) && decide (1 ≤ d) && decide (d ≤ cLn y m) && (cF y + cA y m + d == k + 1) && (cLn y m == cLm y m) && decide (cF y ≤ k) && decide (cF y + cA y m ≤ k) && decide (k < cF (y + 1)) && decide (cN k ≤ cF (y + 1) - cF y)
def cBack (y m d : Nat) : Bool := (!decide (d ≤ cLn y m)) || (let k := cF y + cA y m + d - 1; decide (k < 14610) && cY k == y && cM k == m && cD k == d)
def cAll (n : Nat) (p : Nat → Bool) : Bool := Nat.rec true (fun k b => p k && b) n
theorem cAll_of {n : Nat} {p : Nat → Bool} (h : cAll n p = true) : ∀ k, k < n → p k = true := by
  induction n with
  | zero => intro k hk; omega
  | succ n ih =>
    intro k hk
    have h' : (p n && cAll n p) = true := h
    rw [Bool.and_eq_true] at h'
    by_cases e : k = n
    · rw [e]; exact h'.1
    · exact ih h'.2 k (by omega)
theorem cAll_add {n m : Nat} {p : Nat → Bool} (h1 : cAll n p = true) (h2 : cAll m (fun k => p (n + k)) = true) : ∀ k, k < n + m → p k = true := by
  intro k hk
  by_cases h : k < n
  · exact cAll_of h1 k h
  · have := cAll_of h2 (k - n) (by omega)
    rw [show n + (k - n) = k by omega] at this
    exact this
theorem cStep_0 : cAll 487 (fun k => cStep (0 + k)) = true := by decide +kernel
theorem cStep_1 : cAll 487 (fun k => cStep (487 + k)) = true := by decide +kernel
theorem cStep_2 : cAll 487 (fun k => cStep (974 + k)) = true := by decide +kernel
theorem cStep_3 : cAll 487 (fun k => cStep (1461 + k)) = true := by decide +kernel
theorem cStep_4 : cAll 487 (fun k => cStep (1948 + k)) = true := by decide +kernel
theorem cStep_5 : cAll 487 (fun k => cStep (2435 + k)) = true := by decide +kernel
theorem cStep_6 : cAll 487 (fun k => cStep (2922 + k)) = true := by decide +kernel
theorem cStep_7 : cAll 487 (fun k => cStep (3409 + k)) = true := by decide +kernel
theorem cStep_8 : cAll 487 (fun k => cStep (3896 + k)) = true := by decide +kernel
theorem cStep_9 : cAll 487 (fun k => cStep (4383 + k)) = true := by decide +kernel
theorem cStep_10 : cAll 487 (fun k => cStep (4870 + k)) = true := by decide +kernel
theorem cStep_11 : cAll 487 (fun k => cStep (5357 + k)) = true := by decide +kernel
theorem cStep_12 : cAll 487 (fun k => cStep (5844 + k)) = true := by decide +kernel
theorem cStep_13 : cAll 487 (fun k => cStep (6331 + k)) = true := by decide +kernel
theorem cStep_14 : cAll 487 (fun k => cStep (6818 + k)) = true := by decide +kernel
theorem cStep_15 : cAll 487 (fun k => cStep (7305 + k)) = true := by decide +kernel
theorem cStep_16 : cAll 487 (fun k => cStep (7792 + k)) = true := by decide +kernel
theorem cStep_17 : cAll 487 (fun k => cStep (8279 + k)) = true := by decide +kernel
theorem cStep_18 : cAll 487 (fun k => cStep (8766 + k)) = true := by decide +kernel
theorem cStep_19 : cAll 487 (fun k => cStep (9253 + k)) = true := by decide +kernel
theorem cStep_20 : cAll 487 (fun k => cStep (9740 + k)) = true := by decide +kernel
theorem cStep_21 : cAll 487 (fun k => cStep (10227 + k)) = true := by decide +kernel
theorem cStep_22 : cAll 487 (fun k => cStep (10714 + k)) = true := by decide +kernel
theorem cStep_23 : cAll 487 (fun k => cStep (11201 + k)) = true := by decide +kernel
theorem cStep_24 : cAll 487 (fun k => cStep (11688 + k)) = true := by decide +kernel
theorem cStep_25 : cAll 487 (fun k => cStep (12175 + k)) = true := by decide +kernel
theorem cStep_26 : cAll 487 (fun k => cStep (12662 + k)) = true := by decide +kernel
theorem cStep_27 : cAll 487 (fun k => cStep (13149 + k)) = true := by decide +kernel
theorem cStep_28 : cAll 487 (fun k => cStep (13636 + k)) = true := by decide +kernel
theorem cStep_29 : cAll 487 (fun k => cStep (14123 + k)) = true := by decide +kernel
theorem cStep_all : ∀ k, k < 14610 → cStep k = true := by
  intro k hk
  have hq : k = 487 * (k / 487) + k % 487 := by omega
  have hm : k % 487 < 487 := by omega
  have hd : k / 487 < 30 := by omega
  generalize k / 487 = q at hq hd
  generalize k % 487 = r at hq hm
  subst hq
  match q, hd with
  | 0, _ => exact cAll_of cStep_0 r hm
  | 1, _ => exact cAll_of cStep_1 r hm
  | 2, _ => exact cAll_of cStep_2 r hm
  | 3, _ => exact cAll_of cStep_3 r hm
  | 4, _ => exact cAll_of cStep_4 r hm
  | 5, _ => exact cAll_of cStep_5 r hm
  | 6, _ => exact cAll_of cStep_6 r hm
  | 7, _ => exact cAll_of cStep_7 r hm
  | 8, _ => exact cAll_of cStep_8 r hm
  | 9, _ => exact cAll_of cStep_9 r hm
  | 10, _ => exact cAll_of cStep_10 r hm
  | 11, _ => exact cAll_of cStep_11 r hm
  | 12, _ => exact cAll_of cStep_12 r hm
  | 13, _ => exact cAll_of cStep_13 r hm
  | 14, _ => exact cAll_of cStep_14 r hm
  | 15, _ => exact cAll_of cStep_15 r hm
  | 16, _ => exact cAll_of cStep_16 r hm
  | 17, _ => exact cAll_of cStep_17 r hm
  | 18, _ => exact cAll_of cStep_18 r hm
  | 19, _ => exact cAll_of cStep_19 r hm
  | 20, _ => exact cAll_of cStep_20 r hm
  | 21, _ => exact cAll_of cStep_21 r hm
  | 22, _ => exact cAll_of cStep_22 r hm
  | 23, _ => exact cAll_of cStep_23 r hm
  | 24, _ => exact cAll_of cStep_24 r hm
  | 25, _ => exact cAll_of cStep_25 r hm
  | 26, _ => exact cAll_of cStep_26 r hm
  | 27, _ => exact cAll_of cStep_27 r hm
  | 28, _ => exact cAll_of cStep_28 r hm
  | 29, _ => exact cAll_of cStep_29 r hm
  | q + 30, h => exact absurd h (by omega)
theorem cGood_0 : cAll 487 (fun k => cGood (0 + k)) = true := by decide +kernel
theorem cGood_1 : cAll 487 (fun k => cGood (487 + k)) = true := by decide +kernel
theorem cGood_2 : cAll 487 (fun k => cGood (974 + k)) = true := by decide +kernel
theorem cGood_3 : cAll 487 (fun k => cGood (1461 + k)) = true := by decide +kernel
theorem cGood_4 : cAll 487 (fun k => cGood (1948 + k)) = true := by decide +kernel
theorem cGood_5 : cAll 487 (fun k => cGood (2435 + k)) = true := by decide +kernel
theorem cGood_6 : cAll 487 (fun k => cGood (2922 + k)) = true := by decide +kernel
theorem cGood_7 : cAll 487 (fun k => cGood (3409 + k)) = true := by decide +kernel
theorem cGood_8 : cAll 487 (fun k => cGood (3896 + k)) = true := by decide +kernel
theorem cGood_9 : cAll 487 (fun k => cGood (4383 + k)) = true := by decide +kernel
theorem cGood_10 : cAll 487 (fun k => cGood (4870 + k)) = true := by decide +kernel
theorem cGood_11 : cAll 487 (fun k => cGood (5357 + k)) = true := by decide +kernel
theorem cGood_12 : cAll 487 (fun k => cGood (5844 + k)) = true := by decide +kernel
theorem cGood_13 : cAll 487 (fun k => cGood (6331 + k)) = true := by decide +kernel
theorem cGood_14 : cAll 487 (fun k => cGood (6818 + k)) = true := by decide +kernel
theorem cGood_15 : cAll 487 (fun k => cGood (7305 + k)) = true := by decide +kernel
theorem cGood_16 : cAll 487 (fun k => cGood (7792 + k)) = true := by decide +kernel
theorem cGood_17 : cAll 487 (fun k => cGood (8279 + k)) = true := by decide +kernel
theorem cGood_18 : cAll 487 (fun k => cGood (8766 + k)) = true := by decide +kernel
theorem cGood_19 : cAll 487 (fun k => cGood (9253 + k)) = true := by decide +kernel
theorem cGood_20 : cAll 487 (fun k => cGood (9740 + k)) = true := by decide +kernel
theorem cGood_21 : cAll 487 (fun k => cGood (10227 + k)) = true := by decide +kernel
theorem cGood_22 : cAll 487 (fun k => cGood (10714 + k)) = true := by decide +kernel
theorem cGood_23 : cAll 487 (fun k => cGood (11201 + k)) = true := by decide +kernel
theorem cGood_24 : cAll 487 (fun k => cGood (11688 + k)) = true := by decide +kernel
theorem cGood_25 : cAll 487 (fun k => cGood (12175 + k)) = true := by decide +kernel
theorem cGood_26 : cAll 487 (fun k => cGood (12662 + k)) = true := by decide +kernel
theorem cGood_27 : cAll 487 (fun k => cGood (13149 + k)) = true := by decide +kernel
theorem cGood_28 : cAll 487 (fun k => cGood (13636 + k)) = true := by decide +kernel
theorem cGood_29 : cAll 487 (fun k => cGood (14123 + k)) = true := by decide +kernel
theorem cGood_all : ∀ k, k < 14610 → cGood k = true := by
  intro k hk
  have hq : k = 487 * (k / 487) + k % 487 := by omega
  have hm : k % 487 < 487 := by omega
  have hd : k / 487 < 30 := by omega
  generalize k / 487 = q at hq hd
  generalize k % 487 = r at hq hm
  subst hq
  match q, hd with
  | 0, _ => exact cAll_of cGood_0 r hm
  | 1, _ => exact cAll_of cGood_1 r hm
  | 2, _ => exact cAll_of cGood_2 r hm
  | 3, _ => exact cAll_of cGood_3 r hm
  | 4, _ => exact cAll_of cGood_4 r hm
  | 5, _ => exact cAll_of cGood_5 r hm
  | 6, _ => exact cAll_of cGood_6 r hm
  | 7, _ => exact cAll_of cGood_7 r hm
  | 8, _ => exact cAll_of cGood_8 r hm
  | 9, _ => exact cAll_of cGood_9 r hm
  | 10, _ => exact cAll_of cGood_10 r hm
  | 11, _ => exact cAll_of cGood_11 r hm
  | 12, _ => exact cAll_of cGood_12 r hm
  | 13, _ => exact cAll_of cGood_13 r hm
  | 14, _ => exact cAll_of cGood_14 r hm
  | 15, _ => exact cAll_of cGood_15 r hm
  | 16, _ => exact cAll_of cGood_16 r hm
  | 17, _ => exact cAll_of cGood_17 r hm
  | 18, _ => exact cAll_of cGood_18 r hm
  | 19, _ => exact cAll_of cGood_19 r hm
  | 20, _ => exact cAll_of cGood_20 r hm
  | 21, _ => exact cAll_of cGood_21 r hm
  | 22, _ => exact cAll_of cGood_22 r hm
  | 23, _ => exact cAll_of cGood_23 r hm
  | 24, _ => exact cAll_of cGood_24 r hm
  | 25, _ => exact cAll_of cGood_25 r hm
  | 26, _ => exact cAll_of cGood_26 r hm
  | 27, _ => exact cAll_of cGood_27 r hm
  | 28, _ => exact cAll_of cGood_28 r hm
  | 29, _ => exact cAll_of cGood_29 r hm
  | q + 30, h => exact absurd h (by omega)
theorem cBack_0 : cAll 40 (fun y => cAll 13 (fun m => cAll 32 (fun d => m == 0 || d == 0 || cBack y m d))) = true := by decide +kernel
theorem cBack_all {y m d : Nat} (hy : y < 40) (h1 : 1 ≤ m) (h2 : m ≤ 12) (h3 : 1 ≤ d) (h4 : d ≤ cLn y m) (h5 : d ≤ 31) : cF y + cA y m + d - 1 < 14610 ∧ cY (cF y + cA y m + d - 1) = y ∧ cM (cF y + cA y m + d - 1) = m ∧ cD (cF y + cA y m + d - 1) = d := by
  have a := cAll_of (cAll_of (cAll_of cBack_0 y hy) m (by omega)) d (by omega)
  have e1 : (m == 0) = false := by simp; omega
  have e2 : (d == 0) = false := by simp; omega
  rw [e1, e2, Bool.false_or, Bool.false_or] at a
  unfold cBack at a
  rw [show decide (d ≤ cLn y m) = true by simp [h4]] at a
  simpa [and_assoc] using a
theorem cGood_all' {k : Nat} (h : k < 14610) : cY k < 40 ∧ 1 ≤ cM k ∧ cM k ≤ 12 ∧ 1 ≤ cD k ∧ cD k ≤ cLn (cY k) (cM k) ∧ cF (cY k) + cA (cY k) (cM k) + cD k = k + 1 ∧ cLn (cY k) (cM k) = cLm (cY k) (cM k) ∧ cF (cY k) ≤ k ∧ cF (cY k) + cA (cY k) (cM k) ≤ k ∧ k < cF (cY k + 1) ∧ cN k ≤ cF (cY k + 1) - cF (cY k) := by
  have := cGood_all k h
  unfold cGood at this
  simpa [and_assoc] using this
