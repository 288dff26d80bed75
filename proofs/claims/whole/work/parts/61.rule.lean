/-! RULES: what they say, in numbers -/
def exF (P : Nat → Bool) : Nat → Nat → Bool
  | _, 0 => false
  | k, m + 1 => P k || exF P (k + 1) m
theorem exF_iff {P : Nat → Bool} : ∀ {m k : Nat}, exF P k m = true ↔ ∃ j, k ≤ j ∧ j < k + m ∧ P j = true := by
  intro m
  induction m with
  | zero =>
    intro k
    constructor
    · intro h; cases h
    · rintro ⟨j, a, b, -⟩; omega
  | succ m ih =>
    intro k
    show (P k || exF P (k + 1) m) = true ↔ _
    rw [Bool.or_eq_true, ih]
    constructor
    · rintro (h | ⟨j, a, b, c⟩)
      · exact ⟨k, by omega, by omega, h⟩
      · exact ⟨j, by omega, by omega, c⟩
    · rintro ⟨j, a, b, c⟩
      by_cases q : j = k
      · exact Or.inl (q ▸ c)
      · exact Or.inr ⟨j, by omega, by omega, c⟩
theorem exF_congr {P Q : Nat → Bool} : ∀ {m k : Nat}, (∀ j, k ≤ j → j < k + m → P j = Q j) → exF P k m = exF Q k m := by
  intro m
  induction m with
  | zero => intro k _; rfl
  | succ m ih =>
    intro k h
    show (P k || exF P (k + 1) m) = (Q k || exF Q (k + 1) m)
    rw [h k (by omega) (by omega), ih (fun j a b => h j (by omega) (by omega))]
/-- bits of an int -/
def ib (x : Int32) (k : Nat) : Bool := x.toBitVec.getLsbD k
theorem sh32 : ∀ s : Nat, s < 32 → (iZ (s : Int) &&& 31).toBitVec.smod 32 = BitVec.ofNat 32 s := by decide +kernel
theorem ib_shr {x : Int32} {k : Nat} (hk : k < 32) : (x >>> (iZ (k : Int) &&& 31)) &&& 1 = 0 ↔ ib x k = false := by
  have e : ib ((x >>> (iZ (k : Int) &&& 31)) &&& 1) 0 = ib x k := by
    unfold ib
    rw [Int32.toBitVec_and, BitVec.getLsbD_and, Int32.toBitVec_shiftRight, sh32 k hk]
    rw [BitVec.sshiftRight_eq', BitVec.toNat_ofNat, Nat.mod_eq_of_lt (by omega), BitVec.getLsbD_sshiftRight]
    simp [hk]
  constructor
  · intro h
    rw [← e, h]
    decide
  · intro h
    apply Int32.toBitVec_inj.mp
    apply BitVec.eq_of_getLsbD_eq
    intro i hi
    by_cases h0 : i = 0
    · subst h0
      exact e.trans h
    · rw [Int32.toBitVec_and, BitVec.getLsbD_and]
      have e1 : ∀ i, i < 32 → i ≠ 0 → (1 : Int32).toBitVec.getLsbD i = false := by decide +kernel
      rw [e1 i hi h0, Bool.and_false]
      simp
theorem ib_or {x : Int32} {k j : Nat} (hk : k < 32) (hj : j < 32) : ib (x ||| (1 <<< (iZ (k : Int) &&& 31))) j = (ib x j || decide (j = k)) := by
  unfold ib
  rw [Int32.toBitVec_or, BitVec.getLsbD_or, Int32.toBitVec_shiftLeft, sh32 k hk, BitVec.shiftLeft_eq', BitVec.toNat_ofNat, Nat.mod_eq_of_lt (by omega), BitVec.getLsbD_shiftLeft, decide_eq_true hj, Bool.true_and]
  have e1 : ∀ i, i < 32 → (1 : Int32).toBitVec.getLsbD i = decide (i = 0) := by decide +kernel
  rw [e1 _ (by omega)]
  congr 1
  by_cases h : j = k
  · subst h; simp
  · rw [decide_eq_false h]
    by_cases h2 : j < k
    · simp [h2]
    · rw [decide_eq_false (show ¬ j - k = 0 by omega), Bool.and_false]
theorem ib_0 (k : Nat) : ib 0 k = false := by unfold ib; rw [Int32.toBitVec_zero]; simp
theorem ib_ne {x : Int32} {k : Nat} (h : ib x k = true) : x ≠ 0 := by
  rintro rfl
  rw [ib_0] at h
  cases h
def RuL : Type := Nat × Nat × Int32 × Nat × (Nat → Int) × Nat × (Nat → Int) × (Nat → Nat) × Nat × (Nat → Int) × Int × Int
def RuL.u (R : RuL) : Nat := R.1
def RuL.b (R : RuL) : Nat := R.2.1
def RuL.mk (R : RuL) : Int32 := R.2.2.1
def RuL.onN (R : RuL) : Nat := R.2.2.2.1
def RuL.onF (R : RuL) : Nat → Int := R.2.2.2.2.1
def RuL.byN (R : RuL) : Nat := R.2.2.2.2.2.1
def RuL.byP (R : RuL) : Nat → Int := R.2.2.2.2.2.2.1
def RuL.byW (R : RuL) : Nat → Nat := R.2.2.2.2.2.2.2.1
def RuL.atN (R : RuL) : Nat := R.2.2.2.2.2.2.2.2.1
def RuL.atF (R : RuL) : Nat → Int := R.2.2.2.2.2.2.2.2.2.1
def RuL.un (R : RuL) : Int := R.2.2.2.2.2.2.2.2.2.2.1
def RuL.ct (R : RuL) : Int := R.2.2.2.2.2.2.2.2.2.2.2
def RuL.at0 (R : RuL) (b : Nat) : RuL := (R.1, b, R.2.2)
def RuLok (R : RuL) : Prop := R.u < 4 ∧ R.b < 14610 ∧ R.onN ≤ 8 ∧ (∀ k, k < R.onN → -31 ≤ R.onF k ∧ R.onF k ≤ 31 ∧ R.onF k ≠ 0) ∧ R.byN ≤ 8 ∧ (∀ k, k < R.byN → -53 ≤ R.byP k ∧ R.byP k ≤ 53) ∧ (∀ k, k < R.byN → R.byW k < 7) ∧ R.atN ≤ 8 ∧ (∀ k, k < R.atN → -99 ≤ R.atF k ∧ R.atF k ≤ 99) ∧ (R.un = -1 ∨ (0 ≤ R.un ∧ R.un < 14610)) ∧ (R.ct = -1 ∨ (1 ≤ R.ct ∧ R.ct ≤ 999))
theorem RuLok.u {R : RuL} (h : RuLok R) : R.u < 4 := h.1
theorem RuLok.b {R : RuL} (h : RuLok R) : R.b < 14610 := h.2.1
theorem RuLok.onN {R : RuL} (h : RuLok R) : R.onN ≤ 8 := h.2.2.1
theorem RuLok.onF {R : RuL} (h : RuLok R) : ∀ k, k < R.onN → -31 ≤ R.onF k ∧ R.onF k ≤ 31 ∧ R.onF k ≠ 0 := h.2.2.2.1
theorem RuLok.byN {R : RuL} (h : RuLok R) : R.byN ≤ 8 := h.2.2.2.2.1
theorem RuLok.byP {R : RuL} (h : RuLok R) : ∀ k, k < R.byN → -53 ≤ R.byP k ∧ R.byP k ≤ 53 := h.2.2.2.2.2.1
theorem RuLok.byW {R : RuL} (h : RuLok R) : ∀ k, k < R.byN → R.byW k < 7 := h.2.2.2.2.2.2.1
theorem RuLok.atN {R : RuL} (h : RuLok R) : R.atN ≤ 8 := h.2.2.2.2.2.2.2.1
theorem RuLok.atF {R : RuL} (h : RuLok R) : ∀ k, k < R.atN → -99 ≤ R.atF k ∧ R.atF k ≤ 99 := h.2.2.2.2.2.2.2.2.1
theorem RuLok.un {R : RuL} (h : RuLok R) : R.un = -1 ∨ (0 ≤ R.un ∧ R.un < 14610) := h.2.2.2.2.2.2.2.2.2.1
theorem RuLok.ct {R : RuL} (h : RuLok R) : R.ct = -1 ∨ (1 ≤ R.ct ∧ R.ct ≤ 999) := h.2.2.2.2.2.2.2.2.2.2
def RuL.In (R : RuL) (d : Nat) : Bool := R.mk == 0 || ib R.mk (cM d)
def RuL.On (R : RuL) (d : Nat) : Bool := exF (fun k => if 0 < R.onF k then ((cD d : Nat) : Int) == R.onF k else ((cD d : Nat) : Int) == (cLm (cY d) (cM d) : Nat) + 1 + R.onF k) 0 R.onN
def RuL.By (R : RuL) (d : Nat) : Bool := exF (fun k => R.byW k == (d + 5) % 7) 0 R.byN
def RuL.Pl (R : RuL) (d n many : Nat) : Bool := exF (fun k => R.byW k == (d + 5) % 7 && (R.byP k == 0 || R.byP k == (((n - 1) / 7 + 1 : Nat) : Int) || R.byP k == -(((many - n) / 7 + 1 : Nat) : Int))) 0 R.byN
def RuL.Mo (R : RuL) (d : Nat) : Bool := if 0 < R.onN then R.On d && (R.byN == 0 || R.By d) else if 0 < R.byN then R.Pl d (cD d) (cLm (cY d) (cM d)) else cD d == cD R.b
def RuL.Yr (R : RuL) (d : Nat) : Bool := if R.mk ≠ 0 ∨ 0 < R.onN then R.In d && R.Mo d else if 0 < R.byN then R.Pl d (cN d) (if cY d % 4 = 0 then 366 else 365) else cM d == cM R.b && cD d == cD R.b
def RuL.Of (R : RuL) (d : Nat) : Bool :=
  if R.u = 0 then R.In d && (R.onN == 0 || R.On d) && (R.byN == 0 || R.By d)
  else if R.u = 1 then R.In d && (R.onN == 0 || R.On d) && (if 0 < R.byN then R.By d else (d + 5) % 7 == (R.b + 5) % 7)
  else if R.u = 2 then R.In d && R.Mo d
  else R.Yr d
/-! the objects of rules -/
def isRuleb (q : Nat) : Bool := (decide (202 ≤ q) && decide (q < 232) && (q - 202) % 5 == 0) || (decide (237 ≤ q) && decide (q < 267) && (q - 237) % 5 == 0)
def isRule (q : Nat) : Prop := isRuleb q = true
set_option maxRecDepth 20000 in
theorem ruleT : ∀ q, q < 267 → isRuleb q = true → 202 ≤ q ∧ q + 4 < 267 ∧ layK.getD (q - 50) 0 = 9 ∧ rowCap (q + 1) = 8 ∧ rowCap (q + 3) = 8 ∧ 14 < (layR.getD (q - 50) []).length ∧ (layR.getD (q - 50) []).getD 13 0 = q + 1 ∧ (layR.getD (q - 50) []).getD 14 0 = q + 3 := by decide +kernel
theorem rule_all {q : Nat} (h : isRule q) : gK cst q = 8 + 1 ∧ rowCap (q + 1) = 8 ∧ rowCap (q + 3) = 8 ∧ gR cst q 13 = q + 1 ∧ gR cst q 14 = q + 3 ∧ 202 ≤ q ∧ q + 4 < 267 := by
  have hq : q < 267 := by
    unfold isRule isRuleb at h
    simp only [Bool.or_eq_true, Bool.and_eq_true, decide_eq_true_eq, beq_iff_eq] at h
    omega
  obtain ⟨t0, t1, t2, t3, t4, t5, t6, t7⟩ := ruleT q hq h
  refine ⟨?_, t3, t4, ?_, ?_, t0, t1⟩
  · rw [cK q (by omega) (by omega), t2]
  · rw [cR q 13 (by omega) (by omega) (by omega), t6]
  · rw [cR q 14 (by omega) (by omega) (by omega), t7]
section gRl
variable {X : Nat × (Nat → Int32)} {I : Nat → Nat → Int32} {J : Nat → Nat → Int64} {v : Vt} {q : Nat}
theorem rl_c (h : isRule q) (I : Nat → Nat → Int32) (J : Nat → Nat → Int64) {β : Type} (o : Option β) : gcv (mkS X I J v) q 8 o = o := gcv_mk (rule_all h).1
theorem rl_i (h : isRule q) (I : Nat → Nat → Int32) (J : Nat → Nat → Int64) {k : Nat} : ggI (mkS X I J v) q 8 k = some (I q k) := ggI_mk (rule_all h).1
theorem rl_p (h : isRule q) (I : Nat → Nat → Int32) (J : Nat → Nat → Int64) {k : Nat} {x : Int32} : spI (mkS X I J v) q 8 k x = some (mkS X (gup I q k x) J v) := spI_mk (rule_all h).1
theorem rl_by (h : isRule q) (I : Nat → Nat → Int32) (J : Nat → Nat → Int64) : ggR (mkS X I J v) q 8 13 = some (q + 1) := by
  obtain ⟨h1, h2, h3, h4, h5, h6, h7⟩ := rule_all h
  rw [ggR_mk h1]
  congr 1
  unfold Rv
  rw [if_neg (by omega), if_neg (by omega), if_neg (by omega), if_neg (by omega), if_neg (by omega), if_neg (by omega)]
  exact h4
theorem rl_at (h : isRule q) (I : Nat → Nat → Int32) (J : Nat → Nat → Int64) : ggR (mkS X I J v) q 8 14 = some (q + 3) := by
  obtain ⟨h1, h2, h3, h4, h5, h6, h7⟩ := rule_all h
  rw [ggR_mk h1]
  congr 1
  unfold Rv
  rw [if_neg (by omega), if_neg (by omega), if_neg (by omega), if_neg (by omega), if_neg (by omega), if_neg (by omega)]
  exact h5
theorem rl_row1 (h : isRule q) : isRow (q + 1) := by unfold isRow; rw [(rule_all h).2.1]; decide
theorem rl_row3 (h : isRule q) : isRow (q + 3) := by unfold isRow; rw [(rule_all h).2.2.1]; decide
end gRl
/-- what the object of a rule holds -/
def cRl (I : Nat → Nat → Int32) (q : Nat) (R : RuL) : Prop := (I q 1 = iZ (R.u : Int)) ∧ (I q 2 = iZ (R.b : Int)) ∧ (I q 3 = iZ (cM R.b : Nat)) ∧ (I q 4 = iZ (cD R.b : Nat)) ∧ (I q 5 = iZ (((R.b + 5) % 7 : Nat) : Int)) ∧ (I q 6 = iZ R.un) ∧ (I q 7 = iZ R.ct) ∧ (I q 8 = R.mk) ∧ (∀ k, 1 ≤ k → k < 32 → (ib (I q 9) k = true ↔ ∃ j, j < R.onN ∧ R.onF j = (k : Int))) ∧ (∀ k, 1 ≤ k → k < 32 → (ib (I q 10) k = true ↔ ∃ j, j < R.onN ∧ R.onF j = -(k : Int))) ∧ (∀ k, k < 7 → (ib (I q 11) k = true ↔ ∃ j, j < R.byN ∧ R.byW j = k)) ∧ (I q 12 = iZ (R.onN : Int)) ∧ (I (q + 1) 1 = iZ (R.byN : Int)) ∧ (∀ k, k < R.byN → I (q + 2) k = iZ (8 * R.byP k + R.byW k)) ∧ (I (q + 3) 1 = iZ (R.atN : Int)) ∧ (∀ k, k < R.atN → I (q + 4) k = iZ (R.atF k))
theorem cRl.u {I : Nat → Nat → Int32} {q : Nat} {R : RuL} (h : cRl I q R) : I q 1 = iZ (R.u : Int) := h.1
theorem cRl.b {I : Nat → Nat → Int32} {q : Nat} {R : RuL} (h : cRl I q R) : I q 2 = iZ (R.b : Int) := h.2.1
theorem cRl.bm {I : Nat → Nat → Int32} {q : Nat} {R : RuL} (h : cRl I q R) : I q 3 = iZ (cM R.b : Nat) := h.2.2.1
theorem cRl.bd {I : Nat → Nat → Int32} {q : Nat} {R : RuL} (h : cRl I q R) : I q 4 = iZ (cD R.b : Nat) := h.2.2.2.1
theorem cRl.bw {I : Nat → Nat → Int32} {q : Nat} {R : RuL} (h : cRl I q R) : I q 5 = iZ (((R.b + 5) % 7 : Nat) : Int) := h.2.2.2.2.1
theorem cRl.un {I : Nat → Nat → Int32} {q : Nat} {R : RuL} (h : cRl I q R) : I q 6 = iZ R.un := h.2.2.2.2.2.1
theorem cRl.ct {I : Nat → Nat → Int32} {q : Nat} {R : RuL} (h : cRl I q R) : I q 7 = iZ R.ct := h.2.2.2.2.2.2.1
theorem cRl.mk {I : Nat → Nat → Int32} {q : Nat} {R : RuL} (h : cRl I q R) : I q 8 = R.mk := h.2.2.2.2.2.2.2.1
theorem cRl.dt {I : Nat → Nat → Int32} {q : Nat} {R : RuL} (h : cRl I q R) : ∀ k, 1 ≤ k → k < 32 → (ib (I q 9) k = true ↔ ∃ j, j < R.onN ∧ R.onF j = (k : Int)) := h.2.2.2.2.2.2.2.2.1
theorem cRl.db {I : Nat → Nat → Int32} {q : Nat} {R : RuL} (h : cRl I q R) : ∀ k, 1 ≤ k → k < 32 → (ib (I q 10) k = true ↔ ∃ j, j < R.onN ∧ R.onF j = -(k : Int)) := h.2.2.2.2.2.2.2.2.2.1
theorem cRl.wd {I : Nat → Nat → Int32} {q : Nat} {R : RuL} (h : cRl I q R) : ∀ k, k < 7 → (ib (I q 11) k = true ↔ ∃ j, j < R.byN ∧ R.byW j = k) := h.2.2.2.2.2.2.2.2.2.2.1
theorem cRl.onN {I : Nat → Nat → Int32} {q : Nat} {R : RuL} (h : cRl I q R) : I q 12 = iZ (R.onN : Int) := h.2.2.2.2.2.2.2.2.2.2.2.1
theorem cRl.byN {I : Nat → Nat → Int32} {q : Nat} {R : RuL} (h : cRl I q R) : I (q + 1) 1 = iZ (R.byN : Int) := h.2.2.2.2.2.2.2.2.2.2.2.2.1
theorem cRl.byF {I : Nat → Nat → Int32} {q : Nat} {R : RuL} (h : cRl I q R) : ∀ k, k < R.byN → I (q + 2) k = iZ (8 * R.byP k + R.byW k) := h.2.2.2.2.2.2.2.2.2.2.2.2.2.1
theorem cRl.atN {I : Nat → Nat → Int32} {q : Nat} {R : RuL} (h : cRl I q R) : I (q + 3) 1 = iZ (R.atN : Int) := h.2.2.2.2.2.2.2.2.2.2.2.2.2.2.1
theorem cRl.atF {I : Nat → Nat → Int32} {q : Nat} {R : RuL} (h : cRl I q R) : ∀ k, k < R.atN → I (q + 4) k = iZ (R.atF k) := h.2.2.2.2.2.2.2.2.2.2.2.2.2.2.2
