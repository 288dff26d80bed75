/-! WHAT FITS, of the class: all numbers are tried -/
section gWm
variable {X : Nat × (Nat → Int32)} {v : Vt} {R : RuL} {m : Nat} {sd : Nat → Nat} {so : Nat → Bool}
def fF (R : RuL) (m : Nat) (sd : Nat → Nat) (so : Nat → Bool) (i : Nat) : Bool := fitB R m sd so (i + 1)
/-- how many of the first k fitting numbers have a day -/
def yC (R : RuL) (m : Nat) (sd : Nat → Nat) (so : Nat → Bool) (k d : Nat) : Nat := cnt (fun i => fF R m sd so i && rDay R (i + 1) d) 0 k
theorem yC_le {k d : Nat} : yC R m sd so k d ≤ k := cnt_le _ _ _
/-- the row of the numbers that fit -/
def fRow (I : Nat → Nat → Int32) (F : Nat → Bool) (k : Nat) : Prop := I 194 1 = iZ (cnt F 0 k : Nat) ∧ ∀ i, i < k → F i = true → I 195 (cnt F 0 i) = iZ ((i + 1 : Nat) : Int)
theorem row194 : isRow 194 ∧ rowCap 194 = 60 := by
  have : rowCap 194 = 60 := by unfold rowCap; rfl
  exact ⟨by unfold isRow; rw [this]; decide, this⟩
/-- what trying writes -/
def frWk (I I' : Nat → Nat → Int32) : Prop := ∀ a k, ¬ (57 ≤ a ∧ a ≤ 59) → ¬ (193 ≤ a ∧ a ≤ 195) → I' a k = I a k
theorem c_workL {K : gH → Option (Unit × gH)} {q f0 len : Nat} (hq : isRule q) (hv : v.2.2.2.2.2 = q) (ok : RuLok R) (hl : len ≤ 366) (h14 : f0 + len ≤ 14610) : ∀ (j k fuel : Nat) (I : Nat → Nat → Int32) (J : Nat → Nat → Int64), k + j = 60 → j < fuel → cRl I q R → cSd I m sd so → fRow I (fF R m sd so) k → (∀ i, i < len → I 193 i = iZ (yC R m sd so k (f0 + i) : Nat)) → ∃ I' J', gX9_workOut_L65 K 188 (iZ (f0 : Int)) (iZ (len : Int)) fuel (iZ ((k + 1 : Nat) : Int)) (mkS X I J v) = K (mkS X I' J' v) ∧ frWk I I' ∧ (∀ a, a ≠ 190 → J' a = J a) ∧ fRow I' (fF R m sd so) 60 ∧ ∀ i, i < len → I' 193 i = iZ (yC R m sd so 60 (f0 + i) : Nat) := by
  have hq2 := (rule_all hq).2.2.2.2.2.1
  obtain ⟨w1, w2⟩ := row194
  intro j
  induction j with
  | zero =>
    intro k fuel I J hk hf hR hs hr hy
    obtain ⟨f, rfl⟩ : ∃ n, fuel = n + 1 := ⟨fuel - 1, by omega⟩
    have k60 : k = 60 := by omega
    subst k60
    refine ⟨I, J, ?_, fun _ _ _ _ => rfl, fun _ _ => rfl, hr, hy⟩
    unfold gX9_workOut_L65
    rw [if_pos (by rw [cR_lt (by omega) (by omega) (by decide)]; omega)]
  | succ j ih =>
    intro k fuel I J hk hf hR hs hr hy
    obtain ⟨f, rfl⟩ : ∃ n, fuel = n + 1 := ⟨fuel - 1, by omega⟩
    unfold gX9_workOut_L65
    rw [if_neg (by rw [cR_lt (by omega) (by omega) (by decide)]; omega)]
    simp only [bO, o188R, hv, o57]
    obtain ⟨I1, J1, a1, a2, a3, a4⟩ := c_fill (X := X) (v := v) (J := J) (r := 189) (n := k + 1) hq ds189 hR ok (by omega) (by omega)
    rw [a1, gb2_some]
    have g1 : ∀ a k, ¬ (57 ≤ a ∧ a ≤ 59) → I1 a k = I a k := fun a k x => a2 a k (by omega) (by omega) (by omega)
    have hs1 : cSd I1 m sd so := ⟨hs.1, by rw [g1 188 8 (by decide)]; exact hs.2.1, fun i hi => by
      obtain ⟨x, y, z⟩ := hs.2.2 i hi
      exact ⟨x, by rw [g1 191 i (by decide)]; exact y, by rw [g1 192 i (by decide)]; exact z⟩⟩
    have hR1 : cRl I1 q R := cRl_F hq hR a2
    simp only [o188, c_isSo hs1 a4, gb2_some, aL]
    rw [show ((k + 1 : Nat) : Int) + 1 = ((k + 1 + 1 : Nat) : Int) by omega]
    have yS : ∀ d, yC R m sd so (k + 1) d = yC R m sd so k d + (if (fF R m sd so k && rDay R (k + 1) d) = true then 1 else 0) := fun d => by
      unfold yC
      rw [cnt_succ, Nat.zero_add]
    have cS : cnt (fF R m sd so) 0 (k + 1) = cnt (fF R m sd so) 0 k + (if fF R m sd so k = true then 1 else 0) := by rw [cnt_succ, Nat.zero_add]
    have ef : fitB R m sd so (k + 1) = fF R m sd so k := rfl
    rw [ef]
    cases hF : fF R m sd so k with
    | false =>
      rw [if_pos tf_f]
      obtain ⟨I', J', b1, b2, b3, b4, b5⟩ := ih (k + 1) f I1 J1 (by omega) (by omega) hR1 hs1 ⟨by rw [cS, hF, g1 194 1 (by decide)]; exact hr.1, fun i hi hFi => by
        have hik : i ≠ k := fun q => by rw [q, hF] at hFi; cases hFi
        rw [g1 195 _ (by decide)]
        exact hr.2 i (by omega) hFi⟩ (fun i hi => by rw [g1 193 i (by decide), hy i hi, yS, hF]; rfl)
      exact ⟨I', J', b1, fun a k x y => by rw [b2 a k x y, g1 a k x], fun a x => by rw [b3 a x, a3 a (by omega)], b4, b5⟩
    | true =>
      rw [if_neg (show ¬ tf true = 0 by decide)]
      have hck := cnt_le (fF R m sd so) 0 k
      have ap := row_append (X := X) (v := v) (J := J1) (I := I1) (r := 194) (n := cnt (fF R m sd so) 0 k) (x := iZ ((k + 1 : Nat) : Int)) w1 (by rw [g1 194 1 (by decide)]; exact hr.1) (by omega)
      rw [if_pos (by omega)] at ap
      simp only [bO, o188R, row_c w1, ap, gb2_some, o188]
      obtain ⟨I2, hI2⟩ : ∃ I2, I2 = gup (gup I1 (194 + 1) (cnt (fF R m sd so) 0 k) (iZ ((k + 1 : Nat) : Int))) 194 1 (iZ ((cnt (fF R m sd so) 0 k + 1 : Nat) : Int)) := ⟨_, rfl⟩
      rw [← hI2]
      have g2 : ∀ a k, a ≠ 194 → a ≠ 195 → I2 a k = I1 a k := fun a k x y => by rw [hI2, gup_r x, gup_r y]
      obtain ⟨I3, c1, c2, c3⟩ := c_yearL (X := X) (v := v) (J := J1) (R := R) (n := k + 1) (f0 := f0) (len := len) (c := fun i => yC R m sd so k (f0 + i)) hl h14 (fun i hi => by have := yC_le (R := R) (m := m) (sd := sd) (so := so) (k := k) (d := f0 + i); omega) a4 len 0 20000 I2 (by omega) (by omega) (fun i hi => by rw [g2 193 i (by decide) (by decide), g1 193 i (by decide), hy i hi, if_neg (fun w => by omega)]; rfl)
      have hcy : fX9_countYear 188 (iZ (f0 : Int)) (iZ (len : Int)) (mkS X I2 J1 v) = some ((), mkS X I3 J1 v) := c1
      rw [hcy, gb2_some]
      have g3 : ∀ a k, ¬ (57 ≤ a ∧ a ≤ 59) → ¬ (193 ≤ a ∧ a ≤ 195) → I3 a k = I a k := fun a k x y => by rw [c2 a k (by omega), g2 a k (by omega) (by omega), g1 a k x]
      obtain ⟨I', J', b1, b2, b3, b4, b5⟩ := ih (k + 1) f I3 J1 (by omega) (by omega) (cRl_fr hR1 (fun a k x y => by rw [c2 a k (by omega), g2 a k (by omega) (by omega)])) ⟨hs.1, by rw [g3 188 8 (by decide) (by decide)]; exact hs.2.1, fun i hi => by
          obtain ⟨x, y, z⟩ := hs.2.2 i hi
          exact ⟨x, by rw [g3 191 i (by decide) (by decide)]; exact y, by rw [g3 192 i (by decide) (by decide)]; exact z⟩⟩ ⟨by rw [cS, hF, if_pos rfl, c2 194 1 (by decide), hI2, gup_s], fun i hi hFi => by
          by_cases q : i = k
          · subst q
            rw [c2 195 _ (by decide), hI2, gup_r (by decide), gup_s]
          · have hlt := cnt_before (P := fF R m sd so) (a := 0) (i := i) (j := k) (by omega) (by rw [Nat.zero_add]; exact hFi)
            rw [c2 195 _ (by decide), hI2, gup_r (by decide), gup_k (by omega), g1 195 _ (by decide)]
            exact hr.2 i (by omega) hFi⟩ (fun i hi => by rw [c3 i hi, yS, hF, Bool.true_and])
      exact ⟨I', J', b1, fun a k x y => by rw [b2 a k x y, g3 a k x y], fun a x => by rw [b3 a x, a3 a (by omega)], b4, b5⟩
end gWm
