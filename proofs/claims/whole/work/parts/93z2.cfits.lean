/-! FITS AND TELLS of the class -/
theorem cnt_at {F : Nat → Bool} {x : Nat} : ∀ n, x < cnt F 0 n → ∃ i, i < n ∧ F i = true ∧ cnt F 0 i = x := by
  intro n
  induction n with
  | zero => intro h; exact absurd h (Nat.not_lt_zero x)
  | succ n ih =>
    intro h
    rw [cnt_succ, Nat.zero_add] at h
    by_cases c : x < cnt F 0 n
    · obtain ⟨i, a, b, d⟩ := ih c
      exact ⟨i, by omega, b, d⟩
    · cases hF : F n with
      | false => rw [hF, if_neg (show ¬ false = true by decide)] at h; omega
      | true => rw [hF, if_pos rfl] at h; exact ⟨n, by omega, hF, by omega⟩
def aFits (R : RuL) (m : Nat) (sd : Nat → Nat) (so : Nat → Bool) (x : Int) : Int32 := if x = -1 then iZ (toT R m sd so : Nat) else if x < 0 then -1 else if nt (fF R m sd so) 60 0 x.toNat = -1 then -1 else iZ (nt (fF R m sd so) 60 0 x.toNat + 1)
def aTell (R : RuL) (m : Nat) (sd : Nat → Nat) (so : Nat → Bool) (x : Int) : Int32 := if 0 ≤ x ∧ x ≤ 1 then (if x = 0 then iZ (tlR R m sd so).1 else iZ (tlR R m sd so).2) else -1
section gFt
variable {X : Nat × (Nat → Int32)} {v : Vt} {I : Nat → Nat → Int32} {J : Nat → Nat → Int64} {R : RuL} {m q : Nat} {sd : Nat → Nat} {so : Nat → Bool}
theorem cq_fits0 {x : Int32} (h8 : I 188 8 = 0) : fX11_fits 50 x (mkS X I J v) = some (-1, mkS X I J v) := by
  unfold fX11_fits
  simp only [bO, o50R, o188, h8]
  rw [if_pos trivial]
theorem cq_tells0 {x : Int32} (h8 : I 188 8 = 0) : fX11_tells 50 x (mkS X I J v) = some (-1, mkS X I J v) := by
  unfold fX11_tells
  simp only [bO, o50R, o188, h8]
  rw [if_pos trivial]
theorem cq_fits {x : Int} (x1 : -2147483648 ≤ x) (x2 : x < 2147483648) (hq : isRule q) (hv : v.2.2.2.2.2 = q) (hR : cRl I q R) (ok : RuLok R) (hs : cSd I m sd so) (hm : 1 ≤ m) (hw : I 188 7 = 0 ∨ (I 188 7 = 1 ∧ wO I R m sd so)) : ∃ I' J', fX11_fits 50 (iZ x) (mkS X I J v) = some (aFits R m sd so x, mkS X I' J' v) ∧ frWo I I' ∧ (∀ a, a ≠ 190 → J' a = J a) ∧ I' 188 7 = 1 ∧ wO I' R m sd so := by
  have hm12 := hs.1
  obtain ⟨w1, w2⟩ := row194
  obtain ⟨I1, J1, a1, a2, a3, a4, a5⟩ := c_workOut (X := X) (J := J) hq hv hR ok hs hm hw
  refine ⟨I1, J1, ?_, a2, a3, a4, a5⟩
  obtain ⟨o1, o2, o3, o4⟩ := a5
  have ht60 : toT R m sd so ≤ 60 := cnt_le _ _ _
  unfold fX11_fits
  simp only [bO, o50R, o188, hs.2.1]
  rw [if_neg (by rw [cL_eq (by omega) (by omega) (by decide)]; omega)]
  simp only [a1, gb2_some, bO, o50R, o188, o1]
  unfold aFits
  by_cases c : x = -1
  · rw [if_pos (by rw [c]; rfl), if_pos c]
  · rw [if_neg (by rw [cM_eq (by omega) (by omega)]; exact c), if_neg c]
    unfold fX9_fitAt
    simp only [bO, o188R, row_i w1]
    by_cases c1 : x < 0
    · rw [if_pos (by rw [cL_lt (by omega) (by omega) (by decide)]; exact c1), if_pos c1]
      rfl
    · rw [if_neg (by rw [cL_lt (by omega) (by omega) (by decide)]; exact c1), if_neg c1]
      obtain ⟨y, rfl⟩ : ∃ n : Nat, x = (n : Int) := ⟨x.toNat, by omega⟩
      rw [Int.toNat_natCast, o2.1]
      have ec : cnt (fF R m sd so) 0 60 = toT R m sd so := rfl
      by_cases c2 : y < cnt (fF R m sd so) 0 60
      · obtain ⟨i, i1, i2, i3⟩ := cnt_at 60 c2
        have hnt : nt (fF R m sd so) 60 0 y = (i : Int) := nt_found (Nat.zero_le _) (by omega) i2 i3
        rw [if_pos (by rw [iZ_lt (by omega) (by omega) (by omega) (by omega)]; omega), row_c w1, row_value w1 o2.1 (by omega) c2, gb2_some, hnt, if_neg (by omega)]
        have := o2.2 i i1 i2
        rw [i3] at this
        rw [gb2_some, this]
        rfl
      · rw [if_neg (by rw [iZ_lt (by omega) (by omega) (by omega) (by omega)]; omega), nt_none (by omega), if_pos rfl]
        rfl
theorem cq_tells {x : Int} (x1 : -2147483648 ≤ x) (x2 : x < 2147483648) (hq : isRule q) (hv : v.2.2.2.2.2 = q) (hR : cRl I q R) (ok : RuLok R) (hs : cSd I m sd so) (hm : 1 ≤ m) (hw : I 188 7 = 0 ∨ (I 188 7 = 1 ∧ wO I R m sd so)) : ∃ I' J', fX11_tells 50 (iZ x) (mkS X I J v) = some (aTell R m sd so x, mkS X I' J' v) ∧ frWo I I' ∧ (∀ a, a ≠ 190 → J' a = J a) ∧ (I' 188 7 = 0 ∨ (I' 188 7 = 1 ∧ wO I' R m sd so)) := by
  have hm12 := hs.1
  unfold fX11_tells
  simp only [bO, o50R, o188, hs.2.1]
  rw [if_neg (by rw [cL_eq (by omega) (by omega) (by decide)]; omega)]
  unfold aTell
  by_cases c1 : x < 0
  · rw [if_pos (by rw [cL_lt (by omega) (by omega) (by decide)]; exact c1), if_neg (by omega)]
    exact ⟨I, J, rfl, fun _ _ _ _ _ => rfl, fun _ _ => rfl, hw⟩
  · rw [if_neg (by rw [cL_lt (by omega) (by omega) (by decide)]; exact c1)]
    by_cases c2 : 1 < x
    · rw [if_pos (by rw [cR_lt (by omega) (by omega) (by decide)]; exact c2), if_neg (by omega)]
      exact ⟨I, J, rfl, fun _ _ _ _ _ => rfl, fun _ _ => rfl, hw⟩
    · rw [if_neg (by rw [cR_lt (by omega) (by omega) (by decide)]; exact c2), if_pos (by omega)]
      obtain ⟨I1, J1, a1, a2, a3, a4, a5⟩ := c_workOut (X := X) (J := J) hq hv hR ok hs hm hw
      refine ⟨I1, J1, ?_, a2, a3, Or.inr ⟨a4, a5⟩⟩
      obtain ⟨o1, o2, o3, o4⟩ := a5
      simp only [a1, gb2_some, bO, o50R, o188, o3, o4]
      by_cases c3 : x = 0
      · rw [if_pos (by rw [c3]; rfl), if_pos c3]
      · rw [if_neg (by rw [cL_eq (by omega) (by omega) (by decide)]; exact c3), if_neg c3]
end gFt
