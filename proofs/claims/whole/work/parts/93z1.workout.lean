/-! WHAT FITS AND WHAT TELLS MOST: the class's calls -/
def toT (R : RuL) (m : Nat) (sd : Nat → Nat) (so : Nat → Bool) : Nat := cnt (fF R m sd so) 0 60
def yF (sd : Nat → Nat) : Nat := cF (cY (sd 0))
def yL (sd : Nat → Nat) : Nat := cF (cY (sd 0) + 1) - cF (cY (sd 0))
def tlR (R : RuL) (m : Nat) (sd : Nat → Nat) (so : Nat → Bool) : Int × Int := if toT R m sd so = 0 then (-1, -1) else bst (yF sd) (fun j => if j < yL sd then wM (toT R m sd so) (yC R m sd so 60 (yF sd + j)) else 0) (yL sd)
def wO (I : Nat → Nat → Int32) (R : RuL) (m : Nat) (sd : Nat → Nat) (so : Nat → Bool) : Prop := I 188 9 = iZ (toT R m sd so : Nat) ∧ fRow I (fF R m sd so) 60 ∧ I 188 10 = iZ (tlR R m sd so).1 ∧ I 188 11 = iZ (tlR R m sd so).2
section gWo
variable {X : Nat × (Nat → Int32)} {v : Vt} {I : Nat → Nat → Int32} {J : Nat → Nat → Int64} {R : RuL} {m q : Nat} {sd : Nat → Nat} {so : Nat → Bool}
def frWo (I I' : Nat → Nat → Int32) : Prop := ∀ a k, ¬ (57 ≤ a ∧ a ≤ 59) → ¬ (193 ≤ a ∧ a ≤ 195) → (a ≠ 188 ∨ (k ≠ 7 ∧ k ≠ 9 ∧ k ≠ 10 ∧ k ≠ 11)) → I' a k = I a k
theorem yFL (h : sd 0 < 14610) : yL sd ≤ 366 ∧ yF sd + yL sd ≤ 14610 ∧ cY (sd 0) < 40 := by
  have hy := (cGood_all' h).1
  unfold yL yF cF
  omega
theorem yC_toT {d : Nat} : yC R m sd so 60 d ≤ toT R m sd so := by
  unfold yC toT
  have : ∀ k, cnt (fun i => fF R m sd so i && rDay R (i + 1) d) 0 k ≤ cnt (fF R m sd so) 0 k := by
    intro k
    induction k with
    | zero => exact Nat.le_refl _
    | succ k ih =>
      rw [cnt_succ, cnt_succ, Nat.zero_add]
      cases fF R m sd so k with
      | false => rw [Bool.false_and]; exact ih
      | true =>
        rw [Bool.true_and]
        split
        · have : (if true = true then 1 else 0) = 1 := rfl
          omega
        · omega
  exact this 60
theorem c_workOut (hq : isRule q) (hv : v.2.2.2.2.2 = q) (hR : cRl I q R) (ok : RuLok R) (hs : cSd I m sd so) (hm : 1 ≤ m) (hw : I 188 7 = 0 ∨ (I 188 7 = 1 ∧ wO I R m sd so)) : ∃ I' J', fX9_workOut 188 (mkS X I J v) = some ((), mkS X I' J' v) ∧ frWo I I' ∧ (∀ a, a ≠ 190 → J' a = J a) ∧ I' 188 7 = 1 ∧ wO I' R m sd so := by
  have hq2 := (rule_all hq).2.2.2.2.2.1
  obtain ⟨w1, w2⟩ := row194
  obtain ⟨d1, d2, d3⟩ := hs.2.2 0 (by omega)
  obtain ⟨y1, y2, y3⟩ := yFL (sd := sd) d1
  rcases hw with hw | ⟨hw, hO⟩
  · have e0 : gaI (mkS X I J v) 191 2 0 = some (iZ (sd 0 : Nat)) := by
      have := a191 X I J v 0 (by decide); rw [d2] at this; exact this
    obtain ⟨I1, a1, a2, a3, a4⟩ := c_fill193 (X := X) (v := v) (J := J) 366 0 20000 I (by decide) (by decide)
    have hfill : fJ7_fill_53178 193 0 (mkS X I J v) = some ((), mkS X I1 J v) := by
      unfold fJ7_fill_53178
      simp only [n193, bO]
      exact a1
    have elen : gmin (iZ 366) (iZ (cF (cY (sd 0) + 1) : Nat) - iZ (cF (cY (sd 0)) : Nat)) = iZ (yL sd : Nat) := by
      have e40 : cF (cY (sd 0) + 1) ≤ 14610 := by unfold cF; omega
      have ele : cF (cY (sd 0)) ≤ cF (cY (sd 0) + 1) := by unfold cF; omega
      have y1' : cF (cY (sd 0) + 1) - cF (cY (sd 0)) ≤ 366 := y1
      rw [iZ_sub, gmin_Z (by omega) (by omega) (by omega) (by omega)]
      congr 1
      unfold yL
      omega
    obtain ⟨I3, hI3⟩ : ∃ I3, I3 = gup I1 194 1 0 := ⟨_, rfl⟩
    have g3 : ∀ a k, a ≠ 193 → a ≠ 194 → I3 a k = I a k := fun a k x y => by rw [hI3, gup_r y, a2 a k x]
    have hs3 : cSd I3 m sd so := ⟨hs.1, by rw [g3 188 8 (by decide) (by decide)]; exact hs.2.1, fun i hi => by
      obtain ⟨x, y, z⟩ := hs.2.2 i hi
      exact ⟨x, by rw [g3 191 i (by decide) (by decide)]; exact y, by rw [g3 192 i (by decide) (by decide)]; exact z⟩⟩
    obtain ⟨I4, J4, b1, b2, b3, b4, b5⟩ := c_workL (X := X) (v := v) (R := R) (m := m) (sd := sd) (so := so) (K := fun s37 => (ggR s37 188 9 5).bind fun v38 => (ggI s37 v38 7 1).bind fun v39 => (spI s37 188 9 9 v39).bind fun s40 => gb2 (gcv s40 188 9 (fX9_choose 188 (iZ (yF sd : Nat)) (iZ (yL sd : Nat)) s40)) fun (_ : Unit) s42 => (spI s42 188 9 7 1).bind fun s43 => some ((), s43)) hq hv ok y1 y2 60 0 20000 I3 J (by decide) (by decide) (cRl_fr hR (fun a k x y => g3 a k (by omega) (by omega))) hs3 ⟨by rw [hI3, gup_s]; rfl, fun i hi => absurd hi (Nat.not_lt_zero i)⟩ (fun i hi => by rw [hI3, gup_r (by decide), a4 i (Nat.zero_le _) (by omega)]; rfl)
    have ht60 : toT R m sd so ≤ 60 := cnt_le _ _ _
    -- the choice
    obtain ⟨I5, hI5⟩ : ∃ I5, I5 = gup (gup (gup I4 188 9 (iZ (toT R m sd so : Nat))) 188 10 (-1)) 188 11 (-1) := ⟨_, rfl⟩
    have g5 : ∀ a k, (a ≠ 188 ∨ (k ≠ 9 ∧ k ≠ 10 ∧ k ≠ 11)) → I5 a k = I4 a k := fun a k x => by
      rw [hI5]
      rcases x with x | x
      · rw [gup_r x, gup_r x, gup_r x]
      · rw [gup_k x.2.2, gup_k x.2.1, gup_k x.1]
    have h59 : I5 188 9 = iZ (toT R m sd so : Nat) := by rw [hI5, gup_k (by decide), gup_k (by decide), gup_s]
    have h510 : I5 188 10 = -1 := by rw [hI5, gup_k (by decide), gup_s]
    have h511 : I5 188 11 = -1 := by rw [hI5, gup_s]
    have hch : ∃ I6, gX9_choose_L12 188 (iZ (yF sd : Nat)) (iZ (yL sd : Nat)) 20000 0 (mkS X I5 J4 v) = some ((), mkS X I6 J4 v) ∧ (∀ a k, (a ≠ 188 ∨ (k ≠ 10 ∧ k ≠ 11)) → I6 a k = I5 a k) ∧ I6 188 10 = iZ (tlR R m sd so).1 ∧ I6 188 11 = iZ (tlR R m sd so).2 := by
      by_cases c : toT R m sd so = 0
      · refine ⟨I5, ?_, fun _ _ _ => rfl, ?_, ?_⟩
        · rw [show (20000 : Nat) = 19999 + 1 from rfl]
          unfold gX9_choose_L12
          simp only [bO, o188, h59, c]
          rw [if_neg (show ¬ (0 : Int32) < iZ ((0 : Nat) : Int) by decide), ite_self]
        · unfold tlR; rw [if_pos c]; exact h510
        · unfold tlR; rw [if_pos c]; exact h511
      · obtain ⟨I6, c1, c2, c3, c4⟩ := c_chooseL (X := X) (v := v) (J := J4) (f0 := yF sd) (len := yL sd) (t := toT R m sd so) (c := fun i => yC R m sd so 60 (yF sd + i)) y1 y2 ht60 (by omega) (fun i hi => yC_toT) (yL sd) 0 20000 I5 (by omega) (by omega) h59 (fun j hj => by rw [g5 193 j (Or.inl (by decide))]; exact b5 j hj) (by rw [h510]; rfl) (by rw [h511]; rfl)
        refine ⟨I6, c1, c2, ?_, ?_⟩
        · unfold tlR; rw [if_neg c]; exact c3
        · unfold tlR; rw [if_neg c]; exact c4
    obtain ⟨I6, c1, c2, c3, c4⟩ := hch
    have hcho : fX9_choose 188 (iZ (yF sd : Nat)) (iZ (yL sd : Nat)) (mkS X (gup I4 188 9 (iZ (toT R m sd so : Nat))) J4 v) = some ((), mkS X I6 J4 v) := by
      unfold fX9_choose
      simp only [bO, o188]
      rw [← hI5]
      exact c1
    have e4 : I4 194 1 = iZ (toT R m sd so : Nat) := b4.1
    refine ⟨gup I6 188 7 1, J4, ?_, fun a k x1 x2 x3 => ?_, b3, gup_s, ?_, ⟨?_, fun i hi hF => ?_⟩, ?_, ?_⟩
    · unfold fX9_workOut
      simp only [bO, o188, o188R, hw, hv]
      rw [if_pos trivial, if_neg (by omega), e0]
      simp only [bO, c_yearOf (show sd 0 < 20000 by omega), gb2_some, c_firstOfYear (show cY (sd 0) < 1000 by omega), o188R, n193, aL]
      rw [show ((cY (sd 0) : Nat) : Int) + 1 = ((cY (sd 0) + 1 : Nat) : Int) by omega, c_firstOfYear (show cY (sd 0) + 1 < 1000 by omega), gb2_some, elen, show cF (cY (sd 0)) = yF sd from rfl]
      simp only [hfill, gb2_some, bO, o188R, row_c w1, row_clear w1]
      rw [← hI3]
      refine Eq.trans b1 ?_
      simp only [bO, o188R, row_i w1, e4, o188, hcho, gb2_some]
    · have e : gup I6 188 7 1 a k = I6 a k := by
        rcases x3 with x | x
        · exact gup_r x
        · exact gup_k x.1
      rw [e, c2 a k (by omega), g5 a k (by omega), b2 a k x1 x2, g3 a k (by omega) (by omega)]
    · rw [gup_k (by decide), c2 188 9 (Or.inr (by decide))]; exact h59
    · rw [gup_r (by decide), c2 194 1 (Or.inl (by decide)), g5 194 1 (Or.inl (by decide))]; exact b4.1
    · rw [gup_r (by decide), c2 195 _ (Or.inl (by decide)), g5 195 _ (Or.inl (by decide))]; exact b4.2 i hi hF
    · rw [gup_k (by decide)]; exact c3
    · rw [gup_k (by decide)]; exact c4
  · refine ⟨I, J, ?_, fun _ _ _ _ _ => rfl, fun _ _ => rfl, hw, hO⟩
    unfold fX9_workOut
    simp only [bO, o188, hw]
    rw [if_neg (show ¬ (1 : Int32) = 0 by decide)]
end gWo
