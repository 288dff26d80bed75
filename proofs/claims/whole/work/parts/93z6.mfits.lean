/-! FITS AND TELLS of the reference -/
section gNz
variable {X : Nat × (Nat → Int32)} {v : Vt} {J : Nat → Nat → Int64} {R : RuL} {m r : Nat} {sd : Nat → Nat} {so : Nat → Bool}
theorem m_fit16 {K : gH → Option (Int32 × gH)} {x1 x2 : Int32} : ∀ (k i fuel : Nat) (I : Nat → Nat → Int32), i + k = 366 → k < fuel → ∃ I', gX12_laysFits_L16 K 267 x1 x2 fuel (iZ (i : Int)) (mkS X I J v) = K (mkS X I' J v) ∧ frX 291 I I' ∧ (∀ j, j < i → I' 291 j = I 291 j) ∧ ∀ j, i ≤ j → j < 366 → I' 291 j = 0 := by
  intro k
  induction k with
  | zero =>
    intro i fuel I hi hf
    obtain ⟨f, rfl⟩ : ∃ n, fuel = n + 1 := ⟨fuel - 1, by omega⟩
    refine ⟨I, ?_, frX_r _ I, fun _ _ => rfl, fun j a b => by omega⟩
    unfold gX12_laysFits_L16
    rw [if_neg (by rw [cL_lt (by omega) (by omega) (by decide)]; omega)]
  | succ k ih =>
    intro i fuel I hi hf
    obtain ⟨f, rfl⟩ : ∃ n, fuel = n + 1 := ⟨fuel - 1, by omega⟩
    obtain ⟨I', a1, a2, a3, a4⟩ := ih (i + 1) f (gup I 291 i 0) (by omega) (by omega)
    refine ⟨I', ?_, frX_t frX_g a2, fun j hj => (a3 j (by omega)).trans (gup_k (by omega)), fun j h1 h2 => ?_⟩
    · unfold gX12_laysFits_L16
      rw [if_pos (by rw [cL_lt (by omega) (by omega) (by decide)]; omega)]
      simp only [bO, o267R, b291 _ _ _ _ i _ (show i < 366 by omega), gnar_2, aL]
      rw [show (i : Int) + 1 = ((i + 1 : Nat) : Int) by omega]
      exact a1
    · by_cases c : j = i
      · rw [c, a3 i (by omega), gup_s]
      · exact a4 j (by omega) h2
theorem m_laysFits {I : Nat → Nat → Int32} (hr : r < 6) (ok : RuLok R) (hR : mRl I r R) (hc : calOK I) (hs : mSd I m r sd so) (hm : 1 ≤ m) : ∃ I', fX12_laysFits 267 (mkS X I J v) = some (iZ (toT R m sd so : Nat), mkS X I' J v) ∧ frLf I I' ∧ (∀ i, i < 60 → I' 289 (i + 1) = tf (fF R m sd so i)) ∧ ∀ i, i < yL sd → I' 291 i = iZ (yC R m sd so 60 (yF sd + i) : Nat) := by
  obtain ⟨d1, d2, d3⟩ := hs.2.2.2 0 (by omega)
  obtain ⟨y1, y2, y3⟩ := yFL (sd := sd) d1
  have e0 : gaI (mkS X I J v) 287 2 0 = some (iZ (sd 0 : Nat)) := by
    have := a287 X I J v 0 (by decide); rw [d2] at this; exact this
  have e1 := (hc (sd 0) d1).1
  obtain ⟨I1, a1, a2, a3, a4⟩ := m_fit16 (X := X) (J := J) (v := v) (x1 := 0) (x2 := iZ ((2000 + cY (sd 0) : Nat) : Int)) (K := fun s9 => (ggI s9 267 12 37).bind fun v10 => gb2 (gcv s9 267 12 (fX12_laysBase 267 v10 s9)) fun (_ : Unit) s12 => gX12_laysFits_L46 267 (iZ ((2000 + cY (sd 0) : Nat) : Int)) 20000 0 1 s12) 366 0 20000 I (by decide) (by decide)
  have hR1 : mRl I1 r R := mRl_X hR a2 (by decide) (by decide)
  have hc1 : calOK I1 := calOK_X hc a2 (by decide)
  obtain ⟨I2, b1, b2, b3⟩ := m_laysBase (X := X) (J := J) (v := v) hr hR1 ok hc1
  have hs2 : mSd I2 m r sd so := mSd_fr hs (fun k => by rw [b2 267 k (by decide), a2 267 k (by decide)]) (fun k => by rw [b2 287 k (by decide), a2 287 k (by decide)]) (fun k => by rw [b2 288 k (by decide), a2 288 k (by decide)])
  obtain ⟨I3, c1, c2, c3, c4⟩ := m_fit46 (X := X) (J := J) (v := v) (R := R) (m := m) (r := r) (sd := sd) (so := so) hr ok y3 60 0 20000 I2 (by decide) (by decide) (mRl_X hR1 b2 (by decide) (by decide)) (calOK_X hc1 b2 (by decide)) b3 hs2 (fun i hi => absurd hi (Nat.not_lt_zero i)) (fun i hi => by
    have hi' : i < yL sd := hi
    rw [b2 291 i (by decide), a4 i (Nat.zero_le _) (by omega)]; rfl)
  refine ⟨I3, ?_, fun a k x y => by rw [c2 a k x y, b2 a k x, a2 a k (by omega)], c3, c4⟩
  unfold fX12_laysFits
  simp only [bO, o267R]
  rw [e0]
  simp only [bO]
  rw [a271 _ _ _ _ _ d1, e1]
  simp only [bO]
  refine Eq.trans a1 ?_
  have e37 : I1 267 37 = iZ (r : Int) := by rw [a2 267 37 (by decide)]; exact hs.2.2.1
  simp only [bO, o267, e37, b1, gb2_some]
  exact c1
theorem m_fits31 {I : Nat → Nat → Int32} {F : Nat → Bool} (h : ∀ i, i < 60 → I 289 (i + 1) = tf (F i)) : ∀ (j i fuel z : Nat), i + j = 60 → j < fuel → z < 2147483648 → gX12_fits_L31 267 fuel (iZ (z : Int)) (iZ ((i + 1 : Nat) : Int)) (mkS X I J v) = some (if nt F j i z = -1 then -1 else iZ (nt F j i z + 1), mkS X I J v) := by
  intro j
  induction j with
  | zero =>
    intro i fuel z hi hf hz
    obtain ⟨f, rfl⟩ : ∃ n, fuel = n + 1 := ⟨fuel - 1, by omega⟩
    unfold gX12_fits_L31
    rw [if_pos (by rw [cR_lt (by omega) (by omega) (by decide)]; omega)]
    rfl
  | succ j ih =>
    intro i fuel z hi hf hz
    obtain ⟨f, rfl⟩ : ∃ n, fuel = n + 1 := ⟨fuel - 1, by omega⟩
    unfold gX12_fits_L31
    rw [if_neg (by rw [cR_lt (by omega) (by omega) (by decide)]; omega)]
    simp only [bO, o267R, a289 _ _ _ _ _ (show i + 1 < 61 by omega), h i (by omega), aL]
    rw [show ((i + 1 : Nat) : Int) + 1 = ((i + 1 + 1 : Nat) : Int) by omega]
    unfold nt
    cases F i with
    | false =>
      rw [if_pos tf_f, if_neg (show ¬ false = true by decide)]
      exact ih (i + 1) f z (by omega) (by omega) hz
    | true =>
      rw [if_neg (show ¬ tf true = 0 by decide), if_pos rfl]
      by_cases c : z = 0
      · rw [if_pos (by rw [c]; rfl), if_pos c, if_neg (by omega)]
        rfl
      · rw [if_neg (by rw [cL_eq (by omega) (by omega) (by decide)]; omega), if_neg c, show (-1 : Int32) = iZ (-1) from rfl, iZ_add, show (z : Int) + -1 = ((z - 1 : Nat) : Int) by omega]
        exact ih (i + 1) f (z - 1) (by omega) (by omega) (by omega)
theorem mq_fits0 {I : Nat → Nat → Int32} {x : Int32} (h8 : I 267 36 = 0) : fX12_fits 267 x (mkS X I J v) = some (-1, mkS X I J v) := by
  unfold fX12_fits
  simp only [bO, o267, h8]
  rw [if_pos trivial]
theorem mq_tells0 {I : Nat → Nat → Int32} {x : Int32} (h8 : I 267 36 = 0) : fX12_tells 267 x (mkS X I J v) = some (-1, mkS X I J v) := by
  unfold fX12_tells
  simp only [bO, o267, h8]
  rw [if_pos trivial]
theorem mq_fits {I : Nat → Nat → Int32} {x : Int} (x1 : -2147483648 ≤ x) (x2 : x < 2147483648) (hr : r < 6) (ok : RuLok R) (hR : mRl I r R) (hc : calOK I) (hs : mSd I m r sd so) (hm : 1 ≤ m) : ∃ I', fX12_fits 267 (iZ x) (mkS X I J v) = some (aFits R m sd so x, mkS X I' J v) ∧ frLf I I' := by
  have hm12 := hs.1
  unfold fX12_fits aFits
  simp only [bO, o267, hs.2.1]
  rw [if_neg (by rw [cL_eq (by omega) (by omega) (by decide)]; omega)]
  by_cases c : x < -1
  · rw [if_pos (by rw [show (-1 : Int32) = iZ (-1) from rfl, iZ_lt (by omega) (by omega) (by omega) (by omega)]; exact c), if_neg (by omega), if_pos (by omega)]
    exact ⟨I, rfl, fun _ _ _ _ => rfl⟩
  · rw [if_neg (by rw [show (-1 : Int32) = iZ (-1) from rfl, iZ_lt (by omega) (by omega) (by omega) (by omega)]; exact c)]
    obtain ⟨I1, a1, a2, a3, a4⟩ := m_laysFits (X := X) (J := J) (v := v) hr ok hR hc hs hm
    rw [a1, gb2_some]
    refine ⟨I1, ?_, a2⟩
    by_cases c1 : x = -1
    · rw [if_pos (by rw [c1]; rfl), if_pos c1]
    · rw [if_neg (by rw [cM_eq (by omega) (by omega)]; exact c1), if_neg c1, if_neg (by omega)]
      obtain ⟨y, rfl⟩ : ∃ n : Nat, x = (n : Int) := ⟨x.toNat, by omega⟩
      rw [Int.toNat_natCast]
      exact m_fits31 a3 60 0 20000 y (by decide) (by decide) (by omega)
end gNz
