/-! WHAT THE REFERENCE KEEPS, and takes back -/
section gKp
variable {X : Nat × (Nat → Int32)} {v : Vt} {J : Nat → Nat → Int64} {S : Nat → St} {un : Nat}
theorem m_keepsL {K : gH → Option (Unit × gH)} {t : Nat} (ht : t < 20) : ∀ (m i fuel : Nat) (I : Nat → Nat → Int32), I 267 45 = iZ (t : Int) → i + m = 264 → m < fuel → ∃ I', gX12_keeps_L15 K 267 fuel (iZ (i : Int)) (mkS X I J v) = K (mkS X I' J v) ∧ frX 292 I I' ∧ (∀ k, k < 264 * t + i ∨ 264 * t + 264 ≤ k → I' 292 k = I 292 k) ∧ ∀ j, i ≤ j → j < 264 → I' 292 (264 * t + j) = I 281 j := by
  intro m
  induction m with
  | zero =>
    intro i fuel I h45 hi hf
    obtain ⟨f, rfl⟩ : ∃ n, fuel = n + 1 := ⟨fuel - 1, by omega⟩
    refine ⟨I, ?_, frX_r _ I, fun _ _ => rfl, fun j a b => by omega⟩
    unfold gX12_keeps_L15
    rw [if_neg (by rw [cL_lt (by omega) (by omega) (by decide)]; omega)]
  | succ m ih =>
    intro i fuel I h45 hi hf
    obtain ⟨f, rfl⟩ : ∃ n, fuel = n + 1 := ⟨fuel - 1, by omega⟩
    obtain ⟨I', a1, a2, a3, a4⟩ := ih (i + 1) f (gup I 292 (264 * t + i) (I 281 i)) (by rw [gup_r (by decide)]; exact h45) (by omega) (by omega)
    refine ⟨I', ?_, frX_t frX_g a2, fun k hk => (a3 k (by omega)).trans (gup_k (by omega)), fun j h1 h2 => ?_⟩
    · unfold gX12_keeps_L15
      rw [if_pos (by rw [cL_lt (by omega) (by omega) (by decide)]; omega)]
      simp only [bO, o267, o267R, h45, a281 _ _ _ _ i (show i < 264 by omega), aL]
      rw [show (264 : Int32) = iZ 264 from rfl, iZ_mul, iZ_add, show (264 : Int) * (t : Int) + (i : Int) = ((264 * t + i : Nat) : Int) by omega, b292 _ _ _ _ _ _ (show 264 * t + i < 5280 by omega)]
      simp only [bO, gnar_2]
      rw [show (i : Int) + 1 = ((i + 1 : Nat) : Int) by omega]
      exact a1
    · by_cases c : j = i
      · rw [c, a3 _ (by omega), gup_s]
      · rw [a4 j (by omega) h2, gup_r (by decide)]
theorem m_keeps {I : Nat → Nat → Int32} (h : hN I S un) (hs : snR (I 281) (S 0)) (hR : ∀ k, (S k).1.nR ≤ 6) : ∃ I', fX12_keeps 267 (mkS X I J v) = some ((), mkS X I' J v) ∧ (∀ r k, r ≠ 292 → (r ≠ 267 ∨ (k ≠ 44 ∧ k ≠ 45)) → I' r k = I r k) ∧ ∀ τ, hN I' (sC τ S) (min 20 (un + 1)) := by
  obtain ⟨p, h1, h2, h3, h4, h5⟩ := h
  obtain ⟨t, ht⟩ : ∃ t, t = (p + 1) % 20 := ⟨_, rfl⟩
  have ht20 : t < 20 := by omega
  have e1 : gIrem (iZ (p : Int) + 1) 20 = iZ (t : Int) := by
    rw [aL, show (20 : Int32) = iZ 20 from rfl, iZ_rem (by omega) (by omega) (by omega) (by omega), tmod_nn (by omega)]
    congr 1; omega
  obtain ⟨I1, a1, a2, a3, a4⟩ := m_keepsL (X := X) (v := v) (J := J) (K := fun s10 => (ggI s10 267 12 44).bind fun v11 => if v11 < 20 then (ggI s10 267 12 44).bind fun v13 => (spI s10 267 12 44 (v13 + 1)).bind fun s14 => some ((), s14) else some ((), s10)) ht20 264 0 20000 (gup I 267 45 (iZ (t : Int))) gup_s (by decide) (by decide)
  have e44 : I1 267 44 = iZ (un : Int) := by rw [a2 267 44 (by decide), gup_k (by decide)]; exact h3
  have e45 : I1 267 45 = iZ (t : Int) := by rw [a2 267 45 (by decide), gup_s]
  have fr1 : ∀ r k, r ≠ 292 → (r ≠ 267 ∨ (k ≠ 44 ∧ k ≠ 45)) → I1 r k = I r k := fun r k x y => by
    rw [a2 r k x]
    rcases y with y | y
    · exact gup_r y
    · exact gup_k y.2
  have snap : ∀ I2 : Nat → Nat → Int32, (∀ k, I2 292 k = I1 292 k) → ∀ τ k, k < min 20 (un + 1) → snR (fun j => I2 292 (264 * ((t + 20 - k) % 20) + j)) (sC τ S (k + 1)) := by
    intro I2 e τ k hk
    show snR _ (S k)
    cases k with
    | zero =>
      refine snR_fr hs (hR 0) (fun j hj => ?_)
      rw [show (t + 20 - 0) % 20 = t by omega, e, a4 j (Nat.zero_le _) hj, gup_r (by decide)]
    | succ k =>
      have hp : (t + 20 - (k + 1)) % 20 = (p + 20 - k) % 20 := by omega
      refine snR_fr (h5 k (by omega)) (hR _) (fun j hj => ?_)
      rw [hp, e, a3 _ (by omega), gup_r (by decide)]
  unfold fX12_keeps
  simp only [bO, o267, h2, e1]
  have a1' : gX12_keeps_L15 _ 267 20000 0 (mkS X (gup I 267 45 (iZ (t : Int))) J v) = _ := a1
  simp only [bO, o267] at a1'
  rw [a1', e44]
  by_cases c : un < 20
  · rw [if_pos (by rw [cL_lt (by omega) (by omega) (by decide)]; omega), aL]
    refine ⟨_, rfl, fun r k x y => ?_, fun τ => ⟨t, ht20, ?_, ?_, by omega, snap _ (fun k => gup_r (by decide)) τ⟩⟩
    · rw [← fr1 r k x y]
      rcases y with y | y
      · exact gup_r y
      · exact gup_k y.1
    · rw [gup_k (by decide)]; exact e45
    · rw [gup_s]; congr 1; omega
  · rw [if_neg (by rw [cL_lt (by omega) (by omega) (by decide)]; omega)]
    refine ⟨I1, rfl, fr1, fun τ => ⟨t, ht20, e45, ?_, by omega, snap _ (fun k => rfl) τ⟩⟩
    rw [e44]; congr 1; omega
theorem m_undoL {K : gH → Option (Int32 × gH)} {t : Nat} (ht : t < 20) : ∀ (m i fuel : Nat) (I : Nat → Nat → Int32), I 267 45 = iZ (t : Int) → i + m = 264 → m < fuel → ∃ I', gX12_undo_L15 K 267 fuel (iZ (i : Int)) (mkS X I J v) = K (mkS X I' J v) ∧ frX 281 I I' ∧ (∀ k, k < i → I' 281 k = I 281 k) ∧ ∀ j, i ≤ j → j < 264 → I' 281 j = I 292 (264 * t + j) := by
  intro m
  induction m with
  | zero =>
    intro i fuel I h45 hi hf
    obtain ⟨f, rfl⟩ : ∃ n, fuel = n + 1 := ⟨fuel - 1, by omega⟩
    refine ⟨I, ?_, frX_r _ I, fun _ _ => rfl, fun j a b => by omega⟩
    unfold gX12_undo_L15
    rw [if_neg (by rw [cL_lt (by omega) (by omega) (by decide)]; omega)]
  | succ m ih =>
    intro i fuel I h45 hi hf
    obtain ⟨f, rfl⟩ : ∃ n, fuel = n + 1 := ⟨fuel - 1, by omega⟩
    obtain ⟨I', a1, a2, a3, a4⟩ := ih (i + 1) f (gup I 281 i (I 292 (264 * t + i))) (by rw [gup_r (by decide)]; exact h45) (by omega) (by omega)
    refine ⟨I', ?_, frX_t frX_g a2, fun k hk => (a3 k (by omega)).trans (gup_k (by omega)), fun j h1 h2 => ?_⟩
    · unfold gX12_undo_L15
      rw [if_pos (by rw [cL_lt (by omega) (by omega) (by decide)]; omega)]
      simp only [bO, o267, o267R, h45, aL]
      rw [show (264 : Int32) = iZ 264 from rfl, iZ_mul, iZ_add, show (264 : Int) * (t : Int) + (i : Int) = ((264 * t + i : Nat) : Int) by omega, a292 _ _ _ _ _ (show 264 * t + i < 5280 by omega)]
      simp only [bO]
      rw [b281 _ _ _ _ _ _ (show i < 264 by omega)]
      simp only [bO, gnar_2]
      rw [show (i : Int) + 1 = ((i + 1 : Nat) : Int) by omega]
      exact a1
    · by_cases c : j = i
      · rw [c, a3 _ (by omega), gup_s]
      · rw [a4 j (by omega) h2, gup_r (by decide)]
theorem m_undo0 {I : Nat → Nat → Int32} (h : hN I S 0) : fX12_undo 267 (mkS X I J v) = some (0, mkS X (gup I 269 4 (I 269 4 + 1)) J v) := by
  obtain ⟨p, h1, h2, h3, h4, h5⟩ := h
  unfold fX12_undo gX12_undo
  simp only [bO, o267, h3]
  rw [if_pos (show iZ ((0 : Nat) : Int) = 0 from rfl), show (4 : Int32) = iZ ((4 : Nat) : Int) from rfl, m_isRefused (by decide)]
  rfl
theorem m_undoS {I : Nat → Nat → Int32} (h : hN I S (un + 1)) (hR : ∀ k, (S k).1.nR ≤ 6) : ∃ I', fX12_undo 267 (mkS X I J v) = some (1, mkS X I' J v) ∧ (∀ r k, r ≠ 281 → r ≠ 283 → (r ≠ 267 ∨ (k ≠ 44 ∧ k ≠ 45)) → I' r k = I r k) ∧ hN I' (fun k => S (k + 1)) un ∧ snR (I' 281) (S 1) ∧ ∀ k, k < 12 → I' 283 k = 0 := by
  obtain ⟨p, h1, h2, h3, h4, h5⟩ := h
  obtain ⟨I1, a1, a2, a3, a4⟩ := m_undoL (X := X) (v := v) (J := J) (K := fun s12 => (ggI s12 267 12 45).bind fun v13 => (spI s12 267 12 45 (gIrem ((v13 + 20) - 1) 20)).bind fun s14 => (ggI s14 267 12 44).bind fun v15 => (spI s14 267 12 44 (v15 - 1)).bind fun s16 => gb2 (gcv s16 267 12 (fX12_allAnew 267 s16)) fun (_ : Unit) s18 => some ((1 : Int32), s18)) h1 264 0 20000 I h2 (by decide) (by decide)
  have e1 : gIrem (iZ (p : Int) + 20 - 1) 20 = iZ (((p + 19) % 20 : Nat) : Int) := by
    rw [aL, sL, show (20 : Int32) = iZ 20 from rfl, iZ_rem (by omega) (by omega) (by omega) (by omega), tmod_nn (by omega)]
    congr 1; omega
  have e45 : I1 267 45 = iZ (p : Int) := (a2 267 45 (by decide)).trans h2
  have e44 : I1 267 44 = iZ ((un + 1 : Nat) : Int) := (a2 267 44 (by decide)).trans h3
  unfold fX12_undo gX12_undo
  simp only [bO, o267, h3]
  rw [if_neg (by rw [cL_eq (by omega) (by omega) (by decide)]; omega)]
  have a1' : gX12_undo_L15 _ 267 20000 0 (mkS X I J v) = _ := a1
  simp only [bO, o267] at a1'
  rw [a1', e45, e1, gup_k (show (44 : Nat) ≠ 45 by decide), e44, sL, show ((un + 1 : Nat) : Int) - 1 = (un : Int) by omega]
  obtain ⟨I2, b1, b2, b3⟩ := m_allAnew (X := X) (J := J) (v := v) (I := gup (gup I1 267 45 (iZ (((p + 19) % 20 : Nat) : Int))) 267 44 (iZ (un : Int)))
  rw [b1, gb2_some]
  have g292 : ∀ k, I2 292 k = I 292 k := fun k => by rw [b2 292 k (by decide), gup_r (by decide), gup_r (by decide), a2 292 k (by decide)]
  have g281 : ∀ j, j < 264 → I2 281 j = I 292 (264 * p + j) := fun j hj => by rw [b2 281 j (by decide), gup_r (by decide), gup_r (by decide), a4 j (Nat.zero_le _) hj]
  refine ⟨I2, rfl, fun r k x y z => ?_, ⟨(p + 19) % 20, by omega, ?_, ?_, by omega, fun k hk => ?_⟩, ?_, b3⟩
  · rw [b2 r k y]
    rcases z with z | z
    · rw [gup_r z, gup_r z, a2 r k x]
    · rw [gup_k z.1, gup_k z.2, a2 r k x]
  · rw [b2 267 45 (by decide), gup_k (by decide), gup_s]
  · rw [b2 267 44 (by decide), gup_s]
  · have hp : ((p + 19) % 20 + 20 - k) % 20 = (p + 20 - (k + 1)) % 20 := by omega
    refine snR_fr (h5 (k + 1) (by omega)) (hR _) (fun j hj => ?_)
    rw [hp, g292]
  · refine snR_fr (h5 0 (by omega)) (hR 1) (fun j hj => ?_)
    rw [g281 j hj, show (p + 20 - 0) % 20 = p by omega]
end gKp
