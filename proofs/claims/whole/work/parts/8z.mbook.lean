/-! THE REFERENCE TAKES A BOOK: its loops -/
section gMb
variable {X : Nat × (Nat → Int32)} {J : Nat → Nat → Int64} {v : Vt} {T : Nat → Nat} {n : Nat}
theorem m_bk49 {K : gH → Option (Int32 × gH)} : ∀ (m i fuel : Nat) (I : Nat → Nat → Int32), i + m = 272 → m < fuel → ∃ I', gX12_book_L49 K 267 fuel (iZ (i : Int)) (mkS X I J v) = K (mkS X I' J v) ∧ frX 275 I I' ∧ (∀ k, k < i → I' 275 k = I 275 k) ∧ ∀ k, i ≤ k → k < 272 → I' 275 k = 0 := by
  intro m
  induction m with
  | zero =>
    intro i fuel I hi hf
    obtain ⟨f, rfl⟩ : ∃ n, fuel = n + 1 := ⟨fuel - 1, by omega⟩
    refine ⟨I, ?_, frX_r _ I, fun _ _ => rfl, fun k a b => by omega⟩
    unfold gX12_book_L49
    rw [if_neg (by rw [cL_lt (by omega) (by omega) (by decide)]; omega)]
  | succ m ih =>
    intro i fuel I hi hf
    obtain ⟨f, rfl⟩ : ∃ n, fuel = n + 1 := ⟨fuel - 1, by omega⟩
    obtain ⟨I', a1, a2, a3, a4⟩ := ih (i + 1) f (gup I 275 i 0) (by omega) (by omega)
    refine ⟨I', ?_, frX_t frX_g a2, fun k hk => (a3 k (by omega)).trans (gup_k (by omega)), fun k h1 h2 => ?_⟩
    · unfold gX12_book_L49
      rw [if_pos (by rw [cL_lt (by omega) (by omega) (by decide)]; omega)]
      simp only [bO, o267R, b275 _ _ _ _ i _ (show i < 272 by omega), gnar_2, aL]
      rw [show (i : Int) + 1 = ((i + 1 : Nat) : Int) by omega]
      exact a1
    · by_cases c : k = i
      · rw [c, a3 i (by omega), gup_s]
      · exact a4 k (by omega) h2
theorem m_bk139 {K : gH → Option (Int32 × gH)} : ∀ (m i fuel : Nat) (I : Nat → Nat → Int32), i + m = 272 → m < fuel → ∃ I', gX12_book_L139 K 267 fuel (iZ (i : Int)) (mkS X I J v) = K (mkS X I' J v) ∧ frX 276 I I' ∧ (∀ k, k < i → I' 276 k = I 276 k) ∧ ∀ k, i ≤ k → k < 272 → I' 276 k = I 275 k := by
  intro m
  induction m with
  | zero =>
    intro i fuel I hi hf
    obtain ⟨f, rfl⟩ : ∃ n, fuel = n + 1 := ⟨fuel - 1, by omega⟩
    refine ⟨I, ?_, frX_r _ I, fun _ _ => rfl, fun k a b => by omega⟩
    unfold gX12_book_L139
    rw [if_neg (by rw [cL_lt (by omega) (by omega) (by decide)]; omega)]
  | succ m ih =>
    intro i fuel I hi hf
    obtain ⟨f, rfl⟩ : ∃ n, fuel = n + 1 := ⟨fuel - 1, by omega⟩
    obtain ⟨I', a1, a2, a3, a4⟩ := ih (i + 1) f (gup I 276 i (I 275 i)) (by omega) (by omega)
    refine ⟨I', ?_, frX_t frX_g a2, fun k hk => (a3 k (by omega)).trans (gup_k (by omega)), fun k h1 h2 => ?_⟩
    · unfold gX12_book_L139
      rw [if_pos (by rw [cL_lt (by omega) (by omega) (by decide)]; omega)]
      simp only [bO, o267R, a275 _ _ _ _ i (show i < 272 by omega), b276 _ _ _ _ i _ (show i < 272 by omega), gnar_2, aL]
      rw [show (i : Int) + 1 = ((i + 1 : Nat) : Int) by omega]
      exact a1
    · by_cases c : k = i
      · rw [c, a3 i (by omega), gup_s]
      · rw [a4 k (by omega) h2, gup_r (by decide)]
theorem m_bk166 {K : gH → Option (Int32 × gH)} {c : Nat} (hc : c ≤ 1500) : ∀ (m i fuel : Nat) (I : Nat → Nat → Int32), I 267 22 = iZ (c : Int) → i + m = 2 * c → m < fuel → ∃ I', gX12_book_L166 K 267 fuel (iZ (i : Int)) (mkS X I J v) = K (mkS X I' J v) ∧ frX 278 I I' ∧ (∀ k, k < i → I' 278 k = I 278 k) ∧ ∀ k, i ≤ k → k < 2 * c → I' 278 k = I 277 k := by
  intro m
  induction m with
  | zero =>
    intro i fuel I h22 hi hf
    obtain ⟨f, rfl⟩ : ∃ n, fuel = n + 1 := ⟨fuel - 1, by omega⟩
    refine ⟨I, ?_, frX_r _ I, fun _ _ => rfl, fun k a b => by omega⟩
    unfold gX12_book_L166
    simp only [bO, o267, h22]
    rw [show (2 : Int32) = iZ 2 from rfl, iZ_mul, if_neg (by rw [iZ_lt (by omega) (by omega) (by omega) (by omega)]; omega)]
  | succ m ih =>
    intro i fuel I h22 hi hf
    obtain ⟨f, rfl⟩ : ∃ n, fuel = n + 1 := ⟨fuel - 1, by omega⟩
    obtain ⟨I', a1, a2, a3, a4⟩ := ih (i + 1) f (gup I 278 i (I 277 i)) (by rw [gup_r (by decide)]; exact h22) (by omega) (by omega)
    refine ⟨I', ?_, frX_t frX_g a2, fun k hk => (a3 k (by omega)).trans (gup_k (by omega)), fun k h1 h2 => ?_⟩
    · unfold gX12_book_L166
      simp only [bO, o267, h22]
      rw [show (2 : Int32) = iZ 2 from rfl, iZ_mul, if_pos (by rw [iZ_lt (by omega) (by omega) (by omega) (by omega)]; omega)]
      simp only [bO, o267R, a277 _ _ _ _ i (show i < 3000 by omega), b278 _ _ _ _ i _ (show i < 3000 by omega), gnar_2, aL]
      rw [show (i : Int) + 1 = ((i + 1 : Nat) : Int) by omega]
      exact a1
    · by_cases c : k = i
      · rw [c, a3 i (by omega), gup_s]
      · rw [a4 k (by omega) h2, gup_r (by decide)]
theorem m_bg2 {K : gH → Option (Unit × gH)} : ∀ (m i fuel : Nat) (I : Nat → Nat → Int32), i + m = 264 → m < fuel → ∃ I', gX12_begins_L2 K 267 fuel (iZ (i : Int)) (mkS X I J v) = K (mkS X I' J v) ∧ frX 281 I I' ∧ (∀ k, k < i → I' 281 k = I 281 k) ∧ ∀ k, i ≤ k → k < 264 → I' 281 k = 0 := by
  intro m
  induction m with
  | zero =>
    intro i fuel I hi hf
    obtain ⟨f, rfl⟩ : ∃ n, fuel = n + 1 := ⟨fuel - 1, by omega⟩
    refine ⟨I, ?_, frX_r _ I, fun _ _ => rfl, fun k a b => by omega⟩
    unfold gX12_begins_L2
    rw [if_neg (by rw [cL_lt (by omega) (by omega) (by decide)]; omega)]
  | succ m ih =>
    intro i fuel I hi hf
    obtain ⟨f, rfl⟩ : ∃ n, fuel = n + 1 := ⟨fuel - 1, by omega⟩
    obtain ⟨I', a1, a2, a3, a4⟩ := ih (i + 1) f (gup I 281 i 0) (by omega) (by omega)
    refine ⟨I', ?_, frX_t frX_g a2, fun k hk => (a3 k (by omega)).trans (gup_k (by omega)), fun k h1 h2 => ?_⟩
    · unfold gX12_begins_L2
      rw [if_pos (by rw [cL_lt (by omega) (by omega) (by decide)]; omega)]
      simp only [bO, o267R, b281 _ _ _ _ i _ (show i < 264 by omega), gnar_2, aL]
      rw [show (i : Int) + 1 = ((i + 1 : Nat) : Int) by omega]
      exact a1
    · by_cases c : k = i
      · rw [c, a3 i (by omega), gup_s]
      · exact a4 k (by omega) h2
theorem m_bg24 {K : gH → Option (Unit × gH)} {c : Nat} (hc : c ≤ 6) : ∀ (m i fuel : Nat) (I : Nat → Nat → Int32), I 276 0 = iZ (c : Int) → i + m = c → m < fuel → ∃ I', gX12_begins_L24 K 267 fuel (iZ (i : Int)) (mkS X I J v) = K (mkS X I' J v) ∧ frX 281 I I' ∧ (∀ k, (k < 2 * i ∨ 2 * c ≤ k) → I' 281 k = I 281 k) ∧ ∀ r, i ≤ r → r < c → I' 281 (2 * r) = I 276 (2 + 42 * r + 1) ∧ I' 281 (2 * r + 1) = I 276 (2 + 42 * r + 3) := by
  intro m
  induction m with
  | zero =>
    intro i fuel I h0 hi hf
    obtain ⟨f, rfl⟩ : ∃ n, fuel = n + 1 := ⟨fuel - 1, by omega⟩
    refine ⟨I, ?_, frX_r _ I, fun _ _ => rfl, fun k a b => by omega⟩
    unfold gX12_begins_L24
    simp only [bO, o267R]
    have a0 : gaI (mkS X I J v) 276 2 0 = some (I 276 0) := a276 _ _ _ _ 0 (by decide)
    rw [a0, h0]
    simp only [bO]
    rw [if_neg (by rw [iZ_lt (by omega) (by omega) (by omega) (by omega)]; omega)]
  | succ m ih =>
    intro i fuel I h0 hi hf
    obtain ⟨f, rfl⟩ : ∃ n, fuel = n + 1 := ⟨fuel - 1, by omega⟩
    obtain ⟨I', a1, a2, a3, a4⟩ := ih (i + 1) f (gup (gup I 281 (2 * i) (I 276 (2 + 42 * i + 1))) 281 (2 * i + 1) (I 276 (2 + 42 * i + 3))) (by rw [gup_r (by decide), gup_r (by decide)]; exact h0) (by omega) (by omega)
    refine ⟨I', ?_, frX_t (frX_t frX_g frX_g) a2, fun k hk => ?_, fun r h1 h2 => ?_⟩
    · unfold gX12_begins_L24
      simp only [bO, o267R]
      have z0 : gaI (mkS X I J v) 276 2 0 = some (I 276 0) := a276 _ _ _ _ 0 (by decide)
      rw [z0, h0]
      simp only [bO]
      rw [if_pos (by rw [iZ_lt (by omega) (by omega) (by omega) (by omega)]; omega)]
      have q1 : ∀ s : gH, fX12_ruleAt (iZ (i : Int)) 1 s = some (iZ ((2 + 42 * i + 1 : Nat) : Int), s) := fun s => m_ruleAtn (k := 1)
      have q3 : ∀ s : gH, fX12_ruleAt (iZ (i : Int)) 3 s = some (iZ ((2 + 42 * i + 3 : Nat) : Int), s) := fun s => m_ruleAtn (k := 3)
      have e1 : (2 : Int32) * iZ (i : Int) = iZ ((2 * i : Nat) : Int) := by rw [show (2 : Int32) = iZ 2 from rfl, iZ_mul]; congr 1
      have e2 : (2 : Int32) * iZ (i : Int) + 1 = iZ ((2 * i + 1 : Nat) : Int) := by rw [e1, aL]; congr 1
      rw [q1, gb2_some, e2, e1]
      simp only [bO, o267R, a276 _ _ _ _ (2 + 42 * i + 1) (show 2 + 42 * i + 1 < 272 by omega), b281 _ _ _ _ (2 * i) _ (show 2 * i < 264 by omega), gnar_2, q3, gb2_some]
      rw [a276 _ _ _ _ (2 + 42 * i + 3) (by omega)]
      simp only [bO]
      rw [b281 _ _ _ _ (2 * i + 1) _ (by omega), gup_r (by decide)]
      simp only [bO, gnar_2, aL]
      rw [show (i : Int) + 1 = ((i + 1 : Nat) : Int) by omega]
      exact a1
    · rw [a3 k (by omega), gup_k (by omega), gup_k (by omega)]
    · by_cases z : r = i
      · rw [z, a3 (2 * i) (by omega), a3 (2 * i + 1) (by omega), gup_k (by omega), gup_s, gup_s]
        exact ⟨rfl, rfl⟩
      · obtain ⟨x, y⟩ := a4 r (by omega) h2
        rw [x, y, gup_r (by decide), gup_r (by decide), gup_r (by decide), gup_r (by decide)]
        exact ⟨rfl, rfl⟩
theorem m_anewL : ∀ (m i fuel : Nat) (I : Nat → Nat → Int32), i + m = 12 → m < fuel → ∃ I', gX12_allAnew_L2 267 fuel (iZ (i : Int)) (mkS X I J v) = some ((), mkS X I' J v) ∧ frX 283 I I' ∧ (∀ k, k < i → I' 283 k = I 283 k) ∧ ∀ k, i ≤ k → k < 12 → I' 283 k = 0 := by
  intro m
  induction m with
  | zero =>
    intro i fuel I hi hf
    obtain ⟨f, rfl⟩ : ∃ n, fuel = n + 1 := ⟨fuel - 1, by omega⟩
    refine ⟨I, ?_, frX_r _ I, fun _ _ => rfl, fun k a b => by omega⟩
    unfold gX12_allAnew_L2
    rw [if_neg (by rw [cL_lt (by omega) (by omega) (by decide)]; omega)]
  | succ m ih =>
    intro i fuel I hi hf
    obtain ⟨f, rfl⟩ : ∃ n, fuel = n + 1 := ⟨fuel - 1, by omega⟩
    obtain ⟨I', a1, a2, a3, a4⟩ := ih (i + 1) f (gup I 283 i 0) (by omega) (by omega)
    refine ⟨I', ?_, frX_t frX_g a2, fun k hk => (a3 k (by omega)).trans (gup_k (by omega)), fun k h1 h2 => ?_⟩
    · unfold gX12_allAnew_L2
      rw [if_pos (by rw [cL_lt (by omega) (by omega) (by decide)]; omega)]
      simp only [bO, o267R, b283 _ _ _ _ i _ (show i < 12 by omega), show gnar 4 (0 : Int32) = 0 from by decide, aL]
      rw [show (i : Int) + 1 = ((i + 1 : Nat) : Int) by omega]
      exact a1
    · by_cases c : k = i
      · rw [c, a3 i (by omega), gup_s]
      · exact a4 k (by omega) h2
theorem m_allAnew {I : Nat → Nat → Int32} : ∃ I', fX12_allAnew 267 (mkS X I J v) = some ((), mkS X I' J v) ∧ frX 283 I I' ∧ ∀ k, k < 12 → I' 283 k = 0 := by
  obtain ⟨I', a1, a2, a3, a4⟩ := m_anewL (X := X) (J := J) (v := v) 12 0 20000 I (by decide) (by decide)
  exact ⟨I', a1, a2, fun k hk => a4 k (Nat.zero_le _) hk⟩
/-- what begins writes: the numbers now, what is laid, and two fields -/
theorem m_begins {I : Nat → Nat → Int32} {c : Nat} (hc : c ≤ 6) (h0 : I 276 0 = iZ (c : Int)) : ∃ I', fX12_begins 267 (mkS X I J v) = some ((), mkS X I' J v) ∧ (∀ r k, r ≠ 281 → r ≠ 283 → (r ≠ 267 ∨ (k ≠ 36 ∧ k ≠ 44)) → I' r k = I r k) ∧ I' 267 36 = 0 ∧ I' 267 44 = 0 ∧ (∀ k, k < 12 → I' 283 k = 0) ∧ (∀ k, 2 * c ≤ k → k < 264 → I' 281 k = 0) ∧ ∀ r, r < c → I' 281 (2 * r) = I 276 (2 + 42 * r + 1) ∧ I' 281 (2 * r + 1) = I 276 (2 + 42 * r + 3) := by
  unfold fX12_begins
  obtain ⟨I1, a1, a2, a3, a4⟩ := m_bg2 (X := X) (J := J) (v := v) (K := fun s5 => gX12_begins_L24 (fun s22 => (spI s22 267 12 44 0).bind fun s23 => (spI s23 267 12 36 0).bind fun s24 => gb2 (gcv s24 267 12 (fX12_allAnew 267 s24)) fun r25 s26 => some ((), s26)) 267 20000 0 s5) 264 0 20000 I (by decide) (by decide)
  obtain ⟨I2, b1, b2, b3, b4⟩ := m_bg24 (X := X) (J := J) (v := v) (K := fun s22 => (spI s22 267 12 44 0).bind fun s23 => (spI s23 267 12 36 0).bind fun s24 => gb2 (gcv s24 267 12 (fX12_allAnew 267 s24)) fun r25 s26 => some ((), s26)) hc c 0 20000 I1 (by rw [a2 276 0 (by decide)]; exact h0) (by omega) (by omega)
  obtain ⟨I3, d1, d2, d3⟩ := m_allAnew (X := X) (J := J) (v := v) (I := gup (gup I2 267 44 0) 267 36 0)
  refine ⟨I3, ?_, fun r k x y z => ?_, ?_, ?_, d3, fun k h1 h2 => ?_, fun r hr => ?_⟩
  · refine a1.trans (b1.trans ?_)
    simp only [bO, o267, d1, gb2_some]
  · rw [d2 r k y]
    rcases z with z | z
    · rw [gup_r z, gup_r z, b2 r k x, a2 r k x]
    · rw [gup_k z.1, gup_k z.2, b2 r k x, a2 r k x]
  · rw [d2 267 36 (by decide), gup_s]
  · rw [d2 267 44 (by decide), gup_k (by decide), gup_s]
  · rw [d2 281 k (by decide), gup_r (by decide), gup_r (by decide), b3 k (by omega)]
    exact a4 k (Nat.zero_le _) h2
  · obtain ⟨x, y⟩ := b4 r (Nat.zero_le _) hr
    rw [d2 281 _ (by decide), gup_r (by decide), gup_r (by decide), d2 281 _ (by decide), gup_r (by decide), gup_r (by decide), x, y, a2 276 _ (by decide), a2 276 _ (by decide)]
    exact ⟨rfl, rfl⟩
end gMb
