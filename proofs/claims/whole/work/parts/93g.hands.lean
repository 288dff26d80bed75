/-! MARKS of the reference -/
section gHd
variable {X : Nat × (Nat → Int32)} {v : Vt} {B : Bk} {A L : Nat → Nat → Bool} {J : Nat → Nat → Int64} {P : Nat → Bool}
theorem m_handOfL {I : Nat → Nat → Int32} {o d n : Nat} (ho : o + 20 < 264) (hn : n ≤ 20) (h1 : I 281 o = iZ (n : Int)) : ∀ (m j fuel : Nat), j + m = n → m < fuel → gX12_handOf_L10 267 (iZ (d : Int)) (iZ (o : Int)) fuel (iZ ((j + 1 : Nat) : Int)) (mkS X I J v) = some (iZ (if nx (fun j => decide (I 281 (o + 1 + j) = iZ (d : Int))) m j = -1 then -1 else nx (fun j => decide (I 281 (o + 1 + j) = iZ (d : Int))) m j + 1), mkS X I J v) := by
  intro m
  induction m with
  | zero =>
    intro j fuel hj hf
    obtain ⟨f, rfl⟩ : ∃ n, fuel = n + 1 := ⟨fuel - 1, by omega⟩
    unfold gX12_handOf_L10
    simp only [bO, o267R, a281 _ _ _ _ o (show o < 264 by omega), h1]
    rw [if_pos (by rw [iZ_lt (by omega) (by omega) (by omega) (by omega)]; omega)]
    rfl
  | succ m ih =>
    intro j fuel hj hf
    obtain ⟨f, rfl⟩ : ∃ n, fuel = n + 1 := ⟨fuel - 1, by omega⟩
    unfold gX12_handOf_L10
    simp only [bO, o267R, a281 _ _ _ _ o (show o < 264 by omega), h1, iZ_add, aL]
    rw [if_neg (by rw [iZ_lt (by omega) (by omega) (by omega) (by omega)]; omega), show (o : Int) + ((j + 1 : Nat) : Int) = ((o + 1 + j : Nat) : Int) by omega, a281 _ _ _ _ _ (show o + 1 + j < 264 by omega)]
    simp only [bO]
    unfold nx
    by_cases c : I 281 (o + 1 + j) = iZ (d : Int)
    · rw [if_pos c, if_pos (decide_eq_true c), if_neg (by omega)]
      rfl
    · rw [if_neg c, if_neg (show ¬ decide (I 281 (o + 1 + j) = iZ (d : Int)) = true by rw [decide_eq_false c]; decide), show ((j + 1 : Nat) : Int) + 1 = ((j + 1 + 1 : Nat) : Int) by omega]
      exact ih (j + 1) f (by omega) (by omega)
theorem m_handOf {I : Nat → Nat → Int32} {s k d : Nat} (hs : s < 6) (hk : k ≤ 1) (hd : d < 14610) (h : mrow I (12 + 42 * s + 21 * k) P) : ∃ x : Int, fX12_handOf 267 (iZ (s : Int)) (iZ (k : Int)) (iZ (d : Int)) (mkS X I J v) = some (iZ x, mkS X I J v) ∧ ((P d = false ∧ x = -1) ∨ (P d = true ∧ ∃ j : Nat, j < cnt P 0 14610 ∧ x = (j : Int) + 1 ∧ I 281 (12 + 42 * s + 21 * k + 1 + j) = iZ (d : Int))) := by
  obtain ⟨h1, h2, h3⟩ := h
  unfold fX12_handOf
  rw [m_handAt hk, gb2_some]
  have t := m_handOfL (X := X) (v := v) (J := J) (o := 12 + 42 * s + 21 * k) (d := d) (by omega) h2 h1 (cnt P 0 14610) 0 20000 (by omega) (by omega)
  refine ⟨_, t, ?_⟩
  rcases rowP_ix h3 hd with ⟨q1, q2⟩ | ⟨q1, j, q2, q3, q4⟩
  · left
    rw [if_pos q2]
    exact ⟨q1, rfl⟩
  · right
    rw [if_neg (by omega), q4]
    exact ⟨q1, j, q2, rfl, q3⟩
/-- only one row of the numbers now is written -/
def frP (o : Nat) (I I' : Nat → Nat → Int32) : Prop := (∀ r k, r ≠ 281 → I' r k = I r k) ∧ ∀ k, k < o ∨ o + 20 < k → I' 281 k = I 281 k
theorem m_shift {K : gH → Option (Unit × gH)} {x1 : Int32} {o n : Nat} (ho : o + 20 < 264) (hn : n ≤ 20) (hn1 : 1 ≤ n) : ∀ (m j fuel : Nat) (I : Nat → Nat → Int32), I 281 o = iZ (n : Int) → j + m = n → 1 ≤ j → m < fuel → ∃ I', gX12_hands_L42 K 267 x1 (iZ (o : Int)) fuel (iZ (j : Int)) (mkS X I J v) = K (mkS X I' J v) ∧ frP o I I' ∧ I' 281 o = iZ (n : Int) ∧ (∀ k, 1 ≤ k → k < j → I' 281 (o + k) = I 281 (o + k)) ∧ ∀ k, j ≤ k → k < n → I' 281 (o + k) = I 281 (o + k + 1) := by
  intro m
  induction m with
  | zero =>
    intro j fuel I h1 hj hj1 hf
    obtain ⟨f, rfl⟩ : ∃ n, fuel = n + 1 := ⟨fuel - 1, by omega⟩
    refine ⟨I, ?_, ⟨fun _ _ _ => rfl, fun _ _ => rfl⟩, h1, fun _ _ _ => rfl, fun k a b => by omega⟩
    unfold gX12_hands_L42
    simp only [bO, o267R, a281 _ _ _ _ o (show o < 264 by omega), h1]
    rw [if_neg (by rw [iZ_lt (by omega) (by omega) (by omega) (by omega)]; omega)]
  | succ m ih =>
    intro j fuel I h1 hj hj1 hf
    obtain ⟨f, rfl⟩ : ∃ n, fuel = n + 1 := ⟨fuel - 1, by omega⟩
    obtain ⟨I', a1, a2, a3, a4, a5⟩ := ih (j + 1) f (gup I 281 (o + j) (I 281 (o + j + 1))) (by rw [gup_k (by omega)]; exact h1) (by omega) (by omega) (by omega)
    refine ⟨I', ?_, ⟨fun r k x => (a2.1 r k x).trans (gup_r x), fun k x => (a2.2 k x).trans (gup_k (by omega))⟩, a3, fun k x y => (a4 k x (by omega)).trans (gup_k (by omega)), fun k x y => ?_⟩
    · unfold gX12_hands_L42
      simp only [bO, o267R, a281 _ _ _ _ o (show o < 264 by omega), h1, iZ_add, aL]
      rw [if_pos (by rw [iZ_lt (by omega) (by omega) (by omega) (by omega)]; omega), show (o : Int) + (j : Int) + 1 = ((o + j + 1 : Nat) : Int) by omega, show (o : Int) + (j : Int) = ((o + j : Nat) : Int) by omega, a281 _ _ _ _ _ (show o + j + 1 < 264 by omega)]
      simp only [bO]
      rw [b281 _ _ _ _ _ _ (show o + j < 264 by omega)]
      simp only [bO, gnar_2]
      rw [show (j : Int) + 1 = ((j + 1 : Nat) : Int) by omega]
      exact a1
    · by_cases c : k = j
      · rw [c, a4 j hj1 (by omega), gup_s]
      · rw [a5 k (by omega) y, gup_k (by omega)]
theorem m_handsZ {s0 : Nat} : ∀ (m s fuel : Nat) (I : Nat → Nat → Int32), s + m = 6 → s0 ≤ s → m < fuel → ∃ I', gX12_hands_L133 267 fuel (iZ (s : Int)) (mkS X I J v) = some ((), mkS X I' J v) ∧ frX 283 I I' ∧ (∀ k, k < 6 + s → I' 283 k = I 283 k) ∧ ∀ t, s ≤ t → t < 6 → I' 283 (6 + t) = 0 := by
  intro m
  induction m with
  | zero =>
    intro s fuel I hs h0 hf
    obtain ⟨f, rfl⟩ : ∃ n, fuel = n + 1 := ⟨fuel - 1, by omega⟩
    refine ⟨I, ?_, frX_r _ I, fun _ _ => rfl, fun t a b => by omega⟩
    unfold gX12_hands_L133
    rw [if_neg (by rw [cL_lt (by omega) (by omega) (by decide)]; omega)]
  | succ m ih =>
    intro s fuel I hs h0 hf
    obtain ⟨f, rfl⟩ : ∃ n, fuel = n + 1 := ⟨fuel - 1, by omega⟩
    obtain ⟨I', a1, a2, a3, a4⟩ := ih (s + 1) f (gup I 283 (6 + s) 0) (by omega) (by omega) (by omega)
    refine ⟨I', ?_, frX_t frX_g a2, fun k hk => (a3 k (by omega)).trans (gup_k (by omega)), fun t x y => ?_⟩
    · unfold gX12_hands_L133
      rw [if_pos (by rw [cL_lt (by omega) (by omega) (by decide)]; omega)]
      simp only [bO, o267R, aR, aL]
      rw [show (6 : Int) + (s : Int) = ((6 + s : Nat) : Int) by omega, b283 _ _ _ _ _ _ (show 6 + s < 12 by omega), show gnar 4 (0 : Int32) = 0 from by decide]
      simp only [bO]
      rw [show (s : Int) + 1 = ((s + 1 : Nat) : Int) by omega]
      exact a1
    · by_cases c : t = s
      · rw [c, a3 (6 + s) (by omega), gup_s]
      · exact a4 t (by omega) y
theorem mrow_21 {I I' : Nat → Nat → Int32} {o : Nat} (h : mrow I o P) (f : ∀ k, o ≤ k → k ≤ o + 20 → I' 281 k = I 281 k) : mrow I' o P := by
  obtain ⟨h1, h2, h3, h4, h5, h6⟩ := h
  refine ⟨by rw [f o (by omega) (by omega)]; exact h1, h2, h3, fun k hk => ?_, fun d hd hp => ?_, fun j k hj hk q => ?_⟩
  · obtain ⟨d, a1, a2, a3⟩ := h4 k hk
    exact ⟨d, a1, a2, (f (o + 1 + k) (by omega) (by omega)).trans a3⟩
  · obtain ⟨k, a1, a2⟩ := h5 d hd hp
    exact ⟨k, a1, (f (o + 1 + k) (by omega) (by omega)).trans a2⟩
  · refine h6 j k hj hk ?_
    have e1 := f (o + 1 + j) (by omega) (by omega)
    have e2 := f (o + 1 + k) (by omega) (by omega)
    exact e1.symm.trans (q.trans e2)
/-- a day leaves a row -/
theorem m_rowRem {I I2 : Nat → Nat → Int32} {o d j n : Nat} (h : mrow I o P) (hd : d < 14610) (hn : cnt P 0 14610 = n) (hj : j < n) (hf : I 281 (o + 1 + j) = iZ (d : Int)) (e0 : I2 281 o = iZ ((n - 1 : Nat) : Int)) (e1 : ∀ k, k < j → I2 281 (o + 1 + k) = I 281 (o + 1 + k)) (e2 : ∀ k, j ≤ k → k + 1 < n → I2 281 (o + 1 + k) = I 281 (o + 1 + k + 1)) : mrow I2 o (pMi P d) := by
  obtain ⟨h1, h2, h3⟩ := h
  rw [hn] at h2 h3
  have rr := rowP_rem (f' := fun k => I2 281 (o + 1 + k)) (σ := fun k => if k < j then k else k + 1) h3 hd hj hf (fun k hk => by split <;> omega) (fun m hm1 hm2 => by
    by_cases c : m < j
    · exact ⟨m, by omega, if_pos c⟩
    · exact ⟨m - 1, by omega, by rw [if_neg (by omega)]; omega⟩) (fun k k' a b c => by split at c <;> split at c <;> omega) (fun k hk => by
    by_cases c : k < j
    · rw [if_pos c]; exact e1 k c
    · rw [if_neg c]
      exact e2 k (by omega) hk)
  have hm := cnt_mi hd rr.2
  have e : cnt (pMi P d) 0 14610 = n - 1 := by omega
  unfold mrow
  rw [e]
  exact ⟨e0, by omega, rr.1⟩
/-- a day comes to a row -/
theorem m_rowApp {I I2 : Nat → Nat → Int32} {o d n : Nat} (h : mrow I o P) (hd : d < 14610) (hn : cnt P 0 14610 = n) (h20 : n < 20) (hp : P d = false) (e0 : I2 281 o = iZ ((n + 1 : Nat) : Int)) (e1 : ∀ k, k < n → I2 281 (o + 1 + k) = I 281 (o + 1 + k)) (e2 : I2 281 (o + 1 + n) = iZ (d : Int)) : mrow I2 o (pPl P d) := by
  obtain ⟨h1, h2, h3⟩ := h
  rw [hn] at h3
  unfold mrow
  rw [cnt_pl hd hp, hn]
  exact ⟨e0, by omega, rowP_app h3 hd hp e1 e2⟩
end gHd
