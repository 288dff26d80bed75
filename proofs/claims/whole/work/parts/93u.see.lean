/-! SEE -/
def sDay (T : Nat → Nat) (j : Nat) : Nat := 256 * T (3 * j) + T (3 * j + 1)
def rwOK (T : Nat → Nat) (j : Nat) : Bool := decide (sDay T j < 14610) && decide (T (3 * j + 2) ≤ 1)
def aB (P : Nat → Bool) : Nat → Nat → Bool
  | 0, _ => true
  | m + 1, j => P j && aB P m (j + 1)
theorem aB_at {P : Nat → Bool} : ∀ {m j k : Nat}, aB P m j = true → j ≤ k → k < j + m → P k = true := by
  intro m
  induction m with
  | zero => intro j k _ h1 h2; omega
  | succ m ih =>
    intro j k h h1 h2
    unfold aB at h
    rw [Bool.and_eq_true] at h
    by_cases c : k = j
    · rw [c]; exact h.1
    · exact ih h.2 (by omega) (by omega)
def seeB (T : Nat → Nat) (n : Nat) : Bool := decide (3 ≤ n ∧ n ≤ 36 ∧ n % 3 = 0) && aB (rwOK T) (n / 3) 0
section gSee
variable {X : Nat × (Nat → Int32)} {v : Vt} {I : Nat → Nat → Int32} {J : Nat → Nat → Int64} {T : Nat → Nat} {n : Nat}
theorem sby_255 {c : Nat} (h : c < 256) : iZ (sby c) &&& 255 = iZ (c : Int) := by
  have e : sby c % 2 ^ 8 = (c : Int) := by
    unfold sby
    show (c : Int).bmod 256 % 256 = c
    rw [show ((256 : Int)) = ((256 : Nat) : Int) from rfl, Int.bmod_emod]
    omega
  rw [show (255 : Int32) = iZ ((2 : Int) ^ 8 - 1) from rfl, iZ_mask _ 8 (by decide), e]
theorem c_byteAt {k : Nat} (h : cT I T n) (h1 : I 51 1 = iZ (n : Int)) (hk : k < n) : fX10_byteAt 51 (iZ (k : Int)) (mkS X I J v) = some (iZ (T k : Int), mkS X I J v) := by
  have hn := h.1
  obtain ⟨t1, t2⟩ := h.2 k hk
  unfold fX10_byteAt
  simp only [bO, o51, o51R, h1, n52]
  rw [if_neg (by rw [cL_lt (by omega) (by omega) (by decide)]; omega), if_pos (by rw [iZ_lt (by omega) (by omega) (by omega) (by omega)]; omega), if_pos (by rw [iZ_lt (by omega) (by omega) (by omega) (by omega)]; omega), a52 _ _ _ _ k (by omega), t2]
  simp only [bO]
  rw [sby_255 t1]
theorem c_dayAt {k : Nat} (h : cT I T n) (h1 : I 51 1 = iZ (n : Int)) (hk : k + 1 < n) : fX9_dayAt 51 (iZ (k : Int)) (mkS X I J v) = some (iZ ((256 * T k + T (k + 1) : Nat) : Int), mkS X I J v) := by
  unfold fX9_dayAt
  simp only [o51, c_byteAt h h1 (show k < n by omega), gb2_some, aL]
  rw [show (k : Int) + 1 = ((k + 1 : Nat) : Int) by omega, c_byteAt h h1 hk, gb2_some, show (256 : Int32) = iZ 256 from rfl, iZ_mul, iZ_add]
  congr 3
  omega
theorem c_toldL (h : cT I T n) (h1 : I 51 1 = iZ (n : Int)) : ∀ (m j fuel : Nat), 3 * (j + m) = n → m < fuel → gX9_isTold_L30 51 fuel (iZ ((3 * j : Nat) : Int)) (mkS X I J v) = some (tf (aB (rwOK T) m j), mkS X I J v) := by
  have hn := h.1
  intro m
  induction m with
  | zero =>
    intro j fuel hj hf
    obtain ⟨f, rfl⟩ : ∃ n, fuel = n + 1 := ⟨fuel - 1, by omega⟩
    unfold gX9_isTold_L30
    simp only [bO, o51, h1]
    rw [if_neg (by rw [iZ_lt (by omega) (by omega) (by omega) (by omega)]; omega)]
    rfl
  | succ m ih =>
    intro j fuel hj hf
    obtain ⟨f, rfl⟩ : ∃ n, fuel = n + 1 := ⟨fuel - 1, by omega⟩
    have t0 := (h.2 (3 * j) (by omega)).1
    have t1 := (h.2 (3 * j + 1) (by omega)).1
    have t2 := (h.2 (3 * j + 2) (by omega)).1
    unfold gX9_isTold_L30
    simp only [bO, o51, h1]
    rw [if_pos (by rw [iZ_lt (by omega) (by omega) (by omega) (by omega)]; omega), c_dayAt h h1 (by omega), gb2_some, c_isDay (by omega) (by omega), gb2_some, aL, aL, show ((3 * j : Nat) : Int) + 2 = ((3 * j + 2 : Nat) : Int) by omega, show ((3 * j : Nat) : Int) + 3 = ((3 * (j + 1) : Nat) : Int) by omega]
    unfold aB
    have er : rwOK T j = (decide (256 * T (3 * j) + T (3 * j + 1) < 14610) && decide (T (3 * j + 2) ≤ 1)) := rfl
    rw [er]
    by_cases c : 256 * T (3 * j) + T (3 * j + 1) < 14610
    · rw [if_pos (show 0 ≤ ((256 * T (3 * j) + T (3 * j + 1) : Nat) : Int) ∧ ((256 * T (3 * j) + T (3 * j + 1) : Nat) : Int) < 14610 by omega), if_neg (show ¬ (1 : Int32) = 0 by decide), o51.2.2.2.2, c_byteAt h h1 (show 3 * j + 2 < n by omega), gb2_some, decide_eq_true c]
      by_cases c2 : T (3 * j + 2) ≤ 1
      · rw [if_neg (by rw [cR_lt (by omega) (by omega) (by decide)]; omega), decide_eq_true c2]
        exact ih (j + 1) f (by omega) (by omega)
      · rw [if_pos (by rw [cR_lt (by omega) (by omega) (by decide)]; omega), decide_eq_false c2]
        rfl
    · rw [if_neg (show ¬ (0 ≤ ((256 * T (3 * j) + T (3 * j + 1) : Nat) : Int) ∧ ((256 * T (3 * j) + T (3 * j + 1) : Nat) : Int) < 14610) by omega), if_pos rfl, decide_eq_false c]
      rfl
theorem c_isTold (h : cT I T n) (h1 : I 51 1 = iZ (n : Int)) : fX9_isTold 51 (mkS X I J v) = some (tf (seeB T n), mkS X I J v) := by
  have hn := h.1
  unfold fX9_isTold gX9_isTold seeB
  simp only [bO, o51, h1]
  by_cases c1 : n < 3
  · rw [if_pos (by rw [cL_lt (by omega) (by omega) (by decide)]; omega), decide_eq_false (by omega)]; rfl
  · rw [if_neg (by rw [cL_lt (by omega) (by omega) (by decide)]; omega)]
    by_cases c2 : 36 < n
    · rw [if_pos (by rw [cR_lt (by omega) (by omega) (by decide)]; omega), decide_eq_false (by omega)]; rfl
    · rw [if_neg (by rw [cR_lt (by omega) (by omega) (by decide)]; omega), show (3 : Int32) = iZ 3 from rfl, iZ_rem (by omega) (by omega) (by omega) (by omega), tmod_nn (by omega)]
      by_cases c3 : n % 3 = 0
      · rw [if_pos (by rw [cL_eq (by omega) (by omega) (by decide)]; omega), decide_eq_true (by omega)]
        have := c_toldL (X := X) (J := J) (v := v) h h1 (n / 3) 0 20000 (by omega) (by omega)
        have this' : gX9_isTold_L30 51 20000 0 (mkS X I J v) = some (tf (aB (rwOK T) (n / 3) 0), mkS X I J v) := this
        rw [this', Bool.true_and]
        exact gzr_tf
      · rw [if_neg (by rw [cL_eq (by omega) (by omega) (by decide)]; omega), decide_eq_false (by omega)]; rfl
theorem c_seeL {m0 : Nat} (hm0 : m0 ≤ 12) (h3 : 3 * m0 = n) : ∀ (m j fuel : Nat) (I : Nat → Nat → Int32), cT I T n → I 51 1 = iZ (n : Int) → I 188 8 = iZ (m0 : Int) → j + m = m0 → m < fuel → ∃ I', gX9_take_L22 188 51 fuel (iZ (j : Int)) (mkS X I J v) = some ((), mkS X I' J v) ∧ (∀ a k, a ≠ 191 → a ≠ 192 → (a ≠ 188 ∨ k ≠ 7) → I' a k = I a k) ∧ I' 188 7 = 0 ∧ (∀ k, k < j → I' 191 k = I 191 k ∧ I' 192 k = I 192 k) ∧ ∀ k, j ≤ k → k < m0 → I' 191 k = iZ (sDay T k : Nat) ∧ I' 192 k = tf (decide (T (3 * k + 2) = 1)) := by
  intro m
  induction m with
  | zero =>
    intro j fuel I h h1 h8 hj hf
    have hn := h.1
    obtain ⟨f, rfl⟩ : ∃ n, fuel = n + 1 := ⟨fuel - 1, by omega⟩
    refine ⟨gup I 188 7 0, ?_, fun a k x y z => ?_, gup_s, fun k _ => ⟨gup_r (by decide), gup_r (by decide)⟩, fun k a b => by omega⟩
    · unfold gX9_take_L22
      simp only [bO, o188, h8]
      rw [if_neg (by rw [iZ_lt (by omega) (by omega) (by omega) (by omega)]; omega)]
    · rcases z with z | z
      · exact gup_r z
      · exact gup_k z
  | succ m ih =>
    intro j fuel I h h1 h8 hj hf
    have hn := h.1
    obtain ⟨f, rfl⟩ : ∃ n, fuel = n + 1 := ⟨fuel - 1, by omega⟩
    have t2 := (h.2 (3 * j + 2) (by omega)).1
    have e3 : iZ (j : Int) * 3 = iZ ((3 * j : Nat) : Int) := by rw [show (3 : Int32) = iZ 3 from rfl, iZ_mul]; congr 1; omega
    have e32 : iZ (j : Int) * 3 + 2 = iZ ((3 * j + 2 : Nat) : Int) := by rw [e3, aL]; congr 1
    have step : ∀ bb : Bool, bb = decide (T (3 * j + 2) = 1) → ∃ I', gX9_take_L22 188 51 f (iZ ((j + 1 : Nat) : Int)) (mkS X (gup (gup I 191 j (iZ (sDay T j : Nat))) 192 j (tf bb)) J v) = some ((), mkS X I' J v) ∧ (∀ a k, a ≠ 191 → a ≠ 192 → (a ≠ 188 ∨ k ≠ 7) → I' a k = I a k) ∧ I' 188 7 = 0 ∧ (∀ k, k < j → I' 191 k = I 191 k ∧ I' 192 k = I 192 k) ∧ ∀ k, j ≤ k → k < m0 → I' 191 k = iZ (sDay T k : Nat) ∧ I' 192 k = tf (decide (T (3 * k + 2) = 1)) := by
      intro bb hbb
      obtain ⟨I', a1, a2, a3, a4, a5⟩ := ih (j + 1) f (gup (gup I 191 j (iZ (sDay T j : Nat))) 192 j (tf bb)) ⟨hn, fun k hk => by rw [gup_r (by decide), gup_r (by decide)]; exact h.2 k hk⟩ (by rw [gup_r (by decide), gup_r (by decide)]; exact h1) (by rw [gup_r (by decide), gup_r (by decide)]; exact h8) (by omega) (by omega)
      refine ⟨I', a1, fun a k x y z => by rw [a2 a k x y z, gup_r y, gup_r x], a3, fun k hk => ?_, fun k x y => ?_⟩
      · obtain ⟨p, q⟩ := a4 k (by omega)
        rw [p, q, gup_r (by decide), gup_k (by omega), gup_k (by omega), gup_r (by decide)]
        exact ⟨rfl, rfl⟩
      · by_cases c : k = j
        · obtain ⟨p, q⟩ := a4 j (by omega)
          rw [c, p, q, gup_r (by decide), gup_s, gup_s, hbb]
          exact ⟨rfl, rfl⟩
        · exact a5 k (by omega) y
    unfold gX9_take_L22
    simp only [bO, o188, o188R, h8, e32]
    rw [e3, if_pos (by rw [iZ_lt (by omega) (by omega) (by omega) (by omega)]; omega), c_dayAt h h1 (by omega), gb2_some, b191 _ _ _ _ _ _ (show j < 12 by omega)]
    simp only [bO, gnar_2, o188R, o51, aL]
    have hT1 : cT (gup I 191 j (iZ ((256 * T (3 * j) + T (3 * j + 1) : Nat) : Int))) T n := ⟨hn, fun k hk => by rw [gup_r (by decide)]; exact h.2 k hk⟩
    rw [c_byteAt hT1 (by rw [gup_r (by decide)]; exact h1) (show 3 * j + 2 < n by omega), gb2_some, show (j : Int) + 1 = ((j + 1 : Nat) : Int) by omega]
    by_cases c : T (3 * j + 2) = 1
    · rw [if_pos (by rw [c]; rfl), b192 _ _ _ _ _ _ (show j < 12 by omega)]
      exact step true (decide_eq_true c).symm
    · rw [if_neg (by rw [cL_eq (by omega) (by omega) (by decide)]; omega), b192 _ _ _ _ _ _ (show j < 12 by omega)]
      exact step false (decide_eq_false c).symm
end gSee
