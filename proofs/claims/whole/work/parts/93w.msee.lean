/-! SEE of the reference -/
section gSeg
variable {X : Nat × (Nat → Int32)} {v : Vt} {J : Nat → Nat → Int64} {T : Nat → Nat} {n : Nat} {B : Bk}
theorem m_seeL {K : Int32 → gH → Option (Int32 × gH)} {I : Nat → Nat → Int32} {x1 : Int32} (h : mT I T n) : ∀ (m j fuel : Nat), 3 * (j + m) = n → m < fuel → gX12_see_L45 K 267 x1 (iZ (n : Int)) fuel 1 (iZ ((3 * j : Nat) : Int)) (mkS X I J v) = K (tf (aB (rwOK T) m j)) (mkS X I J v) := by
  have hn := h.1
  intro m
  induction m with
  | zero =>
    intro j fuel hj hf
    obtain ⟨f, rfl⟩ : ∃ n, fuel = n + 1 := ⟨fuel - 1, by omega⟩
    unfold gX12_see_L45
    rw [if_neg (by rw [iZ_lt (by omega) (by omega) (by omega) (by omega)]; omega)]
    rfl
  | succ m ih =>
    intro j fuel hj hf
    obtain ⟨f, rfl⟩ : ∃ n, fuel = n + 1 := ⟨fuel - 1, by omega⟩
    obtain ⟨t0, u0⟩ := h.2 (3 * j) (by omega)
    obtain ⟨t1, u1⟩ := h.2 (3 * j + 1) (by omega)
    obtain ⟨t2, u2⟩ := h.2 (3 * j + 2) (by omega)
    have bad : gX12_see_L45 K 267 x1 (iZ (n : Int)) f 0 (iZ ((3 * (j + 1) : Nat) : Int)) (mkS X I J v) = K 0 (mkS X I J v) := by
      obtain ⟨g, rfl⟩ : ∃ n, f = n + 1 := ⟨f - 1, by omega⟩
      unfold gX12_see_L45
      rw [if_pos rfl, ite_self]
    unfold gX12_see_L45
    rw [if_pos (by rw [iZ_lt (by omega) (by omega) (by omega) (by omega)]; omega), if_neg (show ¬ (1 : Int32) = 0 by decide)]
    simp only [bO, o267R, aL]
    rw [show ((3 * j : Nat) : Int) + 1 = ((3 * j + 1 : Nat) : Int) by omega, show ((3 * j : Nat) : Int) + 2 = ((3 * j + 2 : Nat) : Int) by omega, show ((3 * j : Nat) : Int) + 3 = ((3 * (j + 1) : Nat) : Int) by omega, a268 _ _ _ _ _ (show 3 * j < 1600 by omega), u0]
    simp only [bO]
    rw [a268 _ _ _ _ _ (show 3 * j + 1 < 1600 by omega), u1]
    simp only [bO]
    rw [show (256 : Int32) = iZ 256 from rfl, iZ_mul, iZ_add, show (256 : Int) * (T (3 * j) : Int) + (T (3 * j + 1) : Int) = ((256 * T (3 * j) + T (3 * j + 1) : Nat) : Int) by omega, m_isDay (by omega) (by omega), gb2_some]
    unfold aB
    have er : rwOK T j = (decide (256 * T (3 * j) + T (3 * j + 1) < 14610) && decide (T (3 * j + 2) ≤ 1)) := rfl
    rw [er]
    by_cases c : 256 * T (3 * j) + T (3 * j + 1) < 14610
    · rw [if_pos (show 0 ≤ ((256 * T (3 * j) + T (3 * j + 1) : Nat) : Int) ∧ ((256 * T (3 * j) + T (3 * j + 1) : Nat) : Int) < 14610 by omega), if_neg (show ¬ (1 : Int32) = 0 by decide), o267R.1, decide_eq_true c]
      simp only [bO]
      rw [a268 _ _ _ _ _ (show 3 * j + 2 < 1600 by omega), u2]
      simp only [bO]
      by_cases c2 : T (3 * j + 2) ≤ 1
      · rw [if_neg (by rw [cR_lt (by omega) (by omega) (by decide)]; omega), decide_eq_true c2]
        exact ih (j + 1) f (by omega) (by omega)
      · rw [if_pos (by rw [cR_lt (by omega) (by omega) (by decide)]; omega), decide_eq_false c2, bad]
        rfl
    · rw [if_neg (show ¬ (0 ≤ ((256 * T (3 * j) + T (3 * j + 1) : Nat) : Int) ∧ ((256 * T (3 * j) + T (3 * j + 1) : Nat) : Int) < 14610) by omega), if_pos rfl, decide_eq_false c, bad]
      rfl
theorem m_seeW {m0 : Nat} (hm0 : m0 ≤ 12) (h3 : 3 * m0 = n) : ∀ (m j fuel : Nat) (I : Nat → Nat → Int32), mT I T n → I 267 36 = iZ (m0 : Int) → j + m = m0 → m < fuel → ∃ I', gX12_see_L132 267 fuel (iZ (j : Int)) (mkS X I J v) = some (iZ (m0 : Int), mkS X I' J v) ∧ (∀ a k, a ≠ 287 → a ≠ 288 → I' a k = I a k) ∧ (∀ k, k < j → I' 287 k = I 287 k ∧ I' 288 k = I 288 k) ∧ ∀ k, j ≤ k → k < m0 → I' 287 k = iZ (sDay T k : Nat) ∧ I' 288 k = tf (decide (T (3 * k + 2) = 1)) := by
  intro m
  induction m with
  | zero =>
    intro j fuel I h h8 hj hf
    obtain ⟨f, rfl⟩ : ∃ n, fuel = n + 1 := ⟨fuel - 1, by omega⟩
    refine ⟨I, ?_, fun _ _ _ _ => rfl, fun _ _ => ⟨rfl, rfl⟩, fun k a b => by omega⟩
    unfold gX12_see_L132
    simp only [bO, o267, h8]
    rw [if_neg (by rw [iZ_lt (by omega) (by omega) (by omega) (by omega)]; omega)]
  | succ m ih =>
    intro j fuel I h h8 hj hf
    have hn := h.1
    obtain ⟨f, rfl⟩ : ∃ n, fuel = n + 1 := ⟨fuel - 1, by omega⟩
    obtain ⟨t0, u0⟩ := h.2 (3 * j) (by omega)
    obtain ⟨t1, u1⟩ := h.2 (3 * j + 1) (by omega)
    obtain ⟨t2, u2⟩ := h.2 (3 * j + 2) (by omega)
    have e3 : 3 * iZ (j : Int) = iZ ((3 * j : Nat) : Int) := by rw [show (3 : Int32) = iZ 3 from rfl, iZ_mul]; congr 1
    have step : ∀ bb : Bool, bb = decide (T (3 * j + 2) = 1) → ∃ I', gX12_see_L132 267 f (iZ ((j + 1 : Nat) : Int)) (mkS X (gup (gup I 287 j (iZ (sDay T j : Nat))) 288 j (tf bb)) J v) = some (iZ (m0 : Int), mkS X I' J v) ∧ (∀ a k, a ≠ 287 → a ≠ 288 → I' a k = I a k) ∧ (∀ k, k < j → I' 287 k = I 287 k ∧ I' 288 k = I 288 k) ∧ ∀ k, j ≤ k → k < m0 → I' 287 k = iZ (sDay T k : Nat) ∧ I' 288 k = tf (decide (T (3 * k + 2) = 1)) := by
      intro bb hbb
      obtain ⟨I', a1, a2, a4, a5⟩ := ih (j + 1) f (gup (gup I 287 j (iZ (sDay T j : Nat))) 288 j (tf bb)) ⟨hn, fun k hk => by rw [gup_r (by decide), gup_r (by decide)]; exact h.2 k hk⟩ (by rw [gup_r (by decide), gup_r (by decide)]; exact h8) (by omega) (by omega)
      refine ⟨I', a1, fun a k x y => by rw [a2 a k x y, gup_r y, gup_r x], fun k hk => ?_, fun k x y => ?_⟩
      · obtain ⟨p, q⟩ := a4 k (by omega)
        rw [p, q, gup_r (by decide), gup_k (by omega), gup_k (by omega), gup_r (by decide)]
        exact ⟨rfl, rfl⟩
      · by_cases c : k = j
        · obtain ⟨p, q⟩ := a4 j (by omega)
          rw [c, p, q, gup_r (by decide), gup_s, gup_s, hbb]
          exact ⟨rfl, rfl⟩
        · exact a5 k (by omega) y
    unfold gX12_see_L132
    simp only [bO, o267, o267R, h8, e3, aL]
    rw [if_pos (by rw [iZ_lt (by omega) (by omega) (by omega) (by omega)]; omega), show ((3 * j : Nat) : Int) + 1 = ((3 * j + 1 : Nat) : Int) by omega, show ((3 * j : Nat) : Int) + 2 = ((3 * j + 2 : Nat) : Int) by omega, show (j : Int) + 1 = ((j + 1 : Nat) : Int) by omega, a268 _ _ _ _ _ (show 3 * j < 1600 by omega), u0]
    simp only [bO]
    rw [a268 _ _ _ _ _ (show 3 * j + 1 < 1600 by omega), u1]
    simp only [bO]
    rw [show (256 : Int32) = iZ 256 from rfl, iZ_mul, iZ_add, show (256 : Int) * (T (3 * j) : Int) + (T (3 * j + 1) : Int) = ((sDay T j : Nat) : Int) by unfold sDay; omega, b287 _ _ _ _ _ _ (show j < 12 by omega)]
    simp only [bO, gnar_2, o267R]
    rw [a268 _ _ _ _ _ (show 3 * j + 2 < 1600 by omega), gup_r (by decide), u2]
    simp only [bO]
    by_cases c : T (3 * j + 2) = 1
    · rw [if_pos (by rw [c]; rfl), b288 _ _ _ _ _ _ (show j < 12 by omega)]
      exact step true (decide_eq_true c).symm
    · rw [if_neg (by rw [cL_eq (by omega) (by omega) (by decide)]; omega), b288 _ _ _ _ _ _ (show j < 12 by omega)]
      exact step false (decide_eq_false c).symm
theorem mq_see {I : Nat → Nat → Int32} {z : Int} (z1 : -2147483648 ≤ z) (z2 : z < 2147483648) (ok : BkOK B) (hB : mBk I B) (h : mT I T n) (h1 : I 267 1 = iZ (n : Int)) : (¬ ((0 ≤ z ∧ z < B.nR) ∧ seeB T n = true) ∧ fX12_see 267 (iZ z) (mkS X I J v) = some (-1, mkS X (gup (gup I 267 1 0) 269 1 (I 269 1 + 1)) J v)) ∨ (((0 ≤ z ∧ z < B.nR) ∧ seeB T n = true) ∧ ∃ I', fX12_see 267 (iZ z) (mkS X I J v) = some (iZ ((n / 3 : Nat) : Int), mkS X I' J v) ∧ (∀ a k, a ≠ 287 → a ≠ 288 → (a ≠ 267 ∨ (k ≠ 1 ∧ k ≠ 36 ∧ k ≠ 37)) → I' a k = I a k) ∧ I' 267 1 = 0 ∧ I' 267 36 = iZ ((n / 3 : Nat) : Int) ∧ I' 267 37 = iZ z ∧ ∀ k, k < n / 3 → I' 287 k = iZ (sDay T k : Nat) ∧ I' 288 k = tf (decide (T (3 * k + 2) = 1))) := by
  have hn := h.1
  have k1 := ok.1
  have hB1 : mBk (gup I 267 1 0) B := mBk_fr hB (fun k => gup_r (by decide)) (fun k => gup_r (by decide)) (fun k _ => gup_r (by decide)) k1 (gup_k (by decide)) (gup_k (by decide)) (fun r k x y => gup_r (by omega))
  have hT1 : mT (gup I 267 1 0) T n := ⟨hn, fun k hk => by rw [gup_r (by decide)]; exact h.2 k hk⟩
  have den : gb2 (fX12_refuses 267 1 (mkS X (gup I 267 1 0) J v)) (fun r24 s25 => some (r24, s25)) = some ((-1 : Int32), mkS X (gup (gup I 267 1 0) 269 1 (I 269 1 + 1)) J v) := by
    have := m_refuses (X := X) (I := gup I 267 1 0) (J := J) (v := v) (n := 1) (by decide)
    rw [show (1 : Int32) = iZ ((1 : Nat) : Int) from rfl, this, gup_r (by decide)]; rfl
  have stop : ∀ K : Int32 → gH → Option (Int32 × gH), gX12_see_L45 K 267 (iZ z) (iZ (n : Int)) 20000 0 0 (mkS X (gup I 267 1 0) J v) = K 0 (mkS X (gup I 267 1 0) J v) := fun K => by
    rw [show (20000 : Nat) = 19999 + 1 from rfl]
    unfold gX12_see_L45
    rw [if_pos rfl, ite_self]
  unfold fX12_see
  simp only [gjn_eq, bO, o267, h1, m_isRule z1 z2 ok hB1, gb2_some, stop, den, if_true]
  have no : seeB T n = false → ¬ ((0 ≤ z ∧ z < (B.nR : Int)) ∧ seeB T n = true) := fun q w => by rw [w.2] at q; cases q
  by_cases c : 0 ≤ z ∧ z < (B.nR : Int)
  · rw [decide_eq_true c, if_neg (show ¬ tf true = 0 by decide)]
    by_cases c1 : 0 < n
    · rw [if_pos (by rw [cR_lt (by omega) (by omega) (by decide)]; omega), show (3 : Int32) = iZ 3 from rfl, iZ_rem (by omega) (by omega) (by omega) (by omega), tmod_nn (by omega), iZ_div (by omega) (by omega) (by omega) (by omega), tdiv_nn (by omega)]
      by_cases c2 : n % 3 = 0
      · rw [if_pos (by rw [cL_eq (by omega) (by omega) (by decide)]; omega)]
        by_cases c3 : 12 < n / 3
        · rw [if_pos (by rw [cR_lt (by omega) (by omega) (by decide)]; omega)]
          exact Or.inl ⟨no (by unfold seeB; rw [decide_eq_false (by omega)]; rfl), rfl⟩
        · rw [if_neg (by rw [cR_lt (by omega) (by omega) (by decide)]; omega)]
          have L := fun K => m_seeL (X := X) (J := J) (v := v) (K := K) (x1 := iZ z) hT1 (n / 3) 0 20000 (by omega) (by omega)
          have L' : ∀ K, gX12_see_L45 K 267 (iZ z) (iZ (n : Int)) 20000 1 0 (mkS X (gup I 267 1 0) J v) = K (tf (aB (rwOK T) (n / 3) 0)) (mkS X (gup I 267 1 0) J v) := L
          rw [L']
          have es : seeB T n = aB (rwOK T) (n / 3) 0 := by unfold seeB; rw [decide_eq_true (by omega), Bool.true_and]
          rw [← es]
          cases hs : seeB T n with
          | false =>
            rw [if_pos tf_f]
            simp only [o267, den]
            exact Or.inl ⟨fun q => (by cases q.2), trivial⟩
          | true =>
            rw [if_neg (show ¬ tf true = 0 by decide)]
            right
            refine ⟨⟨c, rfl⟩, ?_⟩
            rw [show (n : Int) / 3 = ((n / 3 : Nat) : Int) by omega]
            simp only [bO, o267]
            obtain ⟨I', a1, a2, a4, a5⟩ := m_seeW (X := X) (J := J) (v := v) (T := T) (n := n) (m0 := n / 3) (by omega) (by omega) (n / 3) 0 20000 (gup (gup (gup I 267 1 0) 267 36 (iZ ((n / 3 : Nat) : Int))) 267 37 (iZ z)) ⟨hn, fun k hk => by rw [gup_r (by decide), gup_r (by decide), gup_r (by decide)]; exact h.2 k hk⟩ (by rw [gup_k (by decide), gup_s]) (by omega) (by omega)
            refine ⟨I', a1, fun a k x y w => ?_, ?_, ?_, ?_, fun k hk => a5 k (Nat.zero_le _) hk⟩
            · rw [a2 a k x y]
              rcases w with w | w
              · rw [gup_r w, gup_r w, gup_r w]
              · rw [gup_k w.2.2, gup_k w.2.1, gup_k w.1]
            · rw [a2 267 1 (by decide) (by decide), gup_k (by decide), gup_k (by decide), gup_s]
            · rw [a2 267 36 (by decide) (by decide), gup_k (by decide), gup_s]
            · rw [a2 267 37 (by decide) (by decide), gup_s]
      · rw [if_neg (by rw [cL_eq (by omega) (by omega) (by decide)]; omega)]
        exact Or.inl ⟨no (by unfold seeB; rw [decide_eq_false (by omega)]; rfl), rfl⟩
    · rw [if_neg (by rw [cR_lt (by omega) (by omega) (by decide)]; omega)]
      exact Or.inl ⟨no (by unfold seeB; rw [decide_eq_false (by omega)]; rfl), rfl⟩
  · rw [decide_eq_false c, if_pos tf_f]
    exact Or.inl ⟨fun q => c q.1, rfl⟩
end gSeg
