/-! SEE: the calls -/
section gSef
variable {X : Nat × (Nat → Int32)} {v : Vt} {J : Nat → Nat → Int64} {T : Nat → Nat} {n b : Nat} {B : Bk}
theorem seeB_n (h : seeB T n = true) : 3 ≤ n ∧ n ≤ 36 ∧ n % 3 = 0 ∧ ∀ k, k < n / 3 → sDay T k < 14610 ∧ T (3 * k + 2) ≤ 1 := by
  unfold seeB at h
  rw [Bool.and_eq_true, decide_eq_true_eq] at h
  obtain ⟨⟨h1, h2, h3⟩, h4⟩ := h
  refine ⟨h1, h2, h3, fun k hk => ?_⟩
  have := aB_at h4 (Nat.zero_le k) (by omega)
  unfold rwOK at this
  rw [Bool.and_eq_true, decide_eq_true_eq, decide_eq_true_eq] at this
  exact this
theorem c_take {I : Nat → Nat → Int32} {q : Nat} (h : cT I T n) (h1 : I 51 1 = iZ (n : Int)) (hs : seeB T n = true) : ∃ I', fX9_take 188 51 q (mkS X I J v) = some ((), mkS X I' J (v.1, v.2.1, v.2.2.1, v.2.2.2.1, v.2.2.2.2.1, q)) ∧ (∀ a k, a ≠ 191 → a ≠ 192 → (a ≠ 188 ∨ (k ≠ 7 ∧ k ≠ 8)) → I' a k = I a k) ∧ I' 188 7 = 0 ∧ I' 188 8 = iZ ((n / 3 : Nat) : Int) ∧ ∀ k, k < n / 3 → I' 191 k = iZ (sDay T k : Nat) ∧ I' 192 k = tf (decide (T (3 * k + 2) = 1)) := by
  obtain ⟨s1, s2, s3, s4⟩ := seeB_n hs
  have e : gmin 12 (iZ (n : Int) / 3) = iZ ((n / 3 : Nat) : Int) := by
    rw [show (3 : Int32) = iZ 3 from rfl, iZ_div (by omega) (by omega) (by omega) (by omega), tdiv_nn (by omega), show (12 : Int32) = iZ 12 from rfl, gmin_Z (by omega) (by omega) (by omega) (by omega)]
    congr 1; omega
  unfold fX9_take
  rw [pR1886]
  simp only [bO, o51, h1, o188, e]
  obtain ⟨I', a1, a2, a3, a4, a5⟩ := c_seeL (X := X) (J := J) (v := (v.1, v.2.1, v.2.2.1, v.2.2.2.1, v.2.2.2.2.1, q)) (T := T) (n := n) (m0 := n / 3) (by omega) (by omega) (n / 3) 0 20000 (gup I 188 8 (iZ ((n / 3 : Nat) : Int))) ⟨h.1, fun k hk => by rw [gup_r (by decide)]; exact h.2 k hk⟩ (by rw [gup_r (by decide)]; exact h1) gup_s (by omega) (by omega)
  refine ⟨I', a1, fun a k x y z => ?_, a3, ?_, fun k hk => a5 k (Nat.zero_le _) hk⟩
  · rw [a2 a k x y (by omega)]
    rcases z with z | z
    · exact gup_r z
    · exact gup_k z.2
  · rw [a2 188 8 (by decide) (by decide) (by decide), gup_s]
theorem cq_see {I : Nat → Nat → Int32} {z : Int} (z1 : -2147483648 ≤ z) (z2 : z < 2147483648) (hb : isBk b) (hv1 : v.1 = b) (ok : BkOK B) (hB : cBk I b B) (h : cT I T n) (h1 : I 51 1 = iZ (n : Int)) : (¬ ((0 ≤ z ∧ z < B.nR) ∧ seeB T n = true) ∧ fX11_see 50 (iZ z) (mkS X I J v) = some (-1, mkS X (gup (gup I 51 1 0) 196 1 (I 196 1 + 1)) J v)) ∨ (((0 ≤ z ∧ z < B.nR) ∧ seeB T n = true) ∧ ∃ I', fX11_see 50 (iZ z) (mkS X I J v) = some (iZ ((n / 3 : Nat) : Int), mkS X I' J (v.1, v.2.1, v.2.2.1, v.2.2.2.1, v.2.2.2.2.1, b + 5 + 5 * z.toNat)) ∧ (∀ a k, a ≠ 191 → a ≠ 192 → (a ≠ 188 ∨ (k ≠ 7 ∧ k ≠ 8)) → (a ≠ 51 ∨ k ≠ 1) → I' a k = I a k) ∧ I' 51 1 = 0 ∧ I' 188 7 = 0 ∧ I' 188 8 = iZ ((n / 3 : Nat) : Int) ∧ ∀ k, k < n / 3 → I' 191 k = iZ (sDay T k : Nat) ∧ I' 192 k = tf (decide (T (3 * k + 2) = 1))) := by
  have hb0 := bk_r hb
  have k1 := ok.1
  have den : gb2 (fX11_refuse 50 1 (mkS X (gup I 51 1 0) J v)) (fun r12 s13 => some (r12, s13)) = some ((-1 : Int32), mkS X (gup (gup I 51 1 0) 196 1 (I 196 1 + 1)) J v) := by
    have := c_refuse (X := X) (I := gup I 51 1 0) (J := J) (v := v) (n := 1) (by decide)
    rw [show (1 : Int32) = iZ ((1 : Nat) : Int) from rfl, this, gup_r (by decide)]; rfl
  unfold fX11_see
  simp only [gjn_eq, bO, o50R, o50, o51, hv1, bk_c hb, c_ruleAt hb hB.1 k1 z1 z2, gb2_some, c_isTold h h1, den]
  by_cases c : 0 ≤ z ∧ z < (B.nR : Int)
  · rw [if_pos c, if_neg (by omega)]
    cases hs : seeB T n with
    | false =>
      rw [if_pos tf_f, if_pos trivial, if_pos trivial]
      exact Or.inl ⟨fun q => (by cases q.2), rfl⟩
    | true =>
      rw [if_neg (show ¬ tf true = 0 by decide), if_neg (show ¬ (1 : Int32) = 0 by decide)]
      right
      refine ⟨⟨c, rfl⟩, ?_⟩
      obtain ⟨I1, a1, a2, a3, a4, a5⟩ := c_take (X := X) (J := J) (v := v) (q := b + 5 + 5 * z.toNat) h h1 hs
      simp only [o188, a1, gb2_some, bO, o50R, o51]
      rw [if_neg (show ¬ (1 : Int32) = 0 by decide)]
      refine ⟨gup I1 51 1 0, ?_, fun a k w1 w2 w3 w4 => ?_, gup_s, ?_, ?_, fun k hk => ?_⟩
      · rw [gup_r (by decide), a4, hv1]
      · rw [← a2 a k w1 w2 w3]
        rcases w4 with w | w
        · exact gup_r w
        · exact gup_k w
      · rw [gup_r (by decide)]; exact a3
      · rw [gup_r (by decide)]; exact a4
      · rw [gup_r (by decide), gup_r (by decide)]; exact a5 k hk
  · rw [if_neg c, if_pos rfl, if_pos trivial, if_pos trivial]
    exact Or.inl ⟨fun q => c q.1, rfl⟩
end gSef
