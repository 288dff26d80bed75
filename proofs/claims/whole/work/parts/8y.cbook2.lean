/-! THE CLASS TAKES A BOOK: the call -/
section gCc
variable {X : Nat × (Nat → Int32)} {v : Vt} {T : Nat → Nat} {n b : Nat}
theorem c_read {I : Nat → Nat → Int32} {J : Nat → Nat → Int64} (hb : isBk b) (hT : cT I T n) (h1 : I 51 1 = iZ (n : Int)) : ∃ I', fX6_read 53 51 b (mkS X I J v) = some ((), mkS X I' J (v.1, v.2.1, v.2.2.1, b, 52, v.2.2.2.2.2)) ∧ (∀ r k, r ≠ 53 → r ≠ 55 → r ≠ 56 → ¬ (b ≤ r ∧ r ≤ b + 34) → I' r k = I r k) ∧ cO I' T n (pBook T n).2 ∧ (pOk (pBook T n).2 = true → cDr I' b (pBook T n).1) := by
  have hb0 := bk_r hb
  have hn := hT.1
  unfold fX6_read fX1_clear
  simp only [bO, o51R, o51, pR532, o53R, n52, o53, pR537, bk_c hb, bk_p hb, gb2_some, h1]
  rw [gmin_Z (by omega) (by omega) (by omega) (by omega), Int.min_eq_left (by omega)]
  obtain ⟨I0, hI0⟩ : ∃ I0, I0 = gup (gup (gup (gup (gup (gup (gup (gup I 53 3 (iZ (n : Int))) b 0 0) b 1 0) b 2 0) 53 0 0) 53 1 (-1)) 53 4 3) 53 6 0 := ⟨_, rfl⟩
  rw [← hI0]
  have out : ∀ r k, r ≠ 53 → r ≠ b → I0 r k = I r k := fun r k x y => by
    rw [hI0, gup_r x, gup_r x, gup_r x, gup_r x, gup_r y, gup_r y, gup_r y, gup_r x]
  have e3 : I0 53 3 = iZ (n : Int) := by
    rw [hI0, gup_k (by decide), gup_k (by decide), gup_k (by decide), gup_k (by decide), gup_r (by omega), gup_r (by omega), gup_r (by omega), gup_s]
  have e0 : I0 53 0 = 0 := by rw [hI0, gup_k (by decide), gup_k (by decide), gup_k (by decide), gup_s]
  have e1 : I0 53 1 = -1 := by rw [hI0, gup_k (by decide), gup_k (by decide), gup_s]
  have e4 : I0 53 4 = iZ ((3 : Nat) : Int) := by rw [hI0, gup_k (by decide), gup_s]; rfl
  have e6 : I0 53 6 = iZ ((0 : Nat) : Int) := by rw [hI0, gup_s]; rfl
  have b0 : I0 b 0 = 0 := by rw [hI0, gup_r (by omega), gup_r (by omega), gup_r (by omega), gup_r (by omega), gup_k (by decide), gup_k (by decide), gup_s]
  have b1 : I0 b 1 = 0 := by rw [hI0, gup_r (by omega), gup_r (by omega), gup_r (by omega), gup_r (by omega), gup_k (by decide), gup_s]
  have b2 : I0 b 2 = 0 := by rw [hI0, gup_r (by omega), gup_r (by omega), gup_r (by omega), gup_r (by omega), gup_s]
  have hX : cX I0 (v.1, v.2.1, v.2.2.1, b, 52, v.2.2.2.2.2) T n := ⟨⟨hn, fun k hk => by rw [out 52 k (by decide) (by omega)]; exact hT.2 k hk⟩, e3, rfl⟩
  obtain ⟨I1, a1, a2, a3⟩ := c_advRaw (X := X) (J := J) (e := 0) (k := 3) hX e0 e1 e4 (by decide) e6 (Nat.zero_le _)
  rw [a1, gb2_some]
  have f1 : frB b I0 I1 := frB_K a2
  have hD : cDr I1 b Bk0 := by
    have g : ∀ k, I1 b k = I0 b k := fun k => a2.1 b k (by omega)
    refine ⟨⟨(g 0).trans b0, (g 1).trans b1, fun r hr => absurd hr (Nat.not_lt_zero r), fun s hs => absurd hs (Nat.not_lt_zero s), fun w hw => ?_⟩, Bk0_D, (g 2).trans b2⟩
    have hw' : kn 0 0 w := hw
    unfold kn at hw'; omega
  obtain ⟨I2, c1, c2, c3, c4⟩ := c_readL (X := X) (J := J) (v := (v.1, v.2.1, v.2.2.1, b, 52, v.2.2.2.2.2)) (T := T) (n := n) (b := b) hb rfl 1600 0 20000 I1 Bk0 (pGo T n 0 false) (by decide) (by decide) (cX_B hb hX f1) a3 bInv_0 rfl hD (Or.inl rfl)
  refine ⟨I2, c1, fun r k x y z w => ?_, c3, c4⟩
  rw [c2.1 r k x y z w, f1.1 r k x y z w, out r k x (by omega)]
/-- the class's book call, when the text is in order -/
theorem c_bookT {I : Nat → Nat → Int32} {J : Nat → Nat → Int64} (hb : isBk b) (hv : v.2.1 = b) (hT : cT I T n) (h1 : I 51 1 = iZ (n : Int)) (hok : pOk (pBook T n).2 = true) : ∃ I' J', fX11_book 50 (mkS X I J v) = some (iZ (((pBook T n).1.nR + (pBook T n).1.nS : Nat) : Int), mkS X I' J' (b, v.1, b, b, 52, 0)) ∧ (∀ r k, (r ≠ 51 ∨ k ≠ 1) → (r < 53 ∨ 60 < r) → ¬ (119 ≤ r ∧ r ≤ 143) → r ≠ 188 → ¬ (b ≤ r ∧ r ≤ b + 34) → I' r k = I r k) ∧ (∀ a, (a < 66 ∨ 76 < a) → J' a = J a) ∧ I' 51 1 = 0 ∧ I' 53 0 = 0 ∧ I' 53 1 = -1 ∧ I' 143 5 = 0 ∧ I' 188 8 = 0 ∧ I' 188 7 = 0 ∧ cBk I' b (pBook T n).1 ∧ cLg I' J' (pBook T n).1 (fun _ _ => false) (fun _ _ => false) ∧ BkOK (pBook T n).1 ∧ I' 143 4 = I 143 4 := by
  have hb0 := bk_r hb
  have ok := pBook_OK hT.1 hok
  obtain ⟨I1, a1, a2, a3, a4⟩ := c_read (X := X) (v := v) (J := J) hb hT h1
  obtain ⟨hB, -, -⟩ := a4 hok
  obtain ⟨B, hBe⟩ : ∃ B, (pBook T n).1 = B := ⟨_, rfl⟩
  rw [hBe] at hB ok ⊢
  have q0 : I1 53 0 = 0 ∧ I1 53 1 = -1 := by
    cases z : (pBook T n).2 with
    | error e => rw [z] at hok; cases hok
    | ok s => rw [z] at a3; exact ⟨a3.1, a3.2.2.2.2.2⟩
  unfold fX11_book
  simp only [bO, o50R, o53, hv, a1, gb2_some, o51]
  rw [gup_r (by decide), q0.1, if_pos rfl]
  simp only [bO, o50R, pR508, pR507]
  have hB1 : cBk (gup I1 51 1 0) b B := cBk_fr hB ok.1 (fun r k x y => gup_r (by omega))
  obtain ⟨I2, J2, d1, d2, d3, d4⟩ := c_open (X := X) (v := (b, v.1, v.2.2.1, b, 52, v.2.2.2.2.2)) (J := J) hb ok hB1
  simp only [o60]
  have d1' : fX5_open 60 v.2.1 (mkS X (gup I1 51 1 0) J (v.2.1, v.1, v.2.2.1, b, 52, v.2.2.2.2.2)) = some ((), mkS X I2 J2 (b, v.1, b, b, 52, v.2.2.2.2.2)) := by rw [hv]; exact d1
  unfold fX4_clear fX9_clear
  simp only [hv] at d1'
  simp only [d1', gb2_some, bO, o50R, o143, o188, pR1886, bk_i hb]
  obtain ⟨I3, hI3⟩ : ∃ I3, I3 = gup (gup (gup I2 143 5 0) 188 8 0) 188 7 0 := ⟨_, rfl⟩
  rw [← hI3]
  have g : ∀ r k, r ≠ 143 → r ≠ 188 → I3 r k = I2 r k := fun r k x y => by rw [hI3, gup_r y, gup_r y, gup_r x]
  have hB2 : cBk I2 b B := cBk_fr hB1 ok.1 (fun r k x y => d2 r k (by omega) (by omega) (by omega) (Or.inl (by omega)) (by omega))
  have hB3 : cBk I3 b B := cBk_fr hB2 ok.1 (fun r k x y => g r k (by omega) (by omega))
  refine ⟨I3, J2, ?_, fun r k w1 w2 w3 w4 w5 => ?_, d3, ?_, ?_, ?_, ?_, ?_, ?_, hB3, cLg_fr d4 ok.1 ok.2.1 (g 60 7 (by decide) (by decide)) (fun r k x y => g r k (by omega) (by omega)) (fun _ _ _ => rfl), ok, ?_⟩
  · rw [hB3.1, hB3.2.1, iZ_add]
    congr 3
  · rw [g r k (by omega) w4, d2 r k (by omega) (by omega) (by omega) (Or.inl (by omega)) (by omega)]
    rw [← a2 r k (by omega) (by omega) (by omega) w5]
    by_cases z : r = 51
    · exact gup_k (by omega)
    · exact gup_r z
  · rw [g 51 1 (by decide) (by decide), d2 51 1 (by decide) (by decide) (by decide) (Or.inl (by decide)) (by decide), gup_s]
  · rw [g 53 0 (by decide) (by decide), d2 53 0 (by decide) (by decide) (by decide) (Or.inl (by decide)) (by decide), gup_r (by decide)]
    exact q0.1
  · rw [g 53 1 (by decide) (by decide), d2 53 1 (by decide) (by decide) (by decide) (Or.inl (by decide)) (by decide), gup_r (by decide)]
    exact q0.2
  · rw [hI3, gup_r (by decide), gup_r (by decide), gup_s]
  · rw [hI3, gup_k (by decide), gup_s]
  · rw [hI3, gup_s]
  · rw [hI3, gup_r (by decide), gup_r (by decide), gup_k (by decide), d2 143 4 (by decide) (by decide) (by decide) (Or.inl (by decide)) (by decide), gup_r (by decide), a2 143 4 (by decide) (by decide) (by decide) (by omega)]
/-- the class's book call, when the text has a fault -/
theorem c_bookF {I : Nat → Nat → Int32} {J : Nat → Nat → Int64} {e : Nat × Nat} (hb : isBk b) (hv : v.2.1 = b) (hT : cT I T n) (h1 : I 51 1 = iZ (n : Int)) (he : (pBook T n).2 = .error e) : ∃ I', fX11_book 50 (mkS X I J v) = some (-1, mkS X (gup I' 196 1 (I' 196 1 + 1)) J (v.1, b, v.2.2.1, b, 52, v.2.2.2.2.2)) ∧ (∀ r k, (r ≠ 51 ∨ k ≠ 1) → (r < 53 ∨ 56 < r) → ¬ (b ≤ r ∧ r ≤ b + 34) → I' r k = I r k) ∧ I' 51 1 = 0 ∧ I' 53 0 = iZ (e.1 : Int) ∧ I' 53 1 = iZ (e.2 : Int) := by
  have hb0 := bk_r hb
  obtain ⟨I1, a1, a2, a3, a4⟩ := c_read (X := X) (v := v) (J := J) hb hT h1
  rw [he] at a3
  obtain ⟨q1, q2, q3, q4, q5⟩ := a3
  unfold fX11_book
  simp only [bO, o50R, o53, hv, a1, gb2_some, o51]
  rw [gup_r (by decide), q1, if_neg (by rw [cL_eq (by omega) (by omega) (by decide)]; omega)]
  simp only [o50]
  have := c_refuse (X := X) (I := gup I1 51 1 0) (J := J) (v := (v.1, b, v.2.2.1, b, 52, v.2.2.2.2.2)) (n := 1) (by decide)
  rw [show (1 : Int32) = iZ ((1 : Nat) : Int) from rfl]
  rw [this, gb2_some]
  refine ⟨gup I1 51 1 0, rfl, fun r k x y z => ?_, gup_s, by rw [gup_r (by decide)]; exact q1, by rw [gup_r (by decide)]; exact q4⟩
  rw [← a2 r k (by omega) (by omega) (by omega) z]
  by_cases c : r = 51
  · exact gup_k (by omega)
  · exact gup_r c
end gCc
