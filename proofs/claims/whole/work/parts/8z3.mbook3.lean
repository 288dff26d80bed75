/-! THE REFERENCE TAKES A BOOK: in order or not -/
section gMd
variable {X : Nat × (Nat → Int32)} {J : Nat → Nat → Int64} {v : Vt} {T : Nat → Nat} {n : Nat}
theorem m_bookF {I : Nat → Nat → Int32} {e : Nat × Nat} (hT : mT I T n) (h1 : I 267 1 = iZ (n : Int)) (hO : mOwn I) (hC : calInv I) (he : (pBook T n).2 = .error e) : ∃ I', fX12_book 267 (mkS X I J v) = some (-1, mkS X (gup I' 269 1 (I' 269 1 + 1)) J v) ∧ (∀ r k, r ≠ 267 → ¬ (271 ≤ r ∧ r ≤ 275) → r ≠ 277 → r ≠ 279 → r ≠ 280 → I' r k = I r k) ∧ (∀ k, 28 ≤ k → I' 267 k = I 267 k) ∧ I' 267 23 = I 267 23 ∧ I' 267 1 = 0 ∧ mCal I' ∧ I' 267 7 = iZ (e.1 : Int) ∧ I' 267 8 = iZ (e.2 : Int) := by
  obtain ⟨I1, a1, a2, a3, a4, a5, a6⟩ := m_bookR (X := X) (J := J) (v := v) hT h1 hO hC
  rw [he] at a5
  obtain ⟨q1, q2, q3, q4⟩ := a5
  rw [a1]
  unfold mBkK
  simp only [bO, o267]
  rw [gup_k (show (6 : Nat) ≠ 7 by decide), gup_k (show (5 : Nat) ≠ 8 by decide), gup_k (show (5 : Nat) ≠ 7 by decide), q1, q4, if_neg (by rw [cL_eq (by omega) (by omega) (by decide)]; omega)]
  have := m_refuses (X := X) (J := J) (v := v) (I := gup (gup I1 267 7 (iZ (e.1 : Int))) 267 8 (iZ (e.2 : Int))) (n := 1) (by decide)
  rw [show (1 : Int32) = iZ ((1 : Nat) : Int) from rfl, this, gb2_some]
  refine ⟨gup (gup I1 267 7 (iZ (e.1 : Int))) 267 8 (iZ (e.2 : Int)), rfl, fun r k x y z w u => ?_, fun k hk => ?_, ?_, ?_, ⟨?_, calOK_Y a4.2 (fun r k x y => ?_)⟩, ?_, gup_s⟩
  · rw [gup_r x, gup_r x, a2.1 r k x y z w u]
  · rw [gup_k (by omega), gup_k (by omega), a2.2 k (by omega) (by omega) (by omega) (by omega) (by omega) (by omega) (by omega) (by omega) (by omega) (by omega) (by omega) (by omega) (by omega)]
  · rw [gup_k (by omega), gup_k (by omega), a2.2 23 (by omega) (by omega) (by omega) (by omega) (by omega) (by omega) (by omega) (by omega) (by omega) (by omega) (by omega) (by omega) (by omega)]
  · rw [gup_k (by omega), gup_k (by omega), a3]
  · rw [gup_k (by omega), gup_k (by omega), a4.1]
  · rw [gup_r (by omega), gup_r (by omega)]
  · rw [gup_k (by decide), gup_s]
theorem m_bookT {I : Nat → Nat → Int32} (hT : mT I T n) (h1 : I 267 1 = iZ (n : Int)) (hO : mOwn I) (hC : calInv I) (hok : pOk (pBook T n).2 = true) : ∃ I', fX12_book 267 (mkS X I J v) = some (iZ (((pBook T n).1.nR + (pBook T n).1.nS : Nat) : Int), mkS X I' J v) ∧ (∀ r k, r ≠ 267 → ¬ (271 ≤ r ∧ r ≤ 281) → r ≠ 283 → I' r k = I r k) ∧ (∀ k, 28 ≤ k → k ≠ 36 → k ≠ 44 → I' 267 k = I 267 k) ∧ I' 267 1 = 0 ∧ mCal I' ∧ I' 267 7 = 0 ∧ I' 267 8 = -1 ∧ I' 267 36 = 0 ∧ I' 267 44 = 0 ∧ mBk I' (pBook T n).1 ∧ mLg I' (pBook T n).1 (fun _ _ => false) (fun _ _ => false) := by
  obtain ⟨I1, a1, a2, a3, a4, a5, a6⟩ := m_bookR (X := X) (J := J) (v := v) hT h1 hO hC
  obtain ⟨df, h24⟩ := a6 hok
  have ok := pBook_OK hT.1 hok
  obtain ⟨B, hB⟩ : ∃ B, (pBook T n).1 = B := ⟨_, rfl⟩
  rw [hB] at df h24 ok ⊢
  have q0 : I1 267 5 = 0 ∧ I1 267 6 = -1 := by
    cases z : (pBook T n).2 with
    | error e => rw [z] at hok; cases hok
    | ok s =>
      rw [z] at a5
      obtain ⟨x1, x2, p, q, x3, x4, x5, x6, x7, x8, x9, x10⟩ := a5
      exact ⟨x1, x10⟩
  rw [a1]
  unfold mBkK
  simp only [bO, o267]
  rw [gup_k (show (6 : Nat) ≠ 7 by decide), gup_k (show (5 : Nat) ≠ 8 by decide), gup_k (show (5 : Nat) ≠ 7 by decide), q0.1, q0.2, if_pos rfl]
  obtain ⟨I2, hI2⟩ : ∃ I2, I2 = gup (gup I1 267 7 0) 267 8 (-1) := ⟨_, rfl⟩
  rw [← hI2]
  have g2 : ∀ r k, (r ≠ 267 ∨ (k ≠ 7 ∧ k ≠ 8)) → I2 r k = I1 r k := fun r k x => by
    rw [hI2]
    rcases x with x | x
    · rw [gup_r x, gup_r x]
    · rw [gup_k x.2, gup_k x.1]
  have w7 : I2 267 7 = 0 := by rw [hI2, gup_k (by decide), gup_s]
  have w8 : I2 267 8 = -1 := by rw [hI2, gup_s]
  obtain ⟨I3, b1, b2, -, b4⟩ := m_bk139 (X := X) (J := J) (v := v) (K := fun s42 => gX12_book_L166 (fun s50 => (spI s50 267 12 23 1).bind fun s51 => gb2 (gcv s51 267 12 (fX12_begins 267 s51)) fun r52 s53 => (ggI s53 267 12 24).bind fun v54 => some (v54, s53)) 267 20000 0 s42) 272 0 20000 I2 (by decide) (by decide)
  obtain ⟨I4, c1, c2, -, c4⟩ := m_bk166 (X := X) (J := J) (v := v) (c := mE B.cs B.nS) (K := fun s50 => (spI s50 267 12 23 1).bind fun s51 => gb2 (gcv s51 267 12 (fX12_begins 267 s51)) fun r52 s53 => (ggI s53 267 12 24).bind fun v54 => some (v54, s53)) ok.2.2.2.2.2.1 (2 * mE B.cs B.nS) 0 20000 I3 (by rw [b2 267 22 (by decide), g2 267 22 (by decide)]; exact df.2.2.2.2.1) (by omega) (by have := ok.2.2.2.2.2.1; omega)
  have hI5 : gup I4 267 23 1 276 0 = iZ (B.nR : Int) := by rw [gup_r (by decide), c2 276 0 (by decide), b4 0 (by decide) (by decide), g2 275 0 (by decide)]; exact df.1
  obtain ⟨I6, d1, d2, d3, d4, d5, d6, d7⟩ := m_begins (X := X) (J := J) (v := v) ok.1 hI5
  have k6 : ∀ k, k ≠ 7 → k ≠ 8 → k ≠ 23 → k ≠ 36 → k ≠ 44 → I6 267 k = I1 267 k := fun k x y z w u => by
    rw [d2 267 k (by decide) (by decide) (Or.inr ⟨w, u⟩), gup_k z, c2 267 k (by decide), b2 267 k (by decide), g2 267 k (Or.inr ⟨x, y⟩)]
  have r6 : ∀ r k, r ≠ 267 → r ≠ 276 → r ≠ 278 → r ≠ 281 → r ≠ 283 → I6 r k = I1 r k := fun r k x y z w u => by
    rw [d2 r k w u (Or.inl x), gup_r x, c2 r k z, b2 r k y, g2 r k (Or.inl x)]
  have e276 : ∀ k, k < 272 → I6 276 k = I1 275 k := fun k hk => by
    rw [d2 276 k (by decide) (by decide) (Or.inl (by decide)), gup_r (by decide), c2 276 k (by decide), b4 k (Nat.zero_le _) hk, g2 275 k (Or.inl (by decide))]
  have e278 : ∀ k, k < 2 * mE B.cs B.nS → I6 278 k = I1 277 k := fun k hk => by
    rw [d2 278 k (by decide) (by decide) (Or.inl (by decide)), gup_r (by decide), c4 k (Nat.zero_le _) hk, b2 277 k (by decide), g2 277 k (Or.inl (by decide))]
  have hCal6 : mCal I6 := ⟨(k6 17 (by decide) (by decide) (by decide) (by decide) (by decide)).trans a4.1, calOK_Y a4.2 (fun r k x y => r6 r k (by omega) (by omega) (by omega) (by omega) (by omega))⟩
  have h23 : I6 267 23 = 1 := by rw [d2 267 23 (by decide) (by decide) (Or.inr (by decide)), gup_s]
  refine ⟨I6, ?_, fun r k x y z => ?_, fun k hk w u => ?_, ?_, hCal6, ?_, ?_, d3, d4, mBk_of df ok e276 e278 (fun r hr => ?_) h23 hCal6.1 hCal6.2, fun w hw => ?_, fun s hs => ?_⟩
  · refine b1.trans (c1.trans ?_)
    simp only [bO, o267, d1, gb2_some]
    rw [k6 24 (by decide) (by decide) (by decide) (by decide) (by decide), h24]
  · rw [r6 r k x (by omega) (by omega) (by omega) z, a2.1 r k x (by omega) (by omega) (by omega) (by omega)]
  · rw [k6 k (by omega) (by omega) (by omega) w u, a2.2 k (by omega) (by omega) (by omega) (by omega) (by omega) (by omega) (by omega) (by omega) (by omega) (by omega) (by omega) (by omega) (by omega)]
  · rw [k6 1 (by decide) (by decide) (by decide) (by decide) (by decide), a3]
  · rw [d2 267 7 (by decide) (by decide) (Or.inr (by decide)), gup_k (by decide), c2 267 7 (by decide), b2 267 7 (by decide), w7]
  · rw [d2 267 8 (by decide) (by decide) (Or.inr (by decide)), gup_k (by decide), c2 267 8 (by decide), b2 267 8 (by decide), w8]
  · obtain ⟨x, y⟩ := d7 r hr
    rw [x, y, d2 276 _ (by decide) (by decide) (Or.inl (by decide)), d2 276 _ (by decide) (by decide) (Or.inl (by decide))]
    exact ⟨rfl, rfl⟩
  · exact Or.inl (d5 w (by have := ok.1; have := ok.2.1; unfold kn at hw; omega))
  · exact ⟨mrow_0 (d6 _ (by have := ok.1; omega) (by omega)), mrow_0 (d6 _ (by have := ok.1; omega) (by omega))⟩
end gMd
