/-! THE REFERENCE TAKES A BOOK: the call -/
section gMc
variable {X : Nat × (Nat → Int32)} {J : Nat → Nat → Int64} {v : Vt} {T : Nat → Nat} {n : Nat}
theorem mseg_of {I I' : Nat → Nat → Int32} : ∀ {L : List (Nat × Nat)} {k : Nat}, (∀ j, j < 2 * (k + L.length) → I' 278 j = I 277 j) → mgD I k L → mseg I' k L := by
  intro L
  induction L with
  | nil => intro k _ _; trivial
  | cons o L ih =>
    intro k f h
    have hl : (o :: L).length = L.length + 1 := rfl
    rw [hl] at f
    exact ⟨by rw [f _ (by omega)]; exact h.1, by rw [f _ (by omega)]; exact h.2.1, ih (fun j hj => f j (by omega)) h.2.2⟩
theorem mBk_of {I I' : Nat → Nat → Int32} {B : Bk} (h : mDf I B) (ok : BkOK B) (e1 : ∀ k, k < 272 → I' 276 k = I 275 k) (e2 : ∀ k, k < 2 * mE B.cs B.nS → I' 278 k = I 277 k) (e3 : ∀ r, r < B.nR → I' 281 (2 * r) = I' 276 (2 + 42 * r + 1) ∧ I' 281 (2 * r + 1) = I' 276 (2 + 42 * r + 3)) (e4 : I' 267 23 = 1) (e5 : I' 267 17 = 1) (e6 : calOK I') : mBk I' B := by
  obtain ⟨h1, h2, h3, h4, h5, h6⟩ := h
  have hR := ok.1
  have hS := ok.2.1
  refine ⟨by rw [e1 0 (by decide)]; exact h1, by rw [e1 1 (by decide)]; exact h2, fun r hr => ?_, fun s hs => ?_, Or.inl ⟨e4, e5, e6⟩⟩
  · obtain ⟨q1, q2, q3, q4, q5, q6, q7, q8, q9, q10, q11, q12, q13, q14⟩ := h3 r hr
    obtain ⟨z1, z2⟩ := e3 r hr
    have ru := (ok.2.2.1 r hr).1
    have o1 := ru.2.2.1
    have o2 := ru.2.2.2.2.1
    have o3 := ru.2.2.2.2.2.2.2.1
    refine ⟨⟨by rw [e1 _ (by omega)]; exact q3, by rw [z2, e1 _ (by omega)]; exact q4, by rw [e1 _ (by omega)]; exact q5, by rw [e1 _ (by omega)]; exact q6, fun k hk => by rw [e1 _ (by omega)]; exact q7 k hk, by rw [e1 _ (by omega)]; exact q8, fun k hk => by rw [e1 _ (by omega)]; exact q9 k hk, fun k hk => by rw [e1 _ (by omega)]; exact q10 k hk, by rw [e1 _ (by omega)]; exact q11, fun k hk => by rw [e1 _ (by omega)]; exact q12 k hk, by rw [e1 _ (by omega)]; exact q13, by rw [e1 _ (by omega)]; exact q14⟩, by rw [z1, e1 _ (by omega)]; exact q2, by rw [e1 _ (by omega)]; exact q1⟩
  · obtain ⟨q1, q2, q3, q4⟩ := h4 s hs
    have hm := mE_mono (cs := B.cs) (show s + 1 ≤ B.nS from hs)
    have hm' : mE B.cs (s + 1) = mE B.cs s + (B.cs s).length := rfl
    exact ⟨mseg_of (fun j hj => e2 j (by omega)) q4, by rw [e1 _ (by omega)]; exact q2, by rw [e1 _ (by omega)]; exact q3, by rw [e1 _ (by omega)]; exact q1⟩
theorem mrow_0 {I : Nat → Nat → Int32} {o : Nat} (h : I 281 o = 0) : mrow I o (fun _ => false) := by
  have e : ∀ m a, cnt (fun _ => false) a m = 0 := by
    intro m
    induction m with
    | zero => intro a; rfl
    | succ m ih => intro a; unfold cnt; rw [ih]; rfl
  unfold mrow
  rw [e]
  exact ⟨h, by decide, (e _ _).symm, fun k hk => by omega, fun d _ hd => (by cases hd), fun j k hj => by omega⟩
def mBkK (s29 : gH) : Option (Int32 × gH) :=
  (ggI s29 267 12 5).bind fun v30 =>
  (spI s29 267 12 7 v30).bind fun s31 =>
  (ggI s31 267 12 6).bind fun v32 =>
  (spI s31 267 12 8 v32).bind fun s33 =>
  (ggI s33 267 12 5).bind fun v34 =>
  if v34 = 0 then
    gX12_book_L139
      (fun s42 =>
        gX12_book_L166
          (fun s50 =>
            (spI s50 267 12 23 1).bind fun s51 =>
            gb2 (gcv s51 267 12 (fX12_begins 267 s51)) fun r52 s53 =>
            (ggI s53 267 12 24).bind fun v54 =>
            some (v54, s53))
          267 20000 0 s42)
      267 20000 0 s33
  else
    gb2 (gcv s33 267 12 (fX12_refuses 267 1 s33)) fun r55 s56 =>
    some (r55, s56)
def mBkG (s16 : gH) : Option (Int32 × gH) :=
  gb2 (gcv s16 267 12 (fX12_look 267 s16)) fun r17 s18 =>
  gjn (fun (s20 : gH) => gX12_book_L86 mBkK 267 20000 s20) fun j19 =>
  if r17 = -1 then
    (ggI s18 267 12 3).bind fun v58 =>
    gb2 (gcv s18 267 12 (fX12_fail 267 1 v58 s18)) fun r59 s60 =>
    j19 s60
  else
    j19 s18
theorem mBk_eq (s0 : gH) : fX12_book 267 s0 = (ggI s0 267 12 1).bind fun v1 =>
  (spI s0 267 12 3 v1).bind fun s2 =>
  (spI s2 267 12 1 0).bind fun s3 =>
  (spI s3 267 12 2 0).bind fun s4 =>
  (spI s4 267 12 4 (-1)).bind fun s5 =>
  (spI s5 267 12 5 0).bind fun s6 =>
  (spI s6 267 12 6 (-1)).bind fun s7 =>
  (spI s7 267 12 24 0).bind fun s8 =>
  (spI s8 267 12 22 0).bind fun s9 =>
  gb2 (gcv s9 267 12 (fX12_laysDays 267 s9)) fun r10 s11 =>
  gX12_book_L49 mBkG 267 20000 0 s11 := rfl
/-- what the reading of a book writes -/
def frY2 (I I' : Nat → Nat → Int32) : Prop := (∀ r k, r ≠ 267 → ¬ (271 ≤ r ∧ r ≤ 275) → r ≠ 277 → r ≠ 279 → r ≠ 280 → I' r k = I r k) ∧ ∀ k, k ≠ 1 → k ≠ 2 → k ≠ 3 → k ≠ 4 → k ≠ 5 → k ≠ 6 → k ≠ 10 → k ≠ 12 → k ≠ 17 → k ≠ 22 → k ≠ 24 → k ≠ 26 → k ≠ 27 → I' 267 k = I 267 k
/-- the text is read -/
theorem m_bookR {I : Nat → Nat → Int32} (hT : mT I T n) (h1 : I 267 1 = iZ (n : Int)) (hO : mOwn I) (hC : calInv I) : ∃ I', fX12_book 267 (mkS X I J v) = mBkK (mkS X I' J v) ∧ frY2 I I' ∧ I' 267 1 = 0 ∧ mCal I' ∧ mO I' T n (pBook T n).2 ∧ (pOk (pBook T n).2 = true → mDf I' (pBook T n).1 ∧ I' 267 24 = iZ (((pBook T n).1.nR + (pBook T n).1.nS : Nat) : Int)) := by
  have hn := hT.1
  rw [mBk_eq]
  simp only [bO, o267, h1]
  obtain ⟨I0, hI0⟩ : ∃ I0, I0 = gup (gup (gup (gup (gup (gup (gup (gup I 267 3 (iZ (n : Int))) 267 1 0) 267 2 0) 267 4 (-1)) 267 5 0) 267 6 (-1)) 267 24 0) 267 22 0 := ⟨_, rfl⟩
  rw [← hI0]
  have outr : ∀ r k, r ≠ 267 → I0 r k = I r k := fun r k x => by rw [hI0, gup_r x, gup_r x, gup_r x, gup_r x, gup_r x, gup_r x, gup_r x, gup_r x]
  have outk : ∀ k, k ≠ 1 → k ≠ 2 → k ≠ 3 → k ≠ 4 → k ≠ 5 → k ≠ 6 → k ≠ 22 → k ≠ 24 → I0 267 k = I 267 k := fun k a b c d e f g h => by rw [hI0, gup_k g, gup_k h, gup_k f, gup_k e, gup_k d, gup_k b, gup_k a, gup_k c]
  have v3 : I0 267 3 = iZ (n : Int) := by rw [hI0, gup_k (by decide), gup_k (by decide), gup_k (by decide), gup_k (by decide), gup_k (by decide), gup_k (by decide), gup_k (by decide), gup_s]
  have v1 : I0 267 1 = 0 := by rw [hI0, gup_k (by decide), gup_k (by decide), gup_k (by decide), gup_k (by decide), gup_k (by decide), gup_k (by decide), gup_s]
  have v2 : I0 267 2 = 0 := by rw [hI0, gup_k (by decide), gup_k (by decide), gup_k (by decide), gup_k (by decide), gup_k (by decide), gup_s]
  have v4 : I0 267 4 = -1 := by rw [hI0, gup_k (by decide), gup_k (by decide), gup_k (by decide), gup_k (by decide), gup_s]
  have v5 : I0 267 5 = 0 := by rw [hI0, gup_k (by decide), gup_k (by decide), gup_k (by decide), gup_s]
  have v6 : I0 267 6 = -1 := by rw [hI0, gup_k (by decide), gup_k (by decide), gup_s]
  have v24 : I0 267 24 = 0 := by rw [hI0, gup_k (by decide), gup_s]
  have v22 : I0 267 22 = 0 := by rw [hI0, gup_s]
  have hC0 : calInv I0 := by
    unfold calInv
    rw [outk 17 (by decide) (by decide) (by decide) (by decide) (by decide) (by decide) (by decide) (by decide)]
    rcases hC with q | q
    · exact Or.inl q
    · exact Or.inr ⟨q.1, calOK_Y q.2 (fun r k x y => outr r k (by omega))⟩
  rw [m_laysDays hC0, gb2_some]
  obtain ⟨cal1, c17⟩ := laid_ok hC0
  have lr : ∀ r k, (r < 271 ∨ 274 < r) → (r ≠ 267 ∨ k ≠ 17) → laid I0 r k = I0 r k := fun r k => laid_out
  obtain ⟨I1, a1, a2, -, a4⟩ := m_bk49 (X := X) (J := J) (v := v) (K := mBkG) 272 0 20000 (laid I0) (by decide) (by decide)
  have a1' : gX12_book_L49 mBkG 267 20000 0 (mkS X (laid I0) J v) = mBkG (mkS X I1 J v) := a1
  rw [a1']
  have k1 : ∀ k, k ≠ 17 → I1 267 k = I0 267 k := fun k hk => by rw [a2 267 k (by decide), lr 267 k (by omega) (Or.inr hk)]
  have r1 : ∀ r k, r ≠ 267 → ¬ (271 ≤ r ∧ r ≤ 275) → I1 r k = I r k := fun r k x y => by rw [a2 r k (by omega), lr r k (by omega) (Or.inl x), outr r k x]
  have hX1 : mX I1 T n := ⟨⟨hn, fun k hk => by rw [r1 268 k (by decide) (by omega)]; exact hT.2 k hk⟩, (k1 3 (by decide)).trans v3, fun k hk => by rw [r1 270 k (by decide) (by omega)]; exact hO k hk⟩
  have hCal1 : mCal I1 := ⟨(a2 267 17 (by decide)).trans c17, calOK_Y cal1 (fun r k x y => a2 r k (by omega))⟩
  have hO1 : mO I1 T n (pGo T n 0 false) := ⟨(k1 5 (by decide)).trans v5, rn_le (Nat.zero_le n), 0, -1, (k1 2 (by decide)).trans v2, (k1 4 (by decide)).trans (v4.trans (show (-1 : Int32) = iZ (-1) from rfl)), by omega, by omega, Nat.zero_le _, rfl, ⟨fun q => by
      have q' : (-1 : Int) = (rn T n isBb 0 : Nat) := q
      omega, fun q => by cases q⟩, (k1 6 (by decide)).trans v6⟩
  have hdf1 : mDf I1 Bk0 := ⟨a4 0 (by decide) (by decide), a4 1 (by decide) (by decide), fun r hr => absurd hr (Nat.not_lt_zero r), fun s hs => absurd hs (Nat.not_lt_zero s), (k1 22 (by decide)).trans v22, fun k x y => a4 k (by omega) (by omega)⟩
  obtain ⟨b1, b2, b3⟩ := m_look (X := X) (J := J) (v := v) hX1 hO1
  obtain ⟨s, hs⟩ : ∃ s, s = (rn T n isBb 0, false && rn T n isBb 0 == 0) := ⟨_, rfl⟩
  have hgo : pGo T n 0 false = .ok s := by rw [hs]; rfl
  rw [← hs] at b1 b2 b3
  have hX2 := mX_M hX1 b3
  have fY : ∀ I', frZ (gup I1 267 24 0) (gup I' 267 24 0) → frY2 I I' := fun I' f => ⟨fun r k x y z w u => by
      have := f.1 r k x (by omega) z w u
      rw [gup_r x, gup_r x] at this
      rw [this, r1 r k x y], fun k x1 x2 x3 x4 x5 x6 x7 x8 x9 x10 x11 x12 x13 => by
      have := f.2 k x2 x4 x5 x6 x7 x8 x10 x12 x13
      rw [gup_k x11, gup_k x11] at this
      rw [this, k1 k x9, outk k x1 x2 x3 x4 x5 x6 x10 x11]⟩
  have fV : ∀ I', frZ (gup I1 267 24 0) (gup I' 267 24 0) → I' 267 1 = 0 ∧ mCal I' := fun I' f => ⟨by
      have := f.2 1 (by decide) (by decide) (by decide) (by decide) (by decide) (by decide) (by decide) (by decide) (by decide)
      rw [gup_k (by decide), gup_k (by decide)] at this
      rw [this, k1 1 (by decide), v1], by
      have := f.2 17 (by decide) (by decide) (by decide) (by decide) (by decide) (by decide) (by decide) (by decide) (by decide)
      rw [gup_k (by decide), gup_k (by decide)] at this
      exact this.trans hCal1.1, calOK_Y hCal1.2 (fun r k x y => by
      have := f.1 r k (by omega) (by omega) (by omega) (by omega) (by omega)
      rw [gup_r (by omega), gup_r (by omega)] at this
      exact this)⟩
  unfold mBkG
  simp only [o267, b1, gb2_some, gjn_eq]
  by_cases c : s.1 < n
  · have hc : pCh T n s = (T s.1 : Int) := by unfold pCh; rw [if_pos c]
    have hTs := (hT.2 s.1 c).1
    rw [hc, if_neg (by rw [cM_eq (by omega) (by omega)]; omega)]
    have hk : pKd T n (.ok s) ≠ 0 := by
      show tkK T n s.1 s.2 ≠ 0
      unfold tkK
      rw [if_pos c]
      split
      · split <;> decide
      · split
        · split <;> decide
        · decide
    have df2 : mDf (gup I1 267 2 (iZ (s.1 : Int))) Bk0 := mDf_M hdf1 Bk0_D (fun k => gup_r (by decide)) (fun k => gup_r (by decide)) (gup_k (by decide))
    have inv0 := bInv_0 (T := T) (n := n)
    rw [hgo] at inv0
    obtain ⟨I2, c1, c2, c3, c4⟩ := m_bookL (X := X) (J := J) (v := v) (T := T) (n := n) (K := mBkK) 1600 0 20000 (gup I1 267 2 (iZ (s.1 : Int))) Bk0 (.ok s) (by decide) (by decide) hX2 b2 inv0 rfl (Nat.zero_le _) (mCal_Z hCal1 (frZ_M b3)) df2 hk (by rw [gup_k (by decide), k1 24 (by decide), v24]; rfl)
    have f0 : frZ (gup I1 267 24 0) (gup I2 267 24 0) := by
      refine frZ_t ⟨fun r k x1 x2 x3 x4 x5 => ?_, fun k x1 x2 x3 x4 x5 x6 x7 x8 x9 => ?_⟩ c2
      · rw [gup_r x1, gup_r x1, gup_r x1]
      · by_cases z : k = 24
        · rw [z, gup_s, gup_s]
        · rw [gup_k z, gup_k z, gup_k x1]
    have eB : pBook T n = pBkL T n 1600 Bk0 (.ok s) := by unfold pBook; rw [hgo]
    rw [eB]
    exact ⟨I2, c1, fY I2 f0, (fV I2 f0).1, (fV I2 f0).2, c3, c4⟩
  · have hc : pCh T n s = -1 := by unfold pCh; rw [if_neg c]
    rw [hc, if_pos (show iZ (-1) = -1 from rfl)]
    simp only [bO, o267]
    have e3 : gup I1 267 2 (iZ (s.1 : Int)) 267 3 = iZ (n : Int) := hX2.2.1
    rw [e3]
    obtain ⟨I2, c1, c2, c3, c4⟩ := m_fail (X := X) (J := J) (v := v) (T := T) (n := n) (f := 1) (p := n) (by decide) (by decide) b2
    have c1' : fX12_fail 267 1 (iZ (n : Int)) (mkS X (gup I1 267 2 (iZ (s.1 : Int))) J v) = some ((), mkS X I2 J v) := c1
    rw [c1', gb2_some]
    have hsn : s.1 = n := by
      have : s.1 ≤ n := by rw [hs]; exact rn_le (Nat.zero_le n)
      omega
    have f0 : frZ (gup I1 267 24 0) (gup I2 267 24 0) := by
      have f := frZ_t (frZ_M b3) (frZ_M c2)
      refine ⟨fun r k x1 x2 x3 x4 x5 => ?_, fun k x1 x2 x3 x4 x5 x6 x7 x8 x9 => ?_⟩
      · rw [gup_r x1, gup_r x1]; exact f.1 r k x1 x2 x3 x4 x5
      · by_cases z : k = 24
        · rw [z, gup_s, gup_s]
        · rw [gup_k z, gup_k z]; exact f.2 k x1 x2 x3 x4 x5 x6 x7 x8 x9
    have hk0 : tkK T n s.1 s.2 = 0 := by unfold tkK; rw [if_neg c]
    have ow : pOw T n (.ok s) = -1 := by
      show (if tkK T n s.1 s.2 = 1 then _ else (-1 : Int)) = -1
      rw [hk0]; rfl
    have eS : pSt T n Bk0 (.ok s) = (Bk0, .error (1, n)) := by
      have e0 : pSt0 T n Bk0 (.ok s) = (Bk0, .error (1, n)) := by
        unfold pSt0
        rw [ow, if_neg (by decide), if_neg (by decide)]
        show (Bk0, Except.error (1, s.1)) = _
        rw [hsn]
      unfold pSt
      rw [e0]
      rfl
    have eB : pBook T n = (Bk0, .error (1, n)) := by
      unfold pBook
      rw [hgo]
      show (if _ then _ else _) = _
      rw [eS, if_neg (fun q => by cases q.1)]
    rw [eB]
    refine ⟨I2, ?_, fY I2 f0, (fV I2 f0).1, (fV I2 f0).2, c3, fun q => by cases q⟩
    unfold gX12_book_L86
    simp only [bO, o267]
    rw [if_neg (mO_err c3 rfl)]
end gMc
