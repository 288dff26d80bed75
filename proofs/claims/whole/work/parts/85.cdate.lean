/-! DATES of the reader -/
def pD1 (T : Nat → Nat) (n : Nat) (r : PS) : PS := pNum T n 2000 2039 r
def pD2 (T : Nat → Nat) (n : Nat) (r : PS) : PS := pPass T n (pSign T n 45 (pD1 T n r)) (pD1 T n r)
def pD3 (T : Nat → Nat) (n : Nat) (r : PS) : PS := pNum T n 1 12 (pD2 T n r)
def pD4 (T : Nat → Nat) (n : Nat) (r : PS) : PS := pPass T n (pSign T n 45 (pD3 T n r)) (pD3 T n r)
def pDate (T : Nat → Nat) (n : Nat) (r : PS) : PS := pNum T n 1 (cLm (pNumV T n r - 2000) (pNumV T n (pD2 T n r))) (pD4 T n r)
def pDateV (T : Nat → Nat) (n : Nat) (r : PS) : Nat := cF (pNumV T n r - 2000) + cA (pNumV T n r - 2000) (pNumV T n (pD2 T n r)) + pNumV T n (pD4 T n r) - 1
theorem cLn_cLm : ∀ y, y < 40 → ∀ m, m < 13 → 1 ≤ m → cLn y m = cLm y m := by decide +kernel
theorem cLm_r (y m : Nat) : 28 ≤ cLm y m ∧ cLm y m ≤ 31 := by
  unfold cLm
  repeat' split
  all_goals omega
theorem pAdv_ok {T : Nat → Nat} {n : Nat} {r : PS} : pOk (pAdv T n r) = pOk r := by cases r <;> rfl
theorem pNum_ok {T : Nat → Nat} {n lo hi : Nat} {r : PS} (h : pOk (pNum T n lo hi r) = true) : pOk r = true ∧ lo ≤ pNumV T n r ∧ pNumV T n r ≤ hi ∧ pNum T n lo hi r = pAdv T n r := by
  cases r with
  | error e => cases h
  | ok s =>
    unfold pNum at h ⊢
    unfold pNumV
    dsimp only at h ⊢
    by_cases c : tkK T n s.1 s.2 = 2
    · rw [if_pos c] at h ⊢
      by_cases c4 : 4 < tkE T n s.1 - s.1
      · rw [if_pos c4] at h; cases h
      · rw [if_neg c4] at h ⊢
        by_cases d : dv T s.1 (tkE T n s.1 - s.1) < lo ∨ hi < dv T s.1 (tkE T n s.1 - s.1)
        · rw [if_pos d] at h; cases h
        · rw [if_neg d]
          exact ⟨rfl, by omega, by omega, rfl⟩
    · rw [if_neg c] at h; cases h
theorem pPass_ok {T : Nat → Nat} {n : Nat} {b : Bool} {r : PS} (h : pOk (pPass T n b r) = true) : b = true ∧ pOk r = true := by
  unfold pPass at h
  cases b with
  | false =>
    rw [if_neg (by decide)] at h
    cases r <;> cases h
  | true =>
    rw [if_pos rfl, pAdv_ok] at h
    exact ⟨rfl, h⟩
theorem pNum_er {T : Nat → Nat} {n lo hi : Nat} {r : PS} (h : pOk r = false) : pNum T n lo hi r = r := by
  cases r with
  | error e => rfl
  | ok s => cases h
section gDt
variable {X : Nat × (Nat → Int32)} {J : Nat → Nat → Int64} {v : Vt} {T : Nat → Nat} {n : Nat} {I : Nat → Nat → Int32}
theorem pDate_in {r : PS} (h : pOk (pD4 T n r) = true) : pOk r = true ∧ 2000 ≤ pNumV T n r ∧ pNumV T n r ≤ 2039 ∧ 1 ≤ pNumV T n (pD2 T n r) ∧ pNumV T n (pD2 T n r) ≤ 12 ∧ pOk (pD1 T n r) = true ∧ pOk (pD3 T n r) = true := by
  obtain ⟨-, h3⟩ := pPass_ok h
  obtain ⟨h2, a, b, -⟩ := pNum_ok h3
  obtain ⟨-, h1⟩ := pPass_ok h2
  obtain ⟨h0, c, d, -⟩ := pNum_ok h1
  exact ⟨h0, c, d, a, b, h1, h3⟩
theorem pDate_r {r : PS} (h : pOk (pDate T n r) = true) : pDateV T n r < 14610 := by
  obtain ⟨h4, a, b, -⟩ := pNum_ok h
  obtain ⟨h0, c1, c2, c3, c4, -, -⟩ := pDate_in h4
  unfold pDateV
  exact (cBack_all (y := pNumV T n r - 2000) (m := pNumV T n (pD2 T n r)) (d := pNumV T n (pD4 T n r)) (by omega) c3 c4 a (by rw [cLn_cLm _ (by omega) _ (by omega) c3]; exact b) (by have := cLm_r (pNumV T n r - 2000) (pNumV T n (pD2 T n r)); omega)).1
theorem c_dateText {r : PS} (h : cX I v T n) (hr : cO I T n r) : ∃ I' x, fX6_dateText 53 (mkS X I J v) = some (x, mkS X I' J v) ∧ frK I I' ∧ cO I' T n (pDate T n r) ∧ (pOk (pDate T n r) = true → x = iZ (pDateV T n r : Nat)) ∧ (pOk (pDate T n r) = false → x = 0) := by
  obtain ⟨I1, x1, a1, a2, a3, a4⟩ := c_number (X := X) (J := J) (lo := 2000) (hi := 2039) (by decide) (by decide) h hr
  have h1 := cX_K h a2
  obtain ⟨I2, b1, b2, b3⟩ := c_pass (X := X) (J := J) (b := pSign T n 45 (pD1 T n r)) h1 a3
  have h2 := cX_K h1 b2
  obtain ⟨I3, x3, c1, c2, c3, c4⟩ := c_number (X := X) (J := J) (lo := 1) (hi := 12) (by decide) (by decide) h2 b3
  have h3 := cX_K h2 c2
  obtain ⟨I4, d1, d2, d3⟩ := c_pass (X := X) (J := J) (b := pSign T n 45 (pD3 T n r)) h3 c3
  have h4 := cX_K h3 d2
  unfold fX6_dateText
  simp only [bO, o53]
  rw [show (2000 : Int32) = iZ ((2000 : Nat) : Int) from rfl, show (2039 : Int32) = iZ ((2039 : Nat) : Int) from rfl, a1]
  simp only [bO, o53]
  rw [show (45 : Int32) = iZ ((45 : Nat) : Int) from rfl, c_isSign (by decide) rfl rfl h1 a3]
  simp only [bO, o53]
  rw [show tf (pSign T n 45 (pNum T n 2000 2039 r)) = tf (pSign T n 45 (pD1 T n r)) from rfl, b1]
  simp only [bO, o53]
  rw [show (1 : Int32) = iZ ((1 : Nat) : Int) from rfl, show (12 : Int32) = iZ ((12 : Nat) : Int) from rfl, c1]
  simp only [bO, o53]
  rw [c_isSign (by decide) rfl rfl h3 c3]
  simp only [bO, o53]
  rw [show tf (pSign T n 45 (pNum T n 1 12 (pPass T n (pSign T n 45 (pD1 T n r)) (pNum T n 2000 2039 r)))) = tf (pSign T n 45 (pD3 T n r)) from rfl, d1]
  simp only [bO, o53]
  cases hok : pOk (pD4 T n r) with
  | true =>
    obtain ⟨g0, g1, g2, g3, g4, g5, g6⟩ := pDate_in hok
    rw [if_pos (cO_ok d3 hok), a4 g5, c4 g6]
    rw [show iZ (pNumV T n r : Nat) - iZ ((2000 : Nat) : Int) = iZ ((pNumV T n r - 2000 : Nat) : Int) from by rw [iZ_sub]; congr 1; omega]
    rw [show iZ ((pNumV T n (pPass T n (pSign T n 45 (pD1 T n r)) (pNum T n 2000 2039 r)) : Nat) : Int) = iZ (pNumV T n (pD2 T n r) : Nat) from rfl]
    rw [c_monthLengthOf (by omega) g3 g4, gb2_some, cLn_cLm _ (by omega) _ (by omega) g3]
    have hlm := cLm_r (pNumV T n r - 2000) (pNumV T n (pD2 T n r))
    obtain ⟨I5, x5, e1, e2, e3, e4⟩ := c_number (X := X) (J := J) (lo := 1) (hi := cLm (pNumV T n r - 2000) (pNumV T n (pD2 T n r))) (by decide) (by omega) h4 d3
    rw [e1]
    simp only [bO, o53]
    have fr5 := frK_t a2 (frK_t b2 (frK_t c2 (frK_t d2 e2)))
    have e3' : cO I5 T n (pDate T n r) := e3
    cases hok2 : pOk (pDate T n r) with
    | true =>
      rw [if_pos (cO_ok e3' hok2), c_firstOfMonth (by omega) g3 (by omega), gb2_some, e4 hok2]
      obtain ⟨-, z1, z2, -⟩ := pNum_ok (show pOk (pNum T n 1 (cLm (pNumV T n r - 2000) (pNumV T n (pD2 T n r))) (pD4 T n r)) = true from hok2)
      refine ⟨I5, _, rfl, fr5, e3', fun _ => ?_, fun q => by cases q⟩
      rw [iZ_add]
      show iZ _ - iZ ((1 : Nat) : Int) = _
      rw [iZ_sub]
      congr 1
      have z1' : 1 ≤ pNumV T n (pPass T n (pSign T n 45 (pD3 T n r)) (pNum T n 1 12 (pPass T n (pSign T n 45 (pD1 T n r)) (pNum T n 2000 2039 r)))) := z1
      show _ = ((cF (pNumV T n r - 2000) + cA (pNumV T n r - 2000) (pNumV T n (pD2 T n r)) + pNumV T n (pPass T n (pSign T n 45 (pD3 T n r)) (pNum T n 1 12 (pPass T n (pSign T n 45 (pD1 T n r)) (pNum T n 2000 2039 r)))) - 1 : Nat) : Int)
      omega
    | false =>
      rw [if_neg (cO_err e3' hok2)]
      exact ⟨I5, _, rfl, fr5, e3', (fun q => by cases q), fun _ => rfl⟩
  | false =>
    rw [if_neg (cO_err d3 hok)]
    have ep : pDate T n r = pD4 T n r := pNum_er hok
    rw [ep, hok]
    exact ⟨I4, _, rfl, frK_t a2 (frK_t b2 (frK_t c2 d2)), d3, (fun q => by cases q), fun _ => rfl⟩
end gDt
