/-! PLACES among what a period has -/
def rAt (R : RuL) (n many : Nat) : Bool := R.atN == 0 || exF (fun k => R.atF k == (n : Int) || R.atF k == (n : Int) - many - 1) 0 R.atN
def rBs (R : RuL) (d : Nat) : Bool := R.Of d && rAt R (cnt R.Of (pFst R.u (rPer R.u d)) (d - pFst R.u (rPer R.u d)) + 1) (cnt R.Of (pFst R.u (rPer R.u d)) (pLen R.u (rPer R.u d)))
theorem cnt_sub {P K : Nat → Bool} {a : Nat} (n : Nat) : cnt (fun d => P d && K (cnt P a (d - a))) a n = cnt K 0 (cnt P a n) := by
  induction n with
  | zero => rfl
  | succ n ih =>
    rw [cnt_succ, ih, cnt_succ]
    rw [show a + n - a = n by omega]
    cases h : P (a + n)
    · simp
    · rw [if_pos rfl, cnt_succ, Nat.zero_add]
      simp
theorem gath_congr {I : Nat → Nat → Int32} {P Q : Nat → Bool} {a n : Nat} (h : gath I P a n) (e : ∀ i, i < n → P (a + i) = Q (a + i)) : gath I Q a n := by
  have ec : ∀ i, i ≤ n → cnt P a i = cnt Q a i := fun i hi => cnt_congr (fun j hj => e j (by omega))
  constructor
  · rw [← ec n (Nat.le_refl n)]; exact h.1
  · intro i hi hq
    rw [← ec i (by omega)]
    exact h.2 i hi (by rw [e i hi]; exact hq)
section gKp
variable {X : Nat × (Nat → Int32)} {I : Nat → Nat → Int32} {J : Nat → Nat → Int64} {v : Vt} {q d : Nat} {R : RuL}
theorem row_has {r n : Nat} {x : Int32} (P : Nat → Bool) (hP : ∀ k, k < n → decide (I (r + 1) k = x) = P k) : (nx (fun j => decide (I (r + 1) j = x)) n 0 = -1 ∧ exF P 0 n = false) ∨ (nx (fun j => decide (I (r + 1) j = x)) n 0 ≠ -1 ∧ exF P 0 n = true) := by
  rcases nx_cases (fun j => decide (I (r + 1) j = x)) n 0 with ⟨h1, h2⟩ | ⟨k, h1, h2, h3, h4, h5⟩
  · left
    refine ⟨h1, ?_⟩
    apply Bool.eq_false_iff.mpr
    intro h
    obtain ⟨j, a, b, c⟩ := exF_iff.mp h
    have := h2 j a b
    rw [hP j (by omega), c] at this
    cases this
  · right
    refine ⟨by omega, exF_iff.mpr ⟨k, h2, h3, ?_⟩⟩
    rw [← hP k (by omega)]; exact h4
theorem exF_or {P Q : Nat → Bool} : ∀ {m k : Nat}, exF (fun j => P j || Q j) k m = (exF P k m || exF Q k m) := by
  intro m
  induction m with
  | zero => intro k; rfl
  | succ m ih =>
    intro k
    show ((P k || Q k) || exF (fun j => P j || Q j) (k + 1) m) = ((P k || exF P (k + 1) m) || (Q k || exF Q (k + 1) m))
    rw [ih]
    cases P k <;> cases Q k <;> cases exF P (k + 1) m <;> rfl
theorem c_keepL {N : Nat} {I0 : Nat → Nat → Int32} (hq : isRule q) (ok : RuLok R) (hat : 0 < R.atN) (hN : N ≤ 366) (h0 : cRl I0 q R) : ∀ (m i fuel : Nat) (I : Nat → Nat → Int32), i + m = N → m < fuel → frF I0 I → I 57 2 = iZ (N : Int) → (∀ k, i ≤ k → I 59 k = I0 59 k) → (∀ j, j < i → rAt R (j + 1) N = true → I 59 (cnt (fun j => rAt R (j + 1) N) 0 j) = I0 59 j) → ∃ I', gX3_keepPlaces_L15 57 q fuel (iZ (cnt (fun j => rAt R (j + 1) N) 0 i : Nat)) (iZ (i : Int)) (mkS X I J v) = some ((), mkS X I' J v) ∧ frF I0 I' ∧ I' 57 2 = iZ (cnt (fun j => rAt R (j + 1) N) 0 N : Nat) ∧ (∀ j, j < N → rAt R (j + 1) N = true → I' 59 (cnt (fun j => rAt R (j + 1) N) 0 j) = I0 59 j) := by
  have hcap := (rule_all hq).2.2.1
  have hatN := ok.atN
  intro m
  induction m with
  | zero =>
    intro i fuel I hi hf hfr h57 hA hB
    obtain ⟨n, rfl⟩ : ∃ n, fuel = n + 1 := ⟨fuel - 1, by omega⟩
    have : i = N := by omega
    subst this
    refine ⟨gup I 57 2 (iZ (cnt (fun j => rAt R (j + 1) i) 0 i : Nat)), ?_, ?_, gup_s, ?_⟩
    · unfold gX3_keepPlaces_L15
      simp only [bO, o57, o57R, h57]
      simp (disch := omega) only [iZ_lt]
      rw [if_neg (by omega)]
    · exact fun r k a b c => by rw [gup_r a]; exact hfr r k a b c
    · intro j hj hk
      rw [gup_r (by decide)]
      exact hB j hj hk
  | succ m ih =>
    intro i fuel I hi hf hfr h57 hA hB
    obtain ⟨n, rfl⟩ : ∃ n, fuel = n + 1 := ⟨fuel - 1, by omega⟩
    have hI := cRl_F hq h0 hfr
    have hc := cnt_le (fun j => rAt R (j + 1) N) 0 i
    have eK : rAt R (i + 1) N = (exF (fun k => R.atF k == ((i + 1 : Nat) : Int)) 0 R.atN || exF (fun k => R.atF k == (i : Int) - N) 0 R.atN) := by
      unfold rAt
      rw [exF_or, show (R.atN == 0) = false from by simp; omega, Bool.false_or]
      congr 2
      funext k
      rw [show ((i + 1 : Nat) : Int) - N - 1 = (i : Int) - N by omega]
    have g1 := row_has (I := I) (r := q + 3) (n := R.atN) (x := iZ ((i : Int) + 1)) (fun k => R.atF k == ((i + 1 : Nat) : Int)) (fun k hk => by
      have := ok.atF k hk
      rw [show q + 3 + 1 = q + 4 from rfl, hI.atF k hk]
      simp (disch := omega) only [iZ_eq]
      apply Bool.eq_iff_iff.mpr
      rw [decide_eq_true_eq, beq_iff_eq]; omega)
    have g2 := row_has (I := I) (r := q + 3) (n := R.atN) (x := iZ ((i : Int) - (N : Int))) (fun k => R.atF k == (i : Int) - N) (fun k hk => by
      have := ok.atF k hk
      rw [show q + 3 + 1 = q + 4 from rfl, hI.atF k hk]
      simp (disch := omega) only [iZ_eq]
      apply Bool.eq_iff_iff.mpr
      rw [decide_eq_true_eq, beq_iff_eq])
    have eN : iZ (i : Int) + 1 = iZ ((i + 1 : Nat) : Int) := by rw [aL]; congr 1
    have yes : rAt R (i + 1) N = true → ∃ I', gX3_keepPlaces_L15 57 q n (iZ (cnt (fun j => rAt R (j + 1) N) 0 i : Nat) + 1) (iZ (i : Int) + 1) (mkS X (gup I 59 (cnt (fun j => rAt R (j + 1) N) 0 i) (I 59 i)) J v) = some ((), mkS X I' J v) ∧ frF I0 I' ∧ I' 57 2 = iZ (cnt (fun j => rAt R (j + 1) N) 0 N : Nat) ∧ (∀ j, j < N → rAt R (j + 1) N = true → I' 59 (cnt (fun j => rAt R (j + 1) N) 0 j) = I0 59 j) := by
      intro hk
      have e1 : iZ (cnt (fun j => rAt R (j + 1) N) 0 i : Nat) + 1 = iZ (cnt (fun j => rAt R (j + 1) N) 0 (i + 1) : Nat) := by
        rw [cnt_succ, Nat.zero_add, if_pos hk, aL]; congr 1
      rw [e1, eN]
      apply ih (i + 1) n _ (by omega) (by omega)
      · exact fun r k a b c => by rw [gup_r c]; exact hfr r k a b c
      · rw [gup_r (by decide)]; exact h57
      · intro k hk2
        rw [gup_k (by omega)]
        exact hA k (by omega)
      · intro j hj hkj
        by_cases hji : j = i
        · subst hji
          rw [gup_s, hA j (Nat.le_refl j)]
        · have := cnt_before (P := fun j => rAt R (j + 1) N) (a := 0) (i := j) (j := i) (by omega) (by rw [Nat.zero_add]; exact hkj)
          rw [gup_k (by omega)]
          exact hB j (by omega) hkj
    have no : rAt R (i + 1) N = false → ∃ I', gX3_keepPlaces_L15 57 q n (iZ (cnt (fun j => rAt R (j + 1) N) 0 i : Nat)) (iZ (i : Int) + 1) (mkS X I J v) = some ((), mkS X I' J v) ∧ frF I0 I' ∧ I' 57 2 = iZ (cnt (fun j => rAt R (j + 1) N) 0 N : Nat) ∧ (∀ j, j < N → rAt R (j + 1) N = true → I' 59 (cnt (fun j => rAt R (j + 1) N) 0 j) = I0 59 j) := by
      intro hk
      have e1 : cnt (fun j => rAt R (j + 1) N) 0 (i + 1) = cnt (fun j => rAt R (j + 1) N) 0 i := by
        rw [cnt_succ, Nat.zero_add, if_neg (by rw [hk]; decide)]; rfl
      rw [← e1, eN]
      apply ih (i + 1) n _ (by omega) (by omega) hfr h57
      · intro k hk2
        exact hA k (by omega)
      · intro j hj hkj
        by_cases hji : j = i
        · rw [hji, hk] at hkj; cases hkj
        · exact hB j (by omega) hkj
    unfold gX3_keepPlaces_L15
    simp only [bO, o57, o57R, n59, h57, rl_at hq, row_c (rl_row3 hq)]
    simp (disch := omega) only [iZ_lt]
    rw [if_pos (by omega), if_pos (by omega)]
    rw [show (iZ (i : Int) + 1) = iZ ((i : Int) + 1) from aL _ 1] at yes no ⊢
    rw [row_index (rl_row3 hq) hI.atN (by omega)]
    simp only [bO, o57, o57R, n59, h57, rl_at hq, row_c (rl_row3 hq), iZ_sub]
    rw [row_index (rl_row3 hq) hI.atN (by omega)]
    simp only [bO, o57, o57R, n59, a59 _ _ _ _ _ (show i < 366 by omega), b59 _ _ _ _ _ _ (show cnt (fun j => rAt R (j + 1) N) 0 i < 366 by omega), gnar_2]
    rcases nx_cases (fun j => decide (I (q + 3 + 1) j = iZ ((i : Int) + 1))) R.atN 0 with ⟨h1, -⟩ | ⟨k, h1, h2, h3, -⟩
    · rw [if_pos (by rw [h1]; rfl)]
      rcases g1 with ⟨-, f1⟩ | ⟨n1, -⟩
      · rcases nx_cases (fun j => decide (I (q + 3 + 1) j = iZ ((i : Int) - (N : Int)))) R.atN 0 with ⟨h1', -⟩ | ⟨k, h1', h2', h3', -⟩
        · rw [if_pos (by rw [h1']; rfl)]
          rcases g2 with ⟨-, f2⟩ | ⟨n2, -⟩
          · exact no (by rw [eK, f1, f2]; rfl)
          · exact absurd h1' n2
        · rw [if_neg (by rw [h1', cM_eq (by omega) (by omega)]; omega)]
          rcases g2 with ⟨n2, -⟩ | ⟨-, f2⟩
          · omega
          · exact yes (by rw [eK, f2]; simp)
      · exact absurd h1 n1
    · rw [if_neg (by rw [h1, cM_eq (by omega) (by omega)]; omega)]
      rcases g1 with ⟨n1, -⟩ | ⟨-, f1⟩
      · omega
      · exact yes (by rw [eK, f1]; rfl)
theorem c_keep {p : Nat} (hq : isRule q) (hI : cRl I q R) (ok : RuLok R) (hf : pFst R.u p < 14610) (hg : gath I R.Of (pFst R.u p) (pLen R.u p)) : ∃ I', fX3_keepPlaces 57 q (mkS X I J v) = some ((), mkS X I' J v) ∧ frF I I' ∧ gath I' (rBs R) (pFst R.u p) (pLen R.u p) := by
  have hatN := ok.atN
  have hlen : pLen R.u p ≤ 366 := by
    have := pFst_len (u := R.u) (p := p) ok.u
    unfold pLen; omega
  have eB : ∀ i, i < pLen R.u p → (R.Of (pFst R.u p + i) && rAt R (cnt R.Of (pFst R.u p) (pFst R.u p + i - pFst R.u p) + 1) (cnt R.Of (pFst R.u p) (pLen R.u p))) = rBs R (pFst R.u p + i) := by
    intro i hi
    unfold pLen at hi
    have e : rPer R.u (pFst R.u p + i) = p := rPer_eq (by omega) (by omega) (by omega)
    unfold rBs
    rw [e]
  unfold fX3_keepPlaces
  simp only [bO, rl_at hq, row_i (rl_row3 hq), hI.atN]
  simp (disch := omega) only [cL_eq]
  by_cases h : R.atN = 0
  · rw [if_pos (by omega)]
    refine ⟨I, rfl, frF_r I, gath_congr hg (fun i hi => ?_)⟩
    rw [← eB i hi]
    unfold rAt
    rw [h]; simp
  · rw [if_neg (by omega)]
    have hc := cnt_le R.Of (pFst R.u p) (pLen R.u p)
    obtain ⟨I', r1, r2, r3, r4⟩ := c_keepL (X := X) (J := J) (v := v) (I0 := I) (N := cnt R.Of (pFst R.u p) (pLen R.u p)) hq ok (by omega) (by omega) hI (cnt R.Of (pFst R.u p) (pLen R.u p)) 0 20000 I (by omega) (by omega) (frF_r I) hg.1 (fun k _ => rfl) (fun j hj => absurd hj (Nat.not_lt_zero j))
    refine ⟨I', r1, r2, gath_congr (P := fun d => R.Of d && rAt R (cnt R.Of (pFst R.u p) (d - pFst R.u p) + 1) (cnt R.Of (pFst R.u p) (pLen R.u p))) ⟨?_, ?_⟩ eB⟩
    · rw [cnt_sub (P := R.Of) (K := fun j => rAt R (j + 1) (cnt R.Of (pFst R.u p) (pLen R.u p)))]
      exact r3
    · intro i hi hp
      rw [cnt_sub (P := R.Of) (K := fun j => rAt R (j + 1) (cnt R.Of (pFst R.u p) (pLen R.u p)))]
      rw [Bool.and_eq_true, show pFst R.u p + i - pFst R.u p = i by omega] at hp
      rw [r4 _ (cnt_before hi hp.1) hp.2]
      exact hg.2 i hi hp.1
end gKp
