/-! WHAT A PERIOD HAS, as the finder gathers it -/
def gath (I : Nat → Nat → Int32) (P : Nat → Bool) (a n : Nat) : Prop := I 57 2 = iZ (cnt P a n : Nat) ∧ ∀ i, i < n → P (a + i) = true → I 59 (cnt P a i) = iZ ((a + i : Nat) : Int)
/-- only the finder's objects are changed -/
def frF (I I' : Nat → Nat → Int32) : Prop := ∀ r k, r ≠ 57 → r ≠ 58 → r ≠ 59 → I' r k = I r k
theorem frF_r (I : Nat → Nat → Int32) : frF I I := fun _ _ _ _ _ => rfl
theorem frF_t {I I' I'' : Nat → Nat → Int32} (h1 : frF I I') (h2 : frF I' I'') : frF I I'' := fun r k a b c => (h2 r k a b c).trans (h1 r k a b c)
theorem cRl_fr {I I' : Nat → Nat → Int32} {q : Nat} {R : RuL} (h : cRl I q R) (f : ∀ r k, q ≤ r → r ≤ q + 4 → I' r k = I r k) : cRl I' q R := by
  unfold cRl at h ⊢
  simp only [f q _ (by omega) (by omega), f (q + 1) _ (by omega) (by omega), f (q + 2) _ (by omega) (by omega), f (q + 3) _ (by omega) (by omega), f (q + 4) _ (by omega) (by omega)]
  exact h
theorem cRl_F {I I' : Nat → Nat → Int32} {q : Nat} {R : RuL} (hq : isRule q) (h : cRl I q R) (f : frF I I') : cRl I' q R := by
  have := (rule_all hq).2.2.2.2.2.1
  exact cRl_fr h (fun r k a b => f r k (by omega) (by omega) (by omega))
theorem cnt_succ (P : Nat → Bool) (a n : Nat) : cnt P a (n + 1) = cnt P a n + (if P (a + n) = true then 1 else 0) := rfl
theorem cnt_before {P : Nat → Bool} {a i j : Nat} (h : i < j) (hp : P (a + i) = true) : cnt P a i < cnt P a j := by
  have := cnt_mono P a (show i + 1 ≤ j from h)
  rw [cnt_succ, if_pos hp] at this
  omega
theorem gath_f {I I' : Nat → Nat → Int32} {P : Nat → Bool} {a n : Nat} (h : gath I P a n) (hp : P (a + n) = false) (e1 : I' 57 2 = I 57 2) (e2 : ∀ k, I' 59 k = I 59 k) : gath I' P a (n + 1) := by
  constructor
  · rw [e1, h.1, cnt_succ, hp]; rfl
  · intro i hi hpi
    rw [e2]
    apply h.2 i _ hpi
    apply Classical.byContradiction
    intro q
    rw [show i = n by omega, hp] at hpi
    cases hpi
theorem gath_t {I I' : Nat → Nat → Int32} {P : Nat → Bool} {a n : Nat} (h : gath I P a n) (hp : P (a + n) = true) (e1 : I' 57 2 = iZ ((cnt P a n + 1 : Nat) : Int)) (e2 : ∀ k, k ≠ cnt P a n → I' 59 k = I 59 k) (e3 : I' 59 (cnt P a n) = iZ ((a + n : Nat) : Int)) : gath I' P a (n + 1) := by
  constructor
  · rw [e1, cnt_succ, if_pos hp]
  · intro i hi hpi
    by_cases q : i = n
    · rw [q, e3]
    · have := cnt_before (j := n) (by omega) hpi
      rw [e2 _ (by omega)]
      exact h.2 i (by omega) hpi
section gGa
variable {X : Nat × (Nat → Int32)} {I : Nat → Nat → Int32} {J : Nat → Nat → Int64} {v : Vt} {q d : Nat} {R : RuL}
theorem c_forward' (hd : d < 14610) (hA : ∀ k, k < 8 → I 58 k = alm d k) : fX0_forward 58 (mkS X I J v) = some ((), mkS X (almS I (if d + 1 < 14610 then d + 1 else d)) J v) := by
  have e : I = almS I d := almS_of hA (fun _ _ _ => rfl)
  have e2 : mkS X I J v = mkS X (almS I d) J v := congrArg (fun i => mkS X i J v) e
  rw [e2]
  exact c_forward hd
theorem c_gatherL {a e : Nat} (hq : isRule q) (ok : RuLok R) (he : e ≤ 14610) (hl : e ≤ a + 366) (hae : a < e) : ∀ (m i fuel : Nat) (I : Nat → Nat → Int32), a + i + m = e → m < fuel → cRl I q R → (∀ k, k < 8 → I 58 k = alm (if a + i < 14610 then a + i else 14609) k) → gath I R.Of a i → ∃ I', gX3_gather_L45 57 q (iZ ((e : Int) - 1)) fuel (iZ ((a + i : Nat) : Int)) (mkS X I J v) = some ((), mkS X I' J v) ∧ frF I I' ∧ gath I' R.Of a (i + m) := by
  intro m
  induction m with
  | zero =>
    intro i fuel I hi hf hI hA hg
    obtain ⟨n, rfl⟩ : ∃ n, fuel = n + 1 := ⟨fuel - 1, by omega⟩
    refine ⟨I, ?_, frF_r I, hg⟩
    unfold gX3_gather_L45
    simp (disch := omega) only [iZ_lt]
    rw [if_pos (by omega)]
  | succ m ih =>
    intro i fuel I hi hf hI hA hg
    obtain ⟨n, rfl⟩ : ∃ n, fuel = n + 1 := ⟨fuel - 1, by omega⟩
    have hc := cnt_le R.Of a i
    have hd : a + i < 14610 := by omega
    rw [if_pos hd] at hA
    unfold gX3_gather_L45
    simp only [bO, o57, o57R, n59, rl_c hq, hg.1]
    simp (disch := omega) only [iZ_lt]
    rw [if_neg (by omega), if_pos (by omega), c_counts hq hI ok hd hA]
    simp only [bO, o57, o57R, o58]
    have e1 : iZ ((a + i : Nat) : Int) + 1 = iZ ((a + (i + 1) : Nat) : Int) := by rw [aL]; congr 1
    have eA : (if a + i + 1 < 14610 then a + i + 1 else a + i) = (if a + (i + 1) < 14610 then a + (i + 1) else 14609) := by
      split <;> split <;> omega
    cases hof : R.Of (a + i) with
    | false =>
      rw [if_pos (show tf false = 0 from rfl), c_forward' hd hA, gb2_some, e1, eA]
      obtain ⟨I', r1, r2, r3⟩ := ih (i + 1) n (almS I (if a + (i + 1) < 14610 then a + (i + 1) else 14609)) (by omega) (by omega) (cRl_F hq hI (fun r k _ b _ => almS_out b)) (fun k hk => almS_in hk) (gath_f hg hof (almS_out (by decide)) (fun k => almS_out (by decide)))
      refine ⟨I', r1, frF_t (fun r k _ b _ => almS_out b) r2, ?_⟩
      rw [show i + (m + 1) = i + 1 + m by omega]; exact r3
    | true =>
      rw [if_neg (show ¬ tf true = 0 from by decide), hg.1]
      rw [b59 _ _ _ _ _ _ (show cnt R.Of a i < 366 by omega)]
      simp only [bO, o57, o57R, o58, gnar_2]
      rw [show gup I 59 (cnt R.Of a i) (iZ ((a + i : Nat) : Int)) 57 2 = I 57 2 from gup_r (by decide), hg.1]
      have e2 : iZ (cnt R.Of a i : Nat) + 1 = iZ ((cnt R.Of a i + 1 : Nat) : Int) := by rw [aL]; congr 1
      rw [e2]
      rw [c_forward' hd (fun k hk => by rw [gup_r (by decide), gup_r (by decide)]; exact hA k hk), gb2_some, e1, eA]
      have fr1 : frF I (almS (gup (gup I 59 (cnt R.Of a i) (iZ ((a + i : Nat) : Int))) 57 2 (iZ ((cnt R.Of a i + 1 : Nat) : Int))) (if a + (i + 1) < 14610 then a + (i + 1) else 14609)) := fun r k x1 x2 x3 => by rw [almS_out x2, gup_r x1, gup_r x3]
      obtain ⟨I', r1, r2, r3⟩ := ih (i + 1) n (almS (gup (gup I 59 (cnt R.Of a i) (iZ ((a + i : Nat) : Int))) 57 2 (iZ ((cnt R.Of a i + 1 : Nat) : Int))) (if a + (i + 1) < 14610 then a + (i + 1) else 14609)) (by omega) (by omega) (cRl_F hq hI fr1) (fun k hk => almS_in hk) (gath_t hg hof (by rw [almS_out (by decide), gup_s]) (fun k hk => by rw [almS_out (by decide), gup_r (by decide), gup_k hk]) (by rw [almS_out (by decide), gup_r (by decide), gup_s]))
      refine ⟨I', r1, frF_t fr1 r2, ?_⟩
      rw [show i + (m + 1) = i + 1 + m by omega]; exact r3
end gGa
/-- the length of a period, as far as days are told -/
def pLen (u p : Nat) : Nat := min 14610 (pFst u (p + 1)) - pFst u p
theorem pFst_len {u p : Nat} (hu : u < 4) : pFst u (p + 1) ≤ pFst u p + 366 := by
  unfold pFst
  by_cases u0 : u = 0
  · rw [if_pos u0, if_pos u0]; omega
  · rw [if_neg u0, if_neg u0]
    by_cases u1 : u = 1
    · rw [if_pos u1, if_pos u1]; omega
    · rw [if_neg u1, if_neg u1]
      by_cases u2 : u = 2
      · rw [if_pos u2, if_pos u2]
        by_cases h : p % 12 = 11
        · rw [show (p + 1) / 12 = p / 12 + 1 by omega, show (p + 1) % 12 = 0 by omega, h]
          unfold cA cF
          rw [show 11 + 1 = 12 from rfl, cAh_12, cAh_1]
          split <;> split <;> omega
        · rw [show (p + 1) / 12 = p / 12 by omega, show (p + 1) % 12 = p % 12 + 1 by omega]
          have := cA_le (y := p / 12) (m := p % 12 + 1 + 1) (by omega)
          omega
      · rw [if_neg u2, if_neg u2]
        unfold cF; omega
theorem pFst_lt {u p : Nat} : pFst u p < pFst u (p + 1) := by
  unfold pFst
  by_cases u0 : u = 0
  · rw [if_pos u0, if_pos u0]; omega
  · rw [if_neg u0, if_neg u0]
    by_cases u1 : u = 1
    · rw [if_pos u1, if_pos u1]; omega
    · rw [if_neg u1, if_neg u1]
      by_cases u2 : u = 2
      · rw [if_pos u2, if_pos u2]
        by_cases h : p % 12 = 11
        · rw [show (p + 1) / 12 = p / 12 + 1 by omega, show (p + 1) % 12 = 0 by omega, h]
          unfold cA cF
          rw [show 11 + 1 = 12 from rfl, cAh_12, cAh_1]
          split <;> split <;> omega
        · rw [show (p + 1) / 12 = p / 12 by omega, show (p + 1) % 12 = p % 12 + 1 by omega]
          have : ∀ m, m < 11 → cAh (m + 1) + 27 < cAh (m + 1 + 1) := by decide +kernel
          have := this (p % 12) (by omega)
          unfold cA
          split <;> split <;> omega
      · rw [if_neg u2, if_neg u2]
        unfold cF; omega
section gGb
variable {X : Nat × (Nat → Int32)} {I : Nat → Nat → Int32} {J : Nat → Nat → Int64} {v : Vt} {q d : Nat} {R : RuL}
theorem c_gather {p : Nat} (hq : isRule q) (hI : cRl I q R) (ok : RuLok R) (hp : pOK R.u (p + 1)) (hf : pFst R.u p < 14610) : ∃ I', fX3_gather 57 q (iZ (p : Int)) (mkS X I J v) = some ((), mkS X I' J v) ∧ frF I I' ∧ gath I' R.Of (pFst R.u p) (pLen R.u p) := by
  have h1 := pFst_le ok.u hp
  have h2 := pFst_len (p := p) ok.u
  have h3 := pFst_lt (u := R.u) (p := p)
  have hu := ok.u
  unfold fX3_gather
  simp only [bO, rl_i hq, hI.u, c_firstOfPeriod ok.u (pOK_dn hp (Nat.le_succ p)), o57, o57R, o58]
  rw [show iZ (p : Int) + 1 = iZ ((p + 1 : Nat) : Int) from by rw [aL]; rfl, c_firstOfPeriod ok.u hp]
  simp only [bO, rl_i hq, hI.u, o57, o57R, o58]
  rw [c_moveTo hf, show (14610 : Int32) = iZ 14610 from rfl, gmin_Z (by decide) (by decide) (by omega) (by omega)]
  simp only [bO, sL]
  have eL : pLen R.u p = min 14610 (pFst R.u (p + 1)) - pFst R.u p := rfl
  have fr0 : frF I (almS (gup I 57 2 0) (pFst R.u p)) := fun r k a b c => by rw [almS_out b, gup_r a]
  obtain ⟨I', r1, r2, r3⟩ := c_gatherL (X := X) (J := J) (v := v) (a := pFst R.u p) (e := min 14610 (pFst R.u (p + 1))) hq ok (by omega) (by omega) (by omega) (pLen R.u p) 0 20000 (almS (gup I 57 2 0) (pFst R.u p)) (by omega) (by omega) (cRl_F hq hI fr0) (fun k hk => by rw [almS_in hk, if_pos (by omega)]; rfl) ⟨by rw [almS_out (by decide), gup_s]; rfl, fun i hi => absurd hi (Nat.not_lt_zero i)⟩
  refine ⟨I', ?_, frF_t fr0 r2, ?_⟩
  · rw [show min (14610 : Int) ((pFst R.u (p + 1) : Nat) : Int) = ((min 14610 (pFst R.u (p + 1)) : Nat) : Int) by omega]
    exact r1
  · rw [Nat.zero_add] at r3; exact r3
end gGb
