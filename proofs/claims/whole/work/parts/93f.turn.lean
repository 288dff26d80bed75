/-! MARKS of the class -/
def uS (A : Nat → Nat → Bool) (s : Nat) (P : Nat → Bool) : Nat → Nat → Bool := fun t => if t = s then P else A t
def mA (m : Nat) (P : Nat → Bool) (d : Nat) : Nat → Bool := if m = 1 then pPl P d else pMi P d
def mL (m : Nat) (P : Nat → Bool) (d : Nat) : Nat → Bool := if m = 2 then pPl P d else pMi P d
def mk0 (P Q : Nat → Bool) (d : Nat) : Nat := if P d = true then 1 else if Q d = true then 2 else 0
theorem pPl_Mi {P : Nat → Bool} {d : Nat} : pPl (pMi P d) d = pPl P d := by
  funext e
  unfold pPl pMi
  by_cases c : e = d
  · rw [if_pos c, if_pos c]
  · rw [if_neg c, if_neg c, if_neg c]
theorem dyT_cong {B : Bk} {A L A' L' : Nat → Nat → Bool} : ∀ {s : Nat}, (∀ t, t < s → A' t = A t ∧ L' t = L t) → dyT B A' L' s = dyT B A L s := by
  intro s
  induction s with
  | zero => intro _; rfl
  | succ s ih =>
    intro h
    funext w d
    show (if w = 6 + s then setD (dyT B A' L' s) (B.cs s) (A' s) (L' s) d else dyT B A' L' s w d) = (if w = 6 + s then setD (dyT B A L s) (B.cs s) (A s) (L s) d else dyT B A L s w d)
    rw [ih (fun t ht => h t (by omega)), (h s (by omega)).1, (h s (by omega)).2]
theorem dy_cong {B : Bk} {A L A' L' : Nat → Nat → Bool} {s w : Nat} (hs : s ≤ 6) (h : ∀ t, t < s → A' t = A t ∧ L' t = L t) (hw : w < 6 + s) : dy B A' L' w = dy B A L w := by
  rw [dy_lo hs hw, dy_lo hs hw, dyT_cong h]
section gTn
variable {X : Nat × (Nat → Int32)} {v : Vt} {B : Bk} {A L : Nat → Nat → Bool} {J : Nat → Nat → Int64}
/-- what a mark writes: the ledger's rows, and what it knows -/
def frU (I I' : Nat → Nat → Int32) : Prop := ∀ r k, (r ≠ 60 ∨ k ≠ 7) → ¬ (119 ≤ r ∧ r ≤ 142) → I' r k = I r k
theorem frU_r (I : Nat → Nat → Int32) : frU I I := fun _ _ _ _ => rfl
theorem frU_t {I I' I'' : Nat → Nat → Int32} (h1 : frU I I') (h2 : frU I' I'') : frU I I'' := fun r k a b => (h2 r k a b).trans (h1 r k a b)
theorem c_rowOf {I : Nat → Nat → Int32} {s k : Nat} (hs : s < 6) : fX5_rowOf 60 (iZ (s : Int)) (iZ (k : Int)) (mkS X I J v) = if iZ (k : Int) = 1 then some (119 + 4 * s, mkS X I J v) else some (121 + 4 * s, mkS X I J v) := by
  have e : gmax 0 (gmin (iZ (s : Int)) 5) = iZ (s : Int) := by
    rw [show (5 : Int32) = iZ 5 from rfl, show (0 : Int32) = iZ 0 from rfl, gmin_Z (by omega) (by omega) (by omega) (by omega), gmax_Z (by omega) (by omega) (by omega) (by omega)]
    congr 1; omega
  unfold fX5_rowOf
  simp only [glet_eq, e, bO, o60R, g63 I J hs, g64 I J hs]
theorem c_rowOf1 {I : Nat → Nat → Int32} {s : Nat} (hs : s < 6) : fX5_rowOf 60 (iZ (s : Int)) 1 (mkS X I J v) = some (119 + 4 * s, mkS X I J v) := by
  have := c_rowOf (X := X) (v := v) (J := J) (I := I) (k := 1) hs
  rw [if_pos (show iZ ((1 : Nat) : Int) = 1 from rfl)] at this
  exact this
theorem c_rowOf2 {I : Nat → Nat → Int32} {s : Nat} (hs : s < 6) : fX5_rowOf 60 (iZ (s : Int)) 2 (mkS X I J v) = some (121 + 4 * s, mkS X I J v) := by
  have := c_rowOf (X := X) (v := v) (J := J) (I := I) (k := 2) hs
  rw [if_neg (show ¬ iZ ((2 : Nat) : Int) = 1 by decide)] at this
  exact this
theorem c_markOf {I : Nat → Nat → Int32} {s d : Nat} (hs : s < 6) (hd : d < 14610) (hL : cLg I J B A L) : fX5_markOf 60 (iZ (s : Int)) (iZ (d : Int)) (mkS X I J v) = some (iZ (mk0 (A s) (L s) d : Nat), mkS X I J v) := by
  obtain ⟨a1, a2⟩ := hL.2 s hs
  obtain ⟨r1, r2⟩ := rowA hs
  obtain ⟨q1, q2⟩ := rowB hs
  obtain ⟨x, x1, x2⟩ := c_rowIx (X := X) (v := v) (J := J) r1 r2 a1 hd
  obtain ⟨y, y1, y2⟩ := c_rowIx (X := X) (v := v) (J := J) q1 q2 a2 hd
  unfold fX5_markOf
  simp only [o60, c_rowOf1 hs, c_rowOf2 hs, gb2_some, row_c r1, row_c q1, x1, y1]
  unfold mk0
  cases hA : A s d with
  | true =>
    rw [if_neg (fun q => by have := x2.mp q; rw [hA] at this; cases this), if_pos rfl]
    rfl
  | false =>
    rw [if_pos (x2.mpr hA), if_neg (show ¬ false = true by decide)]
    cases hB : L s d with
    | true =>
      rw [if_neg (fun q => by have := y2.mp q; rw [hB] at this; cases this), if_pos rfl]
      rfl
    | false =>
      rw [if_pos (y2.mpr hB), if_neg (show ¬ false = true by decide)]
      rfl
theorem crow_H {I I' : Nat → Nat → Int32} {r r2 : Nat} {P : Nat → Bool} (h : crow I r P) (f : frH r2 I I') (h1 : r + 1 < r2 ∨ r2 + 1 < r) : crow I' r P := crow_fr h (fun k => f r k (by omega) (by omega)) (fun k => f (r + 1) k (by omega) (by omega))
theorem c_mark {I : Nat → Nat → Int32} {s d m : Nat} (ok : BkOK B) (hs : s < 6) (hd : d < 14610) (hm : m ≤ 2) (hL : cLg I J B A L) (h1 : m = 1 → cnt (pMi (A s) d) 0 14610 < 20) (h2 : m = 2 → cnt (pMi (L s) d) 0 14610 < 20) : ∃ I', fX5_mark 60 (iZ (s : Int)) (iZ (d : Int)) (iZ (m : Int)) (mkS X I J v) = some ((), mkS X I' J v) ∧ frU I I' ∧ cLg I' J B (uS A s (mA m (A s) d)) (uS L s (mL m (L s) d)) := by
  have k1 := ok.1
  have k2 := ok.2.1
  obtain ⟨⟨sk, g1, g2, g3⟩, g4⟩ := hL
  obtain ⟨a1, a2⟩ := g4 s hs
  obtain ⟨r1, r2⟩ := rowA hs
  obtain ⟨q1, q2⟩ := rowB hs
  obtain ⟨I1, b1, b2, b3⟩ := c_rowRem (X := X) (v := v) (J := J) r1 r2 a1 hd
  have a2' := crow_H a2 b2 (Or.inr (by omega))
  obtain ⟨I2, c1, c2, c3⟩ := c_rowRem (X := X) (v := v) (J := J) q1 q2 a2' hd
  have b3' := crow_H b3 c2 (Or.inl (by omega))
  unfold fX5_mark
  simp only [o60, c_rowOf1 hs, c_rowOf2 hs, gb2_some, row_c r1, row_c q1, b1, c1, gjn_eq, bO]
  have fr2 : frU I I2 := fun r k x y => by rw [c2 r k (by omega) (by omega), b2 r k (by omega) (by omega)]
  have oth : ∀ t, t < 6 → t ≠ s → crow I2 (119 + 4 * t) (A t) ∧ crow I2 (121 + 4 * t) (L t) := fun t ht hts => by
    obtain ⟨x, y⟩ := g4 t ht
    exact ⟨crow_H (crow_H x b2 (by omega)) c2 (by omega), crow_H (crow_H y b2 (by omega)) c2 (by omega)⟩
  have e60 : I2 60 7 = iZ (sk : Int) := by rw [c2 60 7 (by omega) (by omega), b2 60 7 (by omega) (by omega)]; exact g1
  have fin : ∀ I3 : Nat → Nat → Int32, frU I2 I3 → I3 60 7 = I2 60 7 → crow I3 (119 + 4 * s) (mA m (A s) d) → crow I3 (121 + 4 * s) (mL m (L s) d) → (∀ t, t < 6 → t ≠ s → crow I3 (119 + 4 * t) (A t) ∧ crow I3 (121 + 4 * t) (L t)) → frU I (gup I3 60 7 (gmin (I3 60 7) (iZ (s : Int)))) ∧ cLg (gup I3 60 7 (gmin (I3 60 7) (iZ (s : Int)))) J B (uS A s (mA m (A s) d)) (uS L s (mL m (L s) d)) := by
    intro I3 f3 e3 p1 p2 p3
    have em : gmin (I3 60 7) (iZ (s : Int)) = iZ ((min sk s : Nat) : Int) := by
      rw [e3, e60, gmin_Z (by omega) (by omega) (by omega) (by omega)]; congr 1; omega
    rw [em]
    have up : ∀ r P, r ≠ 60 → r + 1 ≠ 60 → crow I3 r P → crow (gup I3 60 7 (iZ ((min sk s : Nat) : Int))) r P := fun r P x y h => crow_fr h (fun k => gup_r x) (fun k => gup_r y)
    refine ⟨frU_t (frU_t fr2 f3) (fun r k x y => ?_), ⟨min sk s, gup_s, by omega, fun w hw => ?_⟩, fun t ht => ?_⟩
    · rcases x with x | x
      · exact gup_r x
      · exact gup_k x
    · have hw' : kn B.nR sk w := by unfold kn at hw ⊢; omega
      have ed : dy B (uS A s (mA m (A s) d)) (uS L s (mL m (L s) d)) w = dy B A L w := dy_cong (s := min sk s) (by omega) (fun t ht => ⟨show (if t = s then _ else A t) = A t from if_neg (by omega), show (if t = s then _ else L t) = L t from if_neg (by omega)⟩) (by unfold kn at hw; omega)
      rw [ed]
      exact g3 w hw'
    · by_cases c : t = s
      · subst c
        exact ⟨up _ _ (by omega) (by omega) (by unfold uS; rw [if_pos rfl]; exact p1), up _ _ (by omega) (by omega) (by unfold uS; rw [if_pos rfl]; exact p2)⟩
      · obtain ⟨x, y⟩ := p3 t ht c
        exact ⟨up _ _ (by omega) (by omega) (by unfold uS; rw [if_neg c]; exact x), up _ _ (by omega) (by omega) (by unfold uS; rw [if_neg c]; exact y)⟩
  rcases (show m = 0 ∨ m = 1 ∨ m = 2 by omega) with rfl | rfl | rfl
  · rw [if_pos (show iZ ((0 : Nat) : Int) = 0 from rfl)]
    obtain ⟨z1, z2⟩ := fin I2 (frU_r I2) rfl b3' c3 oth
    exact ⟨_, rfl, z1, z2⟩
  · rw [if_neg (show ¬ iZ ((1 : Nat) : Int) = 0 by decide), c_rowOf hs, if_pos (show iZ ((1 : Nat) : Int) = 1 from rfl), gb2_some, row_c r1]
    obtain ⟨I3, d1, d2, d3⟩ := c_rowApp (X := X) (v := v) (J := J) r1 r2 b3' hd (if_pos rfl) (h1 rfl)
    rw [d1, gb2_some]
    rw [pPl_Mi] at d3
    obtain ⟨z1, z2⟩ := fin I3 (fun r k x y => d2 r k (by omega) (by omega)) (d2 60 7 (by omega) (by omega)) d3 (crow_H c3 d2 (by omega)) (fun t ht hts => ⟨crow_H (oth t ht hts).1 d2 (by omega), crow_H (oth t ht hts).2 d2 (by omega)⟩)
    exact ⟨_, by simp only [bO, o60], z1, z2⟩
  · rw [if_neg (show ¬ iZ ((2 : Nat) : Int) = 0 by decide), c_rowOf hs, if_neg (show ¬ iZ ((2 : Nat) : Int) = 1 by decide), gb2_some, row_c q1]
    obtain ⟨I3, d1, d2, d3⟩ := c_rowApp (X := X) (v := v) (J := J) q1 q2 c3 hd (if_pos rfl) (h2 rfl)
    rw [d1, gb2_some]
    rw [pPl_Mi] at d3
    obtain ⟨z1, z2⟩ := fin I3 (fun r k x y => d2 r k (by omega) (by omega)) (d2 60 7 (by omega) (by omega)) (crow_H b3' d2 (by omega)) d3 (fun t ht hts => ⟨crow_H (oth t ht hts).1 d2 (by omega), crow_H (oth t ht hts).2 d2 (by omega)⟩)
    exact ⟨_, by simp only [bO, o60], z1, z2⟩
/-- which mark a turn leaves -/
def mk1 (P Q : Nat → Bool) (d k : Nat) : Nat := if mk0 P Q d = 0 then k else 0
theorem c_turnS {I : Nat → Nat → Int32} {s d k : Nat} (ok : BkOK B) (hs : s < 6) (hd : d < 14610) (hk : k = 1 ∨ k = 2) (hL : cLg I J B A L) : (mk0 (A s) (L s) d = 0 ∧ ¬ cnt (if k = 1 then A s else L s) 0 14610 < 20 ∧ fX5_turn 60 (iZ (s : Int)) (iZ (d : Int)) (iZ (k : Int)) (mkS X I J v) = some (-1, mkS X I J v)) ∨ ((mk0 (A s) (L s) d = 0 → cnt (if k = 1 then A s else L s) 0 14610 < 20) ∧ ∃ I', fX5_turn 60 (iZ (s : Int)) (iZ (d : Int)) (iZ (k : Int)) (mkS X I J v) = some (iZ ((((s * 14610 + d) * 3) + mk0 (A s) (L s) d : Nat) : Int), mkS X I' J v) ∧ frU I I' ∧ cLg I' J B (uS A s (mA (mk1 (A s) (L s) d k) (A s) d)) (uS L s (mL (mk1 (A s) (L s) d k) (L s) d))) := by
  have hk0 : k ≠ 0 ∧ k < 3 := by omega
  have h02 : mk0 (A s) (L s) d ≤ 2 := by unfold mk0; split; omega; split <;> omega
  obtain ⟨Q, hQ⟩ : ∃ Q, Q = (if k = 1 then A s else L s) := ⟨_, rfl⟩
  rw [← hQ]
  unfold fX5_turn
  have dy1 : fX11_isDay (iZ (d : Int)) (mkS X I J v) = some (1, mkS X I J v) := by rw [c_isDay (by omega) (by omega), if_pos (by omega)]
  rw [if_neg (by rw [cL_lt (by omega) (by omega) (by decide)]; omega), if_pos (by rw [cL_lt (by omega) (by omega) (by decide)]; omega), dy1, gb2_some, if_neg (by decide)]
  simp only [o60, c_markOf hs hd hL, gb2_some, gjn_eq, bO]
  have ecode : ((iZ (s : Int) * 14610 + iZ (d : Int)) * 3) + iZ (mk0 (A s) (L s) d : Nat) = iZ ((((s * 14610 + d) * 3) + mk0 (A s) (L s) d : Nat) : Int) := by
    rw [show (14610 : Int32) = iZ 14610 from rfl, show (3 : Int32) = iZ 3 from rfl, iZ_mul, iZ_add, iZ_mul, iZ_add]; congr 1
  rw [ecode]
  by_cases c0 : mk0 (A s) (L s) d = 0
  · have pA : A s d = false := by
      unfold mk0 at c0
      cases h : A s d with
      | false => rfl
      | true => rw [h, if_pos rfl] at c0; cases c0
    have pL : L s d = false := by
      unfold mk0 at c0
      rw [pA, if_neg (by decide)] at c0
      cases h : L s d with
      | false => rfl
      | true => rw [h, if_pos rfl] at c0; cases c0
    have e1 : mk1 (A s) (L s) d k = k := if_pos c0
    rw [if_pos (by rw [c0]; rfl), if_neg (by rw [cL_eq (by omega) (by omega) (by decide)]; omega), c_rowOf hs, e1]
    have cntr : ∀ r P, crow I r P → I r 1 = iZ (cnt P 0 14610 : Nat) ∧ cnt P 0 14610 ≤ 20 := fun r P h => ⟨h.1, h.2.1⟩
    obtain ⟨x, y⟩ := hL.2 s hs
    obtain ⟨x1, x2⟩ := cntr _ _ x
    obtain ⟨y1, y2⟩ := cntr _ _ y
    rcases hk with rfl | rfl
    · rw [if_pos (show iZ ((1 : Nat) : Int) = 1 from rfl), gb2_some, row_i (rowA hs).1, x1]
      simp only [bO]
      by_cases c : cnt (A s) 0 14610 < 20
      · right
        rw [if_pos (by rw [cL_lt (by omega) (by omega) (by decide)]; omega)]
        refine ⟨fun _ => by rw [hQ, if_pos rfl]; exact c, ?_⟩
        obtain ⟨I', d1, d2, d3⟩ := c_mark (X := X) (v := v) (m := 1) ok hs hd (by decide) hL (fun _ => by rw [pMi_id pA]; exact c) (fun q => by cases q)
        simp only [o60, d1, gb2_some]
        exact ⟨I', rfl, d2, d3⟩
      · left
        rw [if_neg (by rw [cL_lt (by omega) (by omega) (by decide)]; omega)]
        exact ⟨c0, by rw [hQ, if_pos rfl]; exact c, rfl⟩
    · rw [if_neg (show ¬ iZ ((2 : Nat) : Int) = 1 by decide), gb2_some, row_i (rowB hs).1, y1]
      simp only [bO]
      by_cases c : cnt (L s) 0 14610 < 20
      · right
        rw [if_pos (by rw [cL_lt (by omega) (by omega) (by decide)]; omega)]
        refine ⟨fun _ => by rw [hQ, if_neg (by decide)]; exact c, ?_⟩
        obtain ⟨I', d1, d2, d3⟩ := c_mark (X := X) (v := v) (m := 2) ok hs hd (by decide) hL (fun q => by cases q) (fun _ => by rw [pMi_id pL]; exact c)
        simp only [o60, d1, gb2_some]
        exact ⟨I', rfl, d2, d3⟩
      · left
        rw [if_neg (by rw [cL_lt (by omega) (by omega) (by decide)]; omega)]
        exact ⟨c0, by rw [hQ, if_neg (by decide)]; exact c, rfl⟩
  · right
    have e1 : mk1 (A s) (L s) d k = 0 := if_neg c0
    rw [if_neg (by rw [cL_eq (by omega) (by omega) (by decide)]; omega), if_pos trivial, e1]
    refine ⟨fun q => absurd q c0, ?_⟩
    obtain ⟨I', d1, d2, d3⟩ := c_mark (X := X) (v := v) (m := 0) ok hs hd (by decide) hL (fun q => by cases q) (fun q => by cases q)
    have d1' : fX5_mark 60 (iZ (s : Int)) (iZ (d : Int)) 0 (mkS X I J v) = some ((), mkS X I' J v) := d1
    rw [d1', gb2_some]
    exact ⟨I', rfl, d2, d3⟩
end gTn
