/-! ADD AND LEAVE of the class -/
theorem inv_A {P Q : Nat → Bool} {d m : Nat} : mA (mk0 P Q d) (mA m P d) d = P := by
  funext e
  unfold mA mk0
  by_cases c : e = d
  · subst c
    cases h : P e with
    | true => rw [if_pos rfl, if_pos rfl]; unfold pPl; rw [if_pos rfl]
    | false =>
      have : ¬ (if false = true then 1 else if Q e = true then 2 else 0) = 1 := by
        rw [if_neg (show ¬ false = true by decide)]; split <;> decide
      rw [if_neg this]; unfold pMi; rw [if_pos rfl]
  · have o1 : (if m = 1 then pPl P d else pMi P d) e = P e := by
      split
      · unfold pPl; rw [if_neg c]
      · unfold pMi; rw [if_neg c]
    have o2 : ∀ (n : Nat) (F : Nat → Bool), (if n = 1 then pPl F d else pMi F d) e = F e := fun n F => by
      by_cases q : n = 1
      · rw [if_pos q]; show (if e = d then true else F e) = F e; rw [if_neg c]
      · rw [if_neg q]; show (if e = d then false else F e) = F e; rw [if_neg c]
    exact (o2 _ _).trans o1
theorem inv_L {P Q : Nat → Bool} {d m : Nat} (h : ¬ (P d = true ∧ Q d = true)) : mL (mk0 P Q d) (mL m Q d) d = Q := by
  funext e
  unfold mL mk0
  by_cases c : e = d
  · subst c
    cases hp : P e with
    | true =>
      have hq : Q e = false := by
        cases hq : Q e with
        | false => rfl
        | true => exact absurd ⟨hp, hq⟩ h
      rw [if_pos rfl, if_neg (show ¬ (1 : Nat) = 2 by decide), hq]; unfold pMi; rw [if_pos rfl]
    | false =>
      rw [if_neg (show ¬ false = true by decide)]
      cases hq : Q e with
      | true => rw [if_pos rfl, if_pos rfl]; unfold pPl; rw [if_pos rfl]
      | false => rw [if_neg (show ¬ false = true by decide), if_neg (show ¬ (0 : Nat) = 2 by decide)]; unfold pMi; rw [if_pos rfl]
  · have o1 : (if m = 2 then pPl Q d else pMi Q d) e = Q e := by
      split
      · unfold pPl; rw [if_neg c]
      · unfold pMi; rw [if_neg c]
    have o2 : ∀ (n : Nat) (F : Nat → Bool), (if n = 2 then pPl F d else pMi F d) e = F e := fun n F => by
      by_cases q : n = 2
      · rw [if_pos q]; show (if e = d then true else F e) = F e; rw [if_neg c]
      · rw [if_neg q]; show (if e = d then false else F e) = F e; rw [if_neg c]
    exact (o2 _ _).trans o1
theorem uS_s {A : Nat → Nat → Bool} {s : Nat} {P : Nat → Bool} : uS A s P s = P := if_pos rfl
theorem uS_back {A : Nat → Nat → Bool} {s : Nat} {P : Nat → Bool} : uS (uS A s P) s (A s) = A := by
  funext t
  unfold uS
  by_cases c : t = s
  · rw [if_pos c, c]
  · rw [if_neg c, if_neg c]
theorem pMi2 {P : Nat → Bool} {d : Nat} : pMi (pMi P d) d = pMi P d := pMi_id (if_pos rfl)
/-- a turned day can be turned back -/
theorem turn_back {A L : Nat → Nat → Bool} {s d k : Nat} (hs : s < 6) (hd : d < 14610) (hD : ¬ (A s d = true ∧ L s d = true)) (cA : cnt (A s) 0 14610 ≤ 20) (cL : cnt (L s) 0 14610 ≤ 20) : vM [(s, d, mk0 (A s) (L s) d)] (uS A s (mA (mk1 (A s) (L s) d k) (A s) d), uS L s (mL (mk1 (A s) (L s) d k) (L s) d)) ∧ uM [(s, d, mk0 (A s) (L s) d)] (uS A s (mA (mk1 (A s) (L s) d k) (A s) d), uS L s (mL (mk1 (A s) (L s) d k) (L s) d)) = (A, L) := by
  have h02 : mk0 (A s) (L s) d ≤ 2 := by unfold mk0; split; omega; split <;> omega
  refine ⟨⟨⟨hs, hd, h02, fun q => ?_, fun q => ?_⟩, trivial⟩, ?_⟩
  · have hq : mk0 (A s) (L s) d = 1 := q
    have hA : A s d = true := by
      unfold mk0 at hq
      cases h : A s d with
      | true => rfl
      | false => rw [h, if_neg (show ¬ false = true by decide)] at hq; split at hq <;> cases hq
    show cnt (pMi (uS A s _ s) d) 0 14610 < 20
    have e1 : mk1 (A s) (L s) d k = 0 := if_neg (by omega)
    rw [uS_s, e1]
    show cnt (pMi (pMi (A s) d) d) 0 14610 < 20
    rw [pMi2]
    have := cnt_mi hd hA
    omega
  · have hq : mk0 (A s) (L s) d = 2 := q
    have hL : L s d = true := by
      unfold mk0 at hq
      cases h : L s d with
      | true => rfl
      | false => rw [h, if_neg (show ¬ false = true by decide)] at hq; split at hq <;> cases hq
    show cnt (pMi (uS L s _ s) d) 0 14610 < 20
    have e1 : mk1 (A s) (L s) d k = 0 := if_neg (by omega)
    rw [uS_s, e1]
    show cnt (pMi (pMi (L s) d) d) 0 14610 < 20
    rw [pMi2]
    have := cnt_mi hd hL
    omega
  · show (uS (uS A s _) s (mA _ (uS A s _ s) d), uS (uS L s _) s (mL _ (uS L s _ s) d)) = (A, L)
    rw [uS_s, uS_s, inv_A, inv_L hD, uS_back, uS_back]
def tnD (s5 : gH) : Option (Int32 × gH) := gb2 (gcv s5 50 11 (fX11_deny 50 2 s5)) fun r6 s7 => some (r6, s7)
def tnB (x1 x2 x3 : Int32) (s14 : gH) : Option (Int32 × gH) :=
  (ggR s14 50 11 3).bind fun v16 =>
  gb2 (gcv s14 v16 5 (fX5_turn v16 x1 x2 x3 s14)) fun r17 s18 =>
  if r17 = -1 then
    tnD s18
  else
    (ggR s18 50 11 4).bind fun v22 =>
    gb2 (gcv s18 v22 4 (fX4_openMarks v22 s18)) fun (_ : Unit) s24 =>
    (ggR s24 50 11 4).bind fun v25 =>
    gb2 (gcv s24 v25 4 (fX4_latestChanges v25 s24)) fun r26 s27 =>
    gb2 (gcv s27 r26 7 (fX7_append r26 r17 s27)) fun (_ : Unit) s29 =>
    some (1, s29)
def tnJ (x1 x2 x3 : Int32) (b2 : Nat) (s3 : gH) : Option (Int32 × gH) :=
  if b2 = 0 then tnD s3
  else
    gb2 (gcv s3 b2 2 (fX2_holds b2 x2 s3)) fun r9 s10 =>
    if x3 = 2 then (if r9 = 1 then tnB x1 x2 x3 s10 else tnD s10) else (if r9 = 0 then tnB x1 x2 x3 s10 else tnD s10)
theorem tn_eq (x1 x2 x3 : Int32) (s0 : gH) : gX11_turn 50 x1 x2 x3 s0 = if x1 < 0 then tnJ x1 x2 x3 0 s0 else (ggR s0 50 11 3).bind fun v32 => gb2 (gcv s0 v32 5 (fX5_daysOf v32 (6 + x1) s0)) fun r33 s34 => tnJ x1 x2 x3 r33 s34 := rfl
theorem tnD_eq {X : Nat × (Nat → Int32)} {v : Vt} {I : Nat → Nat → Int32} {J : Nat → Nat → Int64} : tnD (mkS X I J v) = some ((0 : Int32), mkS X (gup I 196 2 (I 196 2 + 1)) J v) := by
  unfold tnD
  have := c_deny (X := X) (I := I) (J := J) (v := v) (n := 2) (by decide)
  simp only [o50]
  rw [show (2 : Int32) = iZ ((2 : Nat) : Int) from rfl, this]; rfl
section gAc
variable {X : Nat × (Nat → Int32)} {v : Vt} {B : Bk} {A L : Nat → Nat → Bool} {b : Nat} {S : Nat → St} {un : Nat}
/-- whether a day can be turned -/
def tOK (B : Bk) (A L : Nat → Nat → Bool) (k : Nat) (z x : Int) : Prop := (0 ≤ z ∧ z < B.nS) ∧ (0 ≤ x ∧ x < 14610) ∧ dy B A L (6 + z.toNat) x.toNat = decide (k = 2) ∧ (mk0 (A z.toNat) (L z.toNat) x.toNat = 0 → cnt (if k = 1 then A z.toNat else L z.toNat) 0 14610 < 20)
/-- what the class may write when a day is turned -/
def frQ4 (I I' : Nat → Nat → Int32) : Prop := ∀ a k, (a ≠ 60 ∨ (k ≠ 6 ∧ k ≠ 7)) → ¬ (119 ≤ a ∧ a ≤ 187) → I' a k = I a k
theorem c_cdOne {I I' : Nat → Nat → Int32} {q : Nat} {c : Nat × Nat × Nat} (h1 : I' (148 + 2 * q) 1 = 1) (h2 : I' (148 + 2 * q + 1) 0 = iZ (cdM c : Nat)) : cdL I' (148 + 2 * q) [c] := by
  refine ⟨by show 1 ≤ 40; decide, h1, fun j hj => ?_⟩
  have hj0 : j = 0 := by
    have : j < 1 := hj
    omega
  subst hj0
  exact h2
theorem c_openMarks {I : Nat → Nat → Int32} {J : Nat → Nat → Int64} {q : Nat} {x : Int32} (hq : q < 20) (h4 : I 143 4 = iZ (q : Int)) (h5 : I 143 5 = iZ (un : Int)) (hu : un ≤ 20) : ∃ I', (gb2 (fX4_openMarks 143 (mkS X I J v)) fun (_ : Unit) s24 => (ggR s24 50 11 4).bind fun v25 => gb2 (gcv s24 v25 4 (fX4_latestChanges v25 s24)) fun r26 s27 => gb2 (gcv s27 r26 7 (fX7_append r26 x s27)) fun (_ : Unit) s29 => some ((1 : Int32), s29)) = some (1, mkS X I' J v) ∧ (∀ r k, ¬ (143 ≤ r ∧ r ≤ 187) → I' r k = I r k) ∧ I' 143 4 = iZ (((q + 1) % 20 : Nat) : Int) ∧ I' 143 5 = iZ ((min 20 (un + 1) : Nat) : Int) ∧ I' 144 ((q + 1) % 20) = 0 ∧ I' (148 + 2 * ((q + 1) % 20)) 1 = 1 ∧ I' (148 + 2 * ((q + 1) % 20) + 1) 0 = x ∧ ∀ p, p < 20 → p ≠ (q + 1) % 20 → I' 144 p = I 144 p ∧ I' 145 p = I 145 p ∧ I' 146 p = I 146 p ∧ I' (148 + 2 * p) 1 = I (148 + 2 * p) 1 ∧ ∀ j, j < 40 → I' (148 + 2 * p + 1) j = I (148 + 2 * p + 1) j := by
  obtain ⟨I1, a1, a2, a3, a4, a5, a6, a7, a8, a9⟩ := c_openRule (X := X) (v := v) (J := J) (x1 := 0) (x2 := -1) (x3 := -1) hq h4 h5 hu
  obtain ⟨t, ht⟩ : ∃ t, t = (q + 1) % 20 := ⟨_, rfl⟩
  have ht20 : t < 20 := by omega
  rw [← ht] at a3 a5 a6 a7 a8 a9 ⊢
  obtain ⟨w1, w2⟩ := rowJ ht20
  unfold fX4_openMarks fX4_latestChanges
  simp only [o143, a1, gb2_some, bO, o50R, o143R, a3, g147 _ _ ht20, row_c w1]
  have ap := row_append (X := X) (v := v) (J := J) (I := I1) (r := 148 + 2 * t) (n := 0) (x := x) w1 a8 (Nat.zero_le _)
  rw [if_pos (by omega)] at ap
  rw [ap, gb2_some]
  refine ⟨_, rfl, fun r k h => ?_, ?_, ?_, ?_, ?_, ?_, fun p hp hpt => ?_⟩
  · rw [gup_r (by omega), gup_r (by omega), a2 r k h]
  · rw [gup_r (by omega), gup_r (by omega)]; exact a3
  · rw [gup_r (by omega), gup_r (by omega)]; exact a4
  · rw [gup_r (by omega), gup_r (by omega)]; exact a5
  · rw [gup_s]; rfl
  · rw [gup_r (by omega), gup_s]
  · obtain ⟨b1, b2, b3, b4, b5⟩ := a9 p hp hpt
    refine ⟨?_, ?_, ?_, ?_, fun j hj => ?_⟩
    · rw [gup_r (by omega), gup_r (by omega)]; exact b1
    · rw [gup_r (by omega), gup_r (by omega)]; exact b2
    · rw [gup_r (by omega), gup_r (by omega)]; exact b3
    · rw [gup_r (by omega), gup_r (by omega)]; exact b4
    · rw [gup_r (by omega), gup_r (by omega)]; exact b5 j hj
theorem c_tnB {I : Nat → Nat → Int32} {J : Nat → Nat → Int64} {s d k : Nat} (hk : k = 1 ∨ k = 2) (ok : BkOK B) (hs : s < 6) (hd : d < 14610) (hD : mkDj A L) (hL : cLg I J B A L) (hJ : jN I S un) (hS : S 0 = (B, A, L)) : (¬ (mk0 (A s) (L s) d = 0 → cnt (if k = 1 then A s else L s) 0 14610 < 20) ∧ tnB (iZ (s : Int)) (iZ (d : Int)) (iZ (k : Int)) (mkS X I J v) = some (0, mkS X (gup I 196 2 (I 196 2 + 1)) J v)) ∨ ((mk0 (A s) (L s) d = 0 → cnt (if k = 1 then A s else L s) 0 14610 < 20) ∧ ∃ I', tnB (iZ (s : Int)) (iZ (d : Int)) (iZ (k : Int)) (mkS X I J v) = some (1, mkS X I' J v) ∧ frQ4 I I' ∧ cLg I' J B (uS A s (mA (mk1 (A s) (L s) d k) (A s) d)) (uS L s (mL (mk1 (A s) (L s) d k) (L s) d)) ∧ jN I' (sC (B, uS A s (mA (mk1 (A s) (L s) d k) (A s) d), uS L s (mL (mk1 (A s) (L s) d k) (L s) d)) S) (min 20 (un + 1))) := by
  have k1 := ok.1
  have k2 := ok.2.1
  have h02 : mk0 (A s) (L s) d ≤ 2 := by unfold mk0; split; omega; split <;> omega
  unfold tnB
  simp only [bO, o50R, o60]
  rcases c_turnS (X := X) (v := v) (k := k) ok hs hd hk hL with ⟨q1, q2, q3⟩ | ⟨q1, I1, a1, a2, a3⟩
  · left
    rw [q3, gb2_some, if_pos rfl, tnD_eq]
    exact ⟨fun z => q2 (z q1), rfl⟩
  · right
    refine ⟨q1, ?_⟩
    rw [a1, gb2_some, if_neg (by rw [cM_eq (by omega) (by omega)]; omega)]
    simp only [bO, o50R, o143]
    obtain ⟨p, h1, h2, h3, h4, h5⟩ := hJ
    obtain ⟨I2, b1, b2, b3, b4, b5, b6, b7, b8⟩ := c_openMarks (X := X) (v := v) (J := J) (I := I1) (q := p) (un := un) (x := iZ ((((s * 14610 + d) * 3) + mk0 (A s) (L s) d : Nat) : Int)) h1 (by rw [a2 143 4 (Or.inl (by decide)) (by decide)]; exact h2) (by rw [a2 143 5 (Or.inl (by decide)) (by decide)]; exact h3) h4
    refine ⟨I2, b1, fun a j x y => ?_, cLg_fr a3 k1 k2 (b2 60 7 (by decide)) (fun r j x y => b2 r j (by omega)) (fun _ _ _ => rfl), ?_⟩
    · rw [b2 a j (by omega), a2 a j (by omega) (by omega)]
    · refine jN_push (I := I) h1 h4 h5 b3 b4 (fun t ht htp => ?_) ?_
      · obtain ⟨c1, c2, c3, c4, c5⟩ := b8 t ht htp
        refine ⟨c1.trans (a2 _ _ (Or.inl (by decide)) (by decide)), c2.trans (a2 _ _ (Or.inl (by decide)) (by decide)), c3.trans (a2 _ _ (Or.inl (by decide)) (by decide)), c4.trans (a2 _ _ (Or.inl (by omega)) (by omega)), fun j hj => (c5 j hj).trans (a2 _ _ (Or.inl (by omega)) (by omega))⟩
      · right; right
        obtain ⟨v1, v2⟩ := turn_back (A := A) (L := L) (k := k) hs hd (hD s d) (hL.2 s hs).1.2.1 (hL.2 s hs).2.2.1
        refine ⟨b5, [(s, d, mk0 (A s) (L s) d)], c_cdOne (I := I) b6 b7, v1, ?_⟩
        rw [hS]
        show (B, A, L) = (B, uM [(s, d, mk0 (A s) (L s) d)] (uS A s (mA (mk1 (A s) (L s) d k) (A s) d), uS L s (mL (mk1 (A s) (L s) d k) (L s) d)))
        rw [v2]
theorem cq_turn {I : Nat → Nat → Int32} {J : Nat → Nat → Int64} {z x : Int} {k : Nat} (hk : k = 1 ∨ k = 2) (z1 : -2147483648 ≤ z) (z2 : z < 2147483648) (x1 : -2147483648 ≤ x) (x2 : x < 2147483648) (hb : isBk b) (hv : v.2.2.1 = b) (ok : BkOK B) (hD : mkDj A L) (hB : cBk I b B) (hL : cLg I J B A L) (hJ : jN I S un) (hS : S 0 = (B, A, L)) : (¬ tOK B A L k z x ∧ ∃ I' J', fX11_turn 50 (iZ z) (iZ x) (iZ (k : Int)) (mkS X I J v) = some (0, mkS X (gup I' 196 2 (I' 196 2 + 1)) J' v) ∧ frC I I' J J' ∧ cLg I' J' B A L) ∨ (tOK B A L k z x ∧ ∃ I' J', fX11_turn 50 (iZ z) (iZ x) (iZ (k : Int)) (mkS X I J v) = some (1, mkS X I' J' v) ∧ frQ4 I I' ∧ (∀ a, (a < 66 ∨ 118 < a) → J' a = J a) ∧ cLg I' J' B (uS A z.toNat (mA (mk1 (A z.toNat) (L z.toNat) x.toNat k) (A z.toNat) x.toNat)) (uS L z.toNat (mL (mk1 (A z.toNat) (L z.toNat) x.toNat k) (L z.toNat) x.toNat)) ∧ jN I' (sC (B, uS A z.toNat (mA (mk1 (A z.toNat) (L z.toNat) x.toNat k) (A z.toNat) x.toNat), uS L z.toNat (mL (mk1 (A z.toNat) (L z.toNat) x.toNat k) (L z.toNat) x.toNat)) S) (min 20 (un + 1))) := by
  have hb0 := bk_r hb
  have k1 := ok.1
  have k2 := ok.2.1
  have hk0 : (iZ (k : Int) = 2 ↔ k = 2) := by rw [cL_eq (by omega) (by omega) (by decide)]; omega
  unfold fX11_turn
  rw [tn_eq]
  simp only [bO, o50R, o50]
  by_cases c0 : z < 0
  · rw [if_pos (by rw [cL_lt (by omega) (by omega) (by decide)]; exact c0)]
    unfold tnJ
    rw [if_pos rfl, tnD_eq]
    exact Or.inl ⟨fun q => by have := q.1.1; omega, I, J, rfl, frC_r I J, hL⟩
  · rw [if_neg (by rw [cL_lt (by omega) (by omega) (by decide)]; exact c0), aR]
    obtain ⟨y, y1, y2, y3, y4⟩ : ∃ y : Int, -2147483648 ≤ y ∧ y < 2147483648 ∧ iZ (6 + z) = iZ y ∧ (((0 ≤ y ∧ y < B.nR) ∨ (6 ≤ y ∧ y < 6 + B.nS)) ↔ z < B.nS) ∧ (z < B.nS → y = 6 + z) := by
      by_cases c : 6 + z < 2147483648
      · exact ⟨6 + z, by omega, c, rfl, by omega, fun _ => rfl⟩
      · refine ⟨6 + z - 4294967296, by omega, by omega, ?_, by omega, by omega⟩
        rw [← iZ_wrap (6 + z - 4294967296)]; congr 1; omega
    obtain ⟨y4, y5⟩ := y4
    rw [y3]
    obtain ⟨I1, J1, e1, e2, e3, e4⟩ := c_daysOf (X := X) y1 y2 hb hv ok hB hL
    simp only [o60, e1, gb2_some]
    unfold tnJ
    by_cases c : (0 ≤ y ∧ y < (B.nR : Int)) ∨ (6 ≤ y ∧ y < 6 + (B.nS : Int))
    · have q1 := y4.mp c
      have q2 := y5 q1
      have e4' := e4 c
      obtain ⟨s, rfl⟩ : ∃ n : Nat, z = (n : Int) := ⟨z.toNat, by omega⟩
      have hs : s < B.nS := by omega
      rw [if_pos c, if_neg (by omega)]
      rw [show y.toNat = 6 + s by omega] at e4' ⊢
      have hds : isDS (65 + 2 * (6 + s)) := isDS_k (by omega)
      rw [ds_c hds, ds_holds hds x1 x2, gb2_some]
      have jN1 : jN I1 S un := jN_fr hJ (fun r j p q => e2.1 r j (Or.inl (by omega)))
      have frL : ∀ I', frQ4 I1 I' → frQ4 I I' := fun I' f a j p q => by rw [f a j p q, e2.1 a j p]
      by_cases cx : 0 ≤ x ∧ x < 14610
      · obtain ⟨d, rfl⟩ : ∃ n : Nat, x = (n : Int) := ⟨x.toNat, by omega⟩
        have hd : d < 14610 := by omega
        have eh : (if 0 ≤ (d : Int) ∧ (d : Int) < 14610 ∧ dsf J1 (65 + 2 * (6 + s)) (d : Int).toNat = true then (1 : Int32) else 0) = tf (dy B A L (6 + s) d) := by
          rw [Int.toNat_natCast, dsP_d e4' hd]
          cases dy B A L (6 + s) d with
          | true => rw [if_pos ⟨cx.1, cx.2, rfl⟩]; rfl
          | false => rw [if_neg (fun q => by cases q.2.2)]; rfl
        rw [eh]
        have br : (if iZ (k : Int) = 2 then (if tf (dy B A L (6 + s) d) = 1 then tnB (iZ (s : Int)) (iZ (d : Int)) (iZ (k : Int)) (mkS X I1 J1 v) else tnD (mkS X I1 J1 v)) else (if tf (dy B A L (6 + s) d) = 0 then tnB (iZ (s : Int)) (iZ (d : Int)) (iZ (k : Int)) (mkS X I1 J1 v) else tnD (mkS X I1 J1 v))) = if dy B A L (6 + s) d = decide (k = 2) then tnB (iZ (s : Int)) (iZ (d : Int)) (iZ (k : Int)) (mkS X I1 J1 v) else tnD (mkS X I1 J1 v) := by
          rcases hk with rfl | rfl
          · rw [if_neg (by decide)]
            cases dy B A L (6 + s) d <;> rfl
          · rw [if_pos (show iZ ((2 : Nat) : Int) = 2 from rfl)]
            cases dy B A L (6 + s) d <;> rfl
        rw [br]
        by_cases cd : dy B A L (6 + s) d = decide (k = 2)
        · rw [if_pos cd]
          rcases c_tnB (X := X) (v := v) (S := S) (un := un) hk ok (show s < 6 by omega) hd hD e3 jN1 hS with ⟨w1, w2⟩ | ⟨w1, I2, w2, w3, w4, w5⟩
          · left
            refine ⟨fun q => w1 q.2.2.2, I1, J1, ?_, e2, e3⟩
            rw [w2]; rfl
          · right
            refine ⟨⟨⟨by omega, by omega⟩, cx, cd, w1⟩, I2, J1, ?_, frL I2 w3, e2.2, w4, w5⟩
            rw [w2]; rfl
        · rw [if_neg cd, tnD_eq]
          exact Or.inl ⟨fun q => cd q.2.2.1, I1, J1, rfl, e2, e3⟩
      · have eh : (if 0 ≤ x ∧ x < 14610 ∧ dsf J1 (65 + 2 * (6 + s)) x.toNat = true then (1 : Int32) else 0) = 0 := if_neg (fun q => cx ⟨q.1, q.2.1⟩)
        rw [eh]
        left
        refine ⟨fun q => cx q.2.1, I1, J1, ?_, e2, e3⟩
        have nb : tnB (iZ (s : Int)) (iZ x) (iZ (k : Int)) (mkS X I1 J1 v) = some ((0 : Int32), mkS X (gup I1 196 2 (I1 196 2 + 1)) J1 v) := by
          unfold tnB fX5_turn
          simp only [bO, o50R, o60]
          rw [if_neg (by rw [cL_lt (by omega) (by omega) (by decide)]; omega), if_pos (by rw [cL_lt (by omega) (by omega) (by decide)]; omega), c_isDay x1 x2, if_neg cx, gb2_some, if_pos rfl, gb2_some, if_pos rfl, tnD_eq]
        rw [nb, tnD_eq]
        rcases hk with rfl | rfl
        · rfl
        · rfl
    · rw [if_neg c, if_pos rfl, tnD_eq]
      exact Or.inl ⟨fun q => c (y4.mpr q.1.2), I1, J1, rfl, e2, e3⟩
end gAc
