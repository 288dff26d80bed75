/-! ADD AND LEAVE of the reference -/
theorem set_on {B : Bk} {A L : Nat → Nat → Bool} {s d : Nat} (hs : s < 6) : (dy B A L (6 + s) d = true → L s d = false) ∧ (dy B A L (6 + s) d = false → L s d = true ∨ A s d = false) := by
  rw [dy_set hs]
  unfold setD
  constructor
  · intro h
    cases hL : L s d with
    | false => rfl
    | true => rw [hL] at h; simp at h
  · intro h
    cases hL : L s d with
    | true => exact Or.inl rfl
    | false =>
      right
      cases hA : A s d with
      | false => rfl
      | true => rw [hL, hA] at h; simp at h
section gMa
variable {X : Nat × (Nat → Int32)} {v : Vt} {B : Bk} {A L : Nat → Nat → Bool} {J : Nat → Nat → Int64} {S : Nat → St} {un : Nat}
theorem chK {I : Nat → Nat → Int32} {s d k : Nat} (hs : s < 6) (hk : k ≤ 1) (hd : d < 14610) (hD : mkDj A L) (hL : mLg I B A L) (ho : dy B A L (6 + s) d = decide (k = 1)) : (k = 0 → A s d = false) ∧ (k = 1 → L s d = false) := by
  obtain ⟨h1, h2⟩ := set_on (B := B) (A := A) (L := L) (d := d) hs
  constructor
  · intro q
    rw [q] at ho
    rcases h2 ho with p | p
    · cases hA : A s d with
      | false => rfl
      | true => exact absurd ⟨hA, p⟩ (hD s d)
    · exact p
  · intro q
    rw [q] at ho
    exact h1 ho
theorem m_canHand {I : Nat → Nat → Int32} {z x : Int} {k : Nat} (hk : k ≤ 1) (z1 : -2147483648 ≤ z) (z2 : z < 2147483648) (x1 : -2147483648 ≤ x) (x2 : x < 2147483648) (ok : BkOK B) (hD : mkDj A L) (hB : mBk I B) (hL : mLg I B A L) : ∃ (I' : Nat → Nat → Int32) (r : Bool), fX12_canHand 267 (iZ z) (iZ (k : Int)) (iZ x) (mkS X I J v) = some (tf r, mkS X I' J v) ∧ (r = true ↔ tOK B A L (k + 1) z x) ∧ frY I I' ∧ mLg I' B A L := by
  have k1 := ok.1
  have k2 := ok.2.1
  unfold fX12_canHand gX12_canHand
  simp only [o267, m_isSet z1 z2 ok hB, gb2_some, gjn_eq]
  by_cases c : 0 ≤ z ∧ z < (B.nS : Int)
  · obtain ⟨s, rfl⟩ : ∃ n : Nat, z = (n : Int) := ⟨z.toNat, by omega⟩
    have hs : s < B.nS := by omega
    rw [decide_eq_true c, if_neg (show ¬ tf true = 0 by decide), m_isDay x1 x2, gb2_some]
    by_cases cx : 0 ≤ x ∧ x < 14610
    · obtain ⟨d, rfl⟩ : ∃ n : Nat, x = (n : Int) := ⟨x.toNat, by omega⟩
      have hd : d < 14610 := by omega
      rw [if_pos cx, if_neg (show ¬ (1 : Int32) = 0 by decide)]
      simp only [o267, aR]
      rw [show (6 : Int) + (s : Int) = ((6 + s : Nat) : Int) by omega]
      obtain ⟨I1, a1, a2, a3, a4⟩ := m_lays (X := X) (J := J) (v := v) (w := 6 + s) ok hB hL (by unfold kn; omega)
      simp only [a1, gb2_some, o267, m_isOn (show 6 + s < 12 by omega) hd a4]
      unfold tOK
      simp only [Int.toNat_natCast]
      by_cases co : dy B A L (6 + s) d = decide (k = 1)
      · have h6 : s < 6 := by omega
        obtain ⟨f0, f1⟩ := chK h6 hk hd hD a3 co
        obtain ⟨rA, rL⟩ := a3.2 s h6
        have eo : tf (dy B A L (6 + s) d) = iZ (k : Int) := by
          rw [co]
          rcases (show k = 0 ∨ k = 1 by omega) with rfl | rfl <;> rfl
        have co' : dy B A L (6 + s) d = decide (k + 1 = 2) := by
          rw [co]
          rcases (show k = 0 ∨ k = 1 by omega) with rfl | rfl <;> rfl
        rw [if_pos eo]
        rcases (show k = 0 ∨ k = 1 by omega) with rfl | rfl
        · have hA := f0 rfl
          rw [if_pos (show iZ ((0 : Nat) : Int) = 0 from rfl)]
          obtain ⟨y, y1, y2⟩ := m_handOf (X := X) (v := v) (J := J) (k := 1) h6 (by decide) hd rL
          have y1' : fX12_handOf 267 (iZ (s : Int)) 1 (iZ (d : Int)) (mkS X I1 J v) = some (iZ y, mkS X I1 J v) := y1
          rw [y1', gb2_some]
          rcases y2 with ⟨q1, rfl⟩ | ⟨q1, j, q2, rfl, q3⟩
          · rw [if_pos (show iZ (-1) = -1 from rfl)]
            simp only [bO, o267R]
            rw [m_handAt (k := 0) (by decide), gb2_some, a281 _ _ _ _ _ (show 12 + 42 * s + 21 * 0 < 264 by omega)]
            have hm : mk0 (A s) (L s) d = 0 := by unfold mk0; rw [hA, q1]; rfl
            have e0 : I1 281 (12 + 42 * s + 21 * 0) = iZ (cnt (A s) 0 14610 : Nat) := rA.1
            have hc20 := rA.2.1
            rw [e0]
            simp only [bO]
            by_cases c20 : cnt (A s) 0 14610 < 20
            · rw [if_pos (by rw [cL_lt (by omega) (by omega) (by decide)]; omega)]
              exact ⟨I1, true, rfl, ⟨fun _ => ⟨c, cx, co', fun _ => c20⟩, fun _ => rfl⟩, a2, a3⟩
            · rw [if_neg (by rw [cL_lt (by omega) (by omega) (by decide)]; omega)]
              exact ⟨I1, false, rfl, ⟨fun q => (by cases q), fun q => absurd (q.2.2.2 hm) c20⟩, a2, a3⟩
          · rw [if_neg (by rw [cM_eq (by have := rL.2.1; omega) (by have := rL.2.1; omega)]; omega)]
            have hm : mk0 (A s) (L s) d = 2 := by unfold mk0; rw [hA, q1]; rfl
            exact ⟨I1, true, rfl, ⟨fun _ => ⟨c, cx, co', fun q => by rw [hm] at q; cases q⟩, fun _ => rfl⟩, a2, a3⟩
        · have hLd := f1 rfl
          rw [if_neg (show ¬ iZ ((1 : Nat) : Int) = 0 by decide)]
          obtain ⟨y, y1, y2⟩ := m_handOf (X := X) (v := v) (J := J) (k := 0) h6 (by decide) hd rA
          have y1' : fX12_handOf 267 (iZ (s : Int)) 0 (iZ (d : Int)) (mkS X I1 J v) = some (iZ y, mkS X I1 J v) := y1
          rw [y1', gb2_some]
          rcases y2 with ⟨q1, rfl⟩ | ⟨q1, j, q2, rfl, q3⟩
          · rw [if_pos (show iZ (-1) = -1 from rfl)]
            simp only [bO, o267R]
            rw [m_handAt (k := 1) (by decide), gb2_some, a281 _ _ _ _ _ (show 12 + 42 * s + 21 * 1 < 264 by omega)]
            have hm : mk0 (A s) (L s) d = 0 := by unfold mk0; rw [hLd, q1]; rfl
            have e0 : I1 281 (12 + 42 * s + 21 * 1) = iZ (cnt (L s) 0 14610 : Nat) := rL.1
            have hc20 := rL.2.1
            rw [e0]
            simp only [bO]
            by_cases c20 : cnt (L s) 0 14610 < 20
            · rw [if_pos (by rw [cL_lt (by omega) (by omega) (by decide)]; omega)]
              exact ⟨I1, true, rfl, ⟨fun _ => ⟨c, cx, co', fun _ => c20⟩, fun _ => rfl⟩, a2, a3⟩
            · rw [if_neg (by rw [cL_lt (by omega) (by omega) (by decide)]; omega)]
              exact ⟨I1, false, rfl, ⟨fun q => (by cases q), fun q => absurd (q.2.2.2 hm) c20⟩, a2, a3⟩
          · rw [if_neg (by rw [cM_eq (by have := rA.2.1; omega) (by have := rA.2.1; omega)]; omega)]
            have hm : mk0 (A s) (L s) d = 1 := by unfold mk0; rw [q1]; rfl
            exact ⟨I1, true, rfl, ⟨fun _ => ⟨c, cx, co', fun q => by rw [hm] at q; cases q⟩, fun _ => rfl⟩, a2, a3⟩
      · have eo : ¬ tf (dy B A L (6 + s) d) = iZ (k : Int) := by
          intro q
          apply co
          rcases (show k = 0 ∨ k = 1 by omega) with rfl | rfl
          · cases h : dy B A L (6 + s) d with
            | false => rfl
            | true => rw [h] at q; exact absurd q (by decide)
          · cases h : dy B A L (6 + s) d with
            | true => rfl
            | false => rw [h] at q; exact absurd q (by decide)
        rw [if_neg eo]
        refine ⟨I1, false, rfl, ⟨fun q => (by cases q), fun q => absurd ?_ co⟩, a2, a3⟩
        rw [q.2.2.1]
        rcases (show k = 0 ∨ k = 1 by omega) with rfl | rfl <;> rfl
    · rw [if_neg cx, if_pos rfl]
      exact ⟨I, false, rfl, ⟨fun q => (by cases q), fun q => absurd q.2.1 cx⟩, frY_r I, hL⟩
  · rw [decide_eq_false c, if_pos tf_f]
    exact ⟨I, false, rfl, ⟨fun q => (by cases q), fun q => absurd q.1 c⟩, frY_r I, hL⟩
/-- what the reference may write when a day is turned -/
def frQ5 (I I' : Nat → Nat → Int32) : Prop := ∀ a k, ¬ (281 ≤ a ∧ a ≤ 286) → a ≠ 292 → (a ≠ 267 ∨ (k ≠ 34 ∧ k ≠ 44 ∧ k ≠ 45)) → I' a k = I a k
theorem mBk_Q5 {I I' : Nat → Nat → Int32} (h : mBk I B) (hR : B.nR ≤ 6) (f : frQ5 I I') (f2 : ∀ k, k < 12 → I' 281 k = I 281 k) : mBk I' B := mBk_fr h (fun k => f 276 k (by omega) (by decide) (Or.inl (by decide))) (fun k => f 278 k (by omega) (by decide) (Or.inl (by decide))) f2 hR (f 267 23 (by omega) (by decide) (Or.inr (by decide))) (f 267 17 (by omega) (by decide) (Or.inr (by decide))) (fun r k x y => f r k (by omega) (by omega) (Or.inl (by omega)))
theorem m_handR {I : Nat → Nat → Int32} {z x : Int} {k : Nat} (hk : k ≤ 1) (z1 : -2147483648 ≤ z) (z2 : z < 2147483648) (x1 : -2147483648 ≤ x) (x2 : x < 2147483648) (ok : BkOK B) (hD : mkDj A L) (hB : mBk I B) (hL : mLg I B A L) (hH : hN I S un) (hS : S 0 = (B, A, L)) (hR6 : ∀ k, (S k).1.nR ≤ 6) : (¬ tOK B A L (k + 1) z x ∧ ∃ I', (gb2 (fX12_canHand 267 (iZ z) (iZ (k : Int)) (iZ x) (mkS X I J v)) fun r1 s2 => if r1 = 0 then gb2 (gcv s2 267 12 (fX12_isRefused 267 2 s2)) fun r4 s5 => some (r4, s5) else gb2 (gcv s2 267 12 (fX12_keeps 267 s2)) fun (_ : Unit) s7 => gb2 (gcv s7 267 12 (fX12_hands 267 (iZ z) (iZ (k : Int)) (iZ x) s7)) fun (_ : Unit) s9 => some ((1 : Int32), s9)) = some (0, mkS X (gup I' 269 2 (I' 269 2 + 1)) J v) ∧ frY I I' ∧ mLg I' B A L) ∨ (tOK B A L (k + 1) z x ∧ ∃ I', (gb2 (fX12_canHand 267 (iZ z) (iZ (k : Int)) (iZ x) (mkS X I J v)) fun r1 s2 => if r1 = 0 then gb2 (gcv s2 267 12 (fX12_isRefused 267 2 s2)) fun r4 s5 => some (r4, s5) else gb2 (gcv s2 267 12 (fX12_keeps 267 s2)) fun (_ : Unit) s7 => gb2 (gcv s7 267 12 (fX12_hands 267 (iZ z) (iZ (k : Int)) (iZ x) s7)) fun (_ : Unit) s9 => some ((1 : Int32), s9)) = some (1, mkS X I' J v) ∧ frQ5 I I' ∧ mBk I' B ∧ mLg I' B (uS A z.toNat (mA (mk1 (A z.toNat) (L z.toNat) x.toNat (k + 1)) (A z.toNat) x.toNat)) (uS L z.toNat (mL (mk1 (A z.toNat) (L z.toNat) x.toNat (k + 1)) (L z.toNat) x.toNat)) ∧ ∀ τ, hN I' (sC τ S) (min 20 (un + 1))) := by
  have k1 := ok.1
  have k2 := ok.2.1
  obtain ⟨I1, r, a1, a2, a3, a4⟩ := m_canHand (X := X) (J := J) (v := v) hk z1 z2 x1 x2 ok hD hB hL
  rw [a1, gb2_some]
  have hB1 := mBk_Y hB k1 a3
  cases r with
  | false =>
    left
    refine ⟨fun q => (by have := a2.mpr q; cases this), I1, ?_, a3, a4⟩
    rw [if_pos tf_f]
    simp only [o267]
    have := m_isRefused (X := X) (I := I1) (J := J) (v := v) (n := 2) (by decide)
    rw [show (2 : Int32) = iZ ((2 : Nat) : Int) from rfl, this]; rfl
  | true =>
    right
    have t := a2.mp rfl
    refine ⟨t, ?_⟩
    obtain ⟨t1, t2, t3, t4⟩ := t
    rw [if_neg (show ¬ tf true = 0 by decide)]
    have hH1 : hN I1 S un := hN_fr hH (a3 267 45 (by omega) (by omega)) (a3 267 44 (by omega) (by omega)) (fun k => a3 292 k (by omega) (by omega))
    obtain ⟨I2, b1, b2, b3⟩ := m_keeps (X := X) (v := v) (J := J) hH1 (by rw [hS]; exact snR_now hB1 a4) hR6
    simp only [o267, b1, gb2_some]
    obtain ⟨s, rfl⟩ : ∃ n : Nat, z = (n : Int) := ⟨z.toNat, by omega⟩
    obtain ⟨d, rfl⟩ : ∃ n : Nat, x = (n : Int) := ⟨x.toNat, by omega⟩
    simp only [Int.toNat_natCast] at t3 t4 ⊢
    have hL2 : mLg I2 B A L := by
      refine ⟨fun w hw => ?_, fun t ht => ?_⟩
      · rw [b2 283 w (by decide) (Or.inl (by decide))]
        rcases a4.1 w hw with q | q
        · exact Or.inl q
        · exact Or.inr ⟨q.1, fun e he => by rw [b2 282 _ (by decide) (Or.inl (by decide))]; exact q.2 e he⟩
      · obtain ⟨x, y⟩ := a4.2 t ht
        exact ⟨mrow_21 x (fun j _ _ => b2 281 j (by decide) (Or.inl (by decide))), mrow_21 y (fun j _ _ => b2 281 j (by decide) (Or.inl (by decide)))⟩
    have co : dy B A L (6 + s) d = decide (k = 1) := by
      rw [t3]
      rcases (show k = 0 ∨ k = 1 by omega) with rfl | rfl <;> rfl
    obtain ⟨f0, f1⟩ := chK (show s < 6 by omega) hk (show d < 14610 by omega) hD hL2 co
    obtain ⟨I3, c1, c2, c3, c4⟩ := m_handsS (X := X) (v := v) (J := J) ok (show s < 6 by omega) hk (show d < 14610 by omega) hL2 f0 f1 t4
    rw [c1, gb2_some]
    have fq : frQ5 I I3 := fun a j p q w => by rw [c2 a j (by omega) (by omega), b2 a j q (by omega), a3 a j (by omega) (by omega)]
    refine ⟨I3, rfl, fq, mBk_Q5 hB k1 fq (fun j hj => ?_), c4, fun τ => hN_fr (b3 τ) (c2 267 45 (by decide) (by decide)) (c2 267 44 (by decide) (by decide)) (fun k => c2 292 k (by decide) (by decide))⟩
    rw [c3 j hj, b2 281 j (by decide) (Or.inl (by decide)), a3 281 j (by omega) (by omega)]
end gMa
