/-! WHAT FITS, of the reference: all numbers are tried -/
section gMz
variable {X : Nat × (Nat → Int32)} {v : Vt} {J : Nat → Nat → Int64} {R : RuL} {m r : Nat} {sd : Nat → Nat} {so : Nat → Bool}
def frLf (I I' : Nat → Nat → Int32) : Prop := ∀ a k, a ≠ 284 → ¬ (289 ≤ a ∧ a ≤ 291) → I' a k = I a k
theorem mSd_fr {I I' : Nat → Nat → Int32} (h : mSd I m r sd so) (f : ∀ k, I' 267 k = I 267 k) (f2 : ∀ k, I' 287 k = I 287 k) (f3 : ∀ k, I' 288 k = I 288 k) : mSd I' m r sd so := ⟨h.1, by rw [f]; exact h.2.1, by rw [f]; exact h.2.2.1, fun j hj => by
  obtain ⟨x, y, z⟩ := h.2.2.2 j hj
  exact ⟨x, by rw [f2]; exact y, by rw [f3]; exact z⟩⟩
theorem m_fit46 (hr : r < 6) (ok : RuLok R) {y : Nat} (hy : y < 40) : ∀ (j k fuel : Nat) (I : Nat → Nat → Int32), k + j = 60 → j < fuel → mRl I r R → calOK I → (∀ d, d < 14610 → I 284 d = tf (rBs R d)) → mSd I m r sd so → (∀ i, i < k → I 289 (i + 1) = tf (fF R m sd so i)) → (∀ i, i < cF (y + 1) - cF y → I 291 i = iZ (yC R m sd so k (cF y + i) : Nat)) → ∃ I', gX12_laysFits_L46 267 (iZ ((2000 + y : Nat) : Int)) fuel (iZ (cnt (fF R m sd so) 0 k : Nat)) (iZ ((k + 1 : Nat) : Int)) (mkS X I J v) = some (iZ (toT R m sd so : Nat), mkS X I' J v) ∧ frLf I I' ∧ (∀ i, i < 60 → I' 289 (i + 1) = tf (fF R m sd so i)) ∧ ∀ i, i < cF (y + 1) - cF y → I' 291 i = iZ (yC R m sd so 60 (cF y + i) : Nat) := by
  intro j
  induction j with
  | zero =>
    intro k fuel I hk hf hR hc hB hs h289 h291
    obtain ⟨f, rfl⟩ : ∃ n, fuel = n + 1 := ⟨fuel - 1, by omega⟩
    have k60 : k = 60 := by omega
    subst k60
    refine ⟨I, ?_, fun _ _ _ _ => rfl, h289, h291⟩
    unfold gX12_laysFits_L46
    rw [if_pos (by rw [cR_lt (by omega) (by omega) (by decide)]; omega)]
    rfl
  | succ j ih =>
    intro k fuel I hk hf hR hc hB hs h289 h291
    obtain ⟨f, rfl⟩ : ∃ n, fuel = n + 1 := ⟨fuel - 1, by omega⟩
    have hck := cnt_le (fF R m sd so) 0 k
    unfold gX12_laysFits_L46
    rw [if_neg (by rw [cR_lt (by omega) (by omega) (by decide)]; omega)]
    simp only [bO, o267, o267R, hs.2.2.1]
    obtain ⟨I1, a1, a2, a3, a4⟩ := m_laysDaysBy (X := X) (J := J) (v := v) (I := I) (R := R) (r := r) (n := k + 1) (a := 290) (N := 14610) (at0 := 0) (by decide) (by decide) (fun I i x hi => b290 _ _ _ _ _ _ hi) (by decide) (by decide) hr ok (by omega) (by omega) hR hc hB
    have a1' : fX12_laysDaysBy 267 (iZ (r : Int)) (iZ ((k + 1 : Nat) : Int)) 290 0 (mkS X I J v) = some ((), mkS X I1 J v) := a1
    rw [a1', gb2_some]
    simp only [o267R, bO]
    rw [b289 _ _ _ _ _ _ (show k + 1 < 61 by omega), show gnar 4 (1 : Int32) = 1 from by decide]
    simp only [bO]
    have h290 : ∀ e, e < 14610 → gup I1 289 (k + 1) 1 290 e = tf (rDay R (k + 1) e) := fun e he => by
      rw [gup_r (by decide)]
      have := a4 e he
      rw [Nat.zero_add] at this
      exact this
    have hs1 : mSd (gup I1 289 (k + 1) 1) m r sd so := mSd_fr hs (fun k => by rw [gup_r (by decide), a2 267 k (by decide)]) (fun k => by rw [gup_r (by decide), a2 287 k (by decide)]) (fun k => by rw [gup_r (by decide), a2 288 k (by decide)])
    obtain ⟨I2, b1, b2, b3, b4⟩ := m_fit76 (X := X) (J := J) (v := v) (R := R) (m := m) (n := k + 1) (sd := sd) (so := so) (r := r) (x1 := iZ (cnt (fF R m sd so) 0 k : Nat)) (x2 := iZ ((2000 + y : Nat) : Int)) (K := fun s33 => (ggR s33 267 12 40).bind fun v34 => (gaI s33 v34 4 (iZ ((k + 1 : Nat) : Int))).bind fun v35 => gb2 (fX12_flag v35 s33) fun r36 s37 => gX12_laysFits_L135 (fun s56 => gX12_laysFits_L46 267 (iZ ((2000 + y : Nat) : Int)) f (iZ (cnt (fF R m sd so) 0 k : Nat) + r36) (iZ ((k + 1 : Nat) : Int) + 1) s56) 267 (iZ (cnt (fF R m sd so) 0 k : Nat) + r36) (iZ ((2000 + y : Nat) : Int)) (iZ ((k + 1 : Nat) : Int)) 20000 0 s37) (by omega) m 0 20000 (gup I1 289 (k + 1) 1) true (by omega) (by have := hs.1; omega) hs1 h290 gup_s
    rw [Bool.true_and] at b4
    have b4' : I2 289 (k + 1) = tf (fF R m sd so k) := b4
    have hb1 : gX12_laysFits_L76 _ 267 _ _ (iZ ((k + 1 : Nat) : Int)) 20000 0 (mkS X (gup I1 289 (k + 1) 1) J v) = _ := b1
    rw [hb1]
    simp only [bO, o267R, a289 _ _ _ _ _ (show k + 1 < 61 by omega), b4', m_flag, gb2_some, glet_eq, aL]
    rw [tf_n, iZ_add, show ((k + 1 : Nat) : Int) + 1 = ((k + 1 + 1 : Nat) : Int) by omega]
    have cS : cnt (fF R m sd so) 0 (k + 1) = cnt (fF R m sd so) 0 k + (if fF R m sd so k = true then 1 else 0) := by rw [cnt_succ, Nat.zero_add]
    have yS : ∀ d, yC R m sd so (k + 1) d = yC R m sd so k d + (if (fF R m sd so k && rDay R (k + 1) d) = true then 1 else 0) := fun d => by
      unfold yC
      rw [cnt_succ, Nat.zero_add]
    rw [← Int.natCast_add, ← cS]
    have g2 : ∀ a k, ¬ (289 ≤ a ∧ a ≤ 290) → I2 a k = I a k := fun a k x => by rw [b2 a k (by omega), gup_r (by omega), a2 a k (by omega)]
    have h2892 : ∀ i, i < k + 1 → I2 289 (i + 1) = tf (fF R m sd so i) := fun i hi => by
      by_cases q : i = k
      · rw [q]; exact b4'
      · rw [b3 (i + 1) (by omega), gup_k (by omega), a2 289 _ (by decide)]
        exact h289 i (by omega)
    have hR2 : mRl I2 r R := by
      unfold mRl at hR ⊢
      simp only [g2 276 _ (by decide), g2 281 _ (by decide)]
      exact hR
    have hc2 : calOK I2 := calOK_Y hc (fun a k x y => g2 a k (by omega))
    have hB2 : ∀ d, d < 14610 → I2 284 d = tf (rBs R d) := fun d hd => by rw [g2 284 d (by decide)]; exact hB d hd
    have hs2 : mSd I2 m r sd so := mSd_fr hs (fun k => g2 267 k (by decide)) (fun k => g2 287 k (by decide)) (fun k => g2 288 k (by decide))
    cases hF : fF R m sd so k with
    | false =>
      rw [m_fit135F (show k + 1 < 61 by omega) (by rw [b4', hF]; rfl)]
      obtain ⟨I', c1, c2, c3, c4⟩ := ih (k + 1) f I2 (by omega) (by omega) hR2 hc2 hB2 hs2 h2892 (fun i hi => by rw [g2 291 i (by decide), h291 i hi, yS, hF]; rfl)
      exact ⟨I', c1, fun a k x y => by rw [c2 a k x y, g2 a k (by omega)], c3, c4⟩
    | true =>
      have h2902 : ∀ e, e < 14610 → I2 290 e = tf (rDay R (k + 1) e) := fun e he => by rw [b2 290 e (by decide)]; exact h290 e he
      obtain ⟨I3, d1, d2, d3⟩ := m_fit135 (X := X) (J := J) (v := v) (R := R) (n := k + 1) (y := y) (c := fun i => min 60 (yC R m sd so k (cF y + i))) (x1 := iZ (cnt (fF R m sd so) 0 (k + 1) : Nat)) (K := fun s56 => gX12_laysFits_L46 267 (iZ ((2000 + y : Nat) : Int)) f (iZ (cnt (fF R m sd so) 0 (k + 1) : Nat)) (iZ ((k + 1 + 1 : Nat) : Int)) s56) (by omega) hy (fun i => Nat.min_le_left _ _) 14610 0 20000 I2 (by decide) (by decide) hc2 (by rw [b4', hF]; rfl) h2902 (fun i hi => by
        have := yC_le (R := R) (m := m) (sd := sd) (so := so) (k := k) (d := cF y + i)
        rw [g2 291 i (by decide), h291 i hi, if_neg (fun w => by omega), Nat.add_zero]
        rw [Nat.min_eq_right (by omega)])
      have hd1 : gX12_laysFits_L135 _ 267 _ _ (iZ ((k + 1 : Nat) : Int)) 20000 0 (mkS X I2 J v) = _ := d1
      rw [hd1]
      obtain ⟨I', c1, c2, c3, c4⟩ := ih (k + 1) f I3 (by omega) (by omega) (by
        unfold mRl at hR2 ⊢
        simp only [d2 276 _ (by decide), d2 281 _ (by decide)]
        exact hR2) (calOK_Y hc2 (fun a k x y => d2 a k (by omega))) (fun d hd => by rw [d2 284 d (by decide)]; exact hB2 d hd) (mSd_fr hs2 (fun k => d2 267 k (by decide)) (fun k => d2 287 k (by decide)) (fun k => d2 288 k (by decide))) (fun i hi => by rw [d2 289 _ (by decide)]; exact h2892 i hi) (fun i hi => by
          have := yC_le (R := R) (m := m) (sd := sd) (so := so) (k := k) (d := cF y + i)
          rw [d3 i hi, yS, hF, Bool.true_and]
          rw [Nat.min_eq_right (by omega)])
      exact ⟨I', c1, fun a k x y => by rw [c2 a k x y, d2 a k (by omega), g2 a k (by omega)], c3, c4⟩
end gMz
