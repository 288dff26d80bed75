/-! WHAT FITS, of the reference: the days of the year -/
theorem cY_iff {d y : Nat} (hd : d < 14610) : cY d = y ↔ cF y ≤ d ∧ d < cF (y + 1) := by
  obtain ⟨q1, -, -, -, -, -, -, q8, -, q10, -⟩ := cGood_all' hd
  constructor
  · intro h; rw [← h]; exact ⟨q8, q10⟩
  · intro h
    unfold cF at h q8 q10
    omega
section gMy
variable {X : Nat × (Nat → Int32)} {v : Vt} {J : Nat → Nat → Int64} {R : RuL} {n : Nat}
theorem m_fit135F {K : gH → Option (Int32 × gH)} {I : Nat → Nat → Int32} {x1 x2 : Int32} (hn : n < 61) (hb : I 289 n = 0) : gX12_laysFits_L135 K 267 x1 x2 (iZ (n : Int)) 20000 0 (mkS X I J v) = K (mkS X I J v) := by
  rw [show (20000 : Nat) = 19999 + 1 from rfl]
  unfold gX12_laysFits_L135
  simp only [bO, o267R, a289 _ _ _ _ n hn, hb]
  rw [if_pos (by decide), if_pos trivial]
theorem m_fit135 {K : gH → Option (Int32 × gH)} {x1 : Int32} {y : Nat} {c : Nat → Nat} (hn : n < 61) (hy : y < 40) (hc : ∀ j, c j ≤ 60) : ∀ (k e fuel : Nat) (I : Nat → Nat → Int32), e + k = 14610 → k < fuel → calOK I → I 289 n = 1 → (∀ e, e < 14610 → I 290 e = tf (rDay R n e)) → (∀ j, j < cF (y + 1) - cF y → I 291 j = iZ ((c j + (if cF y + j < e ∧ rDay R n (cF y + j) = true then 1 else 0) : Nat) : Int)) → ∃ I', gX12_laysFits_L135 K 267 x1 (iZ ((2000 + y : Nat) : Int)) (iZ (n : Int)) fuel (iZ (e : Int)) (mkS X I J v) = K (mkS X I' J v) ∧ frX 291 I I' ∧ ∀ j, j < cF (y + 1) - cF y → I' 291 j = iZ ((c j + (if rDay R n (cF y + j) = true then 1 else 0) : Nat) : Int) := by
  have hf14 : cF (y + 1) ≤ 14610 := by unfold cF; omega
  have hlen : cF (y + 1) - cF y ≤ 366 := by unfold cF; omega
  intro k
  induction k with
  | zero =>
    intro e fuel I he hf hcal hb h290 hI
    obtain ⟨f, rfl⟩ : ∃ n, fuel = n + 1 := ⟨fuel - 1, by omega⟩
    refine ⟨I, ?_, frX_r _ I, fun j hj => ?_⟩
    · unfold gX12_laysFits_L135
      rw [if_neg (by rw [cL_lt (by omega) (by omega) (by decide)]; omega)]
    · rw [hI j hj]
      congr 3
      by_cases q : rDay R n (cF y + j) = true
      · rw [if_pos ⟨by omega, q⟩, if_pos q]
      · rw [if_neg (fun w => q w.2), if_neg q]
  | succ k ih =>
    intro e fuel I he hf hcal hb h290 hI
    obtain ⟨f, rfl⟩ : ∃ n, fuel = n + 1 := ⟨fuel - 1, by omega⟩
    have he' : e < 14610 := by omega
    obtain ⟨k1, k2, k3, k4⟩ := hcal e he'
    have hyr := cY_iff (y := y) he'
    have hY40 := (cGood_all' he').1
    unfold gX12_laysFits_L135
    rw [if_pos (by rw [cL_lt (by omega) (by omega) (by decide)]; omega)]
    simp only [bO, o267R, a289 _ _ _ _ n hn, hb, aL]
    rw [if_neg (show ¬ (1 : Int32) = 0 by decide), a271 _ _ _ _ e he', k1, show (e : Int) + 1 = ((e + 1 : Nat) : Int) by omega]
    simp only [bO]
    by_cases cy : cY e = y
    · obtain ⟨b1, b2⟩ := hyr.mp cy
      have ecN : cN e = e - cF y + 1 := by unfold cN; rw [cy]
      rw [if_pos (by rw [cy]), a274 _ _ _ _ e he', k4, ecN]
      simp only [bO, sL]
      rw [show ((e - cF y + 1 : Nat) : Int) - 1 = ((e - cF y : Nat) : Int) by omega, a291 _ _ _ _ _ (show e - cF y < 366 by omega)]
      simp only [bO, o267R]
      rw [a290 _ _ _ _ e he', h290 e he']
      simp only [bO, m_flag, gb2_some]
      have hIe := hI (e - cF y) (by omega)
      rw [if_neg (fun w => by omega), Nat.add_zero] at hIe
      have hce := hc (e - cF y)
      rw [hIe, tf_n, iZ_add, b291 _ _ _ _ _ _ (show e - cF y < 366 by omega)]
      simp only [bO, gnar_2]
      obtain ⟨I', a1, a2, a3⟩ := ih (e + 1) f (gup I 291 (e - cF y) (iZ ((c (e - cF y) : Int) + ((if rDay R n e = true then 1 else 0 : Nat) : Int)))) (by omega) (by omega) (calOK_Y hcal (fun r k x y => gup_r (by omega))) (by rw [gup_r (by decide)]; exact hb) (fun e he => by rw [gup_r (by decide)]; exact h290 e he) (fun j hj => by
        by_cases q : j = e - cF y
        · subst q
          rw [gup_s, show cF y + (e - cF y) = e by omega, ← Int.natCast_add]
          congr 3
          by_cases w : rDay R n e = true
          · rw [if_pos w, if_pos ⟨by omega, w⟩]
          · rw [if_neg w, if_neg (fun z => w z.2)]
        · rw [gup_k q, hI j hj]
          congr 3
          by_cases w : cF y + j < e ∧ rDay R n (cF y + j) = true
          · rw [if_pos w, if_pos ⟨by omega, w.2⟩]
          · rw [if_neg w, if_neg (fun z => w ⟨by omega, z.2⟩)])
      exact ⟨I', a1, frX_t frX_g a2, a3⟩
    · rw [if_neg (by rw [iZ_eq (by omega) (by omega) (by omega) (by omega)]; omega)]
      refine ih (e + 1) f I (by omega) (by omega) hcal hb h290 (fun j hj => ?_)
      rw [hI j hj]
      congr 3
      have hne : cF y + j ≠ e := fun q => cy (hyr.mpr ⟨by omega, by omega⟩)
      by_cases w : cF y + j < e ∧ rDay R n (cF y + j) = true
      · rw [if_pos w, if_pos ⟨by omega, w.2⟩]
      · rw [if_neg w, if_neg (fun z => w ⟨by omega, z.2⟩)]
end gMy
