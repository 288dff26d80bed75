/-! THE TAPE: the class's feed; end of both; what both hold -/
def apB (w : Int32) (j : Nat) : Int32 := (w >>> (iZ ((8 * (3 - j) : Nat) : Int) &&& 31)).toInt8.toInt32
theorem gfill_app {I : Nat → Nat → Int32} {r t m n : Nat} {f g : Nat → Int32} : gfill (gfill I r t m f) r (t + m) n g = gfill I r t (m + n) (fun j => if j < m then f j else g (j - m)) := by
  funext a j
  by_cases ha : a = r
  · subst ha
    by_cases h1 : t ≤ j ∧ j < t + (m + n)
    · rw [gfill_in h1.1 h1.2]
      by_cases h2 : j < t + m
      · rw [gfill_out (by omega), gfill_in h1.1 h2]
        show _ = if j - t < m then _ else _
        rw [if_pos (by omega)]
      · rw [gfill_in (by omega) (by omega)]
        show _ = if j - t < m then _ else _
        rw [if_neg (by omega)]
        congr 1
        omega
    · rw [gfill_out (by omega), gfill_out (by omega), gfill_out (by omega)]
  · rw [gfill_out (Or.inl ha), gfill_out (Or.inl ha), gfill_out (Or.inl ha)]
theorem gfill_congr {I : Nat → Nat → Int32} {r t m : Nat} {f g : Nat → Int32} (h : ∀ j, j < m → f j = g j) : gfill I r t m f = gfill I r t m g := by
  funext a j
  unfold gfill
  by_cases hh : a = r ∧ t ≤ j ∧ j < t + m
  · rw [if_pos hh, if_pos hh, h _ (by omega)]
  · rw [if_neg hh, if_neg hh]
theorem b8_twice (x : Int32) : x.toInt8.toInt32.toInt8.toInt32 = x.toInt8.toInt32 := by
  apply Int32.toInt_inj.mp
  rw [Int8.toInt_toInt32, Int32.toInt_toInt8, Int8.toInt_toInt32, Int32.toInt_toInt8]
  rw [Int.bmod_bmod]
section gTp2
variable {X : Nat × (Nat → Int32)} {J : Nat → Nat → Int64} {v : Vt}
theorem c_appL {w : Int32} : ∀ (fuel j t : Nat) (I : Nat → Nat → Int32), j ≤ 4 → 4 - j < fuel → t + 4 ≤ 1600 → I 51 1 = iZ ((t + j : Nat) : Int) →
    gX10_append_L3 51 w fuel (iZ (24 - 8 * (j : Int))) (mkS X I J v) = some ((), mkS X (gup (gfill I 52 (t + j) (4 - j) (fun i => apB w (i + j))) 51 1 (iZ ((t + 4 : Nat) : Int))) J v) := by
  intro fuel
  induction fuel with
  | zero => intro k t I h1 h2; omega
  | succ n ih =>
    intro j t I h1 h2 h3 h4
    unfold gX10_append_L3
    simp (disch := omega) only [cL_lt]
    by_cases hj : j < 4
    · rw [if_neg (by omega)]
      simp only [bO, o51, o51R, n52, h4]
      rw [if_pos (by rw [iZ_lt (by omega) (by omega) (by omega) (by omega)]; omega), b52 _ _ _ _ (t + j) _ (by omega)]
      simp only [bO, o51]
      have e1 : gnar 0 ((w >>> (iZ (24 - 8 * (j : Int)) &&& 31)).toInt8.toInt32) = apB w j := by
        show (w >>> (iZ (24 - 8 * (j : Int)) &&& 31)).toInt8.toInt32.toInt8.toInt32 = _
        rw [b8_twice]
        unfold apB
        rw [show (24 - 8 * (j : Int)) = ((8 * (3 - j) : Nat) : Int) by omega]
      rw [e1, gup_r (by decide), h4]
      rw [show (iZ ((t + j : Nat) : Int) + 1) = iZ ((t + (j + 1) : Nat) : Int) by rw [show (1 : Int32) = iZ 1 from rfl, iZ_add]; congr 1]
      rw [show (iZ (24 - 8 * (j : Int)) + (-8)) = iZ (24 - 8 * ((j + 1 : Nat) : Int)) by rw [show (-8 : Int32) = iZ (-8) from rfl, iZ_add]; congr 1; omega]
      rw [ih (j + 1) t _ (by omega) (by omega) h3 (by rw [gup_s])]
      rw [gfill_gup (by decide), gup_gup, show 4 - j = 4 - (j + 1) + 1 by omega, show t + (j + 1) = t + j + 1 by omega, ← gfill_step (f := fun i => apB w (i + j)) (x := apB w j) (by simp)]
      congr 6
      funext i
      congr 1
      omega
    · have hj : j = 4 := by omega
      subst hj
      rw [if_pos (by omega), show 4 - 4 = 0 from rfl, gfill_0, gup_id h4]
theorem c_append {w : Int32} {I : Nat → Nat → Int32} {t : Nat} (h : I 51 1 = iZ (t : Int)) (ht : t + 4 ≤ 1600) : fX10_append 51 w (mkS X I J v) = some ((), mkS X (gup (gfill I 52 t 4 (apB w)) 51 1 (iZ ((t + 4 : Nat) : Int))) J v) :=
  c_appL 20000 0 t I (by decide) (by decide) ht h
theorem c_feed {a b c d e : Int32} {I : Nat → Nat → Int32} {t : Nat} (h : I 51 1 = iZ (t : Int)) (ht : t ≤ 1600) : fX11_feed 50 a b c d e (mkS X I J v) = if t + 20 ≤ 1600 then some (iZ ((t + 20 : Nat) : Int), mkS X (gup (gfill I 52 t 20 (fdC a b c d e)) 51 1 (iZ ((t + 20 : Nat) : Int))) J v) else some (-1, mkS X (gup I 196 0 (I 196 0 + 1)) J v) := by
  unfold fX11_feed
  simp only [bO, o50R, o51, h]
  simp (disch := omega) only [aL, cR_lt]
  by_cases h2 : t + 20 ≤ 1600
  · rw [if_neg (by omega), if_pos h2, c_append h (by omega)]
    simp only [bO, o50R, o51]
    rw [c_append (t := t + 4) (by rw [gup_s]) (by omega)]
    simp only [bO, o50R, o51]
    rw [c_append (t := t + 4 + 4) (by rw [gup_s]) (by omega)]
    simp only [bO, o50R, o51]
    rw [c_append (t := t + 4 + 4 + 4) (by rw [gup_s]) (by omega)]
    simp only [bO, o50R, o51]
    rw [c_append (t := t + 4 + 4 + 4 + 4) (by rw [gup_s]) (by omega)]
    simp only [bO, o50R, o51, gup_s]
    have e : ∀ (I : Nat → Nat → Int32) (n : Nat) (y : Int32) (f : Nat → Int32), gfill (gup I 51 1 y) 52 n 4 f = gup (gfill I 52 n 4 f) 51 1 y := fun I n y f => gfill_gup (by decide)
    simp only [e, gup_gup]
    rw [show t + 4 + 4 + 4 + 4 = t + (4 + 4 + 4 + 4) by omega, show t + 4 + 4 + 4 = t + (4 + 4 + 4) by omega, show t + 4 + 4 = t + (4 + 4) by omega, gfill_app, gfill_app, gfill_app, gfill_app]
    congr 4
    apply gfill_congr
    intro j hj
    unfold fdC fdY fdW apB
    by_cases g1 : j < 4
    · simp only [if_pos g1, Nat.mod_eq_of_lt g1]
    · by_cases g2 : j < 8
      · simp only [if_neg g1, if_pos g2, if_pos (show j - 4 < 4 by omega), show j % 4 = j - 4 by omega]
      · by_cases g3 : j < 12
        · simp only [if_neg g1, if_neg g2, if_pos g3, if_neg (show ¬ j - 4 < 4 by omega), if_pos (show j - 4 - 4 < 4 by omega), show j % 4 = j - 4 - 4 by omega]
        · by_cases g4 : j < 16
          · simp only [if_neg g1, if_neg g2, if_neg g3, if_pos g4, if_neg (show ¬ j - 4 < 4 by omega), if_neg (show ¬ j - 4 - 4 < 4 by omega), if_pos (show j - 4 - 4 - 4 < 4 by omega), show j % 4 = j - 4 - 4 - 4 by omega]
          · simp only [if_neg g1, if_neg g2, if_neg g3, if_neg g4, if_neg (show ¬ j - 4 < 4 by omega), if_neg (show ¬ j - 4 - 4 < 4 by omega), if_neg (show ¬ j - 4 - 4 - 4 < 4 by omega), show j % 4 = j - 4 - 4 - 4 - 4 by omega]
  · rw [if_pos (by omega), if_neg h2]
    have := c_refuse (X := X) (I := I) (J := J) (v := v) (n := 0) (by decide)
    rw [show (0 : Int32) = iZ ((0 : Nat) : Int) from rfl]
    simp only [o50, this, bO]
theorem m_end {z : Int} {I : Nat → Nat → Int32} {t : Nat} (h : I 267 1 = iZ (t : Int)) (ht : t ≤ 1600) (h1 : -2147483648 ≤ z) (h2 : z < 2147483648) : fX12_end 267 (iZ z) (mkS X I J v) = if 0 ≤ z ∧ z ≤ t then some (1, mkS X (gup I 267 1 (iZ z)) J v) else some (0, mkS X (gup I 269 0 (I 269 0 + 1)) J v) := by
  unfold fX12_end gX12_end
  have hr := m_isRefused (X := X) (I := I) (J := J) (v := v) (n := 0) (by decide)
  simp only [bO, o267, h]
  simp (disch := omega) only [cL_lt, iZ_lt]
  by_cases hz : z < 0
  · rw [if_pos hz, if_neg (by omega), show (0 : Int32) = iZ ((0 : Nat) : Int) from rfl, hr]
    rfl
  · rw [if_neg hz]
    by_cases hz2 : (t : Int) < z
    · rw [if_pos hz2, if_neg (by omega), show (0 : Int32) = iZ ((0 : Nat) : Int) from rfl, hr]
      rfl
    · rw [if_neg hz2, if_pos (by omega)]
      rfl
theorem c_end {z : Int} {I : Nat → Nat → Int32} {t : Nat} (h : I 51 1 = iZ (t : Int)) (ht : t ≤ 1600) (h1 : -2147483648 ≤ z) (h2 : z < 2147483648) : fX11_end 50 (iZ z) (mkS X I J v) = if 0 ≤ z ∧ z ≤ t then some (1, mkS X (gup I 51 1 (iZ z)) J v) else some (0, mkS X (gup I 196 0 (I 196 0 + 1)) J v) := by
  unfold fX11_end gX11_end
  have hr := c_deny (X := X) (I := I) (J := J) (v := v) (n := 0) (by decide)
  simp only [bO, o50, o50R, o51, h]
  simp (disch := omega) only [cL_lt, iZ_lt]
  by_cases hz : z < 0
  · rw [if_pos hz, if_neg (by omega), show (0 : Int32) = iZ ((0 : Nat) : Int) from rfl, hr]
    rfl
  · rw [if_neg hz]
    by_cases hz2 : (t : Int) < z
    · rw [if_pos hz2, if_neg (by omega), show (0 : Int32) = iZ ((0 : Nat) : Int) from rfl, hr]
      rfl
    · rw [if_neg hz2, if_pos (by omega)]
      rfl
/-- a byte as the class has it (-128 .. 127) and as the reference has it (0 .. 255) -/
def byR (c m : Int32) : Prop := ∃ b : Nat, b < 256 ∧ m = iZ (b : Int) ∧ c = iZ ((b : Int).bmod 256)
theorem byR_of (y : Int32) : byR y.toInt8.toInt32 (y &&& 255) := by
  obtain ⟨z, h1, h2, rfl⟩ := iZ_of y
  have hm := iZ_mask z 8 (by decide)
  have e0 := Int.emod_nonneg z (show (256 : Int) ≠ 0 by decide)
  have e1 := Int.emod_lt_of_pos z (show (0 : Int) < 256 by decide)
  refine ⟨(z % 256).toNat, by omega, ?_, ?_⟩
  · rw [Int.toNat_of_nonneg e0]
    exact hm
  · rw [Int.toNat_of_nonneg e0, iZ_b8 h1 h2]
    congr 1
    exact (Int.emod_bmod z 256).symm
/-- both tapes hold the same: t bytes -/
def rTape (I : Nat → Nat → Int32) (t : Nat) : Prop := t ≤ 1600 ∧ I 51 1 = iZ (t : Int) ∧ I 267 1 = iZ (t : Int) ∧ ∀ j, j < t → byR (I 52 j) (I 268 j)
end gTp2
