/-! THE TAPE: feed, end -/
/-- a stretch of one row gets other ints -/
def gfill (I : Nat → Nat → Int32) (r t m : Nat) (f : Nat → Int32) : Nat → Nat → Int32 := fun a j => if a = r ∧ t ≤ j ∧ j < t + m then f (j - t) else I a j
theorem gfill_step {I : Nat → Nat → Int32} {r t m : Nat} {x : Int32} {f : Nat → Int32} (hx : f 0 = x) : gfill (gup I r t x) r (t + 1) m (fun j => f (j + 1)) = gfill I r t (m + 1) f := by
  funext a j
  unfold gfill gup
  by_cases ha : a = r
  · by_cases h1 : t + 1 ≤ j ∧ j < t + 1 + m
    · rw [if_pos ⟨ha, h1⟩, if_pos ⟨ha, by omega⟩]
      show f (j - (t + 1) + 1) = f (j - t)
      congr 1; omega
    · rw [if_neg (fun q => h1 q.2)]
      by_cases h2 : j = t
      · rw [if_pos ⟨ha, h2⟩, if_pos ⟨ha, by omega⟩, show j - t = 0 by omega, hx]
      · rw [if_neg (fun q => h2 q.2), if_neg (fun q => by omega)]
  · rw [if_neg (fun q => ha q.1), if_neg (fun q => ha q.1), if_neg (fun q => ha q.1)]
theorem gfill_gup {I : Nat → Nat → Int32} {r r' t m k : Nat} {y : Int32} {f : Nat → Int32} (h : r' ≠ r) : gfill (gup I r' k y) r t m f = gup (gfill I r t m f) r' k y := by
  funext a j
  unfold gfill gup
  by_cases ha : a = r
  · subst ha
    rw [if_neg (c := a = r' ∧ j = k) (fun q => h q.1.symm), if_neg (c := a = r' ∧ j = k) (fun q => h q.1.symm)]
  · rw [if_neg (c := a = r ∧ _) (fun q => ha q.1)]
    show _ = if a = r' ∧ j = k then y else (if a = r ∧ t ≤ j ∧ j < t + m then f (j - t) else I a j)
    rw [if_neg (c := a = r ∧ _) (fun q => ha q.1)]
theorem gup_gup {α : Type} {I : Nat → Nat → α} {r k : Nat} {x y : α} : gup (gup I r k x) r k y = gup I r k y := by
  funext a j
  unfold gup
  by_cases h : a = r ∧ j = k
  · rw [if_pos h, if_pos h]
  · rw [if_neg h, if_neg h, if_neg h]
theorem gup_id {α : Type} {I : Nat → Nat → α} {r k : Nat} {x : α} (h : I r k = x) : gup I r k x = I := by
  funext a j
  unfold gup
  by_cases hh : a = r ∧ j = k
  · rw [if_pos hh, hh.1, hh.2, h]
  · rw [if_neg hh]
theorem gfill_0 {I : Nat → Nat → Int32} {r t : Nat} {f : Nat → Int32} : gfill I r t 0 f = I := by
  funext a j
  unfold gfill
  rw [if_neg (by omega)]
theorem gfill_in {I : Nat → Nat → Int32} {r t m j : Nat} {f : Nat → Int32} (h1 : t ≤ j) (h2 : j < t + m) : gfill I r t m f r j = f (j - t) := if_pos ⟨rfl, h1, h2⟩
theorem gfill_out {I : Nat → Nat → Int32} {r t m a j : Nat} {f : Nat → Int32} (h : a ≠ r ∨ j < t ∨ t + m ≤ j) : gfill I r t m f a j = I a j := if_neg (by omega)
/-- the k-th byte of five words, as the class and as the reference have it -/
def fdW (a b c d e : Int32) (k : Nat) : Int32 := if k < 4 then a else if k < 8 then b else if k < 12 then c else if k < 16 then d else e
def fdY (a b c d e : Int32) (k : Nat) : Int32 := fdW a b c d e k >>> (iZ ((8 * (3 - k % 4) : Nat) : Int) &&& 31)
def fdM (a b c d e : Int32) (k : Nat) : Int32 := fdY a b c d e k &&& 255
def fdC (a b c d e : Int32) (k : Nat) : Int32 := (fdY a b c d e k).toInt8.toInt32
section gTp
variable {X : Nat × (Nat → Int32)} {J : Nat → Nat → Int64} {v : Vt}
theorem m_feedL {a b c d e : Int32} : ∀ (fuel k t : Nat) (I : Nat → Nat → Int32), k ≤ 20 → 20 - k < fuel → t + 20 ≤ 1600 → I 267 1 = iZ ((t + k : Nat) : Int) →
    gX12_feed_L22 267 a b c d e fuel (iZ (k : Int)) (mkS X I J v) = some (iZ ((t + 20 : Nat) : Int), mkS X (gup (gfill I 268 (t + k) (20 - k) (fun j => fdM a b c d e (j + k))) 267 1 (iZ ((t + 20 : Nat) : Int))) J v) := by
  intro fuel
  induction fuel with
  | zero => intro k t I h1 h2; omega
  | succ n ih =>
    intro k t I h1 h2 h3 h4
    unfold gX12_feed_L22
    simp (disch := omega) only [cL_lt]
    by_cases hk : k < 20
    · rw [if_pos (by omega)]
      have key : ∀ w : Int32, w = fdW a b c d e k → (gb2 (some (w, mkS X I J v)) fun (z8 : Int32) (s9 : gH) => (ggR s9 267 12 0).bind fun v10 => (ggI s9 267 12 1).bind fun v11 => (saI s9 v10 2 v11 ((z8 >>> ((8 * (3 - (gIrem (iZ (k : Int)) 4))) &&& 31)) &&& 255)).bind fun s12 => (ggI s12 267 12 1).bind fun v13 => (spI s12 267 12 1 (v13 + 1)).bind fun s14 => gX12_feed_L22 267 a b c d e n (iZ (k : Int) + 1) s14) = some (iZ ((t + 20 : Nat) : Int), mkS X (gup (gfill I 268 (t + k) (20 - k) (fun j => fdM a b c d e (j + k))) 267 1 (iZ ((t + 20 : Nat) : Int))) J v) := by
        intro w hw
        simp only [bO, o267, o267R, h4, b268 _ _ _ _ (t + k) _ (show t + k < 1600 by omega)]
        have e1 : gup I 268 (t + k) (gnar 2 (w >>> (8 * (3 - gIrem (iZ (k : Int)) 4) &&& 31) &&& 255)) 267 1 = iZ ((t + k : Nat) : Int) := by rw [gup_r (by decide), h4]
        rw [e1, show (1 : Int32) = iZ 1 from rfl, iZ_add, iZ_add]
        have e2 : gnar 2 (w >>> (8 * (3 - gIrem (iZ (k : Int)) 4) &&& 31) &&& 255) = fdM a b c d e k := by
          have e3 : 8 * (3 - gIrem (iZ (k : Int)) 4) = iZ ((8 * (3 - k % 4) : Nat) : Int) := by
            rw [show (4 : Int32) = iZ 4 from rfl, iZ_rem (by omega) (by omega) (by omega) (by omega), tmod_nn (by omega), show (3 : Int32) = iZ 3 from rfl, show (8 : Int32) = iZ 8 from rfl, iZ_sub, iZ_mul]
            congr 1
            omega
          rw [e3, hw]
          rfl
        rw [e2]
        have := ih (k + 1) t (gup (gup I 268 (t + k) (fdM a b c d e k)) 267 1 (iZ (((t + k : Nat) : Int) + 1))) (by omega) (by omega) h3 (by rw [gup_s]; rfl)
        rw [show ((k : Int) + 1) = ((k + 1 : Nat) : Int) by omega, this]
        rw [gfill_gup (by decide), gup_gup, show 20 - k = 20 - (k + 1) + 1 by omega, show t + (k + 1) = t + k + 1 by omega, ← gfill_step (f := fun j => fdM a b c d e (j + k)) (x := fdM a b c d e k) (by simp)]
        congr 6
        funext j
        congr 1
        omega
      simp only [gjn_eq]
      by_cases g1 : k < 4
      · rw [if_pos (by omega)]; exact key a (by unfold fdW; rw [if_pos g1])
      · rw [if_neg (by omega)]
        by_cases g2 : k < 8
        · rw [if_pos (by omega)]; exact key b (by unfold fdW; rw [if_neg g1, if_pos g2])
        · rw [if_neg (by omega)]
          by_cases g3 : k < 12
          · rw [if_pos (by omega)]; exact key c (by unfold fdW; rw [if_neg g1, if_neg g2, if_pos g3])
          · rw [if_neg (by omega)]
            by_cases g4 : k < 16
            · rw [if_pos (by omega)]; exact key d (by unfold fdW; rw [if_neg g1, if_neg g2, if_neg g3, if_pos g4])
            · rw [if_neg (by omega)]; exact key e (by unfold fdW; rw [if_neg g1, if_neg g2, if_neg g3, if_neg g4])
    · have hk : k = 20 := by omega
      subst hk
      rw [if_neg (by omega)]
      simp only [bO, o267, h4]
      rw [show 20 - 20 = 0 from rfl, gfill_0, gup_id h4]
theorem m_feed {a b c d e : Int32} {I : Nat → Nat → Int32} {t : Nat} (h : I 267 1 = iZ (t : Int)) (ht : t ≤ 1600) : fX12_feed 267 a b c d e (mkS X I J v) = if t + 20 ≤ 1600 then some (iZ ((t + 20 : Nat) : Int), mkS X (gup (gfill I 268 t 20 (fdM a b c d e)) 267 1 (iZ ((t + 20 : Nat) : Int))) J v) else some (-1, mkS X (gup I 269 0 (I 269 0 + 1)) J v) := by
  unfold fX12_feed
  simp only [bO, o267, h]
  simp (disch := omega) only [aL, cR_lt]
  by_cases h2 : t + 20 ≤ 1600
  · rw [if_neg (by omega), if_pos h2]
    have := m_feedL (X := X) (J := J) (v := v) (a := a) (b := b) (c := c) (d := d) (e := e) 20000 0 t I (by decide) (by decide) h2 (by rw [h]; rfl)
    exact this
  · rw [if_pos (by omega), if_neg h2]
    have := m_refuses (X := X) (I := I) (J := J) (v := v) (n := 0) (by decide)
    rw [show (0 : Int32) = iZ ((0 : Nat) : Int) from rfl, this]
    rfl
end gTp
