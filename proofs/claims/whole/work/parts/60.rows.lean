/-! ROWS of numbers: their objects -/
def rowCap (r : Nat) : Nat :=
  if r = 55 then 8
  else if 119 ≤ r ∧ r ≤ 141 ∧ r % 2 = 1 then 20
  else if 148 ≤ r ∧ r ≤ 186 ∧ r % 2 = 0 then 40
  else if r = 194 then 60
  else if 202 ≤ r ∧ r < 232 ∧ ((r - 202) % 5 = 1 ∨ (r - 202) % 5 = 3) then 8
  else if 237 ≤ r ∧ r < 267 ∧ ((r - 237) % 5 = 1 ∨ (r - 237) % 5 = 3) then 8
  else 0
def isRow (r : Nat) : Prop := rowCap r ≠ 0
set_option maxRecDepth 20000 in
theorem rowT : ∀ r, r < 293 → rowCap r ≠ 0 → 50 ≤ r ∧ r + 1 < 267 ∧ layK.getD (r - 50) 0 = 8 ∧ layK.getD (r + 1 - 50) 0 = 22 ∧ layL.getD (r + 1 - 50) 0 = rowCap r ∧ 0 < (layR.getD (r - 50) []).length ∧ (layR.getD (r - 50) []).getD 0 0 = r + 1 := by decide +kernel
theorem rowCap_le (r : Nat) : rowCap r ≤ 60 := by
  unfold rowCap
  split
  · omega
  · split
    · omega
    · split
      · omega
      · split
        · omega
        · split
          · omega
          · split <;> omega
theorem isRow_lt {r : Nat} (h : isRow r) : r < 293 := by
  unfold isRow rowCap at h
  apply Classical.byContradiction
  intro q
  apply h
  rw [if_neg (by omega), if_neg (by omega), if_neg (by omega), if_neg (by omega), if_neg (by omega), if_neg (by omega)]
theorem row_ne {r : Nat} (h : isRow r) : r ≠ 50 ∧ r ≠ 60 ∧ r ≠ 53 ∧ r ≠ 188 := by
  unfold isRow rowCap at h
  refine ⟨?_, ?_, ?_, ?_⟩ <;> (rintro rfl; exact h (by decide))
theorem row_all {r : Nat} (h : isRow r) : gK cst r = 7 + 1 ∧ gK cst (r + 1) = 20 + 2 ∧ gLn cst (r + 1) = rowCap r ∧ gR cst r 0 = r + 1 ∧ 50 ≤ r ∧ r + 1 < 267 := by
  obtain ⟨t0, t00, t1, t2, t3, t4, t5⟩ := rowT r (isRow_lt h) h
  refine ⟨?_, ?_, ?_, ?_, t0, t00⟩
  · rw [cK r (by omega) (by omega), t1]
  · rw [cK (r + 1) (by omega) (by omega), t2]
  · rw [cL (r + 1) (by omega) (by omega), t3]
  · rw [cR r 0 (by omega) (by omega) (by omega), t5]
theorem gnar_2 (x : Int32) : gnar 2 x = x := rfl
section gRow
variable {X : Nat × (Nat → Int32)} {I : Nat → Nat → Int32} {J : Nat → Nat → Int64} {v : Vt} {r r2 : Nat}
theorem row_R (h : isRow r) (I : Nat → Nat → Int32) (J : Nat → Nat → Int64) : ggR (mkS X I J v) r 7 0 = some (r + 1) := by
  obtain ⟨n1, n2, n3, n4⟩ := row_ne h
  rw [ggR_mk (row_all h).1]
  congr 1
  unfold Rv
  rw [if_neg (fun q => n1 q.1), if_neg (fun q => n1 q.1), if_neg (fun q => n2 q.1), if_neg (fun q => n3 q.1), if_neg (fun q => n3 q.1), if_neg (fun q => n4 q.1)]
  exact (row_all h).2.2.2.1
theorem row_c (h : isRow r) (I : Nat → Nat → Int32) (J : Nat → Nat → Int64) {β : Type} (o : Option β) : gcv (mkS X I J v) r 7 o = o := gcv_mk (row_all h).1
theorem row_i (h : isRow r) (I : Nat → Nat → Int32) (J : Nat → Nat → Int64) {k : Nat} : ggI (mkS X I J v) r 7 k = some (I r k) := ggI_mk (row_all h).1
theorem row_p (h : isRow r) (I : Nat → Nat → Int32) (J : Nat → Nat → Int64) {k : Nat} {x : Int32} : spI (mkS X I J v) r 7 k x = some (mkS X (gup I r k x) J v) := spI_mk (row_all h).1
theorem row_n (h : isRow r) (I : Nat → Nat → Int32) (J : Nat → Nat → Int64) : glen (mkS X I J v) (r + 1) = some (iZ (rowCap r : Nat)) := by
  obtain ⟨h1, h2, h3, h4, h5, h6⟩ := row_all h
  rw [glen_mk (by rw [h2]; decide) (by rw [h2]; decide) (by omega), h3, iZ_nat]
theorem row_g (h : isRow r) (I : Nat → Nat → Int32) (J : Nat → Nat → Int64) {n : Nat} (hn : n < rowCap r) : gaI (mkS X I J v) (r + 1) 2 (iZ (n : Int)) = some (I (r + 1) n) := by
  obtain ⟨h1, h2, h3, h4, h5, h6⟩ := row_all h
  exact gaI_n h2 h3 (by omega) (by have := rowCap_le r; omega) hn
theorem row_s (h : isRow r) (I : Nat → Nat → Int32) (J : Nat → Nat → Int64) {n : Nat} {x : Int32} (hn : n < rowCap r) : saI (mkS X I J v) (r + 1) 2 (iZ (n : Int)) x = some (mkS X (gup I (r + 1) n x) J v) := by
  obtain ⟨h1, h2, h3, h4, h5, h6⟩ := row_all h
  exact saI_n h2 h3 (by omega) (by have := rowCap_le r; omega) hn
theorem row_clear (h : isRow r) : fX7_clear r (mkS X I J v) = some ((), mkS X (gup I r 1 0) J v) := by
  unfold fX7_clear
  rw [row_p h]
  rfl
theorem row_indexL {n : Nat} {x : Int32} (h : isRow r) (hn : I r 1 = iZ (n : Int)) (hc : n ≤ rowCap r) : ∀ (m k fuel : Nat), k + m = n → m < fuel → gX7_indexOf_L2 r x fuel (iZ (k : Int)) (mkS X I J v) = some (iZ (nx (fun j => decide (I (r + 1) j = x)) m k), mkS X I J v) := by
  have hcap := rowCap_le r
  intro m
  induction m with
  | zero =>
    intro k fuel h1 h2
    obtain ⟨f, rfl⟩ : ∃ n, fuel = n + 1 := ⟨fuel - 1, by omega⟩
    unfold gX7_indexOf_L2
    rw [row_i h, hn]
    simp only [bO]
    simp (disch := omega) only [iZ_lt]
    rw [if_neg (by omega)]
    rfl
  | succ m ih =>
    intro k fuel h1 h2
    obtain ⟨f, rfl⟩ : ∃ n, fuel = n + 1 := ⟨fuel - 1, by omega⟩
    unfold gX7_indexOf_L2
    rw [row_i h, hn]
    simp only [bO]
    rw [row_R h]
    simp only [bO]
    rw [row_n h, row_g h _ _ (by omega)]
    simp only [bO]
    simp (disch := omega) only [iZ_lt, aL]
    rw [if_pos (by omega), if_pos (by omega)]
    unfold nx
    by_cases hx : I (r + 1) k = x
    · rw [if_pos hx, if_pos (by simp [hx])]
    · rw [if_neg hx, if_neg (by simp [hx]), show (k : Int) + 1 = ((k + 1 : Nat) : Int) by omega]
      exact ih (k + 1) f (by omega) (by omega)
theorem row_index {n : Nat} {x : Int32} (h : isRow r) (hn : I r 1 = iZ (n : Int)) (hc : n ≤ rowCap r) : fX7_indexOf r x (mkS X I J v) = some (iZ (nx (fun j => decide (I (r + 1) j = x)) n 0), mkS X I J v) := by
  have hcap := rowCap_le r
  exact row_indexL h hn hc n 0 20000 (by omega) (by omega)
theorem row_append {n : Nat} {x : Int32} (h : isRow r) (hn : I r 1 = iZ (n : Int)) (hc : n ≤ rowCap r) : fX7_append r x (mkS X I J v) = some ((), mkS X (if n < rowCap r then gup (gup I (r + 1) n x) r 1 (iZ ((n + 1 : Nat) : Int)) else I) J v) := by
  have hcap := rowCap_le r
  unfold fX7_append
  rw [row_i h, hn, row_R h]
  simp only [bO]
  rw [row_n h]
  simp only [bO]
  simp (disch := omega) only [iZ_lt]
  by_cases q : n < rowCap r
  · rw [if_pos (by omega), if_pos q, row_s h _ _ q]
    simp only [bO]
    rw [row_i h, gup_r (by omega), hn]
    simp only [bO]
    rw [row_p h]
    simp only [bO, aL]
    rfl
  · rw [if_neg (by omega), if_neg q]
theorem row_value {n k : Nat} (h : isRow r) (hn : I r 1 = iZ (n : Int)) (hc : n ≤ rowCap r) (hk : k < n) : fX7_valueAt r (iZ (k : Int)) (mkS X I J v) = some (I (r + 1) k, mkS X I J v) := by
  have hcap := rowCap_le r
  unfold fX7_valueAt
  rw [row_i h, hn, row_R h]
  simp only [bO]
  rw [row_n h, row_g h _ _ (by omega)]
  simp only [bO]
  simp (disch := omega) only [iZ_lt, cL_lt]
  rw [if_neg (by omega), if_pos (by omega), if_pos (by omega)]
theorem row_remove {n : Nat} {x : Int32} (h : isRow r) (hn : I r 1 = iZ (n : Int)) (hc : n ≤ rowCap r) : fX7_remove r x (mkS X I J v) = some ((), mkS X (if nx (fun j => decide (I (r + 1) j = x)) n 0 = -1 then I else gup (gup I r 1 (iZ ((n - 1 : Nat) : Int))) (r + 1) (nx (fun j => decide (I (r + 1) j = x)) n 0).toNat (I (r + 1) (n - 1))) J v) := by
  have hcap := rowCap_le r
  unfold fX7_remove
  rw [row_c h, row_index h hn hc]
  simp only [bO]
  rcases nx_cases (fun j => decide (I (r + 1) j = x)) n 0 with ⟨h1, h2⟩ | ⟨k, h1, h2, h3, h4, h5⟩
  · rw [h1, if_pos (show iZ (-1) = -1 from rfl), if_pos rfl]
  · rw [h1]
    simp (disch := omega) only [cM_eq]
    rw [if_neg (by omega), if_neg (by omega), row_i h, hn]
    simp only [bO]
    rw [row_p h]
    simp only [bO]
    rw [row_R h]
    simp only [bO]
    rw [row_i h, gup_s]
    simp only [bO, sL]
    rw [show (n : Int) - 1 = ((n - 1 : Nat) : Int) by omega, row_g h _ _ (by omega)]
    simp only [bO]
    rw [row_s h _ _ (by omega), gup_r (by omega)]
    simp only [bO, Int.toNat_natCast]
end gRow
