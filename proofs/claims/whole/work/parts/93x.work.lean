/-! WHAT FITS, of the class -/
/-- a number of periods fits what was seen -/
def fitB (R : RuL) (m : Nat) (sd : Nat → Nat) (so : Nat → Bool) (n : Nat) : Bool := aB (fun j => rDay R n (sd j) == so j) m 0
section gWk
variable {X : Nat × (Nat → Int32)} {v : Vt} {I : Nat → Nat → Int32} {J : Nat → Nat → Int64} {R : RuL} {m n : Nat} {sd : Nat → Nat} {so : Nat → Bool}
theorem ds189 : isDS 189 := by unfold isDS isDSb; rfl
/-- the rows that were seen -/
def cSd (I : Nat → Nat → Int32) (m : Nat) (sd : Nat → Nat) (so : Nat → Bool) : Prop := m ≤ 12 ∧ I 188 8 = iZ (m : Int) ∧ ∀ j, j < m → sd j < 14610 ∧ I 191 j = iZ (sd j : Int) ∧ I 192 j = tf (so j)
theorem w_holds {d : Nat} (hd : d < 14610) (hf : ∀ d, d < 14656 → dsf J 189 d = rDay R n d) : fX2_holds 189 (iZ (d : Int)) (mkS X I J v) = some (tf (rDay R n d), mkS X I J v) := by
  rw [ds_holds ds189 (by omega) (by omega), Int.toNat_natCast, hf d (by omega)]
  cases rDay R n d with
  | true => rw [if_pos ⟨by omega, by omega, rfl⟩]; rfl
  | false => rw [if_neg (fun q => by cases q.2.2)]; rfl
theorem c_isSoL (h : cSd I m sd so) (hf : ∀ d, d < 14656 → dsf J 189 d = rDay R n d) : ∀ (k j fuel : Nat), j + k = m → k < fuel → gX9_isSo_L2 188 fuel (iZ (j : Int)) (mkS X I J v) = some (tf (aB (fun j => rDay R n (sd j) == so j) k j), mkS X I J v) := by
  obtain ⟨h1, h2, h3⟩ := h
  intro k
  induction k with
  | zero =>
    intro j fuel hj hf2
    obtain ⟨f, rfl⟩ : ∃ n, fuel = n + 1 := ⟨fuel - 1, by omega⟩
    unfold gX9_isSo_L2
    simp only [bO, o188, h2]
    rw [if_neg (by rw [iZ_lt (by omega) (by omega) (by omega) (by omega)]; omega)]
    rfl
  | succ k ih =>
    intro j fuel hj hf2
    obtain ⟨f, rfl⟩ : ∃ n, fuel = n + 1 := ⟨fuel - 1, by omega⟩
    obtain ⟨d1, d2, d3⟩ := h3 j (by omega)
    unfold gX9_isSo_L2
    simp only [bO, o188, o188R, h2, n191]
    rw [if_pos (by rw [iZ_lt (by omega) (by omega) (by omega) (by omega)]; omega), if_pos (by rw [iZ_lt (by omega) (by omega) (by omega) (by omega)]; omega), a191 _ _ _ _ _ (show j < 12 by omega), d2]
    simp only [bO, ds_c ds189, w_holds d1 hf, gb2_some, o188R]
    rw [a192 _ _ _ _ _ (show j < 12 by omega), d3]
    simp only [bO, aL]
    unfold aB
    rw [show (j : Int) + 1 = ((j + 1 : Nat) : Int) by omega]
    by_cases c : rDay R n (sd j) = so j
    · rw [if_pos (by rw [c]), show (rDay R n (sd j) == so j) = true from by rw [c]; exact beq_self_eq_true _, Bool.true_and]
      exact ih (j + 1) f (by omega) (by omega)
    · have hne : ¬ tf (rDay R n (sd j)) = tf (so j) := fun q => c (by
        cases h1 : rDay R n (sd j) <;> cases h2 : so j <;> rw [h1, h2] at q <;> first | rfl | exact absurd q (by decide))
      rw [if_neg hne, show (rDay R n (sd j) == so j) = false from beq_eq_false_iff_ne.mpr c, Bool.false_and]
      rfl
theorem c_isSo (h : cSd I m sd so) (hf : ∀ d, d < 14656 → dsf J 189 d = rDay R n d) : fX9_isSo 188 (mkS X I J v) = some (tf (fitB R m sd so n), mkS X I J v) := by
  unfold fX9_isSo gX9_isSo
  have := c_isSoL (X := X) (v := v) h hf m 0 20000 (by omega) (by have := h.1; omega)
  have this' : gX9_isSo_L2 188 20000 0 (mkS X I J v) = some (tf (fitB R m sd so n), mkS X I J v) := this
  rw [this']
  exact gzr_tf
theorem c_yearL {f0 len : Nat} {c : Nat → Nat} (hl : len ≤ 366) (h14 : f0 + len ≤ 14610) (hc60 : ∀ i, i < len → c i ≤ 60) (hf : ∀ d, d < 14656 → dsf J 189 d = rDay R n d) : ∀ (k i fuel : Nat) (I : Nat → Nat → Int32), i + k = len → k < fuel → (∀ j, j < len → I 193 j = iZ ((c j + (if j < i ∧ rDay R n (f0 + j) = true then 1 else 0) : Nat) : Int)) → ∃ I', gX9_countYear_L2 188 (iZ (f0 : Int)) (iZ (len : Int)) fuel (iZ (i : Int)) (mkS X I J v) = some ((), mkS X I' J v) ∧ frX 193 I I' ∧ ∀ j, j < len → I' 193 j = iZ ((c j + (if rDay R n (f0 + j) = true then 1 else 0) : Nat) : Int) := by
  intro k
  induction k with
  | zero =>
    intro i fuel I hi hf2 hI
    obtain ⟨f, rfl⟩ : ∃ n, fuel = n + 1 := ⟨fuel - 1, by omega⟩
    refine ⟨I, ?_, frX_r _ I, fun j hj => ?_⟩
    · unfold gX9_countYear_L2
      rw [if_neg (by rw [iZ_lt (by omega) (by omega) (by omega) (by omega)]; omega)]
    · rw [hI j hj]
      congr 3
      by_cases q : rDay R n (f0 + j) = true
      · rw [if_pos ⟨by omega, q⟩, if_pos q]
      · rw [if_neg (fun w => q w.2), if_neg q]
  | succ k ih =>
    intro i fuel I hi hf2 hI
    obtain ⟨f, rfl⟩ : ∃ n, fuel = n + 1 := ⟨fuel - 1, by omega⟩
    have hIi := hI i (by omega)
    rw [if_neg (fun w => by omega), Nat.add_zero] at hIi
    have step : ∀ x : Nat, x = (if rDay R n (f0 + i) = true then 1 else 0) → ∃ I', gX9_countYear_L2 188 (iZ (f0 : Int)) (iZ (len : Int)) f (iZ ((i + 1 : Nat) : Int)) (mkS X (gup I 193 i (iZ ((c i + x : Nat) : Int))) J v) = some ((), mkS X I' J v) ∧ frX 193 I I' ∧ ∀ j, j < len → I' 193 j = iZ ((c j + (if rDay R n (f0 + j) = true then 1 else 0) : Nat) : Int) := by
      intro x hx
      obtain ⟨I', a1, a2, a3⟩ := ih (i + 1) f (gup I 193 i (iZ ((c i + x : Nat) : Int))) (by omega) (by omega) (fun j hj => by
        by_cases q : j = i
        · subst q
          rw [gup_s, hx]
          congr 3
          by_cases w : rDay R n (f0 + j) = true
          · rw [if_pos w, if_pos ⟨by omega, w⟩]
          · rw [if_neg w, if_neg (fun z => w z.2)]
        · rw [gup_k q, hI j hj]
          congr 3
          by_cases w : j < i ∧ rDay R n (f0 + j) = true
          · rw [if_pos w, if_pos ⟨by omega, w.2⟩]
          · rw [if_neg w, if_neg (fun z => w ⟨by omega, z.2⟩)])
      exact ⟨I', a1, frX_t frX_g a2, a3⟩
    unfold gX9_countYear_L2
    rw [if_pos (by rw [iZ_lt (by omega) (by omega) (by omega) (by omega)]; omega)]
    simp only [bO, o188R]
    rw [a193 _ _ _ _ _ (show i < 366 by omega), hIi]
    simp only [bO, iZ_add, ds_c ds189]
    rw [show (f0 : Int) + (i : Int) = ((f0 + i : Nat) : Int) by omega, w_holds (show f0 + i < 14610 by omega) hf, gb2_some]
    simp only [aL]
    rw [show (i : Int) + 1 = ((i + 1 : Nat) : Int) by omega]
    cases hr : rDay R n (f0 + i) with
    | false =>
      rw [if_pos tf_f, b193 _ _ _ _ _ _ (show i < 366 by omega)]
      simp only [bO, gnar_2]
      have := step 0 (by rw [hr]; rfl)
      exact this
    | true =>
      rw [if_neg (show ¬ tf true = 0 by decide), b193 _ _ _ _ _ _ (show i < 366 by omega)]
      simp only [bO, gnar_2]
      have := step 1 (by rw [hr]; rfl)
      exact this
end gWk
