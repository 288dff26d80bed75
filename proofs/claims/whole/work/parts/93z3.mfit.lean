/-! WHAT FITS, of the reference -/
section gMf
variable {X : Nat × (Nat → Int32)} {v : Vt} {J : Nat → Nat → Int64} {R : RuL} {m n : Nat} {sd : Nat → Nat} {so : Nat → Bool}
/-- the rows that were seen -/
def mSd (I : Nat → Nat → Int32) (m r : Nat) (sd : Nat → Nat) (so : Nat → Bool) : Prop := m ≤ 12 ∧ I 267 36 = iZ (m : Int) ∧ I 267 37 = iZ (r : Int) ∧ ∀ j, j < m → sd j < 14610 ∧ I 287 j = iZ (sd j : Int) ∧ I 288 j = tf (so j)
theorem m_fit76 {K : gH → Option (Int32 × gH)} {x1 x2 : Int32} {r : Nat} (hn : n < 61) : ∀ (k j fuel : Nat) (I : Nat → Nat → Int32) (bb : Bool), j + k = m → k < fuel → mSd I m r sd so → (∀ e, e < 14610 → I 290 e = tf (rDay R n e)) → I 289 n = tf bb → ∃ I', gX12_laysFits_L76 K 267 x1 x2 (iZ (n : Int)) fuel (iZ (j : Int)) (mkS X I J v) = K (mkS X I' J v) ∧ frX 289 I I' ∧ (∀ e, e ≠ n → I' 289 e = I 289 e) ∧ I' 289 n = tf (bb && aB (fun j => rDay R n (sd j) == so j) k j) := by
  intro k
  induction k with
  | zero =>
    intro j fuel I bb hj hf hs h290 hb
    obtain ⟨f, rfl⟩ : ∃ n, fuel = n + 1 := ⟨fuel - 1, by omega⟩
    have hm := hs.1
    refine ⟨I, ?_, frX_r _ I, fun _ _ => rfl, by rw [hb]; unfold aB; rw [Bool.and_true]⟩
    unfold gX12_laysFits_L76
    simp only [bO, o267, hs.2.1]
    rw [if_neg (by rw [iZ_lt (by omega) (by omega) (by omega) (by omega)]; omega)]
  | succ k ih =>
    intro j fuel I bb hj hf hs h290 hb
    obtain ⟨f, rfl⟩ : ∃ n, fuel = n + 1 := ⟨fuel - 1, by omega⟩
    have hm := hs.1
    obtain ⟨d1, d2, d3⟩ := hs.2.2.2 j (by omega)
    have e1 : aB (fun j => rDay R n (sd j) == so j) (k + 1) j = ((rDay R n (sd j) == so j) && aB (fun j => rDay R n (sd j) == so j) k (j + 1)) := rfl
    rw [e1]
    conv => enter [1, I', 1]; unfold gX12_laysFits_L76
    simp only [bO, o267, o267R, hs.2.1]
    rw [if_pos (by rw [iZ_lt (by omega) (by omega) (by omega) (by omega)]; omega), a287 _ _ _ _ _ (show j < 12 by omega), d2]
    simp only [bO]
    rw [a290 _ _ _ _ _ d1, h290 _ d1]
    simp only [bO, o267R]
    rw [a288 _ _ _ _ _ (show j < 12 by omega), d3]
    simp only [bO, aL]
    rw [show (j : Int) + 1 = ((j + 1 : Nat) : Int) by omega]
    by_cases c : rDay R n (sd j) = so j
    · rw [if_pos (by rw [c]), show (rDay R n (sd j) == so j) = true from by rw [c]; exact beq_self_eq_true _, Bool.true_and]
      exact ih (j + 1) f I bb (by omega) (by omega) hs h290 hb
    · have hne : ¬ tf (rDay R n (sd j)) = tf (so j) := fun q => c (by
        cases h1 : rDay R n (sd j) <;> cases h2 : so j <;> rw [h1, h2] at q <;> first | rfl | exact absurd q (by decide))
      rw [if_neg hne, show (rDay R n (sd j) == so j) = false from beq_eq_false_iff_ne.mpr c, Bool.false_and, b289 _ _ _ _ _ _ (show n < 61 by omega), show gnar 4 (0 : Int32) = 0 from by decide]
      simp only [bO]
      obtain ⟨I', a1, a2, a3, a4⟩ := ih (j + 1) f (gup I 289 n 0) false (by omega) (by omega) ⟨hs.1, by rw [gup_r (by decide)]; exact hs.2.1, by rw [gup_r (by decide)]; exact hs.2.2.1, fun i hi => by
        obtain ⟨x, y, z⟩ := hs.2.2.2 i hi
        exact ⟨x, by rw [gup_r (by decide)]; exact y, by rw [gup_r (by decide)]; exact z⟩⟩ (fun e he => by rw [gup_r (by decide)]; exact h290 e he) gup_s
      refine ⟨I', a1, frX_t frX_g a2, fun e he => by rw [a3 e he, gup_k he], ?_⟩
      rw [a4, Bool.false_and, Bool.and_false]
end gMf
