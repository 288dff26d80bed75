/-! WHAT TELLS MOST, of the class -/
def bst (f0 : Nat) (w : Nat → Nat) : Nat → Int × Int
  | 0 => (-1, -1)
  | i + 1 => if (bst f0 w i).1 = -1 ∨ (w i : Int) < (bst f0 w i).2 then (((f0 + i : Nat) : Int), (w i : Int)) else bst f0 w i
theorem bst_r {f0 : Nat} {w : Nat → Nat} (hw : ∀ i, w i ≤ 60) : ∀ i, i ≤ 366 → -1 ≤ (bst f0 w i).1 ∧ (bst f0 w i).1 < f0 + 366 ∧ -1 ≤ (bst f0 w i).2 ∧ (bst f0 w i).2 ≤ 60 := by
  intro i
  induction i with
  | zero => intro _; show -1 ≤ (-1 : Int) ∧ (-1 : Int) < (f0 : Int) + 366 ∧ -1 ≤ (-1 : Int) ∧ (-1 : Int) ≤ 60; omega
  | succ i ih =>
    intro hi
    have := ih (by omega)
    have hwi := hw i
    unfold bst
    split
    · dsimp only; omega
    · exact this
/-- what a day tells when c of t have it -/
def wM (t c : Nat) : Nat := if t - c < c then c else t - c
section gCo
variable {X : Nat × (Nat → Int32)} {v : Vt} {J : Nat → Nat → Int64}
theorem c_chooseL {f0 len t : Nat} {c : Nat → Nat} (hl : len ≤ 366) (h14 : f0 + len ≤ 14610) (ht : t ≤ 60) (ht1 : 1 ≤ t) (hc : ∀ i, i < len → c i ≤ t) : ∀ (k i fuel : Nat) (I : Nat → Nat → Int32), i + k = len → k < fuel → I 188 9 = iZ (t : Int) → (∀ j, j < len → I 193 j = iZ (c j : Nat)) → I 188 10 = iZ (bst f0 (fun j => if j < len then wM t (c j) else 0) i).1 → I 188 11 = iZ (bst f0 (fun j => if j < len then wM t (c j) else 0) i).2 → ∃ I', gX9_choose_L12 188 (iZ (f0 : Int)) (iZ (len : Int)) fuel (iZ (i : Int)) (mkS X I J v) = some ((), mkS X I' J v) ∧ (∀ a k, (a ≠ 188 ∨ (k ≠ 10 ∧ k ≠ 11)) → I' a k = I a k) ∧ I' 188 10 = iZ (bst f0 (fun j => if j < len then wM t (c j) else 0) len).1 ∧ I' 188 11 = iZ (bst f0 (fun j => if j < len then wM t (c j) else 0) len).2 := by
  have hw : ∀ j, (fun j => if j < len then wM t (c j) else 0) j ≤ 60 := by
    intro j
    show (if j < len then wM t (c j) else 0) ≤ 60
    split
    · rename_i hj
      have := hc j hj
      unfold wM
      split <;> omega
    · omega
  obtain ⟨w, hwe⟩ : ∃ w, w = (fun j => if j < len then wM t (c j) else 0) := ⟨_, rfl⟩
  rw [← hwe] at hw ⊢
  intro k
  induction k with
  | zero =>
    intro i fuel I hi hf h9 h193 h10 h11
    obtain ⟨f, rfl⟩ : ∃ n, fuel = n + 1 := ⟨fuel - 1, by omega⟩
    refine ⟨I, ?_, fun _ _ _ => rfl, by rw [h10, show i = len by omega], by rw [h11, show i = len by omega]⟩
    unfold gX9_choose_L12
    rw [if_neg (by rw [iZ_lt (by omega) (by omega) (by omega) (by omega)]; omega)]
  | succ k ih =>
    intro i fuel I hi hf h9 h193 h10 h11
    obtain ⟨f, rfl⟩ : ∃ n, fuel = n + 1 := ⟨fuel - 1, by omega⟩
    have hci := hc i (by omega)
    have hwi : w i = wM t (c i) := by rw [hwe]; show (if i < len then _ else 0) = _; rw [if_pos (by omega)]
    obtain ⟨r1, r2, r3, r4⟩ := bst_r (f0 := f0) hw i (by omega)
    have ev : gmax (iZ (c i : Nat)) (iZ (t : Int) - iZ (c i : Nat)) = iZ (w i : Nat) := by
      rw [iZ_sub, gmax_Z (by omega) (by omega) (by omega) (by omega), hwi]
      congr 1
      unfold wM
      split <;> omega
    have hwl := hw i
    have upd : (bst f0 w i).1 = -1 ∨ (w i : Int) < (bst f0 w i).2 → ∃ I', gX9_choose_L12 188 (iZ (f0 : Int)) (iZ (len : Int)) f (iZ ((i + 1 : Nat) : Int)) (mkS X (gup (gup I 188 10 (iZ ((f0 + i : Nat) : Int))) 188 11 (iZ (w i : Nat))) J v) = some ((), mkS X I' J v) ∧ (∀ a k, (a ≠ 188 ∨ (k ≠ 10 ∧ k ≠ 11)) → I' a k = I a k) ∧ I' 188 10 = iZ (bst f0 w len).1 ∧ I' 188 11 = iZ (bst f0 w len).2 := by
      intro hq
      have eb : bst f0 w (i + 1) = (((f0 + i : Nat) : Int), (w i : Int)) := by
        show (if (bst f0 w i).1 = -1 ∨ (w i : Int) < (bst f0 w i).2 then _ else _) = _
        rw [if_pos hq]
      obtain ⟨I', a1, a2, a3, a4⟩ := ih (i + 1) f (gup (gup I 188 10 (iZ ((f0 + i : Nat) : Int))) 188 11 (iZ (w i : Nat))) (by omega) (by omega) (by rw [gup_k (by decide), gup_k (by decide)]; exact h9) (fun j hj => by rw [gup_r (by decide), gup_r (by decide)]; exact h193 j hj) (by rw [gup_k (by decide), gup_s, eb]) (by rw [gup_s, eb])
      refine ⟨I', a1, fun a k x => ?_, a3, a4⟩
      rw [a2 a k x]
      rcases x with x | x
      · rw [gup_r x, gup_r x]
      · rw [gup_k x.2, gup_k x.1]
    unfold gX9_choose_L12
    rw [if_pos (by rw [iZ_lt (by omega) (by omega) (by omega) (by omega)]; omega)]
    simp only [bO, o188, h9, o188R, gjn_eq, glet_eq]
    rw [if_pos (by rw [cR_lt (by omega) (by omega) (by decide)]; omega), a193 _ _ _ _ _ (show i < 366 by omega), h193 i (by omega)]
    simp only [bO, ev, h10, h11, aL, iZ_add]
    rw [show (f0 : Int) + (i : Int) = ((f0 + i : Nat) : Int) by omega, show (i : Int) + 1 = ((i + 1 : Nat) : Int) by omega]
    by_cases c1 : (bst f0 w i).1 = -1
    · rw [if_pos (by rw [c1]; rfl)]
      exact upd (Or.inl c1)
    · rw [if_neg (by rw [cM_eq (by omega) (by omega)]; exact c1)]
      by_cases c2 : (w i : Int) < (bst f0 w i).2
      · rw [if_pos (by rw [iZ_lt (by omega) (by omega) (by omega) (by omega)]; exact c2)]
        exact upd (Or.inr c2)
      · rw [if_neg (by rw [iZ_lt (by omega) (by omega) (by omega) (by omega)]; exact c2)]
        have eb : bst f0 w (i + 1) = bst f0 w i := by
          show (if (bst f0 w i).1 = -1 ∨ (w i : Int) < (bst f0 w i).2 then _ else _) = _
          rw [if_neg (fun z => z.elim c1 c2)]
        exact ih (i + 1) f I (by omega) (by omega) h9 h193 (by rw [eb]; exact h10) (by rw [eb]; exact h11)
theorem c_fill193 : ∀ (k i fuel : Nat) (I : Nat → Nat → Int32), i + k = 366 → k < fuel → ∃ I', gJ7_fill_53178_L5 193 0 (iZ 366) fuel (iZ (i : Int)) (mkS X I J v) = some ((), mkS X I' J v) ∧ frX 193 I I' ∧ (∀ j, j < i → I' 193 j = I 193 j) ∧ ∀ j, i ≤ j → j < 366 → I' 193 j = 0 := by
  intro k
  induction k with
  | zero =>
    intro i fuel I hi hf
    obtain ⟨f, rfl⟩ : ∃ n, fuel = n + 1 := ⟨fuel - 1, by omega⟩
    refine ⟨I, ?_, frX_r _ I, fun _ _ => rfl, fun j a b => by omega⟩
    unfold gJ7_fill_53178_L5
    rw [if_neg (by rw [iZ_lt (by omega) (by omega) (by omega) (by omega)]; omega)]
  | succ k ih =>
    intro i fuel I hi hf
    obtain ⟨f, rfl⟩ : ∃ n, fuel = n + 1 := ⟨fuel - 1, by omega⟩
    obtain ⟨I', a1, a2, a3, a4⟩ := ih (i + 1) f (gup I 193 i 0) (by omega) (by omega)
    refine ⟨I', ?_, frX_t frX_g a2, fun j hj => (a3 j (by omega)).trans (gup_k (by omega)), fun j h1 h2 => ?_⟩
    · unfold gJ7_fill_53178_L5
      rw [if_pos (by rw [iZ_lt (by omega) (by omega) (by omega) (by omega)]; omega), b193 _ _ _ _ _ _ (show i < 366 by omega)]
      simp only [bO, gnar_2, aL]
      rw [show (i : Int) + 1 = ((i + 1 : Nat) : Int) by omega]
      exact a1
    · by_cases c : j = i
      · rw [c, a3 i (by omega), gup_s]
      · exact a4 j (by omega) h2
end gCo
