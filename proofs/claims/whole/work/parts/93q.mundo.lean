/-! UNDO of the reference -/
def smB (B B' : Bk) : Prop := B'.nR = B.nR ∧ B'.nS = B.nS ∧ B'.nm = B.nm ∧ B'.cs = B.cs ∧ ∀ r, B'.rl r = (B.rl r).at0 (B'.rl r).b
theorem smB_r (B : Bk) : smB B B := ⟨rfl, rfl, rfl, rfl, fun _ => rfl⟩
theorem smB_set {B : Bk} {r n d : Nat} : smB B (B.setR r ((B.rl r).at0 d) n) := by
  refine ⟨rfl, rfl, rfl, rfl, fun k => ?_⟩
  by_cases c : k = r
  · rw [c, setR_rl.1]; rfl
  · rw [(setR_o c).1]; rfl
theorem jE_same {I : Nat → Nat → Int32} {q : Nat} {σ σ' : St} (h : jE I q σ σ') : smB σ.1 σ'.1 := by
  rcases h with ⟨t0, r, n, t1, t2, t3, t4, t5, t6⟩ | ⟨t0, r, n, t1, t2, t4, t5, t6⟩ | ⟨t0, l, t1, t2, t3⟩
  · rw [t6]
    exact smB_set (d := (σ.1.rl r).b)
  · rw [t6]
    exact smB_set
  · rw [t3]
    exact smB_r _
section gMu
variable {X : Nat × (Nat → Int32)} {v : Vt} {J : Nat → Nat → Int64} {S : Nat → St} {un : Nat}
theorem mBk_same {I I' : Nat → Nat → Int32} {B B' : Bk} (h : mBk I B) (hs : smB B B') (f : ∀ a k, a ≠ 281 → a ≠ 283 → (a ≠ 267 ∨ (k ≠ 44 ∧ k ≠ 45)) → I' a k = I a k) (h2 : ∀ r, r < B'.nR → I' 281 (2 * r) = iZ (B'.stp r : Nat) ∧ I' 281 (2 * r + 1) = iZ ((B'.rl r).b : Nat)) : mBk I' B' := by
  obtain ⟨q1, q2, q3, q4, q5⟩ := h
  obtain ⟨s1, s2, s3, s4, s5⟩ := hs
  have g : ∀ k, I' 276 k = I 276 k := fun k => f 276 k (by decide) (by decide) (Or.inl (by decide))
  refine ⟨by rw [g, s1]; exact q1, by rw [g, s2]; exact q2, fun r hr => ?_, fun s hs => ?_, ?_⟩
  · have hr' : r < B.nR := by rw [s1] at hr; exact hr
    obtain ⟨x, y, z⟩ := q3 r hr'
    obtain ⟨w1, w2⟩ := h2 r hr
    refine ⟨?_, w1, by rw [g, s3]; exact z⟩
    obtain ⟨x1, x2, x3⟩ := x
    rw [s5 r]
    unfold mRl
    simp only [g]
    exact ⟨x1, w2, x3⟩
  · rw [s2] at hs
    obtain ⟨x, y, z, w⟩ := q4 s hs
    rw [s4, s3]
    exact ⟨mseg_fr (fun k => f 278 k (by decide) (by decide) (Or.inl (by decide))) x, by rw [g]; exact y, by rw [g]; exact z, by rw [g]; exact w⟩
  · rcases q5 with q | q
    · exact Or.inl ⟨by rw [f 267 23 (by decide) (by decide) (Or.inr (by decide))]; exact q.1, by rw [f 267 17 (by decide) (by decide) (Or.inr (by decide))]; exact q.2.1, calOK_Y q.2.2 (fun a k x y => f a k (by omega) (by omega) (Or.inl (by omega)))⟩
    · exact Or.inr ⟨by rw [f 267 23 (by decide) (by decide) (Or.inr (by decide))]; exact q.1, by rw [s1]; exact q.2.1, by rw [s2]; exact q.2.2⟩
theorem mq_undoS {I : Nat → Nat → Int32} (ok1 : BkOK (S 1).1) (hs : smB (S 0).1 (S 1).1) (hB : mBk I (S 0).1) (hH : hN I S (un + 1)) (hR : ∀ k, (S k).1.nR ≤ 6) : ∃ I', fX12_undo 267 (mkS X I J v) = some (1, mkS X I' J v) ∧ (∀ r k, r ≠ 281 → r ≠ 283 → (r ≠ 267 ∨ (k ≠ 44 ∧ k ≠ 45)) → I' r k = I r k) ∧ mBk I' (S 1).1 ∧ mLg I' (S 1).1 (S 1).2.1 (S 1).2.2 ∧ hN I' (fun k => S (k + 1)) un := by
  obtain ⟨I', a1, a2, a3, a4, a5⟩ := m_undoS (X := X) (v := v) (J := J) hH hR
  refine ⟨I', a1, a2, mBk_same hB hs a2 a4.1, ⟨fun w hw => Or.inl (a5 w (by have := ok1.1; have := ok1.2.1; unfold kn at hw; omega)), a4.2⟩, a3⟩
end gMu
