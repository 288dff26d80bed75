/-! BOTH REFUSE; seed -/
section gRf
variable {I I' : Nat → Nat → Int32} {J : Nat → Nat → Int64} {v : Vt} {S : Nat → St} {un : Nat}
theorem mH_g (h : mH I S un) (g : gS S) (f : ∀ a k, ((a = 267 ∧ (k = 17 ∨ k = 23 ∨ k = 44 ∨ k = 45)) ∨ (271 ≤ a ∧ a ≤ 274) ∨ a = 276 ∨ a = 278 ∨ (281 ≤ a ∧ a ≤ 283) ∨ a = 292) → I' a k = I a k) : mH I' S un := by
  obtain ⟨h1, h2, h3⟩ := h
  have ok := (g 0).1
  refine ⟨mBk_fr h1 (fun k => f 276 k (by omega)) (fun k => f 278 k (by omega)) (fun k _ => f 281 k (by omega)) ok.1 (f 267 23 (by omega)) (f 267 17 (by omega)) (fun r k x y => f r k (by omega)), ⟨fun w hw => ?_, fun t ht => ?_⟩, hN_fr h3 (f 267 45 (by omega)) (f 267 44 (by omega)) (fun k => f 292 k (by omega))⟩
  · rw [f 283 w (by omega)]
    rcases h2.1 w hw with q | q
    · exact Or.inl q
    · exact Or.inr ⟨q.1, fun e he => by rw [f 282 _ (by omega)]; exact q.2 e he⟩
  · obtain ⟨x, y⟩ := h2.2 t ht
    exact ⟨mrow_21 x (fun j _ _ => f 281 j (by omega)), mrow_21 y (fun j _ _ => f 281 j (by omega))⟩
theorem rel_ref {k : Nat} (hk : k < 6) (h : rel I J v) : rel (gup (gup I 196 k (I 196 k + 1)) 269 k (gup I 196 k (I 196 k + 1) 269 k + 1)) J v := by
  obtain ⟨b, b', S, un, g, c, m, s, o⟩ := h
  have hb := bk_r c.1
  have f : ∀ a j, a ≠ 196 → a ≠ 269 → gup (gup I 196 k (I 196 k + 1)) 269 k (gup I 196 k (I 196 k + 1) 269 k + 1) a j = I a j := fun a j x y => by rw [gup_r y, gup_r x]
  refine ⟨b, b', S, un, g, cH_f c g (fun a j q => f a j (by omega) (by omega)) (fun _ _ _ => rfl), mH_g m g (fun a j q => f a j (by omega) (by omega)), sH_fr s (fun a j q => f a j (by omega) (by omega)) (f 267 36 (by decide) (by decide)) (f 267 37 (by decide) (by decide)), ?_⟩
  obtain ⟨⟨t, t1, t2, t3, t4⟩, h2, ⟨h3, h4⟩, ⟨z, z1, z2, z3⟩, h5, h6⟩ := o
  refine ⟨⟨t, t1, by rw [f 51 1 (by decide) (by decide)]; exact t2, by rw [f 267 1 (by decide) (by decide)]; exact t3, fun j hj => by rw [f 52 j (by decide) (by decide), f 268 j (by decide) (by decide)]; exact t4 j hj⟩, fun i hi => ?_, ⟨by rw [f 53 0 (by decide) (by decide), f 267 7 (by decide) (by decide)]; exact h3, by rw [f 53 1 (by decide) (by decide), f 267 8 (by decide) (by decide)]; exact h4⟩, ⟨z, z1, by rw [f 50 9 (by decide) (by decide)]; exact z2, z3⟩, ?_, fun i hi => by rw [f 270 i (by decide) (by decide)]; exact h6 i hi⟩
  · by_cases q : i = k
    · subst q
      rw [gup_r (by decide), gup_s, gup_s, gup_r (by decide), h2 i hi]
    · rw [gup_r (by decide), gup_k q, gup_k q, gup_r (by decide), h2 i hi]
  · unfold calInv
    rw [f 267 17 (by decide) (by decide)]
    rcases h5 with q | q
    · exact Or.inl q
    · exact Or.inr ⟨q.1, calOK_Y q.2 (fun a j x y => f a j (by omega) (by omega))⟩
end gRf
