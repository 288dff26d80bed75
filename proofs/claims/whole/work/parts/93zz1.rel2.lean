/-! WHAT QUESTIONS LEAVE AS IT WAS -/
section gRe2
variable {v : Vt} {I I1 I' : Nat → Nat → Int32} {J J' : Nat → Nat → Int64} {b b' : Nat} {S : Nat → St} {un : Nat} {B : Bk}
theorem oH_fr (h : oH I J) (f : ∀ a k, (a = 50 ∨ a = 51 ∨ a = 52 ∨ a = 53 ∨ a = 196 ∨ (268 ≤ a ∧ a ≤ 274)) → I' a k = I a k) (f2 : ∀ k, k < 28 → I' 267 k = I 267 k) (fJ : J' 267 46 = J 267 46) : oH I' J' := by
  obtain ⟨⟨t, t1, t2, t3, t4⟩, h2, ⟨h3, h4⟩, ⟨z, z1, z2, z3⟩, h5, h6⟩ := h
  refine ⟨⟨t, t1, by rw [f 51 1 (by omega)]; exact t2, by rw [f2 1 (by decide)]; exact t3, fun j hj => by rw [f 52 j (by omega), f 268 j (by omega)]; exact t4 j hj⟩, fun k hk => by rw [f 196 k (by omega), f 269 k (by omega)]; exact h2 k hk, ⟨by rw [f 53 0 (by omega), f2 7 (by decide)]; exact h3, by rw [f 53 1 (by omega), f2 8 (by decide)]; exact h4⟩, ⟨z, z1, by rw [f 50 9 (by omega)]; exact z2, by rw [fJ]; exact z3⟩, ?_, fun k hk => by rw [f 270 k (by omega)]; exact h6 k hk⟩
  unfold calInv
  rw [f2 17 (by decide)]
  rcases h5 with q | q
  · exact Or.inl q
  · exact Or.inr ⟨q.1, calOK_Y q.2 (fun a k x y => f a k (by omega))⟩
theorem sH_fr (h : sH I v b B) (f : ∀ a k, ((188 ≤ a ∧ a ≤ 195) ∨ a = 287 ∨ a = 288) → I' a k = I a k) (f1 : I' 267 36 = I 267 36) (f2 : I' 267 37 = I 267 37) : sH I' v b B := by
  rcases h with ⟨h1, h2⟩ | ⟨m, r, sd, so, a1, a2, a3, a4, a5, a6⟩
  · exact Or.inl ⟨by rw [f 188 8 (by omega)]; exact h1, by rw [f1]; exact h2⟩
  · refine Or.inr ⟨m, r, sd, so, a1, a2, a3, ⟨a4.1, by rw [f 188 8 (by omega)]; exact a4.2.1, fun j hj => ?_⟩, ⟨a5.1, by rw [f1]; exact a5.2.1, by rw [f2]; exact a5.2.2.1, fun j hj => ?_⟩, ?_⟩
    · obtain ⟨x, y, z⟩ := a4.2.2 j hj
      exact ⟨x, by rw [f 191 j (by omega)]; exact y, by rw [f 192 j (by omega)]; exact z⟩
    · obtain ⟨x, y, z⟩ := a5.2.2.2 j hj
      exact ⟨x, by rw [f 287 j (by omega)]; exact y, by rw [f 288 j (by omega)]; exact z⟩
    · rw [f 188 7 (by omega)]
      rcases a6 with q | ⟨q1, q2, q3, q4, q5⟩
      · exact Or.inl q
      · exact Or.inr ⟨q1, by rw [f 188 9 (by omega)]; exact q2, ⟨by rw [f 194 1 (by omega)]; exact q3.1, fun i hi hF => by rw [f 195 _ (by omega)]; exact q3.2 i hi hF⟩, by rw [f 188 10 (by omega)]; exact q4, by rw [f 188 11 (by omega)]; exact q5⟩
/-- after the class's half of a question about days -/
theorem q_mid (g : gS S) (hm : mH I S un) (f : frC I I1 J J') : mH I1 S un := mH_c hm g (fun a k x => f.1 a k (Or.inl (by omega)))
/-- after a question about days: all stands -/
theorem q_end (g : gS S) (hc : cH I J v b b' S un) (hm : mH I S un) (hs : sH I v b (S 0).1) (ho : oH I J) (f : frC I I1 J J') (hL : cLg I1 J' (S 0).1 (S 0).2.1 (S 0).2.2) (f2 : frY I1 I') (hM : mLg I' (S 0).1 (S 0).2.1 (S 0).2.2) : rel I' J' v := by
  obtain ⟨h1, h2, h3, h4, h5, h6, h7, h8, h9⟩ := hc
  have hb := bk_r h1
  have ok := (g 0).1
  have m1 := q_mid g hm f
  have k1 : ∀ a k, a < 267 → I' a k = I1 a k := fun a k x => f2 a k (by omega) (Or.inl (by omega))
  refine ⟨b, b', S, un, g, ?_, ⟨mBk_Y m1.1 ok.1 f2, hM, hN_fr m1.2.2 (f2 267 45 (by omega) (by omega)) (f2 267 44 (by omega) (by omega)) (fun k => f2 292 k (by omega) (by omega))⟩, ?_, ?_⟩
  · refine cH_m (I := I1) (J := J') ⟨h1, h2, h3, h4, h5, h6, cBk_fr h7 ok.1 (fun r k x y => f.1 r k (Or.inl (by omega))), hL, jN_fr h9 (fun r k x y => f.1 r k (Or.inl (by omega)))⟩ g k1 (fun _ _ => rfl)
  · exact sH_fr hs (fun a k x => by rw [f2 a k (by omega) (Or.inl (by omega)), f.1 a k (Or.inl (by omega))]) (by rw [f2 267 36 (by omega) (by omega), f.1 267 36 (Or.inl (by decide))]) (by rw [f2 267 37 (by omega) (by omega), f.1 267 37 (Or.inl (by decide))])
  · exact oH_fr ho (fun a k x => by rw [f2 a k (by omega) (by omega), f.1 a k (Or.inl (by omega))]) (fun k x => by rw [f2 267 k (by omega) (by omega), f.1 267 k (Or.inl (by decide))]) (by rw [f.2 267 (by omega)])
end gRe2
