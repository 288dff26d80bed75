/-! SEE, EVERY, FROM alike -/
section gP8
variable {v : Vt} {I I1 I2 I' : Nat → Nat → Int32} {J J1 J2 : Nat → Nat → Int64} {b b' : Nat} {S S' : Nat → St} {un un' : Nat} {B B' : Bk} {A L : Nat → Nat → Bool}
theorem mLg_f (h : mLg I B A L) (f : ∀ a k, (281 ≤ a ∧ a ≤ 283) → I' a k = I a k) : mLg I' B A L := by
  refine ⟨fun w hw => ?_, fun t ht => ?_⟩
  · rw [f 283 w (by omega)]
    rcases h.1 w hw with q | q
    · exact Or.inl q
    · exact Or.inr ⟨q.1, fun e he => by rw [f 282 _ (by omega)]; exact q.2 e he⟩
  · obtain ⟨x, y⟩ := h.2 t ht
    exact ⟨mrow_21 x (fun j _ _ => f 281 j (by omega)), mrow_21 y (fun j _ _ => f 281 j (by omega))⟩
theorem gS_C {τ : St} (g : gS S) (h1 : BkOK τ.1) (h2 : gdM τ.1.nS τ.2) : gS (sC τ S) := fun k => by
  cases k with
  | zero => exact ⟨h1, h2⟩
  | succ k => exact g k
/-- both counted a refusal -/
theorem rel_cnt {k : Nat} (hk : k < 6) (h : rel I J v) (f : ∀ a j, a ≠ 196 → a ≠ 269 → I' a j = I a j) (f1 : ∀ j, I' 196 j = gup I 196 k (I 196 k + 1) 196 j) (f2 : ∀ j, I' 269 j = gup I 269 k (I 269 k + 1) 269 j) : rel I' J v := by
  have e : I' = gup (gup I 196 k (I 196 k + 1)) 269 k (gup I 196 k (I 196 k + 1) 269 k + 1) := by
    funext a j
    by_cases x : a = 269
    · subst x
      rw [f2 j, gup_r (f := I) (r := 196) (by decide)]
      by_cases y : j = k
      · rw [y, gup_s, gup_s]
      · rw [gup_k y, gup_k y, gup_r (by decide)]
    · by_cases y : a = 196
      · subst y
        rw [f1 j, gup_r x]
      · rw [f a j y x, gup_r x, gup_r y]
  rw [e]
  exact rel_ref hk h
theorem rel_cut (h : rel I J v) : rel (gup (gup I 51 1 0) 267 1 0) J v := by
  obtain ⟨bb, b', S, un, g, hc, m, s, o⟩ := h
  have hb := bk_r hc.1
  have f : ∀ r k, r ≠ 51 → (r ≠ 267 ∨ k ≠ 1) → gup (gup I 51 1 0) 267 1 0 r k = I r k := fun r k x y => by
    rcases y with y | y
    · rw [gup_r y, gup_r x]
    · rw [gup_k y, gup_r x]
  have ht : rTape (gup (gup I 51 1 0) 267 1 0) 0 := ⟨Nat.zero_le _, by rw [gup_r (by decide), gup_s]; rfl, by rw [gup_s]; rfl, fun j hj => absurd hj (Nat.not_lt_zero j)⟩
  exact ⟨bb, b', S, un, g, cH_f hc g (fun r k w => f r k (by omega) (by omega)) (fun _ _ _ => rfl), mH_g m g (fun r k w => f r k (by omega) (by omega)), sH_fr s (fun r k w => f r k (by omega) (by omega)) (f 267 36 (by decide) (by decide)) (f 267 37 (by decide) (by decide)), oH_g o ⟨_, ht⟩ (calInv_fr o.2.2.2.2.1 (fun r k w => f r k (by omega) (by omega))) (fun r k w => f r k (by omega) (by omega)) rfl⟩
theorem sH_act (h : sH I v b B) (n : B'.nR = B.nR) (f : ∀ a k, ((189 ≤ a ∧ a ≤ 195) ∨ (a = 188 ∧ k ≠ 7) ∨ a = 287 ∨ a = 288) → I' a k = I a k) (f1 : I' 267 36 = I 267 36) (f2 : I' 267 37 = I 267 37) (w : I' 188 7 = 0 ∨ (I' 188 7 = I 188 7 ∧ ∀ r, B'.rl r = B.rl r)) : sH I' v b B' := by
  rcases h with ⟨h1, h2⟩ | ⟨m, r, sd, so, a1, a2, a3, a4, a5, a6⟩
  · exact Or.inl ⟨by rw [f 188 8 (by omega)]; exact h1, by rw [f1]; exact h2⟩
  · refine Or.inr ⟨m, r, sd, so, a1, by omega, a3, ⟨a4.1, by rw [f 188 8 (by omega)]; exact a4.2.1, fun j hj => ?_⟩, ⟨a5.1, by rw [f1]; exact a5.2.1, by rw [f2]; exact a5.2.2.1, fun j hj => ?_⟩, ?_⟩
    · obtain ⟨x, y, z⟩ := a4.2.2 j hj
      exact ⟨x, by rw [f 191 j (by omega)]; exact y, by rw [f 192 j (by omega)]; exact z⟩
    · obtain ⟨x, y, z⟩ := a5.2.2.2 j hj
      exact ⟨x, by rw [f 287 j (by omega)]; exact y, by rw [f 288 j (by omega)]; exact z⟩
    · rcases w with w | ⟨w1, w2⟩
      · exact Or.inl w
      · rw [w1, w2 r]
        rcases a6 with q | ⟨q1, q2, q3, q4, q5⟩
        · exact Or.inl q
        · exact Or.inr ⟨q1, by rw [f 188 9 (by omega)]; exact q2, ⟨by rw [f 194 1 (by omega)]; exact q3.1, fun i hi hF => by rw [f 195 _ (by omega)]; exact q3.2 i hi hF⟩, by rw [f 188 10 (by omega)]; exact q4, by rw [f 188 11 (by omega)]; exact q5⟩
/-- an act was done by both -/
theorem rel_act (c : cH I J v b b' S un) (s : sH I v b (S 0).1) (x3 : jN I1 S' un') (g' : gS S') (x1 : cBk I1 b (S' 0).1) (x2 : cLg I1 J1 (S' 0).1 (S' 0).2.1 (S' 0).2.2) (y1 : mBk I2 (S' 0).1) (y2 : mLg I2 (S' 0).1 (S' 0).2.1 (S' 0).2.2) (y3 : hN I2 S' un') (n : (S' 0).1.nR = (S 0).1.nR) (f1 : ∀ a k, a < 267 → I2 a k = I1 a k) (fJ : ∀ a, a < 267 → J2 a = J1 a) (f2 : ∀ a k, ((189 ≤ a ∧ a ≤ 195) ∨ (a = 188 ∧ k ≠ 7)) → I1 a k = I a k) (f3 : ∀ a k, ((a = 267 ∧ (k = 36 ∨ k = 37)) ∨ a = 287 ∨ a = 288) → I2 a k = I a k) (w : I1 188 7 = 0 ∨ (I1 188 7 = I 188 7 ∧ ∀ r, (S' 0).1.rl r = (S 0).1.rl r)) (o : oH I2 J2) : rel I2 J2 v := by
  obtain ⟨h1, h2, h3, h4, h5, h6, -, -, -⟩ := c
  have c1 : cH I1 J1 v b b' S' un' := ⟨h1, h2, h3, h4, h5, h6, x1, x2, x3⟩
  refine ⟨b, b', S', un', g', cH_m c1 g' f1 fJ, ⟨y1, y2, y3⟩, sH_act s n (fun a k q => ?_) (f3 267 36 (by omega)) (f3 267 37 (by omega)) ?_, o⟩
  · by_cases z : a < 267
    · rw [f1 a k z, f2 a k (by omega)]
    · exact f3 a k (by omega)
  · rw [f1 188 7 (by decide)]; exact w
end gP8
theorem p_see (x : Int32) : alike (fX11_see 50 x) (fX12_see 267 x) := by
  obtain ⟨z, z1, z2, rfl⟩ := iZ_of x
  intro X I J v hr
  have hr0 := hr
  obtain ⟨b, b', S, un, g, c, m, s, o⟩ := hr
  have hb := bk_r c.1
  have ok := (g 0).1
  obtain ⟨t, ht⟩ := o.1
  obtain ⟨T, cT1, mT1⟩ := rTape_T ht
  rcases cq_see (X := X) (J := J) z1 z2 c.1 c.2.2.2.1 ok c.2.2.2.2.2.2.1 cT1 ht.2.1 with ⟨n1, a1⟩ | ⟨n1, I1, a1, a2, a3, a4, a5, a6⟩
  · obtain ⟨Ic, hIc⟩ : ∃ Ic, Ic = gup (gup I 51 1 0) 196 1 (I 196 1 + 1) := ⟨_, rfl⟩
    rw [← hIc] at a1
    have f1 : ∀ a k, 267 ≤ a → Ic a k = I a k := fun a k q => by rw [hIc, gup_r (by omega), gup_r (by omega)]
    have m1 := mH_c m g f1
    rcases mq_see (X := X) (J := J) (v := v) z1 z2 ok m1.1 (T := T) (n := t) ⟨mT1.1, fun k hk => by rw [f1 268 k (by decide)]; exact mT1.2 k hk⟩ (by rw [f1 267 1 (by decide)]; exact ht.2.2.1) with ⟨_, b1⟩ | ⟨n2, _⟩
    · refine ⟨_, Ic, J, v, _, J, a1, fun k => by rw [hIc, gup_r (by decide), gup_r (by decide)], b1, rel_cnt (k := 1) (by decide) (rel_cut hr0) (fun a j p q => ?_) (fun j => ?_) (fun j => ?_)⟩
      · rw [gup_r q]
        by_cases w : a = 267
        · subst w
          by_cases w2 : j = 1
          · rw [w2, gup_s, gup_s]
          · rw [gup_k w2, gup_k w2, hIc, gup_r p]
        · rw [gup_r w, gup_r w, hIc, gup_r p]
      · have e : gup (gup I 51 1 0) 267 1 0 196 1 = I 196 1 := by rw [gup_r (by decide), gup_r (by decide)]
        rw [gup_r (by decide), gup_r (by decide), hIc, e]
        by_cases w : j = 1
        · rw [w, gup_s, gup_s]
        · rw [gup_k w, gup_k w, gup_k w, gup_k w, gup_k w]
      · have e : gup (gup I 51 1 0) 267 1 0 269 1 = I 269 1 := by rw [gup_r (by decide), gup_r (by decide)]
        rw [e, f1 269 1 (by decide)]
        by_cases w : j = 1
        · rw [w, gup_s, gup_s]
        · rw [gup_k w, gup_k w, gup_k w, gup_k w, gup_k w, f1 269 j (by decide)]
    · exact absurd n2 n1
  · have f1 : ∀ a k, 267 ≤ a → I1 a k = I a k := fun a k q => a2 a k (by omega) (by omega) (by omega) (by omega)
    have m1 := mH_c m g f1
    rcases mq_see (X := X) (J := J) (v := (v.1, v.2.1, v.2.2.1, v.2.2.2.1, v.2.2.2.2.1, b + 5 + 5 * z.toNat)) z1 z2 ok m1.1 (T := T) (n := t) ⟨mT1.1, fun k hk => by rw [f1 268 k (by decide)]; exact mT1.2 k hk⟩ (by rw [f1 267 1 (by decide)]; exact ht.2.2.1) with ⟨n2, _⟩ | ⟨_, I2, b1, b2, b3, b4, b5, b6⟩
    · exact absurd n1 n2
    · obtain ⟨s1, s2, s3, s4⟩ := seeB_n n1.2
      have f2 : ∀ a k, a < 267 → I2 a k = I1 a k := fun a k q => b2 a k (by omega) (by omega) (by omega)
      have f : ∀ a k, ¬ (191 ≤ a ∧ a ≤ 192) → a ≠ 188 → a ≠ 51 → a ≠ 287 → a ≠ 288 → (a ≠ 267 ∨ (k ≠ 1 ∧ k ≠ 36 ∧ k ≠ 37)) → I2 a k = I a k := fun a k p1 p2 p3 p4 p5 p6 => by rw [b2 a k p4 p5 p6, a2 a k (by omega) (by omega) (by omega) (by omega)]
      have cv : cH I J (v.1, v.2.1, v.2.2.1, v.2.2.2.1, v.2.2.2.2.1, b + 5 + 5 * z.toNat) b b' S un := c
      refine ⟨_, I1, J, _, I2, J, a1, fun k => a2 1 k (by omega) (by omega) (by omega) (by omega), b1, b, b', S, un, g, cH_f cv g (fun a k q => f a k (by omega) (by omega) (by omega) (by omega) (by omega) (by omega)) (fun _ _ _ => rfl), mH_g m g (fun a k q => f a k (by omega) (by omega) (by omega) (by omega) (by omega) (by omega)), Or.inr ⟨t / 3, z.toNat, sDay T, fun k => decide (T (3 * k + 2) = 1), by omega, by omega, rfl, ⟨by omega, ?_, fun j hj => ⟨(s4 j hj).1, ?_, ?_⟩⟩, ⟨by omega, b4, ?_, fun j hj => ⟨(s4 j hj).1, (b6 j hj).1, (b6 j hj).2⟩⟩, Or.inl ?_⟩, oH_g o ⟨0, Nat.zero_le _, ?_, ?_, fun j hj => absurd hj (Nat.not_lt_zero j)⟩ (calInv_fr o.2.2.2.2.1 (fun a k q => f a k (by omega) (by omega) (by omega) (by omega) (by omega) (by omega))) (fun a k q => f a k (by omega) (by omega) (by omega) (by omega) (by omega) (by omega)) rfl⟩
      · rw [f2 188 8 (by decide)]; exact a5
      · rw [f2 191 j (by decide)]; exact (a6 j hj).1
      · rw [f2 192 j (by decide)]; exact (a6 j hj).2
      · rw [b5]; congr 1; omega
      · rw [f2 188 7 (by decide)]; exact a4
      · rw [f2 51 1 (by decide), a3]; rfl
      · rw [b3]; rfl
theorem p_every (x y : Int32) : alike (fX11_every 50 x y) (fX12_every 267 x y) := by
  obtain ⟨z, z1, z2, rfl⟩ := iZ_of x
  obtain ⟨d, d1, d2, rfl⟩ := iZ_of y
  intro X I J v hr
  have hr0 := hr
  obtain ⟨b, b', S, un, g, c, m, s, o⟩ := hr
  have hb := bk_r c.1
  have ok := (g 0).1
  have hR6 : ∀ k, (S k).1.nR ≤ 6 := fun k => (g k).1.1
  rcases cq_every (X := X) z1 z2 d1 d2 c.1 c.2.2.2.1 c.2.2.2.2.2.1 ok c.2.2.2.2.2.2.1 c.2.2.2.2.2.2.2.1 c.2.2.2.2.2.2.2.2 rfl with ⟨n1, a1⟩ | ⟨n1, I1, J1, a1, a2, a3, a4, a5, a6, a7⟩
  · have m1 : mH (gup I 196 3 (I 196 3 + 1)) S un := mH_c m g (fun a k q => gup_r (by omega))
    rcases mq_every (X := X) (J := J) (v := v) z1 z2 d1 d2 ok m1.1 m1.2.1 m1.2.2 rfl hR6 with ⟨_, b1⟩ | ⟨n2, _⟩
    · exact ⟨_, _, _, _, _, _, a1, fun k => gup_r (by decide), b1, rel_ref (by decide) hr0⟩
    · exact absurd n2 n1
  · have f1 : ∀ a k, 267 ≤ a → I1 a k = I a k := fun a k q => a2 a k (by omega) (by omega) (by omega) (by omega) (by omega)
    have m1 := mH_c m g f1
    rcases mq_every (X := X) (J := J1) (v := v) z1 z2 d1 d2 ok m1.1 m1.2.1 m1.2.2 rfl hR6 with ⟨n2, _⟩ | ⟨_, I2, b1, b2, b3, b4, b5⟩
    · exact absurd n1 n2
    · have f2 : ∀ a k, a < 267 → I2 a k = I1 a k := fun a k q => b2 a k (by omega) (by omega) (by omega) (by omega)
      have fM : ∀ a k, 267 ≤ a → a ≠ 281 → a ≠ 283 → (a ≠ 267 ∨ (k ≠ 44 ∧ k ≠ 45)) → a ≠ 292 → I2 a k = I a k := fun a k p p1 p2 p3 p4 => by rw [b2 a k p1 p2 p3 p4, f1 a k p]
      have fC : ∀ a k, (50 ≤ a ∧ a ≤ 53) ∨ a = 196 → I2 a k = I a k := fun a k p => by rw [f2 a k (by omega), a2 a k (by omega) (by omega) (by omega) (by omega) (by omega)]
      refine ⟨_, I1, J1, v, I2, J1, a1, fun k => a2 1 k (by omega) (by omega) (by omega) (by omega) (by omega), b1, rel_act c s a7 (gS_C g (setR_ok ok (ok.2.2.1 z.toNat (by omega)).1 (by omega) (by omega)) (g 0).2) a5 a6 b3 b4 (b5 _) rfl f2 (fun _ _ => rfl) (fun a k p => a2 a k (by omega) (by omega) (by omega) (by omega) (by omega)) (fun a k p => fM a k (by omega) (by omega) (by omega) (by omega) (by omega)) (Or.inr ⟨a3, fun r => ?_⟩) (oH_fr o (fun a k p => ?_) (fun k p => fM 267 k (by decide) (by decide) (by decide) (by omega) (by decide)) (by rw [a4 267 (by decide)]))⟩
      · by_cases q : r = z.toNat
        · rw [q]; exact setR_rl.1
        · exact (setR_o q).1
      · by_cases q : a < 267
        · exact fC a k (by omega)
        · exact fM a k (by omega) (by omega) (by omega) (by omega) (by omega)
theorem p_from (x y : Int32) : alike (fX11_from 50 x y) (fX12_from 267 x y) := by
  obtain ⟨z, z1, z2, rfl⟩ := iZ_of x
  obtain ⟨d, d1, d2, rfl⟩ := iZ_of y
  intro X I J v hr
  have hr0 := hr
  obtain ⟨b, b', S, un, g, c, m, s, o⟩ := hr
  have hb := bk_r c.1
  have ok := (g 0).1
  have hR6 : ∀ k, (S k).1.nR ≤ 6 := fun k => (g k).1.1
  rcases cq_from (X := X) z1 z2 d1 d2 c.1 c.2.2.2.1 c.2.2.2.2.2.1 ok c.2.2.2.2.2.2.1 c.2.2.2.2.2.2.2.1 c.2.2.2.2.2.2.2.2 rfl with ⟨n1, a1⟩ | ⟨n1, I1, J1, a1, a2, a3, a4, a5, a6, a7⟩
  · have m1 : mH (gup I 196 3 (I 196 3 + 1)) S un := mH_c m g (fun a k q => gup_r (by omega))
    rcases mq_from (X := X) (J := J) (v := v) z1 z2 d1 d2 ok m1.1 m1.2.1 m1.2.2 rfl hR6 with ⟨_, b1⟩ | ⟨n2, _⟩
    · exact ⟨_, _, _, _, _, _, a1, fun k => gup_r (by decide), b1, rel_ref (by decide) hr0⟩
    · exact absurd n2 n1
  · have f1 : ∀ a k, 267 ≤ a → I1 a k = I a k := fun a k q => a2 a k (by omega) (by omega) (by omega) (by omega) (by omega)
    have m1 := mH_c m g f1
    rcases mq_from (X := X) (J := J1) (v := v) z1 z2 d1 d2 ok m1.1 m1.2.1 m1.2.2 rfl hR6 with ⟨n2, _⟩ | ⟨_, I2, b1, b2, b3, b4, b5⟩
    · exact absurd n1 n2
    · have f2 : ∀ a k, a < 267 → I2 a k = I1 a k := fun a k q => b2 a k (by omega) (by omega) (by omega) (by omega)
      have fM : ∀ a k, 267 ≤ a → a ≠ 281 → a ≠ 283 → (a ≠ 267 ∨ (k ≠ 44 ∧ k ≠ 45)) → a ≠ 292 → I2 a k = I a k := fun a k p p1 p2 p3 p4 => by rw [b2 a k p1 p2 p3 p4, f1 a k p]
      have fC : ∀ a k, (50 ≤ a ∧ a ≤ 53) ∨ a = 196 → I2 a k = I a k := fun a k p => by rw [f2 a k (by omega), a2 a k (by omega) (by omega) (by omega) (by omega) (by omega)]
      have hz := ok.2.2.1 z.toNat (by omega)
      refine ⟨_, I1, J1, v, I2, J1, a1, fun k => a2 1 k (by omega) (by omega) (by omega) (by omega) (by omega), b1, rel_act c s a7 (gS_C g (setR_ok ok (at0_ok hz.1 (by omega)) hz.2.1 hz.2.2) (g 0).2) a5 a6 b3 b4 (b5 _) rfl f2 (fun _ _ => rfl) (fun a k p => a2 a k (by omega) (by omega) (by omega) (by omega) (by omega)) (fun a k p => fM a k (by omega) (by omega) (by omega) (by omega) (by omega)) (Or.inl a3) (oH_fr o (fun a k p => ?_) (fun k p => fM 267 k (by decide) (by decide) (by decide) (by omega) (by decide)) (by rw [a4 267 (by decide)]))⟩
      by_cases q : a < 267
      · exact fC a k (by omega)
      · exact fM a k (by omega) (by omega) (by omega) (by omega) (by omega)
