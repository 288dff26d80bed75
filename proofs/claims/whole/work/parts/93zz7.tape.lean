/-! FEED, END, DAY, DATE alike -/
section gP7
variable {v : Vt} {I I' : Nat → Nat → Int32} {J J' : Nat → Nat → Int64} {S : Nat → St} {un : Nat}
theorem rTape_fr {t : Nat} (h : rTape I t) (f : ∀ a k, (a = 51 ∨ a = 52 ∨ a = 268 ∨ (a = 267 ∧ k = 1)) → I' a k = I a k) : rTape I' t := by
  obtain ⟨t1, t2, t3, t4⟩ := h
  exact ⟨t1, by rw [f 51 1 (by omega)]; exact t2, by rw [f 267 1 (by omega)]; exact t3, fun j hj => by rw [f 52 j (by omega), f 268 j (by omega)]; exact t4 j hj⟩
theorem calInv_fr (h : calInv I) (f : ∀ a k, ((a = 267 ∧ k = 17) ∨ (271 ≤ a ∧ a ≤ 274)) → I' a k = I a k) : calInv I' := by
  unfold calInv
  rw [f 267 17 (by omega)]
  rcases h with q | q
  · exact Or.inl q
  · exact Or.inr ⟨q.1, calOK_Y q.2 (fun a k x y => f a k (by omega))⟩
theorem oH_g (h : oH I J) (ht : ∃ t, rTape I' t) (hc : calInv I') (f : ∀ a k, (a = 50 ∨ a = 53 ∨ a = 196 ∨ a = 269 ∨ a = 270 ∨ (a = 267 ∧ (k = 7 ∨ k = 8))) → I' a k = I a k) (fJ : J' 267 46 = J 267 46) : oH I' J' := by
  obtain ⟨-, h2, ⟨h3, h4⟩, ⟨z, z1, z2, z3⟩, -, h6⟩ := h
  exact ⟨ht, fun k hk => by rw [f 196 k (by omega), f 269 k (by omega)]; exact h2 k hk, ⟨by rw [f 53 0 (by omega), f 267 7 (by omega)]; exact h3, by rw [f 53 1 (by omega), f 267 8 (by omega)]; exact h4⟩, ⟨z, z1, by rw [f 50 9 (by omega)]; exact z2, by rw [fJ]; exact z3⟩, hc, fun k hk => by rw [f 270 k (by omega)]; exact h6 k hk⟩
theorem mH_laid (h : mH I S un) (hc : calInv I) : mH (laid I) S un := by
  by_cases q : I 267 17 = 1
  · rw [laid_id q]; exact h
  · obtain ⟨⟨b1, b2, b3, b4, b5⟩, h2, h3⟩ := h
    have f : ∀ a k, (a < 271 ∨ 274 < a) → (a ≠ 267 ∨ k ≠ 17) → laid I a k = I a k := fun a k x y => laid_out x y
    have e : I 267 23 = 0 ∧ (S 0).1.nR = 0 ∧ (S 0).1.nS = 0 := by
      rcases b5 with z | z
      · exact absurd z.2.1 q
      · exact z
    refine ⟨⟨by rw [f 276 0 (by omega) (by omega)]; exact b1, by rw [f 276 1 (by omega) (by omega)]; exact b2, fun r hr => by omega, fun s hs => by omega, Or.inr ⟨by rw [f 267 23 (by omega) (by omega)]; exact e.1, e.2⟩⟩, ⟨fun w hw => ?_, fun t ht => ?_⟩, hN_fr h3 (f 267 45 (by omega) (by omega)) (f 267 44 (by omega) (by omega)) (fun k => f 292 k (by omega) (by omega))⟩
    · rw [f 283 w (by omega) (by omega)]
      rcases h2.1 w hw with q | q
      · exact Or.inl q
      · exact Or.inr ⟨q.1, fun e he => by rw [f 282 _ (by omega) (by omega)]; exact q.2 e he⟩
    · obtain ⟨x, y⟩ := h2.2 t ht
      exact ⟨mrow_21 x (fun j _ _ => f 281 j (by omega) (by omega)), mrow_21 y (fun j _ _ => f 281 j (by omega) (by omega))⟩
/-- after the reference laid its days -/
theorem rel_laid (h : rel I J v) : rel (laid I) J v := by
  obtain ⟨b, b', S, un, g, c, m, s, o⟩ := h
  have hb := bk_r c.1
  have f : ∀ a k, (a < 271 ∨ 274 < a) → (a ≠ 267 ∨ k ≠ 17) → laid I a k = I a k := fun a k x y => laid_out x y
  obtain ⟨t, ht⟩ := o.1
  refine ⟨b, b', S, un, g, cH_f c g (fun a k q => f a k (by omega) (by omega)) (fun _ _ _ => rfl), mH_laid m o.2.2.2.2.1, sH_fr s (fun a k q => f a k (by omega) (by omega)) (f 267 36 (by omega) (by omega)) (f 267 37 (by omega) (by omega)), oH_g o ⟨t, rTape_fr ht (fun a k q => f a k (by omega) (by omega))⟩ (Or.inr ⟨(laid_ok o.2.2.2.2.1).2, (laid_ok o.2.2.2.2.1).1⟩) (fun a k q => f a k (by omega) (by omega)) rfl⟩
end gP7
theorem p_day (x y w : Int32) : alike (fX11_day 50 x y w) (fX12_day 267 x y w) := by
  obtain ⟨z, z1, z2, rfl⟩ := iZ_of x
  obtain ⟨d, d1, d2, rfl⟩ := iZ_of y
  obtain ⟨e, e1, e2, rfl⟩ := iZ_of w
  intro X I J v hr
  have hr0 := hr
  obtain ⟨b, b', S, un, g, c, m, s, o⟩ := hr
  exact ⟨_, I, J, v, laid I, J, c_day z1 z2 d1 d2 e1 e2, fun _ => rfl, m_day o.2.2.2.2.1 z1 z2 d1 d2 e1 e2, rel_laid hr0⟩
theorem p_date (x y : Int32) : alike (fX11_date 50 x y) (fX12_date_ 267 x y) := by
  obtain ⟨z, z1, z2, rfl⟩ := iZ_of x
  intro X I J v hr
  have c1 := c_date (X := X) (I := I) (J := J) (v := v) (x := y) z1 z2
  have hr0 := hr
  obtain ⟨b, b', S, un, g, c, m, s, o⟩ := hr
  have hb := bk_r c.1
  by_cases q : 0 ≤ z ∧ z < 14610
  · rw [if_pos q] at c1
    obtain ⟨I1, hI1⟩ : ∃ I1, I1 = almS I z.toNat := ⟨_, rfl⟩
    rw [← hI1] at c1
    have f : ∀ a k, a ≠ 58 → I1 a k = I a k := fun a k h => by rw [hI1]; exact almS_out h
    have hr1 : rel I1 J v := ⟨b, b', S, un, g, cH_f c g (fun a k q => f a k (by omega)) (fun _ _ _ => rfl), mH_c m g (fun a k q => f a k (by omega)), sH_fr s (fun a k q => f a k (by omega)) (f 267 36 (by decide)) (f 267 37 (by decide)), oH_fr o (fun a k q => f a k (by omega)) (fun k _ => f 267 k (by decide)) rfl⟩
    have c2 := m_date_ (X := X) (I := I1) (J := J) (v := v) (x := y) (calInv_fr o.2.2.2.2.1 (fun a k q => f a k (by omega))) z1 z2
    rw [if_pos q] at c2
    exact ⟨_, I1, J, v, _, J, c1, fun k => f 1 k (by decide), c2, rel_laid hr1⟩
  · rw [if_neg q] at c1
    have c2 := m_date_ (X := X) (I := I) (J := J) (v := v) (x := y) o.2.2.2.2.1 z1 z2
    rw [if_neg q] at c2
    exact ⟨_, I, J, v, I, J, c1, fun _ => rfl, c2, hr0⟩
theorem p_feed (a b c d e : Int32) : alike (fX11_feed 50 a b c d e) (fX12_feed 267 a b c d e) := by
  intro X I J v hr
  have hr0 := hr
  obtain ⟨bb, b', S, un, g, hc, m, s, o⟩ := hr
  obtain ⟨t, t1, t2, t3, t4⟩ := o.1
  have hb := bk_r hc.1
  have c1 := c_feed (X := X) (J := J) (v := v) (a := a) (b := b) (c := c) (d := d) (e := e) t2 t1
  by_cases q : t + 20 ≤ 1600
  · rw [if_pos q] at c1
    obtain ⟨I1, hI1⟩ : ∃ I1, I1 = gup (gfill I 52 t 20 (fdC a b c d e)) 51 1 (iZ ((t + 20 : Nat) : Int)) := ⟨_, rfl⟩
    rw [← hI1] at c1
    have e1 : ∀ r k, r ≠ 51 → r ≠ 52 → I1 r k = I r k := fun r k x y => by rw [hI1, gup_r x, gfill_out (Or.inl y)]
    have c2 := m_feed (X := X) (I := I1) (J := J) (v := v) (a := a) (b := b) (c := c) (d := d) (e := e) (t := t) (by rw [e1 267 1 (by decide) (by decide)]; exact t3) t1
    rw [if_pos q] at c2
    obtain ⟨I2, hI2⟩ : ∃ I2, I2 = gup (gfill I1 268 t 20 (fdM a b c d e)) 267 1 (iZ ((t + 20 : Nat) : Int)) := ⟨_, rfl⟩
    rw [← hI2] at c2
    have e2 : ∀ r k, r ≠ 268 → (r ≠ 267 ∨ k ≠ 1) → I2 r k = I1 r k := fun r k x y => by
      rw [hI2]
      rcases y with y | y
      · rw [gup_r y, gfill_out (Or.inl x)]
      · rw [gup_k y, gfill_out (Or.inl x)]
    have f : ∀ r k, r ≠ 51 → r ≠ 52 → r ≠ 268 → (r ≠ 267 ∨ k ≠ 1) → I2 r k = I r k := fun r k x y z w => by rw [e2 r k z w, e1 r k x y]
    have ht : rTape I2 (t + 20) := by
      refine ⟨q, ?_, ?_, fun j hj => ?_⟩
      · rw [e2 51 1 (by decide) (by decide), hI1, gup_s]
      · rw [hI2, gup_s]
      · have x1 : I2 52 j = gfill I 52 t 20 (fdC a b c d e) 52 j := by rw [e2 52 j (by decide) (by omega), hI1, gup_r (by decide)]
        have x2 : I2 268 j = gfill I1 268 t 20 (fdM a b c d e) 268 j := by rw [hI2, gup_r (by decide)]
        rw [x1, x2]
        by_cases w : j < t
        · rw [gfill_out (Or.inr (Or.inl w)), gfill_out (Or.inr (Or.inl w)), e1 268 j (by decide) (by decide)]
          exact t4 j w
        · rw [gfill_in (by omega) (by omega), gfill_in (by omega) (by omega)]
          exact byR_of _
    refine ⟨_, I1, J, v, I2, J, c1, fun k => e1 1 k (by decide) (by decide), c2, bb, b', S, un, g, cH_f hc g (fun r k w => f r k (by omega) (by omega) (by omega) (by omega)) (fun _ _ _ => rfl), mH_g m g (fun r k w => f r k (by omega) (by omega) (by omega) (by omega)), sH_fr s (fun r k w => f r k (by omega) (by omega) (by omega) (by omega)) (f 267 36 (by decide) (by decide) (by decide) (by decide)) (f 267 37 (by decide) (by decide) (by decide) (by decide)), oH_g o ⟨_, ht⟩ (calInv_fr o.2.2.2.2.1 (fun r k w => f r k (by omega) (by omega) (by omega) (by omega))) (fun r k w => f r k (by omega) (by omega) (by omega) (by omega)) rfl⟩
  · rw [if_neg q] at c1
    have c2 := m_feed (X := X) (I := gup I 196 0 (I 196 0 + 1)) (J := J) (v := v) (a := a) (b := b) (c := c) (d := d) (e := e) (t := t) (by rw [gup_r (by decide)]; exact t3) t1
    rw [if_neg q] at c2
    exact ⟨_, _, _, _, _, _, c1, fun k => gup_r (by decide), c2, rel_ref (by decide) hr0⟩
theorem p_end (x : Int32) : alike (fX11_end 50 x) (fX12_end 267 x) := by
  obtain ⟨z, z1, z2, rfl⟩ := iZ_of x
  intro X I J v hr
  have hr0 := hr
  obtain ⟨bb, b', S, un, g, hc, m, s, o⟩ := hr
  obtain ⟨t, t1, t2, t3, t4⟩ := o.1
  have hb := bk_r hc.1
  have c1 := c_end (X := X) (J := J) (v := v) t2 t1 z1 z2
  by_cases q : 0 ≤ z ∧ z ≤ t
  · rw [if_pos q] at c1
    have c2 := m_end (X := X) (I := gup I 51 1 (iZ z)) (J := J) (v := v) (t := t) (by rw [gup_r (by decide)]; exact t3) t1 z1 z2
    rw [if_pos q] at c2
    obtain ⟨n, rfl⟩ : ∃ n : Nat, z = (n : Int) := ⟨z.toNat, by omega⟩
    have f : ∀ r k, r ≠ 51 → (r ≠ 267 ∨ k ≠ 1) → gup (gup I 51 1 (iZ (n : Int))) 267 1 (iZ (n : Int)) r k = I r k := fun r k x y => by
      rcases y with y | y
      · rw [gup_r y, gup_r x]
      · rw [gup_k y, gup_r x]
    have ht : rTape (gup (gup I 51 1 (iZ (n : Int))) 267 1 (iZ (n : Int))) n := by
      refine ⟨by omega, ?_, gup_s, fun j hj => ?_⟩
      · rw [gup_r (by decide), gup_s]
      · rw [f 52 j (by decide) (by omega), f 268 j (by decide) (by omega)]
        exact t4 j (by omega)
    refine ⟨_, _, J, v, _, J, c1, fun k => gup_r (by decide), c2, bb, b', S, un, g, cH_f hc g (fun r k w => f r k (by omega) (by omega)) (fun _ _ _ => rfl), mH_g m g (fun r k w => f r k (by omega) (by omega)), sH_fr s (fun r k w => f r k (by omega) (by omega)) (f 267 36 (by decide) (by decide)) (f 267 37 (by decide) (by decide)), oH_g o ⟨_, ht⟩ (calInv_fr o.2.2.2.2.1 (fun r k w => f r k (by omega) (by omega))) (fun r k w => f r k (by omega) (by omega)) rfl⟩
  · rw [if_neg q] at c1
    have c2 := m_end (X := X) (I := gup I 196 0 (I 196 0 + 1)) (J := J) (v := v) (t := t) (by rw [gup_r (by decide)]; exact t3) t1 z1 z2
    rw [if_neg q] at c2
    exact ⟨_, _, _, _, _, _, c1, fun k => gup_r (by decide), c2, rel_ref (by decide) hr0⟩
