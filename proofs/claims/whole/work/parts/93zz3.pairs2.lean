/-! BOTH ANSWER ALIKE: what changes nothing -/
theorem pair_s {fc fm : gH → Option (Int32 × gH)} (h : ∀ (X : Nat × (Nat → Int32)) (I : Nat → Nat → Int32) (J : Nat → Nat → Int64) (v : Vt), rel I J v → ∃ x, fc (mkS X I J v) = some (x, mkS X I J v) ∧ fm (mkS X I J v) = some (x, mkS X I J v)) : alike fc fm := by
  intro X I J v hr
  obtain ⟨x, h1, h2⟩ := h X I J v hr
  exact ⟨x, I, J, v, I, J, h1, fun _ => rfl, h2, hr⟩
theorem p_rule (x y : Int32) : alike (fX11_rule 50 x y) (fX12_rule 267 x y) := by
  obtain ⟨z, z1, z2, rfl⟩ := iZ_of x
  obtain ⟨d, d1, d2, rfl⟩ := iZ_of y
  refine pair_s (fun X I J v ⟨b, b', S, un, g, c, m, s, o⟩ => ⟨_, cq_rule z1 z2 d1 d2 c.1 c.2.2.2.1 (g 0).1 c.2.2.2.2.2.2.1, mq_rule z1 z2 d1 d2 (g 0).1 m.1⟩)
theorem p_letter (x y : Int32) : alike (fX11_letter 50 x y) (fX12_letter 267 x y) := by
  obtain ⟨z, z1, z2, rfl⟩ := iZ_of x
  obtain ⟨d, d1, d2, rfl⟩ := iZ_of y
  refine pair_s (fun X I J v ⟨b, b', S, un, g, c, m, s, o⟩ => ⟨_, cq_letter z1 z2 d1 d2 c.1 c.2.2.2.1 (g 0).1 c.2.2.2.2.2.2.1, mq_letter z1 z2 d1 d2 (g 0).1 m.1⟩)
theorem p_has (x : Int32) : alike (fX11_has 50 x) (fX12_has 267 x) := by
  obtain ⟨z, z1, z2, rfl⟩ := iZ_of x
  refine pair_s (fun X I J v ⟨b, b', S, un, g, c, m, s, o⟩ => ?_)
  have e1 : I 188 8 = I 267 36 := by
    rcases s with ⟨h1, h2⟩ | ⟨n, r, sd, so, a1, a2, a3, a4, a5, a6⟩
    · rw [h1, h2]
    · rw [a4.2.1, a5.2.1]
  have e2 : I 143 5 = I 267 44 := by
    obtain ⟨q, q1, q2, q3, q4, q5⟩ := c.2.2.2.2.2.2.2.2
    obtain ⟨p, p1, p2, p3, p4, p5⟩ := m.2.2
    rw [q3, p3]
  have c1 := cq_has (X := X) (J := J) (v := v) z1 z2 c.1 c.2.2.2.1 c.2.2.2.2.2.2.1 c.2.2.2.2.2.2.2.1
  rw [e1, e2] at c1
  exact ⟨_, c1, mq_has z1 z2 (g 0).1 m.1 m.2.1 (g 0).2.2⟩
theorem p_fault (x : Int32) : alike (fX11_fault 50 x) (fX12_fault 267 x) := by
  refine pair_s (fun X I J v ⟨b, b', S, un, g, c, m, s, o⟩ => ?_)
  have c1 := c_fault (X := X) (I := I) (J := J) (v := v) (x := x)
  rw [o.2.2.1.1, o.2.2.1.2] at c1
  exact ⟨_, c1, m_fault⟩
theorem p_status (x : Int32) : alike (fX11_status 50 x) (fX12_status 267 x) := by
  obtain ⟨z, z1, z2, rfl⟩ := iZ_of x
  refine pair_s (fun X I J v ⟨b, b', S, un, g, c, m, s, o⟩ => ?_)
  have c1 := c_status (X := X) (I := I) (J := J) (v := v) z1 z2
  have c2 := m_status (X := X) (I := I) (J := J) (v := v) z1 z2
  by_cases q : 0 ≤ z ∧ z ≤ 5
  · rw [if_pos q] at c1 c2
    rw [o.2.1 z.toNat (by omega)] at c1
    exact ⟨_, c1, c2⟩
  · rw [if_neg q] at c1 c2
    exact ⟨_, c1, c2⟩
theorem p_period (x y w : Int32) : alike (fX11_period 50 x y w) (fX12_period 267 x y w) := by
  obtain ⟨z, z1, z2, rfl⟩ := iZ_of x
  obtain ⟨d, d1, d2, rfl⟩ := iZ_of y
  obtain ⟨e, e1, e2, rfl⟩ := iZ_of w
  intro X I J v ⟨b, b', S, un, g, c, m, s, o⟩
  have hb := bk_r c.1
  have ok := (g 0).1
  obtain ⟨I1, a1, a2⟩ := cq_period (X := X) (J := J) (v := v) z1 z2 d1 d2 e1 e2 c.1 c.2.2.2.1 ok c.2.2.2.2.2.2.1
  have f1 : ∀ a k, 267 ≤ a → I1 a k = I a k := fun a k q => a2 a k (by omega) (by omega) (by omega)
  have m1 := mH_c m g f1
  obtain ⟨I2, b1, b2⟩ := mq_period (X := X) (I := I1) (J := J) (v := v) z1 z2 d1 d2 e1 e2 ok m1.1
  refine ⟨_, I1, J, v, I2, J, a1, fun k => a2 1 k (by omega) (by omega) (by omega), b1, b, b', S, un, g, ?_, ⟨mBk_fr m1.1 (fun k => b2 276 k (by decide)) (fun k => b2 278 k (by decide)) (fun k _ => b2 281 k (by decide)) ok.1 (b2 267 23 (by decide)) (b2 267 17 (by decide)) (fun r k p q => b2 r k (by omega)), ⟨fun w hw => ?_, fun t ht => ?_⟩, hN_fr m1.2.2 (b2 267 45 (by decide)) (b2 267 44 (by decide)) (fun k => b2 292 k (by decide))⟩, ?_, ?_⟩
  · obtain ⟨h1, h2, h3, h4, h5, h6, h7, h8, h9⟩ := c
    have f : ∀ a k, ¬ (57 ≤ a ∧ a ≤ 59) → a ≠ 284 → I2 a k = I a k := fun a k p q => by rw [b2 a k q, a2 a k (by omega) (by omega) (by omega)]
    exact ⟨h1, h2, h3, h4, h5, h6, cBk_fr h7 ok.1 (fun r k x y => f r k (by omega) (by omega)), cLg_fr h8 ok.1 ok.2.1 (f 60 7 (by decide) (by decide)) (fun r k x y => f r k (by omega) (by omega)) (fun _ _ _ => rfl), jN_fr h9 (fun r k x y => f r k (by omega) (by omega))⟩
  · rw [b2 283 w (by decide)]
    rcases m1.2.1.1 w hw with q | q
    · exact Or.inl q
    · exact Or.inr ⟨q.1, fun e he => by rw [b2 282 _ (by decide)]; exact q.2 e he⟩
  · obtain ⟨x, y⟩ := m1.2.1.2 t ht
    exact ⟨mrow_21 x (fun j _ _ => b2 281 j (by decide)), mrow_21 y (fun j _ _ => b2 281 j (by decide))⟩
  · exact sH_fr s (fun a k q => by rw [b2 a k (by omega), a2 a k (by omega) (by omega) (by omega)]) (by rw [b2 267 36 (by decide), f1 267 36 (by decide)]) (by rw [b2 267 37 (by decide), f1 267 37 (by decide)])
  · exact oH_fr o (fun a k q => by rw [b2 a k (by omega), a2 a k (by omega) (by omega) (by omega)]) (fun k q => by rw [b2 267 k (by decide), f1 267 k (by decide)]) rfl
