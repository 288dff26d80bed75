/-! BOOK alike -/
section gPa
variable {I I' : Nat → Nat → Int32} {B : Bk}
theorem mBk_cal (h : mBk I B) (f1 : ∀ k, I' 276 k = I 276 k) (f2 : ∀ k, I' 278 k = I 278 k) (f3 : ∀ k, I' 281 k = I 281 k) (f4 : I' 267 23 = I 267 23) (hc : mCal I') : mBk I' B := by
  obtain ⟨h1, h2, h3, h4, h5⟩ := h
  refine ⟨by rw [f1]; exact h1, by rw [f1]; exact h2, ?_, ?_, ?_⟩
  · intro r hr
    obtain ⟨a, b, c⟩ := h3 r hr
    exact ⟨mRl_fr a f1 (f3 _), by rw [f3 _]; exact b, by rw [f1]; exact c⟩
  · intro s hs
    obtain ⟨a, b, c, d⟩ := h4 s hs
    exact ⟨mseg_fr f2 a, by rw [f1]; exact b, by rw [f1]; exact c, by rw [f1]; exact d⟩
  · rw [f4]
    rcases h5 with ⟨a, b, c⟩ | q
    · exact Or.inl ⟨a, hc.1, hc.2⟩
    · exact Or.inr q
end gPa
theorem p_book : alike (fX11_book 50) (fX12_book 267) := by
  intro X I J v hr
  obtain ⟨b, b', S, un, g, c, m, s, o⟩ := hr
  have hb := bk_r c.1
  have hb' := bk_r c.2.1
  have hne : b + 34 < b' ∨ b' + 34 < b := by
    have h1 := c.1
    have h2 := c.2.1
    have h3 := c.2.2.1
    unfold isBk at h1 h2
    omega
  have ok := (g 0).1
  have o0 := o
  obtain ⟨⟨t, ht⟩, o2, ⟨o3, o4⟩, ⟨z, w1, w2, w3⟩, o5, o6⟩ := o
  obtain ⟨T, cT1, mT1⟩ := rTape_T ht
  cases he : (pBook T t).2 with
  | ok x =>
    have hok : pOk (pBook T t).2 = true := by rw [he]; rfl
    obtain ⟨I1, J1, a1, a2, a3, a4, a5, a6, a7, a8, a9, a10, a11, a12, a13⟩ := c_bookT (X := X) (J := J) c.2.1 c.2.2.2.2.1 cT1 ht.2.1 hok
    have f1 : ∀ a k, 267 ≤ a → I1 a k = I a k := fun a k q => a2 a k (by omega) (by omega) (by omega) (by omega) (by omega)
    obtain ⟨I2, b1, b2, b3, b4, b5, b6, b7, b8, b9, b10, b11⟩ := m_bookT (X := X) (I := I1) (J := J1) (v := (b', v.1, b', b', 52, 0)) (T := T) (n := t) ⟨mT1.1, fun k hk => by rw [f1 268 k (by decide)]; exact mT1.2 k hk⟩ (by rw [f1 267 1 (by decide)]; exact ht.2.2.1) (fun k hk => by rw [f1 270 k (by decide)]; exact o6 k hk) (calInv_fr o5 (fun a k q => f1 a k (by omega))) hok
    obtain ⟨B, hBe⟩ : ∃ B, (pBook T t).1 = B := ⟨_, rfl⟩
    rw [hBe] at a1 a10 a11 a12 b1 b10 b11
    have f2 : ∀ a k, a < 267 → I2 a k = I1 a k := fun a k q => b2 a k (by omega) (by omega) (by omega)
    have g' : gS (fun _ => ((B, fun _ _ => false, fun _ _ => false) : St)) := fun k => ⟨a12, fun s d q => Bool.false_ne_true q.1, fun s _ _ d => ⟨rfl, rfl⟩⟩
    have hj : jN I1 (fun _ => ((B, fun _ _ => false, fun _ _ => false) : St)) 0 := by
      obtain ⟨q, q1, q2, q3, q4, q5⟩ := c.2.2.2.2.2.2.2.2
      exact ⟨q, q1, by rw [a13]; exact q2, by rw [a7]; rfl, Nat.zero_le _, fun k hk => absurd hk (Nat.not_lt_zero k)⟩
    have hh : hN I2 (fun _ => ((B, fun _ _ => false, fun _ _ => false) : St)) 0 := by
      obtain ⟨q, q1, q2, q3, q4, q5⟩ := m.2.2
      exact ⟨q, q1, by rw [b3 45 (by decide) (by decide) (by decide), f1 267 45 (by decide)]; exact q2, by rw [b9]; rfl, Nat.zero_le _, fun k hk => absurd hk (Nat.not_lt_zero k)⟩
    have c1 : cH I1 J1 (b', v.1, b', b', 52, 0) b' b (fun _ => ((B, fun _ _ => false, fun _ _ => false) : St)) 0 := ⟨c.2.1, c.1, fun q => c.2.2.1 q.symm, rfl, c.2.2.2.1, rfl, a10, a11, hj⟩
    refine ⟨_, I1, J1, _, I2, J1, a1, fun k => a2 1 k (by omega) (by omega) (by omega) (by omega) (by omega), b1, b', b, _, 0, g', cH_m c1 g' f2 (fun _ _ => rfl), ⟨b10, b11, hh⟩, Or.inl ⟨by rw [f2 188 8 (by decide)]; exact a8, b8⟩, ⟨0, Nat.zero_le _, ?_, ?_, fun j hj => absurd hj (Nat.not_lt_zero j)⟩, fun k hk => ?_, ⟨?_, ?_⟩, ⟨z, w1, ?_, ?_⟩, Or.inr ⟨b5.1, b5.2⟩, fun k hk => ?_⟩
    · rw [f2 51 1 (by decide), a4]; rfl
    · rw [b4]; rfl
    · rw [f2 196 k (by decide), a2 196 k (by omega) (by omega) (by omega) (by omega) (by omega), b2 269 k (by decide) (by decide) (by decide), f1 269 k (by decide)]; exact o2 k hk
    · rw [f2 53 0 (by decide), a5, b6]
    · rw [f2 53 1 (by decide), a6, b7]
    · rw [f2 50 9 (by decide), a2 50 9 (by omega) (by omega) (by omega) (by omega) (by omega)]; exact w2
    · rw [a3 267 (by omega)]; exact w3
    · rw [b2 270 k (by decide) (by decide) (by decide), f1 270 k (by decide)]; exact o6 k hk
  | error e =>
    obtain ⟨I1, a1, a2, a3, a4, a5⟩ := c_bookF (X := X) (J := J) c.2.1 c.2.2.2.2.1 cT1 ht.2.1 he
    obtain ⟨Ic, hIc⟩ : ∃ Ic, Ic = gup I1 196 1 (I1 196 1 + 1) := ⟨_, rfl⟩
    rw [← hIc] at a1
    have e1 : ∀ a k, a ≠ 196 → Ic a k = I1 a k := fun a k q => by rw [hIc, gup_r q]
    have f1 : ∀ a k, 267 ≤ a → Ic a k = I a k := fun a k q => by rw [e1 a k (by omega), a2 a k (by omega) (by omega) (by omega)]
    obtain ⟨I2, b1, b2, b3, b4, b5, b6, b7, b8⟩ := m_bookF (X := X) (I := Ic) (J := J) (v := (v.1, b', v.2.2.1, b', 52, v.2.2.2.2.2)) (T := T) (n := t) ⟨mT1.1, fun k hk => by rw [f1 268 k (by decide)]; exact mT1.2 k hk⟩ (by rw [f1 267 1 (by decide)]; exact ht.2.2.1) (fun k hk => by rw [f1 270 k (by decide)]; exact o6 k hk) (calInv_fr o5 (fun a k q => f1 a k (by omega))) he
    obtain ⟨I3, hI3⟩ : ∃ I3, I3 = gup I2 269 1 (I2 269 1 + 1) := ⟨_, rfl⟩
    rw [← hI3] at b1
    have e3 : ∀ a k, a ≠ 269 → I3 a k = I2 a k := fun a k q => by rw [hI3, gup_r q]
    have fC : ∀ a k, (a ≠ 51 ∨ k ≠ 1) → (a < 53 ∨ 56 < a) → ¬ (b' ≤ a ∧ a ≤ b' + 34) → a ≠ 196 → a < 267 → I3 a k = I a k := fun a k p1 p2 p3 p4 p5 => by rw [e3 a k (by omega), b2 a k (by omega) (by omega) (by omega) (by omega) (by omega), e1 a k p4, a2 a k p1 p2 p3]
    have fM : ∀ a k, 267 < a → ¬ (271 ≤ a ∧ a ≤ 275) → a ≠ 277 → a ≠ 279 → a ≠ 280 → a ≠ 269 → I3 a k = I a k := fun a k p1 p2 p3 p4 p5 p6 => by rw [e3 a k p6, b2 a k (by omega) p2 p3 p4 p5, f1 a k (by omega)]
    have fN : ∀ k, 28 ≤ k → I3 267 k = I 267 k := fun k p => by rw [e3 267 k (by decide), b3 k p, f1 267 k (by decide)]
    have hc3 : mCal I3 := ⟨by rw [e3 267 17 (by decide)]; exact b6.1, calOK_Y b6.2 (fun a k x y => e3 a k (by omega))⟩
    have cv : cH I J (v.1, b', v.2.2.1, b', 52, v.2.2.2.2.2) b b' S un := ⟨c.1, c.2.1, c.2.2.1, c.2.2.2.1, rfl, c.2.2.2.2.2.1, c.2.2.2.2.2.2.1, c.2.2.2.2.2.2.2.1, c.2.2.2.2.2.2.2.2⟩
    have sv : sH I (v.1, b', v.2.2.1, b', 52, v.2.2.2.2.2) b (S 0).1 := s
    refine ⟨_, Ic, J, _, I3, J, a1, fun k => by rw [e1 1 k (by decide), a2 1 k (by omega) (by omega) (by omega)], b1, b, b', S, un, g, cH_f cv g (fun a k q => fC a k (by omega) (by omega) (by omega) (by omega) (by omega)) (fun _ _ _ => rfl), ⟨mBk_cal m.1 (fun k => fM 276 k (by decide) (by decide) (by decide) (by decide) (by decide) (by decide)) (fun k => fM 278 k (by decide) (by decide) (by decide) (by decide) (by decide) (by decide)) (fun k => fM 281 k (by decide) (by decide) (by decide) (by decide) (by decide) (by decide)) ?_ hc3, mLg_f m.2.1 (fun a k q => fM a k (by omega) (by omega) (by omega) (by omega) (by omega) (by omega)), hN_fr m.2.2 (fN 45 (by decide)) (fN 44 (by decide)) (fun k => fM 292 k (by decide) (by decide) (by decide) (by decide) (by decide) (by decide))⟩, sH_fr sv (fun a k q => ?_) (fN 36 (by decide)) (fN 37 (by decide)), ⟨0, Nat.zero_le _, ?_, ?_, fun j hj => absurd hj (Nat.not_lt_zero j)⟩, fun k hk => ?_, ⟨?_, ?_⟩, ⟨z, w1, ?_, w3⟩, Or.inr ⟨hc3.1, hc3.2⟩, fun k hk => ?_⟩
    · rw [e3 267 23 (by decide), b4, f1 267 23 (by decide)]
    · by_cases w : a < 267
      · exact fC a k (by omega) (by omega) (by omega) (by omega) w
      · exact fM a k (by omega) (by omega) (by omega) (by omega) (by omega) (by omega)
    · rw [e3 51 1 (by decide), b2 51 1 (by decide) (by decide) (by decide) (by decide) (by decide), e1 51 1 (by decide), a3]; rfl
    · rw [e3 267 1 (by decide), b5]; rfl
    · have h2 := o2 k hk
      have x1 : I3 196 k = gup I1 196 1 (I1 196 1 + 1) 196 k := by rw [e3 196 k (by decide), b2 196 k (by decide) (by decide) (by decide) (by decide) (by decide), hIc]
      have x2 : ∀ j, I1 196 j = I 196 j := fun j => a2 196 j (by omega) (by omega) (by omega)
      have x3 : ∀ j, I2 269 j = I 269 j := fun j => by rw [b2 269 j (by decide) (by decide) (by decide) (by decide) (by decide), f1 269 j (by decide)]
      rw [x1, hI3]
      by_cases w : k = 1
      · rw [w] at h2 ⊢
        rw [gup_s, gup_s, x2, x3, h2]
      · rw [gup_k w, gup_k w, x2, x3, h2]
    · rw [e3 53 0 (by decide), b2 53 0 (by decide) (by decide) (by decide) (by decide) (by decide), e1 53 0 (by decide), a4, e3 267 7 (by decide), b7]
    · rw [e3 53 1 (by decide), b2 53 1 (by decide) (by decide) (by decide) (by decide) (by decide), e1 53 1 (by decide), a5, e3 267 8 (by decide), b8]
    · rw [fC 50 9 (by omega) (by omega) (by omega) (by omega) (by omega)]; exact w2
    · rw [fM 270 k (by decide) (by decide) (by decide) (by decide) (by decide) (by decide)]; exact o6 k hk
