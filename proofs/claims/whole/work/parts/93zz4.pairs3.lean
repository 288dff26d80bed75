/-! BOTH ANSWER ALIKE: fits, tells -/
section gP3
variable {v : Vt} {I I1 I' : Nat → Nat → Int32} {J J1 : Nat → Nat → Int64} {b b' : Nat} {S : Nat → St} {un : Nat}
theorem cH_f (h : cH I J v b b' S un) (g : gS S) (f : ∀ a k, (a = 60 ∨ (119 ≤ a ∧ a ≤ 187) ∨ (b ≤ a ∧ a ≤ b + 34)) → I' a k = I a k) (fJ : ∀ a, 66 ≤ a → a ≤ 88 → J1 a = J a) : cH I' J1 v b b' S un := by
  obtain ⟨h1, h2, h3, h4, h5, h6, h7, h8, h9⟩ := h
  have ok := (g 0).1
  exact ⟨h1, h2, h3, h4, h5, h6, cBk_fr h7 ok.1 (fun r k x y => f r k (by omega)), cLg_fr h8 ok.1 ok.2.1 (f 60 7 (by omega)) (fun r k x y => f r k (by omega)) fJ, jN_fr h9 (fun r k x y => f r k (by omega))⟩
theorem mH_f (h : mH I S un) (g : gS S) (f : ∀ a k, 267 ≤ a → a ≠ 284 → ¬ (286 < a ∧ a ≤ 291) → I' a k = I a k) : mH I' S un := by
  obtain ⟨h1, h2, h3⟩ := h
  have ok := (g 0).1
  refine ⟨mBk_fr h1 (fun k => f 276 k (by decide) (by decide) (by decide)) (fun k => f 278 k (by decide) (by decide) (by decide)) (fun k _ => f 281 k (by decide) (by decide) (by decide)) ok.1 (f 267 23 (by decide) (by decide) (by decide)) (f 267 17 (by decide) (by decide) (by decide)) (fun r k x y => f r k (by omega) (by omega) (by omega)), ⟨fun w hw => ?_, fun t ht => ?_⟩, hN_fr h3 (f 267 45 (by decide) (by decide) (by decide)) (f 267 44 (by decide) (by decide) (by decide)) (fun k => f 292 k (by decide) (by decide) (by decide))⟩
  · rw [f 283 w (by decide) (by decide) (by decide)]
    rcases h2.1 w hw with q | q
    · exact Or.inl q
    · exact Or.inr ⟨q.1, fun e he => by rw [f 282 _ (by decide) (by decide) (by decide)]; exact q.2 e he⟩
  · obtain ⟨x, y⟩ := h2.2 t ht
    exact ⟨mrow_21 x (fun j _ _ => f 281 j (by decide) (by decide) (by decide)), mrow_21 y (fun j _ _ => f 281 j (by decide) (by decide) (by decide))⟩
theorem pair_f {fc fm : gH → Option (Int32 × gH)} (ans : RuL → Nat → (Nat → Nat) → (Nat → Bool) → Int32) (h0c : ∀ (X : Nat × (Nat → Int32)) (v : Vt) (I : Nat → Nat → Int32) (J : Nat → Nat → Int64), I 188 8 = 0 → fc (mkS X I J v) = some (-1, mkS X I J v)) (h0m : ∀ (X : Nat × (Nat → Int32)) (v : Vt) (I : Nat → Nat → Int32) (J : Nat → Nat → Int64), I 267 36 = 0 → fm (mkS X I J v) = some (-1, mkS X I J v)) (hc : ∀ (X : Nat × (Nat → Int32)) (v : Vt) (I : Nat → Nat → Int32) (J : Nat → Nat → Int64) (q m : Nat) (R : RuL) (sd : Nat → Nat) (so : Nat → Bool), isRule q → v.2.2.2.2.2 = q → cRl I q R → RuLok R → cSd I m sd so → 1 ≤ m → (I 188 7 = 0 ∨ (I 188 7 = 1 ∧ wO I R m sd so)) → ∃ I' J', fc (mkS X I J v) = some (ans R m sd so, mkS X I' J' v) ∧ frWo I I' ∧ (∀ a, a ≠ 190 → J' a = J a) ∧ (I' 188 7 = 0 ∨ (I' 188 7 = 1 ∧ wO I' R m sd so))) (hm : ∀ (X : Nat × (Nat → Int32)) (v : Vt) (I : Nat → Nat → Int32) (J : Nat → Nat → Int64) (r m : Nat) (R : RuL) (sd : Nat → Nat) (so : Nat → Bool), r < 6 → RuLok R → mRl I r R → calOK I → mSd I m r sd so → 1 ≤ m → ∃ I', fm (mkS X I J v) = some (ans R m sd so, mkS X I' J v) ∧ frLf I I') : alike fc fm := by
  intro X I J v ⟨b, b', S, un, g, c, m, s, o⟩
  have ok := (g 0).1
  have hb := bk_r c.1
  have s0 := s
  rcases s with ⟨h1, h2⟩ | ⟨n, r, sd, so, a1, a2, a3, a4, a5, a6⟩
  · exact ⟨_, I, J, v, I, J, h0c X v I J h1, fun _ => rfl, h0m X v I J h2, b, b', S, un, g, c, m, s0, o⟩
  · have k1 := ok.1
    have hq := isRule_bk (n := r) c.1 (by omega)
    obtain ⟨ru, st1, st2⟩ := ok.2.2.1 r a2
    obtain ⟨I1, J1, p1, p2, p3, p4⟩ := hc X v I J (b + 5 + 5 * r) n ((S 0).1.rl r) sd so hq a3 (c.2.2.2.2.2.2.1.2.2.1 r a2).1 ru a4 a1 a6
    have f1 : ∀ a k, 267 ≤ a → I1 a k = I a k := fun a k q => p2 a k (by omega) (by omega) (Or.inl (by omega))
    have m1 := mH_c m g f1
    have hc1 : calOK I1 := by
      rcases m1.1.2.2.2.2 with q | q
      · exact q.2.2
      · omega
    have a5' : mSd I1 n r sd so := mSd_fr a5 (fun k => f1 267 k (by decide)) (fun k => f1 287 k (by decide)) (fun k => f1 288 k (by decide))
    obtain ⟨I2, q1, q2⟩ := hm X v I1 J1 r n ((S 0).1.rl r) sd so (by omega) ru (m1.1.2.2.1 r a2).1 hc1 a5' a1
    have f2 : ∀ a k, a < 267 → I2 a k = I1 a k := fun a k q => q2 a k (by omega) (by omega)
    refine ⟨_, I1, J1, v, I2, J1, p1, fun k => p2 1 k (by omega) (by omega) (by omega), q1, b, b', S, un, g, cH_f c g (fun a k q => by rw [f2 a k (by omega), p2 a k (by omega) (by omega) (by omega)]) (fun a x y => p3 a (by omega)), mH_f m1 g (fun a k x y z => q2 a k y (by omega)), Or.inr ⟨n, r, sd, so, a1, a2, a3, ?_, ?_, ?_⟩, oH_fr o (fun a k q => by rw [q2 a k (by omega) (by omega), p2 a k (by omega) (by omega) (by omega)]) (fun k q => by rw [q2 267 k (by decide) (by decide), f1 267 k (by decide)]) (by rw [p3 267 (by decide)])⟩
    · exact ⟨a4.1, by rw [f2 188 8 (by decide), p2 188 8 (by decide) (by decide) (by decide)]; exact a4.2.1, fun j hj => by
        obtain ⟨x, y, z⟩ := a4.2.2 j hj
        exact ⟨x, by rw [f2 191 j (by decide), p2 191 j (by decide) (by decide) (Or.inl (by decide))]; exact y, by rw [f2 192 j (by decide), p2 192 j (by decide) (by decide) (Or.inl (by decide))]; exact z⟩⟩
    · exact mSd_fr a5' (fun k => q2 267 k (by decide) (by decide)) (fun k => q2 287 k (by decide) (by decide)) (fun k => q2 288 k (by decide) (by decide))
    · rw [f2 188 7 (by decide)]
      rcases p4 with w | ⟨w1, w2, w3, w4, w5⟩
      · exact Or.inl w
      · exact Or.inr ⟨w1, by rw [f2 188 9 (by decide)]; exact w2, ⟨by rw [f2 194 1 (by decide)]; exact w3.1, fun i hi hF => by rw [f2 195 _ (by decide)]; exact w3.2 i hi hF⟩, by rw [f2 188 10 (by decide)]; exact w4, by rw [f2 188 11 (by decide)]; exact w5⟩
end gP3
theorem p_fits (x : Int32) : alike (fX11_fits 50 x) (fX12_fits 267 x) := by
  obtain ⟨z, z1, z2, rfl⟩ := iZ_of x
  exact pair_f (fun R m sd so => aFits R m sd so z) (fun X v I J h => cq_fits0 h) (fun X v I J h => mq_fits0 h) (fun X v I J q m R sd so h1 h2 h3 h4 h5 h6 h7 => by
    obtain ⟨I', J', a, b, c, d, e⟩ := cq_fits (X := X) (J := J) z1 z2 h1 h2 h3 h4 h5 h6 h7
    exact ⟨I', J', a, b, c, Or.inr ⟨d, e⟩⟩) (fun X v I J r m R sd so h1 h2 h3 h4 h5 h6 => mq_fits z1 z2 h1 h2 h3 h4 h5 h6)
theorem p_tells (x : Int32) : alike (fX11_tells 50 x) (fX12_tells 267 x) := by
  obtain ⟨z, z1, z2, rfl⟩ := iZ_of x
  exact pair_f (fun R m sd so => aTell R m sd so z) (fun X v I J h => cq_tells0 h) (fun X v I J h => mq_tells0 h) (fun X v I J q m R sd so h1 h2 h3 h4 h5 h6 h7 => cq_tells z1 z2 h1 h2 h3 h4 h5 h6 h7) (fun X v I J r m R sd so h1 h2 h3 h4 h5 h6 => mq_tells z1 z2 h1 h2 h3 h4 h5 h6)
