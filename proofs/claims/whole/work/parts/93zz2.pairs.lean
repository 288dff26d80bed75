/-! BOTH ANSWER ALIKE: the questions about days -/
def alike (fc fm : gH → Option (Int32 × gH)) : Prop := ∀ (X : Nat × (Nat → Int32)) (I : Nat → Nat → Int32) (J : Nat → Nat → Int64) (v : Vt), rel I J v → ∃ (x : Int32) (I1 : Nat → Nat → Int32) (J1 : Nat → Nat → Int64) (v1 : Vt) (I' : Nat → Nat → Int32) (J' : Nat → Nat → Int64), fc (mkS X I J v) = some (x, mkS X I1 J1 v1) ∧ (∀ k, I1 1 k = I 1 k) ∧ fm (mkS X I1 J1 v1) = some (x, mkS X I' J' v1) ∧ rel I' J' v1
theorem pair_q {fc fm : gH → Option (Int32 × gH)} (ans : Bk → (Nat → Nat → Bool) → (Nat → Nat → Bool) → Int32) (hc : ∀ (X : Nat × (Nat → Int32)) (v : Vt) (I : Nat → Nat → Int32) (J : Nat → Nat → Int64) (b : Nat) (B : Bk) (A L : Nat → Nat → Bool), isBk b → v.2.2.1 = b → BkOK B → cBk I b B → cLg I J B A L → ∃ I' J', fc (mkS X I J v) = some (ans B A L, mkS X I' J' v) ∧ frC I I' J J' ∧ cLg I' J' B A L) (hm : ∀ (X : Nat × (Nat → Int32)) (v : Vt) (I : Nat → Nat → Int32) (J : Nat → Nat → Int64) (B : Bk) (A L : Nat → Nat → Bool), BkOK B → mBk I B → mLg I B A L → ∃ I', fm (mkS X I J v) = some (ans B A L, mkS X I' J v) ∧ frY I I' ∧ mLg I' B A L) : alike fc fm := by
  intro X I J v ⟨b, b', S, un, g, c, m, s, o⟩
  obtain ⟨I1, J1, a1, a2, a3⟩ := hc X v I J b (S 0).1 (S 0).2.1 (S 0).2.2 c.1 c.2.2.2.2.2.1 (g 0).1 c.2.2.2.2.2.2.1 c.2.2.2.2.2.2.2.1
  have m1 := q_mid g m a2
  obtain ⟨I2, b1, b2, b3⟩ := hm X v I1 J1 (S 0).1 (S 0).2.1 (S 0).2.2 (g 0).1 m1.1 m1.2.1
  exact ⟨_, I1, J1, v, I2, J1, a1, fun k => a2.1 1 k (Or.inl (by decide)), b1, q_end g c m s o a2 a3 b2 b3⟩
theorem p_on (x y : Int32) : alike (fX11_on 50 x y) (fX12_on 267 x y) := by
  obtain ⟨z, z1, z2, rfl⟩ := iZ_of x
  obtain ⟨d, d1, d2, rfl⟩ := iZ_of y
  exact pair_q (fun B A L => if (0 ≤ z ∧ z < B.nR) ∨ (6 ≤ z ∧ z < 6 + B.nS) then aOn d (dy B A L z.toNat) else -1) (fun X v I J b B A L h1 h2 h3 h4 h5 => cq_on z1 z2 d1 d2 h1 h2 h3 h4 h5) (fun X v I J B A L h1 h2 h3 => mq_on z1 z2 d1 d2 h1 h2 h3)
theorem p_next (x y : Int32) : alike (fX11_next 50 x y) (fX12_next 267 x y) := by
  obtain ⟨z, z1, z2, rfl⟩ := iZ_of x
  obtain ⟨d, d1, d2, rfl⟩ := iZ_of y
  exact pair_q (fun B A L => if (0 ≤ z ∧ z < B.nR) ∨ (6 ≤ z ∧ z < 6 + B.nS) then aNext d (dy B A L z.toNat) else -1) (fun X v I J b B A L h1 h2 h3 h4 h5 => cq_next z1 z2 d1 d2 h1 h2 h3 h4 h5) (fun X v I J B A L h1 h2 h3 => mq_next z1 z2 d1 d2 h1 h2 h3)
theorem p_ahead (x y : Int32) : alike (fX11_ahead 50 x y) (fX12_ahead 267 x y) := by
  obtain ⟨z, z1, z2, rfl⟩ := iZ_of x
  obtain ⟨d, d1, d2, rfl⟩ := iZ_of y
  exact pair_q (fun B A L => if (0 ≤ z ∧ z < B.nR) ∨ (6 ≤ z ∧ z < 6 + B.nS) then aAhead d (dy B A L z.toNat) else -1) (fun X v I J b B A L h1 h2 h3 h4 h5 => cq_ahead z1 z2 d1 d2 h1 h2 h3 h4 h5) (fun X v I J B A L h1 h2 h3 => mq_ahead z1 z2 d1 d2 h1 h2 h3)
theorem p_nth (x y : Int32) : alike (fX11_nth 50 x y) (fX12_nth 267 x y) := by
  obtain ⟨z, z1, z2, rfl⟩ := iZ_of x
  obtain ⟨d, d1, d2, rfl⟩ := iZ_of y
  exact pair_q (fun B A L => if (0 ≤ z ∧ z < B.nR) ∨ (6 ≤ z ∧ z < 6 + B.nS) then aNth d (dy B A L z.toNat) else -1) (fun X v I J b B A L h1 h2 h3 h4 h5 => cq_nth z1 z2 d1 d2 h1 h2 h3 h4 h5) (fun X v I J B A L h1 h2 h3 => mq_nth z1 z2 d1 d2 h1 h2 h3)
theorem p_gap (x y : Int32) : alike (fX11_gap 50 x y) (fX12_gap 267 x y) := by
  obtain ⟨z, z1, z2, rfl⟩ := iZ_of x
  obtain ⟨d, d1, d2, rfl⟩ := iZ_of y
  exact pair_q (fun B A L => if (0 ≤ z ∧ z < B.nR) ∨ (6 ≤ z ∧ z < 6 + B.nS) then aGap d (dy B A L z.toNat) else -1) (fun X v I J b B A L h1 h2 h3 h4 h5 => cq_gap z1 z2 d1 d2 h1 h2 h3 h4 h5) (fun X v I J B A L h1 h2 h3 => mq_gap z1 z2 d1 d2 h1 h2 h3)
theorem p_fares (x y : Int32) : alike (fX11_fares 50 x y) (fX12_fares 267 x y) := by
  obtain ⟨z, z1, z2, rfl⟩ := iZ_of x
  obtain ⟨d, d1, d2, rfl⟩ := iZ_of y
  exact pair_q (fun B A L => if (0 ≤ z ∧ z < B.nR) ∨ (6 ≤ z ∧ z < 6 + B.nS) then aFar d (dy B A L z.toNat) else -1) (fun X v I J b B A L h1 h2 h3 h4 h5 => cq_fares z1 z2 d1 d2 h1 h2 h3 h4 h5) (fun X v I J B A L h1 h2 h3 => mq_fares z1 z2 d1 d2 h1 h2 h3)
theorem p_sum (x : Int32) : alike (fX11_sum 50 x) (fX12_sum 267 x) := by
  obtain ⟨z, z1, z2, rfl⟩ := iZ_of x
  exact pair_q (fun B A L => if (0 ≤ z ∧ z < B.nR) ∨ (6 ≤ z ∧ z < 6 + B.nS) then aSum (dy B A L z.toNat) else -1) (fun X v I J b B A L h1 h2 h3 h4 h5 => cq_sum z1 z2 h1 h2 h3 h4 h5) (fun X v I J B A L h1 h2 h3 => mq_sum z1 z2 h1 h2 h3)
theorem p_many (x y w : Int32) : alike (fX11_many 50 x y w) (fX12_many 267 x y w) := by
  obtain ⟨z, z1, z2, rfl⟩ := iZ_of x
  obtain ⟨d, d1, d2, rfl⟩ := iZ_of y
  obtain ⟨e, e1, e2, rfl⟩ := iZ_of w
  exact pair_q (fun B A L => if (0 ≤ z ∧ z < B.nR) ∨ (6 ≤ z ∧ z < 6 + B.nS) then aMany d e (dy B A L z.toNat) else -1) (fun X v I J b B A L h1 h2 h3 h4 h5 => cq_many z1 z2 d1 d2 e1 e2 h1 h2 h3 h4 h5) (fun X v I J B A L h1 h2 h3 => mq_many z1 z2 d1 d2 e1 e2 h1 h2 h3)
theorem p_free (x y w : Int32) : alike (fX11_free 50 x y w) (fX12_free 267 x y w) := by
  obtain ⟨z, z1, z2, rfl⟩ := iZ_of x
  obtain ⟨d, d1, d2, rfl⟩ := iZ_of y
  obtain ⟨e, e1, e2, rfl⟩ := iZ_of w
  exact pair_q (fun B A L => if (0 ≤ z ∧ z < B.nR) ∨ (6 ≤ z ∧ z < 6 + B.nS) then aFree d e (dy B A L z.toNat) else -1) (fun X v I J b B A L h1 h2 h3 h4 h5 => cq_free z1 z2 d1 d2 e1 e2 h1 h2 h3 h4 h5) (fun X v I J B A L h1 h2 h3 => mq_free z1 z2 d1 d2 e1 e2 h1 h2 h3)
theorem p_meet (x y u w : Int32) : alike (fX11_meet 50 x y u w) (fX12_meet 267 x y u w) := by
  obtain ⟨z, z1, z2, rfl⟩ := iZ_of x
  obtain ⟨d, d1, d2, rfl⟩ := iZ_of y
  obtain ⟨e, e1, e2, rfl⟩ := iZ_of u
  obtain ⟨f, f1, f2, rfl⟩ := iZ_of w
  exact pair_q (fun B A L => if ((0 ≤ z ∧ z < B.nR) ∨ (6 ≤ z ∧ z < 6 + B.nS)) ∧ ((0 ≤ d ∧ d < B.nR) ∨ (6 ≤ d ∧ d < 6 + B.nS)) then aMeet e f (dy B A L z.toNat) (dy B A L d.toNat) else -1) (fun X v I J b B A L h1 h2 h3 h4 h5 => cq_meet z1 z2 d1 d2 e1 e2 f1 f2 h1 h2 h3 h4 h5) (fun X v I J B A L h1 h2 h3 => mq_meet z1 z2 d1 d2 e1 e2 f1 f2 h1 h2 h3)
