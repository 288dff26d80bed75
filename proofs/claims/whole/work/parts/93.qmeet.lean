/-! QUESTIONS about two: meet -/
section gQm
variable {X : Nat × (Nat → Int32)} {v : Vt} {B : Bk} {A L : Nat → Nat → Bool} {b : Nat}
/-- as c_daysL, and what was known stays known -/
theorem c_daysM {w : Nat} (hb : isBk b) (hv : v.2.2.1 = b) (ok : BkOK B) (hw : kn B.nR B.nS w) : ∀ (m i fuel : Nat) (I : Nat → Nat → Int32) (J : Nat → Nat → Int64) (sk : Nat), i + m = 6 → m < fuel → i ≤ sk → cBk I b B → cLg I J B A L → I 60 7 = iZ (sk : Int) → sk ≤ B.nS → ∃ I' J', gX5_daysOf_L31 60 (iZ (w : Int)) fuel (iZ (i : Int)) (mkS X I J v) = some (65 + 2 * w, mkS X I' J' v) ∧ frC I I' J J' ∧ cLg I' J' B A L ∧ dsP J' (65 + 2 * w) (dy B A L w) ∧ ∃ sk' : Nat, I' 60 7 = iZ (sk' : Int) ∧ sk ≤ sk' ∧ sk' ≤ B.nS ∧ kn B.nR sk' w := by
  obtain ⟨k1, k2, k3, k4, k5, k6, k7⟩ := ok
  have hb60 := bk_r hb
  have hw12 : w < 12 := by unfold kn at hw; omega
  intro m
  induction m with
  | zero =>
    intro i fuel I J sk hi hf hisk hB hL h7 hsk
    obtain ⟨f, rfl⟩ : ∃ n, fuel = n + 1 := ⟨fuel - 1, by omega⟩
    refine ⟨I, J, ?_, frC_r I J, hL, ?_, sk, h7, Nat.le_refl _, hsk, by unfold kn at hw ⊢; omega⟩
    · unfold gX5_daysOf_L31
      rw [if_neg (by rw [cL_lt (by omega) (by omega) (by decide)]; omega)]
      simp only [bO, o60R, g61 I J hw12]
    · obtain ⟨⟨sk2, a1, a2, a3⟩, -⟩ := hL
      rw [h7, iZ_eq (by omega) (by omega) (by omega) (by omega)] at a1
      refine a3 w ?_
      unfold kn at hw ⊢; omega
  | succ m ih =>
    intro i fuel I J sk hi hf hisk hB hL h7 hsk
    obtain ⟨f, rfl⟩ : ∃ n, fuel = n + 1 := ⟨fuel - 1, by omega⟩
    unfold gX5_daysOf_L31
    rw [if_pos (by rw [cL_lt (by omega) (by omega) (by decide)]; omega)]
    simp only [bO, o60, o60R, h7, sL]
    have hL0 := hL
    obtain ⟨⟨sk2, a1, a2, a3⟩, a4⟩ := hL
    rw [h7, iZ_eq (by omega) (by omega) (by omega) (by omega)] at a1
    have esk : sk2 = sk := by omega
    subst esk
    by_cases c : (w : Int) - 6 < sk2
    · rw [if_pos (by rw [iZ_lt (by omega) (by omega) (by omega) (by omega)]; exact c), g61 I J hw12]
      have hk : kn B.nR sk2 w := by unfold kn at hw ⊢; omega
      exact ⟨I, J, rfl, frC_r I J, hL0, a3 w hk, sk2, h7, Nat.le_refl _, hsk, hk⟩
    · rw [if_neg (by rw [iZ_lt (by omega) (by omega) (by omega) (by omega)]; exact c)]
      have hs : sk2 < B.nS := by unfold kn at hw; omega
      obtain ⟨c1, c2, c3, c4, c5⟩ := hB
      obtain ⟨q1, q2⟩ := c4 sk2 hs
      have hle := cE_mono (cs := B.cs) (show sk2 + 1 ≤ B.nS from hs)
      obtain ⟨I1, J1, p1, p2, p3, p4⟩ := c_putTogether (X := X) (v := v) (I := I) (J := J) (K := dyT B A L sk2) (kn := kn B.nR sk2) (b := b) (t := sk2) (k := cE B.cs sk2) (L := B.cs sk2) (A := A sk2) (B := L sk2) hb hv (by omega) (fun w' hw' => by unfold kn at hw'; omega) (by show cE B.cs (sk2 + 1) ≤ 800; omega) q1 (by
        by_cases z : sk2 = 0
        · left; exact ⟨by rw [z]; rfl, z⟩
        · right
          refine ⟨by omega, ?_⟩
          have := (c4 (sk2 - 1) (by omega)).2
          rw [show sk2 - 1 + 1 = sk2 by omega] at this
          exact this) q2 (k4 sk2 hs) (fun w' hw' => by
          have := a3 w' hw'
          rw [dy_lo (s := sk2) (by omega) (by unfold kn at hw'; omega)] at this
          exact this) (a4 sk2 (by omega)).1 (a4 sk2 (by omega)).2
      rw [p1, gb2_some]
      simp only [bO, o60]
      rw [p2 60 7 (Or.inr (by decide)), h7, aL, aL, show (sk2 : Int) + 1 = ((sk2 + 1 : Nat) : Int) by omega, show (i : Int) + 1 = ((i + 1 : Nat) : Int) by omega]
      have fr1 : frC I (gup I1 60 7 (iZ ((sk2 + 1 : Nat) : Int))) J J1 := ⟨fun r k q => by
        have e : gup I1 60 7 (iZ ((sk2 + 1 : Nat) : Int)) r k = I1 r k := by
          by_cases z : r = 60
          · exact gup_k (by omega)
          · exact gup_r z
        rw [e]
        exact p2 r k (by omega), fun a q => p3 a (fun i hi => by omega) (by omega)⟩
      have hB1 : cBk (gup I1 60 7 (iZ ((sk2 + 1 : Nat) : Int))) b B := cBk_fr (I := I) ⟨c1, c2, c3, c4, c5⟩ k1 (fun r k x y => fr1.1 r k (Or.inl (by omega)))
      have hL1 : cLg (gup I1 60 7 (iZ ((sk2 + 1 : Nat) : Int))) J1 B A L := by
        refine ⟨⟨sk2 + 1, gup_s, hs, fun w' hw' => ?_⟩, fun s hs' => ?_⟩
        · by_cases z : w' = 6 + sk2
          · rw [z, dy_set (by omega)]; exact p4
          · have hk : kn B.nR sk2 w' := by unfold kn at hw' ⊢; omega
            exact dsP_o (a3 w' hk) (p3 _ (fun i hi => by unfold kn at hk; omega) (by omega))
        · obtain ⟨x, y⟩ := a4 s hs'
          exact ⟨crow_fr x (fun k => fr1.1 _ k (Or.inl (by omega))) (fun k => fr1.1 _ k (Or.inl (by omega))), crow_fr y (fun k => fr1.1 _ k (Or.inl (by omega))) (fun k => fr1.1 _ k (Or.inl (by omega)))⟩
      obtain ⟨I2, J2, d1, d2, d3, d4, sk', d5, d6, d7, d8⟩ := ih (i + 1) f (gup I1 60 7 (iZ ((sk2 + 1 : Nat) : Int))) J1 (sk2 + 1) (by omega) (by omega) (by omega) hB1 hL1 gup_s hs
      exact ⟨I2, J2, d1, frC_t fr1 d2, d3, d4, sk', d5, by omega, d7, d8⟩
/-- what the ledger knows, as a number -/
def kNow (I : Nat → Nat → Int32) (B : Bk) (w : Nat) : Prop := ∃ sk : Nat, I 60 7 = iZ (sk : Int) ∧ sk ≤ B.nS ∧ kn B.nR sk w
theorem c_daysN {I : Nat → Nat → Int32} {J : Nat → Nat → Int64} {z : Int} (z1 : -2147483648 ≤ z) (z2 : z < 2147483648) (hb : isBk b) (hv : v.2.2.1 = b) (ok : BkOK B) (hB : cBk I b B) (hL : cLg I J B A L) : ∃ I' J', fX5_daysOf 60 (iZ z) (mkS X I J v) = some (if (0 ≤ z ∧ z < B.nR) ∨ (6 ≤ z ∧ z < 6 + B.nS) then 65 + 2 * z.toNat else 0, mkS X I' J' v) ∧ frC I I' J J' ∧ cLg I' J' B A L ∧ ((0 ≤ z ∧ z < B.nR) ∨ (6 ≤ z ∧ z < 6 + B.nS) → kNow I' B z.toNat) ∧ ∀ w, kNow I B w → kNow I' B w := by
  have hb0 := bk_r hb
  unfold fX5_daysOf
  simp only [bO, o60R, hv]
  rw [if_neg (by omega), bk_c hb, c_isWhat hb hB.1 hB.2.1 ok.1 ok.2.1 z1 z2]
  simp only [bO, n61, o60R]
  have k1 := ok.1
  have k2 := ok.2.1
  by_cases c : (0 ≤ z ∧ z < (B.nR : Int)) ∨ (6 ≤ z ∧ z < 6 + (B.nS : Int))
  · rw [decide_eq_true c, if_neg (by decide), if_pos c, if_pos (by rw [iZ_lt (by omega) (by omega) (by decide) (by decide)]; omega)]
    obtain ⟨w, rfl⟩ : ∃ n : Nat, z = (n : Int) := ⟨z.toNat, by omega⟩
    obtain ⟨⟨sk, a1, a2, a3⟩, a4⟩ := hL
    obtain ⟨I', J', e1, e2, e3, e4, sk', e5, e6, e7, e8⟩ := c_daysM (X := X) (v := v) (w := w) hb hv ok (by unfold kn; omega) 6 0 20000 I J sk (by decide) (by decide) (Nat.zero_le _) hB ⟨⟨sk, a1, a2, a3⟩, a4⟩ a1 a2
    refine ⟨I', J', e1, e2, e3, fun _ => ⟨sk', e5, e7, e8⟩, fun w' hw' => ?_⟩
    obtain ⟨s2, q1, q2, q3⟩ := hw'
    rw [a1, iZ_eq (by omega) (by omega) (by omega) (by omega)] at q1
    exact ⟨sk', e5, e7, by unfold kn at q3 ⊢; omega⟩
  · rw [decide_eq_false c, if_pos tf_f, if_neg c]
    exact ⟨I, J, rfl, frC_r I J, hL, fun q => absurd q c, fun _ h => h⟩
theorem kNow_ds {I : Nat → Nat → Int32} {J : Nat → Nat → Int64} {w : Nat} (ok : BkOK B) (hL : cLg I J B A L) (h : kNow I B w) : dsP J (65 + 2 * w) (dy B A L w) := by
  have k2 := ok.2.1
  obtain ⟨⟨sk, a1, a2, a3⟩, a4⟩ := hL
  obtain ⟨s2, q1, q2, q3⟩ := h
  rw [a1, iZ_eq (by omega) (by omega) (by omega) (by omega)] at q1
  exact a3 w (by unfold kn at q3 ⊢; omega)
def aMeet (d x : Int) (P Q : Nat → Bool) : Int32 := if (0 ≤ d ∧ d < 14610) ∧ 0 ≤ x ∧ x ≤ 1 then iZ (nxt (fun e => sP x.toNat (P e) (Q e)) d.toNat) else -1
theorem cq_meet {I : Nat → Nat → Int32} {J : Nat → Nat → Int64} {z y d x : Int} (z1 : -2147483648 ≤ z) (z2 : z < 2147483648) (y1 : -2147483648 ≤ y) (y2 : y < 2147483648) (d1 : -2147483648 ≤ d) (d2 : d < 2147483648) (x1 : -2147483648 ≤ x) (x2 : x < 2147483648) (hb : isBk b) (hv : v.2.2.1 = b) (ok : BkOK B) (hB : cBk I b B) (hL : cLg I J B A L) : ∃ I' J', fX11_meet 50 (iZ z) (iZ y) (iZ d) (iZ x) (mkS X I J v) = some (if ((0 ≤ z ∧ z < B.nR) ∨ (6 ≤ z ∧ z < 6 + B.nS)) ∧ ((0 ≤ y ∧ y < B.nR) ∨ (6 ≤ y ∧ y < 6 + B.nS)) then aMeet d x (dy B A L z.toNat) (dy B A L y.toNat) else -1, mkS X I' J' v) ∧ frC I I' J J' ∧ cLg I' J' B A L := by
  have k1 := ok.1
  have k2 := ok.2.1
  have hb0 := bk_r hb
  unfold fX11_meet
  simp only [bO, o50R, o60, gjn_eq]
  obtain ⟨I1, J1, e1, e2, e3, e4, e5⟩ := c_daysN (X := X) z1 z2 hb hv ok hB hL
  rw [e1, gb2_some]
  simp only [bO, o50R, o60]
  have hB1 : cBk I1 b B := cBk_fr hB k1 (fun r k p q => e2.1 r k (Or.inl (by omega)))
  obtain ⟨I2, J2, f1, f2, f3, f4, f5⟩ := c_daysN (X := X) y1 y2 hb hv ok hB1 e3
  rw [f1, gb2_some]
  refine ⟨I2, J2, ?_, frC_t e2 f2, f3⟩
  by_cases cz : (0 ≤ z ∧ z < (B.nR : Int)) ∨ (6 ≤ z ∧ z < 6 + (B.nS : Int))
  · rw [if_pos cz, if_neg (by omega)]
    by_cases cy : (0 ≤ y ∧ y < (B.nR : Int)) ∨ (6 ≤ y ∧ y < 6 + (B.nS : Int))
    · rw [if_pos cy, if_neg (by omega), if_pos ⟨cz, cy⟩, c_isDay d1 d2, gb2_some]
      have pz := kNow_ds ok f3 (f5 _ (e4 cz))
      have py := kNow_ds ok f3 (f4 cy)
      have hz : isDS (65 + 2 * z.toNat) := isDS_k (by omega)
      have hy : isDS (65 + 2 * y.toNat) := isDS_k (by omega)
      unfold aMeet
      by_cases c : 0 ≤ d ∧ d < 14610
      · rw [if_pos c, if_neg (by decide)]
        by_cases c1 : x < 0
        · rw [if_pos (by rw [cL_lt (by omega) (by omega) (by decide)]; exact c1), if_neg (by omega)]
        · rw [if_neg (by rw [cL_lt (by omega) (by omega) (by decide)]; exact c1)]
          by_cases c2 : 1 < x
          · rw [if_pos (by rw [cR_lt (by omega) (by omega) (by decide)]; exact c2), if_neg (by omega)]
          · rw [if_neg (by rw [cR_lt (by omega) (by omega) (by decide)]; exact c2), if_pos (show (0 ≤ d ∧ d < 14610) ∧ 0 ≤ x ∧ x ≤ 1 from ⟨c, by omega, by omega⟩), ds_c hz]
            have go : ∀ how : Nat, how < 3 → fX2_search (65 + 2 * z.toNat) (65 + 2 * y.toNat) (iZ d) (iZ (how : Int)) (mkS X I2 J2 v) = some (iZ (nxt (fun e => sP how (dy B A L z.toNat e) (dy B A L y.toNat e)) d.toNat), mkS X I2 J2 v) := by
              intro how hh
              rw [ds_search hz hy hh d1 d2, if_pos c]
              congr 3
              exact nxt_congr (fun j a q => by rw [dsP_d pz q, dsP_d py q])
            by_cases c3 : x = 0
            · rw [if_pos (by rw [c3]; rfl), show (0 : Int32) = iZ ((0 : Nat) : Int) from rfl, go 0 (by decide), gb2_some, c3]
              rfl
            · rw [if_neg (by rw [cL_eq (by omega) (by omega) (by decide)]; exact c3), show (1 : Int32) = iZ ((1 : Nat) : Int) from rfl, go 1 (by decide), ds_c hz, gb2_some, show x = 1 by omega]
              rfl
      · rw [if_neg c, if_pos rfl, if_neg (fun q => c q.1)]
    · rw [if_neg cy, if_pos rfl, if_neg (fun q => cy q.2)]
  · rw [if_neg cz, if_pos rfl, if_neg (fun q => cz q.1)]
theorem m_meetL {I : Nat → Nat → Int32} {J : Nat → Nat → Int64} {P Q : Nat → Bool} {w u x : Nat} (hw : w < 12) (hu : u < 12) (hP : daysR I (14610 * w) P) (hQ : daysR I (14610 * u) Q) (hx : x ≤ 1) : ∀ (m d fuel : Nat), d + m = 14610 → m < fuel → gX12_meet_L39 (fun y27 s28 => some (y27, s28)) 267 (iZ (w : Int)) (iZ (u : Int)) (iZ (x : Int)) fuel (iZ (d : Int)) (mkS X I J v) = some (iZ (nx (fun e => sP x (P e) (Q e)) m d), mkS X I J v) := by
  intro m
  induction m with
  | zero =>
    intro d fuel hd hf
    obtain ⟨f, rfl⟩ : ∃ n, fuel = n + 1 := ⟨fuel - 1, by omega⟩
    unfold gX12_meet_L39
    rw [if_neg (by rw [cL_lt (by omega) (by omega) (by decide)]; omega)]
    rfl
  | succ m ih =>
    intro d fuel hd hf
    obtain ⟨f, rfl⟩ : ∃ n, fuel = n + 1 := ⟨fuel - 1, by omega⟩
    unfold gX12_meet_L39
    rw [if_pos (by rw [cL_lt (by omega) (by omega) (by decide)]; omega)]
    simp only [o267, m_isOn hw (show d < 14610 by omega) hP, m_isOn hu (show d < 14610 by omega) hQ, gb2_some, aL]
    rw [show (d : Int) + 1 = ((d + 1 : Nat) : Int) by omega]
    have st := ih (d + 1) f (by omega) (by omega)
    unfold nx
    by_cases c : x = 0
    · subst c
      rw [if_pos (show iZ ((0 : Nat) : Int) = 0 from rfl)]
      cases P d with
      | false => rw [if_pos tf_f, if_neg (by cases Q d <;> decide)]; exact st
      | true =>
        rw [if_neg (show ¬ tf true = 0 by decide)]
        cases Q d with
        | false => rw [if_pos tf_f, if_neg (by decide)]; exact st
        | true => rw [if_neg (show ¬ tf true = 0 by decide), if_pos (by decide)]
    · have hx1 : x = 1 := by omega
      subst hx1
      rw [if_neg (show ¬ iZ ((1 : Nat) : Int) = 0 by decide)]
      cases P d with
      | false =>
        cases Q d with
        | false => rw [if_pos rfl, if_neg (by decide)]; exact st
        | true => rw [if_neg (by decide), if_pos (by decide)]
      | true =>
        cases Q d with
        | false => rw [if_neg (by decide), if_pos (by decide)]
        | true => rw [if_pos rfl, if_neg (by decide)]; exact st
end gQm
section gLz
variable {X : Nat × (Nat → Int32)} {J : Nat → Nat → Int64} {v : Vt} {B : Bk} {A L : Nat → Nat → Bool}
theorem m_laysM1 {k74 : gH → Option (Unit × gH)} {x1 : Int32} (ok : BkOK B) : ∀ (m r fuel : Nat) (I : Nat → Nat → Int32), r + m = B.nR → m < fuel → mBk I B → mLg I B A L → (∀ x, x < r → I 283 x = 1) → ∃ I', gX12_lays_L53 k74 267 x1 fuel (iZ (r : Int)) (mkS X I J v) = k74 (mkS X I' J v) ∧ frY I I' ∧ mLg I' B A L ∧ (∀ x, x < B.nR → I' 283 x = 1) ∧ ∀ x, I 283 x = 1 → I' 283 x = 1 := by
  have hR6 := ok.1
  intro m
  induction m with
  | zero =>
    intro r fuel I hr hf hB hL h0
    obtain ⟨f, rfl⟩ : ∃ n, fuel = n + 1 := ⟨fuel - 1, by omega⟩
    refine ⟨I, ?_, frY_r I, hL, fun x hx => h0 x (by omega), fun _ h => h⟩
    unfold gX12_lays_L53
    simp only [bO, o267R]
    rw [show (0 : Int32) = iZ ((0 : Nat) : Int) from rfl, a276 _ _ _ _ _ (by decide)]
    simp only [bO, hB.1]
    rw [if_neg (by rw [iZ_lt (by omega) (by omega) (by omega) (by omega)]; omega)]
  | succ m ih =>
    intro r fuel I hr hf hB hL h0
    obtain ⟨f, rfl⟩ : ∃ n, fuel = n + 1 := ⟨fuel - 1, by omega⟩
    unfold gX12_lays_L53
    simp only [bO, o267R]
    rw [show (0 : Int32) = iZ ((0 : Nat) : Int) from rfl, a276 _ _ _ _ _ (by decide)]
    simp only [bO, hB.1, m_c]
    rw [if_pos (by rw [iZ_lt (by omega) (by omega) (by omega) (by omega)]; omega)]
    obtain ⟨I1, a1, a2, a3, a4, a5⟩ := m_lays0' (X := X) (J := J) (v := v) ok hB hL (show r < B.nR by omega)
    rw [a1, gb2_some, show iZ (r : Int) + 1 = iZ ((r + 1 : Nat) : Int) from by rw [aL]; rfl]
    obtain ⟨I2, b1, b2, b3, b4, b5⟩ := ih (r + 1) f I1 (by omega) (by omega) (mBk_Y hB hR6 a2) a3 (fun x hx => by
      by_cases c : x = r
      · rw [c]; exact a4
      · rw [a5 x c]; exact h0 x (by omega))
    exact ⟨I2, b1, frY_t a2 b2, b3, b4, fun x h => b5 x (by
      by_cases c : x = r
      · rw [c]; exact a4
      · rw [a5 x c]; exact h)⟩
theorem m_laysM2 {t : Nat} (ok : BkOK B) (ht : t < B.nS) : ∀ (m s fuel : Nat) (I : Nat → Nat → Int32), s + m = t + 1 → m < fuel → mBk I B → mLg I B A L → (∀ x, kn B.nR s x → I 283 x = 1) → ∃ I', gX12_lays_L76 267 (iZ ((6 + t : Nat) : Int)) fuel (iZ (s : Int)) (mkS X I J v) = some ((), mkS X I' J v) ∧ frY I I' ∧ mLg I' B A L ∧ (∀ x, kn B.nR (t + 1) x → I' 283 x = 1) ∧ ∀ x, I 283 x = 1 → I' 283 x = 1 := by
  obtain ⟨k1, k2, k3, k4, k5, k6, k7⟩ := ok
  intro m
  induction m with
  | zero =>
    intro s fuel I hs hf hB hL h0
    obtain ⟨f, rfl⟩ : ∃ n, fuel = n + 1 := ⟨fuel - 1, by omega⟩
    refine ⟨I, ?_, frY_r I, hL, fun x hx => h0 x (by unfold kn at hx ⊢; omega), fun _ h => h⟩
    unfold gX12_lays_L76
    rw [sL, if_pos (by rw [iZ_lt (by omega) (by omega) (by omega) (by omega)]; omega)]
  | succ m ih =>
    intro s fuel I hs hf hB hL h0
    obtain ⟨f, rfl⟩ : ∃ n, fuel = n + 1 := ⟨fuel - 1, by omega⟩
    unfold gX12_lays_L76
    rw [sL, if_neg (by rw [iZ_lt (by omega) (by omega) (by omega) (by omega)]; omega)]
    simp only [bO, o267R, aR]
    rw [show (6 : Int) + (s : Int) = ((6 + s : Nat) : Int) by omega, a283 _ _ _ _ _ (show 6 + s < 12 by omega), show iZ (s : Int) + 1 = iZ ((s + 1 : Nat) : Int) from by rw [aL]; rfl]
    simp only [bO, m_c]
    rcases hL.1 (6 + s) (Or.inr (by omega)) with q | ⟨q, _⟩
    · rw [q, if_pos rfl]
      obtain ⟨h1, h2, h3, h4, h5⟩ := hB
      obtain ⟨e1, e2, e3, e4⟩ := h4 s (by omega)
      have hle := mE_mono (cs := B.cs) (show s + 1 ≤ B.nS by omega)
      obtain ⟨I1, a1, a2, a3⟩ := m_laysSet (X := X) (J := J) (v := v) (I := I) (K := dyT B A L s) (kn := kn B.nR s) (t := s) (k := mE B.cs s) (L := B.cs s) (A := A s) (B := L s) (by omega) (by show mE B.cs (s + 1) ≤ 1500; omega) e1 e2 e3 (k4 s (by omega)) (fun w hw d hd => by
        rcases hL.1 w (by unfold kn at hw ⊢; omega) with z | ⟨_, z⟩
        · rw [h0 w hw] at z; exact absurd z (by decide)
        · rw [dy_lo (s := s) (by omega) (by unfold kn at hw; omega)] at z
          exact z d hd) (hL.2 s (by omega)).1 (hL.2 s (by omega)).2
      rw [a1, gb2_some]
      simp only [bO, o267R]
      rw [b283 _ _ _ _ _ _ (show 6 + s < 12 by omega), show gnar 4 1 = 1 by decide]
      have f1 : frY I (gup I1 283 (6 + s) 1) := frY_t (fun r k x y => a2.1 r k (by omega) (by omega) (by omega) y) (frY_X (frX_g (c := 283)) (by decide) (by decide))
      have hL1 : mLg (gup I1 283 (6 + s) 1) B A L := by
        refine mLg_step (w := 6 + s) hL f1 (fun k hk => ?_) (fun x hx => ?_) gup_s (fun d hd => ?_)
        · rw [gup_r (by decide), a2.2 k hk]
        · rw [gup_k hx, a2.1 283 x (by decide) (by decide) (by decide) (Or.inl (by decide))]
        · rw [gup_r (by decide), a3 d hd, dy_set (by omega)]
      obtain ⟨I2, b1, b2, b3, b4, b5⟩ := ih (s + 1) f (gup I1 283 (6 + s) 1) (by omega) (by omega) (mBk_Y ⟨h1, h2, h3, h4, h5⟩ k1 f1) hL1 (fun x hx => by
        by_cases c : x = 6 + s
        · rw [c, gup_s]
        · rw [gup_k c, a2.1 283 x (by decide) (by decide) (by decide) (Or.inl (by decide))]
          exact h0 x (by unfold kn at hx ⊢; omega))
      exact ⟨I2, b1, frY_t f1 b2, b3, b4, fun x h => b5 x (by
        by_cases c : x = 6 + s
        · rw [c, gup_s]
        · rw [gup_k c, a2.1 283 x (by decide) (by decide) (by decide) (Or.inl (by decide))]; exact h)⟩
    · rw [q, if_neg (by decide)]
      obtain ⟨I2, b1, b2, b3, b4, b5⟩ := ih (s + 1) f I (by omega) (by omega) hB hL (fun x hx => by
        by_cases c : x = 6 + s
        · rw [c]; exact q
        · exact h0 x (by unfold kn at hx ⊢; omega))
      exact ⟨I2, b1, b2, b3, b4, b5⟩
theorem m_laysN {I : Nat → Nat → Int32} {w : Nat} (ok : BkOK B) (hB : mBk I B) (hL : mLg I B A L) (hw : kn B.nR B.nS w) : ∃ I', fX12_lays 267 (iZ (w : Int)) (mkS X I J v) = some ((), mkS X I' J v) ∧ frY I I' ∧ mLg I' B A L ∧ I' 283 w = 1 ∧ ∀ x, I 283 x = 1 → I' 283 x = 1 := by
  have k1 := ok.1
  have k2 := ok.2.1
  unfold fX12_lays
  by_cases c : w < 6
  · rw [if_pos (by rw [cL_lt (by omega) (by omega) (by decide)]; omega)]
    have hr : w < B.nR := by unfold kn at hw; omega
    simp only [bO, o267R]
    rw [a283 _ _ _ _ _ (show w < 12 by omega)]
    simp only [bO, m_c]
    rcases hL.1 w hw with q | ⟨q, _⟩
    · rw [q, if_pos rfl]
      obtain ⟨I', a1, a2, a3, a4, a5⟩ := m_layR (X := X) (J := J) (v := v) ok hB hL hr
      exact ⟨I', a1, a2, a3, a4, fun x h => (by
        by_cases c : x = w
        · rw [c]; exact a4
        · rw [a5 x c]; exact h)⟩
    · rw [q, if_neg (by decide)]
      exact ⟨I, rfl, frY_r I, hL, q, fun _ h => h⟩
  · have hw0 : w < 12 := by unfold kn at hw; omega
    rw [if_neg (by rw [cL_lt (by omega) (by omega) (by decide)]; omega)]
    obtain ⟨t, rfl⟩ : ∃ t, w = 6 + t := ⟨w - 6, by omega⟩
    have ht : t < B.nS := by unfold kn at hw; omega
    obtain ⟨I1, a1, a2, a3, a4, a5⟩ := m_laysM1 (X := X) (J := J) (v := v) (A := A) (L := L) (k74 := fun s20 => gX12_lays_L76 267 (iZ ((6 + t : Nat) : Int)) 20000 0 s20) (x1 := iZ ((6 + t : Nat) : Int)) ok B.nR 0 20000 I (by omega) (by omega) hB hL (fun x hx => absurd hx (Nat.not_lt_zero x))
    obtain ⟨I2, b1, b2, b3, b4, b5⟩ := m_laysM2 (X := X) (J := J) (v := v) (A := A) (L := L) (t := t) ok ht (t + 1) 0 20000 I1 (by omega) (by omega) (mBk_Y hB k1 a2) a3 (fun x hx => a4 x (by unfold kn at hx; omega))
    exact ⟨I2, a1.trans b1, frY_t a2 b2, b3, b4 _ (by unfold kn; omega), fun x h => b5 x (a5 x h)⟩
theorem m_askN {I : Nat → Nat → Int32} {z : Int} (z1 : -2147483648 ≤ z) (z2 : z < 2147483648) (ok : BkOK B) (hB : mBk I B) (hL : mLg I B A L) : ∃ I', fX12_isAsked 267 (iZ z) (mkS X I J v) = some (tf (decide ((0 ≤ z ∧ z < B.nR) ∨ (6 ≤ z ∧ z < 6 + B.nS))), mkS X I' J v) ∧ frY I I' ∧ mLg I' B A L ∧ ((0 ≤ z ∧ z < B.nR) ∨ (6 ≤ z ∧ z < 6 + B.nS) → I' 283 z.toNat = 1) ∧ ∀ x, I 283 x = 1 → I' 283 x = 1 := by
  have k1 := ok.1
  have k2 := ok.2.1
  unfold fX12_isAsked gX12_isAsked
  simp only [m_c, m_isWhat z1 z2 ok hB, bO]
  by_cases c : (0 ≤ z ∧ z < (B.nR : Int)) ∨ (6 ≤ z ∧ z < 6 + (B.nS : Int))
  · rw [decide_eq_true c, if_neg (by decide)]
    obtain ⟨w, rfl⟩ : ∃ n : Nat, z = (n : Int) := ⟨z.toNat, by omega⟩
    obtain ⟨I', a1, a2, a3, a4, a5⟩ := m_laysN (X := X) (J := J) (v := v) (w := w) ok hB hL (by unfold kn; omega)
    rw [a1]
    exact ⟨I', rfl, a2, a3, fun _ => a4, a5⟩
  · rw [decide_eq_false c, if_pos tf_f]
    exact ⟨I, rfl, frY_r I, hL, fun q => absurd q c, fun _ h => h⟩
end gLz
section gQm2
variable {X : Nat × (Nat → Int32)} {v : Vt} {B : Bk} {A L : Nat → Nat → Bool} {b : Nat}
theorem mq_meet {I : Nat → Nat → Int32} {J : Nat → Nat → Int64} {z y d x : Int} (z1 : -2147483648 ≤ z) (z2 : z < 2147483648) (y1 : -2147483648 ≤ y) (y2 : y < 2147483648) (d1 : -2147483648 ≤ d) (d2 : d < 2147483648) (x1 : -2147483648 ≤ x) (x2 : x < 2147483648) (ok : BkOK B) (hB : mBk I B) (hL : mLg I B A L) : ∃ I', fX12_meet 267 (iZ z) (iZ y) (iZ d) (iZ x) (mkS X I J v) = some (if ((0 ≤ z ∧ z < B.nR) ∨ (6 ≤ z ∧ z < 6 + B.nS)) ∧ ((0 ≤ y ∧ y < B.nR) ∨ (6 ≤ y ∧ y < 6 + B.nS)) then aMeet d x (dy B A L z.toNat) (dy B A L y.toNat) else -1, mkS X I' J v) ∧ frY I I' ∧ mLg I' B A L := by
  have k1 := ok.1
  have k2 := ok.2.1
  have no : ¬ ((0 ≤ d ∧ d < 14610) ∧ 0 ≤ x ∧ x ≤ 1) → (if ((0 ≤ z ∧ z < (B.nR : Int)) ∨ (6 ≤ z ∧ z < 6 + (B.nS : Int))) ∧ ((0 ≤ y ∧ y < (B.nR : Int)) ∨ (6 ≤ y ∧ y < 6 + (B.nS : Int))) then aMeet d x (dy B A L z.toNat) (dy B A L y.toNat) else -1) = -1 := fun q => by unfold aMeet; rw [if_neg q, ite_self]
  unfold fX12_meet
  rw [m_isDay d1 d2, gb2_some]
  by_cases c : 0 ≤ d ∧ d < 14610
  · rw [if_pos c, if_neg (by decide), m_isIn, gb2_some, iZ_l x1 x2, show (0 : Int64).toInt = 0 from rfl, show (1 : Int64).toInt = 1 from rfl]
    by_cases c2 : 0 ≤ x ∧ x ≤ 1
    · rw [if_pos c2, if_neg (by decide)]
      simp only [o267]
      obtain ⟨I1, e1, e2, e3, e4, e5⟩ := m_askN (X := X) (J := J) (v := v) z1 z2 ok hB hL
      have hB1 := mBk_Y hB k1 e2
      rw [e1, gb2_some]
      by_cases cz : (0 ≤ z ∧ z < (B.nR : Int)) ∨ (6 ≤ z ∧ z < 6 + (B.nS : Int))
      · rw [decide_eq_true cz, if_neg (show ¬ tf true = 0 by decide)]
        simp only [o267]
        obtain ⟨I2, f1, f2, f3, f4, f5⟩ := m_askN (X := X) (J := J) (v := v) y1 y2 ok hB1 e3
        rw [f1, gb2_some]
        refine ⟨I2, ?_, frY_t e2 f2, f3⟩
        by_cases cy : (0 ≤ y ∧ y < (B.nR : Int)) ∨ (6 ≤ y ∧ y < 6 + (B.nS : Int))
        · rw [decide_eq_true cy, if_neg (show ¬ tf true = 0 by decide), if_pos ⟨cz, cy⟩]
          obtain ⟨d', rfl⟩ : ∃ n : Nat, d = (n : Int) := ⟨d.toNat, by omega⟩
          obtain ⟨x', rfl⟩ : ∃ n : Nat, x = (n : Int) := ⟨x.toNat, by omega⟩
          obtain ⟨z', rfl⟩ : ∃ n : Nat, z = (n : Int) := ⟨z.toNat, by omega⟩
          obtain ⟨y', rfl⟩ : ∃ n : Nat, y = (n : Int) := ⟨y.toNat, by omega⟩
          unfold aMeet
          rw [if_pos ⟨c, c2⟩]
          have hz2 : ∀ w : Nat, kn B.nR B.nS w → I2 283 w = 1 → daysR I2 (14610 * w) (dy B A L w) := fun w hw q => by
            rcases f3.1 w hw with p | p
            · rw [q] at p; exact absurd p (by decide)
            · exact p.2
          exact m_meetL (by omega) (by omega) (hz2 z' (by unfold kn; omega) (f5 z' (e4 cz))) (hz2 y' (by unfold kn; omega) (f4 cy)) (by omega) (14610 - d') d' 20000 (by omega) (by omega)
        · rw [decide_eq_false cy, if_pos tf_f, if_neg (fun q => cy q.2)]
      · rw [decide_eq_false cz, if_pos tf_f, if_neg (fun q => cz q.1)]
        exact ⟨I1, rfl, e2, e3⟩
    · rw [if_neg c2, if_pos rfl, no (fun q => c2 q.2)]
      exact ⟨I, rfl, frY_r I, hL⟩
  · rw [if_neg c, if_pos rfl, no (fun q => c q.1)]
    exact ⟨I, rfl, frY_r I, hL⟩
end gQm2
