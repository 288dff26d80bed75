/-! FROM of the class; EVERY AND FROM of the reference -/
section gFm
variable {X : Nat × (Nat → Int32)} {v : Vt} {B : Bk} {A L : Nat → Nat → Bool} {b : Nat} {S : Nat → St} {un : Nat}
theorem cq_from {I : Nat → Nat → Int32} {J : Nat → Nat → Int64} {z x : Int} (z1 : -2147483648 ≤ z) (z2 : z < 2147483648) (x1 : -2147483648 ≤ x) (x2 : x < 2147483648) (hb : isBk b) (hv1 : v.1 = b) (hv : v.2.2.1 = b) (ok : BkOK B) (hB : cBk I b B) (hL : cLg I J B A L) (hJ : jN I S un) (hS : S 0 = (B, A, L)) : (¬ ((0 ≤ z ∧ z < B.nR) ∧ (0 ≤ x ∧ x < 14610) ∧ x ≠ (B.rl z.toNat).b) ∧ fX11_from 50 (iZ z) (iZ x) (mkS X I J v) = some (0, mkS X (gup I 196 3 (I 196 3 + 1)) J v)) ∨ (((0 ≤ z ∧ z < B.nR) ∧ (0 ≤ x ∧ x < 14610) ∧ x ≠ (B.rl z.toNat).b) ∧ ∃ I' J', fX11_from 50 (iZ z) (iZ x) (mkS X I J v) = some (1, mkS X I' J' v) ∧ frQ2 b I I' ∧ I' 188 7 = 0 ∧ (∀ a, (a < 66 ∨ 76 < a) → J' a = J a) ∧ cBk I' b (B.setR z.toNat ((B.rl z.toNat).at0 x.toNat) (B.stp z.toNat)) ∧ cLg I' J' (B.setR z.toNat ((B.rl z.toNat).at0 x.toNat) (B.stp z.toNat)) A L ∧ jN I' (sC (B.setR z.toNat ((B.rl z.toNat).at0 x.toNat) (B.stp z.toNat), A, L) S) (min 20 (un + 1))) := by
  have hb0 := bk_r hb
  have k1 := ok.1
  have den : gb2 (fX11_deny 50 3 (mkS X I J v)) (fun r6 s7 => some (r6, s7)) = some ((0 : Int32), mkS X (gup I 196 3 (I 196 3 + 1)) J v) := by
    have := c_deny (X := X) (I := I) (J := J) (v := v) (n := 3) (by decide)
    rw [show (3 : Int32) = iZ ((3 : Nat) : Int) from rfl, this]; rfl
  unfold fX11_from gX11_from
  simp only [bO, o50R, o50, hv1, bk_c hb, c_ruleAt hb hB.1 k1 z1 z2, gb2_some, gjn_eq, den]
  by_cases c : 0 ≤ z ∧ z < (B.nR : Int)
  · have hr : z.toNat < B.nR := by omega
    have hq := isRule_bk (n := z.toNat) hb (by omega)
    obtain ⟨r1, r2⟩ := hB.2.2.1 z.toNat hr
    obtain ⟨ru, s1, s2⟩ := ok.2.2.1 z.toNat hr
    have hbb := ru.b
    rw [if_pos c, if_neg (by omega), c_isDay x1 x2, gb2_some]
    by_cases c1 : 0 ≤ x ∧ x < 14610
    · rw [if_pos c1, if_neg (show ¬ (1 : Int32) = 0 by decide)]
      simp only [rl_i hq, bO, r1.2.1, o50, o50R]
      by_cases c3 : x = (B.rl z.toNat).b
      · rw [if_pos (by rw [c3]), den]
        exact Or.inl ⟨fun q => q.2.2 c3, rfl⟩
      · rw [if_neg (by rw [iZ_eq (by omega) (by omega) (by omega) (by omega)]; exact c3)]
        right
        refine ⟨⟨c, c1, c3⟩, ?_⟩
        obtain ⟨r, rfl⟩ : ∃ n : Nat, z = (n : Int) := ⟨z.toNat, by omega⟩
        obtain ⟨n, rfl⟩ : ∃ n : Nat, x = (n : Int) := ⟨x.toNat, by omega⟩
        rw [Int.toNat_natCast] at hr hq r1 r2 ru s1 s2 c3 hbb ⊢
        rw [Int.toNat_natCast]
        have hn : n < 14610 := by omega
        obtain ⟨q, h1, h2, h3, h4, h5⟩ := hJ
        obtain ⟨I1, a1, a2, a3, a4, a5, a6, a7, a8, a9⟩ := c_openRule (X := X) (v := v) (J := J) (x1 := 2) (x2 := iZ (r : Int)) (x3 := iZ ((B.rl r).b : Nat)) h1 h2 h3 h4
        obtain ⟨I3, e1, e2, e3, e4, e5, e6⟩ := c_beginAt (X := X) (v := v) (J := J) (I := I1) (d := n) hq hn
        simp only [o143, a1, gb2_some, rl_c hq, e1, bO, o50R, o60]
        have rr := (rule_all hq).2.2.2.2.2.1
        have hB1 : cBk I3 b (B.setR r ((B.rl r).at0 n) (B.stp r)) := by
          refine cBk_setR (I := I) k1 hr hB (fun a k p q w => ?_) ?_ ?_
          · rw [e2 a k (Or.inl (by omega)), a2 a k (by omega)]
          · exact cRl_beg (cRl_fr r1 (fun a k p q => a2 a k (by omega))) e2 e3 e4 e5 e6
          · rw [e2 _ 0 (Or.inr (Or.inl (by decide))), a2 _ 0 (by omega)]
            exact r2
        have hL1 : cLg I3 J B A L := cLg_fr hL k1 ok.2.1 (by rw [e2 60 7 (Or.inl (by omega)), a2 60 7 (by decide)]) (fun a k p q => by rw [e2 a k (Or.inl (by omega)), a2 a k (by omega)]) (fun _ _ _ => rfl)
        obtain ⟨I2, J2, d1, d2, d3, d4, d5⟩ := c_reckon (X := X) (v := v) hb hv (setR_ok ok (at0_ok ru hn) s1 s2) hr hB1 hL1
        unfold fX9_forget
        simp only [d1, gb2_some, bO, o50R, o188]
        have j2 : ∀ a k, 143 ≤ a → a ≤ 187 → gup I2 188 7 0 a k = I1 a k := fun a k p q => by rw [gup_r (by omega), d2 a k (by omega) (by omega) (by omega) (Or.inl (by omega)), e2 a k (Or.inl (by omega))]
        have okn : BkOK (B.setR r ((B.rl r).at0 n) (B.stp r)) := setR_ok ok (at0_ok ru hn) s1 s2
        refine ⟨gup I2 188 7 0, J2, rfl, fun a k w1 w2 w3 w4 w5 => ?_, gup_s, d3, cBk_fr d4 okn.1 (fun a k p q => gup_r (by omega)), cLg_fr d5 okn.1 okn.2.1 (gup_r (by decide)) (fun a k p q => gup_r (by omega)) (fun _ _ _ => rfl), ?_⟩
        · have e : gup I2 188 7 0 a k = I2 a k := by
            rcases w4 with w | w
            · exact gup_r w
            · exact gup_k w
          rw [e, d2 a k (by omega) (by omega) (by omega) w2, e2 a k (Or.inl (by omega)), a2 a k w3]
        · refine jN_fr (jN_push h1 h4 h5 a3 a4 a9 ?_) j2
          right; left
          refine ⟨a5, r, (B.rl r).b, hr, hbb, a6, a7, ?_⟩
          rw [hS]
          show (B, A, L) = ((B.setR r ((B.rl r).at0 n) (B.stp r)).setR r (((B.setR r ((B.rl r).at0 n) (B.stp r)).rl r).at0 (B.rl r).b) ((B.setR r ((B.rl r).at0 n) (B.stp r)).stp r), A, L)
          rw [setR_rl.1, setR_rl.2, at0_at0, setR_id]
    · rw [if_neg c1, if_pos rfl]
      simp only [o50, den]
      exact Or.inl ⟨fun q => c1 q.2.1, rfl⟩
  · rw [if_neg c, if_pos rfl]
    exact Or.inl ⟨fun q => c q.1, rfl⟩
/-- what the reference may write when a rule is changed -/
def frQ3 (I I' : Nat → Nat → Int32) : Prop := ∀ a k, a ≠ 281 → a ≠ 283 → (a ≠ 267 ∨ (k ≠ 44 ∧ k ≠ 45)) → a ≠ 292 → I' a k = I a k
theorem mLg_new {I I' : Nat → Nat → Int32} {B' : Bk} (h : mLg I B A L) (hR : B'.nR ≤ 6) (hS : B'.nS ≤ 6) (f : ∀ k, 12 ≤ k → I' 281 k = I 281 k) (z : ∀ k, k < 12 → I' 283 k = 0) : mLg I' B' A L := by
  refine ⟨fun w hw => Or.inl (z w (by unfold kn at hw; omega)), fun s hs => ?_⟩
  obtain ⟨x, y⟩ := h.2 s hs
  exact ⟨mrow_21 x (fun k p q => f k (by omega)), mrow_21 y (fun k p q => f k (by omega))⟩
theorem mq_every {I : Nat → Nat → Int32} {J : Nat → Nat → Int64} {z x : Int} (z1 : -2147483648 ≤ z) (z2 : z < 2147483648) (x1 : -2147483648 ≤ x) (x2 : x < 2147483648) (ok : BkOK B) (hB : mBk I B) (hL : mLg I B A L) (hH : hN I S un) (hS : S 0 = (B, A, L)) (hR6 : ∀ k, (S k).1.nR ≤ 6) : (¬ ((0 ≤ z ∧ z < B.nR) ∧ 1 ≤ x ∧ x ≤ 99 ∧ x ≠ B.stp z.toNat) ∧ fX12_every 267 (iZ z) (iZ x) (mkS X I J v) = some (0, mkS X (gup I 269 3 (I 269 3 + 1)) J v)) ∨ (((0 ≤ z ∧ z < B.nR) ∧ 1 ≤ x ∧ x ≤ 99 ∧ x ≠ B.stp z.toNat) ∧ ∃ I', fX12_every 267 (iZ z) (iZ x) (mkS X I J v) = some (1, mkS X I' J v) ∧ frQ3 I I' ∧ mBk I' (B.setR z.toNat (B.rl z.toNat) x.toNat) ∧ mLg I' (B.setR z.toNat (B.rl z.toNat) x.toNat) A L ∧ ∀ τ, hN I' (sC τ S) (min 20 (un + 1))) := by
  have k1 := ok.1
  have den : gb2 (fX12_isRefused 267 3 (mkS X I J v)) (fun r5 s6 => some (r5, s6)) = some ((0 : Int32), mkS X (gup I 269 3 (I 269 3 + 1)) J v) := by
    have := m_isRefused (X := X) (I := I) (J := J) (v := v) (n := 3) (by decide)
    rw [show (3 : Int32) = iZ ((3 : Nat) : Int) from rfl, this]; rfl
  unfold fX12_every gX12_every
  simp only [o267, m_isRule z1 z2 ok hB, gb2_some, gjn_eq, den]
  by_cases c : 0 ≤ z ∧ z < (B.nR : Int)
  · obtain ⟨r, rfl⟩ : ∃ n : Nat, z = (n : Int) := ⟨z.toNat, by omega⟩
    have hr : r < B.nR := by omega
    obtain ⟨hRl, hst, hnm⟩ := hB.2.2.1 r hr
    obtain ⟨ru, s1, s2⟩ := ok.2.2.1 r hr
    rw [Int.toNat_natCast, decide_eq_true c, if_neg (show ¬ tf true = 0 by decide), m_isIn, gb2_some, iZ_l x1 x2, show (1 : Int64).toInt = 1 from rfl, show (99 : Int64).toInt = 99 from rfl]
    by_cases c1 : 1 ≤ x ∧ x ≤ 99
    · rw [if_pos c1, if_neg (show ¬ (1 : Int32) = 0 by decide)]
      have e2 : (2 : Int32) * iZ (r : Int) = iZ ((2 * r : Nat) : Int) := by rw [show (2 : Int32) = iZ 2 from rfl, iZ_mul]; congr 1
      simp only [bO, o267R, e2, a281 _ _ _ _ (2 * r) (show 2 * r < 264 by omega), hst]
      by_cases c3 : x = B.stp r
      · rw [if_pos (by rw [c3])]
        simp only [o267, den]
        exact Or.inl ⟨fun q => q.2.2.2 c3, rfl⟩
      · rw [if_neg (by rw [iZ_eq (by omega) (by omega) (by omega) (by omega)]; omega)]
        right
        refine ⟨⟨c, c1.1, c1.2, c3⟩, ?_⟩
        obtain ⟨n, rfl⟩ : ∃ n : Nat, x = (n : Int) := ⟨x.toNat, by omega⟩
        rw [Int.toNat_natCast]
        obtain ⟨I1, a1, a2, a3⟩ := m_keeps (X := X) (v := v) (J := J) hH (by rw [hS]; exact snR_now hB hL) hR6
        simp only [o267, a1, gb2_some, o267R, bO]
        rw [b281 _ _ _ _ _ _ (show 2 * r < 264 by omega)]
        simp only [bO, gnar_2, o267]
        obtain ⟨I2, b1, b2, b3⟩ := m_allAnew (X := X) (J := J) (v := v) (I := gup I1 281 (2 * r) (iZ (n : Int)))
        rw [b1, gb2_some]
        have fr : frQ3 I I2 := fun a k p q w u => by rw [b2 a k q, gup_r p, a2 a k u w]
        have g281 : ∀ k, k ≠ 2 * r → I2 281 k = I 281 k := fun k hk => by rw [b2 281 k (by decide), gup_k hk, a2 281 k (by decide) (Or.inl (by decide))]
        have g2r : I2 281 (2 * r) = iZ (n : Int) := by rw [b2 281 _ (by decide), gup_s]
        refine ⟨I2, rfl, fr, mBk_setR hr hB fr (fun k p q w => g281 k q) ?_ g2r, mLg_new hL k1 ok.2.1 (fun k hk => g281 k (by omega)) b3, fun τ => hN_fr (a3 τ) ?_ ?_ (fun k => ?_)⟩
        · obtain ⟨y1, y2, y3⟩ := hRl
          have g : ∀ k, I2 276 k = I 276 k := fun k => fr 276 k (by decide) (by decide) (Or.inl (by decide)) (by decide)
          unfold mRl
          simp only [g]
          exact ⟨y1, by rw [g281 _ (by omega)]; exact y2, y3⟩
        · rw [b2 267 45 (by decide), gup_r (by decide)]
        · rw [b2 267 44 (by decide), gup_r (by decide)]
        · rw [b2 292 k (by decide), gup_r (by decide)]
    · rw [if_neg c1, if_pos rfl]
      simp only [o267, den]
      exact Or.inl ⟨fun q => c1 ⟨q.2.1, q.2.2.1⟩, rfl⟩
  · rw [decide_eq_false c, if_pos tf_f]
    exact Or.inl ⟨fun q => c q.1, rfl⟩
theorem mq_from {I : Nat → Nat → Int32} {J : Nat → Nat → Int64} {z x : Int} (z1 : -2147483648 ≤ z) (z2 : z < 2147483648) (x1 : -2147483648 ≤ x) (x2 : x < 2147483648) (ok : BkOK B) (hB : mBk I B) (hL : mLg I B A L) (hH : hN I S un) (hS : S 0 = (B, A, L)) (hR6 : ∀ k, (S k).1.nR ≤ 6) : (¬ ((0 ≤ z ∧ z < B.nR) ∧ (0 ≤ x ∧ x < 14610) ∧ x ≠ (B.rl z.toNat).b) ∧ fX12_from 267 (iZ z) (iZ x) (mkS X I J v) = some (0, mkS X (gup I 269 3 (I 269 3 + 1)) J v)) ∨ (((0 ≤ z ∧ z < B.nR) ∧ (0 ≤ x ∧ x < 14610) ∧ x ≠ (B.rl z.toNat).b) ∧ ∃ I', fX12_from 267 (iZ z) (iZ x) (mkS X I J v) = some (1, mkS X I' J v) ∧ frQ3 I I' ∧ mBk I' (B.setR z.toNat ((B.rl z.toNat).at0 x.toNat) (B.stp z.toNat)) ∧ mLg I' (B.setR z.toNat ((B.rl z.toNat).at0 x.toNat) (B.stp z.toNat)) A L ∧ ∀ τ, hN I' (sC τ S) (min 20 (un + 1))) := by
  have k1 := ok.1
  have den : gb2 (fX12_isRefused 267 3 (mkS X I J v)) (fun r5 s6 => some (r5, s6)) = some ((0 : Int32), mkS X (gup I 269 3 (I 269 3 + 1)) J v) := by
    have := m_isRefused (X := X) (I := I) (J := J) (v := v) (n := 3) (by decide)
    rw [show (3 : Int32) = iZ ((3 : Nat) : Int) from rfl, this]; rfl
  unfold fX12_from gX12_from
  simp only [o267, m_isRule z1 z2 ok hB, gb2_some, gjn_eq, den]
  by_cases c : 0 ≤ z ∧ z < (B.nR : Int)
  · obtain ⟨r, rfl⟩ : ∃ n : Nat, z = (n : Int) := ⟨z.toNat, by omega⟩
    have hr : r < B.nR := by omega
    obtain ⟨hRl, hst, hnm⟩ := hB.2.2.1 r hr
    obtain ⟨ru, s1, s2⟩ := ok.2.2.1 r hr
    have hbb := ru.b
    rw [Int.toNat_natCast, decide_eq_true c, if_neg (show ¬ tf true = 0 by decide), m_isDay x1 x2, gb2_some]
    by_cases c1 : 0 ≤ x ∧ x < 14610
    · rw [if_pos c1, if_neg (show ¬ (1 : Int32) = 0 by decide)]
      have e2 : (2 : Int32) * iZ (r : Int) + 1 = iZ ((2 * r + 1 : Nat) : Int) := by rw [show (2 : Int32) = iZ 2 from rfl, iZ_mul, aL]; congr 1
      simp only [o267, m_fromOf (show r < 6 by omega) hRl, gb2_some, den, e2]
      by_cases c3 : x = (B.rl r).b
      · rw [if_pos (by rw [c3])]
        exact Or.inl ⟨fun q => q.2.2 c3, rfl⟩
      · rw [if_neg (by rw [iZ_eq (by omega) (by omega) (by omega) (by omega)]; omega)]
        right
        refine ⟨⟨c, c1, c3⟩, ?_⟩
        obtain ⟨n, rfl⟩ : ∃ n : Nat, x = (n : Int) := ⟨x.toNat, by omega⟩
        rw [Int.toNat_natCast]
        obtain ⟨I1, a1, a2, a3⟩ := m_keeps (X := X) (v := v) (J := J) hH (by rw [hS]; exact snR_now hB hL) hR6
        simp only [o267, a1, gb2_some, o267R, bO]
        rw [b281 _ _ _ _ _ _ (show 2 * r + 1 < 264 by omega)]
        simp only [bO, gnar_2, o267]
        obtain ⟨I2, b1, b2, b3⟩ := m_allAnew (X := X) (J := J) (v := v) (I := gup I1 281 (2 * r + 1) (iZ (n : Int)))
        rw [b1, gb2_some]
        have fr : frQ3 I I2 := fun a k p q w u => by rw [b2 a k q, gup_r p, a2 a k u w]
        have g281 : ∀ k, k ≠ 2 * r + 1 → I2 281 k = I 281 k := fun k hk => by rw [b2 281 k (by decide), gup_k hk, a2 281 k (by decide) (Or.inl (by decide))]
        have g2r : I2 281 (2 * r + 1) = iZ (n : Int) := by rw [b2 281 _ (by decide), gup_s]
        refine ⟨I2, rfl, fr, mBk_setR hr hB fr (fun k p q w => g281 k w) ?_ (by rw [g281 _ (by omega)]; exact hst), mLg_new hL k1 ok.2.1 (fun k hk => g281 k (by omega)) b3, fun τ => hN_fr (a3 τ) ?_ ?_ (fun k => ?_)⟩
        · obtain ⟨y1, y2, y3⟩ := hRl
          have g : ∀ k, I2 276 k = I 276 k := fun k => fr 276 k (by decide) (by decide) (Or.inl (by decide)) (by decide)
          unfold mRl
          simp only [g]
          exact ⟨y1, g2r, y3⟩
        · rw [b2 267 45 (by decide), gup_r (by decide)]
        · rw [b2 267 44 (by decide), gup_r (by decide)]
        · rw [b2 292 k (by decide), gup_r (by decide)]
    · rw [if_neg c1, if_pos rfl]
      simp only [o267, den]
      exact Or.inl ⟨fun q => c1 q.2.1, rfl⟩
  · rw [decide_eq_false c, if_pos tf_f]
    exact Or.inl ⟨fun q => c q.1, rfl⟩
end gFm
