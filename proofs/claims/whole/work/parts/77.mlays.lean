/-! THE REFERENCE lays what is asked for -/
def frY (I I' : Nat → Nat → Int32) : Prop := ∀ r k, r < 282 ∨ 286 < r → (r ≠ 267 ∨ k ≠ 34) → I' r k = I r k
theorem frY_r (I : Nat → Nat → Int32) : frY I I := fun _ _ _ _ => rfl
theorem frY_t {I I' I'' : Nat → Nat → Int32} (h1 : frY I I') (h2 : frY I' I'') : frY I I'' := fun r k a b => (h2 r k a b).trans (h1 r k a b)
theorem frY_X {c : Nat} {I I' : Nat → Nat → Int32} (h : frX c I I') (h1 : 282 ≤ c) (h2 : c ≤ 286) : frY I I' := fun r k a _ => h r k (by omega)
theorem calOK_Y {I I' : Nat → Nat → Int32} (h : calOK I) (f : ∀ r k, 271 ≤ r → r ≤ 274 → I' r k = I r k) : calOK I' := by
  intro k hk
  rw [f 271 k (by omega) (by omega), f 272 k (by omega) (by omega), f 273 k (by omega) (by omega), f 274 k (by omega) (by omega)]
  exact h k hk
theorem mBk_fr {I I' : Nat → Nat → Int32} {B : Bk} (h : mBk I B) (f1 : ∀ k, I' 276 k = I 276 k) (f2 : ∀ k, I' 278 k = I 278 k) (f3 : ∀ k, k < 12 → I' 281 k = I 281 k) (hR : B.nR ≤ 6) (f4 : I' 267 23 = I 267 23) (f5 : I' 267 17 = I 267 17) (f6 : ∀ r k, 271 ≤ r → r ≤ 274 → I' r k = I r k) : mBk I' B := by
  obtain ⟨h1, h2, h3, h4, h5⟩ := h
  refine ⟨by rw [f1]; exact h1, by rw [f1]; exact h2, ?_, ?_, ?_⟩
  · intro r hr
    obtain ⟨a, b, c⟩ := h3 r hr
    exact ⟨mRl_fr a f1 (f3 _ (by omega)), by rw [f3 _ (by omega)]; exact b, by rw [f1]; exact c⟩
  · intro s hs
    obtain ⟨a, b, c, d⟩ := h4 s hs
    exact ⟨mseg_fr f2 a, by rw [f1]; exact b, by rw [f1]; exact c, by rw [f1]; exact d⟩
  · rw [f4, f5]
    rcases h5 with ⟨a, b, c⟩ | q
    · exact Or.inl ⟨a, b, calOK_Y c f6⟩
    · exact Or.inr q
theorem mBk_Y {I I' : Nat → Nat → Int32} {B : Bk} (h : mBk I B) (hR : B.nR ≤ 6) (f : frY I I') : mBk I' B := mBk_fr h (fun k => f 276 k (by omega) (by omega)) (fun k => f 278 k (by omega) (by omega)) (fun k _ => f 281 k (by omega) (by omega)) hR (f 267 23 (by omega) (by omega)) (f 267 17 (by omega) (by omega)) (fun r k _ _ => f r k (by omega) (by omega))
theorem mLg_step {I I' : Nat → Nat → Int32} {B : Bk} {A L : Nat → Nat → Bool} {w : Nat} (h : mLg I B A L) (f : frY I I') (f2 : ∀ k, k < 14610 * w ∨ 14610 * w + 14610 ≤ k → I' 282 k = I 282 k) (f3 : ∀ x, x ≠ w → I' 283 x = I 283 x) (h1 : I' 283 w = 1) (h2 : daysR I' (14610 * w) (dy B A L w)) : mLg I' B A L := by
  refine ⟨fun x hx => ?_, fun s hs => ?_⟩
  · by_cases c : x = w
    · rw [c]; exact Or.inr ⟨h1, h2⟩
    · rw [f3 x c]
      rcases h.1 x hx with q | ⟨q, q2⟩
      · exact Or.inl q
      · refine Or.inr ⟨q, fun d hd => ?_⟩
        rw [f2 _ (by omega)]
        exact q2 d hd
  · obtain ⟨a, b⟩ := h.2 s hs
    exact ⟨mrow_fr a (fun k => f 281 k (by omega) (by omega)), mrow_fr b (fun k => f 281 k (by omega) (by omega))⟩
section gLy
variable {X : Nat × (Nat → Int32)} {J : Nat → Nat → Int64} {v : Vt} {B : Bk} {A L : Nat → Nat → Bool}
theorem m_layR {I : Nat → Nat → Int32} {r : Nat} (ok : BkOK B) (hB : mBk I B) (hL : mLg I B A L) (hr : r < B.nR) : ∃ I', (gb2 (fX12_laysBase 267 (iZ (r : Int)) (mkS X I J v)) fun (_ : Unit) s6 => (ggR s6 267 12 29).bind fun v7 => (gaI s6 v7 2 (2 * iZ (r : Int))).bind fun v8 => (ggR s6 267 12 30).bind fun v9 => gb2 (gcv s6 267 12 (fX12_laysDaysBy 267 (iZ (r : Int)) v8 v9 (14610 * iZ (r : Int)) s6)) fun (_ : Unit) s11 => (ggR s11 267 12 31).bind fun v12 => (saI s11 v12 4 (iZ (r : Int)) 1).bind fun s13 => some ((), s13)) = some ((), mkS X I' J v) ∧ frY I I' ∧ mLg I' B A L ∧ I' 283 r = 1 ∧ (∀ x, x ≠ r → I' 283 x = I 283 x) := by
  have hR6 := ok.1
  obtain ⟨o1, o2, o3⟩ := ok.2.2.1 r hr
  obtain ⟨h1, h2, h3, h4, h5⟩ := hB
  obtain ⟨q1, q2, q3⟩ := h3 r hr
  have hc : calOK I := by
    rcases h5 with ⟨_, _, c⟩ | ⟨_, c, _⟩
    · exact c
    · omega
  obtain ⟨I1, a1, a2, a3⟩ := m_laysBase (X := X) (J := J) (v := v) (show r < 6 by omega) q1 o1 hc
  rw [a1, gb2_some]
  simp only [bO, o267R, pR, m_c]
  rw [show (2 : Int) * (r : Int) = ((2 * r : Nat) : Int) by omega, show (14610 : Int) * (r : Int) = ((14610 * r : Nat) : Int) by omega, a281 _ _ _ _ _ (by omega), a2 281 _ (by decide), q2]
  simp only [bO, o267R]
  obtain ⟨I2, b1, b2, b3, b4⟩ := m_laysDaysBy (X := X) (J := J) (v := v) (I := I1) (r := r) (R := B.rl r) (n := B.stp r) (a := 282) (N := 175320) (at0 := 14610 * r) (by decide) (by decide) (fun I i x hi => b282 _ _ _ _ _ _ hi) (by omega) (by decide) (by omega) o1 o2 o3 (mRl_X q1 a2 (by decide) (by decide)) (calOK_X hc a2 (by decide)) a3
  rw [b1, gb2_some]
  simp only [bO, o267R]
  rw [b283 _ _ _ _ _ _ (show r < 12 by omega), show gnar 4 1 = 1 by decide]
  have f1 : frY I (gup I2 283 r 1) := frY_t (frY_X a2 (by decide) (by decide)) (frY_t (frY_X b2 (by decide) (by decide)) (frY_X (frX_g (c := 283)) (by decide) (by decide)))
  refine ⟨gup I2 283 r 1, rfl, f1, ?_, gup_s, ?_⟩
  · refine mLg_step (w := r) hL f1 (fun k hk => ?_) (fun x hx => ?_) gup_s (fun d hd => ?_)
    · rw [gup_r (by decide), b3 k hk, a2 282 k (by decide)]
    · rw [gup_k hx, b2 283 x (by decide), a2 283 x (by decide)]
    · rw [gup_r (by decide), b4 d hd, dy_rule (by omega)]
  · intro x hx
    rw [gup_k hx, b2 283 x (by decide), a2 283 x (by decide)]
theorem m_lays0' {I : Nat → Nat → Int32} {r : Nat} (ok : BkOK B) (hB : mBk I B) (hL : mLg I B A L) (hr : r < B.nR) : ∃ I', fX12_lays0 267 (iZ (r : Int)) (mkS X I J v) = some ((), mkS X I' J v) ∧ frY I I' ∧ mLg I' B A L ∧ I' 283 r = 1 ∧ (∀ x, x ≠ r → I' 283 x = I 283 x) := by
  have hR6 := ok.1
  unfold fX12_lays0
  simp only [bO, o267R]
  rw [a283 _ _ _ _ _ (show r < 12 by omega)]
  simp only [bO, m_c]
  rcases hL.1 r (Or.inl hr) with q | ⟨q, _⟩
  · rw [q, if_pos rfl]
    exact m_layR ok hB hL hr
  · rw [q, if_neg (by decide)]
    exact ⟨I, rfl, frY_r I, hL, q, fun _ _ => rfl⟩
theorem m_laysL1 {k74 : gH → Option (Unit × gH)} {x1 : Int32} (ok : BkOK B) : ∀ (m r fuel : Nat) (I : Nat → Nat → Int32), r + m = B.nR → m < fuel → mBk I B → mLg I B A L → (∀ x, x < r → I 283 x = 1) → ∃ I', gX12_lays_L53 k74 267 x1 fuel (iZ (r : Int)) (mkS X I J v) = k74 (mkS X I' J v) ∧ frY I I' ∧ mLg I' B A L ∧ (∀ x, x < B.nR → I' 283 x = 1) := by
  have hR6 := ok.1
  intro m
  induction m with
  | zero =>
    intro r fuel I hr hf hB hL h0
    obtain ⟨f, rfl⟩ : ∃ n, fuel = n + 1 := ⟨fuel - 1, by omega⟩
    refine ⟨I, ?_, frY_r I, hL, fun x hx => h0 x (by omega)⟩
    unfold gX12_lays_L53
    simp only [bO, o267R]
    rw [show (0 : Int32) = iZ ((0 : Nat) : Int) from rfl, a276 _ _ _ _ _ (by decide)]
    simp only [bO, hB.1]
    rw [if_neg (by rw [iZ_lt (by omega) (by omega) (by omega) (by omega)]; omega)]
  | succ m ih =>
    intro r fuel I hr hf hB hL h0
    obtain ⟨f, rfl⟩ : ∃ n, fuel = n + 1 := ⟨fuel - 1, by omega⟩
    unfold gX12_lays_L53
    simp only [bO, o267R]
    rw [show (0 : Int32) = iZ ((0 : Nat) : Int) from rfl, a276 _ _ _ _ _ (by decide)]
    simp only [bO, hB.1, m_c]
    rw [if_pos (by rw [iZ_lt (by omega) (by omega) (by omega) (by omega)]; omega)]
    obtain ⟨I1, a1, a2, a3, a4, a5⟩ := m_lays0' (X := X) (J := J) (v := v) ok hB hL (show r < B.nR by omega)
    rw [a1, gb2_some, show iZ (r : Int) + 1 = iZ ((r + 1 : Nat) : Int) from by rw [aL]; rfl]
    obtain ⟨I2, b1, b2, b3, b4⟩ := ih (r + 1) f I1 (by omega) (by omega) (mBk_Y hB hR6 a2) a3 (fun x hx => by
      by_cases c : x = r
      · rw [c]; exact a4
      · rw [a5 x c]; exact h0 x (by omega))
    exact ⟨I2, b1, frY_t a2 b2, b3, b4⟩
theorem m_laysL2 {t : Nat} (ok : BkOK B) (ht : t < B.nS) : ∀ (m s fuel : Nat) (I : Nat → Nat → Int32), s + m = t + 1 → m < fuel → mBk I B → mLg I B A L → (∀ x, kn B.nR s x → I 283 x = 1) → ∃ I', gX12_lays_L76 267 (iZ ((6 + t : Nat) : Int)) fuel (iZ (s : Int)) (mkS X I J v) = some ((), mkS X I' J v) ∧ frY I I' ∧ mLg I' B A L ∧ (∀ x, kn B.nR (t + 1) x → I' 283 x = 1) := by
  obtain ⟨k1, k2, k3, k4, k5, k6, k7⟩ := ok
  intro m
  induction m with
  | zero =>
    intro s fuel I hs hf hB hL h0
    obtain ⟨f, rfl⟩ : ∃ n, fuel = n + 1 := ⟨fuel - 1, by omega⟩
    refine ⟨I, ?_, frY_r I, hL, fun x hx => h0 x (by unfold kn at hx ⊢; omega)⟩
    unfold gX12_lays_L76
    rw [sL, if_pos (by rw [iZ_lt (by omega) (by omega) (by omega) (by omega)]; omega)]
  | succ m ih =>
    intro s fuel I hs hf hB hL h0
    obtain ⟨f, rfl⟩ : ∃ n, fuel = n + 1 := ⟨fuel - 1, by omega⟩
    unfold gX12_lays_L76
    rw [sL, if_neg (by rw [iZ_lt (by omega) (by omega) (by omega) (by omega)]; omega)]
    simp only [bO, o267R, aR]
    rw [show (6 : Int) + (s : Int) = ((6 + s : Nat) : Int) by omega, a283 _ _ _ _ _ (show 6 + s < 12 by omega), show iZ (s : Int) + 1 = iZ ((s + 1 : Nat) : Int) from by rw [aL]; rfl]
    simp only [bO, m_c]
    rcases hL.1 (6 + s) (Or.inr (by omega)) with q | ⟨q, _⟩
    · rw [q, if_pos rfl]
      obtain ⟨h1, h2, h3, h4, h5⟩ := hB
      obtain ⟨e1, e2, e3, e4⟩ := h4 s (by omega)
      have hle := mE_mono (cs := B.cs) (show s + 1 ≤ B.nS by omega)
      obtain ⟨I1, a1, a2, a3⟩ := m_laysSet (X := X) (J := J) (v := v) (I := I) (K := dyT B A L s) (kn := kn B.nR s) (t := s) (k := mE B.cs s) (L := B.cs s) (A := A s) (B := L s) (by omega) (by show mE B.cs (s + 1) ≤ 1500; omega) e1 e2 e3 (k4 s (by omega)) (fun w hw d hd => by
        rcases hL.1 w (by unfold kn at hw ⊢; omega) with z | ⟨_, z⟩
        · rw [h0 w hw] at z; exact absurd z (by decide)
        · rw [dy_lo (s := s) (by omega) (by unfold kn at hw; omega)] at z
          exact z d hd) (hL.2 s (by omega)).1 (hL.2 s (by omega)).2
      rw [a1, gb2_some]
      simp only [bO, o267R]
      rw [b283 _ _ _ _ _ _ (show 6 + s < 12 by omega), show gnar 4 1 = 1 by decide]
      have f1 : frY I (gup I1 283 (6 + s) 1) := frY_t (fun r k x y => a2.1 r k (by omega) (by omega) (by omega) y) (frY_X (frX_g (c := 283)) (by decide) (by decide))
      have hL1 : mLg (gup I1 283 (6 + s) 1) B A L := by
        refine mLg_step (w := 6 + s) hL f1 (fun k hk => ?_) (fun x hx => ?_) gup_s (fun d hd => ?_)
        · rw [gup_r (by decide), a2.2 k hk]
        · rw [gup_k hx, a2.1 283 x (by decide) (by decide) (by decide) (Or.inl (by decide))]
        · rw [gup_r (by decide), a3 d hd, dy_set (by omega)]
      obtain ⟨I2, b1, b2, b3, b4⟩ := ih (s + 1) f (gup I1 283 (6 + s) 1) (by omega) (by omega) (mBk_Y ⟨h1, h2, h3, h4, h5⟩ k1 f1) hL1 (fun x hx => by
        by_cases c : x = 6 + s
        · rw [c, gup_s]
        · rw [gup_k c, a2.1 283 x (by decide) (by decide) (by decide) (Or.inl (by decide))]
          exact h0 x (by unfold kn at hx ⊢; omega))
      exact ⟨I2, b1, frY_t f1 b2, b3, b4⟩
    · rw [q, if_neg (by decide)]
      obtain ⟨I2, b1, b2, b3, b4⟩ := ih (s + 1) f I (by omega) (by omega) hB hL (fun x hx => by
        by_cases c : x = 6 + s
        · rw [c]; exact q
        · exact h0 x (by unfold kn at hx ⊢; omega))
      exact ⟨I2, b1, b2, b3, b4⟩
theorem m_lays {I : Nat → Nat → Int32} {w : Nat} (ok : BkOK B) (hB : mBk I B) (hL : mLg I B A L) (hw : kn B.nR B.nS w) : ∃ I', fX12_lays 267 (iZ (w : Int)) (mkS X I J v) = some ((), mkS X I' J v) ∧ frY I I' ∧ mLg I' B A L ∧ daysR I' (14610 * w) (dy B A L w) := by
  have k1 := ok.1
  have k2 := ok.2.1
  have fin : ∀ {I' : Nat → Nat → Int32}, mLg I' B A L → I' 283 w = 1 → daysR I' (14610 * w) (dy B A L w) := by
    intro I' h1 h2
    rcases h1.1 w hw with z | ⟨_, z⟩
    · rw [h2] at z; exact absurd z (by decide)
    · exact z
  unfold fX12_lays
  by_cases c : w < 6
  · rw [if_pos (by rw [cL_lt (by omega) (by omega) (by decide)]; omega)]
    have hr : w < B.nR := by unfold kn at hw; omega
    simp only [bO, o267R]
    rw [a283 _ _ _ _ _ (show w < 12 by omega)]
    simp only [bO, m_c]
    rcases hL.1 w hw with q | ⟨q, _⟩
    · rw [q, if_pos rfl]
      obtain ⟨I', a1, a2, a3, a4, a5⟩ := m_layR (X := X) (J := J) (v := v) ok hB hL hr
      exact ⟨I', a1, a2, a3, fin a3 a4⟩
    · rw [q, if_neg (by decide)]
      exact ⟨I, rfl, frY_r I, hL, fin hL q⟩
  · have hw0 : w < 12 := by unfold kn at hw; omega
    rw [if_neg (by rw [cL_lt (by omega) (by omega) (by decide)]; omega)]
    obtain ⟨t, rfl⟩ : ∃ t, w = 6 + t := ⟨w - 6, by omega⟩
    have ht : t < B.nS := by unfold kn at hw; omega
    obtain ⟨I1, a1, a2, a3, a4⟩ := m_laysL1 (X := X) (J := J) (v := v) (A := A) (L := L) (k74 := fun s20 => gX12_lays_L76 267 (iZ ((6 + t : Nat) : Int)) 20000 0 s20) (x1 := iZ ((6 + t : Nat) : Int)) ok B.nR 0 20000 I (by omega) (by omega) hB hL (fun x hx => absurd hx (Nat.not_lt_zero x))
    obtain ⟨I2, b1, b2, b3, b4⟩ := m_laysL2 (X := X) (J := J) (v := v) (A := A) (L := L) (t := t) ok ht (t + 1) 0 20000 I1 (by omega) (by omega) (mBk_Y hB k1 a2) a3 (fun x hx => a4 x (by unfold kn at hx; omega))
    exact ⟨I2, a1.trans b1, frY_t a2 b2, b3, fin b3 (b4 _ (by unfold kn; omega))⟩
theorem iZ_wrap (a : Int) : iZ (a + 4294967296) = iZ a := by
  rw [← iZ_add, show iZ 4294967296 = 0 from by decide]
  exact Int32.add_zero (iZ a)
theorem m_isRule {I : Nat → Nat → Int32} {z : Int} (z1 : -2147483648 ≤ z) (z2 : z < 2147483648) (ok : BkOK B) (hB : mBk I B) : fX12_isRule 267 (iZ z) (mkS X I J v) = some (tf (decide (0 ≤ z ∧ z < B.nR)), mkS X I J v) := by
  have k1 := ok.1
  unfold fX12_isRule gX12_isRule
  simp only [bO, o267, o267R]
  rcases hB.2.2.2.2 with ⟨q, _, _⟩ | ⟨q, q2, _⟩
  · rw [q, if_neg (by decide), show (0 : Int32) = iZ ((0 : Nat) : Int) from rfl, a276 _ _ _ _ _ (by decide)]
    simp only [bO, hB.1, sL, m_isIn, iZ_l z1 z2]
    rw [iZ_l (by omega) (by omega), show Int64.toInt 0 = 0 from rfl]
    by_cases c : 0 ≤ z ∧ z < (B.nR : Int)
    · rw [if_pos (show 0 ≤ z ∧ z ≤ (B.nR : Int) - 1 by omega), decide_eq_true c]; rfl
    · rw [if_neg (show ¬ (0 ≤ z ∧ z ≤ (B.nR : Int) - 1) by omega), decide_eq_false c]; rfl
  · rw [q, if_pos rfl, decide_eq_false (by omega)]; rfl
theorem m_isSet {I : Nat → Nat → Int32} {z : Int} (z1 : -2147483648 ≤ z) (z2 : z < 2147483648) (ok : BkOK B) (hB : mBk I B) : fX12_isSet 267 (iZ z) (mkS X I J v) = some (tf (decide (0 ≤ z ∧ z < B.nS)), mkS X I J v) := by
  have k1 := ok.2.1
  unfold fX12_isSet gX12_isSet
  simp only [bO, o267, o267R]
  rcases hB.2.2.2.2 with ⟨q, _, _⟩ | ⟨q, _, q2⟩
  · rw [q, if_neg (by decide), show (1 : Int32) = iZ ((1 : Nat) : Int) from rfl, a276 _ _ _ _ _ (by decide)]
    simp only [bO, hB.2.1]
    rw [show iZ (B.nS : Int) - iZ ((1 : Nat) : Int) = iZ ((B.nS : Int) - 1) from iZ_sub _ _, m_isIn, iZ_l z1 z2, iZ_l (by omega) (by omega), show Int64.toInt 0 = 0 from rfl]
    by_cases c : 0 ≤ z ∧ z < (B.nS : Int)
    · rw [if_pos (show 0 ≤ z ∧ z ≤ (B.nS : Int) - 1 by omega), decide_eq_true c]; rfl
    · rw [if_neg (show ¬ (0 ≤ z ∧ z ≤ (B.nS : Int) - 1) by omega), decide_eq_false c]; rfl
  · rw [q, if_pos rfl, decide_eq_false (by omega)]; rfl
theorem m_isWhat {I : Nat → Nat → Int32} {z : Int} (z1 : -2147483648 ≤ z) (z2 : z < 2147483648) (ok : BkOK B) (hB : mBk I B) : fX12_isWhat 267 (iZ z) (mkS X I J v) = some (tf (decide ((0 ≤ z ∧ z < B.nR) ∨ (6 ≤ z ∧ z < 6 + B.nS))), mkS X I J v) := by
  have k1 := ok.1
  have k2 := ok.2.1
  unfold fX12_isWhat gX12_isWhat
  simp only [m_isIn, bO, iZ_l z1 z2, sL, m_c, m_isRule z1 z2 ok hB]
  rw [show Int64.toInt 0 = 0 from rfl, show Int64.toInt 5 = 5 from rfl]
  by_cases c : 0 ≤ z ∧ z ≤ 5
  · rw [if_pos c, if_neg (by decide), gzr_tf]
    congr 3
    apply Bool.eq_iff_iff.mpr
    rw [decide_eq_true_eq, decide_eq_true_eq]; omega
  · rw [if_neg c, if_pos rfl]
    by_cases c2 : -2147483642 ≤ z
    · rw [m_isSet (by omega) (by omega) ok hB, gb2_some, gzr_tf]
      congr 3
      apply Bool.eq_iff_iff.mpr
      rw [decide_eq_true_eq, decide_eq_true_eq]; omega
    · rw [← iZ_wrap, m_isSet (by omega) (by omega) ok hB, gb2_some, gzr_tf]
      congr 3
      apply Bool.eq_iff_iff.mpr
      rw [decide_eq_true_eq, decide_eq_true_eq]; omega
theorem m_isAsked {I : Nat → Nat → Int32} {z : Int} (z1 : -2147483648 ≤ z) (z2 : z < 2147483648) (ok : BkOK B) (hB : mBk I B) (hL : mLg I B A L) : ∃ I', fX12_isAsked 267 (iZ z) (mkS X I J v) = some (tf (decide ((0 ≤ z ∧ z < B.nR) ∨ (6 ≤ z ∧ z < 6 + B.nS))), mkS X I' J v) ∧ frY I I' ∧ mLg I' B A L ∧ ((0 ≤ z ∧ z < B.nR) ∨ (6 ≤ z ∧ z < 6 + B.nS) → daysR I' (14610 * z.toNat) (dy B A L z.toNat)) := by
  have k1 := ok.1
  have k2 := ok.2.1
  unfold fX12_isAsked gX12_isAsked
  simp only [m_c, m_isWhat z1 z2 ok hB, bO]
  by_cases c : (0 ≤ z ∧ z < (B.nR : Int)) ∨ (6 ≤ z ∧ z < 6 + (B.nS : Int))
  · rw [decide_eq_true c, if_neg (by decide)]
    obtain ⟨w, rfl⟩ : ∃ n : Nat, z = (n : Int) := ⟨z.toNat, by omega⟩
    obtain ⟨I', a1, a2, a3, a4⟩ := m_lays (X := X) (J := J) (v := v) (w := w) ok hB hL (by unfold kn; omega)
    rw [a1]
    exact ⟨I', rfl, a2, a3, fun _ => a4⟩
  · rw [decide_eq_false c, if_pos tf_f]
    exact ⟨I, rfl, frY_r I, hL, fun q => absurd q c⟩
theorem m_isOn {I : Nat → Nat → Int32} {w d : Nat} {P : Nat → Bool} (hw : w < 12) (hd : d < 14610) (h : daysR I (14610 * w) P) : fX12_isOn 267 (iZ (w : Int)) (iZ (d : Int)) (mkS X I J v) = some (tf (P d), mkS X I J v) := by
  unfold fX12_isOn gX12_isOn
  simp only [bO, o267R, pR, iZ_add]
  rw [show (14610 : Int) * (w : Int) + (d : Int) = ((14610 * w + d : Nat) : Int) by omega, a282 _ _ _ _ _ (by omega)]
  simp only [bO, h d hd]
  exact gzr_tf
end gLy
