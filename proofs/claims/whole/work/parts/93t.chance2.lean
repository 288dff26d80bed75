/-! CHANCE: the calls -/
section gCi
variable {X : Nat × (Nat → Int32)} {v : Vt} {B : Bk} {A L : Nat → Nat → Bool} {b : Nat} {S : Nat → St} {un : Nat}
/-- what chance leaves -/
def chEnd (B : Bk) (z n : Nat) (A L : Nat → Nat → Bool) : ChS := chRun B n (z, (A, L), [])
def frQ7 (I I' : Nat → Nat → Int32) : Prop := ∀ a k, (a ≠ 50 ∨ k ≠ 9) → (a ≠ 60 ∨ (k ≠ 6 ∧ k ≠ 7)) → ¬ (119 ≤ a ∧ a ≤ 187) → I' a k = I a k
theorem cq_chance {I : Nat → Nat → Int32} {J : Nat → Nat → Int64} {x : Int} {z : Nat} (x1 : -2147483648 ≤ x) (x2 : x < 2147483648) (hb : isBk b) (hv1 : v.1 = b) (hv : v.2.2.1 = b) (ok : BkOK B) (hg : gdM B.nS (A, L)) (hB : cBk I b B) (hL : cLg I J B A L) (hJ : jN I S un) (hS : S 0 = (B, A, L)) (h9 : I 50 9 = iZ (z : Int)) (hz : z < 2147483648) : (¬ (1 ≤ x ∧ x ≤ 40 ∧ B.nS ≠ 0) ∧ fX11_chance 50 (iZ x) (mkS X I J v) = some (-1, mkS X (gup I 196 2 (I 196 2 + 1)) J v)) ∨ ((1 ≤ x ∧ x ≤ 40 ∧ B.nS ≠ 0) ∧ ∃ I' J', fX11_chance 50 (iZ x) (mkS X I J v) = some (iZ ((chEnd B z x.toNat A L).2.2.length : Int), mkS X I' J' v) ∧ frQ7 I I' ∧ (∀ a, (a < 66 ∨ 118 < a) → J' a = J a) ∧ I' 50 9 = iZ ((chEnd B z x.toNat A L).1 : Int) ∧ (chEnd B z x.toNat A L).1 < 2147483648 ∧ cLg I' J' B (chEnd B z x.toNat A L).2.1.1 (chEnd B z x.toNat A L).2.1.2 ∧ gdM B.nS (chEnd B z x.toNat A L).2.1 ∧ jN I' (sC (B, (chEnd B z x.toNat A L).2.1) S) (min 20 (un + 1))) := by
  have hb0 := bk_r hb
  have k1 := ok.1
  have k2 := ok.2.1
  have den : gb2 (fX11_refuse 50 2 (mkS X I J v)) (fun r3 s4 => some (r3, s4)) = some ((-1 : Int32), mkS X (gup I 196 2 (I 196 2 + 1)) J v) := by
    have := c_refuse (X := X) (I := I) (J := J) (v := v) (n := 2) (by decide)
    rw [show (2 : Int32) = iZ ((2 : Nat) : Int) from rfl, this]; rfl
  unfold fX11_chance
  simp only [gjn_eq, o50, den, bO, o50R, hv1, bk_i hb, hB.2.1]
  by_cases c1 : x < 1
  · rw [if_pos (by rw [cL_lt (by omega) (by omega) (by decide)]; exact c1)]
    exact Or.inl ⟨by omega, rfl⟩
  · rw [if_neg (by rw [cL_lt (by omega) (by omega) (by decide)]; exact c1)]
    by_cases c2 : 40 < x
    · rw [if_pos (by rw [cR_lt (by omega) (by omega) (by decide)]; exact c2)]
      exact Or.inl ⟨by omega, rfl⟩
    · rw [if_neg (by rw [cR_lt (by omega) (by omega) (by decide)]; exact c2)]
      by_cases c3 : B.nS = 0
      · rw [if_pos (by rw [c3]; rfl)]
        exact Or.inl ⟨fun q => q.2.2 c3, rfl⟩
      · rw [if_neg (by rw [cL_eq (by omega) (by omega) (by decide)]; omega)]
        right
        refine ⟨⟨by omega, by omega, c3⟩, ?_⟩
        obtain ⟨n, rfl⟩ : ∃ n : Nat, x = (n : Int) := ⟨x.toNat, by omega⟩
        rw [Int.toNat_natCast]
        unfold chEnd
        obtain ⟨q, h1, h2, h3, h4, h5⟩ := hJ
        obtain ⟨I1, a1, a2, a3, a4, a5, a6, a7, a8, a9⟩ := c_openRule (X := X) (v := v) (J := J) (x1 := 0) (x2 := -1) (x3 := -1) h1 h2 h3 h4
        obtain ⟨t, ht⟩ : ∃ t, t = (q + 1) % 20 := ⟨_, rfl⟩
        have ht20 : t < 20 := by omega
        rw [← ht] at a3 a5 a8 a9
        have om : fX4_openMarks 143 (mkS X I J v) = some ((), mkS X I1 J v) := by
          unfold fX4_openMarks
          simp only [o143, a1, gb2_some]
        obtain ⟨R, hR⟩ : ∃ R, R = 148 + 2 * t := ⟨_, rfl⟩
        have lc : fX4_latestChanges 143 (mkS X I1 J v) = some (R, mkS X I1 J v) := by
          rw [hR]
          unfold fX4_latestChanges
          simp only [bO, o143, o143R, a3, g147 _ _ ht20]
        simp only [o143, om, gb2_some, bO, o50R]
        rw [lc, gb2_some, hR]
        have hB1 : cBk I1 b B := cBk_fr hB k1 (fun r k x y => a2 r k (by omega))
        have hL1 : cLg I1 J B A L := cLg_fr hL k1 k2 (a2 60 7 (by decide)) (fun r k x y => a2 r k (by omega)) (fun _ _ _ => rfl)
        obtain ⟨I', J', z1, z2, z3, z4, z5, z6, z7, z8, z9⟩ := c_chL (X := X) (v := v) (o := (A, L)) ht20 (show n ≤ 40 by omega) hb hv1 hv ok (by omega) n 0 20000 I1 J (z, (A, L), []) (by omega) (by omega) (by rw [a2 50 9 (by decide)]; exact h9) hz hB1 hL1 hg ⟨Nat.zero_le _, a8, fun j hj => absurd hj (Nat.not_lt_zero j)⟩ (Nat.zero_le _) ⟨trivial, rfl⟩
        obtain ⟨C, hC⟩ : ∃ C, chRun B n (z, (A, L), []) = C := ⟨_, rfl⟩
        rw [hC] at z1 z4 z5 z6 z7 z8 z9 ⊢
        refine ⟨I', J', z1, fun a k y1 y2 y3 => ?_, z3, z4, z5, z6, z7, ?_⟩
        · rw [z2 a k y1 y2 (by omega) (by omega) (by omega), a2 a k (by omega)]
        · have fz : ∀ a k, 143 ≤ a → a ≤ 187 → a ≠ 148 + 2 * t → a ≠ 148 + 2 * t + 1 → I' a k = I1 a k := fun a k y1 y2 y3 y4 => z2 a k (Or.inl (by omega)) (Or.inl (by omega)) (by omega) y3 y4
          refine jN_push (I := I) h1 h4 h5 ?_ ?_ (fun p hp hpt => ?_) ?_
          · rw [fz 143 4 (by decide) (by decide) (by omega) (by omega), ← ht]; exact a3
          · rw [fz 143 5 (by decide) (by decide) (by omega) (by omega)]; exact a4
          · rw [← ht] at hpt
            obtain ⟨b1, b2, b3, b4, b5⟩ := a9 p hp hpt
            refine ⟨(fz _ _ (by decide) (by decide) (by omega) (by omega)).trans b1, (fz _ _ (by decide) (by decide) (by omega) (by omega)).trans b2, (fz _ _ (by decide) (by decide) (by omega) (by omega)).trans b3, (fz _ _ (by omega) (by omega) (by omega) (by omega)).trans b4, fun j hj => (fz _ _ (by omega) (by omega) (by omega) (by omega)).trans (b5 j hj)⟩
          · rw [← ht]
            right; right
            refine ⟨(fz _ _ (by decide) (by decide) (by omega) (by omega)).trans a5, C.2.2, z8, z9.1, ?_⟩
            rw [hS]
            show (B, (A, L)) = (B, uM C.2.2 C.2.1)
            rw [z9.2]
theorem m_chL {n : Nat} (hn : n ≤ 40) (ok : BkOK B) (hS1 : 1 ≤ B.nS) : ∀ (m i fuel : Nat) (I : Nat → Nat → Int32) (J : Nat → Nat → Int64) (c : ChS), i + m = n → m < fuel → J 267 46 = (iZ (c.1 : Int)).toInt64 → c.1 < 2147483648 → mBk I B → mLg I B c.2.1.1 c.2.1.2 → gdM B.nS c.2.1 → c.2.2.length ≤ i → ∃ I', gX12_chance_L42 267 (iZ (n : Int)) fuel (iZ (c.2.2.length : Int)) (iZ (i : Int)) (mkS X I J v) = some (iZ ((chRun B m c).2.2.length : Int), mkS X I' (gup J 267 46 (iZ ((chRun B m c).1 : Int)).toInt64) v) ∧ (∀ a k, ¬ (281 ≤ a ∧ a ≤ 286) → (a ≠ 267 ∨ k ≠ 34) → I' a k = I a k) ∧ mBk I' B ∧ mLg I' B (chRun B m c).2.1.1 (chRun B m c).2.1.2 := by
  have k1 := ok.1
  have k2 := ok.2.1
  intro m
  induction m with
  | zero =>
    intro i fuel I J c hi hf h9 hz hB hL hg hl
    obtain ⟨f, rfl⟩ : ∃ n, fuel = n + 1 := ⟨fuel - 1, by omega⟩
    refine ⟨I, ?_, fun _ _ _ _ => rfl, hB, hL⟩
    unfold gX12_chance_L42
    rw [if_neg (by rw [iZ_lt (by omega) (by omega) (by omega) (by omega)]; omega)]
    have eJ : gup J 267 46 (iZ ((chRun B 0 c).1 : Int)).toInt64 = J := by
      funext a k
      by_cases q : a = 267 ∧ k = 46
      · rw [q.1, q.2, gup_s]; exact h9.symm
      · by_cases qa : a = 267
        · rw [gup_k (fun z => q ⟨qa, z⟩)]
        · rw [gup_r qa]
    rw [eJ]
    rfl
  | succ m ih =>
    intro i fuel I J c hi hf h9 hz hB hL hg hl
    obtain ⟨f, rfl⟩ : ∃ n, fuel = n + 1 := ⟨fuel - 1, by omega⟩
    obtain ⟨s, hs⟩ : ∃ s, s = lcg c.1 / 64 % B.nS := ⟨_, rfl⟩
    obtain ⟨d, hd⟩ : ∃ d, d = lcg (lcg c.1) / 64 % 14610 := ⟨_, rfl⟩
    have hsn : s < B.nS := by rw [hs]; exact Nat.mod_lt _ (by omega)
    have hdn : d < 14610 := by rw [hd]; exact Nat.mod_lt _ (by decide)
    have hrun : chRun B (m + 1) c = chRun B m (chAt B c s d) := by
      show chRun B m (chSt B c) = _
      unfold chSt
      rw [← hs, ← hd]
    rw [hrun]
    have q1 : gaI (mkS X I J v) 276 2 1 = some (iZ (B.nS : Int)) := by
      have := a276 X I J v 1 (by decide); rw [hB.2.1] at this; exact this
    conv => enter [1, I', 1]; unfold gX12_chance_L42
    rw [if_pos (by rw [iZ_lt (by omega) (by omega) (by omega) (by omega)]; omega)]
    simp only [bO, o267R, q1, o267]
    rw [m_drawOf hz hS1 (by omega) h9, gb2_some, ← hs]
    have dr2 : fX12_drawOf 267 14610 (mkS X I (gup J 267 46 (iZ (lcg c.1 : Nat)).toInt64) v) = some (iZ (d : Int), mkS X I (gup J 267 46 (iZ (lcg (lcg c.1) : Nat)).toInt64) v) := by
      have := m_drawOf (X := X) (v := v) (I := I) (J := gup J 267 46 (iZ (lcg c.1 : Nat)).toInt64) (n := 14610) (lcg_lt c.1) (by decide) (by decide) gup_s
      rw [gup_gup, ← hd] at this
      exact this
    simp only [o267, dr2, gb2_some, aR]
    rw [show (6 : Int) + (s : Int) = ((6 + s : Nat) : Int) by omega]
    obtain ⟨J0, hJ0⟩ : ∃ J0, J0 = gup J 267 46 (iZ (lcg (lcg c.1) : Nat)).toInt64 := ⟨_, rfl⟩
    rw [← hJ0]
    have h90 : J0 267 46 = (iZ (lcg (lcg c.1) : Nat)).toInt64 := by rw [hJ0, gup_s]
    have eJ : ∀ y : Int64, gup J0 267 46 y = gup J 267 46 y := fun y => by rw [hJ0, gup_gup]
    obtain ⟨I1, a1, a2, a3, a4⟩ := m_lays (X := X) (J := J0) (v := v) (w := 6 + s) ok hB hL (by unfold kn; omega)
    have hB1 := mBk_Y hB k1 a2
    obtain ⟨k, hk, hk1, hkW⟩ : ∃ k : Nat, tf (dy B c.2.1.1 c.2.1.2 (6 + s) d) = iZ (k : Int) ∧ k ≤ 1 ∧ k + 1 = chW B c.2.1.1 c.2.1.2 s d ∧ dy B c.2.1.1 c.2.1.2 (6 + s) d = decide (k = 1) := by
      unfold chW
      cases dy B c.2.1.1 c.2.1.2 (6 + s) d with
      | true => exact ⟨1, rfl, by decide, rfl, rfl⟩
      | false => exact ⟨0, rfl, by decide, rfl, rfl⟩
    obtain ⟨hkW, hkd⟩ := hkW
    simp only [a1, gb2_some, o267, m_isOn (show 6 + s < 12 by omega) hdn a4, hk]
    obtain ⟨I2, r, b1, b2, b3, b4⟩ := m_canHand (X := X) (J := J0) (v := v) (z := (s : Int)) (x := (d : Int)) hk1 (by omega) (by omega) (by omega) (by omega) ok hg.1 hB1 a3
    have hB2 := mBk_Y hB1 k1 b3
    have fr2 : ∀ a k, ¬ (281 ≤ a ∧ a ≤ 286) → (a ≠ 267 ∨ k ≠ 34) → I2 a k = I a k := fun a k x y => by rw [b3 a k (by omega) y, a2 a k (by omega) y]
    rw [b1, gb2_some, aL, show (i : Int) + 1 = ((i + 1 : Nat) : Int) by omega]
    have tiff : tOK B c.2.1.1 c.2.1.2 (k + 1) (s : Int) (d : Int) ↔ chB B c.2.1.1 c.2.1.2 s d = true := by
      rw [chB_iff, ← hkW]
      unfold tOK
      simp only [Int.toNat_natCast]
      constructor
      · intro q; exact q.2.2.2
      · intro q
        refine ⟨⟨by omega, by omega⟩, ⟨by omega, by omega⟩, ?_, q⟩
        rw [hkd]
        rcases (show k = 0 ∨ k = 1 by omega) with rfl | rfl <;> rfl
    cases r with
    | false =>
      have hno : ¬ chB B c.2.1.1 c.2.1.2 s d = true := fun z => by have := b2.mpr (tiff.mpr z); cases this
      have ec : chAt B c s d = (lcg (lcg c.1), c.2.1, c.2.2) := by unfold chAt; rw [if_neg hno]
      rw [if_pos tf_f, ec]
      obtain ⟨I', z1, z2, z3, z4⟩ := ih (i + 1) f I2 J0 (lcg (lcg c.1), c.2.1, c.2.2) (by omega) (by omega) h90 (lcg_lt _) hB2 b4 hg (by show c.2.2.length ≤ i + 1; omega)
      rw [eJ] at z1
      exact ⟨I', z1, fun a k x y => by rw [z2 a k x y, fr2 a k x y], z3, z4⟩
    | true =>
      have hyes := tiff.mp (b2.mp rfl)
      have ec : chAt B c s d = (lcg (lcg c.1), (uS c.2.1.1 s (mA (mk1 (c.2.1.1 s) (c.2.1.2 s) d (k + 1)) (c.2.1.1 s) d), uS c.2.1.2 s (mL (mk1 (c.2.1.1 s) (c.2.1.2 s) d (k + 1)) (c.2.1.2 s) d)), (s, d, mk0 (c.2.1.1 s) (c.2.1.2 s) d) :: c.2.2) := by unfold chAt; rw [if_pos hyes, ← hkW]
      rw [if_neg (show ¬ tf true = 0 by decide), ec]
      obtain ⟨f0, f1⟩ := chK (show s < 6 by omega) hk1 hdn hg.1 b4 hkd
      obtain ⟨I3, c1, c2, c3, c4⟩ := m_handsS (X := X) (v := v) (J := J0) ok (show s < 6 by omega) hk1 hdn b4 f0 f1 (by have := chB_iff.mp hyes; rw [← hkW] at this; exact this)
      simp only [o267, c1, gb2_some, aL]
      have fr3 : ∀ a k, ¬ (281 ≤ a ∧ a ≤ 286) → (a ≠ 267 ∨ k ≠ 34) → I3 a k = I a k := fun a k x y => by rw [c2 a k (by omega) (by omega), fr2 a k x y]
      have hB3 : mBk I3 B := mBk_fr hB2 (fun k => c2 276 k (by decide) (by decide)) (fun k => c2 278 k (by decide) (by decide)) c3 k1 (c2 267 23 (by decide) (by decide)) (c2 267 17 (by decide) (by decide)) (fun r k x y => c2 r k (by omega) (by omega))
      obtain ⟨I', z1, z2, z3, z4⟩ := ih (i + 1) f I3 J0 (lcg (lcg c.1), (uS c.2.1.1 s (mA (mk1 (c.2.1.1 s) (c.2.1.2 s) d (k + 1)) (c.2.1.1 s) d), uS c.2.1.2 s (mL (mk1 (c.2.1.1 s) (c.2.1.2 s) d (k + 1)) (c.2.1.2 s) d)), (s, d, mk0 (c.2.1.1 s) (c.2.1.2 s) d) :: c.2.2) (by omega) (by omega) h90 (lcg_lt _) hB3 c4 (turn_gd hg hsn) (by show c.2.2.length + 1 ≤ i + 1; omega)
      rw [eJ] at z1
      exact ⟨I', z1, fun a k x y => by rw [z2 a k x y, fr3 a k x y], z3, z4⟩
theorem mq_chance {I : Nat → Nat → Int32} {J : Nat → Nat → Int64} {x : Int} {z : Nat} (x1 : -2147483648 ≤ x) (x2 : x < 2147483648) (ok : BkOK B) (hg : gdM B.nS (A, L)) (hB : mBk I B) (hL : mLg I B A L) (hH : hN I S un) (hS : S 0 = (B, A, L)) (hR6 : ∀ k, (S k).1.nR ≤ 6) (h9 : J 267 46 = (iZ (z : Int)).toInt64) (hz : z < 2147483648) : (¬ (1 ≤ x ∧ x ≤ 40 ∧ B.nS ≠ 0) ∧ fX12_chance 267 (iZ x) (mkS X I J v) = some (-1, mkS X (gup I 269 2 (I 269 2 + 1)) J v)) ∨ ((1 ≤ x ∧ x ≤ 40 ∧ B.nS ≠ 0) ∧ ∃ I', fX12_chance 267 (iZ x) (mkS X I J v) = some (iZ ((chEnd B z x.toNat A L).2.2.length : Int), mkS X I' (gup J 267 46 (iZ ((chEnd B z x.toNat A L).1 : Int)).toInt64) v) ∧ frQ5 I I' ∧ mBk I' B ∧ mLg I' B (chEnd B z x.toNat A L).2.1.1 (chEnd B z x.toNat A L).2.1.2 ∧ ∀ τ, hN I' (sC τ S) (min 20 (un + 1))) := by
  have k1 := ok.1
  have k2 := ok.2.1
  have den : gb2 (fX12_refuses 267 2 (mkS X I J v)) (fun r4 s5 => some (r4, s5)) = some ((-1 : Int32), mkS X (gup I 269 2 (I 269 2 + 1)) J v) := by
    have := m_refuses (X := X) (I := I) (J := J) (v := v) (n := 2) (by decide)
    rw [show (2 : Int32) = iZ ((2 : Nat) : Int) from rfl, this]; rfl
  have q1 : gaI (mkS X I J v) 276 2 1 = some (iZ (B.nS : Int)) := by
    have := a276 X I J v 1 (by decide); rw [hB.2.1] at this; exact this
  unfold fX12_chance
  simp only [gjn_eq, bO, o267, o267R, den, q1]
  rcases hB.2.2.2.2 with t | t
  · rw [t.1, if_neg (show ¬ (1 : Int32) = 0 by decide)]
    by_cases c3 : B.nS = 0
    · rw [if_pos (by rw [c3]; rfl)]
      exact Or.inl ⟨fun q => q.2.2 c3, rfl⟩
    · rw [if_neg (by rw [cL_eq (by omega) (by omega) (by decide)]; omega), m_isIn, gb2_some, iZ_l x1 x2, show (1 : Int64).toInt = 1 from rfl, show (40 : Int64).toInt = 40 from rfl]
      by_cases c1 : 1 ≤ x ∧ x ≤ 40
      · rw [if_pos c1, if_neg (show ¬ (1 : Int32) = 0 by decide)]
        right
        refine ⟨⟨c1.1, c1.2, c3⟩, ?_⟩
        obtain ⟨n, rfl⟩ : ∃ n : Nat, x = (n : Int) := ⟨x.toNat, by omega⟩
        rw [Int.toNat_natCast]
        obtain ⟨I1, a1, a2, a3⟩ := m_keeps (X := X) (v := v) (J := J) hH (by rw [hS]; exact snR_now hB hL) hR6
        simp only [o267, a1, gb2_some]
        have hL1 : mLg I1 B A L := by
          refine ⟨fun w hw => ?_, fun t ht => ?_⟩
          · rw [a2 283 w (by decide) (Or.inl (by decide))]
            rcases hL.1 w hw with q | q
            · exact Or.inl q
            · exact Or.inr ⟨q.1, fun e he => by rw [a2 282 _ (by decide) (Or.inl (by decide))]; exact q.2 e he⟩
          · obtain ⟨x, y⟩ := hL.2 t ht
            exact ⟨mrow_21 x (fun j _ _ => a2 281 j (by decide) (Or.inl (by decide))), mrow_21 y (fun j _ _ => a2 281 j (by decide) (Or.inl (by decide)))⟩
        have hB1 : mBk I1 B := mBk_fr hB (fun k => a2 276 k (by decide) (Or.inl (by decide))) (fun k => a2 278 k (by decide) (Or.inl (by decide))) (fun k _ => a2 281 k (by decide) (Or.inl (by decide))) k1 (a2 267 23 (by decide) (Or.inr (by decide))) (a2 267 17 (by decide) (Or.inr (by decide))) (fun r k x y => a2 r k (by omega) (Or.inl (by omega)))
        obtain ⟨I2, b1, b2, b3, b4⟩ := m_chL (X := X) (v := v) (n := n) (by omega) ok (by omega) n 0 20000 I1 J (z, (A, L), []) (by omega) (by omega) h9 hz hB1 hL1 hg (Nat.zero_le _)
        refine ⟨I2, b1, fun a k y1 y2 y3 => by rw [b2 a k y1 (by omega), a2 a k y2 (by omega)], b3, b4, fun τ => hN_fr (a3 τ) (b2 267 45 (by decide) (Or.inr (by decide))) (b2 267 44 (by decide) (Or.inr (by decide))) (fun k => b2 292 k (by decide) (Or.inl (by decide)))⟩
      · rw [if_neg c1, if_pos rfl]
        simp only [o267, den]
        exact Or.inl ⟨fun q => c1 ⟨q.1, q.2.1⟩, trivial⟩
  · rw [t.1, if_pos rfl]
    exact Or.inl ⟨fun q => q.2.2 t.2.2, rfl⟩
end gCi
