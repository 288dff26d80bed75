/-! UNDO of the class -/
theorem cd_dec {c : Nat × Nat × Nat} (h1 : c.1 < 6) (h2 : c.2.1 < 14610) (h3 : c.2.2 ≤ 2) : iZ (cdM c : Nat) / 3 = iZ ((c.1 * 14610 + c.2.1 : Nat) : Int) ∧ iZ ((c.1 * 14610 + c.2.1 : Nat) : Int) / 14610 = iZ (c.1 : Int) ∧ gIrem (iZ ((c.1 * 14610 + c.2.1 : Nat) : Int)) 14610 = iZ (c.2.1 : Int) ∧ gIrem (iZ (cdM c : Nat)) 3 = iZ (c.2.2 : Int) := by
  have hm : cdM c = (c.1 * 14610 + c.2.1) * 3 + c.2.2 := rfl
  refine ⟨?_, ?_, ?_, ?_⟩
  · rw [show (3 : Int32) = iZ 3 from rfl, iZ_div (by omega) (by omega) (by omega) (by omega), tdiv_nn (by omega)]; congr 1; omega
  · rw [show (14610 : Int32) = iZ 14610 from rfl, iZ_div (by omega) (by omega) (by omega) (by omega), tdiv_nn (by omega)]; congr 1; omega
  · rw [show (14610 : Int32) = iZ 14610 from rfl, iZ_rem (by omega) (by omega) (by omega) (by omega), tmod_nn (by omega)]; congr 1; omega
  · rw [show (3 : Int32) = iZ 3 from rfl, iZ_rem (by omega) (by omega) (by omega) (by omega), tmod_nn (by omega)]; congr 1; omega
section gUn
variable {X : Nat × (Nat → Int32)} {v : Vt} {B : Bk} {b : Nat} {J : Nat → Nat → Int64} {S : Nat → St} {un : Nat}
theorem c_backL {q n : Nat} (hq : q < 20) (hn : n ≤ 40) (ok : BkOK B) : ∀ (l : List (Nat × Nat × Nat)) (fuel : Nat) (I : Nat → Nat → Int32) (p : (Nat → Nat → Bool) × (Nat → Nat → Bool)), l.length ≤ n → l.length < fuel → I (148 + 2 * q) 1 = iZ (n : Int) → (∀ j, j < l.length → I (148 + 2 * q + 1) j = iZ (cdM (l.getD (l.length - 1 - j) (0, 0, 0)) : Nat)) → vM l p → cLg I J B p.1 p.2 → ∃ I', gX5_turnBack_L7 60 (148 + 2 * q) fuel (iZ ((l.length : Int) - 1)) (mkS X I J v) = some ((), mkS X I' J v) ∧ frU I I' ∧ cLg I' J B (uM l p).1 (uM l p).2 := by
  obtain ⟨w1, w2⟩ := rowJ hq
  intro l
  induction l with
  | nil =>
    intro fuel I p hl hf h1 hc hv hL
    obtain ⟨f, rfl⟩ : ∃ n, fuel = n + 1 := ⟨fuel - 1, by have : ([] : List (Nat × Nat × Nat)).length = 0 := rfl; omega⟩
    refine ⟨I, ?_, frU_r I, hL⟩
    unfold gX5_turnBack_L7
    rw [if_pos (by rw [show ((([] : List (Nat × Nat × Nat)).length : Nat) : Int) - 1 = -1 from rfl]; decide)]
  | cons c l ih =>
    intro fuel I p hl hf h1 hc hv hL
    have hlen : (c :: l).length = l.length + 1 := rfl
    rw [hlen] at hl hf hc
    obtain ⟨f, rfl⟩ : ∃ n, fuel = n + 1 := ⟨fuel - 1, by omega⟩
    obtain ⟨⟨v1, v2, v3, v4, v5⟩, v6⟩ := hv
    obtain ⟨I1, a1, a2, a3⟩ := c_mark (X := X) (v := v) ok v1 v2 v3 hL v4 v5
    have e0 : I (148 + 2 * q + 1) l.length = iZ (cdM c : Nat) := by
      have := hc l.length (by omega)
      rw [show l.length + 1 - 1 - l.length = 0 by omega] at this
      exact this
    have k0 : ∀ r k, 148 ≤ r → r ≤ 187 → I1 r k = I r k := fun r k x y => a2 r k (Or.inl (by omega)) (by omega)
    obtain ⟨I2, b1, b2, b3⟩ := ih f I1 _ (by omega) (by omega) (by rw [k0 _ _ (by omega) (by omega)]; exact h1) (fun j hj => by
      rw [k0 _ _ (by omega) (by omega), hc j (by omega), show l.length + 1 - 1 - j = (l.length - 1 - j) + 1 by omega]
      rfl) v6 a3
    refine ⟨I2, ?_, frU_t a2 b2, b3⟩
    obtain ⟨d1, d2, d3, d4⟩ := cd_dec v1 v2 v3
    unfold gX5_turnBack_L7
    rw [hlen, show ((l.length + 1 : Nat) : Int) - 1 = (l.length : Int) by omega, if_neg (by rw [cL_lt (by omega) (by omega) (by decide)]; omega), row_c w1, row_value w1 h1 (by omega) (show l.length < n by omega), gb2_some, e0, glet_eq, d1, d2, d3, d4]
    simp only [o60]
    rw [a1, gb2_some, show (-1 : Int32) = iZ (-1) from rfl, iZ_add]
    exact b1
/-- what taking back may write -/
def frQ6 (b : Nat) (I I' : Nat → Nat → Int32) : Prop := ∀ a k, ¬ (57 ≤ a ∧ a ≤ 59) → (a ≠ 60 ∨ k ≠ 7) → ¬ (119 ≤ a ∧ a ≤ 187) → (a ≠ 188 ∨ k ≠ 7) → ¬ (b ≤ a ∧ a ≤ b + 34) → I' a k = I a k
theorem cq_undo0 {I : Nat → Nat → Int32} (h : jN I S 0) : fX11_undo 50 (mkS X I J v) = some (0, mkS X (gup I 196 4 (I 196 4 + 1)) J v) := by
  obtain ⟨q, h1, h2, h3, h4, h5⟩ := h
  unfold fX11_undo gX11_undo
  simp only [bO, o50R, o50, o143, h3]
  rw [if_pos (show iZ ((0 : Nat) : Int) = 0 from rfl)]
  have := c_deny (X := X) (I := I) (J := J) (v := v) (n := 4) (by decide)
  rw [show (4 : Int32) = iZ ((4 : Nat) : Int) from rfl, this]
  rfl
theorem cq_undoS {I : Nat → Nat → Int32} (hb : isBk b) (hv1 : v.1 = b) (hv : v.2.2.1 = b) (ok : BkOK (S 0).1) (ok1 : BkOK (S 1).1) (hB : cBk I b (S 0).1) (hL : cLg I J (S 0).1 (S 0).2.1 (S 0).2.2) (hJ : jN I S (un + 1)) : ∃ I' J', fX11_undo 50 (mkS X I J v) = some (1, mkS X I' J' v) ∧ frQ6 b I I' ∧ (∀ a, (a < 66 ∨ 76 < a) → J' a = J a) ∧ cBk I' b (S 1).1 ∧ cLg I' J' (S 1).1 (S 1).2.1 (S 1).2.2 ∧ jN I' (fun k => S (k + 1)) un ∧ (I' 188 7 = 0 ∨ (I' 188 7 = I 188 7 ∧ ∀ r, (S 1).1.rl r = (S 0).1.rl r)) := by
  have hb0 := bk_r hb
  have k1 := ok.1
  obtain ⟨q, h1, h2, h3, h4, h5⟩ := hJ
  have hE := h5 0 (by omega)
  rw [show (q + 20 - 0) % 20 = q by omega] at hE
  -- the end: the entry is dropped
  have fin : ∀ (I1 : Nat → Nat → Int32) (J1 : Nat → Nat → Int64), frQ6 b I I1 → (∀ r k, 143 ≤ r → r ≤ 187 → I1 r k = I r k) → (∀ a, (a < 66 ∨ 76 < a) → J1 a = J a) → cBk I1 b (S 1).1 → cLg I1 J1 (S 1).1 (S 1).2.1 (S 1).2.2 → (I1 188 7 = 0 ∨ (I1 188 7 = I 188 7 ∧ ∀ r, (S 1).1.rl r = (S 0).1.rl r)) → ∃ I' J', (gb2 (fX4_drop 143 (mkS X I1 J1 v)) fun (_ : Unit) s13 => some ((1 : Int32), s13)) = some (1, mkS X I' J' v) ∧ frQ6 b I I' ∧ (∀ a, (a < 66 ∨ 76 < a) → J' a = J a) ∧ cBk I' b (S 1).1 ∧ cLg I' J' (S 1).1 (S 1).2.1 (S 1).2.2 ∧ jN I' (fun k => S (k + 1)) un ∧ (I' 188 7 = 0 ∨ (I' 188 7 = I 188 7 ∧ ∀ r, (S 1).1.rl r = (S 0).1.rl r)) := by
    intro I1 J1 f1 f2 f3 f4 f5 f6
    rw [c_drop h1 (by rw [f2 143 4 (by decide) (by decide)]; exact h2) (by rw [f2 143 5 (by decide) (by decide)]; exact h3) h4, gb2_some]
    have g : ∀ r k, r ≠ 143 → gup (gup I1 143 4 (iZ (((q + 19) % 20 : Nat) : Int))) 143 5 (iZ (un : Int)) r k = I1 r k := fun r k x => by rw [gup_r x, gup_r x]
    refine ⟨_, J1, rfl, fun a k x1 x2 x3 x4 x5 => by rw [g a k (by omega)]; exact f1 a k x1 x2 x3 x4 x5, f3, cBk_fr f4 ok1.1 (fun r k x y => g r k (by omega)), cLg_fr f5 ok1.1 ok1.2.1 (g 60 7 (by decide)) (fun r k x y => g r k (by omega)) (fun _ _ _ => rfl), ?_, by rw [g 188 7 (by decide)]; exact f6⟩
    exact jN_pop (I := I) h1 h4 h5 (by rw [gup_k (by decide), gup_s]) gup_s (fun r k x y => by rw [g r k (by omega)]; exact f2 r k (by omega) y)
  have hkd : ∀ (I1 : Nat → Nat → Int32) (J1 : Nat → Nat → Int64), I1 143 4 = iZ (q : Int) → fX4_latestKind 143 (mkS X I1 J1 v) = some (I1 144 q, mkS X I1 J1 v) := fun I1 J1 e => by
    unfold fX4_latestKind
    simp only [bO, o143, o143R, e, a144 _ _ _ _ q h1]
  have hru : ∀ (I1 : Nat → Nat → Int32) (J1 : Nat → Nat → Int64), I1 143 4 = iZ (q : Int) → fX4_latestRule 143 (mkS X I1 J1 v) = some (I1 145 q, mkS X I1 J1 v) := fun I1 J1 e => by
    unfold fX4_latestRule
    simp only [bO, o143, o143R, e, a145 _ _ _ _ q h1]
  have hbe : ∀ (I1 : Nat → Nat → Int32) (J1 : Nat → Nat → Int64), I1 143 4 = iZ (q : Int) → fX4_latestBefore 143 (mkS X I1 J1 v) = some (I1 146 q, mkS X I1 J1 v) := fun I1 J1 e => by
    unfold fX4_latestBefore
    simp only [bO, o143, o143R, e, a146 _ _ _ _ q h1]
  have hch : fX4_latestChanges 143 (mkS X I J v) = some (148 + 2 * q, mkS X I J v) := by
    unfold fX4_latestChanges
    simp only [bO, o143, o143R, h2, g147 _ _ h1]
  unfold fX11_undo gX11_undo
  simp only [bO, o50R, o50, o143, h3]
  rw [if_neg (by rw [cL_eq (by omega) (by omega) (by decide)]; omega), hkd I J h2, gb2_some]
  simp only [gjn_eq, o143, bO, o50R]
  have gz : ∀ o : Option (Int32 × gH), (∃ I' J', o = some (1, mkS X I' J' v) ∧ frQ6 b I I' ∧ (∀ a, (a < 66 ∨ 76 < a) → J' a = J a) ∧ cBk I' b (S 1).1 ∧ cLg I' J' (S 1).1 (S 1).2.1 (S 1).2.2 ∧ jN I' (fun k => S (k + 1)) un ∧ (I' 188 7 = 0 ∨ (I' 188 7 = I 188 7 ∧ ∀ r, (S 1).1.rl r = (S 0).1.rl r))) → ∃ I' J', gzr o = some (1, mkS X I' J' v) ∧ frQ6 b I I' ∧ (∀ a, (a < 66 ∨ 76 < a) → J' a = J a) ∧ cBk I' b (S 1).1 ∧ cLg I' J' (S 1).1 (S 1).2.1 (S 1).2.2 ∧ jN I' (fun k => S (k + 1)) un ∧ (I' 188 7 = 0 ∨ (I' 188 7 = I 188 7 ∧ ∀ r, (S 1).1.rl r = (S 0).1.rl r)) := fun o ⟨I', J', e, w⟩ => ⟨I', J', by rw [e]; rfl, w⟩
  apply gz
  rcases hE with ⟨t0, r, n, t1, t2, t3, t4, t5, t6⟩ | ⟨t0, r, n, t1, t2, t4, t5, t6⟩ | ⟨t0, l, t1, t2, t3⟩
  · rw [t0, if_neg (show ¬ (1 : Int32) = 0 by decide)]
    unfold fX11_restoreRule
    have hq := isRule_bk (n := r) hb (by omega)
    obtain ⟨ru, s1, s2⟩ := ok.2.2.1 r t1
    obtain ⟨r1, r2⟩ := hB.2.2.1 r t1
    simp only [bO, o50R, o50, hv1, o143, hru I J h2, gb2_some, t4, bk_c hb, c_ruleAt hb hB.1 k1 (show -2147483648 ≤ (r : Int) by omega) (show (r : Int) < 2147483648 by omega)]
    rw [if_pos (show 0 ≤ (r : Int) ∧ (r : Int) < ((S 0).1.nR : Int) by omega), Int.toNat_natCast, if_neg (by omega)]
    simp only [hkd I J h2, gb2_some, gjn_eq, o143, bO, o50R]
    rw [t0, if_pos rfl]
    simp only [hbe I J h2, gb2_some, bO, rl_p hq, o50R, o143]
    have e143 : ∀ k, gup I (b + 5 + 5 * r) 0 (I 146 q) 143 k = I 143 k := fun k => gup_r (by omega)
    rw [t5] at e143 ⊢
    have rr := (rule_all hq).2.2.2.2.2.1
    have okn : BkOK ((S 0).1.setR r ((S 0).1.rl r) n) := setR_ok ok ru t2 t3
    have hB1 : cBk (gup I (b + 5 + 5 * r) 0 (iZ (n : Int))) b ((S 0).1.setR r ((S 0).1.rl r) n) := by
      refine cBk_setR (I := I) k1 t1 hB (fun a k p q w => gup_r (by omega)) ?_ gup_s
      obtain ⟨u1, u2, u3, u4, u5, u6, u7, u8, u9, u10, u11, u12, u13, u14, u15, u16⟩ := r1
      have gk : ∀ k, k ≠ 0 → gup I (b + 5 + 5 * r) 0 (iZ (n : Int)) (b + 5 + 5 * r) k = I (b + 5 + 5 * r) k := fun k hk => gup_k hk
      have gr : ∀ a k, a ≠ b + 5 + 5 * r → gup I (b + 5 + 5 * r) 0 (iZ (n : Int)) a k = I a k := fun a k ha => gup_r ha
      unfold cRl
      simp only [gk 1 (by decide), gk 2 (by decide), gk 3 (by decide), gk 4 (by decide), gk 5 (by decide), gk 6 (by decide), gk 7 (by decide), gk 8 (by decide), gk 9 (by decide), gk 10 (by decide), gk 11 (by decide), gk 12 (by decide), gr (b + 5 + 5 * r + 1) _ (by omega), gr (b + 5 + 5 * r + 2) _ (by omega), gr (b + 5 + 5 * r + 3) _ (by omega), gr (b + 5 + 5 * r + 4) _ (by omega)]
      exact ⟨u1, u2, u3, u4, u5, u6, u7, u8, u9, u10, u11, u12, u13, u14, u15, u16⟩
    have hL1 : cLg (gup I (b + 5 + 5 * r) 0 (iZ (n : Int))) J (S 0).1 (S 0).2.1 (S 0).2.2 := cLg_fr hL k1 ok.2.1 (gup_r (by omega)) (fun a k p q => gup_r (by omega)) (fun _ _ _ => rfl)
    obtain ⟨I2, J2, d1, d2, d3, d4, d5⟩ := c_reckon (X := X) (v := v) hb hv okn t1 hB1 hL1
    have hr2 : fX4_latestRule 143 (mkS X (gup I (b + 5 + 5 * r) 0 (iZ (n : Int))) J v) = some (iZ (r : Int), mkS X (gup I (b + 5 + 5 * r) 0 (iZ (n : Int))) J v) := by
      rw [hru _ J ((e143 4).trans h2), gup_r (by omega), t4]
    rw [hr2, gb2_some]
    simp only [o60, d1, gb2_some, bO, o50R, o143]
    rw [t6] at fin ⊢
    refine fin I2 J2 (fun a k x1 x2 x3 x4 x5 => ?_) (fun a k x y => ?_) d3 d4 d5 (Or.inr ⟨?_, fun k => ?_⟩)
    · rw [d2 a k (by omega) (by omega) (by omega) x2, gup_r (by omega)]
    · rw [d2 a k (by omega) (by omega) (by omega) (Or.inl (by omega)), gup_r (by omega)]
    · rw [d2 188 7 (by decide) (by decide) (by decide) (Or.inl (by decide)), gup_r (by omega)]
    · by_cases c : k = r
      · rw [c]; exact setR_rl.1
      · exact (setR_o c).1
  · rw [t0, if_neg (show ¬ (2 : Int32) = 0 by decide)]
    unfold fX11_restoreRule
    have hq := isRule_bk (n := r) hb (by omega)
    obtain ⟨ru, s1, s2⟩ := ok.2.2.1 r t1
    obtain ⟨r1, r2⟩ := hB.2.2.1 r t1
    simp only [bO, o50R, o50, hv1, o143, hru I J h2, gb2_some, t4, bk_c hb, c_ruleAt hb hB.1 k1 (show -2147483648 ≤ (r : Int) by omega) (show (r : Int) < 2147483648 by omega)]
    rw [if_pos (show 0 ≤ (r : Int) ∧ (r : Int) < ((S 0).1.nR : Int) by omega), Int.toNat_natCast, if_neg (by omega)]
    simp only [hkd I J h2, gb2_some, gjn_eq, o143, bO, o50R]
    rw [t0, if_neg (show ¬ (2 : Int32) = 1 by decide)]
    obtain ⟨I3, e1, e2, e3, e4, e5, e6⟩ := c_beginAt (X := X) (v := v) (J := J) (I := I) (d := n) hq t2
    unfold fX9_forget
    simp only [hbe I J h2, gb2_some, bO, t5, rl_c hq, e1, o50R, o143, o188]
    have rr := (rule_all hq).2.2.2.2.2.1
    have okn : BkOK ((S 0).1.setR r (((S 0).1.rl r).at0 n) ((S 0).1.stp r)) := setR_ok ok (at0_ok ru t2) s1 s2
    have g4 : ∀ a k, a ≠ 188 → a ≠ b + 5 + 5 * r → gup I3 188 7 0 a k = I a k := fun a k x y => by rw [gup_r x, e2 a k (Or.inl y)]
    have hB1 : cBk (gup I3 188 7 0) b ((S 0).1.setR r (((S 0).1.rl r).at0 n) ((S 0).1.stp r)) := by
      refine cBk_setR (I := I) k1 t1 hB (fun a k p q w => g4 a k (by omega) (by omega)) ?_ ?_
      · exact cRl_fr (cRl_beg r1 e2 e3 e4 e5 e6) (fun a k p q => gup_r (by omega))
      · rw [gup_r (by omega), e2 _ 0 (Or.inr (Or.inl (by decide)))]
        exact r2
    have hL1 : cLg (gup I3 188 7 0) J (S 0).1 (S 0).2.1 (S 0).2.2 := cLg_fr hL k1 ok.2.1 (g4 60 7 (by decide) (by omega)) (fun a k p q => g4 a k (by omega) (by omega)) (fun _ _ _ => rfl)
    obtain ⟨I2, J2, d1, d2, d3, d4, d5⟩ := c_reckon (X := X) (v := v) hb hv okn t1 hB1 hL1
    have hr2 : fX4_latestRule 143 (mkS X (gup I3 188 7 0) J v) = some (iZ (r : Int), mkS X (gup I3 188 7 0) J v) := by
      rw [hru _ J ((g4 143 4 (by decide) (by omega)).trans h2), g4 145 q (by decide) (by omega), t4]
    simp only [hr2, gb2_some, o60, d1, bO, o50R, o143]
    rw [t6] at fin ⊢
    refine fin I2 J2 (fun a k x1 x2 x3 x4 x5 => ?_) (fun a k x y => ?_) d3 d4 d5 (Or.inl ?_)
    · rw [d2 a k (by omega) (by omega) (by omega) x2]
      have eg : gup I3 188 7 0 a k = I3 a k := by
        rcases x4 with w | w
        · exact gup_r w
        · exact gup_k w
      rw [eg, e2 a k (Or.inl (by omega))]
    · rw [d2 a k (by omega) (by omega) (by omega) (Or.inl (by omega)), g4 a k (by omega) (by omega)]
    · rw [d2 188 7 (by decide) (by decide) (by decide) (Or.inl (by decide)), gup_s]
  · rw [t0, if_pos rfl]
    simp only [hch, gb2_some, o60]
    unfold fX5_turnBack
    obtain ⟨w1, w2⟩ := rowJ h1
    obtain ⟨u1, u2, u3⟩ := t1
    simp only [row_i w1, bO, u2, glet_eq, sL]
    obtain ⟨I1, a1, a2, a3⟩ := c_backL (X := X) (v := v) (J := J) (q := q) (n := l.length) h1 u1 ok l 20000 I (S 0).2 (Nat.le_refl _) (by omega) u2 u3 t2 hL
    rw [a1, gb2_some]
    simp only [bO, o50R, o143]
    rw [t3] at fin ⊢
    refine fin I1 J (fun a k x1 x2 x3 x4 x5 => a2 a k x2 (by omega)) (fun a k x y => a2 a k (Or.inl (by omega)) (by omega)) (fun _ _ => rfl) (cBk_fr hB k1 (fun a k x y => a2 a k (Or.inl (by omega)) (by omega))) a3 (Or.inr ⟨a2 188 7 (Or.inl (by decide)) (by decide), fun _ => rfl⟩)
end gUn
