section gRt
variable {X : Nat × (Nat → Int32)} {J : Nat → Nat → Int64} {v : Vt} {T : Nat → Nat} {n b : Nat}
theorem cX_B {I I' : Nat → Nat → Int32} (hb : isBk b) (h : cX I v T n) (f : frB b I I') : cX I' v T n := by
  have := bk_r hb
  exact ⟨⟨h.1.1, fun k hk => by rw [f.1 52 k (by decide) (by decide) (by decide) (by omega)]; exact h.1.2 k hk⟩, by rw [f.2]; exact h.2.1, h.2.2⟩
theorem frB_Q {q : Nat} {I I' : Nat → Nat → Int32} (h1 : b ≤ q) (h2 : q + 4 ≤ b + 34) (h : frQ q I I') : frB b I I' := ⟨fun r k x y z w => h.1 r k x y z (by omega), h.2⟩
theorem pParts_e2 {u : Int} {f : Nat} {met : Nat → Bool} {P : PD} {e : Nat × Nat} : (pParts T n u f met P (.error e)).2 = .error e := by
  cases f with
  | zero => rfl
  | succ f => rfl
set_option maxHeartbeats 4000000 in
theorem c_ruleText {I : Nat → Nat → Int32} {r : PS} {B : Bk} (hb : isBk b) (hv : v.2.2.2.1 = b) (h : cX I v T n) (hr : cO I T n r) (hok : pOk r = true) (hD : cDr I b B) : ∃ I', fX6_ruleText 53 (mkS X I J v) = some ((), mkS X I' J v) ∧ frB b I I' ∧ cO I' T n (pRule T n B r).2 ∧ (pOk (pRule T n B r).2 = true → cDr I' b (pRule T n B r).1) := by
  have hb0 := bk_r hb
  obtain ⟨hB, hBD, hcs⟩ := hD
  have hR6 := hBD.1
  unfold fX6_ruleText pRule
  simp only [bO, o53R, hv, bk_i hb, hB.1, o53]
  by_cases c : B.nR < 6
  · rw [if_pos (by rw [cL_lt (by omega) (by omega) (by decide)]; omega)]
    simp only [if_pos c]
    have hq := isRule_bk hb c
    have hqr := (rule_all hq).2.2.2.2.2
    obtain ⟨I1, a1, a2, a3⟩ := c_adv (X := X) (J := J) h hr
    rw [a1, gb2_some]
    simp only [o53]
    have h1 := cX_K h a2
    have N1 := cNm_K hb (cBk_nm hB hBD) a2
    obtain ⟨I2, nx5, b1, b2, b3, b4⟩ := c_newName (X := X) (J := J) (v := v) hb hv h1 a3 N1
    rw [b1, gb2_some]
    have h2 := cX_K h1 b2
    have fr2 := frK_t a2 b2
    have b3' : cO I2 T n (pRu2 T n B r) := b3
    -- the rule is opened
    have eop : fX1_openRule b (mkS X I2 J v) = some (b + 5 + 5 * B.nR, mkS X I2 J v) := by
      unfold fX1_openRule
      simp only [bO, bk_r3 hb, bk_i hb]
      rw [fr2.1 b 0 (by omega), hB.1, show (5 : Int32) = iZ 5 from rfl, gmin_Z (by omega) (by omega) (by decide) (by decide), show min (B.nR : Int) 5 = ((B.nR : Nat) : Int) by omega, bk_a1 hb I2 J c]
      rfl
    simp only [bO, o53R, hv, bk_c hb, eop, rl_c hq]
    obtain ⟨I3, c1, c2, c3, c4⟩ := c_clearParts (X := X) (J := J) (v := v) (I := I2) hq
    rw [c1, gb2_some]
    have frc : frQ (b + 5 + 5 * B.nR) I2 I3 := ⟨fun r k x y z w => c2 r k (by omega) (by omega) (by omega), c2 53 3 (by omega) (by omega) (by omega)⟩
    have h3 := cX_Q hq h2 frc
    have o3 : cO I3 T n (pRu2 T n B r) := cO_W b3' (fun k => c2 53 k (by omega) (by omega) (by omega))
    simp only [o53, c_isWord h3 o3 isWdT.2.1]
    rw [gb2_some]
    obtain ⟨I4, d1, d2, d3⟩ := c_pass (X := X) (J := J) (b := pOw T n (pRu2 T n B r) == 18) h3 o3
    simp only [o53]
    have d1' : fX6_pass 53 (tf (pOw T n (pRu2 T n B r) == ((18 : Nat) : Int))) (mkS X I3 J v) = some ((), mkS X I4 J v) := d1
    rw [d1', gb2_some]
    have h4 := cX_K h3 d2
    have d3' : cO I4 T n (pRu3 T n B r) := d3
    obtain ⟨I5, x5, e1, e2, e3, e4⟩ := c_number (X := X) (J := J) (lo := 1) (hi := 99) (by decide) (by decide) h4 d3'
    have e3' : cO I5 T n (pRu4 T n B r) := e3
    simp only [o53]
    have e1' : fX6_number 53 1 99 (mkS X I4 J v) = some (x5, mkS X I5 J v) := e1
    rw [e1', gb2_some]
    simp only [bO, rl_p hq, o53]
    have h5 := cX_K h4 e2
    have fg : frQ (b + 5 + 5 * B.nR) I5 (gup I5 (b + 5 + 5 * B.nR) 0 x5) := frQ_g (j := 0) hq (by decide)
    have h5' := cX_Q hq h5 fg
    have o5 : cO (gup I5 (b + 5 + 5 * B.nR) 0 x5) T n (pRu4 T n B r) := cO_W e3' (fun k => gup_r (by omega))
    rw [c_wordAmong h5' o5 (show isTb 3 0 4 from Or.inr (Or.inr (Or.inl ⟨rfl, rfl, rfl⟩))), gb2_some]
    have hu := pOw_r T n (pRu4 T n B r)
    have eu : (if ((0 : Nat) : Int) ≤ pOw T n (pRu4 T n B r) ∧ pOw T n (pRu4 T n B r) < ((0 + 4 : Nat) : Int) then pOw T n (pRu4 T n B r) - ((0 : Nat) : Int) else -1) = if pU T n (pRu4 T n B r) = true then pOw T n (pRu4 T n B r) else -1 := by
      unfold pU
      by_cases z : 0 ≤ pOw T n (pRu4 T n B r) ∧ pOw T n (pRu4 T n B r) < 4
      · rw [if_pos (show ((0 : Nat) : Int) ≤ pOw T n (pRu4 T n B r) ∧ pOw T n (pRu4 T n B r) < ((0 + 4 : Nat) : Int) by omega), decide_eq_true z.1, decide_eq_true z.2, if_pos (show (true && true) = true from rfl)]; omega
      · rw [if_neg (show ¬ (((0 : Nat) : Int) ≤ pOw T n (pRu4 T n B r) ∧ pOw T n (pRu4 T n B r) < ((0 + 4 : Nat) : Int)) by omega), if_neg]
        rw [Bool.and_eq_true, decide_eq_true_eq, decide_eq_true_eq]; exact z
    rw [eu]
    simp only [bO, rl_p hq, rl_i hq, gup_s, o53]
    -- the unit
    have hz : ∃ z : Int, -1 ≤ z ∧ z ≤ 3 ∧ (if pU T n (pRu4 T n B r) = true then pOw T n (pRu4 T n B r) else -1) = z ∧ (z = -1 ↔ pU T n (pRu4 T n B r) = false) ∧ (pU T n (pRu4 T n B r) = true → z = pOw T n (pRu4 T n B r)) := by
      cases w : pU T n (pRu4 T n B r) with
      | true =>
        unfold pU at w
        rw [Bool.and_eq_true, decide_eq_true_eq, decide_eq_true_eq] at w
        refine ⟨pOw T n (pRu4 T n B r), by omega, by omega, if_pos rfl, ⟨fun e => by omega, fun e => by cases e⟩, fun _ => rfl⟩
      | false => exact ⟨-1, by omega, by omega, if_neg (by decide), ⟨fun _ => rfl, fun _ => rfl⟩, fun e => by cases e⟩
    obtain ⟨z, z1, z2, z3, z4, z5⟩ := hz
    rw [z3]
    have fg2 : frQ (b + 5 + 5 * B.nR) I5 (gup (gup I5 (b + 5 + 5 * B.nR) 0 x5) (b + 5 + 5 * B.nR) 1 (iZ z)) := frQ_t fg (frQ_g (j := 0) hq (by decide))
    have h6 := cX_Q hq h5 fg2
    have o6 : cO (gup (gup I5 (b + 5 + 5 * B.nR) 0 x5) (b + 5 + 5 * B.nR) 1 (iZ z)) T n (pRu4 T n B r) := cO_W e3' (fun k => by rw [gup_r (by omega), gup_r (by omega)])
    obtain ⟨I6, f1, f2, f3⟩ := c_pass (X := X) (J := J) (b := pU T n (pRu4 T n B r)) h6 o6
    have f3' : cO I6 T n (pRu5 T n B r) := f3
    have h7 := cX_K h6 f2
    obtain ⟨I7, g1, g2, g3⟩ := c_pass (X := X) (J := J) (b := pOw T n (pRu5 T n B r) == 19) h7 f3'
    have g3' : cO I7 T n (pRu6 T n B r) := g3
    have h8 := cX_K h7 g2
    obtain ⟨I8, x8, i1, i2, i3, i4, i5⟩ := c_dateText (X := X) (J := J) h8 g3'
    have i3' : cO I8 T n (pRu7 T n B r) := i3
    have h9 := cX_K h8 i2
    have hday : ∃ d : Nat, d < 14610 ∧ x8 = iZ (d : Int) ∧ (pOk (pRu7 T n B r) = true → d = pDateV T n (pRu6 T n B r)) := by
      cases w : pOk (pRu7 T n B r) with
      | true => exact ⟨pDateV T n (pRu6 T n B r), pDate_r w, i4 w, fun _ => rfl⟩
      | false => exact ⟨0, by decide, i5 w, fun e => by cases e⟩
    obtain ⟨d, hd1, hd2, hd3⟩ := hday
    obtain ⟨I9, j1, j2, j3, j4, j5, j6⟩ := c_beginAt (X := X) (J := J) (v := v) (I := I8) (d := d) hq hd1
    have frb : frQ (b + 5 + 5 * B.nR) I8 I9 := ⟨fun r k x y z w => j2 r k (Or.inl (by omega)), j2 53 3 (Or.inl (by omega))⟩
    have h10 := cX_Q hq h9 frb
    have o10 : cO I9 T n (pRu7 T n B r) := cO_W i3' (fun k => j2 53 k (Or.inl (by omega)))
    -- what the object of the rule holds so far
    have q7 : ∀ r k, b + 5 + 5 * B.nR ≤ r → r ≤ b + 5 + 5 * B.nR + 4 → I8 r k = gup (gup I5 (b + 5 + 5 * B.nR) 0 x5) (b + 5 + 5 * B.nR) 1 (iZ z) r k := fun r k x y => by rw [i2.1 r k (by omega), g2.1 r k (by omega), f2.1 r k (by omega)]
    have q5 : ∀ r k, b + 5 + 5 * B.nR ≤ r → r ≤ b + 5 + 5 * B.nR + 4 → I5 r k = I3 r k := fun r k x y => by rw [e2.1 r k (by omega), d2.1 r k (by omega)]
    have pd9 : cPd I9 (b + 5 + 5 * B.nR) P0 := by
      refine cPd_fr2 c4 (fun k hk => ?_) (fun r k x y => ?_)
      · rw [j2 _ k (Or.inr (Or.inr (by omega))), q7 _ k (by omega) (by omega), gup_k (by omega), gup_k (by omega), q5 _ k (by omega) (by omega)]
      · rw [j2 _ k (Or.inl (by omega)), q7 _ k (by omega) (by omega), gup_r (by omega), gup_r (by omega), q5 _ k (by omega) (by omega)]
    have u9 : I9 (b + 5 + 5 * B.nR) 1 = iZ z := by rw [j2 _ 1 (Or.inr (Or.inl (by decide))), q7 _ 1 (by omega) (by omega), gup_s]
    have s9 : I9 (b + 5 + 5 * B.nR) 0 = x5 := by rw [j2 _ 0 (Or.inr (Or.inl (by decide))), q7 _ 0 (by omega) (by omega), gup_k (by decide), gup_s]
    obtain ⟨I10, k1, k2, k3, k4, k5⟩ := c_partsL (X := X) (J := J) (v := v) (T := T) (n := n) (K := fun s56 => (ggR s56 53 6 7).bind fun v57 => gb2 (gcv s56 v57 1 (fX1_closeRule v57 nx5 s56)) fun _ s59 => some ((), s59)) (x1 := nx5) (u := z) hq (by omega) (by omega) 8 0 20000 (fun _ => false) P0 (pRu7 T n B r) I9 0 (by decide) (by decide) h10 o10 u9 (fun _ => ⟨rfl, pd9, PDok0, fun _ => rfl, fun _ => rfl, fun k hk => by rw [ib_0]⟩)
    have frA : frB b I I10 := frB_t (frB_K fr2) (frB_t (frB_Q (by omega) (by omega) frc) (frB_t (frB_K (frK_t d2 e2)) (frB_t (frB_Q (by omega) (by omega) fg2) (frB_t (frB_K (frK_t f2 (frK_t g2 i2))) (frB_t (frB_Q (by omega) (by omega) frb) (frB_Q (by omega) (by omega) k2))))))
    -- what is outside the rule's object stays
    have keep : ∀ r k, b ≤ r → r ≤ b + 34 → ¬ (b + 5 + 5 * B.nR ≤ r ∧ r ≤ b + 5 + 5 * B.nR + 4) → I10 r k = I r k := by
      intro r k x y w
      rw [k2.1 r k (by omega) (by omega) (by omega) w, frb.1 r k (by omega) (by omega) (by omega) w, i2.1 r k (by omega), g2.1 r k (by omega), f2.1 r k (by omega), fg2.1 r k (by omega) (by omega) (by omega) w, e2.1 r k (by omega), d2.1 r k (by omega), frc.1 r k (by omega) (by omega) (by omega) w, b2.1 r k (by omega), a2.1 r k (by omega)]
    -- the rule is closed
    have ecl : fX1_closeRule b nx5 (mkS X I10 J v) = some ((), mkS X (gup (gup I10 (b + 2) B.nR nx5) b 0 (iZ ((B.nR + 1 : Nat) : Int))) J v) := by
      unfold fX1_closeRule
      simp only [bO, bk_i hb, bk_r4 hb]
      rw [keep b 0 (by omega) (by omega) (by omega), hB.1, if_pos (by rw [cL_lt (by omega) (by omega) (by decide)]; omega), bk_b2 hb I10 J (show B.nR < 12 by omega)]
      simp only [bO, bk_i hb, bk_p hb]
      rw [gup_r (by omega), keep b 0 (by omega) (by omega) (by omega), hB.1, aL]
      rfl
    have eu8 : pU T n (pRu4 T n B r) = true → pParts T n z 8 (fun _ => false) P0 (pRu7 T n B r) = pRu8 T n B r := fun w => by unfold pRu8; rw [z5 w]
    have eer : pU T n (pRu4 T n B r) = false → pOk (pRu7 T n B r) = false := by
      intro w
      cases y : pOk (pRu7 T n B r)
      · rfl
      · have := (pPass_ok ((pPass_ok ((pDate_in (pNum_ok y).1).1)).2)).1
        rw [w] at this; cases this
    have e82 : (pParts T n z 8 (fun _ => false) P0 (pRu7 T n B r)).2 = (pRu8 T n B r).2 := by
      cases w : pU T n (pRu4 T n B r) with
      | true => rw [eu8 w]
      | false =>
        have hE := eer w
        cases y : pRu7 T n B r with
        | ok s => rw [y] at hE; cases hE
        | error e =>
          have ex : pRu8 T n B r = pParts T n (pOw T n (pRu4 T n B r)) 8 (fun _ => false) P0 (pRu7 T n B r) := rfl
          rw [ex, y, pParts_e2, pParts_e2]
    rw [e82] at k4 k5
    have fin : frB b I (gup (gup I10 (b + 2) B.nR nx5) b 0 (iZ ((B.nR + 1 : Nat) : Int))) := frB_t frA (frB_t (frB_g hb (by omega) (by omega)) (frB_g hb (by omega) (by omega)))
    have ofin : cO (gup (gup I10 (b + 2) B.nR nx5) b 0 (iZ ((B.nR + 1 : Nat) : Int))) T n (pRu8 T n B r).2 := cO_W k4 (fun k => by rw [gup_r (by omega), gup_r (by omega)])
    refine ⟨gup (gup I10 (b + 2) B.nR nx5) b 0 (iZ ((B.nR + 1 : Nat) : Int)), ?_, fin, ofin, fun hokf => ?_⟩
    · have run : ∀ s, (gb2 (fX6_pass 53 (tf (pU T n (pRu4 T n B r))) (mkS X (gup (gup I5 (b + 5 + 5 * B.nR) 0 x5) (b + 5 + 5 * B.nR) 1 (iZ z)) J v)) fun (_ : Unit) s29 => gb2 (gcv s29 53 6 (fX6_isWord 53 6 s29)) fun r30 s31 => gb2 (gcv s31 53 6 (fX6_pass 53 r30 s31)) fun _ s33 => gb2 (gcv s33 53 6 (fX6_dateText 53 s33)) fun r34 s35 => gb2 (gcv s35 (b + 5 + 5 * B.nR) 8 (fX8_beginAt (b + 5 + 5 * B.nR) r34 s35)) fun _ s37 => gb2 (gcv s37 53 6 (fX6_wordAmong 53 2 s37)) fun r38 s39 => gX6_ruleText_L122 (fun s56 => (ggR s56 53 6 7).bind fun v57 => gb2 (gcv s56 v57 1 (fX1_closeRule v57 nx5 s56)) fun _ s59 => some ((), s59)) 53 nx5 (b + 5 + 5 * B.nR) 20000 0 r38 0 s39) = some ((), s) ↔ mkS X (gup (gup I10 (b + 2) B.nR nx5) b 0 (iZ ((B.nR + 1 : Nat) : Int))) J v = s := by
        intro s
        rw [f1, gb2_some]
        simp only [o53, c_isWord h7 f3' isWdT.2.2.1]
        rw [gb2_some]
        have g1' : fX6_pass 53 (tf (pOw T n (pRu5 T n B r) == ((19 : Nat) : Int))) (mkS X I6 J v) = some ((), mkS X I7 J v) := g1
        simp only [o53]
        rw [g1', gb2_some]
        simp only [o53]
        rw [i1, gb2_some, hd2]
        simp only [rl_c hq]
        rw [j1, gb2_some]
        simp only [o53]
        rw [c_wordPart h10 o10, gb2_some]
        have k1' : gX6_ruleText_L122 (fun s56 => (ggR s56 53 6 7).bind fun v57 => gb2 (gcv s56 v57 1 (fX1_closeRule v57 nx5 s56)) fun _ s59 => some ((), s59)) 53 nx5 (b + 5 + 5 * B.nR) 20000 0 (iZ (pWd T n (pRu7 T n B r))) 0 (mkS X I9 J v) = (ggR (mkS X I10 J v) 53 6 7).bind fun v57 => gb2 (gcv (mkS X I10 J v) v57 1 (fX1_closeRule v57 nx5 (mkS X I10 J v))) fun _ s59 => some ((), s59) := k1
        rw [k1']
        simp only [bO, o53R, hv, bk_c hb, ecl]
        constructor
        · intro e; injection e with e; injection e
        · intro e; rw [e]
      cases w : pU T n (pRu4 T n B r) with
      | true =>
        rw [w] at run
        rw [if_neg (show ¬ iZ z = -1 from by rw [cM_eq (by omega) (by omega)]; intro e; have := z4.mp e; rw [w] at this; cases this)]
        exact (run _).mpr rfl
      | false =>
        rw [w] at run
        rw [if_pos (show iZ z = -1 from by rw [z4.mpr w]; rfl)]
        exact (run _).mpr rfl
    · obtain ⟨y7, y6, y5, y4, y3, y2, y1, yn1, yn2⟩ := pRule_in hokf
      have hU : pU T n (pRu4 T n B r) = true := (pPass_ok y5).1
      rw [eu8 hU] at k5
      obtain ⟨-, m1, m2⟩ := k5 hokf
      obtain ⟨nm1, nm2⟩ := b4 y2
      have hu4 : z = ((pOw T n (pRu4 T n B r)).toNat : Nat) := by rw [z5 hU]; omega
      have dd := hd3 y7
      have hRl : cRl I10 (b + 5 + 5 * B.nR) (mkRul (pOw T n (pRu4 T n B r)).toNat (pDateV T n (pRu6 T n B r)) (pRu8 T n B r).1) := by
        rw [← dd]
        exact mkRul_c m1 m2 (by rw [k3 1 (by decide), u9, hu4]) (by rw [k3 2 (by decide), j3]) (by rw [k3 3 (by decide), j4]) (by rw [k3 4 (by decide), j5]) (by rw [k3 5 (by decide), j6])
      rw [nm1]
      exact cDr_addR hb hB hBD hcs c keep hRl (by rw [k3 0 (by decide), s9, e4 y4]) (mkRul_ok (by omega) (pDate_r y7) m2) yn1 yn2 nm2
  · rw [if_neg (by rw [cL_lt (by omega) (by omega) (by decide)]; omega)]
    simp only [if_neg c]
    obtain ⟨I1, a1, a2, a3⟩ := c_refuseS (X := X) (J := J) (v := v) (f := 5) (by decide) (by decide) hr
    rw [show (5 : Int32) = iZ ((5 : Nat) : Int) from rfl, a1]
    exact ⟨I1, rfl, frB_K a2, a3, fun e => by rw [pNot_ok] at e; cases e⟩
end gRt
