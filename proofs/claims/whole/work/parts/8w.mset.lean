/-! A SET is told to the reference; STATEMENTS -/
section gMs
variable {X : Nat × (Nat → Int32)} {J : Nat → Nat → Int64} {v : Vt} {T : Nat → Nat} {n : Nat}
theorem m_sumTold {I : Nat → Nat → Int32} {r : PS} {nR nS : Nat} {nm : Nat → List Nat} {k0 : Nat} (h : mX I T n) (hr : mO I T n r) (hN : mNm I nR nS nm) (hcal : mCal I) (hC : pOk r = true → I 267 22 = iZ (k0 : Int) ∧ 2 * k0 + 1 ≤ pAt r) : ∃ I', fX12_sumTold 267 (mkS X I J v) = some ((), mkS X I' J v) ∧ frV k0 I I' ∧ mO I' T n (pSum T n nR nS nm 6 r).2 ∧ (pOk (pSum T n nR nS nm 6 r).2 = true → cfC I' k0 (pSum T n nR nS nm 6 r).1) := by
  have hn := h.1.1
  unfold fX12_sumTold
  simp only [bO, o267]
  have f1 : frV k0 I (gup (gup I 267 26 0) 267 27 0) := ⟨fun r j a _ _ _ => by rw [gup_r a, gup_r a], fun j a b c d e f g h i => by rw [gup_k i, gup_k h], fun j _ => by rw [gup_r (by decide), gup_r (by decide)]⟩
  have o1 : mO (gup (gup I 267 26 0) 267 27 0) T n r := mO_7 hr (fun k hk => by rw [gup_k (by omega), gup_k (by omega)])
  cases hok : pOk r with
  | false =>
    rw [if_neg (mO_err o1 hok), L23_eq, if_pos rfl]
    obtain ⟨e, he⟩ : ∃ e, r = .error e := by
      cases r with
      | error e => exact ⟨e, rfl⟩
      | ok s => cases hok
    have es : (pSum T n nR nS nm 6 r).2 = r := by
      have : pOk (pSum T n nR nS nm 6 r).2 = false := by
        cases z : pOk (pSum T n nR nS nm 6 r).2
        · rfl
        · have := pSumB_ok (d := 6) (S := pSum T n nR nS nm 5) z
          rw [hok] at this; cases this
      subst he
      show (pLp T n 22 22 (pBoth T n nR nS nm (pSum T n nR nS nm 5) 6) 1600 (pLp T n 23 24 (pOne T n nR nS nm (pSum T n nR nS nm 5) 6) 1600 (pMov T n nR nS nm 1600 (pFs1 T n nR nS nm (pSum T n nR nS nm 5) 6 (.error e)).2).2).2).2 = _
      have e1 : (pFs1 T n nR nS nm (pSum T n nR nS nm 5) 6 (.error e)).2 = .error e := by
        show (if pSign T n 40 (.error e) = true then _ else if pOw T n (.error e) = 28 then _ else _ : List (Nat × Nat) × PS).2 = _
        have z1 : pSign T n 40 (.error e) = false := rfl
        have z2 : pOw T n (.error e) = -1 := rfl
        rw [z1, z2]
        rw [if_neg (show ¬ false = true by decide), if_neg (show ¬ (-1 : Int) = 28 by decide)]
        rfl
      rw [e1, pMov_e, pLp_e (by decide), pLp_e (by decide)]
    rw [es]
    exact ⟨_, rfl, f1, o1, fun q => by rw [hok] at q; cases q⟩
  | true =>
    obtain ⟨c1, c2⟩ := hC hok
    rw [if_pos (mO_ok o1 hok)]
    obtain ⟨s, hs⟩ : ∃ s, r = .ok s := by
      cases r with
      | ok s => exact ⟨s, rfl⟩
      | error e => cases hok
    subst hs
    have hdl : pDl T n (.ok s) ≤ 1 := by unfold pDl; split <;> omega
    have hpa : pAt (Except.ok s : PS) = s.1 := rfl
    rw [hpa] at c2
    have hcf : cfg T n nR nS nm k0 (gup (gup I 267 26 0) 267 27 0) (.ok s) [] (6 - 6) [] := ⟨mX_V h f1, o1, mNm_V hN f1, mCal_V hcal f1, ⟨by rw [gup_k (by decide), gup_s]; rfl, fun j hj => absurd hj (Nat.not_lt_zero j)⟩, gup_s, ⟨by rw [gup_k (by decide), gup_k (by decide)]; exact c1, trivial⟩⟩
    obtain ⟨t1, t2⟩ := t_sum (X := X) (J := J) (v := v) (T := T) (n := n) (nR := nR) (nS := nS) (nm := nm) (k0 := k0) hn 6 (by decide) (gup (gup I 267 26 0) 267 27 0) s [] [] 20000 hcf (by show 2 * (k0 + 0 + 0) + pDl T n (.ok s) ≤ s.1; omega) (by decide) (Or.inl rfl) (by omega)
    cases hok2 : pOk (pSum T n nR nS nm 6 (.ok s)).2 with
    | false =>
      obtain ⟨I', a1, a2, a3⟩ := t2 hok2
      exact ⟨I', a1, frV_t f1 a2, a3, fun q => by cases q⟩
    | true =>
      obtain ⟨I1, fu', gf', Q, C', a1, a2, a3, a4, ⟨a5, a5'⟩, a6, a7⟩ := t1 hok2
      have hsp := sp_sum (T := T) (n := n) (nR := nR) (nS := nS) (nm := nm) 6 (by decide) (.ok s) hr.2.1
      obtain ⟨p1, p2, p3, p4⟩ := hsp.2 hok2
      rw [hpa] at p2
      have hat := pAt_in hsp.1
      obtain ⟨w2, w3, w4⟩ := pSum_end (T := T) (n := n) (nR := nR) (nS := nS) (nm := nm) hn (r := .ok s) hr.2.1 hok2
      have htl := trL_len (pSum T n nR nS nm 6 (.ok s)).1
      have hlenC : C'.length + Q.length = (pSum T n nR nS nm 6 (.ok s)).1.length := by
        have := congrArg List.length a4
        rw [List.length_append, List.length_map, List.nil_append] at this
        exact this
      obtain ⟨I5, d1, d2, d3⟩ := mR_flush (X := X) (J := J) (v := v) (gf := gf') (S := []) a3 hok2 w2 w3 w4 (Or.inl rfl) a5' (by rw [List.length_nil]; omega) (by omega)
      rw [a4, List.nil_append] at d3
      obtain ⟨f4, rfl⟩ : ∃ m, fu' = m + 1 := ⟨fu' - 1, by omega⟩
      refine ⟨I5, ?_, frV_t f1 (frV_t a2 d2), d3.2.1, fun _ => d3.2.2.2.2.2.2⟩
      rw [a1]
      unfold mR
      rw [d1, if_pos (by rfl), gzr_0, gb2_some, L23_eq, if_pos rfl]
def stN (v2 : Int32) (s4 : gH) : Option (Unit × gH) := (ggI s4 267 12 5).bind fun v5 => if v5 = 0 then gb2 (gcv s4 267 12 (fX12_newName 267 s4)) fun r7 s8 => gb2 (gcv s8 267 12 (fX12_asks 267 21 s8)) fun (_ : Unit) s10 => (ggR s10 267 12 18).bind fun v11 => gb2 (fX12_setAt v2 1 s10) fun r12 s13 => (ggI s13 267 12 22).bind fun v14 => (saI s13 v11 2 r12 v14).bind fun s15 => gb2 (gcv s15 267 12 (fX12_sumTold 267 s15)) fun (_ : Unit) s17 => (ggI s17 267 12 5).bind fun v18 => if v18 = 0 then (ggR s17 267 12 18).bind fun v20 => gb2 (fX12_setAt v2 0 s17) fun r21 s22 => (saI s22 v20 2 r21 r7).bind fun s23 => (ggR s23 267 12 18).bind fun v24 => gb2 (fX12_setAt v2 2 s23) fun r25 s26 => (ggI s26 267 12 22).bind fun v27 => (saI s26 v24 2 r25 v27).bind fun s28 => (ggR s28 267 12 18).bind fun v29 => (gaI s28 v29 2 1).bind fun v30 => (saI s28 v29 2 1 (v30 + 1)).bind fun s31 => some ((), s31) else some ((), s17) else some ((), s4)
theorem st_eq (x1 : Int32) (s0 : gH) : fX12_setTold 267 x1 s0 = (ggR s0 267 12 18).bind fun v1 => (gaI s0 v1 2 1).bind fun v2 => if v2 = 6 then gb2 (gcv s0 267 12 (fX12_fail 267 5 x1 s0)) fun (_ : Unit) s34 => stN v2 s34 else stN v2 s0 := rfl
theorem frZ_V {k : Nat} {I I' : Nat → Nat → Int32} (h : frV k I I') : frZ I I' := ⟨fun r j a _ c d e => h.1 r j a c d e, h.2.1⟩
theorem m_setTold {I : Nat → Nat → Int32} {r : PS} {B : Bk} (h : mX I T n) (hok : pOk r = true) (hi : bInv n B r) (hr : mO I T n (pAdv T n r)) (hcal : mCal I) (hdf : mDf I B) : ∃ I', fX12_setTold 267 (iZ (pAt r : Nat)) (mkS X I J v) = some ((), mkS X I' J v) ∧ frZ I I' ∧ mO I' T n (pSet T n B r).2 ∧ (pOk (pSet T n B r).2 = true → mDf I' (pSet T n B r).1) := by
  have hD := hi.1
  have hS6 := hD.2.1
  have hR6 := hD.1
  have hn := h.1.1
  have hok1 : pOk (pAdv T n r) = true := by rw [pAdv_ok]; exact hok
  have g0 : gaI (mkS X I J v) 275 2 1 = some (I 275 1) := a275 X I J v 1 (by decide)
  rw [st_eq]
  simp only [bO, o267R, o267]
  rw [g0, hdf.2.1]
  simp only [bO]
  by_cases c : B.nS < 6
  · rw [if_neg (by rw [cL_eq (by omega) (by omega) (by decide)]; omega)]
    have eR : pSet T n B r = (B.addS (pNameV T n (pAdv T n r)) (pSe4 T n B r).1, (pSe4 T n B r).2) := by unfold pSet; rw [if_pos c]
    rw [eR]
    have q0 : ∀ s : gH, fX12_setAt (iZ (B.nS : Int)) 0 s = some (iZ ((254 + 3 * B.nS : Nat) : Int), s) := fun s => m_setAt (k := 0)
    have q1 : ∀ s : gH, fX12_setAt (iZ (B.nS : Int)) 1 s = some (iZ ((254 + 3 * B.nS + 1 : Nat) : Int), s) := fun s => m_setAt (k := 1)
    have q2 : ∀ s : gH, fX12_setAt (iZ (B.nS : Int)) 2 s = some (iZ ((254 + 3 * B.nS + 2 : Nat) : Int), s) := fun s => m_setAt (k := 2)
    unfold stN
    simp only [bO, o267]
    rw [if_pos (mO_ok hr hok1)]
    obtain ⟨I1, x1, a1, a2, a3, a4⟩ := m_newName (X := X) (J := J) (v := v) h hr (mDf_nm hdf hD)
    have a3' : mO I1 T n (pSe2 T n B r) := a3
    have a4' : pOk (pSe2 T n B r) = true → x1 = iZ (nm27 (pNameV T n (pAdv T n r)) : Nat) := a4
    rw [a1]
    simp only [bO, o267]
    have h1 := mX_M h a2
    obtain ⟨I2, b1, b2, b3⟩ := m_asks (X := X) (J := J) (v := v) (w := 21) (by decide) h1 a3'
    have b1' : fX12_asks 267 21 (mkS X I1 J v) = some ((), mkS X I2 J v) := b1
    have b3' : mO I2 T n (pSe3 T n B r) := b3
    rw [b1']
    have fr2 := frM_t a2 b2
    have e22 : I2 267 22 = iZ (mE B.cs B.nS : Nat) := by rw [fr2.2 22 (by decide) (by decide) (by decide) (by decide) (by decide) (by decide)]; exact hdf.2.2.2.2.1
    simp only [bO, o267, o267R, q1, e22]
    rw [b275 _ _ _ _ _ _ (by omega)]
    simp only [bO, o267, gnar_2]
    -- the sum
    have f3 : frN 0 272 I (gup I2 275 (254 + 3 * B.nS + 1) (iZ (mE B.cs B.nS : Nat))) := frN_t (frN_M fr2) (frN_g (by omega) (by omega))
    have h3 := mX_N h f3
    have o3 : mO (gup I2 275 (254 + 3 * B.nS + 1) (iZ (mE B.cs B.nS : Nat))) T n (pSe3 T n B r) := mO_7 b3' (fun k _ => gup_r (by decide))
    have n3 : mNm (gup I2 275 (254 + 3 * B.nS + 1) (iZ (mE B.cs B.nS : Nat))) B.nR B.nS B.nm := by
      obtain ⟨m1, m2, m3, m4, m5, m6⟩ := mDf_nm hdf hD
      refine ⟨m1, m2, by rw [gup_k (by omega), fr2.1 275 _ (by decide)]; exact m3, by rw [gup_k (by omega), fr2.1 275 _ (by decide)]; exact m4, fun k hk => ⟨(m5 k hk).1, by rw [gup_k (by omega), fr2.1 275 _ (by decide)]; exact (m5 k hk).2⟩, fun k hk => ⟨(m6 k hk).1, by rw [gup_k (by omega), fr2.1 275 _ (by decide)]; exact (m6 k hk).2⟩⟩
    have hmc := mE_cE B.cs B.nS
    have hinv := hi.2.2 hok
    obtain ⟨i2, i3, i4⟩ := pSet_in (T := T) (B := B) hi.2.1
    obtain ⟨I4, c1, c2, c3, c4⟩ := m_sumTold (X := X) (J := J) (v := v) (k0 := mE B.cs B.nS) h3 o3 n3 (mCal_N hcal f3) (fun q => by
      refine ⟨by rw [gup_r (by decide)]; exact e22, ?_⟩
      have o2 := (pPass_ok q).2
      have l2 := pNew_lt (show pOk (pNew T n B.nR B.nS B.nm (pAdv T n r)) = true from o2)
      have l1 := (pLe_adv (T := T) hi.2.1 hok1).2
      have l3 := (pLe_pass (T := T) (b := pOw T n (pSe2 T n B r) == 21) i2 q).2
      have l2' : pAt (pAdv T n r) + 1 ≤ pAt (pSe2 T n B r) := l2.2
      have l3' : pAt (pSe2 T n B r) ≤ pAt (pSe3 T n B r) := l3
      omega)
    have c3' : mO I4 T n (pSe4 T n B r).2 := c3
    rw [c1]
    simp only [bO, o267]
    have fz4 : frZ I I4 := frZ_t ⟨fun r k x y _ _ _ => f3.1 r k x y, fun k a b c d e f _ _ _ => f3.2.1 k a b c d e f⟩ (frZ_V c2)
    cases hok4 : pOk (pSe4 T n B r).2 with
    | false =>
      rw [if_neg (mO_err c3' hok4)]
      exact ⟨I4, rfl, fz4, c3', fun q => by cases q⟩
    | true =>
      rw [if_pos (mO_ok c3' hok4)]
      obtain ⟨y1, y2, y3, y4, y5, y6⟩ := pSet_sp (T := T) (B := B) hi.2.1 hok4
      have hcf := c4 hok4
      have e4 : I4 267 22 = iZ ((mE B.cs B.nS + (pSe4 T n B r).1.length : Nat) : Int) := hcf.1
      have k4 : ∀ k, I4 275 k = gup I2 275 (254 + 3 * B.nS + 1) (iZ (mE B.cs B.nS : Nat)) 275 k := fun k => c2.1 275 k (by decide) (by decide) (by decide) (by decide)
      simp only [o267R, bO, q0]
      rw [b275 _ _ _ _ _ _ (by omega)]
      simp only [bO, o267, o267R, q2, gnar_2]
      rw [gup_r (show (267 : Nat) ≠ 275 by decide), e4, b275 _ _ _ _ _ _ (by omega)]
      simp only [bO, o267R, gnar_2]
      have s1 : ∀ (I' : Nat → Nat → Int32) (x : Int32), saI (mkS X I' J v) 275 2 1 x = some (mkS X (gup I' 275 1 x) J v) := fun I' x => b275 X I' J v 1 x (by decide)
      have g1 : ∀ I' : Nat → Nat → Int32, gaI (mkS X I' J v) 275 2 1 = some (I' 275 1) := fun I' => a275 X I' J v 1 (by decide)
      rw [g1]
      simp only [bO]
      rw [s1]
      simp only [bO]
      rw [gup_k (show (1 : Nat) ≠ 254 + 3 * B.nS + 2 by omega), gup_k (show (1 : Nat) ≠ 254 + 3 * B.nS by omega), k4, gup_k (by omega), fr2.1 275 _ (by decide), hdf.2.1, aL, show ((B.nS : Nat) : Int) + 1 = ((B.nS + 1 : Nat) : Int) by omega]
      have kp : ∀ k, k ≠ 1 → k ≠ 254 + 3 * B.nS → k ≠ 254 + 3 * B.nS + 1 → k ≠ 254 + 3 * B.nS + 2 → gup (gup (gup I4 275 (254 + 3 * B.nS) x1) 275 (254 + 3 * B.nS + 2) (iZ ((mE B.cs B.nS + (pSe4 T n B r).1.length : Nat) : Int))) 275 1 (iZ ((B.nS + 1 : Nat) : Int)) 275 k = I 275 k := fun k w1 w2 w3 w4 => by rw [gup_k w1, gup_k w4, gup_k w2, k4, gup_k w3, fr2.1 275 _ (by decide)]
      have k277 : ∀ j, gup (gup (gup I4 275 (254 + 3 * B.nS) x1) 275 (254 + 3 * B.nS + 2) (iZ ((mE B.cs B.nS + (pSe4 T n B r).1.length : Nat) : Int))) 275 1 (iZ ((B.nS + 1 : Nat) : Int)) 277 j = I4 277 j := fun j => by rw [gup_r (by decide), gup_r (by decide), gup_r (by decide)]
      obtain ⟨z1, z2, z3, z4, z5, z6⟩ := hdf
      refine ⟨_, rfl, frZ_t fz4 ⟨fun r k x y _ _ _ => by rw [gup_r y, gup_r y, gup_r y], fun k _ _ _ _ _ _ _ _ _ => by rw [gup_r (by decide), gup_r (by decide), gup_r (by decide)]⟩, mO_7 c3' (fun k _ => by rw [gup_r (by decide), gup_r (by decide), gup_r (by decide)]), fun _ => ⟨?_, gup_s, ?_, ?_, ?_, ?_⟩⟩
      · show _ = iZ (B.nR : Int)
        rw [kp 0 (by omega) (by omega) (by omega) (by omega)]; exact z1
      · intro k hk'
        have hk : k < B.nR := hk'
        show mRD _ k (B.rl k) (B.stp k) (if k = 6 + B.nS then _ else B.nm k)
        rw [if_neg (by omega)]
        exact mRD_fr (z3 k hk) (hD.2.2.1 k hk).1 (fun j hj => kp _ (by omega) (by omega) (by omega) (by omega))
      · intro k hk'
        have hk : k < B.nS + 1 := hk'
        by_cases e : k = B.nS
        · subst e
          refine ⟨?_, ?_, ?_, ?_⟩
          · show _ = iZ ((nm27 (if 6 + B.nS = 6 + B.nS then pNameV T n (pAdv T n r) else B.nm (6 + B.nS)) : Nat) : Int)
            rw [if_pos rfl, gup_k (by omega), gup_k (by omega), gup_s, a4' y3]
          · rw [gup_k (by omega), gup_k (by omega), gup_k (by omega), k4, gup_s, addS_mE (Nat.le_refl _)]
          · rw [gup_k (by omega), gup_s, addS_mE1]
          · rw [addS_mE (Nat.le_refl _)]
            show mgD _ _ (if B.nS = B.nS then (pSe4 T n B r).1 else B.cs B.nS)
            rw [if_pos rfl]
            exact mgD_fr (fun j _ => k277 j) hcf.2
        · obtain ⟨w1, w2, w3, w4⟩ := z4 k (by omega)
          refine ⟨?_, ?_, ?_, ?_⟩
          · show _ = iZ ((nm27 (if 6 + k = 6 + B.nS then pNameV T n (pAdv T n r) else B.nm (6 + k)) : Nat) : Int)
            rw [if_neg (by omega), kp _ (by omega) (by omega) (by omega) (by omega)]; exact w1
          · rw [kp _ (by omega) (by omega) (by omega) (by omega), addS_mE (by omega)]; exact w2
          · rw [kp _ (by omega) (by omega) (by omega) (by omega), addS_mE (by omega)]; exact w3
          · rw [addS_mE (by omega)]
            show mgD _ _ (if k = B.nS then (pSe4 T n B r).1 else B.cs k)
            rw [if_neg e]
            refine mgD_fr (fun j hj => ?_) w4
            have hmono := mE_mono (cs := B.cs) (show k + 1 ≤ B.nS by omega)
            have hm2 : mE B.cs (k + 1) = mE B.cs k + (B.cs k).length := rfl
            rw [k277, c2.2.2 j (by omega), gup_r (by decide), fr2.1 277 _ (by decide)]
      · show _ = iZ ((mE (B.addS (pNameV T n (pAdv T n r)) (pSe4 T n B r).1).cs (B.nS + 1) : Nat) : Int)
        rw [addS_mE1, gup_r (by decide), gup_r (by decide), gup_r (by decide), e4]
      · intro k w1 w2
        have w1' : 2 + 42 * B.nR ≤ k := w1
        rw [kp k (by omega) (by omega) (by omega) (by omega)]
        exact z6 k w1' w2
  · rw [if_pos (by rw [show B.nS = 6 by omega]; rfl)]
    have eR : pSet T n B r = (B, pNot 5 r) := by unfold pSet; rw [if_neg c]
    rw [eR]
    obtain ⟨I1, a1, a2, a3, -⟩ := m_fail (X := X) (J := J) (v := v) (f := 5) (p := pAt r) (by decide) (by decide) hr
    have a1' : fX12_fail 267 5 (iZ (pAt r : Nat)) (mkS X I J v) = some ((), mkS X I1 J v) := a1
    rw [a1', gb2_some]
    rw [pFail_ok hok1] at a3
    unfold stN
    simp only [bO, o267]
    rw [if_neg (mO_err a3 rfl)]
    refine ⟨I1, rfl, frZ_M a2, ?_, fun q => by rw [show pOk (pNot 5 r) = false from pNot_ok] at q; cases q⟩
    show mO I1 T n (pNot 5 r)
    rw [show pNot 5 r = .error (5, pAt r) from pFail_ok hok]
    exact a3
theorem mDf_M {I I' : Nat → Nat → Int32} {B : Bk} (h : mDf I B) (d : BkD B) (f1 : ∀ k, I' 275 k = I 275 k) (f2 : ∀ k, I' 277 k = I 277 k) (f3 : I' 267 22 = I 267 22) : mDf I' B := by
  obtain ⟨z1, z2, z3, z4, z5, z6⟩ := h
  exact ⟨by rw [f1]; exact z1, by rw [f1]; exact z2, fun r hr => mRD_fr (z3 r hr) (d.2.2.1 r hr).1 (fun k _ => f1 _), fun s hs => ⟨by rw [f1]; exact (z4 s hs).1, by rw [f1]; exact (z4 s hs).2.1, by rw [f1]; exact (z4 s hs).2.2.1, mgD_fr (fun j _ => f2 j) (z4 s hs).2.2.2⟩, by rw [f3]; exact z5, fun k a b => by rw [f1]; exact z6 k a b⟩
/-- a statement -/
theorem m_stat {I : Nat → Nat → Int32} {r : PS} {B : Bk} (h : mX I T n) (hok : pOk r = true) (hi : bInv n B r) (hr : mO I T n r) (ha : mAt I r) (hcal : mCal I) (hdf : mDf I B) : ∃ I', fX12_statementTold 267 (mkS X I J v) = some ((), mkS X (gup I' 267 24 (I 267 24 + 1)) J v) ∧ frZ I I' ∧ mO I' T n (pSt T n B r).2 ∧ (pOk (pSt T n B r).2 = true → mDf I' (pSt T n B r).1) := by
  have hp := pOw_r T n r
  obtain ⟨s, hs⟩ : ∃ s, r = .ok s := by
    cases r with
    | ok s => exact ⟨s, rfl⟩
    | error e => cases hok
  have ha' : I 267 2 = iZ (pAt r : Nat) := by rw [hs] at ha ⊢; exact ha
  -- its end
  have tail : ∀ I1 : Nat → Nat → Int32, frZ I I1 → mO I1 T n (pSt0 T n B r).2 → (pOk (pSt0 T n B r).2 = true → mDf I1 (pSt0 T n B r).1 ∧ BkD (pSt0 T n B r).1) → ∃ I', (gb2 (fX12_asksSign 267 59 (mkS X I1 J v)) fun (_ : Unit) s7 => (ggI s7 267 12 24).bind fun v8 => (spI s7 267 12 24 (v8 + 1)).bind fun s9 => some ((), s9)) = some ((), mkS X (gup I' 267 24 (I 267 24 + 1)) J v) ∧ frZ I I' ∧ mO I' T n (pSt T n B r).2 ∧ (pOk (pSt T n B r).2 = true → mDf I' (pSt T n B r).1) := by
    intro I1 f1 o1 d1
    obtain ⟨I2, a1, a2, a3⟩ := m_asksSign (X := X) (J := J) (v := v) (c := 59) (by decide) rfl rfl (mX_Z h f1) o1
    have a1' : fX12_asksSign 267 59 (mkS X I1 J v) = some ((), mkS X I2 J v) := a1
    rw [a1']
    simp only [bO, o267]
    have f2 := frZ_t f1 (frZ_M a2)
    rw [f2.2 24 (by decide) (by decide) (by decide) (by decide) (by decide) (by decide) (by decide) (by decide) (by decide)]
    refine ⟨I2, rfl, f2, a3, fun q => ?_⟩
    obtain ⟨x1, x2⟩ := d1 (pPass_ok (show pOk (pPass T n (pSign T n 59 (pSt0 T n B r).2) (pSt0 T n B r).2) = true from q)).2
    exact mDf_M x1 x2 (fun k => a2.1 275 k (by decide)) (fun k => a2.1 277 k (by decide)) (a2.2 22 (by decide) (by decide) (by decide) (by decide) (by decide) (by decide))
  have hD0 : pOk (pSt0 T n B r).2 = true → BkD (pSt0 T n B r).1 := by
    intro q
    rcases bInv_st0 (T := T) hi hok with ⟨z, _⟩ | ⟨z, _⟩
    · exact z.1
    · rw [z] at q; cases q
  unfold fX12_statementTold
  simp only [bO, o267]
  rw [ha']
  obtain ⟨I1, a1, a2, a3, -⟩ := m_takes (X := X) (J := J) (v := v) (w := 17) (by decide) h hr
  have a1' : fX12_takes 267 17 (mkS X I J v) = some (tf (pOw T n r == ((17 : Nat) : Int)), mkS X I1 J v) := a1
  rw [a1', gb2_some]
  simp only [o267]
  have h1 := mX_M h a2
  have df1 := mDf_M hdf hi.1 (fun k => a2.1 275 k (by decide)) (fun k => a2.1 277 k (by decide)) (a2.2 22 (by decide) (by decide) (by decide) (by decide) (by decide) (by decide))
  have cal1 := mCal_Z hcal (frZ_M a2)
  by_cases c1 : pOw T n r = ((17 : Nat) : Int)
  · rw [show (pOw T n r == ((17 : Nat) : Int)) = true from by simpa using c1, if_neg (show ¬ tf true = 0 by decide)]
    rw [if_pos c1] at a3
    obtain ⟨I2, b1, b2, b3, b4⟩ := m_ruleTold (X := X) (J := J) (v := v) h1 hok a3 cal1 hi.1 df1
    rw [b1, gb2_some]
    simp only [o267]
    have e0 : pSt0 T n B r = pRule T n B r := by unfold pSt0; rw [if_pos (by omega)]
    exact tail I2 (frZ_t (frZ_M a2) b2) (by rw [e0]; exact b3) (fun q => ⟨by rw [e0] at q ⊢; exact b4 q, hD0 q⟩)
  · rw [show (pOw T n r == ((17 : Nat) : Int)) = false from by simpa using c1, if_pos tf_f]
    rw [if_neg c1] at a3
    obtain ⟨I2, b1, b2, b3, -⟩ := m_takes (X := X) (J := J) (v := v) (w := 20) (by decide) h1 a3
    have b1' : fX12_takes 267 20 (mkS X I1 J v) = some (tf (pOw T n r == ((20 : Nat) : Int)), mkS X I2 J v) := b1
    rw [b1', gb2_some]
    simp only [o267]
    have h2 := mX_M h1 b2
    have fr2 := frM_t a2 b2
    by_cases c2 : pOw T n r = ((20 : Nat) : Int)
    · rw [show (pOw T n r == ((20 : Nat) : Int)) = true from by simpa using c2, if_neg (show ¬ tf true = 0 by decide)]
      rw [if_pos c2] at b3
      obtain ⟨I3, d1, d2, d3, d4⟩ := m_setTold (X := X) (J := J) (v := v) h2 hok hi b3 (mCal_Z hcal (frZ_M fr2)) (mDf_M hdf hi.1 (fun k => fr2.1 275 k (by decide)) (fun k => fr2.1 277 k (by decide)) (fr2.2 22 (by decide) (by decide) (by decide) (by decide) (by decide) (by decide)))
      rw [d1, gb2_some]
      simp only [o267]
      have e0 : pSt0 T n B r = pSet T n B r := by unfold pSt0; rw [if_neg (by omega), if_pos (by omega)]
      exact tail I3 (frZ_t (frZ_M fr2) d2) (by rw [e0]; exact d3) (fun q => ⟨by rw [e0] at q ⊢; exact d4 q, hD0 q⟩)
    · rw [show (pOw T n r == ((20 : Nat) : Int)) = false from by simpa using c2, if_pos tf_f]
      rw [if_neg c2] at b3
      obtain ⟨I3, d1, d2, d3, -⟩ := m_fail (X := X) (J := J) (v := v) (f := 1) (p := pAt r) (by decide) (by decide) b3
      have d1' : fX12_fail 267 1 (iZ (pAt r : Nat)) (mkS X I2 J v) = some ((), mkS X I3 J v) := d1
      rw [d1', gb2_some]
      simp only [o267]
      have e0 : pSt0 T n B r = (B, pNot 1 r) := by unfold pSt0; rw [if_neg (by omega), if_neg (by omega)]
      exact tail I3 (frZ_M (frM_t fr2 d2)) (by rw [e0]; exact d3) (fun q => by rw [e0] at q; rw [show pOk (pNot 1 r) = false from pNot_ok] at q; cases q)
/-- all statements -/
theorem m_bookL {K : gH → Option (Int32 × gH)} : ∀ (f i fuel : Nat) (I : Nat → Nat → Int32) (B : Bk) (r : PS), i + f = 1600 → f + 1 < fuel → mX I T n → mO I T n r → bInv n B r → pOk r = true → i ≤ pAt r → mCal I → mDf I B → pKd T n r ≠ 0 → I 267 24 = iZ ((B.nR + B.nS : Nat) : Int) → ∃ I', gX12_book_L86 K 267 fuel (mkS X I J v) = K (mkS X I' J v) ∧ frZ (gup I 267 24 0) (gup I' 267 24 0) ∧ mO I' T n (pBkL T n f B r).2 ∧ (pOk (pBkL T n f B r).2 = true → mDf I' (pBkL T n f B r).1 ∧ I' 267 24 = iZ (((pBkL T n f B r).1.nR + (pBkL T n f B r).1.nS : Nat) : Int)) := by
  intro f
  induction f with
  | zero =>
    intro i fuel I B r hi hf h hr hI hok hia hcal hdf hk h24
    exfalso
    have hn := h.1.1
    cases r with
    | error e => cases hok
    | ok s =>
      have h2 : i ≤ s.1 := hia
      exact hk (show tkK T n s.1 s.2 = 0 by unfold tkK; rw [if_neg (by omega)])
  | succ f ih =>
    intro i fuel I B r hi hf h hr hI hok hia hcal hdf hk h24
    obtain ⟨fu, rfl⟩ : ∃ n, fuel = n + 1 := ⟨fuel - 1, by omega⟩
    obtain ⟨s, rfl⟩ : ∃ s, r = .ok s := by
      cases r with
      | ok s => exact ⟨s, rfl⟩
      | error e => cases hok
    have hn := h.1.1
    have hlt : s.1 < n := by
      apply Classical.byContradiction
      intro q
      exact hk (show tkK T n s.1 s.2 = 0 by unfold tkK; rw [if_neg q])
    obtain ⟨a1, a2, a3⟩ := m_look (X := X) (J := J) (v := v) h hr
    have hc : pCh T n s = (T s.1 : Int) := by unfold pCh; rw [if_pos hlt]
    have hT := (h.1.2 _ hlt).1
    unfold gX12_book_L86
    simp only [bO, o267]
    rw [if_pos hr.1, a1]
    simp only [bO, o267]
    rw [hc, if_neg (by rw [cM_eq (by omega) (by omega)]; omega)]
    have fz1 := frZ_M a3
    obtain ⟨I2, b1, b2, b3, b4⟩ := m_stat (X := X) (J := J) (v := v) (mX_M h a3) rfl hI a2 gup_s (mCal_Z hcal fz1) (mDf_M hdf hI.1 (fun k => a3.1 275 k (by decide)) (fun k => a3.1 277 k (by decide)) (a3.2 22 (by decide) (by decide) (by decide) (by decide) (by decide) (by decide)))
    rw [b1, gb2_some]
    have e24 : gup I 267 2 (iZ (s.1 : Int)) 267 24 = iZ ((B.nR + B.nS : Nat) : Int) := by rw [gup_k (by decide)]; exact h24
    rw [e24, aL, show ((B.nR + B.nS : Nat) : Int) + 1 = ((B.nR + B.nS + 1 : Nat) : Int) by omega]
    have fz2 : frZ (gup I 267 24 0) (gup (gup I2 267 24 (iZ ((B.nR + B.nS + 1 : Nat) : Int))) 267 24 0) := by
      rw [gup_gup]
      have fz := frZ_t fz1 b2
      refine ⟨fun r k x1 x2 x3 x4 x5 => by rw [gup_r x1, gup_r x1]; exact fz.1 r k x1 x2 x3 x4 x5, fun k x1 x2 x3 x4 x5 x6 x7 x8 x9 => ?_⟩
      by_cases z : k = 24
      · rw [z, gup_s, gup_s]
      · rw [gup_k z, gup_k z]; exact fz.2 k x1 x2 x3 x4 x5 x6 x7 x8 x9
    have o3 : mO (gup I2 267 24 (iZ ((B.nR + B.nS + 1 : Nat) : Int))) T n (pSt T n B (.ok s)).2 := mO_7 b3 (fun k hk => gup_k (by omega))
    have x3 : mX (gup I2 267 24 (iZ ((B.nR + B.nS + 1 : Nat) : Int))) T n := by
      have := mX_Z h (frZ_t fz1 b2)
      exact ⟨⟨this.1.1, fun k hk => by rw [gup_r (by decide)]; exact this.1.2 k hk⟩, by rw [gup_k (by decide)]; exact this.2.1, fun k hk => by rw [gup_r (by decide)]; exact this.2.2 k hk⟩
    have eP : pBkL T n (f + 1) B (.ok s) = if pOk (pSt T n B (.ok s)).2 = true ∧ pKd T n (pSt T n B (.ok s)).2 ≠ 0 then pBkL T n f (pSt T n B (.ok s)).1 (pSt T n B (.ok s)).2 else pSt T n B (.ok s) := rfl
    rw [eP]
    cases hq : pOk (pSt T n B (.ok s)).2 with
    | false =>
      rw [if_neg (fun z => by cases z.1)]
      obtain ⟨f2, rfl⟩ : ∃ n, fu = n + 1 := ⟨fu - 1, by omega⟩
      refine ⟨_, ?_, fz2, o3, fun q => by rw [hq] at q; cases q⟩
      unfold gX12_book_L86
      simp only [bO, o267]
      rw [if_neg (mO_err o3 hq)]
    | true =>
      have hD2 := (bInv_st (T := T) hI rfl hq).1
      have hl2 := (bInv_st (T := T) hI rfl hq).2
      have hcnt : (pSt T n B (.ok s)).1.nR + (pSt T n B (.ok s)).1.nS = B.nR + B.nS + 1 := by
        have q0 : pOk (pSt0 T n B (.ok s)).2 = true := (pPass_ok (show pOk (pPass T n (pSign T n 59 (pSt0 T n B (.ok s)).2) (pSt0 T n B (.ok s)).2) = true from hq)).2
        show (pSt0 T n B (.ok s)).1.nR + (pSt0 T n B (.ok s)).1.nS = _
        unfold pSt0 at q0 ⊢
        by_cases c : pOw T n (.ok s) = 17
        · rw [if_pos c] at q0 ⊢
          unfold pRule at q0 ⊢
          by_cases c6 : B.nR < 6
          · rw [if_pos c6]; show B.nR + 1 + B.nS = _; omega
          · rw [if_neg c6] at q0; rw [show pOk (pNot 5 (.ok s)) = false from pNot_ok] at q0; cases q0
        · rw [if_neg c] at q0 ⊢
          by_cases c2 : pOw T n (.ok s) = 20
          · rw [if_pos c2] at q0 ⊢
            unfold pSet at q0 ⊢
            by_cases c6 : B.nS < 6
            · rw [if_pos c6]; show B.nR + (B.nS + 1) = _; omega
            · rw [if_neg c6] at q0; rw [show pOk (pNot 5 (.ok s)) = false from pNot_ok] at q0; cases q0
          · rw [if_neg c2] at q0; rw [show pOk (pNot 1 (.ok s)) = false from pNot_ok] at q0; cases q0
      have df3 : mDf (gup I2 267 24 (iZ ((B.nR + B.nS + 1 : Nat) : Int))) (pSt T n B (.ok s)).1 := mDf_M (b4 hq) hD2.1 (fun k => gup_r (by decide)) (fun k => gup_r (by decide)) (gup_k (by decide))
      have cal3 : mCal (gup I2 267 24 (iZ ((B.nR + B.nS + 1 : Nat) : Int))) := by
        have := mCal_Z hcal (frZ_t fz1 b2)
        exact ⟨by rw [gup_k (by decide)]; exact this.1, calOK_Y this.2 (fun r k x y => gup_r (by omega))⟩
      by_cases ck : pKd T n (pSt T n B (.ok s)).2 = 0
      · rw [if_neg (fun z => z.2 ck)]
        obtain ⟨f2, rfl⟩ : ∃ n, fu = n + 1 := ⟨fu - 1, by omega⟩
        obtain ⟨s2, hs2⟩ : ∃ s2, (pSt T n B (.ok s)).2 = .ok s2 := by
          cases z : (pSt T n B (.ok s)).2 with
          | ok s2 => exact ⟨s2, rfl⟩
          | error e => rw [z] at hq; cases hq
        rw [hs2] at o3 ck
        obtain ⟨c1, c2, c3⟩ := m_look (X := X) (J := J) (v := v) x3 o3
        have hge : ¬ s2.1 < n := by
          intro z
          have ck' : tkK T n s2.1 s2.2 = 0 := ck
          unfold tkK at ck'
          rw [if_pos z] at ck'
          split at ck'
          · split at ck' <;> omega
          · split at ck'
            · split at ck' <;> omega
            · omega
        have hc2 : pCh T n s2 = -1 := by unfold pCh; rw [if_neg hge]
        refine ⟨gup (gup I2 267 24 (iZ ((B.nR + B.nS + 1 : Nat) : Int))) 267 2 (iZ (s2.1 : Int)), ?_, ?_, by rw [hs2]; exact c2, fun q => ⟨?_, ?_⟩⟩
        · unfold gX12_book_L86
          simp only [bO, o267]
          rw [if_pos o3.1, c1]
          simp only [bO]
          rw [hc2, if_pos (show iZ (-1) = -1 from rfl)]
        · refine frZ_t fz2 ⟨fun r k x1 x2 x3 x4 x5 => by simp only [gup_r x1], fun k x1 x2 x3 x4 x5 x6 x7 x8 x9 => ?_⟩
          by_cases z : k = 24
          · rw [z, gup_s, gup_s]
          · rw [gup_k z, gup_k z, gup_k x1]
        · exact mDf_M df3 hD2.1 (fun k => gup_r (by decide)) (fun k => gup_r (by decide)) (gup_k (by decide))
        · rw [gup_k (by decide), gup_s, hcnt]
      · rw [if_pos ⟨rfl, ck⟩]
        obtain ⟨I3, c1, c2, c3, c4⟩ := ih (i + 1) fu (gup I2 267 24 (iZ ((B.nR + B.nS + 1 : Nat) : Int))) (pSt T n B (.ok s)).1 (pSt T n B (.ok s)).2 (by omega) (by omega) x3 o3 hD2 hq (by have : i ≤ s.1 := hia; have : pAt (Except.ok s : PS) = s.1 := rfl; omega) cal3 df3 ck (by rw [gup_s, hcnt])
        exact ⟨I3, c1, frZ_t fz2 c2, c3, c4⟩
end gMs
