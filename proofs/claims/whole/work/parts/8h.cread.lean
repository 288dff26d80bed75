/-! THE CLASS READS A BOOK -/
section gCr
variable {X : Nat × (Nat → Int32)} {J : Nat → Nat → Int64} {v : Vt} {T : Nat → Nat} {n b : Nat}
theorem frB_E {k : Nat} {I I' : Nat → Nat → Int32} (h : frE b k I I') : frB b I I' := ⟨fun r j x y z w => h.1 r j x y z (by omega) (Or.inl (by omega)), h.2.1⟩
theorem cDr_addS {I I5 : Nat → Nat → Int32} {B : Bk} {l : List Nat} {C : List (Nat × Nat)} (hb : isBk b) (hD : cDr I b B) (c : B.nS < 6) (fr : frE b (cE B.cs B.nS) I I5) (hl : nmOK l) (hC : mokR (kn B.nR B.nS) C 0) (hseg : cseg I5 b (cE B.cs B.nS) (trL C)) (h2 : I5 b 2 = iZ ((cE B.cs B.nS + (trL C).length : Nat) : Int)) : cDr (gup (gup (gup I5 (b + 2) (6 + B.nS) (iZ (nm5 l : Nat))) (b + 4) B.nS (I5 b 2)) b 1 (iZ ((B.nS + 1 : Nat) : Int))) b (B.addS l C) := by
  have hb0 := bk_r hb
  obtain ⟨⟨q1, q2, q3, q4, q5⟩, hBD, hcs⟩ := hD
  have hR := hBD.1
  have out : ∀ r k, r ≠ b → r ≠ b + 2 → r ≠ b + 4 → gup (gup (gup I5 (b + 2) (6 + B.nS) (iZ (nm5 l : Nat))) (b + 4) B.nS (I5 b 2)) b 1 (iZ ((B.nS + 1 : Nat) : Int)) r k = I5 r k := fun r k x y z => by rw [gup_r x, gup_r z, gup_r y]
  have keep : ∀ r k, b ≤ r → r ≤ b + 34 → r ≠ b + 3 → (r ≠ b ∨ k ≠ 2) → I5 r k = I r k := fun r k x y z w => fr.1 r k (by omega) (by omega) (by omega) z w
  have hcE : ∀ s, s ≤ B.nS → cE (B.addS l C).cs s = cE B.cs s := fun s hs => addS_cE hs
  refine ⟨⟨?_, ?_, ?_, ?_, ?_⟩, BkD_addS hBD c hC hl, ?_⟩
  · rw [gup_k (by decide), gup_r (by omega), gup_r (by omega), keep b 0 (by omega) (by omega) (by omega) (by omega)]; exact q1
  · rw [gup_s]; rfl
  · intro r hr'
    have hr : r < B.nR := hr'
    obtain ⟨r1, r2⟩ := q3 r hr
    refine ⟨?_, ?_⟩
    · show cRl _ _ (B.rl r)
      exact cRl_fr r1 (fun r' k x y => by rw [out r' k (by omega) (by omega) (by omega), keep r' k (by omega) (by omega) (by omega) (by omega)])
    · show _ = iZ ((B.stp r : Nat) : Int)
      rw [out _ _ (by omega) (by omega) (by omega), keep _ _ (by omega) (by omega) (by omega) (by omega)]; exact r2
  · intro s hs'
    have hs : s < B.nS + 1 := hs'
    by_cases e : s = B.nS
    · subst e
      refine ⟨?_, ?_⟩
      · rw [hcE _ (Nat.le_refl _)]
        show cseg _ b _ (trL (if B.nS = B.nS then C else B.cs B.nS))
        rw [if_pos rfl]
        exact cseg_fr (fun k => out _ k (by omega) (by omega) (by omega)) hseg
      · rw [gup_r (by omega), gup_s, h2, addS_cE1]
    · obtain ⟨s1, s2⟩ := q4 s (by omega)
      refine ⟨?_, ?_⟩
      · rw [hcE s (by omega)]
        show cseg _ b _ (trL (if s = B.nS then C else B.cs s))
        rw [if_neg e]
        refine cseg_lt (m := cE B.cs B.nS) ?_ (fun j hj => ?_) s1
        · have := cE_mono (cs := B.cs) (show s + 1 ≤ B.nS by omega)
          exact this
        · rw [out _ _ (by omega) (by omega) (by omega)]; exact fr.2.2 j hj
      · rw [gup_r (by omega), gup_k e, gup_r (by omega), keep _ _ (by omega) (by omega) (by omega) (by omega), s2, hcE (s + 1) (by omega)]
  · intro w hw'
    have hw : kn B.nR (B.nS + 1) w := hw'
    show _ = iZ ((nm5 (if w = 6 + B.nS then l else B.nm w) : Nat) : Int)
    by_cases e : w = 6 + B.nS
    · rw [if_pos e, e, gup_r (by omega), gup_r (by omega), gup_s]
    · rw [if_neg e, gup_r (by omega), gup_r (by omega), gup_k e, keep _ _ (by omega) (by omega) (by omega) (by omega)]
      exact q5 w (by unfold kn at hw ⊢; omega)
  · rw [gup_k (by decide), gup_r (by omega), gup_r (by omega), h2]
    show _ = iZ ((cE (B.addS l C).cs (B.nS + 1) : Nat) : Int)
    rw [addS_cE1]
theorem c_setText {I : Nat → Nat → Int32} {r : PS} {B : Bk} (hb : isBk b) (hv : v.2.2.2.1 = b) (h : cX I v T n) (hr : cO I T n r) (hi : bInv n B r) (hok : pOk r = true) (hD : cDr I b B) : ∃ I', fX6_setText 53 (mkS X I J v) = some ((), mkS X I' J v) ∧ frB b I I' ∧ cO I' T n (pSet T n B r).2 ∧ (pOk (pSet T n B r).2 = true → cDr I' b (pSet T n B r).1) := by
  have hb0 := bk_r hb
  have hn := h.1.1
  have hD0 := hD
  obtain ⟨hB, hBD, hcs⟩ := hD
  have hS6 := hBD.2.1
  unfold fX6_setText pSet
  simp only [bO, o53R, hv, bk_i hb, hB.2.1, o53]
  by_cases c : B.nS < 6
  · rw [if_pos (by rw [cL_lt (by omega) (by omega) (by decide)]; omega)]
    simp only [if_pos c]
    obtain ⟨I1, a1, a2, a3⟩ := c_adv (X := X) (J := J) h hr
    rw [a1, gb2_some]
    simp only [o53]
    have h1 := cX_K h a2
    have N1 := cNm_K hb (cBk_nm hB hBD) a2
    obtain ⟨I2, nx5, b1, b2, b3, b4⟩ := c_newName (X := X) (J := J) (v := v) hb hv h1 a3 N1
    rw [b1, gb2_some]
    have h2 := cX_K h1 b2
    have N2 := cNm_K hb N1 b2
    have b3' : cO I2 T n (pSe2 T n B r) := b3
    simp only [o53, c_isWord h2 b3' isWdT.2.2.2.2.1]
    rw [gb2_some]
    obtain ⟨I3, d1, d2, d3⟩ := c_pass (X := X) (J := J) (b := pOw T n (pSe2 T n B r) == 21) h2 b3'
    have d1' : fX6_pass 53 (tf (pOw T n (pSe2 T n B r) == ((21 : Nat) : Int))) (mkS X I2 J v) = some ((), mkS X I3 J v) := d1
    have d3' : cO I3 T n (pSe3 T n B r) := d3
    simp only [o53]
    rw [d1', gb2_some]
    have h3 := cX_K h2 d2
    have fr3 := frK_t a2 (frK_t b2 d2)
    have hk8 : cE B.cs B.nS ≤ 800 := by
      have := hi.2.2 hok
      have := pAt_in hi.2.1
      omega
    have hK3 : cKd I3 b (cE B.cs B.nS) [] (pSe3 T n B r) := ⟨cE B.cs B.nS, by rw [fr3.1 b 2 (by omega)]; exact hcs, Nat.le_refl _, hk8, fun _ _ => ⟨rfl, trivial⟩⟩
    obtain ⟨I4, e1, e2, e3, e4⟩ := cRd_sum (X := X) (J := J) (v := v) (T := T) (n := n) (b := b) (k := cE B.cs B.nS) (nR := B.nR) (nS := B.nS) (nm := B.nm) hb hv 6 (by decide) I3 (pSe3 T n B r) [] h3 d3' (cNm_K hb N2 d2) hK3
    have e1' : fX6_sumTop 53 0 (mkS X I3 J v) = some ((), mkS X I4 J v) := e1
    simp only [o53]
    rw [e1', gb2_some]
    have fr4 : frE b (cE B.cs B.nS) I I4 := frE_t (frE_K hb fr3) e2
    simp only [bO, o53R, hv, bk_c hb]
    have n4 : I4 b 1 = iZ (B.nS : Int) := by rw [fr4.1 b 1 (by omega) (by omega) (by omega) (by omega) (by omega)]; exact hB.2.1
    have ecl : fX1_closeSet b nx5 (mkS X I4 J v) = some ((), mkS X (gup (gup (gup I4 (b + 2) (6 + B.nS) nx5) (b + 4) B.nS (I4 b 2)) b 1 (iZ ((B.nS + 1 : Nat) : Int))) J v) := by
      unfold fX1_closeSet
      simp only [bO, bk_i hb, bk_r4 hb, n4]
      rw [if_pos (by rw [cL_lt (by omega) (by omega) (by decide)]; omega), aR, show (6 : Int) + (B.nS : Int) = ((6 + B.nS : Nat) : Int) by omega, bk_b2 hb I4 J (show 6 + B.nS < 12 by omega)]
      simp only [bO, bk_i hb, bk_r6 hb]
      rw [gup_r (show b ≠ b + 2 by omega), n4, bk_b4 hb _ J c]
      simp only [bO, bk_i hb, bk_p hb, gnar_2]
      rw [gup_r (show b ≠ b + 4 by omega), gup_r (show b ≠ b + 2 by omega), gup_r (show b ≠ b + 2 by omega), n4, aL]
      rfl
    rw [ecl]
    have fin : ∀ I' : Nat → Nat → Int32, frB b I' (gup (gup (gup I' (b + 2) (6 + B.nS) nx5) (b + 4) B.nS (I4 b 2)) b 1 (iZ ((B.nS + 1 : Nat) : Int))) := fun I' => frB_t (frB_g hb (by omega) (by omega)) (frB_t (frB_g hb (by omega) (by omega)) (frB_g hb (by omega) (by omega)))
    refine ⟨_, rfl, frB_t (frB_E fr4) (fin I4), cO_W e3 (fun k => by rw [gup_r (by omega), gup_r (by omega), gup_r (by omega)]), fun hokf => ?_⟩
    obtain ⟨o1, o2, o3, o4, o5, o6⟩ := pSet_sp (T := T) (B := B) hi.2.1 hokf
    obtain ⟨nm1, nm2⟩ := b4 o3
    obtain ⟨m, m1, m2, m3, m4⟩ := e4
    rw [List.nil_append] at m4
    have hle : cE B.cs B.nS + (trL (pSe4 T n B r).1).length ≤ 800 := by
      have := hi.2.2 hok
      have := pAt_in (pSet_in (T := T) (B := B) hi.2.1).2.2
      omega
    obtain ⟨z1, z2⟩ := m4 hokf hle
    rw [nm1]
    exact cDr_addS hb hD0 c fr4 nm2 o5 z2 (by rw [m1, z1]; rfl)
  · rw [if_neg (by rw [cL_lt (by omega) (by omega) (by decide)]; omega)]
    simp only [if_neg c]
    obtain ⟨I1, a1, a2, a3⟩ := c_refuseS (X := X) (J := J) (v := v) (f := 5) (by decide) (by decide) hr
    rw [show (5 : Int32) = iZ ((5 : Nat) : Int) from rfl, a1]
    exact ⟨I1, rfl, frB_K a2, a3, fun e => by rw [pNot_ok] at e; cases e⟩
/-- one statement, and its end -/
theorem c_stat {I : Nat → Nat → Int32} {r : PS} {B : Bk} {f i : Nat} (hb : isBk b) (hv : v.2.2.2.1 = b) (h : cX I v T n) (hr : cO I T n r) (hi : bInv n B r) (hok : pOk r = true) (hD : cDr I b B) (hlt : i < 1600) (hh : i = 0 ∨ pKd T n r ≠ 0) : ∃ I', gX6_read_L62 53 (f + 1) (iZ (i : Int)) (mkS X I J v) = (if pOk (pSt T n B r).2 = true then gX6_read_L62 53 f (iZ ((i + 1 : Nat) : Int)) (mkS X I' J v) else some ((), mkS X I' J v)) ∧ frB b I I' ∧ cO I' T n (pSt T n B r).2 ∧ (pOk (pSt T n B r).2 = true → cDr I' b (pSt T n B r).1) := by
  have hb0 := bk_r hb
  have w17 : fX6_isWord 53 0 (mkS X I J v) = some (tf (pOw T n r == ((17 : Nat) : Int)), mkS X I J v) := c_isWord h hr isWdT.1
  have w20 : fX6_isWord 53 7 (mkS X I J v) = some (tf (pOw T n r == ((20 : Nat) : Int)), mkS X I J v) := c_isWord h hr isWdT.2.2.2.1
  -- behind the statement
  have tail : ∀ I1 : Nat → Nat → Int32, frB b I I1 → cO I1 T n (pSt0 T n B r).2 → (pOk (pSt0 T n B r).2 = true → cDr I1 b (pSt0 T n B r).1) → ∃ I', (gb2 (fX6_isSign 53 59 (mkS X I1 J v)) fun r25 s26 => gb2 (gcv s26 53 6 (fX6_pass 53 r25 s26)) fun _ s28 => (ggI s28 53 6 0).bind fun v29 => if v29 = 0 then gX6_read_L62 53 f (iZ (i : Int) + 1) s28 else some ((), s28)) = (if pOk (pSt T n B r).2 = true then gX6_read_L62 53 f (iZ ((i + 1 : Nat) : Int)) (mkS X I' J v) else some ((), mkS X I' J v)) ∧ frB b I I' ∧ cO I' T n (pSt T n B r).2 ∧ (pOk (pSt T n B r).2 = true → cDr I' b (pSt T n B r).1) := by
    intro I1 f1 o1 d1
    have h1 := cX_B hb h f1
    have hs : fX6_isSign 53 59 (mkS X I1 J v) = some (tf (pSign T n 59 (pSt0 T n B r).2), mkS X I1 J v) := c_isSign (c := 59) (by decide) rfl rfl h1 o1
    rw [hs, gb2_some]
    simp only [o53]
    obtain ⟨I2, a1, a2, a3⟩ := c_pass (X := X) (J := J) (b := pSign T n 59 (pSt0 T n B r).2) h1 o1
    rw [a1]
    simp only [bO, o53]
    have a3' : cO I2 T n (pSt T n B r).2 := a3
    refine ⟨I2, ?_, frB_t f1 (frB_K a2), a3', fun q => ?_⟩
    · rw [show iZ (i : Int) + 1 = iZ ((i + 1 : Nat) : Int) from by rw [aL]; rfl]
      cases hq : pOk (pSt T n B r).2 with
      | true => rw [if_pos (cO_ok a3' hq), if_pos rfl]
      | false => rw [if_neg (cO_err a3' hq), if_neg (by decide)]
    · obtain ⟨x1, x2, x3⟩ := d1 (pPass_ok (show pOk (pPass T n (pSign T n 59 (pSt0 T n B r).2) (pSt0 T n B r).2) = true from q)).2
      exact ⟨cBk_fr x1 x2.1 (fun r k y z => a2.1 r k (by omega)), x2, by rw [a2.1 b 2 (by omega)]; exact x3⟩
  have body : ∃ I', (gb2 (fX6_isWord 53 0 (mkS X I J v)) fun r21 s22 => if r21 = 0 then gb2 (gcv s22 53 6 (fX6_isWord 53 7 s22)) fun r32 s33 => if r32 = 0 then (ggI s33 53 6 5).bind fun v35 => gb2 (gcv s33 53 6 (fX6_refuse 53 1 v35 s33)) fun _ s24 => gb2 (gcv s24 53 6 (fX6_isSign 53 59 s24)) fun r25 s26 => gb2 (gcv s26 53 6 (fX6_pass 53 r25 s26)) fun _ s28 => (ggI s28 53 6 0).bind fun v29 => if v29 = 0 then gX6_read_L62 53 f (iZ (i : Int) + 1) s28 else some ((), s28) else gb2 (gcv s33 53 6 (fX6_setText 53 s33)) fun _ s24 => gb2 (gcv s24 53 6 (fX6_isSign 53 59 s24)) fun r25 s26 => gb2 (gcv s26 53 6 (fX6_pass 53 r25 s26)) fun _ s28 => (ggI s28 53 6 0).bind fun v29 => if v29 = 0 then gX6_read_L62 53 f (iZ (i : Int) + 1) s28 else some ((), s28) else gb2 (gcv s22 53 6 (fX6_ruleText 53 s22)) fun _ s24 => gb2 (gcv s24 53 6 (fX6_isSign 53 59 s24)) fun r25 s26 => gb2 (gcv s26 53 6 (fX6_pass 53 r25 s26)) fun _ s28 => (ggI s28 53 6 0).bind fun v29 => if v29 = 0 then gX6_read_L62 53 f (iZ (i : Int) + 1) s28 else some ((), s28)) = (if pOk (pSt T n B r).2 = true then gX6_read_L62 53 f (iZ ((i + 1 : Nat) : Int)) (mkS X I' J v) else some ((), mkS X I' J v)) ∧ frB b I I' ∧ cO I' T n (pSt T n B r).2 ∧ (pOk (pSt T n B r).2 = true → cDr I' b (pSt T n B r).1) := by
    rw [w17, gb2_some]
    by_cases c1 : pOw T n r = 17
    · rw [show (pOw T n r == ((17 : Nat) : Int)) = true from by simpa using c1, if_neg (show ¬ tf true = 0 by decide)]
      simp only [o53]
      obtain ⟨I1, a1, a2, a3, a4⟩ := c_ruleText (X := X) (J := J) hb hv h hr hok hD
      rw [a1, gb2_some]
      simp only [o53]
      have e0 : pSt0 T n B r = pRule T n B r := by unfold pSt0; rw [if_pos c1]
      exact tail I1 a2 (by rw [e0]; exact a3) (by rw [e0]; exact a4)
    · rw [show (pOw T n r == ((17 : Nat) : Int)) = false from by simpa using c1, if_pos tf_f]
      simp only [o53]
      rw [w20, gb2_some]
      by_cases c2 : pOw T n r = 20
      · rw [show (pOw T n r == ((20 : Nat) : Int)) = true from by simpa using c2, if_neg (show ¬ tf true = 0 by decide)]
        simp only [o53]
        obtain ⟨I1, a1, a2, a3, a4⟩ := c_setText (X := X) (J := J) hb hv h hr hi hok hD
        rw [a1, gb2_some]
        simp only [o53]
        have e0 : pSt0 T n B r = pSet T n B r := by unfold pSt0; rw [if_neg c1, if_pos c2]
        exact tail I1 a2 (by rw [e0]; exact a3) (by rw [e0]; exact a4)
      · rw [show (pOw T n r == ((20 : Nat) : Int)) = false from by simpa using c2, if_pos tf_f]
        simp only [bO, o53]
        obtain ⟨I1, a1, a2, a3⟩ := c_refuseS (X := X) (J := J) (v := v) (f := 1) (by decide) (by decide) hr
        have a1' : fX6_refuse 53 1 (I 53 5) (mkS X I J v) = some ((), mkS X I1 J v) := a1
        rw [a1', gb2_some]
        simp only [o53]
        have e0 : pSt0 T n B r = (B, pNot 1 r) := by unfold pSt0; rw [if_neg c1, if_neg c2]
        exact tail I1 (frB_K a2) (by rw [e0]; exact a3) (by rw [e0]; intro q; rw [show pOk (pNot 1 r) = false from pNot_ok] at q; cases q)
  obtain ⟨I', b1, b2⟩ := body
  refine ⟨I', ?_, b2⟩
  rw [← b1]
  conv => lhs; unfold gX6_read_L62
  rw [if_pos (by rw [cL_lt (by omega) (by omega) (by decide)]; omega)]
  simp only [bO, o53]
  by_cases c0 : i = 0
  · rw [if_pos (by rw [c0]; rfl)]
  · rw [if_neg (by rw [cL_eq (by omega) (by omega) (by decide)]; omega)]
    have hk : ¬ I 53 4 = 0 := by
      cases r with
      | error e => cases hok
      | ok s =>
        have := tkK_lt T n s.1 s.2
        rw [hr.2.1, cL_eq (by omega) (by omega) (by decide)]
        have hk2 : tkK T n s.1 s.2 ≠ 0 := hh.elim (fun q => absurd q c0) id
        omega
    rw [if_neg hk]
theorem c_readL (hb : isBk b) (hv : v.2.2.2.1 = b) : ∀ (f i fuel : Nat) (I : Nat → Nat → Int32) (B : Bk) (r : PS), i + f = 1600 → f < fuel → cX I v T n → cO I T n r → bInv n B r → pOk r = true → cDr I b B → (i = 0 ∨ pKd T n r ≠ 0) → ∃ I', gX6_read_L62 53 fuel (iZ (i : Int)) (mkS X I J v) = some ((), mkS X I' J v) ∧ frB b I I' ∧ cO I' T n (pBkL T n f B r).2 ∧ (pOk (pBkL T n f B r).2 = true → cDr I' b (pBkL T n f B r).1) := by
  intro f
  induction f with
  | zero =>
    intro i fuel I B r hi hf h hr hI hok hD hh
    obtain ⟨fu, rfl⟩ : ∃ n, fuel = n + 1 := ⟨fuel - 1, by omega⟩
    refine ⟨I, ?_, frB_r b I, hr, fun _ => hD⟩
    unfold gX6_read_L62
    rw [if_neg (by rw [cL_lt (by omega) (by omega) (by decide)]; omega)]
  | succ f ih =>
    intro i fuel I B r hi hf h hr hI hok hD hh
    obtain ⟨fu, rfl⟩ : ∃ n, fuel = n + 1 := ⟨fuel - 1, by omega⟩
    obtain ⟨I1, a1, a2, a3, a4⟩ := c_stat (X := X) (J := J) (f := fu) hb hv h hr hI hok hD (by omega) hh
    rw [a1]
    have e : pBkL T n (f + 1) B r = if pOk (pSt T n B r).2 = true ∧ pKd T n (pSt T n B r).2 ≠ 0 then pBkL T n f (pSt T n B r).1 (pSt T n B r).2 else pSt T n B r := rfl
    rw [e]
    cases hq : pOk (pSt T n B r).2 with
    | false =>
      rw [if_neg (by decide), if_neg (fun z => by cases z.1)]
      exact ⟨I1, rfl, a2, a3, a4⟩
    | true =>
      rw [if_pos rfl]
      by_cases c : pKd T n (pSt T n B r).2 = 0
      · rw [if_neg (fun z => z.2 c)]
        refine ⟨I1, ?_, a2, a3, a4⟩
        obtain ⟨f2, rfl⟩ : ∃ n, fu = n + 1 := ⟨fu - 1, by omega⟩
        unfold gX6_read_L62
        by_cases ci : i + 1 < 1600
        · rw [if_pos (by rw [cL_lt (by omega) (by omega) (by decide)]; omega)]
          simp only [bO, o53]
          rw [if_neg (by rw [cL_eq (by omega) (by omega) (by decide)]; omega)]
          have hk : I1 53 4 = 0 := by
            cases z : (pSt T n B r).2 with
            | error e => rw [z] at hq; cases hq
            | ok s =>
              rw [z] at a3 c
              have c' : tkK T n s.1 s.2 = 0 := c
              rw [a3.2.1, c']; rfl
          rw [if_pos hk]
        · rw [if_neg (by rw [cL_lt (by omega) (by omega) (by decide)]; omega)]
      · rw [if_pos ⟨rfl, c⟩]
        obtain ⟨I2, b1, b2, b3, b4⟩ := ih (i + 1) fu I1 (pSt T n B r).1 (pSt T n B r).2 (by omega) (by omega) (cX_B hb h a2) a3 (bInv_st hI hok hq).1 hq (a4 hq) (Or.inr c)
        exact ⟨I2, b1, frB_t a2 b2, b3, b4⟩
end gCr
