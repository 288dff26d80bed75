/-! A PART of a rule is read -/
theorem cPd_fr {I I' : Nat → Nat → Int32} {q : Nat} {P : PD} (h : cPd I q P) (f : ∀ r k, q ≤ r → r ≤ q + 4 → I' r k = I r k) : cPd I' q P := by
  unfold cPd rwq at h ⊢
  simp only [f q _ (by omega) (by omega), f (q + 1) _ (by omega) (by omega), f (q + 1 + 1) _ (by omega) (by omega), f (q + 3) _ (by omega) (by omega), f (q + 3 + 1) _ (by omega) (by omega)]
  exact h
theorem pRow_len {T : Nat → Nat} {n : Nat} {m : PS → PS} {mv : PS → Int} : ∀ {f : Nat} {l : List Int} {r : PS}, l.length + f ≤ 8 → (pRow T n m mv f l r).1.length ≤ 8 := by
  intro f
  induction f with
  | zero => intro l r h; exact h
  | succ f ih =>
    intro l r h
    show (if _ then _ else _ : List Int × PS).1.length ≤ 8
    split
    · exact ih (by rw [len_snoc]; omega)
    · show (l ++ [mv r]).length ≤ 8
      rw [len_snoc]; omega
section gPb
variable {X : Nat × (Nat → Int32)} {J : Nat → Nat → Int64} {v : Vt} {T : Nat → Nat} {n q : Nat}
theorem c_partText {I : Nat → Nat → Int32} {r : PS} {part : Nat} {u : Int} {P : PD} (hq : isRule q) (hp : part < 6) (u1 : -10 ≤ u) (u2 : u ≤ 10) (h : cX I v T n) (hr : cO I T n r) (hu : I q 1 = iZ u) (hP : pOk r = true → cPd I q P ∧ PDok P ∧ (part = 1 → P.on = []) ∧ (part = 2 → P.by_ = [])) : ∃ I', fX6_partText 53 (iZ (part : Int)) q (mkS X I J v) = some ((), mkS X I' J v) ∧ frQ q I I' ∧ (∀ k, k < 6 → I' q k = I q k) ∧ cO I' T n (pPart T n part u P r).2 ∧ (pOk (pPart T n part u P r).2 = true → pOk r = true ∧ cPd I' q (pPart T n part u P r).1 ∧ PDok (pPart T n part u P r).1) := by
  have hq2 := (rule_all hq).2.2.2.2.2.1
  unfold fX6_partText pPart
  simp only [o53, bO]
  by_cases c4 : part = 4
  · simp only [if_pos c4]
    rw [if_pos (show iZ (part : Int) = 4 from (part_ne (by omega) (k := 4) (by decide)).mpr c4)]
    obtain ⟨I1, x, a1, a2, a3, a4, a5⟩ := c_dateText (X := X) (J := J) h hr
    rw [a1, gb2_some]
    simp only [bO, rl_p hq]
    refine ⟨gup I1 q 6 x, rfl, frQ_t (frQ_K a2) (frQ_g (j := 0) hq (by decide)), fun k hk => by rw [gup_k (by omega), a2.1 q k (by omega)], cO_W a3 (fun k => gup_r (by omega)), fun hok => ?_⟩
    have hr0 : pOk r = true := (pDate_in (pNum_ok hok).1).1
    obtain ⟨p1, p2, p3, p4⟩ := hP hr0
    have hd := pDate_r hok
    have p1' := cPd_fr p1 (fun r k x y => a2.1 r k (by omega))
    refine ⟨hr0, ?_, ?_⟩
    · obtain ⟨z1, z2, z3, z4, z5, z6, z7, z8, z9⟩ := p1'
      refine ⟨?_, ?_, ?_, ?_, ?_, ?_, ?_, ?_, ?_⟩
      · rw [gup_s, a4 hok]; rfl
      · rw [gup_k (by decide)]; exact z2
      · rw [gup_k (by decide)]; exact z3
      · rw [gup_k (by decide)]; exact z4
      · rw [gup_k (by decide)]; exact z5
      · rw [gup_k (by decide)]; exact z6
      · rw [gup_k (by decide)]; exact z7
      · exact ⟨by rw [gup_r (by omega)]; exact z8.1, fun k hk => by rw [gup_r (by omega)]; exact z8.2 k hk⟩
      · exact ⟨by rw [gup_r (by omega)]; exact z9.1, fun k hk => by rw [gup_r (by omega)]; exact z9.2 k hk⟩
    · obtain ⟨y1, y2, y3, y4, y5, y6, y7, y8⟩ := p2
      exact ⟨y1, y2, y3, y4, y5, y6, Or.inr ⟨Int.natCast_nonneg _, by show ((pDateV T n r : Nat) : Int) < 14610; omega⟩, y8⟩
  · simp only [if_neg c4]
    rw [if_neg (show ¬ iZ (part : Int) = 4 from fun z => c4 ((part_ne (by omega) (k := 4) (by decide)).mp z))]
    by_cases c5 : part = 5
    · simp only [if_pos c5]
      rw [if_pos (show iZ (part : Int) = 5 from (part_ne (by omega) (k := 5) (by decide)).mpr c5)]
      obtain ⟨I1, x, a1, a2, a3, a4⟩ := c_number (X := X) (J := J) (lo := 1) (hi := 999) (by decide) (by decide) h hr
      rw [show (1 : Int32) = iZ ((1 : Nat) : Int) from rfl, show (999 : Int32) = iZ ((999 : Nat) : Int) from rfl, a1, gb2_some]
      simp only [bO, rl_p hq]
      refine ⟨gup I1 q 7 x, rfl, frQ_t (frQ_K a2) (frQ_g (j := 0) hq (by decide)), fun k hk => by rw [gup_k (by omega), a2.1 q k (by omega)], cO_W a3 (fun k => gup_r (by omega)), fun hok => ?_⟩
      obtain ⟨hr0, n1, n2, -⟩ := pNum_ok hok
      obtain ⟨p1, p2, p3, p4⟩ := hP hr0
      have p1' := cPd_fr p1 (fun r k x y => a2.1 r k (by omega))
      refine ⟨hr0, ?_, ?_⟩
      · obtain ⟨z1, z2, z3, z4, z5, z6, z7, z8, z9⟩ := p1'
        refine ⟨?_, ?_, ?_, ?_, ?_, ?_, ?_, ?_, ?_⟩
        · rw [gup_k (by decide)]; exact z1
        · rw [gup_s, a4 hok]; rfl
        · rw [gup_k (by decide)]; exact z3
        · rw [gup_k (by decide)]; exact z4
        · rw [gup_k (by decide)]; exact z5
        · rw [gup_k (by decide)]; exact z6
        · rw [gup_k (by decide)]; exact z7
        · exact ⟨by rw [gup_r (by omega)]; exact z8.1, fun k hk => by rw [gup_r (by omega)]; exact z8.2 k hk⟩
        · exact ⟨by rw [gup_r (by omega)]; exact z9.1, fun k hk => by rw [gup_r (by omega)]; exact z9.2 k hk⟩
      · obtain ⟨y1, y2, y3, y4, y5, y6, y7, y8⟩ := p2
        exact ⟨y1, y2, y3, y4, y5, y6, y7, Or.inr ⟨by show 1 ≤ ((pNumV T n r : Nat) : Int); omega, by show ((pNumV T n r : Nat) : Int) ≤ 999; omega⟩⟩
    · simp only [if_neg c5]
      rw [if_neg (show ¬ iZ (part : Int) = 5 from fun z => c5 ((part_ne (by omega) (k := 5) (by decide)).mp z))]
      simp only [rl_i hq, bO]
      rw [hu]
      obtain ⟨I1, a1, a2, a3, a4, k, hk8, hk⟩ := c_rowText (X := X) (J := J) (part := part) (u := u) (by omega) u1 u2 h hr
      rw [a1, gb2_some]
      have hlen := pRow_len (T := T) (n := n) (m := pMem T n part u) (mv := pMemV T n part u) (f := 8) (l := []) (r := r) (by decide)
      have hrok : pOk (pRow T n (pMem T n part u) (pMemV T n part u) 8 [] r).2 = true → pOk r = true := by
        intro z
        cases r with
        | ok s => rfl
        | error e =>
          exfalso
          have : ∀ (f : Nat) (l : List Int), pOk (pRow T n (pMem T n part u) (pMemV T n part u) f l (.error e)).2 = false := by
            intro f l
            cases f with
            | zero => rfl
            | succ f =>
              have em : pMem T n part u (.error e) = .error e ∨ pOk (pMem T n part u (.error e)) = false := by
                right
                cases z : pOk (pMem T n part u (.error e))
                · rfl
                · have := pMem_ok z
                  cases this
              have ed : pOk (pDup (pMem T n part u) (pMemV T n part u) l (.error e)) = false := by
                cases z : pOk (pDup (pMem T n part u) (pMemV T n part u) l (.error e))
                · rfl
                · have := pMem_ok (pDup_ok z).1
                  cases this
              have es : ∃ e', pDup (pMem T n part u) (pMemV T n part u) l (.error e) = .error e' := by
                cases z : pDup (pMem T n part u) (pMemV T n part u) l (.error e) with
                | error e' => exact ⟨e', rfl⟩
                | ok s => rw [z] at ed; cases ed
              obtain ⟨e', he'⟩ := es
              show pOk (if pMore T n (l.length + 1) (pDup (pMem T n part u) (pMemV T n part u) l (.error e)) = true then _ else _ : List Int × PS).2 = false
              rw [he', if_neg (by show ¬ (false && _) = true; simp)]
              rfl
          rw [this 8 []] at z
          cases z
      have fr1 := frQ_W (q := q) a2
      have hb1 : ∀ (r k : Nat), q ≤ r → r ≤ q + 4 → I1 r k = I r k := fun r k x y => a2.1 r k (by omega) (by omega) (by omega)
      have rw_k : pOk (pRow T n (pMem T n part u) (pMemV T n part u) 8 [] r).2 = true → (pRow T n (pMem T n part u) (pMemV T n part u) 8 [] r).1.length = k := by
        intro z
        have := (a4 z).1.1
        rw [hk, iZ_eq (by omega) (by omega) (by omega) (by omega)] at this
        omega
      by_cases c0 : part = 0
      · simp only [if_pos c0]
        rw [if_pos (show iZ (part : Int) = 0 from (part_ne (by omega) (k := 0) (by decide)).mpr c0)]
        simp only [o53R, rl_c hq, bO]
        unfold fX8_tellMonths
        obtain ⟨x, b1, b2⟩ := c_tellMonths (X := X) (J := J) (v := v) hq hk8 k 0 20000 I1 (by omega) (by omega) hk
        have b1' : gX8_tellMonths_L2 q 55 20000 0 (mkS X I1 J v) = some ((), mkS X (gup I1 q 8 x) J v) := b1
        rw [b1', gb2_some]
        refine ⟨gup I1 q 8 x, rfl, frQ_t fr1 (frQ_g (j := 0) hq (by decide)), fun k hk => by rw [gup_k (by omega), hb1 q k (by omega) (by omega)], cO_W a3 (fun k => gup_r (by omega)), fun hok => ?_⟩
        have hr0 := hrok hok
        obtain ⟨p1, p2, p3, p4⟩ := hP hr0
        have p1' := cPd_fr p1 hb1
        refine ⟨hr0, ?_, p2⟩
        obtain ⟨z1, z2, z3, z4, z5, z6, z7, z8, z9⟩ := p1'
        refine ⟨?_, ?_, ?_, ?_, ?_, ?_, ?_, ?_, ?_⟩
        · rw [gup_k (by decide)]; exact z1
        · rw [gup_k (by decide)]; exact z2
        · rw [gup_s, b2 (I1 q 8) rfl, z3, ← rw_k hok]
          exact mkI_congr (fun j hj => (a4 hok).1.2.2 j hj)
        · rw [gup_k (by decide)]; exact z4
        · rw [gup_k (by decide)]; exact z5
        · rw [gup_k (by decide)]; exact z6
        · rw [gup_k (by decide)]; exact z7
        · exact ⟨by rw [gup_r (by omega)]; exact z8.1, fun k hk => by rw [gup_r (by omega)]; exact z8.2 k hk⟩
        · exact ⟨by rw [gup_r (by omega)]; exact z9.1, fun k hk => by rw [gup_r (by omega)]; exact z9.2 k hk⟩
      · simp only [if_neg c0]
        rw [if_neg (show ¬ iZ (part : Int) = 0 from fun z => c0 ((part_ne (by omega) (k := 0) (by decide)).mp z))]
        by_cases c1 : part = 1
        · simp only [if_pos c1]
          rw [if_pos (show iZ (part : Int) = 1 from (part_ne (by omega) (k := 1) (by decide)).mpr c1)]
          simp only [o53R, rl_c hq, bO]
          unfold fX8_tellDates
          simp only [row_i isRow55, hk, bO, rl_p hq]
          obtain ⟨x, y, b1, b2⟩ := c_tellDates (X := X) (J := J) (v := v) hq hk8 k 0 20000 (gup I1 q 12 (iZ (k : Int))) (by omega) (by omega) (by rw [gup_r (by omega)]; exact hk)
          have b1' : gX8_tellDates_L10 q 55 20000 0 (mkS X (gup I1 q 12 (iZ (k : Int))) J v) = some ((), mkS X (gup (gup (gup I1 q 12 (iZ (k : Int))) q 9 x) q 10 y) J v) := b1
          rw [b1', gb2_some]
          have g3 : ∀ j, j ≠ 9 → j ≠ 10 → j ≠ 12 → gup (gup (gup I1 q 12 (iZ (k : Int))) q 9 x) q 10 y q j = I1 q j := fun j h1 h2 h3 => by rw [gup_k h2, gup_k h1, gup_k h3]
          have g4 : ∀ a j, a ≠ q → gup (gup (gup I1 q 12 (iZ (k : Int))) q 9 x) q 10 y a j = I1 a j := fun a j h1 => by rw [gup_r h1, gup_r h1, gup_r h1]
          refine ⟨_, rfl, frQ_t fr1 (frQ_t (frQ_g (j := 0) hq (by decide)) (frQ_t (frQ_g (j := 0) hq (by decide)) (frQ_g (j := 0) hq (by decide)))), fun k hk => by rw [g3 k (by omega) (by omega) (by omega), hb1 q k (by omega) (by omega)], cO_W a3 (fun k => g4 53 k (by omega)), fun hok => ?_⟩
          have hr0 := hrok hok
          obtain ⟨p1, p2, p3, p4⟩ := hP hr0
          have p1' := cPd_fr p1 hb1
          obtain ⟨w1, w2⟩ := a4 hok
          refine ⟨hr0, ?_, ?_⟩
          · obtain ⟨z1, z2, z3, z4, z5, z6, z7, z8, z9⟩ := p1'
            have hbits := b2 (pRow T n (pMem T n part u) (pMemV T n part u) 8 [] r).1 (rw_k hok) (fun j hj => by rw [gup_r (by omega)]; exact w1.2.2 j (by rw [rw_k hok]; exact hj)) (fun z hz => by have := w2 z hz; rw [c1] at this; exact this)
            have on0 := p3 c1
            refine ⟨?_, ?_, ?_, ?_, ?_, ?_, ?_, ?_, ?_⟩
            · rw [g3 6 (by decide) (by decide) (by decide)]; exact z1
            · rw [g3 7 (by decide) (by decide) (by decide)]; exact z2
            · rw [g3 8 (by decide) (by decide) (by decide)]; exact z3
            · intro j j1 j2
              rw [gup_k (show (9 : Nat) ≠ 10 by decide), gup_s, (hbits j j1 j2).1, gup_k (show (9 : Nat) ≠ 12 by decide), z4 j j1 j2, on0]
              refine Iff.trans ?_ mem_get.symm
              constructor
              · rintro (e | ⟨p, e1, e2, e3⟩)
                · cases e
                · exact ⟨p, by show p < (pRow T n (pMem T n part u) (pMemV T n part u) 8 [] r).1.length; rw [rw_k hok]; exact e2, e3⟩
              · rintro ⟨p, e1, e2⟩
                exact Or.inr ⟨p, Nat.zero_le p, by have : p < (pRow T n (pMem T n part u) (pMemV T n part u) 8 [] r).1.length := e1; rw [rw_k hok] at this; exact this, e2⟩
            · intro j j1 j2
              rw [gup_s, (hbits j j1 j2).2, gup_k (show (10 : Nat) ≠ 12 by decide), z5 j j1 j2, on0]
              refine Iff.trans ?_ mem_get.symm
              constructor
              · rintro (e | ⟨p, e1, e2, e3⟩)
                · cases e
                · exact ⟨p, by show p < (pRow T n (pMem T n part u) (pMemV T n part u) 8 [] r).1.length; rw [rw_k hok]; exact e2, e3⟩
              · rintro ⟨p, e1, e2⟩
                exact Or.inr ⟨p, Nat.zero_le p, by have : p < (pRow T n (pMem T n part u) (pMemV T n part u) 8 [] r).1.length := e1; rw [rw_k hok] at this; exact this, e2⟩
            · rw [g3 11 (by decide) (by decide) (by decide)]; exact z6
            · rw [gup_k (show (12 : Nat) ≠ 10 by decide), gup_k (show (12 : Nat) ≠ 9 by decide), gup_s]
              show iZ (k : Int) = iZ (((pRow T n (pMem T n part u) (pMemV T n part u) 8 [] r).1.length : Nat) : Int)
              rw [rw_k hok]
            · exact ⟨by rw [g4 _ _ (by omega)]; exact z8.1, fun k hk => by rw [g4 _ _ (by omega)]; exact z8.2 k hk⟩
            · exact ⟨by rw [g4 _ _ (by omega)]; exact z9.1, fun k hk => by rw [g4 _ _ (by omega)]; exact z9.2 k hk⟩
          · obtain ⟨y1, y2, y3, y4, y5, y6, y7, y8⟩ := p2
            exact ⟨hlen, fun z hz => by have := w2 z hz; rw [c1] at this; exact this, y3, y4, y5, y6, y7, y8⟩
        · simp only [if_neg c1]
          rw [if_neg (show ¬ iZ (part : Int) = 1 from fun z => c1 ((part_ne (by omega) (k := 1) (by decide)).mp z))]
          by_cases c2 : part = 2
          · simp only [if_pos c2]
            rw [if_pos (show iZ (part : Int) = 2 from (part_ne (by omega) (k := 2) (by decide)).mpr c2)]
            simp only [o53R, rl_c hq, bO]
            unfold fX8_tellWeekdays
            simp only [rl_by hq, row_c (rl_row1 hq), bO]
            obtain ⟨I2, d1, d2, d3, d4⟩ := c_copy (X := X) (J := J) (v := v) (I := I1) (rl_row1 hq) (rule_all hq).2.1 (by omega) hk8 hk
            rw [d1, gb2_some]
            have fr2 : frQ q I1 I2 := ⟨fun r k a b c d => d2 r k (by omega) (by omega), d2 53 3 (by omega) (by omega)⟩
            obtain ⟨x, b1, b2⟩ := c_tellWeek (X := X) (J := J) (v := v) hq hk8 k 0 20000 I2 (by omega) (by omega) (by rw [d2 55 1 (by omega) (by omega)]; exact hk)
            have b1' : gX8_tellWeekdays_L10 q 55 20000 0 (mkS X I2 J v) = some ((), mkS X (gup I2 q 11 x) J v) := b1
            rw [b1', gb2_some]
            have g3 : ∀ j, j ≠ 11 → gup I2 q 11 x q j = I1 q j := fun j h1 => by rw [gup_k h1, d2 q j (by omega) (by omega)]
            refine ⟨_, rfl, frQ_t fr1 (frQ_t fr2 (frQ_g (j := 0) hq (by decide))), fun k hk => by rw [g3 k (by omega), hb1 q k (by omega) (by omega)], cO_W a3 (fun k => by rw [gup_r (by omega), d2 53 k (by omega) (by omega)]), fun hok => ?_⟩
            have hr0 := hrok hok
            obtain ⟨p1, p2, p3, p4⟩ := hP hr0
            have p1' := cPd_fr p1 hb1
            obtain ⟨w1, w2⟩ := a4 hok
            refine ⟨hr0, ?_, ?_⟩
            · obtain ⟨z1, z2, z3, z4, z5, z6, z7, z8, z9⟩ := p1'
              have hbits := b2 (pRow T n (pMem T n part u) (pMemV T n part u) 8 [] r).1 (rw_k hok) (fun j hj => by rw [d2 56 j (by omega) (by omega)]; exact w1.2.2 j (by rw [rw_k hok]; exact hj)) (fun z hz => by have := w2 z hz; rw [c2] at this; exact this)
              have by0 := p4 c2
              refine ⟨?_, ?_, ?_, ?_, ?_, ?_, ?_, ?_, ?_⟩
              · rw [g3 6 (by decide)]; exact z1
              · rw [g3 7 (by decide)]; exact z2
              · rw [g3 8 (by decide)]; exact z3
              · rw [g3 9 (by decide)]; exact z4
              · rw [g3 10 (by decide)]; exact z5
              · intro j j1
                rw [gup_s, hbits j j1, d2 q 11 (by omega) (by omega), z6 j j1, by0]
                constructor
                · rintro (⟨e, e1, _⟩ | ⟨p, e1, e2, e3⟩)
                  · cases e1
                  · exact ⟨_, mem_get.mpr ⟨p, by show p < (pRow T n (pMem T n part u) (pMemV T n part u) 8 [] r).1.length; rw [rw_k hok]; exact e2, rfl⟩, e3⟩
                · rintro ⟨y, e1, e2⟩
                  obtain ⟨p, e3, e4⟩ := mem_get.mp e1
                  have e3' : p < (pRow T n (pMem T n part u) (pMemV T n part u) 8 [] r).1.length := e3
                  rw [rw_k hok] at e3'
                  exact Or.inr ⟨p, Nat.zero_le p, e3', by rw [show (pRow T n (pMem T n part u) (pMemV T n part u) 8 [] r).1.getD p 0 = y from e4]; exact e2⟩
              · rw [g3 12 (by decide)]; exact z7
              · refine ⟨?_, fun j hj => ?_⟩
                · rw [gup_r (by omega), d3]
                  show iZ (k : Int) = iZ (((pRow T n (pMem T n part u) (pMemV T n part u) 8 [] r).1.length : Nat) : Int)
                  rw [rw_k hok]
                · have hj' : j < (pRow T n (pMem T n part u) (pMemV T n part u) 8 [] r).1.length := hj
                  rw [gup_r (by omega), d4 j (by rw [← rw_k hok]; exact hj')]
                  exact w1.2.2 j hj'
              · exact ⟨by rw [gup_r (by omega), d2 _ _ (by omega) (by omega)]; exact z9.1, fun k hk => by rw [gup_r (by omega), d2 _ _ (by omega) (by omega)]; exact z9.2 k hk⟩
            · obtain ⟨y1, y2, y3, y4, y5, y6, y7, y8⟩ := p2
              exact ⟨y1, y2, hlen, fun z hz => by have := w2 z hz; rw [c2] at this; exact this, y5, y6, y7, y8⟩
          · simp only [if_neg c2]
            rw [if_neg (show ¬ iZ (part : Int) = 2 from fun z => c2 ((part_ne (by omega) (k := 2) (by decide)).mp z))]
            have c3 : part = 3 := by omega
            simp only [o53R, rl_at hq, row_c (rl_row3 hq), bO]
            obtain ⟨I2, d1, d2, d3, d4⟩ := c_copy (X := X) (J := J) (v := v) (I := I1) (rl_row3 hq) (rule_all hq).2.2.1 (by omega) hk8 hk
            rw [d1, gb2_some]
            have fr2 : frQ q I1 I2 := ⟨fun r k a b c d => d2 r k (by omega) (by omega), d2 53 3 (by omega) (by omega)⟩
            refine ⟨I2, rfl, frQ_t fr1 fr2, fun k hk => by rw [d2 q k (by omega) (by omega), hb1 q k (by omega) (by omega)], cO_W a3 (fun k => d2 53 k (by omega) (by omega)), fun hok => ?_⟩
            have hr0 := hrok hok
            obtain ⟨p1, p2, p3, p4⟩ := hP hr0
            have p1' := cPd_fr p1 hb1
            obtain ⟨w1, w2⟩ := a4 hok
            refine ⟨hr0, ?_, ?_⟩
            · obtain ⟨z1, z2, z3, z4, z5, z6, z7, z8, z9⟩ := p1'
              have g3 : ∀ j, I2 q j = I1 q j := fun j => d2 q j (by omega) (by omega)
              refine ⟨?_, ?_, ?_, ?_, ?_, ?_, ?_, ?_, ?_⟩
              · rw [g3]; exact z1
              · rw [g3]; exact z2
              · rw [g3]; exact z3
              · rw [g3]; exact z4
              · rw [g3]; exact z5
              · rw [g3]; exact z6
              · rw [g3]; exact z7
              · exact ⟨by rw [d2 _ _ (by omega) (by omega)]; exact z8.1, fun k hk => by rw [d2 _ _ (by omega) (by omega)]; exact z8.2 k hk⟩
              · refine ⟨?_, fun j hj => ?_⟩
                · rw [d3]
                  show iZ (k : Int) = iZ (((pRow T n (pMem T n part u) (pMemV T n part u) 8 [] r).1.length : Nat) : Int)
                  rw [rw_k hok]
                · have hj' : j < (pRow T n (pMem T n part u) (pMemV T n part u) 8 [] r).1.length := hj
                  rw [d4 j (by rw [← rw_k hok]; exact hj')]
                  exact w1.2.2 j hj'
            · obtain ⟨y1, y2, y3, y4, y5, y6, y7, y8⟩ := p2
              exact ⟨y1, y2, y3, y4, hlen, fun z hz => by have := w2 z hz; rw [c3] at this; exact this, y7, y8⟩
end gPb
