/-! A RULE is read -/
def pWd (T : Nat → Nat) (n : Nat) (r : PS) : Int := if 11 ≤ pOw T n r ∧ pOw T n r < 17 then pOw T n r - 11 else -1
def pParts (T : Nat → Nat) (n : Nat) (u : Int) : Nat → (Nat → Bool) → PD → PS → PD × PS
  | 0, _, P, r => (P, r)
  | f + 1, met, P, r => if pWd T n r = -1 then (P, r) else pParts T n u f (fun k => met k || k == (pWd T n r).toNat) (pPart T n (pWd T n r).toNat u P (pAdv T n (if met (pWd T n r).toNat = true then pNot 4 r else r))).1 (pPart T n (pWd T n r).toNat u P (pAdv T n (if met (pWd T n r).toNat = true then pNot 4 r else r))).2
def P0 : PD := (0, [], [], [], -1, -1)
theorem PDok0 : PDok P0 := ⟨Nat.zero_le _, (fun y hy => by cases hy), Nat.zero_le _, (fun y hy => by cases hy), Nat.zero_le _, (fun y hy => by cases hy), Or.inl rfl, Or.inl rfl⟩
theorem cnt_upd {P Q : Nat → Bool} {k : Nat} : ∀ {n : Nat}, k < n → P k = false → Q k = true → (∀ j, j ≠ k → Q j = P j) → cnt Q 0 n = cnt P 0 n + 1 := by
  intro n
  induction n with
  | zero => intro h; omega
  | succ n ih =>
    intro h h1 h2 h3
    rw [cnt_succ, cnt_succ, Nat.zero_add]
    by_cases c : k = n
    · subst c
      rw [cnt_congr (P := Q) (Q := P) (fun i hi => h3 _ (by omega)), h1, h2]; rfl
    · rw [ih (by omega) h1 h2 h3, h3 n (by omega)]; omega
theorem pPart_er {T : Nat → Nat} {n part : Nat} {u : Int} {P : PD} {r : PS} (hp : part < 6) (h : pOk r = false) : pOk (pPart T n part u P r).2 = false := by
  cases z : pOk (pPart T n part u P r).2
  · rfl
  · exfalso
    unfold pPart at z
    by_cases c4 : part = 4
    · rw [if_pos c4] at z
      have := (pDate_in (pNum_ok z).1).1
      rw [h] at this; cases this
    · rw [if_neg c4] at z
      by_cases c5 : part = 5
      · rw [if_pos c5] at z
        have := (pNum_ok z).1
        rw [h] at this; cases this
      · rw [if_neg c5] at z
        have ed : ∀ l, pOk (pDup (pMem T n part u) (pMemV T n part u) l r) = false := by
          intro l
          cases z : pOk (pDup (pMem T n part u) (pMemV T n part u) l r)
          · rfl
          · have := pMem_ok (pDup_ok z).1
            rw [h] at this; cases this
        have : ∀ (f : Nat) (l : List Int), pOk (pRow T n (pMem T n part u) (pMemV T n part u) f l r).2 = false := by
          intro f l
          cases f with
          | zero => exact h
          | succ f =>
            have es : ∃ e', pDup (pMem T n part u) (pMemV T n part u) l r = .error e' := by
              cases y : pDup (pMem T n part u) (pMemV T n part u) l r with
              | error e' => exact ⟨e', rfl⟩
              | ok s => have := ed l; rw [y] at this; cases this
            obtain ⟨e', he'⟩ := es
            show pOk (if pMore T n (l.length + 1) (pDup (pMem T n part u) (pMemV T n part u) l r) = true then _ else _ : List Int × PS).2 = false
            rw [he', if_neg (by show ¬ (false && _) = true; simp)]
            rfl
        rw [this 8 []] at z
        cases z
section gRu
variable {X : Nat × (Nat → Int32)} {J : Nat → Nat → Int64} {v : Vt} {T : Nat → Nat} {n q : Nat}
theorem pWd_r (r : PS) : -1 ≤ pWd T n r ∧ pWd T n r < 6 := by
  unfold pWd
  split <;> omega
theorem pWd_ok {r : PS} (h : ¬ pWd T n r = -1) : pOk r = true := by
  cases r with
  | error e => exact absurd rfl h
  | ok s => rfl
theorem c_wordPart {I : Nat → Nat → Int32} {r : PS} (h : cX I v T n) (hr : cO I T n r) : fX6_wordAmong 53 2 (mkS X I J v) = some (iZ (pWd T n r), mkS X I J v) := by
  rw [c_wordAmong h hr (show isTb 2 11 6 from Or.inr (Or.inl ⟨rfl, rfl, rfl⟩))]
  rfl
theorem c_partsL {K : gH → Option (Unit × gH)} {x1 : Int32} {u : Int} (hq : isRule q) (u1 : -10 ≤ u) (u2 : u ≤ 10) : ∀ (f i fuel : Nat) (met : Nat → Bool) (P : PD) (r : PS) (I : Nat → Nat → Int32) (x3 : Int32), f + i = 8 → f < fuel → cX I v T n → cO I T n r → I q 1 = iZ u → (pOk r = true → i = cnt met 0 6 ∧ cPd I q P ∧ PDok P ∧ (met 1 = false → P.on = []) ∧ (met 2 = false → P.by_ = []) ∧ ∀ k, k < 6 → (ib x3 k = true ↔ met k = true)) → ∃ I', gX6_ruleText_L122 K 53 x1 q fuel x3 (iZ (pWd T n r)) (iZ (i : Int)) (mkS X I J v) = K (mkS X I' J v) ∧ frQ q I I' ∧ (∀ k, k < 6 → I' q k = I q k) ∧ cO I' T n (pParts T n u f met P r).2 ∧ (pOk (pParts T n u f met P r).2 = true → pOk r = true ∧ cPd I' q (pParts T n u f met P r).1 ∧ PDok (pParts T n u f met P r).1) := by
  intro f
  induction f with
  | zero =>
    intro i fuel met P r I x3 hi hf h hr hu hg
    obtain ⟨fu, rfl⟩ : ∃ n, fuel = n + 1 := ⟨fuel - 1, by omega⟩
    have hw : pWd T n r = -1 := by
      apply Classical.byContradiction
      intro z
      have := (hg (pWd_ok z)).1
      have := cnt_le met 0 6
      omega
    refine ⟨I, ?_, frQ_r q I, fun _ _ => rfl, hr, fun hok => ⟨hok, (hg hok).2.1, (hg hok).2.2.1⟩⟩
    unfold gX6_ruleText_L122
    rw [if_pos (by rw [cL_lt (by omega) (by omega) (by decide)]; omega), hw, if_pos (show iZ (-1) = -1 from rfl)]
  | succ f ih =>
    intro i fuel met P r I x3 hi hf h hr hu hg
    obtain ⟨fu, rfl⟩ : ∃ n, fuel = n + 1 := ⟨fuel - 1, by omega⟩
    have hwr := pWd_r (T := T) (n := n) r
    unfold gX6_ruleText_L122
    rw [if_pos (by rw [cL_lt (by omega) (by omega) (by decide)]; omega)]
    show ∃ I', _ ∧ frQ q I I' ∧ _ ∧ cO I' T n (if pWd T n r = -1 then (P, r) else pParts T n u f (fun k => met k || k == (pWd T n r).toNat) (pPart T n (pWd T n r).toNat u P (pAdv T n (if met (pWd T n r).toNat = true then pNot 4 r else r))).1 (pPart T n (pWd T n r).toNat u P (pAdv T n (if met (pWd T n r).toNat = true then pNot 4 r else r))).2).2 ∧ (pOk (if pWd T n r = -1 then (P, r) else pParts T n u f (fun k => met k || k == (pWd T n r).toNat) (pPart T n (pWd T n r).toNat u P (pAdv T n (if met (pWd T n r).toNat = true then pNot 4 r else r))).1 (pPart T n (pWd T n r).toNat u P (pAdv T n (if met (pWd T n r).toNat = true then pNot 4 r else r))).2).2 = true → pOk r = true ∧ cPd I' q (if pWd T n r = -1 then (P, r) else pParts T n u f (fun k => met k || k == (pWd T n r).toNat) (pPart T n (pWd T n r).toNat u P (pAdv T n (if met (pWd T n r).toNat = true then pNot 4 r else r))).1 (pPart T n (pWd T n r).toNat u P (pAdv T n (if met (pWd T n r).toNat = true then pNot 4 r else r))).2).1 ∧ PDok (if pWd T n r = -1 then (P, r) else pParts T n u f (fun k => met k || k == (pWd T n r).toNat) (pPart T n (pWd T n r).toNat u P (pAdv T n (if met (pWd T n r).toNat = true then pNot 4 r else r))).1 (pPart T n (pWd T n r).toNat u P (pAdv T n (if met (pWd T n r).toNat = true then pNot 4 r else r))).2).1)
    by_cases c : pWd T n r = -1
    · simp only [if_pos c]
      rw [c, if_pos (show iZ (-1) = -1 from rfl)]
      exact ⟨I, rfl, frQ_r q I, fun _ _ => rfl, hr, fun hok => ⟨hok, (hg hok).2.1, (hg hok).2.2.1⟩⟩
    · simp only [if_neg c]
      have hok := pWd_ok c
      obtain ⟨g1, g2, g3, g4, g5, g6⟩ := hg hok
      rw [if_neg (by rw [cM_eq (by omega) (by omega)]; exact c)]
      obtain ⟨w, hw⟩ : ∃ w : Nat, pWd T n r = (w : Int) := ⟨(pWd T n r).toNat, by omega⟩
      rw [hw, Int.toNat_natCast]
      have hw6 : w < 6 := by omega
      simp only [bO, o53]
      -- what follows, behind the look at what was met
      have rest : ∀ {I1 : Nat → Nat → Int32}, frK I I1 → cO I1 T n (if met w = true then pNot 4 r else r) → ∃ I', (gb2 (fX6_advance 53 (mkS X I1 J v)) fun _ s47 => gb2 (gcv s47 53 6 (fX6_partText 53 (iZ (w : Int)) q s47)) fun _ s49 => gb2 (gcv s49 53 6 (fX6_wordAmong 53 2 s49)) fun r50 s51 => gX6_ruleText_L122 K 53 x1 q fu (x3 ||| 1 <<< (iZ (w : Int) &&& 31)) r50 (iZ (i : Int) + 1) s51) = K (mkS X I' J v) ∧ frQ q I I' ∧ (∀ k, k < 6 → I' q k = I q k) ∧ cO I' T n (pParts T n u f (fun k => met k || k == w) (pPart T n w u P (pAdv T n (if met w = true then pNot 4 r else r))).1 (pPart T n w u P (pAdv T n (if met w = true then pNot 4 r else r))).2).2 ∧ (pOk (pParts T n u f (fun k => met k || k == w) (pPart T n w u P (pAdv T n (if met w = true then pNot 4 r else r))).1 (pPart T n w u P (pAdv T n (if met w = true then pNot 4 r else r))).2).2 = true → pOk r = true ∧ cPd I' q (pParts T n u f (fun k => met k || k == w) (pPart T n w u P (pAdv T n (if met w = true then pNot 4 r else r))).1 (pPart T n w u P (pAdv T n (if met w = true then pNot 4 r else r))).2).1 ∧ PDok (pParts T n u f (fun k => met k || k == w) (pPart T n w u P (pAdv T n (if met w = true then pNot 4 r else r))).1 (pPart T n w u P (pAdv T n (if met w = true then pNot 4 r else r))).2).1) := by
        intro I1 fr1 hr1
        have hq2 := (rule_all hq).2.2.2.2.2.1
        have h1 := cX_K h fr1
        obtain ⟨I2, a1, a2, a3⟩ := c_adv (X := X) (J := J) h1 hr1
        rw [a1, gb2_some]
        simp only [o53]
        have h2 := cX_K h1 a2
        have fr2 := frK_t fr1 a2
        obtain ⟨I3, b1, b2, b3, b4, b5⟩ := c_partText (X := X) (J := J) (v := v) (T := T) (n := n) (q := q) (I := I2) (part := w) (u := u) (P := P) hq hw6 u1 u2 h2 a3 (by rw [fr2.1 q 1 (by omega)]; exact hu) (fun hok2 => by
          rw [pAdv_ok] at hok2
          have hm : met w = false := by
            cases z : met w
            · rfl
            · rw [z, if_pos rfl, pNot_ok] at hok2; cases hok2
          refine ⟨cPd_fr g2 (fun r k x y => fr2.1 r k (by omega)), g3, fun e => g4 (by rw [← e]; exact hm), fun e => g5 (by rw [← e]; exact hm)⟩)
        rw [b1, gb2_some]
        simp only [o53]
        have h3 := cX_Q hq h2 b2
        rw [c_wordPart h3 b4, gb2_some, aL, show (i : Int) + 1 = ((i + 1 : Nat) : Int) by omega]
        obtain ⟨I4, d1, d2, d3, d4, d5⟩ := ih (i + 1) fu (fun k => met k || k == w) (pPart T n w u P (pAdv T n (if met w = true then pNot 4 r else r))).1 (pPart T n w u P (pAdv T n (if met w = true then pNot 4 r else r))).2 I3 (x3 ||| 1 <<< (iZ (w : Int) &&& 31)) (by omega) (by omega) h3 b4 (by rw [b3 1 (by decide), fr2.1 q 1 (by omega)]; exact hu) (fun hok2 => by
          obtain ⟨e1, e2, e3⟩ := b5 hok2
          rw [pAdv_ok] at e1
          have hm : met w = false := by
            cases z : met w
            · rfl
            · rw [z, if_pos rfl, pNot_ok] at e1; cases e1
          refine ⟨?_, e2, e3, ?_, ?_, ?_⟩
          · rw [cnt_upd (P := met) (Q := fun k => met k || k == w) hw6 hm (by simp) (fun j hj => by simp [hj]), g1]
          · intro z
            have z1 : met 1 = false := by
              cases y : met 1
              · rfl
              · rw [y] at z; cases z
            have z2 : w ≠ 1 := fun e => by rw [e] at z; simp at z
            have hon := g4 z1
            have er : (if met w = true then pNot 4 r else r) = r := by rw [hm]; rfl
            rw [er]
            unfold pPart
            by_cases w4 : w = 4
            · rw [if_pos w4]; exact hon
            · rw [if_neg w4]
              by_cases w5 : w = 5
              · rw [if_pos w5]; exact hon
              · rw [if_neg w5]
                by_cases w0 : w = 0
                · rw [if_pos w0]; exact hon
                · rw [if_neg w0, if_neg z2]
                  by_cases w2 : w = 2
                  · rw [if_pos w2]; exact hon
                  · rw [if_neg w2]; exact hon
          · intro z
            have z1 : met 2 = false := by
              cases y : met 2
              · rfl
              · rw [y] at z; cases z
            have z2 : w ≠ 2 := fun e => by rw [e] at z; simp at z
            have hby := g5 z1
            have er : (if met w = true then pNot 4 r else r) = r := by rw [hm]; rfl
            rw [er]
            unfold pPart
            by_cases w4 : w = 4
            · rw [if_pos w4]; exact hby
            · rw [if_neg w4]
              by_cases w5 : w = 5
              · rw [if_pos w5]; exact hby
              · rw [if_neg w5]
                by_cases w0 : w = 0
                · rw [if_pos w0]; exact hby
                · rw [if_neg w0]
                  by_cases w1 : w = 1
                  · rw [if_pos w1]; exact hby
                  · rw [if_neg w1, if_neg z2]; exact hby
          · intro k hk
            rw [ib_or (by omega) (by omega), Bool.or_eq_true, decide_eq_true_eq, g6 k hk, Bool.or_eq_true, beq_iff_eq])
        refine ⟨I4, d1, frQ_t (frQ_K fr2) (frQ_t b2 d2), fun k hk => by rw [d3 k hk, b3 k hk, fr2.1 q k (by omega)], d4, fun hok2 => ⟨hok, (d5 hok2).2⟩⟩
      by_cases cm : met w = true
      · rw [if_neg (by rw [ib_shr (by omega)]; rw [(g6 w hw6).mpr cm]; decide)]
        obtain ⟨I1, a1, a2, a3⟩ := c_refuseS (X := X) (J := J) (v := v) (f := 4) (by decide) (by decide) hr
        rw [show (4 : Int32) = iZ ((4 : Nat) : Int) from rfl, a1, gb2_some]
        simp only [o53]
        exact rest a2 (by rw [if_pos cm]; exact a3)
      · rw [if_pos (by
          rw [ib_shr (by omega)]
          cases z : ib x3 w
          · rfl
          · exact absurd ((g6 w hw6).mp z) cm)]
        exact rest (frK_r I) (by rw [if_neg cm]; exact hr)
/-- the parts are emptied -/
theorem c_clearParts {I : Nat → Nat → Int32} (hq : isRule q) : ∃ I', fX8_clearParts q (mkS X I J v) = some ((), mkS X I' J v) ∧ (∀ r k, r ≠ q → r ≠ q + 1 → r ≠ q + 3 → I' r k = I r k) ∧ (∀ k, k < 6 → I' q k = I q k) ∧ cPd I' q P0 := by
  unfold fX8_clearParts
  simp only [bO, rl_p hq, rl_by hq, rl_at hq, row_c (rl_row1 hq), row_c (rl_row3 hq), row_clear (rl_row1 hq), row_clear (rl_row3 hq)]
  refine ⟨_, rfl, fun r k a b c => ?_, fun k hk => ?_, ?_⟩
  · simp only [gup_r a, gup_r b, gup_r c]
  · simp only [gup_k (show k ≠ 7 by omega), gup_k (show k ≠ 6 by omega), gup_r (show q ≠ q + 3 by omega), gup_r (show q ≠ q + 1 by omega), gup_k (show k ≠ 12 by omega), gup_k (show k ≠ 11 by omega), gup_k (show k ≠ 10 by omega), gup_k (show k ≠ 9 by omega), gup_k (show k ≠ 8 by omega)]
  · refine ⟨?_, ?_, ?_, ?_, ?_, ?_, ?_, ?_, ?_⟩
    · rw [gup_k (by decide), gup_s]; rfl
    · rw [gup_s]; rfl
    · simp only [gup_k (show (8 : Nat) ≠ 7 by decide), gup_k (show (8 : Nat) ≠ 6 by decide), gup_r (show q ≠ q + 3 by omega), gup_r (show q ≠ q + 1 by omega), gup_k (show (8 : Nat) ≠ 12 by decide), gup_k (show (8 : Nat) ≠ 11 by decide), gup_k (show (8 : Nat) ≠ 10 by decide), gup_k (show (8 : Nat) ≠ 9 by decide), gup_s]; rfl
    · intro k _ _
      simp only [gup_k (show (9 : Nat) ≠ 7 by decide), gup_k (show (9 : Nat) ≠ 6 by decide), gup_r (show q ≠ q + 3 by omega), gup_r (show q ≠ q + 1 by omega), gup_k (show (9 : Nat) ≠ 12 by decide), gup_k (show (9 : Nat) ≠ 11 by decide), gup_k (show (9 : Nat) ≠ 10 by decide), gup_s, ib_0]
      exact ⟨(fun e => by cases e), (fun e => by cases e)⟩
    · intro k _ _
      simp only [gup_k (show (10 : Nat) ≠ 7 by decide), gup_k (show (10 : Nat) ≠ 6 by decide), gup_r (show q ≠ q + 3 by omega), gup_r (show q ≠ q + 1 by omega), gup_k (show (10 : Nat) ≠ 12 by decide), gup_k (show (10 : Nat) ≠ 11 by decide), gup_s, ib_0]
      exact ⟨(fun e => by cases e), (fun e => by cases e)⟩
    · intro k _
      simp only [gup_k (show (11 : Nat) ≠ 7 by decide), gup_k (show (11 : Nat) ≠ 6 by decide), gup_r (show q ≠ q + 3 by omega), gup_r (show q ≠ q + 1 by omega), gup_k (show (11 : Nat) ≠ 12 by decide), gup_s, ib_0]
      exact ⟨(fun e => by cases e), (fun ⟨y, e, _⟩ => by cases e)⟩
    · simp only [gup_k (show (12 : Nat) ≠ 7 by decide), gup_k (show (12 : Nat) ≠ 6 by decide), gup_r (show q ≠ q + 3 by omega), gup_r (show q ≠ q + 1 by omega), gup_s]; rfl
    · refine ⟨?_, fun k hk => absurd hk (Nat.not_lt_zero k)⟩
      simp only [gup_r (show q + 1 ≠ q by omega), gup_r (show q + 1 ≠ q + 3 by omega), gup_s]; rfl
    · refine ⟨?_, fun k hk => absurd hk (Nat.not_lt_zero k)⟩
      simp only [gup_r (show q + 3 ≠ q by omega), gup_s]; rfl
theorem c_beginAt {I : Nat → Nat → Int32} {d : Nat} (hq : isRule q) (hd : d < 14610) : ∃ I', fX8_beginAt q (iZ (d : Int)) (mkS X I J v) = some ((), mkS X I' J v) ∧ (∀ r k, (r ≠ q ∨ k < 2 ∨ 5 < k) → I' r k = I r k) ∧ I' q 2 = iZ (d : Int) ∧ I' q 3 = iZ (cM d : Nat) ∧ I' q 4 = iZ (cD d : Nat) ∧ I' q 5 = iZ (((d + 5) % 7 : Nat) : Int) := by
  obtain ⟨q1, q2, q3, q4, q5, q6, q7, q8, q9, q10, q11⟩ := cGood_all' hd
  unfold fX8_beginAt
  simp only [c_yearOf (show d < 20000 by omega), bO, rl_p hq, rl_i hq, c_monthOf hd, gup_s]
  rw [c_firstOfMonth (by omega) q2 (by omega)]
  simp only [bO, rl_p hq, rl_i hq, c_weekdayOf (show d < 20000 by omega)]
  rw [iZ_sub, aL, show (d : Int) - ((cF (cY d) + cA (cY d) (cM d) : Nat) : Int) + 1 = ((cD d : Nat) : Int) by omega]
  refine ⟨_, rfl, fun r k a => ?_, ?_, ?_, ?_, ?_⟩
  · by_cases c : r = q
    · rw [gup_k (by omega), gup_k (by omega), gup_k (by omega), gup_k (by omega)]
    · rw [gup_r c, gup_r c, gup_r c, gup_r c]
  · rw [gup_k (by decide), gup_k (by decide), gup_k (by decide), gup_s]
  · rw [gup_k (by decide), gup_k (by decide), gup_s]
  · rw [gup_k (by decide), gup_s]
  · rw [gup_s]
end gRu
