/-! SETS are read -/
def cRd (X : Nat × (Nat → Int32)) (J : Nat → Nat → Int64) (v : Vt) (T : Nat → Nat) (n b k nR nS : Nat) (nm : Nat → List Nat) (F : gH → Option (Unit × gH)) (P : PS → List (Nat × Nat) × PS) : Prop := ∀ (I : Nat → Nat → Int32) (r : PS) (C : List (Nat × Nat)), cX I v T n → cO I T n r → cNm I b nR nS nm → cKd I b k C r → ∃ I', F (mkS X I J v) = some ((), mkS X I' J v) ∧ frE b k I I' ∧ cO I' T n (P r).2 ∧ cKd I' b k (C ++ trL (P r).1) (P r).2
theorem pRow_ne {T : Nat → Nat} {n : Nat} {m : PS → PS} {mv : PS → Int} : ∀ {f : Nat} {l : List Int} {r : PS}, (f ≠ 0 ∨ l ≠ []) → (pRow T n m mv f l r).1 ≠ [] := by
  intro f
  induction f with
  | zero => intro l r h; exact h.elim (fun q => absurd rfl q) id
  | succ f ih =>
    intro l r h
    show (if pMore T n (l.length + 1) (pDup m mv l r) = true then pRow T n m mv f (l ++ [mv r]) (pNext T n (l.length + 1) (pDup m mv l r)) else (l ++ [mv r], pNext T n (l.length + 1) (pDup m mv l r))).1 ≠ []
    split
    · exact ih (Or.inr (by simp))
    · simp
section gSr
variable {X : Nat × (Nat → Int32)} {J : Nat → Nat → Int64} {v : Vt} {T : Nat → Nat} {n b k nR nS : Nat} {nm : Nat → List Nat}
theorem c_daysTL (hb : isBk b) (hv : v.2.2.2.1 = b) : ∀ (f fuel : Nat) (l : List Int) (I : Nat → Nat → Int32) (r : PS) (j : Nat) (C : List (Nat × Nat)), l.length + f = 8 → l.length < 8 → f < fuel → cX I v T n → cO I T n r → (pOk r = true → rw8 I l) → (∀ y, y ∈ l → 0 ≤ y ∧ y < 14610) → j ≤ 8 → I 55 1 = iZ (j : Int) → cKd I b k (C ++ l.map (fun d => (2, d.toNat))) r → ∃ I', gX6_daysText_L18 53 fuel (iZ (l.length : Int)) (mkS X I J v) = some ((), mkS X I' J v) ∧ frE b k I I' ∧ cO I' T n (pRow T n (pDate T n) (fun r => ((pDateV T n r : Nat) : Int)) f l r).2 ∧ cKd I' b k (C ++ (pRow T n (pDate T n) (fun r => ((pDateV T n r : Nat) : Int)) f l r).1.map (fun d => (2, d.toNat))) (pRow T n (pDate T n) (fun r => ((pDateV T n r : Nat) : Int)) f l r).2 := by
  intro f
  induction f with
  | zero => intro fuel l I r j C h1 h2; omega
  | succ f ih =>
    intro fuel l I r j C hl hl2 hfu h hr hrow hbd hj hs hK
    obtain ⟨fu, rfl⟩ : ∃ n, fuel = n + 1 := ⟨fuel - 1, by omega⟩
    unfold gX6_daysText_L18
    rw [if_pos (by rw [cL_lt (by omega) (by omega) (by decide)]; omega)]
    simp only [bO, o53]
    obtain ⟨I1, x, a1, a2, a3, a4, a5⟩ := c_dateText (X := X) (J := J) h hr
    rw [a1]
    simp only [bO, o53R, row_c isRow55]
    have h1 := cX_K h a2
    obtain ⟨I2, k2, b1, b2, b3, b4, b5, b6⟩ := c_rowStep (X := X) (J := J) (v := v) (T := T) (n := n) (I := I) (I1 := I1) (m := pDate T n) (mv := fun r => ((pDateV T n r : Nat) : Int)) (r := r) (l := l) (x := x) (k := j) hl2 pDate_ok h1 hr a3 (fun q => ⟨a4 q, by have := pDate_r q; omega⟩) (fun q => by
      have := hrow q
      unfold rw8 at this ⊢
      rw [a2.1 55 1 (by decide)]
      refine ⟨this.1, this.2.1, fun j hj => ?_⟩
      rw [a2.1 56 j (by decide)]; exact this.2.2 j hj) (fun y hy => by have := hbd y hy; omega) hj (by rw [a2.1 55 1 (by decide)]; exact hs)
    have hcon := b1 (fun s16 => (ggR s16 53 6 7).bind fun v20 => gb2 (gcv s16 v20 1 (fX1_append v20 2 x s16)) fun _ s22 => gb2 (gcv s22 53 6 (fX6_nextInRow 53 s22)) fun r23 s24 => if r23 = 0 then some ((), s24) else gX6_daysText_L18 53 fu (iZ (l.length : Int) + 1) s24)
    rw [hcon]
    simp only [bO, o53R, hv, bk_c hb]
    have h2 := cX_W h1 b2
    have hK2 : cKd I2 b k (C ++ l.map (fun d => (2, d.toNat))) r := cKd_W hb hK (frW_t (frW_K a2) b2) id
    obtain ⟨I3, d1, d2, d3, d4⟩ := c_app (X := X) (J := J) (v := v) (op := 2) (x := x) hb hK2 (by decide)
    have d1' : fX1_append b 2 x (mkS X I2 J v) = some ((), mkS X I3 J v) := d1
    rw [d1', gb2_some]
    simp only [o53]
    have hb0 := bk_r hb
    have h3 := cX_E hb h2 d2
    have o3 : cO I3 T n (pDup (pDate T n) (fun r => ((pDateV T n r : Nat) : Int)) l r) := cO_W b3 (fun j => d3 53 j (by omega) (by omega))
    have s3 : I3 55 1 = iZ (k2 : Int) := by rw [d3 55 1 (by omega) (by omega)]; exact b6
    obtain ⟨I4, c1, c2, c3⟩ := c_next (X := X) (J := J) b5 h3 o3 s3
    rw [c1, gb2_some]
    have fr4 : frE b k I I4 := frE_t (frE_W hb (frW_t (frW_K a2) b2)) (frE_t d2 (frE_K hb c2))
    have hk2 : pOk (pDup (pDate T n) (fun r => ((pDateV T n r : Nat) : Int)) l r) = true → k2 = l.length + 1 := fun q => (b4 q).2
    have emore : pMore T n k2 (pDup (pDate T n) (fun r => ((pDateV T n r : Nat) : Int)) l r) = pMore T n (l.length + 1) (pDup (pDate T n) (fun r => ((pDateV T n r : Nat) : Int)) l r) := by
      cases hq : pDup (pDate T n) (fun r => ((pDateV T n r : Nat) : Int)) l r with
      | error e => rfl
      | ok s => rw [hk2 (by rw [hq]; rfl)]
    have enext : pNext T n k2 (pDup (pDate T n) (fun r => ((pDateV T n r : Nat) : Int)) l r) = pNext T n (l.length + 1) (pDup (pDate T n) (fun r => ((pDateV T n r : Nat) : Int)) l r) := by
      cases hq : pDup (pDate T n) (fun r => ((pDateV T n r : Nat) : Int)) l r with
      | error e => rfl
      | ok s => rw [hk2 (by rw [hq]; rfl)]
    rw [enext] at c3
    rw [emore]
    have hK4 : cKd I4 b k (C ++ (l ++ [((pDateV T n r : Nat) : Int)]).map (fun d => (2, d.toNat))) (pNext T n (l.length + 1) (pDup (pDate T n) (fun r => ((pDateV T n r : Nat) : Int)) l r)) := by
      have e : C ++ (l ++ [((pDateV T n r : Nat) : Int)]).map (fun d => (2, d.toNat)) = C ++ l.map (fun d => (2, d.toNat)) ++ [(2, pDateV T n r)] := by
        rw [List.map_append, List.append_assoc]; rfl
      rw [e]
      refine cKd_K hb (d4 (pNext T n (l.length + 1) (pDup (pDate T n) (fun r => ((pDateV T n r : Nat) : Int)) l r)) (pDateV T n r) (fun q => ?_)) c2 id
      have q1 := (pDup_ok (pNext_ok q)).1
      have := pDate_r q1
      exact ⟨pDate_ok q1, a4 q1, by omega⟩
    have hbd2 : pOk (pDup (pDate T n) (fun r => ((pDateV T n r : Nat) : Int)) l r) = true → ∀ y, y ∈ l ++ [((pDateV T n r : Nat) : Int)] → 0 ≤ y ∧ y < 14610 := by
      intro q y hy
      rcases List.mem_append.mp hy with z | z
      · exact hbd y z
      · rw [List.mem_singleton.mp z]
        have := pDate_r (pDup_ok q).1
        omega
    have hrw4 : pOk (pDup (pDate T n) (fun r => ((pDateV T n r : Nat) : Int)) l r) = true → rw8 I4 (l ++ [((pDateV T n r : Nat) : Int)]) := by
      intro q
      have := (b4 q).1
      unfold rw8 at this ⊢
      rw [c2.1 55 1 (by decide), d3 55 1 (by omega) (by omega)]
      refine ⟨this.1, this.2.1, fun j hj => ?_⟩
      rw [c2.1 56 j (by decide), d3 56 j (by omega) (by omega)]; exact this.2.2 j hj
    have eP : pRow T n (pDate T n) (fun r => ((pDateV T n r : Nat) : Int)) (f + 1) l r = if pMore T n (l.length + 1) (pDup (pDate T n) (fun r => ((pDateV T n r : Nat) : Int)) l r) = true then pRow T n (pDate T n) (fun r => ((pDateV T n r : Nat) : Int)) f (l ++ [((pDateV T n r : Nat) : Int)]) (pNext T n (l.length + 1) (pDup (pDate T n) (fun r => ((pDateV T n r : Nat) : Int)) l r)) else (l ++ [((pDateV T n r : Nat) : Int)], pNext T n (l.length + 1) (pDup (pDate T n) (fun r => ((pDateV T n r : Nat) : Int)) l r)) := rfl
    rw [eP]
    cases hm : pMore T n (l.length + 1) (pDup (pDate T n) (fun r => ((pDateV T n r : Nat) : Int)) l r) with
    | false =>
      rw [if_pos tf_f, if_neg (by decide)]
      exact ⟨I4, rfl, fr4, c3, hK4⟩
    | true =>
      rw [if_neg (show ¬ tf true = 0 by decide), if_pos rfl]
      have hok : pOk (pDup (pDate T n) (fun r => ((pDateV T n r : Nat) : Int)) l r) = true := by
        cases hq : pDup (pDate T n) (fun r => ((pDateV T n r : Nat) : Int)) l r with
        | error e => rw [hq] at hm; cases hm
        | ok s => rfl
      have hlt : l.length + 1 < 8 := by
        unfold pMore at hm
        rw [Bool.and_eq_true, decide_eq_true_eq] at hm
        exact hm.2
      obtain ⟨I5, e1, e2, e3, e4⟩ := ih fu (l ++ [((pDateV T n r : Nat) : Int)]) I4 (pNext T n (l.length + 1) (pDup (pDate T n) (fun r => ((pDateV T n r : Nat) : Int)) l r)) k2 C (by rw [len_snoc]; omega) (by rw [len_snoc]; omega) (by omega) (cX_K h3 c2) c3 (fun _ => hrw4 hok) (hbd2 hok) b5 (by rw [c2.1 55 1 (by decide)]; exact s3) hK4
      rw [len_snoc] at e1
      refine ⟨I5, ?_, frE_t fr4 e2, e3, e4⟩
      rw [aL]
      exact e1
theorem cRd_days (hb : isBk b) (hv : v.2.2.2.1 = b) : cRd X J v T n b k nR nS nm (fX6_daysText 53) (fun r => (daysC (pDayRow T n r).1, (pDayRow T n r).2)) := by
  intro I r C h hr hN hK
  have hb0 := bk_r hb
  unfold fX6_daysText
  simp only [bO, o53R, hv, bk_c hb]
  obtain ⟨I1, d1, d2, d3, d4⟩ := c_app (X := X) (J := J) (v := v) (op := 1) (x := 0) hb hK (by decide)
  have d1' : fX1_append b 1 0 (mkS X I J v) = some ((), mkS X I1 J v) := d1
  rw [d1']
  simp only [bO, o53R, row_c isRow55, row_clear isRow55]
  have fr : frW I1 (gup I1 55 1 0) := ⟨fun r k a b c => gup_r b, gup_r (by decide)⟩
  have hK1 : cKd I1 b k (C ++ [(1, 0)]) r := d4 r 0 (fun q => ⟨q, rfl, by decide⟩)
  obtain ⟨I2, a1, a2, a3, a4⟩ := c_daysTL (X := X) (J := J) (v := v) (T := T) (n := n) (b := b) (k := k) hb hv 8 20000 [] (gup I1 55 1 0) r 0 (C ++ [(1, 0)]) rfl (by decide) (by decide) (cX_W (cX_E hb h d2) fr) (cO_W hr (fun j => by rw [gup_r (by decide), d3 53 j (by omega) (by omega)])) (fun _ => ⟨gup_s, by decide, fun j hj => absurd hj (Nat.not_lt_zero j)⟩) (fun y hy => by cases hy) (by decide) gup_s (by rw [List.map_nil, List.append_nil]; exact cKd_W hb hK1 fr id)
  refine ⟨I2, a1, frE_t d2 (frE_t (frE_W hb fr) a2), a3, ?_⟩
  show cKd I2 b k (C ++ trL (daysC (pDayRow T n r).1)) (pDayRow T n r).2
  rw [trL_days (show (pDayRow T n r).1 ≠ [] from pRow_ne (Or.inl (by decide)))]
  rw [List.append_assoc] at a4
  exact a4
theorem cRd_first {fS : Nat → Int32 → gH → Option (Unit × gH)} {S : PS → List (Nat × Nat) × PS} {d : Nat} (hb : isBk b) (hv : v.2.2.2.1 = b) (hd : d ≤ 6) (hS : 1 ≤ d → cRd X J v T n b k nR nS nm (fS 53 (iZ ((7 - d : Nat) : Int))) S) : cRd X J v T n b k nR nS nm (fX6_firstText fS 53 (iZ ((6 - d : Nat) : Int))) (pFs1 T n nR nS nm S d) := by
  intro I r C h hr hN hK
  have hb0 := bk_r hb
  have hs : fX6_isSign 53 40 (mkS X I J v) = some (tf (pSign T n 40 r), mkS X I J v) := c_isSign (c := 40) (by decide) rfl rfl h hr
  unfold fX6_firstText pFs1
  simp only [bO, o53, hs]
  cases hp : pSign T n 40 r with
  | true =>
    rw [if_neg (show ¬ tf true = 0 by decide), if_pos rfl]
    by_cases c : d = 0
    · subst c
      rw [if_neg (by rw [cL_lt (by omega) (by omega) (by decide)]; omega), if_pos rfl]
      obtain ⟨I1, a1, a2, a3⟩ := c_refuseS (X := X) (J := J) (v := v) (f := 5) (by decide) (by decide) hr
      rw [show (5 : Int32) = iZ ((5 : Nat) : Int) from rfl, a1]
      exact ⟨I1, rfl, frE_K hb a2, a3, cKd_e (cKd_K hb hK a2 id) pNot_ok⟩
    · rw [if_pos (by rw [cL_lt (by omega) (by omega) (by decide)]; omega), if_neg c]
      obtain ⟨I1, a1, a2, a3⟩ := c_adv (X := X) (J := J) h hr
      rw [if_neg (show ¬ tf true = 0 by decide), a1, gb2_some]
      simp only [o53]
      have h1 := cX_K h a2
      obtain ⟨I2, b1, b2, b3, b4⟩ := hS (by omega) I1 (pAdv T n r) C h1 a3 (cNm_K hb hN a2) (cKd_K hb hK a2 (fun q => by rw [pAdv_ok] at q; exact q))
      rw [aL, show ((6 - d : Nat) : Int) + 1 = ((7 - d : Nat) : Int) by omega, b1, gb2_some]
      simp only [o53]
      have h2 := cX_E hb h1 b2
      have hs2 : fX6_isSign 53 41 (mkS X I2 J v) = some (tf (pSign T n 41 (S (pAdv T n r)).2), mkS X I2 J v) := c_isSign (c := 41) (by decide) rfl rfl h2 b3
      rw [hs2, gb2_some]
      simp only [o53]
      obtain ⟨I3, c1, c2, c3⟩ := c_pass (X := X) (J := J) (b := pSign T n 41 (S (pAdv T n r)).2) h2 b3
      rw [c1]
      exact ⟨I3, rfl, frE_t (frE_K hb a2) (frE_t b2 (frE_K hb c2)), c3, cKd_K hb b4 c2 (fun q => (pPass_ok q).2)⟩
  | false =>
    simp only [if_pos tf_f, if_neg (show ¬ false = true by decide)]
    have hw : fX6_isWord 53 9 (mkS X I J v) = some (tf (pOw T n r == ((28 : Nat) : Int)), mkS X I J v) := c_isWord h hr isWdT.2.2.2.2.2.1
    simp only [bO, hw, o53]
    by_cases c : pOw T n r = 28
    · rw [show (pOw T n r == ((28 : Nat) : Int)) = true from by simpa using c, if_neg (show ¬ tf true = 0 by decide), if_pos c]
      obtain ⟨I1, a1, a2, a3⟩ := c_adv (X := X) (J := J) h hr
      rw [a1, gb2_some]
      simp only [o53]
      obtain ⟨I2, b1, b2, b3, b4⟩ := cRd_days (X := X) (J := J) (v := v) (T := T) (n := n) (nR := nR) (nS := nS) (nm := nm) (k := k) hb hv I1 (pAdv T n r) C (cX_K h a2) a3 (cNm_K hb hN a2) (cKd_K hb hK a2 (fun q => by rw [pAdv_ok] at q; exact q))
      rw [b1]
      exact ⟨I2, rfl, frE_t (frE_K hb a2) b2, b3, b4⟩
    · rw [show (pOw T n r == ((28 : Nat) : Int)) = false from by simpa using c, if_pos tf_f, if_neg c]
      simp only [bO, o53R, hv]
      obtain ⟨I1, x, a1, a2, a3, a4, a5⟩ := c_knownName (X := X) (J := J) hb hv h hr hN
      rw [a1, gb2_some, bk_c hb]
      obtain ⟨I2, d1, d2, d3, d4⟩ := c_app (X := X) (J := J) (v := v) (op := 0) (x := iZ x) hb (cKd_K hb hK a3 id) (by decide)
      have d1' : fX1_append b 0 (iZ x) (mkS X I1 J v) = some ((), mkS X I2 J v) := d1
      rw [d1']
      refine ⟨I2, rfl, frE_t (frE_K hb a3) d2, cO_W a4 (fun j => d3 53 j (by omega) (by omega)), ?_⟩
      exact d4 (pKnown T n nR nS nm r) (pFind nR nS nm (pNameV T n r)).toNat (fun q => by
        have h5 := a5 q
        have h6 := (pKnown_ok q).2.2.2
        have h7 := pFind_r nR nS nm (pNameV T n r)
        exact ⟨(pKnown_ok q).1, by congr 1; omega, by omega⟩)
theorem cRd_mov {fS : Nat → Int32 → gH → Option (Unit × gH)} (hb : isBk b) (hv : v.2.2.2.1 = b) : ∀ (m i fuel : Nat), i + m = 1600 → m < fuel → cRd X J v T n b k nR nS nm (gX6_oneText_L7 fS 53 fuel (iZ (i : Int))) (pMov T n nR nS nm m) := by
  have hb0 := bk_r hb
  intro m
  induction m with
  | zero =>
    intro i fuel hi hf I r C h hr hN hK
    obtain ⟨f, rfl⟩ : ∃ n, fuel = n + 1 := ⟨fuel - 1, by omega⟩
    refine ⟨I, ?_, frE_r b k I, hr, ?_⟩
    · unfold gX6_oneText_L7
      rw [if_neg (by rw [cL_lt (by omega) (by omega) (by decide)]; omega)]
    · show cKd I b k (C ++ []) r
      rw [List.append_nil]; exact hK
  | succ m ih =>
    intro i fuel hi hf I r C h hr hN hK
    obtain ⟨f, rfl⟩ : ∃ n, fuel = n + 1 := ⟨fuel - 1, by omega⟩
    have w25 : fX6_isWord 53 10 (mkS X I J v) = some (tf (pOw T n r == ((25 : Nat) : Int)), mkS X I J v) := c_isWord h hr isWdT.2.2.2.2.2.2.1
    have w26 : fX6_isWord 53 11 (mkS X I J v) = some (tf (pOw T n r == ((26 : Nat) : Int)), mkS X I J v) := c_isWord h hr isWdT.2.2.2.2.2.2.2.1
    have w27 : fX6_isWord 53 12 (mkS X I J v) = some (tf (pOw T n r == ((27 : Nat) : Int)), mkS X I J v) := c_isWord h hr isWdT.2.2.2.2.2.2.2.2.1
    unfold gX6_oneText_L7
    rw [if_pos (by rw [cL_lt (by omega) (by omega) (by decide)]; omega)]
    simp only [bO, o53, w25, w26, w27, aL]
    show ∃ I', _ ∧ _ ∧ cO I' T n (if 25 ≤ pOw T n r ∧ pOw T n r ≤ 27 then (((pOw T n r).toNat - 19, pMvV T n nR nS nm r) :: (pMov T n nR nS nm m (pMv T n nR nS nm r)).1, (pMov T n nR nS nm m (pMv T n nR nS nm r)).2) else ([], r)).2 ∧ cKd I' b k (C ++ trL (if 25 ≤ pOw T n r ∧ pOw T n r ≤ 27 then (((pOw T n r).toNat - 19, pMvV T n nR nS nm r) :: (pMov T n nR nS nm m (pMv T n nR nS nm r)).1, (pMov T n nR nS nm m (pMv T n nR nS nm r)).2) else ([], r)).1) (if 25 ≤ pOw T n r ∧ pOw T n r ≤ 27 then (((pOw T n r).toNat - 19, pMvV T n nR nS nm r) :: (pMov T n nR nS nm m (pMv T n nR nS nm r)).1, (pMov T n nR nS nm m (pMv T n nR nS nm r)).2) else ([], r)).2
    obtain ⟨I1, a1, a2, a3⟩ := c_adv (X := X) (J := J) h hr
    have h1 := cX_K h a2
    have N1 := cNm_K hb hN a2
    have okr : pOk (pMv T n nR nS nm r) = true → pOk r = true := by
      intro q
      unfold pMv at q
      split at q
      · have := (pKnown_ok q).1
        rw [pAdv_ok] at this; exact this
      · have := (pNum_ok q).1
        rw [pAdv_ok] at this; exact this
    -- one that is told
    have go : ∀ (op : Nat) (x : Int32) (I2 : Nat → Nat → Int32), op = (pOw T n r).toNat - 19 → op < 16 → op ≠ 1 → frK I1 I2 → cO I2 T n (pMv T n nR nS nm r) → (pOk (pMv T n nR nS nm r) = true → x = iZ (pMvV T n nR nS nm r : Nat) ∧ pMvV T n nR nS nm r < 16384) → ∃ I', (gb2 (fX1_append b (iZ (op : Int)) x (mkS X I2 J v)) fun _ s23 => gX6_oneText_L7 fS 53 f (iZ ((i : Int) + 1)) s23) = some ((), mkS X I' J v) ∧ frE b k I I' ∧ cO I' T n (pMov T n nR nS nm m (pMv T n nR nS nm r)).2 ∧ cKd I' b k (C ++ trL (((pOw T n r).toNat - 19, pMvV T n nR nS nm r) :: (pMov T n nR nS nm m (pMv T n nR nS nm r)).1)) (pMov T n nR nS nm m (pMv T n nR nS nm r)).2 := by
      intro op x I2 e1 e2 e3 f2 o2 hx
      have f12 := frK_t a2 f2
      obtain ⟨I3, d1, d2, d3, d4⟩ := c_app (X := X) (J := J) (v := v) (op := op) (x := x) hb (cKd_K hb hK f12 id) e2
      rw [d1, gb2_some]
      have h3 := cX_E hb (cX_K h1 f2) d2
      obtain ⟨I4, g1, g2, g3, g4⟩ := ih (i + 1) f (by omega) (by omega) I3 (pMv T n nR nS nm r) (C ++ [(op, pMvV T n nR nS nm r)]) h3 (cO_W o2 (fun j => d3 53 j (by omega) (by omega))) (cNm_E hb (cNm_K hb N1 f2) d2) (d4 _ _ (fun q => ⟨okr q, hx q⟩))
      refine ⟨I4, g1, frE_t (frE_K hb f12) (frE_t d2 g2), g3, ?_⟩
      rw [trL_cons, ← e1]
      have et : tr (op, pMvV T n nR nS nm r) = [(op, pMvV T n nR nS nm r)] := by unfold tr; rw [if_neg e3]
      rw [et, ← List.append_assoc]
      exact g4
    have hk : cO I1 T n (pAdv T n r) := a3
    have mvNum : (¬ pOw T n r = 27) → ∀ op : Nat, op = (pOw T n r).toNat - 19 → op < 16 → op ≠ 1 → ∃ I', (gb2 (fX6_number 53 1 99 (mkS X I1 J v)) fun r27 s28 => gb2 (gcv s28 b 1 (fX1_append b (iZ (op : Int)) r27 s28)) fun _ s23 => gX6_oneText_L7 fS 53 f (iZ ((i : Int) + 1)) s23) = some ((), mkS X I' J v) ∧ frE b k I I' ∧ cO I' T n (pMov T n nR nS nm m (pMv T n nR nS nm r)).2 ∧ cKd I' b k (C ++ trL (((pOw T n r).toNat - 19, pMvV T n nR nS nm r) :: (pMov T n nR nS nm m (pMv T n nR nS nm r)).1)) (pMov T n nR nS nm m (pMv T n nR nS nm r)).2 := by
      intro c op e1 e2 e3
      obtain ⟨I2, x, b1, b2, b3, b4⟩ := c_number (X := X) (J := J) (lo := 1) (hi := 99) (by decide) (by decide) h1 hk
      have b1' : fX6_number 53 1 99 (mkS X I1 J v) = some (x, mkS X I2 J v) := b1
      rw [b1', gb2_some]
      simp only [bk_c hb]
      have em : pMv T n nR nS nm r = pNum T n 1 99 (pAdv T n r) := by unfold pMv; rw [if_neg c]
      have ev : pMvV T n nR nS nm r = pNumV T n (pAdv T n r) := by unfold pMvV; rw [if_neg c]
      refine go op x I2 e1 e2 e3 b2 (by rw [em]; exact b3) (fun q => ?_)
      rw [em] at q
      rw [ev]
      have := pNum_ok q
      exact ⟨b4 q, by omega⟩
    by_cases c5 : pOw T n r = 25
    · rw [show (pOw T n r == ((25 : Nat) : Int)) = true from by simpa using c5]
      simp only [if_neg (show ¬ tf true = 0 by decide), if_pos (show 25 ≤ pOw T n r ∧ pOw T n r ≤ 27 by omega)]
      rw [a1]
      simp only [bO, o53R, hv, if_neg (show ¬ (6 : Int32) = 8 by decide), o53]
      exact mvNum (by omega) 6 (by omega) (by decide) (by decide)
    · rw [show (pOw T n r == ((25 : Nat) : Int)) = false from by simpa using c5]
      simp only [if_pos tf_f]
      by_cases c6 : pOw T n r = 26
      · rw [show (pOw T n r == ((26 : Nat) : Int)) = true from by simpa using c6]
        simp only [if_neg (show ¬ tf true = 0 by decide), if_pos (show 25 ≤ pOw T n r ∧ pOw T n r ≤ 27 by omega)]
        rw [a1]
        simp only [bO, o53R, hv, if_neg (show ¬ (7 : Int32) = 8 by decide), o53]
        exact mvNum (by omega) 7 (by omega) (by decide) (by decide)
      · rw [show (pOw T n r == ((26 : Nat) : Int)) = false from by simpa using c6]
        simp only [if_pos tf_f]
        by_cases c7 : pOw T n r = 27
        · rw [show (pOw T n r == ((27 : Nat) : Int)) = true from by simpa using c7]
          simp only [if_neg (show ¬ tf true = 0 by decide), if_pos (show 25 ≤ pOw T n r ∧ pOw T n r ≤ 27 by omega)]
          rw [a1]
          simp only [bO, o53R, hv, o53]
          rw [if_pos trivial]
          obtain ⟨I2, x, b1, b2, b3, b4, b5⟩ := c_knownName (X := X) (J := J) hb hv h1 hk N1
          rw [b1]
          simp only [bO, bk_c hb]
          have em : pMv T n nR nS nm r = pKnown T n nR nS nm (pAdv T n r) := by unfold pMv; rw [if_pos c7]
          have ev : pMvV T n nR nS nm r = (pFind nR nS nm (pNameV T n (pAdv T n r))).toNat := by unfold pMvV; rw [if_pos c7]
          refine go 8 (iZ x) I2 (by omega) (by decide) (by decide) b3 (by rw [em]; exact b4) (fun q => ?_)
          rw [em] at q
          rw [ev]
          have h5 := b5 q
          have h6 := (pKnown_ok q).2.2.2
          have h7 := pFind_r nR nS nm (pNameV T n (pAdv T n r))
          exact ⟨by congr 1; omega, by omega⟩
        · rw [show (pOw T n r == ((27 : Nat) : Int)) = false from by simpa using c7]
          simp only [if_pos tf_f, if_neg (show ¬ (25 ≤ pOw T n r ∧ pOw T n r ≤ 27) by omega)]
          refine ⟨I, rfl, frE_r b k I, hr, ?_⟩
          show cKd I b k (C ++ []) r
          rw [List.append_nil]; exact hK
theorem cRd_one {fS : Nat → Int32 → gH → Option (Unit × gH)} {S : PS → List (Nat × Nat) × PS} {d : Nat} (hb : isBk b) (hv : v.2.2.2.1 = b) (hd : d ≤ 6) (hS : 1 ≤ d → cRd X J v T n b k nR nS nm (fS 53 (iZ ((7 - d : Nat) : Int))) S) : cRd X J v T n b k nR nS nm (fX6_oneText fS 53 (iZ ((6 - d : Nat) : Int))) (pOne T n nR nS nm S d) := by
  intro I r C h hr hN hK
  unfold fX6_oneText
  simp only [o53]
  obtain ⟨I1, a1, a2, a3, a4⟩ := cRd_first hb hv hd hS I r C h hr hN hK
  rw [a1, gb2_some]
  obtain ⟨I2, b1, b2, b3, b4⟩ := cRd_mov (X := X) (J := J) (v := v) (T := T) (n := n) (k := k) (nR := nR) (nS := nS) (nm := nm) (fS := fS) hb hv 1600 0 20000 (by decide) (by decide) I1 _ _ (cX_E hb h a2) a3 (cNm_E hb hN a2) a4
  refine ⟨I2, b1, frE_t a2 b2, b3, ?_⟩
  unfold pOne
  dsimp only
  rw [trL_app, ← List.append_assoc]
  exact b4
theorem cRd_lp {F : gH → Option (Unit × gH)} {P : PS → List (Nat × Nat) × PS} {lo hi : Nat} (hb : isBk b) (hv : v.2.2.2.1 = b) (hP : ∀ r, pOk (P r).2 = true → pOk r = true) (hF : cRd X J v T n b k nR nS nm F P) (G : Nat → Int32 → gH → Option (Unit × gH)) (h1 : 21 ≤ lo) (h2 : hi ≤ 24)
    (hG : ∀ (f i : Nat) (I : Nat → Nat → Int32) (r : PS), i ≤ 1600 → cX I v T n → cO I T n r → G (f + 1) (iZ (i : Int)) (mkS X I J v) = if i < 1600 ∧ (lo : Int) ≤ pOw T n r ∧ pOw T n r ≤ hi then (gb2 (fX6_advance 53 (mkS X I J v)) fun _ s13 => gb2 (gcv s13 53 6 (F s13)) fun _ s17 => (ggR s17 53 6 7).bind fun v18 => gb2 (gcv s17 v18 1 (fX1_append v18 (iZ (((pOw T n r).toNat - 19 : Nat) : Int)) 0 s17)) fun _ s20 => G f (iZ ((i + 1 : Nat) : Int)) s20) else some ((), mkS X I J v)) : ∀ (m i fuel : Nat), i + m = 1600 → m < fuel → cRd X J v T n b k nR nS nm (G fuel (iZ (i : Int))) (pLp T n lo hi P m) := by
  have hb0 := bk_r hb
  intro m
  induction m with
  | zero =>
    intro i fuel hi' hf I r C h hr hN hK
    obtain ⟨f, rfl⟩ : ∃ n, fuel = n + 1 := ⟨fuel - 1, by omega⟩
    refine ⟨I, ?_, frE_r b k I, hr, ?_⟩
    · rw [hG f i I r (by omega) h hr, if_neg (by omega)]
    · show cKd I b k (C ++ []) r
      rw [List.append_nil]; exact hK
  | succ m ih =>
    intro i fuel hi' hf I r C h hr hN hK
    obtain ⟨f, rfl⟩ : ∃ n, fuel = n + 1 := ⟨fuel - 1, by omega⟩
    rw [hG f i I r (by omega) h hr]
    show ∃ I', _ ∧ _ ∧ cO I' T n (if (lo : Int) ≤ pOw T n r ∧ pOw T n r ≤ hi then ((P (pAdv T n r)).1 ++ ((pOw T n r).toNat - 19, 0) :: (pLp T n lo hi P m (P (pAdv T n r)).2).1, (pLp T n lo hi P m (P (pAdv T n r)).2).2) else ([], r)).2 ∧ cKd I' b k (C ++ trL (if (lo : Int) ≤ pOw T n r ∧ pOw T n r ≤ hi then ((P (pAdv T n r)).1 ++ ((pOw T n r).toNat - 19, 0) :: (pLp T n lo hi P m (P (pAdv T n r)).2).1, (pLp T n lo hi P m (P (pAdv T n r)).2).2) else ([], r)).1) (if (lo : Int) ≤ pOw T n r ∧ pOw T n r ≤ hi then ((P (pAdv T n r)).1 ++ ((pOw T n r).toNat - 19, 0) :: (pLp T n lo hi P m (P (pAdv T n r)).2).1, (pLp T n lo hi P m (P (pAdv T n r)).2).2) else ([], r)).2
    by_cases c : (lo : Int) ≤ pOw T n r ∧ pOw T n r ≤ hi
    · simp only [if_pos c]
      rw [if_pos (show i < 1600 ∧ (lo : Int) ≤ pOw T n r ∧ pOw T n r ≤ hi from ⟨by omega, c⟩)]
      obtain ⟨I1, a1, a2, a3⟩ := c_adv (X := X) (J := J) h hr
      rw [a1, gb2_some]
      simp only [o53]
      have h1' := cX_K h a2
      obtain ⟨I2, b1, b2, b3, b4⟩ := hF I1 (pAdv T n r) C h1' a3 (cNm_K hb hN a2) (cKd_K hb hK a2 (fun q => by rw [pAdv_ok] at q; exact q))
      rw [b1, gb2_some]
      simp only [bO, o53R, hv, bk_c hb]
      obtain ⟨I3, d1, d2, d3, d4⟩ := c_app (X := X) (J := J) (v := v) (op := (pOw T n r).toNat - 19) (x := 0) hb b4 (by omega)
      rw [d1, gb2_some]
      have h2' := cX_E hb h1' b2
      obtain ⟨I4, g1, g2, g3, g4⟩ := ih (i + 1) f (by omega) (by omega) I3 (P (pAdv T n r)).2 _ (cX_E hb h2' d2) (cO_W b3 (fun j => d3 53 j (by omega) (by omega))) (cNm_E hb (cNm_E hb (cNm_K hb hN a2) b2) d2) (d4 _ 0 (fun q => ⟨q, rfl, by decide⟩))
      refine ⟨I4, g1, frE_t (frE_K hb a2) (frE_t b2 (frE_t d2 g2)), g3, ?_⟩
      rw [trL_app, trL_cons]
      have et : tr ((pOw T n r).toNat - 19, 0) = [((pOw T n r).toNat - 19, 0)] := by unfold tr; rw [if_neg (by dsimp only; omega)]
      rw [et, ← List.append_assoc, ← List.append_assoc]
      exact g4
    · simp only [if_neg c]
      rw [if_neg (fun q => c q.2)]
      refine ⟨I, rfl, frE_r b k I, hr, ?_⟩
      show cKd I b k (C ++ []) r
      rw [List.append_nil]; exact hK
theorem cRd_both {fS : Nat → Int32 → gH → Option (Unit × gH)} {S : PS → List (Nat × Nat) × PS} {d : Nat} (hb : isBk b) (hv : v.2.2.2.1 = b) (hd : d ≤ 6) (hS : 1 ≤ d → cRd X J v T n b k nR nS nm (fS 53 (iZ ((7 - d : Nat) : Int))) S) : cRd X J v T n b k nR nS nm (fX6_bothText fS 53 (iZ ((6 - d : Nat) : Int))) (pBoth T n nR nS nm S d) := by
  intro I r C h hr hN hK
  unfold fX6_bothText
  simp only [o53]
  obtain ⟨I1, a1, a2, a3, a4⟩ := cRd_one hb hv hd hS I r C h hr hN hK
  rw [a1, gb2_some]
  have hG : ∀ (f i : Nat) (I : Nat → Nat → Int32) (r : PS), i ≤ 1600 → cX I v T n → cO I T n r → gX6_bothText_L7 fS 53 (iZ ((6 - d : Nat) : Int)) (f + 1) (iZ (i : Int)) (mkS X I J v) = if i < 1600 ∧ ((23 : Nat) : Int) ≤ pOw T n r ∧ pOw T n r ≤ ((24 : Nat) : Int) then (gb2 (fX6_advance 53 (mkS X I J v)) fun _ s13 => gb2 (gcv s13 53 6 (fX6_oneText fS 53 (iZ ((6 - d : Nat) : Int)) s13)) fun _ s17 => (ggR s17 53 6 7).bind fun v18 => gb2 (gcv s17 v18 1 (fX1_append v18 (iZ (((pOw T n r).toNat - 19 : Nat) : Int)) 0 s17)) fun _ s20 => gX6_bothText_L7 fS 53 (iZ ((6 - d : Nat) : Int)) f (iZ ((i + 1 : Nat) : Int)) s20) else some ((), mkS X I J v) := by
    intro f i I r hi h hr
    have w23 : fX6_isWord 53 13 (mkS X I J v) = some (tf (pOw T n r == ((23 : Nat) : Int)), mkS X I J v) := c_isWord h hr isWdT.2.2.2.2.2.2.2.2.2.1
    have w24 : fX6_isWord 53 14 (mkS X I J v) = some (tf (pOw T n r == ((24 : Nat) : Int)), mkS X I J v) := c_isWord h hr isWdT.2.2.2.2.2.2.2.2.2.2.1
    conv => lhs; unfold gX6_bothText_L7
    by_cases ci : i < 1600
    · rw [if_pos (by rw [cL_lt (by omega) (by omega) (by decide)]; omega)]
      simp only [bO, o53, w23, w24, aL]
      rw [show (i : Int) + 1 = ((i + 1 : Nat) : Int) by omega]
      by_cases c3 : pOw T n r = 23
      · rw [show (pOw T n r == ((23 : Nat) : Int)) = true from by simpa using c3, if_pos (show i < 1600 ∧ ((23 : Nat) : Int) ≤ pOw T n r ∧ pOw T n r ≤ ((24 : Nat) : Int) by omega)]
        simp only [if_neg (show ¬ tf true = 0 by decide)]
        rw [c3]; rfl
      · rw [show (pOw T n r == ((23 : Nat) : Int)) = false from by simpa using c3]
        simp only [if_pos tf_f]
        by_cases c4 : pOw T n r = 24
        · rw [show (pOw T n r == ((24 : Nat) : Int)) = true from by simpa using c4, if_pos (show i < 1600 ∧ ((23 : Nat) : Int) ≤ pOw T n r ∧ pOw T n r ≤ ((24 : Nat) : Int) by omega)]
          simp only [if_neg (show ¬ tf true = 0 by decide)]
          rw [c4]; rfl
        · rw [show (pOw T n r == ((24 : Nat) : Int)) = false from by simpa using c4, if_neg (show ¬ (i < 1600 ∧ ((23 : Nat) : Int) ≤ pOw T n r ∧ pOw T n r ≤ ((24 : Nat) : Int)) by omega), if_pos tf_f]
    · rw [if_neg (by rw [cL_lt (by omega) (by omega) (by decide)]; omega), if_neg (fun q => ci q.1)]
  obtain ⟨I2, b1, b2, b3, b4⟩ := cRd_lp (X := X) (J := J) (v := v) (T := T) (n := n) (k := k) (nR := nR) (nS := nS) (nm := nm) (lo := 23) (hi := 24) hb hv (fun _ => pOne_ok) (cRd_one hb hv hd hS) (gX6_bothText_L7 fS 53 (iZ ((6 - d : Nat) : Int))) (by decide) (by decide) hG 1600 0 20000 (by decide) (by decide) I1 _ _ (cX_E hb h a2) a3 (cNm_E hb hN a2) a4
  refine ⟨I2, b1, frE_t a2 b2, b3, ?_⟩
  unfold pBoth
  dsimp only
  rw [trL_app, ← List.append_assoc]
  exact b4
theorem cRd_sumB {fS : Nat → Int32 → gH → Option (Unit × gH)} {S : PS → List (Nat × Nat) × PS} {d : Nat} (hb : isBk b) (hv : v.2.2.2.1 = b) (hd : d ≤ 6) (hS : 1 ≤ d → cRd X J v T n b k nR nS nm (fS 53 (iZ ((7 - d : Nat) : Int))) S) : cRd X J v T n b k nR nS nm (fX6_sumText fS 53 (iZ ((6 - d : Nat) : Int))) (pSumB T n nR nS nm S d) := by
  intro I r C h hr hN hK
  unfold fX6_sumText
  simp only [o53]
  obtain ⟨I1, a1, a2, a3, a4⟩ := cRd_both hb hv hd hS I r C h hr hN hK
  rw [a1, gb2_some]
  have hG : ∀ (f i : Nat) (I : Nat → Nat → Int32) (r : PS), i ≤ 1600 → cX I v T n → cO I T n r → gX6_sumText_L7 fS 53 (iZ ((6 - d : Nat) : Int)) (f + 1) (iZ (i : Int)) (mkS X I J v) = if i < 1600 ∧ ((22 : Nat) : Int) ≤ pOw T n r ∧ pOw T n r ≤ ((22 : Nat) : Int) then (gb2 (fX6_advance 53 (mkS X I J v)) fun _ s13 => gb2 (gcv s13 53 6 (fX6_bothText fS 53 (iZ ((6 - d : Nat) : Int)) s13)) fun _ s17 => (ggR s17 53 6 7).bind fun v18 => gb2 (gcv s17 v18 1 (fX1_append v18 (iZ (((pOw T n r).toNat - 19 : Nat) : Int)) 0 s17)) fun _ s20 => gX6_sumText_L7 fS 53 (iZ ((6 - d : Nat) : Int)) f (iZ ((i + 1 : Nat) : Int)) s20) else some ((), mkS X I J v) := by
    intro f i I r hi h hr
    have w22 : fX6_isWord 53 15 (mkS X I J v) = some (tf (pOw T n r == ((22 : Nat) : Int)), mkS X I J v) := c_isWord h hr isWdT.2.2.2.2.2.2.2.2.2.2.2
    conv => lhs; unfold gX6_sumText_L7
    by_cases ci : i < 1600
    · rw [if_pos (by rw [cL_lt (by omega) (by omega) (by decide)]; omega)]
      simp only [bO, o53, w22, aL]
      rw [show (i : Int) + 1 = ((i + 1 : Nat) : Int) by omega]
      by_cases c3 : pOw T n r = 22
      · rw [show (pOw T n r == ((22 : Nat) : Int)) = true from by simpa using c3, if_pos (show i < 1600 ∧ ((22 : Nat) : Int) ≤ pOw T n r ∧ pOw T n r ≤ ((22 : Nat) : Int) by omega)]
        simp only [if_neg (show ¬ tf true = 0 by decide)]
        rw [c3]; rfl
      · rw [show (pOw T n r == ((22 : Nat) : Int)) = false from by simpa using c3, if_neg (show ¬ (i < 1600 ∧ ((22 : Nat) : Int) ≤ pOw T n r ∧ pOw T n r ≤ ((22 : Nat) : Int)) by omega), if_pos tf_f]
    · rw [if_neg (by rw [cL_lt (by omega) (by omega) (by decide)]; omega), if_neg (fun q => ci q.1)]
  obtain ⟨I2, b1, b2, b3, b4⟩ := cRd_lp (X := X) (J := J) (v := v) (T := T) (n := n) (k := k) (nR := nR) (nS := nS) (nm := nm) (lo := 22) (hi := 22) hb hv (fun _ => pBoth_ok) (cRd_both hb hv hd hS) (gX6_sumText_L7 fS 53 (iZ ((6 - d : Nat) : Int))) (by decide) (by decide) hG 1600 0 20000 (by decide) (by decide) I1 _ _ (cX_E hb h a2) a3 (cNm_E hb hN a2) a4
  refine ⟨I2, b1, frE_t a2 b2, b3, ?_⟩
  unfold pSumB
  dsimp only
  rw [trL_app, ← List.append_assoc]
  exact b4
theorem cRd_sum (hb : isBk b) (hv : v.2.2.2.1 = b) : ∀ d : Nat, d ≤ 6 → cRd X J v T n b k nR nS nm (fX6_sumT (d + 2) 53 (iZ ((6 - d : Nat) : Int))) (pSum T n nR nS nm d) := by
  intro d
  induction d with
  | zero => intro hd; exact cRd_sumB hb hv hd (fun q => by omega)
  | succ d ih =>
    intro hd
    exact cRd_sumB hb hv hd (fun _ => by
      have := ih (by omega)
      rw [show 7 - (d + 1) = 6 - d by omega]
      exact this)
end gSr
