/-! MONTHS and WEEKDAYS of the reference -/
theorem ib_mkI {g : Nat → Int32} {m : Nat} (hm : m < 32) : ∀ {k : Nat}, (∀ j, j < k → ∃ w : Nat, w < 32 ∧ g j = iZ (w : Int)) → (ib (mkI g 0 k) m = true ↔ ∃ j, j < k ∧ g j = iZ (m : Int)) := by
  intro k
  induction k with
  | zero => intro _; exact ⟨(fun h => by rw [show mkI g 0 0 = 0 from rfl, ib_0] at h; cases h), (fun ⟨j, h, _⟩ => absurd h (Nat.not_lt_zero j))⟩
  | succ k ih =>
    intro h
    obtain ⟨w, w1, w2⟩ := h k (by omega)
    show ib (mkI g 0 k ||| (1 <<< (g k &&& 31))) m = true ↔ _
    rw [w2, ib_or w1 hm, Bool.or_eq_true, decide_eq_true_eq, ih (fun j hj => h j (by omega))]
    constructor
    · rintro (⟨j, a, b⟩ | e)
      · exact ⟨j, by omega, b⟩
      · exact ⟨k, by omega, by rw [w2, e]⟩
    · rintro ⟨j, a, b⟩
      by_cases c : j = k
      · right
        rw [c, w2, iZ_eq (by omega) (by omega) (by omega) (by omega)] at b
        omega
      · exact Or.inl ⟨j, by omega, b⟩
section gMi
variable {X : Nat × (Nat → Int32)} {J : Nat → Nat → Int64} {v : Vt} {T : Nat → Nat} {n : Nat}
theorem pMem_0 {u : Int} {r : PS} : pMem T n 0 u r = pNum T n 1 12 r ∧ pMemV T n 0 u r = ((pNumV T n r : Nat) : Int) := ⟨rfl, rfl⟩
theorem m_in {I : Nat → Nat → Int32} {r : PS} {rr : Nat} {u : Int} (hrr : rr < 6) (h : mX I T n) (hr : mO I T n r) (hR : pOk r = true → I 275 (2 + 42 * rr + 4) = 0) : ∃ I', fX12_inTold 267 (iZ (rr : Int)) (mkS X I J v) = some ((), mkS X I' J v) ∧ frN (2 + 42 * rr + 4) (2 + 42 * rr + 5) I I' ∧ mO I' T n (pRow T n (pMem T n 0 u) (pMemV T n 0 u) 8 [] r).2 ∧ (pOk (pRow T n (pMem T n 0 u) (pMemV T n 0 u) 8 [] r).2 = true → I' 275 (2 + 42 * rr + 4) = mkI (fun k => iZ ((pRow T n (pMem T n 0 u) (pMemV T n 0 u) 8 [] r).1.getD k 0)) 0 (pRow T n (pMem T n 0 u) (pMemV T n 0 u) 8 [] r).1.length) := by
  unfold fX12_inTold
  simp only [bO, o267]
  cases r with
  | error e =>
    rw [if_neg (mO_err hr rfl)]
    refine ⟨I, rfl, frN_r _ _ I, ?_, fun q => ?_⟩
    · rw [pRow_er2]; exact hr
    · rw [pRow_er2] at q; cases q
  | ok s =>
    rw [if_pos hr.1]
    have key := m_rowG (X := X) (J := J) (v := v) (T := T) (n := n) (G := fun fu c x s => gX12_inTold_L15 267 (iZ (rr : Int)) fu (iZ (c : Int)) x s) (m := pMem T n 0 u) (mv := pMemV T n 0 u) (R := fun I l => I 275 (2 + 42 * rr + 4) = mkI (fun k => iZ (l.getD k 0)) 0 l.length) (E := fun _ => True) (Q := memR 0) (Fr := frN (2 + 42 * rr + 4) (2 + 42 * rr + 5)) (fun h1 h2 => frN_t h1 h2) (fun h => frN_M h) (fun h1 h2 => mX_N h2 h1) (fun _ h => h) (fun h1 h2 => by rw [h1.1 275 _ (by decide)]; exact h2) (fun r q => pMem_r q) (fun fu c s => by
      show gX12_inTold_L15 267 _ (fu + 1) _ 0 s = _
      unfold gX12_inTold_L15
      rw [if_pos rfl]) ?_ 8 20000 [] I s rfl (by decide) (by decide) h trivial hr (hR rfl) (fun y hy => by cases hy)
    · exact key
    · intro fu I l s h _ hr hRl hl8 hq
      have hlw : ∀ j, j < l.length → ∃ w : Nat, w < 32 ∧ (fun k => iZ (l.getD k 0)) j = iZ (w : Int) := by
        intro j hj
        have := hq _ (mem_get.mpr ⟨j, hj, rfl⟩)
        unfold memR at this
        rw [if_pos rfl] at this
        exact ⟨(l.getD j 0).toNat, by omega, by show iZ (l.getD j 0) = _; congr 1; omega⟩
      show ∃ I2, gX12_inTold_L15 267 (iZ (rr : Int)) (fu + 1) (iZ (l.length : Int)) 1 (mkS X I J v) = (gb2 (fX12_takesSign 267 44 (mkS X I2 J v)) fun r17 s18 => gX12_inTold_L15 267 (iZ (rr : Int)) fu (iZ ((l.length + 1 : Nat) : Int)) r17 s18) ∧ _
      obtain ⟨o, ho⟩ : ∃ o, gX12_inTold_L15 267 (iZ (rr : Int)) (fu + 1) (iZ (l.length : Int)) 1 (mkS X I J v) = o := ⟨_, rfl⟩
      rw [ho]
      conv at ho =>
        lhs
        unfold gX12_inTold_L15
      rw [if_neg (show ¬ (1 : Int32) = 0 by decide)] at ho
      obtain ⟨I1, a1, a2, a3, a4⟩ := m_room (X := X) (J := J) (v := v) hl8 h hr
      have h1 := mX_M h a2
      obtain ⟨I2, x, b1, b2, b3, b4, b5⟩ := m_number (X := X) (J := J) (v := v) (lo := 1) (hi := 12) (by decide) (by decide) h1 a3
      have b1' : fX12_number 267 1 12 (mkS X I1 J v) = some (x, mkS X I2 J v) := b1
      simp only [o267, a1, bO, b1'] at ho
      rw [aL, show ((l.length : Nat) : Int) + 1 = ((l.length + 1 : Nat) : Int) by omega] at ho
      rw [← ho]
      have fr2 := frM_t a2 b2
      have hR2 : I2 275 (2 + 42 * rr + 4) = mkI (fun k => iZ (l.getD k 0)) 0 l.length := by rw [fr2.1 275 _ (by decide)]; exact hRl
      have q4 : ∀ s : gH, fX12_ruleAt (iZ (rr : Int)) 4 s = some (iZ ((2 + 42 * rr + 4 : Nat) : Int), s) := fun s => m_ruleAtn (k := 4)
      by_cases c8 : l.length = 8
      · rw [if_pos c8] at a3 b3
        refine ⟨I2, ?_, frN_M fr2, by rw [if_pos c8]; exact b3, fun q => by omega⟩
        have hE : pOk (pNum T n 1 12 (pNot (if pKd T n (.ok s) = 0 then 1 else 5) (.ok s))) = false := rfl
        rw [if_neg (mO_err b3 hE), if_neg (mO_err b3 hE)]
      · rw [if_neg c8] at a3 b3 b4
        have b3' : mO I2 T n (pMem T n 0 u (.ok s)) := b3
        cases hok : pOk (pMem T n 0 u (.ok s)) with
        | false =>
          have eD : pDup (pMem T n 0 u) (pMemV T n 0 u) l (.ok s) = pMem T n 0 u (.ok s) := by unfold pDup; rw [if_neg (fun q => by rw [hok] at q; cases q.1)]
          refine ⟨I2, ?_, frN_M fr2, by rw [if_neg c8, eD]; exact b3', fun _ q => by rw [eD, hok] at q; cases q⟩
          rw [if_neg (mO_err b3' hok), if_neg (mO_err b3' hok)]
        | true =>
          obtain ⟨hx, hx10⟩ := b4 hok
          have hmr := pMem_r hok
          have hmr' : 1 ≤ ((pNumV T n (.ok s) : Nat) : Int) ∧ ((pNumV T n (.ok s) : Nat) : Int) ≤ 12 := by
            unfold memR at hmr
            rw [if_pos rfl] at hmr
            exact hmr
          have hbit : ib (mkI (fun k => iZ (l.getD k 0)) 0 l.length) (pNumV T n (.ok s)) = true ↔ pMemV T n 0 u (.ok s) ∈ l := by
            rw [ib_mkI (by omega) hlw, mem_get]
            constructor
            · rintro ⟨j, j1, j2⟩
              have := hq _ (mem_get.mpr ⟨j, j1, rfl⟩)
              unfold memR at this
              rw [if_pos rfl] at this
              have j2' : iZ (l.getD j 0) = iZ ((pNumV T n (.ok s) : Nat) : Int) := j2
              rw [iZ_eq (by omega) (by omega) (by omega) (by omega)] at j2'
              exact ⟨j, j1, j2'⟩
            · rintro ⟨j, j1, j2⟩
              exact ⟨j, j1, by show iZ (l.getD j 0) = _; rw [j2]; rfl⟩
          rw [if_pos (mO_ok b3' hok), q4]
          simp only [bO, o267R]
          rw [a275 _ _ _ _ _ (by omega), hR2, hx]
          simp only [bO]
          rw [m_isOf (by omega)]
          simp only [bO, o267, hx10]
          -- the number is laid down
          by_cases cm : pMemV T n 0 u (.ok s) ∈ l
          · have eD : pDup (pMem T n 0 u) (pMemV T n 0 u) l (.ok s) = .error (4, s.1) := by unfold pDup; rw [if_pos ⟨hok, cm⟩]; rfl
            rw [hbit.mpr cm, if_neg (show ¬ tf true = 0 by decide)]
            obtain ⟨I3, c1, c2, c3, -⟩ := m_fail (X := X) (J := J) (v := v) (f := 4) (p := s.1) (by decide) (by decide) b3'
            have c1' : fX12_fail 267 4 (iZ (pAt (.ok s) : Nat)) (mkS X I2 J v) = some ((), mkS X I3 J v) := c1
            rw [c1']
            simp only [bO, o267]
            rw [pFail_ok hok] at c3
            rw [if_neg (mO_err c3 rfl)]
            exact ⟨I3, rfl, frN_M (frM_t fr2 c2), by rw [if_neg c8, eD]; exact c3, fun _ q => by rw [eD] at q; cases q⟩
          · have eD : pDup (pMem T n 0 u) (pMemV T n 0 u) l (.ok s) = pMem T n 0 u (.ok s) := by unfold pDup; rw [if_neg (fun q => cm q.2)]
            have hbf : ib (mkI (fun k => iZ (l.getD k 0)) 0 l.length) (pNumV T n (.ok s)) = false := by
              cases z : ib (mkI (fun k => iZ (l.getD k 0)) 0 l.length) (pNumV T n (.ok s))
              · rfl
              · exact absurd (hbit.mp z) cm
            rw [hbf, if_pos tf_f, if_pos (mO_ok b3' hok), q4]
            simp only [bO, o267R]
            rw [a275 _ _ _ _ _ (by omega), hR2]
            simp only [bO]
            rw [b275 _ _ _ _ _ _ (by omega)]
            simp only [bO, o267, gnar_2]
            refine ⟨_, rfl, frN_t (frN_M fr2) (frN_g (by omega) (by omega)), ?_, fun _ _ => ?_⟩
            · rw [if_neg c8, eD]
              exact mO_7 b3' (fun k _ => gup_r (by decide))
            · rw [gup_s, len_snoc]
              show _ = mkI _ 0 l.length ||| (1 <<< (iZ ((l ++ [pMemV T n 0 u (.ok s)]).getD l.length 0) &&& 31))
              rw [getD_snoc, if_neg (by omega), if_pos rfl]
              congr 1
              exact mkI_congr (fun j hj => by rw [getD_snoc, if_pos hj])
theorem m_weekday {I : Nat → Nat → Int32} {r : PS} (h : mX I T n) (hr : mO I T n r) : ∃ I' x, fX12_weekday 267 (mkS X I J v) = some (x, mkS X I' J v) ∧ frM I I' ∧ mO I' T n (pPass T n (pWk T n r) r) ∧ (pOk (pPass T n (pWk T n r) r) = true → x = iZ (pOw T n r - 4)) := by
  have hn := h.1.1
  have hw := pOw_r T n r
  unfold fX12_weekday
  simp only [o267]
  obtain ⟨I1, a1, a2, a3, a4⟩ := m_ownHere (X := X) (J := J) (v := v) h hr
  have h1 := mX_M h a2
  rw [a1]
  simp only [bO, o267]
  cases r with
  | error e =>
    rw [if_neg (mO_err a3 rfl), if_neg (mO_err a3 rfl)]
    refine ⟨I1, _, rfl, a2, a3, fun q => ?_⟩
    cases q
  | ok s =>
    rw [if_pos a3.1]
    have l4 : (4 : Int64).toInt = 4 := by decide
    have l10 : (10 : Int64).toInt = 10 := by decide
    rw [m_isIn, iZ_l (by omega) (by omega), l4, l10]
    simp only [bO, o267]
    by_cases c : 4 ≤ pOw T n (.ok s) ∧ pOw T n (.ok s) < 11
    · have eW : pWk T n (.ok s) = true := by unfold pWk; rw [decide_eq_true c.1, decide_eq_true c.2]; rfl
      rw [if_pos (show 4 ≤ pOw T n (.ok s) ∧ pOw T n (.ok s) ≤ 10 by omega), if_neg (show ¬ (1 : Int32) = 0 by decide), if_pos a3.1, eW]
      have hk := pKd_ow (T := T) (n := n) (r := .ok s) (by omega)
      obtain ⟨I2, b1, b2, b3, -⟩ := m_passes (X := X) (J := J) (v := v) h1 a3 a4 hk
      rw [b1]
      simp only [bO]
      rw [sL]
      exact ⟨I2, _, rfl, frM_t a2 b2, b3, fun _ => rfl⟩
    · have eW : pWk T n (.ok s) = false := by
        unfold pWk
        by_cases q : 4 ≤ pOw T n (.ok s)
        · rw [decide_eq_false (show ¬ pOw T n (.ok s) < 11 by omega), Bool.and_false]
        · rw [decide_eq_false q]; rfl
      rw [if_neg (show ¬ (4 ≤ pOw T n (.ok s) ∧ pOw T n (.ok s) ≤ 10) by omega), if_pos rfl, eW]
      obtain ⟨b1, b2, b3⟩ := m_look (X := X) (J := J) (v := v) h1 a3
      have h2 := mX_M h1 b3
      rw [b1]
      simp only [bO, o267, h2.2.1, gup_s]
      obtain ⟨I3, c1, c2, c3, -⟩ := m_fail (X := X) (J := J) (v := v) (f := 1) (p := s.1) (by decide) (by decide) b2
      have c1' : fX12_fail 267 1 (iZ (s.1 : Int)) (mkS X (gup I1 267 2 (iZ (s.1 : Int))) J v) = some ((), mkS X I3 J v) := c1
      have hs := a3.2.1
      have fin : (if iZ (pCh T n s) = -1 then iZ (n : Int) else iZ (s.1 : Int)) = iZ (s.1 : Int) := by
        by_cases cn : s.1 < n
        · have hp : pCh T n s = (T s.1 : Int) := by unfold pCh; rw [if_pos cn]
          have := (h.1.2 _ cn).1
          rw [if_neg (by rw [hp, cM_eq (by omega) (by omega)]; omega)]
        · rw [show n = s.1 by omega]; split <;> rfl
      refine ⟨I3, 0, ?_, frM_t a2 (frM_t b3 c2), c3, fun q => by rw [show pOk (pPass T n false (.ok s)) = false from rfl] at q; cases q⟩
      by_cases cn : iZ (pCh T n s) = -1
      · rw [if_pos cn] at fin ⊢
        rw [fin, c1']
        simp only [bO, o267]
        rw [if_neg (mO_err c3 rfl)]
      · rw [if_neg cn, c1']
        simp only [bO, o267]
        rw [if_neg (mO_err c3 rfl)]
end gMi
