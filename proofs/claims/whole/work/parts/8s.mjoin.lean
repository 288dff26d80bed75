/-! MOVES, and what waits -/
def frV (k : Nat) (I I' : Nat → Nat → Int32) : Prop := (∀ r j, r ≠ 267 → r ≠ 277 → r ≠ 279 → r ≠ 280 → I' r j = I r j) ∧ (∀ j, j ≠ 2 → j ≠ 4 → j ≠ 5 → j ≠ 6 → j ≠ 10 → j ≠ 12 → j ≠ 22 → j ≠ 26 → j ≠ 27 → I' 267 j = I 267 j) ∧ ∀ j, j < 2 * k → I' 277 j = I 277 j
theorem frV_r (k : Nat) (I : Nat → Nat → Int32) : frV k I I := ⟨fun _ _ _ _ _ _ => rfl, fun _ _ _ _ _ _ _ _ _ _ => rfl, fun _ _ => rfl⟩
theorem frV_t {k : Nat} {I I' I'' : Nat → Nat → Int32} (h1 : frV k I I') (h2 : frV k I' I'') : frV k I I'' := ⟨fun r j a b c d => (h2.1 r j a b c d).trans (h1.1 r j a b c d), fun j a b c d e f g h i => (h2.2.1 j a b c d e f g h i).trans (h1.2.1 j a b c d e f g h i), fun j a => (h2.2.2 j a).trans (h1.2.2 j a)⟩
theorem frV_5 {k k' : Nat} {I I' : Nat → Nat → Int32} (h : frD5 k' I I') (hk : k ≤ k') : frV k I I' := ⟨fun r j a b _ d => h.1 r j a b d, fun j a b c d e f g _ _ => h.2.1 j a b c d e f g, fun j a => h.2.2 j (by omega)⟩
theorem frV_M {k : Nat} {I I' : Nat → Nat → Int32} (h : frM I I') : frV k I I' := frV_5 (frD5_M (k := k) h) (Nat.le_refl k)
def stK (I : Nat → Nat → Int32) (S : List Nat) : Prop := I 267 26 = iZ (S.length : Int) ∧ ∀ j, j < S.length → I 279 j = iZ (S.getD j 0 : Nat)
def opc (q : Nat) : Nat × Nat := (if q = 3 then 3 else if q = 1 then 4 else 5, 0)
theorem getD_app1 {S : List Nat} {x : Nat} {j : Nat} : (S ++ [x]).getD j 0 = if j < S.length then S.getD j 0 else if j = S.length then x else 0 := by
  rw [List.getD_eq_getElem?_getD, List.getD_eq_getElem?_getD]
  by_cases c : j < S.length
  · rw [if_pos c, List.getElem?_append_left c]
  · rw [if_neg c, List.getElem?_append_right (by omega)]
    by_cases c2 : j = S.length
    · rw [if_pos c2, c2, Nat.sub_self]; rfl
    · rw [if_neg c2, List.getElem?_eq_none (by rw [List.length_singleton]; omega)]; rfl
section gMj
variable {X : Nat × (Nat → Int32)} {J : Nat → Nat → Int64} {v : Vt} {T : Nat → Nat} {n nR nS : Nat} {nm : Nat → List Nat} {k0 : Nat}
theorem mX_V {k : Nat} {I I' : Nat → Nat → Int32} (h : mX I T n) (f : frV k I I') : mX I' T n := ⟨⟨h.1.1, fun k hk => by rw [f.1 268 k (by decide) (by decide) (by decide) (by decide)]; exact h.1.2 k hk⟩, by rw [f.2.1 3 (by decide) (by decide) (by decide) (by decide) (by decide) (by decide) (by decide) (by decide) (by decide)]; exact h.2.1, fun k hk => by rw [f.1 270 k (by decide) (by decide) (by decide) (by decide)]; exact h.2.2 k hk⟩
theorem mCal_V {k : Nat} {I I' : Nat → Nat → Int32} (h : mCal I) (f : frV k I I') : mCal I' := ⟨by rw [f.2.1 17 (by decide) (by decide) (by decide) (by decide) (by decide) (by decide) (by decide) (by decide) (by decide)]; exact h.1, calOK_Y h.2 (fun r k x y => f.1 r k (by omega) (by omega) (by omega) (by omega))⟩
theorem mNm_V {k : Nat} {I I' : Nat → Nat → Int32} (h : mNm I nR nS nm) (f : frV k I I') : mNm I' nR nS nm := mNm_M h (fun j => f.1 275 j (by decide) (by decide) (by decide) (by decide))
theorem m_movesL : ∀ (m i fuel : Nat) (I : Nat → Nat → Int32) (r : PS) (C : List (Nat × Nat)), i + m = 1600 → m + 1 < fuel → mX I T n → mO I T n r → mNm I nR nS nm → (pOk r = true → i ≤ pAt r ∧ cfC I k0 C ∧ 2 * (k0 + C.length) ≤ pAt r) → ∃ I', gX12_movesTold_L13 267 fuel 1 (mkS X I J v) = some ((), mkS X I' J v) ∧ frD5 (k0 + C.length) I I' ∧ mO I' T n (pMov T n nR nS nm m r).2 ∧ (pOk (pMov T n nR nS nm m r).2 = true → cfC I' k0 (C ++ (pMov T n nR nS nm m r).1)) := by
  intro m
  induction m with
  | zero =>
    intro i fuel I r C hi hf h hr hN hC
    obtain ⟨f, rfl⟩ : ∃ n, fuel = n + 1 := ⟨fuel - 1, by omega⟩
    obtain ⟨f2, rfl⟩ : ∃ n, f = n + 1 := ⟨f - 1, by omega⟩
    have hn := h.1.1
    have hw : pOw T n r = -1 ∨ 0 ≤ pOw T n r := by have := pOw_r T n r; omega
    have hno : pOw T n r = -1 := by
      rcases hw with q | q
      · exact q
      · have hk := pKd_ow (T := T) (n := n) q
        have hok := pOw_ok (T := T) (n := n) q
        have := (hC hok).1
        have hin := mO_in hr
        cases r with
        | error e => cases hok
        | ok s =>
          have h1 := (tk1 (show tkK T n s.1 s.2 = 1 from hk)).1
          have h2 : i ≤ s.1 := this
          omega
    unfold gX12_movesTold_L13
    rw [if_neg (show ¬ (1 : Int32) = 0 by decide)]
    simp only [o267]
    obtain ⟨I1, a1, a2, a3, -⟩ := m_takes (X := X) (J := J) (v := v) (w := 25) (by decide) h hr
    rw [hno, if_neg (by omega)] at a3
    have a1' : fX12_takes 267 25 (mkS X I J v) = some (0, mkS X I1 J v) := by rw [hno] at a1; exact a1
    rw [a1', gb2_some, if_pos rfl]
    simp only [o267]
    have h1 := mX_M h a2
    obtain ⟨I2, b1, b2, b3, -⟩ := m_takes (X := X) (J := J) (v := v) (w := 26) (by decide) h1 a3
    rw [hno, if_neg (by omega)] at b3
    have b1' : fX12_takes 267 26 (mkS X I1 J v) = some (0, mkS X I2 J v) := by rw [hno] at b1; exact b1
    rw [b1', gb2_some, if_pos rfl]
    simp only [o267]
    have h2 := mX_M h1 b2
    obtain ⟨I3, c1, c2, c3, -⟩ := m_takes (X := X) (J := J) (v := v) (w := 27) (by decide) h2 b3
    rw [hno, if_neg (by omega)] at c3
    have c1' : fX12_takes 267 27 (mkS X I2 J v) = some (0, mkS X I3 J v) := by rw [hno] at c1; exact c1
    rw [c1', gb2_some, if_pos rfl]
    have fr := frM_t a2 (frM_t b2 c2)
    refine ⟨I3, ?_, frD5_M fr, c3, fun q => ?_⟩
    · unfold gX12_movesTold_L13
      rw [if_pos rfl]
    · show cfC I3 k0 (C ++ [])
      rw [List.append_nil]
      exact cfC_m (hC q).2.1 fr
  | succ m ih =>
    intro i fuel I r C hi hf h hr hN hC
    obtain ⟨f, rfl⟩ : ∃ n, fuel = n + 1 := ⟨fuel - 1, by omega⟩
    have hn := h.1.1
    have hw := pOw_r T n r
    have eP : pMov T n nR nS nm (m + 1) r = if 25 ≤ pOw T n r ∧ pOw T n r ≤ 27 then (((pOw T n r).toNat - 19, pMvV T n nR nS nm r) :: (pMov T n nR nS nm m (pMv T n nR nS nm r)).1, (pMov T n nR nS nm m (pMv T n nR nS nm r)).2) else ([], r) := rfl
    rw [eP]
    unfold gX12_movesTold_L13
    rw [if_neg (show ¬ (1 : Int32) = 0 by decide)]
    simp only [o267]
    -- one that is told
    have go : ∀ (op : Nat) (x : Int32) (I2 : Nat → Nat → Int32), op = (pOw T n r).toNat - 19 → 25 ≤ pOw T n r ∧ pOw T n r ≤ 27 → frM I I2 → mO I2 T n (pMv T n nR nS nm r) → (pOk (pMv T n nR nS nm r) = true → x = iZ (pMvV T n nR nS nm r : Nat)) → ∃ I', (gb2 (fX12_codes 267 (iZ (op : Int)) x (mkS X I2 J v)) fun (_ : Unit) s19 => gX12_movesTold_L13 267 f 1 s19) = some ((), mkS X I' J v) ∧ frD5 (k0 + C.length) I I' ∧ mO I' T n (pMov T n nR nS nm m (pMv T n nR nS nm r)).2 ∧ (pOk (pMov T n nR nS nm m (pMv T n nR nS nm r)).2 = true → cfC I' k0 (C ++ ((pOw T n r).toNat - 19, pMvV T n nR nS nm r) :: (pMov T n nR nS nm m (pMv T n nR nS nm r)).1)) := by
      intro op x I2 e1 e2 f2 o2 hx
      have hok := pOw_ok (T := T) (n := n) (r := r) (by omega)
      obtain ⟨g1, g2, g3⟩ := hC hok
      have hin := pAt_in (mO_in hr)
      obtain ⟨I3, c1, c2, c3, c4, -⟩ := m_codes (X := X) (J := J) (v := v) (k0 := k0) (op := op) (C := C) (x := x) o2 (fun _ => ⟨cfC_m g2 f2, by omega⟩)
      rw [c1, gb2_some]
      have f3 : frD5 (k0 + C.length) I I3 := frD5_t (frD5_M f2) c2
      obtain ⟨I4, d1, d2, d3, d4⟩ := ih (i + 1) f I3 (pMv T n nR nS nm r) (C ++ [(op, pMvV T n nR nS nm r)]) (by omega) (by omega) (mX_5 h f3) c3 (mNm_5 hN f3) (fun q => by
        have hl := pAdv_lt (T := T) (n := n) hok (by rw [pKd_ow (by omega)]; decide)
        have hv : pAt (pAdv T n r) + 1 ≤ pAt (pMv T n nR nS nm r) := by
          unfold pMv at q ⊢
          by_cases c7 : pOw T n r = 27
          · rw [if_pos c7] at q ⊢
            obtain ⟨p1, p2, p3, p4⟩ := pKnown_ok q
            rw [p2]
            exact pName_lt p3
          · rw [if_neg c7] at q ⊢
            exact (pNum_lt q).2
        refine ⟨by omega, c4 q _ (hx q), ?_⟩
        rw [List.length_append, List.length_singleton]
        omega)
      refine ⟨I4, d1, frD5_t f3 (frD5_w d2 (by rw [List.length_append]; omega)), d3, fun q => ?_⟩
      have := d4 q
      rw [List.append_assoc, e1] at this
      exact this
    obtain ⟨I1, a1, a2, a3, -⟩ := m_takes (X := X) (J := J) (v := v) (w := 25) (by decide) h hr
    have a1' : fX12_takes 267 25 (mkS X I J v) = some (tf (pOw T n r == ((25 : Nat) : Int)), mkS X I1 J v) := a1
    rw [a1', gb2_some]
    have h1 := mX_M h a2
    by_cases c5 : pOw T n r = ((25 : Nat) : Int)
    · rw [show (pOw T n r == ((25 : Nat) : Int)) = true from by simpa using c5, if_neg (show ¬ tf true = 0 by decide)]
      have hw2 : 25 ≤ pOw T n r ∧ pOw T n r ≤ 27 := by omega
      rw [if_pos hw2]
      rw [if_pos c5] at a3
      simp only [o267]
      obtain ⟨I2, x, b1, b2, b3, b4, -⟩ := m_number (X := X) (J := J) (v := v) (lo := 1) (hi := 99) (by decide) (by decide) h1 a3
      have b1' : fX12_number 267 1 99 (mkS X I1 J v) = some (x, mkS X I2 J v) := b1
      rw [b1', gb2_some]
      simp only [o267]
      have em : pMv T n nR nS nm r = pNum T n 1 99 (pAdv T n r) := by unfold pMv; rw [if_neg (by omega)]
      have ev : pMvV T n nR nS nm r = pNumV T n (pAdv T n r) := by unfold pMvV; rw [if_neg (by omega)]
      exact go 6 x I2 (by omega) hw2 (frM_t a2 b2) (by rw [em]; exact b3) (fun q => by rw [em] at q; rw [ev]; exact (b4 q).1)
    · rw [show (pOw T n r == ((25 : Nat) : Int)) = false from by simpa using c5, if_pos tf_f]
      rw [if_neg c5] at a3
      simp only [o267]
      obtain ⟨I2, b1, b2, b3, -⟩ := m_takes (X := X) (J := J) (v := v) (w := 26) (by decide) h1 a3
      have b1' : fX12_takes 267 26 (mkS X I1 J v) = some (tf (pOw T n r == ((26 : Nat) : Int)), mkS X I2 J v) := b1
      rw [b1', gb2_some]
      have h2 := mX_M h1 b2
      by_cases c6 : pOw T n r = ((26 : Nat) : Int)
      · rw [show (pOw T n r == ((26 : Nat) : Int)) = true from by simpa using c6, if_neg (show ¬ tf true = 0 by decide)]
        have hw2 : 25 ≤ pOw T n r ∧ pOw T n r ≤ 27 := by omega
        rw [if_pos hw2]
        rw [if_pos c6] at b3
        simp only [o267]
        obtain ⟨I3, x, d1, d2, d3, d4, -⟩ := m_number (X := X) (J := J) (v := v) (lo := 1) (hi := 99) (by decide) (by decide) h2 b3
        have d1' : fX12_number 267 1 99 (mkS X I2 J v) = some (x, mkS X I3 J v) := d1
        rw [d1', gb2_some]
        simp only [o267]
        have em : pMv T n nR nS nm r = pNum T n 1 99 (pAdv T n r) := by unfold pMv; rw [if_neg (by omega)]
        have ev : pMvV T n nR nS nm r = pNumV T n (pAdv T n r) := by unfold pMvV; rw [if_neg (by omega)]
        exact go 7 x I3 (by omega) hw2 (frM_t a2 (frM_t b2 d2)) (by rw [em]; exact d3) (fun q => by rw [em] at q; rw [ev]; exact (d4 q).1)
      · rw [show (pOw T n r == ((26 : Nat) : Int)) = false from by simpa using c6, if_pos tf_f]
        rw [if_neg c6] at b3
        simp only [o267]
        obtain ⟨I3, d1, d2, d3, -⟩ := m_takes (X := X) (J := J) (v := v) (w := 27) (by decide) h2 b3
        have d1' : fX12_takes 267 27 (mkS X I2 J v) = some (tf (pOw T n r == ((27 : Nat) : Int)), mkS X I3 J v) := d1
        rw [d1', gb2_some]
        have h3 := mX_M h2 d2
        have fr3 := frM_t a2 (frM_t b2 d2)
        by_cases c7 : pOw T n r = ((27 : Nat) : Int)
        · rw [show (pOw T n r == ((27 : Nat) : Int)) = true from by simpa using c7, if_neg (show ¬ tf true = 0 by decide)]
          have hw2 : 25 ≤ pOw T n r ∧ pOw T n r ≤ 27 := by omega
          rw [if_pos hw2]
          rw [if_pos c7] at d3
          simp only [o267]
          obtain ⟨I4, x, e1, e2, e3, e4⟩ := m_what (X := X) (J := J) (v := v) h3 d3 (mNm_M hN (fun k => fr3.1 275 k (by decide)))
          rw [e1, gb2_some]
          simp only [o267]
          have em : pMv T n nR nS nm r = pKnown T n nR nS nm (pAdv T n r) := by unfold pMv; rw [if_pos (by omega)]
          have ev : pMvV T n nR nS nm r = (pFind nR nS nm (pNameV T n (pAdv T n r))).toNat := by unfold pMvV; rw [if_pos (by omega)]
          exact go 8 x I4 (by omega) hw2 (frM_t fr3 e2) (by rw [em]; exact e3) (fun q => by
            rw [em] at q
            rw [ev, e4 q]
            have h6 := (pKnown_ok q).2.2.2
            have h7 := pFind_r nR nS nm (pNameV T n (pAdv T n r))
            congr 1; omega)
        · rw [show (pOw T n r == ((27 : Nat) : Int)) = false from by simpa using c7, if_pos tf_f, if_neg (show ¬ (25 ≤ pOw T n r ∧ pOw T n r ≤ 27) by omega)]
          rw [if_neg c7] at d3
          obtain ⟨f2, rfl⟩ : ∃ n, f = n + 1 := ⟨f - 1, by omega⟩
          refine ⟨I3, ?_, frD5_M fr3, d3, fun q => ?_⟩
          · unfold gX12_movesTold_L13
            rw [if_pos rfl]
          · show cfC I3 k0 (C ++ [])
            rw [List.append_nil]
            exact cfC_m (hC q).2.1 fr3
theorem m_moves {I : Nat → Nat → Int32} {r : PS} {C : List (Nat × Nat)} (h : mX I T n) (hr : mO I T n r) (hN : mNm I nR nS nm) (hC : pOk r = true → cfC I k0 C ∧ 2 * (k0 + C.length) ≤ pAt r) : ∃ I', fX12_movesTold 267 (mkS X I J v) = some ((), mkS X I' J v) ∧ frD5 (k0 + C.length) I I' ∧ mO I' T n (pMov T n nR nS nm 1600 r).2 ∧ (pOk (pMov T n nR nS nm 1600 r).2 = true → cfC I' k0 (C ++ (pMov T n nR nS nm 1600 r).1)) := by
  unfold fX12_movesTold
  simp only [bO, o267]
  cases hok : pOk r with
  | false =>
    rw [if_neg (mO_err hr hok)]
    cases r with
    | ok s => cases hok
    | error e =>
      refine ⟨I, rfl, frD5_r _ I, ?_, fun q => ?_⟩
      · show mO I T n (pMov T n nR nS nm (1599 + 1) (.error e)).2
        exact hr
      · have : pOk (pMov T n nR nS nm (1599 + 1) (.error e)).2 = true := q
        cases this
  | true =>
    rw [if_pos (mO_ok hr hok)]
    exact m_movesL 1600 0 20000 I r C (by decide) (by decide) h hr hN (fun q => ⟨Nat.zero_le _, hC q⟩)
/-! what waits -/
theorem m_opens {I : Nat → Nat → Int32} {r : PS} {S : List Nat} {x : Nat} (hr : mO I T n r) (hok : pOk r = true) (hS : stK I S) (hl : S.length < 64) : ∃ I', fX12_opens 267 (iZ (x : Int)) (mkS X I J v) = some ((), mkS X I' J v) ∧ frV k0 I I' ∧ mO I' T n r ∧ stK I' (S ++ [x]) ∧ I' 267 27 = I 267 27 ∧ I' 267 22 = I 267 22 ∧ (∀ j, I' 277 j = I 277 j) := by
  unfold fX12_opens
  simp only [bO, o267, o267R]
  rw [if_pos (mO_ok hr hok), hS.1, b279 _ _ _ _ _ _ (by omega)]
  simp only [bO, o267, gnar_2]
  rw [gup_r (show (267 : Nat) ≠ 279 by decide), hS.1, aL, show ((S.length : Nat) : Int) + 1 = ((S.length + 1 : Nat) : Int) by omega]
  refine ⟨_, rfl, ⟨fun r j a b c d => by rw [gup_r a, gup_r c], fun j a b c d e f g h i => by rw [gup_k h, gup_r (by decide)], fun j hj => by rw [gup_r (by decide), gup_r (by decide)]⟩, mO_7 hr (fun k hk => by rw [gup_k (by omega), gup_r (by decide)]), ⟨?_, fun j hj => ?_⟩, by rw [gup_k (by decide), gup_r (by decide)], by rw [gup_k (by decide), gup_r (by decide)], fun j => by rw [gup_r (by decide), gup_r (by decide)]⟩
  · rw [gup_s, List.length_append, List.length_singleton]
  · rw [List.length_append, List.length_singleton] at hj
    rw [gup_r (by decide), getD_app1]
    by_cases c : j < S.length
    · rw [gup_k (by omega), if_pos c]; exact hS.2 j c
    · rw [if_neg c, if_pos (by omega), show j = S.length by omega, gup_s]
/-- where it stops -/
def stopA (all : Bool) (S : List Nat) : Prop := S = [] ∨ ∃ S' x, S = S' ++ [x] ∧ (x = 0 ∨ (all = false ∧ x = 3))
theorem m_joinsL {r : PS} {all : Bool} {S : List Nat} (hok : pOk r = true) (hst : stopA all S) : ∀ (Q : List Nat) (fuel : Nat) (I : Nat → Nat → Int32) (C : List (Nat × Nat)), Q.length < fuel → mO I T n r → stK I (S ++ Q.reverse) → (S.length + Q.length < 64) → (∀ q, q ∈ Q → q = 1 ∨ q = 2 ∨ (all = true ∧ q = 3)) → cfC I k0 C → k0 + C.length + Q.length < 1500 → ∃ I', gX12_joins_L0 267 (tf all) fuel (mkS X I J v) = some ((), mkS X I' J v) ∧ frV (k0 + C.length) I I' ∧ mO I' T n r ∧ stK I' S ∧ I' 267 27 = I 267 27 ∧ cfC I' k0 (C ++ Q.map opc) := by
  intro Q
  induction Q with
  | nil =>
    intro fuel I C hf hr hS hl hq hC hk
    obtain ⟨f, rfl⟩ : ∃ n, fuel = n + 1 := ⟨fuel - 1, by omega⟩
    rw [List.reverse_nil, List.append_nil] at hS
    refine ⟨I, ?_, frV_r _ I, hr, hS, rfl, by rw [List.map_nil, List.append_nil]; exact hC⟩
    rw [List.length_nil] at hl
    unfold gX12_joins_L0
    simp only [bO, o267, o267R]
    rw [hS.1]
    rcases hst with e | ⟨S', x, e, hx⟩
    · subst e
      rw [if_neg (by decide)]
    · subst e
      rw [List.length_append, List.length_singleton] at hl
      have h1 := hS.2 S'.length (by rw [List.length_append, List.length_singleton]; omega)
      rw [getD_app1, if_neg (by omega), if_pos rfl] at h1
      rw [List.length_append, List.length_singleton, if_pos (by rw [cR_lt (by omega) (by omega) (by decide)]; omega), sL, show ((S'.length + 1 : Nat) : Int) - 1 = ((S'.length : Nat) : Int) by omega, a279 _ _ _ _ _ (by omega), h1]
      simp only [bO]
      rcases hx with e | ⟨ea, e⟩
      · rw [if_pos (by rw [e]; rfl)]
      · rw [if_neg (by rw [e]; decide), ea, if_pos tf_f, if_pos (by rw [e]; rfl)]
  | cons q Q ih =>
    intro fuel I C hf hr hS hl hq hC hk
    obtain ⟨f, rfl⟩ : ∃ n, fuel = n + 1 := ⟨fuel - 1, by omega⟩
    rw [List.length_cons] at hf hl hk
    rw [List.reverse_cons, ← List.append_assoc] at hS
    have hlen : (S ++ Q.reverse).length = S.length + Q.length := by rw [List.length_append, List.length_reverse]
    have hlen1 : (S ++ Q.reverse ++ [q]).length = S.length + Q.length + 1 := by rw [List.length_append, hlen, List.length_singleton]
    have h1 := hS.2 (S.length + Q.length) (by rw [hlen1]; omega)
    rw [getD_app1, if_neg (by omega), if_pos hlen.symm] at h1
    have hq1 := hq q List.mem_cons_self
    have hq3 : q ≤ 3 ∧ q ≠ 0 := by omega
    unfold gX12_joins_L0
    simp only [bO, o267, o267R]
    rw [hS.1, hlen1, if_pos (by rw [cR_lt (by omega) (by omega) (by decide)]; omega), sL, show ((S.length + Q.length + 1 : Nat) : Int) - 1 = ((S.length + Q.length : Nat) : Int) by omega, a279 _ _ _ _ _ (by omega), h1]
    simp only [bO, o267, o267R]
    rw [if_neg (by rw [cL_eq (by omega) (by omega) (by decide)]; omega)]
    -- one is done
    have step : ∃ I', ((gaI (mkS X (gup I 267 26 (iZ ((S.length + Q.length : Nat) : Int))) J v) 279 2 (iZ ((S.length + Q.length : Nat) : Int))).bind fun v14 => if v14 = 3 then gb2 (fX12_codes 267 3 0 (mkS X (gup I 267 26 (iZ ((S.length + Q.length : Nat) : Int))) J v)) fun (_ : Unit) s20 => gX12_joins_L0 267 (tf all) f s20 else (gaI (mkS X (gup I 267 26 (iZ ((S.length + Q.length : Nat) : Int))) J v) 279 2 (iZ ((S.length + Q.length : Nat) : Int))).bind fun v24 => if v24 = 1 then gb2 (fX12_codes 267 4 0 (mkS X (gup I 267 26 (iZ ((S.length + Q.length : Nat) : Int))) J v)) fun (_ : Unit) s20 => gX12_joins_L0 267 (tf all) f s20 else gb2 (fX12_codes 267 5 0 (mkS X (gup I 267 26 (iZ ((S.length + Q.length : Nat) : Int))) J v)) fun (_ : Unit) s20 => gX12_joins_L0 267 (tf all) f s20) = some ((), mkS X I' J v) ∧ frV (k0 + C.length) I I' ∧ mO I' T n r ∧ stK I' S ∧ I' 267 27 = I 267 27 ∧ cfC I' k0 (C ++ (q :: Q).map opc) := by
      have f1 : frV (k0 + C.length) I (gup I 267 26 (iZ ((S.length + Q.length : Nat) : Int))) := ⟨fun r j a _ _ _ => gup_r a, fun j a b c d e f g h i => gup_k h, fun j _ => gup_r (by decide)⟩
      have o1 : mO (gup I 267 26 (iZ ((S.length + Q.length : Nat) : Int))) T n r := mO_7 hr (fun k hk => gup_k (by omega))
      have c1 : cfC (gup I 267 26 (iZ ((S.length + Q.length : Nat) : Int))) k0 C := cfC_M hC (gup_k (by decide)) (fun j => gup_r (by decide))
      have e279 : gup I 267 26 (iZ ((S.length + Q.length : Nat) : Int)) 279 (S.length + Q.length) = iZ (q : Int) := by rw [gup_r (by decide)]; exact h1
      rw [a279 _ _ _ _ _ (by omega), e279]
      simp only [bO]
      have fin : ∀ op : Nat, opc q = (op, 0) → ∃ I', (gb2 (fX12_codes 267 (iZ (op : Int)) 0 (mkS X (gup I 267 26 (iZ ((S.length + Q.length : Nat) : Int))) J v)) fun (_ : Unit) s20 => gX12_joins_L0 267 (tf all) f s20) = some ((), mkS X I' J v) ∧ frV (k0 + C.length) I I' ∧ mO I' T n r ∧ stK I' S ∧ I' 267 27 = I 267 27 ∧ cfC I' k0 (C ++ (q :: Q).map opc) := by
        intro op eop
        obtain ⟨I2, b1, b2, b3, b4, -⟩ := m_codes (X := X) (J := J) (v := v) (k0 := k0) (op := op) (C := C) (x := 0) o1 (fun _ => ⟨c1, by omega⟩)
        rw [b1, gb2_some]
        have st2 : stK I2 (S ++ Q.reverse) := by
          refine ⟨?_, fun j hj => ?_⟩
          · rw [b2.2.1 26 (by decide) (by decide) (by decide) (by decide) (by decide) (by decide) (by decide), gup_s, hlen]
          · rw [b2.1 279 j (by decide) (by decide) (by decide), gup_r (by decide)]
            have := hS.2 j (by rw [hlen1]; rw [hlen] at hj; omega)
            rw [getD_app1, if_pos hj] at this
            exact this
        obtain ⟨I3, d1, d2, d3, d4, d5, d6⟩ := ih f I2 (C ++ [(op, 0)]) (by omega) b3 st2 (by omega) (fun z hz => hq z (List.mem_cons_of_mem _ hz)) (b4 hok 0 rfl) (by rw [List.length_append, List.length_singleton]; omega)
        refine ⟨I3, d1, frV_t f1 (frV_t (frV_5 b2 (Nat.le_refl _)) ⟨d2.1, d2.2.1, fun j hj => d2.2.2 j (by rw [List.length_append]; omega)⟩), d3, d4, ?_, ?_⟩
        · rw [d5, b2.2.1 27 (by decide) (by decide) (by decide) (by decide) (by decide) (by decide) (by decide), gup_k (by decide)]
        · rw [List.map_cons, eop]
          rw [List.append_assoc] at d6
          exact d6
      by_cases z3 : q = 3
      · rw [if_pos (by rw [z3]; rfl)]
        exact fin 3 (by unfold opc; rw [if_pos z3])
      · rw [if_neg (by rw [cL_eq (by omega) (by omega) (by decide)]; omega)]
        by_cases z1 : q = 1
        · rw [if_pos (by rw [z1]; rfl)]
          exact fin 4 (by unfold opc; rw [if_neg z3, if_pos z1])
        · rw [if_neg (by rw [cL_eq (by omega) (by omega) (by decide)]; omega)]
          exact fin 5 (by unfold opc; rw [if_neg z3, if_neg z1])
    simp only [gup_s]
    cases all with
    | true =>
      rw [if_neg (show ¬ tf true = 0 by decide)]
      exact step
    | false =>
      rw [if_pos tf_f, if_neg (by rw [cL_eq (by omega) (by omega) (by decide)]; rcases hq1 with z | z | ⟨z, _⟩; omega; omega; cases z)]
      exact step
/-- with a fault what waits goes -/
theorem m_joinsE {r : PS} (hok : pOk r = false) : ∀ (m fuel : Nat) (I : Nat → Nat → Int32), m < fuel → m ≤ 64 → mO I T n r → I 267 26 = iZ (m : Int) → ∃ m' : Nat, m' ≤ m ∧ gX12_joins_L0 267 1 fuel (mkS X I J v) = some ((), mkS X (gup I 267 26 (iZ (m' : Int))) J v) := by
  intro m
  induction m with
  | zero =>
    intro fuel I hf hm hr h26
    obtain ⟨f, rfl⟩ : ∃ n, fuel = n + 1 := ⟨fuel - 1, by omega⟩
    refine ⟨0, Nat.le_refl _, ?_⟩
    unfold gX12_joins_L0
    simp only [bO, o267]
    rw [h26, if_neg (by decide), gup_id h26]
  | succ m ih =>
    intro fuel I hf hm hr h26
    obtain ⟨f, rfl⟩ : ∃ n, fuel = n + 1 := ⟨fuel - 1, by omega⟩
    unfold gX12_joins_L0
    simp only [bO, o267, o267R]
    rw [h26, if_pos (by rw [cR_lt (by omega) (by omega) (by decide)]; omega), sL, show ((m + 1 : Nat) : Int) - 1 = ((m : Nat) : Int) by omega, a279 _ _ _ _ _ (by omega)]
    simp only [bO, o267, o267R]
    by_cases c : I 279 m = 0
    · rw [if_pos c]
      exact ⟨m + 1, Nat.le_refl _, by rw [gup_id h26]⟩
    · rw [if_neg c, if_neg (show ¬ (1 : Int32) = 0 by decide)]
      simp only [gup_s]
      have o1 : mO (gup I 267 26 (iZ (m : Int))) T n r := mO_7 hr (fun k hk => gup_k (by omega))
      have ec : ∀ x y : Int32, fX12_codes 267 x y (mkS X (gup I 267 26 (iZ (m : Int))) J v) = some ((), mkS X (gup I 267 26 (iZ (m : Int))) J v) := by
        intro x y
        unfold fX12_codes
        simp only [bO, o267]
        rw [if_neg (mO_err o1 hok)]
      obtain ⟨m', e1, e2⟩ := ih f (gup I 267 26 (iZ (m : Int))) (by omega) (by omega) o1 gup_s
      rw [gup_gup] at e2
      refine ⟨m', by omega, ?_⟩
      rw [a279 _ _ _ _ _ (by omega)]
      simp only [bO, ec, e2]
      repeat' split
      all_goals rfl
end gMj
