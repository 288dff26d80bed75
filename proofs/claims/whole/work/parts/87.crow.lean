/-! ROWS of the reader -/
def pNext (T : Nat → Nat) (n k : Nat) (r : PS) : PS := if pSign T n 44 r = true then (if k < 8 then pAdv T n r else pNot (if pKd T n (pAdv T n r) = 0 then 1 else 5) (pAdv T n r)) else r
def pMore (T : Nat → Nat) (n k : Nat) (r : PS) : Bool := pSign T n 44 r && decide (k < 8)
def pDup (m : PS → PS) (mv : PS → Int) (l : List Int) (r : PS) : PS := if pOk (m r) = true ∧ mv r ∈ l then .error (4, pAt r) else m r
def pRow (T : Nat → Nat) (n : Nat) (m : PS → PS) (mv : PS → Int) : Nat → List Int → PS → List Int × PS
  | 0, l, r => (l, r)
  | f + 1, l, r => if pMore T n (l.length + 1) (pDup m mv l r) = true then pRow T n m mv f (l ++ [mv r]) (pNext T n (l.length + 1) (pDup m mv l r)) else (l ++ [mv r], pNext T n (l.length + 1) (pDup m mv l r))
def rw8 (I : Nat → Nat → Int32) (l : List Int) : Prop := I 55 1 = iZ (l.length : Int) ∧ l.length ≤ 8 ∧ ∀ k, k < l.length → I 56 k = iZ (l.getD k 0)
def frW (I I' : Nat → Nat → Int32) : Prop := (∀ r k, r ≠ 53 → r ≠ 55 → r ≠ 56 → I' r k = I r k) ∧ I' 53 3 = I 53 3
theorem frW_r (I : Nat → Nat → Int32) : frW I I := ⟨fun _ _ _ _ _ => rfl, rfl⟩
theorem frW_t {I I' I'' : Nat → Nat → Int32} (h1 : frW I I') (h2 : frW I' I'') : frW I I'' := ⟨fun r k a b c => (h2.1 r k a b c).trans (h1.1 r k a b c), h2.2.trans h1.2⟩
theorem frW_K {I I' : Nat → Nat → Int32} (h : frK I I') : frW I I' := ⟨fun r k a _ _ => h.1 r k a, h.2⟩
theorem getD_snoc {l : List Int} {x : Int} {k : Nat} : (l ++ [x]).getD k 0 = if k < l.length then l.getD k 0 else if k = l.length then x else 0 := by
  rw [List.getD_eq_getElem?_getD, List.getD_eq_getElem?_getD]
  by_cases c : k < l.length
  · rw [if_pos c, List.getElem?_append_left c]
  · rw [if_neg c, List.getElem?_append_right (by omega)]
    by_cases c2 : k = l.length
    · rw [if_pos c2, c2, Nat.sub_self]; rfl
    · rw [if_neg c2, List.getElem?_eq_none (by rw [List.length_singleton]; omega)]; rfl
theorem len_snoc {l : List Int} {x : Int} : (l ++ [x]).length = l.length + 1 := by rw [List.length_append]; rfl
theorem mem_get {l : List Int} {x : Int} : x ∈ l ↔ ∃ k, k < l.length ∧ l.getD k 0 = x := by
  rw [List.mem_iff_getElem]
  constructor
  · rintro ⟨k, h, rfl⟩
    exact ⟨k, h, by rw [List.getD_eq_getElem?_getD, List.getElem?_eq_getElem h]; rfl⟩
  · rintro ⟨k, h, e⟩
    rw [List.getD_eq_getElem?_getD, List.getElem?_eq_getElem h] at e
    exact ⟨k, h, e⟩
theorem isRow55 : isRow 55 := by unfold isRow; decide
section gRw
variable {X : Nat × (Nat → Int32)} {J : Nat → Nat → Int64} {v : Vt} {T : Nat → Nat} {n : Nat}
theorem cX_W {I I' : Nat → Nat → Int32} (h : cX I v T n) (f : frW I I') : cX I' v T n := ⟨⟨h.1.1, fun k hk => by rw [f.1 52 k (by decide) (by decide) (by decide)]; exact h.1.2 k hk⟩, by rw [f.2]; exact h.2.1, h.2.2⟩
theorem cO_W {I I' : Nat → Nat → Int32} {r : PS} (h : cO I T n r) (f : ∀ k, I' 53 k = I 53 k) : cO I' T n r := by
  cases r with
  | error e => unfold cO at h ⊢; dsimp only at h ⊢; rw [f, f, f]; exact h
  | ok s => unfold cO at h ⊢; dsimp only at h ⊢; rw [f, f, f, f, f]; exact h
theorem c_next {I : Nat → Nat → Int32} {r : PS} {k : Nat} (hk : k ≤ 8) (h : cX I v T n) (hr : cO I T n r) (h55 : I 55 1 = iZ (k : Int)) : ∃ I', fX6_nextInRow 53 (mkS X I J v) = some (tf (pMore T n k r), mkS X I' J v) ∧ frK I I' ∧ cO I' T n (pNext T n k r) := by
  unfold fX6_nextInRow gX6_nextInRow pMore pNext
  simp only [o53]
  rw [show (44 : Int32) = iZ ((44 : Nat) : Int) from rfl, c_isSign (by decide) rfl rfl h hr]
  simp only [bO, o53]
  cases hs : pSign T n 44 r with
  | false =>
    rw [if_pos tf_f, if_neg (by decide)]
    exact ⟨I, rfl, frK_r I, hr⟩
  | true =>
    rw [if_neg (show ¬ tf true = 0 by decide), if_pos rfl]
    obtain ⟨I1, a1, a2, a3⟩ := c_adv (X := X) (J := J) h hr
    rw [a1]
    simp only [bO, o53, o53R, row_i isRow55]
    rw [a2.1 55 1 (by decide), h55]
    by_cases c : k < 8
    · rw [if_pos (by rw [cL_lt (by omega) (by omega) (by decide)]; omega), if_pos c, decide_eq_true c]
      exact ⟨I1, rfl, a2, a3⟩
    · rw [if_neg (by rw [cL_lt (by omega) (by omega) (by decide)]; omega), if_neg c, decide_eq_false c]
      have ekd : I1 53 4 = 0 ↔ pKd T n (pAdv T n r) = 0 := by
        cases hq : pAdv T n r with
        | error e =>
          rw [hq] at a3
          rw [a3.2.2.2.2]
          constructor
          · intro q; exact absurd q (by decide)
          · intro q
            have : (4 : Nat) = 0 := q
            omega
        | ok s =>
          rw [hq] at a3
          have := tkK_lt T n s.1 s.2
          rw [a3.2.1, cL_eq (by omega) (by omega) (by decide)]
          show _ ↔ tkK T n s.1 s.2 = 0
          omega
      by_cases c2 : pKd T n (pAdv T n r) = 0
      · rw [if_pos (ekd.mpr c2), if_pos c2]
        obtain ⟨I2, b1, b2, b3⟩ := c_refuseS (X := X) (J := J) (v := v) (f := 1) (by decide) (by decide) a3
        rw [show (1 : Int32) = iZ ((1 : Nat) : Int) from rfl, b1]
        exact ⟨I2, rfl, frK_t a2 b2, b3⟩
      · rw [if_neg (fun q => c2 (ekd.mp q)), if_neg c2]
        obtain ⟨I2, b1, b2, b3⟩ := c_refuseS (X := X) (J := J) (v := v) (f := 5) (by decide) (by decide) a3
        rw [show (5 : Int32) = iZ ((5 : Nat) : Int) from rfl, b1]
        exact ⟨I2, rfl, frK_t a2 b2, b3⟩
/-- whether a value is in the row -/
theorem row_in {I : Nat → Nat → Int32} {l : List Int} {x : Int} (hl : rw8 I l) (hb : ∀ y, y ∈ l → -1000000 ≤ y ∧ y ≤ 1000000) (hx : -1000000 ≤ x ∧ x ≤ 1000000) : nx (fun j => decide (I (55 + 1) j = iZ x)) l.length 0 = -1 ↔ ¬ x ∈ l := by
  rcases nx_cases (fun j => decide (I (55 + 1) j = iZ x)) l.length 0 with ⟨h1, h2⟩ | ⟨k, h1, h2, h3, h4, _⟩
  · refine ⟨fun _ hm => ?_, fun _ => h1⟩
    obtain ⟨k, a, b⟩ := mem_get.mp hm
    have := h2 k (by omega) (by omega)
    rw [decide_eq_false_iff_not] at this
    exact this (by rw [hl.2.2 k a, b])
  · refine ⟨fun q => by omega, fun q => absurd ?_ q⟩
    rw [decide_eq_true_eq, hl.2.2 k (by omega)] at h4
    have := hb _ (mem_get.mpr ⟨k, by omega, rfl⟩)
    rw [iZ_eq (by omega) (by omega) (by omega) (by omega)] at h4
    exact mem_get.mpr ⟨k, by omega, h4⟩
theorem pDup_ok {m : PS → PS} {mv : PS → Int} {l : List Int} {r : PS} (h : pOk (pDup m mv l r) = true) : pOk (m r) = true ∧ ¬ mv r ∈ l ∧ pDup m mv l r = m r := by
  unfold pDup at h ⊢
  by_cases c : pOk (m r) = true ∧ mv r ∈ l
  · rw [if_pos c] at h; cases h
  · rw [if_neg c] at h ⊢
    exact ⟨h, fun q => c ⟨h, q⟩, rfl⟩
theorem pNext_ok {k : Nat} {r : PS} (h : pOk (pNext T n k r) = true) : pOk r = true := by
  unfold pNext at h
  by_cases c : pSign T n 44 r = true
  · rw [if_pos c] at h
    by_cases c2 : k < 8
    · rw [if_pos c2, pAdv_ok] at h; exact h
    · rw [if_neg c2, pNot_ok] at h; cases h
  · rw [if_neg c] at h; exact h
/-- one member is looked at and laid down -/
theorem c_rowStep {I I1 : Nat → Nat → Int32} {m : PS → PS} {mv : PS → Int} {r : PS} {l : List Int} {x : Int32} {k : Nat} (hl : l.length < 8) (hme : pOk (m r) = true → pOk r = true) (h1 : cX I1 v T n) (hr0 : cO I T n r) (hr : cO I1 T n (m r)) (hx : pOk (m r) = true → x = iZ (mv r) ∧ (-1000000 ≤ mv r ∧ mv r ≤ 1000000)) (hrow : pOk r = true → rw8 I1 l) (hb : ∀ y, y ∈ l → -1000000 ≤ y ∧ y ≤ 1000000) (hk : k ≤ 8) (hs : I1 55 1 = iZ (k : Int)) : ∃ I2 k2, (∀ F : gH → Option (Unit × gH), (gb2 (fX7_indexOf 55 x (mkS X I1 J v)) fun r10 s11 => if r10 = -1 then (ggR s11 53 6 8).bind fun v14 => gb2 (gcv s11 v14 7 (fX7_append v14 x s11)) fun _ s16 => F s16 else gb2 (gcv s11 53 6 (fX6_refuse 53 4 (I 53 5) s11)) fun _ s22 => (ggR s22 53 6 8).bind fun v14 => gb2 (gcv s22 v14 7 (fX7_append v14 x s22)) fun _ s16 => F s16) = F (mkS X I2 J v)) ∧ frW I1 I2 ∧ cO I2 T n (pDup m mv l r) ∧ (pOk (pDup m mv l r) = true → rw8 I2 (l ++ [mv r]) ∧ k2 = l.length + 1) ∧ k2 ≤ 8 ∧ I2 55 1 = iZ (k2 : Int) := by
  have hcap : rowCap 55 = 8 := rfl
  have app : ∀ {I' : Nat → Nat → Int32}, I' 55 1 = iZ (k : Int) → ∀ F : gH → Option (Unit × gH), ((ggR (mkS X I' J v) 53 6 8).bind fun v14 => gb2 (gcv (mkS X I' J v) v14 7 (fX7_append v14 x (mkS X I' J v))) fun _ s16 => F s16) = F (mkS X (if k < 8 then gup (gup I' 56 k x) 55 1 (iZ ((k + 1 : Nat) : Int)) else I') J v) := by
    intro I' hI' F
    simp only [bO, o53R]
    rw [row_c isRow55, row_append isRow55 hI' (by rw [hcap]; omega), gb2_some, hcap]
  have wf : ∀ {I' : Nat → Nat → Int32}, I' 55 1 = iZ (k : Int) → ∃ k2 : Nat, k2 ≤ 8 ∧ (if k < 8 then gup (gup I' 56 k x) 55 1 (iZ ((k + 1 : Nat) : Int)) else I') 55 1 = iZ (k2 : Int) := by
    intro I' hI'
    by_cases c : k < 8
    · rw [if_pos c]; exact ⟨k + 1, by omega, gup_s⟩
    · rw [if_neg c]; exact ⟨k, hk, hI'⟩
  have f53 : ∀ (I' : Nat → Nat → Int32) (j : Nat), (if k < 8 then gup (gup I' 56 k x) 55 1 (iZ ((k + 1 : Nat) : Int)) else I') 53 j = I' 53 j := by
    intro I' j
    split
    · rw [gup_r (by decide), gup_r (by decide)]
    · rfl
  have fr : ∀ (I' : Nat → Nat → Int32), frW I' (if k < 8 then gup (gup I' 56 k x) 55 1 (iZ ((k + 1 : Nat) : Int)) else I') := by
    intro I'
    split
    · exact ⟨fun r k a b c => by rw [gup_r b, gup_r c], by rw [gup_r (by decide), gup_r (by decide)]⟩
    · exact frW_r I'
  have idx : fX7_indexOf 55 x (mkS X I1 J v) = some (iZ (nx (fun j => decide (I1 (55 + 1) j = x)) k 0), mkS X I1 J v) := row_index isRow55 hs (by rw [hcap]; omega)
  have hnr : -1 ≤ nx (fun j => decide (I1 (55 + 1) j = x)) k 0 ∧ nx (fun j => decide (I1 (55 + 1) j = x)) k 0 ≤ 8 := by
    rcases nx_cases (fun j => decide (I1 (55 + 1) j = x)) k 0 with ⟨h, _⟩ | ⟨z, h1, h2, h3, _⟩ <;> omega
  cases hok : pOk (m r) with
  | true =>
    obtain ⟨hx1, hx2⟩ := hx hok
    have hrw := hrow (hme hok)
    have ek : k = l.length := by
      have := hrw.1
      rw [hs, iZ_eq (by omega) (by omega) (by omega) (by omega)] at this
      omega
    by_cases c : mv r ∈ l
    · -- told before
      have e1 : pDup m mv l r = .error (4, pAt r) := by unfold pDup; rw [if_pos ⟨hok, c⟩]
      have e2 : ¬ nx (fun j => decide (I1 (55 + 1) j = x)) k 0 = -1 := by
        rw [hx1, ek]
        intro q
        exact (row_in hrw hb hx2).mp q c
      obtain ⟨I3, b1, b2, b3⟩ := c_refuseR (X := X) (J := J) (v := v) (f := 4) (p := pAt r) (by decide) (by decide) hr
      rw [pFail_ok hok] at b3
      have hs3 : I3 55 1 = iZ (k : Int) := by rw [b2.1 55 1 (by decide)]; exact hs
      obtain ⟨k2, w1, w2⟩ := wf hs3
      refine ⟨_, k2, fun F => ?_, frW_t (frW_K b2) (fr I3), ?_, ?_, w1, w2⟩
      · rw [idx, gb2_some, if_neg (by rw [cM_eq (by omega) (by omega)]; exact e2)]
        simp only [o53]
        rw [cO_st hr0 (hme hok), show (4 : Int32) = iZ ((4 : Nat) : Int) from rfl, b1, gb2_some]
        exact app hs3 F
      · rw [e1]; exact cO_W b3 (f53 I3)
      · rw [e1]; intro q; cases q
    · have e1 : pDup m mv l r = m r := by unfold pDup; rw [if_neg (fun q => c q.2)]
      have e2 : nx (fun j => decide (I1 (55 + 1) j = x)) k 0 = -1 := by
        rw [hx1, ek]
        exact (row_in hrw hb hx2).mpr c
      refine ⟨_, l.length + 1, fun F => ?_, fr I1, ?_, ?_, by omega, ?_⟩
      · rw [idx, gb2_some, if_pos (by rw [e2]; rfl)]
        exact app hs F
      · rw [e1]; exact cO_W hr (f53 I1)
      · intro _
        refine ⟨⟨?_, by rw [len_snoc]; omega, ?_⟩, rfl⟩
        · rw [if_pos (by omega), gup_s, len_snoc, ek]
        · intro j hj
          rw [len_snoc] at hj
          rw [if_pos (by omega), gup_r (by decide), getD_snoc]
          by_cases q : j < l.length
          · rw [gup_k (by omega), if_pos q]; exact hrw.2.2 j q
          · rw [if_neg q, if_pos (by omega), show j = k by omega, gup_s, hx1]
      · rw [if_pos (by omega), gup_s, ek]
  | false =>
    have e1 : pDup m mv l r = m r := by unfold pDup; rw [if_neg (fun q => by rw [hok] at q; cases q.1)]
    by_cases c : nx (fun j => decide (I1 (55 + 1) j = x)) k 0 = -1
    · obtain ⟨k2, w1, w2⟩ := wf hs
      refine ⟨_, k2, fun F => ?_, fr I1, ?_, ?_, w1, w2⟩
      · rw [idx, gb2_some, if_pos (by rw [c]; rfl)]
        exact app hs F
      · rw [e1]; exact cO_W hr (f53 I1)
      · rw [e1, hok]; intro q; cases q
    · obtain ⟨I3, b1, b2, b3⟩ := refuse_er (X := X) (J := J) (v := v) (x := 4) (y := I 53 5) hr hok
      have hs3 : I3 55 1 = iZ (k : Int) := by rw [b2.1 55 1 (by decide)]; exact hs
      obtain ⟨k2, w1, w2⟩ := wf hs3
      refine ⟨_, k2, fun F => ?_, frW_t (frW_K b2) (fr I3), ?_, ?_, w1, w2⟩
      · rw [idx, gb2_some, if_neg (by rw [cM_eq (by omega) (by omega)]; exact c)]
        simp only [o53]
        rw [b1, gb2_some]
        exact app hs3 F
      · rw [e1]; exact cO_W b3 (f53 I3)
      · rw [e1, hok]; intro q; cases q
theorem pMem_ok {part : Nat} {u : Int} {r : PS} (h : pOk (pMem T n part u r) = true) : pOk r = true := by
  unfold pMem at h
  have h2 : pOk (pM2 T n part u r) = true → pOk r = true := by
    intro q
    have h1 : pOk (pM1 T n part u r) = true := by
      unfold pM2 at q
      split at q
      · exact q
      · exact (pNum_ok q).1
    have h0 : pOk (pM0 T n part u r) = true := by
      unfold pM1 at h1
      split at h1
      · rw [pAdv_ok] at h1; exact h1
      · exact h1
    unfold pM0 at h0
    split at h0
    · rw [pNot_ok] at h0; cases h0
    · exact h0
  split at h
  · exact (pNum_ok h).1
  · split at h
    · exact h2 (pPass_ok h).2
    · exact h2 h
/-- what a member of a row may be -/
def memR (part : Nat) (x : Int) : Prop := if part = 0 then 1 ≤ x ∧ x ≤ 12 else if part = 1 then -31 ≤ x ∧ x ≤ 31 ∧ x ≠ 0 else if part = 2 then (-53 ≤ x / 8 ∧ x / 8 ≤ 53 ∧ x % 8 < 7) else -99 ≤ x ∧ x ≤ 99 ∧ x ≠ 0
theorem pMem_r {part : Nat} {u : Int} {r : PS} (h : pOk (pMem T n part u r) = true) : memR part (pMemV T n part u r) := by
  unfold memR pMemV
  unfold pMem at h
  by_cases c0 : part = 0
  · rw [if_pos c0] at h
    rw [if_pos c0, if_pos c0]
    have := pNum_ok h
    omega
  · rw [if_neg c0] at h
    rw [if_neg c0, if_neg c0]
    by_cases c2 : part = 2
    · rw [if_pos c2] at h
      rw [if_neg (by omega), if_pos c2, if_pos c2]
      obtain ⟨w1, w2⟩ := pPass_ok h
      unfold pWk at w1
      rw [Bool.and_eq_true, decide_eq_true_eq, decide_eq_true_eq] at w1
      have hs : -53 ≤ pMs T n part u r ∧ pMs T n part u r ≤ 53 := by
        unfold pMs pMn
        unfold pM2 at w2
        by_cases c : part = 2 ∧ pPlaced T n r = false
        · rw [if_pos c]; split <;> omega
        · rw [if_neg c] at w2
          rw [if_neg c]
          have := pNum_ok w2
          have e : pMx part = 53 := by unfold pMx; rw [if_neg (by omega), if_pos c2]
          split <;> omega
      omega
    · rw [if_neg c2] at h
      have hq : ¬ (part = 2 ∧ pPlaced T n r = false) := fun q => c2 q.1
      unfold pM2 at h
      rw [if_neg hq] at h
      have := pNum_ok h
      by_cases c1 : part = 1
      · rw [if_pos c1, if_neg c2]
        have e : pMx part = 31 := by unfold pMx; rw [if_pos c1]
        unfold pMs pMn
        rw [if_neg hq]
        split <;> omega
      · rw [if_neg c1, if_neg c2, if_neg c2]
        have e : pMx part = 99 := by unfold pMx; rw [if_neg c1, if_neg c2]
        unfold pMs pMn
        rw [if_neg hq]
        split <;> omega
theorem memR_b {part : Nat} {x : Int} (h : memR part x) : -1000000 ≤ x ∧ x ≤ 1000000 := by
  unfold memR at h
  split at h
  · omega
  · split at h
    · omega
    · split at h <;> omega
theorem c_rowL {part : Nat} {u : Int} (hp : part < 4) (u1 : -10 ≤ u) (u2 : u ≤ 10) : ∀ (f fuel : Nat) (l : List Int) (I : Nat → Nat → Int32) (r : PS) (k : Nat), l.length + f = 8 → l.length < 8 → f < fuel → cX I v T n → cO I T n r → (pOk r = true → rw8 I l) → (∀ y, y ∈ l → memR part y) → k ≤ 8 → I 55 1 = iZ (k : Int) → ∃ I', gX6_rowText_L9 53 (iZ (part : Int)) (iZ u) fuel (iZ (l.length : Int)) (mkS X I J v) = some ((), mkS X I' J v) ∧ frW I I' ∧ cO I' T n (pRow T n (pMem T n part u) (pMemV T n part u) f l r).2 ∧ (pOk (pRow T n (pMem T n part u) (pMemV T n part u) f l r).2 = true → rw8 I' (pRow T n (pMem T n part u) (pMemV T n part u) f l r).1 ∧ ∀ y, y ∈ (pRow T n (pMem T n part u) (pMemV T n part u) f l r).1 → memR part y) ∧ ∃ k : Nat, k ≤ 8 ∧ I' 55 1 = iZ (k : Int) := by
  intro f
  induction f with
  | zero => intro fuel l I r k h1 h2; omega
  | succ f ih =>
    intro fuel l I r k hl hl2 hfu h hr hrow hb hk hs
    obtain ⟨fu, rfl⟩ : ∃ n, fuel = n + 1 := ⟨fuel - 1, by omega⟩
    unfold gX6_rowText_L9
    rw [if_pos (by rw [cL_lt (by omega) (by omega) (by decide)]; omega)]
    simp only [bO, o53]
    obtain ⟨I1, x, a1, a2, a3, a4⟩ := c_member (X := X) (J := J) hp u1 u2 h hr
    rw [a1]
    simp only [bO, o53R, row_c isRow55]
    have h1 := cX_K h a2
    obtain ⟨I2, k2, b1, b2, b3, b4, b5, b6⟩ := c_rowStep (X := X) (J := J) (v := v) (T := T) (n := n) (I := I) (I1 := I1) (m := pMem T n part u) (mv := pMemV T n part u) (r := r) (l := l) (x := x) (k := k) hl2 pMem_ok h1 hr a3 (fun q => ⟨a4 q, memR_b (pMem_r q)⟩) (fun q => by
      have := hrow q
      unfold rw8 at this ⊢
      rw [a2.1 55 1 (by decide)]
      refine ⟨this.1, this.2.1, fun j hj => ?_⟩
      rw [a2.1 56 j (by decide)]; exact this.2.2 j hj) (fun y hy => memR_b (hb y hy)) hk (by rw [a2.1 55 1 (by decide)]; exact hs)
    have hcon := b1 (fun s16 => gb2 (gcv s16 53 6 (fX6_nextInRow 53 s16)) fun r17 s18 => if r17 = 0 then some ((), s18) else gX6_rowText_L9 53 (iZ (part : Int)) (iZ u) fu (iZ (l.length : Int) + 1) s18)
    rw [hcon]
    simp only [o53]
    have h2 := cX_W h1 b2
    obtain ⟨I3, c1, c2, c3⟩ := c_next (X := X) (J := J) b5 h2 b3 b6
    rw [c1, gb2_some]
    have fr3 := frW_t (frW_K a2) (frW_t b2 (frW_K c2))
    -- how it goes on
    have hk2 : pOk (pDup (pMem T n part u) (pMemV T n part u) l r) = true → k2 = l.length + 1 := fun q => (b4 q).2
    have emore : pMore T n k2 (pDup (pMem T n part u) (pMemV T n part u) l r) = pMore T n (l.length + 1) (pDup (pMem T n part u) (pMemV T n part u) l r) := by
      cases hq : pDup (pMem T n part u) (pMemV T n part u) l r with
      | error e => rfl
      | ok s => rw [hk2 (by rw [hq]; rfl)]
    have enext : pNext T n k2 (pDup (pMem T n part u) (pMemV T n part u) l r) = pNext T n (l.length + 1) (pDup (pMem T n part u) (pMemV T n part u) l r) := by
      cases hq : pDup (pMem T n part u) (pMemV T n part u) l r with
      | error e => rfl
      | ok s => rw [hk2 (by rw [hq]; rfl)]
    rw [enext] at c3
    rw [emore]
    have hb2 : pOk (pDup (pMem T n part u) (pMemV T n part u) l r) = true → ∀ y, y ∈ l ++ [pMemV T n part u r] → memR part y := by
      intro q y hy
      rcases List.mem_append.mp hy with z | z
      · exact hb y z
      · rw [List.mem_singleton.mp z]
        exact pMem_r (pDup_ok q).1
    have hrw3 : pOk (pDup (pMem T n part u) (pMemV T n part u) l r) = true → rw8 I3 (l ++ [pMemV T n part u r]) := by
      intro q
      have := (b4 q).1
      unfold rw8 at this ⊢
      rw [c2.1 55 1 (by decide)]
      refine ⟨this.1, this.2.1, fun j hj => ?_⟩
      rw [c2.1 56 j (by decide)]; exact this.2.2 j hj
    have hs3 : I3 55 1 = iZ (k2 : Int) := by rw [c2.1 55 1 (by decide)]; exact b6
    have eP : pRow T n (pMem T n part u) (pMemV T n part u) (f + 1) l r = if pMore T n (l.length + 1) (pDup (pMem T n part u) (pMemV T n part u) l r) = true then pRow T n (pMem T n part u) (pMemV T n part u) f (l ++ [pMemV T n part u r]) (pNext T n (l.length + 1) (pDup (pMem T n part u) (pMemV T n part u) l r)) else (l ++ [pMemV T n part u r], pNext T n (l.length + 1) (pDup (pMem T n part u) (pMemV T n part u) l r)) := rfl
    rw [eP]
    cases hm : pMore T n (l.length + 1) (pDup (pMem T n part u) (pMemV T n part u) l r) with
    | false =>
      rw [if_pos tf_f, if_neg (by decide)]
      refine ⟨I3, rfl, fr3, c3, fun q => ?_, k2, b5, hs3⟩
      have q2 := pNext_ok q
      exact ⟨hrw3 q2, hb2 q2⟩
    | true =>
      rw [if_neg (show ¬ tf true = 0 by decide), if_pos rfl]
      have hok : pOk (pDup (pMem T n part u) (pMemV T n part u) l r) = true := by
        cases hq : pDup (pMem T n part u) (pMemV T n part u) l r with
        | error e => rw [hq] at hm; cases hm
        | ok s => rfl
      have hlt : l.length + 1 < 8 := by
        unfold pMore at hm
        rw [Bool.and_eq_true, decide_eq_true_eq] at hm
        exact hm.2
      obtain ⟨I4, d1, d2, d3, d4, d5⟩ := ih fu (l ++ [pMemV T n part u r]) I3 (pNext T n (l.length + 1) (pDup (pMem T n part u) (pMemV T n part u) l r)) k2 (by rw [len_snoc]; omega) (by rw [len_snoc]; omega) (by omega) (cX_K h2 c2) c3 (fun _ => hrw3 hok) (hb2 hok) b5 hs3
      rw [len_snoc] at d1
      refine ⟨I4, ?_, frW_t fr3 d2, d3, d4, d5⟩
      rw [aL]
      exact d1
theorem c_rowText {part : Nat} {u : Int} {I : Nat → Nat → Int32} {r : PS} (hp : part < 4) (u1 : -10 ≤ u) (u2 : u ≤ 10) (h : cX I v T n) (hr : cO I T n r) : ∃ I', fX6_rowText 53 (iZ (part : Int)) (iZ u) (mkS X I J v) = some ((), mkS X I' J v) ∧ frW I I' ∧ cO I' T n (pRow T n (pMem T n part u) (pMemV T n part u) 8 [] r).2 ∧ (pOk (pRow T n (pMem T n part u) (pMemV T n part u) 8 [] r).2 = true → rw8 I' (pRow T n (pMem T n part u) (pMemV T n part u) 8 [] r).1 ∧ ∀ y, y ∈ (pRow T n (pMem T n part u) (pMemV T n part u) 8 [] r).1 → memR part y) ∧ ∃ k : Nat, k ≤ 8 ∧ I' 55 1 = iZ (k : Int) := by
  unfold fX6_rowText
  simp only [bO, o53R, row_c isRow55, row_clear isRow55]
  have fr : frW I (gup I 55 1 0) := ⟨fun r k a b c => gup_r b, gup_r (by decide)⟩
  obtain ⟨I', a1, a2, a3, a4, a5⟩ := c_rowL (X := X) (J := J) (v := v) (T := T) (n := n) hp u1 u2 8 20000 [] (gup I 55 1 0) r 0 rfl (by decide) (by decide) (cX_W h fr) (cO_W hr (fun k => gup_r (by decide))) (fun _ => ⟨gup_s, by decide, fun j hj => absurd hj (Nat.not_lt_zero j)⟩) (fun y hy => by cases hy) (by decide) gup_s
  exact ⟨I', a1, frW_t fr a2, a3, a4, a5⟩
end gRw
