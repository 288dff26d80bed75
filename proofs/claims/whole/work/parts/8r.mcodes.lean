/-! CODES and what waits, the reference -/
def frD5 (k : Nat) (I I' : Nat → Nat → Int32) : Prop := (∀ r j, r ≠ 267 → r ≠ 277 → r ≠ 280 → I' r j = I r j) ∧ (∀ j, j ≠ 2 → j ≠ 4 → j ≠ 5 → j ≠ 6 → j ≠ 10 → j ≠ 12 → j ≠ 22 → I' 267 j = I 267 j) ∧ ∀ j, j < 2 * k → I' 277 j = I 277 j
theorem frD5_r (k : Nat) (I : Nat → Nat → Int32) : frD5 k I I := ⟨fun _ _ _ _ _ => rfl, fun _ _ _ _ _ _ _ _ => rfl, fun _ _ => rfl⟩
theorem frD5_t {k : Nat} {I I' I'' : Nat → Nat → Int32} (h1 : frD5 k I I') (h2 : frD5 k I' I'') : frD5 k I I'' := ⟨fun r j a b c => (h2.1 r j a b c).trans (h1.1 r j a b c), fun j a b c d e f g => (h2.2.1 j a b c d e f g).trans (h1.2.1 j a b c d e f g), fun j a => (h2.2.2 j a).trans (h1.2.2 j a)⟩
theorem frD5_M {k : Nat} {I I' : Nat → Nat → Int32} (h : frM I I') : frD5 k I I' := ⟨fun r j a _ _ => h.1 r j a, fun j a b c d e f _ => h.2 j a b c d e f, fun j _ => h.1 277 j (by decide)⟩
theorem frD5_w {k k' : Nat} {I I' : Nat → Nat → Int32} (h : frD5 k' I I') (hk : k ≤ k') : frD5 k I I' := ⟨h.1, h.2.1, fun j a => h.2.2 j (by omega)⟩
def cfC (I : Nat → Nat → Int32) (k0 : Nat) (C : List (Nat × Nat)) : Prop := I 267 22 = iZ ((k0 + C.length : Nat) : Int) ∧ mgD I k0 C
theorem mgD_snoc {I : Nat → Nat → Int32} {o : Nat × Nat} : ∀ {L : List (Nat × Nat)} {k : Nat}, mgD I k L → I 277 (2 * (k + L.length)) = iZ (o.1 : Int) → I 277 (2 * (k + L.length) + 1) = iZ (o.2 : Int) → mgD I k (L ++ [o]) := by
  intro L
  induction L with
  | nil => intro k _ h1 h2; exact ⟨h1, h2, trivial⟩
  | cons p L ih =>
    intro k ⟨a, b, c⟩ h1 h2
    refine ⟨a, b, ih c ?_ ?_⟩
    · rw [show k + 1 + L.length = k + (p :: L).length by simp only [List.length_cons]; omega]; exact h1
    · rw [show k + 1 + L.length = k + (p :: L).length by simp only [List.length_cons]; omega]; exact h2
theorem cfC_M {I I' : Nat → Nat → Int32} {k0 : Nat} {C : List (Nat × Nat)} (h : cfC I k0 C) (f1 : I' 267 22 = I 267 22) (f2 : ∀ j, I' 277 j = I 277 j) : cfC I' k0 C := ⟨by rw [f1]; exact h.1, mgD_fr (fun j _ => f2 j) h.2⟩
theorem cfC_m {I I' : Nat → Nat → Int32} {k0 : Nat} {C : List (Nat × Nat)} (h : cfC I k0 C) (f : frM I I') : cfC I' k0 C := cfC_M h (f.2 22 (by decide) (by decide) (by decide) (by decide) (by decide) (by decide)) (fun j => f.1 277 j (by decide))
section gMc
variable {X : Nat × (Nat → Int32)} {J : Nat → Nat → Int64} {v : Vt} {T : Nat → Nat} {n : Nat}
theorem mX_5 {k : Nat} {I I' : Nat → Nat → Int32} (h : mX I T n) (f : frD5 k I I') : mX I' T n := ⟨⟨h.1.1, fun k hk => by rw [f.1 268 k (by decide) (by decide) (by decide)]; exact h.1.2 k hk⟩, by rw [f.2.1 3 (by decide) (by decide) (by decide) (by decide) (by decide) (by decide) (by decide)]; exact h.2.1, fun k hk => by rw [f.1 270 k (by decide) (by decide) (by decide)]; exact h.2.2 k hk⟩
theorem mCal_5 {k : Nat} {I I' : Nat → Nat → Int32} (h : mCal I) (f : frD5 k I I') : mCal I' := ⟨by rw [f.2.1 17 (by decide) (by decide) (by decide) (by decide) (by decide) (by decide) (by decide)]; exact h.1, calOK_Y h.2 (fun r k x y => f.1 r k (by omega) (by omega) (by omega))⟩
theorem mNm_5 {k nR nS : Nat} {nm : Nat → List Nat} {I I' : Nat → Nat → Int32} (h : mNm I nR nS nm) (f : frD5 k I I') : mNm I' nR nS nm := mNm_M h (fun j => f.1 275 j (by decide) (by decide) (by decide))
theorem m_codes {I : Nat → Nat → Int32} {r : PS} {k0 op : Nat} {C : List (Nat × Nat)} {x : Int32} (hr : mO I T n r) (hC : pOk r = true → cfC I k0 C ∧ k0 + C.length < 1500) : ∃ I', fX12_codes 267 (iZ (op : Int)) x (mkS X I J v) = some ((), mkS X I' J v) ∧ frD5 (k0 + C.length) I I' ∧ mO I' T n r ∧ (pOk r = true → ∀ ar : Nat, x = iZ (ar : Int) → cfC I' k0 (C ++ [(op, ar)])) ∧ ∀ j, I' 280 j = I 280 j := by
  unfold fX12_codes
  simp only [bO, o267, o267R]
  cases hok : pOk r with
  | false =>
    rw [if_neg (mO_err hr hok)]
    exact ⟨I, rfl, frD5_r _ I, hr, (fun q => by cases q), fun _ => rfl⟩
  | true =>
    obtain ⟨⟨c1, c2⟩, c3⟩ := hC hok
    rw [if_pos (mO_ok hr hok), c1, pR, show 2 * ((k0 + C.length : Nat) : Int) = ((2 * (k0 + C.length) : Nat) : Int) by omega, b277 _ _ _ _ _ _ (by omega)]
    simp only [bO, o267, o267R]
    rw [gup_r (show (267 : Nat) ≠ 277 by decide), c1, pR, aL, show 2 * ((k0 + C.length : Nat) : Int) + 1 = ((2 * (k0 + C.length) + 1 : Nat) : Int) by omega, b277 _ _ _ _ _ _ (by omega)]
    simp only [bO, o267, gnar_2]
    rw [gup_r (show (267 : Nat) ≠ 277 by decide), gup_r (show (267 : Nat) ≠ 277 by decide), c1, aL, show ((k0 + C.length : Nat) : Int) + 1 = ((k0 + C.length + 1 : Nat) : Int) by omega]
    refine ⟨_, rfl, ⟨fun r j a b c => by rw [gup_r a, gup_r b, gup_r b], fun j a b c d e f g => by rw [gup_k g, gup_r (by decide), gup_r (by decide)], fun j hj => by rw [gup_r (by decide), gup_k (by omega), gup_k (by omega)]⟩, mO_7 hr (fun k hk => by rw [gup_k (by omega), gup_r (by decide), gup_r (by decide)]), fun _ ar hx => ⟨?_, ?_⟩, fun j => by rw [gup_r (by decide), gup_r (by decide), gup_r (by decide)]⟩
    · rw [gup_s, List.length_append, List.length_singleton]; rfl
    · refine mgD_snoc (mgD_fr (fun j hj => by rw [gup_r (by decide), gup_k (by omega), gup_k (by omega)]) c2) ?_ ?_
      · rw [gup_r (by decide), gup_k (by omega), gup_s]
      · rw [gup_r (by decide), gup_s, hx]
/-! days -/
theorem m_dayDup {K : gH → Option (Unit × gH)} {bg : Nat} {l : List Int} {p : Int} {r' : PS} (hl : l.length ≤ 8) (hok : pOk r' = true) (hp : 0 ≤ p ∧ p < 14610) (hlb : ∀ y, y ∈ l → 0 ≤ y ∧ y < 14610) : ∀ (m j fuel : Nat) (I : Nat → Nat → Int32), j + m = l.length → m + 1 < fuel → mO I T n r' → (∀ k, k < l.length → I 280 k = iZ (l.getD k 0)) → ∃ I', gX12_daysTold_L38 K 267 (iZ (l.length : Int)) (iZ (bg : Int)) (iZ p) fuel (iZ (j : Int)) (mkS X I J v) = K (mkS X I' J v) ∧ frM I I' ∧ mO I' T n (if exF (fun i => l.getD i 0 == p) j m = true then .error (4, bg) else r') := by
  intro m
  induction m with
  | zero =>
    intro j fuel I hj hf hr hI
    obtain ⟨f, rfl⟩ : ∃ n, fuel = n + 1 := ⟨fuel - 1, by omega⟩
    refine ⟨I, ?_, frM_r I, hr⟩
    unfold gX12_daysTold_L38
    rw [if_neg (by rw [iZ_lt (by omega) (by omega) (by omega) (by omega)]; omega)]
  | succ m ih =>
    intro j fuel I hj hf hr hI
    obtain ⟨f, rfl⟩ : ∃ n, fuel = n + 1 := ⟨fuel - 1, by omega⟩
    unfold gX12_daysTold_L38
    rw [if_pos (by rw [iZ_lt (by omega) (by omega) (by omega) (by omega)]; omega)]
    simp only [bO, o267, o267R]
    rw [if_pos (mO_ok hr hok), a280 _ _ _ _ _ (by omega), hI j (by omega)]
    simp only [bO, o267]
    have hb := hlb _ (mem_get.mpr ⟨j, by omega, rfl⟩)
    have eX : exF (fun i => l.getD i 0 == p) j (m + 1) = ((l.getD j 0 == p) || exF (fun i => l.getD i 0 == p) (j + 1) m) := rfl
    rw [eX]
    by_cases c : l.getD j 0 = p
    · rw [if_pos (by rw [c]), show (l.getD j 0 == p) = true from by simpa using c, Bool.true_or, if_pos rfl]
      obtain ⟨I2, a1, a2, a3, -⟩ := m_fail (X := X) (J := J) (v := v) (f := 4) (p := bg) (by decide) (by decide) hr
      have a1' : fX12_fail 267 4 (iZ (bg : Int)) (mkS X I J v) = some ((), mkS X I2 J v) := a1
      rw [a1', gb2_some]
      rw [pFail_ok hok] at a3
      refine ⟨I2, ?_, a2, a3⟩
      obtain ⟨f2, rfl⟩ : ∃ n, f = n + 1 := ⟨f - 1, by omega⟩
      unfold gX12_daysTold_L38
      simp only [bO, o267]
      rw [if_neg (mO_err a3 rfl)]
      split <;> rfl
    · rw [if_neg (by rw [iZ_eq (by omega) (by omega) (by omega) (by omega)]; exact c), show (l.getD j 0 == p) = false from by simpa using c, Bool.false_or, show iZ (j : Int) + 1 = iZ ((j + 1 : Nat) : Int) from by rw [aL]; rfl]
      exact ih (j + 1) f I (by omega) (by omega) hr hI
theorem daysC_snoc {l : List Int} {d : Int} : daysC (l ++ [d]) = daysC l ++ [(if l.length = 0 then 1 else 2, d.toNat)] := by
  cases l with
  | nil => rfl
  | cons x l =>
    show (1, x.toNat) :: (l ++ [d]).map _ = (1, x.toNat) :: (l.map _) ++ _
    rw [List.map_append, if_neg (by rw [List.length_cons]; omega)]; rfl
theorem daysC_len (l : List Int) : (daysC l).length = l.length := by
  cases l with
  | nil => rfl
  | cons x l => show ((1, x.toNat) :: l.map _).length = _; rw [List.length_cons, List.length_map, List.length_cons]
theorem pRow_e3 {m : PS → PS} {mv : PS → Int} {e : Nat × Nat} (hm : m (.error e) = .error e) : (pRow T n m mv 8 [] (.error e)).2 = .error e := by
  have ed : pDup m mv [] (.error e) = .error e := by unfold pDup; rw [hm, if_neg (fun q => by cases q.1)]
  show (if pMore T n (0 + 1) (pDup m mv [] (.error e)) = true then _ else _ : List Int × PS).2 = _
  rw [ed]
  rfl
theorem m_days {I : Nat → Nat → Int32} {r : PS} {k0 : Nat} {C : List (Nat × Nat)} (h : mX I T n) (hr : mO I T n r) (hcal : mCal I) (hC : pOk r = true → cfC I k0 C ∧ k0 + C.length + 8 < 1500) : ∃ I', fX12_daysTold 267 (mkS X I J v) = some ((), mkS X I' J v) ∧ frD5 (k0 + C.length) I I' ∧ mO I' T n (pDayRow T n r).2 ∧ (pOk (pDayRow T n r).2 = true → cfC I' k0 (C ++ daysC (pDayRow T n r).1)) := by
  unfold fX12_daysTold
  simp only [bO, o267]
  cases r with
  | error e =>
    rw [if_neg (mO_err hr rfl)]
    have e1 : (pDayRow T n (.error e)).2 = .error e := pRow_e3 rfl
    exact ⟨I, rfl, frD5_r _ I, by rw [e1]; exact hr, fun q => by rw [e1] at q; cases q⟩
  | ok s =>
    rw [if_pos hr.1]
    obtain ⟨hC1, hC2⟩ := hC rfl
    have key := m_rowG (X := X) (J := J) (v := v) (T := T) (n := n) (G := fun fu c x s => gX12_daysTold_L15 267 fu (iZ (c : Int)) x s) (m := pDate T n) (mv := fun r => ((pDateV T n r : Nat) : Int)) (R := fun I l => (∀ k, k < l.length → I 280 k = iZ (l.getD k 0)) ∧ cfC I k0 (C ++ daysC l)) (E := mCal) (Q := fun y => 0 ≤ y ∧ y < 14610) (Fr := frD5 (k0 + C.length)) (fun h1 h2 => frD5_t h1 h2) (fun h => frD5_M h) (fun h1 h2 => mX_5 h2 h1) (fun h1 h2 => mCal_5 h2 h1) (fun h1 h2 => ⟨fun k hk => by rw [h1.1 280 _ (by decide)]; exact h2.1 k hk, cfC_m h2.2 h1⟩) (fun r q => by have := pDate_r q; omega) (fun fu c s => by
      show gX12_daysTold_L15 267 (fu + 1) _ 0 s = _
      unfold gX12_daysTold_L15
      rw [if_pos rfl]) ?_ 8 20000 [] I s rfl (by decide) (by decide) h hcal hr ⟨fun k hk => absurd hk (Nat.not_lt_zero k), by rw [show daysC [] = [] from rfl, List.append_nil]; exact hC1⟩ (fun y hy => by cases hy)
    · obtain ⟨I', a1, a2, a3, a4⟩ := key
      exact ⟨I', a1, a2, a3, fun q => (a4 q).2⟩
    · intro fu I l s h hcal hr hRl hl8 hq
      obtain ⟨q1, q2⟩ := hRl
      show ∃ I2, gX12_daysTold_L15 267 (fu + 1) (iZ (l.length : Int)) 1 (mkS X I J v) = (gb2 (fX12_takesSign 267 44 (mkS X I2 J v)) fun r17 s18 => gX12_daysTold_L15 267 fu (iZ ((l.length + 1 : Nat) : Int)) r17 s18) ∧ _
      obtain ⟨o, ho⟩ : ∃ o, gX12_daysTold_L15 267 (fu + 1) (iZ (l.length : Int)) 1 (mkS X I J v) = o := ⟨_, rfl⟩
      rw [ho]
      conv at ho =>
        lhs
        unfold gX12_daysTold_L15
      rw [if_neg (show ¬ (1 : Int32) = 0 by decide)] at ho
      obtain ⟨I1, a1, a2, a3, a4⟩ := m_room (X := X) (J := J) (v := v) hl8 h hr
      have h1 := mX_M h a2
      obtain ⟨I2, x, b1, b2, b3, b4⟩ := m_date (X := X) (J := J) (v := v) h1 a3 (mCal_5 hcal (frD5_M (k := 0) a2))
      simp only [o267, a1, bO, b1, a4] at ho
      rw [aL, show ((l.length : Nat) : Int) + 1 = ((l.length + 1 : Nat) : Int) by omega] at ho
      have fr2 := frM_t a2 b2
      -- an end without more
      have stop : ∀ (I3 : Nat → Nat → Int32) (r3 : PS), mO I3 T n r3 → pOk r3 = false → (gb2 (fX12_takesSign 267 44 (mkS X I3 J v)) fun r26 s27 => gX12_daysTold_L15 267 fu (iZ (l.length : Int)) r26 s27) = (gb2 (fX12_takesSign 267 44 (mkS X I3 J v)) fun r26 s27 => gX12_daysTold_L15 267 fu (iZ ((l.length + 1 : Nat) : Int)) r26 s27) := by
        intro I3 r3 o3 e3
        have et : fX12_takesSign 267 44 (mkS X I3 J v) = some (0, mkS X I3 J v) := by
          unfold fX12_takesSign gX12_takesSign
          simp only [bO, o267]
          rw [if_neg (mO_err o3 e3)]; rfl
        rw [et, gb2_some, gb2_some]
        cases fu with
        | zero => rfl
        | succ k =>
          unfold gX12_daysTold_L15
          rw [if_pos rfl, if_pos rfl]
      have erK : ∀ (I3 : Nat → Nat → Int32) (r3 : PS) (x1 x3 x4 x5 : Int32) (f : Nat) (K : gH → Option (Unit × gH)), mO I3 T n r3 → pOk r3 = false → gX12_daysTold_L38 K 267 x1 x3 x4 (f + 1) x5 (mkS X I3 J v) = K (mkS X I3 J v) := by
        intro I3 r3 x1 x3 x4 x5 f K o3 e3
        unfold gX12_daysTold_L38
        simp only [bO, o267]
        rw [if_neg (mO_err o3 e3)]
        split <;> rfl
      by_cases c8 : l.length = 8
      · rw [if_pos c8] at a3 b3
        have hE : pOk (pDate T n (pNot (if pKd T n (.ok s) = 0 then 1 else 5) (.ok s))) = false := rfl
        rw [erK I2 _ _ _ _ _ 19999 _ b3 hE] at ho
        simp only [bO, o267] at ho
        rw [if_neg (mO_err b3 hE), stop I2 _ b3 hE] at ho
        exact ⟨I2, ho.symm, frD5_M fr2, by rw [if_pos c8]; exact b3, fun q => by omega⟩
      · rw [if_neg c8] at a3 b3 b4
        cases hok : pOk (pDate T n (.ok s)) with
        | false =>
          have eD : pDup (pDate T n) (fun r => ((pDateV T n r : Nat) : Int)) l (.ok s) = pDate T n (.ok s) := by unfold pDup; rw [if_neg (fun q => by rw [hok] at q; cases q.1)]
          rw [erK I2 _ _ _ _ _ 19999 _ b3 hok] at ho
          simp only [bO, o267] at ho
          rw [if_neg (mO_err b3 hok), stop I2 _ b3 hok] at ho
          exact ⟨I2, ho.symm, frD5_M fr2, by rw [if_neg c8, eD]; exact b3, fun _ q => by rw [eD, hok] at q; cases q⟩
        | true =>
          have hx := b4 hok
          have hr14 := pDate_r hok
          rw [hx] at ho
          have hI2 : ∀ k, k < l.length → I2 280 k = iZ (l.getD k 0) := fun k hk => by rw [fr2.1 280 _ (by decide)]; exact q1 k hk
          obtain ⟨I3, c1, c2, c3⟩ := m_dayDup (X := X) (J := J) (v := v) (T := T) (n := n) (K := fun s21 => (ggI s21 267 12 5).bind fun v22 => if v22 = 0 then (ggR s21 267 12 28).bind fun v29 => (saI s21 v29 2 (iZ (l.length : Int)) (iZ (pDateV T n (.ok s) : Nat))).bind fun s30 => if iZ (l.length : Int) = 0 then gb2 (gcv s30 267 12 (fX12_codes 267 1 (iZ (pDateV T n (.ok s) : Nat)) s30)) fun (_ : Unit) s36 => gb2 (gcv s36 267 12 (fX12_takesSign 267 44 s36)) fun r26 s27 => gX12_daysTold_L15 267 fu (iZ ((l.length + 1 : Nat) : Int)) r26 s27 else gb2 (gcv s30 267 12 (fX12_codes 267 2 (iZ (pDateV T n (.ok s) : Nat)) s30)) fun (_ : Unit) s36 => gb2 (gcv s36 267 12 (fX12_takesSign 267 44 s36)) fun r26 s27 => gX12_daysTold_L15 267 fu (iZ ((l.length + 1 : Nat) : Int)) r26 s27 else gb2 (gcv s21 267 12 (fX12_takesSign 267 44 s21)) fun r26 s27 => gX12_daysTold_L15 267 fu (iZ (l.length : Int)) r26 s27) (bg := s.1) (l := l) (p := ((pDateV T n (.ok s) : Nat) : Int)) (r' := pDate T n (.ok s)) hl8 hok (by omega) hq l.length 0 20000 I2 (by omega) (by omega) b3 hI2
          have c1' : gX12_daysTold_L38 _ 267 (iZ (l.length : Int)) (iZ (s.1 : Int)) (iZ ((pDateV T n (.ok s) : Nat) : Int)) 20000 0 (mkS X I2 J v) = _ := c1
          rw [c1'] at ho
          have eD : (if exF (fun i => l.getD i 0 == ((pDateV T n (.ok s) : Nat) : Int)) 0 l.length = true then .error (4, s.1) else pDate T n (.ok s)) = pDup (pDate T n) (fun r => ((pDateV T n r : Nat) : Int)) l (.ok s) := by
            unfold pDup
            by_cases z : ((pDateV T n (.ok s) : Nat) : Int) ∈ l
            · rw [if_pos (exF_mem.mpr z), if_pos ⟨hok, z⟩]; rfl
            · rw [if_neg (fun q => z (exF_mem.mp q)), if_neg (fun q => z q.2)]
          rw [eD] at c3
          simp only [bO, o267] at ho
          have fr3 := frM_t fr2 c2
          cases hk : pOk (pDup (pDate T n) (fun r => ((pDateV T n r : Nat) : Int)) l (.ok s)) with
          | false =>
            rw [if_neg (mO_err c3 hk), stop I3 _ c3 hk] at ho
            exact ⟨I3, ho.symm, frD5_M fr3, by rw [if_neg c8]; exact c3, fun _ q => by cases q⟩
          | true =>
            rw [if_pos (mO_ok c3 hk)] at ho
            simp only [o267R, bO] at ho
            rw [b280 _ _ _ _ _ _ (by omega)] at ho
            simp only [bO, o267, gnar_2] at ho
            have fr4 : frD5 (k0 + C.length) I (gup I3 280 l.length (iZ (pDateV T n (.ok s) : Nat))) := frD5_t (frD5_M fr3) ⟨fun r j a b c => gup_r c, fun j _ _ _ _ _ _ _ => gup_r (by decide), fun j _ => gup_r (by decide)⟩
            have c4 : cfC (gup I3 280 l.length (iZ (pDateV T n (.ok s) : Nat))) k0 (C ++ daysC l) := cfC_M (cfC_m q2 fr3) (gup_r (by decide)) (fun j => gup_r (by decide))
            have o4 : mO (gup I3 280 l.length (iZ (pDateV T n (.ok s) : Nat))) T n (pDup (pDate T n) (fun r => ((pDateV T n r : Nat) : Int)) l (.ok s)) := mO_7 c3 (fun k _ => gup_r (by decide))
            have hlen : (C ++ daysC l).length = C.length + l.length := by rw [List.length_append, daysC_len]
            obtain ⟨I5, d1, d2, d3, d4, d5⟩ := m_codes (X := X) (J := J) (v := v) (op := if l.length = 0 then 1 else 2) (x := iZ (pDateV T n (.ok s) : Nat)) o4 (fun _ => ⟨c4, by rw [hlen]; omega⟩)
            have ho2 : (gb2 (fX12_takesSign 267 44 (mkS X I5 J v)) fun r26 s27 => gX12_daysTold_L15 267 fu (iZ ((l.length + 1 : Nat) : Int)) r26 s27) = o := by
              by_cases z : l.length = 0
              · rw [if_pos z] at d1
                have d1' : fX12_codes 267 1 (iZ (pDateV T n (.ok s) : Nat)) (mkS X (gup I3 280 l.length (iZ (pDateV T n (.ok s) : Nat))) J v) = some ((), mkS X I5 J v) := d1
                rw [if_pos (by rw [z]; rfl), d1'] at ho
                simp only [bO, o267] at ho
                exact ho
              · rw [if_neg z] at d1
                have d1' : fX12_codes 267 2 (iZ (pDateV T n (.ok s) : Nat)) (mkS X (gup I3 280 l.length (iZ (pDateV T n (.ok s) : Nat))) J v) = some ((), mkS X I5 J v) := d1
                rw [if_neg (by rw [cL_eq (by omega) (by omega) (by decide)]; omega), d1'] at ho
                simp only [bO, o267] at ho
                exact ho
            refine ⟨I5, ho2.symm, frD5_t fr4 (frD5_w d2 (by omega)), by rw [if_neg c8]; exact d3, fun _ _ => ⟨fun k hk => ?_, ?_⟩⟩
            · rw [len_snoc] at hk
              rw [d5, getD_snoc]
              by_cases z : k < l.length
              · rw [if_pos z, gup_k (by omega), fr3.1 280 _ (by decide)]; exact q1 k z
              · rw [if_neg z, if_pos (by omega), show k = l.length by omega, gup_s]
            · rw [daysC_snoc, ← List.append_assoc]
              exact d4 hk _ (by rw [Int.toNat_natCast])
end gMc
