/-! OWN WORDS of the reference -/
def wOff : Nat → Nat
  | 0 => 0
  | w + 1 => wOff w + owl w + 1
theorem wOffT : wOff 29 = 132 ∧ (∀ w, w < 29 → wOff w + owl w < 132) ∧ (∀ w, w < 29 → ∀ j, j < owl w → ownc (wOff w + j) = owc w j) ∧ ∀ w, w < 29 → ownc (wOff w + owl w) = 32 := by decide +kernel
section gMw
variable {X : Nat × (Nat → Int32)} {J : Nat → Nat → Int64} {v : Vt} {T : Nat → Nat} {n : Nat}
theorem m_likeL {I : Nat → Nat → Int32} {w a : Nat} (h : mX I T n) (hw : w < 29) (h2 : I 267 2 = iZ (a : Int)) (ha : a + owl w ≤ n) : ∀ (m i fuel : Nat), i + m = owl w → m < fuel → gX12_isLike_L2 267 (iZ (wOff w : Nat)) (iZ (owl w : Nat)) fuel (iZ (i : Int)) (mkS X I J v) = some (tf (!exF (fun j => T (a + j) != owc w j) i m), mkS X I J v) := by
  have hn := h.1.1
  obtain ⟨t1, t2, t3, t4⟩ := wOffT
  have ol := owl_le w hw
  have t2' := t2 w hw
  intro m
  induction m with
  | zero =>
    intro i fuel hi hf
    obtain ⟨f, rfl⟩ : ∃ n, fuel = n + 1 := ⟨fuel - 1, by omega⟩
    unfold gX12_isLike_L2
    rw [if_neg (by rw [iZ_lt (by omega) (by omega) (by omega) (by omega)]; omega)]
    rfl
  | succ m ih =>
    intro i fuel hi hf
    obtain ⟨f, rfl⟩ : ∃ n, fuel = n + 1 := ⟨fuel - 1, by omega⟩
    unfold gX12_isLike_L2
    rw [if_pos (by rw [iZ_lt (by omega) (by omega) (by omega) (by omega)]; omega)]
    simp only [bO, o267, o267R, h2, iZ_add]
    rw [show ((wOff w : Nat) : Int) + (i : Int) = ((wOff w + i : Nat) : Int) by omega, a270 _ _ _ _ _ (by omega), h.2.2 _ (by omega), t3 w hw i (by omega)]
    simp only [bO]
    rw [show (a : Int) + (i : Int) = ((a + i : Nat) : Int) by omega, m_tx h (by omega)]
    simp only [bO]
    rw [show iZ (i : Int) + 1 = iZ ((i + 1 : Nat) : Int) from by rw [aL]; rfl, ih (i + 1) f (by omega) (by omega)]
    have oc := owc_r w hw i (by omega)
    have hT := (h.1.2 (a + i) (by omega)).1
    show _ = some (tf (!((T (a + i) != owc w i) || exF (fun j => T (a + j) != owc w j) (i + 1) m)), mkS X I J v)
    by_cases q : T (a + i) = owc w i
    · rw [if_pos (by rw [q]), show (T (a + i) != owc w i) = false from by simpa using q]; rfl
    · rw [if_neg (by rw [iZ_eq (by omega) (by omega) (by omega) (by omega)]; omega), show (T (a + i) != owc w i) = true from by simpa using q]; rfl
theorem m_longL {I : Nat → Nat → Int32} {K : Int32 → gH → Option (Int32 × gH)} {a : Nat} (h : mX I T n) (h2 : I 267 2 = iZ (a : Int)) (ha : a ≤ n) : ∀ (m j fuel : Nat), n - (a + j) ≤ m → m < fuel → a + j ≤ n → (∀ i, a ≤ i → i < a + j → isLb (T i) = true) → gX12_ownHere_L11 K 267 fuel (iZ (j : Int)) (mkS X I J v) = K (iZ ((rn T n isLb a - a : Nat) : Int)) (mkS X I J v) := by
  have hn := h.1.1
  intro m
  induction m with
  | zero =>
    intro j fuel hm hf hj hl
    obtain ⟨f, rfl⟩ : ∃ n, fuel = n + 1 := ⟨fuel - 1, by omega⟩
    unfold gX12_ownHere_L11
    simp only [bO, o267, h2, h.2.1, iZ_add]
    rw [if_neg (by rw [iZ_lt (by omega) (by omega) (by omega) (by omega)]; omega)]
    have e : rn T n isLb a = a + j := rn_eq (by omega) (fun i x y => ⟨by omega, hl i x y⟩) (by omega)
    rw [e, show a + j - a = j by omega]
  | succ m ih =>
    intro j fuel hm hf hj hl
    obtain ⟨f, rfl⟩ : ∃ n, fuel = n + 1 := ⟨fuel - 1, by omega⟩
    unfold gX12_ownHere_L11
    simp only [bO, o267, o267R, h2, h.2.1, iZ_add]
    by_cases c : a + j < n
    · rw [if_pos (by rw [iZ_lt (by omega) (by omega) (by omega) (by omega)]; omega), show (a : Int) + (j : Int) = ((a + j : Nat) : Int) by omega, m_tx h c]
      simp only [bO]
      rw [m_letter (h.1.2 _ c).1, gb2_some]
      cases q : isLb (T (a + j)) with
      | true =>
        rw [if_neg (show ¬ tf true = 0 by decide), show iZ (j : Int) + 1 = iZ ((j + 1 : Nat) : Int) from by rw [aL]; rfl]
        exact ih (j + 1) f (by omega) (by omega) (by omega) (fun i x y => by
          by_cases z : i = a + j
          · rw [z]; exact q
          · exact hl i x (by omega))
      | false =>
        rw [if_pos tf_f]
        have e : rn T n isLb a = a + j := rn_eq (by omega) (fun i x y => ⟨by omega, hl i x y⟩) (fun z => by rw [q] at z; cases z.2)
        rw [e, show a + j - a = j by omega]
    · rw [if_neg (by rw [iZ_lt (by omega) (by omega) (by omega) (by omega)]; omega)]
      have e : rn T n isLb a = a + j := rn_eq (by omega) (fun i x y => ⟨by omega, hl i x y⟩) (by omega)
      rw [e, show a + j - a = j by omega]
theorem m_ownL {I : Nat → Nat → Int32} {a e : Nat} (h : mX I T n) (h2 : I 267 2 = iZ (a : Int)) (hae : a ≤ e) (hen : e ≤ n) : ∀ (m w fuel : Nat), w + m = 29 → 132 - wOff w < fuel → gX12_ownHere_L54 267 (iZ ((e - a : Nat) : Int)) fuel (iZ (w : Int)) (iZ (wOff w : Nat)) (iZ (wOff w : Nat)) (mkS X I J v) = some (iZ (nx (wq T a e) m w), mkS X I J v) := by
  have hn := h.1.1
  obtain ⟨t1, t2, t3, t4⟩ := wOffT
  intro m
  induction m with
  | zero =>
    intro w fuel hw hf
    obtain ⟨f, rfl⟩ : ∃ n, fuel = n + 1 := ⟨fuel - 1, by omega⟩
    have : w = 29 := by omega
    subst this
    unfold gX12_ownHere_L54
    simp only [bO, o267R, n270]
    rw [t1, if_neg (by rw [iZ_lt (by omega) (by omega) (by omega) (by omega)]; omega)]
    rfl
  | succ m ih =>
    intro w fuel hw hf
    have hw29 : w < 29 := by omega
    have ol := owl_le w hw29
    have t2' := t2 w hw29
    have es : wOff (w + 1) = wOff w + owl w + 1 := rfl
    -- over its letters
    have let_ : ∀ (k j fuel : Nat), j + k = owl w → 132 - (wOff w + j) < fuel → ∃ f2, 132 - (wOff w + owl w) < f2 ∧ gX12_ownHere_L54 267 (iZ ((e - a : Nat) : Int)) fuel (iZ (w : Int)) (iZ (wOff w : Nat)) (iZ ((wOff w + j : Nat) : Int)) (mkS X I J v) = gX12_ownHere_L54 267 (iZ ((e - a : Nat) : Int)) f2 (iZ (w : Int)) (iZ (wOff w : Nat)) (iZ ((wOff w + owl w : Nat) : Int)) (mkS X I J v) := by
      intro k
      induction k with
      | zero =>
        intro j fuel hj hf
        have : j = owl w := by omega
        subst this
        exact ⟨fuel, hf, rfl⟩
      | succ k ihk =>
        intro j fuel hj hf
        obtain ⟨f, rfl⟩ : ∃ n, fuel = n + 1 := ⟨fuel - 1, by omega⟩
        obtain ⟨f2, g1, g2⟩ := ihk (j + 1) f (by omega) (by omega)
        refine ⟨f2, g1, ?_⟩
        rw [← g2]
        conv => lhs; unfold gX12_ownHere_L54
        simp only [bO, o267R, n270]
        have oc := owc_r w hw29 j (by omega)
        rw [if_pos (by rw [iZ_lt (by omega) (by omega) (by omega) (by omega)]; omega), a270 _ _ _ _ _ (by omega), h.2.2 _ (by omega), t3 w hw29 j (by omega)]
        simp only [bO]
        rw [if_neg (by rw [cL_eq (by omega) (by omega) (by decide)]; omega), aL]
        rfl
    obtain ⟨f2, g1, g2⟩ := let_ (owl w) 0 fuel (by omega) (by omega)
    rw [Nat.add_zero] at g2
    rw [g2]
    obtain ⟨f3, rfl⟩ : ∃ n, f2 = n + 1 := ⟨f2 - 1, by omega⟩
    unfold gX12_ownHere_L54
    simp only [bO, o267R, n270]
    rw [if_pos (by rw [iZ_lt (by omega) (by omega) (by omega) (by omega)]; omega), a270 _ _ _ _ _ (by omega), h.2.2 _ (by omega), t4 w hw29]
    simp only [bO, o267]
    rw [if_pos (show iZ ((32 : Nat) : Int) = 32 from rfl), aL, aL, iZ_sub]
    have ihw := ih (w + 1) f3 (by omega) (by omega)
    rw [es] at ihw
    rw [show ((w : Nat) : Int) + 1 = ((w + 1 : Nat) : Int) by omega, show ((wOff w + owl w : Nat) : Int) + 1 = ((wOff w + owl w + 1 : Nat) : Int) by omega, ihw]
    have en : nx (wq T a e) (m + 1) w = if wq T a e w = true then (w : Int) else nx (wq T a e) m (w + 1) := rfl
    rw [en]
    have ewq : wq T a e w = (e == a + owl w && !exF (fun j => T (a + j) != owc w j) 0 (owl w)) := rfl
    by_cases c : e = a + owl w
    · rw [if_pos (by rw [iZ_eq (by omega) (by omega) (by omega) (by omega)]; omega), show e - a = owl w by omega]
      rw [show e - a = owl w by omega] at ihw
      have hl : fX12_isLike 267 (iZ (wOff w : Nat)) (iZ (owl w : Nat)) (mkS X I J v) = some (tf (!exF (fun j => T (a + j) != owc w j) 0 (owl w)), mkS X I J v) := by
        unfold fX12_isLike gX12_isLike
        have := m_likeL (X := X) (J := J) (v := v) h hw29 h2 (by omega) (owl w) 0 20000 (by omega) (by omega)
        rw [show (0 : Int32) = iZ ((0 : Nat) : Int) from rfl, this, gzr_tf]
      rw [hl, gb2_some, ewq, show (e == a + owl w) = true from by simpa using c, Bool.true_and]
      cases (!exF (fun j => T (a + j) != owc w j) 0 (owl w))
      · rw [if_pos tf_f, ihw]; rfl
      · rfl
    · rw [if_neg (by rw [iZ_eq (by omega) (by omega) (by omega) (by omega)]; omega), ewq, show (e == a + owl w) = false from by simpa using c]
      rfl
theorem m_ownHere {I : Nat → Nat → Int32} {r : PS} (h : mX I T n) (hr : mO I T n r) : ∃ I', fX12_ownHere 267 (mkS X I J v) = some (iZ (pOw T n r), mkS X I' J v) ∧ frM I I' ∧ mO I' T n r ∧ mAt I' r := by
  have hn := h.1.1
  unfold fX12_ownHere
  simp only [o267]
  obtain ⟨I1, a1, a2, a3, a4⟩ := m_isWordHere (X := X) (J := J) (v := v) h hr
  rw [a1, gb2_some]
  have h1 := mX_M h a2
  refine ⟨I1, ?_, a2, a3, a4⟩
  cases r with
  | error e => rfl
  | ok s =>
    show (if tf (tkK T n s.1 s.2 == 1) = 0 then _ else _) = some (iZ (if tkK T n s.1 s.2 = 1 then owI T s.1 (tkE T n s.1) else -1), _)
    by_cases c : tkK T n s.1 s.2 = 1
    · rw [show (tkK T n s.1 s.2 == 1) = true from by simpa using c, if_neg (show ¬ tf true = 0 by decide), if_pos c]
      have a4' : I1 267 2 = iZ (s.1 : Int) := a4
      have hs := a3.2.1
      obtain ⟨t1, t2, t3, t4⟩ := tk1 c
      have hE := tkE_le (T := T) hs
      have hG := tkE_gt (T := T) t1
      have e1 := m_longL (X := X) (J := J) (v := v) (K := fun y14 s15 => gX12_ownHere_L54 267 y14 20000 0 0 0 s15) h1 a4' hs n 0 20000 (by omega) (by omega) (by omega) (fun i x y => by omega)
      have e1' : gX12_ownHere_L11 (fun y14 s15 => gX12_ownHere_L54 267 y14 20000 0 0 0 s15) 267 20000 0 (mkS X I1 J v) = _ := e1
      rw [e1', ← t3]
      exact m_ownL (X := X) (J := J) (v := v) h1 a4' (by omega) hE 29 0 20000 rfl (by decide)
    · rw [show (tkK T n s.1 s.2 == 1) = false from by simpa using c, if_pos tf_f, if_neg c]
      rfl
theorem m_passL : ∀ (m a fuel : Nat) (I : Nat → Nat → Int32), n - a ≤ m → m < fuel → mX I T n → I 267 2 = iZ (a : Int) → a ≤ n → gX12_passes_L0 267 fuel (mkS X I J v) = some ((), mkS X (gup (gup I 267 2 (iZ (rn T n isLb a : Nat))) 267 4 (iZ (rn T n isLb a : Nat))) J v) := by
  intro m
  induction m with
  | zero =>
    intro a fuel I hm hf h h2 ha
    obtain ⟨f, rfl⟩ : ∃ n, fuel = n + 1 := ⟨fuel - 1, by omega⟩
    have hn := h.1.1
    rw [rn_no (by omega), gup_id h2]
    unfold gX12_passes_L0
    simp only [bO, o267, h2, h.2.1]
    rw [if_neg (by rw [iZ_lt (by omega) (by omega) (by omega) (by omega)]; omega)]
  | succ m ih =>
    intro a fuel I hm hf h h2 ha
    obtain ⟨f, rfl⟩ : ∃ n, fuel = n + 1 := ⟨fuel - 1, by omega⟩
    have hn := h.1.1
    unfold gX12_passes_L0
    simp only [bO, o267, o267R, h2, h.2.1]
    by_cases c : a < n
    · rw [if_pos (by rw [iZ_lt (by omega) (by omega) (by omega) (by omega)]; omega), m_tx h c]
      simp only [bO]
      rw [m_letter (h.1.2 _ c).1, gb2_some]
      simp only [bO, o267, h2]
      cases q : isLb (T a) with
      | true =>
        rw [if_neg (show ¬ tf true = 0 by decide), show iZ (a : Int) + 1 = iZ ((a + 1 : Nat) : Int) from by rw [aL]; rfl]
        rw [ih (a + 1) f (gup I 267 2 (iZ ((a + 1 : Nat) : Int))) (by omega) (by omega) (mX_M h (frM_g (Or.inl rfl))) gup_s (by omega), gup_gup, ← rn_go c q]
      | false =>
        rw [if_pos tf_f, rn_no (fun z => by rw [q] at z; cases z.2), gup_id h2]
    · rw [if_neg (by rw [iZ_lt (by omega) (by omega) (by omega) (by omega)]; omega), rn_no (by omega), gup_id h2]
/-- behind a word or a number -/
theorem mO_behind {I I' : Nat → Nat → Int32} {s : Nat × Bool} (hr : mO I T n (.ok s)) (hk : tkK T n s.1 s.2 = 1 ∨ tkK T n s.1 s.2 = 2) (h5 : I' 267 5 = I 267 5) (h2 : I' 267 2 = iZ (tkE T n s.1 : Nat)) (h4 : I' 267 4 = iZ (tkE T n s.1 : Nat)) (h6 : I' 267 6 = I 267 6) : mO I' T n (pAdv T n (.ok s)) := by
  have hE := tkE_le (T := T) hr.2.1
  show mO I' T n (pGo T n (tkE T n s.1) (tkK T n s.1 s.2 == 1 || tkK T n s.1 s.2 == 2))
  have hw : (tkK T n s.1 s.2 == 1 || tkK T n s.1 s.2 == 2) = true := by
    rcases hk with q | q <;> rw [q] <;> rfl
  rw [hw]
  have g := rn_ge (T := T) (n := n) (P := isBb) (tkE T n s.1)
  refine ⟨by rw [h5]; exact hr.1, rn_le hE, tkE T n s.1, (tkE T n s.1 : Int), h2, h4, by omega, by omega, g, rfl, ?_, by rw [h6]; obtain ⟨_, _, _, _, _, _, _, _, _, _, _, e8⟩ := hr; exact e8⟩
  show ((tkE T n s.1 : Int) = ((rn T n isBb (tkE T n s.1) : Nat) : Int)) ↔ (true && rn T n isBb (tkE T n s.1) == tkE T n s.1) = true
  rw [Bool.true_and, beq_iff_eq]
  omega
theorem m_passes {I : Nat → Nat → Int32} {s : Nat × Bool} (h : mX I T n) (hr : mO I T n (.ok s)) (ha : mAt I (.ok s)) (hk : tkK T n s.1 s.2 = 1) : ∃ I', fX12_passes 267 (mkS X I J v) = some ((), mkS X I' J v) ∧ frM I I' ∧ mO I' T n (pAdv T n (.ok s)) ∧ ∀ k, k ≠ 2 → k ≠ 4 → I' 267 k = I 267 k := by
  have hn := h.1.1
  have hs := hr.2.1
  unfold fX12_passes
  rw [m_passL n s.1 20000 I (by omega) (by omega) h ha hs]
  have e := (tk1 hk).2.2.1
  refine ⟨_, rfl, frM_t (frM_g (by decide)) (frM_g (by decide)), ?_, fun k x y => by rw [gup_k y, gup_k x]⟩
  rw [← e]
  exact mO_behind hr (Or.inl hk) (by rw [gup_k (by decide), gup_k (by decide)]) (by rw [gup_k (by decide), gup_s]) gup_s (by rw [gup_k (by decide), gup_k (by decide)])
theorem m_takes {I : Nat → Nat → Int32} {r : PS} {w : Nat} (hw : w < 29) (h : mX I T n) (hr : mO I T n r) : ∃ I', fX12_takes 267 (iZ (w : Int)) (mkS X I J v) = some (tf (pOw T n r == (w : Int)), mkS X I' J v) ∧ frM I I' ∧ mO I' T n (if pOw T n r = (w : Int) then pAdv T n r else r) ∧ (pOw T n r ≠ (w : Int) → mAt I' r) := by
  have hp := pOw_r T n r
  unfold fX12_takes gX12_takes
  simp only [o267]
  obtain ⟨I1, a1, a2, a3, a4⟩ := m_ownHere (X := X) (J := J) (v := v) h hr
  rw [a1, gb2_some]
  simp only [o267]
  by_cases c : pOw T n r = (w : Int)
  · rw [if_pos (by rw [c]), if_pos c, show (pOw T n r == (w : Int)) = true from by simpa using c]
    have hk := pKd_ow (T := T) (n := n) (r := r) (by omega)
    cases r with
    | error e => have : (-1 : Int) = (w : Int) := c; omega
    | ok s =>
      obtain ⟨I2, b1, b2, b3, -⟩ := m_passes (X := X) (J := J) (v := v) (mX_M h a2) a3 a4 hk
      rw [b1]
      exact ⟨I2, rfl, frM_t a2 b2, b3, fun q => absurd c q⟩
  · rw [if_neg (by rw [iZ_eq (by omega) (by omega) (by omega) (by omega)]; exact c), if_neg c, show (pOw T n r == (w : Int)) = false from by simpa using c]
    exact ⟨I1, rfl, a2, a3, fun _ => a4⟩
theorem m_asks {I : Nat → Nat → Int32} {r : PS} {w : Nat} (hw : w < 29) (h : mX I T n) (hr : mO I T n r) : ∃ I', fX12_asks 267 (iZ (w : Int)) (mkS X I J v) = some ((), mkS X I' J v) ∧ frM I I' ∧ mO I' T n (pPass T n (pOw T n r == (w : Int)) r) := by
  unfold fX12_asks
  simp only [bO, o267]
  cases hok : pOk r with
  | false =>
    rw [if_neg (mO_err hr hok)]
    refine ⟨I, rfl, frM_r I, ?_⟩
    cases r with
    | ok s => cases hok
    | error e =>
      unfold pPass
      split
      · exact hr
      · exact hr
  | true =>
    rw [if_pos (mO_ok hr hok)]
    obtain ⟨I1, a1, a2, a3, a4⟩ := m_takes (X := X) (J := J) (v := v) hw h hr
    rw [a1, gb2_some]
    simp only [bO, o267]
    unfold pPass
    by_cases c : pOw T n r = (w : Int)
    · rw [show (pOw T n r == (w : Int)) = true from by simpa using c, if_neg (show ¬ tf true = 0 by decide), if_pos rfl]
      rw [if_pos c] at a3
      exact ⟨I1, rfl, a2, a3⟩
    · rw [show (pOw T n r == (w : Int)) = false from by simpa using c, if_pos tf_f, if_neg (by decide)]
      rw [if_neg c] at a3
      obtain ⟨I2, b1, b2, b3⟩ := m_failS (X := X) (J := J) (v := v) (f := 1) (by decide) (by decide) a3 (a4 c)
      have b1' : fX12_fail 267 1 (I1 267 2) (mkS X I1 J v) = some ((), mkS X I2 J v) := b1
      rw [b1']
      exact ⟨I2, rfl, frM_t a2 b2, b3⟩
end gMw
