/-! THE REFERENCE READS: where it stands -/
def frM (I I' : Nat → Nat → Int32) : Prop := (∀ r k, r ≠ 267 → I' r k = I r k) ∧ ∀ k, k ≠ 2 → k ≠ 4 → k ≠ 5 → k ≠ 6 → k ≠ 10 → k ≠ 12 → I' 267 k = I 267 k
theorem frM_r (I : Nat → Nat → Int32) : frM I I := ⟨fun _ _ _ => rfl, fun _ _ _ _ _ _ _ => rfl⟩
theorem frM_t {I I' I'' : Nat → Nat → Int32} (h1 : frM I I') (h2 : frM I' I'') : frM I I'' := ⟨fun r k a => (h2.1 r k a).trans (h1.1 r k a), fun k a b c d e f => (h2.2 k a b c d e f).trans (h1.2 k a b c d e f)⟩
theorem frM_g {I : Nat → Nat → Int32} {k : Nat} {x : Int32} (h : k = 2 ∨ k = 4 ∨ k = 5 ∨ k = 6 ∨ k = 10 ∨ k = 12) : frM I (gup I 267 k x) := ⟨fun r j a => gup_r a, fun j a b c d e f => gup_k (by omega)⟩
def ownc (k : Nat) : Nat := ((OW.map (fun l => l ++ [32])).flatten).getD k 0
def mOwn (I : Nat → Nat → Int32) : Prop := ∀ k, k < 132 → I 270 k = iZ (ownc k : Nat)
def mX (I : Nat → Nat → Int32) (T : Nat → Nat) (n : Nat) : Prop := mT I T n ∧ I 267 3 = iZ (n : Int) ∧ mOwn I
def mO (I : Nat → Nat → Int32) (T : Nat → Nat) (n : Nat) : PS → Prop
  | .ok s => I 267 5 = 0 ∧ s.1 ≤ n ∧ ∃ (p : Nat) (q : Int), I 267 2 = iZ (p : Int) ∧ I 267 4 = iZ q ∧ -1 ≤ q ∧ q ≤ p ∧ p ≤ s.1 ∧ rn T n isBb p = s.1 ∧ (q = s.1 ↔ s.2 = true) ∧ I 267 6 = -1
  | .error e => I 267 5 = iZ (e.1 : Int) ∧ e.1 ≠ 0 ∧ e.1 < 10 ∧ I 267 6 = iZ (e.2 : Int)
/-- it has looked -/
def mAt (I : Nat → Nat → Int32) : PS → Prop
  | .ok s => I 267 2 = iZ (s.1 : Int)
  | .error _ => True
section gMl
variable {X : Nat × (Nat → Int32)} {J : Nat → Nat → Int64} {v : Vt} {T : Nat → Nat} {n : Nat}
theorem mX_M {I I' : Nat → Nat → Int32} (h : mX I T n) (f : frM I I') : mX I' T n := ⟨⟨h.1.1, fun k hk => by rw [f.1 268 k (by decide)]; exact h.1.2 k hk⟩, by rw [f.2 3 (by decide) (by decide) (by decide) (by decide) (by decide) (by decide)]; exact h.2.1, fun k hk => by rw [f.1 270 k (by decide)]; exact h.2.2 k hk⟩
theorem m_tx {I : Nat → Nat → Int32} {k : Nat} (h : mX I T n) (hk : k < n) : gaI (mkS X I J v) 268 2 (iZ (k : Int)) = some (iZ (T k : Int)) := by
  have := h.1.1
  rw [a268 _ _ _ _ _ (by omega), (h.1.2 k hk).2]
theorem m_lookL {K : gH → Option (Int32 × gH)} : ∀ (m a fuel : Nat) (I : Nat → Nat → Int32), n - a ≤ m → m < fuel → mX I T n → I 267 2 = iZ (a : Int) → a ≤ n → gX12_look_L0 K 267 fuel (mkS X I J v) = K (mkS X (gup I 267 2 (iZ (rn T n isBb a : Nat))) J v) := by
  intro m
  induction m with
  | zero =>
    intro a fuel I hm hf h h2 ha
    obtain ⟨f, rfl⟩ : ∃ n, fuel = n + 1 := ⟨fuel - 1, by omega⟩
    have hn := h.1.1
    rw [rn_no (by omega), gup_id h2]
    unfold gX12_look_L0
    simp only [bO, o267, h2, h.2.1]
    rw [if_neg (by rw [iZ_lt (by omega) (by omega) (by omega) (by omega)]; omega)]
  | succ m ih =>
    intro a fuel I hm hf h h2 ha
    obtain ⟨f, rfl⟩ : ∃ n, fuel = n + 1 := ⟨fuel - 1, by omega⟩
    have hn := h.1.1
    unfold gX12_look_L0
    simp only [bO, o267, o267R, h2, h.2.1]
    by_cases c : a < n
    · rw [if_pos (by rw [iZ_lt (by omega) (by omega) (by omega) (by omega)]; omega), m_tx h c]
      simp only [bO, o267, h2]
      have hT := (h.1.2 a c).1
      have go : isBb (T a) = true → gX12_look_L0 K 267 f (mkS X (gup I 267 2 (iZ (a : Int) + 1)) J v) = K (mkS X (gup I 267 2 (iZ (rn T n isBb a : Nat))) J v) := by
        intro hb
        rw [show iZ (a : Int) + 1 = iZ ((a + 1 : Nat) : Int) from by rw [aL]; rfl]
        rw [ih (a + 1) f (gup I 267 2 (iZ ((a + 1 : Nat) : Int))) (by omega) (by omega) (mX_M h (frM_g (Or.inl rfl))) gup_s (by omega), gup_gup, ← rn_go c hb]
      by_cases c1 : T a = 10
      · rw [if_pos (by rw [c1]; rfl)]
        exact go (by unfold isBb; rw [c1]; rfl)
      · rw [if_neg (by rw [cL_eq (by omega) (by omega) (by decide)]; omega)]
        by_cases c2 : T a = 32
        · rw [if_pos (by rw [c2]; rfl)]
          exact go (by unfold isBb; rw [c2]; rfl)
        · rw [if_neg (by rw [cL_eq (by omega) (by omega) (by decide)]; omega), rn_no, gup_id h2]
          intro q
          have := q.2
          unfold isBb at this
          rw [Bool.or_eq_true, beq_iff_eq, beq_iff_eq] at this
          omega
    · rw [if_neg (by rw [iZ_lt (by omega) (by omega) (by omega) (by omega)]; omega), rn_no (by omega), gup_id h2]
def pCh (T : Nat → Nat) (n : Nat) (s : Nat × Bool) : Int := if s.1 < n then (T s.1 : Int) else -1
theorem m_look {I : Nat → Nat → Int32} {s : Nat × Bool} (h : mX I T n) (hr : mO I T n (.ok s)) : fX12_look 267 (mkS X I J v) = some (iZ (pCh T n s), mkS X (gup I 267 2 (iZ (s.1 : Int))) J v) ∧ mO (gup I 267 2 (iZ (s.1 : Int))) T n (.ok s) ∧ frM I (gup I 267 2 (iZ (s.1 : Int))) := by
  have hn := h.1.1
  obtain ⟨h0, h1, p, q, e1, e2, e3, e4, e5, e6, e7, e8⟩ := hr
  have fr : frM I (gup I 267 2 (iZ (s.1 : Int))) := frM_g (Or.inl rfl)
  refine ⟨?_, ?_, fr⟩
  · unfold fX12_look
    rw [m_lookL n p 20000 I (by omega) (by omega) h e1 (by omega), e6]
    have h' := mX_M h fr
    simp only [bO, o267, o267R, gup_s, h'.2.1]
    unfold pCh
    by_cases c : s.1 < n
    · rw [if_pos (by rw [iZ_lt (by omega) (by omega) (by omega) (by omega)]; omega), m_tx h' c, if_pos c]
      rfl
    · rw [if_neg (by rw [iZ_lt (by omega) (by omega) (by omega) (by omega)]; omega), if_neg c]
      rfl
  · refine ⟨by rw [gup_k (by decide)]; exact h0, h1, s.1, q, gup_s, by rw [gup_k (by decide)]; exact e2, e3, by omega, Nat.le_refl _, ?_, e7, by rw [gup_k (by decide)]; exact e8⟩
    rw [← e6, rn_rn]
theorem m_fail {I : Nat → Nat → Int32} {r : PS} {f p : Nat} (hf : f ≠ 0) (hf2 : f < 10) (hr : mO I T n r) : ∃ I', fX12_fail 267 (iZ (f : Int)) (iZ (p : Int)) (mkS X I J v) = some ((), mkS X I' J v) ∧ frM I I' ∧ mO I' T n (pFail f p r) ∧ ∀ k, k ≠ 5 → k ≠ 6 → I' 267 k = I 267 k := by
  unfold fX12_fail
  simp only [bO, o267]
  cases r with
  | error e =>
    obtain ⟨q1, q2, q3, q4⟩ := hr
    rw [q1, if_neg (by rw [cL_eq (by omega) (by omega) (by decide)]; omega)]
    exact ⟨I, rfl, frM_r I, ⟨q1, q2, q3, q4⟩, fun _ _ _ => rfl⟩
  | ok s =>
    rw [hr.1, if_pos rfl]
    refine ⟨_, rfl, frM_t (frM_g (by decide)) (frM_g (by decide)), ⟨by rw [gup_k (by decide), gup_s], hf, hf2, gup_s⟩, fun k a b => by rw [gup_k b, gup_k a]⟩
theorem m_failS {I : Nat → Nat → Int32} {r : PS} {f : Nat} (hf : f ≠ 0) (hf2 : f < 10) (hr : mO I T n r) (ha : mAt I r) : ∃ I', fX12_fail 267 (iZ (f : Int)) (I 267 2) (mkS X I J v) = some ((), mkS X I' J v) ∧ frM I I' ∧ mO I' T n (pNot f r) := by
  cases r with
  | error e =>
    obtain ⟨q1, q2, q3, q4⟩ := hr
    unfold fX12_fail
    simp only [bO, o267]
    rw [q1, if_neg (by rw [cL_eq (by omega) (by omega) (by decide)]; omega)]
    exact ⟨I, rfl, frM_r I, ⟨q1, q2, q3, q4⟩⟩
  | ok s =>
    have ha' : I 267 2 = iZ (s.1 : Int) := ha
    rw [ha']
    obtain ⟨I', a1, a2, a3, -⟩ := m_fail (X := X) (J := J) (v := v) (p := s.1) hf hf2 hr
    exact ⟨I', a1, a2, a3⟩
theorem mO_ok {I : Nat → Nat → Int32} {r : PS} (hr : mO I T n r) (h : pOk r = true) : I 267 5 = 0 := by
  cases r with
  | error e => cases h
  | ok s => exact hr.1
theorem mO_err {I : Nat → Nat → Int32} {r : PS} (hr : mO I T n r) (h : pOk r = false) : ¬ I 267 5 = 0 := by
  cases r with
  | error e =>
    obtain ⟨a, b, c, _⟩ := hr
    rw [a, cL_eq (by omega) (by omega) (by decide)]; omega
  | ok s => cases h
theorem mO_in {I : Nat → Nat → Int32} {r : PS} (hr : mO I T n r) : pIn n r := by
  cases r with
  | error e => exact trivial
  | ok s => exact hr.2.1
theorem m_isLetter {z : Int} {s : gH} (h1 : -2147483648 ≤ z) (h2 : z < 2147483648) : fX12_isLetter (iZ z) s = some (tf (decide (97 ≤ z) && decide (z ≤ 122)), s) := by
  unfold fX12_isLetter gX12_isLetter
  by_cases c : z < 97
  · rw [if_pos (by rw [cL_lt h1 h2 (by decide)]; exact c), decide_eq_false (show ¬ 97 ≤ z by omega)]; rfl
  · rw [if_neg (by rw [cL_lt h1 h2 (by decide)]; exact c), decide_eq_true (show 97 ≤ z by omega)]
    by_cases c2 : 122 < z
    · rw [if_pos (by rw [cR_lt h1 h2 (by decide)]; exact c2), decide_eq_false (show ¬ z ≤ 122 by omega)]; rfl
    · rw [if_neg (by rw [cR_lt h1 h2 (by decide)]; exact c2), decide_eq_true (show z ≤ 122 by omega)]; rfl
theorem m_isDigit {z : Int} {s : gH} (h1 : -2147483648 ≤ z) (h2 : z < 2147483648) : fX12_isDigit (iZ z) s = some (tf (decide (48 ≤ z) && decide (z ≤ 57)), s) := by
  unfold fX12_isDigit gX12_isDigit
  by_cases c : z < 48
  · rw [if_pos (by rw [cL_lt h1 h2 (by decide)]; exact c), decide_eq_false (show ¬ 48 ≤ z by omega)]; rfl
  · rw [if_neg (by rw [cL_lt h1 h2 (by decide)]; exact c), decide_eq_true (show 48 ≤ z by omega)]
    by_cases c2 : 57 < z
    · rw [if_pos (by rw [cR_lt h1 h2 (by decide)]; exact c2), decide_eq_false (show ¬ z ≤ 57 by omega)]; rfl
    · rw [if_neg (by rw [cR_lt h1 h2 (by decide)]; exact c2), decide_eq_true (show z ≤ 57 by omega)]; rfl
theorem isLb_z (c : Nat) : (decide (97 ≤ (c : Int)) && decide ((c : Int) ≤ 122)) = isLb c := by
  unfold isLb
  apply Bool.eq_iff_iff.mpr
  rw [Bool.and_eq_true, Bool.and_eq_true, decide_eq_true_eq, decide_eq_true_eq, decide_eq_true_eq, decide_eq_true_eq]
  omega
theorem isDb_z (c : Nat) : (decide (48 ≤ (c : Int)) && decide ((c : Int) ≤ 57)) = isDb c := by
  unfold isDb
  apply Bool.eq_iff_iff.mpr
  rw [Bool.and_eq_true, Bool.and_eq_true, decide_eq_true_eq, decide_eq_true_eq, decide_eq_true_eq, decide_eq_true_eq]
  omega
theorem m_letter {c : Nat} {s : gH} (h : c < 256) : fX12_isLetter (iZ (c : Int)) s = some (tf (isLb c), s) := by
  rw [m_isLetter (by omega) (by omega), isLb_z]
theorem m_digit {c : Nat} {s : gH} (h : c < 256) : fX12_isDigit (iZ (c : Int)) s = some (tf (isDb c), s) := by
  rw [m_isDigit (by omega) (by omega), isDb_z]
theorem pCh_r {I : Nat → Nat → Int32} {s : Nat × Bool} (h : mX I T n) : -1 ≤ pCh T n s ∧ pCh T n s < 256 := by
  unfold pCh
  by_cases c : s.1 < n
  · rw [if_pos c]; have := (h.1.2 _ c).1; omega
  · rw [if_neg c]; omega
theorem pCh_L {s : Nat × Bool} : (decide (97 ≤ pCh T n s) && decide (pCh T n s ≤ 122)) = (decide (s.1 < n) && isLb (T s.1)) := by
  unfold pCh
  by_cases c : s.1 < n
  · rw [if_pos c, isLb_z, decide_eq_true c, Bool.true_and]
  · rw [if_neg c, decide_eq_false c]; rfl
theorem pCh_D {s : Nat × Bool} : (decide (48 ≤ pCh T n s) && decide (pCh T n s ≤ 57)) = (decide (s.1 < n) && isDb (T s.1)) := by
  unfold pCh
  by_cases c : s.1 < n
  · rw [if_pos c, isDb_z, decide_eq_true c, Bool.true_and]
  · rw [if_neg c, decide_eq_false c]; rfl
theorem m_isWordHere {I : Nat → Nat → Int32} {r : PS} (h : mX I T n) (hr : mO I T n r) : ∃ I', fX12_isWordHere 267 (mkS X I J v) = some (tf (pKd T n r == 1), mkS X I' J v) ∧ frM I I' ∧ mO I' T n r ∧ mAt I' r := by
  have hn := h.1.1
  unfold fX12_isWordHere gX12_isWordHere
  simp only [bO, o267]
  cases r with
  | error e =>
    rw [if_neg (mO_err hr rfl)]
    exact ⟨I, rfl, frM_r I, hr, trivial⟩
  | ok s =>
    rw [if_pos hr.1]
    obtain ⟨a1, a2, a3⟩ := m_look (X := X) (J := J) (v := v) h hr
    have hc := pCh_r (s := s) h
    rw [a1, gb2_some, m_isLetter (by omega) (by omega), gb2_some, pCh_L]
    simp only [bO, o267, gup_s]
    obtain ⟨h0, h1, p, q, e1, e2, e3, e4, e5, e6, e7, e8⟩ := a2
    rw [gup_k (show (4 : Nat) ≠ 2 by decide)] at e2 ⊢
    rw [gup_s, iZ_eq (by omega) (by omega) (by omega) (by omega)] at e1
    refine ⟨_, ?_, a3, (m_look (X := X) (J := J) (v := v) h hr).2.1, gup_s⟩
    rw [e2]
    show gzr _ = some (tf (tkK T n s.1 s.2 == 1), _)
    unfold tkK
    by_cases c : s.1 < n
    · rw [decide_eq_true c, Bool.true_and, if_pos c]
      cases hl : isLb (T s.1) with
      | true =>
        rw [if_neg (show ¬ tf true = 0 by decide), if_pos rfl]
        by_cases cq : q = s.1
        · rw [if_pos (by rw [cq]), e7.mp cq]; rfl
        · rw [if_neg (by rw [iZ_eq (by omega) (by omega) (by omega) (by omega)]; omega)]
          have : s.2 = false := by
            cases z : s.2
            · rfl
            · exact absurd (e7.mpr z) cq
          rw [this]; rfl
      | false =>
        rw [if_pos tf_f, if_neg (by decide)]
        cases isDb (T s.1)
        · rfl
        · cases s.2 <;> rfl
    · rw [decide_eq_false c, if_neg c]; rfl
end gMl
