/-! THE CLASS TAKES A BOOK -/
section gCb
variable {X : Nat × (Nat → Int32)} {v : Vt} {T : Nat → Nat} {n b : Nat}
theorem pR507 {I : Nat → Nat → Int32} {J : Nat → Nat → Int64} {x : Nat} : spR (mkS X I J v) 50 11 7 x = some (mkS X I J (x, v.2)) := by
  show (if gK cst 50 = 11 + 1 then some (gK cst, L0 X, I, J, gup (Rv v) 50 7 x, 293, gQ cst) else none) = _
  rw [if_pos k_50]
  have : gup (Rv v) 50 7 x = Rv (x, v.2) := by
    funext r k
    by_cases h : r = 50 ∧ k = 7
    · rw [h.1, h.2, gup_s]; rfl
    · rw [show gup (Rv v) 50 7 x r k = Rv v r k from if_neg h]
      unfold Rv
      rw [if_neg h, if_neg h]
  rw [this]; rfl
theorem pR508 {I : Nat → Nat → Int32} {J : Nat → Nat → Int64} {x : Nat} : spR (mkS X I J v) 50 11 8 x = some (mkS X I J (v.1, x, v.2.2)) := by
  show (if gK cst 50 = 11 + 1 then some (gK cst, L0 X, I, J, gup (Rv v) 50 8 x, 293, gQ cst) else none) = _
  rw [if_pos k_50]
  have : gup (Rv v) 50 8 x = Rv (v.1, x, v.2.2) := by
    funext r k
    by_cases h : r = 50 ∧ k = 8
    · rw [h.1, h.2, gup_s]; rfl
    · rw [show gup (Rv v) 50 8 x r k = Rv v r k from if_neg h]
      unfold Rv
      rw [if_neg h, if_neg h]
  rw [this]; rfl
theorem pR605 {I : Nat → Nat → Int32} {J : Nat → Nat → Int64} {x : Nat} : spR (mkS X I J v) 60 5 5 x = some (mkS X I J (v.1, v.2.1, x, v.2.2.2)) := by
  show (if gK cst 60 = 5 + 1 then some (gK cst, L0 X, I, J, gup (Rv v) 60 5 x, 293, gQ cst) else none) = _
  rw [if_pos k_60]
  have : gup (Rv v) 60 5 x = Rv (v.1, v.2.1, x, v.2.2.2) := by
    funext r k
    by_cases h : r = 60 ∧ k = 5
    · rw [h.1, h.2, gup_s]; rfl
    · rw [show gup (Rv v) 60 5 x r k = Rv v r k from if_neg h]
      unfold Rv
      rw [if_neg h, if_neg h]
  rw [this]; rfl
theorem pR537 {I : Nat → Nat → Int32} {J : Nat → Nat → Int64} {x : Nat} : spR (mkS X I J v) 53 6 7 x = some (mkS X I J (v.1, v.2.1, v.2.2.1, x, v.2.2.2.2)) := by
  show (if gK cst 53 = 6 + 1 then some (gK cst, L0 X, I, J, gup (Rv v) 53 7 x, 293, gQ cst) else none) = _
  rw [if_pos k_53]
  have : gup (Rv v) 53 7 x = Rv (v.1, v.2.1, v.2.2.1, x, v.2.2.2.2) := by
    funext r k
    by_cases h : r = 53 ∧ k = 7
    · rw [h.1, h.2, gup_s]; rfl
    · rw [show gup (Rv v) 53 7 x r k = Rv v r k from if_neg h]
      unfold Rv
      rw [if_neg h, if_neg h]
  rw [this]; rfl
theorem pR532 {I : Nat → Nat → Int32} {J : Nat → Nat → Int64} {x : Nat} : spR (mkS X I J v) 53 6 2 x = some (mkS X I J (v.1, v.2.1, v.2.2.1, v.2.2.2.1, x, v.2.2.2.2.2)) := by
  show (if gK cst 53 = 6 + 1 then some (gK cst, L0 X, I, J, gup (Rv v) 53 2 x, 293, gQ cst) else none) = _
  rw [if_pos k_53]
  have : gup (Rv v) 53 2 x = Rv (v.1, v.2.1, v.2.2.1, v.2.2.2.1, x, v.2.2.2.2.2) := by
    funext r k
    by_cases h : r = 53 ∧ k = 2
    · rw [h.1, h.2, gup_s]; rfl
    · rw [show gup (Rv v) 53 2 x r k = Rv v r k from if_neg h]
      unfold Rv
      rw [if_neg h, if_neg h]
  rw [this]; rfl
theorem pR1886 {I : Nat → Nat → Int32} {J : Nat → Nat → Int64} {x : Nat} : spR (mkS X I J v) 188 9 6 x = some (mkS X I J (v.1, v.2.1, v.2.2.1, v.2.2.2.1, v.2.2.2.2.1, x)) := by
  show (if gK cst 188 = 9 + 1 then some (gK cst, L0 X, I, J, gup (Rv v) 188 6 x, 293, gQ cst) else none) = _
  rw [if_pos k_188]
  have : gup (Rv v) 188 6 x = Rv (v.1, v.2.1, v.2.2.1, v.2.2.2.1, v.2.2.2.2.1, x) := by
    funext r k
    by_cases h : r = 188 ∧ k = 6
    · rw [h.1, h.2, gup_s]; rfl
    · rw [show gup (Rv v) 188 6 x r k = Rv v r k from if_neg h]
      unfold Rv
      rw [if_neg h, if_neg h]
  rw [this]; rfl
/-- a rule of the book is reckoned -/
theorem c_ruleChanged {B : Bk} {I : Nat → Nat → Int32} {J : Nat → Nat → Int64} {r st : Nat} (hb : isBk b) (hv : v.2.2.1 = b) (hn : I b 0 = iZ (B.nR : Int)) (hR : B.nR ≤ 6) (hr : r < B.nR) (hRl : cRl I (b + 5 + 5 * r) (B.rl r)) (hst : I (b + 5 + 5 * r) 0 = iZ (st : Int)) (ok : RuLok (B.rl r)) (s1 : 1 ≤ st) (s2 : st ≤ 99) : ∃ I' J', fX5_ruleChanged 60 (iZ (r : Int)) (mkS X I J v) = some ((), mkS X (gup I' 60 7 0) J' v) ∧ frF I I' ∧ frJ (65 + 2 * r) J J' ∧ dsP J' (65 + 2 * r) (rDay (B.rl r) st) := by
  have hb0 := bk_r hb
  unfold fX5_ruleChanged
  simp only [bO, o60R, hv, gjn_eq]
  rw [if_neg (by omega), bk_c hb, c_ruleAt hb hn hR (by omega) (by omega), gb2_some, if_pos (show 0 ≤ (r : Int) ∧ (r : Int) < (B.nR : Int) by omega)]
  simp only [bO, o60R, n61, Int.toNat_natCast]
  rw [if_neg (by omega), if_pos (by rw [iZ_lt (by omega) (by omega) (by omega) (by omega)]; omega)]
  have hq := isRule_bk (n := r) hb (by omega)
  rw [show ggI (mkS X I J v) (b + 5 + 5 * r) 8 0 = some (I (b + 5 + 5 * r) 0) from ggI_mk (rule_all hq).1]
  simp only [bO, g61 I J (show r < 12 by omega), o57, hst]
  obtain ⟨I', J', a1, a2, a3, a4⟩ := c_fill (X := X) (v := v) (J := J) (r := 65 + 2 * r) hq (isDS_k (by omega)) hRl ok s1 s2
  rw [a1, gb2_some]
  simp only [bO, o60]
  refine ⟨I', J', rfl, a2, a3, fun d hd => ?_⟩
  rw [a4 d hd]
  by_cases c : d < 14610
  · rw [decide_eq_true c]; rfl
  · rw [decide_eq_false c, rDay_lt ok (by omega)]; rfl
/-- what opening a book writes -/
def frO (I I' : Nat → Nat → Int32) : Prop := ∀ r k, r ≠ 57 → r ≠ 58 → r ≠ 59 → (r ≠ 60 ∨ k ≠ 7) → ¬ (119 ≤ r ∧ r ≤ 142) → I' r k = I r k
theorem frO_r (I : Nat → Nat → Int32) : frO I I := fun _ _ _ _ _ _ _ => rfl
theorem frO_t {I I' I'' : Nat → Nat → Int32} (h1 : frO I I') (h2 : frO I' I'') : frO I I'' := fun r k a b c d e => (h2 r k a b c d e).trans (h1 r k a b c d e)
theorem cRl_O {I I' : Nat → Nat → Int32} {q : Nat} {R : RuL} (h : cRl I q R) (hq : 202 ≤ q) (f : frO I I') : cRl I' q R := cRl_fr h (fun r k x y => f r k (by omega) (by omega) (by omega) (Or.inl (by omega)) (by omega))
theorem c_open7 {K : gH → Option (Unit × gH)} {J : Nat → Nat → Int64} : ∀ (m i fuel : Nat) (I : Nat → Nat → Int32), i + m = 6 → m < fuel → ∃ I', gX5_open_L7 K 60 fuel (iZ (i : Int)) (mkS X I J v) = K (mkS X I' J v) ∧ frO I I' ∧ (∀ s, s < i → I' (119 + 4 * s) 1 = I (119 + 4 * s) 1 ∧ I' (121 + 4 * s) 1 = I (121 + 4 * s) 1) ∧ ∀ s, i ≤ s → s < 6 → I' (119 + 4 * s) 1 = 0 ∧ I' (121 + 4 * s) 1 = 0 := by
  intro m
  induction m with
  | zero =>
    intro i fuel I hi hf
    obtain ⟨f, rfl⟩ : ∃ n, fuel = n + 1 := ⟨fuel - 1, by omega⟩
    refine ⟨I, ?_, frO_r I, fun s _ => ⟨rfl, rfl⟩, fun s a b => by omega⟩
    unfold gX5_open_L7
    rw [if_neg (by rw [cL_lt (by omega) (by omega) (by decide)]; omega)]
  | succ m ih =>
    intro i fuel I hi hf
    obtain ⟨f, rfl⟩ : ∃ n, fuel = n + 1 := ⟨fuel - 1, by omega⟩
    have hi6 : i < 6 := by omega
    obtain ⟨I', a1, a2, a3, a4⟩ := ih (i + 1) f (gup (gup I (119 + 4 * i) 1 0) (121 + 4 * i) 1 0) (by omega) (by omega)
    have a3' := a3 i (by omega)
    refine ⟨I', ?_, frO_t (fun r k x y z w q => by rw [gup_r (by omega), gup_r (by omega)]) a2, fun s hs => ?_, fun s h1 h2 => ?_⟩
    · unfold gX5_open_L7
      rw [if_pos (by rw [cL_lt (by omega) (by omega) (by decide)]; omega)]
      simp only [bO, o60R, g63 I J hi6, row_c (rowA hi6).1, row_clear (rowA hi6).1, gb2_some, g64 _ J hi6, row_c (rowB hi6).1, row_clear (rowB hi6).1, aL]
      rw [show (i : Int) + 1 = ((i + 1 : Nat) : Int) by omega]
      exact a1
    · obtain ⟨x, y⟩ := a3 s (by omega)
      rw [x, y, gup_r (by omega), gup_r (by omega), gup_r (by omega), gup_r (by omega)]
      exact ⟨rfl, rfl⟩
    · by_cases c : s = i
      · subst c
        obtain ⟨x, y⟩ := a3'
        rw [x, y, gup_s, gup_r (by omega), gup_s]
        exact ⟨rfl, rfl⟩
      · exact a4 s (by omega) h2
theorem c_open39 {B : Bk} (hb : isBk b) (hv : v.2.2.1 = b) (ok : BkOK B) : ∀ (m i fuel : Nat) (I : Nat → Nat → Int32) (J : Nat → Nat → Int64), i + m = B.nR → m < fuel → cBk I b B → (∀ w, w < i → dsP J (65 + 2 * w) (rDay (B.rl w) (B.stp w))) → ∃ I' J', gX5_open_L39 60 fuel (iZ (i : Int)) (mkS X I J v) = some ((), mkS X I' J' v) ∧ frO I I' ∧ (∀ s k, 119 ≤ s → s ≤ 142 → I' s k = I s k) ∧ I' 60 7 = 0 ∧ (∀ a, (a < 66 ∨ 76 < a) → J' a = J a) ∧ ∀ w, w < B.nR → dsP J' (65 + 2 * w) (rDay (B.rl w) (B.stp w)) := by
  have hb0 := bk_r hb
  have hR := ok.1
  intro m
  induction m with
  | zero =>
    intro i fuel I J hi hf hB hd
    obtain ⟨f, rfl⟩ : ∃ n, fuel = n + 1 := ⟨fuel - 1, by omega⟩
    refine ⟨gup I 60 7 0, J, ?_, fun r k a b c d e => ?_, fun s k x y => gup_r (by omega), gup_s, fun _ _ => rfl, fun w hw => hd w (by omega)⟩
    · unfold gX5_open_L39
      simp only [bO, o60R, hv, bk_i hb, hB.1]
      rw [if_neg (by rw [iZ_lt (by omega) (by omega) (by omega) (by omega)]; omega)]
      simp only [bO, o60]
    · by_cases z : r = 60
      · exact gup_k (by omega)
      · exact gup_r z
  | succ m ih =>
    intro i fuel I J hi hf hB hd
    obtain ⟨f, rfl⟩ : ∃ n, fuel = n + 1 := ⟨fuel - 1, by omega⟩
    obtain ⟨r1, r2⟩ := hB.2.2.1 i (by omega)
    obtain ⟨k1, k2, k3⟩ := ok.2.2.1 i (by omega)
    obtain ⟨I1, J1, a1, a2, a3, a4⟩ := c_ruleChanged (X := X) (v := v) (B := B) (J := J) (r := i) hb hv hB.1 hR (by omega) r1 r2 k1 k2 k3
    have fr1 : frO I (gup I1 60 7 0) := fun r k a b c d e => by
      rw [← a2 r k a b c]
      by_cases z : r = 60
      · exact gup_k (by omega)
      · exact gup_r z
    obtain ⟨I2, J2, b1, b2, b3, b4, b5, b6⟩ := ih (i + 1) f (gup I1 60 7 0) J1 (by omega) (by omega) (cBk_fr hB hR (fun r k x y => fr1 r k (by omega) (by omega) (by omega) (Or.inl (by omega)) (by omega))) (fun w hw => by
      by_cases z : w = i
      · rw [z]; exact a4
      · exact dsP_o (hd w (by omega)) (a3 _ (by omega)))
    refine ⟨I2, J2, ?_, frO_t fr1 b2, fun s k x y => ?_, b4, fun a ha => ?_, b6⟩
    · unfold gX5_open_L39
      simp only [bO, o60R, hv, bk_i hb, hB.1]
      rw [if_pos (by rw [iZ_lt (by omega) (by omega) (by omega) (by omega)]; omega)]
      simp only [o60]
      rw [a1, gb2_some, aL, show (i : Int) + 1 = ((i + 1 : Nat) : Int) by omega]
      exact b1
    · rw [b3 s k x y, gup_r (by omega), a2 s k (by omega) (by omega) (by omega)]
    · rw [b5 a ha, a3 a (by omega)]
theorem crow_0 {I : Nat → Nat → Int32} {r : Nat} (h : I r 1 = 0) : crow I r (fun _ => false) := by
  have e : ∀ m a, cnt (fun _ => false) a m = 0 := by
    intro m
    induction m with
    | zero => intro a; rfl
    | succ m ih => intro a; unfold cnt; rw [ih]; rfl
  unfold crow
  rw [e]
  exact ⟨h, by decide, (e _ _).symm, fun k hk => by omega, fun d _ hd => (by cases hd), fun j k hj => by omega⟩
theorem c_open {B : Bk} {I : Nat → Nat → Int32} {J : Nat → Nat → Int64} (hb : isBk b) (ok : BkOK B) (hB : cBk I b B) : ∃ I' J', fX5_open 60 b (mkS X I J v) = some ((), mkS X I' J' (v.1, v.2.1, b, v.2.2.2)) ∧ frO I I' ∧ (∀ a, (a < 66 ∨ 76 < a) → J' a = J a) ∧ cLg I' J' B (fun _ _ => false) (fun _ _ => false) := by
  have hb0 := bk_r hb
  unfold fX5_open
  rw [pR605]
  simp only [bO]
  obtain ⟨I1, a1, a2, a3, a4⟩ := c_open7 (X := X) (v := (v.1, v.2.1, b, v.2.2.2)) (J := J) (K := fun s12 => gX5_open_L39 60 20000 0 s12) 6 0 20000 I (by decide) (by decide)
  have hB1 : cBk I1 b B := cBk_fr hB ok.1 (fun r k x y => a2 r k (by omega) (by omega) (by omega) (Or.inl (by omega)) (by omega))
  obtain ⟨I2, J2, b1, b2, b3, b4, b5, b6⟩ := c_open39 (X := X) (v := (v.1, v.2.1, b, v.2.2.2)) (b := b) hb rfl ok B.nR 0 20000 I1 J (by omega) (by have := ok.1; omega) hB1 (fun w hw => by omega)
  refine ⟨I2, J2, a1.trans b1, frO_t a2 b2, b5, ⟨0, b4, Nat.zero_le _, fun w hw => ?_⟩, fun s hs => ?_⟩
  · have hw' : w < B.nR := by unfold kn at hw; omega
    rw [dy_rule (by have := ok.1; omega)]
    exact b6 w hw'
  · obtain ⟨x, y⟩ := a4 s (by omega) hs
    exact ⟨crow_0 (by rw [b3 _ _ (by omega) (by omega)]; exact x), crow_0 (by rw [b3 _ _ (by omega) (by omega)]; exact y)⟩
end gCb
