/-! QUESTIONS about rules: rule, has, period -/
def aRule (R : RuL) (st : Nat) (x : Int) : Int32 := if x = 0 then iZ (st : Int) else if x = 1 then iZ (R.u : Int) else if x = 2 then iZ (R.b : Int) else if x = 3 then R.mk else if x = 4 then iZ (R.onN : Int) else if x = 5 then iZ (R.byN : Int) else if x = 6 then iZ (R.atN : Int) else if x = 7 then iZ R.un else if x = 8 then iZ R.ct else -1
theorem ite_s {α : Type} {c : Prop} [Decidable c] {a b : Int32} {s : α} : (if c then some (a, s) else some (b, s)) = some (if c then a else b, s) := by split <;> rfl
def sumN (f : Nat → Nat) : Nat → Nat
  | 0 => 0
  | n + 1 => sumN f n + f n
theorem sumN_0 {f : Nat → Nat} {n : Nat} : ∀ m, (∀ s, n ≤ s → s < n + m → f s = 0) → sumN f (n + m) = sumN f n := by
  intro m
  induction m with
  | zero => intro _; rfl
  | succ m ih =>
    intro h
    show sumN f (n + m) + f (n + m) = _
    rw [ih (fun s a b => h s a (by omega)), h (n + m) (by omega) (by omega)]
    rfl
theorem sumN_le {f : Nat → Nat} : ∀ n, (∀ s, s < n → f s ≤ 20) → sumN f n ≤ 20 * n := by
  intro n
  induction n with
  | zero => intro _; exact Nat.le_refl _
  | succ n ih =>
    intro h
    have := ih (fun s a => h s (by omega))
    have := h n (by omega)
    show sumN f n + f n ≤ _
    omega
section gQl
variable {X : Nat × (Nat → Int32)} {v : Vt} {B : Bk} {A L : Nat → Nat → Bool} {b : Nat} {I : Nat → Nat → Int32} {J : Nat → Nat → Int64}
theorem c_tell {q st : Nat} {R : RuL} {x : Int} (x1 : -2147483648 ≤ x) (x2 : x < 2147483648) (hq : isRule q) (hR : cRl I q R) (hst : I q 0 = iZ (st : Int)) : fX8_tell q (iZ x) (mkS X I J v) = some (aRule R st x, mkS X I J v) := by
  unfold fX8_tell
  simp only [bO, rl_i hq, rl_by hq, rl_at hq, row_i (rl_row1 hq), row_i (rl_row3 hq)]
  simp (disch := omega) only [cL_eq]
  obtain ⟨r1, r2, r3, r4, r5, r6, r7, r8, r9, r10, r11, r12, r13, r14, r15, r16⟩ := hR
  rw [hst, r1, r2, r6, r7, r8, r12, r13, r15]
  simp only [ite_s]
  rfl
theorem cq_rule {z x : Int} (z1 : -2147483648 ≤ z) (z2 : z < 2147483648) (x1 : -2147483648 ≤ x) (x2 : x < 2147483648) (hb : isBk b) (hv : v.1 = b) (ok : BkOK B) (hB : cBk I b B) : fX11_rule 50 (iZ z) (iZ x) (mkS X I J v) = some (if 0 ≤ z ∧ z < B.nR then aRule (B.rl z.toNat) (B.stp z.toNat) x else -1, mkS X I J v) := by
  have hb0 := bk_r hb
  have k1 := ok.1
  unfold fX11_rule
  simp only [bO, o50R, hv, bk_c hb, c_ruleAt hb hB.1 k1 z1 z2, gb2_some]
  by_cases c : 0 ≤ z ∧ z < (B.nR : Int)
  · have hq := isRule_bk (n := z.toNat) hb (by omega)
    obtain ⟨r1, r2⟩ := hB.2.2.1 z.toNat (by omega)
    rw [if_pos c, if_pos c, if_neg (by omega), rl_c hq, c_tell x1 x2 hq r1 r2, gb2_some]
  · rw [if_neg c, if_neg c, if_pos rfl]
theorem mq_rule {z x : Int} (z1 : -2147483648 ≤ z) (z2 : z < 2147483648) (x1 : -2147483648 ≤ x) (x2 : x < 2147483648) (ok : BkOK B) (hB : mBk I B) : fX12_rule 267 (iZ z) (iZ x) (mkS X I J v) = some (if 0 ≤ z ∧ z < B.nR then aRule (B.rl z.toNat) (B.stp z.toNat) x else -1, mkS X I J v) := by
  have k1 := ok.1
  unfold fX12_rule
  simp only [o267, m_isRule z1 z2 ok hB, gb2_some]
  by_cases c : 0 ≤ z ∧ z < (B.nR : Int)
  · obtain ⟨r, rfl⟩ : ∃ n : Nat, z = (n : Int) := ⟨z.toNat, by omega⟩
    have hr : r < B.nR := by omega
    obtain ⟨⟨r1, r2, r3, r4, r5, r6, r7, r8, r9, r10, r11, r12⟩, hst, hnm⟩ := hB.2.2.1 r hr
    have h6 : r < 6 := by omega
    rw [decide_eq_true c, if_neg (show ¬ tf true = 0 by decide), if_pos c, Int.toNat_natCast]
    have e2 : (2 : Int32) * iZ (r : Int) = iZ ((2 * r : Nat) : Int) := by rw [show (2 : Int32) = iZ 2 from rfl, iZ_mul]; congr 1
    have w2 : fX12_ruleHas 267 (iZ (r : Int)) 2 (mkS X I J v) = some (iZ ((B.rl r).u : Int), mkS X I J v) := by
      have := m_ruleHas (X := X) (I := I) (J := J) (v := v) (w := 2) h6 (by decide); rw [r1] at this; exact this
    have w4 : fX12_ruleHas 267 (iZ (r : Int)) 4 (mkS X I J v) = some ((B.rl r).mk, mkS X I J v) := by
      have := m_ruleHas (X := X) (I := I) (J := J) (v := v) (w := 4) h6 (by decide); rw [r3] at this; exact this
    have w5 : fX12_ruleHas 267 (iZ (r : Int)) 5 (mkS X I J v) = some (iZ ((B.rl r).onN : Int), mkS X I J v) := by
      have := m_ruleHas (X := X) (I := I) (J := J) (v := v) (w := 5) h6 (by decide); rw [r4] at this; exact this
    have w14 : fX12_ruleHas 267 (iZ (r : Int)) 14 (mkS X I J v) = some (iZ ((B.rl r).byN : Int), mkS X I J v) := by
      have := m_ruleHas (X := X) (I := I) (J := J) (v := v) (w := 14) h6 (by decide); rw [r6] at this; exact this
    have w31 : fX12_ruleHas 267 (iZ (r : Int)) 31 (mkS X I J v) = some (iZ ((B.rl r).atN : Int), mkS X I J v) := by
      have := m_ruleHas (X := X) (I := I) (J := J) (v := v) (w := 31) h6 (by decide); rw [r9] at this; exact this
    have w40 : fX12_ruleHas 267 (iZ (r : Int)) 40 (mkS X I J v) = some (iZ (B.rl r).un, mkS X I J v) := by
      have := m_ruleHas (X := X) (I := I) (J := J) (v := v) (w := 40) h6 (by decide); rw [r11] at this; exact this
    have w41 : fX12_ruleHas 267 (iZ (r : Int)) 41 (mkS X I J v) = some (iZ (B.rl r).ct, mkS X I J v) := by
      have := m_ruleHas (X := X) (I := I) (J := J) (v := v) (w := 41) h6 (by decide); rw [r12] at this; exact this
    have wf := m_fromOf (X := X) (J := J) (v := v) h6 (⟨r1, r2, r3, r4, r5, r6, r7, r8, r9, r10, r11, r12⟩ : mRl I r (B.rl r))
    simp only [w2, w4, w5, w14, w31, w40, w41, wf, gb2_some, bO, o267R, e2, a281 _ _ _ _ (2 * r) (show 2 * r < 264 by omega), hst]
    simp (disch := omega) only [cL_eq]
    simp only [ite_s]
    rfl
  · rw [decide_eq_false c, if_pos tf_f, if_neg c]
theorem c_markL {k : Nat} {N : Nat → Nat} (hk : k = 1 ∨ k = 2) (hI : ∀ s, s < 6 → I ((if k = 1 then 119 else 121) + 4 * s) 1 = iZ (N s : Nat)) : ∀ (m s fuel c : Nat), s + m = 6 → m < fuel → c = sumN N s → gX5_marked_L4 60 (iZ (k : Int)) fuel (iZ (c : Int)) (iZ (s : Int)) (mkS X I J v) = some (iZ (sumN N 6 : Nat), mkS X I J v) := by
  intro m
  induction m with
  | zero =>
    intro s fuel c hs hf hc
    obtain ⟨f, rfl⟩ : ∃ n, fuel = n + 1 := ⟨fuel - 1, by omega⟩
    unfold gX5_marked_L4
    rw [if_neg (by rw [cL_lt (by omega) (by omega) (by decide)]; omega), hc, show s = 6 by omega]
  | succ m ih =>
    intro s fuel c hs hf hc
    obtain ⟨f, rfl⟩ : ∃ n, fuel = n + 1 := ⟨fuel - 1, by omega⟩
    unfold gX5_marked_L4 fX5_rowOf
    have e : gmax 0 (gmin (iZ (s : Int)) 5) = iZ (s : Int) := by
      rw [show (5 : Int32) = iZ 5 from rfl, show (0 : Int32) = iZ 0 from rfl, gmin_Z (by omega) (by omega) (by omega) (by omega), gmax_Z (by omega) (by omega) (by omega) (by omega)]
      congr 1; omega
    rw [if_pos (by rw [cL_lt (by omega) (by omega) (by decide)]; omega)]
    simp only [glet_eq, e, o60, bO, o60R, g63 I J (show s < 6 by omega), g64 I J (show s < 6 by omega), aL]
    have hI' := hI s (by omega)
    have st := ih (s + 1) f (c + N s) (by omega) (by omega) (by rw [hc]; rfl)
    rw [show ((s + 1 : Nat) : Int) = (s : Int) + 1 by omega] at st
    rcases hk with rfl | rfl
    · rw [if_pos (show iZ ((1 : Nat) : Int) = 1 from rfl), gb2_some, row_i (rowA (by omega)).1]
      rw [if_pos rfl] at hI'
      simp only [bO, hI', iZ_add]
      exact st
    · rw [if_neg (show ¬ iZ ((2 : Nat) : Int) = 1 by decide), gb2_some, row_i (rowB (by omega)).1]
      rw [if_neg (by decide)] at hI'
      simp only [bO, hI', iZ_add]
      exact st
theorem c_marked1 (hL : cLg I J B A L) : fX5_marked 60 1 (mkS X I J v) = some (iZ (sumN (fun s => cnt (A s) 0 14610) 6 : Nat), mkS X I J v) := by
  unfold fX5_marked
  exact c_markL (k := 1) (Or.inl rfl) (fun s hs => (hL.2 s hs).1.1) 6 0 20000 0 (by decide) (by decide) rfl
theorem c_marked2 (hL : cLg I J B A L) : fX5_marked 60 2 (mkS X I J v) = some (iZ (sumN (fun s => cnt (L s) 0 14610) 6 : Nat), mkS X I J v) := by
  unfold fX5_marked
  exact c_markL (k := 2) (Or.inr rfl) (fun s hs => (hL.2 s hs).2.1) 6 0 20000 0 (by decide) (by decide) rfl
theorem m_handAt {s k : Nat} (hk : k ≤ 1) {σ : gH} : fX12_handAt (iZ (s : Int)) (iZ (k : Int)) σ = some (iZ ((12 + 42 * s + 21 * k : Nat) : Int), σ) := by
  unfold fX12_handAt
  rw [show (42 : Int32) = iZ 42 from rfl, show (12 : Int32) = iZ 12 from rfl, iZ_mul, iZ_add]
  rcases (show k = 0 ∨ k = 1 by omega) with rfl | rfl
  · rw [if_pos (show iZ ((0 : Nat) : Int) = 0 from rfl), show (0 : Int32) = iZ 0 from rfl, iZ_add]
    congr 3
  · rw [if_neg (show ¬ iZ ((1 : Nat) : Int) = 0 by decide), show (21 : Int32) = iZ 21 from rfl, iZ_add]
    congr 3
theorem m_handL {k nS : Nat} {N : Nat → Nat} (hk : k ≤ 1) (h6 : nS ≤ 6) (h1 : I 276 1 = iZ (nS : Int)) (hI : ∀ s, s < 6 → I 281 (12 + 42 * s + 21 * k) = iZ (N s : Nat)) : ∀ (m s fuel c : Nat), s + m = nS → m < fuel → c = sumN N s → gX12_handMany_L4 267 (iZ (k : Int)) fuel (iZ (c : Int)) (iZ (s : Int)) (mkS X I J v) = some (iZ (sumN N nS : Nat), mkS X I J v) := by
  have q1 : gaI (mkS X I J v) 276 2 1 = some (iZ (nS : Int)) := by
    have := a276 X I J v 1 (by decide); rw [h1] at this; exact this
  intro m
  induction m with
  | zero =>
    intro s fuel c hs hf hc
    obtain ⟨f, rfl⟩ : ∃ n, fuel = n + 1 := ⟨fuel - 1, by omega⟩
    unfold gX12_handMany_L4
    simp only [bO, o267R, q1]
    rw [if_neg (by rw [iZ_lt (by omega) (by omega) (by omega) (by omega)]; omega), hc, show s = nS by omega]
  | succ m ih =>
    intro s fuel c hs hf hc
    obtain ⟨f, rfl⟩ : ∃ n, fuel = n + 1 := ⟨fuel - 1, by omega⟩
    unfold gX12_handMany_L4
    simp only [bO, o267R, q1]
    rw [if_pos (by rw [iZ_lt (by omega) (by omega) (by omega) (by omega)]; omega), m_handAt hk, gb2_some, a281 _ _ _ _ _ (by omega), hI s (by omega)]
    simp only [bO, glet_eq, iZ_add, aL]
    have st := ih (s + 1) f (c + N s) (by omega) (by omega) (by rw [hc]; rfl)
    rw [show ((s + 1 : Nat) : Int) = (s : Int) + 1 by omega] at st
    exact st
/-- marks stand only with sets that the book has -/
def mkOK (B : Bk) (A L : Nat → Nat → Bool) : Prop := ∀ s, B.nS ≤ s → s < 6 → ∀ d, A s d = false ∧ L s d = false
theorem mkOK_s (hM : mkOK B A L) (h6 : B.nS ≤ 6) : sumN (fun s => cnt (A s) 0 14610) B.nS = sumN (fun s => cnt (A s) 0 14610) 6 ∧ sumN (fun s => cnt (L s) 0 14610) B.nS = sumN (fun s => cnt (L s) 0 14610) 6 := by
  have e : B.nS + (6 - B.nS) = 6 := by omega
  constructor
  · rw [← sumN_0 (n := B.nS) (6 - B.nS) (fun s a c => cnt_zero (fun i _ => (hM s a (by omega) _).1)), e]
  · rw [← sumN_0 (n := B.nS) (6 - B.nS) (fun s a c => cnt_zero (fun i _ => (hM s a (by omega) _).2)), e]
def aHas (B : Bk) (A L : Nat → Nat → Bool) (n4 n5 : Int32) (x : Int) : Int32 := if x = 0 then iZ (B.nR : Int) else if x = 1 then iZ (B.nS : Int) else if x = 2 then iZ (sumN (fun s => cnt (A s) 0 14610) 6 : Nat) else if x = 3 then iZ (sumN (fun s => cnt (L s) 0 14610) 6 : Nat) else if x = 4 then n4 else if x = 5 then n5 else -1
theorem cq_has {x : Int} (x1 : -2147483648 ≤ x) (x2 : x < 2147483648) (hb : isBk b) (hv : v.1 = b) (hB : cBk I b B) (hL : cLg I J B A L) : fX11_has 50 (iZ x) (mkS X I J v) = some (aHas B A L (I 188 8) (I 143 5) x, mkS X I J v) := by
  unfold fX11_has
  simp only [bO, o50R, hv, bk_i hb, hB.1, hB.2.1, o60, c_marked1 hL, c_marked2 hL, gb2_some, o188, o143]
  simp (disch := omega) only [cL_eq]
  simp only [ite_s]
  rfl
theorem mq_has {x : Int} (x1 : -2147483648 ≤ x) (x2 : x < 2147483648) (ok : BkOK B) (hB : mBk I B) (hL : mLg I B A L) (hM : mkOK B A L) : fX12_has 267 (iZ x) (mkS X I J v) = some (aHas B A L (I 267 36) (I 267 44) x, mkS X I J v) := by
  have q0 : gaI (mkS X I J v) 276 2 0 = some (iZ (B.nR : Int)) := by
    have := a276 X I J v 0 (by decide); rw [hB.1] at this; exact this
  have q1 : gaI (mkS X I J v) 276 2 1 = some (iZ (B.nS : Int)) := by
    have := a276 X I J v 1 (by decide); rw [hB.2.1] at this; exact this
  have m0 : fX12_handMany 267 0 (mkS X I J v) = some (iZ (sumN (fun s => cnt (A s) 0 14610) 6 : Nat), mkS X I J v) := by
    unfold fX12_handMany
    have := m_handL (X := X) (J := J) (v := v) (k := 0) (N := fun s => cnt (A s) 0 14610) (by decide) ok.2.1 hB.2.1 (fun s hs => (hL.2 s hs).1.1) B.nS 0 20000 0 (by omega) (by have := ok.2.1; omega) rfl
    rw [(mkOK_s hM ok.2.1).1] at this
    exact this
  have m1 : fX12_handMany 267 1 (mkS X I J v) = some (iZ (sumN (fun s => cnt (L s) 0 14610) 6 : Nat), mkS X I J v) := by
    unfold fX12_handMany
    have := m_handL (X := X) (J := J) (v := v) (k := 1) (N := fun s => cnt (L s) 0 14610) (by decide) ok.2.1 hB.2.1 (fun s hs => (hL.2 s hs).2.1) B.nS 0 20000 0 (by omega) (by have := ok.2.1; omega) rfl
    rw [(mkOK_s hM ok.2.1).2] at this
    exact this
  unfold fX12_has
  simp only [bO, o267R, o267, q0, q1, m0, m1, gb2_some]
  simp (disch := omega) only [cL_eq]
  simp only [ite_s]
  rfl
end gQl
