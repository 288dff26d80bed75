/-! THE REFERENCE's pile of rows of days -/
def wrR (c a d : Nat) (I I' : Nat → Nat → Int32) (R : Nat → Bool) : Prop := frX c I I' ∧ (∀ k, k < a + d ∨ a + 14610 ≤ k → I' c k = I c k) ∧ ∀ e, d ≤ e → e < 14610 → I' c (a + e) = tf (R e)
theorem wrR_step {c a d : Nat} {I I' : Nat → Nat → Int32} {R : Nat → Bool} {x : Int32} (hd : d < 14610) (hx : x = tf (R d)) (h : wrR c a (d + 1) (gup I c (a + d) x) I' R) : wrR c a d I I' R := by
  refine ⟨frX_t frX_g h.1, ?_, ?_⟩
  · intro k hk
    rw [h.2.1 k (by omega), gup_k (by omega)]
  · intro e h1 h2
    by_cases q : e = d
    · subst q
      rw [h.2.1 _ (by omega), gup_s, hx]
    · exact h.2.2 e (by omega) h2
theorem wrR_end {c a : Nat} {I : Nat → Nat → Int32} {R : Nat → Bool} : wrR c a 14610 I I R := ⟨frX_r c I, fun _ _ => rfl, fun e h1 h2 => by omega⟩
def frD (I I' : Nat → Nat → Int32) : Prop := ∀ r k, r ≠ 285 → r ≠ 286 → (r ≠ 267 ∨ k ≠ 34) → I' r k = I r k
theorem frD_r (I : Nat → Nat → Int32) : frD I I := fun _ _ _ _ _ => rfl
theorem frD_t {I I' I'' : Nat → Nat → Int32} (h1 : frD I I') (h2 : frD I' I'') : frD I I'' := fun r k a b c => (h2 r k a b c).trans (h1 r k a b c)
theorem frD_X {I I' : Nat → Nat → Int32} (h : frX 285 I I') : frD I I' := fun r k a _ _ => h r k a
theorem frD_Y {I I' : Nat → Nat → Int32} (h : frX 286 I I') : frD I I' := fun r k _ a _ => h r k a
theorem frD_g {I : Nat → Nat → Int32} {x : Int32} : frD I (gup I 267 34 x) := fun r k _ _ c => by
  rcases c with c | c
  · exact gup_r c
  · exact gup_k c
def mstk (I : Nat → Nat → Int32) (s : Nat × (Nat → Nat → Bool)) : Prop := I 267 34 = iZ (s.1 : Int) ∧ ∀ i, i < s.1 → ∀ d, d < 14610 → I 285 (14610 * i + d) = tf (s.2 i d)
/-- a row of the pile is written anew -/
theorem mstk_up {I I' : Nat → Nat → Int32} {s : Nat × (Nat → Nat → Bool)} {i n : Nat} {P : Nat → Bool} (h : mstk I s) (w : wrR 285 (14610 * i) 0 I I' P) (hn : n ≤ s.1 ∨ (n = s.1 + 1 ∧ i = s.1)) : mstk (gup I' 267 34 (iZ (n : Int))) (n, fup s.2 i P) := by
  constructor
  · exact gup_s
  · intro j hj d hd
    dsimp only at hj ⊢
    rw [gup_r (by decide)]
    by_cases c : j = i
    · rw [c, fup_s, w.2.2 d (Nat.zero_le d) hd]
    · rw [fup_o c, w.2.1 _ (by omega)]
      exact h.2 j (by omega) d hd
section gPi
variable {X : Nat × (Nat → Int32)} {J : Nat → Nat → Int64} {v : Vt}
theorem m_putsL {n w : Nat} {P : Nat → Bool} (hn : n < 16) (hw : w < 12) : ∀ (m d fuel : Nat) (I : Nat → Nat → Int32), d + m = 14610 → m < fuel → I 267 34 = iZ (n : Int) → (∀ e, e < 14610 → I 282 (14610 * w + e) = tf (P e)) → ∃ I', gX12_puts_L2 267 (iZ (w : Int)) fuel (iZ (d : Int)) (mkS X I J v) = some ((), mkS X (gup I' 267 34 (iZ ((n + 1 : Nat) : Int))) J v) ∧ wrR 285 (14610 * n) d I I' P := by
  intro m
  induction m with
  | zero =>
    intro d fuel I hd hf h34 hP
    obtain ⟨f, rfl⟩ : ∃ n, fuel = n + 1 := ⟨fuel - 1, by omega⟩
    have : d = 14610 := by omega
    subst this
    refine ⟨I, ?_, wrR_end⟩
    unfold gX12_puts_L2
    rw [if_neg (by decide)]
    simp only [bO, o267, h34, aL]
    rfl
  | succ m ih =>
    intro d fuel I hd hf h34 hP
    obtain ⟨f, rfl⟩ : ∃ n, fuel = n + 1 := ⟨fuel - 1, by omega⟩
    unfold gX12_puts_L2
    rw [if_pos (by rw [cL_lt (by omega) (by omega) (by decide)]; omega)]
    simp only [bO, o267, o267R, h34, pR, iZ_add]
    rw [show (14610 : Int) * (w : Int) + (d : Int) = ((14610 * w + d : Nat) : Int) by omega, show (14610 : Int) * (n : Int) + (d : Int) = ((14610 * n + d : Nat) : Int) by omega, a282 _ _ _ _ _ (by omega)]
    simp only [bO]
    rw [hP d (by omega), b285 _ _ _ _ _ _ (by omega)]
    simp only [bO, gnar_tf]
    rw [show iZ (d : Int) + 1 = iZ ((d + 1 : Nat) : Int) from by rw [aL]; rfl]
    obtain ⟨I', r1, r2⟩ := ih (d + 1) f (gup I 285 (14610 * n + d) (tf (P d))) (by omega) (by omega) (by rw [gup_r (by decide)]; exact h34) (fun e he => by rw [gup_r (by decide)]; exact hP e he)
    exact ⟨I', r1, wrR_step (by omega) rfl r2⟩
theorem m_putsDayL {n w : Nat} (hn : n < 16) (hw : w < 14610) : ∀ (m d fuel : Nat) (I : Nat → Nat → Int32), d + m = 14610 → m < fuel → I 267 34 = iZ (n : Int) → ∃ I', gX12_putsDay_L2 267 (iZ (w : Int)) fuel (iZ (d : Int)) (mkS X I J v) = some ((), mkS X (gup I' 267 34 (iZ ((n + 1 : Nat) : Int))) J v) ∧ wrR 285 (14610 * n) d I I' (fun e => decide (e = w)) := by
  intro m
  induction m with
  | zero =>
    intro d fuel I hd hf h34
    obtain ⟨f, rfl⟩ : ∃ n, fuel = n + 1 := ⟨fuel - 1, by omega⟩
    have : d = 14610 := by omega
    subst this
    refine ⟨I, ?_, wrR_end⟩
    unfold gX12_putsDay_L2
    rw [if_neg (by decide)]
    simp only [bO, o267, h34, aL]
    rfl
  | succ m ih =>
    intro d fuel I hd hf h34
    obtain ⟨f, rfl⟩ : ∃ n, fuel = n + 1 := ⟨fuel - 1, by omega⟩
    unfold gX12_putsDay_L2
    rw [if_pos (by rw [cL_lt (by omega) (by omega) (by decide)]; omega)]
    simp only [bO, o267, o267R, h34, pR, iZ_add]
    rw [show (14610 : Int) * (n : Int) + (d : Int) = ((14610 * n + d : Nat) : Int) by omega, b285 _ _ _ _ _ _ (by omega), b285 _ _ _ _ _ _ (by omega)]
    simp only [bO]
    rw [show iZ (d : Int) + 1 = iZ ((d + 1 : Nat) : Int) from by rw [aL]; rfl]
    simp (disch := omega) only [iZ_eq]
    have go : ∀ x : Int32, x = tf (decide (d = w)) → ∃ I', gX12_putsDay_L2 267 (iZ (w : Int)) f (iZ ((d + 1 : Nat) : Int)) (mkS X (gup I 285 (14610 * n + d) x) J v) = some ((), mkS X (gup I' 267 34 (iZ ((n + 1 : Nat) : Int))) J v) ∧ wrR 285 (14610 * n) d I I' (fun e => decide (e = w)) := by
      intro x hx
      obtain ⟨I', r1, r2⟩ := ih (d + 1) f (gup I 285 (14610 * n + d) x) (by omega) (by omega) (by rw [gup_r (by decide)]; exact h34)
      exact ⟨I', r1, wrR_step (by omega) hx r2⟩
    by_cases q : d = w
    · rw [if_pos (by omega)]
      exact go _ (by rw [decide_eq_true q]; decide)
    · rw [if_neg (by omega)]
      exact go _ (by rw [decide_eq_false q]; decide)
/-- or, and, less -/
def jn (op : Nat) (a b : Bool) : Bool := if op = 3 then a || b else if op = 4 then a && b else a && !b
theorem m_joinL {op n : Nat} {P Q : Nat → Bool} (ho : 3 ≤ op ∧ op ≤ 5) (hn : n < 15) : ∀ (m d fuel : Nat) (I : Nat → Nat → Int32), d + m = 14610 → m < fuel → (∀ e, d ≤ e → e < 14610 → I 285 (14610 * n + e) = tf (P e)) → (∀ e, e < 14610 → I 285 (14610 * (n + 1) + e) = tf (Q e)) → ∃ I', gX12_joinsTop_L33 267 (iZ (op : Int)) (iZ ((14610 * n : Nat) : Int)) (iZ ((14610 * (n + 1) : Nat) : Int)) fuel (iZ (d : Int)) (mkS X I J v) = some ((), mkS X I' J v) ∧ wrR 285 (14610 * n) d I I' (fun e => jn op (P e) (Q e)) := by
  intro m
  induction m with
  | zero =>
    intro d fuel I hd hf hP hQ
    obtain ⟨f, rfl⟩ : ∃ n, fuel = n + 1 := ⟨fuel - 1, by omega⟩
    have : d = 14610 := by omega
    subst this
    refine ⟨I, ?_, wrR_end⟩
    unfold gX12_joinsTop_L33
    rw [if_neg (by decide)]
  | succ m ih =>
    intro d fuel I hd hf hP hQ
    obtain ⟨f, rfl⟩ : ∃ n, fuel = n + 1 := ⟨fuel - 1, by omega⟩
    unfold gX12_joinsTop_L33
    rw [if_pos (by rw [cL_lt (by omega) (by omega) (by decide)]; omega)]
    simp only [bO, o267R, iZ_add]
    rw [show ((14610 * n : Nat) : Int) + (d : Int) = ((14610 * n + d : Nat) : Int) by omega, show ((14610 * (n + 1) : Nat) : Int) + (d : Int) = ((14610 * (n + 1) + d : Nat) : Int) by omega, a285 _ _ _ _ _ (by omega), a285 _ _ _ _ _ (by omega)]
    simp only [bO, hP d (Nat.le_refl d) (by omega), hQ d (by omega), tf_0]
    rw [show iZ (d : Int) + 1 = iZ ((d + 1 : Nat) : Int) from by rw [aL]; rfl]
    have go : ∀ x : Int32, gnar 4 x = tf (jn op (P d) (Q d)) → ∃ I', ((saI (mkS X I J v) 285 4 (iZ ((14610 * n + d : Nat) : Int)) x).bind fun s17 => gX12_joinsTop_L33 267 (iZ (op : Int)) (iZ ((14610 * n : Nat) : Int)) (iZ ((14610 * (n + 1) : Nat) : Int)) f (iZ ((d + 1 : Nat) : Int)) s17) = some ((), mkS X I' J v) ∧ wrR 285 (14610 * n) d I I' (fun e => jn op (P e) (Q e)) := by
      intro x hx
      rw [b285 _ _ _ _ _ _ (by omega), hx]
      simp only [bO]
      obtain ⟨I', r1, r2⟩ := ih (d + 1) f (gup I 285 (14610 * n + d) (tf (jn op (P d) (Q d)))) (by omega) (by omega) (fun e h1 h2 => by rw [gup_k (by omega)]; exact hP e (by omega) h2) (fun e he => by rw [gup_k (by omega)]; exact hQ e he)
      exact ⟨I', r1, wrR_step (R := fun e => jn op (P e) (Q e)) (by omega) rfl r2⟩
    unfold jn at go ⊢
    simp (disch := omega) only [cL_eq]
    by_cases o3 : op = 3
    · simp only [if_pos o3] at go ⊢
      rw [if_pos (by omega)]
      cases hp : P d <;> cases hq : Q d <;> rw [hp, hq] at go <;> exact go _ (by decide)
    · simp only [if_neg o3] at go ⊢
      rw [if_neg (by omega)]
      by_cases o4 : op = 4
      · simp only [if_pos o4] at go ⊢
        rw [if_pos (show (op : Int) = 4 by omega)]
        cases hp : P d <;> cases hq : Q d <;> rw [hp, hq] at go <;> exact go _ (by decide)
      · simp only [if_neg o4] at go ⊢
        rw [if_neg (show ¬ (op : Int) = 4 by omega)]
        cases hp : P d <;> cases hq : Q d <;> rw [hp, hq] at go <;> exact go _ (by decide)
theorem m_asideL {K : gH → Option (Unit × gH)} {x1 : Int32} {n : Nat} {P : Nat → Bool} (hn : n < 16) : ∀ (m d fuel : Nat) (I : Nat → Nat → Int32), d + m = 14610 → m < fuel → (∀ e, e < 14610 → I 285 (14610 * n + e) = tf (P e)) → ∃ I', gX12_movesTop_L13 K 267 x1 (iZ ((14610 * n : Nat) : Int)) fuel (iZ (d : Int)) (mkS X I J v) = K (mkS X I' J v) ∧ wrR 286 0 d I I' P := by
  intro m
  induction m with
  | zero =>
    intro d fuel I hd hf hP
    obtain ⟨f, rfl⟩ : ∃ n, fuel = n + 1 := ⟨fuel - 1, by omega⟩
    have : d = 14610 := by omega
    subst this
    refine ⟨I, ?_, wrR_end⟩
    unfold gX12_movesTop_L13
    rw [if_neg (by decide)]
  | succ m ih =>
    intro d fuel I hd hf hP
    obtain ⟨f, rfl⟩ : ∃ n, fuel = n + 1 := ⟨fuel - 1, by omega⟩
    unfold gX12_movesTop_L13
    rw [if_pos (by rw [cL_lt (by omega) (by omega) (by decide)]; omega)]
    simp only [bO, o267R, iZ_add]
    rw [show ((14610 * n : Nat) : Int) + (d : Int) = ((14610 * n + d : Nat) : Int) by omega, a285 _ _ _ _ _ (by omega)]
    simp only [bO, hP d (by omega)]
    rw [b286 _ _ _ _ _ _ (by omega), gnar_tf]
    simp only [bO]
    rw [show iZ (d : Int) + 1 = iZ ((d + 1 : Nat) : Int) from by rw [aL]; rfl]
    obtain ⟨I', r1, r2⟩ := ih (d + 1) f (gup I 286 d (tf (P d))) (by omega) (by omega) (fun e h2 => by rw [gup_r (by decide)]; exact hP e h2)
    exact ⟨I', r1, wrR_step (by omega) rfl (by rw [Nat.zero_add]; exact r2)⟩
theorem m_moveL {z : Int} {n : Nat} {P : Nat → Bool} (hn : n < 16) (z1 : -100 ≤ z) (z2 : z ≤ 100) : ∀ (m d fuel : Nat) (I : Nat → Nat → Int32), d + m = 14610 → m < fuel → (∀ e, e < 14610 → I 286 e = tf (P e)) → ∃ I', gX12_movesTop_L42 267 (iZ z) (iZ ((14610 * n : Nat) : Int)) fuel (iZ (d : Int)) (mkS X I J v) = some ((), mkS X I' J v) ∧ wrR 285 (14610 * n) d I I' (fun e => decide (0 ≤ (e : Int) - z ∧ (e : Int) - z < 14610) && P ((e : Int) - z).toNat) := by
  intro m
  induction m with
  | zero =>
    intro d fuel I hd hf hP
    obtain ⟨f, rfl⟩ : ∃ n, fuel = n + 1 := ⟨fuel - 1, by omega⟩
    have : d = 14610 := by omega
    subst this
    refine ⟨I, ?_, wrR_end⟩
    unfold gX12_movesTop_L42
    rw [if_neg (by decide)]
  | succ m ih =>
    intro d fuel I hd hf hP
    obtain ⟨f, rfl⟩ : ∃ n, fuel = n + 1 := ⟨fuel - 1, by omega⟩
    unfold gX12_movesTop_L42
    rw [if_pos (by rw [cL_lt (by omega) (by omega) (by decide)]; omega)]
    simp only [bO, o267R, iZ_add, iZ_sub]
    rw [show ((14610 * n : Nat) : Int) + (d : Int) = ((14610 * n + d : Nat) : Int) by omega, m_isDay (by omega) (by omega)]
    simp only [bO, o267R]
    rw [show iZ (d : Int) + 1 = iZ ((d + 1 : Nat) : Int) from by rw [aL]; rfl]
    have go : ∀ x : Int32, gnar 4 x = tf (decide (0 ≤ (d : Int) - z ∧ (d : Int) - z < 14610) && P ((d : Int) - z).toNat) → ∃ I', ((saI (mkS X I J v) 285 4 (iZ ((14610 * n + d : Nat) : Int)) x).bind fun s17 => gX12_movesTop_L42 267 (iZ z) (iZ ((14610 * n : Nat) : Int)) f (iZ ((d + 1 : Nat) : Int)) s17) = some ((), mkS X I' J v) ∧ wrR 285 (14610 * n) d I I' (fun e => decide (0 ≤ (e : Int) - z ∧ (e : Int) - z < 14610) && P ((e : Int) - z).toNat) := by
      intro x hx
      rw [b285 _ _ _ _ _ _ (by omega), hx]
      simp only [bO]
      obtain ⟨I', r1, r2⟩ := ih (d + 1) f (gup I 285 (14610 * n + d) (tf (decide (0 ≤ (d : Int) - z ∧ (d : Int) - z < 14610) && P ((d : Int) - z).toNat))) (by omega) (by omega) (fun e h2 => by rw [gup_r (by decide)]; exact hP e h2)
      exact ⟨I', r1, wrR_step (R := fun e => decide (0 ≤ (e : Int) - z ∧ (e : Int) - z < 14610) && P ((e : Int) - z).toNat) (by omega) rfl r2⟩
    by_cases q : 0 ≤ (d : Int) - z ∧ (d : Int) - z < 14610
    · rw [if_pos q, if_neg (by decide)]
      rw [decide_eq_true q] at go
      obtain ⟨k, hk⟩ : ∃ k : Nat, (d : Int) - z = (k : Int) := ⟨((d : Int) - z).toNat, by omega⟩
      rw [hk] at go ⊢
      rw [a286 _ _ _ _ _ (by omega)]
      simp only [bO, hP k (by omega), tf_0]
      rw [Int.toNat_natCast] at go
      cases hp : P k <;> rw [hp] at go <;> exact go _ (by decide)
    · rw [if_neg q, if_pos rfl]
      rw [decide_eq_false q, Bool.false_and] at go
      exact go _ (by decide)
theorem m_offL {n w : Nat} {P Q : Nat → Bool} (hn : n < 16) (hw : w < 12) : ∀ (m d fuel : Nat) (I : Nat → Nat → Int32), d + m = 14610 → m < fuel → (∀ e, d ≤ e → e < 14610 → I 285 (14610 * n + e) = tf (P e)) → (∀ e, e < 14610 → I 282 (14610 * w + e) = tf (Q e)) → ∃ I', gX12_goesOff_L16 267 (iZ (w : Int)) (iZ ((14610 * n : Nat) : Int)) fuel (tf (wt P Q d)) (iZ (d : Int)) (mkS X I J v) = some ((), mkS X I' J v) ∧ wrR 285 (14610 * n) d I I' (off P Q) := by
  intro m
  induction m with
  | zero =>
    intro d fuel I hd hf hP hQ
    obtain ⟨f, rfl⟩ : ∃ n, fuel = n + 1 := ⟨fuel - 1, by omega⟩
    have : d = 14610 := by omega
    subst this
    refine ⟨I, ?_, wrR_end⟩
    unfold gX12_goesOff_L16
    rw [if_neg (by decide)]
  | succ m ih =>
    intro d fuel I hd hf hP hQ
    obtain ⟨f, rfl⟩ : ∃ n, fuel = n + 1 := ⟨fuel - 1, by omega⟩
    unfold gX12_goesOff_L16
    rw [if_pos (by rw [cL_lt (by omega) (by omega) (by decide)]; omega)]
    simp only [bO, o267R, iZ_add, pR]
    rw [show ((14610 * n : Nat) : Int) + (d : Int) = ((14610 * n + d : Nat) : Int) by omega, show (14610 : Int) * (w : Int) + (d : Int) = ((14610 * w + d : Nat) : Int) by omega, a285 _ _ _ _ _ (by omega), a282 _ _ _ _ _ (by omega)]
    simp only [bO, hP d (Nat.le_refl d) (by omega), hQ d (by omega), tf_0]
    rw [show iZ (d : Int) + 1 = iZ ((d + 1 : Nat) : Int) from by rw [aL]; rfl]
    have go : ∀ x y : Int32, gnar 4 x = tf (off P Q d) → y = tf (wt P Q (d + 1)) → ∃ I', ((saI (mkS X I J v) 285 4 (iZ ((14610 * n + d : Nat) : Int)) x).bind fun s17 => gX12_goesOff_L16 267 (iZ (w : Int)) (iZ ((14610 * n : Nat) : Int)) f y (iZ ((d + 1 : Nat) : Int)) s17) = some ((), mkS X I' J v) ∧ wrR 285 (14610 * n) d I I' (off P Q) := by
      intro x y hx hy
      rw [b285 _ _ _ _ _ _ (by omega), hx, hy]
      simp only [bO]
      obtain ⟨I', r1, r2⟩ := ih (d + 1) f (gup I 285 (14610 * n + d) (tf (off P Q d))) (by omega) (by omega) (fun e h1 h2 => by rw [gup_k (by omega)]; exact hP e (by omega) h2) (fun e h2 => by rw [gup_r (by decide)]; exact hQ e h2)
      exact ⟨I', r1, wrR_step (by omega) rfl r2⟩
    have eo : off P Q d = (!Q d && (P d || wt P Q d)) := rfl
    have ew : wt P Q (d + 1) = (Q d && (wt P Q d || P d)) := rfl
    rw [eo, ew] at go
    cases hp : P d <;> cases hq : Q d <;> cases hw : wt P Q d <;> rw [hp, hq, hw] at go <;> exact go _ _ (by decide) (by decide)
end gPi
