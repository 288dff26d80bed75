/-! SETS put together -/
def dep (o : Nat × Nat) (n : Nat) : Nat := if o.1 ≤ 1 then n + 1 else if 3 ≤ o.1 ∧ o.1 ≤ 5 then n - 1 else n
theorem cx_dep {K : Nat → Nat → Bool} {o : Nat × Nat} {s : Nat × (Nat → Nat → Bool)} : (cx K o s).1 = dep o s.1 := by
  unfold cx dep
  repeat' split
  all_goals first | rfl | omega
theorem tr_dep {K : Nat → Nat → Bool} {o : Nat × Nat} {s : Nat × (Nat → Nat → Bool)} : (crun K (tr o) s).1 = dep o s.1 := by
  unfold tr
  by_cases c : o.1 = 1
  · rw [if_pos c]
    show (cx K (2, o.2) (cx K (1, 0) s)).1 = _
    rw [cx_dep, cx_dep]
    unfold dep
    rw [if_neg (show ¬ 2 ≤ 1 by decide), if_neg (show ¬ (3 ≤ 2 ∧ 2 ≤ 5) by decide), if_pos (show 0 + 1 ≤ 1 by decide), if_pos (by omega)]
  · rw [if_neg c]
    exact cx_dep
def mokR (kn : Nat → Prop) : List (Nat × Nat) → Nat → Prop
  | [], n => n = 1
  | o :: L, n => mxok o n ∧ (o.1 = 0 ∨ o.1 = 8 → kn o.2) ∧ mokR kn L (dep o n)
def cokR (kn : Nat → Prop) : List (Nat × Nat) → Nat → Prop
  | [], n => n = 1
  | o :: L, n => cxok o n ∧ (o.1 = 0 ∨ o.1 = 8 → kn o.2) ∧ cokR kn L (dep o n)
theorem cokR_of {kn : Nat → Prop} : ∀ {M : List (Nat × Nat)} {n : Nat}, mokR kn M n → cokR kn (trL M) n := by
  intro M
  induction M with
  | nil => intro n h; exact h
  | cons o M ih =>
    intro n ⟨h1, h2, h3⟩
    show cokR kn (tr o ++ trL M) n
    unfold tr
    by_cases c : o.1 = 1
    · obtain ⟨a, b, e⟩ := h1.1 c
      have ed : dep o n = n + 1 := by unfold dep; rw [if_pos (by omega)]
      rw [if_pos c]
      refine ⟨?_, fun q => ?_, ?_, fun q => ?_, ?_⟩
      · exact ⟨by omega, fun _ => a, fun q => absurd q (by decide), fun q => absurd q (by decide), fun q => absurd q (by decide), fun q => absurd q (by decide), fun q => absurd q (by decide), e⟩
      · exact absurd q (by decide)
      · show cxok (2, o.2) (n + 1)
        exact ⟨by dsimp only; omega, fun q => absurd q (show ¬ 2 ≤ 1 by decide), fun _ => by omega, fun q => absurd q (show ¬ 3 ≤ 2 by decide), fun _ => b, fun q => absurd q (show ¬ 6 ≤ 2 by decide), fun q => absurd q (show ¬ (2 = 0 ∨ 2 = 8) by decide), by omega⟩
      · exact absurd q (show ¬ (2 = 0 ∨ 2 = 8) by decide)
      · show cokR kn (trL M) (n + 1)
        rw [← ed]; exact ih h3
    · rw [if_neg c]
      exact ⟨h1.2 c, h2, ih h3⟩
def mseg (I : Nat → Nat → Int32) : Nat → List (Nat × Nat) → Prop
  | _, [] => True
  | k, o :: L => I 278 (2 * k) = iZ (o.1 : Int) ∧ I 278 (2 * k + 1) = iZ (o.2 : Int) ∧ mseg I (k + 1) L
def cseg (I : Nat → Nat → Int32) (b : Nat) : Nat → List (Nat × Nat) → Prop
  | _, [] => True
  | k, o :: L => (I (b + 3) k = iZ ((o.1 * 16384 + o.2 : Nat) : Int) ∧ o.1 < 16 ∧ o.2 < 16384) ∧ cseg I b (k + 1) L
theorem mseg_fr {I I' : Nat → Nat → Int32} (e : ∀ k, I' 278 k = I 278 k) : ∀ {L : List (Nat × Nat)} {k : Nat}, mseg I k L → mseg I' k L := by
  intro L
  induction L with
  | nil => intro k _; exact trivial
  | cons o L ih => intro k ⟨a, b, c⟩; exact ⟨by rw [e]; exact a, by rw [e]; exact b, ih c⟩
theorem cseg_fr {I I' : Nat → Nat → Int32} {b : Nat} (e : ∀ k, I' (b + 3) k = I (b + 3) k) : ∀ {L : List (Nat × Nat)} {k : Nat}, cseg I b k L → cseg I' b k L := by
  intro L
  induction L with
  | nil => intro k _; exact trivial
  | cons o L ih => intro k ⟨⟨a, b, c⟩, d⟩; exact ⟨⟨by rw [e]; exact a, b, c⟩, ih d⟩
/-- rows of days without order -/
def rowP (f : Nat → Int32) (n : Nat) (P : Nat → Bool) : Prop := n = cnt P 0 14610 ∧ (∀ k, k < n → ∃ d : Nat, d < 14610 ∧ P d = true ∧ f k = iZ (d : Int)) ∧ (∀ d, d < 14610 → P d = true → ∃ k, k < n ∧ f k = iZ (d : Int)) ∧ (∀ j k, j < n → k < n → f j = f k → j = k)
def inF (f : Nat → Int32) (n d : Nat) : Bool := exF (fun j => decide (f j = iZ (d : Int))) 0 n
theorem exF_snoc {P : Nat → Bool} : ∀ {m k : Nat}, exF P k (m + 1) = (exF P k m || P (k + m)) := by
  intro m
  induction m with
  | zero => intro k; show (P k || false) = (false || P (k + 0)); simp
  | succ m ih =>
    intro k
    show (P k || exF P (k + 1) (m + 1)) = ((P k || exF P (k + 1) m) || P (k + (m + 1)))
    rw [ih, Bool.or_assoc, show k + 1 + m = k + (m + 1) by omega]
theorem inF_succ (f : Nat → Int32) (n d : Nat) : inF f (n + 1) d = (inF f n d || decide (f n = iZ (d : Int))) := by
  unfold inF
  rw [exF_snoc, Nat.zero_add]
theorem rowP_in {f : Nat → Int32} {n d : Nat} {P : Nat → Bool} (h : rowP f n P) (hd : d < 14610) : inF f n d = P d := by
  apply Bool.eq_iff_iff.mpr
  unfold inF
  rw [exF_iff]
  constructor
  · rintro ⟨j, _, b, c⟩
    obtain ⟨e, e1, e2, e3⟩ := h.2.1 j (by omega)
    rw [decide_eq_true_eq, e3, iZ_eq (by omega) (by omega) (by omega) (by omega)] at c
    rw [← show e = d by omega]; exact e2
  · intro q
    obtain ⟨k, a, b⟩ := h.2.2.1 d hd q
    exact ⟨k, by omega, by omega, by rw [decide_eq_true_eq]; exact b⟩
def setB (K : Nat → Nat → Bool) (L : List (Nat × Nat)) : Nat → Bool := (crun K (trL L) (0, fun _ _ => false)).2 0
def setD (K : Nat → Nat → Bool) (L : List (Nat × Nat)) (A B : Nat → Bool) (d : Nat) : Bool := (setB K L d || A d) && !B d
section gSe
variable {X : Nat × (Nat → Int32)} {v : Vt}
theorem crun_app {K : Nat → Nat → Bool} {L M : List (Nat × Nat)} {s : Nat × (Nat → Nat → Bool)} : crun K (L ++ M) s = crun K M (crun K L s) := List.foldl_append
theorem m_codesL {J : Nat → Nat → Int64} {K : Nat → Nat → Bool} {k58 : gH → Option (Unit × gH)} {kn : Nat → Prop} {t e : Nat} (ht : t < 6) (he : e ≤ 1500) : ∀ (L : List (Nat × Nat)) (k fuel : Nat) (I : Nat → Nat → Int32) (s : Nat × (Nat → Nat → Bool)), mseg I k L → k + L.length = e → L.length < fuel → I 276 (254 + 3 * t + 2) = iZ (e : Int) → mstk I s → mokR kn L s.1 → (∀ w, kn w → ∀ d, d < 14610 → I 282 (14610 * w + d) = tf (K w d)) → ∃ I', gX12_laysSet_L16 k58 267 (iZ (t : Int)) fuel (iZ (k : Int)) (mkS X I J v) = k58 (mkS X I' J v) ∧ frD I I' ∧ mstk I' (crun K (trL L) s) := by
  intro L
  induction L with
  | nil =>
    intro k fuel I s hs hk hf h2 hm hok hK
    obtain ⟨f, rfl⟩ : ∃ n, fuel = n + 1 := ⟨fuel - 1, by omega⟩
    refine ⟨I, ?_, frD_r I, hm⟩
    unfold gX12_laysSet_L16 fX12_setAt
    simp only [bO, o267R, pR, aR, aL]
    rw [show (254 : Int) + 3 * (t : Int) + 2 = ((254 + 3 * t + 2 : Nat) : Int) by omega, a276 _ _ _ _ _ (by omega)]
    simp only [bO, h2]
    rw [List.length_nil] at hk
    rw [if_neg (by rw [iZ_lt (by omega) (by omega) (by omega) (by omega)]; omega)]
  | cons o L ih =>
    intro k fuel I s hs hk hf h2 hm hok hK
    obtain ⟨f, rfl⟩ : ∃ n, fuel = n + 1 := ⟨fuel - 1, by omega⟩
    obtain ⟨s1, s2, s3⟩ := hs
    obtain ⟨o1, o2, o3⟩ := hok
    rw [List.length_cons] at hk hf
    unfold gX12_laysSet_L16 fX12_setAt
    simp only [bO, o267R, pR, aR, aL]
    rw [show (254 : Int) + 3 * (t : Int) + 2 = ((254 + 3 * t + 2 : Nat) : Int) by omega, a276 _ _ _ _ _ (by omega)]
    simp only [bO, h2]
    rw [if_pos (by rw [iZ_lt (by omega) (by omega) (by omega) (by omega)]; omega)]
    rw [show (2 : Int) * (k : Int) + 1 = ((2 * k + 1 : Nat) : Int) by omega, show (2 : Int) * (k : Int) = ((2 * k : Nat) : Int) by omega, a278 _ _ _ _ _ (by omega), a278 _ _ _ _ _ (by omega)]
    simp only [bO, m_c, s1, s2]
    obtain ⟨I1, a1, a2, a3⟩ := m_does (X := X) (J := J) (v := v) (K := K) hm o1 (fun q => hK o.2 (o2 q))
    rw [a1, gb2_some, show (k : Int) + 1 = ((k + 1 : Nat) : Int) by omega]
    obtain ⟨I2, b1, b2, b3⟩ := ih (k + 1) f I1 (crun K (tr o) s) (mseg_fr (fun k => a2 278 k (by decide) (by decide) (Or.inl (by decide))) s3) (by omega) (by omega) (by rw [a2 276 _ (by decide) (by decide) (Or.inl (by decide))]; exact h2) a3 (by rw [tr_dep]; exact o3) (fun w hw d hd => by rw [a2 282 _ (by decide) (by decide) (Or.inl (by decide))]; exact hK w hw d hd)
    refine ⟨I2, b1, frD_t a2 b2, ?_⟩
    show mstk I2 (crun K (tr o ++ trL L) s)
    rw [crun_app]; exact b3
theorem c_codesL {K : Nat → Nat → Bool} {k52 : gH → Option (Unit × gH)} {kn : Nat → Prop} {b t e : Nat} (hb : isBk b) (hv : v.2.2.1 = b) (ht : t < 6) (he : e ≤ 800) (hkn : ∀ w, kn w → w < 12) : ∀ (L : List (Nat × Nat)) (k fuel : Nat) (I : Nat → Nat → Int32) (J : Nat → Nat → Int64) (s : Nat × (Nat → Nat → Bool)), cseg I b k L → k + L.length = e → L.length < fuel → I (b + 4) t = iZ (e : Int) → stk I J s → cokR kn L s.1 → (∀ w, kn w → dsP J (65 + 2 * w) (K w)) → ∃ I' J', gX5_putTogether_L14 k52 60 (iZ (t : Int)) fuel (iZ (k : Int)) (mkS X I J v) = k52 (mkS X I' J' v) ∧ (∀ r k, (r ≠ 60 ∨ k ≠ 6) → I' r k = I r k) ∧ frS J J' ∧ stk I' J' (crun K L s) := by
  have hb60 := bk_r hb
  intro L
  induction L with
  | nil =>
    intro k fuel I J s hs hk hf h2 hm hok hK
    obtain ⟨f, rfl⟩ : ∃ n, fuel = n + 1 := ⟨fuel - 1, by omega⟩
    refine ⟨I, J, ?_, fun _ _ _ => rfl, frS_r J, hm⟩
    unfold gX5_putTogether_L14
    simp only [bO, o60R, hv, bk_c hb, c_codeEnd hb ht, h2]
    rw [List.length_nil] at hk
    rw [if_neg (by rw [iZ_lt (by omega) (by omega) (by omega) (by omega)]; omega)]
  | cons o L ih =>
    intro k fuel I J s hs hk hf h2 hm hok hK
    obtain ⟨f, rfl⟩ : ∃ n, fuel = n + 1 := ⟨fuel - 1, by omega⟩
    obtain ⟨⟨s1, s2, s3⟩, s4⟩ := hs
    obtain ⟨o1, o2, o3⟩ := hok
    rw [List.length_cons] at hk hf
    unfold gX5_putTogether_L14
    simp only [bO, o60R, hv, bk_c hb, c_codeEnd hb ht, h2, gcv_mk (show gK cst 60 = 5 + 1 from k_60)]
    rw [if_pos (by rw [iZ_lt (by omega) (by omega) (by omega) (by omega)]; omega), c_opAt hb (by omega) s2 s3 s1]
    simp only [bO, o60R, hv, bk_c hb, gcv_mk (show gK cst 60 = 5 + 1 from k_60)]
    rw [c_argAt hb (by omega) s2 s3 s1]
    simp only [bO, gcv_mk (show gK cst 60 = 5 + 1 from k_60), aL]
    obtain ⟨I1, J1, a1, a2, a3, a4⟩ := c_perform (X := X) (v := v) (K := K) hm o1 (fun q => hK o.2 (o2 q))
    have fr1 : ∀ r k, (r ≠ 60 ∨ k ≠ 6) → I1 r k = I r k := fun r k q => by
      rw [a2]
      rcases q with q | q
      · exact gup_r q
      · exact gup_k q
    rw [a1, gb2_some, show (k : Int) + 1 = ((k + 1 : Nat) : Int) by omega]
    obtain ⟨I2, J2, b1, b2, b3, b4⟩ := ih (k + 1) f I1 J1 (cx K o s) (cseg_fr (fun k => fr1 (b + 3) k (Or.inl (by omega))) s4) (by omega) (by omega) (by rw [fr1 _ _ (Or.inl (by omega))]; exact h2) a4 (by rw [cx_dep]; exact o3) (fun w hw => dsP_o (hK w hw) (a3 _ (fun i hi => by have := hkn w hw; omega)))
    exact ⟨I2, J2, b1, fun r k q => (b2 r k q).trans (fr1 r k q), frS_t a3 b3, b4⟩
end gSe
