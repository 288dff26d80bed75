/-! CHANCE -/
abbrev ChS : Type := Nat × ((Nat → Nat → Bool) × (Nat → Nat → Bool)) × List (Nat × Nat × Nat)
def chW (B : Bk) (A L : Nat → Nat → Bool) (s d : Nat) : Nat := if dy B A L (6 + s) d = true then 2 else 1
def chB (B : Bk) (A L : Nat → Nat → Bool) (s d : Nat) : Bool := !(mk0 (A s) (L s) d == 0) || decide (cnt (if chW B A L s d = 1 then A s else L s) 0 14610 < 20)
theorem chB_iff {B : Bk} {A L : Nat → Nat → Bool} {s d : Nat} : chB B A L s d = true ↔ (mk0 (A s) (L s) d = 0 → cnt (if chW B A L s d = 1 then A s else L s) 0 14610 < 20) := by
  unfold chB
  rw [Bool.or_eq_true, decide_eq_true_eq, Bool.not_eq_true', beq_eq_false_iff_ne]
  constructor
  · intro h q
    rcases h with h | h
    · exact absurd q h
    · exact h
  · intro h
    by_cases c : mk0 (A s) (L s) d = 0
    · exact Or.inr (h c)
    · exact Or.inl c
def chAt (B : Bk) (c : ChS) (s d : Nat) : ChS := if chB B c.2.1.1 c.2.1.2 s d = true then (lcg (lcg c.1), (uS c.2.1.1 s (mA (mk1 (c.2.1.1 s) (c.2.1.2 s) d (chW B c.2.1.1 c.2.1.2 s d)) (c.2.1.1 s) d), uS c.2.1.2 s (mL (mk1 (c.2.1.1 s) (c.2.1.2 s) d (chW B c.2.1.1 c.2.1.2 s d)) (c.2.1.2 s) d)), (s, d, mk0 (c.2.1.1 s) (c.2.1.2 s) d) :: c.2.2) else (lcg (lcg c.1), c.2.1, c.2.2)
def chSt (B : Bk) (c : ChS) : ChS := chAt B c (lcg c.1 / 64 % B.nS) (lcg (lcg c.1) / 64 % 14610)
def chRun (B : Bk) : Nat → ChS → ChS
  | 0, c => c
  | n + 1, c => chRun B n (chSt B c)
theorem chAt_len {B : Bk} {c : ChS} {s d : Nat} : (chAt B c s d).2.2.length ≤ c.2.2.length + 1 := by
  unfold chAt
  split
  · exact Nat.le_refl _
  · exact Nat.le_succ _
theorem chAt_z {B : Bk} {c : ChS} {s d : Nat} : (chAt B c s d).1 = lcg (lcg c.1) := by
  unfold chAt
  split <;> rfl
/-- marks are in order -/
def gdM (n : Nat) (p : (Nat → Nat → Bool) × (Nat → Nat → Bool)) : Prop := mkDj p.1 p.2 ∧ (∀ s, n ≤ s → s < 6 → ∀ d, p.1 s d = false ∧ p.2 s d = false)
theorem turn_gd {n s d m : Nat} {p : (Nat → Nat → Bool) × (Nat → Nat → Bool)} (h : gdM n p) (hs : s < n) : gdM n (uS p.1 s (mA m (p.1 s) d), uS p.2 s (mL m (p.2 s) d)) := by
  refine ⟨fun t e q => ?_, fun t h1 h2 e => ?_⟩
  · by_cases c : t = s
    · subst c
      have q1 : uS p.1 t (mA m (p.1 t) d) t e = true := q.1
      have q2 : uS p.2 t (mL m (p.2 t) d) t e = true := q.2
      rw [uS_s] at q1 q2
      by_cases ce : e = d
      · subst ce
        by_cases m1 : m = 1
        · subst m1
          have : pMi (p.2 t) e e = true := q2
          unfold pMi at this
          rw [if_pos rfl] at this
          cases this
        · have : (if m = 1 then pPl (p.1 t) e else pMi (p.1 t) e) e = true := q1
          rw [if_neg m1] at this
          unfold pMi at this
          rw [if_pos rfl] at this
          cases this
      · have o1 : mA m (p.1 t) d e = p.1 t e := by
          unfold mA
          split
          · show (if e = d then true else p.1 t e) = _; rw [if_neg ce]
          · show (if e = d then false else p.1 t e) = _; rw [if_neg ce]
        have o2 : mL m (p.2 t) d e = p.2 t e := by
          unfold mL
          split
          · show (if e = d then true else p.2 t e) = _; rw [if_neg ce]
          · show (if e = d then false else p.2 t e) = _; rw [if_neg ce]
        rw [o1] at q1
        rw [o2] at q2
        exact h.1 t e ⟨q1, q2⟩
    · have q1 : uS p.1 s (mA m (p.1 s) d) t e = true := q.1
      have q2 : uS p.2 s (mL m (p.2 s) d) t e = true := q.2
      have o1 : uS p.1 s (mA m (p.1 s) d) t = p.1 t := if_neg c
      have o2 : uS p.2 s (mL m (p.2 s) d) t = p.2 t := if_neg c
      rw [o1] at q1
      rw [o2] at q2
      exact h.1 t e ⟨q1, q2⟩
  · have o1 : uS p.1 s (mA m (p.1 s) d) t = p.1 t := if_neg (by omega)
    have o2 : uS p.2 s (mL m (p.2 s) d) t = p.2 t := if_neg (by omega)
    show uS p.1 s (mA m (p.1 s) d) t e = false ∧ uS p.2 s (mL m (p.2 s) d) t e = false
    rw [o1, o2]
    exact h.2 t h1 h2 e
/-- what a chance has done can be taken back to where it began -/
def bkM (o : (Nat → Nat → Bool) × (Nat → Nat → Bool)) (c : ChS) : Prop := vM c.2.2 c.2.1 ∧ uM c.2.2 c.2.1 = o
theorem chAt_bk {B : Bk} {c : ChS} {s d : Nat} {o : (Nat → Nat → Bool) × (Nat → Nat → Bool)} (hs : s < 6) (hd : d < 14610) (hD : mkDj c.2.1.1 c.2.1.2) (cA : cnt (c.2.1.1 s) 0 14610 ≤ 20) (cL : cnt (c.2.1.2 s) 0 14610 ≤ 20) (h : bkM o c) : bkM o (chAt B c s d) := by
  unfold chAt
  by_cases q : chB B c.2.1.1 c.2.1.2 s d = true
  · rw [if_pos q]
    obtain ⟨t1, t2⟩ := turn_back (k := chW B c.2.1.1 c.2.1.2 s d) hs hd (hD s d) cA cL
    obtain ⟨h1, h2⟩ := h
    have t2' : (uS (uS c.2.1.1 s (mA (mk1 (c.2.1.1 s) (c.2.1.2 s) d (chW B c.2.1.1 c.2.1.2 s d)) (c.2.1.1 s) d)) s (mA (mk0 (c.2.1.1 s) (c.2.1.2 s) d) (uS c.2.1.1 s (mA (mk1 (c.2.1.1 s) (c.2.1.2 s) d (chW B c.2.1.1 c.2.1.2 s d)) (c.2.1.1 s) d) s) d), uS (uS c.2.1.2 s (mL (mk1 (c.2.1.1 s) (c.2.1.2 s) d (chW B c.2.1.1 c.2.1.2 s d)) (c.2.1.2 s) d)) s (mL (mk0 (c.2.1.1 s) (c.2.1.2 s) d) (uS c.2.1.2 s (mL (mk1 (c.2.1.1 s) (c.2.1.2 s) d (chW B c.2.1.1 c.2.1.2 s d)) (c.2.1.2 s) d) s) d)) = c.2.1 := t2
    refine ⟨⟨t1.1, ?_⟩, ?_⟩
    · show vM c.2.2 _
      dsimp only
      rw [t2']
      exact h1
    · show uM c.2.2 _ = o
      dsimp only
      rw [t2']
      exact h2
  · rw [if_neg q]
    exact ⟨h.1, h.2⟩
section gCh
variable {X : Nat × (Nat → Int32)} {v : Vt} {B : Bk} {b : Nat}
def frCh (q : Nat) (I I' : Nat → Nat → Int32) : Prop := ∀ a k, (a ≠ 50 ∨ k ≠ 9) → (a ≠ 60 ∨ (k ≠ 6 ∧ k ≠ 7)) → ¬ (119 ≤ a ∧ a ≤ 142) → a ≠ 148 + 2 * q → a ≠ 148 + 2 * q + 1 → I' a k = I a k
theorem cdL_cons {I I' : Nat → Nat → Int32} {r : Nat} {l : List (Nat × Nat × Nat)} {c : Nat × Nat × Nat} (h : cdL I r l) (h40 : l.length < 40) (e1 : I' r 1 = iZ ((l.length + 1 : Nat) : Int)) (e2 : ∀ j, j < l.length → I' (r + 1) j = I (r + 1) j) (e3 : I' (r + 1) l.length = iZ (cdM c : Nat)) : cdL I' r (c :: l) := by
  refine ⟨by show l.length + 1 ≤ 40; omega, e1, fun j hj => ?_⟩
  have hj' : j < l.length + 1 := hj
  show I' (r + 1) j = iZ (cdM ((c :: l).getD (l.length + 1 - 1 - j) (0, 0, 0)) : Nat)
  by_cases q : j = l.length
  · rw [q, e3, show l.length + 1 - 1 - l.length = 0 by omega]
    rfl
  · rw [e2 j (by omega), h.2.2 j (by omega), show l.length + 1 - 1 - j = (l.length - 1 - j) + 1 by omega]
    rfl
theorem c_chL {q n : Nat} {o : (Nat → Nat → Bool) × (Nat → Nat → Bool)} (hq : q < 20) (hn : n ≤ 40) (hb : isBk b) (hv1 : v.1 = b) (hv : v.2.2.1 = b) (ok : BkOK B) (hS1 : 1 ≤ B.nS) : ∀ (m i fuel : Nat) (I : Nat → Nat → Int32) (J : Nat → Nat → Int64) (c : ChS), i + m = n → m < fuel → I 50 9 = iZ (c.1 : Int) → c.1 < 2147483648 → cBk I b B → cLg I J B c.2.1.1 c.2.1.2 → gdM B.nS c.2.1 → cdL I (148 + 2 * q) c.2.2 → c.2.2.length ≤ i → bkM o c → ∃ I' J', gX11_chance_L44 50 (iZ (n : Int)) (148 + 2 * q) fuel (iZ (i : Int)) (mkS X I J v) = some (iZ ((chRun B m c).2.2.length : Int), mkS X I' J' v) ∧ frCh q I I' ∧ (∀ a, (a < 66 ∨ 118 < a) → J' a = J a) ∧ I' 50 9 = iZ ((chRun B m c).1 : Int) ∧ (chRun B m c).1 < 2147483648 ∧ cLg I' J' B (chRun B m c).2.1.1 (chRun B m c).2.1.2 ∧ gdM B.nS (chRun B m c).2.1 ∧ cdL I' (148 + 2 * q) (chRun B m c).2.2 ∧ bkM o (chRun B m c) := by
  have hb0 := bk_r hb
  have k1 := ok.1
  have k2 := ok.2.1
  obtain ⟨w1, w2⟩ := rowJ hq
  intro m
  induction m with
  | zero =>
    intro i fuel I J c hi hf h9 hz hB hL hg hc hl hbk
    obtain ⟨f, rfl⟩ : ∃ n, fuel = n + 1 := ⟨fuel - 1, by omega⟩
    refine ⟨I, J, ?_, fun _ _ _ _ _ _ _ => rfl, fun _ _ => rfl, h9, hz, hL, hg, hc, hbk⟩
    unfold gX11_chance_L44
    rw [if_neg (by rw [iZ_lt (by omega) (by omega) (by omega) (by omega)]; omega)]
    simp only [row_i w1, bO, hc.2.1]
    rfl
  | succ m ih =>
    intro i fuel I J c hi hf h9 hz hB hL hg hc hl hbk
    obtain ⟨f, rfl⟩ : ∃ n, fuel = n + 1 := ⟨fuel - 1, by omega⟩
    obtain ⟨s, hs⟩ : ∃ s, s = lcg c.1 / 64 % B.nS := ⟨_, rfl⟩
    obtain ⟨d, hd⟩ : ∃ d, d = lcg (lcg c.1) / 64 % 14610 := ⟨_, rfl⟩
    have hsn : s < B.nS := by rw [hs]; exact Nat.mod_lt _ (by omega)
    have hdn : d < 14610 := by rw [hd]; exact Nat.mod_lt _ (by decide)
    have hrun : chRun B (m + 1) c = chRun B m (chAt B c s d) := by
      show chRun B m (chSt B c) = _
      unfold chSt
      rw [← hs, ← hd]
    rw [hrun]
    conv => enter [1, I', 1, J', 1]; unfold gX11_chance_L44
    rw [if_pos (by rw [iZ_lt (by omega) (by omega) (by omega) (by omega)]; omega)]
    simp only [bO, o50R, hv1, bk_i hb, hB.2.1, o50]
    rw [c_draw hz hS1 (by omega) h9, gb2_some, ← hs]
    have h9b : gup I 50 9 (iZ (lcg c.1 : Nat)) 50 9 = iZ (lcg c.1 : Nat) := gup_s
    have dr2 : fX11_draw 50 14610 (mkS X (gup I 50 9 (iZ (lcg c.1 : Nat))) J v) = some (iZ (d : Int), mkS X (gup (gup I 50 9 (iZ (lcg c.1 : Nat))) 50 9 (iZ (lcg (lcg c.1) : Nat))) J v) := by
      rw [hd]
      exact c_draw (n := 14610) (lcg_lt _) (by decide) (by decide) h9b
    simp only [o50, dr2, gb2_some, bO, o50R, o60, gup_gup, aR]
    obtain ⟨I0, hI0⟩ : ∃ I0, I0 = gup I 50 9 (iZ (lcg (lcg c.1) : Nat)) := ⟨_, rfl⟩
    rw [← hI0]
    have g0 : ∀ a k, (a ≠ 50 ∨ k ≠ 9) → I0 a k = I a k := fun a k x => by
      rw [hI0]
      rcases x with x | x
      · exact gup_r x
      · exact gup_k x
    have h90 : I0 50 9 = iZ (lcg (lcg c.1) : Nat) := by rw [hI0, gup_s]
    have hB0 : cBk I0 b B := cBk_fr hB k1 (fun r k x y => g0 r k (Or.inl (by omega)))
    have hL0 : cLg I0 J B c.2.1.1 c.2.1.2 := cLg_fr hL k1 k2 (g0 60 7 (Or.inl (by decide))) (fun r k x y => g0 r k (Or.inl (by omega))) (fun _ _ _ => rfl)
    obtain ⟨I1, J1, e1, e2, e3, e4⟩ := c_daysOf (X := X) (v := v) (z := 6 + (s : Int)) (by omega) (by omega) hb hv ok hB0 hL0
    have asked : (0 ≤ 6 + (s : Int) ∧ 6 + (s : Int) < (B.nR : Int)) ∨ (6 ≤ 6 + (s : Int) ∧ 6 + (s : Int) < 6 + (B.nS : Int)) := by omega
    have e4' := e4 asked
    rw [show (6 + (s : Int)).toNat = 6 + s by omega] at e1 e4'
    rw [if_pos asked] at e1
    have hds : isDS (65 + 2 * (6 + s)) := isDS_k (by omega)
    have eh : fX2_holds (65 + 2 * (6 + s)) (iZ (d : Int)) (mkS X I1 J1 v) = some (tf (dy B c.2.1.1 c.2.1.2 (6 + s) d), mkS X I1 J1 v) := by
      rw [ds_holds hds (by omega) (by omega), Int.toNat_natCast, dsP_d e4' hdn]
      cases dy B c.2.1.1 c.2.1.2 (6 + s) d with
      | true => rw [if_pos ⟨by omega, by omega, rfl⟩]; rfl
      | false => rw [if_neg (fun q => by cases q.2.2)]; rfl
    rw [e1, gb2_some, if_neg (by omega), ds_c hds, eh, gb2_some]
    simp only [gjn_eq, bO, o50R, o60]
    have hcT := fun k (hk : k = 1 ∨ k = 2) => c_turnS (X := X) (v := v) (J := J1) (I := I1) (s := s) (d := d) (k := k) ok (show s < 6 by omega) hdn hk e3
    have fr1 : frCh q I I1 := fun a k x1 x2 x3 x4 x5 => by rw [e2.1 a k x2, g0 a k x1]
    have hc1 : cdL I1 (148 + 2 * q) c.2.2 := by
      have ea : ∀ a k, 148 ≤ a → a ≤ 187 → I1 a k = I a k := fun a k x y => by rw [e2.1 a k (Or.inl (by omega)), g0 a k (Or.inl (by omega))]
      exact ⟨hc.1, by rw [ea _ _ (by omega) (by omega)]; exact hc.2.1, fun j hj => by rw [ea _ _ (by omega) (by omega)]; exact hc.2.2 j hj⟩
    have h91 : I1 50 9 = iZ (lcg (lcg c.1) : Nat) := by rw [e2.1 50 9 (Or.inl (by decide))]; exact h90
    have hB1 : cBk I1 b B := cBk_fr hB0 k1 (fun r k x y => e2.1 r k (Or.inl (by omega)))
    have hbk2 : bkM o (chAt B c s d) := chAt_bk (show s < 6 by omega) hdn hg.1 (hL.2 s (by omega)).1.2.1 (hL.2 s (by omega)).2.2.1 hbk
    have tl : ∀ k, (k = 1 ∨ k = 2) → k = chW B c.2.1.1 c.2.1.2 s d → ∃ I' J', (gb2 (fX5_turn 60 (iZ (s : Int)) (iZ (d : Int)) (iZ (k : Int)) (mkS X I1 J1 v)) fun r37 s38 => if r37 = -1 then gX11_chance_L44 50 (iZ (n : Int)) (148 + 2 * q) f (iZ (i : Int) + 1) s38 else gb2 (gcv s38 (148 + 2 * q) 7 (fX7_append (148 + 2 * q) r37 s38)) fun (_ : Unit) s41 => gX11_chance_L44 50 (iZ (n : Int)) (148 + 2 * q) f (iZ (i : Int) + 1) s41) = some (iZ ((chRun B m (chAt B c s d)).2.2.length : Int), mkS X I' J' v) ∧ frCh q I I' ∧ (∀ a, (a < 66 ∨ 118 < a) → J' a = J a) ∧ I' 50 9 = iZ ((chRun B m (chAt B c s d)).1 : Int) ∧ (chRun B m (chAt B c s d)).1 < 2147483648 ∧ cLg I' J' B (chRun B m (chAt B c s d)).2.1.1 (chRun B m (chAt B c s d)).2.1.2 ∧ gdM B.nS (chRun B m (chAt B c s d)).2.1 ∧ cdL I' (148 + 2 * q) (chRun B m (chAt B c s d)).2.2 ∧ bkM o (chRun B m (chAt B c s d)) := by
      intro k hk hkw
      rw [aL, show (i : Int) + 1 = ((i + 1 : Nat) : Int) by omega]
      rcases hcT k hk with ⟨q1, q2, q3⟩ | ⟨q1, I2, q3, q4, q5⟩
      · have hno : ¬ chB B c.2.1.1 c.2.1.2 s d = true := fun z => by
          have := chB_iff.mp z q1
          rw [← hkw] at this
          exact q2 this
        have ec : chAt B c s d = (lcg (lcg c.1), c.2.1, c.2.2) := by unfold chAt; rw [if_neg hno]
        rw [q3, gb2_some, if_pos rfl]
        rw [ec] at hbk2 ⊢
        obtain ⟨I', J', z1, z2, z3, z4, z5, z6, z7, z8, z9⟩ := ih (i + 1) f I1 J1 (lcg (lcg c.1), c.2.1, c.2.2) (by omega) (by omega) h91 (lcg_lt _) hB1 e3 hg hc1 (by show c.2.2.length ≤ i + 1; omega) hbk2
        exact ⟨I', J', z1, fun a k x1 x2 x3 x4 x5 => by rw [z2 a k x1 x2 x3 x4 x5, fr1 a k x1 x2 x3 x4 x5], fun a x => by rw [z3 a x, e2.2 a (by omega)], z4, z5, z6, z7, z8, z9⟩
      · have hyes : chB B c.2.1.1 c.2.1.2 s d = true := chB_iff.mpr (by rw [← hkw]; exact q1)
        have ec : chAt B c s d = (lcg (lcg c.1), (uS c.2.1.1 s (mA (mk1 (c.2.1.1 s) (c.2.1.2 s) d k) (c.2.1.1 s) d), uS c.2.1.2 s (mL (mk1 (c.2.1.1 s) (c.2.1.2 s) d k) (c.2.1.2 s) d)), (s, d, mk0 (c.2.1.1 s) (c.2.1.2 s) d) :: c.2.2) := by unfold chAt; rw [if_pos hyes, ← hkw]
        have h02 : mk0 (c.2.1.1 s) (c.2.1.2 s) d ≤ 2 := by unfold mk0; split; omega; split <;> omega
        have hlen : c.2.2.length < 40 := by omega
        rw [q3, gb2_some, if_neg (by rw [cM_eq (by omega) (by omega)]; omega), row_c w1]
        have ea : ∀ a k, 148 ≤ a → a ≤ 187 → I2 a k = I1 a k := fun a k x y => q4 a k (Or.inl (by omega)) (by omega)
        have ap := row_append (X := X) (v := v) (J := J1) (I := I2) (r := 148 + 2 * q) (n := c.2.2.length) (x := iZ ((((s * 14610 + d) * 3) + mk0 (c.2.1.1 s) (c.2.1.2 s) d : Nat) : Int)) w1 (by rw [ea _ _ (by omega) (by omega)]; exact hc1.2.1) (by omega)
        rw [if_pos (by omega)] at ap
        rw [ap, gb2_some]
        obtain ⟨I3, hI3⟩ : ∃ I3, I3 = gup (gup I2 (148 + 2 * q + 1) c.2.2.length (iZ ((((s * 14610 + d) * 3) + mk0 (c.2.1.1 s) (c.2.1.2 s) d : Nat) : Int))) (148 + 2 * q) 1 (iZ ((c.2.2.length + 1 : Nat) : Int)) := ⟨_, rfl⟩
        rw [← hI3]
        have g3 : ∀ a k, a ≠ 148 + 2 * q → a ≠ 148 + 2 * q + 1 → I3 a k = I2 a k := fun a k x y => by rw [hI3, gup_r x, gup_r y]
        have hc3 : cdL I3 (148 + 2 * q) ((s, d, mk0 (c.2.1.1 s) (c.2.1.2 s) d) :: c.2.2) := by
          refine cdL_cons (I := I1) hc1 hlen (by rw [hI3, gup_s]) (fun j hj => ?_) ?_
          · rw [hI3, gup_r (by omega), gup_k (by omega), ea _ _ (by omega) (by omega)]
          · rw [hI3, gup_r (by omega), gup_s]; rfl
        have hL3 : cLg I3 J1 B (uS c.2.1.1 s (mA (mk1 (c.2.1.1 s) (c.2.1.2 s) d k) (c.2.1.1 s) d)) (uS c.2.1.2 s (mL (mk1 (c.2.1.1 s) (c.2.1.2 s) d k) (c.2.1.2 s) d)) := cLg_fr q5 k1 k2 (g3 60 7 (by omega) (by omega)) (fun r j x y => g3 r j (by omega) (by omega)) (fun _ _ _ => rfl)
        rw [ec] at hbk2 ⊢
        obtain ⟨I', J', z1, z2, z3, z4, z5, z6, z7, z8, z9⟩ := ih (i + 1) f I3 J1 (lcg (lcg c.1), (uS c.2.1.1 s (mA (mk1 (c.2.1.1 s) (c.2.1.2 s) d k) (c.2.1.1 s) d), uS c.2.1.2 s (mL (mk1 (c.2.1.1 s) (c.2.1.2 s) d k) (c.2.1.2 s) d)), (s, d, mk0 (c.2.1.1 s) (c.2.1.2 s) d) :: c.2.2) (by omega) (by omega) (by rw [g3 50 9 (by omega) (by omega), q4 50 9 (Or.inl (by decide)) (by decide)]; exact h91) (lcg_lt _) (cBk_fr hB1 k1 (fun r j x y => by rw [g3 r j (by omega) (by omega), q4 r j (Or.inl (by omega)) (by omega)])) hL3 (turn_gd hg hsn) hc3 (by show c.2.2.length + 1 ≤ i + 1; omega) hbk2
        exact ⟨I', J', z1, fun a k x1 x2 x3 x4 x5 => by rw [z2 a k x1 x2 x3 x4 x5, g3 a k x4 x5, q4 a k (by omega) (by omega), fr1 a k x1 x2 x3 x4 x5], fun a x => by rw [z3 a x, e2.2 a (by omega)], z4, z5, z6, z7, z8, z9⟩
    cases hon : dy B c.2.1.1 c.2.1.2 (6 + s) d with
    | false =>
      rw [if_pos tf_f, if_pos trivial]
      exact tl 1 (Or.inl rfl) (by unfold chW; rw [hon]; rfl)
    | true =>
      rw [if_neg (show ¬ tf true = 0 by decide), if_neg (show ¬ (1 : Int32) = 0 by decide)]
      exact tl 2 (Or.inr rfl) (by unfold chW; rw [hon]; rfl)
end gCh
