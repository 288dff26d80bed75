/-! THE STACK of day sets -/
def fup (f : Nat → Nat → Bool) (i : Nat) (g : Nat → Bool) : Nat → Nat → Bool := fun j => if j = i then g else f j
theorem fup_s {f : Nat → Nat → Bool} {i : Nat} {g : Nat → Bool} : fup f i g i = g := if_pos rfl
theorem fup_o {f : Nat → Nat → Bool} {i j : Nat} {g : Nat → Bool} (h : j ≠ i) : fup f i g j = f j := if_neg h
/-- one step of a code; what is known, how many lie on the stack, the stack -/
def cx (K : Nat → Nat → Bool) (o : Nat × Nat) (s : Nat × (Nat → Nat → Bool)) : Nat × (Nat → Nat → Bool) :=
  if o.1 = 0 then (s.1 + 1, fup s.2 s.1 (K o.2))
  else if o.1 = 1 then (s.1 + 1, fup s.2 s.1 (fun _ => false))
  else if o.1 = 2 then (s.1, fup s.2 (s.1 - 1) (fun d => s.2 (s.1 - 1) d || decide (d = o.2)))
  else if o.1 = 3 then (s.1 - 1, fup s.2 (s.1 - 2) (fun d => s.2 (s.1 - 2) d || s.2 (s.1 - 1) d))
  else if o.1 = 4 then (s.1 - 1, fup s.2 (s.1 - 2) (fun d => s.2 (s.1 - 2) d && s.2 (s.1 - 1) d))
  else if o.1 = 5 then (s.1 - 1, fup s.2 (s.1 - 2) (fun d => s.2 (s.1 - 2) d && !s.2 (s.1 - 1) d))
  else if o.1 = 6 then (s.1, fup s.2 (s.1 - 1) (fun d => decide (o.2 ≤ d) && s.2 (s.1 - 1) (d - o.2)))
  else if o.1 = 7 then (s.1, fup s.2 (s.1 - 1) (fun d => decide (d + o.2 < 14610) && s.2 (s.1 - 1) (d + o.2)))
  else (s.1, fup s.2 (s.1 - 1) (off (s.2 (s.1 - 1)) (K o.2)))
def cxok (o : Nat × Nat) (n : Nat) : Prop := o.1 ≤ 8 ∧ (o.1 ≤ 1 → n < 15) ∧ (2 ≤ o.1 → 1 ≤ n) ∧ (3 ≤ o.1 → o.1 ≤ 5 → 2 ≤ n) ∧ (o.1 = 2 → o.2 < 14610) ∧ (6 ≤ o.1 → o.1 ≤ 7 → o.2 ≤ 99) ∧ (o.1 = 0 ∨ o.1 = 8 → o.2 < 12) ∧ n ≤ 15
def dsP (J : Nat → Nat → Int64) (r : Nat) (P : Nat → Bool) : Prop := ∀ d, d < 14656 → dsf J r d = (decide (d < 14610) && P d)
theorem dsP_OK {J : Nat → Nat → Int64} {r : Nat} {P : Nat → Bool} (h : dsP J r P) : dsOK J r := fun d a b => by rw [h d b, decide_eq_false (by omega)]; rfl
theorem dsP_o {J J' : Nat → Nat → Int64} {r : Nat} {P : Nat → Bool} (h : dsP J r P) (e : J' (r + 1) = J (r + 1)) : dsP J' r P := fun d hd => by
  show bg (J' (r + 1)) d = _
  rw [e]; exact h d hd
theorem dsP_s {J : Nat → Nat → Int64} {r : Nat} {f : Nat → Int64} {P : Nat → Bool} (h : ∀ d, d < 14656 → bg f d = (decide (d < 14610) && P d)) : dsP (jset J (r + 1) f) r P := fun d hd => by
  show bg (jset J (r + 1) f (r + 1)) d = _
  rw [bg_jset hd]; exact h d hd
theorem dsP_c {J : Nat → Nat → Int64} {r : Nat} {P Q : Nat → Bool} (h : dsP J r P) (e : ∀ d, d < 14610 → P d = Q d) : dsP J r Q := fun d hd => by
  rw [h d hd]
  by_cases c : d < 14610
  · rw [e d c]
  · rw [decide_eq_false c]; rfl
theorem dsP_in {J : Nat → Nat → Int64} {r d : Nat} {P : Nat → Bool} (h : dsP J r P) (hd : d < 14610) : dsf J r d = P d := by
  rw [h d (by omega), decide_eq_true hd]; rfl
theorem wt_congr {P Q P' Q' : Nat → Bool} : ∀ {d : Nat}, (∀ e, e < d → P e = P' e ∧ Q e = Q' e) → wt P Q d = wt P' Q' d := by
  intro d
  induction d with
  | zero => intro _; rfl
  | succ d ih =>
    intro h
    show (Q d && (wt P Q d || P d)) = (Q' d && (wt P' Q' d || P' d))
    rw [ih (fun e he => h e (by omega)), (h d (by omega)).1, (h d (by omega)).2]
theorem off_congr {P Q P' Q' : Nat → Bool} {d : Nat} (h : ∀ e, e ≤ d → P e = P' e ∧ Q e = Q' e) : off P Q d = off P' Q' d := by
  unfold off
  rw [wt_congr (fun e he => h e (by omega)), (h d (Nat.le_refl d)).1, (h d (Nat.le_refl d)).2]
theorem isDS_k {w : Nat} (h : w < 12) : isDS (65 + 2 * w) := by
  unfold isDS isDSb
  simp; omega
theorem isDS_t {i : Nat} (h : i < 15) : isDS (89 + 2 * i) := by
  unfold isDS isDSb
  simp; omega
def frS (J J' : Nat → Nat → Int64) : Prop := ∀ a, (∀ i, i < 15 → a ≠ 90 + 2 * i) → J' a = J a
theorem frS_r (J : Nat → Nat → Int64) : frS J J := fun _ _ => rfl
theorem frS_t {J J' J'' : Nat → Nat → Int64} (h1 : frS J J') (h2 : frS J' J'') : frS J J'' := fun a h => (h2 a h).trans (h1 a h)
theorem frS_s {J : Nat → Nat → Int64} {i : Nat} {f : Nat → Int64} (hi : i < 15) : frS J (jset J (89 + 2 * i + 1) f) := fun a h => jset_o (by have := h i hi; omega)
set_option maxRecDepth 20000 in
theorem r61T : ∀ n, n < 12 → (layR.getD 11 []).getD n 0 = 65 + 2 * n := by decide +kernel
set_option maxRecDepth 20000 in
theorem r62T : ∀ n, n < 15 → (layR.getD 12 []).getD n 0 = 89 + 2 * n := by decide +kernel
set_option maxRecDepth 20000 in
theorem r63T : ∀ n, n < 6 → (layR.getD 13 []).getD n 0 = 119 + 4 * n := by decide +kernel
set_option maxRecDepth 20000 in
theorem r64T : ∀ n, n < 6 → (layR.getD 14 []).getD n 0 = 121 + 4 * n := by decide +kernel
section gSt
variable {X : Nat × (Nat → Int32)} {v : Vt}
theorem g61 (I : Nat → Nat → Int32) (J : Nat → Nat → Int64) {n : Nat} (h : n < 12) : gaR (mkS X I J v) 61 5 (iZ (n : Int)) = some (65 + 2 * n) := by
  rw [a61 _ _ _ _ _ h, Rv_o (by decide) (by decide) (by decide) (by decide), cR 61 n (by decide) (by decide) (by show n < 12; exact h)]
  exact congrArg some (r61T n h)
theorem g62 (I : Nat → Nat → Int32) (J : Nat → Nat → Int64) {n : Nat} (h : n < 15) : gaR (mkS X I J v) 62 5 (iZ (n : Int)) = some (89 + 2 * n) := by
  rw [a62 _ _ _ _ _ h, Rv_o (by decide) (by decide) (by decide) (by decide), cR 62 n (by decide) (by decide) (by show n < 15; exact h)]
  exact congrArg some (r62T n h)
theorem g63 (I : Nat → Nat → Int32) (J : Nat → Nat → Int64) {n : Nat} (h : n < 6) : gaR (mkS X I J v) 63 6 (iZ (n : Int)) = some (119 + 4 * n) := by
  rw [a63 _ _ _ _ _ h, Rv_o (by decide) (by decide) (by decide) (by decide), cR 63 n (by decide) (by decide) (by show n < 6; exact h)]
  exact congrArg some (r63T n h)
theorem g64 (I : Nat → Nat → Int32) (J : Nat → Nat → Int64) {n : Nat} (h : n < 6) : gaR (mkS X I J v) 64 6 (iZ (n : Int)) = some (121 + 4 * n) := by
  rw [a64 _ _ _ _ _ h, Rv_o (by decide) (by decide) (by decide) (by decide), cR 64 n (by decide) (by decide) (by show n < 6; exact h)]
  exact congrArg some (r64T n h)
variable {I : Nat → Nat → Int32} {J : Nat → Nat → Int64}
/-- what the ledger's stack holds -/
def stk (I : Nat → Nat → Int32) (J : Nat → Nat → Int64) (s : Nat × (Nat → Nat → Bool)) : Prop := I 60 6 = iZ (s.1 : Int) ∧ ∀ i, i < s.1 → dsP J (89 + 2 * i) (s.2 i)
theorem stk_up {J' : Nat → Nat → Int64} {s : Nat × (Nat → Nat → Bool)} {i : Nat} {P : Nat → Bool} {n : Nat} (h : stk I J s) (hi : dsP J' (89 + 2 * i) P) (hn : n ≤ s.1 ∨ (n = s.1 + 1 ∧ i = s.1)) (fr : ∀ j, j ≠ i → J' (89 + 2 * j + 1) = J (89 + 2 * j + 1)) : stk (gup I 60 6 (iZ (n : Int))) J' (n, fup s.2 i P) := by
  constructor
  · exact gup_s
  · intro j hj
    dsimp only at hj ⊢
    by_cases c : j = i
    · rw [c, fup_s]; exact hi
    · rw [fup_o c]
      exact dsP_o (h.2 j (by omega)) (fr j c)
theorem c_lay {s : Nat × (Nat → Nat → Bool)} {r : Nat} {P : Nat → Bool} (h : stk I J s) (hn : s.1 < 15) (hr : (r = 0 ∧ P = fun _ => false) ∨ (isDS r ∧ dsP J r P)) : ∃ f, fX5_lay 60 r (mkS X I J v) = some ((), mkS X (gup I 60 6 (iZ ((s.1 + 1 : Nat) : Int))) (jset J (89 + 2 * s.1 + 1) f) v) ∧ dsP (jset J (89 + 2 * s.1 + 1) f) (89 + 2 * s.1) P := by
  unfold fX5_lay
  simp only [bO, o60, o60R, n62, h.1]
  rw [if_pos (by rw [iZ_lt (by omega) (by omega) (by decide) (by decide)]; omega)]
  simp only [g62 I J hn, bO, ds_c (isDS_t hn)]
  have e : iZ (s.1 : Int) + 1 = iZ ((s.1 + 1 : Nat) : Int) := by rw [aL]; rfl
  rcases hr with ⟨rfl, rfl⟩ | ⟨h1, h2⟩
  · rw [if_pos rfl, ds_clear (isDS_t hn)]
    simp only [bO, o60, h.1, e]
    refine ⟨_, rfl, dsP_s (fun d _ => ?_)⟩
    unfold bg
    rw [wb_0]; simp
  · have hr0 := isDS_r h1
    rw [if_neg (by omega), ds_copy (isDS_t hn) h1]
    simp only [bO, o60, h.1, e]
    exact ⟨_, rfl, dsP_s (fun d hd => h2 d hd)⟩
theorem c_perform {K : Nat → Nat → Bool} {o : Nat × Nat} {s : Nat × (Nat → Nat → Bool)} (h : stk I J s) (hok : cxok o s.1) (hK : o.1 = 0 ∨ o.1 = 8 → dsP J (65 + 2 * o.2) (K o.2)) : ∃ I' J', fX5_perform 60 (iZ (o.1 : Int)) (iZ (o.2 : Int)) (mkS X I J v) = some ((), mkS X I' J' v) ∧ I' = gup I 60 6 (iZ ((cx K o s).1 : Nat)) ∧ frS J J' ∧ stk I' J' (cx K o s) := by
  obtain ⟨op, ar⟩ := o
  obtain ⟨n, st⟩ := s
  obtain ⟨k1, k2, k3, k4, k5, k6, k7, k8⟩ := hok
  dsimp only at k1 k2 k3 k4 k5 k6 k7 k8 hK ⊢
  have hI := h.1
  dsimp only at hI
  unfold fX5_perform
  simp only [bO, o60, o60R, n61, hI]
  have hclamp : gmax 0 (gmin (iZ (ar : Int)) (iZ 12 - 1)) = iZ ((min ar 11 : Nat) : Int) ∨ 2147483648 ≤ ar := by
    by_cases q : ar < 2147483648
    · left
      rw [show (iZ 12 - 1 : Int32) = iZ 11 from rfl, gmin_Z (by omega) (by omega) (by decide) (by decide), show (0 : Int32) = iZ 0 from rfl, gmax_Z (by decide) (by decide) (by omega) (by omega)]
      congr 1; omega
    · right; omega
  have har : ar < 2147483648 ∨ op = 1 ∨ (3 ≤ op ∧ op ≤ 5) := by omega
  have hx : ∃ w : Nat, w < 12 ∧ gmax 0 (gmin (iZ (ar : Int)) (iZ 12 - 1)) = iZ (w : Int) ∧ (ar < 12 → w = ar) := by
    rcases hclamp with q | q
    · exact ⟨min ar 11, by omega, q, fun _ => by omega⟩
    · obtain ⟨z, z1, z2, hz⟩ := iZ_of (iZ (ar : Int))
      refine ⟨(max 0 (min z 11)).toNat, by omega, ?_, fun _ => by omega⟩
      rw [hz, show (iZ 12 - 1 : Int32) = iZ 11 from rfl, gmin_Z (by omega) (by omega) (by decide) (by decide), show (0 : Int32) = iZ 0 from rfl, gmax_Z (by decide) (by decide) (by omega) (by omega)]
      congr 1; omega
  obtain ⟨w, w1, w2, w3⟩ := hx
  rw [w2, g61 I J w1]
  simp only [bO, gcv_mk (show gK cst 60 = 5 + 1 from k_60)]
  have hne : ∀ m : Nat, m < 16 → op ≠ m → ¬ iZ (op : Int) = iZ (m : Int) := fun m hm hq => by rw [iZ_eq (by omega) (by omega) (by omega) (by omega)]; omega
  by_cases c0 : op = 0
  · subst c0
    rw [if_pos (by decide), if_pos (by decide), w3 (k7 (Or.inl rfl))]
    obtain ⟨f, e1, e2⟩ := c_lay (X := X) (v := v) (P := K ar) h (k2 (by decide)) (Or.inr ⟨isDS_k (k7 (Or.inl rfl)), hK (Or.inl rfl)⟩)
    rw [e1]
    refine ⟨_, _, rfl, rfl, frS_s (k2 (by decide)), ?_⟩
    exact stk_up h e2 (Or.inr ⟨rfl, rfl⟩) (fun j hj => by dsimp only; rw [jset_o (by omega)])
  · rw [if_neg (show ¬ iZ (op : Int) = 0 from hne 0 (by decide) c0)]
    by_cases c1 : op = 1
    · subst c1
      rw [if_pos (by decide), if_neg (by decide)]
      obtain ⟨f, e1, e2⟩ := c_lay (X := X) (v := v) (r := 0) (P := fun _ => false) h (k2 (by decide)) (Or.inl ⟨rfl, rfl⟩)
      rw [e1]
      refine ⟨_, _, rfl, rfl, frS_s (k2 (by decide)), ?_⟩
      exact stk_up h e2 (Or.inr ⟨rfl, rfl⟩) (fun j hj => by dsimp only; rw [jset_o (by omega)])
    · rw [if_neg (show ¬ iZ (op : Int) = 1 from hne 1 (by decide) c1)]
      have hn1 : 1 ≤ n := k3 (by omega)
      have hm : gmax 0 (iZ (n : Int) - 1) = iZ ((n - 1 : Nat) : Int) := by
        rw [sL, show (0 : Int32) = iZ 0 from rfl, gmax_Z (by decide) (by decide) (by omega) (by omega)]
        congr 1; omega
      have hup := isDS_t (show n - 1 < 15 by omega)
      rw [hm, g62 I J (show n - 1 < 15 by omega)]
      simp only [bO, ds_c hup]
      have hP := h.2 (n - 1) (by dsimp only; omega)
      dsimp only at hP
      have keep : ∀ {J' : Nat → Nat → Int64} {P : Nat → Bool}, dsP J' (89 + 2 * (n - 1)) P → (∀ j, j ≠ n - 1 → J' (89 + 2 * j + 1) = J (89 + 2 * j + 1)) → I = gup I 60 6 (iZ (n : Int)) ∧ stk I J' (n, fup st (n - 1) P) := by
        intro J' P q1 q2
        have e : gup I 60 6 (iZ (n : Int)) = I := gup_id hI
        refine ⟨e.symm, ?_⟩
        have := stk_up (n := n) h q1 (Or.inl (Nat.le_refl n)) q2
        rw [e] at this
        exact this
      by_cases c2 : op = 2
      · subst c2
        rw [if_pos (by decide)]
        have ha := k5 rfl
        obtain ⟨f, e1, e2⟩ := ds_put (X := X) (I := I) (J := J) (v := v) (z := (ar : Int)) hup (by omega) (by omega)
        rw [e1]
        obtain ⟨f1, f2⟩ := keep (J' := jset J (89 + 2 * (n - 1) + 1) f) (P := fun d => st (n - 1) d || decide (d = ar)) (dsP_s (fun d hd => by
          rw [e2 d hd, hP d hd, decide_eq_true (show (ar : Int) < 14610 by omega), Bool.true_and]
          by_cases q : d = ar
          · rw [decide_eq_true (show (d : Int) = ar by omega), decide_eq_true q, decide_eq_true (show d < 14610 by omega)]; simp
          · rw [decide_eq_false (show ¬ (d : Int) = ar by omega), decide_eq_false q]; simp)) (fun j hj => by rw [jset_o (by omega)])
        exact ⟨I, _, rfl, f1, frS_s (by omega), f2⟩
      · rw [if_neg (show ¬ iZ (op : Int) = 2 from hne 2 (by decide) c2)]
        have joinL : ∀ (P : Nat → Bool), (∃ f, dsP (jset J (89 + 2 * (n - 2) + 1) f) (89 + 2 * (n - 2)) P ∧ fX5_join 60 (iZ (op : Int)) (89 + 2 * (n - 1)) (mkS X I J v) = some ((), mkS X (gup I 60 6 (iZ ((n - 1 : Nat) : Int))) (jset J (89 + 2 * (n - 2) + 1) f) v)) → 2 ≤ n → ∃ I' J', (gb2 (fX5_join 60 (iZ (op : Int)) (89 + 2 * (n - 1)) (mkS X I J v)) fun (_ : Unit) s24 => some ((), s24)) = some ((), mkS X I' J' v) ∧ I' = gup I 60 6 (iZ ((n - 1 : Nat) : Int)) ∧ frS J J' ∧ stk I' J' (n - 1, fup st (n - 2) P) := by
          rintro P ⟨f, q1, q2⟩ h2
          rw [q2]
          exact ⟨_, _, rfl, rfl, frS_s (by omega), stk_up h q1 (Or.inl (by dsimp only; omega)) (fun j hj => by rw [jset_o (by omega)])⟩
        have hjoin : (3 ≤ op ∧ op ≤ 5) → 2 ≤ n → fX5_join 60 (iZ (op : Int)) (89 + 2 * (n - 1)) (mkS X I J v) = (if op = 3 then gb2 (fX2_unite (89 + 2 * (n - 2)) (89 + 2 * (n - 1)) (mkS X (gup I 60 6 (iZ ((n - 1 : Nat) : Int))) J v)) fun _ s10 => some ((), s10) else if op = 4 then gb2 (fX2_limit (89 + 2 * (n - 2)) (89 + 2 * (n - 1)) (mkS X (gup I 60 6 (iZ ((n - 1 : Nat) : Int))) J v)) fun _ s10 => some ((), s10) else gb2 (fX2_without (89 + 2 * (n - 2)) (89 + 2 * (n - 1)) (mkS X (gup I 60 6 (iZ ((n - 1 : Nat) : Int))) J v)) fun _ s10 => some ((), s10)) := by
          intro ho h2
          unfold fX5_join
          simp only [bO, o60, o60R, hI]
          rw [if_neg (by rw [cL_lt (by omega) (by omega) (by decide)]; omega)]
          rw [show iZ (n : Int) - 1 = iZ ((n - 1 : Nat) : Int) from by rw [sL]; congr 1; omega]
          rw [gup_s, show iZ ((n - 1 : Nat) : Int) - 1 = iZ ((n - 2 : Nat) : Int) from by rw [sL]; congr 1; omega]
          rw [g62 _ J (show n - 2 < 15 by omega)]
          simp only [bO, ds_c (isDS_t (show n - 2 < 15 by omega))]
          simp (disch := omega) only [cL_eq]
          by_cases q3 : op = 3
          · rw [if_pos (by omega), if_pos q3]
          · rw [if_neg (by omega), if_neg q3]
            by_cases q4 : op = 4
            · rw [if_pos (by omega), if_pos q4]
            · rw [if_neg (by omega), if_neg q4]
        have hlo := fun (h2 : 2 ≤ n) => h.2 (n - 2) (by dsimp only; omega)
        dsimp only at hlo
        by_cases c3 : op = 3
        · subst c3
          rw [if_pos (by decide)]
          have h2 := k4 (by decide) (by decide)
          obtain ⟨f, e1, e2⟩ := ds_unite (X := X) (I := gup I 60 6 (iZ ((n - 1 : Nat) : Int))) (J := J) (v := v) (isDS_t (show n - 2 < 15 by omega)) hup (by omega)
          refine joinL _ ⟨f, dsP_s (P := fun d => st (n - 2) d || st (n - 1) d) (fun d hd => ?_), ?_⟩ h2
          · rw [e2 d hd, hlo h2 d hd, hP d hd]
            cases decide (d < 14610) <;> rfl
          · rw [hjoin (by decide) h2, if_pos rfl, e1]; rfl
        · rw [if_neg (show ¬ iZ (op : Int) = 3 from hne 3 (by decide) c3)]
          by_cases c4 : op = 4
          · subst c4
            rw [if_pos (by decide)]
            have h2 := k4 (by decide) (by decide)
            obtain ⟨f, e1, e2⟩ := ds_limit (X := X) (I := gup I 60 6 (iZ ((n - 1 : Nat) : Int))) (J := J) (v := v) (isDS_t (show n - 2 < 15 by omega)) hup (by omega)
            refine joinL _ ⟨f, dsP_s (P := fun d => st (n - 2) d && st (n - 1) d) (fun d hd => ?_), ?_⟩ h2
            · rw [e2 d hd, hlo h2 d hd, hP d hd]
              cases decide (d < 14610) <;> simp
            · rw [hjoin (by decide) h2, if_neg (by decide), if_pos rfl, e1]; rfl
          · rw [if_neg (show ¬ iZ (op : Int) = 4 from hne 4 (by decide) c4)]
            by_cases c5 : op = 5
            · subst c5
              rw [if_pos (by decide)]
              have h2 := k4 (by decide) (by decide)
              obtain ⟨f, e1, e2⟩ := ds_without (X := X) (I := gup I 60 6 (iZ ((n - 1 : Nat) : Int))) (J := J) (v := v) (isDS_t (show n - 2 < 15 by omega)) hup (by omega)
              refine joinL _ ⟨f, dsP_s (P := fun d => st (n - 2) d && !st (n - 1) d) (fun d hd => ?_), ?_⟩ h2
              · rw [e2 d hd, hlo h2 d hd, hP d hd]
                cases decide (d < 14610) <;> simp
              · rw [hjoin (by decide) h2, if_neg (by decide), if_neg (by decide), e1]; rfl
            · rw [if_neg (show ¬ iZ (op : Int) = 5 from hne 5 (by decide) c5)]
              by_cases c6 : op = 6
              · subst c6
                rw [if_pos (by decide)]
                have ha := k6 (by decide) (by decide)
                obtain ⟨f, e1, e2⟩ := ds_later (X := X) (I := I) (J := J) (v := v) (n := ar) hup (by omega)
                rw [e1]
                obtain ⟨f1, f2⟩ := keep (J' := jset J (89 + 2 * (n - 1) + 1) f) (P := fun d => decide (ar ≤ d) && st (n - 1) (d - ar)) (dsP_s (fun d hd => by
                  rw [e2 d hd, hP _ (by omega)]
                  by_cases q : d < 14610
                  · rw [decide_eq_true (show d - ar < 14610 by omega), Bool.true_and]
                  · rw [decide_eq_false q]; rfl)) (fun j hj => by rw [jset_o (by omega)])
                exact ⟨I, _, rfl, f1, frS_s (by omega), f2⟩
              · rw [if_neg (show ¬ iZ (op : Int) = 6 from hne 6 (by decide) c6)]
                by_cases c7 : op = 7
                · subst c7
                  rw [if_pos (by decide)]
                  have ha := k6 (by decide) (by decide)
                  obtain ⟨f, e1, e2⟩ := ds_sooner (X := X) (I := I) (J := J) (v := v) (n := ar) hup (by omega)
                  rw [e1]
                  obtain ⟨f1, f2⟩ := keep (J' := jset J (89 + 2 * (n - 1) + 1) f) (P := fun d => decide (d + ar < 14610) && st (n - 1) (d + ar)) (dsP_s (fun d hd => by
                    rw [e2 d hd]
                    by_cases q : d + ar < 14610
                    · rw [hP _ (by omega), decide_eq_true (show d + ar < 14656 by omega), decide_eq_true q, decide_eq_true (show d < 14610 by omega)]
                    · rw [decide_eq_false q, Bool.false_and, Bool.and_false]
                      by_cases q2 : d + ar < 14656
                      · rw [hP _ q2, decide_eq_false q]; simp
                      · rw [decide_eq_false q2]; rfl)) (fun j hj => by rw [jset_o (by omega)])
                  exact ⟨I, _, rfl, f1, frS_s (by omega), f2⟩
                · have c8 : op = 8 := by omega
                  subst c8
                  rw [if_neg (by decide), if_pos (by decide), w3 (k7 (Or.inr rfl))]
                  obtain ⟨f, e1, e2, e3⟩ := ds_moveOff (X := X) (I := I) (J := J) (v := v) hup (isDS_k (k7 (Or.inr rfl))) (by have := k7 (Or.inr rfl); omega) (dsP_OK hP)
                  rw [e1]
                  obtain ⟨f1, f2⟩ := keep (J' := jset J (89 + 2 * (n - 1) + 1) f) (P := off (st (n - 1)) (K ar)) (dsP_s (fun d hd => by
                    by_cases q : d < 14610
                    · rw [e2 d q, decide_eq_true q, Bool.true_and]
                      exact off_congr (fun e he => ⟨dsP_in hP (by omega), dsP_in (hK (Or.inr rfl)) (by omega)⟩)
                    · rw [e3 d (by omega) hd, decide_eq_false q]; rfl)) (fun j hj => by rw [jset_o (by omega)])
                  exact ⟨I, _, rfl, f1, frS_s (by omega), f2⟩
end gSt
