/-! SUMS: few codes, and they can be done -/
def mokS (kn : Nat → Prop) : List (Nat × Nat) → Nat → Nat → Prop
  | [], n, m => n = m
  | o :: L, n, m => mxok o n ∧ (o.1 = 0 ∨ o.1 = 8 → kn o.2) ∧ mokS kn L (dep o n) m
theorem mokS_app {kn : Nat → Prop} : ∀ {L M : List (Nat × Nat)} {n m p : Nat}, mokS kn L n m → mokS kn M m p → mokS kn (L ++ M) n p := by
  intro L
  induction L with
  | nil => intro M n m p h1 h2; rw [show n = m from h1]; exact h2
  | cons o L ih => intro M n m p ⟨a, b, c⟩ h2; exact ⟨a, b, ih c h2⟩
theorem mokS_R {kn : Nat → Prop} : ∀ {L : List (Nat × Nat)} {n : Nat}, mokS kn L n 1 → mokR kn L n := by
  intro L
  induction L with
  | nil => intro n h; exact h
  | cons o L ih => intro n ⟨a, b, c⟩; exact ⟨a, b, ih c⟩
theorem pFind_kn {nR nS : Nat} {nm : Nat → List Nat} {l : List Nat} (h : pFind nR nS nm l ≠ -1) : kn nR nS (pFind nR nS nm l).toNat ∧ (pFind nR nS nm l).toNat < 12 := by
  unfold pFind at h ⊢
  rcases nx_cases (fun w => knb nR nS w && nm w == l) 12 0 with ⟨h1, _⟩ | ⟨k, h1, h2, h3, h4, _⟩
  · exact absurd h1 h
  · rw [h1, Int.toNat_natCast]
    rw [Bool.and_eq_true] at h4
    exact ⟨knb_iff.mp h4.1, by omega⟩
def pDl (T : Nat → Nat) (n : Nat) (r : PS) : Nat := if pKd T n r = 1 then 1 else 0
/-- a reader of a sum: what it tells can be done from a height on, and takes room enough -/
def spOK (T : Nat → Nat) (n nR nS b : Nat) (P : PS → List (Nat × Nat) × PS) : Prop := ∀ r, pIn n r → pIn n (P r).2 ∧ (pOk (P r).2 = true → pOk r = true ∧ 2 * (trL (P r).1).length + pAt r ≤ pAt (P r).2 + pDl T n r ∧ pAt r + 1 ≤ pAt (P r).2 ∧ ∀ h, h ≤ b → mokS (kn nR nS) (P r).1 h (h + 1))
section gSp
variable {T : Nat → Nat} {n nR nS : Nat} {nm : Nat → List Nat}
theorem days_mok {kn : Nat → Prop} {h : Nat} : ∀ {l : List Int}, (∀ y, y ∈ l → 0 ≤ y ∧ y < 14610) → 1 ≤ h → h ≤ 15 → mokS kn (l.map (fun d => (2, d.toNat))) h h := by
  intro l
  induction l with
  | nil => intro _ _ _; rfl
  | cons d l ih =>
    intro hl h1 h2
    have hd := hl d List.mem_cons_self
    refine ⟨⟨fun q => absurd q (show ¬ 2 = 1 by decide), fun _ => ⟨by dsimp only; omega, fun q => absurd q (show ¬ 2 ≤ 1 by decide), fun _ => h1, fun q => absurd q (show ¬ 3 ≤ 2 by decide), fun _ => by dsimp only; omega, fun q => absurd q (show ¬ 6 ≤ 2 by decide), fun q => absurd q (show ¬ (2 = 0 ∨ 2 = 8) by decide), h2⟩⟩, fun q => absurd q (show ¬ (2 = 0 ∨ 2 = 8) by decide), ?_⟩
    exact ih (fun y hy => hl y (List.mem_cons_of_mem _ hy)) h1 h2
theorem pRow_b {m : PS → PS} {mv : PS → Int} {Q : Int → Prop} (hm : ∀ r, pOk (m r) = true → Q (mv r)) : ∀ {f : Nat} {l : List Int} {r : PS}, (∀ y, y ∈ l → Q y) → pOk (pRow T n m mv f l r).2 = true → ∀ y, y ∈ (pRow T n m mv f l r).1 → Q y := by
  intro f
  induction f with
  | zero => intro l r h _; exact h
  | succ f ih =>
    intro l r h hok
    have e : pRow T n m mv (f + 1) l r = if pMore T n (l.length + 1) (pDup m mv l r) = true then pRow T n m mv f (l ++ [mv r]) (pNext T n (l.length + 1) (pDup m mv l r)) else (l ++ [mv r], pNext T n (l.length + 1) (pDup m mv l r)) := rfl
    rw [e] at hok ⊢
    have key : pOk (pNext T n (l.length + 1) (pDup m mv l r)) = true → ∀ y, y ∈ l ++ [mv r] → Q y := by
      intro q y hy
      rcases List.mem_append.mp hy with z | z
      · exact h y z
      · rw [List.mem_singleton.mp z]
        exact hm r (pDup_ok (pNext_ok q)).1
    by_cases cm : pMore T n (l.length + 1) (pDup m mv l r) = true
    · rw [if_pos cm] at hok ⊢
      refine ih ?_ hok
      apply key
      unfold pMore at cm
      rw [Bool.and_eq_true, decide_eq_true_eq] at cm
      unfold pNext
      rw [if_pos cm.1, if_pos cm.2, pAdv_ok]
      exact pSign_ok cm.1
    · rw [if_neg cm] at hok ⊢
      exact key hok
theorem pDayRow_sp {r : PS} (hi : pIn n r) : pIn n (pDayRow T n r).2 ∧ (pOk (pDayRow T n r).2 = true → pOk r = true ∧ 2 * (trL (daysC (pDayRow T n r).1)).length + pAt r ≤ pAt (pDayRow T n r).2 ∧ pAt r + 1 ≤ pAt (pDayRow T n r).2 ∧ ∀ h, h ≤ 14 → mokS (kn nR nS) (daysC (pDayRow T n r).1) h (h + 1)) := by
  refine ⟨pRow_in (fun _ => pDate_n) hi, fun hok => ?_⟩
  obtain ⟨a, b, -⟩ := pRow_lt (T := T) (n := n) (m := pDate T n) (mv := fun r => ((pDateV T n r : Nat) : Int)) (c := 5) (fun _ => pDate_n) (fun r _ q => pDate_lt q) hi hok
  have hne : (pDayRow T n r).1 ≠ [] := pRow_ne (Or.inl (by decide))
  have hb := pRow_b (T := T) (n := n) (m := pDate T n) (mv := fun r => ((pDateV T n r : Nat) : Int)) (Q := fun y => 0 ≤ y ∧ y < 14610) (fun r q => by have := pDate_r q; omega) (f := 8) (l := []) (r := r) (fun y hy => by cases hy) hok
  have hlen : 1 ≤ (pDayRow T n r).1.length := by
    cases z : (pDayRow T n r).1 with
    | nil => exact absurd z hne
    | cons x l => rw [List.length_cons]; omega
  have b' : pAt r + 5 * ((pDayRow T n r).1.length - 0) ≤ pAt (pDayRow T n r).2 := b
  have hb' : ∀ y, y ∈ (pDayRow T n r).1 → 0 ≤ y ∧ y < 14610 := hb
  refine ⟨a, ?_, by omega, fun h hh => ?_⟩
  · rw [trL_days hne, List.length_cons, List.length_map]; omega
  · cases z : (pDayRow T n r).1 with
    | nil => exact absurd z hne
    | cons x l =>
      rw [z] at hb'
      have hx := hb' x List.mem_cons_self
      refine ⟨⟨fun _ => ⟨by omega, by dsimp only; omega, by omega⟩, fun q => absurd rfl q⟩, fun q => absurd q (show ¬ (1 = 0 ∨ 1 = 8) by decide), ?_⟩
      have ed : dep (1, x.toNat) h = h + 1 := by unfold dep; rw [if_pos (show (1, x.toNat).1 ≤ 1 from Nat.le_refl 1)]
      rw [ed]
      exact days_mok (fun y hy => hb' y (List.mem_cons_of_mem _ hy)) (by omega) (by omega)
theorem sp_fst {S : PS → List (Nat × Nat) × PS} {d : Nat} (hd : d ≤ 6) (hS : 1 ≤ d → spOK T n nR nS (14 - 2 * d) S) : spOK T n nR nS (14 - 2 * d) (pFs1 T n nR nS nm S d) := by
  intro r hi
  unfold pFs1
  by_cases c : pSign T n 40 r = true
  · rw [if_pos c]
    by_cases c0 : d = 0
    · rw [if_pos c0]
      exact ⟨pNot_in, fun q => by rw [show pOk (pNot 5 r) = false from pNot_ok] at q; cases q⟩
    · rw [if_neg c0]
      obtain ⟨a1, a2⟩ := hS (by omega) (pAdv T n r) (pAdv_in hi)
      refine ⟨pPass_in a1, fun q => ?_⟩
      obtain ⟨p1, p2⟩ := pSignP_lt q
      obtain ⟨e1, e2, e3, e4⟩ := a2 p1
      have k3 := pSign_k3 (T := T) (n := n) (c := 40) rfl rfl c
      have hl := pAdv_lt (T := T) (n := n) (pSign_ok c) (pSign_kd c)
      refine ⟨pSign_ok c, ?_, ?_, e4⟩
      · have hd1 : pDl T n (pAdv T n r) ≤ 1 := by unfold pDl; split <;> omega
        have hd0 : pDl T n r = 0 := by unfold pDl; rw [if_neg (by omega)]
        dsimp only at p2 ⊢
        omega
      · dsimp only at p2 ⊢
        omega
  · rw [if_neg c]
    by_cases c1 : pOw T n r = 28
    · rw [if_pos c1]
      obtain ⟨a1, a2⟩ := pDayRow_sp (T := T) (n := n) (nR := nR) (nS := nS) (r := pAdv T n r) (pAdv_in hi)
      refine ⟨a1, fun q => ?_⟩
      obtain ⟨e1, e2, e3, e4⟩ := a2 q
      rw [pAdv_ok] at e1
      have hl := (pLe_adv (T := T) hi (by rw [pAdv_ok]; exact e1)).2
      exact ⟨e1, by dsimp only; omega, by dsimp only; omega, fun h hh => e4 h (by omega)⟩
    · rw [if_neg c1]
      refine ⟨pKnown_in hi, fun q => ?_⟩
      obtain ⟨p1, p2, p3, p4⟩ := pKnown_ok q
      have hl := pName_lt p3
      have hk := (pName_kd p3).1
      obtain ⟨f1, f2⟩ := pFind_kn p4
      dsimp only
      rw [p2]
      refine ⟨p1, ?_, hl, fun h hh => ⟨⟨fun q => absurd q (show ¬ 0 = 1 by decide), fun _ => ⟨Nat.zero_le _, fun _ => by omega, fun q => absurd q (show ¬ 2 ≤ 0 by decide), fun q => absurd q (show ¬ 3 ≤ 0 by decide), fun q => absurd q (show ¬ 0 = 2 by decide), fun q => absurd q (show ¬ 6 ≤ 0 by decide), fun _ => f2, by omega⟩⟩, fun _ => f1, rfl⟩⟩
      show 2 * 1 + pAt r ≤ pAt (pName T n r) + pDl T n r
      unfold pDl
      rw [if_pos hk]
      omega
theorem sp_mov : ∀ (f : Nat) (r : PS), pIn n r → pIn n (pMov T n nR nS nm f r).2 ∧ (pOk (pMov T n nR nS nm f r).2 = true → pOk r = true ∧ 2 * (trL (pMov T n nR nS nm f r).1).length + pAt r ≤ pAt (pMov T n nR nS nm f r).2 ∧ ∀ h, 1 ≤ h → h ≤ 15 → mokS (kn nR nS) (pMov T n nR nS nm f r).1 h h) := by
  intro f
  induction f with
  | zero => intro r hi; exact ⟨hi, fun q => ⟨q, by show 2 * 0 + pAt r ≤ pAt r; omega, fun h _ _ => rfl⟩⟩
  | succ f ih =>
    intro r hi
    have e : pMov T n nR nS nm (f + 1) r = if 25 ≤ pOw T n r ∧ pOw T n r ≤ 27 then (((pOw T n r).toNat - 19, pMvV T n nR nS nm r) :: (pMov T n nR nS nm f (pMv T n nR nS nm r)).1, (pMov T n nR nS nm f (pMv T n nR nS nm r)).2) else ([], r) := rfl
    rw [e]
    by_cases c : 25 ≤ pOw T n r ∧ pOw T n r ≤ 27
    · rw [if_pos c]
      have him : pIn n (pMv T n nR nS nm r) := by
        unfold pMv
        split
        · exact pKnown_in (pAdv_in hi)
        · exact pNum_in (pAdv_in hi)
      obtain ⟨a1, a2⟩ := ih (pMv T n nR nS nm r) him
      refine ⟨a1, fun q => ?_⟩
      obtain ⟨e1, e2, e3⟩ := a2 q
      have ho := pOw_ok (T := T) (n := n) (r := r) (by omega)
      have hl := pAdv_lt (T := T) (n := n) ho (by rw [pKd_ow (by omega)]; decide)
      have hv : pAt (pAdv T n r) + 1 ≤ pAt (pMv T n nR nS nm r) ∧ ((pOw T n r = 27 → kn nR nS (pMvV T n nR nS nm r) ∧ pMvV T n nR nS nm r < 12) ∧ (pOw T n r ≠ 27 → pMvV T n nR nS nm r ≤ 99)) := by
        unfold pMv at e1 ⊢
        unfold pMvV
        by_cases c7 : pOw T n r = 27
        · rw [if_pos c7] at e1 ⊢
          rw [if_pos c7]
          obtain ⟨p1, p2, p3, p4⟩ := pKnown_ok e1
          rw [p2]
          exact ⟨pName_lt p3, fun _ => pFind_kn p4, fun z => absurd c7 z⟩
        · rw [if_neg c7] at e1 ⊢
          rw [if_neg c7]
          exact ⟨(pNum_lt e1).2, fun z => absurd z c7, fun _ => (pNum_ok e1).2.2.1⟩
      refine ⟨ho, ?_, fun h h1 h2 => ?_⟩
      · dsimp only
        rw [trL_cons]
        have et : tr ((pOw T n r).toNat - 19, pMvV T n nR nS nm r) = [((pOw T n r).toNat - 19, pMvV T n nR nS nm r)] := by unfold tr; rw [if_neg (by dsimp only; omega)]
        rw [et, List.length_append, List.length_singleton]
        omega
      · have ed : dep ((pOw T n r).toNat - 19, pMvV T n nR nS nm r) h = h := by unfold dep; rw [if_neg (by dsimp only; omega), if_neg (by dsimp only; omega)]
        refine ⟨⟨fun q => by dsimp only at q; omega, fun _ => ⟨by dsimp only; omega, fun q => by dsimp only at q; omega, fun _ => h1, fun q1 q2 => by dsimp only at q1 q2; omega, fun q => by dsimp only at q; omega, fun q1 q2 => ?_, fun q => ?_, h2⟩⟩, fun q => ?_, ?_⟩
        · dsimp only at q1 q2 ⊢
          exact hv.2.2 (by omega)
        · dsimp only at q ⊢
          exact (hv.2.1 (by omega)).2
        · dsimp only at q ⊢
          exact (hv.2.1 (by omega)).1
        · rw [ed]; exact e3 h h1 h2
    · rw [if_neg c]
      exact ⟨hi, fun q => ⟨q, by show 2 * 0 + pAt r ≤ pAt r; omega, fun h _ _ => rfl⟩⟩
theorem sp_one {S : PS → List (Nat × Nat) × PS} {d : Nat} (hd : d ≤ 6) (hS : 1 ≤ d → spOK T n nR nS (14 - 2 * d) S) : spOK T n nR nS (14 - 2 * d) (pOne T n nR nS nm S d) := by
  intro r hi
  obtain ⟨a1, a2⟩ := sp_fst (nm := nm) hd hS r hi
  obtain ⟨b1, b2⟩ := sp_mov (T := T) (n := n) (nR := nR) (nS := nS) (nm := nm) 1600 (pFs1 T n nR nS nm S d r).2 a1
  refine ⟨b1, fun q => ?_⟩
  obtain ⟨e1, e2, e3⟩ := b2 q
  obtain ⟨f1, f2, f3, f4⟩ := a2 e1
  have e2' : 2 * (trL (pMov T n nR nS nm 1600 (pFs1 T n nR nS nm S d r).2).1).length + pAt (pFs1 T n nR nS nm S d r).2 ≤ pAt (pOne T n nR nS nm S d r).2 := e2
  refine ⟨f1, ?_, by omega, fun h hh => mokS_app (f4 h hh) (e3 (h + 1) (by omega) (by omega))⟩
  have et : trL (pOne T n nR nS nm S d r).1 = trL (pFs1 T n nR nS nm S d r).1 ++ trL (pMov T n nR nS nm 1600 (pFs1 T n nR nS nm S d r).2).1 := trL_app
  rw [et, List.length_append]
  omega
theorem sp_lp {P : PS → List (Nat × Nat) × PS} {lo hi b : Nat} (h1 : 22 ≤ lo) (h2 : hi ≤ 24) (hb : b ≤ 14) (hP : spOK T n nR nS b P) : ∀ (f : Nat) (r : PS), pIn n r → pIn n (pLp T n lo hi P f r).2 ∧ (pOk (pLp T n lo hi P f r).2 = true → pOk r = true ∧ 2 * (trL (pLp T n lo hi P f r).1).length + pAt r ≤ pAt (pLp T n lo hi P f r).2 ∧ ∀ h, 1 ≤ h → h ≤ b → mokS (kn nR nS) (pLp T n lo hi P f r).1 h h) := by
  intro f
  induction f with
  | zero => intro r hi; exact ⟨hi, fun q => ⟨q, by show 2 * 0 + pAt r ≤ pAt r; omega, fun h _ _ => rfl⟩⟩
  | succ f ih =>
    intro r hi'
    have e : pLp T n lo hi P (f + 1) r = if (lo : Int) ≤ pOw T n r ∧ pOw T n r ≤ hi then ((P (pAdv T n r)).1 ++ ((pOw T n r).toNat - 19, 0) :: (pLp T n lo hi P f (P (pAdv T n r)).2).1, (pLp T n lo hi P f (P (pAdv T n r)).2).2) else ([], r) := rfl
    rw [e]
    by_cases c : (lo : Int) ≤ pOw T n r ∧ pOw T n r ≤ hi
    · rw [if_pos c]
      obtain ⟨p1, p2⟩ := hP (pAdv T n r) (pAdv_in hi')
      obtain ⟨a1, a2⟩ := ih (P (pAdv T n r)).2 p1
      refine ⟨a1, fun q => ?_⟩
      obtain ⟨e1, e2, e3⟩ := a2 q
      obtain ⟨f1, f2, f3, f4⟩ := p2 e1
      rw [pAdv_ok] at f1
      obtain ⟨w, hw⟩ : ∃ w : Nat, pOw T n r = (w : Int) := ⟨(pOw T n r).toNat, by omega⟩
      have hl := pAdv_ow (T := T) (n := n) hw (by omega)
      have ol := owl_le w (by omega)
      have edl : (if pKd T n (pAdv T n r) = 1 then 1 else 0) = pDl T n (pAdv T n r) := rfl
      rw [edl] at hl
      dsimp only
      rw [hw, Int.toNat_natCast]
      refine ⟨f1, ?_, fun h hh1 hh2 => ?_⟩
      · rw [trL_app, trL_cons]
        have et : tr (w - 19, 0) = [(w - 19, 0)] := by unfold tr; rw [if_neg (by dsimp only; omega)]
        rw [et, List.length_append, List.length_append, List.length_singleton]
        omega
      · refine mokS_app (f4 h hh2) ⟨⟨fun q => by dsimp only at q; omega, fun _ => ⟨by dsimp only; omega, fun q => by dsimp only at q; omega, fun _ => by omega, fun _ _ => by omega, fun q => by dsimp only at q; omega, fun q1 q2 => by dsimp only at q1; omega, fun q => by dsimp only at q; omega, by omega⟩⟩, fun q => by dsimp only at q; omega, ?_⟩
        have ed : dep (w - 19, 0) (h + 1) = h := by unfold dep; rw [if_neg (by dsimp only; omega), if_pos (by dsimp only; omega)]; omega
        rw [ed]
        exact e3 h hh1 hh2
    · rw [if_neg c]
      exact ⟨hi', fun q => ⟨q, by show 2 * 0 + pAt r ≤ pAt r; omega, fun h _ _ => rfl⟩⟩
theorem spOK_le {b b' : Nat} {P : PS → List (Nat × Nat) × PS} (h : b' ≤ b) (hP : spOK T n nR nS b P) : spOK T n nR nS b' P := fun r hi => ⟨(hP r hi).1, fun q => by obtain ⟨a, c, d, e⟩ := (hP r hi).2 q; exact ⟨a, c, d, fun z hz => e z (by omega)⟩⟩
theorem sp_lpB {P : PS → List (Nat × Nat) × PS} {lo hi b : Nat} (h1 : 22 ≤ lo) (h2 : hi ≤ 24) (hb : b + 1 ≤ 14) (hP : spOK T n nR nS (b + 1) P) : spOK T n nR nS b (fun r => ((P r).1 ++ (pLp T n lo hi P 1600 (P r).2).1, (pLp T n lo hi P 1600 (P r).2).2)) := by
  intro r hi'
  obtain ⟨a1, a2⟩ := hP r hi'
  obtain ⟨b1, b2⟩ := sp_lp h1 h2 hb hP 1600 (P r).2 a1
  refine ⟨b1, fun q => ?_⟩
  obtain ⟨e1, e2, e3⟩ := b2 q
  obtain ⟨f1, f2, f3, f4⟩ := a2 e1
  dsimp only
  refine ⟨f1, ?_, by omega, fun h hh => mokS_app (f4 h (by omega)) (e3 (h + 1) (by omega) (by omega))⟩
  rw [trL_app, List.length_append]
  omega
theorem sp_sumB {S : PS → List (Nat × Nat) × PS} {d : Nat} (hd : d ≤ 6) (hS : 1 ≤ d → spOK T n nR nS (14 - 2 * d) S) : spOK T n nR nS (12 - 2 * d) (pSumB T n nR nS nm S d) := by
  have h1 : spOK T n nR nS (13 - 2 * d) (pBoth T n nR nS nm S d) := sp_lpB (by decide) (by decide) (by omega) (by rw [show 13 - 2 * d + 1 = 14 - 2 * d by omega]; exact sp_one hd hS)
  exact sp_lpB (by decide) (by decide) (by omega) (by rw [show 12 - 2 * d + 1 = 13 - 2 * d by omega]; exact h1)
theorem sp_sum : ∀ d : Nat, d ≤ 6 → spOK T n nR nS (12 - 2 * d) (pSum T n nR nS nm d) := by
  intro d
  induction d with
  | zero => intro hd; exact sp_sumB hd (fun q => by omega)
  | succ d ih => intro hd; exact sp_sumB hd (fun _ => by rw [show 14 - 2 * (d + 1) = 12 - 2 * d by omega]; exact ih (by omega))
end gSp
