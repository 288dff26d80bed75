/-! STATEMENTS -/
def pSe2 (T : Nat → Nat) (n : Nat) (B : Bk) (r : PS) : PS := pNew T n B.nR B.nS B.nm (pAdv T n r)
def pSe3 (T : Nat → Nat) (n : Nat) (B : Bk) (r : PS) : PS := pPass T n (pOw T n (pSe2 T n B r) == 21) (pSe2 T n B r)
def pSe4 (T : Nat → Nat) (n : Nat) (B : Bk) (r : PS) : List (Nat × Nat) × PS := pSum T n B.nR B.nS B.nm 6 (pSe3 T n B r)
def Bk.addS (B : Bk) (l : List Nat) (C : List (Nat × Nat)) : Bk := (B.nR, B.nS + 1, B.rl, B.stp, fun k => if k = 6 + B.nS then l else B.nm k, fun s => if s = B.nS then C else B.cs s)
def pSet (T : Nat → Nat) (n : Nat) (B : Bk) (r : PS) : Bk × PS := if B.nS < 6 then (B.addS (pNameV T n (pAdv T n r)) (pSe4 T n B r).1, (pSe4 T n B r).2) else (B, pNot 5 r)
def pSt0 (T : Nat → Nat) (n : Nat) (B : Bk) (r : PS) : Bk × PS := if pOw T n r = 17 then pRule T n B r else if pOw T n r = 20 then pSet T n B r else (B, pNot 1 r)
def pSt (T : Nat → Nat) (n : Nat) (B : Bk) (r : PS) : Bk × PS := ((pSt0 T n B r).1, pPass T n (pSign T n 59 (pSt0 T n B r).2) (pSt0 T n B r).2)
def pBkL (T : Nat → Nat) (n : Nat) : Nat → Bk → PS → Bk × PS
  | 0, B, r => (B, r)
  | f + 1, B, r => if pOk (pSt T n B r).2 = true ∧ pKd T n (pSt T n B r).2 ≠ 0 then pBkL T n f (pSt T n B r).1 (pSt T n B r).2 else pSt T n B r
def Bk0 : Bk := (0, 0, fun _ => mkRul 0 0 P0, fun _ => 1, fun _ => [], fun _ => [])
def pBook (T : Nat → Nat) (n : Nat) : Bk × PS := pBkL T n 1600 Bk0 (pGo T n 0 false)
theorem Bk0_D : BkD Bk0 := ⟨Nat.zero_le _, Nat.zero_le _, fun r h => absurd h (Nat.not_lt_zero r), fun s h => absurd h (Nat.not_lt_zero s), fun w h => by
  have h' : kn 0 0 w := h
  unfold kn at h'; omega⟩
section gSt
variable {T : Nat → Nat} {n : Nat}
theorem pPart_pd {part : Nat} {u : Int} {P : PD} {r : PS} (hp : part < 6) (h : PDok P) (hok : pOk (pPart T n part u P r).2 = true) : PDok (pPart T n part u P r).1 := by
  obtain ⟨y1, y2, y3, y4, y5, y6, y7, y8⟩ := h
  unfold pPart at hok ⊢
  by_cases c4 : part = 4
  · rw [if_pos c4] at hok ⊢
    have := pDate_r hok
    exact ⟨y1, y2, y3, y4, y5, y6, Or.inr ⟨by show 0 ≤ ((pDateV T n r : Nat) : Int); omega, by show ((pDateV T n r : Nat) : Int) < 14610; omega⟩, y8⟩
  · rw [if_neg c4] at hok ⊢
    by_cases c5 : part = 5
    · rw [if_pos c5] at hok ⊢
      have := pNum_ok hok
      exact ⟨y1, y2, y3, y4, y5, y6, y7, Or.inr ⟨by show 1 ≤ ((pNumV T n r : Nat) : Int); omega, by show ((pNumV T n r : Nat) : Int) ≤ 999; omega⟩⟩
    · rw [if_neg c5] at hok ⊢
      have hb := pRow_b (T := T) (n := n) (m := pMem T n part u) (mv := pMemV T n part u) (Q := memR part) (fun r q => pMem_r q) (f := 8) (l := []) (r := r) (fun y hy => by cases hy) hok
      have hlen := pRow_len (T := T) (n := n) (m := pMem T n part u) (mv := pMemV T n part u) (f := 8) (l := []) (r := r) (by decide)
      dsimp only
      by_cases c0 : part = 0
      · rw [if_pos c0]; exact ⟨y1, y2, y3, y4, y5, y6, y7, y8⟩
      · rw [if_neg c0]
        by_cases c1 : part = 1
        · rw [if_pos c1]
          exact ⟨hlen, fun y hy => by have := hb y hy; rw [c1] at this; exact this, y3, y4, y5, y6, y7, y8⟩
        · rw [if_neg c1]
          by_cases c2 : part = 2
          · rw [if_pos c2]
            exact ⟨y1, y2, hlen, fun y hy => by have := hb y hy; rw [c2] at this; exact this, y5, y6, y7, y8⟩
          · rw [if_neg c2]
            have c3 : part = 3 := by omega
            exact ⟨y1, y2, y3, y4, hlen, fun y hy => by have := hb y hy; rw [c3] at this; exact this, y7, y8⟩
theorem pParts_pd {u : Int} : ∀ {f : Nat} {met : Nat → Bool} {P : PD} {r : PS}, PDok P → pOk (pParts T n u f met P r).2 = true → PDok (pParts T n u f met P r).1 := by
  intro f
  induction f with
  | zero => intro met P r h _; exact h
  | succ f ih =>
    intro met P r h hok
    have e : pParts T n u (f + 1) met P r = if pWd T n r = -1 then (P, r) else pParts T n u f (fun k => met k || k == (pWd T n r).toNat) (pPart T n (pWd T n r).toNat u P (pAdv T n (if met (pWd T n r).toNat = true then pNot 4 r else r))).1 (pPart T n (pWd T n r).toNat u P (pAdv T n (if met (pWd T n r).toNat = true then pNot 4 r else r))).2 := rfl
    rw [e] at hok ⊢
    by_cases c : pWd T n r = -1
    · rw [if_pos c]; exact h
    · rw [if_neg c] at hok ⊢
      have hw := pWd_r (T := T) (n := n) r
      refine ih (pPart_pd (by omega) h ?_) hok
      cases z : pOk (pPart T n (pWd T n r).toNat u P (pAdv T n (if met (pWd T n r).toNat = true then pNot 4 r else r))).2
      · rw [pParts_er z] at hok; cases hok
      · rfl
theorem pNameV_ok {r : PS} (h : pOk (pName T n r) = true) : nmOK (pNameV T n r) := by
  have hk := (pName_kd h).1
  cases r with
  | error e => cases h
  | ok s =>
    have hk' : tkK T n s.1 s.2 = 1 := hk
    unfold pName at h
    dsimp only at h
    by_cases c : tkK T n s.1 s.2 = 1 ∧ owI T s.1 (tkE T n s.1) = -1
    · rw [if_pos c] at h
      by_cases c2 : 6 < tkE T n s.1 - s.1
      · rw [if_pos c2] at h; cases h
      · have := tkE_gt (T := T) (tk1 hk').1
        exact nmL_ok this (by omega) (tk1_w hk')
    · rw [if_neg c] at h; cases h
theorem BkD_addR {B : Bk} {l : List Nat} {st : Nat} {R : RuL} (h : BkD B) (c : B.nR < 6) (ok : RuLok R) (s1 : 1 ≤ st) (s2 : st ≤ 99) (hl : nmOK l) : BkD (B.addR l st R) := by
  obtain ⟨t1, t2, t3, t4, t5⟩ := h
  refine ⟨by show B.nR + 1 ≤ 6; omega, t2, ?_, ?_, ?_⟩
  · intro r hr'
    have hr2 : r < B.nR + 1 := hr'
    show RuLok (if r = B.nR then _ else B.rl r) ∧ 1 ≤ (if r = B.nR then _ else B.stp r) ∧ (if r = B.nR then _ else B.stp r) ≤ 99
    by_cases e : r = B.nR
    · rw [if_pos e, if_pos e]
      exact ⟨ok, s1, s2⟩
    · rw [if_neg e, if_neg e]
      exact t3 r (by omega)
  · intro s hs
    exact mokR_mono (Nat.le_succ _) _ _ (t4 s hs)
  · intro w hw
    have hw' : kn (B.nR + 1) B.nS w := hw
    show nmOK (if w = B.nR then _ else B.nm w)
    by_cases e : w = B.nR
    · rw [if_pos e]; exact hl
    · rw [if_neg e]
      exact t5 w (by unfold kn at hw' ⊢; omega)
theorem BkD_addS {B : Bk} {l : List Nat} {C : List (Nat × Nat)} (h : BkD B) (c : B.nS < 6) (hC : mokR (kn B.nR B.nS) C 0) (hl : nmOK l) : BkD (B.addS l C) := by
  obtain ⟨t1, t2, t3, t4, t5⟩ := h
  refine ⟨t1, by show B.nS + 1 ≤ 6; omega, t3, ?_, ?_⟩
  · intro s hs
    have hs' : s < B.nS + 1 := hs
    show mokR (kn B.nR s) (if s = B.nS then _ else B.cs s) 0
    by_cases e : s = B.nS
    · rw [if_pos e, e]; exact hC
    · rw [if_neg e]; exact t4 s (by omega)
  · intro w hw
    have hw' : kn B.nR (B.nS + 1) w := hw
    show nmOK (if w = 6 + B.nS then _ else B.nm w)
    by_cases e : w = 6 + B.nS
    · rw [if_pos e]; exact hl
    · rw [if_neg e]
      exact t5 w (by unfold kn at hw' ⊢; omega)
theorem cE_congr {cs cs' : Nat → List (Nat × Nat)} : ∀ {s : Nat}, (∀ t, t < s → cs t = cs' t) → cE cs s = cE cs' s := by
  intro s
  induction s with
  | zero => intro _; rfl
  | succ s ih =>
    intro h
    show cE cs s + _ = cE cs' s + _
    rw [ih (fun t ht => h t (by omega)), h s (by omega)]
theorem mE_congr {cs cs' : Nat → List (Nat × Nat)} : ∀ {s : Nat}, (∀ t, t < s → cs t = cs' t) → mE cs s = mE cs' s := by
  intro s
  induction s with
  | zero => intro _; rfl
  | succ s ih =>
    intro h
    show mE cs s + _ = mE cs' s + _
    rw [ih (fun t ht => h t (by omega)), h s (by omega)]
theorem addS_cE {B : Bk} {l : List Nat} {C : List (Nat × Nat)} {s : Nat} (h : s ≤ B.nS) : cE (B.addS l C).cs s = cE B.cs s := cE_congr (fun t ht => by
  show (if t = B.nS then C else B.cs t) = B.cs t
  rw [if_neg (by omega)])
theorem addS_mE {B : Bk} {l : List Nat} {C : List (Nat × Nat)} {s : Nat} (h : s ≤ B.nS) : mE (B.addS l C).cs s = mE B.cs s := mE_congr (fun t ht => by
  show (if t = B.nS then C else B.cs t) = B.cs t
  rw [if_neg (by omega)])
theorem addS_cE1 {B : Bk} {l : List Nat} {C : List (Nat × Nat)} : cE (B.addS l C).cs (B.nS + 1) = cE B.cs B.nS + (trL C).length := by
  show cE (B.addS l C).cs B.nS + (trL (if B.nS = B.nS then C else B.cs B.nS)).length = _
  rw [if_pos rfl, addS_cE (Nat.le_refl _)]
theorem addS_mE1 {B : Bk} {l : List Nat} {C : List (Nat × Nat)} : mE (B.addS l C).cs (B.nS + 1) = mE B.cs B.nS + C.length := by
  show mE (B.addS l C).cs B.nS + (if B.nS = B.nS then C else B.cs B.nS).length = _
  rw [if_pos rfl, addS_mE (Nat.le_refl _)]
theorem trL_len : ∀ (L : List (Nat × Nat)), L.length ≤ (trL L).length := by
  intro L
  induction L with
  | nil => exact Nat.le_refl _
  | cons o L ih =>
    rw [trL_cons, List.length_append, List.length_cons]
    have : 1 ≤ (tr o).length := by
      unfold tr
      split
      · exact Nat.le_succ 1
      · exact Nat.le_refl 1
    omega
theorem mE_cE (cs : Nat → List (Nat × Nat)) : ∀ s, mE cs s ≤ cE cs s := by
  intro s
  induction s with
  | zero => exact Nat.le_refl _
  | succ s ih =>
    have := trL_len (cs s)
    show mE cs s + _ ≤ cE cs s + _
    omega
/-- what a statement keeps -/
def bInv (n : Nat) (B : Bk) (r : PS) : Prop := BkD B ∧ pIn n r ∧ (pOk r = true → 2 * cE B.cs B.nS ≤ pAt r)
theorem pSet_in {B : Bk} {r : PS} (hi : pIn n r) : pIn n (pSe2 T n B r) ∧ pIn n (pSe3 T n B r) ∧ pIn n (pSe4 T n B r).2 := by
  have h2 : pIn n (pSe2 T n B r) := pNew_in (pAdv_in hi)
  have h3 : pIn n (pSe3 T n B r) := pPass_in h2
  exact ⟨h2, h3, (sp_sum 6 (by decide) _ h3).1⟩
/-- what a set that is right has -/
theorem pSet_sp {B : Bk} {r : PS} (hi : pIn n r) (hok : pOk (pSe4 T n B r).2 = true) : pOk r = true ∧ pOk (pSe3 T n B r) = true ∧ pOk (pSe2 T n B r) = true ∧ 2 * (trL (pSe4 T n B r).1).length + pAt r + 1 ≤ pAt (pSe4 T n B r).2 ∧ mokR (kn B.nR B.nS) (pSe4 T n B r).1 0 ∧ nmOK (pNameV T n (pAdv T n r)) := by
  obtain ⟨h2, h3, h4⟩ := pSet_in (T := T) (B := B) hi
  obtain ⟨e1, e2, e3, e4⟩ := (sp_sum (nR := B.nR) (nS := B.nS) (nm := B.nm) 6 (by decide) (pSe3 T n B r) h3).2 hok
  have o2 := (pPass_ok e1).2
  obtain ⟨o1, n1, n2⟩ := pNew_ok o2
  have l2 := pNew_lt o2
  have l1 := (pLe_adv (T := T) hi o1).2
  have o0 := (pLe_adv (T := T) hi o1).1
  have l3 := (pLe_pass (T := T) (b := pOw T n (pSe2 T n B r) == 21) h2 e1).2
  have e2' : 2 * (trL (pSe4 T n B r).1).length + pAt (pSe3 T n B r) ≤ pAt (pSe4 T n B r).2 + pDl T n (pSe3 T n B r) := e2
  have hd : pDl T n (pSe3 T n B r) ≤ 1 := by unfold pDl; split <;> omega
  have l2' : pAt (pAdv T n r) + 1 ≤ pAt (pSe2 T n B r) := l2.2
  have l3' : pAt (pSe2 T n B r) + 1 ≤ pAt (pSe3 T n B r) := by
    have hw := (pPass_ok e1).1
    have hk := pKd_ow (T := T) (n := n) (r := pSe2 T n B r) (by have := beq_iff_eq.mp hw; omega)
    have := pAdv_lt (T := T) (n := n) o2 (by omega)
    show _ ≤ pAt (pPass T n (pOw T n (pSe2 T n B r) == 21) (pSe2 T n B r))
    unfold pPass
    rw [if_pos hw]
    omega
  exact ⟨o0, e1, o2, by omega, mokS_R (e4 0 (by decide)), pNameV_ok n2⟩
theorem bInv_st0 {B : Bk} {r : PS} (h : bInv n B r) (hr : pOk r = true) : bInv n (pSt0 T n B r).1 (pSt0 T n B r).2 ∧ pLe r (pSt0 T n B r).2 ∨ pOk (pSt0 T n B r).2 = false ∧ pIn n (pSt0 T n B r).2 := by
  obtain ⟨h1, h2, h3⟩ := h
  have h3' := h3 hr
  cases hok : pOk (pSt0 T n B r).2 with
  | false =>
    right
    refine ⟨rfl, ?_⟩
    unfold pSt0
    split
    · exact pRule_in2 h2
    · split
      · unfold pSet
        split
        · exact (pSet_in h2).2.2
        · exact pNot_in
      · exact pNot_in
  | true =>
    left
    unfold pSt0 at hok ⊢
    by_cases c : pOw T n r = 17
    · rw [if_pos c] at hok ⊢
      have hle := pLe_rule (T := T) (B := B) h2 hok
      refine ⟨⟨?_, pRule_in2 h2, fun _ => ?_⟩, fun q => hle⟩
      · unfold pRule at hok ⊢
        by_cases c6 : B.nR < 6
        · rw [if_pos c6] at hok ⊢
          obtain ⟨y7, y6, y5, y4, y3, y2, y1, yn1, yn2⟩ := pRule_in hok
          exact BkD_addR h1 c6 (mkRul_ok (by omega) (pDate_r y7) (pParts_pd PDok0 hok)) yn1 yn2 (pNameV_ok (pNew_ok y2).2.2)
        · rw [if_neg c6] at hok
          rw [show pOk (pNot 5 r) = false from pNot_ok] at hok; cases hok
      · have ec : cE (pRule T n B r).1.cs (pRule T n B r).1.nS = cE B.cs B.nS := by
          unfold pRule
          split <;> rfl
        rw [ec]; omega
    · rw [if_neg c] at hok ⊢
      by_cases c2 : pOw T n r = 20
      · rw [if_pos c2] at hok ⊢
        unfold pSet at hok ⊢
        by_cases c6 : B.nS < 6
        · rw [if_pos c6] at hok ⊢
          obtain ⟨o1, o2, o3, o4, o5, o6⟩ := pSet_sp h2 hok
          refine ⟨⟨BkD_addS h1 c6 o5 o6, (pSet_in h2).2.2, fun _ => ?_⟩, fun _ => ⟨o1, by dsimp only; omega⟩⟩
          show 2 * cE (B.addS (pNameV T n (pAdv T n r)) (pSe4 T n B r).1).cs (B.nS + 1) ≤ pAt (pSe4 T n B r).2
          rw [addS_cE1]; omega
        · rw [if_neg c6] at hok
          rw [show pOk (pNot 5 r) = false from pNot_ok] at hok; cases hok
      · rw [if_neg c2] at hok
        rw [show pOk (pNot 1 r) = false from pNot_ok] at hok; cases hok
theorem bInv_st {B : Bk} {r : PS} (h : bInv n B r) (hr : pOk r = true) (hok : pOk (pSt T n B r).2 = true) : bInv n (pSt T n B r).1 (pSt T n B r).2 ∧ pAt r + 1 ≤ pAt (pSt T n B r).2 := by
  have l1 := pSignP_lt (show pOk (pPass T n (pSign T n 59 (pSt0 T n B r).2) (pSt0 T n B r).2) = true from hok)
  rcases bInv_st0 (T := T) h hr with ⟨⟨a1, a2, a3⟩, b⟩ | ⟨a, -⟩
  · have hb := b l1.1
    have l2 : pAt (pSt0 T n B r).2 + 1 ≤ pAt (pSt T n B r).2 := l1.2
    refine ⟨⟨a1, pPass_in a2, fun _ => ?_⟩, by omega⟩
    have := a3 l1.1
    show 2 * cE (pSt0 T n B r).1.cs (pSt0 T n B r).1.nS ≤ pAt (pSt T n B r).2
    omega
  · rw [a] at l1; cases l1.1
theorem pSt_in {B : Bk} {r : PS} (h : bInv n B r) (hr : pOk r = true) : pIn n (pSt T n B r).2 := by
  rcases bInv_st0 (T := T) h hr with ⟨⟨a1, a2, a3⟩, b⟩ | ⟨-, a⟩
  · exact pPass_in a2
  · exact pPass_in a
theorem bInv_0 : bInv n Bk0 (pGo T n 0 false) := ⟨Bk0_D, rn_le (Nat.zero_le n), fun _ => Nat.zero_le _⟩
theorem pAt_in {r : PS} (h : pIn n r) : pAt r ≤ n := by
  cases r with
  | error e => exact Nat.zero_le _
  | ok s => exact h
theorem bInv_L : ∀ {f : Nat} {B : Bk} {r : PS}, bInv n B r → pOk r = true → pOk (pBkL T n f B r).2 = true → bInv n (pBkL T n f B r).1 (pBkL T n f B r).2 := by
  intro f
  induction f with
  | zero => intro B r h _ _; exact h
  | succ f ih =>
    intro B r h hr hok
    have e : pBkL T n (f + 1) B r = if pOk (pSt T n B r).2 = true ∧ pKd T n (pSt T n B r).2 ≠ 0 then pBkL T n f (pSt T n B r).1 (pSt T n B r).2 else pSt T n B r := rfl
    rw [e] at hok ⊢
    by_cases c : pOk (pSt T n B r).2 = true ∧ pKd T n (pSt T n B r).2 ≠ 0
    · rw [if_pos c] at hok ⊢
      exact ih (bInv_st h hr c.1).1 c.1 hok
    · rw [if_neg c] at hok ⊢
      exact (bInv_st h hr hok).1
/-- a book that is read is one -/
theorem pBook_OK (hn : n ≤ 1600) (h : pOk (pBook T n).2 = true) : BkOK (pBook T n).1 := by
  obtain ⟨a1, a2, a3⟩ := bInv_L (T := T) (n := n) (f := 1600) bInv_0 rfl h
  have a3' := a3 h
  have := pAt_in a2
  obtain ⟨t1, t2, t3, t4, t5⟩ := a1
  have h1 := mE_cE (pBook T n).1.cs (pBook T n).1.nS
  have a3'' : 2 * cE (pBook T n).1.cs (pBook T n).1.nS ≤ pAt (pBkL T n 1600 Bk0 (pGo T n 0 false)).2 := a3'
  exact ⟨t1, t2, t3, t4, by omega, by omega, t5⟩
end gSt
