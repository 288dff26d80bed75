/-! WHAT IS READ, as a text: places rise, codes are few, sums can be done -/
def pLe (r r' : PS) : Prop := pOk r' = true → pOk r = true ∧ pAt r ≤ pAt r'
theorem pLe_r (r : PS) : pLe r r := fun h => ⟨h, Nat.le_refl _⟩
theorem pLe_t {a b c : PS} (h1 : pLe a b) (h2 : pLe b c) : pLe a c := fun h => ⟨(h1 (h2 h).1).1, Nat.le_trans (h1 (h2 h).1).2 (h2 h).2⟩
theorem pLe_e {r r' : PS} (h : pOk r' = false) : pLe r r' := fun q => by rw [h] at q; cases q
section gLe
variable {T : Nat → Nat} {n : Nat}
/-- behind what stands there: a word that follows does not touch -/
theorem pAdv_at {r : PS} (h : pOk r = true) : (if pKd T n (pAdv T n r) = 1 ∧ (pKd T n r = 1 ∨ pKd T n r = 2) then 1 else 0) + tkE T n (pAt r) ≤ pAt (pAdv T n r) := by
  cases r with
  | error e => cases h
  | ok s =>
    have g := rn_ge (T := T) (n := n) (P := isBb) (tkE T n s.1)
    show (if tkK T n (rn T n isBb (tkE T n s.1)) ((tkK T n s.1 s.2 == 1 || tkK T n s.1 s.2 == 2) && rn T n isBb (tkE T n s.1) == tkE T n s.1) = 1 ∧ (tkK T n s.1 s.2 = 1 ∨ tkK T n s.1 s.2 = 2) then 1 else 0) + tkE T n s.1 ≤ rn T n isBb (tkE T n s.1)
    by_cases c : tkK T n (rn T n isBb (tkE T n s.1)) ((tkK T n s.1 s.2 == 1 || tkK T n s.1 s.2 == 2) && rn T n isBb (tkE T n s.1) == tkE T n s.1) = 1 ∧ (tkK T n s.1 s.2 = 1 ∨ tkK T n s.1 s.2 = 2)
    · rw [if_pos c]
      have ht := (tk1 c.1).2.2.2
      have hw : (tkK T n s.1 s.2 == 1 || tkK T n s.1 s.2 == 2) = true := by
        rcases c.2 with q | q <;> rw [q] <;> rfl
      rw [hw, Bool.true_and] at ht
      have : ¬ rn T n isBb (tkE T n s.1) = tkE T n s.1 := fun q => by rw [q] at ht; simp at ht
      omega
    · rw [if_neg c]; omega
theorem tkE_ge (a : Nat) : a ≤ tkE T n a ∨ n ≤ a := by
  by_cases c : a < n
  · left; have := tkE_gt (T := T) c; omega
  · right; omega
def pIn (n : Nat) : PS → Prop
  | .ok s => s.1 ≤ n
  | .error _ => True
theorem pAdv_in {r : PS} (h : pIn n r) : pIn n (pAdv T n r) := by
  cases r with
  | error e => exact trivial
  | ok s => exact rn_le (tkE_le h)
theorem pLe_adv {r : PS} (hn : pIn n r) : pLe r (pAdv T n r) := fun h => by
  rw [pAdv_ok] at h
  refine ⟨h, ?_⟩
  have := pAdv_at (T := T) (n := n) h
  cases r with
  | error e => cases h
  | ok s =>
    have hs : s.1 ≤ n := hn
    have hp : pAt (Except.ok s : PS) = s.1 := rfl
    rw [hp] at this ⊢
    rcases tkE_ge (T := T) (n := n) s.1 with q | q
    · omega
    · have : tkE T n s.1 = n := by unfold tkE; rw [if_neg (by omega)]
      omega
/-- a step past something that is there -/
theorem pAdv_lt {r : PS} (h : pOk r = true) (h0 : pKd T n r ≠ 0) : pAt r + 1 + (if pKd T n (pAdv T n r) = 1 ∧ (pKd T n r = 1 ∨ pKd T n r = 2) then 1 else 0) ≤ pAt (pAdv T n r) := by
  have g := pAdv_at (T := T) (n := n) h
  cases r with
  | error e => cases h
  | ok s =>
    have hlt : s.1 < n := by
      apply Classical.byContradiction
      intro q
      exact h0 (show tkK T n s.1 s.2 = 0 by unfold tkK; rw [if_neg q])
    have h1 := tkE_gt (T := T) hlt
    have g' : (if pKd T n (pAdv T n (.ok s)) = 1 ∧ (pKd T n (.ok s) = 1 ∨ pKd T n (.ok s) = 2) then 1 else 0) + tkE T n s.1 ≤ pAt (pAdv T n (.ok s)) := g
    show s.1 + 1 + _ ≤ _
    omega
theorem pKd_ow {r : PS} (h : 0 ≤ pOw T n r) : pKd T n r = 1 := by
  cases r with
  | error e => have : (0 : Int) ≤ -1 := h; omega
  | ok s =>
    have h' : 0 ≤ (if tkK T n s.1 s.2 = 1 then owI T s.1 (tkE T n s.1) else -1) := h
    by_cases c : tkK T n s.1 s.2 = 1
    · exact c
    · rw [if_neg c] at h'; omega
/-- an own word is passed -/
theorem pAdv_ow {r : PS} {w : Nat} (h : pOw T n r = (w : Int)) (hw : w < 29) : pAt r + owl w + (if pKd T n (pAdv T n r) = 1 then 1 else 0) ≤ pAt (pAdv T n r) := by
  have hk := pKd_ow (T := T) (n := n) (r := r) (by omega)
  have ho := pOw_ok (T := T) (n := n) (r := r) (by omega)
  have g := pAdv_at (T := T) (n := n) ho
  cases r with
  | error e => cases ho
  | ok s =>
    have hk' : tkK T n s.1 s.2 = 1 := hk
    have h' : (if tkK T n s.1 s.2 = 1 then owI T s.1 (tkE T n s.1) else -1) = (w : Int) := h
    rw [if_pos hk'] at h'
    have h1 := ((owI_iff hw).mp h').1
    have g' : (if pKd T n (pAdv T n (.ok s)) = 1 ∧ (pKd T n (.ok s) = 1 ∨ pKd T n (.ok s) = 2) then 1 else 0) + tkE T n s.1 ≤ pAt (pAdv T n (.ok s)) := g
    show s.1 + owl w + _ ≤ _
    by_cases c : pKd T n (pAdv T n (Except.ok s)) = 1
    · rw [if_pos c]
      rw [if_pos ⟨c, Or.inl hk⟩] at g'
      omega
    · rw [if_neg c]
      rw [if_neg (fun q => c q.1)] at g'
      omega
theorem pNum_in {lo hi : Nat} {r : PS} (h : pIn n r) : pIn n (pNum T n lo hi r) := by
  cases r with
  | error e => exact trivial
  | ok s =>
    unfold pNum
    dsimp only
    repeat' split
    all_goals first | exact trivial | exact pAdv_in h
theorem pNot_in {f : Nat} {r : PS} : pIn n (pNot f r) := by cases r <;> exact trivial
theorem pPass_in {b : Bool} {r : PS} (h : pIn n r) : pIn n (pPass T n b r) := by
  unfold pPass
  split
  · exact pAdv_in h
  · exact pNot_in
theorem pName_in {r : PS} (h : pIn n r) : pIn n (pName T n r) := by
  cases r with
  | error e => exact trivial
  | ok s =>
    unfold pName
    dsimp only
    repeat' split
    all_goals first | exact trivial | exact pAdv_in h
theorem pNew_in {nR nS : Nat} {nm : Nat → List Nat} {r : PS} (h : pIn n r) : pIn n (pNew T n nR nS nm r) := by
  unfold pNew
  split
  · exact trivial
  · exact pName_in h
theorem pKnown_in {nR nS : Nat} {nm : Nat → List Nat} {r : PS} (h : pIn n r) : pIn n (pKnown T n nR nS nm r) := by
  unfold pKnown
  split
  · exact trivial
  · exact pName_in h
theorem pDate_n {r : PS} (h : pIn n r) : pIn n (pDate T n r) := pNum_in (pPass_in (pNum_in (pPass_in (pNum_in h))))
theorem pNum_kd {lo hi : Nat} {r : PS} (h : pOk (pNum T n lo hi r) = true) : pKd T n r = 2 := by
  cases r with
  | error e => cases h
  | ok s =>
    unfold pNum at h
    dsimp only at h
    by_cases c : tkK T n s.1 s.2 = 2
    · exact c
    · rw [if_neg c] at h; cases h
theorem pNum_lt {lo hi : Nat} {r : PS} (h : pOk (pNum T n lo hi r) = true) : pOk r = true ∧ pAt r + 1 ≤ pAt (pNum T n lo hi r) := by
  have hk := pNum_kd h
  obtain ⟨h1, -, -, h2⟩ := pNum_ok h
  rw [h2]
  have := pAdv_lt (T := T) (n := n) h1 (by omega)
  exact ⟨h1, by omega⟩
theorem pLe_num {lo hi : Nat} {r : PS} : pLe r (pNum T n lo hi r) := fun h => by have := pNum_lt h; exact ⟨this.1, by omega⟩
theorem pLe_pass {b : Bool} {r : PS} (hn : pIn n r) : pLe r (pPass T n b r) := fun h => by
  obtain ⟨h1, h2⟩ := pPass_ok h
  unfold pPass at h ⊢
  rw [if_pos h1] at h ⊢
  exact pLe_adv hn h
theorem pSign_kd {c : Nat} {r : PS} (h : pSign T n c r = true) : pKd T n r ≠ 0 := by
  cases r with
  | error e => cases h
  | ok s =>
    have h' : (decide (s.1 < n) && T s.1 == c) = true := h
    rw [Bool.and_eq_true, decide_eq_true_eq] at h'
    show ¬ tkK T n s.1 s.2 = 0
    unfold tkK
    rw [if_pos h'.1]
    repeat' split
    all_goals omega
theorem pSign_k3 {c : Nat} {r : PS} (hl : isLb c = false) (hd : isDb c = false) (h : pSign T n c r = true) : pKd T n r = 3 := by
  cases r with
  | error e => cases h
  | ok s =>
    have h' : (decide (s.1 < n) && T s.1 == c) = true := h
    rw [Bool.and_eq_true, decide_eq_true_eq, beq_iff_eq] at h'
    show tkK T n s.1 s.2 = 3
    unfold tkK
    rw [if_pos h'.1, h'.2, hl, hd]; rfl
theorem pSignP_lt {c : Nat} {r : PS} (h : pOk (pPass T n (pSign T n c r) r) = true) : pOk r = true ∧ pAt r + 1 ≤ pAt (pPass T n (pSign T n c r) r) := by
  obtain ⟨h1, h2⟩ := pPass_ok h
  unfold pPass
  rw [if_pos h1]
  have := pAdv_lt (T := T) (n := n) h2 (pSign_kd h1)
  exact ⟨h2, by omega⟩
theorem pName_kd {r : PS} (h : pOk (pName T n r) = true) : pKd T n r = 1 ∧ pName T n r = pAdv T n r := by
  cases r with
  | error e => cases h
  | ok s =>
    unfold pName at h ⊢
    dsimp only at h ⊢
    by_cases c : tkK T n s.1 s.2 = 1 ∧ owI T s.1 (tkE T n s.1) = -1
    · rw [if_pos c] at h ⊢
      by_cases c2 : 6 < tkE T n s.1 - s.1
      · rw [if_pos c2] at h; cases h
      · rw [if_neg c2]; exact ⟨c.1, rfl⟩
    · rw [if_neg c] at h; cases h
theorem pNew_ok {nR nS : Nat} {nm : Nat → List Nat} {r : PS} (h : pOk (pNew T n nR nS nm r) = true) : pOk r = true ∧ pNew T n nR nS nm r = pName T n r ∧ pOk (pName T n r) = true := by
  unfold pNew at h ⊢
  by_cases c : pOk (pName T n r) = true ∧ pFind nR nS nm (pNameV T n r) ≠ -1
  · rw [if_pos c] at h; cases h
  · rw [if_neg c] at h ⊢
    exact ⟨pName_ok h, rfl, h⟩
theorem pName_lt {r : PS} (h : pOk (pName T n r) = true) : pAt r + 1 ≤ pAt (pName T n r) := by
  obtain ⟨h1, h2⟩ := pName_kd h
  rw [h2]
  have := pAdv_lt (T := T) (n := n) (pName_ok h) (by omega)
  omega
theorem pNew_lt {nR nS : Nat} {nm : Nat → List Nat} {r : PS} (h : pOk (pNew T n nR nS nm r) = true) : pOk r = true ∧ pAt r + 1 ≤ pAt (pNew T n nR nS nm r) := by
  obtain ⟨h1, h2, h3⟩ := pNew_ok h
  rw [h2]; exact ⟨h1, pName_lt h3⟩
theorem pDate_lt {r : PS} (h : pOk (pDate T n r) = true) : pOk r = true ∧ pAt r + 5 ≤ pAt (pDate T n r) := by
  obtain ⟨h4, e5⟩ := pNum_lt (show pOk (pNum T n 1 (cLm (pNumV T n r - 2000) (pNumV T n (pD2 T n r))) (pD4 T n r)) = true from h)
  obtain ⟨h3, e4⟩ := pSignP_lt (show pOk (pPass T n (pSign T n 45 (pD3 T n r)) (pD3 T n r)) = true from h4)
  obtain ⟨h2, e3⟩ := pNum_lt (show pOk (pNum T n 1 12 (pD2 T n r)) = true from h3)
  obtain ⟨h1, e2⟩ := pSignP_lt (show pOk (pPass T n (pSign T n 45 (pD1 T n r)) (pD1 T n r)) = true from h2)
  obtain ⟨h0, e1⟩ := pNum_lt (show pOk (pNum T n 2000 2039 r) = true from h1)
  refine ⟨h0, ?_⟩
  have e5' : pAt (pD4 T n r) + 1 ≤ pAt (pDate T n r) := e5
  have e4' : pAt (pD3 T n r) + 1 ≤ pAt (pD4 T n r) := e4
  have e3' : pAt (pD2 T n r) + 1 ≤ pAt (pD3 T n r) := e3
  have e2' : pAt (pD1 T n r) + 1 ≤ pAt (pD2 T n r) := e2
  have e1' : pAt r + 1 ≤ pAt (pD1 T n r) := e1
  omega
theorem pLe_new {nR nS : Nat} {nm : Nat → List Nat} {r : PS} : pLe r (pNew T n nR nS nm r) := fun q => by have := pNew_lt q; exact ⟨this.1, by omega⟩
theorem pLe_date {r : PS} : pLe r (pDate T n r) := fun q => by have := pDate_lt q; exact ⟨this.1, by omega⟩
/-! rows -/
theorem pNext_in {k : Nat} {r : PS} (h : pIn n r) : pIn n (pNext T n k r) := by
  unfold pNext
  split
  · split
    · exact pAdv_in h
    · exact pNot_in
  · exact h
theorem pLe_next {k : Nat} {r : PS} (h : pIn n r) : pLe r (pNext T n k r) := by
  unfold pNext
  split
  · split
    · exact pLe_adv h
    · exact pLe_e pNot_ok
  · exact pLe_r r
theorem pDup_in {m : PS → PS} {mv : PS → Int} {l : List Int} {r : PS} (hm : ∀ r, pIn n r → pIn n (m r)) (h : pIn n r) : pIn n (pDup m mv l r) := by
  unfold pDup
  split
  · exact trivial
  · exact hm r h
theorem pRow_in {m : PS → PS} {mv : PS → Int} (hm : ∀ r, pIn n r → pIn n (m r)) : ∀ {f : Nat} {l : List Int} {r : PS}, pIn n r → pIn n (pRow T n m mv f l r).2 := by
  intro f
  induction f with
  | zero => intro l r h; exact h
  | succ f ih =>
    intro l r h
    show pIn n (if pMore T n (l.length + 1) (pDup m mv l r) = true then pRow T n m mv f (l ++ [mv r]) (pNext T n (l.length + 1) (pDup m mv l r)) else (l ++ [mv r], pNext T n (l.length + 1) (pDup m mv l r))).2
    split
    · exact ih (pNext_in (pDup_in hm h))
    · exact pNext_in (pDup_in hm h)
/-- each one of a row takes room -/
theorem pRow_lt {m : PS → PS} {mv : PS → Int} {c : Nat} (hi : ∀ r, pIn n r → pIn n (m r)) (hm : ∀ r, pIn n r → pOk (m r) = true → pOk r = true ∧ pAt r + c ≤ pAt (m r)) : ∀ {f : Nat} {l : List Int} {r : PS}, pIn n r → pOk (pRow T n m mv f l r).2 = true → pOk r = true ∧ pAt r + c * ((pRow T n m mv f l r).1.length - l.length) ≤ pAt (pRow T n m mv f l r).2 ∧ l.length ≤ (pRow T n m mv f l r).1.length := by
  intro f
  induction f with
  | zero =>
    intro l r _ h
    refine ⟨h, ?_, Nat.le_refl _⟩
    show pAt r + c * (l.length - l.length) ≤ pAt r
    rw [Nat.sub_self]; omega
  | succ f ih =>
    intro l r hr h
    have e : pRow T n m mv (f + 1) l r = if pMore T n (l.length + 1) (pDup m mv l r) = true then pRow T n m mv f (l ++ [mv r]) (pNext T n (l.length + 1) (pDup m mv l r)) else (l ++ [mv r], pNext T n (l.length + 1) (pDup m mv l r)) := rfl
    rw [e] at h ⊢
    have key : pOk (pNext T n (l.length + 1) (pDup m mv l r)) = true → pOk r = true ∧ pAt r + c ≤ pAt (pNext T n (l.length + 1) (pDup m mv l r)) := by
      intro q
      obtain ⟨q1, q2⟩ := pLe_next (T := T) (k := l.length + 1) (pDup_in (mv := mv) (l := l) hi hr) q
      obtain ⟨q3, -, q4⟩ := pDup_ok q1
      obtain ⟨q5, q6⟩ := hm r hr q3
      rw [q4] at q2 ⊢
      exact ⟨q5, by omega⟩
    by_cases cm : pMore T n (l.length + 1) (pDup m mv l r) = true
    · rw [if_pos cm] at h ⊢
      obtain ⟨a1, a2, a3⟩ := ih (pNext_in (pDup_in hi hr)) h
      obtain ⟨k1, k2⟩ := key a1
      rw [len_snoc] at a2 a3
      refine ⟨k1, ?_, by omega⟩
      have : (pRow T n m mv f (l ++ [mv r]) (pNext T n (l.length + 1) (pDup m mv l r))).1.length - l.length = ((pRow T n m mv f (l ++ [mv r]) (pNext T n (l.length + 1) (pDup m mv l r))).1.length - (l.length + 1)) + 1 := by omega
      rw [this, Nat.mul_add, Nat.mul_one]
      omega
    · rw [if_neg cm] at h ⊢
      obtain ⟨k1, k2⟩ := key h
      dsimp only
      rw [len_snoc]
      refine ⟨k1, ?_, by omega⟩
      rw [show l.length + 1 - l.length = 1 by omega, Nat.mul_one]
      exact k2
theorem pMem_in {part : Nat} {u : Int} {r : PS} (h : pIn n r) : pIn n (pMem T n part u r) := by
  have h0 : pIn n (pM0 T n part u r) := by
    unfold pM0
    split
    · exact pNot_in
    · exact h
  have h1 : pIn n (pM1 T n part u r) := by
    unfold pM1
    split
    · exact pAdv_in h0
    · exact h0
  have h2 : pIn n (pM2 T n part u r) := by
    unfold pM2
    split
    · exact h1
    · exact pNum_in h1
  unfold pMem
  split
  · exact pNum_in h
  · split
    · exact pPass_in h2
    · exact h2
theorem pLe_mem {part : Nat} {u : Int} {r : PS} (h : pIn n r) : pLe r (pMem T n part u r) := by
  have h0 : pIn n (pM0 T n part u r) := by
    unfold pM0
    split
    · exact pNot_in
    · exact h
  have l0 : pLe r (pM0 T n part u r) := by
    unfold pM0
    split
    · exact pLe_e pNot_ok
    · exact pLe_r r
  have h1 : pIn n (pM1 T n part u r) := by
    unfold pM1
    split
    · exact pAdv_in h0
    · exact h0
  have l1 : pLe r (pM1 T n part u r) := by
    unfold pM1
    split
    · exact pLe_t l0 (pLe_adv h0)
    · exact l0
  have h2 : pIn n (pM2 T n part u r) := by
    unfold pM2
    split
    · exact h1
    · exact pNum_in h1
  have l2 : pLe r (pM2 T n part u r) := by
    unfold pM2
    split
    · exact l1
    · exact pLe_t l1 pLe_num
  unfold pMem
  split
  · exact pLe_num
  · split
    · exact pLe_t l2 (pLe_pass h2)
    · exact l2
theorem pPart_in {part : Nat} {u : Int} {P : PD} {r : PS} (h : pIn n r) : pIn n (pPart T n part u P r).2 := by
  unfold pPart
  split
  · exact pDate_n h
  · split
    · exact pNum_in h
    · exact pRow_in (fun _ => pMem_in) h
theorem pLe_part {part : Nat} {u : Int} {P : PD} {r : PS} (h : pIn n r) : pLe r (pPart T n part u P r).2 := by
  unfold pPart
  split
  · exact fun q => by have := pDate_lt q; exact ⟨this.1, by dsimp only; omega⟩
  · split
    · exact pLe_num
    · intro q
      obtain ⟨a, b, -⟩ := pRow_lt (c := 0) (fun _ => pMem_in) (fun r hr q => by obtain ⟨x, y⟩ := pLe_mem hr q; exact ⟨x, by omega⟩) h q
      rw [Nat.zero_mul] at b
      exact ⟨a, b⟩
theorem pParts_in {u : Int} : ∀ {f : Nat} {met : Nat → Bool} {P : PD} {r : PS}, pIn n r → pIn n (pParts T n u f met P r).2 := by
  intro f
  induction f with
  | zero => intro met P r h; exact h
  | succ f ih =>
    intro met P r h
    show pIn n (if pWd T n r = -1 then (P, r) else pParts T n u f _ _ _).2
    split
    · exact h
    · refine ih (pPart_in (pAdv_in ?_))
      split
      · exact pNot_in
      · exact h
theorem pLe_parts {u : Int} : ∀ {f : Nat} {met : Nat → Bool} {P : PD} {r : PS}, pIn n r → pLe r (pParts T n u f met P r).2 := by
  intro f
  induction f with
  | zero => intro met P r h; exact pLe_r r
  | succ f ih =>
    intro met P r h
    show pLe r (if pWd T n r = -1 then (P, r) else pParts T n u f _ _ _).2
    split
    · exact pLe_r r
    · have h1 : pIn n (if met (pWd T n r).toNat = true then pNot 4 r else r) := by
        split
        · exact pNot_in
        · exact h
      have l1 : pLe r (if met (pWd T n r).toNat = true then pNot 4 r else r) := by
        split
        · exact pLe_e pNot_ok
        · exact pLe_r r
      exact pLe_t (pLe_t l1 (pLe_adv h1)) (pLe_t (pLe_part (pAdv_in h1)) (ih (pPart_in (pAdv_in h1))))
theorem pRu_in {B : Bk} {r : PS} (h : pIn n r) : pIn n (pRu2 T n B r) ∧ pIn n (pRu3 T n B r) ∧ pIn n (pRu4 T n B r) ∧ pIn n (pRu5 T n B r) ∧ pIn n (pRu6 T n B r) ∧ pIn n (pRu7 T n B r) ∧ pIn n (pRu8 T n B r).2 := by
  have h2 : pIn n (pRu2 T n B r) := pNew_in (pAdv_in h)
  have h3 : pIn n (pRu3 T n B r) := pPass_in h2
  have h4 : pIn n (pRu4 T n B r) := pNum_in h3
  have h5 : pIn n (pRu5 T n B r) := pPass_in h4
  have h6 : pIn n (pRu6 T n B r) := pPass_in h5
  have h7 : pIn n (pRu7 T n B r) := pDate_n h6
  exact ⟨h2, h3, h4, h5, h6, h7, pParts_in h7⟩
theorem pLe_rule {B : Bk} {r : PS} (h : pIn n r) : pLe r (pRule T n B r).2 := by
  unfold pRule
  split
  · obtain ⟨h2, h3, h4, h5, h6, h7, h8⟩ := pRu_in (T := T) (B := B) h
    have l2 : pLe r (pRu2 T n B r) := pLe_t (pLe_adv h) pLe_new
    have l3 : pLe r (pRu3 T n B r) := pLe_t l2 (pLe_pass h2)
    have l4 : pLe r (pRu4 T n B r) := pLe_t l3 pLe_num
    have l5 : pLe r (pRu5 T n B r) := pLe_t l4 (pLe_pass h4)
    have l6 : pLe r (pRu6 T n B r) := pLe_t l5 (pLe_pass h5)
    have l7 : pLe r (pRu7 T n B r) := pLe_t l6 pLe_date
    exact pLe_t l7 (pLe_parts h7)
  · exact pLe_e pNot_ok
theorem pRule_in2 {B : Bk} {r : PS} (h : pIn n r) : pIn n (pRule T n B r).2 := by
  unfold pRule
  split
  · exact (pRu_in h).2.2.2.2.2.2
  · exact pNot_in
end gLe
