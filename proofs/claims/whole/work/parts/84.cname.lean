/-! NAMES and DATES of the reader -/
theorem nm5_d {a b c d : Nat} (h : a * 32 + b = c * 32 + d) (hb : b < 32) (hd : d < 32) : a = c ∧ b = d := by omega
theorem nm_get {l : List Nat} (h : nmOK l) (j : Nat) : l.getD j 0 ≤ 26 ∧ (j < l.length → 1 ≤ l.getD j 0) ∧ (l.length ≤ j → l.getD j 0 = 0) := by
  rw [List.getD_eq_getElem?_getD]
  by_cases c : j < l.length
  · rw [List.getElem?_eq_getElem c]
    have := h.2.2 l[j] (List.getElem_mem c)
    exact ⟨this.2, fun _ => this.1, fun q => by omega⟩
  · rw [List.getElem?_eq_none (by omega)]
    exact ⟨Nat.zero_le _, fun q => absurd q c, fun _ => rfl⟩
theorem nm_ext {l l' : List Nat} (h : nmOK l) (h' : nmOK l') (e : ∀ j, j < 6 → l.getD j 0 = l'.getD j 0) : l = l' := by
  have hl : l.length = l'.length := by
    rcases Nat.lt_trichotomy l.length l'.length with c | c | c
    · have a := (nm_get h l.length).2.2 (Nat.le_refl _)
      have b := (nm_get h' l.length).2.1 c
      have := e l.length (by have := h'.2.1; omega)
      omega
    · exact c
    · have a := (nm_get h' l'.length).2.2 (Nat.le_refl _)
      have b := (nm_get h l'.length).2.1 c
      have := e l'.length (by have := h.2.1; omega)
      omega
  apply List.ext_getElem hl
  intro j h1 h2
  have := e j (by have := h.2.1; omega)
  rw [List.getD_eq_getElem?_getD, List.getD_eq_getElem?_getD, List.getElem?_eq_getElem h1, List.getElem?_eq_getElem h2] at this
  exact this
theorem nm5_inj {l l' : List Nat} (h : nmOK l) (h' : nmOK l') (e : nm5 l = nm5 l') : l = l' := by
  unfold nm5 at e
  have g := fun j => (nm_get h j).1
  have g' := fun j => (nm_get h' j).1
  obtain ⟨e1, d5⟩ := nm5_d e (by have := g 5; omega) (by have := g' 5; omega)
  obtain ⟨e2, d4⟩ := nm5_d e1 (by have := g 4; omega) (by have := g' 4; omega)
  obtain ⟨e3, d3⟩ := nm5_d e2 (by have := g 3; omega) (by have := g' 3; omega)
  obtain ⟨e4, d2⟩ := nm5_d e3 (by have := g 2; omega) (by have := g' 2; omega)
  obtain ⟨d0, d1⟩ := nm5_d e4 (by have := g 1; omega) (by have := g' 1; omega)
  apply nm_ext h h'
  intro j hj
  rcases (show j = 0 ∨ j = 1 ∨ j = 2 ∨ j = 3 ∨ j = 4 ∨ j = 5 by omega) with rfl | rfl | rfl | rfl | rfl | rfl
  · exact d0
  · exact d1
  · exact d2
  · exact d3
  · exact d4
  · exact d5
theorem nm5_lt {l : List Nat} (h : nmOK l) : nm5 l < 1000000000 := by
  unfold nm5
  have g := fun j => (nm_get h j).1
  have := g 0; have := g 1; have := g 2; have := g 3; have := g 4; have := g 5
  omega
theorem nmL_get {T : Nat → Nat} {a e j : Nat} : (nmL T a e).getD j 0 = if j < e - a then T (a + j) - 96 else 0 := by
  unfold nmL
  rw [List.getD_eq_getElem?_getD, List.getElem?_map]
  by_cases c : j < e - a
  · rw [List.getElem?_range c, if_pos c]; rfl
  · rw [List.getElem?_eq_none (by simpa using c), if_neg c]; rfl
theorem nmL_ok {T : Nat → Nat} {a e : Nat} (h1 : a < e) (h2 : e ≤ a + 6) (hw : ∀ j, a ≤ j → j < e → isLb (T j) = true) : nmOK (nmL T a e) := by
  refine ⟨?_, ?_, ?_⟩
  · unfold nmL; rw [List.length_map, List.length_range]; omega
  · unfold nmL; rw [List.length_map, List.length_range]; omega
  · intro x hx
    unfold nmL at hx
    obtain ⟨j, hj, rfl⟩ := List.mem_map.mp hx
    have := isLb_r (hw (a + j) (by omega) (by have := List.mem_range.mp hj; omega))
    omega
def nmP (T : Nat → Nat) (a e : Nat) : Nat → Nat
  | 0 => 0
  | m + 1 => nmP T a e m * 32 + (if a + m < e then T (a + m) - 96 else 0)
theorem nmP_6 {T : Nat → Nat} {a e : Nat} : nmP T a e 6 = nm5 (nmL T a e) := by
  unfold nm5
  simp only [nmL_get]
  have h : ∀ j, (if a + j < e then T (a + j) - 96 else 0) = (if j < e - a then T (a + j) - 96 else 0) := by
    intro j
    by_cases c : j < e - a
    · rw [if_pos c, if_pos (by omega)]
    · rw [if_neg c, if_neg (by omega)]
  simp only [nmP, h]
  omega
theorem nmP_lt {T : Nat → Nat} {a e : Nat} (hw : ∀ j, a ≤ j → j < e → isLb (T j) = true) : ∀ m, nmP T a e m < 32 ^ m := by
  intro m
  induction m with
  | zero => exact Nat.one_pos
  | succ m ih =>
    show nmP T a e m * 32 + (if a + m < e then T (a + m) - 96 else 0) < 32 ^ (m + 1)
    rw [Nat.pow_succ]
    by_cases c : a + m < e
    · have := isLb_r (hw (a + m) (by omega) c)
      rw [if_pos c]; omega
    · rw [if_neg c]; omega
section gNa
variable {X : Nat × (Nat → Int32)} {J : Nat → Nat → Int64} {v : Vt} {T : Nat → Nat} {n : Nat} {I : Nat → Nat → Int32}
theorem c_nameL {K : Int32 → gH → Option (Int32 × gH)} {a e : Nat} (h : cX I v T n) (h5 : I 53 5 = iZ (a : Int)) (h6 : I 53 6 = iZ (e : Int)) (hen : e ≤ n) (ha : a ≤ e) (hw : ∀ j, a ≤ j → j < e → isLb (T j) = true) : ∀ (k m fuel : Nat), m + k = 6 → k < fuel → gX6_name_L69 K 53 fuel (iZ (nmP T a e m : Nat)) (iZ ((a + m : Nat) : Int)) (mkS X I J v) = K (iZ (nm5 (nmL T a e) : Nat)) (mkS X I J v) := by
  obtain ⟨hT, h3, hv⟩ := h
  have hn := hT.1
  intro k
  induction k with
  | zero =>
    intro m fuel hm hf
    obtain ⟨f, rfl⟩ : ∃ n, fuel = n + 1 := ⟨fuel - 1, by omega⟩
    unfold gX6_name_L69
    simp only [bO, o53, h5, aL]
    rw [if_neg (by rw [iZ_lt (by omega) (by omega) (by omega) (by omega)]; omega), show m = 6 by omega, nmP_6]
  | succ k ih =>
    intro m fuel hm hf
    obtain ⟨f, rfl⟩ : ∃ n, fuel = n + 1 := ⟨fuel - 1, by omega⟩
    have hb := nmP_lt (T := T) (a := a) (e := e) hw m
    have hb2 : nmP T a e m < 33554432 + 1 := Nat.lt_of_lt_of_le hb (Nat.le_trans (Nat.pow_le_pow_right (by decide) (show m ≤ 5 by omega)) (by decide))
    unfold gX6_name_L69
    simp only [bO, o53, o53R, h5, h6, h3, aL]
    rw [if_pos (by rw [iZ_lt (by omega) (by omega) (by omega) (by omega)]; omega)]
    have e1 : ((a + m : Nat) : Int) + 1 = ((a + (m + 1) : Nat) : Int) := by omega
    have es : nmP T a e (m + 1) = nmP T a e m * 32 + (if a + m < e then T (a + m) - 96 else 0) := rfl
    rw [e1]
    by_cases c : a + m < e
    · rw [if_pos (by rw [iZ_lt (by omega) (by omega) (by omega) (by omega)]; omega), if_pos (by rw [iZ_lt (by omega) (by omega) (by omega) (by omega)]; omega), c_tx hT hv (by omega)]
      simp only [bO]
      have hl := isLb_r (hw (a + m) (by omega) c)
      rw [if_pos c] at es
      rw [sby_lo (by omega), pL, sL, aL, iZ_add, show ((nmP T a e m : Nat) : Int) * 32 + (((T (a + m) : Nat) : Int) - 97 + 1) = ((nmP T a e (m + 1) : Nat) : Int) by omega]
      exact ih (m + 1) f (by omega) (by omega)
    · rw [if_neg (by rw [iZ_lt (by omega) (by omega) (by omega) (by omega)]; omega), pL, aL]
      rw [if_neg c] at es
      rw [show ((nmP T a e m : Nat) : Int) * 32 + 0 = ((nmP T a e (m + 1) : Nat) : Int) by omega]
      exact ih (m + 1) f (by omega) (by omega)
theorem cO_err {r : PS} (hr : cO I T n r) (h : pOk r = false) : ¬ I 53 0 = 0 := by
  cases r with
  | error e =>
    obtain ⟨a, b, c, _⟩ := hr
    rw [a, cL_eq (by omega) (by omega) (by decide)]; omega
  | ok s => cases h
theorem cO_ok {r : PS} (hr : cO I T n r) (h : pOk r = true) : I 53 0 = 0 := by
  cases r with
  | error e => cases h
  | ok s => exact hr.1
theorem c_name {r : PS} (h : cX I v T n) (hr : cO I T n r) : ∃ I' x, fX6_name 53 (mkS X I J v) = some (x, mkS X I' J v) ∧ frK I I' ∧ cO I' T n (pName T n r) ∧ (pOk (pName T n r) = true → x = iZ (nm5 (pNameV T n r) : Nat) ∧ nmOK (pNameV T n r)) := by
  have hn := h.1.1
  unfold fX6_name
  simp only [bO, o53, c_isOwn h hr]
  have bad : ∀ {I' : Nat → Nat → Int32} {r' : PS}, cO I' T n r' → pOk r' = false → (if I' 53 0 = 0 then gX6_name_L69 (fun y19 s20 => gb2 (gcv s20 53 6 (fX6_advance 53 s20)) fun _ s22 => some (y19, s22)) 53 20000 0 (I' 53 5) (mkS X I' J v) else some (0, mkS X I' J v)) = some (0, mkS X I' J v) := fun h1 h2 => if_neg (cO_err h1 h2)
  cases r with
  | error e =>
    rw [hr.2.2.2.2, if_neg (by decide)]
    obtain ⟨I', a1, a2, a3⟩ := c_refuseS (X := X) (J := J) (v := v) (f := 1) (by decide) (by decide) hr
    rw [show (1 : Int32) = iZ ((1 : Nat) : Int) from rfl, a1]
    simp only [bO, o53]
    refine ⟨I', _, bad a3 rfl, a2, a3, fun q => by cases q⟩
  | ok s =>
    have hr0 := hr
    obtain ⟨q1, q2, q3, q4, q5, q6⟩ := hr
    have hk := tkK_lt T n s.1 s.2
    rw [q2]
    unfold pName
    dsimp only
    obtain ⟨I1, a1, a2, a3⟩ := c_refuseS (X := X) (J := J) (v := v) (f := 1) (by decide) (by decide) hr0
    have a1' : fX6_refuse 53 1 (I 53 5) (mkS X I J v) = some ((), mkS X I1 J v) := a1
    by_cases c : tkK T n s.1 s.2 = 1
    · rw [if_pos (by rw [c]; rfl)]
      obtain ⟨t1, t2, t3, t4⟩ := tk1 c
      have hE := tkE_le (T := T) q5
      have hG := tkE_gt (T := T) t1
      have ep : pOw T n (.ok s) = owI T s.1 (tkE T n s.1) := by
        show (if _ then _ else _) = _
        rw [if_pos c]
      rw [ep]
      by_cases c1 : owI T s.1 (tkE T n s.1) = -1
      · rw [if_pos (show tf (owI T s.1 (tkE T n s.1) != -1) = 0 by rw [c1]; rfl), if_pos (show tkK T n s.1 s.2 = 1 ∧ owI T s.1 (tkE T n s.1) = -1 from ⟨c, c1⟩), q3, q4, iZ_sub]
        by_cases c6 : 6 < tkE T n s.1 - s.1
        · rw [if_pos (by rw [cR_lt (by omega) (by omega) (by decide)]; omega), if_pos c6, aL]
          obtain ⟨I2, b1, b2, b3⟩ := c_refuseR (X := X) (J := J) (v := v) (f := 1) (p := s.1 + 6) (by decide) (by decide) hr0
          rw [show (1 : Int32) = iZ ((1 : Nat) : Int) from rfl, show (s.1 : Int) + 6 = ((s.1 + 6 : Nat) : Int) by omega, b1]
          simp only [bO, o53]
          exact ⟨I2, _, bad b3 rfl, b2, b3, fun q => by cases q⟩
        · rw [if_neg (by rw [cR_lt (by omega) (by omega) (by decide)]; omega), if_neg c6, if_pos q1]
          obtain ⟨I2, b1, b2, b3⟩ := c_adv (X := X) (J := J) h hr0
          have hL := c_nameL (X := X) (J := J) (K := fun y19 s20 => gb2 (gcv s20 53 6 (fX6_advance 53 s20)) fun _ s22 => some (y19, s22)) h q3 q4 hE (by omega) (tk1_w c) 6 0 20000 (by decide) (by decide)
          have e0 : gX6_name_L69 (fun y19 s20 => gb2 (gcv s20 53 6 (fX6_advance 53 s20)) fun _ s22 => some (y19, s22)) 53 20000 0 (iZ (s.1 : Int)) (mkS X I J v) = _ := hL
          rw [e0]
          simp only [o53]
          rw [b1]
          exact ⟨I2, _, rfl, b2, b3, fun _ => ⟨rfl, nmL_ok hG (by omega) (tk1_w c)⟩⟩
      · rw [if_neg (show ¬ tf (owI T s.1 (tkE T n s.1) != -1) = 0 by rw [show (owI T s.1 (tkE T n s.1) != -1) = true from by simpa using c1]; decide), if_neg (show ¬ (tkK T n s.1 s.2 = 1 ∧ owI T s.1 (tkE T n s.1) = -1) from fun q => c1 q.2), a1']
        simp only [bO, o53]
        exact ⟨I1, _, bad a3 rfl, a2, a3, fun q => by cases q⟩
    · rw [if_neg (by rw [cL_eq (by omega) (by omega) (by decide)]; omega), if_neg (show ¬ (tkK T n s.1 s.2 = 1 ∧ owI T s.1 (tkE T n s.1) = -1) from fun q => c q.1), a1']
      simp only [bO, o53]
      exact ⟨I1, _, bad a3 rfl, a2, a3, fun q => by cases q⟩
/-- what the draft of a book has of names -/
def cNm (I : Nat → Nat → Int32) (b nR nS : Nat) (nm : Nat → List Nat) : Prop := nR ≤ 6 ∧ nS ≤ 6 ∧ I b 0 = iZ (nR : Int) ∧ I b 1 = iZ (nS : Int) ∧ ∀ w, kn nR nS w → nmOK (nm w) ∧ I (b + 2) w = iZ (nm5 (nm w) : Nat)
theorem cNm_K {b nR nS : Nat} {nm : Nat → List Nat} {I' : Nat → Nat → Int32} (hb : isBk b) (h : cNm I b nR nS nm) (f : frK I I') : cNm I' b nR nS nm := by
  have := bk_r hb
  obtain ⟨h1, h2, h3, h4, h5⟩ := h
  exact ⟨h1, h2, by rw [f.1 b 0 (by omega)]; exact h3, by rw [f.1 b 1 (by omega)]; exact h4, fun w hw => ⟨(h5 w hw).1, by rw [f.1 (b + 2) w (by omega)]; exact (h5 w hw).2⟩⟩
theorem c_findL {b nR nS : Nat} {x : Int32} (hb : isBk b) (hR : nR ≤ 6) (hS : nS ≤ 6) (h0 : I b 0 = iZ (nR : Int)) (h1 : I b 1 = iZ (nS : Int)) : ∀ (m w fuel : Nat), w + m = 12 → m < fuel → gX1_find_L2 b x fuel (iZ (w : Int)) (mkS X I J v) = some (iZ (nx (fun w => knb nR nS w && decide (I (b + 2) w = x)) m w), mkS X I J v) := by
  intro m
  induction m with
  | zero =>
    intro w fuel hw hf
    obtain ⟨f, rfl⟩ : ∃ n, fuel = n + 1 := ⟨fuel - 1, by omega⟩
    unfold gX1_find_L2
    simp only [bO, bk_r4 hb, bk_n2 hb]
    rw [if_neg (by rw [iZ_lt (by omega) (by omega) (by decide) (by decide)]; omega)]
    rfl
  | succ m ih =>
    intro w fuel hw hf
    obtain ⟨f, rfl⟩ : ∃ n, fuel = n + 1 := ⟨fuel - 1, by omega⟩
    unfold gX1_find_L2
    simp only [bO, bk_r4 hb, bk_n2 hb, bk_c hb]
    rw [if_pos (by rw [iZ_lt (by omega) (by omega) (by decide) (by decide)]; omega), c_isWhat hb h0 h1 hR hS (by omega) (by omega), gb2_some]
    simp only [bO, bk_r4 hb]
    rw [bk_a2 hb I J (by omega), show iZ (w : Int) + 1 = iZ ((w + 1 : Nat) : Int) from by rw [aL]; rfl, ih (w + 1) f (by omega) (by omega)]
    simp only [bO]
    show _ = some (iZ (if (knb nR nS w && decide (I (b + 2) w = x)) = true then (w : Int) else nx (fun w => knb nR nS w && decide (I (b + 2) w = x)) m (w + 1)), mkS X I J v)
    have ek : decide ((0 ≤ (w : Int) ∧ (w : Int) < (nR : Int)) ∨ (6 ≤ (w : Int) ∧ (w : Int) < 6 + (nS : Int))) = knb nR nS w := by
      apply Bool.eq_iff_iff.mpr
      rw [decide_eq_true_eq, knb_iff]
      unfold kn; omega
    rw [ek]
    cases knb nR nS w with
    | false => rfl
    | true =>
      rw [if_neg (by decide), Bool.true_and]
      by_cases q : I (b + 2) w = x
      · rw [if_pos q, if_pos (by simpa using q)]
      · rw [if_neg q, if_neg (by simpa using q)]
theorem c_find {b nR nS : Nat} {x : Int32} (hb : isBk b) (hR : nR ≤ 6) (hS : nS ≤ 6) (h0 : I b 0 = iZ (nR : Int)) (h1 : I b 1 = iZ (nS : Int)) : fX1_find b x (mkS X I J v) = some (iZ (nx (fun w => knb nR nS w && decide (I (b + 2) w = x)) 12 0), mkS X I J v) := c_findL hb hR hS h0 h1 12 0 20000 (by decide) (by decide)
theorem find_eq {b nR nS : Nat} {nm : Nat → List Nat} {l : List Nat} (h : cNm I b nR nS nm) (hl : nmOK l) : nx (fun w => knb nR nS w && decide (I (b + 2) w = iZ (nm5 l : Nat))) 12 0 = pFind nR nS nm l := by
  unfold pFind
  apply nx_congr
  intro w _ _
  cases q : knb nR nS w
  · rfl
  · obtain ⟨a, c⟩ := h.2.2.2.2 w (knb_iff.mp q)
    rw [Bool.true_and, Bool.true_and, c]
    apply Bool.eq_iff_iff.mpr
    have := nm5_lt a
    have := nm5_lt hl
    rw [decide_eq_true_eq, beq_iff_eq, iZ_eq (by omega) (by omega) (by omega) (by omega)]
    constructor
    · intro e; exact nm5_inj a hl (by omega)
    · intro e; rw [e]
def pNew (T : Nat → Nat) (n nR nS : Nat) (nm : Nat → List Nat) (r : PS) : PS := if pOk (pName T n r) = true ∧ pFind nR nS nm (pNameV T n r) ≠ -1 then .error (3, pAt r) else pName T n r
def pKnown (T : Nat → Nat) (n nR nS : Nat) (nm : Nat → List Nat) (r : PS) : PS := if pOk (pName T n r) = true ∧ pFind nR nS nm (pNameV T n r) = -1 then .error (3, pAt r) else pName T n r
theorem pName_ok {r : PS} (h : pOk (pName T n r) = true) : pOk r = true := by
  cases r with
  | error e => cases h
  | ok s => rfl
theorem pFail_ok {r : PS} {f p : Nat} (h : pOk r = true) : pFail f p r = .error (f, p) := by
  cases r with
  | error e => cases h
  | ok s => rfl
theorem pFail_er {r : PS} {f p : Nat} (h : pOk r = false) : pFail f p r = r := by
  cases r with
  | error e => rfl
  | ok s => cases h
theorem refuse_er {r : PS} {x y : Int32} (hr : cO I T n r) (h : pOk r = false) : ∃ I', fX6_refuse 53 x y (mkS X I J v) = some ((), mkS X I' J v) ∧ frK I I' ∧ cO I' T n r := by
  cases r with
  | ok s => cases h
  | error e =>
    obtain ⟨q1, q2, q3, q4, q5⟩ := hr
    unfold fX6_refuse
    simp only [bO, o53]
    rw [q1, if_neg (by rw [cL_eq (by omega) (by omega) (by decide)]; omega)]
    refine ⟨_, rfl, frK_g (by decide), ?_⟩
    exact ⟨by rw [gup_k (by decide)]; exact q1, q2, q3, by rw [gup_k (by decide)]; exact q4, gup_s⟩
theorem c_newName {r : PS} {b nR nS : Nat} {nm : Nat → List Nat} (hb : isBk b) (hv : v.2.2.2.1 = b) (h : cX I v T n) (hr : cO I T n r) (hN : cNm I b nR nS nm) : ∃ I' x, fX6_newName 53 (mkS X I J v) = some (x, mkS X I' J v) ∧ frK I I' ∧ cO I' T n (pNew T n nR nS nm r) ∧ (pOk (pNew T n nR nS nm r) = true → x = iZ (nm5 (pNameV T n r) : Nat) ∧ nmOK (pNameV T n r)) := by
  obtain ⟨I1, x, a1, a2, a3, a4⟩ := c_name (X := X) (J := J) h hr
  have hN1 := cNm_K hb hN a2
  unfold fX6_newName
  simp only [bO, o53, a1]
  simp only [bO, o53, o53R, hv, bk_c hb, c_find hb hN1.1 hN1.2.1 hN1.2.2.1 hN1.2.2.2.1]
  unfold pNew
  have hnr : ∀ P : Nat → Bool, -1 ≤ nx P 12 0 ∧ nx P 12 0 < 12 := fun P => by rcases nx_cases P 12 0 with ⟨h, _⟩ | ⟨k, h1, h2, h3, _⟩ <;> omega
  have hnr1 := hnr (fun w => knb nR nS w && decide (I1 (b + 2) w = x))
  cases hok : pOk (pName T n r) with
  | true =>
    obtain ⟨p1, p2⟩ := a4 hok
    rw [p1, find_eq hN1 p2]
    have hf := pFind_r nR nS nm (pNameV T n r)
    by_cases c : pFind nR nS nm (pNameV T n r) = -1
    · rw [if_pos (by rw [c]; rfl), if_neg (fun q => q.2 c)]
      exact ⟨I1, _, rfl, a2, a3, fun _ => ⟨rfl, p2⟩⟩
    · rw [if_neg (by rw [cM_eq (by omega) (by omega)]; exact c), if_pos ⟨rfl, c⟩, cO_st hr (pName_ok hok)]
      obtain ⟨I2, b1, b2, b3⟩ := c_refuseR (X := X) (J := J) (v := v) (f := 3) (p := pAt r) (by decide) (by decide) a3
      rw [show (3 : Int32) = iZ ((3 : Nat) : Int) from rfl, b1]
      rw [pFail_ok hok] at b3
      exact ⟨I2, _, rfl, frK_t a2 b2, b3, fun q => by cases q⟩
  | false =>
    rw [if_neg (show ¬ (false = true ∧ _) from fun q => by cases q.1)]
    by_cases c : iZ (nx (fun w => knb nR nS w && decide (I1 (b + 2) w = x)) 12 0) = -1
    · rw [if_pos c]
      exact ⟨I1, _, rfl, a2, a3, fun q => by rw [hok] at q; cases q⟩
    · rw [if_neg c]
      obtain ⟨I2, b1, b2, b3⟩ := refuse_er (X := X) (J := J) (v := v) (x := 3) (y := I 53 5) a3 hok
      rw [b1]
      exact ⟨I2, _, rfl, frK_t a2 b2, b3, fun q => by rw [hok] at q; cases q⟩
theorem c_knownName {r : PS} {b nR nS : Nat} {nm : Nat → List Nat} (hb : isBk b) (hv : v.2.2.2.1 = b) (h : cX I v T n) (hr : cO I T n r) (hN : cNm I b nR nS nm) : ∃ I' x, fX6_knownName 53 (mkS X I J v) = some (iZ (x : Int), mkS X I' J v) ∧ x < 12 ∧ frK I I' ∧ cO I' T n (pKnown T n nR nS nm r) ∧ (pOk (pKnown T n nR nS nm r) = true → (x : Int) = pFind nR nS nm (pNameV T n r)) := by
  obtain ⟨I1, x, a1, a2, a3, a4⟩ := c_name (X := X) (J := J) h hr
  have hN1 := cNm_K hb hN a2
  unfold fX6_knownName
  simp only [bO, o53, a1]
  simp only [bO, o53, o53R, hv, bk_c hb, c_find hb hN1.1 hN1.2.1 hN1.2.2.1 hN1.2.2.2.1]
  unfold pKnown
  have hnr : ∀ P : Nat → Bool, -1 ≤ nx P 12 0 ∧ nx P 12 0 < 12 := fun P => by rcases nx_cases P 12 0 with ⟨h, _⟩ | ⟨k, h1, h2, h3, _⟩ <;> omega
  have hmx : ∀ z : Int, -1 ≤ z → z < 12 → gmax 0 (iZ z) = iZ ((z.toNat : Nat) : Int) := by
    intro z h1 h2
    rw [show (0 : Int32) = iZ 0 from rfl, gmax_Z (by decide) (by decide) (by omega) (by omega)]
    congr 1; omega
  have hnr1 := hnr (fun w => knb nR nS w && decide (I1 (b + 2) w = x))
  rw [hmx _ hnr1.1 hnr1.2]
  cases hok : pOk (pName T n r) with
  | true =>
    obtain ⟨p1, p2⟩ := a4 hok
    rw [p1, find_eq hN1 p2]
    have hf := pFind_r nR nS nm (pNameV T n r)
    by_cases c : pFind nR nS nm (pNameV T n r) = -1
    · rw [if_pos (by rw [c]; rfl), if_pos ⟨rfl, c⟩, cO_st hr (pName_ok hok)]
      obtain ⟨I2, b1, b2, b3⟩ := c_refuseR (X := X) (J := J) (v := v) (f := 3) (p := pAt r) (by decide) (by decide) a3
      rw [show (3 : Int32) = iZ ((3 : Nat) : Int) from rfl, b1]
      rw [pFail_ok hok] at b3
      refine ⟨I2, _, rfl, ?_, frK_t a2 b2, b3, fun q => by cases q⟩
      omega
    · rw [if_neg (by rw [cM_eq (by omega) (by omega)]; exact c), if_neg (fun q => c q.2)]
      refine ⟨I1, _, rfl, ?_, a2, a3, fun _ => ?_⟩
      · omega
      · omega
  | false =>
    rw [if_neg (show ¬ (false = true ∧ _) from fun q => by cases q.1)]
    by_cases c : iZ (nx (fun w => knb nR nS w && decide (I1 (b + 2) w = x)) 12 0) = -1
    · rw [if_pos c]
      obtain ⟨I2, b1, b2, b3⟩ := refuse_er (X := X) (J := J) (v := v) (x := 3) (y := I 53 5) a3 hok
      rw [b1]
      refine ⟨I2, _, rfl, ?_, frK_t a2 b2, b3, fun q => by rw [hok] at q; cases q⟩
      omega
    · rw [if_neg c]
      refine ⟨I1, _, rfl, ?_, a2, a3, fun q => by rw [hok] at q; cases q⟩
      omega
end gNa
