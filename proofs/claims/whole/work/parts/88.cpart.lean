/-! PARTS of a rule, as the reader lays them down -/
abbrev PD : Type := Int32 × List Int × List Int × List Int × Int × Int
def PD.mk (P : PD) : Int32 := P.1
def PD.on (P : PD) : List Int := P.2.1
def PD.by_ (P : PD) : List Int := P.2.2.1
def PD.at_ (P : PD) : List Int := P.2.2.2.1
def PD.un (P : PD) : Int := P.2.2.2.2.1
def PD.ct (P : PD) : Int := P.2.2.2.2.2
def mkI (g : Nat → Int32) (m0 : Int32) : Nat → Int32
  | 0 => m0
  | k + 1 => mkI g m0 k ||| (1 <<< (g k &&& 31))
theorem mkI_congr {g g' : Nat → Int32} {m0 : Int32} : ∀ {k : Nat}, (∀ j, j < k → g j = g' j) → mkI g m0 k = mkI g' m0 k := by
  intro k
  induction k with
  | zero => intro _; rfl
  | succ k ih =>
    intro h
    show mkI g m0 k ||| _ = mkI g' m0 k ||| _
    rw [ih (fun j hj => h j (by omega)), h k (by omega)]
def rwq (I : Nat → Nat → Int32) (r : Nat) (l : List Int) : Prop := I r 1 = iZ (l.length : Int) ∧ ∀ k, k < l.length → I (r + 1) k = iZ (l.getD k 0)
def cPd (I : Nat → Nat → Int32) (q : Nat) (P : PD) : Prop := I q 6 = iZ P.un ∧ I q 7 = iZ P.ct ∧ I q 8 = P.mk ∧ (∀ k, 1 ≤ k → k < 32 → (ib (I q 9) k = true ↔ (k : Int) ∈ P.on)) ∧ (∀ k, 1 ≤ k → k < 32 → (ib (I q 10) k = true ↔ -(k : Int) ∈ P.on)) ∧ (∀ k, k < 7 → (ib (I q 11) k = true ↔ ∃ y, y ∈ P.by_ ∧ y % 8 = (k : Int))) ∧ I q 12 = iZ (P.on.length : Int) ∧ rwq I (q + 1) P.by_ ∧ rwq I (q + 3) P.at_
def PDok (P : PD) : Prop := P.on.length ≤ 8 ∧ (∀ y, y ∈ P.on → memR 1 y) ∧ P.by_.length ≤ 8 ∧ (∀ y, y ∈ P.by_ → memR 2 y) ∧ P.at_.length ≤ 8 ∧ (∀ y, y ∈ P.at_ → memR 3 y) ∧ (P.un = -1 ∨ (0 ≤ P.un ∧ P.un < 14610)) ∧ (P.ct = -1 ∨ (1 ≤ P.ct ∧ P.ct ≤ 999))
/-- what one part says -/
def pPart (T : Nat → Nat) (n part : Nat) (u : Int) (P : PD) (r : PS) : PD × PS :=
  if part = 4 then ((P.mk, P.on, P.by_, P.at_, (pDateV T n r : Nat), P.ct), pDate T n r)
  else if part = 5 then ((P.mk, P.on, P.by_, P.at_, P.un, (pNumV T n r : Nat)), pNum T n 1 999 r)
  else
    ((if part = 0 then (mkI (fun k => iZ ((pRow T n (pMem T n part u) (pMemV T n part u) 8 [] r).1.getD k 0)) P.mk (pRow T n (pMem T n part u) (pMemV T n part u) 8 [] r).1.length, P.on, P.by_, P.at_, P.un, P.ct)
      else if part = 1 then (P.mk, (pRow T n (pMem T n part u) (pMemV T n part u) 8 [] r).1, P.by_, P.at_, P.un, P.ct)
      else if part = 2 then (P.mk, P.on, (pRow T n (pMem T n part u) (pMemV T n part u) 8 [] r).1, P.at_, P.un, P.ct)
      else (P.mk, P.on, P.by_, (pRow T n (pMem T n part u) (pMemV T n part u) 8 [] r).1, P.un, P.ct)), (pRow T n (pMem T n part u) (pMemV T n part u) 8 [] r).2)
def frQ (q : Nat) (I I' : Nat → Nat → Int32) : Prop := (∀ r k, r ≠ 53 → r ≠ 55 → r ≠ 56 → ¬ (q ≤ r ∧ r ≤ q + 4) → I' r k = I r k) ∧ I' 53 3 = I 53 3
theorem frQ_r (q : Nat) (I : Nat → Nat → Int32) : frQ q I I := ⟨fun _ _ _ _ _ _ => rfl, rfl⟩
theorem frQ_t {q : Nat} {I I' I'' : Nat → Nat → Int32} (h1 : frQ q I I') (h2 : frQ q I' I'') : frQ q I I'' := ⟨fun r k a b c d => (h2.1 r k a b c d).trans (h1.1 r k a b c d), h2.2.trans h1.2⟩
theorem frQ_W {q : Nat} {I I' : Nat → Nat → Int32} (h : frW I I') : frQ q I I' := ⟨fun r k a b c _ => h.1 r k a b c, h.2⟩
theorem frQ_K {q : Nat} {I I' : Nat → Nat → Int32} (h : frK I I') : frQ q I I' := frQ_W (frW_K h)
section gPa
variable {X : Nat × (Nat → Int32)} {J : Nat → Nat → Int64} {v : Vt} {T : Nat → Nat} {n q : Nat}
theorem frQ_g {I : Nat → Nat → Int32} {j k : Nat} {x : Int32} (hq : isRule q) (hj : j ≤ 4) : frQ q I (gup I (q + j) k x) := by
  have := (rule_all hq).2.2.2.2.2.1
  exact ⟨fun r k a b c d => gup_r (by omega), gup_r (by omega)⟩
theorem cX_Q {I I' : Nat → Nat → Int32} (hq : isRule q) (h : cX I v T n) (f : frQ q I I') : cX I' v T n := by
  have := (rule_all hq).2.2.2.2.2.1
  exact ⟨⟨h.1.1, fun k hk => by rw [f.1 52 k (by decide) (by decide) (by decide) (by omega)]; exact h.1.2 k hk⟩, by rw [f.2]; exact h.2.1, h.2.2⟩
theorem c_copyL {r m : Nat} (hr : isRow r) (hc : rowCap r = 8) (h1 : 60 < r) (hm : m ≤ 8) : ∀ (j i fuel : Nat) (I : Nat → Nat → Int32), i + j = m → j < fuel → I 55 1 = iZ (m : Int) → I r 1 = iZ (i : Int) → ∃ I', gX7_copy_L7 r 55 fuel (iZ (i : Int)) (mkS X I J v) = some ((), mkS X I' J v) ∧ (∀ a k, a ≠ r → a ≠ r + 1 → I' a k = I a k) ∧ I' r 1 = iZ (m : Int) ∧ (∀ k, k < i → I' (r + 1) k = I (r + 1) k) ∧ (∀ k, i ≤ k → k < m → I' (r + 1) k = I 56 k) := by
  intro j
  induction j with
  | zero =>
    intro i fuel I hi hf h55 hI
    obtain ⟨f, rfl⟩ : ∃ n, fuel = n + 1 := ⟨fuel - 1, by omega⟩
    have : i = m := by omega
    subst this
    refine ⟨I, ?_, fun _ _ _ _ => rfl, hI, fun _ _ => rfl, fun k a b => by omega⟩
    unfold gX7_copy_L7
    simp only [bO, row_i isRow55, h55]
    rw [if_neg (by rw [iZ_lt (by omega) (by omega) (by omega) (by omega)]; omega)]
  | succ j ih =>
    intro i fuel I hi hf h55 hI
    obtain ⟨f, rfl⟩ : ∃ n, fuel = n + 1 := ⟨fuel - 1, by omega⟩
    unfold gX7_copy_L7
    simp only [bO, row_i isRow55, h55, row_c isRow55]
    rw [if_pos (by rw [iZ_lt (by omega) (by omega) (by omega) (by omega)]; omega), row_value isRow55 h55 (by rw [show rowCap 55 = 8 from rfl]; omega) (by omega)]
    simp only [bO, row_c hr]
    rw [row_append hr hI (by omega), gb2_some, hc, if_pos (by omega), aL, show (i : Int) + 1 = ((i + 1 : Nat) : Int) by omega]
    obtain ⟨I', a1, a2, a3, a4, a5⟩ := ih (i + 1) f (gup (gup I (r + 1) i (I (55 + 1) i)) r 1 (iZ ((i + 1 : Nat) : Int))) (by omega) (by omega) (by rw [gup_r (by omega), gup_r (by omega)]; exact h55) gup_s
    refine ⟨I', a1, fun a k x y => ?_, a3, fun k hk => ?_, fun k x y => ?_⟩
    · rw [a2 a k x y, gup_r x, gup_r y]
    · rw [a4 k (by omega), gup_r (by omega), gup_k (by omega)]
    · by_cases z : k = i
      · rw [z, a4 i (by omega), gup_r (by omega), gup_s]
      · rw [a5 k (by omega) y, gup_r (by omega), gup_r (by omega)]
theorem c_copy {r m : Nat} {I : Nat → Nat → Int32} (hr : isRow r) (hc : rowCap r = 8) (h1 : 60 < r) (hm : m ≤ 8) (h55 : I 55 1 = iZ (m : Int)) : ∃ I', fX7_copy r 55 (mkS X I J v) = some ((), mkS X I' J v) ∧ (∀ a k, a ≠ r → a ≠ r + 1 → I' a k = I a k) ∧ I' r 1 = iZ (m : Int) ∧ (∀ k, k < m → I' (r + 1) k = I 56 k) := by
  unfold fX7_copy
  simp only [bO, row_p hr]
  obtain ⟨I', a1, a2, a3, a4, a5⟩ := c_copyL (X := X) (J := J) (v := v) hr hc h1 hm m 0 20000 (gup I r 1 0) (by omega) (by omega) (by rw [gup_r (by omega)]; exact h55) gup_s
  refine ⟨I', a1, fun a k x y => by rw [a2 a k x y, gup_r x], a3, fun k hk => ?_⟩
  rw [a5 k (Nat.zero_le k) hk, gup_r (by omega)]
theorem c_tellMonths {m : Nat} (hq : isRule q) (hm : m ≤ 8) : ∀ (j i fuel : Nat) (I : Nat → Nat → Int32), i + j = m → j < fuel → I 55 1 = iZ (m : Int) → ∃ x, gX8_tellMonths_L2 q 55 fuel (iZ (i : Int)) (mkS X I J v) = some ((), mkS X (gup I q 8 x) J v) ∧ ∀ m0, I q 8 = mkI (I 56) m0 i → x = mkI (I 56) m0 m := by
  have hq2 := (rule_all hq).2.2.2.2.2.1
  intro j
  induction j with
  | zero =>
    intro i fuel I hi hf h55
    obtain ⟨f, rfl⟩ : ∃ n, fuel = n + 1 := ⟨fuel - 1, by omega⟩
    have : i = m := by omega
    subst this
    refine ⟨I q 8, ?_, fun m0 h => h⟩
    unfold gX8_tellMonths_L2
    simp only [bO, row_i isRow55, h55]
    rw [if_neg (by rw [iZ_lt (by omega) (by omega) (by omega) (by omega)]; omega), gup_id rfl]
  | succ j ih =>
    intro i fuel I hi hf h55
    obtain ⟨f, rfl⟩ : ∃ n, fuel = n + 1 := ⟨fuel - 1, by omega⟩
    unfold gX8_tellMonths_L2
    simp only [bO, row_i isRow55, h55, row_c isRow55, rl_i hq]
    rw [if_pos (by rw [iZ_lt (by omega) (by omega) (by omega) (by omega)]; omega), row_value isRow55 h55 (by rw [show rowCap 55 = 8 from rfl]; omega) (by omega)]
    simp only [bO, rl_p hq, aL]
    rw [show (i : Int) + 1 = ((i + 1 : Nat) : Int) by omega]
    obtain ⟨x, a1, a2⟩ := ih (i + 1) f (gup I q 8 (I q 8 ||| (1 <<< (I (55 + 1) i &&& 31)))) (by omega) (by omega) (by rw [gup_r (by omega)]; exact h55)
    rw [gup_gup] at a1
    refine ⟨x, a1, fun m0 h => ?_⟩
    have e56 : gup I q 8 (I q 8 ||| (1 <<< (I (55 + 1) i &&& 31))) 56 = I 56 := funext fun k => gup_r (by omega)
    rw [e56] at a2
    apply a2
    rw [gup_s, h]; rfl
/-- the bits of dates -/
theorem c_tellDates {m : Nat} (hq : isRule q) (hm : m ≤ 8) : ∀ (j i fuel : Nat) (I : Nat → Nat → Int32), i + j = m → j < fuel → I 55 1 = iZ (m : Int) → ∃ x y, gX8_tellDates_L10 q 55 fuel (iZ (i : Int)) (mkS X I J v) = some ((), mkS X (gup (gup I q 9 x) q 10 y) J v) ∧ ∀ l : List Int, l.length = m → (∀ k, k < m → I 56 k = iZ (l.getD k 0)) → (∀ z, z ∈ l → memR 1 z) → ∀ k, 1 ≤ k → k < 32 → ((ib x k = true ↔ ib (I q 9) k = true ∨ ∃ p, i ≤ p ∧ p < m ∧ l.getD p 0 = (k : Int)) ∧ (ib y k = true ↔ ib (I q 10) k = true ∨ ∃ p, i ≤ p ∧ p < m ∧ l.getD p 0 = -(k : Int))) := by
  have hq2 := (rule_all hq).2.2.2.2.2.1
  intro j
  induction j with
  | zero =>
    intro i fuel I hi hf h55
    obtain ⟨f, rfl⟩ : ∃ n, fuel = n + 1 := ⟨fuel - 1, by omega⟩
    have : i = m := by omega
    subst this
    refine ⟨I q 9, I q 10, ?_, fun l _ _ _ k _ _ => ⟨⟨Or.inl, fun h => h.elim id (fun ⟨p, a, b, _⟩ => by omega)⟩, ⟨Or.inl, fun h => h.elim id (fun ⟨p, a, b, _⟩ => by omega)⟩⟩⟩
    unfold gX8_tellDates_L10
    simp only [bO, row_i isRow55, h55]
    rw [if_neg (by rw [iZ_lt (by omega) (by omega) (by omega) (by omega)]; omega), gup_id (I := I) rfl, gup_id rfl]
  | succ j ih =>
    intro i fuel I hi hf h55
    obtain ⟨f, rfl⟩ : ∃ n, fuel = n + 1 := ⟨fuel - 1, by omega⟩
    unfold gX8_tellDates_L10
    simp only [bO, row_i isRow55, h55, row_c isRow55, rl_i hq]
    rw [if_pos (by rw [iZ_lt (by omega) (by omega) (by omega) (by omega)]; omega), row_value isRow55 h55 (by rw [show rowCap 55 = 8 from rfl]; omega) (by omega)]
    simp only [bO, rl_i hq, rl_p hq, aL]
    rw [show (i : Int) + 1 = ((i + 1 : Nat) : Int) by omega]
    by_cases c : 0 < I (55 + 1) i
    · rw [if_pos c]
      obtain ⟨x, y, a1, a2⟩ := ih (i + 1) f (gup I q 9 (I q 9 ||| (1 <<< (I (55 + 1) i &&& 31)))) (by omega) (by omega) (by rw [gup_r (by omega)]; exact h55)
      rw [gup_gup] at a1
      refine ⟨x, y, a1, fun l l1 l2 l3 k k1 k2 => ?_⟩
      have := a2 l l1 (fun p hp => by rw [gup_r (by omega)]; exact l2 p hp) l3 k k1 k2
      rw [gup_s, gup_k (show (10 : Nat) ≠ 9 by decide)] at this
      have hz := l3 _ (mem_get.mpr ⟨i, by omega, rfl⟩)
      unfold memR at hz
      rw [if_neg (by decide), if_pos rfl] at hz
      have hI : I (55 + 1) i = iZ (l.getD i 0) := l2 i (by omega)
      rw [hI, cR_lt (by omega) (by omega) (by decide)] at c
      obtain ⟨w, hw⟩ : ∃ w : Nat, l.getD i 0 = (w : Int) := ⟨(l.getD i 0).toNat, by omega⟩
      rw [hI, hw, ib_or (by omega) k2, Bool.or_eq_true, decide_eq_true_eq] at this
      constructor
      · rw [this.1]
        constructor
        · rintro ((z | z) | ⟨p, p1, p2, p3⟩)
          · exact Or.inl z
          · exact Or.inr ⟨i, by omega, by omega, by omega⟩
          · exact Or.inr ⟨p, by omega, p2, p3⟩
        · rintro (z | ⟨p, p1, p2, p3⟩)
          · exact Or.inl (Or.inl z)
          · by_cases e : p = i
            · rw [e] at p3
              exact Or.inl (Or.inr (by omega))
            · exact Or.inr ⟨p, by omega, p2, p3⟩
      · rw [this.2]
        constructor
        · rintro (z | ⟨p, p1, p2, p3⟩)
          · exact Or.inl z
          · exact Or.inr ⟨p, by omega, p2, p3⟩
        · rintro (z | ⟨p, p1, p2, p3⟩)
          · exact Or.inl z
          · by_cases e : p = i
            · rw [e] at p3; omega
            · exact Or.inr ⟨p, by omega, p2, p3⟩
    · rw [if_neg c]
      obtain ⟨x, y, a1, a2⟩ := ih (i + 1) f (gup I q 10 (I q 10 ||| (1 <<< ((-I (55 + 1) i) &&& 31)))) (by omega) (by omega) (by rw [gup_r (by omega)]; exact h55)
      have eg : gup (gup (gup I q 10 (I q 10 ||| (1 <<< ((-I (55 + 1) i) &&& 31)))) q 9 x) q 10 y = gup (gup I q 9 x) q 10 y := by
        funext a b
        unfold gup
        split
        · rfl
        · next h1 =>
          split
          · rfl
          · rfl
      rw [eg] at a1
      refine ⟨x, y, a1, fun l l1 l2 l3 k k1 k2 => ?_⟩
      have := a2 l l1 (fun p hp => by rw [gup_r (by omega)]; exact l2 p hp) l3 k k1 k2
      rw [gup_s, gup_k (show (9 : Nat) ≠ 10 by decide)] at this
      have hz := l3 _ (mem_get.mpr ⟨i, by omega, rfl⟩)
      unfold memR at hz
      rw [if_neg (by decide), if_pos rfl] at hz
      have hI : I (55 + 1) i = iZ (l.getD i 0) := l2 i (by omega)
      rw [hI, cR_lt (by omega) (by omega) (by decide)] at c
      obtain ⟨w, hw⟩ : ∃ w : Nat, l.getD i 0 = -(w : Int) := ⟨(-(l.getD i 0)).toNat, by omega⟩
      rw [hI, hw, iZ_neg, show - -(w : Int) = (w : Int) by omega, ib_or (by omega) k2, Bool.or_eq_true, decide_eq_true_eq] at this
      constructor
      · rw [this.1]
        constructor
        · rintro (z | ⟨p, p1, p2, p3⟩)
          · exact Or.inl z
          · exact Or.inr ⟨p, by omega, p2, p3⟩
        · rintro (z | ⟨p, p1, p2, p3⟩)
          · exact Or.inl z
          · by_cases e : p = i
            · rw [e] at p3; omega
            · exact Or.inr ⟨p, by omega, p2, p3⟩
      · rw [this.2]
        constructor
        · rintro ((z | z) | ⟨p, p1, p2, p3⟩)
          · exact Or.inl z
          · exact Or.inr ⟨i, by omega, by omega, by omega⟩
          · exact Or.inr ⟨p, by omega, p2, p3⟩
        · rintro (z | ⟨p, p1, p2, p3⟩)
          · exact Or.inl (Or.inl z)
          · by_cases e : p = i
            · rw [e] at p3
              exact Or.inl (Or.inr (by omega))
            · exact Or.inr ⟨p, by omega, p2, p3⟩
theorem c_tellWeek {m : Nat} (hq : isRule q) (hm : m ≤ 8) : ∀ (j i fuel : Nat) (I : Nat → Nat → Int32), i + j = m → j < fuel → I 55 1 = iZ (m : Int) → ∃ x, gX8_tellWeekdays_L10 q 55 fuel (iZ (i : Int)) (mkS X I J v) = some ((), mkS X (gup I q 11 x) J v) ∧ ∀ l : List Int, l.length = m → (∀ k, k < m → I 56 k = iZ (l.getD k 0)) → (∀ z, z ∈ l → memR 2 z) → ∀ k, k < 7 → (ib x k = true ↔ ib (I q 11) k = true ∨ ∃ p, i ≤ p ∧ p < m ∧ l.getD p 0 % 8 = (k : Int)) := by
  have hq2 := (rule_all hq).2.2.2.2.2.1
  intro j
  induction j with
  | zero =>
    intro i fuel I hi hf h55
    obtain ⟨f, rfl⟩ : ∃ n, fuel = n + 1 := ⟨fuel - 1, by omega⟩
    have : i = m := by omega
    subst this
    refine ⟨I q 11, ?_, fun l _ _ _ k _ => ⟨Or.inl, fun h => h.elim id (fun ⟨p, a, b, _⟩ => by omega)⟩⟩
    unfold gX8_tellWeekdays_L10
    simp only [bO, row_i isRow55, h55]
    rw [if_neg (by rw [iZ_lt (by omega) (by omega) (by omega) (by omega)]; omega), gup_id rfl]
  | succ j ih =>
    intro i fuel I hi hf h55
    obtain ⟨f, rfl⟩ : ∃ n, fuel = n + 1 := ⟨fuel - 1, by omega⟩
    unfold gX8_tellWeekdays_L10
    simp only [bO, row_i isRow55, h55, row_c isRow55, rl_i hq]
    rw [if_pos (by rw [iZ_lt (by omega) (by omega) (by omega) (by omega)]; omega), row_value isRow55 h55 (by rw [show rowCap 55 = 8 from rfl]; omega) (by omega)]
    simp only [bO, rl_p hq, aL]
    rw [show (i : Int) + 1 = ((i + 1 : Nat) : Int) by omega]
    obtain ⟨x, a1, a2⟩ := ih (i + 1) f (gup I q 11 (I q 11 ||| (1 <<< ((I (55 + 1) i &&& 7) &&& 31)))) (by omega) (by omega) (by rw [gup_r (by omega)]; exact h55)
    rw [gup_gup] at a1
    refine ⟨x, a1, fun l l1 l2 l3 k k1 => ?_⟩
    have := a2 l l1 (fun p hp => by rw [gup_r (by omega)]; exact l2 p hp) l3 k k1
    rw [gup_s] at this
    have hz := l3 _ (mem_get.mpr ⟨i, by omega, rfl⟩)
    unfold memR at hz
    rw [if_neg (by decide), if_neg (by decide), if_pos rfl] at hz
    have hI : I (55 + 1) i = iZ (l.getD i 0) := l2 i (by omega)
    obtain ⟨w, hw⟩ : ∃ w : Nat, l.getD i 0 % 8 = (w : Int) := ⟨(l.getD i 0 % 8).toNat, by omega⟩
    have em : iZ (l.getD i 0) &&& 7 = iZ (w : Int) := by
      rw [show (7 : Int32) = iZ ((2 : Int) ^ 3 - 1) from rfl, iZ_mask _ 3 (by decide), show ((2 : Int) ^ 3) = 8 from rfl, hw]
    rw [hI, em, ib_or (by omega) (by omega), Bool.or_eq_true, decide_eq_true_eq] at this
    rw [this]
    constructor
    · rintro ((z | z) | ⟨p, p1, p2, p3⟩)
      · exact Or.inl z
      · exact Or.inr ⟨i, by omega, by omega, by omega⟩
      · exact Or.inr ⟨p, by omega, p2, p3⟩
    · rintro (z | ⟨p, p1, p2, p3⟩)
      · exact Or.inl (Or.inl z)
      · by_cases e : p = i
        · rw [e] at p3
          exact Or.inl (Or.inr (by omega))
        · exact Or.inr ⟨p, by omega, p2, p3⟩
end gPa
