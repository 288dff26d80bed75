/-! NUMBERS, NAMES, DATES: what is asked, and the reader -/
def dv (T : Nat → Nat) (a : Nat) : Nat → Nat
  | 0 => 0
  | m + 1 => 10 * dv T a m + (T (a + m) - 48)
def pNum (T : Nat → Nat) (n lo hi : Nat) : PS → PS
  | .error e => .error e
  | .ok s => if tkK T n s.1 s.2 = 2 then (if 4 < tkE T n s.1 - s.1 then .error (1, s.1 + 4) else if dv T s.1 (tkE T n s.1 - s.1) < lo ∨ hi < dv T s.1 (tkE T n s.1 - s.1) then .error (2, s.1) else pAdv T n (.ok s)) else .error (1, s.1)
def pNumV (T : Nat → Nat) (n : Nat) : PS → Nat
  | .error _ => 0
  | .ok s => dv T s.1 (tkE T n s.1 - s.1)
def nmL (T : Nat → Nat) (a e : Nat) : List Nat := (List.range (e - a)).map (fun j => T (a + j) - 96)
def pName (T : Nat → Nat) (n : Nat) : PS → PS
  | .error e => .error e
  | .ok s => if tkK T n s.1 s.2 = 1 ∧ owI T s.1 (tkE T n s.1) = -1 then (if 6 < tkE T n s.1 - s.1 then .error (1, s.1 + 6) else pAdv T n (.ok s)) else .error (1, s.1)
def pNameV (T : Nat → Nat) (n : Nat) : PS → List Nat
  | .error _ => []
  | .ok s => nmL T s.1 (tkE T n s.1)
def knb (nR nS w : Nat) : Bool := decide (w < nR) || (decide (6 ≤ w) && decide (w < 6 + nS))
theorem knb_iff {nR nS w : Nat} : knb nR nS w = true ↔ kn nR nS w := by
  unfold knb kn
  rw [Bool.or_eq_true, Bool.and_eq_true, decide_eq_true_eq, decide_eq_true_eq, decide_eq_true_eq]
/-- the rule or set of a name, as far as told -/
def pFind (nR nS : Nat) (nm : Nat → List Nat) (l : List Nat) : Int := nx (fun w => knb nR nS w && nm w == l) 12 0
theorem pFind_r (nR nS : Nat) (nm : Nat → List Nat) (l : List Nat) : -1 ≤ pFind nR nS nm l ∧ pFind nR nS nm l < 12 := by
  unfold pFind
  rcases nx_cases (fun w => knb nR nS w && nm w == l) 12 0 with ⟨h, _⟩ | ⟨k, h1, h2, h3, _⟩ <;> omega
theorem tk2 {T : Nat → Nat} {n a : Nat} {t : Bool} (h : tkK T n a t = 2) : a < n ∧ isLb (T a) = false ∧ isDb (T a) = true ∧ tkE T n a = rn T n isDb a ∧ t = false := by
  unfold tkK at h
  by_cases c : a < n
  · rw [if_pos c] at h
    cases c2 : isLb (T a)
    · rw [c2, if_neg (by decide)] at h
      by_cases c3 : isDb (T a) = true
      · rw [if_pos c3] at h
        refine ⟨c, rfl, c3, ?_, ?_⟩
        · unfold tkE; rw [if_pos c, c2, if_neg (by decide), if_pos c3]
        · cases t
          · rfl
          · rw [if_pos rfl] at h; omega
      · rw [if_neg c3] at h; omega
    · rw [c2, if_pos rfl] at h
      split at h <;> omega
  · rw [if_neg c] at h; omega
theorem tk2_d {T : Nat → Nat} {n a : Nat} {t : Bool} (h : tkK T n a t = 2) : ∀ j, a ≤ j → j < tkE T n a → isDb (T j) = true := by
  obtain ⟨h1, h2, h3, h4, h5⟩ := tk2 h
  rw [h4]
  exact fun j x y => (rn_in j x y).2
theorem isDb_r {c : Nat} (h : isDb c = true) : 48 ≤ c ∧ c ≤ 57 := by
  unfold isDb at h
  rw [Bool.and_eq_true, decide_eq_true_eq, decide_eq_true_eq] at h; exact h
theorem isLb_r {c : Nat} (h : isLb c = true) : 97 ≤ c ∧ c ≤ 122 := by
  unfold isLb at h
  rw [Bool.and_eq_true, decide_eq_true_eq, decide_eq_true_eq] at h; exact h
theorem dv_le {T : Nat → Nat} {a : Nat} : ∀ {m : Nat}, (∀ j, j < m → T (a + j) ≤ 57) → dv T a m < 10 ^ m := by
  intro m
  induction m with
  | zero => intro _; exact Nat.one_pos
  | succ m ih =>
    intro h
    have h1 := ih (fun j hj => h j (by omega))
    have h2 := h m (by omega)
    show 10 * dv T a m + (T (a + m) - 48) < 10 ^ (m + 1)
    rw [Nat.pow_succ]; omega
section gNu
variable {X : Nat × (Nat → Int32)} {J : Nat → Nat → Int64} {v : Vt} {T : Nat → Nat} {n : Nat} {I : Nat → Nat → Int32}
theorem c_numL {K : Int32 → gH → Option (Int32 × gH)} {x1 x2 : Int32} {a e : Nat} (h : cX I v T n) (h6 : I 53 6 = iZ (e : Int)) (hen : e ≤ n) (he4 : e ≤ a + 4) (hd : ∀ j, a ≤ j → j < e → isDb (T j) = true) : ∀ (k m fuel : Nat), a + m + k = e → k < fuel → gX6_number_L53 K 53 x1 x2 fuel (iZ (dv T a m : Nat)) (iZ ((a + m : Nat) : Int)) (mkS X I J v) = K (iZ (dv T a (e - a) : Nat)) (mkS X I J v) := by
  obtain ⟨hT, h3, hv⟩ := h
  have hn := hT.1
  intro k
  induction k with
  | zero =>
    intro m fuel hm hf
    obtain ⟨f, rfl⟩ : ∃ n, fuel = n + 1 := ⟨fuel - 1, by omega⟩
    unfold gX6_number_L53
    simp only [bO, o53, h6]
    rw [if_neg (by rw [iZ_lt (by omega) (by omega) (by omega) (by omega)]; omega), show e - a = m by omega]
  | succ k ih =>
    intro m fuel hm hf
    obtain ⟨f, rfl⟩ : ∃ n, fuel = n + 1 := ⟨fuel - 1, by omega⟩
    have hdg := isDb_r (hd (a + m) (by omega) (by omega))
    have hb := dv_le (T := T) (a := a) (m := m) (fun j hj => (isDb_r (hd (a + j) (by omega) (by omega))).2)
    have hb2 : dv T a m < 10000 := Nat.lt_of_lt_of_le hb (Nat.pow_le_pow_right (by decide) (show m ≤ 4 by omega))
    unfold gX6_number_L53
    simp only [bO, o53, o53R, h6, h3]
    rw [if_pos (by rw [iZ_lt (by omega) (by omega) (by omega) (by omega)]; omega), if_pos (by rw [iZ_lt (by omega) (by omega) (by omega) (by omega)]; omega), c_tx hT hv (by omega)]
    simp only [bO]
    rw [sby_lo (by omega), pL, iZ_add, sL, aL, show ((dv T a m : Nat) : Int) * 10 + ((T (a + m) : Nat) : Int) - 48 = ((dv T a (m + 1) : Nat) : Int) from by
      show _ = ((10 * dv T a m + (T (a + m) - 48) : Nat) : Int); omega, show ((a + m : Nat) : Int) + 1 = ((a + (m + 1) : Nat) : Int) by omega]
    exact ih (m + 1) f (by omega) (by omega)
theorem c_number {r : PS} {lo hi : Nat} (hlo : lo < 100000) (hhi : hi < 100000) (h : cX I v T n) (hr : cO I T n r) : ∃ I' x, fX6_number 53 (iZ (lo : Int)) (iZ (hi : Int)) (mkS X I J v) = some (x, mkS X I' J v) ∧ frK I I' ∧ cO I' T n (pNum T n lo hi r) ∧ (pOk (pNum T n lo hi r) = true → x = iZ (pNumV T n r : Nat)) := by
  have hn := h.1.1
  unfold fX6_number
  simp only [bO, o53]
  cases r with
  | error e =>
    have hr0 := hr
    rw [hr.2.2.2.2, if_neg (by decide)]
    obtain ⟨I', a1, a2, a3⟩ := c_refuseS (X := X) (J := J) (v := v) (f := 1) (by decide) (by decide) hr0
    rw [show (1 : Int32) = iZ ((1 : Nat) : Int) from rfl, a1]
    exact ⟨I', _, rfl, a2, a3, fun q => by cases q⟩
  | ok s =>
    have hr0 := hr
    obtain ⟨q1, q2, q3, q4, q5, q6⟩ := hr
    have hk := tkK_lt T n s.1 s.2
    rw [q2]
    unfold pNum
    dsimp only
    by_cases c : tkK T n s.1 s.2 = 2
    · rw [if_pos (by rw [c]; rfl), if_pos c, q3, q4, iZ_sub]
      obtain ⟨t1, t2, t3, t4, t5⟩ := tk2 c
      have hE := tkE_le (T := T) q5
      have hG := tkE_gt (T := T) t1
      by_cases c4 : 4 < tkE T n s.1 - s.1
      · rw [if_pos (by rw [cR_lt (by omega) (by omega) (by decide)]; omega), if_pos c4, aL]
        obtain ⟨I', a1, a2, a3⟩ := c_refuseR (X := X) (J := J) (v := v) (f := 1) (p := s.1 + 4) (by decide) (by decide) hr0
        rw [show (1 : Int32) = iZ ((1 : Nat) : Int) from rfl, show (s.1 : Int) + 4 = ((s.1 + 4 : Nat) : Int) by omega, a1]
        exact ⟨I', _, rfl, a2, a3, fun q => by cases q⟩
      · rw [if_neg (by rw [cR_lt (by omega) (by omega) (by decide)]; omega), if_neg c4]
        have hb := dv_le (T := T) (a := s.1) (m := tkE T n s.1 - s.1) (fun j hj => (isDb_r (tk2_d c (s.1 + j) (by omega) (by omega))).2)
        have hb2 : dv T s.1 (tkE T n s.1 - s.1) < 10000 := Nat.lt_of_lt_of_le hb (Nat.pow_le_pow_right (by decide) (show tkE T n s.1 - s.1 ≤ 4 by omega))
        have hL := c_numL (X := X) (J := J) (x1 := iZ (lo : Int)) (x2 := iZ (hi : Int)) (K := fun y18 s19 => if y18 < iZ (lo : Int) then (ggI s19 53 6 5).bind fun v22 => gb2 (gcv s19 53 6 (fX6_refuse 53 2 v22 s19)) fun _ s24 => some (0, s24) else if iZ (hi : Int) < y18 then (ggI s19 53 6 5).bind fun v22 => gb2 (gcv s19 53 6 (fX6_refuse 53 2 v22 s19)) fun _ s24 => some (0, s24) else gb2 (gcv s19 53 6 (fX6_advance 53 s19)) fun _ s28 => some (y18, s28)) h q4 hE (by omega) (tk2_d c) (tkE T n s.1 - s.1) 0 20000 (by omega) (by omega)
        have e0 : gX6_number_L53 (fun y18 s19 => if y18 < iZ (lo : Int) then (ggI s19 53 6 5).bind fun v22 => gb2 (gcv s19 53 6 (fX6_refuse 53 2 v22 s19)) fun _ s24 => some (0, s24) else if iZ (hi : Int) < y18 then (ggI s19 53 6 5).bind fun v22 => gb2 (gcv s19 53 6 (fX6_refuse 53 2 v22 s19)) fun _ s24 => some (0, s24) else gb2 (gcv s19 53 6 (fX6_advance 53 s19)) fun _ s28 => some (y18, s28)) 53 (iZ (lo : Int)) (iZ (hi : Int)) 20000 0 (iZ (s.1 : Int)) (mkS X I J v) = _ := hL
        rw [e0]
        simp only [bO, o53]
        simp (disch := omega) only [iZ_lt]
        obtain ⟨I1, a1, a2, a3⟩ := c_refuseS (X := X) (J := J) (v := v) (f := 2) (by decide) (by decide) hr0
        by_cases d1 : dv T s.1 (tkE T n s.1 - s.1) < lo
        · rw [if_pos (by omega), if_pos (Or.inl d1), show (2 : Int32) = iZ ((2 : Nat) : Int) from rfl, a1]
          exact ⟨I1, _, rfl, a2, a3, fun q => by cases q⟩
        · rw [if_neg (by omega)]
          by_cases d2 : hi < dv T s.1 (tkE T n s.1 - s.1)
          · rw [if_pos (by omega), if_pos (Or.inr d2), show (2 : Int32) = iZ ((2 : Nat) : Int) from rfl, a1]
            exact ⟨I1, _, rfl, a2, a3, fun q => by cases q⟩
          · rw [if_neg (by omega), if_neg (by omega)]
            obtain ⟨I2, b1, b2, b3⟩ := c_adv (X := X) (J := J) h hr0
            rw [b1]
            exact ⟨I2, _, rfl, b2, b3, fun _ => rfl⟩
    · rw [if_neg (by rw [cL_eq (by omega) (by omega) (by decide)]; omega), if_neg c]
      obtain ⟨I', a1, a2, a3⟩ := c_refuseS (X := X) (J := J) (v := v) (f := 1) (by decide) (by decide) hr0
      rw [show (1 : Int32) = iZ ((1 : Nat) : Int) from rfl, a1]
      exact ⟨I', _, rfl, a2, a3, fun q => by cases q⟩
end gNu
