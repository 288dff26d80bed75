/-! DAY SETS: the last up to a day, how many, the n-th -/
def pv (P : Nat → Bool) : Nat → Int
  | 0 => -1
  | n + 1 => if P n then (n : Int) else pv P n
theorem pv_found {P : Nat → Bool} {k : Nat} : ∀ {n : Nat}, k < n → P k = true → (∀ j, k < j → j < n → P j = false) → pv P n = (k : Int) := by
  intro n
  induction n with
  | zero => intro h; omega
  | succ n ih =>
    intro h1 h2 h3
    unfold pv
    by_cases hn : n = k
    · subst hn; rw [if_pos h2]
    · rw [if_neg (by rw [h3 n (by omega) (by omega)]; decide)]
      exact ih (by omega) h2 (fun j a b => h3 j a (by omega))
theorem pv_none {P : Nat → Bool} : ∀ {n : Nat}, (∀ j, j < n → P j = false) → pv P n = -1 := by
  intro n
  induction n with
  | zero => intro _; rfl
  | succ n ih =>
    intro h
    unfold pv
    rw [if_neg (by rw [h n (by omega)]; decide)]
    exact ih (fun j a => h j (by omega))
theorem pv_congr {P Q : Nat → Bool} : ∀ {n : Nat}, (∀ j, j < n → P j = Q j) → pv P n = pv Q n := by
  intro n
  induction n with
  | zero => intro _; rfl
  | succ n ih =>
    intro h
    unfold pv
    rw [h n (by omega), ih (fun j a => h j (by omega))]
theorem pv_skip {P : Nat → Bool} {n : Nat} : ∀ {m : Nat}, n ≤ m → (∀ j, n ≤ j → j < m → P j = false) → pv P m = pv P n := by
  intro m
  induction m with
  | zero => intro h _; rw [show n = 0 by omega]
  | succ m ih =>
    intro h1 h2
    by_cases hn : n = m + 1
    · rw [hn]
    · unfold pv
      rw [if_neg (by rw [h2 m (by omega) (by omega)]; decide)]
      rw [ih (by omega) (fun j a b => h2 j a (by omega))]
      cases n <;> rfl
/-- the k-th from a day on -/
def nt (P : Nat → Bool) : Nat → Nat → Nat → Int
  | 0, _, _ => -1
  | n + 1, d, k => if P d then (if k = 0 then (d : Int) else nt P n (d + 1) (k - 1)) else nt P n (d + 1) k
theorem nt_found {P : Nat → Bool} {j : Nat} : ∀ {n d k : Nat}, d ≤ j → j < d + n → P j = true → cnt P d (j - d) = k → nt P n d k = (j : Int) := by
  intro n
  induction n with
  | zero => intro d k h1 h2; omega
  | succ n ih =>
    intro d k h1 h2 h3 h4
    unfold nt
    by_cases hj : j = d
    · subst hj
      rw [Nat.sub_self] at h4
      rw [if_pos h3, if_pos (show k = 0 from h4.symm)]
    · rw [show j - d = (j - (d + 1)) + 1 by omega, cnt_front] at h4
      by_cases hp : P d = true
      · rw [if_pos hp] at h4 ⊢
        rw [if_neg (by omega)]
        exact ih (by omega) (by omega) h3 (by omega)
      · rw [if_neg hp] at h4 ⊢
        exact ih (by omega) (by omega) h3 (by omega)
theorem nt_none {P : Nat → Bool} : ∀ {n d k : Nat}, cnt P d n ≤ k → nt P n d k = -1 := by
  intro n
  induction n with
  | zero => intro d k h; rfl
  | succ n ih =>
    intro d k h
    unfold nt
    rw [cnt_front] at h
    by_cases hp : P d = true
    · rw [if_pos hp] at h ⊢
      rw [if_neg (by omega)]
      exact ih (by omega)
    · rw [if_neg hp] at h ⊢
      exact ih (by omega)
theorem nt_congr {P Q : Nat → Bool} : ∀ {n d k : Nat}, (∀ j, d ≤ j → j < d + n → P j = Q j) → nt P n d k = nt Q n d k := by
  intro n
  induction n with
  | zero => intro d k _; rfl
  | succ n ih =>
    intro d k h
    unfold nt
    rw [h d (by omega) (by omega), ih (fun j a b => h j (by omega) (by omega)), ih (fun j a b => h j (by omega) (by omega))]
theorem cnt_bg {f : Nat → Int64} {i a n : Nat} (h : a + n ≤ 64) : cnt (bg f) (64 * i + a) n = cnt (wb (f i)) a n := by
  rw [← cnt_shift (bg f) a (64 * i) n]
  apply cnt_congr
  intro j hj
  exact bg_at (by omega)
section gDs5
variable {X : Nat × (Nat → Int32)} {I : Nat → Nat → Int32} {J : Nat → Nat → Int64} {v : Vt} {r r2 : Nat}
def lK : Int32 → Int64 → gH → Option (Int32 × gH) := fun y13 y14 s15 =>
        if lg_cmp y14 0 = 0 then
          some (-1, s15)
        else
          gX2_lastUpTo_L67
            (fun y21 s22 =>
              gb2 (fJ13_bitCount_95d88 y21 s22) fun r23 s24 =>
              some (((y13 * 64) + r23) - 1, s24))
            y13 20000 y14 1 s15
theorem ds_lastK {z : Int64} {i n : Nat} {s : gH} (hi : i < 229) (h1 : 64 * i ≤ n) (h2 : n ≤ 64 * (i + 1)) (hz : ∀ j, j < 64 → wb z j = (dsf J r (64 * i + j) && decide (64 * i + j < n))) (hz0 : z ≠ 0) : lK (iZ (i : Int)) z s = some (iZ (pv (dsf J r) n), s) := by
  unfold lK
  rw [if_neg (by rw [lgc_0]; exact hz0)]
  obtain ⟨y, hy1, hy2⟩ := c_smear (K := fun y21 s22 => gb2 (fJ13_bitCount_95d88 y21 s22) fun r23 s24 => some (((iZ (i : Int) * 64) + r23) - 1, s24)) (x2 := iZ (i : Int)) (x := z) (s := s) (n := 19993)
  obtain ⟨t, t1, t2, t3⟩ := wb_hi hz0
  rw [hy1, c_bitCount, cnt_smear t2 t3 hy2]
  simp only [bO, pL, iZ_add, sL]
  have ht := hz t t1
  rw [t2] at ht
  have ht' := ht.symm
  simp only [Bool.and_eq_true, decide_eq_true_eq] at ht'
  have e : pv (dsf J r) n = ((64 * i + t : Nat) : Int) := by
    apply pv_found ht'.2 ht'.1
    intro j a b
    have := hz (j - 64 * i) (by omega)
    rw [t3 _ (by omega), show 64 * i + (j - 64 * i) = j by omega, decide_eq_true b, Bool.and_true] at this
    exact this.symm
  rw [e]
  congr 3
  omega
theorem ds_lastL (h : isDS r) : ∀ (i n : Nat) (z : Int64) (fuel : Nat), i < 229 → i + 1 < fuel → 64 * i ≤ n → n ≤ 64 * (i + 1) → (∀ j, j < 64 → wb z j = (dsf J r (64 * i + j) && decide (64 * i + j < n))) → gX2_lastUpTo_L33 lK r fuel (iZ (i : Int)) z (mkS X I J v) = some (iZ (pv (dsf J r) n), mkS X I J v) := by
  intro i
  induction i with
  | zero =>
    intro n z fuel h1 h2 h3 h4 hz
    obtain ⟨m, rfl⟩ : ∃ n, fuel = n + 1 := ⟨fuel - 1, by omega⟩
    rw [gX2_lastUpTo_L33]
    by_cases hz0 : z = 0
    · subst hz0
      rw [if_pos (by rw [lgc_0])]
      simp (disch := omega) only [cR_lt]
      rw [if_neg (by omega)]
      unfold lK
      rw [if_pos (by rw [lgc_0]), pv_none]
      · rfl
      · intro j hj
        have := hz j (by omega)
        rw [wb_0, show 64 * 0 + j = j by omega, decide_eq_true hj, Bool.and_true] at this
        exact this.symm
    · rw [if_neg (by rw [lgc_0]; exact hz0)]
      exact ds_lastK h1 h3 h4 hz hz0
  | succ i ih =>
    intro n z fuel h1 h2 h3 h4 hz
    obtain ⟨m, rfl⟩ : ∃ n, fuel = n + 1 := ⟨fuel - 1, by omega⟩
    rw [gX2_lastUpTo_L33]
    by_cases hz0 : z = 0
    · subst hz0
      rw [if_pos (by rw [lgc_0])]
      simp (disch := omega) only [cR_lt]
      rw [if_pos (by omega), ds_R h]
      simp only [bO]
      have em : iZ ((i + 1 : Nat) : Int) + -1 = iZ (i : Int) := by
        rw [show (-1 : Int32) = iZ (-1) from rfl, iZ_add]; congr 1; omega
      rw [em, ds_g h _ _ (by omega)]
      simp only [bO]
      rw [pv_skip (P := dsf J r) (n := 64 * (i + 1)) h3]
      · exact ih (64 * (i + 1)) _ m (by omega) (by omega) (by omega) (by omega) (fun j hj => by
          rw [decide_eq_true (show 64 * i + j < 64 * (i + 1) by omega), Bool.and_true]
          exact (bg_at hj).symm)
      · intro j a b
        have := hz (j - 64 * (i + 1)) (by omega)
        rw [wb_0, show 64 * (i + 1) + (j - 64 * (i + 1)) = j by omega, decide_eq_true b, Bool.and_true] at this
        exact this.symm
    · rw [if_neg (by rw [lgc_0]; exact hz0)]
      exact ds_lastK h1 h3 h4 hz hz0
theorem ds_last {z : Int} (h : isDS r) (h3 : -2147483648 ≤ z) (h4 : z < 2147483648) : fX2_lastUpTo r (iZ z) (mkS X I J v) = some (iZ (if 0 ≤ z ∧ z < 14610 then pv (dsf J r) (z.toNat + 1) else -1), mkS X I J v) := by
  unfold fX2_lastUpTo
  rw [c_isDay h3 h4, gb2_some]
  by_cases hz : 0 ≤ z ∧ z < 14610
  · rw [if_pos hz, if_neg (by decide), if_pos hz]
    obtain ⟨d, rfl⟩ : ∃ n : Nat, z = (n : Int) := ⟨z.toNat, by omega⟩
    rw [d_shr (by omega), d_and, Int.toNat_natCast, ds_R h]
    simp only [bO]
    rw [ds_g h _ _ (by omega)]
    simp only [bO, sR]
    refine ds_lastL h (d / 64) (d + 1) _ 20000 (by omega) (by omega) (by omega) (by omega) ?_
    intro j hj
    rw [wb_and, show (63 : Int) - ((d % 64 : Nat) : Int) = ((63 - d % 64 : Nat) : Int) by omega, wb_ushr (by omega), wb_m1']
    congr 1
    · exact (bg_at hj).symm
    · congr 1
      apply propext
      omega
  · rw [if_neg hz, if_pos rfl, if_neg hz]; rfl
theorem cnt_window {P : Nat → Bool} {a b N : Nat} (h1 : a ≤ b) (h2 : b < N) : cnt (fun d => P d && (decide (a ≤ d) && decide (d ≤ b))) 0 N = cnt P a (b + 1 - a) := by
  obtain ⟨m, rfl⟩ : ∃ m, N = a + ((b + 1 - a) + m) := ⟨N - b - 1, by omega⟩
  rw [cnt_add, cnt_add, cnt_zero (n := a) (fun j hj => by rw [decide_eq_false (show ¬ a ≤ 0 + j by omega), Bool.false_and, Bool.and_false]), cnt_zero (n := m) (fun j hj => by rw [decide_eq_false (show ¬ 0 + a + (b + 1 - a) + j ≤ b by omega), Bool.and_false, Bool.and_false]), Nat.zero_add, Nat.zero_add, Nat.add_zero]
  apply cnt_congr
  intro j hj
  rw [decide_eq_true (show a ≤ a + j by omega), decide_eq_true (show a + j ≤ b by omega), Bool.and_true, Bool.and_true]
theorem ds_betweenL {a b : Nat} (h : isDS r) (hab : a ≤ b) (hb : b < 14610) : ∀ (m i c fuel : Nat), i + m = b / 64 + 1 → m < fuel → a / 64 ≤ i → c = cnt (fun d => dsf J r d && (decide (a ≤ d) && decide (d ≤ b))) 0 (64 * i) → gX2_between_L38 r (iZ (a : Int)) (iZ (b : Int)) (iZ ((a / 64 : Nat) : Int)) (iZ ((b / 64 : Nat) : Int)) fuel (iZ (c : Int)) (iZ (i : Int)) (mkS X I J v) = some (iZ ((cnt (fun d => dsf J r d && (decide (a ≤ d) && decide (d ≤ b))) 0 (64 * (b / 64 + 1)) : Nat) : Int), mkS X I J v) := by
  intro m
  induction m with
  | zero =>
    intro i c fuel h1 h2 h3 hc
    obtain ⟨n, rfl⟩ : ∃ n, fuel = n + 1 := ⟨fuel - 1, by omega⟩
    rw [gX2_between_L38]
    simp (disch := omega) only [iZ_lt]
    rw [if_pos (by omega), hc, show i = b / 64 + 1 by omega]
  | succ m ih =>
    intro i c fuel h1 h2 h3 hc
    obtain ⟨n, rfl⟩ : ∃ n, fuel = n + 1 := ⟨fuel - 1, by omega⟩
    rw [gX2_between_L38]
    simp (disch := omega) only [iZ_lt, iZ_eq, sR, d_and]
    rw [if_neg (by omega)]
    simp only [bO]
    have key : ∀ z13 z16 : Int64, (∀ j, j < 64 → (wb z13 j && wb z16 j) = (decide (a ≤ 64 * i + j) && decide (64 * i + j ≤ b))) → ((ggR (mkS X I J v) r 2 0).bind fun v18 => (gaJ (mkS X I J v) v18 (iZ (i : Int))).bind fun v19 => gb2 (fJ13_bitCount_95d88 ((v19 &&& z13) &&& z16) (mkS X I J v)) fun r20 s21 => gX2_between_L38 r (iZ (a : Int)) (iZ (b : Int)) (iZ ((a / 64 : Nat) : Int)) (iZ ((b / 64 : Nat) : Int)) n (iZ (c : Int) + r20) (iZ (i : Int) + 1) s21) = some (iZ ((cnt (fun d => dsf J r d && (decide (a ≤ d) && decide (d ≤ b))) 0 (64 * (b / 64 + 1)) : Nat) : Int), mkS X I J v) := by
      intro z13 z16 hz
      rw [ds_R h]
      simp only [bO]
      rw [ds_g h _ _ (by omega)]
      simp only [bO]
      rw [c_bitCount]
      simp only [bO, iZ_add, aL]
      have e1 : cnt (wb (J (r + 1) i &&& z13 &&& z16)) 0 64 = cnt (fun d => dsf J r d && (decide (a ≤ d) && decide (d ≤ b))) (64 * i) 64 := by
        have := cnt_shift (fun d => dsf J r d && (decide (a ≤ d) && decide (d ≤ b))) 0 (64 * i) 64
        rw [Nat.add_zero] at this
        rw [← this]
        apply cnt_congr
        intro j hj
        rw [Nat.zero_add, wb_and, wb_and, Bool.and_assoc, hz j hj]
        rw [show dsf J r (64 * i + j) = wb (J (r + 1) i) j from bg_at hj]
      rw [show (c : Int) + (cnt (wb (J (r + 1) i &&& z13 &&& z16)) 0 64 : Nat) = ((c + cnt (wb (J (r + 1) i &&& z13 &&& z16)) 0 64 : Nat) : Int) by omega, show (i : Int) + 1 = ((i + 1 : Nat) : Int) by omega]
      apply ih (i + 1) _ n (by omega) (by omega) (by omega)
      rw [e1, hc, show 64 * (i + 1) = 64 * i + 64 by omega, cnt_add, Nat.zero_add]
    have e16 : ∀ j, j < 64 → wb (gLushr (-1) (iZ (63 - ((b % 64 : Nat) : Int)))) j = decide (j ≤ b % 64) := by
      intro j hj
      rw [show (63 : Int) - ((b % 64 : Nat) : Int) = ((63 - b % 64 : Nat) : Int) by omega, wb_ushr (by omega), wb_m1']
      congr 1
      apply propext
      omega
    have e13 : ∀ j, j < 64 → wb (gLshl (-1) (iZ ((a % 64 : Nat) : Int))) j = decide (a % 64 ≤ j) := by
      intro j hj
      rw [wb_shl (by omega) hj, wb_m1', decide_eq_true (show j - a % 64 < 64 by omega), Bool.and_true]
    by_cases hia : i = a / 64
    · rw [if_pos (by omega)]
      by_cases hib : i = b / 64
      · rw [if_pos (by omega)]
        apply key
        intro j hj
        rw [e13 j hj, e16 j hj]
        congr 1
        · congr 1
          apply propext
          omega
        · congr 1
          apply propext
          omega
      · rw [if_neg (by omega)]
        apply key
        intro j hj
        rw [e13 j hj, wb_m1 hj, decide_eq_true (show 64 * i + j ≤ b by omega)]
        congr 2
        apply propext
        omega
    · rw [if_neg (by omega)]
      by_cases hib : i = b / 64
      · rw [if_pos (by omega)]
        apply key
        intro j hj
        rw [e16 j hj, wb_m1 hj, decide_eq_true (show a ≤ 64 * i + j by omega)]
        congr 2
        apply propext
        omega
      · rw [if_neg (by omega)]
        apply key
        intro j hj
        rw [wb_m1 hj, decide_eq_true (show a ≤ 64 * i + j by omega), decide_eq_true (show 64 * i + j ≤ b by omega)]
theorem ds_between {a b : Int} (h : isDS r) (a1 : -2147483648 ≤ a) (a2 : a < 2147483648) (b1 : -2147483648 ≤ b) (b2 : b < 2147483648) : fX2_between r (iZ a) (iZ b) (mkS X I J v) = some (iZ ((if 0 ≤ a ∧ a ≤ b ∧ b < 14610 then cnt (dsf J r) a.toNat (b.toNat + 1 - a.toNat) else 0 : Nat) : Int), mkS X I J v) := by
  unfold fX2_between
  rw [c_isDay a1 a2, gb2_some]
  by_cases ha : 0 ≤ a ∧ a < 14610
  · rw [if_pos ha, if_neg (by decide), c_isDay b1 b2, gb2_some]
    by_cases hb : 0 ≤ b ∧ b < 14610
    · rw [if_pos hb, if_neg (by decide)]
      simp (disch := omega) only [iZ_lt]
      by_cases hab : b < a
      · rw [if_pos hab, if_neg (by omega)]; rfl
      · rw [if_neg hab, if_pos (by omega)]
        obtain ⟨m, rfl⟩ : ∃ n : Nat, a = (n : Int) := ⟨a.toNat, by omega⟩
        obtain ⟨n, rfl⟩ : ∃ n : Nat, b = (n : Int) := ⟨b.toNat, by omega⟩
        simp only [bO, Int.toNat_natCast]
        rw [d_shr (by omega), d_shr (by omega), show (0 : Int32) = iZ ((0 : Nat) : Int) from rfl, ds_betweenL h (by omega) (by omega) (n / 64 + 1 - m / 64) (m / 64) 0 20000 (by omega) (by omega) (by omega), cnt_window (by omega) (by omega)]
        rw [cnt_zero]
        intro j hj
        rw [decide_eq_false (show ¬ m ≤ 0 + j by omega), Bool.false_and, Bool.and_false]
    · rw [if_neg hb, if_pos rfl, if_neg (by omega)]; rfl
  · rw [if_neg ha, if_pos rfl, if_neg (by omega)]; rfl
end gDs5
