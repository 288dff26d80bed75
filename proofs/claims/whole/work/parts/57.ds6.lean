/-! DAY SETS: the n-th; moved off another -/
theorem nt_skip {P : Nat → Bool} : ∀ {m n d k : Nat}, cnt P d m ≤ k → nt P (m + n) d k = nt P n (d + m) (k - cnt P d m) := by
  intro m
  induction m with
  | zero => intro n d k h; rw [Nat.zero_add]; rfl
  | succ m ih =>
    intro n d k h
    rw [show m + 1 + n = (m + n) + 1 by omega]
    rw [nt]
    rw [cnt_front] at h ⊢
    by_cases hp : P d = true
    · rw [if_pos hp] at h
      rw [if_pos hp, if_neg (by omega), ih (by omega), show d + 1 + m = d + (m + 1) by omega, if_pos hp]
      congr 1
      omega
    · rw [if_neg hp] at h
      rw [if_neg hp, ih (by omega), show d + 1 + m = d + (m + 1) by omega, if_neg hp]
      congr 1
      omega
theorem nt_ext {P : Nat → Bool} {m : Nat} : ∀ {n d k : Nat}, (∀ j, d + n ≤ j → j < d + n + m → P j = false) → nt P (n + m) d k = nt P n d k := by
  intro n
  induction n with
  | zero =>
    intro d k h
    rw [Nat.zero_add, nt_none]
    · rfl
    · rw [cnt_zero (fun j hj => h (d + j) (by omega) (by omega))]
      omega
  | succ n ih =>
    intro d k h
    rw [show n + 1 + m = (n + m) + 1 by omega]
    rw [nt, nt]
    rw [ih (fun j a b => h j (by omega) (by omega)), ih (fun j a b => h j (by omega) (by omega))]
section gDs6
variable {X : Nat × (Nat → Int32)} {I : Nat → Nat → Int32} {J : Nat → Nat → Int64} {v : Vt} {r r2 : Nat}
def aK (x3 : Int32) : Int64 → gH → Option (Int32 × gH) := fun y23 s24 =>
              gb2 (fJ13_bitCount_95d88 ((y23 &&& (-y23)) - 1) s24) fun r25 s26 =>
              some ((x3 * 64) + r25, s26)
theorem ds_placeI {K : Int64 → gH → Option (Int32 × gH)} {x3 : Int32} {x : Int64} {a : Nat} {s : gH} (ha : a < 100) : ∀ (m k fuel : Nat) (y : Int64), k + m = a → m < fuel → (∀ j, j < 64 → wb y j = (wb x j && decide (k ≤ cnt (wb x) 0 j))) → ∃ y', gX2_atPlace_L68 K (iZ (a : Int)) x3 fuel y (iZ (k : Int)) s = K y' s ∧ ∀ j, j < 64 → wb y' j = (wb x j && decide (a ≤ cnt (wb x) 0 j)) := by
  intro m
  induction m with
  | zero =>
    intro k fuel y h1 h2 hy
    obtain ⟨n, rfl⟩ : ∃ n, fuel = n + 1 := ⟨fuel - 1, by omega⟩
    refine ⟨y, ?_, ?_⟩
    · rw [gX2_atPlace_L68]
      simp (disch := omega) only [iZ_lt]
      rw [if_neg (by omega)]
    · rw [show a = k by omega]; exact hy
  | succ m ih =>
    intro k fuel y h1 h2 hy
    obtain ⟨n, rfl⟩ : ∃ n, fuel = n + 1 := ⟨fuel - 1, by omega⟩
    obtain ⟨y', e1, e2⟩ := ih (k + 1) n (y &&& (y - 1)) (by omega) (by omega) (by
      intro j hj
      rw [wb_drop hj, hy j hj]
      have : (∃ i, i < j ∧ wb y i = true) ↔ k < cnt (wb x) 0 j := by
        rw [cnt_ex]
        constructor
        · rintro ⟨i, a, b⟩
          rw [hy i (by omega)] at b
          simp only [Bool.and_eq_true, decide_eq_true_eq] at b
          exact ⟨i, a, b⟩
        · rintro ⟨i, a, b, c⟩
          refine ⟨i, a, ?_⟩
          rw [hy i (by omega), b, decide_eq_true c]
          rfl
      simp only [this]
      rw [Bool.and_assoc, ← Bool.decide_and]
      congr 2
      apply propext
      omega)
    refine ⟨y', ?_, e2⟩
    rw [gX2_atPlace_L68]
    simp (disch := omega) only [iZ_lt, aL, glet_eq]
    rw [if_pos (by omega), show (k : Int) + 1 = ((k + 1 : Nat) : Int) by omega]
    exact e1
def aKK (r : Nat) : Int32 → Int32 → gH → Option (Int32 × gH) := fun y14 y15 s16 =>
        if y15 < 229 then
          (ggR s16 r 2 0).bind fun v18 =>
          (gaJ s16 v18 y15).bind fun v19 =>
          gX2_atPlace_L68
            (fun y23 s24 =>
              gb2 (fJ13_bitCount_95d88 ((y23 &&& (-y23)) - 1) s24) fun r25 s26 =>
              some ((y15 * 64) + r25, s26))
            y14 y15 20000 v19 0 s16
        else
          some (-1, s16)
theorem ds_placeL (h : isDS r) : ∀ (m i a fuel : Nat), i + m = 229 → m < fuel → a < 2147483648 → gX2_atPlace_L10 (aKK r) r fuel (iZ (a : Int)) (iZ (i : Int)) (mkS X I J v) = some (iZ (nt (dsf J r) (64 * m) (64 * i) a), mkS X I J v) := by
  intro m
  induction m with
  | zero =>
    intro i a fuel h1 h2 h3
    obtain ⟨n, rfl⟩ : ∃ n, fuel = n + 1 := ⟨fuel - 1, by omega⟩
    rw [gX2_atPlace_L10]
    simp (disch := omega) only [cL_lt]
    rw [if_neg (by omega)]
    unfold aKK
    simp (disch := omega) only [cL_lt]
    rw [if_neg (by omega)]
    rfl
  | succ m ih =>
    intro i a fuel h1 h2 h3
    obtain ⟨n, rfl⟩ : ∃ n, fuel = n + 1 := ⟨fuel - 1, by omega⟩
    have hc : cnt (dsf J r) (64 * i) 64 = cnt (wb (J (r + 1) i)) 0 64 := by
      have := cnt_bg (f := J (r + 1)) (i := i) (a := 0) (n := 64) (by omega)
      rw [Nat.add_zero] at this
      exact this
    have hc64 := cnt_le (wb (J (r + 1) i)) 0 64
    rw [gX2_atPlace_L10]
    rw [ds_R h]
    simp only [bO]
    rw [ds_g h _ _ (by omega)]
    simp only [bO, c_bitCount]
    simp (disch := omega) only [cL_lt, iZ_lt, aL, iZ_sub]
    rw [if_pos (by omega)]
    by_cases ha : a < cnt (wb (J (r + 1) i)) 0 64
    · rw [if_pos (by omega)]
      unfold aKK
      simp (disch := omega) only [cL_lt]
      rw [if_pos (by omega), ds_R h]
      simp only [bO]
      rw [ds_g h _ _ (by omega)]
      simp only [bO]
      obtain ⟨y, e1, e2⟩ := ds_placeI (K := fun y23 s24 => gb2 (fJ13_bitCount_95d88 ((y23 &&& (-y23)) - 1) s24) fun r25 s26 => some ((iZ (i : Int) * 64) + r25, s26)) (x3 := iZ (i : Int)) (x := J (r + 1) i) (a := a) (s := mkS X I J v) (by omega) a 0 20000 (J (r + 1) i) (by omega) (by omega) (by
        intro j hj
        rw [decide_eq_true (Nat.zero_le _), Bool.and_true])
      have hy0 : y ≠ 0 := by
        intro q
        obtain ⟨j, a1, a2, a3⟩ := cnt_ex.mp ha
        have := e2 j a1
        rw [q, wb_0, a2, decide_eq_true a3] at this
        cases this
      obtain ⟨t, t1, t2, t3⟩ := wb_ne hy0
      rw [show (0 : Int32) = iZ ((0 : Nat) : Int) from rfl, e1, c_bitCount, cnt_low t2 t3]
      simp only [bO, pL, iZ_add]
      have ht := e2 t t1
      rw [t2] at ht
      have ht' := ht.symm
      simp only [Bool.and_eq_true, decide_eq_true_eq] at ht'
      have hta : cnt (wb (J (r + 1) i)) 0 t = a := by
        apply Classical.byContradiction
        intro q
        obtain ⟨j, a1, a2, a3⟩ := cnt_ex.mp (show a < cnt (wb (J (r + 1) i)) 0 t by omega)
        have := e2 j (by omega)
        rw [t3 j a1, a2, decide_eq_true a3] at this
        cases this
      have e : nt (dsf J r) (64 * (m + 1)) (64 * i) a = ((64 * i + t : Nat) : Int) := by
        apply nt_found (by omega) (by omega)
        · rw [← ht'.1]; exact bg_at t1
        · rw [show 64 * i + t - 64 * i = t by omega]
          have := cnt_bg (f := J (r + 1)) (i := i) (a := 0) (n := t) (by omega)
          rw [Nat.add_zero] at this
          rw [← hta]
          exact this
      rw [e]
      congr 3
      omega
    · rw [if_neg (by omega), ds_R h]
      simp only [bO]
      rw [ds_g h _ _ (by omega)]
      simp only [bO]
      rw [show (a : Int) - ((cnt (wb (J (r + 1) i)) 0 64 : Nat) : Int) = ((a - cnt (wb (J (r + 1) i)) 0 64 : Nat) : Int) by omega, show (i : Int) + 1 = ((i + 1 : Nat) : Int) by omega, ih (i + 1) _ n (by omega) (by omega) (by omega)]
      rw [show 64 * (m + 1) = 64 + 64 * m by omega, nt_skip (by omega), hc, show 64 * (i + 1) = 64 * i + 64 by omega]
theorem ds_atPlace {z : Int} (h : isDS r) (hok : dsOK J r) (h1 : -2147483648 ≤ z) (h2 : z < 2147483648) : fX2_atPlace r (iZ z) (mkS X I J v) = some (iZ (if z < 0 then -1 else nt (dsf J r) 14610 0 z.toNat), mkS X I J v) := by
  unfold fX2_atPlace
  simp (disch := omega) only [cL_lt]
  by_cases hz : z < 0
  · rw [if_pos hz, if_pos hz]; rfl
  · rw [if_neg hz, if_neg hz]
    obtain ⟨a, rfl⟩ : ∃ n : Nat, z = (n : Int) := ⟨z.toNat, by omega⟩
    have := ds_placeL (X := X) (I := I) (J := J) (v := v) h 229 0 a 20000 (by omega) (by omega) (by omega)
    have e : nt (dsf J r) (64 * 229) (64 * 0) a = nt (dsf J r) 14610 0 a := nt_ext (n := 14610) (m := 46) (fun j a b => hok j (by omega) (by omega))
    rw [e] at this
    rw [Int.toNat_natCast]
    exact this
theorem ds_first {z : Int} (h : isDS r) (h3 : -2147483648 ≤ z) (h4 : z < 2147483648) : fX2_firstFrom r (iZ z) (mkS X I J v) = some (iZ (if 0 ≤ z ∧ z < 14610 then nxt (dsf J r) z.toNat else -1), mkS X I J v) := by
  unfold fX2_firstFrom
  rw [ds_c h, show (0 : Int32) = iZ ((0 : Nat) : Int) from rfl, ds_search h h (by omega) h3 h4, gb2_some]
  have : (fun d => sP 0 (dsf J r d) (dsf J r d)) = dsf J r := by
    funext d
    unfold sP
    rw [if_pos rfl, Bool.and_self]
  rw [this]
theorem ds_missing {z : Int} (h : isDS r) (h3 : -2147483648 ≤ z) (h4 : z < 2147483648) : fX2_firstMissingFrom r (iZ z) (mkS X I J v) = some (iZ (if 0 ≤ z ∧ z < 14610 then nxt (fun d => !dsf J r d) z.toNat else -1), mkS X I J v) := by
  unfold fX2_firstMissingFrom
  rw [ds_c h, show (2 : Int32) = iZ ((2 : Nat) : Int) from rfl, ds_search h h (by omega) h3 h4, gb2_some]
  have : (fun d => sP 2 (dsf J r d) (dsf J r d)) = fun d => !dsf J r d := by
    funext d
    unfold sP
    rw [if_neg (by decide), if_neg (by decide), Bool.or_self]
  rw [this]
/-- a day of one set that waits for the next that is not of the other -/
def wt (P Q : Nat → Bool) : Nat → Bool
  | 0 => false
  | d + 1 => Q d && (wt P Q d || P d)
def off (P Q : Nat → Bool) (d : Nat) : Bool := !Q d && (P d || wt P Q d)
theorem wt_none {P Q : Nat → Bool} {b : Nat} (h0 : wt P Q b = false) : ∀ {e : Nat}, b ≤ e → (∀ j, b ≤ j → j < e → (P j && Q j) = false) → wt P Q e = false := by
  intro e
  induction e with
  | zero => intro h _; rw [show b = 0 by omega] at h0; exact h0
  | succ e ih =>
    intro h1 h2
    by_cases hb : b = e + 1
    · rw [← hb]; exact h0
    · show (Q e && (wt P Q e || P e)) = false
      rw [ih (by omega) (fun j a c => h2 j a (by omega)), Bool.false_or, Bool.and_comm]
      exact h2 e (by omega) (by omega)
theorem wt_run {P Q : Nat → Bool} {e : Nat} (hp : P e = true) : ∀ {t : Nat}, e < t → (∀ j, e ≤ j → j < t → Q j = true) → wt P Q t = true := by
  intro t
  induction t with
  | zero => intro h; omega
  | succ t ih =>
    intro h1 h2
    show (Q t && (wt P Q t || P t)) = true
    rw [h2 t (by omega) (by omega), Bool.true_and]
    by_cases ht : t = e
    · rw [ht, hp, Bool.or_true]
    · rw [ih (by omega) (fun j a b => h2 j a (by omega)), Bool.true_or]
def oK (r r2 : Nat) : gH → Option (Unit × gH) := fun s13 =>
      gb2 (gcv s13 r 2 (fX2_without r r2 s13)) fun r14 s15 =>
      some ((), s15)
theorem ds_offEnd (h : isDS r) (h2 : isDS r2) (hne : r ≠ r2) {S : Nat → Bool} (hC : ∀ d, d < 14610 → (dsf J r d && !dsf J r2 d) = off S (dsf J r2) d) (hok : dsOK J r) : ∃ f, oK r r2 (mkS X I J v) = some ((), mkS X I (jset J (r + 1) f) v) ∧ (∀ d, d < 14610 → bg f d = off S (dsf J r2) d) ∧ ∀ d, 14610 ≤ d → d < 14656 → bg f d = false := by
  obtain ⟨f, e1, e2⟩ := ds_without (X := X) (I := I) (J := J) (v := v) h h2 hne
  refine ⟨f, ?_, ?_, ?_⟩
  · unfold oK
    rw [ds_c h, e1]
    rfl
  · intro d hd
    rw [e2 d (by omega), hC d hd]
  · intro d h1 h2
    rw [e2 d h2, hok d h1 h2]
    rfl
theorem ds_offL (h : isDS r) (h2 : isDS r2) (hne : r ≠ r2) {S O : Nat → Bool} : ∀ (m b i fuel : Nat) (J : Nat → Nat → Int64) (z : Int), b + m = 14610 → m + 1 < fuel → i ≤ b → dsf J r2 = O → dsOK J r → (∀ d, d < b → (dsf J r d && !O d) = off S O d) → (∀ d, b ≤ d → d < 14610 → dsf J r d = S d) → wt S O b = false → z = nxt (fun d => S d && O d) b → ∃ f, gX2_moveOff_L10 (oK r r2) r r2 fuel (iZ z) (iZ (i : Int)) (mkS X I J v) = some ((), mkS X I (jset J (r + 1) f) v) ∧ (∀ d, d < 14610 → bg f d = off S O d) ∧ ∀ d, 14610 ≤ d → d < 14656 → bg f d = false := by
  intro m
  induction m using Nat.strongRecOn with
  | _ m ih =>
  intro b i fuel J z h1 h3 hi hO hok hlo hhi hw hz
  obtain ⟨n, rfl⟩ : ∃ n, fuel = n + 1 := ⟨fuel - 1, by omega⟩
  rw [gX2_moveOff_L10]
  simp (disch := omega) only [cL_lt]
  have stop : z = -1 → ∃ f, oK r r2 (mkS X I J v) = some ((), mkS X I (jset J (r + 1) f) v) ∧ (∀ d, d < 14610 → bg f d = off S O d) ∧ ∀ d, 14610 ≤ d → d < 14656 → bg f d = false := by
    intro hz1
    have hnone : ∀ j, b ≤ j → j < 14610 → (S j && O j) = false := by
      rcases nxt_cases (fun d => S d && O d) b with ⟨q1, q2⟩ | ⟨k, q1, q2, q3, q4, q5⟩
      · exact q2
      · rw [hz, q1] at hz1; omega
    subst hO
    apply ds_offEnd h h2 hne _ hok
    intro d hd
    by_cases hdb : d < b
    · exact hlo d hdb
    · unfold off
      rw [wt_none hw (by omega) (fun j a c => hnone j a (by omega)), Bool.or_false, hhi d (by omega) hd, Bool.and_comm]
  have hr := nxt_range (fun d => S d && O d) b
  rw [← hz] at hr
  by_cases hi2 : i < 14610
  · rw [if_pos (by omega)]
    simp (disch := omega) only [cM_eq]
    by_cases hz1 : z = -1
    · rw [if_pos hz1]
      exact stop hz1
    · rw [if_neg hz1]
      rcases nxt_cases (fun d => S d && O d) b with ⟨q1, q2⟩ | ⟨e, q1, q2, q3, q4, q5⟩
      · exact absurd (hz.trans q1) hz1
      · rw [q1] at hz
        subst hz
        simp only [Bool.and_eq_true] at q4
        rw [ds_c h2, show (2 : Int32) = iZ ((2 : Nat) : Int) from rfl, ds_search h2 h2 (by omega) (by omega) (by omega), gb2_some, if_pos (by omega), Int.toNat_natCast]
        have hsP : (fun d => sP 2 (dsf J r2 d) (dsf J r2 d)) = fun d => !O d := by
          funext d
          unfold sP
          rw [if_neg (by decide), if_neg (by decide), Bool.or_self, hO]
        rw [hsP, ds_c h]
        have hwe : wt S O e = false := wt_none hw q2 (fun j a c => q5 j a c)
        rcases nxt_cases (fun d => !O d) e with ⟨t1, t2⟩ | ⟨t, t1, t2, t3, t4, t5⟩
        · -- no day behind that is not of the other
          rw [t1]
          obtain ⟨f, e1, e2⟩ := ds_put (X := X) (I := I) (J := J) (v := v) (r := r) (z := -1) h (by omega) (by omega)
          rw [e1, gb2_some, if_pos (show iZ (-1) = -1 from rfl)]
          have hdf : ∀ d, d < 14656 → dsf (jset J (r + 1) f) r d = dsf J r d := by
            intro d hd
            rw [show dsf (jset J (r + 1) f) r d = bg f d from bg_jset hd, e2 d hd, decide_eq_false (show ¬ ((d : Int) = -1) by omega), Bool.and_false, Bool.or_false]
          have hO' : dsf (jset J (r + 1) f) r2 = O := by
            unfold dsf
            rw [jset_o (by omega)]
            exact hO
          obtain ⟨n', hn'⟩ : ∃ k, n = k + 1 := ⟨n - 1, by omega⟩
          subst hn'
          have hfin : ∃ f', oK r r2 (mkS X I (jset J (r + 1) f) v) = some ((), mkS X I (jset (jset J (r + 1) f) (r + 1) f') v) ∧ (∀ d, d < 14610 → bg f' d = off S (dsf (jset J (r + 1) f) r2) d) ∧ ∀ d, 14610 ≤ d → d < 14656 → bg f' d = false := by
            apply ds_offEnd h h2 hne
            · intro d hd
              rw [hO', hdf d (by omega)]
              by_cases hdb : d < b
              · exact hlo d hdb
              · rw [hhi d (by omega) hd]
                by_cases hde : d < e
                · unfold off
                  rw [wt_none hw (by omega) (fun j a c => q5 j a (by omega)), Bool.or_false, Bool.and_comm]
                · have := t2 d (by omega) hd
                  unfold off
                  rw [this, Bool.and_false, Bool.false_and]
            · intro d a c
              rw [hdf d c, hok d a c]
          obtain ⟨f', g1, g2, g3⟩ := hfin
          refine ⟨f', ?_, ?_, g3⟩
          · rw [gX2_moveOff_L10]
            simp (disch := omega) only [cL_lt, aL]
            by_cases hi3 : i + 1 < 14610
            · rw [if_pos (by omega), if_pos trivial, g1, jset_jset]
            · rw [if_neg (by omega), g1, jset_jset]
          · intro d hd
            rw [g2 d hd, hO']
        · -- the next day that is not of the other
          rw [t1]
          obtain ⟨f, e1, e2⟩ := ds_put (X := X) (I := I) (J := J) (v := v) (r := r) (z := (t : Int)) h (by omega) (by omega)
          rw [e1, gb2_some]
          simp (disch := omega) only [cM_eq]
          rw [if_neg (by omega)]
          have hdf : ∀ d, d < 14656 → dsf (jset J (r + 1) f) r d = (dsf J r d || decide (d = t)) := by
            intro d hd
            rw [show dsf (jset J (r + 1) f) r d = bg f d from bg_jset hd, e2 d hd, decide_eq_true (show (t : Int) < 14610 by omega), Bool.true_and]
            congr 2
            apply propext
            omega
          have hO' : dsf (jset J (r + 1) f) r2 = O := by
            unfold dsf
            rw [jset_o (by omega)]
            exact hO
          have hOt : O t = false := by simpa using t4
          have het : e < t := by
            rcases Nat.lt_or_ge e t with q | q
            · exact q
            · rw [show t = e by omega, q4.2] at hOt; cases hOt
          have hrun : ∀ j, e ≤ j → j < t → O j = true := fun j a c => by simpa using t5 j a c
          rw [ds_c h, show (0 : Int32) = iZ ((0 : Nat) : Int) from rfl, ds_search h h2 (by omega) (by omega) (by omega), gb2_some, if_pos (by omega), Int.toNat_natCast]
          have hnx : nxt (fun d => sP 0 (dsf (jset J (r + 1) f) r d) (dsf (jset J (r + 1) f) r2 d)) t = nxt (fun d => S d && O d) (t + 1) := by
            have hs : ∀ d, t ≤ d → d < 14610 → sP 0 (dsf (jset J (r + 1) f) r d) (dsf (jset J (r + 1) f) r2 d) = (S d && O d) := by
              intro d a c
              unfold sP
              rw [if_pos rfl, hO', hdf d (by omega), hhi d (by omega) c]
              by_cases hdt : d = t
              · rw [hdt, hOt, Bool.and_false, Bool.and_false]
              · rw [decide_eq_false hdt, Bool.or_false]
            rw [nxt_congr hs]
            apply nxt_skip _ (by omega)
            intro j a c
            rw [show j = t by omega, hOt, Bool.and_false]
          rw [hnx]
          have hstep := ih (14610 - (t + 1)) (by omega) (t + 1) (i + 1) n (jset J (r + 1) f) (nxt (fun d => S d && O d) (t + 1)) (by omega) (by omega) (by omega) hO' (by
            intro d a c
            rw [hdf d c, hok d a c, decide_eq_false (show ¬ d = t by omega)]
            rfl) (by
            intro d hd
            rw [hdf d (by omega)]
            by_cases hdt : d = t
            · subst hdt
              unfold off
              rw [hOt, wt_run q4.1 het hrun]
              simp
            · rw [decide_eq_false hdt, Bool.or_false]
              by_cases hdb : d < b
              · exact hlo d hdb
              · rw [hhi d (by omega) (by omega)]
                by_cases hde : d < e
                · unfold off
                  rw [wt_none hw (by omega) (fun j a c => q5 j a (by omega)), Bool.or_false, Bool.and_comm]
                · unfold off
                  rw [hrun d (by omega) (by omega)]
                  simp) (by
            intro d a c
            rw [hdf d (by omega), decide_eq_false (show ¬ d = t by omega), Bool.or_false]
            exact hhi d (by omega) c) (by
            show (O t && (wt S O t || S t)) = false
            rw [hOt]
            rfl) rfl
          obtain ⟨f', g1, g2, g3⟩ := hstep
          refine ⟨f', ?_, g2, g3⟩
          simp only [aL]
          rw [show (i : Int) + 1 = ((i + 1 : Nat) : Int) by omega, g1, jset_jset]
  · rw [if_neg (by omega)]
    apply stop
    rw [hz]
    exact nxt_none (fun j a c => by omega)
theorem ds_moveOff (h : isDS r) (h2 : isDS r2) (hne : r ≠ r2) (hok : dsOK J r) : ∃ f, fX2_moveOff r r2 (mkS X I J v) = some ((), mkS X I (jset J (r + 1) f) v) ∧ (∀ d, d < 14610 → bg f d = off (dsf J r) (dsf J r2) d) ∧ ∀ d, 14610 ≤ d → d < 14656 → bg f d = false := by
  unfold fX2_moveOff
  have e0 := ds_search (X := X) (I := I) (J := J) (v := v) (how := 0) (z := 0) h h2 (by omega) (by omega) (by omega)
  rw [if_pos (by omega)] at e0
  rw [ds_c h, show fX2_search r r2 0 0 (mkS X I J v) = _ from e0, gb2_some]
  have hs : (fun d => sP 0 (dsf J r d) (dsf J r2 d)) = fun d => dsf J r d && dsf J r2 d := by
    funext d
    unfold sP
    rw [if_pos rfl]
  rw [hs]
  exact ds_offL h h2 hne 14610 0 0 20000 J _ (by omega) (by omega) (by omega) rfl hok (fun d hd => by omega) (fun d a b => rfl) rfl rfl
end gDs6
