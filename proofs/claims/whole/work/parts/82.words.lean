/-! OWN WORDS -/
def OW : List (List Nat) := [[100, 97, 121, 115], [119, 101, 101, 107, 115], [109, 111, 110, 116, 104, 115], [121, 101, 97, 114, 115], [109, 111, 110], [116, 117, 101], [119, 101, 100], [116, 104, 117], [102, 114, 105], [115, 97, 116], [115, 117, 110], [105, 110], [111, 110], [98, 121], [97, 116], [117, 110, 116, 105, 108], [99, 111, 117, 110, 116], [114, 117, 108, 101], [101, 118, 101, 114, 121], [102, 114, 111, 109], [115, 101, 116], [105, 115], [111, 114], [97, 110, 100], [108, 101, 115, 115], [108, 97, 116, 101, 114], [115, 111, 111, 110, 101, 114], [111, 102, 102], [100, 97, 121]]
def owl (i : Nat) : Nat := (OW.getD i []).length
def owc (i j : Nat) : Nat := (OW.getD i []).getD j 0
theorem owl_le : ∀ i, i < 29 → 2 ≤ owl i ∧ owl i ≤ 6 := by decide +kernel
theorem owc_r : ∀ i, i < 29 → ∀ j, j < owl i → 97 ≤ owc i j ∧ owc i j ≤ 122 := by decide +kernel
theorem ow_ne : ∀ i, i < 29 → ∀ j, j < 29 → owl i = owl j → (∀ k, k < owl i → owc i k = owc j k) → i = j := by decide +kernel
def wqP (T : Nat → Nat) (a e i : Nat) : Prop := e = a + owl i ∧ ∀ j, j < owl i → T (a + j) = owc i j
theorem wqP_u {T : Nat → Nat} {a e i j : Nat} (hi : i < 29) (hj : j < 29) (h1 : wqP T a e i) (h2 : wqP T a e j) : i = j := by
  have hl : owl i = owl j := by have := h1.1; have := h2.1; omega
  exact ow_ne i hi j hj hl (fun k hk => by rw [← h1.2 k hk, h2.2 k (by omega)])
def wq (T : Nat → Nat) (a e i : Nat) : Bool := e == a + owl i && !exF (fun j => T (a + j) != owc i j) 0 (owl i)
theorem wq_iff {T : Nat → Nat} {a e i : Nat} : wq T a e i = true ↔ wqP T a e i := by
  unfold wq wqP
  rw [Bool.and_eq_true, beq_iff_eq, Bool.not_eq_true']
  constructor
  · rintro ⟨h1, h2⟩
    refine ⟨h1, fun j hj => ?_⟩
    apply Classical.byContradiction
    intro q
    have : exF (fun j => T (a + j) != owc i j) 0 (owl i) = true := exF_iff.mpr ⟨j, by omega, by omega, by simpa using q⟩
    rw [h2] at this; cases this
  · rintro ⟨h1, h2⟩
    refine ⟨h1, ?_⟩
    apply Bool.eq_false_iff.mpr
    intro h
    obtain ⟨j, x, y, z⟩ := exF_iff.mp h
    rw [h2 j (by omega)] at z
    simp at z
def owI (T : Nat → Nat) (a e : Nat) : Int := nx (wq T a e) 29 0
theorem owI_is {T : Nat → Nat} {a e i : Nat} (hi : i < 29) (h : wqP T a e i) : owI T a e = (i : Int) := by
  unfold owI
  apply nx_found (by omega) (by omega) (wq_iff.mpr h)
  intro j _ hj
  cases q : wq T a e j
  · rfl
  · have := wqP_u (by omega) hi (wq_iff.mp q) h
    omega
theorem owI_cases (T : Nat → Nat) (a e : Nat) : (owI T a e = -1 ∧ ∀ i, i < 29 → ¬ wqP T a e i) ∨ ∃ i : Nat, i < 29 ∧ owI T a e = (i : Int) ∧ wqP T a e i := by
  rcases nx_cases (wq T a e) 29 0 with ⟨h1, h2⟩ | ⟨k, h1, h2, h3, h4, _⟩
  · left
    refine ⟨h1, fun i hi q => ?_⟩
    have := h2 i (by omega) (by omega)
    rw [wq_iff.mpr q] at this; cases this
  · right
    exact ⟨k, by omega, h1, wq_iff.mp h4⟩
theorem owI_iff {T : Nat → Nat} {a e i : Nat} (hi : i < 29) : owI T a e = (i : Int) ↔ wqP T a e i := by
  constructor
  · intro h
    rcases owI_cases T a e with ⟨h1, _⟩ | ⟨k, h1, h2, h3⟩
    · omega
    · rw [show i = k by omega]; exact h3
  · exact owI_is hi
theorem owI_r (T : Nat → Nat) (a e : Nat) : -1 ≤ owI T a e ∧ owI T a e < 29 := by
  rcases owI_cases T a e with ⟨h1, _⟩ | ⟨k, h1, h2, h3⟩ <;> omega
/-- which own word stands next -/
def pOw (T : Nat → Nat) (n : Nat) : PS → Int
  | .error _ => -1
  | .ok s => if tkK T n s.1 s.2 = 1 then owI T s.1 (tkE T n s.1) else -1
theorem pOw_r (T : Nat → Nat) (n : Nat) (r : PS) : -1 ≤ pOw T n r ∧ pOw T n r < 29 := by
  unfold pOw
  cases r with
  | error e => dsimp only; omega
  | ok s =>
    dsimp only
    split
    · exact owI_r _ _ _
    · omega
def padF (l : Nat) (f : Nat → Nat) (i : Nat) : Nat := if i < l then f i else 32
theorem padF_eq {l m : Nat} {f g : Nat → Nat} (hl : l ≤ 6) (hm : m ≤ 6) (hf : ∀ i, i < l → f i ≠ 32) (hg : ∀ i, i < m → g i ≠ 32) : (∀ i, i < 6 → padF l f i = padF m g i) ↔ l = m ∧ ∀ i, i < m → f i = g i := by
  constructor
  · intro h
    have e : l = m := by
      rcases Nat.lt_trichotomy l m with c | c | c
      · have := h l (by omega)
        unfold padF at this
        rw [if_neg (by omega), if_pos c] at this
        exact absurd this.symm (hg l c)
      · exact c
      · have := h m (by omega)
        unfold padF at this
        rw [if_pos c, if_neg (by omega)] at this
        exact absurd this (hf m c)
    refine ⟨e, fun i hi => ?_⟩
    have := h i (by omega)
    unfold padF at this
    rw [if_pos (by omega), if_pos hi] at this
    exact this
  · rintro ⟨e, h⟩ i hi
    unfold padF
    by_cases c : i < l
    · rw [if_pos c, if_pos (by omega), h i (by omega)]
    · rw [if_neg c, if_neg (by omega)]
/-- the rows of words: which string, the first own word in it, how many -/
def isTb (tb o m : Nat) : Prop := (tb = 1 ∧ o = 17 ∧ m = 12) ∨ (tb = 2 ∧ o = 11 ∧ m = 6) ∨ (tb = 3 ∧ o = 0 ∧ m = 4) ∨ (tb = 4 ∧ o = 4 ∧ m = 7)
theorem tbT1 : ∀ c, c < 12 → ∀ i, i < 6 → gCh 1 (iZ ((c * 6 + i : Nat) : Int)) = iZ ((if i < owl (17 + c) then owc (17 + c) i else 32 : Nat) : Int) := by decide +kernel
theorem tbT2 : ∀ c, c < 6 → ∀ i, i < 6 → gCh 2 (iZ ((c * 6 + i : Nat) : Int)) = iZ ((if i < owl (11 + c) then owc (11 + c) i else 32 : Nat) : Int) := by decide +kernel
theorem tbT3 : ∀ c, c < 4 → ∀ i, i < 6 → gCh 3 (iZ ((c * 6 + i : Nat) : Int)) = iZ ((if i < owl (0 + c) then owc (0 + c) i else 32 : Nat) : Int) := by decide +kernel
theorem tbT4 : ∀ c, c < 7 → ∀ i, i < 6 → gCh 4 (iZ ((c * 6 + i : Nat) : Int)) = iZ ((if i < owl (4 + c) then owc (4 + c) i else 32 : Nat) : Int) := by decide +kernel
theorem isTb_r {tb o m : Nat} (h : isTb tb o m) : tb < 16 ∧ o + m ≤ 29 ∧ m ≤ 12 ∧ gSl.getD tb 0 = 6 * m := by
  rcases h with ⟨rfl, rfl, rfl⟩ | ⟨rfl, rfl, rfl⟩ | ⟨rfl, rfl, rfl⟩ | ⟨rfl, rfl, rfl⟩ <;> decide
theorem isTb_c {tb o m c i : Nat} (h : isTb tb o m) (hc : c < m) (hi : i < 6) : gCh tb (iZ ((c * 6 + i : Nat) : Int)) = iZ (padF (owl (o + c)) (owc (o + c)) i : Nat) := by
  rcases h with ⟨rfl, rfl, rfl⟩ | ⟨rfl, rfl, rfl⟩ | ⟨rfl, rfl, rfl⟩ | ⟨rfl, rfl, rfl⟩
  · exact tbT1 c hc i hi
  · exact tbT2 c hc i hi
  · exact tbT3 c hc i hi
  · exact tbT4 c hc i hi
theorem ch_ok {i j : Nat} {s : gH} (hi : i < 16) (hj : j < gSl.getD i 0) (hl : gSl.getD i 0 < 1000) : gsv i (fJ0_charAt_5068e i (iZ (j : Int)) s) = some (gCh i (iZ (j : Int)), s) := by
  unfold gsv fJ0_charAt_5068e
  rw [if_pos hi, if_pos ⟨hi, iZ_in hj (by omega), by rw [iZ_nat, iZ_lt (by omega) (by omega) (by omega) (by omega)]; omega⟩]
theorem ln_ok {i : Nat} {s : gH} (hi : i < 16) : gsv i (fJ0_length_8abf5 i s) = some (iZ (gSl.getD i 0 : Nat), s) := by
  unfold gsv fJ0_length_8abf5
  rw [if_pos hi, if_pos hi, iZ_nat]
theorem cnt_all {P : Nat → Bool} : ∀ {n : Nat}, cnt P 0 n = n ↔ ∀ i, i < n → P i = true := by
  intro n
  induction n with
  | zero => exact ⟨fun _ i hi => absurd hi (Nat.not_lt_zero i), fun _ => rfl⟩
  | succ n ih =>
    rw [cnt_succ, Nat.zero_add]
    have := cnt_le P 0 n
    constructor
    · intro h i hi
      by_cases c : P n = true
      · rw [if_pos c] at h
        by_cases q : i = n
        · rw [q]; exact c
        · exact ih.mp (by omega) i (by omega)
      · rw [if_neg c] at h; omega
    · intro h
      rw [if_pos (h n (by omega)), ih.mpr (fun i hi => h i (by omega))]
section gWo
variable {X : Nat × (Nat → Int32)} {J : Nat → Nat → Int64} {v : Vt} {T : Nat → Nat} {n : Nat} {I : Nat → Nat → Int32}
theorem c_cell {K : Int32 → gH → Option (Int32 × gH)} {tb o m c a e : Nat} (h : cX I v T n) (ht : isTb tb o m) (hc : c < m) (h5 : I 53 5 = iZ (a : Int)) (h6 : I 53 6 = iZ (e : Int)) (hae : a ≤ e) (hen : e ≤ n) (hw : ∀ j, a ≤ j → j < e → isLb (T j) = true) : ∀ (k i fuel : Nat), i + k = 6 → k < fuel → gX6_wordAmong_L44 K 53 tb (iZ (c : Int)) fuel (iZ (cnt (fun i => padF (e - a) (fun j => T (a + j)) i == padF (owl (o + c)) (owc (o + c)) i) 0 i : Nat)) (iZ (i : Int)) (mkS X I J v) = K (iZ (cnt (fun i => padF (e - a) (fun j => T (a + j)) i == padF (owl (o + c)) (owc (o + c)) i) 0 6 : Nat)) (mkS X I J v) := by
  obtain ⟨hT, h3, hv⟩ := h
  have hn := hT.1
  obtain ⟨t1, t2, t3, t4⟩ := isTb_r ht
  intro k
  induction k with
  | zero =>
    intro i fuel hi hf
    obtain ⟨f, rfl⟩ : ∃ n, fuel = n + 1 := ⟨fuel - 1, by omega⟩
    have : i = 6 := by omega
    subst this
    unfold gX6_wordAmong_L44
    rw [if_neg (by decide)]
  | succ k ih =>
    intro i fuel hi hf
    obtain ⟨f, rfl⟩ : ∃ n, fuel = n + 1 := ⟨fuel - 1, by omega⟩
    have hcl := cnt_le (fun i => padF (e - a) (fun j => T (a + j)) i == padF (owl (o + c)) (owc (o + c)) i) 0 i
    have hpc : padF (owl (o + c)) (owc (o + c)) i < 128 := by
      unfold padF
      split
      · next q => have := owc_r (o + c) (by omega) i q; omega
      · omega
    unfold gX6_wordAmong_L44
    rw [if_pos (by rw [cL_lt (by omega) (by omega) (by decide)]; omega)]
    simp only [bO, o53, o53R, h3, h5, h6, iZ_add, pL]
    rw [show (c : Int) * 6 + (i : Int) = ((c * 6 + i : Nat) : Int) by omega]
    have step : ∀ x : Int32, x = iZ (padF (e - a) (fun j => T (a + j)) i : Nat) → padF (e - a) (fun j => T (a + j)) i < 256 → (gb2 (gsv tb (fJ0_charAt_5068e tb (iZ ((c * 6 + i : Nat) : Int)) (mkS X I J v))) fun r17 s18 => if x = r17 then gX6_wordAmong_L44 K 53 tb (iZ (c : Int)) f (iZ (cnt (fun i => padF (e - a) (fun j => T (a + j)) i == padF (owl (o + c)) (owc (o + c)) i) 0 i : Nat) + 1) (iZ (i : Int) + 1) s18 else gX6_wordAmong_L44 K 53 tb (iZ (c : Int)) f (iZ (cnt (fun i => padF (e - a) (fun j => T (a + j)) i == padF (owl (o + c)) (owc (o + c)) i) 0 i : Nat) + 0) (iZ (i : Int) + 1) s18) = K (iZ (cnt (fun i => padF (e - a) (fun j => T (a + j)) i == padF (owl (o + c)) (owc (o + c)) i) 0 6 : Nat)) (mkS X I J v) := by
      intro x hx hx2
      rw [ch_ok t1 (by omega) (by omega), gb2_some, isTb_c ht hc (by omega), hx, show iZ (i : Int) + 1 = iZ ((i + 1 : Nat) : Int) from by rw [aL]; rfl]
      have ec := cnt_succ (fun i => padF (e - a) (fun j => T (a + j)) i == padF (owl (o + c)) (owc (o + c)) i) 0 i
      rw [Nat.zero_add] at ec
      by_cases q : padF (e - a) (fun j => T (a + j)) i = padF (owl (o + c)) (owc (o + c)) i
      · rw [if_pos (by rw [q]), aL]
        rw [if_pos (by simpa using q)] at ec
        rw [show ((cnt (fun i => padF (e - a) (fun j => T (a + j)) i == padF (owl (o + c)) (owc (o + c)) i) 0 i : Nat) : Int) + 1 = (cnt (fun i => padF (e - a) (fun j => T (a + j)) i == padF (owl (o + c)) (owc (o + c)) i) 0 (i + 1) : Nat) by omega]
        exact ih (i + 1) f (by omega) (by omega)
      · rw [if_neg (by rw [iZ_eq (by omega) (by omega) (by omega) (by omega)]; omega), aL]
        rw [if_neg (by simpa using q)] at ec
        rw [show ((cnt (fun i => padF (e - a) (fun j => T (a + j)) i == padF (owl (o + c)) (owc (o + c)) i) 0 i : Nat) : Int) + 0 = (cnt (fun i => padF (e - a) (fun j => T (a + j)) i == padF (owl (o + c)) (owc (o + c)) i) 0 (i + 1) : Nat) by omega]
        exact ih (i + 1) f (by omega) (by omega)
    by_cases c1 : a + i < e
    · rw [if_pos (by rw [iZ_lt (by omega) (by omega) (by omega) (by omega)]; omega), if_pos (by rw [iZ_lt (by omega) (by omega) (by omega) (by omega)]; omega)]
      rw [show (a : Int) + (i : Int) = ((a + i : Nat) : Int) by omega, c_tx hT hv (by omega)]
      simp only [bO]
      have hl := hw (a + i) (by omega) c1
      have hl2 : T (a + i) < 128 := by
        unfold isLb at hl
        rw [Bool.and_eq_true, decide_eq_true_eq, decide_eq_true_eq] at hl; omega
      have ep : padF (e - a) (fun j => T (a + j)) i = T (a + i) := by unfold padF; rw [if_pos (by omega)]
      exact step _ (by rw [ep, sby_lo hl2]) (by rw [ep]; omega)
    · rw [if_neg (by rw [iZ_lt (by omega) (by omega) (by omega) (by omega)]; omega)]
      have ep : padF (e - a) (fun j => T (a + j)) i = 32 := by unfold padF; rw [if_neg (by omega)]
      exact step _ (by rw [ep]; rfl) (by rw [ep]; decide)
theorem c_cells {tb o m a e : Nat} (h : cX I v T n) (ht : isTb tb o m) (h5 : I 53 5 = iZ (a : Int)) (h6 : I 53 6 = iZ (e : Int)) (hae : a ≤ e) (hen : e ≤ n) (he6 : e ≤ a + 6) (hw : ∀ j, a ≤ j → j < e → isLb (T j) = true) : ∀ (k c fuel : Nat), c + k = m → k < fuel → gX6_wordAmong_L26 53 tb fuel (iZ (c : Int)) (mkS X I J v) = some (iZ (nx (fun c => wq T a e (o + c)) k c), mkS X I J v) := by
  obtain ⟨t1, t2, t3, t4⟩ := isTb_r ht
  intro k
  induction k with
  | zero =>
    intro c fuel hc hf
    obtain ⟨f, rfl⟩ : ∃ n, fuel = n + 1 := ⟨fuel - 1, by omega⟩
    unfold gX6_wordAmong_L26
    rw [ln_ok t1, gb2_some, t4, aL, pL, if_pos (by rw [iZ_lt (by omega) (by omega) (by omega) (by omega)]; omega)]
    rfl
  | succ k ih =>
    intro c fuel hc hf
    obtain ⟨f, rfl⟩ : ∃ n, fuel = n + 1 := ⟨fuel - 1, by omega⟩
    unfold gX6_wordAmong_L26
    rw [ln_ok t1, gb2_some, t4, aL, pL, if_neg (by rw [iZ_lt (by omega) (by omega) (by omega) (by omega)]; omega)]
    have hc6 := cnt_le (fun i => padF (e - a) (fun j => T (a + j)) i == padF (owl (o + c)) (owc (o + c)) i) 0 6
    have := c_cell (X := X) (J := J) (K := fun y29 s30 => if y29 = 6 then some (iZ (c : Int), s30) else gX6_wordAmong_L26 53 tb f (iZ (c : Int) + 1) s30) h ht (show c < m by omega) h5 h6 hae hen hw 6 0 20000 (by decide) (by decide)
    rw [aL] at this
    have e0 : iZ ((cnt (fun i => padF (e - a) (fun j => T (a + j)) i == padF (owl (o + c)) (owc (o + c)) i) 0 0 : Nat) : Int) = 0 := rfl
    have e00 : iZ ((0 : Nat) : Int) = 0 := rfl
    rw [e0, e00] at this
    rw [this]
    rw [show (c : Int) + 1 = ((c + 1 : Nat) : Int) by omega, ih (c + 1) f (by omega) (by omega)]
    have key : cnt (fun i => padF (e - a) (fun j => T (a + j)) i == padF (owl (o + c)) (owc (o + c)) i) 0 6 = 6 ↔ wq T a e (o + c) = true := by
      have ol := owl_le (o + c) (by omega)
      rw [cnt_all, wq_iff]
      have := padF_eq (l := e - a) (m := owl (o + c)) (f := fun j => T (a + j)) (g := owc (o + c)) (by omega) ol.2 (fun i hi q => by
        have := hw (a + i) (by omega) (by omega)
        rw [q] at this
        cases this) (fun i hi q => by have := owc_r (o + c) (by omega) i hi; omega)
      constructor
      · intro q
        obtain ⟨p1, p2⟩ := this.mp (fun i hi => by simpa using q i hi)
        exact ⟨by omega, p2⟩
      · intro q i hi
        have := this.mpr ⟨by have := q.1; omega, q.2⟩ i hi
        simpa using this
    show _ = some (iZ (if wq T a e (o + c) = true then (c : Int) else nx (fun c => wq T a e (o + c)) k (c + 1)), mkS X I J v)
    by_cases q : wq T a e (o + c) = true
    · rw [if_pos (by rw [key.mpr q]; rfl), if_pos q]
    · rw [if_neg (by rw [cL_eq (by omega) (by omega) (by decide)]; intro z; exact q (key.mp (by omega))), if_neg q]
theorem tk1 {a : Nat} {t : Bool} (h : tkK T n a t = 1) : a < n ∧ isLb (T a) = true ∧ tkE T n a = rn T n isLb a ∧ t = false := by
  unfold tkK at h
  by_cases c : a < n
  · rw [if_pos c] at h
    by_cases c2 : isLb (T a) = true
    · rw [if_pos c2] at h
      refine ⟨c, c2, ?_, ?_⟩
      · unfold tkE; rw [if_pos c, if_pos c2]
      · cases t
        · rfl
        · rw [if_pos rfl] at h; omega
    · rw [if_neg c2] at h
      split at h
      · split at h <;> omega
      · omega
  · rw [if_neg c] at h; omega
theorem tk1_w {a : Nat} {t : Bool} (h : tkK T n a t = 1) : ∀ j, a ≤ j → j < tkE T n a → isLb (T j) = true := by
  obtain ⟨h1, h2, h3, h4⟩ := tk1 h
  rw [h3]
  exact fun j x y => (rn_in j x y).2
theorem c_wordAmong {r : PS} {tb o m : Nat} (h : cX I v T n) (hr : cO I T n r) (ht : isTb tb o m) : fX6_wordAmong 53 tb (mkS X I J v) = some (iZ (if (o : Int) ≤ pOw T n r ∧ pOw T n r < (o + m : Nat) then pOw T n r - o else -1), mkS X I J v) := by
  obtain ⟨t1, t2, t3, t4⟩ := isTb_r ht
  have hn := h.1.1
  unfold fX6_wordAmong
  simp only [bO, o53]
  cases r with
  | error e =>
    rw [hr.2.2.2.2, if_neg (by decide), if_neg (by show ¬ ((o : Int) ≤ -1 ∧ _); omega)]
    rfl
  | ok s =>
    obtain ⟨q1, q2, q3, q4, q5, q6⟩ := hr
    have hk := tkK_lt T n s.1 s.2
    rw [q2]
    by_cases c : tkK T n s.1 s.2 = 1
    · rw [if_pos (by rw [c]; rfl), q3, q4, iZ_sub]
      have hE := tkE_le (T := T) q5
      have hG := tkE_gt (T := T) (tk1 c).1
      have ep : pOw T n (.ok s) = owI T s.1 (tkE T n s.1) := by
        show (if _ then _ else _) = _
        rw [if_pos c]
      rw [ep]
      by_cases c6 : 6 < tkE T n s.1 - s.1
      · rw [if_pos (by rw [cR_lt (by omega) (by omega) (by decide)]; omega)]
        rcases owI_cases T s.1 (tkE T n s.1) with ⟨p1, p2⟩ | ⟨i, p1, p2, p3⟩
        · rw [p1, if_neg (by omega)]; rfl
        · have := owl_le i p1
          have := p3.1
          omega
      · rw [if_neg (by rw [cR_lt (by omega) (by omega) (by decide)]; omega)]
        have := c_cells (X := X) (J := J) h ht q3 q4 (by omega) hE (by omega) (tk1_w c) m 0 20000 (by omega) (by omega)
        rw [show (0 : Int32) = iZ ((0 : Nat) : Int) from rfl, this]
        congr 3
        rcases nx_cases (fun c => wq T s.1 (tkE T n s.1) (o + c)) m 0 with ⟨p1, p2⟩ | ⟨k, p1, p2, p3, p4, p5⟩
        · rw [p1]
          rcases owI_cases T s.1 (tkE T n s.1) with ⟨w1, w2⟩ | ⟨i, w1, w2, w3⟩
          · rw [w1, if_neg (by omega)]
          · rw [w2, if_neg]
            intro q
            have := p2 (i - o) (by omega) (by omega)
            rw [show o + (i - o) = i by omega, wq_iff.mpr w3] at this
            cases this
        · rw [p1, (owI_iff (show o + k < 29 by omega)).mpr (wq_iff.mp p4), if_pos (by omega)]
          omega
    · rw [if_neg (by rw [cL_eq (by omega) (by omega) (by decide)]; omega)]
      have ep : pOw T n (.ok s) = -1 := by
        show (if _ then _ else _) = _
        rw [if_neg c]
      rw [ep, if_neg (by omega)]; rfl
/-- one word: which string, which own word -/
def isWd (k w : Nat) : Prop := k < 16 ∧ w < 29 ∧ gSl.getD k 0 = owl w ∧ ∀ i, i < owl w → gCh k (iZ (i : Int)) = iZ (owc w i : Nat)
theorem c_isWordL {k w a : Nat} (h : cX I v T n) (hw : isWd k w) (h5 : I 53 5 = iZ (a : Int)) (ha : a + owl w ≤ n) (hb : ∀ j, j < owl w → isLb (T (a + j)) = true) : ∀ (m i fuel : Nat), i + m = owl w → m < fuel → gX6_isWord_L28 53 k fuel (iZ (i : Int)) (mkS X I J v) = some (tf (!exF (fun j => T (a + j) != owc w j) i m), mkS X I J v) := by
  obtain ⟨hT, h3, hv⟩ := h
  have hn := hT.1
  obtain ⟨w1, w2, w3, w4⟩ := hw
  have ol := owl_le w w2
  intro m
  induction m with
  | zero =>
    intro i fuel hi hf
    obtain ⟨f, rfl⟩ : ∃ n, fuel = n + 1 := ⟨fuel - 1, by omega⟩
    unfold gX6_isWord_L28
    rw [ln_ok w1, gb2_some, w3, if_neg (by rw [iZ_lt (by omega) (by omega) (by omega) (by omega)]; omega)]
    rfl
  | succ m ih =>
    intro i fuel hi hf
    obtain ⟨f, rfl⟩ : ∃ n, fuel = n + 1 := ⟨fuel - 1, by omega⟩
    have oc := owc_r w w2 i (by omega)
    unfold gX6_isWord_L28
    rw [ln_ok w1, gb2_some, w3, if_pos (by rw [iZ_lt (by omega) (by omega) (by omega) (by omega)]; omega)]
    simp only [bO, o53, o53R, h3, h5, iZ_add]
    rw [if_pos (by rw [iZ_lt (by omega) (by omega) (by omega) (by omega)]; omega)]
    rw [show (a : Int) + (i : Int) = ((a + i : Nat) : Int) by omega, c_tx hT hv (by omega)]
    simp only [bO]
    rw [ch_ok w1 (by omega) (by omega), gb2_some, w4 i (by omega), show iZ (i : Int) + 1 = iZ ((i + 1 : Nat) : Int) from by rw [aL]; rfl, ih (i + 1) f (by omega) (by omega)]
    show _ = some (tf (!((T (a + i) != owc w i) || exF (fun j => T (a + j) != owc w j) (i + 1) m)), mkS X I J v)
    simp only [show (iZ (sby (T (a + i))) = iZ (owc w i : Nat)) ↔ T (a + i) = owc w i from sby_eq (hT.2 _ (by omega)).1 (by omega)]
    by_cases q : T (a + i) = owc w i
    · rw [if_pos q, show (T (a + i) != owc w i) = false from by simpa using q]; rfl
    · rw [if_neg q, show (T (a + i) != owc w i) = true from by simpa using q]; rfl
theorem c_isWord {r : PS} {k w : Nat} (h : cX I v T n) (hr : cO I T n r) (hw : isWd k w) : fX6_isWord 53 k (mkS X I J v) = some (tf (pOw T n r == (w : Int)), mkS X I J v) := by
  have hn := h.1.1
  have ol := owl_le w hw.2.1
  unfold fX6_isWord gX6_isWord
  simp only [bO, o53]
  cases r with
  | error e =>
    rw [hr.2.2.2.2, if_neg (by decide), show (pOw T n (Except.error e) == (w : Int)) = false from by show ((-1 : Int) == (w : Int)) = false; simp]
    rfl
  | ok s =>
    obtain ⟨q1, q2, q3, q4, q5, q6⟩ := hr
    have hk := tkK_lt T n s.1 s.2
    rw [q2]
    by_cases c : tkK T n s.1 s.2 = 1
    · rw [if_pos (by rw [c]; rfl), q3, q4, iZ_sub, ln_ok hw.1, gb2_some, hw.2.2.1]
      have hE := tkE_le (T := T) q5
      have hG := tkE_gt (T := T) (tk1 c).1
      have ep : pOw T n (.ok s) = owI T s.1 (tkE T n s.1) := by
        show (if _ then _ else _) = _
        rw [if_pos c]
      have ew : (pOw T n (.ok s) == (w : Int)) = wq T s.1 (tkE T n s.1) w := by
        apply Bool.eq_iff_iff.mpr
        rw [beq_iff_eq, ep, owI_iff hw.2.1, wq_iff]
      rw [ew]
      unfold wq
      by_cases z : tkE T n s.1 = s.1 + owl w
      · rw [if_pos (by rw [iZ_eq (by omega) (by omega) (by omega) (by omega)]; omega)]
        have := c_isWordL (X := X) (J := J) h hw q3 (by omega) (fun j hj => tk1_w c _ (by omega) (by omega)) (owl w) 0 20000 (by omega) (by omega)
        rw [show (0 : Int32) = iZ ((0 : Nat) : Int) from rfl, this, gzr_tf, show (tkE T n s.1 == s.1 + owl w) = true from by simpa using z, Bool.true_and]
      · rw [if_neg (by rw [iZ_eq (by omega) (by omega) (by omega) (by omega)]; omega), show (tkE T n s.1 == s.1 + owl w) = false from by simpa using z]
        rfl
    · rw [if_neg (by rw [cL_eq (by omega) (by omega) (by decide)]; omega)]
      have ep : pOw T n (.ok s) = -1 := by
        show (if _ then _ else _) = _
        rw [if_neg c]
      rw [ep, show ((-1 : Int) == (w : Int)) = false from by simp]; rfl
theorem c_isOwn {r : PS} (h : cX I v T n) (hr : cO I T n r) : fX6_isOwnWord 53 (mkS X I J v) = some (tf (pOw T n r != -1), mkS X I J v) := by
  have hp := pOw_r T n r
  unfold fX6_isOwnWord gX6_isOwnWord
  simp only [o53, c_wordAmong h hr (show isTb 1 17 12 from Or.inl ⟨rfl, rfl, rfl⟩), c_wordAmong h hr (show isTb 2 11 6 from Or.inr (Or.inl ⟨rfl, rfl, rfl⟩)), c_wordAmong h hr (show isTb 3 0 4 from Or.inr (Or.inr (Or.inl ⟨rfl, rfl, rfl⟩))), c_wordAmong h hr (show isTb 4 4 7 from Or.inr (Or.inr (Or.inr ⟨rfl, rfl, rfl⟩))), bO]
  have cm : ∀ z : Int, -1 ≤ z → z < 100 → ((iZ z = -1) ↔ z = -1) := fun z h1 h2 => cM_eq (by omega) (by omega)
  generalize pOw T n r = w at hp
  by_cases c : w = -1
  · subst c
    rfl
  · have e : (w != -1) = true := by simpa using c
    rw [e]
    by_cases c1 : 17 ≤ w
    · rw [if_pos (show ((17 : Nat) : Int) ≤ w ∧ w < ((17 + 12 : Nat) : Int) by omega), if_neg (by rw [cm _ (by omega) (by omega)]; omega)]; rfl
    · rw [if_neg (show ¬ (((17 : Nat) : Int) ≤ w ∧ w < ((17 + 12 : Nat) : Int)) by omega), if_pos (show iZ (-1) = -1 from rfl)]
      by_cases c2 : 11 ≤ w
      · rw [if_pos (show ((11 : Nat) : Int) ≤ w ∧ w < ((11 + 6 : Nat) : Int) by omega), if_neg (by rw [cm _ (by omega) (by omega)]; omega)]; rfl
      · rw [if_neg (show ¬ (((11 : Nat) : Int) ≤ w ∧ w < ((11 + 6 : Nat) : Int)) by omega), if_pos (show iZ (-1) = -1 from rfl)]
        by_cases c3 : w < 4
        · rw [if_pos (show ((0 : Nat) : Int) ≤ w ∧ w < ((0 + 4 : Nat) : Int) by omega), if_neg (by rw [cm _ (by omega) (by omega)]; omega)]; rfl
        · rw [if_neg (show ¬ (((0 : Nat) : Int) ≤ w ∧ w < ((0 + 4 : Nat) : Int)) by omega), if_pos (show iZ (-1) = -1 from rfl), if_pos (show ((4 : Nat) : Int) ≤ w ∧ w < ((4 + 7 : Nat) : Int) by omega), if_neg (by rw [cm _ (by omega) (by omega)]; omega)]; rfl
end gWo
