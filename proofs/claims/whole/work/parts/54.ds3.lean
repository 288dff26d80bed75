/-! DAY SETS: so many days later, sooner -/
def jw (f : Nat → Int64) (z : Int) : Int64 := if 0 ≤ z ∧ z < 229 then f z.toNat else 0
theorem jput_down {J : Nat → Nat → Int64} {a m : Nat} {g : Nat → Int64} (hm : m < 229) : gup (jput J a (m + 1) g) a m (g m) = jput J a m g := by
  funext b k
  unfold jput gup
  dsimp only
  by_cases h : b = a ∧ k = m
  · rw [if_pos h, if_pos (by omega), h.2]
  · rw [if_neg h]
    by_cases h2 : b = a ∧ m + 1 ≤ k ∧ k < 229
    · rw [if_pos h2, if_pos (by omega)]
    · rw [if_neg h2, if_neg (by omega)]
def jlow (J : Nat → Nat → Int64) (a i : Nat) (g : Nat → Int64) : Nat → Nat → Int64 := fun b k => if b = a ∧ k < i then g k else J b k
theorem jlow_up {J : Nat → Nat → Int64} {a m : Nat} {g : Nat → Int64} : gup (jlow J a m g) a m (g m) = jlow J a (m + 1) g := by
  funext b k
  unfold jlow gup
  dsimp only
  by_cases h : b = a ∧ k = m
  · rw [if_pos h, if_pos (by omega), h.2]
  · rw [if_neg h]
    by_cases h2 : b = a ∧ k < m
    · rw [if_pos h2, if_pos (by omega)]
    · rw [if_neg h2, if_neg (by omega)]
theorem jlow_end {J : Nat → Nat → Int64} {a : Nat} {g : Nat → Int64} : jlow J a 229 g = jset J a g := by
  funext b k
  unfold jlow jset jput
  by_cases h2 : b = a ∧ k < 229
  · rw [if_pos h2, if_pos (by omega)]
  · rw [if_neg h2, if_neg (by omega)]
theorem jlow_0 {J : Nat → Nat → Int64} {a : Nat} {g : Nat → Int64} : jlow J a 0 g = J := by
  funext b k
  exact if_neg (by omega)
theorem jset_in {J : Nat → Nat → Int64} {a k : Nat} {f : Nat → Int64} (h2 : k < 229) : jset J a f a k = f k := jput_in (Nat.zero_le _) h2
theorem jset_o {J : Nat → Nat → Int64} {a b : Nat} {f : Nat → Int64} (h : b ≠ a) : jset J a f b = J b := funext fun k => jput_o h
def laterW (f : Nat → Int64) (w p k : Nat) : Int64 := gLshl (jw f ((k : Int) - w)) (iZ (p : Int)) ||| (if p = 0 then 0 else gLushr (jw f ((k : Int) - w - 1)) (iZ ((64 - p : Nat) : Int)))
def soonerW (f : Nat → Int64) (w p k : Nat) : Int64 := gLushr (jw f ((k : Int) + w)) (iZ (p : Int)) ||| (if p = 0 then 0 else gLshl (jw f ((k : Int) + w + 1)) (iZ ((64 - p : Nat) : Int)))
theorem bg_later {f : Nat → Int64} {w p d : Nat} (hp : p < 64) (hd : d < 14656) : bg (laterW f w p) d = (decide (64 * w + p ≤ d) && bg f (d - (64 * w + p))) := by
  unfold bg laterW jw
  rw [wb_or, wb_shl hp (by omega)]
  by_cases hj : p ≤ d % 64
  · rw [decide_eq_true hj, Bool.true_and]
    have e2 : wb (if p = 0 then (0 : Int64) else gLushr (if 0 ≤ ((d / 64 : Nat) : Int) - w - 1 ∧ ((d / 64 : Nat) : Int) - w - 1 < 229 then f (((d / 64 : Nat) : Int) - w - 1).toNat else 0) (iZ ((64 - p : Nat) : Int))) (d % 64) = false := by
      by_cases h0 : p = 0
      · rw [if_pos h0, wb_0]
      · rw [if_neg h0, wb_ushr (by omega), wb_ge (by omega)]
    rw [e2, Bool.or_false]
    by_cases hw : w ≤ d / 64
    · rw [if_pos (by omega), decide_eq_true (by omega : 64 * w + p ≤ d), Bool.true_and, show (((d / 64 : Nat) : Int) - w).toNat = (d - (64 * w + p)) / 64 by omega, show d % 64 - p = (d - (64 * w + p)) % 64 by omega]
    · rw [if_neg (by omega), decide_eq_false (by omega : ¬ 64 * w + p ≤ d), wb_0, Bool.false_and]
  · rw [decide_eq_false hj, Bool.false_and, Bool.false_or, if_neg (by omega), wb_ushr (by omega)]
    by_cases hw : w + 1 ≤ d / 64
    · rw [if_pos (by omega), decide_eq_true (by omega : 64 * w + p ≤ d), Bool.true_and, show (((d / 64 : Nat) : Int) - w - 1).toNat = (d - (64 * w + p)) / 64 by omega, show 64 - p + d % 64 = (d - (64 * w + p)) % 64 by omega]
    · rw [if_neg (by omega), decide_eq_false (by omega : ¬ 64 * w + p ≤ d), wb_0, Bool.false_and]
theorem bg_sooner {f : Nat → Int64} {w p d : Nat} (hp : p < 64) (hd : d < 14656) : bg (soonerW f w p) d = (decide (d + (64 * w + p) < 14656) && bg f (d + (64 * w + p))) := by
  unfold bg soonerW jw
  rw [wb_or, wb_ushr hp]
  by_cases hj : p + d % 64 < 64
  · have e2 : wb (if p = 0 then (0 : Int64) else gLshl (if 0 ≤ ((d / 64 : Nat) : Int) + w + 1 ∧ ((d / 64 : Nat) : Int) + w + 1 < 229 then f (((d / 64 : Nat) : Int) + w + 1).toNat else 0) (iZ ((64 - p : Nat) : Int))) (d % 64) = false := by
      by_cases h0 : p = 0
      · rw [if_pos h0, wb_0]
      · rw [if_neg h0, wb_shl (by omega) (by omega), decide_eq_false (by omega), Bool.false_and]
    rw [e2, Bool.or_false]
    by_cases hw : d / 64 + w < 229
    · rw [if_pos (by omega), decide_eq_true (by omega : d + (64 * w + p) < 14656), Bool.true_and, show (((d / 64 : Nat) : Int) + w).toNat = (d + (64 * w + p)) / 64 by omega, show p + d % 64 = (d + (64 * w + p)) % 64 by omega]
    · rw [if_neg (by omega), decide_eq_false (by omega : ¬ d + (64 * w + p) < 14656), wb_0, Bool.false_and]
  · rw [wb_ge (by omega), Bool.false_or, if_neg (by omega), wb_shl (by omega) (by omega), decide_eq_true (by omega : 64 - p ≤ d % 64), Bool.true_and]
    by_cases hw : d / 64 + w + 1 < 229
    · rw [if_pos (by omega), decide_eq_true (by omega : d + (64 * w + p) < 14656), Bool.true_and, show (((d / 64 : Nat) : Int) + w + 1).toNat = (d + (64 * w + p)) / 64 by omega, show d % 64 - (64 - p) = (d + (64 * w + p)) % 64 by omega]
    · rw [if_neg (by omega), decide_eq_false (by omega : ¬ d + (64 * w + p) < 14656), wb_0, Bool.false_and]
theorem wb_last {j : Nat} (hj : j < 64) : wb 262143 j = decide (j < 18) := by
  have : ∀ j, j < 64 → wb 262143 j = decide (j < 18) := by decide +kernel
  exact this j hj
section gDs3
variable {X : Nat × (Nat → Int32)} {I : Nat → Nat → Int32} {J : Nat → Nat → Int64} {v : Vt} {r r2 : Nat}
theorem ds_word {z : Int} (h : isDS r) (J : Nat → Nat → Int64) (h1 : -2147483648 ≤ z) (h2 : z < 2147483648) : fX2_word r (iZ z) (mkS X I J v) = some (jw (J (r + 1)) z, mkS X I J v) := by
  unfold fX2_word jw
  simp (disch := omega) only [cL_lt]
  by_cases q1 : z < 0
  · rw [if_pos q1, if_neg (by omega)]
  · rw [if_neg q1]
    by_cases q2 : z < 229
    · rw [if_pos q2, if_pos (by omega), ds_R h]
      obtain ⟨n, rfl⟩ : ∃ n : Nat, z = (n : Int) := ⟨z.toNat, by omega⟩
      simp only [bO]
      rw [ds_g h _ _ (by omega)]
      rfl
    · rw [if_neg q2, if_neg (by omega)]
theorem jw_congr {f g : Nat → Int64} {z : Int} (h : ∀ k : Nat, k < 229 → (k : Int) = z → f k = g k) : jw f z = jw g z := by
  unfold jw
  by_cases q : 0 ≤ z ∧ z < 229
  · rw [if_pos q, if_pos q, h _ (by omega) (by omega)]
  · rw [if_neg q, if_neg q]
theorem ds_laterL {K : gH → Option (Unit × gH)} {w p : Nat} (h : isDS r) (hw : w < 100) (hp : p < 64) : ∀ (m fuel : Nat), m ≤ 229 → m < fuel → gX2_shiftLater_L15 K r (iZ (w : Int)) (iZ (p : Int)) fuel (iZ ((m : Int) - 1)) (mkS X I (jput J (r + 1) m (laterW (J (r + 1)) w p)) v) = K (mkS X I (jset J (r + 1) (laterW (J (r + 1)) w p)) v) := by
  intro m
  induction m with
  | zero =>
    intro fuel h1 h2
    obtain ⟨n, rfl⟩ : ∃ n, fuel = n + 1 := ⟨fuel - 1, by omega⟩
    unfold gX2_shiftLater_L15
    simp (disch := omega) only [cL_lt]
    rw [if_pos (by omega)]
  | succ m ih =>
    intro fuel h1 h2
    obtain ⟨n, rfl⟩ : ∃ n, fuel = n + 1 := ⟨fuel - 1, by omega⟩
    unfold gX2_shiftLater_L15
    simp (disch := omega) only [cL_lt, cL_eq, iZ_sub, sL, sR, bO, ds_c h]
    rw [if_neg (by omega)]
    have e1 : ∀ z : Int, z ≤ m → jw (jput J (r + 1) (m + 1) (laterW (J (r + 1)) w p) (r + 1)) z = jw (J (r + 1)) z := fun z hz => jw_congr (fun k hk hk2 => jput_lo (by omega))
    have em : (((m + 1 : Nat) : Int) - 1) = (m : Int) := by omega
    rw [em]
    have fin : ∀ z6 : Int64, z6 = (if p = 0 then 0 else gLushr (jw (J (r + 1)) ((m : Int) - w - 1)) (iZ ((64 - p : Nat) : Int))) → ((ggR (mkS X I (jput J (r + 1) (m + 1) (laterW (J (r + 1)) w p)) v) r 2 0).bind fun v8 => gb2 (fX2_word r (iZ ((m : Int) - (w : Int))) (mkS X I (jput J (r + 1) (m + 1) (laterW (J (r + 1)) w p)) v)) fun r9 s10 => (saJ s10 v8 (iZ (m : Int)) (gLshl r9 (iZ (p : Int)) ||| z6)).bind fun s11 => gX2_shiftLater_L15 K r (iZ (w : Int)) (iZ (p : Int)) n (iZ (m : Int) + -1) s11) = K (mkS X I (jset J (r + 1) (laterW (J (r + 1)) w p)) v) := by
      intro z6 hz
      rw [ds_R h, ds_word h _ (by omega) (by omega), e1 _ (by omega)]
      simp only [bO]
      rw [ds_s h _ _ (by omega), show gLshl (jw (J (r + 1)) ((m : Int) - w)) (iZ (p : Int)) ||| z6 = laterW (J (r + 1)) w p m by rw [hz]; rfl, jput_down (by omega)]
      simp only [bO]
      rw [show iZ (m : Int) + -1 = iZ ((m : Int) - 1) by rw [show (-1 : Int32) = iZ (-1) from rfl, iZ_add]; rfl]
      exact ih n (by omega) (by omega)
    by_cases h0 : p = 0
    · rw [if_pos (by omega)]
      exact fin 0 (by rw [if_pos h0])
    · rw [if_neg (by omega), ds_word h _ (by omega) (by omega), e1 _ (by omega)]
      simp only [bO, ds_c h]
      rw [show ((64 : Int) - (p : Int)) = ((64 - p : Nat) : Int) by omega]
      exact fin _ (by rw [if_neg h0])
theorem ds_later {n : Nat} (h : isDS r) (hn : n < 6400) : ∃ f, fX2_shiftLater r (iZ (n : Int)) (mkS X I J v) = some ((), mkS X I (jset J (r + 1) f) v) ∧ ∀ d, d < 14656 → bg f d = (decide (d < 14610) && (decide (n ≤ d) && dsf J r (d - n))) := by
  unfold fX2_shiftLater
  rw [d_shr (by omega), d_and]
  simp only [bO]
  have := ds_laterL (X := X) (I := I) (J := J) (v := v) (K := fun s15 => (ggR s15 r 2 0).bind fun v16 => (gaJ s15 v16 228).bind fun v17 => (saJ s15 v16 228 (v17 &&& 262143)).bind fun s18 => some ((), s18)) (w := n / 64) (p := n % 64) h (by omega) (by omega) 229 20000 (by omega) (by omega)
  rw [jput_end (by omega), show iZ (((229 : Nat) : Int) - 1) = (228 : Int32) from rfl] at this
  rw [this, ds_R h]
  simp only [bO]
  rw [show (228 : Int32) = iZ ((228 : Nat) : Int) from rfl, ds_g h _ _ (by omega)]
  simp only [bO]
  rw [ds_s h _ _ (by omega)]
  simp only [bO]
  refine ⟨_, by rw [jset_gup (by omega), jset_jset], ?_⟩
  intro d hd
  have e := bg_later (f := J (r + 1)) (w := n / 64) (p := n % 64) (d := d) (by omega) hd
  rw [show 64 * (n / 64) + n % 64 = n by omega] at e
  unfold dsf
  rw [← e]
  unfold bg
  dsimp only
  by_cases h228 : d / 64 = 228
  · rw [if_pos h228, wb_and, wb_last (by omega), jset_in (by omega), h228, Bool.and_comm]
    congr 2
    apply propext
    omega
  · rw [if_neg h228, jset_in (by omega), decide_eq_true (show d < 14610 by omega), Bool.true_and]
theorem ds_soonerL {w p : Nat} (h : isDS r) (hw : w < 100) (hp : p < 64) : ∀ (fuel i : Nat), i ≤ 229 → 229 - i < fuel → gX2_shiftSooner_L13 r (iZ (w : Int)) (iZ (p : Int)) fuel (iZ (i : Int)) (mkS X I (jlow J (r + 1) i (soonerW (J (r + 1)) w p)) v) = some ((), mkS X I (jset J (r + 1) (soonerW (J (r + 1)) w p)) v) := by
  intro fuel
  induction fuel with
  | zero => intro i h1 h2; omega
  | succ n ih =>
    intro i h1 h2
    unfold gX2_shiftSooner_L13
    simp (disch := omega) only [cL_lt, cL_eq, iZ_add, aL, sR, bO, ds_c h]
    by_cases hi : i < 229
    · rw [if_pos (by omega)]
      have e1 : ∀ z : Int, i ≤ z → jw (jlow J (r + 1) i (soonerW (J (r + 1)) w p) (r + 1)) z = jw (J (r + 1)) z := fun z hz => jw_congr (fun k hk hk2 => if_neg (by omega))
      have fin : ∀ z6 : Int64, z6 = (if p = 0 then 0 else gLshl (jw (J (r + 1)) ((i : Int) + w + 1)) (iZ ((64 - p : Nat) : Int))) → ((ggR (mkS X I (jlow J (r + 1) i (soonerW (J (r + 1)) w p)) v) r 2 0).bind fun v8 => gb2 (fX2_word r (iZ ((i : Int) + (w : Int))) (mkS X I (jlow J (r + 1) i (soonerW (J (r + 1)) w p)) v)) fun r9 s10 => (saJ s10 v8 (iZ (i : Int)) (gLushr r9 (iZ (p : Int)) ||| z6)).bind fun s11 => gX2_shiftSooner_L13 r (iZ (w : Int)) (iZ (p : Int)) n (iZ ((i : Int) + 1)) s11) = some ((), mkS X I (jset J (r + 1) (soonerW (J (r + 1)) w p)) v) := by
        intro z6 hz
        rw [ds_R h, ds_word h _ (by omega) (by omega), e1 _ (by omega)]
        simp only [bO]
        rw [ds_s h _ _ (by omega), show gLushr (jw (J (r + 1)) ((i : Int) + w)) (iZ (p : Int)) ||| z6 = soonerW (J (r + 1)) w p i by rw [hz]; rfl, jlow_up]
        simp only [bO]
        exact ih (i + 1) (by omega) (by omega)
      by_cases h0 : p = 0
      · rw [if_pos (by omega)]
        exact fin 0 (by rw [if_pos h0])
      · rw [if_neg (by omega), ds_word h _ (by omega) (by omega), e1 _ (by omega)]
        simp only [bO, ds_c h]
        rw [show ((64 : Int) - (p : Int)) = ((64 - p : Nat) : Int) by omega]
        exact fin _ (by rw [if_neg h0])
    · rw [if_neg (by omega), show i = 229 by omega, jlow_end]
theorem ds_sooner {n : Nat} (h : isDS r) (hn : n < 6400) : ∃ f, fX2_shiftSooner r (iZ (n : Int)) (mkS X I J v) = some ((), mkS X I (jset J (r + 1) f) v) ∧ ∀ d, d < 14656 → bg f d = (decide (d + n < 14656) && dsf J r (d + n)) := by
  unfold fX2_shiftSooner
  rw [d_shr (by omega), d_and]
  simp only [bO]
  have := ds_soonerL (X := X) (I := I) (J := J) (v := v) (w := n / 64) (p := n % 64) h (by omega) (by omega) 20000 0 (by omega) (by omega)
  rw [jlow_0] at this
  refine ⟨_, this, ?_⟩
  intro d hd
  have e := bg_sooner (f := J (r + 1)) (w := n / 64) (p := n % 64) (d := d) (by omega) hd
  rw [show 64 * (n / 64) + n % 64 = n by omega] at e
  exact e
end gDs3
