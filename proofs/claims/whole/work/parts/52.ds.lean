/-! DAY SETS: their objects -/
def isDSb (r : Nat) : Bool := (decide (65 ≤ r) && decide (r ≤ 117) && r % 2 == 1) || r == 189
def isDS (r : Nat) : Prop := isDSb r = true
set_option maxRecDepth 20000 in
theorem dsT : ∀ r, r < 200 → isDSb r = true → layK.getD (r - 50) 0 = 3 ∧ layK.getD (r + 1 - 50) 0 = 23 ∧ layL.getD (r + 1 - 50) 0 = 229 ∧ (layR.getD (r - 50) []).length = 1 ∧ (layR.getD (r - 50) []).getD 0 0 = r + 1 := by decide +kernel
theorem isDS_r {r : Nat} (h : isDS r) : 65 ≤ r ∧ r < 190 ∧ r % 2 = 1 ∧ (r ≤ 117 ∨ r = 189) := by
  unfold isDS isDSb at h
  simp only [Bool.or_eq_true, Bool.and_eq_true, decide_eq_true_eq, beq_iff_eq] at h
  omega
theorem ds_all {r : Nat} (h : isDS r) : gK cst r = 2 + 1 ∧ gK cst (r + 1) = 20 + 3 ∧ gLn cst (r + 1) = 229 ∧ gR cst r 0 = r + 1 := by
  obtain ⟨h1, h2, -⟩ := isDS_r h
  obtain ⟨t1, t2, t3, t4, t5⟩ := dsT r (by omega) h
  refine ⟨?_, ?_, ?_, ?_⟩
  · rw [cK r (by omega) (by omega), t1]
  · rw [cK (r + 1) (by omega) (by omega), t2]
  · rw [cL (r + 1) (by omega) (by omega), t3]
  · rw [cR r 0 (by omega) (by omega) (by omega), t5]
/-- a row of 229 words from i on -/
def jput (J : Nat → Nat → Int64) (a i : Nat) (f : Nat → Int64) : Nat → Nat → Int64 := fun b k => if b = a ∧ i ≤ k ∧ k < 229 then f k else J b k
abbrev jset (J : Nat → Nat → Int64) (a : Nat) (f : Nat → Int64) : Nat → Nat → Int64 := jput J a 0 f
theorem jput_in {J : Nat → Nat → Int64} {a i k : Nat} {f : Nat → Int64} (h1 : i ≤ k) (h2 : k < 229) : jput J a i f a k = f k := if_pos ⟨rfl, h1, h2⟩
theorem jput_o {J : Nat → Nat → Int64} {a i b k : Nat} {f : Nat → Int64} (h : b ≠ a) : jput J a i f b k = J b k := if_neg (fun q => h q.1)
theorem jput_lo {J : Nat → Nat → Int64} {a i b k : Nat} {f : Nat → Int64} (h : k < i) : jput J a i f b k = J b k := if_neg (fun q => by omega)
theorem jput_end {J : Nat → Nat → Int64} {a i : Nat} {f : Nat → Int64} (h : 229 ≤ i) : jput J a i f = J := by
  funext b k
  exact if_neg (fun q => by omega)
theorem jput_step {J : Nat → Nat → Int64} {a i : Nat} {f : Nat → Int64} {x : Int64} (hi : i < 229) (hx : x = f i) : jput (gup J a i x) a (i + 1) f = jput J a i f := by
  funext b k
  unfold jput gup
  by_cases h : b = a ∧ i + 1 ≤ k ∧ k < 229
  · rw [if_pos h, if_pos (by omega)]
  · rw [if_neg h]
    by_cases h2 : b = a ∧ k = i
    · rw [if_pos h2, if_pos (by omega), hx, h2.2]
    · rw [if_neg h2, if_neg (by omega)]
theorem jset_gup {J : Nat → Nat → Int64} {a i : Nat} {x : Int64} (hi : i < 229) : gup J a i x = jset J a (fun k => if k = i then x else J a k) := by
  funext b k
  unfold jset jput gup
  by_cases h : b = a ∧ k = i
  · rw [if_pos h, if_pos (by omega)]
    exact (if_pos h.2).symm
  · rw [if_neg h]
    by_cases h2 : b = a ∧ 0 ≤ k ∧ k < 229
    · rw [if_pos h2, h2.1]
      exact (if_neg (fun q => h ⟨h2.1, q⟩)).symm
    · rw [if_neg h2]
theorem jset_jset {J : Nat → Nat → Int64} {a : Nat} {f g : Nat → Int64} : jset (jset J a f) a g = jset J a g := by
  funext b k
  unfold jset jput
  by_cases h2 : b = a ∧ 0 ≤ k ∧ k < 229
  · rw [if_pos h2, if_pos h2]
  · rw [if_neg h2, if_neg h2, if_neg h2]
theorem jset_self {J : Nat → Nat → Int64} {a : Nat} : jset J a (J a) = J := by
  funext b k
  unfold jset jput
  by_cases h2 : b = a ∧ 0 ≤ k ∧ k < 229
  · rw [if_pos h2, h2.1]
  · rw [if_neg h2]
/-- the bits of a row of words -/
def bg (f : Nat → Int64) (d : Nat) : Bool := wb (f (d / 64)) (d % 64)
theorem bg_at {f : Nat → Int64} {i j : Nat} (hj : j < 64) : bg f (64 * i + j) = wb (f i) j := by
  unfold bg
  rw [show (64 * i + j) / 64 = i by omega, show (64 * i + j) % 64 = j by omega]
theorem bg_jset {J : Nat → Nat → Int64} {a d : Nat} {f : Nat → Int64} (h : d < 14656) : bg (jset J a f a) d = bg f d := by
  show wb (jput J a 0 f a (d / 64)) _ = _
  rw [jput_in (by omega) (by omega)]
  rfl
/-- the days of a day set -/
def dsf (J : Nat → Nat → Int64) (r : Nat) : Nat → Bool := bg (J (r + 1))
def dsOK (J : Nat → Nat → Int64) (r : Nat) : Prop := ∀ d, 14610 ≤ d → d < 14656 → dsf J r d = false
section gDs
variable {X : Nat × (Nat → Int32)} {I : Nat → Nat → Int32} {J : Nat → Nat → Int64} {v : Vt} {r r2 : Nat}
theorem ds_R (h : isDS r) (I : Nat → Nat → Int32) (J : Nat → Nat → Int64) : ggR (mkS X I J v) r 2 0 = some (r + 1) := by
  obtain ⟨h1, h2, -⟩ := isDS_r h
  rw [ggR_mk (ds_all h).1]
  congr 1
  unfold Rv
  rw [if_neg (by omega), if_neg (by omega), if_neg (by omega), if_neg (by omega), if_neg (by omega), if_neg (by omega)]
  exact (ds_all h).2.2.2
theorem ds_c (h : isDS r) (I : Nat → Nat → Int32) (J : Nat → Nat → Int64) {β : Type} (o : Option β) : gcv (mkS X I J v) r 2 o = o := gcv_mk (ds_all h).1
theorem ds_g (h : isDS r) (I : Nat → Nat → Int32) (J : Nat → Nat → Int64) {n : Nat} (hn : n < 229) : gaJ (mkS X I J v) (r + 1) (iZ (n : Int)) = some (J (r + 1) n) := gaJ_n (ds_all h).2.1 (ds_all h).2.2.1 (by have := isDS_r h; omega) (by decide) hn
theorem ds_s (h : isDS r) (I : Nat → Nat → Int32) (J : Nat → Nat → Int64) {n : Nat} {x : Int64} (hn : n < 229) : saJ (mkS X I J v) (r + 1) (iZ (n : Int)) x = some (mkS X I (gup J (r + 1) n x) v) := saJ_n (ds_all h).2.1 (ds_all h).2.2.1 (by have := isDS_r h; omega) (by decide) hn
theorem ds_clearL (h : isDS r) : ∀ (fuel i : Nat) (J : Nat → Nat → Int64), i ≤ 229 → 229 - i < fuel → gJ7_fill_d0a16_L6 (r + 1) 0 (iZ 229) fuel (iZ (i : Int)) (mkS X I J v) = some ((), mkS X I (jput J (r + 1) i (fun _ => 0)) v) := by
  intro fuel
  induction fuel with
  | zero => intro i J h1 h2; omega
  | succ n ih =>
    intro i J h1 h2
    unfold gJ7_fill_d0a16_L6
    simp (disch := omega) only [iZ_lt, aL]
    by_cases hi : i < 229
    · rw [if_pos (by omega), ds_s h _ _ hi, show (i : Int) + 1 = ((i + 1 : Nat) : Int) by omega]
      simp only [bO]
      rw [ih _ _ (by omega) (by omega), jput_step (f := fun _ => 0) hi rfl]
    · rw [if_neg (by omega), jput_end (by omega)]
theorem ds_clear (h : isDS r) : fX2_clear r (mkS X I J v) = some ((), mkS X I (jset J (r + 1) (fun _ => 0)) v) := by
  unfold fX2_clear
  rw [ds_R h]
  simp only [bO]
  unfold fJ7_fill_d0a16
  rw [glen_mk (by rw [(ds_all h).2.1]; decide) (by rw [(ds_all h).2.1]; decide) (by have := isDS_r h; omega), (ds_all h).2.2.1]
  simp only [bO]
  rw [show Int32.ofNat 229 = iZ 229 from rfl, show (0 : Int32) = iZ ((0 : Nat) : Int) from rfl, ds_clearL h 20000 0 J (by omega) (by omega)]
  rfl
theorem ds_copy (h : isDS r) (h2 : isDS r2) : fX2_copy r r2 (mkS X I J v) = some ((), mkS X I (jset J (r + 1) (J (r2 + 1))) v) := by
  unfold fX2_copy
  rw [ds_R h, ds_R h2]
  simp only [bO]
  unfold cpJ
  have e1 : gK (mkS X I J v) (r2 + 1) = 23 := (ds_all h2).2.1
  have e2 : gK (mkS X I J v) (r + 1) = 23 := (ds_all h).2.1
  have e3 : gLn (mkS X I J v) (r2 + 1) = 229 := (L0_ge (X := X) (by have := isDS_r h2; omega)).trans (ds_all h2).2.2.1
  have e4 : gLn (mkS X I J v) (r + 1) = 229 := (L0_ge (X := X) (by have := isDS_r h; omega)).trans (ds_all h).2.2.1
  rw [if_pos ⟨⟨e1, e2⟩, by decide, by rw [e3]; decide, by rw [e4]; decide⟩]
  simp only [bO]
  unfold mkS uJs
  congr 6
  funext b k
  unfold jset jput
  by_cases hb : b = r + 1
  · rw [if_pos hb]
    subst hb
    show va_cpy (J (r2 + 1)) (J (r + 1)) 0 0 229 k = _
    unfold va_cpy
    by_cases hk : k < 229
    · rw [if_pos ⟨by omega, by omega⟩, if_pos ⟨rfl, by omega, hk⟩, Nat.sub_zero, Nat.zero_add]
    · rw [if_neg (by omega), if_neg (by omega)]
  · rw [if_neg hb, if_neg (fun q => hb q.1)]
end gDs
