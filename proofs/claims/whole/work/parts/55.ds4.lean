/-! DAY SETS: the first from a day on -/
def nx (P : Nat → Bool) : Nat → Nat → Int
  | 0, _ => -1
  | n + 1, d => if P d then (d : Int) else nx P n (d + 1)
theorem nx_found {P : Nat → Bool} {k : Nat} : ∀ {n d : Nat}, d ≤ k → k < d + n → P k = true → (∀ j, d ≤ j → j < k → P j = false) → nx P n d = (k : Int) := by
  intro n
  induction n with
  | zero => intro d h1 h2; omega
  | succ n ih =>
    intro d h1 h2 h3 h4
    unfold nx
    by_cases hd : d = k
    · subst hd; rw [if_pos h3]
    · rw [if_neg (by rw [h4 d (by omega) (by omega)]; decide)]
      exact ih (by omega) (by omega) h3 (fun j a b => h4 j (by omega) b)
theorem nx_none {P : Nat → Bool} : ∀ {n d : Nat}, (∀ j, d ≤ j → j < d + n → P j = false) → nx P n d = -1 := by
  intro n
  induction n with
  | zero => intro d _; rfl
  | succ n ih =>
    intro d h
    unfold nx
    rw [if_neg (by rw [h d (by omega) (by omega)]; decide)]
    exact ih (fun j a b => h j (by omega) (by omega))
theorem nx_cases (P : Nat → Bool) : ∀ (n d : Nat), (nx P n d = -1 ∧ ∀ j, d ≤ j → j < d + n → P j = false) ∨ ∃ k : Nat, nx P n d = (k : Int) ∧ d ≤ k ∧ k < d + n ∧ P k = true ∧ ∀ j, d ≤ j → j < k → P j = false := by
  intro n
  induction n with
  | zero => intro d; exact Or.inl ⟨rfl, fun j a b => by omega⟩
  | succ n ih =>
    intro d
    unfold nx
    by_cases hd : P d = true
    · rw [if_pos hd]
      exact Or.inr ⟨d, rfl, by omega, by omega, hd, fun j a b => by omega⟩
    · rw [if_neg hd]
      have hd' : P d = false := by simpa using hd
      rcases ih (d + 1) with ⟨h1, h2⟩ | ⟨k, h1, h2, h3, h4, h5⟩
      · refine Or.inl ⟨h1, fun j a b => ?_⟩
        by_cases q : j = d
        · rw [q]; exact hd'
        · exact h2 j (by omega) (by omega)
      · refine Or.inr ⟨k, h1, by omega, by omega, h4, fun j a b => ?_⟩
        by_cases q : j = d
        · rw [q]; exact hd'
        · exact h5 j (by omega) (by omega)
theorem nx_congr {P Q : Nat → Bool} : ∀ {n d : Nat}, (∀ j, d ≤ j → j < d + n → P j = Q j) → nx P n d = nx Q n d := by
  intro n
  induction n with
  | zero => intro d _; rfl
  | succ n ih =>
    intro d h
    unfold nx
    rw [h d (by omega) (by omega), ih (fun j a b => h j (by omega) (by omega))]
abbrev nxt (P : Nat → Bool) (d : Nat) : Int := nx P (14610 - d) d
theorem nxt_cases (P : Nat → Bool) (d : Nat) : (nxt P d = -1 ∧ ∀ j, d ≤ j → j < 14610 → P j = false) ∨ ∃ k : Nat, nxt P d = (k : Int) ∧ d ≤ k ∧ k < 14610 ∧ P k = true ∧ ∀ j, d ≤ j → j < k → P j = false := by
  rcases nx_cases P (14610 - d) d with ⟨h1, h2⟩ | ⟨k, h1, h2, h3, h4, h5⟩
  · exact Or.inl ⟨h1, fun j a b => h2 j a (by omega)⟩
  · exact Or.inr ⟨k, h1, h2, by omega, h4, h5⟩
theorem nxt_found {P : Nat → Bool} {d k : Nat} (h1 : d ≤ k) (h2 : k < 14610) (h3 : P k = true) (h4 : ∀ j, d ≤ j → j < k → P j = false) : nxt P d = (k : Int) := nx_found h1 (by omega) h3 h4
theorem nxt_none {P : Nat → Bool} {d : Nat} (h : ∀ j, d ≤ j → j < 14610 → P j = false) : nxt P d = -1 := nx_none (fun j a b => h j a (by omega))
theorem nxt_skip {P : Nat → Bool} {d e : Nat} (h : ∀ j, d ≤ j → j < e → P j = false) (he : d ≤ e) : nxt P d = nxt P e := by
  rcases nxt_cases P e with ⟨h1, h2⟩ | ⟨k, h1, h2, h3, h4, h5⟩
  · rw [h1]
    apply nxt_none
    intro j a b
    by_cases q : j < e
    · exact h j a q
    · exact h2 j (by omega) b
  · rw [h1]
    apply nxt_found (by omega) h3 h4
    intro j a b
    by_cases q : j < e
    · exact h j a q
    · exact h5 j (by omega) b
theorem nxt_congr {P Q : Nat → Bool} {d : Nat} (h : ∀ j, d ≤ j → j < 14610 → P j = Q j) : nxt P d = nxt Q d := nx_congr (fun j a b => h j a (by omega))
theorem nxt_range (P : Nat → Bool) (d : Nat) : nxt P d = -1 ∨ (d : Int) ≤ nxt P d ∧ nxt P d < 14610 := by
  rcases nxt_cases P d with ⟨h1, h2⟩ | ⟨k, h1, h2, h3, -⟩
  · exact Or.inl h1
  · exact Or.inr (by omega)
def sP (how : Nat) (a b : Bool) : Bool := if how = 0 then a && b else if how = 1 then a ^^ b else !(a || b)
section gDs4
variable {X : Nat × (Nat → Int32)} {I : Nat → Nat → Int32} {J : Nat → Nat → Int64} {v : Vt} {r r2 : Nat}
def sK : Int64 → Int32 → gH → Option (Int32 × gH) := fun y23 y24 s25 =>
          if lg_cmp y23 0 = 0 then
            some (-1, s25)
          else
            gb2 (fJ13_bitCount_95d88 ((y23 &&& (-y23)) - 1) s25) fun r27 s28 =>
            some (((y24 - 1) * 64) + r27, s28)
theorem ds_searchL {how : Nat} (h : isDS r) (h2 : isDS r2) (hh : how < 3) : ∀ (m i from_ : Nat) (asked : Int64) (fuel : Nat), i + m = 229 → m + 1 < fuel → 64 * i ≤ from_ → from_ < 14610 ∨ i = 229 → from_ < 64 * (i + 1) → (∀ j, j < 64 → wb asked j = decide (from_ ≤ 64 * i + j)) → gX2_search_L32 sK r r2 (iZ (how : Int)) fuel 0 (iZ (i : Int)) asked (mkS X I J v) = some (iZ (nxt (fun d => sP how (dsf J r d) (dsf J r2 d)) from_), mkS X I J v) := by
  intro m
  induction m with
  | zero =>
    intro i from_ asked fuel q1 q2 q3 q4 q5 hw
    obtain ⟨n, rfl⟩ : ∃ n, fuel = n + 1 := ⟨fuel - 1, by omega⟩
    unfold gX2_search_L32
    rw [if_pos (by rw [lgc_0])]
    simp (disch := omega) only [cL_lt]
    rw [if_neg (by omega)]
    unfold sK
    rw [if_pos (by rw [lgc_0]), nxt_none (fun j a b => by omega)]
    rfl
  | succ m ih =>
    intro i from_ asked fuel q1 q2 q3 q4 q5 hw
    obtain ⟨n, rfl⟩ : ∃ n, fuel = n + 1 + 1 := ⟨fuel - 2, by omega⟩
    rw [gX2_search_L32]
    rw [if_pos (by rw [lgc_0])]
    simp (disch := omega) only [cL_lt]
    rw [if_pos (by omega), ds_R h, ds_R h2]
    simp only [bO]
    rw [ds_g h _ _ (by omega), ds_g h2 _ _ (by omega)]
    simp only [bO]
    simp (disch := omega) only [cL_eq, aL]
    have key : ∀ z : Int64, (∀ j, j < 64 → wb z j = (sP how (dsf J r (64 * i + j)) (dsf J r2 (64 * i + j)) && (decide (from_ ≤ 64 * i + j) && decide (64 * i + j < 14610)))) → gX2_search_L32 sK r r2 (iZ (how : Int)) (n + 1) z (iZ ((i : Int) + 1)) (-1) (mkS X I J v) = some (iZ (nxt (fun d => sP how (dsf J r d) (dsf J r2 d)) from_), mkS X I J v) := by
      intro z hz
      by_cases hz0 : z = 0
      · subst hz0
        have hs : nxt (fun d => sP how (dsf J r d) (dsf J r2 d)) from_ = nxt (fun d => sP how (dsf J r d) (dsf J r2 d)) (64 * (i + 1)) := by
          by_cases hlast : 64 * (i + 1) ≤ 14610
          · apply nxt_skip _ (by omega)
            intro j a b
            have := hz (j - 64 * i) (by omega)
            rw [wb_0, show 64 * i + (j - 64 * i) = j by omega, decide_eq_true a, decide_eq_true (show j < 14610 by omega)] at this
            simpa using this.symm
          · rw [nxt_none (d := 64 * (i + 1)) (fun j a b => by omega)]
            apply nxt_none
            intro j a b
            have := hz (j - 64 * i) (by omega)
            rw [wb_0, show 64 * i + (j - 64 * i) = j by omega, decide_eq_true a, decide_eq_true b] at this
            simpa using this.symm
        rw [hs]
        exact ih (i + 1) (64 * (i + 1)) (-1) (n + 1) (by omega) (by omega) (by omega) (by omega) (by omega) (fun j hj => by rw [wb_m1 hj, decide_eq_true (by omega)])
      · obtain ⟨t, t1, t2, t3⟩ := wb_ne hz0
        rw [gX2_search_L32]
        rw [if_neg (by rw [lgc_0]; exact hz0)]
        unfold sK
        rw [if_neg (by rw [lgc_0]; exact hz0), c_bitCount, cnt_low t2 t3]
        simp only [bO]
        have ht := hz t t1
        rw [t2] at ht
        have ht' := ht.symm
        simp only [Bool.and_eq_true, decide_eq_true_eq] at ht'
        have e : nxt (fun d => sP how (dsf J r d) (dsf J r2 d)) from_ = ((64 * i + t : Nat) : Int) := by
          apply nxt_found ht'.2.1 ht'.2.2 ht'.1
          intro j a b
          have := hz (j - 64 * i) (by omega)
          rw [t3 _ (by omega), show 64 * i + (j - 64 * i) = j by omega, decide_eq_true a, decide_eq_true (show j < 14610 by omega)] at this
          simpa using this.symm
        rw [e]
        simp only [sL, pL, iZ_add]
        congr 3
        omega
    have key2 : ∀ z13 : Int64, (∀ j, j < 64 → wb z13 j = sP how (dsf J r (64 * i + j)) (dsf J r2 (64 * i + j))) → (if (i : Int) = 228 then gX2_search_L32 sK r r2 (iZ (how : Int)) (n + 1) (z13 &&& (asked &&& 262143)) (iZ ((i : Int) + 1)) (-1) (mkS X I J v) else gX2_search_L32 sK r r2 (iZ (how : Int)) (n + 1) (z13 &&& asked) (iZ ((i : Int) + 1)) (-1) (mkS X I J v)) = some (iZ (nxt (fun d => sP how (dsf J r d) (dsf J r2 d)) from_), mkS X I J v) := by
      intro z13 hz
      by_cases hi : i = 228
      · rw [if_pos (by omega)]
        apply key
        intro j hj
        rw [wb_and, wb_and, hz j hj, hw j hj, wb_last hj]
        congr 3
        apply propext
        omega
      · rw [if_neg (by omega)]
        apply key
        intro j hj
        rw [wb_and, hz j hj, hw j hj, decide_eq_true (show 64 * i + j < 14610 by omega), Bool.and_true]
    have hb1 : ∀ j, j < 64 → wb (J (r + 1) i) j = dsf J r (64 * i + j) := fun j hj => (bg_at hj).symm
    have hb2 : ∀ j, j < 64 → wb (J (r2 + 1) i) j = dsf J r2 (64 * i + j) := fun j hj => (bg_at hj).symm
    by_cases h0 : how = 0
    · rw [if_pos (by omega)]
      apply key2
      intro j hj
      rw [wb_and, hb1 j hj, hb2 j hj]
      unfold sP
      rw [if_pos h0]
    · rw [if_neg (by omega)]
      by_cases h1 : how = 1
      · rw [if_pos (by omega)]
        apply key2
        intro j hj
        rw [wb_xor, hb1 j hj, hb2 j hj]
        unfold sP
        rw [if_neg h0, if_pos h1]
      · rw [if_neg (by omega)]
        apply key2
        intro j hj
        rw [wb_not hj, wb_or, hb1 j hj, hb2 j hj]
        unfold sP
        rw [if_neg h0, if_neg h1]
theorem ds_search {how : Nat} {z : Int} (h : isDS r) (h2 : isDS r2) (hh : how < 3) (h3 : -2147483648 ≤ z) (h4 : z < 2147483648) : fX2_search r r2 (iZ z) (iZ (how : Int)) (mkS X I J v) = some (iZ (if 0 ≤ z ∧ z < 14610 then nxt (fun d => sP how (dsf J r d) (dsf J r2 d)) z.toNat else -1), mkS X I J v) := by
  unfold fX2_search
  simp (disch := omega) only [cL_lt]
  by_cases q1 : z < 0
  · rw [if_pos q1, if_neg (by omega)]; rfl
  · rw [if_neg q1]
    by_cases q2 : z < 14610
    · rw [if_pos q2, if_pos (by omega)]
      obtain ⟨d, rfl⟩ : ∃ n : Nat, z = (n : Int) := ⟨z.toNat, by omega⟩
      rw [d_shr (by omega), d_and, Int.toNat_natCast]
      simp only [bO]
      refine ds_searchL (m := 229 - d / 64) h h2 hh (d / 64) d _ 20000 (by omega) (by omega) (by omega) (by omega) (by omega) ?_
      intro j hj
      rw [wb_shl (by omega) hj, wb_m1' , decide_eq_true (show j - d % 64 < 64 by omega), Bool.and_true]
      congr 1
      apply propext
      omega
    · rw [if_neg q2, if_neg (by omega)]; rfl
end gDs4
