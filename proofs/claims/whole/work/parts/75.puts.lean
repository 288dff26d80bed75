/-! THE LEDGER puts a set together -/
theorem rowA {t : Nat} (h : t < 6) : isRow (119 + 4 * t) ∧ rowCap (119 + 4 * t) = 20 := by
  have : rowCap (119 + 4 * t) = 20 := by
    unfold rowCap
    rw [if_neg (by omega), if_pos (by omega)]
  exact ⟨by unfold isRow; rw [this]; decide, this⟩
theorem rowB {t : Nat} (h : t < 6) : isRow (121 + 4 * t) ∧ rowCap (121 + 4 * t) = 20 := by
  have : rowCap (121 + 4 * t) = 20 := by
    unfold rowCap
    rw [if_neg (by omega), if_pos (by omega)]
  exact ⟨by unfold isRow; rw [this]; decide, this⟩
section gPt
variable {X : Nat × (Nat → Int32)} {v : Vt} {I : Nat → Nat → Int32}
theorem c_addL {k118 : gH → Option (Unit × gH)} {t r : Nat} {B P : Nat → Bool} (ht : t < 6) (hr : isDS r) (hc : crow I (119 + 4 * t) P) : ∀ (m k fuel : Nat) (J : Nat → Nat → Int64), k + m = cnt P 0 14610 → m < fuel → dsP J r (fun d => B d || inF (I (119 + 4 * t + 1)) k d) → ∃ J', gX5_putTogether_L85 k118 60 (iZ (t : Int)) r fuel (iZ (k : Int)) (mkS X I J v) = k118 (mkS X I J' v) ∧ frJ r J J' ∧ dsP J' r (fun d => B d || P d) := by
  obtain ⟨q1, q2⟩ := rowA ht
  obtain ⟨r1, r2, r3⟩ := hc
  intro m
  induction m with
  | zero =>
    intro k fuel J hk hf hD
    obtain ⟨f, rfl⟩ : ∃ n, fuel = n + 1 := ⟨fuel - 1, by omega⟩
    refine ⟨J, ?_, frJ_r r J, dsP_c hD (fun d hd => ?_)⟩
    · unfold gX5_putTogether_L85
      simp only [bO, o60R, g63 I J ht, row_i q1, r1]
      rw [if_neg (by rw [iZ_lt (by omega) (by omega) (by omega) (by omega)]; omega)]
    · rw [show k = cnt P 0 14610 by omega, rowP_in r3 hd]
  | succ m ih =>
    intro k fuel J hk hf hD
    obtain ⟨f, rfl⟩ : ∃ n, fuel = n + 1 := ⟨fuel - 1, by omega⟩
    obtain ⟨e, e1, e2, e3⟩ := r3.2.1 k (by omega)
    unfold gX5_putTogether_L85
    simp only [bO, o60R, g63 I J ht, row_i q1, row_c q1, r1]
    rw [if_pos (by rw [iZ_lt (by omega) (by omega) (by omega) (by omega)]; omega), row_value q1 r1 (by omega) (by omega)]
    simp only [bO, e3, ds_c hr]
    obtain ⟨g, p1, p2⟩ := ds_put (X := X) (I := I) (J := J) (v := v) (z := (e : Int)) hr (by omega) (by omega)
    rw [p1, gb2_some, show iZ (k : Int) + 1 = iZ ((k + 1 : Nat) : Int) from by rw [aL]; rfl]
    obtain ⟨J', s1, s2, s3⟩ := ih (k + 1) f (jset J (r + 1) g) (by omega) (by omega) (dsP_s (fun d hd => by
      rw [p2 d hd, hD d hd, inF_succ, e3, decide_eq_true (show (e : Int) < 14610 by omega), Bool.true_and]
      by_cases c : d < 14610
      · by_cases c2 : d = e
        · rw [decide_eq_true (show (d : Int) = e by omega), decide_eq_true c, c2, decide_eq_true rfl]; simp
        · rw [decide_eq_false (show ¬ (d : Int) = e by omega), decide_eq_false (show ¬ iZ (e : Int) = iZ (d : Int) by rw [iZ_eq (by omega) (by omega) (by omega) (by omega)]; omega)]; simp
      · rw [decide_eq_false (show ¬ (d : Int) = e by omega), decide_eq_false c]; rfl))
    exact ⟨J', s1, frJ_t frJ_s s2, s3⟩
theorem c_takeL {t r : Nat} {B P : Nat → Bool} (ht : t < 6) (hr : isDS r) (hc : crow I (121 + 4 * t) P) : ∀ (m k fuel : Nat) (J : Nat → Nat → Int64), k + m = cnt P 0 14610 → m < fuel → dsP J r (fun d => B d && !inF (I (121 + 4 * t + 1)) k d) → ∃ J', gX5_putTogether_L120 60 (iZ (t : Int)) r fuel (iZ (k : Int)) (mkS X I J v) = some ((), mkS X I J' v) ∧ frJ r J J' ∧ dsP J' r (fun d => B d && !P d) := by
  obtain ⟨q1, q2⟩ := rowB ht
  obtain ⟨r1, r2, r3⟩ := hc
  intro m
  induction m with
  | zero =>
    intro k fuel J hk hf hD
    obtain ⟨f, rfl⟩ : ∃ n, fuel = n + 1 := ⟨fuel - 1, by omega⟩
    refine ⟨J, ?_, frJ_r r J, dsP_c hD (fun d hd => ?_)⟩
    · unfold gX5_putTogether_L120
      simp only [bO, o60R, g64 I J ht, row_i q1, r1]
      rw [if_neg (by rw [iZ_lt (by omega) (by omega) (by omega) (by omega)]; omega)]
    · rw [show k = cnt P 0 14610 by omega, rowP_in r3 hd]
  | succ m ih =>
    intro k fuel J hk hf hD
    obtain ⟨f, rfl⟩ : ∃ n, fuel = n + 1 := ⟨fuel - 1, by omega⟩
    obtain ⟨e, e1, e2, e3⟩ := r3.2.1 k (by omega)
    unfold gX5_putTogether_L120
    simp only [bO, o60R, g64 I J ht, row_i q1, row_c q1, r1]
    rw [if_pos (by rw [iZ_lt (by omega) (by omega) (by omega) (by omega)]; omega), row_value q1 r1 (by omega) (by omega)]
    simp only [bO, e3, ds_c hr]
    obtain ⟨g, p1, p2⟩ := ds_take (X := X) (I := I) (J := J) (v := v) (z := (e : Int)) hr (by omega) (by omega)
    rw [p1, gb2_some, show iZ (k : Int) + 1 = iZ ((k + 1 : Nat) : Int) from by rw [aL]; rfl]
    obtain ⟨J', s1, s2, s3⟩ := ih (k + 1) f (jset J (r + 1) g) (by omega) (by omega) (dsP_s (fun d hd => by
      rw [p2 d hd, hD d hd, inF_succ, e3, decide_eq_true (show (e : Int) < 14610 by omega), Bool.true_and]
      by_cases c : d < 14610
      · by_cases c2 : d = e
        · rw [decide_eq_true (show (d : Int) = e by omega), c2, decide_eq_true rfl]; simp
        · rw [decide_eq_false (show ¬ (d : Int) = e by omega), decide_eq_false (show ¬ iZ (e : Int) = iZ (d : Int) by rw [iZ_eq (by omega) (by omega) (by omega) (by omega)]; omega)]; simp
      · rw [decide_eq_false c]; rfl))
    exact ⟨J', s1, frJ_t frJ_s s2, s3⟩
theorem c_putTogether {J : Nat → Nat → Int64} {K : Nat → Nat → Bool} {kn : Nat → Prop} {b t k : Nat} {L : List (Nat × Nat)} {A B : Nat → Bool} (hb : isBk b) (hv : v.2.2.1 = b) (ht : t < 6) (hkn : ∀ w, kn w → w < 12) (hk : k + (trL L).length ≤ 800) (hs : cseg I b k (trL L)) (h1 : k = 0 ∧ t = 0 ∨ 1 ≤ t ∧ I (b + 4) (t - 1) = iZ (k : Int)) (h2 : I (b + 4) t = iZ ((k + (trL L).length : Nat) : Int)) (hok : mokR kn L 0) (hK : ∀ w, kn w → dsP J (65 + 2 * w) (K w)) (hA : crow I (119 + 4 * t) A) (hB : crow I (121 + 4 * t) B) : ∃ I' J', fX5_putTogether 60 (iZ (t : Int)) (mkS X I J v) = some ((), mkS X I' J' v) ∧ (∀ r k, (r ≠ 60 ∨ k ≠ 6) → I' r k = I r k) ∧ (∀ a, (∀ i, i < 15 → a ≠ 90 + 2 * i) → a ≠ 65 + 2 * (6 + t) + 1 → J' a = J a) ∧ dsP J' (65 + 2 * (6 + t)) (setD K L A B) := by
  have hb60 := bk_r hb
  have hds := isDS_k (show 6 + t < 12 by omega)
  have est : fX1_codeStart b (iZ (t : Int)) (mkS X (gup I 60 6 0) J v) = some (iZ (k : Int), mkS X (gup I 60 6 0) J v) := by
    rw [c_codeStart hb ht]
    rcases h1 with ⟨q1, q2⟩ | ⟨q1, q2⟩
    · rw [if_pos q2, q1]; rfl
    · rw [if_neg (by omega), gup_r (by omega), q2]
  unfold fX5_putTogether
  simp only [bO, o60, o60R, hv, bk_c hb, est]
  obtain ⟨I1, J1, a1, a2, a3, a4⟩ := c_codesL (X := X) (v := v) (K := K) (kn := kn) (b := b) (t := t) (e := k + (trL L).length) (k52 := fun s18 => if iZ (t : Int) < 0 then some ((), s18) else if iZ (t : Int) < 6 then (ggR s18 60 5 1).bind fun v21 => (gaR s18 v21 5 (6 + iZ (t : Int))).bind fun v22 => (ggR s18 60 5 2).bind fun v23 => (gaR s18 v23 5 0).bind fun v24 => gb2 (gcv s18 v22 2 (fX2_copy v22 v24 s18)) fun r25 s26 => gX5_putTogether_L85 (fun s38 => gX5_putTogether_L120 60 (iZ (t : Int)) v22 20000 0 s38) 60 (iZ (t : Int)) v22 20000 0 s26 else some ((), s18)) hb hv ht hk hkn (trL L) k 20000 (gup I 60 6 0) J (0, fun _ _ => false) (cseg_fr (fun k => gup_r (by omega)) hs) rfl (by omega) (by rw [gup_r (by omega)]; exact h2) ⟨gup_s, fun i hi => absurd hi (Nat.not_lt_zero i)⟩ (cokR_of hok) hK
  have hone : (crun K (trL L) (0, fun _ _ => false)).1 = 1 := crun_one (cokR_of hok)
  have fr1 : ∀ r k, (r ≠ 60 ∨ k ≠ 6) → I1 r k = I r k := fun r k q => by
    rw [a2 r k q]
    rcases q with q | q
    · exact gup_r q
    · exact gup_k q
  have eL : ∀ (K1 K2 : gH → Option (Unit × gH)) (s : gH), (∀ s, K1 s = K2 s) → gX5_putTogether_L14 K1 60 (iZ (t : Int)) 20000 (iZ (k : Int)) s = gX5_putTogether_L14 K2 60 (iZ (t : Int)) 20000 (iZ (k : Int)) s := fun K1 K2 s h => by rw [show K1 = K2 from funext h]
  refine Exists.elim (c_addL (X := X) (v := v) (I := I1) (k118 := fun s38 => gX5_putTogether_L120 60 (iZ (t : Int)) (65 + 2 * (6 + t)) 20000 0 s38) (t := t) (r := 65 + 2 * (6 + t)) (B := setB K L) (P := A) ht hds ?_ (cnt A 0 14610) 0 20000 (jset J1 (65 + 2 * (6 + t) + 1) (J1 (89 + 1))) ?_ ?_ ?_) ?_
  · unfold crow at hA ⊢
    rw [fr1 _ _ (Or.inl (by omega)), show I1 (119 + 4 * t + 1) = I (119 + 4 * t + 1) from funext fun k => fr1 _ k (Or.inl (by omega))]
    exact hA
  · omega
  · have := hA.2.1; omega
  · refine dsP_s (fun d hd => ?_)
    have := a4.2 0 (by omega) d hd
    rw [show bg (J1 (89 + 1)) d = dsf J1 (89 + 2 * 0) d from rfl, this]
    congr 1
    show _ = (setB K L d || false)
    rw [Bool.or_false]; rfl
  · rintro J2 ⟨b1, b2, b3⟩
    obtain ⟨J3, c1, c2, c3⟩ := c_takeL (X := X) (v := v) (I := I1) (t := t) (r := 65 + 2 * (6 + t)) (B := fun d => setB K L d || A d) (P := B) ht hds (by
      unfold crow at hB ⊢
      rw [fr1 _ _ (Or.inl (by omega)), show I1 (121 + 4 * t + 1) = I (121 + 4 * t + 1) from funext fun k => fr1 _ k (Or.inl (by omega))]
      exact hB) (cnt B 0 14610) 0 20000 J2 (by omega) (by have := hB.2.1; omega) (dsP_c b3 (fun d hd => by show _ = ((setB K L d || A d) && !false); simp))
    refine ⟨I1, J3, ?_, fr1, ?_, c3⟩
    · rw [a1]
      rw [if_neg (by rw [cL_lt (by omega) (by omega) (by decide)]; omega), if_pos (by rw [cL_lt (by omega) (by omega) (by decide)]; omega)]
      simp only [bO, o60R, aR]
      rw [show (6 : Int) + (t : Int) = ((6 + t : Nat) : Int) by omega, g61 I1 J1 (by omega)]
      simp only [bO, o60R, ds_c hds]
      rw [show (0 : Int32) = iZ ((0 : Nat) : Int) from rfl, g62 I1 J1 (by decide)]
      simp only [bO, ds_c hds]
      rw [ds_copy hds (isDS_t (show 0 < 15 by decide)), gb2_some]
      exact b1.trans c1
    · intro a h3 h4
      rw [c2 a h4, b2 a h4, jset_o h4, a3 a h3]
end gPt
