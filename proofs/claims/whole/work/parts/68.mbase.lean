/-! THE REFERENCE lays what periods have, and the days of a rule -/
def frX (c : Nat) (I I' : Nat → Nat → Int32) : Prop := ∀ r k, r ≠ c → I' r k = I r k
theorem frX_r (c : Nat) (I : Nat → Nat → Int32) : frX c I I := fun _ _ _ => rfl
theorem frX_t {c : Nat} {I I' I'' : Nat → Nat → Int32} (h1 : frX c I I') (h2 : frX c I' I'') : frX c I I'' := fun r k a => (h2 r k a).trans (h1 r k a)
theorem frX_g {c n : Nat} {x : Int32} {I : Nat → Nat → Int32} : frX c I (gup I c n x) := fun r k a => gup_r a
theorem mRl_fr {I I' : Nat → Nat → Int32} {r : Nat} {R : RuL} (h : mRl I r R) (e1 : ∀ k, I' 276 k = I 276 k) (e2 : I' 281 (2 * r + 1) = I 281 (2 * r + 1)) : mRl I' r R := by
  unfold mRl at h ⊢
  simp only [e1, e2]
  exact h
theorem mRl_X {c : Nat} {I I' : Nat → Nat → Int32} {r : Nat} {R : RuL} (h : mRl I r R) (f : frX c I I') (h1 : c ≠ 276) (h2 : c ≠ 281) : mRl I' r R := mRl_fr h (fun k => f 276 k (Ne.symm h1)) (f 281 _ (Ne.symm h2))
theorem calOK_X {c : Nat} {I I' : Nat → Nat → Int32} (h : calOK I) (f : frX c I I') (h1 : c < 271 ∨ 274 < c) : calOK I' := by
  intro k hk
  rw [f 271 k (by omega), f 272 k (by omega), f 273 k (by omega), f 274 k (by omega)]
  exact h k hk
theorem gnar_tf (b : Bool) : gnar 4 (tf b) = tf b := by cases b <;> decide
theorem m_flag {b : Bool} {s : gH} : fX12_flag (tf b) s = some (tf b, s) := by cases b <;> rfl
theorem tf_n (b : Bool) : tf b = iZ ((if b = true then 1 else 0 : Nat) : Int) := by cases b <;> rfl
section gMb
variable {X : Nat × (Nat → Int32)} {I : Nat → Nat → Int32} {J : Nat → Nat → Int64} {v : Vt} {r d : Nat} {R : RuL}
theorem m_lp1 {K : Int32 → Int32 → gH → Option (Int32 × gH)} {p : Nat} (hr : r < 6) (ok : RuLok R) (hf : pFst R.u p < 14610) : ∀ (m i fuel : Nat) (I : Nat → Nat → Int32), i + m = pLen R.u p → m < fuel → mRl I r R → calOK I → (∀ j, j < i → I 284 (pFst R.u p + j) = tf (R.Of (pFst R.u p + j))) → ∃ I', gX12_laysPeriod_L5 K 267 (iZ (r : Int)) (iZ (pFst R.u p : Nat)) fuel (iZ ((pFst R.u p + i : Nat) : Int)) (iZ (cnt R.Of (pFst R.u p) i : Nat)) (mkS X I J v) = K (iZ ((pFst R.u p + pLen R.u p : Nat) : Int)) (iZ (cnt R.Of (pFst R.u p) (pLen R.u p) : Nat)) (mkS X I' J v) ∧ frX 284 I I' ∧ (∀ d, d < pFst R.u p → I' 284 d = I 284 d) ∧ (∀ j, j < pLen R.u p → I' 284 (pFst R.u p + j) = tf (R.Of (pFst R.u p + j))) := by
  have hstep := pFst_lt (u := R.u) (p := p)
  have eL : pLen R.u p = min 14610 (pFst R.u (p + 1)) - pFst R.u p := rfl
  have h0 : rPer R.u (pFst R.u p) = p := rPer_eq hf (Nat.le_refl _) hstep
  intro m
  induction m with
  | zero =>
    intro i fuel I hi hfu hR hc hb
    obtain ⟨n, rfl⟩ : ∃ n, fuel = n + 1 := ⟨fuel - 1, by omega⟩
    have : i = pLen R.u p := by omega
    subst this
    refine ⟨I, ?_, frX_r 284 I, fun _ _ => rfl, hb⟩
    unfold gX12_laysPeriod_L5
    simp (disch := omega) only [cL_lt]
    by_cases c : pFst R.u p + pLen R.u p < 14610
    · rw [if_pos (by omega)]
      simp only [bO, m_c, m_periodOf hr hR ok hc c, m_periodOf hr hR ok hc hf, h0]
      have e : pFst R.u p + pLen R.u p = pFst R.u (p + 1) := by omega
      have := rPer_le (u := R.u) hf
      rw [show rPer R.u (pFst R.u p + pLen R.u p) = p + 1 from rPer_eq c (by omega) (by rw [e]; exact pFst_lt)]
      rw [if_neg (by rw [iZ_eq (by omega) (by omega) (by omega) (by omega)]; omega)]
    · rw [if_neg (by omega)]
  | succ m ih =>
    intro i fuel I hi hfu hR hc hb
    obtain ⟨n, rfl⟩ : ∃ n, fuel = n + 1 := ⟨fuel - 1, by omega⟩
    have hd : pFst R.u p + i < 14610 := by omega
    have hcl := cnt_le R.Of (pFst R.u p) i
    have hp : rPer R.u (pFst R.u p + i) = p := rPer_eq hd (by omega) (by omega)
    unfold gX12_laysPeriod_L5
    rw [if_pos (by rw [cL_lt (by omega) (by omega) (by omega)]; omega)]
    simp only [bO, m_c, o267R, m_periodOf hr hR ok hc hd, m_periodOf hr hR ok hc hf, h0, hp, m_isOfPeriod hr hR ok hc hd]
    rw [if_pos trivial, b284 _ _ _ _ _ _ hd]
    simp only [bO, o267R, a284 _ _ _ _ _ hd, gnar_tf, gup_s, m_flag]
    have e1 : iZ ((pFst R.u p + i : Nat) : Int) + 1 = iZ ((pFst R.u p + (i + 1) : Nat) : Int) := by rw [aL]; congr 1
    have e2 : iZ (cnt R.Of (pFst R.u p) i : Nat) + tf (R.Of (pFst R.u p + i)) = iZ (cnt R.Of (pFst R.u p) (i + 1) : Nat) := by
      rw [tf_n, iZ_add, cnt_succ]; congr 1
    rw [e1, e2]
    obtain ⟨I', r1, r2, r3, r4⟩ := ih (i + 1) n (gup I 284 (pFst R.u p + i) (tf (R.Of (pFst R.u p + i)))) (by omega) (by omega) (mRl_X hR frX_g (by decide) (by decide)) (calOK_X hc frX_g (by decide)) (fun j hj => by
      by_cases c : j = i
      · rw [c, gup_s]
      · rw [gup_k (by omega)]; exact hb j (by omega))
    exact ⟨I', r1, frX_t frX_g r2, fun d hd2 => by rw [r3 d hd2, gup_k (by omega)], r4⟩
theorem m_lp2 {p : Nat} (hr : r < 6) (ok : RuLok R) (hf : pFst R.u p < 14610) : ∀ (m i fuel : Nat) (I : Nat → Nat → Int32), i + m = pLen R.u p → m < fuel → mRl I r R → (∀ j, j < i → I 284 (pFst R.u p + j) = tf (rBs R (pFst R.u p + j))) → (∀ j, i ≤ j → j < pLen R.u p → I 284 (pFst R.u p + j) = tf (R.Of (pFst R.u p + j))) → ∃ I', gX12_laysPeriod_L65 267 (iZ (r : Int)) (iZ ((pFst R.u p + pLen R.u p : Nat) : Int)) (iZ (cnt R.Of (pFst R.u p) (pLen R.u p) : Nat)) fuel (iZ (cnt R.Of (pFst R.u p) i : Nat)) (iZ ((pFst R.u p + i : Nat) : Int)) (mkS X I J v) = some (iZ ((pFst R.u p + pLen R.u p : Nat) : Int), mkS X I' J v) ∧ frX 284 I I' ∧ (∀ d, d < pFst R.u p → I' 284 d = I 284 d) ∧ (∀ j, j < pLen R.u p → I' 284 (pFst R.u p + j) = tf (rBs R (pFst R.u p + j))) := by
  have hstep := pFst_lt (u := R.u) (p := p)
  have eL : pLen R.u p = min 14610 (pFst R.u (p + 1)) - pFst R.u p := rfl
  have hlen : pLen R.u p ≤ 366 := by
    have := pFst_len (u := R.u) (p := p) ok.u
    unfold pLen; omega
  have hcL := cnt_le R.Of (pFst R.u p) (pLen R.u p)
  intro m
  induction m with
  | zero =>
    intro i fuel I hi hfu hR hb ha
    obtain ⟨n, rfl⟩ : ∃ n, fuel = n + 1 := ⟨fuel - 1, by omega⟩
    have : i = pLen R.u p := by omega
    subst this
    refine ⟨I, ?_, frX_r 284 I, fun _ _ => rfl, hb⟩
    unfold gX12_laysPeriod_L65
    rw [if_neg (by rw [iZ_lt (by omega) (by omega) (by omega) (by omega)]; omega)]
  | succ m ih =>
    intro i fuel I hi hfu hR hb ha
    obtain ⟨n, rfl⟩ : ∃ n, fuel = n + 1 := ⟨fuel - 1, by omega⟩
    have hd : pFst R.u p + i < 14610 := by omega
    have hcl := cnt_le R.Of (pFst R.u p) i
    have hp : rPer R.u (pFst R.u p + i) = p := rPer_eq hd (by omega) (by omega)
    have eB : rBs R (pFst R.u p + i) = (R.Of (pFst R.u p + i) && rAt R (cnt R.Of (pFst R.u p) i + 1) (cnt R.Of (pFst R.u p) (pLen R.u p))) := by
      unfold rBs
      rw [hp, Nat.add_sub_cancel_left]
    unfold gX12_laysPeriod_L65
    rw [if_pos (by rw [iZ_lt (by omega) (by omega) (by omega) (by omega)]; omega)]
    simp only [bO, m_c, o267R, a284 _ _ _ _ _ hd, ha i (Nat.le_refl i) (by omega), tf_0]
    have e1 : iZ ((pFst R.u p + i : Nat) : Int) + 1 = iZ ((pFst R.u p + (i + 1) : Nat) : Int) := by rw [aL]; congr 1
    rw [e1]
    cases hof : R.Of (pFst R.u p + i) with
    | false =>
      rw [if_pos rfl, show cnt R.Of (pFst R.u p) i = cnt R.Of (pFst R.u p) (i + 1) from by rw [cnt_succ, hof]; rfl]
      obtain ⟨I', r1, r2, r3, r4⟩ := ih (i + 1) n I (by omega) (by omega) hR (fun j hj => by
        by_cases c : j = i
        · rw [c, ha i (Nat.le_refl i) (by omega), eB, hof]; rfl
        · exact hb j (by omega)) (fun j a b => ha j (by omega) b)
      exact ⟨I', r1, r2, r3, r4⟩
    | true =>
      have e2 : iZ (cnt R.Of (pFst R.u p) i : Nat) + 1 = iZ (cnt R.Of (pFst R.u p) (i + 1) : Nat) := by
        rw [aL, cnt_succ, if_pos hof]; congr 1
      have hm := cnt_le R.Of (pFst R.u p) (i + 1)
      rw [if_neg (by decide), e2, m_isAt hr hR ok (by omega) (by omega), gb2_some, b284 _ _ _ _ _ _ hd]
      simp only [bO, gnar_tf]
      have e3 : rAt R (cnt R.Of (pFst R.u p) (i + 1)) (cnt R.Of (pFst R.u p) (pLen R.u p)) = rBs R (pFst R.u p + i) := by
        rw [eB, hof, cnt_succ, if_pos hof]; rfl
      rw [e3]
      obtain ⟨I', r1, r2, r3, r4⟩ := ih (i + 1) n (gup I 284 (pFst R.u p + i) (tf (rBs R (pFst R.u p + i)))) (by omega) (by omega) (mRl_X hR frX_g (by decide) (by decide)) (fun j hj => by
        by_cases c : j = i
        · rw [c, gup_s]
        · rw [gup_k (by omega)]; exact hb j (by omega)) (fun j a b => by rw [gup_k (by omega)]; exact ha j (by omega) b)
      exact ⟨I', r1, frX_t frX_g r2, fun d hd2 => by rw [r3 d hd2, gup_k (by omega)], r4⟩
theorem m_laysPeriod {p : Nat} (hr : r < 6) (hR : mRl I r R) (ok : RuLok R) (hc : calOK I) (hf : pFst R.u p < 14610) : ∃ I', fX12_laysPeriod 267 (iZ (r : Int)) (iZ (pFst R.u p : Nat)) (mkS X I J v) = some (iZ ((pFst R.u p + pLen R.u p : Nat) : Int), mkS X I' J v) ∧ frX 284 I I' ∧ (∀ d, d < pFst R.u p → I' 284 d = I 284 d) ∧ (∀ j, j < pLen R.u p → I' 284 (pFst R.u p + j) = tf (rBs R (pFst R.u p + j))) := by
  have hlen : pLen R.u p ≤ 366 := by
    have := pFst_len (u := R.u) (p := p) ok.u
    unfold pLen; omega
  unfold fX12_laysPeriod
  obtain ⟨I1, a1, a2, a3, a4⟩ := m_lp1 (X := X) (J := J) (v := v) (K := fun y17 y18 s19 => gX12_laysPeriod_L65 267 (iZ (r : Int)) y17 y18 20000 0 (iZ (pFst R.u p : Nat)) s19) hr ok hf (pLen R.u p) 0 20000 I (by omega) (by omega) hR hc (fun j hj => absurd hj (Nat.not_lt_zero j))
  obtain ⟨I2, b1, b2, b3, b4⟩ := m_lp2 (X := X) (J := J) (v := v) hr ok hf (pLen R.u p) 0 20000 I1 (by omega) (by omega) (mRl_X hR a2 (by decide) (by decide)) (fun j hj => absurd hj (Nat.not_lt_zero j)) (fun j _ b => a4 j b)
  refine ⟨I2, ?_, frX_t a2 b2, fun d hd => by rw [b3 d hd, a3 d hd], b4⟩
  rw [← b1]
  exact a1
theorem m_laysBaseL (hr : r < 6) (ok : RuLok R) : ∀ (fuel p e : Nat) (I : Nat → Nat → Int32), e = min 14610 (pFst R.u p) → 14610 - e < fuel → mRl I r R → calOK I → (∀ d, d < e → I 284 d = tf (rBs R d)) → ∃ I', gX12_laysBase_L2 267 (iZ (r : Int)) fuel (iZ (e : Int)) (mkS X I J v) = some ((), mkS X I' J v) ∧ frX 284 I I' ∧ ∀ d, d < 14610 → I' 284 d = tf (rBs R d) := by
  intro fuel
  induction fuel with
  | zero => intro p e I _ h; omega
  | succ fuel ih =>
    intro p e I he hfu hR hc hb
    unfold gX12_laysBase_L2
    simp (disch := omega) only [cL_lt]
    by_cases c : pFst R.u p < 14610
    · have e0 : e = pFst R.u p := by omega
      subst e0
      rw [if_pos (by omega)]
      obtain ⟨I1, a1, a2, a3, a4⟩ := m_laysPeriod (X := X) (J := J) (v := v) hr hR ok hc c
      rw [m_c, a1, gb2_some]
      have hstep := pFst_lt (u := R.u) (p := p)
      have eL : pLen R.u p = min 14610 (pFst R.u (p + 1)) - pFst R.u p := rfl
      obtain ⟨I2, b1, b2, b3⟩ := ih (p + 1) (pFst R.u p + pLen R.u p) I1 (by omega) (by omega) (mRl_X hR a2 (by decide) (by decide)) (calOK_X hc a2 (by decide)) (fun d hd => by
        by_cases z : d < pFst R.u p
        · rw [a3 d z]; exact hb d z
        · have := a4 (d - pFst R.u p) (by omega)
          rw [show pFst R.u p + (d - pFst R.u p) = d by omega] at this
          exact this)
      exact ⟨I2, b1, frX_t a2 b2, b3⟩
    · rw [if_neg (by omega)]
      exact ⟨I, rfl, frX_r 284 I, fun d hd => hb d (by omega)⟩
theorem pFst_0 (u : Nat) : pFst u 0 = 0 := by
  unfold pFst
  split
  · rfl
  · split
    · rfl
    · split <;> rfl
theorem m_laysBase (hr : r < 6) (hR : mRl I r R) (ok : RuLok R) (hc : calOK I) : ∃ I', fX12_laysBase 267 (iZ (r : Int)) (mkS X I J v) = some ((), mkS X I' J v) ∧ frX 284 I I' ∧ ∀ d, d < 14610 → I' 284 d = tf (rBs R d) := by
  unfold fX12_laysBase
  exact m_laysBaseL (X := X) (J := J) (v := v) hr ok 20000 0 0 I (by rw [pFst_0]; rfl) (by decide) hR hc (fun d hd => absurd hd (Nat.not_lt_zero d))
theorem m_isGone {n : Nat} (hr : r < 6) (hR : mRl I r R) (ok : RuLok R) (hc : calOK I) (hd : d < 14610) (hb : R.b ≤ d) (hn : 1 ≤ n) (hn2 : n ≤ 99) : fX12_isGone 267 (iZ (r : Int)) (iZ (d : Int)) (iZ (n : Int)) (mkS X I J v) = some (tf (decide ((rPer R.u d - rPer R.u R.b) % n = 0)), mkS X I J v) := by
  have h1 := rPer_mono (u := R.u) hb hd
  have h2 := (rPer_le (u := R.u) hd).1
  unfold fX12_isGone gX12_isGone
  simp only [bO, m_c, m_periodOf hr hR ok hc hd, m_fromOf hr hR, m_periodOf hr hR ok hc ok.b, iZ_sub]
  rw [if_neg (by rw [cL_eq (by omega) (by omega) (by decide)]; omega), iZ_rem (by omega) (by omega) (by omega) (by omega), tmod_nn (by omega)]
  have e : ((rPer R.u d : Nat) : Int) - (rPer R.u R.b : Nat) = ((rPer R.u d - rPer R.u R.b : Nat) : Int) := by omega
  rw [e, ← Int.natCast_emod]
  have hml := Nat.mod_lt (rPer R.u d - rPer R.u R.b) (show 0 < n by omega)
  simp (disch := omega) only [cL_eq]
  by_cases q : (rPer R.u d - rPer R.u R.b) % n = 0
  · rw [if_pos (by omega), decide_eq_true q]; rfl
  · rw [if_neg (by omega), decide_eq_false q]; rfl
theorem m_daysL {n a N at0 : Nat} (ha : 282 ≤ a) (ha2 : a ≠ 284) (hs : ∀ (I : Nat → Nat → Int32) (i : Nat) (x : Int32), i < N → saI (mkS X I J v) a 4 (iZ (i : Int)) x = some (mkS X (gup I a i (gnar 4 x)) J v)) (hN : at0 + 14610 ≤ N) (hN2 : N < 1000000) (hr : r < 6) (ok : RuLok R) (hn : 1 ≤ n) (hn2 : n ≤ 99) : ∀ (m d fuel : Nat) (I : Nat → Nat → Int32), d + m = 14610 → m < fuel → mRl I r R → calOK I → (∀ d, d < 14610 → I 284 d = tf (rBs R d)) → (∀ e, e < d → I a (at0 + e) = tf (rDay R n e)) → ∃ I', gX12_laysDaysBy_L55 267 (iZ (r : Int)) (iZ (n : Int)) a (iZ (at0 : Int)) (iZ (rLast R : Nat)) fuel (iZ (leftT R n d : Nat)) (iZ (d : Int)) (mkS X I J v) = some ((), mkS X I' J v) ∧ frX a I I' ∧ (∀ j, j < at0 ∨ at0 + 14610 ≤ j → I' a j = I a j) ∧ (∀ e, e < 14610 → I' a (at0 + e) = tf (rDay R n e)) := by
  have hlast := rLast_lt ok
  have hmany := rMany_r ok
  have hleft : ∀ e, leftT R n e ≤ 14610 := fun e => by unfold leftT; omega
  have hbb := ok.b
  intro m
  induction m with
  | zero =>
    intro d fuel I hd hfu hR hc hB hD
    obtain ⟨f, rfl⟩ : ∃ n, fuel = n + 1 := ⟨fuel - 1, by omega⟩
    refine ⟨I, ?_, frX_r a I, fun _ _ => rfl, fun e he => hD e (by omega)⟩
    unfold gX12_laysDaysBy_L55
    rw [if_neg (by rw [cL_lt (by omega) (by omega) (by omega)]; omega)]
  | succ m ih =>
    intro d fuel I hd hfu hR hc hB hD
    obtain ⟨f, rfl⟩ : ∃ n, fuel = n + 1 := ⟨fuel - 1, by omega⟩
    have hd2 : d < 14610 := by omega
    have hl := hleft d
    unfold gX12_laysDaysBy_L55
    rw [if_pos (by rw [cL_lt (by omega) (by omega) (by omega)]; omega)]
    simp only [bO, m_c, o267R, a284 _ _ _ _ _ hd2, hB d hd2, m_fromOf hr hR, tf_0, iZ_add]
    simp (disch := omega) only [iZ_lt, cR_lt]
    have step : ∀ b : Bool, rDay R n d = b → ∃ I', ((saI (mkS X I J v) a 4 (iZ ((at0 : Int) + (d : Int))) (tf b)).bind fun s18 => gb2 (fX12_flag (tf b) s18) fun r19 s20 => glet (iZ (leftT R n d : Nat) - r19) fun y21 => gX12_laysDaysBy_L55 267 (iZ (r : Int)) (iZ (n : Int)) a (iZ (at0 : Int)) (iZ (rLast R : Nat)) f y21 (iZ (d : Int) + 1) s20) = some ((), mkS X I' J v) ∧ frX a I I' ∧ (∀ j, j < at0 ∨ at0 + 14610 ≤ j → I' a j = I a j) ∧ (∀ e, e < 14610 → I' a (at0 + e) = tf (rDay R n e)) := by
      intro b hb
      rw [show (at0 : Int) + (d : Int) = ((at0 + d : Nat) : Int) by omega, hs I (at0 + d) (tf b) (by omega)]
      simp only [bO, m_flag, gnar_tf]
      have e1 : iZ (d : Int) + 1 = iZ ((d + 1 : Nat) : Int) := by rw [aL]; congr 1
      have e2 : iZ (leftT R n d : Nat) - tf b = iZ (leftT R n (d + 1) : Nat) := by
        rw [tf_n, iZ_sub]
        congr 1
        unfold leftT
        rw [cnt_succ, Nat.zero_add]
        unfold rDay at hb
        cases hg : rGo R n d with
        | false =>
          rw [hg] at hb
          rw [← hb]
          simp
        | true =>
          rw [hg, Bool.true_and] at hb
          by_cases c : cnt (rGo R n) 0 d < rMany R
          · rw [decide_eq_true c] at hb
            rw [← hb]; simp; omega
          · rw [decide_eq_false c] at hb
            rw [← hb]; simp; omega
      rw [e1, e2]
      obtain ⟨I', r1, r2, r3, r4⟩ := ih (d + 1) f (gup I a (at0 + d) (tf b)) (by omega) (by omega) (mRl_X hR frX_g (by omega) (by omega)) (calOK_X hc frX_g (by omega)) (fun e he => by rw [gup_r (Ne.symm ha2)]; exact hB e he) (fun e he => by
        by_cases c : e = d
        · rw [c, gup_s, hb]
        · rw [gup_k (by omega)]; exact hD e (by omega))
      exact ⟨I', r1, frX_t frX_g r2, fun j hj => by rw [r3 j hj, gup_k (by omega)], r4⟩
    have nogo : rGo R n d = false → rDay R n d = false := fun h => by unfold rDay; rw [h]; rfl
    by_cases c1 : rBs R d = false
    · rw [if_pos c1]
      exact step false (nogo (by unfold rGo; rw [c1]; rfl))
    · rw [if_neg c1]
      by_cases c2 : d < R.b
      · rw [if_pos (by omega)]
        exact step false (nogo (by unfold rGo; rw [decide_eq_false (show ¬ R.b ≤ d by omega)]; simp))
      · rw [if_neg (by omega)]
        by_cases c3 : rLast R < d
        · rw [if_pos (by omega)]
          exact step false (nogo (by unfold rGo; rw [decide_eq_false (show ¬ d ≤ rLast R by omega)]; simp))
        · rw [if_neg (by omega)]
          by_cases c4 : leftT R n d = 0
          · rw [if_neg (by omega)]
            refine step false ?_
            unfold leftT at c4
            unfold rDay
            rw [decide_eq_false (show ¬ cnt (rGo R n) 0 d < rMany R by omega)]; simp
          · rw [if_pos (by omega), m_isGone hr hR ok hc hd2 (by omega) hn hn2, gb2_some]
            have eg : rGo R n d = decide ((rPer R.u d - rPer R.u R.b) % n = 0) := by
              unfold rGo
              rw [show rBs R d = true from by simpa using c1, decide_eq_true (show R.b ≤ d by omega), decide_eq_true (show d ≤ rLast R by omega)]
              rfl
            have ed : rDay R n d = decide ((rPer R.u d - rPer R.u R.b) % n = 0) := by
              unfold leftT at c4
              unfold rDay
              rw [eg, decide_eq_true (show cnt (rGo R n) 0 d < rMany R by omega)]; simp
            cases hz : decide ((rPer R.u d - rPer R.u R.b) % n = 0)
            · rw [if_pos tf_f]
              exact step false (by rw [ed, hz])
            · rw [if_neg (show ¬ tf true = 0 by decide)]
              exact step true (by rw [ed, hz])
theorem m_laysDaysBy {n a N at0 : Nat} (ha : 282 ≤ a) (ha2 : a ≠ 284) (hs : ∀ (I : Nat → Nat → Int32) (i : Nat) (x : Int32), i < N → saI (mkS X I J v) a 4 (iZ (i : Int)) x = some (mkS X (gup I a i (gnar 4 x)) J v)) (hN : at0 + 14610 ≤ N) (hN2 : N < 1000000) (hr : r < 6) (ok : RuLok R) (hn : 1 ≤ n) (hn2 : n ≤ 99) (hR : mRl I r R) (hc : calOK I) (hB : ∀ d, d < 14610 → I 284 d = tf (rBs R d)) : ∃ I', fX12_laysDaysBy 267 (iZ (r : Int)) (iZ (n : Int)) a (iZ (at0 : Int)) (mkS X I J v) = some ((), mkS X I' J v) ∧ frX a I I' ∧ (∀ j, j < at0 ∨ at0 + 14610 ≤ j → I' a j = I a j) ∧ (∀ e, e < 14610 → I' a (at0 + e) = tf (rDay R n e)) := by
  have hun := ok.un
  have hct := ok.ct
  obtain ⟨I', r1, r2, r3, r4⟩ := m_daysL (X := X) (J := J) (v := v) ha ha2 hs hN hN2 hr ok hn hn2 14610 0 20000 I (by decide) (by decide) hR hc hB (fun e he => absurd he (Nat.not_lt_zero e))
  refine ⟨I', ?_, r2, r3, r4⟩
  rw [← r1]
  unfold fX12_laysDaysBy
  simp only [bO, m_c, m_h41 hr hR, m_h40 hr hR]
  simp (disch := omega) only [cM_eq]
  have h0 : leftT R n 0 = rMany R := rfl
  rw [h0]
  split
  · next h' =>
    have hm : rMany R = 14610 := by unfold rMany; rw [if_pos h']
    split
    · next h =>
      have hl : rLast R = 14609 := by unfold rLast; rw [if_pos h]
      rw [hl, hm]; rfl
    · next h =>
      have hl : (rLast R : Int) = R.un := by unfold rLast; rw [if_neg h]; omega
      rw [← hl, hm]; rfl
  · next h' =>
    have hm : (rMany R : Int) = R.ct := by unfold rMany; rw [if_neg h']; omega
    split
    · next h =>
      have hl : rLast R = 14609 := by unfold rLast; rw [if_pos h]
      rw [hl, ← hm]; rfl
    · next h =>
      have hl : (rLast R : Int) = R.un := by unfold rLast; rw [if_neg h]; omega
      rw [← hl, ← hm]; rfl
end gMb
