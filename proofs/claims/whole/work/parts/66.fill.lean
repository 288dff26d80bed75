/-! ALL DAYS OF A RULE -/
def rLast (R : RuL) : Nat := if R.un = -1 then 14609 else R.un.toNat
def rMany (R : RuL) : Nat := if R.ct = -1 then 14610 else R.ct.toNat
def rGo (R : RuL) (n d : Nat) : Bool := rBs R d && decide (R.b ≤ d) && decide (d ≤ rLast R) && decide ((rPer R.u d - rPer R.u R.b) % n = 0)
def rDay (R : RuL) (n d : Nat) : Bool := rGo R n d && decide (cnt (rGo R n) 0 d < rMany R)
theorem rLast_lt {R : RuL} (ok : RuLok R) : rLast R < 14610 := by
  unfold rLast
  rcases ok.un with h | h
  · rw [if_pos h]; omega
  · rw [if_neg (by omega)]; omega
theorem rMany_r {R : RuL} (ok : RuLok R) : 1 ≤ rMany R ∧ rMany R ≤ 14610 := by
  unfold rMany
  rcases ok.ct with h | h
  · rw [if_pos h]; omega
  · rw [if_neg (by omega)]; omega
theorem rGo_lt {R : RuL} (ok : RuLok R) {n d : Nat} (h : 14610 ≤ d) : rGo R n d = false := by
  have := rLast_lt ok
  unfold rGo
  rw [decide_eq_false (show ¬ d ≤ rLast R by omega)]
  simp
theorem rDay_lt {R : RuL} (ok : RuLok R) {n d : Nat} (h : 14610 ≤ d) : rDay R n d = false := by
  unfold rDay; rw [rGo_lt ok h]; rfl
/-- the days up to one are in the set, how many are left -/
def doneT (J : Nat → Nat → Int64) (r : Nat) (R : RuL) (n e : Nat) : Prop := ∀ d, d < 14656 → dsf J r d = (decide (d < e) && rDay R n d)
def leftT (R : RuL) (n e : Nat) : Nat := rMany R - cnt (rGo R n) 0 e
theorem done_on {J : Nat → Nat → Int64} {r : Nat} {R : RuL} {n e e' : Nat} (h : doneT J r R n e) (he : e ≤ e') (hn : ∀ d, e ≤ d → d < e' → rGo R n d = false) : doneT J r R n e' ∧ leftT R n e' = leftT R n e := by
  constructor
  · intro d hd
    rw [h d hd]
    by_cases a : d < e
    · rw [decide_eq_true a, decide_eq_true (show d < e' by omega)]
    · rw [decide_eq_false a]
      by_cases b : d < e'
      · unfold rDay
        rw [hn d (by omega) b]; simp
      · rw [decide_eq_false b]
  · unfold leftT
    obtain ⟨m, rfl⟩ : ∃ m, e' = e + m := ⟨e' - e, by omega⟩
    rw [cnt_add, cnt_zero (a := 0 + e) (n := m) (fun i hi => hn (0 + e + i) (by omega) (by omega))]
    rfl
theorem done_0 {J : Nat → Nat → Int64} {r : Nat} {R : RuL} {n e : Nat} (h : doneT J r R n e) (hl : leftT R n e = 0) {d : Nat} (hd : d < 14656) : dsf J r d = rDay R n d := by
  rw [h d hd]
  by_cases a : d < e
  · rw [decide_eq_true a]; rfl
  · rw [decide_eq_false a]
    unfold leftT at hl
    have := cnt_mono (rGo R n) 0 (show e ≤ d by omega)
    unfold rDay
    rw [decide_eq_false (show ¬ cnt (rGo R n) 0 d < rMany R by omega)]; simp
theorem done_0' {J : Nat → Nat → Int64} {r : Nat} {R : RuL} {n e e' : Nat} (h : doneT J r R n e) (hl : leftT R n e = 0) (he : e ≤ e') : doneT J r R n e' ∧ leftT R n e' = 0 := by
  have hm := cnt_mono (rGo R n) 0 he
  constructor
  · intro d hd
    rw [done_0 h hl hd]
    by_cases a : d < e'
    · rw [decide_eq_true a]; rfl
    · rw [decide_eq_false a, ← done_0 h hl hd, h d hd, decide_eq_false (show ¬ d < e by omega)]; rfl
  · unfold leftT at hl ⊢; omega
def frJ (r : Nat) (J J' : Nat → Nat → Int64) : Prop := ∀ a, a ≠ r + 1 → J' a = J a
theorem frJ_r (r : Nat) (J : Nat → Nat → Int64) : frJ r J J := fun _ _ => rfl
theorem frJ_t {r : Nat} {J J' J'' : Nat → Nat → Int64} (h1 : frJ r J J') (h2 : frJ r J' J'') : frJ r J J'' := fun a h => (h2 a h).trans (h1 a h)
theorem frJ_s {r : Nat} {J : Nat → Nat → Int64} {f : Nat → Int64} : frJ r J (jset J (r + 1) f) := fun a h => jset_o h
section gFi
variable {X : Nat × (Nat → Int32)} {I : Nat → Nat → Int32} {v : Vt} {q r : Nat} {R : RuL}
theorem c_fillL {K : Int32 → gH → Option (Unit × gH)} {n p : Nat} {x2 x6 x7 : Int32} (hq : isRule q) (hr : isDS r) (hI : cRl I q R) (ok : RuLok R) (hf : pFst R.u p < 14610) (hg : gath I (rBs R) (pFst R.u p) (pLen R.u p)) (hp : rPer R.u R.b ≤ p) (hn : (p - rPer R.u R.b) % n = 0) : ∀ (m t fuel : Nat) (J : Nat → Nat → Int64), t + m = pLen R.u p → m < fuel → doneT J r R n (pFst R.u p + t) → ∃ J', gX3_fill_L102 K 57 q x2 r (iZ (rLast R : Nat)) x6 x7 fuel (iZ (leftT R n (pFst R.u p + t) : Nat)) (iZ (cnt (rBs R) (pFst R.u p) t : Nat)) (mkS X I J v) = K (iZ (leftT R n (pFst R.u p + pLen R.u p) : Nat)) (mkS X I J' v) ∧ frJ r J J' ∧ doneT J' r R n (pFst R.u p + pLen R.u p) := by
  have hlen : pLen R.u p ≤ 366 := by
    have := pFst_len (u := R.u) (p := p) ok.u
    unfold pLen; omega
  have hend : pFst R.u p + pLen R.u p ≤ 14610 ∧ pFst R.u p + pLen R.u p ≤ pFst R.u (p + 1) := by
    have := pFst_step R.u p
    unfold pLen; omega
  have hlast := rLast_lt ok
  have hmany := rMany_r ok
  have hb := ok.b
  have hsz := cnt_le (rBs R) (pFst R.u p) (pLen R.u p)
  have hleft : ∀ e, leftT R n e ≤ 14610 := fun e => by unfold leftT; omega
  intro m
  induction m with
  | zero =>
    intro t fuel J ht hfu hd
    obtain ⟨f, rfl⟩ : ∃ n, fuel = n + 1 := ⟨fuel - 1, by omega⟩
    have : t = pLen R.u p := by omega
    subst this
    refine ⟨J, ?_, frJ_r r J, hd⟩
    unfold gX3_fill_L102
    simp only [bO, o57, hg.1]
    rw [if_neg (by rw [iZ_lt (by omega) (by omega) (by omega) (by omega)]; omega)]
  | succ m ih =>
    intro t fuel J ht hfu hd
    by_cases hbs : rBs R (pFst R.u p + t) = true
    · obtain ⟨f, rfl⟩ : ∃ n, fuel = n + 1 := ⟨fuel - 1, by omega⟩
      have hcl := cnt_before (j := pLen R.u p) (by omega) hbs
      have hper : rPer R.u (pFst R.u p + t) = p := rPer_eq (by omega) (by omega) (by omega)
      have hv := hg.2 t (by omega) hbs
      have hl0 := hleft (pFst R.u p + t)
      unfold gX3_fill_L102
      simp only [bO, o57, o57R, n59, hg.1, rl_i hq, hI.b, ds_c hr, a59 _ _ _ _ _ (show cnt (rBs R) (pFst R.u p) t < 366 by omega), hv]
      simp (disch := omega) only [iZ_lt, cR_lt]
      rw [if_pos (by omega), if_pos (by omega)]
      have ecnt : iZ (cnt (rBs R) (pFst R.u p) t : Nat) + 1 = iZ (cnt (rBs R) (pFst R.u p) (t + 1) : Nat) := by
        rw [cnt_succ, if_pos hbs, aL]; congr 1
      by_cases hleft0 : leftT R n (pFst R.u p + t) = 0
      · rw [if_neg (by omega)]
        obtain ⟨d1, d2⟩ := done_0' hd hleft0 (show pFst R.u p + t ≤ pFst R.u p + pLen R.u p by omega)
        refine ⟨J, ?_, frJ_r r J, d1⟩
        rw [hleft0, d2]
      · rw [if_pos (by omega), ecnt]
        by_cases h1 : pFst R.u p + t < R.b
        · rw [if_pos (by omega)]
          obtain ⟨d1, d2⟩ := done_on hd (show pFst R.u p + t ≤ pFst R.u p + (t + 1) by omega) (fun d a b => by
            unfold rGo; rw [decide_eq_false (show ¬ R.b ≤ d by omega)]; simp)
          rw [← d2]
          exact ih (t + 1) f J (by omega) (by omega) d1
        · rw [if_neg (by omega)]
          by_cases h2 : rLast R < pFst R.u p + t
          · rw [if_pos (by omega)]
            obtain ⟨d1, d2⟩ := done_on hd (show pFst R.u p + t ≤ pFst R.u p + (t + 1) by omega) (fun d a b => by
              unfold rGo; rw [decide_eq_false (show ¬ d ≤ rLast R by omega)]; simp)
            rw [← d2]
            exact ih (t + 1) f J (by omega) (by omega) d1
          · rw [if_neg (by omega)]
            have hgo : rGo R n (pFst R.u p + t) = true := by
              unfold rGo
              rw [hbs, hper, decide_eq_true (show R.b ≤ pFst R.u p + t by omega), decide_eq_true (show pFst R.u p + t ≤ rLast R by omega), decide_eq_true hn]
              rfl
            have hday : rDay R n (pFst R.u p + t) = true := by
              unfold rDay
              unfold leftT at hleft0
              rw [hgo, decide_eq_true (by omega)]; rfl
            obtain ⟨g, e1, e2⟩ := ds_put (X := X) (I := I) (J := J) (v := v) (z := ((pFst R.u p + t : Nat) : Int)) hr (by omega) (by omega)
            rw [e1, gb2_some]
            have e3 : iZ (leftT R n (pFst R.u p + t) : Nat) + -1 = iZ (leftT R n (pFst R.u p + (t + 1)) : Nat) := by
              rw [show (-1 : Int32) = iZ (-1) from rfl, iZ_add]
              congr 1
              unfold leftT at hleft0 ⊢
              rw [show pFst R.u p + (t + 1) = pFst R.u p + t + 1 from rfl, cnt_succ, Nat.zero_add, if_pos hgo]
              omega
            rw [e3]
            obtain ⟨J', r1, r2, r3⟩ := ih (t + 1) f (jset J (r + 1) g) (by omega) (by omega) (fun d hd2 => by
              show bg (jset J (r + 1) g (r + 1)) d = _
              rw [bg_jset hd2, e2 d hd2, hd d hd2]
              by_cases c1 : d = pFst R.u p + t
              · subst c1
                rw [decide_eq_true (show ((pFst R.u p + t : Nat) : Int) < 14610 by omega), decide_eq_true rfl, decide_eq_true (show pFst R.u p + t < pFst R.u p + (t + 1) by omega), hday]
                simp
              · rw [decide_eq_false (show ¬ (d : Int) = ((pFst R.u p + t : Nat) : Int) by omega), Bool.and_false, Bool.or_false]
                congr 1
                apply Bool.eq_iff_iff.mpr
                rw [decide_eq_true_eq, decide_eq_true_eq]; omega)
            exact ⟨J', r1, frJ_t frJ_s r2, r3⟩
    · have hbs' : rBs R (pFst R.u p + t) = false := by simpa using hbs
      obtain ⟨d1, d2⟩ := done_on hd (show pFst R.u p + t ≤ pFst R.u p + (t + 1) by omega) (fun d a b => by
        unfold rGo; rw [show d = pFst R.u p + t by omega, hbs']; rfl)
      rw [← d2, show cnt (rBs R) (pFst R.u p) t = cnt (rBs R) (pFst R.u p) (t + 1) from by rw [cnt_succ, if_neg hbs]; rfl]
      exact ih (t + 1) fuel J (by omega) (by omega) d1
theorem pFst_ge (u p : Nat) : p ≤ pFst u p := by
  induction p with
  | zero => exact Nat.zero_le _
  | succ p ih => have := pFst_lt (u := u) (p := p); omega
theorem c_fill60 {n : Nat} (hq : isRule q) (hr : isDS r) (ok : RuLok R) (hn1 : 1 ≤ n) (hn2 : n ≤ 99) : ∀ (fuel i p : Nat) (I : Nat → Nat → Int32) (J : Nat → Nat → Int64), cRl I q R → 14610 - i < fuel → i ≤ 14610 → p = rPer R.u R.b + i * n → pOK R.u (p + 1) → doneT J r R n (pFst R.u p) → ∃ I' J', gX3_fill_L60 57 q (iZ (n : Int)) r (iZ (rLast R : Nat)) fuel (iZ (leftT R n (pFst R.u p) : Nat)) (iZ (p : Int)) (iZ (i : Int)) (mkS X I J v) = some ((), mkS X I' J' v) ∧ frF I I' ∧ frJ r J J' ∧ ∀ d, d < 14656 → dsf J' r d = rDay R n d := by
  have hlast := rLast_lt ok
  have hmany := rMany_r ok
  have hleft : ∀ e, leftT R n e ≤ 14610 := fun e => by unfold leftT; omega
  intro fuel
  induction fuel with
  | zero => intro i p I J _ h; omega
  | succ fuel ih =>
    intro i p I J hI hfu hi hp hok hd
    have hl0 := hleft (pFst R.u p)
    have hpf := pFst_le ok.u (pOK_dn hok (Nat.le_succ p))
    unfold gX3_fill_L60
    simp (disch := omega) only [cL_lt, cR_lt]
    have fin : (∀ d, pFst R.u p ≤ d → d < 14656 → rGo R n d = false) → ∀ d, d < 14656 → dsf J r d = rDay R n d := by
      intro hz d hd2
      rw [hd d hd2]
      by_cases c : d < pFst R.u p
      · rw [decide_eq_true c]; rfl
      · rw [decide_eq_false c]
        unfold rDay
        rw [hz d (by omega) hd2]; rfl
    by_cases h1 : i < 14610
    · rw [if_pos (by omega)]
      by_cases h2 : leftT R n (pFst R.u p) = 0
      · rw [if_neg (by omega)]
        exact ⟨I, J, rfl, frF_r I, frJ_r r J, fun d hd2 => done_0 hd h2 hd2⟩
      · rw [if_pos (by omega)]
        simp only [bO, rl_i hq, hI.u, c_firstOfPeriod ok.u (pOK_dn hok (Nat.le_succ p))]
        simp (disch := omega) only [iZ_lt]
        by_cases h3 : rLast R < pFst R.u p
        · rw [if_pos (by omega)]
          refine ⟨I, J, rfl, frF_r I, frJ_r r J, fin (fun d a b => ?_)⟩
          unfold rGo
          rw [decide_eq_false (show ¬ d ≤ rLast R by omega)]; simp
        · rw [if_neg (by omega)]
          obtain ⟨I1, a1, a2, a3⟩ := c_gather (X := X) (J := J) (v := v) hq hI ok hok (by omega)
          rw [gcv_mk (show gK cst 57 = 3 + 1 from k_57), a1, gb2_some]
          obtain ⟨I2, b1, b2, b3⟩ := c_keep (X := X) (J := J) (v := v) hq (cRl_F hq hI a2) ok (by omega) a3
          rw [gcv_mk (show gK cst 57 = 3 + 1 from k_57), b1, gb2_some]
          obtain ⟨J', c1, c2, c3⟩ := c_fillL (X := X) (v := v) (K := fun y44 s45 => gX3_fill_L60 57 q (iZ (n : Int)) r (iZ (rLast R : Nat)) fuel y44 (iZ (p : Int) + iZ (n : Int)) (iZ (i : Int) + 1) s45) (n := n) (p := p) (x2 := iZ (n : Int)) (x6 := iZ (p : Int)) (x7 := iZ (i : Int)) hq hr (cRl_F hq (cRl_F hq hI a2) b2) ok (by omega) b3 (by rw [hp]; exact Nat.le_add_right _ _) (by rw [hp, Nat.add_sub_cancel_left]; exact Nat.mul_mod_left i n) (pLen R.u p) 0 20000 J (by omega) (by have := pFst_len (u := R.u) (p := p) ok.u; unfold pLen; omega) hd
          rw [Nat.add_zero] at c1
          rw [show (0 : Int32) = iZ (cnt (rBs R) (pFst R.u p) 0 : Nat) from rfl, c1]
          rw [iZ_add, aL]
          have hpn : rPer R.u (pFst R.u p) = p := rPer_eq (by omega) (Nat.le_refl _) pFst_lt
          have e1 : (p : Int) + (n : Int) = ((p + n : Nat) : Int) := by omega
          have e2 : (i : Int) + 1 = ((i + 1 : Nat) : Int) := by omega
          have hmono := pFst_mono (u := R.u) (show p + 1 ≤ p + n by omega)
          have hstep := pFst_step R.u p
          obtain ⟨d1, d2⟩ := done_on (e' := pFst R.u (p + n)) c3 (by unfold pLen; omega) (fun d a b => by
            by_cases c : 14610 ≤ d
            · exact rGo_lt ok c
            · have hge : pFst R.u (p + 1) ≤ d := by unfold pLen at a; omega
              have hper1 : p + 1 ≤ rPer R.u d := by
                apply Classical.byContradiction
                intro z
                have := pFst_mono (u := R.u) (show rPer R.u d + 1 ≤ p + 1 by omega)
                have := (rPer_in (u := R.u) (d := d) (by omega)).2
                omega
              have hper2 : rPer R.u d < p + n := by
                apply Classical.byContradiction
                intro z
                have := pFst_mono (u := R.u) (show p + n ≤ rPer R.u d by omega)
                have := (rPer_in (u := R.u) (d := d) (by omega)).1
                omega
              unfold rGo
              rw [decide_eq_false (show ¬ (rPer R.u d - rPer R.u R.b) % n = 0 from ?_)]
              · simp
              · have : rPer R.u d - rPer R.u R.b = (rPer R.u d - p) + n * i := by
                  rw [hp, Nat.mul_comm n i]
                  have : p = rPer R.u R.b + i * n := hp
                  omega
                rw [this, Nat.add_mul_mod_self_left, Nat.mod_eq_of_lt (by omega)]
                omega)
          rw [← d2, e1, e2]
          obtain ⟨I', J2, f1, f2, f3, f4⟩ := ih (i + 1) (p + n) I2 J' (cRl_F hq (cRl_F hq hI a2) b2) (by omega) (by omega) (by rw [hp, Nat.add_mul, Nat.one_mul]; omega) (by rw [← hpn, Nat.add_assoc]; exact pOK_of (by omega) (by omega)) d1
          exact ⟨I', J2, f1, frF_t a2 (frF_t b2 f2), frJ_t c2 f3, f4⟩
    · rw [if_neg (by omega)]
      refine ⟨I, J, rfl, frF_r I, frJ_r r J, fin (fun d a b => rGo_lt ok ?_)⟩
      have := pFst_ge R.u p
      have : i * 1 ≤ i * n := Nat.mul_le_mul_left i hn1
      omega
theorem c_fill {n : Nat} {J : Nat → Nat → Int64} (hq : isRule q) (hr : isDS r) (hI : cRl I q R) (ok : RuLok R) (hn1 : 1 ≤ n) (hn2 : n ≤ 99) : ∃ I' J', fX3_fill 57 q (iZ (n : Int)) r (mkS X I J v) = some ((), mkS X I' J' v) ∧ frF I I' ∧ frJ r J J' ∧ ∀ d, d < 14656 → dsf J' r d = rDay R n d := by
  have hlast := rLast_lt ok
  have hmany := rMany_r ok
  have hun := ok.un
  have hct := ok.ct
  unfold fX3_fill
  simp only [bO, rl_i hq, hI.u, hI.b, hI.un, hI.ct, c_periodOf ok.u ok.b, ds_c hr, ds_clear hr]
  simp (disch := omega) only [cM_eq]
  have e1 : ∀ (F : Int32 → gH → Option (Unit × gH)) (s : gH), (if R.un = -1 then F 14609 s else F (iZ R.un) s) = F (iZ (rLast R : Nat)) s := by
    intro F s
    unfold rLast
    by_cases h : R.un = -1
    · rw [if_pos h, if_pos h]; rfl
    · rw [if_neg h, if_neg h]
      congr 2; omega
  have e2 : ∀ (F : Int32 → gH → Option (Unit × gH)) (s : gH), (if R.ct = -1 then F 14610 s else F (iZ R.ct) s) = F (iZ (rMany R : Nat)) s := by
    intro F s
    unfold rMany
    by_cases h : R.ct = -1
    · rw [if_pos h, if_pos h]; rfl
    · rw [if_neg h, if_neg h]
      congr 2; omega
  have hb := (rPer_in (u := R.u) ok.b).1
  have hcz : cnt (rGo R n) 0 (pFst R.u (rPer R.u R.b)) = 0 := cnt_zero (fun i hi => by
    unfold rGo
    rw [decide_eq_false (show ¬ R.b ≤ 0 + i by omega)]; simp)
  obtain ⟨I', J', f1, f2, f3, f4⟩ := c_fill60 (X := X) (v := v) (n := n) hq hr ok hn1 hn2 20000 0 (rPer R.u R.b) I (jset J (r + 1) (fun _ => 0)) hI (by decide) (by decide) (by omega) (pOK_of ok.b (by decide)) (fun d hd => by
    show bg (jset J (r + 1) (fun _ => 0) (r + 1)) d = _
    rw [bg_jset hd]
    unfold bg
    rw [wb_0]
    by_cases c : d < pFst R.u (rPer R.u R.b)
    · unfold rDay rGo
      rw [decide_eq_false (show ¬ R.b ≤ d by omega)]; simp
    · rw [decide_eq_false c]; rfl)
  unfold leftT at f1
  rw [hcz] at f1
  refine ⟨I', J', ?_, f2, frJ_t frJ_s f3, f4⟩
  rw [← f1]
  split
  · next h =>
    have hl : rLast R = 14609 := by unfold rLast; rw [if_pos h]
    split
    · next h' =>
      have hm : rMany R = 14610 := by unfold rMany; rw [if_pos h']
      rw [hl, hm]; rfl
    · next h' =>
      have hm : (rMany R : Int) = R.ct := by unfold rMany; rw [if_neg h']; omega
      rw [hl, ← hm]; rfl
  · next h =>
    have hl : (rLast R : Int) = R.un := by unfold rLast; rw [if_neg h]; omega
    split
    · next h' =>
      have hm : rMany R = 14610 := by unfold rMany; rw [if_pos h']
      rw [← hl, hm]; rfl
    · next h' =>
      have hm : (rMany R : Int) = R.ct := by unfold rMany; rw [if_neg h']; omega
      rw [← hl, ← hm]; rfl
end gFi
