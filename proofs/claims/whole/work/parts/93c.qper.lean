/-! QUESTIONS about rules: period -/
def aPer (R : RuL) (st d : Nat) (x : Int) : Int32 := if x = 2 then tf (decide (rPer R.u R.b ≤ rPer R.u d) && decide ((rPer R.u d - rPer R.u R.b) % st = 0)) else if x = 1 then iZ (cnt (rBs R) (pFst R.u (rPer R.u d)) (pLen R.u (rPer R.u d)) : Nat) else iZ (cnt R.Of (pFst R.u (rPer R.u d)) (pLen R.u (rPer R.u d)) : Nat)
theorem per_cnt {u d : Nat} {F : Nat → Bool} (hd : d < 14610) : cnt (fun e => decide (rPer u e = rPer u d) && F e) 0 14610 = cnt F (pFst u (rPer u d)) (pLen u (rPer u d)) := by
  obtain ⟨h1, h2⟩ := rPer_in (u := u) hd
  have e : pLen u (rPer u d) = (min 14610 (pFst u (rPer u d + 1)) - 1) + 1 - pFst u (rPer u d) := by unfold pLen; omega
  rw [e, ← cnt_window (P := F) (a := pFst u (rPer u d)) (b := min 14610 (pFst u (rPer u d + 1)) - 1) (N := 14610) (by omega) (by omega)]
  apply cnt_congr
  intro i hi
  rw [Nat.zero_add]
  have hi2 := rPer_in (u := u) hi
  by_cases c : rPer u i = rPer u d
  · rw [decide_eq_true c]
    rw [c] at hi2
    rw [decide_eq_true (show pFst u (rPer u d) ≤ i from hi2.1), decide_eq_true (show i ≤ min 14610 (pFst u (rPer u d + 1)) - 1 by omega)]
    simp
  · rw [decide_eq_false c]
    have : ¬ (pFst u (rPer u d) ≤ i ∧ i ≤ min 14610 (pFst u (rPer u d + 1)) - 1) := fun q => c (rPer_eq hi q.1 (by omega))
    by_cases c2 : pFst u (rPer u d) ≤ i
    · rw [decide_eq_false (show ¬ i ≤ min 14610 (pFst u (rPer u d + 1)) - 1 by omega)]; simp
    · rw [decide_eq_false c2]; simp
section gQp
variable {X : Nat × (Nat → Int32)} {v : Vt} {B : Bk} {A L : Nat → Nat → Bool} {b : Nat} {I : Nat → Nat → Int32} {J : Nat → Nat → Int64}
theorem c_goesBy {q st d : Nat} {R : RuL} (hq : isRule q) (hR : cRl I q R) (ok : RuLok R) (hst : I q 0 = iZ (st : Int)) (s1 : 1 ≤ st) (s2 : st ≤ 99) (hd : d < 14610) : fX8_goesBy q (iZ (rPer R.u d : Nat)) (mkS X I J v) = some (tf (decide (rPer R.u R.b ≤ rPer R.u d) && decide ((rPer R.u d - rPer R.u R.b) % st = 0)), mkS X I J v) := by
  have h2 := (rPer_le (u := R.u) hd).1
  have h3 := (rPer_le (u := R.u) ok.b).1
  unfold fX8_goesBy gX8_goesBy
  simp only [bO, rl_i hq, hR.1, hR.2.1, c_periodOf ok.u ok.b, gb2_some, glet_eq, iZ_sub, hst]
  by_cases c : rPer R.u R.b ≤ rPer R.u d
  · rw [if_neg (by rw [cL_lt (by omega) (by omega) (by decide)]; omega), if_pos (by rw [cR_lt (by omega) (by omega) (by decide)]; omega), if_neg (by rw [cL_eq (by omega) (by omega) (by decide)]; omega), iZ_rem (by omega) (by omega) (by omega) (by omega), tmod_nn (by omega)]
    have e : ((rPer R.u d : Nat) : Int) - (rPer R.u R.b : Nat) = ((rPer R.u d - rPer R.u R.b : Nat) : Int) := by omega
    rw [e, ← Int.natCast_emod, decide_eq_true c]
    have hml := Nat.mod_lt (rPer R.u d - rPer R.u R.b) (show 0 < st by omega)
    by_cases q : (rPer R.u d - rPer R.u R.b) % st = 0
    · rw [if_pos (by rw [cL_eq (by omega) (by omega) (by decide)]; omega), decide_eq_true q]; rfl
    · rw [if_neg (by rw [cL_eq (by omega) (by omega) (by decide)]; omega), decide_eq_false q]; rfl
  · rw [if_pos (by rw [cL_lt (by omega) (by omega) (by decide)]; omega), decide_eq_false c]; rfl
theorem cq_period {z d x : Int} (z1 : -2147483648 ≤ z) (z2 : z < 2147483648) (d1 : -2147483648 ≤ d) (d2 : d < 2147483648) (x1 : -2147483648 ≤ x) (x2 : x < 2147483648) (hb : isBk b) (hv : v.1 = b) (ok : BkOK B) (hB : cBk I b B) : ∃ I', fX11_period 50 (iZ z) (iZ d) (iZ x) (mkS X I J v) = some (if (0 ≤ z ∧ z < B.nR) ∧ (0 ≤ d ∧ d < 14610) ∧ 0 ≤ x ∧ x ≤ 2 then aPer (B.rl z.toNat) (B.stp z.toNat) d.toNat x else -1, mkS X I' J v) ∧ frF I I' := by
  have hb0 := bk_r hb
  have k1 := ok.1
  unfold fX11_period
  simp only [bO, o50R, hv, bk_c hb, c_ruleAt hb hB.1 k1 z1 z2, gb2_some]
  by_cases c : 0 ≤ z ∧ z < (B.nR : Int)
  · have hq := isRule_bk (n := z.toNat) hb (by omega)
    obtain ⟨r1, r2⟩ := hB.2.2.1 z.toNat (by omega)
    obtain ⟨ru, s1, s2⟩ := ok.2.2.1 z.toNat (by omega)
    rw [if_pos c, if_neg (by omega), c_isDay d1 d2, gb2_some]
    by_cases cd : 0 ≤ d ∧ d < 14610
    · rw [if_pos cd, if_neg (by decide)]
      by_cases c1 : x < 0
      · rw [if_pos (by rw [cL_lt (by omega) (by omega) (by decide)]; exact c1), if_neg (by omega)]
        exact ⟨I, rfl, frF_r I⟩
      · rw [if_neg (by rw [cL_lt (by omega) (by omega) (by decide)]; exact c1)]
        by_cases c2 : 2 < x
        · rw [if_pos (by rw [cR_lt (by omega) (by omega) (by decide)]; exact c2), if_neg (by omega)]
          exact ⟨I, rfl, frF_r I⟩
        · rw [if_neg (by rw [cR_lt (by omega) (by omega) (by decide)]; exact c2), if_pos ⟨c, cd, by omega, by omega⟩]
          obtain ⟨e, rfl⟩ : ∃ n : Nat, d = (n : Int) := ⟨d.toNat, by omega⟩
          have he : e < 14610 := by omega
          simp only [rl_i hq, bO, r1.1]
          simp only [c_periodOf ru.u he, gb2_some]
          rw [Int.toNat_natCast]
          unfold aPer
          by_cases c3 : x = 2
          · rw [if_pos (by rw [c3]; rfl), if_pos c3, rl_c hq, c_goesBy hq r1 ru r2 s1 s2 he, gb2_some]
            exact ⟨I, tf_ite, frF_r I⟩
          · rw [if_neg (by rw [cL_eq (by omega) (by omega) (by decide)]; exact c3), if_neg c3]
            obtain ⟨q1, q2⟩ := rPer_in (u := (B.rl z.toNat).u) he
            obtain ⟨I1, a1, a2, a3⟩ := c_gather (X := X) (J := J) (v := v) (p := rPer (B.rl z.toNat).u e) hq r1 ru (pOK_of he (by decide)) (by omega)
            simp only [bO, o50R, o57, a1, gb2_some]
            by_cases c4 : x = 1
            · rw [if_pos (by rw [c4]; rfl), if_pos c4]
              obtain ⟨I2, b1, b2, b3⟩ := c_keep (X := X) (J := J) (v := v) (p := rPer (B.rl z.toNat).u e) hq (cRl_F hq r1 a2) ru (by omega) a3
              simp only [bO, o50R, o57, b1, gb2_some, b3.1]
              exact ⟨I2, rfl, frF_t a2 b2⟩
            · rw [if_neg (by rw [cL_eq (by omega) (by omega) (by decide)]; exact c4), if_neg c4]
              simp only [bO, o50R, o57, a3.1]
              exact ⟨I1, rfl, a2⟩
    · rw [if_neg cd, if_pos rfl, if_neg (fun q => cd q.2.1)]
      exact ⟨I, rfl, frF_r I⟩
  · rw [if_neg c, if_pos rfl, if_neg (fun q => c q.1)]
    exact ⟨I, rfl, frF_r I⟩
theorem m_isGone2 {r d n : Nat} {R : RuL} (hr : r < 6) (hR : mRl I r R) (ok : RuLok R) (hc : calOK I) (hd : d < 14610) (h1 : rPer R.u R.b ≤ rPer R.u d) (hn : 1 ≤ n) (hn2 : n ≤ 99) : fX12_isGone 267 (iZ (r : Int)) (iZ (d : Int)) (iZ (n : Int)) (mkS X I J v) = some (tf (decide ((rPer R.u d - rPer R.u R.b) % n = 0)), mkS X I J v) := by
  have h2 := (rPer_le (u := R.u) hd).1
  unfold fX12_isGone gX12_isGone
  simp only [bO, m_c, m_periodOf hr hR ok hc hd, m_fromOf hr hR, m_periodOf hr hR ok hc ok.b, iZ_sub]
  rw [if_neg (by rw [cL_eq (by omega) (by omega) (by decide)]; omega), iZ_rem (by omega) (by omega) (by omega) (by omega), tmod_nn (by omega)]
  have e : ((rPer R.u d : Nat) : Int) - (rPer R.u R.b : Nat) = ((rPer R.u d - rPer R.u R.b : Nat) : Int) := by omega
  rw [e, ← Int.natCast_emod]
  have hml := Nat.mod_lt (rPer R.u d - rPer R.u R.b) (show 0 < n by omega)
  simp (disch := omega) only [cL_eq]
  by_cases q : (rPer R.u d - rPer R.u R.b) % n = 0
  · rw [if_pos (by omega), decide_eq_true q]; rfl
  · rw [if_neg (by omega), decide_eq_false q]; rfl
theorem m_perL {r d x : Nat} {R : RuL} {F : Nat → Bool} (hr : r < 6) (hR : mRl I r R) (ok : RuLok R) (hc : calOK I) (hd : d < 14610) (hx : (x = 0 ∧ F = R.Of) ∨ (x = 1 ∧ ∀ e, e < 14610 → I 284 e = tf (F e))) : ∀ (m e fuel c : Nat), e + m = 14610 → m < fuel → gX12_period_L90 267 (iZ (r : Int)) (iZ (d : Int)) (iZ (x : Int)) fuel (iZ (c : Int)) (iZ (e : Int)) (mkS X I J v) = some (iZ ((c + cnt (fun e => decide (rPer R.u e = rPer R.u d) && F e) e m : Nat) : Int), mkS X I J v) := by
  intro m
  induction m with
  | zero =>
    intro e fuel c he hf
    obtain ⟨f, rfl⟩ : ∃ n, fuel = n + 1 := ⟨fuel - 1, by omega⟩
    unfold gX12_period_L90
    rw [if_neg (by rw [cL_lt (by omega) (by omega) (by decide)]; omega)]
    rfl
  | succ m ih =>
    intro e fuel c he hf
    obtain ⟨f, rfl⟩ : ∃ n, fuel = n + 1 := ⟨fuel - 1, by omega⟩
    have he' : e < 14610 := by omega
    have p1 := (rPer_le (u := R.u) hd).1
    have p2 := (rPer_le (u := R.u) he').1
    unfold gX12_period_L90
    rw [if_pos (by rw [cL_lt (by omega) (by omega) (by decide)]; omega)]
    simp only [o267, m_periodOf hr hR ok hc he', m_periodOf hr hR ok hc hd, gb2_some, gjn_eq, glet_eq, aL, bO, o267R, a284 _ _ _ _ e he', m_isOfPeriod hr hR ok hc he']
    rw [show (e : Int) + 1 = ((e + 1 : Nat) : Int) by omega, cnt_front]
    have tl : ∀ bb : Bool, bb = F e → rPer R.u e = rPer R.u d → gb2 (fX12_flag (tf bb) (mkS X I J v)) (fun r41 s42 => gX12_period_L90 267 (iZ (r : Int)) (iZ (d : Int)) (iZ (x : Int)) f (iZ (c : Int) + r41) (iZ ((e + 1 : Nat) : Int)) s42) = some (iZ ((c + ((if (decide (rPer R.u e = rPer R.u d) && F e) = true then 1 else 0) + cnt (fun e => decide (rPer R.u e = rPer R.u d) && F e) (e + 1) m) : Nat) : Int), mkS X I J v) := by
      intro bb hbb hpp
      rw [m_flag, gb2_some, tf_n, iZ_add, hbb, decide_eq_true hpp]
      have := ih (e + 1) f (c + (if F e = true then 1 else 0)) (by omega) (by omega)
      rw [show (c : Int) + ((if F e = true then 1 else 0 : Nat) : Int) = ((c + (if F e = true then 1 else 0) : Nat) : Int) by split <;> omega, this, Bool.true_and]
      congr 4
      omega
    by_cases cp : rPer R.u e = rPer R.u d
    · rw [if_pos (by rw [cp])]
      rcases hx with ⟨rfl, hF⟩ | ⟨rfl, hF⟩
      · rw [if_pos (show iZ ((0 : Nat) : Int) = 0 from rfl)]
        exact tl (R.Of e) (by rw [hF]) cp
      · rw [if_neg (show ¬ iZ ((1 : Nat) : Int) = 0 by decide), hF e he']
        exact tl (F e) rfl cp
    · rw [if_neg (by rw [iZ_eq (by omega) (by omega) (by omega) (by omega)]; omega), decide_eq_false cp, Bool.false_and, if_neg (by decide), Nat.zero_add]
      exact ih (e + 1) f c (by omega) (by omega)
theorem mq_period {z d x : Int} (z1 : -2147483648 ≤ z) (z2 : z < 2147483648) (d1 : -2147483648 ≤ d) (d2 : d < 2147483648) (x1 : -2147483648 ≤ x) (x2 : x < 2147483648) (ok : BkOK B) (hB : mBk I B) : ∃ I', fX12_period 267 (iZ z) (iZ d) (iZ x) (mkS X I J v) = some (if (0 ≤ z ∧ z < B.nR) ∧ (0 ≤ d ∧ d < 14610) ∧ 0 ≤ x ∧ x ≤ 2 then aPer (B.rl z.toNat) (B.stp z.toNat) d.toNat x else -1, mkS X I' J v) ∧ frX 284 I I' := by
  have k1 := ok.1
  unfold fX12_period
  simp only [o267, m_isRule z1 z2 ok hB, gb2_some]
  by_cases c : 0 ≤ z ∧ z < (B.nR : Int)
  · obtain ⟨r, rfl⟩ : ∃ n : Nat, z = (n : Int) := ⟨z.toNat, by omega⟩
    have hr : r < B.nR := by omega
    have h6 : r < 6 := by omega
    obtain ⟨hR, hst, hnm⟩ := hB.2.2.1 r hr
    obtain ⟨ru, s1, s2⟩ := ok.2.2.1 r hr
    have hc : calOK I := by
      rcases hB.2.2.2.2 with q | q
      · exact q.2.2
      · omega
    rw [decide_eq_true c, if_neg (show ¬ tf true = 0 by decide), m_isDay d1 d2, gb2_some, Int.toNat_natCast]
    by_cases cd : 0 ≤ d ∧ d < 14610
    · rw [if_pos cd, if_neg (show ¬ (1 : Int32) = 0 by decide), m_isIn, gb2_some, iZ_l x1 x2, show (0 : Int64).toInt = 0 from rfl, show (2 : Int64).toInt = 2 from rfl]
      by_cases cx : 0 ≤ x ∧ x ≤ 2
      · obtain ⟨e, rfl⟩ : ∃ n : Nat, d = (n : Int) := ⟨d.toNat, by omega⟩
        have he : e < 14610 := by omega
        have p1 := (rPer_le (u := (B.rl r).u) he).1
        have p2 := (rPer_le (u := (B.rl r).u) ru.b).1
        rw [if_pos cx, if_neg (show ¬ (1 : Int32) = 0 by decide), if_pos (show (0 ≤ (r : Int) ∧ (r : Int) < (B.nR : Int)) ∧ (0 ≤ (e : Int) ∧ (e : Int) < 14610) ∧ 0 ≤ x ∧ x ≤ 2 from ⟨c, cd, cx⟩), Int.toNat_natCast]
        unfold aPer
        by_cases c3 : x = 2
        · have e2 : (2 : Int32) * iZ (r : Int) = iZ ((2 * r : Nat) : Int) := by rw [show (2 : Int32) = iZ 2 from rfl, iZ_mul]; congr 1
          rw [if_pos (by rw [c3]; rfl), if_pos c3]
          simp only [o267, m_periodOf h6 hR ru hc he, m_fromOf h6 hR, m_periodOf h6 hR ru hc ru.b, gb2_some, gjn_eq, bO, o267R, e2, a281 _ _ _ _ (2 * r) (show 2 * r < 264 by omega), hst]
          have f0 : ∀ s : gH, gb2 (fX12_flag 0 s) (fun r20 s21 => some (r20, s21)) = some ((0 : Int32), s) := fun s => by rw [show fX12_flag 0 s = some (0, s) from m_flag (b := false)]; rfl
          have f1 : ∀ s : gH, gb2 (fX12_flag 1 s) (fun r20 s21 => some (r20, s21)) = some ((1 : Int32), s) := fun s => by rw [show fX12_flag 1 s = some (1, s) from m_flag (b := true)]; rfl
          simp only [f0, f1]
          refine ⟨I, ?_, frX_r 284 I⟩
          by_cases cb : rPer (B.rl r).u (B.rl r).b ≤ rPer (B.rl r).u e
          · rw [if_neg (by rw [iZ_lt (by omega) (by omega) (by omega) (by omega)]; omega), m_isGone2 h6 hR ru hc he cb s1 s2, gb2_some, decide_eq_true cb, Bool.true_and]
            exact tf_ite
          · rw [if_pos (by rw [iZ_lt (by omega) (by omega) (by omega) (by omega)]; omega), decide_eq_false cb]
            rfl
        · rw [if_neg (by rw [cL_eq (by omega) (by omega) (by decide)]; exact c3), if_neg c3]
          obtain ⟨I1, a1, a2, a3⟩ := m_laysBase (X := X) (J := J) (v := v) h6 hR ru hc
          rw [a1, m_c, gb2_some]
          have hR1 : mRl I1 r (B.rl r) := mRl_X hR a2 (by decide) (by decide)
          have hc1 : calOK I1 := calOK_X hc a2 (by decide)
          refine ⟨I1, ?_, a2⟩
          obtain ⟨y, rfl⟩ : ∃ n : Nat, x = (n : Int) := ⟨x.toNat, by omega⟩
          by_cases c4 : (y : Int) = 1
          · have := m_perL (X := X) (J := J) (v := v) (x := y) (F := rBs (B.rl r)) h6 hR1 ru hc1 he (Or.inr ⟨by omega, a3⟩) 14610 0 20000 0 (by decide) (by decide)
            rw [per_cnt he, Nat.zero_add] at this
            rw [if_pos c4]
            exact this
          · have := m_perL (X := X) (J := J) (v := v) (x := y) (F := (B.rl r).Of) h6 hR1 ru hc1 he (Or.inl ⟨by omega, rfl⟩) 14610 0 20000 0 (by decide) (by decide)
            rw [per_cnt he, Nat.zero_add] at this
            rw [if_neg c4]
            exact this
      · rw [if_neg cx, if_pos rfl, if_neg (fun q => cx q.2.2)]
        exact ⟨I, rfl, frX_r 284 I⟩
    · rw [if_neg cd, if_pos rfl, if_neg (fun q => cd q.2.1)]
      exact ⟨I, rfl, frX_r 284 I⟩
  · rw [decide_eq_false c, if_pos tf_f, if_neg (fun q => c q.1)]
    exact ⟨I, rfl, frX_r 284 I⟩
end gQp
