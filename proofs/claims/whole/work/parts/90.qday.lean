/-! QUESTIONS about days: on, next, ahead, nth, many, meet -/
section gQd
variable {X : Nat × (Nat → Int32)} {v : Vt} {B : Bk} {A L : Nat → Nat → Bool} {b : Nat} {I : Nat → Nat → Int32} {J : Nat → Nat → Int64} {P Q : Nat → Bool}
theorem c_ask {K : Nat → gH → Option (Int32 × gH)} {a : (Nat → Bool) → Int32} {z : Int} (z1 : -2147483648 ≤ z) (z2 : z < 2147483648) (hb : isBk b) (hv : v.2.2.1 = b) (ok : BkOK B) (hB : cBk I b B) (hL : cLg I J B A L) (hK0 : ∀ s, K 0 s = some (-1, s)) (hK : ∀ I' J' r P, isDS r → dsP J' r P → K r (mkS X I' J' v) = some (a P, mkS X I' J' v)) : ∃ I' J', (gb2 (fX5_daysOf 60 (iZ z) (mkS X I J v)) K) = some (if (0 ≤ z ∧ z < B.nR) ∨ (6 ≤ z ∧ z < 6 + B.nS) then a (dy B A L z.toNat) else -1, mkS X I' J' v) ∧ frC I I' J J' ∧ cLg I' J' B A L := by
  obtain ⟨I', J', e1, e2, e3, e4⟩ := c_daysOf (X := X) z1 z2 hb hv ok hB hL
  refine ⟨I', J', ?_, e2, e3⟩
  rw [e1, gb2_some]
  have k1 := ok.1
  have k2 := ok.2.1
  by_cases c : (0 ≤ z ∧ z < (B.nR : Int)) ∨ (6 ≤ z ∧ z < 6 + (B.nS : Int))
  · rw [if_pos c, if_pos c]
    exact hK I' J' _ _ (isDS_k (by omega)) (e4 c)
  · rw [if_neg c, if_neg c]
    exact hK0 _
theorem m_ask {K : Int32 → gH → Option (Int32 × gH)} {a : (Nat → Bool) → Int32} {z : Int} (z1 : -2147483648 ≤ z) (z2 : z < 2147483648) (ok : BkOK B) (hB : mBk I B) (hL : mLg I B A L) (hK0 : ∀ s, K 0 s = some (-1, s)) (hK : ∀ I' w P, w < 12 → z = (w : Nat) → daysR I' (14610 * w) P → calOK I' → K 1 (mkS X I' J v) = some (a P, mkS X I' J v)) : ∃ I', (gb2 (fX12_isAsked 267 (iZ z) (mkS X I J v)) K) = some (if (0 ≤ z ∧ z < B.nR) ∨ (6 ≤ z ∧ z < 6 + B.nS) then a (dy B A L z.toNat) else -1, mkS X I' J v) ∧ frY I I' ∧ mLg I' B A L := by
  obtain ⟨I', e1, e2, e3, e4⟩ := m_isAsked (X := X) (J := J) (v := v) z1 z2 ok hB hL
  refine ⟨I', ?_, e2, e3⟩
  rw [e1, gb2_some]
  have k1 := ok.1
  have k2 := ok.2.1
  by_cases c : (0 ≤ z ∧ z < (B.nR : Int)) ∨ (6 ≤ z ∧ z < 6 + (B.nS : Int))
  · rw [decide_eq_true c, if_pos c]
    have hc : calOK I := by
      rcases hB.2.2.2.2 with q | q
      · exact q.2.2
      · omega
    exact hK I' z.toNat _ (by omega) (by omega) (e4 c) (calOK_Y hc (fun r k x y => e2 r k (by omega) (by omega)))
  · rw [decide_eq_false c, if_neg c]
    exact hK0 _
theorem dsP_d {r d : Nat} (h : dsP J r P) (hd : d < 14610) : dsf J r d = P d := by
  rw [h d (by omega), decide_eq_true hd]; rfl
/-- on -/
def aOn (d : Int) (P : Nat → Bool) : Int32 := if 0 ≤ d ∧ d < 14610 then tf (P d.toNat) else -1
theorem cq_on {z d : Int} (z1 : -2147483648 ≤ z) (z2 : z < 2147483648) (d1 : -2147483648 ≤ d) (d2 : d < 2147483648) (hb : isBk b) (hv : v.2.2.1 = b) (ok : BkOK B) (hB : cBk I b B) (hL : cLg I J B A L) : ∃ I' J', fX11_on 50 (iZ z) (iZ d) (mkS X I J v) = some (if (0 ≤ z ∧ z < B.nR) ∨ (6 ≤ z ∧ z < 6 + B.nS) then aOn d (dy B A L z.toNat) else -1, mkS X I' J' v) ∧ frC I I' J J' ∧ cLg I' J' B A L := by
  unfold fX11_on
  simp only [bO, o50R, o60]
  refine c_ask z1 z2 hb hv ok hB hL (fun s => rfl) (fun I' J' r P hr hP => ?_)
  have hr0 := isDS_r hr
  rw [if_neg (by omega), c_isDay d1 d2, gb2_some]
  unfold aOn
  by_cases c : 0 ≤ d ∧ d < 14610
  · rw [if_pos c, if_neg (by decide), ds_c hr, ds_holds hr d1 d2, gb2_some, if_pos c, dsP_d hP (by omega)]
    have e : (if 0 ≤ d ∧ d < 14610 ∧ P d.toNat = true then (1 : Int32) else 0) = tf (P d.toNat) := by
      cases P d.toNat with
      | true => rw [if_pos ⟨c.1, c.2, rfl⟩]; rfl
      | false => rw [if_neg (fun q => by cases q.2.2)]; rfl
    rw [e]
    exact tf_ite
  · rw [if_neg c, if_pos rfl, if_neg c]
theorem mq_on {z d : Int} (z1 : -2147483648 ≤ z) (z2 : z < 2147483648) (d1 : -2147483648 ≤ d) (d2 : d < 2147483648) (ok : BkOK B) (hB : mBk I B) (hL : mLg I B A L) : ∃ I', fX12_on 267 (iZ z) (iZ d) (mkS X I J v) = some (if (0 ≤ z ∧ z < B.nR) ∨ (6 ≤ z ∧ z < 6 + B.nS) then aOn d (dy B A L z.toNat) else -1, mkS X I' J v) ∧ frY I I' ∧ mLg I' B A L := by
  unfold fX12_on
  rw [m_isDay d1 d2, gb2_some]
  by_cases c : 0 ≤ d ∧ d < 14610
  · rw [if_pos c, if_neg (by decide)]
    simp only [o267]
    refine m_ask z1 z2 ok hB hL (fun s => rfl) (fun I' w P hw hz hP hc => ?_)
    obtain ⟨d', rfl⟩ : ∃ n : Nat, d = (n : Int) := ⟨d.toNat, by omega⟩
    rw [if_neg (by decide), m_c, hz, m_isOn hw (by omega) hP, gb2_some, m_flag, gb2_some]
    unfold aOn
    rw [if_pos c]
    rfl
  · rw [if_neg c, if_pos rfl]
    refine ⟨I, ?_, frY_r I, hL⟩
    unfold aOn
    rw [if_neg c, ite_self]
/-- next -/
def aNext (d : Int) (P : Nat → Bool) : Int32 := if -1 ≤ d ∧ d < 14610 then iZ (nxt P (d + 1).toNat) else -1
theorem cq_next {z d : Int} (z1 : -2147483648 ≤ z) (z2 : z < 2147483648) (d1 : -2147483648 ≤ d) (d2 : d < 2147483648) (hb : isBk b) (hv : v.2.2.1 = b) (ok : BkOK B) (hB : cBk I b B) (hL : cLg I J B A L) : ∃ I' J', fX11_next 50 (iZ z) (iZ d) (mkS X I J v) = some (if (0 ≤ z ∧ z < B.nR) ∨ (6 ≤ z ∧ z < 6 + B.nS) then aNext d (dy B A L z.toNat) else -1, mkS X I' J' v) ∧ frC I I' J J' ∧ cLg I' J' B A L := by
  unfold fX11_next
  simp only [bO, o50R, o60]
  refine c_ask z1 z2 hb hv ok hB hL (fun s => rfl) (fun I' J' r P hr hP => ?_)
  have hr0 := isDS_r hr
  rw [if_neg (by omega)]
  unfold aNext
  by_cases c1 : d < -1
  · rw [if_pos (by rw [show (-1 : Int32) = iZ (-1) from rfl, iZ_lt (by omega) (by omega) (by omega) (by omega)]; omega), if_neg (by omega)]
  · rw [if_neg (by rw [show (-1 : Int32) = iZ (-1) from rfl, iZ_lt (by omega) (by omega) (by omega) (by omega)]; omega)]
    by_cases c2 : d < 14610
    · rw [if_pos (by rw [cL_lt (by omega) (by omega) (by decide)]; omega), if_pos (by omega), ds_c hr, aL, ds_first hr (by omega) (by omega), gb2_some]
      congr 3
      by_cases c3 : d + 1 < 14610
      · rw [if_pos (by omega)]
        exact nxt_congr (fun j a b => dsP_d hP b)
      · rw [if_neg (by omega), nxt_none (fun j a b => by omega)]
    · rw [if_neg (by rw [cL_lt (by omega) (by omega) (by decide)]; omega), if_neg (by omega)]
theorem mq_nextL {w : Nat} (hw : w < 12) (h : daysR I (14610 * w) P) : ∀ (m d fuel : Nat), d + m = 14610 → m < fuel → gX12_next_L28 267 (iZ (w : Int)) fuel (iZ (d : Int)) (mkS X I J v) = some (iZ (nx P m d), mkS X I J v) := by
  intro m
  induction m with
  | zero =>
    intro d fuel hd hf
    obtain ⟨f, rfl⟩ : ∃ n, fuel = n + 1 := ⟨fuel - 1, by omega⟩
    unfold gX12_next_L28
    rw [if_neg (by rw [cL_lt (by omega) (by omega) (by decide)]; omega)]
    rfl
  | succ m ih =>
    intro d fuel hd hf
    obtain ⟨f, rfl⟩ : ∃ n, fuel = n + 1 := ⟨fuel - 1, by omega⟩
    unfold gX12_next_L28
    rw [if_pos (by rw [cL_lt (by omega) (by omega) (by decide)]; omega), m_c, m_isOn hw (by omega) h, gb2_some]
    unfold nx
    cases P d with
    | true => rw [if_neg (by decide), if_pos rfl]
    | false =>
      rw [if_pos tf_f, if_neg (by decide), aL, show (d : Int) + 1 = ((d + 1 : Nat) : Int) by omega]
      exact ih (d + 1) f (by omega) (by omega)
theorem mq_next {z d : Int} (z1 : -2147483648 ≤ z) (z2 : z < 2147483648) (d1 : -2147483648 ≤ d) (d2 : d < 2147483648) (ok : BkOK B) (hB : mBk I B) (hL : mLg I B A L) : ∃ I', fX12_next 267 (iZ z) (iZ d) (mkS X I J v) = some (if (0 ≤ z ∧ z < B.nR) ∨ (6 ≤ z ∧ z < 6 + B.nS) then aNext d (dy B A L z.toNat) else -1, mkS X I' J v) ∧ frY I I' ∧ mLg I' B A L := by
  unfold fX12_next
  rw [m_isIn, gb2_some, iZ_l d1 d2, show (-1 : Int64).toInt = -1 from rfl, show (14609 : Int64).toInt = 14609 from rfl]
  by_cases c : -1 ≤ d ∧ d ≤ 14609
  · rw [if_pos c, if_neg (by decide)]
    simp only [o267]
    refine m_ask z1 z2 ok hB hL (fun s => rfl) (fun I' w P hw hz hP hc => ?_)
    rw [if_neg (by decide), glet_eq, aL, hz]
    unfold aNext
    rw [if_pos (by omega)]
    obtain ⟨d', hd'⟩ : ∃ n : Nat, d + 1 = (n : Int) := ⟨(d + 1).toNat, by omega⟩
    rw [hd']
    exact mq_nextL hw hP (14610 - d') d' 20000 (by omega) (by omega)
  · rw [if_neg c, if_pos rfl]
    refine ⟨I, ?_, frY_r I, hL⟩
    unfold aNext
    rw [if_neg (show ¬ (-1 ≤ d ∧ d < 14610) by omega), ite_self]
/-- ahead -/
def aAhead (d : Int) (P : Nat → Bool) : Int32 := if 0 ≤ d ∧ d ≤ 14610 then iZ (pv P d.toNat) else -1
theorem cq_ahead {z d : Int} (z1 : -2147483648 ≤ z) (z2 : z < 2147483648) (d1 : -2147483648 ≤ d) (d2 : d < 2147483648) (hb : isBk b) (hv : v.2.2.1 = b) (ok : BkOK B) (hB : cBk I b B) (hL : cLg I J B A L) : ∃ I' J', fX11_ahead 50 (iZ z) (iZ d) (mkS X I J v) = some (if (0 ≤ z ∧ z < B.nR) ∨ (6 ≤ z ∧ z < 6 + B.nS) then aAhead d (dy B A L z.toNat) else -1, mkS X I' J' v) ∧ frC I I' J J' ∧ cLg I' J' B A L := by
  unfold fX11_ahead
  simp only [bO, o50R, o60]
  refine c_ask z1 z2 hb hv ok hB hL (fun s => rfl) (fun I' J' r P hr hP => ?_)
  have hr0 := isDS_r hr
  rw [if_neg (by omega)]
  unfold aAhead
  by_cases c1 : d < 0
  · rw [if_pos (by rw [show (0 : Int32) = iZ 0 from rfl, iZ_lt (by omega) (by omega) (by omega) (by omega)]; omega), if_neg (by omega)]
  · rw [if_neg (by rw [show (0 : Int32) = iZ 0 from rfl, iZ_lt (by omega) (by omega) (by omega) (by omega)]; omega)]
    by_cases c2 : 14610 < d
    · rw [if_pos (by rw [show (14610 : Int32) = iZ 14610 from rfl, iZ_lt (by omega) (by omega) (by omega) (by omega)]; omega), if_neg (by omega)]
    · rw [if_neg (by rw [show (14610 : Int32) = iZ 14610 from rfl, iZ_lt (by omega) (by omega) (by omega) (by omega)]; omega), if_pos (by omega), ds_c hr, sL, ds_last hr (by omega) (by omega), gb2_some]
      congr 3
      by_cases c3 : d = 0
      · rw [if_neg (by omega), c3]; rfl
      · rw [if_pos (by omega), show (d - 1).toNat + 1 = d.toNat by omega]
        exact pv_congr (fun j a => dsP_d hP (by omega))
theorem mq_aheadL {w : Nat} (hw : w < 12) (h : daysR I (14610 * w) P) : ∀ (m fuel : Nat), m ≤ 14610 → m < fuel → gX12_ahead_L26 267 (iZ (w : Int)) fuel (iZ ((m : Int) - 1)) (mkS X I J v) = some (iZ (pv P m), mkS X I J v) := by
  intro m
  induction m with
  | zero =>
    intro fuel hm hf
    obtain ⟨f, rfl⟩ : ∃ n, fuel = n + 1 := ⟨fuel - 1, by omega⟩
    unfold gX12_ahead_L26
    rw [if_pos (by rw [show (0 : Int32) = iZ 0 from rfl, iZ_lt (by omega) (by omega) (by omega) (by omega)]; omega)]
    rfl
  | succ m ih =>
    intro fuel hm hf
    obtain ⟨f, rfl⟩ : ∃ n, fuel = n + 1 := ⟨fuel - 1, by omega⟩
    unfold gX12_ahead_L26
    rw [if_neg (by rw [show (0 : Int32) = iZ 0 from rfl, iZ_lt (by omega) (by omega) (by omega) (by omega)]; omega), m_c, show ((m + 1 : Nat) : Int) - 1 = (m : Int) by omega, m_isOn hw (by omega) h, gb2_some]
    unfold pv
    cases P m with
    | true => rw [if_neg (by decide), if_pos rfl]
    | false =>
      rw [if_pos tf_f, if_neg (by decide), show (-1 : Int32) = iZ (-1) from rfl, iZ_add]
      exact ih f (by omega) (by omega)
theorem mq_ahead {z d : Int} (z1 : -2147483648 ≤ z) (z2 : z < 2147483648) (d1 : -2147483648 ≤ d) (d2 : d < 2147483648) (ok : BkOK B) (hB : mBk I B) (hL : mLg I B A L) : ∃ I', fX12_ahead 267 (iZ z) (iZ d) (mkS X I J v) = some (if (0 ≤ z ∧ z < B.nR) ∨ (6 ≤ z ∧ z < 6 + B.nS) then aAhead d (dy B A L z.toNat) else -1, mkS X I' J v) ∧ frY I I' ∧ mLg I' B A L := by
  unfold fX12_ahead
  rw [m_isIn, gb2_some, iZ_l d1 d2, show (0 : Int64).toInt = 0 from rfl, show (14610 : Int64).toInt = 14610 from rfl]
  by_cases c : 0 ≤ d ∧ d ≤ 14610
  · rw [if_pos c, if_neg (by decide)]
    simp only [o267]
    refine m_ask z1 z2 ok hB hL (fun s => rfl) (fun I' w P hw hz hP hc => ?_)
    rw [if_neg (by decide), glet_eq, sL, hz]
    unfold aAhead
    rw [if_pos (by omega)]
    obtain ⟨d', rfl⟩ : ∃ n : Nat, d = (n : Int) := ⟨d.toNat, by omega⟩
    exact mq_aheadL hw hP d' 20000 (by omega) (by omega)
  · rw [if_neg c, if_pos rfl]
    refine ⟨I, ?_, frY_r I, hL⟩
    unfold aAhead
    rw [if_neg c, ite_self]
end gQd
