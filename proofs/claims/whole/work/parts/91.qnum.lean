/-! QUESTIONS about days: nth, many, sum, fares -/
section gQn
variable {X : Nat × (Nat → Int32)} {v : Vt} {B : Bk} {A L : Nat → Nat → Bool} {b : Nat} {I : Nat → Nat → Int32} {J : Nat → Nat → Int64} {P Q : Nat → Bool}
theorem dsP_cnt {r a n : Nat} (h : dsP J r P) (hn : a + n ≤ 14610) : cnt (dsf J r) a n = cnt P a n := cnt_congr (fun i hi => dsP_d h (by omega))
theorem m_countL {w e : Nat} (hw : w < 12) (h : daysR I (14610 * w) P) (he : e < 14610) : ∀ (m d c fuel : Nat), d + m = e + 1 → m < fuel → c ≤ d → gX12_count_L6 267 (iZ (w : Int)) (iZ (e : Int)) fuel (iZ (c : Int)) (iZ (d : Int)) (mkS X I J v) = some (iZ ((c + cnt P d m : Nat) : Int), mkS X I J v) := by
  intro m
  induction m with
  | zero =>
    intro d c fuel hd hf hc
    obtain ⟨f, rfl⟩ : ∃ n, fuel = n + 1 := ⟨fuel - 1, by omega⟩
    unfold gX12_count_L6
    rw [if_pos (by rw [iZ_lt (by omega) (by omega) (by omega) (by omega)]; omega)]
    rfl
  | succ m ih =>
    intro d c fuel hd hf hc
    obtain ⟨f, rfl⟩ : ∃ n, fuel = n + 1 := ⟨fuel - 1, by omega⟩
    unfold gX12_count_L6
    rw [if_neg (by rw [iZ_lt (by omega) (by omega) (by omega) (by omega)]; omega), m_c, m_isOn hw (by omega) h, gb2_some, m_flag, gb2_some, glet_eq, aL, tf_n, iZ_add, show (d : Int) + 1 = ((d + 1 : Nat) : Int) by omega]
    have e1 : (c : Int) + ((if P d = true then 1 else 0 : Nat) : Int) = ((c + (if P d = true then 1 else 0) : Nat) : Int) := by split <;> omega
    rw [e1, ih (d + 1) _ f (by omega) (by omega) (by split <;> omega), cnt_front]
    congr 4
    omega
theorem m_count {w a e : Nat} (hw : w < 12) (h : daysR I (14610 * w) P) (ha : a ≤ e) (he : e < 14610) : fX12_count 267 (iZ (w : Int)) (iZ (a : Int)) (iZ (e : Int)) (mkS X I J v) = some (iZ (cnt P a (e + 1 - a) : Nat), mkS X I J v) := by
  unfold fX12_count
  have := m_countL (X := X) (J := J) (v := v) hw h he (e + 1 - a) a 0 20000 (by omega) (by omega) (Nat.zero_le _)
  rw [Nat.zero_add] at this
  exact this
/-- nth -/
def yNth (d : Int) (P : Nat → Bool) : Int := if d < 0 then d + (cnt P 0 14610 : Nat) else d
def aNth (d : Int) (P : Nat → Bool) : Int32 := iZ (if yNth d P < 0 then -1 else nt P 14610 0 (yNth d P).toNat)
theorem cq_nth {z d : Int} (z1 : -2147483648 ≤ z) (z2 : z < 2147483648) (d1 : -2147483648 ≤ d) (d2 : d < 2147483648) (hb : isBk b) (hv : v.2.2.1 = b) (ok : BkOK B) (hB : cBk I b B) (hL : cLg I J B A L) : ∃ I' J', fX11_nth 50 (iZ z) (iZ d) (mkS X I J v) = some (if (0 ≤ z ∧ z < B.nR) ∨ (6 ≤ z ∧ z < 6 + B.nS) then aNth d (dy B A L z.toNat) else -1, mkS X I' J' v) ∧ frC I I' J J' ∧ cLg I' J' B A L := by
  unfold fX11_nth
  simp only [bO, o50R, o60, gjn_eq]
  refine c_ask z1 z2 hb hv ok hB hL (fun s => rfl) (fun I' J' r P hr hP => ?_)
  have hr0 := isDS_r hr
  have hcn := cnt_le P 0 14610
  rw [if_neg (by omega)]
  have at' : ∀ y : Int, -2147483648 ≤ y → y < 2147483648 → gb2 (gcv (mkS X I' J' v) r 2 (fX2_atPlace r (iZ y) (mkS X I' J' v))) (fun r9 s10 => some (r9, s10)) = some (iZ (if y < 0 then -1 else nt P 14610 0 y.toNat), mkS X I' J' v) := by
    intro y y1 y2
    rw [ds_c hr, ds_atPlace hr (dsP_OK hP) y1 y2, gb2_some]
    congr 3
    split
    · rfl
    · exact nt_congr (fun j a c => dsP_d hP (by omega))
  unfold aNth yNth
  by_cases c : d < 0
  · rw [if_pos (by rw [show (0 : Int32) = iZ 0 from rfl, iZ_lt (by omega) (by omega) (by omega) (by omega)]; omega)]
    have e : fX2_between r 0 14609 (mkS X I' J' v) = some (iZ (cnt P 0 14610 : Nat), mkS X I' J' v) := by
      have := ds_between (X := X) (I := I') (J := J') (v := v) (a := 0) (b := 14609) hr (by omega) (by omega) (by omega) (by omega)
      rw [if_pos (by omega)] at this
      have h2 : cnt (dsf J' r) (0 : Int).toNat ((14609 : Int).toNat + 1 - (0 : Int).toNat) = cnt P 0 14610 := dsP_cnt hP (by decide)
      rw [h2] at this
      exact this
    rw [ds_c hr, e, gb2_some, iZ_add]
    rw [if_pos c, Int.add_comm]
    exact at' _ (by omega) (by omega)
  · rw [if_neg (by rw [show (0 : Int32) = iZ 0 from rfl, iZ_lt (by omega) (by omega) (by omega) (by omega)]; omega), if_neg c]
    exact at' _ d1 d2
theorem m_nthL {w : Nat} (hw : w < 12) (h : daysR I (14610 * w) P) : ∀ (m d fuel : Nat) (x : Int64) (y : Int), d + m = 14610 → m < fuel → x.toInt = y → gX12_nth_L36 267 (iZ (w : Int)) fuel x (iZ (d : Int)) (mkS X I J v) = some (iZ (if y < 0 then -1 else nt P m d y.toNat), mkS X I J v) := by
  intro m
  induction m with
  | zero =>
    intro d fuel x y hd hf hx
    obtain ⟨f, rfl⟩ : ∃ n, fuel = n + 1 := ⟨fuel - 1, by omega⟩
    unfold gX12_nth_L36
    rw [if_neg (by rw [cL_lt (by omega) (by omega) (by decide)]; omega)]
    have : (if y < 0 then (-1 : Int) else nt P 0 d y.toNat) = -1 := by split <;> rfl
    rw [this]; rfl
  | succ m ih =>
    intro d fuel x y hd hf hx
    obtain ⟨f, rfl⟩ : ∃ n, fuel = n + 1 := ⟨fuel - 1, by omega⟩
    unfold gX12_nth_L36
    simp only [lg_cmp_lt, lg_cmp_eq, Int64.lt_iff_toInt_lt, hx, show (0 : Int64).toInt = 0 from rfl]
    rw [if_pos (by rw [cL_lt (by omega) (by omega) (by decide)]; omega)]
    by_cases c : y < 0
    · rw [if_pos c, if_pos c]; rfl
    · rw [if_neg c, if_neg c, m_c, m_isOn hw (by omega) h, gb2_some, aL, show (d : Int) + 1 = ((d + 1 : Nat) : Int) by omega]
      unfold nt
      cases hp : P d with
      | false =>
        rw [if_pos tf_f, if_neg (by decide), ih (d + 1) f x y (by omega) (by omega) hx, if_neg c]
      | true =>
        rw [if_neg (show ¬ tf true = 0 by decide), if_pos rfl]
        by_cases c0 : x = 0
        · rw [if_pos c0, if_pos (by rw [c0] at hx; have : (0 : Int64).toInt = 0 := rfl; omega)]
        · have hy : y ≠ 0 := fun q => c0 (Int64.toInt_inj.mp (by rw [hx, q]; rfl))
          have hx1 : (x - 1).toInt = y - 1 := by
            have b1 := x.le_toInt
            have b2 := x.toInt_lt
            rw [Int64.toInt_sub, hx, show (1 : Int64).toInt = 1 from rfl]
            rw [hx] at b2
            exact Int.bmod_eq_of_le (by omega) (by omega)
          rw [if_neg c0, if_neg (by omega), glet_eq, ih (d + 1) f (x - 1) (y - 1) (by omega) (by omega) hx1, if_neg (by omega), show (y - 1).toNat = y.toNat - 1 by omega]
theorem mq_nth {z d : Int} (z1 : -2147483648 ≤ z) (z2 : z < 2147483648) (d1 : -2147483648 ≤ d) (d2 : d < 2147483648) (ok : BkOK B) (hB : mBk I B) (hL : mLg I B A L) : ∃ I', fX12_nth 267 (iZ z) (iZ d) (mkS X I J v) = some (if (0 ≤ z ∧ z < B.nR) ∨ (6 ≤ z ∧ z < 6 + B.nS) then aNth d (dy B A L z.toNat) else -1, mkS X I' J v) ∧ frY I I' ∧ mLg I' B A L := by
  unfold fX12_nth
  simp only [o267, gjn_eq]
  refine m_ask z1 z2 ok hB hL (fun s => rfl) (fun I' w P hw hz hP hc => ?_)
  have hcn := cnt_le P 0 14610
  rw [if_neg (by decide), hz]
  unfold aNth yNth
  by_cases c : d < 0
  · rw [if_pos (by rw [show (0 : Int32) = iZ 0 from rfl, iZ_lt (by omega) (by omega) (by omega) (by omega)]; omega), m_c]
    have e : fX12_count 267 (iZ (w : Int)) 0 14609 (mkS X I' J v) = some (iZ (cnt P 0 14610 : Nat), mkS X I' J v) := m_count (a := 0) (e := 14609) hw hP (by decide) (by decide)
    rw [e, gb2_some, if_pos c]
    refine m_nthL hw hP 14610 0 20000 _ _ (by decide) (by decide) ?_
    rw [Int64.toInt_add, iZ_l d1 d2, iZ_l (by omega) (by omega)]
    exact Int.bmod_eq_of_le (by omega) (by omega)
  · rw [if_neg (by rw [show (0 : Int32) = iZ 0 from rfl, iZ_lt (by omega) (by omega) (by omega) (by omega)]; omega), if_neg c]
    exact m_nthL hw hP 14610 0 20000 _ _ (by decide) (by decide) (iZ_l d1 d2)
/-- many -/
def aMany (d e : Int) (P : Nat → Bool) : Int32 := if 0 ≤ d ∧ d ≤ e ∧ e < 14610 then iZ (cnt P d.toNat (e.toNat + 1 - d.toNat) : Nat) else -1
theorem cq_many {z d e : Int} (z1 : -2147483648 ≤ z) (z2 : z < 2147483648) (d1 : -2147483648 ≤ d) (d2 : d < 2147483648) (e1 : -2147483648 ≤ e) (e2 : e < 2147483648) (hb : isBk b) (hv : v.2.2.1 = b) (ok : BkOK B) (hB : cBk I b B) (hL : cLg I J B A L) : ∃ I' J', fX11_many 50 (iZ z) (iZ d) (iZ e) (mkS X I J v) = some (if (0 ≤ z ∧ z < B.nR) ∨ (6 ≤ z ∧ z < 6 + B.nS) then aMany d e (dy B A L z.toNat) else -1, mkS X I' J' v) ∧ frC I I' J J' ∧ cLg I' J' B A L := by
  unfold fX11_many
  simp only [bO, o50R, o60]
  refine c_ask z1 z2 hb hv ok hB hL (fun s => rfl) (fun I' J' r P hr hP => ?_)
  have hr0 := isDS_r hr
  rw [if_neg (by omega), c_isDay d1 d2, gb2_some]
  unfold aMany
  by_cases c : 0 ≤ d ∧ d < 14610
  · rw [if_pos c, if_neg (by decide), c_isDay e1 e2, gb2_some]
    by_cases c2 : 0 ≤ e ∧ e < 14610
    · rw [if_pos c2, if_neg (by decide)]
      by_cases c3 : e < d
      · rw [if_pos (by rw [iZ_lt (by omega) (by omega) (by omega) (by omega)]; exact c3), if_neg (by omega)]
      · rw [if_neg (by rw [iZ_lt (by omega) (by omega) (by omega) (by omega)]; exact c3), if_pos (by omega), ds_c hr, ds_between hr d1 d2 e1 e2, gb2_some, if_pos (by omega), dsP_cnt hP (by omega)]
    · rw [if_neg c2, if_pos rfl, if_neg (by omega)]
  · rw [if_neg c, if_pos rfl, if_neg (by omega)]
theorem mq_many {z d e : Int} (z1 : -2147483648 ≤ z) (z2 : z < 2147483648) (d1 : -2147483648 ≤ d) (d2 : d < 2147483648) (e1 : -2147483648 ≤ e) (e2 : e < 2147483648) (ok : BkOK B) (hB : mBk I B) (hL : mLg I B A L) : ∃ I', fX12_many 267 (iZ z) (iZ d) (iZ e) (mkS X I J v) = some (if (0 ≤ z ∧ z < B.nR) ∨ (6 ≤ z ∧ z < 6 + B.nS) then aMany d e (dy B A L z.toNat) else -1, mkS X I' J v) ∧ frY I I' ∧ mLg I' B A L := by
  have no : ¬ (0 ≤ d ∧ d ≤ e ∧ e < 14610) → (if (0 ≤ z ∧ z < (B.nR : Int)) ∨ (6 ≤ z ∧ z < 6 + (B.nS : Int)) then aMany d e (dy B A L z.toNat) else -1) = -1 := fun q => by unfold aMany; rw [if_neg q, ite_self]
  unfold fX12_many
  rw [m_isDay d1 d2, gb2_some]
  by_cases c : 0 ≤ d ∧ d < 14610
  · rw [if_pos c, if_neg (by decide), m_isDay e1 e2, gb2_some]
    by_cases c2 : 0 ≤ e ∧ e < 14610
    · rw [if_pos c2, if_neg (by decide)]
      by_cases c3 : e < d
      · rw [if_pos (by rw [iZ_lt (by omega) (by omega) (by omega) (by omega)]; exact c3), no (by omega)]
        exact ⟨I, rfl, frY_r I, hL⟩
      · rw [if_neg (by rw [iZ_lt (by omega) (by omega) (by omega) (by omega)]; exact c3)]
        simp only [o267]
        refine m_ask z1 z2 ok hB hL (fun s => rfl) (fun I' w P hw hz hP hc => ?_)
        obtain ⟨d', rfl⟩ : ∃ n : Nat, d = (n : Int) := ⟨d.toNat, by omega⟩
        obtain ⟨e', rfl⟩ : ∃ n : Nat, e = (n : Int) := ⟨e.toNat, by omega⟩
        rw [if_neg (by decide), hz, m_c, m_count hw hP (by omega) (by omega), gb2_some]
        unfold aMany
        rw [if_pos (by omega)]
        rfl
    · rw [if_neg c2, if_pos rfl, no (by omega)]
      exact ⟨I, rfl, frY_r I, hL⟩
  · rw [if_neg c, if_pos rfl, no (by omega)]
    exact ⟨I, rfl, frY_r I, hL⟩
end gQn
