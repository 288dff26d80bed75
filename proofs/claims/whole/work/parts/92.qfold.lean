/-! QUESTIONS about days: sum, fares, gap -/
def dF {S : Type} (P : Nat → Bool) (f : S → Nat → S) : Nat → Nat → S → S
  | 0, _, s => s
  | m + 1, d, s => dF P f m (d + 1) (if P d = true then f s d else s)
theorem dF_skip {S : Type} {P : Nat → Bool} {f : S → Nat → S} {s : S} : ∀ (k d m : Nat), (∀ j, d ≤ j → j < d + k → P j = false) → dF P f (k + m) d s = dF P f m (d + k) s := by
  intro k
  induction k with
  | zero => intro d m h; rw [Nat.zero_add]; rfl
  | succ k ih =>
    intro d m h
    rw [show k + 1 + m = (k + m) + 1 by omega]
    show dF P f (k + m) (d + 1) (if P d = true then f s d else s) = _
    rw [h d (by omega) (by omega), if_neg (by decide), ih (d + 1) m (fun j a b => h j (by omega) (by omega)), show d + 1 + k = d + (k + 1) by omega]
theorem dF_nx {S : Type} {P : Nat → Bool} {f : S → Nat → S} {s : S} {d : Nat} (hd : d ≤ 14610) : (nxt P d = -1 ∧ dF P f (14610 - d) d s = s) ∨ ∃ k : Nat, nxt P d = (k : Int) ∧ d ≤ k ∧ k < 14610 ∧ P k = true ∧ dF P f (14610 - d) d s = dF P f (14610 - (k + 1)) (k + 1) (f s k) := by
  rcases nxt_cases P d with ⟨h1, h2⟩ | ⟨k, h1, h2, h3, h4, h5⟩
  · refine Or.inl ⟨h1, ?_⟩
    have := dF_skip (P := P) (f := f) (s := s) (14610 - d) d 0 (fun j a b => h2 j a (by omega))
    rw [Nat.add_zero] at this
    rw [this]; rfl
  · refine Or.inr ⟨k, h1, h2, h3, h4, ?_⟩
    have := dF_skip (P := P) (f := f) (s := s) (k - d) d (14610 - k) (fun j a b => h5 j a (by omega))
    obtain ⟨q, hq⟩ : ∃ q, 14610 - k = q + 1 := ⟨14610 - k - 1, by omega⟩
    rw [show 14610 - d = k - d + (14610 - k) by omega, this, show d + (k - d) = k by omega, hq, show 14610 - (k + 1) = q by omega]
    show dF P f q (k + 1) (if P k = true then f s k else s) = _
    rw [if_pos h4]
section gQf
variable {X : Nat × (Nat → Int32)} {v : Vt} {B : Bk} {A L : Nat → Nat → Bool} {b : Nat} {I : Nat → Nat → Int32} {J : Nat → Nat → Int64} {P Q : Nat → Bool}
theorem q_first {r d : Nat} (hr : isDS r) (hP : dsP J r P) (hd : d ≤ 14610) : fX2_firstFrom r (iZ (d : Int)) (mkS X I J v) = some (iZ (nxt P d), mkS X I J v) := by
  have e : (if 0 ≤ (d : Int) ∧ (d : Int) < 14610 then nxt (dsf J r) (d : Int).toNat else -1) = nxt P d := by
    by_cases c : d < 14610
    · rw [if_pos (by omega)]
      exact nxt_congr (fun j a b => dsP_d hP b)
    · rw [if_neg (by omega), nxt_none (fun j a b => by omega)]
  rw [ds_first hr (by omega) (by omega), e]
/-- sum -/
def fSum (s : Int64 × Nat) (d : Nat) : Int64 × Nat := (gLrem (s.1 + ((iZ ((s.2 + 1 : Nat) : Int)).toInt64 * (iZ (d : Int)).toInt64)) 1000003, s.2 + 1)
def aSum (P : Nat → Bool) : Int32 := (dF P fSum 14610 0 ((0 : Int64), 0)).1.toInt32
theorem c_sumL {r : Nat} (hr : isDS r) (hP : dsP J r P) : ∀ (m d fuel : Nat) (s : Int64 × Nat), d + m = 14610 → m < fuel → s.2 ≤ d → gX11_sum_L27 r fuel s.1 (iZ (nxt P d)) (iZ ((s.2 + 1 : Nat) : Int)) (mkS X I J v) = some ((dF P fSum (14610 - d) d s).1.toInt32, mkS X I J v) := by
  intro m
  induction m using Nat.strongRecOn with
  | ind m ih =>
    intro d fuel s hd hf hs
    obtain ⟨f, rfl⟩ : ∃ n, fuel = n + 1 := ⟨fuel - 1, by omega⟩
    unfold gX11_sum_L27
    rcases dF_nx (P := P) (f := fSum) (s := s) (d := d) (by omega) with ⟨h1, h2⟩ | ⟨k, h1, h2, h3, h4, h5⟩
    · rw [h1, h2, if_pos (show iZ (-1) = -1 from rfl), ite_self]
    · rw [h1, h5, if_neg (by rw [cR_lt (by omega) (by omega) (by decide)]; omega), if_neg (by rw [cM_eq (by omega) (by omega)]; omega), glet_eq, ds_c hr, aL, aL, show (k : Int) + 1 = ((k + 1 : Nat) : Int) by omega, q_first hr hP (by omega), gb2_some, show ((s.2 + 1 : Nat) : Int) + 1 = ((s.2 + 1 + 1 : Nat) : Int) by omega]
      exact ih (14610 - (k + 1)) (by omega) (k + 1) f (fSum s k) (by omega) (by omega) (by show s.2 + 1 ≤ k + 1; omega)
theorem cq_sum {z : Int} (z1 : -2147483648 ≤ z) (z2 : z < 2147483648) (hb : isBk b) (hv : v.2.2.1 = b) (ok : BkOK B) (hB : cBk I b B) (hL : cLg I J B A L) : ∃ I' J', fX11_sum 50 (iZ z) (mkS X I J v) = some (if (0 ≤ z ∧ z < B.nR) ∨ (6 ≤ z ∧ z < 6 + B.nS) then aSum (dy B A L z.toNat) else -1, mkS X I' J' v) ∧ frC I I' J J' ∧ cLg I' J' B A L := by
  unfold fX11_sum
  simp only [bO, o50R, o60]
  refine c_ask z1 z2 hb hv ok hB hL (fun s => rfl) (fun I' J' r P hr hP => ?_)
  have hr0 := isDS_r hr
  have e : fX2_firstFrom r 0 (mkS X I' J' v) = some (iZ (nxt P 0), mkS X I' J' v) := q_first (d := 0) hr hP (by decide)
  rw [if_neg (by omega), ds_c hr, e, gb2_some]
  exact c_sumL hr hP 14610 0 20000 ((0 : Int64), 0) (by decide) (by decide) (by decide)
theorem m_sumL {w : Nat} (hw : w < 12) (h : daysR I (14610 * w) P) : ∀ (m d fuel : Nat) (s : Int64 × Nat), d + m = 14610 → m < fuel → gX12_sum_L18 267 (iZ (w : Int)) fuel s.1 (iZ (s.2 : Int)) (iZ (d : Int)) (mkS X I J v) = some ((dF P fSum m d s).1.toInt32, mkS X I J v) := by
  intro m
  induction m with
  | zero =>
    intro d fuel s hd hf
    obtain ⟨f, rfl⟩ : ∃ n, fuel = n + 1 := ⟨fuel - 1, by omega⟩
    unfold gX12_sum_L18
    rw [if_neg (by rw [cL_lt (by omega) (by omega) (by decide)]; omega)]
    rfl
  | succ m ih =>
    intro d fuel s hd hf
    obtain ⟨f, rfl⟩ : ∃ n, fuel = n + 1 := ⟨fuel - 1, by omega⟩
    unfold gX12_sum_L18
    rw [if_pos (by rw [cL_lt (by omega) (by omega) (by decide)]; omega), m_c, m_isOn hw (by omega) h, gb2_some, aL, aL, show (d : Int) + 1 = ((d + 1 : Nat) : Int) by omega, show (s.2 : Int) + 1 = ((s.2 + 1 : Nat) : Int) by omega]
    unfold dF
    cases P d with
    | false =>
      rw [if_pos tf_f, if_neg (by decide)]
      exact ih (d + 1) f s (by omega) (by omega)
    | true =>
      rw [if_neg (by decide), if_pos rfl, glet_eq]
      exact ih (d + 1) f (fSum s d) (by omega) (by omega)
theorem mq_sum {z : Int} (z1 : -2147483648 ≤ z) (z2 : z < 2147483648) (ok : BkOK B) (hB : mBk I B) (hL : mLg I B A L) : ∃ I', fX12_sum 267 (iZ z) (mkS X I J v) = some (if (0 ≤ z ∧ z < B.nR) ∨ (6 ≤ z ∧ z < 6 + B.nS) then aSum (dy B A L z.toNat) else -1, mkS X I' J v) ∧ frY I I' ∧ mLg I' B A L := by
  unfold fX12_sum
  simp only [o267]
  refine m_ask z1 z2 ok hB hL (fun s => rfl) (fun I' w P hw hz hP hc => ?_)
  rw [if_neg (by decide), hz]
  exact m_sumL hw hP 14610 0 20000 ((0 : Int64), 0) (by decide) (by decide)
/-- fares -/
def fMat (x d : Nat) : Bool := if x < 7 then decide ((d + 5) % 7 = x) else decide (cM d + 6 = x)
def fFar (x : Nat) (s d : Nat) : Nat := s + (if fMat x d = true then 1 else 0)
def aFar (x : Int) (P : Nat → Bool) : Int32 := if 0 ≤ x ∧ x ≤ 18 then iZ (dF P (fFar x.toNat) 14610 0 0 : Nat) else -1
theorem fFar_le {x s d : Nat} : fFar x s d ≤ s + 1 := by unfold fFar; split <;> omega
theorem cM_r {d : Nat} (h : d < 14610) : 1 ≤ cM d ∧ cM d ≤ 12 := by
  obtain ⟨q1, q2, q3, q4, q5, q6, q7, q8, q9, q10, q11⟩ := cGood_all' h
  omega
theorem c_farL {r x : Nat} (hx : x ≤ 18) (hr : isDS r) (hP : dsP J r P) : ∀ (m d fuel i s : Nat), d + m = 14610 → m < fuel → s ≤ d → i ≤ d → gX11_fares_L38 (iZ (x : Int)) r fuel (iZ (s : Int)) (iZ (nxt P d)) (iZ (i : Int)) (mkS X I J v) = some (iZ (dF P (fFar x) (14610 - d) d s : Nat), mkS X I J v) := by
  intro m
  induction m using Nat.strongRecOn with
  | ind m ih =>
    intro d fuel i s hd hf hs hi
    obtain ⟨f, rfl⟩ : ∃ n, fuel = n + 1 := ⟨fuel - 1, by omega⟩
    unfold gX11_fares_L38
    rcases dF_nx (P := P) (f := fFar x) (s := s) (d := d) (by omega) with ⟨h1, h2⟩ | ⟨k, h1, h2, h3, h4, h5⟩
    · rw [h1, h2, if_pos (show iZ (-1) = -1 from rfl), ite_self]
    · rw [h1, h5, if_pos (by rw [cL_lt (by omega) (by omega) (by decide)]; omega), if_neg (by rw [cM_eq (by omega) (by omega)]; omega)]
      simp only [gjn_eq, aL, ds_c hr]
      rw [show (k : Int) + 1 = ((k + 1 : Nat) : Int) by omega, show (i : Int) + 1 = ((i + 1 : Nat) : Int) by omega]
      have tl : ∀ (y : Nat), y ≤ 19 → (y = x ↔ fMat x k = true) → (if iZ (y : Int) = iZ (x : Int) then gb2 (fX2_firstFrom r (iZ ((k + 1 : Nat) : Int)) (mkS X I J v)) (fun r18 s19 => gX11_fares_L38 (iZ (x : Int)) r f (iZ ((s : Int) + 1)) r18 (iZ ((i + 1 : Nat) : Int)) s19) else gb2 (fX2_firstFrom r (iZ ((k + 1 : Nat) : Int)) (mkS X I J v)) (fun r18 s19 => gX11_fares_L38 (iZ (x : Int)) r f (iZ (s : Int)) r18 (iZ ((i + 1 : Nat) : Int)) s19)) = some (iZ (dF P (fFar x) (14610 - (k + 1)) (k + 1) (fFar x s k) : Nat), mkS X I J v) := by
        intro y hy hyx
        rw [q_first hr hP (by omega), gb2_some, gb2_some]
        have step := ih (14610 - (k + 1)) (by omega) (k + 1) f (i + 1) (fFar x s k) (by omega) (by omega) (by have := fFar_le (x := x) (s := s) (d := k); omega) (by omega)
        rw [← step]
        unfold fFar
        by_cases c : y = x
        · rw [if_pos (by rw [c]), if_pos (hyx.mp c)]
          rfl
        · rw [if_neg (by rw [iZ_eq (by omega) (by omega) (by omega) (by omega)]; omega), if_neg (fun q => c (hyx.mpr q))]
          rfl
      by_cases c7 : x < 7
      · rw [if_pos (by rw [cL_lt (by omega) (by omega) (by decide)]; omega), c_weekdayOf (by omega), gb2_some, ds_c hr]
        exact tl ((k + 5) % 7) (by omega) (by unfold fMat; rw [if_pos c7, decide_eq_true_eq])
      · have hm := cM_r h3
        rw [if_neg (by rw [cL_lt (by omega) (by omega) (by decide)]; omega), c_monthOf h3, gb2_some, aL, ds_c hr]
        have := tl (cM k + 6) (by omega) (by unfold fMat; rw [if_neg c7, decide_eq_true_eq])
        exact this
theorem cq_fares {z d : Int} (z1 : -2147483648 ≤ z) (z2 : z < 2147483648) (d1 : -2147483648 ≤ d) (d2 : d < 2147483648) (hb : isBk b) (hv : v.2.2.1 = b) (ok : BkOK B) (hB : cBk I b B) (hL : cLg I J B A L) : ∃ I' J', fX11_fares 50 (iZ z) (iZ d) (mkS X I J v) = some (if (0 ≤ z ∧ z < B.nR) ∨ (6 ≤ z ∧ z < 6 + B.nS) then aFar d (dy B A L z.toNat) else -1, mkS X I' J' v) ∧ frC I I' J J' ∧ cLg I' J' B A L := by
  unfold fX11_fares
  simp only [bO, o50R, o60]
  refine c_ask z1 z2 hb hv ok hB hL (fun s => rfl) (fun I' J' r P hr hP => ?_)
  have hr0 := isDS_r hr
  have e : fX2_firstFrom r 0 (mkS X I' J' v) = some (iZ (nxt P 0), mkS X I' J' v) := q_first (d := 0) hr hP (by decide)
  rw [if_neg (by omega)]
  unfold aFar
  by_cases c1 : d < 0
  · rw [if_pos (by rw [cL_lt (by omega) (by omega) (by decide)]; exact c1), if_neg (by omega)]
  · rw [if_neg (by rw [cL_lt (by omega) (by omega) (by decide)]; exact c1)]
    by_cases c2 : 18 < d
    · rw [if_pos (by rw [cR_lt (by omega) (by omega) (by decide)]; exact c2), if_neg (by omega)]
    · rw [if_neg (by rw [cR_lt (by omega) (by omega) (by decide)]; exact c2), ds_c hr, e, gb2_some, if_pos (by omega)]
      obtain ⟨d', rfl⟩ : ∃ n : Nat, d = (n : Int) := ⟨d.toNat, by omega⟩
      exact c_farL (by omega) hr hP 14610 0 20000 0 0 (by decide) (by decide) (by decide) (by decide)
theorem m_farL {w x : Nat} (hx : x ≤ 18) (hw : w < 12) (h : daysR I (14610 * w) P) (hc : calOK I) : ∀ (m d fuel s : Nat), d + m = 14610 → m < fuel → gX12_fares_L27 267 (iZ (w : Int)) (iZ (x : Int)) fuel (iZ (s : Int)) (iZ (d : Int)) (mkS X I J v) = some (iZ (dF P (fFar x) m d s : Nat), mkS X I J v) := by
  intro m
  induction m with
  | zero =>
    intro d fuel s hd hf
    obtain ⟨f, rfl⟩ : ∃ n, fuel = n + 1 := ⟨fuel - 1, by omega⟩
    unfold gX12_fares_L27
    rw [if_neg (by rw [cL_lt (by omega) (by omega) (by decide)]; omega)]
    rfl
  | succ m ih =>
    intro d fuel s hd hf
    obtain ⟨f, rfl⟩ : ∃ n, fuel = n + 1 := ⟨fuel - 1, by omega⟩
    unfold gX12_fares_L27
    rw [if_pos (by rw [cL_lt (by omega) (by omega) (by decide)]; omega), m_c, m_isOn hw (by omega) h, gb2_some]
    simp only [gjn_eq, aL, glet_eq, bO, o267R]
    rw [show (d : Int) + 1 = ((d + 1 : Nat) : Int) by omega]
    have m1 : ∀ s : gH, fX12_flag 1 s = some (1, s) := fun s => m_flag (b := true)
    have m0 : ∀ s : gH, fX12_flag 0 s = some (0, s) := fun s => m_flag (b := false)
    simp only [m1, m0, gb2_some, aL]
    have s1 := ih (d + 1) f (s + 1) (by omega) (by omega)
    have s0 := ih (d + 1) f s (by omega) (by omega)
    rw [show ((s + 1 : Nat) : Int) = (s : Int) + 1 by omega] at s1
    have s0' : gX12_fares_L27 267 (iZ (w : Int)) (iZ (x : Int)) f (iZ ((s : Int) + 0)) (iZ ((d + 1 : Nat) : Int)) (mkS X I J v) = some (iZ (dF P (fFar x) m (d + 1) s : Nat), mkS X I J v) := by
      rw [Int.add_zero]; exact s0
    have f1 : fMat x d = true → fFar x s d = s + 1 := fun q => by unfold fFar; rw [if_pos q]
    have f0 : fMat x d = false → fFar x s d = s := fun q => by unfold fFar; rw [q]; rfl
    unfold dF
    cases P d with
    | false =>
      rw [if_pos tf_f, if_neg (by decide)]
      exact s0'
    | true =>
      rw [if_neg (show ¬ tf true = 0 by decide), if_pos rfl]
      by_cases c7 : x < 7
      · rw [if_pos (by rw [cL_lt (by omega) (by omega) (by decide)]; omega), m_weekdayOf (by omega), gb2_some]
        have hm : fMat x d = decide ((d + 5) % 7 = x) := by unfold fMat; rw [if_pos c7]
        by_cases c : (d + 5) % 7 = x
        · rw [if_pos (by rw [c]), f1 (by rw [hm, decide_eq_true c])]
          exact s1
        · rw [if_neg (by rw [iZ_eq (by omega) (by omega) (by omega) (by omega)]; omega), f0 (by rw [hm, decide_eq_false c])]
          exact s0'
      · have hmr := cM_r (show d < 14610 by omega)
        rw [if_neg (by rw [cL_lt (by omega) (by omega) (by decide)]; omega), a272 _ _ _ _ d (by omega), (hc d (by omega)).2.1]
        simp only [bO, sL]
        have hm : fMat x d = decide (cM d + 6 = x) := by unfold fMat; rw [if_neg c7]
        by_cases c : cM d + 6 = x
        · rw [if_pos (by rw [iZ_eq (by omega) (by omega) (by omega) (by omega)]; omega), f1 (by rw [hm, decide_eq_true c])]
          exact s1
        · rw [if_neg (by rw [iZ_eq (by omega) (by omega) (by omega) (by omega)]; omega), f0 (by rw [hm, decide_eq_false c])]
          exact s0'
theorem mq_fares {z d : Int} (z1 : -2147483648 ≤ z) (z2 : z < 2147483648) (d1 : -2147483648 ≤ d) (d2 : d < 2147483648) (ok : BkOK B) (hB : mBk I B) (hL : mLg I B A L) : ∃ I', fX12_fares 267 (iZ z) (iZ d) (mkS X I J v) = some (if (0 ≤ z ∧ z < B.nR) ∨ (6 ≤ z ∧ z < 6 + B.nS) then aFar d (dy B A L z.toNat) else -1, mkS X I' J v) ∧ frY I I' ∧ mLg I' B A L := by
  unfold fX12_fares
  rw [m_isIn, gb2_some, iZ_l d1 d2, show (0 : Int64).toInt = 0 from rfl, show (18 : Int64).toInt = 18 from rfl]
  by_cases c : 0 ≤ d ∧ d ≤ 18
  · rw [if_pos c, if_neg (by decide)]
    simp only [o267]
    refine m_ask z1 z2 ok hB hL (fun s => rfl) (fun I' w P hw hz hP hc => ?_)
    rw [if_neg (by decide), hz]
    unfold aFar
    rw [if_pos c]
    obtain ⟨d', rfl⟩ : ∃ n : Nat, d = (n : Int) := ⟨d.toNat, by omega⟩
    exact m_farL (by omega) hw hP hc 14610 0 20000 0 (by decide) (by decide)
  · rw [if_neg c, if_pos rfl]
    refine ⟨I, ?_, frY_r I, hL⟩
    unfold aFar
    rw [if_neg c, ite_self]
end gQf
