/-! QUESTIONS about days: gap, free -/
def fGap (s : Int × Int × Int) (d : Nat) : Int × Int × Int := if s.1 = -1 then ((d : Int), s.2.1, s.2.2) else if s.2.1 < (d : Int) - s.1 then ((d : Int), (d : Int) - s.1, s.1) else ((d : Int), s.2.1, s.2.2)
def aGap (x : Int) (P : Nat → Bool) : Int32 := if 0 ≤ x ∧ x ≤ 1 then (if (dF P fGap 14610 0 (-1, 0, -1)).2.2 = -1 then -1 else if x = 0 then iZ (dF P fGap 14610 0 (-1, 0, -1)).2.1 else iZ (dF P fGap 14610 0 (-1, 0, -1)).2.2) else -1
/-- the state of the search is in order -/
def gapI (s : Int × Int × Int) (d : Nat) : Prop := -1 ≤ s.1 ∧ s.1 < d ∧ 0 ≤ s.2.1 ∧ s.2.1 ≤ 14610 ∧ -1 ≤ s.2.2 ∧ s.2.2 < 14610 ∧ (s.2.2 = -1 → s.2.1 = 0)
theorem gapI_f {s : Int × Int × Int} {d : Nat} (h : gapI s d) (hd : d < 14610) : gapI (fGap s d) (d + 1) := by
  obtain ⟨h1, h2, h3, h4, h5, h6, h7⟩ := h
  unfold fGap gapI
  split
  · dsimp only; omega
  · split
    · dsimp only; omega
    · dsimp only; omega
theorem gapI_up {s : Int × Int × Int} {d : Nat} (h : gapI s d) : gapI s (d + 1) := by
  unfold gapI at h ⊢; omega
theorem gapI_dF {P : Nat → Bool} : ∀ (m d : Nat) (s : Int × Int × Int), d + m = 14610 → gapI s d → gapI (dF P fGap m d s) 14610 := by
  intro m
  induction m with
  | zero => intro d s hd h; rw [show d = 14610 by omega] at h; exact h
  | succ m ih =>
    intro d s hd h
    refine ih (d + 1) _ (by omega) ?_
    split
    · exact gapI_f h (by omega)
    · exact gapI_up h
section gQg
variable {X : Nat × (Nat → Int32)} {v : Vt} {B : Bk} {A L : Nat → Nat → Bool} {b : Nat} {I : Nat → Nat → Int32} {J : Nat → Nat → Int64} {P Q : Nat → Bool}
theorem m_gapL {K : Int32 → Int32 → gH → Option (Int32 × gH)} {w : Nat} {x : Int32} (hw : w < 12) (h : daysR I (14610 * w) P) : ∀ (m d fuel : Nat) (s : Int × Int × Int), d + m = 14610 → m < fuel → gapI s d → gX12_gap_L31 K 267 (iZ (w : Int)) x fuel (iZ s.1) (iZ s.2.1) (iZ s.2.2) (iZ (d : Int)) (mkS X I J v) = K (iZ (dF P fGap m d s).2.1) (iZ (dF P fGap m d s).2.2) (mkS X I J v) := by
  intro m
  induction m with
  | zero =>
    intro d fuel s hd hf hs
    obtain ⟨f, rfl⟩ : ∃ n, fuel = n + 1 := ⟨fuel - 1, by omega⟩
    unfold gX12_gap_L31
    rw [if_neg (by rw [cL_lt (by omega) (by omega) (by decide)]; omega)]
    rfl
  | succ m ih =>
    intro d fuel s hd hf hs
    obtain ⟨f, rfl⟩ : ∃ n, fuel = n + 1 := ⟨fuel - 1, by omega⟩
    unfold gX12_gap_L31
    rw [if_pos (by rw [cL_lt (by omega) (by omega) (by decide)]; omega), m_c, m_isOn hw (by omega) h, gb2_some, aL, show (d : Int) + 1 = ((d + 1 : Nat) : Int) by omega]
    unfold dF
    cases P d with
    | false =>
      rw [if_pos tf_f, if_neg (by decide)]
      exact ih (d + 1) f s (by omega) (by omega) (gapI_up hs)
    | true =>
      rw [if_neg (show ¬ tf true = 0 by decide), if_pos rfl]
      have st := ih (d + 1) f (fGap s d) (by omega) (by omega) (gapI_f hs (by omega))
      rw [← st]
      obtain ⟨h1, h2, h3, h4, h5, h6, h7⟩ := hs
      unfold fGap
      by_cases c : s.1 = -1
      · rw [if_pos (by rw [c]; rfl), if_pos c]
      · rw [if_neg (by rw [cM_eq (by omega) (by omega)]; exact c), if_neg c, iZ_sub]
        by_cases c2 : s.2.1 < (d : Int) - s.1
        · rw [if_pos (by rw [iZ_lt (by omega) (by omega) (by omega) (by omega)]; exact c2), if_pos c2, glet_eq]
        · rw [if_neg (by rw [iZ_lt (by omega) (by omega) (by omega) (by omega)]; exact c2), if_neg c2]
theorem mq_gap {z d : Int} (z1 : -2147483648 ≤ z) (z2 : z < 2147483648) (d1 : -2147483648 ≤ d) (d2 : d < 2147483648) (ok : BkOK B) (hB : mBk I B) (hL : mLg I B A L) : ∃ I', fX12_gap 267 (iZ z) (iZ d) (mkS X I J v) = some (if (0 ≤ z ∧ z < B.nR) ∨ (6 ≤ z ∧ z < 6 + B.nS) then aGap d (dy B A L z.toNat) else -1, mkS X I' J v) ∧ frY I I' ∧ mLg I' B A L := by
  unfold fX12_gap
  rw [m_isIn, gb2_some, iZ_l d1 d2, show (0 : Int64).toInt = 0 from rfl, show (1 : Int64).toInt = 1 from rfl]
  by_cases c : 0 ≤ d ∧ d ≤ 1
  · rw [if_pos c, if_neg (by decide)]
    simp only [o267]
    refine m_ask z1 z2 ok hB hL (fun s => rfl) (fun I' w P hw hz hP hc => ?_)
    rw [if_neg (by decide), hz]
    have gi : gapI (-1, 0, -1) 0 := by unfold gapI; dsimp only; omega
    have := m_gapL (X := X) (J := J) (v := v) (x := iZ d) (K := fun y15 y16 s17 => if y16 = -1 then some (-1, s17) else if iZ d = 0 then some (y15, s17) else some (y16, s17)) hw hP 14610 0 20000 (-1, 0, -1) (by decide) (by decide) gi
    refine this.trans ?_
    have gf := gapI_dF (P := P) 14610 0 (-1, 0, -1) (by decide) gi
    unfold aGap
    rw [if_pos c]
    obtain ⟨s, hs⟩ : ∃ s, dF P fGap 14610 0 (-1, 0, -1) = s := ⟨_, rfl⟩
    rw [hs] at gf ⊢
    obtain ⟨h1, h2, h3, h4, h5, h6, h7⟩ := gf
    by_cases c2 : s.2.2 = -1
    · rw [if_pos (by rw [c2]; rfl), if_pos c2]
    · rw [if_neg (by rw [cM_eq (by omega) (by omega)]; exact c2), if_neg c2]
      by_cases c3 : d = 0
      · rw [if_pos (by rw [c3]; rfl), if_pos c3]
      · rw [if_neg (by rw [cL_eq (by omega) (by omega) (by decide)]; exact c3), if_neg c3]
  · rw [if_neg c, if_pos rfl]
    refine ⟨I, ?_, frY_r I, hL⟩
    unfold aGap
    rw [if_neg c, ite_self]
/-- what the class keeps as its best -/
def gapC (s : Int × Int × Int) : Int := if s.2.2 = -1 then -1 else s.2.1
theorem c_gapL {K : Int32 → Int32 → gH → Option (Int32 × gH)} {r : Nat} {x : Int32} (hr : isDS r) (hP : dsP J r P) : ∀ (m l fuel i : Nat) (s : Int × Int × Int), l + 1 + m = 14610 → m + 1 < fuel → i ≤ l → s.1 = (l : Int) → gapI s (l + 1) → gX11_gap_L40 K x r fuel (iZ (gapC s)) (iZ s.2.2) (iZ (l : Int)) (iZ (i : Int)) (mkS X I J v) = K (iZ (gapC (dF P fGap (14610 - (l + 1)) (l + 1) s))) (iZ (dF P fGap (14610 - (l + 1)) (l + 1) s).2.2) (mkS X I J v) := by
  intro m
  induction m using Nat.strongRecOn with
  | ind m ih =>
    intro l fuel i s hd hf hi hl hs
    obtain ⟨f, rfl⟩ : ∃ n, fuel = n + 1 := ⟨fuel - 1, by omega⟩
    conv => lhs; unfold gX11_gap_L40
    rw [if_pos (by rw [cL_lt (by omega) (by omega) (by decide)]; omega), if_neg (by rw [cM_eq (by omega) (by omega)]; omega), ds_c hr, aL, aL, show (l : Int) + 1 = ((l + 1 : Nat) : Int) by omega, show (i : Int) + 1 = ((i + 1 : Nat) : Int) by omega, q_first hr hP (by omega), gb2_some]
    rcases dF_nx (P := P) (f := fGap) (s := s) (d := l + 1) (by omega) with ⟨h1, h2⟩ | ⟨k, h1, h2, h3, h4, h5⟩
    · rw [h1, h2, if_pos (show iZ (-1) = -1 from rfl)]
      obtain ⟨f2, rfl⟩ : ∃ n, f = n + 1 := ⟨f - 1, by omega⟩
      unfold gX11_gap_L40
      rw [if_pos (show iZ (-1) = -1 from rfl), ite_self]
    · rw [h1, h5, if_neg (by rw [cM_eq (by omega) (by omega)]; omega)]
      have gi : gapI (fGap s k) (k + 1) := by
        refine gapI_f ?_ h3
        unfold gapI at hs ⊢; omega
      have fst : (fGap s k).1 = (k : Int) := by unfold fGap; split; rfl; split <;> rfl
      have st := ih (14610 - (k + 1)) (by omega) k f (i + 1) (fGap s k) (by omega) (by omega) (by omega) fst gi
      rw [← st, iZ_sub]
      obtain ⟨g1, g2, g3, g4, g5, g6, g7⟩ := hs
      have cc : (gapC s < (k : Int) - (l : Int)) ↔ s.2.1 < (k : Int) - s.1 := by
        unfold gapC
        rw [hl]
        split
        · rename_i q; have := g7 q; omega
        · exact Iff.rfl
      have bc : -1 ≤ gapC s ∧ gapC s ≤ 14610 := by unfold gapC; split <;> omega
      by_cases c : s.2.1 < (k : Int) - s.1
      · have ef : fGap s k = ((k : Int), (k : Int) - s.1, s.1) := by unfold fGap; rw [if_neg (by omega), if_pos c]
        have eg : gapC (fGap s k) = (k : Int) - (l : Int) := by rw [ef]; unfold gapC; dsimp only; rw [if_neg (by omega), hl]
        rw [if_pos (by rw [iZ_lt (by omega) (by omega) (by omega) (by omega)]; exact cc.mpr c), glet_eq, eg, ef, hl]
      · have ef : fGap s k = ((k : Int), s.2.1, s.2.2) := by unfold fGap; rw [if_neg (by omega), if_neg c]
        have eg : gapC (fGap s k) = gapC s := by rw [ef]; rfl
        rw [if_neg (by rw [iZ_lt (by omega) (by omega) (by omega) (by omega)]; exact fun q => c (cc.mp q)), eg, ef]
theorem cq_gap {z d : Int} (z1 : -2147483648 ≤ z) (z2 : z < 2147483648) (d1 : -2147483648 ≤ d) (d2 : d < 2147483648) (hb : isBk b) (hv : v.2.2.1 = b) (ok : BkOK B) (hB : cBk I b B) (hL : cLg I J B A L) : ∃ I' J', fX11_gap 50 (iZ z) (iZ d) (mkS X I J v) = some (if (0 ≤ z ∧ z < B.nR) ∨ (6 ≤ z ∧ z < 6 + B.nS) then aGap d (dy B A L z.toNat) else -1, mkS X I' J' v) ∧ frC I I' J J' ∧ cLg I' J' B A L := by
  unfold fX11_gap
  simp only [bO, o50R, o60]
  refine c_ask z1 z2 hb hv ok hB hL (fun s => rfl) (fun I' J' r P hr hP => ?_)
  have hr0 := isDS_r hr
  have e : fX2_firstFrom r 0 (mkS X I' J' v) = some (iZ (nxt P 0), mkS X I' J' v) := q_first (d := 0) hr hP (by decide)
  rw [if_neg (by omega)]
  unfold aGap
  by_cases c1 : d < 0
  · rw [if_pos (by rw [cL_lt (by omega) (by omega) (by decide)]; exact c1), if_neg (by omega)]
  · rw [if_neg (by rw [cL_lt (by omega) (by omega) (by decide)]; exact c1)]
    by_cases c2 : 1 < d
    · rw [if_pos (by rw [cR_lt (by omega) (by omega) (by decide)]; exact c2), if_neg (by omega)]
    · rw [if_neg (by rw [cR_lt (by omega) (by omega) (by decide)]; exact c2), ds_c hr, e, gb2_some, if_pos (by omega)]
      have gi : gapI (-1, 0, -1) 0 := by unfold gapI; dsimp only; omega
      have gf := gapI_dF (P := P) 14610 0 (-1, 0, -1) (by decide) gi
      have key : gX11_gap_L40 (fun y17 y18 s19 => if iZ d = 0 then some (y17, s19) else some (y18, s19)) (iZ d) r 20000 (-1) (-1) (iZ (nxt P 0)) 0 (mkS X I' J' v) = (fun y17 y18 s19 => if iZ d = 0 then some (y17, s19) else some (y18, s19)) (iZ (gapC (dF P fGap 14610 0 (-1, 0, -1)))) (iZ (dF P fGap 14610 0 (-1, 0, -1)).2.2) (mkS X I' J' v) := by
        rcases dF_nx (P := P) (f := fGap) (s := (-1, 0, -1)) (d := 0) (by decide) with ⟨h1, h2⟩ | ⟨k, h1, h2, h3, h4, h5⟩
        · have h2' : dF P fGap 14610 0 (-1, 0, -1) = (-1, 0, -1) := h2
          rw [h1, h2']
          unfold gX11_gap_L40
          rw [if_pos (show iZ (-1) = -1 from rfl), ite_self]
          rfl
        · have ef : fGap (-1, 0, -1) k = ((k : Int), 0, -1) := rfl
          rw [ef, Nat.sub_zero] at h5
          have t := c_gapL (X := X) (I := I') (v := v) (x := iZ d) (K := fun y17 y18 s19 => if iZ d = 0 then some (y17, s19) else some (y18, s19)) hr hP (14610 - (k + 1)) k 20000 0 ((k : Int), 0, -1) (by omega) (by omega) (Nat.zero_le _) rfl (by unfold gapI; dsimp only; omega)
          rw [show gapC ((k : Int), 0, -1) = -1 from rfl] at t
          rw [h1, h5]
          exact t
      rw [key]
      obtain ⟨s, hs⟩ : ∃ s, dF P fGap 14610 0 (-1, 0, -1) = s := ⟨_, rfl⟩
      rw [hs] at gf ⊢
      dsimp only
      unfold gapC
      by_cases c3 : s.2.2 = -1
      · rw [if_pos c3, if_pos c3, c3, ite_self]; rfl
      · rw [if_neg c3, if_neg c3]
        by_cases c4 : d = 0
        · rw [if_pos (by rw [c4]; rfl), if_pos c4]
        · rw [if_neg (by rw [cL_eq (by omega) (by omega) (by decide)]; exact c4), if_neg c4]
end gQg
