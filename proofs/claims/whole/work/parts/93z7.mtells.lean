/-! TELLS of the reference -/
section gTz
variable {X : Nat × (Nat → Int32)} {v : Vt} {J : Nat → Nat → Int64} {R : RuL} {m r : Nat} {sd : Nat → Nat} {so : Nat → Bool}
/-- the reference's number beside its day -/
def bq (b : Int × Int) : Int := if b.1 = -1 then 0 else b.2
theorem m_tells38 {K : Int32 → Int32 → gH → Option (Int32 × gH)} {I : Nat → Nat → Int32} {x1 : Int32} {y t s0 : Nat} {w c : Nat → Nat} (hy : y < 40) (hc : calOK I) (ht : t ≤ 60) (hs0 : s0 < 14610) (hsy : cY s0 = y) (h287 : I 287 0 = iZ (s0 : Int)) (hct : ∀ j, c j ≤ t) (h291 : ∀ i, i < cF (y + 1) - cF y → I 291 i = iZ (c i : Nat)) (hw : ∀ i, i < cF (y + 1) - cF y → w i = wM t (c i)) (hw60 : ∀ i, w i ≤ 60) : ∀ (k e fuel i : Nat), e + k = 14610 → k < fuel → i = min (e - cF y) (cF (y + 1) - cF y) → gX12_tells_L38 K 267 x1 (iZ (t : Int)) fuel (iZ (bst (cF y) w i).1) (iZ (bq (bst (cF y) w i))) (iZ (e : Int)) (mkS X I J v) = K (iZ (bst (cF y) w (cF (y + 1) - cF y)).1) (iZ (bq (bst (cF y) w (cF (y + 1) - cF y)))) (mkS X I J v) := by
  have hf14 : cF (y + 1) ≤ 14610 := by unfold cF; omega
  have hlen : cF (y + 1) - cF y ≤ 366 := by unfold cF; omega
  have e0 : gaI (mkS X I J v) 287 2 0 = some (iZ (s0 : Nat)) := by
    have := a287 X I J v 0 (by decide); rw [h287] at this; exact this
  intro k
  induction k with
  | zero =>
    intro e fuel i he hf hi
    obtain ⟨f, rfl⟩ : ∃ n, fuel = n + 1 := ⟨fuel - 1, by omega⟩
    unfold gX12_tells_L38
    rw [if_neg (by rw [cL_lt (by omega) (by omega) (by decide)]; omega), show i = cF (y + 1) - cF y by omega]
  | succ k ih =>
    intro e fuel i he hf hi
    obtain ⟨f, rfl⟩ : ∃ n, fuel = n + 1 := ⟨fuel - 1, by omega⟩
    have he' : e < 14610 := by omega
    obtain ⟨k1, k2, k3, k4⟩ := hc e he'
    have k1s := (hc s0 hs0).1
    have hyr := cY_iff (y := y) he'
    have hY40 := (cGood_all' he').1
    conv => lhs; unfold gX12_tells_L38
    rw [if_pos (by rw [cL_lt (by omega) (by omega) (by decide)]; omega)]
    simp only [bO, o267R, e0]
    rw [a271 _ _ _ _ e he', k1, a271 _ _ _ _ s0 hs0, k1s, hsy]
    simp only [bO, o267R, aL, gjn_eq]
    rw [show (e : Int) + 1 = ((e + 1 : Nat) : Int) by omega]
    by_cases cy : cY e = y
    · obtain ⟨b1, b2⟩ := hyr.mp cy
      have ecN : cN e = e - cF y + 1 := by unfold cN; rw [cy]
      have hie : i = e - cF y := by omega
      have hci := hct (e - cF y)
      rw [if_pos (by rw [cy]), a274 _ _ _ _ e he', k4, ecN]
      simp only [bO, sL]
      rw [show ((e - cF y + 1 : Nat) : Int) - 1 = ((e - cF y : Nat) : Int) by omega, a291 _ _ _ _ _ (show e - cF y < 366 by omega), h291 (e - cF y) (by omega)]
      simp only [bO, iZ_sub]
      obtain ⟨r1, r2, r3, r4⟩ := bst_r (f0 := cF y) hw60 i (by omega)
      have hwi := hw (e - cF y) (by omega)
      have hwl := hw60 (e - cF y)
      have st := ih (e + 1) f (i + 1) (by omega) (by omega) (by omega)
      have tl : (if iZ (bst (cF y) w i).1 = -1 then gX12_tells_L38 K 267 x1 (iZ (t : Int)) f (iZ (e : Int)) (iZ (w (e - cF y) : Nat)) (iZ ((e + 1 : Nat) : Int)) (mkS X I J v) else if iZ (w (e - cF y) : Nat) < iZ (bq (bst (cF y) w i)) then gX12_tells_L38 K 267 x1 (iZ (t : Int)) f (iZ (e : Int)) (iZ (w (e - cF y) : Nat)) (iZ ((e + 1 : Nat) : Int)) (mkS X I J v) else gX12_tells_L38 K 267 x1 (iZ (t : Int)) f (iZ (bst (cF y) w i).1) (iZ (bq (bst (cF y) w i))) (iZ ((e + 1 : Nat) : Int)) (mkS X I J v)) = K (iZ (bst (cF y) w (cF (y + 1) - cF y)).1) (iZ (bq (bst (cF y) w (cF (y + 1) - cF y)))) (mkS X I J v) := by
        have up : (bst (cF y) w i).1 = -1 ∨ (w i : Int) < (bst (cF y) w i).2 → gX12_tells_L38 K 267 x1 (iZ (t : Int)) f (iZ (e : Int)) (iZ (w (e - cF y) : Nat)) (iZ ((e + 1 : Nat) : Int)) (mkS X I J v) = K (iZ (bst (cF y) w (cF (y + 1) - cF y)).1) (iZ (bq (bst (cF y) w (cF (y + 1) - cF y)))) (mkS X I J v) := by
          intro hq
          have eb : bst (cF y) w (i + 1) = (((cF y + i : Nat) : Int), (w i : Int)) := by
            show (if (bst (cF y) w i).1 = -1 ∨ (w i : Int) < (bst (cF y) w i).2 then _ else _) = _
            rw [if_pos hq]
          rw [eb] at st
          have eq2 : bq (((cF y + i : Nat) : Int), (w i : Int)) = (w i : Int) := by
            unfold bq
            rw [if_neg (by show ¬ ((cF y + i : Nat) : Int) = -1; omega)]
          rw [eq2] at st
          rw [← hie, ← st, show e = cF y + i by omega]
        by_cases c1 : (bst (cF y) w i).1 = -1
        · rw [if_pos (by rw [c1]; rfl)]
          exact up (Or.inl c1)
        · have eb2 : bq (bst (cF y) w i) = (bst (cF y) w i).2 := by unfold bq; rw [if_neg c1]
          rw [if_neg (by rw [cM_eq (by omega) (by omega)]; exact c1)]
          by_cases c2 : (w i : Int) < (bst (cF y) w i).2
          · rw [if_pos (by rw [eb2, iZ_lt (by omega) (by omega) (by omega) (by omega), ← hie]; exact c2)]
            exact up (Or.inr c2)
          · rw [if_neg (by rw [eb2, iZ_lt (by omega) (by omega) (by omega) (by omega), ← hie]; exact c2)]
            have eb : bst (cF y) w (i + 1) = bst (cF y) w i := by
              show (if (bst (cF y) w i).1 = -1 ∨ (w i : Int) < (bst (cF y) w i).2 then _ else _) = _
              rw [if_neg (fun z => z.elim c1 c2)]
            rw [eb] at st
            exact st
      by_cases cw : t - c (e - cF y) < c (e - cF y)
      · have ew : w (e - cF y) = c (e - cF y) := by rw [hwi]; unfold wM; rw [if_pos cw]
        rw [if_pos (by rw [iZ_lt (by omega) (by omega) (by omega) (by omega)]; omega)]
        rw [ew] at tl
        exact tl
      · have ew : w (e - cF y) = t - c (e - cF y) := by rw [hwi]; unfold wM; rw [if_neg cw]
        rw [if_neg (by rw [iZ_lt (by omega) (by omega) (by omega) (by omega)]; omega), show (t : Int) - (c (e - cF y) : Int) = ((t - c (e - cF y) : Nat) : Int) by omega]
        rw [ew] at tl
        exact tl
    · rw [if_neg (by rw [iZ_eq (by omega) (by omega) (by omega) (by omega)]; omega)]
      have hni : i = min (e + 1 - cF y) (cF (y + 1) - cF y) := by
        have : ¬ (cF y ≤ e ∧ e < cF (y + 1)) := fun q => cy (hyr.mpr q)
        omega
      exact ih (e + 1) f i (by omega) (by omega) hni
theorem mq_tells {I : Nat → Nat → Int32} {x : Int} (x1 : -2147483648 ≤ x) (x2 : x < 2147483648) (hr : r < 6) (ok : RuLok R) (hR : mRl I r R) (hc : calOK I) (hs : mSd I m r sd so) (hm : 1 ≤ m) : ∃ I', fX12_tells 267 (iZ x) (mkS X I J v) = some (aTell R m sd so x, mkS X I' J v) ∧ frLf I I' := by
  have hm12 := hs.1
  obtain ⟨d1, d2, d3⟩ := hs.2.2.2 0 (by omega)
  obtain ⟨y1, y2, y3⟩ := yFL (sd := sd) d1
  have ht60 : toT R m sd so ≤ 60 := cnt_le _ _ _
  unfold fX12_tells aTell
  simp only [bO, o267, hs.2.1]
  rw [if_neg (by rw [cL_eq (by omega) (by omega) (by decide)]; omega), m_isIn, gb2_some, iZ_l x1 x2, show (0 : Int64).toInt = 0 from rfl, show (1 : Int64).toInt = 1 from rfl]
  by_cases c : 0 ≤ x ∧ x ≤ 1
  · rw [if_pos c, if_neg (show ¬ (1 : Int32) = 0 by decide), if_pos c]
    obtain ⟨I1, a1, a2, a3, a4⟩ := m_laysFits (X := X) (J := J) (v := v) hr ok hR hc hs hm
    simp only [o267, a1, gb2_some]
    refine ⟨I1, ?_, a2⟩
    by_cases c0 : toT R m sd so = 0
    · rw [if_pos (by rw [c0]; rfl)]
      unfold tlR
      rw [if_pos c0, ite_self]
      rfl
    · rw [if_neg (by rw [cL_eq (by omega) (by omega) (by decide)]; omega)]
      have hw60 : ∀ j, (fun j => if j < yL sd then wM (toT R m sd so) (yC R m sd so 60 (yF sd + j)) else 0) j ≤ 60 := by
        intro j
        show (if j < yL sd then wM (toT R m sd so) (yC R m sd so 60 (yF sd + j)) else 0) ≤ 60
        have := yC_toT (R := R) (m := m) (sd := sd) (so := so) (d := yF sd + j)
        split
        · unfold wM; split <;> omega
        · omega
      have t := m_tells38 (X := X) (J := J) (v := v) (I := I1) (x1 := iZ x) (y := cY (sd 0)) (t := toT R m sd so) (s0 := sd 0) (w := fun j => if j < yL sd then wM (toT R m sd so) (yC R m sd so 60 (yF sd + j)) else 0) (c := fun i => yC R m sd so 60 (yF sd + i)) (K := fun y28 y29 s30 => if iZ x = 0 then some (y28, s30) else some (y29, s30)) y3 (calOK_Y hc (fun a k p q => a2 a k (by omega) (by omega))) ht60 d1 rfl (by rw [a2 287 0 (by decide) (by decide)]; exact d2) (fun j => yC_toT) a4 (fun i hi => by
        show (if i < yL sd then _ else 0) = _
        rw [if_pos (show i < yL sd from hi)]) hw60 14610 0 20000 0 (by decide) (by decide) (by omega)
      have t' : gX12_tells_L38 (fun y28 y29 s30 => if iZ x = 0 then some (y28, s30) else some (y29, s30)) 267 (iZ x) (iZ (toT R m sd so : Nat)) 20000 (-1) 0 0 (mkS X I1 J v) = _ := t
      rw [t']
      have hl1 : 1 ≤ yL sd := by unfold yL cF; omega
      have hne : ∀ n, 1 ≤ n → ∀ w : Nat → Nat, (bst (yF sd) w n).1 ≠ -1 := by
        intro n
        induction n with
        | zero => intro h; omega
        | succ n ih =>
          intro _ w
          unfold bst
          split
          · show ¬ ((yF sd + n : Nat) : Int) = -1; omega
          · rename_i q
            exact fun z => q (Or.inl z)
      unfold tlR
      rw [if_neg c0]
      have e1 := hne (yL sd) hl1 (fun j => if j < yL sd then wM (toT R m sd so) (yC R m sd so 60 (yF sd + j)) else 0)
      have e2 : bq (bst (yF sd) (fun j => if j < yL sd then wM (toT R m sd so) (yC R m sd so 60 (yF sd + j)) else 0) (yL sd)) = (bst (yF sd) (fun j => if j < yL sd then wM (toT R m sd so) (yC R m sd so 60 (yF sd + j)) else 0) (yL sd)).2 := by unfold bq; rw [if_neg e1]
      by_cases c3 : x = 0
      · rw [if_pos (by rw [c3]; rfl), if_pos c3]
        rfl
      · rw [if_neg (by rw [cL_eq (by omega) (by omega) (by decide)]; exact c3), if_neg c3, ← e2]
        rfl
  · rw [if_neg c, if_pos rfl, if_neg c]
    exact ⟨I, rfl, fun _ _ _ _ => rfl⟩
end gTz
