/-! QUESTIONS about names: letter -/
theorem nm5_at {l : List Nat} (h : nmOK l) {x : Nat} (hx : x < 6) : ((nm5 l : Nat) : Int) / 2 ^ (5 * (5 - x)) % 2 ^ 5 = ((l.getD x 0 : Nat) : Int) := by
  have g := fun j => (nm_get h j).1
  have g0 := g 0; have g1 := g 1; have g2 := g 2; have g3 := g 3; have g4 := g 4; have g5 := g 5
  unfold nm5
  rcases (show x = 0 ∨ x = 1 ∨ x = 2 ∨ x = 3 ∨ x = 4 ∨ x = 5 by omega) with rfl | rfl | rfl | rfl | rfl | rfl
  · show _ / (33554432 : Int) % 32 = _; omega
  · show _ / (1048576 : Int) % 32 = _; omega
  · show _ / (32768 : Int) % 32 = _; omega
  · show _ / (1024 : Int) % 32 = _; omega
  · show _ / (32 : Int) % 32 = _; omega
  · show _ / (1 : Int) % 32 = _; omega
theorem nm27_pos {l : List Nat} (h : ∀ x, x ∈ l → 1 ≤ x) (hl : l ≠ []) : 1 ≤ nm27 l := by
  rcases List.eq_nil_or_concat l with e | ⟨L, b, e⟩
  · exact absurd e hl
  · rw [List.concat_eq_append] at e
    subst e
    have := h b (List.mem_append_right _ (List.mem_singleton.mpr rfl))
    rw [nm27_snoc]; omega
section gQt
variable {X : Nat × (Nat → Int32)} {v : Vt} {B : Bk} {b : Nat} {I : Nat → Nat → Int32} {J : Nat → Nat → Int64}
theorem q_lt57 {K : Int32 → gH → Option (Int32 × gH)} {x2 x3 : Int32} {s : gH} : ∀ (m : Nat) (l : List Nat) (c fuel : Nat), l.length = m → m < fuel → m ≤ 6 → (∀ x, x ∈ l → 1 ≤ x ∧ x ≤ 26) → gX12_letter_L57 K x2 x3 fuel (iZ (c : Int)) (iZ (nm27 l : Nat)) s = K (iZ ((c + m : Nat) : Int)) s := by
  intro m
  induction m with
  | zero =>
    intro l c fuel hl hf _ hx
    obtain ⟨f, rfl⟩ : ∃ n, fuel = n + 1 := ⟨fuel - 1, by omega⟩
    rw [List.eq_nil_of_length_eq_zero hl]
    unfold gX12_letter_L57
    rw [if_neg (by rw [show iZ ((nm27 [] : Nat) : Int) = iZ 0 from rfl, cR_lt (by omega) (by omega) (by decide)]; omega)]
    rfl
  | succ m ih =>
    intro l c fuel hl hf h6 hx
    obtain ⟨f, rfl⟩ : ∃ n, fuel = n + 1 := ⟨fuel - 1, by omega⟩
    rcases List.eq_nil_or_concat l with e | ⟨l', y, e⟩
    · rw [e] at hl; cases hl
    · rw [List.concat_eq_append] at e
      subst e
      rw [List.length_append, List.length_singleton] at hl
      have hy := hx y (List.mem_append_right _ (List.mem_singleton.mpr rfl))
      have hlt := nm27_lt l'.length l' rfl (fun x q => (hx x (List.mem_append_left _ q)).2)
      have hp : 27 ^ l'.length ≤ 27 ^ 5 := Nat.pow_le_pow_right (by decide) (by omega)
      have h5 : 27 ^ 5 = 14348907 := by decide
      unfold gX12_letter_L57
      rw [nm27_snoc, if_pos (by rw [cR_lt (by omega) (by omega) (by decide)]; omega), glet_eq, show (27 : Int32) = iZ 27 from rfl, iZ_div (by omega) (by omega) (by omega) (by omega), tdiv_nn (by omega), aL]
      have e1 : ((27 * nm27 l' + y : Nat) : Int) / 27 = ((nm27 l' : Nat) : Int) := by omega
      rw [e1, show (c : Int) + 1 = ((c + 1 : Nat) : Int) by omega, ih l' (c + 1) f (by omega) (by omega) (by omega) (fun x q => hx x (List.mem_append_left _ q))]
      congr 2
      omega
theorem q_lt81 {K : Int32 → gH → Option (Int32 × gH)} {x4 : Int32} {x : Nat} {s : gH} : ∀ (k : Nat) (l : List Nat) (fuel : Nat), l.length = x + 1 + k → k < fuel → l.length ≤ 6 → (∀ x, x ∈ l → 1 ≤ x ∧ x ≤ 26) → gX12_letter_L81 K (iZ (x : Int)) x4 fuel (iZ (nm27 l : Nat)) (iZ ((x + k : Nat) : Int)) s = K (iZ (nm27 (l.take (x + 1)) : Nat)) s := by
  intro k
  induction k with
  | zero =>
    intro l fuel hl hf h6 hx
    obtain ⟨f, rfl⟩ : ∃ n, fuel = n + 1 := ⟨fuel - 1, by omega⟩
    unfold gX12_letter_L81
    rw [if_neg (by rw [iZ_lt (by omega) (by omega) (by omega) (by omega)]; omega), List.take_of_length_le (by omega)]
  | succ k ih =>
    intro l fuel hl hf h6 hx
    obtain ⟨f, rfl⟩ : ∃ n, fuel = n + 1 := ⟨fuel - 1, by omega⟩
    rcases List.eq_nil_or_concat l with e | ⟨l', y, e⟩
    · rw [e] at hl; cases hl
    · rw [List.concat_eq_append] at e
      subst e
      rw [List.length_append, List.length_singleton] at hl h6
      have hy := hx y (List.mem_append_right _ (List.mem_singleton.mpr rfl))
      have hlt := nm27_lt l'.length l' rfl (fun x q => (hx x (List.mem_append_left _ q)).2)
      have hp : 27 ^ l'.length ≤ 27 ^ 5 := Nat.pow_le_pow_right (by decide) (by omega)
      have h5 : 27 ^ 5 = 14348907 := by decide
      unfold gX12_letter_L81
      rw [nm27_snoc, if_pos (by rw [iZ_lt (by omega) (by omega) (by omega) (by omega)]; omega), glet_eq, show (27 : Int32) = iZ 27 from rfl, iZ_div (by omega) (by omega) (by omega) (by omega), tdiv_nn (by omega), show (-1 : Int32) = iZ (-1) from rfl, iZ_add]
      have e1 : ((27 * nm27 l' + y : Nat) : Int) / 27 = ((nm27 l' : Nat) : Int) := by omega
      rw [e1, show ((x + (k + 1) : Nat) : Int) + -1 = ((x + k : Nat) : Int) by omega, ih l' f (by omega) (by omega) (by omega) (fun x q => hx x (List.mem_append_left _ q)), List.take_append_of_le_length (by omega)]
def aLet (l : List Nat) (x : Int) : Int32 := if 0 ≤ x ∧ x < 6 then iZ (l.getD x.toNat 0 : Nat) else -1
theorem q_letT {l : List Nat} {x : Nat} {s : gH} (h : nmOK l) (hx : x < 6) : gX12_letter_L57 (fun y13 s14 => glet (y13 - 1) fun y15 => gX12_letter_L81 (fun y19 s20 => if iZ (x : Int) < y13 then some (gIrem y19 27, s20) else some (0, s20)) (iZ (x : Int)) y13 20000 (iZ (nm27 l : Nat)) y15 s14) (iZ (x : Int)) (iZ (nm27 l : Nat)) 20000 0 (iZ (nm27 l : Nat)) s = some (iZ (l.getD x 0 : Nat), s) := by
  have h57 := q_lt57 (x2 := iZ (x : Int)) (x3 := iZ (nm27 l : Nat)) (s := s) (K := fun y13 s14 => glet (y13 - 1) fun y15 => gX12_letter_L81 (fun y19 s20 => if iZ (x : Int) < y13 then some (gIrem y19 27, s20) else some (0, s20)) (iZ (x : Int)) y13 20000 (iZ (nm27 l : Nat)) y15 s14) l.length l 0 20000 rfl (by have := h.2.1; omega) h.2.1 h.2.2
  refine (show _ = _ from h57).trans ?_
  have h1 := h.1
  have h6 := h.2.1
  rw [Nat.zero_add]
  rw [glet_eq, sL]
  by_cases c : x < l.length
  · have t := q_lt81 (x := x) (x4 := iZ (l.length : Int)) (s := s) (K := fun y19 s20 => if iZ (x : Int) < iZ (l.length : Int) then some (gIrem y19 27, s20) else some (0, s20)) (l.length - x - 1) l 20000 (by omega) (by omega) h6 h.2.2
    rw [show ((x + (l.length - x - 1) : Nat) : Int) = (l.length : Int) - 1 by omega] at t
    rw [t, if_pos (by rw [iZ_lt (by omega) (by omega) (by omega) (by omega)]; omega)]
    have e : l.take (x + 1) = l.take x ++ [l.getD x 0] := by
      rw [List.take_add_one, List.getD_eq_getElem?_getD, List.getElem?_eq_getElem c]; rfl
    have hy : 1 ≤ l.getD x 0 ∧ l.getD x 0 ≤ 26 := h.2.2 _ (by rw [List.getD_eq_getElem?_getD, List.getElem?_eq_getElem c]; exact List.getElem_mem c)
    have hlt := nm27_lt (l.take x).length (l.take x) rfl (fun y q => (h.2.2 y (List.mem_of_mem_take q)).2)
    have hp : 27 ^ (l.take x).length ≤ 27 ^ 5 := Nat.pow_le_pow_right (by decide) (by rw [List.length_take]; omega)
    have h5 : 27 ^ 5 = 14348907 := by decide
    rw [e, nm27_snoc, show (27 : Int32) = iZ 27 from rfl, iZ_rem (by omega) (by omega) (by omega) (by omega), tmod_nn (by omega)]
    congr 3
    omega
  · have g0 : l.getD x 0 = 0 := by rw [List.getD_eq_getElem?_getD, List.getElem?_eq_none (by omega)]; rfl
    rw [g0]
    unfold gX12_letter_L81
    rw [if_neg (by rw [iZ_lt (by omega) (by omega) (by omega) (by omega)]; omega), if_neg (by rw [iZ_lt (by omega) (by omega) (by omega) (by omega)]; omega)]
    rfl
theorem cq_letter {z x : Int} (z1 : -2147483648 ≤ z) (z2 : z < 2147483648) (x1 : -2147483648 ≤ x) (x2 : x < 2147483648) (hb : isBk b) (hv : v.1 = b) (ok : BkOK B) (hB : cBk I b B) : fX11_letter 50 (iZ z) (iZ x) (mkS X I J v) = some (if (0 ≤ z ∧ z < B.nR) ∨ (6 ≤ z ∧ z < 6 + B.nS) then aLet (B.nm z.toNat) x else -1, mkS X I J v) := by
  have hb0 := bk_r hb
  have k1 := ok.1
  have k2 := ok.2.1
  unfold fX11_letter
  simp only [bO, o50R, hv, bk_c hb, c_isWhat hb hB.1 hB.2.1 k1 k2 z1 z2, gb2_some]
  by_cases c : (0 ≤ z ∧ z < (B.nR : Int)) ∨ (6 ≤ z ∧ z < 6 + (B.nS : Int))
  · rw [decide_eq_true c, if_neg (show ¬ tf true = 0 by decide), if_pos c]
    unfold aLet
    by_cases c1 : x < 0
    · rw [if_pos (by rw [cL_lt (by omega) (by omega) (by decide)]; exact c1), if_neg (by omega)]
    · rw [if_neg (by rw [cL_lt (by omega) (by omega) (by decide)]; exact c1)]
      by_cases c2 : x < 6
      · obtain ⟨w, rfl⟩ : ∃ n : Nat, z = (n : Int) := ⟨z.toNat, by omega⟩
        obtain ⟨y, rfl⟩ : ∃ n : Nat, x = (n : Int) := ⟨x.toNat, by omega⟩
        have hw : kn B.nR B.nS w := by unfold kn; omega
        have hnm := ok.2.2.2.2.2.2 w hw
        rw [if_pos (by rw [cL_lt (by omega) (by omega) (by decide)]; exact c2), if_pos (by omega)]
        unfold fX1_letterOf
        simp only [bO, bk_r4 hb, bk_n2 hb]
        rw [if_neg (by rw [cL_lt (by omega) (by omega) (by decide)]; omega), if_pos (by rw [iZ_lt (by omega) (by omega) (by omega) (by omega)]; omega), bk_a2 hb I J (show w < 12 by omega)]
        simp only [bO]
        rw [hB.2.2.2.2 w hw]
        have h5 := nm5_lt hnm
        have e1 : (5 : Int32) * (5 - iZ (y : Int)) = iZ ((5 * (5 - y) : Nat) : Int) := by
          rw [show (5 : Int32) = iZ 5 from rfl, iZ_sub, iZ_mul]; congr 1; omega
        rw [e1, iZ_shr (by omega) (by omega) (by omega), show (31 : Int32) = iZ ((2 : Int) ^ 5 - 1) from rfl, iZ_mask _ 5 (by decide), nm5_at hnm (by omega)]
        rfl
      · rw [if_neg (by rw [cL_lt (by omega) (by omega) (by decide)]; exact c2), if_neg (by omega)]
  · rw [decide_eq_false c, if_pos tf_f, if_neg c]
theorem mq_letter {z x : Int} (z1 : -2147483648 ≤ z) (z2 : z < 2147483648) (x1 : -2147483648 ≤ x) (x2 : x < 2147483648) (ok : BkOK B) (hB : mBk I B) : fX12_letter 267 (iZ z) (iZ x) (mkS X I J v) = some (if (0 ≤ z ∧ z < B.nR) ∨ (6 ≤ z ∧ z < 6 + B.nS) then aLet (B.nm z.toNat) x else -1, mkS X I J v) := by
  have k1 := ok.1
  have k2 := ok.2.1
  unfold fX12_letter
  simp only [o267, m_isWhat z1 z2 ok hB, gb2_some, gjn_eq]
  by_cases c : (0 ≤ z ∧ z < (B.nR : Int)) ∨ (6 ≤ z ∧ z < 6 + (B.nS : Int))
  · rw [decide_eq_true c, if_neg (show ¬ tf true = 0 by decide), if_pos c, m_isIn, gb2_some, iZ_l x1 x2, show (0 : Int64).toInt = 0 from rfl, show (5 : Int64).toInt = 5 from rfl]
    unfold aLet
    by_cases cx : 0 ≤ x ∧ x ≤ 5
    · rw [if_pos cx, if_neg (show ¬ (1 : Int32) = 0 by decide), if_pos (show 0 ≤ x ∧ x < 6 by omega)]
      obtain ⟨w, rfl⟩ : ∃ n : Nat, z = (n : Int) := ⟨z.toNat, by omega⟩
      obtain ⟨y, rfl⟩ : ∃ n : Nat, x = (n : Int) := ⟨x.toNat, by omega⟩
      have hw : kn B.nR B.nS w := by unfold kn; omega
      have hnm := ok.2.2.2.2.2.2 w hw
      by_cases c6 : w < 6
      · have hr : w < B.nR := by unfold kn at hw; omega
        rw [if_pos (by rw [cL_lt (by omega) (by omega) (by decide)]; omega)]
        have e0 : fX12_ruleHas 267 (iZ (w : Int)) 0 (mkS X I J v) = some (iZ (nm27 (B.nm w) : Nat), mkS X I J v) := by
          have := m_ruleHas (X := X) (I := I) (J := J) (v := v) (w := 0) c6 (by decide)
          rw [Nat.add_zero, (hB.2.2.1 w hr).2.2] at this
          exact this
        rw [e0, m_c, gb2_some]
        exact q_letT hnm (by omega)
      · obtain ⟨t, rfl⟩ : ∃ t, w = 6 + t := ⟨w - 6, by omega⟩
        have ht : t < B.nS := by unfold kn at hw; omega
        rw [if_neg (by rw [cL_lt (by omega) (by omega) (by decide)]; omega)]
        simp only [bO, o267R, sL]
        rw [show ((6 + t : Nat) : Int) - 6 = (t : Int) by omega]
        have e0 : fX12_setAt (iZ (t : Int)) 0 (mkS X I J v) = some (iZ ((254 + 3 * t + 0 : Nat) : Int), mkS X I J v) := m_setAt (k := 0)
        rw [e0, gb2_some, a276 _ _ _ _ _ (show 254 + 3 * t + 0 < 272 by omega), Nat.add_zero, (hB.2.2.2.1 t ht).2.2.2]
        simp only [bO]
        exact q_letT hnm (by omega)
    · rw [if_neg cx, if_pos rfl, if_neg (show ¬ (0 ≤ x ∧ x < 6) by omega)]
  · rw [decide_eq_false c, if_pos tf_f, if_neg c]
end gQt
