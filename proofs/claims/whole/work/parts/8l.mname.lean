/-! NAMES of the reference -/
def nv (T : Nat → Nat) (a : Nat) : Nat → Nat
  | 0 => 0
  | m + 1 => 27 * nv T a m + (T (a + m) - 96)
theorem nm27_snoc (l : List Nat) (x : Nat) : nm27 (l ++ [x]) = 27 * nm27 l + x := by
  unfold nm27
  rw [List.foldl_append]; rfl
theorem nv_nm {T : Nat → Nat} {a : Nat} : ∀ m, nm27 ((List.range m).map (fun j => T (a + j) - 96)) = nv T a m := by
  intro m
  induction m with
  | zero => rfl
  | succ m ih =>
    rw [List.range_succ, List.map_append, List.map_singleton, nm27_snoc, ih]
    rfl
theorem nv_eq {T : Nat → Nat} {a e : Nat} : nm27 (nmL T a e) = nv T a (e - a) := nv_nm (e - a)
theorem nm27_lt : ∀ (m : Nat) (l : List Nat), l.length = m → (∀ x, x ∈ l → x ≤ 26) → nm27 l < 27 ^ m := by
  intro m
  induction m with
  | zero =>
    intro l hl _
    rw [List.eq_nil_of_length_eq_zero hl]
    exact Nat.one_pos
  | succ m ih =>
    intro l hl hx
    rcases List.eq_nil_or_concat l with e | ⟨L, b, e⟩
    · rw [e] at hl; cases hl
    · rw [List.concat_eq_append] at e
      subst e
      rw [List.length_append, List.length_singleton] at hl
      have h1 := ih L (by omega) (fun x q => hx x (List.mem_append_left _ q))
      have h2 := hx b (List.mem_append_right _ (List.mem_singleton.mpr rfl))
      rw [nm27_snoc, Nat.pow_succ]; omega
theorem nm27_inj : ∀ (m : Nat) (l l' : List Nat), l.length = m → (∀ x, x ∈ l → 1 ≤ x ∧ x ≤ 26) → (∀ x, x ∈ l' → 1 ≤ x ∧ x ≤ 26) → nm27 l = nm27 l' → l = l' := by
  intro m
  induction m with
  | zero =>
    intro l l' hl h h' e
    have el := List.eq_nil_of_length_eq_zero hl
    subst el
    rcases List.eq_nil_or_concat l' with q | ⟨L, b, q⟩
    · exact q.symm
    · rw [List.concat_eq_append] at q
      subst q
      have := h' b (List.mem_append_right _ (List.mem_singleton.mpr rfl))
      rw [nm27_snoc] at e
      have e0 : nm27 ([] : List Nat) = 0 := rfl
      omega
  | succ m ih =>
    intro l l' hl h h' e
    rcases List.eq_nil_or_concat l with q | ⟨L, b, q⟩
    · rw [q] at hl; cases hl
    · rw [List.concat_eq_append] at q
      subst q
      rw [List.length_append, List.length_singleton] at hl
      have hb := h b (List.mem_append_right _ (List.mem_singleton.mpr rfl))
      rw [nm27_snoc] at e
      rcases List.eq_nil_or_concat l' with q | ⟨L', b', q⟩
      · subst q
        have e0 : nm27 ([] : List Nat) = 0 := rfl
        omega
      · rw [List.concat_eq_append] at q
        subst q
        have hb' := h' b' (List.mem_append_right _ (List.mem_singleton.mpr rfl))
        rw [nm27_snoc] at e
        have e1 : nm27 L = nm27 L' := by omega
        have e2 : b = b' := by omega
        rw [ih L L' (by omega) (fun x q => h x (List.mem_append_left _ q)) (fun x q => h' x (List.mem_append_left _ q)) e1, e2]
theorem nm27_le {l : List Nat} (h : nmOK l) : nm27 l < 387420489 + 1 := by
  have h1 := nm27_lt l.length l rfl (fun x q => (h.2.2 x q).2)
  have h2 : 27 ^ l.length ≤ 27 ^ 6 := Nat.pow_le_pow_right (by decide) h.2.1
  have h3 : 27 ^ 6 = 387420489 := by decide
  omega
theorem nm27_eq {l l' : List Nat} (h : nmOK l) (h' : nmOK l') : (iZ (nm27 l : Nat) = iZ (nm27 l' : Nat)) ↔ l = l' := by
  have := nm27_le h
  have := nm27_le h'
  rw [iZ_eq (by omega) (by omega) (by omega) (by omega)]
  constructor
  · intro e; exact nm27_inj l.length l l' rfl h.2.2 h'.2.2 (by omega)
  · intro e; rw [e]
section gMa
variable {X : Nat × (Nat → Int32)} {J : Nat → Nat → Int64} {v : Vt} {T : Nat → Nat} {n : Nat}
theorem nv_lt {a e : Nat} (hin : ∀ j, a ≤ j → j < e → isLb (T j) = true) {m : Nat} (hm : a + m ≤ e) (h6 : m ≤ 6) : nv T a m < 387420490 := by
  have h1 := nm27_lt m ((List.range m).map (fun j => T (a + j) - 96)) (by rw [List.length_map, List.length_range]) (fun x hx => by
    obtain ⟨j, hj, rfl⟩ := List.mem_map.mp hx
    have := isLb_r (hin (a + j) (by omega) (by have := List.mem_range.mp hj; omega))
    omega)
  rw [nv_nm] at h1
  have h2 : 27 ^ m ≤ 27 ^ 6 := Nat.pow_le_pow_right (by decide) h6
  have h3 : 27 ^ 6 = 387420489 := by decide
  omega
theorem nv_lt5 {a e : Nat} (hin : ∀ j, a ≤ j → j < e → isLb (T j) = true) {m : Nat} (hm : a + m ≤ e) (h6 : m ≤ 5) : nv T a m < 14348908 := by
  have h1 := nm27_lt m ((List.range m).map (fun j => T (a + j) - 96)) (by rw [List.length_map, List.length_range]) (fun x hx => by
    obtain ⟨j, hj, rfl⟩ := List.mem_map.mp hx
    have := isLb_r (hin (a + j) (by omega) (by have := List.mem_range.mp hj; omega))
    omega)
  rw [nv_nm] at h1
  have h2 : 27 ^ m ≤ 27 ^ 5 := Nat.pow_le_pow_right (by decide) h6
  have h3 : 27 ^ 5 = 14348907 := by decide
  omega
theorem m_nameL {k100 : gH → Option (Int32 × gH)} {a e : Nat} (he : e = rn T n isLb a) (ha : a < e) : ∀ (k m fuel : Nat) (I : Nat → Nat → Int32), a + m + k = min e (a + 6) → k < fuel → mX I T n → I 267 2 = iZ ((a + m : Nat) : Int) → I 267 12 = iZ (a : Int) → gX12_name_L60 k100 267 fuel (iZ (nv T a m : Nat)) (mkS X I J v) = if 6 < e - a then k100 (mkS X (gup I 267 2 (iZ ((a + 6 : Nat) : Int))) J v) else some (iZ (nv T a (e - a) : Nat), mkS X (gup (gup I 267 2 (iZ (e : Int))) 267 4 (iZ (e : Int))) J v) := by
  have hin : ∀ j, a ≤ j → j < e → j < n ∧ isLb (T j) = true := fun j x y => rn_in (a := a) j x (by rw [← he]; exact y)
  have hen := (hin (e - 1) (by omega) (by omega)).1
  intro k
  induction k with
  | zero =>
    intro m fuel I hm hf h h2 h12
    obtain ⟨f, rfl⟩ : ∃ n, fuel = n + 1 := ⟨fuel - 1, by omega⟩
    have hn := h.1.1
    unfold gX12_name_L60
    simp only [bO, o267, o267R, h2, h.2.1]
    by_cases c : 6 < e - a
    · have em : m = 6 := by omega
      subst em
      obtain ⟨q1, q2⟩ := hin (a + 6) (by omega) (by omega)
      rw [if_pos (by rw [iZ_lt (by omega) (by omega) (by omega) (by omega)]; omega), m_tx h q1]
      simp only [bO]
      rw [m_letter (h.1.2 _ q1).1, gb2_some, q2, if_neg (show ¬ tf true = 0 by decide)]
      simp only [bO, o267, h2, h12, iZ_sub]
      rw [if_pos (by rw [cL_eq (by omega) (by omega) (by decide)]; omega), if_pos c, gup_id h2]
    · have em : a + m = e := by omega
      have h2e : I 267 2 = iZ (e : Int) := by rw [h2, em]
      rw [if_neg c, em, show m = e - a by omega]
      rw [gup_id (I := I) h2e]
      by_cases cn : e < n
      · rw [if_pos (by rw [iZ_lt (by omega) (by omega) (by omega) (by omega)]; omega), m_tx h cn]
        simp only [bO]
        have q : isLb (T e) = false := by
          cases z : isLb (T e)
          · rfl
          · exact absurd (show e < n ∧ isLb (T e) = true from ⟨cn, z⟩) (by rw [he]; exact rn_at a)
        rw [m_letter (h.1.2 _ cn).1, gb2_some, q, if_pos tf_f]
        simp only [bO, o267, h2, em]
      · rw [if_neg (by rw [iZ_lt (by omega) (by omega) (by omega) (by omega)]; omega)]
  | succ k ih =>
    intro m fuel I hm hf h h2 h12
    obtain ⟨f, rfl⟩ : ∃ n, fuel = n + 1 := ⟨fuel - 1, by omega⟩
    have hn := h.1.1
    obtain ⟨q1, q2⟩ := hin (a + m) (by omega) (by omega)
    have hdg := isLb_r q2
    have hb2 := nv_lt5 (fun j x y => (hin j x y).2) (show a + m ≤ e by omega) (show m ≤ 5 by omega)
    unfold gX12_name_L60
    simp only [bO, o267, o267R, h2, h.2.1]
    rw [if_pos (by rw [iZ_lt (by omega) (by omega) (by omega) (by omega)]; omega), m_tx h q1]
    simp only [bO]
    rw [m_letter (h.1.2 _ q1).1, gb2_some, q2, if_neg (show ¬ tf true = 0 by decide)]
    simp only [bO, o267, o267R, h2, h12, iZ_sub]
    rw [if_neg (by rw [cL_eq (by omega) (by omega) (by decide)]; omega), m_tx h q1]
    simp only [bO, o267, h2]
    rw [pR, iZ_add, sL, aL, aL, show 27 * ((nv T a m : Nat) : Int) + ((T (a + m) : Nat) : Int) - 97 + 1 = ((nv T a (m + 1) : Nat) : Int) from by
      show _ = ((27 * nv T a m + (T (a + m) - 96) : Nat) : Int); omega, show ((a + m : Nat) : Int) + 1 = ((a + (m + 1) : Nat) : Int) by omega]
    rw [ih (m + 1) f (gup I 267 2 (iZ ((a + (m + 1) : Nat) : Int))) (by omega) (by omega) (mX_M h (frM_g (Or.inl rfl))) gup_s (by rw [gup_k (by decide)]; exact h12), gup_gup, gup_gup]
theorem m_name {I : Nat → Nat → Int32} {r : PS} (h : mX I T n) (hr : mO I T n r) : ∃ I' x, fX12_name 267 (mkS X I J v) = some (x, mkS X I' J v) ∧ frM I I' ∧ mO I' T n (pName T n r) ∧ (pOk (pName T n r) = true → x = iZ (nm27 (pNameV T n r) : Nat) ∧ I' 267 12 = iZ (pAt r : Nat)) := by
  have hn := h.1.1
  unfold fX12_name
  simp only [bO, o267]
  cases r with
  | error e =>
    rw [if_neg (mO_err hr rfl)]
    exact ⟨I, _, rfl, frM_r I, hr, fun q => by cases q⟩
  | ok s =>
    rw [if_pos hr.1]
    obtain ⟨I1, a1, a2, a3, a4⟩ := m_isWordHere (X := X) (J := J) (v := v) h hr
    have h1 := mX_M h a2
    have a4' : I1 267 2 = iZ (s.1 : Int) := a4
    rw [a1]
    simp only [bO, o267]
    have eN : pName T n (.ok s) = if tkK T n s.1 s.2 = 1 ∧ owI T s.1 (tkE T n s.1) = -1 then (if 6 < tkE T n s.1 - s.1 then .error (1, s.1 + 6) else pAdv T n (.ok s)) else .error (1, s.1) := rfl
    -- no name
    have bad : ∀ I2 : Nat → Nat → Int32, frM I I2 → mO I2 T n (.ok s) → pName T n (.ok s) = .error (1, s.1) → ∃ I' x, (gb2 (fX12_look 267 (mkS X I2 J v)) fun r7 s8 => if r7 = -1 then (ggI s8 267 12 3).bind fun v17 => gb2 (gcv s8 267 12 (fX12_fail 267 1 v17 s8)) fun (_ : Unit) s15 => some ((0 : Int32), s15) else (ggI s8 267 12 2).bind fun v18 => gb2 (gcv s8 267 12 (fX12_fail 267 1 v18 s8)) fun (_ : Unit) s15 => some ((0 : Int32), s15)) = some (x, mkS X I' J v) ∧ frM I I' ∧ mO I' T n (pName T n (.ok s)) ∧ (pOk (pName T n (.ok s)) = true → x = iZ (nm27 (pNameV T n (.ok s)) : Nat) ∧ I' 267 12 = iZ (pAt (.ok s) : Nat)) := by
      intro I2 f2 o2 ep
      have h2 := mX_M h f2
      obtain ⟨b1, b2, b3⟩ := m_look (X := X) (J := J) (v := v) h2 o2
      have h3 := mX_M h2 b3
      rw [b1]
      simp only [bO, o267, h3.2.1, gup_s]
      obtain ⟨I3, c1, c2, c3, -⟩ := m_fail (X := X) (J := J) (v := v) (f := 1) (p := s.1) (by decide) (by decide) b2
      have c1' : fX12_fail 267 1 (iZ (s.1 : Int)) (mkS X (gup I2 267 2 (iZ (s.1 : Int))) J v) = some ((), mkS X I3 J v) := c1
      have hs := o2.2.1
      have ew : (if iZ (pCh T n s) = -1 then gb2 (fX12_fail 267 1 (iZ (n : Int)) (mkS X (gup I2 267 2 (iZ (s.1 : Int))) J v)) fun (_ : Unit) s15 => some ((0 : Int32), s15) else gb2 (fX12_fail 267 1 (iZ (s.1 : Int)) (mkS X (gup I2 267 2 (iZ (s.1 : Int))) J v)) fun (_ : Unit) s15 => some ((0 : Int32), s15)) = some (0, mkS X I3 J v) := by
        by_cases cn : s.1 < n
        · have hp : pCh T n s = (T s.1 : Int) := by unfold pCh; rw [if_pos cn]
          have := (h.1.2 _ cn).1
          rw [if_neg (by rw [hp, cM_eq (by omega) (by omega)]; omega), c1']; rfl
        · have hp : pCh T n s = -1 := by unfold pCh; rw [if_neg cn]
          rw [if_pos (by rw [hp]; rfl), show n = s.1 by omega, c1']; rfl
      rw [ew, ep]
      exact ⟨I3, _, rfl, frM_t f2 (frM_t b3 c2), c3, fun q => by cases q⟩
    show ∃ I' x, (if tf (tkK T n s.1 s.2 == 1) = 0 then _ else _) = _ ∧ _
    by_cases ck : tkK T n s.1 s.2 = 1
    · rw [show (tkK T n s.1 s.2 == 1) = true from by simpa using ck, if_neg (show ¬ tf true = 0 by decide)]
      obtain ⟨I2, b1, b2, b3, b4⟩ := m_ownHere (X := X) (J := J) (v := v) h1 a3
      have h2 := mX_M h1 b2
      have b4' : I2 267 2 = iZ (s.1 : Int) := b4
      rw [b1]
      simp only [bO, o267]
      have ow : pOw T n (.ok s) = owI T s.1 (tkE T n s.1) := by
        show (if _ then _ else _) = _
        rw [if_pos ck]
      have owr := owI_r T s.1 (tkE T n s.1)
      rw [ow]
      by_cases co : owI T s.1 (tkE T n s.1) = -1
      · rw [if_pos (by rw [co]; rfl), b4']
        obtain ⟨t1, t2, t3, t4⟩ := tk1 ck
        have hs := b3.2.1
        have hE := tkE_le (T := T) hs
        have hG := tkE_gt (T := T) t1
        have fr12 : frM I (gup I2 267 12 (iZ (s.1 : Int))) := frM_t a2 (frM_t b2 (frM_g (by decide)))
        have hL := m_nameL (X := X) (J := J) (v := v) (T := T) (n := n) (k100 := fun s48 => (ggI s48 267 12 2).bind fun v49 => gb2 (gcv s48 267 12 (fX12_fail 267 1 v49 s48)) fun (_ : Unit) s51 => some ((0 : Int32), s51)) t3 hG (min (tkE T n s.1) (s.1 + 6) - s.1) 0 20000 (gup I2 267 12 (iZ (s.1 : Int))) (by omega) (by omega) (mX_M h fr12) (by rw [gup_k (by decide)]; exact b4') gup_s
        have hL' : gX12_name_L60 _ 267 20000 0 (mkS X (gup I2 267 12 (iZ (s.1 : Int))) J v) = _ := hL
        rw [hL', eN, if_pos (show tkK T n s.1 s.2 = 1 ∧ owI T s.1 (tkE T n s.1) = -1 from ⟨ck, co⟩)]
        have e5' : gup I2 267 12 (iZ (s.1 : Int)) 267 5 = 0 := by rw [gup_k (by decide)]; exact b3.1
        by_cases c6 : 6 < tkE T n s.1 - s.1
        · rw [if_pos c6, if_pos c6]
          simp only [bO, o267, gup_s]
          refine ⟨gup (gup (gup (gup I2 267 12 (iZ (s.1 : Int))) 267 2 (iZ ((s.1 + 6 : Nat) : Int))) 267 5 1) 267 6 (iZ ((s.1 + 6 : Nat) : Int)), 0, ?_, frM_t fr12 (frM_t (frM_g (by decide)) (frM_t (frM_g (by decide)) (frM_g (by decide)))), ⟨by rw [gup_k (by decide), gup_s]; rfl, (show (1 : Nat) ≠ 0 by decide), (show (1 : Nat) < 10 by decide), gup_s⟩, fun q => by cases q⟩
          unfold fX12_fail
          simp only [bO, o267]
          rw [gup_k (show (5 : Nat) ≠ 2 by decide), e5', if_pos rfl]
          simp only [bO]
        · rw [if_neg c6, if_neg c6]
          refine ⟨_, _, rfl, frM_t fr12 (frM_t (frM_g (by decide)) (frM_g (by decide))), ?_, fun _ => ⟨?_, ?_⟩⟩
          · exact mO_behind b3 (Or.inl ck) (by rw [gup_k (by decide), gup_k (by decide), gup_k (by decide)]) (by rw [gup_k (by decide), gup_s]) gup_s (by rw [gup_k (by decide), gup_k (by decide), gup_k (by decide)])
          · rw [← nv_eq]; rfl
          · rw [gup_k (by decide), gup_k (by decide), gup_s]; rfl
      · rw [if_neg (by rw [cM_eq (by omega) (by omega)]; exact co)]
        exact bad I2 (frM_t a2 b2) b3 (by rw [eN, if_neg (fun q => co q.2)])
    · rw [show (tkK T n s.1 s.2 == 1) = false from by simpa using ck, if_pos tf_f]
      exact bad I1 a2 a3 (by rw [eN, if_neg (fun q => ck q.1)])
/-- what the draft has of names -/
def mNm (I : Nat → Nat → Int32) (nR nS : Nat) (nm : Nat → List Nat) : Prop := nR ≤ 6 ∧ nS ≤ 6 ∧ I 275 0 = iZ (nR : Int) ∧ I 275 1 = iZ (nS : Int) ∧ (∀ r, r < nR → nmOK (nm r) ∧ I 275 (2 + 42 * r) = iZ (nm27 (nm r) : Nat)) ∧ ∀ s, s < nS → nmOK (nm (6 + s)) ∧ I 275 (254 + 3 * s) = iZ (nm27 (nm (6 + s)) : Nat)
theorem mNm_M {I I' : Nat → Nat → Int32} {nR nS : Nat} {nm : Nat → List Nat} (h : mNm I nR nS nm) (f : ∀ k, I' 275 k = I 275 k) : mNm I' nR nS nm := by
  obtain ⟨h1, h2, h3, h4, h5, h6⟩ := h
  exact ⟨h1, h2, by rw [f]; exact h3, by rw [f]; exact h4, fun r hr => ⟨(h5 r hr).1, by rw [f]; exact (h5 r hr).2⟩, fun s hs => ⟨(h6 s hs).1, by rw [f]; exact (h6 s hs).2⟩⟩
theorem m_ruleAtn {r k : Nat} {s : gH} : fX12_ruleAt (iZ (r : Int)) (iZ (k : Int)) s = some (iZ ((2 + 42 * r + k : Nat) : Int), s) := by
  unfold fX12_ruleAt
  rw [pR, aR, iZ_add]
  congr 3
theorem m_setAt {r k : Nat} {s : gH} : fX12_setAt (iZ (r : Int)) (iZ (k : Int)) s = some (iZ ((254 + 3 * r + k : Nat) : Int), s) := by
  unfold fX12_setAt
  rw [pR, aR, iZ_add]
  congr 3
theorem m_namedS {I : Nat → Nat → Int32} {nR nS : Nat} {nm : Nat → List Nat} {l : List Nat} (hN : mNm I nR nS nm) (hl : nmOK l) : ∀ (m s fuel : Nat), s + m = nS → m < fuel → gX12_named_L36 267 (iZ (nm27 l : Nat)) fuel (iZ (s : Int)) (mkS X I J v) = some (iZ (if nx (fun s => nm (6 + s) == l) m s = -1 then -1 else 6 + nx (fun s => nm (6 + s) == l) m s), mkS X I J v) := by
  obtain ⟨h1, h2, h3, h4, h5, h6⟩ := hN
  intro m
  induction m with
  | zero =>
    intro s fuel hs hf
    obtain ⟨f, rfl⟩ : ∃ n, fuel = n + 1 := ⟨fuel - 1, by omega⟩
    unfold gX12_named_L36
    simp only [bO, o267R]
    have q1 : gaI (mkS X I J v) 275 2 1 = some (I 275 1) := a275 X I J v 1 (by decide)
    rw [q1, h4]
    simp only [bO]
    rw [if_neg (by rw [iZ_lt (by omega) (by omega) (by omega) (by omega)]; omega)]
    rfl
  | succ m ih =>
    intro s fuel hs hf
    obtain ⟨f, rfl⟩ : ∃ n, fuel = n + 1 := ⟨fuel - 1, by omega⟩
    unfold gX12_named_L36
    simp only [bO, o267R]
    have q1 : gaI (mkS X I J v) 275 2 1 = some (I 275 1) := a275 X I J v 1 (by decide)
    rw [q1, h4]
    simp only [bO]
    rw [if_pos (by rw [iZ_lt (by omega) (by omega) (by omega) (by omega)]; omega)]
    have q2 : fX12_setAt (iZ (s : Int)) 0 (mkS X I J v) = some (iZ ((254 + 3 * s : Nat) : Int), mkS X I J v) := m_setAt (k := 0)
    rw [q2]
    simp only [bO, o267R]
    rw [a275 _ _ _ _ _ (by omega), (h6 s (by omega)).2]
    simp only [bO]
    rw [show iZ (s : Int) + 1 = iZ ((s + 1 : Nat) : Int) from by rw [aL]; rfl, ih (s + 1) f (by omega) (by omega)]
    have en : nx (fun s => nm (6 + s) == l) (m + 1) s = if (nm (6 + s) == l) = true then (s : Int) else nx (fun s => nm (6 + s) == l) m (s + 1) := rfl
    rw [en]
    by_cases c : nm (6 + s) = l
    · simp only [if_pos (show (nm (6 + s) == l) = true by simpa using c)]
      rw [if_pos ((nm27_eq (h6 s (by omega)).1 hl).mpr c), aR, if_neg (by omega)]
    · simp only [if_neg (show ¬ (nm (6 + s) == l) = true by simpa using c)]
      rw [if_neg (fun q => c ((nm27_eq (h6 s (by omega)).1 hl).mp q))]
theorem m_namedR {I : Nat → Nat → Int32} {nR nS : Nat} {nm : Nat → List Nat} {l : List Nat} {K : gH → Option (Int32 × gH)} (hN : mNm I nR nS nm) (hl : nmOK l) : ∀ (m r fuel : Nat), r + m = nR → m < fuel → gX12_named_L2 K 267 (iZ (nm27 l : Nat)) fuel (iZ (r : Int)) (mkS X I J v) = if nx (fun r => nm r == l) m r = -1 then K (mkS X I J v) else some (iZ (nx (fun r => nm r == l) m r), mkS X I J v) := by
  obtain ⟨h1, h2, h3, h4, h5, h6⟩ := hN
  intro m
  induction m with
  | zero =>
    intro s fuel hs hf
    obtain ⟨f, rfl⟩ : ∃ n, fuel = n + 1 := ⟨fuel - 1, by omega⟩
    unfold gX12_named_L2
    simp only [bO, o267R]
    have q1 : gaI (mkS X I J v) 275 2 0 = some (I 275 0) := a275 X I J v 0 (by decide)
    rw [q1, h3]
    simp only [bO]
    rw [if_neg (by rw [iZ_lt (by omega) (by omega) (by omega) (by omega)]; omega)]
    rfl
  | succ m ih =>
    intro s fuel hs hf
    obtain ⟨f, rfl⟩ : ∃ n, fuel = n + 1 := ⟨fuel - 1, by omega⟩
    unfold gX12_named_L2
    simp only [bO, o267R]
    have q1 : gaI (mkS X I J v) 275 2 0 = some (I 275 0) := a275 X I J v 0 (by decide)
    rw [q1, h3]
    simp only [bO]
    rw [if_pos (by rw [iZ_lt (by omega) (by omega) (by omega) (by omega)]; omega)]
    have q2 : fX12_ruleAt (iZ (s : Int)) 0 (mkS X I J v) = some (iZ ((2 + 42 * s : Nat) : Int), mkS X I J v) := m_ruleAtn (k := 0)
    rw [q2]
    simp only [bO, o267R]
    rw [a275 _ _ _ _ _ (by omega), (h5 s (by omega)).2]
    simp only [bO]
    rw [show iZ (s : Int) + 1 = iZ ((s + 1 : Nat) : Int) from by rw [aL]; rfl, ih (s + 1) f (by omega) (by omega)]
    have en : nx (fun r => nm r == l) (m + 1) s = if (nm s == l) = true then (s : Int) else nx (fun r => nm r == l) m (s + 1) := rfl
    rw [en]
    by_cases c : nm s = l
    · rw [if_pos ((nm27_eq (h5 s (by omega)).1 hl).mpr c), if_pos (show (nm s == l) = true by simpa using c), if_neg (by omega)]
    · rw [if_neg (fun q => c ((nm27_eq (h5 s (by omega)).1 hl).mp q)), if_neg (show ¬ (nm s == l) = true by simpa using c)]
theorem m_named {I : Nat → Nat → Int32} {nR nS : Nat} {nm : Nat → List Nat} {l : List Nat} (hN : mNm I nR nS nm) (hl : nmOK l) : fX12_named 267 (iZ (nm27 l : Nat)) (mkS X I J v) = some (iZ (pFind nR nS nm l), mkS X I J v) := by
  have h1 := hN.1
  have h2 := hN.2.1
  have e1 := m_namedR (X := X) (J := J) (v := v) (K := fun s10 => gX12_named_L36 267 (iZ (nm27 l : Nat)) 20000 0 s10) hN hl nR 0 20000 (by omega) (by omega)
  unfold fX12_named
  have e1' : gX12_named_L2 (fun s10 => gX12_named_L36 267 (iZ (nm27 l : Nat)) 20000 0 s10) 267 (iZ (nm27 l : Nat)) 20000 0 (mkS X I J v) = _ := e1
  rw [e1']
  have e2 := m_namedS (X := X) (J := J) (v := v) hN hl nS 0 20000 (by omega) (by omega)
  have e2' : gX12_named_L36 267 (iZ (nm27 l : Nat)) 20000 0 (mkS X I J v) = _ := e2
  rw [e2']
  rcases nx_cases (fun r => nm r == l) nR 0 with ⟨q1, q2⟩ | ⟨k, q1, q2, q3, q4, q5⟩
  · rw [if_pos q1]
    rcases nx_cases (fun s => nm (6 + s) == l) nS 0 with ⟨p1, p2⟩ | ⟨k, p1, p2, p3, p4, p5⟩
    · rw [if_pos p1]
      unfold pFind
      rw [nx_none]
      intro j _ hj
      by_cases c : j < nR
      · rw [q2 j (by omega) (by omega), Bool.and_false]
      · by_cases c2 : 6 ≤ j ∧ j < 6 + nS
        · have := p2 (j - 6) (by omega) (by omega)
          rw [show 6 + (j - 6) = j by omega] at this
          rw [this, Bool.and_false]
        · have : knb nR nS j = false := by
            cases z : knb nR nS j
            · rfl
            · have := knb_iff.mp z; unfold kn at this; omega
          rw [this, Bool.false_and]
    · rw [p1, if_neg (by omega)]
      unfold pFind
      rw [nx_found (k := 6 + k) (by omega) (by omega) (by rw [p4, show knb nR nS (6 + k) = true from knb_iff.mpr (by unfold kn; omega)]; rfl)]
      · congr 3
      · intro j _ hj
        by_cases c : j < nR
        · rw [q2 j (by omega) (by omega), Bool.and_false]
        · by_cases c2 : 6 ≤ j
          · have := p5 (j - 6) (by omega) (by omega)
            rw [show 6 + (j - 6) = j by omega] at this
            rw [this, Bool.and_false]
          · have : knb nR nS j = false := by
              cases z : knb nR nS j
              · rfl
              · have := knb_iff.mp z; unfold kn at this; omega
            rw [this, Bool.false_and]
  · rw [q1, if_neg (by omega)]
    unfold pFind
    rw [nx_found (k := k) (by omega) (by omega) (by rw [q4, show knb nR nS k = true from knb_iff.mpr (by unfold kn; omega)]; rfl)]
    intro j x y
    rw [q5 j x y, Bool.and_false]
theorem m_newName {I : Nat → Nat → Int32} {r : PS} {nR nS : Nat} {nm : Nat → List Nat} (h : mX I T n) (hr : mO I T n r) (hN : mNm I nR nS nm) : ∃ I' x, fX12_newName 267 (mkS X I J v) = some (x, mkS X I' J v) ∧ frM I I' ∧ mO I' T n (pNew T n nR nS nm r) ∧ (pOk (pNew T n nR nS nm r) = true → x = iZ (nm27 (pNameV T n r) : Nat)) := by
  unfold fX12_newName
  simp only [o267]
  obtain ⟨I1, x, a1, a2, a3, a4⟩ := m_name (X := X) (J := J) (v := v) h hr
  rw [a1]
  simp only [bO, o267]
  unfold pNew
  cases hok : pOk (pName T n r) with
  | false =>
    rw [if_neg (mO_err a3 hok), if_neg (show ¬ (false = true ∧ _) from fun q => by cases q.1)]
    exact ⟨I1, _, rfl, a2, a3, fun q => by rw [hok] at q; cases q⟩
  | true =>
    obtain ⟨p1, p2⟩ := a4 hok
    have hf := pFind_r nR nS nm (pNameV T n r)
    rw [if_pos (mO_ok a3 hok), p1, m_named (mNm_M hN (fun k => a2.1 275 k (by decide))) (pNameV_ok hok)]
    simp only [bO, o267]
    by_cases c : pFind nR nS nm (pNameV T n r) = -1
    · rw [if_pos (by rw [c]; rfl), if_neg (fun q => q.2 c)]
      exact ⟨I1, _, rfl, a2, a3, fun _ => rfl⟩
    · rw [if_neg (by rw [cM_eq (by omega) (by omega)]; exact c), if_pos ⟨trivial, c⟩, p2]
      obtain ⟨I2, b1, b2, b3, -⟩ := m_fail (X := X) (J := J) (v := v) (f := 3) (p := pAt r) (by decide) (by decide) a3
      have b1' : fX12_fail 267 3 (iZ (pAt r : Nat)) (mkS X I1 J v) = some ((), mkS X I2 J v) := b1
      rw [b1']
      rw [pFail_ok hok] at b3
      exact ⟨I2, _, rfl, frM_t a2 b2, b3, fun q => by cases q⟩
theorem m_what {I : Nat → Nat → Int32} {r : PS} {nR nS : Nat} {nm : Nat → List Nat} (h : mX I T n) (hr : mO I T n r) (hN : mNm I nR nS nm) : ∃ I' x, fX12_what 267 (mkS X I J v) = some (x, mkS X I' J v) ∧ frM I I' ∧ mO I' T n (pKnown T n nR nS nm r) ∧ (pOk (pKnown T n nR nS nm r) = true → x = iZ (pFind nR nS nm (pNameV T n r))) := by
  unfold fX12_what
  simp only [o267]
  obtain ⟨I1, x, a1, a2, a3, a4⟩ := m_name (X := X) (J := J) (v := v) h hr
  rw [a1]
  simp only [bO, o267]
  unfold pKnown
  cases hok : pOk (pName T n r) with
  | false =>
    rw [if_neg (mO_err a3 hok), if_neg (mO_err a3 hok), if_neg (show ¬ (false = true ∧ _) from fun q => by cases q.1)]
    exact ⟨I1, _, rfl, a2, a3, fun q => by rw [hok] at q; cases q⟩
  | true =>
    obtain ⟨p1, p2⟩ := a4 hok
    have hf := pFind_r nR nS nm (pNameV T n r)
    rw [if_pos (mO_ok a3 hok), p1, m_named (mNm_M hN (fun k => a2.1 275 k (by decide))) (pNameV_ok hok)]
    simp only [bO, o267]
    rw [if_pos (mO_ok a3 hok)]
    by_cases c : pFind nR nS nm (pNameV T n r) = -1
    · rw [if_pos (by rw [c]; rfl), if_pos ⟨trivial, c⟩, p2]
      obtain ⟨I2, b1, b2, b3, -⟩ := m_fail (X := X) (J := J) (v := v) (f := 3) (p := pAt r) (by decide) (by decide) a3
      have b1' : fX12_fail 267 3 (iZ (pAt r : Nat)) (mkS X I1 J v) = some ((), mkS X I2 J v) := b1
      rw [b1']
      rw [pFail_ok hok] at b3
      exact ⟨I2, _, rfl, frM_t a2 b2, b3, fun q => by cases q⟩
    · rw [if_neg (by rw [cM_eq (by omega) (by omega)]; exact c), if_neg (fun q => c q.2)]
      exact ⟨I1, _, rfl, a2, a3, fun _ => rfl⟩
end gMa
