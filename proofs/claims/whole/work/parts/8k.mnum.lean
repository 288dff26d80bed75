/-! NUMBERS and SIGNS of the reference -/
section gMn
variable {X : Nat × (Nat → Int32)} {J : Nat → Nat → Int64} {v : Vt} {T : Nat → Nat} {n : Nat}
theorem m_numL {k90 : gH → Option (Int32 × gH)} {k132 : Int32 → gH → Option (Int32 × gH)} {x1 x2 : Int32} {a e : Nat} (he : e = rn T n isDb a) (ha : a < e) : ∀ (k m fuel : Nat) (I : Nat → Nat → Int32), a + m + k = min e (a + 4) → k < fuel → mX I T n → I 267 2 = iZ ((a + m : Nat) : Int) → I 267 10 = iZ (a : Int) → gX12_number_L51 k90 k132 267 x1 x2 fuel (iZ (dv T a m : Nat)) (mkS X I J v) = if 4 < e - a then k90 (mkS X (gup I 267 2 (iZ ((a + 4 : Nat) : Int))) J v) else k132 (iZ (dv T a (e - a) : Nat)) (mkS X (gup I 267 2 (iZ (e : Int))) J v) := by
  have hin : ∀ j, a ≤ j → j < e → j < n ∧ isDb (T j) = true := fun j x y => rn_in (a := a) j x (by rw [← he]; exact y)
  have hen := (hin (e - 1) (by omega) (by omega)).1
  intro k
  induction k with
  | zero =>
    intro m fuel I hm hf h h2 h10
    obtain ⟨f, rfl⟩ : ∃ n, fuel = n + 1 := ⟨fuel - 1, by omega⟩
    have hn := h.1.1
    unfold gX12_number_L51
    simp only [bO, o267, o267R, h2, h.2.1]
    by_cases c : 4 < e - a
    · have em : m = 4 := by omega
      subst em
      obtain ⟨q1, q2⟩ := hin (a + 4) (by omega) (by omega)
      rw [if_pos (by rw [iZ_lt (by omega) (by omega) (by omega) (by omega)]; omega), m_tx h q1]
      simp only [bO]
      rw [m_digit (h.1.2 _ q1).1, gb2_some, q2, if_neg (show ¬ tf true = 0 by decide)]
      simp only [bO, o267, h2, h10, iZ_sub]
      rw [if_pos (by rw [cL_eq (by omega) (by omega) (by decide)]; omega), if_pos c, gup_id h2]
    · have em : a + m = e := by omega
      rw [if_neg c, em, show m = e - a by omega]
      rw [gup_id (by rw [h2, em])]
      by_cases cn : e < n
      · rw [if_pos (by rw [iZ_lt (by omega) (by omega) (by omega) (by omega)]; omega), m_tx h cn]
        simp only [bO]
        have q : isDb (T e) = false := by
          cases z : isDb (T e)
          · rfl
          · exact absurd (show e < n ∧ isDb (T e) = true from ⟨cn, z⟩) (by rw [he]; exact rn_at a)
        rw [m_digit (h.1.2 _ cn).1, gb2_some, q, if_pos tf_f]
      · rw [if_neg (by rw [iZ_lt (by omega) (by omega) (by omega) (by omega)]; omega)]
  | succ k ih =>
    intro m fuel I hm hf h h2 h10
    obtain ⟨f, rfl⟩ : ∃ n, fuel = n + 1 := ⟨fuel - 1, by omega⟩
    have hn := h.1.1
    obtain ⟨q1, q2⟩ := hin (a + m) (by omega) (by omega)
    have hdg := isDb_r q2
    have hb := dv_le (T := T) (a := a) (m := m) (fun j hj => (isDb_r (hin (a + j) (by omega) (by omega)).2).2)
    have hb2 : dv T a m < 10000 := Nat.lt_of_lt_of_le hb (Nat.pow_le_pow_right (by decide) (show m ≤ 4 by omega))
    unfold gX12_number_L51
    simp only [bO, o267, o267R, h2, h.2.1]
    rw [if_pos (by rw [iZ_lt (by omega) (by omega) (by omega) (by omega)]; omega), m_tx h q1]
    simp only [bO]
    rw [m_digit (h.1.2 _ q1).1, gb2_some, q2, if_neg (show ¬ tf true = 0 by decide)]
    simp only [bO, o267, o267R, h2, h10, iZ_sub]
    rw [if_neg (by rw [cL_eq (by omega) (by omega) (by decide)]; omega), m_tx h q1]
    simp only [bO, o267, h2]
    rw [pR, iZ_add, sL, aL, show 10 * ((dv T a m : Nat) : Int) + ((T (a + m) : Nat) : Int) - 48 = ((dv T a (m + 1) : Nat) : Int) from by
      show _ = ((10 * dv T a m + (T (a + m) - 48) : Nat) : Int); omega, show ((a + m : Nat) : Int) + 1 = ((a + (m + 1) : Nat) : Int) by omega]
    rw [ih (m + 1) f (gup I 267 2 (iZ ((a + (m + 1) : Nat) : Int))) (by omega) (by omega) (mX_M h (frM_g (Or.inl rfl))) gup_s (by rw [gup_k (by decide)]; exact h10), gup_gup, gup_gup]
theorem m_number {I : Nat → Nat → Int32} {r : PS} {lo hi : Nat} (hlo : lo < 100000) (hhi : hi < 100000) (h : mX I T n) (hr : mO I T n r) : ∃ I' x, fX12_number 267 (iZ (lo : Int)) (iZ (hi : Int)) (mkS X I J v) = some (x, mkS X I' J v) ∧ frM I I' ∧ mO I' T n (pNum T n lo hi r) ∧ (pOk (pNum T n lo hi r) = true → x = iZ (pNumV T n r : Nat) ∧ I' 267 10 = iZ (pAt r : Nat)) ∧ (pOk (pNum T n lo hi r) = false → x = iZ (lo : Int)) := by
  have hn := h.1.1
  unfold fX12_number
  simp only [bO, o267]
  cases r with
  | error e =>
    rw [if_neg (mO_err hr rfl)]
    exact ⟨I, _, rfl, frM_r I, hr, (fun q => by cases q), fun _ => rfl⟩
  | ok s =>
    rw [if_pos hr.1]
    obtain ⟨a1, a2, a3⟩ := m_look (X := X) (J := J) (v := v) h hr
    have hc := pCh_r (s := s) h
    have h1 := mX_M h a3
    rw [a1, gb2_some, m_isDigit (by omega) (by omega), gb2_some, pCh_D]
    simp only [bO, o267, gup_s]
    have a2' := a2
    obtain ⟨h0, hs, p, q, e1, e2, e3, e4, e5, e6, e7, e8⟩ := a2
    rw [gup_s, iZ_eq (by omega) (by omega) (by omega) (by omega)] at e1
    rw [gup_k (show (4 : Nat) ≠ 2 by decide)] at e2
    rw [gup_k (show (4 : Nat) ≠ 2 by decide), e2]
    -- no number
    have bad : pNum T n lo hi (.ok s) = .error (1, s.1) → ∃ I' x, (gb2 (fX12_fail 267 1 (iZ (s.1 : Int)) (mkS X (gup I 267 2 (iZ (s.1 : Int))) J v)) fun (_ : Unit) s11 => some (iZ (lo : Int), s11)) = some (x, mkS X I' J v) ∧ frM I I' ∧ mO I' T n (pNum T n lo hi (.ok s)) ∧ (pOk (pNum T n lo hi (.ok s)) = true → x = iZ (pNumV T n (.ok s) : Nat) ∧ I' 267 10 = iZ (pAt (.ok s) : Nat)) ∧ (pOk (pNum T n lo hi (.ok s)) = false → x = iZ (lo : Int)) := by
      intro ep
      obtain ⟨I2, b1, b2, b3, -⟩ := m_fail (X := X) (J := J) (v := v) (f := 1) (p := s.1) (by decide) (by decide) a2'
      have b1' : fX12_fail 267 1 (iZ (s.1 : Int)) (mkS X (gup I 267 2 (iZ (s.1 : Int))) J v) = some ((), mkS X I2 J v) := b1
      rw [b1', ep]
      exact ⟨I2, _, rfl, frM_t a3 b2, b3, (fun q => by cases q), fun _ => rfl⟩
    have eN : pNum T n lo hi (.ok s) = if tkK T n s.1 s.2 = 2 then (if 4 < tkE T n s.1 - s.1 then .error (1, s.1 + 4) else if dv T s.1 (tkE T n s.1 - s.1) < lo ∨ hi < dv T s.1 (tkE T n s.1 - s.1) then .error (2, s.1) else pAdv T n (.ok s)) else .error (1, s.1) := rfl
    by_cases cd : s.1 < n ∧ isDb (T s.1) = true
    · rw [decide_eq_true cd.1, cd.2, if_neg (show ¬ tf (true && true) = 0 by decide)]
      have hl : isLb (T s.1) = false := by
        cases z : isLb (T s.1)
        · rfl
        · have := LD z; rw [cd.2] at this; cases this
      by_cases cq : q = s.1
      · rw [if_pos (by rw [cq])]
        refine bad ?_
        rw [eN, if_neg]
        unfold tkK
        rw [if_pos cd.1, hl, if_neg (by decide), if_pos cd.2, e7.mp cq]
        decide
      · rw [if_neg (by rw [iZ_eq (by omega) (by omega) (by omega) (by omega)]; omega)]
        have ht : s.2 = false := by
          cases z : s.2
          · rfl
          · exact absurd (e7.mpr z) cq
        have hk : tkK T n s.1 s.2 = 2 := by
          unfold tkK
          rw [if_pos cd.1, hl, if_neg (by decide), if_pos cd.2, ht]; rfl
        obtain ⟨t1, t2, t3, t4, t5⟩ := tk2 hk
        have hE := tkE_le (T := T) hs
        have hG := tkE_gt (T := T) cd.1
        have fr10 : frM I (gup (gup I 267 2 (iZ (s.1 : Int))) 267 10 (iZ (s.1 : Int))) := frM_t a3 (frM_g (by decide))
        have hL := m_numL (X := X) (J := J) (v := v) (T := T) (n := n) (x1 := iZ (lo : Int)) (x2 := iZ (hi : Int)) (k90 := fun s37 => (ggI s37 267 12 2).bind fun v38 => gb2 (gcv s37 267 12 (fX12_fail 267 1 v38 s37)) fun (_ : Unit) s40 => some (iZ (lo : Int), s40)) (k132 := fun y41 s42 => (ggI s42 267 12 2).bind fun v43 => (spI s42 267 12 4 v43).bind fun s44 => gb2 (fX12_isIn y41.toInt64 (iZ (lo : Int)).toInt64 (iZ (hi : Int)).toInt64 s44) fun r45 s46 => if r45 = 0 then (ggI s46 267 12 10).bind fun v52 => gb2 (gcv s46 267 12 (fX12_fail 267 2 v52 s46)) fun (_ : Unit) s54 => (ggI s54 267 12 5).bind fun v49 => if v49 = 0 then some (y41, s54) else some (iZ (lo : Int), s54) else (ggI s46 267 12 5).bind fun v49 => if v49 = 0 then some (y41, s46) else some (iZ (lo : Int), s46)) t4 hG (min (tkE T n s.1) (s.1 + 4) - s.1) 0 20000 (gup (gup I 267 2 (iZ (s.1 : Int))) 267 10 (iZ (s.1 : Int))) (by omega) (by omega) (mX_M h fr10) (by rw [gup_k (by decide), gup_s]; rfl) gup_s
        have hL' : gX12_number_L51 _ _ 267 (iZ (lo : Int)) (iZ (hi : Int)) 20000 0 (mkS X (gup (gup I 267 2 (iZ (s.1 : Int))) 267 10 (iZ (s.1 : Int))) J v) = _ := hL
        rw [hL']
        rw [eN, if_pos hk]
        have e5' : gup (gup I 267 2 (iZ (s.1 : Int))) 267 10 (iZ (s.1 : Int)) 267 5 = 0 := by rw [gup_k (by decide)]; exact h0
        by_cases c4 : 4 < tkE T n s.1 - s.1
        · rw [if_pos c4, if_pos c4]
          simp only [bO, o267, gup_s]
          have mo : mO (gup (gup (gup I 267 2 (iZ (s.1 : Int))) 267 10 (iZ (s.1 : Int))) 267 2 (iZ ((s.1 + 4 : Nat) : Int))) T n (.ok (s.1, s.2)) ∨ True := Or.inr trivial
          -- a failing that needs only 'bad = 0'
          refine ⟨gup (gup (gup (gup (gup I 267 2 (iZ (s.1 : Int))) 267 10 (iZ (s.1 : Int))) 267 2 (iZ ((s.1 + 4 : Nat) : Int))) 267 5 1) 267 6 (iZ ((s.1 + 4 : Nat) : Int)), iZ (lo : Int), ?_, ?_, ⟨by rw [gup_k (by decide), gup_s]; rfl, (show (1 : Nat) ≠ 0 by decide), (show (1 : Nat) < 10 by decide), gup_s⟩, (fun q => by cases q), fun _ => rfl⟩
          · unfold fX12_fail
            simp only [bO, o267]
            rw [gup_k (show (5 : Nat) ≠ 2 by decide), e5', if_pos rfl]
            simp only [bO]
          · exact frM_t fr10 (frM_t (frM_g (by decide)) (frM_t (frM_g (by decide)) (frM_g (by decide))))
        · rw [if_neg c4, if_neg c4]
          simp only [bO, o267, gup_s]
          have hb := dv_le (T := T) (a := s.1) (m := tkE T n s.1 - s.1) (fun j hj => (isDb_r (tk2_d hk (s.1 + j) (by omega) (by omega))).2)
          have hb2 : dv T s.1 (tkE T n s.1 - s.1) < 10000 := Nat.lt_of_lt_of_le hb (Nat.pow_le_pow_right (by decide) (show tkE T n s.1 - s.1 ≤ 4 by omega))
          rw [m_isIn, iZ_l (by omega) (by omega), iZ_l (by omega) (by omega), iZ_l (by omega) (by omega), gb2_some]
          generalize hdd : dv T s.1 (tkE T n s.1 - s.1) = d at hb2
          have fr12 : frM I (gup (gup (gup (gup I 267 2 (iZ (s.1 : Int))) 267 10 (iZ (s.1 : Int))) 267 2 (iZ (tkE T n s.1 : Nat))) 267 4 (iZ (tkE T n s.1 : Nat))) := frM_t fr10 (frM_t (frM_g (by decide)) (frM_g (by decide)))
          have f5 : gup (gup (gup (gup I 267 2 (iZ (s.1 : Int))) 267 10 (iZ (s.1 : Int))) 267 2 (iZ (tkE T n s.1 : Nat))) 267 4 (iZ (tkE T n s.1 : Nat)) 267 5 = 0 := by rw [gup_k (by decide), gup_k (by decide)]; exact e5'
          have f10 : gup (gup (gup (gup I 267 2 (iZ (s.1 : Int))) 267 10 (iZ (s.1 : Int))) 267 2 (iZ (tkE T n s.1 : Nat))) 267 4 (iZ (tkE T n s.1 : Nat)) 267 10 = iZ (s.1 : Int) := by rw [gup_k (by decide), gup_k (by decide), gup_s]
          by_cases cb : d < lo ∨ hi < d
          · rw [if_neg (show ¬ (((lo : Nat) : Int) ≤ ((d : Nat) : Int) ∧ ((d : Nat) : Int) ≤ ((hi : Nat) : Int)) by omega), if_pos rfl, if_pos cb]
            simp only [bO, o267, f10]
            refine ⟨gup (gup (gup (gup (gup (gup I 267 2 (iZ (s.1 : Int))) 267 10 (iZ (s.1 : Int))) 267 2 (iZ (tkE T n s.1 : Nat))) 267 4 (iZ (tkE T n s.1 : Nat))) 267 5 2) 267 6 (iZ (s.1 : Int)), iZ (lo : Int), ?_, frM_t fr12 (frM_t (frM_g (by decide)) (frM_g (by decide))), ⟨by rw [gup_k (by decide), gup_s]; rfl, (show (2 : Nat) ≠ 0 by decide), (show (2 : Nat) < 10 by decide), gup_s⟩, (fun q => by cases q), fun _ => rfl⟩
            unfold fX12_fail
            simp only [bO, o267]
            rw [f5, if_pos rfl]
            simp only [bO, o267]
            rw [gup_k (show (5 : Nat) ≠ 6 by decide), gup_s, if_neg (by decide)]
          · rw [if_pos (show (((lo : Nat) : Int) ≤ ((d : Nat) : Int) ∧ ((d : Nat) : Int) ≤ ((hi : Nat) : Int)) by omega), if_neg (by decide), if_neg cb]
            simp only [bO, o267]
            rw [f5, if_pos rfl]
            refine ⟨_, _, rfl, fr12, ?_, fun _ => ⟨by rw [← hdd]; rfl, f10⟩, fun z => by rw [pAdv_ok] at z; cases z⟩
            exact mO_behind a2' (Or.inr hk) (by rw [f5]; exact h0.symm) (by rw [gup_k (by decide), gup_s]) gup_s (by rw [gup_k (by decide), gup_k (by decide), gup_k (by decide)])
    · have ez : (decide (s.1 < n) && isDb (T s.1)) = false := by
        cases z : (decide (s.1 < n) && isDb (T s.1))
        · rfl
        · rw [Bool.and_eq_true, decide_eq_true_eq] at z; exact absurd z cd
      rw [ez, if_pos tf_f]
      refine bad ?_
      rw [eN, if_neg]
      intro z
      have := tk2 z
      exact cd ⟨this.1, this.2.2.1⟩
theorem m_takesSign {I : Nat → Nat → Int32} {r : PS} {c : Nat} (hc : c < 128) (hl : isLb c = false) (hd : isDb c = false) (h : mX I T n) (hr : mO I T n r) : ∃ I', fX12_takesSign 267 (iZ (c : Int)) (mkS X I J v) = some (tf (pSign T n c r), mkS X I' J v) ∧ frM I I' ∧ mO I' T n (if pSign T n c r = true then pAdv T n r else r) ∧ (pSign T n c r = false → mAt I' r) ∧ ∀ k, k ≠ 2 → I' 267 k = I 267 k := by
  have hn := h.1.1
  unfold fX12_takesSign gX12_takesSign
  simp only [bO, o267]
  cases r with
  | error e =>
    rw [if_neg (mO_err hr rfl)]
    exact ⟨I, rfl, frM_r I, hr, fun _ => trivial, fun _ _ => rfl⟩
  | ok s =>
    rw [if_pos hr.1]
    obtain ⟨a1, a2, a3⟩ := m_look (X := X) (J := J) (v := v) h hr
    have hcr := pCh_r (s := s) h
    rw [a1, gb2_some]
    simp only [bO, o267, gup_s]
    have e : pSign T n c (.ok s) = (decide (s.1 < n) && T s.1 == c) := rfl
    have ek : (iZ (pCh T n s) = iZ (c : Int)) ↔ (decide (s.1 < n) && T s.1 == c) = true := by
      rw [iZ_eq (by omega) (by omega) (by omega) (by omega), Bool.and_eq_true, decide_eq_true_eq, beq_iff_eq]
      unfold pCh
      by_cases z : s.1 < n
      · rw [if_pos z]; omega
      · rw [if_neg z]; omega
    rw [e]
    cases hq : (decide (s.1 < n) && T s.1 == c) with
    | false =>
      rw [if_neg (fun z => by rw [ek.mp z] at hq; cases hq), if_neg (by decide)]
      exact ⟨_, rfl, a3, a2, fun _ => gup_s, fun k hk => gup_k hk⟩
    | true =>
      rw [if_pos (ek.mpr hq), if_pos rfl, aL, show (s.1 : Int) + 1 = ((s.1 + 1 : Nat) : Int) by omega, gup_gup]
      rw [Bool.and_eq_true, decide_eq_true_eq, beq_iff_eq] at hq
      obtain ⟨h0, hs, p, q, e1, e2, e3, e4, e5, e6, e7, e8⟩ := a2
      rw [gup_s, iZ_eq (by omega) (by omega) (by omega) (by omega)] at e1
      rw [gup_k (show (4 : Nat) ≠ 2 by decide)] at e2
      refine ⟨_, rfl, frM_g (Or.inl rfl), ?_, (fun z => by cases z), fun k hk => gup_k hk⟩
      have ekd : tkK T n s.1 s.2 = 3 := by unfold tkK; rw [if_pos hq.1, hq.2, hl, hd]; rfl
      have ee : tkE T n s.1 = s.1 + 1 := by unfold tkE; rw [if_pos hq.1, hq.2, hl, hd]; rfl
      show mO _ T n (pGo T n (tkE T n s.1) (tkK T n s.1 s.2 == 1 || tkK T n s.1 s.2 == 2))
      rw [ekd, ee]
      have g := rn_ge (T := T) (n := n) (P := isBb) (s.1 + 1)
      refine ⟨by rw [gup_k (by decide)]; exact hr.1, rn_le (by omega), s.1 + 1, q, gup_s, by rw [gup_k (by decide)]; exact e2, e3, by omega, g, rfl, ?_, by rw [gup_k (by decide)]; rw [gup_k (by decide)] at e8; exact e8⟩
      constructor
      · intro z
        have z' : q = ((rn T n isBb (s.1 + 1) : Nat) : Int) := z
        omega
      · intro z
        have z' : (false && rn T n isBb (s.1 + 1) == s.1 + 1) = true := z
        cases z'
theorem m_asksSign {I : Nat → Nat → Int32} {r : PS} {c : Nat} (hc : c < 128) (hl : isLb c = false) (hd : isDb c = false) (h : mX I T n) (hr : mO I T n r) : ∃ I', fX12_asksSign 267 (iZ (c : Int)) (mkS X I J v) = some ((), mkS X I' J v) ∧ frM I I' ∧ mO I' T n (pPass T n (pSign T n c r) r) := by
  unfold fX12_asksSign
  simp only [bO, o267]
  cases hok : pOk r with
  | false =>
    rw [if_neg (mO_err hr hok)]
    refine ⟨I, rfl, frM_r I, ?_⟩
    cases r with
    | ok s => cases hok
    | error e => exact hr
  | true =>
    rw [if_pos (mO_ok hr hok)]
    obtain ⟨I1, a1, a2, a3, a4, -⟩ := m_takesSign (X := X) (J := J) (v := v) hc hl hd h hr
    rw [a1, gb2_some]
    simp only [bO, o267]
    unfold pPass
    cases c : pSign T n c r with
    | true =>
      rw [if_neg (show ¬ tf true = 0 by decide), if_pos rfl]
      rw [c, if_pos rfl] at a3
      exact ⟨I1, rfl, a2, a3⟩
    | false =>
      rw [if_pos tf_f, if_neg (by decide)]
      rw [c, if_neg (by decide)] at a3
      obtain ⟨I2, b1, b2, b3⟩ := m_failS (X := X) (J := J) (v := v) (f := 1) (by decide) (by decide) a3 (a4 c)
      have b1' : fX12_fail 267 1 (I1 267 2) (mkS X I1 J v) = some ((), mkS X I2 J v) := b1
      rw [b1']
      exact ⟨I2, rfl, frM_t a2 b2, b3⟩
/-! dates -/
theorem pNum_lim {r : PS} {lm : Nat} (h2 : lm ≤ 31) : pNum T n 1 lm r = if pOk (pNum T n 1 31 r) = true ∧ lm < pNumV T n r then .error (2, pAt r) else pNum T n 1 31 r := by
  cases r with
  | error e => rw [if_neg (fun q => by cases q.1)]; rfl
  | ok s =>
    unfold pNum pNumV
    dsimp only
    show _ = if _ ∧ _ then Except.error (2, s.1) else _
    by_cases c : tkK T n s.1 s.2 = 2
    · simp only [if_pos c]
      by_cases c4 : 4 < tkE T n s.1 - s.1
      · simp only [if_pos c4]
        rw [if_neg (fun q => by cases q.1)]
      · simp only [if_neg c4]
        generalize dv T s.1 (tkE T n s.1 - s.1) = d
        by_cases c1 : d < 1 ∨ 31 < d
        · simp only [if_pos c1]
          rw [if_pos (by omega), if_neg (fun q => by cases q.1)]
        · simp only [if_neg c1]
          rw [pAdv_ok]
          by_cases c2 : lm < d
          · rw [if_pos (by omega), if_pos ⟨rfl, c2⟩]
          · rw [if_neg (by omega), if_neg (fun q => c2 q.2)]
    · simp only [if_neg c]
      rw [if_neg (fun q => by cases q.1)]
theorem m_date {I : Nat → Nat → Int32} {r : PS} (h : mX I T n) (hr : mO I T n r) (hcal : I 267 17 = 1 ∧ calOK I) : ∃ I' x, fX12_date 267 (mkS X I J v) = some (x, mkS X I' J v) ∧ frM I I' ∧ mO I' T n (pDate T n r) ∧ (pOk (pDate T n r) = true → x = iZ (pDateV T n r : Nat)) := by
  obtain ⟨I1, x1, a1, a2, a3, a4, a5⟩ := m_number (X := X) (J := J) (v := v) (lo := 2000) (hi := 2039) (by decide) (by decide) h hr
  have h1 := mX_M h a2
  obtain ⟨I2, b1, b2, b3⟩ := m_asksSign (X := X) (J := J) (v := v) (c := 45) (by decide) rfl rfl h1 a3
  have h2 := mX_M h1 b2
  obtain ⟨I3, x3, c1, c2, c3, c4, c5⟩ := m_number (X := X) (J := J) (v := v) (lo := 1) (hi := 12) (by decide) (by decide) h2 b3
  have h3 := mX_M h2 c2
  obtain ⟨I4, d1, d2, d3⟩ := m_asksSign (X := X) (J := J) (v := v) (c := 45) (by decide) rfl rfl h3 c3
  have h4 := mX_M h3 d2
  obtain ⟨I5, x5, e1, e2, e3, e4, e5⟩ := m_number (X := X) (J := J) (v := v) (lo := 1) (hi := 31) (by decide) (by decide) h4 d3
  have fr5 : frM I I5 := frM_t a2 (frM_t b2 (frM_t c2 (frM_t d2 e2)))
  have q3 : cO (fun _ _ => 0) T n (.ok (0, false)) ∨ True := Or.inr trivial
  have e3' : mO I5 T n (pNum T n 1 31 (pD4 T n r)) := e3
  have e4' : pOk (pNum T n 1 31 (pD4 T n r)) = true → x5 = iZ (pNumV T n (pD4 T n r) : Nat) ∧ I5 267 10 = iZ (pAt (pD4 T n r) : Nat) := e4
  unfold fX12_date
  simp only [o267]
  have a1' : fX12_number 267 2000 2039 (mkS X I J v) = some (x1, mkS X I1 J v) := a1
  have b1' : fX12_asksSign 267 45 (mkS X I1 J v) = some ((), mkS X I2 J v) := b1
  have c1' : fX12_number 267 1 12 (mkS X I2 J v) = some (x3, mkS X I3 J v) := c1
  have d1' : fX12_asksSign 267 45 (mkS X I3 J v) = some ((), mkS X I4 J v) := d1
  have e1' : fX12_number 267 1 31 (mkS X I4 J v) = some (x5, mkS X I5 J v) := e1
  rw [a1']
  simp only [bO, o267]
  rw [b1']
  simp only [bO, o267]
  rw [c1']
  simp only [bO, o267]
  rw [d1']
  simp only [bO, o267]
  rw [e1']
  simp only [bO, o267]
  have hc5 : I5 267 17 = 1 ∧ calOK I5 := ⟨by rw [fr5.2 17 (by decide) (by decide) (by decide) (by decide) (by decide) (by decide)]; exact hcal.1, calOK_Y hcal.2 (fun r k x y => fr5.1 r k (by omega))⟩
  have hlm := cLm_r (pNumV T n r - 2000) (pNumV T n (pD2 T n r))
  have eD : pDate T n r = if pOk (pNum T n 1 31 (pD4 T n r)) = true ∧ cLm (pNumV T n r - 2000) (pNumV T n (pD2 T n r)) < pNumV T n (pD4 T n r) then .error (2, pAt (pD4 T n r)) else pNum T n 1 31 (pD4 T n r) := pNum_lim (by omega)
  cases hok : pOk (pNum T n 1 31 (pD4 T n r)) with
  | false =>
    rw [if_neg (mO_err e3' hok)]
    rw [hok] at eD
    rw [if_neg (show ¬ (false = true ∧ _) from fun q => by cases q.1)] at eD
    rw [if_neg (mO_err e3' hok), eD]
    exact ⟨I5, _, rfl, fr5, e3', fun q => by rw [hok] at q; cases q⟩
  | true =>
    obtain ⟨g4, g5, g6, -⟩ := pNum_ok hok
    obtain ⟨g0, y1, y2, m1, m2, o1, o3⟩ := pDate_in g4
    have hx1 : x1 = iZ ((2000 + (pNumV T n r - 2000) : Nat) : Int) := by
      have e0 : 2000 + (pNumV T n r - 2000) = pNumV T n r := by omega
      rw [(a4 o1).1, e0]
    have hx3 : x3 = iZ (pNumV T n (pD2 T n r) : Nat) := (c4 o3).1
    obtain ⟨hx5, hx10⟩ := e4' hok
    rw [if_pos (mO_ok e3' hok), hx1, hx3, m_longMonth (by omega) (by omega), gb2_some, hx5]
    simp only [bO, o267]
    rw [hok] at eD
    by_cases cl : cLm (pNumV T n r - 2000) (pNumV T n (pD2 T n r)) < pNumV T n (pD4 T n r)
    · rw [if_pos (by rw [iZ_lt (by omega) (by omega) (by omega) (by omega)]; omega), hx10]
      rw [if_pos ⟨rfl, cl⟩] at eD
      obtain ⟨I6, f1, f2, f3, -⟩ := m_fail (X := X) (J := J) (v := v) (f := 2) (p := pAt (pD4 T n r)) (by decide) (by decide) e3'
      have f1' : fX12_fail 267 2 (iZ (pAt (pD4 T n r) : Nat)) (mkS X I5 J v) = some ((), mkS X I6 J v) := f1
      rw [f1']
      simp only [bO, o267]
      rw [pFail_ok hok] at f3
      rw [if_neg (mO_err f3 rfl), eD]
      exact ⟨I6, _, rfl, frM_t fr5 f2, f3, fun q => by cases q⟩
    · rw [if_neg (by rw [iZ_lt (by omega) (by omega) (by omega) (by omega)]; omega)]
      rw [if_neg (fun q => cl q.2)] at eD
      rw [if_pos (mO_ok e3' hok), m_dayOf (Or.inr hc5) (by omega) (by omega) (by omega) (by omega) (by omega) (by omega), gb2_some, laid_id hc5.1, eD]
      have ey : (((2000 + (pNumV T n r - 2000) : Nat) : Int) - 2000).toNat = pNumV T n r - 2000 := by omega
      have ecd : cDay ((2000 + (pNumV T n r - 2000) : Nat) : Int) ((pNumV T n (pD2 T n r) : Nat) : Int) ((pNumV T n (pD4 T n r) : Nat) : Int) = ((pDateV T n r : Nat) : Int) := by
        unfold cDay pDateV
        rw [ey, Int.toNat_natCast, cLn_cLm _ (by omega) _ (by omega) m1, if_pos ⟨by omega, by omega, by omega, by omega⟩]
        omega
      rw [ecd]
      exact ⟨I5, _, rfl, fr5, e3', fun _ => rfl⟩
theorem m_place {I : Nat → Nat → Int32} {r : PS} {most : Nat} (hm : most < 1000) (h : mX I T n) (hr : mO I T n r) : ∃ I' x, fX12_place 267 (iZ (most : Int)) (mkS X I J v) = some (x, mkS X I' J v) ∧ frM I I' ∧ mO I' T n (pNum T n 1 most (if pBack T n r = true then pAdv T n r else r)) ∧ (pOk (pNum T n 1 most (if pBack T n r = true then pAdv T n r else r)) = true → x = iZ (if pBack T n r = true then -((pNumV T n (if pBack T n r = true then pAdv T n r else r) : Nat) : Int) else ((pNumV T n (if pBack T n r = true then pAdv T n r else r) : Nat) : Int))) := by
  unfold fX12_place
  simp only [o267]
  obtain ⟨I1, a1, a2, a3, a4, -⟩ := m_takesSign (X := X) (J := J) (v := v) (c := 45) (by decide) rfl rfl h hr
  have a1' : fX12_takesSign 267 45 (mkS X I J v) = some (tf (pBack T n r), mkS X I1 J v) := a1
  have a3' : mO I1 T n (if pBack T n r = true then pAdv T n r else r) := a3
  rw [a1']
  simp only [bO, o267]
  obtain ⟨I2, x, b1, b2, b3, b4, b5⟩ := m_number (X := X) (J := J) (v := v) (lo := 1) (hi := most) (by decide) (by omega) (mX_M h a2) a3'
  have b1' : fX12_number 267 1 (iZ (most : Int)) (mkS X I1 J v) = some (x, mkS X I2 J v) := b1
  rw [b1']
  simp only [bO]
  cases hb : pBack T n r with
  | true =>
    rw [hb] at b3 b4
    rw [if_neg (show ¬ tf true = 0 by decide)]
    refine ⟨I2, _, rfl, frM_t a2 b2, b3, fun q => ?_⟩
    rw [(b4 q).1, iZ_neg]
    simp only [if_pos]
  | false =>
    rw [hb] at b3 b4
    rw [if_pos tf_f]
    refine ⟨I2, _, rfl, frM_t a2 b2, b3, fun q => ?_⟩
    rw [(b4 q).1]
    simp only [if_neg (show ¬ false = true by decide)]
theorem m_room {I : Nat → Nat → Int32} {s : Nat × Bool} {k : Nat} (hk : k ≤ 8) (h : mX I T n) (hr : mO I T n (.ok s)) : ∃ I', fX12_room 267 (iZ (k : Int)) (mkS X I J v) = some ((), mkS X I' J v) ∧ frM I I' ∧ mO I' T n (if k = 8 then pNot (if pKd T n (.ok s) = 0 then 1 else 5) (.ok s) else .ok s) ∧ I' 267 2 = iZ (s.1 : Int) := by
  have hn := h.1.1
  unfold fX12_room
  simp only [o267]
  obtain ⟨a1, a2, a3⟩ := m_look (X := X) (J := J) (v := v) h hr
  have h1 := mX_M h a3
  rw [a1]
  simp only [bO, o267, gup_s, h1.2.1]
  by_cases c : k = 8
  · rw [if_pos (by rw [c]; rfl), if_pos c]
    have hs := a2.2.1
    have ek : pKd T n (.ok s) = 0 ↔ ¬ s.1 < n := by
      show tkK T n s.1 s.2 = 0 ↔ _
      unfold tkK
      constructor
      · intro q z
        rw [if_pos z] at q
        split at q
        · split at q <;> omega
        · split at q
          · split at q <;> omega
          · omega
      · intro q; rw [if_neg q]
    by_cases c2 : pKd T n (.ok s) = 0
    · rw [if_pos (show iZ (s.1 : Int) = iZ (n : Int) by have := ek.mp c2; rw [show s.1 = n by omega]), if_pos c2]
      obtain ⟨I2, b1, b2, b3, b4⟩ := m_fail (X := X) (J := J) (v := v) (f := 1) (p := s.1) (by decide) (by decide) a2
      have b1' : fX12_fail 267 1 (iZ (s.1 : Int)) (mkS X (gup I 267 2 (iZ (s.1 : Int))) J v) = some ((), mkS X I2 J v) := b1
      rw [b1']
      exact ⟨I2, rfl, frM_t a3 b2, b3, by rw [b4 2 (by decide) (by decide), gup_s]⟩
    · rw [if_neg (show ¬ iZ (s.1 : Int) = iZ (n : Int) by rw [iZ_eq (by omega) (by omega) (by omega) (by omega)]; intro q; exact c2 (ek.mpr (by omega))), if_neg c2]
      obtain ⟨I2, b1, b2, b3, b4⟩ := m_fail (X := X) (J := J) (v := v) (f := 5) (p := s.1) (by decide) (by decide) a2
      have b1' : fX12_fail 267 5 (iZ (s.1 : Int)) (mkS X (gup I 267 2 (iZ (s.1 : Int))) J v) = some ((), mkS X I2 J v) := b1
      rw [b1']
      exact ⟨I2, rfl, frM_t a3 b2, b3, by rw [b4 2 (by decide) (by decide), gup_s]⟩
  · rw [if_neg (by rw [cL_eq (by omega) (by omega) (by decide)]; omega), if_neg c]
    exact ⟨_, rfl, a3, a2, gup_s⟩
end gMn
