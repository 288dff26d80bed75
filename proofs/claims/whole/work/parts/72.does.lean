/-! CODES: the reference's, and what they are in steps of the stack -/
def tr (o : Nat × Nat) : List (Nat × Nat) := if o.1 = 1 then [(1, 0), (2, o.2)] else [o]
def crun (K : Nat → Nat → Bool) (L : List (Nat × Nat)) (s : Nat × (Nat → Nat → Bool)) : Nat × (Nat → Nat → Bool) := L.foldl (fun s o => cx K o s) s
def trL (M : List (Nat × Nat)) : List (Nat × Nat) := M.flatMap tr
def mxok (o : Nat × Nat) (n : Nat) : Prop := (o.1 = 1 → n < 15 ∧ o.2 < 14610 ∧ n ≤ 15) ∧ (o.1 ≠ 1 → cxok o n)
theorem mstk_c {I : Nat → Nat → Int32} {n i : Nat} {st : Nat → Nat → Bool} {P Q : Nat → Bool} (h : mstk I (n, fup st i P)) (e : ∀ d, d < 14610 → P d = Q d) : mstk I (n, fup st i Q) := by
  refine ⟨h.1, fun j hj d hd => ?_⟩
  rw [h.2 j hj d hd]
  dsimp only
  by_cases c : j = i
  · rw [c, fup_s, fup_s, e d hd]
  · rw [fup_o c, fup_o c]
section gDo
variable {X : Nat × (Nat → Int32)} {J : Nat → Nat → Int64} {v : Vt} {I : Nat → Nat → Int32}
theorem m_does {K : Nat → Nat → Bool} {o : Nat × Nat} {s : Nat × (Nat → Nat → Bool)} (h : mstk I s) (hok : mxok o s.1) (hK : o.1 = 0 ∨ o.1 = 8 → ∀ d, d < 14610 → I 282 (14610 * o.2 + d) = tf (K o.2 d)) : ∃ I', fX12_does 267 (iZ (o.1 : Int)) (iZ (o.2 : Int)) (mkS X I J v) = some ((), mkS X I' J v) ∧ frD I I' ∧ mstk I' (crun K (tr o) s) := by
  obtain ⟨op, ar⟩ := o
  obtain ⟨n, st⟩ := s
  have hI := h.1
  dsimp only at hI
  unfold fX12_does
  simp only [m_c]
  have keep : ∀ {I' : Nat → Nat → Int32} {P : Nat → Bool}, wrR 285 (14610 * (n - 1)) 0 I I' P → mstk I' (n, fup st (n - 1) P) := by
    intro I' P w
    have := mstk_up (n := n) h w (Or.inl (Nat.le_refl n))
    rw [gup_id (by rw [w.1 267 34 (by decide)]; exact hI)] at this
    exact this
  by_cases c1 : op = 1
  · subst c1
    obtain ⟨h1, h2, h3⟩ := hok.1 rfl
    dsimp only at h1 h2 h3
    rw [if_neg (by decide), if_pos (by decide)]
    unfold fX12_putsDay
    obtain ⟨I', r1, r2⟩ := m_putsDayL (X := X) (J := J) (v := v) (n := n) (w := ar) (by omega) h2 14610 0 20000 I (by decide) (by decide) hI
    rw [show (0 : Int32) = iZ ((0 : Nat) : Int) from rfl, r1]
    refine ⟨_, rfl, frD_t (frD_X r2.1) frD_g, ?_⟩
    have := mstk_up (n := n + 1) h r2 (Or.inr ⟨rfl, rfl⟩)
    show mstk _ (n + 1, fup (fup st n (fun _ => false)) n (fun d => fup st n (fun _ => false) n d || decide (d = ar)))
    refine ⟨this.1, fun j hj d hd => ?_⟩
    have q := this.2 j hj d hd
    rw [q]
    dsimp only
    by_cases c : j = n
    · rw [c, fup_s, fup_s, fup_s]; rfl
    · rw [fup_o c, fup_o c, fup_o c]
  · obtain ⟨k1, k2, k3, k4, k5, k6, k7, k8⟩ := hok.2 c1
    dsimp only at k1 k2 k3 k4 k5 k6 k7 k8 hK ⊢
    have hne : ∀ m : Nat, m < 16 → op ≠ m → ¬ iZ (op : Int) = iZ (m : Int) := fun m hm hq => by rw [iZ_eq (by omega) (by omega) (by omega) (by omega)]; omega
    have etr : crun K (tr (op, ar)) (n, st) = cx K (op, ar) (n, st) := by
      unfold tr
      rw [if_neg c1]; rfl
    rw [etr]
    by_cases c0 : op = 0
    · subst c0
      rw [if_pos (by decide)]
      have hw := k7 (Or.inl rfl)
      unfold fX12_puts
      obtain ⟨I', r1, r2⟩ := m_putsL (X := X) (J := J) (v := v) (n := n) (w := ar) (P := K ar) (by have := k2 (by decide); omega) hw 14610 0 20000 I (by decide) (by decide) hI (hK (Or.inl rfl))
      rw [show (0 : Int32) = iZ ((0 : Nat) : Int) from rfl, r1]
      exact ⟨_, rfl, frD_t (frD_X r2.1) frD_g, mstk_up (n := n + 1) h r2 (Or.inr ⟨rfl, rfl⟩)⟩
    · rw [if_neg (show ¬ iZ (op : Int) = 0 from hne 0 (by decide) c0), if_neg (show ¬ iZ (op : Int) = 1 from hne 1 (by decide) c1)]
      have hn1 : 1 ≤ n := k3 (by omega)
      have hP := h.2 (n - 1) (by dsimp only; omega)
      dsimp only at hP
      by_cases c2 : op = 2
      · subst c2
        rw [if_pos (by decide)]
        have ha := k5 rfl
        simp only [bO, o267, o267R, hI, sL, pR, iZ_add]
        rw [show (14610 : Int) * ((n : Int) - 1) + (ar : Int) = ((14610 * (n - 1) + ar : Nat) : Int) by omega, b285 _ _ _ _ _ _ (by omega)]
        simp only [bO]
        refine ⟨_, rfl, frD_X frX_g, ?_⟩
        show mstk _ (n, fup st (n - 1) (fun d => st (n - 1) d || decide (d = ar)))
        constructor
        · rw [gup_r (by decide)]; exact hI
        · intro j hj d hd
          dsimp only at hj ⊢
          by_cases c : j = n - 1
          · rw [c, fup_s]
            by_cases q : d = ar
            · rw [q, gup_s, decide_eq_true rfl]; rw [Bool.or_true]; decide
            · rw [gup_k (by omega), hP d hd, decide_eq_false q]; simp
          · rw [fup_o c, gup_k (by omega)]
            exact h.2 j hj d hd
      · rw [if_neg (show ¬ iZ (op : Int) = 2 from hne 2 (by decide) c2)]
        have joinR : 3 ≤ op ∧ op ≤ 5 → ∃ I', (gb2 (fX12_joinsTop 267 (iZ (op : Int)) (mkS X I J v)) fun (_ : Unit) s13 => some ((), s13)) = some ((), mkS X I' J v) ∧ frD I I' ∧ mstk I' (n - 1, fup st (n - 2) (fun d => jn op (st (n - 2) d) (st (n - 1) d))) := by
          intro ho
          have h2 := k4 (by omega) (by omega)
          unfold fX12_joinsTop
          simp only [bO, o267, hI, sL, gup_s, pR]
          obtain ⟨I', r1, r2⟩ := m_joinL (X := X) (J := J) (v := v) (op := op) (n := n - 2) (P := st (n - 2)) (Q := st (n - 1)) ho (by omega) 14610 0 20000 (gup I 267 34 (iZ ((n : Int) - 1))) (by decide) (by decide) (fun e _ he => by rw [gup_r (by decide)]; exact h.2 (n - 2) (by dsimp only; omega) e he) (fun e he => by rw [gup_r (by decide), show n - 2 + 1 = n - 1 by omega]; exact hP e he)
          rw [show (14610 : Int) * ((n : Int) - 1 - 1) = ((14610 * (n - 2) : Nat) : Int) by omega, show (14610 : Int) * ((n : Int) - 1) = ((14610 * (n - 2 + 1) : Nat) : Int) by omega, show (0 : Int32) = iZ ((0 : Nat) : Int) from rfl, r1]
          refine ⟨I', rfl, frD_t frD_g (frD_X r2.1), ?_⟩
          constructor
          · rw [r2.1 267 34 (by decide), gup_s]
            congr 1
            dsimp only; omega
          · intro j hj d hd
            dsimp only at hj ⊢
            by_cases c : j = n - 2
            · rw [c, fup_s, r2.2.2 d (Nat.zero_le d) hd]
            · rw [fup_o c, r2.2.1 _ (by omega), gup_r (by decide)]
              exact h.2 j (by dsimp only; omega) d hd
        by_cases c3 : op = 3
        · subst c3
          rw [if_pos (by decide)]
          exact joinR (by decide)
        · rw [if_neg (show ¬ iZ (op : Int) = 3 from hne 3 (by decide) c3)]
          by_cases c4 : op = 4
          · subst c4
            rw [if_pos (by decide)]
            exact joinR (by decide)
          · rw [if_neg (show ¬ iZ (op : Int) = 4 from hne 4 (by decide) c4)]
            by_cases c5 : op = 5
            · subst c5
              rw [if_pos (by decide)]
              exact joinR (by decide)
            · rw [if_neg (show ¬ iZ (op : Int) = 5 from hne 5 (by decide) c5)]
              have moveR : ∀ z : Int, -100 ≤ z → z ≤ 100 → ∃ I', (gb2 (fX12_movesTop 267 (iZ z) (mkS X I J v)) fun (_ : Unit) s13 => some ((), s13)) = some ((), mkS X I' J v) ∧ frD I I' ∧ mstk I' (n, fup st (n - 1) (fun e => decide (0 ≤ (e : Int) - z ∧ (e : Int) - z < 14610) && st (n - 1) ((e : Int) - z).toNat)) := by
                intro z z1 z2
                unfold fX12_movesTop
                simp only [bO, o267, hI, sL, pR]
                obtain ⟨I1, a1, a2⟩ := m_asideL (X := X) (J := J) (v := v) (K := fun s9 => gX12_movesTop_L42 267 (iZ z) (iZ ((14610 * (n - 1) : Nat) : Int)) 20000 0 s9) (x1 := iZ z) (n := n - 1) (P := st (n - 1)) (by omega) 14610 0 20000 I (by decide) (by decide) hP
                obtain ⟨I2, b1, b2⟩ := m_moveL (X := X) (J := J) (v := v) (z := z) (n := n - 1) (P := st (n - 1)) (by omega) z1 z2 14610 0 20000 I1 (by decide) (by decide) (fun e he => by have := a2.2.2 e (Nat.zero_le e) he; rw [Nat.zero_add] at this; exact this)
                rw [show (14610 : Int) * ((n : Int) - 1) = ((14610 * (n - 1) : Nat) : Int) by omega]
                refine ⟨I2, ?_, frD_t (frD_Y a2.1) (frD_X b2.1), ?_⟩
                · rw [show (0 : Int32) = iZ ((0 : Nat) : Int) from rfl] at a1 ⊢
                  rw [a1, b1]; rfl
                · constructor
                  · rw [b2.1 267 34 (by decide), a2.1 267 34 (by decide)]; exact hI
                  · intro j hj d hd
                    dsimp only at hj ⊢
                    by_cases c : j = n - 1
                    · rw [c, fup_s, b2.2.2 d (Nat.zero_le d) hd]
                    · rw [fup_o c, b2.2.1 _ (by omega), a2.1 285 _ (by decide)]
                      exact h.2 j hj d hd
              by_cases c6 : op = 6
              · subst c6
                rw [if_pos (by decide)]
                have ha := k6 (by decide) (by decide)
                obtain ⟨I', r1, r2, r3⟩ := moveR (ar : Int) (by omega) (by omega)
                refine ⟨I', r1, r2, mstk_c r3 (fun d hd => ?_)⟩
                show _ = (decide (ar ≤ d) && st (n - 1) (d - ar))
                by_cases q : ar ≤ d
                · rw [decide_eq_true (show 0 ≤ (d : Int) - (ar : Int) ∧ (d : Int) - (ar : Int) < 14610 by omega), decide_eq_true q, show ((d : Int) - (ar : Int)).toNat = d - ar by omega]
                · rw [decide_eq_false (show ¬ (0 ≤ (d : Int) - (ar : Int) ∧ (d : Int) - (ar : Int) < 14610) by omega), decide_eq_false q]; rfl
              · rw [if_neg (show ¬ iZ (op : Int) = 6 from hne 6 (by decide) c6)]
                by_cases c7 : op = 7
                · subst c7
                  rw [if_pos (by decide), iZ_neg]
                  have ha := k6 (by decide) (by decide)
                  obtain ⟨I', r1, r2, r3⟩ := moveR (-(ar : Int)) (by omega) (by omega)
                  refine ⟨I', r1, r2, mstk_c r3 (fun d hd => ?_)⟩
                  show _ = (decide (d + ar < 14610) && st (n - 1) (d + ar))
                  by_cases q : d + ar < 14610
                  · rw [decide_eq_true (show 0 ≤ (d : Int) - -(ar : Int) ∧ (d : Int) - -(ar : Int) < 14610 by omega), decide_eq_true q, show ((d : Int) - -(ar : Int)).toNat = d + ar by omega]
                  · rw [decide_eq_false (show ¬ (0 ≤ (d : Int) - -(ar : Int) ∧ (d : Int) - -(ar : Int) < 14610) by omega), decide_eq_false q]; rfl
                · have c8 : op = 8 := by omega
                  subst c8
                  rw [if_neg (by decide), if_pos (by decide)]
                  unfold fX12_goesOff
                  simp only [bO, o267, hI, sL, pR]
                  obtain ⟨I', r1, r2⟩ := m_offL (X := X) (J := J) (v := v) (n := n - 1) (w := ar) (P := st (n - 1)) (Q := K ar) (by omega) (k7 (Or.inr rfl)) 14610 0 20000 I (by decide) (by decide) (fun e _ he => hP e he) (hK (Or.inr rfl))
                  rw [show (14610 : Int) * ((n : Int) - 1) = ((14610 * (n - 1) : Nat) : Int) by omega]
                  refine ⟨I', ?_, frD_X r2.1, keep r2⟩
                  have e0 : gX12_goesOff_L16 267 (iZ (ar : Int)) (iZ ((14610 * (n - 1) : Nat) : Int)) 20000 0 0 (mkS X I J v) = some ((), mkS X I' J v) := r1
                  rw [e0]; rfl
end gDo
