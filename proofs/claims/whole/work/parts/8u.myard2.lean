/-! SUMS of the reference: as they are read -/
section gMz
variable (X : Nat × (Nat → Int32)) (J : Nat → Nat → Int64) (v : Vt) (T : Nat → Nat) (n nR nS : Nat) (nm : Nat → List Nat) (k0 : Nat)
def tGo (d : Nat) (F : PS → List (Nat × Nat) × PS) (sb : Nat) (stop : List Nat → Prop) (QP : List Nat → Prop) (M : Nat → Nat → gH → Option (Unit × gH)) (gb : Nat) : Prop :=
  ∀ (I : Nat → Nat → Int32) (s : Nat × Bool) (S : List Nat) (C : List (Nat × Nat)) (fu : Nat), cfg T n nR nS nm k0 I (.ok s) S (6 - d) C → 2 * (k0 + C.length + ops S) + pDl T n (.ok s) ≤ s.1 → S.length ≤ 3 * (6 - d) + sb → stop S → n + 3 ≤ fu + s.1 →
    (pOk (F (.ok s)).2 = true → ∃ (I' : Nat → Nat → Int32) (fu' gf' : Nat) (Q : List Nat) (C' : List (Nat × Nat)), gX12_sumTold_L23 267 fu 1 (mkS X I J v) = M fu' gf' (mkS X I' J v) ∧ frV k0 I I' ∧ cfg T n nR nS nm k0 I' (F (.ok s)).2 (S ++ Q.reverse) (6 - d) C' ∧ C' ++ Q.map opc = C ++ (F (.ok s)).1 ∧ QP Q ∧ n + 3 ≤ fu' + pAt (F (.ok s)).2 ∧ n + gb ≤ gf' + pAt (F (.ok s)).2) ∧
    (pOk (F (.ok s)).2 = false → ∃ I' : Nat → Nat → Int32, gX12_sumTold_L23 267 fu 1 (mkS X I J v) = some ((), mkS X I' J v) ∧ frV k0 I I' ∧ mO I' T n (F (.ok s)).2)
end gMz
section gMw2
variable {X : Nat × (Nat → Int32)} {J : Nat → Nat → Int64} {v : Vt} {T : Nat → Nat} {n nR nS : Nat} {nm : Nat → List Nat} {k0 : Nat}
theorem mO_sign {I I' : Nat → Nat → Int32} {s : Nat × Bool} {c : Nat} (hl : isLb c = false) (hd : isDb c = false) (hr : mO I T n (.ok s)) (h2 : I 267 2 = iZ (s.1 : Int)) (hn : n ≤ 1600) (hs : pSign T n c (.ok s) = true) (f2 : I' 267 2 = iZ ((s.1 + 1 : Nat) : Int)) (f4 : I' 267 4 = I 267 4) (f5 : I' 267 5 = I 267 5) (f6 : I' 267 6 = I 267 6) : mO I' T n (pAdv T n (.ok s)) := by
  have hq : (decide (s.1 < n) && T s.1 == c) = true := hs
  rw [Bool.and_eq_true, decide_eq_true_eq, beq_iff_eq] at hq
  obtain ⟨h0, hsn, p, q, e1, e2, e3, e4, e5, e6, e7, e8⟩ := hr
  rw [h2, iZ_eq (by omega) (by omega) (by omega) (by omega)] at e1
  have ekd : tkK T n s.1 s.2 = 3 := by unfold tkK; rw [if_pos hq.1, hq.2, hl, hd]; rfl
  have ee : tkE T n s.1 = s.1 + 1 := by unfold tkE; rw [if_pos hq.1, hq.2, hl, hd]; rfl
  show mO _ T n (pGo T n (tkE T n s.1) (tkK T n s.1 s.2 == 1 || tkK T n s.1 s.2 == 2))
  rw [ekd, ee]
  have g := rn_ge (T := T) (n := n) (P := isBb) (s.1 + 1)
  refine ⟨by rw [f5]; exact h0, rn_le (by omega), s.1 + 1, q, f2, by rw [f4]; exact e2, e3, by omega, g, rfl, ?_, by rw [f6]; exact e8⟩
  constructor
  · intro z
    have z' : q = ((rn T n isBb (s.1 + 1) : Nat) : Int) := z
    omega
  · intro z
    have z' : (false && rn T n isBb (s.1 + 1) == s.1 + 1) = true := z
    cases z'
theorem ops_le (S : List Nat) : ops S ≤ S.length := by unfold ops; exact List.length_filter_le _ _
theorem t_fst {S0 : PS → List (Nat × Nat) × PS} {d : Nat} (hd : d ≤ 6) (hsp : 1 ≤ d → spOK T n nR nS (14 - 2 * d) S0) (hE : 1 ≤ d → ∀ r, pIn n r → pOk (S0 r).2 = true → pOw T n (S0 r).2 ≠ 22 ∧ pOw T n (S0 r).2 ≠ 23 ∧ pOw T n (S0 r).2 ≠ 24) (hS : 1 ≤ d → tGo X J v T n nR nS nm k0 (d - 1) S0 0 (stopA true) (fun Q => Q.length ≤ 2 ∧ ∀ q, q ∈ Q → q = 1 ∨ q = 2 ∨ q = 3) mR 2) : tGo X J v T n nR nS nm k0 d (pFs1 T n nR nS nm S0 d) 2 (fun _ => True) (fun Q => Q = []) mQ 3 := by
  intro I s S C fu h hB hl _ hfu
  have h0 := h
  obtain ⟨g1, g2, g3, g4, g5, g6, g7⟩ := h0
  have hn := g1.1.1
  have hs := g2.2.1
  have hol := ops_le S
  obtain ⟨f, rfl⟩ : ∃ m, fu = m + 1 := ⟨fu - 1, by omega⟩
  obtain ⟨f2, rfl⟩ : ∃ m, f = m + 1 := ⟨f - 1, by omega⟩
  have hsp1 := sp_fst (T := T) (n := n) (nR := nR) (nS := nS) (nm := nm) hd hsp (.ok s) hs
  obtain ⟨a1, a2, a3⟩ := m_look (X := X) (J := J) (v := v) g1 g2
  have hch := pCh_r (s := s) g1
  have hc1 := cfg_M h a3 a2
  have eL : gX12_sumTold_L23 267 (f2 + 1 + 1) 1 (mkS X I J v) = if iZ (pCh T n s) = 40 then (if iZ ((6 - d : Nat) : Int) = 6 then gb2 (fX12_fail 267 5 (iZ (s.1 : Int)) (mkS X (gup I 267 2 (iZ (s.1 : Int))) J v)) fun (_ : Unit) s16 => (ggI s16 267 12 27).bind fun v17 => (spI s16 267 12 27 (v17 + 1)).bind fun s18 => gb2 (gcv s18 267 12 (fX12_opens 267 0 s18)) fun (_ : Unit) s20 => (ggI s20 267 12 2).bind fun v21 => (spI s20 267 12 2 (v21 + 1)).bind fun s22 => gX12_sumTold_L23 267 (f2 + 1) 1 s22 else gb2 (fX12_opens 267 0 (mkS X (gup (gup I 267 2 (iZ (s.1 : Int))) 267 27 (iZ ((6 - d : Nat) : Int) + 1)) J v)) fun (_ : Unit) s20 => (ggI s20 267 12 2).bind fun v21 => (spI s20 267 12 2 (v21 + 1)).bind fun s22 => gX12_sumTold_L23 267 (f2 + 1) 1 s22) else gb2 (fX12_takes 267 28 (mkS X (gup I 267 2 (iZ (s.1 : Int))) J v)) fun r27 s28 => if r27 = 0 then gb2 (gcv s28 267 12 (fX12_what 267 s28)) fun r34 s35 => gb2 (gcv s35 267 12 (fX12_codes 267 0 r34 s35)) fun (_ : Unit) s37 => gb2 (gcv s37 267 12 (gzr (goL 20000 s37))) (gX12_sumTold_L23 267 (f2 + 1)) else gb2 (gcv s28 267 12 (fX12_daysTold 267 s28)) fun (_ : Unit) s39 => gb2 (gcv s39 267 12 (gzr (goL 20000 s39))) (gX12_sumTold_L23 267 (f2 + 1)) := by
    rw [L23_eq, if_neg (show ¬ (1 : Int32) = 0 by decide)]
    simp only [bO, o267]
    rw [if_pos g2.1, a1]
    simp only [bO, o267, gup_s, gup_k (show (27 : Nat) ≠ 2 by decide), g6]
  rw [eL]
  have hp : (iZ (pCh T n s) = 40) ↔ pSign T n 40 (.ok s) = true := by
    rw [cL_eq (by omega) (by omega) (by decide)]
    show _ ↔ (decide (s.1 < n) && T s.1 == 40) = true
    unfold pCh
    rw [Bool.and_eq_true, decide_eq_true_eq, beq_iff_eq]
    by_cases z : s.1 < n
    · rw [if_pos z]
      constructor
      · intro q; exact ⟨z, by have q' : ((T s.1 : Nat) : Int) = 40 := q; omega⟩
      · rintro ⟨-, q⟩; rw [q]; rfl
    · rw [if_neg z]
      constructor
      · intro q; have q' : (-1 : Int) = 40 := q; omega
      · rintro ⟨q, -⟩; exact absurd q z
  unfold pFs1 at hsp1 ⊢
  by_cases cp : pSign T n 40 (.ok s) = true
  · rw [if_pos cp] at hsp1 ⊢
    rw [if_pos (hp.mpr cp)]
    by_cases c0 : d = 0
    · rw [if_pos c0]
      refine ⟨(fun q => by rw [show pOk (pNot 5 (.ok s)) = false from pNot_ok] at q; cases q), fun _ => ?_⟩
      rw [if_pos (by rw [c0]; rfl)]
      obtain ⟨I2, b1, b2, b3, -⟩ := m_fail (X := X) (J := J) (v := v) (f := 5) (p := s.1) (by decide) (by decide) a2
      have b1' : fX12_fail 267 5 (iZ (s.1 : Int)) (mkS X (gup I 267 2 (iZ (s.1 : Int))) J v) = some ((), mkS X I2 J v) := b1
      rw [b1']
      simp only [bO, o267]
      have b3' : mO I2 T n (.error (5, s.1)) := b3
      have o3 : ∀ x : Int32, mO (gup I2 267 27 x) T n (.error (5, s.1)) := fun x => mO_7 b3' (fun k hk => gup_k (by omega))
      have eo : ∀ x : Int32, fX12_opens 267 0 (mkS X (gup I2 267 27 x) J v) = some ((), mkS X (gup I2 267 27 x) J v) := by
        intro x
        unfold fX12_opens
        simp only [bO, o267]
        rw [if_neg (mO_err (o3 x) rfl)]
      rw [eo]
      simp only [bO, o267]
      have o4 : ∀ x y : Int32, mO (gup (gup I2 267 27 x) 267 2 y) T n (.error (5, s.1)) := fun x y => ⟨by rw [gup_k (by decide), gup_k (by decide)]; exact b3'.1, b3'.2.1, b3'.2.2.1, by rw [gup_k (by decide), gup_k (by decide)]; exact b3'.2.2.2⟩
      rw [L23_eq, if_neg (show ¬ (1 : Int32) = 0 by decide)]
      simp only [bO, o267]
      rw [if_neg (mO_err (o4 _ _) rfl)]
      refine ⟨_, rfl, frV_t (frV_M (frM_t a3 b2)) ?_, o4 _ _⟩
      exact ⟨fun r j a _ _ _ => by rw [gup_r a, gup_r a], fun j a b c d e f g h i => by rw [gup_k a, gup_k i], fun j _ => by rw [gup_r (by decide), gup_r (by decide)]⟩
    · rw [if_neg c0] at hsp1 ⊢
      have hd1 : 1 ≤ d := by omega
      rw [if_neg (by rw [cL_eq (by omega) (by omega) (by decide)]; omega), aL, show ((6 - d : Nat) : Int) + 1 = ((6 - (d - 1) : Nat) : Int) by omega]
      obtain ⟨k1, k2, k3, k4, k5, k6, k7⟩ := hc1
      have o27 : mO (gup (gup I 267 2 (iZ (s.1 : Int))) 267 27 (iZ ((6 - (d - 1) : Nat) : Int))) T n (.ok s) := mO_7 k2 (fun k hk => gup_k (by omega))
      have s27 : stK (gup (gup I 267 2 (iZ (s.1 : Int))) 267 27 (iZ ((6 - (d - 1) : Nat) : Int))) S := stK_M k5 (gup_k (by decide)) (fun j => gup_r (by decide))
      obtain ⟨I2, b1, b2, b3, b4, b5, b6, b7⟩ := m_opens (X := X) (J := J) (v := v) (k0 := k0) (x := 0) o27 rfl s27 (by omega)
      have b1' : fX12_opens 267 0 (mkS X (gup (gup I 267 2 (iZ (s.1 : Int))) 267 27 (iZ ((6 - (d - 1) : Nat) : Int))) J v) = some ((), mkS X I2 J v) := b1
      rw [b1']
      simp only [bO, o267]
      have e2 : I2 267 2 = iZ (s.1 : Int) := by
        have := b3
        obtain ⟨-, -, p, q, e1, -⟩ := this
        have hfr := b1'
        unfold fX12_opens at hfr
        simp only [bO, o267, o267R] at hfr
        rw [if_pos (mO_ok o27 rfl), s27.1, b279 _ _ _ _ _ _ (by omega)] at hfr
        simp only [bO, o267, gnar_2] at hfr
        injection hfr with hfr
        injection hfr with _ hfr
        have := congrArg (fun z : gH => gI z 267 2) hfr
        have this' : gup (gup (gup (gup I 267 2 (iZ (s.1 : Int))) 267 27 (iZ ((6 - (d - 1) : Nat) : Int))) 279 S.length 0) 267 26 (gup (gup (gup I 267 2 (iZ (s.1 : Int))) 267 27 (iZ ((6 - (d - 1) : Nat) : Int))) 279 S.length 0 267 26 + 1) 267 2 = I2 267 2 := this
        rw [← this', gup_k (by decide), gup_r (by decide), gup_k (by decide), gup_s]
      rw [e2, aL, show (s.1 : Int) + 1 = ((s.1 + 1 : Nat) : Int) by omega]
      have f3 : frV k0 I (gup I2 267 2 (iZ ((s.1 + 1 : Nat) : Int))) := frV_t (frV_M a3) (frV_t ⟨fun r j a _ _ _ => gup_r a, fun j a b c d e f g h i => gup_k i, fun j _ => gup_r (by decide)⟩ (frV_t b2 (frV_M (frM_g (Or.inl rfl)))))
      obtain ⟨s', hs'⟩ : ∃ s', pAdv T n (.ok s) = .ok s' := ⟨_, rfl⟩
      have o3 : mO (gup I2 267 2 (iZ ((s.1 + 1 : Nat) : Int))) T n (.ok s') := by
        rw [← hs']
        exact mO_sign (c := 40) rfl rfl b3 e2 hn cp gup_s (gup_k (by decide)) (gup_k (by decide)) (gup_k (by decide))
      have hc3 : cfg T n nR nS nm k0 (gup I2 267 2 (iZ ((s.1 + 1 : Nat) : Int))) (.ok s') (S ++ [0]) (6 - (d - 1)) C := ⟨mX_V g1 f3, o3, mNm_V g3 f3, mCal_V g4 f3, stK_M b4 (gup_k (by decide)) (fun j => gup_r (by decide)), by rw [gup_k (by decide), b5, gup_s], cfC_M (I := I) g7 (by rw [gup_k (by decide), b6, gup_k (by decide), gup_k (by decide)]) (fun j => by rw [gup_r (by decide), b7, gup_r (by decide), gup_r (by decide)])⟩
      have hlt := pAdv_lt (T := T) (n := n) (r := .ok s) rfl (pSign_kd cp)
      rw [hs'] at hlt
      have hlt' : s.1 + 1 ≤ s'.1 := by have : pAt (Except.ok s' : PS) = s'.1 := rfl; have : pAt (Except.ok s : PS) = s.1 := rfl; omega
      have hdl : pDl T n (.ok s') ≤ 1 := by unfold pDl; split <;> omega
      have hop : ops (S ++ [0]) = ops S := by rw [ops_app]; rfl
      obtain ⟨t1, t2⟩ := hS hd1 (gup I2 267 2 (iZ ((s.1 + 1 : Nat) : Int))) s' (S ++ [0]) C (f2 + 1) hc3 (by rw [hop]; omega) (by rw [List.length_append, List.length_singleton]; omega) (Or.inr ⟨S, 0, rfl, Or.inl rfl⟩) (by omega)
      rw [hs'] at hsp1 ⊢
      have hs'in : pIn n (.ok s') := o3.2.1
      cases hok : pOk (S0 (.ok s')).2 with
      | false =>
        obtain ⟨I4, c1, c2, c3⟩ := t2 hok
        have e4 : pPass T n (pSign T n 41 (S0 (.ok s')).2) (S0 (.ok s')).2 = (S0 (.ok s')).2 := by
          cases z : (S0 (.ok s')).2 with
          | ok q => rw [z] at hok; cases hok
          | error e => rfl
        rw [e4]
        exact ⟨(fun q => by rw [hok] at q; cases q), fun _ => ⟨I4, c1, frV_t f3 c2, c3⟩⟩
      | true =>
        obtain ⟨I4, fu', gf', Q, C', c1, c2, c3, c4, ⟨c5, c5'⟩, c6, c7⟩ := t1 hok
        obtain ⟨w2, w3, w4⟩ := hE hd1 (.ok s') hs'in hok
        have hinS := (hsp hd1 (.ok s') hs'in).2 hok
        have hatn := pAt_in (hsp hd1 (.ok s') hs'in).1
        have hlenC : C'.length + Q.length = C.length + (S0 (.ok s')).1.length := by
          have := congrArg List.length c4
          rw [List.length_append, List.length_append, List.length_map] at this
          exact this
        have htl := trL_len (S0 (.ok s')).1
        have hpa : pAt (Except.ok s' : PS) = s'.1 := rfl
        rw [hpa] at hinS
        obtain ⟨f4, rfl⟩ : ∃ m, fu' = m + 1 := ⟨fu' - 1, by omega⟩
        obtain ⟨I5, d1, d2, d3⟩ := mR_flush (X := X) (J := J) (v := v) (gf := gf') c3 hok w2 w3 w4 (Or.inr ⟨S, 0, rfl, Or.inl rfl⟩) c5' (by rw [List.length_append, List.length_singleton]; omega) (by omega)
        rw [c4] at d3
        obtain ⟨q1, q2, q3, q4, q5, q6, q7⟩ := d3
        obtain ⟨I6, e1, e2', e3⟩ := m_asksSign (X := X) (J := J) (v := v) (c := 41) (by decide) rfl rfl q1 q2
        have e1' : fX12_asksSign 267 41 (mkS X I5 J v) = some ((), mkS X I6 J v) := e1
        have s6 : I6 267 26 = iZ ((S.length + 1 : Nat) : Int) := by rw [e2'.2 26 (by decide) (by decide) (by decide) (by decide) (by decide) (by decide), q5.1, List.length_append, List.length_singleton]
        have p6 : I6 267 27 = iZ ((6 - (d - 1) : Nat) : Int) := by rw [e2'.2 27 (by decide) (by decide) (by decide) (by decide) (by decide) (by decide)]; exact q6
        have run : gX12_sumTold_L23 267 (f2 + 1) 1 (mkS X (gup I2 267 2 (iZ ((s.1 + 1 : Nat) : Int))) J v) = mQ (f4 + 1) gf' (mkS X (gup (gup I6 267 26 (iZ (S.length : Int))) 267 27 (iZ ((6 - d : Nat) : Int))) J v) := by
          rw [c1]
          unfold mR mQ
          rw [d1, List.length_append, List.length_singleton, if_neg (by rw [cL_eq (by omega) (by omega) (by decide)]; omega), e1']
          simp only [bO, o267]
          rw [gup_k (show (27 : Nat) ≠ 26 by decide), s6, p6, sL, sL, show ((S.length + 1 : Nat) : Int) - 1 = ((S.length : Nat) : Int) by omega, show ((6 - (d - 1) : Nat) : Int) - 1 = ((6 - d : Nat) : Int) by omega]
        have f7 : frV k0 I (gup (gup I6 267 26 (iZ (S.length : Int))) 267 27 (iZ ((6 - d : Nat) : Int))) := frV_t f3 (frV_t c2 (frV_t d2 (frV_t (frV_M e2') ⟨fun r j a _ _ _ => by rw [gup_r a, gup_r a], fun j a b c d e f g h i => by rw [gup_k i, gup_k h], fun j _ => by rw [gup_r (by decide), gup_r (by decide)]⟩)))
        have o7 : mO (gup (gup I6 267 26 (iZ (S.length : Int))) 267 27 (iZ ((6 - d : Nat) : Int))) T n (pPass T n (pSign T n 41 (S0 (.ok s')).2) (S0 (.ok s')).2) := mO_7 e3 (fun k hk => by rw [gup_k (by omega), gup_k (by omega)])
        obtain ⟨gf2, rfl⟩ : ∃ m, gf' = m + 1 := ⟨gf' - 1, by omega⟩
        refine ⟨fun q => ?_, fun q => ?_⟩
        · have hq := pSignP_lt (show pOk (pPass T n (pSign T n 41 (S0 (.ok s')).2) (S0 (.ok s')).2) = true from q)
          refine ⟨_, f4 + 1, gf2 + 1, [], C ++ (S0 (.ok s')).1, run, f7, ?_, by rw [List.map_nil, List.append_nil], rfl, by omega, by omega⟩
          rw [List.reverse_nil, List.append_nil]
          refine ⟨mX_V g1 f7, o7, mNm_V g3 f7, mCal_V g4 f7, ⟨by rw [gup_k (by decide), gup_s], fun j hj => ?_⟩, gup_s, cfC_M (cfC_m q7 e2') (by rw [gup_k (by decide), gup_k (by decide)]) (fun j => by rw [gup_r (by decide), gup_r (by decide)])⟩
          rw [gup_r (by decide), gup_r (by decide), e2'.1 279 _ (by decide)]
          have := q5.2 j (by rw [List.length_append, List.length_singleton]; omega)
          rw [getD_app1, if_pos hj] at this
          exact this
        · exact ⟨_, by rw [run]; exact mQ_err o7 q, f7, o7⟩
  · rw [if_neg cp] at hsp1 ⊢
    rw [if_neg (fun q => cp (hp.mp q))]
    obtain ⟨k1, k2, k3, k4, k5, k6, k7⟩ := hc1
    obtain ⟨I2, b1, b2, b3, -⟩ := m_takes (X := X) (J := J) (v := v) (w := 28) (by decide) k1 k2
    have b1' : fX12_takes 267 28 (mkS X (gup I 267 2 (iZ (s.1 : Int))) J v) = some (tf (pOw T n (.ok s) == ((28 : Nat) : Int)), mkS X I2 J v) := b1
    rw [b1', gb2_some]
    simp only [o267]
    have fr2 := frM_t a3 b2
    by_cases cd : pOw T n (.ok s) = ((28 : Nat) : Int)
    · rw [show (pOw T n (.ok s) == ((28 : Nat) : Int)) = true from by simpa using cd, if_neg (show ¬ tf true = 0 by decide)]
      rw [if_pos cd] at b3
      have cd' : pOw T n (.ok s) = 28 := cd
      rw [if_pos cd'] at hsp1 ⊢
      obtain ⟨I3, c1, c2, c3, c4⟩ := m_days (X := X) (J := J) (v := v) (k0 := k0) (C := C) (mX_M g1 fr2) b3 (mCal_5 g4 (frD5_M (k := 0) fr2)) (fun _ => ⟨cfC_m g7 fr2, by omega⟩)
      rw [c1, gb2_some]
      simp only [o267]
      have f3 : frV k0 I I3 := frV_t (frV_M fr2) (frV_5 c2 (by omega))
      have run : gb2 (gzr (goL 20000 (mkS X I3 J v))) (gX12_sumTold_L23 267 (f2 + 1)) = mQ (f2 + 1) 20000 (mkS X I3 J v) := rfl
      rw [run]
      refine ⟨fun q => ?_, fun q => ⟨I3, mQ_err (gf := 19999) c3 q, f3, c3⟩⟩
      obtain ⟨-, -, hq3, -⟩ := hsp1.2 q
      have hq3' : s.1 + 1 ≤ pAt (pDayRow T n (pAdv T n (.ok s))).2 := hq3
      refine ⟨I3, f2 + 1, 20000, [], C ++ daysC (pDayRow T n (pAdv T n (.ok s))).1, rfl, f3, ?_, by rw [List.map_nil, List.append_nil], rfl, by omega, by omega⟩
      rw [List.reverse_nil, List.append_nil]
      exact ⟨mX_V g1 f3, c3, mNm_V g3 f3, mCal_V g4 f3, stK_M g5 (by rw [c2.2.1 26 (by decide) (by decide) (by decide) (by decide) (by decide) (by decide) (by decide), fr2.2 26 (by decide) (by decide) (by decide) (by decide) (by decide) (by decide)]) (fun j => by rw [c2.1 279 j (by decide) (by decide) (by decide), fr2.1 279 j (by decide)]), by rw [c2.2.1 27 (by decide) (by decide) (by decide) (by decide) (by decide) (by decide) (by decide), fr2.2 27 (by decide) (by decide) (by decide) (by decide) (by decide) (by decide)]; exact g6, c4 q⟩
    · rw [show (pOw T n (.ok s) == ((28 : Nat) : Int)) = false from by simpa using cd, if_pos tf_f]
      rw [if_neg cd] at b3
      have cd' : ¬ pOw T n (.ok s) = 28 := cd
      rw [if_neg cd'] at hsp1 ⊢
      obtain ⟨I3, x, c1, c2, c3, c4⟩ := m_what (X := X) (J := J) (v := v) (mX_M g1 fr2) b3 (mNm_M g3 (fun k => fr2.1 275 k (by decide)))
      rw [c1, gb2_some]
      simp only [o267]
      have fr3 := frM_t fr2 c2
      obtain ⟨I4, d1, d2, d3, d4, -⟩ := m_codes (X := X) (J := J) (v := v) (k0 := k0) (op := 0) (C := C) (x := x) c3 (fun _ => ⟨cfC_m g7 fr3, by omega⟩)
      have d1' : fX12_codes 267 0 x (mkS X I3 J v) = some ((), mkS X I4 J v) := d1
      rw [d1', gb2_some]
      simp only [o267]
      have f4 : frV k0 I I4 := frV_t (frV_M fr3) (frV_5 d2 (by omega))
      have run : gb2 (gzr (goL 20000 (mkS X I4 J v))) (gX12_sumTold_L23 267 (f2 + 1)) = mQ (f2 + 1) 20000 (mkS X I4 J v) := rfl
      rw [run]
      refine ⟨fun q => ?_, fun q => ⟨I4, mQ_err (gf := 19999) d3 q, f4, d3⟩⟩
      obtain ⟨-, -, hq3, -⟩ := hsp1.2 q
      have hq3' : s.1 + 1 ≤ pAt (pKnown T n nR nS nm (.ok s)) := hq3
      refine ⟨I4, f2 + 1, 20000, [], C ++ [(0, (pFind nR nS nm (pNameV T n (.ok s))).toNat)], rfl, f4, ?_, by rw [List.map_nil, List.append_nil], rfl, by omega, by omega⟩
      rw [List.reverse_nil, List.append_nil]
      refine ⟨mX_V g1 f4, d3, mNm_V g3 f4, mCal_V g4 f4, stK_M g5 (by rw [d2.2.1 26 (by decide) (by decide) (by decide) (by decide) (by decide) (by decide) (by decide), fr3.2 26 (by decide) (by decide) (by decide) (by decide) (by decide) (by decide)]) (fun j => by rw [d2.1 279 j (by decide) (by decide) (by decide), fr3.1 279 j (by decide)]), by rw [d2.2.1 27 (by decide) (by decide) (by decide) (by decide) (by decide) (by decide) (by decide), fr3.2 27 (by decide) (by decide) (by decide) (by decide) (by decide) (by decide)]; exact g6, d4 q _ ?_⟩
      rw [c4 q]
      have h6 := (pKnown_ok q).2.2.2
      have h7 := pFind_r nR nS nm (pNameV T n (.ok s))
      congr 1; omega
end gMw2
