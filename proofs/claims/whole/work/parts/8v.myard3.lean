/-! SUMS of the reference: whole -/
section gMv
variable {X : Nat × (Nat → Int32)} {J : Nat → Nat → Int64} {v : Vt} {T : Nat → Nat} {n nR nS : Nat} {nm : Nat → List Nat} {k0 : Nat}
theorem pMov_e {f : Nat} {e : Nat × Nat} : (pMov T n nR nS nm f (.error e)).2 = .error e := by cases f <;> rfl
theorem pLp_e {lo hi f : Nat} {F : PS → List (Nat × Nat) × PS} {e : Nat × Nat} (h : 1 ≤ lo) : (pLp T n lo hi F f (.error e)).2 = .error e := by
  cases f with
  | zero => rfl
  | succ f =>
    show (if (lo : Int) ≤ -1 ∧ (-1 : Int) ≤ hi then _ else ([], .error e) : List (Nat × Nat) × PS).2 = _
    rw [if_neg (by omega)]
theorem t_one {S0 : PS → List (Nat × Nat) × PS} {d : Nat} (hd : d ≤ 6) (hsp : 1 ≤ d → spOK T n nR nS (14 - 2 * d) S0) (hE : 1 ≤ d → ∀ r, pIn n r → pOk (S0 r).2 = true → pOw T n (S0 r).2 ≠ 22 ∧ pOw T n (S0 r).2 ≠ 23 ∧ pOw T n (S0 r).2 ≠ 24) (hS : 1 ≤ d → tGo X J v T n nR nS nm k0 (d - 1) S0 0 (stopA true) (fun Q => Q.length ≤ 2 ∧ ∀ q, q ∈ Q → q = 1 ∨ q = 2 ∨ q = 3) mR 2) : tGo X J v T n nR nS nm k0 d (pOne T n nR nS nm S0 d) 2 (fun _ => True) (fun Q => Q = []) mR 2 := by
  intro I s S C fu h hB hl hst hfu
  obtain ⟨t1, t2⟩ := t_fst hd hsp hE hS I s S C fu h hB hl hst hfu
  have hs := h.2.1.2.1
  have hn := h.1.1.1
  have hsp1 := sp_fst (T := T) (n := n) (nR := nR) (nS := nS) (nm := nm) hd hsp (.ok s) hs
  have hol := ops_le S
  unfold pOne
  dsimp only
  cases hok : pOk (pFs1 T n nR nS nm S0 d (.ok s)).2 with
  | false =>
    obtain ⟨I', a1, a2, a3⟩ := t2 hok
    obtain ⟨e, he⟩ : ∃ e, (pFs1 T n nR nS nm S0 d (.ok s)).2 = .error e := by
      cases z : (pFs1 T n nR nS nm S0 d (.ok s)).2 with
      | error e => exact ⟨e, rfl⟩
      | ok q => rw [z] at hok; cases hok
    rw [he] at a3 ⊢
    rw [pMov_e]
    exact ⟨(fun q => by cases q), fun _ => ⟨I', a1, a2, a3⟩⟩
  | true =>
    obtain ⟨I1, fu', gf', Q, C', a1, a2, a3, a4, a5, a6, a7⟩ := t1 hok
    subst a5
    rw [List.map_nil, List.append_nil] at a4
    subst a4
    rw [List.reverse_nil, List.append_nil] at a3
    obtain ⟨p1, p2, p3, p4⟩ := hsp1.2 hok
    have hpa : pAt (Except.ok s : PS) = s.1 := rfl
    rw [hpa] at p2 p3
    have hin1 := pAt_in hsp1.1
    have htl := trL_len (pFs1 T n nR nS nm S0 d (.ok s)).1
    have hsm := sp_mov (T := T) (n := n) (nR := nR) (nS := nS) (nm := nm) 1600 (pFs1 T n nR nS nm S0 d (.ok s)).2 hsp1.1
    obtain ⟨g1, g2, g3, g4, g5, g6, g7⟩ := a3
    have hlen : (C ++ (pFs1 T n nR nS nm S0 d (.ok s)).1).length = C.length + (pFs1 T n nR nS nm S0 d (.ok s)).1.length := List.length_append
    obtain ⟨I2, b1, b2, b3, b4⟩ := m_moves (X := X) (J := J) (v := v) (k0 := k0) (C := C ++ (pFs1 T n nR nS nm S0 d (.ok s)).1) g1 g2 g3 (fun _ => ⟨g7, by rw [hlen]; omega⟩)
    obtain ⟨g, rfl⟩ : ∃ m, gf' = m + 1 := ⟨gf' - 1, by omega⟩
    obtain ⟨f4, rfl⟩ : ∃ m, fu' = m + 1 := ⟨fu' - 1, by omega⟩
    have run : gX12_sumTold_L23 267 fu 1 (mkS X I J v) = mR (f4 + 1) g (mkS X I2 J v) := by
      rw [a1]
      unfold mQ mR
      rw [goL_eq]
      simp only [bO, o267]
      rw [if_pos (mO_ok g2 hok), b1]
      rfl
    have f2 : frV k0 I I2 := frV_t a2 (frV_5 b2 (by omega))
    have s2 : stK I2 S := stK_M g5 (b2.2.1 26 (by decide) (by decide) (by decide) (by decide) (by decide) (by decide) (by decide)) (fun j => b2.1 279 j (by decide) (by decide) (by decide))
    refine ⟨fun q => ?_, fun q => ?_⟩
    · obtain ⟨m1, m2, -⟩ := hsm.2 q
      refine ⟨I2, f4 + 1, g, [], C ++ ((pFs1 T n nR nS nm S0 d (.ok s)).1 ++ (pMov T n nR nS nm 1600 (pFs1 T n nR nS nm S0 d (.ok s)).2).1), run, f2, ?_, by rw [List.map_nil, List.append_nil], rfl, by omega, by omega⟩
      · rw [List.reverse_nil, List.append_nil]
        refine ⟨mX_V h.1 f2, b3, mNm_V h.2.2.1 f2, mCal_V h.2.2.2.1 f2, s2, by rw [b2.2.1 27 (by decide) (by decide) (by decide) (by decide) (by decide) (by decide) (by decide)]; exact g6, ?_⟩
        rw [← List.append_assoc]
        exact b4 q
    · obtain ⟨g', rfl⟩ : ∃ m, g = m + 1 := ⟨g - 1, by omega⟩
      obtain ⟨I3, c1, c2, c3⟩ := mR_err (X := X) (J := J) (v := v) (k0 := k0) (fu := f4) (gf := g') (mX_V h.1 f2) b3 q (show S.length ≤ 64 by omega) s2.1
      exact ⟨I3, by rw [run]; exact c1, frV_t f2 c2, c3⟩
/-- further ones -/
theorem t_lp {F : PS → List (Nat × Nat) × PS} {d lo hi b sb sb1 : Nat} {stop stop1 QP QP1 : List Nat → Prop} (hd : d ≤ 6) (hlo : 22 ≤ lo) (hhi : hi ≤ 24) (hb : b ≤ 14) (hsb : sb + 1 ≤ sb1) (hsb2 : sb ≤ 2) (hsp : spOK T n nR nS b F) (hF : tGo X J v T n nR nS nm k0 d F sb1 stop1 QP1 mR 2) (wc : Int → Nat) (hwc : ∀ z : Int, (lo : Int) ≤ z → z ≤ hi → opc (wc z) = (z.toNat - 19, 0) ∧ wc z ≠ 0) (hs1 : ∀ S z, stop S → (lo : Int) ≤ z → z ≤ hi → stop1 (S ++ [wc z])) (hq1 : ∀ Q z, QP1 Q → (lo : Int) ≤ z → z ≤ hi → QP (Q ++ [wc z])) (hql : ∀ Q, QP Q → Q.length ≤ 2)
    (hstep : ∀ (I : Nat → Nat → Int32) (r : PS) (S Q : List Nat) (C : List (Nat × Nat)) (fu gf : Nat), cfg T n nR nS nm k0 I r (S ++ Q.reverse) (6 - d) C → (lo : Int) ≤ pOw T n r → pOw T n r ≤ hi → stop S → QP Q → S.length + Q.length < 63 → k0 + C.length + Q.length < 1500 → ∃ I', mR fu gf (mkS X I J v) = gX12_sumTold_L23 267 fu 1 (mkS X I' J v) ∧ frV k0 I I' ∧ cfg T n nR nS nm k0 I' (pAdv T n r) (S ++ [wc (pOw T n r)]) (6 - d) (C ++ Q.map opc)) :
    ∀ (f i : Nat) (I : Nat → Nat → Int32) (r : PS) (S Q : List Nat) (C D : List (Nat × Nat)) (fu gf : Nat), i + f = 1600 → i ≤ pAt r → pOk r = true → cfg T n nR nS nm k0 I r (S ++ Q.reverse) (6 - d) C → stop S → S.length ≤ 3 * (6 - d) + sb → QP Q → C ++ Q.map opc = D → 2 * (k0 + D.length + ops S) ≤ pAt r → n + 3 ≤ fu + pAt r → n + 2 ≤ gf + pAt r →
      (pOk (pLp T n lo hi F f r).2 = true → ∃ (I' : Nat → Nat → Int32) (fu' gf' : Nat) (Q' : List Nat) (C' : List (Nat × Nat)), mR fu gf (mkS X I J v) = mR fu' gf' (mkS X I' J v) ∧ frV k0 I I' ∧ cfg T n nR nS nm k0 I' (pLp T n lo hi F f r).2 (S ++ Q'.reverse) (6 - d) C' ∧ C' ++ Q'.map opc = D ++ (pLp T n lo hi F f r).1 ∧ QP Q' ∧ n + 3 ≤ fu' + pAt (pLp T n lo hi F f r).2 ∧ n + 2 ≤ gf' + pAt (pLp T n lo hi F f r).2) ∧
      (pOk (pLp T n lo hi F f r).2 = false → ∃ I' : Nat → Nat → Int32, mR fu gf (mkS X I J v) = some ((), mkS X I' J v) ∧ frV k0 I I' ∧ mO I' T n (pLp T n lo hi F f r).2) := by
  intro f
  induction f with
  | zero =>
    intro i I r S Q C D fu gf hi' hia hok h hst hsl hQ hD hB hfu hgf
    refine ⟨fun _ => ⟨I, fu, gf, Q, C, rfl, frV_r k0 I, h, ?_, hQ, hfu, hgf⟩, fun q => ?_⟩
    · show _ = D ++ []
      rw [List.append_nil]; exact hD
    · have q' : pOk r = false := q
      rw [hok] at q'; cases q'
  | succ f ih =>
    intro i I r S Q C D fu gf hi' hia hok h hst hsl hQ hD hB hfu hgf
    have e : pLp T n lo hi F (f + 1) r = if (lo : Int) ≤ pOw T n r ∧ pOw T n r ≤ hi then ((F (pAdv T n r)).1 ++ ((pOw T n r).toNat - 19, 0) :: (pLp T n lo hi F f (F (pAdv T n r)).2).1, (pLp T n lo hi F f (F (pAdv T n r)).2).2) else ([], r) := rfl
    rw [e]
    have hn := h.1.1.1
    have hin := mO_in h.2.1
    have hat := pAt_in hin
    have hQl := hql Q hQ
    have hol := ops_le S
    have hDl : C.length + Q.length = D.length := by
      have := congrArg List.length hD
      rw [List.length_append, List.length_map] at this
      exact this
    by_cases c : (lo : Int) ≤ pOw T n r ∧ pOw T n r ≤ hi
    · rw [if_pos c]
      dsimp only
      obtain ⟨I1, a1, a2, a3⟩ := hstep I r S Q C fu gf h c.1 c.2 hst hQ (by omega) (by omega)
      rw [hD] at a3
      obtain ⟨s', hs'⟩ : ∃ s', pAdv T n r = .ok s' := by
        cases z : pAdv T n r with
        | ok s' => exact ⟨s', rfl⟩
        | error e =>
          have := pAdv_ok (T := T) (n := n) (r := r)
          rw [z, hok] at this; cases this
      obtain ⟨w, hw⟩ : ∃ w : Nat, pOw T n r = (w : Int) := ⟨(pOw T n r).toNat, by omega⟩
      have hadv := pAdv_ow (T := T) (n := n) hw (by omega)
      have ol := owl_le w (by omega)
      have edl : (if pKd T n (pAdv T n r) = 1 then 1 else 0) = pDl T n (pAdv T n r) := rfl
      rw [edl] at hadv
      obtain ⟨hw1, hw2⟩ := hwc (pOw T n r) c.1 c.2
      have hop : ops (S ++ [wc (pOw T n r)]) = ops S + 1 := by
        rw [ops_app]
        have : ops [wc (pOw T n r)] = 1 := by
          unfold ops
          rw [List.filter_cons, if_pos (by simpa using hw2)]
          rfl
        rw [this]
      rw [hs'] at a3 hadv ⊢
      have hpa : pAt (Except.ok s' : PS) = s'.1 := rfl
      rw [hpa] at hadv
      have hs'in : pIn n (.ok s') := a3.2.1.2.1
      obtain ⟨t1, t2⟩ := hF I1 s' (S ++ [wc (pOw T n r)]) D fu a3 (by rw [hop]; omega) (by rw [List.length_append, List.length_singleton]; omega) (hs1 S _ hst c.1 c.2) (by omega)
      have hspF := hsp (.ok s') hs'in
      cases hok2 : pOk (F (.ok s')).2 with
      | false =>
        obtain ⟨I2, b1, b2, b3⟩ := t2 hok2
        obtain ⟨e2, he2⟩ : ∃ e, (F (.ok s')).2 = .error e := by
          cases z : (F (.ok s')).2 with
          | error e => exact ⟨e, rfl⟩
          | ok q => rw [z] at hok2; cases hok2
        rw [he2] at b3 ⊢
        rw [pLp_e (by omega)]
        exact ⟨(fun q => by cases q), fun _ => ⟨I2, by rw [a1]; exact b1, frV_t a2 b2, b3⟩⟩
      | true =>
        obtain ⟨I2, fu2, gf2, Q2, C2, b1, b2, b3, b4, b5, b6, b7⟩ := t1 hok2
        obtain ⟨p1, p2, p3, p4⟩ := hspF.2 hok2
        rw [hpa] at p2 p3
        have htl := trL_len (F (.ok s')).1
        have hst2 : S ++ [wc (pOw T n r)] ++ Q2.reverse = S ++ (Q2 ++ [wc (pOw T n r)]).reverse := by
          rw [List.reverse_append, List.append_assoc]; rfl
        rw [hst2] at b3
        have hD2 : C2 ++ (Q2 ++ [wc (pOw T n r)]).map opc = D ++ ((F (.ok s')).1 ++ [((pOw T n r).toNat - 19, 0)]) := by
          rw [List.map_append, ← List.append_assoc, b4, List.map_singleton, hw1, List.append_assoc]
        obtain ⟨k1, k2⟩ := ih (i + 1) I2 (F (.ok s')).2 S (Q2 ++ [wc (pOw T n r)]) C2 (D ++ ((F (.ok s')).1 ++ [((pOw T n r).toNat - 19, 0)])) fu2 gf2 (by omega) (by omega) hok2 b3 hst hsl (hq1 Q2 _ b5 c.1 c.2) hD2 (by rw [List.length_append, List.length_append, List.length_singleton]; omega) b6 b7
        refine ⟨fun q => ?_, fun q => ?_⟩
        · obtain ⟨I3, fu3, gf3, Q3, C3, d1, d2, d3, d4, d5, d6, d7⟩ := k1 q
          refine ⟨I3, fu3, gf3, Q3, C3, by rw [a1, b1]; exact d1, frV_t a2 (frV_t b2 d2), d3, ?_, d5, d6, d7⟩
          rw [d4, List.append_assoc, List.append_assoc]; rfl
        · obtain ⟨I3, d1, d2, d3⟩ := k2 q
          exact ⟨I3, by rw [a1, b1]; exact d1, frV_t a2 (frV_t b2 d2), d3⟩
    · rw [if_neg c]
      refine ⟨fun _ => ⟨I, fu, gf, Q, C, rfl, frV_r k0 I, h, ?_, hQ, hfu, hgf⟩, fun q => ?_⟩
      · show _ = D ++ []
        rw [List.append_nil]; exact hD
      · have q' : pOk r = false := q
        rw [hok] at q'; cases q'
/-- one, and further ones -/
theorem t_lpB {F : PS → List (Nat × Nat) × PS} {d lo hi b sb sb1 : Nat} {stop stop1 QP QP1 : List Nat → Prop} (hd : d ≤ 6) (hlo : 22 ≤ lo) (hhi : hi ≤ 24) (hb : b ≤ 14) (hsb : sb + 1 ≤ sb1) (hsb2 : sb ≤ 2) (hsp : spOK T n nR nS b F) (hF : tGo X J v T n nR nS nm k0 d F sb1 stop1 QP1 mR 2) (wc : Int → Nat) (hwc : ∀ z : Int, (lo : Int) ≤ z → z ≤ hi → opc (wc z) = (z.toNat - 19, 0) ∧ wc z ≠ 0) (hs1 : ∀ S z, stop S → (lo : Int) ≤ z → z ≤ hi → stop1 (S ++ [wc z])) (hs0 : ∀ S, stop S → stop1 S) (hq1 : ∀ Q z, QP1 Q → (lo : Int) ≤ z → z ≤ hi → QP (Q ++ [wc z])) (hq0 : ∀ Q, QP1 Q → QP Q) (hql : ∀ Q, QP Q → Q.length ≤ 2)
    (hstep : ∀ (I : Nat → Nat → Int32) (r : PS) (S Q : List Nat) (C : List (Nat × Nat)) (fu gf : Nat), cfg T n nR nS nm k0 I r (S ++ Q.reverse) (6 - d) C → (lo : Int) ≤ pOw T n r → pOw T n r ≤ hi → stop S → QP Q → S.length + Q.length < 63 → k0 + C.length + Q.length < 1500 → ∃ I', mR fu gf (mkS X I J v) = gX12_sumTold_L23 267 fu 1 (mkS X I' J v) ∧ frV k0 I I' ∧ cfg T n nR nS nm k0 I' (pAdv T n r) (S ++ [wc (pOw T n r)]) (6 - d) (C ++ Q.map opc)) :
    tGo X J v T n nR nS nm k0 d (fun r => ((F r).1 ++ (pLp T n lo hi F 1600 (F r).2).1, (pLp T n lo hi F 1600 (F r).2).2)) sb stop QP mR 2 := by
  intro I s S C fu h hB hl hst hfu
  obtain ⟨t1, t2⟩ := hF I s S C fu h hB (by omega) (hs0 S hst) hfu
  have hsin : pIn n (.ok s) := h.2.1.2.1
  have hspF := hsp (.ok s) hsin
  dsimp only
  cases hok : pOk (F (.ok s)).2 with
  | false =>
    obtain ⟨I', a1, a2, a3⟩ := t2 hok
    obtain ⟨e, he⟩ : ∃ e, (F (.ok s)).2 = .error e := by
      cases z : (F (.ok s)).2 with
      | error e => exact ⟨e, rfl⟩
      | ok q => rw [z] at hok; cases hok
    rw [he] at a3 ⊢
    rw [pLp_e (by omega)]
    exact ⟨(fun q => by cases q), fun _ => ⟨I', a1, a2, a3⟩⟩
  | true =>
    obtain ⟨I1, fu1, gf1, Q1, C1, b1, b2, b3, b4, b5, b6, b7⟩ := t1 hok
    obtain ⟨p1, p2, p3, p4⟩ := hspF.2 hok
    have hpa : pAt (Except.ok s : PS) = s.1 := rfl
    rw [hpa] at p2 p3
    have htl := trL_len (F (.ok s)).1
    obtain ⟨k1, k2⟩ := t_lp hd hlo hhi hb hsb hsb2 hsp hF wc hwc hs1 hq1 hql hstep 1600 0 I1 (F (.ok s)).2 S Q1 C1 (C ++ (F (.ok s)).1) fu1 gf1 (by decide) (Nat.zero_le _) hok b3 hst hl (hq0 Q1 b5) b4 (by rw [List.length_append]; omega) b6 b7
    refine ⟨fun q => ?_, fun q => ?_⟩
    · obtain ⟨I3, fu3, gf3, Q3, C3, d1, d2, d3, d4, d5, d6, d7⟩ := k1 q
      refine ⟨I3, fu3, gf3, Q3, C3, by rw [b1]; exact d1, frV_t b2 d2, d3, ?_, d5, d6, d7⟩
      rw [d4, List.append_assoc]
    · obtain ⟨I3, d1, d2, d3⟩ := k2 q
      exact ⟨I3, by rw [b1]; exact d1, frV_t b2 d2, d3⟩
theorem stopA_ft {S : List Nat} (h : stopA true S) : stopA false S := by
  rcases h with e | ⟨S', x, e, hx⟩
  · exact Or.inl e
  · refine Or.inr ⟨S', x, e, ?_⟩
    rcases hx with z | ⟨z, _⟩
    · exact Or.inl z
    · cases z
theorem t_sumB {S0 : PS → List (Nat × Nat) × PS} {d : Nat} (hd : d ≤ 6) (hsp : 1 ≤ d → spOK T n nR nS (14 - 2 * d) S0) (hE : 1 ≤ d → ∀ r, pIn n r → pOk (S0 r).2 = true → pOw T n (S0 r).2 ≠ 22 ∧ pOw T n (S0 r).2 ≠ 23 ∧ pOw T n (S0 r).2 ≠ 24) (hS : 1 ≤ d → tGo X J v T n nR nS nm k0 (d - 1) S0 0 (stopA true) (fun Q => Q.length ≤ 2 ∧ ∀ q, q ∈ Q → q = 1 ∨ q = 2 ∨ q = 3) mR 2) : tGo X J v T n nR nS nm k0 d (pSumB T n nR nS nm S0 d) 0 (stopA true) (fun Q => Q.length ≤ 2 ∧ ∀ q, q ∈ Q → q = 1 ∨ q = 2 ∨ q = 3) mR 2 := by
  have h1 : tGo X J v T n nR nS nm k0 d (pBoth T n nR nS nm S0 d) 1 (stopA false) (fun Q => Q.length ≤ 1 ∧ ∀ q, q ∈ Q → q = 1 ∨ q = 2) mR 2 := t_lpB (lo := 23) (hi := 24) (b := 14 - 2 * d) (sb1 := 2) (stop1 := fun _ => True) (QP1 := fun Q => Q = []) hd (by decide) (by decide) (by omega) (by decide) (by decide) (sp_one hd hsp) (t_one hd hsp hE hS) (fun z => z.toNat - 22) (fun z z1 z2 => by
      rcases (show z = 23 ∨ z = 24 by omega) with e | e
      · subst e; exact ⟨rfl, by decide⟩
      · subst e; exact ⟨rfl, by decide⟩) (fun _ _ _ _ _ => trivial) (fun _ _ => trivial) (fun Q z hQ z1 z2 => by
      subst hQ
      refine ⟨Nat.le_refl _, fun q hq => ?_⟩
      rw [List.nil_append] at hq
      rw [List.mem_singleton.mp hq]
      omega) (fun Q hQ => by subst hQ; exact ⟨Nat.zero_le _, fun q hq => by cases hq⟩) (fun Q hQ => by have := hQ.1; omega) (fun I r S Q C fu gf h w1 w2 hst hQ hl hk => mR_and h (by omega) hst hQ.2 hl hk)
  have h2 : spOK T n nR nS (13 - 2 * d) (pBoth T n nR nS nm S0 d) := sp_lpB (by decide) (by decide) (by omega) (by rw [show 13 - 2 * d + 1 = 14 - 2 * d by omega]; exact sp_one hd hsp)
  exact t_lpB (lo := 22) (hi := 22) (b := 13 - 2 * d) (sb1 := 1) (stop1 := stopA false) (QP1 := fun Q => Q.length ≤ 1 ∧ ∀ q, q ∈ Q → q = 1 ∨ q = 2) hd (by decide) (by decide) (by omega) (by decide) (by decide) h2 h1 (fun _ => 3) (fun z z1 z2 => by
      have e : z = 22 := by omega
      subst e; exact ⟨rfl, by decide⟩) (fun S z _ _ _ => Or.inr ⟨S, 3, rfl, Or.inr ⟨rfl, rfl⟩⟩) (fun S hS => stopA_ft hS) (fun Q z hQ _ _ => by
      refine ⟨by rw [List.length_append, List.length_singleton]; have := hQ.1; omega, fun q hq => ?_⟩
      rcases List.mem_append.mp hq with z | z
      · rcases hQ.2 q z with e | e
        · exact Or.inl e
        · exact Or.inr (Or.inl e)
      · exact Or.inr (Or.inr (List.mem_singleton.mp z))) (fun Q hQ => ⟨by have := hQ.1; omega, fun q hq => by rcases hQ.2 q hq with e | e; exact Or.inl e; exact Or.inr (Or.inl e)⟩) (fun Q hQ => hQ.1) (fun I r S Q C fu gf h w1 w2 hst hQ hl hk => mR_or h (by omega) hst hQ.2 hl hk)
/-- where a sum ends -/
theorem pOw_end {r : PS} {i : Nat} (hn : n ≤ 1600) (hin : pIn n r) (h : 1600 ≤ pAt r) : pOw T n r = -1 := by
  have hw := pOw_r T n r
  rcases (show pOw T n r = -1 ∨ 0 ≤ pOw T n r by omega) with q | q
  · exact q
  · have hk := pKd_ow (T := T) (n := n) q
    cases r with
    | error e => rfl
    | ok s =>
      have h1 := (tk1 (show tkK T n s.1 s.2 = 1 from hk)).1
      have h2 : 1600 ≤ s.1 := h
      omega
theorem pLp_end {F : PS → List (Nat × Nat) × PS} {lo hi b : Nat} {E : PS → Prop} (hlo : 22 ≤ lo) (hhi : hi ≤ 24) (hn : n ≤ 1600) (hsp : spOK T n nR nS b F) (hF : ∀ r, pIn n r → pOk (F r).2 = true → E (F r).2) : ∀ (f i : Nat) (r : PS), i + f = 1600 → pIn n r → (pOk r = true → i ≤ pAt r) → (pOk r = true → E r) → pOk (pLp T n lo hi F f r).2 = true → E (pLp T n lo hi F f r).2 ∧ ¬ ((lo : Int) ≤ pOw T n (pLp T n lo hi F f r).2 ∧ pOw T n (pLp T n lo hi F f r).2 ≤ hi) := by
  intro f
  induction f with
  | zero =>
    intro i r hi' hin hia hE hok
    have hok' : pOk r = true := hok
    refine ⟨hE hok', ?_⟩
    show ¬ ((lo : Int) ≤ pOw T n r ∧ pOw T n r ≤ hi)
    have := hia hok'
    rw [pOw_end (i := i) hn hin (by omega)]
    omega
  | succ f ih =>
    intro i r hi' hin hia hE hok
    have e : pLp T n lo hi F (f + 1) r = if (lo : Int) ≤ pOw T n r ∧ pOw T n r ≤ hi then ((F (pAdv T n r)).1 ++ ((pOw T n r).toNat - 19, 0) :: (pLp T n lo hi F f (F (pAdv T n r)).2).1, (pLp T n lo hi F f (F (pAdv T n r)).2).2) else ([], r) := rfl
    rw [e] at hok ⊢
    by_cases c : (lo : Int) ≤ pOw T n r ∧ pOw T n r ≤ hi
    · rw [if_pos c] at hok ⊢
      have ho := pOw_ok (T := T) (n := n) (r := r) (by omega)
      have hl := pAdv_lt (T := T) (n := n) ho (by rw [pKd_ow (by omega)]; decide)
      have hspF := hsp (pAdv T n r) (pAdv_in hin)
      exact ih (i + 1) (F (pAdv T n r)).2 (by omega) hspF.1 (fun q => by
        have := (hspF.2 q).2.2.1
        have := hia ho
        omega) (fun q => hF _ (pAdv_in hin) q) hok
    · rw [if_neg c] at hok ⊢
      exact ⟨hE hok, c⟩
theorem pSumB_end {S0 : PS → List (Nat × Nat) × PS} {d : Nat} (hn : n ≤ 1600) (hd : d ≤ 6) (hsp : 1 ≤ d → spOK T n nR nS (14 - 2 * d) S0) {r : PS} (hin : pIn n r) (hok : pOk (pSumB T n nR nS nm S0 d r).2 = true) : pOw T n (pSumB T n nR nS nm S0 d r).2 ≠ 22 ∧ pOw T n (pSumB T n nR nS nm S0 d r).2 ≠ 23 ∧ pOw T n (pSumB T n nR nS nm S0 d r).2 ≠ 24 := by
  have h1 := sp_one (T := T) (n := n) (nR := nR) (nS := nS) (nm := nm) hd hsp
  have h2 : spOK T n nR nS (13 - 2 * d) (pBoth T n nR nS nm S0 d) := sp_lpB (by decide) (by decide) (by omega) (by rw [show 13 - 2 * d + 1 = 14 - 2 * d by omega]; exact h1)
  have hb : ∀ r, pIn n r → pOk (pBoth T n nR nS nm S0 d r).2 = true → pOw T n (pBoth T n nR nS nm S0 d r).2 ≠ 23 ∧ pOw T n (pBoth T n nR nS nm S0 d r).2 ≠ 24 := by
    intro r hin hok
    have := (pLp_end (T := T) (n := n) (lo := 23) (hi := 24) (E := fun _ => True) (by decide) (by decide) hn h1 (fun _ _ _ => trivial) 1600 0 (pOne T n nR nS nm S0 d r).2 (by decide) (h1 r hin).1 (fun _ => Nat.zero_le _) (fun _ => trivial) hok).2
    have e : (pLp T n 23 24 (pOne T n nR nS nm S0 d) 1600 (pOne T n nR nS nm S0 d r).2).2 = (pBoth T n nR nS nm S0 d r).2 := rfl
    rw [e] at this
    omega
  have := pLp_end (T := T) (n := n) (lo := 22) (hi := 22) (E := fun r => pOw T n r ≠ 23 ∧ pOw T n r ≠ 24) (by decide) (by decide) hn h2 hb 1600 0 (pBoth T n nR nS nm S0 d r).2 (by decide) (h2 r hin).1 (fun _ => Nat.zero_le _) (fun q => hb r hin q) hok
  have e : (pLp T n 22 22 (pBoth T n nR nS nm S0 d) 1600 (pBoth T n nR nS nm S0 d r).2).2 = (pSumB T n nR nS nm S0 d r).2 := rfl
  rw [e] at this
  refine ⟨?_, this.1.1, this.1.2⟩
  have := this.2
  omega
theorem t_sum (hn : n ≤ 1600) : ∀ d : Nat, d ≤ 6 → tGo X J v T n nR nS nm k0 d (pSum T n nR nS nm d) 0 (stopA true) (fun Q => Q.length ≤ 2 ∧ ∀ q, q ∈ Q → q = 1 ∨ q = 2 ∨ q = 3) mR 2 := by
  intro d
  induction d with
  | zero => intro hd; exact t_sumB hd (fun q => by omega) (fun q => by omega) (fun q => by omega)
  | succ d ih =>
    intro hd
    have hsp := sp_sum (T := T) (n := n) (nR := nR) (nS := nS) (nm := nm) d (by omega)
    refine t_sumB hd (fun _ => by rw [show 14 - 2 * (d + 1) = 12 - 2 * d by omega]; exact hsp) (fun _ r hin hok => ?_) (fun _ => ih (by omega))
    cases d with
    | zero => exact pSumB_end hn (by omega) (fun q => by omega) hin hok
    | succ d => exact pSumB_end hn (by omega) (fun _ => by rw [show 14 - 2 * (d + 1) = 12 - 2 * d by omega]; exact sp_sum d (by omega)) hin hok
theorem pSum_end (hn : n ≤ 1600) {r : PS} (hin : pIn n r) (hok : pOk (pSum T n nR nS nm 6 r).2 = true) : pOw T n (pSum T n nR nS nm 6 r).2 ≠ 22 ∧ pOw T n (pSum T n nR nS nm 6 r).2 ≠ 23 ∧ pOw T n (pSum T n nR nS nm 6 r).2 ≠ 24 := pSumB_end (d := 6) (S0 := pSum T n nR nS nm 5) hn (by decide) (fun _ => sp_sum 5 (by decide)) hin hok
end gMv
