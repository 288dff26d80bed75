/-! SUMS of the reference: the machine -/
def gk20 (s25 : gH) : Option (Int32 × gH) := gb2 (gcv s25 267 12 (fX12_joins 267 0 s25)) fun (_ : Unit) s27 => gb2 (gcv s27 267 12 (fX12_opens 267 1 s27)) fun (_ : Unit) s29 => some (1, s29)
def gk41 (s25 : gH) : Option (Int32 × gH) := gb2 (gcv s25 267 12 (fX12_joins 267 0 s25)) fun (_ : Unit) s27 => gb2 (gcv s27 267 12 (fX12_opens 267 2 s27)) fun (_ : Unit) s29 => some (1, s29)
def gk62 (s25 : gH) : Option (Int32 × gH) := gb2 (gcv s25 267 12 (fX12_joins 267 1 s25)) fun (_ : Unit) s27 => gb2 (gcv s27 267 12 (fX12_opens 267 3 s27)) fun (_ : Unit) s29 => some (1, s29)
def goL (gf : Nat) (s : gH) : Option (Int32 × gH) := gX12_goesOn_L0 gk20 gk41 gk62 267 gf s
def goR (gf : Nat) (s5 : gH) : Option (Int32 × gH) := gb2 (gcv s5 267 12 (fX12_takes 267 23 s5)) fun r6 s7 => if r6 = 0 then gb2 (gcv s7 267 12 (fX12_takes 267 24 s7)) fun r9 s10 => if r9 = 0 then gb2 (gcv s10 267 12 (fX12_takes 267 22 s10)) fun r12 s13 => if r12 = 0 then gb2 (gcv s13 267 12 (fX12_joins 267 1 s13)) fun (_ : Unit) s16 => (ggI s16 267 12 26).bind fun v17 => if v17 = 0 then some (0, s16) else gb2 (gcv s16 267 12 (fX12_asksSign 267 41 s16)) fun (_ : Unit) s20 => (ggI s20 267 12 26).bind fun v21 => (spI s20 267 12 26 (v21 - 1)).bind fun s22 => (ggI s22 267 12 27).bind fun v23 => (spI s22 267 12 27 (v23 - 1)).bind fun s24 => goL gf s24 else gk62 s13 else gk41 s10 else gk20 s7
theorem goL_eq (gf : Nat) (s0 : gH) : goL (gf + 1) s0 = (ggI s0 267 12 5).bind fun v2 => if v2 = 0 then gb2 (gcv s0 267 12 (fX12_movesTold 267 s0)) fun (_ : Unit) s5 => goR gf s5 else some (0, s0) := rfl
def mQ (fu gf : Nat) (s : gH) : Option (Unit × gH) := gb2 (gzr (goL gf s)) (gX12_sumTold_L23 267 fu)
def mR (fu gf : Nat) (s : gH) : Option (Unit × gH) := gb2 (gzr (goR gf s)) (gX12_sumTold_L23 267 fu)
theorem L23_eq (fu : Nat) (x1 : Int32) (s0 : gH) : gX12_sumTold_L23 267 (fu + 1) x1 s0 = if x1 = 0 then some ((), s0) else (ggI s0 267 12 5).bind fun v9 => if v9 = 0 then gb2 (gcv s0 267 12 (fX12_look 267 s0)) fun r11 s12 => if r11 = 40 then (ggI s12 267 12 27).bind fun v14 => gjn (fun (s16 : gH) => (ggI s16 267 12 27).bind fun v17 => (spI s16 267 12 27 (v17 + 1)).bind fun s18 => gb2 (gcv s18 267 12 (fX12_opens 267 0 s18)) fun (_ : Unit) s20 => (ggI s20 267 12 2).bind fun v21 => (spI s20 267 12 2 (v21 + 1)).bind fun s22 => gX12_sumTold_L23 267 fu x1 s22) fun j15 => if v14 = 6 then (ggI s12 267 12 2).bind fun v24 => gb2 (gcv s12 267 12 (fX12_fail 267 5 v24 s12)) fun (_ : Unit) s26 => j15 s26 else j15 s12 else gb2 (gcv s12 267 12 (fX12_takes 267 28 s12)) fun r27 s28 => if r27 = 0 then gb2 (gcv s28 267 12 (fX12_what 267 s28)) fun r34 s35 => gb2 (gcv s35 267 12 (fX12_codes 267 0 r34 s35)) fun (_ : Unit) s37 => gb2 (gcv s37 267 12 (gzr (goL 20000 s37))) (gX12_sumTold_L23 267 fu) else gb2 (gcv s28 267 12 (fX12_daysTold 267 s28)) fun (_ : Unit) s39 => gb2 (gcv s39 267 12 (gzr (goL 20000 s39))) (gX12_sumTold_L23 267 fu) else some ((), s0) := rfl
def cfg (T : Nat → Nat) (n nR nS : Nat) (nm : Nat → List Nat) (k0 : Nat) (I : Nat → Nat → Int32) (r : PS) (S : List Nat) (p : Nat) (C : List (Nat × Nat)) : Prop := mX I T n ∧ mO I T n r ∧ mNm I nR nS nm ∧ mCal I ∧ stK I S ∧ I 267 27 = iZ (p : Int) ∧ cfC I k0 C
def ops (S : List Nat) : Nat := (S.filter (fun x => x != 0)).length
theorem ops_app (S S' : List Nat) : ops (S ++ S') = ops S + ops S' := by unfold ops; rw [List.filter_append, List.length_append]
section gMy
variable {X : Nat × (Nat → Int32)} {J : Nat → Nat → Int64} {v : Vt} {T : Nat → Nat} {n nR nS : Nat} {nm : Nat → List Nat} {k0 : Nat}
theorem stK_M {I I' : Nat → Nat → Int32} {S : List Nat} (h : stK I S) (f1 : I' 267 26 = I 267 26) (f2 : ∀ j, I' 279 j = I 279 j) : stK I' S := ⟨by rw [f1]; exact h.1, fun j hj => by rw [f2]; exact h.2 j hj⟩
theorem cfg_M {I I' : Nat → Nat → Int32} {r r' : PS} {S : List Nat} {p : Nat} {C : List (Nat × Nat)} (h : cfg T n nR nS nm k0 I r S p C) (f : frM I I') (hr : mO I' T n r') : cfg T n nR nS nm k0 I' r' S p C := by
  obtain ⟨h1, h2, h3, h4, h5, h6, h7⟩ := h
  exact ⟨mX_M h1 f, hr, mNm_M h3 (fun k => f.1 275 k (by decide)), mCal_5 h4 (frD5_M (k := 0) f), stK_M h5 (f.2 26 (by decide) (by decide) (by decide) (by decide) (by decide) (by decide)) (fun j => f.1 279 j (by decide)), by rw [f.2 27 (by decide) (by decide) (by decide) (by decide) (by decide) (by decide)]; exact h6, cfC_m h7 f⟩
theorem mQ_err {I : Nat → Nat → Int32} {r : PS} {fu gf : Nat} (hr : mO I T n r) (hok : pOk r = false) : mQ (fu + 1) (gf + 1) (mkS X I J v) = some ((), mkS X I J v) := by
  unfold mQ
  rw [goL_eq]
  simp only [bO, o267]
  rw [if_neg (mO_err hr hok), gzr_0, gb2_some, L23_eq, if_pos rfl]
theorem mR_err {I : Nat → Nat → Int32} {r : PS} {fu gf m : Nat} (h : mX I T n) (hr : mO I T n r) (hok : pOk r = false) (hm : m ≤ 64) (h26 : I 267 26 = iZ (m : Int)) : ∃ I', mR (fu + 1) (gf + 1) (mkS X I J v) = some ((), mkS X I' J v) ∧ frV k0 I I' ∧ mO I' T n r := by
  have hno : pOw T n r = -1 := by
    cases r with
    | ok s => cases hok
    | error e => rfl
  unfold mR goR
  simp only [o267]
  obtain ⟨I1, a1, a2, a3, -⟩ := m_takes (X := X) (J := J) (v := v) (w := 23) (by decide) h hr
  rw [hno, if_neg (by omega)] at a3
  have a1' : fX12_takes 267 23 (mkS X I J v) = some (0, mkS X I1 J v) := by rw [hno] at a1; exact a1
  rw [a1', gb2_some, if_pos rfl]
  simp only [o267]
  have h1 := mX_M h a2
  obtain ⟨I2, b1, b2, b3, -⟩ := m_takes (X := X) (J := J) (v := v) (w := 24) (by decide) h1 a3
  rw [hno, if_neg (by omega)] at b3
  have b1' : fX12_takes 267 24 (mkS X I1 J v) = some (0, mkS X I2 J v) := by rw [hno] at b1; exact b1
  rw [b1', gb2_some, if_pos rfl]
  simp only [o267]
  have h2 := mX_M h1 b2
  obtain ⟨I3, c1, c2, c3, -⟩ := m_takes (X := X) (J := J) (v := v) (w := 22) (by decide) h2 b3
  rw [hno, if_neg (by omega)] at c3
  have c1' : fX12_takes 267 22 (mkS X I2 J v) = some (0, mkS X I3 J v) := by rw [hno] at c1; exact c1
  rw [c1', gb2_some, if_pos rfl]
  simp only [o267]
  have fr3 := frM_t a2 (frM_t b2 c2)
  have e26 : I3 267 26 = iZ (m : Int) := by rw [fr3.2 26 (by decide) (by decide) (by decide) (by decide) (by decide) (by decide)]; exact h26
  obtain ⟨m', d1, d2⟩ := m_joinsE (X := X) (J := J) (v := v) hok m 20000 I3 (by omega) hm c3 e26
  unfold fX12_joins
  rw [d2]
  simp only [bO, o267, gup_s]
  have f4 : frV k0 I (gup I3 267 26 (iZ (m' : Int))) := frV_t (frV_M fr3) ⟨fun r j a _ _ _ => gup_r a, fun j a b c d e f g h i => gup_k h, fun j _ => gup_r (by decide)⟩
  have o4 : mO (gup I3 267 26 (iZ (m' : Int))) T n r := mO_7 c3 (fun k hk => gup_k (by omega))
  by_cases z : m' = 0
  · rw [if_pos (by rw [z]; rfl), gzr_0, gb2_some, L23_eq, if_pos rfl]
    exact ⟨_, rfl, f4, o4⟩
  · rw [if_neg (by rw [cL_eq (by omega) (by omega) (by decide)]; omega)]
    obtain ⟨I5, e1, e2, e3⟩ := m_asksSign (X := X) (J := J) (v := v) (c := 41) (by decide) rfl rfl (mX_V h f4) o4
    have e1' : fX12_asksSign 267 41 (mkS X (gup I3 267 26 (iZ (m' : Int))) J v) = some ((), mkS X I5 J v) := e1
    have e3' : mO I5 T n r := by
      cases r with
      | ok s => cases hok
      | error e => exact e3
    rw [e1']
    simp only [bO, o267]
    have o6 : ∀ x y : Int32, mO (gup (gup I5 267 26 x) 267 27 y) T n r := fun x y => mO_7 e3' (fun k hk => by rw [gup_k (by omega), gup_k (by omega)])
    rw [goL_eq]
    simp only [bO, o267]
    rw [if_neg (mO_err (o6 _ _) hok), gzr_0, gb2_some, L23_eq, if_pos rfl]
    refine ⟨_, rfl, frV_t f4 (frV_t (frV_M e2) ?_), o6 _ _⟩
    exact ⟨fun r j a _ _ _ => by rw [gup_r a, gup_r a], fun j a b c d e f g h i => by rw [gup_k i, gup_k h], fun j _ => by rw [gup_r (by decide), gup_r (by decide)]⟩
/-- another part is asked: and, less -/
theorem mR_and {I : Nat → Nat → Int32} {r : PS} {S Q : List Nat} {p : Nat} {C : List (Nat × Nat)} {fu gf : Nat} (h : cfg T n nR nS nm k0 I r (S ++ Q.reverse) p C) (hw : pOw T n r = 23 ∨ pOw T n r = 24) (hst : stopA false S) (hQ : ∀ q, q ∈ Q → q = 1 ∨ q = 2) (hl : S.length + Q.length < 63) (hk : k0 + C.length + Q.length < 1500) : ∃ I', mR fu gf (mkS X I J v) = gX12_sumTold_L23 267 fu 1 (mkS X I' J v) ∧ frV k0 I I' ∧ cfg T n nR nS nm k0 I' (pAdv T n r) (S ++ [(pOw T n r).toNat - 22]) p (C ++ Q.map opc) := by
  have hok := pOw_ok (T := T) (n := n) (r := r) (by omega)
  have hok1 : pOk (pAdv T n r) = true := by rw [pAdv_ok]; exact hok
  -- what waits is done, one more waits
  have fin : ∀ (I1 : Nat → Nat → Int32) (x : Nat), frM I I1 → mO I1 T n (pAdv T n r) → ∃ I', (gb2 (fX12_joins 267 0 (mkS X I1 J v)) fun (_ : Unit) s27 => gb2 (gcv s27 267 12 (fX12_opens 267 (iZ (x : Int)) s27)) fun (_ : Unit) s29 => some ((1 : Int32), s29)) = some (1, mkS X I' J v) ∧ frV k0 I I' ∧ cfg T n nR nS nm k0 I' (pAdv T n r) (S ++ [x]) p (C ++ Q.map opc) := by
    intro I1 x f1 o1
    have hc1 := cfg_M h f1 o1
    obtain ⟨h1, h2, h3, h4, h5, h6, h7⟩ := hc1
    obtain ⟨I2, b1, b2, b3, b4, b5, b6⟩ := m_joinsL (X := X) (J := J) (v := v) (k0 := k0) (all := false) hok1 hst Q 20000 I1 C (by omega) h2 h5 (by omega) (fun q hq => by rcases hQ q hq with z | z; exact Or.inl z; exact Or.inr (Or.inl z)) h7 hk
    have b1' : fX12_joins 267 0 (mkS X I1 J v) = some ((), mkS X I2 J v) := b1
    rw [b1', gb2_some]
    simp only [o267]
    obtain ⟨I3, c1, c2, c3, c4, c5, c6, c7⟩ := m_opens (X := X) (J := J) (v := v) (k0 := k0) (x := x) b3 hok1 b4 (by omega)
    rw [c1, gb2_some]
    have f3 : frV k0 I I3 := frV_t (frV_M f1) (frV_t ⟨b2.1, b2.2.1, fun j hj => b2.2.2 j (by omega)⟩ c2)
    obtain ⟨g1, g2, g3, g4, g5, g6, g7⟩ := h
    exact ⟨I3, rfl, f3, mX_V g1 f3, c3, mNm_V g3 f3, mCal_V g4 f3, c4, by rw [c5, b5]; exact h6, cfC_M b6 c6 c7⟩
  have h0 := h
  obtain ⟨h1, h2, h3, h4, h5, h6, h7⟩ := h0
  unfold mR goR
  simp only [o267]
  obtain ⟨I1, a1, a2, a3, -⟩ := m_takes (X := X) (J := J) (v := v) (w := 23) (by decide) h1 h2
  have a1' : fX12_takes 267 23 (mkS X I J v) = some (tf (pOw T n r == ((23 : Nat) : Int)), mkS X I1 J v) := a1
  rw [a1', gb2_some]
  by_cases c3 : pOw T n r = ((23 : Nat) : Int)
  · rw [show (pOw T n r == ((23 : Nat) : Int)) = true from by simpa using c3, if_neg (show ¬ tf true = 0 by decide)]
    rw [if_pos c3] at a3
    unfold gk20
    simp only [o267]
    obtain ⟨I', e1, e2, e3⟩ := fin I1 1 a2 a3
    have e1' : (gb2 (fX12_joins 267 0 (mkS X I1 J v)) fun (_ : Unit) s27 => gb2 (gcv s27 267 12 (fX12_opens 267 1 s27)) fun (_ : Unit) s29 => some ((1 : Int32), s29)) = some (1, mkS X I' J v) := e1
    rw [e1', gzr_1, gb2_some, c3]
    exact ⟨I', rfl, e2, e3⟩
  · rw [show (pOw T n r == ((23 : Nat) : Int)) = false from by simpa using c3, if_pos tf_f]
    rw [if_neg c3] at a3
    simp only [o267]
    obtain ⟨I2, b1, b2, b3, -⟩ := m_takes (X := X) (J := J) (v := v) (w := 24) (by decide) (mX_M h1 a2) a3
    have c4 : pOw T n r = ((24 : Nat) : Int) := by omega
    have b1' : fX12_takes 267 24 (mkS X I1 J v) = some (tf (pOw T n r == ((24 : Nat) : Int)), mkS X I2 J v) := b1
    rw [b1', gb2_some, show (pOw T n r == ((24 : Nat) : Int)) = true from by simpa using c4, if_neg (show ¬ tf true = 0 by decide)]
    rw [if_pos c4] at b3
    unfold gk41
    simp only [o267]
    obtain ⟨I', e1, e2, e3⟩ := fin I2 2 (frM_t a2 b2) b3
    have e1' : (gb2 (fX12_joins 267 0 (mkS X I2 J v)) fun (_ : Unit) s27 => gb2 (gcv s27 267 12 (fX12_opens 267 2 s27)) fun (_ : Unit) s29 => some ((1 : Int32), s29)) = some (1, mkS X I' J v) := e1
    rw [e1', gzr_1, gb2_some, c4]
    exact ⟨I', rfl, e2, e3⟩
/-- not and, not less -/
theorem mR_pass {I : Nat → Nat → Int32} {r : PS} {S : List Nat} {p : Nat} {C : List (Nat × Nat)} {gf : Nat} (h : cfg T n nR nS nm k0 I r S p C) (h3 : pOw T n r ≠ 23) (h4 : pOw T n r ≠ 24) : ∃ I', goR gf (mkS X I J v) = (gb2 (fX12_takes 267 22 (mkS X I' J v)) fun r12 s13 => if r12 = 0 then gb2 (gcv s13 267 12 (fX12_joins 267 1 s13)) fun (_ : Unit) s16 => (ggI s16 267 12 26).bind fun v17 => if v17 = 0 then some (0, s16) else gb2 (gcv s16 267 12 (fX12_asksSign 267 41 s16)) fun (_ : Unit) s20 => (ggI s20 267 12 26).bind fun v21 => (spI s20 267 12 26 (v21 - 1)).bind fun s22 => (ggI s22 267 12 27).bind fun v23 => (spI s22 267 12 27 (v23 - 1)).bind fun s24 => goL gf s24 else gk62 s13) ∧ frM I I' ∧ cfg T n nR nS nm k0 I' r S p C := by
  have h0 := h
  obtain ⟨g1, g2, g3, g4, g5, g6, g7⟩ := h0
  unfold goR
  simp only [o267]
  obtain ⟨I1, a1, a2, a3, -⟩ := m_takes (X := X) (J := J) (v := v) (w := 23) (by decide) g1 g2
  have c3 : ¬ pOw T n r = ((23 : Nat) : Int) := h3
  have a1' : fX12_takes 267 23 (mkS X I J v) = some (tf (pOw T n r == ((23 : Nat) : Int)), mkS X I1 J v) := a1
  rw [a1', gb2_some, show (pOw T n r == ((23 : Nat) : Int)) = false from by simpa using c3, if_pos tf_f]
  rw [if_neg c3] at a3
  simp only [o267]
  obtain ⟨I2, b1, b2, b3, -⟩ := m_takes (X := X) (J := J) (v := v) (w := 24) (by decide) (mX_M g1 a2) a3
  have c4 : ¬ pOw T n r = ((24 : Nat) : Int) := h4
  have b1' : fX12_takes 267 24 (mkS X I1 J v) = some (tf (pOw T n r == ((24 : Nat) : Int)), mkS X I2 J v) := b1
  rw [b1', gb2_some, show (pOw T n r == ((24 : Nat) : Int)) = false from by simpa using c4, if_pos tf_f]
  rw [if_neg c4] at b3
  simp only [o267]
  exact ⟨I2, rfl, frM_t a2 b2, cfg_M h (frM_t a2 b2) b3⟩
/-- another part is asked: or -/
theorem mR_or {I : Nat → Nat → Int32} {r : PS} {S Q : List Nat} {p : Nat} {C : List (Nat × Nat)} {fu gf : Nat} (h : cfg T n nR nS nm k0 I r (S ++ Q.reverse) p C) (hw : pOw T n r = 22) (hst : stopA true S) (hQ : ∀ q, q ∈ Q → q = 1 ∨ q = 2 ∨ q = 3) (hl : S.length + Q.length < 63) (hk : k0 + C.length + Q.length < 1500) : ∃ I', mR fu gf (mkS X I J v) = gX12_sumTold_L23 267 fu 1 (mkS X I' J v) ∧ frV k0 I I' ∧ cfg T n nR nS nm k0 I' (pAdv T n r) (S ++ [3]) p (C ++ Q.map opc) := by
  have hok := pOw_ok (T := T) (n := n) (r := r) (by omega)
  have hok1 : pOk (pAdv T n r) = true := by rw [pAdv_ok]; exact hok
  obtain ⟨I0, z1, z2, z3⟩ := mR_pass (X := X) (J := J) (v := v) (gf := gf) h (by omega) (by omega)
  have h0 := z3
  obtain ⟨g1, g2, g3, g4, g5, g6, g7⟩ := h0
  unfold mR
  rw [z1]
  obtain ⟨I1, a1, a2, a3, -⟩ := m_takes (X := X) (J := J) (v := v) (w := 22) (by decide) g1 g2
  have c2 : pOw T n r = ((22 : Nat) : Int) := hw
  have a1' : fX12_takes 267 22 (mkS X I0 J v) = some (tf (pOw T n r == ((22 : Nat) : Int)), mkS X I1 J v) := a1
  rw [a1', gb2_some, show (pOw T n r == ((22 : Nat) : Int)) = true from by simpa using c2, if_neg (show ¬ tf true = 0 by decide)]
  rw [if_pos c2] at a3
  unfold gk62
  simp only [o267]
  obtain ⟨h1, h2, h3, h4, h5, h6, h7⟩ := cfg_M z3 a2 a3
  obtain ⟨I2, b1, b2, b3, b4, b5, b6⟩ := m_joinsL (X := X) (J := J) (v := v) (k0 := k0) (all := true) hok1 hst Q 20000 I1 C (by omega) h2 h5 (by omega) (fun q hq => by rcases hQ q hq with z | z | z; exact Or.inl z; exact Or.inr (Or.inl z); exact Or.inr (Or.inr ⟨rfl, z⟩)) h7 hk
  have b1' : fX12_joins 267 1 (mkS X I1 J v) = some ((), mkS X I2 J v) := b1
  rw [b1', gb2_some]
  simp only [o267]
  obtain ⟨I3, c1, c2, c3, c4, c5, c6, c7⟩ := m_opens (X := X) (J := J) (v := v) (k0 := k0) (x := 3) b3 hok1 b4 (by omega)
  have c1' : fX12_opens 267 3 (mkS X I2 J v) = some ((), mkS X I3 J v) := c1
  rw [c1', gb2_some, gzr_1, gb2_some]
  have f3 : frV k0 I I3 := frV_t (frV_M (frM_t z2 a2)) (frV_t ⟨b2.1, b2.2.1, fun j hj => b2.2.2 j (by omega)⟩ c2)
  obtain ⟨k1, k2, k3, k4, k5, k6, k7⟩ := h
  exact ⟨I3, rfl, f3, mX_V k1 f3, c3, mNm_V k3 f3, mCal_V k4 f3, c4, by rw [c5, b5]; exact h6, cfC_M b6 c6 c7⟩
/-- all that waits is done -/
theorem mR_flush {I : Nat → Nat → Int32} {r : PS} {S Q : List Nat} {p : Nat} {C : List (Nat × Nat)} {gf : Nat} (h : cfg T n nR nS nm k0 I r (S ++ Q.reverse) p C) (hok : pOk r = true) (h2' : pOw T n r ≠ 22) (h3' : pOw T n r ≠ 23) (h4' : pOw T n r ≠ 24) (hst : stopA true S) (hQ : ∀ q, q ∈ Q → q = 1 ∨ q = 2 ∨ q = 3) (hl : S.length + Q.length < 63) (hk : k0 + C.length + Q.length < 1500) : ∃ I', goR gf (mkS X I J v) = (if iZ (S.length : Int) = 0 then some (0, mkS X I' J v) else gb2 (fX12_asksSign 267 41 (mkS X I' J v)) fun (_ : Unit) s20 => (ggI s20 267 12 26).bind fun v21 => (spI s20 267 12 26 (v21 - 1)).bind fun s22 => (ggI s22 267 12 27).bind fun v23 => (spI s22 267 12 27 (v23 - 1)).bind fun s24 => goL gf s24) ∧ frV k0 I I' ∧ cfg T n nR nS nm k0 I' r S p (C ++ Q.map opc) := by
  obtain ⟨I0, z1, z2, z3⟩ := mR_pass (X := X) (J := J) (v := v) (gf := gf) h h3' h4'
  have h0 := z3
  obtain ⟨g1, g2, g3, g4, g5, g6, g7⟩ := h0
  rw [z1]
  obtain ⟨I1, a1, a2, a3, -⟩ := m_takes (X := X) (J := J) (v := v) (w := 22) (by decide) g1 g2
  have c2 : ¬ pOw T n r = ((22 : Nat) : Int) := h2'
  have a1' : fX12_takes 267 22 (mkS X I0 J v) = some (tf (pOw T n r == ((22 : Nat) : Int)), mkS X I1 J v) := a1
  rw [a1', gb2_some, show (pOw T n r == ((22 : Nat) : Int)) = false from by simpa using c2, if_pos tf_f]
  rw [if_neg c2] at a3
  simp only [o267]
  obtain ⟨h1, h2, h3, h4, h5, h6, h7⟩ := cfg_M z3 a2 a3
  obtain ⟨I2, b1, b2, b3, b4, b5, b6⟩ := m_joinsL (X := X) (J := J) (v := v) (k0 := k0) (all := true) hok hst Q 20000 I1 C (by omega) h2 h5 (by omega) (fun q hq => by rcases hQ q hq with z | z | z; exact Or.inl z; exact Or.inr (Or.inl z); exact Or.inr (Or.inr ⟨rfl, z⟩)) h7 hk
  have b1' : fX12_joins 267 1 (mkS X I1 J v) = some ((), mkS X I2 J v) := b1
  rw [b1', gb2_some]
  simp only [bO, o267, b4.1]
  have f2 : frV k0 I I2 := frV_t (frV_M (frM_t z2 a2)) ⟨b2.1, b2.2.1, fun j hj => b2.2.2 j (by omega)⟩
  obtain ⟨k1, k2, k3, k4, k5, k6, k7⟩ := h
  exact ⟨I2, rfl, f2, mX_V k1 f2, b3, mNm_V k3 f2, mCal_V k4 f2, b4, by rw [b5]; exact h6, b6⟩
end gMy
