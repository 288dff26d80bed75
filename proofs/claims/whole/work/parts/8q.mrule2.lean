/-! A RULE is told to the reference -/
def ruT (v2 r21 : Int32) (s28 : gH) : Option (Unit × gH) :=
  (ggR s28 267 12 18).bind fun v29 => gb2 (fX12_ruleAt v2 2 s28) fun r30 s31 => (saI s31 v29 2 r30 r21).bind fun s32 =>
  gb2 (gcv s32 267 12 (fX12_asks 267 19 s32)) fun (_ : Unit) s34 => (ggR s34 267 12 18).bind fun v35 => gb2 (fX12_ruleAt v2 3 s34) fun r36 s37 =>
  gb2 (gcv s37 267 12 (fX12_date 267 s37)) fun r38 s39 => (saI s39 v35 2 r36 r38).bind fun s40 => (ggR s40 267 12 18).bind fun v41 => gb2 (fX12_ruleAt v2 40 s40) fun r42 s43 =>
  (saI s43 v41 2 r42 (-1)).bind fun s44 => (ggR s44 267 12 18).bind fun v45 => gb2 (fX12_ruleAt v2 41 s44) fun r46 s47 => (saI s47 v45 2 r46 (-1)).bind fun s48 =>
  gb2 (gcv s48 267 12 (fX12_ownHere 267 s48)) fun r49 s50 => gX12_ruleTold_L187 (fun s76 => (ggI s76 267 12 5).bind fun v77 => if v77 = 0 then (ggR s76 267 12 18).bind fun v79 => (gaI s76 v79 2 0).bind fun v80 => (saI s76 v79 2 0 (v80 + 1)).bind fun s81 => some ((), s81) else some ((), s76)) 267 v2 20000 0 r49 s50
def ruP (v2 r21 : Int32) (s25 : gH) : Option (Unit × gH) := (ggI s25 267 12 5).bind fun v26 => if v26 = 0 then gb2 (gcv s25 267 12 (fX12_passes 267 s25)) fun (_ : Unit) s84 => ruT v2 r21 s84 else ruT v2 r21 s25
def ruU (v2 r21 : Int32) (s22 : gH) : Option (Unit × gH) := (ggI s22 267 12 5).bind fun v23 => if v23 = 0 then gb2 (fX12_isIn r21.toInt64 0 3 s22) fun r86 s87 => if r86 = 0 then gb2 (gcv s87 267 12 (fX12_look 267 s87)) fun r89 s90 => if r89 = -1 then (ggI s90 267 12 3).bind fun v99 => gb2 (gcv s90 267 12 (fX12_fail 267 1 v99 s90)) fun (_ : Unit) s97 => ruP v2 r21 s97 else (ggI s90 267 12 2).bind fun v100 => gb2 (gcv s90 267 12 (fX12_fail 267 1 v100 s90)) fun (_ : Unit) s97 => ruP v2 r21 s97 else ruP v2 r21 s87 else ruP v2 r21 s22
def ruN (v2 : Int32) (s4 : gH) : Option (Unit × gH) := (ggI s4 267 12 5).bind fun v5 => if v5 = 0 then (ggR s4 267 12 18).bind fun v7 => gb2 (fX12_ruleAt v2 0 s4) fun r8 s9 => gb2 (gcv s9 267 12 (fX12_newName 267 s9)) fun r10 s11 => (saI s11 v7 2 r8 r10).bind fun s12 => gb2 (gcv s12 267 12 (fX12_asks 267 18 s12)) fun (_ : Unit) s14 => (ggR s14 267 12 18).bind fun v15 => gb2 (fX12_ruleAt v2 1 s14) fun r16 s17 => gb2 (gcv s17 267 12 (fX12_number 267 1 99 s17)) fun r18 s19 => (saI s19 v15 2 r16 r18).bind fun s20 => gb2 (gcv s20 267 12 (fX12_ownHere 267 s20)) fun r21 s22 => ruU v2 r21 s22 else some ((), s4)
theorem ru_eq (x1 : Int32) (s0 : gH) : fX12_ruleTold 267 x1 s0 = (ggR s0 267 12 18).bind fun v1 => (gaI s0 v1 2 0).bind fun v2 => if v2 = 6 then gb2 (gcv s0 267 12 (fX12_fail 267 5 x1 s0)) fun (_ : Unit) s103 => ruN v2 s103 else ruN v2 s0 := rfl
def mgD (I : Nat → Nat → Int32) : Nat → List (Nat × Nat) → Prop
  | _, [] => True
  | k, o :: L => I 277 (2 * k) = iZ (o.1 : Int) ∧ I 277 (2 * k + 1) = iZ (o.2 : Int) ∧ mgD I (k + 1) L
theorem mgD_fr {I I' : Nat → Nat → Int32} : ∀ {L : List (Nat × Nat)} {k : Nat}, (∀ j, j < 2 * (k + L.length) → I' 277 j = I 277 j) → mgD I k L → mgD I' k L := by
  intro L
  induction L with
  | nil => intro k _ _; exact trivial
  | cons o L ih =>
    intro k e ⟨a, b, c⟩
    rw [List.length_cons] at e
    exact ⟨by rw [e _ (by omega)]; exact a, by rw [e _ (by omega)]; exact b, ih (fun j hj => e j (by omega)) c⟩
def mRD (I : Nat → Nat → Int32) (r : Nat) (R : RuL) (st : Nat) (l : List Nat) : Prop := I 275 (2 + 42 * r) = iZ (nm27 l : Nat) ∧ I 275 (2 + 42 * r + 1) = iZ (st : Int) ∧ I 275 (2 + 42 * r + 2) = iZ (R.u : Int) ∧ I 275 (2 + 42 * r + 3) = iZ (R.b : Int) ∧ I 275 (2 + 42 * r + 4) = R.mk ∧ I 275 (2 + 42 * r + 5) = iZ (R.onN : Int) ∧ (∀ k, k < R.onN → I 275 (2 + 42 * r + (6 + k)) = iZ (R.onF k)) ∧ I 275 (2 + 42 * r + 14) = iZ (R.byN : Int) ∧ (∀ k, k < R.byN → I 275 (2 + 42 * r + (15 + 2 * k)) = iZ (R.byP k)) ∧ (∀ k, k < R.byN → I 275 (2 + 42 * r + (15 + 2 * k + 1)) = iZ (R.byW k : Nat)) ∧ I 275 (2 + 42 * r + 31) = iZ (R.atN : Int) ∧ (∀ k, k < R.atN → I 275 (2 + 42 * r + (32 + k)) = iZ (R.atF k)) ∧ I 275 (2 + 42 * r + 40) = iZ R.un ∧ I 275 (2 + 42 * r + 41) = iZ R.ct
theorem mRD_fr {I I' : Nat → Nat → Int32} {r : Nat} {R : RuL} {st : Nat} {l : List Nat} (h : mRD I r R st l) (ok : RuLok R) (f : ∀ k, k < 42 → I' 275 (2 + 42 * r + k) = I 275 (2 + 42 * r + k)) : mRD I' r R st l := by
  obtain ⟨h1, h2, h3, h4, h5, h6, h7, h8, h9, h10, h11, h12, h13, h14⟩ := h
  have o1 := ok.2.2.1
  have o2 := ok.2.2.2.2.1
  have o3 := ok.2.2.2.2.2.2.2.1
  have f0 := f 0 (by decide)
  rw [Nat.add_zero] at f0
  exact ⟨by rw [f0]; exact h1, by rw [f 1 (by decide)]; exact h2, by rw [f 2 (by decide)]; exact h3, by rw [f 3 (by decide)]; exact h4, by rw [f 4 (by decide)]; exact h5, by rw [f 5 (by decide)]; exact h6, fun k hk => by rw [f (6 + k) (by omega)]; exact h7 k hk, by rw [f 14 (by decide)]; exact h8, fun k hk => by rw [f (15 + 2 * k) (by omega)]; exact h9 k hk, fun k hk => by rw [f (15 + 2 * k + 1) (by omega)]; exact h10 k hk, by rw [f 31 (by decide)]; exact h11, fun k hk => by rw [f (32 + k) (by omega)]; exact h12 k hk, by rw [f 40 (by decide)]; exact h13, by rw [f 41 (by decide)]; exact h14⟩
theorem mRD_of {I : Nat → Nat → Int32} {r u b st : Nat} {P : PD} {l : List Nat} (h : mPd I r P) (h0 : I 275 (2 + 42 * r) = iZ (nm27 l : Nat)) (h1 : I 275 (2 + 42 * r + 1) = iZ (st : Int)) (h2 : I 275 (2 + 42 * r + 2) = iZ (u : Int)) (h3 : I 275 (2 + 42 * r + 3) = iZ (b : Int)) : mRD I r (mkRul u b P) st l := by
  obtain ⟨g1, g2, g3, g4, g5, g6⟩ := h
  refine ⟨h0, h1, h2, h3, g1, g2.1, g2.2, g3.1, fun k hk => (g3.2 k hk).1, fun k hk => ?_, g4.1, g4.2, g5, g6⟩
  rw [(g3.2 k hk).2]
  congr 1
  show P.by_.getD k 0 % 8 = (((P.by_.getD k 0 % 8).toNat : Nat) : Int)
  omega
/-- the draft of a book -/
def mDf (I : Nat → Nat → Int32) (B : Bk) : Prop := I 275 0 = iZ (B.nR : Int) ∧ I 275 1 = iZ (B.nS : Int) ∧ (∀ r, r < B.nR → mRD I r (B.rl r) (B.stp r) (B.nm r)) ∧ (∀ s, s < B.nS → I 275 (254 + 3 * s) = iZ (nm27 (B.nm (6 + s)) : Nat) ∧ I 275 (254 + 3 * s + 1) = iZ (mE B.cs s : Nat) ∧ I 275 (254 + 3 * s + 2) = iZ (mE B.cs (s + 1) : Nat) ∧ mgD I (mE B.cs s) (B.cs s)) ∧ I 267 22 = iZ (mE B.cs B.nS : Nat) ∧ ∀ k, 2 + 42 * B.nR ≤ k → k < 254 → I 275 k = 0
theorem mDf_nm {I : Nat → Nat → Int32} {B : Bk} (h : mDf I B) (d : BkD B) : mNm I B.nR B.nS B.nm := ⟨d.1, d.2.1, h.1, h.2.1, fun r hr => ⟨d.2.2.2.2 r (Or.inl hr), (h.2.2.1 r hr).1⟩, fun s hs => ⟨d.2.2.2.2 (6 + s) (Or.inr ⟨by omega, by omega⟩), (h.2.2.2.1 s hs).1⟩⟩
section gMq
variable {X : Nat × (Nat → Int32)} {J : Nat → Nat → Int64} {v : Vt} {T : Nat → Nat} {n : Nat}
theorem m_ruT {I : Nat → Nat → Int32} {r7 : PS} {rr : Nat} {u : Int} (hrr : rr < 6) (u1 : -1 ≤ u) (u2 : u ≤ 30) (h : mX I T n) (hr : mO I T n r7) (hcal : mCal I) (hz : ∀ k, 4 ≤ k → k < 42 → I 275 (2 + 42 * rr + k) = 0) (h0 : I 275 0 = iZ (rr : Int)) : ∃ I', ruT (iZ (rr : Int)) (iZ u) (mkS X I J v) = some ((), mkS X I' J v) ∧ frN (2 + 42 * rr) (2 + 42 * rr + 42) I (gup I' 275 0 (iZ (rr : Int))) ∧ mO I' T n (pParts T n u 8 (fun _ => false) P0 (pDate T n (pPass T n (pOw T n r7 == 19) r7))).2 ∧ (pOk (pParts T n u 8 (fun _ => false) P0 (pDate T n (pPass T n (pOw T n r7 == 19) r7))).2 = true → mPd I' rr (pParts T n u 8 (fun _ => false) P0 (pDate T n (pPass T n (pOw T n r7 == 19) r7))).1 ∧ I' 275 (2 + 42 * rr + 2) = iZ u ∧ I' 275 (2 + 42 * rr + 3) = iZ (pDateV T n (pPass T n (pOw T n r7 == 19) r7) : Nat) ∧ I' 275 (2 + 42 * rr) = I 275 (2 + 42 * rr) ∧ I' 275 (2 + 42 * rr + 1) = I 275 (2 + 42 * rr + 1) ∧ I' 275 0 = iZ ((rr + 1 : Nat) : Int)) := by
  have q2 : ∀ s : gH, fX12_ruleAt (iZ (rr : Int)) 2 s = some (iZ ((2 + 42 * rr + 2 : Nat) : Int), s) := fun s => m_ruleAtn (k := 2)
  have q3 : ∀ s : gH, fX12_ruleAt (iZ (rr : Int)) 3 s = some (iZ ((2 + 42 * rr + 3 : Nat) : Int), s) := fun s => m_ruleAtn (k := 3)
  have q40 : ∀ s : gH, fX12_ruleAt (iZ (rr : Int)) 40 s = some (iZ ((2 + 42 * rr + 40 : Nat) : Int), s) := fun s => m_ruleAtn (k := 40)
  have q41 : ∀ s : gH, fX12_ruleAt (iZ (rr : Int)) 41 s = some (iZ ((2 + 42 * rr + 41 : Nat) : Int), s) := fun s => m_ruleAtn (k := 41)
  unfold ruT
  simp only [bO, o267R, q2]
  rw [b275 _ _ _ _ _ _ (by omega)]
  simp only [bO, o267, gnar_2]
  have f1 : frN (2 + 42 * rr) (2 + 42 * rr + 42) I (gup I 275 (2 + 42 * rr + 2) (iZ u)) := frN_g (by omega) (by omega)
  have h1 := mX_N h f1
  have o1 : mO (gup I 275 (2 + 42 * rr + 2) (iZ u)) T n r7 := mO_7 hr (fun k _ => gup_r (by decide))
  obtain ⟨I2, a1, a2, a3⟩ := m_asks (X := X) (J := J) (v := v) (w := 19) (by decide) h1 o1
  have a1' : fX12_asks 267 19 (mkS X (gup I 275 (2 + 42 * rr + 2) (iZ u)) J v) = some ((), mkS X I2 J v) := a1
  have a3' : mO I2 T n (pPass T n (pOw T n r7 == 19) r7) := a3
  rw [a1']
  simp only [bO, o267, o267R, q3]
  have h2 := mX_M h1 a2
  have f2 := frN_t f1 (frN_M a2)
  obtain ⟨I3, x3, b1, b2, b3, b4⟩ := m_date (X := X) (J := J) (v := v) h2 a3' (mCal_N hcal f2)
  rw [b1]
  simp only [bO]
  rw [b275 _ _ _ _ _ _ (by omega)]
  simp only [bO, o267R, q40, gnar_2]
  rw [b275 _ _ _ _ _ _ (by omega)]
  simp only [bO, o267R, q41, gnar_2]
  rw [b275 _ _ _ _ _ _ (by omega)]
  simp only [bO, o267, gnar_2]
  have f3 := frN_t f2 (frN_M b2)
  have f6 : frN (2 + 42 * rr) (2 + 42 * rr + 42) I (gup (gup (gup I3 275 (2 + 42 * rr + 3) x3) 275 (2 + 42 * rr + 40) (-1)) 275 (2 + 42 * rr + 41) (-1)) := frN_t f3 (frN_t (frN_g (by omega) (by omega)) (frN_t (frN_g (by omega) (by omega)) (frN_g (by omega) (by omega))))
  have h6 := mX_N h f6
  have o6 : mO (gup (gup (gup I3 275 (2 + 42 * rr + 3) x3) 275 (2 + 42 * rr + 40) (-1)) 275 (2 + 42 * rr + 41) (-1)) T n (pDate T n (pPass T n (pOw T n r7 == 19) r7)) := mO_7 b3 (fun k _ => by rw [gup_r (by decide), gup_r (by decide), gup_r (by decide)])
  obtain ⟨I7, c1, c2, c3, c4⟩ := m_ownHere (X := X) (J := J) (v := v) h6 o6
  rw [c1, gb2_some]
  have f7 := frN_t f6 (frN_M c2)
  have h7 := mX_M h6 c2
  -- what the rule's row has
  have k7 : ∀ k, k ≠ 2 + 42 * rr + 2 → k ≠ 2 + 42 * rr + 3 → k ≠ 2 + 42 * rr + 40 → k ≠ 2 + 42 * rr + 41 → I7 275 k = I 275 k := fun k x1 x2 x3 x4 => by rw [c2.1 275 _ (by decide), gup_k x4, gup_k x3, gup_k x2, b2.1 275 _ (by decide), a2.1 275 _ (by decide), gup_k x1]
  have z7 : ∀ k, 4 ≤ k → k < 40 → I7 275 (2 + 42 * rr + k) = 0 := fun k x y => by rw [k7 _ (by omega) (by omega) (by omega) (by omega)]; exact hz k x (by omega)
  have e40 : I7 275 (2 + 42 * rr + 40) = -1 := by rw [c2.1 275 _ (by decide), gup_k (by omega), gup_s]
  have e41 : I7 275 (2 + 42 * rr + 41) = -1 := by rw [c2.1 275 _ (by decide), gup_s]
  have e3 : I7 275 (2 + 42 * rr + 3) = x3 := by rw [c2.1 275 _ (by decide), gup_k (by omega), gup_k (by omega), gup_s]
  have e2 : I7 275 (2 + 42 * rr + 2) = iZ u := by rw [c2.1 275 _ (by decide), gup_k (by omega), gup_k (by omega), gup_k (by omega), b2.1 275 _ (by decide), a2.1 275 _ (by decide), gup_s]
  have pd7 : mPd I7 rr P0 := ⟨z7 4 (by decide) (by decide), ⟨z7 5 (by decide) (by decide), fun k hk => absurd hk (Nat.not_lt_zero k)⟩, ⟨z7 14 (by decide) (by decide), fun k hk => absurd hk (Nat.not_lt_zero k)⟩, ⟨z7 31 (by decide) (by decide), fun k hk => absurd hk (Nat.not_lt_zero k)⟩, e40, e41⟩
  obtain ⟨I8, d1, d2, d3, d4⟩ := m_partsL (X := X) (J := J) (v := v) (T := T) (n := n) (K := fun s76 => (ggI s76 267 12 5).bind fun v77 => if v77 = 0 then (ggR s76 267 12 18).bind fun v79 => (gaI s76 v79 2 0).bind fun v80 => (saI s76 v79 2 0 (v80 + 1)).bind fun s81 => some ((), s81) else some ((), s76)) (u := u) hrr u1 u2 8 0 20000 (fun _ => false) P0 (pDate T n (pPass T n (pOw T n r7 == 19) r7)) I7 0 (by decide) (by decide) h7 c3 c4 (mCal_N hcal f7) e2 (fun _ => ⟨rfl, pd7, PDok0, fun _ => rfl, fun _ => rfl, fun _ => rfl, fun _ => rfl, fun k hk => by rw [ib_0]⟩)
  rw [d1]
  simp only [bO, o267, o267R]
  have f8 := frN_t f7 (frN_w d2 (by omega) (by omega))
  have e0 : I8 275 0 = iZ (rr : Int) := by rw [f8.2.2 0 (by omega)]; exact h0
  cases hok : pOk (pParts T n u 8 (fun _ => false) P0 (pDate T n (pPass T n (pOw T n r7 == 19) r7))).2 with
  | false =>
    rw [if_neg (mO_err d3 hok)]
    refine ⟨I8, rfl, ?_, d3, fun q => by cases q⟩
    rw [gup_id e0]; exact f8
  | true =>
    have g0 : gaI (mkS X I8 J v) 275 2 0 = some (I8 275 0) := a275 X I8 J v 0 (by decide)
    have s0 : ∀ x : Int32, saI (mkS X I8 J v) 275 2 0 x = some (mkS X (gup I8 275 0 x) J v) := fun x => b275 X I8 J v 0 x (by decide)
    rw [if_pos (mO_ok d3 hok), g0]
    simp only [bO]
    rw [s0]
    simp only [bO]
    rw [e0, aL, show (rr : Int) + 1 = ((rr + 1 : Nat) : Int) by omega]
    refine ⟨_, rfl, ?_, mO_7 d3 (fun k _ => gup_r (by decide)), fun _ => ⟨?_, ?_, ?_, ?_, ?_, gup_s⟩⟩
    · rw [gup_gup, gup_id e0]; exact f8
    · exact mPd_fr (d4 hok) (pParts_pd PDok0 hok) (fun k _ _ => gup_k (by omega))
    · rw [gup_k (by omega), d2.2.2 _ (by omega)]; exact e2
    · have y7 : pOk (pDate T n (pPass T n (pOw T n r7 == 19) r7)) = true := by
        cases z : pOk (pDate T n (pPass T n (pOw T n r7 == 19) r7))
        · rw [pParts_er z] at hok; cases hok
        · rfl
      rw [gup_k (by omega), d2.2.2 _ (by omega), e3, b4 y7]
    · rw [gup_k (by omega), d2.2.2 _ (by omega), k7 _ (by omega) (by omega) (by omega) (by omega)]
    · rw [gup_k (by omega), d2.2.2 _ (by omega), k7 _ (by omega) (by omega) (by omega) (by omega)]
/-- the unit -/
theorem m_ruU {I : Nat → Nat → Int32} {r : PS} {v2 : Int32} (h : mX I T n) (hr : mO I T n r) (ha : mAt I r) : ∃ I', ruU v2 (iZ (pOw T n r)) (mkS X I J v) = ruT v2 (iZ (pOw T n r)) (mkS X I' J v) ∧ frM I I' ∧ mO I' T n (pPass T n (pU T n r) r) := by
  have hn := h.1.1
  have hw := pOw_r T n r
  unfold ruU ruP
  simp only [bO, o267]
  cases r with
  | error e =>
    rw [if_neg (mO_err hr rfl), if_neg (mO_err hr rfl)]
    refine ⟨I, rfl, frM_r I, ?_⟩
    unfold pPass
    split <;> exact hr
  | ok s =>
    rw [if_pos hr.1]
    have l0 : (0 : Int64).toInt = 0 := by decide
    have l3 : (3 : Int64).toInt = 3 := by decide
    rw [m_isIn, iZ_l (by omega) (by omega), l0, l3]
    simp only [bO, o267]
    by_cases c : 0 ≤ pOw T n (.ok s) ∧ pOw T n (.ok s) < 4
    · have eW : pU T n (.ok s) = true := by unfold pU; rw [decide_eq_true c.1, decide_eq_true c.2]; rfl
      rw [if_pos (show 0 ≤ pOw T n (.ok s) ∧ pOw T n (.ok s) ≤ 3 by omega), if_neg (show ¬ (1 : Int32) = 0 by decide), if_pos hr.1, eW]
      have hk := pKd_ow (T := T) (n := n) (r := .ok s) (by omega)
      obtain ⟨I2, b1, b2, b3, -⟩ := m_passes (X := X) (J := J) (v := v) h hr ha hk
      rw [b1]
      exact ⟨I2, rfl, b2, b3⟩
    · have eW : pU T n (.ok s) = false := by
        unfold pU
        by_cases q : 0 ≤ pOw T n (.ok s)
        · rw [decide_eq_false (show ¬ pOw T n (.ok s) < 4 by omega), Bool.and_false]
        · rw [decide_eq_false q]; rfl
      rw [if_neg (show ¬ (0 ≤ pOw T n (.ok s) ∧ pOw T n (.ok s) ≤ 3) by omega), if_pos rfl, eW]
      obtain ⟨b1, b2, b3⟩ := m_look (X := X) (J := J) (v := v) h hr
      have h2 := mX_M h b3
      rw [b1]
      simp only [bO, o267, h2.2.1, gup_s]
      obtain ⟨I3, c1, c2, c3, -⟩ := m_fail (X := X) (J := J) (v := v) (f := 1) (p := s.1) (by decide) (by decide) b2
      have c1' : fX12_fail 267 1 (iZ (s.1 : Int)) (mkS X (gup I 267 2 (iZ (s.1 : Int))) J v) = some ((), mkS X I3 J v) := c1
      have hs := hr.2.1
      have fin : (if iZ (pCh T n s) = -1 then iZ (n : Int) else iZ (s.1 : Int)) = iZ (s.1 : Int) := by
        by_cases cn : s.1 < n
        · have hp : pCh T n s = (T s.1 : Int) := by unfold pCh; rw [if_pos cn]
          have := (h.1.2 _ cn).1
          rw [if_neg (by rw [hp, cM_eq (by omega) (by omega)]; omega)]
        · rw [show n = s.1 by omega]; split <;> rfl
      refine ⟨I3, ?_, frM_t b3 c2, c3⟩
      by_cases cn : iZ (pCh T n s) = -1
      · rw [if_pos cn] at fin ⊢
        rw [fin, c1']
        simp only [bO, o267]
        rw [if_neg (mO_err c3 rfl)]
      · rw [if_neg cn, c1']
        simp only [bO, o267]
        rw [if_neg (mO_err c3 rfl)]
/-- what a statement may change of the reference -/
def frZ (I I' : Nat → Nat → Int32) : Prop := (∀ r k, r ≠ 267 → r ≠ 275 → r ≠ 277 → r ≠ 279 → r ≠ 280 → I' r k = I r k) ∧ ∀ k, k ≠ 2 → k ≠ 4 → k ≠ 5 → k ≠ 6 → k ≠ 10 → k ≠ 12 → k ≠ 22 → k ≠ 26 → k ≠ 27 → I' 267 k = I 267 k
theorem frZ_r (I : Nat → Nat → Int32) : frZ I I := ⟨fun _ _ _ _ _ _ _ => rfl, fun _ _ _ _ _ _ _ _ _ _ => rfl⟩
theorem frZ_t {I I' I'' : Nat → Nat → Int32} (h1 : frZ I I') (h2 : frZ I' I'') : frZ I I'' := ⟨fun r k a b c d e => (h2.1 r k a b c d e).trans (h1.1 r k a b c d e), fun k a b c d e f g h i => (h2.2 k a b c d e f g h i).trans (h1.2 k a b c d e f g h i)⟩
theorem frZ_M {I I' : Nat → Nat → Int32} (h : frM I I') : frZ I I' := ⟨fun r k a _ _ _ _ => h.1 r k a, fun k a b c d e f _ _ _ => h.2 k a b c d e f⟩
theorem mX_Z {I I' : Nat → Nat → Int32} (h : mX I T n) (f : frZ I I') : mX I' T n := ⟨⟨h.1.1, fun k hk => by rw [f.1 268 k (by decide) (by decide) (by decide) (by decide) (by decide)]; exact h.1.2 k hk⟩, by rw [f.2 3 (by decide) (by decide) (by decide) (by decide) (by decide) (by decide) (by decide) (by decide) (by decide)]; exact h.2.1, fun k hk => by rw [f.1 270 k (by decide) (by decide) (by decide) (by decide) (by decide)]; exact h.2.2 k hk⟩
theorem mCal_Z {I I' : Nat → Nat → Int32} (h : mCal I) (f : frZ I I') : mCal I' := ⟨by rw [f.2 17 (by decide) (by decide) (by decide) (by decide) (by decide) (by decide) (by decide) (by decide) (by decide)]; exact h.1, calOK_Y h.2 (fun r k x y => f.1 r k (by omega) (by omega) (by omega) (by omega) (by omega))⟩
theorem m_ruleTold {I : Nat → Nat → Int32} {r : PS} {B : Bk} (h : mX I T n) (hok : pOk r = true) (hr : mO I T n (pAdv T n r)) (hcal : mCal I) (hD : BkD B) (hdf : mDf I B) : ∃ I', fX12_ruleTold 267 (iZ (pAt r : Nat)) (mkS X I J v) = some ((), mkS X I' J v) ∧ frZ I I' ∧ mO I' T n (pRule T n B r).2 ∧ (pOk (pRule T n B r).2 = true → mDf I' (pRule T n B r).1) := by
  have hR6 := hD.1
  have hok1 : pOk (pAdv T n r) = true := by rw [pAdv_ok]; exact hok
  have g0 : gaI (mkS X I J v) 275 2 0 = some (I 275 0) := a275 X I J v 0 (by decide)
  rw [ru_eq]
  simp only [bO, o267R, o267]
  rw [g0, hdf.1]
  simp only [bO]
  by_cases c : B.nR < 6
  · rw [if_neg (by rw [cL_eq (by omega) (by omega) (by decide)]; omega)]
    have eR : pRule T n B r = (B.addR (pNameV T n (pAdv T n r)) (pNumV T n (pRu3 T n B r)) (mkRul (pOw T n (pRu4 T n B r)).toNat (pDateV T n (pRu6 T n B r)) (pRu8 T n B r).1), (pRu8 T n B r).2) := by unfold pRule; rw [if_pos c]
    rw [eR]
    have q0 : ∀ s : gH, fX12_ruleAt (iZ (B.nR : Int)) 0 s = some (iZ ((2 + 42 * B.nR : Nat) : Int), s) := fun s => m_ruleAtn (k := 0)
    have q1 : ∀ s : gH, fX12_ruleAt (iZ (B.nR : Int)) 1 s = some (iZ ((2 + 42 * B.nR + 1 : Nat) : Int), s) := fun s => m_ruleAtn (k := 1)
    unfold ruN
    simp only [bO, o267, o267R, q0]
    rw [if_pos (mO_ok hr hok1)]
    obtain ⟨I1, x1, a1, a2, a3, a4⟩ := m_newName (X := X) (J := J) (v := v) h hr (mDf_nm hdf hD)
    have a3' : mO I1 T n (pRu2 T n B r) := a3
    have a4' : pOk (pRu2 T n B r) = true → x1 = iZ (nm27 (pNameV T n (pAdv T n r)) : Nat) := a4
    rw [a1]
    simp only [bO]
    rw [b275 _ _ _ _ _ _ (by omega)]
    simp only [bO, o267, gnar_2]
    have f2 : frN (2 + 42 * B.nR) (2 + 42 * B.nR + 42) I (gup I1 275 (2 + 42 * B.nR) x1) := frN_t (frN_M a2) (frN_g (by omega) (by omega))
    have h2 := mX_N h f2
    have o2 : mO (gup I1 275 (2 + 42 * B.nR) x1) T n (pRu2 T n B r) := mO_7 a3' (fun k _ => gup_r (by decide))
    obtain ⟨I3, b1, b2, b3⟩ := m_asks (X := X) (J := J) (v := v) (w := 18) (by decide) h2 o2
    have b1' : fX12_asks 267 18 (mkS X (gup I1 275 (2 + 42 * B.nR) x1) J v) = some ((), mkS X I3 J v) := b1
    have b3' : mO I3 T n (pRu3 T n B r) := b3
    rw [b1']
    simp only [bO, o267, o267R, q1]
    have h3 := mX_M h2 b2
    obtain ⟨I4, x4, c1, c2, c3, c4, -⟩ := m_number (X := X) (J := J) (v := v) (lo := 1) (hi := 99) (by decide) (by decide) h3 b3'
    have c1' : fX12_number 267 1 99 (mkS X I3 J v) = some (x4, mkS X I4 J v) := c1
    have c3' : mO I4 T n (pRu4 T n B r) := c3
    rw [c1']
    simp only [bO]
    rw [b275 _ _ _ _ _ _ (by omega)]
    simp only [bO, o267, gnar_2]
    have f5 : frN (2 + 42 * B.nR) (2 + 42 * B.nR + 42) I (gup I4 275 (2 + 42 * B.nR + 1) x4) := frN_t f2 (frN_t (frN_M b2) (frN_t (frN_M c2) (frN_g (by omega) (by omega))))
    have h5 := mX_N h f5
    have o5 : mO (gup I4 275 (2 + 42 * B.nR + 1) x4) T n (pRu4 T n B r) := mO_7 c3' (fun k _ => gup_r (by decide))
    obtain ⟨I6, d1, d2, d3, d4⟩ := m_ownHere (X := X) (J := J) (v := v) h5 o5
    rw [d1, gb2_some]
    have h6 := mX_M h5 d2
    obtain ⟨I7, e1, e2, e3⟩ := m_ruU (X := X) (J := J) (v := v) (v2 := iZ (B.nR : Int)) h6 d3 d4
    rw [e1]
    have f7 : frN (2 + 42 * B.nR) (2 + 42 * B.nR + 42) I I7 := frN_t f5 (frN_t (frN_M d2) (frN_M e2))
    have e3' : mO I7 T n (pRu5 T n B r) := e3
    have k7 : ∀ k, k ≠ 2 + 42 * B.nR → k ≠ 2 + 42 * B.nR + 1 → I7 275 k = I 275 k := fun k x y => by rw [e2.1 275 _ (by decide), d2.1 275 _ (by decide), gup_k y, c2.1 275 _ (by decide), b2.1 275 _ (by decide), gup_k x, a2.1 275 _ (by decide)]
    have hu := pOw_r T n (pRu4 T n B r)
    obtain ⟨I8, g1, g2, g3, g4⟩ := m_ruT (X := X) (J := J) (v := v) (T := T) (n := n) (I := I7) (r7 := pRu5 T n B r) (u := pOw T n (pRu4 T n B r)) c hu.1 (by omega) (mX_N h f7) e3' (mCal_N hcal f7) (fun k x y => by rw [k7 _ (by omega) (by omega)]; exact hdf.2.2.2.2.2 _ (by omega) (by omega)) (by rw [k7 0 (by omega) (by omega)]; exact hdf.1)
    have g3' : mO I8 T n (pRu8 T n B r).2 := g3
    rw [g1]
    have f8 : frN (2 + 42 * B.nR) (2 + 42 * B.nR + 42) I (gup I8 275 0 (iZ (B.nR : Int))) := frN_t f7 g2
    have fz : frZ I I8 := ⟨fun r k x y _ _ _ => by rw [← f8.1 r k x y, gup_r y], fun k a b c d e f _ _ _ => by rw [← f8.2.1 k a b c d e f, gup_r (by decide)]⟩
    have kp : ∀ k, k ≠ 0 → (k < 2 + 42 * B.nR ∨ 2 + 42 * B.nR + 42 ≤ k) → I8 275 k = I 275 k := fun k x y => by rw [← f8.2.2 k y, gup_k x]
    refine ⟨I8, rfl, fz, g3', fun q => ?_⟩
    obtain ⟨m1, m2, m3, m4, m5, m6⟩ := g4 q
    obtain ⟨y7, y6, y5, y4, y3, y2, y1, yn1, yn2⟩ := pRule_in q
    have m1' : mPd I8 B.nR (pRu8 T n B r).1 := m1
    have m3' : I8 275 (2 + 42 * B.nR + 3) = iZ (pDateV T n (pRu6 T n B r) : Nat) := m3
    have nm0 : I8 275 (2 + 42 * B.nR) = iZ (nm27 (pNameV T n (pAdv T n r)) : Nat) := by
      rw [m4, e2.1 275 _ (by decide), d2.1 275 _ (by decide), gup_k (by omega), c2.1 275 _ (by decide), b2.1 275 _ (by decide), gup_s, a4' y2]
    have st0 : I8 275 (2 + 42 * B.nR + 1) = iZ (pNumV T n (pRu3 T n B r) : Nat) := by
      rw [m5, e2.1 275 _ (by decide), d2.1 275 _ (by decide), gup_s, (c4 y4).1]
    obtain ⟨z1, z2, z3, z4, z5, z6⟩ := hdf
    refine ⟨m6, ?_, ?_, ?_, ?_, ?_⟩
    · show I8 275 1 = iZ (B.nS : Int)
      rw [kp 1 (by omega) (by omega)]; exact z2
    · intro k hk'
      have hk : k < B.nR + 1 := hk'
      show mRD I8 k (if k = B.nR then _ else B.rl k) (if k = B.nR then _ else B.stp k) (if k = B.nR then _ else B.nm k)
      by_cases e : k = B.nR
      · rw [if_pos e, if_pos e, if_pos e, e]
        exact mRD_of m1' nm0 st0 (by rw [m2]; congr 1; omega) m3'
      · rw [if_neg e, if_neg e, if_neg e]
        exact mRD_fr (z3 k (by omega)) (hD.2.2.1 k (by omega)).1 (fun j hj => kp _ (by omega) (by omega))
    · intro s hs
      have hs6 := hD.2.1
      have hs' : s < B.nS := hs
      obtain ⟨w1, w2, w3, w4⟩ := z4 s hs
      show _ = iZ ((nm27 (if 6 + s = B.nR then _ else B.nm (6 + s)) : Nat) : Int) ∧ _
      rw [if_neg (by omega), kp _ (by omega) (by omega), kp _ (by omega) (by omega), kp _ (by omega) (by omega)]
      exact ⟨w1, w2, w3, mgD_fr (fun j _ => by rw [← f8.1 277 j (by decide) (by decide), gup_r (by decide)]) w4⟩
    · show I8 267 22 = iZ (mE B.cs B.nS : Nat)
      rw [← z5, ← f8.2.1 22 (by decide) (by decide) (by decide) (by decide) (by decide) (by decide), gup_r (by decide)]
    · intro k k1 k2
      have k1' : 2 + 42 * (B.nR + 1) ≤ k := k1
      rw [kp k (by omega) (by omega)]
      exact z6 k (by omega) k2
  · rw [if_pos (by rw [show B.nR = 6 by omega]; rfl)]
    have eR : pRule T n B r = (B, pNot 5 r) := by unfold pRule; rw [if_neg c]
    rw [eR]
    obtain ⟨I1, a1, a2, a3, -⟩ := m_fail (X := X) (J := J) (v := v) (f := 5) (p := pAt r) (by decide) (by decide) hr
    have a1' : fX12_fail 267 5 (iZ (pAt r : Nat)) (mkS X I J v) = some ((), mkS X I1 J v) := a1
    rw [a1', gb2_some]
    rw [pFail_ok hok1] at a3
    unfold ruN
    simp only [bO, o267]
    rw [if_neg (mO_err a3 rfl)]
    refine ⟨I1, rfl, frZ_M a2, ?_, fun q => by rw [show pOk (pNot 5 r) = false from pNot_ok] at q; cases q⟩
    show mO I1 T n (pNot 5 r)
    rw [show pNot 5 r = .error (5, pAt r) from pFail_ok hok]
    exact a3
end gMq
