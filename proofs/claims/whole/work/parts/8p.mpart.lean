/-! PARTS and RULES of the reference -/
def mPd (I : Nat → Nat → Int32) (rr : Nat) (P : PD) : Prop := I 275 (2 + 42 * rr + 4) = P.mk ∧ rwM I (2 + 42 * rr) 5 6 P.on ∧ rwB I (2 + 42 * rr) P.by_ ∧ rwM I (2 + 42 * rr) 31 32 P.at_ ∧ I 275 (2 + 42 * rr + 40) = iZ P.un ∧ I 275 (2 + 42 * rr + 41) = iZ P.ct
theorem rwM_fr {I I' : Nat → Nat → Int32} {o cm cr : Nat} {l : List Int} (h : rwM I o cm cr l) (f1 : I' 275 (o + cm) = I 275 (o + cm)) (f2 : ∀ k, k < l.length → I' 275 (o + (cr + k)) = I 275 (o + (cr + k))) : rwM I' o cm cr l := ⟨by rw [f1]; exact h.1, fun k hk => by rw [f2 k hk]; exact h.2 k hk⟩
theorem rwB_fr {I I' : Nat → Nat → Int32} {o : Nat} {l : List Int} (h : rwB I o l) (f1 : I' 275 (o + 14) = I 275 (o + 14)) (f2 : ∀ k, k < 2 * l.length → I' 275 (o + 15 + k) = I 275 (o + 15 + k)) : rwB I' o l := ⟨by rw [f1]; exact h.1, fun k hk => by
  have e1 := f2 (2 * k) (by omega)
  have e2 := f2 (2 * k + 1) (by omega)
  rw [show o + (15 + 2 * k) = o + 15 + 2 * k by omega, show o + (15 + 2 * k + 1) = o + 15 + (2 * k + 1) by omega, e1, e2]
  have := h.2 k hk
  rw [show o + (15 + 2 * k) = o + 15 + 2 * k by omega, show o + (15 + 2 * k + 1) = o + 15 + (2 * k + 1) by omega] at this
  exact this⟩
theorem mPd_fr {I I' : Nat → Nat → Int32} {rr : Nat} {P : PD} (h : mPd I rr P) (ok : PDok P) (f : ∀ k, 4 ≤ k → k < 42 → I' 275 (2 + 42 * rr + k) = I 275 (2 + 42 * rr + k)) : mPd I' rr P := by
  obtain ⟨h1, h2, h3, h4, h5, h6⟩ := h
  obtain ⟨y1, y2, y3, y4, y5, y6, y7, y8⟩ := ok
  refine ⟨by rw [f 4 (by omega) (by omega)]; exact h1, rwM_fr (l := P.on) h2 (f 5 (by omega) (by omega)) (fun k hk => f (6 + k) (by omega) (by omega)), rwB_fr (l := P.by_) h3 (f 14 (by omega) (by omega)) (fun k hk => ?_), rwM_fr (l := P.at_) h4 (f 31 (by omega) (by omega)) (fun k hk => f (32 + k) (by omega) (by omega)), by rw [f 40 (by omega) (by omega)]; exact h5, by rw [f 41 (by omega) (by omega)]; exact h6⟩
  rw [show 2 + 42 * rr + 15 + k = 2 + 42 * rr + (15 + k) by omega]
  exact f (15 + k) (by omega) (by omega)
def mCal (I : Nat → Nat → Int32) : Prop := I 267 17 = 1 ∧ calOK I
theorem mCal_N {lo hi : Nat} {I I' : Nat → Nat → Int32} (h : mCal I) (f : frN lo hi I I') : mCal I' := ⟨by rw [f.2.1 17 (by decide) (by decide) (by decide) (by decide) (by decide) (by decide)]; exact h.1, calOK_Y h.2 (fun r k x y => f.1 r k (by omega) (by omega))⟩
section gMp
variable {X : Nat × (Nat → Int32)} {J : Nat → Nat → Int64} {v : Vt} {T : Nat → Nat} {n : Nat}
theorem m_partTold {I : Nat → Nat → Int32} {r : PS} {rr part : Nat} {u : Int} {P : PD} (hrr : rr < 6) (hp : part < 6) (u1 : -1 ≤ u) (u2 : u ≤ 30) (h : mX I T n) (hr : mO I T n r) (hcal : mCal I) (hu : I 275 (2 + 42 * rr + 2) = iZ u) (hP : pOk r = true → mPd I rr P ∧ PDok P ∧ (part = 0 → P.mk = 0) ∧ (part = 1 → P.on = []) ∧ (part = 2 → P.by_ = []) ∧ (part = 3 → P.at_ = [])) : ∃ I', fX12_partTold 267 (iZ (rr : Int)) (iZ ((11 + part : Nat) : Int)) (mkS X I J v) = some ((), mkS X I' J v) ∧ frN (2 + 42 * rr + 4) (2 + 42 * rr + 42) I I' ∧ mO I' T n (pPart T n part u P r).2 ∧ (pOk (pPart T n part u P r).2 = true → pOk r = true ∧ mPd I' rr (pPart T n part u P r).1) := by
  have ne : ∀ k : Nat, k < 30 → ((iZ ((11 + part : Nat) : Int) = iZ ((k : Nat) : Int)) ↔ 11 + part = k) := fun k hk => by rw [iZ_eq (by omega) (by omega) (by omega) (by omega)]; omega
  have n11 : (iZ ((11 + part : Nat) : Int) = 11) ↔ part = 0 := by have := ne 11 (by decide); rw [show (iZ ((11 : Nat) : Int)) = 11 from rfl] at this; rw [this]; omega
  have n12 : (iZ ((11 + part : Nat) : Int) = 12) ↔ part = 1 := by have := ne 12 (by decide); rw [show (iZ ((12 : Nat) : Int)) = 12 from rfl] at this; rw [this]; omega
  have n13 : (iZ ((11 + part : Nat) : Int) = 13) ↔ part = 2 := by have := ne 13 (by decide); rw [show (iZ ((13 : Nat) : Int)) = 13 from rfl] at this; rw [this]; omega
  have n14 : (iZ ((11 + part : Nat) : Int) = 14) ↔ part = 3 := by have := ne 14 (by decide); rw [show (iZ ((14 : Nat) : Int)) = 14 from rfl] at this; rw [this]; omega
  have n15 : (iZ ((11 + part : Nat) : Int) = 15) ↔ part = 4 := by have := ne 15 (by decide); rw [show (iZ ((15 : Nat) : Int)) = 15 from rfl] at this; rw [this]; omega
  have n16 : (iZ ((11 + part : Nat) : Int) = 16) ↔ part = 5 := by have := ne 16 (by decide); rw [show (iZ ((16 : Nat) : Int)) = 16 from rfl] at this; rw [this]; omega
  have okr : pOk (pPart T n part u P r).2 = true → pOk r = true := by
    intro z
    cases q : pOk r
    · rw [pPart_er hp q] at z; cases z
    · rfl
  unfold fX12_partTold
  simp only [bO, n11, n12, n13, n14, n15, n16, o267]
  have q40 : ∀ s : gH, fX12_ruleAt (iZ (rr : Int)) 40 s = some (iZ ((2 + 42 * rr + 40 : Nat) : Int), s) := fun s => m_ruleAtn (k := 40)
  have q41 : ∀ s : gH, fX12_ruleAt (iZ (rr : Int)) 41 s = some (iZ ((2 + 42 * rr + 41 : Nat) : Int), s) := fun s => m_ruleAtn (k := 41)
  rcases (show part = 0 ∨ part = 1 ∨ part = 2 ∨ part = 3 ∨ part = 4 ∨ part = 5 by omega) with e | e | e | e | e | e
  · subst e
    simp only [if_pos, if_neg (show ¬ (0 : Nat) = 1 by decide), if_neg (show ¬ (0 : Nat) = 2 by decide), if_neg (show ¬ (0 : Nat) = 3 by decide), if_neg (show ¬ (0 : Nat) = 4 by decide), if_neg (show ¬ (0 : Nat) = 5 by decide)]
    obtain ⟨I', a1, a2, a3, a4⟩ := m_in (X := X) (J := J) (v := v) (u := u) hrr h hr (fun q => by obtain ⟨p1, p2, p3, _⟩ := hP q; rw [p1.1]; exact p3 rfl)
    rw [a1]
    refine ⟨I', rfl, frN_w a2 (by omega) (by omega), a3, fun q => ⟨okr q, ?_⟩⟩
    obtain ⟨⟨h1, h2, h3, h4, h5, h6⟩, ok, p3, -, -, -⟩ := hP (okr q)
    obtain ⟨y1, y2, y3, y4, y5, y6, y7, y8⟩ := ok
    have keep : ∀ k, 5 ≤ k → k < 42 → I' 275 (2 + 42 * rr + k) = I 275 (2 + 42 * rr + k) := fun k x y => a2.2.2 _ (by omega)
    refine ⟨?_, rwM_fr (l := P.on) h2 (keep 5 (by omega) (by omega)) (fun k hk => keep (6 + k) (by omega) (by omega)), rwB_fr (l := P.by_) h3 (keep 14 (by omega) (by omega)) (fun k hk => by rw [show 2 + 42 * rr + 15 + k = 2 + 42 * rr + (15 + k) by omega]; exact keep (15 + k) (by omega) (by omega)), rwM_fr (l := P.at_) h4 (keep 31 (by omega) (by omega)) (fun k hk => keep (32 + k) (by omega) (by omega)), by rw [keep 40 (by omega) (by omega)]; exact h5, by rw [keep 41 (by omega) (by omega)]; exact h6⟩
    rw [a4 q]
    show _ = mkI _ P.mk _
    rw [p3 rfl]
  · subst e
    simp only [if_pos, if_neg (show ¬ (1 : Nat) = 0 by decide), if_neg (show ¬ (1 : Nat) = 2 by decide), if_neg (show ¬ (1 : Nat) = 3 by decide), if_neg (show ¬ (1 : Nat) = 4 by decide), if_neg (show ¬ (1 : Nat) = 5 by decide)]
    obtain ⟨I', a1, a2, a3, a4⟩ := m_places (X := X) (J := J) (v := v) (cm := 5) (cr := 6) (part := 1) (u := u) hrr (Or.inl ⟨rfl, rfl, rfl⟩) h hr (fun q => by obtain ⟨p1, p2, p3, p4, _⟩ := hP q; have := p1.2.1; rw [p4 rfl] at this; exact this)
    have a1' : fX12_placesTold 267 (iZ (rr : Int)) 5 6 31 (mkS X I J v) = some ((), mkS X I' J v) := a1
    rw [a1']
    refine ⟨I', rfl, frN_w a2 (by omega) (by omega), a3, fun q => ⟨okr q, ?_⟩⟩
    obtain ⟨⟨h1, h2, h3, h4, h5, h6⟩, ok, p3, -, -, -⟩ := hP (okr q)
    obtain ⟨y1, y2, y3, y4, y5, y6, y7, y8⟩ := ok
    have keep : ∀ k, (k < 5 ∨ 14 ≤ k) → I' 275 (2 + 42 * rr + k) = I 275 (2 + 42 * rr + k) := fun k x => a2.2.2 _ (by omega)
    exact ⟨by rw [keep 4 (by omega)]; exact h1, a4 q, rwB_fr (l := P.by_) h3 (keep 14 (by omega)) (fun k hk => by rw [show 2 + 42 * rr + 15 + k = 2 + 42 * rr + (15 + k) by omega]; exact keep (15 + k) (by omega)), rwM_fr (l := P.at_) h4 (keep 31 (by omega)) (fun k hk => keep (32 + k) (by omega)), by rw [keep 40 (by omega)]; exact h5, by rw [keep 41 (by omega)]; exact h6⟩
  · subst e
    simp only [if_pos, if_neg (show ¬ (2 : Nat) = 0 by decide), if_neg (show ¬ (2 : Nat) = 1 by decide), if_neg (show ¬ (2 : Nat) = 3 by decide), if_neg (show ¬ (2 : Nat) = 4 by decide), if_neg (show ¬ (2 : Nat) = 5 by decide)]
    obtain ⟨I', a1, a2, a3, a4⟩ := m_by (X := X) (J := J) (v := v) (u := u) hrr u1 u2 h hr hu (fun q => by obtain ⟨p1, p2, p3, p4, p5, _⟩ := hP q; have := p1.2.2.1; rw [p5 rfl] at this; exact this)
    rw [a1]
    refine ⟨I', rfl, frN_w a2 (by omega) (by omega), a3, fun q => ⟨okr q, ?_⟩⟩
    obtain ⟨⟨h1, h2, h3, h4, h5, h6⟩, ok, p3, -, -, -⟩ := hP (okr q)
    obtain ⟨y1, y2, y3, y4, y5, y6, y7, y8⟩ := ok
    have keep : ∀ k, (k < 14 ∨ 31 ≤ k) → I' 275 (2 + 42 * rr + k) = I 275 (2 + 42 * rr + k) := fun k x => a2.2.2 _ (by omega)
    exact ⟨by rw [keep 4 (by omega)]; exact h1, rwM_fr (l := P.on) h2 (keep 5 (by omega)) (fun k hk => keep (6 + k) (by omega)), a4 q, rwM_fr (l := P.at_) h4 (keep 31 (by omega)) (fun k hk => keep (32 + k) (by omega)), by rw [keep 40 (by omega)]; exact h5, by rw [keep 41 (by omega)]; exact h6⟩
  · subst e
    simp only [if_pos, if_neg (show ¬ (3 : Nat) = 0 by decide), if_neg (show ¬ (3 : Nat) = 1 by decide), if_neg (show ¬ (3 : Nat) = 2 by decide), if_neg (show ¬ (3 : Nat) = 4 by decide), if_neg (show ¬ (3 : Nat) = 5 by decide)]
    obtain ⟨I', a1, a2, a3, a4⟩ := m_places (X := X) (J := J) (v := v) (cm := 31) (cr := 32) (part := 3) (u := u) hrr (Or.inr ⟨rfl, rfl, rfl⟩) h hr (fun q => by obtain ⟨p1, p2, p3, p4, p5, p6⟩ := hP q; have := p1.2.2.2.1; rw [p6 rfl] at this; exact this)
    have a1' : fX12_placesTold 267 (iZ (rr : Int)) 31 32 99 (mkS X I J v) = some ((), mkS X I' J v) := a1
    rw [a1']
    refine ⟨I', rfl, frN_w a2 (by omega) (by omega), a3, fun q => ⟨okr q, ?_⟩⟩
    obtain ⟨⟨h1, h2, h3, h4, h5, h6⟩, ok, p3, -, -, -⟩ := hP (okr q)
    obtain ⟨y1, y2, y3, y4, y5, y6, y7, y8⟩ := ok
    have keep : ∀ k, (k < 31 ∨ 40 ≤ k) → I' 275 (2 + 42 * rr + k) = I 275 (2 + 42 * rr + k) := fun k x => a2.2.2 _ (by omega)
    exact ⟨by rw [keep 4 (by omega)]; exact h1, rwM_fr (l := P.on) h2 (keep 5 (by omega)) (fun k hk => keep (6 + k) (by omega)), rwB_fr (l := P.by_) h3 (keep 14 (by omega)) (fun k hk => by rw [show 2 + 42 * rr + 15 + k = 2 + 42 * rr + (15 + k) by omega]; exact keep (15 + k) (by omega)), a4 q, by rw [keep 40 (by omega)]; exact h5, by rw [keep 41 (by omega)]; exact h6⟩
  · subst e
    simp only [if_pos, if_neg (show ¬ (4 : Nat) = 0 by decide), if_neg (show ¬ (4 : Nat) = 1 by decide), if_neg (show ¬ (4 : Nat) = 2 by decide), if_neg (show ¬ (4 : Nat) = 3 by decide), if_neg (show ¬ (4 : Nat) = 5 by decide), o267R, bO, q40]
    obtain ⟨I1, x, a1, a2, a3, a4⟩ := m_date (X := X) (J := J) (v := v) h hr hcal
    simp only [o267]
    rw [a1]
    simp only [bO]
    rw [b275 _ _ _ _ _ _ (by omega)]
    simp only [bO, gnar_2]
    refine ⟨_, rfl, frN_t (frN_M a2) (frN_g (by omega) (by omega)), mO_7 a3 (fun k _ => gup_r (by decide)), fun q => ⟨okr q, ?_⟩⟩
    obtain ⟨⟨h1, h2, h3, h4, h5, h6⟩, ok, p3, -, -, -⟩ := hP (okr q)
    obtain ⟨y1, y2, y3, y4, y5, y6, y7, y8⟩ := ok
    have keep : ∀ k, k ≠ 40 → gup I1 275 (2 + 42 * rr + 40) x 275 (2 + 42 * rr + k) = I 275 (2 + 42 * rr + k) := fun k z => by rw [gup_k (by omega), a2.1 275 _ (by decide)]
    refine ⟨by rw [keep 4 (by omega)]; exact h1, rwM_fr (l := P.on) h2 (keep 5 (by omega)) (fun k hk => keep (6 + k) (by omega)), rwB_fr (l := P.by_) h3 (keep 14 (by omega)) (fun k hk => by rw [show 2 + 42 * rr + 15 + k = 2 + 42 * rr + (15 + k) by omega]; exact keep (15 + k) (by omega)), rwM_fr (l := P.at_) h4 (keep 31 (by omega)) (fun k hk => keep (32 + k) (by omega)), ?_, by rw [keep 41 (by omega)]; exact h6⟩
    rw [gup_s, a4 q]; rfl
  · subst e
    simp only [if_pos, if_neg (show ¬ (5 : Nat) = 0 by decide), if_neg (show ¬ (5 : Nat) = 1 by decide), if_neg (show ¬ (5 : Nat) = 2 by decide), if_neg (show ¬ (5 : Nat) = 3 by decide), if_neg (show ¬ (5 : Nat) = 4 by decide), o267R, bO, q41]
    obtain ⟨I1, x, a1, a2, a3, a4, a5⟩ := m_number (X := X) (J := J) (v := v) (lo := 1) (hi := 999) (by decide) (by decide) h hr
    have a1' : fX12_number 267 1 999 (mkS X I J v) = some (x, mkS X I1 J v) := a1
    simp only [o267]
    rw [a1']
    simp only [bO]
    rw [b275 _ _ _ _ _ _ (by omega)]
    simp only [bO, gnar_2]
    refine ⟨_, rfl, frN_t (frN_M a2) (frN_g (by omega) (by omega)), mO_7 a3 (fun k _ => gup_r (by decide)), fun q => ⟨okr q, ?_⟩⟩
    obtain ⟨⟨h1, h2, h3, h4, h5, h6⟩, ok, p3, -, -, -⟩ := hP (okr q)
    obtain ⟨y1, y2, y3, y4, y5, y6, y7, y8⟩ := ok
    have keep : ∀ k, k ≠ 41 → gup I1 275 (2 + 42 * rr + 41) x 275 (2 + 42 * rr + k) = I 275 (2 + 42 * rr + k) := fun k z => by rw [gup_k (by omega), a2.1 275 _ (by decide)]
    refine ⟨by rw [keep 4 (by omega)]; exact h1, rwM_fr (l := P.on) h2 (keep 5 (by omega)) (fun k hk => keep (6 + k) (by omega)), rwB_fr (l := P.by_) h3 (keep 14 (by omega)) (fun k hk => by rw [show 2 + 42 * rr + 15 + k = 2 + 42 * rr + (15 + k) by omega]; exact keep (15 + k) (by omega)), rwM_fr (l := P.at_) h4 (keep 31 (by omega)) (fun k hk => keep (32 + k) (by omega)), by rw [keep 40 (by omega)]; exact h5, ?_⟩
    rw [gup_s, (a4 q).1]; rfl
/-- which parts leave a row as it is -/
theorem pPart_keep {part : Nat} {u : Int} {P : PD} {r : PS} (hp : part < 6) : (part ≠ 0 → (pPart T n part u P r).1.mk = P.mk) ∧ (part ≠ 1 → (pPart T n part u P r).1.on = P.on) ∧ (part ≠ 2 → (pPart T n part u P r).1.by_ = P.by_) ∧ (part ≠ 3 → (pPart T n part u P r).1.at_ = P.at_) := by
  rcases (show part = 0 ∨ part = 1 ∨ part = 2 ∨ part = 3 ∨ part = 4 ∨ part = 5 by omega) with e | e | e | e | e | e
  · subst e; exact ⟨fun q => absurd rfl q, fun _ => rfl, fun _ => rfl, fun _ => rfl⟩
  · subst e; exact ⟨fun _ => rfl, fun q => absurd rfl q, fun _ => rfl, fun _ => rfl⟩
  · subst e; exact ⟨fun _ => rfl, fun _ => rfl, fun q => absurd rfl q, fun _ => rfl⟩
  · subst e; exact ⟨fun _ => rfl, fun _ => rfl, fun _ => rfl, fun q => absurd rfl q⟩
  · subst e; exact ⟨fun _ => rfl, fun _ => rfl, fun _ => rfl, fun _ => rfl⟩
  · subst e; exact ⟨fun _ => rfl, fun _ => rfl, fun _ => rfl, fun _ => rfl⟩
theorem m_partsL {K : gH → Option (Unit × gH)} {rr : Nat} {u : Int} (hrr : rr < 6) (u1 : -1 ≤ u) (u2 : u ≤ 30) : ∀ (f i fuel : Nat) (met : Nat → Bool) (P : PD) (r : PS) (I : Nat → Nat → Int32) (x4 : Int32), f + i = 8 → f < fuel → mX I T n → mO I T n r → mAt I r → mCal I → I 275 (2 + 42 * rr + 2) = iZ u → (pOk r = true → i = cnt met 0 6 ∧ mPd I rr P ∧ PDok P ∧ (met 0 = false → P.mk = 0) ∧ (met 1 = false → P.on = []) ∧ (met 2 = false → P.by_ = []) ∧ (met 3 = false → P.at_ = []) ∧ ∀ k, k < 6 → (ib x4 (11 + k) = true ↔ met k = true)) → ∃ I', gX12_ruleTold_L187 K 267 (iZ (rr : Int)) fuel x4 (iZ (pOw T n r)) (mkS X I J v) = K (mkS X I' J v) ∧ frN (2 + 42 * rr + 4) (2 + 42 * rr + 42) I I' ∧ mO I' T n (pParts T n u f met P r).2 ∧ (pOk (pParts T n u f met P r).2 = true → mPd I' rr (pParts T n u f met P r).1) := by
  have l11 : (11 : Int64).toInt = 11 := by decide
  have l16 : (16 : Int64).toInt = 16 := by decide
  intro f
  induction f with
  | zero =>
    intro i fuel met P r I x4 hi hf h hr ha hcal hu hg
    obtain ⟨fu, rfl⟩ : ∃ n, fuel = n + 1 := ⟨fuel - 1, by omega⟩
    have hw : pWd T n r = -1 := by
      apply Classical.byContradiction
      intro z
      have := (hg (pWd_ok z)).1
      have := cnt_le met 0 6
      omega
    have hwr := pOw_r T n r
    refine ⟨I, ?_, frN_r _ _ I, hr, fun q => (hg q).2.1⟩
    unfold gX12_ruleTold_L187
    simp only [bO, o267]
    cases hok : pOk r with
    | false => rw [if_neg (mO_err hr hok)]
    | true =>
      rw [if_pos (mO_ok hr hok), m_isIn, iZ_l (by omega) (by omega), l11, l16]
      simp only [bO]
      rw [if_neg (show ¬ (11 ≤ pOw T n r ∧ pOw T n r ≤ 16) from fun q => by unfold pWd at hw; rw [if_pos (by omega)] at hw; omega), if_pos rfl]
  | succ f ih =>
    intro i fuel met P r I x4 hi hf h hr ha hcal hu hg
    obtain ⟨fu, rfl⟩ : ∃ n, fuel = n + 1 := ⟨fuel - 1, by omega⟩
    have hwr := pOw_r T n r
    have hwr2 := pWd_r (T := T) (n := n) r
    have eP : pParts T n u (f + 1) met P r = if pWd T n r = -1 then (P, r) else pParts T n u f (fun k => met k || k == (pWd T n r).toNat) (pPart T n (pWd T n r).toNat u P (pAdv T n (if met (pWd T n r).toNat = true then pNot 4 r else r))).1 (pPart T n (pWd T n r).toNat u P (pAdv T n (if met (pWd T n r).toNat = true then pNot 4 r else r))).2 := rfl
    rw [eP]
    unfold gX12_ruleTold_L187
    simp only [bO, o267]
    cases hok : pOk r with
    | false =>
      have hw : pWd T n r = -1 := by
        apply Classical.byContradiction
        intro z
        have := pWd_ok z
        rw [hok] at this; cases this
      rw [if_neg (mO_err hr hok), if_pos hw]
      exact ⟨I, rfl, frN_r _ _ I, hr, fun q => by rw [hok] at q; cases q⟩
    | true =>
      rw [if_pos (mO_ok hr hok), m_isIn, iZ_l (by omega) (by omega), l11, l16]
      simp only [bO]
      by_cases c : 11 ≤ pOw T n r ∧ pOw T n r ≤ 16
      · rw [if_pos c, if_neg (show ¬ (1 : Int32) = 0 by decide)]
        obtain ⟨w, hw⟩ : ∃ w : Nat, pOw T n r = ((11 + w : Nat) : Int) := ⟨(pOw T n r - 11).toNat, by omega⟩
        have hw6 : w < 6 := by omega
        have ewd : pWd T n r = (w : Int) := by unfold pWd; rw [if_pos (by omega)]; omega
        rw [ewd, if_neg (by omega), Int.toNat_natCast, hw, m_isOf (by omega)]
        simp only [bO, o267]
        obtain ⟨g1, g2, g3, g4, g5, g6, g7, g8⟩ := hg hok
        have hk1 := pKd_ow (T := T) (n := n) (r := r) (by omega)
        obtain ⟨s, hs⟩ : ∃ s, r = .ok s := by
          cases r with
          | ok s => exact ⟨s, rfl⟩
          | error e => cases hok
        -- behind the look at what was met
        have rest : ∀ I1 : Nat → Nat → Int32, frM I I1 → mO I1 T n (pAdv T n (if met w = true then pNot 4 r else r)) → ∃ I', (gb2 (fX12_partTold 267 (iZ (rr : Int)) (iZ ((11 + w : Nat) : Int)) (mkS X I1 J v)) fun (_ : Unit) s66 => gb2 (gcv s66 267 12 (fX12_ownHere 267 s66)) fun r67 s68 => gX12_ruleTold_L187 K 267 (iZ (rr : Int)) fu (x4 ||| 1 <<< (iZ ((11 + w : Nat) : Int) &&& 31)) r67 s68) = K (mkS X I' J v) ∧ frN (2 + 42 * rr + 4) (2 + 42 * rr + 42) I I' ∧ mO I' T n (pParts T n u f (fun k => met k || k == w) (pPart T n w u P (pAdv T n (if met w = true then pNot 4 r else r))).1 (pPart T n w u P (pAdv T n (if met w = true then pNot 4 r else r))).2).2 ∧ (pOk (pParts T n u f (fun k => met k || k == w) (pPart T n w u P (pAdv T n (if met w = true then pNot 4 r else r))).1 (pPart T n w u P (pAdv T n (if met w = true then pNot 4 r else r))).2).2 = true → mPd I' rr (pParts T n u f (fun k => met k || k == w) (pPart T n w u P (pAdv T n (if met w = true then pNot 4 r else r))).1 (pPart T n w u P (pAdv T n (if met w = true then pNot 4 r else r))).2).1) := by
          intro I1 fr1 o1
          have h1 := mX_M h fr1
          have fN1 : frN (2 + 42 * rr + 4) (2 + 42 * rr + 42) I I1 := frN_M fr1
          have hnm : pOk (pAdv T n (if met w = true then pNot 4 r else r)) = true → met w = false := by
            intro q
            rw [pAdv_ok] at q
            cases z : met w
            · rfl
            · rw [z, if_pos rfl, pNot_ok] at q; cases q
          obtain ⟨I2, b1, b2, b3, b4⟩ := m_partTold (X := X) (J := J) (v := v) (T := T) (n := n) (I := I1) (r := pAdv T n (if met w = true then pNot 4 r else r)) (part := w) (u := u) (P := P) hrr hw6 u1 u2 h1 o1 (mCal_N hcal fN1) (by rw [fr1.1 275 _ (by decide)]; exact hu) (fun q => by
            have hm := hnm q
            exact ⟨mPd_fr g2 g3 (fun k _ _ => fr1.1 275 _ (by decide)), g3, fun e => g4 (by rw [← e]; exact hm), fun e => g5 (by rw [← e]; exact hm), fun e => g6 (by rw [← e]; exact hm), fun e => g7 (by rw [← e]; exact hm)⟩)
          rw [b1, gb2_some]
          simp only [o267]
          have h2 := mX_N h1 b2
          obtain ⟨I3, c1, c2, c3, c4⟩ := m_ownHere (X := X) (J := J) (v := v) h2 b3
          rw [c1, gb2_some]
          have fN3 : frN (2 + 42 * rr + 4) (2 + 42 * rr + 42) I I3 := frN_t fN1 (frN_t b2 (frN_M c2))
          obtain ⟨I4, d1, d2, d3, d4⟩ := ih (i + 1) fu (fun k => met k || k == w) (pPart T n w u P (pAdv T n (if met w = true then pNot 4 r else r))).1 (pPart T n w u P (pAdv T n (if met w = true then pNot 4 r else r))).2 I3 (x4 ||| 1 <<< (iZ ((11 + w : Nat) : Int) &&& 31)) (by omega) (by omega) (mX_M h2 c2) c3 c4 (mCal_N hcal fN3) (by rw [fN3.2.2 _ (by omega)]; exact hu) (fun q => by
            obtain ⟨e1, e2⟩ := b4 q
            have hm := hnm e1
            have e3 := pPart_pd (T := T) (n := n) (u := u) hw6 g3 q
            obtain ⟨k0, k1, k2, k3⟩ := pPart_keep (T := T) (n := n) (u := u) (P := P) (r := pAdv T n (if met w = true then pNot 4 r else r)) hw6
            have mt : ∀ j, (met j || j == w) = false → met j = false ∧ w ≠ j := by
              intro j hj
              rw [Bool.or_eq_false_iff] at hj
              exact ⟨hj.1, fun e => by have := hj.2; rw [e] at this; simp at this⟩
            refine ⟨?_, mPd_fr e2 e3 (fun k _ _ => c2.1 275 _ (by decide)), e3, ?_, ?_, ?_, ?_, ?_⟩
            · rw [cnt_upd (P := met) (Q := fun k => met k || k == w) hw6 hm (by simp) (fun j hj => by simp [hj]), g1]
            · intro z; obtain ⟨z1, z2⟩ := mt 0 z; rw [k0 z2]; exact g4 z1
            · intro z; obtain ⟨z1, z2⟩ := mt 1 z; rw [k1 z2]; exact g5 z1
            · intro z; obtain ⟨z1, z2⟩ := mt 2 z; rw [k2 z2]; exact g6 z1
            · intro z; obtain ⟨z1, z2⟩ := mt 3 z; rw [k3 z2]; exact g7 z1
            · intro k hk
              rw [ib_or (by omega) (by omega), Bool.or_eq_true, decide_eq_true_eq, g8 k hk, Bool.or_eq_true, beq_iff_eq]
              constructor
              · rintro (z | z)
                · exact Or.inl z
                · exact Or.inr (by omega)
              · rintro (z | z)
                · exact Or.inl z
                · exact Or.inr (by omega))
          exact ⟨I4, d1, frN_t fN3 d2, d3, d4⟩
        by_cases cm : met w = true
        · rw [(g8 w hw6).mpr cm, if_neg (show ¬ tf true = 0 by decide)]
          obtain ⟨I1, a1, a2, a3⟩ := m_failS (X := X) (J := J) (v := v) (f := 4) (by decide) (by decide) hr ha
          have a1' : fX12_fail 267 4 (I 267 2) (mkS X I J v) = some ((), mkS X I1 J v) := a1
          rw [a1']
          simp only [bO, o267]
          rw [if_neg (mO_err a3 pNot_ok)]
          refine rest I1 a2 ?_
          rw [if_pos cm, hs]
          rw [hs] at a3
          exact a3
        · have hbf : ib x4 (11 + w) = false := by
            cases z : ib x4 (11 + w)
            · rfl
            · exact absurd ((g8 w hw6).mp z) cm
          rw [hbf, if_pos tf_f, if_pos (mO_ok hr hok)]
          have hk' : tkK T n s.1 s.2 = 1 := by rw [hs] at hk1; exact hk1
          obtain ⟨I1, a1, a2, a3, -⟩ := m_passes (X := X) (J := J) (v := v) (s := s) h (by rw [← hs]; exact hr) (by rw [← hs]; exact ha) hk'
          rw [a1, gb2_some]
          simp only [o267]
          refine rest I1 a2 ?_
          rw [if_neg cm, hs]
          exact a3
      · have hw : pWd T n r = -1 := by unfold pWd; rw [if_neg (by omega)]
        rw [if_neg c, if_pos rfl, if_pos hw]
        exact ⟨I, rfl, frN_r _ _ I, hr, fun q => (hg hok).2.1⟩
end gMp
