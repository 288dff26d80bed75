/-! MARKS of the reference: a day is turned -/
section gHe
variable {X : Nat × (Nat → Int32)} {v : Vt} {B : Bk} {A L : Nat → Nat → Bool} {J : Nat → Nat → Int64} {P Q : Nat → Bool}
theorem m_handsR {I : Nat → Nat → Int32} {s k d : Nat} (hs : s < 6) (hk : k ≤ 1) (hd : d < 14610) (hP : mrow I (12 + 42 * s + 21 * k) P) (hQ : mrow I (12 + 42 * s + 21 * (1 - k)) Q) (hp : Q d = false → P d = false ∧ cnt P 0 14610 < 20) : ∃ I', fX12_hands 267 (iZ (s : Int)) (iZ (k : Int)) (iZ (d : Int)) (mkS X I J v) = some ((), mkS X I' J v) ∧ (∀ r j, r ≠ 281 → r ≠ 283 → I' r j = I r j) ∧ (∀ j, j < 12 + 42 * s ∨ 12 + 42 * s + 42 ≤ j → I' 281 j = I 281 j) ∧ (∀ j, j < 6 + s → I' 283 j = I 283 j) ∧ (∀ t, s ≤ t → t < 6 → I' 283 (6 + t) = 0) ∧ mrow I' (12 + 42 * s + 21 * k) (if Q d = true then P else pPl P d) ∧ mrow I' (12 + 42 * s + 21 * (1 - k)) (pMi Q d) := by
  obtain ⟨x, x1, x2⟩ := m_handOf (X := X) (v := v) (J := J) (k := 1 - k) hs (by omega) hd hQ
  have hOpp : ∀ {β : Type} (f : Int32 → β), (if iZ (k : Int) = 0 then f 1 else f 0) = f (iZ ((1 - k : Nat) : Int)) := by
    intro β f
    rcases (show k = 0 ∨ k = 1 by omega) with rfl | rfl
    · rw [if_pos (show iZ ((0 : Nat) : Int) = 0 from rfl)]; rfl
    · rw [if_neg (show ¬ iZ ((1 : Nat) : Int) = 0 by decide)]; rfl
  unfold fX12_hands
  simp only [gjn_eq]
  rw [hOpp (fun y => gb2 (gcv (mkS X I J v) 267 12 (fX12_handOf 267 (iZ (s : Int)) y (iZ (d : Int)) (mkS X I J v))) _)]
  simp only [o267, x1, gb2_some]
  rw [hOpp (fun y => gb2 (fX12_handAt (iZ (s : Int)) y (mkS X I J v)) _)]
  rw [m_handAt (show 1 - k ≤ 1 by omega), gb2_some, m_handAt hk]
  simp only [gb2_some, bO, o267R]
  have zz : ∀ I1 : Nat → Nat → Int32, ∃ I', gX12_hands_L133 267 20000 (iZ (s : Int)) (mkS X I1 J v) = some ((), mkS X I' J v) ∧ frX 283 I1 I' ∧ (∀ k, k < 6 + s → I' 283 k = I1 283 k) ∧ ∀ t, s ≤ t → t < 6 → I' 283 (6 + t) = 0 := fun I1 => m_handsZ (s0 := 0) (6 - s) s 20000 I1 (by omega) (Nat.zero_le _) (by omega)
  have fin : ∀ I1 : Nat → Nat → Int32, (∀ r j, r ≠ 281 → I1 r j = I r j) → (∀ j, j < 12 + 42 * s ∨ 12 + 42 * s + 42 ≤ j → I1 281 j = I 281 j) → mrow I1 (12 + 42 * s + 21 * k) (if Q d = true then P else pPl P d) → mrow I1 (12 + 42 * s + 21 * (1 - k)) (pMi Q d) → ∃ I', gX12_hands_L133 267 20000 (iZ (s : Int)) (mkS X I1 J v) = some ((), mkS X I' J v) ∧ (∀ r j, r ≠ 281 → r ≠ 283 → I' r j = I r j) ∧ (∀ j, j < 12 + 42 * s ∨ 12 + 42 * s + 42 ≤ j → I' 281 j = I 281 j) ∧ (∀ j, j < 6 + s → I' 283 j = I 283 j) ∧ (∀ t, s ≤ t → t < 6 → I' 283 (6 + t) = 0) ∧ mrow I' (12 + 42 * s + 21 * k) (if Q d = true then P else pPl P d) ∧ mrow I' (12 + 42 * s + 21 * (1 - k)) (pMi Q d) := by
    intro I1 g1 g2 g3 g4
    obtain ⟨I', a1, a2, a3, a4⟩ := zz I1
    exact ⟨I', a1, fun r j p q => by rw [a2 r j q, g1 r j p], fun j p => by rw [a2 281 j (by decide), g2 j p], fun j p => by rw [a3 j p, g1 283 j (by decide)], a4, mrow_21 g3 (fun j _ _ => a2 281 j (by decide)), mrow_21 g4 (fun j _ _ => a2 281 j (by decide))⟩
  rcases x2 with ⟨q1, rfl⟩ | ⟨q1, j, q2, rfl, q3⟩
  · obtain ⟨p1, p2⟩ := hp q1
    rw [if_pos (show iZ (-1) = -1 from rfl), a281 _ _ _ _ _ (show 12 + 42 * s + 21 * k < 264 by omega), hP.1]
    simp only [bO, aL]
    rw [b281 _ _ _ _ _ _ (show 12 + 42 * s + 21 * k < 264 by omega)]
    simp only [bO, gnar_2, o267R]
    rw [a281 _ _ _ _ _ (show 12 + 42 * s + 21 * k < 264 by omega), gup_s]
    simp only [bO, iZ_add]
    obtain ⟨n, hn⟩ : ∃ n, cnt P 0 14610 = n := ⟨_, rfl⟩
    rw [hn] at p2 ⊢
    rw [show ((12 + 42 * s + 21 * k : Nat) : Int) + ((n : Int) + 1) = ((12 + 42 * s + 21 * k + 1 + n : Nat) : Int) by omega, show (n : Int) + 1 = ((n + 1 : Nat) : Int) by omega, b281 _ _ _ _ _ _ (show 12 + 42 * s + 21 * k + 1 + n < 264 by omega)]
    simp only [bO, gnar_2]
    refine fin _ (fun r j p => by rw [gup_r p, gup_r p]) (fun j p => by rw [gup_k (by omega), gup_k (by omega)]) ?_ ?_
    · rw [if_neg (by rw [q1]; decide)]
      refine m_rowApp hP hd hn p2 p1 ?_ (fun k' hk' => ?_) gup_s
      · rw [gup_k (by omega), gup_s]
      · rw [gup_k (by omega), gup_k (by omega)]
    · rw [pMi_id q1]
      refine mrow_21 hQ (fun j a b => ?_)
      rw [gup_k (by omega), gup_k (by omega)]
  · obtain ⟨n, hn⟩ : ∃ n, cnt Q 0 14610 = n := ⟨_, rfl⟩
    have hn20 := hQ.2.1
    have hq1 := hQ.1
    rw [hn] at q2 hn20 hq1
    rw [if_neg (by rw [cM_eq (by omega) (by omega)]; omega), show (j : Int) + 1 = ((j + 1 : Nat) : Int) by omega]
    obtain ⟨I1, a1, a2, a3, a4, a5⟩ := m_shift (X := X) (v := v) (J := J) (x1 := iZ (s : Int)) (o := 12 + 42 * s + 21 * (1 - k)) (n := n) (K := fun s38 => (ggR s38 267 12 29).bind fun v39 => (gaI s38 v39 2 (iZ ((12 + 42 * s + 21 * (1 - k) : Nat) : Int))).bind fun v40 => (saI s38 v39 2 (iZ ((12 + 42 * s + 21 * (1 - k) : Nat) : Int)) (v40 - 1)).bind fun s41 => gX12_hands_L133 267 20000 (iZ (s : Int)) s41) (by omega) hn20 (by omega) (n - (j + 1)) (j + 1) 20000 I hq1 (by omega) (by omega) (by omega)
    rw [a1]
    simp only [bO, o267R, a281 _ _ _ _ _ (show 12 + 42 * s + 21 * (1 - k) < 264 by omega), a3, sL]
    rw [b281 _ _ _ _ _ _ (show 12 + 42 * s + 21 * (1 - k) < 264 by omega)]
    simp only [bO, gnar_2]
    rw [show (n : Int) - 1 = ((n - 1 : Nat) : Int) by omega]
    refine fin _ (fun r j p => by rw [gup_r p, a2.1 r j p]) (fun j p => by rw [gup_k (by omega), a2.2 j (by omega)]) ?_ ?_
    · rw [if_pos q1]
      refine mrow_21 hP (fun j a b => ?_)
      rw [gup_k (by omega), a2.2 j (by omega)]
    · refine m_rowRem hQ hd hn q2 q3 gup_s (fun k' hk' => ?_) (fun k' h1 h2 => ?_)
      · rw [gup_k (by omega), show 12 + 42 * s + 21 * (1 - k) + 1 + k' = 12 + 42 * s + 21 * (1 - k) + (k' + 1) by omega, a4 (k' + 1) (by omega) (by omega)]
      · rw [gup_k (by omega), show 12 + 42 * s + 21 * (1 - k) + 1 + k' = 12 + 42 * s + 21 * (1 - k) + (k' + 1) by omega, a5 (k' + 1) (by omega) (by omega)]
/-- marks never stand both ways -/
def mkDj (A L : Nat → Nat → Bool) : Prop := ∀ s d, ¬ (A s d = true ∧ L s d = true)
theorem m_handsS {I : Nat → Nat → Int32} {s d k : Nat} (ok : BkOK B) (hs : s < 6) (hk : k ≤ 1) (hd : d < 14610) (hL : mLg I B A L) (h0 : k = 0 → A s d = false) (h1 : k = 1 → L s d = false) (hc : mk0 (A s) (L s) d = 0 → cnt (if k + 1 = 1 then A s else L s) 0 14610 < 20) : ∃ I', fX12_hands 267 (iZ (s : Int)) (iZ (k : Int)) (iZ (d : Int)) (mkS X I J v) = some ((), mkS X I' J v) ∧ (∀ r j, r ≠ 281 → r ≠ 283 → I' r j = I r j) ∧ (∀ j, j < 12 → I' 281 j = I 281 j) ∧ mLg I' B (uS A s (mA (mk1 (A s) (L s) d (k + 1)) (A s) d)) (uS L s (mL (mk1 (A s) (L s) d (k + 1)) (L s) d)) := by
  have k1 := ok.1
  have k2 := ok.2.1
  obtain ⟨g1, g2⟩ := hL
  obtain ⟨a1, a2⟩ := g2 s hs
  have go : ∀ I' : Nat → Nat → Int32, (∀ r j, r ≠ 281 → r ≠ 283 → I' r j = I r j) → (∀ j, j < 12 + 42 * s ∨ 12 + 42 * s + 42 ≤ j → I' 281 j = I 281 j) → (∀ j, j < 6 + s → I' 283 j = I 283 j) → (∀ t, s ≤ t → t < 6 → I' 283 (6 + t) = 0) → mrow I' (12 + 42 * s) (mA (mk1 (A s) (L s) d (k + 1)) (A s) d) → mrow I' (12 + 42 * s + 21) (mL (mk1 (A s) (L s) d (k + 1)) (L s) d) → mLg I' B (uS A s (mA (mk1 (A s) (L s) d (k + 1)) (A s) d)) (uS L s (mL (mk1 (A s) (L s) d (k + 1)) (L s) d)) := by
    intro I' e1 e2 e3 e4 e5 e6
    refine ⟨fun w hw => ?_, fun t ht => ?_⟩
    · by_cases c : w < 6 + s
      · rw [e3 w c, dy_cong (B := B) (A := A) (L := L) (A' := uS A s (mA (mk1 (A s) (L s) d (k + 1)) (A s) d)) (L' := uS L s (mL (mk1 (A s) (L s) d (k + 1)) (L s) d)) (s := s) (by omega) (fun t ht => ⟨show (if t = s then _ else A t) = A t from if_neg (by omega), show (if t = s then _ else L t) = L t from if_neg (by omega)⟩) c]
        rcases g1 w hw with q | q
        · exact Or.inl q
        · exact Or.inr ⟨q.1, fun e he => by rw [e1 282 _ (by decide) (by decide)]; exact q.2 e he⟩
      · left
        obtain ⟨t, rfl⟩ : ∃ t, w = 6 + t := ⟨w - 6, by omega⟩
        exact e4 t (by omega) (by unfold kn at hw; omega)
    · by_cases c : t = s
      · subst c
        unfold uS
        rw [if_pos rfl, if_pos rfl]
        exact ⟨e5, e6⟩
      · unfold uS
        rw [if_neg c, if_neg c]
        obtain ⟨x, y⟩ := g2 t ht
        exact ⟨mrow_21 x (fun j p q => e2 j (by omega)), mrow_21 y (fun j p q => e2 j (by omega))⟩
  rcases (show k = 0 ∨ k = 1 by omega) with rfl | rfl
  · have hA := h0 rfl
    have hk0 : mk0 (A s) (L s) d = if L s d = true then 2 else 0 := by unfold mk0; rw [hA, if_neg (by decide)]
    obtain ⟨I', b1, b2, b3, b4, b5, b6, b7⟩ := m_handsR (X := X) (v := v) (J := J) (k := 0) hs hk hd a1 a2 (fun q => ⟨hA, hc (by rw [hk0, q]; rfl)⟩)
    refine ⟨I', b1, b2, fun j hj => b3 j (by omega), go I' b2 b3 b4 b5 ?_ ?_⟩
    · refine (show mrow I' (12 + 42 * s) _ from ?_)
      have b6' : mrow I' (12 + 42 * s) (if L s d = true then A s else pPl (A s) d) := b6
      have e : mA (mk1 (A s) (L s) d (0 + 1)) (A s) d = if L s d = true then A s else pPl (A s) d := by
        unfold mA mk1
        rw [hk0]
        cases L s d with
        | true => exact pMi_id hA
        | false => rfl
      rw [e]; exact b6'
    · have b7' : mrow I' (12 + 42 * s + 21) (pMi (L s) d) := b7
      have e : mL (mk1 (A s) (L s) d (0 + 1)) (L s) d = pMi (L s) d := by
        unfold mL mk1
        rw [hk0]
        cases L s d with
        | true => rfl
        | false => rfl
      rw [e]; exact b7'
  · have hLd := h1 rfl
    have hk0 : mk0 (A s) (L s) d = if A s d = true then 1 else 0 := by unfold mk0; rw [hLd, if_neg (show ¬ false = true by decide)]
    obtain ⟨I', b1, b2, b3, b4, b5, b6, b7⟩ := m_handsR (X := X) (v := v) (J := J) (k := 1) hs hk hd a2 a1 (fun q => ⟨hLd, hc (by rw [hk0, q]; rfl)⟩)
    refine ⟨I', b1, b2, fun j hj => b3 j (by omega), go I' b2 b3 b4 b5 ?_ ?_⟩
    · have b7' : mrow I' (12 + 42 * s) (pMi (A s) d) := b7
      have e : mA (mk1 (A s) (L s) d (1 + 1)) (A s) d = pMi (A s) d := by
        unfold mA mk1
        rw [hk0]
        cases A s d with
        | true => rfl
        | false => rfl
      rw [e]; exact b7'
    · have b6' : mrow I' (12 + 42 * s + 21) (if A s d = true then L s else pPl (L s) d) := b6
      have e : mL (mk1 (A s) (L s) d (1 + 1)) (L s) d = if A s d = true then L s else pPl (L s) d := by
        unfold mL mk1
        rw [hk0]
        cases A s d with
        | true => exact pMi_id hLd
        | false => rfl
      rw [e]; exact b6'
end gHe
