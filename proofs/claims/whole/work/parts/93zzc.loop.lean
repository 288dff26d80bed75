/-! THE LAW'S LOOP -/
theorem ad_n (i k : Nat) : iZ (i : Int) + iZ (k : Int) = iZ ((i + k : Nat) : Int) := by
  rw [iZ_add]; congr 1
section gLw
variable {X : Nat × (Nat → Int32)} {I : Nat → Nat → Int32} {J : Nat → Nat → Int64} {v : Vt} {i : Nat}
theorem ln_0 : gLn (mkS X I J v) 0 = 1 := by
  show L0 X 0 = 1
  unfold L0
  rw [if_pos rfl]
theorem ln_1 : gLn (mkS X I J v) 1 = X.1 := by
  show L0 X 1 = X.1
  unfold L0
  rw [if_neg (by decide), if_pos rfl]
theorem xn_l : gXn (mkS X I J v) = some (iZ (X.1 : Int)) := by
  unfold gXn
  rw [ln_0, ln_1, if_pos (by decide), iZ_nat]
theorem xl_l (h : i < X.1) (hX : X.1 ≤ 3072) : gXl (mkS X I J v) (iZ (i : Int)) = some (I 1 i) := by
  have e3 : (iZ (i : Int)).toNatClampNeg = i := by rw [iZ_clamp (by omega) (by omega)]; rfl
  have c : ¬ (iZ (i : Int) < 0 ∨ X.1 ≤ i) := by
    rintro (q | q)
    · rw [cL_lt (by omega) (by omega) (by decide)] at q; omega
    · omega
  unfold gXl
  rw [ln_0, ln_1, e3, if_pos ⟨by decide, c⟩]
  rfl
theorem gc_50 {β : Type} (o : Option β) : gcv (mkS X I J v) 50 11 o = o := by simp only [o50]
theorem gc_267 {β : Type} (o : Option β) : gcv (mkS X I J v) 267 12 o = o := by simp only [o267]
theorem st_0 {fc fm : gH → Option (Int32 × gH)} (h : alike (fc) (fm)) (hX : X.1 ≤ 3072) (hi : i + 6 ≤ X.1) (hr : rel I J v) : ∃ (I' : Nat → Nat → Int32) (J' : Nat → Nat → Int64) (v' : Vt), rel I' J' v' ∧ ∀ K : gH → Option (Int32 × gH), (gb2 (gcv (mkS X I J v) 50 11 (fc (mkS X I J v))) fun r s2 => gb2 (gcv s2 267 12 (fm s2)) fun r2 s3 => if r = r2 then K s3 else some (0, s3)) = K (mkS X I' J' v') := by
  obtain ⟨x, I1, J1, v1, I2, J2, a, e, b, hr2⟩ := h  X I J v hr
  refine ⟨I2, J2, v1, hr2, fun K => ?_⟩
  rw [gc_50, a, gb2_some, gc_267, b, gb2_some, if_pos rfl]
theorem st_1 {fc fm : Int32 → gH → Option (Int32 × gH)} (h : ∀ x1, alike (fc x1) (fm x1)) (hX : X.1 ≤ 3072) (hi : i + 6 ≤ X.1) (hr : rel I J v) : ∃ (I' : Nat → Nat → Int32) (J' : Nat → Nat → Int64) (v' : Vt), rel I' J' v' ∧ ∀ K : gH → Option (Int32 × gH), ((gXl (mkS X I J v) (iZ (i : Int) + 1)).bind fun a1 => gb2 (gcv (mkS X I J v) 50 11 (fc a1 (mkS X I J v))) fun r s2 => (gXl s2 (iZ (i : Int) + 1)).bind fun b1 => gb2 (gcv s2 267 12 (fm b1 s2)) fun r2 s3 => if r = r2 then K s3 else some (0, s3)) = K (mkS X I' J' v') := by
  obtain ⟨x, I1, J1, v1, I2, J2, a, e, b, hr2⟩ := h (I 1 (i + 1)) X I J v hr
  refine ⟨I2, J2, v1, hr2, fun K => ?_⟩
  have y1 : ∀ (I : Nat → Nat → Int32) (J : Nat → Nat → Int64) (v : Vt), gXl (mkS X I J v) (iZ (i : Int) + 1) = some (I 1 (i + 1)) := fun I J v => by
    have w : iZ (i : Int) + 1 = iZ ((i + 1 : Nat) : Int) := ad_n i 1
    rw [w]; exact xl_l (by omega) hX
  rw [y1, bO.1, gc_50, a, gb2_some, y1, bO.1, e, gc_267, b, gb2_some, if_pos rfl]
theorem st_2 {fc fm : Int32 → Int32 → gH → Option (Int32 × gH)} (h : ∀ x1 x2, alike (fc x1 x2) (fm x1 x2)) (hX : X.1 ≤ 3072) (hi : i + 6 ≤ X.1) (hr : rel I J v) : ∃ (I' : Nat → Nat → Int32) (J' : Nat → Nat → Int64) (v' : Vt), rel I' J' v' ∧ ∀ K : gH → Option (Int32 × gH), ((gXl (mkS X I J v) (iZ (i : Int) + 1)).bind fun a1 => (gXl (mkS X I J v) (iZ (i : Int) + 2)).bind fun a2 => gb2 (gcv (mkS X I J v) 50 11 (fc a1 a2 (mkS X I J v))) fun r s2 => (gXl s2 (iZ (i : Int) + 1)).bind fun b1 => (gXl s2 (iZ (i : Int) + 2)).bind fun b2 => gb2 (gcv s2 267 12 (fm b1 b2 s2)) fun r2 s3 => if r = r2 then K s3 else some (0, s3)) = K (mkS X I' J' v') := by
  obtain ⟨x, I1, J1, v1, I2, J2, a, e, b, hr2⟩ := h (I 1 (i + 1)) (I 1 (i + 2)) X I J v hr
  refine ⟨I2, J2, v1, hr2, fun K => ?_⟩
  have y1 : ∀ (I : Nat → Nat → Int32) (J : Nat → Nat → Int64) (v : Vt), gXl (mkS X I J v) (iZ (i : Int) + 1) = some (I 1 (i + 1)) := fun I J v => by
    have w : iZ (i : Int) + 1 = iZ ((i + 1 : Nat) : Int) := ad_n i 1
    rw [w]; exact xl_l (by omega) hX
  have y2 : ∀ (I : Nat → Nat → Int32) (J : Nat → Nat → Int64) (v : Vt), gXl (mkS X I J v) (iZ (i : Int) + 2) = some (I 1 (i + 2)) := fun I J v => by
    have w : iZ (i : Int) + 2 = iZ ((i + 2 : Nat) : Int) := ad_n i 2
    rw [w]; exact xl_l (by omega) hX
  rw [y1, bO.1, y2, bO.1, gc_50, a, gb2_some, y1, bO.1, y2, bO.1, e, e, gc_267, b, gb2_some, if_pos rfl]
theorem st_3 {fc fm : Int32 → Int32 → Int32 → gH → Option (Int32 × gH)} (h : ∀ x1 x2 x3, alike (fc x1 x2 x3) (fm x1 x2 x3)) (hX : X.1 ≤ 3072) (hi : i + 6 ≤ X.1) (hr : rel I J v) : ∃ (I' : Nat → Nat → Int32) (J' : Nat → Nat → Int64) (v' : Vt), rel I' J' v' ∧ ∀ K : gH → Option (Int32 × gH), ((gXl (mkS X I J v) (iZ (i : Int) + 1)).bind fun a1 => (gXl (mkS X I J v) (iZ (i : Int) + 2)).bind fun a2 => (gXl (mkS X I J v) (iZ (i : Int) + 3)).bind fun a3 => gb2 (gcv (mkS X I J v) 50 11 (fc a1 a2 a3 (mkS X I J v))) fun r s2 => (gXl s2 (iZ (i : Int) + 1)).bind fun b1 => (gXl s2 (iZ (i : Int) + 2)).bind fun b2 => (gXl s2 (iZ (i : Int) + 3)).bind fun b3 => gb2 (gcv s2 267 12 (fm b1 b2 b3 s2)) fun r2 s3 => if r = r2 then K s3 else some (0, s3)) = K (mkS X I' J' v') := by
  obtain ⟨x, I1, J1, v1, I2, J2, a, e, b, hr2⟩ := h (I 1 (i + 1)) (I 1 (i + 2)) (I 1 (i + 3)) X I J v hr
  refine ⟨I2, J2, v1, hr2, fun K => ?_⟩
  have y1 : ∀ (I : Nat → Nat → Int32) (J : Nat → Nat → Int64) (v : Vt), gXl (mkS X I J v) (iZ (i : Int) + 1) = some (I 1 (i + 1)) := fun I J v => by
    have w : iZ (i : Int) + 1 = iZ ((i + 1 : Nat) : Int) := ad_n i 1
    rw [w]; exact xl_l (by omega) hX
  have y2 : ∀ (I : Nat → Nat → Int32) (J : Nat → Nat → Int64) (v : Vt), gXl (mkS X I J v) (iZ (i : Int) + 2) = some (I 1 (i + 2)) := fun I J v => by
    have w : iZ (i : Int) + 2 = iZ ((i + 2 : Nat) : Int) := ad_n i 2
    rw [w]; exact xl_l (by omega) hX
  have y3 : ∀ (I : Nat → Nat → Int32) (J : Nat → Nat → Int64) (v : Vt), gXl (mkS X I J v) (iZ (i : Int) + 3) = some (I 1 (i + 3)) := fun I J v => by
    have w : iZ (i : Int) + 3 = iZ ((i + 3 : Nat) : Int) := ad_n i 3
    rw [w]; exact xl_l (by omega) hX
  rw [y1, bO.1, y2, bO.1, y3, bO.1, gc_50, a, gb2_some, y1, bO.1, y2, bO.1, y3, bO.1, e, e, e, gc_267, b, gb2_some, if_pos rfl]
theorem st_4 {fc fm : Int32 → Int32 → Int32 → Int32 → gH → Option (Int32 × gH)} (h : ∀ x1 x2 x3 x4, alike (fc x1 x2 x3 x4) (fm x1 x2 x3 x4)) (hX : X.1 ≤ 3072) (hi : i + 6 ≤ X.1) (hr : rel I J v) : ∃ (I' : Nat → Nat → Int32) (J' : Nat → Nat → Int64) (v' : Vt), rel I' J' v' ∧ ∀ K : gH → Option (Int32 × gH), ((gXl (mkS X I J v) (iZ (i : Int) + 1)).bind fun a1 => (gXl (mkS X I J v) (iZ (i : Int) + 2)).bind fun a2 => (gXl (mkS X I J v) (iZ (i : Int) + 3)).bind fun a3 => (gXl (mkS X I J v) (iZ (i : Int) + 4)).bind fun a4 => gb2 (gcv (mkS X I J v) 50 11 (fc a1 a2 a3 a4 (mkS X I J v))) fun r s2 => (gXl s2 (iZ (i : Int) + 1)).bind fun b1 => (gXl s2 (iZ (i : Int) + 2)).bind fun b2 => (gXl s2 (iZ (i : Int) + 3)).bind fun b3 => (gXl s2 (iZ (i : Int) + 4)).bind fun b4 => gb2 (gcv s2 267 12 (fm b1 b2 b3 b4 s2)) fun r2 s3 => if r = r2 then K s3 else some (0, s3)) = K (mkS X I' J' v') := by
  obtain ⟨x, I1, J1, v1, I2, J2, a, e, b, hr2⟩ := h (I 1 (i + 1)) (I 1 (i + 2)) (I 1 (i + 3)) (I 1 (i + 4)) X I J v hr
  refine ⟨I2, J2, v1, hr2, fun K => ?_⟩
  have y1 : ∀ (I : Nat → Nat → Int32) (J : Nat → Nat → Int64) (v : Vt), gXl (mkS X I J v) (iZ (i : Int) + 1) = some (I 1 (i + 1)) := fun I J v => by
    have w : iZ (i : Int) + 1 = iZ ((i + 1 : Nat) : Int) := ad_n i 1
    rw [w]; exact xl_l (by omega) hX
  have y2 : ∀ (I : Nat → Nat → Int32) (J : Nat → Nat → Int64) (v : Vt), gXl (mkS X I J v) (iZ (i : Int) + 2) = some (I 1 (i + 2)) := fun I J v => by
    have w : iZ (i : Int) + 2 = iZ ((i + 2 : Nat) : Int) := ad_n i 2
    rw [w]; exact xl_l (by omega) hX
  have y3 : ∀ (I : Nat → Nat → Int32) (J : Nat → Nat → Int64) (v : Vt), gXl (mkS X I J v) (iZ (i : Int) + 3) = some (I 1 (i + 3)) := fun I J v => by
    have w : iZ (i : Int) + 3 = iZ ((i + 3 : Nat) : Int) := ad_n i 3
    rw [w]; exact xl_l (by omega) hX
  have y4 : ∀ (I : Nat → Nat → Int32) (J : Nat → Nat → Int64) (v : Vt), gXl (mkS X I J v) (iZ (i : Int) + 4) = some (I 1 (i + 4)) := fun I J v => by
    have w : iZ (i : Int) + 4 = iZ ((i + 4 : Nat) : Int) := ad_n i 4
    rw [w]; exact xl_l (by omega) hX
  rw [y1, bO.1, y2, bO.1, y3, bO.1, y4, bO.1, gc_50, a, gb2_some, y1, bO.1, y2, bO.1, y3, bO.1, y4, bO.1, e, e, e, e, gc_267, b, gb2_some, if_pos rfl]
theorem st_5 {fc fm : Int32 → Int32 → Int32 → Int32 → Int32 → gH → Option (Int32 × gH)} (h : ∀ x1 x2 x3 x4 x5, alike (fc x1 x2 x3 x4 x5) (fm x1 x2 x3 x4 x5)) (hX : X.1 ≤ 3072) (hi : i + 6 ≤ X.1) (hr : rel I J v) : ∃ (I' : Nat → Nat → Int32) (J' : Nat → Nat → Int64) (v' : Vt), rel I' J' v' ∧ ∀ K : gH → Option (Int32 × gH), ((gXl (mkS X I J v) (iZ (i : Int) + 1)).bind fun a1 => (gXl (mkS X I J v) (iZ (i : Int) + 2)).bind fun a2 => (gXl (mkS X I J v) (iZ (i : Int) + 3)).bind fun a3 => (gXl (mkS X I J v) (iZ (i : Int) + 4)).bind fun a4 => (gXl (mkS X I J v) (iZ (i : Int) + 5)).bind fun a5 => gb2 (gcv (mkS X I J v) 50 11 (fc a1 a2 a3 a4 a5 (mkS X I J v))) fun r s2 => (gXl s2 (iZ (i : Int) + 1)).bind fun b1 => (gXl s2 (iZ (i : Int) + 2)).bind fun b2 => (gXl s2 (iZ (i : Int) + 3)).bind fun b3 => (gXl s2 (iZ (i : Int) + 4)).bind fun b4 => (gXl s2 (iZ (i : Int) + 5)).bind fun b5 => gb2 (gcv s2 267 12 (fm b1 b2 b3 b4 b5 s2)) fun r2 s3 => if r = r2 then K s3 else some (0, s3)) = K (mkS X I' J' v') := by
  obtain ⟨x, I1, J1, v1, I2, J2, a, e, b, hr2⟩ := h (I 1 (i + 1)) (I 1 (i + 2)) (I 1 (i + 3)) (I 1 (i + 4)) (I 1 (i + 5)) X I J v hr
  refine ⟨I2, J2, v1, hr2, fun K => ?_⟩
  have y1 : ∀ (I : Nat → Nat → Int32) (J : Nat → Nat → Int64) (v : Vt), gXl (mkS X I J v) (iZ (i : Int) + 1) = some (I 1 (i + 1)) := fun I J v => by
    have w : iZ (i : Int) + 1 = iZ ((i + 1 : Nat) : Int) := ad_n i 1
    rw [w]; exact xl_l (by omega) hX
  have y2 : ∀ (I : Nat → Nat → Int32) (J : Nat → Nat → Int64) (v : Vt), gXl (mkS X I J v) (iZ (i : Int) + 2) = some (I 1 (i + 2)) := fun I J v => by
    have w : iZ (i : Int) + 2 = iZ ((i + 2 : Nat) : Int) := ad_n i 2
    rw [w]; exact xl_l (by omega) hX
  have y3 : ∀ (I : Nat → Nat → Int32) (J : Nat → Nat → Int64) (v : Vt), gXl (mkS X I J v) (iZ (i : Int) + 3) = some (I 1 (i + 3)) := fun I J v => by
    have w : iZ (i : Int) + 3 = iZ ((i + 3 : Nat) : Int) := ad_n i 3
    rw [w]; exact xl_l (by omega) hX
  have y4 : ∀ (I : Nat → Nat → Int32) (J : Nat → Nat → Int64) (v : Vt), gXl (mkS X I J v) (iZ (i : Int) + 4) = some (I 1 (i + 4)) := fun I J v => by
    have w : iZ (i : Int) + 4 = iZ ((i + 4 : Nat) : Int) := ad_n i 4
    rw [w]; exact xl_l (by omega) hX
  have y5 : ∀ (I : Nat → Nat → Int32) (J : Nat → Nat → Int64) (v : Vt), gXl (mkS X I J v) (iZ (i : Int) + 5) = some (I 1 (i + 5)) := fun I J v => by
    have w : iZ (i : Int) + 5 = iZ ((i + 5 : Nat) : Int) := ad_n i 5
    rw [w]; exact xl_l (by omega) hX
  rw [y1, bO.1, y2, bO.1, y3, bO.1, y4, bO.1, y5, bO.1, gc_50, a, gb2_some, y1, bO.1, y2, bO.1, y3, bO.1, y4, bO.1, y5, bO.1, e, e, e, e, e, gc_267, b, gb2_some, if_pos rfl]
theorem law_go (hX : X.1 ≤ 3072) : ∀ (n i : Nat) (I : Nat → Nat → Int32) (J : Nat → Nat → Int64) (v : Vt), rel I J v → i ≤ X.1 → X.1 + 6 ≤ i + 6 * n → ∃ (I' : Nat → Nat → Int32) (J' : Nat → Nat → Int64) (v' : Vt), gL_law_L18 50 267 n (iZ (i : Int)) (mkS X I J v) = some (1, mkS X I' J' v') := by
  intro n
  induction n with
  | zero => intro i I J v _ h1 h2; omega
  | succ n ih =>
    intro i I J v hr h1 h2
    have e6 : iZ (i : Int) + 6 = iZ ((i + 6 : Nat) : Int) := ad_n i 6
    have es : iZ (X.1 : Int) - 6 = iZ ((X.1 : Int) - 6) := iZ_sub _ 6
    unfold gL_law_L18
    rw [xn_l, bO.1, es]
    by_cases q : (X.1 : Int) - 6 < i
    · rw [if_pos (by rw [iZ_lt (by omega) (by omega) (by omega) (by omega)]; exact q)]
      exact ⟨I, J, v, rfl⟩
    · rw [if_neg (by rw [iZ_lt (by omega) (by omega) (by omega) (by omega)]; exact q)]
      have hi : i + 6 ≤ X.1 := by omega
      have nx : ∀ (I' : Nat → Nat → Int32) (J' : Nat → Nat → Int64) (v' : Vt), rel I' J' v' → ∃ (I2 : Nat → Nat → Int32) (J2 : Nat → Nat → Int64) (v2 : Vt), gL_law_L18 50 267 n (iZ (i : Int) + 6) (mkS X I' J' v') = some (1, mkS X I2 J2 v2) := fun I' J' v' hr' => by
        rw [e6]; exact ih (i + 6) I' J' v' hr' (by omega) (by omega)
      rw [xl_l (by omega) hX, bO.1]
      generalize I 1 i &&& 31 = c
      by_cases c0 : c = 0
      · obtain ⟨I', J', v', hr', e⟩ := st_5 (fc := fX11_feed 50) (fm := fX12_feed 267) (X := X) (i := i) p_feed hX hi hr
        obtain ⟨I2, J2, v2, z⟩ := nx I' J' v' hr'
        rw [if_pos c0]
        exact ⟨I2, J2, v2, (e (gL_law_L18 50 267 n (iZ (i : Int) + 6))).trans z⟩
      rw [if_neg c0]
      by_cases c1 : c = 1
      · obtain ⟨I', J', v', hr', e⟩ := st_1 (fc := fX11_end 50) (fm := fX12_end 267) (X := X) (i := i) p_end hX hi hr
        obtain ⟨I2, J2, v2, z⟩ := nx I' J' v' hr'
        rw [if_pos c1]
        exact ⟨I2, J2, v2, (e (gL_law_L18 50 267 n (iZ (i : Int) + 6))).trans z⟩
      rw [if_neg c1]
      by_cases c2 : c = 2
      · obtain ⟨I', J', v', hr', e⟩ := st_0 (fc := fX11_book 50) (fm := fX12_book 267) (X := X) (i := i) p_book hX hi hr
        obtain ⟨I2, J2, v2, z⟩ := nx I' J' v' hr'
        rw [if_pos c2]
        exact ⟨I2, J2, v2, (e (gL_law_L18 50 267 n (iZ (i : Int) + 6))).trans z⟩
      rw [if_neg c2]
      by_cases c3 : c = 3
      · obtain ⟨I', J', v', hr', e⟩ := st_1 (fc := fX11_fault 50) (fm := fX12_fault 267) (X := X) (i := i) p_fault hX hi hr
        obtain ⟨I2, J2, v2, z⟩ := nx I' J' v' hr'
        rw [if_pos c3]
        exact ⟨I2, J2, v2, (e (gL_law_L18 50 267 n (iZ (i : Int) + 6))).trans z⟩
      rw [if_neg c3]
      by_cases c4 : c = 4
      · obtain ⟨I', J', v', hr', e⟩ := st_1 (fc := fX11_has 50) (fm := fX12_has 267) (X := X) (i := i) p_has hX hi hr
        obtain ⟨I2, J2, v2, z⟩ := nx I' J' v' hr'
        rw [if_pos c4]
        exact ⟨I2, J2, v2, (e (gL_law_L18 50 267 n (iZ (i : Int) + 6))).trans z⟩
      rw [if_neg c4]
      by_cases c5 : c = 5
      · obtain ⟨I', J', v', hr', e⟩ := st_2 (fc := fX11_letter 50) (fm := fX12_letter 267) (X := X) (i := i) p_letter hX hi hr
        obtain ⟨I2, J2, v2, z⟩ := nx I' J' v' hr'
        rw [if_pos c5]
        exact ⟨I2, J2, v2, (e (gL_law_L18 50 267 n (iZ (i : Int) + 6))).trans z⟩
      rw [if_neg c5]
      by_cases c6 : c = 6
      · obtain ⟨I', J', v', hr', e⟩ := st_2 (fc := fX11_rule 50) (fm := fX12_rule 267) (X := X) (i := i) p_rule hX hi hr
        obtain ⟨I2, J2, v2, z⟩ := nx I' J' v' hr'
        rw [if_pos c6]
        exact ⟨I2, J2, v2, (e (gL_law_L18 50 267 n (iZ (i : Int) + 6))).trans z⟩
      rw [if_neg c6]
      by_cases c7 : c = 7
      · obtain ⟨I', J', v', hr', e⟩ := st_3 (fc := fX11_day 50) (fm := fX12_day 267) (X := X) (i := i) p_day hX hi hr
        obtain ⟨I2, J2, v2, z⟩ := nx I' J' v' hr'
        rw [if_pos c7]
        exact ⟨I2, J2, v2, (e (gL_law_L18 50 267 n (iZ (i : Int) + 6))).trans z⟩
      rw [if_neg c7]
      by_cases c8 : c = 8
      · obtain ⟨I', J', v', hr', e⟩ := st_2 (fc := fX11_date 50) (fm := fX12_date_ 267) (X := X) (i := i) p_date hX hi hr
        obtain ⟨I2, J2, v2, z⟩ := nx I' J' v' hr'
        rw [if_pos c8]
        exact ⟨I2, J2, v2, (e (gL_law_L18 50 267 n (iZ (i : Int) + 6))).trans z⟩
      rw [if_neg c8]
      by_cases c9 : c = 9
      · obtain ⟨I', J', v', hr', e⟩ := st_2 (fc := fX11_on 50) (fm := fX12_on 267) (X := X) (i := i) p_on hX hi hr
        obtain ⟨I2, J2, v2, z⟩ := nx I' J' v' hr'
        rw [if_pos c9]
        exact ⟨I2, J2, v2, (e (gL_law_L18 50 267 n (iZ (i : Int) + 6))).trans z⟩
      rw [if_neg c9]
      by_cases c10 : c = 10
      · obtain ⟨I', J', v', hr', e⟩ := st_2 (fc := fX11_next 50) (fm := fX12_next 267) (X := X) (i := i) p_next hX hi hr
        obtain ⟨I2, J2, v2, z⟩ := nx I' J' v' hr'
        rw [if_pos c10]
        exact ⟨I2, J2, v2, (e (gL_law_L18 50 267 n (iZ (i : Int) + 6))).trans z⟩
      rw [if_neg c10]
      by_cases c11 : c = 11
      · obtain ⟨I', J', v', hr', e⟩ := st_2 (fc := fX11_ahead 50) (fm := fX12_ahead 267) (X := X) (i := i) p_ahead hX hi hr
        obtain ⟨I2, J2, v2, z⟩ := nx I' J' v' hr'
        rw [if_pos c11]
        exact ⟨I2, J2, v2, (e (gL_law_L18 50 267 n (iZ (i : Int) + 6))).trans z⟩
      rw [if_neg c11]
      by_cases c12 : c = 12
      · obtain ⟨I', J', v', hr', e⟩ := st_2 (fc := fX11_nth 50) (fm := fX12_nth 267) (X := X) (i := i) p_nth hX hi hr
        obtain ⟨I2, J2, v2, z⟩ := nx I' J' v' hr'
        rw [if_pos c12]
        exact ⟨I2, J2, v2, (e (gL_law_L18 50 267 n (iZ (i : Int) + 6))).trans z⟩
      rw [if_neg c12]
      by_cases c13 : c = 13
      · obtain ⟨I', J', v', hr', e⟩ := st_3 (fc := fX11_many 50) (fm := fX12_many 267) (X := X) (i := i) p_many hX hi hr
        obtain ⟨I2, J2, v2, z⟩ := nx I' J' v' hr'
        rw [if_pos c13]
        exact ⟨I2, J2, v2, (e (gL_law_L18 50 267 n (iZ (i : Int) + 6))).trans z⟩
      rw [if_neg c13]
      by_cases c14 : c = 14
      · obtain ⟨I', J', v', hr', e⟩ := st_2 (fc := fX11_gap 50) (fm := fX12_gap 267) (X := X) (i := i) p_gap hX hi hr
        obtain ⟨I2, J2, v2, z⟩ := nx I' J' v' hr'
        rw [if_pos c14]
        exact ⟨I2, J2, v2, (e (gL_law_L18 50 267 n (iZ (i : Int) + 6))).trans z⟩
      rw [if_neg c14]
      by_cases c15 : c = 15
      · obtain ⟨I', J', v', hr', e⟩ := st_3 (fc := fX11_free 50) (fm := fX12_free 267) (X := X) (i := i) p_free hX hi hr
        obtain ⟨I2, J2, v2, z⟩ := nx I' J' v' hr'
        rw [if_pos c15]
        exact ⟨I2, J2, v2, (e (gL_law_L18 50 267 n (iZ (i : Int) + 6))).trans z⟩
      rw [if_neg c15]
      by_cases c16 : c = 16
      · obtain ⟨I', J', v', hr', e⟩ := st_4 (fc := fX11_meet 50) (fm := fX12_meet 267) (X := X) (i := i) p_meet hX hi hr
        obtain ⟨I2, J2, v2, z⟩ := nx I' J' v' hr'
        rw [if_pos c16]
        exact ⟨I2, J2, v2, (e (gL_law_L18 50 267 n (iZ (i : Int) + 6))).trans z⟩
      rw [if_neg c16]
      by_cases c17 : c = 17
      · obtain ⟨I', J', v', hr', e⟩ := st_2 (fc := fX11_fares 50) (fm := fX12_fares 267) (X := X) (i := i) p_fares hX hi hr
        obtain ⟨I2, J2, v2, z⟩ := nx I' J' v' hr'
        rw [if_pos c17]
        exact ⟨I2, J2, v2, (e (gL_law_L18 50 267 n (iZ (i : Int) + 6))).trans z⟩
      rw [if_neg c17]
      by_cases c18 : c = 18
      · obtain ⟨I', J', v', hr', e⟩ := st_3 (fc := fX11_period 50) (fm := fX12_period 267) (X := X) (i := i) p_period hX hi hr
        obtain ⟨I2, J2, v2, z⟩ := nx I' J' v' hr'
        rw [if_pos c18]
        exact ⟨I2, J2, v2, (e (gL_law_L18 50 267 n (iZ (i : Int) + 6))).trans z⟩
      rw [if_neg c18]
      by_cases c19 : c = 19
      · obtain ⟨I', J', v', hr', e⟩ := st_1 (fc := fX11_sum 50) (fm := fX12_sum 267) (X := X) (i := i) p_sum hX hi hr
        obtain ⟨I2, J2, v2, z⟩ := nx I' J' v' hr'
        rw [if_pos c19]
        exact ⟨I2, J2, v2, (e (gL_law_L18 50 267 n (iZ (i : Int) + 6))).trans z⟩
      rw [if_neg c19]
      by_cases c20 : c = 20
      · obtain ⟨I', J', v', hr', e⟩ := st_1 (fc := fX11_see 50) (fm := fX12_see 267) (X := X) (i := i) p_see hX hi hr
        obtain ⟨I2, J2, v2, z⟩ := nx I' J' v' hr'
        rw [if_pos c20]
        exact ⟨I2, J2, v2, (e (gL_law_L18 50 267 n (iZ (i : Int) + 6))).trans z⟩
      rw [if_neg c20]
      by_cases c21 : c = 21
      · obtain ⟨I', J', v', hr', e⟩ := st_1 (fc := fX11_fits 50) (fm := fX12_fits 267) (X := X) (i := i) p_fits hX hi hr
        obtain ⟨I2, J2, v2, z⟩ := nx I' J' v' hr'
        rw [if_pos c21]
        exact ⟨I2, J2, v2, (e (gL_law_L18 50 267 n (iZ (i : Int) + 6))).trans z⟩
      rw [if_neg c21]
      by_cases c22 : c = 22
      · obtain ⟨I', J', v', hr', e⟩ := st_1 (fc := fX11_tells 50) (fm := fX12_tells 267) (X := X) (i := i) p_tells hX hi hr
        obtain ⟨I2, J2, v2, z⟩ := nx I' J' v' hr'
        rw [if_pos c22]
        exact ⟨I2, J2, v2, (e (gL_law_L18 50 267 n (iZ (i : Int) + 6))).trans z⟩
      rw [if_neg c22]
      by_cases c23 : c = 23
      · obtain ⟨I', J', v', hr', e⟩ := st_2 (fc := fX11_add 50) (fm := fX12_add 267) (X := X) (i := i) p_add hX hi hr
        obtain ⟨I2, J2, v2, z⟩ := nx I' J' v' hr'
        rw [if_pos c23]
        exact ⟨I2, J2, v2, (e (gL_law_L18 50 267 n (iZ (i : Int) + 6))).trans z⟩
      rw [if_neg c23]
      by_cases c24 : c = 24
      · obtain ⟨I', J', v', hr', e⟩ := st_2 (fc := fX11_leave 50) (fm := fX12_leave 267) (X := X) (i := i) p_leave hX hi hr
        obtain ⟨I2, J2, v2, z⟩ := nx I' J' v' hr'
        rw [if_pos c24]
        exact ⟨I2, J2, v2, (e (gL_law_L18 50 267 n (iZ (i : Int) + 6))).trans z⟩
      rw [if_neg c24]
      by_cases c25 : c = 25
      · obtain ⟨I', J', v', hr', e⟩ := st_2 (fc := fX11_every 50) (fm := fX12_every 267) (X := X) (i := i) p_every hX hi hr
        obtain ⟨I2, J2, v2, z⟩ := nx I' J' v' hr'
        rw [if_pos c25]
        exact ⟨I2, J2, v2, (e (gL_law_L18 50 267 n (iZ (i : Int) + 6))).trans z⟩
      rw [if_neg c25]
      by_cases c26 : c = 26
      · obtain ⟨I', J', v', hr', e⟩ := st_2 (fc := fX11_from 50) (fm := fX12_from 267) (X := X) (i := i) p_from hX hi hr
        obtain ⟨I2, J2, v2, z⟩ := nx I' J' v' hr'
        rw [if_pos c26]
        exact ⟨I2, J2, v2, (e (gL_law_L18 50 267 n (iZ (i : Int) + 6))).trans z⟩
      rw [if_neg c26]
      by_cases c27 : c = 27
      · obtain ⟨I', J', v', hr', e⟩ := st_1 (fc := fX11_chance 50) (fm := fX12_chance 267) (X := X) (i := i) p_chance hX hi hr
        obtain ⟨I2, J2, v2, z⟩ := nx I' J' v' hr'
        rw [if_pos c27]
        exact ⟨I2, J2, v2, (e (gL_law_L18 50 267 n (iZ (i : Int) + 6))).trans z⟩
      rw [if_neg c27]
      by_cases c28 : c = 28
      · obtain ⟨I', J', v', hr', e⟩ := st_0 (fc := fX11_undo 50) (fm := fX12_undo 267) (X := X) (i := i) p_undo hX hi hr
        obtain ⟨I2, J2, v2, z⟩ := nx I' J' v' hr'
        rw [if_pos c28]
        exact ⟨I2, J2, v2, (e (gL_law_L18 50 267 n (iZ (i : Int) + 6))).trans z⟩
      rw [if_neg c28]
      by_cases c29 : c = 29
      · obtain ⟨I', J', v', hr', e⟩ := st_1 (fc := fX11_seed 50) (fm := fX12_seed 267) (X := X) (i := i) p_seed hX hi hr
        obtain ⟨I2, J2, v2, z⟩ := nx I' J' v' hr'
        rw [if_pos c29]
        exact ⟨I2, J2, v2, (e (gL_law_L18 50 267 n (iZ (i : Int) + 6))).trans z⟩
      rw [if_neg c29]
      by_cases c30 : c = 30
      · obtain ⟨I', J', v', hr', e⟩ := st_1 (fc := fX11_status 50) (fm := fX12_status 267) (X := X) (i := i) p_status hX hi hr
        obtain ⟨I2, J2, v2, z⟩ := nx I' J' v' hr'
        rw [if_pos c30]
        exact ⟨I2, J2, v2, (e (gL_law_L18 50 267 n (iZ (i : Int) + 6))).trans z⟩
      rw [if_neg c30]
      exact nx I J v hr
end gLw
theorem law_all (L : Nat) (xs : Nat → Int32) (hL : L ≤ 3072) : ∃ σ', gL_law (L, xs) gsc = some (1, σ') ∧ gN σ' ≤ 600050 ∧ gQ σ' ≤ 7302250 := by
  obtain ⟨K, hK, e⟩ := law_0 (L, xs)
  rw [start_eq] at e
  have hk : (L, xs).1 + 6 ≤ 0 + 6 * K := by
    show L + 6 ≤ 0 + 6 * K
    omega
  obtain ⟨I', J', v', h⟩ := law_go (X := (L, xs)) hL K 0 (iSt (L, xs)) (gJ cst) (197, 232, 197, 0, 54, 0) (rel_start (L, xs)) (Nat.zero_le _) hk
  refine ⟨mkS (L, xs) I' J' v', e.trans h, ?_, ?_⟩
  · show (293 : Nat) ≤ 600050
    decide
  · show gQ cst ≤ 7302250
    have := cst_Q
    omega
