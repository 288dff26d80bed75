/-! WEEKDAYS of a rule, the reference -/
def byJ (F : Int32 → gH → Option (Unit × gH)) (s51 : gH) : Option (Unit × gH) := gb2 (gcv s51 267 12 (fX12_takesSign 267 44 s51)) F
def byK (F : Int32 → gH → Option (Unit × gH)) (x1 v17 z28 r30 : Int32) (s48 : gH) : Option (Unit × gH) :=
  (ggI s48 267 12 5).bind fun v49 => if v49 = 0 then
    (ggR s48 267 12 18).bind fun v55 => gb2 (fX12_ruleAt x1 (15 + (2 * v17)) s48) fun r56 s57 => (saI s57 v55 2 r56 z28).bind fun s58 =>
    (ggR s58 267 12 18).bind fun v59 => gb2 (fX12_ruleAt x1 ((15 + (2 * v17)) + 1) s58) fun r60 s61 => (saI s61 v59 2 r60 r30).bind fun s62 =>
    (ggR s62 267 12 18).bind fun v63 => gb2 (fX12_ruleAt x1 14 s62) fun r64 s65 => (gaI s65 v63 2 r64).bind fun v66 => (saI s65 v63 2 r64 (v66 + 1)).bind fun s67 => byJ F s67
  else byJ F s48
def byW (F : Int32 → gH → Option (Unit × gH)) (x1 x3 v17 v20 z28 : Int32) (s29 : gH) : Option (Unit × gH) := gb2 (gcv s29 267 12 (fX12_weekday 267 s29)) fun r30 s31 => gX12_byTold_L148 (byK F x1 v17 z28 r30) 267 x1 x3 v17 v20 z28 r30 20000 0 s31
def byP (F : Int32 → gH → Option (Unit × gH)) (x1 x3 v17 v20 z23 : Int32) (s26 : gH) : Option (Unit × gH) := if z23 = 0 then byW F x1 x3 v17 v20 0 s26 else gb2 (gcv s26 267 12 (fX12_place 267 53 s26)) fun r69 s70 => byW F x1 x3 v17 v20 r69 s70
def byF (F : Int32 → gH → Option (Unit × gH)) (x1 x3 v17 v20 z23 : Int32) (s24 : gH) : Option (Unit × gH) := if z23 = 0 then byP F x1 x3 v17 v20 z23 s24 else if x3 = 0 then gb2 (gcv s24 267 12 (fX12_fail 267 4 v20 s24)) fun (_ : Unit) s74 => byP F x1 x3 v17 v20 z23 s74 else byP F x1 x3 v17 v20 z23 s24
theorem by_eq (x1 x3 : Int32) (n : Nat) (x2 : Int32) (s0 : gH) : gX12_byTold_L33 267 x1 x3 (n + 1) x2 s0 = if x2 = 0 then some ((), s0) else (ggR s0 267 12 18).bind fun v14 => gb2 (fX12_ruleAt x1 14 s0) fun r15 s16 => (gaI s16 v14 2 r15).bind fun v17 => gb2 (gcv s16 267 12 (fX12_room 267 v17 s16)) fun (_ : Unit) s19 => (ggI s19 267 12 2).bind fun v20 => (ggI s19 267 12 5).bind fun v21 => if v21 = 0 then gb2 (gcv s19 267 12 (fX12_look 267 s19)) fun r76 s77 => if r76 = 45 then byF (gX12_byTold_L33 267 x1 x3 n) x1 x3 v17 v20 1 s77 else gb2 (gcv s77 267 12 (fX12_look 267 s77)) fun r79 s80 => gb2 (fX12_isDigit r79 s80) fun r81 s82 => if r81 = 0 then byF (gX12_byTold_L33 267 x1 x3 n) x1 x3 v17 v20 0 s82 else (ggI s82 267 12 2).bind fun v84 => (ggI s82 267 12 4).bind fun v85 => if v84 = v85 then byF (gX12_byTold_L33 267 x1 x3 n) x1 x3 v17 v20 0 s82 else byF (gX12_byTold_L33 267 x1 x3 n) x1 x3 v17 v20 1 s82 else byF (gX12_byTold_L33 267 x1 x3 n) x1 x3 v17 v20 0 s19 := rfl
def rwB (I : Nat → Nat → Int32) (o : Nat) (l : List Int) : Prop := I 275 (o + 14) = iZ (l.length : Int) ∧ ∀ k, k < l.length → I 275 (o + (15 + 2 * k)) = iZ (l.getD k 0 / 8) ∧ I 275 (o + (15 + 2 * k + 1)) = iZ (l.getD k 0 % 8)
section gMb
variable {X : Nat × (Nat → Int32)} {J : Nat → Nat → Int64} {v : Vt} {T : Nat → Nat} {n : Nat}
theorem by_er {K : gH → Option (Unit × gH)} {x1 x3 x4 x5 x7 x8 x9 : Int32} {f : Nat} {I : Nat → Nat → Int32} {r : PS} (hr : mO I T n r) (hk : pOk r = false) : gX12_byTold_L148 K 267 x1 x3 x4 x5 x7 x8 (f + 1) x9 (mkS X I J v) = K (mkS X I J v) := by
  unfold gX12_byTold_L148
  simp only [bO, o267]
  rw [if_neg (mO_err hr hk)]
  split <;> rfl
theorem by_dup {K : gH → Option (Unit × gH)} {x3 : Int32} {rr bg : Nat} {l : List Int} {p : Int} {w : Int} {r' : PS} (hrr : rr < 6) (hl : l.length ≤ 8) (hok : pOk r' = true) (hp : -1000 ≤ p ∧ p ≤ 1000) (hw : 0 ≤ w ∧ w < 8) (hlb : ∀ y, y ∈ l → -1000 ≤ y ∧ y ≤ 1000) : ∀ (m j fuel : Nat) (I : Nat → Nat → Int32), j + m = l.length → m + 1 < fuel → mO I T n r' → (∀ k, k < l.length → I 275 (2 + 42 * rr + (15 + 2 * k)) = iZ (l.getD k 0 / 8) ∧ I 275 (2 + 42 * rr + (15 + 2 * k + 1)) = iZ (l.getD k 0 % 8)) → ∃ I', gX12_byTold_L148 K 267 (iZ (rr : Int)) x3 (iZ (l.length : Int)) (iZ (bg : Int)) (iZ p) (iZ w) fuel (iZ (j : Int)) (mkS X I J v) = K (mkS X I' J v) ∧ frM I I' ∧ mO I' T n (if exF (fun i => l.getD i 0 == p * 8 + w) j m = true then .error (4, bg) else r') := by
  intro m
  induction m with
  | zero =>
    intro j fuel I hj hf hr hI
    obtain ⟨f, rfl⟩ : ∃ n, fuel = n + 1 := ⟨fuel - 1, by omega⟩
    refine ⟨I, ?_, frM_r I, hr⟩
    unfold gX12_byTold_L148
    rw [if_neg (by rw [iZ_lt (by omega) (by omega) (by omega) (by omega)]; omega)]
  | succ m ih =>
    intro j fuel I hj hf hr hI
    obtain ⟨f, rfl⟩ : ∃ n, fuel = n + 1 := ⟨fuel - 1, by omega⟩
    unfold gX12_byTold_L148
    rw [if_pos (by rw [iZ_lt (by omega) (by omega) (by omega) (by omega)]; omega)]
    simp only [bO, o267, o267R]
    have eA : (15 : Int32) + 2 * iZ (j : Int) = iZ ((15 + 2 * j : Nat) : Int) := by rw [pR, aR]; congr 1
    have eB : iZ ((15 + 2 * j : Nat) : Int) + 1 = iZ ((15 + 2 * j + 1 : Nat) : Int) := by rw [aL]; rfl
    rw [if_pos (mO_ok hr hok), eA, eB, m_ruleAtn]
    simp only [bO]
    obtain ⟨i1, i2⟩ := hI j (by omega)
    rw [a275 _ _ _ _ _ (by omega), i1]
    simp only [bO, o267R]
    rw [m_ruleAtn]
    simp only [bO]
    rw [a275 _ _ _ _ _ (by omega), i2]
    simp only [bO, o267]
    have hb := hlb _ (mem_get.mpr ⟨j, by omega, rfl⟩)
    have eX : exF (fun i => l.getD i 0 == p * 8 + w) j (m + 1) = ((l.getD j 0 == p * 8 + w) || exF (fun i => l.getD i 0 == p * 8 + w) (j + 1) m) := rfl
    rw [eX, show iZ (j : Int) + 1 = iZ ((j + 1 : Nat) : Int) from by rw [aL]; rfl]
    have rest := ih (j + 1) f I (by omega) (by omega) hr hI
    by_cases c : l.getD j 0 = p * 8 + w
    · rw [show (l.getD j 0 == p * 8 + w) = true from by simpa using c, Bool.true_or, if_pos rfl, if_pos (by rw [c]; congr 1; omega), if_pos (by rw [c]; congr 1; omega)]
      obtain ⟨I2, a1, a2, a3, -⟩ := m_fail (X := X) (J := J) (v := v) (f := 4) (p := bg) (by decide) (by decide) hr
      have a1' : fX12_fail 267 4 (iZ (bg : Int)) (mkS X I J v) = some ((), mkS X I2 J v) := a1
      rw [a1', gb2_some]
      rw [pFail_ok hok] at a3
      obtain ⟨f2, rfl⟩ : ∃ n, f = n + 1 := ⟨f - 1, by omega⟩
      exact ⟨I2, by_er a3 rfl, a2, a3⟩
    · rw [show (l.getD j 0 == p * 8 + w) = false from by simpa using c, Bool.false_or]
      by_cases c1 : iZ (l.getD j 0 / 8) = iZ p
      · rw [if_pos c1, if_neg]
        · exact rest
        · rw [iZ_eq (by omega) (by omega) (by omega) (by omega)] at c1 ⊢
          omega
      · rw [if_neg c1]
        exact rest
/-- what follows behind a place -/
theorem m_byW {F : Int32 → gH → Option (Unit × gH)} {x3 : Int32} {rr : Nat} {l : List Int} {I0 I : Nat → Nat → Int32} {s : Nat × Bool} {u : Int} {z : Int32} (hrr : rr < 6) (hl : l.length ≤ 8) (hlb : ∀ y, y ∈ l → -1000 ≤ y ∧ y ≤ 1000) (h0 : rwB I0 (2 + 42 * rr) l) (fr : frM I0 I) (h : mX I T n) (h8 : l.length < 8) (hr : mO I T n (pM2 T n 2 u (.ok s))) (hz : pOk (pM2 T n 2 u (.ok s)) = true → z = iZ (pMs T n 2 u (.ok s)) ∧ -53 ≤ pMs T n 2 u (.ok s) ∧ pMs T n 2 u (.ok s) ≤ 53) : ∃ I2, byW F (iZ (rr : Int)) x3 (iZ (l.length : Int)) (iZ (s.1 : Int)) z (mkS X I J v) = (gb2 (fX12_takesSign 267 44 (mkS X I2 J v)) F) ∧ frN (2 + 42 * rr + 14) (2 + 42 * rr + 31) I0 I2 ∧ mO I2 T n (pDup (pMem T n 2 u) (pMemV T n 2 u) l (.ok s)) ∧ (pOk (pDup (pMem T n 2 u) (pMemV T n 2 u) l (.ok s)) = true → rwB I2 (2 + 42 * rr) (l ++ [pMemV T n 2 u (.ok s)])) := by
  unfold byW
  simp only [o267]
  obtain ⟨I1, x, a1, a2, a3, a4⟩ := m_weekday (X := X) (J := J) (v := v) h hr
  rw [a1, gb2_some]
  have em : pMem T n 2 u (.ok s) = pPass T n (pWk T n (pM2 T n 2 u (.ok s))) (pM2 T n 2 u (.ok s)) := rfl
  have ev : pMemV T n 2 u (.ok s) = pMs T n 2 u (.ok s) * 8 + (pOw T n (pM2 T n 2 u (.ok s)) - 4) := rfl
  rw [← em] at a3 a4
  have fr1 := frM_t fr a2
  obtain ⟨q1, q2⟩ := h0
  have hI1 : ∀ k, k < l.length → I1 275 (2 + 42 * rr + (15 + 2 * k)) = iZ (l.getD k 0 / 8) ∧ I1 275 (2 + 42 * rr + (15 + 2 * k + 1)) = iZ (l.getD k 0 % 8) := fun k hk => by rw [fr1.1 275 _ (by decide), fr1.1 275 _ (by decide)]; exact q2 k hk
  cases hok : pOk (pMem T n 2 u (.ok s)) with
  | false =>
    have eD : pDup (pMem T n 2 u) (pMemV T n 2 u) l (.ok s) = pMem T n 2 u (.ok s) := by unfold pDup; rw [if_neg (fun q => by rw [hok] at q; cases q.1)]
    rw [eD, by_er a3 hok]
    unfold byK byJ
    simp only [bO, o267]
    rw [if_neg (mO_err a3 hok)]
    exact ⟨I1, rfl, frN_M fr1, a3, fun q => by rw [hok] at q; cases q⟩
  | true =>
    obtain ⟨w1, w2⟩ := pPass_ok (show pOk (pPass T n (pWk T n (pM2 T n 2 u (.ok s))) (pM2 T n 2 u (.ok s))) = true from hok)
    obtain ⟨hz1, hz2, hz3⟩ := hz w2
    unfold pWk at w1
    rw [Bool.and_eq_true, decide_eq_true_eq, decide_eq_true_eq] at w1
    rw [a4 hok, hz1]
    obtain ⟨I3, c1, c2, c3⟩ := by_dup (X := X) (J := J) (v := v) (T := T) (n := n) (K := byK F (iZ (rr : Int)) (iZ (l.length : Int)) (iZ (pMs T n 2 u (.ok s))) (iZ (pOw T n (pM2 T n 2 u (.ok s)) - 4))) (x3 := x3) (bg := s.1) (l := l) (p := pMs T n 2 u (.ok s)) (w := pOw T n (pM2 T n 2 u (.ok s)) - 4) (r' := pMem T n 2 u (.ok s)) hrr hl hok (by omega) (by omega) hlb l.length 0 20000 I1 (by omega) (by omega) a3 hI1
    have c1' : gX12_byTold_L148 (byK F (iZ (rr : Int)) (iZ (l.length : Int)) (iZ (pMs T n 2 u (.ok s))) (iZ (pOw T n (pM2 T n 2 u (.ok s)) - 4))) 267 (iZ (rr : Int)) x3 (iZ (l.length : Int)) (iZ (s.1 : Int)) (iZ (pMs T n 2 u (.ok s))) (iZ (pOw T n (pM2 T n 2 u (.ok s)) - 4)) 20000 0 (mkS X I1 J v) = _ := c1
    rw [c1']
    have eD : (if exF (fun i => l.getD i 0 == pMs T n 2 u (.ok s) * 8 + (pOw T n (pM2 T n 2 u (.ok s)) - 4)) 0 l.length = true then .error (4, s.1) else pMem T n 2 u (.ok s)) = pDup (pMem T n 2 u) (pMemV T n 2 u) l (.ok s) := by
      unfold pDup
      rw [ev]
      by_cases z : pMs T n 2 u (.ok s) * 8 + (pOw T n (pM2 T n 2 u (.ok s)) - 4) ∈ l
      · rw [if_pos (exF_mem.mpr z), if_pos ⟨hok, z⟩]; rfl
      · rw [if_neg (fun q => z (exF_mem.mp q)), if_neg (fun q => z q.2)]
    rw [eD] at c3
    have fr3 := frM_t fr1 c2
    unfold byK byJ
    simp only [bO, o267]
    cases hk : pOk (pDup (pMem T n 2 u) (pMemV T n 2 u) l (.ok s)) with
    | false =>
      rw [if_neg (mO_err c3 hk)]
      exact ⟨I3, rfl, frN_M fr3, c3, fun q => by cases q⟩
    | true =>
      have eA : (15 : Int32) + 2 * iZ (l.length : Int) = iZ ((15 + 2 * l.length : Nat) : Int) := by rw [pR, aR]; congr 1
      have eB : iZ ((15 + 2 * l.length : Nat) : Int) + 1 = iZ ((15 + 2 * l.length + 1 : Nat) : Int) := by rw [aL]; rfl
      have q14 : ∀ s : gH, fX12_ruleAt (iZ (rr : Int)) 14 s = some (iZ ((2 + 42 * rr + 14 : Nat) : Int), s) := fun s => m_ruleAtn (k := 14)
      rw [if_pos (mO_ok c3 hk), eA, eB, m_ruleAtn]
      simp only [bO, o267R]
      rw [b275 _ _ _ _ _ _ (by omega)]
      simp only [bO, o267R]
      rw [m_ruleAtn]
      simp only [bO]
      rw [b275 _ _ _ _ _ _ (by omega)]
      simp only [bO, o267R, q14]
      rw [a275 _ _ _ _ _ (by omega)]
      simp only [bO]
      rw [b275 _ _ _ _ _ _ (by omega)]
      simp only [bO, o267, gnar_2]
      have e5 : gup (gup I3 275 (2 + 42 * rr + (15 + 2 * l.length)) (iZ (pMs T n 2 u (.ok s)))) 275 (2 + 42 * rr + (15 + 2 * l.length + 1)) (iZ (pOw T n (pM2 T n 2 u (.ok s)) - 4)) 275 (2 + 42 * rr + 14) = iZ (l.length : Int) := by rw [gup_k (by omega), gup_k (by omega), fr3.1 275 _ (by decide)]; exact q1
      rw [e5, aL, show ((l.length : Nat) : Int) + 1 = ((l.length + 1 : Nat) : Int) by omega]
      refine ⟨_, rfl, frN_t (frN_M fr3) (frN_t (frN_g (by omega) (by omega)) (frN_t (frN_g (by omega) (by omega)) (frN_g (by omega) (by omega)))), ?_, fun _ => ⟨?_, fun k hk => ?_⟩⟩
      · exact mO_7 c3 (fun k _ => by rw [gup_r (by decide), gup_r (by decide), gup_r (by decide)])
      · rw [gup_s, len_snoc]
      · rw [len_snoc] at hk
        rw [getD_snoc]
        by_cases zz : k < l.length
        · rw [if_pos zz, gup_k (by omega), gup_k (by omega), gup_k (by omega), gup_k (by omega), gup_k (by omega), gup_k (by omega), fr3.1 275 _ (by decide), fr3.1 275 _ (by decide)]; exact q2 k zz
        · have ek : k = l.length := by omega
          subst ek
          rw [if_neg zz, if_pos rfl, gup_k (by omega), gup_k (by omega), gup_s, gup_k (by omega), gup_s, ev]
          exact ⟨by congr 1; omega, by congr 1; omega⟩
theorem m_by {I : Nat → Nat → Int32} {r : PS} {rr : Nat} {u : Int} (hrr : rr < 6) (u1 : -1 ≤ u) (u2 : u ≤ 30) (h : mX I T n) (hr : mO I T n r) (hu : I 275 (2 + 42 * rr + 2) = iZ u) (hR : pOk r = true → rwB I (2 + 42 * rr) []) : ∃ I', fX12_byTold 267 (iZ (rr : Int)) (mkS X I J v) = some ((), mkS X I' J v) ∧ frN (2 + 42 * rr + 14) (2 + 42 * rr + 31) I I' ∧ mO I' T n (pRow T n (pMem T n 2 u) (pMemV T n 2 u) 8 [] r).2 ∧ (pOk (pRow T n (pMem T n 2 u) (pMemV T n 2 u) 8 [] r).2 = true → rwB I' (2 + 42 * rr) (pRow T n (pMem T n 2 u) (pMemV T n 2 u) 8 [] r).1) := by
  have hn := h.1.1
  unfold fX12_byTold
  have q2 : ∀ s : gH, fX12_ruleAt (iZ (rr : Int)) 2 s = some (iZ ((2 + 42 * rr + 2 : Nat) : Int), s) := fun s => m_ruleAtn (k := 2)
  simp only [bO, o267, o267R, q2]
  rw [a275 _ _ _ _ _ (by omega), hu]
  simp only [bO]
  have ec : (if iZ u < 2 then (0 : Int32) else 1) = tf (decide (2 ≤ u)) := by
    by_cases c : u < 2
    · rw [if_pos (by rw [cL_lt (by omega) (by omega) (by decide)]; exact c), decide_eq_false (by omega)]; rfl
    · rw [if_neg (by rw [cL_lt (by omega) (by omega) (by decide)]; exact c), decide_eq_true (by omega)]; rfl
  have eG : ∀ (z : Int32) (s : gH), (if iZ u < 2 then gX12_byTold_L33 267 (iZ (rr : Int)) 0 20000 z s else gX12_byTold_L33 267 (iZ (rr : Int)) 1 20000 z s) = gX12_byTold_L33 267 (iZ (rr : Int)) (tf (decide (2 ≤ u))) 20000 z s := by
    intro z s
    rw [← ec]
    split <;> rfl
  rw [eG, eG]
  cases r with
  | error e =>
    rw [if_neg (mO_err hr rfl)]
    refine ⟨I, rfl, frN_r _ _ I, ?_, fun q => ?_⟩
    · rw [pRow_er2]; exact hr
    · rw [pRow_er2] at q; cases q
  | ok s =>
    rw [if_pos hr.1]
    have key := m_rowG (X := X) (J := J) (v := v) (T := T) (n := n) (G := fun fu _ x s => gX12_byTold_L33 267 (iZ (rr : Int)) (tf (decide (2 ≤ u))) fu x s) (m := pMem T n 2 u) (mv := pMemV T n 2 u) (R := fun I l => rwB I (2 + 42 * rr) l) (E := fun _ => True) (Q := memR 2) (Fr := frN (2 + 42 * rr + 14) (2 + 42 * rr + 31)) (fun h1 h2 => frN_t h1 h2) (fun h => frN_M h) (fun h1 h2 => mX_N h2 h1) (fun _ h => h) (fun h1 h2 => ⟨by rw [h1.1 275 _ (by decide)]; exact h2.1, fun k hk => by rw [h1.1 275 _ (by decide), h1.1 275 _ (by decide)]; exact h2.2 k hk⟩) (fun r q => pMem_r q) (fun fu c s => by
      show gX12_byTold_L33 267 _ _ (fu + 1) 0 s = _
      rw [by_eq, if_pos rfl]) ?_ 8 20000 [] I s rfl (by decide) (by decide) h trivial hr (hR rfl) (fun y hy => by cases hy)
    · exact key
    · intro fu I l s h _ hr hRl hl8 hq
      have hlb : ∀ y, y ∈ l → -1000 ≤ y ∧ y ≤ 1000 := by
        intro y hy
        have := hq y hy
        unfold memR at this
        rw [if_neg (by decide), if_neg (by decide), if_pos rfl] at this
        omega
      have hRl0 := hRl
      obtain ⟨q1, qq⟩ := hRl
      show ∃ I2, gX12_byTold_L33 267 (iZ (rr : Int)) (tf (decide (2 ≤ u))) (fu + 1) 1 (mkS X I J v) = (gb2 (fX12_takesSign 267 44 (mkS X I2 J v)) (gX12_byTold_L33 267 (iZ (rr : Int)) (tf (decide (2 ≤ u))) fu)) ∧ _
      have q14 : ∀ s : gH, fX12_ruleAt (iZ (rr : Int)) 14 s = some (iZ ((2 + 42 * rr + 14 : Nat) : Int), s) := fun s => m_ruleAtn (k := 14)
      rw [by_eq, if_neg (by decide)]
      simp only [bO, o267R, q14]
      rw [a275 _ _ _ _ _ (by omega), q1]
      simp only [bO, o267]
      obtain ⟨I1, a1, a2, a3, a4⟩ := m_room (X := X) (J := J) (v := v) hl8 h hr
      rw [a1]
      simp only [bO, o267]
      rw [a4]
      have h1 := mX_M h a2
      by_cases c8 : l.length = 8
      · rw [if_pos c8] at a3
        have hE : pOk (pNot (if pKd T n (.ok s) = 0 then 1 else 5) (.ok s)) = false := pNot_ok
        rw [if_neg (mO_err a3 hE)]
        unfold byF byP byW
        simp only [if_pos, o267]
        obtain ⟨I2, x, b1, b2, b3, b4⟩ := m_weekday (X := X) (J := J) (v := v) h1 a3
        rw [b1, gb2_some]
        have b3' : mO I2 T n (pNot (if pKd T n (.ok s) = 0 then 1 else 5) (.ok s)) := b3
        rw [by_er b3' hE]
        unfold byK byJ
        simp only [bO, o267]
        rw [if_neg (mO_err b3' hE)]
        exact ⟨I2, rfl, frN_M (frM_t a2 b2), by rw [if_pos c8]; exact b3', fun q => by omega⟩
      · rw [if_neg c8] at a3
        simp only [if_neg c8]
        have hl' : l.length < 8 := by omega
        rw [if_pos a3.1]
        -- what is next
        have fin : ∀ (has : Bool) (I2 : Nat → Nat → Int32), has = pPlaced T n (.ok s) → frM I I2 → mO I2 T n (.ok s) → ∃ I3, byF (gX12_byTold_L33 267 (iZ (rr : Int)) (tf (decide (2 ≤ u))) fu) (iZ (rr : Int)) (tf (decide (2 ≤ u))) (iZ (l.length : Int)) (iZ (s.1 : Int)) (tf has) (mkS X I2 J v) = (gb2 (fX12_takesSign 267 44 (mkS X I3 J v)) (gX12_byTold_L33 267 (iZ (rr : Int)) (tf (decide (2 ≤ u))) fu)) ∧ frN (2 + 42 * rr + 14) (2 + 42 * rr + 31) I I3 ∧ mO I3 T n (pDup (pMem T n 2 u) (pMemV T n 2 u) l (.ok s)) ∧ (l.length < 8 → pOk (pDup (pMem T n 2 u) (pMemV T n 2 u) l (.ok s)) = true → rwB I3 (2 + 42 * rr) (l ++ [pMemV T n 2 u (.ok s)])) := by
          intro has I2 hh f2 o2
          have h2 := mX_M h f2
          cases has with
          | false =>
            have eb : pBack T n (.ok s) = false := by
              cases q : pBack T n (.ok s)
              · rfl
              · unfold pPlaced at hh; rw [q] at hh; cases hh
            have e0 : pM0 T n 2 u (.ok s) = .ok s := by unfold pM0; rw [if_neg (fun q => by rw [← hh] at q; cases q.2.1)]
            have e1 : pM1 T n 2 u (.ok s) = .ok s := by unfold pM1; rw [eb, e0]; rfl
            have e2 : pM2 T n 2 u (.ok s) = .ok s := by unfold pM2; rw [if_pos ⟨rfl, hh.symm⟩, e1]
            have es : pMs T n 2 u (.ok s) = 0 := by unfold pMs pMn; rw [eb, if_neg (by decide), if_pos (show 2 = 2 ∧ pPlaced T n (.ok s) = false from ⟨rfl, hh.symm⟩)]
            unfold byF byP
            rw [if_pos tf_f, if_pos tf_f]
            obtain ⟨I3, b1, b2, b3, b4⟩ := m_byW (X := X) (J := J) (v := v) (T := T) (n := n) (F := gX12_byTold_L33 267 (iZ (rr : Int)) (tf (decide (2 ≤ u))) fu) (x3 := tf (decide (2 ≤ u))) (I0 := I) (I := I2) (s := s) (u := u) (z := 0) hrr hl8 hlb hRl0 f2 h2 hl' (by rw [e2]; exact o2) (fun _ => by rw [es]; exact ⟨rfl, by decide, by decide⟩)
            exact ⟨I3, b1, b2, b3, fun _ => b4⟩
          | true =>
            have hP : pPlaced T n (.ok s) = true := hh.symm
            -- the place
            have go : ∀ I4 : Nat → Nat → Int32, frM I I4 → mO I4 T n (pM0 T n 2 u (.ok s)) → ∃ I3, byP (gX12_byTold_L33 267 (iZ (rr : Int)) (tf (decide (2 ≤ u))) fu) (iZ (rr : Int)) (tf (decide (2 ≤ u))) (iZ (l.length : Int)) (iZ (s.1 : Int)) (tf true) (mkS X I4 J v) = (gb2 (fX12_takesSign 267 44 (mkS X I3 J v)) (gX12_byTold_L33 267 (iZ (rr : Int)) (tf (decide (2 ≤ u))) fu)) ∧ frN (2 + 42 * rr + 14) (2 + 42 * rr + 31) I I3 ∧ mO I3 T n (pDup (pMem T n 2 u) (pMemV T n 2 u) l (.ok s)) ∧ (l.length < 8 → pOk (pDup (pMem T n 2 u) (pMemV T n 2 u) l (.ok s)) = true → rwB I3 (2 + 42 * rr) (l ++ [pMemV T n 2 u (.ok s)])) := by
              intro I4 f4 o4
              have h4 := mX_M h f4
              unfold byP
              rw [if_neg (show ¬ tf true = 0 by decide)]
              simp only [o267]
              obtain ⟨I5, x, b1, b2, b3, b4⟩ := m_place (X := X) (J := J) (v := v) (most := 53) (by decide) h4 o4
              have b1' : fX12_place 267 53 (mkS X I4 J v) = some (x, mkS X I5 J v) := b1
              rw [b1', gb2_some]
              have nf : ¬ (2 = 2 ∧ pPlaced T n (.ok s) = false) := fun q => by rw [hP] at q; cases q.2
              have e2 : pM2 T n 2 u (.ok s) = pNum T n 1 53 (pM1 T n 2 u (.ok s)) := by unfold pM2; rw [if_neg nf]; rfl
              have e3 : pNum T n 1 53 (if pBack T n (pM0 T n 2 u (.ok s)) = true then pAdv T n (pM0 T n 2 u (.ok s)) else pM0 T n 2 u (.ok s)) = pM2 T n 2 u (.ok s) := by
                rw [e2]
                unfold pM1
                cases z : pM0 T n 2 u (.ok s) with
                | error e =>
                  have : pBack T n (.error e) = false := rfl
                  rw [this, if_neg (by decide)]
                  split <;> rfl
                | ok s' =>
                  have : pM0 T n 2 u (.ok s) = .ok s ∨ pOk (pM0 T n 2 u (.ok s)) = false := by
                    unfold pM0
                    split
                    · exact Or.inr pNot_ok
                    · exact Or.inl rfl
                  rcases this with q | q
                  · rw [z] at q
                    injection q with q
                    rw [q]
                  · rw [z] at q; cases q
              rw [e3] at b3 b4
              obtain ⟨I6, d1, d2, d3, d4⟩ := m_byW (X := X) (J := J) (v := v) (T := T) (n := n) (F := gX12_byTold_L33 267 (iZ (rr : Int)) (tf (decide (2 ≤ u))) fu) (x3 := tf (decide (2 ≤ u))) (I0 := I) (I := I5) (s := s) (u := u) (z := x) hrr hl8 hlb hRl0 (frM_t f4 b2) (mX_M h4 b2) hl' b3 (fun q => by
                have hx := b4 q
                have e0 : pM0 T n 2 u (.ok s) = .ok s := by
                  have q' := q
                  rw [e2] at q'
                  have := (pNum_ok q').1
                  unfold pM1 at this
                  unfold pM0 at this ⊢
                  by_cases zz : 2 = 2 ∧ pPlaced T n (.ok s) = true ∧ u < 2
                  · rw [if_pos zz] at this
                    split at this
                    · rw [pAdv_ok] at this; rw [show pOk (pNot 4 (.ok s)) = false from pNot_ok] at this; cases this
                    · rw [show pOk (pNot 4 (.ok s)) = false from pNot_ok] at this; cases this
                  · rw [if_neg zz]
                rw [e0] at hx
                have e1 : pM1 T n 2 u (.ok s) = if pBack T n (.ok s) = true then pAdv T n (.ok s) else .ok s := by unfold pM1; rw [e0]
                have es : pMs T n 2 u (.ok s) = if pBack T n (.ok s) = true then -((pNumV T n (if pBack T n (.ok s) = true then pAdv T n (.ok s) else .ok s) : Nat) : Int) else ((pNumV T n (if pBack T n (.ok s) = true then pAdv T n (.ok s) else .ok s) : Nat) : Int) := by
                  have en : pMn T n 2 u (.ok s) = ((pNumV T n (if pBack T n (.ok s) = true then pAdv T n (.ok s) else .ok s) : Nat) : Int) := by unfold pMn; rw [if_neg nf, e1]
                  unfold pMs
                  rw [en]
                have q' := q
                rw [e2] at q'
                have hnum := pNum_ok q'
                rw [e1] at hnum
                have hxe : x = iZ (pMs T n 2 u (.ok s)) := by rw [hx, es]
                obtain ⟨-, n1, n2, -⟩ := hnum
                clear hx
                generalize (if pBack T n (.ok s) = true then pAdv T n (.ok s) else .ok s : PS) = r1 at n1 n2 es
                refine ⟨hxe, ?_, ?_⟩
                · rw [es]; split <;> omega
                · rw [es]; split <;> omega)
              exact ⟨I6, d1, d2, d3, fun _ => d4⟩
            unfold byF
            rw [if_neg (show ¬ tf true = 0 by decide)]
            by_cases cu : 2 ≤ u
            · rw [decide_eq_true cu, if_neg (show ¬ tf true = 0 by decide)]
              have := go I2 f2 (by unfold pM0; rw [if_neg (fun q => by omega)]; exact o2)
              rw [decide_eq_true cu] at this
              exact this
            · rw [decide_eq_false cu, if_pos tf_f]
              simp only [o267]
              obtain ⟨I4, b1, b2, b3, -⟩ := m_fail (X := X) (J := J) (v := v) (f := 4) (p := s.1) (by decide) (by decide) o2
              have b1' : fX12_fail 267 4 (iZ (s.1 : Int)) (mkS X I2 J v) = some ((), mkS X I4 J v) := b1
              rw [b1', gb2_some]
              have := go I4 (frM_t f2 b2) (by unfold pM0; rw [if_pos ⟨rfl, hP, by omega⟩]; exact b3)
              rw [decide_eq_false cu] at this
              exact this
        obtain ⟨b1, b2, b3⟩ := m_look (X := X) (J := J) (v := v) h1 a3
        have hid : gup I1 267 2 (iZ (s.1 : Int)) = I1 := gup_id a4
        rw [hid] at b1 b2
        have hc := pCh_r (s := s) h
        simp only [b1, bO, o267]
        rw [m_isDigit (by omega) (by omega), pCh_D]
        simp only [bO, o267]
        rw [a4]
        obtain ⟨h0, hs, p, q, e1, e2, e3, e4, e5, e6, e7, e8⟩ := a3
        have e1' := e1
        rw [a4, iZ_eq (by omega) (by omega) (by omega) (by omega)] at e1'
        rw [e2]
        have hback : iZ (pCh T n s) = 45 ↔ pBack T n (.ok s) = true := by
          rw [cL_eq (by omega) (by omega) (by decide)]
          show _ ↔ (decide (s.1 < n) && T s.1 == 45) = true
          unfold pCh
          rw [Bool.and_eq_true, decide_eq_true_eq, beq_iff_eq]
          by_cases z : s.1 < n
          · rw [if_pos z]
            constructor
            · intro q; exact ⟨z, by have q' : ((T s.1 : Nat) : Int) = 45 := q; omega⟩
            · rintro ⟨-, q⟩; rw [q]; rfl
          · rw [if_neg z]
            constructor
            · intro q; have q' : (-1 : Int) = 45 := q; omega
            · rintro ⟨q, -⟩; exact absurd q z
        by_cases cb : pBack T n (.ok s) = true
        · rw [if_pos (hback.mpr cb)]
          exact fin true I1 (by unfold pPlaced; rw [cb]; rfl) a2 b2
        · rw [if_neg (fun q => cb (hback.mp q))]
          have cbf : pBack T n (.ok s) = false := by
            cases z : pBack T n (.ok s)
            · rfl
            · exact absurd z cb
          by_cases cd : s.1 < n ∧ isDb (T s.1) = true
          · rw [decide_eq_true cd.1, cd.2, if_neg (show ¬ tf (true && true) = 0 by decide)]
            have hl : isLb (T s.1) = false := by
              cases z : isLb (T s.1)
              · rfl
              · have := LD z; rw [cd.2] at this; cases this
            by_cases cq : q = s.1
            · rw [if_pos (by rw [cq])]
              refine fin false I1 ?_ a2 b2
              unfold pPlaced
              rw [cbf, Bool.false_or]
              show false = (tkK T n s.1 s.2 == 2)
              unfold tkK
              rw [if_pos cd.1, hl, if_neg (by decide), if_pos cd.2, e7.mp cq]; rfl
            · rw [if_neg (by rw [iZ_eq (by omega) (by omega) (by omega) (by omega)]; omega)]
              refine fin true I1 ?_ a2 b2
              have ht : s.2 = false := by
                cases z : s.2
                · rfl
                · exact absurd (e7.mpr z) cq
              unfold pPlaced
              rw [cbf, Bool.false_or]
              show true = (tkK T n s.1 s.2 == 2)
              unfold tkK
              rw [if_pos cd.1, hl, if_neg (by decide), if_pos cd.2, ht]; rfl
          · have ez : (decide (s.1 < n) && isDb (T s.1)) = false := by
              cases z : (decide (s.1 < n) && isDb (T s.1))
              · rfl
              · rw [Bool.and_eq_true, decide_eq_true_eq] at z; exact absurd z cd
            rw [ez, if_pos tf_f]
            refine fin false I1 ?_ a2 b2
            unfold pPlaced
            rw [cbf, Bool.false_or]
            show false = (tkK T n s.1 s.2 == 2)
            cases z : (tkK T n s.1 s.2 == 2)
            · rfl
            · have := tk2 (beq_iff_eq.mp z)
              exact absurd ⟨this.1, this.2.2.1⟩ cd
end gMb
