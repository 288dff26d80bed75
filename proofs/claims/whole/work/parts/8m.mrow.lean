/-! ROWS of the reference -/
def frN (lo hi : Nat) (I I' : Nat → Nat → Int32) : Prop := (∀ r k, r ≠ 267 → r ≠ 275 → I' r k = I r k) ∧ (∀ k, k ≠ 2 → k ≠ 4 → k ≠ 5 → k ≠ 6 → k ≠ 10 → k ≠ 12 → I' 267 k = I 267 k) ∧ ∀ k, k < lo ∨ hi ≤ k → I' 275 k = I 275 k
theorem frN_r (lo hi : Nat) (I : Nat → Nat → Int32) : frN lo hi I I := ⟨fun _ _ _ _ => rfl, fun _ _ _ _ _ _ _ => rfl, fun _ _ => rfl⟩
theorem frN_t {lo hi : Nat} {I I' I'' : Nat → Nat → Int32} (h1 : frN lo hi I I') (h2 : frN lo hi I' I'') : frN lo hi I I'' := ⟨fun r k a b => (h2.1 r k a b).trans (h1.1 r k a b), fun k a b c d e f => (h2.2.1 k a b c d e f).trans (h1.2.1 k a b c d e f), fun k a => (h2.2.2 k a).trans (h1.2.2 k a)⟩
theorem frN_M {lo hi : Nat} {I I' : Nat → Nat → Int32} (h : frM I I') : frN lo hi I I' := ⟨fun r k a _ => h.1 r k a, h.2, fun k _ => h.1 275 k (by decide)⟩
theorem frN_g {lo hi k : Nat} {x : Int32} {I : Nat → Nat → Int32} (h1 : lo ≤ k) (h2 : k < hi) : frN lo hi I (gup I 275 k x) := ⟨fun r j _ b => gup_r b, fun j _ _ _ _ _ _ => gup_r (by decide), fun j hj => gup_k (by omega)⟩
theorem frN_w {lo hi lo' hi' : Nat} {I I' : Nat → Nat → Int32} (h : frN lo hi I I') (h1 : lo' ≤ lo) (h2 : hi ≤ hi') : frN lo' hi' I I' := ⟨h.1, h.2.1, fun k a => h.2.2 k (by omega)⟩
section gMr
variable {X : Nat × (Nat → Int32)} {J : Nat → Nat → Int64} {v : Vt} {T : Nat → Nat} {n : Nat}
theorem mX_N {lo hi : Nat} {I I' : Nat → Nat → Int32} (h : mX I T n) (f : frN lo hi I I') : mX I' T n := ⟨⟨h.1.1, fun k hk => by rw [f.1 268 k (by decide) (by decide)]; exact h.1.2 k hk⟩, by rw [f.2.1 3 (by decide) (by decide) (by decide) (by decide) (by decide) (by decide)]; exact h.2.1, fun k hk => by rw [f.1 270 k (by decide) (by decide)]; exact h.2.2 k hk⟩
theorem mO_7 {I I' : Nat → Nat → Int32} {r : PS} (h : mO I T n r) (f : ∀ k, k = 2 ∨ k = 4 ∨ k = 5 ∨ k = 6 → I' 267 k = I 267 k) : mO I' T n r := by
  cases r with
  | error e => unfold mO at h ⊢; dsimp only at h ⊢; rw [f 5 (by omega), f 6 (by omega)]; exact h
  | ok s => unfold mO at h ⊢; dsimp only at h ⊢; rw [f 5 (by omega), f 2 (by omega), f 4 (by omega), f 6 (by omega)]; exact h
/-- a row, whatever it is of -/
theorem m_rowG {G : Nat → Nat → Int32 → gH → Option (Unit × gH)} {m : PS → PS} {mv : PS → Int} {R : (Nat → Nat → Int32) → List Int → Prop} {E : (Nat → Nat → Int32) → Prop} {Q : Int → Prop} {Fr : (Nat → Nat → Int32) → (Nat → Nat → Int32) → Prop} (hFt : ∀ {I I' I''}, Fr I I' → Fr I' I'' → Fr I I'') (hFM : ∀ {I I'}, frM I I' → Fr I I') (hFX : ∀ {I I'}, Fr I I' → mX I T n → mX I' T n) (hFE : ∀ {I I'}, Fr I I' → E I → E I') (hR : ∀ {I I' l}, frM I I' → R I l → R I' l) (hQ : ∀ r, pOk (m r) = true → Q (mv r))
    (hstop : ∀ fuel c s, G (fuel + 1) c 0 s = some ((), s))
    (hstep : ∀ (fuel : Nat) (I : Nat → Nat → Int32) (l : List Int) (s : Nat × Bool), mX I T n → E I → mO I T n (.ok s) → R I l → l.length ≤ 8 → (∀ y, y ∈ l → Q y) → ∃ I2, G (fuel + 1) l.length 1 (mkS X I J v) = (gb2 (fX12_takesSign 267 44 (mkS X I2 J v)) fun r17 s18 => G fuel (l.length + 1) r17 s18) ∧ Fr I I2 ∧ mO I2 T n (if l.length = 8 then pNot (if pKd T n (.ok s) = 0 then 1 else 5) (.ok s) else pDup m mv l (.ok s)) ∧ (l.length < 8 → pOk (pDup m mv l (.ok s)) = true → R I2 (l ++ [mv (.ok s)]))) :
    ∀ (f fuel : Nat) (l : List Int) (I : Nat → Nat → Int32) (s : Nat × Bool), l.length + f = 8 → l.length < 8 → f + 3 < fuel → mX I T n → E I → mO I T n (.ok s) → R I l → (∀ y, y ∈ l → Q y) → ∃ I', G fuel l.length 1 (mkS X I J v) = some ((), mkS X I' J v) ∧ Fr I I' ∧ mO I' T n (pRow T n m mv f l (.ok s)).2 ∧ (pOk (pRow T n m mv f l (.ok s)).2 = true → R I' (pRow T n m mv f l (.ok s)).1) := by
  intro f
  induction f with
  | zero => intro fuel l I s h1 h2; omega
  | succ f ih =>
    intro fuel l I s hl hl2 hfu h hE hr hRl hq
    obtain ⟨fu, rfl⟩ : ∃ n, fuel = n + 1 := ⟨fuel - 1, by omega⟩
    obtain ⟨I2, a1, a2, a3, a4⟩ := hstep fu I l s h hE hr hRl (by omega) hq
    rw [if_neg (by omega)] at a3
    rw [a1]
    have h2 := hFX a2 h
    obtain ⟨I3, b1, b2, b3, b4, -⟩ := m_takesSign (X := X) (J := J) (v := v) (c := 44) (by decide) rfl rfl h2 a3
    have b1' : fX12_takesSign 267 44 (mkS X I2 J v) = some (tf (pSign T n 44 (pDup m mv l (.ok s))), mkS X I3 J v) := b1
    rw [b1', gb2_some]
    have eP : pRow T n m mv (f + 1) l (.ok s) = if pMore T n (l.length + 1) (pDup m mv l (.ok s)) = true then pRow T n m mv f (l ++ [mv (.ok s)]) (pNext T n (l.length + 1) (pDup m mv l (.ok s))) else (l ++ [mv (.ok s)], pNext T n (l.length + 1) (pDup m mv l (.ok s))) := rfl
    rw [eP]
    have fr3 := hFt a2 (hFM b2)
    have h3 := hFX fr3 h
    cases hs : pSign T n 44 (pDup m mv l (.ok s)) with
    | false =>
      rw [hs] at b3
      rw [if_neg (by decide)] at b3
      have e1 : pMore T n (l.length + 1) (pDup m mv l (.ok s)) = false := by unfold pMore; rw [hs]; rfl
      have e2 : pNext T n (l.length + 1) (pDup m mv l (.ok s)) = pDup m mv l (.ok s) := by unfold pNext; rw [hs]; rfl
      rw [e1, if_neg (by decide), e2]
      obtain ⟨f2, rfl⟩ : ∃ n, fu = n + 1 := ⟨fu - 1, by omega⟩
      refine ⟨I3, ?_, fr3, b3, fun q => hR b2 (a4 hl2 q)⟩
      exact hstop f2 (l.length + 1) _
    | true =>
      rw [hs, if_pos rfl] at b3
      have hok := pSign_ok hs
      have hd := pDup_ok hok
      have hq2 : ∀ y, y ∈ l ++ [mv (.ok s)] → Q y := by
        intro y hy
        rcases List.mem_append.mp hy with z | z
        · exact hq y z
        · rw [List.mem_singleton.mp z]; exact hQ _ hd.1
      have hR3 : R I3 (l ++ [mv (.ok s)]) := hR b2 (a4 hl2 hok)
      obtain ⟨s', hs'⟩ : ∃ s', pAdv T n (pDup m mv l (.ok s)) = .ok s' := by
        cases z : pAdv T n (pDup m mv l (.ok s)) with
        | ok s' => exact ⟨s', rfl⟩
        | error e =>
          have := pAdv_ok (T := T) (n := n) (r := pDup m mv l (.ok s))
          rw [z, hok] at this; cases this
      by_cases c8 : l.length + 1 < 8
      · have e1 : pMore T n (l.length + 1) (pDup m mv l (.ok s)) = true := by unfold pMore; rw [hs, decide_eq_true c8]; rfl
        have e2 : pNext T n (l.length + 1) (pDup m mv l (.ok s)) = .ok s' := by unfold pNext; rw [hs, if_pos rfl, if_pos c8, hs']
        rw [e1, if_pos rfl, e2]
        rw [hs'] at b3
        obtain ⟨I4, c1, c2, c3, c4⟩ := ih fu (l ++ [mv (.ok s)]) I3 s' (by rw [len_snoc]; omega) (by rw [len_snoc]; omega) (by omega) h3 (hFE fr3 hE) b3 hR3 hq2
        rw [len_snoc] at c1
        exact ⟨I4, c1, hFt fr3 c2, c3, c4⟩
      · have e1 : pMore T n (l.length + 1) (pDup m mv l (.ok s)) = false := by unfold pMore; rw [hs, decide_eq_false c8]; rfl
        have e2 : pNext T n (l.length + 1) (pDup m mv l (.ok s)) = pNot (if pKd T n (.ok s') = 0 then 1 else 5) (.ok s') := by unfold pNext; rw [hs, if_pos rfl, if_neg c8, hs']
        rw [e1, if_neg (by decide), e2]
        rw [hs'] at b3
        obtain ⟨f2, rfl⟩ : ∃ n, fu = n + 1 := ⟨fu - 1, by omega⟩
        obtain ⟨I4, c1, c2, c3, -⟩ := hstep f2 I3 (l ++ [mv (.ok s)]) s' h3 (hFE fr3 hE) b3 hR3 (by rw [len_snoc]; omega) hq2
        rw [len_snoc] at c1 c3
        rw [if_pos (show l.length + 1 = 8 by omega)] at c3
        obtain ⟨I5, d1, d2, d3, d4, -⟩ := m_takesSign (X := X) (J := J) (v := v) (c := 44) (by decide) rfl rfl (hFX c2 h3) c3
        have d1' : fX12_takesSign 267 44 (mkS X I4 J v) = some (tf false, mkS X I5 J v) := d1
        obtain ⟨f3, rfl⟩ : ∃ n, f2 = n + 1 := ⟨f2 - 1, by omega⟩
        refine ⟨I5, ?_, hFt fr3 (hFt c2 (hFM d2)), d3, fun q => by rw [pNot_ok] at q; cases q⟩
        show G (f3 + 1 + 1) (l.length + 1) 1 (mkS X I3 J v) = _
        rw [c1, d1', gb2_some]
        exact hstop f3 _ _
theorem pMem_13 {part : Nat} {u : Int} {r : PS} (hp : part = 1 ∨ part = 3) : pMem T n part u r = pNum T n 1 (pMx part) (if pBack T n r = true then pAdv T n r else r) ∧ pMemV T n part u r = if pBack T n r = true then -((pNumV T n (if pBack T n r = true then pAdv T n r else r) : Nat) : Int) else ((pNumV T n (if pBack T n r = true then pAdv T n r else r) : Nat) : Int) := by
  have c2 : ¬ part = 2 := by omega
  have e0 : pM0 T n part u r = r := by unfold pM0; rw [if_neg (fun q => c2 q.1)]
  have e1 : pM1 T n part u r = if pBack T n r = true then pAdv T n r else r := by unfold pM1; rw [e0]
  have e2 : pM2 T n part u r = pNum T n 1 (pMx part) (if pBack T n r = true then pAdv T n r else r) := by unfold pM2; rw [if_neg (fun q => c2 q.1), e1]
  refine ⟨?_, ?_⟩
  · unfold pMem; rw [if_neg (by omega), if_neg c2, e2]
  · unfold pMemV pMs pMn
    simp only [if_neg (show ¬ (part = 2 ∧ pPlaced T n r = false) from fun q => c2 q.1), e1]
    rw [if_neg (by omega), if_neg c2]
theorem pRow_er2 {part : Nat} {u : Int} (e : Nat × Nat) : (pRow T n (pMem T n part u) (pMemV T n part u) 8 [] (.error e)).2 = .error e := by
  have em : pMem T n part u (.error e) = .error e := by
    have h0 : pM0 T n part u (.error e) = .error e := by unfold pM0; split <;> rfl
    have h1 : pM1 T n part u (.error e) = .error e := by unfold pM1; rw [h0]; split <;> rfl
    have h2 : pM2 T n part u (.error e) = .error e := by unfold pM2; rw [h1]; split <;> rfl
    unfold pMem
    rw [h2]
    split
    · rfl
    · split
      · unfold pPass
        split <;> rfl
      · rfl
  have ed : pDup (pMem T n part u) (pMemV T n part u) [] (.error e) = .error e := by unfold pDup; rw [em, if_neg (fun q => by cases q.1)]
  show (if pMore T n (0 + 1) (pDup (pMem T n part u) (pMemV T n part u) [] (.error e)) = true then _ else _ : List Int × PS).2 = _
  rw [ed]
  rfl
/-- the row of a rule's draft -/
def rwM (I : Nat → Nat → Int32) (o cm cr : Nat) (l : List Int) : Prop := I 275 (o + cm) = iZ (l.length : Int) ∧ ∀ k, k < l.length → I 275 (o + (cr + k)) = iZ (l.getD k 0)
theorem exF_mem {l : List Int} {p : Int} : exF (fun i => l.getD i 0 == p) 0 l.length = true ↔ p ∈ l := by
  rw [exF_iff, mem_get]
  constructor
  · rintro ⟨k, a, b, c⟩
    exact ⟨k, by omega, by simpa using c⟩
  · rintro ⟨k, a, b⟩
    exact ⟨k, by omega, by omega, by simpa using b⟩
theorem m_dupL {K : gH → Option (Unit × gH)} {x2 x4 : Int32} {rr cr bg : Nat} {l : List Int} {p : Int} {r' : PS} (hrr : rr < 6) (hcr : cr + 8 ≤ 42) (hl : l.length ≤ 8) (hok : pOk r' = true) (hp : -1000 ≤ p ∧ p ≤ 1000) (hlb : ∀ y, y ∈ l → -1000 ≤ y ∧ y ≤ 1000) : ∀ (m j fuel : Nat) (I : Nat → Nat → Int32), j + m = l.length → m + 1 < fuel → mO I T n r' → (∀ k, k < l.length → I 275 (2 + 42 * rr + (cr + k)) = iZ (l.getD k 0)) → ∃ I', gX12_placesTold_L54 K 267 (iZ (rr : Int)) x2 (iZ (cr : Int)) x4 (iZ (l.length : Int)) (iZ (bg : Int)) (iZ p) fuel (iZ (j : Int)) (mkS X I J v) = K (mkS X I' J v) ∧ frM I I' ∧ mO I' T n (if exF (fun i => l.getD i 0 == p) j m = true then .error (4, bg) else r') := by
  intro m
  induction m with
  | zero =>
    intro j fuel I hj hf hr hI
    obtain ⟨f, rfl⟩ : ∃ n, fuel = n + 1 := ⟨fuel - 1, by omega⟩
    refine ⟨I, ?_, frM_r I, hr⟩
    unfold gX12_placesTold_L54
    rw [if_neg (by rw [iZ_lt (by omega) (by omega) (by omega) (by omega)]; omega)]
  | succ m ih =>
    intro j fuel I hj hf hr hI
    obtain ⟨f, rfl⟩ : ∃ n, fuel = n + 1 := ⟨fuel - 1, by omega⟩
    unfold gX12_placesTold_L54
    rw [if_pos (by rw [iZ_lt (by omega) (by omega) (by omega) (by omega)]; omega)]
    simp only [bO, o267, o267R]
    rw [if_pos (mO_ok hr hok), iZ_add, show (cr : Int) + (j : Int) = ((cr + j : Nat) : Int) by omega, m_ruleAtn]
    simp only [bO]
    rw [a275 _ _ _ _ _ (by omega), hI j (by omega)]
    simp only [bO, o267]
    have hb := hlb _ (mem_get.mpr ⟨j, by omega, rfl⟩)
    have eX : exF (fun i => l.getD i 0 == p) j (m + 1) = ((l.getD j 0 == p) || exF (fun i => l.getD i 0 == p) (j + 1) m) := rfl
    rw [eX]
    by_cases c : l.getD j 0 = p
    · rw [if_pos (by rw [c]), show (l.getD j 0 == p) = true from by simpa using c, Bool.true_or, if_pos rfl]
      obtain ⟨I2, a1, a2, a3, -⟩ := m_fail (X := X) (J := J) (v := v) (f := 4) (p := bg) (by decide) (by decide) hr
      have a1' : fX12_fail 267 4 (iZ (bg : Int)) (mkS X I J v) = some ((), mkS X I2 J v) := a1
      rw [a1', gb2_some]
      rw [pFail_ok hok] at a3
      refine ⟨I2, ?_, a2, a3⟩
      obtain ⟨f2, rfl⟩ : ∃ n, f = n + 1 := ⟨f - 1, by omega⟩
      unfold gX12_placesTold_L54
      simp only [bO, o267]
      rw [if_neg (mO_err a3 rfl)]
      split <;> rfl
    · rw [if_neg (by rw [iZ_eq (by omega) (by omega) (by omega) (by omega)]; exact c), show (l.getD j 0 == p) = false from by simpa using c, Bool.false_or, show iZ (j : Int) + 1 = iZ ((j + 1 : Nat) : Int) from by rw [aL]; rfl]
      exact ih (j + 1) f I (by omega) (by omega) hr hI
/-- a row of places -/
theorem m_places {I : Nat → Nat → Int32} {r : PS} {rr cm cr part : Nat} {u : Int} (hrr : rr < 6) (hp : (part = 1 ∧ cm = 5 ∧ cr = 6) ∨ (part = 3 ∧ cm = 31 ∧ cr = 32)) (h : mX I T n) (hr : mO I T n r) (hR : pOk r = true → rwM I (2 + 42 * rr) cm cr []) : ∃ I', fX12_placesTold 267 (iZ (rr : Int)) (iZ (cm : Int)) (iZ (cr : Int)) (iZ (pMx part : Nat)) (mkS X I J v) = some ((), mkS X I' J v) ∧ frN (2 + 42 * rr + cm) (2 + 42 * rr + cm + 9) I I' ∧ mO I' T n (pRow T n (pMem T n part u) (pMemV T n part u) 8 [] r).2 ∧ (pOk (pRow T n (pMem T n part u) (pMemV T n part u) 8 [] r).2 = true → rwM I' (2 + 42 * rr) cm cr (pRow T n (pMem T n part u) (pMemV T n part u) 8 [] r).1) := by
  have hcr : cr = cm + 1 := by omega
  have hmx : pMx part ≤ 99 := by unfold pMx; split; omega; split <;> omega
  have hcm : cm + 9 ≤ 42 := by omega
  unfold fX12_placesTold
  simp only [bO, o267]
  cases r with
  | error e =>
    rw [if_neg (mO_err hr rfl)]
    refine ⟨I, rfl, frN_r _ _ I, ?_, fun q => ?_⟩
    · have e1 := pRow_er2 (T := T) (n := n) (part := part) (u := u) e
      rw [e1]; exact hr
    · rw [pRow_er2] at q; cases q
  | ok s =>
    rw [if_pos hr.1]
    have hp13 : part = 1 ∨ part = 3 := by omega
    have key := m_rowG (X := X) (J := J) (v := v) (T := T) (n := n) (G := fun fu _ x s => gX12_placesTold_L14 267 (iZ (rr : Int)) (iZ (cm : Int)) (iZ (cr : Int)) (iZ (pMx part : Nat)) fu x s) (m := pMem T n part u) (mv := pMemV T n part u) (R := fun I l => rwM I (2 + 42 * rr) cm cr l) (E := fun _ => True) (Q := memR part) (Fr := frN (2 + 42 * rr + cm) (2 + 42 * rr + cm + 9)) (fun h1 h2 => frN_t h1 h2) (fun h => frN_M h) (fun h1 h2 => mX_N h2 h1) (fun _ h => h) (fun h1 h2 => ⟨by rw [h1.1 275 _ (by decide)]; exact h2.1, fun k hk => by rw [h1.1 275 _ (by decide)]; exact h2.2 k hk⟩) (fun r q => pMem_r q) (fun fu c s => by
      show gX12_placesTold_L14 267 _ _ _ _ (fu + 1) 0 s = _
      unfold gX12_placesTold_L14
      rw [if_pos rfl]) ?_ 8 20000 [] I s rfl (by decide) (by decide) h trivial hr (hR rfl) (fun y hy => by cases hy)
    · exact key
    · intro fu I l s h _ hr hRl hl8 hq
      have hlb : ∀ y, y ∈ l → -1000 ≤ y ∧ y ≤ 1000 := by
        intro y hy
        have := hq y hy
        unfold memR at this
        split at this
        · omega
        · split at this
          · omega
          · split at this <;> omega
      obtain ⟨q1, q2⟩ := hRl
      show ∃ I2, gX12_placesTold_L14 267 (iZ (rr : Int)) (iZ (cm : Int)) (iZ (cr : Int)) (iZ (pMx part : Nat)) (fu + 1) 1 (mkS X I J v) = (gb2 (fX12_takesSign 267 44 (mkS X I2 J v)) fun r17 s18 => gX12_placesTold_L14 267 (iZ (rr : Int)) (iZ (cm : Int)) (iZ (cr : Int)) (iZ (pMx part : Nat)) fu r17 s18) ∧ _
      have eL : gX12_placesTold_L14 267 (iZ (rr : Int)) (iZ (cm : Int)) (iZ (cr : Int)) (iZ (pMx part : Nat)) (fu + 1) 1 (mkS X I J v) = gb2 (fX12_room 267 (iZ (l.length : Int)) (mkS X I J v)) fun (_ : Unit) s12 => (ggI s12 267 12 2).bind fun v13 => gb2 (gcv s12 267 12 (fX12_place 267 (iZ (pMx part : Nat)) s12)) fun r14 s15 => gX12_placesTold_L54 (fun s27 => (ggI s27 267 12 5).bind fun v28 => if v28 = 0 then (ggR s27 267 12 18).bind fun v34 => gb2 (fX12_ruleAt (iZ (rr : Int)) (iZ (cr : Int) + iZ (l.length : Int)) s27) fun r35 s36 => (saI s36 v34 2 r35 r14).bind fun s37 => (ggR s37 267 12 18).bind fun v38 => gb2 (fX12_ruleAt (iZ (rr : Int)) (iZ (cm : Int)) s37) fun r39 s40 => (gaI s40 v38 2 r39).bind fun v41 => (saI s40 v38 2 r39 (v41 + 1)).bind fun s42 => gb2 (gcv s42 267 12 (fX12_takesSign 267 44 s42)) fun r31 s32 => gX12_placesTold_L14 267 (iZ (rr : Int)) (iZ (cm : Int)) (iZ (cr : Int)) (iZ (pMx part : Nat)) fu r31 s32 else gb2 (gcv s27 267 12 (fX12_takesSign 267 44 s27)) fun r31 s32 => gX12_placesTold_L14 267 (iZ (rr : Int)) (iZ (cm : Int)) (iZ (cr : Int)) (iZ (pMx part : Nat)) fu r31 s32) 267 (iZ (rr : Int)) (iZ (cm : Int)) (iZ (cr : Int)) (iZ (pMx part : Nat)) (iZ (l.length : Int)) v13 r14 20000 0 s15 := by
        conv => lhs; unfold gX12_placesTold_L14
        rw [if_neg (by decide)]
        simp only [bO, o267, o267R]
        rw [m_ruleAtn]
        simp only [bO]
        rw [a275 _ _ _ _ _ (by omega), q1]
        simp only [bO, o267]
      rw [eL]
      obtain ⟨I1, a1, a2, a3, a4⟩ := m_room (X := X) (J := J) (v := v) hl8 h hr
      rw [a1]
      simp only [bO, o267]
      have h1 := mX_M h a2
      obtain ⟨I2, x, b1, b2, b3, b4⟩ := m_place (X := X) (J := J) (v := v) (most := pMx part) (by omega) h1 a3
      rw [b1]
      simp only [bO]
      have fr2 := frM_t a2 b2
      have hI2 : ∀ k, k < l.length → I2 275 (2 + 42 * rr + (cr + k)) = iZ (l.getD k 0) := fun k hk => by rw [fr2.1 275 _ (by decide)]; exact q2 k hk
      by_cases c8 : l.length = 8
      · rw [if_pos c8] at a3 b3
        have hE : pOk (pNum T n 1 (pMx part) (if pBack T n (pNot (if pKd T n (.ok s) = 0 then 1 else 5) (.ok s)) = true then pAdv T n (pNot (if pKd T n (.ok s) = 0 then 1 else 5) (.ok s)) else pNot (if pKd T n (.ok s) = 0 then 1 else 5) (.ok s))) = false := rfl
        refine ⟨I2, ?_, frN_M fr2, by rw [if_pos c8]; exact b3, fun q => by omega⟩
        conv => lhs; unfold gX12_placesTold_L54
        simp only [bO, o267]
        rw [if_neg (mO_err b3 hE), if_neg (mO_err b3 hE), if_pos (by rw [show (0 : Int32) = iZ 0 from rfl, iZ_lt (by omega) (by omega) (by omega) (by omega)]; omega)]
      · rw [if_neg c8] at a3 b3 b4
        obtain ⟨em, ev⟩ := pMem_13 (T := T) (n := n) (u := u) (r := .ok s) hp13
        rw [← em] at b3 b4
        rw [← ev] at b4
        rw [a4]
        cases hok : pOk (pMem T n part u (.ok s)) with
        | false =>
          have eD : pDup (pMem T n part u) (pMemV T n part u) l (.ok s) = pMem T n part u (.ok s) := by unfold pDup; rw [if_neg (fun q => by rw [hok] at q; cases q.1)]
          refine ⟨I2, ?_, frN_M fr2, by rw [if_neg c8, eD]; exact b3, fun _ q => by rw [eD, hok] at q; cases q⟩
          conv => lhs; unfold gX12_placesTold_L54
          simp only [bO, o267]
          rw [if_neg (mO_err b3 hok), if_neg (mO_err b3 hok)]
          split <;> rfl
        | true =>
          have hx := b4 hok
          have hmr := pMem_r hok
          have hmb : -1000 ≤ pMemV T n part u (.ok s) ∧ pMemV T n part u (.ok s) ≤ 1000 := by
            unfold memR at hmr
            split at hmr
            · omega
            · split at hmr
              · omega
              · split at hmr <;> omega
          rw [hx]
          obtain ⟨I3, c1, c2, c3⟩ := m_dupL (X := X) (J := J) (v := v) (T := T) (n := n) (K := fun s27 => (ggI s27 267 12 5).bind fun v28 => if v28 = 0 then (ggR s27 267 12 18).bind fun v34 => gb2 (fX12_ruleAt (iZ (rr : Int)) (iZ (cr : Int) + iZ (l.length : Int)) s27) fun r35 s36 => (saI s36 v34 2 r35 (iZ (pMemV T n part u (.ok s)))).bind fun s37 => (ggR s37 267 12 18).bind fun v38 => gb2 (fX12_ruleAt (iZ (rr : Int)) (iZ (cm : Int)) s37) fun r39 s40 => (gaI s40 v38 2 r39).bind fun v41 => (saI s40 v38 2 r39 (v41 + 1)).bind fun s42 => gb2 (gcv s42 267 12 (fX12_takesSign 267 44 s42)) fun r31 s32 => gX12_placesTold_L14 267 (iZ (rr : Int)) (iZ (cm : Int)) (iZ (cr : Int)) (iZ (pMx part : Nat)) fu r31 s32 else gb2 (gcv s27 267 12 (fX12_takesSign 267 44 s27)) fun r31 s32 => gX12_placesTold_L14 267 (iZ (rr : Int)) (iZ (cm : Int)) (iZ (cr : Int)) (iZ (pMx part : Nat)) fu r31 s32) (x2 := iZ (cm : Int)) (x4 := iZ (pMx part : Nat)) (rr := rr) (cr := cr) (bg := s.1) (l := l) (p := pMemV T n part u (.ok s)) (r' := pMem T n part u (.ok s)) hrr (by omega) hl8 hok hmb hlb l.length 0 20000 I2 (by omega) (by omega) b3 hI2
          have c1' : gX12_placesTold_L54 _ 267 (iZ (rr : Int)) (iZ (cm : Int)) (iZ (cr : Int)) (iZ (pMx part : Nat)) (iZ (l.length : Int)) (iZ (s.1 : Int)) (iZ (pMemV T n part u (.ok s))) 20000 0 (mkS X I2 J v) = _ := c1
          rw [c1']
          have eD : (if exF (fun i => l.getD i 0 == pMemV T n part u (.ok s)) 0 l.length = true then .error (4, s.1) else pMem T n part u (.ok s)) = pDup (pMem T n part u) (pMemV T n part u) l (.ok s) := by
            unfold pDup
            by_cases z : pMemV T n part u (.ok s) ∈ l
            · rw [if_pos (exF_mem.mpr z), if_pos ⟨hok, z⟩]; rfl
            · rw [if_neg (fun q => z (exF_mem.mp q)), if_neg (fun q => z q.2)]
          rw [eD] at c3
          simp only [bO, o267]
          have fr3 := frM_t fr2 c2
          cases hk : pOk (pDup (pMem T n part u) (pMemV T n part u) l (.ok s)) with
          | false =>
            rw [if_neg (mO_err c3 hk)]
            exact ⟨I3, rfl, frN_M fr3, by rw [if_neg c8]; exact c3, fun _ q => by cases q⟩
          | true =>
            rw [if_pos (mO_ok c3 hk), iZ_add, show (cr : Int) + ((l.length : Nat) : Int) = ((cr + l.length : Nat) : Int) by omega]
            simp only [o267R, bO]
            rw [m_ruleAtn]
            simp only [bO]
            rw [b275 _ _ _ _ _ _ (by omega)]
            simp only [bO, o267R]
            rw [m_ruleAtn]
            simp only [bO]
            rw [a275 _ _ _ _ _ (by omega)]
            simp only [bO]
            rw [b275 _ _ _ _ _ _ (by omega)]
            simp only [bO, o267, gnar_2]
            have e5 : gup I3 275 (2 + 42 * rr + (cr + l.length)) (iZ (pMemV T n part u (.ok s))) 275 (2 + 42 * rr + cm) = iZ (l.length : Int) := by rw [gup_k (by omega), fr3.1 275 _ (by decide)]; exact q1
            rw [e5, aL, show ((l.length : Nat) : Int) + 1 = ((l.length + 1 : Nat) : Int) by omega]
            refine ⟨_, rfl, frN_t (frN_M fr3) (frN_t (frN_g (by omega) (by omega)) (frN_g (by omega) (by omega))), ?_, fun _ _ => ⟨?_, fun k hk => ?_⟩⟩
            · rw [if_neg c8]
              exact mO_7 c3 (fun k _ => by rw [gup_r (by decide), gup_r (by decide)])
            · rw [gup_s, len_snoc]
            · rw [len_snoc] at hk
              rw [gup_k (by omega), getD_snoc]
              by_cases z : k < l.length
              · rw [if_pos z, gup_k (by omega), fr3.1 275 _ (by decide)]; exact q2 k z
              · rw [if_neg z, if_pos (by omega), show k = l.length by omega, gup_s]
end gMr
