/-! MEMBERS OF ROWS -/
def pKd (T : Nat → Nat) (n : Nat) : PS → Nat
  | .error _ => 4
  | .ok s => tkK T n s.1 s.2
def pBack (T : Nat → Nat) (n : Nat) (r : PS) : Bool := pSign T n 45 r
def pPlaced (T : Nat → Nat) (n : Nat) (r : PS) : Bool := pBack T n r || pKd T n r == 2
def pM0 (T : Nat → Nat) (n part : Nat) (u : Int) (r : PS) : PS := if part = 2 ∧ pPlaced T n r = true ∧ u < 2 then pNot 4 r else r
def pM1 (T : Nat → Nat) (n part : Nat) (u : Int) (r : PS) : PS := if pBack T n r = true then pAdv T n (pM0 T n part u r) else pM0 T n part u r
def pMx (part : Nat) : Nat := if part = 1 then 31 else if part = 2 then 53 else 99
def pM2 (T : Nat → Nat) (n part : Nat) (u : Int) (r : PS) : PS := if part = 2 ∧ pPlaced T n r = false then pM1 T n part u r else pNum T n 1 (pMx part) (pM1 T n part u r)
def pWk (T : Nat → Nat) (n : Nat) (r : PS) : Bool := decide (4 ≤ pOw T n r) && decide (pOw T n r < 11)
def pMem (T : Nat → Nat) (n part : Nat) (u : Int) (r : PS) : PS := if part = 0 then pNum T n 1 12 r else if part = 2 then pPass T n (pWk T n (pM2 T n part u r)) (pM2 T n part u r) else pM2 T n part u r
def pMn (T : Nat → Nat) (n part : Nat) (u : Int) (r : PS) : Int := if part = 2 ∧ pPlaced T n r = false then 0 else (pNumV T n (pM1 T n part u r) : Nat)
def pMs (T : Nat → Nat) (n part : Nat) (u : Int) (r : PS) : Int := if pBack T n r = true then -pMn T n part u r else pMn T n part u r
def pMemV (T : Nat → Nat) (n part : Nat) (u : Int) (r : PS) : Int := if part = 0 then (pNumV T n r : Nat) else if part = 2 then pMs T n part u r * 8 + (pOw T n (pM2 T n part u r) - 4) else pMs T n part u r
def memE (x1 z17 : Int32) (s18 : gH) : Option (Int32 × gH) := if x1 = 2 then gb2 (gcv s18 53 6 (fX6_wordAmong 53 4 s18)) fun r20 s21 => gjn (fun (z23 : Int32) (b24 : Nat) (s25 : gH) => gb2 (gcv s25 b24 6 (fX6_pass b24 z23 s25)) fun r26 s27 => some ((z17 * 8) + (gmax 0 r20), s27)) fun j22 => if r20 = -1 then j22 0 53 s21 else j22 1 53 s21 else some (z17, s18)
def memD (x1 r4 z14 : Int32) (s15 : gH) : Option (Int32 × gH) := if r4 = 0 then memE x1 z14 s15 else memE x1 (-z14) s15
def memN (x1 r4 : Int32) (s31 : gH) : Option (Int32 × gH) := gjn (fun (z33 : Int32) (z34 : Int32) (b35 : Nat) (s36 : gH) => gb2 (gcv s36 b35 6 (fX6_number b35 z34 z33 s36)) fun r37 s38 => memD x1 r4 r37 s38) fun j32 => if x1 = 1 then j32 31 1 53 s31 else if x1 = 2 then j32 53 1 53 s31 else j32 99 1 53 s31
def memC (x1 r4 z7 : Int32) (s12 : gH) : Option (Int32 × gH) := if x1 = 2 then if z7 = 0 then memD x1 r4 0 s12 else memN x1 r4 s12 else memN x1 r4 s12
def memB (x1 r4 z7 : Int32) (s10 : gH) : Option (Int32 × gH) := if r4 = 0 then memC x1 r4 z7 s10 else gb2 (gcv s10 53 6 (fX6_advance 53 s10)) fun r44 s45 => memC x1 r4 z7 s45
def memA (x1 x2 r4 z7 : Int32) (s8 : gH) : Option (Int32 × gH) := if x1 = 2 then if z7 = 0 then memB x1 r4 z7 s8 else if x2 < 2 then (ggI s8 53 6 5).bind fun v49 => gb2 (gcv s8 53 6 (fX6_refuse 53 4 v49 s8)) fun r50 s51 => memB x1 r4 z7 s51 else memB x1 r4 z7 s8 else memB x1 r4 z7 s8
theorem mem_eq (x1 x2 : Int32) (s0 : gH) : fX6_member 53 x1 x2 s0 = if x1 = 0 then gb2 (gcv s0 53 6 (fX6_number 53 1 12 s0)) fun r2 s3 => some (r2, s3) else gb2 (gcv s0 53 6 (fX6_isSign 53 45 s0)) fun r4 s5 => if r4 = 0 then (ggI s5 53 6 4).bind fun v53 => if v53 = 2 then memA x1 x2 r4 1 s5 else memA x1 x2 r4 0 s5 else memA x1 x2 r4 1 s5 := rfl
section gMe
variable {X : Nat × (Nat → Int32)} {J : Nat → Nat → Int64} {v : Vt} {T : Nat → Nat} {n : Nat}
theorem pNot_ok {f : Nat} {r : PS} : pOk (pNot f r) = false := by cases r <;> rfl
theorem pNum_okr {lo hi : Nat} {r : PS} (h : pOk r = false) : pOk (pNum T n lo hi r) = false := by rw [pNum_er h]; exact h
theorem part_ne {part k : Nat} (hp : part < 10) (hk : k < 10) : (iZ (part : Int) = iZ (k : Int)) ↔ part = k := by
  rw [iZ_eq (by omega) (by omega) (by omega) (by omega)]; omega
theorem c_memE {I : Nat → Nat → Int32} {r : PS} {part : Nat} {z : Int32} (hp : part < 10) (h : cX I v T n) (hr : cO I T n r) : ∃ I' x, memE (iZ (part : Int)) z (mkS X I J v) = some (x, mkS X I' J v) ∧ frK I I' ∧ cO I' T n (if part = 2 then pPass T n (pWk T n r) r else r) ∧ (pOk (if part = 2 then pPass T n (pWk T n r) r else r) = true → x = if part = 2 then z * 8 + iZ (pOw T n r - 4) else z) := by
  have hw := pOw_r T n r
  unfold memE
  by_cases c : part = 2
  · simp only [if_pos c]
    rw [if_pos (show iZ (part : Int) = 2 from (part_ne hp (k := 2) (by decide)).mpr c)]
    simp only [o53, c_wordAmong h hr (show isTb 4 4 7 from Or.inr (Or.inr (Or.inr ⟨rfl, rfl, rfl⟩))), bO]
    by_cases c2 : 4 ≤ pOw T n r ∧ pOw T n r < 11
    · rw [if_pos (show ((4 : Nat) : Int) ≤ pOw T n r ∧ pOw T n r < ((4 + 7 : Nat) : Int) by omega), if_neg (by rw [cM_eq (by omega) (by omega)]; omega)]
      have eW : pWk T n r = true := by unfold pWk; rw [decide_eq_true c2.1, decide_eq_true c2.2]; rfl
      obtain ⟨I', a1, a2, a3⟩ := c_pass (X := X) (J := J) (b := true) h hr
      rw [show (1 : Int32) = tf true from rfl, a1]
      rw [eW]
      refine ⟨I', _, rfl, a2, a3, fun _ => ?_⟩
      rw [show (0 : Int32) = iZ 0 from rfl, gmax_Z (by decide) (by decide) (by omega) (by omega), show max 0 (pOw T n r - ((4 : Nat) : Int)) = pOw T n r - 4 by omega]
    · rw [if_neg (show ¬ (((4 : Nat) : Int) ≤ pOw T n r ∧ pOw T n r < ((4 + 7 : Nat) : Int)) by omega), if_pos (show iZ (-1) = -1 from rfl)]
      have eW : pWk T n r = false := by
        unfold pWk
        by_cases q : 4 ≤ pOw T n r
        · rw [decide_eq_false (show ¬ pOw T n r < 11 by omega), Bool.and_false]
        · rw [decide_eq_false q]; rfl
      obtain ⟨I', a1, a2, a3⟩ := c_pass (X := X) (J := J) (b := false) h hr
      rw [show (0 : Int32) = tf false from rfl, a1]
      rw [eW]
      refine ⟨I', _, rfl, a2, a3, fun q => ?_⟩
      have : pOk (pNot 1 r) = true := q
      rw [pNot_ok] at this; cases this
  · simp only [if_neg c]
    rw [if_neg (show ¬ iZ (part : Int) = 2 from fun q => c ((part_ne hp (k := 2) (by decide)).mp q))]
    exact ⟨I, _, rfl, frK_r I, hr, fun _ => rfl⟩
theorem c_memD {I : Nat → Nat → Int32} {r : PS} {part : Nat} {z : Int32} {bk : Bool} (hp : part < 10) (h : cX I v T n) (hr : cO I T n r) : ∃ I' x, memD (iZ (part : Int)) (tf bk) z (mkS X I J v) = some (x, mkS X I' J v) ∧ frK I I' ∧ cO I' T n (if part = 2 then pPass T n (pWk T n r) r else r) ∧ (pOk (if part = 2 then pPass T n (pWk T n r) r else r) = true → x = if part = 2 then (if bk = true then -z else z) * 8 + iZ (pOw T n r - 4) else (if bk = true then -z else z)) := by
  unfold memD
  cases bk with
  | false => rw [if_pos tf_f]; exact c_memE hp h hr
  | true => rw [if_neg (show ¬ tf true = 0 by decide)]; exact c_memE hp h hr
theorem c_memN {I : Nat → Nat → Int32} {r : PS} {part : Nat} {bk : Bool} (hp : part < 10) (h : cX I v T n) (hr : cO I T n r) : ∃ I' x, memN (iZ (part : Int)) (tf bk) (mkS X I J v) = some (x, mkS X I' J v) ∧ frK I I' ∧ cO I' T n (if part = 2 then pPass T n (pWk T n (pNum T n 1 (pMx part) r)) (pNum T n 1 (pMx part) r) else pNum T n 1 (pMx part) r) ∧ (pOk (if part = 2 then pPass T n (pWk T n (pNum T n 1 (pMx part) r)) (pNum T n 1 (pMx part) r) else pNum T n 1 (pMx part) r) = true → x = if part = 2 then (if bk = true then -iZ (pNumV T n r : Nat) else iZ (pNumV T n r : Nat)) * 8 + iZ (pOw T n (pNum T n 1 (pMx part) r) - 4) else (if bk = true then -iZ (pNumV T n r : Nat) else iZ (pNumV T n r : Nat))) := by
  have main : ∃ I' x, (gb2 (fX6_number 53 1 (iZ (pMx part : Nat)) (mkS X I J v)) fun r37 s38 => memD (iZ (part : Int)) (tf bk) r37 s38) = some (x, mkS X I' J v) ∧ frK I I' ∧ cO I' T n (if part = 2 then pPass T n (pWk T n (pNum T n 1 (pMx part) r)) (pNum T n 1 (pMx part) r) else pNum T n 1 (pMx part) r) ∧ (pOk (if part = 2 then pPass T n (pWk T n (pNum T n 1 (pMx part) r)) (pNum T n 1 (pMx part) r) else pNum T n 1 (pMx part) r) = true → x = if part = 2 then (if bk = true then -iZ (pNumV T n r : Nat) else iZ (pNumV T n r : Nat)) * 8 + iZ (pOw T n (pNum T n 1 (pMx part) r) - 4) else (if bk = true then -iZ (pNumV T n r : Nat) else iZ (pNumV T n r : Nat))) := by
    have hmx : pMx part < 100000 := by
      unfold pMx
      repeat' split
      all_goals decide
    obtain ⟨I1, x, a1, a2, a3, a4⟩ := c_number (X := X) (J := J) (lo := 1) (hi := pMx part) (by decide) hmx h hr
    rw [show (1 : Int32) = iZ ((1 : Nat) : Int) from rfl, a1, gb2_some]
    obtain ⟨I2, y, b1, b2, b3, b4⟩ := c_memD (X := X) (J := J) (z := x) (bk := bk) hp (cX_K h a2) a3
    refine ⟨I2, y, b1, frK_t a2 b2, b3, fun q => ?_⟩
    have q2 : pOk (pNum T n 1 (pMx part) r) = true := by
      by_cases c : part = 2
      · rw [if_pos c] at q
        exact (pPass_ok q).2
      · rw [if_neg c] at q; exact q
    rw [b4 q, a4 q2]
  unfold memN
  simp only [bO, o53]
  by_cases c1 : part = 1
  · rw [if_pos (show iZ (part : Int) = 1 from (part_ne hp (k := 1) (by decide)).mpr c1)]
    have e : pMx part = 31 := by unfold pMx; rw [if_pos c1]
    rw [show (31 : Int32) = iZ (pMx part : Nat) from by rw [e]; rfl]
    exact main
  · rw [if_neg (show ¬ iZ (part : Int) = 1 from fun q => c1 ((part_ne hp (k := 1) (by decide)).mp q))]
    by_cases c2 : part = 2
    · rw [if_pos (show iZ (part : Int) = 2 from (part_ne hp (k := 2) (by decide)).mpr c2)]
      have e : pMx part = 53 := by unfold pMx; rw [if_neg c1, if_pos c2]
      rw [show (53 : Int32) = iZ (pMx part : Nat) from by rw [e]; rfl]
      exact main
    · rw [if_neg (show ¬ iZ (part : Int) = 2 from fun q => c2 ((part_ne hp (k := 2) (by decide)).mp q))]
      have e : pMx part = 99 := by unfold pMx; rw [if_neg c1, if_neg c2]
      rw [show (99 : Int32) = iZ (pMx part : Nat) from by rw [e]; rfl]
      exact main
theorem c_member {I : Nat → Nat → Int32} {r : PS} {part : Nat} {u : Int} (hp : part < 4) (u1 : -10 ≤ u) (u2 : u ≤ 10) (h : cX I v T n) (hr : cO I T n r) : ∃ I' x, fX6_member 53 (iZ (part : Int)) (iZ u) (mkS X I J v) = some (x, mkS X I' J v) ∧ frK I I' ∧ cO I' T n (pMem T n part u r) ∧ (pOk (pMem T n part u r) = true → x = iZ (pMemV T n part u r)) := by
  rw [mem_eq]
  by_cases c0 : part = 0
  · subst c0
    rw [if_pos (by decide)]
    simp only [o53]
    obtain ⟨I1, x, a1, a2, a3, a4⟩ := c_number (X := X) (J := J) (lo := 1) (hi := 12) (by decide) (by decide) h hr
    rw [show (1 : Int32) = iZ ((1 : Nat) : Int) from rfl, show (12 : Int32) = iZ ((12 : Nat) : Int) from rfl, a1]
    refine ⟨I1, x, rfl, a2, a3, fun q => ?_⟩
    rw [a4 q]
    rfl
  · rw [if_neg (show ¬ iZ (part : Int) = 0 from fun q => c0 ((part_ne (by omega) (k := 0) (by decide)).mp q))]
    simp only [o53]
    rw [show (45 : Int32) = iZ ((45 : Nat) : Int) from rfl, c_isSign (by decide) rfl rfl h hr]
    simp only [bO, o53]
    have ekd : I 53 4 = 2 ↔ pKd T n r = 2 := by
      cases r with
      | error e =>
        rw [hr.2.2.2.2]
        constructor
        · intro q; exact absurd q (by decide)
        · intro q
          have : (4 : Nat) = 2 := q
          omega
      | ok s =>
        have := tkK_lt T n s.1 s.2
        rw [hr.2.1, cL_eq (by omega) (by omega) (by decide)]
        show _ ↔ tkK T n s.1 s.2 = 2
        omega
    -- behind the signs
    have hA : ∀ pl : Bool, pl = pPlaced T n r → ∃ I' x, memA (iZ (part : Int)) (iZ u) (tf (pBack T n r)) (tf pl) (mkS X I J v) = some (x, mkS X I' J v) ∧ frK I I' ∧ cO I' T n (pMem T n part u r) ∧ (pOk (pMem T n part u r) = true → x = iZ (pMemV T n part u r)) := by
      intro pl hpl
      -- the last step
      have hC : ∀ {I1 : Nat → Nat → Int32}, cX I1 v T n → cO I1 T n (pM1 T n part u r) → ∃ I' x, memC (iZ (part : Int)) (tf (pBack T n r)) (tf pl) (mkS X I1 J v) = some (x, mkS X I' J v) ∧ frK I1 I' ∧ cO I' T n (pMem T n part u r) ∧ (pOk (pMem T n part u r) = true → x = iZ (pMemV T n part u r)) := by
        intro I1 hX1 hr1
        have ep : pMem T n part u r = if part = 2 then pPass T n (pWk T n (pM2 T n part u r)) (pM2 T n part u r) else pM2 T n part u r := by unfold pMem; rw [if_neg c0]
        have ev : pMemV T n part u r = if part = 2 then pMs T n part u r * 8 + (pOw T n (pM2 T n part u r) - 4) else pMs T n part u r := by unfold pMemV; rw [if_neg c0]
        have main : ¬ (part = 2 ∧ pPlaced T n r = false) → ∃ I' x, memN (iZ (part : Int)) (tf (pBack T n r)) (mkS X I1 J v) = some (x, mkS X I' J v) ∧ frK I1 I' ∧ cO I' T n (pMem T n part u r) ∧ (pOk (pMem T n part u r) = true → x = iZ (pMemV T n part u r)) := by
          intro hc
          have e2 : pM2 T n part u r = pNum T n 1 (pMx part) (pM1 T n part u r) := by unfold pM2; rw [if_neg hc]
          have en : pMs T n part u r = if pBack T n r = true then -((pNumV T n (pM1 T n part u r) : Nat) : Int) else ((pNumV T n (pM1 T n part u r) : Nat) : Int) := by unfold pMs pMn; rw [if_neg hc]
          obtain ⟨I', x, a1, a2, a3, a4⟩ := c_memN (X := X) (J := J) (bk := pBack T n r) (show part < 10 by omega) hX1 hr1
          rw [← e2] at a3 a4
          refine ⟨I', x, a1, a2, by rw [ep]; exact a3, fun q => ?_⟩
          rw [ep] at q
          rw [a4 q, ev, en]
          by_cases c2 : part = 2
          · simp only [if_pos c2]
            split <;> simp only [iZ_neg, pL, iZ_add]
          · simp only [if_neg c2]
            split <;> simp only [iZ_neg]
        unfold memC
        by_cases c2 : part = 2
        · rw [if_pos (show iZ (part : Int) = 2 from (part_ne (by omega) (k := 2) (by decide)).mpr c2)]
          cases hpb : pPlaced T n r with
          | true =>
            rw [hpb] at hpl
            rw [hpl, if_neg (show ¬ tf true = 0 by decide)]
            exact main (fun q => by rw [hpb] at q; cases q.2)
          | false =>
            rw [hpb] at hpl
            rw [hpl, if_pos tf_f]
            have e2 : pM2 T n part u r = pM1 T n part u r := by unfold pM2; rw [if_pos ⟨c2, hpb⟩]
            have eb : pBack T n r = false := by
              unfold pPlaced at hpb
              cases q : pBack T n r
              · rfl
              · rw [q] at hpb; cases hpb
            have en : pMs T n part u r = 0 := by unfold pMs pMn; rw [eb, if_neg (by decide), if_pos (show part = 2 ∧ pPlaced T n r = false from ⟨c2, hpb⟩)]
            obtain ⟨I', x, a1, a2, a3, a4⟩ := c_memD (X := X) (J := J) (z := 0) (bk := pBack T n r) (show part < 10 by omega) hX1 hr1
            rw [← e2] at a3 a4
            refine ⟨I', x, a1, a2, by rw [ep]; exact a3, fun q => ?_⟩
            rw [ep] at q
            rw [a4 q, ev, en, eb]
            simp only [if_pos c2]
            rw [if_neg (by decide), show (0 : Int32) = iZ 0 from rfl, pL, iZ_add]
        · rw [if_neg (show ¬ iZ (part : Int) = 2 from fun q => c2 ((part_ne (by omega) (k := 2) (by decide)).mp q))]
          exact main (fun q => c2 q.1)
      have hB : ∀ {I1 : Nat → Nat → Int32}, cX I1 v T n → cO I1 T n (pM0 T n part u r) → ∃ I' x, memB (iZ (part : Int)) (tf (pBack T n r)) (tf pl) (mkS X I1 J v) = some (x, mkS X I' J v) ∧ frK I1 I' ∧ cO I' T n (pMem T n part u r) ∧ (pOk (pMem T n part u r) = true → x = iZ (pMemV T n part u r)) := by
        intro I1 hX1 hr1
        unfold memB
        cases hbk : pBack T n r with
        | false =>
          rw [if_pos tf_f]
          have e1 : pM1 T n part u r = pM0 T n part u r := by unfold pM1; rw [hbk]; rfl
          have := hC hX1 (by rw [e1]; exact hr1)
          rw [hbk] at this
          exact this
        | true =>
          rw [if_neg (show ¬ tf true = 0 by decide)]
          have e1 : pM1 T n part u r = pAdv T n (pM0 T n part u r) := by unfold pM1; rw [hbk]; rfl
          obtain ⟨I2, a1, a2, a3⟩ := c_adv (X := X) (J := J) hX1 hr1
          simp only [o53]
          rw [a1, gb2_some]
          have := hC (cX_K hX1 a2) (by rw [e1]; exact a3)
          rw [hbk] at this
          obtain ⟨I3, x, b1, b2, b3, b4⟩ := this
          exact ⟨I3, x, b1, frK_t a2 b2, b3, b4⟩
      unfold memA
      by_cases c2 : part = 2
      · rw [if_pos (show iZ (part : Int) = 2 from (part_ne (by omega) (k := 2) (by decide)).mpr c2)]
        cases hpb : pPlaced T n r with
        | true =>
          rw [hpb] at hpl
          have hB' := @hB
          rw [hpl] at hB' ⊢
          rw [if_neg (show ¬ tf true = 0 by decide)]
          by_cases cu : u < 2
          · rw [if_pos (by rw [cL_lt (by omega) (by omega) (by decide)]; omega)]
            simp only [bO, o53]
            have e0 : pM0 T n part u r = pNot 4 r := by unfold pM0; rw [if_pos ⟨c2, hpb, cu⟩]
            obtain ⟨I1, a1, a2, a3⟩ := c_refuseS (X := X) (J := J) (v := v) (f := 4) (by decide) (by decide) hr
            rw [show (4 : Int32) = iZ ((4 : Nat) : Int) from rfl, a1, gb2_some]
            obtain ⟨I3, x, b1, b2, b3, b4⟩ := hB' (cX_K h a2) (by rw [e0]; exact a3)
            exact ⟨I3, x, b1, frK_t a2 b2, b3, b4⟩
          · rw [if_neg (by rw [cL_lt (by omega) (by omega) (by decide)]; omega)]
            have e0 : pM0 T n part u r = r := by unfold pM0; rw [if_neg (fun q => cu q.2.2)]
            exact hB' h (by rw [e0]; exact hr)
        | false =>
          rw [hpb] at hpl
          have hB' := @hB
          rw [hpl] at hB' ⊢
          rw [if_pos tf_f]
          have e0 : pM0 T n part u r = r := by unfold pM0; rw [if_neg (fun q => by rw [hpb] at q; cases q.2.1)]
          exact hB' h (by rw [e0]; exact hr)
      · rw [if_neg (show ¬ iZ (part : Int) = 2 from fun q => c2 ((part_ne (by omega) (k := 2) (by decide)).mp q))]
        have e0 : pM0 T n part u r = r := by unfold pM0; rw [if_neg (fun q => c2 q.1)]
        exact hB h (by rw [e0]; exact hr)
    have eB : pSign T n 45 r = pBack T n r := rfl
    rw [eB]
    cases hbk : pBack T n r with
    | true =>
      rw [if_neg (show ¬ tf true = 0 by decide)]
      have := hA true (by unfold pPlaced; rw [hbk]; rfl)
      rw [hbk] at this
      exact this
    | false =>
      rw [if_pos tf_f]
      by_cases ck : pKd T n r = 2
      · rw [if_pos (ekd.mpr ck)]
        have := hA true (by unfold pPlaced; rw [hbk, show (pKd T n r == 2) = true from by simpa using ck]; rfl)
        rw [hbk] at this
        exact this
      · rw [if_neg (fun q => ck (ekd.mp q))]
        have := hA false (by unfold pPlaced; rw [hbk, show (pKd T n r == 2) = false from by simpa using ck]; rfl)
        rw [hbk] at this
        exact this
end gMe
