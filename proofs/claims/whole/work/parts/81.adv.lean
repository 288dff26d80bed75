/-! THE READER's steps -/
def cO (I : Nat → Nat → Int32) (T : Nat → Nat) (n : Nat) : PS → Prop
  | .ok s => I 53 0 = 0 ∧ I 53 4 = iZ (tkK T n s.1 s.2 : Nat) ∧ I 53 5 = iZ (s.1 : Int) ∧ I 53 6 = iZ (tkE T n s.1 : Nat) ∧ s.1 ≤ n ∧ I 53 1 = -1
  | .error e => I 53 0 = iZ (e.1 : Int) ∧ e.1 ≠ 0 ∧ e.1 < 10 ∧ I 53 1 = iZ (e.2 : Int) ∧ I 53 4 = 4
/-- the reader's text -/
def cX (I : Nat → Nat → Int32) (v : Vt) (T : Nat → Nat) (n : Nat) : Prop := cT I T n ∧ I 53 3 = iZ (n : Int) ∧ v.2.2.2.2.1 = 52
def advB (z5 : Int32) (s6 : gH) : Option (Unit × gH) :=
  (ggI s6 53 6 6).bind fun v7 =>
  (spI s6 53 6 5 v7).bind fun s8 =>
  gX6_advance_L40
    (fun s25 =>
      (ggI s25 53 6 5).bind fun v26 =>
      (spI s25 53 6 6 v26).bind fun s27 =>
      gX6_advance_L100
        (fun s42 =>
          (spI s42 53 6 4 1).bind fun s43 =>
          (ggI s43 53 6 6).bind fun v44 =>
          (ggI s43 53 6 5).bind fun v45 =>
          gjn (fun (s47 : gH) =>
              (ggI s47 53 6 6).bind fun v48 =>
              (ggI s47 53 6 5).bind fun v49 =>
              if v48 = v49 then
                (ggI s47 53 6 6).bind fun v51 =>
                (ggI s47 53 6 3).bind fun v52 =>
                gjn (fun (z54 : Int32) (b55 : Nat) (s56 : gH) =>
                    (spI s56 b55 6 4 z54).bind fun s57 =>
                    (ggI s57 53 6 3).bind fun v58 =>
                    (ggI s57 53 6 6).bind fun v59 =>
                    (spI s57 53 6 6 (gmin v58 (v59 + 1))).bind fun s60 =>
                    some ((), s60)
                ) fun j53 =>
                if v51 < v52 then
                  j53 3 53 s47
                else
                  j53 0 53 s47
              else
                if z5 = 0 then
                  some ((), s47)
                else
                  (ggI s47 53 6 5).bind fun v63 =>
                  if v63 = v7 then
                    (spI s47 53 6 4 4).bind fun s65 =>
                    some ((), s65)
                  else
                    some ((), s47)
          ) fun j46 =>
          if v44 = v45 then
            (spI s43 53 6 4 2).bind fun s67 =>
            gX6_advance_L173
              (fun s82 =>
                j46 s82)
              53 z5 v7 20000 s67
          else
            j46 s43)
        53 z5 v7 20000 s27)
    53 z5 v7 20000 s8
theorem adv_eq (s0 : gH) : fX6_advance 53 s0 = (ggI s0 53 6 0).bind fun v1 => if v1 = 0 then (ggI s0 53 6 4).bind fun v3 => if v3 = 1 then advB 1 s0 else (ggI s0 53 6 4).bind fun v84 => if v84 = 2 then advB 1 s0 else advB 0 s0 else some ((), s0) := rfl
section gAd
variable {X : Nat × (Nat → Int32)} {J : Nat → Nat → Int64} {v : Vt} {T : Nat → Nat} {n : Nat}
theorem cX_K {I I' : Nat → Nat → Int32} (h : cX I v T n) (f : frK I I') : cX I' v T n := ⟨cT_K h.1 f, by rw [f.2]; exact h.2.1, h.2.2⟩
theorem c_advB {I : Nat → Nat → Int32} {e : Nat} {w : Bool} (h : cX I v T n) (h0 : I 53 0 = 0) (h1 : I 53 1 = -1) (he : I 53 6 = iZ (e : Int)) (hen : e ≤ n) : ∃ I', advB (tf w) (mkS X I J v) = some ((), mkS X I' J v) ∧ frK I I' ∧ cO I' T n (pGo T n e w) := by
  obtain ⟨hT, h3, hv⟩ := h
  have hn := hT.1
  have ha1 := rn_ge (T := T) (n := n) (P := isBb) e
  have ha2 := rn_le (T := T) (P := isBb) hen
  unfold advB
  simp only [bO, o53, he]
  rw [c_adv40 hv n e 20000 (gup I 53 5 (iZ (e : Int))) (by omega) (by omega) (cT_K hT (frK_g (by decide))) (by rw [gup_k (by decide)]; exact h3) gup_s hen, gup_gup]
  simp only [bO, o53, gup_s]
  unfold pGo
  generalize rn T n isBb e = a at ha1 ha2
  have hb1 := rn_ge (T := T) (n := n) (P := isLb) a
  have hb2 := rn_le (T := T) (P := isLb) ha2
  rw [c_adv100 hv n a 20000 (gup (gup I 53 5 (iZ (a : Int))) 53 6 (iZ (a : Int))) (by omega) (by omega) (cT_K hT (frK_t (frK_g (by decide)) (frK_g (by decide)))) (by rw [gup_k (by decide), gup_k (by decide)]; exact h3) gup_s ha2, gup_gup]
  simp only [bO, o53]
  have g1 : ∀ (I : Nat → Nat → Int32) (x y z : Int32), gup (gup (gup I 53 5 x) 53 6 y) 53 4 z 53 6 = y := fun I x y z => by simp [gup]
  have g2 : ∀ (I : Nat → Nat → Int32) (x y z : Int32), gup (gup (gup I 53 5 x) 53 6 y) 53 4 z 53 5 = x := fun I x y z => by simp [gup]
  simp only [g1, g2]
  simp only [show (iZ (rn T n isLb a : Nat) = iZ (a : Int)) ↔ rn T n isLb a = a from by rw [iZ_eq (by omega) (by omega) (by omega) (by omega)]; omega]
  have fr3 : ∀ {x y z : Int32}, frK I (gup (gup (gup I 53 5 x) 53 6 y) 53 4 z) := fun {x y z} => frK_t (frK_g (by decide)) (frK_t (frK_g (by decide)) (frK_g (by decide)))
  by_cases hL : a < n ∧ isLb (T a) = true
  · have hne : ¬ rn T n isLb a = a := by
      rw [rn_go hL.1 hL.2]
      have := rn_ge (T := T) (n := n) (P := isLb) (a + 1)
      omega
    rw [if_neg hne, if_neg hne]
    have eE : tkE T n a = rn T n isLb a := by unfold tkE; rw [if_pos hL.1, if_pos hL.2]
    cases w with
    | false =>
      rw [if_pos tf_f]
      refine ⟨_, rfl, fr3, ?_⟩
      refine ⟨?_, ?_, g2 _ _ _ _, ?_, ha2, by simp [gup]; exact h1⟩
      · simp [gup]; exact h0
      · show _ = iZ (tkK T n a false : Nat)
        unfold tkK
        rw [if_pos hL.1, if_pos hL.2]
        simp [gup]; rfl
      · rw [g1, eE]
    | true =>
      rw [if_neg (by decide)]
      simp only [show (iZ (a : Int) = iZ (e : Int)) ↔ a = e from by rw [iZ_eq (by omega) (by omega) (by omega) (by omega)]; omega]
      by_cases q : a = e
      · rw [if_pos q]
        refine ⟨_, rfl, frK_t fr3 (frK_g (by decide)), ?_⟩
        refine ⟨?_, ?_, ?_, ?_, ha2, by simp [gup]; exact h1⟩
        · simp [gup]; exact h0
        · show _ = iZ (tkK T n a (true && a == e) : Nat)
          rw [show (true && a == e) = true from by simpa using q]
          unfold tkK
          rw [if_pos hL.1, if_pos hL.2]
          simp [gup]; rfl
        · simp [gup]
        · simp [gup]; rw [eE]
      · rw [if_neg q]
        refine ⟨_, rfl, fr3, ?_⟩
        refine ⟨?_, ?_, g2 _ _ _ _, ?_, ha2, by simp [gup]; exact h1⟩
        · simp [gup]; exact h0
        · show _ = iZ (tkK T n a (true && a == e) : Nat)
          rw [show (true && a == e) = false from by simpa using q]
          unfold tkK
          rw [if_pos hL.1, if_pos hL.2]
          simp [gup]; rfl
        · rw [g1, eE]
  · have heq : rn T n isLb a = a := rn_no hL
    rw [if_pos heq]
    rw [heq]
    have hd1 := rn_ge (T := T) (n := n) (P := isDb) a
    have hd2 := rn_le (T := T) (P := isDb) ha2
    rw [c_adv173 hv n a 20000 (gup (gup (gup (gup I 53 5 (iZ (a : Int))) 53 6 (iZ (a : Int))) 53 4 1) 53 4 2) (by omega) (by omega) (cT_K hT (frK_t fr3 (frK_g (by decide)))) (by rw [(frK_g (show (4 : Nat) ≠ 3 by decide)).2, fr3.2]; exact h3) (by simp [gup]) ha2]
    simp only [bO, o53]
    have g3 : ∀ (I : Nat → Nat → Int32) (x y z u w : Int32), gup (gup (gup (gup (gup I 53 5 x) 53 6 y) 53 4 z) 53 4 u) 53 6 w 53 5 = x := fun I x y z u w => by simp [gup]
    have g4 : ∀ (I : Nat → Nat → Int32) (x y z u w : Int32), gup (gup (gup (gup (gup I 53 5 x) 53 6 y) 53 4 z) 53 4 u) 53 6 w 53 3 = I 53 3 := fun I x y z u w => by simp [gup]
    have g5 : ∀ (I : Nat → Nat → Int32) (x y z u w t : Int32), gup (gup (gup (gup (gup (gup I 53 5 x) 53 6 y) 53 4 z) 53 4 u) 53 6 w) 53 4 t 53 3 = I 53 3 := fun I x y z u w t => by simp [gup]
    have g6 : ∀ (I : Nat → Nat → Int32) (x y z u w t : Int32), gup (gup (gup (gup (gup (gup I 53 5 x) 53 6 y) 53 4 z) 53 4 u) 53 6 w) 53 4 t 53 6 = w := fun I x y z u w t => by simp [gup]
    simp only [gup_s, g3, g4, g5, g6, h3]
    simp only [show (iZ (rn T n isDb a : Nat) = iZ (a : Int)) ↔ rn T n isDb a = a from by rw [iZ_eq (by omega) (by omega) (by omega) (by omega)]; omega]
    have fr5 : ∀ {x y z u w : Int32}, frK I (gup (gup (gup (gup (gup I 53 5 x) 53 6 y) 53 4 z) 53 4 u) 53 6 w) := fun {x y z u w} => frK_t fr3 (frK_t (frK_g (by decide)) (frK_g (by decide)))
    by_cases hD : a < n ∧ isDb (T a) = true
    · have hl : isLb (T a) = false := by
        cases q : isLb (T a)
        · rfl
        · exact absurd ⟨hD.1, q⟩ hL
      have hne : ¬ rn T n isDb a = a := by
        rw [rn_go hD.1 hD.2]
        have := rn_ge (T := T) (n := n) (P := isDb) (a + 1)
        omega
      rw [if_neg hne]
      have eE : tkE T n a = rn T n isDb a := by unfold tkE; rw [if_pos hD.1, hl, if_neg (by decide), if_pos hD.2]
      cases w with
      | false =>
        rw [if_pos tf_f]
        refine ⟨_, rfl, fr5, ?_⟩
        refine ⟨?_, ?_, g3 _ _ _ _ _ _, ?_, ha2, by simp [gup]; exact h1⟩
        · simp [gup]; exact h0
        · show _ = iZ (tkK T n a false : Nat)
          unfold tkK
          rw [if_pos hD.1, hl, if_neg (by decide), if_pos hD.2]
          simp [gup]; rfl
        · rw [gup_s, eE]
      | true =>
        rw [if_neg (by decide)]
        simp only [show (iZ (a : Int) = iZ (e : Int)) ↔ a = e from by rw [iZ_eq (by omega) (by omega) (by omega) (by omega)]; omega]
        by_cases q : a = e
        · rw [if_pos q]
          refine ⟨_, rfl, frK_t fr5 (frK_g (by decide)), ?_⟩
          refine ⟨?_, ?_, ?_, ?_, ha2, by simp [gup]; exact h1⟩
          · simp [gup]; exact h0
          · show _ = iZ (tkK T n a (true && a == e) : Nat)
            rw [show (true && a == e) = true from by simpa using q]
            unfold tkK
            rw [if_pos hD.1, hl, if_neg (by decide), if_pos hD.2]
            simp [gup]; rfl
          · simp [gup]
          · simp [gup]; rw [eE]
        · rw [if_neg q]
          refine ⟨_, rfl, fr5, ?_⟩
          refine ⟨?_, ?_, g3 _ _ _ _ _ _, ?_, ha2, by simp [gup]; exact h1⟩
          · simp [gup]; exact h0
          · show _ = iZ (tkK T n a (true && a == e) : Nat)
            rw [show (true && a == e) = false from by simpa using q]
            unfold tkK
            rw [if_pos hD.1, hl, if_neg (by decide), if_pos hD.2]
            simp [gup]; rfl
          · rw [gup_s, eE]
    · have heq2 : rn T n isDb a = a := rn_no hD
      rw [if_pos heq2, heq2]
      by_cases hc : a < n
      · have hl : isLb (T a) = false := by
          cases q : isLb (T a)
          · rfl
          · exact absurd ⟨hc, q⟩ hL
        have hdg : isDb (T a) = false := by
          cases q : isDb (T a)
          · rfl
          · exact absurd ⟨hc, q⟩ hD
        rw [if_pos (by rw [iZ_lt (by omega) (by omega) (by omega) (by omega)]; omega), aL, gmin_Z (by omega) (by omega) (by omega) (by omega)]
        refine ⟨_, rfl, frK_t fr5 (frK_t (frK_g (by decide)) (frK_g (by decide))), ?_⟩
        refine ⟨?_, ?_, ?_, ?_, ha2, by simp [gup]; exact h1⟩
        · simp [gup]; exact h0
        · show _ = iZ (tkK T n a (w && a == e) : Nat)
          unfold tkK
          rw [if_pos hc, hl, hdg, if_neg (by decide), if_neg (by decide)]
          simp [gup]; rfl
        · simp [gup]
        · rw [gup_s]
          show _ = iZ (tkE T n a : Nat)
          unfold tkE
          rw [if_pos hc, hl, hdg, if_neg (by decide), if_neg (by decide)]
          congr 1
          omega
      · rw [if_neg (by rw [iZ_lt (by omega) (by omega) (by omega) (by omega)]; omega), aL, gmin_Z (by omega) (by omega) (by omega) (by omega)]
        refine ⟨_, rfl, frK_t fr5 (frK_t (frK_g (by decide)) (frK_g (by decide))), ?_⟩
        refine ⟨?_, ?_, ?_, ?_, ha2, by simp [gup]; exact h1⟩
        · simp [gup]; exact h0
        · show _ = iZ (tkK T n a (w && a == e) : Nat)
          unfold tkK
          rw [if_neg hc]
          simp [gup]; rfl
        · simp [gup]
        · rw [gup_s]
          show _ = iZ (tkE T n a : Nat)
          unfold tkE
          rw [if_neg hc]
          congr 1
          omega
theorem c_advRaw {I : Nat → Nat → Int32} {e k : Nat} (h : cX I v T n) (h0 : I 53 0 = 0) (h1 : I 53 1 = -1) (hk : I 53 4 = iZ (k : Int)) (hk2 : k < 10) (he : I 53 6 = iZ (e : Int)) (hen : e ≤ n) : ∃ I', fX6_advance 53 (mkS X I J v) = some ((), mkS X I' J v) ∧ frK I I' ∧ cO I' T n (pGo T n e (k == 1 || k == 2)) := by
  rw [adv_eq]
  simp only [bO, o53, h0, hk]
  rw [if_pos trivial]
  by_cases c1 : k = 1
  · rw [if_pos (by rw [c1]; rfl), show (k == 1 || k == 2) = true from by simp [c1], show (1 : Int32) = tf true from rfl]
    exact c_advB h h0 h1 he hen
  · rw [if_neg (by rw [cL_eq (by omega) (by omega) (by decide)]; omega)]
    by_cases c2 : k = 2
    · rw [if_pos (by rw [c2]; rfl), show (k == 1 || k == 2) = true from by simp [c2], show (1 : Int32) = tf true from rfl]
      exact c_advB h h0 h1 he hen
    · rw [if_neg (by rw [cL_eq (by omega) (by omega) (by decide)]; omega), show (k == 1 || k == 2) = false from by simp [c1, c2]]
      exact c_advB (w := false) h h0 h1 he hen
theorem c_adv {I : Nat → Nat → Int32} {r : PS} (h : cX I v T n) (hr : cO I T n r) : ∃ I', fX6_advance 53 (mkS X I J v) = some ((), mkS X I' J v) ∧ frK I I' ∧ cO I' T n (pAdv T n r) := by
  cases r with
  | error e =>
    obtain ⟨q1, q2, q3, q4, q5⟩ := hr
    refine ⟨I, ?_, frK_r I, ⟨q1, q2, q3, q4, q5⟩⟩
    rw [adv_eq]
    simp only [bO, o53, q1]
    rw [if_neg (by rw [cL_eq (by omega) (by omega) (by decide)]; omega)]
  | ok s =>
    obtain ⟨q1, q2, q3, q4, q5, q6⟩ := hr
    have := tkK_lt T n s.1 s.2
    exact c_advRaw h q1 q6 q2 (by omega) q4 (tkE_le q5)
theorem c_refuseR {I : Nat → Nat → Int32} {r : PS} {f p : Nat} (hf : f ≠ 0) (hf2 : f < 10) (hr : cO I T n r) : ∃ I', fX6_refuse 53 (iZ (f : Int)) (iZ (p : Int)) (mkS X I J v) = some ((), mkS X I' J v) ∧ frK I I' ∧ cO I' T n (pFail f p r) := by
  unfold fX6_refuse
  simp only [bO, o53]
  cases r with
  | error e =>
    obtain ⟨q1, q2, q3, q4, q5⟩ := hr
    rw [q1, if_neg (by rw [cL_eq (by omega) (by omega) (by decide)]; omega)]
    refine ⟨_, rfl, frK_g (by decide), ?_⟩
    exact ⟨by rw [gup_k (by decide)]; exact q1, q2, q3, by rw [gup_k (by decide)]; exact q4, gup_s⟩
  | ok s =>
    obtain ⟨q1, q2, q3, q4, q5, q6⟩ := hr
    rw [q1, if_pos rfl]
    refine ⟨_, rfl, frK_t (frK_g (by decide)) (frK_t (frK_g (by decide)) (frK_g (by decide))), ?_⟩
    exact ⟨by rw [gup_k (by decide), gup_k (by decide), gup_s], hf, hf2, by rw [gup_k (by decide), gup_s], gup_s⟩
theorem cO_st {I : Nat → Nat → Int32} {r : PS} (hr : cO I T n r) (hk : pOk r = true) : I 53 5 = iZ (pAt r : Nat) := by
  cases r with
  | error e => cases hk
  | ok s => exact hr.2.2.1
/-- it fails where it stands -/
def pNot (f : Nat) (r : PS) : PS := pFail f (pAt r) r
theorem c_refuseS {I : Nat → Nat → Int32} {r : PS} {f : Nat} (hf : f ≠ 0) (hf2 : f < 10) (hr : cO I T n r) : ∃ I', fX6_refuse 53 (iZ (f : Int)) (I 53 5) (mkS X I J v) = some ((), mkS X I' J v) ∧ frK I I' ∧ cO I' T n (pNot f r) := by
  cases r with
  | error e =>
    obtain ⟨z, -, -, hz⟩ := iZ_of (I 53 5)
    obtain ⟨q1, q2, q3, q4, q5⟩ := hr
    unfold fX6_refuse
    simp only [bO, o53]
    rw [q1, if_neg (by rw [cL_eq (by omega) (by omega) (by decide)]; omega)]
    refine ⟨_, rfl, frK_g (by decide), ?_⟩
    exact ⟨by rw [gup_k (by decide)]; exact q1, q2, q3, by rw [gup_k (by decide)]; exact q4, gup_s⟩
  | ok s =>
    have := hr.2.2.1
    rw [this]
    exact c_refuseR hf hf2 hr
def pPass (T : Nat → Nat) (n : Nat) (b : Bool) (r : PS) : PS := if b = true then pAdv T n r else pNot 1 r
theorem c_pass {I : Nat → Nat → Int32} {r : PS} {b : Bool} (h : cX I v T n) (hr : cO I T n r) : ∃ I', fX6_pass 53 (tf b) (mkS X I J v) = some ((), mkS X I' J v) ∧ frK I I' ∧ cO I' T n (pPass T n b r) := by
  unfold fX6_pass pPass
  simp only [bO, o53]
  cases b with
  | false =>
    rw [if_pos tf_f, if_neg (by decide)]
    obtain ⟨I', a1, a2, a3⟩ := c_refuseS (X := X) (J := J) (v := v) (f := 1) (by decide) (by decide) hr
    rw [show (1 : Int32) = iZ ((1 : Nat) : Int) from rfl, a1]
    exact ⟨I', rfl, a2, a3⟩
  | true =>
    rw [if_neg (by decide), if_pos rfl]
    obtain ⟨I', a1, a2, a3⟩ := c_adv (X := X) (J := J) h hr
    rw [a1]
    exact ⟨I', rfl, a2, a3⟩
/-- whether a sign stands next -/
def pSign (T : Nat → Nat) (n : Nat) (c : Nat) : PS → Bool
  | .error _ => false
  | .ok s => decide (s.1 < n) && T s.1 == c
theorem c_isSign {I : Nat → Nat → Int32} {r : PS} {c : Nat} (hc : c < 128) (hl : isLb c = false) (hd : isDb c = false) (h : cX I v T n) (hr : cO I T n r) : fX6_isSign 53 (iZ (c : Int)) (mkS X I J v) = some (tf (pSign T n c r), mkS X I J v) := by
  unfold fX6_isSign gX6_isSign
  simp only [bO, o53, o53R]
  obtain ⟨hT, h3, hv⟩ := h
  have hn := hT.1
  cases r with
  | error e =>
    rw [hr.2.2.2.2, if_neg (by decide)]; rfl
  | ok s =>
    obtain ⟨q1, q2, q3, q4, q5, q6⟩ := hr
    have hk := tkK_lt T n s.1 s.2
    rw [q2, q3, h3]
    simp only [show (iZ (tkK T n s.1 s.2 : Nat) = 3) ↔ tkK T n s.1 s.2 = 3 from by rw [cL_eq (by omega) (by omega) (by decide)]; omega]
    have hlt : (iZ (s.1 : Int) < iZ (n : Int)) ↔ s.1 < n := by rw [iZ_lt (by omega) (by omega) (by omega) (by omega)]; omega
    simp only [hlt]
    show _ = some (tf (decide (s.1 < n) && T s.1 == c), mkS X I J v)
    by_cases a : s.1 < n
    · rw [if_pos a, c_tx hT hv a]
      simp only [bO]
      simp only [show (iZ (sby (T s.1)) = iZ (c : Int)) ↔ T s.1 = c from sby_eq (hT.2 _ a).1 hc]
      rw [decide_eq_true a, Bool.true_and]
      by_cases q : T s.1 = c
      · rw [if_pos (show tkK T n s.1 s.2 = 3 by unfold tkK; rw [if_pos a, q, hl, hd]; rfl), if_pos q, show (T s.1 == c) = true from by simpa using q]; rfl
      · rw [if_neg q, show (T s.1 == c) = false from by simpa using q]
        split <;> rfl
    · rw [if_neg (show ¬ tkK T n s.1 s.2 = 3 by unfold tkK; rw [if_neg a]; decide), decide_eq_false a]; rfl
end gAd
