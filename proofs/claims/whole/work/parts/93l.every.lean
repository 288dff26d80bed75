/-! EVERY AND FROM -/
section gEv
variable {X : Nat × (Nat → Int32)} {v : Vt} {B : Bk} {A L : Nat → Nat → Bool} {b : Nat} {S : Nat → St} {un : Nat}
/-- what the class may write when a rule is changed -/
def frQ2 (b : Nat) (I I' : Nat → Nat → Int32) : Prop := ∀ a k, ¬ (57 ≤ a ∧ a ≤ 59) → (a ≠ 60 ∨ k ≠ 7) → ¬ (143 ≤ a ∧ a ≤ 187) → (a ≠ 188 ∨ k ≠ 7) → ¬ (b ≤ a ∧ a ≤ b + 34) → I' a k = I a k
theorem cRl_beg {I I' : Nat → Nat → Int32} {q d : Nat} {R : RuL} (h : cRl I q R) (f : ∀ a k, (a ≠ q ∨ k < 2 ∨ 5 < k) → I' a k = I a k) (h2 : I' q 2 = iZ (d : Int)) (h3 : I' q 3 = iZ (cM d : Nat)) (h4 : I' q 4 = iZ (cD d : Nat)) (h5 : I' q 5 = iZ (((d + 5) % 7 : Nat) : Int)) : cRl I' q (R.at0 d) := by
  obtain ⟨r1, r2, r3, r4, r5, r6, r7, r8, r9, r10, r11, r12, r13, r14, r15, r16⟩ := h
  have f1 : ∀ k, I' (q + 1) k = I (q + 1) k := fun k => f _ k (Or.inl (by omega))
  have f2 : ∀ k, I' (q + 2) k = I (q + 2) k := fun k => f _ k (Or.inl (by omega))
  have f3 : ∀ k, I' (q + 3) k = I (q + 3) k := fun k => f _ k (Or.inl (by omega))
  have f4 : ∀ k, I' (q + 4) k = I (q + 4) k := fun k => f _ k (Or.inl (by omega))
  have g : ∀ k, k < 2 ∨ 5 < k → I' q k = I q k := fun k hk => f q k (Or.inr hk)
  unfold cRl
  rw [g 1 (by decide), h2, h3, h4, h5, g 6 (by decide), g 7 (by decide), g 8 (by decide), g 9 (by decide), g 10 (by decide), g 11 (by decide), g 12 (by decide)]
  simp only [f1, f2, f3, f4]
  exact ⟨r1, rfl, rfl, rfl, rfl, r6, r7, r8, r9, r10, r11, r12, r13, r14, r15, r16⟩
theorem cq_every {I : Nat → Nat → Int32} {J : Nat → Nat → Int64} {z x : Int} (z1 : -2147483648 ≤ z) (z2 : z < 2147483648) (x1 : -2147483648 ≤ x) (x2 : x < 2147483648) (hb : isBk b) (hv1 : v.1 = b) (hv : v.2.2.1 = b) (ok : BkOK B) (hB : cBk I b B) (hL : cLg I J B A L) (hJ : jN I S un) (hS : S 0 = (B, A, L)) : (¬ ((0 ≤ z ∧ z < B.nR) ∧ 1 ≤ x ∧ x ≤ 99 ∧ x ≠ B.stp z.toNat) ∧ fX11_every 50 (iZ z) (iZ x) (mkS X I J v) = some (0, mkS X (gup I 196 3 (I 196 3 + 1)) J v)) ∨ (((0 ≤ z ∧ z < B.nR) ∧ 1 ≤ x ∧ x ≤ 99 ∧ x ≠ B.stp z.toNat) ∧ ∃ I' J', fX11_every 50 (iZ z) (iZ x) (mkS X I J v) = some (1, mkS X I' J' v) ∧ frQ2 b I I' ∧ I' 188 7 = I 188 7 ∧ (∀ a, (a < 66 ∨ 76 < a) → J' a = J a) ∧ cBk I' b (B.setR z.toNat (B.rl z.toNat) x.toNat) ∧ cLg I' J' (B.setR z.toNat (B.rl z.toNat) x.toNat) A L ∧ jN I' (sC (B.setR z.toNat (B.rl z.toNat) x.toNat, A, L) S) (min 20 (un + 1))) := by
  have hb0 := bk_r hb
  have k1 := ok.1
  have den : gb2 (fX11_deny 50 3 (mkS X I J v)) (fun r6 s7 => some (r6, s7)) = some ((0 : Int32), mkS X (gup I 196 3 (I 196 3 + 1)) J v) := by
    have := c_deny (X := X) (I := I) (J := J) (v := v) (n := 3) (by decide)
    rw [show (3 : Int32) = iZ ((3 : Nat) : Int) from rfl, this]; rfl
  unfold fX11_every gX11_every
  simp only [bO, o50R, o50, hv1, bk_c hb, c_ruleAt hb hB.1 k1 z1 z2, gb2_some, gjn_eq, den]
  by_cases c : 0 ≤ z ∧ z < (B.nR : Int)
  · have hr : z.toNat < B.nR := by omega
    have hq := isRule_bk (n := z.toNat) hb (by omega)
    obtain ⟨r1, r2⟩ := hB.2.2.1 z.toNat hr
    obtain ⟨ru, s1, s2⟩ := ok.2.2.1 z.toNat hr
    rw [if_pos c, if_neg (by omega)]
    by_cases c1 : x < 1
    · rw [if_pos (by rw [cL_lt (by omega) (by omega) (by decide)]; exact c1)]
      exact Or.inl ⟨by omega, rfl⟩
    · rw [if_neg (by rw [cL_lt (by omega) (by omega) (by decide)]; exact c1)]
      by_cases c2 : 99 < x
      · rw [if_pos (by rw [cR_lt (by omega) (by omega) (by decide)]; exact c2)]
        exact Or.inl ⟨by omega, rfl⟩
      · rw [if_neg (by rw [cR_lt (by omega) (by omega) (by decide)]; exact c2)]
        simp only [rl_i hq, bO, r2]
        by_cases c3 : x = B.stp z.toNat
        · rw [if_pos (by rw [c3])]
          exact Or.inl ⟨fun q => q.2.2.2 c3, rfl⟩
        · rw [if_neg (by rw [iZ_eq (by omega) (by omega) (by omega) (by omega)]; exact c3)]
          right
          refine ⟨⟨c, by omega, by omega, c3⟩, ?_⟩
          obtain ⟨r, rfl⟩ : ∃ n : Nat, z = (n : Int) := ⟨z.toNat, by omega⟩
          obtain ⟨n, rfl⟩ : ∃ n : Nat, x = (n : Int) := ⟨x.toNat, by omega⟩
          rw [Int.toNat_natCast] at hr hq r1 r2 ru s1 s2 c3 ⊢
          rw [Int.toNat_natCast]
          obtain ⟨q, h1, h2, h3, h4, h5⟩ := hJ
          obtain ⟨I1, a1, a2, a3, a4, a5, a6, a7, a8, a9⟩ := c_openRule (X := X) (v := v) (J := J) (x1 := 1) (x2 := iZ (r : Int)) (x3 := iZ (B.stp r : Nat)) h1 h2 h3 h4
          simp only [o143, a1, gb2_some, rl_p hq, bO, o50R, o60]
          have hB1 : cBk (gup I1 (b + 5 + 5 * r) 0 (iZ (n : Int))) b (B.setR r (B.rl r) n) := by
            refine cBk_setR (I := I) k1 hr hB (fun a k p q w => ?_) ?_ gup_s
            · rw [gup_r (by omega), a2 a k (by omega)]
            · have rr := (rule_all hq).2.2.2.2.2.1
              have : cRl I1 (b + 5 + 5 * r) (B.rl r) := cRl_fr r1 (fun a k p q => a2 a k (by omega))
              obtain ⟨t1, t2, t3, t4, t5, t6, t7, t8, t9, t10, t11, t12, t13, t14, t15, t16⟩ := this
              have gk : ∀ k, k ≠ 0 → gup I1 (b + 5 + 5 * r) 0 (iZ (n : Int)) (b + 5 + 5 * r) k = I1 (b + 5 + 5 * r) k := fun k hk => gup_k hk
              have gr : ∀ a k, a ≠ b + 5 + 5 * r → gup I1 (b + 5 + 5 * r) 0 (iZ (n : Int)) a k = I1 a k := fun a k ha => gup_r ha
              unfold cRl
              simp only [gk 1 (by decide), gk 2 (by decide), gk 3 (by decide), gk 4 (by decide), gk 5 (by decide), gk 6 (by decide), gk 7 (by decide), gk 8 (by decide), gk 9 (by decide), gk 10 (by decide), gk 11 (by decide), gk 12 (by decide), gr (b + 5 + 5 * r + 1) _ (by omega), gr (b + 5 + 5 * r + 2) _ (by omega), gr (b + 5 + 5 * r + 3) _ (by omega), gr (b + 5 + 5 * r + 4) _ (by omega)]
              exact ⟨t1, t2, t3, t4, t5, t6, t7, t8, t9, t10, t11, t12, t13, t14, t15, t16⟩
          have hL1 : cLg (gup I1 (b + 5 + 5 * r) 0 (iZ (n : Int))) J B A L := cLg_fr hL k1 ok.2.1 (by rw [gup_r (by omega), a2 60 7 (by decide)]) (fun a k p q => by rw [gup_r (by omega), a2 a k (by omega)]) (fun _ _ _ => rfl)
          obtain ⟨I2, J2, d1, d2, d3, d4, d5⟩ := c_reckon (X := X) (v := v) hb hv (setR_ok ok ru (by omega) (by omega)) hr hB1 hL1
          rw [d1, gb2_some]
          have j2 : ∀ a k, 143 ≤ a → a ≤ 187 → I2 a k = I1 a k := fun a k p q => by rw [d2 a k (by omega) (by omega) (by omega) (Or.inl (by omega)), gup_r (by omega)]
          refine ⟨I2, J2, rfl, fun a k w1 w2 w3 w4 w5 => ?_, by rw [d2 188 7 (by decide) (by decide) (by decide) (Or.inl (by decide)), gup_r (by omega), a2 188 7 (by decide)], d3, d4, d5, ?_⟩
          · rw [d2 a k (by omega) (by omega) (by omega) w2, gup_r (by omega), a2 a k w3]
          · refine jN_fr (jN_push h1 h4 h5 a3 a4 a9 ?_) j2
            left
            refine ⟨a5, r, B.stp r, hr, s1, s2, a6, a7, ?_⟩
            rw [hS]
            show (B, A, L) = ((B.setR r (B.rl r) n).setR r ((B.setR r (B.rl r) n).rl r) (B.stp r), A, L)
            rw [setR_rl.1, setR_id]
  · rw [if_neg c, if_pos rfl]
    exact Or.inl ⟨fun q => c q.1, rfl⟩
end gEv
