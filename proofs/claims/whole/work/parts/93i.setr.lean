/-! A RULE of the book is changed -/
def Bk.setR (B : Bk) (r : Nat) (R : RuL) (n : Nat) : Bk := (B.nR, B.nS, fun k => if k = r then R else B.rl k, fun k => if k = r then n else B.stp k, B.nm, B.cs)
theorem setR_ok {B : Bk} {r n : Nat} {R : RuL} (h : BkOK B) (hR : RuLok R) (n1 : 1 ≤ n) (n2 : n ≤ 99) : BkOK (B.setR r R n) := by
  obtain ⟨h1, h2, h3, h4, h5, h6, h7⟩ := h
  refine ⟨h1, h2, fun k hk => ?_, h4, h5, h6, h7⟩
  by_cases c : k = r
  · exact ⟨by show RuLok (if k = r then R else B.rl k); rw [if_pos c]; exact hR, by show 1 ≤ (if k = r then n else B.stp k); rw [if_pos c]; exact n1, by show (if k = r then n else B.stp k) ≤ 99; rw [if_pos c]; exact n2⟩
  · obtain ⟨a, b, d⟩ := h3 k hk
    exact ⟨by show RuLok (if k = r then R else B.rl k); rw [if_neg c]; exact a, by show 1 ≤ (if k = r then n else B.stp k); rw [if_neg c]; exact b, by show (if k = r then n else B.stp k) ≤ 99; rw [if_neg c]; exact d⟩
theorem setR_id {B : Bk} {r n : Nat} {R : RuL} : (B.setR r R n).setR r (B.rl r) (B.stp r) = B := by
  obtain ⟨a, b, c, d, e, f⟩ := B
  have e1 : (fun k => if k = r then c r else if k = r then R else c k) = c := by
    funext k
    by_cases q : k = r
    · rw [if_pos q, q]
    · rw [if_neg q, if_neg q]
  have e2 : (fun k => if k = r then d r else if k = r then n else d k) = d := by
    funext k
    by_cases q : k = r
    · rw [if_pos q, q]
    · rw [if_neg q, if_neg q]
  show (a, b, (fun k => if k = r then c r else if k = r then R else c k), (fun k => if k = r then d r else if k = r then n else d k), e, f) = (a, b, c, d, e, f)
  rw [e1, e2]
theorem setR_rl {B : Bk} {r n : Nat} {R : RuL} : (B.setR r R n).rl r = R ∧ (B.setR r R n).stp r = n := ⟨if_pos rfl, if_pos rfl⟩
theorem setR_o {B : Bk} {r n k : Nat} {R : RuL} (h : k ≠ r) : (B.setR r R n).rl k = B.rl k ∧ (B.setR r R n).stp k = B.stp k := ⟨if_neg h, if_neg h⟩
theorem at0_ok {R : RuL} {d : Nat} (h : RuLok R) (hd : d < 14610) : RuLok (R.at0 d) := ⟨h.1, hd, h.2.2⟩
theorem at0_at0 {R : RuL} {d : Nat} : (R.at0 d).at0 R.b = R := rfl
section gSr
variable {X : Nat × (Nat → Int32)} {v : Vt} {B : Bk} {A L : Nat → Nat → Bool} {b : Nat}
theorem cBk_setR {I I' : Nat → Nat → Int32} {r n : Nat} {R : RuL} (hR : B.nR ≤ 6) (hr : r < B.nR) (h : cBk I b B) (f : ∀ a k, b ≤ a → a ≤ b + 34 → ¬ (b + 5 + 5 * r ≤ a ∧ a ≤ b + 5 + 5 * r + 4) → I' a k = I a k) (h1 : cRl I' (b + 5 + 5 * r) R) (h2 : I' (b + 5 + 5 * r) 0 = iZ (n : Int)) : cBk I' b (B.setR r R n) := by
  obtain ⟨q1, q2, q3, q4, q5⟩ := h
  refine ⟨by rw [f b 0 (by omega) (by omega) (by omega)]; exact q1, by rw [f b 1 (by omega) (by omega) (by omega)]; exact q2, fun k hk => ?_, fun s hs => ?_, fun w hw => ?_⟩
  · by_cases c : k = r
    · subst c
      rw [setR_rl.1, setR_rl.2]
      exact ⟨h1, h2⟩
    · have hk' : k < B.nR := hk
      rw [(setR_o c).1, (setR_o c).2]
      obtain ⟨x, y⟩ := q3 k hk
      exact ⟨cRl_fr x (fun a j p q => f a j (by omega) (by omega) (by omega)), by rw [f _ 0 (by omega) (by omega) (by omega)]; exact y⟩
  · obtain ⟨x, y⟩ := q4 s hs
    exact ⟨cseg_fr (fun k => f _ k (by omega) (by omega) (by omega)) x, by rw [f _ s (by omega) (by omega) (by omega)]; exact y⟩
  · rw [f _ w (by omega) (by omega) (by omega)]
    exact q5 w hw
/-- the class has changed a rule's object: its days are reckoned anew -/
theorem c_reckon {I : Nat → Nat → Int32} {J : Nat → Nat → Int64} {r n : Nat} {R : RuL} (hb : isBk b) (hv : v.2.2.1 = b) (ok : BkOK (B.setR r R n)) (hr : r < B.nR) (hB : cBk I b (B.setR r R n)) (hL : cLg I J B A L) : ∃ I' J', fX5_ruleChanged 60 (iZ (r : Int)) (mkS X I J v) = some ((), mkS X I' J' v) ∧ (∀ a k, a ≠ 57 → a ≠ 58 → a ≠ 59 → (a ≠ 60 ∨ k ≠ 7) → I' a k = I a k) ∧ (∀ a, (a < 66 ∨ 76 < a) → J' a = J a) ∧ cBk I' b (B.setR r R n) ∧ cLg I' J' (B.setR r R n) A L := by
  have hb0 := bk_r hb
  have k1 : B.nR ≤ 6 := ok.1
  obtain ⟨r1, r2⟩ := hB.2.2.1 r hr
  obtain ⟨o1, o2, o3⟩ := ok.2.2.1 r hr
  obtain ⟨I1, J1, a1, a2, a3, a4⟩ := c_ruleChanged (X := X) (v := v) (B := B.setR r R n) (J := J) (r := r) hb hv hB.1 k1 hr r1 r2 o1 o2 o3
  have fr : ∀ a k, a ≠ 57 → a ≠ 58 → a ≠ 59 → (a ≠ 60 ∨ k ≠ 7) → gup I1 60 7 0 a k = I a k := fun a k x y z w => by
    rw [← a2 a k x y z]
    rcases w with w | w
    · exact gup_r w
    · exact gup_k w
  refine ⟨gup I1 60 7 0, J1, a1, fr, fun a ha => a3 a (by omega), cBk_fr hB k1 (fun a k x y => fr a k (by omega) (by omega) (by omega) (Or.inl (by omega))), ⟨0, gup_s, Nat.zero_le _, fun w hw => ?_⟩, fun s hs => ?_⟩
  · have hw' : w < B.nR := by
      have : kn B.nR 0 w := hw
      unfold kn at this; omega
    rw [dy_rule (by omega)]
    by_cases c : w = r
    · rw [c]; exact a4
    · rw [(setR_o c).1, (setR_o c).2]
      obtain ⟨⟨sk, g1, g2, g3⟩, -⟩ := hL
      have := g3 w (Or.inl hw')
      rw [dy_rule (by omega)] at this
      exact dsP_o this (a3 _ (by omega))
  · obtain ⟨x, y⟩ := hL.2 s hs
    exact ⟨crow_fr x (fun k => fr _ k (by omega) (by omega) (by omega) (Or.inl (by omega))) (fun k => fr _ k (by omega) (by omega) (by omega) (Or.inl (by omega))), crow_fr y (fun k => fr _ k (by omega) (by omega) (by omega) (Or.inl (by omega))) (fun k => fr _ k (by omega) (by omega) (by omega) (Or.inl (by omega)))⟩
/-- the reference has changed a rule's numbers -/
theorem mBk_setR {I I' : Nat → Nat → Int32} {r n : Nat} {R : RuL} (hr : r < B.nR) (h : mBk I B) (f : ∀ a k, a ≠ 281 → a ≠ 283 → (a ≠ 267 ∨ (k ≠ 44 ∧ k ≠ 45)) → a ≠ 292 → I' a k = I a k) (f2 : ∀ k, k < 2 * B.nR → k ≠ 2 * r → k ≠ 2 * r + 1 → I' 281 k = I 281 k) (h1 : mRl I' r R) (h2 : I' 281 (2 * r) = iZ (n : Int)) : mBk I' (B.setR r R n) := by
  obtain ⟨q1, q2, q3, q4, q5⟩ := h
  have g : ∀ k, I' 276 k = I 276 k := fun k => f 276 k (by decide) (by decide) (Or.inl (by decide)) (by decide)
  refine ⟨by rw [g]; exact q1, by rw [g]; exact q2, fun k hk => ?_, fun s hs => ?_, ?_⟩
  · by_cases c : k = r
    · subst c
      rw [setR_rl.1, setR_rl.2]
      exact ⟨h1, h2, by rw [g]; exact (q3 k hr).2.2⟩
    · have hk' : k < B.nR := hk
      rw [(setR_o c).1, (setR_o c).2]
      obtain ⟨x, y, z⟩ := q3 k hk'
      refine ⟨?_, by rw [f2 _ (by omega) (by omega) (by omega)]; exact y, by rw [g]; exact z⟩
      obtain ⟨x1, x2, x3⟩ := x
      unfold mRl
      simp only [g]
      exact ⟨x1, by rw [f2 _ (by omega) (by omega) (by omega)]; exact x2, x3⟩
  · obtain ⟨x, y, z, w⟩ := q4 s hs
    exact ⟨mseg_fr (fun k => f 278 k (by decide) (by decide) (Or.inl (by decide)) (by decide)) x, by rw [g]; exact y, by rw [g]; exact z, by rw [g]; exact w⟩
  · rcases q5 with q | q
    · exact Or.inl ⟨by rw [f 267 23 (by decide) (by decide) (Or.inr (by decide)) (by decide)]; exact q.1, by rw [f 267 17 (by decide) (by decide) (Or.inr (by decide)) (by decide)]; exact q.2.1, calOK_Y q.2.2 (fun a k x y => f a k (by omega) (by omega) (Or.inl (by omega)) (by omega))⟩
    · have : B.nR = 0 := q.2.1
      omega
end gSr
