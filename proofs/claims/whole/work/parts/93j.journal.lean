/-! WHAT CAN BE TAKEN BACK, of both -/
abbrev St : Type := Bk × (Nat → Nat → Bool) × (Nat → Nat → Bool)
def uM : List (Nat × Nat × Nat) → (Nat → Nat → Bool) × (Nat → Nat → Bool) → (Nat → Nat → Bool) × (Nat → Nat → Bool)
  | [], p => p
  | c :: l, p => uM l (uS p.1 c.1 (mA c.2.2 (p.1 c.1) c.2.1), uS p.2 c.1 (mL c.2.2 (p.2 c.1) c.2.1))
def vM : List (Nat × Nat × Nat) → (Nat → Nat → Bool) × (Nat → Nat → Bool) → Prop
  | [], _ => True
  | c :: l, p => (c.1 < 6 ∧ c.2.1 < 14610 ∧ c.2.2 ≤ 2 ∧ (c.2.2 = 1 → cnt (pMi (p.1 c.1) c.2.1) 0 14610 < 20) ∧ (c.2.2 = 2 → cnt (pMi (p.2 c.1) c.2.1) 0 14610 < 20)) ∧ vM l (uS p.1 c.1 (mA c.2.2 (p.1 c.1) c.2.1), uS p.2 c.1 (mL c.2.2 (p.2 c.1) c.2.1))
def cdM (c : Nat × Nat × Nat) : Nat := (c.1 * 14610 + c.2.1) * 3 + c.2.2
/-- the marks of a change, as the class writes them: the latest last -/
def cdL (I : Nat → Nat → Int32) (r : Nat) (l : List (Nat × Nat × Nat)) : Prop := l.length ≤ 40 ∧ I r 1 = iZ (l.length : Int) ∧ ∀ j, j < l.length → I (r + 1) j = iZ (cdM (l.getD (l.length - 1 - j) (0, 0, 0)) : Nat)
/-- an entry of the class's journal -/
def jE (I : Nat → Nat → Int32) (q : Nat) (σ σ' : St) : Prop :=
  (I 144 q = 1 ∧ ∃ r n, r < σ.1.nR ∧ 1 ≤ n ∧ n ≤ 99 ∧ I 145 q = iZ (r : Nat) ∧ I 146 q = iZ (n : Nat) ∧ σ' = (σ.1.setR r (σ.1.rl r) n, σ.2)) ∨
  (I 144 q = 2 ∧ ∃ r n, r < σ.1.nR ∧ n < 14610 ∧ I 145 q = iZ (r : Nat) ∧ I 146 q = iZ (n : Nat) ∧ σ' = (σ.1.setR r ((σ.1.rl r).at0 n) (σ.1.stp r), σ.2)) ∨
  (I 144 q = 0 ∧ ∃ l, cdL I (148 + 2 * q) l ∧ vM l σ.2 ∧ σ' = (σ.1, uM l σ.2))
def jN (I : Nat → Nat → Int32) (S : Nat → St) (un : Nat) : Prop := ∃ q : Nat, q < 20 ∧ I 143 4 = iZ (q : Int) ∧ I 143 5 = iZ (un : Int) ∧ un ≤ 20 ∧ ∀ k, k < un → jE I ((q + 20 - k) % 20) (S k) (S (k + 1))
/-- a snapshot of the reference -/
def snR (f : Nat → Int32) (σ : St) : Prop := (∀ r, r < σ.1.nR → f (2 * r) = iZ (σ.1.stp r : Nat) ∧ f (2 * r + 1) = iZ ((σ.1.rl r).b : Nat)) ∧ ∀ s, s < 6 → mrow (fun _ => f) (12 + 42 * s) (σ.2.1 s) ∧ mrow (fun _ => f) (12 + 42 * s + 21) (σ.2.2 s)
def hN (I : Nat → Nat → Int32) (S : Nat → St) (un : Nat) : Prop := ∃ p : Nat, p < 20 ∧ I 267 45 = iZ (p : Int) ∧ I 267 44 = iZ (un : Int) ∧ un ≤ 20 ∧ ∀ k, k < un → snR (fun j => I 292 (264 * ((p + 20 - k) % 20) + j)) (S (k + 1))
def sC (σ : St) (S : Nat → St) : Nat → St
  | 0 => σ
  | k + 1 => S k
theorem snR_fr {f g : Nat → Int32} {σ : St} (h : snR f σ) (hR : σ.1.nR ≤ 6) (e : ∀ j, j < 264 → g j = f j) : snR g σ := by
  refine ⟨fun r hr => ?_, fun s hs => ?_⟩
  · rw [e _ (by omega), e _ (by omega)]
    exact h.1 r hr
  · obtain ⟨x, y⟩ := h.2 s hs
    exact ⟨mrow_21 x (fun k p q => e k (by omega)), mrow_21 y (fun k p q => e k (by omega))⟩
theorem snR_now {I : Nat → Nat → Int32} {B : Bk} {A L : Nat → Nat → Bool} (hB : mBk I B) (hL : mLg I B A L) : snR (I 281) (B, A, L) := by
  refine ⟨fun r hr => ?_, fun s hs => ?_⟩
  · obtain ⟨x, y, z⟩ := hB.2.2.1 r hr
    exact ⟨y, x.2.1⟩
  · obtain ⟨x, y⟩ := hL.2 s hs
    exact ⟨x, y⟩
theorem jE_fr {I I' : Nat → Nat → Int32} {q : Nat} {σ σ' : St} (h : jE I q σ σ') (e1 : I' 144 q = I 144 q) (e2 : I' 145 q = I 145 q) (e3 : I' 146 q = I 146 q) (e4 : I' (148 + 2 * q) 1 = I (148 + 2 * q) 1) (e5 : ∀ j, j < 40 → I' (148 + 2 * q + 1) j = I (148 + 2 * q + 1) j) : jE I' q σ σ' := by
  unfold jE
  rw [e1, e2, e3]
  rcases h with h | h | ⟨h1, l, h2, h3, h4⟩
  · exact Or.inl h
  · exact Or.inr (Or.inl h)
  · exact Or.inr (Or.inr ⟨h1, l, ⟨h2.1, by rw [e4]; exact h2.2.1, fun j hj => by rw [e5 j (by have := h2.1; omega)]; exact h2.2.2 j hj⟩, h3, h4⟩)
theorem jN_fr {I I' : Nat → Nat → Int32} {S : Nat → St} {un : Nat} (h : jN I S un) (f : ∀ r k, 143 ≤ r → r ≤ 187 → I' r k = I r k) : jN I' S un := by
  obtain ⟨q, h1, h2, h3, h4, h5⟩ := h
  refine ⟨q, h1, by rw [f 143 4 (by decide) (by decide)]; exact h2, by rw [f 143 5 (by decide) (by decide)]; exact h3, h4, fun k hk => ?_⟩
  have hm := Nat.mod_lt (q + 20 - k) (show 0 < 20 by decide)
  exact jE_fr (h5 k hk) (f _ _ (by decide) (by decide)) (f _ _ (by decide) (by decide)) (f _ _ (by decide) (by decide)) (f _ _ (by omega) (by omega)) (fun j _ => f _ _ (by omega) (by omega))
theorem hN_fr {I I' : Nat → Nat → Int32} {S : Nat → St} {un : Nat} (h : hN I S un) (f1 : I' 267 45 = I 267 45) (f2 : I' 267 44 = I 267 44) (f : ∀ k, I' 292 k = I 292 k) : hN I' S un := by
  obtain ⟨q, h1, h2, h3, h4, h5⟩ := h
  refine ⟨q, h1, by rw [f1]; exact h2, by rw [f2]; exact h3, h4, fun k hk => ?_⟩
  have e : (fun j => I' 292 (264 * ((q + 20 - k) % 20) + j)) = (fun j => I 292 (264 * ((q + 20 - k) % 20) + j)) := funext fun j => f _
  rw [e]
  exact h5 k hk
theorem jN_push {I I' : Nat → Nat → Int32} {S : Nat → St} {un q : Nat} {σ : St} (hq : q < 20) (hu : un ≤ 20) (h : ∀ k, k < un → jE I ((q + 20 - k) % 20) (S k) (S (k + 1))) (e1 : I' 143 4 = iZ (((q + 1) % 20 : Nat) : Int)) (e2 : I' 143 5 = iZ ((min 20 (un + 1) : Nat) : Int)) (f : ∀ p, p < 20 → p ≠ (q + 1) % 20 → I' 144 p = I 144 p ∧ I' 145 p = I 145 p ∧ I' 146 p = I 146 p ∧ I' (148 + 2 * p) 1 = I (148 + 2 * p) 1 ∧ ∀ j, j < 40 → I' (148 + 2 * p + 1) j = I (148 + 2 * p + 1) j) (hE : jE I' ((q + 1) % 20) σ (S 0)) : jN I' (sC σ S) (min 20 (un + 1)) := by
  refine ⟨(q + 1) % 20, by omega, e1, e2, by omega, fun k hk => ?_⟩
  cases k with
  | zero =>
    rw [show ((q + 1) % 20 + 20 - 0) % 20 = (q + 1) % 20 by omega]
    exact hE
  | succ k =>
    have hp : ((q + 1) % 20 + 20 - (k + 1)) % 20 = (q + 20 - k) % 20 := by omega
    rw [hp]
    obtain ⟨f1, f2, f3, f4, f5⟩ := f ((q + 20 - k) % 20) (by omega) (by omega)
    exact jE_fr (h k (by omega)) f1 f2 f3 f4 f5
theorem jN_pop {I I' : Nat → Nat → Int32} {S : Nat → St} {un q : Nat} (hq : q < 20) (hu : un + 1 ≤ 20) (h : ∀ k, k < un + 1 → jE I ((q + 20 - k) % 20) (S k) (S (k + 1))) (e1 : I' 143 4 = iZ (((q + 19) % 20 : Nat) : Int)) (e2 : I' 143 5 = iZ (un : Int)) (f : ∀ r k, 144 ≤ r → r ≤ 187 → I' r k = I r k) : jN I' (fun k => S (k + 1)) un := by
  refine ⟨(q + 19) % 20, by omega, e1, e2, by omega, fun k hk => ?_⟩
  have hp : ((q + 19) % 20 + 20 - k) % 20 = (q + 20 - (k + 1)) % 20 := by omega
  rw [hp]
  have hm := Nat.mod_lt (q + 20 - (k + 1)) (show 0 < 20 by decide)
  exact jE_fr (h (k + 1) (by omega)) (f _ _ (by decide) (by decide)) (f _ _ (by decide) (by decide)) (f _ _ (by decide) (by decide)) (f _ _ (by omega) (by omega)) (fun j _ => f _ _ (by omega) (by omega))
set_option maxRecDepth 20000 in
theorem r147T : ∀ n, n < 20 → (layR.getD 97 []).getD n 0 = 148 + 2 * n := by decide +kernel
theorem rowJ {q : Nat} (h : q < 20) : isRow (148 + 2 * q) ∧ rowCap (148 + 2 * q) = 40 := by
  have : rowCap (148 + 2 * q) = 40 := by
    unfold rowCap
    rw [if_neg (by omega), if_neg (by omega), if_pos (by omega)]
  exact ⟨by unfold isRow; rw [this]; decide, this⟩
section gJn
variable {X : Nat × (Nat → Int32)} {v : Vt} {J : Nat → Nat → Int64} {S : Nat → St} {un : Nat}
theorem g147 (I : Nat → Nat → Int32) (J : Nat → Nat → Int64) {n : Nat} (h : n < 20) : gaR (mkS X I J v) 147 6 (iZ (n : Int)) = some (148 + 2 * n) := by
  rw [a147 _ _ _ _ _ h, Rv_o (by decide) (by decide) (by decide) (by decide), cR 147 n (by decide) (by decide) (by show n < 20; exact h)]
  exact congrArg some (r147T n h)
/-- an entry is made -/
theorem c_openRule {I : Nat → Nat → Int32} {q : Nat} {x1 x2 x3 : Int32} (hq : q < 20) (h4 : I 143 4 = iZ (q : Int)) (h5 : I 143 5 = iZ (un : Int)) (hu : un ≤ 20) : ∃ I', fX4_openRule 143 x1 x2 x3 (mkS X I J v) = some ((), mkS X I' J v) ∧ (∀ r k, ¬ (143 ≤ r ∧ r ≤ 187) → I' r k = I r k) ∧ I' 143 4 = iZ (((q + 1) % 20 : Nat) : Int) ∧ I' 143 5 = iZ ((min 20 (un + 1) : Nat) : Int) ∧ I' 144 ((q + 1) % 20) = x1 ∧ I' 145 ((q + 1) % 20) = x2 ∧ I' 146 ((q + 1) % 20) = x3 ∧ I' (148 + 2 * ((q + 1) % 20)) 1 = 0 ∧ ∀ p, p < 20 → p ≠ (q + 1) % 20 → I' 144 p = I 144 p ∧ I' 145 p = I 145 p ∧ I' 146 p = I 146 p ∧ I' (148 + 2 * p) 1 = I (148 + 2 * p) 1 ∧ ∀ j, j < 40 → I' (148 + 2 * p + 1) j = I (148 + 2 * p + 1) j := by
  obtain ⟨t, ht⟩ : ∃ t, t = (q + 1) % 20 := ⟨_, rfl⟩
  have ht20 : t < 20 := by omega
  have e1 : gIrem (iZ (q : Int) + 1) 20 = iZ (t : Int) := by
    rw [aL, show (20 : Int32) = iZ 20 from rfl, iZ_rem (by omega) (by omega) (by omega) (by omega), tmod_nn (by omega)]
    congr 1; omega
  have e2 : gmin 20 (iZ (un : Int) + 1) = iZ ((min 20 (un + 1) : Nat) : Int) := by
    rw [aL, show (20 : Int32) = iZ 20 from rfl, gmin_Z (by omega) (by omega) (by omega) (by omega)]
    congr 1; omega
  unfold fX4_openRule
  simp only [bO, o143, o143R, h4, e1]
  rw [gup_k (show (5 : Nat) ≠ 4 by decide), h5, e2, gup_k (show (4 : Nat) ≠ 5 by decide), gup_s, b144 _ _ _ _ t _ ht20]
  simp only [bO, o143, o143R]
  rw [gup_r (show (143 : Nat) ≠ 144 by decide), gup_k (show (4 : Nat) ≠ 5 by decide), gup_s, b145 _ _ _ _ t _ ht20]
  simp only [bO, o143, o143R]
  rw [gup_r (show (143 : Nat) ≠ 145 by decide), gup_r (show (143 : Nat) ≠ 144 by decide), gup_k (show (4 : Nat) ≠ 5 by decide), gup_s, b146 _ _ _ _ t _ ht20]
  simp only [bO, o143, o143R]
  rw [gup_r (show (143 : Nat) ≠ 146 by decide), gup_r (show (143 : Nat) ≠ 145 by decide), gup_r (show (143 : Nat) ≠ 144 by decide), gup_k (show (4 : Nat) ≠ 5 by decide), gup_s, g147 _ _ ht20]
  simp only [bO, row_c (rowJ ht20).1, row_clear (rowJ ht20).1, gb2_some, gnar_2]
  rw [← ht]
  refine ⟨_, rfl, fun r k x => ?_, ?_, ?_, ?_, ?_, ?_, gup_s, fun p hp hpt => ⟨?_, ?_, ?_, ?_, fun j _ => ?_⟩⟩
  · rw [gup_r (by omega), gup_r (by omega), gup_r (by omega), gup_r (by omega), gup_r (by omega), gup_r (by omega)]
  · rw [gup_r (by omega), gup_r (by decide), gup_r (by decide), gup_r (by decide), gup_k (by decide), gup_s]
  · rw [gup_r (by omega), gup_r (by decide), gup_r (by decide), gup_r (by decide), gup_s]
  · rw [gup_r (by omega), gup_r (by decide), gup_r (by decide), gup_s]
  · rw [gup_r (by omega), gup_r (by decide), gup_s]
  · rw [gup_r (by omega), gup_s]
  · rw [gup_r (by omega), gup_r (by decide), gup_r (by decide), gup_k hpt, gup_r (by decide), gup_r (by decide)]
  · rw [gup_r (by omega), gup_r (by decide), gup_k hpt, gup_r (by decide), gup_r (by decide), gup_r (by decide)]
  · rw [gup_r (by omega), gup_k hpt, gup_r (by decide), gup_r (by decide), gup_r (by decide), gup_r (by decide)]
  · rw [gup_r (by omega), gup_r (by omega), gup_r (by omega), gup_r (by omega), gup_r (by omega), gup_r (by omega)]
  · rw [gup_r (by omega), gup_r (by omega), gup_r (by omega), gup_r (by omega), gup_r (by omega), gup_r (by omega)]
theorem c_drop {I : Nat → Nat → Int32} {q : Nat} (hq : q < 20) (h4 : I 143 4 = iZ (q : Int)) (h5 : I 143 5 = iZ ((un + 1 : Nat) : Int)) (hu : un + 1 ≤ 20) : fX4_drop 143 (mkS X I J v) = some ((), mkS X (gup (gup I 143 4 (iZ (((q + 19) % 20 : Nat) : Int))) 143 5 (iZ (un : Int))) J v) := by
  have e1 : gIrem (iZ (q : Int) + 20 - 1) 20 = iZ (((q + 19) % 20 : Nat) : Int) := by
    rw [aL, sL, show (20 : Int32) = iZ 20 from rfl, iZ_rem (by omega) (by omega) (by omega) (by omega), tmod_nn (by omega)]
    congr 1; omega
  have e2 : gmax 0 (iZ ((un + 1 : Nat) : Int) - 1) = iZ (un : Int) := by
    rw [sL, show (0 : Int32) = iZ 0 from rfl, gmax_Z (by omega) (by omega) (by omega) (by omega)]
    congr 1; omega
  unfold fX4_drop
  simp only [bO, o143, h4, e1]
  rw [gup_k (show (5 : Nat) ≠ 4 by decide), h5, e2]
end gJn
