/-! WHAT A BOOK IS, in numbers, and the days of all that it names -/
def Bk : Type := Nat × Nat × (Nat → RuL) × (Nat → Nat) × (Nat → List Nat) × (Nat → List (Nat × Nat))
def Bk.nR (B : Bk) : Nat := B.1
def Bk.nS (B : Bk) : Nat := B.2.1
def Bk.rl (B : Bk) : Nat → RuL := B.2.2.1
def Bk.stp (B : Bk) : Nat → Nat := B.2.2.2.1
def Bk.nm (B : Bk) : Nat → List Nat := B.2.2.2.2.1
def Bk.cs (B : Bk) : Nat → List (Nat × Nat) := B.2.2.2.2.2
def kn (nR s w : Nat) : Prop := w < nR ∨ (6 ≤ w ∧ w < 6 + s)
def cE (cs : Nat → List (Nat × Nat)) : Nat → Nat
  | 0 => 0
  | s + 1 => cE cs s + (trL (cs s)).length
def mE (cs : Nat → List (Nat × Nat)) : Nat → Nat
  | 0 => 0
  | s + 1 => mE cs s + (cs s).length
theorem cE_mono {cs : Nat → List (Nat × Nat)} {s t : Nat} (h : s ≤ t) : cE cs s ≤ cE cs t := by
  obtain ⟨m, rfl⟩ : ∃ m, t = s + m := ⟨t - s, by omega⟩
  clear h
  induction m with
  | zero => exact Nat.le_refl _
  | succ m ih => exact Nat.le_trans ih (Nat.le_add_right _ _)
theorem mE_mono {cs : Nat → List (Nat × Nat)} {s t : Nat} (h : s ≤ t) : mE cs s ≤ mE cs t := by
  obtain ⟨m, rfl⟩ : ∃ m, t = s + m := ⟨t - s, by omega⟩
  clear h
  induction m with
  | zero => exact Nat.le_refl _
  | succ m ih => exact Nat.le_trans ih (Nat.le_add_right _ _)
def nm5 (l : List Nat) : Nat := ((((l.getD 0 0 * 32 + l.getD 1 0) * 32 + l.getD 2 0) * 32 + l.getD 3 0) * 32 + l.getD 4 0) * 32 + l.getD 5 0
def nm27 (l : List Nat) : Nat := l.foldl (fun v x => 27 * v + x) 0
def nmOK (l : List Nat) : Prop := 1 ≤ l.length ∧ l.length ≤ 6 ∧ ∀ x, x ∈ l → 1 ≤ x ∧ x ≤ 26
def BkOK (B : Bk) : Prop := B.nR ≤ 6 ∧ B.nS ≤ 6 ∧ (∀ r, r < B.nR → RuLok (B.rl r) ∧ 1 ≤ B.stp r ∧ B.stp r ≤ 99) ∧ (∀ s, s < B.nS → mokR (kn B.nR s) (B.cs s) 0) ∧ cE B.cs B.nS ≤ 800 ∧ mE B.cs B.nS ≤ 1500 ∧ (∀ w, kn B.nR B.nS w → nmOK (B.nm w))
/-- the object of a book holds it -/
def cBk (I : Nat → Nat → Int32) (b : Nat) (B : Bk) : Prop := I b 0 = iZ (B.nR : Int) ∧ I b 1 = iZ (B.nS : Int) ∧ (∀ r, r < B.nR → cRl I (b + 5 + 5 * r) (B.rl r) ∧ I (b + 5 + 5 * r) 0 = iZ (B.stp r : Int)) ∧ (∀ s, s < B.nS → cseg I b (cE B.cs s) (trL (B.cs s)) ∧ I (b + 4) s = iZ (cE B.cs (s + 1) : Nat)) ∧ (∀ w, kn B.nR B.nS w → I (b + 2) w = iZ (nm5 (B.nm w) : Nat))
/-- the reference holds it -/
def mBk (I : Nat → Nat → Int32) (B : Bk) : Prop := I 276 0 = iZ (B.nR : Int) ∧ I 276 1 = iZ (B.nS : Int) ∧ (∀ r, r < B.nR → mRl I r (B.rl r) ∧ I 281 (2 * r) = iZ (B.stp r : Int) ∧ I 276 (2 + 42 * r) = iZ (nm27 (B.nm r) : Nat)) ∧ (∀ s, s < B.nS → mseg I (mE B.cs s) (B.cs s) ∧ I 276 (254 + 3 * s + 1) = iZ (mE B.cs s : Nat) ∧ I 276 (254 + 3 * s + 2) = iZ (mE B.cs (s + 1) : Nat) ∧ I 276 (254 + 3 * s) = iZ (nm27 (B.nm (6 + s)) : Nat)) ∧ ((I 267 23 = 1 ∧ I 267 17 = 1 ∧ calOK I) ∨ (I 267 23 = 0 ∧ B.nR = 0 ∧ B.nS = 0))
/-- the days of rules and of sets, up to a set -/
def dyT (B : Bk) (A L : Nat → Nat → Bool) : Nat → Nat → Nat → Bool
  | 0 => fun w d => decide (w < 6) && rDay (B.rl w) (B.stp w) d
  | s + 1 => fun w d => if w = 6 + s then setD (dyT B A L s) (B.cs s) (A s) (L s) d else dyT B A L s w d
def dy (B : Bk) (A L : Nat → Nat → Bool) : Nat → Nat → Bool := dyT B A L 6
theorem dyT_st {B : Bk} {A L : Nat → Nat → Bool} {s w : Nat} (hw : w < 6 + s) : ∀ m, dyT B A L (s + m) w = dyT B A L s w := by
  intro m
  induction m with
  | zero => rfl
  | succ m ih =>
    rw [← ih]
    funext d
    show (if w = 6 + (s + m) then _ else _) = _
    rw [if_neg (by omega)]
    rfl
theorem dy_lo {B : Bk} {A L : Nat → Nat → Bool} {s w : Nat} (hs : s ≤ 6) (hw : w < 6 + s) : dy B A L w = dyT B A L s w := by
  have := dyT_st (B := B) (A := A) (L := L) hw (6 - s)
  rw [show s + (6 - s) = 6 by omega] at this
  exact this
theorem dy_set {B : Bk} {A L : Nat → Nat → Bool} {s : Nat} (hs : s < 6) : dy B A L (6 + s) = setD (dyT B A L s) (B.cs s) (A s) (L s) := by
  rw [dy_lo (s := s + 1) (by omega) (by omega)]
  funext d
  show (if 6 + s = 6 + s then _ else _) = _
  rw [if_pos rfl]
theorem dy_rule {B : Bk} {A L : Nat → Nat → Bool} {w : Nat} (hw : w < 6) : dy B A L w = rDay (B.rl w) (B.stp w) := by
  rw [dy_lo (s := 0) (by omega) (by omega)]
  funext d
  show (decide (w < 6) && _) = _
  rw [decide_eq_true hw]; rfl
/-- the ledger: what it knows -/
def cLg (I : Nat → Nat → Int32) (J : Nat → Nat → Int64) (B : Bk) (A L : Nat → Nat → Bool) : Prop := (∃ sk : Nat, I 60 7 = iZ (sk : Int) ∧ sk ≤ B.nS ∧ ∀ w, kn B.nR sk w → dsP J (65 + 2 * w) (dy B A L w)) ∧ ∀ s, s < 6 → crow I (119 + 4 * s) (A s) ∧ crow I (121 + 4 * s) (L s)
/-- the reference: what it has laid -/
def mLg (I : Nat → Nat → Int32) (B : Bk) (A L : Nat → Nat → Bool) : Prop := (∀ w, kn B.nR B.nS w → I 283 w = 0 ∨ (I 283 w = 1 ∧ daysR I (14610 * w) (dy B A L w))) ∧ ∀ s, s < 6 → mrow I (12 + 42 * s) (A s) ∧ mrow I (12 + 42 * s + 21) (L s)
theorem crow_fr {I I' : Nat → Nat → Int32} {r : Nat} {P : Nat → Bool} (h : crow I r P) (e1 : ∀ k, I' r k = I r k) (e2 : ∀ k, I' (r + 1) k = I (r + 1) k) : crow I' r P := by
  unfold crow at h ⊢
  rw [e1, show I' (r + 1) = I (r + 1) from funext e2]
  exact h
theorem cBk_fr {I I' : Nat → Nat → Int32} {b : Nat} {B : Bk} (h : cBk I b B) (hR : B.nR ≤ 6) (f : ∀ r k, b ≤ r → r ≤ b + 34 → I' r k = I r k) : cBk I' b B := by
  obtain ⟨h1, h2, h3, h4, h5⟩ := h
  refine ⟨by rw [f b 0 (by omega) (by omega)]; exact h1, by rw [f b 1 (by omega) (by omega)]; exact h2, ?_, ?_, ?_⟩
  · intro r hr
    obtain ⟨a, c⟩ := h3 r hr
    exact ⟨cRl_fr a (fun r' k x y => f r' k (by omega) (by omega)), by rw [f _ 0 (by omega) (by omega)]; exact c⟩
  · intro s hs
    obtain ⟨a, c⟩ := h4 s hs
    exact ⟨cseg_fr (fun k => f _ k (by omega) (by omega)) a, by rw [f _ s (by omega) (by omega)]; exact c⟩
  · intro w hw
    rw [f _ w (by omega) (by omega)]; exact h5 w hw
theorem cLg_fr {I I' : Nat → Nat → Int32} {J J' : Nat → Nat → Int64} {B : Bk} {A L : Nat → Nat → Bool} (h : cLg I J B A L) (hR : B.nR ≤ 6) (hS : B.nS ≤ 6) (f1 : I' 60 7 = I 60 7) (f2 : ∀ r k, 119 ≤ r → r ≤ 142 → I' r k = I r k) (f3 : ∀ a, 66 ≤ a → a ≤ 88 → J' a = J a) : cLg I' J' B A L := by
  obtain ⟨⟨sk, h1, h2, h3⟩, h4⟩ := h
  refine ⟨⟨sk, by rw [f1]; exact h1, h2, fun w hw => dsP_o (h3 w hw) (f3 _ (by omega) (by unfold kn at hw; omega))⟩, fun s hs => ?_⟩
  obtain ⟨a, b⟩ := h4 s hs
  exact ⟨crow_fr a (fun k => f2 _ k (by omega) (by omega)) (fun k => f2 _ k (by omega) (by omega)), crow_fr b (fun k => f2 _ k (by omega) (by omega)) (fun k => f2 _ k (by omega) (by omega))⟩
section gDy
variable {X : Nat × (Nat → Int32)} {v : Vt} {B : Bk} {A L : Nat → Nat → Bool} {b : Nat}
/-- what the asking for days may change -/
def frC (I I' : Nat → Nat → Int32) (J J' : Nat → Nat → Int64) : Prop := (∀ r k, (r ≠ 60 ∨ (k ≠ 6 ∧ k ≠ 7)) → I' r k = I r k) ∧ ∀ a, (a < 66 ∨ 118 < a) → J' a = J a
theorem frC_r (I : Nat → Nat → Int32) (J : Nat → Nat → Int64) : frC I I J J := ⟨fun _ _ _ => rfl, fun _ _ => rfl⟩
theorem frC_t {I I' I'' : Nat → Nat → Int32} {J J' J'' : Nat → Nat → Int64} (h1 : frC I I' J J') (h2 : frC I' I'' J' J'') : frC I I'' J J'' := ⟨fun r k q => (h2.1 r k q).trans (h1.1 r k q), fun a q => (h2.2 a q).trans (h1.2 a q)⟩
theorem c_daysL {w : Nat} (hb : isBk b) (hv : v.2.2.1 = b) (ok : BkOK B) (hw : kn B.nR B.nS w) : ∀ (m i fuel : Nat) (I : Nat → Nat → Int32) (J : Nat → Nat → Int64) (sk : Nat), i + m = 6 → m < fuel → i ≤ sk → cBk I b B → cLg I J B A L → I 60 7 = iZ (sk : Int) → sk ≤ B.nS → ∃ I' J', gX5_daysOf_L31 60 (iZ (w : Int)) fuel (iZ (i : Int)) (mkS X I J v) = some (65 + 2 * w, mkS X I' J' v) ∧ frC I I' J J' ∧ cLg I' J' B A L ∧ dsP J' (65 + 2 * w) (dy B A L w) := by
  obtain ⟨k1, k2, k3, k4, k5, k6, k7⟩ := ok
  have hb60 := bk_r hb
  have hw12 : w < 12 := by unfold kn at hw; omega
  intro m
  induction m with
  | zero =>
    intro i fuel I J sk hi hf hisk hB hL h7 hsk
    obtain ⟨f, rfl⟩ : ∃ n, fuel = n + 1 := ⟨fuel - 1, by omega⟩
    refine ⟨I, J, ?_, frC_r I J, hL, ?_⟩
    · unfold gX5_daysOf_L31
      rw [if_neg (by rw [cL_lt (by omega) (by omega) (by decide)]; omega)]
      simp only [bO, o60R, g61 I J hw12]
    · obtain ⟨⟨sk2, a1, a2, a3⟩, -⟩ := hL
      rw [h7, iZ_eq (by omega) (by omega) (by omega) (by omega)] at a1
      refine a3 w ?_
      unfold kn at hw ⊢; omega
  | succ m ih =>
    intro i fuel I J sk hi hf hisk hB hL h7 hsk
    obtain ⟨f, rfl⟩ : ∃ n, fuel = n + 1 := ⟨fuel - 1, by omega⟩
    unfold gX5_daysOf_L31
    rw [if_pos (by rw [cL_lt (by omega) (by omega) (by decide)]; omega)]
    simp only [bO, o60, o60R, h7, sL]
    have hL0 := hL
    obtain ⟨⟨sk2, a1, a2, a3⟩, a4⟩ := hL
    rw [h7, iZ_eq (by omega) (by omega) (by omega) (by omega)] at a1
    have esk : sk2 = sk := by omega
    subst esk
    by_cases c : (w : Int) - 6 < sk2
    · rw [if_pos (by rw [iZ_lt (by omega) (by omega) (by omega) (by omega)]; exact c), g61 I J hw12]
      refine ⟨I, J, rfl, frC_r I J, hL0, a3 w ?_⟩
      unfold kn at hw ⊢; omega
    · rw [if_neg (by rw [iZ_lt (by omega) (by omega) (by omega) (by omega)]; exact c)]
      have hs : sk2 < B.nS := by unfold kn at hw; omega
      obtain ⟨c1, c2, c3, c4, c5⟩ := hB
      obtain ⟨q1, q2⟩ := c4 sk2 hs
      have hle := cE_mono (cs := B.cs) (show sk2 + 1 ≤ B.nS from hs)
      obtain ⟨I1, J1, p1, p2, p3, p4⟩ := c_putTogether (X := X) (v := v) (I := I) (J := J) (K := dyT B A L sk2) (kn := kn B.nR sk2) (b := b) (t := sk2) (k := cE B.cs sk2) (L := B.cs sk2) (A := A sk2) (B := L sk2) hb hv (by omega) (fun w' hw' => by unfold kn at hw'; omega) (by show cE B.cs (sk2 + 1) ≤ 800; omega) q1 (by
        by_cases z : sk2 = 0
        · left; exact ⟨by rw [z]; rfl, z⟩
        · right
          refine ⟨by omega, ?_⟩
          have := (c4 (sk2 - 1) (by omega)).2
          rw [show sk2 - 1 + 1 = sk2 by omega] at this
          exact this) q2 (k4 sk2 hs) (fun w' hw' => by
          have := a3 w' hw'
          rw [dy_lo (s := sk2) (by omega) (by unfold kn at hw'; omega)] at this
          exact this) (a4 sk2 (by omega)).1 (a4 sk2 (by omega)).2
      rw [p1, gb2_some]
      simp only [bO, o60]
      rw [p2 60 7 (Or.inr (by decide)), h7, aL, aL, show (sk2 : Int) + 1 = ((sk2 + 1 : Nat) : Int) by omega, show (i : Int) + 1 = ((i + 1 : Nat) : Int) by omega]
      have fr1 : frC I (gup I1 60 7 (iZ ((sk2 + 1 : Nat) : Int))) J J1 := ⟨fun r k q => by
        have e : gup I1 60 7 (iZ ((sk2 + 1 : Nat) : Int)) r k = I1 r k := by
          by_cases z : r = 60
          · exact gup_k (by omega)
          · exact gup_r z
        rw [e]
        exact p2 r k (by omega), fun a q => p3 a (fun i hi => by omega) (by omega)⟩
      have hB1 : cBk (gup I1 60 7 (iZ ((sk2 + 1 : Nat) : Int))) b B := cBk_fr (I := I) ⟨c1, c2, c3, c4, c5⟩ k1 (fun r k x y => fr1.1 r k (Or.inl (by omega)))
      have hL1 : cLg (gup I1 60 7 (iZ ((sk2 + 1 : Nat) : Int))) J1 B A L := by
        refine ⟨⟨sk2 + 1, gup_s, hs, fun w' hw' => ?_⟩, fun s hs' => ?_⟩
        · by_cases z : w' = 6 + sk2
          · rw [z, dy_set (by omega)]; exact p4
          · have hk : kn B.nR sk2 w' := by unfold kn at hw' ⊢; omega
            exact dsP_o (a3 w' hk) (p3 _ (fun i hi => by unfold kn at hk; omega) (by omega))
        · obtain ⟨x, y⟩ := a4 s hs'
          exact ⟨crow_fr x (fun k => fr1.1 _ k (Or.inl (by omega))) (fun k => fr1.1 _ k (Or.inl (by omega))), crow_fr y (fun k => fr1.1 _ k (Or.inl (by omega))) (fun k => fr1.1 _ k (Or.inl (by omega)))⟩
      obtain ⟨I2, J2, d1, d2, d3, d4⟩ := ih (i + 1) f (gup I1 60 7 (iZ ((sk2 + 1 : Nat) : Int))) J1 (sk2 + 1) (by omega) (by omega) (by omega) hB1 hL1 gup_s hs
      exact ⟨I2, J2, d1, frC_t fr1 d2, d3, d4⟩
theorem c_daysOf {I : Nat → Nat → Int32} {J : Nat → Nat → Int64} {z : Int} (z1 : -2147483648 ≤ z) (z2 : z < 2147483648) (hb : isBk b) (hv : v.2.2.1 = b) (ok : BkOK B) (hB : cBk I b B) (hL : cLg I J B A L) : ∃ I' J', fX5_daysOf 60 (iZ z) (mkS X I J v) = some (if (0 ≤ z ∧ z < B.nR) ∨ (6 ≤ z ∧ z < 6 + B.nS) then 65 + 2 * z.toNat else 0, mkS X I' J' v) ∧ frC I I' J J' ∧ cLg I' J' B A L ∧ ((0 ≤ z ∧ z < B.nR) ∨ (6 ≤ z ∧ z < 6 + B.nS) → dsP J' (65 + 2 * z.toNat) (dy B A L z.toNat)) := by
  have hb0 := bk_r hb
  unfold fX5_daysOf
  simp only [bO, o60R, hv]
  rw [if_neg (by omega), bk_c hb, c_isWhat hb hB.1 hB.2.1 ok.1 ok.2.1 z1 z2]
  simp only [bO, n61, o60R]
  have k1 := ok.1
  have k2 := ok.2.1
  by_cases c : (0 ≤ z ∧ z < (B.nR : Int)) ∨ (6 ≤ z ∧ z < 6 + (B.nS : Int))
  · rw [decide_eq_true c, if_neg (by decide), if_pos c, if_pos (by rw [iZ_lt (by omega) (by omega) (by decide) (by decide)]; omega)]
    obtain ⟨w, rfl⟩ : ∃ n : Nat, z = (n : Int) := ⟨z.toNat, by omega⟩
    obtain ⟨⟨sk, a1, a2, a3⟩, a4⟩ := hL
    obtain ⟨I', J', e1, e2, e3, e4⟩ := c_daysL (X := X) (v := v) (w := w) hb hv ok (by unfold kn; omega) 6 0 20000 I J sk (by decide) (by decide) (Nat.zero_le _) hB ⟨⟨sk, a1, a2, a3⟩, a4⟩ a1 a2
    refine ⟨I', J', e1, e2, e3, fun _ => e4⟩
  · rw [decide_eq_false c, if_pos tf_f, if_neg c]
    exact ⟨I, J, rfl, frC_r I J, hL, fun q => absurd q c⟩
end gDy
