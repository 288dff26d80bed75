/-! TEXTS: what a reader sees -/
def isBb (c : Nat) : Bool := c == 10 || c == 32
def isLb (c : Nat) : Bool := decide (97 ≤ c) && decide (c ≤ 122)
def isDb (c : Nat) : Bool := decide (48 ≤ c) && decide (c ≤ 57)
def rnF (T : Nat → Nat) (n : Nat) (P : Nat → Bool) : Nat → Nat → Nat
  | 0, a => a
  | m + 1, a => if a < n ∧ P (T a) = true then rnF T n P m (a + 1) else a
/-- behind those that are so, from a place on -/
def rn (T : Nat → Nat) (n : Nat) (P : Nat → Bool) (a : Nat) : Nat := rnF T n P (n - a) a
section gTx
variable {T : Nat → Nat} {n : Nat} {P : Nat → Bool}
theorem rn_go {a : Nat} (h : a < n) (hp : P (T a) = true) : rn T n P a = rn T n P (a + 1) := by
  unfold rn
  rw [show n - a = (n - (a + 1)) + 1 by omega]
  show (if a < n ∧ P (T a) = true then rnF T n P (n - (a + 1)) (a + 1) else a) = _
  rw [if_pos ⟨h, hp⟩]
theorem rn_no {a : Nat} (h : ¬ (a < n ∧ P (T a) = true)) : rn T n P a = a := by
  unfold rn
  cases n - a with
  | zero => rfl
  | succ m =>
    show (if a < n ∧ P (T a) = true then rnF T n P m (a + 1) else a) = _
    rw [if_neg h]
theorem rn_ind {Q : Nat → Nat → Prop} (h1 : ∀ a, ¬ (a < n ∧ P (T a) = true) → Q a a) (h2 : ∀ a, a < n → P (T a) = true → Q (a + 1) (rn T n P (a + 1)) → Q a (rn T n P (a + 1))) : ∀ (m a : Nat), n - a ≤ m → Q a (rn T n P a) := by
  intro m
  induction m with
  | zero =>
    intro a ha
    rw [rn_no (by omega)]
    exact h1 a (by omega)
  | succ m ih =>
    intro a ha
    by_cases c : a < n ∧ P (T a) = true
    · rw [rn_go c.1 c.2]
      exact h2 a c.1 c.2 (ih (a + 1) (by omega))
    · rw [rn_no c]
      exact h1 a c
theorem rn_ge (a : Nat) : a ≤ rn T n P a := rn_ind (Q := fun a r => a ≤ r) (fun _ _ => Nat.le_refl _) (fun a _ _ h => by omega) n a (by omega)
theorem rn_le {a : Nat} (h : a ≤ n) : rn T n P a ≤ n := rn_ind (Q := fun a r => a ≤ n → r ≤ n) (fun _ _ h => h) (fun a h _ q _ => q (by omega)) n a (by omega) h
theorem rn_in {a : Nat} : ∀ j, a ≤ j → j < rn T n P a → j < n ∧ P (T j) = true := rn_ind (Q := fun a r => ∀ j, a ≤ j → j < r → j < n ∧ P (T j) = true) (fun a _ j h1 h2 => by omega) (fun a h hp q j h1 h2 => by
  by_cases c : j = a
  · rw [c]; exact ⟨h, hp⟩
  · exact q j (by omega) h2) n a (by omega)
theorem rn_at (a : Nat) : ¬ (rn T n P a < n ∧ P (T (rn T n P a)) = true) := rn_ind (Q := fun a r => ¬ (r < n ∧ P (T r) = true)) (fun a h => h) (fun a _ _ q => q) n a (by omega)
theorem rn_eq {a b : Nat} (hab : a ≤ b) (h1 : ∀ j, a ≤ j → j < b → j < n ∧ P (T j) = true) (h2 : ¬ (b < n ∧ P (T b) = true)) : rn T n P a = b := by
  have g := rn_ge (T := T) (n := n) (P := P) a
  rcases Nat.lt_trichotomy (rn T n P a) b with c | c | c
  · exact absurd (h1 _ g c) (rn_at a)
  · exact c
  · exact absurd (rn_in b hab c) h2
theorem rn_rn (a : Nat) : rn T n P (rn T n P a) = rn T n P a := rn_no (rn_at a)
end gTx
/-- the kind of what stands at a place: the end, a word, a number, a sign; stuck -/
def tkK (T : Nat → Nat) (n a : Nat) (t : Bool) : Nat := if a < n then (if isLb (T a) = true then (if t = true then 4 else 1) else if isDb (T a) = true then (if t = true then 4 else 2) else 3) else 0
def tkE (T : Nat → Nat) (n a : Nat) : Nat := if a < n then (if isLb (T a) = true then rn T n isLb a else if isDb (T a) = true then rn T n isDb a else a + 1) else n
abbrev PS : Type := Except (Nat × Nat) (Nat × Bool)
def pGo (T : Nat → Nat) (n e : Nat) (w : Bool) : PS := .ok (rn T n isBb e, w && rn T n isBb e == e)
def pAdv (T : Nat → Nat) (n : Nat) : PS → PS
  | .error e => .error e
  | .ok (a, t) => pGo T n (tkE T n a) (tkK T n a t == 1 || tkK T n a t == 2)
def pFail (f p : Nat) : PS → PS
  | .error e => .error e
  | .ok _ => .error (f, p)
/-- where it stands -/
def pAt : PS → Nat
  | .error _ => 0
  | .ok s => s.1
def pOk : PS → Bool
  | .error _ => false
  | .ok _ => true
theorem tkE_gt {T : Nat → Nat} {n a : Nat} (h : a < n) : a < tkE T n a := by
  unfold tkE
  rw [if_pos h]
  by_cases c : isLb (T a) = true
  · rw [if_pos c, rn_go h c]
    have := rn_ge (T := T) (n := n) (P := isLb) (a + 1)
    omega
  · rw [if_neg c]
    by_cases c2 : isDb (T a) = true
    · rw [if_pos c2, rn_go h c2]
      have := rn_ge (T := T) (n := n) (P := isDb) (a + 1)
      omega
    · rw [if_neg c2]; omega
theorem tkE_le {T : Nat → Nat} {n a : Nat} (h : a ≤ n) : tkE T n a ≤ n := by
  unfold tkE
  by_cases c : a < n
  · rw [if_pos c]
    split
    · exact rn_le h
    · split
      · exact rn_le h
      · omega
  · rw [if_neg c]; omega
theorem LD {c : Nat} (h : isLb c = true) : isDb c = false := by
  unfold isLb at h
  unfold isDb
  rw [Bool.and_eq_true, decide_eq_true_eq, decide_eq_true_eq] at h
  rw [decide_eq_false (show ¬ c ≤ 57 by omega), Bool.and_false]
theorem tkK_lt (T : Nat → Nat) (n a : Nat) (t : Bool) : tkK T n a t ≤ 4 := by
  unfold tkK
  repeat' split
  all_goals omega
/-! the bytes: signed ones here, others there -/
def sby (c : Nat) : Int := (c : Int).bmod 256
theorem sby_lo {c : Nat} (h : c < 128) : sby c = c := by unfold sby; rw [Int.bmod_def]; omega
theorem sby_hi {c : Nat} (h : 128 ≤ c) (h2 : c < 256) : sby c = (c : Int) - 256 := by
  unfold sby
  rw [Int.bmod_def]; omega
theorem sby_r {c : Nat} (h : c < 256) : -128 ≤ sby c ∧ sby c ≤ 127 := by
  by_cases q : c < 128
  · rw [sby_lo q]; omega
  · rw [sby_hi (by omega) h]; omega
def cT (I : Nat → Nat → Int32) (T : Nat → Nat) (n : Nat) : Prop := n ≤ 1600 ∧ ∀ k, k < n → T k < 256 ∧ I 52 k = iZ (sby (T k))
def mT (I : Nat → Nat → Int32) (T : Nat → Nat) (n : Nat) : Prop := n ≤ 1600 ∧ ∀ k, k < n → T k < 256 ∧ I 268 k = iZ (T k : Int)
theorem sby_eq {c m : Nat} (h : c < 256) (hm : m < 128) : iZ (sby c) = iZ (m : Int) ↔ c = m := by
  have := sby_r h
  rw [iZ_eq (by omega) (by omega) (by omega) (by omega)]
  by_cases q : c < 128
  · rw [sby_lo q]; omega
  · rw [sby_hi (by omega) h]; omega
theorem sby_L {c : Nat} (h : c < 256) : (¬ iZ (sby c) < 97 ∧ ¬ 122 < iZ (sby c)) ↔ isLb c = true := by
  have := sby_r h
  rw [cL_lt (by omega) (by omega) (by decide), cR_lt (by omega) (by omega) (by decide)]
  unfold isLb
  rw [Bool.and_eq_true, decide_eq_true_eq, decide_eq_true_eq]
  by_cases q : c < 128
  · rw [sby_lo q]; omega
  · rw [sby_hi (by omega) h]; omega
theorem sby_D {c : Nat} (h : c < 256) : (¬ iZ (sby c) < 48 ∧ ¬ 57 < iZ (sby c)) ↔ isDb c = true := by
  have := sby_r h
  rw [cL_lt (by omega) (by omega) (by decide), cR_lt (by omega) (by omega) (by decide)]
  unfold isDb
  rw [Bool.and_eq_true, decide_eq_true_eq, decide_eq_true_eq]
  by_cases q : c < 128
  · rw [sby_lo q]; omega
  · rw [sby_hi (by omega) h]; omega
theorem sby_B {c : Nat} (h : c < 256) : (iZ (sby c) = 32 ∨ iZ (sby c) = 10) ↔ isBb c = true := by
  rw [show (32 : Int32) = iZ ((32 : Nat) : Int) from rfl, show (10 : Int32) = iZ ((10 : Nat) : Int) from rfl, sby_eq h (by decide), sby_eq h (by decide)]
  unfold isBb
  rw [Bool.or_eq_true, beq_iff_eq, beq_iff_eq]; omega
/-! THE READER goes on -/
section gRd
variable {X : Nat × (Nat → Int32)} {J : Nat → Nat → Int64} {v : Vt} {T : Nat → Nat} {n : Nat}
/-- only the reader's own numbers change -/
def frK (I I' : Nat → Nat → Int32) : Prop := (∀ r k, r ≠ 53 → I' r k = I r k) ∧ I' 53 3 = I 53 3
theorem frK_r (I : Nat → Nat → Int32) : frK I I := ⟨fun _ _ _ => rfl, rfl⟩
theorem frK_t {I I' I'' : Nat → Nat → Int32} (h1 : frK I I') (h2 : frK I' I'') : frK I I'' := ⟨fun r k a => (h2.1 r k a).trans (h1.1 r k a), h2.2.trans h1.2⟩
theorem frK_g {I : Nat → Nat → Int32} {k : Nat} {x : Int32} (h : k ≠ 3) : frK I (gup I 53 k x) := ⟨fun r j a => gup_r a, gup_k (Ne.symm h)⟩
theorem cT_K {I I' : Nat → Nat → Int32} (h : cT I T n) (f : frK I I') : cT I' T n := ⟨h.1, fun k hk => by rw [f.1 52 k (by decide)]; exact h.2 k hk⟩
theorem c_tx {I : Nat → Nat → Int32} {k : Nat} (h : cT I T n) (hv : v.2.2.2.2.1 = 52) (hk : k < n) : gaI (mkS X I J v) v.2.2.2.2.1 0 (iZ (k : Int)) = some (iZ (sby (T k))) := by
  have := h.1
  rw [hv, a52 _ _ _ _ _ (by omega), (h.2 k hk).2]
theorem c_adv40 {K : gH → Option (Unit × gH)} {x1 x2 : Int32} (hv : v.2.2.2.2.1 = 52) : ∀ (m a fuel : Nat) (I : Nat → Nat → Int32), n - a ≤ m → m < fuel → cT I T n → I 53 3 = iZ (n : Int) → I 53 5 = iZ (a : Int) → a ≤ n → gX6_advance_L40 K 53 x1 x2 fuel (mkS X I J v) = K (mkS X (gup I 53 5 (iZ (rn T n isBb a : Nat))) J v) := by
  intro m
  induction m with
  | zero =>
    intro a fuel I hm hf hT h3 h5 ha
    obtain ⟨f, rfl⟩ : ∃ n, fuel = n + 1 := ⟨fuel - 1, by omega⟩
    have hn := hT.1
    rw [rn_no (by omega), gup_id h5]
    unfold gX6_advance_L40
    simp only [bO, o53, h3, h5]
    rw [if_neg (by rw [iZ_lt (by omega) (by omega) (by omega) (by omega)]; omega)]
  | succ m ih =>
    intro a fuel I hm hf hT h3 h5 ha
    obtain ⟨f, rfl⟩ : ∃ n, fuel = n + 1 := ⟨fuel - 1, by omega⟩
    have hn := hT.1
    unfold gX6_advance_L40
    simp only [bO, o53, o53R, h3, h5]
    by_cases c : a < n
    · rw [if_pos (by rw [iZ_lt (by omega) (by omega) (by omega) (by omega)]; omega), c_tx hT hv c]
      simp only [bO, o53, o53R, h5]
      have hB := sby_B (hT.2 a c).1
      have go : isBb (T a) = true → ((spI (mkS X I J v) 53 6 5 (iZ (a : Int) + 1)).bind fun s19 => gX6_advance_L40 K 53 x1 x2 f s19) = K (mkS X (gup I 53 5 (iZ (rn T n isBb a : Nat))) J v) := by
        intro hb
        simp only [bO, o53]
        rw [show iZ (a : Int) + 1 = iZ ((a + 1 : Nat) : Int) from by rw [aL]; rfl]
        rw [ih (a + 1) f (gup I 53 5 (iZ ((a + 1 : Nat) : Int))) (by omega) (by omega) (cT_K hT (frK_g (by decide))) (by rw [gup_k (by decide)]; exact h3) gup_s (by omega), gup_gup, ← rn_go c hb]
      simp only [bO, o53] at go
      by_cases c1 : iZ (sby (T a)) = 32
      · rw [if_pos c1]
        exact go (hB.mp (Or.inl c1))
      · rw [if_neg c1]
        by_cases c2 : iZ (sby (T a)) = 10
        · rw [if_pos c2]
          exact go (hB.mp (Or.inr c2))
        · rw [if_neg c2, rn_no (fun q => (hB.mpr q.2).elim c1 c2), gup_id h5]
    · rw [if_neg (by rw [iZ_lt (by omega) (by omega) (by omega) (by omega)]; omega), rn_no (by omega), gup_id h5]
theorem c_adv100 {K : gH → Option (Unit × gH)} {x1 x2 : Int32} (hv : v.2.2.2.2.1 = 52) : ∀ (m a fuel : Nat) (I : Nat → Nat → Int32), n - a ≤ m → m < fuel → cT I T n → I 53 3 = iZ (n : Int) → I 53 6 = iZ (a : Int) → a ≤ n → gX6_advance_L100 K 53 x1 x2 fuel (mkS X I J v) = K (mkS X (gup I 53 6 (iZ (rn T n isLb a : Nat))) J v) := by
  intro m
  induction m with
  | zero =>
    intro a fuel I hm hf hT h3 h5 ha
    obtain ⟨f, rfl⟩ : ∃ n, fuel = n + 1 := ⟨fuel - 1, by omega⟩
    have hn := hT.1
    rw [rn_no (by omega), gup_id h5]
    unfold gX6_advance_L100
    simp only [bO, o53, h3, h5]
    rw [if_neg (by rw [iZ_lt (by omega) (by omega) (by omega) (by omega)]; omega)]
  | succ m ih =>
    intro a fuel I hm hf hT h3 h5 ha
    obtain ⟨f, rfl⟩ : ∃ n, fuel = n + 1 := ⟨fuel - 1, by omega⟩
    have hn := hT.1
    unfold gX6_advance_L100
    simp only [bO, o53, o53R, h3, h5]
    by_cases c : a < n
    · rw [if_pos (by rw [iZ_lt (by omega) (by omega) (by omega) (by omega)]; omega), c_tx hT hv c]
      simp only [bO, o53, o53R, h5]
      have hB := sby_L (hT.2 a c).1
      rw [show iZ (a : Int) + 1 = iZ ((a + 1 : Nat) : Int) from by rw [aL]; rfl]
      by_cases c1 : iZ (sby (T a)) < 97
      · rw [if_pos c1, rn_no (fun q => (hB.mpr q.2).1 c1), gup_id h5]
      · rw [if_neg c1]
        by_cases c2 : 122 < iZ (sby (T a))
        · rw [if_pos c2, rn_no (fun q => (hB.mpr q.2).2 c2), gup_id h5]
        · rw [if_neg c2, ih (a + 1) f (gup I 53 6 (iZ ((a + 1 : Nat) : Int))) (by omega) (by omega) (cT_K hT (frK_g (by decide))) (by rw [gup_k (by decide)]; exact h3) gup_s (by omega), gup_gup, ← rn_go c (hB.mp ⟨c1, c2⟩)]
    · rw [if_neg (by rw [iZ_lt (by omega) (by omega) (by omega) (by omega)]; omega), rn_no (by omega), gup_id h5]
theorem c_adv173 {K : gH → Option (Unit × gH)} {x1 x2 : Int32} (hv : v.2.2.2.2.1 = 52) : ∀ (m a fuel : Nat) (I : Nat → Nat → Int32), n - a ≤ m → m < fuel → cT I T n → I 53 3 = iZ (n : Int) → I 53 6 = iZ (a : Int) → a ≤ n → gX6_advance_L173 K 53 x1 x2 fuel (mkS X I J v) = K (mkS X (gup I 53 6 (iZ (rn T n isDb a : Nat))) J v) := by
  intro m
  induction m with
  | zero =>
    intro a fuel I hm hf hT h3 h5 ha
    obtain ⟨f, rfl⟩ : ∃ n, fuel = n + 1 := ⟨fuel - 1, by omega⟩
    have hn := hT.1
    rw [rn_no (by omega), gup_id h5]
    unfold gX6_advance_L173
    simp only [bO, o53, h3, h5]
    rw [if_neg (by rw [iZ_lt (by omega) (by omega) (by omega) (by omega)]; omega)]
  | succ m ih =>
    intro a fuel I hm hf hT h3 h5 ha
    obtain ⟨f, rfl⟩ : ∃ n, fuel = n + 1 := ⟨fuel - 1, by omega⟩
    have hn := hT.1
    unfold gX6_advance_L173
    simp only [bO, o53, o53R, h3, h5]
    by_cases c : a < n
    · rw [if_pos (by rw [iZ_lt (by omega) (by omega) (by omega) (by omega)]; omega), c_tx hT hv c]
      simp only [bO, o53, o53R, h5]
      have hB := sby_D (hT.2 a c).1
      rw [show iZ (a : Int) + 1 = iZ ((a + 1 : Nat) : Int) from by rw [aL]; rfl]
      by_cases c1 : iZ (sby (T a)) < 48
      · rw [if_pos c1, rn_no (fun q => (hB.mpr q.2).1 c1), gup_id h5]
      · rw [if_neg c1]
        by_cases c2 : 57 < iZ (sby (T a))
        · rw [if_pos c2, rn_no (fun q => (hB.mpr q.2).2 c2), gup_id h5]
        · rw [if_neg c2, ih (a + 1) f (gup I 53 6 (iZ ((a + 1 : Nat) : Int))) (by omega) (by omega) (cT_K hT (frK_g (by decide))) (by rw [gup_k (by decide)]; exact h3) gup_s (by omega), gup_gup, ← rn_go c (hB.mp ⟨c1, c2⟩)]
    · rw [if_neg (by rw [iZ_lt (by omega) (by omega) (by omega) (by omega)]; omega), rn_no (by omega), gup_id h5]
end gRd
