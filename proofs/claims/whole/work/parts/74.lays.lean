/-! A SET IS LAID: both sides -/
def daysR (I : Nat → Nat → Int32) (row : Nat) (P : Nat → Bool) : Prop := ∀ d, d < 14610 → I 282 (row + d) = tf (P d)
def mrow (I : Nat → Nat → Int32) (o : Nat) (P : Nat → Bool) : Prop := I 281 o = iZ (cnt P 0 14610 : Nat) ∧ cnt P 0 14610 ≤ 20 ∧ rowP (fun k => I 281 (o + 1 + k)) (cnt P 0 14610) P
def crow (I : Nat → Nat → Int32) (r : Nat) (P : Nat → Bool) : Prop := I r 1 = iZ (cnt P 0 14610 : Nat) ∧ cnt P 0 14610 ≤ 20 ∧ rowP (I (r + 1)) (cnt P 0 14610) P
/-- only one row of the days is written -/
def frR (row : Nat) (I I' : Nat → Nat → Int32) : Prop := frX 282 I I' ∧ ∀ k, k < row ∨ row + 14610 ≤ k → I' 282 k = I 282 k
theorem frR_r (row : Nat) (I : Nat → Nat → Int32) : frR row I I := ⟨frX_r 282 I, fun _ _ => rfl⟩
theorem frR_t {row : Nat} {I I' I'' : Nat → Nat → Int32} (h1 : frR row I I') (h2 : frR row I' I'') : frR row I I'' := ⟨frX_t h1.1 h2.1, fun k hk => (h2.2 k hk).trans (h1.2 k hk)⟩
theorem frR_g {row d : Nat} {x : Int32} {I : Nat → Nat → Int32} (hd : d < 14610) : frR row I (gup I 282 (row + d) x) := ⟨frX_g, fun k hk => gup_k (by omega)⟩
section gLa
variable {X : Nat × (Nat → Int32)} {v : Vt}
theorem m_copyL {J : Nat → Nat → Int64} {k96 : gH → Option (Unit × gH)} {x1 : Int32} {row : Nat} {P : Nat → Bool} (hrow : row + 14610 ≤ 175320) : ∀ (m d fuel : Nat) (I : Nat → Nat → Int32), d + m = 14610 → m < fuel → (∀ e, e < 14610 → I 285 e = tf (P e)) → ∃ I', gX12_laysSet_L69 k96 267 x1 (iZ (row : Int)) fuel (iZ (d : Int)) (mkS X I J v) = k96 (mkS X I' J v) ∧ wrR 282 row d I I' P := by
  intro m
  induction m with
  | zero =>
    intro d fuel I hd hf hP
    obtain ⟨f, rfl⟩ : ∃ n, fuel = n + 1 := ⟨fuel - 1, by omega⟩
    have : d = 14610 := by omega
    subst this
    refine ⟨I, ?_, wrR_end⟩
    unfold gX12_laysSet_L69
    rw [if_neg (by decide)]
  | succ m ih =>
    intro d fuel I hd hf hP
    obtain ⟨f, rfl⟩ : ∃ n, fuel = n + 1 := ⟨fuel - 1, by omega⟩
    unfold gX12_laysSet_L69
    rw [if_pos (by rw [cL_lt (by omega) (by omega) (by decide)]; omega)]
    simp only [bO, o267R, iZ_add]
    rw [show (row : Int) + (d : Int) = ((row + d : Nat) : Int) by omega, a285 _ _ _ _ _ (by omega)]
    simp only [bO, hP d (by omega)]
    rw [b282 _ _ _ _ _ _ (by omega), gnar_tf]
    simp only [bO]
    rw [show iZ (d : Int) + 1 = iZ ((d + 1 : Nat) : Int) from by rw [aL]; rfl]
    obtain ⟨I', r1, r2⟩ := ih (d + 1) f (gup I 282 (row + d) (tf (P d))) (by omega) (by omega) (fun e h2 => by rw [gup_r (by decide)]; exact hP e h2)
    exact ⟨I', r1, wrR_step (by omega) rfl r2⟩
theorem m_hand0 {t : Nat} {s : gH} : fX12_handAt (iZ (t : Int)) 0 s = some (iZ ((12 + 42 * t : Nat) : Int), s) := by
  unfold fX12_handAt
  rw [if_pos rfl, pR, aR, show (0 : Int32) = iZ 0 from rfl, iZ_add]
  congr 2
theorem m_hand1 {t : Nat} {s : gH} : fX12_handAt (iZ (t : Int)) 1 s = some (iZ ((12 + 42 * t + 21 : Nat) : Int), s) := by
  unfold fX12_handAt
  rw [if_neg (by decide), pR, aR, aL]
  congr 2
theorem m_addL {J : Nat → Nat → Int64} {k138 : gH → Option (Unit × gH)} {t row : Nat} {B P : Nat → Bool} (ht : t < 6) (hrow : row + 14610 ≤ 175320) : ∀ (m k fuel : Nat) (I : Nat → Nat → Int32), mrow I (12 + 42 * t) P → k + m = cnt P 0 14610 → m < fuel → daysR I row (fun d => B d || inF (fun k => I 281 (12 + 42 * t + 1 + k)) k d) → ∃ I', gX12_laysSet_L98 k138 267 (iZ (t : Int)) (iZ (row : Int)) fuel (iZ ((k + 1 : Nat) : Int)) (mkS X I J v) = k138 (mkS X I' J v) ∧ frR row I I' ∧ daysR I' row (fun d => B d || P d) := by
  intro m
  induction m with
  | zero =>
    intro k fuel I hr hk hf hD
    obtain ⟨f, rfl⟩ : ∃ n, fuel = n + 1 := ⟨fuel - 1, by omega⟩
    obtain ⟨r1, r2, r3⟩ := hr
    refine ⟨I, ?_, frR_r row I, ?_⟩
    · unfold gX12_laysSet_L98
      simp only [bO, o267R, m_hand0]
      rw [a281 _ _ _ _ _ (by omega)]
      simp only [bO, r1]
      rw [if_pos (by rw [iZ_lt (by omega) (by omega) (by omega) (by omega)]; omega)]
    · intro d hd
      rw [hD d hd, show k = cnt P 0 14610 by omega]
      dsimp only
      rw [rowP_in r3 hd]
  | succ m ih =>
    intro k fuel I hr hk hf hD
    obtain ⟨f, rfl⟩ : ∃ n, fuel = n + 1 := ⟨fuel - 1, by omega⟩
    have hr0 := hr
    obtain ⟨r1, r2, r3⟩ := hr
    obtain ⟨e, e1, e2, e3⟩ := r3.2.1 k (by omega)
    dsimp only at e3
    unfold gX12_laysSet_L98
    simp only [bO, o267R, m_hand0, iZ_add]
    rw [a281 _ _ _ _ _ (by omega)]
    simp only [bO, r1]
    rw [if_neg (by rw [iZ_lt (by omega) (by omega) (by omega) (by omega)]; omega)]
    rw [show ((12 + 42 * t : Nat) : Int) + ((k + 1 : Nat) : Int) = ((12 + 42 * t + 1 + k : Nat) : Int) by omega, a281 _ _ _ _ _ (by omega)]
    simp only [bO, e3, iZ_add]
    rw [show (row : Int) + (e : Int) = ((row + e : Nat) : Int) by omega, b282 _ _ _ _ _ _ (by omega), show gnar 4 1 = tf true by decide]
    simp only [bO]
    rw [show iZ ((k + 1 : Nat) : Int) + 1 = iZ ((k + 1 + 1 : Nat) : Int) from by rw [aL]; rfl]
    obtain ⟨I', q1, q2, q3⟩ := ih (k + 1) f (gup I 282 (row + e) (tf true)) (by
      unfold mrow at hr0 ⊢
      simp only [gup_r (show (281 : Nat) ≠ 282 by decide)]
      exact hr0) (by omega) (by omega) (fun d hd => by
      simp only [gup_r (show (281 : Nat) ≠ 282 by decide)]
      rw [inF_succ, e3]
      by_cases c : d = e
      · rw [c, gup_s, decide_eq_true rfl]; simp
      · rw [gup_k (by omega), hD d hd, decide_eq_false (show ¬ iZ (e : Int) = iZ (d : Int) by rw [iZ_eq (by omega) (by omega) (by omega) (by omega)]; omega), Bool.or_false])
    exact ⟨I', q1, frR_t (frR_g e1) q2, q3⟩
theorem m_takeL {J : Nat → Nat → Int64} {t row : Nat} {B P : Nat → Bool} (ht : t < 6) (hrow : row + 14610 ≤ 175320) : ∀ (m k fuel : Nat) (I : Nat → Nat → Int32), mrow I (12 + 42 * t + 21) P → k + m = cnt P 0 14610 → m < fuel → daysR I row (fun d => B d && !inF (fun k => I 281 (12 + 42 * t + 21 + 1 + k)) k d) → ∃ I', gX12_laysSet_L140 267 (iZ (t : Int)) (iZ (row : Int)) fuel (iZ ((k + 1 : Nat) : Int)) (mkS X I J v) = some ((), mkS X I' J v) ∧ frR row I I' ∧ daysR I' row (fun d => B d && !P d) := by
  intro m
  induction m with
  | zero =>
    intro k fuel I hr hk hf hD
    obtain ⟨f, rfl⟩ : ∃ n, fuel = n + 1 := ⟨fuel - 1, by omega⟩
    obtain ⟨r1, r2, r3⟩ := hr
    refine ⟨I, ?_, frR_r row I, ?_⟩
    · unfold gX12_laysSet_L140
      simp only [bO, o267R, m_hand1]
      rw [a281 _ _ _ _ _ (by omega)]
      simp only [bO, r1]
      rw [if_pos (by rw [iZ_lt (by omega) (by omega) (by omega) (by omega)]; omega)]
    · intro d hd
      rw [hD d hd, show k = cnt P 0 14610 by omega]
      dsimp only
      rw [rowP_in r3 hd]
  | succ m ih =>
    intro k fuel I hr hk hf hD
    obtain ⟨f, rfl⟩ : ∃ n, fuel = n + 1 := ⟨fuel - 1, by omega⟩
    have hr0 := hr
    obtain ⟨r1, r2, r3⟩ := hr
    obtain ⟨e, e1, e2, e3⟩ := r3.2.1 k (by omega)
    dsimp only at e3
    unfold gX12_laysSet_L140
    simp only [bO, o267R, m_hand1, iZ_add]
    rw [a281 _ _ _ _ _ (by omega)]
    simp only [bO, r1]
    rw [if_neg (by rw [iZ_lt (by omega) (by omega) (by omega) (by omega)]; omega)]
    rw [show ((12 + 42 * t + 21 : Nat) : Int) + ((k + 1 : Nat) : Int) = ((12 + 42 * t + 21 + 1 + k : Nat) : Int) by omega, a281 _ _ _ _ _ (by omega)]
    simp only [bO, e3, iZ_add]
    rw [show (row : Int) + (e : Int) = ((row + e : Nat) : Int) by omega, b282 _ _ _ _ _ _ (by omega), show gnar 4 0 = tf false by decide]
    simp only [bO]
    rw [show iZ ((k + 1 : Nat) : Int) + 1 = iZ ((k + 1 + 1 : Nat) : Int) from by rw [aL]; rfl]
    obtain ⟨I', q1, q2, q3⟩ := ih (k + 1) f (gup I 282 (row + e) (tf false)) (by
      unfold mrow at hr0 ⊢
      simp only [gup_r (show (281 : Nat) ≠ 282 by decide)]
      exact hr0) (by omega) (by omega) (fun d hd => by
      simp only [gup_r (show (281 : Nat) ≠ 282 by decide)]
      rw [inF_succ, e3]
      by_cases c : d = e
      · rw [c, gup_s, decide_eq_true rfl]; simp
      · rw [gup_k (by omega), hD d hd, decide_eq_false (show ¬ iZ (e : Int) = iZ (d : Int) by rw [iZ_eq (by omega) (by omega) (by omega) (by omega)]; omega), Bool.or_false])
    exact ⟨I', q1, frR_t (frR_g e1) q2, q3⟩
/-- what the laying of a set may change -/
def frT (row : Nat) (I I' : Nat → Nat → Int32) : Prop := (∀ r k, r ≠ 282 → r ≠ 285 → r ≠ 286 → (r ≠ 267 ∨ k ≠ 34) → I' r k = I r k) ∧ ∀ k, k < row ∨ row + 14610 ≤ k → I' 282 k = I 282 k
theorem frT_D {row : Nat} {I I' : Nat → Nat → Int32} (h : frD I I') : frT row I I' := ⟨fun r k _ a b c => h r k a b c, fun k _ => h 282 k (by decide) (by decide) (Or.inl (by decide))⟩
theorem frT_R {row : Nat} {I I' : Nat → Nat → Int32} (h : frR row I I') : frT row I I' := ⟨fun r k a _ _ _ => h.1 r k a, h.2⟩
theorem frT_t {row : Nat} {I I' I'' : Nat → Nat → Int32} (h1 : frT row I I') (h2 : frT row I' I'') : frT row I I'' := ⟨fun r k a b c d => (h2.1 r k a b c d).trans (h1.1 r k a b c d), fun k hk => (h2.2 k hk).trans (h1.2 k hk)⟩
theorem crun_one {K : Nat → Nat → Bool} {kn : Nat → Prop} : ∀ {L : List (Nat × Nat)} {s : Nat × (Nat → Nat → Bool)}, cokR kn L s.1 → (crun K L s).1 = 1 := by
  intro L
  induction L with
  | nil => intro s h; exact h
  | cons o L ih =>
    intro s ⟨_, _, h3⟩
    exact ih (s := cx K o s) (by rw [cx_dep]; exact h3)
theorem mrow_fr {I I' : Nat → Nat → Int32} {o : Nat} {P : Nat → Bool} (h : mrow I o P) (e : ∀ k, I' 281 k = I 281 k) : mrow I' o P := by
  unfold mrow at h ⊢
  simp only [e]; exact h
theorem m_laysSet {I : Nat → Nat → Int32} {J : Nat → Nat → Int64} {K : Nat → Nat → Bool} {kn : Nat → Prop} {t k : Nat} {L : List (Nat × Nat)} {A B : Nat → Bool} (ht : t < 6) (hk : k + L.length ≤ 1500) (hs : mseg I k L) (h1 : I 276 (254 + 3 * t + 1) = iZ (k : Int)) (h2 : I 276 (254 + 3 * t + 2) = iZ ((k + L.length : Nat) : Int)) (hok : mokR kn L 0) (hK : ∀ w, kn w → ∀ d, d < 14610 → I 282 (14610 * w + d) = tf (K w d)) (hA : mrow I (12 + 42 * t) A) (hB : mrow I (12 + 42 * t + 21) B) : ∃ I', fX12_laysSet 267 (iZ (t : Int)) (mkS X I J v) = some ((), mkS X I' J v) ∧ frT (14610 * (6 + t)) I I' ∧ daysR I' (14610 * (6 + t)) (setD K L A B) := by
  unfold fX12_laysSet fX12_setAt
  simp only [bO, o267, o267R, pR, aR, aL]
  rw [show (254 : Int) + 3 * (t : Int) + 1 = ((254 + 3 * t + 1 : Nat) : Int) by omega, a276 _ _ _ _ _ (by omega), gup_r (by decide), h1]
  simp only [bO]
  rw [show (14610 : Int) * (6 + (t : Int)) = ((14610 * (6 + t) : Nat) : Int) by omega]
  obtain ⟨I1, a1, a2, a3⟩ := m_codesL (X := X) (v := v) (J := J) (K := K) (kn := kn) (t := t) (e := k + L.length) (k58 := fun s18 => gX12_laysSet_L69 (fun s26 => gX12_laysSet_L98 (fun s39 => gX12_laysSet_L140 267 (iZ (t : Int)) (iZ ((14610 * (6 + t) : Nat) : Int)) 20000 1 s39) 267 (iZ (t : Int)) (iZ ((14610 * (6 + t) : Nat) : Int)) 20000 1 s26) 267 (iZ (t : Int)) (iZ ((14610 * (6 + t) : Nat) : Int)) 20000 0 s18) ht hk L k 20000 (gup I 267 34 0) (0, fun _ _ => false) (mseg_fr (fun k => gup_r (by decide)) hs) rfl (by omega) (by rw [gup_r (by decide)]; exact h2) ⟨gup_s, fun i hi => absurd hi (Nat.not_lt_zero i)⟩ hok (fun w hw d hd => by rw [gup_r (by decide)]; exact hK w hw d hd)
  rw [a1]
  have hone : (crun K (trL L) (0, fun _ _ => false)).1 = 1 := crun_one (cokR_of hok)
  obtain ⟨I2, b1, b2⟩ := m_copyL (X := X) (v := v) (J := J) (k96 := fun s26 => gX12_laysSet_L98 (fun s39 => gX12_laysSet_L140 267 (iZ (t : Int)) (iZ ((14610 * (6 + t) : Nat) : Int)) 20000 1 s39) 267 (iZ (t : Int)) (iZ ((14610 * (6 + t) : Nat) : Int)) 20000 1 s26) (x1 := iZ (t : Int)) (row := 14610 * (6 + t)) (P := setB K L) (by omega) 14610 0 20000 I1 (by decide) (by decide) (fun e he => by have := a3.2 0 (by omega) e he; rw [Nat.mul_zero, Nat.zero_add] at this; exact this)
  rw [show (0 : Int32) = iZ ((0 : Nat) : Int) from rfl, b1]
  have eq2 : ∀ k, I2 281 k = I 281 k := fun k => by rw [b2.1 281 k (by decide), a2 281 k (by decide) (by decide) (Or.inl (by decide)), gup_r (by decide)]
  obtain ⟨I3, c1, c2, c3⟩ := m_addL (X := X) (v := v) (J := J) (k138 := fun s39 => gX12_laysSet_L140 267 (iZ (t : Int)) (iZ ((14610 * (6 + t) : Nat) : Int)) 20000 1 s39) (t := t) (row := 14610 * (6 + t)) (B := setB K L) (P := A) ht (by omega) (cnt A 0 14610) 0 20000 I2 (mrow_fr hA eq2) (by omega) (by have := hA.2.1; omega) (fun d hd => by rw [b2.2.2 d (Nat.zero_le d) hd]; show _ = tf (setB K L d || false); rw [Bool.or_false])
  have eq3 : ∀ k, I3 281 k = I 281 k := fun k => by rw [c2.1 281 k (by decide), eq2]
  obtain ⟨I4, d1, d2, d3⟩ := m_takeL (X := X) (v := v) (J := J) (t := t) (row := 14610 * (6 + t)) (B := fun d => setB K L d || A d) (P := B) ht (by omega) (cnt B 0 14610) 0 20000 I3 (mrow_fr hB eq3) (by omega) (by have := hB.2.1; omega) (fun d hd => by rw [c3 d hd]; show _ = tf ((setB K L d || A d) && !false); simp)
  refine ⟨I4, c1.trans d1, ?_, d3⟩
  have e0 : frT (14610 * (6 + t)) I (gup I 267 34 0) := frT_D frD_g
  have e2 : frT (14610 * (6 + t)) I1 I2 := frT_R ⟨b2.1, fun k hk => b2.2.1 k (by omega)⟩
  exact frT_t (frT_t (frT_t (frT_t e0 (frT_D a2)) e2) (frT_R c2)) (frT_R d2)
end gLa
