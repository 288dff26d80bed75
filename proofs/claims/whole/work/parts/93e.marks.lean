/-! MARKS: a day comes to a row, a day leaves it -/
def pPl (P : Nat → Bool) (d : Nat) : Nat → Bool := fun e => if e = d then true else P e
def pMi (P : Nat → Bool) (d : Nat) : Nat → Bool := fun e => if e = d then false else P e
theorem pMi_id {P : Nat → Bool} {d : Nat} (h : P d = false) : pMi P d = P := by
  funext e
  unfold pMi
  by_cases c : e = d
  · rw [if_pos c, c, h]
  · rw [if_neg c]
theorem pPl_id {P : Nat → Bool} {d : Nat} (h : P d = true) : pPl P d = P := by
  funext e
  unfold pPl
  by_cases c : e = d
  · rw [if_pos c, c, h]
  · rw [if_neg c]
theorem cnt_pl {P : Nat → Bool} {d : Nat} (hd : d < 14610) (h : P d = false) : cnt (pPl P d) 0 14610 = cnt P 0 14610 + 1 :=
  cnt_upd (k := d) hd h (if_pos rfl) (fun j hj => if_neg hj)
theorem cnt_mi {P : Nat → Bool} {d : Nat} (hd : d < 14610) (h : P d = true) : cnt P 0 14610 = cnt (pMi P d) 0 14610 + 1 :=
  cnt_upd (k := d) hd (if_pos rfl) h (fun j hj => (if_neg hj).symm)
theorem rowP_app {f f' : Nat → Int32} {n d : Nat} {P : Nat → Bool} (h : rowP f n P) (hd : d < 14610) (hp : P d = false) (e1 : ∀ k, k < n → f' k = f k) (e2 : f' n = iZ (d : Int)) : rowP f' (n + 1) (pPl P d) := by
  obtain ⟨h1, h2, h3, h4⟩ := h
  refine ⟨by rw [cnt_pl hd hp, h1], fun k hk => ?_, fun e he hpe => ?_, fun j k hj hk hjk => ?_⟩
  · by_cases c : k = n
    · exact ⟨d, hd, if_pos rfl, by rw [c]; exact e2⟩
    · obtain ⟨e, a1, a2, a3⟩ := h2 k (by omega)
      exact ⟨e, a1, by unfold pPl; split; rfl; exact a2, by rw [e1 k (by omega)]; exact a3⟩
  · by_cases c : e = d
    · exact ⟨n, by omega, by rw [c]; exact e2⟩
    · have hpe' : P e = true := by unfold pPl at hpe; rw [if_neg c] at hpe; exact hpe
      obtain ⟨k, a1, a2⟩ := h3 e he hpe'
      exact ⟨k, by omega, by rw [e1 k a1]; exact a2⟩
  · have key : ∀ k, k < n → ¬ f k = iZ (d : Int) := by
      intro k hk q
      obtain ⟨e, a1, a2, a3⟩ := h2 k hk
      rw [a3, iZ_eq (by omega) (by omega) (by omega) (by omega)] at q
      rw [show e = d by omega, hp] at a2
      cases a2
    by_cases c : j = n
    · by_cases c2 : k = n
      · omega
      · rw [c, e2, e1 k (by omega)] at hjk
        exact absurd hjk.symm (key k (by omega))
    · by_cases c2 : k = n
      · rw [c2, e2, e1 j (by omega)] at hjk
        exact absurd hjk (key j (by omega))
      · rw [e1 j (by omega), e1 k (by omega)] at hjk
        exact h4 j k (by omega) (by omega) hjk
theorem rowP_rem {f f' : Nat → Int32} {σ : Nat → Nat} {n d j : Nat} {P : Nat → Bool} (h : rowP f n P) (hd : d < 14610) (hj : j < n) (hf : f j = iZ (d : Int)) (s1 : ∀ k, k + 1 < n → σ k < n ∧ σ k ≠ j) (s2 : ∀ m, m < n → m ≠ j → ∃ k, k + 1 < n ∧ σ k = m) (s3 : ∀ k k', k + 1 < n → k' + 1 < n → σ k = σ k' → k = k') (e : ∀ k, k + 1 < n → f' k = f (σ k)) : rowP f' (n - 1) (pMi P d) ∧ P d = true := by
  obtain ⟨h1, h2, h3, h4⟩ := h
  have hp : P d = true := by
    obtain ⟨d', a1, a2, a3⟩ := h2 j hj
    rw [hf, iZ_eq (by omega) (by omega) (by omega) (by omega)] at a3
    rw [show d = d' by omega]; exact a2
  refine ⟨⟨by have := cnt_mi hd hp; omega, fun k hk => ?_, fun x hx hpx => ?_, fun k k' hk hk' q => ?_⟩, hp⟩
  · obtain ⟨b1, b2⟩ := s1 k (by omega)
    obtain ⟨x, a1, a2, a3⟩ := h2 (σ k) b1
    refine ⟨x, a1, ?_, by rw [e k (by omega)]; exact a3⟩
    unfold pMi
    rw [if_neg (fun q => b2 (h4 _ _ b1 hj (by rw [a3, hf, q])))]
    exact a2
  · have c : x ≠ d := fun q => by unfold pMi at hpx; rw [if_pos q] at hpx; cases hpx
    have hpx' : P x = true := by unfold pMi at hpx; rw [if_neg c] at hpx; exact hpx
    obtain ⟨m, a1, a2⟩ := h3 x hx hpx'
    have hmj : m ≠ j := fun q => by
      rw [q, hf, iZ_eq (by omega) (by omega) (by omega) (by omega)] at a2
      omega
    obtain ⟨k, b1, b2⟩ := s2 m a1 hmj
    exact ⟨k, by omega, by rw [e k b1, b2]; exact a2⟩
  · rw [e k (by omega), e k' (by omega)] at q
    exact s3 k k' (by omega) (by omega) (h4 _ _ (s1 k (by omega)).1 (s1 k' (by omega)).1 q)
theorem rowP_ix {f : Nat → Int32} {n d : Nat} {P : Nat → Bool} (h : rowP f n P) (hd : d < 14610) : (P d = false ∧ nx (fun j => decide (f j = iZ (d : Int))) n 0 = -1) ∨ (P d = true ∧ ∃ j : Nat, j < n ∧ f j = iZ (d : Int) ∧ nx (fun j => decide (f j = iZ (d : Int))) n 0 = (j : Int)) := by
  obtain ⟨h1, h2, h3, h4⟩ := h
  rcases nx_cases (fun j => decide (f j = iZ (d : Int))) n 0 with ⟨q1, q2⟩ | ⟨k, q1, q2, q3, q4, q5⟩
  · left
    refine ⟨?_, q1⟩
    cases hp : P d with
    | false => rfl
    | true =>
      obtain ⟨k, a1, a2⟩ := h3 d hd hp
      have := q2 k (Nat.zero_le _) (by omega)
      rw [decide_eq_true a2] at this
      cases this
  · right
    have fk : f k = iZ (d : Int) := of_decide_eq_true q4
    refine ⟨?_, k, by omega, fk, q1⟩
    obtain ⟨d', a1, a2, a3⟩ := h2 k (by omega)
    rw [fk, iZ_eq (by omega) (by omega) (by omega) (by omega)] at a3
    rw [show d = d' by omega]; exact a2
section gMk2
variable {X : Nat × (Nat → Int32)} {v : Vt} {J : Nat → Nat → Int64} {P : Nat → Bool}
/-- only a row and its numbers are written -/
def frH (r : Nat) (I I' : Nat → Nat → Int32) : Prop := ∀ a k, a ≠ r → a ≠ r + 1 → I' a k = I a k
theorem c_rowRem {I : Nat → Nat → Int32} {r d : Nat} (hr : isRow r) (hc : rowCap r = 20) (h : crow I r P) (hd : d < 14610) : ∃ I', fX7_remove r (iZ (d : Int)) (mkS X I J v) = some ((), mkS X I' J v) ∧ frH r I I' ∧ crow I' r (pMi P d) := by
  obtain ⟨h1, h2, h3⟩ := h
  rw [row_remove hr h1 (by omega)]
  refine ⟨_, rfl, ?_, ?_⟩
  · intro a k x y
    split
    · rfl
    · rw [gup_r y, gup_r x]
  · rcases rowP_ix h3 hd with ⟨q1, q2⟩ | ⟨q1, j, q2, q3, q4⟩
    · rw [if_pos q2, pMi_id q1]
      exact ⟨h1, h2, h3⟩
    · rw [if_neg (by omega), q4, Int.toNat_natCast]
      have hm := cnt_mi hd q1
      obtain ⟨n, hn⟩ : ∃ n, cnt P 0 14610 = n := ⟨_, rfl⟩
      rw [hn] at h1 h2 h3 q2 hm ⊢
      have e1 : cnt (pMi P d) 0 14610 = n - 1 := by omega
      unfold crow
      rw [e1]
      refine ⟨by rw [gup_r (by omega), gup_s], by omega, ?_⟩
      refine (rowP_rem (σ := fun k => if k = j then n - 1 else k) h3 hd q2 q3 (fun k hk => ?_) (fun m hm1 hm2 => ?_) (fun k k' a b c => ?_) (fun k hk => ?_)).1
      · split <;> omega
      · by_cases c : m = n - 1
        · exact ⟨j, by omega, by rw [if_pos rfl, c]⟩
        · exact ⟨m, by omega, by rw [if_neg hm2]⟩
      · split at c <;> split at c <;> omega
      · by_cases c : k = j
        · rw [c, gup_s, if_pos rfl]
        · rw [gup_k c, gup_r (by omega), if_neg c]
theorem c_rowApp {I : Nat → Nat → Int32} {r d : Nat} (hr : isRow r) (hc : rowCap r = 20) (h : crow I r P) (hd : d < 14610) (hp : P d = false) (hn : cnt P 0 14610 < 20) : ∃ I', fX7_append r (iZ (d : Int)) (mkS X I J v) = some ((), mkS X I' J v) ∧ frH r I I' ∧ crow I' r (pPl P d) := by
  obtain ⟨h1, h2, h3⟩ := h
  rw [row_append hr h1 (by omega), if_pos (by omega)]
  refine ⟨_, rfl, fun a k x y => by rw [gup_r x, gup_r y], ?_⟩
  unfold crow
  rw [cnt_pl hd hp]
  refine ⟨gup_s, by omega, rowP_app h3 hd hp (fun k hk => ?_) ?_⟩
  · rw [gup_r (by omega), gup_k (by omega)]
  · rw [gup_r (by omega), gup_s]
theorem c_rowIx {I : Nat → Nat → Int32} {r d : Nat} (hr : isRow r) (hc : rowCap r = 20) (h : crow I r P) (hd : d < 14610) : ∃ x : Int32, fX7_indexOf r (iZ (d : Int)) (mkS X I J v) = some (x, mkS X I J v) ∧ (x = -1 ↔ P d = false) := by
  obtain ⟨h1, h2, h3⟩ := h
  rw [row_index hr h1 (by omega)]
  refine ⟨_, rfl, ?_⟩
  rcases rowP_ix h3 hd with ⟨q1, q2⟩ | ⟨q1, j, q2, q3, q4⟩
  · rw [q2, q1]; exact ⟨fun _ => rfl, fun _ => rfl⟩
  · rw [q4, q1, cM_eq (by omega) (by omega)]
    exact ⟨fun q => by omega, fun q => by cases q⟩
end gMk2
