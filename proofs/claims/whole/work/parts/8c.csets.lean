/-! SETS of the reader: what is asked -/
def daysC (l : List Int) : List (Nat × Nat) := match l with
  | [] => []
  | d :: ds => (1, d.toNat) :: ds.map (fun d => (2, d.toNat))
def pDayRow (T : Nat → Nat) (n : Nat) (r : PS) : List Int × PS := pRow T n (pDate T n) (fun r => ((pDateV T n r : Nat) : Int)) 8 [] r
def pFs1 (T : Nat → Nat) (n nR nS : Nat) (nm : Nat → List Nat) (S : PS → List (Nat × Nat) × PS) (d : Nat) (r : PS) : List (Nat × Nat) × PS :=
  if pSign T n 40 r = true then (if d = 0 then ([], pNot 5 r) else ((S (pAdv T n r)).1, pPass T n (pSign T n 41 (S (pAdv T n r)).2) (S (pAdv T n r)).2))
  else if pOw T n r = 28 then (daysC (pDayRow T n (pAdv T n r)).1, (pDayRow T n (pAdv T n r)).2)
  else ([(0, (pFind nR nS nm (pNameV T n r)).toNat)], pKnown T n nR nS nm r)
def pMv (T : Nat → Nat) (n nR nS : Nat) (nm : Nat → List Nat) (r : PS) : PS := if pOw T n r = 27 then pKnown T n nR nS nm (pAdv T n r) else pNum T n 1 99 (pAdv T n r)
def pMvV (T : Nat → Nat) (n nR nS : Nat) (nm : Nat → List Nat) (r : PS) : Nat := if pOw T n r = 27 then (pFind nR nS nm (pNameV T n (pAdv T n r))).toNat else pNumV T n (pAdv T n r)
def pMov (T : Nat → Nat) (n nR nS : Nat) (nm : Nat → List Nat) : Nat → PS → List (Nat × Nat) × PS
  | 0, r => ([], r)
  | f + 1, r => if 25 ≤ pOw T n r ∧ pOw T n r ≤ 27 then (((pOw T n r).toNat - 19, pMvV T n nR nS nm r) :: (pMov T n nR nS nm f (pMv T n nR nS nm r)).1, (pMov T n nR nS nm f (pMv T n nR nS nm r)).2) else ([], r)
def pOne (T : Nat → Nat) (n nR nS : Nat) (nm : Nat → List Nat) (S : PS → List (Nat × Nat) × PS) (d : Nat) (r : PS) : List (Nat × Nat) × PS := ((pFs1 T n nR nS nm S d r).1 ++ (pMov T n nR nS nm 1600 (pFs1 T n nR nS nm S d r).2).1, (pMov T n nR nS nm 1600 (pFs1 T n nR nS nm S d r).2).2)
/-- further ones, joined by own words lo .. hi -/
def pLp (T : Nat → Nat) (n lo hi : Nat) (F : PS → List (Nat × Nat) × PS) : Nat → PS → List (Nat × Nat) × PS
  | 0, r => ([], r)
  | f + 1, r => if (lo : Int) ≤ pOw T n r ∧ pOw T n r ≤ hi then ((F (pAdv T n r)).1 ++ ((pOw T n r).toNat - 19, 0) :: (pLp T n lo hi F f (F (pAdv T n r)).2).1, (pLp T n lo hi F f (F (pAdv T n r)).2).2) else ([], r)
def pBoth (T : Nat → Nat) (n nR nS : Nat) (nm : Nat → List Nat) (S : PS → List (Nat × Nat) × PS) (d : Nat) (r : PS) : List (Nat × Nat) × PS := ((pOne T n nR nS nm S d r).1 ++ (pLp T n 23 24 (pOne T n nR nS nm S d) 1600 (pOne T n nR nS nm S d r).2).1, (pLp T n 23 24 (pOne T n nR nS nm S d) 1600 (pOne T n nR nS nm S d r).2).2)
def pSumB (T : Nat → Nat) (n nR nS : Nat) (nm : Nat → List Nat) (S : PS → List (Nat × Nat) × PS) (d : Nat) (r : PS) : List (Nat × Nat) × PS := ((pBoth T n nR nS nm S d r).1 ++ (pLp T n 22 22 (pBoth T n nR nS nm S d) 1600 (pBoth T n nR nS nm S d r).2).1, (pLp T n 22 22 (pBoth T n nR nS nm S d) 1600 (pBoth T n nR nS nm S d r).2).2)
def pSum (T : Nat → Nat) (n nR nS : Nat) (nm : Nat → List Nat) : Nat → PS → List (Nat × Nat) × PS
  | 0 => pSumB T n nR nS nm (fun r => ([], r)) 0
  | d + 1 => pSumB T n nR nS nm (pSum T n nR nS nm d) (d + 1)
/-! errors stay -/
theorem pAdv_e {T : Nat → Nat} {n : Nat} {e : Nat × Nat} : pAdv T n (.error e) = .error e := rfl
theorem pKnown_ok {T : Nat → Nat} {n nR nS : Nat} {nm : Nat → List Nat} {r : PS} (h : pOk (pKnown T n nR nS nm r) = true) : pOk r = true ∧ pKnown T n nR nS nm r = pName T n r ∧ pOk (pName T n r) = true ∧ pFind nR nS nm (pNameV T n r) ≠ -1 := by
  unfold pKnown at h ⊢
  by_cases c : pOk (pName T n r) = true ∧ pFind nR nS nm (pNameV T n r) = -1
  · rw [if_pos c] at h; cases h
  · rw [if_neg c] at h ⊢
    exact ⟨pName_ok h, rfl, h, fun q => c ⟨h, q⟩⟩
theorem pRow_ok {T : Nat → Nat} {n : Nat} {m : PS → PS} {mv : PS → Int} (hm : ∀ r, pOk (m r) = true → pOk r = true) : ∀ {f : Nat} {l : List Int} {r : PS}, pOk (pRow T n m mv f l r).2 = true → pOk r = true := by
  intro f
  induction f with
  | zero => intro l r h; exact h
  | succ f ih =>
    intro l r h
    have h' : pOk (if pMore T n (l.length + 1) (pDup m mv l r) = true then pRow T n m mv f (l ++ [mv r]) (pNext T n (l.length + 1) (pDup m mv l r)) else (l ++ [mv r], pNext T n (l.length + 1) (pDup m mv l r))).2 = true := h
    by_cases c : pMore T n (l.length + 1) (pDup m mv l r) = true
    · rw [if_pos c] at h'
      exact hm r (pDup_ok (pNext_ok (ih h'))).1
    · rw [if_neg c] at h'
      exact hm r (pDup_ok (pNext_ok h')).1
theorem pDate_ok {T : Nat → Nat} {n : Nat} {r : PS} (h : pOk (pDate T n r) = true) : pOk r = true := (pDate_in (pNum_ok h).1).1
theorem pOw_ok {T : Nat → Nat} {n : Nat} {r : PS} (h : 0 ≤ pOw T n r) : pOk r = true := by
  cases r with
  | error e => have : (0 : Int) ≤ -1 := h; omega
  | ok s => rfl
theorem pSign_ok {T : Nat → Nat} {n c : Nat} {r : PS} (h : pSign T n c r = true) : pOk r = true := by
  cases r with
  | error e => cases h
  | ok s => rfl
section gSe
variable {T : Nat → Nat} {n nR nS : Nat} {nm : Nat → List Nat}
theorem pDayRow_ok {r : PS} (h : pOk (pDayRow T n r).2 = true) : pOk r = true := pRow_ok (fun _ => pDate_ok) h
theorem pFs1_ok {S : PS → List (Nat × Nat) × PS} {d : Nat} {r : PS} (h : pOk (pFs1 T n nR nS nm S d r).2 = true) : pOk r = true := by
  unfold pFs1 at h
  by_cases c : pSign T n 40 r = true
  · exact pSign_ok c
  · rw [if_neg c] at h
    by_cases c2 : pOw T n r = 28
    · exact pOw_ok (T := T) (n := n) (by omega)
    · rw [if_neg c2] at h
      exact (pKnown_ok h).1
theorem pMov_ok : ∀ {f : Nat} {r : PS}, pOk (pMov T n nR nS nm f r).2 = true → pOk r = true := by
  intro f
  cases f with
  | zero => intro r h; exact h
  | succ f =>
    intro r h
    have h' : pOk (if 25 ≤ pOw T n r ∧ pOw T n r ≤ 27 then (((pOw T n r).toNat - 19, pMvV T n nR nS nm r) :: (pMov T n nR nS nm f (pMv T n nR nS nm r)).1, (pMov T n nR nS nm f (pMv T n nR nS nm r)).2) else ([], r)).2 = true := h
    by_cases c : 25 ≤ pOw T n r ∧ pOw T n r ≤ 27
    · exact pOw_ok (T := T) (n := n) (by omega)
    · rw [if_neg c] at h'; exact h'
theorem pLp_ok {lo hi : Nat} {F : PS → List (Nat × Nat) × PS} : ∀ {f : Nat} {r : PS}, pOk (pLp T n lo hi F f r).2 = true → pOk r = true := by
  intro f
  cases f with
  | zero => intro r h; exact h
  | succ f =>
    intro r h
    have h' : pOk (if (lo : Int) ≤ pOw T n r ∧ pOw T n r ≤ hi then ((F (pAdv T n r)).1 ++ ((pOw T n r).toNat - 19, 0) :: (pLp T n lo hi F f (F (pAdv T n r)).2).1, (pLp T n lo hi F f (F (pAdv T n r)).2).2) else ([], r)).2 = true := h
    by_cases c : (lo : Int) ≤ pOw T n r ∧ pOw T n r ≤ hi
    · exact pOw_ok (T := T) (n := n) (by omega)
    · rw [if_neg c] at h'; exact h'
theorem pOne_ok {S : PS → List (Nat × Nat) × PS} {d : Nat} {r : PS} (h : pOk (pOne T n nR nS nm S d r).2 = true) : pOk r = true := pFs1_ok (pMov_ok h)
theorem pBoth_ok {S : PS → List (Nat × Nat) × PS} {d : Nat} {r : PS} (h : pOk (pBoth T n nR nS nm S d r).2 = true) : pOk r = true := pOne_ok (pLp_ok h)
theorem pSumB_ok {S : PS → List (Nat × Nat) × PS} {d : Nat} {r : PS} (h : pOk (pSumB T n nR nS nm S d r).2 = true) : pOk r = true := pBoth_ok (pLp_ok h)
end gSe
theorem trL_app {L M : List (Nat × Nat)} : trL (L ++ M) = trL L ++ trL M := List.flatMap_append
theorem trL_cons {o : Nat × Nat} {M : List (Nat × Nat)} : trL (o :: M) = tr o ++ trL M := rfl
theorem trL_days : ∀ {l : List Int}, l ≠ [] → trL (daysC l) = (1, 0) :: l.map (fun d => (2, d.toNat))
  | [], h => absurd rfl h
  | d :: ds, _ => by
    show tr (1, d.toNat) ++ trL (ds.map (fun d => (2, d.toNat))) = _
    have : ∀ ds : List Int, trL (ds.map (fun d => (2, d.toNat))) = ds.map (fun d => (2, d.toNat)) := by
      intro ds
      induction ds with
      | nil => rfl
      | cons d ds ih =>
        show tr (2, d.toNat) ++ trL (ds.map (fun d => (2, d.toNat))) = _
        rw [ih]; rfl
    rw [this]; rfl
/-! the codes of a draft -/
def cKd (I : Nat → Nat → Int32) (b k : Nat) (C : List (Nat × Nat)) (r : PS) : Prop := ∃ m : Nat, I b 2 = iZ (m : Int) ∧ k ≤ m ∧ m ≤ 800 ∧ (pOk r = true → k + C.length ≤ 800 → m = k + C.length ∧ cseg I b k C)
def frE (b k : Nat) (I I' : Nat → Nat → Int32) : Prop := (∀ r j, r ≠ 53 → r ≠ 55 → r ≠ 56 → r ≠ b + 3 → (r ≠ b ∨ j ≠ 2) → I' r j = I r j) ∧ I' 53 3 = I 53 3 ∧ ∀ j, j < k → I' (b + 3) j = I (b + 3) j
theorem frE_r (b k : Nat) (I : Nat → Nat → Int32) : frE b k I I := ⟨fun _ _ _ _ _ _ _ => rfl, rfl, fun _ _ => rfl⟩
theorem frE_t {b k : Nat} {I I' I'' : Nat → Nat → Int32} (h1 : frE b k I I') (h2 : frE b k I' I'') : frE b k I I'' := ⟨fun r j a b c d e => (h2.1 r j a b c d e).trans (h1.1 r j a b c d e), h2.2.1.trans h1.2.1, fun j hj => (h2.2.2 j hj).trans (h1.2.2 j hj)⟩
theorem frE_W {b k : Nat} {I I' : Nat → Nat → Int32} (hb : isBk b) (h : frW I I') : frE b k I I' := by
  have := bk_r hb
  exact ⟨fun r j a b c _ _ => h.1 r j a b c, h.2, fun j _ => h.1 _ j (by omega) (by omega) (by omega)⟩
theorem frE_K {b k : Nat} {I I' : Nat → Nat → Int32} (hb : isBk b) (h : frK I I') : frE b k I I' := frE_W hb (frW_K h)
theorem cKd_W {b k : Nat} {C : List (Nat × Nat)} {r r' : PS} {I I' : Nat → Nat → Int32} (hb : isBk b) (h : cKd I b k C r) (f : frW I I') (hr : pOk r' = true → pOk r = true) : cKd I' b k C r' := by
  have hb0 := bk_r hb
  obtain ⟨m, h1, h2, h3, h4⟩ := h
  refine ⟨m, by rw [f.1 b 2 (by omega) (by omega) (by omega)]; exact h1, h2, h3, fun a c => ?_⟩
  obtain ⟨x, y⟩ := h4 (hr a) c
  exact ⟨x, cseg_fr (fun j => f.1 _ j (by omega) (by omega) (by omega)) y⟩
theorem cKd_K {b k : Nat} {C : List (Nat × Nat)} {r r' : PS} {I I' : Nat → Nat → Int32} (hb : isBk b) (h : cKd I b k C r) (f : frK I I') (hr : pOk r' = true → pOk r = true) : cKd I' b k C r' := cKd_W hb h (frW_K f) hr
theorem cKd_e {b k : Nat} {C C' : List (Nat × Nat)} {r r' : PS} {I : Nat → Nat → Int32} (h : cKd I b k C r) (hr : pOk r' = false) : cKd I b k C' r' := by
  obtain ⟨m, h1, h2, h3, h4⟩ := h
  exact ⟨m, h1, h2, h3, fun q => by rw [hr] at q; cases q⟩
theorem cX_E {b k : Nat} {v : Vt} {T : Nat → Nat} {n : Nat} {I I' : Nat → Nat → Int32} (hb : isBk b) (h : cX I v T n) (f : frE b k I I') : cX I' v T n := by
  have := bk_r hb
  exact ⟨⟨h.1.1, fun j hj => by rw [f.1 52 j (by decide) (by decide) (by decide) (by omega) (Or.inl (by omega))]; exact h.1.2 j hj⟩, by rw [f.2.1]; exact h.2.1, h.2.2⟩
theorem cNm_E {b k nR nS : Nat} {nm : Nat → List Nat} {I I' : Nat → Nat → Int32} (hb : isBk b) (h : cNm I b nR nS nm) (f : frE b k I I') : cNm I' b nR nS nm := by
  have := bk_r hb
  obtain ⟨h1, h2, h3, h4, h5⟩ := h
  exact ⟨h1, h2, by rw [f.1 b 0 (by omega) (by omega) (by omega) (by omega) (by omega)]; exact h3, by rw [f.1 b 1 (by omega) (by omega) (by omega) (by omega) (by omega)]; exact h4, fun w hw => ⟨(h5 w hw).1, by rw [f.1 (b + 2) w (by omega) (by omega) (by omega) (by omega) (by omega)]; exact (h5 w hw).2⟩⟩
theorem cd_or {op ar : Nat} (h1 : op < 16) (h2 : ar < 16384) : (iZ (op : Int) <<< (14 &&& 31)) ||| iZ (ar : Int) = iZ ((op * 16384 + ar : Nat) : Int) := by
  rw [show (14 : Int32) = iZ ((14 : Nat) : Int) from rfl, iZ_shl (by decide), show (op : Int) * 2 ^ 14 = ((op * 16384 : Nat) : Int) by omega]
  apply Int32.toBitVec_inj.mp
  rw [Int32.toBitVec_or, iZ_bv, iZ_bv, iZ_bv]
  apply BitVec.eq_of_toNat_eq
  rw [BitVec.toNat_or, BitVec.ofInt_natCast, BitVec.ofInt_natCast, BitVec.ofInt_natCast, BitVec.toNat_ofNat, BitVec.toNat_ofNat, BitVec.toNat_ofNat, Nat.mod_eq_of_lt (by omega), Nat.mod_eq_of_lt (by omega), Nat.mod_eq_of_lt (by omega)]
  have := Nat.shiftLeft_add_eq_or_of_lt (a := op) (b := ar) (i := 14) (by omega)
  rw [Nat.shiftLeft_eq] at this
  exact this.symm
theorem cseg_snoc {I : Nat → Nat → Int32} {b : Nat} {o : Nat × Nat} : ∀ {L : List (Nat × Nat)} {k : Nat}, cseg I b k L → (I (b + 3) (k + L.length) = iZ ((o.1 * 16384 + o.2 : Nat) : Int) ∧ o.1 < 16 ∧ o.2 < 16384) → cseg I b k (L ++ [o]) := by
  intro L
  induction L with
  | nil => intro k _ h; exact ⟨h, trivial⟩
  | cons p L ih =>
    intro k ⟨a, c⟩ h
    refine ⟨a, ih c ?_⟩
    rw [show k + 1 + L.length = k + (p :: L).length by simp only [List.length_cons]; omega]
    exact h
theorem cseg_lt {I I' : Nat → Nat → Int32} {b : Nat} : ∀ {L : List (Nat × Nat)} {k m : Nat}, k + L.length ≤ m → (∀ j, j < m → I' (b + 3) j = I (b + 3) j) → cseg I b k L → cseg I' b k L := by
  intro L
  induction L with
  | nil => intro k m _ _ _; exact trivial
  | cons o L ih =>
    intro k m h e ⟨⟨a, b, c⟩, d⟩
    rw [List.length_cons] at h
    exact ⟨⟨by rw [e k (by omega)]; exact a, b, c⟩, ih (m := m) (by omega) e d⟩
section gAp
variable {X : Nat × (Nat → Int32)} {J : Nat → Nat → Int64} {v : Vt} {b k : Nat}
theorem c_app {I : Nat → Nat → Int32} {C : List (Nat × Nat)} {r : PS} {op : Nat} {x : Int32} (hb : isBk b) (hK : cKd I b k C r) (ho : op < 16) : ∃ I', fX1_append b (iZ (op : Int)) x (mkS X I J v) = some ((), mkS X I' J v) ∧ frE b k I I' ∧ (∀ a j, a ≠ b → a ≠ b + 3 → I' a j = I a j) ∧ ∀ (r' : PS) (ar : Nat), (pOk r' = true → pOk r = true ∧ x = iZ (ar : Int) ∧ ar < 16384) → cKd I' b k (C ++ [(op, ar)]) r' := by
  have hb0 := bk_r hb
  obtain ⟨m, h1, h2, h3, h4⟩ := hK
  unfold fX1_append
  simp only [bO, bk_i hb, bk_r5 hb, bk_n3 hb, h1]
  by_cases c : m < 800
  · rw [if_pos (by rw [iZ_lt (by omega) (by omega) (by decide) (by decide)]; omega), bk_b3 hb I J c]
    simp only [bO, bk_i hb, bk_p hb]
    rw [gup_r (show b ≠ b + 3 by omega), h1, aL, show (m : Int) + 1 = ((m + 1 : Nat) : Int) by omega]
    refine ⟨_, rfl, ⟨fun a j x1 x2 x3 x4 x5 => ?_, ?_, fun j hj => ?_⟩, fun a j x1 x2 => ?_, fun r' ar hr => ?_⟩
    · by_cases z : a = b
      · rw [gup_k (by omega), gup_r x4]
      · rw [gup_r z, gup_r x4]
    · rw [gup_r (by omega), gup_r (by omega)]
    · rw [gup_r (by omega), gup_k (by omega)]
    · rw [gup_r x1, gup_r x2]
    · refine ⟨m + 1, gup_s, by omega, by omega, fun q1 q2 => ?_⟩
      obtain ⟨p1, p2, p3⟩ := hr q1
      rw [List.length_append, List.length_singleton] at q2 ⊢
      obtain ⟨e1, e2⟩ := h4 p1 (by omega)
      refine ⟨by omega, cseg_snoc (cseg_lt (m := m) (by omega) (fun j hj => by rw [gup_r (by omega), gup_k (by omega)]) e2) ⟨?_, ho, p3⟩⟩
      rw [← e1, gup_r (by omega), gup_s, p2]
      exact cd_or ho p3
  · rw [if_neg (by rw [iZ_lt (by omega) (by omega) (by decide) (by decide)]; omega)]
    refine ⟨I, rfl, frE_r b k I, fun _ _ _ _ => rfl, fun r' ar hr => ⟨m, h1, h2, h3, fun q1 q2 => ?_⟩⟩
    obtain ⟨p1, p2, p3⟩ := hr q1
    rw [List.length_append, List.length_singleton] at q2
    obtain ⟨e1, e2⟩ := h4 p1 (by omega)
    omega
end gAp
