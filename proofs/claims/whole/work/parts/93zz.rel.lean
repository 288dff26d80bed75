/-! BOTH OBJECTS HOLD THE SAME -/
theorem rTape_T {I : Nat → Nat → Int32} {t : Nat} (h : rTape I t) : ∃ T : Nat → Nat, cT I T t ∧ mT I T t := by
  obtain ⟨h1, h2, h3, h4⟩ := h
  refine ⟨fun k => (I 268 k).toInt.toNat, ⟨h1, fun k hk => ?_⟩, ⟨h1, fun k hk => ?_⟩⟩
  · obtain ⟨b, b1, b2, b3⟩ := h4 k hk
    have e : (I 268 k).toInt.toNat = b := by rw [b2, iZ_toInt (by omega) (by omega)]; omega
    show (I 268 k).toInt.toNat < 256 ∧ I 52 k = iZ (sby (I 268 k).toInt.toNat)
    rw [e]
    exact ⟨b1, b3⟩
  · obtain ⟨b, b1, b2, b3⟩ := h4 k hk
    have e : (I 268 k).toInt.toNat = b := by rw [b2, iZ_toInt (by omega) (by omega)]; omega
    show (I 268 k).toInt.toNat < 256 ∧ I 268 k = iZ ((I 268 k).toInt.toNat : Int)
    rw [e]
    exact ⟨b1, b2⟩
/-- the class's half: books, ledger, journal -/
def cH (I : Nat → Nat → Int32) (J : Nat → Nat → Int64) (v : Vt) (b b' : Nat) (S : Nat → St) (un : Nat) : Prop := isBk b ∧ isBk b' ∧ b ≠ b' ∧ v.1 = b ∧ v.2.1 = b' ∧ v.2.2.1 = b ∧ cBk I b (S 0).1 ∧ cLg I J (S 0).1 (S 0).2.1 (S 0).2.2 ∧ jN I S un
/-- the reference's half -/
def mH (I : Nat → Nat → Int32) (S : Nat → St) (un : Nat) : Prop := mBk I (S 0).1 ∧ mLg I (S 0).1 (S 0).2.1 (S 0).2.2 ∧ hN I S un
def gS (S : Nat → St) : Prop := ∀ k, BkOK (S k).1 ∧ gdM (S k).1.nS (S k).2
/-- what was seen -/
def sH (I : Nat → Nat → Int32) (v : Vt) (b : Nat) (B : Bk) : Prop := (I 188 8 = 0 ∧ I 267 36 = 0) ∨ ∃ (m r : Nat) (sd : Nat → Nat) (so : Nat → Bool), 1 ≤ m ∧ r < B.nR ∧ v.2.2.2.2.2 = b + 5 + 5 * r ∧ cSd I m sd so ∧ mSd I m r sd so ∧ (I 188 7 = 0 ∨ (I 188 7 = 1 ∧ wO I (B.rl r) m sd so))
/-- the rest: tape, refusals, fault, seed, calendar, words -/
def oH (I : Nat → Nat → Int32) (J : Nat → Nat → Int64) : Prop := (∃ t, rTape I t) ∧ rRef I ∧ (I 53 0 = I 267 7 ∧ I 53 1 = I 267 8) ∧ (∃ z : Nat, z < 2147483648 ∧ I 50 9 = iZ (z : Int) ∧ J 267 46 = (iZ (z : Int)).toInt64) ∧ calInv I ∧ mOwn I
def rel (I : Nat → Nat → Int32) (J : Nat → Nat → Int64) (v : Vt) : Prop := ∃ (b b' : Nat) (S : Nat → St) (un : Nat), gS S ∧ cH I J v b b' S un ∧ mH I S un ∧ sH I v b (S 0).1 ∧ oH I J
section gRel
variable {v : Vt} {I I' : Nat → Nat → Int32} {J J' : Nat → Nat → Int64} {b b' : Nat} {S : Nat → St} {un : Nat}
/-- the class's half stays when only the reference wrote -/
theorem cH_m (h : cH I J v b b' S un) (g : gS S) (f : ∀ a k, a < 267 → I' a k = I a k) (fJ : ∀ a, a < 267 → J' a = J a) : cH I' J' v b b' S un := by
  obtain ⟨h1, h2, h3, h4, h5, h6, h7, h8, h9⟩ := h
  have hb := bk_r h1
  have ok := (g 0).1
  exact ⟨h1, h2, h3, h4, h5, h6, cBk_fr h7 ok.1 (fun r k x y => f r k (by omega)), cLg_fr h8 ok.1 ok.2.1 (f 60 7 (by decide)) (fun r k x y => f r k (by omega)) (fun a x y => fJ a (by omega)), jN_fr h9 (fun r k x y => f r k (by omega))⟩
/-- the reference's half stays when only the class wrote -/
theorem mH_c (h : mH I S un) (g : gS S) (f : ∀ a k, 267 ≤ a → I' a k = I a k) : mH I' S un := by
  obtain ⟨h1, h2, h3⟩ := h
  have ok := (g 0).1
  refine ⟨mBk_fr h1 (fun k => f 276 k (by decide)) (fun k => f 278 k (by decide)) (fun k _ => f 281 k (by decide)) ok.1 (f 267 23 (by decide)) (f 267 17 (by decide)) (fun r k x y => f r k (by omega)), ⟨fun w hw => ?_, fun t ht => ?_⟩, hN_fr h3 (f 267 45 (by decide)) (f 267 44 (by decide)) (fun k => f 292 k (by decide))⟩
  · rw [f 283 w (by decide)]
    rcases h2.1 w hw with q | q
    · exact Or.inl q
    · exact Or.inr ⟨q.1, fun e he => by rw [f 282 _ (by decide)]; exact q.2 e he⟩
  · obtain ⟨x, y⟩ := h2.2 t ht
    exact ⟨mrow_21 x (fun j _ _ => f 281 j (by decide)), mrow_21 y (fun j _ _ => f 281 j (by decide))⟩
end gRel
