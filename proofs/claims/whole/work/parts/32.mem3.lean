/-! READS AND WRITES of the heap mkS -/
section gMk
variable {X : Nat × (Nat → Int32)} {I : Nat → Nat → Int32} {J : Nat → Nat → Int64} {v : Vt}
theorem ggI_mk {a c k : Nat} (h : gK cst a = c + 1) : ggI (mkS X I J v) a c k = some (I a k) := if_pos h
theorem ggJ_mk {a c k : Nat} (h : gK cst a = c + 1) : ggJ (mkS X I J v) a c k = some (J a k) := if_pos h
theorem ggR_mk {a c k : Nat} (h : gK cst a = c + 1) : ggR (mkS X I J v) a c k = some (Rv v a k) := if_pos h
theorem spI_mk {a c k : Nat} {x : Int32} (h : gK cst a = c + 1) : spI (mkS X I J v) a c k x = some (mkS X (gup I a k x) J v) := if_pos h
theorem spJ_mk {a c k : Nat} {x : Int64} (h : gK cst a = c + 1) : spJ (mkS X I J v) a c k x = some (mkS X I (gup J a k x) v) := if_pos h
theorem gcv_mk {β : Type} {a c : Nat} {o : Option β} (h : gK cst a = c + 1) : gcv (mkS X I J v) a c o = o := if_pos h
theorem L0_ge {r : Nat} (h : 2 ≤ r) : L0 X r = gLn cst r := by
  unfold L0
  rw [if_neg (by omega), if_neg (by omega)]
theorem gaI_mk {a t n : Nat} {i : Int32} (hk : gK cst a = 20 + t) (hl : gLn cst a = n) (h2 : 2 ≤ a) (hi : ¬ (i < 0 ∨ n ≤ i.toNatClampNeg)) : gaI (mkS X I J v) a t i = some (I a i.toNatClampNeg) := if_pos ⟨hk, by show ¬ (_ ∨ L0 X a ≤ _); rw [L0_ge h2, hl]; exact hi⟩
theorem gaJ_mk {a n : Nat} {i : Int32} (hk : gK cst a = 20 + 3) (hl : gLn cst a = n) (h2 : 2 ≤ a) (hi : ¬ (i < 0 ∨ n ≤ i.toNatClampNeg)) : gaJ (mkS X I J v) a i = some (J a i.toNatClampNeg) := if_pos ⟨hk, by show ¬ (_ ∨ L0 X a ≤ _); rw [L0_ge h2, hl]; exact hi⟩
theorem gaR_mk {a t n : Nat} {i : Int32} (hk : gK cst a = 20 + t) (hl : gLn cst a = n) (h2 : 2 ≤ a) (hi : ¬ (i < 0 ∨ n ≤ i.toNatClampNeg)) : gaR (mkS X I J v) a t i = some (Rv v a i.toNatClampNeg) := if_pos ⟨hk, by show ¬ (_ ∨ L0 X a ≤ _); rw [L0_ge h2, hl]; exact hi⟩
theorem saI_mk {a t n : Nat} {i x : Int32} (hk : gK cst a = 20 + t) (hl : gLn cst a = n) (h2 : 2 ≤ a) (hi : ¬ (i < 0 ∨ n ≤ i.toNatClampNeg)) : saI (mkS X I J v) a t i x = some (mkS X (gup I a i.toNatClampNeg (gnar t x)) J v) := if_pos ⟨hk, by show ¬ (_ ∨ L0 X a ≤ _); rw [L0_ge h2, hl]; exact hi⟩
theorem saJ_mk {a n : Nat} {i : Int32} {x : Int64} (hk : gK cst a = 20 + 3) (hl : gLn cst a = n) (h2 : 2 ≤ a) (hi : ¬ (i < 0 ∨ n ≤ i.toNatClampNeg)) : saJ (mkS X I J v) a i x = some (mkS X I (gup J a i.toNatClampNeg x) v) := if_pos ⟨hk, by show ¬ (_ ∨ L0 X a ≤ _); rw [L0_ge h2, hl]; exact hi⟩
theorem glen_mk {a : Nat} (h1 : 20 ≤ gK cst a) (h2 : gK cst a < 28) (h3 : 2 ≤ a) : glen (mkS X I J v) a = some (Int32.ofNat (gLn cst a)) := by
  show (if _ ∧ _ then some (Int32.ofNat (L0 X a)) else none) = _
  rw [if_pos ⟨h1, h2⟩, L0_ge h3]
theorem iZ_in {n m : Nat} (h : n < m) (hm : m < 2147483648) : ¬ (iZ (n : Int) < 0 ∨ m ≤ (iZ (n : Int)).toNatClampNeg) := by
  rw [iZ_clamp (by omega) (by omega), show (0 : Int32) = iZ 0 from rfl, iZ_lt (by omega) (by omega) (by omega) (by omega)]
  omega
theorem iZ_cl {n : Nat} (h : n < 2147483648) : (iZ (n : Int)).toNatClampNeg = n := by
  rw [iZ_clamp (by omega) (by omega)]
  omega
theorem gaI_n {a t m n : Nat} (hk : gK cst a = 20 + t) (hl : gLn cst a = m) (h2 : 2 ≤ a) (hm : m < 2147483648) (h : n < m) : gaI (mkS X I J v) a t (iZ (n : Int)) = some (I a n) := by
  rw [gaI_mk hk hl h2 (iZ_in h hm), iZ_cl (by omega)]
theorem gaJ_n {a m n : Nat} (hk : gK cst a = 20 + 3) (hl : gLn cst a = m) (h2 : 2 ≤ a) (hm : m < 2147483648) (h : n < m) : gaJ (mkS X I J v) a (iZ (n : Int)) = some (J a n) := by
  rw [gaJ_mk hk hl h2 (iZ_in h hm), iZ_cl (by omega)]
theorem gaR_n {a t m n : Nat} (hk : gK cst a = 20 + t) (hl : gLn cst a = m) (h2 : 2 ≤ a) (hm : m < 2147483648) (h : n < m) : gaR (mkS X I J v) a t (iZ (n : Int)) = some (Rv v a n) := by
  rw [gaR_mk hk hl h2 (iZ_in h hm), iZ_cl (by omega)]
theorem saI_n {a t m n : Nat} {x : Int32} (hk : gK cst a = 20 + t) (hl : gLn cst a = m) (h2 : 2 ≤ a) (hm : m < 2147483648) (h : n < m) : saI (mkS X I J v) a t (iZ (n : Int)) x = some (mkS X (gup I a n (gnar t x)) J v) := by
  rw [saI_mk hk hl h2 (iZ_in h hm), iZ_cl (by omega)]
theorem saJ_n {a m n : Nat} {x : Int64} (hk : gK cst a = 20 + 3) (hl : gLn cst a = m) (h2 : 2 ≤ a) (hm : m < 2147483648) (h : n < m) : saJ (mkS X I J v) a (iZ (n : Int)) x = some (mkS X I (gup J a n x) v) := by
  rw [saJ_mk hk hl h2 (iZ_in h hm), iZ_cl (by omega)]
theorem gb2_some {β γ : Type} {r : β} {s : gH} {K : β → gH → Option γ} : gb2 (some (r, s)) K = K r s := rfl
theorem gb2_none {β γ : Type} {K : β → gH → Option γ} : gb2 none K = none := rfl
theorem glet_eq {β γ : Type} {e : β} {f : β → γ} : glet e f = f e := rfl
theorem gjn_eq {β γ : Type} {e : β} {f : β → γ} : gjn e f = f e := rfl
theorem gzr_1 {s : gH} : gzr (some (1, s)) = some (1, s) := rfl
theorem gzr_0 {s : gH} : gzr (some (0, s)) = some (0, s) := rfl
theorem gzr_ite {P : Prop} [Decidable P] {a b : Option (Int32 × gH)} : gzr (if P then a else b) = if P then gzr a else gzr b := by
  split <;> rfl
theorem gup_s {α : Type} {f : Nat → Nat → α} {r k : Nat} {x : α} : gup f r k x r k = x := by simp [gup]
theorem gup_r {α : Type} {f : Nat → Nat → α} {r k a j : Nat} {x : α} (h : a ≠ r) : gup f r k x a j = f a j := by simp [gup, h]
theorem gup_k {α : Type} {f : Nat → Nat → α} {r k a j : Nat} {x : α} (h : j ≠ k) : gup f r k x a j = f a j := by simp [gup, h]
end gMk
set_option maxRecDepth 20000 in
theorem k_50 : gK cst 50 = 12 := by rw [cK 50 (by decide) (by decide)]; rfl
theorem o50 : (∀ (X : Nat × (Nat → Int32)) (I : Nat → Nat → Int32) (J : Nat → Nat → Int64) (v : Vt) k, ggI (mkS X I J v) 50 11 k = some (I 50 k)) ∧ (∀ (X : Nat × (Nat → Int32)) (I : Nat → Nat → Int32) (J : Nat → Nat → Int64) (v : Vt) k, ggJ (mkS X I J v) 50 11 k = some (J 50 k)) ∧ (∀ (X : Nat × (Nat → Int32)) (I : Nat → Nat → Int32) (J : Nat → Nat → Int64) (v : Vt) k x, spI (mkS X I J v) 50 11 k x = some (mkS X (gup I 50 k x) J v)) ∧ (∀ (X : Nat × (Nat → Int32)) (I : Nat → Nat → Int32) (J : Nat → Nat → Int64) (v : Vt) k x, spJ (mkS X I J v) 50 11 k x = some (mkS X I (gup J 50 k x) v)) ∧ (∀ (X : Nat × (Nat → Int32)) (I : Nat → Nat → Int32) (J : Nat → Nat → Int64) (v : Vt) (β : Type) (o : Option β), gcv (mkS X I J v) 50 11 o = o) := ⟨fun _ _ _ _ _ => ggI_mk k_50, fun _ _ _ _ _ => ggJ_mk k_50, fun _ _ _ _ _ _ => spI_mk k_50, fun _ _ _ _ _ _ => spJ_mk k_50, fun _ _ _ _ _ _ => gcv_mk k_50⟩
set_option maxRecDepth 20000 in
theorem o50R0 (X : Nat × (Nat → Int32)) (I : Nat → Nat → Int32) (J : Nat → Nat → Int64) (v : Vt) : ggR (mkS X I J v) 50 11 0 = some 51 := (ggR_mk k_50).trans (congrArg some ((show Rv v 50 0 = gR cst 50 0 by unfold Rv; simp).trans ((cR 50 0 (by decide) (by decide) (by decide)).trans rfl)))
set_option maxRecDepth 20000 in
theorem o50R1 (X : Nat × (Nat → Int32)) (I : Nat → Nat → Int32) (J : Nat → Nat → Int64) (v : Vt) : ggR (mkS X I J v) 50 11 1 = some 53 := (ggR_mk k_50).trans (congrArg some ((show Rv v 50 1 = gR cst 50 1 by unfold Rv; simp).trans ((cR 50 1 (by decide) (by decide) (by decide)).trans rfl)))
set_option maxRecDepth 20000 in
theorem o50R2 (X : Nat × (Nat → Int32)) (I : Nat → Nat → Int32) (J : Nat → Nat → Int64) (v : Vt) : ggR (mkS X I J v) 50 11 2 = some 57 := (ggR_mk k_50).trans (congrArg some ((show Rv v 50 2 = gR cst 50 2 by unfold Rv; simp).trans ((cR 50 2 (by decide) (by decide) (by decide)).trans rfl)))
set_option maxRecDepth 20000 in
theorem o50R3 (X : Nat × (Nat → Int32)) (I : Nat → Nat → Int32) (J : Nat → Nat → Int64) (v : Vt) : ggR (mkS X I J v) 50 11 3 = some 60 := (ggR_mk k_50).trans (congrArg some ((show Rv v 50 3 = gR cst 50 3 by unfold Rv; simp).trans ((cR 50 3 (by decide) (by decide) (by decide)).trans rfl)))
set_option maxRecDepth 20000 in
theorem o50R4 (X : Nat × (Nat → Int32)) (I : Nat → Nat → Int32) (J : Nat → Nat → Int64) (v : Vt) : ggR (mkS X I J v) 50 11 4 = some 143 := (ggR_mk k_50).trans (congrArg some ((show Rv v 50 4 = gR cst 50 4 by unfold Rv; simp).trans ((cR 50 4 (by decide) (by decide) (by decide)).trans rfl)))
set_option maxRecDepth 20000 in
theorem o50R5 (X : Nat × (Nat → Int32)) (I : Nat → Nat → Int32) (J : Nat → Nat → Int64) (v : Vt) : ggR (mkS X I J v) 50 11 5 = some 188 := (ggR_mk k_50).trans (congrArg some ((show Rv v 50 5 = gR cst 50 5 by unfold Rv; simp).trans ((cR 50 5 (by decide) (by decide) (by decide)).trans rfl)))
set_option maxRecDepth 20000 in
theorem o50R6 (X : Nat × (Nat → Int32)) (I : Nat → Nat → Int32) (J : Nat → Nat → Int64) (v : Vt) : ggR (mkS X I J v) 50 11 6 = some 196 := (ggR_mk k_50).trans (congrArg some ((show Rv v 50 6 = gR cst 50 6 by unfold Rv; simp).trans ((cR 50 6 (by decide) (by decide) (by decide)).trans rfl)))
set_option maxRecDepth 20000 in
theorem o50R7 (X : Nat × (Nat → Int32)) (I : Nat → Nat → Int32) (J : Nat → Nat → Int64) (v : Vt) : ggR (mkS X I J v) 50 11 7 = some v.1 := (ggR_mk k_50).trans rfl
set_option maxRecDepth 20000 in
theorem o50R8 (X : Nat × (Nat → Int32)) (I : Nat → Nat → Int32) (J : Nat → Nat → Int64) (v : Vt) : ggR (mkS X I J v) 50 11 8 = some v.2.1 := (ggR_mk k_50).trans rfl
theorem o50R : (∀ (X : Nat × (Nat → Int32)) (I : Nat → Nat → Int32) (J : Nat → Nat → Int64) (v : Vt), ggR (mkS X I J v) 50 11 0 = some 51) ∧ (∀ (X : Nat × (Nat → Int32)) (I : Nat → Nat → Int32) (J : Nat → Nat → Int64) (v : Vt), ggR (mkS X I J v) 50 11 1 = some 53) ∧ (∀ (X : Nat × (Nat → Int32)) (I : Nat → Nat → Int32) (J : Nat → Nat → Int64) (v : Vt), ggR (mkS X I J v) 50 11 2 = some 57) ∧ (∀ (X : Nat × (Nat → Int32)) (I : Nat → Nat → Int32) (J : Nat → Nat → Int64) (v : Vt), ggR (mkS X I J v) 50 11 3 = some 60) ∧ (∀ (X : Nat × (Nat → Int32)) (I : Nat → Nat → Int32) (J : Nat → Nat → Int64) (v : Vt), ggR (mkS X I J v) 50 11 4 = some 143) ∧ (∀ (X : Nat × (Nat → Int32)) (I : Nat → Nat → Int32) (J : Nat → Nat → Int64) (v : Vt), ggR (mkS X I J v) 50 11 5 = some 188) ∧ (∀ (X : Nat × (Nat → Int32)) (I : Nat → Nat → Int32) (J : Nat → Nat → Int64) (v : Vt), ggR (mkS X I J v) 50 11 6 = some 196) ∧ (∀ (X : Nat × (Nat → Int32)) (I : Nat → Nat → Int32) (J : Nat → Nat → Int64) (v : Vt), ggR (mkS X I J v) 50 11 7 = some v.1) ∧ (∀ (X : Nat × (Nat → Int32)) (I : Nat → Nat → Int32) (J : Nat → Nat → Int64) (v : Vt), ggR (mkS X I J v) 50 11 8 = some v.2.1) := ⟨o50R0, o50R1, o50R2, o50R3, o50R4, o50R5, o50R6, o50R7, o50R8⟩
set_option maxRecDepth 20000 in
theorem k_51 : gK cst 51 = 11 := by rw [cK 51 (by decide) (by decide)]; rfl
theorem o51 : (∀ (X : Nat × (Nat → Int32)) (I : Nat → Nat → Int32) (J : Nat → Nat → Int64) (v : Vt) k, ggI (mkS X I J v) 51 10 k = some (I 51 k)) ∧ (∀ (X : Nat × (Nat → Int32)) (I : Nat → Nat → Int32) (J : Nat → Nat → Int64) (v : Vt) k, ggJ (mkS X I J v) 51 10 k = some (J 51 k)) ∧ (∀ (X : Nat × (Nat → Int32)) (I : Nat → Nat → Int32) (J : Nat → Nat → Int64) (v : Vt) k x, spI (mkS X I J v) 51 10 k x = some (mkS X (gup I 51 k x) J v)) ∧ (∀ (X : Nat × (Nat → Int32)) (I : Nat → Nat → Int32) (J : Nat → Nat → Int64) (v : Vt) k x, spJ (mkS X I J v) 51 10 k x = some (mkS X I (gup J 51 k x) v)) ∧ (∀ (X : Nat × (Nat → Int32)) (I : Nat → Nat → Int32) (J : Nat → Nat → Int64) (v : Vt) (β : Type) (o : Option β), gcv (mkS X I J v) 51 10 o = o) := ⟨fun _ _ _ _ _ => ggI_mk k_51, fun _ _ _ _ _ => ggJ_mk k_51, fun _ _ _ _ _ _ => spI_mk k_51, fun _ _ _ _ _ _ => spJ_mk k_51, fun _ _ _ _ _ _ => gcv_mk k_51⟩
set_option maxRecDepth 20000 in
theorem o51R0 (X : Nat × (Nat → Int32)) (I : Nat → Nat → Int32) (J : Nat → Nat → Int64) (v : Vt) : ggR (mkS X I J v) 51 10 0 = some 52 := (ggR_mk k_51).trans (congrArg some ((show Rv v 51 0 = gR cst 51 0 by unfold Rv; simp).trans ((cR 51 0 (by decide) (by decide) (by decide)).trans rfl)))
theorem o51R : (∀ (X : Nat × (Nat → Int32)) (I : Nat → Nat → Int32) (J : Nat → Nat → Int64) (v : Vt), ggR (mkS X I J v) 51 10 0 = some 52) := o51R0
set_option maxRecDepth 20000 in
theorem k_53 : gK cst 53 = 7 := by rw [cK 53 (by decide) (by decide)]; rfl
theorem o53 : (∀ (X : Nat × (Nat → Int32)) (I : Nat → Nat → Int32) (J : Nat → Nat → Int64) (v : Vt) k, ggI (mkS X I J v) 53 6 k = some (I 53 k)) ∧ (∀ (X : Nat × (Nat → Int32)) (I : Nat → Nat → Int32) (J : Nat → Nat → Int64) (v : Vt) k, ggJ (mkS X I J v) 53 6 k = some (J 53 k)) ∧ (∀ (X : Nat × (Nat → Int32)) (I : Nat → Nat → Int32) (J : Nat → Nat → Int64) (v : Vt) k x, spI (mkS X I J v) 53 6 k x = some (mkS X (gup I 53 k x) J v)) ∧ (∀ (X : Nat × (Nat → Int32)) (I : Nat → Nat → Int32) (J : Nat → Nat → Int64) (v : Vt) k x, spJ (mkS X I J v) 53 6 k x = some (mkS X I (gup J 53 k x) v)) ∧ (∀ (X : Nat × (Nat → Int32)) (I : Nat → Nat → Int32) (J : Nat → Nat → Int64) (v : Vt) (β : Type) (o : Option β), gcv (mkS X I J v) 53 6 o = o) := ⟨fun _ _ _ _ _ => ggI_mk k_53, fun _ _ _ _ _ => ggJ_mk k_53, fun _ _ _ _ _ _ => spI_mk k_53, fun _ _ _ _ _ _ => spJ_mk k_53, fun _ _ _ _ _ _ => gcv_mk k_53⟩
set_option maxRecDepth 20000 in
theorem o53R2 (X : Nat × (Nat → Int32)) (I : Nat → Nat → Int32) (J : Nat → Nat → Int64) (v : Vt) : ggR (mkS X I J v) 53 6 2 = some v.2.2.2.2.1 := (ggR_mk k_53).trans rfl
set_option maxRecDepth 20000 in
theorem o53R7 (X : Nat × (Nat → Int32)) (I : Nat → Nat → Int32) (J : Nat → Nat → Int64) (v : Vt) : ggR (mkS X I J v) 53 6 7 = some v.2.2.2.1 := (ggR_mk k_53).trans rfl
set_option maxRecDepth 20000 in
theorem o53R8 (X : Nat × (Nat → Int32)) (I : Nat → Nat → Int32) (J : Nat → Nat → Int64) (v : Vt) : ggR (mkS X I J v) 53 6 8 = some 55 := (ggR_mk k_53).trans (congrArg some ((show Rv v 53 8 = gR cst 53 8 by unfold Rv; simp).trans ((cR 53 8 (by decide) (by decide) (by decide)).trans rfl)))
theorem o53R : (∀ (X : Nat × (Nat → Int32)) (I : Nat → Nat → Int32) (J : Nat → Nat → Int64) (v : Vt), ggR (mkS X I J v) 53 6 2 = some v.2.2.2.2.1) ∧ (∀ (X : Nat × (Nat → Int32)) (I : Nat → Nat → Int32) (J : Nat → Nat → Int64) (v : Vt), ggR (mkS X I J v) 53 6 7 = some v.2.2.2.1) ∧ (∀ (X : Nat × (Nat → Int32)) (I : Nat → Nat → Int32) (J : Nat → Nat → Int64) (v : Vt), ggR (mkS X I J v) 53 6 8 = some 55) := ⟨o53R2, o53R7, o53R8⟩
set_option maxRecDepth 20000 in
theorem k_55 : gK cst 55 = 8 := by rw [cK 55 (by decide) (by decide)]; rfl
theorem o55 : (∀ (X : Nat × (Nat → Int32)) (I : Nat → Nat → Int32) (J : Nat → Nat → Int64) (v : Vt) k, ggI (mkS X I J v) 55 7 k = some (I 55 k)) ∧ (∀ (X : Nat × (Nat → Int32)) (I : Nat → Nat → Int32) (J : Nat → Nat → Int64) (v : Vt) k, ggJ (mkS X I J v) 55 7 k = some (J 55 k)) ∧ (∀ (X : Nat × (Nat → Int32)) (I : Nat → Nat → Int32) (J : Nat → Nat → Int64) (v : Vt) k x, spI (mkS X I J v) 55 7 k x = some (mkS X (gup I 55 k x) J v)) ∧ (∀ (X : Nat × (Nat → Int32)) (I : Nat → Nat → Int32) (J : Nat → Nat → Int64) (v : Vt) k x, spJ (mkS X I J v) 55 7 k x = some (mkS X I (gup J 55 k x) v)) ∧ (∀ (X : Nat × (Nat → Int32)) (I : Nat → Nat → Int32) (J : Nat → Nat → Int64) (v : Vt) (β : Type) (o : Option β), gcv (mkS X I J v) 55 7 o = o) := ⟨fun _ _ _ _ _ => ggI_mk k_55, fun _ _ _ _ _ => ggJ_mk k_55, fun _ _ _ _ _ _ => spI_mk k_55, fun _ _ _ _ _ _ => spJ_mk k_55, fun _ _ _ _ _ _ => gcv_mk k_55⟩
set_option maxRecDepth 20000 in
theorem o55R0 (X : Nat × (Nat → Int32)) (I : Nat → Nat → Int32) (J : Nat → Nat → Int64) (v : Vt) : ggR (mkS X I J v) 55 7 0 = some 56 := (ggR_mk k_55).trans (congrArg some ((show Rv v 55 0 = gR cst 55 0 by unfold Rv; simp).trans ((cR 55 0 (by decide) (by decide) (by decide)).trans rfl)))
theorem o55R : (∀ (X : Nat × (Nat → Int32)) (I : Nat → Nat → Int32) (J : Nat → Nat → Int64) (v : Vt), ggR (mkS X I J v) 55 7 0 = some 56) := o55R0
set_option maxRecDepth 20000 in
theorem k_57 : gK cst 57 = 4 := by rw [cK 57 (by decide) (by decide)]; rfl
theorem o57 : (∀ (X : Nat × (Nat → Int32)) (I : Nat → Nat → Int32) (J : Nat → Nat → Int64) (v : Vt) k, ggI (mkS X I J v) 57 3 k = some (I 57 k)) ∧ (∀ (X : Nat × (Nat → Int32)) (I : Nat → Nat → Int32) (J : Nat → Nat → Int64) (v : Vt) k, ggJ (mkS X I J v) 57 3 k = some (J 57 k)) ∧ (∀ (X : Nat × (Nat → Int32)) (I : Nat → Nat → Int32) (J : Nat → Nat → Int64) (v : Vt) k x, spI (mkS X I J v) 57 3 k x = some (mkS X (gup I 57 k x) J v)) ∧ (∀ (X : Nat × (Nat → Int32)) (I : Nat → Nat → Int32) (J : Nat → Nat → Int64) (v : Vt) k x, spJ (mkS X I J v) 57 3 k x = some (mkS X I (gup J 57 k x) v)) ∧ (∀ (X : Nat × (Nat → Int32)) (I : Nat → Nat → Int32) (J : Nat → Nat → Int64) (v : Vt) (β : Type) (o : Option β), gcv (mkS X I J v) 57 3 o = o) := ⟨fun _ _ _ _ _ => ggI_mk k_57, fun _ _ _ _ _ => ggJ_mk k_57, fun _ _ _ _ _ _ => spI_mk k_57, fun _ _ _ _ _ _ => spJ_mk k_57, fun _ _ _ _ _ _ => gcv_mk k_57⟩
set_option maxRecDepth 20000 in
theorem o57R0 (X : Nat × (Nat → Int32)) (I : Nat → Nat → Int32) (J : Nat → Nat → Int64) (v : Vt) : ggR (mkS X I J v) 57 3 0 = some 58 := (ggR_mk k_57).trans (congrArg some ((show Rv v 57 0 = gR cst 57 0 by unfold Rv; simp).trans ((cR 57 0 (by decide) (by decide) (by decide)).trans rfl)))
set_option maxRecDepth 20000 in
theorem o57R1 (X : Nat × (Nat → Int32)) (I : Nat → Nat → Int32) (J : Nat → Nat → Int64) (v : Vt) : ggR (mkS X I J v) 57 3 1 = some 59 := (ggR_mk k_57).trans (congrArg some ((show Rv v 57 1 = gR cst 57 1 by unfold Rv; simp).trans ((cR 57 1 (by decide) (by decide) (by decide)).trans rfl)))
theorem o57R : (∀ (X : Nat × (Nat → Int32)) (I : Nat → Nat → Int32) (J : Nat → Nat → Int64) (v : Vt), ggR (mkS X I J v) 57 3 0 = some 58) ∧ (∀ (X : Nat × (Nat → Int32)) (I : Nat → Nat → Int32) (J : Nat → Nat → Int64) (v : Vt), ggR (mkS X I J v) 57 3 1 = some 59) := ⟨o57R0, o57R1⟩
set_option maxRecDepth 20000 in
theorem k_58 : gK cst 58 = 1 := by rw [cK 58 (by decide) (by decide)]; rfl
theorem o58 : (∀ (X : Nat × (Nat → Int32)) (I : Nat → Nat → Int32) (J : Nat → Nat → Int64) (v : Vt) k, ggI (mkS X I J v) 58 0 k = some (I 58 k)) ∧ (∀ (X : Nat × (Nat → Int32)) (I : Nat → Nat → Int32) (J : Nat → Nat → Int64) (v : Vt) k, ggJ (mkS X I J v) 58 0 k = some (J 58 k)) ∧ (∀ (X : Nat × (Nat → Int32)) (I : Nat → Nat → Int32) (J : Nat → Nat → Int64) (v : Vt) k x, spI (mkS X I J v) 58 0 k x = some (mkS X (gup I 58 k x) J v)) ∧ (∀ (X : Nat × (Nat → Int32)) (I : Nat → Nat → Int32) (J : Nat → Nat → Int64) (v : Vt) k x, spJ (mkS X I J v) 58 0 k x = some (mkS X I (gup J 58 k x) v)) ∧ (∀ (X : Nat × (Nat → Int32)) (I : Nat → Nat → Int32) (J : Nat → Nat → Int64) (v : Vt) (β : Type) (o : Option β), gcv (mkS X I J v) 58 0 o = o) := ⟨fun _ _ _ _ _ => ggI_mk k_58, fun _ _ _ _ _ => ggJ_mk k_58, fun _ _ _ _ _ _ => spI_mk k_58, fun _ _ _ _ _ _ => spJ_mk k_58, fun _ _ _ _ _ _ => gcv_mk k_58⟩
set_option maxRecDepth 20000 in
theorem k_60 : gK cst 60 = 6 := by rw [cK 60 (by decide) (by decide)]; rfl
theorem o60 : (∀ (X : Nat × (Nat → Int32)) (I : Nat → Nat → Int32) (J : Nat → Nat → Int64) (v : Vt) k, ggI (mkS X I J v) 60 5 k = some (I 60 k)) ∧ (∀ (X : Nat × (Nat → Int32)) (I : Nat → Nat → Int32) (J : Nat → Nat → Int64) (v : Vt) k, ggJ (mkS X I J v) 60 5 k = some (J 60 k)) ∧ (∀ (X : Nat × (Nat → Int32)) (I : Nat → Nat → Int32) (J : Nat → Nat → Int64) (v : Vt) k x, spI (mkS X I J v) 60 5 k x = some (mkS X (gup I 60 k x) J v)) ∧ (∀ (X : Nat × (Nat → Int32)) (I : Nat → Nat → Int32) (J : Nat → Nat → Int64) (v : Vt) k x, spJ (mkS X I J v) 60 5 k x = some (mkS X I (gup J 60 k x) v)) ∧ (∀ (X : Nat × (Nat → Int32)) (I : Nat → Nat → Int32) (J : Nat → Nat → Int64) (v : Vt) (β : Type) (o : Option β), gcv (mkS X I J v) 60 5 o = o) := ⟨fun _ _ _ _ _ => ggI_mk k_60, fun _ _ _ _ _ => ggJ_mk k_60, fun _ _ _ _ _ _ => spI_mk k_60, fun _ _ _ _ _ _ => spJ_mk k_60, fun _ _ _ _ _ _ => gcv_mk k_60⟩
set_option maxRecDepth 20000 in
theorem o60R0 (X : Nat × (Nat → Int32)) (I : Nat → Nat → Int32) (J : Nat → Nat → Int64) (v : Vt) : ggR (mkS X I J v) 60 5 0 = some 57 := (ggR_mk k_60).trans (congrArg some ((show Rv v 60 0 = gR cst 60 0 by unfold Rv; simp).trans ((cR 60 0 (by decide) (by decide) (by decide)).trans rfl)))
set_option maxRecDepth 20000 in
theorem o60R1 (X : Nat × (Nat → Int32)) (I : Nat → Nat → Int32) (J : Nat → Nat → Int64) (v : Vt) : ggR (mkS X I J v) 60 5 1 = some 61 := (ggR_mk k_60).trans (congrArg some ((show Rv v 60 1 = gR cst 60 1 by unfold Rv; simp).trans ((cR 60 1 (by decide) (by decide) (by decide)).trans rfl)))
set_option maxRecDepth 20000 in
theorem o60R2 (X : Nat × (Nat → Int32)) (I : Nat → Nat → Int32) (J : Nat → Nat → Int64) (v : Vt) : ggR (mkS X I J v) 60 5 2 = some 62 := (ggR_mk k_60).trans (congrArg some ((show Rv v 60 2 = gR cst 60 2 by unfold Rv; simp).trans ((cR 60 2 (by decide) (by decide) (by decide)).trans rfl)))
set_option maxRecDepth 20000 in
theorem o60R3 (X : Nat × (Nat → Int32)) (I : Nat → Nat → Int32) (J : Nat → Nat → Int64) (v : Vt) : ggR (mkS X I J v) 60 5 3 = some 63 := (ggR_mk k_60).trans (congrArg some ((show Rv v 60 3 = gR cst 60 3 by unfold Rv; simp).trans ((cR 60 3 (by decide) (by decide) (by decide)).trans rfl)))
set_option maxRecDepth 20000 in
theorem o60R4 (X : Nat × (Nat → Int32)) (I : Nat → Nat → Int32) (J : Nat → Nat → Int64) (v : Vt) : ggR (mkS X I J v) 60 5 4 = some 64 := (ggR_mk k_60).trans (congrArg some ((show Rv v 60 4 = gR cst 60 4 by unfold Rv; simp).trans ((cR 60 4 (by decide) (by decide) (by decide)).trans rfl)))
set_option maxRecDepth 20000 in
theorem o60R5 (X : Nat × (Nat → Int32)) (I : Nat → Nat → Int32) (J : Nat → Nat → Int64) (v : Vt) : ggR (mkS X I J v) 60 5 5 = some v.2.2.1 := (ggR_mk k_60).trans rfl
theorem o60R : (∀ (X : Nat × (Nat → Int32)) (I : Nat → Nat → Int32) (J : Nat → Nat → Int64) (v : Vt), ggR (mkS X I J v) 60 5 0 = some 57) ∧ (∀ (X : Nat × (Nat → Int32)) (I : Nat → Nat → Int32) (J : Nat → Nat → Int64) (v : Vt), ggR (mkS X I J v) 60 5 1 = some 61) ∧ (∀ (X : Nat × (Nat → Int32)) (I : Nat → Nat → Int32) (J : Nat → Nat → Int64) (v : Vt), ggR (mkS X I J v) 60 5 2 = some 62) ∧ (∀ (X : Nat × (Nat → Int32)) (I : Nat → Nat → Int32) (J : Nat → Nat → Int64) (v : Vt), ggR (mkS X I J v) 60 5 3 = some 63) ∧ (∀ (X : Nat × (Nat → Int32)) (I : Nat → Nat → Int32) (J : Nat → Nat → Int64) (v : Vt), ggR (mkS X I J v) 60 5 4 = some 64) ∧ (∀ (X : Nat × (Nat → Int32)) (I : Nat → Nat → Int32) (J : Nat → Nat → Int64) (v : Vt), ggR (mkS X I J v) 60 5 5 = some v.2.2.1) := ⟨o60R0, o60R1, o60R2, o60R3, o60R4, o60R5⟩
set_option maxRecDepth 20000 in
theorem k_143 : gK cst 143 = 5 := by rw [cK 143 (by decide) (by decide)]; rfl
theorem o143 : (∀ (X : Nat × (Nat → Int32)) (I : Nat → Nat → Int32) (J : Nat → Nat → Int64) (v : Vt) k, ggI (mkS X I J v) 143 4 k = some (I 143 k)) ∧ (∀ (X : Nat × (Nat → Int32)) (I : Nat → Nat → Int32) (J : Nat → Nat → Int64) (v : Vt) k, ggJ (mkS X I J v) 143 4 k = some (J 143 k)) ∧ (∀ (X : Nat × (Nat → Int32)) (I : Nat → Nat → Int32) (J : Nat → Nat → Int64) (v : Vt) k x, spI (mkS X I J v) 143 4 k x = some (mkS X (gup I 143 k x) J v)) ∧ (∀ (X : Nat × (Nat → Int32)) (I : Nat → Nat → Int32) (J : Nat → Nat → Int64) (v : Vt) k x, spJ (mkS X I J v) 143 4 k x = some (mkS X I (gup J 143 k x) v)) ∧ (∀ (X : Nat × (Nat → Int32)) (I : Nat → Nat → Int32) (J : Nat → Nat → Int64) (v : Vt) (β : Type) (o : Option β), gcv (mkS X I J v) 143 4 o = o) := ⟨fun _ _ _ _ _ => ggI_mk k_143, fun _ _ _ _ _ => ggJ_mk k_143, fun _ _ _ _ _ _ => spI_mk k_143, fun _ _ _ _ _ _ => spJ_mk k_143, fun _ _ _ _ _ _ => gcv_mk k_143⟩
set_option maxRecDepth 20000 in
theorem o143R0 (X : Nat × (Nat → Int32)) (I : Nat → Nat → Int32) (J : Nat → Nat → Int64) (v : Vt) : ggR (mkS X I J v) 143 4 0 = some 144 := (ggR_mk k_143).trans (congrArg some ((show Rv v 143 0 = gR cst 143 0 by unfold Rv; simp).trans ((cR 143 0 (by decide) (by decide) (by decide)).trans rfl)))
set_option maxRecDepth 20000 in
theorem o143R1 (X : Nat × (Nat → Int32)) (I : Nat → Nat → Int32) (J : Nat → Nat → Int64) (v : Vt) : ggR (mkS X I J v) 143 4 1 = some 145 := (ggR_mk k_143).trans (congrArg some ((show Rv v 143 1 = gR cst 143 1 by unfold Rv; simp).trans ((cR 143 1 (by decide) (by decide) (by decide)).trans rfl)))
set_option maxRecDepth 20000 in
theorem o143R2 (X : Nat × (Nat → Int32)) (I : Nat → Nat → Int32) (J : Nat → Nat → Int64) (v : Vt) : ggR (mkS X I J v) 143 4 2 = some 146 := (ggR_mk k_143).trans (congrArg some ((show Rv v 143 2 = gR cst 143 2 by unfold Rv; simp).trans ((cR 143 2 (by decide) (by decide) (by decide)).trans rfl)))
set_option maxRecDepth 20000 in
theorem o143R3 (X : Nat × (Nat → Int32)) (I : Nat → Nat → Int32) (J : Nat → Nat → Int64) (v : Vt) : ggR (mkS X I J v) 143 4 3 = some 147 := (ggR_mk k_143).trans (congrArg some ((show Rv v 143 3 = gR cst 143 3 by unfold Rv; simp).trans ((cR 143 3 (by decide) (by decide) (by decide)).trans rfl)))
theorem o143R : (∀ (X : Nat × (Nat → Int32)) (I : Nat → Nat → Int32) (J : Nat → Nat → Int64) (v : Vt), ggR (mkS X I J v) 143 4 0 = some 144) ∧ (∀ (X : Nat × (Nat → Int32)) (I : Nat → Nat → Int32) (J : Nat → Nat → Int64) (v : Vt), ggR (mkS X I J v) 143 4 1 = some 145) ∧ (∀ (X : Nat × (Nat → Int32)) (I : Nat → Nat → Int32) (J : Nat → Nat → Int64) (v : Vt), ggR (mkS X I J v) 143 4 2 = some 146) ∧ (∀ (X : Nat × (Nat → Int32)) (I : Nat → Nat → Int32) (J : Nat → Nat → Int64) (v : Vt), ggR (mkS X I J v) 143 4 3 = some 147) := ⟨o143R0, o143R1, o143R2, o143R3⟩
set_option maxRecDepth 20000 in
theorem k_188 : gK cst 188 = 10 := by rw [cK 188 (by decide) (by decide)]; rfl
theorem o188 : (∀ (X : Nat × (Nat → Int32)) (I : Nat → Nat → Int32) (J : Nat → Nat → Int64) (v : Vt) k, ggI (mkS X I J v) 188 9 k = some (I 188 k)) ∧ (∀ (X : Nat × (Nat → Int32)) (I : Nat → Nat → Int32) (J : Nat → Nat → Int64) (v : Vt) k, ggJ (mkS X I J v) 188 9 k = some (J 188 k)) ∧ (∀ (X : Nat × (Nat → Int32)) (I : Nat → Nat → Int32) (J : Nat → Nat → Int64) (v : Vt) k x, spI (mkS X I J v) 188 9 k x = some (mkS X (gup I 188 k x) J v)) ∧ (∀ (X : Nat × (Nat → Int32)) (I : Nat → Nat → Int32) (J : Nat → Nat → Int64) (v : Vt) k x, spJ (mkS X I J v) 188 9 k x = some (mkS X I (gup J 188 k x) v)) ∧ (∀ (X : Nat × (Nat → Int32)) (I : Nat → Nat → Int32) (J : Nat → Nat → Int64) (v : Vt) (β : Type) (o : Option β), gcv (mkS X I J v) 188 9 o = o) := ⟨fun _ _ _ _ _ => ggI_mk k_188, fun _ _ _ _ _ => ggJ_mk k_188, fun _ _ _ _ _ _ => spI_mk k_188, fun _ _ _ _ _ _ => spJ_mk k_188, fun _ _ _ _ _ _ => gcv_mk k_188⟩
set_option maxRecDepth 20000 in
theorem o188R0 (X : Nat × (Nat → Int32)) (I : Nat → Nat → Int32) (J : Nat → Nat → Int64) (v : Vt) : ggR (mkS X I J v) 188 9 0 = some 57 := (ggR_mk k_188).trans (congrArg some ((show Rv v 188 0 = gR cst 188 0 by unfold Rv; simp).trans ((cR 188 0 (by decide) (by decide) (by decide)).trans rfl)))
set_option maxRecDepth 20000 in
theorem o188R1 (X : Nat × (Nat → Int32)) (I : Nat → Nat → Int32) (J : Nat → Nat → Int64) (v : Vt) : ggR (mkS X I J v) 188 9 1 = some 189 := (ggR_mk k_188).trans (congrArg some ((show Rv v 188 1 = gR cst 188 1 by unfold Rv; simp).trans ((cR 188 1 (by decide) (by decide) (by decide)).trans rfl)))
set_option maxRecDepth 20000 in
theorem o188R2 (X : Nat × (Nat → Int32)) (I : Nat → Nat → Int32) (J : Nat → Nat → Int64) (v : Vt) : ggR (mkS X I J v) 188 9 2 = some 191 := (ggR_mk k_188).trans (congrArg some ((show Rv v 188 2 = gR cst 188 2 by unfold Rv; simp).trans ((cR 188 2 (by decide) (by decide) (by decide)).trans rfl)))
set_option maxRecDepth 20000 in
theorem o188R3 (X : Nat × (Nat → Int32)) (I : Nat → Nat → Int32) (J : Nat → Nat → Int64) (v : Vt) : ggR (mkS X I J v) 188 9 3 = some 192 := (ggR_mk k_188).trans (congrArg some ((show Rv v 188 3 = gR cst 188 3 by unfold Rv; simp).trans ((cR 188 3 (by decide) (by decide) (by decide)).trans rfl)))
set_option maxRecDepth 20000 in
theorem o188R4 (X : Nat × (Nat → Int32)) (I : Nat → Nat → Int32) (J : Nat → Nat → Int64) (v : Vt) : ggR (mkS X I J v) 188 9 4 = some 193 := (ggR_mk k_188).trans (congrArg some ((show Rv v 188 4 = gR cst 188 4 by unfold Rv; simp).trans ((cR 188 4 (by decide) (by decide) (by decide)).trans rfl)))
set_option maxRecDepth 20000 in
theorem o188R5 (X : Nat × (Nat → Int32)) (I : Nat → Nat → Int32) (J : Nat → Nat → Int64) (v : Vt) : ggR (mkS X I J v) 188 9 5 = some 194 := (ggR_mk k_188).trans (congrArg some ((show Rv v 188 5 = gR cst 188 5 by unfold Rv; simp).trans ((cR 188 5 (by decide) (by decide) (by decide)).trans rfl)))
set_option maxRecDepth 20000 in
theorem o188R6 (X : Nat × (Nat → Int32)) (I : Nat → Nat → Int32) (J : Nat → Nat → Int64) (v : Vt) : ggR (mkS X I J v) 188 9 6 = some v.2.2.2.2.2 := (ggR_mk k_188).trans rfl
theorem o188R : (∀ (X : Nat × (Nat → Int32)) (I : Nat → Nat → Int32) (J : Nat → Nat → Int64) (v : Vt), ggR (mkS X I J v) 188 9 0 = some 57) ∧ (∀ (X : Nat × (Nat → Int32)) (I : Nat → Nat → Int32) (J : Nat → Nat → Int64) (v : Vt), ggR (mkS X I J v) 188 9 1 = some 189) ∧ (∀ (X : Nat × (Nat → Int32)) (I : Nat → Nat → Int32) (J : Nat → Nat → Int64) (v : Vt), ggR (mkS X I J v) 188 9 2 = some 191) ∧ (∀ (X : Nat × (Nat → Int32)) (I : Nat → Nat → Int32) (J : Nat → Nat → Int64) (v : Vt), ggR (mkS X I J v) 188 9 3 = some 192) ∧ (∀ (X : Nat × (Nat → Int32)) (I : Nat → Nat → Int32) (J : Nat → Nat → Int64) (v : Vt), ggR (mkS X I J v) 188 9 4 = some 193) ∧ (∀ (X : Nat × (Nat → Int32)) (I : Nat → Nat → Int32) (J : Nat → Nat → Int64) (v : Vt), ggR (mkS X I J v) 188 9 5 = some 194) ∧ (∀ (X : Nat × (Nat → Int32)) (I : Nat → Nat → Int32) (J : Nat → Nat → Int64) (v : Vt), ggR (mkS X I J v) 188 9 6 = some v.2.2.2.2.2) := ⟨o188R0, o188R1, o188R2, o188R3, o188R4, o188R5, o188R6⟩
set_option maxRecDepth 20000 in
theorem k_194 : gK cst 194 = 8 := by rw [cK 194 (by decide) (by decide)]; rfl
theorem o194 : (∀ (X : Nat × (Nat → Int32)) (I : Nat → Nat → Int32) (J : Nat → Nat → Int64) (v : Vt) k, ggI (mkS X I J v) 194 7 k = some (I 194 k)) ∧ (∀ (X : Nat × (Nat → Int32)) (I : Nat → Nat → Int32) (J : Nat → Nat → Int64) (v : Vt) k, ggJ (mkS X I J v) 194 7 k = some (J 194 k)) ∧ (∀ (X : Nat × (Nat → Int32)) (I : Nat → Nat → Int32) (J : Nat → Nat → Int64) (v : Vt) k x, spI (mkS X I J v) 194 7 k x = some (mkS X (gup I 194 k x) J v)) ∧ (∀ (X : Nat × (Nat → Int32)) (I : Nat → Nat → Int32) (J : Nat → Nat → Int64) (v : Vt) k x, spJ (mkS X I J v) 194 7 k x = some (mkS X I (gup J 194 k x) v)) ∧ (∀ (X : Nat × (Nat → Int32)) (I : Nat → Nat → Int32) (J : Nat → Nat → Int64) (v : Vt) (β : Type) (o : Option β), gcv (mkS X I J v) 194 7 o = o) := ⟨fun _ _ _ _ _ => ggI_mk k_194, fun _ _ _ _ _ => ggJ_mk k_194, fun _ _ _ _ _ _ => spI_mk k_194, fun _ _ _ _ _ _ => spJ_mk k_194, fun _ _ _ _ _ _ => gcv_mk k_194⟩
set_option maxRecDepth 20000 in
theorem o194R0 (X : Nat × (Nat → Int32)) (I : Nat → Nat → Int32) (J : Nat → Nat → Int64) (v : Vt) : ggR (mkS X I J v) 194 7 0 = some 195 := (ggR_mk k_194).trans (congrArg some ((show Rv v 194 0 = gR cst 194 0 by unfold Rv; simp).trans ((cR 194 0 (by decide) (by decide) (by decide)).trans rfl)))
theorem o194R : (∀ (X : Nat × (Nat → Int32)) (I : Nat → Nat → Int32) (J : Nat → Nat → Int64) (v : Vt), ggR (mkS X I J v) 194 7 0 = some 195) := o194R0
set_option maxRecDepth 20000 in
theorem k_267 : gK cst 267 = 13 := by rw [cK 267 (by decide) (by decide)]; rfl
theorem o267 : (∀ (X : Nat × (Nat → Int32)) (I : Nat → Nat → Int32) (J : Nat → Nat → Int64) (v : Vt) k, ggI (mkS X I J v) 267 12 k = some (I 267 k)) ∧ (∀ (X : Nat × (Nat → Int32)) (I : Nat → Nat → Int32) (J : Nat → Nat → Int64) (v : Vt) k, ggJ (mkS X I J v) 267 12 k = some (J 267 k)) ∧ (∀ (X : Nat × (Nat → Int32)) (I : Nat → Nat → Int32) (J : Nat → Nat → Int64) (v : Vt) k x, spI (mkS X I J v) 267 12 k x = some (mkS X (gup I 267 k x) J v)) ∧ (∀ (X : Nat × (Nat → Int32)) (I : Nat → Nat → Int32) (J : Nat → Nat → Int64) (v : Vt) k x, spJ (mkS X I J v) 267 12 k x = some (mkS X I (gup J 267 k x) v)) ∧ (∀ (X : Nat × (Nat → Int32)) (I : Nat → Nat → Int32) (J : Nat → Nat → Int64) (v : Vt) (β : Type) (o : Option β), gcv (mkS X I J v) 267 12 o = o) := ⟨fun _ _ _ _ _ => ggI_mk k_267, fun _ _ _ _ _ => ggJ_mk k_267, fun _ _ _ _ _ _ => spI_mk k_267, fun _ _ _ _ _ _ => spJ_mk k_267, fun _ _ _ _ _ _ => gcv_mk k_267⟩
set_option maxRecDepth 20000 in
theorem o267R0 (X : Nat × (Nat → Int32)) (I : Nat → Nat → Int32) (J : Nat → Nat → Int64) (v : Vt) : ggR (mkS X I J v) 267 12 0 = some 268 := (ggR_mk k_267).trans (congrArg some ((show Rv v 267 0 = gR cst 267 0 by unfold Rv; simp).trans ((cR 267 0 (by decide) (by decide) (by decide)).trans rfl)))
set_option maxRecDepth 20000 in
theorem o267R9 (X : Nat × (Nat → Int32)) (I : Nat → Nat → Int32) (J : Nat → Nat → Int64) (v : Vt) : ggR (mkS X I J v) 267 12 9 = some 269 := (ggR_mk k_267).trans (congrArg some ((show Rv v 267 9 = gR cst 267 9 by unfold Rv; simp).trans ((cR 267 9 (by decide) (by decide) (by decide)).trans rfl)))
set_option maxRecDepth 20000 in
theorem o267R11 (X : Nat × (Nat → Int32)) (I : Nat → Nat → Int32) (J : Nat → Nat → Int64) (v : Vt) : ggR (mkS X I J v) 267 12 11 = some 270 := (ggR_mk k_267).trans (congrArg some ((show Rv v 267 11 = gR cst 267 11 by unfold Rv; simp).trans ((cR 267 11 (by decide) (by decide) (by decide)).trans rfl)))
set_option maxRecDepth 20000 in
theorem o267R13 (X : Nat × (Nat → Int32)) (I : Nat → Nat → Int32) (J : Nat → Nat → Int64) (v : Vt) : ggR (mkS X I J v) 267 12 13 = some 271 := (ggR_mk k_267).trans (congrArg some ((show Rv v 267 13 = gR cst 267 13 by unfold Rv; simp).trans ((cR 267 13 (by decide) (by decide) (by decide)).trans rfl)))
set_option maxRecDepth 20000 in
theorem o267R14 (X : Nat × (Nat → Int32)) (I : Nat → Nat → Int32) (J : Nat → Nat → Int64) (v : Vt) : ggR (mkS X I J v) 267 12 14 = some 272 := (ggR_mk k_267).trans (congrArg some ((show Rv v 267 14 = gR cst 267 14 by unfold Rv; simp).trans ((cR 267 14 (by decide) (by decide) (by decide)).trans rfl)))
set_option maxRecDepth 20000 in
theorem o267R15 (X : Nat × (Nat → Int32)) (I : Nat → Nat → Int32) (J : Nat → Nat → Int64) (v : Vt) : ggR (mkS X I J v) 267 12 15 = some 273 := (ggR_mk k_267).trans (congrArg some ((show Rv v 267 15 = gR cst 267 15 by unfold Rv; simp).trans ((cR 267 15 (by decide) (by decide) (by decide)).trans rfl)))
set_option maxRecDepth 20000 in
theorem o267R16 (X : Nat × (Nat → Int32)) (I : Nat → Nat → Int32) (J : Nat → Nat → Int64) (v : Vt) : ggR (mkS X I J v) 267 12 16 = some 274 := (ggR_mk k_267).trans (congrArg some ((show Rv v 267 16 = gR cst 267 16 by unfold Rv; simp).trans ((cR 267 16 (by decide) (by decide) (by decide)).trans rfl)))
set_option maxRecDepth 20000 in
theorem o267R18 (X : Nat × (Nat → Int32)) (I : Nat → Nat → Int32) (J : Nat → Nat → Int64) (v : Vt) : ggR (mkS X I J v) 267 12 18 = some 275 := (ggR_mk k_267).trans (congrArg some ((show Rv v 267 18 = gR cst 267 18 by unfold Rv; simp).trans ((cR 267 18 (by decide) (by decide) (by decide)).trans rfl)))
set_option maxRecDepth 20000 in
theorem o267R19 (X : Nat × (Nat → Int32)) (I : Nat → Nat → Int32) (J : Nat → Nat → Int64) (v : Vt) : ggR (mkS X I J v) 267 12 19 = some 276 := (ggR_mk k_267).trans (congrArg some ((show Rv v 267 19 = gR cst 267 19 by unfold Rv; simp).trans ((cR 267 19 (by decide) (by decide) (by decide)).trans rfl)))
set_option maxRecDepth 20000 in
theorem o267R20 (X : Nat × (Nat → Int32)) (I : Nat → Nat → Int32) (J : Nat → Nat → Int64) (v : Vt) : ggR (mkS X I J v) 267 12 20 = some 277 := (ggR_mk k_267).trans (congrArg some ((show Rv v 267 20 = gR cst 267 20 by unfold Rv; simp).trans ((cR 267 20 (by decide) (by decide) (by decide)).trans rfl)))
set_option maxRecDepth 20000 in
theorem o267R21 (X : Nat × (Nat → Int32)) (I : Nat → Nat → Int32) (J : Nat → Nat → Int64) (v : Vt) : ggR (mkS X I J v) 267 12 21 = some 278 := (ggR_mk k_267).trans (congrArg some ((show Rv v 267 21 = gR cst 267 21 by unfold Rv; simp).trans ((cR 267 21 (by decide) (by decide) (by decide)).trans rfl)))
set_option maxRecDepth 20000 in
theorem o267R25 (X : Nat × (Nat → Int32)) (I : Nat → Nat → Int32) (J : Nat → Nat → Int64) (v : Vt) : ggR (mkS X I J v) 267 12 25 = some 279 := (ggR_mk k_267).trans (congrArg some ((show Rv v 267 25 = gR cst 267 25 by unfold Rv; simp).trans ((cR 267 25 (by decide) (by decide) (by decide)).trans rfl)))
set_option maxRecDepth 20000 in
theorem o267R28 (X : Nat × (Nat → Int32)) (I : Nat → Nat → Int32) (J : Nat → Nat → Int64) (v : Vt) : ggR (mkS X I J v) 267 12 28 = some 280 := (ggR_mk k_267).trans (congrArg some ((show Rv v 267 28 = gR cst 267 28 by unfold Rv; simp).trans ((cR 267 28 (by decide) (by decide) (by decide)).trans rfl)))
set_option maxRecDepth 20000 in
theorem o267R29 (X : Nat × (Nat → Int32)) (I : Nat → Nat → Int32) (J : Nat → Nat → Int64) (v : Vt) : ggR (mkS X I J v) 267 12 29 = some 281 := (ggR_mk k_267).trans (congrArg some ((show Rv v 267 29 = gR cst 267 29 by unfold Rv; simp).trans ((cR 267 29 (by decide) (by decide) (by decide)).trans rfl)))
set_option maxRecDepth 20000 in
theorem o267R30 (X : Nat × (Nat → Int32)) (I : Nat → Nat → Int32) (J : Nat → Nat → Int64) (v : Vt) : ggR (mkS X I J v) 267 12 30 = some 282 := (ggR_mk k_267).trans (congrArg some ((show Rv v 267 30 = gR cst 267 30 by unfold Rv; simp).trans ((cR 267 30 (by decide) (by decide) (by decide)).trans rfl)))
set_option maxRecDepth 20000 in
theorem o267R31 (X : Nat × (Nat → Int32)) (I : Nat → Nat → Int32) (J : Nat → Nat → Int64) (v : Vt) : ggR (mkS X I J v) 267 12 31 = some 283 := (ggR_mk k_267).trans (congrArg some ((show Rv v 267 31 = gR cst 267 31 by unfold Rv; simp).trans ((cR 267 31 (by decide) (by decide) (by decide)).trans rfl)))
set_option maxRecDepth 20000 in
theorem o267R32 (X : Nat × (Nat → Int32)) (I : Nat → Nat → Int32) (J : Nat → Nat → Int64) (v : Vt) : ggR (mkS X I J v) 267 12 32 = some 284 := (ggR_mk k_267).trans (congrArg some ((show Rv v 267 32 = gR cst 267 32 by unfold Rv; simp).trans ((cR 267 32 (by decide) (by decide) (by decide)).trans rfl)))
set_option maxRecDepth 20000 in
theorem o267R33 (X : Nat × (Nat → Int32)) (I : Nat → Nat → Int32) (J : Nat → Nat → Int64) (v : Vt) : ggR (mkS X I J v) 267 12 33 = some 285 := (ggR_mk k_267).trans (congrArg some ((show Rv v 267 33 = gR cst 267 33 by unfold Rv; simp).trans ((cR 267 33 (by decide) (by decide) (by decide)).trans rfl)))
set_option maxRecDepth 20000 in
theorem o267R35 (X : Nat × (Nat → Int32)) (I : Nat → Nat → Int32) (J : Nat → Nat → Int64) (v : Vt) : ggR (mkS X I J v) 267 12 35 = some 286 := (ggR_mk k_267).trans (congrArg some ((show Rv v 267 35 = gR cst 267 35 by unfold Rv; simp).trans ((cR 267 35 (by decide) (by decide) (by decide)).trans rfl)))
set_option maxRecDepth 20000 in
theorem o267R38 (X : Nat × (Nat → Int32)) (I : Nat → Nat → Int32) (J : Nat → Nat → Int64) (v : Vt) : ggR (mkS X I J v) 267 12 38 = some 287 := (ggR_mk k_267).trans (congrArg some ((show Rv v 267 38 = gR cst 267 38 by unfold Rv; simp).trans ((cR 267 38 (by decide) (by decide) (by decide)).trans rfl)))
set_option maxRecDepth 20000 in
theorem o267R39 (X : Nat × (Nat → Int32)) (I : Nat → Nat → Int32) (J : Nat → Nat → Int64) (v : Vt) : ggR (mkS X I J v) 267 12 39 = some 288 := (ggR_mk k_267).trans (congrArg some ((show Rv v 267 39 = gR cst 267 39 by unfold Rv; simp).trans ((cR 267 39 (by decide) (by decide) (by decide)).trans rfl)))
set_option maxRecDepth 20000 in
theorem o267R40 (X : Nat × (Nat → Int32)) (I : Nat → Nat → Int32) (J : Nat → Nat → Int64) (v : Vt) : ggR (mkS X I J v) 267 12 40 = some 289 := (ggR_mk k_267).trans (congrArg some ((show Rv v 267 40 = gR cst 267 40 by unfold Rv; simp).trans ((cR 267 40 (by decide) (by decide) (by decide)).trans rfl)))
set_option maxRecDepth 20000 in
theorem o267R41 (X : Nat × (Nat → Int32)) (I : Nat → Nat → Int32) (J : Nat → Nat → Int64) (v : Vt) : ggR (mkS X I J v) 267 12 41 = some 290 := (ggR_mk k_267).trans (congrArg some ((show Rv v 267 41 = gR cst 267 41 by unfold Rv; simp).trans ((cR 267 41 (by decide) (by decide) (by decide)).trans rfl)))
set_option maxRecDepth 20000 in
theorem o267R42 (X : Nat × (Nat → Int32)) (I : Nat → Nat → Int32) (J : Nat → Nat → Int64) (v : Vt) : ggR (mkS X I J v) 267 12 42 = some 291 := (ggR_mk k_267).trans (congrArg some ((show Rv v 267 42 = gR cst 267 42 by unfold Rv; simp).trans ((cR 267 42 (by decide) (by decide) (by decide)).trans rfl)))
set_option maxRecDepth 20000 in
theorem o267R43 (X : Nat × (Nat → Int32)) (I : Nat → Nat → Int32) (J : Nat → Nat → Int64) (v : Vt) : ggR (mkS X I J v) 267 12 43 = some 292 := (ggR_mk k_267).trans (congrArg some ((show Rv v 267 43 = gR cst 267 43 by unfold Rv; simp).trans ((cR 267 43 (by decide) (by decide) (by decide)).trans rfl)))
theorem o267R : (∀ (X : Nat × (Nat → Int32)) (I : Nat → Nat → Int32) (J : Nat → Nat → Int64) (v : Vt), ggR (mkS X I J v) 267 12 0 = some 268) ∧ (∀ (X : Nat × (Nat → Int32)) (I : Nat → Nat → Int32) (J : Nat → Nat → Int64) (v : Vt), ggR (mkS X I J v) 267 12 9 = some 269) ∧ (∀ (X : Nat × (Nat → Int32)) (I : Nat → Nat → Int32) (J : Nat → Nat → Int64) (v : Vt), ggR (mkS X I J v) 267 12 11 = some 270) ∧ (∀ (X : Nat × (Nat → Int32)) (I : Nat → Nat → Int32) (J : Nat → Nat → Int64) (v : Vt), ggR (mkS X I J v) 267 12 13 = some 271) ∧ (∀ (X : Nat × (Nat → Int32)) (I : Nat → Nat → Int32) (J : Nat → Nat → Int64) (v : Vt), ggR (mkS X I J v) 267 12 14 = some 272) ∧ (∀ (X : Nat × (Nat → Int32)) (I : Nat → Nat → Int32) (J : Nat → Nat → Int64) (v : Vt), ggR (mkS X I J v) 267 12 15 = some 273) ∧ (∀ (X : Nat × (Nat → Int32)) (I : Nat → Nat → Int32) (J : Nat → Nat → Int64) (v : Vt), ggR (mkS X I J v) 267 12 16 = some 274) ∧ (∀ (X : Nat × (Nat → Int32)) (I : Nat → Nat → Int32) (J : Nat → Nat → Int64) (v : Vt), ggR (mkS X I J v) 267 12 18 = some 275) ∧ (∀ (X : Nat × (Nat → Int32)) (I : Nat → Nat → Int32) (J : Nat → Nat → Int64) (v : Vt), ggR (mkS X I J v) 267 12 19 = some 276) ∧ (∀ (X : Nat × (Nat → Int32)) (I : Nat → Nat → Int32) (J : Nat → Nat → Int64) (v : Vt), ggR (mkS X I J v) 267 12 20 = some 277) ∧ (∀ (X : Nat × (Nat → Int32)) (I : Nat → Nat → Int32) (J : Nat → Nat → Int64) (v : Vt), ggR (mkS X I J v) 267 12 21 = some 278) ∧ (∀ (X : Nat × (Nat → Int32)) (I : Nat → Nat → Int32) (J : Nat → Nat → Int64) (v : Vt), ggR (mkS X I J v) 267 12 25 = some 279) ∧ (∀ (X : Nat × (Nat → Int32)) (I : Nat → Nat → Int32) (J : Nat → Nat → Int64) (v : Vt), ggR (mkS X I J v) 267 12 28 = some 280) ∧ (∀ (X : Nat × (Nat → Int32)) (I : Nat → Nat → Int32) (J : Nat → Nat → Int64) (v : Vt), ggR (mkS X I J v) 267 12 29 = some 281) ∧ (∀ (X : Nat × (Nat → Int32)) (I : Nat → Nat → Int32) (J : Nat → Nat → Int64) (v : Vt), ggR (mkS X I J v) 267 12 30 = some 282) ∧ (∀ (X : Nat × (Nat → Int32)) (I : Nat → Nat → Int32) (J : Nat → Nat → Int64) (v : Vt), ggR (mkS X I J v) 267 12 31 = some 283) ∧ (∀ (X : Nat × (Nat → Int32)) (I : Nat → Nat → Int32) (J : Nat → Nat → Int64) (v : Vt), ggR (mkS X I J v) 267 12 32 = some 284) ∧ (∀ (X : Nat × (Nat → Int32)) (I : Nat → Nat → Int32) (J : Nat → Nat → Int64) (v : Vt), ggR (mkS X I J v) 267 12 33 = some 285) ∧ (∀ (X : Nat × (Nat → Int32)) (I : Nat → Nat → Int32) (J : Nat → Nat → Int64) (v : Vt), ggR (mkS X I J v) 267 12 35 = some 286) ∧ (∀ (X : Nat × (Nat → Int32)) (I : Nat → Nat → Int32) (J : Nat → Nat → Int64) (v : Vt), ggR (mkS X I J v) 267 12 38 = some 287) ∧ (∀ (X : Nat × (Nat → Int32)) (I : Nat → Nat → Int32) (J : Nat → Nat → Int64) (v : Vt), ggR (mkS X I J v) 267 12 39 = some 288) ∧ (∀ (X : Nat × (Nat → Int32)) (I : Nat → Nat → Int32) (J : Nat → Nat → Int64) (v : Vt), ggR (mkS X I J v) 267 12 40 = some 289) ∧ (∀ (X : Nat × (Nat → Int32)) (I : Nat → Nat → Int32) (J : Nat → Nat → Int64) (v : Vt), ggR (mkS X I J v) 267 12 41 = some 290) ∧ (∀ (X : Nat × (Nat → Int32)) (I : Nat → Nat → Int32) (J : Nat → Nat → Int64) (v : Vt), ggR (mkS X I J v) 267 12 42 = some 291) ∧ (∀ (X : Nat × (Nat → Int32)) (I : Nat → Nat → Int32) (J : Nat → Nat → Int64) (v : Vt), ggR (mkS X I J v) 267 12 43 = some 292) := ⟨o267R0, o267R9, o267R11, o267R13, o267R14, o267R15, o267R16, o267R18, o267R19, o267R20, o267R21, o267R25, o267R28, o267R29, o267R30, o267R31, o267R32, o267R33, o267R35, o267R38, o267R39, o267R40, o267R41, o267R42, o267R43⟩
set_option maxRecDepth 20000 in
theorem k_52 : gK cst 52 = 20 := by rw [cK 52 (by decide) (by decide)]; rfl
set_option maxRecDepth 20000 in
theorem l_52 : gLn cst 52 = 1600 := by rw [cL 52 (by decide) (by decide)]; rfl
theorem a52 (X : Nat × (Nat → Int32)) (I : Nat → Nat → Int32) (J : Nat → Nat → Int64) (v : Vt) (n : Nat) (h : n < 1600) : gaI (mkS X I J v) 52 0 (iZ (n : Int)) = some (I 52 n) := gaI_n k_52 l_52 (by decide) (by decide) h
theorem b52 (X : Nat × (Nat → Int32)) (I : Nat → Nat → Int32) (J : Nat → Nat → Int64) (v : Vt) (n : Nat) (x : Int32) (h : n < 1600) : saI (mkS X I J v) 52 0 (iZ (n : Int)) x = some (mkS X (gup I 52 n (gnar 0 x)) J v) := saI_n k_52 l_52 (by decide) (by decide) h
theorem n52 (X : Nat × (Nat → Int32)) (I : Nat → Nat → Int32) (J : Nat → Nat → Int64) (v : Vt) : glen (mkS X I J v) 52 = some (iZ 1600) := (glen_mk (by rw [k_52]; decide) (by rw [k_52]; decide) (by decide)).trans (by rw [l_52]; rfl)
set_option maxRecDepth 20000 in
theorem k_54 : gK cst 54 = 20 := by rw [cK 54 (by decide) (by decide)]; rfl
set_option maxRecDepth 20000 in
theorem l_54 : gLn cst 54 = 0 := by rw [cL 54 (by decide) (by decide)]; rfl
theorem a54 (X : Nat × (Nat → Int32)) (I : Nat → Nat → Int32) (J : Nat → Nat → Int64) (v : Vt) (n : Nat) (h : n < 0) : gaI (mkS X I J v) 54 0 (iZ (n : Int)) = some (I 54 n) := gaI_n k_54 l_54 (by decide) (by decide) h
theorem b54 (X : Nat × (Nat → Int32)) (I : Nat → Nat → Int32) (J : Nat → Nat → Int64) (v : Vt) (n : Nat) (x : Int32) (h : n < 0) : saI (mkS X I J v) 54 0 (iZ (n : Int)) x = some (mkS X (gup I 54 n (gnar 0 x)) J v) := saI_n k_54 l_54 (by decide) (by decide) h
theorem n54 (X : Nat × (Nat → Int32)) (I : Nat → Nat → Int32) (J : Nat → Nat → Int64) (v : Vt) : glen (mkS X I J v) 54 = some (iZ 0) := (glen_mk (by rw [k_54]; decide) (by rw [k_54]; decide) (by decide)).trans (by rw [l_54]; rfl)
set_option maxRecDepth 20000 in
theorem k_56 : gK cst 56 = 22 := by rw [cK 56 (by decide) (by decide)]; rfl
set_option maxRecDepth 20000 in
theorem l_56 : gLn cst 56 = 8 := by rw [cL 56 (by decide) (by decide)]; rfl
theorem a56 (X : Nat × (Nat → Int32)) (I : Nat → Nat → Int32) (J : Nat → Nat → Int64) (v : Vt) (n : Nat) (h : n < 8) : gaI (mkS X I J v) 56 2 (iZ (n : Int)) = some (I 56 n) := gaI_n k_56 l_56 (by decide) (by decide) h
theorem b56 (X : Nat × (Nat → Int32)) (I : Nat → Nat → Int32) (J : Nat → Nat → Int64) (v : Vt) (n : Nat) (x : Int32) (h : n < 8) : saI (mkS X I J v) 56 2 (iZ (n : Int)) x = some (mkS X (gup I 56 n (gnar 2 x)) J v) := saI_n k_56 l_56 (by decide) (by decide) h
theorem n56 (X : Nat × (Nat → Int32)) (I : Nat → Nat → Int32) (J : Nat → Nat → Int64) (v : Vt) : glen (mkS X I J v) 56 = some (iZ 8) := (glen_mk (by rw [k_56]; decide) (by rw [k_56]; decide) (by decide)).trans (by rw [l_56]; rfl)
set_option maxRecDepth 20000 in
theorem k_59 : gK cst 59 = 22 := by rw [cK 59 (by decide) (by decide)]; rfl
set_option maxRecDepth 20000 in
theorem l_59 : gLn cst 59 = 366 := by rw [cL 59 (by decide) (by decide)]; rfl
theorem a59 (X : Nat × (Nat → Int32)) (I : Nat → Nat → Int32) (J : Nat → Nat → Int64) (v : Vt) (n : Nat) (h : n < 366) : gaI (mkS X I J v) 59 2 (iZ (n : Int)) = some (I 59 n) := gaI_n k_59 l_59 (by decide) (by decide) h
theorem b59 (X : Nat × (Nat → Int32)) (I : Nat → Nat → Int32) (J : Nat → Nat → Int64) (v : Vt) (n : Nat) (x : Int32) (h : n < 366) : saI (mkS X I J v) 59 2 (iZ (n : Int)) x = some (mkS X (gup I 59 n (gnar 2 x)) J v) := saI_n k_59 l_59 (by decide) (by decide) h
theorem n59 (X : Nat × (Nat → Int32)) (I : Nat → Nat → Int32) (J : Nat → Nat → Int64) (v : Vt) : glen (mkS X I J v) 59 = some (iZ 366) := (glen_mk (by rw [k_59]; decide) (by rw [k_59]; decide) (by decide)).trans (by rw [l_59]; rfl)
set_option maxRecDepth 20000 in
theorem k_61 : gK cst 61 = 25 := by rw [cK 61 (by decide) (by decide)]; rfl
set_option maxRecDepth 20000 in
theorem l_61 : gLn cst 61 = 12 := by rw [cL 61 (by decide) (by decide)]; rfl
theorem a61 (X : Nat × (Nat → Int32)) (I : Nat → Nat → Int32) (J : Nat → Nat → Int64) (v : Vt) (n : Nat) (h : n < 12) : gaR (mkS X I J v) 61 5 (iZ (n : Int)) = some (Rv v 61 n) := gaR_n k_61 l_61 (by decide) (by decide) h
theorem n61 (X : Nat × (Nat → Int32)) (I : Nat → Nat → Int32) (J : Nat → Nat → Int64) (v : Vt) : glen (mkS X I J v) 61 = some (iZ 12) := (glen_mk (by rw [k_61]; decide) (by rw [k_61]; decide) (by decide)).trans (by rw [l_61]; rfl)
set_option maxRecDepth 20000 in
theorem k_62 : gK cst 62 = 25 := by rw [cK 62 (by decide) (by decide)]; rfl
set_option maxRecDepth 20000 in
theorem l_62 : gLn cst 62 = 15 := by rw [cL 62 (by decide) (by decide)]; rfl
theorem a62 (X : Nat × (Nat → Int32)) (I : Nat → Nat → Int32) (J : Nat → Nat → Int64) (v : Vt) (n : Nat) (h : n < 15) : gaR (mkS X I J v) 62 5 (iZ (n : Int)) = some (Rv v 62 n) := gaR_n k_62 l_62 (by decide) (by decide) h
theorem n62 (X : Nat × (Nat → Int32)) (I : Nat → Nat → Int32) (J : Nat → Nat → Int64) (v : Vt) : glen (mkS X I J v) 62 = some (iZ 15) := (glen_mk (by rw [k_62]; decide) (by rw [k_62]; decide) (by decide)).trans (by rw [l_62]; rfl)
set_option maxRecDepth 20000 in
theorem k_63 : gK cst 63 = 26 := by rw [cK 63 (by decide) (by decide)]; rfl
set_option maxRecDepth 20000 in
theorem l_63 : gLn cst 63 = 6 := by rw [cL 63 (by decide) (by decide)]; rfl
theorem a63 (X : Nat × (Nat → Int32)) (I : Nat → Nat → Int32) (J : Nat → Nat → Int64) (v : Vt) (n : Nat) (h : n < 6) : gaR (mkS X I J v) 63 6 (iZ (n : Int)) = some (Rv v 63 n) := gaR_n k_63 l_63 (by decide) (by decide) h
theorem n63 (X : Nat × (Nat → Int32)) (I : Nat → Nat → Int32) (J : Nat → Nat → Int64) (v : Vt) : glen (mkS X I J v) 63 = some (iZ 6) := (glen_mk (by rw [k_63]; decide) (by rw [k_63]; decide) (by decide)).trans (by rw [l_63]; rfl)
set_option maxRecDepth 20000 in
theorem k_64 : gK cst 64 = 26 := by rw [cK 64 (by decide) (by decide)]; rfl
set_option maxRecDepth 20000 in
theorem l_64 : gLn cst 64 = 6 := by rw [cL 64 (by decide) (by decide)]; rfl
theorem a64 (X : Nat × (Nat → Int32)) (I : Nat → Nat → Int32) (J : Nat → Nat → Int64) (v : Vt) (n : Nat) (h : n < 6) : gaR (mkS X I J v) 64 6 (iZ (n : Int)) = some (Rv v 64 n) := gaR_n k_64 l_64 (by decide) (by decide) h
theorem n64 (X : Nat × (Nat → Int32)) (I : Nat → Nat → Int32) (J : Nat → Nat → Int64) (v : Vt) : glen (mkS X I J v) 64 = some (iZ 6) := (glen_mk (by rw [k_64]; decide) (by rw [k_64]; decide) (by decide)).trans (by rw [l_64]; rfl)
set_option maxRecDepth 20000 in
theorem k_144 : gK cst 144 = 22 := by rw [cK 144 (by decide) (by decide)]; rfl
set_option maxRecDepth 20000 in
theorem l_144 : gLn cst 144 = 20 := by rw [cL 144 (by decide) (by decide)]; rfl
theorem a144 (X : Nat × (Nat → Int32)) (I : Nat → Nat → Int32) (J : Nat → Nat → Int64) (v : Vt) (n : Nat) (h : n < 20) : gaI (mkS X I J v) 144 2 (iZ (n : Int)) = some (I 144 n) := gaI_n k_144 l_144 (by decide) (by decide) h
theorem b144 (X : Nat × (Nat → Int32)) (I : Nat → Nat → Int32) (J : Nat → Nat → Int64) (v : Vt) (n : Nat) (x : Int32) (h : n < 20) : saI (mkS X I J v) 144 2 (iZ (n : Int)) x = some (mkS X (gup I 144 n (gnar 2 x)) J v) := saI_n k_144 l_144 (by decide) (by decide) h
theorem n144 (X : Nat × (Nat → Int32)) (I : Nat → Nat → Int32) (J : Nat → Nat → Int64) (v : Vt) : glen (mkS X I J v) 144 = some (iZ 20) := (glen_mk (by rw [k_144]; decide) (by rw [k_144]; decide) (by decide)).trans (by rw [l_144]; rfl)
set_option maxRecDepth 20000 in
theorem k_145 : gK cst 145 = 22 := by rw [cK 145 (by decide) (by decide)]; rfl
set_option maxRecDepth 20000 in
theorem l_145 : gLn cst 145 = 20 := by rw [cL 145 (by decide) (by decide)]; rfl
theorem a145 (X : Nat × (Nat → Int32)) (I : Nat → Nat → Int32) (J : Nat → Nat → Int64) (v : Vt) (n : Nat) (h : n < 20) : gaI (mkS X I J v) 145 2 (iZ (n : Int)) = some (I 145 n) := gaI_n k_145 l_145 (by decide) (by decide) h
theorem b145 (X : Nat × (Nat → Int32)) (I : Nat → Nat → Int32) (J : Nat → Nat → Int64) (v : Vt) (n : Nat) (x : Int32) (h : n < 20) : saI (mkS X I J v) 145 2 (iZ (n : Int)) x = some (mkS X (gup I 145 n (gnar 2 x)) J v) := saI_n k_145 l_145 (by decide) (by decide) h
theorem n145 (X : Nat × (Nat → Int32)) (I : Nat → Nat → Int32) (J : Nat → Nat → Int64) (v : Vt) : glen (mkS X I J v) 145 = some (iZ 20) := (glen_mk (by rw [k_145]; decide) (by rw [k_145]; decide) (by decide)).trans (by rw [l_145]; rfl)
set_option maxRecDepth 20000 in
theorem k_146 : gK cst 146 = 22 := by rw [cK 146 (by decide) (by decide)]; rfl
set_option maxRecDepth 20000 in
theorem l_146 : gLn cst 146 = 20 := by rw [cL 146 (by decide) (by decide)]; rfl
theorem a146 (X : Nat × (Nat → Int32)) (I : Nat → Nat → Int32) (J : Nat → Nat → Int64) (v : Vt) (n : Nat) (h : n < 20) : gaI (mkS X I J v) 146 2 (iZ (n : Int)) = some (I 146 n) := gaI_n k_146 l_146 (by decide) (by decide) h
theorem b146 (X : Nat × (Nat → Int32)) (I : Nat → Nat → Int32) (J : Nat → Nat → Int64) (v : Vt) (n : Nat) (x : Int32) (h : n < 20) : saI (mkS X I J v) 146 2 (iZ (n : Int)) x = some (mkS X (gup I 146 n (gnar 2 x)) J v) := saI_n k_146 l_146 (by decide) (by decide) h
theorem n146 (X : Nat × (Nat → Int32)) (I : Nat → Nat → Int32) (J : Nat → Nat → Int64) (v : Vt) : glen (mkS X I J v) 146 = some (iZ 20) := (glen_mk (by rw [k_146]; decide) (by rw [k_146]; decide) (by decide)).trans (by rw [l_146]; rfl)
set_option maxRecDepth 20000 in
theorem k_147 : gK cst 147 = 26 := by rw [cK 147 (by decide) (by decide)]; rfl
set_option maxRecDepth 20000 in
theorem l_147 : gLn cst 147 = 20 := by rw [cL 147 (by decide) (by decide)]; rfl
theorem a147 (X : Nat × (Nat → Int32)) (I : Nat → Nat → Int32) (J : Nat → Nat → Int64) (v : Vt) (n : Nat) (h : n < 20) : gaR (mkS X I J v) 147 6 (iZ (n : Int)) = some (Rv v 147 n) := gaR_n k_147 l_147 (by decide) (by decide) h
theorem n147 (X : Nat × (Nat → Int32)) (I : Nat → Nat → Int32) (J : Nat → Nat → Int64) (v : Vt) : glen (mkS X I J v) 147 = some (iZ 20) := (glen_mk (by rw [k_147]; decide) (by rw [k_147]; decide) (by decide)).trans (by rw [l_147]; rfl)
set_option maxRecDepth 20000 in
theorem k_191 : gK cst 191 = 22 := by rw [cK 191 (by decide) (by decide)]; rfl
set_option maxRecDepth 20000 in
theorem l_191 : gLn cst 191 = 12 := by rw [cL 191 (by decide) (by decide)]; rfl
theorem a191 (X : Nat × (Nat → Int32)) (I : Nat → Nat → Int32) (J : Nat → Nat → Int64) (v : Vt) (n : Nat) (h : n < 12) : gaI (mkS X I J v) 191 2 (iZ (n : Int)) = some (I 191 n) := gaI_n k_191 l_191 (by decide) (by decide) h
theorem b191 (X : Nat × (Nat → Int32)) (I : Nat → Nat → Int32) (J : Nat → Nat → Int64) (v : Vt) (n : Nat) (x : Int32) (h : n < 12) : saI (mkS X I J v) 191 2 (iZ (n : Int)) x = some (mkS X (gup I 191 n (gnar 2 x)) J v) := saI_n k_191 l_191 (by decide) (by decide) h
theorem n191 (X : Nat × (Nat → Int32)) (I : Nat → Nat → Int32) (J : Nat → Nat → Int64) (v : Vt) : glen (mkS X I J v) 191 = some (iZ 12) := (glen_mk (by rw [k_191]; decide) (by rw [k_191]; decide) (by decide)).trans (by rw [l_191]; rfl)
set_option maxRecDepth 20000 in
theorem k_192 : gK cst 192 = 24 := by rw [cK 192 (by decide) (by decide)]; rfl
set_option maxRecDepth 20000 in
theorem l_192 : gLn cst 192 = 12 := by rw [cL 192 (by decide) (by decide)]; rfl
theorem a192 (X : Nat × (Nat → Int32)) (I : Nat → Nat → Int32) (J : Nat → Nat → Int64) (v : Vt) (n : Nat) (h : n < 12) : gaI (mkS X I J v) 192 4 (iZ (n : Int)) = some (I 192 n) := gaI_n k_192 l_192 (by decide) (by decide) h
theorem b192 (X : Nat × (Nat → Int32)) (I : Nat → Nat → Int32) (J : Nat → Nat → Int64) (v : Vt) (n : Nat) (x : Int32) (h : n < 12) : saI (mkS X I J v) 192 4 (iZ (n : Int)) x = some (mkS X (gup I 192 n (gnar 4 x)) J v) := saI_n k_192 l_192 (by decide) (by decide) h
theorem n192 (X : Nat × (Nat → Int32)) (I : Nat → Nat → Int32) (J : Nat → Nat → Int64) (v : Vt) : glen (mkS X I J v) 192 = some (iZ 12) := (glen_mk (by rw [k_192]; decide) (by rw [k_192]; decide) (by decide)).trans (by rw [l_192]; rfl)
set_option maxRecDepth 20000 in
theorem k_193 : gK cst 193 = 22 := by rw [cK 193 (by decide) (by decide)]; rfl
set_option maxRecDepth 20000 in
theorem l_193 : gLn cst 193 = 366 := by rw [cL 193 (by decide) (by decide)]; rfl
theorem a193 (X : Nat × (Nat → Int32)) (I : Nat → Nat → Int32) (J : Nat → Nat → Int64) (v : Vt) (n : Nat) (h : n < 366) : gaI (mkS X I J v) 193 2 (iZ (n : Int)) = some (I 193 n) := gaI_n k_193 l_193 (by decide) (by decide) h
theorem b193 (X : Nat × (Nat → Int32)) (I : Nat → Nat → Int32) (J : Nat → Nat → Int64) (v : Vt) (n : Nat) (x : Int32) (h : n < 366) : saI (mkS X I J v) 193 2 (iZ (n : Int)) x = some (mkS X (gup I 193 n (gnar 2 x)) J v) := saI_n k_193 l_193 (by decide) (by decide) h
theorem n193 (X : Nat × (Nat → Int32)) (I : Nat → Nat → Int32) (J : Nat → Nat → Int64) (v : Vt) : glen (mkS X I J v) 193 = some (iZ 366) := (glen_mk (by rw [k_193]; decide) (by rw [k_193]; decide) (by decide)).trans (by rw [l_193]; rfl)
set_option maxRecDepth 20000 in
theorem k_195 : gK cst 195 = 22 := by rw [cK 195 (by decide) (by decide)]; rfl
set_option maxRecDepth 20000 in
theorem l_195 : gLn cst 195 = 60 := by rw [cL 195 (by decide) (by decide)]; rfl
theorem a195 (X : Nat × (Nat → Int32)) (I : Nat → Nat → Int32) (J : Nat → Nat → Int64) (v : Vt) (n : Nat) (h : n < 60) : gaI (mkS X I J v) 195 2 (iZ (n : Int)) = some (I 195 n) := gaI_n k_195 l_195 (by decide) (by decide) h
theorem b195 (X : Nat × (Nat → Int32)) (I : Nat → Nat → Int32) (J : Nat → Nat → Int64) (v : Vt) (n : Nat) (x : Int32) (h : n < 60) : saI (mkS X I J v) 195 2 (iZ (n : Int)) x = some (mkS X (gup I 195 n (gnar 2 x)) J v) := saI_n k_195 l_195 (by decide) (by decide) h
theorem n195 (X : Nat × (Nat → Int32)) (I : Nat → Nat → Int32) (J : Nat → Nat → Int64) (v : Vt) : glen (mkS X I J v) 195 = some (iZ 60) := (glen_mk (by rw [k_195]; decide) (by rw [k_195]; decide) (by decide)).trans (by rw [l_195]; rfl)
set_option maxRecDepth 20000 in
theorem k_196 : gK cst 196 = 22 := by rw [cK 196 (by decide) (by decide)]; rfl
set_option maxRecDepth 20000 in
theorem l_196 : gLn cst 196 = 6 := by rw [cL 196 (by decide) (by decide)]; rfl
theorem a196 (X : Nat × (Nat → Int32)) (I : Nat → Nat → Int32) (J : Nat → Nat → Int64) (v : Vt) (n : Nat) (h : n < 6) : gaI (mkS X I J v) 196 2 (iZ (n : Int)) = some (I 196 n) := gaI_n k_196 l_196 (by decide) (by decide) h
theorem b196 (X : Nat × (Nat → Int32)) (I : Nat → Nat → Int32) (J : Nat → Nat → Int64) (v : Vt) (n : Nat) (x : Int32) (h : n < 6) : saI (mkS X I J v) 196 2 (iZ (n : Int)) x = some (mkS X (gup I 196 n (gnar 2 x)) J v) := saI_n k_196 l_196 (by decide) (by decide) h
theorem n196 (X : Nat × (Nat → Int32)) (I : Nat → Nat → Int32) (J : Nat → Nat → Int64) (v : Vt) : glen (mkS X I J v) 196 = some (iZ 6) := (glen_mk (by rw [k_196]; decide) (by rw [k_196]; decide) (by decide)).trans (by rw [l_196]; rfl)
set_option maxRecDepth 20000 in
theorem k_268 : gK cst 268 = 22 := by rw [cK 268 (by decide) (by decide)]; rfl
set_option maxRecDepth 20000 in
theorem l_268 : gLn cst 268 = 1600 := by rw [cL 268 (by decide) (by decide)]; rfl
theorem a268 (X : Nat × (Nat → Int32)) (I : Nat → Nat → Int32) (J : Nat → Nat → Int64) (v : Vt) (n : Nat) (h : n < 1600) : gaI (mkS X I J v) 268 2 (iZ (n : Int)) = some (I 268 n) := gaI_n k_268 l_268 (by decide) (by decide) h
theorem b268 (X : Nat × (Nat → Int32)) (I : Nat → Nat → Int32) (J : Nat → Nat → Int64) (v : Vt) (n : Nat) (x : Int32) (h : n < 1600) : saI (mkS X I J v) 268 2 (iZ (n : Int)) x = some (mkS X (gup I 268 n (gnar 2 x)) J v) := saI_n k_268 l_268 (by decide) (by decide) h
theorem n268 (X : Nat × (Nat → Int32)) (I : Nat → Nat → Int32) (J : Nat → Nat → Int64) (v : Vt) : glen (mkS X I J v) 268 = some (iZ 1600) := (glen_mk (by rw [k_268]; decide) (by rw [k_268]; decide) (by decide)).trans (by rw [l_268]; rfl)
set_option maxRecDepth 20000 in
theorem k_269 : gK cst 269 = 22 := by rw [cK 269 (by decide) (by decide)]; rfl
set_option maxRecDepth 20000 in
theorem l_269 : gLn cst 269 = 6 := by rw [cL 269 (by decide) (by decide)]; rfl
theorem a269 (X : Nat × (Nat → Int32)) (I : Nat → Nat → Int32) (J : Nat → Nat → Int64) (v : Vt) (n : Nat) (h : n < 6) : gaI (mkS X I J v) 269 2 (iZ (n : Int)) = some (I 269 n) := gaI_n k_269 l_269 (by decide) (by decide) h
theorem b269 (X : Nat × (Nat → Int32)) (I : Nat → Nat → Int32) (J : Nat → Nat → Int64) (v : Vt) (n : Nat) (x : Int32) (h : n < 6) : saI (mkS X I J v) 269 2 (iZ (n : Int)) x = some (mkS X (gup I 269 n (gnar 2 x)) J v) := saI_n k_269 l_269 (by decide) (by decide) h
theorem n269 (X : Nat × (Nat → Int32)) (I : Nat → Nat → Int32) (J : Nat → Nat → Int64) (v : Vt) : glen (mkS X I J v) 269 = some (iZ 6) := (glen_mk (by rw [k_269]; decide) (by rw [k_269]; decide) (by decide)).trans (by rw [l_269]; rfl)
set_option maxRecDepth 20000 in
theorem k_270 : gK cst 270 = 21 := by rw [cK 270 (by decide) (by decide)]; rfl
set_option maxRecDepth 20000 in
theorem l_270 : gLn cst 270 = 132 := by rw [cL 270 (by decide) (by decide)]; rfl
theorem a270 (X : Nat × (Nat → Int32)) (I : Nat → Nat → Int32) (J : Nat → Nat → Int64) (v : Vt) (n : Nat) (h : n < 132) : gaI (mkS X I J v) 270 1 (iZ (n : Int)) = some (I 270 n) := gaI_n k_270 l_270 (by decide) (by decide) h
theorem b270 (X : Nat × (Nat → Int32)) (I : Nat → Nat → Int32) (J : Nat → Nat → Int64) (v : Vt) (n : Nat) (x : Int32) (h : n < 132) : saI (mkS X I J v) 270 1 (iZ (n : Int)) x = some (mkS X (gup I 270 n (gnar 1 x)) J v) := saI_n k_270 l_270 (by decide) (by decide) h
theorem n270 (X : Nat × (Nat → Int32)) (I : Nat → Nat → Int32) (J : Nat → Nat → Int64) (v : Vt) : glen (mkS X I J v) 270 = some (iZ 132) := (glen_mk (by rw [k_270]; decide) (by rw [k_270]; decide) (by decide)).trans (by rw [l_270]; rfl)
set_option maxRecDepth 20000 in
theorem k_271 : gK cst 271 = 22 := by rw [cK 271 (by decide) (by decide)]; rfl
set_option maxRecDepth 20000 in
theorem l_271 : gLn cst 271 = 14610 := by rw [cL 271 (by decide) (by decide)]; rfl
theorem a271 (X : Nat × (Nat → Int32)) (I : Nat → Nat → Int32) (J : Nat → Nat → Int64) (v : Vt) (n : Nat) (h : n < 14610) : gaI (mkS X I J v) 271 2 (iZ (n : Int)) = some (I 271 n) := gaI_n k_271 l_271 (by decide) (by decide) h
theorem b271 (X : Nat × (Nat → Int32)) (I : Nat → Nat → Int32) (J : Nat → Nat → Int64) (v : Vt) (n : Nat) (x : Int32) (h : n < 14610) : saI (mkS X I J v) 271 2 (iZ (n : Int)) x = some (mkS X (gup I 271 n (gnar 2 x)) J v) := saI_n k_271 l_271 (by decide) (by decide) h
theorem n271 (X : Nat × (Nat → Int32)) (I : Nat → Nat → Int32) (J : Nat → Nat → Int64) (v : Vt) : glen (mkS X I J v) 271 = some (iZ 14610) := (glen_mk (by rw [k_271]; decide) (by rw [k_271]; decide) (by decide)).trans (by rw [l_271]; rfl)
set_option maxRecDepth 20000 in
theorem k_272 : gK cst 272 = 22 := by rw [cK 272 (by decide) (by decide)]; rfl
set_option maxRecDepth 20000 in
theorem l_272 : gLn cst 272 = 14610 := by rw [cL 272 (by decide) (by decide)]; rfl
theorem a272 (X : Nat × (Nat → Int32)) (I : Nat → Nat → Int32) (J : Nat → Nat → Int64) (v : Vt) (n : Nat) (h : n < 14610) : gaI (mkS X I J v) 272 2 (iZ (n : Int)) = some (I 272 n) := gaI_n k_272 l_272 (by decide) (by decide) h
theorem b272 (X : Nat × (Nat → Int32)) (I : Nat → Nat → Int32) (J : Nat → Nat → Int64) (v : Vt) (n : Nat) (x : Int32) (h : n < 14610) : saI (mkS X I J v) 272 2 (iZ (n : Int)) x = some (mkS X (gup I 272 n (gnar 2 x)) J v) := saI_n k_272 l_272 (by decide) (by decide) h
theorem n272 (X : Nat × (Nat → Int32)) (I : Nat → Nat → Int32) (J : Nat → Nat → Int64) (v : Vt) : glen (mkS X I J v) 272 = some (iZ 14610) := (glen_mk (by rw [k_272]; decide) (by rw [k_272]; decide) (by decide)).trans (by rw [l_272]; rfl)
set_option maxRecDepth 20000 in
theorem k_273 : gK cst 273 = 22 := by rw [cK 273 (by decide) (by decide)]; rfl
set_option maxRecDepth 20000 in
theorem l_273 : gLn cst 273 = 14610 := by rw [cL 273 (by decide) (by decide)]; rfl
theorem a273 (X : Nat × (Nat → Int32)) (I : Nat → Nat → Int32) (J : Nat → Nat → Int64) (v : Vt) (n : Nat) (h : n < 14610) : gaI (mkS X I J v) 273 2 (iZ (n : Int)) = some (I 273 n) := gaI_n k_273 l_273 (by decide) (by decide) h
theorem b273 (X : Nat × (Nat → Int32)) (I : Nat → Nat → Int32) (J : Nat → Nat → Int64) (v : Vt) (n : Nat) (x : Int32) (h : n < 14610) : saI (mkS X I J v) 273 2 (iZ (n : Int)) x = some (mkS X (gup I 273 n (gnar 2 x)) J v) := saI_n k_273 l_273 (by decide) (by decide) h
theorem n273 (X : Nat × (Nat → Int32)) (I : Nat → Nat → Int32) (J : Nat → Nat → Int64) (v : Vt) : glen (mkS X I J v) 273 = some (iZ 14610) := (glen_mk (by rw [k_273]; decide) (by rw [k_273]; decide) (by decide)).trans (by rw [l_273]; rfl)
set_option maxRecDepth 20000 in
theorem k_274 : gK cst 274 = 22 := by rw [cK 274 (by decide) (by decide)]; rfl
set_option maxRecDepth 20000 in
theorem l_274 : gLn cst 274 = 14610 := by rw [cL 274 (by decide) (by decide)]; rfl
theorem a274 (X : Nat × (Nat → Int32)) (I : Nat → Nat → Int32) (J : Nat → Nat → Int64) (v : Vt) (n : Nat) (h : n < 14610) : gaI (mkS X I J v) 274 2 (iZ (n : Int)) = some (I 274 n) := gaI_n k_274 l_274 (by decide) (by decide) h
theorem b274 (X : Nat × (Nat → Int32)) (I : Nat → Nat → Int32) (J : Nat → Nat → Int64) (v : Vt) (n : Nat) (x : Int32) (h : n < 14610) : saI (mkS X I J v) 274 2 (iZ (n : Int)) x = some (mkS X (gup I 274 n (gnar 2 x)) J v) := saI_n k_274 l_274 (by decide) (by decide) h
theorem n274 (X : Nat × (Nat → Int32)) (I : Nat → Nat → Int32) (J : Nat → Nat → Int64) (v : Vt) : glen (mkS X I J v) 274 = some (iZ 14610) := (glen_mk (by rw [k_274]; decide) (by rw [k_274]; decide) (by decide)).trans (by rw [l_274]; rfl)
set_option maxRecDepth 20000 in
theorem k_275 : gK cst 275 = 22 := by rw [cK 275 (by decide) (by decide)]; rfl
set_option maxRecDepth 20000 in
theorem l_275 : gLn cst 275 = 272 := by rw [cL 275 (by decide) (by decide)]; rfl
theorem a275 (X : Nat × (Nat → Int32)) (I : Nat → Nat → Int32) (J : Nat → Nat → Int64) (v : Vt) (n : Nat) (h : n < 272) : gaI (mkS X I J v) 275 2 (iZ (n : Int)) = some (I 275 n) := gaI_n k_275 l_275 (by decide) (by decide) h
theorem b275 (X : Nat × (Nat → Int32)) (I : Nat → Nat → Int32) (J : Nat → Nat → Int64) (v : Vt) (n : Nat) (x : Int32) (h : n < 272) : saI (mkS X I J v) 275 2 (iZ (n : Int)) x = some (mkS X (gup I 275 n (gnar 2 x)) J v) := saI_n k_275 l_275 (by decide) (by decide) h
theorem n275 (X : Nat × (Nat → Int32)) (I : Nat → Nat → Int32) (J : Nat → Nat → Int64) (v : Vt) : glen (mkS X I J v) 275 = some (iZ 272) := (glen_mk (by rw [k_275]; decide) (by rw [k_275]; decide) (by decide)).trans (by rw [l_275]; rfl)
set_option maxRecDepth 20000 in
theorem k_276 : gK cst 276 = 22 := by rw [cK 276 (by decide) (by decide)]; rfl
set_option maxRecDepth 20000 in
theorem l_276 : gLn cst 276 = 272 := by rw [cL 276 (by decide) (by decide)]; rfl
theorem a276 (X : Nat × (Nat → Int32)) (I : Nat → Nat → Int32) (J : Nat → Nat → Int64) (v : Vt) (n : Nat) (h : n < 272) : gaI (mkS X I J v) 276 2 (iZ (n : Int)) = some (I 276 n) := gaI_n k_276 l_276 (by decide) (by decide) h
theorem b276 (X : Nat × (Nat → Int32)) (I : Nat → Nat → Int32) (J : Nat → Nat → Int64) (v : Vt) (n : Nat) (x : Int32) (h : n < 272) : saI (mkS X I J v) 276 2 (iZ (n : Int)) x = some (mkS X (gup I 276 n (gnar 2 x)) J v) := saI_n k_276 l_276 (by decide) (by decide) h
theorem n276 (X : Nat × (Nat → Int32)) (I : Nat → Nat → Int32) (J : Nat → Nat → Int64) (v : Vt) : glen (mkS X I J v) 276 = some (iZ 272) := (glen_mk (by rw [k_276]; decide) (by rw [k_276]; decide) (by decide)).trans (by rw [l_276]; rfl)
set_option maxRecDepth 20000 in
theorem k_277 : gK cst 277 = 22 := by rw [cK 277 (by decide) (by decide)]; rfl
set_option maxRecDepth 20000 in
theorem l_277 : gLn cst 277 = 3000 := by rw [cL 277 (by decide) (by decide)]; rfl
theorem a277 (X : Nat × (Nat → Int32)) (I : Nat → Nat → Int32) (J : Nat → Nat → Int64) (v : Vt) (n : Nat) (h : n < 3000) : gaI (mkS X I J v) 277 2 (iZ (n : Int)) = some (I 277 n) := gaI_n k_277 l_277 (by decide) (by decide) h
theorem b277 (X : Nat × (Nat → Int32)) (I : Nat → Nat → Int32) (J : Nat → Nat → Int64) (v : Vt) (n : Nat) (x : Int32) (h : n < 3000) : saI (mkS X I J v) 277 2 (iZ (n : Int)) x = some (mkS X (gup I 277 n (gnar 2 x)) J v) := saI_n k_277 l_277 (by decide) (by decide) h
theorem n277 (X : Nat × (Nat → Int32)) (I : Nat → Nat → Int32) (J : Nat → Nat → Int64) (v : Vt) : glen (mkS X I J v) 277 = some (iZ 3000) := (glen_mk (by rw [k_277]; decide) (by rw [k_277]; decide) (by decide)).trans (by rw [l_277]; rfl)
set_option maxRecDepth 20000 in
theorem k_278 : gK cst 278 = 22 := by rw [cK 278 (by decide) (by decide)]; rfl
set_option maxRecDepth 20000 in
theorem l_278 : gLn cst 278 = 3000 := by rw [cL 278 (by decide) (by decide)]; rfl
theorem a278 (X : Nat × (Nat → Int32)) (I : Nat → Nat → Int32) (J : Nat → Nat → Int64) (v : Vt) (n : Nat) (h : n < 3000) : gaI (mkS X I J v) 278 2 (iZ (n : Int)) = some (I 278 n) := gaI_n k_278 l_278 (by decide) (by decide) h
theorem b278 (X : Nat × (Nat → Int32)) (I : Nat → Nat → Int32) (J : Nat → Nat → Int64) (v : Vt) (n : Nat) (x : Int32) (h : n < 3000) : saI (mkS X I J v) 278 2 (iZ (n : Int)) x = some (mkS X (gup I 278 n (gnar 2 x)) J v) := saI_n k_278 l_278 (by decide) (by decide) h
theorem n278 (X : Nat × (Nat → Int32)) (I : Nat → Nat → Int32) (J : Nat → Nat → Int64) (v : Vt) : glen (mkS X I J v) 278 = some (iZ 3000) := (glen_mk (by rw [k_278]; decide) (by rw [k_278]; decide) (by decide)).trans (by rw [l_278]; rfl)
set_option maxRecDepth 20000 in
theorem k_279 : gK cst 279 = 22 := by rw [cK 279 (by decide) (by decide)]; rfl
set_option maxRecDepth 20000 in
theorem l_279 : gLn cst 279 = 64 := by rw [cL 279 (by decide) (by decide)]; rfl
theorem a279 (X : Nat × (Nat → Int32)) (I : Nat → Nat → Int32) (J : Nat → Nat → Int64) (v : Vt) (n : Nat) (h : n < 64) : gaI (mkS X I J v) 279 2 (iZ (n : Int)) = some (I 279 n) := gaI_n k_279 l_279 (by decide) (by decide) h
theorem b279 (X : Nat × (Nat → Int32)) (I : Nat → Nat → Int32) (J : Nat → Nat → Int64) (v : Vt) (n : Nat) (x : Int32) (h : n < 64) : saI (mkS X I J v) 279 2 (iZ (n : Int)) x = some (mkS X (gup I 279 n (gnar 2 x)) J v) := saI_n k_279 l_279 (by decide) (by decide) h
theorem n279 (X : Nat × (Nat → Int32)) (I : Nat → Nat → Int32) (J : Nat → Nat → Int64) (v : Vt) : glen (mkS X I J v) 279 = some (iZ 64) := (glen_mk (by rw [k_279]; decide) (by rw [k_279]; decide) (by decide)).trans (by rw [l_279]; rfl)
set_option maxRecDepth 20000 in
theorem k_280 : gK cst 280 = 22 := by rw [cK 280 (by decide) (by decide)]; rfl
set_option maxRecDepth 20000 in
theorem l_280 : gLn cst 280 = 8 := by rw [cL 280 (by decide) (by decide)]; rfl
theorem a280 (X : Nat × (Nat → Int32)) (I : Nat → Nat → Int32) (J : Nat → Nat → Int64) (v : Vt) (n : Nat) (h : n < 8) : gaI (mkS X I J v) 280 2 (iZ (n : Int)) = some (I 280 n) := gaI_n k_280 l_280 (by decide) (by decide) h
theorem b280 (X : Nat × (Nat → Int32)) (I : Nat → Nat → Int32) (J : Nat → Nat → Int64) (v : Vt) (n : Nat) (x : Int32) (h : n < 8) : saI (mkS X I J v) 280 2 (iZ (n : Int)) x = some (mkS X (gup I 280 n (gnar 2 x)) J v) := saI_n k_280 l_280 (by decide) (by decide) h
theorem n280 (X : Nat × (Nat → Int32)) (I : Nat → Nat → Int32) (J : Nat → Nat → Int64) (v : Vt) : glen (mkS X I J v) 280 = some (iZ 8) := (glen_mk (by rw [k_280]; decide) (by rw [k_280]; decide) (by decide)).trans (by rw [l_280]; rfl)
set_option maxRecDepth 20000 in
theorem k_281 : gK cst 281 = 22 := by rw [cK 281 (by decide) (by decide)]; rfl
set_option maxRecDepth 20000 in
theorem l_281 : gLn cst 281 = 264 := by rw [cL 281 (by decide) (by decide)]; rfl
theorem a281 (X : Nat × (Nat → Int32)) (I : Nat → Nat → Int32) (J : Nat → Nat → Int64) (v : Vt) (n : Nat) (h : n < 264) : gaI (mkS X I J v) 281 2 (iZ (n : Int)) = some (I 281 n) := gaI_n k_281 l_281 (by decide) (by decide) h
theorem b281 (X : Nat × (Nat → Int32)) (I : Nat → Nat → Int32) (J : Nat → Nat → Int64) (v : Vt) (n : Nat) (x : Int32) (h : n < 264) : saI (mkS X I J v) 281 2 (iZ (n : Int)) x = some (mkS X (gup I 281 n (gnar 2 x)) J v) := saI_n k_281 l_281 (by decide) (by decide) h
theorem n281 (X : Nat × (Nat → Int32)) (I : Nat → Nat → Int32) (J : Nat → Nat → Int64) (v : Vt) : glen (mkS X I J v) 281 = some (iZ 264) := (glen_mk (by rw [k_281]; decide) (by rw [k_281]; decide) (by decide)).trans (by rw [l_281]; rfl)
set_option maxRecDepth 20000 in
theorem k_282 : gK cst 282 = 24 := by rw [cK 282 (by decide) (by decide)]; rfl
set_option maxRecDepth 20000 in
theorem l_282 : gLn cst 282 = 175320 := by rw [cL 282 (by decide) (by decide)]; rfl
theorem a282 (X : Nat × (Nat → Int32)) (I : Nat → Nat → Int32) (J : Nat → Nat → Int64) (v : Vt) (n : Nat) (h : n < 175320) : gaI (mkS X I J v) 282 4 (iZ (n : Int)) = some (I 282 n) := gaI_n k_282 l_282 (by decide) (by decide) h
theorem b282 (X : Nat × (Nat → Int32)) (I : Nat → Nat → Int32) (J : Nat → Nat → Int64) (v : Vt) (n : Nat) (x : Int32) (h : n < 175320) : saI (mkS X I J v) 282 4 (iZ (n : Int)) x = some (mkS X (gup I 282 n (gnar 4 x)) J v) := saI_n k_282 l_282 (by decide) (by decide) h
theorem n282 (X : Nat × (Nat → Int32)) (I : Nat → Nat → Int32) (J : Nat → Nat → Int64) (v : Vt) : glen (mkS X I J v) 282 = some (iZ 175320) := (glen_mk (by rw [k_282]; decide) (by rw [k_282]; decide) (by decide)).trans (by rw [l_282]; rfl)
set_option maxRecDepth 20000 in
theorem k_283 : gK cst 283 = 24 := by rw [cK 283 (by decide) (by decide)]; rfl
set_option maxRecDepth 20000 in
theorem l_283 : gLn cst 283 = 12 := by rw [cL 283 (by decide) (by decide)]; rfl
theorem a283 (X : Nat × (Nat → Int32)) (I : Nat → Nat → Int32) (J : Nat → Nat → Int64) (v : Vt) (n : Nat) (h : n < 12) : gaI (mkS X I J v) 283 4 (iZ (n : Int)) = some (I 283 n) := gaI_n k_283 l_283 (by decide) (by decide) h
theorem b283 (X : Nat × (Nat → Int32)) (I : Nat → Nat → Int32) (J : Nat → Nat → Int64) (v : Vt) (n : Nat) (x : Int32) (h : n < 12) : saI (mkS X I J v) 283 4 (iZ (n : Int)) x = some (mkS X (gup I 283 n (gnar 4 x)) J v) := saI_n k_283 l_283 (by decide) (by decide) h
theorem n283 (X : Nat × (Nat → Int32)) (I : Nat → Nat → Int32) (J : Nat → Nat → Int64) (v : Vt) : glen (mkS X I J v) 283 = some (iZ 12) := (glen_mk (by rw [k_283]; decide) (by rw [k_283]; decide) (by decide)).trans (by rw [l_283]; rfl)
set_option maxRecDepth 20000 in
theorem k_284 : gK cst 284 = 24 := by rw [cK 284 (by decide) (by decide)]; rfl
set_option maxRecDepth 20000 in
theorem l_284 : gLn cst 284 = 14610 := by rw [cL 284 (by decide) (by decide)]; rfl
theorem a284 (X : Nat × (Nat → Int32)) (I : Nat → Nat → Int32) (J : Nat → Nat → Int64) (v : Vt) (n : Nat) (h : n < 14610) : gaI (mkS X I J v) 284 4 (iZ (n : Int)) = some (I 284 n) := gaI_n k_284 l_284 (by decide) (by decide) h
theorem b284 (X : Nat × (Nat → Int32)) (I : Nat → Nat → Int32) (J : Nat → Nat → Int64) (v : Vt) (n : Nat) (x : Int32) (h : n < 14610) : saI (mkS X I J v) 284 4 (iZ (n : Int)) x = some (mkS X (gup I 284 n (gnar 4 x)) J v) := saI_n k_284 l_284 (by decide) (by decide) h
theorem n284 (X : Nat × (Nat → Int32)) (I : Nat → Nat → Int32) (J : Nat → Nat → Int64) (v : Vt) : glen (mkS X I J v) 284 = some (iZ 14610) := (glen_mk (by rw [k_284]; decide) (by rw [k_284]; decide) (by decide)).trans (by rw [l_284]; rfl)
set_option maxRecDepth 20000 in
theorem k_285 : gK cst 285 = 24 := by rw [cK 285 (by decide) (by decide)]; rfl
set_option maxRecDepth 20000 in
theorem l_285 : gLn cst 285 = 233760 := by rw [cL 285 (by decide) (by decide)]; rfl
theorem a285 (X : Nat × (Nat → Int32)) (I : Nat → Nat → Int32) (J : Nat → Nat → Int64) (v : Vt) (n : Nat) (h : n < 233760) : gaI (mkS X I J v) 285 4 (iZ (n : Int)) = some (I 285 n) := gaI_n k_285 l_285 (by decide) (by decide) h
theorem b285 (X : Nat × (Nat → Int32)) (I : Nat → Nat → Int32) (J : Nat → Nat → Int64) (v : Vt) (n : Nat) (x : Int32) (h : n < 233760) : saI (mkS X I J v) 285 4 (iZ (n : Int)) x = some (mkS X (gup I 285 n (gnar 4 x)) J v) := saI_n k_285 l_285 (by decide) (by decide) h
theorem n285 (X : Nat × (Nat → Int32)) (I : Nat → Nat → Int32) (J : Nat → Nat → Int64) (v : Vt) : glen (mkS X I J v) 285 = some (iZ 233760) := (glen_mk (by rw [k_285]; decide) (by rw [k_285]; decide) (by decide)).trans (by rw [l_285]; rfl)
set_option maxRecDepth 20000 in
theorem k_286 : gK cst 286 = 24 := by rw [cK 286 (by decide) (by decide)]; rfl
set_option maxRecDepth 20000 in
theorem l_286 : gLn cst 286 = 14610 := by rw [cL 286 (by decide) (by decide)]; rfl
theorem a286 (X : Nat × (Nat → Int32)) (I : Nat → Nat → Int32) (J : Nat → Nat → Int64) (v : Vt) (n : Nat) (h : n < 14610) : gaI (mkS X I J v) 286 4 (iZ (n : Int)) = some (I 286 n) := gaI_n k_286 l_286 (by decide) (by decide) h
theorem b286 (X : Nat × (Nat → Int32)) (I : Nat → Nat → Int32) (J : Nat → Nat → Int64) (v : Vt) (n : Nat) (x : Int32) (h : n < 14610) : saI (mkS X I J v) 286 4 (iZ (n : Int)) x = some (mkS X (gup I 286 n (gnar 4 x)) J v) := saI_n k_286 l_286 (by decide) (by decide) h
theorem n286 (X : Nat × (Nat → Int32)) (I : Nat → Nat → Int32) (J : Nat → Nat → Int64) (v : Vt) : glen (mkS X I J v) 286 = some (iZ 14610) := (glen_mk (by rw [k_286]; decide) (by rw [k_286]; decide) (by decide)).trans (by rw [l_286]; rfl)
set_option maxRecDepth 20000 in
theorem k_287 : gK cst 287 = 22 := by rw [cK 287 (by decide) (by decide)]; rfl
set_option maxRecDepth 20000 in
theorem l_287 : gLn cst 287 = 12 := by rw [cL 287 (by decide) (by decide)]; rfl
theorem a287 (X : Nat × (Nat → Int32)) (I : Nat → Nat → Int32) (J : Nat → Nat → Int64) (v : Vt) (n : Nat) (h : n < 12) : gaI (mkS X I J v) 287 2 (iZ (n : Int)) = some (I 287 n) := gaI_n k_287 l_287 (by decide) (by decide) h
theorem b287 (X : Nat × (Nat → Int32)) (I : Nat → Nat → Int32) (J : Nat → Nat → Int64) (v : Vt) (n : Nat) (x : Int32) (h : n < 12) : saI (mkS X I J v) 287 2 (iZ (n : Int)) x = some (mkS X (gup I 287 n (gnar 2 x)) J v) := saI_n k_287 l_287 (by decide) (by decide) h
theorem n287 (X : Nat × (Nat → Int32)) (I : Nat → Nat → Int32) (J : Nat → Nat → Int64) (v : Vt) : glen (mkS X I J v) 287 = some (iZ 12) := (glen_mk (by rw [k_287]; decide) (by rw [k_287]; decide) (by decide)).trans (by rw [l_287]; rfl)
set_option maxRecDepth 20000 in
theorem k_288 : gK cst 288 = 24 := by rw [cK 288 (by decide) (by decide)]; rfl
set_option maxRecDepth 20000 in
theorem l_288 : gLn cst 288 = 12 := by rw [cL 288 (by decide) (by decide)]; rfl
theorem a288 (X : Nat × (Nat → Int32)) (I : Nat → Nat → Int32) (J : Nat → Nat → Int64) (v : Vt) (n : Nat) (h : n < 12) : gaI (mkS X I J v) 288 4 (iZ (n : Int)) = some (I 288 n) := gaI_n k_288 l_288 (by decide) (by decide) h
theorem b288 (X : Nat × (Nat → Int32)) (I : Nat → Nat → Int32) (J : Nat → Nat → Int64) (v : Vt) (n : Nat) (x : Int32) (h : n < 12) : saI (mkS X I J v) 288 4 (iZ (n : Int)) x = some (mkS X (gup I 288 n (gnar 4 x)) J v) := saI_n k_288 l_288 (by decide) (by decide) h
theorem n288 (X : Nat × (Nat → Int32)) (I : Nat → Nat → Int32) (J : Nat → Nat → Int64) (v : Vt) : glen (mkS X I J v) 288 = some (iZ 12) := (glen_mk (by rw [k_288]; decide) (by rw [k_288]; decide) (by decide)).trans (by rw [l_288]; rfl)
set_option maxRecDepth 20000 in
theorem k_289 : gK cst 289 = 24 := by rw [cK 289 (by decide) (by decide)]; rfl
set_option maxRecDepth 20000 in
theorem l_289 : gLn cst 289 = 61 := by rw [cL 289 (by decide) (by decide)]; rfl
theorem a289 (X : Nat × (Nat → Int32)) (I : Nat → Nat → Int32) (J : Nat → Nat → Int64) (v : Vt) (n : Nat) (h : n < 61) : gaI (mkS X I J v) 289 4 (iZ (n : Int)) = some (I 289 n) := gaI_n k_289 l_289 (by decide) (by decide) h
theorem b289 (X : Nat × (Nat → Int32)) (I : Nat → Nat → Int32) (J : Nat → Nat → Int64) (v : Vt) (n : Nat) (x : Int32) (h : n < 61) : saI (mkS X I J v) 289 4 (iZ (n : Int)) x = some (mkS X (gup I 289 n (gnar 4 x)) J v) := saI_n k_289 l_289 (by decide) (by decide) h
theorem n289 (X : Nat × (Nat → Int32)) (I : Nat → Nat → Int32) (J : Nat → Nat → Int64) (v : Vt) : glen (mkS X I J v) 289 = some (iZ 61) := (glen_mk (by rw [k_289]; decide) (by rw [k_289]; decide) (by decide)).trans (by rw [l_289]; rfl)
set_option maxRecDepth 20000 in
theorem k_290 : gK cst 290 = 24 := by rw [cK 290 (by decide) (by decide)]; rfl
set_option maxRecDepth 20000 in
theorem l_290 : gLn cst 290 = 14610 := by rw [cL 290 (by decide) (by decide)]; rfl
theorem a290 (X : Nat × (Nat → Int32)) (I : Nat → Nat → Int32) (J : Nat → Nat → Int64) (v : Vt) (n : Nat) (h : n < 14610) : gaI (mkS X I J v) 290 4 (iZ (n : Int)) = some (I 290 n) := gaI_n k_290 l_290 (by decide) (by decide) h
theorem b290 (X : Nat × (Nat → Int32)) (I : Nat → Nat → Int32) (J : Nat → Nat → Int64) (v : Vt) (n : Nat) (x : Int32) (h : n < 14610) : saI (mkS X I J v) 290 4 (iZ (n : Int)) x = some (mkS X (gup I 290 n (gnar 4 x)) J v) := saI_n k_290 l_290 (by decide) (by decide) h
theorem n290 (X : Nat × (Nat → Int32)) (I : Nat → Nat → Int32) (J : Nat → Nat → Int64) (v : Vt) : glen (mkS X I J v) 290 = some (iZ 14610) := (glen_mk (by rw [k_290]; decide) (by rw [k_290]; decide) (by decide)).trans (by rw [l_290]; rfl)
set_option maxRecDepth 20000 in
theorem k_291 : gK cst 291 = 22 := by rw [cK 291 (by decide) (by decide)]; rfl
set_option maxRecDepth 20000 in
theorem l_291 : gLn cst 291 = 366 := by rw [cL 291 (by decide) (by decide)]; rfl
theorem a291 (X : Nat × (Nat → Int32)) (I : Nat → Nat → Int32) (J : Nat → Nat → Int64) (v : Vt) (n : Nat) (h : n < 366) : gaI (mkS X I J v) 291 2 (iZ (n : Int)) = some (I 291 n) := gaI_n k_291 l_291 (by decide) (by decide) h
theorem b291 (X : Nat × (Nat → Int32)) (I : Nat → Nat → Int32) (J : Nat → Nat → Int64) (v : Vt) (n : Nat) (x : Int32) (h : n < 366) : saI (mkS X I J v) 291 2 (iZ (n : Int)) x = some (mkS X (gup I 291 n (gnar 2 x)) J v) := saI_n k_291 l_291 (by decide) (by decide) h
theorem n291 (X : Nat × (Nat → Int32)) (I : Nat → Nat → Int32) (J : Nat → Nat → Int64) (v : Vt) : glen (mkS X I J v) 291 = some (iZ 366) := (glen_mk (by rw [k_291]; decide) (by rw [k_291]; decide) (by decide)).trans (by rw [l_291]; rfl)
set_option maxRecDepth 20000 in
theorem k_292 : gK cst 292 = 22 := by rw [cK 292 (by decide) (by decide)]; rfl
set_option maxRecDepth 20000 in
theorem l_292 : gLn cst 292 = 5280 := by rw [cL 292 (by decide) (by decide)]; rfl
theorem a292 (X : Nat × (Nat → Int32)) (I : Nat → Nat → Int32) (J : Nat → Nat → Int64) (v : Vt) (n : Nat) (h : n < 5280) : gaI (mkS X I J v) 292 2 (iZ (n : Int)) = some (I 292 n) := gaI_n k_292 l_292 (by decide) (by decide) h
theorem b292 (X : Nat × (Nat → Int32)) (I : Nat → Nat → Int32) (J : Nat → Nat → Int64) (v : Vt) (n : Nat) (x : Int32) (h : n < 5280) : saI (mkS X I J v) 292 2 (iZ (n : Int)) x = some (mkS X (gup I 292 n (gnar 2 x)) J v) := saI_n k_292 l_292 (by decide) (by decide) h
theorem n292 (X : Nat × (Nat → Int32)) (I : Nat → Nat → Int32) (J : Nat → Nat → Int64) (v : Vt) : glen (mkS X I J v) 292 = some (iZ 5280) := (glen_mk (by rw [k_292]; decide) (by rw [k_292]; decide) (by decide)).trans (by rw [l_292]; rfl)
theorem bO : (∀ (α β : Type) (x : α) (f : α → Option β), (some x).bind f = f x) ∧ (∀ (β γ : Type) (r : β) (s : gH) (K : β → gH → Option γ), gb2 (some (r, s)) K = K r s) ∧ (∀ (β γ : Type) (e : β) (f : β → γ), glet e f = f e) ∧ (∀ (β γ : Type) (e : β) (f : β → γ), gjn e f = f e) := ⟨fun _ _ _ _ => rfl, fun _ _ _ _ _ => rfl, fun _ _ _ _ => rfl, fun _ _ _ _ => rfl⟩
