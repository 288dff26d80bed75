/-! THE START: both objects are made -/
theorem cst_0 : cst = cst0 := Option.some.inj (gct_eq.symm.trans gct0_eq)
theorem cst0_281 : ((List.range 12).map fun i => gI cst0 281 (12 + 21 * i)) = [0, 0, 0, 0, 0, 0, 0, 0, 0, 0, 0, 0] := by decide +kernel
theorem z12 : ∀ i, i < 12 → ([0, 0, 0, 0, 0, 0, 0, 0, 0, 0, 0, 0] : List Int32).getD i 0 = 0 := by decide +kernel
theorem c281 {i : Nat} (h : i < 12) : gI cst 281 (12 + 21 * i) = 0 := by
  have e := getD_of_map (d := 0) cst0_281 i h
  rw [cst_0, ← e]
  exact z12 i h
theorem made0 : (gmk gsc 11 fun r s => gb2 (fX11_init r s) fun _ s4 => some (r, gN s4)) = some (50, 267) := by decide +kernel
theorem law_0 (X : Nat × (Nat → Int32)) : ∃ K : Nat, K = 20000 ∧ gL_law X gsc = gL_law_L18 50 267 K 0 (gsX X cst) := by
  refine ⟨20000, rfl, ?_⟩
  have h1 := made0
  have h2 := gct_eq
  have n0 : gN gsc = 50 := rfl
  have hm : ∀ {γ : Type} (σ : gH) (c n : Nat) (K : Nat → gH → Option γ), gN σ = n → n ≠ 0 → gmk σ c K = K n (gnew σ (c + 1) 0 (gNf c)) := fun σ c n K e e0 => by
    subst e; exact if_neg e0
  unfold gct at h2
  unfold gL_law
  generalize gL_law_L18 = G at *
  have h1' := (hm gsc 11 50 _ n0 (by decide)).symm.trans h1
  have h2' := (hm gsc 11 50 _ n0 (by decide)).symm.trans h2
  refine (hm gsc 11 50 _ n0 (by decide)).trans ?_
  change gb2 (fX11_init 50 (gnew gsc (11 + 1) 0 (gNf 11))) (fun _ s4 => some (50, gN s4)) = some (50, 267) at h1'
  change gb2 (fX11_init 50 (gnew gsc (11 + 1) 0 (gNf 11))) (fun _ s4 => gmk s4 12 fun r5 s6 => gb2 (fX12_init r5 s6) fun _ s8 => some s8) = some cst at h2'
  change gb2 (fX11_init 50 (gnew gsc (11 + 1) 0 (gNf 11))) (fun _ s4 => gmk s4 12 fun r5 s6 => gb2 (fX12_init r5 s6) fun _ s8 => G 50 r5 20000 0 (gsX X s8)) = G 50 267 20000 0 (gsX X cst)
  cases h : fX11_init 50 (gnew gsc (11 + 1) 0 (gNf 11)) with
  | none => rw [h, gb2_none] at h1'; cases h1'
  | some p =>
    obtain ⟨u, s4⟩ := p
    rw [h, gb2_some] at h1' h2'
    rw [gb2_some]
    have n4 : gN s4 = 267 := congrArg Prod.snd (Option.some.inj h1')
    have h3' := (hm s4 12 267 _ n4 (by decide)).symm.trans h2'
    refine (hm s4 12 267 _ n4 (by decide)).trans ?_
    change gb2 (fX12_init 267 (gnew s4 (12 + 1) 0 (gNf 12))) (fun _ s8 => some s8) = some cst at h3'
    change gb2 (fX12_init 267 (gnew s4 (12 + 1) 0 (gNf 12))) (fun _ s8 => G 50 267 20000 0 (gsX X s8)) = G 50 267 20000 0 (gsX X cst)
    cases h5 : fX12_init 267 (gnew s4 (12 + 1) 0 (gNf 12)) with
    | none => rw [h5, gb2_none] at h3'; cases h3'
    | some p =>
      obtain ⟨u5, s8⟩ := p
      rw [h5, gb2_some] at h3'
      rw [gb2_some]
      rw [Option.some.inj h3']
theorem Rv_0 : Rv (197, 232, 197, 0, 54, 0) = gR cst := by
  funext r k
  unfold Rv
  by_cases a1 : r = 50 ∧ k = 7
  · rw [if_pos a1, a1.1, a1.2, cR 50 7 (by decide) (by decide) (by decide +kernel)]; decide +kernel
  · rw [if_neg a1]
    by_cases a2 : r = 50 ∧ k = 8
    · rw [if_pos a2, a2.1, a2.2, cR 50 8 (by decide) (by decide) (by decide +kernel)]; decide +kernel
    · rw [if_neg a2]
      by_cases a3 : r = 60 ∧ k = 5
      · rw [if_pos a3, a3.1, a3.2, cR 60 5 (by decide) (by decide) (by decide +kernel)]; decide +kernel
      · rw [if_neg a3]
        by_cases a4 : r = 53 ∧ k = 7
        · rw [if_pos a4, a4.1, a4.2, cR 53 7 (by decide) (by decide) (by decide +kernel)]; decide +kernel
        · rw [if_neg a4]
          by_cases a5 : r = 53 ∧ k = 2
          · rw [if_pos a5, a5.1, a5.2, cR 53 2 (by decide) (by decide) (by decide +kernel)]; decide +kernel
          · rw [if_neg a5]
            by_cases a6 : r = 188 ∧ k = 6
            · rw [if_pos a6, a6.1, a6.2, cR 188 6 (by decide) (by decide) (by decide +kernel)]; decide +kernel
            · rw [if_neg a6]
noncomputable def iSt (X : Nat × (Nat → Int32)) : Nat → Nat → Int32 := fun r j => if r = 1 then X.2 j else gI cst r j
theorem start_eq (X : Nat × (Nat → Int32)) : gsX X cst = mkS X (iSt X) (gJ cst) (197, 232, 197, 0, 54, 0) := by
  have e : cst.2.2.2 = (gJ cst, gR cst, 293, gQ cst) := by
    rw [← cst_N]
    rfl
  unfold gsX mkS
  rw [Rv_0, e]
  rfl
theorem iSt_at {X : Nat × (Nat → Int32)} (r k : Nat) (x : Int32) (h1 : 50 ≤ r) (h2 : r < 293) (hk : k < (layI.getD (r - 50) []).length) (h : (layI.getD (r - 50) []).getD k 0 = x) : iSt X r k = x := by
  show (if r = 1 then X.2 k else gI cst r k) = x
  rw [if_neg (by omega), cI r k h1 h2 hk, h]
theorem lay_rows : ∀ s, s < 6 → (1 < (layI.getD (119 + 4 * s - 50) []).length ∧ (layI.getD (119 + 4 * s - 50) []).getD 1 0 = 0) ∧ (1 < (layI.getD (121 + 4 * s - 50) []).length ∧ (layI.getD (121 + 4 * s - 50) []).getD 1 0 = 0) := by decide +kernel
theorem lay_ref : ∀ k, k < 6 → (k < (layI.getD (196 - 50) []).length ∧ (layI.getD (196 - 50) []).getD k 0 = 0) ∧ (k < (layI.getD (269 - 50) []).length ∧ (layI.getD (269 - 50) []).getD k 0 = 0) := by decide +kernel
theorem lay_own : ∀ k, k < 132 → k < (layI.getD (270 - 50) []).length ∧ (layI.getD (270 - 50) []).getD k 0 = iZ (ownc k : Nat) := by decide +kernel
theorem Bk0_ok : BkOK Bk0 := ⟨Nat.zero_le _, Nat.zero_le _, fun r h => absurd h (Nat.not_lt_zero r), fun s h => absurd h (Nat.not_lt_zero s), Nat.zero_le _, Nat.zero_le _, fun w hw => by
  have hw' : kn 0 0 w := hw
  unfold kn at hw'; omega⟩
theorem rel_start (X : Nat × (Nat → Int32)) : rel (iSt X) (gJ cst) (197, 232, 197, 0, 54, 0) := by
  have h0 : ∀ w, ¬ kn Bk0.nR Bk0.nS w := fun w hw => by
    have hw' : kn 0 0 w := hw
    unfold kn at hw'; omega
  refine ⟨197, 232, fun _ => (Bk0, fun _ _ => false, fun _ _ => false), 0, fun k => ⟨Bk0_ok, fun s d q => Bool.false_ne_true q.1, fun s _ _ d => ⟨rfl, rfl⟩⟩, ⟨Or.inl rfl, Or.inr rfl, by decide, rfl, rfl, rfl, ⟨?_, ?_, fun r h => absurd h (Nat.not_lt_zero r), fun s h => absurd h (Nat.not_lt_zero s), fun w hw => absurd hw (h0 w)⟩, ⟨⟨0, ?_, Nat.zero_le _, fun w hw => absurd hw (h0 w)⟩, fun s hs => ⟨crow_0 ?_, crow_0 ?_⟩⟩, ⟨0, by decide, ?_, ?_, Nat.zero_le _, fun k hk => absurd hk (Nat.not_lt_zero k)⟩⟩, ⟨⟨?_, ?_, fun r h => absurd h (Nat.not_lt_zero r), fun s h => absurd h (Nat.not_lt_zero s), Or.inr ⟨?_, rfl, rfl⟩⟩, ⟨fun w hw => absurd hw (h0 w), fun s hs => ⟨mrow_0 ?_, mrow_0 ?_⟩⟩, ⟨0, by decide, ?_, ?_, Nat.zero_le _, fun k hk => absurd hk (Nat.not_lt_zero k)⟩⟩, Or.inl ⟨?_, ?_⟩, ⟨0, Nat.zero_le _, ?_, ?_, fun j hj => absurd hj (Nat.not_lt_zero j)⟩, fun k hk => ?_, ⟨?_, ?_⟩, ⟨1, by decide, ?_, ?_⟩, Or.inl ?_, fun k hk => ?_⟩
  · exact iSt_at 197 0 _ (by decide) (by decide) (by decide +kernel) (by decide +kernel)
  · exact iSt_at 197 1 _ (by decide) (by decide) (by decide +kernel) (by decide +kernel)
  · exact iSt_at 60 7 _ (by decide) (by decide) (by decide +kernel) (by decide +kernel)
  · exact iSt_at _ 1 _ (by omega) (by omega) (lay_rows s hs).1.1 (lay_rows s hs).1.2
  · exact iSt_at _ 1 _ (by omega) (by omega) (lay_rows s hs).2.1 (lay_rows s hs).2.2
  · exact iSt_at 143 4 _ (by decide) (by decide) (by decide +kernel) (by decide +kernel)
  · exact iSt_at 143 5 _ (by decide) (by decide) (by decide +kernel) (by decide +kernel)
  · exact iSt_at 276 0 _ (by decide) (by decide) (by decide +kernel) (by decide +kernel)
  · exact iSt_at 276 1 _ (by decide) (by decide) (by decide +kernel) (by decide +kernel)
  · exact iSt_at 267 23 _ (by decide) (by decide) (by decide +kernel) (by decide +kernel)
  · show (if 281 = 1 then X.2 (12 + 42 * s) else gI cst 281 (12 + 42 * s)) = 0
    rw [if_neg (by decide), show 12 + 42 * s = 12 + 21 * (2 * s) by omega]
    exact c281 (by omega)
  · show (if 281 = 1 then X.2 (12 + 42 * s + 21) else gI cst 281 (12 + 42 * s + 21)) = 0
    rw [if_neg (by decide), show 12 + 42 * s + 21 = 12 + 21 * (2 * s + 1) by omega]
    exact c281 (by omega)
  · exact iSt_at 267 45 _ (by decide) (by decide) (by decide +kernel) (by decide +kernel)
  · exact iSt_at 267 44 _ (by decide) (by decide) (by decide +kernel) (by decide +kernel)
  · exact iSt_at 188 8 _ (by decide) (by decide) (by decide +kernel) (by decide +kernel)
  · exact iSt_at 267 36 _ (by decide) (by decide) (by decide +kernel) (by decide +kernel)
  · exact iSt_at 51 1 _ (by decide) (by decide) (by decide +kernel) (by decide +kernel)
  · exact iSt_at 267 1 _ (by decide) (by decide) (by decide +kernel) (by decide +kernel)
  · rw [iSt_at 196 k 0 (by decide) (by decide) (lay_ref k hk).1.1 (lay_ref k hk).1.2, iSt_at 269 k 0 (by decide) (by decide) (lay_ref k hk).2.1 (lay_ref k hk).2.2]
  · rw [iSt_at 53 0 0 (by decide) (by decide) (by decide +kernel) (by decide +kernel), iSt_at 267 7 0 (by decide) (by decide) (by decide +kernel) (by decide +kernel)]
  · rw [iSt_at 53 1 (-1) (by decide) (by decide) (by decide +kernel) (by decide +kernel), iSt_at 267 8 (-1) (by decide) (by decide) (by decide +kernel) (by decide +kernel)]
  · exact iSt_at 50 9 _ (by decide) (by decide) (by decide +kernel) (by decide +kernel)
  · rw [cst_J]; decide +kernel
  · exact iSt_at 267 17 _ (by decide) (by decide) (by decide +kernel) (by decide +kernel)
  · exact iSt_at 270 k _ (by decide) (by decide) (lay_own k hk).1 (lay_own k hk).2
