/-! BOOKS: their objects -/
def isBk (b : Nat) : Prop := b = 197 ∨ b = 232
set_option maxRecDepth 20000 in
theorem bkT : ∀ b, (b = 197 ∨ b = 232) → layK.getD (b - 50) 0 = 2 ∧ layK.getD (b + 1 - 50) 0 = 27 ∧ layK.getD (b + 2 - 50) 0 = 22 ∧ layK.getD (b + 3 - 50) 0 = 22 ∧ layK.getD (b + 4 - 50) 0 = 22 ∧ layL.getD (b + 1 - 50) 0 = 6 ∧ layL.getD (b + 2 - 50) 0 = 12 ∧ layL.getD (b + 3 - 50) 0 = 800 ∧ layL.getD (b + 4 - 50) 0 = 6 ∧ (layR.getD (b - 50) []).length = 7 ∧ (layR.getD (b - 50) []).getD 3 0 = b + 1 ∧ (layR.getD (b - 50) []).getD 4 0 = b + 2 ∧ (layR.getD (b - 50) []).getD 5 0 = b + 3 ∧ (layR.getD (b - 50) []).getD 6 0 = b + 4 ∧ (layR.getD (b + 1 - 50) []).length = 6 ∧ ∀ n, n < 6 → (layR.getD (b + 1 - 50) []).getD n 0 = b + 5 + 5 * n := by
  rintro b (rfl | rfl) <;> decide +kernel
theorem isRule_bk {b n : Nat} (h : isBk b) (hn : n < 6) : isRule (b + 5 + 5 * n) := by
  unfold isRule isRuleb
  rcases h with rfl | rfl
  · rcases (show n = 0 ∨ n = 1 ∨ n = 2 ∨ n = 3 ∨ n = 4 ∨ n = 5 by omega) with rfl | rfl | rfl | rfl | rfl | rfl <;> rfl
  · rcases (show n = 0 ∨ n = 1 ∨ n = 2 ∨ n = 3 ∨ n = 4 ∨ n = 5 by omega) with rfl | rfl | rfl | rfl | rfl | rfl <;> rfl
theorem bk_r {b : Nat} (h : isBk b) : 197 ≤ b ∧ b + 34 < 267 ∧ b ≠ 0 := by unfold isBk at h; omega
theorem Rv_o {v : Vt} {r k : Nat} (h1 : r ≠ 50) (h2 : r ≠ 60) (h3 : r ≠ 53) (h4 : r ≠ 188) : Rv v r k = gR cst r k := by
  unfold Rv
  rw [if_neg (fun q => h1 q.1), if_neg (fun q => h1 q.1), if_neg (fun q => h2 q.1), if_neg (fun q => h3 q.1), if_neg (fun q => h3 q.1), if_neg (fun q => h4 q.1)]
section gBk
variable {X : Nat × (Nat → Int32)} {v : Vt} {b : Nat}
theorem bk_k (h : isBk b) : gK cst b = 1 + 1 := by have := bk_r h; rw [cK b (by omega) (by omega), (bkT b h).1]
theorem bk_k1 (h : isBk b) : gK cst (b + 1) = 20 + 7 := by have := bk_r h; rw [cK (b + 1) (by omega) (by omega), (bkT b h).2.1]
theorem bk_k2 (h : isBk b) : gK cst (b + 2) = 20 + 2 := by have := bk_r h; rw [cK (b + 2) (by omega) (by omega), (bkT b h).2.2.1]
theorem bk_k3 (h : isBk b) : gK cst (b + 3) = 20 + 2 := by have := bk_r h; rw [cK (b + 3) (by omega) (by omega), (bkT b h).2.2.2.1]
theorem bk_k4 (h : isBk b) : gK cst (b + 4) = 20 + 2 := by have := bk_r h; rw [cK (b + 4) (by omega) (by omega), (bkT b h).2.2.2.2.1]
theorem bk_l1 (h : isBk b) : gLn cst (b + 1) = 6 := by have := bk_r h; rw [cL (b + 1) (by omega) (by omega), (bkT b h).2.2.2.2.2.1]
theorem bk_l2 (h : isBk b) : gLn cst (b + 2) = 12 := by have := bk_r h; rw [cL (b + 2) (by omega) (by omega), (bkT b h).2.2.2.2.2.2.1]
theorem bk_l3 (h : isBk b) : gLn cst (b + 3) = 800 := by have := bk_r h; rw [cL (b + 3) (by omega) (by omega), (bkT b h).2.2.2.2.2.2.2.1]
theorem bk_l4 (h : isBk b) : gLn cst (b + 4) = 6 := by have := bk_r h; rw [cL (b + 4) (by omega) (by omega), (bkT b h).2.2.2.2.2.2.2.2.1]
theorem bk_c (h : isBk b) (I : Nat → Nat → Int32) (J : Nat → Nat → Int64) {β : Type} (o : Option β) : gcv (mkS X I J v) b 1 o = o := gcv_mk (bk_k h)
theorem bk_i (h : isBk b) (I : Nat → Nat → Int32) (J : Nat → Nat → Int64) {k : Nat} : ggI (mkS X I J v) b 1 k = some (I b k) := ggI_mk (bk_k h)
theorem bk_p (h : isBk b) (I : Nat → Nat → Int32) (J : Nat → Nat → Int64) {k : Nat} {x : Int32} : spI (mkS X I J v) b 1 k x = some (mkS X (gup I b k x) J v) := spI_mk (bk_k h)
theorem bk_R (h : isBk b) (I : Nat → Nat → Int32) (J : Nat → Nat → Int64) : ggR (mkS X I J v) b 1 3 = some (b + 1) ∧ ggR (mkS X I J v) b 1 4 = some (b + 2) ∧ ggR (mkS X I J v) b 1 5 = some (b + 3) ∧ ggR (mkS X I J v) b 1 6 = some (b + 4) := by
  have hb := bk_r h
  obtain ⟨-, -, -, -, -, -, -, -, -, t1, t2, t3, t4, t5, -⟩ := bkT b h
  refine ⟨?_, ?_, ?_, ?_⟩
  · rw [ggR_mk (bk_k h), Rv_o (by omega) (by omega) (by omega) (by omega), cR b 3 (by omega) (by omega) (by omega), t2]
  · rw [ggR_mk (bk_k h), Rv_o (by omega) (by omega) (by omega) (by omega), cR b 4 (by omega) (by omega) (by omega), t3]
  · rw [ggR_mk (bk_k h), Rv_o (by omega) (by omega) (by omega) (by omega), cR b 5 (by omega) (by omega) (by omega), t4]
  · rw [ggR_mk (bk_k h), Rv_o (by omega) (by omega) (by omega) (by omega), cR b 6 (by omega) (by omega) (by omega), t5]
theorem bk_r3 (h : isBk b) (I : Nat → Nat → Int32) (J : Nat → Nat → Int64) : ggR (mkS X I J v) b 1 3 = some (b + 1) := (bk_R h I J).1
theorem bk_r4 (h : isBk b) (I : Nat → Nat → Int32) (J : Nat → Nat → Int64) : ggR (mkS X I J v) b 1 4 = some (b + 2) := (bk_R h I J).2.1
theorem bk_r5 (h : isBk b) (I : Nat → Nat → Int32) (J : Nat → Nat → Int64) : ggR (mkS X I J v) b 1 5 = some (b + 3) := (bk_R h I J).2.2.1
theorem bk_r6 (h : isBk b) (I : Nat → Nat → Int32) (J : Nat → Nat → Int64) : ggR (mkS X I J v) b 1 6 = some (b + 4) := (bk_R h I J).2.2.2
theorem bk_a1 (h : isBk b) (I : Nat → Nat → Int32) (J : Nat → Nat → Int64) {n : Nat} (hn : n < 6) : gaR (mkS X I J v) (b + 1) 7 (iZ (n : Int)) = some (b + 5 + 5 * n) := by
  have hb := bk_r h
  obtain ⟨-, -, -, -, -, -, -, -, -, -, -, -, -, -, t1, t2⟩ := bkT b h
  rw [gaR_n (bk_k1 h) (bk_l1 h) (by omega) (by decide) hn, Rv_o (by omega) (by omega) (by omega) (by omega), cR (b + 1) n (by omega) (by omega) (by omega), t2 n hn]
theorem bk_n1 (h : isBk b) (I : Nat → Nat → Int32) (J : Nat → Nat → Int64) : glen (mkS X I J v) (b + 1) = some (iZ 6) := by
  rw [glen_mk (by rw [bk_k1 h]; decide) (by rw [bk_k1 h]; decide) (by have := bk_r h; omega), bk_l1 h]; rfl
theorem bk_n2 (h : isBk b) (I : Nat → Nat → Int32) (J : Nat → Nat → Int64) : glen (mkS X I J v) (b + 2) = some (iZ 12) := by
  rw [glen_mk (by rw [bk_k2 h]; decide) (by rw [bk_k2 h]; decide) (by omega), bk_l2 h]; rfl
theorem bk_n3 (h : isBk b) (I : Nat → Nat → Int32) (J : Nat → Nat → Int64) : glen (mkS X I J v) (b + 3) = some (iZ 800) := by
  rw [glen_mk (by rw [bk_k3 h]; decide) (by rw [bk_k3 h]; decide) (by omega), bk_l3 h]; rfl
theorem bk_n4 (h : isBk b) (I : Nat → Nat → Int32) (J : Nat → Nat → Int64) : glen (mkS X I J v) (b + 4) = some (iZ 6) := by
  rw [glen_mk (by rw [bk_k4 h]; decide) (by rw [bk_k4 h]; decide) (by omega), bk_l4 h]; rfl
theorem bk_a2 (h : isBk b) (I : Nat → Nat → Int32) (J : Nat → Nat → Int64) {n : Nat} (hn : n < 12) : gaI (mkS X I J v) (b + 2) 2 (iZ (n : Int)) = some (I (b + 2) n) := gaI_n (bk_k2 h) (bk_l2 h) (by omega) (by decide) hn
theorem bk_a3 (h : isBk b) (I : Nat → Nat → Int32) (J : Nat → Nat → Int64) {n : Nat} (hn : n < 800) : gaI (mkS X I J v) (b + 3) 2 (iZ (n : Int)) = some (I (b + 3) n) := gaI_n (bk_k3 h) (bk_l3 h) (by omega) (by decide) hn
theorem bk_a4 (h : isBk b) (I : Nat → Nat → Int32) (J : Nat → Nat → Int64) {n : Nat} (hn : n < 6) : gaI (mkS X I J v) (b + 4) 2 (iZ (n : Int)) = some (I (b + 4) n) := gaI_n (bk_k4 h) (bk_l4 h) (by omega) (by decide) hn
theorem bk_b2 (h : isBk b) (I : Nat → Nat → Int32) (J : Nat → Nat → Int64) {n : Nat} {x : Int32} (hn : n < 12) : saI (mkS X I J v) (b + 2) 2 (iZ (n : Int)) x = some (mkS X (gup I (b + 2) n x) J v) := saI_n (bk_k2 h) (bk_l2 h) (by omega) (by decide) hn
theorem bk_b3 (h : isBk b) (I : Nat → Nat → Int32) (J : Nat → Nat → Int64) {n : Nat} {x : Int32} (hn : n < 800) : saI (mkS X I J v) (b + 3) 2 (iZ (n : Int)) x = some (mkS X (gup I (b + 3) n x) J v) := saI_n (bk_k3 h) (bk_l3 h) (by omega) (by decide) hn
theorem bk_b4 (h : isBk b) (I : Nat → Nat → Int32) (J : Nat → Nat → Int64) {n : Nat} {x : Int32} (hn : n < 6) : saI (mkS X I J v) (b + 4) 2 (iZ (n : Int)) x = some (mkS X (gup I (b + 4) n x) J v) := saI_n (bk_k4 h) (bk_l4 h) (by omega) (by decide) hn
variable {I : Nat → Nat → Int32} {J : Nat → Nat → Int64}
theorem c_isWhat {nR nS : Nat} {z : Int} (h : isBk b) (h0 : I b 0 = iZ (nR : Int)) (h1 : I b 1 = iZ (nS : Int)) (hR : nR ≤ 6) (hS : nS ≤ 6) (z1 : -2147483648 ≤ z) (z2 : z < 2147483648) : fX1_isWhat b (iZ z) (mkS X I J v) = some (tf (decide ((0 ≤ z ∧ z < nR) ∨ (6 ≤ z ∧ z < 6 + nS))), mkS X I J v) := by
  unfold fX1_isWhat gX1_isWhat
  simp only [bO, bk_i h, h0, h1, aR]
  simp (disch := omega) only [iZ_lt, cL_lt]
  have lo : gzr (if z < 6 then some ((0 : Int32), mkS X I J v) else if z < 6 + (nS : Int) then some (1, mkS X I J v) else some (0, mkS X I J v)) = some (tf (decide (6 ≤ z ∧ z < 6 + (nS : Int))), mkS X I J v) := by
    by_cases c : z < 6
    · rw [if_pos c, decide_eq_false (by omega)]; rfl
    · rw [if_neg c]
      by_cases c2 : z < 6 + (nS : Int)
      · rw [if_pos c2, decide_eq_true (by omega)]; rfl
      · rw [if_neg c2, decide_eq_false (by omega)]; rfl
  by_cases c : z < 0
  · rw [if_pos c, lo]
    congr 3
    apply Bool.eq_iff_iff.mpr
    rw [decide_eq_true_eq, decide_eq_true_eq]; omega
  · rw [if_neg c]
    by_cases c2 : z < (nR : Int)
    · rw [if_pos c2, decide_eq_true (by omega)]; rfl
    · rw [if_neg c2, lo]
      congr 3
      apply Bool.eq_iff_iff.mpr
      rw [decide_eq_true_eq, decide_eq_true_eq]; omega
theorem c_ruleAt {nR : Nat} {z : Int} (h : isBk b) (h0 : I b 0 = iZ (nR : Int)) (hR : nR ≤ 6) (z1 : -2147483648 ≤ z) (z2 : z < 2147483648) : fX1_ruleAt b (iZ z) (mkS X I J v) = some (if 0 ≤ z ∧ z < nR then b + 5 + 5 * z.toNat else 0, mkS X I J v) := by
  unfold fX1_ruleAt
  simp only [bO, bk_i h, h0, bk_r3 h, bk_n1 h]
  simp (disch := omega) only [iZ_lt, cL_lt]
  by_cases c : z < 0
  · rw [if_pos c, if_neg (by omega)]
  · rw [if_neg c]
    by_cases c2 : z < (nR : Int)
    · rw [if_pos c2, if_pos (by omega), if_pos (by omega)]
      obtain ⟨n, rfl⟩ : ∃ n : Nat, z = (n : Int) := ⟨z.toNat, by omega⟩
      rw [bk_a1 h I J (by omega)]
      rfl
    · rw [if_neg c2, if_neg (by omega)]
theorem c_codeEnd {s : Nat} (h : isBk b) (hs : s < 6) : fX1_codeEnd b (iZ (s : Int)) (mkS X I J v) = some (I (b + 4) s, mkS X I J v) := by
  unfold fX1_codeEnd
  simp only [bO, bk_r6 h, bk_n4 h]
  simp (disch := omega) only [iZ_lt, cL_lt]
  rw [if_neg (by omega), if_pos (by omega), bk_a4 h I J hs]
  rfl
theorem c_codeStart {s : Nat} (h : isBk b) (hs : s < 6) : fX1_codeStart b (iZ (s : Int)) (mkS X I J v) = some (if s = 0 then 0 else I (b + 4) (s - 1), mkS X I J v) := by
  unfold fX1_codeStart
  simp only [bO, bk_r6 h, bk_n4 h, sL]
  simp (disch := omega) only [iZ_lt, cL_lt]
  by_cases c : s = 0
  · rw [if_pos (by omega), if_pos c]
  · rw [if_neg (by omega), if_neg (by omega), if_neg c, show (s : Int) - 1 = ((s - 1 : Nat) : Int) by omega, bk_a4 h I J (by omega)]
    rfl
theorem c_opAt {i op ar : Nat} (h : isBk b) (hi : i < 800) (h1 : op < 16) (h2 : ar < 16384) (hv : I (b + 3) i = iZ ((op * 16384 + ar : Nat) : Int)) : fX1_opAt b (iZ (i : Int)) (mkS X I J v) = some (iZ (op : Int), mkS X I J v) := by
  unfold fX1_opAt
  simp only [bO, bk_r5 h, bk_n3 h]
  simp (disch := omega) only [iZ_lt, cL_lt]
  rw [if_neg (by omega), if_pos (by omega), bk_a3 h I J hi]
  simp only [bO]
  rw [hv, show ((14 : Int32) &&& 31) = (iZ ((14 : Nat) : Int) &&& 31) from rfl, iZ_shr (by decide) (by omega) (by omega)]
  congr 3
  rw [show ((2 : Int) ^ 14) = 16384 from rfl]; omega
theorem c_argAt {i op ar : Nat} (h : isBk b) (hi : i < 800) (h1 : op < 16) (h2 : ar < 16384) (hv : I (b + 3) i = iZ ((op * 16384 + ar : Nat) : Int)) : fX1_argumentAt b (iZ (i : Int)) (mkS X I J v) = some (iZ (ar : Int), mkS X I J v) := by
  unfold fX1_argumentAt
  simp only [bO, bk_r5 h, bk_n3 h]
  simp (disch := omega) only [iZ_lt, cL_lt]
  rw [if_neg (by omega), if_pos (by omega), bk_a3 h I J hi]
  simp only [bO]
  rw [hv, show (16383 : Int32) = iZ ((2 : Int) ^ 14 - 1) from rfl, iZ_mask _ 14 (by decide)]
  congr 3
  rw [show ((2 : Int) ^ 14) = 16384 from rfl]; omega
end gBk
