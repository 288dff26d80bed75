/-! Long.bitCount -/
theorem and_split {k a c : Nat} (b d : Nat) (ha : a < 2 ^ k) (hc : c < 2 ^ k) : (a + 2 ^ k * b) &&& (c + 2 ^ k * d) = (a &&& c) + 2 ^ k * (b &&& d) := by
  have hac : a &&& c < 2 ^ k := Nat.lt_of_le_of_lt Nat.and_le_left ha
  apply Nat.eq_of_testBit_eq
  intro i
  rw [Nat.testBit_and, Nat.add_comm a, Nat.add_comm c, Nat.add_comm (a &&& c), Nat.testBit_two_pow_mul_add _ ha, Nat.testBit_two_pow_mul_add _ hc, Nat.testBit_two_pow_mul_add _ hac]
  by_cases h : i < k
  · simp only [h, if_true, Nat.testBit_and]
  · simp only [h, if_false, Nat.testBit_and]
def pM (c : Nat) : Nat → Nat
  | 0 => 0
  | n + 1 => c + 256 * pM c n
def pA (n x : Nat) : Nat := x - ((x / 2) &&& pM 0x55 n)
def pB (n x : Nat) : Nat := (x &&& pM 0x33 n) + ((x / 4) &&& pM 0x33 n)
def pC (n x : Nat) : Nat := (x + x / 16) &&& pM 0x0f n
theorem pA_b : ∀ b, b < 256 → ∀ t, t < 2 → (b / 2 + 128 * t) &&& 0x55 = (b / 2) &&& 0x55 ∧ ((b / 2) &&& 0x55) ≤ b := by decide +kernel
theorem pA_s {b r n : Nat} (hb : b < 256) (h : (r / 2) &&& pM 0x55 n ≤ r) : pA (n + 1) (b + 256 * r) = pA 1 b + 256 * pA n r ∧ ((b + 256 * r) / 2) &&& pM 0x55 (n + 1) ≤ b + 256 * r := by
  unfold pA
  have e : (b + 256 * r) / 2 = (b / 2 + 128 * (r % 2)) + 2 ^ 8 * (r / 2) := by omega
  obtain ⟨h1, h2⟩ := pA_b b hb (r % 2) (by omega)
  have e2 : (b + 256 * r) / 2 &&& pM 0x55 (n + 1) = (b / 2 &&& 0x55) + 256 * (r / 2 &&& pM 0x55 n) := by
    show _ &&& (0x55 + 2 ^ 8 * pM 0x55 n) = _
    rw [e, and_split _ _ (by omega) (by decide), h1]
  have e3 : (b / 2) &&& pM 0x55 1 = (b / 2) &&& 0x55 := rfl
  rw [e2, e3]
  omega
theorem pB_b : ∀ b, b < 256 → ∀ t, t < 4 → (b / 4 + 64 * t) &&& 0x33 = (b / 4) &&& 0x33 := by decide +kernel
theorem pB_s {b r n : Nat} (hb : b < 256) : pB (n + 1) (b + 256 * r) = pB 1 b + 256 * pB n r := by
  unfold pB
  have e : (b + 256 * r) / 4 = (b / 4 + 64 * (r % 4)) + 2 ^ 8 * (r / 4) := by omega
  have e2 : (b + 256 * r) / 4 &&& pM 0x33 (n + 1) = (b / 4 &&& 0x33) + 256 * (r / 4 &&& pM 0x33 n) := by
    show _ &&& (0x33 + 2 ^ 8 * pM 0x33 n) = _
    rw [e, and_split _ _ (by omega) (by decide), pB_b b hb (r % 4) (by omega)]
  have e4 : (b + 256 * r) &&& pM 0x33 (n + 1) = (b &&& 0x33) + 256 * (r &&& pM 0x33 n) := by
    show (b + 2 ^ 8 * r) &&& (0x33 + 2 ^ 8 * pM 0x33 n) = _
    rw [and_split _ _ (by omega) (by decide)]
  rw [e2, e4]
  show _ = (b &&& 0x33) + ((b / 4) &&& 0x33) + _
  omega
theorem pC_b : ∀ b, b < 0x45 → ∀ t, t < 5 → (b + b / 16 + 16 * t) &&& 0x0f = (b + b / 16) &&& 0x0f := by decide +kernel
theorem pC_s {b r n : Nat} (hb : b < 0x45) (hr : r % 16 < 5) : pC (n + 1) (b + 256 * r) = pC 1 b + 256 * pC n r := by
  unfold pC
  have e : b + 256 * r + (b + 256 * r) / 16 = (b + b / 16 + 16 * (r % 16)) + 2 ^ 8 * (r + r / 16) := by omega
  show _ &&& (0x0f + 2 ^ 8 * pM 0x0f n) = _
  rw [e, and_split _ _ (by omega) (by decide), pC_b b hb _ hr]
  rfl
/-- the bytes of a number, each taken through the three steps -/
theorem p1_b : ∀ b, b < 256 → pA 1 b < 256 ∧ pB 1 (pA 1 b) < 0x45 ∧ pB 1 (pA 1 b) % 16 < 5 ∧ pC 1 (pB 1 (pA 1 b)) = cnt (fun i => b.testBit i) 0 8 := by decide +kernel
def pS : Nat → Nat → Nat
  | 0, _ => 0
  | n + 1, x => cnt (fun i => x.testBit i) 0 8 + 256 * pS n (x / 256)
theorem p_all : ∀ n x, x < 256 ^ n → (x / 2) &&& pM 0x55 n ≤ x ∧ pB n (pA n x) % 16 < 5 ∧ pC n (pB n (pA n x)) = pS n x ∧ pA n x ≤ x ∧ pB n (pA n x) < 256 ^ n := by
  intro n
  induction n with
  | zero =>
    intro x hx
    have : x = 0 := by simpa using hx
    subst this
    decide
  | succ n ih =>
    intro x hx
    have hx' : x / 256 < 256 ^ n := by rw [Nat.pow_succ] at hx; omega
    obtain ⟨i1, i2, i3, i4, i5⟩ := ih (x / 256) hx'
    have hb : x % 256 < 256 := by omega
    obtain ⟨b1, b2, b3, b4⟩ := p1_b (x % 256) hb
    have ex : x = x % 256 + 256 * (x / 256) := by omega
    obtain ⟨a1, a2⟩ := pA_s hb i1
    rw [← ex] at a1 a2
    have eB : pB (n + 1) (pA (n + 1) x) = pB 1 (pA 1 (x % 256)) + 256 * pB n (pA n (x / 256)) := by rw [a1, pB_s b1]
    refine ⟨a2, ?_, ?_, ?_, ?_⟩
    · rw [eB]; omega
    · rw [eB, pC_s b2 i2, i3, b4]
      show _ = cnt (fun i => x.testBit i) 0 8 + _
      congr 1
      apply cnt_congr
      intro i hi
      show (x % 2 ^ 8).testBit (0 + i) = x.testBit (0 + i)
      rw [Nat.testBit_mod_two_pow]
      simp [hi]
    · exact Nat.sub_le _ _
    · rw [eB, Nat.pow_succ]; omega
theorem cnt_tb (x : Nat) (m n : Nat) : cnt (fun i => x.testBit i) m n = cnt (fun i => (x / 2 ^ m).testBit i) 0 n := by
  rw [show (fun i => (x / 2 ^ m).testBit i) = (fun i => x.testBit (m + i)) from funext fun i => by rw [Nat.testBit_div_two_pow, Nat.add_comm], cnt_shift (fun i => x.testBit i)]
  rfl
theorem cnt_64 (x : Nat) : cnt (fun i => x.testBit i) 0 64 = cnt (fun i => x.testBit i) 0 8 + (cnt (fun i => (x / 256).testBit i) 0 8 + (cnt (fun i => (x / 256 / 256).testBit i) 0 8 + (cnt (fun i => (x / 256 / 256 / 256).testBit i) 0 8 + (cnt (fun i => (x / 256 / 256 / 256 / 256).testBit i) 0 8 + (cnt (fun i => (x / 256 / 256 / 256 / 256 / 256).testBit i) 0 8 + (cnt (fun i => (x / 256 / 256 / 256 / 256 / 256 / 256).testBit i) 0 8 + cnt (fun i => (x / 256 / 256 / 256 / 256 / 256 / 256 / 256).testBit i) 0 8)))))) := by
  have step : ∀ (y n : Nat), cnt (fun i => y.testBit i) 0 (8 + n) = cnt (fun i => y.testBit i) 0 8 + cnt (fun i => (y / 256).testBit i) 0 n := fun y n => by
    rw [cnt_add, cnt_tb y (0 + 8) n]
  have a1 : cnt (fun i => x.testBit i) 0 64 = _ := step x 56
  have a2 : cnt (fun i => (x / 256).testBit i) 0 56 = _ := step (x / 256) 48
  have a3 : cnt (fun i => (x / 256 / 256).testBit i) 0 48 = _ := step (x / 256 / 256) 40
  have a4 : cnt (fun i => (x / 256 / 256 / 256).testBit i) 0 40 = _ := step (x / 256 / 256 / 256) 32
  have a5 : cnt (fun i => (x / 256 / 256 / 256 / 256).testBit i) 0 32 = _ := step (x / 256 / 256 / 256 / 256) 24
  have a6 : cnt (fun i => (x / 256 / 256 / 256 / 256 / 256).testBit i) 0 24 = _ := step (x / 256 / 256 / 256 / 256 / 256) 16
  have a7 : cnt (fun i => (x / 256 / 256 / 256 / 256 / 256 / 256).testBit i) 0 16 = _ := step (x / 256 / 256 / 256 / 256 / 256 / 256) 8
  rw [a1, a2, a3, a4, a5, a6, a7]
theorem ushr_nat {x : Int64} {s : Nat} (h : s < 64) : (gLushr x (iZ (s : Int))).toBitVec.toNat = x.toBitVec.toNat / 2 ^ s := by
  rw [gLushr_bv h, BitVec.toNat_ushiftRight, Nat.shiftRight_eq_div_pow]
theorem p_arith {q d0 d1 d2 d3 d4 d5 d6 d7 y4 y5 y6 : Nat} (c0 : d0 ≤ 8) (c1 : d1 ≤ 8) (c2 : d2 ≤ 8) (c3 : d3 ≤ 8) (c4 : d4 ≤ 8) (c5 : d5 ≤ 8) (c6 : d6 ≤ 8) (c7 : d7 ≤ 8) (h : q = d0 + 256 * (d1 + 256 * (d2 + 256 * (d3 + 256 * (d4 + 256 * (d5 + 256 * (d6 + 256 * d7))))))) (h4 : y4 = q + q / 256) (h5 : y5 = y4 + y4 / 65536) (h6 : y6 = y5 + y5 / 4294967296) : y6 < 18446744073709551616 ∧ y4 < 18446744073709551616 ∧ y5 < 18446744073709551616 ∧ y6 % 128 = d0 + (d1 + (d2 + (d3 + (d4 + (d5 + (d6 + d7)))))) := by
  have e0 : q / 256 = d1 + 256 * (d2 + 256 * (d3 + 256 * (d4 + 256 * (d5 + 256 * (d6 + 256 * d7))))) := by omega
  have e4 : y4 = (d0 + d1) + 256 * (d1 + d2) + 65536 * ((d2 + d3) + 256 * (d3 + d4) + 65536 * ((d4 + d5) + 256 * (d5 + d6) + 65536 * ((d6 + d7) + 256 * d7))) := by omega
  have e4' : y4 / 65536 = ((d2 + d3) + 256 * (d3 + d4) + 65536 * ((d4 + d5) + 256 * (d5 + d6) + 65536 * ((d6 + d7) + 256 * d7))) := by clear h4 h5 h6 e0 h; omega
  have e5 : y5 = (d0 + d1 + d2 + d3) + 256 * (d1 + d2 + d3 + d4) + 65536 * ((d2 + d3 + d4 + d5) + 256 * (d3 + d4 + d5 + d6)) + 4294967296 * ((d4 + d5 + d6 + d7) + 256 * (d5 + d6 + d7) + 65536 * ((d6 + d7) + 256 * d7)) := by rw [h5, e4', e4]; clear h4 h5 h6 e0 h e4 e4'; omega
  have e5' : y5 / 4294967296 = ((d4 + d5 + d6 + d7) + 256 * (d5 + d6 + d7) + 65536 * ((d6 + d7) + 256 * d7)) := by clear h4 h5 h6 e0 h e4 e4'; omega
  have e6 : y6 = y5 + ((d4 + d5 + d6 + d7) + 256 * (d5 + d6 + d7) + 65536 * ((d6 + d7) + 256 * d7)) := by rw [h6, e5']
  clear h4 h5 h6 e0 h e4' e5'
  refine ⟨?_, ?_, ?_, ?_⟩
  · rw [e6, e5]; clear e4 e5 e6; omega
  · rw [e4]; clear e4 e5 e6; omega
  · rw [e5]; clear e4 e5 e6; omega
  · have e7 : y6 = (d0 + (d1 + (d2 + (d3 + (d4 + (d5 + (d6 + d7))))))) + 128 * (2 * (d1 + d2 + d3 + d4) + 512 * ((d2 + d3 + d4 + d5) + 256 * (d3 + d4 + d5 + d6)) + 33554432 * ((d4 + d5 + d6 + d7) + 256 * (d5 + d6 + d7) + 65536 * ((d6 + d7) + 256 * d7)) + 2 * (d5 + d6 + d7) + 512 * ((d6 + d7) + 256 * d7)) := by rw [e6, e5]; clear e4 e5 e6; omega
    rw [e7, Nat.add_mul_mod_self_left, Nat.mod_eq_of_lt (by clear e4 e5 e6 e7; omega)]
theorem p_fin {x q y4 y5 y6 : Nat} (h : q = pS 8 x) (h4 : y4 = q + q / 256) (h5 : y5 = y4 + y4 / 65536) (h6 : y6 = y5 + y5 / 4294967296) : y6 < 18446744073709551616 ∧ y4 < 18446744073709551616 ∧ y5 < 18446744073709551616 ∧ y6 % 128 = cnt (fun i => x.testBit i) 0 64 := by
  rw [cnt_64]
  exact p_arith (cnt_le _ 0 8) (cnt_le _ 0 8) (cnt_le _ 0 8) (cnt_le _ 0 8) (cnt_le _ 0 8) (cnt_le _ 0 8) (cnt_le _ 0 8) (cnt_le _ 0 8) (h.trans rfl) h4 h5 h6
def nL (x : Int64) : Nat := x.toBitVec.toNat
theorem nL_lt (x : Int64) : nL x < 18446744073709551616 := x.toBitVec.isLt
theorem nL_and (x y : Int64) : nL (x &&& y) = nL x &&& nL y := by unfold nL; rw [Int64.toBitVec_and, BitVec.toNat_and]
theorem nL_add {x y : Int64} (h : nL x + nL y < 18446744073709551616) : nL (x + y) = nL x + nL y := by
  unfold nL at h ⊢
  rw [Int64.toBitVec_add, BitVec.toNat_add, Nat.mod_eq_of_lt h]
theorem nL_sub {x y : Int64} (h : nL y ≤ nL x) : nL (x - y) = nL x - nL y := by
  have := nL_lt x
  unfold nL at h this ⊢
  rw [Int64.toBitVec_sub, BitVec.toNat_sub]
  omega
theorem nL_shr {x : Int64} {s : Nat} (h : s < 64) : nL (gLushr x (iZ (s : Int))) = nL x / 2 ^ s := ushr_nat h
theorem wb_nL (x : Int64) (i : Nat) : wb x i = (nL x).testBit i := rfl
theorem c_bitCount (x : Int64) (s : gH) : fJ13_bitCount_95d88 x s = some (iZ (cnt (wb x) 0 64 : Nat), s) := by
  unfold fJ13_bitCount_95d88
  simp only [glet_eq]
  obtain ⟨a1, a2, a3, a4, a5⟩ := p_all 8 (nL x) (nL_lt x)
  have h1 : nL (x - (gLushr x 1 &&& 6148914691236517205)) = pA 8 (nL x) := by
    have e : nL (gLushr x 1 &&& 6148914691236517205) = (nL x / 2) &&& pM 0x55 8 := by
      rw [nL_and, show (1 : Int32) = iZ ((1 : Nat) : Int) from rfl, nL_shr (by decide)]
      rfl
    rw [nL_sub (by rw [e]; exact a1), e]
    rfl
  generalize x - (gLushr x 1 &&& 6148914691236517205) = y1 at *
  have lA : pA 8 (nL x) < 18446744073709551616 := Nat.lt_of_le_of_lt a4 (nL_lt x)
  have h2 : nL ((y1 &&& 3689348814741910323) + (gLushr y1 2 &&& 3689348814741910323)) = pB 8 (pA 8 (nL x)) := by
    have e : nL (gLushr y1 2 &&& 3689348814741910323) = (nL y1 / 4) &&& pM 0x33 8 := by
      rw [nL_and, show (2 : Int32) = iZ ((2 : Nat) : Int) from rfl, nL_shr (by decide)]
      rfl
    have e' : nL (y1 &&& 3689348814741910323) = nL y1 &&& pM 0x33 8 := by rw [nL_and]; rfl
    have : nL y1 &&& pM 0x33 8 ≤ pM 0x33 8 := Nat.and_le_right
    have : (nL y1 / 4) &&& pM 0x33 8 ≤ pM 0x33 8 := Nat.and_le_right
    have : pM 0x33 8 = 3689348814741910323 := rfl
    rw [nL_add (by rw [e, e']; omega), e, e', h1]
    rfl
  generalize (y1 &&& 3689348814741910323) + (gLushr y1 2 &&& 3689348814741910323) = y2 at *
  have h3 : nL ((y2 + gLushr y2 4) &&& 1085102592571150095) = pS 8 (nL x) := by
    have e : nL (gLushr y2 4) = nL y2 / 16 := by
      rw [show (4 : Int32) = iZ ((4 : Nat) : Int) from rfl, nL_shr (by decide)]
    have lB : nL y2 + nL y2 / 16 < 18446744073709551616 := by
      have g : ∀ z, pB 8 z ≤ 3689348814741910323 + 3689348814741910323 := fun z => Nat.add_le_add Nat.and_le_right Nat.and_le_right
      have := g (pA 8 (nL x))
      rw [← h2] at this
      omega
    rw [nL_and, nL_add (by rw [e]; exact lB), e, h2, ← a3]
    rfl
  generalize (y2 + gLushr y2 4) &&& 1085102592571150095 = y3 at *
  obtain ⟨f6, f4, f5, ff⟩ := p_fin (x := nL x) h3 rfl rfl rfl
  have e4 : nL (gLushr y3 8) = nL y3 / 256 := by rw [show (8 : Int32) = iZ ((8 : Nat) : Int) from rfl, nL_shr (by decide)]
  have h4 : nL (y3 + gLushr y3 8) = nL y3 + nL y3 / 256 := by rw [nL_add (by rw [e4]; exact f4), e4]
  generalize y3 + gLushr y3 8 = y4 at *
  rw [← h4] at f6 f5 ff
  have e5 : nL (gLushr y4 16) = nL y4 / 65536 := by rw [show (16 : Int32) = iZ ((16 : Nat) : Int) from rfl, nL_shr (by decide)]
  have h5 : nL (y4 + gLushr y4 16) = nL y4 + nL y4 / 65536 := by rw [nL_add (by rw [e5]; exact f5), e5]
  generalize y4 + gLushr y4 16 = y5 at *
  rw [← h5] at f6 ff
  have e6 : nL (gLushr y5 32) = nL y5 / 4294967296 := by rw [show (32 : Int32) = iZ ((32 : Nat) : Int) from rfl, nL_shr (by decide)]
  have h6 : nL (y5 + gLushr y5 32) = nL y5 + nL y5 / 4294967296 := by rw [nL_add (by rw [e6]; exact f6), e6]
  generalize y5 + gLushr y5 32 = y6 at *
  rw [← h6] at ff
  congr 2
  apply Int32.toBitVec_inj.mp
  apply BitVec.eq_of_toNat_eq
  rw [Int32.toBitVec_and, BitVec.toNat_and]
  have e7 : y6.toInt32.toBitVec.toNat = nL y6 % 4294967296 := by
    show (y6.toBitVec.signExtend 32).toNat = _
    rw [BitVec.signExtend_eq_setWidth_of_le _ (by decide), BitVec.toNat_setWidth]
    rfl
  rw [e7, show (127 : Int32).toBitVec.toNat = 2 ^ 7 - 1 from rfl, Nat.and_two_pow_sub_one_eq_mod, Nat.mod_mod_of_dvd _ (by decide)]
  show nL y6 % 128 = _
  rw [ff, show (fun i => (nL x).testBit i) = wb x from rfl, iZ_bv, BitVec.toNat_ofInt]
  have := cnt_le (wb x) 0 64
  omega
