/-! String.length and charAt of the String constants, by hand -/
theorem gnc (u : UInt16) : narrow .char (.int u.toUInt32.toInt32) = .int u.toUInt32.toInt32 := by
  show Value.int (u.toUInt32.toInt32.toUInt32.toUInt16.toUInt32.toInt32) = _
  have h1 : u.toUInt32.toInt32.toUInt32 = u.toUInt32 := rfl
  have h2 : u.toUInt32.toUInt16 = u := by
    apply UInt16.toNat_inj.mp
    simp
  rw [h1, h2]
theorem gshr0 (x : Int32) : x >>> ((0 : Int32) &&& 31) = x := by
  have : (0 : Int32) &&& 31 = 0 := by decide
  rw [this]
  simp
theorem wJ0_coder {X : Nat × (Nat → Int32)} {d i : Nat} (hi : i < 16) {s0 : gH} : gGo X rvI mJ0_coder_7d493 d 0 [(0, vr (10 + 2 * i))] [] s0 (some (0, s0)) := by
  have e : (some ((0 : Int32), s0) : Option (Int32 × gH)) = if (1 : Int32) = 0 then none else some (0, s0) := by rw [if_neg (by decide)]
  rw [e]
  refine go_getsC gfs_RJ0_38 dJ0_coder_7d493_0 ?_
  refine go_if_eq (tgt := 13) dJ0_coder_7d493_3 (by decide) (fun h => absurd h (by decide)) (fun _ => ?_)
  refine go_aload_n 0 dJ0_coder_7d493_6 rfl rfl ?_
  refine go_strC hi gfs_RJ0_15 dJ0_coder_7d493_7 ?_
  refine go_goto (tgt := 14) dJ0_coder_7d493_10 (by decide) ?_
  exact go_ret rfl dJ0_coder_7d493_14
theorem cJ0_coder {d i : Nat} (hi : i < 16) {s0 : gH} : gMt mJ0_coder_7d493 d [vr (10 + 2 * i)] s0 (some (vi 0)) s0 :=
  gMt_of (rv := rvI) (r := 0) (by decide +kernel) (Nat.le_of_ble_eq_true rfl) ⟨_, rfl, rfl⟩ (fun _ => wJ0_coder hi) rfl
def fJ0_length_8abf5 (i : Nat) (s0 : gH) : Option (Int32 × gH) := if i < 16 then some (Int32.ofNat (gSl.getD i 0), s0) else none
theorem cJ0_length_8abf5_c {d : Nat} (hd : 1 ≤ d) {i : Nat} {s0 : gH} {r : Int32} {s1 : gH} (h : fJ0_length_8abf5 i s0 = some (r, s1)) : gMt mJ0_length_8abf5 d [vr (10 + 2 * i)] s0 (some (vi r)) s1 := by
  unfold fJ0_length_8abf5 at h
  split at h
  · rename_i hi
    refine gMt_of (rv := rvI) (o := some (Int32.ofNat (gSl.getD i 0), s0)) (by decide +kernel) (Nat.le_of_ble_eq_true rfl) ⟨_, rfl, rfl⟩ ?_ h
    intro X
    show gGo X rvI mJ0_length_8abf5 d 0 [(0, vr (10 + 2 * i))] [] s0 _
    refine go_aload_n 0 dJ0_length_8abf5_0 rfl rfl ?_
    refine go_strV hi gfs_RJ0_9 dJ0_length_8abf5_1 ?_
    refine go_strL hi dJ0_length_8abf5_4 ?_
    refine go_aload_n 0 dJ0_length_8abf5_5 rfl rfl ?_
    refine go_callVS (rv' := rvI) (as := []) (d' := d - 1) (o := some ((0 : Int32), s0)) (K := fun _ _ => some (Int32.ofNat (gSl.getD i 0), s0)) hi gk_RJ0_335 rfl gmf_J0_coder_7d493 (by omega) rfl rfl (Nat.le_of_ble_eq_true rfl) dJ0_length_8abf5_6 (fun r s1 h => by cases h; exact cJ0_coder hi) (fun r s1 h => ?_)
    cases h
    refine go_ishr dJ0_length_8abf5_9 ?_
    rw [gshr0]
    exact go_ret rfl dJ0_length_8abf5_10
  · cases h
theorem wJ0_isLatin1 {X : Nat × (Nat → Int32)} {d i : Nat} (hi : i < 16) {s0 : gH} : gGo X rvI mJ0_isLatin1_aae02 d 0 [(0, vr (10 + 2 * i))] [] s0 (some (1, s0)) := by
  have e : (some ((1 : Int32), s0) : Option (Int32 × gH)) = if (1 : Int32) = 0 then none else (if (0 : Int32) = 0 then some (1, s0) else none) := by rw [if_neg (by decide), if_pos rfl]
  rw [e]
  refine go_getsC gfs_RJ0_38 dJ0_isLatin1_aae02_0 ?_
  refine go_if_eq (tgt := 17) dJ0_isLatin1_aae02_3 (by decide) (fun h => absurd h (by decide)) (fun _ => ?_)
  refine go_aload_n 0 dJ0_isLatin1_aae02_6 rfl rfl ?_
  refine go_strC hi gfs_RJ0_15 dJ0_isLatin1_aae02_7 ?_
  refine go_if_ne (tgt := 17) dJ0_isLatin1_aae02_10 (by decide) (fun _ => ?_) (fun h => absurd rfl h)
  refine go_iconst (v := 1) dJ0_isLatin1_aae02_13 (by decide) ?_
  refine go_goto (tgt := 18) dJ0_isLatin1_aae02_14 (by decide) ?_
  exact go_ret rfl dJ0_isLatin1_aae02_18
theorem cJ0_isLatin1 {d i : Nat} (hi : i < 16) {s0 : gH} : gMt mJ0_isLatin1_aae02 d [vr (10 + 2 * i)] s0 (some (vi 1)) s0 :=
  gMt_of (rv := rvI) (r := 1) (by decide +kernel) (Nat.le_of_ble_eq_true rfl) ⟨_, rfl, rfl⟩ (fun _ => wJ0_isLatin1 hi) rfl
theorem cJ3_check {d : Nat} {x y : Int32} {F : Nat} (h1 : ¬ x < 0) (h2 : x < y) {s0 : gH} : gMt mJ3_checkIndex_8e157 d [vi x, vi y, vr F] s0 (some (vi x)) s0 := by
  refine gMt_of (rv := rvI) (r := x) (o := if x < 0 then none else if x < y then some (x, s0) else none) (by decide +kernel) (Nat.le_of_ble_eq_true rfl) ⟨_, rfl, rfl⟩ ?_ (by rw [if_neg h1, if_pos h2])
  intro X
  show gGo X rvI mJ3_checkIndex_8e157 d 0 [(0, vi x), (1, vi y), (2, vr F)] [] s0 _
  refine go_iload_n 0 dJ3_checkIndex_8e157_0 rfl rfl ?_
  refine go_if_lt (tgt := 9) dJ3_checkIndex_8e157_1 (by decide) (fun h => absurd h h1) (fun _ => ?_)
  refine go_iload_n 0 dJ3_checkIndex_8e157_4 rfl rfl ?_
  refine go_iload_n 1 dJ3_checkIndex_8e157_5 rfl rfl ?_
  refine go_icmp_lt (tgt := 16) dJ3_checkIndex_8e157_6 (by decide) (fun _ => ?_) (fun h => absurd h2 h)
  refine go_iload_n 0 dJ3_checkIndex_8e157_16 rfl rfl ?_
  exact go_ret rfl dJ3_checkIndex_8e157_17
theorem cJ0_check {d : Nat} (hd : 1 ≤ d) {x y : Int32} (h1 : ¬ x < 0) (h2 : x < y) {s0 : gH} : gMt mJ0_checkIndex_df160 d [vi x, vi y] s0 none s0 := by
  refine gMt_of (rv := rvU) (r := ()) (o := some ((), s0)) (by decide +kernel) (Nat.le_of_ble_eq_true rfl) rfl ?_ rfl
  intro X
  show gGo X rvU mJ0_checkIndex_df160 d 0 [(0, vi x), (1, vi y)] [] s0 _
  refine go_iload_n 0 dJ0_checkIndex_df160_0 rfl rfl ?_
  refine go_iload_n 1 dJ0_checkIndex_df160_1 rfl rfl ?_
  refine go_getsF gfs_RJ0_1053 dJ0_checkIndex_df160_2 (fun F => ?_)
  refine go_callS (rv' := rvI) (as := [vi x, vi y, vr F]) (d' := d - 1) (o := some (x, s0)) (K := fun _ _ => some ((), s0)) gk_RJ0_1059 gmf_J3_checkIndex_8e157 (by omega) rfl rfl (Nat.le_of_ble_eq_true rfl) dJ0_checkIndex_df160_5 (fun r s1 h => by cases h; exact cJ3_check h1 h2) (fun r s1 h => ?_)
  cases h
  refine go_pop dJ0_checkIndex_df160_8 rfl ?_
  exact go_retv rfl dJ0_checkIndex_df160_9
/-- the byte of a constant as a char -/
def gCh (i : Nat) (j : Int32) : Int32 := (((gSb.getD i []).getD j.toNatClampNeg 0) &&& 255).toUInt32.toUInt16.toUInt32.toInt32
theorem cJ1_charAt {d i : Nat} (hd : 2 ≤ d) {j : Int32} (hi : i < 16) (hj : vp_in j (gSl.getD i 0)) (hj2 : j < Int32.ofNat (gSl.getD i 0)) {s0 : gH} : gMt mJ1_charAt_3b067 d [vr (11 + 2 * i), vi j] s0 (some (vi (gCh i j))) s0 := by
  have hnar : narrow .char (.int (gCh i j)) = .int (gCh i j) := by
    exact gnc _
  refine gMt_of (rv := rvI) (r := gCh i j) (o := some (gCh i j, s0)) (by decide +kernel) (Nat.le_of_ble_eq_true rfl) ⟨_, rfl, hnar⟩ ?_ rfl
  intro X
  show gGo X rvI mJ1_charAt_3b067 d 0 [(0, vr (11 + 2 * i)), (1, vi j)] [] s0 _
  refine go_iload_n 1 dJ1_charAt_3b067_0 rfl rfl ?_
  refine go_aload_n 0 dJ1_charAt_3b067_1 rfl rfl ?_
  refine go_strL hi dJ1_charAt_3b067_2 ?_
  refine go_callS (rv' := rvU) (as := [vi j, vi (Int32.ofNat (gSl.getD i 0))]) (d' := d - 1) (o := some ((), s0)) (K := fun _ _ => some (gCh i j, s0)) gk_RJ1_9 gmf_J0_checkIndex_df160 (by omega) rfl rfl (Nat.le_of_ble_eq_true rfl) dJ1_charAt_3b067_3 (fun r s1 h => by cases h; exact cJ0_check (by omega) (fun q => hj (Or.inl q)) hj2) (fun r s1 h => ?_)
  cases h
  refine go_aload_n 0 dJ1_charAt_3b067_6 rfl rfl ?_
  refine go_iload_n 1 dJ1_charAt_3b067_7 rfl rfl ?_
  refine go_strB hi hj dJ1_charAt_3b067_8 ?_
  refine go_sipush (v := 255) dJ1_charAt_3b067_9 (by decide) ?_
  refine go_iand dJ1_charAt_3b067_12 ?_
  refine go_i2c dJ1_charAt_3b067_13 ?_
  exact go_ret rfl dJ1_charAt_3b067_14
def fJ0_charAt_5068e (i : Nat) (j : Int32) (s0 : gH) : Option (Int32 × gH) := if i < 16 ∧ ¬ (j < 0 ∨ gSl.getD i 0 ≤ j.toNatClampNeg) ∧ j < Int32.ofNat (gSl.getD i 0) then some (gCh i j, s0) else none
theorem cJ0_charAt_5068e_c {d : Nat} (hd : 3 ≤ d) {i : Nat} {j : Int32} {s0 : gH} {r : Int32} {s1 : gH} (h : fJ0_charAt_5068e i j s0 = some (r, s1)) : gMt mJ0_charAt_5068e d [vr (10 + 2 * i), vi j] s0 (some (vi r)) s1 := by
  unfold fJ0_charAt_5068e at h
  split at h
  · rename_i hc
    obtain ⟨hi, hj, hj2⟩ := hc
    cases h
    have hnar : narrow .char (.int (gCh i j)) = .int (gCh i j) := by
      exact gnc _
    refine gMt_of (rv := rvI) (r := gCh i j) (o := some (gCh i j, s0)) (by decide +kernel) (Nat.le_of_ble_eq_true rfl) ⟨_, rfl, hnar⟩ ?_ rfl
    intro X
    show gGo X rvI mJ0_charAt_5068e d 0 [(0, vr (10 + 2 * i)), (1, vi j)] [] s0 _
    refine go_aload_n 0 dJ0_charAt_5068e_0 rfl rfl ?_
    refine go_callVS (rv' := rvI) (as := []) (d' := d - 1) (o := some ((1 : Int32), s0)) (K := fun _ _ => some (gCh i j, s0)) hi gk_RJ0_492 rfl gmf_J0_isLatin1_aae02 (by omega) rfl rfl (Nat.le_of_ble_eq_true rfl) dJ0_charAt_5068e_1 (fun r s1 h => by cases h; exact cJ0_isLatin1 hi) (fun r s1 h => ?_)
    cases h
    have e : (some (gCh i j, s0) : Option (Int32 × gH)) = if (1 : Int32) = 0 then none else some (gCh i j, s0) := by rw [if_neg (by decide)]
    show gGo X rvI mJ0_charAt_5068e d 4 _ [vi 1] s0 (some (gCh i j, s0))
    rw [e]
    refine go_if_eq (tgt := 16) dJ0_charAt_5068e_4 (by decide) (fun h => absurd h (by decide)) (fun _ => ?_)
    refine go_aload_n 0 dJ0_charAt_5068e_7 rfl rfl ?_
    refine go_strV hi gfs_RJ0_9 dJ0_charAt_5068e_8 ?_
    refine go_iload_n 1 dJ0_charAt_5068e_11 rfl rfl ?_
    refine go_callS (rv' := rvI) (as := [vr (11 + 2 * i), vi j]) (d' := d - 1) (o := some (gCh i j, s0)) (K := fun _ _ => some (gCh i j, s0)) gk_RJ0_495 gmf_J1_charAt_3b067 (by omega) rfl rfl (Nat.le_of_ble_eq_true rfl) dJ0_charAt_5068e_12 (fun r s1 h => by cases h; exact cJ1_charAt (by omega) hi hj hj2) (fun r s1 h => ?_)
    cases h
    exact go_ret rfl dJ0_charAt_5068e_15
  · cases h
