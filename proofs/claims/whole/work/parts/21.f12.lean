/-! walks, written by a program -/
def gX2_atPlace_L10 (k48 : Int32 → Int32 → gH → Option (Int32 × gH)) (a0 : Nat) : Nat → Int32 → Int32 → gH → Option (Int32 × gH)
  | 0, _, _, _ => none
  | n + 1, x2, x3, s0 =>
    if x3 < 229 then
      (ggR s0 a0 2 0).bind fun v4 =>
      (gaJ s0 v4 x3).bind fun v5 =>
      gb2 (fJ13_bitCount_95d88 v5 s0) fun r6 s7 =>
      if x2 < r6 then
        k48 x2 x3 s7
      else
        (ggR s7 a0 2 0).bind fun v9 =>
        (gaJ s7 v9 x3).bind fun v10 =>
        gb2 (fJ13_bitCount_95d88 v10 s7) fun r11 s12 =>
        glet (x2 - r11) fun y13 =>
        gX2_atPlace_L10 k48 a0 n y13 (x3 + 1) s12
    else
      k48 x2 x3 s0
set_option maxRecDepth 100000 in
set_option maxHeartbeats 4000000 in
theorem wX2_atPlace_L10 {X : Nat × (Nat → Int32)} {d : Nat} (hd : 1 ≤ d) (k48 : Int32 → Int32 → gH → Option (Int32 × gH)) (a0 : Nat) (hk48 : ∀ (x2 : Int32) (x3 : Int32) (s : gH), gGo X rvI mX2_atPlace d 48 [(0, vr a0), (2, vi x2), (3, vi x3)] [] s (k48 x2 x3 s)) : ∀ (n : Nat) (x2 : Int32) (x3 : Int32) (s0 : gH), gGo X rvI mX2_atPlace d 10 [(0, vr a0), (2, vi x2), (3, vi x3)] [] s0 (gX2_atPlace_L10 k48 a0 n x2 x3 s0) := by
  intro n
  induction n with
  | zero => intros; exact go_none
  | succ n ih =>
    intro x2 x3 s0
    show gGo _ _ _ _ _ _ _ _ (gX2_atPlace_L10 k48 a0 (n + 1) x2 x3 s0)
    unfold gX2_atPlace_L10
    refine go_iload_n 2 dX2_atPlace_10 rfl rfl ?_
    refine go_sipush (v := 229) dX2_atPlace_11 (by decide) ?_
    refine go_icmp_ge (tgt := 48) dX2_atPlace_14 (by decide) (fun h3 => ?_) (fun h3 => ?_)
    · refine go_aload_n 0 dX2_atPlace_17 rfl rfl ?_
      refine go_getR gf_RX2_11 gcf_2 gft_2_0 dX2_atPlace_18 (fun v4 => ?_)
      refine go_iload_n 2 dX2_atPlace_21 rfl rfl ?_
      refine go_laload dX2_atPlace_22 (fun v5 _ => ?_)
      refine go_callS_I (as := [vl v5]) gk_RX2_51 gmf_J13_bitCount_95d88 (by omega) rfl rfl (Nat.le_of_ble_eq_true rfl) dX2_atPlace_23 (fun _ _ h => cJ13_bitCount_95d88_c (by omega) h) (fun r6 s7 _ => ?_)
      refine go_iload_n 1 dX2_atPlace_26 rfl rfl ?_
      refine go_icmp_gt (tgt := 48) dX2_atPlace_27 (by decide) (fun h8 => ?_) (fun h8 => ?_)
      · exact go_sub [0, 1, 2] (hk48 x2 x3 s7) rfl
      · refine go_iload_n 1 dX2_atPlace_30 rfl rfl ?_
        refine go_aload_n 0 dX2_atPlace_31 rfl rfl ?_
        refine go_getR gf_RX2_11 gcf_2 gft_2_0 dX2_atPlace_32 (fun v9 => ?_)
        refine go_iload_n 2 dX2_atPlace_35 rfl rfl ?_
        refine go_laload dX2_atPlace_36 (fun v10 _ => ?_)
        refine go_callS_I (as := [vl v10]) gk_RX2_51 gmf_J13_bitCount_95d88 (by omega) rfl rfl (Nat.le_of_ble_eq_true rfl) dX2_atPlace_37 (fun _ _ h => cJ13_bitCount_95d88_c (by omega) h) (fun r11 s12 _ => ?_)
        refine go_isub dX2_atPlace_40 ?_
        refine go_istore_n_l (L' := fun y13 => [(2, vi y13), (0, vr a0), (3, vi x3)]) dX2_atPlace_41 rfl (by decide) (fun _ => rfl) (fun y13 => ?_)
        refine go_iinc (v := 1) (L' := [(3, vi (x3 + 1)), (2, vi y13), (0, vr a0)]) 2 dX2_atPlace_42 rfl (by decide) (by decide) rfl ?_
        refine go_goto (tgt := 10) dX2_atPlace_45 (by decide) ?_
        exact go_sub [2, 1, 0] (ih y13 (x3 + 1) s12) rfl
    · exact go_sub [0, 1, 2] (hk48 x2 x3 s0) rfl
def gX2_atPlace_L68 (k89 : Int64 → gH → Option (Int32 × gH)) (x2 : Int32) (x3 : Int32) : Nat → Int64 → Int32 → gH → Option (Int32 × gH)
  | 0, _, _, _ => none
  | n + 1, x4, x6, s0 =>
    if x6 < x2 then
      glet (x4 &&& (x4 - 1)) fun y22 =>
      gX2_atPlace_L68 k89 x2 x3 n y22 (x6 + 1) s0
    else
      k89 x4 s0
set_option maxRecDepth 100000 in
set_option maxHeartbeats 4000000 in
theorem wX2_atPlace_L68 {X : Nat × (Nat → Int32)} {d : Nat} (hd : 1 ≤ d) (k89 : Int64 → gH → Option (Int32 × gH)) (x2 : Int32) (x3 : Int32) (hk89 : ∀ (x4 : Int64) (s : gH), gGo X rvI mX2_atPlace d 89 [(3, vi x3), (4, vl x4)] [] s (k89 x4 s)) : ∀ (n : Nat) (x4 : Int64) (x6 : Int32) (s0 : gH), gGo X rvI mX2_atPlace d 68 [(2, vi x2), (3, vi x3), (4, vl x4), (6, vi x6)] [] s0 (gX2_atPlace_L68 k89 x2 x3 n x4 x6 s0) := by
  intro n
  induction n with
  | zero => intros; exact go_none
  | succ n ih =>
    intro x4 x6 s0
    show gGo _ _ _ _ _ _ _ _ (gX2_atPlace_L68 k89 x2 x3 (n + 1) x4 x6 s0)
    unfold gX2_atPlace_L68
    refine go_iload 3 dX2_atPlace_68 rfl ?_
    refine go_iload_n 0 dX2_atPlace_70 rfl rfl ?_
    refine go_icmp_ge (tgt := 89) dX2_atPlace_71 (by decide) (fun h21 => ?_) (fun h21 => ?_)
    · refine go_lload 2 dX2_atPlace_74 rfl ?_
      refine go_lload 2 dX2_atPlace_76 rfl ?_
      refine go_lconst (v := 1) dX2_atPlace_78 (by decide) ?_
      refine go_lsub dX2_atPlace_79 ?_
      refine go_land dX2_atPlace_80 ?_
      refine go_lstore_l (L' := fun y22 => [(4, vl y22), (2, vi x2), (3, vi x3), (6, vi x6)]) dX2_atPlace_81 (by decide) (fun _ => rfl) (fun y22 => ?_)
      refine go_iinc (v := 1) (L' := [(6, vi (x6 + 1)), (4, vl y22), (2, vi x2), (3, vi x3)]) 3 dX2_atPlace_83 rfl (by decide) (by decide) rfl ?_
      refine go_goto (tgt := 68) dX2_atPlace_86 (by decide) ?_
      exact go_sub [2, 3, 1, 0] (ih y22 (x6 + 1) s0) rfl
    · exact go_sub [1, 2] (hk89 x4 s0) rfl
def fX2_atPlace (a0 : Nat) (x1 : Int32) (s0 : gH) : Option (Int32 × gH) :=
  if x1 < 0 then
    some (-1, s0)
  else
    gX2_atPlace_L10
      (fun y14 y15 s16 =>
        if y15 < 229 then
          (ggR s16 a0 2 0).bind fun v18 =>
          (gaJ s16 v18 y15).bind fun v19 =>
          gX2_atPlace_L68
            (fun y23 s24 =>
              gb2 (fJ13_bitCount_95d88 ((y23 &&& (-y23)) - 1) s24) fun r25 s26 =>
              some ((y15 * 64) + r25, s26))
            y14 y15 20000 v19 0 s16
        else
          some (-1, s16))
      a0 20000 x1 0 s0
set_option maxRecDepth 100000 in
set_option maxHeartbeats 4000000 in
theorem wX2_atPlace {X : Nat × (Nat → Int32)} {d : Nat} (hd : 1 ≤ d) {a0 : Nat} {x1 : Int32} {s0 : gH} : gGo X rvI mX2_atPlace d 0 [(0, vr a0), (1, vi x1)] [] s0 (fX2_atPlace a0 x1 s0) := by
  unfold fX2_atPlace
  refine go_iload_n 1 dX2_atPlace_0 rfl rfl ?_
  refine go_if_ge (tgt := 6) dX2_atPlace_1 (by decide) (fun h1 => ?_) (fun h1 => ?_)
  · refine go_iconst (v := -1) dX2_atPlace_4 (by decide) ?_
    exact go_ret rfl dX2_atPlace_5
  · refine go_iload_n 1 dX2_atPlace_6 rfl rfl ?_
    refine go_istore_n (L' := [(2, vi x1), (0, vr a0), (1, vi x1)]) dX2_atPlace_7 rfl (by decide) rfl ?_
    refine go_iconst (v := 0) dX2_atPlace_8 (by decide) ?_
    refine go_istore_n (L' := [(3, vi 0), (2, vi x1), (0, vr a0), (1, vi x1)]) dX2_atPlace_9 rfl (by decide) rfl ?_
    refine go_sub [2, 1, 0] (wX2_atPlace_L10 hd _ a0 ?_ 20000 x1 0 s0) rfl
    intro y14 y15 s16
    refine go_iload_n 2 dX2_atPlace_48 rfl rfl ?_
    refine go_sipush (v := 229) dX2_atPlace_49 (by decide) ?_
    refine go_icmp_lt (tgt := 57) dX2_atPlace_52 (by decide) (fun h17 => ?_) (fun h17 => ?_)
    · refine go_aload_n 0 dX2_atPlace_57 rfl rfl ?_
      refine go_getR gf_RX2_11 gcf_2 gft_2_0 dX2_atPlace_58 (fun v18 => ?_)
      refine go_iload_n 2 dX2_atPlace_61 rfl rfl ?_
      refine go_laload dX2_atPlace_62 (fun v19 _ => ?_)
      refine go_lstore (L' := [(4, vl v19), (0, vr a0), (2, vi y14), (3, vi y15)]) dX2_atPlace_63 (by decide) rfl ?_
      refine go_iconst (v := 0) dX2_atPlace_65 (by decide) ?_
      refine go_istore (L' := [(6, vi 0), (4, vl v19), (0, vr a0), (2, vi y14), (3, vi y15)]) dX2_atPlace_66 (by decide) rfl ?_
      refine go_sub [3, 4, 1, 0] (wX2_atPlace_L68 hd _ y14 y15 ?_ 20000 v19 0 s16) rfl
      intro y23 s24
      refine go_iload_n 0 dX2_atPlace_89 rfl rfl ?_
      refine go_bipush (v := 64) dX2_atPlace_90 (by decide) ?_
      refine go_imul dX2_atPlace_92 ?_
      refine go_lload 1 dX2_atPlace_93 rfl ?_
      refine go_lload 1 dX2_atPlace_95 rfl ?_
      refine go_lneg dX2_atPlace_97 ?_
      refine go_land dX2_atPlace_98 ?_
      refine go_lconst (v := 1) dX2_atPlace_99 (by decide) ?_
      refine go_lsub dX2_atPlace_100 ?_
      refine go_callS_I (as := [vl ((y23 &&& (-y23)) - 1)]) gk_RX2_51 gmf_J13_bitCount_95d88 (by omega) rfl rfl (Nat.le_of_ble_eq_true rfl) dX2_atPlace_101 (fun _ _ h => cJ13_bitCount_95d88_c (by omega) h) (fun r25 s26 _ => ?_)
      refine go_iadd dX2_atPlace_104 ?_
      exact go_ret rfl dX2_atPlace_105
    · refine go_iconst (v := -1) dX2_atPlace_55 (by decide) ?_
      exact go_ret rfl dX2_atPlace_56
set_option maxRecDepth 100000 in
set_option maxHeartbeats 4000000 in
theorem cX2_atPlace_c {d : Nat} (hd : 1 ≤ d) {a0 : Nat} {x1 : Int32} {s0 : gH} {r : Int32} {s1 : gH} (h : fX2_atPlace a0 x1 s0 = some (r, s1)) : gMt mX2_atPlace d [vr a0, vi x1] s0 (some (vi r)) s1 :=
  gMt_of (rv := rvI) (by decide +kernel) (Nat.le_of_ble_eq_true rfl) ⟨_, rfl, rfl⟩ (fun _ => wX2_atPlace hd) h
def fX11_nth (a0 : Nat) (x1 : Int32) (x2 : Int32) (s0 : gH) : Option (Int32 × gH) :=
  (ggR s0 a0 11 3).bind fun v1 =>
  gb2 (gcv s0 v1 5 (fX5_daysOf v1 x1 s0)) fun r2 s3 =>
  if r2 = 0 then
    some (-1, s3)
  else
    gjn (fun (z6 : Int32) (b7 : Nat) (s8 : gH) =>
        gb2 (gcv s8 b7 2 (fX2_atPlace b7 z6 s8)) fun r9 s10 =>
        some (r9, s10)
    ) fun j5 =>
    if x2 < 0 then
      gb2 (gcv s3 r2 2 (fX2_between r2 0 14609 s3)) fun r12 s13 =>
      j5 (r12 + x2) r2 s13
    else
      j5 x2 r2 s3
set_option maxRecDepth 100000 in
set_option maxHeartbeats 4000000 in
theorem wX11_nth {X : Nat × (Nat → Int32)} {d : Nat} (hd : 6 ≤ d) {a0 : Nat} {x1 : Int32} {x2 : Int32} {s0 : gH} : gGo X rvI mX11_nth d 0 [(0, vr a0), (1, vi x1), (2, vi x2)] [] s0 (fX11_nth a0 x1 x2 s0) := by
  unfold fX11_nth
  refine go_aload_n 0 dX11_nth_0 rfl rfl ?_
  refine go_getR gf_RX11_35 gcf_11 gft_11_3 dX11_nth_1 (fun v1 => ?_)
  refine go_iload_n 1 dX11_nth_4 rfl rfl ?_
  refine go_callV_R (as := [vi x1]) gk_RX11_145 gmf_X5_daysOf (by decide) rfl (by omega) rfl rfl (Nat.le_of_ble_eq_true rfl) dX11_nth_5 (fun _ _ h => cX5_daysOf_c (by omega) h) (fun r2 s3 _ => ?_)
  refine go_astore_n (L' := [(3, vr r2), (0, vr a0), (1, vi x1), (2, vi x2)]) dX11_nth_8 rfl (by decide) rfl ?_
  refine go_aload_n 0 dX11_nth_9 rfl rfl ?_
  refine go_ifnonnull (tgt := 15) dX11_nth_10 (by decide) (fun h4 => ?_) (fun h4 => ?_)
  · refine go_iconst (v := -1) dX11_nth_13 (by decide) ?_
    exact go_ret rfl dX11_nth_14
  · refine go_aload_n 0 dX11_nth_15 rfl rfl ?_
    refine go_iload_n 3 dX11_nth_16 rfl rfl ?_
    refine go_gjn (P := fun j5 => ∀ (z6 : Int32) (b7 : Nat) (s8 : gH), gGo X rvI mX11_nth d 34 [] [vi z6, vr b7] s8 (j5 z6 b7 s8)) (fun z6 b7 s8 => ?_) (fun j5 hj5 => ?_)
    · refine go_callV_I (as := [vi z6]) gk_RX11_163 gmf_X2_atPlace (by decide) rfl (by omega) rfl rfl (Nat.le_of_ble_eq_true rfl) dX11_nth_34 (fun _ _ h => cX2_atPlace_c (by omega) h) (fun r9 s10 _ => ?_)
      exact go_ret rfl dX11_nth_37
    · refine go_if_ge (tgt := 33) dX11_nth_17 (by decide) (fun h11 => ?_) (fun h11 => ?_)
      · refine go_aload_n 0 dX11_nth_20 rfl rfl ?_
        refine go_iconst (v := 0) dX11_nth_21 (by decide) ?_
        refine go_sipush (v := 14609) dX11_nth_22 (by decide) ?_
        refine go_callV_I (as := [vi 0, vi 14609]) gk_RX11_160 gmf_X2_between (by decide) rfl (by omega) rfl rfl (Nat.le_of_ble_eq_true rfl) dX11_nth_25 (fun _ _ h => cX2_between_c (by omega) h) (fun r12 s13 _ => ?_)
        refine go_iload_n 3 dX11_nth_28 rfl rfl ?_
        refine go_iadd dX11_nth_29 ?_
        refine go_goto (tgt := 34) dX11_nth_30 (by decide) ?_
        exact go_sub [] (hj5 (r12 + x2) r2 s13) rfl
      · refine go_iload_n 3 dX11_nth_33 rfl rfl ?_
        exact go_sub [] (hj5 x2 r2 s3) rfl
set_option maxRecDepth 100000 in
set_option maxHeartbeats 4000000 in
theorem cX11_nth_c {d : Nat} (hd : 6 ≤ d) {a0 : Nat} {x1 : Int32} {x2 : Int32} {s0 : gH} {r : Int32} {s1 : gH} (h : fX11_nth a0 x1 x2 s0 = some (r, s1)) : gMt mX11_nth d [vr a0, vi x1, vi x2] s0 (some (vi r)) s1 :=
  gMt_of (rv := rvI) (by decide +kernel) (Nat.le_of_ble_eq_true rfl) ⟨_, rfl, rfl⟩ (fun _ => wX11_nth hd) h
def gX12_count_L6  (a0 : Nat) (x1 : Int32) (x3 : Int32) : Nat → Int32 → Int32 → gH → Option (Int32 × gH)
  | 0, _, _, _ => none
  | n + 1, x4, x5, s0 =>
    if x3 < x5 then
      some (x4, s0)
    else
      gb2 (gcv s0 a0 12 (fX12_isOn a0 x1 x5 s0)) fun r3 s4 =>
      gb2 (fX12_flag r3 s4) fun r5 s6 =>
      glet (x4 + r5) fun y7 =>
      gX12_count_L6 a0 x1 x3 n y7 (x5 + 1) s6
set_option maxRecDepth 100000 in
set_option maxHeartbeats 4000000 in
theorem wX12_count_L6 {X : Nat × (Nat → Int32)} {d : Nat} (hd : 1 ≤ d)  (a0 : Nat) (x1 : Int32) (x3 : Int32) : ∀ (n : Nat) (x4 : Int32) (x5 : Int32) (s0 : gH), gGo X rvI mX12_count d 6 [(0, vr a0), (1, vi x1), (3, vi x3), (4, vi x4), (5, vi x5)] [] s0 (gX12_count_L6 a0 x1 x3 n x4 x5 s0) := by
  intro n
  induction n with
  | zero => intros; exact go_none
  | succ n ih =>
    intro x4 x5 s0
    show gGo _ _ _ _ _ _ _ _ (gX12_count_L6 a0 x1 x3 (n + 1) x4 x5 s0)
    unfold gX12_count_L6
    refine go_iload 4 dX12_count_6 rfl ?_
    refine go_iload_n 2 dX12_count_8 rfl rfl ?_
    refine go_icmp_gt (tgt := 33) dX12_count_9 (by decide) (fun h2 => ?_) (fun h2 => ?_)
    · refine go_iload 3 dX12_count_33 rfl ?_
      exact go_ret rfl dX12_count_35
    · refine go_iload 3 dX12_count_12 rfl ?_
      refine go_aload_n 0 dX12_count_14 rfl rfl ?_
      refine go_iload_n 1 dX12_count_15 rfl rfl ?_
      refine go_iload 4 dX12_count_16 rfl ?_
      refine go_callV_I (as := [vi x1, vi x5]) gk_RX12_437 gmf_X12_isOn (by decide) rfl (by omega) rfl rfl (Nat.le_of_ble_eq_true rfl) dX12_count_18 (fun _ _ h => cX12_isOn_c (by omega) h) (fun r3 s4 _ => ?_)
      refine go_callS_I (as := [vi r3]) gk_RX12_370 gmf_X12_flag (by omega) rfl rfl (Nat.le_of_ble_eq_true rfl) dX12_count_21 (fun _ _ h => cX12_flag_c (by omega) h) (fun r5 s6 _ => ?_)
      refine go_iadd dX12_count_24 ?_
      refine go_istore_l (L' := fun y7 => [(4, vi y7), (0, vr a0), (1, vi x1), (3, vi x3), (5, vi x5)]) dX12_count_25 (by decide) (fun _ => rfl) (fun y7 => ?_)
      refine go_iinc (v := 1) (L' := [(5, vi (x5 + 1)), (4, vi y7), (0, vr a0), (1, vi x1), (3, vi x3)]) 4 dX12_count_27 rfl (by decide) (by decide) rfl ?_
      refine go_goto (tgt := 6) dX12_count_30 (by decide) ?_
      exact go_sub [2, 3, 4, 1, 0] (ih y7 (x5 + 1) s6) rfl
def fX12_count (a0 : Nat) (x1 : Int32) (x2 : Int32) (x3 : Int32) (s0 : gH) : Option (Int32 × gH) :=
  gX12_count_L6
    a0 x1 x3 20000 0 x2 s0
set_option maxRecDepth 100000 in
set_option maxHeartbeats 4000000 in
theorem wX12_count {X : Nat × (Nat → Int32)} {d : Nat} (hd : 1 ≤ d) {a0 : Nat} {x1 : Int32} {x2 : Int32} {x3 : Int32} {s0 : gH} : gGo X rvI mX12_count d 0 [(0, vr a0), (1, vi x1), (2, vi x2), (3, vi x3)] [] s0 (fX12_count a0 x1 x2 x3 s0) := by
  unfold fX12_count
  refine go_iconst (v := 0) dX12_count_0 (by decide) ?_
  refine go_istore (L' := [(4, vi 0), (0, vr a0), (1, vi x1), (2, vi x2), (3, vi x3)]) dX12_count_1 (by decide) rfl ?_
  refine go_iload_n 3 dX12_count_3 rfl rfl ?_
  refine go_istore (L' := [(5, vi x2), (4, vi 0), (0, vr a0), (1, vi x1), (2, vi x2), (3, vi x3)]) dX12_count_4 (by decide) rfl ?_
  refine go_sub [2, 3, 5, 1, 0] (wX12_count_L6 hd a0 x1 x3 20000 0 x2 s0) rfl
set_option maxRecDepth 100000 in
set_option maxHeartbeats 4000000 in
theorem cX12_count_c {d : Nat} (hd : 1 ≤ d) {a0 : Nat} {x1 : Int32} {x2 : Int32} {x3 : Int32} {s0 : gH} {r : Int32} {s1 : gH} (h : fX12_count a0 x1 x2 x3 s0 = some (r, s1)) : gMt mX12_count d [vr a0, vi x1, vi x2, vi x3] s0 (some (vi r)) s1 :=
  gMt_of (rv := rvI) (by decide +kernel) (Nat.le_of_ble_eq_true rfl) ⟨_, rfl, rfl⟩ (fun _ => wX12_count hd) h
def gX12_nth_L36  (a0 : Nat) (x1 : Int32) : Nat → Int64 → Int32 → gH → Option (Int32 × gH)
  | 0, _, _, _ => none
  | n + 1, x3, x5, s0 =>
    if x5 < 14610 then
      if lg_cmp x3 0 < 0 then
        some (-1, s0)
      else
        gb2 (gcv s0 a0 12 (fX12_isOn a0 x1 x5 s0)) fun r10 s11 =>
        if r10 = 0 then
          gX12_nth_L36 a0 x1 n x3 (x5 + 1) s11
        else
          if lg_cmp x3 0 = 0 then
            some (x5, s11)
          else
            glet (x3 - 1) fun y14 =>
            gX12_nth_L36 a0 x1 n y14 (x5 + 1) s11
    else
      some (-1, s0)
set_option maxRecDepth 100000 in
set_option maxHeartbeats 4000000 in
theorem wX12_nth_L36 {X : Nat × (Nat → Int32)} {d : Nat} (hd : 12 ≤ d)  (a0 : Nat) (x1 : Int32) : ∀ (n : Nat) (x3 : Int64) (x5 : Int32) (s0 : gH), gGo X rvI mX12_nth d 36 [(0, vr a0), (1, vi x1), (3, vl x3), (5, vi x5)] [] s0 (gX12_nth_L36 a0 x1 n x3 x5 s0) := by
  intro n
  induction n with
  | zero => intros; exact go_none
  | succ n ih =>
    intro x3 x5 s0
    show gGo _ _ _ _ _ _ _ _ (gX12_nth_L36 a0 x1 (n + 1) x3 x5 s0)
    unfold gX12_nth_L36
    refine go_iload 3 dX12_nth_36 rfl ?_
    refine go_sipush (v := 14610) dX12_nth_38 (by decide) ?_
    refine go_icmp_ge (tgt := 79) dX12_nth_41 (by decide) (fun h8 => ?_) (fun h8 => ?_)
    · refine go_lload_n 2 dX12_nth_44 rfl rfl ?_
      refine go_lconst (v := 0) dX12_nth_45 (by decide) ?_
      refine go_lcmp dX12_nth_46 ?_
      refine go_if_lt (tgt := 79) dX12_nth_47 (by decide) (fun h9 => ?_) (fun h9 => ?_)
      · refine go_iconst (v := -1) dX12_nth_79 (by decide) ?_
        exact go_ret rfl dX12_nth_80
      · refine go_aload_n 0 dX12_nth_50 rfl rfl ?_
        refine go_iload_n 1 dX12_nth_51 rfl rfl ?_
        refine go_iload 3 dX12_nth_52 rfl ?_
        refine go_callV_I (as := [vi x1, vi x5]) gk_RX12_437 gmf_X12_isOn (by decide) rfl (by omega) rfl rfl (Nat.le_of_ble_eq_true rfl) dX12_nth_54 (fun _ _ h => cX12_isOn_c (by omega) h) (fun r10 s11 _ => ?_)
        refine go_if_eq (tgt := 73) dX12_nth_57 (by decide) (fun h12 => ?_) (fun h12 => ?_)
        · refine go_iinc (v := 1) (L' := [(5, vi (x5 + 1)), (0, vr a0), (1, vi x1), (3, vl x3)]) 3 dX12_nth_73 rfl (by decide) (by decide) rfl ?_
          refine go_goto (tgt := 36) dX12_nth_76 (by decide) ?_
          exact go_sub [1, 2, 3, 0] (ih x3 (x5 + 1) s11) rfl
        · refine go_lload_n 2 dX12_nth_60 rfl rfl ?_
          refine go_lconst (v := 0) dX12_nth_61 (by decide) ?_
          refine go_lcmp dX12_nth_62 ?_
          refine go_if_ne (tgt := 69) dX12_nth_63 (by decide) (fun h13 => ?_) (fun h13 => ?_)
          · refine go_iload 3 dX12_nth_66 rfl ?_
            exact go_ret rfl dX12_nth_68
          · refine go_lload_n 2 dX12_nth_69 rfl rfl ?_
            refine go_lconst (v := 1) dX12_nth_70 (by decide) ?_
            refine go_lsub dX12_nth_71 ?_
            refine go_lstore_n_l (L' := fun y14 => [(3, vl y14), (0, vr a0), (1, vi x1), (5, vi x5)]) dX12_nth_72 rfl (by decide) (fun _ => rfl) (fun y14 => ?_)
            refine go_iinc (v := 1) (L' := [(5, vi (x5 + 1)), (3, vl y14), (0, vr a0), (1, vi x1)]) 3 dX12_nth_73 rfl (by decide) (by decide) rfl ?_
            refine go_goto (tgt := 36) dX12_nth_76 (by decide) ?_
            exact go_sub [2, 3, 1, 0] (ih y14 (x5 + 1) s11) rfl
    · refine go_iconst (v := -1) dX12_nth_79 (by decide) ?_
      exact go_ret rfl dX12_nth_80
def fX12_nth (a0 : Nat) (x1 : Int32) (x2 : Int32) (s0 : gH) : Option (Int32 × gH) :=
  gb2 (gcv s0 a0 12 (fX12_isAsked a0 x1 s0)) fun r1 s2 =>
  if r1 = 0 then
    some (-1, s2)
  else
    gjn (fun (z5 : Int64) (s6 : gH) =>
        gX12_nth_L36
          a0 x1 20000 z5 0 s6
    ) fun j4 =>
    if x2 < 0 then
      gb2 (gcv s2 a0 12 (fX12_count a0 x1 0 14609 s2)) fun r16 s17 =>
      j4 (x2.toInt64 + r16.toInt64) s17
    else
      j4 x2.toInt64 s2
set_option maxRecDepth 100000 in
set_option maxHeartbeats 4000000 in
theorem wX12_nth {X : Nat × (Nat → Int32)} {d : Nat} (hd : 12 ≤ d) {a0 : Nat} {x1 : Int32} {x2 : Int32} {s0 : gH} : gGo X rvI mX12_nth d 0 [(0, vr a0), (1, vi x1), (2, vi x2)] [] s0 (fX12_nth a0 x1 x2 s0) := by
  unfold fX12_nth
  refine go_aload_n 0 dX12_nth_0 rfl rfl ?_
  refine go_iload_n 1 dX12_nth_1 rfl rfl ?_
  refine go_callV_I (as := [vi x1]) gk_RX12_434 gmf_X12_isAsked (by decide) rfl (by omega) rfl rfl (Nat.le_of_ble_eq_true rfl) dX12_nth_2 (fun _ _ h => cX12_isAsked_c (by omega) h) (fun r1 s2 _ => ?_)
  refine go_if_ne (tgt := 10) dX12_nth_5 (by decide) (fun h3 => ?_) (fun h3 => ?_)
  · refine go_iconst (v := -1) dX12_nth_8 (by decide) ?_
    exact go_ret rfl dX12_nth_9
  · refine go_iload_n 2 dX12_nth_10 rfl rfl ?_
    refine go_gjn (P := fun j4 => ∀ (z5 : Int64) (s6 : gH), gGo X rvI mX12_nth d 32 [(0, vr a0), (1, vi x1)] [vl z5] s6 (j4 z5 s6)) (fun z5 s6 => ?_) (fun j4 hj4 => ?_)
    · refine go_lstore_n (L' := [(3, vl z5), (0, vr a0), (1, vi x1)]) dX12_nth_32 rfl (by decide) rfl ?_
      refine go_iconst (v := 0) dX12_nth_33 (by decide) ?_
      refine go_istore (L' := [(5, vi 0), (3, vl z5), (0, vr a0), (1, vi x1)]) dX12_nth_34 (by decide) rfl ?_
      refine go_sub [2, 3, 1, 0] (wX12_nth_L36 hd a0 x1 20000 z5 0 s6) rfl
    · refine go_if_lt (tgt := 19) dX12_nth_11 (by decide) (fun h15 => ?_) (fun h15 => ?_)
      · refine go_iload_n 2 dX12_nth_19 rfl rfl ?_
        refine go_i2l dX12_nth_20 ?_
        refine go_aload_n 0 dX12_nth_21 rfl rfl ?_
        refine go_iload_n 1 dX12_nth_22 rfl rfl ?_
        refine go_iconst (v := 0) dX12_nth_23 (by decide) ?_
        refine go_sipush (v := 14609) dX12_nth_24 (by decide) ?_
        refine go_callV_I (as := [vi x1, vi 0, vi 14609]) gk_RX12_444 gmf_X12_count (by decide) rfl (by omega) rfl rfl (Nat.le_of_ble_eq_true rfl) dX12_nth_27 (fun _ _ h => cX12_count_c (by omega) h) (fun r16 s17 _ => ?_)
        refine go_i2l dX12_nth_30 ?_
        refine go_ladd dX12_nth_31 ?_
        exact go_sub [0, 1] (hj4 (x2.toInt64 + r16.toInt64) s17) rfl
      · refine go_iload_n 2 dX12_nth_14 rfl rfl ?_
        refine go_i2l dX12_nth_15 ?_
        refine go_goto (tgt := 32) dX12_nth_16 (by decide) ?_
        exact go_sub [0, 1] (hj4 x2.toInt64 s2) rfl
set_option maxRecDepth 100000 in
set_option maxHeartbeats 4000000 in
theorem cX12_nth_c {d : Nat} (hd : 12 ≤ d) {a0 : Nat} {x1 : Int32} {x2 : Int32} {s0 : gH} {r : Int32} {s1 : gH} (h : fX12_nth a0 x1 x2 s0 = some (r, s1)) : gMt mX12_nth d [vr a0, vi x1, vi x2] s0 (some (vi r)) s1 :=
  gMt_of (rv := rvI) (by decide +kernel) (Nat.le_of_ble_eq_true rfl) ⟨_, rfl, rfl⟩ (fun _ => wX12_nth hd) h
def fX11_many (a0 : Nat) (x1 : Int32) (x2 : Int32) (x3 : Int32) (s0 : gH) : Option (Int32 × gH) :=
  (ggR s0 a0 11 3).bind fun v1 =>
  gb2 (gcv s0 v1 5 (fX5_daysOf v1 x1 s0)) fun r2 s3 =>
  if r2 = 0 then
    some (-1, s3)
  else
    gb2 (fX11_isDay x2 s3) fun r5 s6 =>
    if r5 = 0 then
      some (-1, s6)
    else
      gb2 (fX11_isDay x3 s6) fun r8 s9 =>
      if r8 = 0 then
        some (-1, s9)
      else
        if x3 < x2 then
          some (-1, s9)
        else
          gb2 (gcv s9 r2 2 (fX2_between r2 x2 x3 s9)) fun r12 s13 =>
          some (r12, s13)
set_option maxRecDepth 100000 in
set_option maxHeartbeats 4000000 in
theorem wX11_many {X : Nat × (Nat → Int32)} {d : Nat} (hd : 6 ≤ d) {a0 : Nat} {x1 : Int32} {x2 : Int32} {x3 : Int32} {s0 : gH} : gGo X rvI mX11_many d 0 [(0, vr a0), (1, vi x1), (2, vi x2), (3, vi x3)] [] s0 (fX11_many a0 x1 x2 x3 s0) := by
  unfold fX11_many
  refine go_aload_n 0 dX11_many_0 rfl rfl ?_
  refine go_getR gf_RX11_35 gcf_11 gft_11_3 dX11_many_1 (fun v1 => ?_)
  refine go_iload_n 1 dX11_many_4 rfl rfl ?_
  refine go_callV_R (as := [vi x1]) gk_RX11_145 gmf_X5_daysOf (by decide) rfl (by omega) rfl rfl (Nat.le_of_ble_eq_true rfl) dX11_many_5 (fun _ _ h => cX5_daysOf_c (by omega) h) (fun r2 s3 _ => ?_)
  refine go_astore (L' := [(4, vr r2), (0, vr a0), (1, vi x1), (2, vi x2), (3, vi x3)]) dX11_many_8 (by decide) rfl ?_
  refine go_aload 0 dX11_many_10 rfl ?_
  refine go_ifnull (tgt := 34) dX11_many_12 (by decide) (fun h4 => ?_) (fun h4 => ?_)
  · refine go_iconst (v := -1) dX11_many_34 (by decide) ?_
    exact go_ret rfl dX11_many_35
  · refine go_iload_n 3 dX11_many_15 rfl rfl ?_
    refine go_callS_I (as := [vi x2]) gk_RX11_139 gmf_X11_isDay (by omega) rfl rfl (Nat.le_of_ble_eq_true rfl) dX11_many_16 (fun _ _ h => cX11_isDay_c (by omega) h) (fun r5 s6 _ => ?_)
    refine go_if_eq (tgt := 34) dX11_many_19 (by decide) (fun h7 => ?_) (fun h7 => ?_)
    · refine go_iconst (v := -1) dX11_many_34 (by decide) ?_
      exact go_ret rfl dX11_many_35
    · refine go_iload_n 4 dX11_many_22 rfl rfl ?_
      refine go_callS_I (as := [vi x3]) gk_RX11_139 gmf_X11_isDay (by omega) rfl rfl (Nat.le_of_ble_eq_true rfl) dX11_many_23 (fun _ _ h => cX11_isDay_c (by omega) h) (fun r8 s9 _ => ?_)
      refine go_if_eq (tgt := 34) dX11_many_26 (by decide) (fun h10 => ?_) (fun h10 => ?_)
      · refine go_iconst (v := -1) dX11_many_34 (by decide) ?_
        exact go_ret rfl dX11_many_35
      · refine go_iload_n 3 dX11_many_29 rfl rfl ?_
        refine go_iload_n 4 dX11_many_30 rfl rfl ?_
        refine go_icmp_le (tgt := 36) dX11_many_31 (by decide) (fun h11 => ?_) (fun h11 => ?_)
        · refine go_iconst (v := -1) dX11_many_34 (by decide) ?_
          exact go_ret rfl dX11_many_35
        · refine go_aload 0 dX11_many_36 rfl ?_
          refine go_iload_n 3 dX11_many_38 rfl rfl ?_
          refine go_iload_n 4 dX11_many_39 rfl rfl ?_
          refine go_callV_I (as := [vi x2, vi x3]) gk_RX11_160 gmf_X2_between (by decide) rfl (by omega) rfl rfl (Nat.le_of_ble_eq_true rfl) dX11_many_40 (fun _ _ h => cX2_between_c (by omega) h) (fun r12 s13 _ => ?_)
          exact go_ret rfl dX11_many_43
set_option maxRecDepth 100000 in
set_option maxHeartbeats 4000000 in
theorem cX11_many_c {d : Nat} (hd : 6 ≤ d) {a0 : Nat} {x1 : Int32} {x2 : Int32} {x3 : Int32} {s0 : gH} {r : Int32} {s1 : gH} (h : fX11_many a0 x1 x2 x3 s0 = some (r, s1)) : gMt mX11_many d [vr a0, vi x1, vi x2, vi x3] s0 (some (vi r)) s1 :=
  gMt_of (rv := rvI) (by decide +kernel) (Nat.le_of_ble_eq_true rfl) ⟨_, rfl, rfl⟩ (fun _ => wX11_many hd) h
def fX12_many (a0 : Nat) (x1 : Int32) (x2 : Int32) (x3 : Int32) (s0 : gH) : Option (Int32 × gH) :=
  gb2 (fX12_isDay x2 s0) fun r1 s2 =>
  if r1 = 0 then
    some (-1, s2)
  else
    gb2 (fX12_isDay x3 s2) fun r4 s5 =>
    if r4 = 0 then
      some (-1, s5)
    else
      if x3 < x2 then
        some (-1, s5)
      else
        gb2 (gcv s5 a0 12 (fX12_isAsked a0 x1 s5)) fun r8 s9 =>
        if r8 = 0 then
          some (-1, s9)
        else
          gb2 (gcv s9 a0 12 (fX12_count a0 x1 x2 x3 s9)) fun r11 s12 =>
          some (r11, s12)
set_option maxRecDepth 100000 in
set_option maxHeartbeats 4000000 in
theorem wX12_many {X : Nat × (Nat → Int32)} {d : Nat} (hd : 12 ≤ d) {a0 : Nat} {x1 : Int32} {x2 : Int32} {x3 : Int32} {s0 : gH} : gGo X rvI mX12_many d 0 [(0, vr a0), (1, vi x1), (2, vi x2), (3, vi x3)] [] s0 (fX12_many a0 x1 x2 x3 s0) := by
  unfold fX12_many
  refine go_iload_n 2 dX12_many_0 rfl rfl ?_
  refine go_callS_I (as := [vi x2]) gk_RX12_387 gmf_X12_isDay (by omega) rfl rfl (Nat.le_of_ble_eq_true rfl) dX12_many_1 (fun _ _ h => cX12_isDay_c (by omega) h) (fun r1 s2 _ => ?_)
  refine go_if_eq (tgt := 37) dX12_many_4 (by decide) (fun h3 => ?_) (fun h3 => ?_)
  · refine go_iconst (v := -1) dX12_many_37 (by decide) ?_
    exact go_ret rfl dX12_many_38
  · refine go_iload_n 3 dX12_many_7 rfl rfl ?_
    refine go_callS_I (as := [vi x3]) gk_RX12_387 gmf_X12_isDay (by omega) rfl rfl (Nat.le_of_ble_eq_true rfl) dX12_many_8 (fun _ _ h => cX12_isDay_c (by omega) h) (fun r4 s5 _ => ?_)
    refine go_if_eq (tgt := 37) dX12_many_11 (by decide) (fun h6 => ?_) (fun h6 => ?_)
    · refine go_iconst (v := -1) dX12_many_37 (by decide) ?_
      exact go_ret rfl dX12_many_38
    · refine go_iload_n 2 dX12_many_14 rfl rfl ?_
      refine go_iload_n 3 dX12_many_15 rfl rfl ?_
      refine go_icmp_gt (tgt := 37) dX12_many_16 (by decide) (fun h7 => ?_) (fun h7 => ?_)
      · refine go_iconst (v := -1) dX12_many_37 (by decide) ?_
        exact go_ret rfl dX12_many_38
      · refine go_aload_n 0 dX12_many_19 rfl rfl ?_
        refine go_iload_n 1 dX12_many_20 rfl rfl ?_
        refine go_callV_I (as := [vi x1]) gk_RX12_434 gmf_X12_isAsked (by decide) rfl (by omega) rfl rfl (Nat.le_of_ble_eq_true rfl) dX12_many_21 (fun _ _ h => cX12_isAsked_c (by omega) h) (fun r8 s9 _ => ?_)
        refine go_if_eq (tgt := 37) dX12_many_24 (by decide) (fun h10 => ?_) (fun h10 => ?_)
        · refine go_iconst (v := -1) dX12_many_37 (by decide) ?_
          exact go_ret rfl dX12_many_38
        · refine go_aload_n 0 dX12_many_27 rfl rfl ?_
          refine go_iload_n 1 dX12_many_28 rfl rfl ?_
          refine go_iload_n 2 dX12_many_29 rfl rfl ?_
          refine go_iload_n 3 dX12_many_30 rfl rfl ?_
          refine go_callV_I (as := [vi x1, vi x2, vi x3]) gk_RX12_444 gmf_X12_count (by decide) rfl (by omega) rfl rfl (Nat.le_of_ble_eq_true rfl) dX12_many_31 (fun _ _ h => cX12_count_c (by omega) h) (fun r11 s12 _ => ?_)
          refine go_goto (tgt := 38) dX12_many_34 (by decide) ?_
          exact go_ret rfl dX12_many_38
set_option maxRecDepth 100000 in
set_option maxHeartbeats 4000000 in
theorem cX12_many_c {d : Nat} (hd : 12 ≤ d) {a0 : Nat} {x1 : Int32} {x2 : Int32} {x3 : Int32} {s0 : gH} {r : Int32} {s1 : gH} (h : fX12_many a0 x1 x2 x3 s0 = some (r, s1)) : gMt mX12_many d [vr a0, vi x1, vi x2, vi x3] s0 (some (vi r)) s1 :=
  gMt_of (rv := rvI) (by decide +kernel) (Nat.le_of_ble_eq_true rfl) ⟨_, rfl, rfl⟩ (fun _ => wX12_many hd) h
def gX11_gap_L40 (k101 : Int32 → Int32 → gH → Option (Int32 × gH)) (x2 : Int32) (a3 : Nat) : Nat → Int32 → Int32 → Int32 → Int32 → gH → Option (Int32 × gH)
  | 0, _, _, _, _, _ => none
  | n + 1, x4, x5, x6, x7, s0 =>
    if x7 < 14610 then
      if x6 = -1 then
        k101 x4 x5 s0
      else
        gb2 (gcv s0 a3 2 (fX2_firstFrom a3 (x6 + 1) s0)) fun r12 s13 =>
        if r12 = -1 then
          gX11_gap_L40 k101 x2 a3 n x4 x5 r12 (x7 + 1) s13
        else
          if x4 < r12 - x6 then
            glet (r12 - x6) fun y16 =>
            gX11_gap_L40 k101 x2 a3 n y16 x6 r12 (x7 + 1) s13
          else
            gX11_gap_L40 k101 x2 a3 n x4 x5 r12 (x7 + 1) s13
    else
      k101 x4 x5 s0
set_option maxRecDepth 100000 in
set_option maxHeartbeats 4000000 in
theorem wX11_gap_L40 {X : Nat × (Nat → Int32)} {d : Nat} (hd : 6 ≤ d) (k101 : Int32 → Int32 → gH → Option (Int32 × gH)) (x2 : Int32) (a3 : Nat) (hk101 : ∀ (x4 : Int32) (x5 : Int32) (s : gH), gGo X rvI mX11_gap d 101 [(2, vi x2), (4, vi x4), (5, vi x5)] [] s (k101 x4 x5 s)) : ∀ (n : Nat) (x4 : Int32) (x5 : Int32) (x6 : Int32) (x7 : Int32) (s0 : gH), gGo X rvI mX11_gap d 40 [(2, vi x2), (3, vr a3), (4, vi x4), (5, vi x5), (6, vi x6), (7, vi x7)] [] s0 (gX11_gap_L40 k101 x2 a3 n x4 x5 x6 x7 s0) := by
  intro n
  induction n with
  | zero => intros; exact go_none
  | succ n ih =>
    intro x4 x5 x6 x7 s0
    show gGo _ _ _ _ _ _ _ _ (gX11_gap_L40 k101 x2 a3 (n + 1) x4 x5 x6 x7 s0)
    unfold gX11_gap_L40
    refine go_iload 5 dX11_gap_40 rfl ?_
    refine go_sipush (v := 14610) dX11_gap_42 (by decide) ?_
    refine go_icmp_ge (tgt := 101) dX11_gap_45 (by decide) (fun h10 => ?_) (fun h10 => ?_)
    · refine go_iload 4 dX11_gap_48 rfl ?_
      refine go_iconst (v := -1) dX11_gap_50 (by decide) ?_
      refine go_icmp_eq (tgt := 101) dX11_gap_51 (by decide) (fun h11 => ?_) (fun h11 => ?_)
      · exact go_sub [0, 2, 3] (hk101 x4 x5 s0) rfl
      · refine go_aload_n 1 dX11_gap_54 rfl rfl ?_
        refine go_iload 4 dX11_gap_55 rfl ?_
        refine go_iconst (v := 1) dX11_gap_57 (by decide) ?_
        refine go_iadd dX11_gap_58 ?_
        refine go_callV_I (as := [vi (x6 + 1)]) gk_RX11_154 gmf_X2_firstFrom (by decide) rfl (by omega) rfl rfl (Nat.le_of_ble_eq_true rfl) dX11_gap_59 (fun _ _ h => cX2_firstFrom_c (by omega) h) (fun r12 s13 _ => ?_)
        refine go_istore (L' := [(8, vi r12), (2, vi x2), (3, vr a3), (4, vi x4), (5, vi x5), (6, vi x6), (7, vi x7)]) dX11_gap_62 (by decide) rfl ?_
        refine go_iload 0 dX11_gap_64 rfl ?_
        refine go_iconst (v := -1) dX11_gap_66 (by decide) ?_
        refine go_icmp_eq (tgt := 91) dX11_gap_67 (by decide) (fun h14 => ?_) (fun h14 => ?_)
        · refine go_iload 0 dX11_gap_91 rfl ?_
          refine go_istore (L' := [(6, vi r12), (8, vi r12), (2, vi x2), (3, vr a3), (4, vi x4), (5, vi x5), (7, vi x7)]) dX11_gap_93 (by decide) rfl ?_
          refine go_iinc (v := 1) (L' := [(7, vi (x7 + 1)), (6, vi r12), (8, vi r12), (2, vi x2), (3, vr a3), (4, vi x4), (5, vi x5)]) 6 dX11_gap_95 rfl (by decide) (by decide) rfl ?_
          refine go_goto (tgt := 40) dX11_gap_98 (by decide) ?_
          exact go_sub [3, 4, 5, 6, 1, 0] (ih x4 x5 r12 (x7 + 1) s13) rfl
        · refine go_iload 0 dX11_gap_70 rfl ?_
          refine go_iload 5 dX11_gap_72 rfl ?_
          refine go_isub dX11_gap_74 ?_
          refine go_iload 3 dX11_gap_75 rfl ?_
          refine go_icmp_le (tgt := 91) dX11_gap_77 (by decide) (fun h15 => ?_) (fun h15 => ?_)
          · refine go_iload 0 dX11_gap_80 rfl ?_
            refine go_iload 5 dX11_gap_82 rfl ?_
            refine go_isub dX11_gap_84 ?_
            refine go_istore_l (L' := fun y16 => [(4, vi y16), (8, vi r12), (2, vi x2), (3, vr a3), (5, vi x5), (6, vi x6), (7, vi x7)]) dX11_gap_85 (by decide) (fun _ => rfl) (fun y16 => ?_)
            refine go_iload 5 dX11_gap_87 rfl ?_
            refine go_istore (L' := [(5, vi x6), (4, vi y16), (8, vi r12), (2, vi x2), (3, vr a3), (6, vi x6), (7, vi x7)]) dX11_gap_89 (by decide) rfl ?_
            refine go_iload 2 dX11_gap_91 rfl ?_
            refine go_istore (L' := [(6, vi r12), (5, vi x6), (4, vi y16), (8, vi r12), (2, vi x2), (3, vr a3), (7, vi x7)]) dX11_gap_93 (by decide) rfl ?_
            refine go_iinc (v := 1) (L' := [(7, vi (x7 + 1)), (6, vi r12), (5, vi x6), (4, vi y16), (8, vi r12), (2, vi x2), (3, vr a3)]) 6 dX11_gap_95 rfl (by decide) (by decide) rfl ?_
            refine go_goto (tgt := 40) dX11_gap_98 (by decide) ?_
            exact go_sub [5, 6, 3, 2, 1, 0] (ih y16 x6 r12 (x7 + 1) s13) rfl
          · refine go_iload 0 dX11_gap_91 rfl ?_
            refine go_istore (L' := [(6, vi r12), (8, vi r12), (2, vi x2), (3, vr a3), (4, vi x4), (5, vi x5), (7, vi x7)]) dX11_gap_93 (by decide) rfl ?_
            refine go_iinc (v := 1) (L' := [(7, vi (x7 + 1)), (6, vi r12), (8, vi r12), (2, vi x2), (3, vr a3), (4, vi x4), (5, vi x5)]) 6 dX11_gap_95 rfl (by decide) (by decide) rfl ?_
            refine go_goto (tgt := 40) dX11_gap_98 (by decide) ?_
            exact go_sub [3, 4, 5, 6, 1, 0] (ih x4 x5 r12 (x7 + 1) s13) rfl
    · exact go_sub [0, 2, 3] (hk101 x4 x5 s0) rfl
def fX11_gap (a0 : Nat) (x1 : Int32) (x2 : Int32) (s0 : gH) : Option (Int32 × gH) :=
  (ggR s0 a0 11 3).bind fun v1 =>
  gb2 (gcv s0 v1 5 (fX5_daysOf v1 x1 s0)) fun r2 s3 =>
  if r2 = 0 then
    some (-1, s3)
  else
    if x2 < 0 then
      some (-1, s3)
    else
      if 1 < x2 then
        some (-1, s3)
      else
        gb2 (gcv s3 r2 2 (fX2_firstFrom r2 0 s3)) fun r7 s8 =>
        gX11_gap_L40
          (fun y17 y18 s19 =>
            if x2 = 0 then
              some (y17, s19)
            else
              some (y18, s19))
          x2 r2 20000 (-1) (-1) r7 0 s8
set_option maxRecDepth 100000 in
set_option maxHeartbeats 4000000 in
theorem wX11_gap {X : Nat × (Nat → Int32)} {d : Nat} (hd : 6 ≤ d) {a0 : Nat} {x1 : Int32} {x2 : Int32} {s0 : gH} : gGo X rvI mX11_gap d 0 [(0, vr a0), (1, vi x1), (2, vi x2)] [] s0 (fX11_gap a0 x1 x2 s0) := by
  unfold fX11_gap
  refine go_aload_n 0 dX11_gap_0 rfl rfl ?_
  refine go_getR gf_RX11_35 gcf_11 gft_11_3 dX11_gap_1 (fun v1 => ?_)
  refine go_iload_n 1 dX11_gap_4 rfl rfl ?_
  refine go_callV_R (as := [vi x1]) gk_RX11_145 gmf_X5_daysOf (by decide) rfl (by omega) rfl rfl (Nat.le_of_ble_eq_true rfl) dX11_gap_5 (fun _ _ h => cX5_daysOf_c (by omega) h) (fun r2 s3 _ => ?_)
  refine go_astore_n (L' := [(3, vr r2), (0, vr a0), (1, vi x1), (2, vi x2)]) dX11_gap_8 rfl (by decide) rfl ?_
  refine go_aload_n 0 dX11_gap_9 rfl rfl ?_
  refine go_ifnull (tgt := 22) dX11_gap_10 (by decide) (fun h4 => ?_) (fun h4 => ?_)
  · refine go_iconst (v := -1) dX11_gap_22 (by decide) ?_
    exact go_ret rfl dX11_gap_23
  · refine go_iload_n 3 dX11_gap_13 rfl rfl ?_
    refine go_if_lt (tgt := 22) dX11_gap_14 (by decide) (fun h5 => ?_) (fun h5 => ?_)
    · refine go_iconst (v := -1) dX11_gap_22 (by decide) ?_
      exact go_ret rfl dX11_gap_23
    · refine go_iload_n 3 dX11_gap_17 rfl rfl ?_
      refine go_iconst (v := 1) dX11_gap_18 (by decide) ?_
      refine go_icmp_le (tgt := 24) dX11_gap_19 (by decide) (fun h6 => ?_) (fun h6 => ?_)
      · refine go_iconst (v := -1) dX11_gap_22 (by decide) ?_
        exact go_ret rfl dX11_gap_23
      · refine go_iconst (v := -1) dX11_gap_24 (by decide) ?_
        refine go_istore (L' := [(4, vi (-1)), (3, vr r2), (0, vr a0), (1, vi x1), (2, vi x2)]) dX11_gap_25 (by decide) rfl ?_
        refine go_iconst (v := -1) dX11_gap_27 (by decide) ?_
        refine go_istore (L' := [(5, vi (-1)), (4, vi (-1)), (3, vr r2), (0, vr a0), (1, vi x1), (2, vi x2)]) dX11_gap_28 (by decide) rfl ?_
        refine go_aload_n 2 dX11_gap_30 rfl rfl ?_
        refine go_iconst (v := 0) dX11_gap_31 (by decide) ?_
        refine go_callV_I (as := [vi 0]) gk_RX11_154 gmf_X2_firstFrom (by decide) rfl (by omega) rfl rfl (Nat.le_of_ble_eq_true rfl) dX11_gap_32 (fun _ _ h => cX2_firstFrom_c (by omega) h) (fun r7 s8 _ => ?_)
        refine go_istore (L' := [(6, vi r7), (5, vi (-1)), (4, vi (-1)), (3, vr r2), (0, vr a0), (1, vi x1), (2, vi x2)]) dX11_gap_35 (by decide) rfl ?_
        refine go_iconst (v := 0) dX11_gap_37 (by decide) ?_
        refine go_istore (L' := [(7, vi 0), (6, vi r7), (5, vi (-1)), (4, vi (-1)), (3, vr r2), (0, vr a0), (1, vi x1), (2, vi x2)]) dX11_gap_38 (by decide) rfl ?_
        refine go_sub [7, 4, 3, 2, 1, 0] (wX11_gap_L40 hd _ x2 r2 ?_ 20000 (-1) (-1) r7 0 s8) rfl
        intro y17 y18 s19
        refine go_iload_n 0 dX11_gap_101 rfl rfl ?_
        refine go_if_ne (tgt := 110) dX11_gap_102 (by decide) (fun h20 => ?_) (fun h20 => ?_)
        · refine go_iload 1 dX11_gap_105 rfl ?_
          refine go_goto (tgt := 112) dX11_gap_107 (by decide) ?_
          exact go_ret rfl dX11_gap_112
        · refine go_iload 2 dX11_gap_110 rfl ?_
          exact go_ret rfl dX11_gap_112
set_option maxRecDepth 100000 in
set_option maxHeartbeats 4000000 in
theorem cX11_gap_c {d : Nat} (hd : 6 ≤ d) {a0 : Nat} {x1 : Int32} {x2 : Int32} {s0 : gH} {r : Int32} {s1 : gH} (h : fX11_gap a0 x1 x2 s0 = some (r, s1)) : gMt mX11_gap d [vr a0, vi x1, vi x2] s0 (some (vi r)) s1 :=
  gMt_of (rv := rvI) (by decide +kernel) (Nat.le_of_ble_eq_true rfl) ⟨_, rfl, rfl⟩ (fun _ => wX11_gap hd) h
def gX12_gap_L31 (k81 : Int32 → Int32 → gH → Option (Int32 × gH)) (a0 : Nat) (x1 : Int32) (x2 : Int32) : Nat → Int32 → Int32 → Int32 → Int32 → gH → Option (Int32 × gH)
  | 0, _, _, _, _, _ => none
  | n + 1, x3, x4, x5, x6, s0 =>
    if x6 < 14610 then
      gb2 (gcv s0 a0 12 (fX12_isOn a0 x1 x6 s0)) fun r9 s10 =>
      if r9 = 0 then
        gX12_gap_L31 k81 a0 x1 x2 n x3 x4 x5 (x6 + 1) s10
      else
        if x3 = -1 then
          gX12_gap_L31 k81 a0 x1 x2 n x6 x4 x5 (x6 + 1) s10
        else
          if x4 < x6 - x3 then
            glet (x6 - x3) fun y14 =>
            gX12_gap_L31 k81 a0 x1 x2 n x6 y14 x3 (x6 + 1) s10
          else
            gX12_gap_L31 k81 a0 x1 x2 n x6 x4 x5 (x6 + 1) s10
    else
      k81 x4 x5 s0
set_option maxRecDepth 100000 in
set_option maxHeartbeats 4000000 in
theorem wX12_gap_L31 {X : Nat × (Nat → Int32)} {d : Nat} (hd : 12 ≤ d) (k81 : Int32 → Int32 → gH → Option (Int32 × gH)) (a0 : Nat) (x1 : Int32) (x2 : Int32) (hk81 : ∀ (x4 : Int32) (x5 : Int32) (s : gH), gGo X rvI mX12_gap d 81 [(2, vi x2), (4, vi x4), (5, vi x5)] [] s (k81 x4 x5 s)) : ∀ (n : Nat) (x3 : Int32) (x4 : Int32) (x5 : Int32) (x6 : Int32) (s0 : gH), gGo X rvI mX12_gap d 31 [(0, vr a0), (1, vi x1), (2, vi x2), (3, vi x3), (4, vi x4), (5, vi x5), (6, vi x6)] [] s0 (gX12_gap_L31 k81 a0 x1 x2 n x3 x4 x5 x6 s0) := by
  intro n
  induction n with
  | zero => intros; exact go_none
  | succ n ih =>
    intro x3 x4 x5 x6 s0
    show gGo _ _ _ _ _ _ _ _ (gX12_gap_L31 k81 a0 x1 x2 (n + 1) x3 x4 x5 x6 s0)
    unfold gX12_gap_L31
    refine go_iload 6 dX12_gap_31 rfl ?_
    refine go_sipush (v := 14610) dX12_gap_33 (by decide) ?_
    refine go_icmp_ge (tgt := 81) dX12_gap_36 (by decide) (fun h8 => ?_) (fun h8 => ?_)
    · refine go_aload_n 0 dX12_gap_39 rfl rfl ?_
      refine go_iload_n 1 dX12_gap_40 rfl rfl ?_
      refine go_iload 6 dX12_gap_41 rfl ?_
      refine go_callV_I (as := [vi x1, vi x6]) gk_RX12_437 gmf_X12_isOn (by decide) rfl (by omega) rfl rfl (Nat.le_of_ble_eq_true rfl) dX12_gap_43 (fun _ _ h => cX12_isOn_c (by omega) h) (fun r9 s10 _ => ?_)
      refine go_if_eq (tgt := 75) dX12_gap_46 (by decide) (fun h11 => ?_) (fun h11 => ?_)
      · refine go_iinc (v := 1) (L' := [(6, vi (x6 + 1)), (0, vr a0), (1, vi x1), (2, vi x2), (3, vi x3), (4, vi x4), (5, vi x5)]) 6 dX12_gap_75 rfl (by decide) (by decide) rfl ?_
        refine go_goto (tgt := 31) dX12_gap_78 (by decide) ?_
        exact go_sub [1, 2, 3, 4, 5, 6, 0] (ih x3 x4 x5 (x6 + 1) s10) rfl
      · refine go_iload_n 3 dX12_gap_49 rfl rfl ?_
        refine go_iconst (v := -1) dX12_gap_50 (by decide) ?_
        refine go_icmp_eq (tgt := 72) dX12_gap_51 (by decide) (fun h12 => ?_) (fun h12 => ?_)
        · refine go_iload 6 dX12_gap_72 rfl ?_
          refine go_istore_n (L' := [(3, vi x6), (0, vr a0), (1, vi x1), (2, vi x2), (4, vi x4), (5, vi x5), (6, vi x6)]) dX12_gap_74 rfl (by decide) rfl ?_
          refine go_iinc (v := 1) (L' := [(6, vi (x6 + 1)), (3, vi x6), (0, vr a0), (1, vi x1), (2, vi x2), (4, vi x4), (5, vi x5)]) 6 dX12_gap_75 rfl (by decide) (by decide) rfl ?_
          refine go_goto (tgt := 31) dX12_gap_78 (by decide) ?_
          exact go_sub [2, 3, 4, 1, 5, 6, 0] (ih x6 x4 x5 (x6 + 1) s10) rfl
        · refine go_iload 6 dX12_gap_54 rfl ?_
          refine go_iload_n 3 dX12_gap_56 rfl rfl ?_
          refine go_isub dX12_gap_57 ?_
          refine go_iload 4 dX12_gap_58 rfl ?_
          refine go_icmp_le (tgt := 72) dX12_gap_60 (by decide) (fun h13 => ?_) (fun h13 => ?_)
          · refine go_iload 6 dX12_gap_63 rfl ?_
            refine go_iload_n 3 dX12_gap_65 rfl rfl ?_
            refine go_isub dX12_gap_66 ?_
            refine go_istore_l (L' := fun y14 => [(4, vi y14), (0, vr a0), (1, vi x1), (2, vi x2), (3, vi x3), (5, vi x5), (6, vi x6)]) dX12_gap_67 (by decide) (fun _ => rfl) (fun y14 => ?_)
            refine go_iload_n 4 dX12_gap_69 rfl rfl ?_
            refine go_istore (L' := [(5, vi x3), (4, vi y14), (0, vr a0), (1, vi x1), (2, vi x2), (3, vi x3), (6, vi x6)]) dX12_gap_70 (by decide) rfl ?_
            refine go_iload 6 dX12_gap_72 rfl ?_
            refine go_istore_n (L' := [(3, vi x6), (5, vi x3), (4, vi y14), (0, vr a0), (1, vi x1), (2, vi x2), (6, vi x6)]) dX12_gap_74 rfl (by decide) rfl ?_
            refine go_iinc (v := 1) (L' := [(6, vi (x6 + 1)), (3, vi x6), (5, vi x3), (4, vi y14), (0, vr a0), (1, vi x1), (2, vi x2)]) 6 dX12_gap_75 rfl (by decide) (by decide) rfl ?_
            refine go_goto (tgt := 31) dX12_gap_78 (by decide) ?_
            exact go_sub [4, 5, 6, 1, 3, 2, 0] (ih x6 y14 x3 (x6 + 1) s10) rfl
          · refine go_iload 6 dX12_gap_72 rfl ?_
            refine go_istore_n (L' := [(3, vi x6), (0, vr a0), (1, vi x1), (2, vi x2), (4, vi x4), (5, vi x5), (6, vi x6)]) dX12_gap_74 rfl (by decide) rfl ?_
            refine go_iinc (v := 1) (L' := [(6, vi (x6 + 1)), (3, vi x6), (0, vr a0), (1, vi x1), (2, vi x2), (4, vi x4), (5, vi x5)]) 6 dX12_gap_75 rfl (by decide) (by decide) rfl ?_
            refine go_goto (tgt := 31) dX12_gap_78 (by decide) ?_
            exact go_sub [2, 3, 4, 1, 5, 6, 0] (ih x6 x4 x5 (x6 + 1) s10) rfl
    · exact go_sub [2, 4, 5] (hk81 x4 x5 s0) rfl
def fX12_gap (a0 : Nat) (x1 : Int32) (x2 : Int32) (s0 : gH) : Option (Int32 × gH) :=
  gb2 (fX12_isIn x2.toInt64 0 1 s0) fun r1 s2 =>
  if r1 = 0 then
    some (-1, s2)
  else
    gb2 (gcv s2 a0 12 (fX12_isAsked a0 x1 s2)) fun r4 s5 =>
    if r4 = 0 then
      some (-1, s5)
    else
      gX12_gap_L31
        (fun y15 y16 s17 =>
          if y16 = -1 then
            some (-1, s17)
          else
            if x2 = 0 then
              some (y15, s17)
            else
              some (y16, s17))
        a0 x1 x2 20000 (-1) 0 (-1) 0 s5
set_option maxRecDepth 100000 in
set_option maxHeartbeats 4000000 in
theorem wX12_gap {X : Nat × (Nat → Int32)} {d : Nat} (hd : 12 ≤ d) {a0 : Nat} {x1 : Int32} {x2 : Int32} {s0 : gH} : gGo X rvI mX12_gap d 0 [(0, vr a0), (1, vi x1), (2, vi x2)] [] s0 (fX12_gap a0 x1 x2 s0) := by
  unfold fX12_gap
  refine go_iload_n 2 dX12_gap_0 rfl rfl ?_
  refine go_i2l dX12_gap_1 ?_
  refine go_lconst (v := 0) dX12_gap_2 (by decide) ?_
  refine go_lconst (v := 1) dX12_gap_3 (by decide) ?_
  refine go_callS_I (as := [vl x2.toInt64, vl 0, vl 1]) gk_RX12_110 gmf_X12_isIn (by omega) rfl rfl (Nat.le_of_ble_eq_true rfl) dX12_gap_4 (fun _ _ h => cX12_isIn_c (by omega) h) (fun r1 s2 _ => ?_)
  refine go_if_eq (tgt := 18) dX12_gap_7 (by decide) (fun h3 => ?_) (fun h3 => ?_)
  · refine go_iconst (v := -1) dX12_gap_18 (by decide) ?_
    exact go_ret rfl dX12_gap_19
  · refine go_aload_n 0 dX12_gap_10 rfl rfl ?_
    refine go_iload_n 1 dX12_gap_11 rfl rfl ?_
    refine go_callV_I (as := [vi x1]) gk_RX12_434 gmf_X12_isAsked (by decide) rfl (by omega) rfl rfl (Nat.le_of_ble_eq_true rfl) dX12_gap_12 (fun _ _ h => cX12_isAsked_c (by omega) h) (fun r4 s5 _ => ?_)
    refine go_if_ne (tgt := 20) dX12_gap_15 (by decide) (fun h6 => ?_) (fun h6 => ?_)
    · refine go_iconst (v := -1) dX12_gap_18 (by decide) ?_
      exact go_ret rfl dX12_gap_19
    · refine go_iconst (v := -1) dX12_gap_20 (by decide) ?_
      refine go_istore_n (L' := [(3, vi (-1)), (0, vr a0), (1, vi x1), (2, vi x2)]) dX12_gap_21 rfl (by decide) rfl ?_
      refine go_iconst (v := 0) dX12_gap_22 (by decide) ?_
      refine go_istore (L' := [(4, vi 0), (3, vi (-1)), (0, vr a0), (1, vi x1), (2, vi x2)]) dX12_gap_23 (by decide) rfl ?_
      refine go_iconst (v := -1) dX12_gap_25 (by decide) ?_
      refine go_istore (L' := [(5, vi (-1)), (4, vi 0), (3, vi (-1)), (0, vr a0), (1, vi x1), (2, vi x2)]) dX12_gap_26 (by decide) rfl ?_
      refine go_iconst (v := 0) dX12_gap_28 (by decide) ?_
      refine go_istore (L' := [(6, vi 0), (5, vi (-1)), (4, vi 0), (3, vi (-1)), (0, vr a0), (1, vi x1), (2, vi x2)]) dX12_gap_29 (by decide) rfl ?_
      refine go_sub [4, 5, 6, 3, 2, 1, 0] (wX12_gap_L31 hd _ a0 x1 x2 ?_ 20000 (-1) 0 (-1) 0 s5) rfl
      intro y15 y16 s17
      refine go_iload 2 dX12_gap_81 rfl ?_
      refine go_iconst (v := -1) dX12_gap_83 (by decide) ?_
      refine go_icmp_ne (tgt := 91) dX12_gap_84 (by decide) (fun h18 => ?_) (fun h18 => ?_)
      · refine go_iconst (v := -1) dX12_gap_87 (by decide) ?_
        refine go_goto (tgt := 102) dX12_gap_88 (by decide) ?_
        exact go_ret rfl dX12_gap_102
      · refine go_iload_n 0 dX12_gap_91 rfl rfl ?_
        refine go_if_ne (tgt := 100) dX12_gap_92 (by decide) (fun h19 => ?_) (fun h19 => ?_)
        · refine go_iload 1 dX12_gap_95 rfl ?_
          refine go_goto (tgt := 102) dX12_gap_97 (by decide) ?_
          exact go_ret rfl dX12_gap_102
        · refine go_iload 2 dX12_gap_100 rfl ?_
          exact go_ret rfl dX12_gap_102
set_option maxRecDepth 100000 in
set_option maxHeartbeats 4000000 in
theorem cX12_gap_c {d : Nat} (hd : 12 ≤ d) {a0 : Nat} {x1 : Int32} {x2 : Int32} {s0 : gH} {r : Int32} {s1 : gH} (h : fX12_gap a0 x1 x2 s0 = some (r, s1)) : gMt mX12_gap d [vr a0, vi x1, vi x2] s0 (some (vi r)) s1 :=
  gMt_of (rv := rvI) (by decide +kernel) (Nat.le_of_ble_eq_true rfl) ⟨_, rfl, rfl⟩ (fun _ => wX12_gap hd) h
def fX2_firstMissingFrom (a0 : Nat) (x1 : Int32) (s0 : gH) : Option (Int32 × gH) :=
  gb2 (gcv s0 a0 2 (fX2_search a0 a0 x1 2 s0)) fun r1 s2 =>
  some (r1, s2)
set_option maxRecDepth 100000 in
set_option maxHeartbeats 4000000 in
theorem wX2_firstMissingFrom {X : Nat × (Nat → Int32)} {d : Nat} (hd : 2 ≤ d) {a0 : Nat} {x1 : Int32} {s0 : gH} : gGo X rvI mX2_firstMissingFrom d 0 [(0, vr a0), (1, vi x1)] [] s0 (fX2_firstMissingFrom a0 x1 s0) := by
  unfold fX2_firstMissingFrom
  refine go_aload_n 0 dX2_firstMissingFrom_0 rfl rfl ?_
  refine go_aload_n 0 dX2_firstMissingFrom_1 rfl rfl ?_
  refine go_iload_n 1 dX2_firstMissingFrom_2 rfl rfl ?_
  refine go_iconst (v := 2) dX2_firstMissingFrom_3 (by decide) ?_
  refine go_callV_I (as := [vr a0, vi x1, vi 2]) gk_RX2_39 gmf_X2_search (by decide) rfl (by omega) rfl rfl (Nat.le_of_ble_eq_true rfl) dX2_firstMissingFrom_4 (fun _ _ h => cX2_search_c (by omega) h) (fun r1 s2 _ => ?_)
  exact go_ret rfl dX2_firstMissingFrom_7
set_option maxRecDepth 100000 in
set_option maxHeartbeats 4000000 in
theorem cX2_firstMissingFrom_c {d : Nat} (hd : 2 ≤ d) {a0 : Nat} {x1 : Int32} {s0 : gH} {r : Int32} {s1 : gH} (h : fX2_firstMissingFrom a0 x1 s0 = some (r, s1)) : gMt mX2_firstMissingFrom d [vr a0, vi x1] s0 (some (vi r)) s1 :=
  gMt_of (rv := rvI) (by decide +kernel) (Nat.le_of_ble_eq_true rfl) ⟨_, rfl, rfl⟩ (fun _ => wX2_firstMissingFrom hd) h
def gX11_free_L47  (x3 : Int32) (a4 : Nat) : Nat → Int32 → Int32 → gH → Option (Int32 × gH)
  | 0, _, _, _ => none
  | n + 1, x5, x6, s0 =>
    if x6 < 14610 then
      if x5 = -1 then
        some (-1, s0)
      else
        gb2 (gcv s0 a4 2 (fX2_firstFrom a4 x5 s0)) fun r15 s16 =>
        gjn (fun (z18 : Int32) (s19 : gH) =>
            if z18 - x5 < x3 then
              gb2 (gcv s19 a4 2 (fX2_firstMissingFrom a4 z18 s19)) fun r21 s22 =>
              gX11_free_L47 x3 a4 n r21 (x6 + 1) s22
            else
              some (x5, s19)
        ) fun j17 =>
        if r15 = -1 then
          j17 14610 s16
        else
          j17 r15 s16
    else
      some (-1, s0)
set_option maxRecDepth 100000 in
set_option maxHeartbeats 4000000 in
theorem wX11_free_L47 {X : Nat × (Nat → Int32)} {d : Nat} (hd : 6 ≤ d)  (x3 : Int32) (a4 : Nat) : ∀ (n : Nat) (x5 : Int32) (x6 : Int32) (s0 : gH), gGo X rvI mX11_free d 47 [(3, vi x3), (4, vr a4), (5, vi x5), (6, vi x6)] [] s0 (gX11_free_L47 x3 a4 n x5 x6 s0) := by
  intro n
  induction n with
  | zero => intros; exact go_none
  | succ n ih =>
    intro x5 x6 s0
    show gGo _ _ _ _ _ _ _ _ (gX11_free_L47 x3 a4 (n + 1) x5 x6 s0)
    unfold gX11_free_L47
    refine go_iload 3 dX11_free_47 rfl ?_
    refine go_sipush (v := 14610) dX11_free_49 (by decide) ?_
    refine go_icmp_ge (tgt := 113) dX11_free_52 (by decide) (fun h13 => ?_) (fun h13 => ?_)
    · refine go_iload 2 dX11_free_55 rfl ?_
      refine go_iconst (v := -1) dX11_free_57 (by decide) ?_
      refine go_icmp_eq (tgt := 113) dX11_free_58 (by decide) (fun h14 => ?_) (fun h14 => ?_)
      · refine go_iconst (v := -1) dX11_free_113 (by decide) ?_
        exact go_ret rfl dX11_free_114
      · refine go_aload 1 dX11_free_61 rfl ?_
        refine go_iload 2 dX11_free_63 rfl ?_
        refine go_callV_I (as := [vi x5]) gk_RX11_154 gmf_X2_firstFrom (by decide) rfl (by omega) rfl rfl (Nat.le_of_ble_eq_true rfl) dX11_free_65 (fun _ _ h => cX2_firstFrom_c (by omega) h) (fun r15 s16 _ => ?_)
        refine go_istore (L' := [(7, vi r15), (3, vi x3), (4, vr a4), (5, vi x5), (6, vi x6)]) dX11_free_68 (by decide) rfl ?_
        refine go_iload 0 dX11_free_70 rfl ?_
        refine go_iconst (v := -1) dX11_free_72 (by decide) ?_
        refine go_gjn (P := fun j17 => ∀ (z18 : Int32) (s19 : gH), gGo X rvI mX11_free d 84 [(3, vi x3), (4, vr a4), (5, vi x5), (6, vi x6)] [vi z18] s19 (j17 z18 s19)) (fun z18 s19 => ?_) (fun j17 hj17 => ?_)
        · refine go_istore (L' := [(8, vi z18), (3, vi x3), (4, vr a4), (5, vi x5), (6, vi x6)]) dX11_free_84 (by decide) rfl ?_
          refine go_iload 0 dX11_free_86 rfl ?_
          refine go_iload 3 dX11_free_88 rfl ?_
          refine go_isub dX11_free_90 ?_
          refine go_iload_n 1 dX11_free_91 rfl rfl ?_
          refine go_icmp_lt (tgt := 98) dX11_free_92 (by decide) (fun h20 => ?_) (fun h20 => ?_)
          · refine go_aload 2 dX11_free_98 rfl ?_
            refine go_iload 0 dX11_free_100 rfl ?_
            refine go_callV_I (as := [vi z18]) gk_RX11_166 gmf_X2_firstMissingFrom (by decide) rfl (by omega) rfl rfl (Nat.le_of_ble_eq_true rfl) dX11_free_102 (fun _ _ h => cX2_firstMissingFrom_c (by omega) h) (fun r21 s22 _ => ?_)
            refine go_istore (L' := [(5, vi r21), (8, vi z18), (3, vi x3), (4, vr a4), (6, vi x6)]) dX11_free_105 (by decide) rfl ?_
            refine go_iinc (v := 1) (L' := [(6, vi (x6 + 1)), (5, vi r21), (8, vi z18), (3, vi x3), (4, vr a4)]) 4 dX11_free_107 rfl (by decide) (by decide) rfl ?_
            refine go_goto (tgt := 47) dX11_free_110 (by decide) ?_
            exact go_sub [3, 4, 1, 0] (ih r21 (x6 + 1) s22) rfl
          · refine go_iload 3 dX11_free_95 rfl ?_
            exact go_ret rfl dX11_free_97
        · refine go_icmp_ne (tgt := 82) dX11_free_73 (by decide) (fun h23 => ?_) (fun h23 => ?_)
          · refine go_sipush (v := 14610) dX11_free_76 (by decide) ?_
            refine go_goto (tgt := 84) dX11_free_79 (by decide) ?_
            exact go_sub [1, 2, 3, 4] (hj17 14610 s16) rfl
          · refine go_iload 0 dX11_free_82 rfl ?_
            exact go_sub [1, 2, 3, 4] (hj17 r15 s16) rfl
    · refine go_iconst (v := -1) dX11_free_113 (by decide) ?_
      exact go_ret rfl dX11_free_114
def fX11_free (a0 : Nat) (x1 : Int32) (x2 : Int32) (x3 : Int32) (s0 : gH) : Option (Int32 × gH) :=
  (ggR s0 a0 11 3).bind fun v1 =>
  gb2 (gcv s0 v1 5 (fX5_daysOf v1 x1 s0)) fun r2 s3 =>
  if r2 = 0 then
    some (-1, s3)
  else
    gb2 (fX11_isDay x2 s3) fun r5 s6 =>
    if r5 = 0 then
      some (-1, s6)
    else
      if x3 < 1 then
        some (-1, s6)
      else
        if 999 < x3 then
          some (-1, s6)
        else
          gb2 (gcv s6 r2 2 (fX2_firstMissingFrom r2 x2 s6)) fun r10 s11 =>
          gX11_free_L47
            x3 r2 20000 r10 0 s11
set_option maxRecDepth 100000 in
set_option maxHeartbeats 4000000 in
theorem wX11_free {X : Nat × (Nat → Int32)} {d : Nat} (hd : 6 ≤ d) {a0 : Nat} {x1 : Int32} {x2 : Int32} {x3 : Int32} {s0 : gH} : gGo X rvI mX11_free d 0 [(0, vr a0), (1, vi x1), (2, vi x2), (3, vi x3)] [] s0 (fX11_free a0 x1 x2 x3 s0) := by
  unfold fX11_free
  refine go_aload_n 0 dX11_free_0 rfl rfl ?_
  refine go_getR gf_RX11_35 gcf_11 gft_11_3 dX11_free_1 (fun v1 => ?_)
  refine go_iload_n 1 dX11_free_4 rfl rfl ?_
  refine go_callV_R (as := [vi x1]) gk_RX11_145 gmf_X5_daysOf (by decide) rfl (by omega) rfl rfl (Nat.le_of_ble_eq_true rfl) dX11_free_5 (fun _ _ h => cX5_daysOf_c (by omega) h) (fun r2 s3 _ => ?_)
  refine go_astore (L' := [(4, vr r2), (0, vr a0), (1, vi x1), (2, vi x2), (3, vi x3)]) dX11_free_8 (by decide) rfl ?_
  refine go_aload 0 dX11_free_10 rfl ?_
  refine go_ifnull (tgt := 34) dX11_free_12 (by decide) (fun h4 => ?_) (fun h4 => ?_)
  · refine go_iconst (v := -1) dX11_free_34 (by decide) ?_
    exact go_ret rfl dX11_free_35
  · refine go_iload_n 3 dX11_free_15 rfl rfl ?_
    refine go_callS_I (as := [vi x2]) gk_RX11_139 gmf_X11_isDay (by omega) rfl rfl (Nat.le_of_ble_eq_true rfl) dX11_free_16 (fun _ _ h => cX11_isDay_c (by omega) h) (fun r5 s6 _ => ?_)
    refine go_if_eq (tgt := 34) dX11_free_19 (by decide) (fun h7 => ?_) (fun h7 => ?_)
    · refine go_iconst (v := -1) dX11_free_34 (by decide) ?_
      exact go_ret rfl dX11_free_35
    · refine go_iload_n 4 dX11_free_22 rfl rfl ?_
      refine go_iconst (v := 1) dX11_free_23 (by decide) ?_
      refine go_icmp_lt (tgt := 34) dX11_free_24 (by decide) (fun h8 => ?_) (fun h8 => ?_)
      · refine go_iconst (v := -1) dX11_free_34 (by decide) ?_
        exact go_ret rfl dX11_free_35
      · refine go_iload_n 4 dX11_free_27 rfl rfl ?_
        refine go_sipush (v := 999) dX11_free_28 (by decide) ?_
        refine go_icmp_le (tgt := 36) dX11_free_31 (by decide) (fun h9 => ?_) (fun h9 => ?_)
        · refine go_iconst (v := -1) dX11_free_34 (by decide) ?_
          exact go_ret rfl dX11_free_35
        · refine go_aload 0 dX11_free_36 rfl ?_
          refine go_iload_n 3 dX11_free_38 rfl rfl ?_
          refine go_callV_I (as := [vi x2]) gk_RX11_166 gmf_X2_firstMissingFrom (by decide) rfl (by omega) rfl rfl (Nat.le_of_ble_eq_true rfl) dX11_free_39 (fun _ _ h => cX2_firstMissingFrom_c (by omega) h) (fun r10 s11 _ => ?_)
          refine go_istore (L' := [(5, vi r10), (4, vr r2), (0, vr a0), (1, vi x1), (2, vi x2), (3, vi x3)]) dX11_free_42 (by decide) rfl ?_
          refine go_iconst (v := 0) dX11_free_44 (by decide) ?_
          refine go_istore (L' := [(6, vi 0), (5, vi r10), (4, vr r2), (0, vr a0), (1, vi x1), (2, vi x2), (3, vi x3)]) dX11_free_45 (by decide) rfl ?_
          refine go_sub [6, 2, 1, 0] (wX11_free_L47 hd x3 r2 20000 r10 0 s11) rfl
set_option maxRecDepth 100000 in
set_option maxHeartbeats 4000000 in
theorem cX11_free_c {d : Nat} (hd : 6 ≤ d) {a0 : Nat} {x1 : Int32} {x2 : Int32} {x3 : Int32} {s0 : gH} {r : Int32} {s1 : gH} (h : fX11_free a0 x1 x2 x3 s0 = some (r, s1)) : gMt mX11_free d [vr a0, vi x1, vi x2, vi x3] s0 (some (vi r)) s1 :=
  gMt_of (rv := rvI) (by decide +kernel) (Nat.le_of_ble_eq_true rfl) ⟨_, rfl, rfl⟩ (fun _ => wX11_free hd) h
def gX12_free_L35  (a0 : Nat) (x1 : Int32) (x3 : Int32) : Nat → Int32 → Int32 → gH → Option (Int32 × gH)
  | 0, _, _, _ => none
  | n + 1, x4, x5, s0 =>
    if x5 < 14610 then
      gb2 (gcv s0 a0 12 (fX12_isOn a0 x1 x5 s0)) fun r12 s13 =>
      gjn (fun (z15 : Int32) (s16 : gH) =>
          if z15 = x3 then
            some ((x5 - x3) + 1, s16)
          else
            gX12_free_L35 a0 x1 x3 n z15 (x5 + 1) s16
      ) fun j14 =>
      if r12 = 0 then
        j14 (x4 + 1) s13
      else
        j14 0 s13
    else
      some (-1, s0)
set_option maxRecDepth 100000 in
set_option maxHeartbeats 4000000 in
theorem wX12_free_L35 {X : Nat × (Nat → Int32)} {d : Nat} (hd : 12 ≤ d)  (a0 : Nat) (x1 : Int32) (x3 : Int32) : ∀ (n : Nat) (x4 : Int32) (x5 : Int32) (s0 : gH), gGo X rvI mX12_free d 35 [(0, vr a0), (1, vi x1), (3, vi x3), (4, vi x4), (5, vi x5)] [] s0 (gX12_free_L35 a0 x1 x3 n x4 x5 s0) := by
  intro n
  induction n with
  | zero => intros; exact go_none
  | succ n ih =>
    intro x4 x5 s0
    show gGo _ _ _ _ _ _ _ _ (gX12_free_L35 a0 x1 x3 (n + 1) x4 x5 s0)
    unfold gX12_free_L35
    refine go_iload 4 dX12_free_35 rfl ?_
    refine go_sipush (v := 14610) dX12_free_37 (by decide) ?_
    refine go_icmp_ge (tgt := 82) dX12_free_40 (by decide) (fun h11 => ?_) (fun h11 => ?_)
    · refine go_aload_n 0 dX12_free_43 rfl rfl ?_
      refine go_iload_n 1 dX12_free_44 rfl rfl ?_
      refine go_iload 4 dX12_free_45 rfl ?_
      refine go_callV_I (as := [vi x1, vi x5]) gk_RX12_437 gmf_X12_isOn (by decide) rfl (by omega) rfl rfl (Nat.le_of_ble_eq_true rfl) dX12_free_47 (fun _ _ h => cX12_isOn_c (by omega) h) (fun r12 s13 _ => ?_)
      refine go_gjn (P := fun j14 => ∀ (z15 : Int32) (s16 : gH), gGo X rvI mX12_free d 61 [(0, vr a0), (1, vi x1), (3, vi x3), (5, vi x5)] [vi z15] s16 (j14 z15 s16)) (fun z15 s16 => ?_) (fun j14 hj14 => ?_)
      · refine go_istore (L' := [(4, vi z15), (0, vr a0), (1, vi x1), (3, vi x3), (5, vi x5)]) dX12_free_61 (by decide) rfl ?_
        refine go_iload 0 dX12_free_63 rfl ?_
        refine go_iload_n 3 dX12_free_65 rfl rfl ?_
        refine go_icmp_ne (tgt := 76) dX12_free_66 (by decide) (fun h17 => ?_) (fun h17 => ?_)
        · refine go_iload 4 dX12_free_69 rfl ?_
          refine go_iload_n 3 dX12_free_71 rfl rfl ?_
          refine go_isub dX12_free_72 ?_
          refine go_iconst (v := 1) dX12_free_73 (by decide) ?_
          refine go_iadd dX12_free_74 ?_
          exact go_ret rfl dX12_free_75
        · refine go_iinc (v := 1) (L' := [(5, vi (x5 + 1)), (4, vi z15), (0, vr a0), (1, vi x1), (3, vi x3)]) 4 dX12_free_76 rfl (by decide) (by decide) rfl ?_
          refine go_goto (tgt := 35) dX12_free_79 (by decide) ?_
          exact go_sub [2, 3, 4, 1, 0] (ih z15 (x5 + 1) s16) rfl
      · refine go_if_eq (tgt := 57) dX12_free_50 (by decide) (fun h18 => ?_) (fun h18 => ?_)
        · refine go_iload 3 dX12_free_57 rfl ?_
          refine go_iconst (v := 1) dX12_free_59 (by decide) ?_
          refine go_iadd dX12_free_60 ?_
          exact go_sub [0, 1, 2, 4] (hj14 (x4 + 1) s13) rfl
        · refine go_iconst (v := 0) dX12_free_53 (by decide) ?_
          refine go_goto (tgt := 61) dX12_free_54 (by decide) ?_
          exact go_sub [0, 1, 2, 4] (hj14 0 s13) rfl
    · refine go_iconst (v := -1) dX12_free_82 (by decide) ?_
      exact go_ret rfl dX12_free_83
def fX12_free (a0 : Nat) (x1 : Int32) (x2 : Int32) (x3 : Int32) (s0 : gH) : Option (Int32 × gH) :=
  gb2 (fX12_isDay x2 s0) fun r1 s2 =>
  if r1 = 0 then
    some (-1, s2)
  else
    gb2 (fX12_isIn x3.toInt64 1 999 s2) fun r4 s5 =>
    if r4 = 0 then
      some (-1, s5)
    else
      gb2 (gcv s5 a0 12 (fX12_isAsked a0 x1 s5)) fun r7 s8 =>
      if r7 = 0 then
        some (-1, s8)
      else
        gX12_free_L35
          a0 x1 x3 20000 0 x2 s8
set_option maxRecDepth 100000 in
set_option maxHeartbeats 4000000 in
theorem wX12_free {X : Nat × (Nat → Int32)} {d : Nat} (hd : 12 ≤ d) {a0 : Nat} {x1 : Int32} {x2 : Int32} {x3 : Int32} {s0 : gH} : gGo X rvI mX12_free d 0 [(0, vr a0), (1, vi x1), (2, vi x2), (3, vi x3)] [] s0 (fX12_free a0 x1 x2 x3 s0) := by
  unfold fX12_free
  refine go_iload_n 2 dX12_free_0 rfl rfl ?_
  refine go_callS_I (as := [vi x2]) gk_RX12_387 gmf_X12_isDay (by omega) rfl rfl (Nat.le_of_ble_eq_true rfl) dX12_free_1 (fun _ _ h => cX12_isDay_c (by omega) h) (fun r1 s2 _ => ?_)
  refine go_if_eq (tgt := 27) dX12_free_4 (by decide) (fun h3 => ?_) (fun h3 => ?_)
  · refine go_iconst (v := -1) dX12_free_27 (by decide) ?_
    exact go_ret rfl dX12_free_28
  · refine go_iload_n 3 dX12_free_7 rfl rfl ?_
    refine go_i2l dX12_free_8 ?_
    refine go_lconst (v := 1) dX12_free_9 (by decide) ?_
    refine go_ldc2 gcl_RX12_447 dX12_free_10 ?_
    refine go_callS_I (as := [vl x3.toInt64, vl 1, vl 999]) gk_RX12_110 gmf_X12_isIn (by omega) rfl rfl (Nat.le_of_ble_eq_true rfl) dX12_free_13 (fun _ _ h => cX12_isIn_c (by omega) h) (fun r4 s5 _ => ?_)
    refine go_if_eq (tgt := 27) dX12_free_16 (by decide) (fun h6 => ?_) (fun h6 => ?_)
    · refine go_iconst (v := -1) dX12_free_27 (by decide) ?_
      exact go_ret rfl dX12_free_28
    · refine go_aload_n 0 dX12_free_19 rfl rfl ?_
      refine go_iload_n 1 dX12_free_20 rfl rfl ?_
      refine go_callV_I (as := [vi x1]) gk_RX12_434 gmf_X12_isAsked (by decide) rfl (by omega) rfl rfl (Nat.le_of_ble_eq_true rfl) dX12_free_21 (fun _ _ h => cX12_isAsked_c (by omega) h) (fun r7 s8 _ => ?_)
      refine go_if_ne (tgt := 29) dX12_free_24 (by decide) (fun h9 => ?_) (fun h9 => ?_)
      · refine go_iconst (v := -1) dX12_free_27 (by decide) ?_
        exact go_ret rfl dX12_free_28
      · refine go_iconst (v := 0) dX12_free_29 (by decide) ?_
        refine go_istore (L' := [(4, vi 0), (0, vr a0), (1, vi x1), (2, vi x2), (3, vi x3)]) dX12_free_30 (by decide) rfl ?_
        refine go_iload_n 3 dX12_free_32 rfl rfl ?_
        refine go_istore (L' := [(5, vi x2), (4, vi 0), (0, vr a0), (1, vi x1), (2, vi x2), (3, vi x3)]) dX12_free_33 (by decide) rfl ?_
        refine go_sub [2, 3, 5, 1, 0] (wX12_free_L35 hd a0 x1 x3 20000 0 x2 s8) rfl
set_option maxRecDepth 100000 in
set_option maxHeartbeats 4000000 in
theorem cX12_free_c {d : Nat} (hd : 12 ≤ d) {a0 : Nat} {x1 : Int32} {x2 : Int32} {x3 : Int32} {s0 : gH} {r : Int32} {s1 : gH} (h : fX12_free a0 x1 x2 x3 s0 = some (r, s1)) : gMt mX12_free d [vr a0, vi x1, vi x2, vi x3] s0 (some (vi r)) s1 :=
  gMt_of (rv := rvI) (by decide +kernel) (Nat.le_of_ble_eq_true rfl) ⟨_, rfl, rfl⟩ (fun _ => wX12_free hd) h
def fX11_meet (a0 : Nat) (x1 : Int32) (x2 : Int32) (x3 : Int32) (x4 : Int32) (s0 : gH) : Option (Int32 × gH) :=
  (ggR s0 a0 11 3).bind fun v1 =>
  gb2 (gcv s0 v1 5 (fX5_daysOf v1 x1 s0)) fun r2 s3 =>
  (ggR s3 a0 11 3).bind fun v4 =>
  gb2 (gcv s3 v4 5 (fX5_daysOf v4 x2 s3)) fun r5 s6 =>
  if r2 = 0 then
    some (-1, s6)
  else
    if r5 = 0 then
      some (-1, s6)
    else
      gb2 (fX11_isDay x3 s6) fun r9 s10 =>
      if r9 = 0 then
        some (-1, s10)
      else
        if x4 < 0 then
          some (-1, s10)
        else
          if 1 < x4 then
            some (-1, s10)
          else
            gjn (fun (z15 : Int32) (z16 : Int32) (b17 : Nat) (b18 : Nat) (s19 : gH) =>
                gb2 (gcv s19 b18 2 (fX2_search b18 b17 z16 z15 s19)) fun r20 s21 =>
                some (r20, s21)
            ) fun j14 =>
            if x4 = 0 then
              j14 0 x3 r5 r2 s10
            else
              j14 1 x3 r5 r2 s10
set_option maxRecDepth 100000 in
set_option maxHeartbeats 4000000 in
theorem wX11_meet {X : Nat × (Nat → Int32)} {d : Nat} (hd : 6 ≤ d) {a0 : Nat} {x1 : Int32} {x2 : Int32} {x3 : Int32} {x4 : Int32} {s0 : gH} : gGo X rvI mX11_meet d 0 [(0, vr a0), (1, vi x1), (2, vi x2), (3, vi x3), (4, vi x4)] [] s0 (fX11_meet a0 x1 x2 x3 x4 s0) := by
  unfold fX11_meet
  refine go_aload_n 0 dX11_meet_0 rfl rfl ?_
  refine go_getR gf_RX11_35 gcf_11 gft_11_3 dX11_meet_1 (fun v1 => ?_)
  refine go_iload_n 1 dX11_meet_4 rfl rfl ?_
  refine go_callV_R (as := [vi x1]) gk_RX11_145 gmf_X5_daysOf (by decide) rfl (by omega) rfl rfl (Nat.le_of_ble_eq_true rfl) dX11_meet_5 (fun _ _ h => cX5_daysOf_c (by omega) h) (fun r2 s3 _ => ?_)
  refine go_astore (L' := [(5, vr r2), (0, vr a0), (1, vi x1), (2, vi x2), (3, vi x3), (4, vi x4)]) dX11_meet_8 (by decide) rfl ?_
  refine go_aload_n 1 dX11_meet_10 rfl rfl ?_
  refine go_getR gf_RX11_35 gcf_11 gft_11_3 dX11_meet_11 (fun v4 => ?_)
  refine go_iload_n 3 dX11_meet_14 rfl rfl ?_
  refine go_callV_R (as := [vi x2]) gk_RX11_145 gmf_X5_daysOf (by decide) rfl (by omega) rfl rfl (Nat.le_of_ble_eq_true rfl) dX11_meet_15 (fun _ _ h => cX5_daysOf_c (by omega) h) (fun r5 s6 _ => ?_)
  refine go_astore (L' := [(6, vr r5), (5, vr r2), (0, vr a0), (1, vi x1), (2, vi x2), (3, vi x3), (4, vi x4)]) dX11_meet_18 (by decide) rfl ?_
  refine go_aload 1 dX11_meet_20 rfl ?_
  refine go_ifnull (tgt := 48) dX11_meet_22 (by decide) (fun h7 => ?_) (fun h7 => ?_)
  · refine go_iconst (v := -1) dX11_meet_48 (by decide) ?_
    exact go_ret rfl dX11_meet_49
  · refine go_aload 0 dX11_meet_25 rfl ?_
    refine go_ifnull (tgt := 48) dX11_meet_27 (by decide) (fun h8 => ?_) (fun h8 => ?_)
    · refine go_iconst (v := -1) dX11_meet_48 (by decide) ?_
      exact go_ret rfl dX11_meet_49
    · refine go_iload_n 5 dX11_meet_30 rfl rfl ?_
      refine go_callS_I (as := [vi x3]) gk_RX11_139 gmf_X11_isDay (by omega) rfl rfl (Nat.le_of_ble_eq_true rfl) dX11_meet_31 (fun _ _ h => cX11_isDay_c (by omega) h) (fun r9 s10 _ => ?_)
      refine go_if_eq (tgt := 48) dX11_meet_34 (by decide) (fun h11 => ?_) (fun h11 => ?_)
      · refine go_iconst (v := -1) dX11_meet_48 (by decide) ?_
        exact go_ret rfl dX11_meet_49
      · refine go_iload 6 dX11_meet_37 rfl ?_
        refine go_if_lt (tgt := 48) dX11_meet_39 (by decide) (fun h12 => ?_) (fun h12 => ?_)
        · refine go_iconst (v := -1) dX11_meet_48 (by decide) ?_
          exact go_ret rfl dX11_meet_49
        · refine go_iload 6 dX11_meet_42 rfl ?_
          refine go_iconst (v := 1) dX11_meet_44 (by decide) ?_
          refine go_icmp_le (tgt := 50) dX11_meet_45 (by decide) (fun h13 => ?_) (fun h13 => ?_)
          · refine go_iconst (v := -1) dX11_meet_48 (by decide) ?_
            exact go_ret rfl dX11_meet_49
          · refine go_aload 1 dX11_meet_50 rfl ?_
            refine go_aload 0 dX11_meet_52 rfl ?_
            refine go_iload_n 5 dX11_meet_54 rfl rfl ?_
            refine go_iload 6 dX11_meet_55 rfl ?_
            refine go_gjn (P := fun j14 => ∀ (z15 : Int32) (z16 : Int32) (b17 : Nat) (b18 : Nat) (s19 : gH), gGo X rvI mX11_meet d 65 [] [vi z15, vi z16, vr b17, vr b18] s19 (j14 z15 z16 b17 b18 s19)) (fun z15 z16 b17 b18 s19 => ?_) (fun j14 hj14 => ?_)
            · refine go_callV_I (as := [vr b17, vi z16, vi z15]) gk_RX11_169 gmf_X2_search (by decide) rfl (by omega) rfl rfl (Nat.le_of_ble_eq_true rfl) dX11_meet_65 (fun _ _ h => cX2_search_c (by omega) h) (fun r20 s21 _ => ?_)
              exact go_ret rfl dX11_meet_68
            · refine go_if_ne (tgt := 64) dX11_meet_57 (by decide) (fun h22 => ?_) (fun h22 => ?_)
              · refine go_iconst (v := 0) dX11_meet_60 (by decide) ?_
                refine go_goto (tgt := 65) dX11_meet_61 (by decide) ?_
                exact go_sub [] (hj14 0 x3 r5 r2 s10) rfl
              · refine go_iconst (v := 1) dX11_meet_64 (by decide) ?_
                exact go_sub [] (hj14 1 x3 r5 r2 s10) rfl
set_option maxRecDepth 100000 in
set_option maxHeartbeats 4000000 in
theorem cX11_meet_c {d : Nat} (hd : 6 ≤ d) {a0 : Nat} {x1 : Int32} {x2 : Int32} {x3 : Int32} {x4 : Int32} {s0 : gH} {r : Int32} {s1 : gH} (h : fX11_meet a0 x1 x2 x3 x4 s0 = some (r, s1)) : gMt mX11_meet d [vr a0, vi x1, vi x2, vi x3, vi x4] s0 (some (vi r)) s1 :=
  gMt_of (rv := rvI) (by decide +kernel) (Nat.le_of_ble_eq_true rfl) ⟨_, rfl, rfl⟩ (fun _ => wX11_meet hd) h
def gX12_meet_L39 (k72 : Int32 → gH → Option (Int32 × gH)) (a0 : Nat) (x1 : Int32) (x2 : Int32) (x4 : Int32) : Nat → Int32 → gH → Option (Int32 × gH)
  | 0, _, _ => none
  | n + 1, x5, s0 =>
    if x5 < 14610 then
      if x4 = 0 then
        gb2 (gcv s0 a0 12 (fX12_isOn a0 x1 x5 s0)) fun r16 s17 =>
        if r16 = 0 then
          gX12_meet_L39 k72 a0 x1 x2 x4 n (x5 + 1) s17
        else
          gb2 (gcv s17 a0 12 (fX12_isOn a0 x2 x5 s17)) fun r19 s20 =>
          if r19 = 0 then
            gX12_meet_L39 k72 a0 x1 x2 x4 n (x5 + 1) s20
          else
            k72 x5 s20
      else
        gb2 (gcv s0 a0 12 (fX12_isOn a0 x1 x5 s0)) fun r22 s23 =>
        gb2 (gcv s23 a0 12 (fX12_isOn a0 x2 x5 s23)) fun r24 s25 =>
        if r22 = r24 then
          gX12_meet_L39 k72 a0 x1 x2 x4 n (x5 + 1) s25
        else
          some (x5, s25)
    else
      some (-1, s0)
set_option maxRecDepth 100000 in
set_option maxHeartbeats 4000000 in
theorem wX12_meet_L39 {X : Nat × (Nat → Int32)} {d : Nat} (hd : 12 ≤ d) (k72 : Int32 → gH → Option (Int32 × gH)) (a0 : Nat) (x1 : Int32) (x2 : Int32) (x4 : Int32) (hk72 : ∀ (x5 : Int32) (s : gH), gGo X rvI mX12_meet d 72 [(5, vi x5)] [] s (k72 x5 s)) : ∀ (n : Nat) (x5 : Int32) (s0 : gH), gGo X rvI mX12_meet d 39 [(0, vr a0), (1, vi x1), (2, vi x2), (4, vi x4), (5, vi x5)] [] s0 (gX12_meet_L39 k72 a0 x1 x2 x4 n x5 s0) := by
  intro n
  induction n with
  | zero => intros; exact go_none
  | succ n ih =>
    intro x5 s0
    show gGo _ _ _ _ _ _ _ _ (gX12_meet_L39 k72 a0 x1 x2 x4 (n + 1) x5 s0)
    unfold gX12_meet_L39
    refine go_iload 4 dX12_meet_39 rfl ?_
    refine go_sipush (v := 14610) dX12_meet_41 (by decide) ?_
    refine go_icmp_ge (tgt := 101) dX12_meet_44 (by decide) (fun h14 => ?_) (fun h14 => ?_)
    · refine go_iload 3 dX12_meet_47 rfl ?_
      refine go_if_ne (tgt := 75) dX12_meet_49 (by decide) (fun h15 => ?_) (fun h15 => ?_)
      · refine go_aload_n 0 dX12_meet_52 rfl rfl ?_
        refine go_iload_n 1 dX12_meet_53 rfl rfl ?_
        refine go_iload 4 dX12_meet_54 rfl ?_
        refine go_callV_I (as := [vi x1, vi x5]) gk_RX12_437 gmf_X12_isOn (by decide) rfl (by omega) rfl rfl (Nat.le_of_ble_eq_true rfl) dX12_meet_56 (fun _ _ h => cX12_isOn_c (by omega) h) (fun r16 s17 _ => ?_)
        refine go_if_eq (tgt := 95) dX12_meet_59 (by decide) (fun h18 => ?_) (fun h18 => ?_)
        · refine go_iinc (v := 1) (L' := [(5, vi (x5 + 1)), (0, vr a0), (1, vi x1), (2, vi x2), (4, vi x4)]) 4 dX12_meet_95 rfl (by decide) (by decide) rfl ?_
          refine go_goto (tgt := 39) dX12_meet_98 (by decide) ?_
          exact go_sub [1, 2, 3, 4, 0] (ih (x5 + 1) s17) rfl
        · refine go_aload_n 0 dX12_meet_62 rfl rfl ?_
          refine go_iload_n 2 dX12_meet_63 rfl rfl ?_
          refine go_iload 4 dX12_meet_64 rfl ?_
          refine go_callV_I (as := [vi x2, vi x5]) gk_RX12_437 gmf_X12_isOn (by decide) rfl (by omega) rfl rfl (Nat.le_of_ble_eq_true rfl) dX12_meet_66 (fun _ _ h => cX12_isOn_c (by omega) h) (fun r19 s20 _ => ?_)
          refine go_if_eq (tgt := 95) dX12_meet_69 (by decide) (fun h21 => ?_) (fun h21 => ?_)
          · refine go_iinc (v := 1) (L' := [(5, vi (x5 + 1)), (0, vr a0), (1, vi x1), (2, vi x2), (4, vi x4)]) 4 dX12_meet_95 rfl (by decide) (by decide) rfl ?_
            refine go_goto (tgt := 39) dX12_meet_98 (by decide) ?_
            exact go_sub [1, 2, 3, 4, 0] (ih (x5 + 1) s20) rfl
          · exact go_sub [4] (hk72 x5 s20) rfl
      · refine go_aload_n 0 dX12_meet_75 rfl rfl ?_
        refine go_iload_n 1 dX12_meet_76 rfl rfl ?_
        refine go_iload 4 dX12_meet_77 rfl ?_
        refine go_callV_I (as := [vi x1, vi x5]) gk_RX12_437 gmf_X12_isOn (by decide) rfl (by omega) rfl rfl (Nat.le_of_ble_eq_true rfl) dX12_meet_79 (fun _ _ h => cX12_isOn_c (by omega) h) (fun r22 s23 _ => ?_)
        refine go_aload_n 0 dX12_meet_82 rfl rfl ?_
        refine go_iload_n 2 dX12_meet_83 rfl rfl ?_
        refine go_iload 4 dX12_meet_84 rfl ?_
        refine go_callV_I (as := [vi x2, vi x5]) gk_RX12_437 gmf_X12_isOn (by decide) rfl (by omega) rfl rfl (Nat.le_of_ble_eq_true rfl) dX12_meet_86 (fun _ _ h => cX12_isOn_c (by omega) h) (fun r24 s25 _ => ?_)
        refine go_icmp_eq (tgt := 95) dX12_meet_89 (by decide) (fun h26 => ?_) (fun h26 => ?_)
        · refine go_iinc (v := 1) (L' := [(5, vi (x5 + 1)), (0, vr a0), (1, vi x1), (2, vi x2), (4, vi x4)]) 4 dX12_meet_95 rfl (by decide) (by decide) rfl ?_
          refine go_goto (tgt := 39) dX12_meet_98 (by decide) ?_
          exact go_sub [1, 2, 3, 4, 0] (ih (x5 + 1) s25) rfl
        · refine go_iload 4 dX12_meet_92 rfl ?_
          exact go_ret rfl dX12_meet_94
    · refine go_iconst (v := -1) dX12_meet_101 (by decide) ?_
      exact go_ret rfl dX12_meet_102
def fX12_meet (a0 : Nat) (x1 : Int32) (x2 : Int32) (x3 : Int32) (x4 : Int32) (s0 : gH) : Option (Int32 × gH) :=
  gb2 (fX12_isDay x3 s0) fun r1 s2 =>
  if r1 = 0 then
    some (-1, s2)
  else
    gb2 (fX12_isIn x4.toInt64 0 1 s2) fun r4 s5 =>
    if r4 = 0 then
      some (-1, s5)
    else
      gb2 (gcv s5 a0 12 (fX12_isAsked a0 x1 s5)) fun r7 s8 =>
      if r7 = 0 then
        some (-1, s8)
      else
        gb2 (gcv s8 a0 12 (fX12_isAsked a0 x2 s8)) fun r10 s11 =>
        if r10 = 0 then
          some (-1, s11)
        else
          gX12_meet_L39
            (fun y27 s28 =>
              some (y27, s28))
            a0 x1 x2 x4 20000 x3 s11
set_option maxRecDepth 100000 in
set_option maxHeartbeats 4000000 in
theorem wX12_meet {X : Nat × (Nat → Int32)} {d : Nat} (hd : 12 ≤ d) {a0 : Nat} {x1 : Int32} {x2 : Int32} {x3 : Int32} {x4 : Int32} {s0 : gH} : gGo X rvI mX12_meet d 0 [(0, vr a0), (1, vi x1), (2, vi x2), (3, vi x3), (4, vi x4)] [] s0 (fX12_meet a0 x1 x2 x3 x4 s0) := by
  unfold fX12_meet
  refine go_iload_n 3 dX12_meet_0 rfl rfl ?_
  refine go_callS_I (as := [vi x3]) gk_RX12_387 gmf_X12_isDay (by omega) rfl rfl (Nat.le_of_ble_eq_true rfl) dX12_meet_1 (fun _ _ h => cX12_isDay_c (by omega) h) (fun r1 s2 _ => ?_)
  refine go_if_eq (tgt := 34) dX12_meet_4 (by decide) (fun h3 => ?_) (fun h3 => ?_)
  · refine go_iconst (v := -1) dX12_meet_34 (by decide) ?_
    exact go_ret rfl dX12_meet_35
  · refine go_iload 4 dX12_meet_7 rfl ?_
    refine go_i2l dX12_meet_9 ?_
    refine go_lconst (v := 0) dX12_meet_10 (by decide) ?_
    refine go_lconst (v := 1) dX12_meet_11 (by decide) ?_
    refine go_callS_I (as := [vl x4.toInt64, vl 0, vl 1]) gk_RX12_110 gmf_X12_isIn (by omega) rfl rfl (Nat.le_of_ble_eq_true rfl) dX12_meet_12 (fun _ _ h => cX12_isIn_c (by omega) h) (fun r4 s5 _ => ?_)
    refine go_if_eq (tgt := 34) dX12_meet_15 (by decide) (fun h6 => ?_) (fun h6 => ?_)
    · refine go_iconst (v := -1) dX12_meet_34 (by decide) ?_
      exact go_ret rfl dX12_meet_35
    · refine go_aload_n 0 dX12_meet_18 rfl rfl ?_
      refine go_iload_n 1 dX12_meet_19 rfl rfl ?_
      refine go_callV_I (as := [vi x1]) gk_RX12_434 gmf_X12_isAsked (by decide) rfl (by omega) rfl rfl (Nat.le_of_ble_eq_true rfl) dX12_meet_20 (fun _ _ h => cX12_isAsked_c (by omega) h) (fun r7 s8 _ => ?_)
      refine go_if_eq (tgt := 34) dX12_meet_23 (by decide) (fun h9 => ?_) (fun h9 => ?_)
      · refine go_iconst (v := -1) dX12_meet_34 (by decide) ?_
        exact go_ret rfl dX12_meet_35
      · refine go_aload_n 0 dX12_meet_26 rfl rfl ?_
        refine go_iload_n 2 dX12_meet_27 rfl rfl ?_
        refine go_callV_I (as := [vi x2]) gk_RX12_434 gmf_X12_isAsked (by decide) rfl (by omega) rfl rfl (Nat.le_of_ble_eq_true rfl) dX12_meet_28 (fun _ _ h => cX12_isAsked_c (by omega) h) (fun r10 s11 _ => ?_)
        refine go_if_ne (tgt := 36) dX12_meet_31 (by decide) (fun h12 => ?_) (fun h12 => ?_)
        · refine go_iconst (v := -1) dX12_meet_34 (by decide) ?_
          exact go_ret rfl dX12_meet_35
        · refine go_iload_n 3 dX12_meet_36 rfl rfl ?_
          refine go_istore (L' := [(5, vi x3), (0, vr a0), (1, vi x1), (2, vi x2), (3, vi x3), (4, vi x4)]) dX12_meet_37 (by decide) rfl ?_
          refine go_sub [1, 2, 3, 5, 0] (wX12_meet_L39 hd _ a0 x1 x2 x4 ?_ 20000 x3 s11) rfl
          intro y27 s28
          refine go_goto (tgt := 92) dX12_meet_72 (by decide) ?_
          refine go_iload 0 dX12_meet_92 rfl ?_
          exact go_ret rfl dX12_meet_94
set_option maxRecDepth 100000 in
set_option maxHeartbeats 4000000 in
theorem cX12_meet_c {d : Nat} (hd : 12 ≤ d) {a0 : Nat} {x1 : Int32} {x2 : Int32} {x3 : Int32} {x4 : Int32} {s0 : gH} {r : Int32} {s1 : gH} (h : fX12_meet a0 x1 x2 x3 x4 s0 = some (r, s1)) : gMt mX12_meet d [vr a0, vi x1, vi x2, vi x3, vi x4] s0 (some (vi r)) s1 :=
  gMt_of (rv := rvI) (by decide +kernel) (Nat.le_of_ble_eq_true rfl) ⟨_, rfl, rfl⟩ (fun _ => wX12_meet hd) h
def gX11_fares_L38  (x2 : Int32) (a3 : Nat) : Nat → Int32 → Int32 → Int32 → gH → Option (Int32 × gH)
  | 0, _, _, _, _ => none
  | n + 1, x4, x5, x6, s0 =>
    if x6 < 14610 then
      if x5 = -1 then
        some (x4, s0)
      else
        gjn (fun (z13 : Int32) (s14 : gH) =>
            gjn (fun (y16 : Int32) (s17 : gH) =>
                gb2 (gcv s17 a3 2 (fX2_firstFrom a3 (x5 + 1) s17)) fun r18 s19 =>
                gX11_fares_L38 x2 a3 n y16 r18 (x6 + 1) s19
            ) fun j15 =>
            if z13 = x2 then
              j15 (x4 + 1) s14
            else
              j15 x4 s14
        ) fun j12 =>
        if x2 < 7 then
          gb2 (fX0_weekdayOf x5 s0) fun r22 s23 =>
          j12 r22 s23
        else
          gb2 (fX0_monthOf x5 s0) fun r24 s25 =>
          j12 (r24 + 6) s25
    else
      some (x4, s0)
set_option maxRecDepth 100000 in
set_option maxHeartbeats 4000000 in
theorem wX11_fares_L38 {X : Nat × (Nat → Int32)} {d : Nat} (hd : 6 ≤ d)  (x2 : Int32) (a3 : Nat) : ∀ (n : Nat) (x4 : Int32) (x5 : Int32) (x6 : Int32) (s0 : gH), gGo X rvI mX11_fares d 38 [(2, vi x2), (3, vr a3), (4, vi x4), (5, vi x5), (6, vi x6)] [] s0 (gX11_fares_L38 x2 a3 n x4 x5 x6 s0) := by
  intro n
  induction n with
  | zero => intros; exact go_none
  | succ n ih =>
    intro x4 x5 x6 s0
    show gGo _ _ _ _ _ _ _ _ (gX11_fares_L38 x2 a3 (n + 1) x4 x5 x6 s0)
    unfold gX11_fares_L38
    refine go_iload 4 dX11_fares_38 rfl ?_
    refine go_sipush (v := 14610) dX11_fares_40 (by decide) ?_
    refine go_icmp_ge (tgt := 101) dX11_fares_43 (by decide) (fun h10 => ?_) (fun h10 => ?_)
    · refine go_iload 3 dX11_fares_46 rfl ?_
      refine go_iconst (v := -1) dX11_fares_48 (by decide) ?_
      refine go_icmp_eq (tgt := 101) dX11_fares_49 (by decide) (fun h11 => ?_) (fun h11 => ?_)
      · refine go_iload 2 dX11_fares_101 rfl ?_
        exact go_ret rfl dX11_fares_103
      · refine go_iload_n 0 dX11_fares_52 rfl rfl ?_
        refine go_bipush (v := 7) dX11_fares_53 (by decide) ?_
        refine go_gjn (P := fun j12 => ∀ (z13 : Int32) (s14 : gH), gGo X rvI mX11_fares d 74 [(2, vi x2), (3, vr a3), (4, vi x4), (5, vi x5), (6, vi x6)] [vi z13] s14 (j12 z13 s14)) (fun z13 s14 => ?_) (fun j12 hj12 => ?_)
        · refine go_istore (L' := [(7, vi z13), (2, vi x2), (3, vr a3), (4, vi x4), (5, vi x5), (6, vi x6)]) dX11_fares_74 (by decide) rfl ?_
          refine go_iload 0 dX11_fares_76 rfl ?_
          refine go_iload_n 1 dX11_fares_78 rfl rfl ?_
          refine go_gjn (P := fun j15 => ∀ (y16 : Int32) (s17 : gH), gGo X rvI mX11_fares d 85 [(2, vi x2), (3, vr a3), (4, vi y16), (5, vi x5), (6, vi x6)] [] s17 (j15 y16 s17)) (fun y16 s17 => ?_) (fun j15 hj15 => ?_)
          · refine go_aload_n 1 dX11_fares_85 rfl rfl ?_
            refine go_iload 3 dX11_fares_86 rfl ?_
            refine go_iconst (v := 1) dX11_fares_88 (by decide) ?_
            refine go_iadd dX11_fares_89 ?_
            refine go_callV_I (as := [vi (x5 + 1)]) gk_RX11_154 gmf_X2_firstFrom (by decide) rfl (by omega) rfl rfl (Nat.le_of_ble_eq_true rfl) dX11_fares_90 (fun _ _ h => cX2_firstFrom_c (by omega) h) (fun r18 s19 _ => ?_)
            refine go_istore (L' := [(5, vi r18), (2, vi x2), (3, vr a3), (4, vi y16), (6, vi x6)]) dX11_fares_93 (by decide) rfl ?_
            refine go_iinc (v := 1) (L' := [(6, vi (x6 + 1)), (5, vi r18), (2, vi x2), (3, vr a3), (4, vi y16)]) 4 dX11_fares_95 rfl (by decide) (by decide) rfl ?_
            refine go_goto (tgt := 38) dX11_fares_98 (by decide) ?_
            exact go_sub [2, 3, 4, 1, 0] (ih y16 r18 (x6 + 1) s19) rfl
          · refine go_icmp_ne (tgt := 85) dX11_fares_79 (by decide) (fun h20 => ?_) (fun h20 => ?_)
            · refine go_iinc (v := 1) (L' := [(4, vi (x4 + 1)), (7, vi z13), (2, vi x2), (3, vr a3), (5, vi x5), (6, vi x6)]) 3 dX11_fares_82 rfl (by decide) (by decide) rfl ?_
              exact go_sub [2, 3, 0, 4, 5] (hj15 (x4 + 1) s14) rfl
            · exact go_sub [1, 2, 3, 4, 5] (hj15 x4 s14) rfl
        · refine go_icmp_ge (tgt := 66) dX11_fares_55 (by decide) (fun h21 => ?_) (fun h21 => ?_)
          · refine go_iload 3 dX11_fares_58 rfl ?_
            refine go_callS_I (as := [vi x5]) gk_RX11_173 gmf_X0_weekdayOf (by omega) rfl rfl (Nat.le_of_ble_eq_true rfl) dX11_fares_60 (fun _ _ h => cX0_weekdayOf_c (by omega) h) (fun r22 s23 _ => ?_)
            refine go_goto (tgt := 74) dX11_fares_63 (by decide) ?_
            exact go_sub [0, 1, 2, 3, 4] (hj12 r22 s23) rfl
          · refine go_iload 3 dX11_fares_66 rfl ?_
            refine go_callS_I (as := [vi x5]) gk_RX11_176 gmf_X0_monthOf (by omega) rfl rfl (Nat.le_of_ble_eq_true rfl) dX11_fares_68 (fun _ _ h => cX0_monthOf_c (by omega) h) (fun r24 s25 _ => ?_)
            refine go_bipush (v := 6) dX11_fares_71 (by decide) ?_
            refine go_iadd dX11_fares_73 ?_
            exact go_sub [0, 1, 2, 3, 4] (hj12 (r24 + 6) s25) rfl
    · refine go_iload 2 dX11_fares_101 rfl ?_
      exact go_ret rfl dX11_fares_103
def fX11_fares (a0 : Nat) (x1 : Int32) (x2 : Int32) (s0 : gH) : Option (Int32 × gH) :=
  (ggR s0 a0 11 3).bind fun v1 =>
  gb2 (gcv s0 v1 5 (fX5_daysOf v1 x1 s0)) fun r2 s3 =>
  if r2 = 0 then
    some (-1, s3)
  else
    if x2 < 0 then
      some (-1, s3)
    else
      if 18 < x2 then
        some (-1, s3)
      else
        gb2 (gcv s3 r2 2 (fX2_firstFrom r2 0 s3)) fun r7 s8 =>
        gX11_fares_L38
          x2 r2 20000 0 r7 0 s8
set_option maxRecDepth 100000 in
set_option maxHeartbeats 4000000 in
theorem wX11_fares {X : Nat × (Nat → Int32)} {d : Nat} (hd : 6 ≤ d) {a0 : Nat} {x1 : Int32} {x2 : Int32} {s0 : gH} : gGo X rvI mX11_fares d 0 [(0, vr a0), (1, vi x1), (2, vi x2)] [] s0 (fX11_fares a0 x1 x2 s0) := by
  unfold fX11_fares
  refine go_aload_n 0 dX11_fares_0 rfl rfl ?_
  refine go_getR gf_RX11_35 gcf_11 gft_11_3 dX11_fares_1 (fun v1 => ?_)
  refine go_iload_n 1 dX11_fares_4 rfl rfl ?_
  refine go_callV_R (as := [vi x1]) gk_RX11_145 gmf_X5_daysOf (by decide) rfl (by omega) rfl rfl (Nat.le_of_ble_eq_true rfl) dX11_fares_5 (fun _ _ h => cX5_daysOf_c (by omega) h) (fun r2 s3 _ => ?_)
  refine go_astore_n (L' := [(3, vr r2), (0, vr a0), (1, vi x1), (2, vi x2)]) dX11_fares_8 rfl (by decide) rfl ?_
  refine go_aload_n 0 dX11_fares_9 rfl rfl ?_
  refine go_ifnull (tgt := 23) dX11_fares_10 (by decide) (fun h4 => ?_) (fun h4 => ?_)
  · refine go_iconst (v := -1) dX11_fares_23 (by decide) ?_
    exact go_ret rfl dX11_fares_24
  · refine go_iload_n 3 dX11_fares_13 rfl rfl ?_
    refine go_if_lt (tgt := 23) dX11_fares_14 (by decide) (fun h5 => ?_) (fun h5 => ?_)
    · refine go_iconst (v := -1) dX11_fares_23 (by decide) ?_
      exact go_ret rfl dX11_fares_24
    · refine go_iload_n 3 dX11_fares_17 rfl rfl ?_
      refine go_bipush (v := 18) dX11_fares_18 (by decide) ?_
      refine go_icmp_le (tgt := 25) dX11_fares_20 (by decide) (fun h6 => ?_) (fun h6 => ?_)
      · refine go_iconst (v := -1) dX11_fares_23 (by decide) ?_
        exact go_ret rfl dX11_fares_24
      · refine go_iconst (v := 0) dX11_fares_25 (by decide) ?_
        refine go_istore (L' := [(4, vi 0), (3, vr r2), (0, vr a0), (1, vi x1), (2, vi x2)]) dX11_fares_26 (by decide) rfl ?_
        refine go_aload_n 1 dX11_fares_28 rfl rfl ?_
        refine go_iconst (v := 0) dX11_fares_29 (by decide) ?_
        refine go_callV_I (as := [vi 0]) gk_RX11_154 gmf_X2_firstFrom (by decide) rfl (by omega) rfl rfl (Nat.le_of_ble_eq_true rfl) dX11_fares_30 (fun _ _ h => cX2_firstFrom_c (by omega) h) (fun r7 s8 _ => ?_)
        refine go_istore (L' := [(5, vi r7), (4, vi 0), (3, vr r2), (0, vr a0), (1, vi x1), (2, vi x2)]) dX11_fares_33 (by decide) rfl ?_
        refine go_iconst (v := 0) dX11_fares_35 (by decide) ?_
        refine go_istore (L' := [(6, vi 0), (5, vi r7), (4, vi 0), (3, vr r2), (0, vr a0), (1, vi x1), (2, vi x2)]) dX11_fares_36 (by decide) rfl ?_
        refine go_sub [6, 3, 2, 1, 0] (wX11_fares_L38 hd x2 r2 20000 0 r7 0 s8) rfl
set_option maxRecDepth 100000 in
set_option maxHeartbeats 4000000 in
theorem cX11_fares_c {d : Nat} (hd : 6 ≤ d) {a0 : Nat} {x1 : Int32} {x2 : Int32} {s0 : gH} {r : Int32} {s1 : gH} (h : fX11_fares a0 x1 x2 s0 = some (r, s1)) : gMt mX11_fares d [vr a0, vi x1, vi x2] s0 (some (vi r)) s1 :=
  gMt_of (rv := rvI) (by decide +kernel) (Nat.le_of_ble_eq_true rfl) ⟨_, rfl, rfl⟩ (fun _ => wX11_fares hd) h
def gX12_fares_L27  (a0 : Nat) (x1 : Int32) (x2 : Int32) : Nat → Int32 → Int32 → gH → Option (Int32 × gH)
  | 0, _, _, _ => none
  | n + 1, x3, x4, s0 =>
    if x4 < 14610 then
      gb2 (gcv s0 a0 12 (fX12_isOn a0 x1 x4 s0)) fun r9 s10 =>
      gjn (fun (z12 : Int32) (z13 : Int32) (s14 : gH) =>
          gb2 (fX12_flag z12 s14) fun r15 s16 =>
          glet (z13 + r15) fun y17 =>
          gX12_fares_L27 a0 x1 x2 n y17 (x4 + 1) s16
      ) fun j11 =>
      if r9 = 0 then
        j11 0 x3 s10
      else
        if x2 < 7 then
          gb2 (fX12_weekdayOf x4 s10) fun r20 s21 =>
          if r20 = x2 then
            j11 1 x3 s21
          else
            j11 0 x3 s21
        else
          (ggR s10 a0 12 14).bind fun v23 =>
          (gaI s10 v23 2 x4).bind fun v24 =>
          if v24 = x2 - 6 then
            j11 1 x3 s10
          else
            j11 0 x3 s10
    else
      some (x3, s0)
set_option maxRecDepth 100000 in
set_option maxHeartbeats 4000000 in
theorem wX12_fares_L27 {X : Nat × (Nat → Int32)} {d : Nat} (hd : 12 ≤ d)  (a0 : Nat) (x1 : Int32) (x2 : Int32) : ∀ (n : Nat) (x3 : Int32) (x4 : Int32) (s0 : gH), gGo X rvI mX12_fares d 27 [(0, vr a0), (1, vi x1), (2, vi x2), (3, vi x3), (4, vi x4)] [] s0 (gX12_fares_L27 a0 x1 x2 n x3 x4 s0) := by
  intro n
  induction n with
  | zero => intros; exact go_none
  | succ n ih =>
    intro x3 x4 s0
    show gGo _ _ _ _ _ _ _ _ (gX12_fares_L27 a0 x1 x2 (n + 1) x3 x4 s0)
    unfold gX12_fares_L27
    refine go_iload 4 dX12_fares_27 rfl ?_
    refine go_sipush (v := 14610) dX12_fares_29 (by decide) ?_
    refine go_icmp_ge (tgt := 94) dX12_fares_32 (by decide) (fun h8 => ?_) (fun h8 => ?_)
    · refine go_iload_n 3 dX12_fares_35 rfl rfl ?_
      refine go_aload_n 0 dX12_fares_36 rfl rfl ?_
      refine go_iload_n 1 dX12_fares_37 rfl rfl ?_
      refine go_iload 4 dX12_fares_38 rfl ?_
      refine go_callV_I (as := [vi x1, vi x4]) gk_RX12_437 gmf_X12_isOn (by decide) rfl (by omega) rfl rfl (Nat.le_of_ble_eq_true rfl) dX12_fares_40 (fun _ _ h => cX12_isOn_c (by omega) h) (fun r9 s10 _ => ?_)
      refine go_gjn (P := fun j11 => ∀ (z12 : Int32) (z13 : Int32) (s14 : gH), gGo X rvI mX12_fares d 83 [(0, vr a0), (1, vi x1), (2, vi x2), (4, vi x4)] [vi z12, vi z13] s14 (j11 z12 z13 s14)) (fun z12 z13 s14 => ?_) (fun j11 hj11 => ?_)
      · refine go_callS_I (as := [vi z12]) gk_RX12_370 gmf_X12_flag (by omega) rfl rfl (Nat.le_of_ble_eq_true rfl) dX12_fares_83 (fun _ _ h => cX12_flag_c (by omega) h) (fun r15 s16 _ => ?_)
        refine go_iadd dX12_fares_86 ?_
        refine go_istore_n_l (L' := fun y17 => [(3, vi y17), (0, vr a0), (1, vi x1), (2, vi x2), (4, vi x4)]) dX12_fares_87 rfl (by decide) (fun _ => rfl) (fun y17 => ?_)
        refine go_iinc (v := 1) (L' := [(4, vi (x4 + 1)), (3, vi y17), (0, vr a0), (1, vi x1), (2, vi x2)]) 4 dX12_fares_88 rfl (by decide) (by decide) rfl ?_
        refine go_goto (tgt := 27) dX12_fares_91 (by decide) ?_
        exact go_sub [2, 3, 4, 1, 0] (ih y17 (x4 + 1) s16) rfl
      · refine go_if_eq (tgt := 82) dX12_fares_43 (by decide) (fun h18 => ?_) (fun h18 => ?_)
        · refine go_iconst (v := 0) dX12_fares_82 (by decide) ?_
          exact go_sub [0, 1, 2, 4] (hj11 0 x3 s10) rfl
        · refine go_iload_n 2 dX12_fares_46 rfl rfl ?_
          refine go_bipush (v := 7) dX12_fares_47 (by decide) ?_
          refine go_icmp_ge (tgt := 64) dX12_fares_49 (by decide) (fun h19 => ?_) (fun h19 => ?_)
          · refine go_iload 4 dX12_fares_52 rfl ?_
            refine go_callS_I (as := [vi x4]) gk_RX12_327 gmf_X12_weekdayOf (by omega) rfl rfl (Nat.le_of_ble_eq_true rfl) dX12_fares_54 (fun _ _ h => cX12_weekdayOf_c (by omega) h) (fun r20 s21 _ => ?_)
            refine go_iload_n 2 dX12_fares_57 rfl rfl ?_
            refine go_icmp_ne (tgt := 82) dX12_fares_58 (by decide) (fun h22 => ?_) (fun h22 => ?_)
            · refine go_goto (tgt := 78) dX12_fares_61 (by decide) ?_
              refine go_iconst (v := 1) dX12_fares_78 (by decide) ?_
              refine go_goto (tgt := 83) dX12_fares_79 (by decide) ?_
              exact go_sub [0, 1, 2, 4] (hj11 1 x3 s21) rfl
            · refine go_iconst (v := 0) dX12_fares_82 (by decide) ?_
              exact go_sub [0, 1, 2, 4] (hj11 0 x3 s21) rfl
          · refine go_aload_n 0 dX12_fares_64 rfl rfl ?_
            refine go_getR gf_RX12_27 gcf_12 gft_12_14 dX12_fares_65 (fun v23 => ?_)
            refine go_iload 4 dX12_fares_68 rfl ?_
            refine go_iaload dX12_fares_70 (fun v24 _ => ?_)
            refine go_iload_n 2 dX12_fares_71 rfl rfl ?_
            refine go_bipush (v := 6) dX12_fares_72 (by decide) ?_
            refine go_isub dX12_fares_74 ?_
            refine go_icmp_ne (tgt := 82) dX12_fares_75 (by decide) (fun h25 => ?_) (fun h25 => ?_)
            · refine go_iconst (v := 1) dX12_fares_78 (by decide) ?_
              refine go_goto (tgt := 83) dX12_fares_79 (by decide) ?_
              exact go_sub [0, 1, 2, 4] (hj11 1 x3 s10) rfl
            · refine go_iconst (v := 0) dX12_fares_82 (by decide) ?_
              exact go_sub [0, 1, 2, 4] (hj11 0 x3 s10) rfl
    · refine go_iload_n 3 dX12_fares_94 rfl rfl ?_
      exact go_ret rfl dX12_fares_95
def fX12_fares (a0 : Nat) (x1 : Int32) (x2 : Int32) (s0 : gH) : Option (Int32 × gH) :=
  gb2 (fX12_isIn x2.toInt64 0 18 s0) fun r1 s2 =>
  if r1 = 0 then
    some (-1, s2)
  else
    gb2 (gcv s2 a0 12 (fX12_isAsked a0 x1 s2)) fun r4 s5 =>
    if r4 = 0 then
      some (-1, s5)
    else
      gX12_fares_L27
        a0 x1 x2 20000 0 0 s5
set_option maxRecDepth 100000 in
set_option maxHeartbeats 4000000 in
theorem wX12_fares {X : Nat × (Nat → Int32)} {d : Nat} (hd : 12 ≤ d) {a0 : Nat} {x1 : Int32} {x2 : Int32} {s0 : gH} : gGo X rvI mX12_fares d 0 [(0, vr a0), (1, vi x1), (2, vi x2)] [] s0 (fX12_fares a0 x1 x2 s0) := by
  unfold fX12_fares
  refine go_iload_n 2 dX12_fares_0 rfl rfl ?_
  refine go_i2l dX12_fares_1 ?_
  refine go_lconst (v := 0) dX12_fares_2 (by decide) ?_
  refine go_ldc2 gcl_RX12_449 dX12_fares_3 ?_
  refine go_callS_I (as := [vl x2.toInt64, vl 0, vl 18]) gk_RX12_110 gmf_X12_isIn (by omega) rfl rfl (Nat.le_of_ble_eq_true rfl) dX12_fares_6 (fun _ _ h => cX12_isIn_c (by omega) h) (fun r1 s2 _ => ?_)
  refine go_if_eq (tgt := 20) dX12_fares_9 (by decide) (fun h3 => ?_) (fun h3 => ?_)
  · refine go_iconst (v := -1) dX12_fares_20 (by decide) ?_
    exact go_ret rfl dX12_fares_21
  · refine go_aload_n 0 dX12_fares_12 rfl rfl ?_
    refine go_iload_n 1 dX12_fares_13 rfl rfl ?_
    refine go_callV_I (as := [vi x1]) gk_RX12_434 gmf_X12_isAsked (by decide) rfl (by omega) rfl rfl (Nat.le_of_ble_eq_true rfl) dX12_fares_14 (fun _ _ h => cX12_isAsked_c (by omega) h) (fun r4 s5 _ => ?_)
    refine go_if_ne (tgt := 22) dX12_fares_17 (by decide) (fun h6 => ?_) (fun h6 => ?_)
    · refine go_iconst (v := -1) dX12_fares_20 (by decide) ?_
      exact go_ret rfl dX12_fares_21
    · refine go_iconst (v := 0) dX12_fares_22 (by decide) ?_
      refine go_istore_n (L' := [(3, vi 0), (0, vr a0), (1, vi x1), (2, vi x2)]) dX12_fares_23 rfl (by decide) rfl ?_
      refine go_iconst (v := 0) dX12_fares_24 (by decide) ?_
      refine go_istore (L' := [(4, vi 0), (3, vi 0), (0, vr a0), (1, vi x1), (2, vi x2)]) dX12_fares_25 (by decide) rfl ?_
      refine go_sub [2, 3, 4, 1, 0] (wX12_fares_L27 hd a0 x1 x2 20000 0 0 s5) rfl
set_option maxRecDepth 100000 in
set_option maxHeartbeats 4000000 in
theorem cX12_fares_c {d : Nat} (hd : 12 ≤ d) {a0 : Nat} {x1 : Int32} {x2 : Int32} {s0 : gH} {r : Int32} {s1 : gH} (h : fX12_fares a0 x1 x2 s0 = some (r, s1)) : gMt mX12_fares d [vr a0, vi x1, vi x2] s0 (some (vi r)) s1 :=
  gMt_of (rv := rvI) (by decide +kernel) (Nat.le_of_ble_eq_true rfl) ⟨_, rfl, rfl⟩ (fun _ => wX12_fares hd) h
def gX8_goesBy (a0 : Nat) (x1 : Int32) (s0 : gH) : Option (Int32 × gH) :=
  (ggI s0 a0 8 1).bind fun v1 =>
  (ggI s0 a0 8 2).bind fun v2 =>
  gb2 (fX0_periodOf v1 v2 s0) fun r3 s4 =>
  glet (x1 - r3) fun y5 =>
  if y5 < 0 then
    some (0, s4)
  else
    (ggI s4 a0 8 0).bind fun v7 =>
    if 0 < v7 then
      (ggI s4 a0 8 0).bind fun v9 =>
      if v9 = 0 then none else
      if gIrem y5 v9 = 0 then
        some (1, s4)
      else
        some (0, s4)
    else
      some (0, s4)
def fX8_goesBy (a0 : Nat) (x1 : Int32) (s0 : gH) : Option (Int32 × gH) := gzr (gX8_goesBy a0 x1 s0)
set_option maxRecDepth 100000 in
set_option maxHeartbeats 4000000 in
theorem wX8_goesBy {X : Nat × (Nat → Int32)} {d : Nat} (hd : 3 ≤ d) {a0 : Nat} {x1 : Int32} {s0 : gH} : gGo X rvI mX8_goesBy d 0 [(0, vr a0), (1, vi x1)] [] s0 (gX8_goesBy a0 x1 s0) := by
  unfold gX8_goesBy
  refine go_iload_n 1 dX8_goesBy_0 rfl rfl ?_
  refine go_aload_n 0 dX8_goesBy_1 rfl rfl ?_
  refine go_getI gf_RX8_89 gcf_8 gft_8_1 dX8_goesBy_2 (fun v1 => ?_)
  refine go_aload_n 0 dX8_goesBy_5 rfl rfl ?_
  refine go_getI gf_RX8_54 gcf_8 gft_8_2 dX8_goesBy_6 (fun v2 => ?_)
  refine go_callS_I (as := [vi v1, vi v2]) gk_RX8_92 gmf_X0_periodOf (by omega) rfl rfl (Nat.le_of_ble_eq_true rfl) dX8_goesBy_9 (fun _ _ h => cX0_periodOf_c (by omega) h) (fun r3 s4 _ => ?_)
  refine go_isub dX8_goesBy_12 ?_
  refine go_istore_n_l (L' := fun y5 => [(2, vi y5), (0, vr a0), (1, vi x1)]) dX8_goesBy_13 rfl (by decide) (fun _ => rfl) (fun y5 => ?_)
  refine go_iload_n 0 dX8_goesBy_14 rfl rfl ?_
  refine go_if_lt (tgt := 38) dX8_goesBy_15 (by decide) (fun h6 => ?_) (fun h6 => ?_)
  · refine go_iconst (v := 0) dX8_goesBy_38 (by decide) ?_
    exact go_ret rfl dX8_goesBy_39
  · refine go_aload_n 1 dX8_goesBy_18 rfl rfl ?_
    refine go_getI gf_RX8_86 gcf_8 gft_8_0 dX8_goesBy_19 (fun v7 => ?_)
    refine go_if_le (tgt := 38) dX8_goesBy_22 (by decide) (fun h8 => ?_) (fun h8 => ?_)
    · refine go_iload_n 0 dX8_goesBy_25 rfl rfl ?_
      refine go_aload_n 1 dX8_goesBy_26 rfl rfl ?_
      refine go_getI gf_RX8_86 gcf_8 gft_8_0 dX8_goesBy_27 (fun v9 => ?_)
      refine go_irem dX8_goesBy_30 (fun _ => ?_)
      refine go_if_ne (tgt := 38) dX8_goesBy_31 (by decide) (fun h10 => ?_) (fun h10 => ?_)
      · refine go_iconst (v := 1) dX8_goesBy_34 (by decide) ?_
        refine go_goto (tgt := 39) dX8_goesBy_35 (by decide) ?_
        exact go_ret rfl dX8_goesBy_39
      · refine go_iconst (v := 0) dX8_goesBy_38 (by decide) ?_
        exact go_ret rfl dX8_goesBy_39
    · refine go_iconst (v := 0) dX8_goesBy_38 (by decide) ?_
      exact go_ret rfl dX8_goesBy_39
set_option maxRecDepth 100000 in
set_option maxHeartbeats 4000000 in
theorem cX8_goesBy_c {d : Nat} (hd : 3 ≤ d) {a0 : Nat} {x1 : Int32} {s0 : gH} {r : Int32} {s1 : gH} (h : fX8_goesBy a0 x1 s0 = some (r, s1)) : gMt mX8_goesBy d [vr a0, vi x1] s0 (some (vi r)) s1 := by
  obtain ⟨h1, h2⟩ := gzr_some h
  exact gMt_of (rv := rvI) (by decide +kernel) (Nat.le_of_ble_eq_true rfl) ⟨_, rfl, gnarZ h2⟩ (fun _ => wX8_goesBy hd) h1
