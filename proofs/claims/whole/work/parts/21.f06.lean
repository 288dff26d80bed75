/-! walks, written by a program -/
def fX12_date (a0 : Nat) (s0 : gH) : Option (Int32 × gH) :=
  gb2 (gcv s0 a0 12 (fX12_number a0 2000 2039 s0)) fun r1 s2 =>
  gb2 (gcv s2 a0 12 (fX12_asksSign a0 45 s2)) fun r3 s4 =>
  gb2 (gcv s4 a0 12 (fX12_number a0 1 12 s4)) fun r5 s6 =>
  gb2 (gcv s6 a0 12 (fX12_asksSign a0 45 s6)) fun r7 s8 =>
  gb2 (gcv s8 a0 12 (fX12_number a0 1 31 s8)) fun r9 s10 =>
  (ggI s10 a0 12 5).bind fun v11 =>
  gjn (fun (s13 : gH) =>
      (ggI s13 a0 12 5).bind fun v14 =>
      if v14 = 0 then
        gb2 (gcv s13 a0 12 (fX12_dayOf a0 r1 r5 r9 s13)) fun r16 s17 =>
        some (r16, s17)
      else
        some (0, s13)
  ) fun j12 =>
  if v11 = 0 then
    gb2 (fX12_longMonth r1 r5 s10) fun r19 s20 =>
    if r19 < r9 then
      (ggI s20 a0 12 10).bind fun v22 =>
      gb2 (gcv s20 a0 12 (fX12_fail a0 2 v22 s20)) fun r23 s24 =>
      j12 s24
    else
      j12 s20
  else
    j12 s10
set_option maxRecDepth 100000 in
set_option maxHeartbeats 4000000 in
theorem wX12_date {X : Nat × (Nat → Int32)} {d : Nat} (hd : 4 ≤ d) {a0 : Nat} {s0 : gH} : gGo X rvI mX12_date d 0 [(0, vr a0)] [] s0 (fX12_date a0 s0) := by
  unfold fX12_date
  refine go_aload_n 0 dX12_date_0 rfl rfl ?_
  refine go_sipush (v := 2000) dX12_date_1 (by decide) ?_
  refine go_sipush (v := 2039) dX12_date_4 (by decide) ?_
  refine go_callV_I (as := [vi 2000, vi 2039]) gk_RX12_198 gmf_X12_number (by decide) rfl (by omega) rfl rfl (Nat.le_of_ble_eq_true rfl) dX12_date_7 (fun _ _ h => cX12_number_c (by omega) h) (fun r1 s2 _ => ?_)
  refine go_istore_n (L' := [(1, vi r1), (0, vr a0)]) dX12_date_10 rfl (by decide) rfl ?_
  refine go_aload_n 1 dX12_date_11 rfl rfl ?_
  refine go_bipush (v := 45) dX12_date_12 (by decide) ?_
  refine go_callV_v (as := [vi 45]) gk_RX12_201 gmf_X12_asksSign (by decide) rfl (by omega) rfl rfl (Nat.le_of_ble_eq_true rfl) dX12_date_14 (fun _ _ h => cX12_asksSign_c (by omega) h) (fun r3 s4 _ => ?_)
  refine go_aload_n 1 dX12_date_17 rfl rfl ?_
  refine go_iconst (v := 1) dX12_date_18 (by decide) ?_
  refine go_bipush (v := 12) dX12_date_19 (by decide) ?_
  refine go_callV_I (as := [vi 1, vi 12]) gk_RX12_198 gmf_X12_number (by decide) rfl (by omega) rfl rfl (Nat.le_of_ble_eq_true rfl) dX12_date_21 (fun _ _ h => cX12_number_c (by omega) h) (fun r5 s6 _ => ?_)
  refine go_istore_n (L' := [(2, vi r5), (1, vi r1), (0, vr a0)]) dX12_date_24 rfl (by decide) rfl ?_
  refine go_aload_n 2 dX12_date_25 rfl rfl ?_
  refine go_bipush (v := 45) dX12_date_26 (by decide) ?_
  refine go_callV_v (as := [vi 45]) gk_RX12_201 gmf_X12_asksSign (by decide) rfl (by omega) rfl rfl (Nat.le_of_ble_eq_true rfl) dX12_date_28 (fun _ _ h => cX12_asksSign_c (by omega) h) (fun r7 s8 _ => ?_)
  refine go_aload_n 2 dX12_date_31 rfl rfl ?_
  refine go_iconst (v := 1) dX12_date_32 (by decide) ?_
  refine go_bipush (v := 31) dX12_date_33 (by decide) ?_
  refine go_callV_I (as := [vi 1, vi 31]) gk_RX12_198 gmf_X12_number (by decide) rfl (by omega) rfl rfl (Nat.le_of_ble_eq_true rfl) dX12_date_35 (fun _ _ h => cX12_number_c (by omega) h) (fun r9 s10 _ => ?_)
  refine go_istore_n (L' := [(3, vi r9), (2, vi r5), (1, vi r1), (0, vr a0)]) dX12_date_38 rfl (by decide) rfl ?_
  refine go_aload_n 3 dX12_date_39 rfl rfl ?_
  refine go_getI gf_RX12_117 gcf_12 gft_12_5 dX12_date_40 (fun v11 => ?_)
  refine go_gjn (P := fun j12 => ∀ (s13 : gH), gGo X rvI mX12_date d 64 [(0, vr a0), (1, vi r1), (2, vi r5), (3, vi r9)] [] s13 (j12 s13)) (fun s13 => ?_) (fun j12 hj12 => ?_)
  · refine go_aload_n 0 dX12_date_64 rfl rfl ?_
    refine go_getI gf_RX12_117 gcf_12 gft_12_5 dX12_date_65 (fun v14 => ?_)
    refine go_if_ne (tgt := 81) dX12_date_68 (by decide) (fun h15 => ?_) (fun h15 => ?_)
    · refine go_aload_n 0 dX12_date_71 rfl rfl ?_
      refine go_iload_n 1 dX12_date_72 rfl rfl ?_
      refine go_iload_n 2 dX12_date_73 rfl rfl ?_
      refine go_iload_n 3 dX12_date_74 rfl rfl ?_
      refine go_callV_I (as := [vi r1, vi r5, vi r9]) gk_RX12_205 gmf_X12_dayOf (by decide) rfl (by omega) rfl rfl (Nat.le_of_ble_eq_true rfl) dX12_date_75 (fun _ _ h => cX12_dayOf_c (by omega) h) (fun r16 s17 _ => ?_)
      refine go_goto (tgt := 82) dX12_date_78 (by decide) ?_
      exact go_ret rfl dX12_date_82
    · refine go_iconst (v := 0) dX12_date_81 (by decide) ?_
      exact go_ret rfl dX12_date_82
  · refine go_if_ne (tgt := 64) dX12_date_43 (by decide) (fun h18 => ?_) (fun h18 => ?_)
    · refine go_iload_n 0 dX12_date_46 rfl rfl ?_
      refine go_iload_n 2 dX12_date_47 rfl rfl ?_
      refine go_iload_n 1 dX12_date_48 rfl rfl ?_
      refine go_callS_I (as := [vi r1, vi r5]) gk_RX12_179 gmf_X12_longMonth (by omega) rfl rfl (Nat.le_of_ble_eq_true rfl) dX12_date_49 (fun _ _ h => cX12_longMonth_c (by omega) h) (fun r19 s20 _ => ?_)
      refine go_icmp_le (tgt := 64) dX12_date_52 (by decide) (fun h21 => ?_) (fun h21 => ?_)
      · refine go_aload_n 3 dX12_date_55 rfl rfl ?_
        refine go_iconst (v := 2) dX12_date_56 (by decide) ?_
        refine go_aload_n 3 dX12_date_57 rfl rfl ?_
        refine go_getI gf_RX12_149 gcf_12 gft_12_10 dX12_date_58 (fun v22 => ?_)
        refine go_callV_v (as := [vi 2, vi v22]) gk_RX12_142 gmf_X12_fail (by decide) rfl (by omega) rfl rfl (Nat.le_of_ble_eq_true rfl) dX12_date_61 (fun _ _ h => cX12_fail_c (by omega) h) (fun r23 s24 _ => ?_)
        exact go_sub [3, 2, 1, 0] (hj12 s24) rfl
      · exact go_sub [3, 2, 1, 0] (hj12 s20) rfl
    · exact go_sub [3, 2, 1, 0] (hj12 s10) rfl
set_option maxRecDepth 100000 in
set_option maxHeartbeats 4000000 in
theorem cX12_date_c {d : Nat} (hd : 4 ≤ d) {a0 : Nat} {s0 : gH} {r : Int32} {s1 : gH} (h : fX12_date a0 s0 = some (r, s1)) : gMt mX12_date d [vr a0] s0 (some (vi r)) s1 :=
  gMt_of (rv := rvI) (by decide +kernel) (Nat.le_of_ble_eq_true rfl) ⟨_, rfl, rfl⟩ (fun _ => wX12_date hd) h
def gX12_isOf (x0 : Int32) (x1 : Int32) (s0 : gH) : Option (Int32 × gH) :=
  if (x0 >>> (x1 &&& 31)) &&& 1 = 1 then
    some (1, s0)
  else
    some (0, s0)
def fX12_isOf (x0 : Int32) (x1 : Int32) (s0 : gH) : Option (Int32 × gH) := gzr (gX12_isOf x0 x1 s0)
set_option maxRecDepth 100000 in
set_option maxHeartbeats 4000000 in
theorem wX12_isOf {X : Nat × (Nat → Int32)} {d : Nat} (hd : 0 ≤ d) {x0 : Int32} {x1 : Int32} {s0 : gH} : gGo X rvI mX12_isOf d 0 [(0, vi x0), (1, vi x1)] [] s0 (gX12_isOf x0 x1 s0) := by
  unfold gX12_isOf
  refine go_iload_n 0 dX12_isOf_0 rfl rfl ?_
  refine go_iload_n 1 dX12_isOf_1 rfl rfl ?_
  refine go_ishr dX12_isOf_2 ?_
  refine go_iconst (v := 1) dX12_isOf_3 (by decide) ?_
  refine go_iand dX12_isOf_4 ?_
  refine go_iconst (v := 1) dX12_isOf_5 (by decide) ?_
  refine go_icmp_ne (tgt := 13) dX12_isOf_6 (by decide) (fun h1 => ?_) (fun h1 => ?_)
  · refine go_iconst (v := 1) dX12_isOf_9 (by decide) ?_
    refine go_goto (tgt := 14) dX12_isOf_10 (by decide) ?_
    exact go_ret rfl dX12_isOf_14
  · refine go_iconst (v := 0) dX12_isOf_13 (by decide) ?_
    exact go_ret rfl dX12_isOf_14
set_option maxRecDepth 100000 in
set_option maxHeartbeats 4000000 in
theorem cX12_isOf_c {d : Nat} (hd : 0 ≤ d) {x0 : Int32} {x1 : Int32} {s0 : gH} {r : Int32} {s1 : gH} (h : fX12_isOf x0 x1 s0 = some (r, s1)) : gMt mX12_isOf d [vi x0, vi x1] s0 (some (vi r)) s1 := by
  obtain ⟨h1, h2⟩ := gzr_some h
  exact gMt_of (rv := rvI) (by decide +kernel) (Nat.le_of_ble_eq_true rfl) ⟨_, rfl, gnarZ h2⟩ (fun _ => wX12_isOf hd) h1
def fX12_room (a0 : Nat) (x1 : Int32) (s0 : gH) : Option (Unit × gH) :=
  gb2 (gcv s0 a0 12 (fX12_look a0 s0)) fun r1 s2 =>
  if x1 = 8 then
    (ggI s2 a0 12 2).bind fun v4 =>
    (ggI s2 a0 12 3).bind fun v5 =>
    gjn (fun (z7 : Int32) (b8 : Nat) (s9 : gH) =>
        (ggI s9 a0 12 2).bind fun v10 =>
        gb2 (gcv s9 b8 12 (fX12_fail b8 z7 v10 s9)) fun r11 s12 =>
        some ((), s12)
    ) fun j6 =>
    if v4 = v5 then
      j6 1 a0 s2
    else
      j6 5 a0 s2
  else
    some ((), s2)
set_option maxRecDepth 100000 in
set_option maxHeartbeats 4000000 in
theorem wX12_room {X : Nat × (Nat → Int32)} {d : Nat} (hd : 1 ≤ d) {a0 : Nat} {x1 : Int32} {s0 : gH} : gGo X rvU mX12_room d 0 [(0, vr a0), (1, vi x1)] [] s0 (fX12_room a0 x1 s0) := by
  unfold fX12_room
  refine go_aload_n 0 dX12_room_0 rfl rfl ?_
  refine go_callV_I (as := []) gk_RX12_129 gmf_X12_look (by decide) rfl (by omega) rfl rfl (Nat.le_of_ble_eq_true rfl) dX12_room_1 (fun _ _ h => cX12_look_c (by omega) h) (fun r1 s2 _ => ?_)
  refine go_pop dX12_room_4 rfl ?_
  refine go_iload_n 1 dX12_room_5 rfl rfl ?_
  refine go_bipush (v := 8) dX12_room_6 (by decide) ?_
  refine go_icmp_ne (tgt := 35) dX12_room_8 (by decide) (fun h3 => ?_) (fun h3 => ?_)
  · refine go_aload_n 0 dX12_room_11 rfl rfl ?_
    refine go_aload_n 0 dX12_room_12 rfl rfl ?_
    refine go_getI gf_RX12_123 gcf_12 gft_12_2 dX12_room_13 (fun v4 => ?_)
    refine go_aload_n 0 dX12_room_16 rfl rfl ?_
    refine go_getI gf_RX12_126 gcf_12 gft_12_3 dX12_room_17 (fun v5 => ?_)
    refine go_gjn (P := fun j6 => ∀ (z7 : Int32) (b8 : Nat) (s9 : gH), gGo X rvU mX12_room d 28 [(0, vr a0)] [vi z7, vr b8] s9 (j6 z7 b8 s9)) (fun z7 b8 s9 => ?_) (fun j6 hj6 => ?_)
    · refine go_aload_n 0 dX12_room_28 rfl rfl ?_
      refine go_getI gf_RX12_123 gcf_12 gft_12_2 dX12_room_29 (fun v10 => ?_)
      refine go_callV_v (as := [vi z7, vi v10]) gk_RX12_142 gmf_X12_fail (by decide) rfl (by omega) rfl rfl (Nat.le_of_ble_eq_true rfl) dX12_room_32 (fun _ _ h => cX12_fail_c (by omega) h) (fun r11 s12 _ => ?_)
      exact go_retv rfl dX12_room_35
    · refine go_icmp_ne (tgt := 27) dX12_room_20 (by decide) (fun h13 => ?_) (fun h13 => ?_)
      · refine go_iconst (v := 1) dX12_room_23 (by decide) ?_
        refine go_goto (tgt := 28) dX12_room_24 (by decide) ?_
        exact go_sub [0] (hj6 1 a0 s2) rfl
      · refine go_iconst (v := 5) dX12_room_27 (by decide) ?_
        exact go_sub [0] (hj6 5 a0 s2) rfl
  · exact go_retv rfl dX12_room_35
set_option maxRecDepth 100000 in
set_option maxHeartbeats 4000000 in
theorem cX12_room_c {d : Nat} (hd : 1 ≤ d) {a0 : Nat} {x1 : Int32} {s0 : gH} {r : Unit} {s1 : gH} (h : fX12_room a0 x1 s0 = some (r, s1)) : gMt mX12_room d [vr a0, vi x1] s0 none s1 :=
  gMt_of (rv := rvU) (by decide +kernel) (Nat.le_of_ble_eq_true rfl) rfl (fun _ => wX12_room hd) h
def gX12_inTold_L15  (a0 : Nat) (x1 : Int32) : Nat → Int32 → Int32 → gH → Option (Unit × gH)
  | 0, _, _, _ => none
  | n + 1, x2, x3, s0 =>
    if x3 = 0 then
      some ((), s0)
    else
      gb2 (gcv s0 a0 12 (fX12_room a0 x2 s0)) fun r7 s8 =>
      gb2 (gcv s8 a0 12 (fX12_number a0 1 12 s8)) fun r9 s10 =>
      (ggI s10 a0 12 5).bind fun v11 =>
      gjn (fun (s13 : gH) =>
          (ggI s13 a0 12 5).bind fun v14 =>
          gjn (fun (s16 : gH) =>
              gb2 (gcv s16 a0 12 (fX12_takesSign a0 44 s16)) fun r17 s18 =>
              gX12_inTold_L15 a0 x1 n (x2 + 1) r17 s18
          ) fun j15 =>
          if v14 = 0 then
            (ggR s13 a0 12 18).bind fun v20 =>
            gb2 (fX12_ruleAt x1 4 s13) fun r21 s22 =>
            (gaI s22 v20 2 r21).bind fun v23 =>
            (saI s22 v20 2 r21 (v23 ||| (1 <<< (r9 &&& 31)))).bind fun s24 =>
            j15 s24
          else
            j15 s13
      ) fun j12 =>
      if v11 = 0 then
        (ggR s10 a0 12 18).bind fun v26 =>
        gb2 (fX12_ruleAt x1 4 s10) fun r27 s28 =>
        (gaI s28 v26 2 r27).bind fun v29 =>
        gb2 (fX12_isOf v29 r9 s28) fun r30 s31 =>
        if r30 = 0 then
          j12 s31
        else
          (ggI s31 a0 12 10).bind fun v33 =>
          gb2 (gcv s31 a0 12 (fX12_fail a0 4 v33 s31)) fun r34 s35 =>
          j12 s35
      else
        j12 s10
set_option maxRecDepth 100000 in
set_option maxHeartbeats 4000000 in
theorem wX12_inTold_L15 {X : Nat × (Nat → Int32)} {d : Nat} (hd : 2 ≤ d)  (a0 : Nat) (x1 : Int32) : ∀ (n : Nat) (x2 : Int32) (x3 : Int32) (s0 : gH), gGo X rvU mX12_inTold d 15 [(0, vr a0), (1, vi x1), (2, vi x2), (3, vi x3)] [] s0 (gX12_inTold_L15 a0 x1 n x2 x3 s0) := by
  intro n
  induction n with
  | zero => intros; exact go_none
  | succ n ih =>
    intro x2 x3 s0
    show gGo _ _ _ _ _ _ _ _ (gX12_inTold_L15 a0 x1 (n + 1) x2 x3 s0)
    unfold gX12_inTold_L15
    refine go_iload_n 3 dX12_inTold_15 rfl rfl ?_
    refine go_if_eq (tgt := 104) dX12_inTold_16 (by decide) (fun h6 => ?_) (fun h6 => ?_)
    · exact go_retv rfl dX12_inTold_104
    · refine go_aload_n 0 dX12_inTold_19 rfl rfl ?_
      refine go_iload_n 2 dX12_inTold_20 rfl rfl ?_
      refine go_callV_v (as := [vi x2]) gk_RX12_209 gmf_X12_room (by decide) rfl (by omega) rfl rfl (Nat.le_of_ble_eq_true rfl) dX12_inTold_21 (fun _ _ h => cX12_room_c (by omega) h) (fun r7 s8 _ => ?_)
      refine go_aload_n 0 dX12_inTold_24 rfl rfl ?_
      refine go_iconst (v := 1) dX12_inTold_25 (by decide) ?_
      refine go_bipush (v := 12) dX12_inTold_26 (by decide) ?_
      refine go_callV_I (as := [vi 1, vi 12]) gk_RX12_198 gmf_X12_number (by decide) rfl (by omega) rfl rfl (Nat.le_of_ble_eq_true rfl) dX12_inTold_28 (fun _ _ h => cX12_number_c (by omega) h) (fun r9 s10 _ => ?_)
      refine go_istore (L' := [(4, vi r9), (0, vr a0), (1, vi x1), (2, vi x2), (3, vi x3)]) dX12_inTold_31 (by decide) rfl ?_
      refine go_aload_n 1 dX12_inTold_33 rfl rfl ?_
      refine go_getI gf_RX12_117 gcf_12 gft_12_5 dX12_inTold_34 (fun v11 => ?_)
      refine go_gjn (P := fun j12 => ∀ (s13 : gH), gGo X rvU mX12_inTold d 67 [(0, vr a0), (1, vi x1), (2, vi x2), (4, vi r9)] [] s13 (j12 s13)) (fun s13 => ?_) (fun j12 hj12 => ?_)
      · refine go_aload_n 0 dX12_inTold_67 rfl rfl ?_
        refine go_getI gf_RX12_117 gcf_12 gft_12_5 dX12_inTold_68 (fun v14 => ?_)
        refine go_gjn (P := fun j15 => ∀ (s16 : gH), gGo X rvU mX12_inTold d 91 [(0, vr a0), (1, vi x1), (2, vi x2)] [] s16 (j15 s16)) (fun s16 => ?_) (fun j15 hj15 => ?_)
        · refine go_iinc (v := 1) (L' := [(2, vi (x2 + 1)), (0, vr a0), (1, vi x1)]) 2 dX12_inTold_91 rfl (by decide) (by decide) rfl ?_
          refine go_aload_n 1 dX12_inTold_94 rfl rfl ?_
          refine go_bipush (v := 44) dX12_inTold_95 (by decide) ?_
          refine go_callV_I (as := [vi 44]) gk_RX12_139 gmf_X12_takesSign (by decide) rfl (by omega) rfl rfl (Nat.le_of_ble_eq_true rfl) dX12_inTold_97 (fun _ _ h => cX12_takesSign_c (by omega) h) (fun r17 s18 _ => ?_)
          refine go_istore_n (L' := [(3, vi r17), (2, vi (x2 + 1)), (0, vr a0), (1, vi x1)]) dX12_inTold_100 rfl (by decide) rfl ?_
          refine go_goto (tgt := 15) dX12_inTold_101 (by decide) ?_
          exact go_sub [2, 3, 1, 0] (ih (x2 + 1) r17 s18) rfl
        · refine go_if_ne (tgt := 91) dX12_inTold_71 (by decide) (fun h19 => ?_) (fun h19 => ?_)
          · refine go_aload_n 0 dX12_inTold_74 rfl rfl ?_
            refine go_getR gf_RX12_36 gcf_12 gft_12_18 dX12_inTold_75 (fun v20 => ?_)
            refine go_iload_n 1 dX12_inTold_78 rfl rfl ?_
            refine go_iconst (v := 4) dX12_inTold_79 (by decide) ?_
            refine go_callS_I (as := [vi x1, vi 4]) gk_RX12_186 gmf_X12_ruleAt (by omega) rfl rfl (Nat.le_of_ble_eq_true rfl) dX12_inTold_80 (fun _ _ h => cX12_ruleAt_c (by omega) h) (fun r21 s22 _ => ?_)
            refine go_dup2 dX12_inTold_83 rfl rfl ?_
            refine go_iaload dX12_inTold_84 (fun v23 _ => ?_)
            refine go_iconst (v := 1) dX12_inTold_85 (by decide) ?_
            refine go_iload 3 dX12_inTold_86 rfl ?_
            refine go_ishl dX12_inTold_88 ?_
            refine go_ior dX12_inTold_89 ?_
            refine go_iastore dX12_inTold_90 (fun s24 _ => ?_)
            exact go_sub [0, 1, 2] (hj15 s24) rfl
          · exact go_sub [0, 1, 2] (hj15 s13) rfl
      · refine go_if_ne (tgt := 67) dX12_inTold_37 (by decide) (fun h25 => ?_) (fun h25 => ?_)
        · refine go_aload_n 1 dX12_inTold_40 rfl rfl ?_
          refine go_getR gf_RX12_36 gcf_12 gft_12_18 dX12_inTold_41 (fun v26 => ?_)
          refine go_iload_n 2 dX12_inTold_44 rfl rfl ?_
          refine go_iconst (v := 4) dX12_inTold_45 (by decide) ?_
          refine go_callS_I (as := [vi x1, vi 4]) gk_RX12_186 gmf_X12_ruleAt (by omega) rfl rfl (Nat.le_of_ble_eq_true rfl) dX12_inTold_46 (fun _ _ h => cX12_ruleAt_c (by omega) h) (fun r27 s28 _ => ?_)
          refine go_iaload dX12_inTold_49 (fun v29 _ => ?_)
          refine go_iload 0 dX12_inTold_50 rfl ?_
          refine go_callS_I (as := [vi v29, vi r9]) gk_RX12_212 gmf_X12_isOf (by omega) rfl rfl (Nat.le_of_ble_eq_true rfl) dX12_inTold_52 (fun _ _ h => cX12_isOf_c (by omega) h) (fun r30 s31 _ => ?_)
          refine go_if_eq (tgt := 67) dX12_inTold_55 (by decide) (fun h32 => ?_) (fun h32 => ?_)
          · exact go_sub [1, 2, 3, 0] (hj12 s31) rfl
          · refine go_aload_n 1 dX12_inTold_58 rfl rfl ?_
            refine go_iconst (v := 4) dX12_inTold_59 (by decide) ?_
            refine go_aload_n 1 dX12_inTold_60 rfl rfl ?_
            refine go_getI gf_RX12_149 gcf_12 gft_12_10 dX12_inTold_61 (fun v33 => ?_)
            refine go_callV_v (as := [vi 4, vi v33]) gk_RX12_142 gmf_X12_fail (by decide) rfl (by omega) rfl rfl (Nat.le_of_ble_eq_true rfl) dX12_inTold_64 (fun _ _ h => cX12_fail_c (by omega) h) (fun r34 s35 _ => ?_)
            exact go_sub [1, 2, 3, 0] (hj12 s35) rfl
        · exact go_sub [1, 2, 3, 0] (hj12 s10) rfl
def fX12_inTold (a0 : Nat) (x1 : Int32) (s0 : gH) : Option (Unit × gH) :=
  (ggI s0 a0 12 5).bind fun v1 =>
  gjn (fun (z3 : Int32) (s4 : gH) =>
      gX12_inTold_L15
        a0 x1 20000 0 z3 s4
  ) fun j2 =>
  if v1 = 0 then
    j2 1 s0
  else
    j2 0 s0
set_option maxRecDepth 100000 in
set_option maxHeartbeats 4000000 in
theorem wX12_inTold {X : Nat × (Nat → Int32)} {d : Nat} (hd : 2 ≤ d) {a0 : Nat} {x1 : Int32} {s0 : gH} : gGo X rvU mX12_inTold d 0 [(0, vr a0), (1, vi x1)] [] s0 (fX12_inTold a0 x1 s0) := by
  unfold fX12_inTold
  refine go_iconst (v := 0) dX12_inTold_0 (by decide) ?_
  refine go_istore_n (L' := [(2, vi 0), (0, vr a0), (1, vi x1)]) dX12_inTold_1 rfl (by decide) rfl ?_
  refine go_aload_n 1 dX12_inTold_2 rfl rfl ?_
  refine go_getI gf_RX12_117 gcf_12 gft_12_5 dX12_inTold_3 (fun v1 => ?_)
  refine go_gjn (P := fun j2 => ∀ (z3 : Int32) (s4 : gH), gGo X rvU mX12_inTold d 14 [(0, vr a0), (1, vi x1), (2, vi 0)] [vi z3] s4 (j2 z3 s4)) (fun z3 s4 => ?_) (fun j2 hj2 => ?_)
  · refine go_istore_n (L' := [(3, vi z3), (0, vr a0), (1, vi x1), (2, vi 0)]) dX12_inTold_14 rfl (by decide) rfl ?_
    refine go_sub [1, 2, 3, 0] (wX12_inTold_L15 hd a0 x1 20000 0 z3 s4) rfl
  · refine go_if_ne (tgt := 13) dX12_inTold_6 (by decide) (fun h36 => ?_) (fun h36 => ?_)
    · refine go_iconst (v := 1) dX12_inTold_9 (by decide) ?_
      refine go_goto (tgt := 14) dX12_inTold_10 (by decide) ?_
      exact go_sub [1, 2, 0] (hj2 1 s0) rfl
    · refine go_iconst (v := 0) dX12_inTold_13 (by decide) ?_
      exact go_sub [1, 2, 0] (hj2 0 s0) rfl
set_option maxRecDepth 100000 in
set_option maxHeartbeats 4000000 in
theorem cX12_inTold_c {d : Nat} (hd : 2 ≤ d) {a0 : Nat} {x1 : Int32} {s0 : gH} {r : Unit} {s1 : gH} (h : fX12_inTold a0 x1 s0 = some (r, s1)) : gMt mX12_inTold d [vr a0, vi x1] s0 none s1 :=
  gMt_of (rv := rvU) (by decide +kernel) (Nat.le_of_ble_eq_true rfl) rfl (fun _ => wX12_inTold hd) h
def fX12_place (a0 : Nat) (x1 : Int32) (s0 : gH) : Option (Int32 × gH) :=
  gb2 (gcv s0 a0 12 (fX12_takesSign a0 45 s0)) fun r1 s2 =>
  gb2 (gcv s2 a0 12 (fX12_number a0 1 x1 s2)) fun r3 s4 =>
  if r1 = 0 then
    some (r3, s4)
  else
    some (-r3, s4)
set_option maxRecDepth 100000 in
set_option maxHeartbeats 4000000 in
theorem wX12_place {X : Nat × (Nat → Int32)} {d : Nat} (hd : 2 ≤ d) {a0 : Nat} {x1 : Int32} {s0 : gH} : gGo X rvI mX12_place d 0 [(0, vr a0), (1, vi x1)] [] s0 (fX12_place a0 x1 s0) := by
  unfold fX12_place
  refine go_aload_n 0 dX12_place_0 rfl rfl ?_
  refine go_bipush (v := 45) dX12_place_1 (by decide) ?_
  refine go_callV_I (as := [vi 45]) gk_RX12_139 gmf_X12_takesSign (by decide) rfl (by omega) rfl rfl (Nat.le_of_ble_eq_true rfl) dX12_place_3 (fun _ _ h => cX12_takesSign_c (by omega) h) (fun r1 s2 _ => ?_)
  refine go_istore_n (L' := [(2, vi r1), (0, vr a0), (1, vi x1)]) dX12_place_6 rfl (by decide) rfl ?_
  refine go_aload_n 1 dX12_place_7 rfl rfl ?_
  refine go_iconst (v := 1) dX12_place_8 (by decide) ?_
  refine go_iload_n 2 dX12_place_9 rfl rfl ?_
  refine go_callV_I (as := [vi 1, vi x1]) gk_RX12_198 gmf_X12_number (by decide) rfl (by omega) rfl rfl (Nat.le_of_ble_eq_true rfl) dX12_place_10 (fun _ _ h => cX12_number_c (by omega) h) (fun r3 s4 _ => ?_)
  refine go_istore_n (L' := [(3, vi r3), (2, vi r1), (0, vr a0), (1, vi x1)]) dX12_place_13 rfl (by decide) rfl ?_
  refine go_iload_n 1 dX12_place_14 rfl rfl ?_
  refine go_if_eq (tgt := 23) dX12_place_15 (by decide) (fun h5 => ?_) (fun h5 => ?_)
  · refine go_iload_n 0 dX12_place_23 rfl rfl ?_
    exact go_ret rfl dX12_place_24
  · refine go_iload_n 0 dX12_place_18 rfl rfl ?_
    refine go_ineg dX12_place_19 ?_
    refine go_goto (tgt := 24) dX12_place_20 (by decide) ?_
    exact go_ret rfl dX12_place_24
set_option maxRecDepth 100000 in
set_option maxHeartbeats 4000000 in
theorem cX12_place_c {d : Nat} (hd : 2 ≤ d) {a0 : Nat} {x1 : Int32} {s0 : gH} {r : Int32} {s1 : gH} (h : fX12_place a0 x1 s0 = some (r, s1)) : gMt mX12_place d [vr a0, vi x1] s0 (some (vi r)) s1 :=
  gMt_of (rv := rvI) (by decide +kernel) (Nat.le_of_ble_eq_true rfl) ⟨_, rfl, rfl⟩ (fun _ => wX12_place hd) h
def gX12_placesTold_L54 (k99 : gH → Option (Unit × gH)) (a0 : Nat) (x1 : Int32) (x2 : Int32) (x3 : Int32) (x4 : Int32) (x6 : Int32) (x7 : Int32) (x8 : Int32) : Nat → Int32 → gH → Option (Unit × gH)
  | 0, _, _ => none
  | n + 1, x9, s0 =>
    if x9 < x6 then
      (ggI s0 a0 12 5).bind fun v18 =>
      if v18 = 0 then
        (ggR s0 a0 12 18).bind fun v20 =>
        gb2 (fX12_ruleAt x1 (x3 + x9) s0) fun r21 s22 =>
        (gaI s22 v20 2 r21).bind fun v23 =>
        if v23 = x8 then
          gb2 (gcv s22 a0 12 (fX12_fail a0 4 x7 s22)) fun r25 s26 =>
          gX12_placesTold_L54 k99 a0 x1 x2 x3 x4 x6 x7 x8 n (x9 + 1) s26
        else
          gX12_placesTold_L54 k99 a0 x1 x2 x3 x4 x6 x7 x8 n (x9 + 1) s22
      else
        k99 s0
    else
      k99 s0
set_option maxRecDepth 100000 in
set_option maxHeartbeats 4000000 in
theorem wX12_placesTold_L54 {X : Nat × (Nat → Int32)} {d : Nat} (hd : 3 ≤ d) (k99 : gH → Option (Unit × gH)) (a0 : Nat) (x1 : Int32) (x2 : Int32) (x3 : Int32) (x4 : Int32) (x6 : Int32) (x7 : Int32) (x8 : Int32) (hk99 : ∀ (s : gH), gGo X rvU mX12_placesTold d 99 [(0, vr a0), (1, vi x1), (2, vi x2), (3, vi x3), (4, vi x4), (6, vi x6), (8, vi x8)] [] s (k99 s)) : ∀ (n : Nat) (x9 : Int32) (s0 : gH), gGo X rvU mX12_placesTold d 54 [(0, vr a0), (1, vi x1), (2, vi x2), (3, vi x3), (4, vi x4), (6, vi x6), (7, vi x7), (8, vi x8), (9, vi x9)] [] s0 (gX12_placesTold_L54 k99 a0 x1 x2 x3 x4 x6 x7 x8 n x9 s0) := by
  intro n
  induction n with
  | zero => intros; exact go_none
  | succ n ih =>
    intro x9 s0
    show gGo _ _ _ _ _ _ _ _ (gX12_placesTold_L54 k99 a0 x1 x2 x3 x4 x6 x7 x8 (n + 1) x9 s0)
    unfold gX12_placesTold_L54
    refine go_iload 8 dX12_placesTold_54 rfl ?_
    refine go_iload 5 dX12_placesTold_56 rfl ?_
    refine go_icmp_ge (tgt := 99) dX12_placesTold_58 (by decide) (fun h17 => ?_) (fun h17 => ?_)
    · refine go_aload_n 0 dX12_placesTold_61 rfl rfl ?_
      refine go_getI gf_RX12_117 gcf_12 gft_12_5 dX12_placesTold_62 (fun v18 => ?_)
      refine go_if_ne (tgt := 99) dX12_placesTold_65 (by decide) (fun h19 => ?_) (fun h19 => ?_)
      · refine go_aload_n 0 dX12_placesTold_68 rfl rfl ?_
        refine go_getR gf_RX12_36 gcf_12 gft_12_18 dX12_placesTold_69 (fun v20 => ?_)
        refine go_iload_n 1 dX12_placesTold_72 rfl rfl ?_
        refine go_iload_n 3 dX12_placesTold_73 rfl rfl ?_
        refine go_iload 8 dX12_placesTold_74 rfl ?_
        refine go_iadd dX12_placesTold_76 ?_
        refine go_callS_I (as := [vi x1, vi (x3 + x9)]) gk_RX12_186 gmf_X12_ruleAt (by omega) rfl rfl (Nat.le_of_ble_eq_true rfl) dX12_placesTold_77 (fun _ _ h => cX12_ruleAt_c (by omega) h) (fun r21 s22 _ => ?_)
        refine go_iaload dX12_placesTold_80 (fun v23 _ => ?_)
        refine go_iload 7 dX12_placesTold_81 rfl ?_
        refine go_icmp_ne (tgt := 93) dX12_placesTold_83 (by decide) (fun h24 => ?_) (fun h24 => ?_)
        · refine go_aload_n 0 dX12_placesTold_86 rfl rfl ?_
          refine go_iconst (v := 4) dX12_placesTold_87 (by decide) ?_
          refine go_iload 6 dX12_placesTold_88 rfl ?_
          refine go_callV_v (as := [vi 4, vi x7]) gk_RX12_142 gmf_X12_fail (by decide) rfl (by omega) rfl rfl (Nat.le_of_ble_eq_true rfl) dX12_placesTold_90 (fun _ _ h => cX12_fail_c (by omega) h) (fun r25 s26 _ => ?_)
          refine go_iinc (v := 1) (L' := [(9, vi (x9 + 1)), (0, vr a0), (1, vi x1), (2, vi x2), (3, vi x3), (4, vi x4), (6, vi x6), (7, vi x7), (8, vi x8)]) 8 dX12_placesTold_93 rfl (by decide) (by decide) rfl ?_
          refine go_goto (tgt := 54) dX12_placesTold_96 (by decide) ?_
          exact go_sub [1, 2, 3, 4, 5, 6, 7, 8, 0] (ih (x9 + 1) s26) rfl
        · refine go_iinc (v := 1) (L' := [(9, vi (x9 + 1)), (0, vr a0), (1, vi x1), (2, vi x2), (3, vi x3), (4, vi x4), (6, vi x6), (7, vi x7), (8, vi x8)]) 8 dX12_placesTold_93 rfl (by decide) (by decide) rfl ?_
          refine go_goto (tgt := 54) dX12_placesTold_96 (by decide) ?_
          exact go_sub [1, 2, 3, 4, 5, 6, 7, 8, 0] (ih (x9 + 1) s22) rfl
      · exact go_sub [0, 1, 2, 3, 4, 5, 7] (hk99 s0) rfl
    · exact go_sub [0, 1, 2, 3, 4, 5, 7] (hk99 s0) rfl
def gX12_placesTold_L14  (a0 : Nat) (x1 : Int32) (x2 : Int32) (x3 : Int32) (x4 : Int32) : Nat → Int32 → gH → Option (Unit × gH)
  | 0, _, _ => none
  | n + 1, x5, s0 =>
    if x5 = 0 then
      some ((), s0)
    else
      (ggR s0 a0 12 18).bind fun v7 =>
      gb2 (fX12_ruleAt x1 x2 s0) fun r8 s9 =>
      (gaI s9 v7 2 r8).bind fun v10 =>
      gb2 (gcv s9 a0 12 (fX12_room a0 v10 s9)) fun r11 s12 =>
      (ggI s12 a0 12 2).bind fun v13 =>
      gb2 (gcv s12 a0 12 (fX12_place a0 x4 s12)) fun r14 s15 =>
      gX12_placesTold_L54
        (fun s27 =>
          (ggI s27 a0 12 5).bind fun v28 =>
          gjn (fun (s30 : gH) =>
              gb2 (gcv s30 a0 12 (fX12_takesSign a0 44 s30)) fun r31 s32 =>
              gX12_placesTold_L14 a0 x1 x2 x3 x4 n r31 s32
          ) fun j29 =>
          if v28 = 0 then
            (ggR s27 a0 12 18).bind fun v34 =>
            gb2 (fX12_ruleAt x1 (x3 + v10) s27) fun r35 s36 =>
            (saI s36 v34 2 r35 r14).bind fun s37 =>
            (ggR s37 a0 12 18).bind fun v38 =>
            gb2 (fX12_ruleAt x1 x2 s37) fun r39 s40 =>
            (gaI s40 v38 2 r39).bind fun v41 =>
            (saI s40 v38 2 r39 (v41 + 1)).bind fun s42 =>
            j29 s42
          else
            j29 s27)
        a0 x1 x2 x3 x4 v10 v13 r14 20000 0 s15
set_option maxRecDepth 100000 in
set_option maxHeartbeats 4000000 in
theorem wX12_placesTold_L14 {X : Nat × (Nat → Int32)} {d : Nat} (hd : 3 ≤ d)  (a0 : Nat) (x1 : Int32) (x2 : Int32) (x3 : Int32) (x4 : Int32) : ∀ (n : Nat) (x5 : Int32) (s0 : gH), gGo X rvU mX12_placesTold d 14 [(0, vr a0), (1, vi x1), (2, vi x2), (3, vi x3), (4, vi x4), (5, vi x5)] [] s0 (gX12_placesTold_L14 a0 x1 x2 x3 x4 n x5 s0) := by
  intro n
  induction n with
  | zero => intros; exact go_none
  | succ n ih =>
    intro x5 s0
    show gGo _ _ _ _ _ _ _ _ (gX12_placesTold_L14 a0 x1 x2 x3 x4 (n + 1) x5 s0)
    unfold gX12_placesTold_L14
    refine go_iload 5 dX12_placesTold_14 rfl ?_
    refine go_if_eq (tgt := 146) dX12_placesTold_16 (by decide) (fun h6 => ?_) (fun h6 => ?_)
    · exact go_retv rfl dX12_placesTold_146
    · refine go_aload_n 0 dX12_placesTold_19 rfl rfl ?_
      refine go_getR gf_RX12_36 gcf_12 gft_12_18 dX12_placesTold_20 (fun v7 => ?_)
      refine go_iload_n 1 dX12_placesTold_23 rfl rfl ?_
      refine go_iload_n 2 dX12_placesTold_24 rfl rfl ?_
      refine go_callS_I (as := [vi x1, vi x2]) gk_RX12_186 gmf_X12_ruleAt (by omega) rfl rfl (Nat.le_of_ble_eq_true rfl) dX12_placesTold_25 (fun _ _ h => cX12_ruleAt_c (by omega) h) (fun r8 s9 _ => ?_)
      refine go_iaload dX12_placesTold_28 (fun v10 _ => ?_)
      refine go_istore (L' := [(6, vi v10), (0, vr a0), (1, vi x1), (2, vi x2), (3, vi x3), (4, vi x4), (5, vi x5)]) dX12_placesTold_29 (by decide) rfl ?_
      refine go_aload_n 1 dX12_placesTold_31 rfl rfl ?_
      refine go_iload 0 dX12_placesTold_32 rfl ?_
      refine go_callV_v (as := [vi v10]) gk_RX12_209 gmf_X12_room (by decide) rfl (by omega) rfl rfl (Nat.le_of_ble_eq_true rfl) dX12_placesTold_34 (fun _ _ h => cX12_room_c (by omega) h) (fun r11 s12 _ => ?_)
      refine go_aload_n 1 dX12_placesTold_37 rfl rfl ?_
      refine go_getI gf_RX12_123 gcf_12 gft_12_2 dX12_placesTold_38 (fun v13 => ?_)
      refine go_istore (L' := [(7, vi v13), (6, vi v10), (0, vr a0), (1, vi x1), (2, vi x2), (3, vi x3), (4, vi x4), (5, vi x5)]) dX12_placesTold_41 (by decide) rfl ?_
      refine go_aload_n 2 dX12_placesTold_43 rfl rfl ?_
      refine go_iload 6 dX12_placesTold_44 rfl ?_
      refine go_callV_I (as := [vi x4]) gk_RX12_215 gmf_X12_place (by decide) rfl (by omega) rfl rfl (Nat.le_of_ble_eq_true rfl) dX12_placesTold_46 (fun _ _ h => cX12_place_c (by omega) h) (fun r14 s15 _ => ?_)
      refine go_istore (L' := [(8, vi r14), (7, vi v13), (6, vi v10), (0, vr a0), (1, vi x1), (2, vi x2), (3, vi x3), (4, vi x4), (5, vi x5)]) dX12_placesTold_49 (by decide) rfl ?_
      refine go_iconst (v := 0) dX12_placesTold_51 (by decide) ?_
      refine go_istore (L' := [(9, vi 0), (8, vi r14), (7, vi v13), (6, vi v10), (0, vr a0), (1, vi x1), (2, vi x2), (3, vi x3), (4, vi x4), (5, vi x5)]) dX12_placesTold_52 (by decide) rfl ?_
      refine go_sub [4, 5, 6, 7, 8, 3, 2, 1, 0] (wX12_placesTold_L54 hd _ a0 x1 x2 x3 x4 v10 v13 r14 ?_ 20000 0 s15) rfl
      intro s27
      refine go_aload_n 0 dX12_placesTold_99 rfl rfl ?_
      refine go_getI gf_RX12_117 gcf_12 gft_12_5 dX12_placesTold_100 (fun v28 => ?_)
      refine go_gjn (P := fun j29 => ∀ (s30 : gH), gGo X rvU mX12_placesTold d 135 [(0, vr a0), (1, vi x1), (2, vi x2), (3, vi x3), (4, vi x4)] [] s30 (j29 s30)) (fun s30 => ?_) (fun j29 hj29 => ?_)
      · refine go_aload_n 0 dX12_placesTold_135 rfl rfl ?_
        refine go_bipush (v := 44) dX12_placesTold_136 (by decide) ?_
        refine go_callV_I (as := [vi 44]) gk_RX12_139 gmf_X12_takesSign (by decide) rfl (by omega) rfl rfl (Nat.le_of_ble_eq_true rfl) dX12_placesTold_138 (fun _ _ h => cX12_takesSign_c (by omega) h) (fun r31 s32 _ => ?_)
        refine go_istore (L' := [(5, vi r31), (0, vr a0), (1, vi x1), (2, vi x2), (3, vi x3), (4, vi x4)]) dX12_placesTold_141 (by decide) rfl ?_
        refine go_goto (tgt := 14) dX12_placesTold_143 (by decide) ?_
        exact go_sub [1, 2, 3, 4, 5, 0] (ih r31 s32) rfl
      · refine go_if_ne (tgt := 135) dX12_placesTold_103 (by decide) (fun h33 => ?_) (fun h33 => ?_)
        · refine go_aload_n 0 dX12_placesTold_106 rfl rfl ?_
          refine go_getR gf_RX12_36 gcf_12 gft_12_18 dX12_placesTold_107 (fun v34 => ?_)
          refine go_iload_n 1 dX12_placesTold_110 rfl rfl ?_
          refine go_iload_n 3 dX12_placesTold_111 rfl rfl ?_
          refine go_iload 5 dX12_placesTold_112 rfl ?_
          refine go_iadd dX12_placesTold_114 ?_
          refine go_callS_I (as := [vi x1, vi (x3 + v10)]) gk_RX12_186 gmf_X12_ruleAt (by omega) rfl rfl (Nat.le_of_ble_eq_true rfl) dX12_placesTold_115 (fun _ _ h => cX12_ruleAt_c (by omega) h) (fun r35 s36 _ => ?_)
          refine go_iload 6 dX12_placesTold_118 rfl ?_
          refine go_iastore dX12_placesTold_120 (fun s37 _ => ?_)
          refine go_aload_n 0 dX12_placesTold_121 rfl rfl ?_
          refine go_getR gf_RX12_36 gcf_12 gft_12_18 dX12_placesTold_122 (fun v38 => ?_)
          refine go_iload_n 1 dX12_placesTold_125 rfl rfl ?_
          refine go_iload_n 2 dX12_placesTold_126 rfl rfl ?_
          refine go_callS_I (as := [vi x1, vi x2]) gk_RX12_186 gmf_X12_ruleAt (by omega) rfl rfl (Nat.le_of_ble_eq_true rfl) dX12_placesTold_127 (fun _ _ h => cX12_ruleAt_c (by omega) h) (fun r39 s40 _ => ?_)
          refine go_dup2 dX12_placesTold_130 rfl rfl ?_
          refine go_iaload dX12_placesTold_131 (fun v41 _ => ?_)
          refine go_iconst (v := 1) dX12_placesTold_132 (by decide) ?_
          refine go_iadd dX12_placesTold_133 ?_
          refine go_iastore dX12_placesTold_134 (fun s42 _ => ?_)
          exact go_sub [0, 1, 2, 3, 4] (hj29 s42) rfl
        · exact go_sub [0, 1, 2, 3, 4] (hj29 s27) rfl
def fX12_placesTold (a0 : Nat) (x1 : Int32) (x2 : Int32) (x3 : Int32) (x4 : Int32) (s0 : gH) : Option (Unit × gH) :=
  (ggI s0 a0 12 5).bind fun v1 =>
  gjn (fun (z3 : Int32) (s4 : gH) =>
      gX12_placesTold_L14
        a0 x1 x2 x3 x4 20000 z3 s4
  ) fun j2 =>
  if v1 = 0 then
    j2 1 s0
  else
    j2 0 s0
set_option maxRecDepth 100000 in
set_option maxHeartbeats 4000000 in
theorem wX12_placesTold {X : Nat × (Nat → Int32)} {d : Nat} (hd : 3 ≤ d) {a0 : Nat} {x1 : Int32} {x2 : Int32} {x3 : Int32} {x4 : Int32} {s0 : gH} : gGo X rvU mX12_placesTold d 0 [(0, vr a0), (1, vi x1), (2, vi x2), (3, vi x3), (4, vi x4)] [] s0 (fX12_placesTold a0 x1 x2 x3 x4 s0) := by
  unfold fX12_placesTold
  refine go_aload_n 0 dX12_placesTold_0 rfl rfl ?_
  refine go_getI gf_RX12_117 gcf_12 gft_12_5 dX12_placesTold_1 (fun v1 => ?_)
  refine go_gjn (P := fun j2 => ∀ (z3 : Int32) (s4 : gH), gGo X rvU mX12_placesTold d 12 [(0, vr a0), (1, vi x1), (2, vi x2), (3, vi x3), (4, vi x4)] [vi z3] s4 (j2 z3 s4)) (fun z3 s4 => ?_) (fun j2 hj2 => ?_)
  · refine go_istore (L' := [(5, vi z3), (0, vr a0), (1, vi x1), (2, vi x2), (3, vi x3), (4, vi x4)]) dX12_placesTold_12 (by decide) rfl ?_
    refine go_sub [1, 2, 3, 4, 5, 0] (wX12_placesTold_L14 hd a0 x1 x2 x3 x4 20000 z3 s4) rfl
  · refine go_if_ne (tgt := 11) dX12_placesTold_4 (by decide) (fun h43 => ?_) (fun h43 => ?_)
    · refine go_iconst (v := 1) dX12_placesTold_7 (by decide) ?_
      refine go_goto (tgt := 12) dX12_placesTold_8 (by decide) ?_
      exact go_sub [0, 1, 2, 3, 4] (hj2 1 s0) rfl
    · refine go_iconst (v := 0) dX12_placesTold_11 (by decide) ?_
      exact go_sub [0, 1, 2, 3, 4] (hj2 0 s0) rfl
set_option maxRecDepth 100000 in
set_option maxHeartbeats 4000000 in
theorem cX12_placesTold_c {d : Nat} (hd : 3 ≤ d) {a0 : Nat} {x1 : Int32} {x2 : Int32} {x3 : Int32} {x4 : Int32} {s0 : gH} {r : Unit} {s1 : gH} (h : fX12_placesTold a0 x1 x2 x3 x4 s0 = some (r, s1)) : gMt mX12_placesTold d [vr a0, vi x1, vi x2, vi x3, vi x4] s0 none s1 :=
  gMt_of (rv := rvU) (by decide +kernel) (Nat.le_of_ble_eq_true rfl) rfl (fun _ => wX12_placesTold hd) h
def fX12_weekday (a0 : Nat) (s0 : gH) : Option (Int32 × gH) :=
  gb2 (gcv s0 a0 12 (fX12_ownHere a0 s0)) fun r1 s2 =>
  (ggI s2 a0 12 5).bind fun v3 =>
  gjn (fun (s5 : gH) =>
      (ggI s5 a0 12 5).bind fun v6 =>
      if v6 = 0 then
        gb2 (gcv s5 a0 12 (fX12_passes a0 s5)) fun r8 s9 =>
        some (r1 - 4, s9)
      else
        some (0, s5)
  ) fun j4 =>
  if v3 = 0 then
    gb2 (fX12_isIn r1.toInt64 4 10 s2) fun r11 s12 =>
    if r11 = 0 then
      gb2 (gcv s12 a0 12 (fX12_look a0 s12)) fun r14 s15 =>
      gjn (fun (z17 : Int32) (z18 : Int32) (b19 : Nat) (s20 : gH) =>
          gb2 (gcv s20 b19 12 (fX12_fail b19 z18 z17 s20)) fun r21 s22 =>
          j4 s22
      ) fun j16 =>
      if r14 = -1 then
        (ggI s15 a0 12 3).bind fun v24 =>
        j16 v24 1 a0 s15
      else
        (ggI s15 a0 12 2).bind fun v25 =>
        j16 v25 1 a0 s15
    else
      j4 s12
  else
    j4 s2
set_option maxRecDepth 100000 in
set_option maxHeartbeats 4000000 in
theorem wX12_weekday {X : Nat × (Nat → Int32)} {d : Nat} (hd : 3 ≤ d) {a0 : Nat} {s0 : gH} : gGo X rvI mX12_weekday d 0 [(0, vr a0)] [] s0 (fX12_weekday a0 s0) := by
  unfold fX12_weekday
  refine go_aload_n 0 dX12_weekday_0 rfl rfl ?_
  refine go_callV_I (as := []) gk_RX12_160 gmf_X12_ownHere (by decide) rfl (by omega) rfl rfl (Nat.le_of_ble_eq_true rfl) dX12_weekday_1 (fun _ _ h => cX12_ownHere_c (by omega) h) (fun r1 s2 _ => ?_)
  refine go_istore_n (L' := [(1, vi r1), (0, vr a0)]) dX12_weekday_4 rfl (by decide) rfl ?_
  refine go_aload_n 1 dX12_weekday_5 rfl rfl ?_
  refine go_getI gf_RX12_117 gcf_12 gft_12_5 dX12_weekday_6 (fun v3 => ?_)
  refine go_gjn (P := fun j4 => ∀ (s5 : gH), gGo X rvI mX12_weekday d 50 [(0, vr a0), (1, vi r1)] [] s5 (j4 s5)) (fun s5 => ?_) (fun j4 hj4 => ?_)
  · refine go_aload_n 0 dX12_weekday_50 rfl rfl ?_
    refine go_getI gf_RX12_117 gcf_12 gft_12_5 dX12_weekday_51 (fun v6 => ?_)
    refine go_if_eq (tgt := 59) dX12_weekday_54 (by decide) (fun h7 => ?_) (fun h7 => ?_)
    · refine go_aload_n 0 dX12_weekday_59 rfl rfl ?_
      refine go_callV_v (as := []) gk_RX12_163 gmf_X12_passes (by decide) rfl (by omega) rfl rfl (Nat.le_of_ble_eq_true rfl) dX12_weekday_60 (fun _ _ h => cX12_passes_c (by omega) h) (fun r8 s9 _ => ?_)
      refine go_iload_n 1 dX12_weekday_63 rfl rfl ?_
      refine go_iconst (v := 4) dX12_weekday_64 (by decide) ?_
      refine go_isub dX12_weekday_65 ?_
      exact go_ret rfl dX12_weekday_66
    · refine go_iconst (v := 0) dX12_weekday_57 (by decide) ?_
      exact go_ret rfl dX12_weekday_58
  · refine go_if_ne (tgt := 50) dX12_weekday_9 (by decide) (fun h10 => ?_) (fun h10 => ?_)
    · refine go_iload_n 0 dX12_weekday_12 rfl rfl ?_
      refine go_i2l dX12_weekday_13 ?_
      refine go_ldc2 gcl_RX12_218 dX12_weekday_14 ?_
      refine go_ldc2 gcl_RX12_220 dX12_weekday_17 ?_
      refine go_callS_I (as := [vl r1.toInt64, vl 4, vl 10]) gk_RX12_110 gmf_X12_isIn (by omega) rfl rfl (Nat.le_of_ble_eq_true rfl) dX12_weekday_20 (fun _ _ h => cX12_isIn_c (by omega) h) (fun r11 s12 _ => ?_)
      refine go_if_ne (tgt := 50) dX12_weekday_23 (by decide) (fun h13 => ?_) (fun h13 => ?_)
      · refine go_aload_n 1 dX12_weekday_26 rfl rfl ?_
        refine go_iconst (v := 1) dX12_weekday_27 (by decide) ?_
        refine go_aload_n 1 dX12_weekday_28 rfl rfl ?_
        refine go_callV_I (as := []) gk_RX12_129 gmf_X12_look (by decide) rfl (by omega) rfl rfl (Nat.le_of_ble_eq_true rfl) dX12_weekday_29 (fun _ _ h => cX12_look_c (by omega) h) (fun r14 s15 _ => ?_)
        refine go_iconst (v := -1) dX12_weekday_32 (by decide) ?_
        refine go_gjn (P := fun j16 => ∀ (z17 : Int32) (z18 : Int32) (b19 : Nat) (s20 : gH), gGo X rvI mX12_weekday d 47 [(0, vr a0), (1, vi r1)] [vi z17, vi z18, vr b19] s20 (j16 z17 z18 b19 s20)) (fun z17 z18 b19 s20 => ?_) (fun j16 hj16 => ?_)
        · refine go_callV_v (as := [vi z18, vi z17]) gk_RX12_142 gmf_X12_fail (by decide) rfl (by omega) rfl rfl (Nat.le_of_ble_eq_true rfl) dX12_weekday_47 (fun _ _ h => cX12_fail_c (by omega) h) (fun r21 s22 _ => ?_)
          exact go_sub [0, 1] (hj4 s22) rfl
        · refine go_icmp_ne (tgt := 43) dX12_weekday_33 (by decide) (fun h23 => ?_) (fun h23 => ?_)
          · refine go_aload_n 1 dX12_weekday_36 rfl rfl ?_
            refine go_getI gf_RX12_126 gcf_12 gft_12_3 dX12_weekday_37 (fun v24 => ?_)
            refine go_goto (tgt := 47) dX12_weekday_40 (by decide) ?_
            exact go_sub [1, 0] (hj16 v24 1 a0 s15) rfl
          · refine go_aload_n 1 dX12_weekday_43 rfl rfl ?_
            refine go_getI gf_RX12_123 gcf_12 gft_12_2 dX12_weekday_44 (fun v25 => ?_)
            exact go_sub [1, 0] (hj16 v25 1 a0 s15) rfl
      · exact go_sub [1, 0] (hj4 s12) rfl
    · exact go_sub [1, 0] (hj4 s2) rfl
set_option maxRecDepth 100000 in
set_option maxHeartbeats 4000000 in
theorem cX12_weekday_c {d : Nat} (hd : 3 ≤ d) {a0 : Nat} {s0 : gH} {r : Int32} {s1 : gH} (h : fX12_weekday a0 s0 = some (r, s1)) : gMt mX12_weekday d [vr a0] s0 (some (vi r)) s1 :=
  gMt_of (rv := rvI) (by decide +kernel) (Nat.le_of_ble_eq_true rfl) ⟨_, rfl, rfl⟩ (fun _ => wX12_weekday hd) h
def gX12_byTold_L148 (k219 : gH → Option (Unit × gH)) (a0 : Nat) (x1 : Int32) (x3 : Int32) (x4 : Int32) (x5 : Int32) (x7 : Int32) (x8 : Int32) : Nat → Int32 → gH → Option (Unit × gH)
  | 0, _, _ => none
  | n + 1, x9, s0 =>
    if x9 < x4 then
      (ggI s0 a0 12 5).bind fun v34 =>
      if v34 = 0 then
        (ggR s0 a0 12 18).bind fun v36 =>
        gb2 (fX12_ruleAt x1 (15 + (2 * x9)) s0) fun r37 s38 =>
        (gaI s38 v36 2 r37).bind fun v39 =>
        if v39 = x7 then
          (ggR s38 a0 12 18).bind fun v41 =>
          gb2 (fX12_ruleAt x1 ((15 + (2 * x9)) + 1) s38) fun r42 s43 =>
          (gaI s43 v41 2 r42).bind fun v44 =>
          if v44 = x8 then
            gb2 (gcv s43 a0 12 (fX12_fail a0 4 x5 s43)) fun r46 s47 =>
            gX12_byTold_L148 k219 a0 x1 x3 x4 x5 x7 x8 n (x9 + 1) s47
          else
            gX12_byTold_L148 k219 a0 x1 x3 x4 x5 x7 x8 n (x9 + 1) s43
        else
          gX12_byTold_L148 k219 a0 x1 x3 x4 x5 x7 x8 n (x9 + 1) s38
      else
        k219 s0
    else
      k219 s0
set_option maxRecDepth 100000 in
set_option maxHeartbeats 4000000 in
theorem wX12_byTold_L148 {X : Nat × (Nat → Int32)} {d : Nat} (hd : 4 ≤ d) (k219 : gH → Option (Unit × gH)) (a0 : Nat) (x1 : Int32) (x3 : Int32) (x4 : Int32) (x5 : Int32) (x7 : Int32) (x8 : Int32) (hk219 : ∀ (s : gH), gGo X rvU mX12_byTold d 219 [(0, vr a0), (1, vi x1), (3, vi x3), (4, vi x4), (7, vi x7), (8, vi x8)] [] s (k219 s)) : ∀ (n : Nat) (x9 : Int32) (s0 : gH), gGo X rvU mX12_byTold d 148 [(0, vr a0), (1, vi x1), (3, vi x3), (4, vi x4), (5, vi x5), (7, vi x7), (8, vi x8), (9, vi x9)] [] s0 (gX12_byTold_L148 k219 a0 x1 x3 x4 x5 x7 x8 n x9 s0) := by
  intro n
  induction n with
  | zero => intros; exact go_none
  | succ n ih =>
    intro x9 s0
    show gGo _ _ _ _ _ _ _ _ (gX12_byTold_L148 k219 a0 x1 x3 x4 x5 x7 x8 (n + 1) x9 s0)
    unfold gX12_byTold_L148
    refine go_iload 7 dX12_byTold_148 rfl ?_
    refine go_iload 3 dX12_byTold_150 rfl ?_
    refine go_icmp_ge (tgt := 219) dX12_byTold_152 (by decide) (fun h33 => ?_) (fun h33 => ?_)
    · refine go_aload_n 0 dX12_byTold_155 rfl rfl ?_
      refine go_getI gf_RX12_117 gcf_12 gft_12_5 dX12_byTold_156 (fun v34 => ?_)
      refine go_if_ne (tgt := 219) dX12_byTold_159 (by decide) (fun h35 => ?_) (fun h35 => ?_)
      · refine go_aload_n 0 dX12_byTold_162 rfl rfl ?_
        refine go_getR gf_RX12_36 gcf_12 gft_12_18 dX12_byTold_163 (fun v36 => ?_)
        refine go_iload_n 1 dX12_byTold_166 rfl rfl ?_
        refine go_bipush (v := 15) dX12_byTold_167 (by decide) ?_
        refine go_iconst (v := 2) dX12_byTold_169 (by decide) ?_
        refine go_iload 7 dX12_byTold_170 rfl ?_
        refine go_imul dX12_byTold_172 ?_
        refine go_iadd dX12_byTold_173 ?_
        refine go_callS_I (as := [vi x1, vi (15 + (2 * x9))]) gk_RX12_186 gmf_X12_ruleAt (by omega) rfl rfl (Nat.le_of_ble_eq_true rfl) dX12_byTold_174 (fun _ _ h => cX12_ruleAt_c (by omega) h) (fun r37 s38 _ => ?_)
        refine go_iaload dX12_byTold_177 (fun v39 _ => ?_)
        refine go_iload 5 dX12_byTold_178 rfl ?_
        refine go_icmp_ne (tgt := 213) dX12_byTold_180 (by decide) (fun h40 => ?_) (fun h40 => ?_)
        · refine go_aload_n 0 dX12_byTold_183 rfl rfl ?_
          refine go_getR gf_RX12_36 gcf_12 gft_12_18 dX12_byTold_184 (fun v41 => ?_)
          refine go_iload_n 1 dX12_byTold_187 rfl rfl ?_
          refine go_bipush (v := 15) dX12_byTold_188 (by decide) ?_
          refine go_iconst (v := 2) dX12_byTold_190 (by decide) ?_
          refine go_iload 7 dX12_byTold_191 rfl ?_
          refine go_imul dX12_byTold_193 ?_
          refine go_iadd dX12_byTold_194 ?_
          refine go_iconst (v := 1) dX12_byTold_195 (by decide) ?_
          refine go_iadd dX12_byTold_196 ?_
          refine go_callS_I (as := [vi x1, vi ((15 + (2 * x9)) + 1)]) gk_RX12_186 gmf_X12_ruleAt (by omega) rfl rfl (Nat.le_of_ble_eq_true rfl) dX12_byTold_197 (fun _ _ h => cX12_ruleAt_c (by omega) h) (fun r42 s43 _ => ?_)
          refine go_iaload dX12_byTold_200 (fun v44 _ => ?_)
          refine go_iload 6 dX12_byTold_201 rfl ?_
          refine go_icmp_ne (tgt := 213) dX12_byTold_203 (by decide) (fun h45 => ?_) (fun h45 => ?_)
          · refine go_aload_n 0 dX12_byTold_206 rfl rfl ?_
            refine go_iconst (v := 4) dX12_byTold_207 (by decide) ?_
            refine go_iload 4 dX12_byTold_208 rfl ?_
            refine go_callV_v (as := [vi 4, vi x5]) gk_RX12_142 gmf_X12_fail (by decide) rfl (by omega) rfl rfl (Nat.le_of_ble_eq_true rfl) dX12_byTold_210 (fun _ _ h => cX12_fail_c (by omega) h) (fun r46 s47 _ => ?_)
            refine go_iinc (v := 1) (L' := [(9, vi (x9 + 1)), (0, vr a0), (1, vi x1), (3, vi x3), (4, vi x4), (5, vi x5), (7, vi x7), (8, vi x8)]) 7 dX12_byTold_213 rfl (by decide) (by decide) rfl ?_
            refine go_goto (tgt := 148) dX12_byTold_216 (by decide) ?_
            exact go_sub [1, 2, 3, 4, 5, 6, 7, 0] (ih (x9 + 1) s47) rfl
          · refine go_iinc (v := 1) (L' := [(9, vi (x9 + 1)), (0, vr a0), (1, vi x1), (3, vi x3), (4, vi x4), (5, vi x5), (7, vi x7), (8, vi x8)]) 7 dX12_byTold_213 rfl (by decide) (by decide) rfl ?_
            refine go_goto (tgt := 148) dX12_byTold_216 (by decide) ?_
            exact go_sub [1, 2, 3, 4, 5, 6, 7, 0] (ih (x9 + 1) s43) rfl
        · refine go_iinc (v := 1) (L' := [(9, vi (x9 + 1)), (0, vr a0), (1, vi x1), (3, vi x3), (4, vi x4), (5, vi x5), (7, vi x7), (8, vi x8)]) 7 dX12_byTold_213 rfl (by decide) (by decide) rfl ?_
          refine go_goto (tgt := 148) dX12_byTold_216 (by decide) ?_
          exact go_sub [1, 2, 3, 4, 5, 6, 7, 0] (ih (x9 + 1) s38) rfl
      · exact go_sub [0, 1, 2, 3, 5, 6] (hk219 s0) rfl
    · exact go_sub [0, 1, 2, 3, 5, 6] (hk219 s0) rfl
def gX12_byTold_L33  (a0 : Nat) (x1 : Int32) (x3 : Int32) : Nat → Int32 → gH → Option (Unit × gH)
  | 0, _, _ => none
  | n + 1, x2, s0 =>
    if x2 = 0 then
      some ((), s0)
    else
      (ggR s0 a0 12 18).bind fun v14 =>
      gb2 (fX12_ruleAt x1 14 s0) fun r15 s16 =>
      (gaI s16 v14 2 r15).bind fun v17 =>
      gb2 (gcv s16 a0 12 (fX12_room a0 v17 s16)) fun r18 s19 =>
      (ggI s19 a0 12 2).bind fun v20 =>
      (ggI s19 a0 12 5).bind fun v21 =>
      gjn (fun (z23 : Int32) (s24 : gH) =>
          gjn (fun (s26 : gH) =>
              gjn (fun (z28 : Int32) (s29 : gH) =>
                  gb2 (gcv s29 a0 12 (fX12_weekday a0 s29)) fun r30 s31 =>
                  gX12_byTold_L148
                    (fun s48 =>
                      (ggI s48 a0 12 5).bind fun v49 =>
                      gjn (fun (s51 : gH) =>
                          gb2 (gcv s51 a0 12 (fX12_takesSign a0 44 s51)) fun r52 s53 =>
                          gX12_byTold_L33 a0 x1 x3 n r52 s53
                      ) fun j50 =>
                      if v49 = 0 then
                        (ggR s48 a0 12 18).bind fun v55 =>
                        gb2 (fX12_ruleAt x1 (15 + (2 * v17)) s48) fun r56 s57 =>
                        (saI s57 v55 2 r56 z28).bind fun s58 =>
                        (ggR s58 a0 12 18).bind fun v59 =>
                        gb2 (fX12_ruleAt x1 ((15 + (2 * v17)) + 1) s58) fun r60 s61 =>
                        (saI s61 v59 2 r60 r30).bind fun s62 =>
                        (ggR s62 a0 12 18).bind fun v63 =>
                        gb2 (fX12_ruleAt x1 14 s62) fun r64 s65 =>
                        (gaI s65 v63 2 r64).bind fun v66 =>
                        (saI s65 v63 2 r64 (v66 + 1)).bind fun s67 =>
                        j50 s67
                      else
                        j50 s48)
                    a0 x1 x3 v17 v20 z28 r30 20000 0 s31
              ) fun j27 =>
              if z23 = 0 then
                j27 0 s26
              else
                gb2 (gcv s26 a0 12 (fX12_place a0 53 s26)) fun r69 s70 =>
                j27 r69 s70
          ) fun j25 =>
          if z23 = 0 then
            j25 s24
          else
            if x3 = 0 then
              gb2 (gcv s24 a0 12 (fX12_fail a0 4 v20 s24)) fun r73 s74 =>
              j25 s74
            else
              j25 s24
      ) fun j22 =>
      if v21 = 0 then
        gb2 (gcv s19 a0 12 (fX12_look a0 s19)) fun r76 s77 =>
        if r76 = 45 then
          j22 1 s77
        else
          gb2 (gcv s77 a0 12 (fX12_look a0 s77)) fun r79 s80 =>
          gb2 (fX12_isDigit r79 s80) fun r81 s82 =>
          if r81 = 0 then
            j22 0 s82
          else
            (ggI s82 a0 12 2).bind fun v84 =>
            (ggI s82 a0 12 4).bind fun v85 =>
            if v84 = v85 then
              j22 0 s82
            else
              j22 1 s82
      else
        j22 0 s19
set_option maxRecDepth 100000 in
set_option maxHeartbeats 4000000 in
theorem wX12_byTold_L33 {X : Nat × (Nat → Int32)} {d : Nat} (hd : 4 ≤ d)  (a0 : Nat) (x1 : Int32) (x3 : Int32) : ∀ (n : Nat) (x2 : Int32) (s0 : gH), gGo X rvU mX12_byTold d 33 [(0, vr a0), (1, vi x1), (2, vi x2), (3, vi x3)] [] s0 (gX12_byTold_L33 a0 x1 x3 n x2 s0) := by
  intro n
  induction n with
  | zero => intros; exact go_none
  | succ n ih =>
    intro x2 s0
    show gGo _ _ _ _ _ _ _ _ (gX12_byTold_L33 a0 x1 x3 (n + 1) x2 s0)
    unfold gX12_byTold_L33
    refine go_iload_n 2 dX12_byTold_33 rfl rfl ?_
    refine go_if_eq (tgt := 289) dX12_byTold_34 (by decide) (fun h13 => ?_) (fun h13 => ?_)
    · exact go_retv rfl dX12_byTold_289
    · refine go_aload_n 0 dX12_byTold_37 rfl rfl ?_
      refine go_getR gf_RX12_36 gcf_12 gft_12_18 dX12_byTold_38 (fun v14 => ?_)
      refine go_iload_n 1 dX12_byTold_41 rfl rfl ?_
      refine go_bipush (v := 14) dX12_byTold_42 (by decide) ?_
      refine go_callS_I (as := [vi x1, vi 14]) gk_RX12_186 gmf_X12_ruleAt (by omega) rfl rfl (Nat.le_of_ble_eq_true rfl) dX12_byTold_44 (fun _ _ h => cX12_ruleAt_c (by omega) h) (fun r15 s16 _ => ?_)
      refine go_iaload dX12_byTold_47 (fun v17 _ => ?_)
      refine go_istore (L' := [(4, vi v17), (0, vr a0), (1, vi x1), (2, vi x2), (3, vi x3)]) dX12_byTold_48 (by decide) rfl ?_
      refine go_aload_n 1 dX12_byTold_50 rfl rfl ?_
      refine go_iload 0 dX12_byTold_51 rfl ?_
      refine go_callV_v (as := [vi v17]) gk_RX12_209 gmf_X12_room (by decide) rfl (by omega) rfl rfl (Nat.le_of_ble_eq_true rfl) dX12_byTold_53 (fun _ _ h => cX12_room_c (by omega) h) (fun r18 s19 _ => ?_)
      refine go_aload_n 1 dX12_byTold_56 rfl rfl ?_
      refine go_getI gf_RX12_123 gcf_12 gft_12_2 dX12_byTold_57 (fun v20 => ?_)
      refine go_istore (L' := [(5, vi v20), (4, vi v17), (0, vr a0), (1, vi x1), (2, vi x2), (3, vi x3)]) dX12_byTold_60 (by decide) rfl ?_
      refine go_aload_n 2 dX12_byTold_62 rfl rfl ?_
      refine go_getI gf_RX12_117 gcf_12 gft_12_5 dX12_byTold_63 (fun v21 => ?_)
      refine go_gjn (P := fun j22 => ∀ (z23 : Int32) (s24 : gH), gGo X rvU mX12_byTold d 104 [(0, vr a0), (1, vi x1), (3, vi x3), (4, vi v17), (5, vi v20)] [vi z23] s24 (j22 z23 s24)) (fun z23 s24 => ?_) (fun j22 hj22 => ?_)
      · refine go_istore (L' := [(6, vi z23), (0, vr a0), (1, vi x1), (3, vi x3), (4, vi v17), (5, vi v20)]) dX12_byTold_104 (by decide) rfl ?_
        refine go_iload 0 dX12_byTold_106 rfl ?_
        refine go_gjn (P := fun j25 => ∀ (s26 : gH), gGo X rvU mX12_byTold d 122 [(0, vr a0), (1, vi x1), (3, vi x3), (4, vi v17), (5, vi v20), (6, vi z23)] [] s26 (j25 s26)) (fun s26 => ?_) (fun j25 hj25 => ?_)
        · refine go_iload 5 dX12_byTold_122 rfl ?_
          refine go_gjn (P := fun j27 => ∀ (z28 : Int32) (s29 : gH), gGo X rvU mX12_byTold d 137 [(0, vr a0), (1, vi x1), (3, vi x3), (4, vi v17), (5, vi v20)] [vi z28] s29 (j27 z28 s29)) (fun z28 s29 => ?_) (fun j27 hj27 => ?_)
          · refine go_istore (L' := [(7, vi z28), (0, vr a0), (1, vi x1), (3, vi x3), (4, vi v17), (5, vi v20)]) dX12_byTold_137 (by decide) rfl ?_
            refine go_aload_n 1 dX12_byTold_139 rfl rfl ?_
            refine go_callV_I (as := []) gk_RX12_222 gmf_X12_weekday (by decide) rfl (by omega) rfl rfl (Nat.le_of_ble_eq_true rfl) dX12_byTold_140 (fun _ _ h => cX12_weekday_c (by omega) h) (fun r30 s31 _ => ?_)
            refine go_istore (L' := [(8, vi r30), (7, vi z28), (0, vr a0), (1, vi x1), (3, vi x3), (4, vi v17), (5, vi v20)]) dX12_byTold_143 (by decide) rfl ?_
            refine go_iconst (v := 0) dX12_byTold_145 (by decide) ?_
            refine go_istore (L' := [(9, vi 0), (8, vi r30), (7, vi z28), (0, vr a0), (1, vi x1), (3, vi x3), (4, vi v17), (5, vi v20)]) dX12_byTold_146 (by decide) rfl ?_
            refine go_sub [3, 4, 5, 6, 7, 2, 1, 0] (wX12_byTold_L148 hd _ a0 x1 x3 v17 v20 z28 r30 ?_ 20000 0 s31) rfl
            intro s48
            refine go_aload_n 0 dX12_byTold_219 rfl rfl ?_
            refine go_getI gf_RX12_117 gcf_12 gft_12_5 dX12_byTold_220 (fun v49 => ?_)
            refine go_gjn (P := fun j50 => ∀ (s51 : gH), gGo X rvU mX12_byTold d 279 [(0, vr a0), (1, vi x1), (3, vi x3)] [] s51 (j50 s51)) (fun s51 => ?_) (fun j50 hj50 => ?_)
            · refine go_aload_n 0 dX12_byTold_279 rfl rfl ?_
              refine go_bipush (v := 44) dX12_byTold_280 (by decide) ?_
              refine go_callV_I (as := [vi 44]) gk_RX12_139 gmf_X12_takesSign (by decide) rfl (by omega) rfl rfl (Nat.le_of_ble_eq_true rfl) dX12_byTold_282 (fun _ _ h => cX12_takesSign_c (by omega) h) (fun r52 s53 _ => ?_)
              refine go_istore_n (L' := [(2, vi r52), (0, vr a0), (1, vi x1), (3, vi x3)]) dX12_byTold_285 rfl (by decide) rfl ?_
              refine go_goto (tgt := 33) dX12_byTold_286 (by decide) ?_
              exact go_sub [1, 2, 0, 3] (ih r52 s53) rfl
            · refine go_if_ne (tgt := 279) dX12_byTold_223 (by decide) (fun h54 => ?_) (fun h54 => ?_)
              · refine go_aload_n 0 dX12_byTold_226 rfl rfl ?_
                refine go_getR gf_RX12_36 gcf_12 gft_12_18 dX12_byTold_227 (fun v55 => ?_)
                refine go_iload_n 1 dX12_byTold_230 rfl rfl ?_
                refine go_bipush (v := 15) dX12_byTold_231 (by decide) ?_
                refine go_iconst (v := 2) dX12_byTold_233 (by decide) ?_
                refine go_iload 3 dX12_byTold_234 rfl ?_
                refine go_imul dX12_byTold_236 ?_
                refine go_iadd dX12_byTold_237 ?_
                refine go_callS_I (as := [vi x1, vi (15 + (2 * v17))]) gk_RX12_186 gmf_X12_ruleAt (by omega) rfl rfl (Nat.le_of_ble_eq_true rfl) dX12_byTold_238 (fun _ _ h => cX12_ruleAt_c (by omega) h) (fun r56 s57 _ => ?_)
                refine go_iload 4 dX12_byTold_241 rfl ?_
                refine go_iastore dX12_byTold_243 (fun s58 _ => ?_)
                refine go_aload_n 0 dX12_byTold_244 rfl rfl ?_
                refine go_getR gf_RX12_36 gcf_12 gft_12_18 dX12_byTold_245 (fun v59 => ?_)
                refine go_iload_n 1 dX12_byTold_248 rfl rfl ?_
                refine go_bipush (v := 15) dX12_byTold_249 (by decide) ?_
                refine go_iconst (v := 2) dX12_byTold_251 (by decide) ?_
                refine go_iload 3 dX12_byTold_252 rfl ?_
                refine go_imul dX12_byTold_254 ?_
                refine go_iadd dX12_byTold_255 ?_
                refine go_iconst (v := 1) dX12_byTold_256 (by decide) ?_
                refine go_iadd dX12_byTold_257 ?_
                refine go_callS_I (as := [vi x1, vi ((15 + (2 * v17)) + 1)]) gk_RX12_186 gmf_X12_ruleAt (by omega) rfl rfl (Nat.le_of_ble_eq_true rfl) dX12_byTold_258 (fun _ _ h => cX12_ruleAt_c (by omega) h) (fun r60 s61 _ => ?_)
                refine go_iload 5 dX12_byTold_261 rfl ?_
                refine go_iastore dX12_byTold_263 (fun s62 _ => ?_)
                refine go_aload_n 0 dX12_byTold_264 rfl rfl ?_
                refine go_getR gf_RX12_36 gcf_12 gft_12_18 dX12_byTold_265 (fun v63 => ?_)
                refine go_iload_n 1 dX12_byTold_268 rfl rfl ?_
                refine go_bipush (v := 14) dX12_byTold_269 (by decide) ?_
                refine go_callS_I (as := [vi x1, vi 14]) gk_RX12_186 gmf_X12_ruleAt (by omega) rfl rfl (Nat.le_of_ble_eq_true rfl) dX12_byTold_271 (fun _ _ h => cX12_ruleAt_c (by omega) h) (fun r64 s65 _ => ?_)
                refine go_dup2 dX12_byTold_274 rfl rfl ?_
                refine go_iaload dX12_byTold_275 (fun v66 _ => ?_)
                refine go_iconst (v := 1) dX12_byTold_276 (by decide) ?_
                refine go_iadd dX12_byTold_277 ?_
                refine go_iastore dX12_byTold_278 (fun s67 _ => ?_)
                exact go_sub [0, 1, 2] (hj50 s67) rfl
              · exact go_sub [0, 1, 2] (hj50 s48) rfl
          · refine go_if_eq (tgt := 136) dX12_byTold_124 (by decide) (fun h68 => ?_) (fun h68 => ?_)
            · refine go_iconst (v := 0) dX12_byTold_136 (by decide) ?_
              exact go_sub [0, 1, 2, 3, 4] (hj27 0 s26) rfl
            · refine go_aload_n 0 dX12_byTold_127 rfl rfl ?_
              refine go_bipush (v := 53) dX12_byTold_128 (by decide) ?_
              refine go_callV_I (as := [vi 53]) gk_RX12_215 gmf_X12_place (by decide) rfl (by omega) rfl rfl (Nat.le_of_ble_eq_true rfl) dX12_byTold_130 (fun _ _ h => cX12_place_c (by omega) h) (fun r69 s70 _ => ?_)
              refine go_goto (tgt := 137) dX12_byTold_133 (by decide) ?_
              exact go_sub [0, 1, 2, 3, 4] (hj27 r69 s70) rfl
        · refine go_if_eq (tgt := 122) dX12_byTold_108 (by decide) (fun h71 => ?_) (fun h71 => ?_)
          · exact go_sub [1, 2, 3, 4, 5, 0] (hj25 s24) rfl
          · refine go_iload_n 3 dX12_byTold_111 rfl rfl ?_
            refine go_if_ne (tgt := 122) dX12_byTold_112 (by decide) (fun h72 => ?_) (fun h72 => ?_)
            · refine go_aload_n 1 dX12_byTold_115 rfl rfl ?_
              refine go_iconst (v := 4) dX12_byTold_116 (by decide) ?_
              refine go_iload 5 dX12_byTold_117 rfl ?_
              refine go_callV_v (as := [vi 4, vi v20]) gk_RX12_142 gmf_X12_fail (by decide) rfl (by omega) rfl rfl (Nat.le_of_ble_eq_true rfl) dX12_byTold_119 (fun _ _ h => cX12_fail_c (by omega) h) (fun r73 s74 _ => ?_)
              exact go_sub [1, 2, 3, 4, 5, 0] (hj25 s74) rfl
            · exact go_sub [1, 2, 3, 4, 5, 0] (hj25 s24) rfl
      · refine go_if_ne (tgt := 103) dX12_byTold_66 (by decide) (fun h75 => ?_) (fun h75 => ?_)
        · refine go_aload_n 2 dX12_byTold_69 rfl rfl ?_
          refine go_callV_I (as := []) gk_RX12_129 gmf_X12_look (by decide) rfl (by omega) rfl rfl (Nat.le_of_ble_eq_true rfl) dX12_byTold_70 (fun _ _ h => cX12_look_c (by omega) h) (fun r76 s77 _ => ?_)
          refine go_bipush (v := 45) dX12_byTold_73 (by decide) ?_
          refine go_icmp_eq (tgt := 99) dX12_byTold_75 (by decide) (fun h78 => ?_) (fun h78 => ?_)
          · refine go_iconst (v := 1) dX12_byTold_99 (by decide) ?_
            refine go_goto (tgt := 104) dX12_byTold_100 (by decide) ?_
            exact go_sub [2, 3, 5, 1, 0] (hj22 1 s77) rfl
          · refine go_aload_n 2 dX12_byTold_78 rfl rfl ?_
            refine go_callV_I (as := []) gk_RX12_129 gmf_X12_look (by decide) rfl (by omega) rfl rfl (Nat.le_of_ble_eq_true rfl) dX12_byTold_79 (fun _ _ h => cX12_look_c (by omega) h) (fun r79 s80 _ => ?_)
            refine go_callS_I (as := [vi r79]) gk_RX12_146 gmf_X12_isDigit (by omega) rfl rfl (Nat.le_of_ble_eq_true rfl) dX12_byTold_82 (fun _ _ h => cX12_isDigit_c (by omega) h) (fun r81 s82 _ => ?_)
            refine go_if_eq (tgt := 103) dX12_byTold_85 (by decide) (fun h83 => ?_) (fun h83 => ?_)
            · refine go_iconst (v := 0) dX12_byTold_103 (by decide) ?_
              exact go_sub [2, 3, 5, 1, 0] (hj22 0 s82) rfl
            · refine go_aload_n 2 dX12_byTold_88 rfl rfl ?_
              refine go_getI gf_RX12_123 gcf_12 gft_12_2 dX12_byTold_89 (fun v84 => ?_)
              refine go_aload_n 2 dX12_byTold_92 rfl rfl ?_
              refine go_getI gf_RX12_136 gcf_12 gft_12_4 dX12_byTold_93 (fun v85 => ?_)
              refine go_icmp_eq (tgt := 103) dX12_byTold_96 (by decide) (fun h86 => ?_) (fun h86 => ?_)
              · refine go_iconst (v := 0) dX12_byTold_103 (by decide) ?_
                exact go_sub [2, 3, 5, 1, 0] (hj22 0 s82) rfl
              · refine go_iconst (v := 1) dX12_byTold_99 (by decide) ?_
                refine go_goto (tgt := 104) dX12_byTold_100 (by decide) ?_
                exact go_sub [2, 3, 5, 1, 0] (hj22 1 s82) rfl
        · refine go_iconst (v := 0) dX12_byTold_103 (by decide) ?_
          exact go_sub [2, 3, 5, 1, 0] (hj22 0 s19) rfl
def fX12_byTold (a0 : Nat) (x1 : Int32) (s0 : gH) : Option (Unit × gH) :=
  (ggI s0 a0 12 5).bind fun v1 =>
  gjn (fun (z3 : Int32) (s4 : gH) =>
      (ggR s4 a0 12 18).bind fun v5 =>
      gb2 (fX12_ruleAt x1 2 s4) fun r6 s7 =>
      (gaI s7 v5 2 r6).bind fun v8 =>
      gjn (fun (z10 : Int32) (s11 : gH) =>
          gX12_byTold_L33
            a0 x1 z10 20000 z3 s11
      ) fun j9 =>
      if v8 < 2 then
        j9 0 s7
      else
        j9 1 s7
  ) fun j2 =>
  if v1 = 0 then
    j2 1 s0
  else
    j2 0 s0
set_option maxRecDepth 100000 in
set_option maxHeartbeats 4000000 in
theorem wX12_byTold {X : Nat × (Nat → Int32)} {d : Nat} (hd : 4 ≤ d) {a0 : Nat} {x1 : Int32} {s0 : gH} : gGo X rvU mX12_byTold d 0 [(0, vr a0), (1, vi x1)] [] s0 (fX12_byTold a0 x1 s0) := by
  unfold fX12_byTold
  refine go_aload_n 0 dX12_byTold_0 rfl rfl ?_
  refine go_getI gf_RX12_117 gcf_12 gft_12_5 dX12_byTold_1 (fun v1 => ?_)
  refine go_gjn (P := fun j2 => ∀ (z3 : Int32) (s4 : gH), gGo X rvU mX12_byTold d 12 [(0, vr a0), (1, vi x1)] [vi z3] s4 (j2 z3 s4)) (fun z3 s4 => ?_) (fun j2 hj2 => ?_)
  · refine go_istore_n (L' := [(2, vi z3), (0, vr a0), (1, vi x1)]) dX12_byTold_12 rfl (by decide) rfl ?_
    refine go_aload_n 1 dX12_byTold_13 rfl rfl ?_
    refine go_getR gf_RX12_36 gcf_12 gft_12_18 dX12_byTold_14 (fun v5 => ?_)
    refine go_iload_n 2 dX12_byTold_17 rfl rfl ?_
    refine go_iconst (v := 2) dX12_byTold_18 (by decide) ?_
    refine go_callS_I (as := [vi x1, vi 2]) gk_RX12_186 gmf_X12_ruleAt (by omega) rfl rfl (Nat.le_of_ble_eq_true rfl) dX12_byTold_19 (fun _ _ h => cX12_ruleAt_c (by omega) h) (fun r6 s7 _ => ?_)
    refine go_iaload dX12_byTold_22 (fun v8 _ => ?_)
    refine go_iconst (v := 2) dX12_byTold_23 (by decide) ?_
    refine go_gjn (P := fun j9 => ∀ (z10 : Int32) (s11 : gH), gGo X rvU mX12_byTold d 32 [(0, vr a0), (1, vi x1), (2, vi z3)] [vi z10] s11 (j9 z10 s11)) (fun z10 s11 => ?_) (fun j9 hj9 => ?_)
    · refine go_istore_n (L' := [(3, vi z10), (0, vr a0), (1, vi x1), (2, vi z3)]) dX12_byTold_32 rfl (by decide) rfl ?_
      refine go_sub [1, 2, 3, 0] (wX12_byTold_L33 hd a0 x1 z10 20000 z3 s11) rfl
    · refine go_icmp_lt (tgt := 31) dX12_byTold_24 (by decide) (fun h87 => ?_) (fun h87 => ?_)
      · refine go_iconst (v := 0) dX12_byTold_31 (by decide) ?_
        exact go_sub [1, 2, 0] (hj9 0 s7) rfl
      · refine go_iconst (v := 1) dX12_byTold_27 (by decide) ?_
        refine go_goto (tgt := 32) dX12_byTold_28 (by decide) ?_
        exact go_sub [1, 2, 0] (hj9 1 s7) rfl
  · refine go_if_ne (tgt := 11) dX12_byTold_4 (by decide) (fun h88 => ?_) (fun h88 => ?_)
    · refine go_iconst (v := 1) dX12_byTold_7 (by decide) ?_
      refine go_goto (tgt := 12) dX12_byTold_8 (by decide) ?_
      exact go_sub [0, 1] (hj2 1 s0) rfl
    · refine go_iconst (v := 0) dX12_byTold_11 (by decide) ?_
      exact go_sub [0, 1] (hj2 0 s0) rfl
set_option maxRecDepth 100000 in
set_option maxHeartbeats 4000000 in
theorem cX12_byTold_c {d : Nat} (hd : 4 ≤ d) {a0 : Nat} {x1 : Int32} {s0 : gH} {r : Unit} {s1 : gH} (h : fX12_byTold a0 x1 s0 = some (r, s1)) : gMt mX12_byTold d [vr a0, vi x1] s0 none s1 :=
  gMt_of (rv := rvU) (by decide +kernel) (Nat.le_of_ble_eq_true rfl) rfl (fun _ => wX12_byTold hd) h
def fX12_partTold (a0 : Nat) (x1 : Int32) (x2 : Int32) (s0 : gH) : Option (Unit × gH) :=
  gjn (fun (s2 : gH) =>
      gjn (fun (s4 : gH) =>
          gjn (fun (s6 : gH) =>
              gjn (fun (s8 : gH) =>
                  gjn (fun (s10 : gH) =>
                      if x2 = 16 then
                        (ggR s10 a0 12 18).bind fun v12 =>
                        gb2 (fX12_ruleAt x1 41 s10) fun r13 s14 =>
                        gb2 (gcv s14 a0 12 (fX12_number a0 1 999 s14)) fun r15 s16 =>
                        (saI s16 v12 2 r13 r15).bind fun s17 =>
                        some ((), s17)
                      else
                        some ((), s10)
                  ) fun j9 =>
                  if x2 = 15 then
                    (ggR s8 a0 12 18).bind fun v19 =>
                    gb2 (fX12_ruleAt x1 40 s8) fun r20 s21 =>
                    gb2 (gcv s21 a0 12 (fX12_date a0 s21)) fun r22 s23 =>
                    (saI s23 v19 2 r20 r22).bind fun s24 =>
                    j9 s24
                  else
                    j9 s8
              ) fun j7 =>
              if x2 = 14 then
                gb2 (gcv s6 a0 12 (fX12_placesTold a0 x1 31 32 99 s6)) fun r26 s27 =>
                j7 s27
              else
                j7 s6
          ) fun j5 =>
          if x2 = 13 then
            gb2 (gcv s4 a0 12 (fX12_byTold a0 x1 s4)) fun r29 s30 =>
            j5 s30
          else
            j5 s4
      ) fun j3 =>
      if x2 = 12 then
        gb2 (gcv s2 a0 12 (fX12_placesTold a0 x1 5 6 31 s2)) fun r32 s33 =>
        j3 s33
      else
        j3 s2
  ) fun j1 =>
  if x2 = 11 then
    gb2 (gcv s0 a0 12 (fX12_inTold a0 x1 s0)) fun r35 s36 =>
    j1 s36
  else
    j1 s0
set_option maxRecDepth 100000 in
set_option maxHeartbeats 4000000 in
theorem wX12_partTold {X : Nat × (Nat → Int32)} {d : Nat} (hd : 5 ≤ d) {a0 : Nat} {x1 : Int32} {x2 : Int32} {s0 : gH} : gGo X rvU mX12_partTold d 0 [(0, vr a0), (1, vi x1), (2, vi x2)] [] s0 (fX12_partTold a0 x1 x2 s0) := by
  unfold fX12_partTold
  refine go_iload_n 2 dX12_partTold_0 rfl rfl ?_
  refine go_bipush (v := 11) dX12_partTold_1 (by decide) ?_
  refine go_gjn (P := fun j1 => ∀ (s2 : gH), gGo X rvU mX12_partTold d 11 [(0, vr a0), (1, vi x1), (2, vi x2)] [] s2 (j1 s2)) (fun s2 => ?_) (fun j1 hj1 => ?_)
  · refine go_iload_n 2 dX12_partTold_11 rfl rfl ?_
    refine go_bipush (v := 12) dX12_partTold_12 (by decide) ?_
    refine go_gjn (P := fun j3 => ∀ (s4 : gH), gGo X rvU mX12_partTold d 27 [(0, vr a0), (1, vi x1), (2, vi x2)] [] s4 (j3 s4)) (fun s4 => ?_) (fun j3 hj3 => ?_)
    · refine go_iload_n 2 dX12_partTold_27 rfl rfl ?_
      refine go_bipush (v := 13) dX12_partTold_28 (by decide) ?_
      refine go_gjn (P := fun j5 => ∀ (s6 : gH), gGo X rvU mX12_partTold d 38 [(0, vr a0), (1, vi x1), (2, vi x2)] [] s6 (j5 s6)) (fun s6 => ?_) (fun j5 hj5 => ?_)
      · refine go_iload_n 2 dX12_partTold_38 rfl rfl ?_
        refine go_bipush (v := 14) dX12_partTold_39 (by decide) ?_
        refine go_gjn (P := fun j7 => ∀ (s8 : gH), gGo X rvU mX12_partTold d 55 [(0, vr a0), (1, vi x1), (2, vi x2)] [] s8 (j7 s8)) (fun s8 => ?_) (fun j7 hj7 => ?_)
        · refine go_iload_n 2 dX12_partTold_55 rfl rfl ?_
          refine go_bipush (v := 15) dX12_partTold_56 (by decide) ?_
          refine go_gjn (P := fun j9 => ∀ (s10 : gH), gGo X rvU mX12_partTold d 76 [(0, vr a0), (1, vi x1), (2, vi x2)] [] s10 (j9 s10)) (fun s10 => ?_) (fun j9 hj9 => ?_)
          · refine go_iload_n 2 dX12_partTold_76 rfl rfl ?_
            refine go_bipush (v := 16) dX12_partTold_77 (by decide) ?_
            refine go_icmp_ne (tgt := 101) dX12_partTold_79 (by decide) (fun h11 => ?_) (fun h11 => ?_)
            · refine go_aload_n 0 dX12_partTold_82 rfl rfl ?_
              refine go_getR gf_RX12_36 gcf_12 gft_12_18 dX12_partTold_83 (fun v12 => ?_)
              refine go_iload_n 1 dX12_partTold_86 rfl rfl ?_
              refine go_bipush (v := 41) dX12_partTold_87 (by decide) ?_
              refine go_callS_I (as := [vi x1, vi 41]) gk_RX12_186 gmf_X12_ruleAt (by omega) rfl rfl (Nat.le_of_ble_eq_true rfl) dX12_partTold_89 (fun _ _ h => cX12_ruleAt_c (by omega) h) (fun r13 s14 _ => ?_)
              refine go_aload_n 0 dX12_partTold_92 rfl rfl ?_
              refine go_iconst (v := 1) dX12_partTold_93 (by decide) ?_
              refine go_sipush (v := 999) dX12_partTold_94 (by decide) ?_
              refine go_callV_I (as := [vi 1, vi 999]) gk_RX12_198 gmf_X12_number (by decide) rfl (by omega) rfl rfl (Nat.le_of_ble_eq_true rfl) dX12_partTold_97 (fun _ _ h => cX12_number_c (by omega) h) (fun r15 s16 _ => ?_)
              refine go_iastore dX12_partTold_100 (fun s17 _ => ?_)
              exact go_retv rfl dX12_partTold_101
            · exact go_retv rfl dX12_partTold_101
          · refine go_icmp_ne (tgt := 76) dX12_partTold_58 (by decide) (fun h18 => ?_) (fun h18 => ?_)
            · refine go_aload_n 0 dX12_partTold_61 rfl rfl ?_
              refine go_getR gf_RX12_36 gcf_12 gft_12_18 dX12_partTold_62 (fun v19 => ?_)
              refine go_iload_n 1 dX12_partTold_65 rfl rfl ?_
              refine go_bipush (v := 40) dX12_partTold_66 (by decide) ?_
              refine go_callS_I (as := [vi x1, vi 40]) gk_RX12_186 gmf_X12_ruleAt (by omega) rfl rfl (Nat.le_of_ble_eq_true rfl) dX12_partTold_68 (fun _ _ h => cX12_ruleAt_c (by omega) h) (fun r20 s21 _ => ?_)
              refine go_aload_n 0 dX12_partTold_71 rfl rfl ?_
              refine go_callV_I (as := []) gk_RX12_235 gmf_X12_date (by decide) rfl (by omega) rfl rfl (Nat.le_of_ble_eq_true rfl) dX12_partTold_72 (fun _ _ h => cX12_date_c (by omega) h) (fun r22 s23 _ => ?_)
              refine go_iastore dX12_partTold_75 (fun s24 _ => ?_)
              exact go_sub [0, 1, 2] (hj9 s24) rfl
            · exact go_sub [0, 1, 2] (hj9 s8) rfl
        · refine go_icmp_ne (tgt := 55) dX12_partTold_41 (by decide) (fun h25 => ?_) (fun h25 => ?_)
          · refine go_aload_n 0 dX12_partTold_44 rfl rfl ?_
            refine go_iload_n 1 dX12_partTold_45 rfl rfl ?_
            refine go_bipush (v := 31) dX12_partTold_46 (by decide) ?_
            refine go_bipush (v := 32) dX12_partTold_48 (by decide) ?_
            refine go_bipush (v := 99) dX12_partTold_50 (by decide) ?_
            refine go_callV_v (as := [vi x1, vi 31, vi 32, vi 99]) gk_RX12_228 gmf_X12_placesTold (by decide) rfl (by omega) rfl rfl (Nat.le_of_ble_eq_true rfl) dX12_partTold_52 (fun _ _ h => cX12_placesTold_c (by omega) h) (fun r26 s27 _ => ?_)
            exact go_sub [0, 1, 2] (hj7 s27) rfl
          · exact go_sub [0, 1, 2] (hj7 s6) rfl
      · refine go_icmp_ne (tgt := 38) dX12_partTold_30 (by decide) (fun h28 => ?_) (fun h28 => ?_)
        · refine go_aload_n 0 dX12_partTold_33 rfl rfl ?_
          refine go_iload_n 1 dX12_partTold_34 rfl rfl ?_
          refine go_callV_v (as := [vi x1]) gk_RX12_232 gmf_X12_byTold (by decide) rfl (by omega) rfl rfl (Nat.le_of_ble_eq_true rfl) dX12_partTold_35 (fun _ _ h => cX12_byTold_c (by omega) h) (fun r29 s30 _ => ?_)
          exact go_sub [0, 1, 2] (hj5 s30) rfl
        · exact go_sub [0, 1, 2] (hj5 s4) rfl
    · refine go_icmp_ne (tgt := 27) dX12_partTold_14 (by decide) (fun h31 => ?_) (fun h31 => ?_)
      · refine go_aload_n 0 dX12_partTold_17 rfl rfl ?_
        refine go_iload_n 1 dX12_partTold_18 rfl rfl ?_
        refine go_iconst (v := 5) dX12_partTold_19 (by decide) ?_
        refine go_bipush (v := 6) dX12_partTold_20 (by decide) ?_
        refine go_bipush (v := 31) dX12_partTold_22 (by decide) ?_
        refine go_callV_v (as := [vi x1, vi 5, vi 6, vi 31]) gk_RX12_228 gmf_X12_placesTold (by decide) rfl (by omega) rfl rfl (Nat.le_of_ble_eq_true rfl) dX12_partTold_24 (fun _ _ h => cX12_placesTold_c (by omega) h) (fun r32 s33 _ => ?_)
        exact go_sub [0, 1, 2] (hj3 s33) rfl
      · exact go_sub [0, 1, 2] (hj3 s2) rfl
  · refine go_icmp_ne (tgt := 11) dX12_partTold_3 (by decide) (fun h34 => ?_) (fun h34 => ?_)
    · refine go_aload_n 0 dX12_partTold_6 rfl rfl ?_
      refine go_iload_n 1 dX12_partTold_7 rfl rfl ?_
      refine go_callV_v (as := [vi x1]) gk_RX12_225 gmf_X12_inTold (by decide) rfl (by omega) rfl rfl (Nat.le_of_ble_eq_true rfl) dX12_partTold_8 (fun _ _ h => cX12_inTold_c (by omega) h) (fun r35 s36 _ => ?_)
      exact go_sub [0, 1, 2] (hj1 s36) rfl
    · exact go_sub [0, 1, 2] (hj1 s0) rfl
set_option maxRecDepth 100000 in
set_option maxHeartbeats 4000000 in
theorem cX12_partTold_c {d : Nat} (hd : 5 ≤ d) {a0 : Nat} {x1 : Int32} {x2 : Int32} {s0 : gH} {r : Unit} {s1 : gH} (h : fX12_partTold a0 x1 x2 s0 = some (r, s1)) : gMt mX12_partTold d [vr a0, vi x1, vi x2] s0 none s1 :=
  gMt_of (rv := rvU) (by decide +kernel) (Nat.le_of_ble_eq_true rfl) rfl (fun _ => wX12_partTold hd) h
def gX12_ruleTold_L187 (k264 : gH → Option (Unit × gH)) (a0 : Nat) (x2 : Int32) : Nat → Int32 → Int32 → gH → Option (Unit × gH)
  | 0, _, _, _ => none
  | n + 1, x4, x5, s0 =>
    (ggI s0 a0 12 5).bind fun v52 =>
    if v52 = 0 then
      gb2 (fX12_isIn x5.toInt64 11 16 s0) fun r54 s55 =>
      if r54 = 0 then
        k264 s55
      else
        gb2 (fX12_isOf x4 x5 s55) fun r57 s58 =>
        gjn (fun (s60 : gH) =>
            glet (x4 ||| (1 <<< (x5 &&& 31))) fun y61 =>
            (ggI s60 a0 12 5).bind fun v62 =>
            gjn (fun (s64 : gH) =>
                gb2 (gcv s64 a0 12 (fX12_partTold a0 x2 x5 s64)) fun r65 s66 =>
                gb2 (gcv s66 a0 12 (fX12_ownHere a0 s66)) fun r67 s68 =>
                gX12_ruleTold_L187 k264 a0 x2 n y61 r67 s68
            ) fun j63 =>
            if v62 = 0 then
              gb2 (gcv s60 a0 12 (fX12_passes a0 s60)) fun r70 s71 =>
              j63 s71
            else
              j63 s60
        ) fun j59 =>
        if r57 = 0 then
          j59 s58
        else
          (ggI s58 a0 12 2).bind fun v73 =>
          gb2 (gcv s58 a0 12 (fX12_fail a0 4 v73 s58)) fun r74 s75 =>
          j59 s75
    else
      k264 s0
set_option maxRecDepth 100000 in
set_option maxHeartbeats 4000000 in
theorem wX12_ruleTold_L187 {X : Nat × (Nat → Int32)} {d : Nat} (hd : 6 ≤ d) (k264 : gH → Option (Unit × gH)) (a0 : Nat) (x2 : Int32) (hk264 : ∀ (s : gH), gGo X rvU mX12_ruleTold d 264 [(0, vr a0)] [] s (k264 s)) : ∀ (n : Nat) (x4 : Int32) (x5 : Int32) (s0 : gH), gGo X rvU mX12_ruleTold d 187 [(0, vr a0), (2, vi x2), (4, vi x4), (5, vi x5)] [] s0 (gX12_ruleTold_L187 k264 a0 x2 n x4 x5 s0) := by
  intro n
  induction n with
  | zero => intros; exact go_none
  | succ n ih =>
    intro x4 x5 s0
    show gGo _ _ _ _ _ _ _ _ (gX12_ruleTold_L187 k264 a0 x2 (n + 1) x4 x5 s0)
    unfold gX12_ruleTold_L187
    refine go_aload_n 0 dX12_ruleTold_187 rfl rfl ?_
    refine go_getI gf_RX12_117 gcf_12 gft_12_5 dX12_ruleTold_188 (fun v52 => ?_)
    refine go_if_ne (tgt := 264) dX12_ruleTold_191 (by decide) (fun h53 => ?_) (fun h53 => ?_)
    · refine go_iload 3 dX12_ruleTold_194 rfl ?_
      refine go_i2l dX12_ruleTold_196 ?_
      refine go_ldc2 gcl_RX12_246 dX12_ruleTold_197 ?_
      refine go_ldc2 gcl_RX12_248 dX12_ruleTold_200 ?_
      refine go_callS_I (as := [vl x5.toInt64, vl 11, vl 16]) gk_RX12_110 gmf_X12_isIn (by omega) rfl rfl (Nat.le_of_ble_eq_true rfl) dX12_ruleTold_203 (fun _ _ h => cX12_isIn_c (by omega) h) (fun r54 s55 _ => ?_)
      refine go_if_eq (tgt := 264) dX12_ruleTold_206 (by decide) (fun h56 => ?_) (fun h56 => ?_)
      · exact go_sub [0] (hk264 s55) rfl
      · refine go_iload 2 dX12_ruleTold_209 rfl ?_
        refine go_iload 3 dX12_ruleTold_211 rfl ?_
        refine go_callS_I (as := [vi x4, vi x5]) gk_RX12_212 gmf_X12_isOf (by omega) rfl rfl (Nat.le_of_ble_eq_true rfl) dX12_ruleTold_213 (fun _ _ h => cX12_isOf_c (by omega) h) (fun r57 s58 _ => ?_)
        refine go_gjn (P := fun j59 => ∀ (s60 : gH), gGo X rvU mX12_ruleTold d 228 [(0, vr a0), (2, vi x2), (4, vi x4), (5, vi x5)] [] s60 (j59 s60)) (fun s60 => ?_) (fun j59 hj59 => ?_)
        · refine go_iload 2 dX12_ruleTold_228 rfl ?_
          refine go_iconst (v := 1) dX12_ruleTold_230 (by decide) ?_
          refine go_iload 3 dX12_ruleTold_231 rfl ?_
          refine go_ishl dX12_ruleTold_233 ?_
          refine go_ior dX12_ruleTold_234 ?_
          refine go_istore_l (L' := fun y61 => [(4, vi y61), (0, vr a0), (2, vi x2), (5, vi x5)]) dX12_ruleTold_235 (by decide) (fun _ => rfl) (fun y61 => ?_)
          refine go_aload_n 1 dX12_ruleTold_237 rfl rfl ?_
          refine go_getI gf_RX12_117 gcf_12 gft_12_5 dX12_ruleTold_238 (fun v62 => ?_)
          refine go_gjn (P := fun j63 => ∀ (s64 : gH), gGo X rvU mX12_ruleTold d 248 [(0, vr a0), (2, vi x2), (4, vi y61), (5, vi x5)] [] s64 (j63 s64)) (fun s64 => ?_) (fun j63 hj63 => ?_)
          · refine go_aload_n 0 dX12_ruleTold_248 rfl rfl ?_
            refine go_iload_n 1 dX12_ruleTold_249 rfl rfl ?_
            refine go_iload 3 dX12_ruleTold_250 rfl ?_
            refine go_callV_v (as := [vi x2, vi x5]) gk_RX12_250 gmf_X12_partTold (by decide) rfl (by omega) rfl rfl (Nat.le_of_ble_eq_true rfl) dX12_ruleTold_252 (fun _ _ h => cX12_partTold_c (by omega) h) (fun r65 s66 _ => ?_)
            refine go_aload_n 0 dX12_ruleTold_255 rfl rfl ?_
            refine go_callV_I (as := []) gk_RX12_160 gmf_X12_ownHere (by decide) rfl (by omega) rfl rfl (Nat.le_of_ble_eq_true rfl) dX12_ruleTold_256 (fun _ _ h => cX12_ownHere_c (by omega) h) (fun r67 s68 _ => ?_)
            refine go_istore (L' := [(5, vi r67), (0, vr a0), (2, vi x2), (4, vi y61)]) dX12_ruleTold_259 (by decide) rfl ?_
            refine go_goto (tgt := 187) dX12_ruleTold_261 (by decide) ?_
            exact go_sub [1, 2, 3, 0] (ih y61 r67 s68) rfl
          · refine go_if_ne (tgt := 248) dX12_ruleTold_241 (by decide) (fun h69 => ?_) (fun h69 => ?_)
            · refine go_aload_n 1 dX12_ruleTold_244 rfl rfl ?_
              refine go_callV_v (as := []) gk_RX12_163 gmf_X12_passes (by decide) rfl (by omega) rfl rfl (Nat.le_of_ble_eq_true rfl) dX12_ruleTold_245 (fun _ _ h => cX12_passes_c (by omega) h) (fun r70 s71 _ => ?_)
              exact go_sub [1, 2, 0, 3] (hj63 s71) rfl
            · exact go_sub [1, 2, 0, 3] (hj63 s60) rfl
        · refine go_if_eq (tgt := 228) dX12_ruleTold_216 (by decide) (fun h72 => ?_) (fun h72 => ?_)
          · exact go_sub [0, 1, 2, 3] (hj59 s58) rfl
          · refine go_aload_n 0 dX12_ruleTold_219 rfl rfl ?_
            refine go_iconst (v := 4) dX12_ruleTold_220 (by decide) ?_
            refine go_aload_n 0 dX12_ruleTold_221 rfl rfl ?_
            refine go_getI gf_RX12_123 gcf_12 gft_12_2 dX12_ruleTold_222 (fun v73 => ?_)
            refine go_callV_v (as := [vi 4, vi v73]) gk_RX12_142 gmf_X12_fail (by decide) rfl (by omega) rfl rfl (Nat.le_of_ble_eq_true rfl) dX12_ruleTold_225 (fun _ _ h => cX12_fail_c (by omega) h) (fun r74 s75 _ => ?_)
            exact go_sub [0, 1, 2, 3] (hj59 s75) rfl
    · exact go_sub [0] (hk264 s0) rfl
def fX12_ruleTold (a0 : Nat) (x1 : Int32) (s0 : gH) : Option (Unit × gH) :=
  (ggR s0 a0 12 18).bind fun v1 =>
  (gaI s0 v1 2 0).bind fun v2 =>
  gjn (fun (s4 : gH) =>
      (ggI s4 a0 12 5).bind fun v5 =>
      if v5 = 0 then
        (ggR s4 a0 12 18).bind fun v7 =>
        gb2 (fX12_ruleAt v2 0 s4) fun r8 s9 =>
        gb2 (gcv s9 a0 12 (fX12_newName a0 s9)) fun r10 s11 =>
        (saI s11 v7 2 r8 r10).bind fun s12 =>
        gb2 (gcv s12 a0 12 (fX12_asks a0 18 s12)) fun r13 s14 =>
        (ggR s14 a0 12 18).bind fun v15 =>
        gb2 (fX12_ruleAt v2 1 s14) fun r16 s17 =>
        gb2 (gcv s17 a0 12 (fX12_number a0 1 99 s17)) fun r18 s19 =>
        (saI s19 v15 2 r16 r18).bind fun s20 =>
        gb2 (gcv s20 a0 12 (fX12_ownHere a0 s20)) fun r21 s22 =>
        (ggI s22 a0 12 5).bind fun v23 =>
        gjn (fun (s25 : gH) =>
            (ggI s25 a0 12 5).bind fun v26 =>
            gjn (fun (s28 : gH) =>
                (ggR s28 a0 12 18).bind fun v29 =>
                gb2 (fX12_ruleAt v2 2 s28) fun r30 s31 =>
                (saI s31 v29 2 r30 r21).bind fun s32 =>
                gb2 (gcv s32 a0 12 (fX12_asks a0 19 s32)) fun r33 s34 =>
                (ggR s34 a0 12 18).bind fun v35 =>
                gb2 (fX12_ruleAt v2 3 s34) fun r36 s37 =>
                gb2 (gcv s37 a0 12 (fX12_date a0 s37)) fun r38 s39 =>
                (saI s39 v35 2 r36 r38).bind fun s40 =>
                (ggR s40 a0 12 18).bind fun v41 =>
                gb2 (fX12_ruleAt v2 40 s40) fun r42 s43 =>
                (saI s43 v41 2 r42 (-1)).bind fun s44 =>
                (ggR s44 a0 12 18).bind fun v45 =>
                gb2 (fX12_ruleAt v2 41 s44) fun r46 s47 =>
                (saI s47 v45 2 r46 (-1)).bind fun s48 =>
                gb2 (gcv s48 a0 12 (fX12_ownHere a0 s48)) fun r49 s50 =>
                gX12_ruleTold_L187
                  (fun s76 =>
                    (ggI s76 a0 12 5).bind fun v77 =>
                    if v77 = 0 then
                      (ggR s76 a0 12 18).bind fun v79 =>
                      (gaI s76 v79 2 0).bind fun v80 =>
                      (saI s76 v79 2 0 (v80 + 1)).bind fun s81 =>
                      some ((), s81)
                    else
                      some ((), s76))
                  a0 v2 20000 0 r49 s50
            ) fun j27 =>
            if v26 = 0 then
              gb2 (gcv s25 a0 12 (fX12_passes a0 s25)) fun r83 s84 =>
              j27 s84
            else
              j27 s25
        ) fun j24 =>
        if v23 = 0 then
          gb2 (fX12_isIn r21.toInt64 0 3 s22) fun r86 s87 =>
          if r86 = 0 then
            gb2 (gcv s87 a0 12 (fX12_look a0 s87)) fun r89 s90 =>
            gjn (fun (z92 : Int32) (z93 : Int32) (b94 : Nat) (s95 : gH) =>
                gb2 (gcv s95 b94 12 (fX12_fail b94 z93 z92 s95)) fun r96 s97 =>
                j24 s97
            ) fun j91 =>
            if r89 = -1 then
              (ggI s90 a0 12 3).bind fun v99 =>
              j91 v99 1 a0 s90
            else
              (ggI s90 a0 12 2).bind fun v100 =>
              j91 v100 1 a0 s90
          else
            j24 s87
        else
          j24 s22
      else
        some ((), s4)
  ) fun j3 =>
  if v2 = 6 then
    gb2 (gcv s0 a0 12 (fX12_fail a0 5 x1 s0)) fun r102 s103 =>
    j3 s103
  else
    j3 s0
set_option maxRecDepth 100000 in
set_option maxHeartbeats 4000000 in
theorem wX12_ruleTold {X : Nat × (Nat → Int32)} {d : Nat} (hd : 6 ≤ d) {a0 : Nat} {x1 : Int32} {s0 : gH} : gGo X rvU mX12_ruleTold d 0 [(0, vr a0), (1, vi x1)] [] s0 (fX12_ruleTold a0 x1 s0) := by
  unfold fX12_ruleTold
  refine go_aload_n 0 dX12_ruleTold_0 rfl rfl ?_
  refine go_getR gf_RX12_36 gcf_12 gft_12_18 dX12_ruleTold_1 (fun v1 => ?_)
  refine go_iconst (v := 0) dX12_ruleTold_4 (by decide) ?_
  refine go_iaload dX12_ruleTold_5 (fun v2 _ => ?_)
  refine go_istore_n (L' := [(2, vi v2), (0, vr a0), (1, vi x1)]) dX12_ruleTold_6 rfl (by decide) rfl ?_
  refine go_iload_n 0 dX12_ruleTold_7 rfl rfl ?_
  refine go_bipush (v := 6) dX12_ruleTold_8 (by decide) ?_
  refine go_gjn (P := fun j3 => ∀ (s4 : gH), gGo X rvU mX12_ruleTold d 19 [(0, vr a0), (2, vi v2)] [] s4 (j3 s4)) (fun s4 => ?_) (fun j3 hj3 => ?_)
  · refine go_aload_n 0 dX12_ruleTold_19 rfl rfl ?_
    refine go_getI gf_RX12_117 gcf_12 gft_12_5 dX12_ruleTold_20 (fun v5 => ?_)
    refine go_if_eq (tgt := 27) dX12_ruleTold_23 (by decide) (fun h6 => ?_) (fun h6 => ?_)
    · refine go_aload_n 0 dX12_ruleTold_27 rfl rfl ?_
      refine go_getR gf_RX12_36 gcf_12 gft_12_18 dX12_ruleTold_28 (fun v7 => ?_)
      refine go_iload_n 1 dX12_ruleTold_31 rfl rfl ?_
      refine go_iconst (v := 0) dX12_ruleTold_32 (by decide) ?_
      refine go_callS_I (as := [vi v2, vi 0]) gk_RX12_186 gmf_X12_ruleAt (by omega) rfl rfl (Nat.le_of_ble_eq_true rfl) dX12_ruleTold_33 (fun _ _ h => cX12_ruleAt_c (by omega) h) (fun r8 s9 _ => ?_)
      refine go_aload_n 0 dX12_ruleTold_36 rfl rfl ?_
      refine go_callV_I (as := []) gk_RX12_238 gmf_X12_newName (by decide) rfl (by omega) rfl rfl (Nat.le_of_ble_eq_true rfl) dX12_ruleTold_37 (fun _ _ h => cX12_newName_c (by omega) h) (fun r10 s11 _ => ?_)
      refine go_iastore dX12_ruleTold_40 (fun s12 _ => ?_)
      refine go_aload_n 0 dX12_ruleTold_41 rfl rfl ?_
      refine go_bipush (v := 18) dX12_ruleTold_42 (by decide) ?_
      refine go_callV_v (as := [vi 18]) gk_RX12_241 gmf_X12_asks (by decide) rfl (by omega) rfl rfl (Nat.le_of_ble_eq_true rfl) dX12_ruleTold_44 (fun _ _ h => cX12_asks_c (by omega) h) (fun r13 s14 _ => ?_)
      refine go_aload_n 0 dX12_ruleTold_47 rfl rfl ?_
      refine go_getR gf_RX12_36 gcf_12 gft_12_18 dX12_ruleTold_48 (fun v15 => ?_)
      refine go_iload_n 1 dX12_ruleTold_51 rfl rfl ?_
      refine go_iconst (v := 1) dX12_ruleTold_52 (by decide) ?_
      refine go_callS_I (as := [vi v2, vi 1]) gk_RX12_186 gmf_X12_ruleAt (by omega) rfl rfl (Nat.le_of_ble_eq_true rfl) dX12_ruleTold_53 (fun _ _ h => cX12_ruleAt_c (by omega) h) (fun r16 s17 _ => ?_)
      refine go_aload_n 0 dX12_ruleTold_56 rfl rfl ?_
      refine go_iconst (v := 1) dX12_ruleTold_57 (by decide) ?_
      refine go_bipush (v := 99) dX12_ruleTold_58 (by decide) ?_
      refine go_callV_I (as := [vi 1, vi 99]) gk_RX12_198 gmf_X12_number (by decide) rfl (by omega) rfl rfl (Nat.le_of_ble_eq_true rfl) dX12_ruleTold_60 (fun _ _ h => cX12_number_c (by omega) h) (fun r18 s19 _ => ?_)
      refine go_iastore dX12_ruleTold_63 (fun s20 _ => ?_)
      refine go_aload_n 0 dX12_ruleTold_64 rfl rfl ?_
      refine go_callV_I (as := []) gk_RX12_160 gmf_X12_ownHere (by decide) rfl (by omega) rfl rfl (Nat.le_of_ble_eq_true rfl) dX12_ruleTold_65 (fun _ _ h => cX12_ownHere_c (by omega) h) (fun r21 s22 _ => ?_)
      refine go_istore_n (L' := [(3, vi r21), (0, vr a0), (2, vi v2)]) dX12_ruleTold_68 rfl (by decide) rfl ?_
      refine go_aload_n 1 dX12_ruleTold_69 rfl rfl ?_
      refine go_getI gf_RX12_117 gcf_12 gft_12_5 dX12_ruleTold_70 (fun v23 => ?_)
      refine go_gjn (P := fun j24 => ∀ (s25 : gH), gGo X rvU mX12_ruleTold d 112 [(0, vr a0), (2, vi v2), (3, vi r21)] [] s25 (j24 s25)) (fun s25 => ?_) (fun j24 hj24 => ?_)
      · refine go_aload_n 0 dX12_ruleTold_112 rfl rfl ?_
        refine go_getI gf_RX12_117 gcf_12 gft_12_5 dX12_ruleTold_113 (fun v26 => ?_)
        refine go_gjn (P := fun j27 => ∀ (s28 : gH), gGo X rvU mX12_ruleTold d 123 [(0, vr a0), (2, vi v2), (3, vi r21)] [] s28 (j27 s28)) (fun s28 => ?_) (fun j27 hj27 => ?_)
        · refine go_aload_n 0 dX12_ruleTold_123 rfl rfl ?_
          refine go_getR gf_RX12_36 gcf_12 gft_12_18 dX12_ruleTold_124 (fun v29 => ?_)
          refine go_iload_n 1 dX12_ruleTold_127 rfl rfl ?_
          refine go_iconst (v := 2) dX12_ruleTold_128 (by decide) ?_
          refine go_callS_I (as := [vi v2, vi 2]) gk_RX12_186 gmf_X12_ruleAt (by omega) rfl rfl (Nat.le_of_ble_eq_true rfl) dX12_ruleTold_129 (fun _ _ h => cX12_ruleAt_c (by omega) h) (fun r30 s31 _ => ?_)
          refine go_iload_n 2 dX12_ruleTold_132 rfl rfl ?_
          refine go_iastore dX12_ruleTold_133 (fun s32 _ => ?_)
          refine go_aload_n 0 dX12_ruleTold_134 rfl rfl ?_
          refine go_bipush (v := 19) dX12_ruleTold_135 (by decide) ?_
          refine go_callV_v (as := [vi 19]) gk_RX12_241 gmf_X12_asks (by decide) rfl (by omega) rfl rfl (Nat.le_of_ble_eq_true rfl) dX12_ruleTold_137 (fun _ _ h => cX12_asks_c (by omega) h) (fun r33 s34 _ => ?_)
          refine go_aload_n 0 dX12_ruleTold_140 rfl rfl ?_
          refine go_getR gf_RX12_36 gcf_12 gft_12_18 dX12_ruleTold_141 (fun v35 => ?_)
          refine go_iload_n 1 dX12_ruleTold_144 rfl rfl ?_
          refine go_iconst (v := 3) dX12_ruleTold_145 (by decide) ?_
          refine go_callS_I (as := [vi v2, vi 3]) gk_RX12_186 gmf_X12_ruleAt (by omega) rfl rfl (Nat.le_of_ble_eq_true rfl) dX12_ruleTold_146 (fun _ _ h => cX12_ruleAt_c (by omega) h) (fun r36 s37 _ => ?_)
          refine go_aload_n 0 dX12_ruleTold_149 rfl rfl ?_
          refine go_callV_I (as := []) gk_RX12_235 gmf_X12_date (by decide) rfl (by omega) rfl rfl (Nat.le_of_ble_eq_true rfl) dX12_ruleTold_150 (fun _ _ h => cX12_date_c (by omega) h) (fun r38 s39 _ => ?_)
          refine go_iastore dX12_ruleTold_153 (fun s40 _ => ?_)
          refine go_aload_n 0 dX12_ruleTold_154 rfl rfl ?_
          refine go_getR gf_RX12_36 gcf_12 gft_12_18 dX12_ruleTold_155 (fun v41 => ?_)
          refine go_iload_n 1 dX12_ruleTold_158 rfl rfl ?_
          refine go_bipush (v := 40) dX12_ruleTold_159 (by decide) ?_
          refine go_callS_I (as := [vi v2, vi 40]) gk_RX12_186 gmf_X12_ruleAt (by omega) rfl rfl (Nat.le_of_ble_eq_true rfl) dX12_ruleTold_161 (fun _ _ h => cX12_ruleAt_c (by omega) h) (fun r42 s43 _ => ?_)
          refine go_iconst (v := -1) dX12_ruleTold_164 (by decide) ?_
          refine go_iastore dX12_ruleTold_165 (fun s44 _ => ?_)
          refine go_aload_n 0 dX12_ruleTold_166 rfl rfl ?_
          refine go_getR gf_RX12_36 gcf_12 gft_12_18 dX12_ruleTold_167 (fun v45 => ?_)
          refine go_iload_n 1 dX12_ruleTold_170 rfl rfl ?_
          refine go_bipush (v := 41) dX12_ruleTold_171 (by decide) ?_
          refine go_callS_I (as := [vi v2, vi 41]) gk_RX12_186 gmf_X12_ruleAt (by omega) rfl rfl (Nat.le_of_ble_eq_true rfl) dX12_ruleTold_173 (fun _ _ h => cX12_ruleAt_c (by omega) h) (fun r46 s47 _ => ?_)
          refine go_iconst (v := -1) dX12_ruleTold_176 (by decide) ?_
          refine go_iastore dX12_ruleTold_177 (fun s48 _ => ?_)
          refine go_iconst (v := 0) dX12_ruleTold_178 (by decide) ?_
          refine go_istore (L' := [(4, vi 0), (0, vr a0), (2, vi v2), (3, vi r21)]) dX12_ruleTold_179 (by decide) rfl ?_
          refine go_aload_n 1 dX12_ruleTold_181 rfl rfl ?_
          refine go_callV_I (as := []) gk_RX12_160 gmf_X12_ownHere (by decide) rfl (by omega) rfl rfl (Nat.le_of_ble_eq_true rfl) dX12_ruleTold_182 (fun _ _ h => cX12_ownHere_c (by omega) h) (fun r49 s50 _ => ?_)
          refine go_istore (L' := [(5, vi r49), (4, vi 0), (0, vr a0), (2, vi v2), (3, vi r21)]) dX12_ruleTold_185 (by decide) rfl ?_
          refine go_sub [2, 3, 1, 0] (wX12_ruleTold_L187 hd _ a0 v2 ?_ 20000 0 r49 s50) rfl
          intro s76
          refine go_aload_n 0 dX12_ruleTold_264 rfl rfl ?_
          refine go_getI gf_RX12_117 gcf_12 gft_12_5 dX12_ruleTold_265 (fun v77 => ?_)
          refine go_if_ne (tgt := 281) dX12_ruleTold_268 (by decide) (fun h78 => ?_) (fun h78 => ?_)
          · refine go_aload_n 0 dX12_ruleTold_271 rfl rfl ?_
            refine go_getR gf_RX12_36 gcf_12 gft_12_18 dX12_ruleTold_272 (fun v79 => ?_)
            refine go_iconst (v := 0) dX12_ruleTold_275 (by decide) ?_
            refine go_dup2 dX12_ruleTold_276 rfl rfl ?_
            refine go_iaload dX12_ruleTold_277 (fun v80 _ => ?_)
            refine go_iconst (v := 1) dX12_ruleTold_278 (by decide) ?_
            refine go_iadd dX12_ruleTold_279 ?_
            refine go_iastore dX12_ruleTold_280 (fun s81 _ => ?_)
            exact go_retv rfl dX12_ruleTold_281
          · exact go_retv rfl dX12_ruleTold_281
        · refine go_if_ne (tgt := 123) dX12_ruleTold_116 (by decide) (fun h82 => ?_) (fun h82 => ?_)
          · refine go_aload_n 0 dX12_ruleTold_119 rfl rfl ?_
            refine go_callV_v (as := []) gk_RX12_163 gmf_X12_passes (by decide) rfl (by omega) rfl rfl (Nat.le_of_ble_eq_true rfl) dX12_ruleTold_120 (fun _ _ h => cX12_passes_c (by omega) h) (fun r83 s84 _ => ?_)
            exact go_sub [0, 1, 2] (hj27 s84) rfl
          · exact go_sub [0, 1, 2] (hj27 s25) rfl
      · refine go_if_ne (tgt := 112) dX12_ruleTold_73 (by decide) (fun h85 => ?_) (fun h85 => ?_)
        · refine go_iload_n 0 dX12_ruleTold_76 rfl rfl ?_
          refine go_i2l dX12_ruleTold_77 ?_
          refine go_lconst (v := 0) dX12_ruleTold_78 (by decide) ?_
          refine go_ldc2 gcl_RX12_244 dX12_ruleTold_79 ?_
          refine go_callS_I (as := [vl r21.toInt64, vl 0, vl 3]) gk_RX12_110 gmf_X12_isIn (by omega) rfl rfl (Nat.le_of_ble_eq_true rfl) dX12_ruleTold_82 (fun _ _ h => cX12_isIn_c (by omega) h) (fun r86 s87 _ => ?_)
          refine go_if_ne (tgt := 112) dX12_ruleTold_85 (by decide) (fun h88 => ?_) (fun h88 => ?_)
          · refine go_aload_n 1 dX12_ruleTold_88 rfl rfl ?_
            refine go_iconst (v := 1) dX12_ruleTold_89 (by decide) ?_
            refine go_aload_n 1 dX12_ruleTold_90 rfl rfl ?_
            refine go_callV_I (as := []) gk_RX12_129 gmf_X12_look (by decide) rfl (by omega) rfl rfl (Nat.le_of_ble_eq_true rfl) dX12_ruleTold_91 (fun _ _ h => cX12_look_c (by omega) h) (fun r89 s90 _ => ?_)
            refine go_iconst (v := -1) dX12_ruleTold_94 (by decide) ?_
            refine go_gjn (P := fun j91 => ∀ (z92 : Int32) (z93 : Int32) (b94 : Nat) (s95 : gH), gGo X rvU mX12_ruleTold d 109 [(0, vr a0), (2, vi v2), (3, vi r21)] [vi z92, vi z93, vr b94] s95 (j91 z92 z93 b94 s95)) (fun z92 z93 b94 s95 => ?_) (fun j91 hj91 => ?_)
            · refine go_callV_v (as := [vi z93, vi z92]) gk_RX12_142 gmf_X12_fail (by decide) rfl (by omega) rfl rfl (Nat.le_of_ble_eq_true rfl) dX12_ruleTold_109 (fun _ _ h => cX12_fail_c (by omega) h) (fun r96 s97 _ => ?_)
              exact go_sub [0, 1, 2] (hj24 s97) rfl
            · refine go_icmp_ne (tgt := 105) dX12_ruleTold_95 (by decide) (fun h98 => ?_) (fun h98 => ?_)
              · refine go_aload_n 1 dX12_ruleTold_98 rfl rfl ?_
                refine go_getI gf_RX12_126 gcf_12 gft_12_3 dX12_ruleTold_99 (fun v99 => ?_)
                refine go_goto (tgt := 109) dX12_ruleTold_102 (by decide) ?_
                exact go_sub [1, 2, 0] (hj91 v99 1 a0 s90) rfl
              · refine go_aload_n 1 dX12_ruleTold_105 rfl rfl ?_
                refine go_getI gf_RX12_123 gcf_12 gft_12_2 dX12_ruleTold_106 (fun v100 => ?_)
                exact go_sub [1, 2, 0] (hj91 v100 1 a0 s90) rfl
          · exact go_sub [1, 2, 0] (hj24 s87) rfl
        · exact go_sub [1, 2, 0] (hj24 s22) rfl
    · exact go_retv rfl dX12_ruleTold_26
  · refine go_icmp_ne (tgt := 19) dX12_ruleTold_10 (by decide) (fun h101 => ?_) (fun h101 => ?_)
    · refine go_aload_n 1 dX12_ruleTold_13 rfl rfl ?_
      refine go_iconst (v := 5) dX12_ruleTold_14 (by decide) ?_
      refine go_iload_n 2 dX12_ruleTold_15 rfl rfl ?_
      refine go_callV_v (as := [vi 5, vi x1]) gk_RX12_142 gmf_X12_fail (by decide) rfl (by omega) rfl rfl (Nat.le_of_ble_eq_true rfl) dX12_ruleTold_16 (fun _ _ h => cX12_fail_c (by omega) h) (fun r102 s103 _ => ?_)
      exact go_sub [1, 0] (hj3 s103) rfl
    · exact go_sub [1, 0] (hj3 s0) rfl
set_option maxRecDepth 100000 in
set_option maxHeartbeats 4000000 in
theorem cX12_ruleTold_c {d : Nat} (hd : 6 ≤ d) {a0 : Nat} {x1 : Int32} {s0 : gH} {r : Unit} {s1 : gH} (h : fX12_ruleTold a0 x1 s0 = some (r, s1)) : gMt mX12_ruleTold d [vr a0, vi x1] s0 none s1 :=
  gMt_of (rv := rvU) (by decide +kernel) (Nat.le_of_ble_eq_true rfl) rfl (fun _ => wX12_ruleTold hd) h
def fX12_opens (a0 : Nat) (x1 : Int32) (s0 : gH) : Option (Unit × gH) :=
  (ggI s0 a0 12 5).bind fun v1 =>
  if v1 = 0 then
    (ggR s0 a0 12 25).bind fun v3 =>
    (ggI s0 a0 12 26).bind fun v4 =>
    (saI s0 v3 2 v4 x1).bind fun s5 =>
    (ggI s5 a0 12 26).bind fun v6 =>
    (spI s5 a0 12 26 (v6 + 1)).bind fun s7 =>
    some ((), s7)
  else
    some ((), s0)
set_option maxRecDepth 100000 in
set_option maxHeartbeats 4000000 in
theorem wX12_opens {X : Nat × (Nat → Int32)} {d : Nat} (hd : 0 ≤ d) {a0 : Nat} {x1 : Int32} {s0 : gH} : gGo X rvU mX12_opens d 0 [(0, vr a0), (1, vi x1)] [] s0 (fX12_opens a0 x1 s0) := by
  unfold fX12_opens
  refine go_aload_n 0 dX12_opens_0 rfl rfl ?_
  refine go_getI gf_RX12_117 gcf_12 gft_12_5 dX12_opens_1 (fun v1 => ?_)
  refine go_if_eq (tgt := 8) dX12_opens_4 (by decide) (fun h2 => ?_) (fun h2 => ?_)
  · refine go_aload_n 0 dX12_opens_8 rfl rfl ?_
    refine go_getR gf_RX12_48 gcf_12 gft_12_25 dX12_opens_9 (fun v3 => ?_)
    refine go_aload_n 0 dX12_opens_12 rfl rfl ?_
    refine go_getI gf_RX12_256 gcf_12 gft_12_26 dX12_opens_13 (fun v4 => ?_)
    refine go_iload_n 1 dX12_opens_16 rfl rfl ?_
    refine go_iastore dX12_opens_17 (fun s5 _ => ?_)
    refine go_aload_n 0 dX12_opens_18 rfl rfl ?_
    refine go_dup dX12_opens_19 rfl ?_
    refine go_getI gf_RX12_256 gcf_12 gft_12_26 dX12_opens_20 (fun v6 => ?_)
    refine go_iconst (v := 1) dX12_opens_23 (by decide) ?_
    refine go_iadd dX12_opens_24 ?_
    refine go_putI gf_RX12_256 gcf_12 gpl_12_26 gft_12_26 dX12_opens_25 (fun s7 _ => ?_)
    exact go_retv rfl dX12_opens_28
  · exact go_retv rfl dX12_opens_7
set_option maxRecDepth 100000 in
set_option maxHeartbeats 4000000 in
theorem cX12_opens_c {d : Nat} (hd : 0 ≤ d) {a0 : Nat} {x1 : Int32} {s0 : gH} {r : Unit} {s1 : gH} (h : fX12_opens a0 x1 s0 = some (r, s1)) : gMt mX12_opens d [vr a0, vi x1] s0 none s1 :=
  gMt_of (rv := rvU) (by decide +kernel) (Nat.le_of_ble_eq_true rfl) rfl (fun _ => wX12_opens hd) h
def fX12_codes (a0 : Nat) (x1 : Int32) (x2 : Int32) (s0 : gH) : Option (Unit × gH) :=
  (ggI s0 a0 12 5).bind fun v1 =>
  if v1 = 0 then
    (ggR s0 a0 12 20).bind fun v3 =>
    (ggI s0 a0 12 22).bind fun v4 =>
    (saI s0 v3 2 (2 * v4) x1).bind fun s5 =>
    (ggR s5 a0 12 20).bind fun v6 =>
    (ggI s5 a0 12 22).bind fun v7 =>
    (saI s5 v6 2 ((2 * v7) + 1) x2).bind fun s8 =>
    (ggI s8 a0 12 22).bind fun v9 =>
    (spI s8 a0 12 22 (v9 + 1)).bind fun s10 =>
    some ((), s10)
  else
    some ((), s0)
set_option maxRecDepth 100000 in
set_option maxHeartbeats 4000000 in
theorem wX12_codes {X : Nat × (Nat → Int32)} {d : Nat} (hd : 0 ≤ d) {a0 : Nat} {x1 : Int32} {x2 : Int32} {s0 : gH} : gGo X rvU mX12_codes d 0 [(0, vr a0), (1, vi x1), (2, vi x2)] [] s0 (fX12_codes a0 x1 x2 s0) := by
  unfold fX12_codes
  refine go_aload_n 0 dX12_codes_0 rfl rfl ?_
  refine go_getI gf_RX12_117 gcf_12 gft_12_5 dX12_codes_1 (fun v1 => ?_)
  refine go_if_eq (tgt := 8) dX12_codes_4 (by decide) (fun h2 => ?_) (fun h2 => ?_)
  · refine go_aload_n 0 dX12_codes_8 rfl rfl ?_
    refine go_getR gf_RX12_42 gcf_12 gft_12_20 dX12_codes_9 (fun v3 => ?_)
    refine go_iconst (v := 2) dX12_codes_12 (by decide) ?_
    refine go_aload_n 0 dX12_codes_13 rfl rfl ?_
    refine go_getI gf_RX12_253 gcf_12 gft_12_22 dX12_codes_14 (fun v4 => ?_)
    refine go_imul dX12_codes_17 ?_
    refine go_iload_n 1 dX12_codes_18 rfl rfl ?_
    refine go_iastore dX12_codes_19 (fun s5 _ => ?_)
    refine go_aload_n 0 dX12_codes_20 rfl rfl ?_
    refine go_getR gf_RX12_42 gcf_12 gft_12_20 dX12_codes_21 (fun v6 => ?_)
    refine go_iconst (v := 2) dX12_codes_24 (by decide) ?_
    refine go_aload_n 0 dX12_codes_25 rfl rfl ?_
    refine go_getI gf_RX12_253 gcf_12 gft_12_22 dX12_codes_26 (fun v7 => ?_)
    refine go_imul dX12_codes_29 ?_
    refine go_iconst (v := 1) dX12_codes_30 (by decide) ?_
    refine go_iadd dX12_codes_31 ?_
    refine go_iload_n 2 dX12_codes_32 rfl rfl ?_
    refine go_iastore dX12_codes_33 (fun s8 _ => ?_)
    refine go_aload_n 0 dX12_codes_34 rfl rfl ?_
    refine go_dup dX12_codes_35 rfl ?_
    refine go_getI gf_RX12_253 gcf_12 gft_12_22 dX12_codes_36 (fun v9 => ?_)
    refine go_iconst (v := 1) dX12_codes_39 (by decide) ?_
    refine go_iadd dX12_codes_40 ?_
    refine go_putI gf_RX12_253 gcf_12 gpl_12_22 gft_12_22 dX12_codes_41 (fun s10 _ => ?_)
    exact go_retv rfl dX12_codes_44
  · exact go_retv rfl dX12_codes_7
set_option maxRecDepth 100000 in
set_option maxHeartbeats 4000000 in
theorem cX12_codes_c {d : Nat} (hd : 0 ≤ d) {a0 : Nat} {x1 : Int32} {x2 : Int32} {s0 : gH} {r : Unit} {s1 : gH} (h : fX12_codes a0 x1 x2 s0 = some (r, s1)) : gMt mX12_codes d [vr a0, vi x1, vi x2] s0 none s1 :=
  gMt_of (rv := rvU) (by decide +kernel) (Nat.le_of_ble_eq_true rfl) rfl (fun _ => wX12_codes hd) h
