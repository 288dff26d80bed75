/-! walks, written by a program -/
def gX12_isPlaced_L25  (a0 : Nat) (x1 : Int32) (x2 : Int32) (x5 : Int32) (x6 : Int32) : Nat → Int32 → gH → Option (Int32 × gH)
  | 0, _, _ => none
  | n + 1, x7, s0 =>
    gb2 (gcv s0 a0 12 (fX12_ruleHas a0 x1 14 s0)) fun r4 s5 =>
    if x7 < r4 then
      gb2 (gcv s5 a0 12 (fX12_ruleHas a0 x1 (15 + (2 * x7)) s5)) fun r7 s8 =>
      gb2 (gcv s8 a0 12 (fX12_ruleHas a0 x1 ((15 + (2 * x7)) + 1) s8)) fun r9 s10 =>
      gb2 (fX12_weekdayOf x2 s10) fun r11 s12 =>
      if r9 = r11 then
        if r7 = 0 then
          some (1, s12)
        else
          if r7 = x5 then
            some (1, s12)
          else
            if r7 = x6 then
              some (1, s12)
            else
              gX12_isPlaced_L25 a0 x1 x2 x5 x6 n (x7 + 1) s12
      else
        gX12_isPlaced_L25 a0 x1 x2 x5 x6 n (x7 + 1) s12
    else
      some (0, s5)
set_option maxRecDepth 100000 in
set_option maxHeartbeats 4000000 in
theorem wX12_isPlaced_L25 {X : Nat × (Nat → Int32)} {d : Nat} (hd : 2 ≤ d)  (a0 : Nat) (x1 : Int32) (x2 : Int32) (x5 : Int32) (x6 : Int32) : ∀ (n : Nat) (x7 : Int32) (s0 : gH), gGo X rvI mX12_isPlaced d 25 [(0, vr a0), (1, vi x1), (2, vi x2), (5, vi x5), (6, vi x6), (7, vi x7)] [] s0 (gX12_isPlaced_L25 a0 x1 x2 x5 x6 n x7 s0) := by
  intro n
  induction n with
  | zero => intros; exact go_none
  | succ n ih =>
    intro x7 s0
    show gGo _ _ _ _ _ _ _ _ (gX12_isPlaced_L25 a0 x1 x2 x5 x6 (n + 1) x7 s0)
    unfold gX12_isPlaced_L25
    refine go_iload 5 dX12_isPlaced_25 rfl ?_
    refine go_aload_n 0 dX12_isPlaced_27 rfl rfl ?_
    refine go_iload_n 1 dX12_isPlaced_28 rfl rfl ?_
    refine go_bipush (v := 14) dX12_isPlaced_29 (by decide) ?_
    refine go_callV_I (as := [vi x1, vi 14]) gk_RX12_321 gmf_X12_ruleHas (by decide) rfl (by omega) rfl rfl (Nat.le_of_ble_eq_true rfl) dX12_isPlaced_31 (fun _ _ h => cX12_ruleHas_c (by omega) h) (fun r4 s5 _ => ?_)
    refine go_icmp_ge (tgt := 99) dX12_isPlaced_34 (by decide) (fun h6 => ?_) (fun h6 => ?_)
    · refine go_aload_n 0 dX12_isPlaced_37 rfl rfl ?_
      refine go_iload_n 1 dX12_isPlaced_38 rfl rfl ?_
      refine go_bipush (v := 15) dX12_isPlaced_39 (by decide) ?_
      refine go_iconst (v := 2) dX12_isPlaced_41 (by decide) ?_
      refine go_iload 5 dX12_isPlaced_42 rfl ?_
      refine go_imul dX12_isPlaced_44 ?_
      refine go_iadd dX12_isPlaced_45 ?_
      refine go_callV_I (as := [vi x1, vi (15 + (2 * x7))]) gk_RX12_321 gmf_X12_ruleHas (by decide) rfl (by omega) rfl rfl (Nat.le_of_ble_eq_true rfl) dX12_isPlaced_46 (fun _ _ h => cX12_ruleHas_c (by omega) h) (fun r7 s8 _ => ?_)
      refine go_istore (L' := [(8, vi r7), (0, vr a0), (1, vi x1), (2, vi x2), (5, vi x5), (6, vi x6), (7, vi x7)]) dX12_isPlaced_49 (by decide) rfl ?_
      refine go_aload_n 1 dX12_isPlaced_51 rfl rfl ?_
      refine go_iload_n 2 dX12_isPlaced_52 rfl rfl ?_
      refine go_bipush (v := 15) dX12_isPlaced_53 (by decide) ?_
      refine go_iconst (v := 2) dX12_isPlaced_55 (by decide) ?_
      refine go_iload 6 dX12_isPlaced_56 rfl ?_
      refine go_imul dX12_isPlaced_58 ?_
      refine go_iadd dX12_isPlaced_59 ?_
      refine go_iconst (v := 1) dX12_isPlaced_60 (by decide) ?_
      refine go_iadd dX12_isPlaced_61 ?_
      refine go_callV_I (as := [vi x1, vi ((15 + (2 * x7)) + 1)]) gk_RX12_321 gmf_X12_ruleHas (by decide) rfl (by omega) rfl rfl (Nat.le_of_ble_eq_true rfl) dX12_isPlaced_62 (fun _ _ h => cX12_ruleHas_c (by omega) h) (fun r9 s10 _ => ?_)
      refine go_iload_n 3 dX12_isPlaced_65 rfl rfl ?_
      refine go_callS_I (as := [vi x2]) gk_RX12_327 gmf_X12_weekdayOf (by omega) rfl rfl (Nat.le_of_ble_eq_true rfl) dX12_isPlaced_66 (fun _ _ h => cX12_weekdayOf_c (by omega) h) (fun r11 s12 _ => ?_)
      refine go_icmp_ne (tgt := 93) dX12_isPlaced_69 (by decide) (fun h13 => ?_) (fun h13 => ?_)
      · refine go_iload 0 dX12_isPlaced_72 rfl ?_
        refine go_if_eq (tgt := 91) dX12_isPlaced_74 (by decide) (fun h14 => ?_) (fun h14 => ?_)
        · refine go_iconst (v := 1) dX12_isPlaced_91 (by decide) ?_
          exact go_ret rfl dX12_isPlaced_92
        · refine go_iload 0 dX12_isPlaced_77 rfl ?_
          refine go_iload 4 dX12_isPlaced_79 rfl ?_
          refine go_icmp_eq (tgt := 91) dX12_isPlaced_81 (by decide) (fun h15 => ?_) (fun h15 => ?_)
          · refine go_iconst (v := 1) dX12_isPlaced_91 (by decide) ?_
            exact go_ret rfl dX12_isPlaced_92
          · refine go_iload 0 dX12_isPlaced_84 rfl ?_
            refine go_iload 5 dX12_isPlaced_86 rfl ?_
            refine go_icmp_ne (tgt := 93) dX12_isPlaced_88 (by decide) (fun h16 => ?_) (fun h16 => ?_)
            · refine go_iconst (v := 1) dX12_isPlaced_91 (by decide) ?_
              exact go_ret rfl dX12_isPlaced_92
            · refine go_iinc (v := 1) (L' := [(7, vi (x7 + 1)), (8, vi r7), (0, vr a0), (1, vi x1), (2, vi x2), (5, vi x5), (6, vi x6)]) 6 dX12_isPlaced_93 rfl (by decide) (by decide) rfl ?_
              refine go_goto (tgt := 25) dX12_isPlaced_96 (by decide) ?_
              exact go_sub [2, 3, 4, 5, 6, 0] (ih (x7 + 1) s12) rfl
      · refine go_iinc (v := 1) (L' := [(7, vi (x7 + 1)), (8, vi r7), (0, vr a0), (1, vi x1), (2, vi x2), (5, vi x5), (6, vi x6)]) 6 dX12_isPlaced_93 rfl (by decide) (by decide) rfl ?_
        refine go_goto (tgt := 25) dX12_isPlaced_96 (by decide) ?_
        exact go_sub [2, 3, 4, 5, 6, 0] (ih (x7 + 1) s12) rfl
    · refine go_iconst (v := 0) dX12_isPlaced_99 (by decide) ?_
      exact go_ret rfl dX12_isPlaced_100
def gX12_isPlaced (a0 : Nat) (x1 : Int32) (x2 : Int32) (x3 : Int32) (x4 : Int32) (s0 : gH) : Option (Int32 × gH) :=
  glet (((x3 - 1) / 7) + 1) fun y1 =>
  glet (-(((x4 - x3) / 7) + 1)) fun y2 =>
  gX12_isPlaced_L25
    a0 x1 x2 y1 y2 20000 0 s0
def fX12_isPlaced (a0 : Nat) (x1 : Int32) (x2 : Int32) (x3 : Int32) (x4 : Int32) (s0 : gH) : Option (Int32 × gH) := gzr (gX12_isPlaced a0 x1 x2 x3 x4 s0)
set_option maxRecDepth 100000 in
set_option maxHeartbeats 4000000 in
theorem wX12_isPlaced {X : Nat × (Nat → Int32)} {d : Nat} (hd : 2 ≤ d) {a0 : Nat} {x1 : Int32} {x2 : Int32} {x3 : Int32} {x4 : Int32} {s0 : gH} : gGo X rvI mX12_isPlaced d 0 [(0, vr a0), (1, vi x1), (2, vi x2), (3, vi x3), (4, vi x4)] [] s0 (gX12_isPlaced a0 x1 x2 x3 x4 s0) := by
  unfold gX12_isPlaced
  refine go_iload_n 3 dX12_isPlaced_0 rfl rfl ?_
  refine go_iconst (v := 1) dX12_isPlaced_1 (by decide) ?_
  refine go_isub dX12_isPlaced_2 ?_
  refine go_bipush (v := 7) dX12_isPlaced_3 (by decide) ?_
  refine go_idivc dX12_isPlaced_5 (by decide) ?_
  refine go_iconst (v := 1) dX12_isPlaced_6 (by decide) ?_
  refine go_iadd dX12_isPlaced_7 ?_
  refine go_istore_l (L' := fun y1 => [(5, vi y1), (0, vr a0), (1, vi x1), (2, vi x2), (3, vi x3), (4, vi x4)]) dX12_isPlaced_8 (by decide) (fun _ => rfl) (fun y1 => ?_)
  refine go_iload 5 dX12_isPlaced_10 rfl ?_
  refine go_iload_n 4 dX12_isPlaced_12 rfl rfl ?_
  refine go_isub dX12_isPlaced_13 ?_
  refine go_bipush (v := 7) dX12_isPlaced_14 (by decide) ?_
  refine go_idivc dX12_isPlaced_16 (by decide) ?_
  refine go_iconst (v := 1) dX12_isPlaced_17 (by decide) ?_
  refine go_iadd dX12_isPlaced_18 ?_
  refine go_ineg dX12_isPlaced_19 ?_
  refine go_istore_l (L' := fun y2 => [(6, vi y2), (5, vi y1), (0, vr a0), (1, vi x1), (2, vi x2), (3, vi x3), (4, vi x4)]) dX12_isPlaced_20 (by decide) (fun _ => rfl) (fun y2 => ?_)
  refine go_iconst (v := 0) dX12_isPlaced_22 (by decide) ?_
  refine go_istore (L' := [(7, vi 0), (6, vi y2), (5, vi y1), (0, vr a0), (1, vi x1), (2, vi x2), (3, vi x3), (4, vi x4)]) dX12_isPlaced_23 (by decide) rfl ?_
  refine go_sub [3, 4, 5, 2, 1, 0] (wX12_isPlaced_L25 hd a0 x1 x2 y1 y2 20000 0 s0) rfl
set_option maxRecDepth 100000 in
set_option maxHeartbeats 4000000 in
theorem cX12_isPlaced_c {d : Nat} (hd : 2 ≤ d) {a0 : Nat} {x1 : Int32} {x2 : Int32} {x3 : Int32} {x4 : Int32} {s0 : gH} {r : Int32} {s1 : gH} (h : fX12_isPlaced a0 x1 x2 x3 x4 s0 = some (r, s1)) : gMt mX12_isPlaced d [vr a0, vi x1, vi x2, vi x3, vi x4] s0 (some (vi r)) s1 := by
  obtain ⟨h1, h2⟩ := gzr_some h
  exact gMt_of (rv := rvI) (by decide +kernel) (Nat.le_of_ble_eq_true rfl) ⟨_, rfl, gnarZ h2⟩ (fun _ => wX12_isPlaced hd) h1
def gX12_isDateOfBegin (a0 : Nat) (x1 : Int32) (x2 : Int32) (s0 : gH) : Option (Int32 × gH) :=
  (ggR s0 a0 12 15).bind fun v1 =>
  (gaI s0 v1 2 x2).bind fun v2 =>
  (ggR s0 a0 12 15).bind fun v3 =>
  gb2 (gcv s0 a0 12 (fX12_fromOf a0 x1 s0)) fun r4 s5 =>
  (gaI s5 v3 2 r4).bind fun v6 =>
  if v2 = v6 then
    some (1, s5)
  else
    some (0, s5)
def fX12_isDateOfBegin (a0 : Nat) (x1 : Int32) (x2 : Int32) (s0 : gH) : Option (Int32 × gH) := gzr (gX12_isDateOfBegin a0 x1 x2 s0)
set_option maxRecDepth 100000 in
set_option maxHeartbeats 4000000 in
theorem wX12_isDateOfBegin {X : Nat × (Nat → Int32)} {d : Nat} (hd : 1 ≤ d) {a0 : Nat} {x1 : Int32} {x2 : Int32} {s0 : gH} : gGo X rvI mX12_isDateOfBegin d 0 [(0, vr a0), (1, vi x1), (2, vi x2)] [] s0 (gX12_isDateOfBegin a0 x1 x2 s0) := by
  unfold gX12_isDateOfBegin
  refine go_aload_n 0 dX12_isDateOfBegin_0 rfl rfl ?_
  refine go_getR gf_RX12_30 gcf_12 gft_12_15 dX12_isDateOfBegin_1 (fun v1 => ?_)
  refine go_iload_n 2 dX12_isDateOfBegin_4 rfl rfl ?_
  refine go_iaload dX12_isDateOfBegin_5 (fun v2 _ => ?_)
  refine go_aload_n 0 dX12_isDateOfBegin_6 rfl rfl ?_
  refine go_getR gf_RX12_30 gcf_12 gft_12_15 dX12_isDateOfBegin_7 (fun v3 => ?_)
  refine go_aload_n 0 dX12_isDateOfBegin_10 rfl rfl ?_
  refine go_iload_n 1 dX12_isDateOfBegin_11 rfl rfl ?_
  refine go_callV_I (as := [vi x1]) gk_RX12_333 gmf_X12_fromOf (by decide) rfl (by omega) rfl rfl (Nat.le_of_ble_eq_true rfl) dX12_isDateOfBegin_12 (fun _ _ h => cX12_fromOf_c (by omega) h) (fun r4 s5 _ => ?_)
  refine go_iaload dX12_isDateOfBegin_15 (fun v6 _ => ?_)
  refine go_icmp_ne (tgt := 23) dX12_isDateOfBegin_16 (by decide) (fun h7 => ?_) (fun h7 => ?_)
  · refine go_iconst (v := 1) dX12_isDateOfBegin_19 (by decide) ?_
    refine go_goto (tgt := 24) dX12_isDateOfBegin_20 (by decide) ?_
    exact go_ret rfl dX12_isDateOfBegin_24
  · refine go_iconst (v := 0) dX12_isDateOfBegin_23 (by decide) ?_
    exact go_ret rfl dX12_isDateOfBegin_24
set_option maxRecDepth 100000 in
set_option maxHeartbeats 4000000 in
theorem cX12_isDateOfBegin_c {d : Nat} (hd : 1 ≤ d) {a0 : Nat} {x1 : Int32} {x2 : Int32} {s0 : gH} {r : Int32} {s1 : gH} (h : fX12_isDateOfBegin a0 x1 x2 s0 = some (r, s1)) : gMt mX12_isDateOfBegin d [vr a0, vi x1, vi x2] s0 (some (vi r)) s1 := by
  obtain ⟨h1, h2⟩ := gzr_some h
  exact gMt_of (rv := rvI) (by decide +kernel) (Nat.le_of_ble_eq_true rfl) ⟨_, rfl, gnarZ h2⟩ (fun _ => wX12_isDateOfBegin hd) h1
def gX12_isOfMonth (a0 : Nat) (x1 : Int32) (x2 : Int32) (s0 : gH) : Option (Int32 × gH) :=
  gb2 (gcv s0 a0 12 (fX12_hasOn a0 x1 s0)) fun r1 s2 =>
  if r1 = 0 then
    gb2 (gcv s2 a0 12 (fX12_hasBy a0 x1 s2)) fun r4 s5 =>
    if r4 = 0 then
      gb2 (gcv s5 a0 12 (fX12_isDateOfBegin a0 x1 x2 s5)) fun r7 s8 =>
      some (r7, s8)
    else
      (ggR s5 a0 12 15).bind fun v9 =>
      (gaI s5 v9 2 x2).bind fun v10 =>
      gb2 (gcv s5 a0 12 (fX12_longMonthOf a0 x2 s5)) fun r11 s12 =>
      gb2 (gcv s12 a0 12 (fX12_isPlaced a0 x1 x2 v10 r11 s12)) fun r13 s14 =>
      some (r13, s14)
  else
    gb2 (gcv s2 a0 12 (fX12_isDated a0 x1 x2 s2)) fun r15 s16 =>
    if r15 = 0 then
      some (0, s16)
    else
      gb2 (gcv s16 a0 12 (fX12_hasBy a0 x1 s16)) fun r18 s19 =>
      if r18 = 0 then
        some (1, s19)
      else
        gb2 (gcv s19 a0 12 (fX12_isWeekday a0 x1 x2 s19)) fun r21 s22 =>
        if r21 = 0 then
          some (0, s22)
        else
          some (1, s22)
def fX12_isOfMonth (a0 : Nat) (x1 : Int32) (x2 : Int32) (s0 : gH) : Option (Int32 × gH) := gzr (gX12_isOfMonth a0 x1 x2 s0)
set_option maxRecDepth 100000 in
set_option maxHeartbeats 4000000 in
theorem wX12_isOfMonth {X : Nat × (Nat → Int32)} {d : Nat} (hd : 4 ≤ d) {a0 : Nat} {x1 : Int32} {x2 : Int32} {s0 : gH} : gGo X rvI mX12_isOfMonth d 0 [(0, vr a0), (1, vi x1), (2, vi x2)] [] s0 (gX12_isOfMonth a0 x1 x2 s0) := by
  unfold gX12_isOfMonth
  refine go_aload_n 0 dX12_isOfMonth_0 rfl rfl ?_
  refine go_iload_n 1 dX12_isOfMonth_1 rfl rfl ?_
  refine go_callV_I (as := [vi x1]) gk_RX12_336 gmf_X12_hasOn (by decide) rfl (by omega) rfl rfl (Nat.le_of_ble_eq_true rfl) dX12_isOfMonth_2 (fun _ _ h => cX12_hasOn_c (by omega) h) (fun r1 s2 _ => ?_)
  refine go_if_eq (tgt := 40) dX12_isOfMonth_5 (by decide) (fun h3 => ?_) (fun h3 => ?_)
  · refine go_aload_n 0 dX12_isOfMonth_40 rfl rfl ?_
    refine go_iload_n 1 dX12_isOfMonth_41 rfl rfl ?_
    refine go_callV_I (as := [vi x1]) gk_RX12_342 gmf_X12_hasBy (by decide) rfl (by omega) rfl rfl (Nat.le_of_ble_eq_true rfl) dX12_isOfMonth_42 (fun _ _ h => cX12_hasBy_c (by omega) h) (fun r4 s5 _ => ?_)
    refine go_if_eq (tgt := 68) dX12_isOfMonth_45 (by decide) (fun h6 => ?_) (fun h6 => ?_)
    · refine go_aload_n 0 dX12_isOfMonth_68 rfl rfl ?_
      refine go_iload_n 1 dX12_isOfMonth_69 rfl rfl ?_
      refine go_iload_n 2 dX12_isOfMonth_70 rfl rfl ?_
      refine go_callV_I (as := [vi x1, vi x2]) gk_RX12_352 gmf_X12_isDateOfBegin (by decide) rfl (by omega) rfl rfl (Nat.le_of_ble_eq_true rfl) dX12_isOfMonth_71 (fun _ _ h => cX12_isDateOfBegin_c (by omega) h) (fun r7 s8 _ => ?_)
      exact go_ret rfl dX12_isOfMonth_74
    · refine go_aload_n 0 dX12_isOfMonth_48 rfl rfl ?_
      refine go_iload_n 1 dX12_isOfMonth_49 rfl rfl ?_
      refine go_iload_n 2 dX12_isOfMonth_50 rfl rfl ?_
      refine go_aload_n 0 dX12_isOfMonth_51 rfl rfl ?_
      refine go_getR gf_RX12_30 gcf_12 gft_12_15 dX12_isOfMonth_52 (fun v9 => ?_)
      refine go_iload_n 2 dX12_isOfMonth_55 rfl rfl ?_
      refine go_iaload dX12_isOfMonth_56 (fun v10 _ => ?_)
      refine go_aload_n 0 dX12_isOfMonth_57 rfl rfl ?_
      refine go_iload_n 2 dX12_isOfMonth_58 rfl rfl ?_
      refine go_callV_I (as := [vi x2]) gk_RX12_324 gmf_X12_longMonthOf (by decide) rfl (by omega) rfl rfl (Nat.le_of_ble_eq_true rfl) dX12_isOfMonth_59 (fun _ _ h => cX12_longMonthOf_c (by omega) h) (fun r11 s12 _ => ?_)
      refine go_callV_I (as := [vi x1, vi x2, vi v10, vi r11]) gk_RX12_348 gmf_X12_isPlaced (by decide) rfl (by omega) rfl rfl (Nat.le_of_ble_eq_true rfl) dX12_isOfMonth_62 (fun _ _ h => cX12_isPlaced_c (by omega) h) (fun r13 s14 _ => ?_)
      refine go_goto (tgt := 74) dX12_isOfMonth_65 (by decide) ?_
      exact go_ret rfl dX12_isOfMonth_74
  · refine go_aload_n 0 dX12_isOfMonth_8 rfl rfl ?_
    refine go_iload_n 1 dX12_isOfMonth_9 rfl rfl ?_
    refine go_iload_n 2 dX12_isOfMonth_10 rfl rfl ?_
    refine go_callV_I (as := [vi x1, vi x2]) gk_RX12_339 gmf_X12_isDated (by decide) rfl (by omega) rfl rfl (Nat.le_of_ble_eq_true rfl) dX12_isOfMonth_11 (fun _ _ h => cX12_isDated_c (by omega) h) (fun r15 s16 _ => ?_)
    refine go_if_eq (tgt := 38) dX12_isOfMonth_14 (by decide) (fun h17 => ?_) (fun h17 => ?_)
    · refine go_iconst (v := 0) dX12_isOfMonth_38 (by decide) ?_
      exact go_ret rfl dX12_isOfMonth_39
    · refine go_aload_n 0 dX12_isOfMonth_17 rfl rfl ?_
      refine go_iload_n 1 dX12_isOfMonth_18 rfl rfl ?_
      refine go_callV_I (as := [vi x1]) gk_RX12_342 gmf_X12_hasBy (by decide) rfl (by omega) rfl rfl (Nat.le_of_ble_eq_true rfl) dX12_isOfMonth_19 (fun _ _ h => cX12_hasBy_c (by omega) h) (fun r18 s19 _ => ?_)
      refine go_if_eq (tgt := 34) dX12_isOfMonth_22 (by decide) (fun h20 => ?_) (fun h20 => ?_)
      · refine go_iconst (v := 1) dX12_isOfMonth_34 (by decide) ?_
        refine go_goto (tgt := 39) dX12_isOfMonth_35 (by decide) ?_
        exact go_ret rfl dX12_isOfMonth_39
      · refine go_aload_n 0 dX12_isOfMonth_25 rfl rfl ?_
        refine go_iload_n 1 dX12_isOfMonth_26 rfl rfl ?_
        refine go_iload_n 2 dX12_isOfMonth_27 rfl rfl ?_
        refine go_callV_I (as := [vi x1, vi x2]) gk_RX12_345 gmf_X12_isWeekday (by decide) rfl (by omega) rfl rfl (Nat.le_of_ble_eq_true rfl) dX12_isOfMonth_28 (fun _ _ h => cX12_isWeekday_c (by omega) h) (fun r21 s22 _ => ?_)
        refine go_if_eq (tgt := 38) dX12_isOfMonth_31 (by decide) (fun h23 => ?_) (fun h23 => ?_)
        · refine go_iconst (v := 0) dX12_isOfMonth_38 (by decide) ?_
          exact go_ret rfl dX12_isOfMonth_39
        · refine go_iconst (v := 1) dX12_isOfMonth_34 (by decide) ?_
          refine go_goto (tgt := 39) dX12_isOfMonth_35 (by decide) ?_
          exact go_ret rfl dX12_isOfMonth_39
set_option maxRecDepth 100000 in
set_option maxHeartbeats 4000000 in
theorem cX12_isOfMonth_c {d : Nat} (hd : 4 ≤ d) {a0 : Nat} {x1 : Int32} {x2 : Int32} {s0 : gH} {r : Int32} {s1 : gH} (h : fX12_isOfMonth a0 x1 x2 s0 = some (r, s1)) : gMt mX12_isOfMonth d [vr a0, vi x1, vi x2] s0 (some (vi r)) s1 := by
  obtain ⟨h1, h2⟩ := gzr_some h
  exact gMt_of (rv := rvI) (by decide +kernel) (Nat.le_of_ble_eq_true rfl) ⟨_, rfl, gnarZ h2⟩ (fun _ => wX12_isOfMonth hd) h1
def gX12_isOfYear (a0 : Nat) (x1 : Int32) (x2 : Int32) (s0 : gH) : Option (Int32 × gH) :=
  gb2 (gcv s0 a0 12 (fX12_hasIn a0 x1 s0)) fun r1 s2 =>
  gjn (fun (s4 : gH) =>
      gb2 (gcv s4 a0 12 (fX12_isInMonths a0 x1 x2 s4)) fun r5 s6 =>
      if r5 = 0 then
        some (0, s6)
      else
        gb2 (gcv s6 a0 12 (fX12_isOfMonth a0 x1 x2 s6)) fun r8 s9 =>
        if r8 = 0 then
          some (0, s9)
        else
          some (1, s9)
  ) fun j3 =>
  if r1 = 0 then
    gb2 (gcv s2 a0 12 (fX12_hasOn a0 x1 s2)) fun r12 s13 =>
    if r12 = 0 then
      gb2 (gcv s13 a0 12 (fX12_hasBy a0 x1 s13)) fun r15 s16 =>
      if r15 = 0 then
        (ggR s16 a0 12 14).bind fun v18 =>
        (gaI s16 v18 2 x2).bind fun v19 =>
        (ggR s16 a0 12 14).bind fun v20 =>
        gb2 (gcv s16 a0 12 (fX12_fromOf a0 x1 s16)) fun r21 s22 =>
        (gaI s22 v20 2 r21).bind fun v23 =>
        if v19 = v23 then
          gb2 (gcv s22 a0 12 (fX12_isDateOfBegin a0 x1 x2 s22)) fun r25 s26 =>
          if r25 = 0 then
            some (0, s26)
          else
            some (1, s26)
        else
          some (0, s22)
      else
        (ggR s16 a0 12 16).bind fun v28 =>
        (gaI s16 v28 2 x2).bind fun v29 =>
        (ggR s16 a0 12 13).bind fun v30 =>
        (gaI s16 v30 2 x2).bind fun v31 =>
        gb2 (fX12_isLeap v31 s16) fun r32 s33 =>
        gjn (fun (z35 : Int32) (z36 : Int32) (z37 : Int32) (z38 : Int32) (b39 : Nat) (s40 : gH) =>
            gb2 (gcv s40 b39 12 (fX12_isPlaced b39 z38 z37 z36 z35 s40)) fun r41 s42 =>
            some (r41, s42)
        ) fun j34 =>
        if r32 = 0 then
          j34 365 v29 x2 x1 a0 s33
        else
          j34 366 v29 x2 x1 a0 s33
    else
      j3 s13
  else
    j3 s2
def fX12_isOfYear (a0 : Nat) (x1 : Int32) (x2 : Int32) (s0 : gH) : Option (Int32 × gH) := gzr (gX12_isOfYear a0 x1 x2 s0)
set_option maxRecDepth 100000 in
set_option maxHeartbeats 4000000 in
theorem wX12_isOfYear {X : Nat × (Nat → Int32)} {d : Nat} (hd : 5 ≤ d) {a0 : Nat} {x1 : Int32} {x2 : Int32} {s0 : gH} : gGo X rvI mX12_isOfYear d 0 [(0, vr a0), (1, vi x1), (2, vi x2)] [] s0 (gX12_isOfYear a0 x1 x2 s0) := by
  unfold gX12_isOfYear
  refine go_aload_n 0 dX12_isOfYear_0 rfl rfl ?_
  refine go_iload_n 1 dX12_isOfYear_1 rfl rfl ?_
  refine go_callV_I (as := [vi x1]) gk_RX12_330 gmf_X12_hasIn (by decide) rfl (by omega) rfl rfl (Nat.le_of_ble_eq_true rfl) dX12_isOfYear_2 (fun _ _ h => cX12_hasIn_c (by omega) h) (fun r1 s2 _ => ?_)
  refine go_gjn (P := fun j3 => ∀ (s4 : gH), gGo X rvI mX12_isOfYear d 16 [(0, vr a0), (1, vi x1), (2, vi x2)] [] s4 (j3 s4)) (fun s4 => ?_) (fun j3 hj3 => ?_)
  · refine go_aload_n 0 dX12_isOfYear_16 rfl rfl ?_
    refine go_iload_n 1 dX12_isOfYear_17 rfl rfl ?_
    refine go_iload_n 2 dX12_isOfYear_18 rfl rfl ?_
    refine go_callV_I (as := [vi x1, vi x2]) gk_RX12_355 gmf_X12_isInMonths (by decide) rfl (by omega) rfl rfl (Nat.le_of_ble_eq_true rfl) dX12_isOfYear_19 (fun _ _ h => cX12_isInMonths_c (by omega) h) (fun r5 s6 _ => ?_)
    refine go_if_eq (tgt := 38) dX12_isOfYear_22 (by decide) (fun h7 => ?_) (fun h7 => ?_)
    · refine go_iconst (v := 0) dX12_isOfYear_38 (by decide) ?_
      exact go_ret rfl dX12_isOfYear_39
    · refine go_aload_n 0 dX12_isOfYear_25 rfl rfl ?_
      refine go_iload_n 1 dX12_isOfYear_26 rfl rfl ?_
      refine go_iload_n 2 dX12_isOfYear_27 rfl rfl ?_
      refine go_callV_I (as := [vi x1, vi x2]) gk_RX12_358 gmf_X12_isOfMonth (by decide) rfl (by omega) rfl rfl (Nat.le_of_ble_eq_true rfl) dX12_isOfYear_28 (fun _ _ h => cX12_isOfMonth_c (by omega) h) (fun r8 s9 _ => ?_)
      refine go_if_eq (tgt := 38) dX12_isOfYear_31 (by decide) (fun h10 => ?_) (fun h10 => ?_)
      · refine go_iconst (v := 0) dX12_isOfYear_38 (by decide) ?_
        exact go_ret rfl dX12_isOfYear_39
      · refine go_iconst (v := 1) dX12_isOfYear_34 (by decide) ?_
        refine go_goto (tgt := 39) dX12_isOfYear_35 (by decide) ?_
        exact go_ret rfl dX12_isOfYear_39
  · refine go_if_ne (tgt := 16) dX12_isOfYear_5 (by decide) (fun h11 => ?_) (fun h11 => ?_)
    · refine go_aload_n 0 dX12_isOfYear_8 rfl rfl ?_
      refine go_iload_n 1 dX12_isOfYear_9 rfl rfl ?_
      refine go_callV_I (as := [vi x1]) gk_RX12_336 gmf_X12_hasOn (by decide) rfl (by omega) rfl rfl (Nat.le_of_ble_eq_true rfl) dX12_isOfYear_10 (fun _ _ h => cX12_hasOn_c (by omega) h) (fun r12 s13 _ => ?_)
      refine go_if_eq (tgt := 40) dX12_isOfYear_13 (by decide) (fun h14 => ?_) (fun h14 => ?_)
      · refine go_aload_n 0 dX12_isOfYear_40 rfl rfl ?_
        refine go_iload_n 1 dX12_isOfYear_41 rfl rfl ?_
        refine go_callV_I (as := [vi x1]) gk_RX12_342 gmf_X12_hasBy (by decide) rfl (by omega) rfl rfl (Nat.le_of_ble_eq_true rfl) dX12_isOfYear_42 (fun _ _ h => cX12_hasBy_c (by omega) h) (fun r15 s16 _ => ?_)
        refine go_if_eq (tgt := 82) dX12_isOfYear_45 (by decide) (fun h17 => ?_) (fun h17 => ?_)
        · refine go_aload_n 0 dX12_isOfYear_82 rfl rfl ?_
          refine go_getR gf_RX12_27 gcf_12 gft_12_14 dX12_isOfYear_83 (fun v18 => ?_)
          refine go_iload_n 2 dX12_isOfYear_86 rfl rfl ?_
          refine go_iaload dX12_isOfYear_87 (fun v19 _ => ?_)
          refine go_aload_n 0 dX12_isOfYear_88 rfl rfl ?_
          refine go_getR gf_RX12_27 gcf_12 gft_12_14 dX12_isOfYear_89 (fun v20 => ?_)
          refine go_aload_n 0 dX12_isOfYear_92 rfl rfl ?_
          refine go_iload_n 1 dX12_isOfYear_93 rfl rfl ?_
          refine go_callV_I (as := [vi x1]) gk_RX12_333 gmf_X12_fromOf (by decide) rfl (by omega) rfl rfl (Nat.le_of_ble_eq_true rfl) dX12_isOfYear_94 (fun _ _ h => cX12_fromOf_c (by omega) h) (fun r21 s22 _ => ?_)
          refine go_iaload dX12_isOfYear_97 (fun v23 _ => ?_)
          refine go_icmp_ne (tgt := 114) dX12_isOfYear_98 (by decide) (fun h24 => ?_) (fun h24 => ?_)
          · refine go_aload_n 0 dX12_isOfYear_101 rfl rfl ?_
            refine go_iload_n 1 dX12_isOfYear_102 rfl rfl ?_
            refine go_iload_n 2 dX12_isOfYear_103 rfl rfl ?_
            refine go_callV_I (as := [vi x1, vi x2]) gk_RX12_352 gmf_X12_isDateOfBegin (by decide) rfl (by omega) rfl rfl (Nat.le_of_ble_eq_true rfl) dX12_isOfYear_104 (fun _ _ h => cX12_isDateOfBegin_c (by omega) h) (fun r25 s26 _ => ?_)
            refine go_if_eq (tgt := 114) dX12_isOfYear_107 (by decide) (fun h27 => ?_) (fun h27 => ?_)
            · refine go_iconst (v := 0) dX12_isOfYear_114 (by decide) ?_
              exact go_ret rfl dX12_isOfYear_115
            · refine go_iconst (v := 1) dX12_isOfYear_110 (by decide) ?_
              refine go_goto (tgt := 115) dX12_isOfYear_111 (by decide) ?_
              exact go_ret rfl dX12_isOfYear_115
          · refine go_iconst (v := 0) dX12_isOfYear_114 (by decide) ?_
            exact go_ret rfl dX12_isOfYear_115
        · refine go_aload_n 0 dX12_isOfYear_48 rfl rfl ?_
          refine go_iload_n 1 dX12_isOfYear_49 rfl rfl ?_
          refine go_iload_n 2 dX12_isOfYear_50 rfl rfl ?_
          refine go_aload_n 0 dX12_isOfYear_51 rfl rfl ?_
          refine go_getR gf_RX12_33 gcf_12 gft_12_16 dX12_isOfYear_52 (fun v28 => ?_)
          refine go_iload_n 2 dX12_isOfYear_55 rfl rfl ?_
          refine go_iaload dX12_isOfYear_56 (fun v29 _ => ?_)
          refine go_aload_n 0 dX12_isOfYear_57 rfl rfl ?_
          refine go_getR gf_RX12_24 gcf_12 gft_12_13 dX12_isOfYear_58 (fun v30 => ?_)
          refine go_iload_n 2 dX12_isOfYear_61 rfl rfl ?_
          refine go_iaload dX12_isOfYear_62 (fun v31 _ => ?_)
          refine go_callS_I (as := [vi v31]) gk_RX12_172 gmf_X12_isLeap (by omega) rfl rfl (Nat.le_of_ble_eq_true rfl) dX12_isOfYear_63 (fun _ _ h => cX12_isLeap_c (by omega) h) (fun r32 s33 _ => ?_)
          refine go_gjn (P := fun j34 => ∀ (z35 : Int32) (z36 : Int32) (z37 : Int32) (z38 : Int32) (b39 : Nat) (s40 : gH), gGo X rvI mX12_isOfYear d 78 [] [vi z35, vi z36, vi z37, vi z38, vr b39] s40 (j34 z35 z36 z37 z38 b39 s40)) (fun z35 z36 z37 z38 b39 s40 => ?_) (fun j34 hj34 => ?_)
          · refine go_callV_I (as := [vi z38, vi z37, vi z36, vi z35]) gk_RX12_348 gmf_X12_isPlaced (by decide) rfl (by omega) rfl rfl (Nat.le_of_ble_eq_true rfl) dX12_isOfYear_78 (fun _ _ h => cX12_isPlaced_c (by omega) h) (fun r41 s42 _ => ?_)
            exact go_ret rfl dX12_isOfYear_81
          · refine go_if_eq (tgt := 75) dX12_isOfYear_66 (by decide) (fun h43 => ?_) (fun h43 => ?_)
            · refine go_sipush (v := 365) dX12_isOfYear_75 (by decide) ?_
              exact go_sub [] (hj34 365 v29 x2 x1 a0 s33) rfl
            · refine go_sipush (v := 366) dX12_isOfYear_69 (by decide) ?_
              refine go_goto (tgt := 78) dX12_isOfYear_72 (by decide) ?_
              exact go_sub [] (hj34 366 v29 x2 x1 a0 s33) rfl
      · exact go_sub [0, 1, 2] (hj3 s13) rfl
    · exact go_sub [0, 1, 2] (hj3 s2) rfl
set_option maxRecDepth 100000 in
set_option maxHeartbeats 4000000 in
theorem cX12_isOfYear_c {d : Nat} (hd : 5 ≤ d) {a0 : Nat} {x1 : Int32} {x2 : Int32} {s0 : gH} {r : Int32} {s1 : gH} (h : fX12_isOfYear a0 x1 x2 s0 = some (r, s1)) : gMt mX12_isOfYear d [vr a0, vi x1, vi x2] s0 (some (vi r)) s1 := by
  obtain ⟨h1, h2⟩ := gzr_some h
  exact gMt_of (rv := rvI) (by decide +kernel) (Nat.le_of_ble_eq_true rfl) ⟨_, rfl, gnarZ h2⟩ (fun _ => wX12_isOfYear hd) h1
def gX12_isOfPeriod (a0 : Nat) (x1 : Int32) (x2 : Int32) (s0 : gH) : Option (Int32 × gH) :=
  gb2 (gcv s0 a0 12 (fX12_ruleHas a0 x1 2 s0)) fun r1 s2 =>
  if r1 = 0 then
    gb2 (gcv s2 a0 12 (fX12_isInMonths a0 x1 x2 s2)) fun r4 s5 =>
    if r4 = 0 then
      some (0, s5)
    else
      gb2 (gcv s5 a0 12 (fX12_hasOn a0 x1 s5)) fun r7 s8 =>
      gjn (fun (s10 : gH) =>
          gb2 (gcv s10 a0 12 (fX12_hasBy a0 x1 s10)) fun r11 s12 =>
          if r11 = 0 then
            some (1, s12)
          else
            gb2 (gcv s12 a0 12 (fX12_isWeekday a0 x1 x2 s12)) fun r14 s15 =>
            if r14 = 0 then
              some (0, s15)
            else
              some (1, s15)
      ) fun j9 =>
      if r7 = 0 then
        j9 s8
      else
        gb2 (gcv s8 a0 12 (fX12_isDated a0 x1 x2 s8)) fun r18 s19 =>
        if r18 = 0 then
          some (0, s19)
        else
          j9 s19
  else
    if r1 = 1 then
      gb2 (gcv s2 a0 12 (fX12_isInMonths a0 x1 x2 s2)) fun r22 s23 =>
      if r22 = 0 then
        some (0, s23)
      else
        gb2 (gcv s23 a0 12 (fX12_hasOn a0 x1 s23)) fun r25 s26 =>
        gjn (fun (s28 : gH) =>
            gb2 (gcv s28 a0 12 (fX12_hasBy a0 x1 s28)) fun r29 s30 =>
            if r29 = 0 then
              gb2 (fX12_weekdayOf x2 s30) fun r32 s33 =>
              gb2 (gcv s33 a0 12 (fX12_fromOf a0 x1 s33)) fun r34 s35 =>
              gb2 (fX12_weekdayOf r34 s35) fun r36 s37 =>
              if r32 = r36 then
                some (1, s37)
              else
                some (0, s37)
            else
              gb2 (gcv s30 a0 12 (fX12_isWeekday a0 x1 x2 s30)) fun r39 s40 =>
              if r39 = 0 then
                some (0, s40)
              else
                some (1, s40)
        ) fun j27 =>
        if r25 = 0 then
          j27 s26
        else
          gb2 (gcv s26 a0 12 (fX12_isDated a0 x1 x2 s26)) fun r43 s44 =>
          if r43 = 0 then
            some (0, s44)
          else
            j27 s44
    else
      if r1 = 2 then
        gb2 (gcv s2 a0 12 (fX12_isInMonths a0 x1 x2 s2)) fun r47 s48 =>
        if r47 = 0 then
          some (0, s48)
        else
          gb2 (gcv s48 a0 12 (fX12_isOfMonth a0 x1 x2 s48)) fun r50 s51 =>
          if r50 = 0 then
            some (0, s51)
          else
            some (1, s51)
      else
        gb2 (gcv s2 a0 12 (fX12_isOfYear a0 x1 x2 s2)) fun r53 s54 =>
        some (r53, s54)
def fX12_isOfPeriod (a0 : Nat) (x1 : Int32) (x2 : Int32) (s0 : gH) : Option (Int32 × gH) := gzr (gX12_isOfPeriod a0 x1 x2 s0)
set_option maxRecDepth 100000 in
set_option maxHeartbeats 4000000 in
theorem wX12_isOfPeriod {X : Nat × (Nat → Int32)} {d : Nat} (hd : 6 ≤ d) {a0 : Nat} {x1 : Int32} {x2 : Int32} {s0 : gH} : gGo X rvI mX12_isOfPeriod d 0 [(0, vr a0), (1, vi x1), (2, vi x2)] [] s0 (gX12_isOfPeriod a0 x1 x2 s0) := by
  unfold gX12_isOfPeriod
  refine go_aload_n 0 dX12_isOfPeriod_0 rfl rfl ?_
  refine go_iload_n 1 dX12_isOfPeriod_1 rfl rfl ?_
  refine go_iconst (v := 2) dX12_isOfPeriod_2 (by decide) ?_
  refine go_callV_I (as := [vi x1, vi 2]) gk_RX12_321 gmf_X12_ruleHas (by decide) rfl (by omega) rfl rfl (Nat.le_of_ble_eq_true rfl) dX12_isOfPeriod_3 (fun _ _ h => cX12_ruleHas_c (by omega) h) (fun r1 s2 _ => ?_)
  refine go_ite (fun h3 => ?_) (fun h3 => ?_)
  · refine go_tsIn (v := 0) (off := 26) (tgt := 32) dX12_isOfPeriod_6 h3 (by decide) (by decide) (by decide) (by decide) ?_
    refine go_aload_n 0 dX12_isOfPeriod_32 rfl rfl ?_
    refine go_iload_n 1 dX12_isOfPeriod_33 rfl rfl ?_
    refine go_iload_n 2 dX12_isOfPeriod_34 rfl rfl ?_
    refine go_callV_I (as := [vi x1, vi x2]) gk_RX12_355 gmf_X12_isInMonths (by decide) rfl (by omega) rfl rfl (Nat.le_of_ble_eq_true rfl) dX12_isOfPeriod_35 (fun _ _ h => cX12_isInMonths_c (by omega) h) (fun r4 s5 _ => ?_)
    refine go_if_eq (tgt := 79) dX12_isOfPeriod_38 (by decide) (fun h6 => ?_) (fun h6 => ?_)
    · refine go_iconst (v := 0) dX12_isOfPeriod_79 (by decide) ?_
      exact go_ret rfl dX12_isOfPeriod_80
    · refine go_aload_n 0 dX12_isOfPeriod_41 rfl rfl ?_
      refine go_iload_n 1 dX12_isOfPeriod_42 rfl rfl ?_
      refine go_callV_I (as := [vi x1]) gk_RX12_336 gmf_X12_hasOn (by decide) rfl (by omega) rfl rfl (Nat.le_of_ble_eq_true rfl) dX12_isOfPeriod_43 (fun _ _ h => cX12_hasOn_c (by omega) h) (fun r7 s8 _ => ?_)
      refine go_gjn (P := fun j9 => ∀ (s10 : gH), gGo X rvI mX12_isOfPeriod d 58 [(0, vr a0), (1, vi x1), (2, vi x2)] [] s10 (j9 s10)) (fun s10 => ?_) (fun j9 hj9 => ?_)
      · refine go_aload_n 0 dX12_isOfPeriod_58 rfl rfl ?_
        refine go_iload_n 1 dX12_isOfPeriod_59 rfl rfl ?_
        refine go_callV_I (as := [vi x1]) gk_RX12_342 gmf_X12_hasBy (by decide) rfl (by omega) rfl rfl (Nat.le_of_ble_eq_true rfl) dX12_isOfPeriod_60 (fun _ _ h => cX12_hasBy_c (by omega) h) (fun r11 s12 _ => ?_)
        refine go_if_eq (tgt := 75) dX12_isOfPeriod_63 (by decide) (fun h13 => ?_) (fun h13 => ?_)
        · refine go_iconst (v := 1) dX12_isOfPeriod_75 (by decide) ?_
          refine go_goto (tgt := 80) dX12_isOfPeriod_76 (by decide) ?_
          exact go_ret rfl dX12_isOfPeriod_80
        · refine go_aload_n 0 dX12_isOfPeriod_66 rfl rfl ?_
          refine go_iload_n 1 dX12_isOfPeriod_67 rfl rfl ?_
          refine go_iload_n 2 dX12_isOfPeriod_68 rfl rfl ?_
          refine go_callV_I (as := [vi x1, vi x2]) gk_RX12_345 gmf_X12_isWeekday (by decide) rfl (by omega) rfl rfl (Nat.le_of_ble_eq_true rfl) dX12_isOfPeriod_69 (fun _ _ h => cX12_isWeekday_c (by omega) h) (fun r14 s15 _ => ?_)
          refine go_if_eq (tgt := 79) dX12_isOfPeriod_72 (by decide) (fun h16 => ?_) (fun h16 => ?_)
          · refine go_iconst (v := 0) dX12_isOfPeriod_79 (by decide) ?_
            exact go_ret rfl dX12_isOfPeriod_80
          · refine go_iconst (v := 1) dX12_isOfPeriod_75 (by decide) ?_
            refine go_goto (tgt := 80) dX12_isOfPeriod_76 (by decide) ?_
            exact go_ret rfl dX12_isOfPeriod_80
      · refine go_if_eq (tgt := 58) dX12_isOfPeriod_46 (by decide) (fun h17 => ?_) (fun h17 => ?_)
        · exact go_sub [0, 1, 2] (hj9 s8) rfl
        · refine go_aload_n 0 dX12_isOfPeriod_49 rfl rfl ?_
          refine go_iload_n 1 dX12_isOfPeriod_50 rfl rfl ?_
          refine go_iload_n 2 dX12_isOfPeriod_51 rfl rfl ?_
          refine go_callV_I (as := [vi x1, vi x2]) gk_RX12_339 gmf_X12_isDated (by decide) rfl (by omega) rfl rfl (Nat.le_of_ble_eq_true rfl) dX12_isOfPeriod_52 (fun _ _ h => cX12_isDated_c (by omega) h) (fun r18 s19 _ => ?_)
          refine go_if_eq (tgt := 79) dX12_isOfPeriod_55 (by decide) (fun h20 => ?_) (fun h20 => ?_)
          · refine go_iconst (v := 0) dX12_isOfPeriod_79 (by decide) ?_
            exact go_ret rfl dX12_isOfPeriod_80
          · exact go_sub [0, 1, 2] (hj9 s19) rfl
  · refine go_ite (fun h21 => ?_) (fun h21 => ?_)
    · refine go_tsIn (v := 1) (off := 75) (tgt := 81) dX12_isOfPeriod_6 h21 (by decide) (by decide) (by decide) (by decide) ?_
      refine go_aload_n 0 dX12_isOfPeriod_81 rfl rfl ?_
      refine go_iload_n 1 dX12_isOfPeriod_82 rfl rfl ?_
      refine go_iload_n 2 dX12_isOfPeriod_83 rfl rfl ?_
      refine go_callV_I (as := [vi x1, vi x2]) gk_RX12_355 gmf_X12_isInMonths (by decide) rfl (by omega) rfl rfl (Nat.le_of_ble_eq_true rfl) dX12_isOfPeriod_84 (fun _ _ h => cX12_isInMonths_c (by omega) h) (fun r22 s23 _ => ?_)
      refine go_if_eq (tgt := 146) dX12_isOfPeriod_87 (by decide) (fun h24 => ?_) (fun h24 => ?_)
      · refine go_iconst (v := 0) dX12_isOfPeriod_146 (by decide) ?_
        exact go_ret rfl dX12_isOfPeriod_147
      · refine go_aload_n 0 dX12_isOfPeriod_90 rfl rfl ?_
        refine go_iload_n 1 dX12_isOfPeriod_91 rfl rfl ?_
        refine go_callV_I (as := [vi x1]) gk_RX12_336 gmf_X12_hasOn (by decide) rfl (by omega) rfl rfl (Nat.le_of_ble_eq_true rfl) dX12_isOfPeriod_92 (fun _ _ h => cX12_hasOn_c (by omega) h) (fun r25 s26 _ => ?_)
        refine go_gjn (P := fun j27 => ∀ (s28 : gH), gGo X rvI mX12_isOfPeriod d 107 [(0, vr a0), (1, vi x1), (2, vi x2)] [] s28 (j27 s28)) (fun s28 => ?_) (fun j27 hj27 => ?_)
        · refine go_aload_n 0 dX12_isOfPeriod_107 rfl rfl ?_
          refine go_iload_n 1 dX12_isOfPeriod_108 rfl rfl ?_
          refine go_callV_I (as := [vi x1]) gk_RX12_342 gmf_X12_hasBy (by decide) rfl (by omega) rfl rfl (Nat.le_of_ble_eq_true rfl) dX12_isOfPeriod_109 (fun _ _ h => cX12_hasBy_c (by omega) h) (fun r29 s30 _ => ?_)
          refine go_if_eq (tgt := 127) dX12_isOfPeriod_112 (by decide) (fun h31 => ?_) (fun h31 => ?_)
          · refine go_iload_n 2 dX12_isOfPeriod_127 rfl rfl ?_
            refine go_callS_I (as := [vi x2]) gk_RX12_327 gmf_X12_weekdayOf (by omega) rfl rfl (Nat.le_of_ble_eq_true rfl) dX12_isOfPeriod_128 (fun _ _ h => cX12_weekdayOf_c (by omega) h) (fun r32 s33 _ => ?_)
            refine go_aload_n 0 dX12_isOfPeriod_131 rfl rfl ?_
            refine go_iload_n 1 dX12_isOfPeriod_132 rfl rfl ?_
            refine go_callV_I (as := [vi x1]) gk_RX12_333 gmf_X12_fromOf (by decide) rfl (by omega) rfl rfl (Nat.le_of_ble_eq_true rfl) dX12_isOfPeriod_133 (fun _ _ h => cX12_fromOf_c (by omega) h) (fun r34 s35 _ => ?_)
            refine go_callS_I (as := [vi r34]) gk_RX12_327 gmf_X12_weekdayOf (by omega) rfl rfl (Nat.le_of_ble_eq_true rfl) dX12_isOfPeriod_136 (fun _ _ h => cX12_weekdayOf_c (by omega) h) (fun r36 s37 _ => ?_)
            refine go_icmp_ne (tgt := 146) dX12_isOfPeriod_139 (by decide) (fun h38 => ?_) (fun h38 => ?_)
            · refine go_iconst (v := 1) dX12_isOfPeriod_142 (by decide) ?_
              refine go_goto (tgt := 147) dX12_isOfPeriod_143 (by decide) ?_
              exact go_ret rfl dX12_isOfPeriod_147
            · refine go_iconst (v := 0) dX12_isOfPeriod_146 (by decide) ?_
              exact go_ret rfl dX12_isOfPeriod_147
          · refine go_aload_n 0 dX12_isOfPeriod_115 rfl rfl ?_
            refine go_iload_n 1 dX12_isOfPeriod_116 rfl rfl ?_
            refine go_iload_n 2 dX12_isOfPeriod_117 rfl rfl ?_
            refine go_callV_I (as := [vi x1, vi x2]) gk_RX12_345 gmf_X12_isWeekday (by decide) rfl (by omega) rfl rfl (Nat.le_of_ble_eq_true rfl) dX12_isOfPeriod_118 (fun _ _ h => cX12_isWeekday_c (by omega) h) (fun r39 s40 _ => ?_)
            refine go_if_eq (tgt := 146) dX12_isOfPeriod_121 (by decide) (fun h41 => ?_) (fun h41 => ?_)
            · refine go_iconst (v := 0) dX12_isOfPeriod_146 (by decide) ?_
              exact go_ret rfl dX12_isOfPeriod_147
            · refine go_goto (tgt := 142) dX12_isOfPeriod_124 (by decide) ?_
              refine go_iconst (v := 1) dX12_isOfPeriod_142 (by decide) ?_
              refine go_goto (tgt := 147) dX12_isOfPeriod_143 (by decide) ?_
              exact go_ret rfl dX12_isOfPeriod_147
        · refine go_if_eq (tgt := 107) dX12_isOfPeriod_95 (by decide) (fun h42 => ?_) (fun h42 => ?_)
          · exact go_sub [0, 1, 2] (hj27 s26) rfl
          · refine go_aload_n 0 dX12_isOfPeriod_98 rfl rfl ?_
            refine go_iload_n 1 dX12_isOfPeriod_99 rfl rfl ?_
            refine go_iload_n 2 dX12_isOfPeriod_100 rfl rfl ?_
            refine go_callV_I (as := [vi x1, vi x2]) gk_RX12_339 gmf_X12_isDated (by decide) rfl (by omega) rfl rfl (Nat.le_of_ble_eq_true rfl) dX12_isOfPeriod_101 (fun _ _ h => cX12_isDated_c (by omega) h) (fun r43 s44 _ => ?_)
            refine go_if_eq (tgt := 146) dX12_isOfPeriod_104 (by decide) (fun h45 => ?_) (fun h45 => ?_)
            · refine go_iconst (v := 0) dX12_isOfPeriod_146 (by decide) ?_
              exact go_ret rfl dX12_isOfPeriod_147
            · exact go_sub [0, 1, 2] (hj27 s44) rfl
    · refine go_ite (fun h46 => ?_) (fun h46 => ?_)
      · refine go_tsIn (v := 2) (off := 142) (tgt := 148) dX12_isOfPeriod_6 h46 (by decide) (by decide) (by decide) (by decide) ?_
        refine go_aload_n 0 dX12_isOfPeriod_148 rfl rfl ?_
        refine go_iload_n 1 dX12_isOfPeriod_149 rfl rfl ?_
        refine go_iload_n 2 dX12_isOfPeriod_150 rfl rfl ?_
        refine go_callV_I (as := [vi x1, vi x2]) gk_RX12_355 gmf_X12_isInMonths (by decide) rfl (by omega) rfl rfl (Nat.le_of_ble_eq_true rfl) dX12_isOfPeriod_151 (fun _ _ h => cX12_isInMonths_c (by omega) h) (fun r47 s48 _ => ?_)
        refine go_if_eq (tgt := 170) dX12_isOfPeriod_154 (by decide) (fun h49 => ?_) (fun h49 => ?_)
        · refine go_iconst (v := 0) dX12_isOfPeriod_170 (by decide) ?_
          exact go_ret rfl dX12_isOfPeriod_171
        · refine go_aload_n 0 dX12_isOfPeriod_157 rfl rfl ?_
          refine go_iload_n 1 dX12_isOfPeriod_158 rfl rfl ?_
          refine go_iload_n 2 dX12_isOfPeriod_159 rfl rfl ?_
          refine go_callV_I (as := [vi x1, vi x2]) gk_RX12_358 gmf_X12_isOfMonth (by decide) rfl (by omega) rfl rfl (Nat.le_of_ble_eq_true rfl) dX12_isOfPeriod_160 (fun _ _ h => cX12_isOfMonth_c (by omega) h) (fun r50 s51 _ => ?_)
          refine go_if_eq (tgt := 170) dX12_isOfPeriod_163 (by decide) (fun h52 => ?_) (fun h52 => ?_)
          · refine go_iconst (v := 0) dX12_isOfPeriod_170 (by decide) ?_
            exact go_ret rfl dX12_isOfPeriod_171
          · refine go_iconst (v := 1) dX12_isOfPeriod_166 (by decide) ?_
            refine go_goto (tgt := 171) dX12_isOfPeriod_167 (by decide) ?_
            exact go_ret rfl dX12_isOfPeriod_171
      · refine go_tsOut (tgt := 172) dX12_isOfPeriod_6 (by have gh3 := gts h3 (n := 0) (by decide); have gh21 := gts h21 (n := 1) (by decide); have gh46 := gts h46 (n := 2) (by decide); omega) (by decide) ?_
        refine go_aload_n 0 dX12_isOfPeriod_172 rfl rfl ?_
        refine go_iload_n 1 dX12_isOfPeriod_173 rfl rfl ?_
        refine go_iload_n 2 dX12_isOfPeriod_174 rfl rfl ?_
        refine go_callV_I (as := [vi x1, vi x2]) gk_RX12_361 gmf_X12_isOfYear (by decide) rfl (by omega) rfl rfl (Nat.le_of_ble_eq_true rfl) dX12_isOfPeriod_175 (fun _ _ h => cX12_isOfYear_c (by omega) h) (fun r53 s54 _ => ?_)
        exact go_ret rfl dX12_isOfPeriod_178
set_option maxRecDepth 100000 in
set_option maxHeartbeats 4000000 in
theorem cX12_isOfPeriod_c {d : Nat} (hd : 6 ≤ d) {a0 : Nat} {x1 : Int32} {x2 : Int32} {s0 : gH} {r : Int32} {s1 : gH} (h : fX12_isOfPeriod a0 x1 x2 s0 = some (r, s1)) : gMt mX12_isOfPeriod d [vr a0, vi x1, vi x2] s0 (some (vi r)) s1 := by
  obtain ⟨h1, h2⟩ := gzr_some h
  exact gMt_of (rv := rvI) (by decide +kernel) (Nat.le_of_ble_eq_true rfl) ⟨_, rfl, gnarZ h2⟩ (fun _ => wX12_isOfPeriod hd) h1
def fX12_flag (x0 : Int32) (s0 : gH) : Option (Int32 × gH) :=
  if x0 = 0 then
    some (0, s0)
  else
    some (1, s0)
set_option maxRecDepth 100000 in
set_option maxHeartbeats 4000000 in
theorem wX12_flag {X : Nat × (Nat → Int32)} {d : Nat} (hd : 0 ≤ d) {x0 : Int32} {s0 : gH} : gGo X rvI mX12_flag d 0 [(0, vi x0)] [] s0 (fX12_flag x0 s0) := by
  unfold fX12_flag
  refine go_iload_n 0 dX12_flag_0 rfl rfl ?_
  refine go_if_eq (tgt := 8) dX12_flag_1 (by decide) (fun h1 => ?_) (fun h1 => ?_)
  · refine go_iconst (v := 0) dX12_flag_8 (by decide) ?_
    exact go_ret rfl dX12_flag_9
  · refine go_iconst (v := 1) dX12_flag_4 (by decide) ?_
    refine go_goto (tgt := 9) dX12_flag_5 (by decide) ?_
    exact go_ret rfl dX12_flag_9
set_option maxRecDepth 100000 in
set_option maxHeartbeats 4000000 in
theorem cX12_flag_c {d : Nat} (hd : 0 ≤ d) {x0 : Int32} {s0 : gH} {r : Int32} {s1 : gH} (h : fX12_flag x0 s0 = some (r, s1)) : gMt mX12_flag d [vi x0] s0 (some (vi r)) s1 :=
  gMt_of (rv := rvI) (by decide +kernel) (Nat.le_of_ble_eq_true rfl) ⟨_, rfl, rfl⟩ (fun _ => wX12_flag hd) h
def gX12_isAt_L15  (a0 : Nat) (x1 : Int32) (x2 : Int32) (x3 : Int32) : Nat → Int32 → gH → Option (Int32 × gH)
  | 0, _, _ => none
  | n + 1, x4, s0 =>
    gb2 (gcv s0 a0 12 (fX12_ruleHas a0 x1 31 s0)) fun r5 s6 =>
    if x4 < r5 then
      gb2 (gcv s6 a0 12 (fX12_ruleHas a0 x1 (32 + x4) s6)) fun r8 s9 =>
      if r8 = x2 then
        some (1, s9)
      else
        gb2 (gcv s9 a0 12 (fX12_ruleHas a0 x1 (32 + x4) s9)) fun r11 s12 =>
        if r11 = (x2 - x3) - 1 then
          some (1, s12)
        else
          gX12_isAt_L15 a0 x1 x2 x3 n (x4 + 1) s12
    else
      some (0, s6)
set_option maxRecDepth 100000 in
set_option maxHeartbeats 4000000 in
theorem wX12_isAt_L15 {X : Nat × (Nat → Int32)} {d : Nat} (hd : 2 ≤ d)  (a0 : Nat) (x1 : Int32) (x2 : Int32) (x3 : Int32) : ∀ (n : Nat) (x4 : Int32) (s0 : gH), gGo X rvI mX12_isAt d 15 [(0, vr a0), (1, vi x1), (2, vi x2), (3, vi x3), (4, vi x4)] [] s0 (gX12_isAt_L15 a0 x1 x2 x3 n x4 s0) := by
  intro n
  induction n with
  | zero => intros; exact go_none
  | succ n ih =>
    intro x4 s0
    show gGo _ _ _ _ _ _ _ _ (gX12_isAt_L15 a0 x1 x2 x3 (n + 1) x4 s0)
    unfold gX12_isAt_L15
    refine go_iload 4 dX12_isAt_15 rfl ?_
    refine go_aload_n 0 dX12_isAt_17 rfl rfl ?_
    refine go_iload_n 1 dX12_isAt_18 rfl rfl ?_
    refine go_bipush (v := 31) dX12_isAt_19 (by decide) ?_
    refine go_callV_I (as := [vi x1, vi 31]) gk_RX12_321 gmf_X12_ruleHas (by decide) rfl (by omega) rfl rfl (Nat.le_of_ble_eq_true rfl) dX12_isAt_21 (fun _ _ h => cX12_ruleHas_c (by omega) h) (fun r5 s6 _ => ?_)
    refine go_icmp_ge (tgt := 67) dX12_isAt_24 (by decide) (fun h7 => ?_) (fun h7 => ?_)
    · refine go_aload_n 0 dX12_isAt_27 rfl rfl ?_
      refine go_iload_n 1 dX12_isAt_28 rfl rfl ?_
      refine go_bipush (v := 32) dX12_isAt_29 (by decide) ?_
      refine go_iload 4 dX12_isAt_31 rfl ?_
      refine go_iadd dX12_isAt_33 ?_
      refine go_callV_I (as := [vi x1, vi (32 + x4)]) gk_RX12_321 gmf_X12_ruleHas (by decide) rfl (by omega) rfl rfl (Nat.le_of_ble_eq_true rfl) dX12_isAt_34 (fun _ _ h => cX12_ruleHas_c (by omega) h) (fun r8 s9 _ => ?_)
      refine go_iload_n 2 dX12_isAt_37 rfl rfl ?_
      refine go_icmp_eq (tgt := 59) dX12_isAt_38 (by decide) (fun h10 => ?_) (fun h10 => ?_)
      · refine go_iconst (v := 1) dX12_isAt_59 (by decide) ?_
        exact go_ret rfl dX12_isAt_60
      · refine go_aload_n 0 dX12_isAt_41 rfl rfl ?_
        refine go_iload_n 1 dX12_isAt_42 rfl rfl ?_
        refine go_bipush (v := 32) dX12_isAt_43 (by decide) ?_
        refine go_iload 4 dX12_isAt_45 rfl ?_
        refine go_iadd dX12_isAt_47 ?_
        refine go_callV_I (as := [vi x1, vi (32 + x4)]) gk_RX12_321 gmf_X12_ruleHas (by decide) rfl (by omega) rfl rfl (Nat.le_of_ble_eq_true rfl) dX12_isAt_48 (fun _ _ h => cX12_ruleHas_c (by omega) h) (fun r11 s12 _ => ?_)
        refine go_iload_n 2 dX12_isAt_51 rfl rfl ?_
        refine go_iload_n 3 dX12_isAt_52 rfl rfl ?_
        refine go_isub dX12_isAt_53 ?_
        refine go_iconst (v := 1) dX12_isAt_54 (by decide) ?_
        refine go_isub dX12_isAt_55 ?_
        refine go_icmp_ne (tgt := 61) dX12_isAt_56 (by decide) (fun h13 => ?_) (fun h13 => ?_)
        · refine go_iconst (v := 1) dX12_isAt_59 (by decide) ?_
          exact go_ret rfl dX12_isAt_60
        · refine go_iinc (v := 1) (L' := [(4, vi (x4 + 1)), (0, vr a0), (1, vi x1), (2, vi x2), (3, vi x3)]) 4 dX12_isAt_61 rfl (by decide) (by decide) rfl ?_
          refine go_goto (tgt := 15) dX12_isAt_64 (by decide) ?_
          exact go_sub [1, 2, 3, 4, 0] (ih (x4 + 1) s12) rfl
    · refine go_iconst (v := 0) dX12_isAt_67 (by decide) ?_
      exact go_ret rfl dX12_isAt_68
def gX12_isAt (a0 : Nat) (x1 : Int32) (x2 : Int32) (x3 : Int32) (s0 : gH) : Option (Int32 × gH) :=
  gb2 (gcv s0 a0 12 (fX12_ruleHas a0 x1 31 s0)) fun r1 s2 =>
  if r1 = 0 then
    some (1, s2)
  else
    gX12_isAt_L15
      a0 x1 x2 x3 20000 0 s2
def fX12_isAt (a0 : Nat) (x1 : Int32) (x2 : Int32) (x3 : Int32) (s0 : gH) : Option (Int32 × gH) := gzr (gX12_isAt a0 x1 x2 x3 s0)
set_option maxRecDepth 100000 in
set_option maxHeartbeats 4000000 in
theorem wX12_isAt {X : Nat × (Nat → Int32)} {d : Nat} (hd : 2 ≤ d) {a0 : Nat} {x1 : Int32} {x2 : Int32} {x3 : Int32} {s0 : gH} : gGo X rvI mX12_isAt d 0 [(0, vr a0), (1, vi x1), (2, vi x2), (3, vi x3)] [] s0 (gX12_isAt a0 x1 x2 x3 s0) := by
  unfold gX12_isAt
  refine go_aload_n 0 dX12_isAt_0 rfl rfl ?_
  refine go_iload_n 1 dX12_isAt_1 rfl rfl ?_
  refine go_bipush (v := 31) dX12_isAt_2 (by decide) ?_
  refine go_callV_I (as := [vi x1, vi 31]) gk_RX12_321 gmf_X12_ruleHas (by decide) rfl (by omega) rfl rfl (Nat.le_of_ble_eq_true rfl) dX12_isAt_4 (fun _ _ h => cX12_ruleHas_c (by omega) h) (fun r1 s2 _ => ?_)
  refine go_if_ne (tgt := 12) dX12_isAt_7 (by decide) (fun h3 => ?_) (fun h3 => ?_)
  · refine go_iconst (v := 1) dX12_isAt_10 (by decide) ?_
    exact go_ret rfl dX12_isAt_11
  · refine go_iconst (v := 0) dX12_isAt_12 (by decide) ?_
    refine go_istore (L' := [(4, vi 0), (0, vr a0), (1, vi x1), (2, vi x2), (3, vi x3)]) dX12_isAt_13 (by decide) rfl ?_
    refine go_sub [1, 2, 3, 4, 0] (wX12_isAt_L15 hd a0 x1 x2 x3 20000 0 s2) rfl
set_option maxRecDepth 100000 in
set_option maxHeartbeats 4000000 in
theorem cX12_isAt_c {d : Nat} (hd : 2 ≤ d) {a0 : Nat} {x1 : Int32} {x2 : Int32} {x3 : Int32} {s0 : gH} {r : Int32} {s1 : gH} (h : fX12_isAt a0 x1 x2 x3 s0 = some (r, s1)) : gMt mX12_isAt d [vr a0, vi x1, vi x2, vi x3] s0 (some (vi r)) s1 := by
  obtain ⟨h1, h2⟩ := gzr_some h
  exact gMt_of (rv := rvI) (by decide +kernel) (Nat.le_of_ble_eq_true rfl) ⟨_, rfl, gnarZ h2⟩ (fun _ => wX12_isAt hd) h1
def gX12_laysPeriod_L5 (k59 : Int32 → Int32 → gH → Option (Int32 × gH)) (a0 : Nat) (x1 : Int32) (x2 : Int32) : Nat → Int32 → Int32 → gH → Option (Int32 × gH)
  | 0, _, _, _ => none
  | n + 1, x3, x4, s0 =>
    if x3 < 14610 then
      gb2 (gcv s0 a0 12 (fX12_periodOf a0 x1 x3 s0)) fun r3 s4 =>
      gb2 (gcv s4 a0 12 (fX12_periodOf a0 x1 x2 s4)) fun r5 s6 =>
      if r3 = r5 then
        (ggR s6 a0 12 32).bind fun v8 =>
        gb2 (gcv s6 a0 12 (fX12_isOfPeriod a0 x1 x3 s6)) fun r9 s10 =>
        (saI s10 v8 4 x3 r9).bind fun s11 =>
        (ggR s11 a0 12 32).bind fun v12 =>
        (gaI s11 v12 4 x3).bind fun v13 =>
        gb2 (fX12_flag v13 s11) fun r14 s15 =>
        glet (x4 + r14) fun y16 =>
        gX12_laysPeriod_L5 k59 a0 x1 x2 n (x3 + 1) y16 s15
      else
        k59 x3 x4 s6
    else
      k59 x3 x4 s0
set_option maxRecDepth 100000 in
set_option maxHeartbeats 4000000 in
theorem wX12_laysPeriod_L5 {X : Nat × (Nat → Int32)} {d : Nat} (hd : 7 ≤ d) (k59 : Int32 → Int32 → gH → Option (Int32 × gH)) (a0 : Nat) (x1 : Int32) (x2 : Int32) (hk59 : ∀ (x3 : Int32) (x4 : Int32) (s : gH), gGo X rvI mX12_laysPeriod d 59 [(0, vr a0), (1, vi x1), (2, vi x2), (3, vi x3), (4, vi x4)] [] s (k59 x3 x4 s)) : ∀ (n : Nat) (x3 : Int32) (x4 : Int32) (s0 : gH), gGo X rvI mX12_laysPeriod d 5 [(0, vr a0), (1, vi x1), (2, vi x2), (3, vi x3), (4, vi x4)] [] s0 (gX12_laysPeriod_L5 k59 a0 x1 x2 n x3 x4 s0) := by
  intro n
  induction n with
  | zero => intros; exact go_none
  | succ n ih =>
    intro x3 x4 s0
    show gGo _ _ _ _ _ _ _ _ (gX12_laysPeriod_L5 k59 a0 x1 x2 (n + 1) x3 x4 s0)
    unfold gX12_laysPeriod_L5
    refine go_iload_n 3 dX12_laysPeriod_5 rfl rfl ?_
    refine go_sipush (v := 14610) dX12_laysPeriod_6 (by decide) ?_
    refine go_icmp_ge (tgt := 59) dX12_laysPeriod_9 (by decide) (fun h2 => ?_) (fun h2 => ?_)
    · refine go_aload_n 0 dX12_laysPeriod_12 rfl rfl ?_
      refine go_iload_n 1 dX12_laysPeriod_13 rfl rfl ?_
      refine go_iload_n 3 dX12_laysPeriod_14 rfl rfl ?_
      refine go_callV_I (as := [vi x1, vi x3]) gk_RX12_364 gmf_X12_periodOf (by decide) rfl (by omega) rfl rfl (Nat.le_of_ble_eq_true rfl) dX12_laysPeriod_15 (fun _ _ h => cX12_periodOf_c (by omega) h) (fun r3 s4 _ => ?_)
      refine go_aload_n 0 dX12_laysPeriod_18 rfl rfl ?_
      refine go_iload_n 1 dX12_laysPeriod_19 rfl rfl ?_
      refine go_iload_n 2 dX12_laysPeriod_20 rfl rfl ?_
      refine go_callV_I (as := [vi x1, vi x2]) gk_RX12_364 gmf_X12_periodOf (by decide) rfl (by omega) rfl rfl (Nat.le_of_ble_eq_true rfl) dX12_laysPeriod_21 (fun _ _ h => cX12_periodOf_c (by omega) h) (fun r5 s6 _ => ?_)
      refine go_icmp_ne (tgt := 59) dX12_laysPeriod_24 (by decide) (fun h7 => ?_) (fun h7 => ?_)
      · refine go_aload_n 0 dX12_laysPeriod_27 rfl rfl ?_
        refine go_getR gf_RX12_65 gcf_12 gft_12_32 dX12_laysPeriod_28 (fun v8 => ?_)
        refine go_iload_n 3 dX12_laysPeriod_31 rfl rfl ?_
        refine go_aload_n 0 dX12_laysPeriod_32 rfl rfl ?_
        refine go_iload_n 1 dX12_laysPeriod_33 rfl rfl ?_
        refine go_iload_n 3 dX12_laysPeriod_34 rfl rfl ?_
        refine go_callV_I (as := [vi x1, vi x3]) gk_RX12_367 gmf_X12_isOfPeriod (by decide) rfl (by omega) rfl rfl (Nat.le_of_ble_eq_true rfl) dX12_laysPeriod_35 (fun _ _ h => cX12_isOfPeriod_c (by omega) h) (fun r9 s10 _ => ?_)
        refine go_zastore dX12_laysPeriod_38 (fun s11 _ => ?_)
        refine go_iload 4 dX12_laysPeriod_39 rfl ?_
        refine go_aload_n 0 dX12_laysPeriod_41 rfl rfl ?_
        refine go_getR gf_RX12_65 gcf_12 gft_12_32 dX12_laysPeriod_42 (fun v12 => ?_)
        refine go_iload_n 3 dX12_laysPeriod_45 rfl rfl ?_
        refine go_zaload dX12_laysPeriod_46 (fun v13 _ => ?_)
        refine go_callS_I (as := [vi v13]) gk_RX12_370 gmf_X12_flag (by omega) rfl rfl (Nat.le_of_ble_eq_true rfl) dX12_laysPeriod_47 (fun _ _ h => cX12_flag_c (by omega) h) (fun r14 s15 _ => ?_)
        refine go_iadd dX12_laysPeriod_50 ?_
        refine go_istore_l (L' := fun y16 => [(4, vi y16), (0, vr a0), (1, vi x1), (2, vi x2), (3, vi x3)]) dX12_laysPeriod_51 (by decide) (fun _ => rfl) (fun y16 => ?_)
        refine go_iinc (v := 1) (L' := [(3, vi (x3 + 1)), (4, vi y16), (0, vr a0), (1, vi x1), (2, vi x2)]) 4 dX12_laysPeriod_53 rfl (by decide) (by decide) rfl ?_
        refine go_goto (tgt := 5) dX12_laysPeriod_56 (by decide) ?_
        exact go_sub [2, 3, 4, 0, 1] (ih (x3 + 1) y16 s15) rfl
      · exact go_sub [0, 1, 2, 3, 4] (hk59 x3 x4 s6) rfl
    · exact go_sub [0, 1, 2, 3, 4] (hk59 x3 x4 s0) rfl
def gX12_laysPeriod_L65  (a0 : Nat) (x1 : Int32) (x3 : Int32) (x4 : Int32) : Nat → Int32 → Int32 → gH → Option (Int32 × gH)
  | 0, _, _, _ => none
  | n + 1, x5, x6, s0 =>
    if x6 < x3 then
      (ggR s0 a0 12 32).bind fun v22 =>
      (gaI s0 v22 4 x6).bind fun v23 =>
      if v23 = 0 then
        gX12_laysPeriod_L65 a0 x1 x3 x4 n x5 (x6 + 1) s0
      else
        (ggR s0 a0 12 32).bind fun v25 =>
        gb2 (gcv s0 a0 12 (fX12_isAt a0 x1 (x5 + 1) x4 s0)) fun r26 s27 =>
        (saI s27 v25 4 x6 r26).bind fun s28 =>
        gX12_laysPeriod_L65 a0 x1 x3 x4 n (x5 + 1) (x6 + 1) s28
    else
      some (x3, s0)
set_option maxRecDepth 100000 in
set_option maxHeartbeats 4000000 in
theorem wX12_laysPeriod_L65 {X : Nat × (Nat → Int32)} {d : Nat} (hd : 7 ≤ d)  (a0 : Nat) (x1 : Int32) (x3 : Int32) (x4 : Int32) : ∀ (n : Nat) (x5 : Int32) (x6 : Int32) (s0 : gH), gGo X rvI mX12_laysPeriod d 65 [(0, vr a0), (1, vi x1), (3, vi x3), (4, vi x4), (5, vi x5), (6, vi x6)] [] s0 (gX12_laysPeriod_L65 a0 x1 x3 x4 n x5 x6 s0) := by
  intro n
  induction n with
  | zero => intros; exact go_none
  | succ n ih =>
    intro x5 x6 s0
    show gGo _ _ _ _ _ _ _ _ (gX12_laysPeriod_L65 a0 x1 x3 x4 (n + 1) x5 x6 s0)
    unfold gX12_laysPeriod_L65
    refine go_iload 5 dX12_laysPeriod_65 rfl ?_
    refine go_iload_n 2 dX12_laysPeriod_67 rfl rfl ?_
    refine go_icmp_ge (tgt := 106) dX12_laysPeriod_68 (by decide) (fun h21 => ?_) (fun h21 => ?_)
    · refine go_aload_n 0 dX12_laysPeriod_71 rfl rfl ?_
      refine go_getR gf_RX12_65 gcf_12 gft_12_32 dX12_laysPeriod_72 (fun v22 => ?_)
      refine go_iload 5 dX12_laysPeriod_75 rfl ?_
      refine go_zaload dX12_laysPeriod_77 (fun v23 _ => ?_)
      refine go_if_eq (tgt := 100) dX12_laysPeriod_78 (by decide) (fun h24 => ?_) (fun h24 => ?_)
      · refine go_iinc (v := 1) (L' := [(6, vi (x6 + 1)), (0, vr a0), (1, vi x1), (3, vi x3), (4, vi x4), (5, vi x5)]) 5 dX12_laysPeriod_100 rfl (by decide) (by decide) rfl ?_
        refine go_goto (tgt := 65) dX12_laysPeriod_103 (by decide) ?_
        exact go_sub [1, 2, 3, 4, 5, 0] (ih x5 (x6 + 1) s0) rfl
      · refine go_iinc (v := 1) (L' := [(5, vi (x5 + 1)), (0, vr a0), (1, vi x1), (3, vi x3), (4, vi x4), (6, vi x6)]) 4 dX12_laysPeriod_81 rfl (by decide) (by decide) rfl ?_
        refine go_aload_n 1 dX12_laysPeriod_84 rfl rfl ?_
        refine go_getR gf_RX12_65 gcf_12 gft_12_32 dX12_laysPeriod_85 (fun v25 => ?_)
        refine go_iload 5 dX12_laysPeriod_88 rfl ?_
        refine go_aload_n 1 dX12_laysPeriod_90 rfl rfl ?_
        refine go_iload_n 2 dX12_laysPeriod_91 rfl rfl ?_
        refine go_iload 0 dX12_laysPeriod_92 rfl ?_
        refine go_iload 4 dX12_laysPeriod_94 rfl ?_
        refine go_callV_I (as := [vi x1, vi (x5 + 1), vi x4]) gk_RX12_374 gmf_X12_isAt (by decide) rfl (by omega) rfl rfl (Nat.le_of_ble_eq_true rfl) dX12_laysPeriod_96 (fun _ _ h => cX12_isAt_c (by omega) h) (fun r26 s27 _ => ?_)
        refine go_zastore dX12_laysPeriod_99 (fun s28 _ => ?_)
        refine go_iinc (v := 1) (L' := [(6, vi (x6 + 1)), (5, vi (x5 + 1)), (0, vr a0), (1, vi x1), (3, vi x3), (4, vi x4)]) 5 dX12_laysPeriod_100 rfl (by decide) (by decide) rfl ?_
        refine go_goto (tgt := 65) dX12_laysPeriod_103 (by decide) ?_
        exact go_sub [2, 3, 4, 5, 1, 0] (ih (x5 + 1) (x6 + 1) s28) rfl
    · refine go_iload_n 2 dX12_laysPeriod_106 rfl rfl ?_
      exact go_ret rfl dX12_laysPeriod_107
def fX12_laysPeriod (a0 : Nat) (x1 : Int32) (x2 : Int32) (s0 : gH) : Option (Int32 × gH) :=
  gX12_laysPeriod_L5
    (fun y17 y18 s19 =>
      gX12_laysPeriod_L65
        a0 x1 y17 y18 20000 0 x2 s19)
    a0 x1 x2 20000 x2 0 s0
set_option maxRecDepth 100000 in
set_option maxHeartbeats 4000000 in
theorem wX12_laysPeriod {X : Nat × (Nat → Int32)} {d : Nat} (hd : 7 ≤ d) {a0 : Nat} {x1 : Int32} {x2 : Int32} {s0 : gH} : gGo X rvI mX12_laysPeriod d 0 [(0, vr a0), (1, vi x1), (2, vi x2)] [] s0 (fX12_laysPeriod a0 x1 x2 s0) := by
  unfold fX12_laysPeriod
  refine go_iload_n 2 dX12_laysPeriod_0 rfl rfl ?_
  refine go_istore_n (L' := [(3, vi x2), (0, vr a0), (1, vi x1), (2, vi x2)]) dX12_laysPeriod_1 rfl (by decide) rfl ?_
  refine go_iconst (v := 0) dX12_laysPeriod_2 (by decide) ?_
  refine go_istore (L' := [(4, vi 0), (3, vi x2), (0, vr a0), (1, vi x1), (2, vi x2)]) dX12_laysPeriod_3 (by decide) rfl ?_
  refine go_sub [2, 3, 4, 1, 0] (wX12_laysPeriod_L5 hd _ a0 x1 x2 ?_ 20000 x2 0 s0) rfl
  intro y17 y18 s19
  refine go_iconst (v := 0) dX12_laysPeriod_59 (by decide) ?_
  refine go_istore (L' := [(5, vi 0), (0, vr a0), (1, vi x1), (2, vi x2), (3, vi y17), (4, vi y18)]) dX12_laysPeriod_60 (by decide) rfl ?_
  refine go_iload_n 3 dX12_laysPeriod_62 rfl rfl ?_
  refine go_istore (L' := [(6, vi x2), (5, vi 0), (0, vr a0), (1, vi x1), (2, vi x2), (3, vi y17), (4, vi y18)]) dX12_laysPeriod_63 (by decide) rfl ?_
  refine go_sub [2, 3, 5, 6, 1, 0] (wX12_laysPeriod_L65 hd a0 x1 y17 y18 20000 0 x2 s19) rfl
set_option maxRecDepth 100000 in
set_option maxHeartbeats 4000000 in
theorem cX12_laysPeriod_c {d : Nat} (hd : 7 ≤ d) {a0 : Nat} {x1 : Int32} {x2 : Int32} {s0 : gH} {r : Int32} {s1 : gH} (h : fX12_laysPeriod a0 x1 x2 s0 = some (r, s1)) : gMt mX12_laysPeriod d [vr a0, vi x1, vi x2] s0 (some (vi r)) s1 :=
  gMt_of (rv := rvI) (by decide +kernel) (Nat.le_of_ble_eq_true rfl) ⟨_, rfl, rfl⟩ (fun _ => wX12_laysPeriod hd) h
def gX12_laysBase_L2  (a0 : Nat) (x1 : Int32) : Nat → Int32 → gH → Option (Unit × gH)
  | 0, _, _ => none
  | n + 1, x2, s0 =>
    if x2 < 14610 then
      gb2 (gcv s0 a0 12 (fX12_laysPeriod a0 x1 x2 s0)) fun r3 s4 =>
      gX12_laysBase_L2 a0 x1 n r3 s4
    else
      some ((), s0)
set_option maxRecDepth 100000 in
set_option maxHeartbeats 4000000 in
theorem wX12_laysBase_L2 {X : Nat × (Nat → Int32)} {d : Nat} (hd : 8 ≤ d)  (a0 : Nat) (x1 : Int32) : ∀ (n : Nat) (x2 : Int32) (s0 : gH), gGo X rvU mX12_laysBase d 2 [(0, vr a0), (1, vi x1), (2, vi x2)] [] s0 (gX12_laysBase_L2 a0 x1 n x2 s0) := by
  intro n
  induction n with
  | zero => intros; exact go_none
  | succ n ih =>
    intro x2 s0
    show gGo _ _ _ _ _ _ _ _ (gX12_laysBase_L2 a0 x1 (n + 1) x2 s0)
    unfold gX12_laysBase_L2
    refine go_iload_n 2 dX12_laysBase_2 rfl rfl ?_
    refine go_sipush (v := 14610) dX12_laysBase_3 (by decide) ?_
    refine go_icmp_ge (tgt := 19) dX12_laysBase_6 (by decide) (fun h2 => ?_) (fun h2 => ?_)
    · refine go_aload_n 0 dX12_laysBase_9 rfl rfl ?_
      refine go_iload_n 1 dX12_laysBase_10 rfl rfl ?_
      refine go_iload_n 2 dX12_laysBase_11 rfl rfl ?_
      refine go_callV_I (as := [vi x1, vi x2]) gk_RX12_378 gmf_X12_laysPeriod (by decide) rfl (by omega) rfl rfl (Nat.le_of_ble_eq_true rfl) dX12_laysBase_12 (fun _ _ h => cX12_laysPeriod_c (by omega) h) (fun r3 s4 _ => ?_)
      refine go_istore_n (L' := [(2, vi r3), (0, vr a0), (1, vi x1)]) dX12_laysBase_15 rfl (by decide) rfl ?_
      refine go_goto (tgt := 2) dX12_laysBase_16 (by decide) ?_
      exact go_sub [1, 2, 0] (ih r3 s4) rfl
    · exact go_retv rfl dX12_laysBase_19
def fX12_laysBase (a0 : Nat) (x1 : Int32) (s0 : gH) : Option (Unit × gH) :=
  gX12_laysBase_L2
    a0 x1 20000 0 s0
set_option maxRecDepth 100000 in
set_option maxHeartbeats 4000000 in
theorem wX12_laysBase {X : Nat × (Nat → Int32)} {d : Nat} (hd : 8 ≤ d) {a0 : Nat} {x1 : Int32} {s0 : gH} : gGo X rvU mX12_laysBase d 0 [(0, vr a0), (1, vi x1)] [] s0 (fX12_laysBase a0 x1 s0) := by
  unfold fX12_laysBase
  refine go_iconst (v := 0) dX12_laysBase_0 (by decide) ?_
  refine go_istore_n (L' := [(2, vi 0), (0, vr a0), (1, vi x1)]) dX12_laysBase_1 rfl (by decide) rfl ?_
  refine go_sub [1, 2, 0] (wX12_laysBase_L2 hd a0 x1 20000 0 s0) rfl
set_option maxRecDepth 100000 in
set_option maxHeartbeats 4000000 in
theorem cX12_laysBase_c {d : Nat} (hd : 8 ≤ d) {a0 : Nat} {x1 : Int32} {s0 : gH} {r : Unit} {s1 : gH} (h : fX12_laysBase a0 x1 s0 = some (r, s1)) : gMt mX12_laysBase d [vr a0, vi x1] s0 none s1 :=
  gMt_of (rv := rvU) (by decide +kernel) (Nat.le_of_ble_eq_true rfl) rfl (fun _ => wX12_laysBase hd) h
def gX12_isGone (a0 : Nat) (x1 : Int32) (x2 : Int32) (x3 : Int32) (s0 : gH) : Option (Int32 × gH) :=
  gb2 (gcv s0 a0 12 (fX12_periodOf a0 x1 x2 s0)) fun r1 s2 =>
  gb2 (gcv s2 a0 12 (fX12_fromOf a0 x1 s2)) fun r3 s4 =>
  gb2 (gcv s4 a0 12 (fX12_periodOf a0 x1 r3 s4)) fun r5 s6 =>
  if x3 = 0 then none else
  if gIrem (r1 - r5) x3 = 0 then
    some (1, s6)
  else
    some (0, s6)
def fX12_isGone (a0 : Nat) (x1 : Int32) (x2 : Int32) (x3 : Int32) (s0 : gH) : Option (Int32 × gH) := gzr (gX12_isGone a0 x1 x2 x3 s0)
set_option maxRecDepth 100000 in
set_option maxHeartbeats 4000000 in
theorem wX12_isGone {X : Nat × (Nat → Int32)} {d : Nat} (hd : 3 ≤ d) {a0 : Nat} {x1 : Int32} {x2 : Int32} {x3 : Int32} {s0 : gH} : gGo X rvI mX12_isGone d 0 [(0, vr a0), (1, vi x1), (2, vi x2), (3, vi x3)] [] s0 (gX12_isGone a0 x1 x2 x3 s0) := by
  unfold gX12_isGone
  refine go_aload_n 0 dX12_isGone_0 rfl rfl ?_
  refine go_iload_n 1 dX12_isGone_1 rfl rfl ?_
  refine go_iload_n 2 dX12_isGone_2 rfl rfl ?_
  refine go_callV_I (as := [vi x1, vi x2]) gk_RX12_364 gmf_X12_periodOf (by decide) rfl (by omega) rfl rfl (Nat.le_of_ble_eq_true rfl) dX12_isGone_3 (fun _ _ h => cX12_periodOf_c (by omega) h) (fun r1 s2 _ => ?_)
  refine go_aload_n 0 dX12_isGone_6 rfl rfl ?_
  refine go_iload_n 1 dX12_isGone_7 rfl rfl ?_
  refine go_aload_n 0 dX12_isGone_8 rfl rfl ?_
  refine go_iload_n 1 dX12_isGone_9 rfl rfl ?_
  refine go_callV_I (as := [vi x1]) gk_RX12_333 gmf_X12_fromOf (by decide) rfl (by omega) rfl rfl (Nat.le_of_ble_eq_true rfl) dX12_isGone_10 (fun _ _ h => cX12_fromOf_c (by omega) h) (fun r3 s4 _ => ?_)
  refine go_callV_I (as := [vi x1, vi r3]) gk_RX12_364 gmf_X12_periodOf (by decide) rfl (by omega) rfl rfl (Nat.le_of_ble_eq_true rfl) dX12_isGone_13 (fun _ _ h => cX12_periodOf_c (by omega) h) (fun r5 s6 _ => ?_)
  refine go_isub dX12_isGone_16 ?_
  refine go_iload_n 3 dX12_isGone_17 rfl rfl ?_
  refine go_irem dX12_isGone_18 (fun _ => ?_)
  refine go_if_ne (tgt := 26) dX12_isGone_19 (by decide) (fun h7 => ?_) (fun h7 => ?_)
  · refine go_iconst (v := 1) dX12_isGone_22 (by decide) ?_
    refine go_goto (tgt := 27) dX12_isGone_23 (by decide) ?_
    exact go_ret rfl dX12_isGone_27
  · refine go_iconst (v := 0) dX12_isGone_26 (by decide) ?_
    exact go_ret rfl dX12_isGone_27
set_option maxRecDepth 100000 in
set_option maxHeartbeats 4000000 in
theorem cX12_isGone_c {d : Nat} (hd : 3 ≤ d) {a0 : Nat} {x1 : Int32} {x2 : Int32} {x3 : Int32} {s0 : gH} {r : Int32} {s1 : gH} (h : fX12_isGone a0 x1 x2 x3 s0 = some (r, s1)) : gMt mX12_isGone d [vr a0, vi x1, vi x2, vi x3] s0 (some (vi r)) s1 := by
  obtain ⟨h1, h2⟩ := gzr_some h
  exact gMt_of (rv := rvI) (by decide +kernel) (Nat.le_of_ble_eq_true rfl) ⟨_, rfl, gnarZ h2⟩ (fun _ => wX12_isGone hd) h1
def gX12_laysDaysBy_L55  (a0 : Nat) (x1 : Int32) (x2 : Int32) (a3 : Nat) (x4 : Int32) (x6 : Int32) : Nat → Int32 → Int32 → gH → Option (Unit × gH)
  | 0, _, _, _ => none
  | n + 1, x5, x7, s0 =>
    if x7 < 14610 then
      (ggR s0 a0 12 32).bind fun v13 =>
      (gaI s0 v13 4 x7).bind fun v14 =>
      gjn (fun (z16 : Int32) (s17 : gH) =>
          (saI s17 a3 4 (x4 + x7) z16).bind fun s18 =>
          gb2 (fX12_flag z16 s18) fun r19 s20 =>
          glet (x5 - r19) fun y21 =>
          gX12_laysDaysBy_L55 a0 x1 x2 a3 x4 x6 n y21 (x7 + 1) s20
      ) fun j15 =>
      if v14 = 0 then
        j15 0 s0
      else
        gb2 (gcv s0 a0 12 (fX12_fromOf a0 x1 s0)) fun r23 s24 =>
        if x7 < r23 then
          j15 0 s24
        else
          if x6 < x7 then
            j15 0 s24
          else
            if 0 < x5 then
              gb2 (gcv s24 a0 12 (fX12_isGone a0 x1 x7 x2 s24)) fun r28 s29 =>
              if r28 = 0 then
                j15 0 s29
              else
                j15 1 s29
            else
              j15 0 s24
    else
      some ((), s0)
set_option maxRecDepth 100000 in
set_option maxHeartbeats 4000000 in
theorem wX12_laysDaysBy_L55 {X : Nat × (Nat → Int32)} {d : Nat} (hd : 4 ≤ d)  (a0 : Nat) (x1 : Int32) (x2 : Int32) (a3 : Nat) (x4 : Int32) (x6 : Int32) : ∀ (n : Nat) (x5 : Int32) (x7 : Int32) (s0 : gH), gGo X rvU mX12_laysDaysBy d 55 [(0, vr a0), (1, vi x1), (2, vi x2), (3, vr a3), (4, vi x4), (5, vi x5), (6, vi x6), (7, vi x7)] [] s0 (gX12_laysDaysBy_L55 a0 x1 x2 a3 x4 x6 n x5 x7 s0) := by
  intro n
  induction n with
  | zero => intros; exact go_none
  | succ n ih =>
    intro x5 x7 s0
    show gGo _ _ _ _ _ _ _ _ (gX12_laysDaysBy_L55 a0 x1 x2 a3 x4 x6 (n + 1) x5 x7 s0)
    unfold gX12_laysDaysBy_L55
    refine go_iload 7 dX12_laysDaysBy_55 rfl ?_
    refine go_sipush (v := 14610) dX12_laysDaysBy_57 (by decide) ?_
    refine go_icmp_ge (tgt := 138) dX12_laysDaysBy_60 (by decide) (fun h12 => ?_) (fun h12 => ?_)
    · refine go_aload_n 0 dX12_laysDaysBy_63 rfl rfl ?_
      refine go_getR gf_RX12_65 gcf_12 gft_12_32 dX12_laysDaysBy_64 (fun v13 => ?_)
      refine go_iload 7 dX12_laysDaysBy_67 rfl ?_
      refine go_zaload dX12_laysDaysBy_69 (fun v14 _ => ?_)
      refine go_gjn (P := fun j15 => ∀ (z16 : Int32) (s17 : gH), gGo X rvU mX12_laysDaysBy d 111 [(0, vr a0), (1, vi x1), (2, vi x2), (3, vr a3), (4, vi x4), (5, vi x5), (6, vi x6), (7, vi x7)] [vi z16] s17 (j15 z16 s17)) (fun z16 s17 => ?_) (fun j15 hj15 => ?_)
      · refine go_istore (L' := [(8, vi z16), (0, vr a0), (1, vi x1), (2, vi x2), (3, vr a3), (4, vi x4), (5, vi x5), (6, vi x6), (7, vi x7)]) dX12_laysDaysBy_111 (by decide) rfl ?_
        refine go_aload_n 4 dX12_laysDaysBy_113 rfl rfl ?_
        refine go_iload 5 dX12_laysDaysBy_114 rfl ?_
        refine go_iload 8 dX12_laysDaysBy_116 rfl ?_
        refine go_iadd dX12_laysDaysBy_118 ?_
        refine go_iload 0 dX12_laysDaysBy_119 rfl ?_
        refine go_zastore dX12_laysDaysBy_121 (fun s18 _ => ?_)
        refine go_iload 6 dX12_laysDaysBy_122 rfl ?_
        refine go_iload 0 dX12_laysDaysBy_124 rfl ?_
        refine go_callS_I (as := [vi z16]) gk_RX12_370 gmf_X12_flag (by omega) rfl rfl (Nat.le_of_ble_eq_true rfl) dX12_laysDaysBy_126 (fun _ _ h => cX12_flag_c (by omega) h) (fun r19 s20 _ => ?_)
        refine go_isub dX12_laysDaysBy_129 ?_
        refine go_istore_l (L' := fun y21 => [(5, vi y21), (8, vi z16), (0, vr a0), (1, vi x1), (2, vi x2), (3, vr a3), (4, vi x4), (6, vi x6), (7, vi x7)]) dX12_laysDaysBy_130 (by decide) (fun _ => rfl) (fun y21 => ?_)
        refine go_iinc (v := 1) (L' := [(7, vi (x7 + 1)), (5, vi y21), (8, vi z16), (0, vr a0), (1, vi x1), (2, vi x2), (3, vr a3), (4, vi x4), (6, vi x6)]) 8 dX12_laysDaysBy_132 rfl (by decide) (by decide) rfl ?_
        refine go_goto (tgt := 55) dX12_laysDaysBy_135 (by decide) ?_
        exact go_sub [3, 4, 5, 6, 7, 1, 8, 0] (ih y21 (x7 + 1) s20) rfl
      · refine go_if_eq (tgt := 110) dX12_laysDaysBy_70 (by decide) (fun h22 => ?_) (fun h22 => ?_)
        · refine go_iconst (v := 0) dX12_laysDaysBy_110 (by decide) ?_
          exact go_sub [0, 1, 2, 3, 4, 5, 6, 7] (hj15 0 s0) rfl
        · refine go_iload 7 dX12_laysDaysBy_73 rfl ?_
          refine go_aload_n 0 dX12_laysDaysBy_75 rfl rfl ?_
          refine go_iload_n 1 dX12_laysDaysBy_76 rfl rfl ?_
          refine go_callV_I (as := [vi x1]) gk_RX12_333 gmf_X12_fromOf (by decide) rfl (by omega) rfl rfl (Nat.le_of_ble_eq_true rfl) dX12_laysDaysBy_77 (fun _ _ h => cX12_fromOf_c (by omega) h) (fun r23 s24 _ => ?_)
          refine go_icmp_lt (tgt := 110) dX12_laysDaysBy_80 (by decide) (fun h25 => ?_) (fun h25 => ?_)
          · refine go_iconst (v := 0) dX12_laysDaysBy_110 (by decide) ?_
            exact go_sub [0, 1, 2, 3, 4, 5, 6, 7] (hj15 0 s24) rfl
          · refine go_iload 7 dX12_laysDaysBy_83 rfl ?_
            refine go_iload 6 dX12_laysDaysBy_85 rfl ?_
            refine go_icmp_gt (tgt := 110) dX12_laysDaysBy_87 (by decide) (fun h26 => ?_) (fun h26 => ?_)
            · refine go_iconst (v := 0) dX12_laysDaysBy_110 (by decide) ?_
              exact go_sub [0, 1, 2, 3, 4, 5, 6, 7] (hj15 0 s24) rfl
            · refine go_iload 5 dX12_laysDaysBy_90 rfl ?_
              refine go_if_le (tgt := 110) dX12_laysDaysBy_92 (by decide) (fun h27 => ?_) (fun h27 => ?_)
              · refine go_aload_n 0 dX12_laysDaysBy_95 rfl rfl ?_
                refine go_iload_n 1 dX12_laysDaysBy_96 rfl rfl ?_
                refine go_iload 7 dX12_laysDaysBy_97 rfl ?_
                refine go_iload_n 2 dX12_laysDaysBy_99 rfl rfl ?_
                refine go_callV_I (as := [vi x1, vi x7, vi x2]) gk_RX12_381 gmf_X12_isGone (by decide) rfl (by omega) rfl rfl (Nat.le_of_ble_eq_true rfl) dX12_laysDaysBy_100 (fun _ _ h => cX12_isGone_c (by omega) h) (fun r28 s29 _ => ?_)
                refine go_if_eq (tgt := 110) dX12_laysDaysBy_103 (by decide) (fun h30 => ?_) (fun h30 => ?_)
                · refine go_iconst (v := 0) dX12_laysDaysBy_110 (by decide) ?_
                  exact go_sub [0, 1, 2, 3, 4, 5, 6, 7] (hj15 0 s29) rfl
                · refine go_iconst (v := 1) dX12_laysDaysBy_106 (by decide) ?_
                  refine go_goto (tgt := 111) dX12_laysDaysBy_107 (by decide) ?_
                  exact go_sub [0, 1, 2, 3, 4, 5, 6, 7] (hj15 1 s29) rfl
              · refine go_iconst (v := 0) dX12_laysDaysBy_110 (by decide) ?_
                exact go_sub [0, 1, 2, 3, 4, 5, 6, 7] (hj15 0 s24) rfl
    · exact go_retv rfl dX12_laysDaysBy_138
def fX12_laysDaysBy (a0 : Nat) (x1 : Int32) (x2 : Int32) (a3 : Nat) (x4 : Int32) (s0 : gH) : Option (Unit × gH) :=
  gb2 (gcv s0 a0 12 (fX12_ruleHas a0 x1 41 s0)) fun r1 s2 =>
  gjn (fun (z4 : Int32) (s5 : gH) =>
      gb2 (gcv s5 a0 12 (fX12_ruleHas a0 x1 40 s5)) fun r6 s7 =>
      gjn (fun (z9 : Int32) (s10 : gH) =>
          gX12_laysDaysBy_L55
            a0 x1 x2 a3 x4 z9 20000 z4 0 s10
      ) fun j8 =>
      if r6 = -1 then
        j8 14609 s7
      else
        gb2 (gcv s7 a0 12 (fX12_ruleHas a0 x1 40 s7)) fun r32 s33 =>
        j8 r32 s33
  ) fun j3 =>
  if r1 = -1 then
    j3 14610 s2
  else
    gb2 (gcv s2 a0 12 (fX12_ruleHas a0 x1 41 s2)) fun r35 s36 =>
    j3 r35 s36
set_option maxRecDepth 100000 in
set_option maxHeartbeats 4000000 in
theorem wX12_laysDaysBy {X : Nat × (Nat → Int32)} {d : Nat} (hd : 4 ≤ d) {a0 : Nat} {x1 : Int32} {x2 : Int32} {a3 : Nat} {x4 : Int32} {s0 : gH} : gGo X rvU mX12_laysDaysBy d 0 [(0, vr a0), (1, vi x1), (2, vi x2), (3, vr a3), (4, vi x4)] [] s0 (fX12_laysDaysBy a0 x1 x2 a3 x4 s0) := by
  unfold fX12_laysDaysBy
  refine go_aload_n 0 dX12_laysDaysBy_0 rfl rfl ?_
  refine go_iload_n 1 dX12_laysDaysBy_1 rfl rfl ?_
  refine go_bipush (v := 41) dX12_laysDaysBy_2 (by decide) ?_
  refine go_callV_I (as := [vi x1, vi 41]) gk_RX12_321 gmf_X12_ruleHas (by decide) rfl (by omega) rfl rfl (Nat.le_of_ble_eq_true rfl) dX12_laysDaysBy_4 (fun _ _ h => cX12_ruleHas_c (by omega) h) (fun r1 s2 _ => ?_)
  refine go_iconst (v := -1) dX12_laysDaysBy_7 (by decide) ?_
  refine go_gjn (P := fun j3 => ∀ (z4 : Int32) (s5 : gH), gGo X rvU mX12_laysDaysBy d 24 [(0, vr a0), (1, vi x1), (2, vi x2), (3, vr a3), (4, vi x4)] [vi z4] s5 (j3 z4 s5)) (fun z4 s5 => ?_) (fun j3 hj3 => ?_)
  · refine go_istore (L' := [(5, vi z4), (0, vr a0), (1, vi x1), (2, vi x2), (3, vr a3), (4, vi x4)]) dX12_laysDaysBy_24 (by decide) rfl ?_
    refine go_aload_n 1 dX12_laysDaysBy_26 rfl rfl ?_
    refine go_iload_n 2 dX12_laysDaysBy_27 rfl rfl ?_
    refine go_bipush (v := 40) dX12_laysDaysBy_28 (by decide) ?_
    refine go_callV_I (as := [vi x1, vi 40]) gk_RX12_321 gmf_X12_ruleHas (by decide) rfl (by omega) rfl rfl (Nat.le_of_ble_eq_true rfl) dX12_laysDaysBy_30 (fun _ _ h => cX12_ruleHas_c (by omega) h) (fun r6 s7 _ => ?_)
    refine go_iconst (v := -1) dX12_laysDaysBy_33 (by decide) ?_
    refine go_gjn (P := fun j8 => ∀ (z9 : Int32) (s10 : gH), gGo X rvU mX12_laysDaysBy d 50 [(0, vr a0), (1, vi x1), (2, vi x2), (3, vr a3), (4, vi x4), (5, vi z4)] [vi z9] s10 (j8 z9 s10)) (fun z9 s10 => ?_) (fun j8 hj8 => ?_)
    · refine go_istore (L' := [(6, vi z9), (0, vr a0), (1, vi x1), (2, vi x2), (3, vr a3), (4, vi x4), (5, vi z4)]) dX12_laysDaysBy_50 (by decide) rfl ?_
      refine go_iconst (v := 0) dX12_laysDaysBy_52 (by decide) ?_
      refine go_istore (L' := [(7, vi 0), (6, vi z9), (0, vr a0), (1, vi x1), (2, vi x2), (3, vr a3), (4, vi x4), (5, vi z4)]) dX12_laysDaysBy_53 (by decide) rfl ?_
      refine go_sub [2, 3, 4, 5, 6, 7, 1, 0] (wX12_laysDaysBy_L55 hd a0 x1 x2 a3 x4 z9 20000 z4 0 s10) rfl
    · refine go_icmp_ne (tgt := 43) dX12_laysDaysBy_34 (by decide) (fun h31 => ?_) (fun h31 => ?_)
      · refine go_sipush (v := 14609) dX12_laysDaysBy_37 (by decide) ?_
        refine go_goto (tgt := 50) dX12_laysDaysBy_40 (by decide) ?_
        exact go_sub [1, 2, 3, 4, 5, 0] (hj8 14609 s7) rfl
      · refine go_aload_n 1 dX12_laysDaysBy_43 rfl rfl ?_
        refine go_iload_n 2 dX12_laysDaysBy_44 rfl rfl ?_
        refine go_bipush (v := 40) dX12_laysDaysBy_45 (by decide) ?_
        refine go_callV_I (as := [vi x1, vi 40]) gk_RX12_321 gmf_X12_ruleHas (by decide) rfl (by omega) rfl rfl (Nat.le_of_ble_eq_true rfl) dX12_laysDaysBy_47 (fun _ _ h => cX12_ruleHas_c (by omega) h) (fun r32 s33 _ => ?_)
        exact go_sub [1, 2, 3, 4, 5, 0] (hj8 r32 s33) rfl
  · refine go_icmp_ne (tgt := 17) dX12_laysDaysBy_8 (by decide) (fun h34 => ?_) (fun h34 => ?_)
    · refine go_sipush (v := 14610) dX12_laysDaysBy_11 (by decide) ?_
      refine go_goto (tgt := 24) dX12_laysDaysBy_14 (by decide) ?_
      exact go_sub [0, 1, 2, 3, 4] (hj3 14610 s2) rfl
    · refine go_aload_n 0 dX12_laysDaysBy_17 rfl rfl ?_
      refine go_iload_n 1 dX12_laysDaysBy_18 rfl rfl ?_
      refine go_bipush (v := 41) dX12_laysDaysBy_19 (by decide) ?_
      refine go_callV_I (as := [vi x1, vi 41]) gk_RX12_321 gmf_X12_ruleHas (by decide) rfl (by omega) rfl rfl (Nat.le_of_ble_eq_true rfl) dX12_laysDaysBy_21 (fun _ _ h => cX12_ruleHas_c (by omega) h) (fun r35 s36 _ => ?_)
      exact go_sub [0, 1, 2, 3, 4] (hj3 r35 s36) rfl
set_option maxRecDepth 100000 in
set_option maxHeartbeats 4000000 in
theorem cX12_laysDaysBy_c {d : Nat} (hd : 4 ≤ d) {a0 : Nat} {x1 : Int32} {x2 : Int32} {a3 : Nat} {x4 : Int32} {s0 : gH} {r : Unit} {s1 : gH} (h : fX12_laysDaysBy a0 x1 x2 a3 x4 s0 = some (r, s1)) : gMt mX12_laysDaysBy d [vr a0, vi x1, vi x2, vr a3, vi x4] s0 none s1 :=
  gMt_of (rv := rvU) (by decide +kernel) (Nat.le_of_ble_eq_true rfl) rfl (fun _ => wX12_laysDaysBy hd) h
def fX12_lays0 (a0 : Nat) (x1 : Int32) (s0 : gH) : Option (Unit × gH) :=
  (ggR s0 a0 12 31).bind fun v1 =>
  (gaI s0 v1 4 x1).bind fun v2 =>
  if v2 = 0 then
    gb2 (gcv s0 a0 12 (fX12_laysBase a0 x1 s0)) fun r4 s5 =>
    (ggR s5 a0 12 29).bind fun v6 =>
    (gaI s5 v6 2 (2 * x1)).bind fun v7 =>
    (ggR s5 a0 12 30).bind fun v8 =>
    gb2 (gcv s5 a0 12 (fX12_laysDaysBy a0 x1 v7 v8 (14610 * x1) s5)) fun r9 s10 =>
    (ggR s10 a0 12 31).bind fun v11 =>
    (saI s10 v11 4 x1 1).bind fun s12 =>
    some ((), s12)
  else
    some ((), s0)
set_option maxRecDepth 100000 in
set_option maxHeartbeats 4000000 in
theorem wX12_lays0 {X : Nat × (Nat → Int32)} {d : Nat} (hd : 9 ≤ d) {a0 : Nat} {x1 : Int32} {s0 : gH} : gGo X rvU mX12_lays0 d 0 [(0, vr a0), (1, vi x1)] [] s0 (fX12_lays0 a0 x1 s0) := by
  unfold fX12_lays0
  refine go_aload_n 0 dX12_lays0_0 rfl rfl ?_
  refine go_getR gf_RX12_62 gcf_12 gft_12_31 dX12_lays0_1 (fun v1 => ?_)
  refine go_iload_n 1 dX12_lays0_4 rfl rfl ?_
  refine go_zaload dX12_lays0_5 (fun v2 _ => ?_)
  refine go_if_eq (tgt := 10) dX12_lays0_6 (by decide) (fun h3 => ?_) (fun h3 => ?_)
  · refine go_aload_n 0 dX12_lays0_10 rfl rfl ?_
    refine go_iload_n 1 dX12_lays0_11 rfl rfl ?_
    refine go_callV_v (as := [vi x1]) gk_RX12_412 gmf_X12_laysBase (by decide) rfl (by omega) rfl rfl (Nat.le_of_ble_eq_true rfl) dX12_lays0_12 (fun _ _ h => cX12_laysBase_c (by omega) h) (fun r4 s5 _ => ?_)
    refine go_aload_n 0 dX12_lays0_15 rfl rfl ?_
    refine go_iload_n 1 dX12_lays0_16 rfl rfl ?_
    refine go_aload_n 0 dX12_lays0_17 rfl rfl ?_
    refine go_getR gf_RX12_54 gcf_12 gft_12_29 dX12_lays0_18 (fun v6 => ?_)
    refine go_iconst (v := 2) dX12_lays0_21 (by decide) ?_
    refine go_iload_n 1 dX12_lays0_22 rfl rfl ?_
    refine go_imul dX12_lays0_23 ?_
    refine go_iaload dX12_lays0_24 (fun v7 _ => ?_)
    refine go_aload_n 0 dX12_lays0_25 rfl rfl ?_
    refine go_getR gf_RX12_58 gcf_12 gft_12_30 dX12_lays0_26 (fun v8 => ?_)
    refine go_sipush (v := 14610) dX12_lays0_29 (by decide) ?_
    refine go_iload_n 1 dX12_lays0_32 rfl rfl ?_
    refine go_imul dX12_lays0_33 ?_
    refine go_callV_v (as := [vi x1, vi v7, vr v8, vi (14610 * x1)]) gk_RX12_415 gmf_X12_laysDaysBy (by decide) rfl (by omega) rfl rfl (Nat.le_of_ble_eq_true rfl) dX12_lays0_34 (fun _ _ h => cX12_laysDaysBy_c (by omega) h) (fun r9 s10 _ => ?_)
    refine go_aload_n 0 dX12_lays0_37 rfl rfl ?_
    refine go_getR gf_RX12_62 gcf_12 gft_12_31 dX12_lays0_38 (fun v11 => ?_)
    refine go_iload_n 1 dX12_lays0_41 rfl rfl ?_
    refine go_iconst (v := 1) dX12_lays0_42 (by decide) ?_
    refine go_zastore dX12_lays0_43 (fun s12 _ => ?_)
    exact go_retv rfl dX12_lays0_44
  · exact go_retv rfl dX12_lays0_9
set_option maxRecDepth 100000 in
set_option maxHeartbeats 4000000 in
theorem cX12_lays0_c {d : Nat} (hd : 9 ≤ d) {a0 : Nat} {x1 : Int32} {s0 : gH} {r : Unit} {s1 : gH} (h : fX12_lays0 a0 x1 s0 = some (r, s1)) : gMt mX12_lays0 d [vr a0, vi x1] s0 none s1 :=
  gMt_of (rv := rvU) (by decide +kernel) (Nat.le_of_ble_eq_true rfl) rfl (fun _ => wX12_lays0 hd) h
def gX12_puts_L2  (a0 : Nat) (x1 : Int32) : Nat → Int32 → gH → Option (Unit × gH)
  | 0, _, _ => none
  | n + 1, x2, s0 =>
    if x2 < 14610 then
      (ggR s0 a0 12 33).bind fun v3 =>
      (ggI s0 a0 12 34).bind fun v4 =>
      (ggR s0 a0 12 30).bind fun v5 =>
      (gaI s0 v5 4 ((14610 * x1) + x2)).bind fun v6 =>
      (saI s0 v3 4 ((14610 * v4) + x2) v6).bind fun s7 =>
      gX12_puts_L2 a0 x1 n (x2 + 1) s7
    else
      (ggI s0 a0 12 34).bind fun v8 =>
      (spI s0 a0 12 34 (v8 + 1)).bind fun s9 =>
      some ((), s9)
set_option maxRecDepth 100000 in
set_option maxHeartbeats 4000000 in
theorem wX12_puts_L2 {X : Nat × (Nat → Int32)} {d : Nat} (hd : 0 ≤ d)  (a0 : Nat) (x1 : Int32) : ∀ (n : Nat) (x2 : Int32) (s0 : gH), gGo X rvU mX12_puts d 2 [(0, vr a0), (1, vi x1), (2, vi x2)] [] s0 (gX12_puts_L2 a0 x1 n x2 s0) := by
  intro n
  induction n with
  | zero => intros; exact go_none
  | succ n ih =>
    intro x2 s0
    show gGo _ _ _ _ _ _ _ _ (gX12_puts_L2 a0 x1 (n + 1) x2 s0)
    unfold gX12_puts_L2
    refine go_iload_n 2 dX12_puts_2 rfl rfl ?_
    refine go_sipush (v := 14610) dX12_puts_3 (by decide) ?_
    refine go_icmp_ge (tgt := 42) dX12_puts_6 (by decide) (fun h2 => ?_) (fun h2 => ?_)
    · refine go_aload_n 0 dX12_puts_9 rfl rfl ?_
      refine go_getR gf_RX12_69 gcf_12 gft_12_33 dX12_puts_10 (fun v3 => ?_)
      refine go_sipush (v := 14610) dX12_puts_13 (by decide) ?_
      refine go_aload_n 0 dX12_puts_16 rfl rfl ?_
      refine go_getI gf_RX12_384 gcf_12 gft_12_34 dX12_puts_17 (fun v4 => ?_)
      refine go_imul dX12_puts_20 ?_
      refine go_iload_n 2 dX12_puts_21 rfl rfl ?_
      refine go_iadd dX12_puts_22 ?_
      refine go_aload_n 0 dX12_puts_23 rfl rfl ?_
      refine go_getR gf_RX12_58 gcf_12 gft_12_30 dX12_puts_24 (fun v5 => ?_)
      refine go_sipush (v := 14610) dX12_puts_27 (by decide) ?_
      refine go_iload_n 1 dX12_puts_30 rfl rfl ?_
      refine go_imul dX12_puts_31 ?_
      refine go_iload_n 2 dX12_puts_32 rfl rfl ?_
      refine go_iadd dX12_puts_33 ?_
      refine go_zaload dX12_puts_34 (fun v6 _ => ?_)
      refine go_zastore dX12_puts_35 (fun s7 _ => ?_)
      refine go_iinc (v := 1) (L' := [(2, vi (x2 + 1)), (0, vr a0), (1, vi x1)]) 2 dX12_puts_36 rfl (by decide) (by decide) rfl ?_
      refine go_goto (tgt := 2) dX12_puts_39 (by decide) ?_
      exact go_sub [1, 2, 0] (ih (x2 + 1) s7) rfl
    · refine go_aload_n 0 dX12_puts_42 rfl rfl ?_
      refine go_dup dX12_puts_43 rfl ?_
      refine go_getI gf_RX12_384 gcf_12 gft_12_34 dX12_puts_44 (fun v8 => ?_)
      refine go_iconst (v := 1) dX12_puts_47 (by decide) ?_
      refine go_iadd dX12_puts_48 ?_
      refine go_putI gf_RX12_384 gcf_12 gpl_12_34 gft_12_34 dX12_puts_49 (fun s9 _ => ?_)
      exact go_retv rfl dX12_puts_52
def fX12_puts (a0 : Nat) (x1 : Int32) (s0 : gH) : Option (Unit × gH) :=
  gX12_puts_L2
    a0 x1 20000 0 s0
set_option maxRecDepth 100000 in
set_option maxHeartbeats 4000000 in
theorem wX12_puts {X : Nat × (Nat → Int32)} {d : Nat} (hd : 0 ≤ d) {a0 : Nat} {x1 : Int32} {s0 : gH} : gGo X rvU mX12_puts d 0 [(0, vr a0), (1, vi x1)] [] s0 (fX12_puts a0 x1 s0) := by
  unfold fX12_puts
  refine go_iconst (v := 0) dX12_puts_0 (by decide) ?_
  refine go_istore_n (L' := [(2, vi 0), (0, vr a0), (1, vi x1)]) dX12_puts_1 rfl (by decide) rfl ?_
  refine go_sub [1, 2, 0] (wX12_puts_L2 hd a0 x1 20000 0 s0) rfl
set_option maxRecDepth 100000 in
set_option maxHeartbeats 4000000 in
theorem cX12_puts_c {d : Nat} (hd : 0 ≤ d) {a0 : Nat} {x1 : Int32} {s0 : gH} {r : Unit} {s1 : gH} (h : fX12_puts a0 x1 s0 = some (r, s1)) : gMt mX12_puts d [vr a0, vi x1] s0 none s1 :=
  gMt_of (rv := rvU) (by decide +kernel) (Nat.le_of_ble_eq_true rfl) rfl (fun _ => wX12_puts hd) h
def gX12_putsDay_L2  (a0 : Nat) (x1 : Int32) : Nat → Int32 → gH → Option (Unit × gH)
  | 0, _, _ => none
  | n + 1, x2, s0 =>
    if x2 < 14610 then
      (ggR s0 a0 12 33).bind fun v3 =>
      (ggI s0 a0 12 34).bind fun v4 =>
      if x2 = x1 then
        (saI s0 v3 4 ((14610 * v4) + x2) 1).bind fun s6 =>
        gX12_putsDay_L2 a0 x1 n (x2 + 1) s6
      else
        (saI s0 v3 4 ((14610 * v4) + x2) 0).bind fun s7 =>
        gX12_putsDay_L2 a0 x1 n (x2 + 1) s7
    else
      (ggI s0 a0 12 34).bind fun v8 =>
      (spI s0 a0 12 34 (v8 + 1)).bind fun s9 =>
      some ((), s9)
set_option maxRecDepth 100000 in
set_option maxHeartbeats 4000000 in
theorem wX12_putsDay_L2 {X : Nat × (Nat → Int32)} {d : Nat} (hd : 0 ≤ d)  (a0 : Nat) (x1 : Int32) : ∀ (n : Nat) (x2 : Int32) (s0 : gH), gGo X rvU mX12_putsDay d 2 [(0, vr a0), (1, vi x1), (2, vi x2)] [] s0 (gX12_putsDay_L2 a0 x1 n x2 s0) := by
  intro n
  induction n with
  | zero => intros; exact go_none
  | succ n ih =>
    intro x2 s0
    show gGo _ _ _ _ _ _ _ _ (gX12_putsDay_L2 a0 x1 (n + 1) x2 s0)
    unfold gX12_putsDay_L2
    refine go_iload_n 2 dX12_putsDay_2 rfl rfl ?_
    refine go_sipush (v := 14610) dX12_putsDay_3 (by decide) ?_
    refine go_icmp_ge (tgt := 40) dX12_putsDay_6 (by decide) (fun h2 => ?_) (fun h2 => ?_)
    · refine go_aload_n 0 dX12_putsDay_9 rfl rfl ?_
      refine go_getR gf_RX12_69 gcf_12 gft_12_33 dX12_putsDay_10 (fun v3 => ?_)
      refine go_sipush (v := 14610) dX12_putsDay_13 (by decide) ?_
      refine go_aload_n 0 dX12_putsDay_16 rfl rfl ?_
      refine go_getI gf_RX12_384 gcf_12 gft_12_34 dX12_putsDay_17 (fun v4 => ?_)
      refine go_imul dX12_putsDay_20 ?_
      refine go_iload_n 2 dX12_putsDay_21 rfl rfl ?_
      refine go_iadd dX12_putsDay_22 ?_
      refine go_iload_n 2 dX12_putsDay_23 rfl rfl ?_
      refine go_iload_n 1 dX12_putsDay_24 rfl rfl ?_
      refine go_icmp_ne (tgt := 32) dX12_putsDay_25 (by decide) (fun h5 => ?_) (fun h5 => ?_)
      · refine go_iconst (v := 1) dX12_putsDay_28 (by decide) ?_
        refine go_goto (tgt := 33) dX12_putsDay_29 (by decide) ?_
        refine go_zastore dX12_putsDay_33 (fun s6 _ => ?_)
        refine go_iinc (v := 1) (L' := [(2, vi (x2 + 1)), (0, vr a0), (1, vi x1)]) 2 dX12_putsDay_34 rfl (by decide) (by decide) rfl ?_
        refine go_goto (tgt := 2) dX12_putsDay_37 (by decide) ?_
        exact go_sub [1, 2, 0] (ih (x2 + 1) s6) rfl
      · refine go_iconst (v := 0) dX12_putsDay_32 (by decide) ?_
        refine go_zastore dX12_putsDay_33 (fun s7 _ => ?_)
        refine go_iinc (v := 1) (L' := [(2, vi (x2 + 1)), (0, vr a0), (1, vi x1)]) 2 dX12_putsDay_34 rfl (by decide) (by decide) rfl ?_
        refine go_goto (tgt := 2) dX12_putsDay_37 (by decide) ?_
        exact go_sub [1, 2, 0] (ih (x2 + 1) s7) rfl
    · refine go_aload_n 0 dX12_putsDay_40 rfl rfl ?_
      refine go_dup dX12_putsDay_41 rfl ?_
      refine go_getI gf_RX12_384 gcf_12 gft_12_34 dX12_putsDay_42 (fun v8 => ?_)
      refine go_iconst (v := 1) dX12_putsDay_45 (by decide) ?_
      refine go_iadd dX12_putsDay_46 ?_
      refine go_putI gf_RX12_384 gcf_12 gpl_12_34 gft_12_34 dX12_putsDay_47 (fun s9 _ => ?_)
      exact go_retv rfl dX12_putsDay_50
def fX12_putsDay (a0 : Nat) (x1 : Int32) (s0 : gH) : Option (Unit × gH) :=
  gX12_putsDay_L2
    a0 x1 20000 0 s0
set_option maxRecDepth 100000 in
set_option maxHeartbeats 4000000 in
theorem wX12_putsDay {X : Nat × (Nat → Int32)} {d : Nat} (hd : 0 ≤ d) {a0 : Nat} {x1 : Int32} {s0 : gH} : gGo X rvU mX12_putsDay d 0 [(0, vr a0), (1, vi x1)] [] s0 (fX12_putsDay a0 x1 s0) := by
  unfold fX12_putsDay
  refine go_iconst (v := 0) dX12_putsDay_0 (by decide) ?_
  refine go_istore_n (L' := [(2, vi 0), (0, vr a0), (1, vi x1)]) dX12_putsDay_1 rfl (by decide) rfl ?_
  refine go_sub [1, 2, 0] (wX12_putsDay_L2 hd a0 x1 20000 0 s0) rfl
set_option maxRecDepth 100000 in
set_option maxHeartbeats 4000000 in
theorem cX12_putsDay_c {d : Nat} (hd : 0 ≤ d) {a0 : Nat} {x1 : Int32} {s0 : gH} {r : Unit} {s1 : gH} (h : fX12_putsDay a0 x1 s0 = some (r, s1)) : gMt mX12_putsDay d [vr a0, vi x1] s0 none s1 :=
  gMt_of (rv := rvU) (by decide +kernel) (Nat.le_of_ble_eq_true rfl) rfl (fun _ => wX12_putsDay hd) h
def gX12_movesTop_L13 (k40 : gH → Option (Unit × gH)) (a0 : Nat) (x1 : Int32) (x2 : Int32) : Nat → Int32 → gH → Option (Unit × gH)
  | 0, _, _ => none
  | n + 1, x3, s0 =>
    if x3 < 14610 then
      (ggR s0 a0 12 35).bind fun v5 =>
      (ggR s0 a0 12 33).bind fun v6 =>
      (gaI s0 v6 4 (x2 + x3)).bind fun v7 =>
      (saI s0 v5 4 x3 v7).bind fun s8 =>
      gX12_movesTop_L13 k40 a0 x1 x2 n (x3 + 1) s8
    else
      k40 s0
set_option maxRecDepth 100000 in
set_option maxHeartbeats 4000000 in
theorem wX12_movesTop_L13 {X : Nat × (Nat → Int32)} {d : Nat} (hd : 2 ≤ d) (k40 : gH → Option (Unit × gH)) (a0 : Nat) (x1 : Int32) (x2 : Int32) (hk40 : ∀ (s : gH), gGo X rvU mX12_movesTop d 40 [(0, vr a0), (1, vi x1), (2, vi x2)] [] s (k40 s)) : ∀ (n : Nat) (x3 : Int32) (s0 : gH), gGo X rvU mX12_movesTop d 13 [(0, vr a0), (1, vi x1), (2, vi x2), (3, vi x3)] [] s0 (gX12_movesTop_L13 k40 a0 x1 x2 n x3 s0) := by
  intro n
  induction n with
  | zero => intros; exact go_none
  | succ n ih =>
    intro x3 s0
    show gGo _ _ _ _ _ _ _ _ (gX12_movesTop_L13 k40 a0 x1 x2 (n + 1) x3 s0)
    unfold gX12_movesTop_L13
    refine go_iload_n 3 dX12_movesTop_13 rfl rfl ?_
    refine go_sipush (v := 14610) dX12_movesTop_14 (by decide) ?_
    refine go_icmp_ge (tgt := 40) dX12_movesTop_17 (by decide) (fun h4 => ?_) (fun h4 => ?_)
    · refine go_aload_n 0 dX12_movesTop_20 rfl rfl ?_
      refine go_getR gf_RX12_72 gcf_12 gft_12_35 dX12_movesTop_21 (fun v5 => ?_)
      refine go_iload_n 3 dX12_movesTop_24 rfl rfl ?_
      refine go_aload_n 0 dX12_movesTop_25 rfl rfl ?_
      refine go_getR gf_RX12_69 gcf_12 gft_12_33 dX12_movesTop_26 (fun v6 => ?_)
      refine go_iload_n 2 dX12_movesTop_29 rfl rfl ?_
      refine go_iload_n 3 dX12_movesTop_30 rfl rfl ?_
      refine go_iadd dX12_movesTop_31 ?_
      refine go_zaload dX12_movesTop_32 (fun v7 _ => ?_)
      refine go_zastore dX12_movesTop_33 (fun s8 _ => ?_)
      refine go_iinc (v := 1) (L' := [(3, vi (x3 + 1)), (0, vr a0), (1, vi x1), (2, vi x2)]) 3 dX12_movesTop_34 rfl (by decide) (by decide) rfl ?_
      refine go_goto (tgt := 13) dX12_movesTop_37 (by decide) ?_
      exact go_sub [1, 2, 3, 0] (ih (x3 + 1) s8) rfl
    · exact go_sub [0, 1, 2] (hk40 s0) rfl
def gX12_movesTop_L42  (a0 : Nat) (x1 : Int32) (x2 : Int32) : Nat → Int32 → gH → Option (Unit × gH)
  | 0, _, _ => none
  | n + 1, x3, s0 =>
    if x3 < 14610 then
      (ggR s0 a0 12 33).bind fun v12 =>
      gb2 (fX12_isDay (x3 - x1) s0) fun r13 s14 =>
      if r13 = 0 then
        (saI s14 v12 4 (x2 + x3) 0).bind fun s16 =>
        gX12_movesTop_L42 a0 x1 x2 n (x3 + 1) s16
      else
        (ggR s14 a0 12 35).bind fun v17 =>
        (gaI s14 v17 4 (x3 - x1)).bind fun v18 =>
        if v18 = 0 then
          (saI s14 v12 4 (x2 + x3) 0).bind fun s20 =>
          gX12_movesTop_L42 a0 x1 x2 n (x3 + 1) s20
        else
          (saI s14 v12 4 (x2 + x3) 1).bind fun s21 =>
          gX12_movesTop_L42 a0 x1 x2 n (x3 + 1) s21
    else
      some ((), s0)
set_option maxRecDepth 100000 in
set_option maxHeartbeats 4000000 in
theorem wX12_movesTop_L42 {X : Nat × (Nat → Int32)} {d : Nat} (hd : 2 ≤ d)  (a0 : Nat) (x1 : Int32) (x2 : Int32) : ∀ (n : Nat) (x3 : Int32) (s0 : gH), gGo X rvU mX12_movesTop d 42 [(0, vr a0), (1, vi x1), (2, vi x2), (3, vi x3)] [] s0 (gX12_movesTop_L42 a0 x1 x2 n x3 s0) := by
  intro n
  induction n with
  | zero => intros; exact go_none
  | succ n ih =>
    intro x3 s0
    show gGo _ _ _ _ _ _ _ _ (gX12_movesTop_L42 a0 x1 x2 (n + 1) x3 s0)
    unfold gX12_movesTop_L42
    refine go_iload_n 3 dX12_movesTop_42 rfl rfl ?_
    refine go_sipush (v := 14610) dX12_movesTop_43 (by decide) ?_
    refine go_icmp_ge (tgt := 88) dX12_movesTop_46 (by decide) (fun h11 => ?_) (fun h11 => ?_)
    · refine go_aload_n 0 dX12_movesTop_49 rfl rfl ?_
      refine go_getR gf_RX12_69 gcf_12 gft_12_33 dX12_movesTop_50 (fun v12 => ?_)
      refine go_iload_n 2 dX12_movesTop_53 rfl rfl ?_
      refine go_iload_n 3 dX12_movesTop_54 rfl rfl ?_
      refine go_iadd dX12_movesTop_55 ?_
      refine go_iload_n 3 dX12_movesTop_56 rfl rfl ?_
      refine go_iload_n 1 dX12_movesTop_57 rfl rfl ?_
      refine go_isub dX12_movesTop_58 ?_
      refine go_callS_I (as := [vi (x3 - x1)]) gk_RX12_387 gmf_X12_isDay (by omega) rfl rfl (Nat.le_of_ble_eq_true rfl) dX12_movesTop_59 (fun _ _ h => cX12_isDay_c (by omega) h) (fun r13 s14 _ => ?_)
      refine go_if_eq (tgt := 80) dX12_movesTop_62 (by decide) (fun h15 => ?_) (fun h15 => ?_)
      · refine go_iconst (v := 0) dX12_movesTop_80 (by decide) ?_
        refine go_zastore dX12_movesTop_81 (fun s16 _ => ?_)
        refine go_iinc (v := 1) (L' := [(3, vi (x3 + 1)), (0, vr a0), (1, vi x1), (2, vi x2)]) 3 dX12_movesTop_82 rfl (by decide) (by decide) rfl ?_
        refine go_goto (tgt := 42) dX12_movesTop_85 (by decide) ?_
        exact go_sub [1, 2, 3, 0] (ih (x3 + 1) s16) rfl
      · refine go_aload_n 0 dX12_movesTop_65 rfl rfl ?_
        refine go_getR gf_RX12_72 gcf_12 gft_12_35 dX12_movesTop_66 (fun v17 => ?_)
        refine go_iload_n 3 dX12_movesTop_69 rfl rfl ?_
        refine go_iload_n 1 dX12_movesTop_70 rfl rfl ?_
        refine go_isub dX12_movesTop_71 ?_
        refine go_zaload dX12_movesTop_72 (fun v18 _ => ?_)
        refine go_if_eq (tgt := 80) dX12_movesTop_73 (by decide) (fun h19 => ?_) (fun h19 => ?_)
        · refine go_iconst (v := 0) dX12_movesTop_80 (by decide) ?_
          refine go_zastore dX12_movesTop_81 (fun s20 _ => ?_)
          refine go_iinc (v := 1) (L' := [(3, vi (x3 + 1)), (0, vr a0), (1, vi x1), (2, vi x2)]) 3 dX12_movesTop_82 rfl (by decide) (by decide) rfl ?_
          refine go_goto (tgt := 42) dX12_movesTop_85 (by decide) ?_
          exact go_sub [1, 2, 3, 0] (ih (x3 + 1) s20) rfl
        · refine go_iconst (v := 1) dX12_movesTop_76 (by decide) ?_
          refine go_goto (tgt := 81) dX12_movesTop_77 (by decide) ?_
          refine go_zastore dX12_movesTop_81 (fun s21 _ => ?_)
          refine go_iinc (v := 1) (L' := [(3, vi (x3 + 1)), (0, vr a0), (1, vi x1), (2, vi x2)]) 3 dX12_movesTop_82 rfl (by decide) (by decide) rfl ?_
          refine go_goto (tgt := 42) dX12_movesTop_85 (by decide) ?_
          exact go_sub [1, 2, 3, 0] (ih (x3 + 1) s21) rfl
    · exact go_retv rfl dX12_movesTop_88
def fX12_movesTop (a0 : Nat) (x1 : Int32) (s0 : gH) : Option (Unit × gH) :=
  (ggI s0 a0 12 34).bind fun v1 =>
  glet (14610 * (v1 - 1)) fun y2 =>
  gX12_movesTop_L13
    (fun s9 =>
      gX12_movesTop_L42
        a0 x1 y2 20000 0 s9)
    a0 x1 y2 20000 0 s0
set_option maxRecDepth 100000 in
set_option maxHeartbeats 4000000 in
theorem wX12_movesTop {X : Nat × (Nat → Int32)} {d : Nat} (hd : 2 ≤ d) {a0 : Nat} {x1 : Int32} {s0 : gH} : gGo X rvU mX12_movesTop d 0 [(0, vr a0), (1, vi x1)] [] s0 (fX12_movesTop a0 x1 s0) := by
  unfold fX12_movesTop
  refine go_sipush (v := 14610) dX12_movesTop_0 (by decide) ?_
  refine go_aload_n 0 dX12_movesTop_3 rfl rfl ?_
  refine go_getI gf_RX12_384 gcf_12 gft_12_34 dX12_movesTop_4 (fun v1 => ?_)
  refine go_iconst (v := 1) dX12_movesTop_7 (by decide) ?_
  refine go_isub dX12_movesTop_8 ?_
  refine go_imul dX12_movesTop_9 ?_
  refine go_istore_n_l (L' := fun y2 => [(2, vi y2), (0, vr a0), (1, vi x1)]) dX12_movesTop_10 rfl (by decide) (fun _ => rfl) (fun y2 => ?_)
  refine go_iconst (v := 0) dX12_movesTop_11 (by decide) ?_
  refine go_istore_n (L' := [(3, vi 0), (2, vi y2), (0, vr a0), (1, vi x1)]) dX12_movesTop_12 rfl (by decide) rfl ?_
  refine go_sub [2, 3, 1, 0] (wX12_movesTop_L13 hd _ a0 x1 y2 ?_ 20000 0 s0) rfl
  intro s9
  refine go_iconst (v := 0) dX12_movesTop_40 (by decide) ?_
  refine go_istore_n (L' := [(3, vi 0), (0, vr a0), (1, vi x1), (2, vi y2)]) dX12_movesTop_41 rfl (by decide) rfl ?_
  refine go_sub [1, 2, 3, 0] (wX12_movesTop_L42 hd a0 x1 y2 20000 0 s9) rfl
set_option maxRecDepth 100000 in
set_option maxHeartbeats 4000000 in
theorem cX12_movesTop_c {d : Nat} (hd : 2 ≤ d) {a0 : Nat} {x1 : Int32} {s0 : gH} {r : Unit} {s1 : gH} (h : fX12_movesTop a0 x1 s0 = some (r, s1)) : gMt mX12_movesTop d [vr a0, vi x1] s0 none s1 :=
  gMt_of (rv := rvU) (by decide +kernel) (Nat.le_of_ble_eq_true rfl) rfl (fun _ => wX12_movesTop hd) h
