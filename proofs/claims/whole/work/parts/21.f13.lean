/-! walks, written by a program -/
def fX11_period (a0 : Nat) (x1 : Int32) (x2 : Int32) (x3 : Int32) (s0 : gH) : Option (Int32 × gH) :=
  (ggR s0 a0 11 7).bind fun v1 =>
  gb2 (gcv s0 v1 1 (fX1_ruleAt v1 x1 s0)) fun r2 s3 =>
  if r2 = 0 then
    some (-1, s3)
  else
    gb2 (fX11_isDay x2 s3) fun r5 s6 =>
    if r5 = 0 then
      some (-1, s6)
    else
      if x3 < 0 then
        some (-1, s6)
      else
        if 2 < x3 then
          some (-1, s6)
        else
          (ggI s6 r2 8 1).bind fun v10 =>
          gb2 (fX0_periodOf v10 x2 s6) fun r11 s12 =>
          if x3 = 2 then
            gb2 (gcv s12 r2 8 (fX8_goesBy r2 r11 s12)) fun r14 s15 =>
            if r14 = 0 then
              some (0, s15)
            else
              some (1, s15)
          else
            (ggR s12 a0 11 2).bind fun v17 =>
            gb2 (gcv s12 v17 3 (fX3_gather v17 r2 r11 s12)) fun r18 s19 =>
            if x3 = 1 then
              (ggR s19 a0 11 2).bind fun v21 =>
              gb2 (gcv s19 v21 3 (fX3_keepPlaces v21 r2 s19)) fun r22 s23 =>
              (ggR s23 a0 11 2).bind fun v24 =>
              (ggI s23 v24 3 2).bind fun v25 =>
              some (v25, s23)
            else
              (ggR s19 a0 11 2).bind fun v26 =>
              (ggI s19 v26 3 2).bind fun v27 =>
              some (v27, s19)
set_option maxRecDepth 100000 in
set_option maxHeartbeats 4000000 in
theorem wX11_period {X : Nat × (Nat → Int32)} {d : Nat} (hd : 4 ≤ d) {a0 : Nat} {x1 : Int32} {x2 : Int32} {x3 : Int32} {s0 : gH} : gGo X rvI mX11_period d 0 [(0, vr a0), (1, vi x1), (2, vi x2), (3, vi x3)] [] s0 (fX11_period a0 x1 x2 x3 s0) := by
  unfold fX11_period
  refine go_aload_n 0 dX11_period_0 rfl rfl ?_
  refine go_getR gf_RX11_60 gcf_11 gft_11_7 dX11_period_1 (fun v1 => ?_)
  refine go_iload_n 1 dX11_period_4 rfl rfl ?_
  refine go_callV_R (as := [vi x1]) gk_RX11_122 gmf_X1_ruleAt (by decide) rfl (by omega) rfl rfl (Nat.le_of_ble_eq_true rfl) dX11_period_5 (fun _ _ h => cX1_ruleAt_c (by omega) h) (fun r2 s3 _ => ?_)
  refine go_astore (L' := [(4, vr r2), (0, vr a0), (1, vi x1), (2, vi x2), (3, vi x3)]) dX11_period_8 (by decide) rfl ?_
  refine go_aload 0 dX11_period_10 rfl ?_
  refine go_ifnull (tgt := 31) dX11_period_12 (by decide) (fun h4 => ?_) (fun h4 => ?_)
  · refine go_iconst (v := -1) dX11_period_31 (by decide) ?_
    exact go_ret rfl dX11_period_32
  · refine go_iload_n 3 dX11_period_15 rfl rfl ?_
    refine go_callS_I (as := [vi x2]) gk_RX11_139 gmf_X11_isDay (by omega) rfl rfl (Nat.le_of_ble_eq_true rfl) dX11_period_16 (fun _ _ h => cX11_isDay_c (by omega) h) (fun r5 s6 _ => ?_)
    refine go_if_eq (tgt := 31) dX11_period_19 (by decide) (fun h7 => ?_) (fun h7 => ?_)
    · refine go_iconst (v := -1) dX11_period_31 (by decide) ?_
      exact go_ret rfl dX11_period_32
    · refine go_iload_n 4 dX11_period_22 rfl rfl ?_
      refine go_if_lt (tgt := 31) dX11_period_23 (by decide) (fun h8 => ?_) (fun h8 => ?_)
      · refine go_iconst (v := -1) dX11_period_31 (by decide) ?_
        exact go_ret rfl dX11_period_32
      · refine go_iload_n 4 dX11_period_26 rfl rfl ?_
        refine go_iconst (v := 2) dX11_period_27 (by decide) ?_
        refine go_icmp_le (tgt := 33) dX11_period_28 (by decide) (fun h9 => ?_) (fun h9 => ?_)
        · refine go_iconst (v := -1) dX11_period_31 (by decide) ?_
          exact go_ret rfl dX11_period_32
        · refine go_aload 0 dX11_period_33 rfl ?_
          refine go_getI gf_RX11_179 gcf_8 gft_8_1 dX11_period_35 (fun v10 => ?_)
          refine go_iload_n 3 dX11_period_38 rfl rfl ?_
          refine go_callS_I (as := [vi v10, vi x2]) gk_RX11_182 gmf_X0_periodOf (by omega) rfl rfl (Nat.le_of_ble_eq_true rfl) dX11_period_39 (fun _ _ h => cX0_periodOf_c (by omega) h) (fun r11 s12 _ => ?_)
          refine go_istore (L' := [(5, vi r11), (4, vr r2), (0, vr a0), (1, vi x1), (2, vi x2), (3, vi x3)]) dX11_period_42 (by decide) rfl ?_
          refine go_iload_n 5 dX11_period_44 rfl rfl ?_
          refine go_iconst (v := 2) dX11_period_45 (by decide) ?_
          refine go_icmp_ne (tgt := 65) dX11_period_46 (by decide) (fun h13 => ?_) (fun h13 => ?_)
          · refine go_aload 1 dX11_period_49 rfl ?_
            refine go_iload 0 dX11_period_51 rfl ?_
            refine go_callV_I (as := [vi r11]) gk_RX11_185 gmf_X8_goesBy (by decide) rfl (by omega) rfl rfl (Nat.le_of_ble_eq_true rfl) dX11_period_53 (fun _ _ h => cX8_goesBy_c (by omega) h) (fun r14 s15 _ => ?_)
            refine go_if_eq (tgt := 63) dX11_period_56 (by decide) (fun h16 => ?_) (fun h16 => ?_)
            · refine go_iconst (v := 0) dX11_period_63 (by decide) ?_
              exact go_ret rfl dX11_period_64
            · refine go_iconst (v := 1) dX11_period_59 (by decide) ?_
              refine go_goto (tgt := 64) dX11_period_60 (by decide) ?_
              exact go_ret rfl dX11_period_64
          · refine go_aload_n 2 dX11_period_65 rfl rfl ?_
            refine go_getR gf_RX11_26 gcf_11 gft_11_2 dX11_period_66 (fun v17 => ?_)
            refine go_aload 1 dX11_period_69 rfl ?_
            refine go_iload 0 dX11_period_71 rfl ?_
            refine go_callV_v (as := [vr r2, vi r11]) gk_RX11_188 gmf_X3_gather (by decide) rfl (by omega) rfl rfl (Nat.le_of_ble_eq_true rfl) dX11_period_73 (fun _ _ h => cX3_gather_c (by omega) h) (fun r18 s19 _ => ?_)
            refine go_iload_n 5 dX11_period_76 rfl rfl ?_
            refine go_iconst (v := 1) dX11_period_77 (by decide) ?_
            refine go_icmp_ne (tgt := 90) dX11_period_78 (by decide) (fun h20 => ?_) (fun h20 => ?_)
            · refine go_aload_n 2 dX11_period_81 rfl rfl ?_
              refine go_getR gf_RX11_26 gcf_11 gft_11_2 dX11_period_82 (fun v21 => ?_)
              refine go_aload 1 dX11_period_85 rfl ?_
              refine go_callV_v (as := [vr r2]) gk_RX11_192 gmf_X3_keepPlaces (by decide) rfl (by omega) rfl rfl (Nat.le_of_ble_eq_true rfl) dX11_period_87 (fun _ _ h => cX3_keepPlaces_c (by omega) h) (fun r22 s23 _ => ?_)
              refine go_aload_n 2 dX11_period_90 rfl rfl ?_
              refine go_getR gf_RX11_26 gcf_11 gft_11_2 dX11_period_91 (fun v24 => ?_)
              refine go_getI gf_RX11_196 gcf_3 gft_3_2 dX11_period_94 (fun v25 => ?_)
              exact go_ret rfl dX11_period_97
            · refine go_aload_n 2 dX11_period_90 rfl rfl ?_
              refine go_getR gf_RX11_26 gcf_11 gft_11_2 dX11_period_91 (fun v26 => ?_)
              refine go_getI gf_RX11_196 gcf_3 gft_3_2 dX11_period_94 (fun v27 => ?_)
              exact go_ret rfl dX11_period_97
set_option maxRecDepth 100000 in
set_option maxHeartbeats 4000000 in
theorem cX11_period_c {d : Nat} (hd : 4 ≤ d) {a0 : Nat} {x1 : Int32} {x2 : Int32} {x3 : Int32} {s0 : gH} {r : Int32} {s1 : gH} (h : fX11_period a0 x1 x2 x3 s0 = some (r, s1)) : gMt mX11_period d [vr a0, vi x1, vi x2, vi x3] s0 (some (vi r)) s1 :=
  gMt_of (rv := rvI) (by decide +kernel) (Nat.le_of_ble_eq_true rfl) ⟨_, rfl, rfl⟩ (fun _ => wX11_period hd) h
def gX12_period_L90  (a0 : Nat) (x1 : Int32) (x2 : Int32) (x3 : Int32) : Nat → Int32 → Int32 → gH → Option (Int32 × gH)
  | 0, _, _, _ => none
  | n + 1, x4, x5, s0 =>
    if x5 < 14610 then
      gb2 (gcv s0 a0 12 (fX12_periodOf a0 x1 x5 s0)) fun r32 s33 =>
      gb2 (gcv s33 a0 12 (fX12_periodOf a0 x1 x2 s33)) fun r34 s35 =>
      if r32 = r34 then
        gjn (fun (z38 : Int32) (z39 : Int32) (s40 : gH) =>
            gb2 (fX12_flag z38 s40) fun r41 s42 =>
            glet (z39 + r41) fun y43 =>
            gX12_period_L90 a0 x1 x2 x3 n y43 (x5 + 1) s42
        ) fun j37 =>
        if x3 = 0 then
          gb2 (gcv s35 a0 12 (fX12_isOfPeriod a0 x1 x5 s35)) fun r45 s46 =>
          j37 r45 x4 s46
        else
          (ggR s35 a0 12 32).bind fun v47 =>
          (gaI s35 v47 4 x5).bind fun v48 =>
          j37 v48 x4 s35
      else
        gX12_period_L90 a0 x1 x2 x3 n x4 (x5 + 1) s35
    else
      some (x4, s0)
set_option maxRecDepth 100000 in
set_option maxHeartbeats 4000000 in
theorem wX12_period_L90 {X : Nat × (Nat → Int32)} {d : Nat} (hd : 9 ≤ d)  (a0 : Nat) (x1 : Int32) (x2 : Int32) (x3 : Int32) : ∀ (n : Nat) (x4 : Int32) (x5 : Int32) (s0 : gH), gGo X rvI mX12_period d 90 [(0, vr a0), (1, vi x1), (2, vi x2), (3, vi x3), (4, vi x4), (5, vi x5)] [] s0 (gX12_period_L90 a0 x1 x2 x3 n x4 x5 s0) := by
  intro n
  induction n with
  | zero => intros; exact go_none
  | succ n ih =>
    intro x4 x5 s0
    show gGo _ _ _ _ _ _ _ _ (gX12_period_L90 a0 x1 x2 x3 (n + 1) x4 x5 s0)
    unfold gX12_period_L90
    refine go_iload 5 dX12_period_90 rfl ?_
    refine go_sipush (v := 14610) dX12_period_92 (by decide) ?_
    refine go_icmp_ge (tgt := 149) dX12_period_95 (by decide) (fun h31 => ?_) (fun h31 => ?_)
    · refine go_aload_n 0 dX12_period_98 rfl rfl ?_
      refine go_iload_n 1 dX12_period_99 rfl rfl ?_
      refine go_iload 5 dX12_period_100 rfl ?_
      refine go_callV_I (as := [vi x1, vi x5]) gk_RX12_364 gmf_X12_periodOf (by decide) rfl (by omega) rfl rfl (Nat.le_of_ble_eq_true rfl) dX12_period_102 (fun _ _ h => cX12_periodOf_c (by omega) h) (fun r32 s33 _ => ?_)
      refine go_aload_n 0 dX12_period_105 rfl rfl ?_
      refine go_iload_n 1 dX12_period_106 rfl rfl ?_
      refine go_iload_n 2 dX12_period_107 rfl rfl ?_
      refine go_callV_I (as := [vi x1, vi x2]) gk_RX12_364 gmf_X12_periodOf (by decide) rfl (by omega) rfl rfl (Nat.le_of_ble_eq_true rfl) dX12_period_108 (fun _ _ h => cX12_periodOf_c (by omega) h) (fun r34 s35 _ => ?_)
      refine go_icmp_ne (tgt := 143) dX12_period_111 (by decide) (fun h36 => ?_) (fun h36 => ?_)
      · refine go_iload 4 dX12_period_114 rfl ?_
        refine go_iload_n 3 dX12_period_116 rfl rfl ?_
        refine go_gjn (P := fun j37 => ∀ (z38 : Int32) (z39 : Int32) (s40 : gH), gGo X rvI mX12_period d 137 [(0, vr a0), (1, vi x1), (2, vi x2), (3, vi x3), (5, vi x5)] [vi z38, vi z39] s40 (j37 z38 z39 s40)) (fun z38 z39 s40 => ?_) (fun j37 hj37 => ?_)
        · refine go_callS_I (as := [vi z38]) gk_RX12_370 gmf_X12_flag (by omega) rfl rfl (Nat.le_of_ble_eq_true rfl) dX12_period_137 (fun _ _ h => cX12_flag_c (by omega) h) (fun r41 s42 _ => ?_)
          refine go_iadd dX12_period_140 ?_
          refine go_istore_l (L' := fun y43 => [(4, vi y43), (0, vr a0), (1, vi x1), (2, vi x2), (3, vi x3), (5, vi x5)]) dX12_period_141 (by decide) (fun _ => rfl) (fun y43 => ?_)
          refine go_iinc (v := 1) (L' := [(5, vi (x5 + 1)), (4, vi y43), (0, vr a0), (1, vi x1), (2, vi x2), (3, vi x3)]) 5 dX12_period_143 rfl (by decide) (by decide) rfl ?_
          refine go_goto (tgt := 90) dX12_period_146 (by decide) ?_
          exact go_sub [2, 3, 4, 5, 1, 0] (ih y43 (x5 + 1) s42) rfl
        · refine go_if_ne (tgt := 130) dX12_period_117 (by decide) (fun h44 => ?_) (fun h44 => ?_)
          · refine go_aload_n 0 dX12_period_120 rfl rfl ?_
            refine go_iload_n 1 dX12_period_121 rfl rfl ?_
            refine go_iload 5 dX12_period_122 rfl ?_
            refine go_callV_I (as := [vi x1, vi x5]) gk_RX12_367 gmf_X12_isOfPeriod (by decide) rfl (by omega) rfl rfl (Nat.le_of_ble_eq_true rfl) dX12_period_124 (fun _ _ h => cX12_isOfPeriod_c (by omega) h) (fun r45 s46 _ => ?_)
            refine go_goto (tgt := 137) dX12_period_127 (by decide) ?_
            exact go_sub [0, 1, 2, 3, 5] (hj37 r45 x4 s46) rfl
          · refine go_aload_n 0 dX12_period_130 rfl rfl ?_
            refine go_getR gf_RX12_65 gcf_12 gft_12_32 dX12_period_131 (fun v47 => ?_)
            refine go_iload 5 dX12_period_134 rfl ?_
            refine go_zaload dX12_period_136 (fun v48 _ => ?_)
            exact go_sub [0, 1, 2, 3, 5] (hj37 v48 x4 s35) rfl
      · refine go_iinc (v := 1) (L' := [(5, vi (x5 + 1)), (0, vr a0), (1, vi x1), (2, vi x2), (3, vi x3), (4, vi x4)]) 5 dX12_period_143 rfl (by decide) (by decide) rfl ?_
        refine go_goto (tgt := 90) dX12_period_146 (by decide) ?_
        exact go_sub [1, 2, 3, 4, 5, 0] (ih x4 (x5 + 1) s35) rfl
    · refine go_iload 4 dX12_period_149 rfl ?_
      exact go_ret rfl dX12_period_151
def fX12_period (a0 : Nat) (x1 : Int32) (x2 : Int32) (x3 : Int32) (s0 : gH) : Option (Int32 × gH) :=
  gb2 (gcv s0 a0 12 (fX12_isRule a0 x1 s0)) fun r1 s2 =>
  if r1 = 0 then
    some (-1, s2)
  else
    gb2 (fX12_isDay x2 s2) fun r4 s5 =>
    if r4 = 0 then
      some (-1, s5)
    else
      gb2 (fX12_isIn x3.toInt64 0 2 s5) fun r7 s8 =>
      if r7 = 0 then
        some (-1, s8)
      else
        if x3 = 2 then
          gb2 (gcv s8 a0 12 (fX12_periodOf a0 x1 x2 s8)) fun r11 s12 =>
          gb2 (gcv s12 a0 12 (fX12_fromOf a0 x1 s12)) fun r13 s14 =>
          gb2 (gcv s14 a0 12 (fX12_periodOf a0 x1 r13 s14)) fun r15 s16 =>
          gjn (fun (z18 : Int32) (s19 : gH) =>
              gb2 (fX12_flag z18 s19) fun r20 s21 =>
              some (r20, s21)
          ) fun j17 =>
          if r11 < r15 then
            j17 0 s16
          else
            (ggR s16 a0 12 29).bind fun v23 =>
            (gaI s16 v23 2 (2 * x1)).bind fun v24 =>
            gb2 (gcv s16 a0 12 (fX12_isGone a0 x1 x2 v24 s16)) fun r25 s26 =>
            if r25 = 0 then
              j17 0 s26
            else
              j17 1 s26
        else
          gb2 (gcv s8 a0 12 (fX12_laysBase a0 x1 s8)) fun r28 s29 =>
          gX12_period_L90
            a0 x1 x2 x3 20000 0 0 s29
set_option maxRecDepth 100000 in
set_option maxHeartbeats 4000000 in
theorem wX12_period {X : Nat × (Nat → Int32)} {d : Nat} (hd : 9 ≤ d) {a0 : Nat} {x1 : Int32} {x2 : Int32} {x3 : Int32} {s0 : gH} : gGo X rvI mX12_period d 0 [(0, vr a0), (1, vi x1), (2, vi x2), (3, vi x3)] [] s0 (fX12_period a0 x1 x2 x3 s0) := by
  unfold fX12_period
  refine go_aload_n 0 dX12_period_0 rfl rfl ?_
  refine go_iload_n 1 dX12_period_1 rfl rfl ?_
  refine go_callV_I (as := [vi x1]) gk_RX12_313 gmf_X12_isRule (by decide) rfl (by omega) rfl rfl (Nat.le_of_ble_eq_true rfl) dX12_period_2 (fun _ _ h => cX12_isRule_c (by omega) h) (fun r1 s2 _ => ?_)
  refine go_if_eq (tgt := 27) dX12_period_5 (by decide) (fun h3 => ?_) (fun h3 => ?_)
  · refine go_iconst (v := -1) dX12_period_27 (by decide) ?_
    exact go_ret rfl dX12_period_28
  · refine go_iload_n 2 dX12_period_8 rfl rfl ?_
    refine go_callS_I (as := [vi x2]) gk_RX12_387 gmf_X12_isDay (by omega) rfl rfl (Nat.le_of_ble_eq_true rfl) dX12_period_9 (fun _ _ h => cX12_isDay_c (by omega) h) (fun r4 s5 _ => ?_)
    refine go_if_eq (tgt := 27) dX12_period_12 (by decide) (fun h6 => ?_) (fun h6 => ?_)
    · refine go_iconst (v := -1) dX12_period_27 (by decide) ?_
      exact go_ret rfl dX12_period_28
    · refine go_iload_n 3 dX12_period_15 rfl rfl ?_
      refine go_i2l dX12_period_16 ?_
      refine go_lconst (v := 0) dX12_period_17 (by decide) ?_
      refine go_ldc2 gcl_RX12_451 dX12_period_18 ?_
      refine go_callS_I (as := [vl x3.toInt64, vl 0, vl 2]) gk_RX12_110 gmf_X12_isIn (by omega) rfl rfl (Nat.le_of_ble_eq_true rfl) dX12_period_21 (fun _ _ h => cX12_isIn_c (by omega) h) (fun r7 s8 _ => ?_)
      refine go_if_ne (tgt := 29) dX12_period_24 (by decide) (fun h9 => ?_) (fun h9 => ?_)
      · refine go_iconst (v := -1) dX12_period_27 (by decide) ?_
        exact go_ret rfl dX12_period_28
      · refine go_iload_n 3 dX12_period_29 rfl rfl ?_
        refine go_iconst (v := 2) dX12_period_30 (by decide) ?_
        refine go_icmp_ne (tgt := 79) dX12_period_31 (by decide) (fun h10 => ?_) (fun h10 => ?_)
        · refine go_aload_n 0 dX12_period_34 rfl rfl ?_
          refine go_iload_n 1 dX12_period_35 rfl rfl ?_
          refine go_iload_n 2 dX12_period_36 rfl rfl ?_
          refine go_callV_I (as := [vi x1, vi x2]) gk_RX12_364 gmf_X12_periodOf (by decide) rfl (by omega) rfl rfl (Nat.le_of_ble_eq_true rfl) dX12_period_37 (fun _ _ h => cX12_periodOf_c (by omega) h) (fun r11 s12 _ => ?_)
          refine go_aload_n 0 dX12_period_40 rfl rfl ?_
          refine go_iload_n 1 dX12_period_41 rfl rfl ?_
          refine go_aload_n 0 dX12_period_42 rfl rfl ?_
          refine go_iload_n 1 dX12_period_43 rfl rfl ?_
          refine go_callV_I (as := [vi x1]) gk_RX12_333 gmf_X12_fromOf (by decide) rfl (by omega) rfl rfl (Nat.le_of_ble_eq_true rfl) dX12_period_44 (fun _ _ h => cX12_fromOf_c (by omega) h) (fun r13 s14 _ => ?_)
          refine go_callV_I (as := [vi x1, vi r13]) gk_RX12_364 gmf_X12_periodOf (by decide) rfl (by omega) rfl rfl (Nat.le_of_ble_eq_true rfl) dX12_period_47 (fun _ _ h => cX12_periodOf_c (by omega) h) (fun r15 s16 _ => ?_)
          refine go_gjn (P := fun j17 => ∀ (z18 : Int32) (s19 : gH), gGo X rvI mX12_period d 75 [] [vi z18] s19 (j17 z18 s19)) (fun z18 s19 => ?_) (fun j17 hj17 => ?_)
          · refine go_callS_I (as := [vi z18]) gk_RX12_370 gmf_X12_flag (by omega) rfl rfl (Nat.le_of_ble_eq_true rfl) dX12_period_75 (fun _ _ h => cX12_flag_c (by omega) h) (fun r20 s21 _ => ?_)
            exact go_ret rfl dX12_period_78
          · refine go_icmp_lt (tgt := 74) dX12_period_50 (by decide) (fun h22 => ?_) (fun h22 => ?_)
            · refine go_iconst (v := 0) dX12_period_74 (by decide) ?_
              exact go_sub [] (hj17 0 s16) rfl
            · refine go_aload_n 0 dX12_period_53 rfl rfl ?_
              refine go_iload_n 1 dX12_period_54 rfl rfl ?_
              refine go_iload_n 2 dX12_period_55 rfl rfl ?_
              refine go_aload_n 0 dX12_period_56 rfl rfl ?_
              refine go_getR gf_RX12_54 gcf_12 gft_12_29 dX12_period_57 (fun v23 => ?_)
              refine go_iconst (v := 2) dX12_period_60 (by decide) ?_
              refine go_iload_n 1 dX12_period_61 rfl rfl ?_
              refine go_imul dX12_period_62 ?_
              refine go_iaload dX12_period_63 (fun v24 _ => ?_)
              refine go_callV_I (as := [vi x1, vi x2, vi v24]) gk_RX12_381 gmf_X12_isGone (by decide) rfl (by omega) rfl rfl (Nat.le_of_ble_eq_true rfl) dX12_period_64 (fun _ _ h => cX12_isGone_c (by omega) h) (fun r25 s26 _ => ?_)
              refine go_if_eq (tgt := 74) dX12_period_67 (by decide) (fun h27 => ?_) (fun h27 => ?_)
              · refine go_iconst (v := 0) dX12_period_74 (by decide) ?_
                exact go_sub [] (hj17 0 s26) rfl
              · refine go_iconst (v := 1) dX12_period_70 (by decide) ?_
                refine go_goto (tgt := 75) dX12_period_71 (by decide) ?_
                exact go_sub [] (hj17 1 s26) rfl
        · refine go_aload_n 0 dX12_period_79 rfl rfl ?_
          refine go_iload_n 1 dX12_period_80 rfl rfl ?_
          refine go_callV_v (as := [vi x1]) gk_RX12_412 gmf_X12_laysBase (by decide) rfl (by omega) rfl rfl (Nat.le_of_ble_eq_true rfl) dX12_period_81 (fun _ _ h => cX12_laysBase_c (by omega) h) (fun r28 s29 _ => ?_)
          refine go_iconst (v := 0) dX12_period_84 (by decide) ?_
          refine go_istore (L' := [(4, vi 0), (0, vr a0), (1, vi x1), (2, vi x2), (3, vi x3)]) dX12_period_85 (by decide) rfl ?_
          refine go_iconst (v := 0) dX12_period_87 (by decide) ?_
          refine go_istore (L' := [(5, vi 0), (4, vi 0), (0, vr a0), (1, vi x1), (2, vi x2), (3, vi x3)]) dX12_period_88 (by decide) rfl ?_
          refine go_sub [2, 3, 4, 5, 1, 0] (wX12_period_L90 hd a0 x1 x2 x3 20000 0 0 s29) rfl
set_option maxRecDepth 100000 in
set_option maxHeartbeats 4000000 in
theorem cX12_period_c {d : Nat} (hd : 9 ≤ d) {a0 : Nat} {x1 : Int32} {x2 : Int32} {x3 : Int32} {s0 : gH} {r : Int32} {s1 : gH} (h : fX12_period a0 x1 x2 x3 s0 = some (r, s1)) : gMt mX12_period d [vr a0, vi x1, vi x2, vi x3] s0 (some (vi r)) s1 :=
  gMt_of (rv := rvI) (by decide +kernel) (Nat.le_of_ble_eq_true rfl) ⟨_, rfl, rfl⟩ (fun _ => wX12_period hd) h
def gX11_sum_L27  (a2 : Nat) : Nat → Int64 → Int32 → Int32 → gH → Option (Int32 × gH)
  | 0, _, _, _, _ => none
  | n + 1, x3, x5, x6, s0 =>
    if 14610 < x6 then
      some (x3.toInt32, s0)
    else
      if x5 = -1 then
        some (x3.toInt32, s0)
      else
        glet (gLrem (x3 + (x6.toInt64 * x5.toInt64)) 1000003) fun y10 =>
        gb2 (gcv s0 a2 2 (fX2_firstFrom a2 (x5 + 1) s0)) fun r11 s12 =>
        gX11_sum_L27 a2 n y10 r11 (x6 + 1) s12
set_option maxRecDepth 100000 in
set_option maxHeartbeats 4000000 in
theorem wX11_sum_L27 {X : Nat × (Nat → Int32)} {d : Nat} (hd : 6 ≤ d)  (a2 : Nat) : ∀ (n : Nat) (x3 : Int64) (x5 : Int32) (x6 : Int32) (s0 : gH), gGo X rvI mX11_sum d 27 [(2, vr a2), (3, vl x3), (5, vi x5), (6, vi x6)] [] s0 (gX11_sum_L27 a2 n x3 x5 x6 s0) := by
  intro n
  induction n with
  | zero => intros; exact go_none
  | succ n ih =>
    intro x3 x5 x6 s0
    show gGo _ _ _ _ _ _ _ _ (gX11_sum_L27 a2 (n + 1) x3 x5 x6 s0)
    unfold gX11_sum_L27
    refine go_iload 3 dX11_sum_27 rfl ?_
    refine go_sipush (v := 14610) dX11_sum_29 (by decide) ?_
    refine go_icmp_gt (tgt := 71) dX11_sum_32 (by decide) (fun h8 => ?_) (fun h8 => ?_)
    · refine go_lload_n 1 dX11_sum_71 rfl rfl ?_
      refine go_l2i dX11_sum_72 ?_
      exact go_ret rfl dX11_sum_73
    · refine go_iload 2 dX11_sum_35 rfl ?_
      refine go_iconst (v := -1) dX11_sum_37 (by decide) ?_
      refine go_icmp_eq (tgt := 71) dX11_sum_38 (by decide) (fun h9 => ?_) (fun h9 => ?_)
      · refine go_lload_n 1 dX11_sum_71 rfl rfl ?_
        refine go_l2i dX11_sum_72 ?_
        exact go_ret rfl dX11_sum_73
      · refine go_lload_n 1 dX11_sum_41 rfl rfl ?_
        refine go_iload 3 dX11_sum_42 rfl ?_
        refine go_i2l dX11_sum_44 ?_
        refine go_iload 2 dX11_sum_45 rfl ?_
        refine go_i2l dX11_sum_47 ?_
        refine go_lmul dX11_sum_48 ?_
        refine go_ladd dX11_sum_49 ?_
        refine go_ldc2 gcl_RX11_197 dX11_sum_50 ?_
        refine go_lremc dX11_sum_53 (by decide) ?_
        refine go_lstore_n_l (L' := fun y10 => [(3, vl y10), (2, vr a2), (5, vi x5), (6, vi x6)]) dX11_sum_54 rfl (by decide) (fun _ => rfl) (fun y10 => ?_)
        refine go_aload_n 1 dX11_sum_55 rfl rfl ?_
        refine go_iload 2 dX11_sum_56 rfl ?_
        refine go_iconst (v := 1) dX11_sum_58 (by decide) ?_
        refine go_iadd dX11_sum_59 ?_
        refine go_callV_I (as := [vi (x5 + 1)]) gk_RX11_154 gmf_X2_firstFrom (by decide) rfl (by omega) rfl rfl (Nat.le_of_ble_eq_true rfl) dX11_sum_60 (fun _ _ h => cX2_firstFrom_c (by omega) h) (fun r11 s12 _ => ?_)
        refine go_istore (L' := [(5, vi r11), (3, vl y10), (2, vr a2), (6, vi x6)]) dX11_sum_63 (by decide) rfl ?_
        refine go_iinc (v := 1) (L' := [(6, vi (x6 + 1)), (5, vi r11), (3, vl y10), (2, vr a2)]) 3 dX11_sum_65 rfl (by decide) (by decide) rfl ?_
        refine go_goto (tgt := 27) dX11_sum_68 (by decide) ?_
        exact go_sub [3, 2, 1, 0] (ih y10 r11 (x6 + 1) s12) rfl
def fX11_sum (a0 : Nat) (x1 : Int32) (s0 : gH) : Option (Int32 × gH) :=
  (ggR s0 a0 11 3).bind fun v1 =>
  gb2 (gcv s0 v1 5 (fX5_daysOf v1 x1 s0)) fun r2 s3 =>
  if r2 = 0 then
    some (-1, s3)
  else
    gb2 (gcv s3 r2 2 (fX2_firstFrom r2 0 s3)) fun r5 s6 =>
    gX11_sum_L27
      r2 20000 0 r5 1 s6
set_option maxRecDepth 100000 in
set_option maxHeartbeats 4000000 in
theorem wX11_sum {X : Nat × (Nat → Int32)} {d : Nat} (hd : 6 ≤ d) {a0 : Nat} {x1 : Int32} {s0 : gH} : gGo X rvI mX11_sum d 0 [(0, vr a0), (1, vi x1)] [] s0 (fX11_sum a0 x1 s0) := by
  unfold fX11_sum
  refine go_aload_n 0 dX11_sum_0 rfl rfl ?_
  refine go_getR gf_RX11_35 gcf_11 gft_11_3 dX11_sum_1 (fun v1 => ?_)
  refine go_iload_n 1 dX11_sum_4 rfl rfl ?_
  refine go_callV_R (as := [vi x1]) gk_RX11_145 gmf_X5_daysOf (by decide) rfl (by omega) rfl rfl (Nat.le_of_ble_eq_true rfl) dX11_sum_5 (fun _ _ h => cX5_daysOf_c (by omega) h) (fun r2 s3 _ => ?_)
  refine go_astore_n (L' := [(2, vr r2), (0, vr a0), (1, vi x1)]) dX11_sum_8 rfl (by decide) rfl ?_
  refine go_aload_n 0 dX11_sum_9 rfl rfl ?_
  refine go_ifnonnull (tgt := 15) dX11_sum_10 (by decide) (fun h4 => ?_) (fun h4 => ?_)
  · refine go_iconst (v := -1) dX11_sum_13 (by decide) ?_
    exact go_ret rfl dX11_sum_14
  · refine go_lconst (v := 0) dX11_sum_15 (by decide) ?_
    refine go_lstore_n (L' := [(3, vl 0), (2, vr r2), (0, vr a0), (1, vi x1)]) dX11_sum_16 rfl (by decide) rfl ?_
    refine go_aload_n 1 dX11_sum_17 rfl rfl ?_
    refine go_iconst (v := 0) dX11_sum_18 (by decide) ?_
    refine go_callV_I (as := [vi 0]) gk_RX11_154 gmf_X2_firstFrom (by decide) rfl (by omega) rfl rfl (Nat.le_of_ble_eq_true rfl) dX11_sum_19 (fun _ _ h => cX2_firstFrom_c (by omega) h) (fun r5 s6 _ => ?_)
    refine go_istore (L' := [(5, vi r5), (3, vl 0), (2, vr r2), (0, vr a0), (1, vi x1)]) dX11_sum_22 (by decide) rfl ?_
    refine go_iconst (v := 1) dX11_sum_24 (by decide) ?_
    refine go_istore (L' := [(6, vi 1), (5, vi r5), (3, vl 0), (2, vr r2), (0, vr a0), (1, vi x1)]) dX11_sum_25 (by decide) rfl ?_
    refine go_sub [3, 2, 1, 0] (wX11_sum_L27 hd r2 20000 0 r5 1 s6) rfl
set_option maxRecDepth 100000 in
set_option maxHeartbeats 4000000 in
theorem cX11_sum_c {d : Nat} (hd : 6 ≤ d) {a0 : Nat} {x1 : Int32} {s0 : gH} {r : Int32} {s1 : gH} (h : fX11_sum a0 x1 s0 = some (r, s1)) : gMt mX11_sum d [vr a0, vi x1] s0 (some (vi r)) s1 :=
  gMt_of (rv := rvI) (by decide +kernel) (Nat.le_of_ble_eq_true rfl) ⟨_, rfl, rfl⟩ (fun _ => wX11_sum hd) h
def gX12_sum_L18  (a0 : Nat) (x1 : Int32) : Nat → Int64 → Int32 → Int32 → gH → Option (Int32 × gH)
  | 0, _, _, _, _ => none
  | n + 1, x2, x4, x5, s0 =>
    if x5 < 14610 then
      gb2 (gcv s0 a0 12 (fX12_isOn a0 x1 x5 s0)) fun r6 s7 =>
      if r6 = 0 then
        gX12_sum_L18 a0 x1 n x2 x4 (x5 + 1) s7
      else
        glet (gLrem (x2 + (((x4 + 1).toInt64) * x5.toInt64)) 1000003) fun y9 =>
        gX12_sum_L18 a0 x1 n y9 (x4 + 1) (x5 + 1) s7
    else
      some (x2.toInt32, s0)
set_option maxRecDepth 100000 in
set_option maxHeartbeats 4000000 in
theorem wX12_sum_L18 {X : Nat × (Nat → Int32)} {d : Nat} (hd : 12 ≤ d)  (a0 : Nat) (x1 : Int32) : ∀ (n : Nat) (x2 : Int64) (x4 : Int32) (x5 : Int32) (s0 : gH), gGo X rvI mX12_sum d 18 [(0, vr a0), (1, vi x1), (2, vl x2), (4, vi x4), (5, vi x5)] [] s0 (gX12_sum_L18 a0 x1 n x2 x4 x5 s0) := by
  intro n
  induction n with
  | zero => intros; exact go_none
  | succ n ih =>
    intro x2 x4 x5 s0
    show gGo _ _ _ _ _ _ _ _ (gX12_sum_L18 a0 x1 (n + 1) x2 x4 x5 s0)
    unfold gX12_sum_L18
    refine go_iload 4 dX12_sum_18 rfl ?_
    refine go_sipush (v := 14610) dX12_sum_20 (by decide) ?_
    refine go_icmp_ge (tgt := 59) dX12_sum_23 (by decide) (fun h5 => ?_) (fun h5 => ?_)
    · refine go_aload_n 0 dX12_sum_26 rfl rfl ?_
      refine go_iload_n 1 dX12_sum_27 rfl rfl ?_
      refine go_iload 4 dX12_sum_28 rfl ?_
      refine go_callV_I (as := [vi x1, vi x5]) gk_RX12_437 gmf_X12_isOn (by decide) rfl (by omega) rfl rfl (Nat.le_of_ble_eq_true rfl) dX12_sum_30 (fun _ _ h => cX12_isOn_c (by omega) h) (fun r6 s7 _ => ?_)
      refine go_if_eq (tgt := 53) dX12_sum_33 (by decide) (fun h8 => ?_) (fun h8 => ?_)
      · refine go_iinc (v := 1) (L' := [(5, vi (x5 + 1)), (0, vr a0), (1, vi x1), (2, vl x2), (4, vi x4)]) 4 dX12_sum_53 rfl (by decide) (by decide) rfl ?_
        refine go_goto (tgt := 18) dX12_sum_56 (by decide) ?_
        exact go_sub [1, 2, 3, 4, 0] (ih x2 x4 (x5 + 1) s7) rfl
      · refine go_iinc (v := 1) (L' := [(4, vi (x4 + 1)), (0, vr a0), (1, vi x1), (2, vl x2), (5, vi x5)]) 3 dX12_sum_36 rfl (by decide) (by decide) rfl ?_
        refine go_lload_n 3 dX12_sum_39 rfl rfl ?_
        refine go_iload 0 dX12_sum_40 rfl ?_
        refine go_i2l dX12_sum_42 ?_
        refine go_iload 4 dX12_sum_43 rfl ?_
        refine go_i2l dX12_sum_45 ?_
        refine go_lmul dX12_sum_46 ?_
        refine go_ladd dX12_sum_47 ?_
        refine go_ldc2 gcl_RX12_453 dX12_sum_48 ?_
        refine go_lremc dX12_sum_51 (by decide) ?_
        refine go_lstore_n_l (L' := fun y9 => [(2, vl y9), (4, vi (x4 + 1)), (0, vr a0), (1, vi x1), (5, vi x5)]) dX12_sum_52 rfl (by decide) (fun _ => rfl) (fun y9 => ?_)
        refine go_iinc (v := 1) (L' := [(5, vi (x5 + 1)), (2, vl y9), (4, vi (x4 + 1)), (0, vr a0), (1, vi x1)]) 4 dX12_sum_53 rfl (by decide) (by decide) rfl ?_
        refine go_goto (tgt := 18) dX12_sum_56 (by decide) ?_
        exact go_sub [3, 4, 1, 2, 0] (ih y9 (x4 + 1) (x5 + 1) s7) rfl
    · refine go_lload_n 2 dX12_sum_59 rfl rfl ?_
      refine go_l2i dX12_sum_60 ?_
      exact go_ret rfl dX12_sum_61
def fX12_sum (a0 : Nat) (x1 : Int32) (s0 : gH) : Option (Int32 × gH) :=
  gb2 (gcv s0 a0 12 (fX12_isAsked a0 x1 s0)) fun r1 s2 =>
  if r1 = 0 then
    some (-1, s2)
  else
    gX12_sum_L18
      a0 x1 20000 0 0 0 s2
set_option maxRecDepth 100000 in
set_option maxHeartbeats 4000000 in
theorem wX12_sum {X : Nat × (Nat → Int32)} {d : Nat} (hd : 12 ≤ d) {a0 : Nat} {x1 : Int32} {s0 : gH} : gGo X rvI mX12_sum d 0 [(0, vr a0), (1, vi x1)] [] s0 (fX12_sum a0 x1 s0) := by
  unfold fX12_sum
  refine go_aload_n 0 dX12_sum_0 rfl rfl ?_
  refine go_iload_n 1 dX12_sum_1 rfl rfl ?_
  refine go_callV_I (as := [vi x1]) gk_RX12_434 gmf_X12_isAsked (by decide) rfl (by omega) rfl rfl (Nat.le_of_ble_eq_true rfl) dX12_sum_2 (fun _ _ h => cX12_isAsked_c (by omega) h) (fun r1 s2 _ => ?_)
  refine go_if_ne (tgt := 10) dX12_sum_5 (by decide) (fun h3 => ?_) (fun h3 => ?_)
  · refine go_iconst (v := -1) dX12_sum_8 (by decide) ?_
    exact go_ret rfl dX12_sum_9
  · refine go_lconst (v := 0) dX12_sum_10 (by decide) ?_
    refine go_lstore_n (L' := [(2, vl 0), (0, vr a0), (1, vi x1)]) dX12_sum_11 rfl (by decide) rfl ?_
    refine go_iconst (v := 0) dX12_sum_12 (by decide) ?_
    refine go_istore (L' := [(4, vi 0), (2, vl 0), (0, vr a0), (1, vi x1)]) dX12_sum_13 (by decide) rfl ?_
    refine go_iconst (v := 0) dX12_sum_15 (by decide) ?_
    refine go_istore (L' := [(5, vi 0), (4, vi 0), (2, vl 0), (0, vr a0), (1, vi x1)]) dX12_sum_16 (by decide) rfl ?_
    refine go_sub [3, 4, 2, 1, 0] (wX12_sum_L18 hd a0 x1 20000 0 0 0 s2) rfl
set_option maxRecDepth 100000 in
set_option maxHeartbeats 4000000 in
theorem cX12_sum_c {d : Nat} (hd : 12 ≤ d) {a0 : Nat} {x1 : Int32} {s0 : gH} {r : Int32} {s1 : gH} (h : fX12_sum a0 x1 s0 = some (r, s1)) : gMt mX12_sum d [vr a0, vi x1] s0 (some (vi r)) s1 :=
  gMt_of (rv := rvI) (by decide +kernel) (Nat.le_of_ble_eq_true rfl) ⟨_, rfl, rfl⟩ (fun _ => wX12_sum hd) h
def fX10_byteAt (a0 : Nat) (x1 : Int32) (s0 : gH) : Option (Int32 × gH) :=
  if x1 < 0 then
    some (0, s0)
  else
    (ggI s0 a0 10 1).bind fun v2 =>
    if x1 < v2 then
      (ggR s0 a0 10 0).bind fun v4 =>
      (glen s0 v4).bind fun v5 =>
      if x1 < v5 then
        (ggR s0 a0 10 0).bind fun v7 =>
        (gaI s0 v7 0 x1).bind fun v8 =>
        some (v8 &&& 255, s0)
      else
        some (0, s0)
    else
      some (0, s0)
set_option maxRecDepth 100000 in
set_option maxHeartbeats 4000000 in
theorem wX10_byteAt {X : Nat × (Nat → Int32)} {d : Nat} (hd : 0 ≤ d) {a0 : Nat} {x1 : Int32} {s0 : gH} : gGo X rvI mX10_byteAt d 0 [(0, vr a0), (1, vi x1)] [] s0 (fX10_byteAt a0 x1 s0) := by
  unfold fX10_byteAt
  refine go_iload_n 1 dX10_byteAt_0 rfl rfl ?_
  refine go_if_lt (tgt := 21) dX10_byteAt_1 (by decide) (fun h1 => ?_) (fun h1 => ?_)
  · refine go_iconst (v := 0) dX10_byteAt_21 (by decide) ?_
    refine go_goto (tgt := 35) dX10_byteAt_22 (by decide) ?_
    exact go_ret rfl dX10_byteAt_35
  · refine go_iload_n 1 dX10_byteAt_4 rfl rfl ?_
    refine go_aload_n 0 dX10_byteAt_5 rfl rfl ?_
    refine go_getI gf_RX10_15 gcf_10 gft_10_1 dX10_byteAt_6 (fun v2 => ?_)
    refine go_icmp_ge (tgt := 21) dX10_byteAt_9 (by decide) (fun h3 => ?_) (fun h3 => ?_)
    · refine go_iload_n 1 dX10_byteAt_12 rfl rfl ?_
      refine go_aload_n 0 dX10_byteAt_13 rfl rfl ?_
      refine go_getR gf_RX10_9 gcf_10 gft_10_0 dX10_byteAt_14 (fun v4 => ?_)
      refine go_alen dX10_byteAt_17 (fun v5 _ => ?_)
      refine go_icmp_lt (tgt := 25) dX10_byteAt_18 (by decide) (fun h6 => ?_) (fun h6 => ?_)
      · refine go_aload_n 0 dX10_byteAt_25 rfl rfl ?_
        refine go_getR gf_RX10_9 gcf_10 gft_10_0 dX10_byteAt_26 (fun v7 => ?_)
        refine go_iload_n 1 dX10_byteAt_29 rfl rfl ?_
        refine go_baload dX10_byteAt_30 (fun v8 _ => ?_)
        refine go_sipush (v := 255) dX10_byteAt_31 (by decide) ?_
        refine go_iand dX10_byteAt_34 ?_
        exact go_ret rfl dX10_byteAt_35
      · refine go_iconst (v := 0) dX10_byteAt_21 (by decide) ?_
        refine go_goto (tgt := 35) dX10_byteAt_22 (by decide) ?_
        exact go_ret rfl dX10_byteAt_35
    · refine go_iconst (v := 0) dX10_byteAt_21 (by decide) ?_
      refine go_goto (tgt := 35) dX10_byteAt_22 (by decide) ?_
      exact go_ret rfl dX10_byteAt_35
set_option maxRecDepth 100000 in
set_option maxHeartbeats 4000000 in
theorem cX10_byteAt_c {d : Nat} (hd : 0 ≤ d) {a0 : Nat} {x1 : Int32} {s0 : gH} {r : Int32} {s1 : gH} (h : fX10_byteAt a0 x1 s0 = some (r, s1)) : gMt mX10_byteAt d [vr a0, vi x1] s0 (some (vi r)) s1 :=
  gMt_of (rv := rvI) (by decide +kernel) (Nat.le_of_ble_eq_true rfl) ⟨_, rfl, rfl⟩ (fun _ => wX10_byteAt hd) h
def fX9_dayAt (a0 : Nat) (x1 : Int32) (s0 : gH) : Option (Int32 × gH) :=
  gb2 (gcv s0 a0 10 (fX10_byteAt a0 x1 s0)) fun r1 s2 =>
  gb2 (gcv s2 a0 10 (fX10_byteAt a0 (x1 + 1) s2)) fun r3 s4 =>
  some ((r1 * 256) + r3, s4)
set_option maxRecDepth 100000 in
set_option maxHeartbeats 4000000 in
theorem wX9_dayAt {X : Nat × (Nat → Int32)} {d : Nat} (hd : 1 ≤ d) {a0 : Nat} {x1 : Int32} {s0 : gH} : gGo X rvI mX9_dayAt d 0 [(0, vr a0), (1, vi x1)] [] s0 (fX9_dayAt a0 x1 s0) := by
  unfold fX9_dayAt
  refine go_aload_n 0 dX9_dayAt_0 rfl rfl ?_
  refine go_iload_n 1 dX9_dayAt_1 rfl rfl ?_
  refine go_callV_I (as := [vi x1]) gk_RX9_56 gmf_X10_byteAt (by decide) rfl (by omega) rfl rfl (Nat.le_of_ble_eq_true rfl) dX9_dayAt_2 (fun _ _ h => cX10_byteAt_c (by omega) h) (fun r1 s2 _ => ?_)
  refine go_sipush (v := 256) dX9_dayAt_5 (by decide) ?_
  refine go_imul dX9_dayAt_8 ?_
  refine go_aload_n 0 dX9_dayAt_9 rfl rfl ?_
  refine go_iload_n 1 dX9_dayAt_10 rfl rfl ?_
  refine go_iconst (v := 1) dX9_dayAt_11 (by decide) ?_
  refine go_iadd dX9_dayAt_12 ?_
  refine go_callV_I (as := [vi (x1 + 1)]) gk_RX9_56 gmf_X10_byteAt (by decide) rfl (by omega) rfl rfl (Nat.le_of_ble_eq_true rfl) dX9_dayAt_13 (fun _ _ h => cX10_byteAt_c (by omega) h) (fun r3 s4 _ => ?_)
  refine go_iadd dX9_dayAt_16 ?_
  exact go_ret rfl dX9_dayAt_17
set_option maxRecDepth 100000 in
set_option maxHeartbeats 4000000 in
theorem cX9_dayAt_c {d : Nat} (hd : 1 ≤ d) {a0 : Nat} {x1 : Int32} {s0 : gH} {r : Int32} {s1 : gH} (h : fX9_dayAt a0 x1 s0 = some (r, s1)) : gMt mX9_dayAt d [vr a0, vi x1] s0 (some (vi r)) s1 :=
  gMt_of (rv := rvI) (by decide +kernel) (Nat.le_of_ble_eq_true rfl) ⟨_, rfl, rfl⟩ (fun _ => wX9_dayAt hd) h
def gX9_isTold_L30  (a0 : Nat) : Nat → Int32 → gH → Option (Int32 × gH)
  | 0, _, _ => none
  | n + 1, x1, s0 =>
    (ggI s0 a0 10 1).bind fun v8 =>
    if x1 < v8 then
      gb2 (fX9_dayAt a0 x1 s0) fun r10 s11 =>
      gb2 (fX11_isDay r10 s11) fun r12 s13 =>
      if r12 = 0 then
        some (0, s13)
      else
        gb2 (gcv s13 a0 10 (fX10_byteAt a0 (x1 + 2) s13)) fun r15 s16 =>
        if 1 < r15 then
          some (0, s16)
        else
          gX9_isTold_L30 a0 n (x1 + 3) s16
    else
      some (1, s0)
set_option maxRecDepth 100000 in
set_option maxHeartbeats 4000000 in
theorem wX9_isTold_L30 {X : Nat × (Nat → Int32)} {d : Nat} (hd : 2 ≤ d)  (a0 : Nat) : ∀ (n : Nat) (x1 : Int32) (s0 : gH), gGo X rvI mX9_isTold d 30 [(0, vr a0), (1, vi x1)] [] s0 (gX9_isTold_L30 a0 n x1 s0) := by
  intro n
  induction n with
  | zero => intros; exact go_none
  | succ n ih =>
    intro x1 s0
    show gGo _ _ _ _ _ _ _ _ (gX9_isTold_L30 a0 (n + 1) x1 s0)
    unfold gX9_isTold_L30
    refine go_iload_n 1 dX9_isTold_30 rfl rfl ?_
    refine go_aload_n 0 dX9_isTold_31 rfl rfl ?_
    refine go_getI gf_RX9_42 gcf_10 gft_10_1 dX9_isTold_32 (fun v8 => ?_)
    refine go_icmp_ge (tgt := 68) dX9_isTold_35 (by decide) (fun h9 => ?_) (fun h9 => ?_)
    · refine go_aload_n 0 dX9_isTold_38 rfl rfl ?_
      refine go_iload_n 1 dX9_isTold_39 rfl rfl ?_
      refine go_callS_I (as := [vr a0, vi x1]) gk_RX9_48 gmf_X9_dayAt (by omega) rfl rfl (Nat.le_of_ble_eq_true rfl) dX9_isTold_40 (fun _ _ h => cX9_dayAt_c (by omega) h) (fun r10 s11 _ => ?_)
      refine go_callSN_I (as := [vi r10]) (List.mem_of_getElem? (i := 9) rfl) gst_X11_isDay gmf_X11_isDay (by omega) rfl rfl (Nat.le_of_ble_eq_true rfl) dX9_isTold_43 (fun _ _ h => cX11_isDay_c (by omega) h) (fun r12 s13 _ => ?_)
      refine go_if_eq (tgt := 60) dX9_isTold_46 (by decide) (fun h14 => ?_) (fun h14 => ?_)
      · refine go_iconst (v := 0) dX9_isTold_60 (by decide) ?_
        exact go_ret rfl dX9_isTold_61
      · refine go_aload_n 0 dX9_isTold_49 rfl rfl ?_
        refine go_iload_n 1 dX9_isTold_50 rfl rfl ?_
        refine go_iconst (v := 2) dX9_isTold_51 (by decide) ?_
        refine go_iadd dX9_isTold_52 ?_
        refine go_callV_I (as := [vi (x1 + 2)]) gk_RX9_56 gmf_X10_byteAt (by decide) rfl (by omega) rfl rfl (Nat.le_of_ble_eq_true rfl) dX9_isTold_53 (fun _ _ h => cX10_byteAt_c (by omega) h) (fun r15 s16 _ => ?_)
        refine go_iconst (v := 1) dX9_isTold_56 (by decide) ?_
        refine go_icmp_le (tgt := 62) dX9_isTold_57 (by decide) (fun h17 => ?_) (fun h17 => ?_)
        · refine go_iconst (v := 0) dX9_isTold_60 (by decide) ?_
          exact go_ret rfl dX9_isTold_61
        · refine go_iinc (v := 3) (L' := [(1, vi (x1 + 3)), (0, vr a0)]) 1 dX9_isTold_62 rfl (by decide) (by decide) rfl ?_
          refine go_goto (tgt := 30) dX9_isTold_65 (by decide) ?_
          exact go_sub [1, 0] (ih (x1 + 3) s16) rfl
    · refine go_iconst (v := 1) dX9_isTold_68 (by decide) ?_
      exact go_ret rfl dX9_isTold_69
def gX9_isTold (a0 : Nat) (s0 : gH) : Option (Int32 × gH) :=
  (ggI s0 a0 10 1).bind fun v1 =>
  if v1 < 3 then
    some (0, s0)
  else
    (ggI s0 a0 10 1).bind fun v3 =>
    if 36 < v3 then
      some (0, s0)
    else
      (ggI s0 a0 10 1).bind fun v5 =>
      if gIrem v5 3 = 0 then
        gX9_isTold_L30
          a0 20000 0 s0
      else
        some (0, s0)
def fX9_isTold (a0 : Nat) (s0 : gH) : Option (Int32 × gH) := gzr (gX9_isTold a0 s0)
set_option maxRecDepth 100000 in
set_option maxHeartbeats 4000000 in
theorem wX9_isTold {X : Nat × (Nat → Int32)} {d : Nat} (hd : 2 ≤ d) {a0 : Nat} {s0 : gH} : gGo X rvI mX9_isTold d 0 [(0, vr a0)] [] s0 (gX9_isTold a0 s0) := by
  unfold gX9_isTold
  refine go_aload_n 0 dX9_isTold_0 rfl rfl ?_
  refine go_getI gf_RX9_42 gcf_10 gft_10_1 dX9_isTold_1 (fun v1 => ?_)
  refine go_iconst (v := 3) dX9_isTold_4 (by decide) ?_
  refine go_icmp_lt (tgt := 26) dX9_isTold_5 (by decide) (fun h2 => ?_) (fun h2 => ?_)
  · refine go_iconst (v := 0) dX9_isTold_26 (by decide) ?_
    exact go_ret rfl dX9_isTold_27
  · refine go_aload_n 0 dX9_isTold_8 rfl rfl ?_
    refine go_getI gf_RX9_42 gcf_10 gft_10_1 dX9_isTold_9 (fun v3 => ?_)
    refine go_bipush (v := 36) dX9_isTold_12 (by decide) ?_
    refine go_icmp_gt (tgt := 26) dX9_isTold_14 (by decide) (fun h4 => ?_) (fun h4 => ?_)
    · refine go_iconst (v := 0) dX9_isTold_26 (by decide) ?_
      exact go_ret rfl dX9_isTold_27
    · refine go_aload_n 0 dX9_isTold_17 rfl rfl ?_
      refine go_getI gf_RX9_42 gcf_10 gft_10_1 dX9_isTold_18 (fun v5 => ?_)
      refine go_iconst (v := 3) dX9_isTold_21 (by decide) ?_
      refine go_iremc dX9_isTold_22 (by decide) ?_
      refine go_if_eq (tgt := 28) dX9_isTold_23 (by decide) (fun h6 => ?_) (fun h6 => ?_)
      · refine go_iconst (v := 0) dX9_isTold_28 (by decide) ?_
        refine go_istore_n (L' := [(1, vi 0), (0, vr a0)]) dX9_isTold_29 rfl (by decide) rfl ?_
        refine go_sub [1, 0] (wX9_isTold_L30 hd a0 20000 0 s0) rfl
      · refine go_iconst (v := 0) dX9_isTold_26 (by decide) ?_
        exact go_ret rfl dX9_isTold_27
set_option maxRecDepth 100000 in
set_option maxHeartbeats 4000000 in
theorem cX9_isTold_c {d : Nat} (hd : 2 ≤ d) {a0 : Nat} {s0 : gH} {r : Int32} {s1 : gH} (h : fX9_isTold a0 s0 = some (r, s1)) : gMt mX9_isTold d [vr a0] s0 (some (vi r)) s1 := by
  obtain ⟨h1, h2⟩ := gzr_some h
  exact gMt_of (rv := rvI) (by decide +kernel) (Nat.le_of_ble_eq_true rfl) ⟨_, rfl, gnarZ h2⟩ (fun _ => wX9_isTold hd) h1
def gX9_take_L22  (a0 : Nat) (a1 : Nat) : Nat → Int32 → gH → Option (Unit × gH)
  | 0, _, _ => none
  | n + 1, x3, s0 =>
    (ggI s0 a0 9 8).bind fun v5 =>
    if x3 < v5 then
      (ggR s0 a0 9 2).bind fun v7 =>
      gb2 (fX9_dayAt a1 (x3 * 3) s0) fun r8 s9 =>
      (saI s9 v7 2 x3 r8).bind fun s10 =>
      (ggR s10 a0 9 3).bind fun v11 =>
      gb2 (gcv s10 a1 10 (fX10_byteAt a1 ((x3 * 3) + 2) s10)) fun r12 s13 =>
      if r12 = 1 then
        (saI s13 v11 4 x3 1).bind fun s15 =>
        gX9_take_L22 a0 a1 n (x3 + 1) s15
      else
        (saI s13 v11 4 x3 0).bind fun s16 =>
        gX9_take_L22 a0 a1 n (x3 + 1) s16
    else
      (spI s0 a0 9 7 0).bind fun s17 =>
      some ((), s17)
set_option maxRecDepth 100000 in
set_option maxHeartbeats 4000000 in
theorem wX9_take_L22 {X : Nat × (Nat → Int32)} {d : Nat} (hd : 2 ≤ d)  (a0 : Nat) (a1 : Nat) : ∀ (n : Nat) (x3 : Int32) (s0 : gH), gGo X rvU mX9_take d 22 [(0, vr a0), (1, vr a1), (3, vi x3)] [] s0 (gX9_take_L22 a0 a1 n x3 s0) := by
  intro n
  induction n with
  | zero => intros; exact go_none
  | succ n ih =>
    intro x3 s0
    show gGo _ _ _ _ _ _ _ _ (gX9_take_L22 a0 a1 (n + 1) x3 s0)
    unfold gX9_take_L22
    refine go_iload_n 2 dX9_take_22 rfl rfl ?_
    refine go_aload_n 0 dX9_take_23 rfl rfl ?_
    refine go_getI gf_RX9_70 gcf_9 gft_9_8 dX9_take_24 (fun v5 => ?_)
    refine go_icmp_ge (tgt := 73) dX9_take_27 (by decide) (fun h6 => ?_) (fun h6 => ?_)
    · refine go_aload_n 0 dX9_take_30 rfl rfl ?_
      refine go_getR gf_RX9_18 gcf_9 gft_9_2 dX9_take_31 (fun v7 => ?_)
      refine go_iload_n 2 dX9_take_34 rfl rfl ?_
      refine go_aload_n 1 dX9_take_35 rfl rfl ?_
      refine go_iload_n 2 dX9_take_36 rfl rfl ?_
      refine go_iconst (v := 3) dX9_take_37 (by decide) ?_
      refine go_imul dX9_take_38 ?_
      refine go_callS_I (as := [vr a1, vi (x3 * 3)]) gk_RX9_48 gmf_X9_dayAt (by omega) rfl rfl (Nat.le_of_ble_eq_true rfl) dX9_take_39 (fun _ _ h => cX9_dayAt_c (by omega) h) (fun r8 s9 _ => ?_)
      refine go_iastore dX9_take_42 (fun s10 _ => ?_)
      refine go_aload_n 0 dX9_take_43 rfl rfl ?_
      refine go_getR gf_RX9_22 gcf_9 gft_9_3 dX9_take_44 (fun v11 => ?_)
      refine go_iload_n 2 dX9_take_47 rfl rfl ?_
      refine go_aload_n 1 dX9_take_48 rfl rfl ?_
      refine go_iload_n 2 dX9_take_49 rfl rfl ?_
      refine go_iconst (v := 3) dX9_take_50 (by decide) ?_
      refine go_imul dX9_take_51 ?_
      refine go_iconst (v := 2) dX9_take_52 (by decide) ?_
      refine go_iadd dX9_take_53 ?_
      refine go_callV_I (as := [vi ((x3 * 3) + 2)]) gk_RX9_56 gmf_X10_byteAt (by decide) rfl (by omega) rfl rfl (Nat.le_of_ble_eq_true rfl) dX9_take_54 (fun _ _ h => cX10_byteAt_c (by omega) h) (fun r12 s13 _ => ?_)
      refine go_iconst (v := 1) dX9_take_57 (by decide) ?_
      refine go_icmp_ne (tgt := 65) dX9_take_58 (by decide) (fun h14 => ?_) (fun h14 => ?_)
      · refine go_iconst (v := 1) dX9_take_61 (by decide) ?_
        refine go_goto (tgt := 66) dX9_take_62 (by decide) ?_
        refine go_zastore dX9_take_66 (fun s15 _ => ?_)
        refine go_iinc (v := 1) (L' := [(3, vi (x3 + 1)), (0, vr a0), (1, vr a1)]) 2 dX9_take_67 rfl (by decide) (by decide) rfl ?_
        refine go_goto (tgt := 22) dX9_take_70 (by decide) ?_
        exact go_sub [1, 2, 0] (ih (x3 + 1) s15) rfl
      · refine go_iconst (v := 0) dX9_take_65 (by decide) ?_
        refine go_zastore dX9_take_66 (fun s16 _ => ?_)
        refine go_iinc (v := 1) (L' := [(3, vi (x3 + 1)), (0, vr a0), (1, vr a1)]) 2 dX9_take_67 rfl (by decide) (by decide) rfl ?_
        refine go_goto (tgt := 22) dX9_take_70 (by decide) ?_
        exact go_sub [1, 2, 0] (ih (x3 + 1) s16) rfl
    · refine go_aload_n 0 dX9_take_73 rfl rfl ?_
      refine go_iconst (v := 0) dX9_take_74 (by decide) ?_
      refine go_putZ gf_RX9_71 gcf_9 gpl_9_7 gft_9_7 (by decide) dX9_take_75 (fun s17 _ => ?_)
      exact go_retv rfl dX9_take_78
def fX9_take (a0 : Nat) (a1 : Nat) (a2 : Nat) (s0 : gH) : Option (Unit × gH) :=
  (spR s0 a0 9 6 a2).bind fun s1 =>
  (ggI s1 a1 10 1).bind fun v2 =>
  (spI s1 a0 9 8 (gmin 12 (v2 / 3))).bind fun s3 =>
  gX9_take_L22
    a0 a1 20000 0 s3
set_option maxRecDepth 100000 in
set_option maxHeartbeats 4000000 in
theorem wX9_take {X : Nat × (Nat → Int32)} {d : Nat} (hd : 2 ≤ d) {a0 : Nat} {a1 : Nat} {a2 : Nat} {s0 : gH} : gGo X rvU mX9_take d 0 [(0, vr a0), (1, vr a1), (2, vr a2)] [] s0 (fX9_take a0 a1 a2 s0) := by
  unfold fX9_take
  refine go_aload_n 0 dX9_take_0 rfl rfl ?_
  refine go_aload_n 2 dX9_take_1 rfl rfl ?_
  refine go_putR gf_RX9_60 gcf_9 gpl_9_6 (Or.inl ⟨_, rfl⟩) gft_9_6 dX9_take_2 (fun s1 _ => ?_)
  refine go_aload_n 0 dX9_take_5 rfl rfl ?_
  refine go_bipush (v := 12) dX9_take_6 (by decide) ?_
  refine go_aload_n 1 dX9_take_8 rfl rfl ?_
  refine go_getI gf_RX9_42 gcf_10 gft_10_1 dX9_take_9 (fun v2 => ?_)
  refine go_iconst (v := 3) dX9_take_12 (by decide) ?_
  refine go_idivc dX9_take_13 (by decide) ?_
  refine go_mmin gk_RX9_64.1 gmm_min2 gmm_3 gmm_min4 (Nat.le_of_ble_eq_true rfl) dX9_take_14 ?_
  refine go_putI gf_RX9_70 gcf_9 gpl_9_8 gft_9_8 dX9_take_17 (fun s3 _ => ?_)
  refine go_iconst (v := 0) dX9_take_20 (by decide) ?_
  refine go_istore_n (L' := [(3, vi 0), (0, vr a0), (1, vr a1), (2, vr a2)]) dX9_take_21 rfl (by decide) rfl ?_
  refine go_sub [1, 2, 0] (wX9_take_L22 hd a0 a1 20000 0 s3) rfl
set_option maxRecDepth 100000 in
set_option maxHeartbeats 4000000 in
theorem cX9_take_c {d : Nat} (hd : 2 ≤ d) {a0 : Nat} {a1 : Nat} {a2 : Nat} {s0 : gH} {r : Unit} {s1 : gH} (h : fX9_take a0 a1 a2 s0 = some (r, s1)) : gMt mX9_take d [vr a0, vr a1, vr a2] s0 none s1 :=
  gMt_of (rv := rvU) (by decide +kernel) (Nat.le_of_ble_eq_true rfl) rfl (fun _ => wX9_take hd) h
def fX11_see (a0 : Nat) (x1 : Int32) (s0 : gH) : Option (Int32 × gH) :=
  (ggR s0 a0 11 7).bind fun v1 =>
  gb2 (gcv s0 v1 1 (fX1_ruleAt v1 x1 s0)) fun r2 s3 =>
  gjn (fun (z5 : Int32) (s6 : gH) =>
      gjn (fun (s8 : gH) =>
          (ggR s8 a0 11 0).bind fun v9 =>
          (spI s8 v9 10 1 0).bind fun s10 =>
          if z5 = 0 then
            gb2 (gcv s10 a0 11 (fX11_refuse a0 1 s10)) fun r12 s13 =>
            some (r12, s13)
          else
            (ggR s10 a0 11 5).bind fun v14 =>
            (ggI s10 v14 9 8).bind fun v15 =>
            some (v15, s10)
      ) fun j7 =>
      if z5 = 0 then
        j7 s6
      else
        (ggR s6 a0 11 5).bind fun v17 =>
        (ggR s6 a0 11 0).bind fun v18 =>
        gb2 (gcv s6 v17 9 (fX9_take v17 v18 r2 s6)) fun r19 s20 =>
        j7 s20
  ) fun j4 =>
  if r2 = 0 then
    j4 0 s3
  else
    (ggR s3 a0 11 0).bind fun v22 =>
    gb2 (fX9_isTold v22 s3) fun r23 s24 =>
    if r23 = 0 then
      j4 0 s24
    else
      j4 1 s24
set_option maxRecDepth 100000 in
set_option maxHeartbeats 4000000 in
theorem wX11_see {X : Nat × (Nat → Int32)} {d : Nat} (hd : 3 ≤ d) {a0 : Nat} {x1 : Int32} {s0 : gH} : gGo X rvI mX11_see d 0 [(0, vr a0), (1, vi x1)] [] s0 (fX11_see a0 x1 s0) := by
  unfold fX11_see
  refine go_aload_n 0 dX11_see_0 rfl rfl ?_
  refine go_getR gf_RX11_60 gcf_11 gft_11_7 dX11_see_1 (fun v1 => ?_)
  refine go_iload_n 1 dX11_see_4 rfl rfl ?_
  refine go_callV_R (as := [vi x1]) gk_RX11_122 gmf_X1_ruleAt (by decide) rfl (by omega) rfl rfl (Nat.le_of_ble_eq_true rfl) dX11_see_5 (fun _ _ h => cX1_ruleAt_c (by omega) h) (fun r2 s3 _ => ?_)
  refine go_astore_n (L' := [(2, vr r2), (0, vr a0), (1, vi x1)]) dX11_see_8 rfl (by decide) rfl ?_
  refine go_aload_n 0 dX11_see_9 rfl rfl ?_
  refine go_gjn (P := fun j4 => ∀ (z5 : Int32) (s6 : gH), gGo X rvI mX11_see d 28 [(0, vr a0), (2, vr r2)] [vi z5] s6 (j4 z5 s6)) (fun z5 s6 => ?_) (fun j4 hj4 => ?_)
  · refine go_istore_n (L' := [(3, vi z5), (0, vr a0), (2, vr r2)]) dX11_see_28 rfl (by decide) rfl ?_
    refine go_iload_n 0 dX11_see_29 rfl rfl ?_
    refine go_gjn (P := fun j7 => ∀ (s8 : gH), gGo X rvI mX11_see d 45 [(0, vr a0), (3, vi z5)] [] s8 (j7 s8)) (fun s8 => ?_) (fun j7 hj7 => ?_)
    · refine go_aload_n 0 dX11_see_45 rfl rfl ?_
      refine go_getR gf_RX11_10 gcf_11 gft_11_0 dX11_see_46 (fun v9 => ?_)
      refine go_iconst (v := 0) dX11_see_49 (by decide) ?_
      refine go_putI gf_RX11_75 gcf_10 gpl_10_1 gft_10_1 dX11_see_50 (fun s10 _ => ?_)
      refine go_iload_n 1 dX11_see_53 rfl rfl ?_
      refine go_if_eq (tgt := 67) dX11_see_54 (by decide) (fun h11 => ?_) (fun h11 => ?_)
      · refine go_aload_n 0 dX11_see_67 rfl rfl ?_
        refine go_iconst (v := 1) dX11_see_68 (by decide) ?_
        refine go_callV_I (as := [vi 1]) gk_RX11_78 gmf_X11_refuse (by decide) rfl (by omega) rfl rfl (Nat.le_of_ble_eq_true rfl) dX11_see_69 (fun _ _ h => cX11_refuse_c (by omega) h) (fun r12 s13 _ => ?_)
        exact go_ret rfl dX11_see_72
      · refine go_aload_n 0 dX11_see_57 rfl rfl ?_
        refine go_getR gf_RX11_49 gcf_11 gft_11_5 dX11_see_58 (fun v14 => ?_)
        refine go_getI gf_RX11_113 gcf_9 gft_9_8 dX11_see_61 (fun v15 => ?_)
        refine go_goto (tgt := 72) dX11_see_64 (by decide) ?_
        exact go_ret rfl dX11_see_72
    · refine go_if_eq (tgt := 45) dX11_see_30 (by decide) (fun h16 => ?_) (fun h16 => ?_)
      · exact go_sub [1, 0] (hj7 s6) rfl
      · refine go_aload_n 1 dX11_see_33 rfl rfl ?_
        refine go_getR gf_RX11_49 gcf_11 gft_11_5 dX11_see_34 (fun v17 => ?_)
        refine go_aload_n 1 dX11_see_37 rfl rfl ?_
        refine go_getR gf_RX11_10 gcf_11 gft_11_0 dX11_see_38 (fun v18 => ?_)
        refine go_aload_n 2 dX11_see_41 rfl rfl ?_
        refine go_callV_v (as := [vr v18, vr r2]) gk_RX11_203 gmf_X9_take (by decide) rfl (by omega) rfl rfl (Nat.le_of_ble_eq_true rfl) dX11_see_42 (fun _ _ h => cX9_take_c (by omega) h) (fun r19 s20 _ => ?_)
        exact go_sub [1, 0] (hj7 s20) rfl
  · refine go_ifnull (tgt := 27) dX11_see_10 (by decide) (fun h21 => ?_) (fun h21 => ?_)
    · refine go_iconst (v := 0) dX11_see_27 (by decide) ?_
      exact go_sub [1, 0] (hj4 0 s3) rfl
    · refine go_aload_n 1 dX11_see_13 rfl rfl ?_
      refine go_getR gf_RX11_10 gcf_11 gft_11_0 dX11_see_14 (fun v22 => ?_)
      refine go_callS_I (as := [vr v22]) gk_RX11_199 gmf_X9_isTold (by omega) rfl rfl (Nat.le_of_ble_eq_true rfl) dX11_see_17 (fun _ _ h => cX9_isTold_c (by omega) h) (fun r23 s24 _ => ?_)
      refine go_if_eq (tgt := 27) dX11_see_20 (by decide) (fun h25 => ?_) (fun h25 => ?_)
      · refine go_iconst (v := 0) dX11_see_27 (by decide) ?_
        exact go_sub [1, 0] (hj4 0 s24) rfl
      · refine go_iconst (v := 1) dX11_see_23 (by decide) ?_
        refine go_goto (tgt := 28) dX11_see_24 (by decide) ?_
        exact go_sub [1, 0] (hj4 1 s24) rfl
set_option maxRecDepth 100000 in
set_option maxHeartbeats 4000000 in
theorem cX11_see_c {d : Nat} (hd : 3 ≤ d) {a0 : Nat} {x1 : Int32} {s0 : gH} {r : Int32} {s1 : gH} (h : fX11_see a0 x1 s0 = some (r, s1)) : gMt mX11_see d [vr a0, vi x1] s0 (some (vi r)) s1 :=
  gMt_of (rv := rvI) (by decide +kernel) (Nat.le_of_ble_eq_true rfl) ⟨_, rfl, rfl⟩ (fun _ => wX11_see hd) h
def gX12_see_L45 (k107 : Int32 → gH → Option (Int32 × gH)) (a0 : Nat) (x1 : Int32) (x2 : Int32) : Nat → Int32 → Int32 → gH → Option (Int32 × gH)
  | 0, _, _, _ => none
  | n + 1, x3, x4, s0 =>
    if x4 < x2 then
      if x3 = 0 then
        k107 x3 s0
      else
        (ggR s0 a0 12 0).bind fun v11 =>
        (gaI s0 v11 2 x4).bind fun v12 =>
        (ggR s0 a0 12 0).bind fun v13 =>
        (gaI s0 v13 2 (x4 + 1)).bind fun v14 =>
        gb2 (fX12_isDay ((256 * v12) + v14) s0) fun r15 s16 =>
        if r15 = 0 then
          gX12_see_L45 k107 a0 x1 x2 n 0 (x4 + 3) s16
        else
          (ggR s16 a0 12 0).bind fun v18 =>
          (gaI s16 v18 2 (x4 + 2)).bind fun v19 =>
          if 1 < v19 then
            gX12_see_L45 k107 a0 x1 x2 n 0 (x4 + 3) s16
          else
            gX12_see_L45 k107 a0 x1 x2 n 1 (x4 + 3) s16
    else
      k107 x3 s0
set_option maxRecDepth 100000 in
set_option maxHeartbeats 4000000 in
theorem wX12_see_L45 {X : Nat × (Nat → Int32)} {d : Nat} (hd : 2 ≤ d) (k107 : Int32 → gH → Option (Int32 × gH)) (a0 : Nat) (x1 : Int32) (x2 : Int32) (hk107 : ∀ (x3 : Int32) (s : gH), gGo X rvI mX12_see d 107 [(0, vr a0), (1, vi x1), (2, vi x2), (3, vi x3)] [] s (k107 x3 s)) : ∀ (n : Nat) (x3 : Int32) (x4 : Int32) (s0 : gH), gGo X rvI mX12_see d 45 [(0, vr a0), (1, vi x1), (2, vi x2), (3, vi x3), (4, vi x4)] [] s0 (gX12_see_L45 k107 a0 x1 x2 n x3 x4 s0) := by
  intro n
  induction n with
  | zero => intros; exact go_none
  | succ n ih =>
    intro x3 x4 s0
    show gGo _ _ _ _ _ _ _ _ (gX12_see_L45 k107 a0 x1 x2 (n + 1) x3 x4 s0)
    unfold gX12_see_L45
    refine go_iload 4 dX12_see_45 rfl ?_
    refine go_iload_n 2 dX12_see_47 rfl rfl ?_
    refine go_icmp_ge (tgt := 107) dX12_see_48 (by decide) (fun h9 => ?_) (fun h9 => ?_)
    · refine go_iload_n 3 dX12_see_51 rfl rfl ?_
      refine go_if_eq (tgt := 107) dX12_see_52 (by decide) (fun h10 => ?_) (fun h10 => ?_)
      · exact go_sub [0, 1, 2, 3] (hk107 x3 s0) rfl
      · refine go_sipush (v := 256) dX12_see_55 (by decide) ?_
        refine go_aload_n 0 dX12_see_58 rfl rfl ?_
        refine go_getR gf_RX12_7 gcf_12 gft_12_0 dX12_see_59 (fun v11 => ?_)
        refine go_iload 4 dX12_see_62 rfl ?_
        refine go_iaload dX12_see_64 (fun v12 _ => ?_)
        refine go_imul dX12_see_65 ?_
        refine go_aload_n 0 dX12_see_66 rfl rfl ?_
        refine go_getR gf_RX12_7 gcf_12 gft_12_0 dX12_see_67 (fun v13 => ?_)
        refine go_iload 4 dX12_see_70 rfl ?_
        refine go_iconst (v := 1) dX12_see_72 (by decide) ?_
        refine go_iadd dX12_see_73 ?_
        refine go_iaload dX12_see_74 (fun v14 _ => ?_)
        refine go_iadd dX12_see_75 ?_
        refine go_callS_I (as := [vi ((256 * v12) + v14)]) gk_RX12_387 gmf_X12_isDay (by omega) rfl rfl (Nat.le_of_ble_eq_true rfl) dX12_see_76 (fun _ _ h => cX12_isDay_c (by omega) h) (fun r15 s16 _ => ?_)
        refine go_if_eq (tgt := 99) dX12_see_79 (by decide) (fun h17 => ?_) (fun h17 => ?_)
        · refine go_iconst (v := 0) dX12_see_99 (by decide) ?_
          refine go_istore_n (L' := [(3, vi 0), (0, vr a0), (1, vi x1), (2, vi x2), (4, vi x4)]) dX12_see_100 rfl (by decide) rfl ?_
          refine go_iinc (v := 3) (L' := [(4, vi (x4 + 3)), (3, vi 0), (0, vr a0), (1, vi x1), (2, vi x2)]) 4 dX12_see_101 rfl (by decide) (by decide) rfl ?_
          refine go_goto (tgt := 45) dX12_see_104 (by decide) ?_
          exact go_sub [2, 3, 4, 1, 0] (ih 0 (x4 + 3) s16) rfl
        · refine go_aload_n 0 dX12_see_82 rfl rfl ?_
          refine go_getR gf_RX12_7 gcf_12 gft_12_0 dX12_see_83 (fun v18 => ?_)
          refine go_iload 4 dX12_see_86 rfl ?_
          refine go_iconst (v := 2) dX12_see_88 (by decide) ?_
          refine go_iadd dX12_see_89 ?_
          refine go_iaload dX12_see_90 (fun v19 _ => ?_)
          refine go_iconst (v := 1) dX12_see_91 (by decide) ?_
          refine go_icmp_gt (tgt := 99) dX12_see_92 (by decide) (fun h20 => ?_) (fun h20 => ?_)
          · refine go_iconst (v := 0) dX12_see_99 (by decide) ?_
            refine go_istore_n (L' := [(3, vi 0), (0, vr a0), (1, vi x1), (2, vi x2), (4, vi x4)]) dX12_see_100 rfl (by decide) rfl ?_
            refine go_iinc (v := 3) (L' := [(4, vi (x4 + 3)), (3, vi 0), (0, vr a0), (1, vi x1), (2, vi x2)]) 4 dX12_see_101 rfl (by decide) (by decide) rfl ?_
            refine go_goto (tgt := 45) dX12_see_104 (by decide) ?_
            exact go_sub [2, 3, 4, 1, 0] (ih 0 (x4 + 3) s16) rfl
          · refine go_iconst (v := 1) dX12_see_95 (by decide) ?_
            refine go_goto (tgt := 100) dX12_see_96 (by decide) ?_
            refine go_istore_n (L' := [(3, vi 1), (0, vr a0), (1, vi x1), (2, vi x2), (4, vi x4)]) dX12_see_100 rfl (by decide) rfl ?_
            refine go_iinc (v := 3) (L' := [(4, vi (x4 + 3)), (3, vi 1), (0, vr a0), (1, vi x1), (2, vi x2)]) 4 dX12_see_101 rfl (by decide) (by decide) rfl ?_
            refine go_goto (tgt := 45) dX12_see_104 (by decide) ?_
            exact go_sub [2, 3, 4, 1, 0] (ih 1 (x4 + 3) s16) rfl
    · exact go_sub [0, 1, 2, 3] (hk107 x3 s0) rfl
def gX12_see_L132  (a0 : Nat) : Nat → Int32 → gH → Option (Int32 × gH)
  | 0, _, _ => none
  | n + 1, x4, s0 =>
    (ggI s0 a0 12 36).bind fun v29 =>
    if x4 < v29 then
      (ggR s0 a0 12 38).bind fun v31 =>
      (ggR s0 a0 12 0).bind fun v32 =>
      (gaI s0 v32 2 (3 * x4)).bind fun v33 =>
      (ggR s0 a0 12 0).bind fun v34 =>
      (gaI s0 v34 2 ((3 * x4) + 1)).bind fun v35 =>
      (saI s0 v31 2 x4 ((256 * v33) + v35)).bind fun s36 =>
      (ggR s36 a0 12 39).bind fun v37 =>
      (ggR s36 a0 12 0).bind fun v38 =>
      (gaI s36 v38 2 ((3 * x4) + 2)).bind fun v39 =>
      if v39 = 1 then
        (saI s36 v37 4 x4 1).bind fun s41 =>
        gX12_see_L132 a0 n (x4 + 1) s41
      else
        (saI s36 v37 4 x4 0).bind fun s42 =>
        gX12_see_L132 a0 n (x4 + 1) s42
    else
      (ggI s0 a0 12 36).bind fun v43 =>
      some (v43, s0)
set_option maxRecDepth 100000 in
set_option maxHeartbeats 4000000 in
theorem wX12_see_L132 {X : Nat × (Nat → Int32)} {d : Nat} (hd : 2 ≤ d)  (a0 : Nat) : ∀ (n : Nat) (x4 : Int32) (s0 : gH), gGo X rvI mX12_see d 132 [(0, vr a0), (4, vi x4)] [] s0 (gX12_see_L132 a0 n x4 s0) := by
  intro n
  induction n with
  | zero => intros; exact go_none
  | succ n ih =>
    intro x4 s0
    show gGo _ _ _ _ _ _ _ _ (gX12_see_L132 a0 (n + 1) x4 s0)
    unfold gX12_see_L132
    refine go_iload 1 dX12_see_132 rfl ?_
    refine go_aload_n 0 dX12_see_134 rfl rfl ?_
    refine go_getI gf_RX12_307 gcf_12 gft_12_36 dX12_see_135 (fun v29 => ?_)
    refine go_icmp_ge (tgt := 206) dX12_see_138 (by decide) (fun h30 => ?_) (fun h30 => ?_)
    · refine go_aload_n 0 dX12_see_141 rfl rfl ?_
      refine go_getR gf_RX12_75 gcf_12 gft_12_38 dX12_see_142 (fun v31 => ?_)
      refine go_iload 1 dX12_see_145 rfl ?_
      refine go_sipush (v := 256) dX12_see_147 (by decide) ?_
      refine go_aload_n 0 dX12_see_150 rfl rfl ?_
      refine go_getR gf_RX12_7 gcf_12 gft_12_0 dX12_see_151 (fun v32 => ?_)
      refine go_iconst (v := 3) dX12_see_154 (by decide) ?_
      refine go_iload 1 dX12_see_155 rfl ?_
      refine go_imul dX12_see_157 ?_
      refine go_iaload dX12_see_158 (fun v33 _ => ?_)
      refine go_imul dX12_see_159 ?_
      refine go_aload_n 0 dX12_see_160 rfl rfl ?_
      refine go_getR gf_RX12_7 gcf_12 gft_12_0 dX12_see_161 (fun v34 => ?_)
      refine go_iconst (v := 3) dX12_see_164 (by decide) ?_
      refine go_iload 1 dX12_see_165 rfl ?_
      refine go_imul dX12_see_167 ?_
      refine go_iconst (v := 1) dX12_see_168 (by decide) ?_
      refine go_iadd dX12_see_169 ?_
      refine go_iaload dX12_see_170 (fun v35 _ => ?_)
      refine go_iadd dX12_see_171 ?_
      refine go_iastore dX12_see_172 (fun s36 _ => ?_)
      refine go_aload_n 0 dX12_see_173 rfl rfl ?_
      refine go_getR gf_RX12_78 gcf_12 gft_12_39 dX12_see_174 (fun v37 => ?_)
      refine go_iload 1 dX12_see_177 rfl ?_
      refine go_aload_n 0 dX12_see_179 rfl rfl ?_
      refine go_getR gf_RX12_7 gcf_12 gft_12_0 dX12_see_180 (fun v38 => ?_)
      refine go_iconst (v := 3) dX12_see_183 (by decide) ?_
      refine go_iload 1 dX12_see_184 rfl ?_
      refine go_imul dX12_see_186 ?_
      refine go_iconst (v := 2) dX12_see_187 (by decide) ?_
      refine go_iadd dX12_see_188 ?_
      refine go_iaload dX12_see_189 (fun v39 _ => ?_)
      refine go_iconst (v := 1) dX12_see_190 (by decide) ?_
      refine go_icmp_ne (tgt := 198) dX12_see_191 (by decide) (fun h40 => ?_) (fun h40 => ?_)
      · refine go_iconst (v := 1) dX12_see_194 (by decide) ?_
        refine go_goto (tgt := 199) dX12_see_195 (by decide) ?_
        refine go_zastore dX12_see_199 (fun s41 _ => ?_)
        refine go_iinc (v := 1) (L' := [(4, vi (x4 + 1)), (0, vr a0)]) 1 dX12_see_200 rfl (by decide) (by decide) rfl ?_
        refine go_goto (tgt := 132) dX12_see_203 (by decide) ?_
        exact go_sub [1, 0] (ih (x4 + 1) s41) rfl
      · refine go_iconst (v := 0) dX12_see_198 (by decide) ?_
        refine go_zastore dX12_see_199 (fun s42 _ => ?_)
        refine go_iinc (v := 1) (L' := [(4, vi (x4 + 1)), (0, vr a0)]) 1 dX12_see_200 rfl (by decide) (by decide) rfl ?_
        refine go_goto (tgt := 132) dX12_see_203 (by decide) ?_
        exact go_sub [1, 0] (ih (x4 + 1) s42) rfl
    · refine go_aload_n 0 dX12_see_206 rfl rfl ?_
      refine go_getI gf_RX12_307 gcf_12 gft_12_36 dX12_see_207 (fun v43 => ?_)
      exact go_ret rfl dX12_see_210
def fX12_see (a0 : Nat) (x1 : Int32) (s0 : gH) : Option (Int32 × gH) :=
  (ggI s0 a0 12 1).bind fun v1 =>
  (spI s0 a0 12 1 0).bind fun s2 =>
  gb2 (gcv s2 a0 12 (fX12_isRule a0 x1 s2)) fun r3 s4 =>
  gjn (fun (z6 : Int32) (s7 : gH) =>
      gX12_see_L45
        (fun y21 s22 =>
          if y21 = 0 then
            gb2 (gcv s22 a0 12 (fX12_refuses a0 1 s22)) fun r24 s25 =>
            some (r24, s25)
          else
            (spI s22 a0 12 36 (v1 / 3)).bind fun s26 =>
            (spI s26 a0 12 37 x1).bind fun s27 =>
            gX12_see_L132
              a0 20000 0 s27)
        a0 x1 v1 20000 z6 0 s7
  ) fun j5 =>
  if r3 = 0 then
    j5 0 s4
  else
    if 0 < v1 then
      if gIrem v1 3 = 0 then
        if 12 < v1 / 3 then
          j5 0 s4
        else
          j5 1 s4
      else
        j5 0 s4
    else
      j5 0 s4
set_option maxRecDepth 100000 in
set_option maxHeartbeats 4000000 in
theorem wX12_see {X : Nat × (Nat → Int32)} {d : Nat} (hd : 2 ≤ d) {a0 : Nat} {x1 : Int32} {s0 : gH} : gGo X rvI mX12_see d 0 [(0, vr a0), (1, vi x1)] [] s0 (fX12_see a0 x1 s0) := by
  unfold fX12_see
  refine go_aload_n 0 dX12_see_0 rfl rfl ?_
  refine go_getI gf_RX12_97 gcf_12 gft_12_1 dX12_see_1 (fun v1 => ?_)
  refine go_istore_n (L' := [(2, vi v1), (0, vr a0), (1, vi x1)]) dX12_see_4 rfl (by decide) rfl ?_
  refine go_aload_n 1 dX12_see_5 rfl rfl ?_
  refine go_iconst (v := 0) dX12_see_6 (by decide) ?_
  refine go_putI gf_RX12_97 gcf_12 gpl_12_1 gft_12_1 dX12_see_7 (fun s2 _ => ?_)
  refine go_aload_n 1 dX12_see_10 rfl rfl ?_
  refine go_iload_n 2 dX12_see_11 rfl rfl ?_
  refine go_callV_I (as := [vi x1]) gk_RX12_313 gmf_X12_isRule (by decide) rfl (by omega) rfl rfl (Nat.le_of_ble_eq_true rfl) dX12_see_12 (fun _ _ h => cX12_isRule_c (by omega) h) (fun r3 s4 _ => ?_)
  refine go_gjn (P := fun j5 => ∀ (z6 : Int32) (s7 : gH), gGo X rvI mX12_see d 41 [(0, vr a0), (1, vi x1), (2, vi v1)] [vi z6] s7 (j5 z6 s7)) (fun z6 s7 => ?_) (fun j5 hj5 => ?_)
  · refine go_istore_n (L' := [(3, vi z6), (0, vr a0), (1, vi x1), (2, vi v1)]) dX12_see_41 rfl (by decide) rfl ?_
    refine go_iconst (v := 0) dX12_see_42 (by decide) ?_
    refine go_istore (L' := [(4, vi 0), (3, vi z6), (0, vr a0), (1, vi x1), (2, vi v1)]) dX12_see_43 (by decide) rfl ?_
    refine go_sub [2, 3, 4, 1, 0] (wX12_see_L45 hd _ a0 x1 v1 ?_ 20000 z6 0 s7) rfl
    intro y21 s22
    refine go_iload_n 3 dX12_see_107 rfl rfl ?_
    refine go_if_ne (tgt := 117) dX12_see_108 (by decide) (fun h23 => ?_) (fun h23 => ?_)
    · refine go_aload_n 0 dX12_see_111 rfl rfl ?_
      refine go_iconst (v := 1) dX12_see_112 (by decide) ?_
      refine go_callV_I (as := [vi 1]) gk_RX12_100 gmf_X12_refuses (by decide) rfl (by omega) rfl rfl (Nat.le_of_ble_eq_true rfl) dX12_see_113 (fun _ _ h => cX12_refuses_c (by omega) h) (fun r24 s25 _ => ?_)
      exact go_ret rfl dX12_see_116
    · refine go_aload_n 0 dX12_see_117 rfl rfl ?_
      refine go_iload_n 2 dX12_see_118 rfl rfl ?_
      refine go_iconst (v := 3) dX12_see_119 (by decide) ?_
      refine go_idivc dX12_see_120 (by decide) ?_
      refine go_putI gf_RX12_307 gcf_12 gpl_12_36 gft_12_36 dX12_see_121 (fun s26 _ => ?_)
      refine go_aload_n 0 dX12_see_124 rfl rfl ?_
      refine go_iload_n 1 dX12_see_125 rfl rfl ?_
      refine go_putI gf_RX12_455 gcf_12 gpl_12_37 gft_12_37 dX12_see_126 (fun s27 _ => ?_)
      refine go_iconst (v := 0) dX12_see_129 (by decide) ?_
      refine go_istore (L' := [(4, vi 0), (0, vr a0), (1, vi x1), (2, vi v1), (3, vi y21)]) dX12_see_130 (by decide) rfl ?_
      refine go_sub [1, 0] (wX12_see_L132 hd a0 20000 0 s27) rfl
  · refine go_if_eq (tgt := 40) dX12_see_15 (by decide) (fun h44 => ?_) (fun h44 => ?_)
    · refine go_iconst (v := 0) dX12_see_40 (by decide) ?_
      exact go_sub [1, 2, 0] (hj5 0 s4) rfl
    · refine go_iload_n 0 dX12_see_18 rfl rfl ?_
      refine go_if_le (tgt := 40) dX12_see_19 (by decide) (fun h45 => ?_) (fun h45 => ?_)
      · refine go_iload_n 0 dX12_see_22 rfl rfl ?_
        refine go_iconst (v := 3) dX12_see_23 (by decide) ?_
        refine go_iremc dX12_see_24 (by decide) ?_
        refine go_if_ne (tgt := 40) dX12_see_25 (by decide) (fun h46 => ?_) (fun h46 => ?_)
        · refine go_iload_n 0 dX12_see_28 rfl rfl ?_
          refine go_iconst (v := 3) dX12_see_29 (by decide) ?_
          refine go_idivc dX12_see_30 (by decide) ?_
          refine go_bipush (v := 12) dX12_see_31 (by decide) ?_
          refine go_icmp_gt (tgt := 40) dX12_see_33 (by decide) (fun h47 => ?_) (fun h47 => ?_)
          · refine go_iconst (v := 0) dX12_see_40 (by decide) ?_
            exact go_sub [1, 2, 0] (hj5 0 s4) rfl
          · refine go_iconst (v := 1) dX12_see_36 (by decide) ?_
            refine go_goto (tgt := 41) dX12_see_37 (by decide) ?_
            exact go_sub [1, 2, 0] (hj5 1 s4) rfl
        · refine go_iconst (v := 0) dX12_see_40 (by decide) ?_
          exact go_sub [1, 2, 0] (hj5 0 s4) rfl
      · refine go_iconst (v := 0) dX12_see_40 (by decide) ?_
        exact go_sub [1, 2, 0] (hj5 0 s4) rfl
set_option maxRecDepth 100000 in
set_option maxHeartbeats 4000000 in
theorem cX12_see_c {d : Nat} (hd : 2 ≤ d) {a0 : Nat} {x1 : Int32} {s0 : gH} {r : Int32} {s1 : gH} (h : fX12_see a0 x1 s0 = some (r, s1)) : gMt mX12_see d [vr a0, vi x1] s0 (some (vi r)) s1 :=
  gMt_of (rv := rvI) (by decide +kernel) (Nat.le_of_ble_eq_true rfl) ⟨_, rfl, rfl⟩ (fun _ => wX12_see hd) h
def gX9_isSo_L2  (a0 : Nat) : Nat → Int32 → gH → Option (Int32 × gH)
  | 0, _, _ => none
  | n + 1, x1, s0 =>
    (ggI s0 a0 9 8).bind fun v2 =>
    if x1 < v2 then
      (ggR s0 a0 9 2).bind fun v4 =>
      (glen s0 v4).bind fun v5 =>
      if x1 < v5 then
        (ggR s0 a0 9 1).bind fun v7 =>
        (ggR s0 a0 9 2).bind fun v8 =>
        (gaI s0 v8 2 x1).bind fun v9 =>
        gb2 (gcv s0 v7 2 (fX2_holds v7 v9 s0)) fun r10 s11 =>
        (ggR s11 a0 9 3).bind fun v12 =>
        (gaI s11 v12 4 x1).bind fun v13 =>
        if r10 = v13 then
          gX9_isSo_L2 a0 n (x1 + 1) s11
        else
          some (0, s11)
      else
        some (1, s0)
    else
      some (1, s0)
set_option maxRecDepth 100000 in
set_option maxHeartbeats 4000000 in
theorem wX9_isSo_L2 {X : Nat × (Nat → Int32)} {d : Nat} (hd : 2 ≤ d)  (a0 : Nat) : ∀ (n : Nat) (x1 : Int32) (s0 : gH), gGo X rvI mX9_isSo d 2 [(0, vr a0), (1, vi x1)] [] s0 (gX9_isSo_L2 a0 n x1 s0) := by
  intro n
  induction n with
  | zero => intros; exact go_none
  | succ n ih =>
    intro x1 s0
    show gGo _ _ _ _ _ _ _ _ (gX9_isSo_L2 a0 (n + 1) x1 s0)
    unfold gX9_isSo_L2
    refine go_iload_n 1 dX9_isSo_2 rfl rfl ?_
    refine go_aload_n 0 dX9_isSo_3 rfl rfl ?_
    refine go_getI gf_RX9_70 gcf_9 gft_9_8 dX9_isSo_4 (fun v2 => ?_)
    refine go_icmp_ge (tgt := 49) dX9_isSo_7 (by decide) (fun h3 => ?_) (fun h3 => ?_)
    · refine go_iload_n 1 dX9_isSo_10 rfl rfl ?_
      refine go_aload_n 0 dX9_isSo_11 rfl rfl ?_
      refine go_getR gf_RX9_18 gcf_9 gft_9_2 dX9_isSo_12 (fun v4 => ?_)
      refine go_alen dX9_isSo_15 (fun v5 _ => ?_)
      refine go_icmp_ge (tgt := 49) dX9_isSo_16 (by decide) (fun h6 => ?_) (fun h6 => ?_)
      · refine go_aload_n 0 dX9_isSo_19 rfl rfl ?_
        refine go_getR gf_RX9_12 gcf_9 gft_9_1 dX9_isSo_20 (fun v7 => ?_)
        refine go_aload_n 0 dX9_isSo_23 rfl rfl ?_
        refine go_getR gf_RX9_18 gcf_9 gft_9_2 dX9_isSo_24 (fun v8 => ?_)
        refine go_iload_n 1 dX9_isSo_27 rfl rfl ?_
        refine go_iaload dX9_isSo_28 (fun v9 _ => ?_)
        refine go_callV_I (as := [vi v9]) gk_RX9_118 gmf_X2_holds (by decide) rfl (by omega) rfl rfl (Nat.le_of_ble_eq_true rfl) dX9_isSo_29 (fun _ _ h => cX2_holds_c (by omega) h) (fun r10 s11 _ => ?_)
        refine go_aload_n 0 dX9_isSo_32 rfl rfl ?_
        refine go_getR gf_RX9_22 gcf_9 gft_9_3 dX9_isSo_33 (fun v12 => ?_)
        refine go_iload_n 1 dX9_isSo_36 rfl rfl ?_
        refine go_zaload dX9_isSo_37 (fun v13 _ => ?_)
        refine go_icmp_eq (tgt := 43) dX9_isSo_38 (by decide) (fun h14 => ?_) (fun h14 => ?_)
        · refine go_iinc (v := 1) (L' := [(1, vi (x1 + 1)), (0, vr a0)]) 1 dX9_isSo_43 rfl (by decide) (by decide) rfl ?_
          refine go_goto (tgt := 2) dX9_isSo_46 (by decide) ?_
          exact go_sub [1, 0] (ih (x1 + 1) s11) rfl
        · refine go_iconst (v := 0) dX9_isSo_41 (by decide) ?_
          exact go_ret rfl dX9_isSo_42
      · refine go_iconst (v := 1) dX9_isSo_49 (by decide) ?_
        exact go_ret rfl dX9_isSo_50
    · refine go_iconst (v := 1) dX9_isSo_49 (by decide) ?_
      exact go_ret rfl dX9_isSo_50
def gX9_isSo (a0 : Nat) (s0 : gH) : Option (Int32 × gH) :=
  gX9_isSo_L2
    a0 20000 0 s0
def fX9_isSo (a0 : Nat) (s0 : gH) : Option (Int32 × gH) := gzr (gX9_isSo a0 s0)
set_option maxRecDepth 100000 in
set_option maxHeartbeats 4000000 in
theorem wX9_isSo {X : Nat × (Nat → Int32)} {d : Nat} (hd : 2 ≤ d) {a0 : Nat} {s0 : gH} : gGo X rvI mX9_isSo d 0 [(0, vr a0)] [] s0 (gX9_isSo a0 s0) := by
  unfold gX9_isSo
  refine go_iconst (v := 0) dX9_isSo_0 (by decide) ?_
  refine go_istore_n (L' := [(1, vi 0), (0, vr a0)]) dX9_isSo_1 rfl (by decide) rfl ?_
  refine go_sub [1, 0] (wX9_isSo_L2 hd a0 20000 0 s0) rfl
set_option maxRecDepth 100000 in
set_option maxHeartbeats 4000000 in
theorem cX9_isSo_c {d : Nat} (hd : 2 ≤ d) {a0 : Nat} {s0 : gH} {r : Int32} {s1 : gH} (h : fX9_isSo a0 s0 = some (r, s1)) : gMt mX9_isSo d [vr a0] s0 (some (vi r)) s1 := by
  obtain ⟨h1, h2⟩ := gzr_some h
  exact gMt_of (rv := rvI) (by decide +kernel) (Nat.le_of_ble_eq_true rfl) ⟨_, rfl, gnarZ h2⟩ (fun _ => wX9_isSo hd) h1
def gX9_countYear_L2  (a0 : Nat) (x1 : Int32) (x2 : Int32) : Nat → Int32 → gH → Option (Unit × gH)
  | 0, _, _ => none
  | n + 1, x3, s0 =>
    if x3 < x2 then
      (ggR s0 a0 9 4).bind fun v3 =>
      (gaI s0 v3 2 x3).bind fun v4 =>
      (ggR s0 a0 9 1).bind fun v5 =>
      gb2 (gcv s0 v5 2 (fX2_holds v5 (x1 + x3) s0)) fun r6 s7 =>
      if r6 = 0 then
        (saI s7 v3 2 x3 (v4 + 0)).bind fun s9 =>
        gX9_countYear_L2 a0 x1 x2 n (x3 + 1) s9
      else
        (saI s7 v3 2 x3 (v4 + 1)).bind fun s10 =>
        gX9_countYear_L2 a0 x1 x2 n (x3 + 1) s10
    else
      some ((), s0)
set_option maxRecDepth 100000 in
set_option maxHeartbeats 4000000 in
theorem wX9_countYear_L2 {X : Nat × (Nat → Int32)} {d : Nat} (hd : 2 ≤ d)  (a0 : Nat) (x1 : Int32) (x2 : Int32) : ∀ (n : Nat) (x3 : Int32) (s0 : gH), gGo X rvU mX9_countYear d 2 [(0, vr a0), (1, vi x1), (2, vi x2), (3, vi x3)] [] s0 (gX9_countYear_L2 a0 x1 x2 n x3 s0) := by
  intro n
  induction n with
  | zero => intros; exact go_none
  | succ n ih =>
    intro x3 s0
    show gGo _ _ _ _ _ _ _ _ (gX9_countYear_L2 a0 x1 x2 (n + 1) x3 s0)
    unfold gX9_countYear_L2
    refine go_iload_n 3 dX9_countYear_2 rfl rfl ?_
    refine go_iload_n 2 dX9_countYear_3 rfl rfl ?_
    refine go_icmp_ge (tgt := 40) dX9_countYear_4 (by decide) (fun h2 => ?_) (fun h2 => ?_)
    · refine go_aload_n 0 dX9_countYear_7 rfl rfl ?_
      refine go_getR gf_RX9_26 gcf_9 gft_9_4 dX9_countYear_8 (fun v3 => ?_)
      refine go_iload_n 3 dX9_countYear_11 rfl rfl ?_
      refine go_dup2 dX9_countYear_12 rfl rfl ?_
      refine go_iaload dX9_countYear_13 (fun v4 _ => ?_)
      refine go_aload_n 0 dX9_countYear_14 rfl rfl ?_
      refine go_getR gf_RX9_12 gcf_9 gft_9_1 dX9_countYear_15 (fun v5 => ?_)
      refine go_iload_n 1 dX9_countYear_18 rfl rfl ?_
      refine go_iload_n 3 dX9_countYear_19 rfl rfl ?_
      refine go_iadd dX9_countYear_20 ?_
      refine go_callV_I (as := [vi (x1 + x3)]) gk_RX9_118 gmf_X2_holds (by decide) rfl (by omega) rfl rfl (Nat.le_of_ble_eq_true rfl) dX9_countYear_21 (fun _ _ h => cX2_holds_c (by omega) h) (fun r6 s7 _ => ?_)
      refine go_if_eq (tgt := 31) dX9_countYear_24 (by decide) (fun h8 => ?_) (fun h8 => ?_)
      · refine go_iconst (v := 0) dX9_countYear_31 (by decide) ?_
        refine go_iadd dX9_countYear_32 ?_
        refine go_iastore dX9_countYear_33 (fun s9 _ => ?_)
        refine go_iinc (v := 1) (L' := [(3, vi (x3 + 1)), (0, vr a0), (1, vi x1), (2, vi x2)]) 3 dX9_countYear_34 rfl (by decide) (by decide) rfl ?_
        refine go_goto (tgt := 2) dX9_countYear_37 (by decide) ?_
        exact go_sub [1, 2, 3, 0] (ih (x3 + 1) s9) rfl
      · refine go_iconst (v := 1) dX9_countYear_27 (by decide) ?_
        refine go_goto (tgt := 32) dX9_countYear_28 (by decide) ?_
        refine go_iadd dX9_countYear_32 ?_
        refine go_iastore dX9_countYear_33 (fun s10 _ => ?_)
        refine go_iinc (v := 1) (L' := [(3, vi (x3 + 1)), (0, vr a0), (1, vi x1), (2, vi x2)]) 3 dX9_countYear_34 rfl (by decide) (by decide) rfl ?_
        refine go_goto (tgt := 2) dX9_countYear_37 (by decide) ?_
        exact go_sub [1, 2, 3, 0] (ih (x3 + 1) s10) rfl
    · exact go_retv rfl dX9_countYear_40
def fX9_countYear (a0 : Nat) (x1 : Int32) (x2 : Int32) (s0 : gH) : Option (Unit × gH) :=
  gX9_countYear_L2
    a0 x1 x2 20000 0 s0
set_option maxRecDepth 100000 in
set_option maxHeartbeats 4000000 in
theorem wX9_countYear {X : Nat × (Nat → Int32)} {d : Nat} (hd : 2 ≤ d) {a0 : Nat} {x1 : Int32} {x2 : Int32} {s0 : gH} : gGo X rvU mX9_countYear d 0 [(0, vr a0), (1, vi x1), (2, vi x2)] [] s0 (fX9_countYear a0 x1 x2 s0) := by
  unfold fX9_countYear
  refine go_iconst (v := 0) dX9_countYear_0 (by decide) ?_
  refine go_istore_n (L' := [(3, vi 0), (0, vr a0), (1, vi x1), (2, vi x2)]) dX9_countYear_1 rfl (by decide) rfl ?_
  refine go_sub [1, 2, 3, 0] (wX9_countYear_L2 hd a0 x1 x2 20000 0 s0) rfl
set_option maxRecDepth 100000 in
set_option maxHeartbeats 4000000 in
theorem cX9_countYear_c {d : Nat} (hd : 2 ≤ d) {a0 : Nat} {x1 : Int32} {x2 : Int32} {s0 : gH} {r : Unit} {s1 : gH} (h : fX9_countYear a0 x1 x2 s0 = some (r, s1)) : gMt mX9_countYear d [vr a0, vi x1, vi x2] s0 none s1 :=
  gMt_of (rv := rvU) (by decide +kernel) (Nat.le_of_ble_eq_true rfl) rfl (fun _ => wX9_countYear hd) h
def gX9_choose_L12  (a0 : Nat) (x1 : Int32) (x2 : Int32) : Nat → Int32 → gH → Option (Unit × gH)
  | 0, _, _ => none
  | n + 1, x3, s0 =>
    if x3 < x2 then
      (ggI s0 a0 9 9).bind fun v5 =>
      if 0 < v5 then
        (ggR s0 a0 9 4).bind fun v7 =>
        (gaI s0 v7 2 x3).bind fun v8 =>
        (ggI s0 a0 9 9).bind fun v9 =>
        (ggR s0 a0 9 4).bind fun v10 =>
        (gaI s0 v10 2 x3).bind fun v11 =>
        glet (gmax v8 (v9 - v11)) fun y12 =>
        (ggI s0 a0 9 10).bind fun v13 =>
        gjn (fun (y15 : Int32) (s16 : gH) =>
            (spI s16 a0 9 10 (x1 + y15)).bind fun s17 =>
            (spI s17 a0 9 11 y12).bind fun s18 =>
            gX9_choose_L12 a0 x1 x2 n (y15 + 1) s18
        ) fun j14 =>
        if v13 = -1 then
          j14 x3 s0
        else
          (ggI s0 a0 9 11).bind fun v20 =>
          if y12 < v20 then
            j14 x3 s0
          else
            gX9_choose_L12 a0 x1 x2 n (x3 + 1) s0
      else
        some ((), s0)
    else
      some ((), s0)
set_option maxRecDepth 100000 in
set_option maxHeartbeats 4000000 in
theorem wX9_choose_L12 {X : Nat × (Nat → Int32)} {d : Nat} (hd : 1 ≤ d)  (a0 : Nat) (x1 : Int32) (x2 : Int32) : ∀ (n : Nat) (x3 : Int32) (s0 : gH), gGo X rvU mX9_choose d 12 [(0, vr a0), (1, vi x1), (2, vi x2), (3, vi x3)] [] s0 (gX9_choose_L12 a0 x1 x2 n x3 s0) := by
  intro n
  induction n with
  | zero => intros; exact go_none
  | succ n ih =>
    intro x3 s0
    show gGo _ _ _ _ _ _ _ _ (gX9_choose_L12 a0 x1 x2 (n + 1) x3 s0)
    unfold gX9_choose_L12
    refine go_iload_n 3 dX9_choose_12 rfl rfl ?_
    refine go_iload_n 2 dX9_choose_13 rfl rfl ?_
    refine go_icmp_ge (tgt := 82) dX9_choose_14 (by decide) (fun h4 => ?_) (fun h4 => ?_)
    · refine go_aload_n 0 dX9_choose_17 rfl rfl ?_
      refine go_getI gf_RX9_112 gcf_9 gft_9_9 dX9_choose_18 (fun v5 => ?_)
      refine go_if_le (tgt := 82) dX9_choose_21 (by decide) (fun h6 => ?_) (fun h6 => ?_)
      · refine go_aload_n 0 dX9_choose_24 rfl rfl ?_
        refine go_getR gf_RX9_26 gcf_9 gft_9_4 dX9_choose_25 (fun v7 => ?_)
        refine go_iload_n 3 dX9_choose_28 rfl rfl ?_
        refine go_iaload dX9_choose_29 (fun v8 _ => ?_)
        refine go_aload_n 0 dX9_choose_30 rfl rfl ?_
        refine go_getI gf_RX9_112 gcf_9 gft_9_9 dX9_choose_31 (fun v9 => ?_)
        refine go_aload_n 0 dX9_choose_34 rfl rfl ?_
        refine go_getR gf_RX9_26 gcf_9 gft_9_4 dX9_choose_35 (fun v10 => ?_)
        refine go_iload_n 3 dX9_choose_38 rfl rfl ?_
        refine go_iaload dX9_choose_39 (fun v11 _ => ?_)
        refine go_isub dX9_choose_40 ?_
        refine go_mmax gk_RX9_127.1 gmm_max2 gmm_3 gmm_max4 (Nat.le_of_ble_eq_true rfl) dX9_choose_41 ?_
        refine go_istore_l (L' := fun y12 => [(4, vi y12), (0, vr a0), (1, vi x1), (2, vi x2), (3, vi x3)]) dX9_choose_44 (by decide) (fun _ => rfl) (fun y12 => ?_)
        refine go_aload_n 1 dX9_choose_46 rfl rfl ?_
        refine go_getI gf_RX9_121 gcf_9 gft_9_10 dX9_choose_47 (fun v13 => ?_)
        refine go_iconst (v := -1) dX9_choose_50 (by decide) ?_
        refine go_gjn (P := fun j14 => ∀ (y15 : Int32) (s16 : gH), gGo X rvU mX9_choose d 63 [(0, vr a0), (1, vi x1), (2, vi x2), (3, vi y15), (4, vi y12)] [] s16 (j14 y15 s16)) (fun y15 s16 => ?_) (fun j14 hj14 => ?_)
        · refine go_aload_n 0 dX9_choose_63 rfl rfl ?_
          refine go_iload_n 1 dX9_choose_64 rfl rfl ?_
          refine go_iload_n 3 dX9_choose_65 rfl rfl ?_
          refine go_iadd dX9_choose_66 ?_
          refine go_putI gf_RX9_121 gcf_9 gpl_9_10 gft_9_10 dX9_choose_67 (fun s17 _ => ?_)
          refine go_aload_n 0 dX9_choose_70 rfl rfl ?_
          refine go_iload 4 dX9_choose_71 rfl ?_
          refine go_putI gf_RX9_124 gcf_9 gpl_9_11 gft_9_11 dX9_choose_73 (fun s18 _ => ?_)
          refine go_iinc (v := 1) (L' := [(3, vi (y15 + 1)), (0, vr a0), (1, vi x1), (2, vi x2), (4, vi y12)]) 3 dX9_choose_76 rfl (by decide) (by decide) rfl ?_
          refine go_goto (tgt := 12) dX9_choose_79 (by decide) ?_
          exact go_sub [1, 2, 3, 0] (ih (y15 + 1) s18) rfl
        · refine go_icmp_eq (tgt := 63) dX9_choose_51 (by decide) (fun h19 => ?_) (fun h19 => ?_)
          · exact go_sub [1, 2, 3, 4, 0] (hj14 x3 s0) rfl
          · refine go_iload 0 dX9_choose_54 rfl ?_
            refine go_aload_n 1 dX9_choose_56 rfl rfl ?_
            refine go_getI gf_RX9_124 gcf_9 gft_9_11 dX9_choose_57 (fun v20 => ?_)
            refine go_icmp_ge (tgt := 76) dX9_choose_60 (by decide) (fun h21 => ?_) (fun h21 => ?_)
            · exact go_sub [1, 2, 3, 4, 0] (hj14 x3 s0) rfl
            · refine go_iinc (v := 1) (L' := [(3, vi (x3 + 1)), (4, vi y12), (0, vr a0), (1, vi x1), (2, vi x2)]) 4 dX9_choose_76 rfl (by decide) (by decide) rfl ?_
              refine go_goto (tgt := 12) dX9_choose_79 (by decide) ?_
              exact go_sub [2, 3, 4, 0] (ih (x3 + 1) s0) rfl
      · exact go_retv rfl dX9_choose_82
    · exact go_retv rfl dX9_choose_82
def fX9_choose (a0 : Nat) (x1 : Int32) (x2 : Int32) (s0 : gH) : Option (Unit × gH) :=
  (spI s0 a0 9 10 (-1)).bind fun s1 =>
  (spI s1 a0 9 11 (-1)).bind fun s2 =>
  gX9_choose_L12
    a0 x1 x2 20000 0 s2
set_option maxRecDepth 100000 in
set_option maxHeartbeats 4000000 in
theorem wX9_choose {X : Nat × (Nat → Int32)} {d : Nat} (hd : 1 ≤ d) {a0 : Nat} {x1 : Int32} {x2 : Int32} {s0 : gH} : gGo X rvU mX9_choose d 0 [(0, vr a0), (1, vi x1), (2, vi x2)] [] s0 (fX9_choose a0 x1 x2 s0) := by
  unfold fX9_choose
  refine go_aload_n 0 dX9_choose_0 rfl rfl ?_
  refine go_iconst (v := -1) dX9_choose_1 (by decide) ?_
  refine go_putI gf_RX9_121 gcf_9 gpl_9_10 gft_9_10 dX9_choose_2 (fun s1 _ => ?_)
  refine go_aload_n 0 dX9_choose_5 rfl rfl ?_
  refine go_iconst (v := -1) dX9_choose_6 (by decide) ?_
  refine go_putI gf_RX9_124 gcf_9 gpl_9_11 gft_9_11 dX9_choose_7 (fun s2 _ => ?_)
  refine go_iconst (v := 0) dX9_choose_10 (by decide) ?_
  refine go_istore_n (L' := [(3, vi 0), (0, vr a0), (1, vi x1), (2, vi x2)]) dX9_choose_11 rfl (by decide) rfl ?_
  refine go_sub [1, 2, 3, 0] (wX9_choose_L12 hd a0 x1 x2 20000 0 s2) rfl
set_option maxRecDepth 100000 in
set_option maxHeartbeats 4000000 in
theorem cX9_choose_c {d : Nat} (hd : 1 ≤ d) {a0 : Nat} {x1 : Int32} {x2 : Int32} {s0 : gH} {r : Unit} {s1 : gH} (h : fX9_choose a0 x1 x2 s0 = some (r, s1)) : gMt mX9_choose d [vr a0, vi x1, vi x2] s0 none s1 :=
  gMt_of (rv := rvU) (by decide +kernel) (Nat.le_of_ble_eq_true rfl) rfl (fun _ => wX9_choose hd) h
def gX9_workOut_L65 (k117 : gH → Option (Unit × gH)) (a0 : Nat) (x2 : Int32) (x3 : Int32) : Nat → Int32 → gH → Option (Unit × gH)
  | 0, _, _ => none
  | n + 1, x4, s0 =>
    if 60 < x4 then
      k117 s0
    else
      (ggR s0 a0 9 0).bind fun v24 =>
      (ggR s0 a0 9 6).bind fun v25 =>
      (ggR s0 a0 9 1).bind fun v26 =>
      gb2 (gcv s0 v24 3 (fX3_fill v24 v25 x4 v26 s0)) fun r27 s28 =>
      gb2 (gcv s28 a0 9 (fX9_isSo a0 s28)) fun r29 s30 =>
      if r29 = 0 then
        gX9_workOut_L65 k117 a0 x2 x3 n (x4 + 1) s30
      else
        (ggR s30 a0 9 5).bind fun v32 =>
        gb2 (gcv s30 v32 7 (fX7_append v32 x4 s30)) fun r33 s34 =>
        gb2 (gcv s34 a0 9 (fX9_countYear a0 x2 x3 s34)) fun r35 s36 =>
        gX9_workOut_L65 k117 a0 x2 x3 n (x4 + 1) s36
set_option maxRecDepth 100000 in
set_option maxHeartbeats 4000000 in
theorem wX9_workOut_L65 {X : Nat × (Nat → Int32)} {d : Nat} (hd : 5 ≤ d) (k117 : gH → Option (Unit × gH)) (a0 : Nat) (x2 : Int32) (x3 : Int32) (hk117 : ∀ (s : gH), gGo X rvU mX9_workOut d 117 [(0, vr a0), (2, vi x2), (3, vi x3)] [] s (k117 s)) : ∀ (n : Nat) (x4 : Int32) (s0 : gH), gGo X rvU mX9_workOut d 65 [(0, vr a0), (2, vi x2), (3, vi x3), (4, vi x4)] [] s0 (gX9_workOut_L65 k117 a0 x2 x3 n x4 s0) := by
  intro n
  induction n with
  | zero => intros; exact go_none
  | succ n ih =>
    intro x4 s0
    show gGo _ _ _ _ _ _ _ _ (gX9_workOut_L65 k117 a0 x2 x3 (n + 1) x4 s0)
    unfold gX9_workOut_L65
    refine go_iload 3 dX9_workOut_65 rfl ?_
    refine go_bipush (v := 60) dX9_workOut_67 (by decide) ?_
    refine go_icmp_gt (tgt := 117) dX9_workOut_69 (by decide) (fun h23 => ?_) (fun h23 => ?_)
    · exact go_sub [0, 1, 2] (hk117 s0) rfl
    · refine go_aload_n 0 dX9_workOut_72 rfl rfl ?_
      refine go_getR gf_RX9_38 gcf_9 gft_9_0 dX9_workOut_73 (fun v24 => ?_)
      refine go_aload_n 0 dX9_workOut_76 rfl rfl ?_
      refine go_getR gf_RX9_60 gcf_9 gft_9_6 dX9_workOut_77 (fun v25 => ?_)
      refine go_iload 3 dX9_workOut_80 rfl ?_
      refine go_aload_n 0 dX9_workOut_82 rfl rfl ?_
      refine go_getR gf_RX9_12 gcf_9 gft_9_1 dX9_workOut_83 (fun v26 => ?_)
      refine go_callV_v (as := [vr v25, vi x4, vr v26]) gk_RX9_96 gmf_X3_fill (by decide) rfl (by omega) rfl rfl (Nat.le_of_ble_eq_true rfl) dX9_workOut_86 (fun _ _ h => cX3_fill_c (by omega) h) (fun r27 s28 _ => ?_)
      refine go_aload_n 0 dX9_workOut_89 rfl rfl ?_
      refine go_callV_I (as := []) gk_RX9_101 gmf_X9_isSo (by decide) rfl (by omega) rfl rfl (Nat.le_of_ble_eq_true rfl) dX9_workOut_90 (fun _ _ h => cX9_isSo_c (by omega) h) (fun r29 s30 _ => ?_)
      refine go_if_eq (tgt := 111) dX9_workOut_93 (by decide) (fun h31 => ?_) (fun h31 => ?_)
      · refine go_iinc (v := 1) (L' := [(4, vi (x4 + 1)), (0, vr a0), (2, vi x2), (3, vi x3)]) 3 dX9_workOut_111 rfl (by decide) (by decide) rfl ?_
        refine go_goto (tgt := 65) dX9_workOut_114 (by decide) ?_
        exact go_sub [1, 2, 3, 0] (ih (x4 + 1) s30) rfl
      · refine go_aload_n 0 dX9_workOut_96 rfl rfl ?_
        refine go_getR gf_RX9_34 gcf_9 gft_9_5 dX9_workOut_97 (fun v32 => ?_)
        refine go_iload 3 dX9_workOut_100 rfl ?_
        refine go_callV_v (as := [vi x4]) gk_RX9_105 gmf_X7_append (by decide) rfl (by omega) rfl rfl (Nat.le_of_ble_eq_true rfl) dX9_workOut_102 (fun _ _ h => cX7_append_c (by omega) h) (fun r33 s34 _ => ?_)
        refine go_aload_n 0 dX9_workOut_105 rfl rfl ?_
        refine go_iload_n 1 dX9_workOut_106 rfl rfl ?_
        refine go_iload_n 2 dX9_workOut_107 rfl rfl ?_
        refine go_callV_v (as := [vi x2, vi x3]) gk_RX9_108 gmf_X9_countYear (by decide) rfl (by omega) rfl rfl (Nat.le_of_ble_eq_true rfl) dX9_workOut_108 (fun _ _ h => cX9_countYear_c (by omega) h) (fun r35 s36 _ => ?_)
        refine go_iinc (v := 1) (L' := [(4, vi (x4 + 1)), (0, vr a0), (2, vi x2), (3, vi x3)]) 3 dX9_workOut_111 rfl (by decide) (by decide) rfl ?_
        refine go_goto (tgt := 65) dX9_workOut_114 (by decide) ?_
        exact go_sub [1, 2, 3, 0] (ih (x4 + 1) s36) rfl
def fX9_workOut (a0 : Nat) (s0 : gH) : Option (Unit × gH) :=
  (ggI s0 a0 9 7).bind fun v1 =>
  if v1 = 0 then
    (ggR s0 a0 9 6).bind fun v3 =>
    if v3 = 0 then
      some ((), s0)
    else
      (ggR s0 a0 9 2).bind fun v5 =>
      (gaI s0 v5 2 0).bind fun v6 =>
      gb2 (fX0_yearOf v6 s0) fun r7 s8 =>
      gb2 (fX0_firstOfYear r7 s8) fun r9 s10 =>
      (ggR s10 a0 9 4).bind fun v11 =>
      (glen s10 v11).bind fun v12 =>
      gb2 (fX0_firstOfYear (r7 + 1) s10) fun r13 s14 =>
      glet (gmin v12 (r13 - r9)) fun y15 =>
      (ggR s14 a0 9 4).bind fun v16 =>
      gb2 (fJ7_fill_53178 v16 0 s14) fun r17 s18 =>
      (ggR s18 a0 9 5).bind fun v19 =>
      gb2 (gcv s18 v19 7 (fX7_clear v19 s18)) fun r20 s21 =>
      gX9_workOut_L65
        (fun s37 =>
          (ggR s37 a0 9 5).bind fun v38 =>
          (ggI s37 v38 7 1).bind fun v39 =>
          (spI s37 a0 9 9 v39).bind fun s40 =>
          gb2 (gcv s40 a0 9 (fX9_choose a0 r9 y15 s40)) fun r41 s42 =>
          (spI s42 a0 9 7 1).bind fun s43 =>
          some ((), s43))
        a0 r9 y15 20000 1 s21
  else
    some ((), s0)
set_option maxRecDepth 100000 in
set_option maxHeartbeats 4000000 in
theorem wX9_workOut {X : Nat × (Nat → Int32)} {d : Nat} (hd : 5 ≤ d) {a0 : Nat} {s0 : gH} : gGo X rvU mX9_workOut d 0 [(0, vr a0)] [] s0 (fX9_workOut a0 s0) := by
  unfold fX9_workOut
  refine go_aload_n 0 dX9_workOut_0 rfl rfl ?_
  refine go_getI gf_RX9_71 gcf_9 gft_9_7 dX9_workOut_1 (fun v1 => ?_)
  refine go_if_ne (tgt := 14) dX9_workOut_4 (by decide) (fun h2 => ?_) (fun h2 => ?_)
  · refine go_aload_n 0 dX9_workOut_7 rfl rfl ?_
    refine go_getR gf_RX9_60 gcf_9 gft_9_6 dX9_workOut_8 (fun v3 => ?_)
    refine go_ifnonnull (tgt := 15) dX9_workOut_11 (by decide) (fun h4 => ?_) (fun h4 => ?_)
    · exact go_retv rfl dX9_workOut_14
    · refine go_aload_n 0 dX9_workOut_15 rfl rfl ?_
      refine go_getR gf_RX9_18 gcf_9 gft_9_2 dX9_workOut_16 (fun v5 => ?_)
      refine go_iconst (v := 0) dX9_workOut_19 (by decide) ?_
      refine go_iaload dX9_workOut_20 (fun v6 _ => ?_)
      refine go_callS_I (as := [vi v6]) gk_RX9_79 gmf_X0_yearOf (by omega) rfl rfl (Nat.le_of_ble_eq_true rfl) dX9_workOut_21 (fun _ _ h => cX0_yearOf_c (by omega) h) (fun r7 s8 _ => ?_)
      refine go_istore_n (L' := [(1, vi r7), (0, vr a0)]) dX9_workOut_24 rfl (by decide) rfl ?_
      refine go_iload_n 0 dX9_workOut_25 rfl rfl ?_
      refine go_callS_I (as := [vi r7]) gk_RX9_84 gmf_X0_firstOfYear (by omega) rfl rfl (Nat.le_of_ble_eq_true rfl) dX9_workOut_26 (fun _ _ h => cX0_firstOfYear_c (by omega) h) (fun r9 s10 _ => ?_)
      refine go_istore_n (L' := [(2, vi r9), (1, vi r7), (0, vr a0)]) dX9_workOut_29 rfl (by decide) rfl ?_
      refine go_aload_n 2 dX9_workOut_30 rfl rfl ?_
      refine go_getR gf_RX9_26 gcf_9 gft_9_4 dX9_workOut_31 (fun v11 => ?_)
      refine go_alen dX9_workOut_34 (fun v12 _ => ?_)
      refine go_iload_n 1 dX9_workOut_35 rfl rfl ?_
      refine go_iconst (v := 1) dX9_workOut_36 (by decide) ?_
      refine go_iadd dX9_workOut_37 ?_
      refine go_callS_I (as := [vi (r7 + 1)]) gk_RX9_84 gmf_X0_firstOfYear (by omega) rfl rfl (Nat.le_of_ble_eq_true rfl) dX9_workOut_38 (fun _ _ h => cX0_firstOfYear_c (by omega) h) (fun r13 s14 _ => ?_)
      refine go_iload_n 0 dX9_workOut_41 rfl rfl ?_
      refine go_isub dX9_workOut_42 ?_
      refine go_mmin gk_RX9_64.1 gmm_min2 gmm_3 gmm_min4 (Nat.le_of_ble_eq_true rfl) dX9_workOut_43 ?_
      refine go_istore_n_l (L' := fun y15 => [(3, vi y15), (2, vi r9), (1, vi r7), (0, vr a0)]) dX9_workOut_46 rfl (by decide) (fun _ => rfl) (fun y15 => ?_)
      refine go_aload_n 3 dX9_workOut_47 rfl rfl ?_
      refine go_getR gf_RX9_26 gcf_9 gft_9_4 dX9_workOut_48 (fun v16 => ?_)
      refine go_iconst (v := 0) dX9_workOut_51 (by decide) ?_
      refine go_callS_v (as := [vr v16, vi 0]) gk_RX9_87 gmf_J7_fill_53178 (by omega) rfl rfl (Nat.le_of_ble_eq_true rfl) dX9_workOut_52 (fun _ _ h => cJ7_fill_53178_c (by omega) h) (fun r17 s18 _ => ?_)
      refine go_aload_n 3 dX9_workOut_55 rfl rfl ?_
      refine go_getR gf_RX9_34 gcf_9 gft_9_5 dX9_workOut_56 (fun v19 => ?_)
      refine go_callV_v (as := []) gk_RX9_93 gmf_X7_clear (by decide) rfl (by omega) rfl rfl (Nat.le_of_ble_eq_true rfl) dX9_workOut_59 (fun _ _ h => cX7_clear_c (by omega) h) (fun r20 s21 _ => ?_)
      refine go_iconst (v := 1) dX9_workOut_62 (by decide) ?_
      refine go_istore (L' := [(4, vi 1), (3, vi y15), (2, vi r9), (1, vi r7), (0, vr a0)]) dX9_workOut_63 (by decide) rfl ?_
      refine go_sub [4, 2, 1, 0] (wX9_workOut_L65 hd _ a0 r9 y15 ?_ 20000 1 s21) rfl
      intro s37
      refine go_aload_n 0 dX9_workOut_117 rfl rfl ?_
      refine go_aload_n 0 dX9_workOut_118 rfl rfl ?_
      refine go_getR gf_RX9_34 gcf_9 gft_9_5 dX9_workOut_119 (fun v38 => ?_)
      refine go_getI gf_RX9_75 gcf_7 gft_7_1 dX9_workOut_122 (fun v39 => ?_)
      refine go_putI gf_RX9_112 gcf_9 gpl_9_9 gft_9_9 dX9_workOut_125 (fun s40 _ => ?_)
      refine go_aload_n 0 dX9_workOut_128 rfl rfl ?_
      refine go_iload_n 1 dX9_workOut_129 rfl rfl ?_
      refine go_iload_n 2 dX9_workOut_130 rfl rfl ?_
      refine go_callV_v (as := [vi r9, vi y15]) gk_RX9_115 gmf_X9_choose (by decide) rfl (by omega) rfl rfl (Nat.le_of_ble_eq_true rfl) dX9_workOut_131 (fun _ _ h => cX9_choose_c (by omega) h) (fun r41 s42 _ => ?_)
      refine go_aload_n 0 dX9_workOut_134 rfl rfl ?_
      refine go_iconst (v := 1) dX9_workOut_135 (by decide) ?_
      refine go_putZ gf_RX9_71 gcf_9 gpl_9_7 gft_9_7 (by decide) dX9_workOut_136 (fun s43 _ => ?_)
      exact go_retv rfl dX9_workOut_139
  · exact go_retv rfl dX9_workOut_14
set_option maxRecDepth 100000 in
set_option maxHeartbeats 4000000 in
theorem cX9_workOut_c {d : Nat} (hd : 5 ≤ d) {a0 : Nat} {s0 : gH} {r : Unit} {s1 : gH} (h : fX9_workOut a0 s0 = some (r, s1)) : gMt mX9_workOut d [vr a0] s0 none s1 :=
  gMt_of (rv := rvU) (by decide +kernel) (Nat.le_of_ble_eq_true rfl) rfl (fun _ => wX9_workOut hd) h
def fX9_fitAt (a0 : Nat) (x1 : Int32) (s0 : gH) : Option (Int32 × gH) :=
  if x1 < 0 then
    some (-1, s0)
  else
    (ggR s0 a0 9 5).bind fun v2 =>
    (ggI s0 v2 7 1).bind fun v3 =>
    if x1 < v3 then
      (ggR s0 a0 9 5).bind fun v5 =>
      gb2 (gcv s0 v5 7 (fX7_valueAt v5 x1 s0)) fun r6 s7 =>
      some (r6, s7)
    else
      some (-1, s0)
set_option maxRecDepth 100000 in
set_option maxHeartbeats 4000000 in
theorem wX9_fitAt {X : Nat × (Nat → Int32)} {d : Nat} (hd : 1 ≤ d) {a0 : Nat} {x1 : Int32} {s0 : gH} : gGo X rvI mX9_fitAt d 0 [(0, vr a0), (1, vi x1)] [] s0 (fX9_fitAt a0 x1 s0) := by
  unfold fX9_fitAt
  refine go_iload_n 1 dX9_fitAt_0 rfl rfl ?_
  refine go_if_lt (tgt := 15) dX9_fitAt_1 (by decide) (fun h1 => ?_) (fun h1 => ?_)
  · refine go_iconst (v := -1) dX9_fitAt_15 (by decide) ?_
    refine go_goto (tgt := 27) dX9_fitAt_16 (by decide) ?_
    exact go_ret rfl dX9_fitAt_27
  · refine go_iload_n 1 dX9_fitAt_4 rfl rfl ?_
    refine go_aload_n 0 dX9_fitAt_5 rfl rfl ?_
    refine go_getR gf_RX9_34 gcf_9 gft_9_5 dX9_fitAt_6 (fun v2 => ?_)
    refine go_getI gf_RX9_75 gcf_7 gft_7_1 dX9_fitAt_9 (fun v3 => ?_)
    refine go_icmp_lt (tgt := 19) dX9_fitAt_12 (by decide) (fun h4 => ?_) (fun h4 => ?_)
    · refine go_aload_n 0 dX9_fitAt_19 rfl rfl ?_
      refine go_getR gf_RX9_34 gcf_9 gft_9_5 dX9_fitAt_20 (fun v5 => ?_)
      refine go_iload_n 1 dX9_fitAt_23 rfl rfl ?_
      refine go_callV_I (as := [vi x1]) gk_RX9_76 gmf_X7_valueAt (by decide) rfl (by omega) rfl rfl (Nat.le_of_ble_eq_true rfl) dX9_fitAt_24 (fun _ _ h => cX7_valueAt_c (by omega) h) (fun r6 s7 _ => ?_)
      exact go_ret rfl dX9_fitAt_27
    · refine go_iconst (v := -1) dX9_fitAt_15 (by decide) ?_
      refine go_goto (tgt := 27) dX9_fitAt_16 (by decide) ?_
      exact go_ret rfl dX9_fitAt_27
set_option maxRecDepth 100000 in
set_option maxHeartbeats 4000000 in
theorem cX9_fitAt_c {d : Nat} (hd : 1 ≤ d) {a0 : Nat} {x1 : Int32} {s0 : gH} {r : Int32} {s1 : gH} (h : fX9_fitAt a0 x1 s0 = some (r, s1)) : gMt mX9_fitAt d [vr a0, vi x1] s0 (some (vi r)) s1 :=
  gMt_of (rv := rvI) (by decide +kernel) (Nat.le_of_ble_eq_true rfl) ⟨_, rfl, rfl⟩ (fun _ => wX9_fitAt hd) h
def fX11_fits (a0 : Nat) (x1 : Int32) (s0 : gH) : Option (Int32 × gH) :=
  (ggR s0 a0 11 5).bind fun v1 =>
  (ggI s0 v1 9 8).bind fun v2 =>
  if v2 = 0 then
    some (-1, s0)
  else
    (ggR s0 a0 11 5).bind fun v4 =>
    gb2 (gcv s0 v4 9 (fX9_workOut v4 s0)) fun r5 s6 =>
    if x1 = -1 then
      (ggR s6 a0 11 5).bind fun v8 =>
      (ggI s6 v8 9 9).bind fun v9 =>
      some (v9, s6)
    else
      (ggR s6 a0 11 5).bind fun v10 =>
      gb2 (gcv s6 v10 9 (fX9_fitAt v10 x1 s6)) fun r11 s12 =>
      some (r11, s12)
set_option maxRecDepth 100000 in
set_option maxHeartbeats 4000000 in
theorem wX11_fits {X : Nat × (Nat → Int32)} {d : Nat} (hd : 6 ≤ d) {a0 : Nat} {x1 : Int32} {s0 : gH} : gGo X rvI mX11_fits d 0 [(0, vr a0), (1, vi x1)] [] s0 (fX11_fits a0 x1 s0) := by
  unfold fX11_fits
  refine go_aload_n 0 dX11_fits_0 rfl rfl ?_
  refine go_getR gf_RX11_49 gcf_11 gft_11_5 dX11_fits_1 (fun v1 => ?_)
  refine go_getI gf_RX11_113 gcf_9 gft_9_8 dX11_fits_4 (fun v2 => ?_)
  refine go_if_ne (tgt := 12) dX11_fits_7 (by decide) (fun h3 => ?_) (fun h3 => ?_)
  · refine go_iconst (v := -1) dX11_fits_10 (by decide) ?_
    exact go_ret rfl dX11_fits_11
  · refine go_aload_n 0 dX11_fits_12 rfl rfl ?_
    refine go_getR gf_RX11_49 gcf_11 gft_11_5 dX11_fits_13 (fun v4 => ?_)
    refine go_callV_v (as := []) gk_RX11_207 gmf_X9_workOut (by decide) rfl (by omega) rfl rfl (Nat.le_of_ble_eq_true rfl) dX11_fits_16 (fun _ _ h => cX9_workOut_c (by omega) h) (fun r5 s6 _ => ?_)
    refine go_iload_n 1 dX11_fits_19 rfl rfl ?_
    refine go_iconst (v := -1) dX11_fits_20 (by decide) ?_
    refine go_icmp_ne (tgt := 34) dX11_fits_21 (by decide) (fun h7 => ?_) (fun h7 => ?_)
    · refine go_aload_n 0 dX11_fits_24 rfl rfl ?_
      refine go_getR gf_RX11_49 gcf_11 gft_11_5 dX11_fits_25 (fun v8 => ?_)
      refine go_getI gf_RX11_210 gcf_9 gft_9_9 dX11_fits_28 (fun v9 => ?_)
      refine go_goto (tgt := 42) dX11_fits_31 (by decide) ?_
      exact go_ret rfl dX11_fits_42
    · refine go_aload_n 0 dX11_fits_34 rfl rfl ?_
      refine go_getR gf_RX11_49 gcf_11 gft_11_5 dX11_fits_35 (fun v10 => ?_)
      refine go_iload_n 1 dX11_fits_38 rfl rfl ?_
      refine go_callV_I (as := [vi x1]) gk_RX11_213 gmf_X9_fitAt (by decide) rfl (by omega) rfl rfl (Nat.le_of_ble_eq_true rfl) dX11_fits_39 (fun _ _ h => cX9_fitAt_c (by omega) h) (fun r11 s12 _ => ?_)
      exact go_ret rfl dX11_fits_42
set_option maxRecDepth 100000 in
set_option maxHeartbeats 4000000 in
theorem cX11_fits_c {d : Nat} (hd : 6 ≤ d) {a0 : Nat} {x1 : Int32} {s0 : gH} {r : Int32} {s1 : gH} (h : fX11_fits a0 x1 s0 = some (r, s1)) : gMt mX11_fits d [vr a0, vi x1] s0 (some (vi r)) s1 :=
  gMt_of (rv := rvI) (by decide +kernel) (Nat.le_of_ble_eq_true rfl) ⟨_, rfl, rfl⟩ (fun _ => wX11_fits hd) h
