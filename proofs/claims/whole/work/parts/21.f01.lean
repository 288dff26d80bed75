/-! walks, written by a program -/
def gX8_countsInYear (a0 : Nat) (a1 : Nat) (s0 : gH) : Option (Int32 × gH) :=
  (ggR s0 a0 8 13).bind fun v1 =>
  (ggI s0 v1 7 1).bind fun v2 =>
  if 0 < v2 then
    (ggI s0 a1 0 4).bind fun v4 =>
    (ggI s0 a1 0 6).bind fun v5 =>
    (ggI s0 a1 0 7).bind fun v6 =>
    gb2 (gcv s0 a0 8 (fX8_placeTold a0 v4 v5 v6 s0)) fun r7 s8 =>
    some (r7, s8)
  else
    (ggI s0 a1 0 2).bind fun v9 =>
    (ggI s0 a0 8 3).bind fun v10 =>
    if v9 = v10 then
      (ggI s0 a1 0 3).bind fun v12 =>
      (ggI s0 a0 8 4).bind fun v13 =>
      if v12 = v13 then
        some (1, s0)
      else
        some (0, s0)
    else
      some (0, s0)
def fX8_countsInYear (a0 : Nat) (a1 : Nat) (s0 : gH) : Option (Int32 × gH) := gzr (gX8_countsInYear a0 a1 s0)
set_option maxRecDepth 100000 in
set_option maxHeartbeats 4000000 in
theorem wX8_countsInYear {X : Nat × (Nat → Int32)} {d : Nat} (hd : 1 ≤ d) {a0 : Nat} {a1 : Nat} {s0 : gH} : gGo X rvI mX8_countsInYear d 0 [(0, vr a0), (1, vr a1)] [] s0 (gX8_countsInYear a0 a1 s0) := by
  unfold gX8_countsInYear
  refine go_aload_n 0 dX8_countsInYear_0 rfl rfl ?_
  refine go_getR gf_RX8_14 gcf_8 gft_8_13 dX8_countsInYear_1 (fun v1 => ?_)
  refine go_getI gf_RX8_76 gcf_7 gft_7_1 dX8_countsInYear_4 (fun v2 => ?_)
  refine go_if_le (tgt := 27) dX8_countsInYear_7 (by decide) (fun h3 => ?_) (fun h3 => ?_)
  · refine go_aload_n 0 dX8_countsInYear_10 rfl rfl ?_
    refine go_aload_n 1 dX8_countsInYear_11 rfl rfl ?_
    refine go_getI gf_RX8_105 gcf_0 gft_0_4 dX8_countsInYear_12 (fun v4 => ?_)
    refine go_aload_n 1 dX8_countsInYear_15 rfl rfl ?_
    refine go_getI gf_RX8_124 gcf_0 gft_0_6 dX8_countsInYear_16 (fun v5 => ?_)
    refine go_aload_n 1 dX8_countsInYear_19 rfl rfl ?_
    refine go_getI gf_RX8_127 gcf_0 gft_0_7 dX8_countsInYear_20 (fun v6 => ?_)
    refine go_callV_I (as := [vi v4, vi v5, vi v6]) gk_RX8_120 gmf_X8_placeTold (by decide) rfl (by omega) rfl rfl (Nat.le_of_ble_eq_true rfl) dX8_countsInYear_23 (fun _ _ h => cX8_placeTold_c (by omega) h) (fun r7 s8 _ => ?_)
    exact go_ret rfl dX8_countsInYear_26
  · refine go_aload_n 1 dX8_countsInYear_27 rfl rfl ?_
    refine go_getI gf_RX8_95 gcf_0 gft_0_2 dX8_countsInYear_28 (fun v9 => ?_)
    refine go_aload_n 0 dX8_countsInYear_31 rfl rfl ?_
    refine go_getI gf_RX8_60 gcf_8 gft_8_3 dX8_countsInYear_32 (fun v10 => ?_)
    refine go_icmp_ne (tgt := 53) dX8_countsInYear_35 (by decide) (fun h11 => ?_) (fun h11 => ?_)
    · refine go_aload_n 1 dX8_countsInYear_38 rfl rfl ?_
      refine go_getI gf_RX8_114 gcf_0 gft_0_3 dX8_countsInYear_39 (fun v12 => ?_)
      refine go_aload_n 0 dX8_countsInYear_42 rfl rfl ?_
      refine go_getI gf_RX8_67 gcf_8 gft_8_4 dX8_countsInYear_43 (fun v13 => ?_)
      refine go_icmp_ne (tgt := 53) dX8_countsInYear_46 (by decide) (fun h14 => ?_) (fun h14 => ?_)
      · refine go_iconst (v := 1) dX8_countsInYear_49 (by decide) ?_
        refine go_goto (tgt := 54) dX8_countsInYear_50 (by decide) ?_
        exact go_ret rfl dX8_countsInYear_54
      · refine go_iconst (v := 0) dX8_countsInYear_53 (by decide) ?_
        exact go_ret rfl dX8_countsInYear_54
    · refine go_iconst (v := 0) dX8_countsInYear_53 (by decide) ?_
      exact go_ret rfl dX8_countsInYear_54
set_option maxRecDepth 100000 in
set_option maxHeartbeats 4000000 in
theorem cX8_countsInYear_c {d : Nat} (hd : 1 ≤ d) {a0 : Nat} {a1 : Nat} {s0 : gH} {r : Int32} {s1 : gH} (h : fX8_countsInYear a0 a1 s0 = some (r, s1)) : gMt mX8_countsInYear d [vr a0, vr a1] s0 (some (vi r)) s1 := by
  obtain ⟨h1, h2⟩ := gzr_some h
  exact gMt_of (rv := rvI) (by decide +kernel) (Nat.le_of_ble_eq_true rfl) ⟨_, rfl, gnarZ h2⟩ (fun _ => wX8_countsInYear hd) h1
def gX8_counts (a0 : Nat) (a1 : Nat) (s0 : gH) : Option (Int32 × gH) :=
  (ggI s0 a0 8 8).bind fun v1 =>
  gjn (fun (s3 : gH) =>
      (ggI s3 a0 8 1).bind fun v4 =>
      if v4 = 0 then
        gb2 (gcv s3 a0 8 (fX8_dateTold a0 a1 s3)) fun r6 s7 =>
        if r6 = 0 then
          some (0, s7)
        else
          gb2 (gcv s7 a0 8 (fX8_weekdayTold a0 a1 s7)) fun r9 s10 =>
          if r9 = 0 then
            some (0, s10)
          else
            some (1, s10)
      else
        if v4 = 1 then
          gb2 (gcv s3 a0 8 (fX8_dateTold a0 a1 s3)) fun r13 s14 =>
          if r13 = 0 then
            some (0, s14)
          else
            (ggR s14 a0 8 13).bind fun v16 =>
            (ggI s14 v16 7 1).bind fun v17 =>
            if 0 < v17 then
              gb2 (gcv s14 a0 8 (fX8_weekdayTold a0 a1 s14)) fun r19 s20 =>
              if r19 = 0 then
                some (0, s20)
              else
                some (1, s20)
            else
              (ggI s14 a1 0 4).bind fun v22 =>
              (ggI s14 a0 8 5).bind fun v23 =>
              if v22 = v23 then
                some (1, s14)
              else
                some (0, s14)
        else
          if v4 = 2 then
            gb2 (gcv s3 a0 8 (fX8_countsInMonth a0 a1 s3)) fun r26 s27 =>
            some (r26, s27)
          else
            (ggI s3 a0 8 8).bind fun v28 =>
            gjn (fun (s30 : gH) =>
                gb2 (gcv s30 a0 8 (fX8_countsInMonth a0 a1 s30)) fun r31 s32 =>
                some (r31, s32)
            ) fun j29 =>
            if v28 = 0 then
              (ggI s3 a0 8 12).bind fun v34 =>
              if 0 < v34 then
                j29 s3
              else
                gb2 (gcv s3 a0 8 (fX8_countsInYear a0 a1 s3)) fun r36 s37 =>
                some (r36, s37)
            else
              j29 s3
  ) fun j2 =>
  if v1 = 0 then
    j2 s0
  else
    (ggI s0 a0 8 8).bind fun v39 =>
    (ggI s0 a1 0 2).bind fun v40 =>
    if (v39 >>> (v40 &&& 31)) &&& 1 = 0 then
      some (0, s0)
    else
      j2 s0
def fX8_counts (a0 : Nat) (a1 : Nat) (s0 : gH) : Option (Int32 × gH) := gzr (gX8_counts a0 a1 s0)
set_option maxRecDepth 100000 in
set_option maxHeartbeats 4000000 in
theorem wX8_counts {X : Nat × (Nat → Int32)} {d : Nat} (hd : 2 ≤ d) {a0 : Nat} {a1 : Nat} {s0 : gH} : gGo X rvI mX8_counts d 0 [(0, vr a0), (1, vr a1)] [] s0 (gX8_counts a0 a1 s0) := by
  unfold gX8_counts
  refine go_aload_n 0 dX8_counts_0 rfl rfl ?_
  refine go_getI gf_RX8_23 gcf_8 gft_8_8 dX8_counts_1 (fun v1 => ?_)
  refine go_gjn (P := fun j2 => ∀ (s3 : gH), gGo X rvI mX8_counts d 23 [(0, vr a0), (1, vr a1)] [] s3 (j2 s3)) (fun s3 => ?_) (fun j2 hj2 => ?_)
  · refine go_aload_n 0 dX8_counts_23 rfl rfl ?_
    refine go_getI gf_RX8_89 gcf_8 gft_8_1 dX8_counts_24 (fun v4 => ?_)
    refine go_ite (fun h5 => ?_) (fun h5 => ?_)
    · refine go_tsIn (v := 0) (off := 25) (tgt := 52) dX8_counts_27 h5 (by decide) (by decide) (by decide) (by decide) ?_
      refine go_aload_n 0 dX8_counts_52 rfl rfl ?_
      refine go_aload_n 1 dX8_counts_53 rfl rfl ?_
      refine go_callV_I (as := [vr a1]) gk_RX8_98 gmf_X8_dateTold (by decide) rfl (by omega) rfl rfl (Nat.le_of_ble_eq_true rfl) dX8_counts_54 (fun _ _ h => cX8_dateTold_c (by omega) h) (fun r6 s7 _ => ?_)
      refine go_if_eq (tgt := 72) dX8_counts_57 (by decide) (fun h8 => ?_) (fun h8 => ?_)
      · refine go_iconst (v := 0) dX8_counts_72 (by decide) ?_
        exact go_ret rfl dX8_counts_73
      · refine go_aload_n 0 dX8_counts_60 rfl rfl ?_
        refine go_aload_n 1 dX8_counts_61 rfl rfl ?_
        refine go_callV_I (as := [vr a1]) gk_RX8_102 gmf_X8_weekdayTold (by decide) rfl (by omega) rfl rfl (Nat.le_of_ble_eq_true rfl) dX8_counts_62 (fun _ _ h => cX8_weekdayTold_c (by omega) h) (fun r9 s10 _ => ?_)
        refine go_if_eq (tgt := 72) dX8_counts_65 (by decide) (fun h11 => ?_) (fun h11 => ?_)
        · refine go_iconst (v := 0) dX8_counts_72 (by decide) ?_
          exact go_ret rfl dX8_counts_73
        · refine go_iconst (v := 1) dX8_counts_68 (by decide) ?_
          refine go_goto (tgt := 73) dX8_counts_69 (by decide) ?_
          exact go_ret rfl dX8_counts_73
    · refine go_ite (fun h12 => ?_) (fun h12 => ?_)
      · refine go_tsIn (v := 1) (off := 47) (tgt := 74) dX8_counts_27 h12 (by decide) (by decide) (by decide) (by decide) ?_
        refine go_aload_n 0 dX8_counts_74 rfl rfl ?_
        refine go_aload_n 1 dX8_counts_75 rfl rfl ?_
        refine go_callV_I (as := [vr a1]) gk_RX8_98 gmf_X8_dateTold (by decide) rfl (by omega) rfl rfl (Nat.le_of_ble_eq_true rfl) dX8_counts_76 (fun _ _ h => cX8_dateTold_c (by omega) h) (fun r13 s14 _ => ?_)
        refine go_if_eq (tgt := 118) dX8_counts_79 (by decide) (fun h15 => ?_) (fun h15 => ?_)
        · refine go_iconst (v := 0) dX8_counts_118 (by decide) ?_
          exact go_ret rfl dX8_counts_119
        · refine go_aload_n 0 dX8_counts_82 rfl rfl ?_
          refine go_getR gf_RX8_14 gcf_8 gft_8_13 dX8_counts_83 (fun v16 => ?_)
          refine go_getI gf_RX8_76 gcf_7 gft_7_1 dX8_counts_86 (fun v17 => ?_)
          refine go_if_le (tgt := 103) dX8_counts_89 (by decide) (fun h18 => ?_) (fun h18 => ?_)
          · refine go_aload_n 0 dX8_counts_92 rfl rfl ?_
            refine go_aload_n 1 dX8_counts_93 rfl rfl ?_
            refine go_callV_I (as := [vr a1]) gk_RX8_102 gmf_X8_weekdayTold (by decide) rfl (by omega) rfl rfl (Nat.le_of_ble_eq_true rfl) dX8_counts_94 (fun _ _ h => cX8_weekdayTold_c (by omega) h) (fun r19 s20 _ => ?_)
            refine go_if_eq (tgt := 118) dX8_counts_97 (by decide) (fun h21 => ?_) (fun h21 => ?_)
            · refine go_iconst (v := 0) dX8_counts_118 (by decide) ?_
              exact go_ret rfl dX8_counts_119
            · refine go_goto (tgt := 114) dX8_counts_100 (by decide) ?_
              refine go_iconst (v := 1) dX8_counts_114 (by decide) ?_
              refine go_goto (tgt := 119) dX8_counts_115 (by decide) ?_
              exact go_ret rfl dX8_counts_119
          · refine go_aload_n 1 dX8_counts_103 rfl rfl ?_
            refine go_getI gf_RX8_105 gcf_0 gft_0_4 dX8_counts_104 (fun v22 => ?_)
            refine go_aload_n 0 dX8_counts_107 rfl rfl ?_
            refine go_getI gf_RX8_73 gcf_8 gft_8_5 dX8_counts_108 (fun v23 => ?_)
            refine go_icmp_ne (tgt := 118) dX8_counts_111 (by decide) (fun h24 => ?_) (fun h24 => ?_)
            · refine go_iconst (v := 1) dX8_counts_114 (by decide) ?_
              refine go_goto (tgt := 119) dX8_counts_115 (by decide) ?_
              exact go_ret rfl dX8_counts_119
            · refine go_iconst (v := 0) dX8_counts_118 (by decide) ?_
              exact go_ret rfl dX8_counts_119
      · refine go_ite (fun h25 => ?_) (fun h25 => ?_)
        · refine go_tsIn (v := 2) (off := 93) (tgt := 120) dX8_counts_27 h25 (by decide) (by decide) (by decide) (by decide) ?_
          refine go_aload_n 0 dX8_counts_120 rfl rfl ?_
          refine go_aload_n 1 dX8_counts_121 rfl rfl ?_
          refine go_callV_I (as := [vr a1]) gk_RX8_108 gmf_X8_countsInMonth (by decide) rfl (by omega) rfl rfl (Nat.le_of_ble_eq_true rfl) dX8_counts_122 (fun _ _ h => cX8_countsInMonth_c (by omega) h) (fun r26 s27 _ => ?_)
          exact go_ret rfl dX8_counts_125
        · refine go_tsOut (tgt := 126) dX8_counts_27 (by have gh5 := gts h5 (n := 0) (by decide); have gh12 := gts h12 (n := 1) (by decide); have gh25 := gts h25 (n := 2) (by decide); omega) (by decide) ?_
          refine go_aload_n 0 dX8_counts_126 rfl rfl ?_
          refine go_getI gf_RX8_23 gcf_8 gft_8_8 dX8_counts_127 (fun v28 => ?_)
          refine go_gjn (P := fun j29 => ∀ (s30 : gH), gGo X rvI mX8_counts d 140 [(0, vr a0), (1, vr a1)] [] s30 (j29 s30)) (fun s30 => ?_) (fun j29 hj29 => ?_)
          · refine go_aload_n 0 dX8_counts_140 rfl rfl ?_
            refine go_aload_n 1 dX8_counts_141 rfl rfl ?_
            refine go_callV_I (as := [vr a1]) gk_RX8_108 gmf_X8_countsInMonth (by decide) rfl (by omega) rfl rfl (Nat.le_of_ble_eq_true rfl) dX8_counts_142 (fun _ _ h => cX8_countsInMonth_c (by omega) h) (fun r31 s32 _ => ?_)
            refine go_goto (tgt := 153) dX8_counts_145 (by decide) ?_
            exact go_ret rfl dX8_counts_153
          · refine go_if_ne (tgt := 140) dX8_counts_130 (by decide) (fun h33 => ?_) (fun h33 => ?_)
            · refine go_aload_n 0 dX8_counts_133 rfl rfl ?_
              refine go_getI gf_RX8_36 gcf_8 gft_8_12 dX8_counts_134 (fun v34 => ?_)
              refine go_if_le (tgt := 148) dX8_counts_137 (by decide) (fun h35 => ?_) (fun h35 => ?_)
              · exact go_sub [0, 1] (hj29 s3) rfl
              · refine go_aload_n 0 dX8_counts_148 rfl rfl ?_
                refine go_aload_n 1 dX8_counts_149 rfl rfl ?_
                refine go_callV_I (as := [vr a1]) gk_RX8_111 gmf_X8_countsInYear (by decide) rfl (by omega) rfl rfl (Nat.le_of_ble_eq_true rfl) dX8_counts_150 (fun _ _ h => cX8_countsInYear_c (by omega) h) (fun r36 s37 _ => ?_)
                exact go_ret rfl dX8_counts_153
            · exact go_sub [0, 1] (hj29 s3) rfl
  · refine go_if_eq (tgt := 23) dX8_counts_4 (by decide) (fun h38 => ?_) (fun h38 => ?_)
    · exact go_sub [0, 1] (hj2 s0) rfl
    · refine go_aload_n 0 dX8_counts_7 rfl rfl ?_
      refine go_getI gf_RX8_23 gcf_8 gft_8_8 dX8_counts_8 (fun v39 => ?_)
      refine go_aload_n 1 dX8_counts_11 rfl rfl ?_
      refine go_getI gf_RX8_95 gcf_0 gft_0_2 dX8_counts_12 (fun v40 => ?_)
      refine go_ishr dX8_counts_15 ?_
      refine go_iconst (v := 1) dX8_counts_16 (by decide) ?_
      refine go_iand dX8_counts_17 ?_
      refine go_if_ne (tgt := 23) dX8_counts_18 (by decide) (fun h41 => ?_) (fun h41 => ?_)
      · refine go_iconst (v := 0) dX8_counts_21 (by decide) ?_
        exact go_ret rfl dX8_counts_22
      · exact go_sub [0, 1] (hj2 s0) rfl
set_option maxRecDepth 100000 in
set_option maxHeartbeats 4000000 in
theorem cX8_counts_c {d : Nat} (hd : 2 ≤ d) {a0 : Nat} {a1 : Nat} {s0 : gH} {r : Int32} {s1 : gH} (h : fX8_counts a0 a1 s0 = some (r, s1)) : gMt mX8_counts d [vr a0, vr a1] s0 (some (vi r)) s1 := by
  obtain ⟨h1, h2⟩ := gzr_some h
  exact gMt_of (rv := rvI) (by decide +kernel) (Nat.le_of_ble_eq_true rfl) ⟨_, rfl, gnarZ h2⟩ (fun _ => wX8_counts hd) h1
def fX0_forward (a0 : Nat) (s0 : gH) : Option (Unit × gH) :=
  (ggI s0 a0 0 3).bind fun v1 =>
  (ggI s0 a0 0 5).bind fun v2 =>
  if v1 < v2 then
    (ggI s0 a0 0 0).bind fun v4 =>
    (spI s0 a0 0 0 (v4 + 1)).bind fun s5 =>
    (ggI s5 a0 0 3).bind fun v6 =>
    (spI s5 a0 0 3 (v6 + 1)).bind fun s7 =>
    (ggI s7 a0 0 6).bind fun v8 =>
    (spI s7 a0 0 6 (v8 + 1)).bind fun s9 =>
    (ggI s9 a0 0 4).bind fun v10 =>
    if v10 = 6 then
      (spI s9 a0 0 4 0).bind fun s12 =>
      some ((), s12)
    else
      (ggI s9 a0 0 4).bind fun v13 =>
      (spI s9 a0 0 4 (v13 + 1)).bind fun s14 =>
      some ((), s14)
  else
    (ggI s0 a0 0 0).bind fun v15 =>
    gb2 (gcv s0 a0 0 (fX0_moveTo a0 (v15 + 1) s0)) fun r16 s17 =>
    some ((), s17)
set_option maxRecDepth 100000 in
set_option maxHeartbeats 4000000 in
theorem wX0_forward {X : Nat × (Nat → Int32)} {d : Nat} (hd : 2 ≤ d) {a0 : Nat} {s0 : gH} : gGo X rvU mX0_forward d 0 [(0, vr a0)] [] s0 (fX0_forward a0 s0) := by
  unfold fX0_forward
  refine go_aload_n 0 dX0_forward_0 rfl rfl ?_
  refine go_getI gf_RX0_63 gcf_0 gft_0_3 dX0_forward_1 (fun v1 => ?_)
  refine go_aload_n 0 dX0_forward_4 rfl rfl ?_
  refine go_getI gf_RX0_66 gcf_0 gft_0_5 dX0_forward_5 (fun v2 => ?_)
  refine go_icmp_lt (tgt := 22) dX0_forward_8 (by decide) (fun h3 => ?_) (fun h3 => ?_)
  · refine go_aload_n 0 dX0_forward_22 rfl rfl ?_
    refine go_dup dX0_forward_23 rfl ?_
    refine go_getI gf_RX0_41 gcf_0 gft_0_0 dX0_forward_24 (fun v4 => ?_)
    refine go_iconst (v := 1) dX0_forward_27 (by decide) ?_
    refine go_iadd dX0_forward_28 ?_
    refine go_putI gf_RX0_41 gcf_0 gpl_0_0 gft_0_0 dX0_forward_29 (fun s5 _ => ?_)
    refine go_aload_n 0 dX0_forward_32 rfl rfl ?_
    refine go_dup dX0_forward_33 rfl ?_
    refine go_getI gf_RX0_63 gcf_0 gft_0_3 dX0_forward_34 (fun v6 => ?_)
    refine go_iconst (v := 1) dX0_forward_37 (by decide) ?_
    refine go_iadd dX0_forward_38 ?_
    refine go_putI gf_RX0_63 gcf_0 gpl_0_3 gft_0_3 dX0_forward_39 (fun s7 _ => ?_)
    refine go_aload_n 0 dX0_forward_42 rfl rfl ?_
    refine go_dup dX0_forward_43 rfl ?_
    refine go_getI gf_RX0_54 gcf_0 gft_0_6 dX0_forward_44 (fun v8 => ?_)
    refine go_iconst (v := 1) dX0_forward_47 (by decide) ?_
    refine go_iadd dX0_forward_48 ?_
    refine go_putI gf_RX0_54 gcf_0 gpl_0_6 gft_0_6 dX0_forward_49 (fun s9 _ => ?_)
    refine go_aload_n 0 dX0_forward_52 rfl rfl ?_
    refine go_aload_n 0 dX0_forward_53 rfl rfl ?_
    refine go_getI gf_RX0_48 gcf_0 gft_0_4 dX0_forward_54 (fun v10 => ?_)
    refine go_bipush (v := 6) dX0_forward_57 (by decide) ?_
    refine go_icmp_ne (tgt := 66) dX0_forward_59 (by decide) (fun h11 => ?_) (fun h11 => ?_)
    · refine go_iconst (v := 0) dX0_forward_62 (by decide) ?_
      refine go_goto (tgt := 72) dX0_forward_63 (by decide) ?_
      refine go_putI gf_RX0_48 gcf_0 gpl_0_4 gft_0_4 dX0_forward_72 (fun s12 _ => ?_)
      exact go_retv rfl dX0_forward_75
    · refine go_aload_n 0 dX0_forward_66 rfl rfl ?_
      refine go_getI gf_RX0_48 gcf_0 gft_0_4 dX0_forward_67 (fun v13 => ?_)
      refine go_iconst (v := 1) dX0_forward_70 (by decide) ?_
      refine go_iadd dX0_forward_71 ?_
      refine go_putI gf_RX0_48 gcf_0 gpl_0_4 gft_0_4 dX0_forward_72 (fun s14 _ => ?_)
      exact go_retv rfl dX0_forward_75
  · refine go_aload_n 0 dX0_forward_11 rfl rfl ?_
    refine go_aload_n 0 dX0_forward_12 rfl rfl ?_
    refine go_getI gf_RX0_41 gcf_0 gft_0_0 dX0_forward_13 (fun v15 => ?_)
    refine go_iconst (v := 1) dX0_forward_16 (by decide) ?_
    refine go_iadd dX0_forward_17 ?_
    refine go_callV_v (as := [vi (v15 + 1)]) gk_RX0_69 gmf_X0_moveTo (by decide) rfl (by omega) rfl rfl (Nat.le_of_ble_eq_true rfl) dX0_forward_18 (fun _ _ h => cX0_moveTo_c (by omega) h) (fun r16 s17 _ => ?_)
    exact go_retv rfl dX0_forward_21
set_option maxRecDepth 100000 in
set_option maxHeartbeats 4000000 in
theorem cX0_forward_c {d : Nat} (hd : 2 ≤ d) {a0 : Nat} {s0 : gH} {r : Unit} {s1 : gH} (h : fX0_forward a0 s0 = some (r, s1)) : gMt mX0_forward d [vr a0] s0 none s1 :=
  gMt_of (rv := rvU) (by decide +kernel) (Nat.le_of_ble_eq_true rfl) rfl (fun _ => wX0_forward hd) h
def gX3_gather_L45  (a0 : Nat) (a1 : Nat) (x4 : Int32) : Nat → Int32 → gH → Option (Unit × gH)
  | 0, _, _ => none
  | n + 1, x5, s0 =>
    if x4 < x5 then
      some ((), s0)
    else
      (ggI s0 a0 3 2).bind fun v14 =>
      (ggR s0 a0 3 1).bind fun v15 =>
      (glen s0 v15).bind fun v16 =>
      if v14 < v16 then
        (ggR s0 a0 3 0).bind fun v18 =>
        gb2 (gcv s0 a1 8 (fX8_counts a1 v18 s0)) fun r19 s20 =>
        gjn (fun (s22 : gH) =>
            (ggR s22 a0 3 0).bind fun v23 =>
            gb2 (gcv s22 v23 0 (fX0_forward v23 s22)) fun r24 s25 =>
            gX3_gather_L45 a0 a1 x4 n (x5 + 1) s25
        ) fun j21 =>
        if r19 = 0 then
          j21 s20
        else
          (ggR s20 a0 3 1).bind fun v27 =>
          (ggI s20 a0 3 2).bind fun v28 =>
          (saI s20 v27 2 v28 x5).bind fun s29 =>
          (ggI s29 a0 3 2).bind fun v30 =>
          (spI s29 a0 3 2 (v30 + 1)).bind fun s31 =>
          j21 s31
      else
        some ((), s0)
set_option maxRecDepth 100000 in
set_option maxHeartbeats 4000000 in
theorem wX3_gather_L45 {X : Nat × (Nat → Int32)} {d : Nat} (hd : 3 ≤ d)  (a0 : Nat) (a1 : Nat) (x4 : Int32) : ∀ (n : Nat) (x5 : Int32) (s0 : gH), gGo X rvU mX3_gather d 45 [(0, vr a0), (1, vr a1), (4, vi x4), (5, vi x5)] [] s0 (gX3_gather_L45 a0 a1 x4 n x5 s0) := by
  intro n
  induction n with
  | zero => intros; exact go_none
  | succ n ih =>
    intro x5 s0
    show gGo _ _ _ _ _ _ _ _ (gX3_gather_L45 a0 a1 x4 (n + 1) x5 s0)
    unfold gX3_gather_L45
    refine go_iload 3 dX3_gather_45 rfl ?_
    refine go_iload 2 dX3_gather_47 rfl ?_
    refine go_icmp_gt (tgt := 109) dX3_gather_49 (by decide) (fun h13 => ?_) (fun h13 => ?_)
    · exact go_retv rfl dX3_gather_109
    · refine go_aload_n 0 dX3_gather_52 rfl rfl ?_
      refine go_getI gf_RX3_59 gcf_3 gft_3_2 dX3_gather_53 (fun v14 => ?_)
      refine go_aload_n 0 dX3_gather_56 rfl rfl ?_
      refine go_getR gf_RX3_18 gcf_3 gft_3_1 dX3_gather_57 (fun v15 => ?_)
      refine go_alen dX3_gather_60 (fun v16 _ => ?_)
      refine go_icmp_ge (tgt := 109) dX3_gather_61 (by decide) (fun h17 => ?_) (fun h17 => ?_)
      · refine go_aload_n 1 dX3_gather_64 rfl rfl ?_
        refine go_aload_n 0 dX3_gather_65 rfl rfl ?_
        refine go_getR gf_RX3_12 gcf_3 gft_3_0 dX3_gather_66 (fun v18 => ?_)
        refine go_callV_I (as := [vr v18]) gk_RX3_62 gmf_X8_counts (by decide) rfl (by omega) rfl rfl (Nat.le_of_ble_eq_true rfl) dX3_gather_69 (fun _ _ h => cX8_counts_c (by omega) h) (fun r19 s20 _ => ?_)
        refine go_gjn (P := fun j21 => ∀ (s22 : gH), gGo X rvU mX3_gather d 96 [(0, vr a0), (1, vr a1), (4, vi x4), (5, vi x5)] [] s22 (j21 s22)) (fun s22 => ?_) (fun j21 hj21 => ?_)
        · refine go_aload_n 0 dX3_gather_96 rfl rfl ?_
          refine go_getR gf_RX3_12 gcf_3 gft_3_0 dX3_gather_97 (fun v23 => ?_)
          refine go_callV_v (as := []) gk_RX3_66 gmf_X0_forward (by decide) rfl (by omega) rfl rfl (Nat.le_of_ble_eq_true rfl) dX3_gather_100 (fun _ _ h => cX0_forward_c (by omega) h) (fun r24 s25 _ => ?_)
          refine go_iinc (v := 1) (L' := [(5, vi (x5 + 1)), (0, vr a0), (1, vr a1), (4, vi x4)]) 3 dX3_gather_103 rfl (by decide) (by decide) rfl ?_
          refine go_goto (tgt := 45) dX3_gather_106 (by decide) ?_
          exact go_sub [1, 2, 3, 0] (ih (x5 + 1) s25) rfl
        · refine go_if_eq (tgt := 96) dX3_gather_72 (by decide) (fun h26 => ?_) (fun h26 => ?_)
          · exact go_sub [0, 1, 2, 3] (hj21 s20) rfl
          · refine go_aload_n 0 dX3_gather_75 rfl rfl ?_
            refine go_getR gf_RX3_18 gcf_3 gft_3_1 dX3_gather_76 (fun v27 => ?_)
            refine go_aload_n 0 dX3_gather_79 rfl rfl ?_
            refine go_getI gf_RX3_59 gcf_3 gft_3_2 dX3_gather_80 (fun v28 => ?_)
            refine go_iload 3 dX3_gather_83 rfl ?_
            refine go_iastore dX3_gather_85 (fun s29 _ => ?_)
            refine go_aload_n 0 dX3_gather_86 rfl rfl ?_
            refine go_dup dX3_gather_87 rfl ?_
            refine go_getI gf_RX3_59 gcf_3 gft_3_2 dX3_gather_88 (fun v30 => ?_)
            refine go_iconst (v := 1) dX3_gather_91 (by decide) ?_
            refine go_iadd dX3_gather_92 ?_
            refine go_putI gf_RX3_59 gcf_3 gpl_3_2 gft_3_2 dX3_gather_93 (fun s31 _ => ?_)
            exact go_sub [0, 1, 2, 3] (hj21 s31) rfl
      · exact go_retv rfl dX3_gather_109
def fX3_gather (a0 : Nat) (a1 : Nat) (x2 : Int32) (s0 : gH) : Option (Unit × gH) :=
  (ggI s0 a1 8 1).bind fun v1 =>
  gb2 (fX0_firstOfPeriod v1 x2 s0) fun r2 s3 =>
  (ggI s3 a1 8 1).bind fun v4 =>
  gb2 (fX0_firstOfPeriod v4 (x2 + 1) s3) fun r5 s6 =>
  glet ((gmin 14610 r5) - 1) fun y7 =>
  (spI s6 a0 3 2 0).bind fun s8 =>
  (ggR s8 a0 3 0).bind fun v9 =>
  gb2 (gcv s8 v9 0 (fX0_moveTo v9 r2 s8)) fun r10 s11 =>
  gX3_gather_L45
    a0 a1 y7 20000 r2 s11
set_option maxRecDepth 100000 in
set_option maxHeartbeats 4000000 in
theorem wX3_gather {X : Nat × (Nat → Int32)} {d : Nat} (hd : 3 ≤ d) {a0 : Nat} {a1 : Nat} {x2 : Int32} {s0 : gH} : gGo X rvU mX3_gather d 0 [(0, vr a0), (1, vr a1), (2, vi x2)] [] s0 (fX3_gather a0 a1 x2 s0) := by
  unfold fX3_gather
  refine go_aload_n 1 dX3_gather_0 rfl rfl ?_
  refine go_getI gf_RX3_45 gcf_8 gft_8_1 dX3_gather_1 (fun v1 => ?_)
  refine go_iload_n 2 dX3_gather_4 rfl rfl ?_
  refine go_callS_I (as := [vi v1, vi x2]) gk_RX3_50 gmf_X0_firstOfPeriod (by omega) rfl rfl (Nat.le_of_ble_eq_true rfl) dX3_gather_5 (fun _ _ h => cX0_firstOfPeriod_c (by omega) h) (fun r2 s3 _ => ?_)
  refine go_istore_n (L' := [(3, vi r2), (0, vr a0), (1, vr a1), (2, vi x2)]) dX3_gather_8 rfl (by decide) rfl ?_
  refine go_sipush (v := 14610) dX3_gather_9 (by decide) ?_
  refine go_aload_n 2 dX3_gather_12 rfl rfl ?_
  refine go_getI gf_RX3_45 gcf_8 gft_8_1 dX3_gather_13 (fun v4 => ?_)
  refine go_iload_n 3 dX3_gather_16 rfl rfl ?_
  refine go_iconst (v := 1) dX3_gather_17 (by decide) ?_
  refine go_iadd dX3_gather_18 ?_
  refine go_callS_I (as := [vi v4, vi (x2 + 1)]) gk_RX3_50 gmf_X0_firstOfPeriod (by omega) rfl rfl (Nat.le_of_ble_eq_true rfl) dX3_gather_19 (fun _ _ h => cX0_firstOfPeriod_c (by omega) h) (fun r5 s6 _ => ?_)
  refine go_mmin gk_RX3_54.1 gmm_min2 gmm_3 gmm_min4 (Nat.le_of_ble_eq_true rfl) dX3_gather_22 ?_
  refine go_iconst (v := 1) dX3_gather_25 (by decide) ?_
  refine go_isub dX3_gather_26 ?_
  refine go_istore_l (L' := fun y7 => [(4, vi y7), (3, vi r2), (0, vr a0), (1, vr a1), (2, vi x2)]) dX3_gather_27 (by decide) (fun _ => rfl) (fun y7 => ?_)
  refine go_aload_n 2 dX3_gather_29 rfl rfl ?_
  refine go_iconst (v := 0) dX3_gather_30 (by decide) ?_
  refine go_putI gf_RX3_59 gcf_3 gpl_3_2 gft_3_2 dX3_gather_31 (fun s8 _ => ?_)
  refine go_aload_n 2 dX3_gather_34 rfl rfl ?_
  refine go_getR gf_RX3_12 gcf_3 gft_3_0 dX3_gather_35 (fun v9 => ?_)
  refine go_iload_n 1 dX3_gather_38 rfl rfl ?_
  refine go_callV_v (as := [vi r2]) gk_RX3_22 gmf_X0_moveTo (by decide) rfl (by omega) rfl rfl (Nat.le_of_ble_eq_true rfl) dX3_gather_39 (fun _ _ h => cX0_moveTo_c (by omega) h) (fun r10 s11 _ => ?_)
  refine go_iload_n 1 dX3_gather_42 rfl rfl ?_
  refine go_istore (L' := [(5, vi r2), (4, vi y7), (3, vi r2), (0, vr a0), (1, vr a1), (2, vi x2)]) dX3_gather_43 (by decide) rfl ?_
  refine go_sub [3, 4, 1, 0] (wX3_gather_L45 hd a0 a1 y7 20000 r2 s11) rfl
set_option maxRecDepth 100000 in
set_option maxHeartbeats 4000000 in
theorem cX3_gather_c {d : Nat} (hd : 3 ≤ d) {a0 : Nat} {a1 : Nat} {x2 : Int32} {s0 : gH} {r : Unit} {s1 : gH} (h : fX3_gather a0 a1 x2 s0 = some (r, s1)) : gMt mX3_gather d [vr a0, vr a1, vi x2] s0 none s1 :=
  gMt_of (rv := rvU) (by decide +kernel) (Nat.le_of_ble_eq_true rfl) rfl (fun _ => wX3_gather hd) h
def gX7_indexOf_L2  (a0 : Nat) (x1 : Int32) : Nat → Int32 → gH → Option (Int32 × gH)
  | 0, _, _ => none
  | n + 1, x2, s0 =>
    (ggI s0 a0 7 1).bind fun v2 =>
    if x2 < v2 then
      (ggR s0 a0 7 0).bind fun v4 =>
      (glen s0 v4).bind fun v5 =>
      if x2 < v5 then
        (ggR s0 a0 7 0).bind fun v7 =>
        (gaI s0 v7 2 x2).bind fun v8 =>
        if v8 = x1 then
          some (x2, s0)
        else
          gX7_indexOf_L2 a0 x1 n (x2 + 1) s0
      else
        some (-1, s0)
    else
      some (-1, s0)
set_option maxRecDepth 100000 in
set_option maxHeartbeats 4000000 in
theorem wX7_indexOf_L2 {X : Nat × (Nat → Int32)} {d : Nat} (hd : 0 ≤ d)  (a0 : Nat) (x1 : Int32) : ∀ (n : Nat) (x2 : Int32) (s0 : gH), gGo X rvI mX7_indexOf d 2 [(0, vr a0), (1, vi x1), (2, vi x2)] [] s0 (gX7_indexOf_L2 a0 x1 n x2 s0) := by
  intro n
  induction n with
  | zero => intros; exact go_none
  | succ n ih =>
    intro x2 s0
    show gGo _ _ _ _ _ _ _ _ (gX7_indexOf_L2 a0 x1 (n + 1) x2 s0)
    unfold gX7_indexOf_L2
    refine go_iload_n 2 dX7_indexOf_2 rfl rfl ?_
    refine go_aload_n 0 dX7_indexOf_3 rfl rfl ?_
    refine go_getI gf_RX7_21 gcf_7 gft_7_1 dX7_indexOf_4 (fun v2 => ?_)
    refine go_icmp_ge (tgt := 37) dX7_indexOf_7 (by decide) (fun h3 => ?_) (fun h3 => ?_)
    · refine go_iload_n 2 dX7_indexOf_10 rfl rfl ?_
      refine go_aload_n 0 dX7_indexOf_11 rfl rfl ?_
      refine go_getR gf_RX7_15 gcf_7 gft_7_0 dX7_indexOf_12 (fun v4 => ?_)
      refine go_alen dX7_indexOf_15 (fun v5 _ => ?_)
      refine go_icmp_ge (tgt := 37) dX7_indexOf_16 (by decide) (fun h6 => ?_) (fun h6 => ?_)
      · refine go_aload_n 0 dX7_indexOf_19 rfl rfl ?_
        refine go_getR gf_RX7_15 gcf_7 gft_7_0 dX7_indexOf_20 (fun v7 => ?_)
        refine go_iload_n 2 dX7_indexOf_23 rfl rfl ?_
        refine go_iaload dX7_indexOf_24 (fun v8 _ => ?_)
        refine go_iload_n 1 dX7_indexOf_25 rfl rfl ?_
        refine go_icmp_ne (tgt := 31) dX7_indexOf_26 (by decide) (fun h9 => ?_) (fun h9 => ?_)
        · refine go_iload_n 2 dX7_indexOf_29 rfl rfl ?_
          exact go_ret rfl dX7_indexOf_30
        · refine go_iinc (v := 1) (L' := [(2, vi (x2 + 1)), (0, vr a0), (1, vi x1)]) 2 dX7_indexOf_31 rfl (by decide) (by decide) rfl ?_
          refine go_goto (tgt := 2) dX7_indexOf_34 (by decide) ?_
          exact go_sub [1, 2, 0] (ih (x2 + 1) s0) rfl
      · refine go_iconst (v := -1) dX7_indexOf_37 (by decide) ?_
        exact go_ret rfl dX7_indexOf_38
    · refine go_iconst (v := -1) dX7_indexOf_37 (by decide) ?_
      exact go_ret rfl dX7_indexOf_38
def fX7_indexOf (a0 : Nat) (x1 : Int32) (s0 : gH) : Option (Int32 × gH) :=
  gX7_indexOf_L2
    a0 x1 20000 0 s0
set_option maxRecDepth 100000 in
set_option maxHeartbeats 4000000 in
theorem wX7_indexOf {X : Nat × (Nat → Int32)} {d : Nat} (hd : 0 ≤ d) {a0 : Nat} {x1 : Int32} {s0 : gH} : gGo X rvI mX7_indexOf d 0 [(0, vr a0), (1, vi x1)] [] s0 (fX7_indexOf a0 x1 s0) := by
  unfold fX7_indexOf
  refine go_iconst (v := 0) dX7_indexOf_0 (by decide) ?_
  refine go_istore_n (L' := [(2, vi 0), (0, vr a0), (1, vi x1)]) dX7_indexOf_1 rfl (by decide) rfl ?_
  refine go_sub [1, 2, 0] (wX7_indexOf_L2 hd a0 x1 20000 0 s0) rfl
set_option maxRecDepth 100000 in
set_option maxHeartbeats 4000000 in
theorem cX7_indexOf_c {d : Nat} (hd : 0 ≤ d) {a0 : Nat} {x1 : Int32} {s0 : gH} {r : Int32} {s1 : gH} (h : fX7_indexOf a0 x1 s0 = some (r, s1)) : gMt mX7_indexOf d [vr a0, vi x1] s0 (some (vi r)) s1 :=
  gMt_of (rv := rvI) (by decide +kernel) (Nat.le_of_ble_eq_true rfl) ⟨_, rfl, rfl⟩ (fun _ => wX7_indexOf hd) h
def gX3_keepPlaces_L15  (a0 : Nat) (a1 : Nat) : Nat → Int32 → Int32 → gH → Option (Unit × gH)
  | 0, _, _, _ => none
  | n + 1, x2, x3, s0 =>
    (ggI s0 a0 3 2).bind fun v5 =>
    if x3 < v5 then
      (ggR s0 a0 3 1).bind fun v7 =>
      (glen s0 v7).bind fun v8 =>
      if x3 < v8 then
        (ggR s0 a1 8 14).bind fun v10 =>
        gb2 (gcv s0 v10 7 (fX7_indexOf v10 (x3 + 1) s0)) fun r11 s12 =>
        gjn (fun (y14 : Int32) (s15 : gH) =>
            (ggR s15 a0 3 1).bind fun v16 =>
            (ggR s15 a0 3 1).bind fun v17 =>
            (gaI s15 v17 2 y14).bind fun v18 =>
            (saI s15 v16 2 x2 v18).bind fun s19 =>
            gX3_keepPlaces_L15 a0 a1 n (x2 + 1) (y14 + 1) s19
        ) fun j13 =>
        if r11 = -1 then
          (ggR s12 a1 8 14).bind fun v21 =>
          (ggI s12 a0 3 2).bind fun v22 =>
          gb2 (gcv s12 v21 7 (fX7_indexOf v21 (x3 - v22) s12)) fun r23 s24 =>
          if r23 = -1 then
            gX3_keepPlaces_L15 a0 a1 n x2 (x3 + 1) s24
          else
            j13 x3 s24
        else
          j13 x3 s12
      else
        (spI s0 a0 3 2 x2).bind fun s26 =>
        some ((), s26)
    else
      (spI s0 a0 3 2 x2).bind fun s27 =>
      some ((), s27)
set_option maxRecDepth 100000 in
set_option maxHeartbeats 4000000 in
theorem wX3_keepPlaces_L15 {X : Nat × (Nat → Int32)} {d : Nat} (hd : 1 ≤ d)  (a0 : Nat) (a1 : Nat) : ∀ (n : Nat) (x2 : Int32) (x3 : Int32) (s0 : gH), gGo X rvU mX3_keepPlaces d 15 [(0, vr a0), (1, vr a1), (2, vi x2), (3, vi x3)] [] s0 (gX3_keepPlaces_L15 a0 a1 n x2 x3 s0) := by
  intro n
  induction n with
  | zero => intros; exact go_none
  | succ n ih =>
    intro x2 x3 s0
    show gGo _ _ _ _ _ _ _ _ (gX3_keepPlaces_L15 a0 a1 (n + 1) x2 x3 s0)
    unfold gX3_keepPlaces_L15
    refine go_iload_n 3 dX3_keepPlaces_15 rfl rfl ?_
    refine go_aload_n 0 dX3_keepPlaces_16 rfl rfl ?_
    refine go_getI gf_RX3_59 gcf_3 gft_3_2 dX3_keepPlaces_17 (fun v5 => ?_)
    refine go_icmp_ge (tgt := 84) dX3_keepPlaces_20 (by decide) (fun h6 => ?_) (fun h6 => ?_)
    · refine go_iload_n 3 dX3_keepPlaces_23 rfl rfl ?_
      refine go_aload_n 0 dX3_keepPlaces_24 rfl rfl ?_
      refine go_getR gf_RX3_18 gcf_3 gft_3_1 dX3_keepPlaces_25 (fun v7 => ?_)
      refine go_alen dX3_keepPlaces_28 (fun v8 _ => ?_)
      refine go_icmp_ge (tgt := 84) dX3_keepPlaces_29 (by decide) (fun h9 => ?_) (fun h9 => ?_)
      · refine go_aload_n 1 dX3_keepPlaces_32 rfl rfl ?_
        refine go_getR gf_RX3_69 gcf_8 gft_8_14 dX3_keepPlaces_33 (fun v10 => ?_)
        refine go_iload_n 3 dX3_keepPlaces_36 rfl rfl ?_
        refine go_iconst (v := 1) dX3_keepPlaces_37 (by decide) ?_
        refine go_iadd dX3_keepPlaces_38 ?_
        refine go_callV_I (as := [vi (x3 + 1)]) gk_RX3_76 gmf_X7_indexOf (by decide) rfl (by omega) rfl rfl (Nat.le_of_ble_eq_true rfl) dX3_keepPlaces_39 (fun _ _ h => cX7_indexOf_c (by omega) h) (fun r11 s12 _ => ?_)
        refine go_iconst (v := -1) dX3_keepPlaces_42 (by decide) ?_
        refine go_gjn (P := fun j13 => ∀ (y14 : Int32) (s15 : gH), gGo X rvU mX3_keepPlaces d 63 [(0, vr a0), (1, vr a1), (2, vi x2), (3, vi y14)] [] s15 (j13 y14 s15)) (fun y14 s15 => ?_) (fun j13 hj13 => ?_)
        · refine go_aload_n 0 dX3_keepPlaces_63 rfl rfl ?_
          refine go_getR gf_RX3_18 gcf_3 gft_3_1 dX3_keepPlaces_64 (fun v16 => ?_)
          refine go_iload_n 2 dX3_keepPlaces_67 rfl rfl ?_
          refine go_aload_n 0 dX3_keepPlaces_68 rfl rfl ?_
          refine go_getR gf_RX3_18 gcf_3 gft_3_1 dX3_keepPlaces_69 (fun v17 => ?_)
          refine go_iload_n 3 dX3_keepPlaces_72 rfl rfl ?_
          refine go_iaload dX3_keepPlaces_73 (fun v18 _ => ?_)
          refine go_iastore dX3_keepPlaces_74 (fun s19 _ => ?_)
          refine go_iinc (v := 1) (L' := [(2, vi (x2 + 1)), (0, vr a0), (1, vr a1), (3, vi y14)]) 2 dX3_keepPlaces_75 rfl (by decide) (by decide) rfl ?_
          refine go_iinc (v := 1) (L' := [(3, vi (y14 + 1)), (2, vi (x2 + 1)), (0, vr a0), (1, vr a1)]) 3 dX3_keepPlaces_78 rfl (by decide) (by decide) rfl ?_
          refine go_goto (tgt := 15) dX3_keepPlaces_81 (by decide) ?_
          exact go_sub [2, 3, 1, 0] (ih (x2 + 1) (y14 + 1) s19) rfl
        · refine go_icmp_ne (tgt := 63) dX3_keepPlaces_43 (by decide) (fun h20 => ?_) (fun h20 => ?_)
          · refine go_aload_n 1 dX3_keepPlaces_46 rfl rfl ?_
            refine go_getR gf_RX3_69 gcf_8 gft_8_14 dX3_keepPlaces_47 (fun v21 => ?_)
            refine go_iload_n 3 dX3_keepPlaces_50 rfl rfl ?_
            refine go_aload_n 0 dX3_keepPlaces_51 rfl rfl ?_
            refine go_getI gf_RX3_59 gcf_3 gft_3_2 dX3_keepPlaces_52 (fun v22 => ?_)
            refine go_isub dX3_keepPlaces_55 ?_
            refine go_callV_I (as := [vi (x3 - v22)]) gk_RX3_76 gmf_X7_indexOf (by decide) rfl (by omega) rfl rfl (Nat.le_of_ble_eq_true rfl) dX3_keepPlaces_56 (fun _ _ h => cX7_indexOf_c (by omega) h) (fun r23 s24 _ => ?_)
            refine go_iconst (v := -1) dX3_keepPlaces_59 (by decide) ?_
            refine go_icmp_eq (tgt := 78) dX3_keepPlaces_60 (by decide) (fun h25 => ?_) (fun h25 => ?_)
            · refine go_iinc (v := 1) (L' := [(3, vi (x3 + 1)), (0, vr a0), (1, vr a1), (2, vi x2)]) 3 dX3_keepPlaces_78 rfl (by decide) (by decide) rfl ?_
              refine go_goto (tgt := 15) dX3_keepPlaces_81 (by decide) ?_
              exact go_sub [1, 2, 3, 0] (ih x2 (x3 + 1) s24) rfl
            · exact go_sub [0, 1, 2, 3] (hj13 x3 s24) rfl
          · exact go_sub [0, 1, 2, 3] (hj13 x3 s12) rfl
      · refine go_aload_n 0 dX3_keepPlaces_84 rfl rfl ?_
        refine go_iload_n 2 dX3_keepPlaces_85 rfl rfl ?_
        refine go_putI gf_RX3_59 gcf_3 gpl_3_2 gft_3_2 dX3_keepPlaces_86 (fun s26 _ => ?_)
        exact go_retv rfl dX3_keepPlaces_89
    · refine go_aload_n 0 dX3_keepPlaces_84 rfl rfl ?_
      refine go_iload_n 2 dX3_keepPlaces_85 rfl rfl ?_
      refine go_putI gf_RX3_59 gcf_3 gpl_3_2 gft_3_2 dX3_keepPlaces_86 (fun s27 _ => ?_)
      exact go_retv rfl dX3_keepPlaces_89
def fX3_keepPlaces (a0 : Nat) (a1 : Nat) (s0 : gH) : Option (Unit × gH) :=
  (ggR s0 a1 8 14).bind fun v1 =>
  (ggI s0 v1 7 1).bind fun v2 =>
  if v2 = 0 then
    some ((), s0)
  else
    gX3_keepPlaces_L15
      a0 a1 20000 0 0 s0
set_option maxRecDepth 100000 in
set_option maxHeartbeats 4000000 in
theorem wX3_keepPlaces {X : Nat × (Nat → Int32)} {d : Nat} (hd : 1 ≤ d) {a0 : Nat} {a1 : Nat} {s0 : gH} : gGo X rvU mX3_keepPlaces d 0 [(0, vr a0), (1, vr a1)] [] s0 (fX3_keepPlaces a0 a1 s0) := by
  unfold fX3_keepPlaces
  refine go_aload_n 1 dX3_keepPlaces_0 rfl rfl ?_
  refine go_getR gf_RX3_69 gcf_8 gft_8_14 dX3_keepPlaces_1 (fun v1 => ?_)
  refine go_getI gf_RX3_73 gcf_7 gft_7_1 dX3_keepPlaces_4 (fun v2 => ?_)
  refine go_if_ne (tgt := 11) dX3_keepPlaces_7 (by decide) (fun h3 => ?_) (fun h3 => ?_)
  · exact go_retv rfl dX3_keepPlaces_10
  · refine go_iconst (v := 0) dX3_keepPlaces_11 (by decide) ?_
    refine go_istore_n (L' := [(2, vi 0), (0, vr a0), (1, vr a1)]) dX3_keepPlaces_12 rfl (by decide) rfl ?_
    refine go_iconst (v := 0) dX3_keepPlaces_13 (by decide) ?_
    refine go_istore_n (L' := [(3, vi 0), (2, vi 0), (0, vr a0), (1, vr a1)]) dX3_keepPlaces_14 rfl (by decide) rfl ?_
    refine go_sub [2, 3, 1, 0] (wX3_keepPlaces_L15 hd a0 a1 20000 0 0 s0) rfl
set_option maxRecDepth 100000 in
set_option maxHeartbeats 4000000 in
theorem cX3_keepPlaces_c {d : Nat} (hd : 1 ≤ d) {a0 : Nat} {a1 : Nat} {s0 : gH} {r : Unit} {s1 : gH} (h : fX3_keepPlaces a0 a1 s0 = some (r, s1)) : gMt mX3_keepPlaces d [vr a0, vr a1] s0 none s1 :=
  gMt_of (rv := rvU) (by decide +kernel) (Nat.le_of_ble_eq_true rfl) rfl (fun _ => wX3_keepPlaces hd) h
def fX2_put (a0 : Nat) (x1 : Int32) (s0 : gH) : Option (Unit × gH) :=
  gb2 (fX11_isDay x1 s0) fun r1 s2 =>
  if r1 = 0 then
    some ((), s2)
  else
    (ggR s2 a0 2 0).bind fun v4 =>
    (gaJ s2 v4 (x1 >>> (6 &&& 31))).bind fun v5 =>
    (saJ s2 v4 (x1 >>> (6 &&& 31)) (v5 ||| (gLshl 1 (x1 &&& 63)))).bind fun s6 =>
    some ((), s6)
set_option maxRecDepth 100000 in
set_option maxHeartbeats 4000000 in
theorem wX2_put {X : Nat × (Nat → Int32)} {d : Nat} (hd : 1 ≤ d) {a0 : Nat} {x1 : Int32} {s0 : gH} : gGo X rvU mX2_put d 0 [(0, vr a0), (1, vi x1)] [] s0 (fX2_put a0 x1 s0) := by
  unfold fX2_put
  refine go_iload_n 1 dX2_put_0 rfl rfl ?_
  refine go_callSN_I (as := [vi x1]) (List.mem_of_getElem? (i := 8) rfl) gst_X11_isDay gmf_X11_isDay (by omega) rfl rfl (Nat.le_of_ble_eq_true rfl) dX2_put_1 (fun _ _ h => cX11_isDay_c (by omega) h) (fun r1 s2 _ => ?_)
  refine go_if_eq (tgt := 25) dX2_put_4 (by decide) (fun h3 => ?_) (fun h3 => ?_)
  · exact go_retv rfl dX2_put_25
  · refine go_aload_n 0 dX2_put_7 rfl rfl ?_
    refine go_getR gf_RX2_11 gcf_2 gft_2_0 dX2_put_8 (fun v4 => ?_)
    refine go_iload_n 1 dX2_put_11 rfl rfl ?_
    refine go_bipush (v := 6) dX2_put_12 (by decide) ?_
    refine go_ishr dX2_put_14 ?_
    refine go_dup2 dX2_put_15 rfl rfl ?_
    refine go_laload dX2_put_16 (fun v5 _ => ?_)
    refine go_lconst (v := 1) dX2_put_17 (by decide) ?_
    refine go_iload_n 1 dX2_put_18 rfl rfl ?_
    refine go_bipush (v := 63) dX2_put_19 (by decide) ?_
    refine go_iand dX2_put_21 ?_
    refine go_lshl dX2_put_22 ?_
    refine go_lor dX2_put_23 ?_
    refine go_lastore dX2_put_24 (fun s6 _ => ?_)
    exact go_retv rfl dX2_put_25
set_option maxRecDepth 100000 in
set_option maxHeartbeats 4000000 in
theorem cX2_put_c {d : Nat} (hd : 1 ≤ d) {a0 : Nat} {x1 : Int32} {s0 : gH} {r : Unit} {s1 : gH} (h : fX2_put a0 x1 s0 = some (r, s1)) : gMt mX2_put d [vr a0, vi x1] s0 none s1 :=
  gMt_of (rv := rvU) (by decide +kernel) (Nat.le_of_ble_eq_true rfl) rfl (fun _ => wX2_put hd) h
def gX3_fill_L102 (k172 : Int32 → gH → Option (Unit × gH)) (a0 : Nat) (a1 : Nat) (x2 : Int32) (a3 : Nat) (x4 : Int32) (x6 : Int32) (x7 : Int32) : Nat → Int32 → Int32 → gH → Option (Unit × gH)
  | 0, _, _, _ => none
  | n + 1, x5, x8, s0 =>
    (ggI s0 a0 3 2).bind fun v27 =>
    if x8 < v27 then
      (ggR s0 a0 3 1).bind fun v29 =>
      (glen s0 v29).bind fun v30 =>
      if x8 < v30 then
        if 0 < x5 then
          (ggR s0 a0 3 1).bind fun v33 =>
          (gaI s0 v33 2 x8).bind fun v34 =>
          (ggI s0 a1 8 2).bind fun v35 =>
          if v34 < v35 then
            gX3_fill_L102 k172 a0 a1 x2 a3 x4 x6 x7 n x5 (x8 + 1) s0
          else
            (ggR s0 a0 3 1).bind fun v37 =>
            (gaI s0 v37 2 x8).bind fun v38 =>
            if x4 < v38 then
              gX3_fill_L102 k172 a0 a1 x2 a3 x4 x6 x7 n x5 (x8 + 1) s0
            else
              (ggR s0 a0 3 1).bind fun v40 =>
              (gaI s0 v40 2 x8).bind fun v41 =>
              gb2 (gcv s0 a3 2 (fX2_put a3 v41 s0)) fun r42 s43 =>
              gX3_fill_L102 k172 a0 a1 x2 a3 x4 x6 x7 n (x5 + (-1)) (x8 + 1) s43
        else
          k172 x5 s0
      else
        k172 x5 s0
    else
      k172 x5 s0
set_option maxRecDepth 100000 in
set_option maxHeartbeats 4000000 in
theorem wX3_fill_L102 {X : Nat × (Nat → Int32)} {d : Nat} (hd : 4 ≤ d) (k172 : Int32 → gH → Option (Unit × gH)) (a0 : Nat) (a1 : Nat) (x2 : Int32) (a3 : Nat) (x4 : Int32) (x6 : Int32) (x7 : Int32) (hk172 : ∀ (x5 : Int32) (s : gH), gGo X rvU mX3_fill d 172 [(0, vr a0), (1, vr a1), (2, vi x2), (3, vr a3), (4, vi x4), (5, vi x5), (6, vi x6), (7, vi x7)] [] s (k172 x5 s)) : ∀ (n : Nat) (x5 : Int32) (x8 : Int32) (s0 : gH), gGo X rvU mX3_fill d 102 [(0, vr a0), (1, vr a1), (2, vi x2), (3, vr a3), (4, vi x4), (5, vi x5), (6, vi x6), (7, vi x7), (8, vi x8)] [] s0 (gX3_fill_L102 k172 a0 a1 x2 a3 x4 x6 x7 n x5 x8 s0) := by
  intro n
  induction n with
  | zero => intros; exact go_none
  | succ n ih =>
    intro x5 x8 s0
    show gGo _ _ _ _ _ _ _ _ (gX3_fill_L102 k172 a0 a1 x2 a3 x4 x6 x7 (n + 1) x5 x8 s0)
    unfold gX3_fill_L102
    refine go_iload 8 dX3_fill_102 rfl ?_
    refine go_aload_n 0 dX3_fill_104 rfl rfl ?_
    refine go_getI gf_RX3_59 gcf_3 gft_3_2 dX3_fill_105 (fun v27 => ?_)
    refine go_icmp_ge (tgt := 172) dX3_fill_108 (by decide) (fun h28 => ?_) (fun h28 => ?_)
    · refine go_iload 8 dX3_fill_111 rfl ?_
      refine go_aload_n 0 dX3_fill_113 rfl rfl ?_
      refine go_getR gf_RX3_18 gcf_3 gft_3_1 dX3_fill_114 (fun v29 => ?_)
      refine go_alen dX3_fill_117 (fun v30 _ => ?_)
      refine go_icmp_ge (tgt := 172) dX3_fill_118 (by decide) (fun h31 => ?_) (fun h31 => ?_)
      · refine go_iload 5 dX3_fill_121 rfl ?_
        refine go_if_le (tgt := 172) dX3_fill_123 (by decide) (fun h32 => ?_) (fun h32 => ?_)
        · refine go_aload_n 0 dX3_fill_126 rfl rfl ?_
          refine go_getR gf_RX3_18 gcf_3 gft_3_1 dX3_fill_127 (fun v33 => ?_)
          refine go_iload 8 dX3_fill_130 rfl ?_
          refine go_iaload dX3_fill_132 (fun v34 _ => ?_)
          refine go_aload_n 1 dX3_fill_133 rfl rfl ?_
          refine go_getI gf_RX3_86 gcf_8 gft_8_2 dX3_fill_134 (fun v35 => ?_)
          refine go_icmp_lt (tgt := 166) dX3_fill_137 (by decide) (fun h36 => ?_) (fun h36 => ?_)
          · refine go_iinc (v := 1) (L' := [(8, vi (x8 + 1)), (0, vr a0), (1, vr a1), (2, vi x2), (3, vr a3), (4, vi x4), (5, vi x5), (6, vi x6), (7, vi x7)]) 8 dX3_fill_166 rfl (by decide) (by decide) rfl ?_
            refine go_goto (tgt := 102) dX3_fill_169 (by decide) ?_
            exact go_sub [1, 2, 3, 4, 5, 6, 7, 8, 0] (ih x5 (x8 + 1) s0) rfl
          · refine go_aload_n 0 dX3_fill_140 rfl rfl ?_
            refine go_getR gf_RX3_18 gcf_3 gft_3_1 dX3_fill_141 (fun v37 => ?_)
            refine go_iload 8 dX3_fill_144 rfl ?_
            refine go_iaload dX3_fill_146 (fun v38 _ => ?_)
            refine go_iload 4 dX3_fill_147 rfl ?_
            refine go_icmp_gt (tgt := 166) dX3_fill_149 (by decide) (fun h39 => ?_) (fun h39 => ?_)
            · refine go_iinc (v := 1) (L' := [(8, vi (x8 + 1)), (0, vr a0), (1, vr a1), (2, vi x2), (3, vr a3), (4, vi x4), (5, vi x5), (6, vi x6), (7, vi x7)]) 8 dX3_fill_166 rfl (by decide) (by decide) rfl ?_
              refine go_goto (tgt := 102) dX3_fill_169 (by decide) ?_
              exact go_sub [1, 2, 3, 4, 5, 6, 7, 8, 0] (ih x5 (x8 + 1) s0) rfl
            · refine go_aload_n 3 dX3_fill_152 rfl rfl ?_
              refine go_aload_n 0 dX3_fill_153 rfl rfl ?_
              refine go_getR gf_RX3_18 gcf_3 gft_3_1 dX3_fill_154 (fun v40 => ?_)
              refine go_iload 8 dX3_fill_157 rfl ?_
              refine go_iaload dX3_fill_159 (fun v41 _ => ?_)
              refine go_callV_v (as := [vi v41]) gk_RX3_105 gmf_X2_put (by decide) rfl (by omega) rfl rfl (Nat.le_of_ble_eq_true rfl) dX3_fill_160 (fun _ _ h => cX2_put_c (by omega) h) (fun r42 s43 _ => ?_)
              refine go_iinc (v := -1) (L' := [(5, vi (x5 + (-1))), (0, vr a0), (1, vr a1), (2, vi x2), (3, vr a3), (4, vi x4), (6, vi x6), (7, vi x7), (8, vi x8)]) 5 dX3_fill_163 rfl (by decide) (by decide) rfl ?_
              refine go_iinc (v := 1) (L' := [(8, vi (x8 + 1)), (5, vi (x5 + (-1))), (0, vr a0), (1, vr a1), (2, vi x2), (3, vr a3), (4, vi x4), (6, vi x6), (7, vi x7)]) 8 dX3_fill_166 rfl (by decide) (by decide) rfl ?_
              refine go_goto (tgt := 102) dX3_fill_169 (by decide) ?_
              exact go_sub [2, 3, 4, 5, 6, 1, 7, 8, 0] (ih (x5 + (-1)) (x8 + 1) s43) rfl
        · exact go_sub [0, 1, 2, 3, 4, 5, 6, 7] (hk172 x5 s0) rfl
      · exact go_sub [0, 1, 2, 3, 4, 5, 6, 7] (hk172 x5 s0) rfl
    · exact go_sub [0, 1, 2, 3, 4, 5, 6, 7] (hk172 x5 s0) rfl
def gX3_fill_L60  (a0 : Nat) (a1 : Nat) (x2 : Int32) (a3 : Nat) (x4 : Int32) : Nat → Int32 → Int32 → Int32 → gH → Option (Unit × gH)
  | 0, _, _, _, _ => none
  | n + 1, x5, x6, x7, s0 =>
    if x7 < 14610 then
      if 0 < x5 then
        (ggI s0 a1 8 1).bind fun v18 =>
        gb2 (fX0_firstOfPeriod v18 x6 s0) fun r19 s20 =>
        if x4 < r19 then
          some ((), s20)
        else
          gb2 (gcv s20 a0 3 (fX3_gather a0 a1 x6 s20)) fun r22 s23 =>
          gb2 (gcv s23 a0 3 (fX3_keepPlaces a0 a1 s23)) fun r24 s25 =>
          gX3_fill_L102
            (fun y44 s45 =>
              glet (x6 + x2) fun y46 =>
              gX3_fill_L60 a0 a1 x2 a3 x4 n y44 y46 (x7 + 1) s45)
            a0 a1 x2 a3 x4 x6 x7 20000 x5 0 s25
      else
        some ((), s0)
    else
      some ((), s0)
set_option maxRecDepth 100000 in
set_option maxHeartbeats 4000000 in
theorem wX3_fill_L60 {X : Nat × (Nat → Int32)} {d : Nat} (hd : 4 ≤ d)  (a0 : Nat) (a1 : Nat) (x2 : Int32) (a3 : Nat) (x4 : Int32) : ∀ (n : Nat) (x5 : Int32) (x6 : Int32) (x7 : Int32) (s0 : gH), gGo X rvU mX3_fill d 60 [(0, vr a0), (1, vr a1), (2, vi x2), (3, vr a3), (4, vi x4), (5, vi x5), (6, vi x6), (7, vi x7)] [] s0 (gX3_fill_L60 a0 a1 x2 a3 x4 n x5 x6 x7 s0) := by
  intro n
  induction n with
  | zero => intros; exact go_none
  | succ n ih =>
    intro x5 x6 x7 s0
    show gGo _ _ _ _ _ _ _ _ (gX3_fill_L60 a0 a1 x2 a3 x4 (n + 1) x5 x6 x7 s0)
    unfold gX3_fill_L60
    refine go_iload 7 dX3_fill_60 rfl ?_
    refine go_sipush (v := 14610) dX3_fill_62 (by decide) ?_
    refine go_icmp_ge (tgt := 184) dX3_fill_65 (by decide) (fun h16 => ?_) (fun h16 => ?_)
    · refine go_iload 5 dX3_fill_68 rfl ?_
      refine go_if_le (tgt := 184) dX3_fill_70 (by decide) (fun h17 => ?_) (fun h17 => ?_)
      · refine go_aload_n 1 dX3_fill_73 rfl rfl ?_
        refine go_getI gf_RX3_45 gcf_8 gft_8_1 dX3_fill_74 (fun v18 => ?_)
        refine go_iload 6 dX3_fill_77 rfl ?_
        refine go_callS_I (as := [vi v18, vi x6]) gk_RX3_50 gmf_X0_firstOfPeriod (by omega) rfl rfl (Nat.le_of_ble_eq_true rfl) dX3_fill_79 (fun _ _ h => cX0_firstOfPeriod_c (by omega) h) (fun r19 s20 _ => ?_)
        refine go_iload 4 dX3_fill_82 rfl ?_
        refine go_icmp_gt (tgt := 184) dX3_fill_84 (by decide) (fun h21 => ?_) (fun h21 => ?_)
        · exact go_retv rfl dX3_fill_184
        · refine go_aload_n 0 dX3_fill_87 rfl rfl ?_
          refine go_aload_n 1 dX3_fill_88 rfl rfl ?_
          refine go_iload 6 dX3_fill_89 rfl ?_
          refine go_callV_v (as := [vr a1, vi x6]) gk_RX3_97 gmf_X3_gather (by decide) rfl (by omega) rfl rfl (Nat.le_of_ble_eq_true rfl) dX3_fill_91 (fun _ _ h => cX3_gather_c (by omega) h) (fun r22 s23 _ => ?_)
          refine go_aload_n 0 dX3_fill_94 rfl rfl ?_
          refine go_aload_n 1 dX3_fill_95 rfl rfl ?_
          refine go_callV_v (as := [vr a1]) gk_RX3_101 gmf_X3_keepPlaces (by decide) rfl (by omega) rfl rfl (Nat.le_of_ble_eq_true rfl) dX3_fill_96 (fun _ _ h => cX3_keepPlaces_c (by omega) h) (fun r24 s25 _ => ?_)
          refine go_iconst (v := 0) dX3_fill_99 (by decide) ?_
          refine go_istore (L' := [(8, vi 0), (0, vr a0), (1, vr a1), (2, vi x2), (3, vr a3), (4, vi x4), (5, vi x5), (6, vi x6), (7, vi x7)]) dX3_fill_100 (by decide) rfl ?_
          refine go_sub [1, 2, 3, 4, 5, 6, 7, 8, 0] (wX3_fill_L102 hd _ a0 a1 x2 a3 x4 x6 x7 ?_ 20000 x5 0 s25) rfl
          intro y44 s45
          refine go_iload 6 dX3_fill_172 rfl ?_
          refine go_iload_n 2 dX3_fill_174 rfl rfl ?_
          refine go_iadd dX3_fill_175 ?_
          refine go_istore_l (L' := fun y46 => [(6, vi y46), (0, vr a0), (1, vr a1), (2, vi x2), (3, vr a3), (4, vi x4), (5, vi y44), (7, vi x7)]) dX3_fill_176 (by decide) (fun _ => rfl) (fun y46 => ?_)
          refine go_iinc (v := 1) (L' := [(7, vi (x7 + 1)), (6, vi y46), (0, vr a0), (1, vr a1), (2, vi x2), (3, vr a3), (4, vi x4), (5, vi y44)]) 7 dX3_fill_178 rfl (by decide) (by decide) rfl ?_
          refine go_goto (tgt := 60) dX3_fill_181 (by decide) ?_
          exact go_sub [2, 3, 4, 5, 6, 7, 1, 0] (ih y44 y46 (x7 + 1) s45) rfl
      · exact go_retv rfl dX3_fill_184
    · exact go_retv rfl dX3_fill_184
def fX3_fill (a0 : Nat) (a1 : Nat) (x2 : Int32) (a3 : Nat) (s0 : gH) : Option (Unit × gH) :=
  (ggI s0 a1 8 6).bind fun v1 =>
  gjn (fun (z3 : Int32) (s4 : gH) =>
      (ggI s4 a1 8 7).bind fun v5 =>
      gjn (fun (z7 : Int32) (s8 : gH) =>
          (ggI s8 a1 8 1).bind fun v9 =>
          (ggI s8 a1 8 2).bind fun v10 =>
          gb2 (fX0_periodOf v9 v10 s8) fun r11 s12 =>
          gb2 (gcv s12 a3 2 (fX2_clear a3 s12)) fun r13 s14 =>
          gX3_fill_L60
            a0 a1 x2 a3 z3 20000 z7 r11 0 s14
      ) fun j6 =>
      if v5 = -1 then
        j6 14610 s4
      else
        (ggI s4 a1 8 7).bind fun v48 =>
        j6 v48 s4
  ) fun j2 =>
  if v1 = -1 then
    j2 14609 s0
  else
    (ggI s0 a1 8 6).bind fun v50 =>
    j2 v50 s0
set_option maxRecDepth 100000 in
set_option maxHeartbeats 4000000 in
theorem wX3_fill {X : Nat × (Nat → Int32)} {d : Nat} (hd : 4 ≤ d) {a0 : Nat} {a1 : Nat} {x2 : Int32} {a3 : Nat} {s0 : gH} : gGo X rvU mX3_fill d 0 [(0, vr a0), (1, vr a1), (2, vi x2), (3, vr a3)] [] s0 (fX3_fill a0 a1 x2 a3 s0) := by
  unfold fX3_fill
  refine go_aload_n 1 dX3_fill_0 rfl rfl ?_
  refine go_getI gf_RX3_80 gcf_8 gft_8_6 dX3_fill_1 (fun v1 => ?_)
  refine go_iconst (v := -1) dX3_fill_4 (by decide) ?_
  refine go_gjn (P := fun j2 => ∀ (z3 : Int32) (s4 : gH), gGo X rvU mX3_fill d 18 [(0, vr a0), (1, vr a1), (2, vi x2), (3, vr a3)] [vi z3] s4 (j2 z3 s4)) (fun z3 s4 => ?_) (fun j2 hj2 => ?_)
  · refine go_istore (L' := [(4, vi z3), (0, vr a0), (1, vr a1), (2, vi x2), (3, vr a3)]) dX3_fill_18 (by decide) rfl ?_
    refine go_aload_n 2 dX3_fill_20 rfl rfl ?_
    refine go_getI gf_RX3_83 gcf_8 gft_8_7 dX3_fill_21 (fun v5 => ?_)
    refine go_iconst (v := -1) dX3_fill_24 (by decide) ?_
    refine go_gjn (P := fun j6 => ∀ (z7 : Int32) (s8 : gH), gGo X rvU mX3_fill d 38 [(0, vr a0), (1, vr a1), (2, vi x2), (3, vr a3), (4, vi z3)] [vi z7] s8 (j6 z7 s8)) (fun z7 s8 => ?_) (fun j6 hj6 => ?_)
    · refine go_istore (L' := [(5, vi z7), (0, vr a0), (1, vr a1), (2, vi x2), (3, vr a3), (4, vi z3)]) dX3_fill_38 (by decide) rfl ?_
      refine go_aload_n 2 dX3_fill_40 rfl rfl ?_
      refine go_getI gf_RX3_45 gcf_8 gft_8_1 dX3_fill_41 (fun v9 => ?_)
      refine go_aload_n 2 dX3_fill_44 rfl rfl ?_
      refine go_getI gf_RX3_86 gcf_8 gft_8_2 dX3_fill_45 (fun v10 => ?_)
      refine go_callS_I (as := [vi v9, vi v10]) gk_RX3_89 gmf_X0_periodOf (by omega) rfl rfl (Nat.le_of_ble_eq_true rfl) dX3_fill_48 (fun _ _ h => cX0_periodOf_c (by omega) h) (fun r11 s12 _ => ?_)
      refine go_istore (L' := [(6, vi r11), (5, vi z7), (0, vr a0), (1, vr a1), (2, vi x2), (3, vr a3), (4, vi z3)]) dX3_fill_51 (by decide) rfl ?_
      refine go_aload_n 5 dX3_fill_53 rfl rfl ?_
      refine go_callV_v (as := []) gk_RX3_92 gmf_X2_clear (by decide) rfl (by omega) rfl rfl (Nat.le_of_ble_eq_true rfl) dX3_fill_54 (fun _ _ h => cX2_clear_c (by omega) h) (fun r13 s14 _ => ?_)
      refine go_iconst (v := 0) dX3_fill_57 (by decide) ?_
      refine go_istore (L' := [(7, vi 0), (6, vi r11), (5, vi z7), (0, vr a0), (1, vr a1), (2, vi x2), (3, vr a3), (4, vi z3)]) dX3_fill_58 (by decide) rfl ?_
      refine go_sub [3, 4, 5, 6, 7, 2, 1, 0] (wX3_fill_L60 hd a0 a1 x2 a3 z3 20000 z7 r11 0 s14) rfl
    · refine go_icmp_ne (tgt := 34) dX3_fill_25 (by decide) (fun h47 => ?_) (fun h47 => ?_)
      · refine go_sipush (v := 14610) dX3_fill_28 (by decide) ?_
        refine go_goto (tgt := 38) dX3_fill_31 (by decide) ?_
        exact go_sub [1, 2, 3, 4, 0] (hj6 14610 s4) rfl
      · refine go_aload_n 2 dX3_fill_34 rfl rfl ?_
        refine go_getI gf_RX3_83 gcf_8 gft_8_7 dX3_fill_35 (fun v48 => ?_)
        exact go_sub [1, 2, 3, 4, 0] (hj6 v48 s4) rfl
  · refine go_icmp_ne (tgt := 14) dX3_fill_5 (by decide) (fun h49 => ?_) (fun h49 => ?_)
    · refine go_sipush (v := 14609) dX3_fill_8 (by decide) ?_
      refine go_goto (tgt := 18) dX3_fill_11 (by decide) ?_
      exact go_sub [0, 1, 2, 3] (hj2 14609 s0) rfl
    · refine go_aload_n 1 dX3_fill_14 rfl rfl ?_
      refine go_getI gf_RX3_80 gcf_8 gft_8_6 dX3_fill_15 (fun v50 => ?_)
      exact go_sub [0, 1, 2, 3] (hj2 v50 s0) rfl
set_option maxRecDepth 100000 in
set_option maxHeartbeats 4000000 in
theorem cX3_fill_c {d : Nat} (hd : 4 ≤ d) {a0 : Nat} {a1 : Nat} {x2 : Int32} {a3 : Nat} {s0 : gH} {r : Unit} {s1 : gH} (h : fX3_fill a0 a1 x2 a3 s0 = some (r, s1)) : gMt mX3_fill d [vr a0, vr a1, vi x2, vr a3] s0 none s1 :=
  gMt_of (rv := rvU) (by decide +kernel) (Nat.le_of_ble_eq_true rfl) rfl (fun _ => wX3_fill hd) h
def fX5_ruleChanged (a0 : Nat) (x1 : Int32) (s0 : gH) : Option (Unit × gH) :=
  (ggR s0 a0 5 5).bind fun v1 =>
  gjn (fun (b3 : Nat) (s4 : gH) =>
      if b3 = 0 then
        some ((), s4)
      else
        (ggR s4 a0 5 1).bind fun v6 =>
        (glen s4 v6).bind fun v7 =>
        if x1 < v7 then
          (ggR s4 a0 5 0).bind fun v9 =>
          (ggI s4 b3 8 0).bind fun v10 =>
          (ggR s4 a0 5 1).bind fun v11 =>
          (gaR s4 v11 5 x1).bind fun v12 =>
          gb2 (gcv s4 v9 3 (fX3_fill v9 b3 v10 v12 s4)) fun r13 s14 =>
          (spI s14 a0 5 7 0).bind fun s15 =>
          some ((), s15)
        else
          some ((), s4)
  ) fun j2 =>
  if v1 = 0 then
    j2 0 s0
  else
    (ggR s0 a0 5 5).bind fun v17 =>
    gb2 (gcv s0 v17 1 (fX1_ruleAt v17 x1 s0)) fun r18 s19 =>
    j2 r18 s19
set_option maxRecDepth 100000 in
set_option maxHeartbeats 4000000 in
theorem wX5_ruleChanged {X : Nat × (Nat → Int32)} {d : Nat} (hd : 5 ≤ d) {a0 : Nat} {x1 : Int32} {s0 : gH} : gGo X rvU mX5_ruleChanged d 0 [(0, vr a0), (1, vi x1)] [] s0 (fX5_ruleChanged a0 x1 s0) := by
  unfold fX5_ruleChanged
  refine go_aload_n 0 dX5_ruleChanged_0 rfl rfl ?_
  refine go_getR gf_RX5_37 gcf_5 gft_5_5 dX5_ruleChanged_1 (fun v1 => ?_)
  refine go_gjn (P := fun j2 => ∀ (b3 : Nat) (s4 : gH), gGo X rvU mX5_ruleChanged d 19 [(0, vr a0), (1, vi x1)] [vr b3] s4 (j2 b3 s4)) (fun b3 s4 => ?_) (fun j2 hj2 => ?_)
  · refine go_astore_n (L' := [(2, vr b3), (0, vr a0), (1, vi x1)]) dX5_ruleChanged_19 rfl (by decide) rfl ?_
    refine go_aload_n 0 dX5_ruleChanged_20 rfl rfl ?_
    refine go_ifnull (tgt := 56) dX5_ruleChanged_21 (by decide) (fun h5 => ?_) (fun h5 => ?_)
    · exact go_retv rfl dX5_ruleChanged_56
    · refine go_iload_n 2 dX5_ruleChanged_24 rfl rfl ?_
      refine go_aload_n 1 dX5_ruleChanged_25 rfl rfl ?_
      refine go_getR gf_RX5_11 gcf_5 gft_5_1 dX5_ruleChanged_26 (fun v6 => ?_)
      refine go_alen dX5_ruleChanged_29 (fun v7 _ => ?_)
      refine go_icmp_ge (tgt := 56) dX5_ruleChanged_30 (by decide) (fun h8 => ?_) (fun h8 => ?_)
      · refine go_aload_n 1 dX5_ruleChanged_33 rfl rfl ?_
        refine go_getR gf_RX5_29 gcf_5 gft_5_0 dX5_ruleChanged_34 (fun v9 => ?_)
        refine go_aload_n 0 dX5_ruleChanged_37 rfl rfl ?_
        refine go_aload_n 0 dX5_ruleChanged_38 rfl rfl ?_
        refine go_getI gf_RX5_60 gcf_8 gft_8_0 dX5_ruleChanged_39 (fun v10 => ?_)
        refine go_aload_n 1 dX5_ruleChanged_42 rfl rfl ?_
        refine go_getR gf_RX5_11 gcf_5 gft_5_1 dX5_ruleChanged_43 (fun v11 => ?_)
        refine go_iload_n 2 dX5_ruleChanged_46 rfl rfl ?_
        refine go_aaload (t := 5) (by decide) (by decide) dX5_ruleChanged_47 (fun v12 _ => ?_)
        refine go_callV_v (as := [vr b3, vi v10, vr v12]) gk_RX5_65 gmf_X3_fill (by decide) rfl (by omega) rfl rfl (Nat.le_of_ble_eq_true rfl) dX5_ruleChanged_48 (fun _ _ h => cX3_fill_c (by omega) h) (fun r13 s14 _ => ?_)
        refine go_aload_n 1 dX5_ruleChanged_51 rfl rfl ?_
        refine go_iconst (v := 0) dX5_ruleChanged_52 (by decide) ?_
        refine go_putI gf_RX5_53 gcf_5 gpl_5_7 gft_5_7 dX5_ruleChanged_53 (fun s15 _ => ?_)
        exact go_retv rfl dX5_ruleChanged_56
      · exact go_retv rfl dX5_ruleChanged_56
  · refine go_ifnonnull (tgt := 11) dX5_ruleChanged_4 (by decide) (fun h16 => ?_) (fun h16 => ?_)
    · refine go_null dX5_ruleChanged_7 ?_
      refine go_goto (tgt := 19) dX5_ruleChanged_8 (by decide) ?_
      exact go_sub [0, 1] (hj2 0 s0) rfl
    · refine go_aload_n 0 dX5_ruleChanged_11 rfl rfl ?_
      refine go_getR gf_RX5_37 gcf_5 gft_5_5 dX5_ruleChanged_12 (fun v17 => ?_)
      refine go_iload_n 1 dX5_ruleChanged_15 rfl rfl ?_
      refine go_callV_R (as := [vi x1]) gk_RX5_56 gmf_X1_ruleAt (by decide) rfl (by omega) rfl rfl (Nat.le_of_ble_eq_true rfl) dX5_ruleChanged_16 (fun _ _ h => cX1_ruleAt_c (by omega) h) (fun r18 s19 _ => ?_)
      exact go_sub [0, 1] (hj2 r18 s19) rfl
set_option maxRecDepth 100000 in
set_option maxHeartbeats 4000000 in
theorem cX5_ruleChanged_c {d : Nat} (hd : 5 ≤ d) {a0 : Nat} {x1 : Int32} {s0 : gH} {r : Unit} {s1 : gH} (h : fX5_ruleChanged a0 x1 s0 = some (r, s1)) : gMt mX5_ruleChanged d [vr a0, vi x1] s0 none s1 :=
  gMt_of (rv := rvU) (by decide +kernel) (Nat.le_of_ble_eq_true rfl) rfl (fun _ => wX5_ruleChanged hd) h
def gX5_open_L7 (k37 : gH → Option (Unit × gH)) (a0 : Nat) : Nat → Int32 → gH → Option (Unit × gH)
  | 0, _, _ => none
  | n + 1, x2, s0 =>
    if x2 < 6 then
      (ggR s0 a0 5 3).bind fun v4 =>
      (gaR s0 v4 6 x2).bind fun v5 =>
      gb2 (gcv s0 v5 7 (fX7_clear v5 s0)) fun r6 s7 =>
      (ggR s7 a0 5 4).bind fun v8 =>
      (gaR s7 v8 6 x2).bind fun v9 =>
      gb2 (gcv s7 v9 7 (fX7_clear v9 s7)) fun r10 s11 =>
      gX5_open_L7 k37 a0 n (x2 + 1) s11
    else
      k37 s0
set_option maxRecDepth 100000 in
set_option maxHeartbeats 4000000 in
theorem wX5_open_L7 {X : Nat × (Nat → Int32)} {d : Nat} (hd : 6 ≤ d) (k37 : gH → Option (Unit × gH)) (a0 : Nat) (hk37 : ∀ (s : gH), gGo X rvU mX5_open d 37 [(0, vr a0)] [] s (k37 s)) : ∀ (n : Nat) (x2 : Int32) (s0 : gH), gGo X rvU mX5_open d 7 [(0, vr a0), (2, vi x2)] [] s0 (gX5_open_L7 k37 a0 n x2 s0) := by
  intro n
  induction n with
  | zero => intros; exact go_none
  | succ n ih =>
    intro x2 s0
    show gGo _ _ _ _ _ _ _ _ (gX5_open_L7 k37 a0 (n + 1) x2 s0)
    unfold gX5_open_L7
    refine go_iload_n 1 dX5_open_7 rfl rfl ?_
    refine go_bipush (v := 6) dX5_open_8 (by decide) ?_
    refine go_icmp_ge (tgt := 37) dX5_open_10 (by decide) (fun h3 => ?_) (fun h3 => ?_)
    · refine go_aload_n 0 dX5_open_13 rfl rfl ?_
      refine go_getR gf_RX5_22 gcf_5 gft_5_3 dX5_open_14 (fun v4 => ?_)
      refine go_iload_n 1 dX5_open_17 rfl rfl ?_
      refine go_aaload (t := 6) (by decide) (by decide) dX5_open_18 (fun v5 _ => ?_)
      refine go_callV_v (as := []) gk_RX5_41 gmf_X7_clear (by decide) rfl (by omega) rfl rfl (Nat.le_of_ble_eq_true rfl) dX5_open_19 (fun _ _ h => cX7_clear_c (by omega) h) (fun r6 s7 _ => ?_)
      refine go_aload_n 0 dX5_open_22 rfl rfl ?_
      refine go_getR gf_RX5_26 gcf_5 gft_5_4 dX5_open_23 (fun v8 => ?_)
      refine go_iload_n 1 dX5_open_26 rfl rfl ?_
      refine go_aaload (t := 6) (by decide) (by decide) dX5_open_27 (fun v9 _ => ?_)
      refine go_callV_v (as := []) gk_RX5_41 gmf_X7_clear (by decide) rfl (by omega) rfl rfl (Nat.le_of_ble_eq_true rfl) dX5_open_28 (fun _ _ h => cX7_clear_c (by omega) h) (fun r10 s11 _ => ?_)
      refine go_iinc (v := 1) (L' := [(2, vi (x2 + 1)), (0, vr a0)]) 1 dX5_open_31 rfl (by decide) (by decide) rfl ?_
      refine go_goto (tgt := 7) dX5_open_34 (by decide) ?_
      exact go_sub [1, 0] (ih (x2 + 1) s11) rfl
    · exact go_sub [0] (hk37 s0) rfl
def gX5_open_L39  (a0 : Nat) : Nat → Int32 → gH → Option (Unit × gH)
  | 0, _, _ => none
  | n + 1, x2, s0 =>
    (ggR s0 a0 5 5).bind fun v14 =>
    (ggI s0 v14 1 0).bind fun v15 =>
    if x2 < v15 then
      gb2 (gcv s0 a0 5 (fX5_ruleChanged a0 x2 s0)) fun r17 s18 =>
      gX5_open_L39 a0 n (x2 + 1) s18
    else
      (spI s0 a0 5 7 0).bind fun s19 =>
      some ((), s19)
set_option maxRecDepth 100000 in
set_option maxHeartbeats 4000000 in
theorem wX5_open_L39 {X : Nat × (Nat → Int32)} {d : Nat} (hd : 6 ≤ d)  (a0 : Nat) : ∀ (n : Nat) (x2 : Int32) (s0 : gH), gGo X rvU mX5_open d 39 [(0, vr a0), (2, vi x2)] [] s0 (gX5_open_L39 a0 n x2 s0) := by
  intro n
  induction n with
  | zero => intros; exact go_none
  | succ n ih =>
    intro x2 s0
    show gGo _ _ _ _ _ _ _ _ (gX5_open_L39 a0 (n + 1) x2 s0)
    unfold gX5_open_L39
    refine go_iload_n 1 dX5_open_39 rfl rfl ?_
    refine go_aload_n 0 dX5_open_40 rfl rfl ?_
    refine go_getR gf_RX5_37 gcf_5 gft_5_5 dX5_open_41 (fun v14 => ?_)
    refine go_getI gf_RX5_44 gcf_1 gft_1_0 dX5_open_44 (fun v15 => ?_)
    refine go_icmp_ge (tgt := 61) dX5_open_47 (by decide) (fun h16 => ?_) (fun h16 => ?_)
    · refine go_aload_n 0 dX5_open_50 rfl rfl ?_
      refine go_iload_n 1 dX5_open_51 rfl rfl ?_
      refine go_callV_v (as := [vi x2]) gk_RX5_50 gmf_X5_ruleChanged (by decide) rfl (by omega) rfl rfl (Nat.le_of_ble_eq_true rfl) dX5_open_52 (fun _ _ h => cX5_ruleChanged_c (by omega) h) (fun r17 s18 _ => ?_)
      refine go_iinc (v := 1) (L' := [(2, vi (x2 + 1)), (0, vr a0)]) 1 dX5_open_55 rfl (by decide) (by decide) rfl ?_
      refine go_goto (tgt := 39) dX5_open_58 (by decide) ?_
      exact go_sub [1, 0] (ih (x2 + 1) s18) rfl
    · refine go_aload_n 0 dX5_open_61 rfl rfl ?_
      refine go_iconst (v := 0) dX5_open_62 (by decide) ?_
      refine go_putI gf_RX5_53 gcf_5 gpl_5_7 gft_5_7 dX5_open_63 (fun s19 _ => ?_)
      exact go_retv rfl dX5_open_66
def fX5_open (a0 : Nat) (a1 : Nat) (s0 : gH) : Option (Unit × gH) :=
  (spR s0 a0 5 5 a1).bind fun s1 =>
  gX5_open_L7
    (fun s12 =>
      gX5_open_L39
        a0 20000 0 s12)
    a0 20000 0 s1
set_option maxRecDepth 100000 in
set_option maxHeartbeats 4000000 in
theorem wX5_open {X : Nat × (Nat → Int32)} {d : Nat} (hd : 6 ≤ d) {a0 : Nat} {a1 : Nat} {s0 : gH} : gGo X rvU mX5_open d 0 [(0, vr a0), (1, vr a1)] [] s0 (fX5_open a0 a1 s0) := by
  unfold fX5_open
  refine go_aload_n 0 dX5_open_0 rfl rfl ?_
  refine go_aload_n 1 dX5_open_1 rfl rfl ?_
  refine go_putR gf_RX5_37 gcf_5 gpl_5_5 (Or.inl ⟨_, rfl⟩) gft_5_5 dX5_open_2 (fun s1 _ => ?_)
  refine go_iconst (v := 0) dX5_open_5 (by decide) ?_
  refine go_istore_n (L' := [(2, vi 0), (0, vr a0), (1, vr a1)]) dX5_open_6 rfl (by decide) rfl ?_
  refine go_sub [1, 0] (wX5_open_L7 hd _ a0 ?_ 20000 0 s1) rfl
  intro s12
  refine go_iconst (v := 0) dX5_open_37 (by decide) ?_
  refine go_istore_n (L' := [(2, vi 0), (0, vr a0)]) dX5_open_38 rfl (by decide) rfl ?_
  refine go_sub [1, 0] (wX5_open_L39 hd a0 20000 0 s12) rfl
set_option maxRecDepth 100000 in
set_option maxHeartbeats 4000000 in
theorem cX5_open_c {d : Nat} (hd : 6 ≤ d) {a0 : Nat} {a1 : Nat} {s0 : gH} {r : Unit} {s1 : gH} (h : fX5_open a0 a1 s0 = some (r, s1)) : gMt mX5_open d [vr a0, vr a1] s0 none s1 :=
  gMt_of (rv := rvU) (by decide +kernel) (Nat.le_of_ble_eq_true rfl) rfl (fun _ => wX5_open hd) h
def fX11_init (a0 : Nat) (s0 : gH) : Option (Unit × gH) :=
  if a0 = 0 then none else
  gmk s0 10 fun r1 s2 =>
  gb2 (fX10_init r1 s2) fun r3 s4 =>
  (spR s4 a0 11 0 r1).bind fun s5 =>
  gmk s5 6 fun r6 s7 =>
  gb2 (fX6_init r6 s7) fun r8 s9 =>
  (spR s9 a0 11 1 r6).bind fun s10 =>
  gmk s10 3 fun r11 s12 =>
  gb2 (fX3_init r11 s12) fun r13 s14 =>
  (spR s14 a0 11 2 r11).bind fun s15 =>
  gmk s15 5 fun r16 s17 =>
  (ggR s17 a0 11 2).bind fun v18 =>
  gb2 (fX5_init r16 v18 s17) fun r19 s20 =>
  (spR s20 a0 11 3 r16).bind fun s21 =>
  gmk s21 4 fun r22 s23 =>
  gb2 (fX4_init r22 s23) fun r24 s25 =>
  (spR s25 a0 11 4 r22).bind fun s26 =>
  gmk s26 9 fun r27 s28 =>
  (ggR s28 a0 11 2).bind fun v29 =>
  gb2 (fX9_init r27 v29 s28) fun r30 s31 =>
  (spR s31 a0 11 5 r27).bind fun s32 =>
  gmka s32 2 6 fun r33 s34 =>
  (spR s34 a0 11 6 r33).bind fun s35 =>
  gmk s35 1 fun r36 s37 =>
  gb2 (fX1_init r36 s37) fun r38 s39 =>
  (spR s39 a0 11 7 r36).bind fun s40 =>
  gmk s40 1 fun r41 s42 =>
  gb2 (fX1_init r41 s42) fun r43 s44 =>
  (spR s44 a0 11 8 r41).bind fun s45 =>
  (spI s45 a0 11 9 1).bind fun s46 =>
  (ggR s46 a0 11 3).bind fun v47 =>
  (ggR s46 a0 11 7).bind fun v48 =>
  gb2 (gcv s46 v47 5 (fX5_open v47 v48 s46)) fun r49 s50 =>
  some ((), s50)
set_option maxRecDepth 100000 in
set_option maxHeartbeats 4000000 in
theorem wX11_init {X : Nat × (Nat → Int32)} {d : Nat} (hd : 7 ≤ d) {a0 : Nat} {s0 : gH} : gGo X rvU mX11_init d 0 [(0, vr a0)] [] s0 (fX11_init a0 s0) := by
  unfold fX11_init
  refine go_aload_n 0 dX11_init_0 rfl rfl ?_
  refine go_objz go_RX11_1 gob_1 gob_2 (Nat.le_of_ble_eq_true rfl) dX11_init_1 (fun ha0 => ?_)
  refine go_aload_n 0 dX11_init_4 rfl rfl ?_
  refine go_mk gn_RX11_7 gcf_10 gcd_10 dX11_init_5 (fun r1 s2 hr1 => ?_)
  refine go_dup dX11_init_8 rfl ?_
  refine go_callIN_v (as := []) hr1 (List.mem_of_getElem? (i := 0) rfl) gim_X10_init rfl rfl gmf_X10_init (by omega) rfl rfl (Nat.le_of_ble_eq_true rfl) dX11_init_9 (fun _ _ h => cX10_init_c (by omega) h) (fun r3 s4 _ => ?_)
  refine go_putR gf_RX11_10 gcf_11 (gpf_11_0 rfl rfl) (Or.inl ⟨_, rfl⟩) gft_11_0 dX11_init_12 (fun s5 _ => ?_)
  refine go_aload_n 0 dX11_init_15 rfl rfl ?_
  refine go_mk gn_RX11_16 gcf_6 gcd_6 dX11_init_16 (fun r6 s7 hr6 => ?_)
  refine go_dup dX11_init_19 rfl ?_
  refine go_callIN_v (as := []) hr6 (List.mem_of_getElem? (i := 1) rfl) gim_X6_init rfl rfl gmf_X6_init (by omega) rfl rfl (Nat.le_of_ble_eq_true rfl) dX11_init_20 (fun _ _ h => cX6_init_c (by omega) h) (fun r8 s9 _ => ?_)
  refine go_putR gf_RX11_19 gcf_11 (gpf_11_1 rfl rfl) (Or.inl ⟨_, rfl⟩) gft_11_1 dX11_init_23 (fun s10 _ => ?_)
  refine go_aload_n 0 dX11_init_26 rfl rfl ?_
  refine go_mk gn_RX11_23 gcf_3 gcd_3 dX11_init_27 (fun r11 s12 hr11 => ?_)
  refine go_dup dX11_init_30 rfl ?_
  refine go_callIN_v (as := []) hr11 (List.mem_of_getElem? (i := 2) rfl) gim_X3_init rfl rfl gmf_X3_init (by omega) rfl rfl (Nat.le_of_ble_eq_true rfl) dX11_init_31 (fun _ _ h => cX3_init_c (by omega) h) (fun r13 s14 _ => ?_)
  refine go_putR gf_RX11_26 gcf_11 (gpf_11_2 rfl rfl) (Or.inl ⟨_, rfl⟩) gft_11_2 dX11_init_34 (fun s15 _ => ?_)
  refine go_aload_n 0 dX11_init_37 rfl rfl ?_
  refine go_mk gn_RX11_30 gcf_5 gcd_5 dX11_init_38 (fun r16 s17 hr16 => ?_)
  refine go_dup dX11_init_41 rfl ?_
  refine go_aload_n 0 dX11_init_42 rfl rfl ?_
  refine go_getR gf_RX11_26 gcf_11 gft_11_2 dX11_init_43 (fun v18 => ?_)
  refine go_callI_v (as := [vr v18]) hr16 gk_RX11_32 rfl gmf_X5_init (by omega) rfl rfl (Nat.le_of_ble_eq_true rfl) dX11_init_46 (fun _ _ h => cX5_init_c (by omega) h) (fun r19 s20 _ => ?_)
  refine go_putR gf_RX11_35 gcf_11 (gpf_11_3 rfl rfl) (Or.inl ⟨_, rfl⟩) gft_11_3 dX11_init_49 (fun s21 _ => ?_)
  refine go_aload_n 0 dX11_init_52 rfl rfl ?_
  refine go_mk gn_RX11_39 gcf_4 gcd_4 dX11_init_53 (fun r22 s23 hr22 => ?_)
  refine go_dup dX11_init_56 rfl ?_
  refine go_callI_v (as := []) hr22 gk_RX11_41 rfl gmf_X4_init (by omega) rfl rfl (Nat.le_of_ble_eq_true rfl) dX11_init_57 (fun _ _ h => cX4_init_c (by omega) h) (fun r24 s25 _ => ?_)
  refine go_putR gf_RX11_42 gcf_11 (gpf_11_4 rfl rfl) (Or.inl ⟨_, rfl⟩) gft_11_4 dX11_init_60 (fun s26 _ => ?_)
  refine go_aload_n 0 dX11_init_63 rfl rfl ?_
  refine go_mk gn_RX11_46 gcf_9 gcd_9 dX11_init_64 (fun r27 s28 hr27 => ?_)
  refine go_dup dX11_init_67 rfl ?_
  refine go_aload_n 0 dX11_init_68 rfl rfl ?_
  refine go_getR gf_RX11_26 gcf_11 gft_11_2 dX11_init_69 (fun v29 => ?_)
  refine go_callI_v (as := [vr v29]) hr27 gk_RX11_48 rfl gmf_X9_init (by omega) rfl rfl (Nat.le_of_ble_eq_true rfl) dX11_init_72 (fun _ _ h => cX9_init_c (by omega) h) (fun r30 s31 _ => ?_)
  refine go_putR gf_RX11_49 gcf_11 (gpf_11_5 rfl rfl) (Or.inl ⟨_, rfl⟩) gft_11_5 dX11_init_75 (fun s32 _ => ?_)
  refine go_aload_n 0 dX11_init_78 rfl rfl ?_
  refine go_bipush (v := 6) dX11_init_79 (by decide) ?_
  refine go_mka (t := 2) (by decide) gac_2 dX11_init_81 (fun r33 s34 => ?_)
  refine go_putR gf_RX11_53 gcf_11 (gpf_11_6 rfl rfl) (Or.inr ⟨_, rfl⟩) gft_11_6 dX11_init_83 (fun s35 _ => ?_)
  refine go_aload_n 0 dX11_init_86 rfl rfl ?_
  refine go_mk gn_RX11_57 gcf_1 gcd_1 dX11_init_87 (fun r36 s37 hr36 => ?_)
  refine go_dup dX11_init_90 rfl ?_
  refine go_callI_v (as := []) hr36 gk_RX11_59 rfl gmf_X1_init (by omega) rfl rfl (Nat.le_of_ble_eq_true rfl) dX11_init_91 (fun _ _ h => cX1_init_c (by omega) h) (fun r38 s39 _ => ?_)
  refine go_putR gf_RX11_60 gcf_11 gpl_11_7 (Or.inl ⟨_, rfl⟩) gft_11_7 dX11_init_94 (fun s40 _ => ?_)
  refine go_aload_n 0 dX11_init_97 rfl rfl ?_
  refine go_mk gn_RX11_57 gcf_1 gcd_1 dX11_init_98 (fun r41 s42 hr41 => ?_)
  refine go_dup dX11_init_101 rfl ?_
  refine go_callI_v (as := []) hr41 gk_RX11_59 rfl gmf_X1_init (by omega) rfl rfl (Nat.le_of_ble_eq_true rfl) dX11_init_102 (fun _ _ h => cX1_init_c (by omega) h) (fun r43 s44 _ => ?_)
  refine go_putR gf_RX11_64 gcf_11 gpl_11_8 (Or.inl ⟨_, rfl⟩) gft_11_8 dX11_init_105 (fun s45 _ => ?_)
  refine go_aload_n 0 dX11_init_108 rfl rfl ?_
  refine go_iconst (v := 1) dX11_init_109 (by decide) ?_
  refine go_putI gf_RX11_67 gcf_11 gpl_11_9 gft_11_9 dX11_init_110 (fun s46 _ => ?_)
  refine go_aload_n 0 dX11_init_113 rfl rfl ?_
  refine go_getR gf_RX11_35 gcf_11 gft_11_3 dX11_init_114 (fun v47 => ?_)
  refine go_aload_n 0 dX11_init_117 rfl rfl ?_
  refine go_getR gf_RX11_60 gcf_11 gft_11_7 dX11_init_118 (fun v48 => ?_)
  refine go_callV_v (as := [vr v48]) gk_RX11_71 gmf_X5_open (by decide) rfl (by omega) rfl rfl (Nat.le_of_ble_eq_true rfl) dX11_init_121 (fun _ _ h => cX5_open_c (by omega) h) (fun r49 s50 _ => ?_)
  exact go_retv rfl dX11_init_124
set_option maxRecDepth 100000 in
set_option maxHeartbeats 4000000 in
theorem cX11_init_c {d : Nat} (hd : 7 ≤ d) {a0 : Nat} {s0 : gH} {r : Unit} {s1 : gH} (h : fX11_init a0 s0 = some (r, s1)) : gMt mX11_init d [vr a0] s0 none s1 :=
  gMt_of (rv := rvU) (by decide +kernel) (Nat.le_of_ble_eq_true rfl) rfl (fun _ => wX11_init hd) h
