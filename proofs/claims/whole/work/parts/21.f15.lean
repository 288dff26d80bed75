/-! walks, written by a program -/
def gX12_leave (a0 : Nat) (x1 : Int32) (x2 : Int32) (s0 : gH) : Option (Int32 × gH) :=
  gb2 (gcv s0 a0 12 (fX12_canHand a0 x1 1 x2 s0)) fun r1 s2 =>
  if r1 = 0 then
    gb2 (gcv s2 a0 12 (fX12_isRefused a0 2 s2)) fun r4 s5 =>
    some (r4, s5)
  else
    gb2 (gcv s2 a0 12 (fX12_keeps a0 s2)) fun r6 s7 =>
    gb2 (gcv s7 a0 12 (fX12_hands a0 x1 1 x2 s7)) fun r8 s9 =>
    some (1, s9)
def fX12_leave (a0 : Nat) (x1 : Int32) (x2 : Int32) (s0 : gH) : Option (Int32 × gH) := gzr (gX12_leave a0 x1 x2 s0)
set_option maxRecDepth 100000 in
set_option maxHeartbeats 4000000 in
theorem wX12_leave {X : Nat × (Nat → Int32)} {d : Nat} (hd : 12 ≤ d) {a0 : Nat} {x1 : Int32} {x2 : Int32} {s0 : gH} : gGo X rvI mX12_leave d 0 [(0, vr a0), (1, vi x1), (2, vi x2)] [] s0 (gX12_leave a0 x1 x2 s0) := by
  unfold gX12_leave
  refine go_aload_n 0 dX12_leave_0 rfl rfl ?_
  refine go_iload_n 1 dX12_leave_1 rfl rfl ?_
  refine go_iconst (v := 1) dX12_leave_2 (by decide) ?_
  refine go_iload_n 2 dX12_leave_3 rfl rfl ?_
  refine go_callV_I (as := [vi x1, vi 1, vi x2]) gk_RX12_468 gmf_X12_canHand (by decide) rfl (by omega) rfl rfl (Nat.le_of_ble_eq_true rfl) dX12_leave_4 (fun _ _ h => cX12_canHand_c (by omega) h) (fun r1 s2 _ => ?_)
  refine go_if_ne (tgt := 16) dX12_leave_7 (by decide) (fun h3 => ?_) (fun h3 => ?_)
  · refine go_aload_n 0 dX12_leave_10 rfl rfl ?_
    refine go_iconst (v := 2) dX12_leave_11 (by decide) ?_
    refine go_callV_I (as := [vi 2]) gk_RX12_104 gmf_X12_isRefused (by decide) rfl (by omega) rfl rfl (Nat.le_of_ble_eq_true rfl) dX12_leave_12 (fun _ _ h => cX12_isRefused_c (by omega) h) (fun r4 s5 _ => ?_)
    exact go_ret rfl dX12_leave_15
  · refine go_aload_n 0 dX12_leave_16 rfl rfl ?_
    refine go_callV_v (as := []) gk_RX12_472 gmf_X12_keeps (by decide) rfl (by omega) rfl rfl (Nat.le_of_ble_eq_true rfl) dX12_leave_17 (fun _ _ h => cX12_keeps_c (by omega) h) (fun r6 s7 _ => ?_)
    refine go_aload_n 0 dX12_leave_20 rfl rfl ?_
    refine go_iload_n 1 dX12_leave_21 rfl rfl ?_
    refine go_iconst (v := 1) dX12_leave_22 (by decide) ?_
    refine go_iload_n 2 dX12_leave_23 rfl rfl ?_
    refine go_callV_v (as := [vi x1, vi 1, vi x2]) gk_RX12_475 gmf_X12_hands (by decide) rfl (by omega) rfl rfl (Nat.le_of_ble_eq_true rfl) dX12_leave_24 (fun _ _ h => cX12_hands_c (by omega) h) (fun r8 s9 _ => ?_)
    refine go_iconst (v := 1) dX12_leave_27 (by decide) ?_
    exact go_ret rfl dX12_leave_28
set_option maxRecDepth 100000 in
set_option maxHeartbeats 4000000 in
theorem cX12_leave_c {d : Nat} (hd : 12 ≤ d) {a0 : Nat} {x1 : Int32} {x2 : Int32} {s0 : gH} {r : Int32} {s1 : gH} (h : fX12_leave a0 x1 x2 s0 = some (r, s1)) : gMt mX12_leave d [vr a0, vi x1, vi x2] s0 (some (vi r)) s1 := by
  obtain ⟨h1, h2⟩ := gzr_some h
  exact gMt_of (rv := rvI) (by decide +kernel) (Nat.le_of_ble_eq_true rfl) ⟨_, rfl, gnarZ h2⟩ (fun _ => wX12_leave hd) h1
def gX11_every (a0 : Nat) (x1 : Int32) (x2 : Int32) (s0 : gH) : Option (Int32 × gH) :=
  (ggR s0 a0 11 7).bind fun v1 =>
  gb2 (gcv s0 v1 1 (fX1_ruleAt v1 x1 s0)) fun r2 s3 =>
  gjn (fun (s5 : gH) =>
      gb2 (gcv s5 a0 11 (fX11_deny a0 3 s5)) fun r6 s7 =>
      some (r6, s7)
  ) fun j4 =>
  if r2 = 0 then
    j4 s3
  else
    if x2 < 1 then
      j4 s3
    else
      if 99 < x2 then
        j4 s3
      else
        (ggI s3 r2 8 0).bind fun v11 =>
        if x2 = v11 then
          j4 s3
        else
          (ggR s3 a0 11 4).bind fun v13 =>
          (ggI s3 r2 8 0).bind fun v14 =>
          gb2 (gcv s3 v13 4 (fX4_openRule v13 1 x1 v14 s3)) fun r15 s16 =>
          (spI s16 r2 8 0 x2).bind fun s17 =>
          (ggR s17 a0 11 3).bind fun v18 =>
          gb2 (gcv s17 v18 5 (fX5_ruleChanged v18 x1 s17)) fun r19 s20 =>
          some (1, s20)
def fX11_every (a0 : Nat) (x1 : Int32) (x2 : Int32) (s0 : gH) : Option (Int32 × gH) := gzr (gX11_every a0 x1 x2 s0)
set_option maxRecDepth 100000 in
set_option maxHeartbeats 4000000 in
theorem wX11_every {X : Nat × (Nat → Int32)} {d : Nat} (hd : 6 ≤ d) {a0 : Nat} {x1 : Int32} {x2 : Int32} {s0 : gH} : gGo X rvI mX11_every d 0 [(0, vr a0), (1, vi x1), (2, vi x2)] [] s0 (gX11_every a0 x1 x2 s0) := by
  unfold gX11_every
  refine go_aload_n 0 dX11_every_0 rfl rfl ?_
  refine go_getR gf_RX11_60 gcf_11 gft_11_7 dX11_every_1 (fun v1 => ?_)
  refine go_iload_n 1 dX11_every_4 rfl rfl ?_
  refine go_callV_R (as := [vi x1]) gk_RX11_122 gmf_X1_ruleAt (by decide) rfl (by omega) rfl rfl (Nat.le_of_ble_eq_true rfl) dX11_every_5 (fun _ _ h => cX1_ruleAt_c (by omega) h) (fun r2 s3 _ => ?_)
  refine go_astore_n (L' := [(3, vr r2), (0, vr a0), (1, vi x1), (2, vi x2)]) dX11_every_8 rfl (by decide) rfl ?_
  refine go_aload_n 0 dX11_every_9 rfl rfl ?_
  refine go_gjn (P := fun j4 => ∀ (s5 : gH), gGo X rvI mX11_every d 32 [(0, vr a0)] [] s5 (j4 s5)) (fun s5 => ?_) (fun j4 hj4 => ?_)
  · refine go_aload_n 0 dX11_every_32 rfl rfl ?_
    refine go_iconst (v := 3) dX11_every_33 (by decide) ?_
    refine go_callV_I (as := [vi 3]) gk_RX11_86 gmf_X11_deny (by decide) rfl (by omega) rfl rfl (Nat.le_of_ble_eq_true rfl) dX11_every_34 (fun _ _ h => cX11_deny_c (by omega) h) (fun r6 s7 _ => ?_)
    exact go_ret rfl dX11_every_37
  · refine go_ifnull (tgt := 32) dX11_every_10 (by decide) (fun h8 => ?_) (fun h8 => ?_)
    · exact go_sub [1] (hj4 s3) rfl
    · refine go_iload_n 3 dX11_every_13 rfl rfl ?_
      refine go_iconst (v := 1) dX11_every_14 (by decide) ?_
      refine go_icmp_lt (tgt := 32) dX11_every_15 (by decide) (fun h9 => ?_) (fun h9 => ?_)
      · exact go_sub [1] (hj4 s3) rfl
      · refine go_iload_n 3 dX11_every_18 rfl rfl ?_
        refine go_bipush (v := 99) dX11_every_19 (by decide) ?_
        refine go_icmp_gt (tgt := 32) dX11_every_21 (by decide) (fun h10 => ?_) (fun h10 => ?_)
        · exact go_sub [1] (hj4 s3) rfl
        · refine go_iload_n 3 dX11_every_24 rfl rfl ?_
          refine go_aload_n 0 dX11_every_25 rfl rfl ?_
          refine go_getI gf_RX11_226 gcf_8 gft_8_0 dX11_every_26 (fun v11 => ?_)
          refine go_icmp_ne (tgt := 38) dX11_every_29 (by decide) (fun h12 => ?_) (fun h12 => ?_)
          · exact go_sub [1] (hj4 s3) rfl
          · refine go_aload_n 1 dX11_every_38 rfl rfl ?_
            refine go_getR gf_RX11_42 gcf_11 gft_11_4 dX11_every_39 (fun v13 => ?_)
            refine go_iconst (v := 1) dX11_every_42 (by decide) ?_
            refine go_iload_n 2 dX11_every_43 rfl rfl ?_
            refine go_aload_n 0 dX11_every_44 rfl rfl ?_
            refine go_getI gf_RX11_226 gcf_8 gft_8_0 dX11_every_45 (fun v14 => ?_)
            refine go_callV_v (as := [vi 1, vi x1, vi v14]) gk_RX11_229 gmf_X4_openRule (by decide) rfl (by omega) rfl rfl (Nat.le_of_ble_eq_true rfl) dX11_every_48 (fun _ _ h => cX4_openRule_c (by omega) h) (fun r15 s16 _ => ?_)
            refine go_aload_n 0 dX11_every_51 rfl rfl ?_
            refine go_iload_n 3 dX11_every_52 rfl rfl ?_
            refine go_putI gf_RX11_226 gcf_8 gpl_8_0 gft_8_0 dX11_every_53 (fun s17 _ => ?_)
            refine go_aload_n 1 dX11_every_56 rfl rfl ?_
            refine go_getR gf_RX11_35 gcf_11 gft_11_3 dX11_every_57 (fun v18 => ?_)
            refine go_iload_n 2 dX11_every_60 rfl rfl ?_
            refine go_callV_v (as := [vi x1]) gk_RX11_233 gmf_X5_ruleChanged (by decide) rfl (by omega) rfl rfl (Nat.le_of_ble_eq_true rfl) dX11_every_61 (fun _ _ h => cX5_ruleChanged_c (by omega) h) (fun r19 s20 _ => ?_)
            refine go_iconst (v := 1) dX11_every_64 (by decide) ?_
            exact go_ret rfl dX11_every_65
set_option maxRecDepth 100000 in
set_option maxHeartbeats 4000000 in
theorem cX11_every_c {d : Nat} (hd : 6 ≤ d) {a0 : Nat} {x1 : Int32} {x2 : Int32} {s0 : gH} {r : Int32} {s1 : gH} (h : fX11_every a0 x1 x2 s0 = some (r, s1)) : gMt mX11_every d [vr a0, vi x1, vi x2] s0 (some (vi r)) s1 := by
  obtain ⟨h1, h2⟩ := gzr_some h
  exact gMt_of (rv := rvI) (by decide +kernel) (Nat.le_of_ble_eq_true rfl) ⟨_, rfl, gnarZ h2⟩ (fun _ => wX11_every hd) h1
def gX12_every (a0 : Nat) (x1 : Int32) (x2 : Int32) (s0 : gH) : Option (Int32 × gH) :=
  gb2 (gcv s0 a0 12 (fX12_isRule a0 x1 s0)) fun r1 s2 =>
  gjn (fun (s4 : gH) =>
      gb2 (gcv s4 a0 12 (fX12_isRefused a0 3 s4)) fun r5 s6 =>
      some (r5, s6)
  ) fun j3 =>
  if r1 = 0 then
    j3 s2
  else
    gb2 (fX12_isIn x2.toInt64 1 99 s2) fun r8 s9 =>
    if r8 = 0 then
      j3 s9
    else
      (ggR s9 a0 12 29).bind fun v11 =>
      (gaI s9 v11 2 (2 * x1)).bind fun v12 =>
      if v12 = x2 then
        j3 s9
      else
        gb2 (gcv s9 a0 12 (fX12_keeps a0 s9)) fun r14 s15 =>
        (ggR s15 a0 12 29).bind fun v16 =>
        (saI s15 v16 2 (2 * x1) x2).bind fun s17 =>
        gb2 (gcv s17 a0 12 (fX12_allAnew a0 s17)) fun r18 s19 =>
        some (1, s19)
def fX12_every (a0 : Nat) (x1 : Int32) (x2 : Int32) (s0 : gH) : Option (Int32 × gH) := gzr (gX12_every a0 x1 x2 s0)
set_option maxRecDepth 100000 in
set_option maxHeartbeats 4000000 in
theorem wX12_every {X : Nat × (Nat → Int32)} {d : Nat} (hd : 2 ≤ d) {a0 : Nat} {x1 : Int32} {x2 : Int32} {s0 : gH} : gGo X rvI mX12_every d 0 [(0, vr a0), (1, vi x1), (2, vi x2)] [] s0 (gX12_every a0 x1 x2 s0) := by
  unfold gX12_every
  refine go_aload_n 0 dX12_every_0 rfl rfl ?_
  refine go_iload_n 1 dX12_every_1 rfl rfl ?_
  refine go_callV_I (as := [vi x1]) gk_RX12_313 gmf_X12_isRule (by decide) rfl (by omega) rfl rfl (Nat.le_of_ble_eq_true rfl) dX12_every_2 (fun _ _ h => cX12_isRule_c (by omega) h) (fun r1 s2 _ => ?_)
  refine go_gjn (P := fun j3 => ∀ (s4 : gH), gGo X rvI mX12_every d 32 [(0, vr a0)] [] s4 (j3 s4)) (fun s4 => ?_) (fun j3 hj3 => ?_)
  · refine go_aload_n 0 dX12_every_32 rfl rfl ?_
    refine go_iconst (v := 3) dX12_every_33 (by decide) ?_
    refine go_callV_I (as := [vi 3]) gk_RX12_104 gmf_X12_isRefused (by decide) rfl (by omega) rfl rfl (Nat.le_of_ble_eq_true rfl) dX12_every_34 (fun _ _ h => cX12_isRefused_c (by omega) h) (fun r5 s6 _ => ?_)
    exact go_ret rfl dX12_every_37
  · refine go_if_eq (tgt := 32) dX12_every_5 (by decide) (fun h7 => ?_) (fun h7 => ?_)
    · exact go_sub [0] (hj3 s2) rfl
    · refine go_iload_n 2 dX12_every_8 rfl rfl ?_
      refine go_i2l dX12_every_9 ?_
      refine go_lconst (v := 1) dX12_every_10 (by decide) ?_
      refine go_ldc2 gcl_RX12_479 dX12_every_11 ?_
      refine go_callS_I (as := [vl x2.toInt64, vl 1, vl 99]) gk_RX12_110 gmf_X12_isIn (by omega) rfl rfl (Nat.le_of_ble_eq_true rfl) dX12_every_14 (fun _ _ h => cX12_isIn_c (by omega) h) (fun r8 s9 _ => ?_)
      refine go_if_eq (tgt := 32) dX12_every_17 (by decide) (fun h10 => ?_) (fun h10 => ?_)
      · exact go_sub [0] (hj3 s9) rfl
      · refine go_aload_n 0 dX12_every_20 rfl rfl ?_
        refine go_getR gf_RX12_54 gcf_12 gft_12_29 dX12_every_21 (fun v11 => ?_)
        refine go_iconst (v := 2) dX12_every_24 (by decide) ?_
        refine go_iload_n 1 dX12_every_25 rfl rfl ?_
        refine go_imul dX12_every_26 ?_
        refine go_iaload dX12_every_27 (fun v12 _ => ?_)
        refine go_iload_n 2 dX12_every_28 rfl rfl ?_
        refine go_icmp_ne (tgt := 38) dX12_every_29 (by decide) (fun h13 => ?_) (fun h13 => ?_)
        · exact go_sub [0] (hj3 s9) rfl
        · refine go_aload_n 0 dX12_every_38 rfl rfl ?_
          refine go_callV_v (as := []) gk_RX12_472 gmf_X12_keeps (by decide) rfl (by omega) rfl rfl (Nat.le_of_ble_eq_true rfl) dX12_every_39 (fun _ _ h => cX12_keeps_c (by omega) h) (fun r14 s15 _ => ?_)
          refine go_aload_n 0 dX12_every_42 rfl rfl ?_
          refine go_getR gf_RX12_54 gcf_12 gft_12_29 dX12_every_43 (fun v16 => ?_)
          refine go_iconst (v := 2) dX12_every_46 (by decide) ?_
          refine go_iload_n 1 dX12_every_47 rfl rfl ?_
          refine go_imul dX12_every_48 ?_
          refine go_iload_n 2 dX12_every_49 rfl rfl ?_
          refine go_iastore dX12_every_50 (fun s17 _ => ?_)
          refine go_aload_n 0 dX12_every_51 rfl rfl ?_
          refine go_callV_v (as := []) gk_RX12_310 gmf_X12_allAnew (by decide) rfl (by omega) rfl rfl (Nat.le_of_ble_eq_true rfl) dX12_every_52 (fun _ _ h => cX12_allAnew_c (by omega) h) (fun r18 s19 _ => ?_)
          refine go_iconst (v := 1) dX12_every_55 (by decide) ?_
          exact go_ret rfl dX12_every_56
set_option maxRecDepth 100000 in
set_option maxHeartbeats 4000000 in
theorem cX12_every_c {d : Nat} (hd : 2 ≤ d) {a0 : Nat} {x1 : Int32} {x2 : Int32} {s0 : gH} {r : Int32} {s1 : gH} (h : fX12_every a0 x1 x2 s0 = some (r, s1)) : gMt mX12_every d [vr a0, vi x1, vi x2] s0 (some (vi r)) s1 := by
  obtain ⟨h1, h2⟩ := gzr_some h
  exact gMt_of (rv := rvI) (by decide +kernel) (Nat.le_of_ble_eq_true rfl) ⟨_, rfl, gnarZ h2⟩ (fun _ => wX12_every hd) h1
def fX9_forget (a0 : Nat) (s0 : gH) : Option (Unit × gH) :=
  (spI s0 a0 9 7 0).bind fun s1 =>
  some ((), s1)
set_option maxRecDepth 100000 in
set_option maxHeartbeats 4000000 in
theorem wX9_forget {X : Nat × (Nat → Int32)} {d : Nat} (hd : 0 ≤ d) {a0 : Nat} {s0 : gH} : gGo X rvU mX9_forget d 0 [(0, vr a0)] [] s0 (fX9_forget a0 s0) := by
  unfold fX9_forget
  refine go_aload_n 0 dX9_forget_0 rfl rfl ?_
  refine go_iconst (v := 0) dX9_forget_1 (by decide) ?_
  refine go_putZ gf_RX9_71 gcf_9 gpl_9_7 gft_9_7 (by decide) dX9_forget_2 (fun s1 _ => ?_)
  exact go_retv rfl dX9_forget_5
set_option maxRecDepth 100000 in
set_option maxHeartbeats 4000000 in
theorem cX9_forget_c {d : Nat} (hd : 0 ≤ d) {a0 : Nat} {s0 : gH} {r : Unit} {s1 : gH} (h : fX9_forget a0 s0 = some (r, s1)) : gMt mX9_forget d [vr a0] s0 none s1 :=
  gMt_of (rv := rvU) (by decide +kernel) (Nat.le_of_ble_eq_true rfl) rfl (fun _ => wX9_forget hd) h
def gX11_from (a0 : Nat) (x1 : Int32) (x2 : Int32) (s0 : gH) : Option (Int32 × gH) :=
  (ggR s0 a0 11 7).bind fun v1 =>
  gb2 (gcv s0 v1 1 (fX1_ruleAt v1 x1 s0)) fun r2 s3 =>
  gjn (fun (s5 : gH) =>
      gb2 (gcv s5 a0 11 (fX11_deny a0 3 s5)) fun r6 s7 =>
      some (r6, s7)
  ) fun j4 =>
  if r2 = 0 then
    j4 s3
  else
    gb2 (fX11_isDay x2 s3) fun r9 s10 =>
    if r9 = 0 then
      j4 s10
    else
      (ggI s10 r2 8 2).bind fun v12 =>
      if x2 = v12 then
        j4 s10
      else
        (ggR s10 a0 11 4).bind fun v14 =>
        (ggI s10 r2 8 2).bind fun v15 =>
        gb2 (gcv s10 v14 4 (fX4_openRule v14 2 x1 v15 s10)) fun r16 s17 =>
        gb2 (gcv s17 r2 8 (fX8_beginAt r2 x2 s17)) fun r18 s19 =>
        (ggR s19 a0 11 3).bind fun v20 =>
        gb2 (gcv s19 v20 5 (fX5_ruleChanged v20 x1 s19)) fun r21 s22 =>
        (ggR s22 a0 11 5).bind fun v23 =>
        gb2 (gcv s22 v23 9 (fX9_forget v23 s22)) fun r24 s25 =>
        some (1, s25)
def fX11_from (a0 : Nat) (x1 : Int32) (x2 : Int32) (s0 : gH) : Option (Int32 × gH) := gzr (gX11_from a0 x1 x2 s0)
set_option maxRecDepth 100000 in
set_option maxHeartbeats 4000000 in
theorem wX11_from {X : Nat × (Nat → Int32)} {d : Nat} (hd : 6 ≤ d) {a0 : Nat} {x1 : Int32} {x2 : Int32} {s0 : gH} : gGo X rvI mX11_from d 0 [(0, vr a0), (1, vi x1), (2, vi x2)] [] s0 (gX11_from a0 x1 x2 s0) := by
  unfold gX11_from
  refine go_aload_n 0 dX11_from_0 rfl rfl ?_
  refine go_getR gf_RX11_60 gcf_11 gft_11_7 dX11_from_1 (fun v1 => ?_)
  refine go_iload_n 1 dX11_from_4 rfl rfl ?_
  refine go_callV_R (as := [vi x1]) gk_RX11_122 gmf_X1_ruleAt (by decide) rfl (by omega) rfl rfl (Nat.le_of_ble_eq_true rfl) dX11_from_5 (fun _ _ h => cX1_ruleAt_c (by omega) h) (fun r2 s3 _ => ?_)
  refine go_astore_n (L' := [(3, vr r2), (0, vr a0), (1, vi x1), (2, vi x2)]) dX11_from_8 rfl (by decide) rfl ?_
  refine go_aload_n 0 dX11_from_9 rfl rfl ?_
  refine go_gjn (P := fun j4 => ∀ (s5 : gH), gGo X rvI mX11_from d 28 [(0, vr a0)] [] s5 (j4 s5)) (fun s5 => ?_) (fun j4 hj4 => ?_)
  · refine go_aload_n 0 dX11_from_28 rfl rfl ?_
    refine go_iconst (v := 3) dX11_from_29 (by decide) ?_
    refine go_callV_I (as := [vi 3]) gk_RX11_86 gmf_X11_deny (by decide) rfl (by omega) rfl rfl (Nat.le_of_ble_eq_true rfl) dX11_from_30 (fun _ _ h => cX11_deny_c (by omega) h) (fun r6 s7 _ => ?_)
    exact go_ret rfl dX11_from_33
  · refine go_ifnull (tgt := 28) dX11_from_10 (by decide) (fun h8 => ?_) (fun h8 => ?_)
    · exact go_sub [1] (hj4 s3) rfl
    · refine go_iload_n 3 dX11_from_13 rfl rfl ?_
      refine go_callS_I (as := [vi x2]) gk_RX11_139 gmf_X11_isDay (by omega) rfl rfl (Nat.le_of_ble_eq_true rfl) dX11_from_14 (fun _ _ h => cX11_isDay_c (by omega) h) (fun r9 s10 _ => ?_)
      refine go_if_eq (tgt := 28) dX11_from_17 (by decide) (fun h11 => ?_) (fun h11 => ?_)
      · exact go_sub [1] (hj4 s10) rfl
      · refine go_iload_n 3 dX11_from_20 rfl rfl ?_
        refine go_aload_n 0 dX11_from_21 rfl rfl ?_
        refine go_getI gf_RX11_236 gcf_8 gft_8_2 dX11_from_22 (fun v12 => ?_)
        refine go_icmp_ne (tgt := 34) dX11_from_25 (by decide) (fun h13 => ?_) (fun h13 => ?_)
        · exact go_sub [1] (hj4 s10) rfl
        · refine go_aload_n 1 dX11_from_34 rfl rfl ?_
          refine go_getR gf_RX11_42 gcf_11 gft_11_4 dX11_from_35 (fun v14 => ?_)
          refine go_iconst (v := 2) dX11_from_38 (by decide) ?_
          refine go_iload_n 2 dX11_from_39 rfl rfl ?_
          refine go_aload_n 0 dX11_from_40 rfl rfl ?_
          refine go_getI gf_RX11_236 gcf_8 gft_8_2 dX11_from_41 (fun v15 => ?_)
          refine go_callV_v (as := [vi 2, vi x1, vi v15]) gk_RX11_229 gmf_X4_openRule (by decide) rfl (by omega) rfl rfl (Nat.le_of_ble_eq_true rfl) dX11_from_44 (fun _ _ h => cX4_openRule_c (by omega) h) (fun r16 s17 _ => ?_)
          refine go_aload_n 0 dX11_from_47 rfl rfl ?_
          refine go_iload_n 3 dX11_from_48 rfl rfl ?_
          refine go_callV_v (as := [vi x2]) gk_RX11_239 gmf_X8_beginAt (by decide) rfl (by omega) rfl rfl (Nat.le_of_ble_eq_true rfl) dX11_from_49 (fun _ _ h => cX8_beginAt_c (by omega) h) (fun r18 s19 _ => ?_)
          refine go_aload_n 1 dX11_from_52 rfl rfl ?_
          refine go_getR gf_RX11_35 gcf_11 gft_11_3 dX11_from_53 (fun v20 => ?_)
          refine go_iload_n 2 dX11_from_56 rfl rfl ?_
          refine go_callV_v (as := [vi x1]) gk_RX11_233 gmf_X5_ruleChanged (by decide) rfl (by omega) rfl rfl (Nat.le_of_ble_eq_true rfl) dX11_from_57 (fun _ _ h => cX5_ruleChanged_c (by omega) h) (fun r21 s22 _ => ?_)
          refine go_aload_n 1 dX11_from_60 rfl rfl ?_
          refine go_getR gf_RX11_49 gcf_11 gft_11_5 dX11_from_61 (fun v23 => ?_)
          refine go_callV_v (as := []) gk_RX11_242 gmf_X9_forget (by decide) rfl (by omega) rfl rfl (Nat.le_of_ble_eq_true rfl) dX11_from_64 (fun _ _ h => cX9_forget_c (by omega) h) (fun r24 s25 _ => ?_)
          refine go_iconst (v := 1) dX11_from_67 (by decide) ?_
          exact go_ret rfl dX11_from_68
set_option maxRecDepth 100000 in
set_option maxHeartbeats 4000000 in
theorem cX11_from_c {d : Nat} (hd : 6 ≤ d) {a0 : Nat} {x1 : Int32} {x2 : Int32} {s0 : gH} {r : Int32} {s1 : gH} (h : fX11_from a0 x1 x2 s0 = some (r, s1)) : gMt mX11_from d [vr a0, vi x1, vi x2] s0 (some (vi r)) s1 := by
  obtain ⟨h1, h2⟩ := gzr_some h
  exact gMt_of (rv := rvI) (by decide +kernel) (Nat.le_of_ble_eq_true rfl) ⟨_, rfl, gnarZ h2⟩ (fun _ => wX11_from hd) h1
def gX12_from (a0 : Nat) (x1 : Int32) (x2 : Int32) (s0 : gH) : Option (Int32 × gH) :=
  gb2 (gcv s0 a0 12 (fX12_isRule a0 x1 s0)) fun r1 s2 =>
  gjn (fun (s4 : gH) =>
      gb2 (gcv s4 a0 12 (fX12_isRefused a0 3 s4)) fun r5 s6 =>
      some (r5, s6)
  ) fun j3 =>
  if r1 = 0 then
    j3 s2
  else
    gb2 (fX12_isDay x2 s2) fun r8 s9 =>
    if r8 = 0 then
      j3 s9
    else
      gb2 (gcv s9 a0 12 (fX12_fromOf a0 x1 s9)) fun r11 s12 =>
      if r11 = x2 then
        j3 s12
      else
        gb2 (gcv s12 a0 12 (fX12_keeps a0 s12)) fun r14 s15 =>
        (ggR s15 a0 12 29).bind fun v16 =>
        (saI s15 v16 2 ((2 * x1) + 1) x2).bind fun s17 =>
        gb2 (gcv s17 a0 12 (fX12_allAnew a0 s17)) fun r18 s19 =>
        some (1, s19)
def fX12_from (a0 : Nat) (x1 : Int32) (x2 : Int32) (s0 : gH) : Option (Int32 × gH) := gzr (gX12_from a0 x1 x2 s0)
set_option maxRecDepth 100000 in
set_option maxHeartbeats 4000000 in
theorem wX12_from {X : Nat × (Nat → Int32)} {d : Nat} (hd : 2 ≤ d) {a0 : Nat} {x1 : Int32} {x2 : Int32} {s0 : gH} : gGo X rvI mX12_from d 0 [(0, vr a0), (1, vi x1), (2, vi x2)] [] s0 (gX12_from a0 x1 x2 s0) := by
  unfold gX12_from
  refine go_aload_n 0 dX12_from_0 rfl rfl ?_
  refine go_iload_n 1 dX12_from_1 rfl rfl ?_
  refine go_callV_I (as := [vi x1]) gk_RX12_313 gmf_X12_isRule (by decide) rfl (by omega) rfl rfl (Nat.le_of_ble_eq_true rfl) dX12_from_2 (fun _ _ h => cX12_isRule_c (by omega) h) (fun r1 s2 _ => ?_)
  refine go_gjn (P := fun j3 => ∀ (s4 : gH), gGo X rvI mX12_from d 24 [(0, vr a0)] [] s4 (j3 s4)) (fun s4 => ?_) (fun j3 hj3 => ?_)
  · refine go_aload_n 0 dX12_from_24 rfl rfl ?_
    refine go_iconst (v := 3) dX12_from_25 (by decide) ?_
    refine go_callV_I (as := [vi 3]) gk_RX12_104 gmf_X12_isRefused (by decide) rfl (by omega) rfl rfl (Nat.le_of_ble_eq_true rfl) dX12_from_26 (fun _ _ h => cX12_isRefused_c (by omega) h) (fun r5 s6 _ => ?_)
    exact go_ret rfl dX12_from_29
  · refine go_if_eq (tgt := 24) dX12_from_5 (by decide) (fun h7 => ?_) (fun h7 => ?_)
    · exact go_sub [0] (hj3 s2) rfl
    · refine go_iload_n 2 dX12_from_8 rfl rfl ?_
      refine go_callS_I (as := [vi x2]) gk_RX12_387 gmf_X12_isDay (by omega) rfl rfl (Nat.le_of_ble_eq_true rfl) dX12_from_9 (fun _ _ h => cX12_isDay_c (by omega) h) (fun r8 s9 _ => ?_)
      refine go_if_eq (tgt := 24) dX12_from_12 (by decide) (fun h10 => ?_) (fun h10 => ?_)
      · exact go_sub [0] (hj3 s9) rfl
      · refine go_aload_n 0 dX12_from_15 rfl rfl ?_
        refine go_iload_n 1 dX12_from_16 rfl rfl ?_
        refine go_callV_I (as := [vi x1]) gk_RX12_333 gmf_X12_fromOf (by decide) rfl (by omega) rfl rfl (Nat.le_of_ble_eq_true rfl) dX12_from_17 (fun _ _ h => cX12_fromOf_c (by omega) h) (fun r11 s12 _ => ?_)
        refine go_iload_n 2 dX12_from_20 rfl rfl ?_
        refine go_icmp_ne (tgt := 30) dX12_from_21 (by decide) (fun h13 => ?_) (fun h13 => ?_)
        · exact go_sub [0] (hj3 s12) rfl
        · refine go_aload_n 0 dX12_from_30 rfl rfl ?_
          refine go_callV_v (as := []) gk_RX12_472 gmf_X12_keeps (by decide) rfl (by omega) rfl rfl (Nat.le_of_ble_eq_true rfl) dX12_from_31 (fun _ _ h => cX12_keeps_c (by omega) h) (fun r14 s15 _ => ?_)
          refine go_aload_n 0 dX12_from_34 rfl rfl ?_
          refine go_getR gf_RX12_54 gcf_12 gft_12_29 dX12_from_35 (fun v16 => ?_)
          refine go_iconst (v := 2) dX12_from_38 (by decide) ?_
          refine go_iload_n 1 dX12_from_39 rfl rfl ?_
          refine go_imul dX12_from_40 ?_
          refine go_iconst (v := 1) dX12_from_41 (by decide) ?_
          refine go_iadd dX12_from_42 ?_
          refine go_iload_n 2 dX12_from_43 rfl rfl ?_
          refine go_iastore dX12_from_44 (fun s17 _ => ?_)
          refine go_aload_n 0 dX12_from_45 rfl rfl ?_
          refine go_callV_v (as := []) gk_RX12_310 gmf_X12_allAnew (by decide) rfl (by omega) rfl rfl (Nat.le_of_ble_eq_true rfl) dX12_from_46 (fun _ _ h => cX12_allAnew_c (by omega) h) (fun r18 s19 _ => ?_)
          refine go_iconst (v := 1) dX12_from_49 (by decide) ?_
          exact go_ret rfl dX12_from_50
set_option maxRecDepth 100000 in
set_option maxHeartbeats 4000000 in
theorem cX12_from_c {d : Nat} (hd : 2 ≤ d) {a0 : Nat} {x1 : Int32} {x2 : Int32} {s0 : gH} {r : Int32} {s1 : gH} (h : fX12_from a0 x1 x2 s0 = some (r, s1)) : gMt mX12_from d [vr a0, vi x1, vi x2] s0 (some (vi r)) s1 := by
  obtain ⟨h1, h2⟩ := gzr_some h
  exact gMt_of (rv := rvI) (by decide +kernel) (Nat.le_of_ble_eq_true rfl) ⟨_, rfl, gnarZ h2⟩ (fun _ => wX12_from hd) h1
def fX11_draw (a0 : Nat) (x1 : Int32) (s0 : gH) : Option (Int32 × gH) :=
  (ggI s0 a0 11 9).bind fun v1 =>
  (spI s0 a0 11 9 ((((1103515245 * v1.toInt64) + 12345) &&& 2147483647).toInt32)).bind fun s2 =>
  if x1 < 1 then
    some (0, s2)
  else
    (ggI s2 a0 11 9).bind fun v4 =>
    if x1 = 0 then none else
    some (gIrem (v4 / 64) x1, s2)
set_option maxRecDepth 100000 in
set_option maxHeartbeats 4000000 in
theorem wX11_draw {X : Nat × (Nat → Int32)} {d : Nat} (hd : 0 ≤ d) {a0 : Nat} {x1 : Int32} {s0 : gH} : gGo X rvI mX11_draw d 0 [(0, vr a0), (1, vi x1)] [] s0 (fX11_draw a0 x1 s0) := by
  unfold fX11_draw
  refine go_aload_n 0 dX11_draw_0 rfl rfl ?_
  refine go_ldc2 gcl_RX11_282 dX11_draw_1 ?_
  refine go_aload_n 0 dX11_draw_4 rfl rfl ?_
  refine go_getI gf_RX11_67 gcf_11 gft_11_9 dX11_draw_5 (fun v1 => ?_)
  refine go_i2l dX11_draw_8 ?_
  refine go_lmul dX11_draw_9 ?_
  refine go_ldc2 gcl_RX11_284 dX11_draw_10 ?_
  refine go_ladd dX11_draw_13 ?_
  refine go_ldc2 gcl_RX11_286 dX11_draw_14 ?_
  refine go_land dX11_draw_17 ?_
  refine go_l2i dX11_draw_18 ?_
  refine go_putI gf_RX11_67 gcf_11 gpl_11_9 gft_11_9 dX11_draw_19 (fun s2 _ => ?_)
  refine go_iload_n 1 dX11_draw_22 rfl rfl ?_
  refine go_iconst (v := 1) dX11_draw_23 (by decide) ?_
  refine go_icmp_ge (tgt := 31) dX11_draw_24 (by decide) (fun h3 => ?_) (fun h3 => ?_)
  · refine go_iconst (v := 0) dX11_draw_27 (by decide) ?_
    refine go_goto (tgt := 40) dX11_draw_28 (by decide) ?_
    exact go_ret rfl dX11_draw_40
  · refine go_aload_n 0 dX11_draw_31 rfl rfl ?_
    refine go_getI gf_RX11_67 gcf_11 gft_11_9 dX11_draw_32 (fun v4 => ?_)
    refine go_bipush (v := 64) dX11_draw_35 (by decide) ?_
    refine go_idivc dX11_draw_37 (by decide) ?_
    refine go_iload_n 1 dX11_draw_38 rfl rfl ?_
    refine go_irem dX11_draw_39 (fun _ => ?_)
    exact go_ret rfl dX11_draw_40
set_option maxRecDepth 100000 in
set_option maxHeartbeats 4000000 in
theorem cX11_draw_c {d : Nat} (hd : 0 ≤ d) {a0 : Nat} {x1 : Int32} {s0 : gH} {r : Int32} {s1 : gH} (h : fX11_draw a0 x1 s0 = some (r, s1)) : gMt mX11_draw d [vr a0, vi x1] s0 (some (vi r)) s1 :=
  gMt_of (rv := rvI) (by decide +kernel) (Nat.le_of_ble_eq_true rfl) ⟨_, rfl, rfl⟩ (fun _ => wX11_draw hd) h
def gX11_chance_L44  (a0 : Nat) (x1 : Int32) (a2 : Nat) : Nat → Int32 → gH → Option (Int32 × gH)
  | 0, _, _ => none
  | n + 1, x3, s0 =>
    if x3 < x1 then
      (ggR s0 a0 11 7).bind fun v18 =>
      (ggI s0 v18 1 1).bind fun v19 =>
      gb2 (gcv s0 a0 11 (fX11_draw a0 v19 s0)) fun r20 s21 =>
      gb2 (gcv s21 a0 11 (fX11_draw a0 14610 s21)) fun r22 s23 =>
      (ggR s23 a0 11 3).bind fun v24 =>
      gb2 (gcv s23 v24 5 (fX5_daysOf v24 (6 + r20) s23)) fun r25 s26 =>
      gjn (fun (z28 : Int32) (s29 : gH) =>
          (ggR s29 a0 11 3).bind fun v30 =>
          gjn (fun (z32 : Int32) (z33 : Int32) (z34 : Int32) (b35 : Nat) (s36 : gH) =>
              gb2 (gcv s36 b35 5 (fX5_turn b35 z34 z33 z32 s36)) fun r37 s38 =>
              if r37 = -1 then
                gX11_chance_L44 a0 x1 a2 n (x3 + 1) s38
              else
                gb2 (gcv s38 a2 7 (fX7_append a2 r37 s38)) fun r40 s41 =>
                gX11_chance_L44 a0 x1 a2 n (x3 + 1) s41
          ) fun j31 =>
          if z28 = 0 then
            j31 1 r22 r20 v30 s29
          else
            j31 2 r22 r20 v30 s29
      ) fun j27 =>
      if r25 = 0 then
        j27 0 s26
      else
        gb2 (gcv s26 r25 2 (fX2_holds r25 r22 s26)) fun r44 s45 =>
        if r44 = 0 then
          j27 0 s45
        else
          j27 1 s45
    else
      (ggI s0 a2 7 1).bind fun v47 =>
      some (v47, s0)
set_option maxRecDepth 100000 in
set_option maxHeartbeats 4000000 in
theorem wX11_chance_L44 {X : Nat × (Nat → Int32)} {d : Nat} (hd : 6 ≤ d)  (a0 : Nat) (x1 : Int32) (a2 : Nat) : ∀ (n : Nat) (x3 : Int32) (s0 : gH), gGo X rvI mX11_chance d 44 [(0, vr a0), (1, vi x1), (2, vr a2), (3, vi x3)] [] s0 (gX11_chance_L44 a0 x1 a2 n x3 s0) := by
  intro n
  induction n with
  | zero => intros; exact go_none
  | succ n ih =>
    intro x3 s0
    show gGo _ _ _ _ _ _ _ _ (gX11_chance_L44 a0 x1 a2 (n + 1) x3 s0)
    unfold gX11_chance_L44
    refine go_iload_n 3 dX11_chance_44 rfl rfl ?_
    refine go_iload_n 1 dX11_chance_45 rfl rfl ?_
    refine go_icmp_ge (tgt := 148) dX11_chance_46 (by decide) (fun h17 => ?_) (fun h17 => ?_)
    · refine go_aload_n 0 dX11_chance_49 rfl rfl ?_
      refine go_aload_n 0 dX11_chance_50 rfl rfl ?_
      refine go_getR gf_RX11_60 gcf_11 gft_11_7 dX11_chance_51 (fun v18 => ?_)
      refine go_getI gf_RX11_104 gcf_1 gft_1_1 dX11_chance_54 (fun v19 => ?_)
      refine go_callV_I (as := [vi v19]) gk_RX11_252 gmf_X11_draw (by decide) rfl (by omega) rfl rfl (Nat.le_of_ble_eq_true rfl) dX11_chance_57 (fun _ _ h => cX11_draw_c (by omega) h) (fun r20 s21 _ => ?_)
      refine go_istore (L' := [(4, vi r20), (0, vr a0), (1, vi x1), (2, vr a2), (3, vi x3)]) dX11_chance_60 (by decide) rfl ?_
      refine go_aload_n 1 dX11_chance_62 rfl rfl ?_
      refine go_sipush (v := 14610) dX11_chance_63 (by decide) ?_
      refine go_callV_I (as := [vi 14610]) gk_RX11_252 gmf_X11_draw (by decide) rfl (by omega) rfl rfl (Nat.le_of_ble_eq_true rfl) dX11_chance_66 (fun _ _ h => cX11_draw_c (by omega) h) (fun r22 s23 _ => ?_)
      refine go_istore (L' := [(5, vi r22), (4, vi r20), (0, vr a0), (1, vi x1), (2, vr a2), (3, vi x3)]) dX11_chance_69 (by decide) rfl ?_
      refine go_aload_n 2 dX11_chance_71 rfl rfl ?_
      refine go_getR gf_RX11_35 gcf_11 gft_11_3 dX11_chance_72 (fun v24 => ?_)
      refine go_bipush (v := 6) dX11_chance_75 (by decide) ?_
      refine go_iload 1 dX11_chance_77 rfl ?_
      refine go_iadd dX11_chance_79 ?_
      refine go_callV_R (as := [vi (6 + r20)]) gk_RX11_145 gmf_X5_daysOf (by decide) rfl (by omega) rfl rfl (Nat.le_of_ble_eq_true rfl) dX11_chance_80 (fun _ _ h => cX5_daysOf_c (by omega) h) (fun r25 s26 _ => ?_)
      refine go_astore (L' := [(6, vr r25), (5, vi r22), (4, vi r20), (0, vr a0), (1, vi x1), (2, vr a2), (3, vi x3)]) dX11_chance_83 (by decide) rfl ?_
      refine go_aload 0 dX11_chance_85 rfl ?_
      refine go_gjn (P := fun j27 => ∀ (z28 : Int32) (s29 : gH), gGo X rvI mX11_chance d 105 [(0, vr a0), (1, vi x1), (2, vr a2), (3, vi x3), (4, vi r20), (5, vi r22)] [vi z28] s29 (j27 z28 s29)) (fun z28 s29 => ?_) (fun j27 hj27 => ?_)
      · refine go_istore (L' := [(7, vi z28), (0, vr a0), (1, vi x1), (2, vr a2), (3, vi x3), (4, vi r20), (5, vi r22)]) dX11_chance_105 (by decide) rfl ?_
        refine go_aload_n 1 dX11_chance_107 rfl rfl ?_
        refine go_getR gf_RX11_35 gcf_11 gft_11_3 dX11_chance_108 (fun v30 => ?_)
        refine go_iload 5 dX11_chance_111 rfl ?_
        refine go_iload 6 dX11_chance_113 rfl ?_
        refine go_iload 0 dX11_chance_115 rfl ?_
        refine go_gjn (P := fun j31 => ∀ (z32 : Int32) (z33 : Int32) (z34 : Int32) (b35 : Nat) (s36 : gH), gGo X rvI mX11_chance d 125 [(0, vr a0), (1, vi x1), (2, vr a2), (3, vi x3)] [vi z32, vi z33, vi z34, vr b35] s36 (j31 z32 z33 z34 b35 s36)) (fun z32 z33 z34 b35 s36 => ?_) (fun j31 hj31 => ?_)
        · refine go_callV_I (as := [vi z34, vi z33, vi z32]) gk_RX11_255 gmf_X5_turn (by decide) rfl (by omega) rfl rfl (Nat.le_of_ble_eq_true rfl) dX11_chance_125 (fun _ _ h => cX5_turn_c (by omega) h) (fun r37 s38 _ => ?_)
          refine go_istore (L' := [(8, vi r37), (0, vr a0), (1, vi x1), (2, vr a2), (3, vi x3)]) dX11_chance_128 (by decide) rfl ?_
          refine go_iload 0 dX11_chance_130 rfl ?_
          refine go_iconst (v := -1) dX11_chance_132 (by decide) ?_
          refine go_icmp_eq (tgt := 142) dX11_chance_133 (by decide) (fun h39 => ?_) (fun h39 => ?_)
          · refine go_iinc (v := 1) (L' := [(3, vi (x3 + 1)), (8, vi r37), (0, vr a0), (1, vi x1), (2, vr a2)]) 4 dX11_chance_142 rfl (by decide) (by decide) rfl ?_
            refine go_goto (tgt := 44) dX11_chance_145 (by decide) ?_
            exact go_sub [2, 3, 4, 0] (ih (x3 + 1) s38) rfl
          · refine go_aload_n 3 dX11_chance_136 rfl rfl ?_
            refine go_iload 0 dX11_chance_137 rfl ?_
            refine go_callV_v (as := [vi r37]) gk_RX11_258 gmf_X7_append (by decide) rfl (by omega) rfl rfl (Nat.le_of_ble_eq_true rfl) dX11_chance_139 (fun _ _ h => cX7_append_c (by omega) h) (fun r40 s41 _ => ?_)
            refine go_iinc (v := 1) (L' := [(3, vi (x3 + 1)), (8, vi r37), (0, vr a0), (1, vi x1), (2, vr a2)]) 4 dX11_chance_142 rfl (by decide) (by decide) rfl ?_
            refine go_goto (tgt := 44) dX11_chance_145 (by decide) ?_
            exact go_sub [2, 3, 4, 0] (ih (x3 + 1) s41) rfl
        · refine go_if_eq (tgt := 124) dX11_chance_117 (by decide) (fun h42 => ?_) (fun h42 => ?_)
          · refine go_iconst (v := 1) dX11_chance_124 (by decide) ?_
            exact go_sub [1, 2, 3, 4] (hj31 1 r22 r20 v30 s29) rfl
          · refine go_iconst (v := 2) dX11_chance_120 (by decide) ?_
            refine go_goto (tgt := 125) dX11_chance_121 (by decide) ?_
            exact go_sub [1, 2, 3, 4] (hj31 2 r22 r20 v30 s29) rfl
      · refine go_ifnull (tgt := 104) dX11_chance_87 (by decide) (fun h43 => ?_) (fun h43 => ?_)
        · refine go_iconst (v := 0) dX11_chance_104 (by decide) ?_
          exact go_sub [3, 4, 5, 6, 2, 1] (hj27 0 s26) rfl
        · refine go_aload 0 dX11_chance_90 rfl ?_
          refine go_iload 1 dX11_chance_92 rfl ?_
          refine go_callV_I (as := [vi r22]) gk_RX11_149 gmf_X2_holds (by decide) rfl (by omega) rfl rfl (Nat.le_of_ble_eq_true rfl) dX11_chance_94 (fun _ _ h => cX2_holds_c (by omega) h) (fun r44 s45 _ => ?_)
          refine go_if_eq (tgt := 104) dX11_chance_97 (by decide) (fun h46 => ?_) (fun h46 => ?_)
          · refine go_iconst (v := 0) dX11_chance_104 (by decide) ?_
            exact go_sub [3, 4, 5, 6, 2, 1] (hj27 0 s45) rfl
          · refine go_iconst (v := 1) dX11_chance_100 (by decide) ?_
            refine go_goto (tgt := 105) dX11_chance_101 (by decide) ?_
            exact go_sub [3, 4, 5, 6, 2, 1] (hj27 1 s45) rfl
    · refine go_aload_n 2 dX11_chance_148 rfl rfl ?_
      refine go_getI gf_RX11_261 gcf_7 gft_7_1 dX11_chance_149 (fun v47 => ?_)
      exact go_ret rfl dX11_chance_152
def fX11_chance (a0 : Nat) (x1 : Int32) (s0 : gH) : Option (Int32 × gH) :=
  gjn (fun (s2 : gH) =>
      gb2 (gcv s2 a0 11 (fX11_refuse a0 2 s2)) fun r3 s4 =>
      some (r3, s4)
  ) fun j1 =>
  if x1 < 1 then
    j1 s0
  else
    if 40 < x1 then
      j1 s0
    else
      (ggR s0 a0 11 7).bind fun v7 =>
      (ggI s0 v7 1 1).bind fun v8 =>
      if v8 = 0 then
        j1 s0
      else
        (ggR s0 a0 11 4).bind fun v10 =>
        gb2 (gcv s0 v10 4 (fX4_openMarks v10 s0)) fun r11 s12 =>
        (ggR s12 a0 11 4).bind fun v13 =>
        gb2 (gcv s12 v13 4 (fX4_latestChanges v13 s12)) fun r14 s15 =>
        gX11_chance_L44
          a0 x1 r14 20000 0 s15
set_option maxRecDepth 100000 in
set_option maxHeartbeats 4000000 in
theorem wX11_chance {X : Nat × (Nat → Int32)} {d : Nat} (hd : 6 ≤ d) {a0 : Nat} {x1 : Int32} {s0 : gH} : gGo X rvI mX11_chance d 0 [(0, vr a0), (1, vi x1)] [] s0 (fX11_chance a0 x1 s0) := by
  unfold fX11_chance
  refine go_iload_n 1 dX11_chance_0 rfl rfl ?_
  refine go_iconst (v := 1) dX11_chance_1 (by decide) ?_
  refine go_gjn (P := fun j1 => ∀ (s2 : gH), gGo X rvI mX11_chance d 21 [(0, vr a0)] [] s2 (j1 s2)) (fun s2 => ?_) (fun j1 hj1 => ?_)
  · refine go_aload_n 0 dX11_chance_21 rfl rfl ?_
    refine go_iconst (v := 2) dX11_chance_22 (by decide) ?_
    refine go_callV_I (as := [vi 2]) gk_RX11_78 gmf_X11_refuse (by decide) rfl (by omega) rfl rfl (Nat.le_of_ble_eq_true rfl) dX11_chance_23 (fun _ _ h => cX11_refuse_c (by omega) h) (fun r3 s4 _ => ?_)
    exact go_ret rfl dX11_chance_26
  · refine go_icmp_lt (tgt := 21) dX11_chance_2 (by decide) (fun h5 => ?_) (fun h5 => ?_)
    · exact go_sub [0] (hj1 s0) rfl
    · refine go_iload_n 1 dX11_chance_5 rfl rfl ?_
      refine go_bipush (v := 40) dX11_chance_6 (by decide) ?_
      refine go_icmp_gt (tgt := 21) dX11_chance_8 (by decide) (fun h6 => ?_) (fun h6 => ?_)
      · exact go_sub [0] (hj1 s0) rfl
      · refine go_aload_n 0 dX11_chance_11 rfl rfl ?_
        refine go_getR gf_RX11_60 gcf_11 gft_11_7 dX11_chance_12 (fun v7 => ?_)
        refine go_getI gf_RX11_104 gcf_1 gft_1_1 dX11_chance_15 (fun v8 => ?_)
        refine go_if_ne (tgt := 27) dX11_chance_18 (by decide) (fun h9 => ?_) (fun h9 => ?_)
        · exact go_sub [0] (hj1 s0) rfl
        · refine go_aload_n 0 dX11_chance_27 rfl rfl ?_
          refine go_getR gf_RX11_42 gcf_11 gft_11_4 dX11_chance_28 (fun v10 => ?_)
          refine go_callV_v (as := []) gk_RX11_245 gmf_X4_openMarks (by decide) rfl (by omega) rfl rfl (Nat.le_of_ble_eq_true rfl) dX11_chance_31 (fun _ _ h => cX4_openMarks_c (by omega) h) (fun r11 s12 _ => ?_)
          refine go_aload_n 0 dX11_chance_34 rfl rfl ?_
          refine go_getR gf_RX11_42 gcf_11 gft_11_4 dX11_chance_35 (fun v13 => ?_)
          refine go_callV_R (as := []) gk_RX11_248 gmf_X4_latestChanges (by decide) rfl (by omega) rfl rfl (Nat.le_of_ble_eq_true rfl) dX11_chance_38 (fun _ _ h => cX4_latestChanges_c (by omega) h) (fun r14 s15 _ => ?_)
          refine go_astore_n (L' := [(2, vr r14), (0, vr a0), (1, vi x1)]) dX11_chance_41 rfl (by decide) rfl ?_
          refine go_iconst (v := 0) dX11_chance_42 (by decide) ?_
          refine go_istore_n (L' := [(3, vi 0), (2, vr r14), (0, vr a0), (1, vi x1)]) dX11_chance_43 rfl (by decide) rfl ?_
          refine go_sub [2, 3, 1, 0] (wX11_chance_L44 hd a0 x1 r14 20000 0 s15) rfl
set_option maxRecDepth 100000 in
set_option maxHeartbeats 4000000 in
theorem cX11_chance_c {d : Nat} (hd : 6 ≤ d) {a0 : Nat} {x1 : Int32} {s0 : gH} {r : Int32} {s1 : gH} (h : fX11_chance a0 x1 s0 = some (r, s1)) : gMt mX11_chance d [vr a0, vi x1] s0 (some (vi r)) s1 :=
  gMt_of (rv := rvI) (by decide +kernel) (Nat.le_of_ble_eq_true rfl) ⟨_, rfl, rfl⟩ (fun _ => wX11_chance hd) h
def fX12_drawOf (a0 : Nat) (x1 : Int32) (s0 : gH) : Option (Int32 × gH) :=
  (ggJ s0 a0 12 46).bind fun v1 =>
  (spJ s0 a0 12 46 (gLrem ((1103515245 * v1) + 12345) 2147483648)).bind fun s2 =>
  (ggJ s2 a0 12 46).bind fun v3 =>
  if x1.toInt64 = 0 then none else
  some ((gLrem (v3 / 64) x1.toInt64).toInt32, s2)
set_option maxRecDepth 100000 in
set_option maxHeartbeats 4000000 in
theorem wX12_drawOf {X : Nat × (Nat → Int32)} {d : Nat} (hd : 0 ≤ d) {a0 : Nat} {x1 : Int32} {s0 : gH} : gGo X rvI mX12_drawOf d 0 [(0, vr a0), (1, vi x1)] [] s0 (fX12_drawOf a0 x1 s0) := by
  unfold fX12_drawOf
  refine go_aload_n 0 dX12_drawOf_0 rfl rfl ?_
  refine go_ldc2 gcl_RX12_481 dX12_drawOf_1 ?_
  refine go_aload_n 0 dX12_drawOf_4 rfl rfl ?_
  refine go_getJ gf_RX12_93 gcf_12 gft_12_46 dX12_drawOf_5 (fun v1 => ?_)
  refine go_lmul dX12_drawOf_8 ?_
  refine go_ldc2 gcl_RX12_483 dX12_drawOf_9 ?_
  refine go_ladd dX12_drawOf_12 ?_
  refine go_ldc2 gcl_RX12_485 dX12_drawOf_13 ?_
  refine go_lremc dX12_drawOf_16 (by decide) ?_
  refine go_putJ gf_RX12_93 gcf_12 gpl_12_46 gft_12_46 dX12_drawOf_17 (fun s2 _ => ?_)
  refine go_aload_n 0 dX12_drawOf_20 rfl rfl ?_
  refine go_getJ gf_RX12_93 gcf_12 gft_12_46 dX12_drawOf_21 (fun v3 => ?_)
  refine go_ldc2 gcl_RX12_487 dX12_drawOf_24 ?_
  refine go_ldivc dX12_drawOf_27 (by decide) ?_
  refine go_iload_n 1 dX12_drawOf_28 rfl rfl ?_
  refine go_i2l dX12_drawOf_29 ?_
  refine go_lrem dX12_drawOf_30 (fun _ => ?_)
  refine go_l2i dX12_drawOf_31 ?_
  exact go_ret rfl dX12_drawOf_32
set_option maxRecDepth 100000 in
set_option maxHeartbeats 4000000 in
theorem cX12_drawOf_c {d : Nat} (hd : 0 ≤ d) {a0 : Nat} {x1 : Int32} {s0 : gH} {r : Int32} {s1 : gH} (h : fX12_drawOf a0 x1 s0 = some (r, s1)) : gMt mX12_drawOf d [vr a0, vi x1] s0 (some (vi r)) s1 :=
  gMt_of (rv := rvI) (by decide +kernel) (Nat.le_of_ble_eq_true rfl) ⟨_, rfl, rfl⟩ (fun _ => wX12_drawOf hd) h
def gX12_chance_L42  (a0 : Nat) (x1 : Int32) : Nat → Int32 → Int32 → gH → Option (Int32 × gH)
  | 0, _, _, _ => none
  | n + 1, x2, x3, s0 =>
    if x3 < x1 then
      (ggR s0 a0 12 19).bind fun v17 =>
      (gaI s0 v17 2 1).bind fun v18 =>
      gb2 (gcv s0 a0 12 (fX12_drawOf a0 v18 s0)) fun r19 s20 =>
      gb2 (gcv s20 a0 12 (fX12_drawOf a0 14610 s20)) fun r21 s22 =>
      gb2 (gcv s22 a0 12 (fX12_lays a0 (6 + r19) s22)) fun r23 s24 =>
      gb2 (gcv s24 a0 12 (fX12_isOn a0 (6 + r19) r21 s24)) fun r25 s26 =>
      gb2 (gcv s26 a0 12 (fX12_canHand a0 r19 r25 r21 s26)) fun r27 s28 =>
      if r27 = 0 then
        gX12_chance_L42 a0 x1 n x2 (x3 + 1) s28
      else
        gb2 (gcv s28 a0 12 (fX12_hands a0 r19 r25 r21 s28)) fun r30 s31 =>
        gX12_chance_L42 a0 x1 n (x2 + 1) (x3 + 1) s31
    else
      some (x2, s0)
set_option maxRecDepth 100000 in
set_option maxHeartbeats 4000000 in
theorem wX12_chance_L42 {X : Nat × (Nat → Int32)} {d : Nat} (hd : 12 ≤ d)  (a0 : Nat) (x1 : Int32) : ∀ (n : Nat) (x2 : Int32) (x3 : Int32) (s0 : gH), gGo X rvI mX12_chance d 42 [(0, vr a0), (1, vi x1), (2, vi x2), (3, vi x3)] [] s0 (gX12_chance_L42 a0 x1 n x2 x3 s0) := by
  intro n
  induction n with
  | zero => intros; exact go_none
  | succ n ih =>
    intro x2 x3 s0
    show gGo _ _ _ _ _ _ _ _ (gX12_chance_L42 a0 x1 (n + 1) x2 x3 s0)
    unfold gX12_chance_L42
    refine go_iload_n 3 dX12_chance_42 rfl rfl ?_
    refine go_iload_n 1 dX12_chance_43 rfl rfl ?_
    refine go_icmp_ge (tgt := 125) dX12_chance_44 (by decide) (fun h16 => ?_) (fun h16 => ?_)
    · refine go_aload_n 0 dX12_chance_47 rfl rfl ?_
      refine go_aload_n 0 dX12_chance_48 rfl rfl ?_
      refine go_getR gf_RX12_39 gcf_12 gft_12_19 dX12_chance_49 (fun v17 => ?_)
      refine go_iconst (v := 1) dX12_chance_52 (by decide) ?_
      refine go_iaload dX12_chance_53 (fun v18 _ => ?_)
      refine go_callV_I (as := [vi v18]) gk_RX12_491 gmf_X12_drawOf (by decide) rfl (by omega) rfl rfl (Nat.le_of_ble_eq_true rfl) dX12_chance_54 (fun _ _ h => cX12_drawOf_c (by omega) h) (fun r19 s20 _ => ?_)
      refine go_istore (L' := [(4, vi r19), (0, vr a0), (1, vi x1), (2, vi x2), (3, vi x3)]) dX12_chance_57 (by decide) rfl ?_
      refine go_aload_n 1 dX12_chance_59 rfl rfl ?_
      refine go_sipush (v := 14610) dX12_chance_60 (by decide) ?_
      refine go_callV_I (as := [vi 14610]) gk_RX12_491 gmf_X12_drawOf (by decide) rfl (by omega) rfl rfl (Nat.le_of_ble_eq_true rfl) dX12_chance_63 (fun _ _ h => cX12_drawOf_c (by omega) h) (fun r21 s22 _ => ?_)
      refine go_istore (L' := [(5, vi r21), (4, vi r19), (0, vr a0), (1, vi x1), (2, vi x2), (3, vi x3)]) dX12_chance_66 (by decide) rfl ?_
      refine go_aload_n 2 dX12_chance_68 rfl rfl ?_
      refine go_bipush (v := 6) dX12_chance_69 (by decide) ?_
      refine go_iload 1 dX12_chance_71 rfl ?_
      refine go_iadd dX12_chance_73 ?_
      refine go_callV_v (as := [vi (6 + r19)]) gk_RX12_431 gmf_X12_lays (by decide) rfl (by omega) rfl rfl (Nat.le_of_ble_eq_true rfl) dX12_chance_74 (fun _ _ h => cX12_lays_c (by omega) h) (fun r23 s24 _ => ?_)
      refine go_aload_n 2 dX12_chance_77 rfl rfl ?_
      refine go_bipush (v := 6) dX12_chance_78 (by decide) ?_
      refine go_iload 1 dX12_chance_80 rfl ?_
      refine go_iadd dX12_chance_82 ?_
      refine go_iload 0 dX12_chance_83 rfl ?_
      refine go_callV_I (as := [vi (6 + r19), vi r21]) gk_RX12_437 gmf_X12_isOn (by decide) rfl (by omega) rfl rfl (Nat.le_of_ble_eq_true rfl) dX12_chance_85 (fun _ _ h => cX12_isOn_c (by omega) h) (fun r25 s26 _ => ?_)
      refine go_istore (L' := [(6, vi r25), (5, vi r21), (4, vi r19), (0, vr a0), (1, vi x1), (2, vi x2), (3, vi x3)]) dX12_chance_88 (by decide) rfl ?_
      refine go_aload_n 3 dX12_chance_90 rfl rfl ?_
      refine go_iload 2 dX12_chance_91 rfl ?_
      refine go_iload 0 dX12_chance_93 rfl ?_
      refine go_iload 1 dX12_chance_95 rfl ?_
      refine go_callV_I (as := [vi r19, vi r25, vi r21]) gk_RX12_468 gmf_X12_canHand (by decide) rfl (by omega) rfl rfl (Nat.le_of_ble_eq_true rfl) dX12_chance_97 (fun _ _ h => cX12_canHand_c (by omega) h) (fun r27 s28 _ => ?_)
      refine go_if_ne (tgt := 106) dX12_chance_100 (by decide) (fun h29 => ?_) (fun h29 => ?_)
      · refine go_goto (tgt := 119) dX12_chance_103 (by decide) ?_
        refine go_iinc (v := 1) (L' := [(3, vi (x3 + 1)), (6, vi r25), (5, vi r21), (4, vi r19), (0, vr a0), (1, vi x1), (2, vi x2)]) 6 dX12_chance_119 rfl (by decide) (by decide) rfl ?_
        refine go_goto (tgt := 42) dX12_chance_122 (by decide) ?_
        exact go_sub [4, 5, 6, 0] (ih x2 (x3 + 1) s28) rfl
      · refine go_aload_n 3 dX12_chance_106 rfl rfl ?_
        refine go_iload 2 dX12_chance_107 rfl ?_
        refine go_iload 0 dX12_chance_109 rfl ?_
        refine go_iload 1 dX12_chance_111 rfl ?_
        refine go_callV_v (as := [vi r19, vi r25, vi r21]) gk_RX12_475 gmf_X12_hands (by decide) rfl (by omega) rfl rfl (Nat.le_of_ble_eq_true rfl) dX12_chance_113 (fun _ _ h => cX12_hands_c (by omega) h) (fun r30 s31 _ => ?_)
        refine go_iinc (v := 1) (L' := [(2, vi (x2 + 1)), (6, vi r25), (5, vi r21), (4, vi r19), (0, vr a0), (1, vi x1), (3, vi x3)]) 5 dX12_chance_116 rfl (by decide) (by decide) rfl ?_
        refine go_iinc (v := 1) (L' := [(3, vi (x3 + 1)), (2, vi (x2 + 1)), (6, vi r25), (5, vi r21), (4, vi r19), (0, vr a0), (1, vi x1)]) 6 dX12_chance_119 rfl (by decide) (by decide) rfl ?_
        refine go_goto (tgt := 42) dX12_chance_122 (by decide) ?_
        exact go_sub [5, 6, 1, 0] (ih (x2 + 1) (x3 + 1) s31) rfl
    · refine go_iload_n 2 dX12_chance_125 rfl rfl ?_
      exact go_ret rfl dX12_chance_126
def fX12_chance (a0 : Nat) (x1 : Int32) (s0 : gH) : Option (Int32 × gH) :=
  (ggI s0 a0 12 23).bind fun v1 =>
  gjn (fun (s3 : gH) =>
      gb2 (gcv s3 a0 12 (fX12_refuses a0 2 s3)) fun r4 s5 =>
      some (r4, s5)
  ) fun j2 =>
  if v1 = 0 then
    j2 s0
  else
    (ggR s0 a0 12 19).bind fun v7 =>
    (gaI s0 v7 2 1).bind fun v8 =>
    if v8 = 0 then
      j2 s0
    else
      gb2 (fX12_isIn x1.toInt64 1 40 s0) fun r10 s11 =>
      if r10 = 0 then
        j2 s11
      else
        gb2 (gcv s11 a0 12 (fX12_keeps a0 s11)) fun r13 s14 =>
        gX12_chance_L42
          a0 x1 20000 0 0 s14
set_option maxRecDepth 100000 in
set_option maxHeartbeats 4000000 in
theorem wX12_chance {X : Nat × (Nat → Int32)} {d : Nat} (hd : 12 ≤ d) {a0 : Nat} {x1 : Int32} {s0 : gH} : gGo X rvI mX12_chance d 0 [(0, vr a0), (1, vi x1)] [] s0 (fX12_chance a0 x1 s0) := by
  unfold fX12_chance
  refine go_aload_n 0 dX12_chance_0 rfl rfl ?_
  refine go_getI gf_RX12_298 gcf_12 gft_12_23 dX12_chance_1 (fun v1 => ?_)
  refine go_gjn (P := fun j2 => ∀ (s3 : gH), gGo X rvI mX12_chance d 28 [(0, vr a0)] [] s3 (j2 s3)) (fun s3 => ?_) (fun j2 hj2 => ?_)
  · refine go_aload_n 0 dX12_chance_28 rfl rfl ?_
    refine go_iconst (v := 2) dX12_chance_29 (by decide) ?_
    refine go_callV_I (as := [vi 2]) gk_RX12_100 gmf_X12_refuses (by decide) rfl (by omega) rfl rfl (Nat.le_of_ble_eq_true rfl) dX12_chance_30 (fun _ _ h => cX12_refuses_c (by omega) h) (fun r4 s5 _ => ?_)
    exact go_ret rfl dX12_chance_33
  · refine go_if_eq (tgt := 28) dX12_chance_4 (by decide) (fun h6 => ?_) (fun h6 => ?_)
    · exact go_sub [0] (hj2 s0) rfl
    · refine go_aload_n 0 dX12_chance_7 rfl rfl ?_
      refine go_getR gf_RX12_39 gcf_12 gft_12_19 dX12_chance_8 (fun v7 => ?_)
      refine go_iconst (v := 1) dX12_chance_11 (by decide) ?_
      refine go_iaload dX12_chance_12 (fun v8 _ => ?_)
      refine go_if_eq (tgt := 28) dX12_chance_13 (by decide) (fun h9 => ?_) (fun h9 => ?_)
      · exact go_sub [0] (hj2 s0) rfl
      · refine go_iload_n 1 dX12_chance_16 rfl rfl ?_
        refine go_i2l dX12_chance_17 ?_
        refine go_lconst (v := 1) dX12_chance_18 (by decide) ?_
        refine go_ldc2 gcl_RX12_489 dX12_chance_19 ?_
        refine go_callS_I (as := [vl x1.toInt64, vl 1, vl 40]) gk_RX12_110 gmf_X12_isIn (by omega) rfl rfl (Nat.le_of_ble_eq_true rfl) dX12_chance_22 (fun _ _ h => cX12_isIn_c (by omega) h) (fun r10 s11 _ => ?_)
        refine go_if_ne (tgt := 34) dX12_chance_25 (by decide) (fun h12 => ?_) (fun h12 => ?_)
        · exact go_sub [0] (hj2 s11) rfl
        · refine go_aload_n 0 dX12_chance_34 rfl rfl ?_
          refine go_callV_v (as := []) gk_RX12_472 gmf_X12_keeps (by decide) rfl (by omega) rfl rfl (Nat.le_of_ble_eq_true rfl) dX12_chance_35 (fun _ _ h => cX12_keeps_c (by omega) h) (fun r13 s14 _ => ?_)
          refine go_iconst (v := 0) dX12_chance_38 (by decide) ?_
          refine go_istore_n (L' := [(2, vi 0), (0, vr a0), (1, vi x1)]) dX12_chance_39 rfl (by decide) rfl ?_
          refine go_iconst (v := 0) dX12_chance_40 (by decide) ?_
          refine go_istore_n (L' := [(3, vi 0), (2, vi 0), (0, vr a0), (1, vi x1)]) dX12_chance_41 rfl (by decide) rfl ?_
          refine go_sub [2, 3, 1, 0] (wX12_chance_L42 hd a0 x1 20000 0 0 s14) rfl
set_option maxRecDepth 100000 in
set_option maxHeartbeats 4000000 in
theorem cX12_chance_c {d : Nat} (hd : 12 ≤ d) {a0 : Nat} {x1 : Int32} {s0 : gH} {r : Int32} {s1 : gH} (h : fX12_chance a0 x1 s0 = some (r, s1)) : gMt mX12_chance d [vr a0, vi x1] s0 (some (vi r)) s1 :=
  gMt_of (rv := rvI) (by decide +kernel) (Nat.le_of_ble_eq_true rfl) ⟨_, rfl, rfl⟩ (fun _ => wX12_chance hd) h
def fX4_latestKind (a0 : Nat) (s0 : gH) : Option (Int32 × gH) :=
  (ggR s0 a0 4 0).bind fun v1 =>
  (ggI s0 a0 4 4).bind fun v2 =>
  (gaI s0 v1 2 v2).bind fun v3 =>
  some (v3, s0)
set_option maxRecDepth 100000 in
set_option maxHeartbeats 4000000 in
theorem wX4_latestKind {X : Nat × (Nat → Int32)} {d : Nat} (hd : 0 ≤ d) {a0 : Nat} {s0 : gH} : gGo X rvI mX4_latestKind d 0 [(0, vr a0)] [] s0 (fX4_latestKind a0 s0) := by
  unfold fX4_latestKind
  refine go_aload_n 0 dX4_latestKind_0 rfl rfl ?_
  refine go_getR gf_RX4_9 gcf_4 gft_4_0 dX4_latestKind_1 (fun v1 => ?_)
  refine go_aload_n 0 dX4_latestKind_4 rfl rfl ?_
  refine go_getI gf_RX4_38 gcf_4 gft_4_4 dX4_latestKind_5 (fun v2 => ?_)
  refine go_iaload dX4_latestKind_8 (fun v3 _ => ?_)
  exact go_ret rfl dX4_latestKind_9
set_option maxRecDepth 100000 in
set_option maxHeartbeats 4000000 in
theorem cX4_latestKind_c {d : Nat} (hd : 0 ≤ d) {a0 : Nat} {s0 : gH} {r : Int32} {s1 : gH} (h : fX4_latestKind a0 s0 = some (r, s1)) : gMt mX4_latestKind d [vr a0] s0 (some (vi r)) s1 :=
  gMt_of (rv := rvI) (by decide +kernel) (Nat.le_of_ble_eq_true rfl) ⟨_, rfl, rfl⟩ (fun _ => wX4_latestKind hd) h
def gX5_turnBack_L7  (a0 : Nat) (a1 : Nat) : Nat → Int32 → gH → Option (Unit × gH)
  | 0, _, _ => none
  | n + 1, x2, s0 =>
    if x2 < 0 then
      some ((), s0)
    else
      gb2 (gcv s0 a1 7 (fX7_valueAt a1 x2 s0)) fun r5 s6 =>
      glet (r5 / 3) fun y7 =>
      gb2 (gcv s6 a0 5 (fX5_mark a0 (y7 / 14610) (gIrem y7 14610) (gIrem r5 3) s6)) fun r8 s9 =>
      gX5_turnBack_L7 a0 a1 n (x2 + (-1)) s9
set_option maxRecDepth 100000 in
set_option maxHeartbeats 4000000 in
theorem wX5_turnBack_L7 {X : Nat × (Nat → Int32)} {d : Nat} (hd : 3 ≤ d)  (a0 : Nat) (a1 : Nat) : ∀ (n : Nat) (x2 : Int32) (s0 : gH), gGo X rvU mX5_turnBack d 7 [(0, vr a0), (1, vr a1), (2, vi x2)] [] s0 (gX5_turnBack_L7 a0 a1 n x2 s0) := by
  intro n
  induction n with
  | zero => intros; exact go_none
  | succ n ih =>
    intro x2 s0
    show gGo _ _ _ _ _ _ _ _ (gX5_turnBack_L7 a0 a1 (n + 1) x2 s0)
    unfold gX5_turnBack_L7
    refine go_iload_n 2 dX5_turnBack_7 rfl rfl ?_
    refine go_if_lt (tgt := 47) dX5_turnBack_8 (by decide) (fun h4 => ?_) (fun h4 => ?_)
    · exact go_retv rfl dX5_turnBack_47
    · refine go_aload_n 1 dX5_turnBack_11 rfl rfl ?_
      refine go_iload_n 2 dX5_turnBack_12 rfl rfl ?_
      refine go_callV_I (as := [vi x2]) gk_RX5_96 gmf_X7_valueAt (by decide) rfl (by omega) rfl rfl (Nat.le_of_ble_eq_true rfl) dX5_turnBack_13 (fun _ _ h => cX7_valueAt_c (by omega) h) (fun r5 s6 _ => ?_)
      refine go_istore_n (L' := [(3, vi r5), (0, vr a0), (1, vr a1), (2, vi x2)]) dX5_turnBack_16 rfl (by decide) rfl ?_
      refine go_iload_n 0 dX5_turnBack_17 rfl rfl ?_
      refine go_iconst (v := 3) dX5_turnBack_18 (by decide) ?_
      refine go_idivc dX5_turnBack_19 (by decide) ?_
      refine go_istore_l (L' := fun y7 => [(4, vi y7), (3, vi r5), (0, vr a0), (1, vr a1), (2, vi x2)]) dX5_turnBack_20 (by decide) (fun _ => rfl) (fun y7 => ?_)
      refine go_aload_n 2 dX5_turnBack_22 rfl rfl ?_
      refine go_iload 0 dX5_turnBack_23 rfl ?_
      refine go_sipush (v := 14610) dX5_turnBack_25 (by decide) ?_
      refine go_idivc dX5_turnBack_28 (by decide) ?_
      refine go_iload 0 dX5_turnBack_29 rfl ?_
      refine go_sipush (v := 14610) dX5_turnBack_31 (by decide) ?_
      refine go_iremc dX5_turnBack_34 (by decide) ?_
      refine go_iload_n 1 dX5_turnBack_35 rfl rfl ?_
      refine go_iconst (v := 3) dX5_turnBack_36 (by decide) ?_
      refine go_iremc dX5_turnBack_37 (by decide) ?_
      refine go_callV_v (as := [vi (y7 / 14610), vi (gIrem y7 14610), vi (gIrem r5 3)]) gk_RX5_92 gmf_X5_mark (by decide) rfl (by omega) rfl rfl (Nat.le_of_ble_eq_true rfl) dX5_turnBack_38 (fun _ _ h => cX5_mark_c (by omega) h) (fun r8 s9 _ => ?_)
      refine go_iinc (v := -1) (L' := [(2, vi (x2 + (-1))), (4, vi y7), (3, vi r5), (0, vr a0), (1, vr a1)]) 4 dX5_turnBack_41 rfl (by decide) (by decide) rfl ?_
      refine go_goto (tgt := 7) dX5_turnBack_44 (by decide) ?_
      exact go_sub [3, 4, 0] (ih (x2 + (-1)) s9) rfl
def fX5_turnBack (a0 : Nat) (a1 : Nat) (s0 : gH) : Option (Unit × gH) :=
  (ggI s0 a1 7 1).bind fun v1 =>
  glet (v1 - 1) fun y2 =>
  gX5_turnBack_L7
    a0 a1 20000 y2 s0
set_option maxRecDepth 100000 in
set_option maxHeartbeats 4000000 in
theorem wX5_turnBack {X : Nat × (Nat → Int32)} {d : Nat} (hd : 3 ≤ d) {a0 : Nat} {a1 : Nat} {s0 : gH} : gGo X rvU mX5_turnBack d 0 [(0, vr a0), (1, vr a1)] [] s0 (fX5_turnBack a0 a1 s0) := by
  unfold fX5_turnBack
  refine go_aload_n 1 dX5_turnBack_0 rfl rfl ?_
  refine go_getI gf_RX5_82 gcf_7 gft_7_1 dX5_turnBack_1 (fun v1 => ?_)
  refine go_iconst (v := 1) dX5_turnBack_4 (by decide) ?_
  refine go_isub dX5_turnBack_5 ?_
  refine go_istore_n_l (L' := fun y2 => [(2, vi y2), (0, vr a0), (1, vr a1)]) dX5_turnBack_6 rfl (by decide) (fun _ => rfl) (fun y2 => ?_)
  refine go_sub [1, 2, 0] (wX5_turnBack_L7 hd a0 a1 20000 y2 s0) rfl
set_option maxRecDepth 100000 in
set_option maxHeartbeats 4000000 in
theorem cX5_turnBack_c {d : Nat} (hd : 3 ≤ d) {a0 : Nat} {a1 : Nat} {s0 : gH} {r : Unit} {s1 : gH} (h : fX5_turnBack a0 a1 s0 = some (r, s1)) : gMt mX5_turnBack d [vr a0, vr a1] s0 none s1 :=
  gMt_of (rv := rvU) (by decide +kernel) (Nat.le_of_ble_eq_true rfl) rfl (fun _ => wX5_turnBack hd) h
def fX4_latestRule (a0 : Nat) (s0 : gH) : Option (Int32 × gH) :=
  (ggR s0 a0 4 1).bind fun v1 =>
  (ggI s0 a0 4 4).bind fun v2 =>
  (gaI s0 v1 2 v2).bind fun v3 =>
  some (v3, s0)
set_option maxRecDepth 100000 in
set_option maxHeartbeats 4000000 in
theorem wX4_latestRule {X : Nat × (Nat → Int32)} {d : Nat} (hd : 0 ≤ d) {a0 : Nat} {s0 : gH} : gGo X rvI mX4_latestRule d 0 [(0, vr a0)] [] s0 (fX4_latestRule a0 s0) := by
  unfold fX4_latestRule
  refine go_aload_n 0 dX4_latestRule_0 rfl rfl ?_
  refine go_getR gf_RX4_15 gcf_4 gft_4_1 dX4_latestRule_1 (fun v1 => ?_)
  refine go_aload_n 0 dX4_latestRule_4 rfl rfl ?_
  refine go_getI gf_RX4_38 gcf_4 gft_4_4 dX4_latestRule_5 (fun v2 => ?_)
  refine go_iaload dX4_latestRule_8 (fun v3 _ => ?_)
  exact go_ret rfl dX4_latestRule_9
set_option maxRecDepth 100000 in
set_option maxHeartbeats 4000000 in
theorem cX4_latestRule_c {d : Nat} (hd : 0 ≤ d) {a0 : Nat} {s0 : gH} {r : Int32} {s1 : gH} (h : fX4_latestRule a0 s0 = some (r, s1)) : gMt mX4_latestRule d [vr a0] s0 (some (vi r)) s1 :=
  gMt_of (rv := rvI) (by decide +kernel) (Nat.le_of_ble_eq_true rfl) ⟨_, rfl, rfl⟩ (fun _ => wX4_latestRule hd) h
def fX4_latestBefore (a0 : Nat) (s0 : gH) : Option (Int32 × gH) :=
  (ggR s0 a0 4 2).bind fun v1 =>
  (ggI s0 a0 4 4).bind fun v2 =>
  (gaI s0 v1 2 v2).bind fun v3 =>
  some (v3, s0)
set_option maxRecDepth 100000 in
set_option maxHeartbeats 4000000 in
theorem wX4_latestBefore {X : Nat × (Nat → Int32)} {d : Nat} (hd : 0 ≤ d) {a0 : Nat} {s0 : gH} : gGo X rvI mX4_latestBefore d 0 [(0, vr a0)] [] s0 (fX4_latestBefore a0 s0) := by
  unfold fX4_latestBefore
  refine go_aload_n 0 dX4_latestBefore_0 rfl rfl ?_
  refine go_getR gf_RX4_18 gcf_4 gft_4_2 dX4_latestBefore_1 (fun v1 => ?_)
  refine go_aload_n 0 dX4_latestBefore_4 rfl rfl ?_
  refine go_getI gf_RX4_38 gcf_4 gft_4_4 dX4_latestBefore_5 (fun v2 => ?_)
  refine go_iaload dX4_latestBefore_8 (fun v3 _ => ?_)
  exact go_ret rfl dX4_latestBefore_9
set_option maxRecDepth 100000 in
set_option maxHeartbeats 4000000 in
theorem cX4_latestBefore_c {d : Nat} (hd : 0 ≤ d) {a0 : Nat} {s0 : gH} {r : Int32} {s1 : gH} (h : fX4_latestBefore a0 s0 = some (r, s1)) : gMt mX4_latestBefore d [vr a0] s0 (some (vi r)) s1 :=
  gMt_of (rv := rvI) (by decide +kernel) (Nat.le_of_ble_eq_true rfl) ⟨_, rfl, rfl⟩ (fun _ => wX4_latestBefore hd) h
def fX11_restoreRule (a0 : Nat) (s0 : gH) : Option (Unit × gH) :=
  (ggR s0 a0 11 7).bind fun v1 =>
  (ggR s0 a0 11 4).bind fun v2 =>
  gb2 (gcv s0 v2 4 (fX4_latestRule v2 s0)) fun r3 s4 =>
  gb2 (gcv s4 v1 1 (fX1_ruleAt v1 r3 s4)) fun r5 s6 =>
  if r5 = 0 then
    some ((), s6)
  else
    (ggR s6 a0 11 4).bind fun v8 =>
    gb2 (gcv s6 v8 4 (fX4_latestKind v8 s6)) fun r9 s10 =>
    gjn (fun (s12 : gH) =>
        (ggR s12 a0 11 3).bind fun v13 =>
        (ggR s12 a0 11 4).bind fun v14 =>
        gb2 (gcv s12 v14 4 (fX4_latestRule v14 s12)) fun r15 s16 =>
        gb2 (gcv s16 v13 5 (fX5_ruleChanged v13 r15 s16)) fun r17 s18 =>
        some ((), s18)
    ) fun j11 =>
    if r9 = 1 then
      (ggR s10 a0 11 4).bind fun v20 =>
      gb2 (gcv s10 v20 4 (fX4_latestBefore v20 s10)) fun r21 s22 =>
      (spI s22 r5 8 0 r21).bind fun s23 =>
      j11 s23
    else
      (ggR s10 a0 11 4).bind fun v24 =>
      gb2 (gcv s10 v24 4 (fX4_latestBefore v24 s10)) fun r25 s26 =>
      gb2 (gcv s26 r5 8 (fX8_beginAt r5 r25 s26)) fun r27 s28 =>
      (ggR s28 a0 11 5).bind fun v29 =>
      gb2 (gcv s28 v29 9 (fX9_forget v29 s28)) fun r30 s31 =>
      j11 s31
set_option maxRecDepth 100000 in
set_option maxHeartbeats 4000000 in
theorem wX11_restoreRule {X : Nat × (Nat → Int32)} {d : Nat} (hd : 6 ≤ d) {a0 : Nat} {s0 : gH} : gGo X rvU mX11_restoreRule d 0 [(0, vr a0)] [] s0 (fX11_restoreRule a0 s0) := by
  unfold fX11_restoreRule
  refine go_aload_n 0 dX11_restoreRule_0 rfl rfl ?_
  refine go_getR gf_RX11_60 gcf_11 gft_11_7 dX11_restoreRule_1 (fun v1 => ?_)
  refine go_aload_n 0 dX11_restoreRule_4 rfl rfl ?_
  refine go_getR gf_RX11_42 gcf_11 gft_11_4 dX11_restoreRule_5 (fun v2 => ?_)
  refine go_callV_I (as := []) gk_RX11_276 gmf_X4_latestRule (by decide) rfl (by omega) rfl rfl (Nat.le_of_ble_eq_true rfl) dX11_restoreRule_8 (fun _ _ h => cX4_latestRule_c (by omega) h) (fun r3 s4 _ => ?_)
  refine go_callV_R (as := [vi r3]) gk_RX11_122 gmf_X1_ruleAt (by decide) rfl (by omega) rfl rfl (Nat.le_of_ble_eq_true rfl) dX11_restoreRule_11 (fun _ _ h => cX1_ruleAt_c (by omega) h) (fun r5 s6 _ => ?_)
  refine go_astore_n (L' := [(1, vr r5), (0, vr a0)]) dX11_restoreRule_14 rfl (by decide) rfl ?_
  refine go_aload_n 0 dX11_restoreRule_15 rfl rfl ?_
  refine go_ifnonnull (tgt := 20) dX11_restoreRule_16 (by decide) (fun h7 => ?_) (fun h7 => ?_)
  · exact go_retv rfl dX11_restoreRule_19
  · refine go_aload_n 1 dX11_restoreRule_20 rfl rfl ?_
    refine go_getR gf_RX11_42 gcf_11 gft_11_4 dX11_restoreRule_21 (fun v8 => ?_)
    refine go_callV_I (as := []) gk_RX11_262 gmf_X4_latestKind (by decide) rfl (by omega) rfl rfl (Nat.le_of_ble_eq_true rfl) dX11_restoreRule_24 (fun _ _ h => cX4_latestKind_c (by omega) h) (fun r9 s10 _ => ?_)
    refine go_iconst (v := 1) dX11_restoreRule_27 (by decide) ?_
    refine go_gjn (P := fun j11 => ∀ (s12 : gH), gGo X rvU mX11_restoreRule d 63 [(0, vr a0)] [] s12 (j11 s12)) (fun s12 => ?_) (fun j11 hj11 => ?_)
    · refine go_aload_n 0 dX11_restoreRule_63 rfl rfl ?_
      refine go_getR gf_RX11_35 gcf_11 gft_11_3 dX11_restoreRule_64 (fun v13 => ?_)
      refine go_aload_n 0 dX11_restoreRule_67 rfl rfl ?_
      refine go_getR gf_RX11_42 gcf_11 gft_11_4 dX11_restoreRule_68 (fun v14 => ?_)
      refine go_callV_I (as := []) gk_RX11_276 gmf_X4_latestRule (by decide) rfl (by omega) rfl rfl (Nat.le_of_ble_eq_true rfl) dX11_restoreRule_71 (fun _ _ h => cX4_latestRule_c (by omega) h) (fun r15 s16 _ => ?_)
      refine go_callV_v (as := [vi r15]) gk_RX11_233 gmf_X5_ruleChanged (by decide) rfl (by omega) rfl rfl (Nat.le_of_ble_eq_true rfl) dX11_restoreRule_74 (fun _ _ h => cX5_ruleChanged_c (by omega) h) (fun r17 s18 _ => ?_)
      exact go_retv rfl dX11_restoreRule_77
    · refine go_icmp_ne (tgt := 45) dX11_restoreRule_28 (by decide) (fun h19 => ?_) (fun h19 => ?_)
      · refine go_aload_n 0 dX11_restoreRule_31 rfl rfl ?_
        refine go_aload_n 1 dX11_restoreRule_32 rfl rfl ?_
        refine go_getR gf_RX11_42 gcf_11 gft_11_4 dX11_restoreRule_33 (fun v20 => ?_)
        refine go_callV_I (as := []) gk_RX11_279 gmf_X4_latestBefore (by decide) rfl (by omega) rfl rfl (Nat.le_of_ble_eq_true rfl) dX11_restoreRule_36 (fun _ _ h => cX4_latestBefore_c (by omega) h) (fun r21 s22 _ => ?_)
        refine go_putI gf_RX11_226 gcf_8 gpl_8_0 gft_8_0 dX11_restoreRule_39 (fun s23 _ => ?_)
        refine go_goto (tgt := 63) dX11_restoreRule_42 (by decide) ?_
        exact go_sub [1] (hj11 s23) rfl
      · refine go_aload_n 0 dX11_restoreRule_45 rfl rfl ?_
        refine go_aload_n 1 dX11_restoreRule_46 rfl rfl ?_
        refine go_getR gf_RX11_42 gcf_11 gft_11_4 dX11_restoreRule_47 (fun v24 => ?_)
        refine go_callV_I (as := []) gk_RX11_279 gmf_X4_latestBefore (by decide) rfl (by omega) rfl rfl (Nat.le_of_ble_eq_true rfl) dX11_restoreRule_50 (fun _ _ h => cX4_latestBefore_c (by omega) h) (fun r25 s26 _ => ?_)
        refine go_callV_v (as := [vi r25]) gk_RX11_239 gmf_X8_beginAt (by decide) rfl (by omega) rfl rfl (Nat.le_of_ble_eq_true rfl) dX11_restoreRule_53 (fun _ _ h => cX8_beginAt_c (by omega) h) (fun r27 s28 _ => ?_)
        refine go_aload_n 1 dX11_restoreRule_56 rfl rfl ?_
        refine go_getR gf_RX11_49 gcf_11 gft_11_5 dX11_restoreRule_57 (fun v29 => ?_)
        refine go_callV_v (as := []) gk_RX11_242 gmf_X9_forget (by decide) rfl (by omega) rfl rfl (Nat.le_of_ble_eq_true rfl) dX11_restoreRule_60 (fun _ _ h => cX9_forget_c (by omega) h) (fun r30 s31 _ => ?_)
        exact go_sub [1] (hj11 s31) rfl
set_option maxRecDepth 100000 in
set_option maxHeartbeats 4000000 in
theorem cX11_restoreRule_c {d : Nat} (hd : 6 ≤ d) {a0 : Nat} {s0 : gH} {r : Unit} {s1 : gH} (h : fX11_restoreRule a0 s0 = some (r, s1)) : gMt mX11_restoreRule d [vr a0] s0 none s1 :=
  gMt_of (rv := rvU) (by decide +kernel) (Nat.le_of_ble_eq_true rfl) rfl (fun _ => wX11_restoreRule hd) h
def fX4_drop (a0 : Nat) (s0 : gH) : Option (Unit × gH) :=
  (ggI s0 a0 4 4).bind fun v1 =>
  (spI s0 a0 4 4 (gIrem ((v1 + 20) - 1) 20)).bind fun s2 =>
  (ggI s2 a0 4 5).bind fun v3 =>
  (spI s2 a0 4 5 (gmax 0 (v3 - 1))).bind fun s4 =>
  some ((), s4)
set_option maxRecDepth 100000 in
set_option maxHeartbeats 4000000 in
theorem wX4_drop {X : Nat × (Nat → Int32)} {d : Nat} (hd : 1 ≤ d) {a0 : Nat} {s0 : gH} : gGo X rvU mX4_drop d 0 [(0, vr a0)] [] s0 (fX4_drop a0 s0) := by
  unfold fX4_drop
  refine go_aload_n 0 dX4_drop_0 rfl rfl ?_
  refine go_aload_n 0 dX4_drop_1 rfl rfl ?_
  refine go_getI gf_RX4_38 gcf_4 gft_4_4 dX4_drop_2 (fun v1 => ?_)
  refine go_bipush (v := 20) dX4_drop_5 (by decide) ?_
  refine go_iadd dX4_drop_7 ?_
  refine go_iconst (v := 1) dX4_drop_8 (by decide) ?_
  refine go_isub dX4_drop_9 ?_
  refine go_bipush (v := 20) dX4_drop_10 (by decide) ?_
  refine go_iremc dX4_drop_12 (by decide) ?_
  refine go_putI gf_RX4_38 gcf_4 gpl_4_4 gft_4_4 dX4_drop_13 (fun s2 _ => ?_)
  refine go_aload_n 0 dX4_drop_16 rfl rfl ?_
  refine go_iconst (v := 0) dX4_drop_17 (by decide) ?_
  refine go_aload_n 0 dX4_drop_18 rfl rfl ?_
  refine go_getI gf_RX4_30 gcf_4 gft_4_5 dX4_drop_19 (fun v3 => ?_)
  refine go_iconst (v := 1) dX4_drop_22 (by decide) ?_
  refine go_isub dX4_drop_23 ?_
  refine go_mmax gk_RX4_50.1 gmm_max2 gmm_3 gmm_max4 (Nat.le_of_ble_eq_true rfl) dX4_drop_24 ?_
  refine go_putI gf_RX4_30 gcf_4 gpl_4_5 gft_4_5 dX4_drop_27 (fun s4 _ => ?_)
  exact go_retv rfl dX4_drop_30
set_option maxRecDepth 100000 in
set_option maxHeartbeats 4000000 in
theorem cX4_drop_c {d : Nat} (hd : 1 ≤ d) {a0 : Nat} {s0 : gH} {r : Unit} {s1 : gH} (h : fX4_drop a0 s0 = some (r, s1)) : gMt mX4_drop d [vr a0] s0 none s1 :=
  gMt_of (rv := rvU) (by decide +kernel) (Nat.le_of_ble_eq_true rfl) rfl (fun _ => wX4_drop hd) h
def gX11_undo (a0 : Nat) (s0 : gH) : Option (Int32 × gH) :=
  (ggR s0 a0 11 4).bind fun v1 =>
  (ggI s0 v1 4 5).bind fun v2 =>
  if v2 = 0 then
    gb2 (gcv s0 a0 11 (fX11_deny a0 4 s0)) fun r4 s5 =>
    some (r4, s5)
  else
    (ggR s0 a0 11 4).bind fun v6 =>
    gb2 (gcv s0 v6 4 (fX4_latestKind v6 s0)) fun r7 s8 =>
    gjn (fun (s10 : gH) =>
        (ggR s10 a0 11 4).bind fun v11 =>
        gb2 (gcv s10 v11 4 (fX4_drop v11 s10)) fun r12 s13 =>
        some (1, s13)
    ) fun j9 =>
    if r7 = 0 then
      (ggR s8 a0 11 3).bind fun v15 =>
      (ggR s8 a0 11 4).bind fun v16 =>
      gb2 (gcv s8 v16 4 (fX4_latestChanges v16 s8)) fun r17 s18 =>
      gb2 (gcv s18 v15 5 (fX5_turnBack v15 r17 s18)) fun r19 s20 =>
      j9 s20
    else
      gb2 (gcv s8 a0 11 (fX11_restoreRule a0 s8)) fun r21 s22 =>
      j9 s22
def fX11_undo (a0 : Nat) (s0 : gH) : Option (Int32 × gH) := gzr (gX11_undo a0 s0)
set_option maxRecDepth 100000 in
set_option maxHeartbeats 4000000 in
theorem wX11_undo {X : Nat × (Nat → Int32)} {d : Nat} (hd : 7 ≤ d) {a0 : Nat} {s0 : gH} : gGo X rvI mX11_undo d 0 [(0, vr a0)] [] s0 (gX11_undo a0 s0) := by
  unfold gX11_undo
  refine go_aload_n 0 dX11_undo_0 rfl rfl ?_
  refine go_getR gf_RX11_42 gcf_11 gft_11_4 dX11_undo_1 (fun v1 => ?_)
  refine go_getI gf_RX11_114 gcf_4 gft_4_5 dX11_undo_4 (fun v2 => ?_)
  refine go_if_ne (tgt := 16) dX11_undo_7 (by decide) (fun h3 => ?_) (fun h3 => ?_)
  · refine go_aload_n 0 dX11_undo_10 rfl rfl ?_
    refine go_iconst (v := 4) dX11_undo_11 (by decide) ?_
    refine go_callV_I (as := [vi 4]) gk_RX11_86 gmf_X11_deny (by decide) rfl (by omega) rfl rfl (Nat.le_of_ble_eq_true rfl) dX11_undo_12 (fun _ _ h => cX11_deny_c (by omega) h) (fun r4 s5 _ => ?_)
    exact go_ret rfl dX11_undo_15
  · refine go_aload_n 0 dX11_undo_16 rfl rfl ?_
    refine go_getR gf_RX11_42 gcf_11 gft_11_4 dX11_undo_17 (fun v6 => ?_)
    refine go_callV_I (as := []) gk_RX11_262 gmf_X4_latestKind (by decide) rfl (by omega) rfl rfl (Nat.le_of_ble_eq_true rfl) dX11_undo_20 (fun _ _ h => cX4_latestKind_c (by omega) h) (fun r7 s8 _ => ?_)
    refine go_gjn (P := fun j9 => ∀ (s10 : gH), gGo X rvI mX11_undo d 47 [(0, vr a0)] [] s10 (j9 s10)) (fun s10 => ?_) (fun j9 hj9 => ?_)
    · refine go_aload_n 0 dX11_undo_47 rfl rfl ?_
      refine go_getR gf_RX11_42 gcf_11 gft_11_4 dX11_undo_48 (fun v11 => ?_)
      refine go_callV_v (as := []) gk_RX11_273 gmf_X4_drop (by decide) rfl (by omega) rfl rfl (Nat.le_of_ble_eq_true rfl) dX11_undo_51 (fun _ _ h => cX4_drop_c (by omega) h) (fun r12 s13 _ => ?_)
      refine go_iconst (v := 1) dX11_undo_54 (by decide) ?_
      exact go_ret rfl dX11_undo_55
    · refine go_if_ne (tgt := 43) dX11_undo_23 (by decide) (fun h14 => ?_) (fun h14 => ?_)
      · refine go_aload_n 0 dX11_undo_26 rfl rfl ?_
        refine go_getR gf_RX11_35 gcf_11 gft_11_3 dX11_undo_27 (fun v15 => ?_)
        refine go_aload_n 0 dX11_undo_30 rfl rfl ?_
        refine go_getR gf_RX11_42 gcf_11 gft_11_4 dX11_undo_31 (fun v16 => ?_)
        refine go_callV_R (as := []) gk_RX11_248 gmf_X4_latestChanges (by decide) rfl (by omega) rfl rfl (Nat.le_of_ble_eq_true rfl) dX11_undo_34 (fun _ _ h => cX4_latestChanges_c (by omega) h) (fun r17 s18 _ => ?_)
        refine go_callV_v (as := [vr r17]) gk_RX11_266 gmf_X5_turnBack (by decide) rfl (by omega) rfl rfl (Nat.le_of_ble_eq_true rfl) dX11_undo_37 (fun _ _ h => cX5_turnBack_c (by omega) h) (fun r19 s20 _ => ?_)
        refine go_goto (tgt := 47) dX11_undo_40 (by decide) ?_
        exact go_sub [0] (hj9 s20) rfl
      · refine go_aload_n 0 dX11_undo_43 rfl rfl ?_
        refine go_callV_v (as := []) gk_RX11_270 gmf_X11_restoreRule (by decide) rfl (by omega) rfl rfl (Nat.le_of_ble_eq_true rfl) dX11_undo_44 (fun _ _ h => cX11_restoreRule_c (by omega) h) (fun r21 s22 _ => ?_)
        exact go_sub [0] (hj9 s22) rfl
set_option maxRecDepth 100000 in
set_option maxHeartbeats 4000000 in
theorem cX11_undo_c {d : Nat} (hd : 7 ≤ d) {a0 : Nat} {s0 : gH} {r : Int32} {s1 : gH} (h : fX11_undo a0 s0 = some (r, s1)) : gMt mX11_undo d [vr a0] s0 (some (vi r)) s1 := by
  obtain ⟨h1, h2⟩ := gzr_some h
  exact gMt_of (rv := rvI) (by decide +kernel) (Nat.le_of_ble_eq_true rfl) ⟨_, rfl, gnarZ h2⟩ (fun _ => wX11_undo hd) h1
def gX12_undo_L15 (k49 : gH → Option (Int32 × gH)) (a0 : Nat) : Nat → Int32 → gH → Option (Int32 × gH)
  | 0, _, _ => none
  | n + 1, x1, s0 =>
    if x1 < 264 then
      (ggR s0 a0 12 29).bind fun v7 =>
      (ggR s0 a0 12 43).bind fun v8 =>
      (ggI s0 a0 12 45).bind fun v9 =>
      (gaI s0 v8 2 ((264 * v9) + x1)).bind fun v10 =>
      (saI s0 v7 2 x1 v10).bind fun s11 =>
      gX12_undo_L15 k49 a0 n (x1 + 1) s11
    else
      k49 s0
set_option maxRecDepth 100000 in
set_option maxHeartbeats 4000000 in
theorem wX12_undo_L15 {X : Nat × (Nat → Int32)} {d : Nat} (hd : 1 ≤ d) (k49 : gH → Option (Int32 × gH)) (a0 : Nat) (hk49 : ∀ (s : gH), gGo X rvI mX12_undo d 49 [(0, vr a0)] [] s (k49 s)) : ∀ (n : Nat) (x1 : Int32) (s0 : gH), gGo X rvI mX12_undo d 15 [(0, vr a0), (1, vi x1)] [] s0 (gX12_undo_L15 k49 a0 n x1 s0) := by
  intro n
  induction n with
  | zero => intros; exact go_none
  | succ n ih =>
    intro x1 s0
    show gGo _ _ _ _ _ _ _ _ (gX12_undo_L15 k49 a0 (n + 1) x1 s0)
    unfold gX12_undo_L15
    refine go_iload_n 1 dX12_undo_15 rfl rfl ?_
    refine go_sipush (v := 264) dX12_undo_16 (by decide) ?_
    refine go_icmp_ge (tgt := 49) dX12_undo_19 (by decide) (fun h6 => ?_) (fun h6 => ?_)
    · refine go_aload_n 0 dX12_undo_22 rfl rfl ?_
      refine go_getR gf_RX12_54 gcf_12 gft_12_29 dX12_undo_23 (fun v7 => ?_)
      refine go_iload_n 1 dX12_undo_26 rfl rfl ?_
      refine go_aload_n 0 dX12_undo_27 rfl rfl ?_
      refine go_getR gf_RX12_90 gcf_12 gft_12_43 dX12_undo_28 (fun v8 => ?_)
      refine go_sipush (v := 264) dX12_undo_31 (by decide) ?_
      refine go_aload_n 0 dX12_undo_34 rfl rfl ?_
      refine go_getI gf_RX12_461 gcf_12 gft_12_45 dX12_undo_35 (fun v9 => ?_)
      refine go_imul dX12_undo_38 ?_
      refine go_iload_n 1 dX12_undo_39 rfl rfl ?_
      refine go_iadd dX12_undo_40 ?_
      refine go_iaload dX12_undo_41 (fun v10 _ => ?_)
      refine go_iastore dX12_undo_42 (fun s11 _ => ?_)
      refine go_iinc (v := 1) (L' := [(1, vi (x1 + 1)), (0, vr a0)]) 1 dX12_undo_43 rfl (by decide) (by decide) rfl ?_
      refine go_goto (tgt := 15) dX12_undo_46 (by decide) ?_
      exact go_sub [1, 0] (ih (x1 + 1) s11) rfl
    · exact go_sub [0] (hk49 s0) rfl
def gX12_undo (a0 : Nat) (s0 : gH) : Option (Int32 × gH) :=
  (ggI s0 a0 12 44).bind fun v1 =>
  if v1 = 0 then
    gb2 (gcv s0 a0 12 (fX12_isRefused a0 4 s0)) fun r3 s4 =>
    some (r3, s4)
  else
    gX12_undo_L15
      (fun s12 =>
        (ggI s12 a0 12 45).bind fun v13 =>
        (spI s12 a0 12 45 (gIrem ((v13 + 20) - 1) 20)).bind fun s14 =>
        (ggI s14 a0 12 44).bind fun v15 =>
        (spI s14 a0 12 44 (v15 - 1)).bind fun s16 =>
        gb2 (gcv s16 a0 12 (fX12_allAnew a0 s16)) fun r17 s18 =>
        some (1, s18))
      a0 20000 0 s0
def fX12_undo (a0 : Nat) (s0 : gH) : Option (Int32 × gH) := gzr (gX12_undo a0 s0)
set_option maxRecDepth 100000 in
set_option maxHeartbeats 4000000 in
theorem wX12_undo {X : Nat × (Nat → Int32)} {d : Nat} (hd : 1 ≤ d) {a0 : Nat} {s0 : gH} : gGo X rvI mX12_undo d 0 [(0, vr a0)] [] s0 (gX12_undo a0 s0) := by
  unfold gX12_undo
  refine go_aload_n 0 dX12_undo_0 rfl rfl ?_
  refine go_getI gf_RX12_304 gcf_12 gft_12_44 dX12_undo_1 (fun v1 => ?_)
  refine go_if_ne (tgt := 13) dX12_undo_4 (by decide) (fun h2 => ?_) (fun h2 => ?_)
  · refine go_aload_n 0 dX12_undo_7 rfl rfl ?_
    refine go_iconst (v := 4) dX12_undo_8 (by decide) ?_
    refine go_callV_I (as := [vi 4]) gk_RX12_104 gmf_X12_isRefused (by decide) rfl (by omega) rfl rfl (Nat.le_of_ble_eq_true rfl) dX12_undo_9 (fun _ _ h => cX12_isRefused_c (by omega) h) (fun r3 s4 _ => ?_)
    exact go_ret rfl dX12_undo_12
  · refine go_iconst (v := 0) dX12_undo_13 (by decide) ?_
    refine go_istore_n (L' := [(1, vi 0), (0, vr a0)]) dX12_undo_14 rfl (by decide) rfl ?_
    refine go_sub [1, 0] (wX12_undo_L15 hd _ a0 ?_ 20000 0 s0) rfl
    intro s12
    refine go_aload_n 0 dX12_undo_49 rfl rfl ?_
    refine go_aload_n 0 dX12_undo_50 rfl rfl ?_
    refine go_getI gf_RX12_461 gcf_12 gft_12_45 dX12_undo_51 (fun v13 => ?_)
    refine go_bipush (v := 20) dX12_undo_54 (by decide) ?_
    refine go_iadd dX12_undo_56 ?_
    refine go_iconst (v := 1) dX12_undo_57 (by decide) ?_
    refine go_isub dX12_undo_58 ?_
    refine go_bipush (v := 20) dX12_undo_59 (by decide) ?_
    refine go_iremc dX12_undo_61 (by decide) ?_
    refine go_putI gf_RX12_461 gcf_12 gpl_12_45 gft_12_45 dX12_undo_62 (fun s14 _ => ?_)
    refine go_aload_n 0 dX12_undo_65 rfl rfl ?_
    refine go_dup dX12_undo_66 rfl ?_
    refine go_getI gf_RX12_304 gcf_12 gft_12_44 dX12_undo_67 (fun v15 => ?_)
    refine go_iconst (v := 1) dX12_undo_70 (by decide) ?_
    refine go_isub dX12_undo_71 ?_
    refine go_putI gf_RX12_304 gcf_12 gpl_12_44 gft_12_44 dX12_undo_72 (fun s16 _ => ?_)
    refine go_aload_n 0 dX12_undo_75 rfl rfl ?_
    refine go_callV_v (as := []) gk_RX12_310 gmf_X12_allAnew (by decide) rfl (by omega) rfl rfl (Nat.le_of_ble_eq_true rfl) dX12_undo_76 (fun _ _ h => cX12_allAnew_c (by omega) h) (fun r17 s18 _ => ?_)
    refine go_iconst (v := 1) dX12_undo_79 (by decide) ?_
    exact go_ret rfl dX12_undo_80
set_option maxRecDepth 100000 in
set_option maxHeartbeats 4000000 in
theorem cX12_undo_c {d : Nat} (hd : 1 ≤ d) {a0 : Nat} {s0 : gH} {r : Int32} {s1 : gH} (h : fX12_undo a0 s0 = some (r, s1)) : gMt mX12_undo d [vr a0] s0 (some (vi r)) s1 := by
  obtain ⟨h1, h2⟩ := gzr_some h
  exact gMt_of (rv := rvI) (by decide +kernel) (Nat.le_of_ble_eq_true rfl) ⟨_, rfl, gnarZ h2⟩ (fun _ => wX12_undo hd) h1
def gX11_seed (a0 : Nat) (x1 : Int32) (s0 : gH) : Option (Int32 × gH) :=
  if x1 < 0 then
    gb2 (gcv s0 a0 11 (fX11_deny a0 5 s0)) fun r2 s3 =>
    some (r2, s3)
  else
    (spI s0 a0 11 9 x1).bind fun s4 =>
    some (1, s4)
def fX11_seed (a0 : Nat) (x1 : Int32) (s0 : gH) : Option (Int32 × gH) := gzr (gX11_seed a0 x1 s0)
set_option maxRecDepth 100000 in
set_option maxHeartbeats 4000000 in
theorem wX11_seed {X : Nat × (Nat → Int32)} {d : Nat} (hd : 2 ≤ d) {a0 : Nat} {x1 : Int32} {s0 : gH} : gGo X rvI mX11_seed d 0 [(0, vr a0), (1, vi x1)] [] s0 (gX11_seed a0 x1 s0) := by
  unfold gX11_seed
  refine go_iload_n 1 dX11_seed_0 rfl rfl ?_
  refine go_if_ge (tgt := 10) dX11_seed_1 (by decide) (fun h1 => ?_) (fun h1 => ?_)
  · refine go_aload_n 0 dX11_seed_4 rfl rfl ?_
    refine go_iconst (v := 5) dX11_seed_5 (by decide) ?_
    refine go_callV_I (as := [vi 5]) gk_RX11_86 gmf_X11_deny (by decide) rfl (by omega) rfl rfl (Nat.le_of_ble_eq_true rfl) dX11_seed_6 (fun _ _ h => cX11_deny_c (by omega) h) (fun r2 s3 _ => ?_)
    exact go_ret rfl dX11_seed_9
  · refine go_aload_n 0 dX11_seed_10 rfl rfl ?_
    refine go_iload_n 1 dX11_seed_11 rfl rfl ?_
    refine go_putI gf_RX11_67 gcf_11 gpl_11_9 gft_11_9 dX11_seed_12 (fun s4 _ => ?_)
    refine go_iconst (v := 1) dX11_seed_15 (by decide) ?_
    exact go_ret rfl dX11_seed_16
set_option maxRecDepth 100000 in
set_option maxHeartbeats 4000000 in
theorem cX11_seed_c {d : Nat} (hd : 2 ≤ d) {a0 : Nat} {x1 : Int32} {s0 : gH} {r : Int32} {s1 : gH} (h : fX11_seed a0 x1 s0 = some (r, s1)) : gMt mX11_seed d [vr a0, vi x1] s0 (some (vi r)) s1 := by
  obtain ⟨h1, h2⟩ := gzr_some h
  exact gMt_of (rv := rvI) (by decide +kernel) (Nat.le_of_ble_eq_true rfl) ⟨_, rfl, gnarZ h2⟩ (fun _ => wX11_seed hd) h1
def gX12_seed (a0 : Nat) (x1 : Int32) (s0 : gH) : Option (Int32 × gH) :=
  if x1 < 0 then
    gb2 (gcv s0 a0 12 (fX12_isRefused a0 5 s0)) fun r2 s3 =>
    some (r2, s3)
  else
    (spJ s0 a0 12 46 x1.toInt64).bind fun s4 =>
    some (1, s4)
def fX12_seed (a0 : Nat) (x1 : Int32) (s0 : gH) : Option (Int32 × gH) := gzr (gX12_seed a0 x1 s0)
set_option maxRecDepth 100000 in
set_option maxHeartbeats 4000000 in
theorem wX12_seed {X : Nat × (Nat → Int32)} {d : Nat} (hd : 1 ≤ d) {a0 : Nat} {x1 : Int32} {s0 : gH} : gGo X rvI mX12_seed d 0 [(0, vr a0), (1, vi x1)] [] s0 (gX12_seed a0 x1 s0) := by
  unfold gX12_seed
  refine go_iload_n 1 dX12_seed_0 rfl rfl ?_
  refine go_if_ge (tgt := 10) dX12_seed_1 (by decide) (fun h1 => ?_) (fun h1 => ?_)
  · refine go_aload_n 0 dX12_seed_4 rfl rfl ?_
    refine go_iconst (v := 5) dX12_seed_5 (by decide) ?_
    refine go_callV_I (as := [vi 5]) gk_RX12_104 gmf_X12_isRefused (by decide) rfl (by omega) rfl rfl (Nat.le_of_ble_eq_true rfl) dX12_seed_6 (fun _ _ h => cX12_isRefused_c (by omega) h) (fun r2 s3 _ => ?_)
    exact go_ret rfl dX12_seed_9
  · refine go_aload_n 0 dX12_seed_10 rfl rfl ?_
    refine go_iload_n 1 dX12_seed_11 rfl rfl ?_
    refine go_i2l dX12_seed_12 ?_
    refine go_putJ gf_RX12_93 gcf_12 gpl_12_46 gft_12_46 dX12_seed_13 (fun s4 _ => ?_)
    refine go_iconst (v := 1) dX12_seed_16 (by decide) ?_
    exact go_ret rfl dX12_seed_17
set_option maxRecDepth 100000 in
set_option maxHeartbeats 4000000 in
theorem cX12_seed_c {d : Nat} (hd : 1 ≤ d) {a0 : Nat} {x1 : Int32} {s0 : gH} {r : Int32} {s1 : gH} (h : fX12_seed a0 x1 s0 = some (r, s1)) : gMt mX12_seed d [vr a0, vi x1] s0 (some (vi r)) s1 := by
  obtain ⟨h1, h2⟩ := gzr_some h
  exact gMt_of (rv := rvI) (by decide +kernel) (Nat.le_of_ble_eq_true rfl) ⟨_, rfl, gnarZ h2⟩ (fun _ => wX12_seed hd) h1
def fX11_status (a0 : Nat) (x1 : Int32) (s0 : gH) : Option (Int32 × gH) :=
  if x1 < 0 then
    some (-1, s0)
  else
    (ggR s0 a0 11 6).bind fun v2 =>
    (glen s0 v2).bind fun v3 =>
    if x1 < v3 then
      (ggR s0 a0 11 6).bind fun v5 =>
      (gaI s0 v5 2 x1).bind fun v6 =>
      some (v6, s0)
    else
      some (-1, s0)
set_option maxRecDepth 100000 in
set_option maxHeartbeats 4000000 in
theorem wX11_status {X : Nat × (Nat → Int32)} {d : Nat} (hd : 0 ≤ d) {a0 : Nat} {x1 : Int32} {s0 : gH} : gGo X rvI mX11_status d 0 [(0, vr a0), (1, vi x1)] [] s0 (fX11_status a0 x1 s0) := by
  unfold fX11_status
  refine go_iload_n 1 dX11_status_0 rfl rfl ?_
  refine go_if_lt (tgt := 13) dX11_status_1 (by decide) (fun h1 => ?_) (fun h1 => ?_)
  · refine go_iconst (v := -1) dX11_status_13 (by decide) ?_
    refine go_goto (tgt := 23) dX11_status_14 (by decide) ?_
    exact go_ret rfl dX11_status_23
  · refine go_iload_n 1 dX11_status_4 rfl rfl ?_
    refine go_aload_n 0 dX11_status_5 rfl rfl ?_
    refine go_getR gf_RX11_53 gcf_11 gft_11_6 dX11_status_6 (fun v2 => ?_)
    refine go_alen dX11_status_9 (fun v3 _ => ?_)
    refine go_icmp_lt (tgt := 17) dX11_status_10 (by decide) (fun h4 => ?_) (fun h4 => ?_)
    · refine go_aload_n 0 dX11_status_17 rfl rfl ?_
      refine go_getR gf_RX11_53 gcf_11 gft_11_6 dX11_status_18 (fun v5 => ?_)
      refine go_iload_n 1 dX11_status_21 rfl rfl ?_
      refine go_iaload dX11_status_22 (fun v6 _ => ?_)
      exact go_ret rfl dX11_status_23
    · refine go_iconst (v := -1) dX11_status_13 (by decide) ?_
      refine go_goto (tgt := 23) dX11_status_14 (by decide) ?_
      exact go_ret rfl dX11_status_23
set_option maxRecDepth 100000 in
set_option maxHeartbeats 4000000 in
theorem cX11_status_c {d : Nat} (hd : 0 ≤ d) {a0 : Nat} {x1 : Int32} {s0 : gH} {r : Int32} {s1 : gH} (h : fX11_status a0 x1 s0 = some (r, s1)) : gMt mX11_status d [vr a0, vi x1] s0 (some (vi r)) s1 :=
  gMt_of (rv := rvI) (by decide +kernel) (Nat.le_of_ble_eq_true rfl) ⟨_, rfl, rfl⟩ (fun _ => wX11_status hd) h
def fX12_status (a0 : Nat) (x1 : Int32) (s0 : gH) : Option (Int32 × gH) :=
  gb2 (fX12_isIn x1.toInt64 0 5 s0) fun r1 s2 =>
  if r1 = 0 then
    some (-1, s2)
  else
    (ggR s2 a0 12 9).bind fun v4 =>
    (gaI s2 v4 2 x1).bind fun v5 =>
    some (v5, s2)
set_option maxRecDepth 100000 in
set_option maxHeartbeats 4000000 in
theorem wX12_status {X : Nat × (Nat → Int32)} {d : Nat} (hd : 1 ≤ d) {a0 : Nat} {x1 : Int32} {s0 : gH} : gGo X rvI mX12_status d 0 [(0, vr a0), (1, vi x1)] [] s0 (fX12_status a0 x1 s0) := by
  unfold fX12_status
  refine go_iload_n 1 dX12_status_0 rfl rfl ?_
  refine go_i2l dX12_status_1 ?_
  refine go_lconst (v := 0) dX12_status_2 (by decide) ?_
  refine go_ldc2 gcl_RX12_108 dX12_status_3 ?_
  refine go_callS_I (as := [vl x1.toInt64, vl 0, vl 5]) gk_RX12_110 gmf_X12_isIn (by omega) rfl rfl (Nat.le_of_ble_eq_true rfl) dX12_status_6 (fun _ _ h => cX12_isIn_c (by omega) h) (fun r1 s2 _ => ?_)
  refine go_if_eq (tgt := 21) dX12_status_9 (by decide) (fun h3 => ?_) (fun h3 => ?_)
  · refine go_iconst (v := -1) dX12_status_21 (by decide) ?_
    exact go_ret rfl dX12_status_22
  · refine go_aload_n 0 dX12_status_12 rfl rfl ?_
    refine go_getR gf_RX12_17 gcf_12 gft_12_9 dX12_status_13 (fun v4 => ?_)
    refine go_iload_n 1 dX12_status_16 rfl rfl ?_
    refine go_iaload dX12_status_17 (fun v5 _ => ?_)
    refine go_goto (tgt := 22) dX12_status_18 (by decide) ?_
    exact go_ret rfl dX12_status_22
set_option maxRecDepth 100000 in
set_option maxHeartbeats 4000000 in
theorem cX12_status_c {d : Nat} (hd : 1 ≤ d) {a0 : Nat} {x1 : Int32} {s0 : gH} {r : Int32} {s1 : gH} (h : fX12_status a0 x1 s0 = some (r, s1)) : gMt mX12_status d [vr a0, vi x1] s0 (some (vi r)) s1 :=
  gMt_of (rv := rvI) (by decide +kernel) (Nat.le_of_ble_eq_true rfl) ⟨_, rfl, rfl⟩ (fun _ => wX12_status hd) h
