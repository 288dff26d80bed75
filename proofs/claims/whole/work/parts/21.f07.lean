/-! walks, written by a program -/
def gX12_daysTold_L38 (k75 : gH → Option (Unit × gH)) (a0 : Nat) (x1 : Int32) (x3 : Int32) (x4 : Int32) : Nat → Int32 → gH → Option (Unit × gH)
  | 0, _, _ => none
  | n + 1, x5, s0 =>
    if x5 < x1 then
      (ggI s0 a0 12 5).bind fun v14 =>
      if v14 = 0 then
        (ggR s0 a0 12 28).bind fun v16 =>
        (gaI s0 v16 2 x5).bind fun v17 =>
        if v17 = x4 then
          gb2 (gcv s0 a0 12 (fX12_fail a0 4 x3 s0)) fun r19 s20 =>
          gX12_daysTold_L38 k75 a0 x1 x3 x4 n (x5 + 1) s20
        else
          gX12_daysTold_L38 k75 a0 x1 x3 x4 n (x5 + 1) s0
      else
        k75 s0
    else
      k75 s0
set_option maxRecDepth 100000 in
set_option maxHeartbeats 4000000 in
theorem wX12_daysTold_L38 {X : Nat × (Nat → Int32)} {d : Nat} (hd : 5 ≤ d) (k75 : gH → Option (Unit × gH)) (a0 : Nat) (x1 : Int32) (x3 : Int32) (x4 : Int32) (hk75 : ∀ (s : gH), gGo X rvU mX12_daysTold d 75 [(0, vr a0), (1, vi x1), (4, vi x4)] [] s (k75 s)) : ∀ (n : Nat) (x5 : Int32) (s0 : gH), gGo X rvU mX12_daysTold d 38 [(0, vr a0), (1, vi x1), (3, vi x3), (4, vi x4), (5, vi x5)] [] s0 (gX12_daysTold_L38 k75 a0 x1 x3 x4 n x5 s0) := by
  intro n
  induction n with
  | zero => intros; exact go_none
  | succ n ih =>
    intro x5 s0
    show gGo _ _ _ _ _ _ _ _ (gX12_daysTold_L38 k75 a0 x1 x3 x4 (n + 1) x5 s0)
    unfold gX12_daysTold_L38
    refine go_iload 4 dX12_daysTold_38 rfl ?_
    refine go_iload_n 1 dX12_daysTold_40 rfl rfl ?_
    refine go_icmp_ge (tgt := 75) dX12_daysTold_41 (by decide) (fun h13 => ?_) (fun h13 => ?_)
    · refine go_aload_n 0 dX12_daysTold_44 rfl rfl ?_
      refine go_getI gf_RX12_117 gcf_12 gft_12_5 dX12_daysTold_45 (fun v14 => ?_)
      refine go_if_ne (tgt := 75) dX12_daysTold_48 (by decide) (fun h15 => ?_) (fun h15 => ?_)
      · refine go_aload_n 0 dX12_daysTold_51 rfl rfl ?_
        refine go_getR gf_RX12_51 gcf_12 gft_12_28 dX12_daysTold_52 (fun v16 => ?_)
        refine go_iload 4 dX12_daysTold_55 rfl ?_
        refine go_iaload dX12_daysTold_57 (fun v17 _ => ?_)
        refine go_iload 3 dX12_daysTold_58 rfl ?_
        refine go_icmp_ne (tgt := 69) dX12_daysTold_60 (by decide) (fun h18 => ?_) (fun h18 => ?_)
        · refine go_aload_n 0 dX12_daysTold_63 rfl rfl ?_
          refine go_iconst (v := 4) dX12_daysTold_64 (by decide) ?_
          refine go_iload_n 2 dX12_daysTold_65 rfl rfl ?_
          refine go_callV_v (as := [vi 4, vi x3]) gk_RX12_142 gmf_X12_fail (by decide) rfl (by omega) rfl rfl (Nat.le_of_ble_eq_true rfl) dX12_daysTold_66 (fun _ _ h => cX12_fail_c (by omega) h) (fun r19 s20 _ => ?_)
          refine go_iinc (v := 1) (L' := [(5, vi (x5 + 1)), (0, vr a0), (1, vi x1), (3, vi x3), (4, vi x4)]) 4 dX12_daysTold_69 rfl (by decide) (by decide) rfl ?_
          refine go_goto (tgt := 38) dX12_daysTold_72 (by decide) ?_
          exact go_sub [1, 2, 3, 4, 0] (ih (x5 + 1) s20) rfl
        · refine go_iinc (v := 1) (L' := [(5, vi (x5 + 1)), (0, vr a0), (1, vi x1), (3, vi x3), (4, vi x4)]) 4 dX12_daysTold_69 rfl (by decide) (by decide) rfl ?_
          refine go_goto (tgt := 38) dX12_daysTold_72 (by decide) ?_
          exact go_sub [1, 2, 3, 4, 0] (ih (x5 + 1) s0) rfl
      · exact go_sub [0, 1, 3] (hk75 s0) rfl
    · exact go_sub [0, 1, 3] (hk75 s0) rfl
def gX12_daysTold_L15  (a0 : Nat) : Nat → Int32 → Int32 → gH → Option (Unit × gH)
  | 0, _, _, _ => none
  | n + 1, x1, x2, s0 =>
    if x2 = 0 then
      some ((), s0)
    else
      gb2 (gcv s0 a0 12 (fX12_room a0 x1 s0)) fun r7 s8 =>
      (ggI s8 a0 12 2).bind fun v9 =>
      gb2 (gcv s8 a0 12 (fX12_date a0 s8)) fun r10 s11 =>
      gX12_daysTold_L38
        (fun s21 =>
          (ggI s21 a0 12 5).bind fun v22 =>
          gjn (fun (y24 : Int32) (s25 : gH) =>
              gb2 (gcv s25 a0 12 (fX12_takesSign a0 44 s25)) fun r26 s27 =>
              gX12_daysTold_L15 a0 n y24 r26 s27
          ) fun j23 =>
          if v22 = 0 then
            (ggR s21 a0 12 28).bind fun v29 =>
            (saI s21 v29 2 x1 r10).bind fun s30 =>
            gjn (fun (z32 : Int32) (b33 : Nat) (s34 : gH) =>
                gb2 (gcv s34 b33 12 (fX12_codes b33 z32 r10 s34)) fun r35 s36 =>
                j23 (x1 + 1) s36
            ) fun j31 =>
            if x1 = 0 then
              j31 1 a0 s30
            else
              j31 2 a0 s30
          else
            j23 x1 s21)
        a0 x1 v9 r10 20000 0 s11
set_option maxRecDepth 100000 in
set_option maxHeartbeats 4000000 in
theorem wX12_daysTold_L15 {X : Nat × (Nat → Int32)} {d : Nat} (hd : 5 ≤ d)  (a0 : Nat) : ∀ (n : Nat) (x1 : Int32) (x2 : Int32) (s0 : gH), gGo X rvU mX12_daysTold d 15 [(0, vr a0), (1, vi x1), (2, vi x2)] [] s0 (gX12_daysTold_L15 a0 n x1 x2 s0) := by
  intro n
  induction n with
  | zero => intros; exact go_none
  | succ n ih =>
    intro x1 x2 s0
    show gGo _ _ _ _ _ _ _ _ (gX12_daysTold_L15 a0 (n + 1) x1 x2 s0)
    unfold gX12_daysTold_L15
    refine go_iload_n 2 dX12_daysTold_15 rfl rfl ?_
    refine go_if_eq (tgt := 118) dX12_daysTold_16 (by decide) (fun h6 => ?_) (fun h6 => ?_)
    · exact go_retv rfl dX12_daysTold_118
    · refine go_aload_n 0 dX12_daysTold_19 rfl rfl ?_
      refine go_iload_n 1 dX12_daysTold_20 rfl rfl ?_
      refine go_callV_v (as := [vi x1]) gk_RX12_209 gmf_X12_room (by decide) rfl (by omega) rfl rfl (Nat.le_of_ble_eq_true rfl) dX12_daysTold_21 (fun _ _ h => cX12_room_c (by omega) h) (fun r7 s8 _ => ?_)
      refine go_aload_n 0 dX12_daysTold_24 rfl rfl ?_
      refine go_getI gf_RX12_123 gcf_12 gft_12_2 dX12_daysTold_25 (fun v9 => ?_)
      refine go_istore_n (L' := [(3, vi v9), (0, vr a0), (1, vi x1), (2, vi x2)]) dX12_daysTold_28 rfl (by decide) rfl ?_
      refine go_aload_n 1 dX12_daysTold_29 rfl rfl ?_
      refine go_callV_I (as := []) gk_RX12_235 gmf_X12_date (by decide) rfl (by omega) rfl rfl (Nat.le_of_ble_eq_true rfl) dX12_daysTold_30 (fun _ _ h => cX12_date_c (by omega) h) (fun r10 s11 _ => ?_)
      refine go_istore (L' := [(4, vi r10), (3, vi v9), (0, vr a0), (1, vi x1), (2, vi x2)]) dX12_daysTold_33 (by decide) rfl ?_
      refine go_iconst (v := 0) dX12_daysTold_35 (by decide) ?_
      refine go_istore (L' := [(5, vi 0), (4, vi r10), (3, vi v9), (0, vr a0), (1, vi x1), (2, vi x2)]) dX12_daysTold_36 (by decide) rfl ?_
      refine go_sub [3, 4, 2, 1, 0] (wX12_daysTold_L38 hd _ a0 x1 v9 r10 ?_ 20000 0 s11) rfl
      intro s21
      refine go_aload_n 0 dX12_daysTold_75 rfl rfl ?_
      refine go_getI gf_RX12_117 gcf_12 gft_12_5 dX12_daysTold_76 (fun v22 => ?_)
      refine go_gjn (P := fun j23 => ∀ (y24 : Int32) (s25 : gH), gGo X rvU mX12_daysTold d 108 [(0, vr a0), (1, vi y24)] [] s25 (j23 y24 s25)) (fun y24 s25 => ?_) (fun j23 hj23 => ?_)
      · refine go_aload_n 0 dX12_daysTold_108 rfl rfl ?_
        refine go_bipush (v := 44) dX12_daysTold_109 (by decide) ?_
        refine go_callV_I (as := [vi 44]) gk_RX12_139 gmf_X12_takesSign (by decide) rfl (by omega) rfl rfl (Nat.le_of_ble_eq_true rfl) dX12_daysTold_111 (fun _ _ h => cX12_takesSign_c (by omega) h) (fun r26 s27 _ => ?_)
        refine go_istore_n (L' := [(2, vi r26), (0, vr a0), (1, vi y24)]) dX12_daysTold_114 rfl (by decide) rfl ?_
        refine go_goto (tgt := 15) dX12_daysTold_115 (by decide) ?_
        exact go_sub [1, 2, 0] (ih y24 r26 s27) rfl
      · refine go_if_ne (tgt := 108) dX12_daysTold_79 (by decide) (fun h28 => ?_) (fun h28 => ?_)
        · refine go_aload_n 0 dX12_daysTold_82 rfl rfl ?_
          refine go_getR gf_RX12_51 gcf_12 gft_12_28 dX12_daysTold_83 (fun v29 => ?_)
          refine go_iload_n 1 dX12_daysTold_86 rfl rfl ?_
          refine go_iload 2 dX12_daysTold_87 rfl ?_
          refine go_iastore dX12_daysTold_89 (fun s30 _ => ?_)
          refine go_aload_n 0 dX12_daysTold_90 rfl rfl ?_
          refine go_iload_n 1 dX12_daysTold_91 rfl rfl ?_
          refine go_gjn (P := fun j31 => ∀ (z32 : Int32) (b33 : Nat) (s34 : gH), gGo X rvU mX12_daysTold d 100 [(0, vr a0), (1, vi x1), (4, vi r10)] [vi z32, vr b33] s34 (j31 z32 b33 s34)) (fun z32 b33 s34 => ?_) (fun j31 hj31 => ?_)
          · refine go_iload 2 dX12_daysTold_100 rfl ?_
            refine go_callV_v (as := [vi z32, vi r10]) gk_RX12_259 gmf_X12_codes (by decide) rfl (by omega) rfl rfl (Nat.le_of_ble_eq_true rfl) dX12_daysTold_102 (fun _ _ h => cX12_codes_c (by omega) h) (fun r35 s36 _ => ?_)
            refine go_iinc (v := 1) (L' := [(1, vi (x1 + 1)), (0, vr a0), (4, vi r10)]) 1 dX12_daysTold_105 rfl (by decide) (by decide) rfl ?_
            exact go_sub [1, 0] (hj23 (x1 + 1) s36) rfl
          · refine go_if_ne (tgt := 99) dX12_daysTold_92 (by decide) (fun h37 => ?_) (fun h37 => ?_)
            · refine go_iconst (v := 1) dX12_daysTold_95 (by decide) ?_
              refine go_goto (tgt := 100) dX12_daysTold_96 (by decide) ?_
              exact go_sub [0, 1, 2] (hj31 1 a0 s30) rfl
            · refine go_iconst (v := 2) dX12_daysTold_99 (by decide) ?_
              exact go_sub [0, 1, 2] (hj31 2 a0 s30) rfl
        · exact go_sub [0, 1] (hj23 x1 s21) rfl
def fX12_daysTold (a0 : Nat) (s0 : gH) : Option (Unit × gH) :=
  (ggI s0 a0 12 5).bind fun v1 =>
  gjn (fun (z3 : Int32) (s4 : gH) =>
      gX12_daysTold_L15
        a0 20000 0 z3 s4
  ) fun j2 =>
  if v1 = 0 then
    j2 1 s0
  else
    j2 0 s0
set_option maxRecDepth 100000 in
set_option maxHeartbeats 4000000 in
theorem wX12_daysTold {X : Nat × (Nat → Int32)} {d : Nat} (hd : 5 ≤ d) {a0 : Nat} {s0 : gH} : gGo X rvU mX12_daysTold d 0 [(0, vr a0)] [] s0 (fX12_daysTold a0 s0) := by
  unfold fX12_daysTold
  refine go_iconst (v := 0) dX12_daysTold_0 (by decide) ?_
  refine go_istore_n (L' := [(1, vi 0), (0, vr a0)]) dX12_daysTold_1 rfl (by decide) rfl ?_
  refine go_aload_n 1 dX12_daysTold_2 rfl rfl ?_
  refine go_getI gf_RX12_117 gcf_12 gft_12_5 dX12_daysTold_3 (fun v1 => ?_)
  refine go_gjn (P := fun j2 => ∀ (z3 : Int32) (s4 : gH), gGo X rvU mX12_daysTold d 14 [(0, vr a0), (1, vi 0)] [vi z3] s4 (j2 z3 s4)) (fun z3 s4 => ?_) (fun j2 hj2 => ?_)
  · refine go_istore_n (L' := [(2, vi z3), (0, vr a0), (1, vi 0)]) dX12_daysTold_14 rfl (by decide) rfl ?_
    refine go_sub [1, 2, 0] (wX12_daysTold_L15 hd a0 20000 0 z3 s4) rfl
  · refine go_if_ne (tgt := 13) dX12_daysTold_6 (by decide) (fun h38 => ?_) (fun h38 => ?_)
    · refine go_iconst (v := 1) dX12_daysTold_9 (by decide) ?_
      refine go_goto (tgt := 14) dX12_daysTold_10 (by decide) ?_
      exact go_sub [1, 0] (hj2 1 s0) rfl
    · refine go_iconst (v := 0) dX12_daysTold_13 (by decide) ?_
      exact go_sub [1, 0] (hj2 0 s0) rfl
set_option maxRecDepth 100000 in
set_option maxHeartbeats 4000000 in
theorem cX12_daysTold_c {d : Nat} (hd : 5 ≤ d) {a0 : Nat} {s0 : gH} {r : Unit} {s1 : gH} (h : fX12_daysTold a0 s0 = some (r, s1)) : gMt mX12_daysTold d [vr a0] s0 none s1 :=
  gMt_of (rv := rvU) (by decide +kernel) (Nat.le_of_ble_eq_true rfl) rfl (fun _ => wX12_daysTold hd) h
def fX12_what (a0 : Nat) (s0 : gH) : Option (Int32 × gH) :=
  gb2 (gcv s0 a0 12 (fX12_name a0 s0)) fun r1 s2 =>
  (ggI s2 a0 12 5).bind fun v3 =>
  gjn (fun (z5 : Int32) (s6 : gH) =>
      (ggI s6 a0 12 5).bind fun v7 =>
      if v7 = 0 then
        if z5 = -1 then
          (ggI s6 a0 12 12).bind fun v10 =>
          gb2 (gcv s6 a0 12 (fX12_fail a0 3 v10 s6)) fun r11 s12 =>
          some (z5, s12)
        else
          some (z5, s6)
      else
        some (z5, s6)
  ) fun j4 =>
  if v3 = 0 then
    gb2 (gcv s2 a0 12 (fX12_named a0 r1 s2)) fun r14 s15 =>
    j4 r14 s15
  else
    j4 0 s2
set_option maxRecDepth 100000 in
set_option maxHeartbeats 4000000 in
theorem wX12_what {X : Nat × (Nat → Int32)} {d : Nat} (hd : 4 ≤ d) {a0 : Nat} {s0 : gH} : gGo X rvI mX12_what d 0 [(0, vr a0)] [] s0 (fX12_what a0 s0) := by
  unfold fX12_what
  refine go_aload_n 0 dX12_what_0 rfl rfl ?_
  refine go_callV_I (as := []) gk_RX12_192 gmf_X12_name (by decide) rfl (by omega) rfl rfl (Nat.le_of_ble_eq_true rfl) dX12_what_1 (fun _ _ h => cX12_name_c (by omega) h) (fun r1 s2 _ => ?_)
  refine go_istore_n (L' := [(1, vi r1), (0, vr a0)]) dX12_what_4 rfl (by decide) rfl ?_
  refine go_aload_n 1 dX12_what_5 rfl rfl ?_
  refine go_getI gf_RX12_117 gcf_12 gft_12_5 dX12_what_6 (fun v3 => ?_)
  refine go_gjn (P := fun j4 => ∀ (z5 : Int32) (s6 : gH), gGo X rvI mX12_what d 21 [(0, vr a0)] [vi z5] s6 (j4 z5 s6)) (fun z5 s6 => ?_) (fun j4 hj4 => ?_)
  · refine go_istore_n (L' := [(2, vi z5), (0, vr a0)]) dX12_what_21 rfl (by decide) rfl ?_
    refine go_aload_n 1 dX12_what_22 rfl rfl ?_
    refine go_getI gf_RX12_117 gcf_12 gft_12_5 dX12_what_23 (fun v7 => ?_)
    refine go_if_ne (tgt := 43) dX12_what_26 (by decide) (fun h8 => ?_) (fun h8 => ?_)
    · refine go_iload_n 0 dX12_what_29 rfl rfl ?_
      refine go_iconst (v := -1) dX12_what_30 (by decide) ?_
      refine go_icmp_ne (tgt := 43) dX12_what_31 (by decide) (fun h9 => ?_) (fun h9 => ?_)
      · refine go_aload_n 1 dX12_what_34 rfl rfl ?_
        refine go_iconst (v := 3) dX12_what_35 (by decide) ?_
        refine go_aload_n 1 dX12_what_36 rfl rfl ?_
        refine go_getI gf_RX12_169 gcf_12 gft_12_12 dX12_what_37 (fun v10 => ?_)
        refine go_callV_v (as := [vi 3, vi v10]) gk_RX12_142 gmf_X12_fail (by decide) rfl (by omega) rfl rfl (Nat.le_of_ble_eq_true rfl) dX12_what_40 (fun _ _ h => cX12_fail_c (by omega) h) (fun r11 s12 _ => ?_)
        refine go_iload_n 0 dX12_what_43 rfl rfl ?_
        exact go_ret rfl dX12_what_44
      · refine go_iload_n 0 dX12_what_43 rfl rfl ?_
        exact go_ret rfl dX12_what_44
    · refine go_iload_n 0 dX12_what_43 rfl rfl ?_
      exact go_ret rfl dX12_what_44
  · refine go_if_ne (tgt := 20) dX12_what_9 (by decide) (fun h13 => ?_) (fun h13 => ?_)
    · refine go_aload_n 1 dX12_what_12 rfl rfl ?_
      refine go_iload_n 0 dX12_what_13 rfl rfl ?_
      refine go_callV_I (as := [vi r1]) gk_RX12_195 gmf_X12_named (by decide) rfl (by omega) rfl rfl (Nat.le_of_ble_eq_true rfl) dX12_what_14 (fun _ _ h => cX12_named_c (by omega) h) (fun r14 s15 _ => ?_)
      refine go_goto (tgt := 21) dX12_what_17 (by decide) ?_
      exact go_sub [1] (hj4 r14 s15) rfl
    · refine go_iconst (v := 0) dX12_what_20 (by decide) ?_
      exact go_sub [1] (hj4 0 s2) rfl
set_option maxRecDepth 100000 in
set_option maxHeartbeats 4000000 in
theorem cX12_what_c {d : Nat} (hd : 4 ≤ d) {a0 : Nat} {s0 : gH} {r : Int32} {s1 : gH} (h : fX12_what a0 s0 = some (r, s1)) : gMt mX12_what d [vr a0] s0 (some (vi r)) s1 :=
  gMt_of (rv := rvI) (by decide +kernel) (Nat.le_of_ble_eq_true rfl) ⟨_, rfl, rfl⟩ (fun _ => wX12_what hd) h
def gX12_movesTold_L13  (a0 : Nat) : Nat → Int32 → gH → Option (Unit × gH)
  | 0, _, _ => none
  | n + 1, x1, s0 =>
    if x1 = 0 then
      some ((), s0)
    else
      gb2 (gcv s0 a0 12 (fX12_takes a0 25 s0)) fun r7 s8 =>
      if r7 = 0 then
        gb2 (gcv s8 a0 12 (fX12_takes a0 26 s8)) fun r10 s11 =>
        if r10 = 0 then
          gb2 (gcv s11 a0 12 (fX12_takes a0 27 s11)) fun r13 s14 =>
          if r13 = 0 then
            gX12_movesTold_L13 a0 n 0 s14
          else
            gb2 (gcv s14 a0 12 (fX12_what a0 s14)) fun r16 s17 =>
            gb2 (gcv s17 a0 12 (fX12_codes a0 8 r16 s17)) fun r18 s19 =>
            gX12_movesTold_L13 a0 n x1 s19
        else
          gb2 (gcv s11 a0 12 (fX12_number a0 1 99 s11)) fun r20 s21 =>
          gb2 (gcv s21 a0 12 (fX12_codes a0 7 r20 s21)) fun r22 s23 =>
          gX12_movesTold_L13 a0 n x1 s23
      else
        gb2 (gcv s8 a0 12 (fX12_number a0 1 99 s8)) fun r24 s25 =>
        gb2 (gcv s25 a0 12 (fX12_codes a0 6 r24 s25)) fun r26 s27 =>
        gX12_movesTold_L13 a0 n x1 s27
set_option maxRecDepth 100000 in
set_option maxHeartbeats 4000000 in
theorem wX12_movesTold_L13 {X : Nat × (Nat → Int32)} {d : Nat} (hd : 5 ≤ d)  (a0 : Nat) : ∀ (n : Nat) (x1 : Int32) (s0 : gH), gGo X rvU mX12_movesTold d 13 [(0, vr a0), (1, vi x1)] [] s0 (gX12_movesTold_L13 a0 n x1 s0) := by
  intro n
  induction n with
  | zero => intros; exact go_none
  | succ n ih =>
    intro x1 s0
    show gGo _ _ _ _ _ _ _ _ (gX12_movesTold_L13 a0 (n + 1) x1 s0)
    unfold gX12_movesTold_L13
    refine go_iload_n 1 dX12_movesTold_13 rfl rfl ?_
    refine go_if_eq (tgt := 94) dX12_movesTold_14 (by decide) (fun h6 => ?_) (fun h6 => ?_)
    · exact go_retv rfl dX12_movesTold_94
    · refine go_aload_n 0 dX12_movesTold_17 rfl rfl ?_
      refine go_bipush (v := 25) dX12_movesTold_18 (by decide) ?_
      refine go_callV_I (as := [vi 25]) gk_RX12_166 gmf_X12_takes (by decide) rfl (by omega) rfl rfl (Nat.le_of_ble_eq_true rfl) dX12_movesTold_20 (fun _ _ h => cX12_takes_c (by omega) h) (fun r7 s8 _ => ?_)
      refine go_if_eq (tgt := 42) dX12_movesTold_23 (by decide) (fun h9 => ?_) (fun h9 => ?_)
      · refine go_aload_n 0 dX12_movesTold_42 rfl rfl ?_
        refine go_bipush (v := 26) dX12_movesTold_43 (by decide) ?_
        refine go_callV_I (as := [vi 26]) gk_RX12_166 gmf_X12_takes (by decide) rfl (by omega) rfl rfl (Nat.le_of_ble_eq_true rfl) dX12_movesTold_45 (fun _ _ h => cX12_takes_c (by omega) h) (fun r10 s11 _ => ?_)
        refine go_if_eq (tgt := 67) dX12_movesTold_48 (by decide) (fun h12 => ?_) (fun h12 => ?_)
        · refine go_aload_n 0 dX12_movesTold_67 rfl rfl ?_
          refine go_bipush (v := 27) dX12_movesTold_68 (by decide) ?_
          refine go_callV_I (as := [vi 27]) gk_RX12_166 gmf_X12_takes (by decide) rfl (by omega) rfl rfl (Nat.le_of_ble_eq_true rfl) dX12_movesTold_70 (fun _ _ h => cX12_takes_c (by omega) h) (fun r13 s14 _ => ?_)
          refine go_if_eq (tgt := 89) dX12_movesTold_73 (by decide) (fun h15 => ?_) (fun h15 => ?_)
          · refine go_iconst (v := 0) dX12_movesTold_89 (by decide) ?_
            refine go_istore_n (L' := [(1, vi 0), (0, vr a0)]) dX12_movesTold_90 rfl (by decide) rfl ?_
            refine go_goto (tgt := 13) dX12_movesTold_91 (by decide) ?_
            exact go_sub [1, 0] (ih 0 s14) rfl
          · refine go_aload_n 0 dX12_movesTold_76 rfl rfl ?_
            refine go_bipush (v := 8) dX12_movesTold_77 (by decide) ?_
            refine go_aload_n 0 dX12_movesTold_79 rfl rfl ?_
            refine go_callV_I (as := []) gk_RX12_261 gmf_X12_what (by decide) rfl (by omega) rfl rfl (Nat.le_of_ble_eq_true rfl) dX12_movesTold_80 (fun _ _ h => cX12_what_c (by omega) h) (fun r16 s17 _ => ?_)
            refine go_callV_v (as := [vi 8, vi r16]) gk_RX12_259 gmf_X12_codes (by decide) rfl (by omega) rfl rfl (Nat.le_of_ble_eq_true rfl) dX12_movesTold_83 (fun _ _ h => cX12_codes_c (by omega) h) (fun r18 s19 _ => ?_)
            refine go_goto (tgt := 13) dX12_movesTold_86 (by decide) ?_
            exact go_sub [0, 1] (ih x1 s19) rfl
        · refine go_aload_n 0 dX12_movesTold_51 rfl rfl ?_
          refine go_bipush (v := 7) dX12_movesTold_52 (by decide) ?_
          refine go_aload_n 0 dX12_movesTold_54 rfl rfl ?_
          refine go_iconst (v := 1) dX12_movesTold_55 (by decide) ?_
          refine go_bipush (v := 99) dX12_movesTold_56 (by decide) ?_
          refine go_callV_I (as := [vi 1, vi 99]) gk_RX12_198 gmf_X12_number (by decide) rfl (by omega) rfl rfl (Nat.le_of_ble_eq_true rfl) dX12_movesTold_58 (fun _ _ h => cX12_number_c (by omega) h) (fun r20 s21 _ => ?_)
          refine go_callV_v (as := [vi 7, vi r20]) gk_RX12_259 gmf_X12_codes (by decide) rfl (by omega) rfl rfl (Nat.le_of_ble_eq_true rfl) dX12_movesTold_61 (fun _ _ h => cX12_codes_c (by omega) h) (fun r22 s23 _ => ?_)
          refine go_goto (tgt := 13) dX12_movesTold_64 (by decide) ?_
          exact go_sub [0, 1] (ih x1 s23) rfl
      · refine go_aload_n 0 dX12_movesTold_26 rfl rfl ?_
        refine go_bipush (v := 6) dX12_movesTold_27 (by decide) ?_
        refine go_aload_n 0 dX12_movesTold_29 rfl rfl ?_
        refine go_iconst (v := 1) dX12_movesTold_30 (by decide) ?_
        refine go_bipush (v := 99) dX12_movesTold_31 (by decide) ?_
        refine go_callV_I (as := [vi 1, vi 99]) gk_RX12_198 gmf_X12_number (by decide) rfl (by omega) rfl rfl (Nat.le_of_ble_eq_true rfl) dX12_movesTold_33 (fun _ _ h => cX12_number_c (by omega) h) (fun r24 s25 _ => ?_)
        refine go_callV_v (as := [vi 6, vi r24]) gk_RX12_259 gmf_X12_codes (by decide) rfl (by omega) rfl rfl (Nat.le_of_ble_eq_true rfl) dX12_movesTold_36 (fun _ _ h => cX12_codes_c (by omega) h) (fun r26 s27 _ => ?_)
        refine go_goto (tgt := 13) dX12_movesTold_39 (by decide) ?_
        exact go_sub [0, 1] (ih x1 s27) rfl
def fX12_movesTold (a0 : Nat) (s0 : gH) : Option (Unit × gH) :=
  (ggI s0 a0 12 5).bind fun v1 =>
  gjn (fun (z3 : Int32) (s4 : gH) =>
      gX12_movesTold_L13
        a0 20000 z3 s4
  ) fun j2 =>
  if v1 = 0 then
    j2 1 s0
  else
    j2 0 s0
set_option maxRecDepth 100000 in
set_option maxHeartbeats 4000000 in
theorem wX12_movesTold {X : Nat × (Nat → Int32)} {d : Nat} (hd : 5 ≤ d) {a0 : Nat} {s0 : gH} : gGo X rvU mX12_movesTold d 0 [(0, vr a0)] [] s0 (fX12_movesTold a0 s0) := by
  unfold fX12_movesTold
  refine go_aload_n 0 dX12_movesTold_0 rfl rfl ?_
  refine go_getI gf_RX12_117 gcf_12 gft_12_5 dX12_movesTold_1 (fun v1 => ?_)
  refine go_gjn (P := fun j2 => ∀ (z3 : Int32) (s4 : gH), gGo X rvU mX12_movesTold d 12 [(0, vr a0)] [vi z3] s4 (j2 z3 s4)) (fun z3 s4 => ?_) (fun j2 hj2 => ?_)
  · refine go_istore_n (L' := [(1, vi z3), (0, vr a0)]) dX12_movesTold_12 rfl (by decide) rfl ?_
    refine go_sub [1, 0] (wX12_movesTold_L13 hd a0 20000 z3 s4) rfl
  · refine go_if_ne (tgt := 11) dX12_movesTold_4 (by decide) (fun h28 => ?_) (fun h28 => ?_)
    · refine go_iconst (v := 1) dX12_movesTold_7 (by decide) ?_
      refine go_goto (tgt := 12) dX12_movesTold_8 (by decide) ?_
      exact go_sub [0] (hj2 1 s0) rfl
    · refine go_iconst (v := 0) dX12_movesTold_11 (by decide) ?_
      exact go_sub [0] (hj2 0 s0) rfl
set_option maxRecDepth 100000 in
set_option maxHeartbeats 4000000 in
theorem cX12_movesTold_c {d : Nat} (hd : 5 ≤ d) {a0 : Nat} {s0 : gH} {r : Unit} {s1 : gH} (h : fX12_movesTold a0 s0 = some (r, s1)) : gMt mX12_movesTold d [vr a0] s0 none s1 :=
  gMt_of (rv := rvU) (by decide +kernel) (Nat.le_of_ble_eq_true rfl) rfl (fun _ => wX12_movesTold hd) h
def gX12_joins_L0  (a0 : Nat) (x1 : Int32) : Nat → gH → Option (Unit × gH)
  | 0, _ => none
  | n + 1, s0 =>
    (ggI s0 a0 12 26).bind fun v2 =>
    if 0 < v2 then
      (ggR s0 a0 12 25).bind fun v4 =>
      (ggI s0 a0 12 26).bind fun v5 =>
      (gaI s0 v4 2 (v5 - 1)).bind fun v6 =>
      if v6 = 0 then
        some ((), s0)
      else
        gjn (fun (s9 : gH) =>
            (ggI s9 a0 12 26).bind fun v10 =>
            (spI s9 a0 12 26 (v10 - 1)).bind fun s11 =>
            (ggR s11 a0 12 25).bind fun v12 =>
            (ggI s11 a0 12 26).bind fun v13 =>
            (gaI s11 v12 2 v13).bind fun v14 =>
            gjn (fun (z16 : Int32) (b17 : Nat) (s18 : gH) =>
                gb2 (gcv s18 b17 12 (fX12_codes b17 z16 0 s18)) fun r19 s20 =>
                gX12_joins_L0 a0 x1 n s20
            ) fun j15 =>
            if v14 = 3 then
              j15 3 a0 s11
            else
              (ggR s11 a0 12 25).bind fun v22 =>
              (ggI s11 a0 12 26).bind fun v23 =>
              (gaI s11 v22 2 v23).bind fun v24 =>
              if v24 = 1 then
                j15 4 a0 s11
              else
                j15 5 a0 s11
        ) fun j8 =>
        if x1 = 0 then
          (ggR s0 a0 12 25).bind fun v27 =>
          (ggI s0 a0 12 26).bind fun v28 =>
          (gaI s0 v27 2 (v28 - 1)).bind fun v29 =>
          if v29 = 3 then
            some ((), s0)
          else
            j8 s0
        else
          j8 s0
    else
      some ((), s0)
set_option maxRecDepth 100000 in
set_option maxHeartbeats 4000000 in
theorem wX12_joins_L0 {X : Nat × (Nat → Int32)} {d : Nat} (hd : 1 ≤ d)  (a0 : Nat) (x1 : Int32) : ∀ (n : Nat)  (s0 : gH), gGo X rvU mX12_joins d 0 [(0, vr a0), (1, vi x1)] [] s0 (gX12_joins_L0 a0 x1 n  s0) := by
  intro n
  induction n with
  | zero => intros; exact go_none
  | succ n ih =>
    intro  s0
    show gGo _ _ _ _ _ _ _ _ (gX12_joins_L0 a0 x1 (n + 1)  s0)
    unfold gX12_joins_L0
    refine go_aload_n 0 dX12_joins_0 rfl rfl ?_
    refine go_getI gf_RX12_256 gcf_12 gft_12_26 dX12_joins_1 (fun v2 => ?_)
    refine go_if_le (tgt := 93) dX12_joins_4 (by decide) (fun h3 => ?_) (fun h3 => ?_)
    · refine go_aload_n 0 dX12_joins_7 rfl rfl ?_
      refine go_getR gf_RX12_48 gcf_12 gft_12_25 dX12_joins_8 (fun v4 => ?_)
      refine go_aload_n 0 dX12_joins_11 rfl rfl ?_
      refine go_getI gf_RX12_256 gcf_12 gft_12_26 dX12_joins_12 (fun v5 => ?_)
      refine go_iconst (v := 1) dX12_joins_15 (by decide) ?_
      refine go_isub dX12_joins_16 ?_
      refine go_iaload dX12_joins_17 (fun v6 _ => ?_)
      refine go_if_eq (tgt := 93) dX12_joins_18 (by decide) (fun h7 => ?_) (fun h7 => ?_)
      · exact go_retv rfl dX12_joins_93
      · refine go_iload_n 1 dX12_joins_21 rfl rfl ?_
        refine go_gjn (P := fun j8 => ∀ (s9 : gH), gGo X rvU mX12_joins d 40 [(0, vr a0), (1, vi x1)] [] s9 (j8 s9)) (fun s9 => ?_) (fun j8 hj8 => ?_)
        · refine go_aload_n 0 dX12_joins_40 rfl rfl ?_
          refine go_dup dX12_joins_41 rfl ?_
          refine go_getI gf_RX12_256 gcf_12 gft_12_26 dX12_joins_42 (fun v10 => ?_)
          refine go_iconst (v := 1) dX12_joins_45 (by decide) ?_
          refine go_isub dX12_joins_46 ?_
          refine go_putI gf_RX12_256 gcf_12 gpl_12_26 gft_12_26 dX12_joins_47 (fun s11 _ => ?_)
          refine go_aload_n 0 dX12_joins_50 rfl rfl ?_
          refine go_aload_n 0 dX12_joins_51 rfl rfl ?_
          refine go_getR gf_RX12_48 gcf_12 gft_12_25 dX12_joins_52 (fun v12 => ?_)
          refine go_aload_n 0 dX12_joins_55 rfl rfl ?_
          refine go_getI gf_RX12_256 gcf_12 gft_12_26 dX12_joins_56 (fun v13 => ?_)
          refine go_iaload dX12_joins_59 (fun v14 _ => ?_)
          refine go_iconst (v := 3) dX12_joins_60 (by decide) ?_
          refine go_gjn (P := fun j15 => ∀ (z16 : Int32) (b17 : Nat) (s18 : gH), gGo X rvU mX12_joins d 86 [(0, vr a0), (1, vi x1)] [vi z16, vr b17] s18 (j15 z16 b17 s18)) (fun z16 b17 s18 => ?_) (fun j15 hj15 => ?_)
          · refine go_iconst (v := 0) dX12_joins_86 (by decide) ?_
            refine go_callV_v (as := [vi z16, vi 0]) gk_RX12_259 gmf_X12_codes (by decide) rfl (by omega) rfl rfl (Nat.le_of_ble_eq_true rfl) dX12_joins_87 (fun _ _ h => cX12_codes_c (by omega) h) (fun r19 s20 _ => ?_)
            refine go_goto (tgt := 0) dX12_joins_90 (by decide) ?_
            exact go_sub [0, 1] (ih s20) rfl
          · refine go_icmp_ne (tgt := 68) dX12_joins_61 (by decide) (fun h21 => ?_) (fun h21 => ?_)
            · refine go_iconst (v := 3) dX12_joins_64 (by decide) ?_
              refine go_goto (tgt := 86) dX12_joins_65 (by decide) ?_
              exact go_sub [0, 1] (hj15 3 a0 s11) rfl
            · refine go_aload_n 0 dX12_joins_68 rfl rfl ?_
              refine go_getR gf_RX12_48 gcf_12 gft_12_25 dX12_joins_69 (fun v22 => ?_)
              refine go_aload_n 0 dX12_joins_72 rfl rfl ?_
              refine go_getI gf_RX12_256 gcf_12 gft_12_26 dX12_joins_73 (fun v23 => ?_)
              refine go_iaload dX12_joins_76 (fun v24 _ => ?_)
              refine go_iconst (v := 1) dX12_joins_77 (by decide) ?_
              refine go_icmp_ne (tgt := 85) dX12_joins_78 (by decide) (fun h25 => ?_) (fun h25 => ?_)
              · refine go_iconst (v := 4) dX12_joins_81 (by decide) ?_
                refine go_goto (tgt := 86) dX12_joins_82 (by decide) ?_
                exact go_sub [0, 1] (hj15 4 a0 s11) rfl
              · refine go_iconst (v := 5) dX12_joins_85 (by decide) ?_
                exact go_sub [0, 1] (hj15 5 a0 s11) rfl
        · refine go_if_ne (tgt := 40) dX12_joins_22 (by decide) (fun h26 => ?_) (fun h26 => ?_)
          · refine go_aload_n 0 dX12_joins_25 rfl rfl ?_
            refine go_getR gf_RX12_48 gcf_12 gft_12_25 dX12_joins_26 (fun v27 => ?_)
            refine go_aload_n 0 dX12_joins_29 rfl rfl ?_
            refine go_getI gf_RX12_256 gcf_12 gft_12_26 dX12_joins_30 (fun v28 => ?_)
            refine go_iconst (v := 1) dX12_joins_33 (by decide) ?_
            refine go_isub dX12_joins_34 ?_
            refine go_iaload dX12_joins_35 (fun v29 _ => ?_)
            refine go_iconst (v := 3) dX12_joins_36 (by decide) ?_
            refine go_icmp_eq (tgt := 93) dX12_joins_37 (by decide) (fun h30 => ?_) (fun h30 => ?_)
            · exact go_retv rfl dX12_joins_93
            · exact go_sub [0, 1] (hj8 s0) rfl
          · exact go_sub [0, 1] (hj8 s0) rfl
    · exact go_retv rfl dX12_joins_93
def fX12_joins (a0 : Nat) (x1 : Int32) (s0 : gH) : Option (Unit × gH) :=
  gX12_joins_L0
    a0 x1 20000 s0
set_option maxRecDepth 100000 in
set_option maxHeartbeats 4000000 in
theorem wX12_joins {X : Nat × (Nat → Int32)} {d : Nat} (hd : 1 ≤ d) {a0 : Nat} {x1 : Int32} {s0 : gH} : gGo X rvU mX12_joins d 0 [(0, vr a0), (1, vi x1)] [] s0 (fX12_joins a0 x1 s0) := by
  unfold fX12_joins
  refine go_sub [0, 1] (wX12_joins_L0 hd a0 x1 20000 s0) rfl
set_option maxRecDepth 100000 in
set_option maxHeartbeats 4000000 in
theorem cX12_joins_c {d : Nat} (hd : 1 ≤ d) {a0 : Nat} {x1 : Int32} {s0 : gH} {r : Unit} {s1 : gH} (h : fX12_joins a0 x1 s0 = some (r, s1)) : gMt mX12_joins d [vr a0, vi x1] s0 none s1 :=
  gMt_of (rv := rvU) (by decide +kernel) (Nat.le_of_ble_eq_true rfl) rfl (fun _ => wX12_joins hd) h
def gX12_goesOn_L0 (k20 : gH → Option (Int32 × gH)) (k41 : gH → Option (Int32 × gH)) (k62 : gH → Option (Int32 × gH)) (a0 : Nat) : Nat → gH → Option (Int32 × gH)
  | 0, _ => none
  | n + 1, s0 =>
    (ggI s0 a0 12 5).bind fun v2 =>
    if v2 = 0 then
      gb2 (gcv s0 a0 12 (fX12_movesTold a0 s0)) fun r4 s5 =>
      gb2 (gcv s5 a0 12 (fX12_takes a0 23 s5)) fun r6 s7 =>
      if r6 = 0 then
        gb2 (gcv s7 a0 12 (fX12_takes a0 24 s7)) fun r9 s10 =>
        if r9 = 0 then
          gb2 (gcv s10 a0 12 (fX12_takes a0 22 s10)) fun r12 s13 =>
          if r12 = 0 then
            gb2 (gcv s13 a0 12 (fX12_joins a0 1 s13)) fun r15 s16 =>
            (ggI s16 a0 12 26).bind fun v17 =>
            if v17 = 0 then
              some (0, s16)
            else
              gb2 (gcv s16 a0 12 (fX12_asksSign a0 41 s16)) fun r19 s20 =>
              (ggI s20 a0 12 26).bind fun v21 =>
              (spI s20 a0 12 26 (v21 - 1)).bind fun s22 =>
              (ggI s22 a0 12 27).bind fun v23 =>
              (spI s22 a0 12 27 (v23 - 1)).bind fun s24 =>
              gX12_goesOn_L0 k20 k41 k62 a0 n s24
          else
            k62 s13
        else
          k41 s10
      else
        k20 s7
    else
      some (0, s0)
set_option maxRecDepth 100000 in
set_option maxHeartbeats 4000000 in
theorem wX12_goesOn_L0 {X : Nat × (Nat → Int32)} {d : Nat} (hd : 6 ≤ d) (k20 : gH → Option (Int32 × gH)) (k41 : gH → Option (Int32 × gH)) (k62 : gH → Option (Int32 × gH)) (a0 : Nat) (hk20 : ∀ (s : gH), gGo X rvI mX12_goesOn d 20 [(0, vr a0)] [] s (k20 s)) (hk41 : ∀ (s : gH), gGo X rvI mX12_goesOn d 41 [(0, vr a0)] [] s (k41 s)) (hk62 : ∀ (s : gH), gGo X rvI mX12_goesOn d 62 [(0, vr a0)] [] s (k62 s)) : ∀ (n : Nat)  (s0 : gH), gGo X rvI mX12_goesOn d 0 [(0, vr a0)] [] s0 (gX12_goesOn_L0 k20 k41 k62 a0 n  s0) := by
  intro n
  induction n with
  | zero => intros; exact go_none
  | succ n ih =>
    intro  s0
    show gGo _ _ _ _ _ _ _ _ (gX12_goesOn_L0 k20 k41 k62 a0 (n + 1)  s0)
    unfold gX12_goesOn_L0
    refine go_aload_n 0 dX12_goesOn_0 rfl rfl ?_
    refine go_getI gf_RX12_117 gcf_12 gft_12_5 dX12_goesOn_1 (fun v2 => ?_)
    refine go_if_ne (tgt := 117) dX12_goesOn_4 (by decide) (fun h3 => ?_) (fun h3 => ?_)
    · refine go_aload_n 0 dX12_goesOn_7 rfl rfl ?_
      refine go_callV_v (as := []) gk_RX12_264 gmf_X12_movesTold (by decide) rfl (by omega) rfl rfl (Nat.le_of_ble_eq_true rfl) dX12_goesOn_8 (fun _ _ h => cX12_movesTold_c (by omega) h) (fun r4 s5 _ => ?_)
      refine go_aload_n 0 dX12_goesOn_11 rfl rfl ?_
      refine go_bipush (v := 23) dX12_goesOn_12 (by decide) ?_
      refine go_callV_I (as := [vi 23]) gk_RX12_166 gmf_X12_takes (by decide) rfl (by omega) rfl rfl (Nat.le_of_ble_eq_true rfl) dX12_goesOn_14 (fun _ _ h => cX12_takes_c (by omega) h) (fun r6 s7 _ => ?_)
      refine go_if_eq (tgt := 32) dX12_goesOn_17 (by decide) (fun h8 => ?_) (fun h8 => ?_)
      · refine go_aload_n 0 dX12_goesOn_32 rfl rfl ?_
        refine go_bipush (v := 24) dX12_goesOn_33 (by decide) ?_
        refine go_callV_I (as := [vi 24]) gk_RX12_166 gmf_X12_takes (by decide) rfl (by omega) rfl rfl (Nat.le_of_ble_eq_true rfl) dX12_goesOn_35 (fun _ _ h => cX12_takes_c (by omega) h) (fun r9 s10 _ => ?_)
        refine go_if_eq (tgt := 53) dX12_goesOn_38 (by decide) (fun h11 => ?_) (fun h11 => ?_)
        · refine go_aload_n 0 dX12_goesOn_53 rfl rfl ?_
          refine go_bipush (v := 22) dX12_goesOn_54 (by decide) ?_
          refine go_callV_I (as := [vi 22]) gk_RX12_166 gmf_X12_takes (by decide) rfl (by omega) rfl rfl (Nat.le_of_ble_eq_true rfl) dX12_goesOn_56 (fun _ _ h => cX12_takes_c (by omega) h) (fun r12 s13 _ => ?_)
          refine go_if_eq (tgt := 74) dX12_goesOn_59 (by decide) (fun h14 => ?_) (fun h14 => ?_)
          · refine go_aload_n 0 dX12_goesOn_74 rfl rfl ?_
            refine go_iconst (v := 1) dX12_goesOn_75 (by decide) ?_
            refine go_callV_v (as := [vi 1]) gk_RX12_267 gmf_X12_joins (by decide) rfl (by omega) rfl rfl (Nat.le_of_ble_eq_true rfl) dX12_goesOn_76 (fun _ _ h => cX12_joins_c (by omega) h) (fun r15 s16 _ => ?_)
            refine go_aload_n 0 dX12_goesOn_79 rfl rfl ?_
            refine go_getI gf_RX12_256 gcf_12 gft_12_26 dX12_goesOn_80 (fun v17 => ?_)
            refine go_if_ne (tgt := 88) dX12_goesOn_83 (by decide) (fun h18 => ?_) (fun h18 => ?_)
            · refine go_iconst (v := 0) dX12_goesOn_86 (by decide) ?_
              exact go_ret rfl dX12_goesOn_87
            · refine go_aload_n 0 dX12_goesOn_88 rfl rfl ?_
              refine go_bipush (v := 41) dX12_goesOn_89 (by decide) ?_
              refine go_callV_v (as := [vi 41]) gk_RX12_201 gmf_X12_asksSign (by decide) rfl (by omega) rfl rfl (Nat.le_of_ble_eq_true rfl) dX12_goesOn_91 (fun _ _ h => cX12_asksSign_c (by omega) h) (fun r19 s20 _ => ?_)
              refine go_aload_n 0 dX12_goesOn_94 rfl rfl ?_
              refine go_dup dX12_goesOn_95 rfl ?_
              refine go_getI gf_RX12_256 gcf_12 gft_12_26 dX12_goesOn_96 (fun v21 => ?_)
              refine go_iconst (v := 1) dX12_goesOn_99 (by decide) ?_
              refine go_isub dX12_goesOn_100 ?_
              refine go_putI gf_RX12_256 gcf_12 gpl_12_26 gft_12_26 dX12_goesOn_101 (fun s22 _ => ?_)
              refine go_aload_n 0 dX12_goesOn_104 rfl rfl ?_
              refine go_dup dX12_goesOn_105 rfl ?_
              refine go_getI gf_RX12_274 gcf_12 gft_12_27 dX12_goesOn_106 (fun v23 => ?_)
              refine go_iconst (v := 1) dX12_goesOn_109 (by decide) ?_
              refine go_isub dX12_goesOn_110 ?_
              refine go_putI gf_RX12_274 gcf_12 gpl_12_27 gft_12_27 dX12_goesOn_111 (fun s24 _ => ?_)
              refine go_goto (tgt := 0) dX12_goesOn_114 (by decide) ?_
              exact go_sub [0] (ih s24) rfl
          · exact go_sub [0] (hk62 s13) rfl
        · exact go_sub [0] (hk41 s10) rfl
      · exact go_sub [0] (hk20 s7) rfl
    · refine go_iconst (v := 0) dX12_goesOn_117 (by decide) ?_
      exact go_ret rfl dX12_goesOn_118
def gX12_goesOn (a0 : Nat) (s0 : gH) : Option (Int32 × gH) :=
  gX12_goesOn_L0
    (fun s25 =>
      gb2 (gcv s25 a0 12 (fX12_joins a0 0 s25)) fun r26 s27 =>
      gb2 (gcv s27 a0 12 (fX12_opens a0 1 s27)) fun r28 s29 =>
      some (1, s29))
    (fun s30 =>
      gb2 (gcv s30 a0 12 (fX12_joins a0 0 s30)) fun r31 s32 =>
      gb2 (gcv s32 a0 12 (fX12_opens a0 2 s32)) fun r33 s34 =>
      some (1, s34))
    (fun s35 =>
      gb2 (gcv s35 a0 12 (fX12_joins a0 1 s35)) fun r36 s37 =>
      gb2 (gcv s37 a0 12 (fX12_opens a0 3 s37)) fun r38 s39 =>
      some (1, s39))
    a0 20000 s0
def fX12_goesOn (a0 : Nat) (s0 : gH) : Option (Int32 × gH) := gzr (gX12_goesOn a0 s0)
set_option maxRecDepth 100000 in
set_option maxHeartbeats 4000000 in
theorem wX12_goesOn {X : Nat × (Nat → Int32)} {d : Nat} (hd : 6 ≤ d) {a0 : Nat} {s0 : gH} : gGo X rvI mX12_goesOn d 0 [(0, vr a0)] [] s0 (gX12_goesOn a0 s0) := by
  unfold gX12_goesOn
  refine go_sub [0] (wX12_goesOn_L0 hd _ _ _ a0 ?_ ?_ ?_ 20000 s0) rfl
  · intro s25
    refine go_aload_n 0 dX12_goesOn_20 rfl rfl ?_
    refine go_iconst (v := 0) dX12_goesOn_21 (by decide) ?_
    refine go_callV_v (as := [vi 0]) gk_RX12_267 gmf_X12_joins (by decide) rfl (by omega) rfl rfl (Nat.le_of_ble_eq_true rfl) dX12_goesOn_22 (fun _ _ h => cX12_joins_c (by omega) h) (fun r26 s27 _ => ?_)
    refine go_aload_n 0 dX12_goesOn_25 rfl rfl ?_
    refine go_iconst (v := 1) dX12_goesOn_26 (by decide) ?_
    refine go_callV_v (as := [vi 1]) gk_RX12_271 gmf_X12_opens (by decide) rfl (by omega) rfl rfl (Nat.le_of_ble_eq_true rfl) dX12_goesOn_27 (fun _ _ h => cX12_opens_c (by omega) h) (fun r28 s29 _ => ?_)
    refine go_iconst (v := 1) dX12_goesOn_30 (by decide) ?_
    exact go_ret rfl dX12_goesOn_31
  · intro s30
    refine go_aload_n 0 dX12_goesOn_41 rfl rfl ?_
    refine go_iconst (v := 0) dX12_goesOn_42 (by decide) ?_
    refine go_callV_v (as := [vi 0]) gk_RX12_267 gmf_X12_joins (by decide) rfl (by omega) rfl rfl (Nat.le_of_ble_eq_true rfl) dX12_goesOn_43 (fun _ _ h => cX12_joins_c (by omega) h) (fun r31 s32 _ => ?_)
    refine go_aload_n 0 dX12_goesOn_46 rfl rfl ?_
    refine go_iconst (v := 2) dX12_goesOn_47 (by decide) ?_
    refine go_callV_v (as := [vi 2]) gk_RX12_271 gmf_X12_opens (by decide) rfl (by omega) rfl rfl (Nat.le_of_ble_eq_true rfl) dX12_goesOn_48 (fun _ _ h => cX12_opens_c (by omega) h) (fun r33 s34 _ => ?_)
    refine go_iconst (v := 1) dX12_goesOn_51 (by decide) ?_
    exact go_ret rfl dX12_goesOn_52
  · intro s35
    refine go_aload_n 0 dX12_goesOn_62 rfl rfl ?_
    refine go_iconst (v := 1) dX12_goesOn_63 (by decide) ?_
    refine go_callV_v (as := [vi 1]) gk_RX12_267 gmf_X12_joins (by decide) rfl (by omega) rfl rfl (Nat.le_of_ble_eq_true rfl) dX12_goesOn_64 (fun _ _ h => cX12_joins_c (by omega) h) (fun r36 s37 _ => ?_)
    refine go_aload_n 0 dX12_goesOn_67 rfl rfl ?_
    refine go_iconst (v := 3) dX12_goesOn_68 (by decide) ?_
    refine go_callV_v (as := [vi 3]) gk_RX12_271 gmf_X12_opens (by decide) rfl (by omega) rfl rfl (Nat.le_of_ble_eq_true rfl) dX12_goesOn_69 (fun _ _ h => cX12_opens_c (by omega) h) (fun r38 s39 _ => ?_)
    refine go_iconst (v := 1) dX12_goesOn_72 (by decide) ?_
    exact go_ret rfl dX12_goesOn_73
set_option maxRecDepth 100000 in
set_option maxHeartbeats 4000000 in
theorem cX12_goesOn_c {d : Nat} (hd : 6 ≤ d) {a0 : Nat} {s0 : gH} {r : Int32} {s1 : gH} (h : fX12_goesOn a0 s0 = some (r, s1)) : gMt mX12_goesOn d [vr a0] s0 (some (vi r)) s1 := by
  obtain ⟨h1, h2⟩ := gzr_some h
  exact gMt_of (rv := rvI) (by decide +kernel) (Nat.le_of_ble_eq_true rfl) ⟨_, rfl, gnarZ h2⟩ (fun _ => wX12_goesOn hd) h1
def gX12_sumTold_L23  (a0 : Nat) : Nat → Int32 → gH → Option (Unit × gH)
  | 0, _, _ => none
  | n + 1, x1, s0 =>
    if x1 = 0 then
      some ((), s0)
    else
      (ggI s0 a0 12 5).bind fun v9 =>
      if v9 = 0 then
        gb2 (gcv s0 a0 12 (fX12_look a0 s0)) fun r11 s12 =>
        if r11 = 40 then
          (ggI s12 a0 12 27).bind fun v14 =>
          gjn (fun (s16 : gH) =>
              (ggI s16 a0 12 27).bind fun v17 =>
              (spI s16 a0 12 27 (v17 + 1)).bind fun s18 =>
              gb2 (gcv s18 a0 12 (fX12_opens a0 0 s18)) fun r19 s20 =>
              (ggI s20 a0 12 2).bind fun v21 =>
              (spI s20 a0 12 2 (v21 + 1)).bind fun s22 =>
              gX12_sumTold_L23 a0 n x1 s22
          ) fun j15 =>
          if v14 = 6 then
            (ggI s12 a0 12 2).bind fun v24 =>
            gb2 (gcv s12 a0 12 (fX12_fail a0 5 v24 s12)) fun r25 s26 =>
            j15 s26
          else
            j15 s12
        else
          gb2 (gcv s12 a0 12 (fX12_takes a0 28 s12)) fun r27 s28 =>
          gjn (fun (s30 : gH) =>
              gb2 (gcv s30 a0 12 (fX12_goesOn a0 s30)) fun r31 s32 =>
              gX12_sumTold_L23 a0 n r31 s32
          ) fun j29 =>
          if r27 = 0 then
            gb2 (gcv s28 a0 12 (fX12_what a0 s28)) fun r34 s35 =>
            gb2 (gcv s35 a0 12 (fX12_codes a0 0 r34 s35)) fun r36 s37 =>
            j29 s37
          else
            gb2 (gcv s28 a0 12 (fX12_daysTold a0 s28)) fun r38 s39 =>
            j29 s39
      else
        some ((), s0)
set_option maxRecDepth 100000 in
set_option maxHeartbeats 4000000 in
theorem wX12_sumTold_L23 {X : Nat × (Nat → Int32)} {d : Nat} (hd : 7 ≤ d)  (a0 : Nat) : ∀ (n : Nat) (x1 : Int32) (s0 : gH), gGo X rvU mX12_sumTold d 23 [(0, vr a0), (1, vi x1)] [] s0 (gX12_sumTold_L23 a0 n x1 s0) := by
  intro n
  induction n with
  | zero => intros; exact go_none
  | succ n ih =>
    intro x1 s0
    show gGo _ _ _ _ _ _ _ _ (gX12_sumTold_L23 a0 (n + 1) x1 s0)
    unfold gX12_sumTold_L23
    refine go_iload_n 1 dX12_sumTold_23 rfl rfl ?_
    refine go_if_eq (tgt := 122) dX12_sumTold_24 (by decide) (fun h8 => ?_) (fun h8 => ?_)
    · exact go_retv rfl dX12_sumTold_122
    · refine go_aload_n 0 dX12_sumTold_27 rfl rfl ?_
      refine go_getI gf_RX12_117 gcf_12 gft_12_5 dX12_sumTold_28 (fun v9 => ?_)
      refine go_if_ne (tgt := 122) dX12_sumTold_31 (by decide) (fun h10 => ?_) (fun h10 => ?_)
      · refine go_aload_n 0 dX12_sumTold_34 rfl rfl ?_
        refine go_callV_I (as := []) gk_RX12_129 gmf_X12_look (by decide) rfl (by omega) rfl rfl (Nat.le_of_ble_eq_true rfl) dX12_sumTold_35 (fun _ _ h => cX12_look_c (by omega) h) (fun r11 s12 _ => ?_)
        refine go_bipush (v := 40) dX12_sumTold_38 (by decide) ?_
        refine go_icmp_ne (tgt := 89) dX12_sumTold_40 (by decide) (fun h13 => ?_) (fun h13 => ?_)
        · refine go_aload_n 0 dX12_sumTold_43 rfl rfl ?_
          refine go_getI gf_RX12_274 gcf_12 gft_12_27 dX12_sumTold_44 (fun v14 => ?_)
          refine go_bipush (v := 6) dX12_sumTold_47 (by decide) ?_
          refine go_gjn (P := fun j15 => ∀ (s16 : gH), gGo X rvU mX12_sumTold d 61 [(0, vr a0), (1, vi x1)] [] s16 (j15 s16)) (fun s16 => ?_) (fun j15 hj15 => ?_)
          · refine go_aload_n 0 dX12_sumTold_61 rfl rfl ?_
            refine go_dup dX12_sumTold_62 rfl ?_
            refine go_getI gf_RX12_274 gcf_12 gft_12_27 dX12_sumTold_63 (fun v17 => ?_)
            refine go_iconst (v := 1) dX12_sumTold_66 (by decide) ?_
            refine go_iadd dX12_sumTold_67 ?_
            refine go_putI gf_RX12_274 gcf_12 gpl_12_27 gft_12_27 dX12_sumTold_68 (fun s18 _ => ?_)
            refine go_aload_n 0 dX12_sumTold_71 rfl rfl ?_
            refine go_iconst (v := 0) dX12_sumTold_72 (by decide) ?_
            refine go_callV_v (as := [vi 0]) gk_RX12_271 gmf_X12_opens (by decide) rfl (by omega) rfl rfl (Nat.le_of_ble_eq_true rfl) dX12_sumTold_73 (fun _ _ h => cX12_opens_c (by omega) h) (fun r19 s20 _ => ?_)
            refine go_aload_n 0 dX12_sumTold_76 rfl rfl ?_
            refine go_dup dX12_sumTold_77 rfl ?_
            refine go_getI gf_RX12_123 gcf_12 gft_12_2 dX12_sumTold_78 (fun v21 => ?_)
            refine go_iconst (v := 1) dX12_sumTold_81 (by decide) ?_
            refine go_iadd dX12_sumTold_82 ?_
            refine go_putI gf_RX12_123 gcf_12 gpl_12_2 gft_12_2 dX12_sumTold_83 (fun s22 _ => ?_)
            refine go_goto (tgt := 23) dX12_sumTold_86 (by decide) ?_
            exact go_sub [0, 1] (ih x1 s22) rfl
          · refine go_icmp_ne (tgt := 61) dX12_sumTold_49 (by decide) (fun h23 => ?_) (fun h23 => ?_)
            · refine go_aload_n 0 dX12_sumTold_52 rfl rfl ?_
              refine go_iconst (v := 5) dX12_sumTold_53 (by decide) ?_
              refine go_aload_n 0 dX12_sumTold_54 rfl rfl ?_
              refine go_getI gf_RX12_123 gcf_12 gft_12_2 dX12_sumTold_55 (fun v24 => ?_)
              refine go_callV_v (as := [vi 5, vi v24]) gk_RX12_142 gmf_X12_fail (by decide) rfl (by omega) rfl rfl (Nat.le_of_ble_eq_true rfl) dX12_sumTold_58 (fun _ _ h => cX12_fail_c (by omega) h) (fun r25 s26 _ => ?_)
              exact go_sub [0, 1] (hj15 s26) rfl
            · exact go_sub [0, 1] (hj15 s12) rfl
        · refine go_aload_n 0 dX12_sumTold_89 rfl rfl ?_
          refine go_bipush (v := 28) dX12_sumTold_90 (by decide) ?_
          refine go_callV_I (as := [vi 28]) gk_RX12_166 gmf_X12_takes (by decide) rfl (by omega) rfl rfl (Nat.le_of_ble_eq_true rfl) dX12_sumTold_92 (fun _ _ h => cX12_takes_c (by omega) h) (fun r27 s28 _ => ?_)
          refine go_gjn (P := fun j29 => ∀ (s30 : gH), gGo X rvU mX12_sumTold d 114 [(0, vr a0)] [] s30 (j29 s30)) (fun s30 => ?_) (fun j29 hj29 => ?_)
          · refine go_aload_n 0 dX12_sumTold_114 rfl rfl ?_
            refine go_callV_I (as := []) gk_RX12_280 gmf_X12_goesOn (by decide) rfl (by omega) rfl rfl (Nat.le_of_ble_eq_true rfl) dX12_sumTold_115 (fun _ _ h => cX12_goesOn_c (by omega) h) (fun r31 s32 _ => ?_)
            refine go_istore_n (L' := [(1, vi r31), (0, vr a0)]) dX12_sumTold_118 rfl (by decide) rfl ?_
            refine go_goto (tgt := 23) dX12_sumTold_119 (by decide) ?_
            exact go_sub [1, 0] (ih r31 s32) rfl
          · refine go_if_eq (tgt := 105) dX12_sumTold_95 (by decide) (fun h33 => ?_) (fun h33 => ?_)
            · refine go_aload_n 0 dX12_sumTold_105 rfl rfl ?_
              refine go_iconst (v := 0) dX12_sumTold_106 (by decide) ?_
              refine go_aload_n 0 dX12_sumTold_107 rfl rfl ?_
              refine go_callV_I (as := []) gk_RX12_261 gmf_X12_what (by decide) rfl (by omega) rfl rfl (Nat.le_of_ble_eq_true rfl) dX12_sumTold_108 (fun _ _ h => cX12_what_c (by omega) h) (fun r34 s35 _ => ?_)
              refine go_callV_v (as := [vi 0, vi r34]) gk_RX12_259 gmf_X12_codes (by decide) rfl (by omega) rfl rfl (Nat.le_of_ble_eq_true rfl) dX12_sumTold_111 (fun _ _ h => cX12_codes_c (by omega) h) (fun r36 s37 _ => ?_)
              exact go_sub [0] (hj29 s37) rfl
            · refine go_aload_n 0 dX12_sumTold_98 rfl rfl ?_
              refine go_callV_v (as := []) gk_RX12_277 gmf_X12_daysTold (by decide) rfl (by omega) rfl rfl (Nat.le_of_ble_eq_true rfl) dX12_sumTold_99 (fun _ _ h => cX12_daysTold_c (by omega) h) (fun r38 s39 _ => ?_)
              refine go_goto (tgt := 114) dX12_sumTold_102 (by decide) ?_
              exact go_sub [0] (hj29 s39) rfl
      · exact go_retv rfl dX12_sumTold_122
def fX12_sumTold (a0 : Nat) (s0 : gH) : Option (Unit × gH) :=
  (spI s0 a0 12 26 0).bind fun s1 =>
  (spI s1 a0 12 27 0).bind fun s2 =>
  (ggI s2 a0 12 5).bind fun v3 =>
  gjn (fun (z5 : Int32) (s6 : gH) =>
      gX12_sumTold_L23
        a0 20000 z5 s6
  ) fun j4 =>
  if v3 = 0 then
    j4 1 s2
  else
    j4 0 s2
set_option maxRecDepth 100000 in
set_option maxHeartbeats 4000000 in
theorem wX12_sumTold {X : Nat × (Nat → Int32)} {d : Nat} (hd : 7 ≤ d) {a0 : Nat} {s0 : gH} : gGo X rvU mX12_sumTold d 0 [(0, vr a0)] [] s0 (fX12_sumTold a0 s0) := by
  unfold fX12_sumTold
  refine go_aload_n 0 dX12_sumTold_0 rfl rfl ?_
  refine go_iconst (v := 0) dX12_sumTold_1 (by decide) ?_
  refine go_putI gf_RX12_256 gcf_12 gpl_12_26 gft_12_26 dX12_sumTold_2 (fun s1 _ => ?_)
  refine go_aload_n 0 dX12_sumTold_5 rfl rfl ?_
  refine go_iconst (v := 0) dX12_sumTold_6 (by decide) ?_
  refine go_putI gf_RX12_274 gcf_12 gpl_12_27 gft_12_27 dX12_sumTold_7 (fun s2 _ => ?_)
  refine go_aload_n 0 dX12_sumTold_10 rfl rfl ?_
  refine go_getI gf_RX12_117 gcf_12 gft_12_5 dX12_sumTold_11 (fun v3 => ?_)
  refine go_gjn (P := fun j4 => ∀ (z5 : Int32) (s6 : gH), gGo X rvU mX12_sumTold d 22 [(0, vr a0)] [vi z5] s6 (j4 z5 s6)) (fun z5 s6 => ?_) (fun j4 hj4 => ?_)
  · refine go_istore_n (L' := [(1, vi z5), (0, vr a0)]) dX12_sumTold_22 rfl (by decide) rfl ?_
    refine go_sub [1, 0] (wX12_sumTold_L23 hd a0 20000 z5 s6) rfl
  · refine go_if_ne (tgt := 21) dX12_sumTold_14 (by decide) (fun h40 => ?_) (fun h40 => ?_)
    · refine go_iconst (v := 1) dX12_sumTold_17 (by decide) ?_
      refine go_goto (tgt := 22) dX12_sumTold_18 (by decide) ?_
      exact go_sub [0] (hj4 1 s2) rfl
    · refine go_iconst (v := 0) dX12_sumTold_21 (by decide) ?_
      exact go_sub [0] (hj4 0 s2) rfl
set_option maxRecDepth 100000 in
set_option maxHeartbeats 4000000 in
theorem cX12_sumTold_c {d : Nat} (hd : 7 ≤ d) {a0 : Nat} {s0 : gH} {r : Unit} {s1 : gH} (h : fX12_sumTold a0 s0 = some (r, s1)) : gMt mX12_sumTold d [vr a0] s0 none s1 :=
  gMt_of (rv := rvU) (by decide +kernel) (Nat.le_of_ble_eq_true rfl) rfl (fun _ => wX12_sumTold hd) h
def fX12_setTold (a0 : Nat) (x1 : Int32) (s0 : gH) : Option (Unit × gH) :=
  (ggR s0 a0 12 18).bind fun v1 =>
  (gaI s0 v1 2 1).bind fun v2 =>
  gjn (fun (s4 : gH) =>
      (ggI s4 a0 12 5).bind fun v5 =>
      if v5 = 0 then
        gb2 (gcv s4 a0 12 (fX12_newName a0 s4)) fun r7 s8 =>
        gb2 (gcv s8 a0 12 (fX12_asks a0 21 s8)) fun r9 s10 =>
        (ggR s10 a0 12 18).bind fun v11 =>
        gb2 (fX12_setAt v2 1 s10) fun r12 s13 =>
        (ggI s13 a0 12 22).bind fun v14 =>
        (saI s13 v11 2 r12 v14).bind fun s15 =>
        gb2 (gcv s15 a0 12 (fX12_sumTold a0 s15)) fun r16 s17 =>
        (ggI s17 a0 12 5).bind fun v18 =>
        if v18 = 0 then
          (ggR s17 a0 12 18).bind fun v20 =>
          gb2 (fX12_setAt v2 0 s17) fun r21 s22 =>
          (saI s22 v20 2 r21 r7).bind fun s23 =>
          (ggR s23 a0 12 18).bind fun v24 =>
          gb2 (fX12_setAt v2 2 s23) fun r25 s26 =>
          (ggI s26 a0 12 22).bind fun v27 =>
          (saI s26 v24 2 r25 v27).bind fun s28 =>
          (ggR s28 a0 12 18).bind fun v29 =>
          (gaI s28 v29 2 1).bind fun v30 =>
          (saI s28 v29 2 1 (v30 + 1)).bind fun s31 =>
          some ((), s31)
        else
          some ((), s17)
      else
        some ((), s4)
  ) fun j3 =>
  if v2 = 6 then
    gb2 (gcv s0 a0 12 (fX12_fail a0 5 x1 s0)) fun r33 s34 =>
    j3 s34
  else
    j3 s0
set_option maxRecDepth 100000 in
set_option maxHeartbeats 4000000 in
theorem wX12_setTold {X : Nat × (Nat → Int32)} {d : Nat} (hd : 8 ≤ d) {a0 : Nat} {x1 : Int32} {s0 : gH} : gGo X rvU mX12_setTold d 0 [(0, vr a0), (1, vi x1)] [] s0 (fX12_setTold a0 x1 s0) := by
  unfold fX12_setTold
  refine go_aload_n 0 dX12_setTold_0 rfl rfl ?_
  refine go_getR gf_RX12_36 gcf_12 gft_12_18 dX12_setTold_1 (fun v1 => ?_)
  refine go_iconst (v := 1) dX12_setTold_4 (by decide) ?_
  refine go_iaload dX12_setTold_5 (fun v2 _ => ?_)
  refine go_istore_n (L' := [(2, vi v2), (0, vr a0), (1, vi x1)]) dX12_setTold_6 rfl (by decide) rfl ?_
  refine go_iload_n 0 dX12_setTold_7 rfl rfl ?_
  refine go_bipush (v := 6) dX12_setTold_8 (by decide) ?_
  refine go_gjn (P := fun j3 => ∀ (s4 : gH), gGo X rvU mX12_setTold d 19 [(0, vr a0), (2, vi v2)] [] s4 (j3 s4)) (fun s4 => ?_) (fun j3 hj3 => ?_)
  · refine go_aload_n 0 dX12_setTold_19 rfl rfl ?_
    refine go_getI gf_RX12_117 gcf_12 gft_12_5 dX12_setTold_20 (fun v5 => ?_)
    refine go_if_eq (tgt := 27) dX12_setTold_23 (by decide) (fun h6 => ?_) (fun h6 => ?_)
    · refine go_aload_n 0 dX12_setTold_27 rfl rfl ?_
      refine go_callV_I (as := []) gk_RX12_238 gmf_X12_newName (by decide) rfl (by omega) rfl rfl (Nat.le_of_ble_eq_true rfl) dX12_setTold_28 (fun _ _ h => cX12_newName_c (by omega) h) (fun r7 s8 _ => ?_)
      refine go_istore_n (L' := [(3, vi r7), (0, vr a0), (2, vi v2)]) dX12_setTold_31 rfl (by decide) rfl ?_
      refine go_aload_n 1 dX12_setTold_32 rfl rfl ?_
      refine go_bipush (v := 21) dX12_setTold_33 (by decide) ?_
      refine go_callV_v (as := [vi 21]) gk_RX12_241 gmf_X12_asks (by decide) rfl (by omega) rfl rfl (Nat.le_of_ble_eq_true rfl) dX12_setTold_35 (fun _ _ h => cX12_asks_c (by omega) h) (fun r9 s10 _ => ?_)
      refine go_aload_n 1 dX12_setTold_38 rfl rfl ?_
      refine go_getR gf_RX12_36 gcf_12 gft_12_18 dX12_setTold_39 (fun v11 => ?_)
      refine go_iload_n 2 dX12_setTold_42 rfl rfl ?_
      refine go_iconst (v := 1) dX12_setTold_43 (by decide) ?_
      refine go_callS_I (as := [vi v2, vi 1]) gk_RX12_189 gmf_X12_setAt (by omega) rfl rfl (Nat.le_of_ble_eq_true rfl) dX12_setTold_44 (fun _ _ h => cX12_setAt_c (by omega) h) (fun r12 s13 _ => ?_)
      refine go_aload_n 1 dX12_setTold_47 rfl rfl ?_
      refine go_getI gf_RX12_253 gcf_12 gft_12_22 dX12_setTold_48 (fun v14 => ?_)
      refine go_iastore dX12_setTold_51 (fun s15 _ => ?_)
      refine go_aload_n 1 dX12_setTold_52 rfl rfl ?_
      refine go_callV_v (as := []) gk_RX12_283 gmf_X12_sumTold (by decide) rfl (by omega) rfl rfl (Nat.le_of_ble_eq_true rfl) dX12_setTold_53 (fun _ _ h => cX12_sumTold_c (by omega) h) (fun r16 s17 _ => ?_)
      refine go_aload_n 1 dX12_setTold_56 rfl rfl ?_
      refine go_getI gf_RX12_117 gcf_12 gft_12_5 dX12_setTold_57 (fun v18 => ?_)
      refine go_if_eq (tgt := 64) dX12_setTold_60 (by decide) (fun h19 => ?_) (fun h19 => ?_)
      · refine go_aload_n 1 dX12_setTold_64 rfl rfl ?_
        refine go_getR gf_RX12_36 gcf_12 gft_12_18 dX12_setTold_65 (fun v20 => ?_)
        refine go_iload_n 2 dX12_setTold_68 rfl rfl ?_
        refine go_iconst (v := 0) dX12_setTold_69 (by decide) ?_
        refine go_callS_I (as := [vi v2, vi 0]) gk_RX12_189 gmf_X12_setAt (by omega) rfl rfl (Nat.le_of_ble_eq_true rfl) dX12_setTold_70 (fun _ _ h => cX12_setAt_c (by omega) h) (fun r21 s22 _ => ?_)
        refine go_iload_n 0 dX12_setTold_73 rfl rfl ?_
        refine go_iastore dX12_setTold_74 (fun s23 _ => ?_)
        refine go_aload_n 1 dX12_setTold_75 rfl rfl ?_
        refine go_getR gf_RX12_36 gcf_12 gft_12_18 dX12_setTold_76 (fun v24 => ?_)
        refine go_iload_n 2 dX12_setTold_79 rfl rfl ?_
        refine go_iconst (v := 2) dX12_setTold_80 (by decide) ?_
        refine go_callS_I (as := [vi v2, vi 2]) gk_RX12_189 gmf_X12_setAt (by omega) rfl rfl (Nat.le_of_ble_eq_true rfl) dX12_setTold_81 (fun _ _ h => cX12_setAt_c (by omega) h) (fun r25 s26 _ => ?_)
        refine go_aload_n 1 dX12_setTold_84 rfl rfl ?_
        refine go_getI gf_RX12_253 gcf_12 gft_12_22 dX12_setTold_85 (fun v27 => ?_)
        refine go_iastore dX12_setTold_88 (fun s28 _ => ?_)
        refine go_aload_n 1 dX12_setTold_89 rfl rfl ?_
        refine go_getR gf_RX12_36 gcf_12 gft_12_18 dX12_setTold_90 (fun v29 => ?_)
        refine go_iconst (v := 1) dX12_setTold_93 (by decide) ?_
        refine go_dup2 dX12_setTold_94 rfl rfl ?_
        refine go_iaload dX12_setTold_95 (fun v30 _ => ?_)
        refine go_iconst (v := 1) dX12_setTold_96 (by decide) ?_
        refine go_iadd dX12_setTold_97 ?_
        refine go_iastore dX12_setTold_98 (fun s31 _ => ?_)
        exact go_retv rfl dX12_setTold_99
      · exact go_retv rfl dX12_setTold_63
    · exact go_retv rfl dX12_setTold_26
  · refine go_icmp_ne (tgt := 19) dX12_setTold_10 (by decide) (fun h32 => ?_) (fun h32 => ?_)
    · refine go_aload_n 1 dX12_setTold_13 rfl rfl ?_
      refine go_iconst (v := 5) dX12_setTold_14 (by decide) ?_
      refine go_iload_n 2 dX12_setTold_15 rfl rfl ?_
      refine go_callV_v (as := [vi 5, vi x1]) gk_RX12_142 gmf_X12_fail (by decide) rfl (by omega) rfl rfl (Nat.le_of_ble_eq_true rfl) dX12_setTold_16 (fun _ _ h => cX12_fail_c (by omega) h) (fun r33 s34 _ => ?_)
      exact go_sub [1, 0] (hj3 s34) rfl
    · exact go_sub [1, 0] (hj3 s0) rfl
set_option maxRecDepth 100000 in
set_option maxHeartbeats 4000000 in
theorem cX12_setTold_c {d : Nat} (hd : 8 ≤ d) {a0 : Nat} {x1 : Int32} {s0 : gH} {r : Unit} {s1 : gH} (h : fX12_setTold a0 x1 s0 = some (r, s1)) : gMt mX12_setTold d [vr a0, vi x1] s0 none s1 :=
  gMt_of (rv := rvU) (by decide +kernel) (Nat.le_of_ble_eq_true rfl) rfl (fun _ => wX12_setTold hd) h
def fX12_statementTold (a0 : Nat) (s0 : gH) : Option (Unit × gH) :=
  (ggI s0 a0 12 2).bind fun v1 =>
  gb2 (gcv s0 a0 12 (fX12_takes a0 17 s0)) fun r2 s3 =>
  gjn (fun (s5 : gH) =>
      gb2 (gcv s5 a0 12 (fX12_asksSign a0 59 s5)) fun r6 s7 =>
      (ggI s7 a0 12 24).bind fun v8 =>
      (spI s7 a0 12 24 (v8 + 1)).bind fun s9 =>
      some ((), s9)
  ) fun j4 =>
  if r2 = 0 then
    gb2 (gcv s3 a0 12 (fX12_takes a0 20 s3)) fun r11 s12 =>
    if r11 = 0 then
      gb2 (gcv s12 a0 12 (fX12_fail a0 1 v1 s12)) fun r14 s15 =>
      j4 s15
    else
      gb2 (gcv s12 a0 12 (fX12_setTold a0 v1 s12)) fun r16 s17 =>
      j4 s17
  else
    gb2 (gcv s3 a0 12 (fX12_ruleTold a0 v1 s3)) fun r18 s19 =>
    j4 s19
set_option maxRecDepth 100000 in
set_option maxHeartbeats 4000000 in
theorem wX12_statementTold {X : Nat × (Nat → Int32)} {d : Nat} (hd : 9 ≤ d) {a0 : Nat} {s0 : gH} : gGo X rvU mX12_statementTold d 0 [(0, vr a0)] [] s0 (fX12_statementTold a0 s0) := by
  unfold fX12_statementTold
  refine go_aload_n 0 dX12_statementTold_0 rfl rfl ?_
  refine go_getI gf_RX12_123 gcf_12 gft_12_2 dX12_statementTold_1 (fun v1 => ?_)
  refine go_istore_n (L' := [(1, vi v1), (0, vr a0)]) dX12_statementTold_4 rfl (by decide) rfl ?_
  refine go_aload_n 1 dX12_statementTold_5 rfl rfl ?_
  refine go_bipush (v := 17) dX12_statementTold_6 (by decide) ?_
  refine go_callV_I (as := [vi 17]) gk_RX12_166 gmf_X12_takes (by decide) rfl (by omega) rfl rfl (Nat.le_of_ble_eq_true rfl) dX12_statementTold_8 (fun _ _ h => cX12_takes_c (by omega) h) (fun r2 s3 _ => ?_)
  refine go_gjn (P := fun j4 => ∀ (s5 : gH), gGo X rvU mX12_statementTold d 45 [(0, vr a0)] [] s5 (j4 s5)) (fun s5 => ?_) (fun j4 hj4 => ?_)
  · refine go_aload_n 0 dX12_statementTold_45 rfl rfl ?_
    refine go_bipush (v := 59) dX12_statementTold_46 (by decide) ?_
    refine go_callV_v (as := [vi 59]) gk_RX12_201 gmf_X12_asksSign (by decide) rfl (by omega) rfl rfl (Nat.le_of_ble_eq_true rfl) dX12_statementTold_48 (fun _ _ h => cX12_asksSign_c (by omega) h) (fun r6 s7 _ => ?_)
    refine go_aload_n 0 dX12_statementTold_51 rfl rfl ?_
    refine go_dup dX12_statementTold_52 rfl ?_
    refine go_getI gf_RX12_292 gcf_12 gft_12_24 dX12_statementTold_53 (fun v8 => ?_)
    refine go_iconst (v := 1) dX12_statementTold_56 (by decide) ?_
    refine go_iadd dX12_statementTold_57 ?_
    refine go_putI gf_RX12_292 gcf_12 gpl_12_24 gft_12_24 dX12_statementTold_58 (fun s9 _ => ?_)
    exact go_retv rfl dX12_statementTold_61
  · refine go_if_eq (tgt := 22) dX12_statementTold_11 (by decide) (fun h10 => ?_) (fun h10 => ?_)
    · refine go_aload_n 1 dX12_statementTold_22 rfl rfl ?_
      refine go_bipush (v := 20) dX12_statementTold_23 (by decide) ?_
      refine go_callV_I (as := [vi 20]) gk_RX12_166 gmf_X12_takes (by decide) rfl (by omega) rfl rfl (Nat.le_of_ble_eq_true rfl) dX12_statementTold_25 (fun _ _ h => cX12_takes_c (by omega) h) (fun r11 s12 _ => ?_)
      refine go_if_eq (tgt := 39) dX12_statementTold_28 (by decide) (fun h13 => ?_) (fun h13 => ?_)
      · refine go_aload_n 1 dX12_statementTold_39 rfl rfl ?_
        refine go_iconst (v := 1) dX12_statementTold_40 (by decide) ?_
        refine go_iload_n 0 dX12_statementTold_41 rfl rfl ?_
        refine go_callV_v (as := [vi 1, vi v1]) gk_RX12_142 gmf_X12_fail (by decide) rfl (by omega) rfl rfl (Nat.le_of_ble_eq_true rfl) dX12_statementTold_42 (fun _ _ h => cX12_fail_c (by omega) h) (fun r14 s15 _ => ?_)
        exact go_sub [1] (hj4 s15) rfl
      · refine go_aload_n 1 dX12_statementTold_31 rfl rfl ?_
        refine go_iload_n 0 dX12_statementTold_32 rfl rfl ?_
        refine go_callV_v (as := [vi v1]) gk_RX12_289 gmf_X12_setTold (by decide) rfl (by omega) rfl rfl (Nat.le_of_ble_eq_true rfl) dX12_statementTold_33 (fun _ _ h => cX12_setTold_c (by omega) h) (fun r16 s17 _ => ?_)
        refine go_goto (tgt := 45) dX12_statementTold_36 (by decide) ?_
        exact go_sub [1] (hj4 s17) rfl
    · refine go_aload_n 1 dX12_statementTold_14 rfl rfl ?_
      refine go_iload_n 0 dX12_statementTold_15 rfl rfl ?_
      refine go_callV_v (as := [vi v1]) gk_RX12_286 gmf_X12_ruleTold (by decide) rfl (by omega) rfl rfl (Nat.le_of_ble_eq_true rfl) dX12_statementTold_16 (fun _ _ h => cX12_ruleTold_c (by omega) h) (fun r18 s19 _ => ?_)
      refine go_goto (tgt := 45) dX12_statementTold_19 (by decide) ?_
      exact go_sub [1] (hj4 s19) rfl
set_option maxRecDepth 100000 in
set_option maxHeartbeats 4000000 in
theorem cX12_statementTold_c {d : Nat} (hd : 9 ≤ d) {a0 : Nat} {s0 : gH} {r : Unit} {s1 : gH} (h : fX12_statementTold a0 s0 = some (r, s1)) : gMt mX12_statementTold d [vr a0] s0 none s1 :=
  gMt_of (rv := rvU) (by decide +kernel) (Nat.le_of_ble_eq_true rfl) rfl (fun _ => wX12_statementTold hd) h
def gX12_allAnew_L2  (a0 : Nat) : Nat → Int32 → gH → Option (Unit × gH)
  | 0, _, _ => none
  | n + 1, x1, s0 =>
    if x1 < 12 then
      (ggR s0 a0 12 31).bind fun v3 =>
      (saI s0 v3 4 x1 0).bind fun s4 =>
      gX12_allAnew_L2 a0 n (x1 + 1) s4
    else
      some ((), s0)
set_option maxRecDepth 100000 in
set_option maxHeartbeats 4000000 in
theorem wX12_allAnew_L2 {X : Nat × (Nat → Int32)} {d : Nat} (hd : 0 ≤ d)  (a0 : Nat) : ∀ (n : Nat) (x1 : Int32) (s0 : gH), gGo X rvU mX12_allAnew d 2 [(0, vr a0), (1, vi x1)] [] s0 (gX12_allAnew_L2 a0 n x1 s0) := by
  intro n
  induction n with
  | zero => intros; exact go_none
  | succ n ih =>
    intro x1 s0
    show gGo _ _ _ _ _ _ _ _ (gX12_allAnew_L2 a0 (n + 1) x1 s0)
    unfold gX12_allAnew_L2
    refine go_iload_n 1 dX12_allAnew_2 rfl rfl ?_
    refine go_bipush (v := 12) dX12_allAnew_3 (by decide) ?_
    refine go_icmp_ge (tgt := 21) dX12_allAnew_5 (by decide) (fun h2 => ?_) (fun h2 => ?_)
    · refine go_aload_n 0 dX12_allAnew_8 rfl rfl ?_
      refine go_getR gf_RX12_62 gcf_12 gft_12_31 dX12_allAnew_9 (fun v3 => ?_)
      refine go_iload_n 1 dX12_allAnew_12 rfl rfl ?_
      refine go_iconst (v := 0) dX12_allAnew_13 (by decide) ?_
      refine go_zastore dX12_allAnew_14 (fun s4 _ => ?_)
      refine go_iinc (v := 1) (L' := [(1, vi (x1 + 1)), (0, vr a0)]) 1 dX12_allAnew_15 rfl (by decide) (by decide) rfl ?_
      refine go_goto (tgt := 2) dX12_allAnew_18 (by decide) ?_
      exact go_sub [1, 0] (ih (x1 + 1) s4) rfl
    · exact go_retv rfl dX12_allAnew_21
def fX12_allAnew (a0 : Nat) (s0 : gH) : Option (Unit × gH) :=
  gX12_allAnew_L2
    a0 20000 0 s0
set_option maxRecDepth 100000 in
set_option maxHeartbeats 4000000 in
theorem wX12_allAnew {X : Nat × (Nat → Int32)} {d : Nat} (hd : 0 ≤ d) {a0 : Nat} {s0 : gH} : gGo X rvU mX12_allAnew d 0 [(0, vr a0)] [] s0 (fX12_allAnew a0 s0) := by
  unfold fX12_allAnew
  refine go_iconst (v := 0) dX12_allAnew_0 (by decide) ?_
  refine go_istore_n (L' := [(1, vi 0), (0, vr a0)]) dX12_allAnew_1 rfl (by decide) rfl ?_
  refine go_sub [1, 0] (wX12_allAnew_L2 hd a0 20000 0 s0) rfl
set_option maxRecDepth 100000 in
set_option maxHeartbeats 4000000 in
theorem cX12_allAnew_c {d : Nat} (hd : 0 ≤ d) {a0 : Nat} {s0 : gH} {r : Unit} {s1 : gH} (h : fX12_allAnew a0 s0 = some (r, s1)) : gMt mX12_allAnew d [vr a0] s0 none s1 :=
  gMt_of (rv := rvU) (by decide +kernel) (Nat.le_of_ble_eq_true rfl) rfl (fun _ => wX12_allAnew hd) h
def gX12_begins_L2 (k22 : gH → Option (Unit × gH)) (a0 : Nat) : Nat → Int32 → gH → Option (Unit × gH)
  | 0, _, _ => none
  | n + 1, x1, s0 =>
    if x1 < 264 then
      (ggR s0 a0 12 29).bind fun v3 =>
      (saI s0 v3 2 x1 0).bind fun s4 =>
      gX12_begins_L2 k22 a0 n (x1 + 1) s4
    else
      k22 s0
set_option maxRecDepth 100000 in
set_option maxHeartbeats 4000000 in
theorem wX12_begins_L2 {X : Nat × (Nat → Int32)} {d : Nat} (hd : 1 ≤ d) (k22 : gH → Option (Unit × gH)) (a0 : Nat) (hk22 : ∀ (s : gH), gGo X rvU mX12_begins d 22 [(0, vr a0)] [] s (k22 s)) : ∀ (n : Nat) (x1 : Int32) (s0 : gH), gGo X rvU mX12_begins d 2 [(0, vr a0), (1, vi x1)] [] s0 (gX12_begins_L2 k22 a0 n x1 s0) := by
  intro n
  induction n with
  | zero => intros; exact go_none
  | succ n ih =>
    intro x1 s0
    show gGo _ _ _ _ _ _ _ _ (gX12_begins_L2 k22 a0 (n + 1) x1 s0)
    unfold gX12_begins_L2
    refine go_iload_n 1 dX12_begins_2 rfl rfl ?_
    refine go_sipush (v := 264) dX12_begins_3 (by decide) ?_
    refine go_icmp_ge (tgt := 22) dX12_begins_6 (by decide) (fun h2 => ?_) (fun h2 => ?_)
    · refine go_aload_n 0 dX12_begins_9 rfl rfl ?_
      refine go_getR gf_RX12_54 gcf_12 gft_12_29 dX12_begins_10 (fun v3 => ?_)
      refine go_iload_n 1 dX12_begins_13 rfl rfl ?_
      refine go_iconst (v := 0) dX12_begins_14 (by decide) ?_
      refine go_iastore dX12_begins_15 (fun s4 _ => ?_)
      refine go_iinc (v := 1) (L' := [(1, vi (x1 + 1)), (0, vr a0)]) 1 dX12_begins_16 rfl (by decide) (by decide) rfl ?_
      refine go_goto (tgt := 2) dX12_begins_19 (by decide) ?_
      exact go_sub [1, 0] (ih (x1 + 1) s4) rfl
    · exact go_sub [0] (hk22 s0) rfl
def gX12_begins_L24 (k78 : gH → Option (Unit × gH)) (a0 : Nat) : Nat → Int32 → gH → Option (Unit × gH)
  | 0, _, _ => none
  | n + 1, x1, s0 =>
    (ggR s0 a0 12 19).bind fun v7 =>
    (gaI s0 v7 2 0).bind fun v8 =>
    if x1 < v8 then
      (ggR s0 a0 12 29).bind fun v10 =>
      (ggR s0 a0 12 19).bind fun v11 =>
      gb2 (fX12_ruleAt x1 1 s0) fun r12 s13 =>
      (gaI s13 v11 2 r12).bind fun v14 =>
      (saI s13 v10 2 (2 * x1) v14).bind fun s15 =>
      (ggR s15 a0 12 29).bind fun v16 =>
      (ggR s15 a0 12 19).bind fun v17 =>
      gb2 (fX12_ruleAt x1 3 s15) fun r18 s19 =>
      (gaI s19 v17 2 r18).bind fun v20 =>
      (saI s19 v16 2 ((2 * x1) + 1) v20).bind fun s21 =>
      gX12_begins_L24 k78 a0 n (x1 + 1) s21
    else
      k78 s0
set_option maxRecDepth 100000 in
set_option maxHeartbeats 4000000 in
theorem wX12_begins_L24 {X : Nat × (Nat → Int32)} {d : Nat} (hd : 1 ≤ d) (k78 : gH → Option (Unit × gH)) (a0 : Nat) (hk78 : ∀ (s : gH), gGo X rvU mX12_begins d 78 [(0, vr a0)] [] s (k78 s)) : ∀ (n : Nat) (x1 : Int32) (s0 : gH), gGo X rvU mX12_begins d 24 [(0, vr a0), (1, vi x1)] [] s0 (gX12_begins_L24 k78 a0 n x1 s0) := by
  intro n
  induction n with
  | zero => intros; exact go_none
  | succ n ih =>
    intro x1 s0
    show gGo _ _ _ _ _ _ _ _ (gX12_begins_L24 k78 a0 (n + 1) x1 s0)
    unfold gX12_begins_L24
    refine go_iload_n 1 dX12_begins_24 rfl rfl ?_
    refine go_aload_n 0 dX12_begins_25 rfl rfl ?_
    refine go_getR gf_RX12_39 gcf_12 gft_12_19 dX12_begins_26 (fun v7 => ?_)
    refine go_iconst (v := 0) dX12_begins_29 (by decide) ?_
    refine go_iaload dX12_begins_30 (fun v8 _ => ?_)
    refine go_icmp_ge (tgt := 78) dX12_begins_31 (by decide) (fun h9 => ?_) (fun h9 => ?_)
    · refine go_aload_n 0 dX12_begins_34 rfl rfl ?_
      refine go_getR gf_RX12_54 gcf_12 gft_12_29 dX12_begins_35 (fun v10 => ?_)
      refine go_iconst (v := 2) dX12_begins_38 (by decide) ?_
      refine go_iload_n 1 dX12_begins_39 rfl rfl ?_
      refine go_imul dX12_begins_40 ?_
      refine go_aload_n 0 dX12_begins_41 rfl rfl ?_
      refine go_getR gf_RX12_39 gcf_12 gft_12_19 dX12_begins_42 (fun v11 => ?_)
      refine go_iload_n 1 dX12_begins_45 rfl rfl ?_
      refine go_iconst (v := 1) dX12_begins_46 (by decide) ?_
      refine go_callS_I (as := [vi x1, vi 1]) gk_RX12_186 gmf_X12_ruleAt (by omega) rfl rfl (Nat.le_of_ble_eq_true rfl) dX12_begins_47 (fun _ _ h => cX12_ruleAt_c (by omega) h) (fun r12 s13 _ => ?_)
      refine go_iaload dX12_begins_50 (fun v14 _ => ?_)
      refine go_iastore dX12_begins_51 (fun s15 _ => ?_)
      refine go_aload_n 0 dX12_begins_52 rfl rfl ?_
      refine go_getR gf_RX12_54 gcf_12 gft_12_29 dX12_begins_53 (fun v16 => ?_)
      refine go_iconst (v := 2) dX12_begins_56 (by decide) ?_
      refine go_iload_n 1 dX12_begins_57 rfl rfl ?_
      refine go_imul dX12_begins_58 ?_
      refine go_iconst (v := 1) dX12_begins_59 (by decide) ?_
      refine go_iadd dX12_begins_60 ?_
      refine go_aload_n 0 dX12_begins_61 rfl rfl ?_
      refine go_getR gf_RX12_39 gcf_12 gft_12_19 dX12_begins_62 (fun v17 => ?_)
      refine go_iload_n 1 dX12_begins_65 rfl rfl ?_
      refine go_iconst (v := 3) dX12_begins_66 (by decide) ?_
      refine go_callS_I (as := [vi x1, vi 3]) gk_RX12_186 gmf_X12_ruleAt (by omega) rfl rfl (Nat.le_of_ble_eq_true rfl) dX12_begins_67 (fun _ _ h => cX12_ruleAt_c (by omega) h) (fun r18 s19 _ => ?_)
      refine go_iaload dX12_begins_70 (fun v20 _ => ?_)
      refine go_iastore dX12_begins_71 (fun s21 _ => ?_)
      refine go_iinc (v := 1) (L' := [(1, vi (x1 + 1)), (0, vr a0)]) 1 dX12_begins_72 rfl (by decide) (by decide) rfl ?_
      refine go_goto (tgt := 24) dX12_begins_75 (by decide) ?_
      exact go_sub [1, 0] (ih (x1 + 1) s21) rfl
    · exact go_sub [0] (hk78 s0) rfl
def fX12_begins (a0 : Nat) (s0 : gH) : Option (Unit × gH) :=
  gX12_begins_L2
    (fun s5 =>
      gX12_begins_L24
        (fun s22 =>
          (spI s22 a0 12 44 0).bind fun s23 =>
          (spI s23 a0 12 36 0).bind fun s24 =>
          gb2 (gcv s24 a0 12 (fX12_allAnew a0 s24)) fun r25 s26 =>
          some ((), s26))
        a0 20000 0 s5)
    a0 20000 0 s0
set_option maxRecDepth 100000 in
set_option maxHeartbeats 4000000 in
theorem wX12_begins {X : Nat × (Nat → Int32)} {d : Nat} (hd : 1 ≤ d) {a0 : Nat} {s0 : gH} : gGo X rvU mX12_begins d 0 [(0, vr a0)] [] s0 (fX12_begins a0 s0) := by
  unfold fX12_begins
  refine go_iconst (v := 0) dX12_begins_0 (by decide) ?_
  refine go_istore_n (L' := [(1, vi 0), (0, vr a0)]) dX12_begins_1 rfl (by decide) rfl ?_
  refine go_sub [1, 0] (wX12_begins_L2 hd _ a0 ?_ 20000 0 s0) rfl
  intro s5
  refine go_iconst (v := 0) dX12_begins_22 (by decide) ?_
  refine go_istore_n (L' := [(1, vi 0), (0, vr a0)]) dX12_begins_23 rfl (by decide) rfl ?_
  refine go_sub [1, 0] (wX12_begins_L24 hd _ a0 ?_ 20000 0 s5) rfl
  intro s22
  refine go_aload_n 0 dX12_begins_78 rfl rfl ?_
  refine go_iconst (v := 0) dX12_begins_79 (by decide) ?_
  refine go_putI gf_RX12_304 gcf_12 gpl_12_44 gft_12_44 dX12_begins_80 (fun s23 _ => ?_)
  refine go_aload_n 0 dX12_begins_83 rfl rfl ?_
  refine go_iconst (v := 0) dX12_begins_84 (by decide) ?_
  refine go_putI gf_RX12_307 gcf_12 gpl_12_36 gft_12_36 dX12_begins_85 (fun s24 _ => ?_)
  refine go_aload_n 0 dX12_begins_88 rfl rfl ?_
  refine go_callV_v (as := []) gk_RX12_310 gmf_X12_allAnew (by decide) rfl (by omega) rfl rfl (Nat.le_of_ble_eq_true rfl) dX12_begins_89 (fun _ _ h => cX12_allAnew_c (by omega) h) (fun r25 s26 _ => ?_)
  exact go_retv rfl dX12_begins_92
set_option maxRecDepth 100000 in
set_option maxHeartbeats 4000000 in
theorem cX12_begins_c {d : Nat} (hd : 1 ≤ d) {a0 : Nat} {s0 : gH} {r : Unit} {s1 : gH} (h : fX12_begins a0 s0 = some (r, s1)) : gMt mX12_begins d [vr a0] s0 none s1 :=
  gMt_of (rv := rvU) (by decide +kernel) (Nat.le_of_ble_eq_true rfl) rfl (fun _ => wX12_begins hd) h
def gX12_book_L49 (k69 : gH → Option (Int32 × gH)) (a0 : Nat) : Nat → Int32 → gH → Option (Int32 × gH)
  | 0, _, _ => none
  | n + 1, x1, s0 =>
    if x1 < 272 then
      (ggR s0 a0 12 18).bind fun v14 =>
      (saI s0 v14 2 x1 0).bind fun s15 =>
      gX12_book_L49 k69 a0 n (x1 + 1) s15
    else
      k69 s0
set_option maxRecDepth 100000 in
set_option maxHeartbeats 4000000 in
theorem wX12_book_L49 {X : Nat × (Nat → Int32)} {d : Nat} (hd : 10 ≤ d) (k69 : gH → Option (Int32 × gH)) (a0 : Nat) (hk69 : ∀ (s : gH), gGo X rvI mX12_book d 69 [(0, vr a0)] [] s (k69 s)) : ∀ (n : Nat) (x1 : Int32) (s0 : gH), gGo X rvI mX12_book d 49 [(0, vr a0), (1, vi x1)] [] s0 (gX12_book_L49 k69 a0 n x1 s0) := by
  intro n
  induction n with
  | zero => intros; exact go_none
  | succ n ih =>
    intro x1 s0
    show gGo _ _ _ _ _ _ _ _ (gX12_book_L49 k69 a0 (n + 1) x1 s0)
    unfold gX12_book_L49
    refine go_iload_n 1 dX12_book_49 rfl rfl ?_
    refine go_sipush (v := 272) dX12_book_50 (by decide) ?_
    refine go_icmp_ge (tgt := 69) dX12_book_53 (by decide) (fun h13 => ?_) (fun h13 => ?_)
    · refine go_aload_n 0 dX12_book_56 rfl rfl ?_
      refine go_getR gf_RX12_36 gcf_12 gft_12_18 dX12_book_57 (fun v14 => ?_)
      refine go_iload_n 1 dX12_book_60 rfl rfl ?_
      refine go_iconst (v := 0) dX12_book_61 (by decide) ?_
      refine go_iastore dX12_book_62 (fun s15 _ => ?_)
      refine go_iinc (v := 1) (L' := [(1, vi (x1 + 1)), (0, vr a0)]) 1 dX12_book_63 rfl (by decide) (by decide) rfl ?_
      refine go_goto (tgt := 49) dX12_book_66 (by decide) ?_
      exact go_sub [1, 0] (ih (x1 + 1) s15) rfl
    · exact go_sub [0] (hk69 s0) rfl
def gX12_book_L86 (k108 : gH → Option (Int32 × gH)) (a0 : Nat) : Nat → gH → Option (Int32 × gH)
  | 0, _ => none
  | n + 1, s0 =>
    (ggI s0 a0 12 5).bind fun v22 =>
    if v22 = 0 then
      gb2 (gcv s0 a0 12 (fX12_look a0 s0)) fun r24 s25 =>
      if r24 = -1 then
        k108 s25
      else
        gb2 (gcv s25 a0 12 (fX12_statementTold a0 s25)) fun r27 s28 =>
        gX12_book_L86 k108 a0 n s28
    else
      k108 s0
set_option maxRecDepth 100000 in
set_option maxHeartbeats 4000000 in
theorem wX12_book_L86 {X : Nat × (Nat → Int32)} {d : Nat} (hd : 10 ≤ d) (k108 : gH → Option (Int32 × gH)) (a0 : Nat) (hk108 : ∀ (s : gH), gGo X rvI mX12_book d 108 [(0, vr a0)] [] s (k108 s)) : ∀ (n : Nat)  (s0 : gH), gGo X rvI mX12_book d 86 [(0, vr a0)] [] s0 (gX12_book_L86 k108 a0 n  s0) := by
  intro n
  induction n with
  | zero => intros; exact go_none
  | succ n ih =>
    intro  s0
    show gGo _ _ _ _ _ _ _ _ (gX12_book_L86 k108 a0 (n + 1)  s0)
    unfold gX12_book_L86
    refine go_aload_n 0 dX12_book_86 rfl rfl ?_
    refine go_getI gf_RX12_117 gcf_12 gft_12_5 dX12_book_87 (fun v22 => ?_)
    refine go_if_ne (tgt := 108) dX12_book_90 (by decide) (fun h23 => ?_) (fun h23 => ?_)
    · refine go_aload_n 0 dX12_book_93 rfl rfl ?_
      refine go_callV_I (as := []) gk_RX12_129 gmf_X12_look (by decide) rfl (by omega) rfl rfl (Nat.le_of_ble_eq_true rfl) dX12_book_94 (fun _ _ h => cX12_look_c (by omega) h) (fun r24 s25 _ => ?_)
      refine go_iconst (v := -1) dX12_book_97 (by decide) ?_
      refine go_icmp_eq (tgt := 108) dX12_book_98 (by decide) (fun h26 => ?_) (fun h26 => ?_)
      · exact go_sub [0] (hk108 s25) rfl
      · refine go_aload_n 0 dX12_book_101 rfl rfl ?_
        refine go_callV_v (as := []) gk_RX12_295 gmf_X12_statementTold (by decide) rfl (by omega) rfl rfl (Nat.le_of_ble_eq_true rfl) dX12_book_102 (fun _ _ h => cX12_statementTold_c (by omega) h) (fun r27 s28 _ => ?_)
        refine go_goto (tgt := 86) dX12_book_105 (by decide) ?_
        exact go_sub [0] (ih s28) rfl
    · exact go_sub [0] (hk108 s0) rfl
def gX12_book_L139 (k164 : gH → Option (Int32 × gH)) (a0 : Nat) : Nat → Int32 → gH → Option (Int32 × gH)
  | 0, _, _ => none
  | n + 1, x1, s0 =>
    if x1 < 272 then
      (ggR s0 a0 12 19).bind fun v38 =>
      (ggR s0 a0 12 18).bind fun v39 =>
      (gaI s0 v39 2 x1).bind fun v40 =>
      (saI s0 v38 2 x1 v40).bind fun s41 =>
      gX12_book_L139 k164 a0 n (x1 + 1) s41
    else
      k164 s0
set_option maxRecDepth 100000 in
set_option maxHeartbeats 4000000 in
theorem wX12_book_L139 {X : Nat × (Nat → Int32)} {d : Nat} (hd : 10 ≤ d) (k164 : gH → Option (Int32 × gH)) (a0 : Nat) (hk164 : ∀ (s : gH), gGo X rvI mX12_book d 164 [(0, vr a0)] [] s (k164 s)) : ∀ (n : Nat) (x1 : Int32) (s0 : gH), gGo X rvI mX12_book d 139 [(0, vr a0), (1, vi x1)] [] s0 (gX12_book_L139 k164 a0 n x1 s0) := by
  intro n
  induction n with
  | zero => intros; exact go_none
  | succ n ih =>
    intro x1 s0
    show gGo _ _ _ _ _ _ _ _ (gX12_book_L139 k164 a0 (n + 1) x1 s0)
    unfold gX12_book_L139
    refine go_iload_n 1 dX12_book_139 rfl rfl ?_
    refine go_sipush (v := 272) dX12_book_140 (by decide) ?_
    refine go_icmp_ge (tgt := 164) dX12_book_143 (by decide) (fun h37 => ?_) (fun h37 => ?_)
    · refine go_aload_n 0 dX12_book_146 rfl rfl ?_
      refine go_getR gf_RX12_39 gcf_12 gft_12_19 dX12_book_147 (fun v38 => ?_)
      refine go_iload_n 1 dX12_book_150 rfl rfl ?_
      refine go_aload_n 0 dX12_book_151 rfl rfl ?_
      refine go_getR gf_RX12_36 gcf_12 gft_12_18 dX12_book_152 (fun v39 => ?_)
      refine go_iload_n 1 dX12_book_155 rfl rfl ?_
      refine go_iaload dX12_book_156 (fun v40 _ => ?_)
      refine go_iastore dX12_book_157 (fun s41 _ => ?_)
      refine go_iinc (v := 1) (L' := [(1, vi (x1 + 1)), (0, vr a0)]) 1 dX12_book_158 rfl (by decide) (by decide) rfl ?_
      refine go_goto (tgt := 139) dX12_book_161 (by decide) ?_
      exact go_sub [1, 0] (ih (x1 + 1) s41) rfl
    · exact go_sub [0] (hk164 s0) rfl
def gX12_book_L166 (k194 : gH → Option (Int32 × gH)) (a0 : Nat) : Nat → Int32 → gH → Option (Int32 × gH)
  | 0, _, _ => none
  | n + 1, x1, s0 =>
    (ggI s0 a0 12 22).bind fun v44 =>
    if x1 < 2 * v44 then
      (ggR s0 a0 12 21).bind fun v46 =>
      (ggR s0 a0 12 20).bind fun v47 =>
      (gaI s0 v47 2 x1).bind fun v48 =>
      (saI s0 v46 2 x1 v48).bind fun s49 =>
      gX12_book_L166 k194 a0 n (x1 + 1) s49
    else
      k194 s0
set_option maxRecDepth 100000 in
set_option maxHeartbeats 4000000 in
theorem wX12_book_L166 {X : Nat × (Nat → Int32)} {d : Nat} (hd : 10 ≤ d) (k194 : gH → Option (Int32 × gH)) (a0 : Nat) (hk194 : ∀ (s : gH), gGo X rvI mX12_book d 194 [(0, vr a0)] [] s (k194 s)) : ∀ (n : Nat) (x1 : Int32) (s0 : gH), gGo X rvI mX12_book d 166 [(0, vr a0), (1, vi x1)] [] s0 (gX12_book_L166 k194 a0 n x1 s0) := by
  intro n
  induction n with
  | zero => intros; exact go_none
  | succ n ih =>
    intro x1 s0
    show gGo _ _ _ _ _ _ _ _ (gX12_book_L166 k194 a0 (n + 1) x1 s0)
    unfold gX12_book_L166
    refine go_iload_n 1 dX12_book_166 rfl rfl ?_
    refine go_iconst (v := 2) dX12_book_167 (by decide) ?_
    refine go_aload_n 0 dX12_book_168 rfl rfl ?_
    refine go_getI gf_RX12_253 gcf_12 gft_12_22 dX12_book_169 (fun v44 => ?_)
    refine go_imul dX12_book_172 ?_
    refine go_icmp_ge (tgt := 194) dX12_book_173 (by decide) (fun h45 => ?_) (fun h45 => ?_)
    · refine go_aload_n 0 dX12_book_176 rfl rfl ?_
      refine go_getR gf_RX12_45 gcf_12 gft_12_21 dX12_book_177 (fun v46 => ?_)
      refine go_iload_n 1 dX12_book_180 rfl rfl ?_
      refine go_aload_n 0 dX12_book_181 rfl rfl ?_
      refine go_getR gf_RX12_42 gcf_12 gft_12_20 dX12_book_182 (fun v47 => ?_)
      refine go_iload_n 1 dX12_book_185 rfl rfl ?_
      refine go_iaload dX12_book_186 (fun v48 _ => ?_)
      refine go_iastore dX12_book_187 (fun s49 _ => ?_)
      refine go_iinc (v := 1) (L' := [(1, vi (x1 + 1)), (0, vr a0)]) 1 dX12_book_188 rfl (by decide) (by decide) rfl ?_
      refine go_goto (tgt := 166) dX12_book_191 (by decide) ?_
      exact go_sub [1, 0] (ih (x1 + 1) s49) rfl
    · exact go_sub [0] (hk194 s0) rfl
def fX12_book (a0 : Nat) (s0 : gH) : Option (Int32 × gH) :=
  (ggI s0 a0 12 1).bind fun v1 =>
  (spI s0 a0 12 3 v1).bind fun s2 =>
  (spI s2 a0 12 1 0).bind fun s3 =>
  (spI s3 a0 12 2 0).bind fun s4 =>
  (spI s4 a0 12 4 (-1)).bind fun s5 =>
  (spI s5 a0 12 5 0).bind fun s6 =>
  (spI s6 a0 12 6 (-1)).bind fun s7 =>
  (spI s7 a0 12 24 0).bind fun s8 =>
  (spI s8 a0 12 22 0).bind fun s9 =>
  gb2 (gcv s9 a0 12 (fX12_laysDays a0 s9)) fun r10 s11 =>
  gX12_book_L49
    (fun s16 =>
      gb2 (gcv s16 a0 12 (fX12_look a0 s16)) fun r17 s18 =>
      gjn (fun (s20 : gH) =>
          gX12_book_L86
            (fun s29 =>
              (ggI s29 a0 12 5).bind fun v30 =>
              (spI s29 a0 12 7 v30).bind fun s31 =>
              (ggI s31 a0 12 6).bind fun v32 =>
              (spI s31 a0 12 8 v32).bind fun s33 =>
              (ggI s33 a0 12 5).bind fun v34 =>
              if v34 = 0 then
                gX12_book_L139
                  (fun s42 =>
                    gX12_book_L166
                      (fun s50 =>
                        (spI s50 a0 12 23 1).bind fun s51 =>
                        gb2 (gcv s51 a0 12 (fX12_begins a0 s51)) fun r52 s53 =>
                        (ggI s53 a0 12 24).bind fun v54 =>
                        some (v54, s53))
                      a0 20000 0 s42)
                  a0 20000 0 s33
              else
                gb2 (gcv s33 a0 12 (fX12_refuses a0 1 s33)) fun r55 s56 =>
                some (r55, s56))
            a0 20000 s20
      ) fun j19 =>
      if r17 = -1 then
        (ggI s18 a0 12 3).bind fun v58 =>
        gb2 (gcv s18 a0 12 (fX12_fail a0 1 v58 s18)) fun r59 s60 =>
        j19 s60
      else
        j19 s18)
    a0 20000 0 s11
set_option maxRecDepth 100000 in
set_option maxHeartbeats 4000000 in
theorem wX12_book {X : Nat × (Nat → Int32)} {d : Nat} (hd : 10 ≤ d) {a0 : Nat} {s0 : gH} : gGo X rvI mX12_book d 0 [(0, vr a0)] [] s0 (fX12_book a0 s0) := by
  unfold fX12_book
  refine go_aload_n 0 dX12_book_0 rfl rfl ?_
  refine go_aload_n 0 dX12_book_1 rfl rfl ?_
  refine go_getI gf_RX12_97 gcf_12 gft_12_1 dX12_book_2 (fun v1 => ?_)
  refine go_putI gf_RX12_126 gcf_12 gpl_12_3 gft_12_3 dX12_book_5 (fun s2 _ => ?_)
  refine go_aload_n 0 dX12_book_8 rfl rfl ?_
  refine go_iconst (v := 0) dX12_book_9 (by decide) ?_
  refine go_putI gf_RX12_97 gcf_12 gpl_12_1 gft_12_1 dX12_book_10 (fun s3 _ => ?_)
  refine go_aload_n 0 dX12_book_13 rfl rfl ?_
  refine go_iconst (v := 0) dX12_book_14 (by decide) ?_
  refine go_putI gf_RX12_123 gcf_12 gpl_12_2 gft_12_2 dX12_book_15 (fun s4 _ => ?_)
  refine go_aload_n 0 dX12_book_18 rfl rfl ?_
  refine go_iconst (v := -1) dX12_book_19 (by decide) ?_
  refine go_putI gf_RX12_136 gcf_12 gpl_12_4 gft_12_4 dX12_book_20 (fun s5 _ => ?_)
  refine go_aload_n 0 dX12_book_23 rfl rfl ?_
  refine go_iconst (v := 0) dX12_book_24 (by decide) ?_
  refine go_putI gf_RX12_117 gcf_12 gpl_12_5 gft_12_5 dX12_book_25 (fun s6 _ => ?_)
  refine go_aload_n 0 dX12_book_28 rfl rfl ?_
  refine go_iconst (v := -1) dX12_book_29 (by decide) ?_
  refine go_putI gf_RX12_120 gcf_12 gpl_12_6 gft_12_6 dX12_book_30 (fun s7 _ => ?_)
  refine go_aload_n 0 dX12_book_33 rfl rfl ?_
  refine go_iconst (v := 0) dX12_book_34 (by decide) ?_
  refine go_putI gf_RX12_292 gcf_12 gpl_12_24 gft_12_24 dX12_book_35 (fun s8 _ => ?_)
  refine go_aload_n 0 dX12_book_38 rfl rfl ?_
  refine go_iconst (v := 0) dX12_book_39 (by decide) ?_
  refine go_putI gf_RX12_253 gcf_12 gpl_12_22 gft_12_22 dX12_book_40 (fun s9 _ => ?_)
  refine go_aload_n 0 dX12_book_43 rfl rfl ?_
  refine go_callV_v (as := []) gk_RX12_183 gmf_X12_laysDays (by decide) rfl (by omega) rfl rfl (Nat.le_of_ble_eq_true rfl) dX12_book_44 (fun _ _ h => cX12_laysDays_c (by omega) h) (fun r10 s11 _ => ?_)
  refine go_iconst (v := 0) dX12_book_47 (by decide) ?_
  refine go_istore_n (L' := [(1, vi 0), (0, vr a0)]) dX12_book_48 rfl (by decide) rfl ?_
  refine go_sub [1, 0] (wX12_book_L49 hd _ a0 ?_ 20000 0 s11) rfl
  intro s16
  refine go_aload_n 0 dX12_book_69 rfl rfl ?_
  refine go_callV_I (as := []) gk_RX12_129 gmf_X12_look (by decide) rfl (by omega) rfl rfl (Nat.le_of_ble_eq_true rfl) dX12_book_70 (fun _ _ h => cX12_look_c (by omega) h) (fun r17 s18 _ => ?_)
  refine go_iconst (v := -1) dX12_book_73 (by decide) ?_
  refine go_gjn (P := fun j19 => ∀ (s20 : gH), gGo X rvI mX12_book d 86 [(0, vr a0)] [] s20 (j19 s20)) (fun s20 => ?_) (fun j19 hj19 => ?_)
  · refine go_sub [0] (wX12_book_L86 hd _ a0 ?_ 20000 s20) rfl
    intro s29
    refine go_aload_n 0 dX12_book_108 rfl rfl ?_
    refine go_aload_n 0 dX12_book_109 rfl rfl ?_
    refine go_getI gf_RX12_117 gcf_12 gft_12_5 dX12_book_110 (fun v30 => ?_)
    refine go_putI gf_RX12_114 gcf_12 gpl_12_7 gft_12_7 dX12_book_113 (fun s31 _ => ?_)
    refine go_aload_n 0 dX12_book_116 rfl rfl ?_
    refine go_aload_n 0 dX12_book_117 rfl rfl ?_
    refine go_getI gf_RX12_120 gcf_12 gft_12_6 dX12_book_118 (fun v32 => ?_)
    refine go_putI gf_RX12_13 gcf_12 gpl_12_8 gft_12_8 dX12_book_121 (fun s33 _ => ?_)
    refine go_aload_n 0 dX12_book_124 rfl rfl ?_
    refine go_getI gf_RX12_117 gcf_12 gft_12_5 dX12_book_125 (fun v34 => ?_)
    refine go_if_eq (tgt := 137) dX12_book_128 (by decide) (fun h35 => ?_) (fun h35 => ?_)
    · refine go_iconst (v := 0) dX12_book_137 (by decide) ?_
      refine go_istore_n (L' := [(1, vi 0), (0, vr a0)]) dX12_book_138 rfl (by decide) rfl ?_
      refine go_sub [1, 0] (wX12_book_L139 hd _ a0 ?_ 20000 0 s33) rfl
      intro s42
      refine go_iconst (v := 0) dX12_book_164 (by decide) ?_
      refine go_istore_n (L' := [(1, vi 0), (0, vr a0)]) dX12_book_165 rfl (by decide) rfl ?_
      refine go_sub [1, 0] (wX12_book_L166 hd _ a0 ?_ 20000 0 s42) rfl
      intro s50
      refine go_aload_n 0 dX12_book_194 rfl rfl ?_
      refine go_iconst (v := 1) dX12_book_195 (by decide) ?_
      refine go_putZ gf_RX12_298 gcf_12 gpl_12_23 gft_12_23 (by decide) dX12_book_196 (fun s51 _ => ?_)
      refine go_aload_n 0 dX12_book_199 rfl rfl ?_
      refine go_callV_v (as := []) gk_RX12_301 gmf_X12_begins (by decide) rfl (by omega) rfl rfl (Nat.le_of_ble_eq_true rfl) dX12_book_200 (fun _ _ h => cX12_begins_c (by omega) h) (fun r52 s53 _ => ?_)
      refine go_aload_n 0 dX12_book_203 rfl rfl ?_
      refine go_getI gf_RX12_292 gcf_12 gft_12_24 dX12_book_204 (fun v54 => ?_)
      exact go_ret rfl dX12_book_207
    · refine go_aload_n 0 dX12_book_131 rfl rfl ?_
      refine go_iconst (v := 1) dX12_book_132 (by decide) ?_
      refine go_callV_I (as := [vi 1]) gk_RX12_100 gmf_X12_refuses (by decide) rfl (by omega) rfl rfl (Nat.le_of_ble_eq_true rfl) dX12_book_133 (fun _ _ h => cX12_refuses_c (by omega) h) (fun r55 s56 _ => ?_)
      exact go_ret rfl dX12_book_136
  · refine go_icmp_ne (tgt := 86) dX12_book_74 (by decide) (fun h57 => ?_) (fun h57 => ?_)
    · refine go_aload_n 0 dX12_book_77 rfl rfl ?_
      refine go_iconst (v := 1) dX12_book_78 (by decide) ?_
      refine go_aload_n 0 dX12_book_79 rfl rfl ?_
      refine go_getI gf_RX12_126 gcf_12 gft_12_3 dX12_book_80 (fun v58 => ?_)
      refine go_callV_v (as := [vi 1, vi v58]) gk_RX12_142 gmf_X12_fail (by decide) rfl (by omega) rfl rfl (Nat.le_of_ble_eq_true rfl) dX12_book_83 (fun _ _ h => cX12_fail_c (by omega) h) (fun r59 s60 _ => ?_)
      exact go_sub [0] (hj19 s60) rfl
    · exact go_sub [0] (hj19 s18) rfl
set_option maxRecDepth 100000 in
set_option maxHeartbeats 4000000 in
theorem cX12_book_c {d : Nat} (hd : 10 ≤ d) {a0 : Nat} {s0 : gH} {r : Int32} {s1 : gH} (h : fX12_book a0 s0 = some (r, s1)) : gMt mX12_book d [vr a0] s0 (some (vi r)) s1 :=
  gMt_of (rv := rvI) (by decide +kernel) (Nat.le_of_ble_eq_true rfl) ⟨_, rfl, rfl⟩ (fun _ => wX12_book hd) h
def fX11_fault (a0 : Nat) (x1 : Int32) (s0 : gH) : Option (Int32 × gH) :=
  if x1 = 0 then
    (ggR s0 a0 11 1).bind fun v2 =>
    (ggI s0 v2 6 0).bind fun v3 =>
    some (v3, s0)
  else
    if x1 = 1 then
      (ggR s0 a0 11 1).bind fun v5 =>
      (ggI s0 v5 6 1).bind fun v6 =>
      some (v6, s0)
    else
      some (-1, s0)
set_option maxRecDepth 100000 in
set_option maxHeartbeats 4000000 in
theorem wX11_fault {X : Nat × (Nat → Int32)} {d : Nat} (hd : 0 ≤ d) {a0 : Nat} {x1 : Int32} {s0 : gH} : gGo X rvI mX11_fault d 0 [(0, vr a0), (1, vi x1)] [] s0 (fX11_fault a0 x1 s0) := by
  unfold fX11_fault
  refine go_iload_n 1 dX11_fault_0 rfl rfl ?_
  refine go_ite (fun h1 => ?_) (fun h1 => ?_)
  · refine go_lookup (off := 27) (tgt := 28) dX11_fault_1 (by decide) (by rw [h1]; decide) (by decide) ?_
    refine go_aload_n 0 dX11_fault_28 rfl rfl ?_
    refine go_getR gf_RX11_19 gcf_11 gft_11_1 dX11_fault_29 (fun v2 => ?_)
    refine go_getI gf_RX11_94 gcf_6 gft_6_0 dX11_fault_32 (fun v3 => ?_)
    exact go_ret rfl dX11_fault_35
  · refine go_ite (fun h4 => ?_) (fun h4 => ?_)
    · refine go_lookup (off := 35) (tgt := 36) dX11_fault_1 (by decide) (by rw [h4]; decide) (by decide) ?_
      refine go_aload_n 0 dX11_fault_36 rfl rfl ?_
      refine go_getR gf_RX11_19 gcf_11 gft_11_1 dX11_fault_37 (fun v5 => ?_)
      refine go_getI gf_RX11_107 gcf_6 gft_6_1 dX11_fault_40 (fun v6 => ?_)
      exact go_ret rfl dX11_fault_43
    · refine go_lookup (off := 43) (tgt := 44) dX11_fault_1 (by decide) (by have gh1 := gts h1 (n := 0) (by decide); have gh4 := gts h4 (n := 1) (by decide); simp [Op.lookupswitch.offset, Ne.symm gh1, Ne.symm gh4]) (by decide) ?_
      refine go_iconst (v := -1) dX11_fault_44 (by decide) ?_
      exact go_ret rfl dX11_fault_45
set_option maxRecDepth 100000 in
set_option maxHeartbeats 4000000 in
theorem cX11_fault_c {d : Nat} (hd : 0 ≤ d) {a0 : Nat} {x1 : Int32} {s0 : gH} {r : Int32} {s1 : gH} (h : fX11_fault a0 x1 s0 = some (r, s1)) : gMt mX11_fault d [vr a0, vi x1] s0 (some (vi r)) s1 :=
  gMt_of (rv := rvI) (by decide +kernel) (Nat.le_of_ble_eq_true rfl) ⟨_, rfl, rfl⟩ (fun _ => wX11_fault hd) h
def fX12_fault (a0 : Nat) (x1 : Int32) (s0 : gH) : Option (Int32 × gH) :=
  if x1 = 0 then
    (ggI s0 a0 12 7).bind fun v2 =>
    some (v2, s0)
  else
    if x1 = 1 then
      (ggI s0 a0 12 8).bind fun v4 =>
      some (v4, s0)
    else
      some (-1, s0)
set_option maxRecDepth 100000 in
set_option maxHeartbeats 4000000 in
theorem wX12_fault {X : Nat × (Nat → Int32)} {d : Nat} (hd : 0 ≤ d) {a0 : Nat} {x1 : Int32} {s0 : gH} : gGo X rvI mX12_fault d 0 [(0, vr a0), (1, vi x1)] [] s0 (fX12_fault a0 x1 s0) := by
  unfold fX12_fault
  refine go_iload_n 1 dX12_fault_0 rfl rfl ?_
  refine go_if_ne (tgt := 11) dX12_fault_1 (by decide) (fun h1 => ?_) (fun h1 => ?_)
  · refine go_aload_n 0 dX12_fault_4 rfl rfl ?_
    refine go_getI gf_RX12_114 gcf_12 gft_12_7 dX12_fault_5 (fun v2 => ?_)
    refine go_goto (tgt := 24) dX12_fault_8 (by decide) ?_
    exact go_ret rfl dX12_fault_24
  · refine go_iload_n 1 dX12_fault_11 rfl rfl ?_
    refine go_iconst (v := 1) dX12_fault_12 (by decide) ?_
    refine go_icmp_ne (tgt := 23) dX12_fault_13 (by decide) (fun h3 => ?_) (fun h3 => ?_)
    · refine go_aload_n 0 dX12_fault_16 rfl rfl ?_
      refine go_getI gf_RX12_13 gcf_12 gft_12_8 dX12_fault_17 (fun v4 => ?_)
      refine go_goto (tgt := 24) dX12_fault_20 (by decide) ?_
      exact go_ret rfl dX12_fault_24
    · refine go_iconst (v := -1) dX12_fault_23 (by decide) ?_
      exact go_ret rfl dX12_fault_24
set_option maxRecDepth 100000 in
set_option maxHeartbeats 4000000 in
theorem cX12_fault_c {d : Nat} (hd : 0 ≤ d) {a0 : Nat} {x1 : Int32} {s0 : gH} {r : Int32} {s1 : gH} (h : fX12_fault a0 x1 s0 = some (r, s1)) : gMt mX12_fault d [vr a0, vi x1] s0 (some (vi r)) s1 :=
  gMt_of (rv := rvI) (by decide +kernel) (Nat.le_of_ble_eq_true rfl) ⟨_, rfl, rfl⟩ (fun _ => wX12_fault hd) h
def fX5_rowOf (a0 : Nat) (x1 : Int32) (x2 : Int32) (s0 : gH) : Option (Nat × gH) :=
  glet (gmax 0 (gmin x1 5)) fun y1 =>
  if x2 = 1 then
    (ggR s0 a0 5 3).bind fun v3 =>
    (gaR s0 v3 6 y1).bind fun v4 =>
    some (v4, s0)
  else
    (ggR s0 a0 5 4).bind fun v5 =>
    (gaR s0 v5 6 y1).bind fun v6 =>
    some (v6, s0)
set_option maxRecDepth 100000 in
set_option maxHeartbeats 4000000 in
theorem wX5_rowOf {X : Nat × (Nat → Int32)} {d : Nat} (hd : 1 ≤ d) {a0 : Nat} {x1 : Int32} {x2 : Int32} {s0 : gH} : gGo X rvR mX5_rowOf d 0 [(0, vr a0), (1, vi x1), (2, vi x2)] [] s0 (fX5_rowOf a0 x1 x2 s0) := by
  unfold fX5_rowOf
  refine go_iconst (v := 0) dX5_rowOf_0 (by decide) ?_
  refine go_iload_n 1 dX5_rowOf_1 rfl rfl ?_
  refine go_iconst (v := 5) dX5_rowOf_2 (by decide) ?_
  refine go_mmin gk_RX5_109.1 gmm_min2 gmm_3 gmm_min4 (Nat.le_of_ble_eq_true rfl) dX5_rowOf_3 ?_
  refine go_mmax gk_RX5_114.1 gmm_max2 gmm_3 gmm_max4 (Nat.le_of_ble_eq_true rfl) dX5_rowOf_6 ?_
  refine go_istore_n_l (L' := fun y1 => [(3, vi y1), (0, vr a0), (1, vi x1), (2, vi x2)]) dX5_rowOf_9 rfl (by decide) (fun _ => rfl) (fun y1 => ?_)
  refine go_iload_n 3 dX5_rowOf_10 rfl rfl ?_
  refine go_iconst (v := 1) dX5_rowOf_11 (by decide) ?_
  refine go_icmp_ne (tgt := 24) dX5_rowOf_12 (by decide) (fun h2 => ?_) (fun h2 => ?_)
  · refine go_aload_n 1 dX5_rowOf_15 rfl rfl ?_
    refine go_getR gf_RX5_22 gcf_5 gft_5_3 dX5_rowOf_16 (fun v3 => ?_)
    refine go_iload_n 0 dX5_rowOf_19 rfl rfl ?_
    refine go_aaload (t := 6) (by decide) (by decide) dX5_rowOf_20 (fun v4 _ => ?_)
    refine go_goto (tgt := 30) dX5_rowOf_21 (by decide) ?_
    exact go_ret rfl dX5_rowOf_30
  · refine go_aload_n 1 dX5_rowOf_24 rfl rfl ?_
    refine go_getR gf_RX5_26 gcf_5 gft_5_4 dX5_rowOf_25 (fun v5 => ?_)
    refine go_iload_n 0 dX5_rowOf_28 rfl rfl ?_
    refine go_aaload (t := 6) (by decide) (by decide) dX5_rowOf_29 (fun v6 _ => ?_)
    exact go_ret rfl dX5_rowOf_30
set_option maxRecDepth 100000 in
set_option maxHeartbeats 4000000 in
theorem cX5_rowOf_c {d : Nat} (hd : 1 ≤ d) {a0 : Nat} {x1 : Int32} {x2 : Int32} {s0 : gH} {r : Nat} {s1 : gH} (h : fX5_rowOf a0 x1 x2 s0 = some (r, s1)) : gMt mX5_rowOf d [vr a0, vi x1, vi x2] s0 (some (vr r)) s1 :=
  gMt_of (rv := rvR) (by decide +kernel) (Nat.le_of_ble_eq_true rfl) ⟨_, rfl, (Or.inl ⟨_, rfl⟩)⟩ (fun _ => wX5_rowOf hd) h
def gX5_marked_L4  (a0 : Nat) (x1 : Int32) : Nat → Int32 → Int32 → gH → Option (Int32 × gH)
  | 0, _, _, _ => none
  | n + 1, x2, x3, s0 =>
    if x3 < 6 then
      gb2 (gcv s0 a0 5 (fX5_rowOf a0 x3 x1 s0)) fun r3 s4 =>
      (ggI s4 r3 7 1).bind fun v5 =>
      glet (x2 + v5) fun y6 =>
      gX5_marked_L4 a0 x1 n y6 (x3 + 1) s4
    else
      some (x2, s0)
set_option maxRecDepth 100000 in
set_option maxHeartbeats 4000000 in
theorem wX5_marked_L4 {X : Nat × (Nat → Int32)} {d : Nat} (hd : 2 ≤ d)  (a0 : Nat) (x1 : Int32) : ∀ (n : Nat) (x2 : Int32) (x3 : Int32) (s0 : gH), gGo X rvI mX5_marked d 4 [(0, vr a0), (1, vi x1), (2, vi x2), (3, vi x3)] [] s0 (gX5_marked_L4 a0 x1 n x2 x3 s0) := by
  intro n
  induction n with
  | zero => intros; exact go_none
  | succ n ih =>
    intro x2 x3 s0
    show gGo _ _ _ _ _ _ _ _ (gX5_marked_L4 a0 x1 (n + 1) x2 x3 s0)
    unfold gX5_marked_L4
    refine go_iload_n 3 dX5_marked_4 rfl rfl ?_
    refine go_bipush (v := 6) dX5_marked_5 (by decide) ?_
    refine go_icmp_ge (tgt := 28) dX5_marked_7 (by decide) (fun h2 => ?_) (fun h2 => ?_)
    · refine go_iload_n 2 dX5_marked_10 rfl rfl ?_
      refine go_aload_n 0 dX5_marked_11 rfl rfl ?_
      refine go_iload_n 3 dX5_marked_12 rfl rfl ?_
      refine go_iload_n 1 dX5_marked_13 rfl rfl ?_
      refine go_callV_R (as := [vi x3, vi x1]) gk_RX5_78 gmf_X5_rowOf (by decide) rfl (by omega) rfl rfl (Nat.le_of_ble_eq_true rfl) dX5_marked_14 (fun _ _ h => cX5_rowOf_c (by omega) h) (fun r3 s4 _ => ?_)
      refine go_getI gf_RX5_82 gcf_7 gft_7_1 dX5_marked_17 (fun v5 => ?_)
      refine go_iadd dX5_marked_20 ?_
      refine go_istore_n_l (L' := fun y6 => [(2, vi y6), (0, vr a0), (1, vi x1), (3, vi x3)]) dX5_marked_21 rfl (by decide) (fun _ => rfl) (fun y6 => ?_)
      refine go_iinc (v := 1) (L' := [(3, vi (x3 + 1)), (2, vi y6), (0, vr a0), (1, vi x1)]) 3 dX5_marked_22 rfl (by decide) (by decide) rfl ?_
      refine go_goto (tgt := 4) dX5_marked_25 (by decide) ?_
      exact go_sub [2, 3, 1, 0] (ih y6 (x3 + 1) s4) rfl
    · refine go_iload_n 2 dX5_marked_28 rfl rfl ?_
      exact go_ret rfl dX5_marked_29
def fX5_marked (a0 : Nat) (x1 : Int32) (s0 : gH) : Option (Int32 × gH) :=
  gX5_marked_L4
    a0 x1 20000 0 0 s0
set_option maxRecDepth 100000 in
set_option maxHeartbeats 4000000 in
theorem wX5_marked {X : Nat × (Nat → Int32)} {d : Nat} (hd : 2 ≤ d) {a0 : Nat} {x1 : Int32} {s0 : gH} : gGo X rvI mX5_marked d 0 [(0, vr a0), (1, vi x1)] [] s0 (fX5_marked a0 x1 s0) := by
  unfold fX5_marked
  refine go_iconst (v := 0) dX5_marked_0 (by decide) ?_
  refine go_istore_n (L' := [(2, vi 0), (0, vr a0), (1, vi x1)]) dX5_marked_1 rfl (by decide) rfl ?_
  refine go_iconst (v := 0) dX5_marked_2 (by decide) ?_
  refine go_istore_n (L' := [(3, vi 0), (2, vi 0), (0, vr a0), (1, vi x1)]) dX5_marked_3 rfl (by decide) rfl ?_
  refine go_sub [2, 3, 1, 0] (wX5_marked_L4 hd a0 x1 20000 0 0 s0) rfl
set_option maxRecDepth 100000 in
set_option maxHeartbeats 4000000 in
theorem cX5_marked_c {d : Nat} (hd : 2 ≤ d) {a0 : Nat} {x1 : Int32} {s0 : gH} {r : Int32} {s1 : gH} (h : fX5_marked a0 x1 s0 = some (r, s1)) : gMt mX5_marked d [vr a0, vi x1] s0 (some (vi r)) s1 :=
  gMt_of (rv := rvI) (by decide +kernel) (Nat.le_of_ble_eq_true rfl) ⟨_, rfl, rfl⟩ (fun _ => wX5_marked hd) h
def fX11_has (a0 : Nat) (x1 : Int32) (s0 : gH) : Option (Int32 × gH) :=
  if x1 = 0 then
    (ggR s0 a0 11 7).bind fun v2 =>
    (ggI s0 v2 1 0).bind fun v3 =>
    some (v3, s0)
  else
    if x1 = 1 then
      (ggR s0 a0 11 7).bind fun v5 =>
      (ggI s0 v5 1 1).bind fun v6 =>
      some (v6, s0)
    else
      if x1 = 2 then
        (ggR s0 a0 11 3).bind fun v8 =>
        gb2 (gcv s0 v8 5 (fX5_marked v8 1 s0)) fun r9 s10 =>
        some (r9, s10)
      else
        if x1 = 3 then
          (ggR s0 a0 11 3).bind fun v12 =>
          gb2 (gcv s0 v12 5 (fX5_marked v12 2 s0)) fun r13 s14 =>
          some (r13, s14)
        else
          if x1 = 4 then
            (ggR s0 a0 11 5).bind fun v16 =>
            (ggI s0 v16 9 8).bind fun v17 =>
            some (v17, s0)
          else
            if x1 = 5 then
              (ggR s0 a0 11 4).bind fun v19 =>
              (ggI s0 v19 4 5).bind fun v20 =>
              some (v20, s0)
            else
              some (-1, s0)
set_option maxRecDepth 100000 in
set_option maxHeartbeats 4000000 in
theorem wX11_has {X : Nat × (Nat → Int32)} {d : Nat} (hd : 3 ≤ d) {a0 : Nat} {x1 : Int32} {s0 : gH} : gGo X rvI mX11_has d 0 [(0, vr a0), (1, vi x1)] [] s0 (fX11_has a0 x1 s0) := by
  unfold fX11_has
  refine go_iload_n 1 dX11_has_0 rfl rfl ?_
  refine go_ite (fun h1 => ?_) (fun h1 => ?_)
  · refine go_tsIn (v := 0) (off := 39) (tgt := 40) dX11_has_1 h1 (by decide) (by decide) (by decide) (by decide) ?_
    refine go_aload_n 0 dX11_has_40 rfl rfl ?_
    refine go_getR gf_RX11_60 gcf_11 gft_11_7 dX11_has_41 (fun v2 => ?_)
    refine go_getI gf_RX11_101 gcf_1 gft_1_0 dX11_has_44 (fun v3 => ?_)
    exact go_ret rfl dX11_has_47
  · refine go_ite (fun h4 => ?_) (fun h4 => ?_)
    · refine go_tsIn (v := 1) (off := 47) (tgt := 48) dX11_has_1 h4 (by decide) (by decide) (by decide) (by decide) ?_
      refine go_aload_n 0 dX11_has_48 rfl rfl ?_
      refine go_getR gf_RX11_60 gcf_11 gft_11_7 dX11_has_49 (fun v5 => ?_)
      refine go_getI gf_RX11_104 gcf_1 gft_1_1 dX11_has_52 (fun v6 => ?_)
      exact go_ret rfl dX11_has_55
    · refine go_ite (fun h7 => ?_) (fun h7 => ?_)
      · refine go_tsIn (v := 2) (off := 55) (tgt := 56) dX11_has_1 h7 (by decide) (by decide) (by decide) (by decide) ?_
        refine go_aload_n 0 dX11_has_56 rfl rfl ?_
        refine go_getR gf_RX11_35 gcf_11 gft_11_3 dX11_has_57 (fun v8 => ?_)
        refine go_iconst (v := 1) dX11_has_60 (by decide) ?_
        refine go_callV_I (as := [vi 1]) gk_RX11_110 gmf_X5_marked (by decide) rfl (by omega) rfl rfl (Nat.le_of_ble_eq_true rfl) dX11_has_61 (fun _ _ h => cX5_marked_c (by omega) h) (fun r9 s10 _ => ?_)
        exact go_ret rfl dX11_has_64
      · refine go_ite (fun h11 => ?_) (fun h11 => ?_)
        · refine go_tsIn (v := 3) (off := 64) (tgt := 65) dX11_has_1 h11 (by decide) (by decide) (by decide) (by decide) ?_
          refine go_aload_n 0 dX11_has_65 rfl rfl ?_
          refine go_getR gf_RX11_35 gcf_11 gft_11_3 dX11_has_66 (fun v12 => ?_)
          refine go_iconst (v := 2) dX11_has_69 (by decide) ?_
          refine go_callV_I (as := [vi 2]) gk_RX11_110 gmf_X5_marked (by decide) rfl (by omega) rfl rfl (Nat.le_of_ble_eq_true rfl) dX11_has_70 (fun _ _ h => cX5_marked_c (by omega) h) (fun r13 s14 _ => ?_)
          exact go_ret rfl dX11_has_73
        · refine go_ite (fun h15 => ?_) (fun h15 => ?_)
          · refine go_tsIn (v := 4) (off := 73) (tgt := 74) dX11_has_1 h15 (by decide) (by decide) (by decide) (by decide) ?_
            refine go_aload_n 0 dX11_has_74 rfl rfl ?_
            refine go_getR gf_RX11_49 gcf_11 gft_11_5 dX11_has_75 (fun v16 => ?_)
            refine go_getI gf_RX11_113 gcf_9 gft_9_8 dX11_has_78 (fun v17 => ?_)
            exact go_ret rfl dX11_has_81
          · refine go_ite (fun h18 => ?_) (fun h18 => ?_)
            · refine go_tsIn (v := 5) (off := 81) (tgt := 82) dX11_has_1 h18 (by decide) (by decide) (by decide) (by decide) ?_
              refine go_aload_n 0 dX11_has_82 rfl rfl ?_
              refine go_getR gf_RX11_42 gcf_11 gft_11_4 dX11_has_83 (fun v19 => ?_)
              refine go_getI gf_RX11_114 gcf_4 gft_4_5 dX11_has_86 (fun v20 => ?_)
              exact go_ret rfl dX11_has_89
            · refine go_tsOut (tgt := 90) dX11_has_1 (by have gh1 := gts h1 (n := 0) (by decide); have gh4 := gts h4 (n := 1) (by decide); have gh7 := gts h7 (n := 2) (by decide); have gh11 := gts h11 (n := 3) (by decide); have gh15 := gts h15 (n := 4) (by decide); have gh18 := gts h18 (n := 5) (by decide); omega) (by decide) ?_
              refine go_iconst (v := -1) dX11_has_90 (by decide) ?_
              exact go_ret rfl dX11_has_91
set_option maxRecDepth 100000 in
set_option maxHeartbeats 4000000 in
theorem cX11_has_c {d : Nat} (hd : 3 ≤ d) {a0 : Nat} {x1 : Int32} {s0 : gH} {r : Int32} {s1 : gH} (h : fX11_has a0 x1 s0 = some (r, s1)) : gMt mX11_has d [vr a0, vi x1] s0 (some (vi r)) s1 :=
  gMt_of (rv := rvI) (by decide +kernel) (Nat.le_of_ble_eq_true rfl) ⟨_, rfl, rfl⟩ (fun _ => wX11_has hd) h
