/-! walks, written by a program -/
def fX6_refuse (a0 : Nat) (x1 : Int32) (x2 : Int32) (s0 : gH) : Option (Unit × gH) :=
  (ggI s0 a0 6 0).bind fun v1 =>
  if v1 = 0 then
    (spI s0 a0 6 0 x1).bind fun s3 =>
    (spI s3 a0 6 1 x2).bind fun s4 =>
    (spI s4 a0 6 4 4).bind fun s5 =>
    some ((), s5)
  else
    (spI s0 a0 6 4 4).bind fun s6 =>
    some ((), s6)
set_option maxRecDepth 100000 in
set_option maxHeartbeats 4000000 in
theorem wX6_refuse {X : Nat × (Nat → Int32)} {d : Nat} (hd : 0 ≤ d) {a0 : Nat} {x1 : Int32} {x2 : Int32} {s0 : gH} : gGo X rvU mX6_refuse d 0 [(0, vr a0), (1, vi x1), (2, vi x2)] [] s0 (fX6_refuse a0 x1 x2 s0) := by
  unfold fX6_refuse
  refine go_aload_n 0 dX6_refuse_0 rfl rfl ?_
  refine go_getI gf_RX6_54 gcf_6 gft_6_0 dX6_refuse_1 (fun v1 => ?_)
  refine go_if_ne (tgt := 17) dX6_refuse_4 (by decide) (fun h2 => ?_) (fun h2 => ?_)
  · refine go_aload_n 0 dX6_refuse_7 rfl rfl ?_
    refine go_iload_n 1 dX6_refuse_8 rfl rfl ?_
    refine go_putI gf_RX6_54 gcf_6 gpl_6_0 gft_6_0 dX6_refuse_9 (fun s3 _ => ?_)
    refine go_aload_n 0 dX6_refuse_12 rfl rfl ?_
    refine go_iload_n 2 dX6_refuse_13 rfl rfl ?_
    refine go_putI gf_RX6_9 gcf_6 gpl_6_1 gft_6_1 dX6_refuse_14 (fun s4 _ => ?_)
    refine go_aload_n 0 dX6_refuse_17 rfl rfl ?_
    refine go_iconst (v := 4) dX6_refuse_18 (by decide) ?_
    refine go_putI gf_RX6_57 gcf_6 gpl_6_4 gft_6_4 dX6_refuse_19 (fun s5 _ => ?_)
    exact go_retv rfl dX6_refuse_22
  · refine go_aload_n 0 dX6_refuse_17 rfl rfl ?_
    refine go_iconst (v := 4) dX6_refuse_18 (by decide) ?_
    refine go_putI gf_RX6_57 gcf_6 gpl_6_4 gft_6_4 dX6_refuse_19 (fun s6 _ => ?_)
    exact go_retv rfl dX6_refuse_22
set_option maxRecDepth 100000 in
set_option maxHeartbeats 4000000 in
theorem cX6_refuse_c {d : Nat} (hd : 0 ≤ d) {a0 : Nat} {x1 : Int32} {x2 : Int32} {s0 : gH} {r : Unit} {s1 : gH} (h : fX6_refuse a0 x1 x2 s0 = some (r, s1)) : gMt mX6_refuse d [vr a0, vi x1, vi x2] s0 none s1 :=
  gMt_of (rv := rvU) (by decide +kernel) (Nat.le_of_ble_eq_true rfl) rfl (fun _ => wX6_refuse hd) h
def gX6_wordAmong_L44 (k128 : Int32 → gH → Option (Int32 × gH)) (a0 : Nat) (a1 : Nat) (x2 : Int32) : Nat → Int32 → Int32 → gH → Option (Int32 × gH)
  | 0, _, _, _ => none
  | n + 1, x3, x4, s0 =>
    if x4 < 6 then
      (ggI s0 a0 6 5).bind fun v12 =>
      (ggI s0 a0 6 6).bind fun v13 =>
      gjn (fun (z15 : Int32) (s16 : gH) =>
          gb2 (gsv a1 (fJ0_charAt_5068e a1 ((x2 * 6) + x4) s16)) fun r17 s18 =>
          if z15 = r17 then
            glet (x3 + 1) fun y20 =>
            gX6_wordAmong_L44 k128 a0 a1 x2 n y20 (x4 + 1) s18
          else
            glet (x3 + 0) fun y21 =>
            gX6_wordAmong_L44 k128 a0 a1 x2 n y21 (x4 + 1) s18
      ) fun j14 =>
      if v12 + x4 < v13 then
        (ggI s0 a0 6 5).bind fun v23 =>
        (ggI s0 a0 6 3).bind fun v24 =>
        if v23 + x4 < v24 then
          (ggR s0 a0 6 2).bind fun v26 =>
          (ggI s0 a0 6 5).bind fun v27 =>
          (gaI s0 v26 0 (v27 + x4)).bind fun v28 =>
          j14 v28 s0
        else
          j14 32 s0
      else
        j14 32 s0
    else
      k128 x3 s0
set_option maxRecDepth 100000 in
set_option maxHeartbeats 4000000 in
theorem wX6_wordAmong_L44 {X : Nat × (Nat → Int32)} {d : Nat} (hd : 4 ≤ d) (k128 : Int32 → gH → Option (Int32 × gH)) (a0 : Nat) (a1 : Nat) (x2 : Int32) (hk128 : ∀ (x3 : Int32) (s : gH), gGo X rvI mX6_wordAmong d 128 [(0, vr a0), (1, vr (10 + 2 * a1)), (2, vi x2), (3, vi x3)] [] s (k128 x3 s)) : ∀ (n : Nat) (x3 : Int32) (x4 : Int32) (s0 : gH), gGo X rvI mX6_wordAmong d 44 [(0, vr a0), (1, vr (10 + 2 * a1)), (2, vi x2), (3, vi x3), (4, vi x4)] [] s0 (gX6_wordAmong_L44 k128 a0 a1 x2 n x3 x4 s0) := by
  intro n
  induction n with
  | zero => intros; exact go_none
  | succ n ih =>
    intro x3 x4 s0
    show gGo _ _ _ _ _ _ _ _ (gX6_wordAmong_L44 k128 a0 a1 x2 (n + 1) x3 x4 s0)
    unfold gX6_wordAmong_L44
    refine go_iload 4 dX6_wordAmong_44 rfl ?_
    refine go_bipush (v := 6) dX6_wordAmong_46 (by decide) ?_
    refine go_icmp_ge (tgt := 128) dX6_wordAmong_48 (by decide) (fun h11 => ?_) (fun h11 => ?_)
    · refine go_aload_n 0 dX6_wordAmong_51 rfl rfl ?_
      refine go_getI gf_RX6_80 gcf_6 gft_6_5 dX6_wordAmong_52 (fun v12 => ?_)
      refine go_iload 4 dX6_wordAmong_55 rfl ?_
      refine go_iadd dX6_wordAmong_57 ?_
      refine go_aload_n 0 dX6_wordAmong_58 rfl rfl ?_
      refine go_getI gf_RX6_60 gcf_6 gft_6_6 dX6_wordAmong_59 (fun v13 => ?_)
      refine go_gjn (P := fun j14 => ∀ (z15 : Int32) (s16 : gH), gGo X rvI mX6_wordAmong d 96 [(0, vr a0), (1, vr (10 + 2 * a1)), (2, vi x2), (3, vi x3), (4, vi x4)] [vi z15] s16 (j14 z15 s16)) (fun z15 s16 => ?_) (fun j14 hj14 => ?_)
      · refine go_istore (L' := [(5, vi z15), (0, vr a0), (1, vr (10 + 2 * a1)), (2, vi x2), (3, vi x3), (4, vi x4)]) dX6_wordAmong_96 (by decide) rfl ?_
        refine go_iload_n 4 dX6_wordAmong_98 rfl rfl ?_
        refine go_iload 0 dX6_wordAmong_99 rfl ?_
        refine go_aload_n 2 dX6_wordAmong_101 rfl rfl ?_
        refine go_iload_n 3 dX6_wordAmong_102 rfl rfl ?_
        refine go_bipush (v := 6) dX6_wordAmong_103 (by decide) ?_
        refine go_imul dX6_wordAmong_105 ?_
        refine go_iload 5 dX6_wordAmong_106 rfl ?_
        refine go_iadd dX6_wordAmong_108 ?_
        refine go_callVS_I (as := [vi ((x2 * 6) + x4)]) gk_RX6_256 rfl gmf_J0_charAt_5068e (by omega) rfl rfl (Nat.le_of_ble_eq_true rfl) dX6_wordAmong_109 (fun _ _ h => cJ0_charAt_5068e_c (by omega) h) (fun r17 s18 _ => ?_)
        refine go_icmp_ne (tgt := 119) dX6_wordAmong_112 (by decide) (fun h19 => ?_) (fun h19 => ?_)
        · refine go_iconst (v := 1) dX6_wordAmong_115 (by decide) ?_
          refine go_goto (tgt := 120) dX6_wordAmong_116 (by decide) ?_
          refine go_iadd dX6_wordAmong_120 ?_
          refine go_istore_n_l (L' := fun y20 => [(3, vi y20), (5, vi z15), (0, vr a0), (1, vr (10 + 2 * a1)), (2, vi x2), (4, vi x4)]) dX6_wordAmong_121 rfl (by decide) (fun _ => rfl) (fun y20 => ?_)
          refine go_iinc (v := 1) (L' := [(4, vi (x4 + 1)), (3, vi y20), (5, vi z15), (0, vr a0), (1, vr (10 + 2 * a1)), (2, vi x2)]) 5 dX6_wordAmong_122 rfl (by decide) (by decide) rfl ?_
          refine go_goto (tgt := 44) dX6_wordAmong_125 (by decide) ?_
          exact go_sub [3, 4, 5, 1, 0] (ih y20 (x4 + 1) s18) rfl
        · refine go_iconst (v := 0) dX6_wordAmong_119 (by decide) ?_
          refine go_iadd dX6_wordAmong_120 ?_
          refine go_istore_n_l (L' := fun y21 => [(3, vi y21), (5, vi z15), (0, vr a0), (1, vr (10 + 2 * a1)), (2, vi x2), (4, vi x4)]) dX6_wordAmong_121 rfl (by decide) (fun _ => rfl) (fun y21 => ?_)
          refine go_iinc (v := 1) (L' := [(4, vi (x4 + 1)), (3, vi y21), (5, vi z15), (0, vr a0), (1, vr (10 + 2 * a1)), (2, vi x2)]) 5 dX6_wordAmong_122 rfl (by decide) (by decide) rfl ?_
          refine go_goto (tgt := 44) dX6_wordAmong_125 (by decide) ?_
          exact go_sub [3, 4, 5, 1, 0] (ih y21 (x4 + 1) s18) rfl
      · refine go_icmp_ge (tgt := 94) dX6_wordAmong_62 (by decide) (fun h22 => ?_) (fun h22 => ?_)
        · refine go_aload_n 0 dX6_wordAmong_65 rfl rfl ?_
          refine go_getI gf_RX6_80 gcf_6 gft_6_5 dX6_wordAmong_66 (fun v23 => ?_)
          refine go_iload 4 dX6_wordAmong_69 rfl ?_
          refine go_iadd dX6_wordAmong_71 ?_
          refine go_aload_n 0 dX6_wordAmong_72 rfl rfl ?_
          refine go_getI gf_RX6_42 gcf_6 gft_6_3 dX6_wordAmong_73 (fun v24 => ?_)
          refine go_icmp_ge (tgt := 94) dX6_wordAmong_76 (by decide) (fun h25 => ?_) (fun h25 => ?_)
          · refine go_aload_n 0 dX6_wordAmong_79 rfl rfl ?_
            refine go_getR gf_RX6_15 gcf_6 gft_6_2 dX6_wordAmong_80 (fun v26 => ?_)
            refine go_aload_n 0 dX6_wordAmong_83 rfl rfl ?_
            refine go_getI gf_RX6_80 gcf_6 gft_6_5 dX6_wordAmong_84 (fun v27 => ?_)
            refine go_iload 4 dX6_wordAmong_87 rfl ?_
            refine go_iadd dX6_wordAmong_89 ?_
            refine go_baload dX6_wordAmong_90 (fun v28 _ => ?_)
            refine go_goto (tgt := 96) dX6_wordAmong_91 (by decide) ?_
            exact go_sub [0, 1, 2, 3, 4] (hj14 v28 s0) rfl
          · refine go_bipush (v := 32) dX6_wordAmong_94 (by decide) ?_
            exact go_sub [0, 1, 2, 3, 4] (hj14 32 s0) rfl
        · refine go_bipush (v := 32) dX6_wordAmong_94 (by decide) ?_
          exact go_sub [0, 1, 2, 3, 4] (hj14 32 s0) rfl
    · exact go_sub [0, 1, 2, 3] (hk128 x3 s0) rfl
def gX6_wordAmong_L26  (a0 : Nat) (a1 : Nat) : Nat → Int32 → gH → Option (Int32 × gH)
  | 0, _, _ => none
  | n + 1, x2, s0 =>
    gb2 (gsv a1 (fJ0_length_8abf5 a1 s0)) fun r7 s8 =>
    if r7 < (x2 + 1) * 6 then
      some (-1, s8)
    else
      gX6_wordAmong_L44
        (fun y29 s30 =>
          if y29 = 6 then
            some (x2, s30)
          else
            gX6_wordAmong_L26 a0 a1 n (x2 + 1) s30)
        a0 a1 x2 20000 0 0 s8
set_option maxRecDepth 100000 in
set_option maxHeartbeats 4000000 in
theorem wX6_wordAmong_L26 {X : Nat × (Nat → Int32)} {d : Nat} (hd : 4 ≤ d)  (a0 : Nat) (a1 : Nat) : ∀ (n : Nat) (x2 : Int32) (s0 : gH), gGo X rvI mX6_wordAmong d 26 [(0, vr a0), (1, vr (10 + 2 * a1)), (2, vi x2)] [] s0 (gX6_wordAmong_L26 a0 a1 n x2 s0) := by
  intro n
  induction n with
  | zero => intros; exact go_none
  | succ n ih =>
    intro x2 s0
    show gGo _ _ _ _ _ _ _ _ (gX6_wordAmong_L26 a0 a1 (n + 1) x2 s0)
    unfold gX6_wordAmong_L26
    refine go_iload_n 2 dX6_wordAmong_26 rfl rfl ?_
    refine go_iconst (v := 1) dX6_wordAmong_27 (by decide) ?_
    refine go_iadd dX6_wordAmong_28 ?_
    refine go_bipush (v := 6) dX6_wordAmong_29 (by decide) ?_
    refine go_imul dX6_wordAmong_31 ?_
    refine go_aload_n 1 dX6_wordAmong_32 rfl rfl ?_
    refine go_callVS_I (as := []) gk_RX6_252 rfl gmf_J0_length_8abf5 (by omega) rfl rfl (Nat.le_of_ble_eq_true rfl) dX6_wordAmong_33 (fun _ _ h => cJ0_length_8abf5_c (by omega) h) (fun r7 s8 _ => ?_)
    refine go_icmp_gt (tgt := 142) dX6_wordAmong_36 (by decide) (fun h9 => ?_) (fun h9 => ?_)
    · refine go_iconst (v := -1) dX6_wordAmong_142 (by decide) ?_
      exact go_ret rfl dX6_wordAmong_143
    · refine go_iconst (v := 0) dX6_wordAmong_39 (by decide) ?_
      refine go_istore_n (L' := [(3, vi 0), (0, vr a0), (1, vr (10 + 2 * a1)), (2, vi x2)]) dX6_wordAmong_40 rfl (by decide) rfl ?_
      refine go_iconst (v := 0) dX6_wordAmong_41 (by decide) ?_
      refine go_istore (L' := [(4, vi 0), (3, vi 0), (0, vr a0), (1, vr (10 + 2 * a1)), (2, vi x2)]) dX6_wordAmong_42 (by decide) rfl ?_
      refine go_sub [2, 3, 4, 1, 0] (wX6_wordAmong_L44 hd _ a0 a1 x2 ?_ 20000 0 0 s8) rfl
      intro y29 s30
      refine go_iload_n 3 dX6_wordAmong_128 rfl rfl ?_
      refine go_bipush (v := 6) dX6_wordAmong_129 (by decide) ?_
      refine go_icmp_ne (tgt := 136) dX6_wordAmong_131 (by decide) (fun h31 => ?_) (fun h31 => ?_)
      · refine go_iload_n 2 dX6_wordAmong_134 rfl rfl ?_
        exact go_ret rfl dX6_wordAmong_135
      · refine go_iinc (v := 1) (L' := [(2, vi (x2 + 1)), (0, vr a0), (1, vr (10 + 2 * a1)), (3, vi y29)]) 2 dX6_wordAmong_136 rfl (by decide) (by decide) rfl ?_
        refine go_goto (tgt := 26) dX6_wordAmong_139 (by decide) ?_
        exact go_sub [1, 2, 0] (ih (x2 + 1) s30) rfl
def fX6_wordAmong (a0 : Nat) (a1 : Nat) (s0 : gH) : Option (Int32 × gH) :=
  (ggI s0 a0 6 4).bind fun v1 =>
  if v1 = 1 then
    (ggI s0 a0 6 6).bind fun v3 =>
    (ggI s0 a0 6 5).bind fun v4 =>
    if 6 < v3 - v4 then
      some (-1, s0)
    else
      gX6_wordAmong_L26
        a0 a1 20000 0 s0
  else
    some (-1, s0)
set_option maxRecDepth 100000 in
set_option maxHeartbeats 4000000 in
theorem wX6_wordAmong {X : Nat × (Nat → Int32)} {d : Nat} (hd : 4 ≤ d) {a0 : Nat} {a1 : Nat} {s0 : gH} : gGo X rvI mX6_wordAmong d 0 [(0, vr a0), (1, vr (10 + 2 * a1))] [] s0 (fX6_wordAmong a0 a1 s0) := by
  unfold fX6_wordAmong
  refine go_aload_n 0 dX6_wordAmong_0 rfl rfl ?_
  refine go_getI gf_RX6_57 gcf_6 gft_6_4 dX6_wordAmong_1 (fun v1 => ?_)
  refine go_iconst (v := 1) dX6_wordAmong_4 (by decide) ?_
  refine go_icmp_ne (tgt := 22) dX6_wordAmong_5 (by decide) (fun h2 => ?_) (fun h2 => ?_)
  · refine go_aload_n 0 dX6_wordAmong_8 rfl rfl ?_
    refine go_getI gf_RX6_60 gcf_6 gft_6_6 dX6_wordAmong_9 (fun v3 => ?_)
    refine go_aload_n 0 dX6_wordAmong_12 rfl rfl ?_
    refine go_getI gf_RX6_80 gcf_6 gft_6_5 dX6_wordAmong_13 (fun v4 => ?_)
    refine go_isub dX6_wordAmong_16 ?_
    refine go_bipush (v := 6) dX6_wordAmong_17 (by decide) ?_
    refine go_icmp_le (tgt := 24) dX6_wordAmong_19 (by decide) (fun h5 => ?_) (fun h5 => ?_)
    · refine go_iconst (v := -1) dX6_wordAmong_22 (by decide) ?_
      exact go_ret rfl dX6_wordAmong_23
    · refine go_iconst (v := 0) dX6_wordAmong_24 (by decide) ?_
      refine go_istore_n (L' := [(2, vi 0), (0, vr a0), (1, vr (10 + 2 * a1))]) dX6_wordAmong_25 rfl (by decide) rfl ?_
      refine go_sub [1, 2, 0] (wX6_wordAmong_L26 hd a0 a1 20000 0 s0) rfl
  · refine go_iconst (v := -1) dX6_wordAmong_22 (by decide) ?_
    exact go_ret rfl dX6_wordAmong_23
set_option maxRecDepth 100000 in
set_option maxHeartbeats 4000000 in
theorem cX6_wordAmong_c {d : Nat} (hd : 4 ≤ d) {a0 : Nat} {a1 : Nat} {s0 : gH} {r : Int32} {s1 : gH} (h : fX6_wordAmong a0 a1 s0 = some (r, s1)) : gMt mX6_wordAmong d [vr a0, vr (10 + 2 * a1)] s0 (some (vi r)) s1 :=
  gMt_of (rv := rvI) (by decide +kernel) (Nat.le_of_ble_eq_true rfl) ⟨_, rfl, rfl⟩ (fun _ => wX6_wordAmong hd) h
def gX6_isOwnWord (a0 : Nat) (s0 : gH) : Option (Int32 × gH) :=
  gb2 (gcv s0 a0 6 (fX6_wordAmong a0 1 s0)) fun r1 s2 =>
  if r1 = -1 then
    gb2 (gcv s2 a0 6 (fX6_wordAmong a0 2 s2)) fun r4 s5 =>
    if r4 = -1 then
      gb2 (gcv s5 a0 6 (fX6_wordAmong a0 3 s5)) fun r7 s8 =>
      if r7 = -1 then
        gb2 (gcv s8 a0 6 (fX6_wordAmong a0 4 s8)) fun r10 s11 =>
        if r10 = -1 then
          some (0, s11)
        else
          some (1, s11)
      else
        some (1, s8)
    else
      some (1, s5)
  else
    some (1, s2)
def fX6_isOwnWord (a0 : Nat) (s0 : gH) : Option (Int32 × gH) := gzr (gX6_isOwnWord a0 s0)
set_option maxRecDepth 100000 in
set_option maxHeartbeats 4000000 in
theorem wX6_isOwnWord {X : Nat × (Nat → Int32)} {d : Nat} (hd : 5 ≤ d) {a0 : Nat} {s0 : gH} : gGo X rvI mX6_isOwnWord d 0 [(0, vr a0)] [] s0 (gX6_isOwnWord a0 s0) := by
  unfold gX6_isOwnWord
  refine go_aload_n 0 dX6_isOwnWord_0 rfl rfl ?_
  refine go_ldcS (i := 1) (by decide) rfl rfl dX6_isOwnWord_1 ?_
  refine go_callV_I (as := [vr (10 + 2 * 1)]) gk_RX6_121 gmf_X6_wordAmong (by decide) rfl (by omega) rfl rfl (Nat.le_of_ble_eq_true rfl) dX6_isOwnWord_3 (fun _ _ h => cX6_wordAmong_c (by omega) h) (fun r1 s2 _ => ?_)
  refine go_iconst (v := -1) dX6_isOwnWord_6 (by decide) ?_
  refine go_icmp_ne (tgt := 40) dX6_isOwnWord_7 (by decide) (fun h3 => ?_) (fun h3 => ?_)
  · refine go_aload_n 0 dX6_isOwnWord_10 rfl rfl ?_
    refine go_ldcS (i := 2) (by decide) rfl rfl dX6_isOwnWord_11 ?_
    refine go_callV_I (as := [vr (10 + 2 * 2)]) gk_RX6_121 gmf_X6_wordAmong (by decide) rfl (by omega) rfl rfl (Nat.le_of_ble_eq_true rfl) dX6_isOwnWord_13 (fun _ _ h => cX6_wordAmong_c (by omega) h) (fun r4 s5 _ => ?_)
    refine go_iconst (v := -1) dX6_isOwnWord_16 (by decide) ?_
    refine go_icmp_ne (tgt := 40) dX6_isOwnWord_17 (by decide) (fun h6 => ?_) (fun h6 => ?_)
    · refine go_aload_n 0 dX6_isOwnWord_20 rfl rfl ?_
      refine go_ldcS (i := 3) (by decide) rfl rfl dX6_isOwnWord_21 ?_
      refine go_callV_I (as := [vr (10 + 2 * 3)]) gk_RX6_121 gmf_X6_wordAmong (by decide) rfl (by omega) rfl rfl (Nat.le_of_ble_eq_true rfl) dX6_isOwnWord_23 (fun _ _ h => cX6_wordAmong_c (by omega) h) (fun r7 s8 _ => ?_)
      refine go_iconst (v := -1) dX6_isOwnWord_26 (by decide) ?_
      refine go_icmp_ne (tgt := 40) dX6_isOwnWord_27 (by decide) (fun h9 => ?_) (fun h9 => ?_)
      · refine go_aload_n 0 dX6_isOwnWord_30 rfl rfl ?_
        refine go_ldcS (i := 4) (by decide) rfl rfl dX6_isOwnWord_31 ?_
        refine go_callV_I (as := [vr (10 + 2 * 4)]) gk_RX6_121 gmf_X6_wordAmong (by decide) rfl (by omega) rfl rfl (Nat.le_of_ble_eq_true rfl) dX6_isOwnWord_33 (fun _ _ h => cX6_wordAmong_c (by omega) h) (fun r10 s11 _ => ?_)
        refine go_iconst (v := -1) dX6_isOwnWord_36 (by decide) ?_
        refine go_icmp_eq (tgt := 44) dX6_isOwnWord_37 (by decide) (fun h12 => ?_) (fun h12 => ?_)
        · refine go_iconst (v := 0) dX6_isOwnWord_44 (by decide) ?_
          exact go_ret rfl dX6_isOwnWord_45
        · refine go_iconst (v := 1) dX6_isOwnWord_40 (by decide) ?_
          refine go_goto (tgt := 45) dX6_isOwnWord_41 (by decide) ?_
          exact go_ret rfl dX6_isOwnWord_45
      · refine go_iconst (v := 1) dX6_isOwnWord_40 (by decide) ?_
        refine go_goto (tgt := 45) dX6_isOwnWord_41 (by decide) ?_
        exact go_ret rfl dX6_isOwnWord_45
    · refine go_iconst (v := 1) dX6_isOwnWord_40 (by decide) ?_
      refine go_goto (tgt := 45) dX6_isOwnWord_41 (by decide) ?_
      exact go_ret rfl dX6_isOwnWord_45
  · refine go_iconst (v := 1) dX6_isOwnWord_40 (by decide) ?_
    refine go_goto (tgt := 45) dX6_isOwnWord_41 (by decide) ?_
    exact go_ret rfl dX6_isOwnWord_45
set_option maxRecDepth 100000 in
set_option maxHeartbeats 4000000 in
theorem cX6_isOwnWord_c {d : Nat} (hd : 5 ≤ d) {a0 : Nat} {s0 : gH} {r : Int32} {s1 : gH} (h : fX6_isOwnWord a0 s0 = some (r, s1)) : gMt mX6_isOwnWord d [vr a0] s0 (some (vi r)) s1 := by
  obtain ⟨h1, h2⟩ := gzr_some h
  exact gMt_of (rv := rvI) (by decide +kernel) (Nat.le_of_ble_eq_true rfl) ⟨_, rfl, gnarZ h2⟩ (fun _ => wX6_isOwnWord hd) h1
def gX6_name_L69 (k123 : Int32 → gH → Option (Int32 × gH)) (a0 : Nat) : Nat → Int32 → Int32 → gH → Option (Int32 × gH)
  | 0, _, _, _ => none
  | n + 1, x1, x2, s0 =>
    (ggI s0 a0 6 5).bind fun v8 =>
    if x2 < v8 + 6 then
      (ggI s0 a0 6 6).bind fun v10 =>
      if x2 < v10 then
        (ggI s0 a0 6 3).bind fun v12 =>
        if x2 < v12 then
          (ggR s0 a0 6 2).bind fun v14 =>
          (gaI s0 v14 0 x2).bind fun v15 =>
          glet ((x1 * 32) + ((v15 - 97) + 1)) fun y16 =>
          gX6_name_L69 k123 a0 n y16 (x2 + 1) s0
        else
          glet ((x1 * 32) + 0) fun y17 =>
          gX6_name_L69 k123 a0 n y17 (x2 + 1) s0
      else
        glet ((x1 * 32) + 0) fun y18 =>
        gX6_name_L69 k123 a0 n y18 (x2 + 1) s0
    else
      k123 x1 s0
set_option maxRecDepth 100000 in
set_option maxHeartbeats 4000000 in
theorem wX6_name_L69 {X : Nat × (Nat → Int32)} {d : Nat} (hd : 6 ≤ d) (k123 : Int32 → gH → Option (Int32 × gH)) (a0 : Nat) (hk123 : ∀ (x1 : Int32) (s : gH), gGo X rvI mX6_name d 123 [(0, vr a0), (1, vi x1)] [] s (k123 x1 s)) : ∀ (n : Nat) (x1 : Int32) (x2 : Int32) (s0 : gH), gGo X rvI mX6_name d 69 [(0, vr a0), (1, vi x1), (2, vi x2)] [] s0 (gX6_name_L69 k123 a0 n x1 x2 s0) := by
  intro n
  induction n with
  | zero => intros; exact go_none
  | succ n ih =>
    intro x1 x2 s0
    show gGo _ _ _ _ _ _ _ _ (gX6_name_L69 k123 a0 (n + 1) x1 x2 s0)
    unfold gX6_name_L69
    refine go_iload_n 2 dX6_name_69 rfl rfl ?_
    refine go_aload_n 0 dX6_name_70 rfl rfl ?_
    refine go_getI gf_RX6_80 gcf_6 gft_6_5 dX6_name_71 (fun v8 => ?_)
    refine go_bipush (v := 6) dX6_name_74 (by decide) ?_
    refine go_iadd dX6_name_76 ?_
    refine go_icmp_ge (tgt := 123) dX6_name_77 (by decide) (fun h9 => ?_) (fun h9 => ?_)
    · refine go_iload_n 1 dX6_name_80 rfl rfl ?_
      refine go_bipush (v := 32) dX6_name_81 (by decide) ?_
      refine go_imul dX6_name_83 ?_
      refine go_iload_n 2 dX6_name_84 rfl rfl ?_
      refine go_aload_n 0 dX6_name_85 rfl rfl ?_
      refine go_getI gf_RX6_60 gcf_6 gft_6_6 dX6_name_86 (fun v10 => ?_)
      refine go_icmp_ge (tgt := 114) dX6_name_89 (by decide) (fun h11 => ?_) (fun h11 => ?_)
      · refine go_iload_n 2 dX6_name_92 rfl rfl ?_
        refine go_aload_n 0 dX6_name_93 rfl rfl ?_
        refine go_getI gf_RX6_42 gcf_6 gft_6_3 dX6_name_94 (fun v12 => ?_)
        refine go_icmp_ge (tgt := 114) dX6_name_97 (by decide) (fun h13 => ?_) (fun h13 => ?_)
        · refine go_aload_n 0 dX6_name_100 rfl rfl ?_
          refine go_getR gf_RX6_15 gcf_6 gft_6_2 dX6_name_101 (fun v14 => ?_)
          refine go_iload_n 2 dX6_name_104 rfl rfl ?_
          refine go_baload dX6_name_105 (fun v15 _ => ?_)
          refine go_bipush (v := 97) dX6_name_106 (by decide) ?_
          refine go_isub dX6_name_108 ?_
          refine go_iconst (v := 1) dX6_name_109 (by decide) ?_
          refine go_iadd dX6_name_110 ?_
          refine go_goto (tgt := 115) dX6_name_111 (by decide) ?_
          refine go_iadd dX6_name_115 ?_
          refine go_istore_n_l (L' := fun y16 => [(1, vi y16), (0, vr a0), (2, vi x2)]) dX6_name_116 rfl (by decide) (fun _ => rfl) (fun y16 => ?_)
          refine go_iinc (v := 1) (L' := [(2, vi (x2 + 1)), (1, vi y16), (0, vr a0)]) 2 dX6_name_117 rfl (by decide) (by decide) rfl ?_
          refine go_goto (tgt := 69) dX6_name_120 (by decide) ?_
          exact go_sub [2, 1, 0] (ih y16 (x2 + 1) s0) rfl
        · refine go_iconst (v := 0) dX6_name_114 (by decide) ?_
          refine go_iadd dX6_name_115 ?_
          refine go_istore_n_l (L' := fun y17 => [(1, vi y17), (0, vr a0), (2, vi x2)]) dX6_name_116 rfl (by decide) (fun _ => rfl) (fun y17 => ?_)
          refine go_iinc (v := 1) (L' := [(2, vi (x2 + 1)), (1, vi y17), (0, vr a0)]) 2 dX6_name_117 rfl (by decide) (by decide) rfl ?_
          refine go_goto (tgt := 69) dX6_name_120 (by decide) ?_
          exact go_sub [2, 1, 0] (ih y17 (x2 + 1) s0) rfl
      · refine go_iconst (v := 0) dX6_name_114 (by decide) ?_
        refine go_iadd dX6_name_115 ?_
        refine go_istore_n_l (L' := fun y18 => [(1, vi y18), (0, vr a0), (2, vi x2)]) dX6_name_116 rfl (by decide) (fun _ => rfl) (fun y18 => ?_)
        refine go_iinc (v := 1) (L' := [(2, vi (x2 + 1)), (1, vi y18), (0, vr a0)]) 2 dX6_name_117 rfl (by decide) (by decide) rfl ?_
        refine go_goto (tgt := 69) dX6_name_120 (by decide) ?_
        exact go_sub [2, 1, 0] (ih y18 (x2 + 1) s0) rfl
    · exact go_sub [0, 1] (hk123 x1 s0) rfl
def fX6_name (a0 : Nat) (s0 : gH) : Option (Int32 × gH) :=
  (ggI s0 a0 6 4).bind fun v1 =>
  gjn (fun (s3 : gH) =>
      (ggI s3 a0 6 0).bind fun v4 =>
      if v4 = 0 then
        (ggI s3 a0 6 5).bind fun v6 =>
        gX6_name_L69
          (fun y19 s20 =>
            gb2 (gcv s20 a0 6 (fX6_advance a0 s20)) fun r21 s22 =>
            some (y19, s22))
          a0 20000 0 v6 s3
      else
        some (0, s3)
  ) fun j2 =>
  gjn (fun (s24 : gH) =>
      (ggI s24 a0 6 5).bind fun v25 =>
      gb2 (gcv s24 a0 6 (fX6_refuse a0 1 v25 s24)) fun r26 s27 =>
      j2 s27
  ) fun j23 =>
  if v1 = 1 then
    gb2 (gcv s0 a0 6 (fX6_isOwnWord a0 s0)) fun r29 s30 =>
    if r29 = 0 then
      (ggI s30 a0 6 6).bind fun v32 =>
      (ggI s30 a0 6 5).bind fun v33 =>
      if 6 < v32 - v33 then
        (ggI s30 a0 6 5).bind fun v35 =>
        gb2 (gcv s30 a0 6 (fX6_refuse a0 1 (v35 + 6) s30)) fun r36 s37 =>
        j2 s37
      else
        j2 s30
    else
      j23 s30
  else
    j23 s0
set_option maxRecDepth 100000 in
set_option maxHeartbeats 4000000 in
theorem wX6_name {X : Nat × (Nat → Int32)} {d : Nat} (hd : 6 ≤ d) {a0 : Nat} {s0 : gH} : gGo X rvI mX6_name d 0 [(0, vr a0)] [] s0 (fX6_name a0 s0) := by
  unfold fX6_name
  refine go_aload_n 0 dX6_name_0 rfl rfl ?_
  refine go_getI gf_RX6_57 gcf_6 gft_6_4 dX6_name_1 (fun v1 => ?_)
  refine go_iconst (v := 1) dX6_name_4 (by decide) ?_
  refine go_gjn (P := fun j2 => ∀ (s3 : gH), gGo X rvI mX6_name d 53 [(0, vr a0)] [] s3 (j2 s3)) (fun s3 => ?_) (fun j2 hj2 => ?_)
  · refine go_aload_n 0 dX6_name_53 rfl rfl ?_
    refine go_getI gf_RX6_54 gcf_6 gft_6_0 dX6_name_54 (fun v4 => ?_)
    refine go_if_eq (tgt := 62) dX6_name_57 (by decide) (fun h5 => ?_) (fun h5 => ?_)
    · refine go_iconst (v := 0) dX6_name_62 (by decide) ?_
      refine go_istore_n (L' := [(1, vi 0), (0, vr a0)]) dX6_name_63 rfl (by decide) rfl ?_
      refine go_aload_n 1 dX6_name_64 rfl rfl ?_
      refine go_getI gf_RX6_80 gcf_6 gft_6_5 dX6_name_65 (fun v6 => ?_)
      refine go_istore_n (L' := [(2, vi v6), (1, vi 0), (0, vr a0)]) dX6_name_68 rfl (by decide) rfl ?_
      refine go_sub [2, 1, 0] (wX6_name_L69 hd _ a0 ?_ 20000 0 v6 s3) rfl
      intro y19 s20
      refine go_aload_n 0 dX6_name_123 rfl rfl ?_
      refine go_callV_v (as := []) gk_RX6_63 gmf_X6_advance (by decide) rfl (by omega) rfl rfl (Nat.le_of_ble_eq_true rfl) dX6_name_124 (fun _ _ h => cX6_advance_c (by omega) h) (fun r21 s22 _ => ?_)
      refine go_iload_n 1 dX6_name_127 rfl rfl ?_
      exact go_ret rfl dX6_name_128
    · refine go_iconst (v := 0) dX6_name_60 (by decide) ?_
      exact go_ret rfl dX6_name_61
  · refine go_gjn (P := fun j23 => ∀ (s24 : gH), gGo X rvI mX6_name d 15 [(0, vr a0)] [] s24 (j23 s24)) (fun s24 => ?_) (fun j23 hj23 => ?_)
    · refine go_aload_n 0 dX6_name_15 rfl rfl ?_
      refine go_iconst (v := 1) dX6_name_16 (by decide) ?_
      refine go_aload_n 0 dX6_name_17 rfl rfl ?_
      refine go_getI gf_RX6_80 gcf_6 gft_6_5 dX6_name_18 (fun v25 => ?_)
      refine go_callV_v (as := [vi 1, vi v25]) gk_RX6_83 gmf_X6_refuse (by decide) rfl (by omega) rfl rfl (Nat.le_of_ble_eq_true rfl) dX6_name_21 (fun _ _ h => cX6_refuse_c (by omega) h) (fun r26 s27 _ => ?_)
      refine go_goto (tgt := 53) dX6_name_24 (by decide) ?_
      exact go_sub [0] (hj2 s27) rfl
    · refine go_icmp_ne (tgt := 15) dX6_name_5 (by decide) (fun h28 => ?_) (fun h28 => ?_)
      · refine go_aload_n 0 dX6_name_8 rfl rfl ?_
        refine go_callV_I (as := []) gk_RX6_247 gmf_X6_isOwnWord (by decide) rfl (by omega) rfl rfl (Nat.le_of_ble_eq_true rfl) dX6_name_9 (fun _ _ h => cX6_isOwnWord_c (by omega) h) (fun r29 s30 _ => ?_)
        refine go_if_eq (tgt := 27) dX6_name_12 (by decide) (fun h31 => ?_) (fun h31 => ?_)
        · refine go_aload_n 0 dX6_name_27 rfl rfl ?_
          refine go_getI gf_RX6_60 gcf_6 gft_6_6 dX6_name_28 (fun v32 => ?_)
          refine go_aload_n 0 dX6_name_31 rfl rfl ?_
          refine go_getI gf_RX6_80 gcf_6 gft_6_5 dX6_name_32 (fun v33 => ?_)
          refine go_isub dX6_name_35 ?_
          refine go_bipush (v := 6) dX6_name_36 (by decide) ?_
          refine go_icmp_le (tgt := 53) dX6_name_38 (by decide) (fun h34 => ?_) (fun h34 => ?_)
          · refine go_aload_n 0 dX6_name_41 rfl rfl ?_
            refine go_iconst (v := 1) dX6_name_42 (by decide) ?_
            refine go_aload_n 0 dX6_name_43 rfl rfl ?_
            refine go_getI gf_RX6_80 gcf_6 gft_6_5 dX6_name_44 (fun v35 => ?_)
            refine go_bipush (v := 6) dX6_name_47 (by decide) ?_
            refine go_iadd dX6_name_49 ?_
            refine go_callV_v (as := [vi 1, vi (v35 + 6)]) gk_RX6_83 gmf_X6_refuse (by decide) rfl (by omega) rfl rfl (Nat.le_of_ble_eq_true rfl) dX6_name_50 (fun _ _ h => cX6_refuse_c (by omega) h) (fun r36 s37 _ => ?_)
            exact go_sub [0] (hj2 s37) rfl
          · exact go_sub [0] (hj2 s30) rfl
        · exact go_sub [0] (hj23 s30) rfl
      · exact go_sub [0] (hj23 s0) rfl
set_option maxRecDepth 100000 in
set_option maxHeartbeats 4000000 in
theorem cX6_name_c {d : Nat} (hd : 6 ≤ d) {a0 : Nat} {s0 : gH} {r : Int32} {s1 : gH} (h : fX6_name a0 s0 = some (r, s1)) : gMt mX6_name d [vr a0] s0 (some (vi r)) s1 :=
  gMt_of (rv := rvI) (by decide +kernel) (Nat.le_of_ble_eq_true rfl) ⟨_, rfl, rfl⟩ (fun _ => wX6_name hd) h
def gX1_isWhat (a0 : Nat) (x1 : Int32) (s0 : gH) : Option (Int32 × gH) :=
  gjn (fun (s2 : gH) =>
      if x1 < 6 then
        some (0, s2)
      else
        (ggI s2 a0 1 1).bind fun v4 =>
        if x1 < 6 + v4 then
          some (1, s2)
        else
          some (0, s2)
  ) fun j1 =>
  if x1 < 0 then
    j1 s0
  else
    (ggI s0 a0 1 0).bind fun v7 =>
    if x1 < v7 then
      some (1, s0)
    else
      j1 s0
def fX1_isWhat (a0 : Nat) (x1 : Int32) (s0 : gH) : Option (Int32 × gH) := gzr (gX1_isWhat a0 x1 s0)
set_option maxRecDepth 100000 in
set_option maxHeartbeats 4000000 in
theorem wX1_isWhat {X : Nat × (Nat → Int32)} {d : Nat} (hd : 0 ≤ d) {a0 : Nat} {x1 : Int32} {s0 : gH} : gGo X rvI mX1_isWhat d 0 [(0, vr a0), (1, vi x1)] [] s0 (gX1_isWhat a0 x1 s0) := by
  unfold gX1_isWhat
  refine go_iload_n 1 dX1_isWhat_0 rfl rfl ?_
  refine go_gjn (P := fun j1 => ∀ (s2 : gH), gGo X rvI mX1_isWhat d 12 [(0, vr a0), (1, vi x1)] [] s2 (j1 s2)) (fun s2 => ?_) (fun j1 hj1 => ?_)
  · refine go_iload_n 1 dX1_isWhat_12 rfl rfl ?_
    refine go_bipush (v := 6) dX1_isWhat_13 (by decide) ?_
    refine go_icmp_lt (tgt := 33) dX1_isWhat_15 (by decide) (fun h3 => ?_) (fun h3 => ?_)
    · refine go_iconst (v := 0) dX1_isWhat_33 (by decide) ?_
      exact go_ret rfl dX1_isWhat_34
    · refine go_iload_n 1 dX1_isWhat_18 rfl rfl ?_
      refine go_bipush (v := 6) dX1_isWhat_19 (by decide) ?_
      refine go_aload_n 0 dX1_isWhat_21 rfl rfl ?_
      refine go_getI gf_RX1_32 gcf_1 gft_1_1 dX1_isWhat_22 (fun v4 => ?_)
      refine go_iadd dX1_isWhat_25 ?_
      refine go_icmp_ge (tgt := 33) dX1_isWhat_26 (by decide) (fun h5 => ?_) (fun h5 => ?_)
      · refine go_iconst (v := 1) dX1_isWhat_29 (by decide) ?_
        refine go_goto (tgt := 34) dX1_isWhat_30 (by decide) ?_
        exact go_ret rfl dX1_isWhat_34
      · refine go_iconst (v := 0) dX1_isWhat_33 (by decide) ?_
        exact go_ret rfl dX1_isWhat_34
  · refine go_if_lt (tgt := 12) dX1_isWhat_1 (by decide) (fun h6 => ?_) (fun h6 => ?_)
    · exact go_sub [0, 1] (hj1 s0) rfl
    · refine go_iload_n 1 dX1_isWhat_4 rfl rfl ?_
      refine go_aload_n 0 dX1_isWhat_5 rfl rfl ?_
      refine go_getI gf_RX1_28 gcf_1 gft_1_0 dX1_isWhat_6 (fun v7 => ?_)
      refine go_icmp_lt (tgt := 29) dX1_isWhat_9 (by decide) (fun h8 => ?_) (fun h8 => ?_)
      · refine go_iconst (v := 1) dX1_isWhat_29 (by decide) ?_
        refine go_goto (tgt := 34) dX1_isWhat_30 (by decide) ?_
        exact go_ret rfl dX1_isWhat_34
      · exact go_sub [0, 1] (hj1 s0) rfl
set_option maxRecDepth 100000 in
set_option maxHeartbeats 4000000 in
theorem cX1_isWhat_c {d : Nat} (hd : 0 ≤ d) {a0 : Nat} {x1 : Int32} {s0 : gH} {r : Int32} {s1 : gH} (h : fX1_isWhat a0 x1 s0 = some (r, s1)) : gMt mX1_isWhat d [vr a0, vi x1] s0 (some (vi r)) s1 := by
  obtain ⟨h1, h2⟩ := gzr_some h
  exact gMt_of (rv := rvI) (by decide +kernel) (Nat.le_of_ble_eq_true rfl) ⟨_, rfl, gnarZ h2⟩ (fun _ => wX1_isWhat hd) h1
def gX1_find_L2  (a0 : Nat) (x1 : Int32) : Nat → Int32 → gH → Option (Int32 × gH)
  | 0, _, _ => none
  | n + 1, x2, s0 =>
    (ggR s0 a0 1 4).bind fun v2 =>
    (glen s0 v2).bind fun v3 =>
    if x2 < v3 then
      gb2 (gcv s0 a0 1 (fX1_isWhat a0 x2 s0)) fun r5 s6 =>
      if r5 = 0 then
        gX1_find_L2 a0 x1 n (x2 + 1) s6
      else
        (ggR s6 a0 1 4).bind fun v8 =>
        (gaI s6 v8 2 x2).bind fun v9 =>
        if v9 = x1 then
          some (x2, s6)
        else
          gX1_find_L2 a0 x1 n (x2 + 1) s6
    else
      some (-1, s0)
set_option maxRecDepth 100000 in
set_option maxHeartbeats 4000000 in
theorem wX1_find_L2 {X : Nat × (Nat → Int32)} {d : Nat} (hd : 1 ≤ d)  (a0 : Nat) (x1 : Int32) : ∀ (n : Nat) (x2 : Int32) (s0 : gH), gGo X rvI mX1_find d 2 [(0, vr a0), (1, vi x1), (2, vi x2)] [] s0 (gX1_find_L2 a0 x1 n x2 s0) := by
  intro n
  induction n with
  | zero => intros; exact go_none
  | succ n ih =>
    intro x2 s0
    show gGo _ _ _ _ _ _ _ _ (gX1_find_L2 a0 x1 (n + 1) x2 s0)
    unfold gX1_find_L2
    refine go_iload_n 2 dX1_find_2 rfl rfl ?_
    refine go_aload_n 0 dX1_find_3 rfl rfl ?_
    refine go_getR gf_RX1_17 gcf_1 gft_1_4 dX1_find_4 (fun v2 => ?_)
    refine go_alen dX1_find_7 (fun v3 _ => ?_)
    refine go_icmp_ge (tgt := 37) dX1_find_8 (by decide) (fun h4 => ?_) (fun h4 => ?_)
    · refine go_aload_n 0 dX1_find_11 rfl rfl ?_
      refine go_iload_n 2 dX1_find_12 rfl rfl ?_
      refine go_callV_I (as := [vi x2]) gk_RX1_44 gmf_X1_isWhat (by decide) rfl (by omega) rfl rfl (Nat.le_of_ble_eq_true rfl) dX1_find_13 (fun _ _ h => cX1_isWhat_c (by omega) h) (fun r5 s6 _ => ?_)
      refine go_if_eq (tgt := 31) dX1_find_16 (by decide) (fun h7 => ?_) (fun h7 => ?_)
      · refine go_iinc (v := 1) (L' := [(2, vi (x2 + 1)), (0, vr a0), (1, vi x1)]) 2 dX1_find_31 rfl (by decide) (by decide) rfl ?_
        refine go_goto (tgt := 2) dX1_find_34 (by decide) ?_
        exact go_sub [1, 2, 0] (ih (x2 + 1) s6) rfl
      · refine go_aload_n 0 dX1_find_19 rfl rfl ?_
        refine go_getR gf_RX1_17 gcf_1 gft_1_4 dX1_find_20 (fun v8 => ?_)
        refine go_iload_n 2 dX1_find_23 rfl rfl ?_
        refine go_iaload dX1_find_24 (fun v9 _ => ?_)
        refine go_iload_n 1 dX1_find_25 rfl rfl ?_
        refine go_icmp_ne (tgt := 31) dX1_find_26 (by decide) (fun h10 => ?_) (fun h10 => ?_)
        · refine go_iload_n 2 dX1_find_29 rfl rfl ?_
          exact go_ret rfl dX1_find_30
        · refine go_iinc (v := 1) (L' := [(2, vi (x2 + 1)), (0, vr a0), (1, vi x1)]) 2 dX1_find_31 rfl (by decide) (by decide) rfl ?_
          refine go_goto (tgt := 2) dX1_find_34 (by decide) ?_
          exact go_sub [1, 2, 0] (ih (x2 + 1) s6) rfl
    · refine go_iconst (v := -1) dX1_find_37 (by decide) ?_
      exact go_ret rfl dX1_find_38
def fX1_find (a0 : Nat) (x1 : Int32) (s0 : gH) : Option (Int32 × gH) :=
  gX1_find_L2
    a0 x1 20000 0 s0
set_option maxRecDepth 100000 in
set_option maxHeartbeats 4000000 in
theorem wX1_find {X : Nat × (Nat → Int32)} {d : Nat} (hd : 1 ≤ d) {a0 : Nat} {x1 : Int32} {s0 : gH} : gGo X rvI mX1_find d 0 [(0, vr a0), (1, vi x1)] [] s0 (fX1_find a0 x1 s0) := by
  unfold fX1_find
  refine go_iconst (v := 0) dX1_find_0 (by decide) ?_
  refine go_istore_n (L' := [(2, vi 0), (0, vr a0), (1, vi x1)]) dX1_find_1 rfl (by decide) rfl ?_
  refine go_sub [1, 2, 0] (wX1_find_L2 hd a0 x1 20000 0 s0) rfl
set_option maxRecDepth 100000 in
set_option maxHeartbeats 4000000 in
theorem cX1_find_c {d : Nat} (hd : 1 ≤ d) {a0 : Nat} {x1 : Int32} {s0 : gH} {r : Int32} {s1 : gH} (h : fX1_find a0 x1 s0 = some (r, s1)) : gMt mX1_find d [vr a0, vi x1] s0 (some (vi r)) s1 :=
  gMt_of (rv := rvI) (by decide +kernel) (Nat.le_of_ble_eq_true rfl) ⟨_, rfl, rfl⟩ (fun _ => wX1_find hd) h
def fX6_newName (a0 : Nat) (s0 : gH) : Option (Int32 × gH) :=
  (ggI s0 a0 6 5).bind fun v1 =>
  gb2 (gcv s0 a0 6 (fX6_name a0 s0)) fun r2 s3 =>
  (ggR s3 a0 6 7).bind fun v4 =>
  gb2 (gcv s3 v4 1 (fX1_find v4 r2 s3)) fun r5 s6 =>
  if r5 = -1 then
    some (r2, s6)
  else
    gb2 (gcv s6 a0 6 (fX6_refuse a0 3 v1 s6)) fun r8 s9 =>
    some (r2, s9)
set_option maxRecDepth 100000 in
set_option maxHeartbeats 4000000 in
theorem wX6_newName {X : Nat × (Nat → Int32)} {d : Nat} (hd : 7 ≤ d) {a0 : Nat} {s0 : gH} : gGo X rvI mX6_newName d 0 [(0, vr a0)] [] s0 (fX6_newName a0 s0) := by
  unfold fX6_newName
  refine go_aload_n 0 dX6_newName_0 rfl rfl ?_
  refine go_getI gf_RX6_80 gcf_6 gft_6_5 dX6_newName_1 (fun v1 => ?_)
  refine go_istore_n (L' := [(1, vi v1), (0, vr a0)]) dX6_newName_4 rfl (by decide) rfl ?_
  refine go_aload_n 1 dX6_newName_5 rfl rfl ?_
  refine go_callV_I (as := []) gk_RX6_241 gmf_X6_name (by decide) rfl (by omega) rfl rfl (Nat.le_of_ble_eq_true rfl) dX6_newName_6 (fun _ _ h => cX6_name_c (by omega) h) (fun r2 s3 _ => ?_)
  refine go_istore_n (L' := [(2, vi r2), (1, vi v1), (0, vr a0)]) dX6_newName_9 rfl (by decide) rfl ?_
  refine go_aload_n 2 dX6_newName_10 rfl rfl ?_
  refine go_getR gf_RX6_45 gcf_6 gft_6_7 dX6_newName_11 (fun v4 => ?_)
  refine go_iload_n 0 dX6_newName_14 rfl rfl ?_
  refine go_callV_I (as := [vi r2]) gk_RX6_244 gmf_X1_find (by decide) rfl (by omega) rfl rfl (Nat.le_of_ble_eq_true rfl) dX6_newName_15 (fun _ _ h => cX1_find_c (by omega) h) (fun r5 s6 _ => ?_)
  refine go_iconst (v := -1) dX6_newName_18 (by decide) ?_
  refine go_icmp_eq (tgt := 28) dX6_newName_19 (by decide) (fun h7 => ?_) (fun h7 => ?_)
  · refine go_iload_n 0 dX6_newName_28 rfl rfl ?_
    exact go_ret rfl dX6_newName_29
  · refine go_aload_n 2 dX6_newName_22 rfl rfl ?_
    refine go_iconst (v := 3) dX6_newName_23 (by decide) ?_
    refine go_iload_n 1 dX6_newName_24 rfl rfl ?_
    refine go_callV_v (as := [vi 3, vi v1]) gk_RX6_83 gmf_X6_refuse (by decide) rfl (by omega) rfl rfl (Nat.le_of_ble_eq_true rfl) dX6_newName_25 (fun _ _ h => cX6_refuse_c (by omega) h) (fun r8 s9 _ => ?_)
    refine go_iload_n 0 dX6_newName_28 rfl rfl ?_
    exact go_ret rfl dX6_newName_29
set_option maxRecDepth 100000 in
set_option maxHeartbeats 4000000 in
theorem cX6_newName_c {d : Nat} (hd : 7 ≤ d) {a0 : Nat} {s0 : gH} {r : Int32} {s1 : gH} (h : fX6_newName a0 s0 = some (r, s1)) : gMt mX6_newName d [vr a0] s0 (some (vi r)) s1 :=
  gMt_of (rv := rvI) (by decide +kernel) (Nat.le_of_ble_eq_true rfl) ⟨_, rfl, rfl⟩ (fun _ => wX6_newName hd) h
def fX1_openRule (a0 : Nat) (s0 : gH) : Option (Nat × gH) :=
  (ggR s0 a0 1 3).bind fun v1 =>
  (ggI s0 a0 1 0).bind fun v2 =>
  (gaR s0 v1 7 (gmin v2 5)).bind fun v3 =>
  some (v3, s0)
set_option maxRecDepth 100000 in
set_option maxHeartbeats 4000000 in
theorem wX1_openRule {X : Nat × (Nat → Int32)} {d : Nat} (hd : 1 ≤ d) {a0 : Nat} {s0 : gH} : gGo X rvR mX1_openRule d 0 [(0, vr a0)] [] s0 (fX1_openRule a0 s0) := by
  unfold fX1_openRule
  refine go_aload_n 0 dX1_openRule_0 rfl rfl ?_
  refine go_getR gf_RX1_11 gcf_1 gft_1_3 dX1_openRule_1 (fun v1 => ?_)
  refine go_aload_n 0 dX1_openRule_4 rfl rfl ?_
  refine go_getI gf_RX1_28 gcf_1 gft_1_0 dX1_openRule_5 (fun v2 => ?_)
  refine go_iconst (v := 5) dX1_openRule_8 (by decide) ?_
  refine go_mmin gk_RX1_38.1 gmm_min2 gmm_3 gmm_min4 (Nat.le_of_ble_eq_true rfl) dX1_openRule_9 ?_
  refine go_aaload (t := 7) (by decide) (by decide) dX1_openRule_12 (fun v3 _ => ?_)
  exact go_ret rfl dX1_openRule_13
set_option maxRecDepth 100000 in
set_option maxHeartbeats 4000000 in
theorem cX1_openRule_c {d : Nat} (hd : 1 ≤ d) {a0 : Nat} {s0 : gH} {r : Nat} {s1 : gH} (h : fX1_openRule a0 s0 = some (r, s1)) : gMt mX1_openRule d [vr a0] s0 (some (vr r)) s1 :=
  gMt_of (rv := rvR) (by decide +kernel) (Nat.le_of_ble_eq_true rfl) ⟨_, rfl, (Or.inl ⟨_, rfl⟩)⟩ (fun _ => wX1_openRule hd) h
def fX8_clearParts (a0 : Nat) (s0 : gH) : Option (Unit × gH) :=
  (spI s0 a0 8 8 0).bind fun s1 =>
  (spI s1 a0 8 9 0).bind fun s2 =>
  (spI s2 a0 8 10 0).bind fun s3 =>
  (spI s3 a0 8 11 0).bind fun s4 =>
  (spI s4 a0 8 12 0).bind fun s5 =>
  (ggR s5 a0 8 13).bind fun v6 =>
  gb2 (gcv s5 v6 7 (fX7_clear v6 s5)) fun r7 s8 =>
  (ggR s8 a0 8 14).bind fun v9 =>
  gb2 (gcv s8 v9 7 (fX7_clear v9 s8)) fun r10 s11 =>
  (spI s11 a0 8 6 (-1)).bind fun s12 =>
  (spI s12 a0 8 7 (-1)).bind fun s13 =>
  some ((), s13)
set_option maxRecDepth 100000 in
set_option maxHeartbeats 4000000 in
theorem wX8_clearParts {X : Nat × (Nat → Int32)} {d : Nat} (hd : 1 ≤ d) {a0 : Nat} {s0 : gH} : gGo X rvU mX8_clearParts d 0 [(0, vr a0)] [] s0 (fX8_clearParts a0 s0) := by
  unfold fX8_clearParts
  refine go_aload_n 0 dX8_clearParts_0 rfl rfl ?_
  refine go_iconst (v := 0) dX8_clearParts_1 (by decide) ?_
  refine go_putI gf_RX8_23 gcf_8 gpl_8_8 gft_8_8 dX8_clearParts_2 (fun s1 _ => ?_)
  refine go_aload_n 0 dX8_clearParts_5 rfl rfl ?_
  refine go_iconst (v := 0) dX8_clearParts_6 (by decide) ?_
  refine go_putI gf_RX8_27 gcf_8 gpl_8_9 gft_8_9 dX8_clearParts_7 (fun s2 _ => ?_)
  refine go_aload_n 0 dX8_clearParts_10 rfl rfl ?_
  refine go_iconst (v := 0) dX8_clearParts_11 (by decide) ?_
  refine go_putI gf_RX8_30 gcf_8 gpl_8_10 gft_8_10 dX8_clearParts_12 (fun s3 _ => ?_)
  refine go_aload_n 0 dX8_clearParts_15 rfl rfl ?_
  refine go_iconst (v := 0) dX8_clearParts_16 (by decide) ?_
  refine go_putI gf_RX8_33 gcf_8 gpl_8_11 gft_8_11 dX8_clearParts_17 (fun s4 _ => ?_)
  refine go_aload_n 0 dX8_clearParts_20 rfl rfl ?_
  refine go_iconst (v := 0) dX8_clearParts_21 (by decide) ?_
  refine go_putI gf_RX8_36 gcf_8 gpl_8_12 gft_8_12 dX8_clearParts_22 (fun s5 _ => ?_)
  refine go_aload_n 0 dX8_clearParts_25 rfl rfl ?_
  refine go_getR gf_RX8_14 gcf_8 gft_8_13 dX8_clearParts_26 (fun v6 => ?_)
  refine go_callV_v (as := []) gk_RX8_39 gmf_X7_clear (by decide) rfl (by omega) rfl rfl (Nat.le_of_ble_eq_true rfl) dX8_clearParts_29 (fun _ _ h => cX7_clear_c (by omega) h) (fun r7 s8 _ => ?_)
  refine go_aload_n 0 dX8_clearParts_32 rfl rfl ?_
  refine go_getR gf_RX8_20 gcf_8 gft_8_14 dX8_clearParts_33 (fun v9 => ?_)
  refine go_callV_v (as := []) gk_RX8_39 gmf_X7_clear (by decide) rfl (by omega) rfl rfl (Nat.le_of_ble_eq_true rfl) dX8_clearParts_36 (fun _ _ h => cX7_clear_c (by omega) h) (fun r10 s11 _ => ?_)
  refine go_aload_n 0 dX8_clearParts_39 rfl rfl ?_
  refine go_iconst (v := -1) dX8_clearParts_40 (by decide) ?_
  refine go_putI gf_RX8_42 gcf_8 gpl_8_6 gft_8_6 dX8_clearParts_41 (fun s12 _ => ?_)
  refine go_aload_n 0 dX8_clearParts_44 rfl rfl ?_
  refine go_iconst (v := -1) dX8_clearParts_45 (by decide) ?_
  refine go_putI gf_RX8_45 gcf_8 gpl_8_7 gft_8_7 dX8_clearParts_46 (fun s13 _ => ?_)
  exact go_retv rfl dX8_clearParts_49
set_option maxRecDepth 100000 in
set_option maxHeartbeats 4000000 in
theorem cX8_clearParts_c {d : Nat} (hd : 1 ≤ d) {a0 : Nat} {s0 : gH} {r : Unit} {s1 : gH} (h : fX8_clearParts a0 s0 = some (r, s1)) : gMt mX8_clearParts d [vr a0] s0 none s1 :=
  gMt_of (rv := rvU) (by decide +kernel) (Nat.le_of_ble_eq_true rfl) rfl (fun _ => wX8_clearParts hd) h
def fX6_pass (a0 : Nat) (x1 : Int32) (s0 : gH) : Option (Unit × gH) :=
  if x1 = 0 then
    (ggI s0 a0 6 5).bind fun v2 =>
    gb2 (gcv s0 a0 6 (fX6_refuse a0 1 v2 s0)) fun r3 s4 =>
    some ((), s4)
  else
    gb2 (gcv s0 a0 6 (fX6_advance a0 s0)) fun r5 s6 =>
    some ((), s6)
set_option maxRecDepth 100000 in
set_option maxHeartbeats 4000000 in
theorem wX6_pass {X : Nat × (Nat → Int32)} {d : Nat} (hd : 2 ≤ d) {a0 : Nat} {x1 : Int32} {s0 : gH} : gGo X rvU mX6_pass d 0 [(0, vr a0), (1, vi x1)] [] s0 (fX6_pass a0 x1 s0) := by
  unfold fX6_pass
  refine go_iload_n 1 dX6_pass_0 rfl rfl ?_
  refine go_if_eq (tgt := 11) dX6_pass_1 (by decide) (fun h1 => ?_) (fun h1 => ?_)
  · refine go_aload_n 0 dX6_pass_11 rfl rfl ?_
    refine go_iconst (v := 1) dX6_pass_12 (by decide) ?_
    refine go_aload_n 0 dX6_pass_13 rfl rfl ?_
    refine go_getI gf_RX6_80 gcf_6 gft_6_5 dX6_pass_14 (fun v2 => ?_)
    refine go_callV_v (as := [vi 1, vi v2]) gk_RX6_83 gmf_X6_refuse (by decide) rfl (by omega) rfl rfl (Nat.le_of_ble_eq_true rfl) dX6_pass_17 (fun _ _ h => cX6_refuse_c (by omega) h) (fun r3 s4 _ => ?_)
    exact go_retv rfl dX6_pass_20
  · refine go_aload_n 0 dX6_pass_4 rfl rfl ?_
    refine go_callV_v (as := []) gk_RX6_63 gmf_X6_advance (by decide) rfl (by omega) rfl rfl (Nat.le_of_ble_eq_true rfl) dX6_pass_5 (fun _ _ h => cX6_advance_c (by omega) h) (fun r5 s6 _ => ?_)
    refine go_goto (tgt := 20) dX6_pass_8 (by decide) ?_
    exact go_retv rfl dX6_pass_20
set_option maxRecDepth 100000 in
set_option maxHeartbeats 4000000 in
theorem cX6_pass_c {d : Nat} (hd : 2 ≤ d) {a0 : Nat} {x1 : Int32} {s0 : gH} {r : Unit} {s1 : gH} (h : fX6_pass a0 x1 s0 = some (r, s1)) : gMt mX6_pass d [vr a0, vi x1] s0 none s1 :=
  gMt_of (rv := rvU) (by decide +kernel) (Nat.le_of_ble_eq_true rfl) rfl (fun _ => wX6_pass hd) h
def gX6_number_L53 (k93 : Int32 → gH → Option (Int32 × gH)) (a0 : Nat) (x1 : Int32) (x2 : Int32) : Nat → Int32 → Int32 → gH → Option (Int32 × gH)
  | 0, _, _, _ => none
  | n + 1, x3, x4, s0 =>
    (ggI s0 a0 6 6).bind fun v11 =>
    if x4 < v11 then
      (ggI s0 a0 6 3).bind fun v13 =>
      if x4 < v13 then
        (ggR s0 a0 6 2).bind fun v15 =>
        (gaI s0 v15 0 x4).bind fun v16 =>
        glet (((x3 * 10) + v16) - 48) fun y17 =>
        gX6_number_L53 k93 a0 x1 x2 n y17 (x4 + 1) s0
      else
        k93 x3 s0
    else
      k93 x3 s0
set_option maxRecDepth 100000 in
set_option maxHeartbeats 4000000 in
theorem wX6_number_L53 {X : Nat × (Nat → Int32)} {d : Nat} (hd : 2 ≤ d) (k93 : Int32 → gH → Option (Int32 × gH)) (a0 : Nat) (x1 : Int32) (x2 : Int32) (hk93 : ∀ (x3 : Int32) (s : gH), gGo X rvI mX6_number d 93 [(0, vr a0), (1, vi x1), (2, vi x2), (3, vi x3)] [] s (k93 x3 s)) : ∀ (n : Nat) (x3 : Int32) (x4 : Int32) (s0 : gH), gGo X rvI mX6_number d 53 [(0, vr a0), (1, vi x1), (2, vi x2), (3, vi x3), (4, vi x4)] [] s0 (gX6_number_L53 k93 a0 x1 x2 n x3 x4 s0) := by
  intro n
  induction n with
  | zero => intros; exact go_none
  | succ n ih =>
    intro x3 x4 s0
    show gGo _ _ _ _ _ _ _ _ (gX6_number_L53 k93 a0 x1 x2 (n + 1) x3 x4 s0)
    unfold gX6_number_L53
    refine go_iload 4 dX6_number_53 rfl ?_
    refine go_aload_n 0 dX6_number_55 rfl rfl ?_
    refine go_getI gf_RX6_60 gcf_6 gft_6_6 dX6_number_56 (fun v11 => ?_)
    refine go_icmp_ge (tgt := 93) dX6_number_59 (by decide) (fun h12 => ?_) (fun h12 => ?_)
    · refine go_iload 4 dX6_number_62 rfl ?_
      refine go_aload_n 0 dX6_number_64 rfl rfl ?_
      refine go_getI gf_RX6_42 gcf_6 gft_6_3 dX6_number_65 (fun v13 => ?_)
      refine go_icmp_ge (tgt := 93) dX6_number_68 (by decide) (fun h14 => ?_) (fun h14 => ?_)
      · refine go_iload_n 3 dX6_number_71 rfl rfl ?_
        refine go_bipush (v := 10) dX6_number_72 (by decide) ?_
        refine go_imul dX6_number_74 ?_
        refine go_aload_n 0 dX6_number_75 rfl rfl ?_
        refine go_getR gf_RX6_15 gcf_6 gft_6_2 dX6_number_76 (fun v15 => ?_)
        refine go_iload 4 dX6_number_79 rfl ?_
        refine go_baload dX6_number_81 (fun v16 _ => ?_)
        refine go_iadd dX6_number_82 ?_
        refine go_bipush (v := 48) dX6_number_83 (by decide) ?_
        refine go_isub dX6_number_85 ?_
        refine go_istore_n_l (L' := fun y17 => [(3, vi y17), (0, vr a0), (1, vi x1), (2, vi x2), (4, vi x4)]) dX6_number_86 rfl (by decide) (fun _ => rfl) (fun y17 => ?_)
        refine go_iinc (v := 1) (L' := [(4, vi (x4 + 1)), (3, vi y17), (0, vr a0), (1, vi x1), (2, vi x2)]) 4 dX6_number_87 rfl (by decide) (by decide) rfl ?_
        refine go_goto (tgt := 53) dX6_number_90 (by decide) ?_
        exact go_sub [2, 3, 4, 1, 0] (ih y17 (x4 + 1) s0) rfl
      · exact go_sub [0, 1, 2, 3] (hk93 x3 s0) rfl
    · exact go_sub [0, 1, 2, 3] (hk93 x3 s0) rfl
def fX6_number (a0 : Nat) (x1 : Int32) (x2 : Int32) (s0 : gH) : Option (Int32 × gH) :=
  (ggI s0 a0 6 4).bind fun v1 =>
  if v1 = 2 then
    (ggI s0 a0 6 6).bind fun v3 =>
    (ggI s0 a0 6 5).bind fun v4 =>
    if 4 < v3 - v4 then
      (ggI s0 a0 6 5).bind fun v6 =>
      gb2 (gcv s0 a0 6 (fX6_refuse a0 1 (v6 + 4) s0)) fun r7 s8 =>
      some (0, s8)
    else
      (ggI s0 a0 6 5).bind fun v9 =>
      gX6_number_L53
        (fun y18 s19 =>
          gjn (fun (s21 : gH) =>
              (ggI s21 a0 6 5).bind fun v22 =>
              gb2 (gcv s21 a0 6 (fX6_refuse a0 2 v22 s21)) fun r23 s24 =>
              some (0, s24)
          ) fun j20 =>
          if y18 < x1 then
            j20 s19
          else
            if x2 < y18 then
              j20 s19
            else
              gb2 (gcv s19 a0 6 (fX6_advance a0 s19)) fun r27 s28 =>
              some (y18, s28))
        a0 x1 x2 20000 0 v9 s0
  else
    (ggI s0 a0 6 5).bind fun v29 =>
    gb2 (gcv s0 a0 6 (fX6_refuse a0 1 v29 s0)) fun r30 s31 =>
    some (0, s31)
set_option maxRecDepth 100000 in
set_option maxHeartbeats 4000000 in
theorem wX6_number {X : Nat × (Nat → Int32)} {d : Nat} (hd : 2 ≤ d) {a0 : Nat} {x1 : Int32} {x2 : Int32} {s0 : gH} : gGo X rvI mX6_number d 0 [(0, vr a0), (1, vi x1), (2, vi x2)] [] s0 (fX6_number a0 x1 x2 s0) := by
  unfold fX6_number
  refine go_aload_n 0 dX6_number_0 rfl rfl ?_
  refine go_getI gf_RX6_57 gcf_6 gft_6_4 dX6_number_1 (fun v1 => ?_)
  refine go_iconst (v := 2) dX6_number_4 (by decide) ?_
  refine go_icmp_eq (tgt := 19) dX6_number_5 (by decide) (fun h2 => ?_) (fun h2 => ?_)
  · refine go_aload_n 0 dX6_number_19 rfl rfl ?_
    refine go_getI gf_RX6_60 gcf_6 gft_6_6 dX6_number_20 (fun v3 => ?_)
    refine go_aload_n 0 dX6_number_23 rfl rfl ?_
    refine go_getI gf_RX6_80 gcf_6 gft_6_5 dX6_number_24 (fun v4 => ?_)
    refine go_isub dX6_number_27 ?_
    refine go_iconst (v := 4) dX6_number_28 (by decide) ?_
    refine go_icmp_le (tgt := 45) dX6_number_29 (by decide) (fun h5 => ?_) (fun h5 => ?_)
    · refine go_aload_n 0 dX6_number_32 rfl rfl ?_
      refine go_iconst (v := 1) dX6_number_33 (by decide) ?_
      refine go_aload_n 0 dX6_number_34 rfl rfl ?_
      refine go_getI gf_RX6_80 gcf_6 gft_6_5 dX6_number_35 (fun v6 => ?_)
      refine go_iconst (v := 4) dX6_number_38 (by decide) ?_
      refine go_iadd dX6_number_39 ?_
      refine go_callV_v (as := [vi 1, vi (v6 + 4)]) gk_RX6_83 gmf_X6_refuse (by decide) rfl (by omega) rfl rfl (Nat.le_of_ble_eq_true rfl) dX6_number_40 (fun _ _ h => cX6_refuse_c (by omega) h) (fun r7 s8 _ => ?_)
      refine go_iconst (v := 0) dX6_number_43 (by decide) ?_
      exact go_ret rfl dX6_number_44
    · refine go_iconst (v := 0) dX6_number_45 (by decide) ?_
      refine go_istore_n (L' := [(3, vi 0), (0, vr a0), (1, vi x1), (2, vi x2)]) dX6_number_46 rfl (by decide) rfl ?_
      refine go_aload_n 1 dX6_number_47 rfl rfl ?_
      refine go_getI gf_RX6_80 gcf_6 gft_6_5 dX6_number_48 (fun v9 => ?_)
      refine go_istore (L' := [(4, vi v9), (3, vi 0), (0, vr a0), (1, vi x1), (2, vi x2)]) dX6_number_51 (by decide) rfl ?_
      refine go_sub [2, 3, 4, 1, 0] (wX6_number_L53 hd _ a0 x1 x2 ?_ 20000 0 v9 s0) rfl
      intro y18 s19
      refine go_iload_n 3 dX6_number_93 rfl rfl ?_
      refine go_iload_n 1 dX6_number_94 rfl rfl ?_
      refine go_gjn (P := fun j20 => ∀ (s21 : gH), gGo X rvI mX6_number d 103 [(0, vr a0)] [] s21 (j20 s21)) (fun s21 => ?_) (fun j20 hj20 => ?_)
      · refine go_aload_n 0 dX6_number_103 rfl rfl ?_
        refine go_iconst (v := 2) dX6_number_104 (by decide) ?_
        refine go_aload_n 0 dX6_number_105 rfl rfl ?_
        refine go_getI gf_RX6_80 gcf_6 gft_6_5 dX6_number_106 (fun v22 => ?_)
        refine go_callV_v (as := [vi 2, vi v22]) gk_RX6_83 gmf_X6_refuse (by decide) rfl (by omega) rfl rfl (Nat.le_of_ble_eq_true rfl) dX6_number_109 (fun _ _ h => cX6_refuse_c (by omega) h) (fun r23 s24 _ => ?_)
        refine go_iconst (v := 0) dX6_number_112 (by decide) ?_
        exact go_ret rfl dX6_number_113
      · refine go_icmp_lt (tgt := 103) dX6_number_95 (by decide) (fun h25 => ?_) (fun h25 => ?_)
        · exact go_sub [0] (hj20 s19) rfl
        · refine go_iload_n 3 dX6_number_98 rfl rfl ?_
          refine go_iload_n 2 dX6_number_99 rfl rfl ?_
          refine go_icmp_le (tgt := 114) dX6_number_100 (by decide) (fun h26 => ?_) (fun h26 => ?_)
          · exact go_sub [0] (hj20 s19) rfl
          · refine go_aload_n 0 dX6_number_114 rfl rfl ?_
            refine go_callV_v (as := []) gk_RX6_63 gmf_X6_advance (by decide) rfl (by omega) rfl rfl (Nat.le_of_ble_eq_true rfl) dX6_number_115 (fun _ _ h => cX6_advance_c (by omega) h) (fun r27 s28 _ => ?_)
            refine go_iload_n 3 dX6_number_118 rfl rfl ?_
            exact go_ret rfl dX6_number_119
  · refine go_aload_n 0 dX6_number_8 rfl rfl ?_
    refine go_iconst (v := 1) dX6_number_9 (by decide) ?_
    refine go_aload_n 0 dX6_number_10 rfl rfl ?_
    refine go_getI gf_RX6_80 gcf_6 gft_6_5 dX6_number_11 (fun v29 => ?_)
    refine go_callV_v (as := [vi 1, vi v29]) gk_RX6_83 gmf_X6_refuse (by decide) rfl (by omega) rfl rfl (Nat.le_of_ble_eq_true rfl) dX6_number_14 (fun _ _ h => cX6_refuse_c (by omega) h) (fun r30 s31 _ => ?_)
    refine go_iconst (v := 0) dX6_number_17 (by decide) ?_
    exact go_ret rfl dX6_number_18
set_option maxRecDepth 100000 in
set_option maxHeartbeats 4000000 in
theorem cX6_number_c {d : Nat} (hd : 2 ≤ d) {a0 : Nat} {x1 : Int32} {x2 : Int32} {s0 : gH} {r : Int32} {s1 : gH} (h : fX6_number a0 x1 x2 s0 = some (r, s1)) : gMt mX6_number d [vr a0, vi x1, vi x2] s0 (some (vi r)) s1 :=
  gMt_of (rv := rvI) (by decide +kernel) (Nat.le_of_ble_eq_true rfl) ⟨_, rfl, rfl⟩ (fun _ => wX6_number hd) h
def gX6_isSign (a0 : Nat) (x1 : Int32) (s0 : gH) : Option (Int32 × gH) :=
  (ggI s0 a0 6 4).bind fun v1 =>
  if v1 = 3 then
    (ggI s0 a0 6 5).bind fun v3 =>
    (ggI s0 a0 6 3).bind fun v4 =>
    if v3 < v4 then
      (ggR s0 a0 6 2).bind fun v6 =>
      (ggI s0 a0 6 5).bind fun v7 =>
      (gaI s0 v6 0 v7).bind fun v8 =>
      if v8 = x1 then
        some (1, s0)
      else
        some (0, s0)
    else
      some (0, s0)
  else
    some (0, s0)
def fX6_isSign (a0 : Nat) (x1 : Int32) (s0 : gH) : Option (Int32 × gH) := gzr (gX6_isSign a0 x1 s0)
set_option maxRecDepth 100000 in
set_option maxHeartbeats 4000000 in
theorem wX6_isSign {X : Nat × (Nat → Int32)} {d : Nat} (hd : 0 ≤ d) {a0 : Nat} {x1 : Int32} {s0 : gH} : gGo X rvI mX6_isSign d 0 [(0, vr a0), (1, vi x1)] [] s0 (gX6_isSign a0 x1 s0) := by
  unfold gX6_isSign
  refine go_aload_n 0 dX6_isSign_0 rfl rfl ?_
  refine go_getI gf_RX6_57 gcf_6 gft_6_4 dX6_isSign_1 (fun v1 => ?_)
  refine go_iconst (v := 3) dX6_isSign_4 (by decide) ?_
  refine go_icmp_ne (tgt := 36) dX6_isSign_5 (by decide) (fun h2 => ?_) (fun h2 => ?_)
  · refine go_aload_n 0 dX6_isSign_8 rfl rfl ?_
    refine go_getI gf_RX6_80 gcf_6 gft_6_5 dX6_isSign_9 (fun v3 => ?_)
    refine go_aload_n 0 dX6_isSign_12 rfl rfl ?_
    refine go_getI gf_RX6_42 gcf_6 gft_6_3 dX6_isSign_13 (fun v4 => ?_)
    refine go_icmp_ge (tgt := 36) dX6_isSign_16 (by decide) (fun h5 => ?_) (fun h5 => ?_)
    · refine go_aload_n 0 dX6_isSign_19 rfl rfl ?_
      refine go_getR gf_RX6_15 gcf_6 gft_6_2 dX6_isSign_20 (fun v6 => ?_)
      refine go_aload_n 0 dX6_isSign_23 rfl rfl ?_
      refine go_getI gf_RX6_80 gcf_6 gft_6_5 dX6_isSign_24 (fun v7 => ?_)
      refine go_baload dX6_isSign_27 (fun v8 _ => ?_)
      refine go_iload_n 1 dX6_isSign_28 rfl rfl ?_
      refine go_icmp_ne (tgt := 36) dX6_isSign_29 (by decide) (fun h9 => ?_) (fun h9 => ?_)
      · refine go_iconst (v := 1) dX6_isSign_32 (by decide) ?_
        refine go_goto (tgt := 37) dX6_isSign_33 (by decide) ?_
        exact go_ret rfl dX6_isSign_37
      · refine go_iconst (v := 0) dX6_isSign_36 (by decide) ?_
        exact go_ret rfl dX6_isSign_37
    · refine go_iconst (v := 0) dX6_isSign_36 (by decide) ?_
      exact go_ret rfl dX6_isSign_37
  · refine go_iconst (v := 0) dX6_isSign_36 (by decide) ?_
    exact go_ret rfl dX6_isSign_37
set_option maxRecDepth 100000 in
set_option maxHeartbeats 4000000 in
theorem cX6_isSign_c {d : Nat} (hd : 0 ≤ d) {a0 : Nat} {x1 : Int32} {s0 : gH} {r : Int32} {s1 : gH} (h : fX6_isSign a0 x1 s0 = some (r, s1)) : gMt mX6_isSign d [vr a0, vi x1] s0 (some (vi r)) s1 := by
  obtain ⟨h1, h2⟩ := gzr_some h
  exact gMt_of (rv := rvI) (by decide +kernel) (Nat.le_of_ble_eq_true rfl) ⟨_, rfl, gnarZ h2⟩ (fun _ => wX6_isSign hd) h1
def fX0_monthLengthOf (x0 : Int32) (x1 : Int32) (s0 : gH) : Option (Int32 × gH) :=
  gb2 (fX0_daysAhead x0 (x1 + 1) s0) fun r1 s2 =>
  gb2 (fX0_daysAhead x0 x1 s2) fun r3 s4 =>
  some (r1 - r3, s4)
set_option maxRecDepth 100000 in
set_option maxHeartbeats 4000000 in
theorem wX0_monthLengthOf {X : Nat × (Nat → Int32)} {d : Nat} (hd : 1 ≤ d) {x0 : Int32} {x1 : Int32} {s0 : gH} : gGo X rvI mX0_monthLengthOf d 0 [(0, vi x0), (1, vi x1)] [] s0 (fX0_monthLengthOf x0 x1 s0) := by
  unfold fX0_monthLengthOf
  refine go_iload_n 0 dX0_monthLengthOf_0 rfl rfl ?_
  refine go_iload_n 1 dX0_monthLengthOf_1 rfl rfl ?_
  refine go_iconst (v := 1) dX0_monthLengthOf_2 (by decide) ?_
  refine go_iadd dX0_monthLengthOf_3 ?_
  refine go_callS_I (as := [vi x0, vi (x1 + 1)]) gk_RX0_19 gmf_X0_daysAhead (by omega) rfl rfl (Nat.le_of_ble_eq_true rfl) dX0_monthLengthOf_4 (fun _ _ h => cX0_daysAhead_c (by omega) h) (fun r1 s2 _ => ?_)
  refine go_iload_n 0 dX0_monthLengthOf_7 rfl rfl ?_
  refine go_iload_n 1 dX0_monthLengthOf_8 rfl rfl ?_
  refine go_callS_I (as := [vi x0, vi x1]) gk_RX0_19 gmf_X0_daysAhead (by omega) rfl rfl (Nat.le_of_ble_eq_true rfl) dX0_monthLengthOf_9 (fun _ _ h => cX0_daysAhead_c (by omega) h) (fun r3 s4 _ => ?_)
  refine go_isub dX0_monthLengthOf_12 ?_
  exact go_ret rfl dX0_monthLengthOf_13
set_option maxRecDepth 100000 in
set_option maxHeartbeats 4000000 in
theorem cX0_monthLengthOf_c {d : Nat} (hd : 1 ≤ d) {x0 : Int32} {x1 : Int32} {s0 : gH} {r : Int32} {s1 : gH} (h : fX0_monthLengthOf x0 x1 s0 = some (r, s1)) : gMt mX0_monthLengthOf d [vi x0, vi x1] s0 (some (vi r)) s1 :=
  gMt_of (rv := rvI) (by decide +kernel) (Nat.le_of_ble_eq_true rfl) ⟨_, rfl, rfl⟩ (fun _ => wX0_monthLengthOf hd) h
def fX6_dateText (a0 : Nat) (s0 : gH) : Option (Int32 × gH) :=
  gb2 (gcv s0 a0 6 (fX6_number a0 2000 2039 s0)) fun r1 s2 =>
  glet (r1 - 2000) fun y3 =>
  gb2 (gcv s2 a0 6 (fX6_isSign a0 45 s2)) fun r4 s5 =>
  gb2 (gcv s5 a0 6 (fX6_pass a0 r4 s5)) fun r6 s7 =>
  gb2 (gcv s7 a0 6 (fX6_number a0 1 12 s7)) fun r8 s9 =>
  gb2 (gcv s9 a0 6 (fX6_isSign a0 45 s9)) fun r10 s11 =>
  gb2 (gcv s11 a0 6 (fX6_pass a0 r10 s11)) fun r12 s13 =>
  (ggI s13 a0 6 0).bind fun v14 =>
  if v14 = 0 then
    gb2 (fX0_monthLengthOf y3 r8 s13) fun r16 s17 =>
    gb2 (gcv s17 a0 6 (fX6_number a0 1 r16 s17)) fun r18 s19 =>
    (ggI s19 a0 6 0).bind fun v20 =>
    if v20 = 0 then
      gb2 (fX0_firstOfMonth y3 r8 s19) fun r22 s23 =>
      some ((r22 + r18) - 1, s23)
    else
      some (0, s19)
  else
    some (0, s13)
set_option maxRecDepth 100000 in
set_option maxHeartbeats 4000000 in
theorem wX6_dateText {X : Nat × (Nat → Int32)} {d : Nat} (hd : 3 ≤ d) {a0 : Nat} {s0 : gH} : gGo X rvI mX6_dateText d 0 [(0, vr a0)] [] s0 (fX6_dateText a0 s0) := by
  unfold fX6_dateText
  refine go_aload_n 0 dX6_dateText_0 rfl rfl ?_
  refine go_sipush (v := 2000) dX6_dateText_1 (by decide) ?_
  refine go_sipush (v := 2039) dX6_dateText_4 (by decide) ?_
  refine go_callV_I (as := [vi 2000, vi 2039]) gk_RX6_113 gmf_X6_number (by decide) rfl (by omega) rfl rfl (Nat.le_of_ble_eq_true rfl) dX6_dateText_7 (fun _ _ h => cX6_number_c (by omega) h) (fun r1 s2 _ => ?_)
  refine go_sipush (v := 2000) dX6_dateText_10 (by decide) ?_
  refine go_isub dX6_dateText_13 ?_
  refine go_istore_n_l (L' := fun y3 => [(1, vi y3), (0, vr a0)]) dX6_dateText_14 rfl (by decide) (fun _ => rfl) (fun y3 => ?_)
  refine go_aload_n 1 dX6_dateText_15 rfl rfl ?_
  refine go_aload_n 1 dX6_dateText_16 rfl rfl ?_
  refine go_bipush (v := 45) dX6_dateText_17 (by decide) ?_
  refine go_callV_I (as := [vi 45]) gk_RX6_87 gmf_X6_isSign (by decide) rfl (by omega) rfl rfl (Nat.le_of_ble_eq_true rfl) dX6_dateText_19 (fun _ _ h => cX6_isSign_c (by omega) h) (fun r4 s5 _ => ?_)
  refine go_callV_v (as := [vi r4]) gk_RX6_91 gmf_X6_pass (by decide) rfl (by omega) rfl rfl (Nat.le_of_ble_eq_true rfl) dX6_dateText_22 (fun _ _ h => cX6_pass_c (by omega) h) (fun r6 s7 _ => ?_)
  refine go_aload_n 1 dX6_dateText_25 rfl rfl ?_
  refine go_iconst (v := 1) dX6_dateText_26 (by decide) ?_
  refine go_bipush (v := 12) dX6_dateText_27 (by decide) ?_
  refine go_callV_I (as := [vi 1, vi 12]) gk_RX6_113 gmf_X6_number (by decide) rfl (by omega) rfl rfl (Nat.le_of_ble_eq_true rfl) dX6_dateText_29 (fun _ _ h => cX6_number_c (by omega) h) (fun r8 s9 _ => ?_)
  refine go_istore_n (L' := [(2, vi r8), (1, vi y3), (0, vr a0)]) dX6_dateText_32 rfl (by decide) rfl ?_
  refine go_aload_n 2 dX6_dateText_33 rfl rfl ?_
  refine go_aload_n 2 dX6_dateText_34 rfl rfl ?_
  refine go_bipush (v := 45) dX6_dateText_35 (by decide) ?_
  refine go_callV_I (as := [vi 45]) gk_RX6_87 gmf_X6_isSign (by decide) rfl (by omega) rfl rfl (Nat.le_of_ble_eq_true rfl) dX6_dateText_37 (fun _ _ h => cX6_isSign_c (by omega) h) (fun r10 s11 _ => ?_)
  refine go_callV_v (as := [vi r10]) gk_RX6_91 gmf_X6_pass (by decide) rfl (by omega) rfl rfl (Nat.le_of_ble_eq_true rfl) dX6_dateText_40 (fun _ _ h => cX6_pass_c (by omega) h) (fun r12 s13 _ => ?_)
  refine go_aload_n 2 dX6_dateText_43 rfl rfl ?_
  refine go_getI gf_RX6_54 gcf_6 gft_6_0 dX6_dateText_44 (fun v14 => ?_)
  refine go_if_eq (tgt := 52) dX6_dateText_47 (by decide) (fun h15 => ?_) (fun h15 => ?_)
  · refine go_aload_n 2 dX6_dateText_52 rfl rfl ?_
    refine go_iconst (v := 1) dX6_dateText_53 (by decide) ?_
    refine go_iload_n 1 dX6_dateText_54 rfl rfl ?_
    refine go_iload_n 0 dX6_dateText_55 rfl rfl ?_
    refine go_callS_I (as := [vi y3, vi r8]) gk_RX6_233 gmf_X0_monthLengthOf (by omega) rfl rfl (Nat.le_of_ble_eq_true rfl) dX6_dateText_56 (fun _ _ h => cX0_monthLengthOf_c (by omega) h) (fun r16 s17 _ => ?_)
    refine go_callV_I (as := [vi 1, vi r16]) gk_RX6_113 gmf_X6_number (by decide) rfl (by omega) rfl rfl (Nat.le_of_ble_eq_true rfl) dX6_dateText_59 (fun _ _ h => cX6_number_c (by omega) h) (fun r18 s19 _ => ?_)
    refine go_istore_n (L' := [(3, vi r18), (2, vi r8), (1, vi y3), (0, vr a0)]) dX6_dateText_62 rfl (by decide) rfl ?_
    refine go_aload_n 3 dX6_dateText_63 rfl rfl ?_
    refine go_getI gf_RX6_54 gcf_6 gft_6_0 dX6_dateText_64 (fun v20 => ?_)
    refine go_if_eq (tgt := 74) dX6_dateText_67 (by decide) (fun h21 => ?_) (fun h21 => ?_)
    · refine go_iload_n 2 dX6_dateText_74 rfl rfl ?_
      refine go_iload_n 1 dX6_dateText_75 rfl rfl ?_
      refine go_callS_I (as := [vi y3, vi r8]) gk_RX6_238 gmf_X0_firstOfMonth (by omega) rfl rfl (Nat.le_of_ble_eq_true rfl) dX6_dateText_76 (fun _ _ h => cX0_firstOfMonth_c (by omega) h) (fun r22 s23 _ => ?_)
      refine go_iload_n 0 dX6_dateText_79 rfl rfl ?_
      refine go_iadd dX6_dateText_80 ?_
      refine go_iconst (v := 1) dX6_dateText_81 (by decide) ?_
      refine go_isub dX6_dateText_82 ?_
      exact go_ret rfl dX6_dateText_83
    · refine go_iconst (v := 0) dX6_dateText_70 (by decide) ?_
      refine go_goto (tgt := 83) dX6_dateText_71 (by decide) ?_
      exact go_ret rfl dX6_dateText_83
  · refine go_iconst (v := 0) dX6_dateText_50 (by decide) ?_
    exact go_ret rfl dX6_dateText_51
set_option maxRecDepth 100000 in
set_option maxHeartbeats 4000000 in
theorem cX6_dateText_c {d : Nat} (hd : 3 ≤ d) {a0 : Nat} {s0 : gH} {r : Int32} {s1 : gH} (h : fX6_dateText a0 s0 = some (r, s1)) : gMt mX6_dateText d [vr a0] s0 (some (vi r)) s1 :=
  gMt_of (rv := rvI) (by decide +kernel) (Nat.le_of_ble_eq_true rfl) ⟨_, rfl, rfl⟩ (fun _ => wX6_dateText hd) h
def fX8_beginAt (a0 : Nat) (x1 : Int32) (s0 : gH) : Option (Unit × gH) :=
  gb2 (fX0_yearOf x1 s0) fun r1 s2 =>
  (spI s2 a0 8 2 x1).bind fun s3 =>
  gb2 (fX0_monthOf x1 s3) fun r4 s5 =>
  (spI s5 a0 8 3 r4).bind fun s6 =>
  (ggI s6 a0 8 3).bind fun v7 =>
  gb2 (fX0_firstOfMonth r1 v7 s6) fun r8 s9 =>
  (spI s9 a0 8 4 ((x1 - r8) + 1)).bind fun s10 =>
  gb2 (fX0_weekdayOf x1 s10) fun r11 s12 =>
  (spI s12 a0 8 5 r11).bind fun s13 =>
  some ((), s13)
set_option maxRecDepth 100000 in
set_option maxHeartbeats 4000000 in
theorem wX8_beginAt {X : Nat × (Nat → Int32)} {d : Nat} (hd : 2 ≤ d) {a0 : Nat} {x1 : Int32} {s0 : gH} : gGo X rvU mX8_beginAt d 0 [(0, vr a0), (1, vi x1)] [] s0 (fX8_beginAt a0 x1 s0) := by
  unfold fX8_beginAt
  refine go_iload_n 1 dX8_beginAt_0 rfl rfl ?_
  refine go_callS_I (as := [vi x1]) gk_RX8_48 gmf_X0_yearOf (by omega) rfl rfl (Nat.le_of_ble_eq_true rfl) dX8_beginAt_1 (fun _ _ h => cX0_yearOf_c (by omega) h) (fun r1 s2 _ => ?_)
  refine go_istore_n (L' := [(2, vi r1), (0, vr a0), (1, vi x1)]) dX8_beginAt_4 rfl (by decide) rfl ?_
  refine go_aload_n 1 dX8_beginAt_5 rfl rfl ?_
  refine go_iload_n 2 dX8_beginAt_6 rfl rfl ?_
  refine go_putI gf_RX8_54 gcf_8 gpl_8_2 gft_8_2 dX8_beginAt_7 (fun s3 _ => ?_)
  refine go_aload_n 1 dX8_beginAt_10 rfl rfl ?_
  refine go_iload_n 2 dX8_beginAt_11 rfl rfl ?_
  refine go_callS_I (as := [vi x1]) gk_RX8_57 gmf_X0_monthOf (by omega) rfl rfl (Nat.le_of_ble_eq_true rfl) dX8_beginAt_12 (fun _ _ h => cX0_monthOf_c (by omega) h) (fun r4 s5 _ => ?_)
  refine go_putI gf_RX8_60 gcf_8 gpl_8_3 gft_8_3 dX8_beginAt_15 (fun s6 _ => ?_)
  refine go_aload_n 1 dX8_beginAt_18 rfl rfl ?_
  refine go_iload_n 2 dX8_beginAt_19 rfl rfl ?_
  refine go_iload_n 0 dX8_beginAt_20 rfl rfl ?_
  refine go_aload_n 1 dX8_beginAt_21 rfl rfl ?_
  refine go_getI gf_RX8_60 gcf_8 gft_8_3 dX8_beginAt_22 (fun v7 => ?_)
  refine go_callS_I (as := [vi r1, vi v7]) gk_RX8_63 gmf_X0_firstOfMonth (by omega) rfl rfl (Nat.le_of_ble_eq_true rfl) dX8_beginAt_25 (fun _ _ h => cX0_firstOfMonth_c (by omega) h) (fun r8 s9 _ => ?_)
  refine go_isub dX8_beginAt_28 ?_
  refine go_iconst (v := 1) dX8_beginAt_29 (by decide) ?_
  refine go_iadd dX8_beginAt_30 ?_
  refine go_putI gf_RX8_67 gcf_8 gpl_8_4 gft_8_4 dX8_beginAt_31 (fun s10 _ => ?_)
  refine go_aload_n 1 dX8_beginAt_34 rfl rfl ?_
  refine go_iload_n 2 dX8_beginAt_35 rfl rfl ?_
  refine go_callS_I (as := [vi x1]) gk_RX8_70 gmf_X0_weekdayOf (by omega) rfl rfl (Nat.le_of_ble_eq_true rfl) dX8_beginAt_36 (fun _ _ h => cX0_weekdayOf_c (by omega) h) (fun r11 s12 _ => ?_)
  refine go_putI gf_RX8_73 gcf_8 gpl_8_5 gft_8_5 dX8_beginAt_39 (fun s13 _ => ?_)
  exact go_retv rfl dX8_beginAt_42
set_option maxRecDepth 100000 in
set_option maxHeartbeats 4000000 in
theorem cX8_beginAt_c {d : Nat} (hd : 2 ≤ d) {a0 : Nat} {x1 : Int32} {s0 : gH} {r : Unit} {s1 : gH} (h : fX8_beginAt a0 x1 s0 = some (r, s1)) : gMt mX8_beginAt d [vr a0, vi x1] s0 none s1 :=
  gMt_of (rv := rvU) (by decide +kernel) (Nat.le_of_ble_eq_true rfl) rfl (fun _ => wX8_beginAt hd) h
def fX6_member (a0 : Nat) (x1 : Int32) (x2 : Int32) (s0 : gH) : Option (Int32 × gH) :=
  if x1 = 0 then
    gb2 (gcv s0 a0 6 (fX6_number a0 1 12 s0)) fun r2 s3 =>
    some (r2, s3)
  else
    gb2 (gcv s0 a0 6 (fX6_isSign a0 45 s0)) fun r4 s5 =>
    gjn (fun (z7 : Int32) (s8 : gH) =>
        gjn (fun (s10 : gH) =>
            gjn (fun (s12 : gH) =>
                gjn (fun (z14 : Int32) (s15 : gH) =>
                    gjn (fun (z17 : Int32) (s18 : gH) =>
                        if x1 = 2 then
                          gb2 (gcv s18 a0 6 (fX6_wordAmong a0 4 s18)) fun r20 s21 =>
                          gjn (fun (z23 : Int32) (b24 : Nat) (s25 : gH) =>
                              gb2 (gcv s25 b24 6 (fX6_pass b24 z23 s25)) fun r26 s27 =>
                              some ((z17 * 8) + (gmax 0 r20), s27)
                          ) fun j22 =>
                          if r20 = -1 then
                            j22 0 a0 s21
                          else
                            j22 1 a0 s21
                        else
                          some (z17, s18)
                    ) fun j16 =>
                    if r4 = 0 then
                      j16 z14 s15
                    else
                      j16 (-z14) s15
                ) fun j13 =>
                gjn (fun (s31 : gH) =>
                    gjn (fun (z33 : Int32) (z34 : Int32) (b35 : Nat) (s36 : gH) =>
                        gb2 (gcv s36 b35 6 (fX6_number b35 z34 z33 s36)) fun r37 s38 =>
                        j13 r37 s38
                    ) fun j32 =>
                    if x1 = 1 then
                      j32 31 1 a0 s31
                    else
                      if x1 = 2 then
                        j32 53 1 a0 s31
                      else
                        j32 99 1 a0 s31
                ) fun j30 =>
                if x1 = 2 then
                  if z7 = 0 then
                    j13 0 s12
                  else
                    j30 s12
                else
                  j30 s12
            ) fun j11 =>
            if r4 = 0 then
              j11 s10
            else
              gb2 (gcv s10 a0 6 (fX6_advance a0 s10)) fun r44 s45 =>
              j11 s45
        ) fun j9 =>
        if x1 = 2 then
          if z7 = 0 then
            j9 s8
          else
            if x2 < 2 then
              (ggI s8 a0 6 5).bind fun v49 =>
              gb2 (gcv s8 a0 6 (fX6_refuse a0 4 v49 s8)) fun r50 s51 =>
              j9 s51
            else
              j9 s8
        else
          j9 s8
    ) fun j6 =>
    if r4 = 0 then
      (ggI s5 a0 6 4).bind fun v53 =>
      if v53 = 2 then
        j6 1 s5
      else
        j6 0 s5
    else
      j6 1 s5
set_option maxRecDepth 100000 in
set_option maxHeartbeats 4000000 in
theorem wX6_member {X : Nat × (Nat → Int32)} {d : Nat} (hd : 5 ≤ d) {a0 : Nat} {x1 : Int32} {x2 : Int32} {s0 : gH} : gGo X rvI mX6_member d 0 [(0, vr a0), (1, vi x1), (2, vi x2)] [] s0 (fX6_member a0 x1 x2 s0) := by
  unfold fX6_member
  refine go_iload_n 1 dX6_member_0 rfl rfl ?_
  refine go_if_ne (tgt := 12) dX6_member_1 (by decide) (fun h1 => ?_) (fun h1 => ?_)
  · refine go_aload_n 0 dX6_member_4 rfl rfl ?_
    refine go_iconst (v := 1) dX6_member_5 (by decide) ?_
    refine go_bipush (v := 12) dX6_member_6 (by decide) ?_
    refine go_callV_I (as := [vi 1, vi 12]) gk_RX6_113 gmf_X6_number (by decide) rfl (by omega) rfl rfl (Nat.le_of_ble_eq_true rfl) dX6_member_8 (fun _ _ h => cX6_number_c (by omega) h) (fun r2 s3 _ => ?_)
    exact go_ret rfl dX6_member_11
  · refine go_aload_n 0 dX6_member_12 rfl rfl ?_
    refine go_bipush (v := 45) dX6_member_13 (by decide) ?_
    refine go_callV_I (as := [vi 45]) gk_RX6_87 gmf_X6_isSign (by decide) rfl (by omega) rfl rfl (Nat.le_of_ble_eq_true rfl) dX6_member_15 (fun _ _ h => cX6_isSign_c (by omega) h) (fun r4 s5 _ => ?_)
    refine go_istore_n (L' := [(3, vi r4), (0, vr a0), (1, vi x1), (2, vi x2)]) dX6_member_18 rfl (by decide) rfl ?_
    refine go_iload_n 0 dX6_member_19 rfl rfl ?_
    refine go_gjn (P := fun j6 => ∀ (z7 : Int32) (s8 : gH), gGo X rvI mX6_member d 36 [(0, vr a0), (1, vi x1), (2, vi x2), (3, vi r4)] [vi z7] s8 (j6 z7 s8)) (fun z7 s8 => ?_) (fun j6 hj6 => ?_)
    · refine go_istore (L' := [(4, vi z7), (0, vr a0), (1, vi x1), (2, vi x2), (3, vi r4)]) dX6_member_36 (by decide) rfl ?_
      refine go_iload_n 2 dX6_member_38 rfl rfl ?_
      refine go_iconst (v := 2) dX6_member_39 (by decide) ?_
      refine go_gjn (P := fun j9 => ∀ (s10 : gH), gGo X rvI mX6_member d 62 [(0, vr a0), (1, vi x1), (3, vi r4), (4, vi z7)] [] s10 (j9 s10)) (fun s10 => ?_) (fun j9 hj9 => ?_)
      · refine go_iload_n 2 dX6_member_62 rfl rfl ?_
        refine go_gjn (P := fun j11 => ∀ (s12 : gH), gGo X rvI mX6_member d 70 [(0, vr a0), (1, vi x1), (3, vi r4), (4, vi z7)] [] s12 (j11 s12)) (fun s12 => ?_) (fun j11 hj11 => ?_)
        · refine go_iload_n 1 dX6_member_70 rfl rfl ?_
          refine go_iconst (v := 2) dX6_member_71 (by decide) ?_
          refine go_gjn (P := fun j13 => ∀ (z14 : Int32) (s15 : gH), gGo X rvI mX6_member d 111 [(0, vr a0), (1, vi x1), (3, vi r4)] [vi z14] s15 (j13 z14 s15)) (fun z14 s15 => ?_) (fun j13 hj13 => ?_)
          · refine go_istore (L' := [(5, vi z14), (0, vr a0), (1, vi x1), (3, vi r4)]) dX6_member_111 (by decide) rfl ?_
            refine go_iload_n 3 dX6_member_113 rfl rfl ?_
            refine go_gjn (P := fun j16 => ∀ (z17 : Int32) (s18 : gH), gGo X rvI mX6_member d 125 [(0, vr a0), (1, vi x1)] [vi z17] s18 (j16 z17 s18)) (fun z17 s18 => ?_) (fun j16 hj16 => ?_)
            · refine go_istore (L' := [(6, vi z17), (0, vr a0), (1, vi x1)]) dX6_member_125 (by decide) rfl ?_
              refine go_iload_n 2 dX6_member_127 rfl rfl ?_
              refine go_iconst (v := 2) dX6_member_128 (by decide) ?_
              refine go_icmp_eq (tgt := 135) dX6_member_129 (by decide) (fun h19 => ?_) (fun h19 => ?_)
              · refine go_aload_n 1 dX6_member_135 rfl rfl ?_
                refine go_ldcS (i := 4) (by decide) rfl rfl dX6_member_136 ?_
                refine go_callV_I (as := [vr (10 + 2 * 4)]) gk_RX6_121 gmf_X6_wordAmong (by decide) rfl (by omega) rfl rfl (Nat.le_of_ble_eq_true rfl) dX6_member_138 (fun _ _ h => cX6_wordAmong_c (by omega) h) (fun r20 s21 _ => ?_)
                refine go_istore (L' := [(7, vi r20), (6, vi z17), (0, vr a0), (1, vi x1)]) dX6_member_141 (by decide) rfl ?_
                refine go_aload_n 2 dX6_member_143 rfl rfl ?_
                refine go_iload 0 dX6_member_144 rfl ?_
                refine go_iconst (v := -1) dX6_member_146 (by decide) ?_
                refine go_gjn (P := fun j22 => ∀ (z23 : Int32) (b24 : Nat) (s25 : gH), gGo X rvI mX6_member d 155 [(6, vi z17), (7, vi r20)] [vi z23, vr b24] s25 (j22 z23 b24 s25)) (fun z23 b24 s25 => ?_) (fun j22 hj22 => ?_)
                · refine go_callV_v (as := [vi z23]) gk_RX6_91 gmf_X6_pass (by decide) rfl (by omega) rfl rfl (Nat.le_of_ble_eq_true rfl) dX6_member_155 (fun _ _ h => cX6_pass_c (by omega) h) (fun r26 s27 _ => ?_)
                  refine go_iload 0 dX6_member_158 rfl ?_
                  refine go_bipush (v := 8) dX6_member_160 (by decide) ?_
                  refine go_imul dX6_member_162 ?_
                  refine go_iconst (v := 0) dX6_member_163 (by decide) ?_
                  refine go_iload 1 dX6_member_164 rfl ?_
                  refine go_mmax gk_RX6_188.1 gmm_max2 gmm_3 gmm_max4 (Nat.le_of_ble_eq_true rfl) dX6_member_166 ?_
                  refine go_iadd dX6_member_169 ?_
                  exact go_ret rfl dX6_member_170
                · refine go_icmp_eq (tgt := 154) dX6_member_147 (by decide) (fun h28 => ?_) (fun h28 => ?_)
                  · refine go_iconst (v := 0) dX6_member_154 (by decide) ?_
                    exact go_sub [1, 0] (hj22 0 a0 s21) rfl
                  · refine go_iconst (v := 1) dX6_member_150 (by decide) ?_
                    refine go_goto (tgt := 155) dX6_member_151 (by decide) ?_
                    exact go_sub [1, 0] (hj22 1 a0 s21) rfl
              · refine go_iload 0 dX6_member_132 rfl ?_
                exact go_ret rfl dX6_member_134
            · refine go_if_eq (tgt := 123) dX6_member_114 (by decide) (fun h29 => ?_) (fun h29 => ?_)
              · refine go_iload 0 dX6_member_123 rfl ?_
                exact go_sub [1, 2] (hj16 z14 s15) rfl
              · refine go_iload 0 dX6_member_117 rfl ?_
                refine go_ineg dX6_member_119 ?_
                refine go_goto (tgt := 125) dX6_member_120 (by decide) ?_
                exact go_sub [1, 2] (hj16 (-z14) s15) rfl
          · refine go_gjn (P := fun j30 => ∀ (s31 : gH), gGo X rvI mX6_member d 84 [(0, vr a0), (1, vi x1), (3, vi r4)] [] s31 (j30 s31)) (fun s31 => ?_) (fun j30 hj30 => ?_)
            · refine go_aload_n 0 dX6_member_84 rfl rfl ?_
              refine go_iconst (v := 1) dX6_member_85 (by decide) ?_
              refine go_iload_n 1 dX6_member_86 rfl rfl ?_
              refine go_iconst (v := 1) dX6_member_87 (by decide) ?_
              refine go_gjn (P := fun j32 => ∀ (z33 : Int32) (z34 : Int32) (b35 : Nat) (s36 : gH), gGo X rvI mX6_member d 108 [(0, vr a0), (1, vi x1), (3, vi r4)] [vi z33, vi z34, vr b35] s36 (j32 z33 z34 b35 s36)) (fun z33 z34 b35 s36 => ?_) (fun j32 hj32 => ?_)
              · refine go_callV_I (as := [vi z34, vi z33]) gk_RX6_113 gmf_X6_number (by decide) rfl (by omega) rfl rfl (Nat.le_of_ble_eq_true rfl) dX6_member_108 (fun _ _ h => cX6_number_c (by omega) h) (fun r37 s38 _ => ?_)
                exact go_sub [0, 1, 2] (hj13 r37 s38) rfl
              · refine go_icmp_ne (tgt := 96) dX6_member_88 (by decide) (fun h39 => ?_) (fun h39 => ?_)
                · refine go_bipush (v := 31) dX6_member_91 (by decide) ?_
                  refine go_goto (tgt := 108) dX6_member_93 (by decide) ?_
                  exact go_sub [0, 1, 2] (hj32 31 1 a0 s31) rfl
                · refine go_iload_n 1 dX6_member_96 rfl rfl ?_
                  refine go_iconst (v := 2) dX6_member_97 (by decide) ?_
                  refine go_icmp_ne (tgt := 106) dX6_member_98 (by decide) (fun h40 => ?_) (fun h40 => ?_)
                  · refine go_bipush (v := 53) dX6_member_101 (by decide) ?_
                    refine go_goto (tgt := 108) dX6_member_103 (by decide) ?_
                    exact go_sub [0, 1, 2] (hj32 53 1 a0 s31) rfl
                  · refine go_bipush (v := 99) dX6_member_106 (by decide) ?_
                    exact go_sub [0, 1, 2] (hj32 99 1 a0 s31) rfl
            · refine go_icmp_ne (tgt := 84) dX6_member_72 (by decide) (fun h41 => ?_) (fun h41 => ?_)
              · refine go_iload 3 dX6_member_75 rfl ?_
                refine go_if_ne (tgt := 84) dX6_member_77 (by decide) (fun h42 => ?_) (fun h42 => ?_)
                · refine go_iconst (v := 0) dX6_member_80 (by decide) ?_
                  refine go_goto (tgt := 111) dX6_member_81 (by decide) ?_
                  exact go_sub [0, 1, 2] (hj13 0 s12) rfl
                · exact go_sub [0, 1, 2] (hj30 s12) rfl
              · exact go_sub [0, 1, 2] (hj30 s12) rfl
        · refine go_if_eq (tgt := 70) dX6_member_63 (by decide) (fun h43 => ?_) (fun h43 => ?_)
          · exact go_sub [0, 1, 2, 3] (hj11 s10) rfl
          · refine go_aload_n 0 dX6_member_66 rfl rfl ?_
            refine go_callV_v (as := []) gk_RX6_63 gmf_X6_advance (by decide) rfl (by omega) rfl rfl (Nat.le_of_ble_eq_true rfl) dX6_member_67 (fun _ _ h => cX6_advance_c (by omega) h) (fun r44 s45 _ => ?_)
            exact go_sub [0, 1, 2, 3] (hj11 s45) rfl
      · refine go_icmp_ne (tgt := 62) dX6_member_40 (by decide) (fun h46 => ?_) (fun h46 => ?_)
        · refine go_iload 0 dX6_member_43 rfl ?_
          refine go_if_eq (tgt := 62) dX6_member_45 (by decide) (fun h47 => ?_) (fun h47 => ?_)
          · exact go_sub [1, 2, 4, 0] (hj9 s8) rfl
          · refine go_iload_n 3 dX6_member_48 rfl rfl ?_
            refine go_iconst (v := 2) dX6_member_49 (by decide) ?_
            refine go_icmp_ge (tgt := 62) dX6_member_50 (by decide) (fun h48 => ?_) (fun h48 => ?_)
            · refine go_aload_n 1 dX6_member_53 rfl rfl ?_
              refine go_iconst (v := 4) dX6_member_54 (by decide) ?_
              refine go_aload_n 1 dX6_member_55 rfl rfl ?_
              refine go_getI gf_RX6_80 gcf_6 gft_6_5 dX6_member_56 (fun v49 => ?_)
              refine go_callV_v (as := [vi 4, vi v49]) gk_RX6_83 gmf_X6_refuse (by decide) rfl (by omega) rfl rfl (Nat.le_of_ble_eq_true rfl) dX6_member_59 (fun _ _ h => cX6_refuse_c (by omega) h) (fun r50 s51 _ => ?_)
              exact go_sub [1, 2, 4, 0] (hj9 s51) rfl
            · exact go_sub [1, 2, 4, 0] (hj9 s8) rfl
        · exact go_sub [1, 2, 4, 0] (hj9 s8) rfl
    · refine go_if_ne (tgt := 31) dX6_member_20 (by decide) (fun h52 => ?_) (fun h52 => ?_)
      · refine go_aload_n 1 dX6_member_23 rfl rfl ?_
        refine go_getI gf_RX6_57 gcf_6 gft_6_4 dX6_member_24 (fun v53 => ?_)
        refine go_iconst (v := 2) dX6_member_27 (by decide) ?_
        refine go_icmp_ne (tgt := 35) dX6_member_28 (by decide) (fun h54 => ?_) (fun h54 => ?_)
        · refine go_iconst (v := 1) dX6_member_31 (by decide) ?_
          refine go_goto (tgt := 36) dX6_member_32 (by decide) ?_
          exact go_sub [1, 2, 3, 0] (hj6 1 s5) rfl
        · refine go_iconst (v := 0) dX6_member_35 (by decide) ?_
          exact go_sub [1, 2, 3, 0] (hj6 0 s5) rfl
      · refine go_iconst (v := 1) dX6_member_31 (by decide) ?_
        refine go_goto (tgt := 36) dX6_member_32 (by decide) ?_
        exact go_sub [1, 2, 3, 0] (hj6 1 s5) rfl
set_option maxRecDepth 100000 in
set_option maxHeartbeats 4000000 in
theorem cX6_member_c {d : Nat} (hd : 5 ≤ d) {a0 : Nat} {x1 : Int32} {x2 : Int32} {s0 : gH} {r : Int32} {s1 : gH} (h : fX6_member a0 x1 x2 s0 = some (r, s1)) : gMt mX6_member d [vr a0, vi x1, vi x2] s0 (some (vi r)) s1 :=
  gMt_of (rv := rvI) (by decide +kernel) (Nat.le_of_ble_eq_true rfl) ⟨_, rfl, rfl⟩ (fun _ => wX6_member hd) h
def fX7_append (a0 : Nat) (x1 : Int32) (s0 : gH) : Option (Unit × gH) :=
  (ggI s0 a0 7 1).bind fun v1 =>
  (ggR s0 a0 7 0).bind fun v2 =>
  (glen s0 v2).bind fun v3 =>
  if v1 < v3 then
    (ggR s0 a0 7 0).bind fun v5 =>
    (ggI s0 a0 7 1).bind fun v6 =>
    (saI s0 v5 2 v6 x1).bind fun s7 =>
    (ggI s7 a0 7 1).bind fun v8 =>
    (spI s7 a0 7 1 (v8 + 1)).bind fun s9 =>
    some ((), s9)
  else
    some ((), s0)
set_option maxRecDepth 100000 in
set_option maxHeartbeats 4000000 in
theorem wX7_append {X : Nat × (Nat → Int32)} {d : Nat} (hd : 0 ≤ d) {a0 : Nat} {x1 : Int32} {s0 : gH} : gGo X rvU mX7_append d 0 [(0, vr a0), (1, vi x1)] [] s0 (fX7_append a0 x1 s0) := by
  unfold fX7_append
  refine go_aload_n 0 dX7_append_0 rfl rfl ?_
  refine go_getI gf_RX7_21 gcf_7 gft_7_1 dX7_append_1 (fun v1 => ?_)
  refine go_aload_n 0 dX7_append_4 rfl rfl ?_
  refine go_getR gf_RX7_15 gcf_7 gft_7_0 dX7_append_5 (fun v2 => ?_)
  refine go_alen dX7_append_8 (fun v3 _ => ?_)
  refine go_icmp_ge (tgt := 32) dX7_append_9 (by decide) (fun h4 => ?_) (fun h4 => ?_)
  · refine go_aload_n 0 dX7_append_12 rfl rfl ?_
    refine go_getR gf_RX7_15 gcf_7 gft_7_0 dX7_append_13 (fun v5 => ?_)
    refine go_aload_n 0 dX7_append_16 rfl rfl ?_
    refine go_getI gf_RX7_21 gcf_7 gft_7_1 dX7_append_17 (fun v6 => ?_)
    refine go_iload_n 1 dX7_append_20 rfl rfl ?_
    refine go_iastore dX7_append_21 (fun s7 _ => ?_)
    refine go_aload_n 0 dX7_append_22 rfl rfl ?_
    refine go_dup dX7_append_23 rfl ?_
    refine go_getI gf_RX7_21 gcf_7 gft_7_1 dX7_append_24 (fun v8 => ?_)
    refine go_iconst (v := 1) dX7_append_27 (by decide) ?_
    refine go_iadd dX7_append_28 ?_
    refine go_putI gf_RX7_21 gcf_7 gpl_7_1 gft_7_1 dX7_append_29 (fun s9 _ => ?_)
    exact go_retv rfl dX7_append_32
  · exact go_retv rfl dX7_append_32
set_option maxRecDepth 100000 in
set_option maxHeartbeats 4000000 in
theorem cX7_append_c {d : Nat} (hd : 0 ≤ d) {a0 : Nat} {x1 : Int32} {s0 : gH} {r : Unit} {s1 : gH} (h : fX7_append a0 x1 s0 = some (r, s1)) : gMt mX7_append d [vr a0, vi x1] s0 none s1 :=
  gMt_of (rv := rvU) (by decide +kernel) (Nat.le_of_ble_eq_true rfl) rfl (fun _ => wX7_append hd) h
def gX6_nextInRow (a0 : Nat) (s0 : gH) : Option (Int32 × gH) :=
  gb2 (gcv s0 a0 6 (fX6_isSign a0 44 s0)) fun r1 s2 =>
  if r1 = 0 then
    some (0, s2)
  else
    gb2 (gcv s2 a0 6 (fX6_advance a0 s2)) fun r4 s5 =>
    (ggR s5 a0 6 8).bind fun v6 =>
    (ggI s5 v6 7 1).bind fun v7 =>
    if v7 < 8 then
      some (1, s5)
    else
      (ggI s5 a0 6 4).bind fun v9 =>
      gjn (fun (z11 : Int32) (b12 : Nat) (s13 : gH) =>
          (ggI s13 a0 6 5).bind fun v14 =>
          gb2 (gcv s13 b12 6 (fX6_refuse b12 z11 v14 s13)) fun r15 s16 =>
          some (0, s16)
      ) fun j10 =>
      if v9 = 0 then
        j10 1 a0 s5
      else
        j10 5 a0 s5
def fX6_nextInRow (a0 : Nat) (s0 : gH) : Option (Int32 × gH) := gzr (gX6_nextInRow a0 s0)
set_option maxRecDepth 100000 in
set_option maxHeartbeats 4000000 in
theorem wX6_nextInRow {X : Nat × (Nat → Int32)} {d : Nat} (hd : 2 ≤ d) {a0 : Nat} {s0 : gH} : gGo X rvI mX6_nextInRow d 0 [(0, vr a0)] [] s0 (gX6_nextInRow a0 s0) := by
  unfold gX6_nextInRow
  refine go_aload_n 0 dX6_nextInRow_0 rfl rfl ?_
  refine go_bipush (v := 44) dX6_nextInRow_1 (by decide) ?_
  refine go_callV_I (as := [vi 44]) gk_RX6_87 gmf_X6_isSign (by decide) rfl (by omega) rfl rfl (Nat.le_of_ble_eq_true rfl) dX6_nextInRow_3 (fun _ _ h => cX6_isSign_c (by omega) h) (fun r1 s2 _ => ?_)
  refine go_if_ne (tgt := 11) dX6_nextInRow_6 (by decide) (fun h3 => ?_) (fun h3 => ?_)
  · refine go_iconst (v := 0) dX6_nextInRow_9 (by decide) ?_
    exact go_ret rfl dX6_nextInRow_10
  · refine go_aload_n 0 dX6_nextInRow_11 rfl rfl ?_
    refine go_callV_v (as := []) gk_RX6_63 gmf_X6_advance (by decide) rfl (by omega) rfl rfl (Nat.le_of_ble_eq_true rfl) dX6_nextInRow_12 (fun _ _ h => cX6_advance_c (by omega) h) (fun r4 s5 _ => ?_)
    refine go_aload_n 0 dX6_nextInRow_15 rfl rfl ?_
    refine go_getR gf_RX6_24 gcf_6 gft_6_8 dX6_nextInRow_16 (fun v6 => ?_)
    refine go_getI gf_RX6_185 gcf_7 gft_7_1 dX6_nextInRow_19 (fun v7 => ?_)
    refine go_bipush (v := 8) dX6_nextInRow_22 (by decide) ?_
    refine go_icmp_lt (tgt := 49) dX6_nextInRow_24 (by decide) (fun h8 => ?_) (fun h8 => ?_)
    · refine go_iconst (v := 1) dX6_nextInRow_49 (by decide) ?_
      exact go_ret rfl dX6_nextInRow_50
    · refine go_aload_n 0 dX6_nextInRow_27 rfl rfl ?_
      refine go_aload_n 0 dX6_nextInRow_28 rfl rfl ?_
      refine go_getI gf_RX6_57 gcf_6 gft_6_4 dX6_nextInRow_29 (fun v9 => ?_)
      refine go_gjn (P := fun j10 => ∀ (z11 : Int32) (b12 : Nat) (s13 : gH), gGo X rvI mX6_nextInRow d 40 [(0, vr a0)] [vi z11, vr b12] s13 (j10 z11 b12 s13)) (fun z11 b12 s13 => ?_) (fun j10 hj10 => ?_)
      · refine go_aload_n 0 dX6_nextInRow_40 rfl rfl ?_
        refine go_getI gf_RX6_80 gcf_6 gft_6_5 dX6_nextInRow_41 (fun v14 => ?_)
        refine go_callV_v (as := [vi z11, vi v14]) gk_RX6_83 gmf_X6_refuse (by decide) rfl (by omega) rfl rfl (Nat.le_of_ble_eq_true rfl) dX6_nextInRow_44 (fun _ _ h => cX6_refuse_c (by omega) h) (fun r15 s16 _ => ?_)
        refine go_iconst (v := 0) dX6_nextInRow_47 (by decide) ?_
        exact go_ret rfl dX6_nextInRow_48
      · refine go_if_ne (tgt := 39) dX6_nextInRow_32 (by decide) (fun h17 => ?_) (fun h17 => ?_)
        · refine go_iconst (v := 1) dX6_nextInRow_35 (by decide) ?_
          refine go_goto (tgt := 40) dX6_nextInRow_36 (by decide) ?_
          exact go_sub [0] (hj10 1 a0 s5) rfl
        · refine go_iconst (v := 5) dX6_nextInRow_39 (by decide) ?_
          exact go_sub [0] (hj10 5 a0 s5) rfl
set_option maxRecDepth 100000 in
set_option maxHeartbeats 4000000 in
theorem cX6_nextInRow_c {d : Nat} (hd : 2 ≤ d) {a0 : Nat} {s0 : gH} {r : Int32} {s1 : gH} (h : fX6_nextInRow a0 s0 = some (r, s1)) : gMt mX6_nextInRow d [vr a0] s0 (some (vi r)) s1 := by
  obtain ⟨h1, h2⟩ := gzr_some h
  exact gMt_of (rv := rvI) (by decide +kernel) (Nat.le_of_ble_eq_true rfl) ⟨_, rfl, gnarZ h2⟩ (fun _ => wX6_nextInRow hd) h1
def gX6_rowText_L9  (a0 : Nat) (x1 : Int32) (x2 : Int32) : Nat → Int32 → gH → Option (Unit × gH)
  | 0, _, _ => none
  | n + 1, x3, s0 =>
    if x3 < 8 then
      (ggI s0 a0 6 5).bind fun v6 =>
      gb2 (gcv s0 a0 6 (fX6_member a0 x1 x2 s0)) fun r7 s8 =>
      (ggR s8 a0 6 8).bind fun v9 =>
      gb2 (gcv s8 v9 7 (fX7_indexOf v9 r7 s8)) fun r10 s11 =>
      gjn (fun (s13 : gH) =>
          (ggR s13 a0 6 8).bind fun v14 =>
          gb2 (gcv s13 v14 7 (fX7_append v14 r7 s13)) fun r15 s16 =>
          gb2 (gcv s16 a0 6 (fX6_nextInRow a0 s16)) fun r17 s18 =>
          if r17 = 0 then
            some ((), s18)
          else
            gX6_rowText_L9 a0 x1 x2 n (x3 + 1) s18
      ) fun j12 =>
      if r10 = -1 then
        j12 s11
      else
        gb2 (gcv s11 a0 6 (fX6_refuse a0 4 v6 s11)) fun r21 s22 =>
        j12 s22
    else
      some ((), s0)
set_option maxRecDepth 100000 in
set_option maxHeartbeats 4000000 in
theorem wX6_rowText_L9 {X : Nat × (Nat → Int32)} {d : Nat} (hd : 6 ≤ d)  (a0 : Nat) (x1 : Int32) (x2 : Int32) : ∀ (n : Nat) (x3 : Int32) (s0 : gH), gGo X rvU mX6_rowText d 9 [(0, vr a0), (1, vi x1), (2, vi x2), (3, vi x3)] [] s0 (gX6_rowText_L9 a0 x1 x2 n x3 s0) := by
  intro n
  induction n with
  | zero => intros; exact go_none
  | succ n ih =>
    intro x3 s0
    show gGo _ _ _ _ _ _ _ _ (gX6_rowText_L9 a0 x1 x2 (n + 1) x3 s0)
    unfold gX6_rowText_L9
    refine go_iload_n 3 dX6_rowText_9 rfl rfl ?_
    refine go_bipush (v := 8) dX6_rowText_10 (by decide) ?_
    refine go_icmp_ge (tgt := 72) dX6_rowText_12 (by decide) (fun h5 => ?_) (fun h5 => ?_)
    · refine go_aload_n 0 dX6_rowText_15 rfl rfl ?_
      refine go_getI gf_RX6_80 gcf_6 gft_6_5 dX6_rowText_16 (fun v6 => ?_)
      refine go_istore (L' := [(4, vi v6), (0, vr a0), (1, vi x1), (2, vi x2), (3, vi x3)]) dX6_rowText_19 (by decide) rfl ?_
      refine go_aload_n 1 dX6_rowText_21 rfl rfl ?_
      refine go_iload_n 2 dX6_rowText_22 rfl rfl ?_
      refine go_iload_n 3 dX6_rowText_23 rfl rfl ?_
      refine go_callV_I (as := [vi x1, vi x2]) gk_RX6_171 gmf_X6_member (by decide) rfl (by omega) rfl rfl (Nat.le_of_ble_eq_true rfl) dX6_rowText_24 (fun _ _ h => cX6_member_c (by omega) h) (fun r7 s8 _ => ?_)
      refine go_istore (L' := [(5, vi r7), (4, vi v6), (0, vr a0), (1, vi x1), (2, vi x2), (3, vi x3)]) dX6_rowText_27 (by decide) rfl ?_
      refine go_aload_n 2 dX6_rowText_29 rfl rfl ?_
      refine go_getR gf_RX6_24 gcf_6 gft_6_8 dX6_rowText_30 (fun v9 => ?_)
      refine go_iload 0 dX6_rowText_33 rfl ?_
      refine go_callV_I (as := [vi r7]) gk_RX6_174 gmf_X7_indexOf (by decide) rfl (by omega) rfl rfl (Nat.le_of_ble_eq_true rfl) dX6_rowText_35 (fun _ _ h => cX7_indexOf_c (by omega) h) (fun r10 s11 _ => ?_)
      refine go_iconst (v := -1) dX6_rowText_38 (by decide) ?_
      refine go_gjn (P := fun j12 => ∀ (s13 : gH), gGo X rvU mX6_rowText d 49 [(0, vr a0), (1, vi x1), (2, vi x2), (3, vi x3), (5, vi r7)] [] s13 (j12 s13)) (fun s13 => ?_) (fun j12 hj12 => ?_)
      · refine go_aload_n 0 dX6_rowText_49 rfl rfl ?_
        refine go_getR gf_RX6_24 gcf_6 gft_6_8 dX6_rowText_50 (fun v14 => ?_)
        refine go_iload 4 dX6_rowText_53 rfl ?_
        refine go_callV_v (as := [vi r7]) gk_RX6_178 gmf_X7_append (by decide) rfl (by omega) rfl rfl (Nat.le_of_ble_eq_true rfl) dX6_rowText_55 (fun _ _ h => cX7_append_c (by omega) h) (fun r15 s16 _ => ?_)
        refine go_aload_n 0 dX6_rowText_58 rfl rfl ?_
        refine go_callV_I (as := []) gk_RX6_181 gmf_X6_nextInRow (by decide) rfl (by omega) rfl rfl (Nat.le_of_ble_eq_true rfl) dX6_rowText_59 (fun _ _ h => cX6_nextInRow_c (by omega) h) (fun r17 s18 _ => ?_)
        refine go_if_ne (tgt := 66) dX6_rowText_62 (by decide) (fun h19 => ?_) (fun h19 => ?_)
        · exact go_retv rfl dX6_rowText_65
        · refine go_iinc (v := 1) (L' := [(3, vi (x3 + 1)), (0, vr a0), (1, vi x1), (2, vi x2), (5, vi r7)]) 3 dX6_rowText_66 rfl (by decide) (by decide) rfl ?_
          refine go_goto (tgt := 9) dX6_rowText_69 (by decide) ?_
          exact go_sub [1, 2, 3, 0] (ih (x3 + 1) s18) rfl
      · refine go_icmp_eq (tgt := 49) dX6_rowText_39 (by decide) (fun h20 => ?_) (fun h20 => ?_)
        · exact go_sub [2, 3, 4, 5, 0] (hj12 s11) rfl
        · refine go_aload_n 2 dX6_rowText_42 rfl rfl ?_
          refine go_iconst (v := 4) dX6_rowText_43 (by decide) ?_
          refine go_iload 1 dX6_rowText_44 rfl ?_
          refine go_callV_v (as := [vi 4, vi v6]) gk_RX6_83 gmf_X6_refuse (by decide) rfl (by omega) rfl rfl (Nat.le_of_ble_eq_true rfl) dX6_rowText_46 (fun _ _ h => cX6_refuse_c (by omega) h) (fun r21 s22 _ => ?_)
          exact go_sub [2, 3, 4, 5, 0] (hj12 s22) rfl
    · exact go_retv rfl dX6_rowText_72
def fX6_rowText (a0 : Nat) (x1 : Int32) (x2 : Int32) (s0 : gH) : Option (Unit × gH) :=
  (ggR s0 a0 6 8).bind fun v1 =>
  gb2 (gcv s0 v1 7 (fX7_clear v1 s0)) fun r2 s3 =>
  gX6_rowText_L9
    a0 x1 x2 20000 0 s3
set_option maxRecDepth 100000 in
set_option maxHeartbeats 4000000 in
theorem wX6_rowText {X : Nat × (Nat → Int32)} {d : Nat} (hd : 6 ≤ d) {a0 : Nat} {x1 : Int32} {x2 : Int32} {s0 : gH} : gGo X rvU mX6_rowText d 0 [(0, vr a0), (1, vi x1), (2, vi x2)] [] s0 (fX6_rowText a0 x1 x2 s0) := by
  unfold fX6_rowText
  refine go_aload_n 0 dX6_rowText_0 rfl rfl ?_
  refine go_getR gf_RX6_24 gcf_6 gft_6_8 dX6_rowText_1 (fun v1 => ?_)
  refine go_callV_v (as := []) gk_RX6_170 gmf_X7_clear (by decide) rfl (by omega) rfl rfl (Nat.le_of_ble_eq_true rfl) dX6_rowText_4 (fun _ _ h => cX7_clear_c (by omega) h) (fun r2 s3 _ => ?_)
  refine go_iconst (v := 0) dX6_rowText_7 (by decide) ?_
  refine go_istore_n (L' := [(3, vi 0), (0, vr a0), (1, vi x1), (2, vi x2)]) dX6_rowText_8 rfl (by decide) rfl ?_
  refine go_sub [1, 2, 3, 0] (wX6_rowText_L9 hd a0 x1 x2 20000 0 s3) rfl
set_option maxRecDepth 100000 in
set_option maxHeartbeats 4000000 in
theorem cX6_rowText_c {d : Nat} (hd : 6 ≤ d) {a0 : Nat} {x1 : Int32} {x2 : Int32} {s0 : gH} {r : Unit} {s1 : gH} (h : fX6_rowText a0 x1 x2 s0 = some (r, s1)) : gMt mX6_rowText d [vr a0, vi x1, vi x2] s0 none s1 :=
  gMt_of (rv := rvU) (by decide +kernel) (Nat.le_of_ble_eq_true rfl) rfl (fun _ => wX6_rowText hd) h
def fX7_valueAt (a0 : Nat) (x1 : Int32) (s0 : gH) : Option (Int32 × gH) :=
  if x1 < 0 then
    some (0, s0)
  else
    (ggI s0 a0 7 1).bind fun v2 =>
    if x1 < v2 then
      (ggR s0 a0 7 0).bind fun v4 =>
      (glen s0 v4).bind fun v5 =>
      if x1 < v5 then
        (ggR s0 a0 7 0).bind fun v7 =>
        (gaI s0 v7 2 x1).bind fun v8 =>
        some (v8, s0)
      else
        some (0, s0)
    else
      some (0, s0)
set_option maxRecDepth 100000 in
set_option maxHeartbeats 4000000 in
theorem wX7_valueAt {X : Nat × (Nat → Int32)} {d : Nat} (hd : 0 ≤ d) {a0 : Nat} {x1 : Int32} {s0 : gH} : gGo X rvI mX7_valueAt d 0 [(0, vr a0), (1, vi x1)] [] s0 (fX7_valueAt a0 x1 s0) := by
  unfold fX7_valueAt
  refine go_iload_n 1 dX7_valueAt_0 rfl rfl ?_
  refine go_if_lt (tgt := 21) dX7_valueAt_1 (by decide) (fun h1 => ?_) (fun h1 => ?_)
  · refine go_iconst (v := 0) dX7_valueAt_21 (by decide) ?_
    refine go_goto (tgt := 31) dX7_valueAt_22 (by decide) ?_
    exact go_ret rfl dX7_valueAt_31
  · refine go_iload_n 1 dX7_valueAt_4 rfl rfl ?_
    refine go_aload_n 0 dX7_valueAt_5 rfl rfl ?_
    refine go_getI gf_RX7_21 gcf_7 gft_7_1 dX7_valueAt_6 (fun v2 => ?_)
    refine go_icmp_ge (tgt := 21) dX7_valueAt_9 (by decide) (fun h3 => ?_) (fun h3 => ?_)
    · refine go_iload_n 1 dX7_valueAt_12 rfl rfl ?_
      refine go_aload_n 0 dX7_valueAt_13 rfl rfl ?_
      refine go_getR gf_RX7_15 gcf_7 gft_7_0 dX7_valueAt_14 (fun v4 => ?_)
      refine go_alen dX7_valueAt_17 (fun v5 _ => ?_)
      refine go_icmp_lt (tgt := 25) dX7_valueAt_18 (by decide) (fun h6 => ?_) (fun h6 => ?_)
      · refine go_aload_n 0 dX7_valueAt_25 rfl rfl ?_
        refine go_getR gf_RX7_15 gcf_7 gft_7_0 dX7_valueAt_26 (fun v7 => ?_)
        refine go_iload_n 1 dX7_valueAt_29 rfl rfl ?_
        refine go_iaload dX7_valueAt_30 (fun v8 _ => ?_)
        exact go_ret rfl dX7_valueAt_31
      · refine go_iconst (v := 0) dX7_valueAt_21 (by decide) ?_
        refine go_goto (tgt := 31) dX7_valueAt_22 (by decide) ?_
        exact go_ret rfl dX7_valueAt_31
    · refine go_iconst (v := 0) dX7_valueAt_21 (by decide) ?_
      refine go_goto (tgt := 31) dX7_valueAt_22 (by decide) ?_
      exact go_ret rfl dX7_valueAt_31
set_option maxRecDepth 100000 in
set_option maxHeartbeats 4000000 in
theorem cX7_valueAt_c {d : Nat} (hd : 0 ≤ d) {a0 : Nat} {x1 : Int32} {s0 : gH} {r : Int32} {s1 : gH} (h : fX7_valueAt a0 x1 s0 = some (r, s1)) : gMt mX7_valueAt d [vr a0, vi x1] s0 (some (vi r)) s1 :=
  gMt_of (rv := rvI) (by decide +kernel) (Nat.le_of_ble_eq_true rfl) ⟨_, rfl, rfl⟩ (fun _ => wX7_valueAt hd) h
def gX8_tellMonths_L2  (a0 : Nat) (a1 : Nat) : Nat → Int32 → gH → Option (Unit × gH)
  | 0, _, _ => none
  | n + 1, x2, s0 =>
    (ggI s0 a1 7 1).bind fun v2 =>
    if x2 < v2 then
      (ggI s0 a0 8 8).bind fun v4 =>
      gb2 (gcv s0 a1 7 (fX7_valueAt a1 x2 s0)) fun r5 s6 =>
      (spI s6 a0 8 8 (v4 ||| (1 <<< (r5 &&& 31)))).bind fun s7 =>
      gX8_tellMonths_L2 a0 a1 n (x2 + 1) s7
    else
      some ((), s0)
set_option maxRecDepth 100000 in
set_option maxHeartbeats 4000000 in
theorem wX8_tellMonths_L2 {X : Nat × (Nat → Int32)} {d : Nat} (hd : 1 ≤ d)  (a0 : Nat) (a1 : Nat) : ∀ (n : Nat) (x2 : Int32) (s0 : gH), gGo X rvU mX8_tellMonths d 2 [(0, vr a0), (1, vr a1), (2, vi x2)] [] s0 (gX8_tellMonths_L2 a0 a1 n x2 s0) := by
  intro n
  induction n with
  | zero => intros; exact go_none
  | succ n ih =>
    intro x2 s0
    show gGo _ _ _ _ _ _ _ _ (gX8_tellMonths_L2 a0 a1 (n + 1) x2 s0)
    unfold gX8_tellMonths_L2
    refine go_iload_n 2 dX8_tellMonths_2 rfl rfl ?_
    refine go_aload_n 1 dX8_tellMonths_3 rfl rfl ?_
    refine go_getI gf_RX8_76 gcf_7 gft_7_1 dX8_tellMonths_4 (fun v2 => ?_)
    refine go_icmp_ge (tgt := 32) dX8_tellMonths_7 (by decide) (fun h3 => ?_) (fun h3 => ?_)
    · refine go_aload_n 0 dX8_tellMonths_10 rfl rfl ?_
      refine go_dup dX8_tellMonths_11 rfl ?_
      refine go_getI gf_RX8_23 gcf_8 gft_8_8 dX8_tellMonths_12 (fun v4 => ?_)
      refine go_iconst (v := 1) dX8_tellMonths_15 (by decide) ?_
      refine go_aload_n 1 dX8_tellMonths_16 rfl rfl ?_
      refine go_iload_n 2 dX8_tellMonths_17 rfl rfl ?_
      refine go_callV_I (as := [vi x2]) gk_RX8_79 gmf_X7_valueAt (by decide) rfl (by omega) rfl rfl (Nat.le_of_ble_eq_true rfl) dX8_tellMonths_18 (fun _ _ h => cX7_valueAt_c (by omega) h) (fun r5 s6 _ => ?_)
      refine go_ishl dX8_tellMonths_21 ?_
      refine go_ior dX8_tellMonths_22 ?_
      refine go_putI gf_RX8_23 gcf_8 gpl_8_8 gft_8_8 dX8_tellMonths_23 (fun s7 _ => ?_)
      refine go_iinc (v := 1) (L' := [(2, vi (x2 + 1)), (0, vr a0), (1, vr a1)]) 2 dX8_tellMonths_26 rfl (by decide) (by decide) rfl ?_
      refine go_goto (tgt := 2) dX8_tellMonths_29 (by decide) ?_
      exact go_sub [1, 2, 0] (ih (x2 + 1) s7) rfl
    · exact go_retv rfl dX8_tellMonths_32
def fX8_tellMonths (a0 : Nat) (a1 : Nat) (s0 : gH) : Option (Unit × gH) :=
  gX8_tellMonths_L2
    a0 a1 20000 0 s0
set_option maxRecDepth 100000 in
set_option maxHeartbeats 4000000 in
theorem wX8_tellMonths {X : Nat × (Nat → Int32)} {d : Nat} (hd : 1 ≤ d) {a0 : Nat} {a1 : Nat} {s0 : gH} : gGo X rvU mX8_tellMonths d 0 [(0, vr a0), (1, vr a1)] [] s0 (fX8_tellMonths a0 a1 s0) := by
  unfold fX8_tellMonths
  refine go_iconst (v := 0) dX8_tellMonths_0 (by decide) ?_
  refine go_istore_n (L' := [(2, vi 0), (0, vr a0), (1, vr a1)]) dX8_tellMonths_1 rfl (by decide) rfl ?_
  refine go_sub [1, 2, 0] (wX8_tellMonths_L2 hd a0 a1 20000 0 s0) rfl
set_option maxRecDepth 100000 in
set_option maxHeartbeats 4000000 in
theorem cX8_tellMonths_c {d : Nat} (hd : 1 ≤ d) {a0 : Nat} {a1 : Nat} {s0 : gH} {r : Unit} {s1 : gH} (h : fX8_tellMonths a0 a1 s0 = some (r, s1)) : gMt mX8_tellMonths d [vr a0, vr a1] s0 none s1 :=
  gMt_of (rv := rvU) (by decide +kernel) (Nat.le_of_ble_eq_true rfl) rfl (fun _ => wX8_tellMonths hd) h
