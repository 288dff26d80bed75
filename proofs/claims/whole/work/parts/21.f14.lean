/-! walks, written by a program -/
def gX12_laysFits_L16 (k36 : gH → Option (Int32 × gH)) (a0 : Nat) (x1 : Int32) (x2 : Int32) : Nat → Int32 → gH → Option (Int32 × gH)
  | 0, _, _ => none
  | n + 1, x3, s0 =>
    if x3 < 366 then
      (ggR s0 a0 12 42).bind fun v7 =>
      (saI s0 v7 2 x3 0).bind fun s8 =>
      gX12_laysFits_L16 k36 a0 x1 x2 n (x3 + 1) s8
    else
      k36 s0
set_option maxRecDepth 100000 in
set_option maxHeartbeats 4000000 in
theorem wX12_laysFits_L16 {X : Nat × (Nat → Int32)} {d : Nat} (hd : 9 ≤ d) (k36 : gH → Option (Int32 × gH)) (a0 : Nat) (x1 : Int32) (x2 : Int32) (hk36 : ∀ (s : gH), gGo X rvI mX12_laysFits d 36 [(0, vr a0), (1, vi x1), (2, vi x2)] [] s (k36 s)) : ∀ (n : Nat) (x3 : Int32) (s0 : gH), gGo X rvI mX12_laysFits d 16 [(0, vr a0), (1, vi x1), (2, vi x2), (3, vi x3)] [] s0 (gX12_laysFits_L16 k36 a0 x1 x2 n x3 s0) := by
  intro n
  induction n with
  | zero => intros; exact go_none
  | succ n ih =>
    intro x3 s0
    show gGo _ _ _ _ _ _ _ _ (gX12_laysFits_L16 k36 a0 x1 x2 (n + 1) x3 s0)
    unfold gX12_laysFits_L16
    refine go_iload_n 3 dX12_laysFits_16 rfl rfl ?_
    refine go_sipush (v := 366) dX12_laysFits_17 (by decide) ?_
    refine go_icmp_ge (tgt := 36) dX12_laysFits_20 (by decide) (fun h6 => ?_) (fun h6 => ?_)
    · refine go_aload_n 0 dX12_laysFits_23 rfl rfl ?_
      refine go_getR gf_RX12_87 gcf_12 gft_12_42 dX12_laysFits_24 (fun v7 => ?_)
      refine go_iload_n 3 dX12_laysFits_27 rfl rfl ?_
      refine go_iconst (v := 0) dX12_laysFits_28 (by decide) ?_
      refine go_iastore dX12_laysFits_29 (fun s8 _ => ?_)
      refine go_iinc (v := 1) (L' := [(3, vi (x3 + 1)), (0, vr a0), (1, vi x1), (2, vi x2)]) 3 dX12_laysFits_30 rfl (by decide) (by decide) rfl ?_
      refine go_goto (tgt := 16) dX12_laysFits_33 (by decide) ?_
      exact go_sub [1, 2, 3, 0] (ih (x3 + 1) s8) rfl
    · exact go_sub [0, 1, 2] (hk36 s0) rfl
def gX12_laysFits_L76 (k120 : gH → Option (Int32 × gH)) (a0 : Nat) (x1 : Int32) (x2 : Int32) (x3 : Int32) : Nat → Int32 → gH → Option (Int32 × gH)
  | 0, _, _ => none
  | n + 1, x4, s0 =>
    (ggI s0 a0 12 36).bind fun v22 =>
    if x4 < v22 then
      (ggR s0 a0 12 41).bind fun v24 =>
      (ggR s0 a0 12 38).bind fun v25 =>
      (gaI s0 v25 2 x4).bind fun v26 =>
      (gaI s0 v24 4 v26).bind fun v27 =>
      (ggR s0 a0 12 39).bind fun v28 =>
      (gaI s0 v28 4 x4).bind fun v29 =>
      if v27 = v29 then
        gX12_laysFits_L76 k120 a0 x1 x2 x3 n (x4 + 1) s0
      else
        (ggR s0 a0 12 40).bind fun v31 =>
        (saI s0 v31 4 x3 0).bind fun s32 =>
        gX12_laysFits_L76 k120 a0 x1 x2 x3 n (x4 + 1) s32
    else
      k120 s0
set_option maxRecDepth 100000 in
set_option maxHeartbeats 4000000 in
theorem wX12_laysFits_L76 {X : Nat × (Nat → Int32)} {d : Nat} (hd : 9 ≤ d) (k120 : gH → Option (Int32 × gH)) (a0 : Nat) (x1 : Int32) (x2 : Int32) (x3 : Int32) (hk120 : ∀ (s : gH), gGo X rvI mX12_laysFits d 120 [(0, vr a0), (1, vi x1), (2, vi x2), (3, vi x3)] [] s (k120 s)) : ∀ (n : Nat) (x4 : Int32) (s0 : gH), gGo X rvI mX12_laysFits d 76 [(0, vr a0), (1, vi x1), (2, vi x2), (3, vi x3), (4, vi x4)] [] s0 (gX12_laysFits_L76 k120 a0 x1 x2 x3 n x4 s0) := by
  intro n
  induction n with
  | zero => intros; exact go_none
  | succ n ih =>
    intro x4 s0
    show gGo _ _ _ _ _ _ _ _ (gX12_laysFits_L76 k120 a0 x1 x2 x3 (n + 1) x4 s0)
    unfold gX12_laysFits_L76
    refine go_iload 4 dX12_laysFits_76 rfl ?_
    refine go_aload_n 0 dX12_laysFits_78 rfl rfl ?_
    refine go_getI gf_RX12_307 gcf_12 gft_12_36 dX12_laysFits_79 (fun v22 => ?_)
    refine go_icmp_ge (tgt := 120) dX12_laysFits_82 (by decide) (fun h23 => ?_) (fun h23 => ?_)
    · refine go_aload_n 0 dX12_laysFits_85 rfl rfl ?_
      refine go_getR gf_RX12_84 gcf_12 gft_12_41 dX12_laysFits_86 (fun v24 => ?_)
      refine go_aload_n 0 dX12_laysFits_89 rfl rfl ?_
      refine go_getR gf_RX12_75 gcf_12 gft_12_38 dX12_laysFits_90 (fun v25 => ?_)
      refine go_iload 4 dX12_laysFits_93 rfl ?_
      refine go_iaload dX12_laysFits_95 (fun v26 _ => ?_)
      refine go_zaload dX12_laysFits_96 (fun v27 _ => ?_)
      refine go_aload_n 0 dX12_laysFits_97 rfl rfl ?_
      refine go_getR gf_RX12_78 gcf_12 gft_12_39 dX12_laysFits_98 (fun v28 => ?_)
      refine go_iload 4 dX12_laysFits_101 rfl ?_
      refine go_zaload dX12_laysFits_103 (fun v29 _ => ?_)
      refine go_icmp_eq (tgt := 114) dX12_laysFits_104 (by decide) (fun h30 => ?_) (fun h30 => ?_)
      · refine go_iinc (v := 1) (L' := [(4, vi (x4 + 1)), (0, vr a0), (1, vi x1), (2, vi x2), (3, vi x3)]) 4 dX12_laysFits_114 rfl (by decide) (by decide) rfl ?_
        refine go_goto (tgt := 76) dX12_laysFits_117 (by decide) ?_
        exact go_sub [1, 2, 3, 4, 0] (ih (x4 + 1) s0) rfl
      · refine go_aload_n 0 dX12_laysFits_107 rfl rfl ?_
        refine go_getR gf_RX12_81 gcf_12 gft_12_40 dX12_laysFits_108 (fun v31 => ?_)
        refine go_iload_n 3 dX12_laysFits_111 rfl rfl ?_
        refine go_iconst (v := 0) dX12_laysFits_112 (by decide) ?_
        refine go_zastore dX12_laysFits_113 (fun s32 _ => ?_)
        refine go_iinc (v := 1) (L' := [(4, vi (x4 + 1)), (0, vr a0), (1, vi x1), (2, vi x2), (3, vi x3)]) 4 dX12_laysFits_114 rfl (by decide) (by decide) rfl ?_
        refine go_goto (tgt := 76) dX12_laysFits_117 (by decide) ?_
        exact go_sub [1, 2, 3, 4, 0] (ih (x4 + 1) s32) rfl
    · exact go_sub [0, 1, 2, 3] (hk120 s0) rfl
def gX12_laysFits_L135 (k196 : gH → Option (Int32 × gH)) (a0 : Nat) (x1 : Int32) (x2 : Int32) (x3 : Int32) : Nat → Int32 → gH → Option (Int32 × gH)
  | 0, _, _ => none
  | n + 1, x4, s0 =>
    if x4 < 14610 then
      (ggR s0 a0 12 40).bind fun v41 =>
      (gaI s0 v41 4 x3).bind fun v42 =>
      if v42 = 0 then
        k196 s0
      else
        (ggR s0 a0 12 13).bind fun v44 =>
        (gaI s0 v44 2 x4).bind fun v45 =>
        if v45 = x2 then
          (ggR s0 a0 12 42).bind fun v47 =>
          (ggR s0 a0 12 16).bind fun v48 =>
          (gaI s0 v48 2 x4).bind fun v49 =>
          (gaI s0 v47 2 (v49 - 1)).bind fun v50 =>
          (ggR s0 a0 12 41).bind fun v51 =>
          (gaI s0 v51 4 x4).bind fun v52 =>
          gb2 (fX12_flag v52 s0) fun r53 s54 =>
          (saI s54 v47 2 (v49 - 1) (v50 + r53)).bind fun s55 =>
          gX12_laysFits_L135 k196 a0 x1 x2 x3 n (x4 + 1) s55
        else
          gX12_laysFits_L135 k196 a0 x1 x2 x3 n (x4 + 1) s0
    else
      k196 s0
set_option maxRecDepth 100000 in
set_option maxHeartbeats 4000000 in
theorem wX12_laysFits_L135 {X : Nat × (Nat → Int32)} {d : Nat} (hd : 9 ≤ d) (k196 : gH → Option (Int32 × gH)) (a0 : Nat) (x1 : Int32) (x2 : Int32) (x3 : Int32) (hk196 : ∀ (s : gH), gGo X rvI mX12_laysFits d 196 [(0, vr a0), (1, vi x1), (2, vi x2), (3, vi x3)] [] s (k196 s)) : ∀ (n : Nat) (x4 : Int32) (s0 : gH), gGo X rvI mX12_laysFits d 135 [(0, vr a0), (1, vi x1), (2, vi x2), (3, vi x3), (4, vi x4)] [] s0 (gX12_laysFits_L135 k196 a0 x1 x2 x3 n x4 s0) := by
  intro n
  induction n with
  | zero => intros; exact go_none
  | succ n ih =>
    intro x4 s0
    show gGo _ _ _ _ _ _ _ _ (gX12_laysFits_L135 k196 a0 x1 x2 x3 (n + 1) x4 s0)
    unfold gX12_laysFits_L135
    refine go_iload 4 dX12_laysFits_135 rfl ?_
    refine go_sipush (v := 14610) dX12_laysFits_137 (by decide) ?_
    refine go_icmp_ge (tgt := 196) dX12_laysFits_140 (by decide) (fun h40 => ?_) (fun h40 => ?_)
    · refine go_aload_n 0 dX12_laysFits_143 rfl rfl ?_
      refine go_getR gf_RX12_81 gcf_12 gft_12_40 dX12_laysFits_144 (fun v41 => ?_)
      refine go_iload_n 3 dX12_laysFits_147 rfl rfl ?_
      refine go_zaload dX12_laysFits_148 (fun v42 _ => ?_)
      refine go_if_eq (tgt := 196) dX12_laysFits_149 (by decide) (fun h43 => ?_) (fun h43 => ?_)
      · exact go_sub [0, 1, 2, 3] (hk196 s0) rfl
      · refine go_aload_n 0 dX12_laysFits_152 rfl rfl ?_
        refine go_getR gf_RX12_24 gcf_12 gft_12_13 dX12_laysFits_153 (fun v44 => ?_)
        refine go_iload 4 dX12_laysFits_156 rfl ?_
        refine go_iaload dX12_laysFits_158 (fun v45 _ => ?_)
        refine go_iload_n 2 dX12_laysFits_159 rfl rfl ?_
        refine go_icmp_ne (tgt := 190) dX12_laysFits_160 (by decide) (fun h46 => ?_) (fun h46 => ?_)
        · refine go_aload_n 0 dX12_laysFits_163 rfl rfl ?_
          refine go_getR gf_RX12_87 gcf_12 gft_12_42 dX12_laysFits_164 (fun v47 => ?_)
          refine go_aload_n 0 dX12_laysFits_167 rfl rfl ?_
          refine go_getR gf_RX12_33 gcf_12 gft_12_16 dX12_laysFits_168 (fun v48 => ?_)
          refine go_iload 4 dX12_laysFits_171 rfl ?_
          refine go_iaload dX12_laysFits_173 (fun v49 _ => ?_)
          refine go_iconst (v := 1) dX12_laysFits_174 (by decide) ?_
          refine go_isub dX12_laysFits_175 ?_
          refine go_dup2 dX12_laysFits_176 rfl rfl ?_
          refine go_iaload dX12_laysFits_177 (fun v50 _ => ?_)
          refine go_aload_n 0 dX12_laysFits_178 rfl rfl ?_
          refine go_getR gf_RX12_84 gcf_12 gft_12_41 dX12_laysFits_179 (fun v51 => ?_)
          refine go_iload 4 dX12_laysFits_182 rfl ?_
          refine go_zaload dX12_laysFits_184 (fun v52 _ => ?_)
          refine go_callS_I (as := [vi v52]) gk_RX12_370 gmf_X12_flag (by omega) rfl rfl (Nat.le_of_ble_eq_true rfl) dX12_laysFits_185 (fun _ _ h => cX12_flag_c (by omega) h) (fun r53 s54 _ => ?_)
          refine go_iadd dX12_laysFits_188 ?_
          refine go_iastore dX12_laysFits_189 (fun s55 _ => ?_)
          refine go_iinc (v := 1) (L' := [(4, vi (x4 + 1)), (0, vr a0), (1, vi x1), (2, vi x2), (3, vi x3)]) 4 dX12_laysFits_190 rfl (by decide) (by decide) rfl ?_
          refine go_goto (tgt := 135) dX12_laysFits_193 (by decide) ?_
          exact go_sub [1, 2, 3, 4, 0] (ih (x4 + 1) s55) rfl
        · refine go_iinc (v := 1) (L' := [(4, vi (x4 + 1)), (0, vr a0), (1, vi x1), (2, vi x2), (3, vi x3)]) 4 dX12_laysFits_190 rfl (by decide) (by decide) rfl ?_
          refine go_goto (tgt := 135) dX12_laysFits_193 (by decide) ?_
          exact go_sub [1, 2, 3, 4, 0] (ih (x4 + 1) s0) rfl
    · exact go_sub [0, 1, 2, 3] (hk196 s0) rfl
def gX12_laysFits_L46  (a0 : Nat) (x2 : Int32) : Nat → Int32 → Int32 → gH → Option (Int32 × gH)
  | 0, _, _, _ => none
  | n + 1, x1, x3, s0 =>
    if 60 < x3 then
      some (x1, s0)
    else
      (ggI s0 a0 12 37).bind fun v15 =>
      (ggR s0 a0 12 41).bind fun v16 =>
      gb2 (gcv s0 a0 12 (fX12_laysDaysBy a0 v15 x3 v16 0 s0)) fun r17 s18 =>
      (ggR s18 a0 12 40).bind fun v19 =>
      (saI s18 v19 4 x3 1).bind fun s20 =>
      gX12_laysFits_L76
        (fun s33 =>
          (ggR s33 a0 12 40).bind fun v34 =>
          (gaI s33 v34 4 x3).bind fun v35 =>
          gb2 (fX12_flag v35 s33) fun r36 s37 =>
          glet (x1 + r36) fun y38 =>
          gX12_laysFits_L135
            (fun s56 =>
              gX12_laysFits_L46 a0 x2 n y38 (x3 + 1) s56)
            a0 y38 x2 x3 20000 0 s37)
        a0 x1 x2 x3 20000 0 s20
set_option maxRecDepth 100000 in
set_option maxHeartbeats 4000000 in
theorem wX12_laysFits_L46 {X : Nat × (Nat → Int32)} {d : Nat} (hd : 9 ≤ d)  (a0 : Nat) (x2 : Int32) : ∀ (n : Nat) (x1 : Int32) (x3 : Int32) (s0 : gH), gGo X rvI mX12_laysFits d 46 [(0, vr a0), (1, vi x1), (2, vi x2), (3, vi x3)] [] s0 (gX12_laysFits_L46 a0 x2 n x1 x3 s0) := by
  intro n
  induction n with
  | zero => intros; exact go_none
  | succ n ih =>
    intro x1 x3 s0
    show gGo _ _ _ _ _ _ _ _ (gX12_laysFits_L46 a0 x2 (n + 1) x1 x3 s0)
    unfold gX12_laysFits_L46
    refine go_iload_n 3 dX12_laysFits_46 rfl rfl ?_
    refine go_bipush (v := 60) dX12_laysFits_47 (by decide) ?_
    refine go_icmp_gt (tgt := 202) dX12_laysFits_49 (by decide) (fun h14 => ?_) (fun h14 => ?_)
    · refine go_iload_n 1 dX12_laysFits_202 rfl rfl ?_
      exact go_ret rfl dX12_laysFits_203
    · refine go_aload_n 0 dX12_laysFits_52 rfl rfl ?_
      refine go_aload_n 0 dX12_laysFits_53 rfl rfl ?_
      refine go_getI gf_RX12_455 gcf_12 gft_12_37 dX12_laysFits_54 (fun v15 => ?_)
      refine go_iload_n 3 dX12_laysFits_57 rfl rfl ?_
      refine go_aload_n 0 dX12_laysFits_58 rfl rfl ?_
      refine go_getR gf_RX12_84 gcf_12 gft_12_41 dX12_laysFits_59 (fun v16 => ?_)
      refine go_iconst (v := 0) dX12_laysFits_62 (by decide) ?_
      refine go_callV_v (as := [vi v15, vi x3, vr v16, vi 0]) gk_RX12_415 gmf_X12_laysDaysBy (by decide) rfl (by omega) rfl rfl (Nat.le_of_ble_eq_true rfl) dX12_laysFits_63 (fun _ _ h => cX12_laysDaysBy_c (by omega) h) (fun r17 s18 _ => ?_)
      refine go_aload_n 0 dX12_laysFits_66 rfl rfl ?_
      refine go_getR gf_RX12_81 gcf_12 gft_12_40 dX12_laysFits_67 (fun v19 => ?_)
      refine go_iload_n 3 dX12_laysFits_70 rfl rfl ?_
      refine go_iconst (v := 1) dX12_laysFits_71 (by decide) ?_
      refine go_zastore dX12_laysFits_72 (fun s20 _ => ?_)
      refine go_iconst (v := 0) dX12_laysFits_73 (by decide) ?_
      refine go_istore (L' := [(4, vi 0), (0, vr a0), (1, vi x1), (2, vi x2), (3, vi x3)]) dX12_laysFits_74 (by decide) rfl ?_
      refine go_sub [1, 2, 3, 4, 0] (wX12_laysFits_L76 hd _ a0 x1 x2 x3 ?_ 20000 0 s20) rfl
      intro s33
      refine go_iload_n 1 dX12_laysFits_120 rfl rfl ?_
      refine go_aload_n 0 dX12_laysFits_121 rfl rfl ?_
      refine go_getR gf_RX12_81 gcf_12 gft_12_40 dX12_laysFits_122 (fun v34 => ?_)
      refine go_iload_n 3 dX12_laysFits_125 rfl rfl ?_
      refine go_zaload dX12_laysFits_126 (fun v35 _ => ?_)
      refine go_callS_I (as := [vi v35]) gk_RX12_370 gmf_X12_flag (by omega) rfl rfl (Nat.le_of_ble_eq_true rfl) dX12_laysFits_127 (fun _ _ h => cX12_flag_c (by omega) h) (fun r36 s37 _ => ?_)
      refine go_iadd dX12_laysFits_130 ?_
      refine go_istore_n_l (L' := fun y38 => [(1, vi y38), (0, vr a0), (2, vi x2), (3, vi x3)]) dX12_laysFits_131 rfl (by decide) (fun _ => rfl) (fun y38 => ?_)
      refine go_iconst (v := 0) dX12_laysFits_132 (by decide) ?_
      refine go_istore (L' := [(4, vi 0), (1, vi y38), (0, vr a0), (2, vi x2), (3, vi x3)]) dX12_laysFits_133 (by decide) rfl ?_
      refine go_sub [2, 1, 3, 4, 0] (wX12_laysFits_L135 hd _ a0 y38 x2 x3 ?_ 20000 0 s37) rfl
      intro s56
      refine go_iinc (v := 1) (L' := [(3, vi (x3 + 1)), (0, vr a0), (1, vi y38), (2, vi x2)]) 3 dX12_laysFits_196 rfl (by decide) (by decide) rfl ?_
      refine go_goto (tgt := 46) dX12_laysFits_199 (by decide) ?_
      exact go_sub [1, 2, 3, 0] (ih y38 (x3 + 1) s56) rfl
def fX12_laysFits (a0 : Nat) (s0 : gH) : Option (Int32 × gH) :=
  (ggR s0 a0 12 13).bind fun v1 =>
  (ggR s0 a0 12 38).bind fun v2 =>
  (gaI s0 v2 2 0).bind fun v3 =>
  (gaI s0 v1 2 v3).bind fun v4 =>
  gX12_laysFits_L16
    (fun s9 =>
      (ggI s9 a0 12 37).bind fun v10 =>
      gb2 (gcv s9 a0 12 (fX12_laysBase a0 v10 s9)) fun r11 s12 =>
      gX12_laysFits_L46
        a0 v4 20000 0 1 s12)
    a0 0 v4 20000 0 s0
set_option maxRecDepth 100000 in
set_option maxHeartbeats 4000000 in
theorem wX12_laysFits {X : Nat × (Nat → Int32)} {d : Nat} (hd : 9 ≤ d) {a0 : Nat} {s0 : gH} : gGo X rvI mX12_laysFits d 0 [(0, vr a0)] [] s0 (fX12_laysFits a0 s0) := by
  unfold fX12_laysFits
  refine go_iconst (v := 0) dX12_laysFits_0 (by decide) ?_
  refine go_istore_n (L' := [(1, vi 0), (0, vr a0)]) dX12_laysFits_1 rfl (by decide) rfl ?_
  refine go_aload_n 1 dX12_laysFits_2 rfl rfl ?_
  refine go_getR gf_RX12_24 gcf_12 gft_12_13 dX12_laysFits_3 (fun v1 => ?_)
  refine go_aload_n 1 dX12_laysFits_6 rfl rfl ?_
  refine go_getR gf_RX12_75 gcf_12 gft_12_38 dX12_laysFits_7 (fun v2 => ?_)
  refine go_iconst (v := 0) dX12_laysFits_10 (by decide) ?_
  refine go_iaload dX12_laysFits_11 (fun v3 _ => ?_)
  refine go_iaload dX12_laysFits_12 (fun v4 _ => ?_)
  refine go_istore_n (L' := [(2, vi v4), (1, vi 0), (0, vr a0)]) dX12_laysFits_13 rfl (by decide) rfl ?_
  refine go_iconst (v := 0) dX12_laysFits_14 (by decide) ?_
  refine go_istore_n (L' := [(3, vi 0), (2, vi v4), (1, vi 0), (0, vr a0)]) dX12_laysFits_15 rfl (by decide) rfl ?_
  refine go_sub [3, 2, 1, 0] (wX12_laysFits_L16 hd _ a0 0 v4 ?_ 20000 0 s0) rfl
  intro s9
  refine go_aload_n 0 dX12_laysFits_36 rfl rfl ?_
  refine go_aload_n 0 dX12_laysFits_37 rfl rfl ?_
  refine go_getI gf_RX12_455 gcf_12 gft_12_37 dX12_laysFits_38 (fun v10 => ?_)
  refine go_callV_v (as := [vi v10]) gk_RX12_412 gmf_X12_laysBase (by decide) rfl (by omega) rfl rfl (Nat.le_of_ble_eq_true rfl) dX12_laysFits_41 (fun _ _ h => cX12_laysBase_c (by omega) h) (fun r11 s12 _ => ?_)
  refine go_iconst (v := 1) dX12_laysFits_44 (by decide) ?_
  refine go_istore_n (L' := [(3, vi 1), (0, vr a0), (1, vi 0), (2, vi v4)]) dX12_laysFits_45 rfl (by decide) rfl ?_
  refine go_sub [1, 2, 3, 0] (wX12_laysFits_L46 hd a0 v4 20000 0 1 s12) rfl
set_option maxRecDepth 100000 in
set_option maxHeartbeats 4000000 in
theorem cX12_laysFits_c {d : Nat} (hd : 9 ≤ d) {a0 : Nat} {s0 : gH} {r : Int32} {s1 : gH} (h : fX12_laysFits a0 s0 = some (r, s1)) : gMt mX12_laysFits d [vr a0] s0 (some (vi r)) s1 :=
  gMt_of (rv := rvI) (by decide +kernel) (Nat.le_of_ble_eq_true rfl) ⟨_, rfl, rfl⟩ (fun _ => wX12_laysFits hd) h
def gX12_fits_L31  (a0 : Nat) : Nat → Int32 → Int32 → gH → Option (Int32 × gH)
  | 0, _, _, _ => none
  | n + 1, x3, x4, s0 =>
    if 60 < x4 then
      some (-1, s0)
    else
      (ggR s0 a0 12 40).bind fun v9 =>
      (gaI s0 v9 4 x4).bind fun v10 =>
      if v10 = 0 then
        gX12_fits_L31 a0 n x3 (x4 + 1) s0
      else
        if x3 = 0 then
          some (x4, s0)
        else
          gX12_fits_L31 a0 n (x3 + (-1)) (x4 + 1) s0
set_option maxRecDepth 100000 in
set_option maxHeartbeats 4000000 in
theorem wX12_fits_L31 {X : Nat × (Nat → Int32)} {d : Nat} (hd : 10 ≤ d)  (a0 : Nat) : ∀ (n : Nat) (x3 : Int32) (x4 : Int32) (s0 : gH), gGo X rvI mX12_fits d 31 [(0, vr a0), (3, vi x3), (4, vi x4)] [] s0 (gX12_fits_L31 a0 n x3 x4 s0) := by
  intro n
  induction n with
  | zero => intros; exact go_none
  | succ n ih =>
    intro x3 x4 s0
    show gGo _ _ _ _ _ _ _ _ (gX12_fits_L31 a0 (n + 1) x3 x4 s0)
    unfold gX12_fits_L31
    refine go_iload 2 dX12_fits_31 rfl ?_
    refine go_bipush (v := 60) dX12_fits_33 (by decide) ?_
    refine go_icmp_gt (tgt := 67) dX12_fits_35 (by decide) (fun h8 => ?_) (fun h8 => ?_)
    · refine go_iconst (v := -1) dX12_fits_67 (by decide) ?_
      exact go_ret rfl dX12_fits_68
    · refine go_aload_n 0 dX12_fits_38 rfl rfl ?_
      refine go_getR gf_RX12_81 gcf_12 gft_12_40 dX12_fits_39 (fun v9 => ?_)
      refine go_iload 2 dX12_fits_42 rfl ?_
      refine go_zaload dX12_fits_44 (fun v10 _ => ?_)
      refine go_if_ne (tgt := 51) dX12_fits_45 (by decide) (fun h11 => ?_) (fun h11 => ?_)
      · refine go_goto (tgt := 61) dX12_fits_48 (by decide) ?_
        refine go_iinc (v := 1) (L' := [(4, vi (x4 + 1)), (0, vr a0), (3, vi x3)]) 2 dX12_fits_61 rfl (by decide) (by decide) rfl ?_
        refine go_goto (tgt := 31) dX12_fits_64 (by decide) ?_
        exact go_sub [1, 2, 0] (ih x3 (x4 + 1) s0) rfl
      · refine go_iload_n 1 dX12_fits_51 rfl rfl ?_
        refine go_if_ne (tgt := 58) dX12_fits_52 (by decide) (fun h12 => ?_) (fun h12 => ?_)
        · refine go_iload 2 dX12_fits_55 rfl ?_
          exact go_ret rfl dX12_fits_57
        · refine go_iinc (v := -1) (L' := [(3, vi (x3 + (-1))), (0, vr a0), (4, vi x4)]) 1 dX12_fits_58 rfl (by decide) (by decide) rfl ?_
          refine go_iinc (v := 1) (L' := [(4, vi (x4 + 1)), (3, vi (x3 + (-1))), (0, vr a0)]) 2 dX12_fits_61 rfl (by decide) (by decide) rfl ?_
          refine go_goto (tgt := 31) dX12_fits_64 (by decide) ?_
          exact go_sub [2, 1, 0] (ih (x3 + (-1)) (x4 + 1) s0) rfl
def fX12_fits (a0 : Nat) (x1 : Int32) (s0 : gH) : Option (Int32 × gH) :=
  (ggI s0 a0 12 36).bind fun v1 =>
  if v1 = 0 then
    some (-1, s0)
  else
    if x1 < -1 then
      some (-1, s0)
    else
      gb2 (gcv s0 a0 12 (fX12_laysFits a0 s0)) fun r4 s5 =>
      if x1 = -1 then
        some (r4, s5)
      else
        gX12_fits_L31
          a0 20000 x1 1 s5
set_option maxRecDepth 100000 in
set_option maxHeartbeats 4000000 in
theorem wX12_fits {X : Nat × (Nat → Int32)} {d : Nat} (hd : 10 ≤ d) {a0 : Nat} {x1 : Int32} {s0 : gH} : gGo X rvI mX12_fits d 0 [(0, vr a0), (1, vi x1)] [] s0 (fX12_fits a0 x1 s0) := by
  unfold fX12_fits
  refine go_aload_n 0 dX12_fits_0 rfl rfl ?_
  refine go_getI gf_RX12_307 gcf_12 gft_12_36 dX12_fits_1 (fun v1 => ?_)
  refine go_if_eq (tgt := 12) dX12_fits_4 (by decide) (fun h2 => ?_) (fun h2 => ?_)
  · refine go_iconst (v := -1) dX12_fits_12 (by decide) ?_
    exact go_ret rfl dX12_fits_13
  · refine go_iload_n 1 dX12_fits_7 rfl rfl ?_
    refine go_iconst (v := -1) dX12_fits_8 (by decide) ?_
    refine go_icmp_ge (tgt := 14) dX12_fits_9 (by decide) (fun h3 => ?_) (fun h3 => ?_)
    · refine go_iconst (v := -1) dX12_fits_12 (by decide) ?_
      exact go_ret rfl dX12_fits_13
    · refine go_aload_n 0 dX12_fits_14 rfl rfl ?_
      refine go_callV_I (as := []) gk_RX12_458 gmf_X12_laysFits (by decide) rfl (by omega) rfl rfl (Nat.le_of_ble_eq_true rfl) dX12_fits_15 (fun _ _ h => cX12_laysFits_c (by omega) h) (fun r4 s5 _ => ?_)
      refine go_istore_n (L' := [(2, vi r4), (0, vr a0), (1, vi x1)]) dX12_fits_18 rfl (by decide) rfl ?_
      refine go_iload_n 2 dX12_fits_19 rfl rfl ?_
      refine go_iconst (v := -1) dX12_fits_20 (by decide) ?_
      refine go_icmp_ne (tgt := 26) dX12_fits_21 (by decide) (fun h6 => ?_) (fun h6 => ?_)
      · refine go_iload_n 0 dX12_fits_24 rfl rfl ?_
        exact go_ret rfl dX12_fits_25
      · refine go_iload_n 2 dX12_fits_26 rfl rfl ?_
        refine go_istore_n (L' := [(3, vi x1), (2, vi r4), (0, vr a0), (1, vi x1)]) dX12_fits_27 rfl (by decide) rfl ?_
        refine go_iconst (v := 1) dX12_fits_28 (by decide) ?_
        refine go_istore (L' := [(4, vi 1), (3, vi x1), (2, vi r4), (0, vr a0), (1, vi x1)]) dX12_fits_29 (by decide) rfl ?_
        refine go_sub [3, 1, 0] (wX12_fits_L31 hd a0 20000 x1 1 s5) rfl
set_option maxRecDepth 100000 in
set_option maxHeartbeats 4000000 in
theorem cX12_fits_c {d : Nat} (hd : 10 ≤ d) {a0 : Nat} {x1 : Int32} {s0 : gH} {r : Int32} {s1 : gH} (h : fX12_fits a0 x1 s0 = some (r, s1)) : gMt mX12_fits d [vr a0, vi x1] s0 (some (vi r)) s1 :=
  gMt_of (rv := rvI) (by decide +kernel) (Nat.le_of_ble_eq_true rfl) ⟨_, rfl, rfl⟩ (fun _ => wX12_fits hd) h
def fX11_tells (a0 : Nat) (x1 : Int32) (s0 : gH) : Option (Int32 × gH) :=
  (ggR s0 a0 11 5).bind fun v1 =>
  (ggI s0 v1 9 8).bind fun v2 =>
  if v2 = 0 then
    some (-1, s0)
  else
    if x1 < 0 then
      some (-1, s0)
    else
      if 1 < x1 then
        some (-1, s0)
      else
        (ggR s0 a0 11 5).bind fun v6 =>
        gb2 (gcv s0 v6 9 (fX9_workOut v6 s0)) fun r7 s8 =>
        if x1 = 0 then
          (ggR s8 a0 11 5).bind fun v10 =>
          (ggI s8 v10 9 10).bind fun v11 =>
          some (v11, s8)
        else
          (ggR s8 a0 11 5).bind fun v12 =>
          (ggI s8 v12 9 11).bind fun v13 =>
          some (v13, s8)
set_option maxRecDepth 100000 in
set_option maxHeartbeats 4000000 in
theorem wX11_tells {X : Nat × (Nat → Int32)} {d : Nat} (hd : 6 ≤ d) {a0 : Nat} {x1 : Int32} {s0 : gH} : gGo X rvI mX11_tells d 0 [(0, vr a0), (1, vi x1)] [] s0 (fX11_tells a0 x1 s0) := by
  unfold fX11_tells
  refine go_aload_n 0 dX11_tells_0 rfl rfl ?_
  refine go_getR gf_RX11_49 gcf_11 gft_11_5 dX11_tells_1 (fun v1 => ?_)
  refine go_getI gf_RX11_113 gcf_9 gft_9_8 dX11_tells_4 (fun v2 => ?_)
  refine go_if_eq (tgt := 19) dX11_tells_7 (by decide) (fun h3 => ?_) (fun h3 => ?_)
  · refine go_iconst (v := -1) dX11_tells_19 (by decide) ?_
    exact go_ret rfl dX11_tells_20
  · refine go_iload_n 1 dX11_tells_10 rfl rfl ?_
    refine go_if_lt (tgt := 19) dX11_tells_11 (by decide) (fun h4 => ?_) (fun h4 => ?_)
    · refine go_iconst (v := -1) dX11_tells_19 (by decide) ?_
      exact go_ret rfl dX11_tells_20
    · refine go_iload_n 1 dX11_tells_14 rfl rfl ?_
      refine go_iconst (v := 1) dX11_tells_15 (by decide) ?_
      refine go_icmp_le (tgt := 21) dX11_tells_16 (by decide) (fun h5 => ?_) (fun h5 => ?_)
      · refine go_iconst (v := -1) dX11_tells_19 (by decide) ?_
        exact go_ret rfl dX11_tells_20
      · refine go_aload_n 0 dX11_tells_21 rfl rfl ?_
        refine go_getR gf_RX11_49 gcf_11 gft_11_5 dX11_tells_22 (fun v6 => ?_)
        refine go_callV_v (as := []) gk_RX11_207 gmf_X9_workOut (by decide) rfl (by omega) rfl rfl (Nat.le_of_ble_eq_true rfl) dX11_tells_25 (fun _ _ h => cX9_workOut_c (by omega) h) (fun r7 s8 _ => ?_)
        refine go_iload_n 1 dX11_tells_28 rfl rfl ?_
        refine go_if_ne (tgt := 42) dX11_tells_29 (by decide) (fun h9 => ?_) (fun h9 => ?_)
        · refine go_aload_n 0 dX11_tells_32 rfl rfl ?_
          refine go_getR gf_RX11_49 gcf_11 gft_11_5 dX11_tells_33 (fun v10 => ?_)
          refine go_getI gf_RX11_216 gcf_9 gft_9_10 dX11_tells_36 (fun v11 => ?_)
          refine go_goto (tgt := 49) dX11_tells_39 (by decide) ?_
          exact go_ret rfl dX11_tells_49
        · refine go_aload_n 0 dX11_tells_42 rfl rfl ?_
          refine go_getR gf_RX11_49 gcf_11 gft_11_5 dX11_tells_43 (fun v12 => ?_)
          refine go_getI gf_RX11_219 gcf_9 gft_9_11 dX11_tells_46 (fun v13 => ?_)
          exact go_ret rfl dX11_tells_49
set_option maxRecDepth 100000 in
set_option maxHeartbeats 4000000 in
theorem cX11_tells_c {d : Nat} (hd : 6 ≤ d) {a0 : Nat} {x1 : Int32} {s0 : gH} {r : Int32} {s1 : gH} (h : fX11_tells a0 x1 s0 = some (r, s1)) : gMt mX11_tells d [vr a0, vi x1] s0 (some (vi r)) s1 :=
  gMt_of (rv := rvI) (by decide +kernel) (Nat.le_of_ble_eq_true rfl) ⟨_, rfl, rfl⟩ (fun _ => wX11_tells hd) h
def gX12_tells_L38 (k131 : Int32 → Int32 → gH → Option (Int32 × gH)) (a0 : Nat) (x1 : Int32) (x2 : Int32) : Nat → Int32 → Int32 → Int32 → gH → Option (Int32 × gH)
  | 0, _, _, _, _ => none
  | n + 1, x3, x4, x5, s0 =>
    if x5 < 14610 then
      (ggR s0 a0 12 13).bind fun v11 =>
      (gaI s0 v11 2 x5).bind fun v12 =>
      (ggR s0 a0 12 13).bind fun v13 =>
      (ggR s0 a0 12 38).bind fun v14 =>
      (gaI s0 v14 2 0).bind fun v15 =>
      (gaI s0 v13 2 v15).bind fun v16 =>
      if v12 = v16 then
        (ggR s0 a0 12 42).bind fun v18 =>
        (ggR s0 a0 12 16).bind fun v19 =>
        (gaI s0 v19 2 x5).bind fun v20 =>
        (gaI s0 v18 2 (v20 - 1)).bind fun v21 =>
        gjn (fun (z23 : Int32) (s24 : gH) =>
            if x3 = -1 then
              gX12_tells_L38 k131 a0 x1 x2 n x5 z23 (x5 + 1) s24
            else
              if z23 < x4 then
                gX12_tells_L38 k131 a0 x1 x2 n x5 z23 (x5 + 1) s24
              else
                gX12_tells_L38 k131 a0 x1 x2 n x3 x4 (x5 + 1) s24
        ) fun j22 =>
        if x2 - v21 < v21 then
          j22 v21 s0
        else
          j22 (x2 - v21) s0
      else
        gX12_tells_L38 k131 a0 x1 x2 n x3 x4 (x5 + 1) s0
    else
      k131 x3 x4 s0
set_option maxRecDepth 100000 in
set_option maxHeartbeats 4000000 in
theorem wX12_tells_L38 {X : Nat × (Nat → Int32)} {d : Nat} (hd : 10 ≤ d) (k131 : Int32 → Int32 → gH → Option (Int32 × gH)) (a0 : Nat) (x1 : Int32) (x2 : Int32) (hk131 : ∀ (x3 : Int32) (x4 : Int32) (s : gH), gGo X rvI mX12_tells d 131 [(1, vi x1), (3, vi x3), (4, vi x4)] [] s (k131 x3 x4 s)) : ∀ (n : Nat) (x3 : Int32) (x4 : Int32) (x5 : Int32) (s0 : gH), gGo X rvI mX12_tells d 38 [(0, vr a0), (1, vi x1), (2, vi x2), (3, vi x3), (4, vi x4), (5, vi x5)] [] s0 (gX12_tells_L38 k131 a0 x1 x2 n x3 x4 x5 s0) := by
  intro n
  induction n with
  | zero => intros; exact go_none
  | succ n ih =>
    intro x3 x4 x5 s0
    show gGo _ _ _ _ _ _ _ _ (gX12_tells_L38 k131 a0 x1 x2 (n + 1) x3 x4 x5 s0)
    unfold gX12_tells_L38
    refine go_iload 5 dX12_tells_38 rfl ?_
    refine go_sipush (v := 14610) dX12_tells_40 (by decide) ?_
    refine go_icmp_ge (tgt := 131) dX12_tells_43 (by decide) (fun h10 => ?_) (fun h10 => ?_)
    · refine go_aload_n 0 dX12_tells_46 rfl rfl ?_
      refine go_getR gf_RX12_24 gcf_12 gft_12_13 dX12_tells_47 (fun v11 => ?_)
      refine go_iload 5 dX12_tells_50 rfl ?_
      refine go_iaload dX12_tells_52 (fun v12 _ => ?_)
      refine go_aload_n 0 dX12_tells_53 rfl rfl ?_
      refine go_getR gf_RX12_24 gcf_12 gft_12_13 dX12_tells_54 (fun v13 => ?_)
      refine go_aload_n 0 dX12_tells_57 rfl rfl ?_
      refine go_getR gf_RX12_75 gcf_12 gft_12_38 dX12_tells_58 (fun v14 => ?_)
      refine go_iconst (v := 0) dX12_tells_61 (by decide) ?_
      refine go_iaload dX12_tells_62 (fun v15 _ => ?_)
      refine go_iaload dX12_tells_63 (fun v16 _ => ?_)
      refine go_icmp_ne (tgt := 125) dX12_tells_64 (by decide) (fun h17 => ?_) (fun h17 => ?_)
      · refine go_aload_n 0 dX12_tells_67 rfl rfl ?_
        refine go_getR gf_RX12_87 gcf_12 gft_12_42 dX12_tells_68 (fun v18 => ?_)
        refine go_aload_n 0 dX12_tells_71 rfl rfl ?_
        refine go_getR gf_RX12_33 gcf_12 gft_12_16 dX12_tells_72 (fun v19 => ?_)
        refine go_iload 5 dX12_tells_75 rfl ?_
        refine go_iaload dX12_tells_77 (fun v20 _ => ?_)
        refine go_iconst (v := 1) dX12_tells_78 (by decide) ?_
        refine go_isub dX12_tells_79 ?_
        refine go_iaload dX12_tells_80 (fun v21 _ => ?_)
        refine go_istore (L' := [(6, vi v21), (0, vr a0), (1, vi x1), (2, vi x2), (3, vi x3), (4, vi x4), (5, vi x5)]) dX12_tells_81 (by decide) rfl ?_
        refine go_iload 0 dX12_tells_83 rfl ?_
        refine go_iload_n 3 dX12_tells_85 rfl rfl ?_
        refine go_iload 0 dX12_tells_86 rfl ?_
        refine go_isub dX12_tells_88 ?_
        refine go_gjn (P := fun j22 => ∀ (z23 : Int32) (s24 : gH), gGo X rvI mX12_tells d 101 [(0, vr a0), (1, vi x1), (2, vi x2), (3, vi x3), (4, vi x4), (5, vi x5)] [vi z23] s24 (j22 z23 s24)) (fun z23 s24 => ?_) (fun j22 hj22 => ?_)
        · refine go_istore (L' := [(7, vi z23), (0, vr a0), (1, vi x1), (2, vi x2), (3, vi x3), (4, vi x4), (5, vi x5)]) dX12_tells_101 (by decide) rfl ?_
          refine go_iload_n 4 dX12_tells_103 rfl rfl ?_
          refine go_iconst (v := -1) dX12_tells_104 (by decide) ?_
          refine go_icmp_eq (tgt := 118) dX12_tells_105 (by decide) (fun h25 => ?_) (fun h25 => ?_)
          · refine go_iload 6 dX12_tells_118 rfl ?_
            refine go_istore_n (L' := [(3, vi x5), (7, vi z23), (0, vr a0), (1, vi x1), (2, vi x2), (4, vi x4), (5, vi x5)]) dX12_tells_120 rfl (by decide) rfl ?_
            refine go_iload 1 dX12_tells_121 rfl ?_
            refine go_istore (L' := [(4, vi z23), (3, vi x5), (7, vi z23), (0, vr a0), (1, vi x1), (2, vi x2), (5, vi x5)]) dX12_tells_123 (by decide) rfl ?_
            refine go_iinc (v := 1) (L' := [(5, vi (x5 + 1)), (4, vi z23), (3, vi x5), (7, vi z23), (0, vr a0), (1, vi x1), (2, vi x2)]) 6 dX12_tells_125 rfl (by decide) (by decide) rfl ?_
            refine go_goto (tgt := 38) dX12_tells_128 (by decide) ?_
            exact go_sub [4, 5, 6, 2, 1, 0] (ih x5 z23 (x5 + 1) s24) rfl
          · refine go_iload 0 dX12_tells_108 rfl ?_
            refine go_iload 5 dX12_tells_110 rfl ?_
            refine go_icmp_lt (tgt := 118) dX12_tells_112 (by decide) (fun h26 => ?_) (fun h26 => ?_)
            · refine go_iload 6 dX12_tells_118 rfl ?_
              refine go_istore_n (L' := [(3, vi x5), (7, vi z23), (0, vr a0), (1, vi x1), (2, vi x2), (4, vi x4), (5, vi x5)]) dX12_tells_120 rfl (by decide) rfl ?_
              refine go_iload 1 dX12_tells_121 rfl ?_
              refine go_istore (L' := [(4, vi z23), (3, vi x5), (7, vi z23), (0, vr a0), (1, vi x1), (2, vi x2), (5, vi x5)]) dX12_tells_123 (by decide) rfl ?_
              refine go_iinc (v := 1) (L' := [(5, vi (x5 + 1)), (4, vi z23), (3, vi x5), (7, vi z23), (0, vr a0), (1, vi x1), (2, vi x2)]) 6 dX12_tells_125 rfl (by decide) (by decide) rfl ?_
              refine go_goto (tgt := 38) dX12_tells_128 (by decide) ?_
              exact go_sub [4, 5, 6, 2, 1, 0] (ih x5 z23 (x5 + 1) s24) rfl
            · refine go_goto (tgt := 125) dX12_tells_115 (by decide) ?_
              refine go_iinc (v := 1) (L' := [(5, vi (x5 + 1)), (7, vi z23), (0, vr a0), (1, vi x1), (2, vi x2), (3, vi x3), (4, vi x4)]) 6 dX12_tells_125 rfl (by decide) (by decide) rfl ?_
              refine go_goto (tgt := 38) dX12_tells_128 (by decide) ?_
              exact go_sub [2, 3, 4, 5, 6, 0] (ih x3 x4 (x5 + 1) s24) rfl
        · refine go_icmp_le (tgt := 97) dX12_tells_89 (by decide) (fun h27 => ?_) (fun h27 => ?_)
          · refine go_iload 0 dX12_tells_92 rfl ?_
            refine go_goto (tgt := 101) dX12_tells_94 (by decide) ?_
            exact go_sub [1, 2, 3, 4, 5, 6] (hj22 v21 s0) rfl
          · refine go_iload_n 3 dX12_tells_97 rfl rfl ?_
            refine go_iload 0 dX12_tells_98 rfl ?_
            refine go_isub dX12_tells_100 ?_
            exact go_sub [1, 2, 3, 4, 5, 6] (hj22 (x2 - v21) s0) rfl
      · refine go_iinc (v := 1) (L' := [(5, vi (x5 + 1)), (0, vr a0), (1, vi x1), (2, vi x2), (3, vi x3), (4, vi x4)]) 5 dX12_tells_125 rfl (by decide) (by decide) rfl ?_
        refine go_goto (tgt := 38) dX12_tells_128 (by decide) ?_
        exact go_sub [1, 2, 3, 4, 5, 0] (ih x3 x4 (x5 + 1) s0) rfl
    · exact go_sub [1, 3, 4] (hk131 x3 x4 s0) rfl
def fX12_tells (a0 : Nat) (x1 : Int32) (s0 : gH) : Option (Int32 × gH) :=
  (ggI s0 a0 12 36).bind fun v1 =>
  if v1 = 0 then
    some (-1, s0)
  else
    gb2 (fX12_isIn x1.toInt64 0 1 s0) fun r3 s4 =>
    if r3 = 0 then
      some (-1, s4)
    else
      gb2 (gcv s4 a0 12 (fX12_laysFits a0 s4)) fun r6 s7 =>
      if r6 = 0 then
        some (-1, s7)
      else
        gX12_tells_L38
          (fun y28 y29 s30 =>
            if x1 = 0 then
              some (y28, s30)
            else
              some (y29, s30))
          a0 x1 r6 20000 (-1) 0 0 s7
set_option maxRecDepth 100000 in
set_option maxHeartbeats 4000000 in
theorem wX12_tells {X : Nat × (Nat → Int32)} {d : Nat} (hd : 10 ≤ d) {a0 : Nat} {x1 : Int32} {s0 : gH} : gGo X rvI mX12_tells d 0 [(0, vr a0), (1, vi x1)] [] s0 (fX12_tells a0 x1 s0) := by
  unfold fX12_tells
  refine go_aload_n 0 dX12_tells_0 rfl rfl ?_
  refine go_getI gf_RX12_307 gcf_12 gft_12_36 dX12_tells_1 (fun v1 => ?_)
  refine go_if_eq (tgt := 17) dX12_tells_4 (by decide) (fun h2 => ?_) (fun h2 => ?_)
  · refine go_iconst (v := -1) dX12_tells_17 (by decide) ?_
    exact go_ret rfl dX12_tells_18
  · refine go_iload_n 1 dX12_tells_7 rfl rfl ?_
    refine go_i2l dX12_tells_8 ?_
    refine go_lconst (v := 0) dX12_tells_9 (by decide) ?_
    refine go_lconst (v := 1) dX12_tells_10 (by decide) ?_
    refine go_callS_I (as := [vl x1.toInt64, vl 0, vl 1]) gk_RX12_110 gmf_X12_isIn (by omega) rfl rfl (Nat.le_of_ble_eq_true rfl) dX12_tells_11 (fun _ _ h => cX12_isIn_c (by omega) h) (fun r3 s4 _ => ?_)
    refine go_if_ne (tgt := 19) dX12_tells_14 (by decide) (fun h5 => ?_) (fun h5 => ?_)
    · refine go_iconst (v := -1) dX12_tells_17 (by decide) ?_
      exact go_ret rfl dX12_tells_18
    · refine go_aload_n 0 dX12_tells_19 rfl rfl ?_
      refine go_callV_I (as := []) gk_RX12_458 gmf_X12_laysFits (by decide) rfl (by omega) rfl rfl (Nat.le_of_ble_eq_true rfl) dX12_tells_20 (fun _ _ h => cX12_laysFits_c (by omega) h) (fun r6 s7 _ => ?_)
      refine go_istore_n (L' := [(2, vi r6), (0, vr a0), (1, vi x1)]) dX12_tells_23 rfl (by decide) rfl ?_
      refine go_iload_n 0 dX12_tells_24 rfl rfl ?_
      refine go_if_ne (tgt := 30) dX12_tells_25 (by decide) (fun h8 => ?_) (fun h8 => ?_)
      · refine go_iconst (v := -1) dX12_tells_28 (by decide) ?_
        exact go_ret rfl dX12_tells_29
      · refine go_iconst (v := -1) dX12_tells_30 (by decide) ?_
        refine go_istore_n (L' := [(3, vi (-1)), (2, vi r6), (0, vr a0), (1, vi x1)]) dX12_tells_31 rfl (by decide) rfl ?_
        refine go_iconst (v := 0) dX12_tells_32 (by decide) ?_
        refine go_istore (L' := [(4, vi 0), (3, vi (-1)), (2, vi r6), (0, vr a0), (1, vi x1)]) dX12_tells_33 (by decide) rfl ?_
        refine go_iconst (v := 0) dX12_tells_35 (by decide) ?_
        refine go_istore (L' := [(5, vi 0), (4, vi 0), (3, vi (-1)), (2, vi r6), (0, vr a0), (1, vi x1)]) dX12_tells_36 (by decide) rfl ?_
        refine go_sub [4, 5, 3, 2, 1, 0] (wX12_tells_L38 hd _ a0 x1 r6 ?_ 20000 (-1) 0 0 s7) rfl
        intro y28 y29 s30
        refine go_iload_n 0 dX12_tells_131 rfl rfl ?_
        refine go_if_ne (tgt := 139) dX12_tells_132 (by decide) (fun h31 => ?_) (fun h31 => ?_)
        · refine go_iload_n 1 dX12_tells_135 rfl rfl ?_
          refine go_goto (tgt := 141) dX12_tells_136 (by decide) ?_
          exact go_ret rfl dX12_tells_141
        · refine go_iload 2 dX12_tells_139 rfl ?_
          exact go_ret rfl dX12_tells_141
set_option maxRecDepth 100000 in
set_option maxHeartbeats 4000000 in
theorem cX12_tells_c {d : Nat} (hd : 10 ≤ d) {a0 : Nat} {x1 : Int32} {s0 : gH} {r : Int32} {s1 : gH} (h : fX12_tells a0 x1 s0 = some (r, s1)) : gMt mX12_tells d [vr a0, vi x1] s0 (some (vi r)) s1 :=
  gMt_of (rv := rvI) (by decide +kernel) (Nat.le_of_ble_eq_true rfl) ⟨_, rfl, rfl⟩ (fun _ => wX12_tells hd) h
def fX5_markOf (a0 : Nat) (x1 : Int32) (x2 : Int32) (s0 : gH) : Option (Int32 × gH) :=
  gb2 (gcv s0 a0 5 (fX5_rowOf a0 x1 1 s0)) fun r1 s2 =>
  gb2 (gcv s2 r1 7 (fX7_indexOf r1 x2 s2)) fun r3 s4 =>
  if r3 = -1 then
    gb2 (gcv s4 a0 5 (fX5_rowOf a0 x1 2 s4)) fun r6 s7 =>
    gb2 (gcv s7 r6 7 (fX7_indexOf r6 x2 s7)) fun r8 s9 =>
    if r8 = -1 then
      some (0, s9)
    else
      some (2, s9)
  else
    some (1, s4)
set_option maxRecDepth 100000 in
set_option maxHeartbeats 4000000 in
theorem wX5_markOf {X : Nat × (Nat → Int32)} {d : Nat} (hd : 2 ≤ d) {a0 : Nat} {x1 : Int32} {x2 : Int32} {s0 : gH} : gGo X rvI mX5_markOf d 0 [(0, vr a0), (1, vi x1), (2, vi x2)] [] s0 (fX5_markOf a0 x1 x2 s0) := by
  unfold fX5_markOf
  refine go_aload_n 0 dX5_markOf_0 rfl rfl ?_
  refine go_iload_n 1 dX5_markOf_1 rfl rfl ?_
  refine go_iconst (v := 1) dX5_markOf_2 (by decide) ?_
  refine go_callV_R (as := [vi x1, vi 1]) gk_RX5_78 gmf_X5_rowOf (by decide) rfl (by omega) rfl rfl (Nat.le_of_ble_eq_true rfl) dX5_markOf_3 (fun _ _ h => cX5_rowOf_c (by omega) h) (fun r1 s2 _ => ?_)
  refine go_iload_n 2 dX5_markOf_6 rfl rfl ?_
  refine go_callV_I (as := [vi x2]) gk_RX5_100 gmf_X7_indexOf (by decide) rfl (by omega) rfl rfl (Nat.le_of_ble_eq_true rfl) dX5_markOf_7 (fun _ _ h => cX7_indexOf_c (by omega) h) (fun r3 s4 _ => ?_)
  refine go_iconst (v := -1) dX5_markOf_10 (by decide) ?_
  refine go_icmp_eq (tgt := 16) dX5_markOf_11 (by decide) (fun h5 => ?_) (fun h5 => ?_)
  · refine go_aload_n 0 dX5_markOf_16 rfl rfl ?_
    refine go_iload_n 1 dX5_markOf_17 rfl rfl ?_
    refine go_iconst (v := 2) dX5_markOf_18 (by decide) ?_
    refine go_callV_R (as := [vi x1, vi 2]) gk_RX5_78 gmf_X5_rowOf (by decide) rfl (by omega) rfl rfl (Nat.le_of_ble_eq_true rfl) dX5_markOf_19 (fun _ _ h => cX5_rowOf_c (by omega) h) (fun r6 s7 _ => ?_)
    refine go_iload_n 2 dX5_markOf_22 rfl rfl ?_
    refine go_callV_I (as := [vi x2]) gk_RX5_100 gmf_X7_indexOf (by decide) rfl (by omega) rfl rfl (Nat.le_of_ble_eq_true rfl) dX5_markOf_23 (fun _ _ h => cX7_indexOf_c (by omega) h) (fun r8 s9 _ => ?_)
    refine go_iconst (v := -1) dX5_markOf_26 (by decide) ?_
    refine go_icmp_eq (tgt := 34) dX5_markOf_27 (by decide) (fun h10 => ?_) (fun h10 => ?_)
    · refine go_iconst (v := 0) dX5_markOf_34 (by decide) ?_
      exact go_ret rfl dX5_markOf_35
    · refine go_iconst (v := 2) dX5_markOf_30 (by decide) ?_
      refine go_goto (tgt := 35) dX5_markOf_31 (by decide) ?_
      exact go_ret rfl dX5_markOf_35
  · refine go_iconst (v := 1) dX5_markOf_14 (by decide) ?_
    exact go_ret rfl dX5_markOf_15
set_option maxRecDepth 100000 in
set_option maxHeartbeats 4000000 in
theorem cX5_markOf_c {d : Nat} (hd : 2 ≤ d) {a0 : Nat} {x1 : Int32} {x2 : Int32} {s0 : gH} {r : Int32} {s1 : gH} (h : fX5_markOf a0 x1 x2 s0 = some (r, s1)) : gMt mX5_markOf d [vr a0, vi x1, vi x2] s0 (some (vi r)) s1 :=
  gMt_of (rv := rvI) (by decide +kernel) (Nat.le_of_ble_eq_true rfl) ⟨_, rfl, rfl⟩ (fun _ => wX5_markOf hd) h
def fX7_remove (a0 : Nat) (x1 : Int32) (s0 : gH) : Option (Unit × gH) :=
  gb2 (gcv s0 a0 7 (fX7_indexOf a0 x1 s0)) fun r1 s2 =>
  if r1 = -1 then
    some ((), s2)
  else
    (ggI s2 a0 7 1).bind fun v4 =>
    (spI s2 a0 7 1 (v4 - 1)).bind fun s5 =>
    (ggR s5 a0 7 0).bind fun v6 =>
    (ggR s5 a0 7 0).bind fun v7 =>
    (ggI s5 a0 7 1).bind fun v8 =>
    (gaI s5 v7 2 v8).bind fun v9 =>
    (saI s5 v6 2 r1 v9).bind fun s10 =>
    some ((), s10)
set_option maxRecDepth 100000 in
set_option maxHeartbeats 4000000 in
theorem wX7_remove {X : Nat × (Nat → Int32)} {d : Nat} (hd : 1 ≤ d) {a0 : Nat} {x1 : Int32} {s0 : gH} : gGo X rvU mX7_remove d 0 [(0, vr a0), (1, vi x1)] [] s0 (fX7_remove a0 x1 s0) := by
  unfold fX7_remove
  refine go_aload_n 0 dX7_remove_0 rfl rfl ?_
  refine go_iload_n 1 dX7_remove_1 rfl rfl ?_
  refine go_callV_I (as := [vi x1]) gk_RX7_25 gmf_X7_indexOf (by decide) rfl (by omega) rfl rfl (Nat.le_of_ble_eq_true rfl) dX7_remove_2 (fun _ _ h => cX7_indexOf_c (by omega) h) (fun r1 s2 _ => ?_)
  refine go_istore_n (L' := [(2, vi r1), (0, vr a0), (1, vi x1)]) dX7_remove_5 rfl (by decide) rfl ?_
  refine go_iload_n 0 dX7_remove_6 rfl rfl ?_
  refine go_iconst (v := -1) dX7_remove_7 (by decide) ?_
  refine go_icmp_eq (tgt := 36) dX7_remove_8 (by decide) (fun h3 => ?_) (fun h3 => ?_)
  · exact go_retv rfl dX7_remove_36
  · refine go_aload_n 1 dX7_remove_11 rfl rfl ?_
    refine go_dup dX7_remove_12 rfl ?_
    refine go_getI gf_RX7_21 gcf_7 gft_7_1 dX7_remove_13 (fun v4 => ?_)
    refine go_iconst (v := 1) dX7_remove_16 (by decide) ?_
    refine go_isub dX7_remove_17 ?_
    refine go_putI gf_RX7_21 gcf_7 gpl_7_1 gft_7_1 dX7_remove_18 (fun s5 _ => ?_)
    refine go_aload_n 1 dX7_remove_21 rfl rfl ?_
    refine go_getR gf_RX7_15 gcf_7 gft_7_0 dX7_remove_22 (fun v6 => ?_)
    refine go_iload_n 0 dX7_remove_25 rfl rfl ?_
    refine go_aload_n 1 dX7_remove_26 rfl rfl ?_
    refine go_getR gf_RX7_15 gcf_7 gft_7_0 dX7_remove_27 (fun v7 => ?_)
    refine go_aload_n 1 dX7_remove_30 rfl rfl ?_
    refine go_getI gf_RX7_21 gcf_7 gft_7_1 dX7_remove_31 (fun v8 => ?_)
    refine go_iaload dX7_remove_34 (fun v9 _ => ?_)
    refine go_iastore dX7_remove_35 (fun s10 _ => ?_)
    exact go_retv rfl dX7_remove_36
set_option maxRecDepth 100000 in
set_option maxHeartbeats 4000000 in
theorem cX7_remove_c {d : Nat} (hd : 1 ≤ d) {a0 : Nat} {x1 : Int32} {s0 : gH} {r : Unit} {s1 : gH} (h : fX7_remove a0 x1 s0 = some (r, s1)) : gMt mX7_remove d [vr a0, vi x1] s0 none s1 :=
  gMt_of (rv := rvU) (by decide +kernel) (Nat.le_of_ble_eq_true rfl) rfl (fun _ => wX7_remove hd) h
def fX5_mark (a0 : Nat) (x1 : Int32) (x2 : Int32) (x3 : Int32) (s0 : gH) : Option (Unit × gH) :=
  gb2 (gcv s0 a0 5 (fX5_rowOf a0 x1 1 s0)) fun r1 s2 =>
  gb2 (gcv s2 r1 7 (fX7_remove r1 x2 s2)) fun r3 s4 =>
  gb2 (gcv s4 a0 5 (fX5_rowOf a0 x1 2 s4)) fun r5 s6 =>
  gb2 (gcv s6 r5 7 (fX7_remove r5 x2 s6)) fun r7 s8 =>
  gjn (fun (s10 : gH) =>
      (ggI s10 a0 5 7).bind fun v11 =>
      (spI s10 a0 5 7 (gmin v11 x1)).bind fun s12 =>
      some ((), s12)
  ) fun j9 =>
  if x3 = 0 then
    j9 s8
  else
    gb2 (gcv s8 a0 5 (fX5_rowOf a0 x1 x3 s8)) fun r14 s15 =>
    gb2 (gcv s15 r14 7 (fX7_append r14 x2 s15)) fun r16 s17 =>
    j9 s17
set_option maxRecDepth 100000 in
set_option maxHeartbeats 4000000 in
theorem wX5_mark {X : Nat × (Nat → Int32)} {d : Nat} (hd : 2 ≤ d) {a0 : Nat} {x1 : Int32} {x2 : Int32} {x3 : Int32} {s0 : gH} : gGo X rvU mX5_mark d 0 [(0, vr a0), (1, vi x1), (2, vi x2), (3, vi x3)] [] s0 (fX5_mark a0 x1 x2 x3 s0) := by
  unfold fX5_mark
  refine go_aload_n 0 dX5_mark_0 rfl rfl ?_
  refine go_iload_n 1 dX5_mark_1 rfl rfl ?_
  refine go_iconst (v := 1) dX5_mark_2 (by decide) ?_
  refine go_callV_R (as := [vi x1, vi 1]) gk_RX5_78 gmf_X5_rowOf (by decide) rfl (by omega) rfl rfl (Nat.le_of_ble_eq_true rfl) dX5_mark_3 (fun _ _ h => cX5_rowOf_c (by omega) h) (fun r1 s2 _ => ?_)
  refine go_iload_n 2 dX5_mark_6 rfl rfl ?_
  refine go_callV_v (as := [vi x2]) gk_RX5_103 gmf_X7_remove (by decide) rfl (by omega) rfl rfl (Nat.le_of_ble_eq_true rfl) dX5_mark_7 (fun _ _ h => cX7_remove_c (by omega) h) (fun r3 s4 _ => ?_)
  refine go_aload_n 0 dX5_mark_10 rfl rfl ?_
  refine go_iload_n 1 dX5_mark_11 rfl rfl ?_
  refine go_iconst (v := 2) dX5_mark_12 (by decide) ?_
  refine go_callV_R (as := [vi x1, vi 2]) gk_RX5_78 gmf_X5_rowOf (by decide) rfl (by omega) rfl rfl (Nat.le_of_ble_eq_true rfl) dX5_mark_13 (fun _ _ h => cX5_rowOf_c (by omega) h) (fun r5 s6 _ => ?_)
  refine go_iload_n 2 dX5_mark_16 rfl rfl ?_
  refine go_callV_v (as := [vi x2]) gk_RX5_103 gmf_X7_remove (by decide) rfl (by omega) rfl rfl (Nat.le_of_ble_eq_true rfl) dX5_mark_17 (fun _ _ h => cX7_remove_c (by omega) h) (fun r7 s8 _ => ?_)
  refine go_iload_n 3 dX5_mark_20 rfl rfl ?_
  refine go_gjn (P := fun j9 => ∀ (s10 : gH), gGo X rvU mX5_mark d 34 [(0, vr a0), (1, vi x1)] [] s10 (j9 s10)) (fun s10 => ?_) (fun j9 hj9 => ?_)
  · refine go_aload_n 0 dX5_mark_34 rfl rfl ?_
    refine go_aload_n 0 dX5_mark_35 rfl rfl ?_
    refine go_getI gf_RX5_53 gcf_5 gft_5_7 dX5_mark_36 (fun v11 => ?_)
    refine go_iload_n 1 dX5_mark_39 rfl rfl ?_
    refine go_mmin gk_RX5_109.1 gmm_min2 gmm_3 gmm_min4 (Nat.le_of_ble_eq_true rfl) dX5_mark_40 ?_
    refine go_putI gf_RX5_53 gcf_5 gpl_5_7 gft_5_7 dX5_mark_43 (fun s12 _ => ?_)
    exact go_retv rfl dX5_mark_46
  · refine go_if_eq (tgt := 34) dX5_mark_21 (by decide) (fun h13 => ?_) (fun h13 => ?_)
    · exact go_sub [0, 1] (hj9 s8) rfl
    · refine go_aload_n 0 dX5_mark_24 rfl rfl ?_
      refine go_iload_n 1 dX5_mark_25 rfl rfl ?_
      refine go_iload_n 3 dX5_mark_26 rfl rfl ?_
      refine go_callV_R (as := [vi x1, vi x3]) gk_RX5_78 gmf_X5_rowOf (by decide) rfl (by omega) rfl rfl (Nat.le_of_ble_eq_true rfl) dX5_mark_27 (fun _ _ h => cX5_rowOf_c (by omega) h) (fun r14 s15 _ => ?_)
      refine go_iload_n 2 dX5_mark_30 rfl rfl ?_
      refine go_callV_v (as := [vi x2]) gk_RX5_106 gmf_X7_append (by decide) rfl (by omega) rfl rfl (Nat.le_of_ble_eq_true rfl) dX5_mark_31 (fun _ _ h => cX7_append_c (by omega) h) (fun r16 s17 _ => ?_)
      exact go_sub [0, 1] (hj9 s17) rfl
set_option maxRecDepth 100000 in
set_option maxHeartbeats 4000000 in
theorem cX5_mark_c {d : Nat} (hd : 2 ≤ d) {a0 : Nat} {x1 : Int32} {x2 : Int32} {x3 : Int32} {s0 : gH} {r : Unit} {s1 : gH} (h : fX5_mark a0 x1 x2 x3 s0 = some (r, s1)) : gMt mX5_mark d [vr a0, vi x1, vi x2, vi x3] s0 none s1 :=
  gMt_of (rv := rvU) (by decide +kernel) (Nat.le_of_ble_eq_true rfl) rfl (fun _ => wX5_mark hd) h
def fX5_turn (a0 : Nat) (x1 : Int32) (x2 : Int32) (x3 : Int32) (s0 : gH) : Option (Int32 × gH) :=
  if x1 < 0 then
    some (-1, s0)
  else
    if x1 < 6 then
      gb2 (fX11_isDay x2 s0) fun r3 s4 =>
      if r3 = 0 then
        some (-1, s4)
      else
        gb2 (gcv s4 a0 5 (fX5_markOf a0 x1 x2 s4)) fun r6 s7 =>
        gjn (fun (z9 : Int32) (s10 : gH) =>
            gjn (fun (s12 : gH) =>
                gb2 (gcv s12 a0 5 (fX5_mark a0 x1 x2 z9 s12)) fun r13 s14 =>
                some ((((x1 * 14610) + x2) * 3) + r6, s14)
            ) fun j11 =>
            if z9 = 0 then
              j11 s10
            else
              gb2 (gcv s10 a0 5 (fX5_rowOf a0 x1 z9 s10)) fun r16 s17 =>
              (ggI s17 r16 7 1).bind fun v18 =>
              if v18 < 20 then
                j11 s17
              else
                some (-1, s17)
        ) fun j8 =>
        if r6 = 0 then
          j8 x3 s7
        else
          j8 0 s7
    else
      some (-1, s0)
set_option maxRecDepth 100000 in
set_option maxHeartbeats 4000000 in
theorem wX5_turn {X : Nat × (Nat → Int32)} {d : Nat} (hd : 3 ≤ d) {a0 : Nat} {x1 : Int32} {x2 : Int32} {x3 : Int32} {s0 : gH} : gGo X rvI mX5_turn d 0 [(0, vr a0), (1, vi x1), (2, vi x2), (3, vi x3)] [] s0 (fX5_turn a0 x1 x2 x3 s0) := by
  unfold fX5_turn
  refine go_iload_n 1 dX5_turn_0 rfl rfl ?_
  refine go_if_lt (tgt := 17) dX5_turn_1 (by decide) (fun h1 => ?_) (fun h1 => ?_)
  · refine go_iconst (v := -1) dX5_turn_17 (by decide) ?_
    exact go_ret rfl dX5_turn_18
  · refine go_iload_n 1 dX5_turn_4 rfl rfl ?_
    refine go_bipush (v := 6) dX5_turn_5 (by decide) ?_
    refine go_icmp_ge (tgt := 17) dX5_turn_7 (by decide) (fun h2 => ?_) (fun h2 => ?_)
    · refine go_iload_n 2 dX5_turn_10 rfl rfl ?_
      refine go_callSN_I (as := [vi x2]) (List.mem_of_getElem? (i := 10) rfl) gst_X11_isDay gmf_X11_isDay (by omega) rfl rfl (Nat.le_of_ble_eq_true rfl) dX5_turn_11 (fun _ _ h => cX11_isDay_c (by omega) h) (fun r3 s4 _ => ?_)
      refine go_if_ne (tgt := 19) dX5_turn_14 (by decide) (fun h5 => ?_) (fun h5 => ?_)
      · refine go_iconst (v := -1) dX5_turn_17 (by decide) ?_
        exact go_ret rfl dX5_turn_18
      · refine go_aload_n 0 dX5_turn_19 rfl rfl ?_
        refine go_iload_n 1 dX5_turn_20 rfl rfl ?_
        refine go_iload_n 2 dX5_turn_21 rfl rfl ?_
        refine go_callV_I (as := [vi x1, vi x2]) gk_RX5_88 gmf_X5_markOf (by decide) rfl (by omega) rfl rfl (Nat.le_of_ble_eq_true rfl) dX5_turn_22 (fun _ _ h => cX5_markOf_c (by omega) h) (fun r6 s7 _ => ?_)
        refine go_istore (L' := [(4, vi r6), (0, vr a0), (1, vi x1), (2, vi x2), (3, vi x3)]) dX5_turn_25 (by decide) rfl ?_
        refine go_iload 0 dX5_turn_27 rfl ?_
        refine go_gjn (P := fun j8 => ∀ (z9 : Int32) (s10 : gH), gGo X rvI mX5_turn d 37 [(0, vr a0), (1, vi x1), (2, vi x2), (4, vi r6)] [vi z9] s10 (j8 z9 s10)) (fun z9 s10 => ?_) (fun j8 hj8 => ?_)
        · refine go_istore (L' := [(5, vi z9), (0, vr a0), (1, vi x1), (2, vi x2), (4, vi r6)]) dX5_turn_37 (by decide) rfl ?_
          refine go_iload 0 dX5_turn_39 rfl ?_
          refine go_gjn (P := fun j11 => ∀ (s12 : gH), gGo X rvI mX5_turn d 61 [(0, vr a0), (1, vi x1), (2, vi x2), (4, vi r6), (5, vi z9)] [] s12 (j11 s12)) (fun s12 => ?_) (fun j11 hj11 => ?_)
          · refine go_aload_n 0 dX5_turn_61 rfl rfl ?_
            refine go_iload_n 1 dX5_turn_62 rfl rfl ?_
            refine go_iload_n 2 dX5_turn_63 rfl rfl ?_
            refine go_iload 4 dX5_turn_64 rfl ?_
            refine go_callV_v (as := [vi x1, vi x2, vi z9]) gk_RX5_92 gmf_X5_mark (by decide) rfl (by omega) rfl rfl (Nat.le_of_ble_eq_true rfl) dX5_turn_66 (fun _ _ h => cX5_mark_c (by omega) h) (fun r13 s14 _ => ?_)
            refine go_iload_n 1 dX5_turn_69 rfl rfl ?_
            refine go_sipush (v := 14610) dX5_turn_70 (by decide) ?_
            refine go_imul dX5_turn_73 ?_
            refine go_iload_n 2 dX5_turn_74 rfl rfl ?_
            refine go_iadd dX5_turn_75 ?_
            refine go_iconst (v := 3) dX5_turn_76 (by decide) ?_
            refine go_imul dX5_turn_77 ?_
            refine go_iload 3 dX5_turn_78 rfl ?_
            refine go_iadd dX5_turn_80 ?_
            exact go_ret rfl dX5_turn_81
          · refine go_if_eq (tgt := 61) dX5_turn_41 (by decide) (fun h15 => ?_) (fun h15 => ?_)
            · exact go_sub [1, 2, 3, 4, 0] (hj11 s10) rfl
            · refine go_aload_n 1 dX5_turn_44 rfl rfl ?_
              refine go_iload_n 2 dX5_turn_45 rfl rfl ?_
              refine go_iload 0 dX5_turn_46 rfl ?_
              refine go_callV_R (as := [vi x1, vi z9]) gk_RX5_78 gmf_X5_rowOf (by decide) rfl (by omega) rfl rfl (Nat.le_of_ble_eq_true rfl) dX5_turn_48 (fun _ _ h => cX5_rowOf_c (by omega) h) (fun r16 s17 _ => ?_)
              refine go_getI gf_RX5_82 gcf_7 gft_7_1 dX5_turn_51 (fun v18 => ?_)
              refine go_bipush (v := 20) dX5_turn_54 (by decide) ?_
              refine go_icmp_lt (tgt := 61) dX5_turn_56 (by decide) (fun h19 => ?_) (fun h19 => ?_)
              · exact go_sub [1, 2, 3, 4, 0] (hj11 s17) rfl
              · refine go_iconst (v := -1) dX5_turn_59 (by decide) ?_
                exact go_ret rfl dX5_turn_60
        · refine go_if_ne (tgt := 36) dX5_turn_29 (by decide) (fun h20 => ?_) (fun h20 => ?_)
          · refine go_iload_n 4 dX5_turn_32 rfl rfl ?_
            refine go_goto (tgt := 37) dX5_turn_33 (by decide) ?_
            exact go_sub [1, 2, 3, 0] (hj8 x3 s7) rfl
          · refine go_iconst (v := 0) dX5_turn_36 (by decide) ?_
            exact go_sub [1, 2, 3, 0] (hj8 0 s7) rfl
    · refine go_iconst (v := -1) dX5_turn_17 (by decide) ?_
      exact go_ret rfl dX5_turn_18
set_option maxRecDepth 100000 in
set_option maxHeartbeats 4000000 in
theorem cX5_turn_c {d : Nat} (hd : 3 ≤ d) {a0 : Nat} {x1 : Int32} {x2 : Int32} {x3 : Int32} {s0 : gH} {r : Int32} {s1 : gH} (h : fX5_turn a0 x1 x2 x3 s0 = some (r, s1)) : gMt mX5_turn d [vr a0, vi x1, vi x2, vi x3] s0 (some (vi r)) s1 :=
  gMt_of (rv := rvI) (by decide +kernel) (Nat.le_of_ble_eq_true rfl) ⟨_, rfl, rfl⟩ (fun _ => wX5_turn hd) h
def fX4_openRule (a0 : Nat) (x1 : Int32) (x2 : Int32) (x3 : Int32) (s0 : gH) : Option (Unit × gH) :=
  (ggI s0 a0 4 4).bind fun v1 =>
  (spI s0 a0 4 4 (gIrem (v1 + 1) 20)).bind fun s2 =>
  (ggI s2 a0 4 5).bind fun v3 =>
  (spI s2 a0 4 5 (gmin 20 (v3 + 1))).bind fun s4 =>
  (ggR s4 a0 4 0).bind fun v5 =>
  (ggI s4 a0 4 4).bind fun v6 =>
  (saI s4 v5 2 v6 x1).bind fun s7 =>
  (ggR s7 a0 4 1).bind fun v8 =>
  (ggI s7 a0 4 4).bind fun v9 =>
  (saI s7 v8 2 v9 x2).bind fun s10 =>
  (ggR s10 a0 4 2).bind fun v11 =>
  (ggI s10 a0 4 4).bind fun v12 =>
  (saI s10 v11 2 v12 x3).bind fun s13 =>
  (ggR s13 a0 4 3).bind fun v14 =>
  (ggI s13 a0 4 4).bind fun v15 =>
  (gaR s13 v14 6 v15).bind fun v16 =>
  gb2 (gcv s13 v16 7 (fX7_clear v16 s13)) fun r17 s18 =>
  some ((), s18)
set_option maxRecDepth 100000 in
set_option maxHeartbeats 4000000 in
theorem wX4_openRule {X : Nat × (Nat → Int32)} {d : Nat} (hd : 1 ≤ d) {a0 : Nat} {x1 : Int32} {x2 : Int32} {x3 : Int32} {s0 : gH} : gGo X rvU mX4_openRule d 0 [(0, vr a0), (1, vi x1), (2, vi x2), (3, vi x3)] [] s0 (fX4_openRule a0 x1 x2 x3 s0) := by
  unfold fX4_openRule
  refine go_aload_n 0 dX4_openRule_0 rfl rfl ?_
  refine go_aload_n 0 dX4_openRule_1 rfl rfl ?_
  refine go_getI gf_RX4_38 gcf_4 gft_4_4 dX4_openRule_2 (fun v1 => ?_)
  refine go_iconst (v := 1) dX4_openRule_5 (by decide) ?_
  refine go_iadd dX4_openRule_6 ?_
  refine go_bipush (v := 20) dX4_openRule_7 (by decide) ?_
  refine go_iremc dX4_openRule_9 (by decide) ?_
  refine go_putI gf_RX4_38 gcf_4 gpl_4_4 gft_4_4 dX4_openRule_10 (fun s2 _ => ?_)
  refine go_aload_n 0 dX4_openRule_13 rfl rfl ?_
  refine go_bipush (v := 20) dX4_openRule_14 (by decide) ?_
  refine go_aload_n 0 dX4_openRule_16 rfl rfl ?_
  refine go_getI gf_RX4_30 gcf_4 gft_4_5 dX4_openRule_17 (fun v3 => ?_)
  refine go_iconst (v := 1) dX4_openRule_20 (by decide) ?_
  refine go_iadd dX4_openRule_21 ?_
  refine go_mmin gk_RX4_41.1 gmm_min2 gmm_3 gmm_min4 (Nat.le_of_ble_eq_true rfl) dX4_openRule_22 ?_
  refine go_putI gf_RX4_30 gcf_4 gpl_4_5 gft_4_5 dX4_openRule_25 (fun s4 _ => ?_)
  refine go_aload_n 0 dX4_openRule_28 rfl rfl ?_
  refine go_getR gf_RX4_9 gcf_4 gft_4_0 dX4_openRule_29 (fun v5 => ?_)
  refine go_aload_n 0 dX4_openRule_32 rfl rfl ?_
  refine go_getI gf_RX4_38 gcf_4 gft_4_4 dX4_openRule_33 (fun v6 => ?_)
  refine go_iload_n 1 dX4_openRule_36 rfl rfl ?_
  refine go_iastore dX4_openRule_37 (fun s7 _ => ?_)
  refine go_aload_n 0 dX4_openRule_38 rfl rfl ?_
  refine go_getR gf_RX4_15 gcf_4 gft_4_1 dX4_openRule_39 (fun v8 => ?_)
  refine go_aload_n 0 dX4_openRule_42 rfl rfl ?_
  refine go_getI gf_RX4_38 gcf_4 gft_4_4 dX4_openRule_43 (fun v9 => ?_)
  refine go_iload_n 2 dX4_openRule_46 rfl rfl ?_
  refine go_iastore dX4_openRule_47 (fun s10 _ => ?_)
  refine go_aload_n 0 dX4_openRule_48 rfl rfl ?_
  refine go_getR gf_RX4_18 gcf_4 gft_4_2 dX4_openRule_49 (fun v11 => ?_)
  refine go_aload_n 0 dX4_openRule_52 rfl rfl ?_
  refine go_getI gf_RX4_38 gcf_4 gft_4_4 dX4_openRule_53 (fun v12 => ?_)
  refine go_iload_n 3 dX4_openRule_56 rfl rfl ?_
  refine go_iastore dX4_openRule_57 (fun s13 _ => ?_)
  refine go_aload_n 0 dX4_openRule_58 rfl rfl ?_
  refine go_getR gf_RX4_23 gcf_4 gft_4_3 dX4_openRule_59 (fun v14 => ?_)
  refine go_aload_n 0 dX4_openRule_62 rfl rfl ?_
  refine go_getI gf_RX4_38 gcf_4 gft_4_4 dX4_openRule_63 (fun v15 => ?_)
  refine go_aaload (t := 6) (by decide) (by decide) dX4_openRule_66 (fun v16 _ => ?_)
  refine go_callV_v (as := []) gk_RX4_47 gmf_X7_clear (by decide) rfl (by omega) rfl rfl (Nat.le_of_ble_eq_true rfl) dX4_openRule_67 (fun _ _ h => cX7_clear_c (by omega) h) (fun r17 s18 _ => ?_)
  exact go_retv rfl dX4_openRule_70
set_option maxRecDepth 100000 in
set_option maxHeartbeats 4000000 in
theorem cX4_openRule_c {d : Nat} (hd : 1 ≤ d) {a0 : Nat} {x1 : Int32} {x2 : Int32} {x3 : Int32} {s0 : gH} {r : Unit} {s1 : gH} (h : fX4_openRule a0 x1 x2 x3 s0 = some (r, s1)) : gMt mX4_openRule d [vr a0, vi x1, vi x2, vi x3] s0 none s1 :=
  gMt_of (rv := rvU) (by decide +kernel) (Nat.le_of_ble_eq_true rfl) rfl (fun _ => wX4_openRule hd) h
def fX4_openMarks (a0 : Nat) (s0 : gH) : Option (Unit × gH) :=
  gb2 (gcv s0 a0 4 (fX4_openRule a0 0 (-1) (-1) s0)) fun r1 s2 =>
  some ((), s2)
set_option maxRecDepth 100000 in
set_option maxHeartbeats 4000000 in
theorem wX4_openMarks {X : Nat × (Nat → Int32)} {d : Nat} (hd : 2 ≤ d) {a0 : Nat} {s0 : gH} : gGo X rvU mX4_openMarks d 0 [(0, vr a0)] [] s0 (fX4_openMarks a0 s0) := by
  unfold fX4_openMarks
  refine go_aload_n 0 dX4_openMarks_0 rfl rfl ?_
  refine go_iconst (v := 0) dX4_openMarks_1 (by decide) ?_
  refine go_iconst (v := -1) dX4_openMarks_2 (by decide) ?_
  refine go_iconst (v := -1) dX4_openMarks_3 (by decide) ?_
  refine go_callV_v (as := [vi 0, vi (-1), vi (-1)]) gk_RX4_34 gmf_X4_openRule (by decide) rfl (by omega) rfl rfl (Nat.le_of_ble_eq_true rfl) dX4_openMarks_4 (fun _ _ h => cX4_openRule_c (by omega) h) (fun r1 s2 _ => ?_)
  exact go_retv rfl dX4_openMarks_7
set_option maxRecDepth 100000 in
set_option maxHeartbeats 4000000 in
theorem cX4_openMarks_c {d : Nat} (hd : 2 ≤ d) {a0 : Nat} {s0 : gH} {r : Unit} {s1 : gH} (h : fX4_openMarks a0 s0 = some (r, s1)) : gMt mX4_openMarks d [vr a0] s0 none s1 :=
  gMt_of (rv := rvU) (by decide +kernel) (Nat.le_of_ble_eq_true rfl) rfl (fun _ => wX4_openMarks hd) h
def fX4_latestChanges (a0 : Nat) (s0 : gH) : Option (Nat × gH) :=
  (ggR s0 a0 4 3).bind fun v1 =>
  (ggI s0 a0 4 4).bind fun v2 =>
  (gaR s0 v1 6 v2).bind fun v3 =>
  some (v3, s0)
set_option maxRecDepth 100000 in
set_option maxHeartbeats 4000000 in
theorem wX4_latestChanges {X : Nat × (Nat → Int32)} {d : Nat} (hd : 0 ≤ d) {a0 : Nat} {s0 : gH} : gGo X rvR mX4_latestChanges d 0 [(0, vr a0)] [] s0 (fX4_latestChanges a0 s0) := by
  unfold fX4_latestChanges
  refine go_aload_n 0 dX4_latestChanges_0 rfl rfl ?_
  refine go_getR gf_RX4_23 gcf_4 gft_4_3 dX4_latestChanges_1 (fun v1 => ?_)
  refine go_aload_n 0 dX4_latestChanges_4 rfl rfl ?_
  refine go_getI gf_RX4_38 gcf_4 gft_4_4 dX4_latestChanges_5 (fun v2 => ?_)
  refine go_aaload (t := 6) (by decide) (by decide) dX4_latestChanges_8 (fun v3 _ => ?_)
  exact go_ret rfl dX4_latestChanges_9
set_option maxRecDepth 100000 in
set_option maxHeartbeats 4000000 in
theorem cX4_latestChanges_c {d : Nat} (hd : 0 ≤ d) {a0 : Nat} {s0 : gH} {r : Nat} {s1 : gH} (h : fX4_latestChanges a0 s0 = some (r, s1)) : gMt mX4_latestChanges d [vr a0] s0 (some (vr r)) s1 :=
  gMt_of (rv := rvR) (by decide +kernel) (Nat.le_of_ble_eq_true rfl) ⟨_, rfl, (Or.inl ⟨_, rfl⟩)⟩ (fun _ => wX4_latestChanges hd) h
def gX11_turn (a0 : Nat) (x1 : Int32) (x2 : Int32) (x3 : Int32) (s0 : gH) : Option (Int32 × gH) :=
  gjn (fun (b2 : Nat) (s3 : gH) =>
      gjn (fun (s5 : gH) =>
          gb2 (gcv s5 a0 11 (fX11_deny a0 2 s5)) fun r6 s7 =>
          some (r6, s7)
      ) fun j4 =>
      if b2 = 0 then
        j4 s3
      else
        gb2 (gcv s3 b2 2 (fX2_holds b2 x2 s3)) fun r9 s10 =>
        gjn (fun (z12 : Int32) (z13 : Int32) (s14 : gH) =>
            if z13 = z12 then
              (ggR s14 a0 11 3).bind fun v16 =>
              gb2 (gcv s14 v16 5 (fX5_turn v16 x1 x2 x3 s14)) fun r17 s18 =>
              if r17 = -1 then
                gb2 (gcv s18 a0 11 (fX11_deny a0 2 s18)) fun r20 s21 =>
                some (r20, s21)
              else
                (ggR s18 a0 11 4).bind fun v22 =>
                gb2 (gcv s18 v22 4 (fX4_openMarks v22 s18)) fun r23 s24 =>
                (ggR s24 a0 11 4).bind fun v25 =>
                gb2 (gcv s24 v25 4 (fX4_latestChanges v25 s24)) fun r26 s27 =>
                gb2 (gcv s27 r26 7 (fX7_append r26 r17 s27)) fun r28 s29 =>
                some (1, s29)
            else
              j4 s14
        ) fun j11 =>
        if x3 = 2 then
          j11 1 r9 s10
        else
          j11 0 r9 s10
  ) fun j1 =>
  if x1 < 0 then
    j1 0 s0
  else
    (ggR s0 a0 11 3).bind fun v32 =>
    gb2 (gcv s0 v32 5 (fX5_daysOf v32 (6 + x1) s0)) fun r33 s34 =>
    j1 r33 s34
def fX11_turn (a0 : Nat) (x1 : Int32) (x2 : Int32) (x3 : Int32) (s0 : gH) : Option (Int32 × gH) := gzr (gX11_turn a0 x1 x2 x3 s0)
set_option maxRecDepth 100000 in
set_option maxHeartbeats 4000000 in
theorem wX11_turn {X : Nat × (Nat → Int32)} {d : Nat} (hd : 6 ≤ d) {a0 : Nat} {x1 : Int32} {x2 : Int32} {x3 : Int32} {s0 : gH} : gGo X rvI mX11_turn d 0 [(0, vr a0), (1, vi x1), (2, vi x2), (3, vi x3)] [] s0 (gX11_turn a0 x1 x2 x3 s0) := by
  unfold gX11_turn
  refine go_iload_n 1 dX11_turn_0 rfl rfl ?_
  refine go_gjn (P := fun j1 => ∀ (b2 : Nat) (s3 : gH), gGo X rvI mX11_turn d 19 [(0, vr a0), (1, vi x1), (2, vi x2), (3, vi x3)] [vr b2] s3 (j1 b2 s3)) (fun b2 s3 => ?_) (fun j1 hj1 => ?_)
  · refine go_astore (L' := [(4, vr b2), (0, vr a0), (1, vi x1), (2, vi x2), (3, vi x3)]) dX11_turn_19 (by decide) rfl ?_
    refine go_aload 0 dX11_turn_21 rfl ?_
    refine go_gjn (P := fun j4 => ∀ (s5 : gH), gGo X rvI mX11_turn d 45 [(0, vr a0)] [] s5 (j4 s5)) (fun s5 => ?_) (fun j4 hj4 => ?_)
    · refine go_aload_n 0 dX11_turn_45 rfl rfl ?_
      refine go_iconst (v := 2) dX11_turn_46 (by decide) ?_
      refine go_callV_I (as := [vi 2]) gk_RX11_86 gmf_X11_deny (by decide) rfl (by omega) rfl rfl (Nat.le_of_ble_eq_true rfl) dX11_turn_47 (fun _ _ h => cX11_deny_c (by omega) h) (fun r6 s7 _ => ?_)
      exact go_ret rfl dX11_turn_50
    · refine go_ifnull (tgt := 45) dX11_turn_23 (by decide) (fun h8 => ?_) (fun h8 => ?_)
      · exact go_sub [1] (hj4 s3) rfl
      · refine go_aload 0 dX11_turn_26 rfl ?_
        refine go_iload_n 3 dX11_turn_28 rfl rfl ?_
        refine go_callV_I (as := [vi x2]) gk_RX11_149 gmf_X2_holds (by decide) rfl (by omega) rfl rfl (Nat.le_of_ble_eq_true rfl) dX11_turn_29 (fun _ _ h => cX2_holds_c (by omega) h) (fun r9 s10 _ => ?_)
        refine go_iload_n 4 dX11_turn_32 rfl rfl ?_
        refine go_iconst (v := 2) dX11_turn_33 (by decide) ?_
        refine go_gjn (P := fun j11 => ∀ (z12 : Int32) (z13 : Int32) (s14 : gH), gGo X rvI mX11_turn d 42 [(0, vr a0), (1, vi x1), (2, vi x2), (3, vi x3)] [vi z12, vi z13] s14 (j11 z12 z13 s14)) (fun z12 z13 s14 => ?_) (fun j11 hj11 => ?_)
        · refine go_icmp_eq (tgt := 51) dX11_turn_42 (by decide) (fun h15 => ?_) (fun h15 => ?_)
          · refine go_aload_n 0 dX11_turn_51 rfl rfl ?_
            refine go_getR gf_RX11_35 gcf_11 gft_11_3 dX11_turn_52 (fun v16 => ?_)
            refine go_iload_n 1 dX11_turn_55 rfl rfl ?_
            refine go_iload_n 2 dX11_turn_56 rfl rfl ?_
            refine go_iload_n 3 dX11_turn_57 rfl rfl ?_
            refine go_callV_I (as := [vi x1, vi x2, vi x3]) gk_RX11_255 gmf_X5_turn (by decide) rfl (by omega) rfl rfl (Nat.le_of_ble_eq_true rfl) dX11_turn_58 (fun _ _ h => cX5_turn_c (by omega) h) (fun r17 s18 _ => ?_)
            refine go_istore (L' := [(5, vi r17), (0, vr a0), (1, vi x1), (2, vi x2), (3, vi x3)]) dX11_turn_61 (by decide) rfl ?_
            refine go_iload 0 dX11_turn_63 rfl ?_
            refine go_iconst (v := -1) dX11_turn_65 (by decide) ?_
            refine go_icmp_ne (tgt := 75) dX11_turn_66 (by decide) (fun h19 => ?_) (fun h19 => ?_)
            · refine go_aload_n 1 dX11_turn_69 rfl rfl ?_
              refine go_iconst (v := 2) dX11_turn_70 (by decide) ?_
              refine go_callV_I (as := [vi 2]) gk_RX11_86 gmf_X11_deny (by decide) rfl (by omega) rfl rfl (Nat.le_of_ble_eq_true rfl) dX11_turn_71 (fun _ _ h => cX11_deny_c (by omega) h) (fun r20 s21 _ => ?_)
              exact go_ret rfl dX11_turn_74
            · refine go_aload_n 1 dX11_turn_75 rfl rfl ?_
              refine go_getR gf_RX11_42 gcf_11 gft_11_4 dX11_turn_76 (fun v22 => ?_)
              refine go_callV_v (as := []) gk_RX11_245 gmf_X4_openMarks (by decide) rfl (by omega) rfl rfl (Nat.le_of_ble_eq_true rfl) dX11_turn_79 (fun _ _ h => cX4_openMarks_c (by omega) h) (fun r23 s24 _ => ?_)
              refine go_aload_n 1 dX11_turn_82 rfl rfl ?_
              refine go_getR gf_RX11_42 gcf_11 gft_11_4 dX11_turn_83 (fun v25 => ?_)
              refine go_callV_R (as := []) gk_RX11_248 gmf_X4_latestChanges (by decide) rfl (by omega) rfl rfl (Nat.le_of_ble_eq_true rfl) dX11_turn_86 (fun _ _ h => cX4_latestChanges_c (by omega) h) (fun r26 s27 _ => ?_)
              refine go_iload 0 dX11_turn_89 rfl ?_
              refine go_callV_v (as := [vi r17]) gk_RX11_258 gmf_X7_append (by decide) rfl (by omega) rfl rfl (Nat.le_of_ble_eq_true rfl) dX11_turn_91 (fun _ _ h => cX7_append_c (by omega) h) (fun r28 s29 _ => ?_)
              refine go_iconst (v := 1) dX11_turn_94 (by decide) ?_
              exact go_ret rfl dX11_turn_95
          · exact go_sub [0] (hj4 s14) rfl
        · refine go_icmp_ne (tgt := 41) dX11_turn_34 (by decide) (fun h30 => ?_) (fun h30 => ?_)
          · refine go_iconst (v := 1) dX11_turn_37 (by decide) ?_
            refine go_goto (tgt := 42) dX11_turn_38 (by decide) ?_
            exact go_sub [1, 2, 3, 4] (hj11 1 r9 s10) rfl
          · refine go_iconst (v := 0) dX11_turn_41 (by decide) ?_
            exact go_sub [1, 2, 3, 4] (hj11 0 r9 s10) rfl
  · refine go_if_ge (tgt := 8) dX11_turn_1 (by decide) (fun h31 => ?_) (fun h31 => ?_)
    · refine go_null dX11_turn_4 ?_
      refine go_goto (tgt := 19) dX11_turn_5 (by decide) ?_
      exact go_sub [0, 1, 2, 3] (hj1 0 s0) rfl
    · refine go_aload_n 0 dX11_turn_8 rfl rfl ?_
      refine go_getR gf_RX11_35 gcf_11 gft_11_3 dX11_turn_9 (fun v32 => ?_)
      refine go_bipush (v := 6) dX11_turn_12 (by decide) ?_
      refine go_iload_n 1 dX11_turn_14 rfl rfl ?_
      refine go_iadd dX11_turn_15 ?_
      refine go_callV_R (as := [vi (6 + x1)]) gk_RX11_145 gmf_X5_daysOf (by decide) rfl (by omega) rfl rfl (Nat.le_of_ble_eq_true rfl) dX11_turn_16 (fun _ _ h => cX5_daysOf_c (by omega) h) (fun r33 s34 _ => ?_)
      exact go_sub [0, 1, 2, 3] (hj1 r33 s34) rfl
set_option maxRecDepth 100000 in
set_option maxHeartbeats 4000000 in
theorem cX11_turn_c {d : Nat} (hd : 6 ≤ d) {a0 : Nat} {x1 : Int32} {x2 : Int32} {x3 : Int32} {s0 : gH} {r : Int32} {s1 : gH} (h : fX11_turn a0 x1 x2 x3 s0 = some (r, s1)) : gMt mX11_turn d [vr a0, vi x1, vi x2, vi x3] s0 (some (vi r)) s1 := by
  obtain ⟨h1, h2⟩ := gzr_some h
  exact gMt_of (rv := rvI) (by decide +kernel) (Nat.le_of_ble_eq_true rfl) ⟨_, rfl, gnarZ h2⟩ (fun _ => wX11_turn hd) h1
def gX11_add (a0 : Nat) (x1 : Int32) (x2 : Int32) (s0 : gH) : Option (Int32 × gH) :=
  gb2 (gcv s0 a0 11 (fX11_turn a0 x1 x2 1 s0)) fun r1 s2 =>
  some (r1, s2)
def fX11_add (a0 : Nat) (x1 : Int32) (x2 : Int32) (s0 : gH) : Option (Int32 × gH) := gzr (gX11_add a0 x1 x2 s0)
set_option maxRecDepth 100000 in
set_option maxHeartbeats 4000000 in
theorem wX11_add {X : Nat × (Nat → Int32)} {d : Nat} (hd : 7 ≤ d) {a0 : Nat} {x1 : Int32} {x2 : Int32} {s0 : gH} : gGo X rvI mX11_add d 0 [(0, vr a0), (1, vi x1), (2, vi x2)] [] s0 (gX11_add a0 x1 x2 s0) := by
  unfold gX11_add
  refine go_aload_n 0 dX11_add_0 rfl rfl ?_
  refine go_iload_n 1 dX11_add_1 rfl rfl ?_
  refine go_iload_n 2 dX11_add_2 rfl rfl ?_
  refine go_iconst (v := 1) dX11_add_3 (by decide) ?_
  refine go_callV_I (as := [vi x1, vi x2, vi 1]) gk_RX11_222 gmf_X11_turn (by decide) rfl (by omega) rfl rfl (Nat.le_of_ble_eq_true rfl) dX11_add_4 (fun _ _ h => cX11_turn_c (by omega) h) (fun r1 s2 _ => ?_)
  exact go_ret rfl dX11_add_7
set_option maxRecDepth 100000 in
set_option maxHeartbeats 4000000 in
theorem cX11_add_c {d : Nat} (hd : 7 ≤ d) {a0 : Nat} {x1 : Int32} {x2 : Int32} {s0 : gH} {r : Int32} {s1 : gH} (h : fX11_add a0 x1 x2 s0 = some (r, s1)) : gMt mX11_add d [vr a0, vi x1, vi x2] s0 (some (vi r)) s1 := by
  obtain ⟨h1, h2⟩ := gzr_some h
  exact gMt_of (rv := rvI) (by decide +kernel) (Nat.le_of_ble_eq_true rfl) ⟨_, rfl, gnarZ h2⟩ (fun _ => wX11_add hd) h1
def gX12_handOf_L10  (a0 : Nat) (x3 : Int32) (x4 : Int32) : Nat → Int32 → gH → Option (Int32 × gH)
  | 0, _, _ => none
  | n + 1, x5, s0 =>
    (ggR s0 a0 12 29).bind fun v4 =>
    (gaI s0 v4 2 x4).bind fun v5 =>
    if v5 < x5 then
      some (-1, s0)
    else
      (ggR s0 a0 12 29).bind fun v7 =>
      (gaI s0 v7 2 (x4 + x5)).bind fun v8 =>
      if v8 = x3 then
        some (x5, s0)
      else
        gX12_handOf_L10 a0 x3 x4 n (x5 + 1) s0
set_option maxRecDepth 100000 in
set_option maxHeartbeats 4000000 in
theorem wX12_handOf_L10 {X : Nat × (Nat → Int32)} {d : Nat} (hd : 1 ≤ d)  (a0 : Nat) (x3 : Int32) (x4 : Int32) : ∀ (n : Nat) (x5 : Int32) (s0 : gH), gGo X rvI mX12_handOf d 10 [(0, vr a0), (3, vi x3), (4, vi x4), (5, vi x5)] [] s0 (gX12_handOf_L10 a0 x3 x4 n x5 s0) := by
  intro n
  induction n with
  | zero => intros; exact go_none
  | succ n ih =>
    intro x5 s0
    show gGo _ _ _ _ _ _ _ _ (gX12_handOf_L10 a0 x3 x4 (n + 1) x5 s0)
    unfold gX12_handOf_L10
    refine go_iload 3 dX12_handOf_10 rfl ?_
    refine go_aload_n 0 dX12_handOf_12 rfl rfl ?_
    refine go_getR gf_RX12_54 gcf_12 gft_12_29 dX12_handOf_13 (fun v4 => ?_)
    refine go_iload 2 dX12_handOf_16 rfl ?_
    refine go_iaload dX12_handOf_18 (fun v5 _ => ?_)
    refine go_icmp_gt (tgt := 45) dX12_handOf_19 (by decide) (fun h6 => ?_) (fun h6 => ?_)
    · refine go_iconst (v := -1) dX12_handOf_45 (by decide) ?_
      exact go_ret rfl dX12_handOf_46
    · refine go_aload_n 0 dX12_handOf_22 rfl rfl ?_
      refine go_getR gf_RX12_54 gcf_12 gft_12_29 dX12_handOf_23 (fun v7 => ?_)
      refine go_iload 2 dX12_handOf_26 rfl ?_
      refine go_iload 3 dX12_handOf_28 rfl ?_
      refine go_iadd dX12_handOf_30 ?_
      refine go_iaload dX12_handOf_31 (fun v8 _ => ?_)
      refine go_iload_n 1 dX12_handOf_32 rfl rfl ?_
      refine go_icmp_ne (tgt := 39) dX12_handOf_33 (by decide) (fun h9 => ?_) (fun h9 => ?_)
      · refine go_iload 3 dX12_handOf_36 rfl ?_
        exact go_ret rfl dX12_handOf_38
      · refine go_iinc (v := 1) (L' := [(5, vi (x5 + 1)), (0, vr a0), (3, vi x3), (4, vi x4)]) 3 dX12_handOf_39 rfl (by decide) (by decide) rfl ?_
        refine go_goto (tgt := 10) dX12_handOf_42 (by decide) ?_
        exact go_sub [1, 2, 3, 0] (ih (x5 + 1) s0) rfl
def fX12_handOf (a0 : Nat) (x1 : Int32) (x2 : Int32) (x3 : Int32) (s0 : gH) : Option (Int32 × gH) :=
  gb2 (fX12_handAt x1 x2 s0) fun r1 s2 =>
  gX12_handOf_L10
    a0 x3 r1 20000 1 s2
set_option maxRecDepth 100000 in
set_option maxHeartbeats 4000000 in
theorem wX12_handOf {X : Nat × (Nat → Int32)} {d : Nat} (hd : 1 ≤ d) {a0 : Nat} {x1 : Int32} {x2 : Int32} {x3 : Int32} {s0 : gH} : gGo X rvI mX12_handOf d 0 [(0, vr a0), (1, vi x1), (2, vi x2), (3, vi x3)] [] s0 (fX12_handOf a0 x1 x2 x3 s0) := by
  unfold fX12_handOf
  refine go_iload_n 1 dX12_handOf_0 rfl rfl ?_
  refine go_iload_n 2 dX12_handOf_1 rfl rfl ?_
  refine go_callS_I (as := [vi x1, vi x2]) gk_RX12_408 gmf_X12_handAt (by omega) rfl rfl (Nat.le_of_ble_eq_true rfl) dX12_handOf_2 (fun _ _ h => cX12_handAt_c (by omega) h) (fun r1 s2 _ => ?_)
  refine go_istore (L' := [(4, vi r1), (0, vr a0), (1, vi x1), (2, vi x2), (3, vi x3)]) dX12_handOf_5 (by decide) rfl ?_
  refine go_iconst (v := 1) dX12_handOf_7 (by decide) ?_
  refine go_istore (L' := [(5, vi 1), (4, vi r1), (0, vr a0), (1, vi x1), (2, vi x2), (3, vi x3)]) dX12_handOf_8 (by decide) rfl ?_
  refine go_sub [2, 5, 1, 0] (wX12_handOf_L10 hd a0 x3 r1 20000 1 s2) rfl
set_option maxRecDepth 100000 in
set_option maxHeartbeats 4000000 in
theorem cX12_handOf_c {d : Nat} (hd : 1 ≤ d) {a0 : Nat} {x1 : Int32} {x2 : Int32} {x3 : Int32} {s0 : gH} {r : Int32} {s1 : gH} (h : fX12_handOf a0 x1 x2 x3 s0 = some (r, s1)) : gMt mX12_handOf d [vr a0, vi x1, vi x2, vi x3] s0 (some (vi r)) s1 :=
  gMt_of (rv := rvI) (by decide +kernel) (Nat.le_of_ble_eq_true rfl) ⟨_, rfl, rfl⟩ (fun _ => wX12_handOf hd) h
def gX12_canHand (a0 : Nat) (x1 : Int32) (x2 : Int32) (x3 : Int32) (s0 : gH) : Option (Int32 × gH) :=
  gb2 (gcv s0 a0 12 (fX12_isSet a0 x1 s0)) fun r1 s2 =>
  if r1 = 0 then
    some (0, s2)
  else
    gb2 (fX12_isDay x3 s2) fun r4 s5 =>
    if r4 = 0 then
      some (0, s5)
    else
      gb2 (gcv s5 a0 12 (fX12_lays a0 (6 + x1) s5)) fun r7 s8 =>
      gb2 (gcv s8 a0 12 (fX12_isOn a0 (6 + x1) x3 s8)) fun r9 s10 =>
      if r9 = x2 then
        gjn (fun (z13 : Int32) (z14 : Int32) (b15 : Nat) (s16 : gH) =>
            gb2 (gcv s16 b15 12 (fX12_handOf b15 z14 z13 x3 s16)) fun r17 s18 =>
            if r17 = -1 then
              (ggR s18 a0 12 29).bind fun v20 =>
              gb2 (fX12_handAt x1 x2 s18) fun r21 s22 =>
              (gaI s22 v20 2 r21).bind fun v23 =>
              if v23 < 20 then
                some (1, s22)
              else
                some (0, s22)
            else
              some (1, s18)
        ) fun j12 =>
        if x2 = 0 then
          j12 1 x1 a0 s10
        else
          j12 0 x1 a0 s10
      else
        some (0, s10)
def fX12_canHand (a0 : Nat) (x1 : Int32) (x2 : Int32) (x3 : Int32) (s0 : gH) : Option (Int32 × gH) := gzr (gX12_canHand a0 x1 x2 x3 s0)
set_option maxRecDepth 100000 in
set_option maxHeartbeats 4000000 in
theorem wX12_canHand {X : Nat × (Nat → Int32)} {d : Nat} (hd : 11 ≤ d) {a0 : Nat} {x1 : Int32} {x2 : Int32} {x3 : Int32} {s0 : gH} : gGo X rvI mX12_canHand d 0 [(0, vr a0), (1, vi x1), (2, vi x2), (3, vi x3)] [] s0 (gX12_canHand a0 x1 x2 x3 s0) := by
  unfold gX12_canHand
  refine go_aload_n 0 dX12_canHand_0 rfl rfl ?_
  refine go_iload_n 1 dX12_canHand_1 rfl rfl ?_
  refine go_callV_I (as := [vi x1]) gk_RX12_316 gmf_X12_isSet (by decide) rfl (by omega) rfl rfl (Nat.le_of_ble_eq_true rfl) dX12_canHand_2 (fun _ _ h => cX12_isSet_c (by omega) h) (fun r1 s2 _ => ?_)
  refine go_if_eq (tgt := 15) dX12_canHand_5 (by decide) (fun h3 => ?_) (fun h3 => ?_)
  · refine go_iconst (v := 0) dX12_canHand_15 (by decide) ?_
    exact go_ret rfl dX12_canHand_16
  · refine go_iload_n 3 dX12_canHand_8 rfl rfl ?_
    refine go_callS_I (as := [vi x3]) gk_RX12_387 gmf_X12_isDay (by omega) rfl rfl (Nat.le_of_ble_eq_true rfl) dX12_canHand_9 (fun _ _ h => cX12_isDay_c (by omega) h) (fun r4 s5 _ => ?_)
    refine go_if_ne (tgt := 17) dX12_canHand_12 (by decide) (fun h6 => ?_) (fun h6 => ?_)
    · refine go_iconst (v := 0) dX12_canHand_15 (by decide) ?_
      exact go_ret rfl dX12_canHand_16
    · refine go_aload_n 0 dX12_canHand_17 rfl rfl ?_
      refine go_bipush (v := 6) dX12_canHand_18 (by decide) ?_
      refine go_iload_n 1 dX12_canHand_20 rfl rfl ?_
      refine go_iadd dX12_canHand_21 ?_
      refine go_callV_v (as := [vi (6 + x1)]) gk_RX12_431 gmf_X12_lays (by decide) rfl (by omega) rfl rfl (Nat.le_of_ble_eq_true rfl) dX12_canHand_22 (fun _ _ h => cX12_lays_c (by omega) h) (fun r7 s8 _ => ?_)
      refine go_aload_n 0 dX12_canHand_25 rfl rfl ?_
      refine go_bipush (v := 6) dX12_canHand_26 (by decide) ?_
      refine go_iload_n 1 dX12_canHand_28 rfl rfl ?_
      refine go_iadd dX12_canHand_29 ?_
      refine go_iload_n 3 dX12_canHand_30 rfl rfl ?_
      refine go_callV_I (as := [vi (6 + x1), vi x3]) gk_RX12_437 gmf_X12_isOn (by decide) rfl (by omega) rfl rfl (Nat.le_of_ble_eq_true rfl) dX12_canHand_31 (fun _ _ h => cX12_isOn_c (by omega) h) (fun r9 s10 _ => ?_)
      refine go_iload_n 2 dX12_canHand_34 rfl rfl ?_
      refine go_icmp_eq (tgt := 40) dX12_canHand_35 (by decide) (fun h11 => ?_) (fun h11 => ?_)
      · refine go_aload_n 0 dX12_canHand_40 rfl rfl ?_
        refine go_iload_n 1 dX12_canHand_41 rfl rfl ?_
        refine go_iload_n 2 dX12_canHand_42 rfl rfl ?_
        refine go_gjn (P := fun j12 => ∀ (z13 : Int32) (z14 : Int32) (b15 : Nat) (s16 : gH), gGo X rvI mX12_canHand d 51 [(0, vr a0), (1, vi x1), (2, vi x2), (3, vi x3)] [vi z13, vi z14, vr b15] s16 (j12 z13 z14 b15 s16)) (fun z13 z14 b15 s16 => ?_) (fun j12 hj12 => ?_)
        · refine go_iload_n 3 dX12_canHand_51 rfl rfl ?_
          refine go_callV_I (as := [vi z14, vi z13, vi x3]) gk_RX12_464 gmf_X12_handOf (by decide) rfl (by omega) rfl rfl (Nat.le_of_ble_eq_true rfl) dX12_canHand_52 (fun _ _ h => cX12_handOf_c (by omega) h) (fun r17 s18 _ => ?_)
          refine go_iconst (v := -1) dX12_canHand_55 (by decide) ?_
          refine go_icmp_ne (tgt := 74) dX12_canHand_56 (by decide) (fun h19 => ?_) (fun h19 => ?_)
          · refine go_aload_n 0 dX12_canHand_59 rfl rfl ?_
            refine go_getR gf_RX12_54 gcf_12 gft_12_29 dX12_canHand_60 (fun v20 => ?_)
            refine go_iload_n 1 dX12_canHand_63 rfl rfl ?_
            refine go_iload_n 2 dX12_canHand_64 rfl rfl ?_
            refine go_callS_I (as := [vi x1, vi x2]) gk_RX12_408 gmf_X12_handAt (by omega) rfl rfl (Nat.le_of_ble_eq_true rfl) dX12_canHand_65 (fun _ _ h => cX12_handAt_c (by omega) h) (fun r21 s22 _ => ?_)
            refine go_iaload dX12_canHand_68 (fun v23 _ => ?_)
            refine go_bipush (v := 20) dX12_canHand_69 (by decide) ?_
            refine go_icmp_ge (tgt := 78) dX12_canHand_71 (by decide) (fun h24 => ?_) (fun h24 => ?_)
            · refine go_iconst (v := 1) dX12_canHand_74 (by decide) ?_
              refine go_goto (tgt := 79) dX12_canHand_75 (by decide) ?_
              exact go_ret rfl dX12_canHand_79
            · refine go_iconst (v := 0) dX12_canHand_78 (by decide) ?_
              exact go_ret rfl dX12_canHand_79
          · refine go_iconst (v := 1) dX12_canHand_74 (by decide) ?_
            refine go_goto (tgt := 79) dX12_canHand_75 (by decide) ?_
            exact go_ret rfl dX12_canHand_79
        · refine go_if_ne (tgt := 50) dX12_canHand_43 (by decide) (fun h25 => ?_) (fun h25 => ?_)
          · refine go_iconst (v := 1) dX12_canHand_46 (by decide) ?_
            refine go_goto (tgt := 51) dX12_canHand_47 (by decide) ?_
            exact go_sub [0, 1, 2, 3] (hj12 1 x1 a0 s10) rfl
          · refine go_iconst (v := 0) dX12_canHand_50 (by decide) ?_
            exact go_sub [0, 1, 2, 3] (hj12 0 x1 a0 s10) rfl
      · refine go_iconst (v := 0) dX12_canHand_38 (by decide) ?_
        exact go_ret rfl dX12_canHand_39
set_option maxRecDepth 100000 in
set_option maxHeartbeats 4000000 in
theorem cX12_canHand_c {d : Nat} (hd : 11 ≤ d) {a0 : Nat} {x1 : Int32} {x2 : Int32} {x3 : Int32} {s0 : gH} {r : Int32} {s1 : gH} (h : fX12_canHand a0 x1 x2 x3 s0 = some (r, s1)) : gMt mX12_canHand d [vr a0, vi x1, vi x2, vi x3] s0 (some (vi r)) s1 := by
  obtain ⟨h1, h2⟩ := gzr_some h
  exact gMt_of (rv := rvI) (by decide +kernel) (Nat.le_of_ble_eq_true rfl) ⟨_, rfl, gnarZ h2⟩ (fun _ => wX12_canHand hd) h1
def gX12_keeps_L15 (k49 : gH → Option (Unit × gH)) (a0 : Nat) : Nat → Int32 → gH → Option (Unit × gH)
  | 0, _, _ => none
  | n + 1, x1, s0 =>
    if x1 < 264 then
      (ggR s0 a0 12 43).bind fun v5 =>
      (ggI s0 a0 12 45).bind fun v6 =>
      (ggR s0 a0 12 29).bind fun v7 =>
      (gaI s0 v7 2 x1).bind fun v8 =>
      (saI s0 v5 2 ((264 * v6) + x1) v8).bind fun s9 =>
      gX12_keeps_L15 k49 a0 n (x1 + 1) s9
    else
      k49 s0
set_option maxRecDepth 100000 in
set_option maxHeartbeats 4000000 in
theorem wX12_keeps_L15 {X : Nat × (Nat → Int32)} {d : Nat} (hd : 0 ≤ d) (k49 : gH → Option (Unit × gH)) (a0 : Nat) (hk49 : ∀ (s : gH), gGo X rvU mX12_keeps d 49 [(0, vr a0)] [] s (k49 s)) : ∀ (n : Nat) (x1 : Int32) (s0 : gH), gGo X rvU mX12_keeps d 15 [(0, vr a0), (1, vi x1)] [] s0 (gX12_keeps_L15 k49 a0 n x1 s0) := by
  intro n
  induction n with
  | zero => intros; exact go_none
  | succ n ih =>
    intro x1 s0
    show gGo _ _ _ _ _ _ _ _ (gX12_keeps_L15 k49 a0 (n + 1) x1 s0)
    unfold gX12_keeps_L15
    refine go_iload_n 1 dX12_keeps_15 rfl rfl ?_
    refine go_sipush (v := 264) dX12_keeps_16 (by decide) ?_
    refine go_icmp_ge (tgt := 49) dX12_keeps_19 (by decide) (fun h4 => ?_) (fun h4 => ?_)
    · refine go_aload_n 0 dX12_keeps_22 rfl rfl ?_
      refine go_getR gf_RX12_90 gcf_12 gft_12_43 dX12_keeps_23 (fun v5 => ?_)
      refine go_sipush (v := 264) dX12_keeps_26 (by decide) ?_
      refine go_aload_n 0 dX12_keeps_29 rfl rfl ?_
      refine go_getI gf_RX12_461 gcf_12 gft_12_45 dX12_keeps_30 (fun v6 => ?_)
      refine go_imul dX12_keeps_33 ?_
      refine go_iload_n 1 dX12_keeps_34 rfl rfl ?_
      refine go_iadd dX12_keeps_35 ?_
      refine go_aload_n 0 dX12_keeps_36 rfl rfl ?_
      refine go_getR gf_RX12_54 gcf_12 gft_12_29 dX12_keeps_37 (fun v7 => ?_)
      refine go_iload_n 1 dX12_keeps_40 rfl rfl ?_
      refine go_iaload dX12_keeps_41 (fun v8 _ => ?_)
      refine go_iastore dX12_keeps_42 (fun s9 _ => ?_)
      refine go_iinc (v := 1) (L' := [(1, vi (x1 + 1)), (0, vr a0)]) 1 dX12_keeps_43 rfl (by decide) (by decide) rfl ?_
      refine go_goto (tgt := 15) dX12_keeps_46 (by decide) ?_
      exact go_sub [1, 0] (ih (x1 + 1) s9) rfl
    · exact go_sub [0] (hk49 s0) rfl
def fX12_keeps (a0 : Nat) (s0 : gH) : Option (Unit × gH) :=
  (ggI s0 a0 12 45).bind fun v1 =>
  (spI s0 a0 12 45 (gIrem (v1 + 1) 20)).bind fun s2 =>
  gX12_keeps_L15
    (fun s10 =>
      (ggI s10 a0 12 44).bind fun v11 =>
      if v11 < 20 then
        (ggI s10 a0 12 44).bind fun v13 =>
        (spI s10 a0 12 44 (v13 + 1)).bind fun s14 =>
        some ((), s14)
      else
        some ((), s10))
    a0 20000 0 s2
set_option maxRecDepth 100000 in
set_option maxHeartbeats 4000000 in
theorem wX12_keeps {X : Nat × (Nat → Int32)} {d : Nat} (hd : 0 ≤ d) {a0 : Nat} {s0 : gH} : gGo X rvU mX12_keeps d 0 [(0, vr a0)] [] s0 (fX12_keeps a0 s0) := by
  unfold fX12_keeps
  refine go_aload_n 0 dX12_keeps_0 rfl rfl ?_
  refine go_aload_n 0 dX12_keeps_1 rfl rfl ?_
  refine go_getI gf_RX12_461 gcf_12 gft_12_45 dX12_keeps_2 (fun v1 => ?_)
  refine go_iconst (v := 1) dX12_keeps_5 (by decide) ?_
  refine go_iadd dX12_keeps_6 ?_
  refine go_bipush (v := 20) dX12_keeps_7 (by decide) ?_
  refine go_iremc dX12_keeps_9 (by decide) ?_
  refine go_putI gf_RX12_461 gcf_12 gpl_12_45 gft_12_45 dX12_keeps_10 (fun s2 _ => ?_)
  refine go_iconst (v := 0) dX12_keeps_13 (by decide) ?_
  refine go_istore_n (L' := [(1, vi 0), (0, vr a0)]) dX12_keeps_14 rfl (by decide) rfl ?_
  refine go_sub [1, 0] (wX12_keeps_L15 hd _ a0 ?_ 20000 0 s2) rfl
  intro s10
  refine go_aload_n 0 dX12_keeps_49 rfl rfl ?_
  refine go_getI gf_RX12_304 gcf_12 gft_12_44 dX12_keeps_50 (fun v11 => ?_)
  refine go_bipush (v := 20) dX12_keeps_53 (by decide) ?_
  refine go_icmp_ge (tgt := 68) dX12_keeps_55 (by decide) (fun h12 => ?_) (fun h12 => ?_)
  · refine go_aload_n 0 dX12_keeps_58 rfl rfl ?_
    refine go_dup dX12_keeps_59 rfl ?_
    refine go_getI gf_RX12_304 gcf_12 gft_12_44 dX12_keeps_60 (fun v13 => ?_)
    refine go_iconst (v := 1) dX12_keeps_63 (by decide) ?_
    refine go_iadd dX12_keeps_64 ?_
    refine go_putI gf_RX12_304 gcf_12 gpl_12_44 gft_12_44 dX12_keeps_65 (fun s14 _ => ?_)
    exact go_retv rfl dX12_keeps_68
  · exact go_retv rfl dX12_keeps_68
set_option maxRecDepth 100000 in
set_option maxHeartbeats 4000000 in
theorem cX12_keeps_c {d : Nat} (hd : 0 ≤ d) {a0 : Nat} {s0 : gH} {r : Unit} {s1 : gH} (h : fX12_keeps a0 s0 = some (r, s1)) : gMt mX12_keeps d [vr a0] s0 none s1 :=
  gMt_of (rv := rvU) (by decide +kernel) (Nat.le_of_ble_eq_true rfl) rfl (fun _ => wX12_keeps hd) h
def gX12_hands_L133  (a0 : Nat) : Nat → Int32 → gH → Option (Unit × gH)
  | 0, _, _ => none
  | n + 1, x6, s0 =>
    if x6 < 6 then
      (ggR s0 a0 12 31).bind fun v18 =>
      (saI s0 v18 4 (6 + x6) 0).bind fun s19 =>
      gX12_hands_L133 a0 n (x6 + 1) s19
    else
      some ((), s0)
set_option maxRecDepth 100000 in
set_option maxHeartbeats 4000000 in
theorem wX12_hands_L133 {X : Nat × (Nat → Int32)} {d : Nat} (hd : 2 ≤ d)  (a0 : Nat) : ∀ (n : Nat) (x6 : Int32) (s0 : gH), gGo X rvU mX12_hands d 133 [(0, vr a0), (6, vi x6)] [] s0 (gX12_hands_L133 a0 n x6 s0) := by
  intro n
  induction n with
  | zero => intros; exact go_none
  | succ n ih =>
    intro x6 s0
    show gGo _ _ _ _ _ _ _ _ (gX12_hands_L133 a0 (n + 1) x6 s0)
    unfold gX12_hands_L133
    refine go_iload 1 dX12_hands_133 rfl ?_
    refine go_bipush (v := 6) dX12_hands_135 (by decide) ?_
    refine go_icmp_ge (tgt := 157) dX12_hands_137 (by decide) (fun h17 => ?_) (fun h17 => ?_)
    · refine go_aload_n 0 dX12_hands_140 rfl rfl ?_
      refine go_getR gf_RX12_62 gcf_12 gft_12_31 dX12_hands_141 (fun v18 => ?_)
      refine go_bipush (v := 6) dX12_hands_144 (by decide) ?_
      refine go_iload 1 dX12_hands_146 rfl ?_
      refine go_iadd dX12_hands_148 ?_
      refine go_iconst (v := 0) dX12_hands_149 (by decide) ?_
      refine go_zastore dX12_hands_150 (fun s19 _ => ?_)
      refine go_iinc (v := 1) (L' := [(6, vi (x6 + 1)), (0, vr a0)]) 1 dX12_hands_151 rfl (by decide) (by decide) rfl ?_
      refine go_goto (tgt := 133) dX12_hands_154 (by decide) ?_
      exact go_sub [1, 0] (ih (x6 + 1) s19) rfl
    · exact go_retv rfl dX12_hands_157
def gX12_hands_L42 (k82 : gH → Option (Unit × gH)) (a0 : Nat) (x1 : Int32) (x5 : Int32) : Nat → Int32 → gH → Option (Unit × gH)
  | 0, _, _ => none
  | n + 1, x6, s0 =>
    (ggR s0 a0 12 29).bind fun v31 =>
    (gaI s0 v31 2 x5).bind fun v32 =>
    if x6 < v32 then
      (ggR s0 a0 12 29).bind fun v34 =>
      (ggR s0 a0 12 29).bind fun v35 =>
      (gaI s0 v35 2 ((x5 + x6) + 1)).bind fun v36 =>
      (saI s0 v34 2 (x5 + x6) v36).bind fun s37 =>
      gX12_hands_L42 k82 a0 x1 x5 n (x6 + 1) s37
    else
      k82 s0
set_option maxRecDepth 100000 in
set_option maxHeartbeats 4000000 in
theorem wX12_hands_L42 {X : Nat × (Nat → Int32)} {d : Nat} (hd : 2 ≤ d) (k82 : gH → Option (Unit × gH)) (a0 : Nat) (x1 : Int32) (x5 : Int32) (hk82 : ∀ (s : gH), gGo X rvU mX12_hands d 82 [(0, vr a0), (1, vi x1), (5, vi x5)] [] s (k82 s)) : ∀ (n : Nat) (x6 : Int32) (s0 : gH), gGo X rvU mX12_hands d 42 [(0, vr a0), (1, vi x1), (5, vi x5), (6, vi x6)] [] s0 (gX12_hands_L42 k82 a0 x1 x5 n x6 s0) := by
  intro n
  induction n with
  | zero => intros; exact go_none
  | succ n ih =>
    intro x6 s0
    show gGo _ _ _ _ _ _ _ _ (gX12_hands_L42 k82 a0 x1 x5 (n + 1) x6 s0)
    unfold gX12_hands_L42
    refine go_iload 3 dX12_hands_42 rfl ?_
    refine go_aload_n 0 dX12_hands_44 rfl rfl ?_
    refine go_getR gf_RX12_54 gcf_12 gft_12_29 dX12_hands_45 (fun v31 => ?_)
    refine go_iload 2 dX12_hands_48 rfl ?_
    refine go_iaload dX12_hands_50 (fun v32 _ => ?_)
    refine go_icmp_ge (tgt := 82) dX12_hands_51 (by decide) (fun h33 => ?_) (fun h33 => ?_)
    · refine go_aload_n 0 dX12_hands_54 rfl rfl ?_
      refine go_getR gf_RX12_54 gcf_12 gft_12_29 dX12_hands_55 (fun v34 => ?_)
      refine go_iload 2 dX12_hands_58 rfl ?_
      refine go_iload 3 dX12_hands_60 rfl ?_
      refine go_iadd dX12_hands_62 ?_
      refine go_aload_n 0 dX12_hands_63 rfl rfl ?_
      refine go_getR gf_RX12_54 gcf_12 gft_12_29 dX12_hands_64 (fun v35 => ?_)
      refine go_iload 2 dX12_hands_67 rfl ?_
      refine go_iload 3 dX12_hands_69 rfl ?_
      refine go_iadd dX12_hands_71 ?_
      refine go_iconst (v := 1) dX12_hands_72 (by decide) ?_
      refine go_iadd dX12_hands_73 ?_
      refine go_iaload dX12_hands_74 (fun v36 _ => ?_)
      refine go_iastore dX12_hands_75 (fun s37 _ => ?_)
      refine go_iinc (v := 1) (L' := [(6, vi (x6 + 1)), (0, vr a0), (1, vi x1), (5, vi x5)]) 3 dX12_hands_76 rfl (by decide) (by decide) rfl ?_
      refine go_goto (tgt := 42) dX12_hands_79 (by decide) ?_
      exact go_sub [1, 2, 3, 0] (ih (x6 + 1) s37) rfl
    · exact go_sub [0, 1, 2] (hk82 s0) rfl
def fX12_hands (a0 : Nat) (x1 : Int32) (x2 : Int32) (x3 : Int32) (s0 : gH) : Option (Unit × gH) :=
  gjn (fun (z2 : Int32) (z3 : Int32) (b4 : Nat) (s5 : gH) =>
      gb2 (gcv s5 b4 12 (fX12_handOf b4 z3 z2 x3 s5)) fun r6 s7 =>
      gjn (fun (z9 : Int32) (z10 : Int32) (s11 : gH) =>
          gb2 (fX12_handAt z10 z9 s11) fun r12 s13 =>
          gjn (fun (s15 : gH) =>
              gX12_hands_L133
                a0 20000 x1 s15
          ) fun j14 =>
          if r6 = -1 then
            gb2 (fX12_handAt x1 x2 s13) fun r21 s22 =>
            (ggR s22 a0 12 29).bind fun v23 =>
            (gaI s22 v23 2 r21).bind fun v24 =>
            (saI s22 v23 2 r21 (v24 + 1)).bind fun s25 =>
            (ggR s25 a0 12 29).bind fun v26 =>
            (ggR s25 a0 12 29).bind fun v27 =>
            (gaI s25 v27 2 r21).bind fun v28 =>
            (saI s25 v26 2 (r21 + v28) x3).bind fun s29 =>
            j14 s29
          else
            gX12_hands_L42
              (fun s38 =>
                (ggR s38 a0 12 29).bind fun v39 =>
                (gaI s38 v39 2 r12).bind fun v40 =>
                (saI s38 v39 2 r12 (v40 - 1)).bind fun s41 =>
                j14 s41)
              a0 x1 r12 20000 r6 s13
      ) fun j8 =>
      if x2 = 0 then
        j8 1 x1 s7
      else
        j8 0 x1 s7
  ) fun j1 =>
  if x2 = 0 then
    j1 1 x1 a0 s0
  else
    j1 0 x1 a0 s0
set_option maxRecDepth 100000 in
set_option maxHeartbeats 4000000 in
theorem wX12_hands {X : Nat × (Nat → Int32)} {d : Nat} (hd : 2 ≤ d) {a0 : Nat} {x1 : Int32} {x2 : Int32} {x3 : Int32} {s0 : gH} : gGo X rvU mX12_hands d 0 [(0, vr a0), (1, vi x1), (2, vi x2), (3, vi x3)] [] s0 (fX12_hands a0 x1 x2 x3 s0) := by
  unfold fX12_hands
  refine go_aload_n 0 dX12_hands_0 rfl rfl ?_
  refine go_iload_n 1 dX12_hands_1 rfl rfl ?_
  refine go_iload_n 2 dX12_hands_2 rfl rfl ?_
  refine go_gjn (P := fun j1 => ∀ (z2 : Int32) (z3 : Int32) (b4 : Nat) (s5 : gH), gGo X rvU mX12_hands d 11 [(0, vr a0), (1, vi x1), (2, vi x2), (3, vi x3)] [vi z2, vi z3, vr b4] s5 (j1 z2 z3 b4 s5)) (fun z2 z3 b4 s5 => ?_) (fun j1 hj1 => ?_)
  · refine go_iload_n 3 dX12_hands_11 rfl rfl ?_
    refine go_callV_I (as := [vi z3, vi z2, vi x3]) gk_RX12_464 gmf_X12_handOf (by decide) rfl (by omega) rfl rfl (Nat.le_of_ble_eq_true rfl) dX12_hands_12 (fun _ _ h => cX12_handOf_c (by omega) h) (fun r6 s7 _ => ?_)
    refine go_istore (L' := [(4, vi r6), (0, vr a0), (1, vi x1), (2, vi x2), (3, vi x3)]) dX12_hands_15 (by decide) rfl ?_
    refine go_iload_n 2 dX12_hands_17 rfl rfl ?_
    refine go_iload_n 3 dX12_hands_18 rfl rfl ?_
    refine go_gjn (P := fun j8 => ∀ (z9 : Int32) (z10 : Int32) (s11 : gH), gGo X rvU mX12_hands d 27 [(0, vr a0), (1, vi x1), (2, vi x2), (3, vi x3), (4, vi r6)] [vi z9, vi z10] s11 (j8 z9 z10 s11)) (fun z9 z10 s11 => ?_) (fun j8 hj8 => ?_)
    · refine go_callS_I (as := [vi z10, vi z9]) gk_RX12_408 gmf_X12_handAt (by omega) rfl rfl (Nat.le_of_ble_eq_true rfl) dX12_hands_27 (fun _ _ h => cX12_handAt_c (by omega) h) (fun r12 s13 _ => ?_)
      refine go_istore (L' := [(5, vi r12), (0, vr a0), (1, vi x1), (2, vi x2), (3, vi x3), (4, vi r6)]) dX12_hands_30 (by decide) rfl ?_
      refine go_iload 5 dX12_hands_32 rfl ?_
      refine go_iconst (v := -1) dX12_hands_34 (by decide) ?_
      refine go_gjn (P := fun j14 => ∀ (s15 : gH), gGo X rvU mX12_hands d 130 [(0, vr a0), (1, vi x1)] [] s15 (j14 s15)) (fun s15 => ?_) (fun j14 hj14 => ?_)
      · refine go_iload_n 1 dX12_hands_130 rfl rfl ?_
        refine go_istore (L' := [(6, vi x1), (0, vr a0), (1, vi x1)]) dX12_hands_131 (by decide) rfl ?_
        refine go_sub [1, 0] (wX12_hands_L133 hd a0 20000 x1 s15) rfl
      · refine go_icmp_eq (tgt := 96) dX12_hands_35 (by decide) (fun h20 => ?_) (fun h20 => ?_)
        · refine go_iload_n 2 dX12_hands_96 rfl rfl ?_
          refine go_iload_n 3 dX12_hands_97 rfl rfl ?_
          refine go_callS_I (as := [vi x1, vi x2]) gk_RX12_408 gmf_X12_handAt (by omega) rfl rfl (Nat.le_of_ble_eq_true rfl) dX12_hands_98 (fun _ _ h => cX12_handAt_c (by omega) h) (fun r21 s22 _ => ?_)
          refine go_istore (L' := [(5, vi r21), (0, vr a0), (1, vi x1), (2, vi x2), (3, vi x3), (4, vi r6)]) dX12_hands_101 (by decide) rfl ?_
          refine go_aload_n 1 dX12_hands_103 rfl rfl ?_
          refine go_getR gf_RX12_54 gcf_12 gft_12_29 dX12_hands_104 (fun v23 => ?_)
          refine go_iload 0 dX12_hands_107 rfl ?_
          refine go_dup2 dX12_hands_109 rfl rfl ?_
          refine go_iaload dX12_hands_110 (fun v24 _ => ?_)
          refine go_iconst (v := 1) dX12_hands_111 (by decide) ?_
          refine go_iadd dX12_hands_112 ?_
          refine go_iastore dX12_hands_113 (fun s25 _ => ?_)
          refine go_aload_n 1 dX12_hands_114 rfl rfl ?_
          refine go_getR gf_RX12_54 gcf_12 gft_12_29 dX12_hands_115 (fun v26 => ?_)
          refine go_iload 0 dX12_hands_118 rfl ?_
          refine go_aload_n 1 dX12_hands_120 rfl rfl ?_
          refine go_getR gf_RX12_54 gcf_12 gft_12_29 dX12_hands_121 (fun v27 => ?_)
          refine go_iload 0 dX12_hands_124 rfl ?_
          refine go_iaload dX12_hands_126 (fun v28 _ => ?_)
          refine go_iadd dX12_hands_127 ?_
          refine go_iload_n 4 dX12_hands_128 rfl rfl ?_
          refine go_iastore dX12_hands_129 (fun s29 _ => ?_)
          exact go_sub [1, 2] (hj14 s29) rfl
        · refine go_iload 5 dX12_hands_38 rfl ?_
          refine go_istore (L' := [(6, vi r6), (5, vi r12), (0, vr a0), (1, vi x1), (2, vi x2), (3, vi x3), (4, vi r6)]) dX12_hands_40 (by decide) rfl ?_
          refine go_sub [2, 3, 1, 0] (wX12_hands_L42 hd _ a0 x1 r12 ?_ 20000 r6 s13) rfl
          intro s38
          refine go_aload_n 0 dX12_hands_82 rfl rfl ?_
          refine go_getR gf_RX12_54 gcf_12 gft_12_29 dX12_hands_83 (fun v39 => ?_)
          refine go_iload 2 dX12_hands_86 rfl ?_
          refine go_dup2 dX12_hands_88 rfl rfl ?_
          refine go_iaload dX12_hands_89 (fun v40 _ => ?_)
          refine go_iconst (v := 1) dX12_hands_90 (by decide) ?_
          refine go_isub dX12_hands_91 ?_
          refine go_iastore dX12_hands_92 (fun s41 _ => ?_)
          refine go_goto (tgt := 130) dX12_hands_93 (by decide) ?_
          exact go_sub [0, 1] (hj14 s41) rfl
    · refine go_if_ne (tgt := 26) dX12_hands_19 (by decide) (fun h42 => ?_) (fun h42 => ?_)
      · refine go_iconst (v := 1) dX12_hands_22 (by decide) ?_
        refine go_goto (tgt := 27) dX12_hands_23 (by decide) ?_
        exact go_sub [1, 2, 3, 4, 0] (hj8 1 x1 s7) rfl
      · refine go_iconst (v := 0) dX12_hands_26 (by decide) ?_
        exact go_sub [1, 2, 3, 4, 0] (hj8 0 x1 s7) rfl
  · refine go_if_ne (tgt := 10) dX12_hands_3 (by decide) (fun h43 => ?_) (fun h43 => ?_)
    · refine go_iconst (v := 1) dX12_hands_6 (by decide) ?_
      refine go_goto (tgt := 11) dX12_hands_7 (by decide) ?_
      exact go_sub [0, 1, 2, 3] (hj1 1 x1 a0 s0) rfl
    · refine go_iconst (v := 0) dX12_hands_10 (by decide) ?_
      exact go_sub [0, 1, 2, 3] (hj1 0 x1 a0 s0) rfl
set_option maxRecDepth 100000 in
set_option maxHeartbeats 4000000 in
theorem cX12_hands_c {d : Nat} (hd : 2 ≤ d) {a0 : Nat} {x1 : Int32} {x2 : Int32} {x3 : Int32} {s0 : gH} {r : Unit} {s1 : gH} (h : fX12_hands a0 x1 x2 x3 s0 = some (r, s1)) : gMt mX12_hands d [vr a0, vi x1, vi x2, vi x3] s0 none s1 :=
  gMt_of (rv := rvU) (by decide +kernel) (Nat.le_of_ble_eq_true rfl) rfl (fun _ => wX12_hands hd) h
def gX12_add (a0 : Nat) (x1 : Int32) (x2 : Int32) (s0 : gH) : Option (Int32 × gH) :=
  gb2 (gcv s0 a0 12 (fX12_canHand a0 x1 0 x2 s0)) fun r1 s2 =>
  if r1 = 0 then
    gb2 (gcv s2 a0 12 (fX12_isRefused a0 2 s2)) fun r4 s5 =>
    some (r4, s5)
  else
    gb2 (gcv s2 a0 12 (fX12_keeps a0 s2)) fun r6 s7 =>
    gb2 (gcv s7 a0 12 (fX12_hands a0 x1 0 x2 s7)) fun r8 s9 =>
    some (1, s9)
def fX12_add (a0 : Nat) (x1 : Int32) (x2 : Int32) (s0 : gH) : Option (Int32 × gH) := gzr (gX12_add a0 x1 x2 s0)
set_option maxRecDepth 100000 in
set_option maxHeartbeats 4000000 in
theorem wX12_add {X : Nat × (Nat → Int32)} {d : Nat} (hd : 12 ≤ d) {a0 : Nat} {x1 : Int32} {x2 : Int32} {s0 : gH} : gGo X rvI mX12_add d 0 [(0, vr a0), (1, vi x1), (2, vi x2)] [] s0 (gX12_add a0 x1 x2 s0) := by
  unfold gX12_add
  refine go_aload_n 0 dX12_add_0 rfl rfl ?_
  refine go_iload_n 1 dX12_add_1 rfl rfl ?_
  refine go_iconst (v := 0) dX12_add_2 (by decide) ?_
  refine go_iload_n 2 dX12_add_3 rfl rfl ?_
  refine go_callV_I (as := [vi x1, vi 0, vi x2]) gk_RX12_468 gmf_X12_canHand (by decide) rfl (by omega) rfl rfl (Nat.le_of_ble_eq_true rfl) dX12_add_4 (fun _ _ h => cX12_canHand_c (by omega) h) (fun r1 s2 _ => ?_)
  refine go_if_ne (tgt := 16) dX12_add_7 (by decide) (fun h3 => ?_) (fun h3 => ?_)
  · refine go_aload_n 0 dX12_add_10 rfl rfl ?_
    refine go_iconst (v := 2) dX12_add_11 (by decide) ?_
    refine go_callV_I (as := [vi 2]) gk_RX12_104 gmf_X12_isRefused (by decide) rfl (by omega) rfl rfl (Nat.le_of_ble_eq_true rfl) dX12_add_12 (fun _ _ h => cX12_isRefused_c (by omega) h) (fun r4 s5 _ => ?_)
    exact go_ret rfl dX12_add_15
  · refine go_aload_n 0 dX12_add_16 rfl rfl ?_
    refine go_callV_v (as := []) gk_RX12_472 gmf_X12_keeps (by decide) rfl (by omega) rfl rfl (Nat.le_of_ble_eq_true rfl) dX12_add_17 (fun _ _ h => cX12_keeps_c (by omega) h) (fun r6 s7 _ => ?_)
    refine go_aload_n 0 dX12_add_20 rfl rfl ?_
    refine go_iload_n 1 dX12_add_21 rfl rfl ?_
    refine go_iconst (v := 0) dX12_add_22 (by decide) ?_
    refine go_iload_n 2 dX12_add_23 rfl rfl ?_
    refine go_callV_v (as := [vi x1, vi 0, vi x2]) gk_RX12_475 gmf_X12_hands (by decide) rfl (by omega) rfl rfl (Nat.le_of_ble_eq_true rfl) dX12_add_24 (fun _ _ h => cX12_hands_c (by omega) h) (fun r8 s9 _ => ?_)
    refine go_iconst (v := 1) dX12_add_27 (by decide) ?_
    exact go_ret rfl dX12_add_28
set_option maxRecDepth 100000 in
set_option maxHeartbeats 4000000 in
theorem cX12_add_c {d : Nat} (hd : 12 ≤ d) {a0 : Nat} {x1 : Int32} {x2 : Int32} {s0 : gH} {r : Int32} {s1 : gH} (h : fX12_add a0 x1 x2 s0 = some (r, s1)) : gMt mX12_add d [vr a0, vi x1, vi x2] s0 (some (vi r)) s1 := by
  obtain ⟨h1, h2⟩ := gzr_some h
  exact gMt_of (rv := rvI) (by decide +kernel) (Nat.le_of_ble_eq_true rfl) ⟨_, rfl, gnarZ h2⟩ (fun _ => wX12_add hd) h1
def gX11_leave (a0 : Nat) (x1 : Int32) (x2 : Int32) (s0 : gH) : Option (Int32 × gH) :=
  gb2 (gcv s0 a0 11 (fX11_turn a0 x1 x2 2 s0)) fun r1 s2 =>
  some (r1, s2)
def fX11_leave (a0 : Nat) (x1 : Int32) (x2 : Int32) (s0 : gH) : Option (Int32 × gH) := gzr (gX11_leave a0 x1 x2 s0)
set_option maxRecDepth 100000 in
set_option maxHeartbeats 4000000 in
theorem wX11_leave {X : Nat × (Nat → Int32)} {d : Nat} (hd : 7 ≤ d) {a0 : Nat} {x1 : Int32} {x2 : Int32} {s0 : gH} : gGo X rvI mX11_leave d 0 [(0, vr a0), (1, vi x1), (2, vi x2)] [] s0 (gX11_leave a0 x1 x2 s0) := by
  unfold gX11_leave
  refine go_aload_n 0 dX11_leave_0 rfl rfl ?_
  refine go_iload_n 1 dX11_leave_1 rfl rfl ?_
  refine go_iload_n 2 dX11_leave_2 rfl rfl ?_
  refine go_iconst (v := 2) dX11_leave_3 (by decide) ?_
  refine go_callV_I (as := [vi x1, vi x2, vi 2]) gk_RX11_222 gmf_X11_turn (by decide) rfl (by omega) rfl rfl (Nat.le_of_ble_eq_true rfl) dX11_leave_4 (fun _ _ h => cX11_turn_c (by omega) h) (fun r1 s2 _ => ?_)
  exact go_ret rfl dX11_leave_7
set_option maxRecDepth 100000 in
set_option maxHeartbeats 4000000 in
theorem cX11_leave_c {d : Nat} (hd : 7 ≤ d) {a0 : Nat} {x1 : Int32} {x2 : Int32} {s0 : gH} {r : Int32} {s1 : gH} (h : fX11_leave a0 x1 x2 s0 = some (r, s1)) : gMt mX11_leave d [vr a0, vi x1, vi x2] s0 (some (vi r)) s1 := by
  obtain ⟨h1, h2⟩ := gzr_some h
  exact gMt_of (rv := rvI) (by decide +kernel) (Nat.le_of_ble_eq_true rfl) ⟨_, rfl, gnarZ h2⟩ (fun _ => wX11_leave hd) h1
