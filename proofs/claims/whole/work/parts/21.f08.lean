/-! walks, written by a program -/
def fX12_handAt (x0 : Int32) (x1 : Int32) (s0 : gH) : Option (Int32 × gH) :=
  if x1 = 0 then
    some ((12 + (42 * x0)) + 0, s0)
  else
    some ((12 + (42 * x0)) + 21, s0)
set_option maxRecDepth 100000 in
set_option maxHeartbeats 4000000 in
theorem wX12_handAt {X : Nat × (Nat → Int32)} {d : Nat} (hd : 0 ≤ d) {x0 : Int32} {x1 : Int32} {s0 : gH} : gGo X rvI mX12_handAt d 0 [(0, vi x0), (1, vi x1)] [] s0 (fX12_handAt x0 x1 s0) := by
  unfold fX12_handAt
  refine go_bipush (v := 12) dX12_handAt_0 (by decide) ?_
  refine go_bipush (v := 42) dX12_handAt_2 (by decide) ?_
  refine go_iload_n 0 dX12_handAt_4 rfl rfl ?_
  refine go_imul dX12_handAt_5 ?_
  refine go_iadd dX12_handAt_6 ?_
  refine go_iload_n 1 dX12_handAt_7 rfl rfl ?_
  refine go_if_eq (tgt := 16) dX12_handAt_8 (by decide) (fun h1 => ?_) (fun h1 => ?_)
  · refine go_iconst (v := 0) dX12_handAt_16 (by decide) ?_
    refine go_iadd dX12_handAt_17 ?_
    exact go_ret rfl dX12_handAt_18
  · refine go_bipush (v := 21) dX12_handAt_11 (by decide) ?_
    refine go_goto (tgt := 17) dX12_handAt_13 (by decide) ?_
    refine go_iadd dX12_handAt_17 ?_
    exact go_ret rfl dX12_handAt_18
set_option maxRecDepth 100000 in
set_option maxHeartbeats 4000000 in
theorem cX12_handAt_c {d : Nat} (hd : 0 ≤ d) {x0 : Int32} {x1 : Int32} {s0 : gH} {r : Int32} {s1 : gH} (h : fX12_handAt x0 x1 s0 = some (r, s1)) : gMt mX12_handAt d [vi x0, vi x1] s0 (some (vi r)) s1 :=
  gMt_of (rv := rvI) (by decide +kernel) (Nat.le_of_ble_eq_true rfl) ⟨_, rfl, rfl⟩ (fun _ => wX12_handAt hd) h
def gX12_handMany_L4  (a0 : Nat) (x1 : Int32) : Nat → Int32 → Int32 → gH → Option (Int32 × gH)
  | 0, _, _, _ => none
  | n + 1, x2, x3, s0 =>
    (ggR s0 a0 12 19).bind fun v2 =>
    (gaI s0 v2 2 1).bind fun v3 =>
    if x3 < v3 then
      (ggR s0 a0 12 29).bind fun v5 =>
      gb2 (fX12_handAt x3 x1 s0) fun r6 s7 =>
      (gaI s7 v5 2 r6).bind fun v8 =>
      glet (x2 + v8) fun y9 =>
      gX12_handMany_L4 a0 x1 n y9 (x3 + 1) s7
    else
      some (x2, s0)
set_option maxRecDepth 100000 in
set_option maxHeartbeats 4000000 in
theorem wX12_handMany_L4 {X : Nat × (Nat → Int32)} {d : Nat} (hd : 1 ≤ d)  (a0 : Nat) (x1 : Int32) : ∀ (n : Nat) (x2 : Int32) (x3 : Int32) (s0 : gH), gGo X rvI mX12_handMany d 4 [(0, vr a0), (1, vi x1), (2, vi x2), (3, vi x3)] [] s0 (gX12_handMany_L4 a0 x1 n x2 x3 s0) := by
  intro n
  induction n with
  | zero => intros; exact go_none
  | succ n ih =>
    intro x2 x3 s0
    show gGo _ _ _ _ _ _ _ _ (gX12_handMany_L4 a0 x1 (n + 1) x2 x3 s0)
    unfold gX12_handMany_L4
    refine go_iload_n 3 dX12_handMany_4 rfl rfl ?_
    refine go_aload_n 0 dX12_handMany_5 rfl rfl ?_
    refine go_getR gf_RX12_39 gcf_12 gft_12_19 dX12_handMany_6 (fun v2 => ?_)
    refine go_iconst (v := 1) dX12_handMany_9 (by decide) ?_
    refine go_iaload dX12_handMany_10 (fun v3 _ => ?_)
    refine go_icmp_ge (tgt := 33) dX12_handMany_11 (by decide) (fun h4 => ?_) (fun h4 => ?_)
    · refine go_iload_n 2 dX12_handMany_14 rfl rfl ?_
      refine go_aload_n 0 dX12_handMany_15 rfl rfl ?_
      refine go_getR gf_RX12_54 gcf_12 gft_12_29 dX12_handMany_16 (fun v5 => ?_)
      refine go_iload_n 3 dX12_handMany_19 rfl rfl ?_
      refine go_iload_n 1 dX12_handMany_20 rfl rfl ?_
      refine go_callS_I (as := [vi x3, vi x1]) gk_RX12_408 gmf_X12_handAt (by omega) rfl rfl (Nat.le_of_ble_eq_true rfl) dX12_handMany_21 (fun _ _ h => cX12_handAt_c (by omega) h) (fun r6 s7 _ => ?_)
      refine go_iaload dX12_handMany_24 (fun v8 _ => ?_)
      refine go_iadd dX12_handMany_25 ?_
      refine go_istore_n_l (L' := fun y9 => [(2, vi y9), (0, vr a0), (1, vi x1), (3, vi x3)]) dX12_handMany_26 rfl (by decide) (fun _ => rfl) (fun y9 => ?_)
      refine go_iinc (v := 1) (L' := [(3, vi (x3 + 1)), (2, vi y9), (0, vr a0), (1, vi x1)]) 3 dX12_handMany_27 rfl (by decide) (by decide) rfl ?_
      refine go_goto (tgt := 4) dX12_handMany_30 (by decide) ?_
      exact go_sub [2, 3, 1, 0] (ih y9 (x3 + 1) s7) rfl
    · refine go_iload_n 2 dX12_handMany_33 rfl rfl ?_
      exact go_ret rfl dX12_handMany_34
def fX12_handMany (a0 : Nat) (x1 : Int32) (s0 : gH) : Option (Int32 × gH) :=
  gX12_handMany_L4
    a0 x1 20000 0 0 s0
set_option maxRecDepth 100000 in
set_option maxHeartbeats 4000000 in
theorem wX12_handMany {X : Nat × (Nat → Int32)} {d : Nat} (hd : 1 ≤ d) {a0 : Nat} {x1 : Int32} {s0 : gH} : gGo X rvI mX12_handMany d 0 [(0, vr a0), (1, vi x1)] [] s0 (fX12_handMany a0 x1 s0) := by
  unfold fX12_handMany
  refine go_iconst (v := 0) dX12_handMany_0 (by decide) ?_
  refine go_istore_n (L' := [(2, vi 0), (0, vr a0), (1, vi x1)]) dX12_handMany_1 rfl (by decide) rfl ?_
  refine go_iconst (v := 0) dX12_handMany_2 (by decide) ?_
  refine go_istore_n (L' := [(3, vi 0), (2, vi 0), (0, vr a0), (1, vi x1)]) dX12_handMany_3 rfl (by decide) rfl ?_
  refine go_sub [2, 3, 1, 0] (wX12_handMany_L4 hd a0 x1 20000 0 0 s0) rfl
set_option maxRecDepth 100000 in
set_option maxHeartbeats 4000000 in
theorem cX12_handMany_c {d : Nat} (hd : 1 ≤ d) {a0 : Nat} {x1 : Int32} {s0 : gH} {r : Int32} {s1 : gH} (h : fX12_handMany a0 x1 s0 = some (r, s1)) : gMt mX12_handMany d [vr a0, vi x1] s0 (some (vi r)) s1 :=
  gMt_of (rv := rvI) (by decide +kernel) (Nat.le_of_ble_eq_true rfl) ⟨_, rfl, rfl⟩ (fun _ => wX12_handMany hd) h
def fX12_has (a0 : Nat) (x1 : Int32) (s0 : gH) : Option (Int32 × gH) :=
  if x1 = 0 then
    (ggR s0 a0 12 19).bind fun v2 =>
    (gaI s0 v2 2 0).bind fun v3 =>
    some (v3, s0)
  else
    if x1 = 1 then
      (ggR s0 a0 12 19).bind fun v5 =>
      (gaI s0 v5 2 1).bind fun v6 =>
      some (v6, s0)
    else
      if x1 = 2 then
        gb2 (gcv s0 a0 12 (fX12_handMany a0 0 s0)) fun r8 s9 =>
        some (r8, s9)
      else
        if x1 = 3 then
          gb2 (gcv s0 a0 12 (fX12_handMany a0 1 s0)) fun r11 s12 =>
          some (r11, s12)
        else
          if x1 = 4 then
            (ggI s0 a0 12 36).bind fun v14 =>
            some (v14, s0)
          else
            if x1 = 5 then
              (ggI s0 a0 12 44).bind fun v16 =>
              some (v16, s0)
            else
              some (-1, s0)
set_option maxRecDepth 100000 in
set_option maxHeartbeats 4000000 in
theorem wX12_has {X : Nat × (Nat → Int32)} {d : Nat} (hd : 2 ≤ d) {a0 : Nat} {x1 : Int32} {s0 : gH} : gGo X rvI mX12_has d 0 [(0, vr a0), (1, vi x1)] [] s0 (fX12_has a0 x1 s0) := by
  unfold fX12_has
  refine go_iload_n 1 dX12_has_0 rfl rfl ?_
  refine go_ite (fun h1 => ?_) (fun h1 => ?_)
  · refine go_tsIn (v := 0) (off := 39) (tgt := 40) dX12_has_1 h1 (by decide) (by decide) (by decide) (by decide) ?_
    refine go_aload_n 0 dX12_has_40 rfl rfl ?_
    refine go_getR gf_RX12_39 gcf_12 gft_12_19 dX12_has_41 (fun v2 => ?_)
    refine go_iconst (v := 0) dX12_has_44 (by decide) ?_
    refine go_iaload dX12_has_45 (fun v3 _ => ?_)
    exact go_ret rfl dX12_has_46
  · refine go_ite (fun h4 => ?_) (fun h4 => ?_)
    · refine go_tsIn (v := 1) (off := 46) (tgt := 47) dX12_has_1 h4 (by decide) (by decide) (by decide) (by decide) ?_
      refine go_aload_n 0 dX12_has_47 rfl rfl ?_
      refine go_getR gf_RX12_39 gcf_12 gft_12_19 dX12_has_48 (fun v5 => ?_)
      refine go_iconst (v := 1) dX12_has_51 (by decide) ?_
      refine go_iaload dX12_has_52 (fun v6 _ => ?_)
      exact go_ret rfl dX12_has_53
    · refine go_ite (fun h7 => ?_) (fun h7 => ?_)
      · refine go_tsIn (v := 2) (off := 53) (tgt := 54) dX12_has_1 h7 (by decide) (by decide) (by decide) (by decide) ?_
        refine go_aload_n 0 dX12_has_54 rfl rfl ?_
        refine go_iconst (v := 0) dX12_has_55 (by decide) ?_
        refine go_callV_I (as := [vi 0]) gk_RX12_425 gmf_X12_handMany (by decide) rfl (by omega) rfl rfl (Nat.le_of_ble_eq_true rfl) dX12_has_56 (fun _ _ h => cX12_handMany_c (by omega) h) (fun r8 s9 _ => ?_)
        exact go_ret rfl dX12_has_59
      · refine go_ite (fun h10 => ?_) (fun h10 => ?_)
        · refine go_tsIn (v := 3) (off := 59) (tgt := 60) dX12_has_1 h10 (by decide) (by decide) (by decide) (by decide) ?_
          refine go_aload_n 0 dX12_has_60 rfl rfl ?_
          refine go_iconst (v := 1) dX12_has_61 (by decide) ?_
          refine go_callV_I (as := [vi 1]) gk_RX12_425 gmf_X12_handMany (by decide) rfl (by omega) rfl rfl (Nat.le_of_ble_eq_true rfl) dX12_has_62 (fun _ _ h => cX12_handMany_c (by omega) h) (fun r11 s12 _ => ?_)
          exact go_ret rfl dX12_has_65
        · refine go_ite (fun h13 => ?_) (fun h13 => ?_)
          · refine go_tsIn (v := 4) (off := 65) (tgt := 66) dX12_has_1 h13 (by decide) (by decide) (by decide) (by decide) ?_
            refine go_aload_n 0 dX12_has_66 rfl rfl ?_
            refine go_getI gf_RX12_307 gcf_12 gft_12_36 dX12_has_67 (fun v14 => ?_)
            exact go_ret rfl dX12_has_70
          · refine go_ite (fun h15 => ?_) (fun h15 => ?_)
            · refine go_tsIn (v := 5) (off := 70) (tgt := 71) dX12_has_1 h15 (by decide) (by decide) (by decide) (by decide) ?_
              refine go_aload_n 0 dX12_has_71 rfl rfl ?_
              refine go_getI gf_RX12_304 gcf_12 gft_12_44 dX12_has_72 (fun v16 => ?_)
              exact go_ret rfl dX12_has_75
            · refine go_tsOut (tgt := 76) dX12_has_1 (by have gh1 := gts h1 (n := 0) (by decide); have gh4 := gts h4 (n := 1) (by decide); have gh7 := gts h7 (n := 2) (by decide); have gh10 := gts h10 (n := 3) (by decide); have gh13 := gts h13 (n := 4) (by decide); have gh15 := gts h15 (n := 5) (by decide); omega) (by decide) ?_
              refine go_iconst (v := -1) dX12_has_76 (by decide) ?_
              exact go_ret rfl dX12_has_77
set_option maxRecDepth 100000 in
set_option maxHeartbeats 4000000 in
theorem cX12_has_c {d : Nat} (hd : 2 ≤ d) {a0 : Nat} {x1 : Int32} {s0 : gH} {r : Int32} {s1 : gH} (h : fX12_has a0 x1 s0 = some (r, s1)) : gMt mX12_has d [vr a0, vi x1] s0 (some (vi r)) s1 :=
  gMt_of (rv := rvI) (by decide +kernel) (Nat.le_of_ble_eq_true rfl) ⟨_, rfl, rfl⟩ (fun _ => wX12_has hd) h
def fX1_letterOf (a0 : Nat) (x1 : Int32) (x2 : Int32) (s0 : gH) : Option (Int32 × gH) :=
  if x1 < 0 then
    some (0, s0)
  else
    (ggR s0 a0 1 4).bind fun v2 =>
    (glen s0 v2).bind fun v3 =>
    if x1 < v3 then
      (ggR s0 a0 1 4).bind fun v5 =>
      (gaI s0 v5 2 x1).bind fun v6 =>
      some ((v6 >>> ((5 * (5 - x2)) &&& 31)) &&& 31, s0)
    else
      some (0, s0)
set_option maxRecDepth 100000 in
set_option maxHeartbeats 4000000 in
theorem wX1_letterOf {X : Nat × (Nat → Int32)} {d : Nat} (hd : 0 ≤ d) {a0 : Nat} {x1 : Int32} {x2 : Int32} {s0 : gH} : gGo X rvI mX1_letterOf d 0 [(0, vr a0), (1, vi x1), (2, vi x2)] [] s0 (fX1_letterOf a0 x1 x2 s0) := by
  unfold fX1_letterOf
  refine go_iload_n 1 dX1_letterOf_0 rfl rfl ?_
  refine go_if_lt (tgt := 13) dX1_letterOf_1 (by decide) (fun h1 => ?_) (fun h1 => ?_)
  · refine go_iconst (v := 0) dX1_letterOf_13 (by decide) ?_
    exact go_ret rfl dX1_letterOf_14
  · refine go_iload_n 1 dX1_letterOf_4 rfl rfl ?_
    refine go_aload_n 0 dX1_letterOf_5 rfl rfl ?_
    refine go_getR gf_RX1_17 gcf_1 gft_1_4 dX1_letterOf_6 (fun v2 => ?_)
    refine go_alen dX1_letterOf_9 (fun v3 _ => ?_)
    refine go_icmp_lt (tgt := 15) dX1_letterOf_10 (by decide) (fun h4 => ?_) (fun h4 => ?_)
    · refine go_aload_n 0 dX1_letterOf_15 rfl rfl ?_
      refine go_getR gf_RX1_17 gcf_1 gft_1_4 dX1_letterOf_16 (fun v5 => ?_)
      refine go_iload_n 1 dX1_letterOf_19 rfl rfl ?_
      refine go_iaload dX1_letterOf_20 (fun v6 _ => ?_)
      refine go_iconst (v := 5) dX1_letterOf_21 (by decide) ?_
      refine go_iconst (v := 5) dX1_letterOf_22 (by decide) ?_
      refine go_iload_n 2 dX1_letterOf_23 rfl rfl ?_
      refine go_isub dX1_letterOf_24 ?_
      refine go_imul dX1_letterOf_25 ?_
      refine go_ishr dX1_letterOf_26 ?_
      refine go_bipush (v := 31) dX1_letterOf_27 (by decide) ?_
      refine go_iand dX1_letterOf_29 ?_
      exact go_ret rfl dX1_letterOf_30
    · refine go_iconst (v := 0) dX1_letterOf_13 (by decide) ?_
      exact go_ret rfl dX1_letterOf_14
set_option maxRecDepth 100000 in
set_option maxHeartbeats 4000000 in
theorem cX1_letterOf_c {d : Nat} (hd : 0 ≤ d) {a0 : Nat} {x1 : Int32} {x2 : Int32} {s0 : gH} {r : Int32} {s1 : gH} (h : fX1_letterOf a0 x1 x2 s0 = some (r, s1)) : gMt mX1_letterOf d [vr a0, vi x1, vi x2] s0 (some (vi r)) s1 :=
  gMt_of (rv := rvI) (by decide +kernel) (Nat.le_of_ble_eq_true rfl) ⟨_, rfl, rfl⟩ (fun _ => wX1_letterOf hd) h
def fX11_letter (a0 : Nat) (x1 : Int32) (x2 : Int32) (s0 : gH) : Option (Int32 × gH) :=
  (ggR s0 a0 11 7).bind fun v1 =>
  gb2 (gcv s0 v1 1 (fX1_isWhat v1 x1 s0)) fun r2 s3 =>
  if r2 = 0 then
    some (-1, s3)
  else
    if x2 < 0 then
      some (-1, s3)
    else
      if x2 < 6 then
        (ggR s3 a0 11 7).bind fun v7 =>
        gb2 (gcv s3 v7 1 (fX1_letterOf v7 x1 x2 s3)) fun r8 s9 =>
        some (r8, s9)
      else
        some (-1, s3)
set_option maxRecDepth 100000 in
set_option maxHeartbeats 4000000 in
theorem wX11_letter {X : Nat × (Nat → Int32)} {d : Nat} (hd : 1 ≤ d) {a0 : Nat} {x1 : Int32} {x2 : Int32} {s0 : gH} : gGo X rvI mX11_letter d 0 [(0, vr a0), (1, vi x1), (2, vi x2)] [] s0 (fX11_letter a0 x1 x2 s0) := by
  unfold fX11_letter
  refine go_aload_n 0 dX11_letter_0 rfl rfl ?_
  refine go_getR gf_RX11_60 gcf_11 gft_11_7 dX11_letter_1 (fun v1 => ?_)
  refine go_iload_n 1 dX11_letter_4 rfl rfl ?_
  refine go_callV_I (as := [vi x1]) gk_RX11_115 gmf_X1_isWhat (by decide) rfl (by omega) rfl rfl (Nat.le_of_ble_eq_true rfl) dX11_letter_5 (fun _ _ h => cX1_isWhat_c (by omega) h) (fun r2 s3 _ => ?_)
  refine go_if_eq (tgt := 21) dX11_letter_8 (by decide) (fun h4 => ?_) (fun h4 => ?_)
  · refine go_iconst (v := -1) dX11_letter_21 (by decide) ?_
    exact go_ret rfl dX11_letter_22
  · refine go_iload_n 2 dX11_letter_11 rfl rfl ?_
    refine go_if_lt (tgt := 21) dX11_letter_12 (by decide) (fun h5 => ?_) (fun h5 => ?_)
    · refine go_iconst (v := -1) dX11_letter_21 (by decide) ?_
      exact go_ret rfl dX11_letter_22
    · refine go_iload_n 2 dX11_letter_15 rfl rfl ?_
      refine go_bipush (v := 6) dX11_letter_16 (by decide) ?_
      refine go_icmp_lt (tgt := 23) dX11_letter_18 (by decide) (fun h6 => ?_) (fun h6 => ?_)
      · refine go_aload_n 0 dX11_letter_23 rfl rfl ?_
        refine go_getR gf_RX11_60 gcf_11 gft_11_7 dX11_letter_24 (fun v7 => ?_)
        refine go_iload_n 1 dX11_letter_27 rfl rfl ?_
        refine go_iload_n 2 dX11_letter_28 rfl rfl ?_
        refine go_callV_I (as := [vi x1, vi x2]) gk_RX11_118 gmf_X1_letterOf (by decide) rfl (by omega) rfl rfl (Nat.le_of_ble_eq_true rfl) dX11_letter_29 (fun _ _ h => cX1_letterOf_c (by omega) h) (fun r8 s9 _ => ?_)
        exact go_ret rfl dX11_letter_32
      · refine go_iconst (v := -1) dX11_letter_21 (by decide) ?_
        exact go_ret rfl dX11_letter_22
set_option maxRecDepth 100000 in
set_option maxHeartbeats 4000000 in
theorem cX11_letter_c {d : Nat} (hd : 1 ≤ d) {a0 : Nat} {x1 : Int32} {x2 : Int32} {s0 : gH} {r : Int32} {s1 : gH} (h : fX11_letter a0 x1 x2 s0 = some (r, s1)) : gMt mX11_letter d [vr a0, vi x1, vi x2] s0 (some (vi r)) s1 :=
  gMt_of (rv := rvI) (by decide +kernel) (Nat.le_of_ble_eq_true rfl) ⟨_, rfl, rfl⟩ (fun _ => wX11_letter hd) h
def gX12_isRule (a0 : Nat) (x1 : Int32) (s0 : gH) : Option (Int32 × gH) :=
  (ggI s0 a0 12 23).bind fun v1 =>
  if v1 = 0 then
    some (0, s0)
  else
    (ggR s0 a0 12 19).bind fun v3 =>
    (gaI s0 v3 2 0).bind fun v4 =>
    gb2 (fX12_isIn x1.toInt64 0 ((v4 - 1).toInt64) s0) fun r5 s6 =>
    if r5 = 0 then
      some (0, s6)
    else
      some (1, s6)
def fX12_isRule (a0 : Nat) (x1 : Int32) (s0 : gH) : Option (Int32 × gH) := gzr (gX12_isRule a0 x1 s0)
set_option maxRecDepth 100000 in
set_option maxHeartbeats 4000000 in
theorem wX12_isRule {X : Nat × (Nat → Int32)} {d : Nat} (hd : 1 ≤ d) {a0 : Nat} {x1 : Int32} {s0 : gH} : gGo X rvI mX12_isRule d 0 [(0, vr a0), (1, vi x1)] [] s0 (gX12_isRule a0 x1 s0) := by
  unfold gX12_isRule
  refine go_aload_n 0 dX12_isRule_0 rfl rfl ?_
  refine go_getI gf_RX12_298 gcf_12 gft_12_23 dX12_isRule_1 (fun v1 => ?_)
  refine go_if_eq (tgt := 29) dX12_isRule_4 (by decide) (fun h2 => ?_) (fun h2 => ?_)
  · refine go_iconst (v := 0) dX12_isRule_29 (by decide) ?_
    exact go_ret rfl dX12_isRule_30
  · refine go_iload_n 1 dX12_isRule_7 rfl rfl ?_
    refine go_i2l dX12_isRule_8 ?_
    refine go_lconst (v := 0) dX12_isRule_9 (by decide) ?_
    refine go_aload_n 0 dX12_isRule_10 rfl rfl ?_
    refine go_getR gf_RX12_39 gcf_12 gft_12_19 dX12_isRule_11 (fun v3 => ?_)
    refine go_iconst (v := 0) dX12_isRule_14 (by decide) ?_
    refine go_iaload dX12_isRule_15 (fun v4 _ => ?_)
    refine go_iconst (v := 1) dX12_isRule_16 (by decide) ?_
    refine go_isub dX12_isRule_17 ?_
    refine go_i2l dX12_isRule_18 ?_
    refine go_callS_I (as := [vl x1.toInt64, vl 0, vl ((v4 - 1).toInt64)]) gk_RX12_110 gmf_X12_isIn (by omega) rfl rfl (Nat.le_of_ble_eq_true rfl) dX12_isRule_19 (fun _ _ h => cX12_isIn_c (by omega) h) (fun r5 s6 _ => ?_)
    refine go_if_eq (tgt := 29) dX12_isRule_22 (by decide) (fun h7 => ?_) (fun h7 => ?_)
    · refine go_iconst (v := 0) dX12_isRule_29 (by decide) ?_
      exact go_ret rfl dX12_isRule_30
    · refine go_iconst (v := 1) dX12_isRule_25 (by decide) ?_
      refine go_goto (tgt := 30) dX12_isRule_26 (by decide) ?_
      exact go_ret rfl dX12_isRule_30
set_option maxRecDepth 100000 in
set_option maxHeartbeats 4000000 in
theorem cX12_isRule_c {d : Nat} (hd : 1 ≤ d) {a0 : Nat} {x1 : Int32} {s0 : gH} {r : Int32} {s1 : gH} (h : fX12_isRule a0 x1 s0 = some (r, s1)) : gMt mX12_isRule d [vr a0, vi x1] s0 (some (vi r)) s1 := by
  obtain ⟨h1, h2⟩ := gzr_some h
  exact gMt_of (rv := rvI) (by decide +kernel) (Nat.le_of_ble_eq_true rfl) ⟨_, rfl, gnarZ h2⟩ (fun _ => wX12_isRule hd) h1
def gX12_isSet (a0 : Nat) (x1 : Int32) (s0 : gH) : Option (Int32 × gH) :=
  (ggI s0 a0 12 23).bind fun v1 =>
  if v1 = 0 then
    some (0, s0)
  else
    (ggR s0 a0 12 19).bind fun v3 =>
    (gaI s0 v3 2 1).bind fun v4 =>
    gb2 (fX12_isIn x1.toInt64 0 ((v4 - 1).toInt64) s0) fun r5 s6 =>
    if r5 = 0 then
      some (0, s6)
    else
      some (1, s6)
def fX12_isSet (a0 : Nat) (x1 : Int32) (s0 : gH) : Option (Int32 × gH) := gzr (gX12_isSet a0 x1 s0)
set_option maxRecDepth 100000 in
set_option maxHeartbeats 4000000 in
theorem wX12_isSet {X : Nat × (Nat → Int32)} {d : Nat} (hd : 1 ≤ d) {a0 : Nat} {x1 : Int32} {s0 : gH} : gGo X rvI mX12_isSet d 0 [(0, vr a0), (1, vi x1)] [] s0 (gX12_isSet a0 x1 s0) := by
  unfold gX12_isSet
  refine go_aload_n 0 dX12_isSet_0 rfl rfl ?_
  refine go_getI gf_RX12_298 gcf_12 gft_12_23 dX12_isSet_1 (fun v1 => ?_)
  refine go_if_eq (tgt := 29) dX12_isSet_4 (by decide) (fun h2 => ?_) (fun h2 => ?_)
  · refine go_iconst (v := 0) dX12_isSet_29 (by decide) ?_
    exact go_ret rfl dX12_isSet_30
  · refine go_iload_n 1 dX12_isSet_7 rfl rfl ?_
    refine go_i2l dX12_isSet_8 ?_
    refine go_lconst (v := 0) dX12_isSet_9 (by decide) ?_
    refine go_aload_n 0 dX12_isSet_10 rfl rfl ?_
    refine go_getR gf_RX12_39 gcf_12 gft_12_19 dX12_isSet_11 (fun v3 => ?_)
    refine go_iconst (v := 1) dX12_isSet_14 (by decide) ?_
    refine go_iaload dX12_isSet_15 (fun v4 _ => ?_)
    refine go_iconst (v := 1) dX12_isSet_16 (by decide) ?_
    refine go_isub dX12_isSet_17 ?_
    refine go_i2l dX12_isSet_18 ?_
    refine go_callS_I (as := [vl x1.toInt64, vl 0, vl ((v4 - 1).toInt64)]) gk_RX12_110 gmf_X12_isIn (by omega) rfl rfl (Nat.le_of_ble_eq_true rfl) dX12_isSet_19 (fun _ _ h => cX12_isIn_c (by omega) h) (fun r5 s6 _ => ?_)
    refine go_if_eq (tgt := 29) dX12_isSet_22 (by decide) (fun h7 => ?_) (fun h7 => ?_)
    · refine go_iconst (v := 0) dX12_isSet_29 (by decide) ?_
      exact go_ret rfl dX12_isSet_30
    · refine go_iconst (v := 1) dX12_isSet_25 (by decide) ?_
      refine go_goto (tgt := 30) dX12_isSet_26 (by decide) ?_
      exact go_ret rfl dX12_isSet_30
set_option maxRecDepth 100000 in
set_option maxHeartbeats 4000000 in
theorem cX12_isSet_c {d : Nat} (hd : 1 ≤ d) {a0 : Nat} {x1 : Int32} {s0 : gH} {r : Int32} {s1 : gH} (h : fX12_isSet a0 x1 s0 = some (r, s1)) : gMt mX12_isSet d [vr a0, vi x1] s0 (some (vi r)) s1 := by
  obtain ⟨h1, h2⟩ := gzr_some h
  exact gMt_of (rv := rvI) (by decide +kernel) (Nat.le_of_ble_eq_true rfl) ⟨_, rfl, gnarZ h2⟩ (fun _ => wX12_isSet hd) h1
def gX12_isWhat (a0 : Nat) (x1 : Int32) (s0 : gH) : Option (Int32 × gH) :=
  gb2 (fX12_isIn x1.toInt64 0 5 s0) fun r1 s2 =>
  if r1 = 0 then
    gb2 (gcv s2 a0 12 (fX12_isSet a0 (x1 - 6) s2)) fun r4 s5 =>
    some (r4, s5)
  else
    gb2 (gcv s2 a0 12 (fX12_isRule a0 x1 s2)) fun r6 s7 =>
    some (r6, s7)
def fX12_isWhat (a0 : Nat) (x1 : Int32) (s0 : gH) : Option (Int32 × gH) := gzr (gX12_isWhat a0 x1 s0)
set_option maxRecDepth 100000 in
set_option maxHeartbeats 4000000 in
theorem wX12_isWhat {X : Nat × (Nat → Int32)} {d : Nat} (hd : 2 ≤ d) {a0 : Nat} {x1 : Int32} {s0 : gH} : gGo X rvI mX12_isWhat d 0 [(0, vr a0), (1, vi x1)] [] s0 (gX12_isWhat a0 x1 s0) := by
  unfold gX12_isWhat
  refine go_iload_n 1 dX12_isWhat_0 rfl rfl ?_
  refine go_i2l dX12_isWhat_1 ?_
  refine go_lconst (v := 0) dX12_isWhat_2 (by decide) ?_
  refine go_ldc2 gcl_RX12_108 dX12_isWhat_3 ?_
  refine go_callS_I (as := [vl x1.toInt64, vl 0, vl 5]) gk_RX12_110 gmf_X12_isIn (by omega) rfl rfl (Nat.le_of_ble_eq_true rfl) dX12_isWhat_6 (fun _ _ h => cX12_isIn_c (by omega) h) (fun r1 s2 _ => ?_)
  refine go_if_eq (tgt := 20) dX12_isWhat_9 (by decide) (fun h3 => ?_) (fun h3 => ?_)
  · refine go_aload_n 0 dX12_isWhat_20 rfl rfl ?_
    refine go_iload_n 1 dX12_isWhat_21 rfl rfl ?_
    refine go_bipush (v := 6) dX12_isWhat_22 (by decide) ?_
    refine go_isub dX12_isWhat_24 ?_
    refine go_callV_I (as := [vi (x1 - 6)]) gk_RX12_316 gmf_X12_isSet (by decide) rfl (by omega) rfl rfl (Nat.le_of_ble_eq_true rfl) dX12_isWhat_25 (fun _ _ h => cX12_isSet_c (by omega) h) (fun r4 s5 _ => ?_)
    exact go_ret rfl dX12_isWhat_28
  · refine go_aload_n 0 dX12_isWhat_12 rfl rfl ?_
    refine go_iload_n 1 dX12_isWhat_13 rfl rfl ?_
    refine go_callV_I (as := [vi x1]) gk_RX12_313 gmf_X12_isRule (by decide) rfl (by omega) rfl rfl (Nat.le_of_ble_eq_true rfl) dX12_isWhat_14 (fun _ _ h => cX12_isRule_c (by omega) h) (fun r6 s7 _ => ?_)
    refine go_goto (tgt := 28) dX12_isWhat_17 (by decide) ?_
    exact go_ret rfl dX12_isWhat_28
set_option maxRecDepth 100000 in
set_option maxHeartbeats 4000000 in
theorem cX12_isWhat_c {d : Nat} (hd : 2 ≤ d) {a0 : Nat} {x1 : Int32} {s0 : gH} {r : Int32} {s1 : gH} (h : fX12_isWhat a0 x1 s0 = some (r, s1)) : gMt mX12_isWhat d [vr a0, vi x1] s0 (some (vi r)) s1 := by
  obtain ⟨h1, h2⟩ := gzr_some h
  exact gMt_of (rv := rvI) (by decide +kernel) (Nat.le_of_ble_eq_true rfl) ⟨_, rfl, gnarZ h2⟩ (fun _ => wX12_isWhat hd) h1
def fX12_ruleHas (a0 : Nat) (x1 : Int32) (x2 : Int32) (s0 : gH) : Option (Int32 × gH) :=
  (ggR s0 a0 12 19).bind fun v1 =>
  gb2 (fX12_ruleAt x1 x2 s0) fun r2 s3 =>
  (gaI s3 v1 2 r2).bind fun v4 =>
  some (v4, s3)
set_option maxRecDepth 100000 in
set_option maxHeartbeats 4000000 in
theorem wX12_ruleHas {X : Nat × (Nat → Int32)} {d : Nat} (hd : 1 ≤ d) {a0 : Nat} {x1 : Int32} {x2 : Int32} {s0 : gH} : gGo X rvI mX12_ruleHas d 0 [(0, vr a0), (1, vi x1), (2, vi x2)] [] s0 (fX12_ruleHas a0 x1 x2 s0) := by
  unfold fX12_ruleHas
  refine go_aload_n 0 dX12_ruleHas_0 rfl rfl ?_
  refine go_getR gf_RX12_39 gcf_12 gft_12_19 dX12_ruleHas_1 (fun v1 => ?_)
  refine go_iload_n 1 dX12_ruleHas_4 rfl rfl ?_
  refine go_iload_n 2 dX12_ruleHas_5 rfl rfl ?_
  refine go_callS_I (as := [vi x1, vi x2]) gk_RX12_186 gmf_X12_ruleAt (by omega) rfl rfl (Nat.le_of_ble_eq_true rfl) dX12_ruleHas_6 (fun _ _ h => cX12_ruleAt_c (by omega) h) (fun r2 s3 _ => ?_)
  refine go_iaload dX12_ruleHas_9 (fun v4 _ => ?_)
  exact go_ret rfl dX12_ruleHas_10
set_option maxRecDepth 100000 in
set_option maxHeartbeats 4000000 in
theorem cX12_ruleHas_c {d : Nat} (hd : 1 ≤ d) {a0 : Nat} {x1 : Int32} {x2 : Int32} {s0 : gH} {r : Int32} {s1 : gH} (h : fX12_ruleHas a0 x1 x2 s0 = some (r, s1)) : gMt mX12_ruleHas d [vr a0, vi x1, vi x2] s0 (some (vi r)) s1 :=
  gMt_of (rv := rvI) (by decide +kernel) (Nat.le_of_ble_eq_true rfl) ⟨_, rfl, rfl⟩ (fun _ => wX12_ruleHas hd) h
def gX12_letter_L57 (k75 : Int32 → gH → Option (Int32 × gH)) (x2 : Int32) (x3 : Int32) : Nat → Int32 → Int32 → gH → Option (Int32 × gH)
  | 0, _, _, _ => none
  | n + 1, x4, x5, s0 =>
    if 0 < x5 then
      glet (x5 / 27) fun y12 =>
      gX12_letter_L57 k75 x2 x3 n (x4 + 1) y12 s0
    else
      k75 x4 s0
set_option maxRecDepth 100000 in
set_option maxHeartbeats 4000000 in
theorem wX12_letter_L57 {X : Nat × (Nat → Int32)} {d : Nat} (hd : 3 ≤ d) (k75 : Int32 → gH → Option (Int32 × gH)) (x2 : Int32) (x3 : Int32) (hk75 : ∀ (x4 : Int32) (s : gH), gGo X rvI mX12_letter d 75 [(2, vi x2), (3, vi x3), (4, vi x4)] [] s (k75 x4 s)) : ∀ (n : Nat) (x4 : Int32) (x5 : Int32) (s0 : gH), gGo X rvI mX12_letter d 57 [(2, vi x2), (3, vi x3), (4, vi x4), (5, vi x5)] [] s0 (gX12_letter_L57 k75 x2 x3 n x4 x5 s0) := by
  intro n
  induction n with
  | zero => intros; exact go_none
  | succ n ih =>
    intro x4 x5 s0
    show gGo _ _ _ _ _ _ _ _ (gX12_letter_L57 k75 x2 x3 (n + 1) x4 x5 s0)
    unfold gX12_letter_L57
    refine go_iload 3 dX12_letter_57 rfl ?_
    refine go_if_le (tgt := 75) dX12_letter_59 (by decide) (fun h11 => ?_) (fun h11 => ?_)
    · refine go_iinc (v := 1) (L' := [(4, vi (x4 + 1)), (2, vi x2), (3, vi x3), (5, vi x5)]) 2 dX12_letter_62 rfl (by decide) (by decide) rfl ?_
      refine go_iload 3 dX12_letter_65 rfl ?_
      refine go_bipush (v := 27) dX12_letter_67 (by decide) ?_
      refine go_idivc dX12_letter_69 (by decide) ?_
      refine go_istore_l (L' := fun y12 => [(5, vi y12), (4, vi (x4 + 1)), (2, vi x2), (3, vi x3)]) dX12_letter_70 (by decide) (fun _ => rfl) (fun y12 => ?_)
      refine go_goto (tgt := 57) dX12_letter_72 (by decide) ?_
      exact go_sub [2, 3, 1, 0] (ih (x4 + 1) y12 s0) rfl
    · exact go_sub [0, 1, 2] (hk75 x4 s0) rfl
def gX12_letter_L81 (k98 : Int32 → gH → Option (Int32 × gH)) (x2 : Int32) (x4 : Int32) : Nat → Int32 → Int32 → gH → Option (Int32 × gH)
  | 0, _, _, _ => none
  | n + 1, x3, x5, s0 =>
    if x2 < x5 then
      glet (x3 / 27) fun y18 =>
      gX12_letter_L81 k98 x2 x4 n y18 (x5 + (-1)) s0
    else
      k98 x3 s0
set_option maxRecDepth 100000 in
set_option maxHeartbeats 4000000 in
theorem wX12_letter_L81 {X : Nat × (Nat → Int32)} {d : Nat} (hd : 3 ≤ d) (k98 : Int32 → gH → Option (Int32 × gH)) (x2 : Int32) (x4 : Int32) (hk98 : ∀ (x3 : Int32) (s : gH), gGo X rvI mX12_letter d 98 [(2, vi x2), (3, vi x3), (4, vi x4)] [] s (k98 x3 s)) : ∀ (n : Nat) (x3 : Int32) (x5 : Int32) (s0 : gH), gGo X rvI mX12_letter d 81 [(2, vi x2), (3, vi x3), (4, vi x4), (5, vi x5)] [] s0 (gX12_letter_L81 k98 x2 x4 n x3 x5 s0) := by
  intro n
  induction n with
  | zero => intros; exact go_none
  | succ n ih =>
    intro x3 x5 s0
    show gGo _ _ _ _ _ _ _ _ (gX12_letter_L81 k98 x2 x4 (n + 1) x3 x5 s0)
    unfold gX12_letter_L81
    refine go_iload 3 dX12_letter_81 rfl ?_
    refine go_iload_n 0 dX12_letter_83 rfl rfl ?_
    refine go_icmp_le (tgt := 98) dX12_letter_84 (by decide) (fun h17 => ?_) (fun h17 => ?_)
    · refine go_iload_n 1 dX12_letter_87 rfl rfl ?_
      refine go_bipush (v := 27) dX12_letter_88 (by decide) ?_
      refine go_idivc dX12_letter_90 (by decide) ?_
      refine go_istore_n_l (L' := fun y18 => [(3, vi y18), (2, vi x2), (4, vi x4), (5, vi x5)]) dX12_letter_91 rfl (by decide) (fun _ => rfl) (fun y18 => ?_)
      refine go_iinc (v := -1) (L' := [(5, vi (x5 + (-1))), (3, vi y18), (2, vi x2), (4, vi x4)]) 3 dX12_letter_92 rfl (by decide) (by decide) rfl ?_
      refine go_goto (tgt := 81) dX12_letter_95 (by decide) ?_
      exact go_sub [2, 1, 3, 0] (ih y18 (x5 + (-1)) s0) rfl
    · exact go_sub [0, 1, 2] (hk98 x3 s0) rfl
def fX12_letter (a0 : Nat) (x1 : Int32) (x2 : Int32) (s0 : gH) : Option (Int32 × gH) :=
  gb2 (gcv s0 a0 12 (fX12_isWhat a0 x1 s0)) fun r1 s2 =>
  if r1 = 0 then
    some (-1, s2)
  else
    gb2 (fX12_isIn x2.toInt64 0 5 s2) fun r4 s5 =>
    if r4 = 0 then
      some (-1, s5)
    else
      gjn (fun (z8 : Int32) (s9 : gH) =>
          gX12_letter_L57
            (fun y13 s14 =>
              glet (y13 - 1) fun y15 =>
              gX12_letter_L81
                (fun y19 s20 =>
                  if x2 < y13 then
                    some (gIrem y19 27, s20)
                  else
                    some (0, s20))
                x2 y13 20000 z8 y15 s14)
            x2 z8 20000 0 z8 s9
      ) fun j7 =>
      if x1 < 6 then
        gb2 (gcv s5 a0 12 (fX12_ruleHas a0 x1 0 s5)) fun r23 s24 =>
        j7 r23 s24
      else
        (ggR s5 a0 12 19).bind fun v25 =>
        gb2 (fX12_setAt (x1 - 6) 0 s5) fun r26 s27 =>
        (gaI s27 v25 2 r26).bind fun v28 =>
        j7 v28 s27
set_option maxRecDepth 100000 in
set_option maxHeartbeats 4000000 in
theorem wX12_letter {X : Nat × (Nat → Int32)} {d : Nat} (hd : 3 ≤ d) {a0 : Nat} {x1 : Int32} {x2 : Int32} {s0 : gH} : gGo X rvI mX12_letter d 0 [(0, vr a0), (1, vi x1), (2, vi x2)] [] s0 (fX12_letter a0 x1 x2 s0) := by
  unfold fX12_letter
  refine go_aload_n 0 dX12_letter_0 rfl rfl ?_
  refine go_iload_n 1 dX12_letter_1 rfl rfl ?_
  refine go_callV_I (as := [vi x1]) gk_RX12_428 gmf_X12_isWhat (by decide) rfl (by omega) rfl rfl (Nat.le_of_ble_eq_true rfl) dX12_letter_2 (fun _ _ h => cX12_isWhat_c (by omega) h) (fun r1 s2 _ => ?_)
  refine go_if_eq (tgt := 20) dX12_letter_5 (by decide) (fun h3 => ?_) (fun h3 => ?_)
  · refine go_iconst (v := -1) dX12_letter_20 (by decide) ?_
    exact go_ret rfl dX12_letter_21
  · refine go_iload_n 2 dX12_letter_8 rfl rfl ?_
    refine go_i2l dX12_letter_9 ?_
    refine go_lconst (v := 0) dX12_letter_10 (by decide) ?_
    refine go_ldc2 gcl_RX12_108 dX12_letter_11 ?_
    refine go_callS_I (as := [vl x2.toInt64, vl 0, vl 5]) gk_RX12_110 gmf_X12_isIn (by omega) rfl rfl (Nat.le_of_ble_eq_true rfl) dX12_letter_14 (fun _ _ h => cX12_isIn_c (by omega) h) (fun r4 s5 _ => ?_)
    refine go_if_ne (tgt := 22) dX12_letter_17 (by decide) (fun h6 => ?_) (fun h6 => ?_)
    · refine go_iconst (v := -1) dX12_letter_20 (by decide) ?_
      exact go_ret rfl dX12_letter_21
    · refine go_iload_n 1 dX12_letter_22 rfl rfl ?_
      refine go_bipush (v := 6) dX12_letter_23 (by decide) ?_
      refine go_gjn (P := fun j7 => ∀ (z8 : Int32) (s9 : gH), gGo X rvI mX12_letter d 50 [(2, vi x2)] [vi z8] s9 (j7 z8 s9)) (fun z8 s9 => ?_) (fun j7 hj7 => ?_)
      · refine go_istore_n (L' := [(3, vi z8), (2, vi x2)]) dX12_letter_50 rfl (by decide) rfl ?_
        refine go_iconst (v := 0) dX12_letter_51 (by decide) ?_
        refine go_istore (L' := [(4, vi 0), (3, vi z8), (2, vi x2)]) dX12_letter_52 (by decide) rfl ?_
        refine go_iload_n 1 dX12_letter_54 rfl rfl ?_
        refine go_istore (L' := [(5, vi z8), (4, vi 0), (3, vi z8), (2, vi x2)]) dX12_letter_55 (by decide) rfl ?_
        refine go_sub [3, 2, 1, 0] (wX12_letter_L57 hd _ x2 z8 ?_ 20000 0 z8 s9) rfl
        intro y13 s14
        refine go_iload 2 dX12_letter_75 rfl ?_
        refine go_iconst (v := 1) dX12_letter_77 (by decide) ?_
        refine go_isub dX12_letter_78 ?_
        refine go_istore_l (L' := fun y15 => [(5, vi y15), (2, vi x2), (3, vi z8), (4, vi y13)]) dX12_letter_79 (by decide) (fun _ => rfl) (fun y15 => ?_)
        refine go_sub [1, 2, 3, 0] (wX12_letter_L81 hd _ x2 y13 ?_ 20000 z8 y15 s14) rfl
        intro y19 s20
        refine go_iload_n 0 dX12_letter_98 rfl rfl ?_
        refine go_iload 2 dX12_letter_99 rfl ?_
        refine go_icmp_ge (tgt := 111) dX12_letter_101 (by decide) (fun h21 => ?_) (fun h21 => ?_)
        · refine go_iload_n 1 dX12_letter_104 rfl rfl ?_
          refine go_bipush (v := 27) dX12_letter_105 (by decide) ?_
          refine go_iremc dX12_letter_107 (by decide) ?_
          refine go_goto (tgt := 112) dX12_letter_108 (by decide) ?_
          exact go_ret rfl dX12_letter_112
        · refine go_iconst (v := 0) dX12_letter_111 (by decide) ?_
          exact go_ret rfl dX12_letter_112
      · refine go_icmp_ge (tgt := 37) dX12_letter_25 (by decide) (fun h22 => ?_) (fun h22 => ?_)
        · refine go_aload_n 0 dX12_letter_28 rfl rfl ?_
          refine go_iload_n 1 dX12_letter_29 rfl rfl ?_
          refine go_iconst (v := 0) dX12_letter_30 (by decide) ?_
          refine go_callV_I (as := [vi x1, vi 0]) gk_RX12_321 gmf_X12_ruleHas (by decide) rfl (by omega) rfl rfl (Nat.le_of_ble_eq_true rfl) dX12_letter_31 (fun _ _ h => cX12_ruleHas_c (by omega) h) (fun r23 s24 _ => ?_)
          refine go_goto (tgt := 50) dX12_letter_34 (by decide) ?_
          exact go_sub [2] (hj7 r23 s24) rfl
        · refine go_aload_n 0 dX12_letter_37 rfl rfl ?_
          refine go_getR gf_RX12_39 gcf_12 gft_12_19 dX12_letter_38 (fun v25 => ?_)
          refine go_iload_n 1 dX12_letter_41 rfl rfl ?_
          refine go_bipush (v := 6) dX12_letter_42 (by decide) ?_
          refine go_isub dX12_letter_44 ?_
          refine go_iconst (v := 0) dX12_letter_45 (by decide) ?_
          refine go_callS_I (as := [vi (x1 - 6), vi 0]) gk_RX12_189 gmf_X12_setAt (by omega) rfl rfl (Nat.le_of_ble_eq_true rfl) dX12_letter_46 (fun _ _ h => cX12_setAt_c (by omega) h) (fun r26 s27 _ => ?_)
          refine go_iaload dX12_letter_49 (fun v28 _ => ?_)
          exact go_sub [2] (hj7 v28 s27) rfl
set_option maxRecDepth 100000 in
set_option maxHeartbeats 4000000 in
theorem cX12_letter_c {d : Nat} (hd : 3 ≤ d) {a0 : Nat} {x1 : Int32} {x2 : Int32} {s0 : gH} {r : Int32} {s1 : gH} (h : fX12_letter a0 x1 x2 s0 = some (r, s1)) : gMt mX12_letter d [vr a0, vi x1, vi x2] s0 (some (vi r)) s1 :=
  gMt_of (rv := rvI) (by decide +kernel) (Nat.le_of_ble_eq_true rfl) ⟨_, rfl, rfl⟩ (fun _ => wX12_letter hd) h
def fX8_tell (a0 : Nat) (x1 : Int32) (s0 : gH) : Option (Int32 × gH) :=
  if x1 = 0 then
    (ggI s0 a0 8 0).bind fun v2 =>
    some (v2, s0)
  else
    if x1 = 1 then
      (ggI s0 a0 8 1).bind fun v4 =>
      some (v4, s0)
    else
      if x1 = 2 then
        (ggI s0 a0 8 2).bind fun v6 =>
        some (v6, s0)
      else
        if x1 = 3 then
          (ggI s0 a0 8 8).bind fun v8 =>
          some (v8, s0)
        else
          if x1 = 4 then
            (ggI s0 a0 8 12).bind fun v10 =>
            some (v10, s0)
          else
            if x1 = 5 then
              (ggR s0 a0 8 13).bind fun v12 =>
              (ggI s0 v12 7 1).bind fun v13 =>
              some (v13, s0)
            else
              if x1 = 6 then
                (ggR s0 a0 8 14).bind fun v15 =>
                (ggI s0 v15 7 1).bind fun v16 =>
                some (v16, s0)
              else
                if x1 = 7 then
                  (ggI s0 a0 8 6).bind fun v18 =>
                  some (v18, s0)
                else
                  if x1 = 8 then
                    (ggI s0 a0 8 7).bind fun v20 =>
                    some (v20, s0)
                  else
                    some (-1, s0)
set_option maxRecDepth 100000 in
set_option maxHeartbeats 4000000 in
theorem wX8_tell {X : Nat × (Nat → Int32)} {d : Nat} (hd : 0 ≤ d) {a0 : Nat} {x1 : Int32} {s0 : gH} : gGo X rvI mX8_tell d 0 [(0, vr a0), (1, vi x1)] [] s0 (fX8_tell a0 x1 s0) := by
  unfold fX8_tell
  refine go_iload_n 1 dX8_tell_0 rfl rfl ?_
  refine go_ite (fun h1 => ?_) (fun h1 => ?_)
  · refine go_tsIn (v := 0) (off := 51) (tgt := 52) dX8_tell_1 h1 (by decide) (by decide) (by decide) (by decide) ?_
    refine go_aload_n 0 dX8_tell_52 rfl rfl ?_
    refine go_getI gf_RX8_86 gcf_8 gft_8_0 dX8_tell_53 (fun v2 => ?_)
    exact go_ret rfl dX8_tell_56
  · refine go_ite (fun h3 => ?_) (fun h3 => ?_)
    · refine go_tsIn (v := 1) (off := 56) (tgt := 57) dX8_tell_1 h3 (by decide) (by decide) (by decide) (by decide) ?_
      refine go_aload_n 0 dX8_tell_57 rfl rfl ?_
      refine go_getI gf_RX8_89 gcf_8 gft_8_1 dX8_tell_58 (fun v4 => ?_)
      exact go_ret rfl dX8_tell_61
    · refine go_ite (fun h5 => ?_) (fun h5 => ?_)
      · refine go_tsIn (v := 2) (off := 61) (tgt := 62) dX8_tell_1 h5 (by decide) (by decide) (by decide) (by decide) ?_
        refine go_aload_n 0 dX8_tell_62 rfl rfl ?_
        refine go_getI gf_RX8_54 gcf_8 gft_8_2 dX8_tell_63 (fun v6 => ?_)
        exact go_ret rfl dX8_tell_66
      · refine go_ite (fun h7 => ?_) (fun h7 => ?_)
        · refine go_tsIn (v := 3) (off := 66) (tgt := 67) dX8_tell_1 h7 (by decide) (by decide) (by decide) (by decide) ?_
          refine go_aload_n 0 dX8_tell_67 rfl rfl ?_
          refine go_getI gf_RX8_23 gcf_8 gft_8_8 dX8_tell_68 (fun v8 => ?_)
          exact go_ret rfl dX8_tell_71
        · refine go_ite (fun h9 => ?_) (fun h9 => ?_)
          · refine go_tsIn (v := 4) (off := 71) (tgt := 72) dX8_tell_1 h9 (by decide) (by decide) (by decide) (by decide) ?_
            refine go_aload_n 0 dX8_tell_72 rfl rfl ?_
            refine go_getI gf_RX8_36 gcf_8 gft_8_12 dX8_tell_73 (fun v10 => ?_)
            exact go_ret rfl dX8_tell_76
          · refine go_ite (fun h11 => ?_) (fun h11 => ?_)
            · refine go_tsIn (v := 5) (off := 76) (tgt := 77) dX8_tell_1 h11 (by decide) (by decide) (by decide) (by decide) ?_
              refine go_aload_n 0 dX8_tell_77 rfl rfl ?_
              refine go_getR gf_RX8_14 gcf_8 gft_8_13 dX8_tell_78 (fun v12 => ?_)
              refine go_getI gf_RX8_76 gcf_7 gft_7_1 dX8_tell_81 (fun v13 => ?_)
              exact go_ret rfl dX8_tell_84
            · refine go_ite (fun h14 => ?_) (fun h14 => ?_)
              · refine go_tsIn (v := 6) (off := 84) (tgt := 85) dX8_tell_1 h14 (by decide) (by decide) (by decide) (by decide) ?_
                refine go_aload_n 0 dX8_tell_85 rfl rfl ?_
                refine go_getR gf_RX8_20 gcf_8 gft_8_14 dX8_tell_86 (fun v15 => ?_)
                refine go_getI gf_RX8_76 gcf_7 gft_7_1 dX8_tell_89 (fun v16 => ?_)
                exact go_ret rfl dX8_tell_92
              · refine go_ite (fun h17 => ?_) (fun h17 => ?_)
                · refine go_tsIn (v := 7) (off := 92) (tgt := 93) dX8_tell_1 h17 (by decide) (by decide) (by decide) (by decide) ?_
                  refine go_aload_n 0 dX8_tell_93 rfl rfl ?_
                  refine go_getI gf_RX8_42 gcf_8 gft_8_6 dX8_tell_94 (fun v18 => ?_)
                  exact go_ret rfl dX8_tell_97
                · refine go_ite (fun h19 => ?_) (fun h19 => ?_)
                  · refine go_tsIn (v := 8) (off := 97) (tgt := 98) dX8_tell_1 h19 (by decide) (by decide) (by decide) (by decide) ?_
                    refine go_aload_n 0 dX8_tell_98 rfl rfl ?_
                    refine go_getI gf_RX8_45 gcf_8 gft_8_7 dX8_tell_99 (fun v20 => ?_)
                    exact go_ret rfl dX8_tell_102
                  · refine go_tsOut (tgt := 103) dX8_tell_1 (by have gh1 := gts h1 (n := 0) (by decide); have gh3 := gts h3 (n := 1) (by decide); have gh5 := gts h5 (n := 2) (by decide); have gh7 := gts h7 (n := 3) (by decide); have gh9 := gts h9 (n := 4) (by decide); have gh11 := gts h11 (n := 5) (by decide); have gh14 := gts h14 (n := 6) (by decide); have gh17 := gts h17 (n := 7) (by decide); have gh19 := gts h19 (n := 8) (by decide); omega) (by decide) ?_
                    refine go_iconst (v := -1) dX8_tell_103 (by decide) ?_
                    exact go_ret rfl dX8_tell_104
set_option maxRecDepth 100000 in
set_option maxHeartbeats 4000000 in
theorem cX8_tell_c {d : Nat} (hd : 0 ≤ d) {a0 : Nat} {x1 : Int32} {s0 : gH} {r : Int32} {s1 : gH} (h : fX8_tell a0 x1 s0 = some (r, s1)) : gMt mX8_tell d [vr a0, vi x1] s0 (some (vi r)) s1 :=
  gMt_of (rv := rvI) (by decide +kernel) (Nat.le_of_ble_eq_true rfl) ⟨_, rfl, rfl⟩ (fun _ => wX8_tell hd) h
def fX11_rule (a0 : Nat) (x1 : Int32) (x2 : Int32) (s0 : gH) : Option (Int32 × gH) :=
  (ggR s0 a0 11 7).bind fun v1 =>
  gb2 (gcv s0 v1 1 (fX1_ruleAt v1 x1 s0)) fun r2 s3 =>
  if r2 = 0 then
    some (-1, s3)
  else
    gb2 (gcv s3 r2 8 (fX8_tell r2 x2 s3)) fun r5 s6 =>
    some (r5, s6)
set_option maxRecDepth 100000 in
set_option maxHeartbeats 4000000 in
theorem wX11_rule {X : Nat × (Nat → Int32)} {d : Nat} (hd : 1 ≤ d) {a0 : Nat} {x1 : Int32} {x2 : Int32} {s0 : gH} : gGo X rvI mX11_rule d 0 [(0, vr a0), (1, vi x1), (2, vi x2)] [] s0 (fX11_rule a0 x1 x2 s0) := by
  unfold fX11_rule
  refine go_aload_n 0 dX11_rule_0 rfl rfl ?_
  refine go_getR gf_RX11_60 gcf_11 gft_11_7 dX11_rule_1 (fun v1 => ?_)
  refine go_iload_n 1 dX11_rule_4 rfl rfl ?_
  refine go_callV_R (as := [vi x1]) gk_RX11_122 gmf_X1_ruleAt (by decide) rfl (by omega) rfl rfl (Nat.le_of_ble_eq_true rfl) dX11_rule_5 (fun _ _ h => cX1_ruleAt_c (by omega) h) (fun r2 s3 _ => ?_)
  refine go_astore_n (L' := [(3, vr r2), (0, vr a0), (1, vi x1), (2, vi x2)]) dX11_rule_8 rfl (by decide) rfl ?_
  refine go_aload_n 0 dX11_rule_9 rfl rfl ?_
  refine go_ifnonnull (tgt := 17) dX11_rule_10 (by decide) (fun h4 => ?_) (fun h4 => ?_)
  · refine go_iconst (v := -1) dX11_rule_13 (by decide) ?_
    refine go_goto (tgt := 22) dX11_rule_14 (by decide) ?_
    exact go_ret rfl dX11_rule_22
  · refine go_aload_n 0 dX11_rule_17 rfl rfl ?_
    refine go_iload_n 3 dX11_rule_18 rfl rfl ?_
    refine go_callV_I (as := [vi x2]) gk_RX11_126 gmf_X8_tell (by decide) rfl (by omega) rfl rfl (Nat.le_of_ble_eq_true rfl) dX11_rule_19 (fun _ _ h => cX8_tell_c (by omega) h) (fun r5 s6 _ => ?_)
    exact go_ret rfl dX11_rule_22
set_option maxRecDepth 100000 in
set_option maxHeartbeats 4000000 in
theorem cX11_rule_c {d : Nat} (hd : 1 ≤ d) {a0 : Nat} {x1 : Int32} {x2 : Int32} {s0 : gH} {r : Int32} {s1 : gH} (h : fX11_rule a0 x1 x2 s0 = some (r, s1)) : gMt mX11_rule d [vr a0, vi x1, vi x2] s0 (some (vi r)) s1 :=
  gMt_of (rv := rvI) (by decide +kernel) (Nat.le_of_ble_eq_true rfl) ⟨_, rfl, rfl⟩ (fun _ => wX11_rule hd) h
def fX12_fromOf (a0 : Nat) (x1 : Int32) (s0 : gH) : Option (Int32 × gH) :=
  (ggR s0 a0 12 29).bind fun v1 =>
  (gaI s0 v1 2 ((2 * x1) + 1)).bind fun v2 =>
  some (v2, s0)
set_option maxRecDepth 100000 in
set_option maxHeartbeats 4000000 in
theorem wX12_fromOf {X : Nat × (Nat → Int32)} {d : Nat} (hd : 0 ≤ d) {a0 : Nat} {x1 : Int32} {s0 : gH} : gGo X rvI mX12_fromOf d 0 [(0, vr a0), (1, vi x1)] [] s0 (fX12_fromOf a0 x1 s0) := by
  unfold fX12_fromOf
  refine go_aload_n 0 dX12_fromOf_0 rfl rfl ?_
  refine go_getR gf_RX12_54 gcf_12 gft_12_29 dX12_fromOf_1 (fun v1 => ?_)
  refine go_iconst (v := 2) dX12_fromOf_4 (by decide) ?_
  refine go_iload_n 1 dX12_fromOf_5 rfl rfl ?_
  refine go_imul dX12_fromOf_6 ?_
  refine go_iconst (v := 1) dX12_fromOf_7 (by decide) ?_
  refine go_iadd dX12_fromOf_8 ?_
  refine go_iaload dX12_fromOf_9 (fun v2 _ => ?_)
  exact go_ret rfl dX12_fromOf_10
set_option maxRecDepth 100000 in
set_option maxHeartbeats 4000000 in
theorem cX12_fromOf_c {d : Nat} (hd : 0 ≤ d) {a0 : Nat} {x1 : Int32} {s0 : gH} {r : Int32} {s1 : gH} (h : fX12_fromOf a0 x1 s0 = some (r, s1)) : gMt mX12_fromOf d [vr a0, vi x1] s0 (some (vi r)) s1 :=
  gMt_of (rv := rvI) (by decide +kernel) (Nat.le_of_ble_eq_true rfl) ⟨_, rfl, rfl⟩ (fun _ => wX12_fromOf hd) h
def fX12_rule (a0 : Nat) (x1 : Int32) (x2 : Int32) (s0 : gH) : Option (Int32 × gH) :=
  gb2 (gcv s0 a0 12 (fX12_isRule a0 x1 s0)) fun r1 s2 =>
  if r1 = 0 then
    some (-1, s2)
  else
    if x2 = 0 then
      (ggR s2 a0 12 29).bind fun v5 =>
      (gaI s2 v5 2 (2 * x1)).bind fun v6 =>
      some (v6, s2)
    else
      if x2 = 1 then
        gb2 (gcv s2 a0 12 (fX12_ruleHas a0 x1 2 s2)) fun r8 s9 =>
        some (r8, s9)
      else
        if x2 = 2 then
          gb2 (gcv s2 a0 12 (fX12_fromOf a0 x1 s2)) fun r11 s12 =>
          some (r11, s12)
        else
          if x2 = 3 then
            gb2 (gcv s2 a0 12 (fX12_ruleHas a0 x1 4 s2)) fun r14 s15 =>
            some (r14, s15)
          else
            if x2 = 4 then
              gb2 (gcv s2 a0 12 (fX12_ruleHas a0 x1 5 s2)) fun r17 s18 =>
              some (r17, s18)
            else
              if x2 = 5 then
                gb2 (gcv s2 a0 12 (fX12_ruleHas a0 x1 14 s2)) fun r20 s21 =>
                some (r20, s21)
              else
                if x2 = 6 then
                  gb2 (gcv s2 a0 12 (fX12_ruleHas a0 x1 31 s2)) fun r23 s24 =>
                  some (r23, s24)
                else
                  if x2 = 7 then
                    gb2 (gcv s2 a0 12 (fX12_ruleHas a0 x1 40 s2)) fun r26 s27 =>
                    some (r26, s27)
                  else
                    if x2 = 8 then
                      gb2 (gcv s2 a0 12 (fX12_ruleHas a0 x1 41 s2)) fun r29 s30 =>
                      some (r29, s30)
                    else
                      some (-1, s2)
set_option maxRecDepth 100000 in
set_option maxHeartbeats 4000000 in
theorem wX12_rule {X : Nat × (Nat → Int32)} {d : Nat} (hd : 2 ≤ d) {a0 : Nat} {x1 : Int32} {x2 : Int32} {s0 : gH} : gGo X rvI mX12_rule d 0 [(0, vr a0), (1, vi x1), (2, vi x2)] [] s0 (fX12_rule a0 x1 x2 s0) := by
  unfold fX12_rule
  refine go_aload_n 0 dX12_rule_0 rfl rfl ?_
  refine go_iload_n 1 dX12_rule_1 rfl rfl ?_
  refine go_callV_I (as := [vi x1]) gk_RX12_313 gmf_X12_isRule (by decide) rfl (by omega) rfl rfl (Nat.le_of_ble_eq_true rfl) dX12_rule_2 (fun _ _ h => cX12_isRule_c (by omega) h) (fun r1 s2 _ => ?_)
  refine go_if_ne (tgt := 10) dX12_rule_5 (by decide) (fun h3 => ?_) (fun h3 => ?_)
  · refine go_iconst (v := -1) dX12_rule_8 (by decide) ?_
    exact go_ret rfl dX12_rule_9
  · refine go_iload_n 2 dX12_rule_10 rfl rfl ?_
    refine go_ite (fun h4 => ?_) (fun h4 => ?_)
    · refine go_tsIn (v := 0) (off := 49) (tgt := 60) dX12_rule_11 h4 (by decide) (by decide) (by decide) (by decide) ?_
      refine go_aload_n 0 dX12_rule_60 rfl rfl ?_
      refine go_getR gf_RX12_54 gcf_12 gft_12_29 dX12_rule_61 (fun v5 => ?_)
      refine go_iconst (v := 2) dX12_rule_64 (by decide) ?_
      refine go_iload_n 1 dX12_rule_65 rfl rfl ?_
      refine go_imul dX12_rule_66 ?_
      refine go_iaload dX12_rule_67 (fun v6 _ => ?_)
      exact go_ret rfl dX12_rule_68
    · refine go_ite (fun h7 => ?_) (fun h7 => ?_)
      · refine go_tsIn (v := 1) (off := 58) (tgt := 69) dX12_rule_11 h7 (by decide) (by decide) (by decide) (by decide) ?_
        refine go_aload_n 0 dX12_rule_69 rfl rfl ?_
        refine go_iload_n 1 dX12_rule_70 rfl rfl ?_
        refine go_iconst (v := 2) dX12_rule_71 (by decide) ?_
        refine go_callV_I (as := [vi x1, vi 2]) gk_RX12_321 gmf_X12_ruleHas (by decide) rfl (by omega) rfl rfl (Nat.le_of_ble_eq_true rfl) dX12_rule_72 (fun _ _ h => cX12_ruleHas_c (by omega) h) (fun r8 s9 _ => ?_)
        exact go_ret rfl dX12_rule_75
      · refine go_ite (fun h10 => ?_) (fun h10 => ?_)
        · refine go_tsIn (v := 2) (off := 65) (tgt := 76) dX12_rule_11 h10 (by decide) (by decide) (by decide) (by decide) ?_
          refine go_aload_n 0 dX12_rule_76 rfl rfl ?_
          refine go_iload_n 1 dX12_rule_77 rfl rfl ?_
          refine go_callV_I (as := [vi x1]) gk_RX12_333 gmf_X12_fromOf (by decide) rfl (by omega) rfl rfl (Nat.le_of_ble_eq_true rfl) dX12_rule_78 (fun _ _ h => cX12_fromOf_c (by omega) h) (fun r11 s12 _ => ?_)
          exact go_ret rfl dX12_rule_81
        · refine go_ite (fun h13 => ?_) (fun h13 => ?_)
          · refine go_tsIn (v := 3) (off := 71) (tgt := 82) dX12_rule_11 h13 (by decide) (by decide) (by decide) (by decide) ?_
            refine go_aload_n 0 dX12_rule_82 rfl rfl ?_
            refine go_iload_n 1 dX12_rule_83 rfl rfl ?_
            refine go_iconst (v := 4) dX12_rule_84 (by decide) ?_
            refine go_callV_I (as := [vi x1, vi 4]) gk_RX12_321 gmf_X12_ruleHas (by decide) rfl (by omega) rfl rfl (Nat.le_of_ble_eq_true rfl) dX12_rule_85 (fun _ _ h => cX12_ruleHas_c (by omega) h) (fun r14 s15 _ => ?_)
            exact go_ret rfl dX12_rule_88
          · refine go_ite (fun h16 => ?_) (fun h16 => ?_)
            · refine go_tsIn (v := 4) (off := 78) (tgt := 89) dX12_rule_11 h16 (by decide) (by decide) (by decide) (by decide) ?_
              refine go_aload_n 0 dX12_rule_89 rfl rfl ?_
              refine go_iload_n 1 dX12_rule_90 rfl rfl ?_
              refine go_iconst (v := 5) dX12_rule_91 (by decide) ?_
              refine go_callV_I (as := [vi x1, vi 5]) gk_RX12_321 gmf_X12_ruleHas (by decide) rfl (by omega) rfl rfl (Nat.le_of_ble_eq_true rfl) dX12_rule_92 (fun _ _ h => cX12_ruleHas_c (by omega) h) (fun r17 s18 _ => ?_)
              exact go_ret rfl dX12_rule_95
            · refine go_ite (fun h19 => ?_) (fun h19 => ?_)
              · refine go_tsIn (v := 5) (off := 85) (tgt := 96) dX12_rule_11 h19 (by decide) (by decide) (by decide) (by decide) ?_
                refine go_aload_n 0 dX12_rule_96 rfl rfl ?_
                refine go_iload_n 1 dX12_rule_97 rfl rfl ?_
                refine go_bipush (v := 14) dX12_rule_98 (by decide) ?_
                refine go_callV_I (as := [vi x1, vi 14]) gk_RX12_321 gmf_X12_ruleHas (by decide) rfl (by omega) rfl rfl (Nat.le_of_ble_eq_true rfl) dX12_rule_100 (fun _ _ h => cX12_ruleHas_c (by omega) h) (fun r20 s21 _ => ?_)
                exact go_ret rfl dX12_rule_103
              · refine go_ite (fun h22 => ?_) (fun h22 => ?_)
                · refine go_tsIn (v := 6) (off := 93) (tgt := 104) dX12_rule_11 h22 (by decide) (by decide) (by decide) (by decide) ?_
                  refine go_aload_n 0 dX12_rule_104 rfl rfl ?_
                  refine go_iload_n 1 dX12_rule_105 rfl rfl ?_
                  refine go_bipush (v := 31) dX12_rule_106 (by decide) ?_
                  refine go_callV_I (as := [vi x1, vi 31]) gk_RX12_321 gmf_X12_ruleHas (by decide) rfl (by omega) rfl rfl (Nat.le_of_ble_eq_true rfl) dX12_rule_108 (fun _ _ h => cX12_ruleHas_c (by omega) h) (fun r23 s24 _ => ?_)
                  exact go_ret rfl dX12_rule_111
                · refine go_ite (fun h25 => ?_) (fun h25 => ?_)
                  · refine go_tsIn (v := 7) (off := 101) (tgt := 112) dX12_rule_11 h25 (by decide) (by decide) (by decide) (by decide) ?_
                    refine go_aload_n 0 dX12_rule_112 rfl rfl ?_
                    refine go_iload_n 1 dX12_rule_113 rfl rfl ?_
                    refine go_bipush (v := 40) dX12_rule_114 (by decide) ?_
                    refine go_callV_I (as := [vi x1, vi 40]) gk_RX12_321 gmf_X12_ruleHas (by decide) rfl (by omega) rfl rfl (Nat.le_of_ble_eq_true rfl) dX12_rule_116 (fun _ _ h => cX12_ruleHas_c (by omega) h) (fun r26 s27 _ => ?_)
                    exact go_ret rfl dX12_rule_119
                  · refine go_ite (fun h28 => ?_) (fun h28 => ?_)
                    · refine go_tsIn (v := 8) (off := 109) (tgt := 120) dX12_rule_11 h28 (by decide) (by decide) (by decide) (by decide) ?_
                      refine go_aload_n 0 dX12_rule_120 rfl rfl ?_
                      refine go_iload_n 1 dX12_rule_121 rfl rfl ?_
                      refine go_bipush (v := 41) dX12_rule_122 (by decide) ?_
                      refine go_callV_I (as := [vi x1, vi 41]) gk_RX12_321 gmf_X12_ruleHas (by decide) rfl (by omega) rfl rfl (Nat.le_of_ble_eq_true rfl) dX12_rule_124 (fun _ _ h => cX12_ruleHas_c (by omega) h) (fun r29 s30 _ => ?_)
                      exact go_ret rfl dX12_rule_127
                    · refine go_tsOut (tgt := 128) dX12_rule_11 (by have gh4 := gts h4 (n := 0) (by decide); have gh7 := gts h7 (n := 1) (by decide); have gh10 := gts h10 (n := 2) (by decide); have gh13 := gts h13 (n := 3) (by decide); have gh16 := gts h16 (n := 4) (by decide); have gh19 := gts h19 (n := 5) (by decide); have gh22 := gts h22 (n := 6) (by decide); have gh25 := gts h25 (n := 7) (by decide); have gh28 := gts h28 (n := 8) (by decide); omega) (by decide) ?_
                      refine go_iconst (v := -1) dX12_rule_128 (by decide) ?_
                      exact go_ret rfl dX12_rule_129
set_option maxRecDepth 100000 in
set_option maxHeartbeats 4000000 in
theorem cX12_rule_c {d : Nat} (hd : 2 ≤ d) {a0 : Nat} {x1 : Int32} {x2 : Int32} {s0 : gH} {r : Int32} {s1 : gH} (h : fX12_rule a0 x1 x2 s0 = some (r, s1)) : gMt mX12_rule d [vr a0, vi x1, vi x2] s0 (some (vi r)) s1 :=
  gMt_of (rv := rvI) (by decide +kernel) (Nat.le_of_ble_eq_true rfl) ⟨_, rfl, rfl⟩ (fun _ => wX12_rule hd) h
def fX11_day (a0 : Nat) (x1 : Int32) (x2 : Int32) (x3 : Int32) (s0 : gH) : Option (Int32 × gH) :=
  if x1 < 2000 then
    some (-1, s0)
  else
    if x1 < 2040 then
      if x2 < 1 then
        some (-1, s0)
      else
        if 12 < x2 then
          some (-1, s0)
        else
          if x3 < 1 then
            some (-1, s0)
          else
            gb2 (fX0_monthLengthOf (x1 - 2000) x2 s0) fun r6 s7 =>
            if r6 < x3 then
              some (-1, s7)
            else
              gb2 (fX0_firstOfMonth (x1 - 2000) x2 s7) fun r9 s10 =>
              some ((r9 + x3) - 1, s10)
    else
      some (-1, s0)
set_option maxRecDepth 100000 in
set_option maxHeartbeats 4000000 in
theorem wX11_day {X : Nat × (Nat → Int32)} {d : Nat} (hd : 2 ≤ d) {a0 : Nat} {x1 : Int32} {x2 : Int32} {x3 : Int32} {s0 : gH} : gGo X rvI mX11_day d 0 [(0, vr a0), (1, vi x1), (2, vi x2), (3, vi x3)] [] s0 (fX11_day a0 x1 x2 x3 s0) := by
  unfold fX11_day
  refine go_iload_n 1 dX11_day_0 rfl rfl ?_
  refine go_sipush (v := 2000) dX11_day_1 (by decide) ?_
  refine go_icmp_lt (tgt := 25) dX11_day_4 (by decide) (fun h1 => ?_) (fun h1 => ?_)
  · refine go_iconst (v := -1) dX11_day_25 (by decide) ?_
    exact go_ret rfl dX11_day_26
  · refine go_iload_n 1 dX11_day_7 rfl rfl ?_
    refine go_sipush (v := 2040) dX11_day_8 (by decide) ?_
    refine go_icmp_ge (tgt := 25) dX11_day_11 (by decide) (fun h2 => ?_) (fun h2 => ?_)
    · refine go_iload_n 2 dX11_day_14 rfl rfl ?_
      refine go_iconst (v := 1) dX11_day_15 (by decide) ?_
      refine go_icmp_lt (tgt := 25) dX11_day_16 (by decide) (fun h3 => ?_) (fun h3 => ?_)
      · refine go_iconst (v := -1) dX11_day_25 (by decide) ?_
        exact go_ret rfl dX11_day_26
      · refine go_iload_n 2 dX11_day_19 rfl rfl ?_
        refine go_bipush (v := 12) dX11_day_20 (by decide) ?_
        refine go_icmp_le (tgt := 27) dX11_day_22 (by decide) (fun h4 => ?_) (fun h4 => ?_)
        · refine go_iconst (v := -1) dX11_day_25 (by decide) ?_
          exact go_ret rfl dX11_day_26
        · refine go_iload_n 3 dX11_day_27 rfl rfl ?_
          refine go_iconst (v := 1) dX11_day_28 (by decide) ?_
          refine go_icmp_lt (tgt := 45) dX11_day_29 (by decide) (fun h5 => ?_) (fun h5 => ?_)
          · refine go_iconst (v := -1) dX11_day_45 (by decide) ?_
            exact go_ret rfl dX11_day_46
          · refine go_iload_n 3 dX11_day_32 rfl rfl ?_
            refine go_iload_n 1 dX11_day_33 rfl rfl ?_
            refine go_sipush (v := 2000) dX11_day_34 (by decide) ?_
            refine go_isub dX11_day_37 ?_
            refine go_iload_n 2 dX11_day_38 rfl rfl ?_
            refine go_callS_I (as := [vi (x1 - 2000), vi x2]) gk_RX11_131 gmf_X0_monthLengthOf (by omega) rfl rfl (Nat.le_of_ble_eq_true rfl) dX11_day_39 (fun _ _ h => cX0_monthLengthOf_c (by omega) h) (fun r6 s7 _ => ?_)
            refine go_icmp_le (tgt := 47) dX11_day_42 (by decide) (fun h8 => ?_) (fun h8 => ?_)
            · refine go_iconst (v := -1) dX11_day_45 (by decide) ?_
              exact go_ret rfl dX11_day_46
            · refine go_iload_n 1 dX11_day_47 rfl rfl ?_
              refine go_sipush (v := 2000) dX11_day_48 (by decide) ?_
              refine go_isub dX11_day_51 ?_
              refine go_iload_n 2 dX11_day_52 rfl rfl ?_
              refine go_callS_I (as := [vi (x1 - 2000), vi x2]) gk_RX11_136 gmf_X0_firstOfMonth (by omega) rfl rfl (Nat.le_of_ble_eq_true rfl) dX11_day_53 (fun _ _ h => cX0_firstOfMonth_c (by omega) h) (fun r9 s10 _ => ?_)
              refine go_iload_n 3 dX11_day_56 rfl rfl ?_
              refine go_iadd dX11_day_57 ?_
              refine go_iconst (v := 1) dX11_day_58 (by decide) ?_
              refine go_isub dX11_day_59 ?_
              exact go_ret rfl dX11_day_60
    · refine go_iconst (v := -1) dX11_day_25 (by decide) ?_
      exact go_ret rfl dX11_day_26
set_option maxRecDepth 100000 in
set_option maxHeartbeats 4000000 in
theorem cX11_day_c {d : Nat} (hd : 2 ≤ d) {a0 : Nat} {x1 : Int32} {x2 : Int32} {x3 : Int32} {s0 : gH} {r : Int32} {s1 : gH} (h : fX11_day a0 x1 x2 x3 s0 = some (r, s1)) : gMt mX11_day d [vr a0, vi x1, vi x2, vi x3] s0 (some (vi r)) s1 :=
  gMt_of (rv := rvI) (by decide +kernel) (Nat.le_of_ble_eq_true rfl) ⟨_, rfl, rfl⟩ (fun _ => wX11_day hd) h
def fX12_day (a0 : Nat) (x1 : Int32) (x2 : Int32) (x3 : Int32) (s0 : gH) : Option (Int32 × gH) :=
  gb2 (gcv s0 a0 12 (fX12_dayOf a0 x1 x2 x3 s0)) fun r1 s2 =>
  some (r1, s2)
set_option maxRecDepth 100000 in
set_option maxHeartbeats 4000000 in
theorem wX12_day {X : Nat × (Nat → Int32)} {d : Nat} (hd : 4 ≤ d) {a0 : Nat} {x1 : Int32} {x2 : Int32} {x3 : Int32} {s0 : gH} : gGo X rvI mX12_day d 0 [(0, vr a0), (1, vi x1), (2, vi x2), (3, vi x3)] [] s0 (fX12_day a0 x1 x2 x3 s0) := by
  unfold fX12_day
  refine go_aload_n 0 dX12_day_0 rfl rfl ?_
  refine go_iload_n 1 dX12_day_1 rfl rfl ?_
  refine go_iload_n 2 dX12_day_2 rfl rfl ?_
  refine go_iload_n 3 dX12_day_3 rfl rfl ?_
  refine go_callV_I (as := [vi x1, vi x2, vi x3]) gk_RX12_205 gmf_X12_dayOf (by decide) rfl (by omega) rfl rfl (Nat.le_of_ble_eq_true rfl) dX12_day_4 (fun _ _ h => cX12_dayOf_c (by omega) h) (fun r1 s2 _ => ?_)
  exact go_ret rfl dX12_day_7
set_option maxRecDepth 100000 in
set_option maxHeartbeats 4000000 in
theorem cX12_day_c {d : Nat} (hd : 4 ≤ d) {a0 : Nat} {x1 : Int32} {x2 : Int32} {x3 : Int32} {s0 : gH} {r : Int32} {s1 : gH} (h : fX12_day a0 x1 x2 x3 s0 = some (r, s1)) : gMt mX12_day d [vr a0, vi x1, vi x2, vi x3] s0 (some (vi r)) s1 :=
  gMt_of (rv := rvI) (by decide +kernel) (Nat.le_of_ble_eq_true rfl) ⟨_, rfl, rfl⟩ (fun _ => wX12_day hd) h
def fX3_calendarOf (a0 : Nat) (x1 : Int32) (x2 : Int32) (s0 : gH) : Option (Int32 × gH) :=
  (ggR s0 a0 3 0).bind fun v1 =>
  gb2 (gcv s0 v1 0 (fX0_moveTo v1 x1 s0)) fun r2 s3 =>
  if x2 = 0 then
    (ggR s3 a0 3 0).bind fun v5 =>
    (ggI s3 v5 0 1).bind fun v6 =>
    some (2000 + v6, s3)
  else
    if x2 = 1 then
      (ggR s3 a0 3 0).bind fun v8 =>
      (ggI s3 v8 0 2).bind fun v9 =>
      some (v9, s3)
    else
      if x2 = 2 then
        (ggR s3 a0 3 0).bind fun v11 =>
        (ggI s3 v11 0 3).bind fun v12 =>
        some (v12, s3)
      else
        if x2 = 3 then
          (ggR s3 a0 3 0).bind fun v14 =>
          (ggI s3 v14 0 4).bind fun v15 =>
          some (v15, s3)
        else
          if x2 = 4 then
            (ggR s3 a0 3 0).bind fun v17 =>
            (ggI s3 v17 0 6).bind fun v18 =>
            some (v18, s3)
          else
            if x2 = 5 then
              (ggR s3 a0 3 0).bind fun v20 =>
              (ggI s3 v20 0 5).bind fun v21 =>
              some (v21, s3)
            else
              some (-1, s3)
set_option maxRecDepth 100000 in
set_option maxHeartbeats 4000000 in
theorem wX3_calendarOf {X : Nat × (Nat → Int32)} {d : Nat} (hd : 2 ≤ d) {a0 : Nat} {x1 : Int32} {x2 : Int32} {s0 : gH} : gGo X rvI mX3_calendarOf d 0 [(0, vr a0), (1, vi x1), (2, vi x2)] [] s0 (fX3_calendarOf a0 x1 x2 s0) := by
  unfold fX3_calendarOf
  refine go_aload_n 0 dX3_calendarOf_0 rfl rfl ?_
  refine go_getR gf_RX3_12 gcf_3 gft_3_0 dX3_calendarOf_1 (fun v1 => ?_)
  refine go_iload_n 1 dX3_calendarOf_4 rfl rfl ?_
  refine go_callV_v (as := [vi x1]) gk_RX3_22 gmf_X0_moveTo (by decide) rfl (by omega) rfl rfl (Nat.le_of_ble_eq_true rfl) dX3_calendarOf_5 (fun _ _ h => cX0_moveTo_c (by omega) h) (fun r2 s3 _ => ?_)
  refine go_iload_n 2 dX3_calendarOf_8 rfl rfl ?_
  refine go_ite (fun h4 => ?_) (fun h4 => ?_)
  · refine go_tsIn (v := 0) (off := 39) (tgt := 48) dX3_calendarOf_9 h4 (by decide) (by decide) (by decide) (by decide) ?_
    refine go_sipush (v := 2000) dX3_calendarOf_48 (by decide) ?_
    refine go_aload_n 0 dX3_calendarOf_51 rfl rfl ?_
    refine go_getR gf_RX3_12 gcf_3 gft_3_0 dX3_calendarOf_52 (fun v5 => ?_)
    refine go_getI gf_RX3_26 gcf_0 gft_0_1 dX3_calendarOf_55 (fun v6 => ?_)
    refine go_iadd dX3_calendarOf_58 ?_
    exact go_ret rfl dX3_calendarOf_59
  · refine go_ite (fun h7 => ?_) (fun h7 => ?_)
    · refine go_tsIn (v := 1) (off := 51) (tgt := 60) dX3_calendarOf_9 h7 (by decide) (by decide) (by decide) (by decide) ?_
      refine go_aload_n 0 dX3_calendarOf_60 rfl rfl ?_
      refine go_getR gf_RX3_12 gcf_3 gft_3_0 dX3_calendarOf_61 (fun v8 => ?_)
      refine go_getI gf_RX3_30 gcf_0 gft_0_2 dX3_calendarOf_64 (fun v9 => ?_)
      exact go_ret rfl dX3_calendarOf_67
    · refine go_ite (fun h10 => ?_) (fun h10 => ?_)
      · refine go_tsIn (v := 2) (off := 59) (tgt := 68) dX3_calendarOf_9 h10 (by decide) (by decide) (by decide) (by decide) ?_
        refine go_aload_n 0 dX3_calendarOf_68 rfl rfl ?_
        refine go_getR gf_RX3_12 gcf_3 gft_3_0 dX3_calendarOf_69 (fun v11 => ?_)
        refine go_getI gf_RX3_33 gcf_0 gft_0_3 dX3_calendarOf_72 (fun v12 => ?_)
        exact go_ret rfl dX3_calendarOf_75
      · refine go_ite (fun h13 => ?_) (fun h13 => ?_)
        · refine go_tsIn (v := 3) (off := 67) (tgt := 76) dX3_calendarOf_9 h13 (by decide) (by decide) (by decide) (by decide) ?_
          refine go_aload_n 0 dX3_calendarOf_76 rfl rfl ?_
          refine go_getR gf_RX3_12 gcf_3 gft_3_0 dX3_calendarOf_77 (fun v14 => ?_)
          refine go_getI gf_RX3_36 gcf_0 gft_0_4 dX3_calendarOf_80 (fun v15 => ?_)
          exact go_ret rfl dX3_calendarOf_83
        · refine go_ite (fun h16 => ?_) (fun h16 => ?_)
          · refine go_tsIn (v := 4) (off := 75) (tgt := 84) dX3_calendarOf_9 h16 (by decide) (by decide) (by decide) (by decide) ?_
            refine go_aload_n 0 dX3_calendarOf_84 rfl rfl ?_
            refine go_getR gf_RX3_12 gcf_3 gft_3_0 dX3_calendarOf_85 (fun v17 => ?_)
            refine go_getI gf_RX3_39 gcf_0 gft_0_6 dX3_calendarOf_88 (fun v18 => ?_)
            exact go_ret rfl dX3_calendarOf_91
          · refine go_ite (fun h19 => ?_) (fun h19 => ?_)
            · refine go_tsIn (v := 5) (off := 83) (tgt := 92) dX3_calendarOf_9 h19 (by decide) (by decide) (by decide) (by decide) ?_
              refine go_aload_n 0 dX3_calendarOf_92 rfl rfl ?_
              refine go_getR gf_RX3_12 gcf_3 gft_3_0 dX3_calendarOf_93 (fun v20 => ?_)
              refine go_getI gf_RX3_42 gcf_0 gft_0_5 dX3_calendarOf_96 (fun v21 => ?_)
              exact go_ret rfl dX3_calendarOf_99
            · refine go_tsOut (tgt := 100) dX3_calendarOf_9 (by have gh4 := gts h4 (n := 0) (by decide); have gh7 := gts h7 (n := 1) (by decide); have gh10 := gts h10 (n := 2) (by decide); have gh13 := gts h13 (n := 3) (by decide); have gh16 := gts h16 (n := 4) (by decide); have gh19 := gts h19 (n := 5) (by decide); omega) (by decide) ?_
              refine go_iconst (v := -1) dX3_calendarOf_100 (by decide) ?_
              exact go_ret rfl dX3_calendarOf_101
set_option maxRecDepth 100000 in
set_option maxHeartbeats 4000000 in
theorem cX3_calendarOf_c {d : Nat} (hd : 2 ≤ d) {a0 : Nat} {x1 : Int32} {x2 : Int32} {s0 : gH} {r : Int32} {s1 : gH} (h : fX3_calendarOf a0 x1 x2 s0 = some (r, s1)) : gMt mX3_calendarOf d [vr a0, vi x1, vi x2] s0 (some (vi r)) s1 :=
  gMt_of (rv := rvI) (by decide +kernel) (Nat.le_of_ble_eq_true rfl) ⟨_, rfl, rfl⟩ (fun _ => wX3_calendarOf hd) h
def fX11_date (a0 : Nat) (x1 : Int32) (x2 : Int32) (s0 : gH) : Option (Int32 × gH) :=
  gb2 (fX11_isDay x1 s0) fun r1 s2 =>
  if r1 = 0 then
    some (-1, s2)
  else
    (ggR s2 a0 11 2).bind fun v4 =>
    gb2 (gcv s2 v4 3 (fX3_calendarOf v4 x1 x2 s2)) fun r5 s6 =>
    some (r5, s6)
set_option maxRecDepth 100000 in
set_option maxHeartbeats 4000000 in
theorem wX11_date {X : Nat × (Nat → Int32)} {d : Nat} (hd : 3 ≤ d) {a0 : Nat} {x1 : Int32} {x2 : Int32} {s0 : gH} : gGo X rvI mX11_date d 0 [(0, vr a0), (1, vi x1), (2, vi x2)] [] s0 (fX11_date a0 x1 x2 s0) := by
  unfold fX11_date
  refine go_iload_n 1 dX11_date_0 rfl rfl ?_
  refine go_callS_I (as := [vi x1]) gk_RX11_139 gmf_X11_isDay (by omega) rfl rfl (Nat.le_of_ble_eq_true rfl) dX11_date_1 (fun _ _ h => cX11_isDay_c (by omega) h) (fun r1 s2 _ => ?_)
  refine go_if_eq (tgt := 19) dX11_date_4 (by decide) (fun h3 => ?_) (fun h3 => ?_)
  · refine go_iconst (v := -1) dX11_date_19 (by decide) ?_
    exact go_ret rfl dX11_date_20
  · refine go_aload_n 0 dX11_date_7 rfl rfl ?_
    refine go_getR gf_RX11_26 gcf_11 gft_11_2 dX11_date_8 (fun v4 => ?_)
    refine go_iload_n 1 dX11_date_11 rfl rfl ?_
    refine go_iload_n 2 dX11_date_12 rfl rfl ?_
    refine go_callV_I (as := [vi x1, vi x2]) gk_RX11_142 gmf_X3_calendarOf (by decide) rfl (by omega) rfl rfl (Nat.le_of_ble_eq_true rfl) dX11_date_13 (fun _ _ h => cX3_calendarOf_c (by omega) h) (fun r5 s6 _ => ?_)
    refine go_goto (tgt := 20) dX11_date_16 (by decide) ?_
    exact go_ret rfl dX11_date_20
set_option maxRecDepth 100000 in
set_option maxHeartbeats 4000000 in
theorem cX11_date_c {d : Nat} (hd : 3 ≤ d) {a0 : Nat} {x1 : Int32} {x2 : Int32} {s0 : gH} {r : Int32} {s1 : gH} (h : fX11_date a0 x1 x2 s0 = some (r, s1)) : gMt mX11_date d [vr a0, vi x1, vi x2] s0 (some (vi r)) s1 :=
  gMt_of (rv := rvI) (by decide +kernel) (Nat.le_of_ble_eq_true rfl) ⟨_, rfl, rfl⟩ (fun _ => wX11_date hd) h
def gX12_isDay (x0 : Int32) (s0 : gH) : Option (Int32 × gH) :=
  gb2 (fX12_isIn x0.toInt64 0 14609 s0) fun r1 s2 =>
  some (r1, s2)
def fX12_isDay (x0 : Int32) (s0 : gH) : Option (Int32 × gH) := gzr (gX12_isDay x0 s0)
set_option maxRecDepth 100000 in
set_option maxHeartbeats 4000000 in
theorem wX12_isDay {X : Nat × (Nat → Int32)} {d : Nat} (hd : 1 ≤ d) {x0 : Int32} {s0 : gH} : gGo X rvI mX12_isDay d 0 [(0, vi x0)] [] s0 (gX12_isDay x0 s0) := by
  unfold gX12_isDay
  refine go_iload_n 0 dX12_isDay_0 rfl rfl ?_
  refine go_i2l dX12_isDay_1 ?_
  refine go_lconst (v := 0) dX12_isDay_2 (by decide) ?_
  refine go_ldc2 gcl_RX12_319 dX12_isDay_3 ?_
  refine go_callS_I (as := [vl x0.toInt64, vl 0, vl 14609]) gk_RX12_110 gmf_X12_isIn (by omega) rfl rfl (Nat.le_of_ble_eq_true rfl) dX12_isDay_6 (fun _ _ h => cX12_isIn_c (by omega) h) (fun r1 s2 _ => ?_)
  exact go_ret rfl dX12_isDay_9
set_option maxRecDepth 100000 in
set_option maxHeartbeats 4000000 in
theorem cX12_isDay_c {d : Nat} (hd : 1 ≤ d) {x0 : Int32} {s0 : gH} {r : Int32} {s1 : gH} (h : fX12_isDay x0 s0 = some (r, s1)) : gMt mX12_isDay d [vi x0] s0 (some (vi r)) s1 := by
  obtain ⟨h1, h2⟩ := gzr_some h
  exact gMt_of (rv := rvI) (by decide +kernel) (Nat.le_of_ble_eq_true rfl) ⟨_, rfl, gnarZ h2⟩ (fun _ => wX12_isDay hd) h1
def fX12_weekdayOf (x0 : Int32) (s0 : gH) : Option (Int32 × gH) :=
  some (gIrem (x0 + 5) 7, s0)
set_option maxRecDepth 100000 in
set_option maxHeartbeats 4000000 in
theorem wX12_weekdayOf {X : Nat × (Nat → Int32)} {d : Nat} (hd : 0 ≤ d) {x0 : Int32} {s0 : gH} : gGo X rvI mX12_weekdayOf d 0 [(0, vi x0)] [] s0 (fX12_weekdayOf x0 s0) := by
  unfold fX12_weekdayOf
  refine go_iload_n 0 dX12_weekdayOf_0 rfl rfl ?_
  refine go_iconst (v := 5) dX12_weekdayOf_1 (by decide) ?_
  refine go_iadd dX12_weekdayOf_2 ?_
  refine go_bipush (v := 7) dX12_weekdayOf_3 (by decide) ?_
  refine go_iremc dX12_weekdayOf_5 (by decide) ?_
  exact go_ret rfl dX12_weekdayOf_6
set_option maxRecDepth 100000 in
set_option maxHeartbeats 4000000 in
theorem cX12_weekdayOf_c {d : Nat} (hd : 0 ≤ d) {x0 : Int32} {s0 : gH} {r : Int32} {s1 : gH} (h : fX12_weekdayOf x0 s0 = some (r, s1)) : gMt mX12_weekdayOf d [vi x0] s0 (some (vi r)) s1 :=
  gMt_of (rv := rvI) (by decide +kernel) (Nat.le_of_ble_eq_true rfl) ⟨_, rfl, rfl⟩ (fun _ => wX12_weekdayOf hd) h
def fX12_longMonthOf (a0 : Nat) (x1 : Int32) (s0 : gH) : Option (Int32 × gH) :=
  (ggR s0 a0 12 13).bind fun v1 =>
  (gaI s0 v1 2 x1).bind fun v2 =>
  (ggR s0 a0 12 14).bind fun v3 =>
  (gaI s0 v3 2 x1).bind fun v4 =>
  gb2 (fX12_longMonth v2 v4 s0) fun r5 s6 =>
  some (r5, s6)
set_option maxRecDepth 100000 in
set_option maxHeartbeats 4000000 in
theorem wX12_longMonthOf {X : Nat × (Nat → Int32)} {d : Nat} (hd : 2 ≤ d) {a0 : Nat} {x1 : Int32} {s0 : gH} : gGo X rvI mX12_longMonthOf d 0 [(0, vr a0), (1, vi x1)] [] s0 (fX12_longMonthOf a0 x1 s0) := by
  unfold fX12_longMonthOf
  refine go_aload_n 0 dX12_longMonthOf_0 rfl rfl ?_
  refine go_getR gf_RX12_24 gcf_12 gft_12_13 dX12_longMonthOf_1 (fun v1 => ?_)
  refine go_iload_n 1 dX12_longMonthOf_4 rfl rfl ?_
  refine go_iaload dX12_longMonthOf_5 (fun v2 _ => ?_)
  refine go_aload_n 0 dX12_longMonthOf_6 rfl rfl ?_
  refine go_getR gf_RX12_27 gcf_12 gft_12_14 dX12_longMonthOf_7 (fun v3 => ?_)
  refine go_iload_n 1 dX12_longMonthOf_10 rfl rfl ?_
  refine go_iaload dX12_longMonthOf_11 (fun v4 _ => ?_)
  refine go_callS_I (as := [vi v2, vi v4]) gk_RX12_179 gmf_X12_longMonth (by omega) rfl rfl (Nat.le_of_ble_eq_true rfl) dX12_longMonthOf_12 (fun _ _ h => cX12_longMonth_c (by omega) h) (fun r5 s6 _ => ?_)
  exact go_ret rfl dX12_longMonthOf_15
set_option maxRecDepth 100000 in
set_option maxHeartbeats 4000000 in
theorem cX12_longMonthOf_c {d : Nat} (hd : 2 ≤ d) {a0 : Nat} {x1 : Int32} {s0 : gH} {r : Int32} {s1 : gH} (h : fX12_longMonthOf a0 x1 s0 = some (r, s1)) : gMt mX12_longMonthOf d [vr a0, vi x1] s0 (some (vi r)) s1 :=
  gMt_of (rv := rvI) (by decide +kernel) (Nat.le_of_ble_eq_true rfl) ⟨_, rfl, rfl⟩ (fun _ => wX12_longMonthOf hd) h
def fX12_date_ (a0 : Nat) (x1 : Int32) (x2 : Int32) (s0 : gH) : Option (Int32 × gH) :=
  gb2 (fX12_isDay x1 s0) fun r1 s2 =>
  if r1 = 0 then
    some (-1, s2)
  else
    gb2 (gcv s2 a0 12 (fX12_laysDays a0 s2)) fun r4 s5 =>
    if x2 = 0 then
      (ggR s5 a0 12 13).bind fun v7 =>
      (gaI s5 v7 2 x1).bind fun v8 =>
      some (v8, s5)
    else
      if x2 = 1 then
        (ggR s5 a0 12 14).bind fun v10 =>
        (gaI s5 v10 2 x1).bind fun v11 =>
        some (v11, s5)
      else
        if x2 = 2 then
          (ggR s5 a0 12 15).bind fun v13 =>
          (gaI s5 v13 2 x1).bind fun v14 =>
          some (v14, s5)
        else
          if x2 = 3 then
            gb2 (fX12_weekdayOf x1 s5) fun r16 s17 =>
            some (r16, s17)
          else
            if x2 = 4 then
              (ggR s5 a0 12 16).bind fun v19 =>
              (gaI s5 v19 2 x1).bind fun v20 =>
              some (v20, s5)
            else
              if x2 = 5 then
                gb2 (gcv s5 a0 12 (fX12_longMonthOf a0 x1 s5)) fun r22 s23 =>
                some (r22, s23)
              else
                some (-1, s5)
set_option maxRecDepth 100000 in
set_option maxHeartbeats 4000000 in
theorem wX12_date_ {X : Nat × (Nat → Int32)} {d : Nat} (hd : 3 ≤ d) {a0 : Nat} {x1 : Int32} {x2 : Int32} {s0 : gH} : gGo X rvI mX12_date_ d 0 [(0, vr a0), (1, vi x1), (2, vi x2)] [] s0 (fX12_date_ a0 x1 x2 s0) := by
  unfold fX12_date_
  refine go_iload_n 1 dX12_date__0 rfl rfl ?_
  refine go_callS_I (as := [vi x1]) gk_RX12_387 gmf_X12_isDay (by omega) rfl rfl (Nat.le_of_ble_eq_true rfl) dX12_date__1 (fun _ _ h => cX12_isDay_c (by omega) h) (fun r1 s2 _ => ?_)
  refine go_if_ne (tgt := 9) dX12_date__4 (by decide) (fun h3 => ?_) (fun h3 => ?_)
  · refine go_iconst (v := -1) dX12_date__7 (by decide) ?_
    exact go_ret rfl dX12_date__8
  · refine go_aload_n 0 dX12_date__9 rfl rfl ?_
    refine go_callV_v (as := []) gk_RX12_183 gmf_X12_laysDays (by decide) rfl (by omega) rfl rfl (Nat.le_of_ble_eq_true rfl) dX12_date__10 (fun _ _ h => cX12_laysDays_c (by omega) h) (fun r4 s5 _ => ?_)
    refine go_iload_n 2 dX12_date__13 rfl rfl ?_
    refine go_ite (fun h6 => ?_) (fun h6 => ?_)
    · refine go_tsIn (v := 0) (off := 38) (tgt := 52) dX12_date__14 h6 (by decide) (by decide) (by decide) (by decide) ?_
      refine go_aload_n 0 dX12_date__52 rfl rfl ?_
      refine go_getR gf_RX12_24 gcf_12 gft_12_13 dX12_date__53 (fun v7 => ?_)
      refine go_iload_n 1 dX12_date__56 rfl rfl ?_
      refine go_iaload dX12_date__57 (fun v8 _ => ?_)
      exact go_ret rfl dX12_date__58
    · refine go_ite (fun h9 => ?_) (fun h9 => ?_)
      · refine go_tsIn (v := 1) (off := 45) (tgt := 59) dX12_date__14 h9 (by decide) (by decide) (by decide) (by decide) ?_
        refine go_aload_n 0 dX12_date__59 rfl rfl ?_
        refine go_getR gf_RX12_27 gcf_12 gft_12_14 dX12_date__60 (fun v10 => ?_)
        refine go_iload_n 1 dX12_date__63 rfl rfl ?_
        refine go_iaload dX12_date__64 (fun v11 _ => ?_)
        exact go_ret rfl dX12_date__65
      · refine go_ite (fun h12 => ?_) (fun h12 => ?_)
        · refine go_tsIn (v := 2) (off := 52) (tgt := 66) dX12_date__14 h12 (by decide) (by decide) (by decide) (by decide) ?_
          refine go_aload_n 0 dX12_date__66 rfl rfl ?_
          refine go_getR gf_RX12_30 gcf_12 gft_12_15 dX12_date__67 (fun v13 => ?_)
          refine go_iload_n 1 dX12_date__70 rfl rfl ?_
          refine go_iaload dX12_date__71 (fun v14 _ => ?_)
          exact go_ret rfl dX12_date__72
        · refine go_ite (fun h15 => ?_) (fun h15 => ?_)
          · refine go_tsIn (v := 3) (off := 59) (tgt := 73) dX12_date__14 h15 (by decide) (by decide) (by decide) (by decide) ?_
            refine go_iload_n 1 dX12_date__73 rfl rfl ?_
            refine go_callS_I (as := [vi x1]) gk_RX12_327 gmf_X12_weekdayOf (by omega) rfl rfl (Nat.le_of_ble_eq_true rfl) dX12_date__74 (fun _ _ h => cX12_weekdayOf_c (by omega) h) (fun r16 s17 _ => ?_)
            exact go_ret rfl dX12_date__77
          · refine go_ite (fun h18 => ?_) (fun h18 => ?_)
            · refine go_tsIn (v := 4) (off := 64) (tgt := 78) dX12_date__14 h18 (by decide) (by decide) (by decide) (by decide) ?_
              refine go_aload_n 0 dX12_date__78 rfl rfl ?_
              refine go_getR gf_RX12_33 gcf_12 gft_12_16 dX12_date__79 (fun v19 => ?_)
              refine go_iload_n 1 dX12_date__82 rfl rfl ?_
              refine go_iaload dX12_date__83 (fun v20 _ => ?_)
              exact go_ret rfl dX12_date__84
            · refine go_ite (fun h21 => ?_) (fun h21 => ?_)
              · refine go_tsIn (v := 5) (off := 71) (tgt := 85) dX12_date__14 h21 (by decide) (by decide) (by decide) (by decide) ?_
                refine go_aload_n 0 dX12_date__85 rfl rfl ?_
                refine go_iload_n 1 dX12_date__86 rfl rfl ?_
                refine go_callV_I (as := [vi x1]) gk_RX12_324 gmf_X12_longMonthOf (by decide) rfl (by omega) rfl rfl (Nat.le_of_ble_eq_true rfl) dX12_date__87 (fun _ _ h => cX12_longMonthOf_c (by omega) h) (fun r22 s23 _ => ?_)
                exact go_ret rfl dX12_date__90
              · refine go_tsOut (tgt := 91) dX12_date__14 (by have gh6 := gts h6 (n := 0) (by decide); have gh9 := gts h9 (n := 1) (by decide); have gh12 := gts h12 (n := 2) (by decide); have gh15 := gts h15 (n := 3) (by decide); have gh18 := gts h18 (n := 4) (by decide); have gh21 := gts h21 (n := 5) (by decide); omega) (by decide) ?_
                refine go_iconst (v := -1) dX12_date__91 (by decide) ?_
                exact go_ret rfl dX12_date__92
set_option maxRecDepth 100000 in
set_option maxHeartbeats 4000000 in
theorem cX12_date__c {d : Nat} (hd : 3 ≤ d) {a0 : Nat} {x1 : Int32} {x2 : Int32} {s0 : gH} {r : Int32} {s1 : gH} (h : fX12_date_ a0 x1 x2 s0 = some (r, s1)) : gMt mX12_date_ d [vr a0, vi x1, vi x2] s0 (some (vi r)) s1 :=
  gMt_of (rv := rvI) (by decide +kernel) (Nat.le_of_ble_eq_true rfl) ⟨_, rfl, rfl⟩ (fun _ => wX12_date_ hd) h
def fX1_codeStart (a0 : Nat) (x1 : Int32) (s0 : gH) : Option (Int32 × gH) :=
  if x1 < 1 then
    some (0, s0)
  else
    (ggR s0 a0 1 6).bind fun v2 =>
    (glen s0 v2).bind fun v3 =>
    if v3 < x1 then
      some (0, s0)
    else
      (ggR s0 a0 1 6).bind fun v5 =>
      (gaI s0 v5 2 (x1 - 1)).bind fun v6 =>
      some (v6, s0)
set_option maxRecDepth 100000 in
set_option maxHeartbeats 4000000 in
theorem wX1_codeStart {X : Nat × (Nat → Int32)} {d : Nat} (hd : 0 ≤ d) {a0 : Nat} {x1 : Int32} {s0 : gH} : gGo X rvI mX1_codeStart d 0 [(0, vr a0), (1, vi x1)] [] s0 (fX1_codeStart a0 x1 s0) := by
  unfold fX1_codeStart
  refine go_iload_n 1 dX1_codeStart_0 rfl rfl ?_
  refine go_iconst (v := 1) dX1_codeStart_1 (by decide) ?_
  refine go_icmp_lt (tgt := 14) dX1_codeStart_2 (by decide) (fun h1 => ?_) (fun h1 => ?_)
  · refine go_iconst (v := 0) dX1_codeStart_14 (by decide) ?_
    refine go_goto (tgt := 26) dX1_codeStart_15 (by decide) ?_
    exact go_ret rfl dX1_codeStart_26
  · refine go_iload_n 1 dX1_codeStart_5 rfl rfl ?_
    refine go_aload_n 0 dX1_codeStart_6 rfl rfl ?_
    refine go_getR gf_RX1_24 gcf_1 gft_1_6 dX1_codeStart_7 (fun v2 => ?_)
    refine go_alen dX1_codeStart_10 (fun v3 _ => ?_)
    refine go_icmp_le (tgt := 18) dX1_codeStart_11 (by decide) (fun h4 => ?_) (fun h4 => ?_)
    · refine go_iconst (v := 0) dX1_codeStart_14 (by decide) ?_
      refine go_goto (tgt := 26) dX1_codeStart_15 (by decide) ?_
      exact go_ret rfl dX1_codeStart_26
    · refine go_aload_n 0 dX1_codeStart_18 rfl rfl ?_
      refine go_getR gf_RX1_24 gcf_1 gft_1_6 dX1_codeStart_19 (fun v5 => ?_)
      refine go_iload_n 1 dX1_codeStart_22 rfl rfl ?_
      refine go_iconst (v := 1) dX1_codeStart_23 (by decide) ?_
      refine go_isub dX1_codeStart_24 ?_
      refine go_iaload dX1_codeStart_25 (fun v6 _ => ?_)
      exact go_ret rfl dX1_codeStart_26
set_option maxRecDepth 100000 in
set_option maxHeartbeats 4000000 in
theorem cX1_codeStart_c {d : Nat} (hd : 0 ≤ d) {a0 : Nat} {x1 : Int32} {s0 : gH} {r : Int32} {s1 : gH} (h : fX1_codeStart a0 x1 s0 = some (r, s1)) : gMt mX1_codeStart d [vr a0, vi x1] s0 (some (vi r)) s1 :=
  gMt_of (rv := rvI) (by decide +kernel) (Nat.le_of_ble_eq_true rfl) ⟨_, rfl, rfl⟩ (fun _ => wX1_codeStart hd) h
def fX1_codeEnd (a0 : Nat) (x1 : Int32) (s0 : gH) : Option (Int32 × gH) :=
  if x1 < 0 then
    some (0, s0)
  else
    (ggR s0 a0 1 6).bind fun v2 =>
    (glen s0 v2).bind fun v3 =>
    if x1 < v3 then
      (ggR s0 a0 1 6).bind fun v5 =>
      (gaI s0 v5 2 x1).bind fun v6 =>
      some (v6, s0)
    else
      some (0, s0)
set_option maxRecDepth 100000 in
set_option maxHeartbeats 4000000 in
theorem wX1_codeEnd {X : Nat × (Nat → Int32)} {d : Nat} (hd : 0 ≤ d) {a0 : Nat} {x1 : Int32} {s0 : gH} : gGo X rvI mX1_codeEnd d 0 [(0, vr a0), (1, vi x1)] [] s0 (fX1_codeEnd a0 x1 s0) := by
  unfold fX1_codeEnd
  refine go_iload_n 1 dX1_codeEnd_0 rfl rfl ?_
  refine go_if_lt (tgt := 13) dX1_codeEnd_1 (by decide) (fun h1 => ?_) (fun h1 => ?_)
  · refine go_iconst (v := 0) dX1_codeEnd_13 (by decide) ?_
    refine go_goto (tgt := 23) dX1_codeEnd_14 (by decide) ?_
    exact go_ret rfl dX1_codeEnd_23
  · refine go_iload_n 1 dX1_codeEnd_4 rfl rfl ?_
    refine go_aload_n 0 dX1_codeEnd_5 rfl rfl ?_
    refine go_getR gf_RX1_24 gcf_1 gft_1_6 dX1_codeEnd_6 (fun v2 => ?_)
    refine go_alen dX1_codeEnd_9 (fun v3 _ => ?_)
    refine go_icmp_lt (tgt := 17) dX1_codeEnd_10 (by decide) (fun h4 => ?_) (fun h4 => ?_)
    · refine go_aload_n 0 dX1_codeEnd_17 rfl rfl ?_
      refine go_getR gf_RX1_24 gcf_1 gft_1_6 dX1_codeEnd_18 (fun v5 => ?_)
      refine go_iload_n 1 dX1_codeEnd_21 rfl rfl ?_
      refine go_iaload dX1_codeEnd_22 (fun v6 _ => ?_)
      exact go_ret rfl dX1_codeEnd_23
    · refine go_iconst (v := 0) dX1_codeEnd_13 (by decide) ?_
      refine go_goto (tgt := 23) dX1_codeEnd_14 (by decide) ?_
      exact go_ret rfl dX1_codeEnd_23
set_option maxRecDepth 100000 in
set_option maxHeartbeats 4000000 in
theorem cX1_codeEnd_c {d : Nat} (hd : 0 ≤ d) {a0 : Nat} {x1 : Int32} {s0 : gH} {r : Int32} {s1 : gH} (h : fX1_codeEnd a0 x1 s0 = some (r, s1)) : gMt mX1_codeEnd d [vr a0, vi x1] s0 (some (vi r)) s1 :=
  gMt_of (rv := rvI) (by decide +kernel) (Nat.le_of_ble_eq_true rfl) ⟨_, rfl, rfl⟩ (fun _ => wX1_codeEnd hd) h
def fX1_opAt (a0 : Nat) (x1 : Int32) (s0 : gH) : Option (Int32 × gH) :=
  if x1 < 0 then
    some (0, s0)
  else
    (ggR s0 a0 1 5).bind fun v2 =>
    (glen s0 v2).bind fun v3 =>
    if x1 < v3 then
      (ggR s0 a0 1 5).bind fun v5 =>
      (gaI s0 v5 2 x1).bind fun v6 =>
      some (v6 >>> (14 &&& 31), s0)
    else
      some (0, s0)
set_option maxRecDepth 100000 in
set_option maxHeartbeats 4000000 in
theorem wX1_opAt {X : Nat × (Nat → Int32)} {d : Nat} (hd : 0 ≤ d) {a0 : Nat} {x1 : Int32} {s0 : gH} : gGo X rvI mX1_opAt d 0 [(0, vr a0), (1, vi x1)] [] s0 (fX1_opAt a0 x1 s0) := by
  unfold fX1_opAt
  refine go_iload_n 1 dX1_opAt_0 rfl rfl ?_
  refine go_if_lt (tgt := 13) dX1_opAt_1 (by decide) (fun h1 => ?_) (fun h1 => ?_)
  · refine go_iconst (v := 0) dX1_opAt_13 (by decide) ?_
    refine go_goto (tgt := 26) dX1_opAt_14 (by decide) ?_
    exact go_ret rfl dX1_opAt_26
  · refine go_iload_n 1 dX1_opAt_4 rfl rfl ?_
    refine go_aload_n 0 dX1_opAt_5 rfl rfl ?_
    refine go_getR gf_RX1_21 gcf_1 gft_1_5 dX1_opAt_6 (fun v2 => ?_)
    refine go_alen dX1_opAt_9 (fun v3 _ => ?_)
    refine go_icmp_lt (tgt := 17) dX1_opAt_10 (by decide) (fun h4 => ?_) (fun h4 => ?_)
    · refine go_aload_n 0 dX1_opAt_17 rfl rfl ?_
      refine go_getR gf_RX1_21 gcf_1 gft_1_5 dX1_opAt_18 (fun v5 => ?_)
      refine go_iload_n 1 dX1_opAt_21 rfl rfl ?_
      refine go_iaload dX1_opAt_22 (fun v6 _ => ?_)
      refine go_bipush (v := 14) dX1_opAt_23 (by decide) ?_
      refine go_ishr dX1_opAt_25 ?_
      exact go_ret rfl dX1_opAt_26
    · refine go_iconst (v := 0) dX1_opAt_13 (by decide) ?_
      refine go_goto (tgt := 26) dX1_opAt_14 (by decide) ?_
      exact go_ret rfl dX1_opAt_26
set_option maxRecDepth 100000 in
set_option maxHeartbeats 4000000 in
theorem cX1_opAt_c {d : Nat} (hd : 0 ≤ d) {a0 : Nat} {x1 : Int32} {s0 : gH} {r : Int32} {s1 : gH} (h : fX1_opAt a0 x1 s0 = some (r, s1)) : gMt mX1_opAt d [vr a0, vi x1] s0 (some (vi r)) s1 :=
  gMt_of (rv := rvI) (by decide +kernel) (Nat.le_of_ble_eq_true rfl) ⟨_, rfl, rfl⟩ (fun _ => wX1_opAt hd) h
def fX1_argumentAt (a0 : Nat) (x1 : Int32) (s0 : gH) : Option (Int32 × gH) :=
  if x1 < 0 then
    some (0, s0)
  else
    (ggR s0 a0 1 5).bind fun v2 =>
    (glen s0 v2).bind fun v3 =>
    if x1 < v3 then
      (ggR s0 a0 1 5).bind fun v5 =>
      (gaI s0 v5 2 x1).bind fun v6 =>
      some (v6 &&& 16383, s0)
    else
      some (0, s0)
set_option maxRecDepth 100000 in
set_option maxHeartbeats 4000000 in
theorem wX1_argumentAt {X : Nat × (Nat → Int32)} {d : Nat} (hd : 0 ≤ d) {a0 : Nat} {x1 : Int32} {s0 : gH} : gGo X rvI mX1_argumentAt d 0 [(0, vr a0), (1, vi x1)] [] s0 (fX1_argumentAt a0 x1 s0) := by
  unfold fX1_argumentAt
  refine go_iload_n 1 dX1_argumentAt_0 rfl rfl ?_
  refine go_if_lt (tgt := 13) dX1_argumentAt_1 (by decide) (fun h1 => ?_) (fun h1 => ?_)
  · refine go_iconst (v := 0) dX1_argumentAt_13 (by decide) ?_
    refine go_goto (tgt := 27) dX1_argumentAt_14 (by decide) ?_
    exact go_ret rfl dX1_argumentAt_27
  · refine go_iload_n 1 dX1_argumentAt_4 rfl rfl ?_
    refine go_aload_n 0 dX1_argumentAt_5 rfl rfl ?_
    refine go_getR gf_RX1_21 gcf_1 gft_1_5 dX1_argumentAt_6 (fun v2 => ?_)
    refine go_alen dX1_argumentAt_9 (fun v3 _ => ?_)
    refine go_icmp_lt (tgt := 17) dX1_argumentAt_10 (by decide) (fun h4 => ?_) (fun h4 => ?_)
    · refine go_aload_n 0 dX1_argumentAt_17 rfl rfl ?_
      refine go_getR gf_RX1_21 gcf_1 gft_1_5 dX1_argumentAt_18 (fun v5 => ?_)
      refine go_iload_n 1 dX1_argumentAt_21 rfl rfl ?_
      refine go_iaload dX1_argumentAt_22 (fun v6 _ => ?_)
      refine go_sipush (v := 16383) dX1_argumentAt_23 (by decide) ?_
      refine go_iand dX1_argumentAt_26 ?_
      exact go_ret rfl dX1_argumentAt_27
    · refine go_iconst (v := 0) dX1_argumentAt_13 (by decide) ?_
      refine go_goto (tgt := 27) dX1_argumentAt_14 (by decide) ?_
      exact go_ret rfl dX1_argumentAt_27
set_option maxRecDepth 100000 in
set_option maxHeartbeats 4000000 in
theorem cX1_argumentAt_c {d : Nat} (hd : 0 ≤ d) {a0 : Nat} {x1 : Int32} {s0 : gH} {r : Int32} {s1 : gH} (h : fX1_argumentAt a0 x1 s0 = some (r, s1)) : gMt mX1_argumentAt d [vr a0, vi x1] s0 (some (vi r)) s1 :=
  gMt_of (rv := rvI) (by decide +kernel) (Nat.le_of_ble_eq_true rfl) ⟨_, rfl, rfl⟩ (fun _ => wX1_argumentAt hd) h
def fX2_copy (a0 : Nat) (a1 : Nat) (s0 : gH) : Option (Unit × gH) :=
  (ggR s0 a1 2 0).bind fun v1 =>
  (ggR s0 a0 2 0).bind fun v2 =>
  (cpJ s0 v1 0 v2 0 229).bind fun s3 =>
  some ((), s3)
set_option maxRecDepth 100000 in
set_option maxHeartbeats 4000000 in
theorem wX2_copy {X : Nat × (Nat → Int32)} {d : Nat} (hd : 0 ≤ d) {a0 : Nat} {a1 : Nat} {s0 : gH} : gGo X rvU mX2_copy d 0 [(0, vr a0), (1, vr a1)] [] s0 (fX2_copy a0 a1 s0) := by
  unfold fX2_copy
  refine go_aload_n 1 dX2_copy_0 rfl rfl ?_
  refine go_getR gf_RX2_11 gcf_2 gft_2_0 dX2_copy_1 (fun v1 => ?_)
  refine go_iconst (v := 0) dX2_copy_4 (by decide) ?_
  refine go_aload_n 0 dX2_copy_5 rfl rfl ?_
  refine go_getR gf_RX2_11 gcf_2 gft_2_0 dX2_copy_6 (fun v2 => ?_)
  refine go_iconst (v := 0) dX2_copy_9 (by decide) ?_
  refine go_sipush (v := 229) dX2_copy_10 (by decide) ?_
  refine go_acopy gcp_RX2_21 gcp_n gcp_s gcp_i (Nat.le_of_ble_eq_true rfl) dX2_copy_13 (fun s3 _ => ?_)
  exact go_retv rfl dX2_copy_16
set_option maxRecDepth 100000 in
set_option maxHeartbeats 4000000 in
theorem cX2_copy_c {d : Nat} (hd : 0 ≤ d) {a0 : Nat} {a1 : Nat} {s0 : gH} {r : Unit} {s1 : gH} (h : fX2_copy a0 a1 s0 = some (r, s1)) : gMt mX2_copy d [vr a0, vr a1] s0 none s1 :=
  gMt_of (rv := rvU) (by decide +kernel) (Nat.le_of_ble_eq_true rfl) rfl (fun _ => wX2_copy hd) h
def fX5_lay (a0 : Nat) (a1 : Nat) (s0 : gH) : Option (Unit × gH) :=
  (ggI s0 a0 5 6).bind fun v1 =>
  (ggR s0 a0 5 2).bind fun v2 =>
  (glen s0 v2).bind fun v3 =>
  if v1 < v3 then
    if a1 = 0 then
      (ggR s0 a0 5 2).bind fun v6 =>
      (ggI s0 a0 5 6).bind fun v7 =>
      (gaR s0 v6 5 v7).bind fun v8 =>
      gb2 (gcv s0 v8 2 (fX2_clear v8 s0)) fun r9 s10 =>
      (ggI s10 a0 5 6).bind fun v11 =>
      (spI s10 a0 5 6 (v11 + 1)).bind fun s12 =>
      some ((), s12)
    else
      (ggR s0 a0 5 2).bind fun v13 =>
      (ggI s0 a0 5 6).bind fun v14 =>
      (gaR s0 v13 5 v14).bind fun v15 =>
      gb2 (gcv s0 v15 2 (fX2_copy v15 a1 s0)) fun r16 s17 =>
      (ggI s17 a0 5 6).bind fun v18 =>
      (spI s17 a0 5 6 (v18 + 1)).bind fun s19 =>
      some ((), s19)
  else
    some ((), s0)
set_option maxRecDepth 100000 in
set_option maxHeartbeats 4000000 in
theorem wX5_lay {X : Nat × (Nat → Int32)} {d : Nat} (hd : 2 ≤ d) {a0 : Nat} {a1 : Nat} {s0 : gH} : gGo X rvU mX5_lay d 0 [(0, vr a0), (1, vr a1)] [] s0 (fX5_lay a0 a1 s0) := by
  unfold fX5_lay
  refine go_aload_n 0 dX5_lay_0 rfl rfl ?_
  refine go_getI gf_RX5_117 gcf_5 gft_5_6 dX5_lay_1 (fun v1 => ?_)
  refine go_aload_n 0 dX5_lay_4 rfl rfl ?_
  refine go_getR gf_RX5_17 gcf_5 gft_5_2 dX5_lay_5 (fun v2 => ?_)
  refine go_alen dX5_lay_8 (fun v3 _ => ?_)
  refine go_icmp_lt (tgt := 13) dX5_lay_9 (by decide) (fun h4 => ?_) (fun h4 => ?_)
  · refine go_aload_n 1 dX5_lay_13 rfl rfl ?_
    refine go_ifnonnull (tgt := 32) dX5_lay_14 (by decide) (fun h5 => ?_) (fun h5 => ?_)
    · refine go_aload_n 0 dX5_lay_17 rfl rfl ?_
      refine go_getR gf_RX5_17 gcf_5 gft_5_2 dX5_lay_18 (fun v6 => ?_)
      refine go_aload_n 0 dX5_lay_21 rfl rfl ?_
      refine go_getI gf_RX5_117 gcf_5 gft_5_6 dX5_lay_22 (fun v7 => ?_)
      refine go_aaload (t := 5) (by decide) (by decide) dX5_lay_25 (fun v8 _ => ?_)
      refine go_callV_v (as := []) gk_RX5_162 gmf_X2_clear (by decide) rfl (by omega) rfl rfl (Nat.le_of_ble_eq_true rfl) dX5_lay_26 (fun _ _ h => cX2_clear_c (by omega) h) (fun r9 s10 _ => ?_)
      refine go_goto (tgt := 45) dX5_lay_29 (by decide) ?_
      refine go_aload_n 0 dX5_lay_45 rfl rfl ?_
      refine go_dup dX5_lay_46 rfl ?_
      refine go_getI gf_RX5_117 gcf_5 gft_5_6 dX5_lay_47 (fun v11 => ?_)
      refine go_iconst (v := 1) dX5_lay_50 (by decide) ?_
      refine go_iadd dX5_lay_51 ?_
      refine go_putI gf_RX5_117 gcf_5 gpl_5_6 gft_5_6 dX5_lay_52 (fun s12 _ => ?_)
      exact go_retv rfl dX5_lay_55
    · refine go_aload_n 0 dX5_lay_32 rfl rfl ?_
      refine go_getR gf_RX5_17 gcf_5 gft_5_2 dX5_lay_33 (fun v13 => ?_)
      refine go_aload_n 0 dX5_lay_36 rfl rfl ?_
      refine go_getI gf_RX5_117 gcf_5 gft_5_6 dX5_lay_37 (fun v14 => ?_)
      refine go_aaload (t := 5) (by decide) (by decide) dX5_lay_40 (fun v15 _ => ?_)
      refine go_aload_n 1 dX5_lay_41 rfl rfl ?_
      refine go_callV_v (as := [vr a1]) gk_RX5_136 gmf_X2_copy (by decide) rfl (by omega) rfl rfl (Nat.le_of_ble_eq_true rfl) dX5_lay_42 (fun _ _ h => cX2_copy_c (by omega) h) (fun r16 s17 _ => ?_)
      refine go_aload_n 0 dX5_lay_45 rfl rfl ?_
      refine go_dup dX5_lay_46 rfl ?_
      refine go_getI gf_RX5_117 gcf_5 gft_5_6 dX5_lay_47 (fun v18 => ?_)
      refine go_iconst (v := 1) dX5_lay_50 (by decide) ?_
      refine go_iadd dX5_lay_51 ?_
      refine go_putI gf_RX5_117 gcf_5 gpl_5_6 gft_5_6 dX5_lay_52 (fun s19 _ => ?_)
      exact go_retv rfl dX5_lay_55
  · exact go_retv rfl dX5_lay_12
set_option maxRecDepth 100000 in
set_option maxHeartbeats 4000000 in
theorem cX5_lay_c {d : Nat} (hd : 2 ≤ d) {a0 : Nat} {a1 : Nat} {s0 : gH} {r : Unit} {s1 : gH} (h : fX5_lay a0 a1 s0 = some (r, s1)) : gMt mX5_lay d [vr a0, vr a1] s0 none s1 :=
  gMt_of (rv := rvU) (by decide +kernel) (Nat.le_of_ble_eq_true rfl) rfl (fun _ => wX5_lay hd) h
def fX2_word (a0 : Nat) (x1 : Int32) (s0 : gH) : Option (Int64 × gH) :=
  if x1 < 0 then
    some (0, s0)
  else
    if x1 < 229 then
      (ggR s0 a0 2 0).bind fun v3 =>
      (gaJ s0 v3 x1).bind fun v4 =>
      some (v4, s0)
    else
      some (0, s0)
set_option maxRecDepth 100000 in
set_option maxHeartbeats 4000000 in
theorem wX2_word {X : Nat × (Nat → Int32)} {d : Nat} (hd : 0 ≤ d) {a0 : Nat} {x1 : Int32} {s0 : gH} : gGo X rvJ mX2_word d 0 [(0, vr a0), (1, vi x1)] [] s0 (fX2_word a0 x1 s0) := by
  unfold fX2_word
  refine go_iload_n 1 dX2_word_0 rfl rfl ?_
  refine go_if_lt (tgt := 11) dX2_word_1 (by decide) (fun h1 => ?_) (fun h1 => ?_)
  · refine go_lconst (v := 0) dX2_word_11 (by decide) ?_
    refine go_goto (tgt := 21) dX2_word_12 (by decide) ?_
    exact go_ret rfl dX2_word_21
  · refine go_iload_n 1 dX2_word_4 rfl rfl ?_
    refine go_sipush (v := 229) dX2_word_5 (by decide) ?_
    refine go_icmp_lt (tgt := 15) dX2_word_8 (by decide) (fun h2 => ?_) (fun h2 => ?_)
    · refine go_aload_n 0 dX2_word_15 rfl rfl ?_
      refine go_getR gf_RX2_11 gcf_2 gft_2_0 dX2_word_16 (fun v3 => ?_)
      refine go_iload_n 1 dX2_word_19 rfl rfl ?_
      refine go_laload dX2_word_20 (fun v4 _ => ?_)
      exact go_ret rfl dX2_word_21
    · refine go_lconst (v := 0) dX2_word_11 (by decide) ?_
      refine go_goto (tgt := 21) dX2_word_12 (by decide) ?_
      exact go_ret rfl dX2_word_21
set_option maxRecDepth 100000 in
set_option maxHeartbeats 4000000 in
theorem cX2_word_c {d : Nat} (hd : 0 ≤ d) {a0 : Nat} {x1 : Int32} {s0 : gH} {r : Int64} {s1 : gH} (h : fX2_word a0 x1 s0 = some (r, s1)) : gMt mX2_word d [vr a0, vi x1] s0 (some (vl r)) s1 :=
  gMt_of (rv := rvJ) (by decide +kernel) (Nat.le_of_ble_eq_true rfl) rfl (fun _ => wX2_word hd) h
def gX2_shiftLater_L15 (k71 : gH → Option (Unit × gH)) (a0 : Nat) (x2 : Int32) (x3 : Int32) : Nat → Int32 → gH → Option (Unit × gH)
  | 0, _, _ => none
  | n + 1, x4, s0 =>
    if x4 < 0 then
      k71 s0
    else
      gjn (fun (z6 : Int64) (s7 : gH) =>
          (ggR s7 a0 2 0).bind fun v8 =>
          gb2 (gcv s7 a0 2 (fX2_word a0 (x4 - x2) s7)) fun r9 s10 =>
          (saJ s10 v8 x4 ((gLshl r9 x3) ||| z6)).bind fun s11 =>
          gX2_shiftLater_L15 k71 a0 x2 x3 n (x4 + (-1)) s11
      ) fun j5 =>
      if x3 = 0 then
        j5 0 s0
      else
        gb2 (gcv s0 a0 2 (fX2_word a0 ((x4 - x2) - 1) s0)) fun r13 s14 =>
        j5 (gLushr r13 (64 - x3)) s14
set_option maxRecDepth 100000 in
set_option maxHeartbeats 4000000 in
theorem wX2_shiftLater_L15 {X : Nat × (Nat → Int32)} {d : Nat} (hd : 1 ≤ d) (k71 : gH → Option (Unit × gH)) (a0 : Nat) (x2 : Int32) (x3 : Int32) (hk71 : ∀ (s : gH), gGo X rvU mX2_shiftLater d 71 [(0, vr a0)] [] s (k71 s)) : ∀ (n : Nat) (x4 : Int32) (s0 : gH), gGo X rvU mX2_shiftLater d 15 [(0, vr a0), (2, vi x2), (3, vi x3), (4, vi x4)] [] s0 (gX2_shiftLater_L15 k71 a0 x2 x3 n x4 s0) := by
  intro n
  induction n with
  | zero => intros; exact go_none
  | succ n ih =>
    intro x4 s0
    show gGo _ _ _ _ _ _ _ _ (gX2_shiftLater_L15 k71 a0 x2 x3 (n + 1) x4 s0)
    unfold gX2_shiftLater_L15
    refine go_iload 3 dX2_shiftLater_15 rfl ?_
    refine go_if_lt (tgt := 71) dX2_shiftLater_17 (by decide) (fun h4 => ?_) (fun h4 => ?_)
    · exact go_sub [0] (hk71 s0) rfl
    · refine go_iload_n 2 dX2_shiftLater_20 rfl rfl ?_
      refine go_gjn (P := fun j5 => ∀ (z6 : Int64) (s7 : gH), gGo X rvU mX2_shiftLater d 43 [(0, vr a0), (2, vi x2), (3, vi x3), (4, vi x4)] [vl z6] s7 (j5 z6 s7)) (fun z6 s7 => ?_) (fun j5 hj5 => ?_)
      · refine go_lstore (L' := [(5, vl z6), (0, vr a0), (2, vi x2), (3, vi x3), (4, vi x4)]) dX2_shiftLater_43 (by decide) rfl ?_
        refine go_aload_n 1 dX2_shiftLater_45 rfl rfl ?_
        refine go_getR gf_RX2_11 gcf_2 gft_2_0 dX2_shiftLater_46 (fun v8 => ?_)
        refine go_iload 4 dX2_shiftLater_49 rfl ?_
        refine go_aload_n 1 dX2_shiftLater_51 rfl rfl ?_
        refine go_iload 4 dX2_shiftLater_52 rfl ?_
        refine go_iload_n 2 dX2_shiftLater_54 rfl rfl ?_
        refine go_isub dX2_shiftLater_55 ?_
        refine go_callV_J (as := [vi (x4 - x2)]) gk_RX2_33 gmf_X2_word (by decide) rfl (by omega) rfl rfl (Nat.le_of_ble_eq_true rfl) dX2_shiftLater_56 (fun _ _ h => cX2_word_c (by omega) h) (fun r9 s10 _ => ?_)
        refine go_iload_n 3 dX2_shiftLater_59 rfl rfl ?_
        refine go_lshl dX2_shiftLater_60 ?_
        refine go_lload 0 dX2_shiftLater_61 rfl ?_
        refine go_lor dX2_shiftLater_63 ?_
        refine go_lastore dX2_shiftLater_64 (fun s11 _ => ?_)
        refine go_iinc (v := -1) (L' := [(4, vi (x4 + (-1))), (5, vl z6), (0, vr a0), (2, vi x2), (3, vi x3)]) 4 dX2_shiftLater_65 rfl (by decide) (by decide) rfl ?_
        refine go_goto (tgt := 15) dX2_shiftLater_68 (by decide) ?_
        exact go_sub [2, 3, 4, 0] (ih (x4 + (-1)) s11) rfl
      · refine go_if_ne (tgt := 28) dX2_shiftLater_21 (by decide) (fun h12 => ?_) (fun h12 => ?_)
        · refine go_lconst (v := 0) dX2_shiftLater_24 (by decide) ?_
          refine go_goto (tgt := 43) dX2_shiftLater_25 (by decide) ?_
          exact go_sub [0, 1, 2, 3] (hj5 0 s0) rfl
        · refine go_aload_n 0 dX2_shiftLater_28 rfl rfl ?_
          refine go_iload 3 dX2_shiftLater_29 rfl ?_
          refine go_iload_n 1 dX2_shiftLater_31 rfl rfl ?_
          refine go_isub dX2_shiftLater_32 ?_
          refine go_iconst (v := 1) dX2_shiftLater_33 (by decide) ?_
          refine go_isub dX2_shiftLater_34 ?_
          refine go_callV_J (as := [vi ((x4 - x2) - 1)]) gk_RX2_33 gmf_X2_word (by decide) rfl (by omega) rfl rfl (Nat.le_of_ble_eq_true rfl) dX2_shiftLater_35 (fun _ _ h => cX2_word_c (by omega) h) (fun r13 s14 _ => ?_)
          refine go_bipush (v := 64) dX2_shiftLater_38 (by decide) ?_
          refine go_iload_n 2 dX2_shiftLater_40 rfl rfl ?_
          refine go_isub dX2_shiftLater_41 ?_
          refine go_lushr dX2_shiftLater_42 ?_
          exact go_sub [0, 1, 2, 3] (hj5 (gLushr r13 (64 - x3)) s14) rfl
def fX2_shiftLater (a0 : Nat) (x1 : Int32) (s0 : gH) : Option (Unit × gH) :=
  glet (x1 >>> (6 &&& 31)) fun y1 =>
  glet (x1 &&& 63) fun y2 =>
  gX2_shiftLater_L15
    (fun s15 =>
      (ggR s15 a0 2 0).bind fun v16 =>
      (gaJ s15 v16 228).bind fun v17 =>
      (saJ s15 v16 228 (v17 &&& 262143)).bind fun s18 =>
      some ((), s18))
    a0 y1 y2 20000 228 s0
set_option maxRecDepth 100000 in
set_option maxHeartbeats 4000000 in
theorem wX2_shiftLater {X : Nat × (Nat → Int32)} {d : Nat} (hd : 1 ≤ d) {a0 : Nat} {x1 : Int32} {s0 : gH} : gGo X rvU mX2_shiftLater d 0 [(0, vr a0), (1, vi x1)] [] s0 (fX2_shiftLater a0 x1 s0) := by
  unfold fX2_shiftLater
  refine go_iload_n 1 dX2_shiftLater_0 rfl rfl ?_
  refine go_bipush (v := 6) dX2_shiftLater_1 (by decide) ?_
  refine go_ishr dX2_shiftLater_3 ?_
  refine go_istore_n_l (L' := fun y1 => [(2, vi y1), (0, vr a0), (1, vi x1)]) dX2_shiftLater_4 rfl (by decide) (fun _ => rfl) (fun y1 => ?_)
  refine go_iload_n 2 dX2_shiftLater_5 rfl rfl ?_
  refine go_bipush (v := 63) dX2_shiftLater_6 (by decide) ?_
  refine go_iand dX2_shiftLater_8 ?_
  refine go_istore_n_l (L' := fun y2 => [(3, vi y2), (2, vi y1), (0, vr a0), (1, vi x1)]) dX2_shiftLater_9 rfl (by decide) (fun _ => rfl) (fun y2 => ?_)
  refine go_sipush (v := 228) dX2_shiftLater_10 (by decide) ?_
  refine go_istore (L' := [(4, vi 228), (3, vi y2), (2, vi y1), (0, vr a0), (1, vi x1)]) dX2_shiftLater_13 (by decide) rfl ?_
  refine go_sub [3, 2, 1, 0] (wX2_shiftLater_L15 hd _ a0 y1 y2 ?_ 20000 228 s0) rfl
  intro s15
  refine go_aload_n 0 dX2_shiftLater_71 rfl rfl ?_
  refine go_getR gf_RX2_11 gcf_2 gft_2_0 dX2_shiftLater_72 (fun v16 => ?_)
  refine go_sipush (v := 228) dX2_shiftLater_75 (by decide) ?_
  refine go_dup2 dX2_shiftLater_78 rfl rfl ?_
  refine go_laload dX2_shiftLater_79 (fun v17 _ => ?_)
  refine go_ldc2 gcl_RX2_37 dX2_shiftLater_80 ?_
  refine go_land dX2_shiftLater_83 ?_
  refine go_lastore dX2_shiftLater_84 (fun s18 _ => ?_)
  exact go_retv rfl dX2_shiftLater_85
set_option maxRecDepth 100000 in
set_option maxHeartbeats 4000000 in
theorem cX2_shiftLater_c {d : Nat} (hd : 1 ≤ d) {a0 : Nat} {x1 : Int32} {s0 : gH} {r : Unit} {s1 : gH} (h : fX2_shiftLater a0 x1 s0 = some (r, s1)) : gMt mX2_shiftLater d [vr a0, vi x1] s0 none s1 :=
  gMt_of (rv := rvU) (by decide +kernel) (Nat.le_of_ble_eq_true rfl) rfl (fun _ => wX2_shiftLater hd) h
