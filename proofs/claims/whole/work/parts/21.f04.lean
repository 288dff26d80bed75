/-! walks, written by a program -/
def gX8_tellDates_L10  (a0 : Nat) (a1 : Nat) : Nat → Int32 → gH → Option (Unit × gH)
  | 0, _, _ => none
  | n + 1, x2, s0 =>
    (ggI s0 a1 7 1).bind fun v4 =>
    if x2 < v4 then
      gb2 (gcv s0 a1 7 (fX7_valueAt a1 x2 s0)) fun r6 s7 =>
      if 0 < r6 then
        (ggI s7 a0 8 9).bind fun v9 =>
        (spI s7 a0 8 9 (v9 ||| (1 <<< (r6 &&& 31)))).bind fun s10 =>
        gX8_tellDates_L10 a0 a1 n (x2 + 1) s10
      else
        (ggI s7 a0 8 10).bind fun v11 =>
        (spI s7 a0 8 10 (v11 ||| (1 <<< ((-r6) &&& 31)))).bind fun s12 =>
        gX8_tellDates_L10 a0 a1 n (x2 + 1) s12
    else
      some ((), s0)
set_option maxRecDepth 100000 in
set_option maxHeartbeats 4000000 in
theorem wX8_tellDates_L10 {X : Nat × (Nat → Int32)} {d : Nat} (hd : 1 ≤ d)  (a0 : Nat) (a1 : Nat) : ∀ (n : Nat) (x2 : Int32) (s0 : gH), gGo X rvU mX8_tellDates d 10 [(0, vr a0), (1, vr a1), (2, vi x2)] [] s0 (gX8_tellDates_L10 a0 a1 n x2 s0) := by
  intro n
  induction n with
  | zero => intros; exact go_none
  | succ n ih =>
    intro x2 s0
    show gGo _ _ _ _ _ _ _ _ (gX8_tellDates_L10 a0 a1 (n + 1) x2 s0)
    unfold gX8_tellDates_L10
    refine go_iload_n 2 dX8_tellDates_10 rfl rfl ?_
    refine go_aload_n 1 dX8_tellDates_11 rfl rfl ?_
    refine go_getI gf_RX8_76 gcf_7 gft_7_1 dX8_tellDates_12 (fun v4 => ?_)
    refine go_icmp_ge (tgt := 62) dX8_tellDates_15 (by decide) (fun h5 => ?_) (fun h5 => ?_)
    · refine go_aload_n 1 dX8_tellDates_18 rfl rfl ?_
      refine go_iload_n 2 dX8_tellDates_19 rfl rfl ?_
      refine go_callV_I (as := [vi x2]) gk_RX8_79 gmf_X7_valueAt (by decide) rfl (by omega) rfl rfl (Nat.le_of_ble_eq_true rfl) dX8_tellDates_20 (fun _ _ h => cX7_valueAt_c (by omega) h) (fun r6 s7 _ => ?_)
      refine go_istore_n (L' := [(3, vi r6), (0, vr a0), (1, vr a1), (2, vi x2)]) dX8_tellDates_23 rfl (by decide) rfl ?_
      refine go_iload_n 0 dX8_tellDates_24 rfl rfl ?_
      refine go_if_le (tgt := 43) dX8_tellDates_25 (by decide) (fun h8 => ?_) (fun h8 => ?_)
      · refine go_aload_n 1 dX8_tellDates_28 rfl rfl ?_
        refine go_dup dX8_tellDates_29 rfl ?_
        refine go_getI gf_RX8_27 gcf_8 gft_8_9 dX8_tellDates_30 (fun v9 => ?_)
        refine go_iconst (v := 1) dX8_tellDates_33 (by decide) ?_
        refine go_iload_n 0 dX8_tellDates_34 rfl rfl ?_
        refine go_ishl dX8_tellDates_35 ?_
        refine go_ior dX8_tellDates_36 ?_
        refine go_putI gf_RX8_27 gcf_8 gpl_8_9 gft_8_9 dX8_tellDates_37 (fun s10 _ => ?_)
        refine go_goto (tgt := 56) dX8_tellDates_40 (by decide) ?_
        refine go_iinc (v := 1) (L' := [(2, vi (x2 + 1)), (3, vi r6), (0, vr a0), (1, vr a1)]) 3 dX8_tellDates_56 rfl (by decide) (by decide) rfl ?_
        refine go_goto (tgt := 10) dX8_tellDates_59 (by decide) ?_
        exact go_sub [2, 3, 0] (ih (x2 + 1) s10) rfl
      · refine go_aload_n 1 dX8_tellDates_43 rfl rfl ?_
        refine go_dup dX8_tellDates_44 rfl ?_
        refine go_getI gf_RX8_30 gcf_8 gft_8_10 dX8_tellDates_45 (fun v11 => ?_)
        refine go_iconst (v := 1) dX8_tellDates_48 (by decide) ?_
        refine go_iload_n 0 dX8_tellDates_49 rfl rfl ?_
        refine go_ineg dX8_tellDates_50 ?_
        refine go_ishl dX8_tellDates_51 ?_
        refine go_ior dX8_tellDates_52 ?_
        refine go_putI gf_RX8_30 gcf_8 gpl_8_10 gft_8_10 dX8_tellDates_53 (fun s12 _ => ?_)
        refine go_iinc (v := 1) (L' := [(2, vi (x2 + 1)), (3, vi r6), (0, vr a0), (1, vr a1)]) 3 dX8_tellDates_56 rfl (by decide) (by decide) rfl ?_
        refine go_goto (tgt := 10) dX8_tellDates_59 (by decide) ?_
        exact go_sub [2, 3, 0] (ih (x2 + 1) s12) rfl
    · exact go_retv rfl dX8_tellDates_62
def fX8_tellDates (a0 : Nat) (a1 : Nat) (s0 : gH) : Option (Unit × gH) :=
  (ggI s0 a1 7 1).bind fun v1 =>
  (spI s0 a0 8 12 v1).bind fun s2 =>
  gX8_tellDates_L10
    a0 a1 20000 0 s2
set_option maxRecDepth 100000 in
set_option maxHeartbeats 4000000 in
theorem wX8_tellDates {X : Nat × (Nat → Int32)} {d : Nat} (hd : 1 ≤ d) {a0 : Nat} {a1 : Nat} {s0 : gH} : gGo X rvU mX8_tellDates d 0 [(0, vr a0), (1, vr a1)] [] s0 (fX8_tellDates a0 a1 s0) := by
  unfold fX8_tellDates
  refine go_aload_n 0 dX8_tellDates_0 rfl rfl ?_
  refine go_aload_n 1 dX8_tellDates_1 rfl rfl ?_
  refine go_getI gf_RX8_76 gcf_7 gft_7_1 dX8_tellDates_2 (fun v1 => ?_)
  refine go_putI gf_RX8_36 gcf_8 gpl_8_12 gft_8_12 dX8_tellDates_5 (fun s2 _ => ?_)
  refine go_iconst (v := 0) dX8_tellDates_8 (by decide) ?_
  refine go_istore_n (L' := [(2, vi 0), (0, vr a0), (1, vr a1)]) dX8_tellDates_9 rfl (by decide) rfl ?_
  refine go_sub [1, 2, 0] (wX8_tellDates_L10 hd a0 a1 20000 0 s2) rfl
set_option maxRecDepth 100000 in
set_option maxHeartbeats 4000000 in
theorem cX8_tellDates_c {d : Nat} (hd : 1 ≤ d) {a0 : Nat} {a1 : Nat} {s0 : gH} {r : Unit} {s1 : gH} (h : fX8_tellDates a0 a1 s0 = some (r, s1)) : gMt mX8_tellDates d [vr a0, vr a1] s0 none s1 :=
  gMt_of (rv := rvU) (by decide +kernel) (Nat.le_of_ble_eq_true rfl) rfl (fun _ => wX8_tellDates hd) h
def gX7_copy_L7  (a0 : Nat) (a1 : Nat) : Nat → Int32 → gH → Option (Unit × gH)
  | 0, _, _ => none
  | n + 1, x2, s0 =>
    (ggI s0 a1 7 1).bind fun v3 =>
    if x2 < v3 then
      gb2 (gcv s0 a1 7 (fX7_valueAt a1 x2 s0)) fun r5 s6 =>
      gb2 (gcv s6 a0 7 (fX7_append a0 r5 s6)) fun r7 s8 =>
      gX7_copy_L7 a0 a1 n (x2 + 1) s8
    else
      some ((), s0)
set_option maxRecDepth 100000 in
set_option maxHeartbeats 4000000 in
theorem wX7_copy_L7 {X : Nat × (Nat → Int32)} {d : Nat} (hd : 1 ≤ d)  (a0 : Nat) (a1 : Nat) : ∀ (n : Nat) (x2 : Int32) (s0 : gH), gGo X rvU mX7_copy d 7 [(0, vr a0), (1, vr a1), (2, vi x2)] [] s0 (gX7_copy_L7 a0 a1 n x2 s0) := by
  intro n
  induction n with
  | zero => intros; exact go_none
  | succ n ih =>
    intro x2 s0
    show gGo _ _ _ _ _ _ _ _ (gX7_copy_L7 a0 a1 (n + 1) x2 s0)
    unfold gX7_copy_L7
    refine go_iload_n 2 dX7_copy_7 rfl rfl ?_
    refine go_aload_n 1 dX7_copy_8 rfl rfl ?_
    refine go_getI gf_RX7_21 gcf_7 gft_7_1 dX7_copy_9 (fun v3 => ?_)
    refine go_icmp_ge (tgt := 30) dX7_copy_12 (by decide) (fun h4 => ?_) (fun h4 => ?_)
    · refine go_aload_n 0 dX7_copy_15 rfl rfl ?_
      refine go_aload_n 1 dX7_copy_16 rfl rfl ?_
      refine go_iload_n 2 dX7_copy_17 rfl rfl ?_
      refine go_callV_I (as := [vi x2]) gk_RX7_29 gmf_X7_valueAt (by decide) rfl (by omega) rfl rfl (Nat.le_of_ble_eq_true rfl) dX7_copy_18 (fun _ _ h => cX7_valueAt_c (by omega) h) (fun r5 s6 _ => ?_)
      refine go_callV_v (as := [vi r5]) gk_RX7_32 gmf_X7_append (by decide) rfl (by omega) rfl rfl (Nat.le_of_ble_eq_true rfl) dX7_copy_21 (fun _ _ h => cX7_append_c (by omega) h) (fun r7 s8 _ => ?_)
      refine go_iinc (v := 1) (L' := [(2, vi (x2 + 1)), (0, vr a0), (1, vr a1)]) 2 dX7_copy_24 rfl (by decide) (by decide) rfl ?_
      refine go_goto (tgt := 7) dX7_copy_27 (by decide) ?_
      exact go_sub [1, 2, 0] (ih (x2 + 1) s8) rfl
    · exact go_retv rfl dX7_copy_30
def fX7_copy (a0 : Nat) (a1 : Nat) (s0 : gH) : Option (Unit × gH) :=
  (spI s0 a0 7 1 0).bind fun s1 =>
  gX7_copy_L7
    a0 a1 20000 0 s1
set_option maxRecDepth 100000 in
set_option maxHeartbeats 4000000 in
theorem wX7_copy {X : Nat × (Nat → Int32)} {d : Nat} (hd : 1 ≤ d) {a0 : Nat} {a1 : Nat} {s0 : gH} : gGo X rvU mX7_copy d 0 [(0, vr a0), (1, vr a1)] [] s0 (fX7_copy a0 a1 s0) := by
  unfold fX7_copy
  refine go_aload_n 0 dX7_copy_0 rfl rfl ?_
  refine go_iconst (v := 0) dX7_copy_1 (by decide) ?_
  refine go_putI gf_RX7_21 gcf_7 gpl_7_1 gft_7_1 dX7_copy_2 (fun s1 _ => ?_)
  refine go_iconst (v := 0) dX7_copy_5 (by decide) ?_
  refine go_istore_n (L' := [(2, vi 0), (0, vr a0), (1, vr a1)]) dX7_copy_6 rfl (by decide) rfl ?_
  refine go_sub [1, 2, 0] (wX7_copy_L7 hd a0 a1 20000 0 s1) rfl
set_option maxRecDepth 100000 in
set_option maxHeartbeats 4000000 in
theorem cX7_copy_c {d : Nat} (hd : 1 ≤ d) {a0 : Nat} {a1 : Nat} {s0 : gH} {r : Unit} {s1 : gH} (h : fX7_copy a0 a1 s0 = some (r, s1)) : gMt mX7_copy d [vr a0, vr a1] s0 none s1 :=
  gMt_of (rv := rvU) (by decide +kernel) (Nat.le_of_ble_eq_true rfl) rfl (fun _ => wX7_copy hd) h
def gX8_tellWeekdays_L10  (a0 : Nat) (a1 : Nat) : Nat → Int32 → gH → Option (Unit × gH)
  | 0, _, _ => none
  | n + 1, x2, s0 =>
    (ggI s0 a1 7 1).bind fun v5 =>
    if x2 < v5 then
      (ggI s0 a0 8 11).bind fun v7 =>
      gb2 (gcv s0 a1 7 (fX7_valueAt a1 x2 s0)) fun r8 s9 =>
      (spI s9 a0 8 11 (v7 ||| (1 <<< ((r8 &&& 7) &&& 31)))).bind fun s10 =>
      gX8_tellWeekdays_L10 a0 a1 n (x2 + 1) s10
    else
      some ((), s0)
set_option maxRecDepth 100000 in
set_option maxHeartbeats 4000000 in
theorem wX8_tellWeekdays_L10 {X : Nat × (Nat → Int32)} {d : Nat} (hd : 2 ≤ d)  (a0 : Nat) (a1 : Nat) : ∀ (n : Nat) (x2 : Int32) (s0 : gH), gGo X rvU mX8_tellWeekdays d 10 [(0, vr a0), (1, vr a1), (2, vi x2)] [] s0 (gX8_tellWeekdays_L10 a0 a1 n x2 s0) := by
  intro n
  induction n with
  | zero => intros; exact go_none
  | succ n ih =>
    intro x2 s0
    show gGo _ _ _ _ _ _ _ _ (gX8_tellWeekdays_L10 a0 a1 (n + 1) x2 s0)
    unfold gX8_tellWeekdays_L10
    refine go_iload_n 2 dX8_tellWeekdays_10 rfl rfl ?_
    refine go_aload_n 1 dX8_tellWeekdays_11 rfl rfl ?_
    refine go_getI gf_RX8_76 gcf_7 gft_7_1 dX8_tellWeekdays_12 (fun v5 => ?_)
    refine go_icmp_ge (tgt := 43) dX8_tellWeekdays_15 (by decide) (fun h6 => ?_) (fun h6 => ?_)
    · refine go_aload_n 0 dX8_tellWeekdays_18 rfl rfl ?_
      refine go_dup dX8_tellWeekdays_19 rfl ?_
      refine go_getI gf_RX8_33 gcf_8 gft_8_11 dX8_tellWeekdays_20 (fun v7 => ?_)
      refine go_iconst (v := 1) dX8_tellWeekdays_23 (by decide) ?_
      refine go_aload_n 1 dX8_tellWeekdays_24 rfl rfl ?_
      refine go_iload_n 2 dX8_tellWeekdays_25 rfl rfl ?_
      refine go_callV_I (as := [vi x2]) gk_RX8_79 gmf_X7_valueAt (by decide) rfl (by omega) rfl rfl (Nat.le_of_ble_eq_true rfl) dX8_tellWeekdays_26 (fun _ _ h => cX7_valueAt_c (by omega) h) (fun r8 s9 _ => ?_)
      refine go_bipush (v := 7) dX8_tellWeekdays_29 (by decide) ?_
      refine go_iand dX8_tellWeekdays_31 ?_
      refine go_ishl dX8_tellWeekdays_32 ?_
      refine go_ior dX8_tellWeekdays_33 ?_
      refine go_putI gf_RX8_33 gcf_8 gpl_8_11 gft_8_11 dX8_tellWeekdays_34 (fun s10 _ => ?_)
      refine go_iinc (v := 1) (L' := [(2, vi (x2 + 1)), (0, vr a0), (1, vr a1)]) 2 dX8_tellWeekdays_37 rfl (by decide) (by decide) rfl ?_
      refine go_goto (tgt := 10) dX8_tellWeekdays_40 (by decide) ?_
      exact go_sub [1, 2, 0] (ih (x2 + 1) s10) rfl
    · exact go_retv rfl dX8_tellWeekdays_43
def fX8_tellWeekdays (a0 : Nat) (a1 : Nat) (s0 : gH) : Option (Unit × gH) :=
  (ggR s0 a0 8 13).bind fun v1 =>
  gb2 (gcv s0 v1 7 (fX7_copy v1 a1 s0)) fun r2 s3 =>
  gX8_tellWeekdays_L10
    a0 a1 20000 0 s3
set_option maxRecDepth 100000 in
set_option maxHeartbeats 4000000 in
theorem wX8_tellWeekdays {X : Nat × (Nat → Int32)} {d : Nat} (hd : 2 ≤ d) {a0 : Nat} {a1 : Nat} {s0 : gH} : gGo X rvU mX8_tellWeekdays d 0 [(0, vr a0), (1, vr a1)] [] s0 (fX8_tellWeekdays a0 a1 s0) := by
  unfold fX8_tellWeekdays
  refine go_aload_n 0 dX8_tellWeekdays_0 rfl rfl ?_
  refine go_getR gf_RX8_14 gcf_8 gft_8_13 dX8_tellWeekdays_1 (fun v1 => ?_)
  refine go_aload_n 1 dX8_tellWeekdays_4 rfl rfl ?_
  refine go_callV_v (as := [vr a1]) gk_RX8_82 gmf_X7_copy (by decide) rfl (by omega) rfl rfl (Nat.le_of_ble_eq_true rfl) dX8_tellWeekdays_5 (fun _ _ h => cX7_copy_c (by omega) h) (fun r2 s3 _ => ?_)
  refine go_iconst (v := 0) dX8_tellWeekdays_8 (by decide) ?_
  refine go_istore_n (L' := [(2, vi 0), (0, vr a0), (1, vr a1)]) dX8_tellWeekdays_9 rfl (by decide) rfl ?_
  refine go_sub [1, 2, 0] (wX8_tellWeekdays_L10 hd a0 a1 20000 0 s3) rfl
set_option maxRecDepth 100000 in
set_option maxHeartbeats 4000000 in
theorem cX8_tellWeekdays_c {d : Nat} (hd : 2 ≤ d) {a0 : Nat} {a1 : Nat} {s0 : gH} {r : Unit} {s1 : gH} (h : fX8_tellWeekdays a0 a1 s0 = some (r, s1)) : gMt mX8_tellWeekdays d [vr a0, vr a1] s0 none s1 :=
  gMt_of (rv := rvU) (by decide +kernel) (Nat.le_of_ble_eq_true rfl) rfl (fun _ => wX8_tellWeekdays hd) h
def fX6_partText (a0 : Nat) (x1 : Int32) (a2 : Nat) (s0 : gH) : Option (Unit × gH) :=
  if x1 = 4 then
    gb2 (gcv s0 a0 6 (fX6_dateText a0 s0)) fun r2 s3 =>
    (spI s3 a2 8 6 r2).bind fun s4 =>
    some ((), s4)
  else
    if x1 = 5 then
      gb2 (gcv s0 a0 6 (fX6_number a0 1 999 s0)) fun r6 s7 =>
      (spI s7 a2 8 7 r6).bind fun s8 =>
      some ((), s8)
    else
      (ggI s0 a2 8 1).bind fun v9 =>
      gb2 (gcv s0 a0 6 (fX6_rowText a0 x1 v9 s0)) fun r10 s11 =>
      if x1 = 0 then
        (ggR s11 a0 6 8).bind fun v13 =>
        gb2 (gcv s11 a2 8 (fX8_tellMonths a2 v13 s11)) fun r14 s15 =>
        some ((), s15)
      else
        if x1 = 1 then
          (ggR s11 a0 6 8).bind fun v17 =>
          gb2 (gcv s11 a2 8 (fX8_tellDates a2 v17 s11)) fun r18 s19 =>
          some ((), s19)
        else
          if x1 = 2 then
            (ggR s11 a0 6 8).bind fun v21 =>
            gb2 (gcv s11 a2 8 (fX8_tellWeekdays a2 v21 s11)) fun r22 s23 =>
            some ((), s23)
          else
            (ggR s11 a2 8 14).bind fun v24 =>
            (ggR s11 a0 6 8).bind fun v25 =>
            gb2 (gcv s11 v24 7 (fX7_copy v24 v25 s11)) fun r26 s27 =>
            some ((), s27)
set_option maxRecDepth 100000 in
set_option maxHeartbeats 4000000 in
theorem wX6_partText {X : Nat × (Nat → Int32)} {d : Nat} (hd : 7 ≤ d) {a0 : Nat} {x1 : Int32} {a2 : Nat} {s0 : gH} : gGo X rvU mX6_partText d 0 [(0, vr a0), (1, vi x1), (2, vr a2)] [] s0 (fX6_partText a0 x1 a2 s0) := by
  unfold fX6_partText
  refine go_iload_n 1 dX6_partText_0 rfl rfl ?_
  refine go_ite (fun h1 => ?_) (fun h1 => ?_)
  · refine go_lookup (off := 27) (tgt := 28) dX6_partText_1 (by decide) (by rw [h1]; decide) (by decide) ?_
    refine go_aload_n 2 dX6_partText_28 rfl rfl ?_
    refine go_aload_n 0 dX6_partText_29 rfl rfl ?_
    refine go_callV_I (as := []) gk_RX6_130 gmf_X6_dateText (by decide) rfl (by omega) rfl rfl (Nat.le_of_ble_eq_true rfl) dX6_partText_30 (fun _ _ h => cX6_dateText_c (by omega) h) (fun r2 s3 _ => ?_)
    refine go_putI gf_RX6_145 gcf_8 gpl_8_6 gft_8_6 dX6_partText_33 (fun s4 _ => ?_)
    exact go_retv rfl dX6_partText_36
  · refine go_ite (fun h5 => ?_) (fun h5 => ?_)
    · refine go_lookup (off := 36) (tgt := 37) dX6_partText_1 (by decide) (by rw [h5]; decide) (by decide) ?_
      refine go_aload_n 2 dX6_partText_37 rfl rfl ?_
      refine go_aload_n 0 dX6_partText_38 rfl rfl ?_
      refine go_iconst (v := 1) dX6_partText_39 (by decide) ?_
      refine go_sipush (v := 999) dX6_partText_40 (by decide) ?_
      refine go_callV_I (as := [vi 1, vi 999]) gk_RX6_113 gmf_X6_number (by decide) rfl (by omega) rfl rfl (Nat.le_of_ble_eq_true rfl) dX6_partText_43 (fun _ _ h => cX6_number_c (by omega) h) (fun r6 s7 _ => ?_)
      refine go_putI gf_RX6_148 gcf_8 gpl_8_7 gft_8_7 dX6_partText_46 (fun s8 _ => ?_)
      exact go_retv rfl dX6_partText_49
    · refine go_lookup (off := 49) (tgt := 50) dX6_partText_1 (by decide) (by have gh1 := gts h1 (n := 4) (by decide); have gh5 := gts h5 (n := 5) (by decide); simp [Op.lookupswitch.offset, Ne.symm gh1, Ne.symm gh5]) (by decide) ?_
      refine go_aload_n 0 dX6_partText_50 rfl rfl ?_
      refine go_iload_n 1 dX6_partText_51 rfl rfl ?_
      refine go_aload_n 2 dX6_partText_52 rfl rfl ?_
      refine go_getI gf_RX6_125 gcf_8 gft_8_1 dX6_partText_53 (fun v9 => ?_)
      refine go_callV_v (as := [vi x1, vi v9]) gk_RX6_151 gmf_X6_rowText (by decide) rfl (by omega) rfl rfl (Nat.le_of_ble_eq_true rfl) dX6_partText_56 (fun _ _ h => cX6_rowText_c (by omega) h) (fun r10 s11 _ => ?_)
      refine go_iload_n 1 dX6_partText_59 rfl rfl ?_
      refine go_ite (fun h12 => ?_) (fun h12 => ?_)
      · refine go_tsIn (v := 0) (off := 28) (tgt := 88) dX6_partText_60 h12 (by decide) (by decide) (by decide) (by decide) ?_
        refine go_aload_n 2 dX6_partText_88 rfl rfl ?_
        refine go_aload_n 0 dX6_partText_89 rfl rfl ?_
        refine go_getR gf_RX6_24 gcf_6 gft_6_8 dX6_partText_90 (fun v13 => ?_)
        refine go_callV_v (as := [vr v13]) gk_RX6_154 gmf_X8_tellMonths (by decide) rfl (by omega) rfl rfl (Nat.le_of_ble_eq_true rfl) dX6_partText_93 (fun _ _ h => cX8_tellMonths_c (by omega) h) (fun r14 s15 _ => ?_)
        exact go_retv rfl dX6_partText_96
      · refine go_ite (fun h16 => ?_) (fun h16 => ?_)
        · refine go_tsIn (v := 1) (off := 37) (tgt := 97) dX6_partText_60 h16 (by decide) (by decide) (by decide) (by decide) ?_
          refine go_aload_n 2 dX6_partText_97 rfl rfl ?_
          refine go_aload_n 0 dX6_partText_98 rfl rfl ?_
          refine go_getR gf_RX6_24 gcf_6 gft_6_8 dX6_partText_99 (fun v17 => ?_)
          refine go_callV_v (as := [vr v17]) gk_RX6_158 gmf_X8_tellDates (by decide) rfl (by omega) rfl rfl (Nat.le_of_ble_eq_true rfl) dX6_partText_102 (fun _ _ h => cX8_tellDates_c (by omega) h) (fun r18 s19 _ => ?_)
          exact go_retv rfl dX6_partText_105
        · refine go_ite (fun h20 => ?_) (fun h20 => ?_)
          · refine go_tsIn (v := 2) (off := 46) (tgt := 106) dX6_partText_60 h20 (by decide) (by decide) (by decide) (by decide) ?_
            refine go_aload_n 2 dX6_partText_106 rfl rfl ?_
            refine go_aload_n 0 dX6_partText_107 rfl rfl ?_
            refine go_getR gf_RX6_24 gcf_6 gft_6_8 dX6_partText_108 (fun v21 => ?_)
            refine go_callV_v (as := [vr v21]) gk_RX6_161 gmf_X8_tellWeekdays (by decide) rfl (by omega) rfl rfl (Nat.le_of_ble_eq_true rfl) dX6_partText_111 (fun _ _ h => cX8_tellWeekdays_c (by omega) h) (fun r22 s23 _ => ?_)
            exact go_retv rfl dX6_partText_114
          · refine go_tsOut (tgt := 115) dX6_partText_60 (by have gh12 := gts h12 (n := 0) (by decide); have gh16 := gts h16 (n := 1) (by decide); have gh20 := gts h20 (n := 2) (by decide); omega) (by decide) ?_
            refine go_aload_n 2 dX6_partText_115 rfl rfl ?_
            refine go_getR gf_RX6_164 gcf_8 gft_8_14 dX6_partText_116 (fun v24 => ?_)
            refine go_aload_n 0 dX6_partText_119 rfl rfl ?_
            refine go_getR gf_RX6_24 gcf_6 gft_6_8 dX6_partText_120 (fun v25 => ?_)
            refine go_callV_v (as := [vr v25]) gk_RX6_167 gmf_X7_copy (by decide) rfl (by omega) rfl rfl (Nat.le_of_ble_eq_true rfl) dX6_partText_123 (fun _ _ h => cX7_copy_c (by omega) h) (fun r26 s27 _ => ?_)
            exact go_retv rfl dX6_partText_126
set_option maxRecDepth 100000 in
set_option maxHeartbeats 4000000 in
theorem cX6_partText_c {d : Nat} (hd : 7 ≤ d) {a0 : Nat} {x1 : Int32} {a2 : Nat} {s0 : gH} {r : Unit} {s1 : gH} (h : fX6_partText a0 x1 a2 s0 = some (r, s1)) : gMt mX6_partText d [vr a0, vi x1, vr a2] s0 none s1 :=
  gMt_of (rv := rvU) (by decide +kernel) (Nat.le_of_ble_eq_true rfl) rfl (fun _ => wX6_partText hd) h
def fX1_closeRule (a0 : Nat) (x1 : Int32) (s0 : gH) : Option (Unit × gH) :=
  (ggI s0 a0 1 0).bind fun v1 =>
  if v1 < 6 then
    (ggR s0 a0 1 4).bind fun v3 =>
    (ggI s0 a0 1 0).bind fun v4 =>
    (saI s0 v3 2 v4 x1).bind fun s5 =>
    (ggI s5 a0 1 0).bind fun v6 =>
    (spI s5 a0 1 0 (v6 + 1)).bind fun s7 =>
    some ((), s7)
  else
    some ((), s0)
set_option maxRecDepth 100000 in
set_option maxHeartbeats 4000000 in
theorem wX1_closeRule {X : Nat × (Nat → Int32)} {d : Nat} (hd : 0 ≤ d) {a0 : Nat} {x1 : Int32} {s0 : gH} : gGo X rvU mX1_closeRule d 0 [(0, vr a0), (1, vi x1)] [] s0 (fX1_closeRule a0 x1 s0) := by
  unfold fX1_closeRule
  refine go_aload_n 0 dX1_closeRule_0 rfl rfl ?_
  refine go_getI gf_RX1_28 gcf_1 gft_1_0 dX1_closeRule_1 (fun v1 => ?_)
  refine go_bipush (v := 6) dX1_closeRule_4 (by decide) ?_
  refine go_icmp_ge (tgt := 29) dX1_closeRule_6 (by decide) (fun h2 => ?_) (fun h2 => ?_)
  · refine go_aload_n 0 dX1_closeRule_9 rfl rfl ?_
    refine go_getR gf_RX1_17 gcf_1 gft_1_4 dX1_closeRule_10 (fun v3 => ?_)
    refine go_aload_n 0 dX1_closeRule_13 rfl rfl ?_
    refine go_getI gf_RX1_28 gcf_1 gft_1_0 dX1_closeRule_14 (fun v4 => ?_)
    refine go_iload_n 1 dX1_closeRule_17 rfl rfl ?_
    refine go_iastore dX1_closeRule_18 (fun s5 _ => ?_)
    refine go_aload_n 0 dX1_closeRule_19 rfl rfl ?_
    refine go_dup dX1_closeRule_20 rfl ?_
    refine go_getI gf_RX1_28 gcf_1 gft_1_0 dX1_closeRule_21 (fun v6 => ?_)
    refine go_iconst (v := 1) dX1_closeRule_24 (by decide) ?_
    refine go_iadd dX1_closeRule_25 ?_
    refine go_putI gf_RX1_28 gcf_1 gpl_1_0 gft_1_0 dX1_closeRule_26 (fun s7 _ => ?_)
    exact go_retv rfl dX1_closeRule_29
  · exact go_retv rfl dX1_closeRule_29
set_option maxRecDepth 100000 in
set_option maxHeartbeats 4000000 in
theorem cX1_closeRule_c {d : Nat} (hd : 0 ≤ d) {a0 : Nat} {x1 : Int32} {s0 : gH} {r : Unit} {s1 : gH} (h : fX1_closeRule a0 x1 s0 = some (r, s1)) : gMt mX1_closeRule d [vr a0, vi x1] s0 none s1 :=
  gMt_of (rv := rvU) (by decide +kernel) (Nat.le_of_ble_eq_true rfl) rfl (fun _ => wX1_closeRule hd) h
def gX6_ruleText_L122 (k186 : gH → Option (Unit × gH)) (a0 : Nat) (x1 : Int32) (a2 : Nat) : Nat → Int32 → Int32 → Int32 → gH → Option (Unit × gH)
  | 0, _, _, _, _ => none
  | n + 1, x3, x4, x5, s0 =>
    if x5 < 1600 then
      if x4 = -1 then
        k186 s0
      else
        gjn (fun (s44 : gH) =>
            glet (x3 ||| (1 <<< (x4 &&& 31))) fun y45 =>
            gb2 (gcv s44 a0 6 (fX6_advance a0 s44)) fun r46 s47 =>
            gb2 (gcv s47 a0 6 (fX6_partText a0 x4 a2 s47)) fun r48 s49 =>
            gb2 (gcv s49 a0 6 (fX6_wordAmong a0 2 s49)) fun r50 s51 =>
            gX6_ruleText_L122 k186 a0 x1 a2 n y45 r50 (x5 + 1) s51
        ) fun j43 =>
        if (x3 >>> (x4 &&& 31)) &&& 1 = 0 then
          j43 s0
        else
          (ggI s0 a0 6 5).bind fun v53 =>
          gb2 (gcv s0 a0 6 (fX6_refuse a0 4 v53 s0)) fun r54 s55 =>
          j43 s55
    else
      k186 s0
set_option maxRecDepth 100000 in
set_option maxHeartbeats 4000000 in
theorem wX6_ruleText_L122 {X : Nat × (Nat → Int32)} {d : Nat} (hd : 8 ≤ d) (k186 : gH → Option (Unit × gH)) (a0 : Nat) (x1 : Int32) (a2 : Nat) (hk186 : ∀ (s : gH), gGo X rvU mX6_ruleText d 186 [(0, vr a0), (1, vi x1)] [] s (k186 s)) : ∀ (n : Nat) (x3 : Int32) (x4 : Int32) (x5 : Int32) (s0 : gH), gGo X rvU mX6_ruleText d 122 [(0, vr a0), (1, vi x1), (2, vr a2), (3, vi x3), (4, vi x4), (5, vi x5)] [] s0 (gX6_ruleText_L122 k186 a0 x1 a2 n x3 x4 x5 s0) := by
  intro n
  induction n with
  | zero => intros; exact go_none
  | succ n ih =>
    intro x3 x4 x5 s0
    show gGo _ _ _ _ _ _ _ _ (gX6_ruleText_L122 k186 a0 x1 a2 (n + 1) x3 x4 x5 s0)
    unfold gX6_ruleText_L122
    refine go_iload 5 dX6_ruleText_122 rfl ?_
    refine go_sipush (v := 1600) dX6_ruleText_124 (by decide) ?_
    refine go_icmp_ge (tgt := 186) dX6_ruleText_127 (by decide) (fun h41 => ?_) (fun h41 => ?_)
    · refine go_iload 4 dX6_ruleText_130 rfl ?_
      refine go_iconst (v := -1) dX6_ruleText_132 (by decide) ?_
      refine go_icmp_eq (tgt := 186) dX6_ruleText_133 (by decide) (fun h42 => ?_) (fun h42 => ?_)
      · exact go_sub [0, 1] (hk186 s0) rfl
      · refine go_iload_n 3 dX6_ruleText_136 rfl rfl ?_
        refine go_iload 4 dX6_ruleText_137 rfl ?_
        refine go_ishr dX6_ruleText_139 ?_
        refine go_iconst (v := 1) dX6_ruleText_140 (by decide) ?_
        refine go_iand dX6_ruleText_141 ?_
        refine go_gjn (P := fun j43 => ∀ (s44 : gH), gGo X rvU mX6_ruleText d 154 [(0, vr a0), (1, vi x1), (2, vr a2), (3, vi x3), (4, vi x4), (5, vi x5)] [] s44 (j43 s44)) (fun s44 => ?_) (fun j43 hj43 => ?_)
        · refine go_iload_n 3 dX6_ruleText_154 rfl rfl ?_
          refine go_iconst (v := 1) dX6_ruleText_155 (by decide) ?_
          refine go_iload 4 dX6_ruleText_156 rfl ?_
          refine go_ishl dX6_ruleText_158 ?_
          refine go_ior dX6_ruleText_159 ?_
          refine go_istore_n_l (L' := fun y45 => [(3, vi y45), (0, vr a0), (1, vi x1), (2, vr a2), (4, vi x4), (5, vi x5)]) dX6_ruleText_160 rfl (by decide) (fun _ => rfl) (fun y45 => ?_)
          refine go_aload_n 1 dX6_ruleText_161 rfl rfl ?_
          refine go_callV_v (as := []) gk_RX6_63 gmf_X6_advance (by decide) rfl (by omega) rfl rfl (Nat.le_of_ble_eq_true rfl) dX6_ruleText_162 (fun _ _ h => cX6_advance_c (by omega) h) (fun r46 s47 _ => ?_)
          refine go_aload_n 1 dX6_ruleText_165 rfl rfl ?_
          refine go_iload 4 dX6_ruleText_166 rfl ?_
          refine go_aload_n 3 dX6_ruleText_168 rfl rfl ?_
          refine go_callV_v (as := [vi x4, vr a2]) gk_RX6_138 gmf_X6_partText (by decide) rfl (by omega) rfl rfl (Nat.le_of_ble_eq_true rfl) dX6_ruleText_169 (fun _ _ h => cX6_partText_c (by omega) h) (fun r48 s49 _ => ?_)
          refine go_aload_n 1 dX6_ruleText_172 rfl rfl ?_
          refine go_ldcS (i := 2) (by decide) rfl rfl dX6_ruleText_173 ?_
          refine go_callV_I (as := [vr (10 + 2 * 2)]) gk_RX6_121 gmf_X6_wordAmong (by decide) rfl (by omega) rfl rfl (Nat.le_of_ble_eq_true rfl) dX6_ruleText_175 (fun _ _ h => cX6_wordAmong_c (by omega) h) (fun r50 s51 _ => ?_)
          refine go_istore (L' := [(4, vi r50), (3, vi y45), (0, vr a0), (1, vi x1), (2, vr a2), (5, vi x5)]) dX6_ruleText_178 (by decide) rfl ?_
          refine go_iinc (v := 1) (L' := [(5, vi (x5 + 1)), (4, vi r50), (3, vi y45), (0, vr a0), (1, vi x1), (2, vr a2)]) 5 dX6_ruleText_180 rfl (by decide) (by decide) rfl ?_
          refine go_goto (tgt := 122) dX6_ruleText_183 (by decide) ?_
          exact go_sub [3, 4, 5, 2, 1, 0] (ih y45 r50 (x5 + 1) s51) rfl
        · refine go_if_eq (tgt := 154) dX6_ruleText_142 (by decide) (fun h52 => ?_) (fun h52 => ?_)
          · exact go_sub [0, 1, 2, 3, 4, 5] (hj43 s0) rfl
          · refine go_aload_n 0 dX6_ruleText_145 rfl rfl ?_
            refine go_iconst (v := 4) dX6_ruleText_146 (by decide) ?_
            refine go_aload_n 0 dX6_ruleText_147 rfl rfl ?_
            refine go_getI gf_RX6_80 gcf_6 gft_6_5 dX6_ruleText_148 (fun v53 => ?_)
            refine go_callV_v (as := [vi 4, vi v53]) gk_RX6_83 gmf_X6_refuse (by decide) rfl (by omega) rfl rfl (Nat.le_of_ble_eq_true rfl) dX6_ruleText_151 (fun _ _ h => cX6_refuse_c (by omega) h) (fun r54 s55 _ => ?_)
            exact go_sub [0, 1, 2, 3, 4, 5] (hj43 s55) rfl
    · exact go_sub [0, 1] (hk186 s0) rfl
def fX6_ruleText (a0 : Nat) (s0 : gH) : Option (Unit × gH) :=
  (ggR s0 a0 6 7).bind fun v1 =>
  (ggI s0 v1 1 0).bind fun v2 =>
  if v2 < 6 then
    gb2 (gcv s0 a0 6 (fX6_advance a0 s0)) fun r4 s5 =>
    gb2 (gcv s5 a0 6 (fX6_newName a0 s5)) fun r6 s7 =>
    (ggR s7 a0 6 7).bind fun v8 =>
    gb2 (gcv s7 v8 1 (fX1_openRule v8 s7)) fun r9 s10 =>
    gb2 (gcv s10 r9 8 (fX8_clearParts r9 s10)) fun r11 s12 =>
    gb2 (gcv s12 a0 6 (fX6_isWord a0 5 s12)) fun r13 s14 =>
    gb2 (gcv s14 a0 6 (fX6_pass a0 r13 s14)) fun r15 s16 =>
    gb2 (gcv s16 a0 6 (fX6_number a0 1 99 s16)) fun r17 s18 =>
    (spI s18 r9 8 0 r17).bind fun s19 =>
    gb2 (gcv s19 a0 6 (fX6_wordAmong a0 3 s19)) fun r20 s21 =>
    (spI s21 r9 8 1 r20).bind fun s22 =>
    (ggI s22 r9 8 1).bind fun v23 =>
    gjn (fun (z25 : Int32) (b26 : Nat) (s27 : gH) =>
        gb2 (gcv s27 b26 6 (fX6_pass b26 z25 s27)) fun r28 s29 =>
        gb2 (gcv s29 a0 6 (fX6_isWord a0 6 s29)) fun r30 s31 =>
        gb2 (gcv s31 a0 6 (fX6_pass a0 r30 s31)) fun r32 s33 =>
        gb2 (gcv s33 a0 6 (fX6_dateText a0 s33)) fun r34 s35 =>
        gb2 (gcv s35 r9 8 (fX8_beginAt r9 r34 s35)) fun r36 s37 =>
        gb2 (gcv s37 a0 6 (fX6_wordAmong a0 2 s37)) fun r38 s39 =>
        gX6_ruleText_L122
          (fun s56 =>
            (ggR s56 a0 6 7).bind fun v57 =>
            gb2 (gcv s56 v57 1 (fX1_closeRule v57 r6 s56)) fun r58 s59 =>
            some ((), s59))
          a0 r6 r9 20000 0 r38 0 s39
    ) fun j24 =>
    if v23 = -1 then
      j24 0 a0 s22
    else
      j24 1 a0 s22
  else
    (ggI s0 a0 6 5).bind fun v61 =>
    gb2 (gcv s0 a0 6 (fX6_refuse a0 5 v61 s0)) fun r62 s63 =>
    some ((), s63)
set_option maxRecDepth 100000 in
set_option maxHeartbeats 4000000 in
theorem wX6_ruleText {X : Nat × (Nat → Int32)} {d : Nat} (hd : 8 ≤ d) {a0 : Nat} {s0 : gH} : gGo X rvU mX6_ruleText d 0 [(0, vr a0)] [] s0 (fX6_ruleText a0 s0) := by
  unfold fX6_ruleText
  refine go_aload_n 0 dX6_ruleText_0 rfl rfl ?_
  refine go_getR gf_RX6_45 gcf_6 gft_6_7 dX6_ruleText_1 (fun v1 => ?_)
  refine go_getI gf_RX6_95 gcf_1 gft_1_0 dX6_ruleText_4 (fun v2 => ?_)
  refine go_bipush (v := 6) dX6_ruleText_7 (by decide) ?_
  refine go_icmp_lt (tgt := 22) dX6_ruleText_9 (by decide) (fun h3 => ?_) (fun h3 => ?_)
  · refine go_aload_n 0 dX6_ruleText_22 rfl rfl ?_
    refine go_callV_v (as := []) gk_RX6_63 gmf_X6_advance (by decide) rfl (by omega) rfl rfl (Nat.le_of_ble_eq_true rfl) dX6_ruleText_23 (fun _ _ h => cX6_advance_c (by omega) h) (fun r4 s5 _ => ?_)
    refine go_aload_n 0 dX6_ruleText_26 rfl rfl ?_
    refine go_callV_I (as := []) gk_RX6_98 gmf_X6_newName (by decide) rfl (by omega) rfl rfl (Nat.le_of_ble_eq_true rfl) dX6_ruleText_27 (fun _ _ h => cX6_newName_c (by omega) h) (fun r6 s7 _ => ?_)
    refine go_istore_n (L' := [(1, vi r6), (0, vr a0)]) dX6_ruleText_30 rfl (by decide) rfl ?_
    refine go_aload_n 1 dX6_ruleText_31 rfl rfl ?_
    refine go_getR gf_RX6_45 gcf_6 gft_6_7 dX6_ruleText_32 (fun v8 => ?_)
    refine go_callV_R (as := []) gk_RX6_102 gmf_X1_openRule (by decide) rfl (by omega) rfl rfl (Nat.le_of_ble_eq_true rfl) dX6_ruleText_35 (fun _ _ h => cX1_openRule_c (by omega) h) (fun r9 s10 _ => ?_)
    refine go_astore_n (L' := [(2, vr r9), (1, vi r6), (0, vr a0)]) dX6_ruleText_38 rfl (by decide) rfl ?_
    refine go_aload_n 0 dX6_ruleText_39 rfl rfl ?_
    refine go_callV_v (as := []) gk_RX6_106 gmf_X8_clearParts (by decide) rfl (by omega) rfl rfl (Nat.le_of_ble_eq_true rfl) dX6_ruleText_40 (fun _ _ h => cX8_clearParts_c (by omega) h) (fun r11 s12 _ => ?_)
    refine go_aload_n 2 dX6_ruleText_43 rfl rfl ?_
    refine go_aload_n 2 dX6_ruleText_44 rfl rfl ?_
    refine go_ldcS (i := 5) (by decide) rfl rfl dX6_ruleText_45 ?_
    refine go_callV_I (as := [vr (10 + 2 * 5)]) gk_RX6_68 gmf_X6_isWord (by decide) rfl (by omega) rfl rfl (Nat.le_of_ble_eq_true rfl) dX6_ruleText_47 (fun _ _ h => cX6_isWord_c (by omega) h) (fun r13 s14 _ => ?_)
    refine go_callV_v (as := [vi r13]) gk_RX6_91 gmf_X6_pass (by decide) rfl (by omega) rfl rfl (Nat.le_of_ble_eq_true rfl) dX6_ruleText_50 (fun _ _ h => cX6_pass_c (by omega) h) (fun r15 s16 _ => ?_)
    refine go_aload_n 0 dX6_ruleText_53 rfl rfl ?_
    refine go_aload_n 2 dX6_ruleText_54 rfl rfl ?_
    refine go_iconst (v := 1) dX6_ruleText_55 (by decide) ?_
    refine go_bipush (v := 99) dX6_ruleText_56 (by decide) ?_
    refine go_callV_I (as := [vi 1, vi 99]) gk_RX6_113 gmf_X6_number (by decide) rfl (by omega) rfl rfl (Nat.le_of_ble_eq_true rfl) dX6_ruleText_58 (fun _ _ h => cX6_number_c (by omega) h) (fun r17 s18 _ => ?_)
    refine go_putI gf_RX6_116 gcf_8 gpl_8_0 gft_8_0 dX6_ruleText_61 (fun s19 _ => ?_)
    refine go_aload_n 0 dX6_ruleText_64 rfl rfl ?_
    refine go_aload_n 2 dX6_ruleText_65 rfl rfl ?_
    refine go_ldcS (i := 3) (by decide) rfl rfl dX6_ruleText_66 ?_
    refine go_callV_I (as := [vr (10 + 2 * 3)]) gk_RX6_121 gmf_X6_wordAmong (by decide) rfl (by omega) rfl rfl (Nat.le_of_ble_eq_true rfl) dX6_ruleText_68 (fun _ _ h => cX6_wordAmong_c (by omega) h) (fun r20 s21 _ => ?_)
    refine go_putI gf_RX6_125 gcf_8 gpl_8_1 gft_8_1 dX6_ruleText_71 (fun s22 _ => ?_)
    refine go_aload_n 2 dX6_ruleText_74 rfl rfl ?_
    refine go_aload_n 0 dX6_ruleText_75 rfl rfl ?_
    refine go_getI gf_RX6_125 gcf_8 gft_8_1 dX6_ruleText_76 (fun v23 => ?_)
    refine go_iconst (v := -1) dX6_ruleText_79 (by decide) ?_
    refine go_gjn (P := fun j24 => ∀ (z25 : Int32) (b26 : Nat) (s27 : gH), gGo X rvU mX6_ruleText d 88 [(0, vr a0), (1, vi r6), (2, vr r9)] [vi z25, vr b26] s27 (j24 z25 b26 s27)) (fun z25 b26 s27 => ?_) (fun j24 hj24 => ?_)
    · refine go_callV_v (as := [vi z25]) gk_RX6_91 gmf_X6_pass (by decide) rfl (by omega) rfl rfl (Nat.le_of_ble_eq_true rfl) dX6_ruleText_88 (fun _ _ h => cX6_pass_c (by omega) h) (fun r28 s29 _ => ?_)
      refine go_aload_n 0 dX6_ruleText_91 rfl rfl ?_
      refine go_aload_n 0 dX6_ruleText_92 rfl rfl ?_
      refine go_ldcS (i := 6) (by decide) rfl rfl dX6_ruleText_93 ?_
      refine go_callV_I (as := [vr (10 + 2 * 6)]) gk_RX6_68 gmf_X6_isWord (by decide) rfl (by omega) rfl rfl (Nat.le_of_ble_eq_true rfl) dX6_ruleText_95 (fun _ _ h => cX6_isWord_c (by omega) h) (fun r30 s31 _ => ?_)
      refine go_callV_v (as := [vi r30]) gk_RX6_91 gmf_X6_pass (by decide) rfl (by omega) rfl rfl (Nat.le_of_ble_eq_true rfl) dX6_ruleText_98 (fun _ _ h => cX6_pass_c (by omega) h) (fun r32 s33 _ => ?_)
      refine go_aload_n 2 dX6_ruleText_101 rfl rfl ?_
      refine go_aload_n 0 dX6_ruleText_102 rfl rfl ?_
      refine go_callV_I (as := []) gk_RX6_130 gmf_X6_dateText (by decide) rfl (by omega) rfl rfl (Nat.le_of_ble_eq_true rfl) dX6_ruleText_103 (fun _ _ h => cX6_dateText_c (by omega) h) (fun r34 s35 _ => ?_)
      refine go_callV_v (as := [vi r34]) gk_RX6_133 gmf_X8_beginAt (by decide) rfl (by omega) rfl rfl (Nat.le_of_ble_eq_true rfl) dX6_ruleText_106 (fun _ _ h => cX8_beginAt_c (by omega) h) (fun r36 s37 _ => ?_)
      refine go_iconst (v := 0) dX6_ruleText_109 (by decide) ?_
      refine go_istore_n (L' := [(3, vi 0), (0, vr a0), (1, vi r6), (2, vr r9)]) dX6_ruleText_110 rfl (by decide) rfl ?_
      refine go_aload_n 1 dX6_ruleText_111 rfl rfl ?_
      refine go_ldcS (i := 2) (by decide) rfl rfl dX6_ruleText_112 ?_
      refine go_callV_I (as := [vr (10 + 2 * 2)]) gk_RX6_121 gmf_X6_wordAmong (by decide) rfl (by omega) rfl rfl (Nat.le_of_ble_eq_true rfl) dX6_ruleText_114 (fun _ _ h => cX6_wordAmong_c (by omega) h) (fun r38 s39 _ => ?_)
      refine go_istore (L' := [(4, vi r38), (3, vi 0), (0, vr a0), (1, vi r6), (2, vr r9)]) dX6_ruleText_117 (by decide) rfl ?_
      refine go_iconst (v := 0) dX6_ruleText_119 (by decide) ?_
      refine go_istore (L' := [(5, vi 0), (4, vi r38), (3, vi 0), (0, vr a0), (1, vi r6), (2, vr r9)]) dX6_ruleText_120 (by decide) rfl ?_
      refine go_sub [3, 4, 5, 2, 1, 0] (wX6_ruleText_L122 hd _ a0 r6 r9 ?_ 20000 0 r38 0 s39) rfl
      intro s56
      refine go_aload_n 0 dX6_ruleText_186 rfl rfl ?_
      refine go_getR gf_RX6_45 gcf_6 gft_6_7 dX6_ruleText_187 (fun v57 => ?_)
      refine go_iload_n 1 dX6_ruleText_190 rfl rfl ?_
      refine go_callV_v (as := [vi r6]) gk_RX6_142 gmf_X1_closeRule (by decide) rfl (by omega) rfl rfl (Nat.le_of_ble_eq_true rfl) dX6_ruleText_191 (fun _ _ h => cX1_closeRule_c (by omega) h) (fun r58 s59 _ => ?_)
      exact go_retv rfl dX6_ruleText_194
    · refine go_icmp_eq (tgt := 87) dX6_ruleText_80 (by decide) (fun h60 => ?_) (fun h60 => ?_)
      · refine go_iconst (v := 0) dX6_ruleText_87 (by decide) ?_
        exact go_sub [2, 1, 0] (hj24 0 a0 s22) rfl
      · refine go_iconst (v := 1) dX6_ruleText_83 (by decide) ?_
        refine go_goto (tgt := 88) dX6_ruleText_84 (by decide) ?_
        exact go_sub [2, 1, 0] (hj24 1 a0 s22) rfl
  · refine go_aload_n 0 dX6_ruleText_12 rfl rfl ?_
    refine go_iconst (v := 5) dX6_ruleText_13 (by decide) ?_
    refine go_aload_n 0 dX6_ruleText_14 rfl rfl ?_
    refine go_getI gf_RX6_80 gcf_6 gft_6_5 dX6_ruleText_15 (fun v61 => ?_)
    refine go_callV_v (as := [vi 5, vi v61]) gk_RX6_83 gmf_X6_refuse (by decide) rfl (by omega) rfl rfl (Nat.le_of_ble_eq_true rfl) dX6_ruleText_18 (fun _ _ h => cX6_refuse_c (by omega) h) (fun r62 s63 _ => ?_)
    exact go_retv rfl dX6_ruleText_21
set_option maxRecDepth 100000 in
set_option maxHeartbeats 4000000 in
theorem cX6_ruleText_c {d : Nat} (hd : 8 ≤ d) {a0 : Nat} {s0 : gH} {r : Unit} {s1 : gH} (h : fX6_ruleText a0 s0 = some (r, s1)) : gMt mX6_ruleText d [vr a0] s0 none s1 :=
  gMt_of (rv := rvU) (by decide +kernel) (Nat.le_of_ble_eq_true rfl) rfl (fun _ => wX6_ruleText hd) h
def fX1_append (a0 : Nat) (x1 : Int32) (x2 : Int32) (s0 : gH) : Option (Unit × gH) :=
  (ggI s0 a0 1 2).bind fun v1 =>
  (ggR s0 a0 1 5).bind fun v2 =>
  (glen s0 v2).bind fun v3 =>
  if v1 < v3 then
    (ggR s0 a0 1 5).bind fun v5 =>
    (ggI s0 a0 1 2).bind fun v6 =>
    (saI s0 v5 2 v6 ((x1 <<< (14 &&& 31)) ||| x2)).bind fun s7 =>
    (ggI s7 a0 1 2).bind fun v8 =>
    (spI s7 a0 1 2 (v8 + 1)).bind fun s9 =>
    some ((), s9)
  else
    some ((), s0)
set_option maxRecDepth 100000 in
set_option maxHeartbeats 4000000 in
theorem wX1_append {X : Nat × (Nat → Int32)} {d : Nat} (hd : 0 ≤ d) {a0 : Nat} {x1 : Int32} {x2 : Int32} {s0 : gH} : gGo X rvU mX1_append d 0 [(0, vr a0), (1, vi x1), (2, vi x2)] [] s0 (fX1_append a0 x1 x2 s0) := by
  unfold fX1_append
  refine go_aload_n 0 dX1_append_0 rfl rfl ?_
  refine go_getI gf_RX1_35 gcf_1 gft_1_2 dX1_append_1 (fun v1 => ?_)
  refine go_aload_n 0 dX1_append_4 rfl rfl ?_
  refine go_getR gf_RX1_21 gcf_1 gft_1_5 dX1_append_5 (fun v2 => ?_)
  refine go_alen dX1_append_8 (fun v3 _ => ?_)
  refine go_icmp_ge (tgt := 37) dX1_append_9 (by decide) (fun h4 => ?_) (fun h4 => ?_)
  · refine go_aload_n 0 dX1_append_12 rfl rfl ?_
    refine go_getR gf_RX1_21 gcf_1 gft_1_5 dX1_append_13 (fun v5 => ?_)
    refine go_aload_n 0 dX1_append_16 rfl rfl ?_
    refine go_getI gf_RX1_35 gcf_1 gft_1_2 dX1_append_17 (fun v6 => ?_)
    refine go_iload_n 1 dX1_append_20 rfl rfl ?_
    refine go_bipush (v := 14) dX1_append_21 (by decide) ?_
    refine go_ishl dX1_append_23 ?_
    refine go_iload_n 2 dX1_append_24 rfl rfl ?_
    refine go_ior dX1_append_25 ?_
    refine go_iastore dX1_append_26 (fun s7 _ => ?_)
    refine go_aload_n 0 dX1_append_27 rfl rfl ?_
    refine go_dup dX1_append_28 rfl ?_
    refine go_getI gf_RX1_35 gcf_1 gft_1_2 dX1_append_29 (fun v8 => ?_)
    refine go_iconst (v := 1) dX1_append_32 (by decide) ?_
    refine go_iadd dX1_append_33 ?_
    refine go_putI gf_RX1_35 gcf_1 gpl_1_2 gft_1_2 dX1_append_34 (fun s9 _ => ?_)
    exact go_retv rfl dX1_append_37
  · exact go_retv rfl dX1_append_37
set_option maxRecDepth 100000 in
set_option maxHeartbeats 4000000 in
theorem cX1_append_c {d : Nat} (hd : 0 ≤ d) {a0 : Nat} {x1 : Int32} {x2 : Int32} {s0 : gH} {r : Unit} {s1 : gH} (h : fX1_append a0 x1 x2 s0 = some (r, s1)) : gMt mX1_append d [vr a0, vi x1, vi x2] s0 none s1 :=
  gMt_of (rv := rvU) (by decide +kernel) (Nat.le_of_ble_eq_true rfl) rfl (fun _ => wX1_append hd) h
def gX6_daysText_L18  (a0 : Nat) : Nat → Int32 → gH → Option (Unit × gH)
  | 0, _, _ => none
  | n + 1, x1, s0 =>
    if x1 < 8 then
      (ggI s0 a0 6 5).bind fun v9 =>
      gb2 (gcv s0 a0 6 (fX6_dateText a0 s0)) fun r10 s11 =>
      (ggR s11 a0 6 8).bind fun v12 =>
      gb2 (gcv s11 v12 7 (fX7_indexOf v12 r10 s11)) fun r13 s14 =>
      gjn (fun (s16 : gH) =>
          (ggR s16 a0 6 8).bind fun v17 =>
          gb2 (gcv s16 v17 7 (fX7_append v17 r10 s16)) fun r18 s19 =>
          (ggR s19 a0 6 7).bind fun v20 =>
          gb2 (gcv s19 v20 1 (fX1_append v20 2 r10 s19)) fun r21 s22 =>
          gb2 (gcv s22 a0 6 (fX6_nextInRow a0 s22)) fun r23 s24 =>
          if r23 = 0 then
            some ((), s24)
          else
            gX6_daysText_L18 a0 n (x1 + 1) s24
      ) fun j15 =>
      if r13 = -1 then
        j15 s14
      else
        gb2 (gcv s14 a0 6 (fX6_refuse a0 4 v9 s14)) fun r27 s28 =>
        j15 s28
    else
      some ((), s0)
set_option maxRecDepth 100000 in
set_option maxHeartbeats 4000000 in
theorem wX6_daysText_L18 {X : Nat × (Nat → Int32)} {d : Nat} (hd : 4 ≤ d)  (a0 : Nat) : ∀ (n : Nat) (x1 : Int32) (s0 : gH), gGo X rvU mX6_daysText d 18 [(0, vr a0), (1, vi x1)] [] s0 (gX6_daysText_L18 a0 n x1 s0) := by
  intro n
  induction n with
  | zero => intros; exact go_none
  | succ n ih =>
    intro x1 s0
    show gGo _ _ _ _ _ _ _ _ (gX6_daysText_L18 a0 (n + 1) x1 s0)
    unfold gX6_daysText_L18
    refine go_iload_n 1 dX6_daysText_18 rfl rfl ?_
    refine go_bipush (v := 8) dX6_daysText_19 (by decide) ?_
    refine go_icmp_ge (tgt := 83) dX6_daysText_21 (by decide) (fun h8 => ?_) (fun h8 => ?_)
    · refine go_aload_n 0 dX6_daysText_24 rfl rfl ?_
      refine go_getI gf_RX6_80 gcf_6 gft_6_5 dX6_daysText_25 (fun v9 => ?_)
      refine go_istore_n (L' := [(2, vi v9), (0, vr a0), (1, vi x1)]) dX6_daysText_28 rfl (by decide) rfl ?_
      refine go_aload_n 1 dX6_daysText_29 rfl rfl ?_
      refine go_callV_I (as := []) gk_RX6_130 gmf_X6_dateText (by decide) rfl (by omega) rfl rfl (Nat.le_of_ble_eq_true rfl) dX6_daysText_30 (fun _ _ h => cX6_dateText_c (by omega) h) (fun r10 s11 _ => ?_)
      refine go_istore_n (L' := [(3, vi r10), (2, vi v9), (0, vr a0), (1, vi x1)]) dX6_daysText_33 rfl (by decide) rfl ?_
      refine go_aload_n 2 dX6_daysText_34 rfl rfl ?_
      refine go_getR gf_RX6_24 gcf_6 gft_6_8 dX6_daysText_35 (fun v12 => ?_)
      refine go_iload_n 0 dX6_daysText_38 rfl rfl ?_
      refine go_callV_I (as := [vi r10]) gk_RX6_174 gmf_X7_indexOf (by decide) rfl (by omega) rfl rfl (Nat.le_of_ble_eq_true rfl) dX6_daysText_39 (fun _ _ h => cX7_indexOf_c (by omega) h) (fun r13 s14 _ => ?_)
      refine go_iconst (v := -1) dX6_daysText_42 (by decide) ?_
      refine go_gjn (P := fun j15 => ∀ (s16 : gH), gGo X rvU mX6_daysText d 52 [(0, vr a0), (1, vi x1), (3, vi r10)] [] s16 (j15 s16)) (fun s16 => ?_) (fun j15 hj15 => ?_)
      · refine go_aload_n 0 dX6_daysText_52 rfl rfl ?_
        refine go_getR gf_RX6_24 gcf_6 gft_6_8 dX6_daysText_53 (fun v17 => ?_)
        refine go_iload_n 2 dX6_daysText_56 rfl rfl ?_
        refine go_callV_v (as := [vi r10]) gk_RX6_178 gmf_X7_append (by decide) rfl (by omega) rfl rfl (Nat.le_of_ble_eq_true rfl) dX6_daysText_57 (fun _ _ h => cX7_append_c (by omega) h) (fun r18 s19 _ => ?_)
        refine go_aload_n 0 dX6_daysText_60 rfl rfl ?_
        refine go_getR gf_RX6_45 gcf_6 gft_6_7 dX6_daysText_61 (fun v20 => ?_)
        refine go_iconst (v := 2) dX6_daysText_64 (by decide) ?_
        refine go_iload_n 2 dX6_daysText_65 rfl rfl ?_
        refine go_callV_v (as := [vi 2, vi r10]) gk_RX6_207 gmf_X1_append (by decide) rfl (by omega) rfl rfl (Nat.le_of_ble_eq_true rfl) dX6_daysText_66 (fun _ _ h => cX1_append_c (by omega) h) (fun r21 s22 _ => ?_)
        refine go_aload_n 0 dX6_daysText_69 rfl rfl ?_
        refine go_callV_I (as := []) gk_RX6_181 gmf_X6_nextInRow (by decide) rfl (by omega) rfl rfl (Nat.le_of_ble_eq_true rfl) dX6_daysText_70 (fun _ _ h => cX6_nextInRow_c (by omega) h) (fun r23 s24 _ => ?_)
        refine go_if_ne (tgt := 77) dX6_daysText_73 (by decide) (fun h25 => ?_) (fun h25 => ?_)
        · exact go_retv rfl dX6_daysText_76
        · refine go_iinc (v := 1) (L' := [(1, vi (x1 + 1)), (0, vr a0), (3, vi r10)]) 1 dX6_daysText_77 rfl (by decide) (by decide) rfl ?_
          refine go_goto (tgt := 18) dX6_daysText_80 (by decide) ?_
          exact go_sub [1, 0] (ih (x1 + 1) s24) rfl
      · refine go_icmp_eq (tgt := 52) dX6_daysText_43 (by decide) (fun h26 => ?_) (fun h26 => ?_)
        · exact go_sub [2, 3, 0] (hj15 s14) rfl
        · refine go_aload_n 2 dX6_daysText_46 rfl rfl ?_
          refine go_iconst (v := 4) dX6_daysText_47 (by decide) ?_
          refine go_iload_n 1 dX6_daysText_48 rfl rfl ?_
          refine go_callV_v (as := [vi 4, vi v9]) gk_RX6_83 gmf_X6_refuse (by decide) rfl (by omega) rfl rfl (Nat.le_of_ble_eq_true rfl) dX6_daysText_49 (fun _ _ h => cX6_refuse_c (by omega) h) (fun r27 s28 _ => ?_)
          exact go_sub [2, 3, 0] (hj15 s28) rfl
    · exact go_retv rfl dX6_daysText_83
def fX6_daysText (a0 : Nat) (s0 : gH) : Option (Unit × gH) :=
  (ggR s0 a0 6 7).bind fun v1 =>
  gb2 (gcv s0 v1 1 (fX1_append v1 1 0 s0)) fun r2 s3 =>
  (ggR s3 a0 6 8).bind fun v4 =>
  gb2 (gcv s3 v4 7 (fX7_clear v4 s3)) fun r5 s6 =>
  gX6_daysText_L18
    a0 20000 0 s6
set_option maxRecDepth 100000 in
set_option maxHeartbeats 4000000 in
theorem wX6_daysText {X : Nat × (Nat → Int32)} {d : Nat} (hd : 4 ≤ d) {a0 : Nat} {s0 : gH} : gGo X rvU mX6_daysText d 0 [(0, vr a0)] [] s0 (fX6_daysText a0 s0) := by
  unfold fX6_daysText
  refine go_aload_n 0 dX6_daysText_0 rfl rfl ?_
  refine go_getR gf_RX6_45 gcf_6 gft_6_7 dX6_daysText_1 (fun v1 => ?_)
  refine go_iconst (v := 1) dX6_daysText_4 (by decide) ?_
  refine go_iconst (v := 0) dX6_daysText_5 (by decide) ?_
  refine go_callV_v (as := [vi 1, vi 0]) gk_RX6_207 gmf_X1_append (by decide) rfl (by omega) rfl rfl (Nat.le_of_ble_eq_true rfl) dX6_daysText_6 (fun _ _ h => cX1_append_c (by omega) h) (fun r2 s3 _ => ?_)
  refine go_aload_n 0 dX6_daysText_9 rfl rfl ?_
  refine go_getR gf_RX6_24 gcf_6 gft_6_8 dX6_daysText_10 (fun v4 => ?_)
  refine go_callV_v (as := []) gk_RX6_170 gmf_X7_clear (by decide) rfl (by omega) rfl rfl (Nat.le_of_ble_eq_true rfl) dX6_daysText_13 (fun _ _ h => cX7_clear_c (by omega) h) (fun r5 s6 _ => ?_)
  refine go_iconst (v := 0) dX6_daysText_16 (by decide) ?_
  refine go_istore_n (L' := [(1, vi 0), (0, vr a0)]) dX6_daysText_17 rfl (by decide) rfl ?_
  refine go_sub [1, 0] (wX6_daysText_L18 hd a0 20000 0 s6) rfl
set_option maxRecDepth 100000 in
set_option maxHeartbeats 4000000 in
theorem cX6_daysText_c {d : Nat} (hd : 4 ≤ d) {a0 : Nat} {s0 : gH} {r : Unit} {s1 : gH} (h : fX6_daysText a0 s0 = some (r, s1)) : gMt mX6_daysText d [vr a0] s0 none s1 :=
  gMt_of (rv := rvU) (by decide +kernel) (Nat.le_of_ble_eq_true rfl) rfl (fun _ => wX6_daysText hd) h
def fX6_knownName (a0 : Nat) (s0 : gH) : Option (Int32 × gH) :=
  (ggI s0 a0 6 5).bind fun v1 =>
  (ggR s0 a0 6 7).bind fun v2 =>
  gb2 (gcv s0 a0 6 (fX6_name a0 s0)) fun r3 s4 =>
  gb2 (gcv s4 v2 1 (fX1_find v2 r3 s4)) fun r5 s6 =>
  gjn (fun (s8 : gH) =>
      some (gmax 0 r5, s8)
  ) fun j7 =>
  if r5 = -1 then
    gb2 (gcv s6 a0 6 (fX6_refuse a0 3 v1 s6)) fun r10 s11 =>
    j7 s11
  else
    j7 s6
set_option maxRecDepth 100000 in
set_option maxHeartbeats 4000000 in
theorem wX6_knownName {X : Nat × (Nat → Int32)} {d : Nat} (hd : 7 ≤ d) {a0 : Nat} {s0 : gH} : gGo X rvI mX6_knownName d 0 [(0, vr a0)] [] s0 (fX6_knownName a0 s0) := by
  unfold fX6_knownName
  refine go_aload_n 0 dX6_knownName_0 rfl rfl ?_
  refine go_getI gf_RX6_80 gcf_6 gft_6_5 dX6_knownName_1 (fun v1 => ?_)
  refine go_istore_n (L' := [(1, vi v1), (0, vr a0)]) dX6_knownName_4 rfl (by decide) rfl ?_
  refine go_aload_n 1 dX6_knownName_5 rfl rfl ?_
  refine go_getR gf_RX6_45 gcf_6 gft_6_7 dX6_knownName_6 (fun v2 => ?_)
  refine go_aload_n 1 dX6_knownName_9 rfl rfl ?_
  refine go_callV_I (as := []) gk_RX6_241 gmf_X6_name (by decide) rfl (by omega) rfl rfl (Nat.le_of_ble_eq_true rfl) dX6_knownName_10 (fun _ _ h => cX6_name_c (by omega) h) (fun r3 s4 _ => ?_)
  refine go_callV_I (as := [vi r3]) gk_RX6_244 gmf_X1_find (by decide) rfl (by omega) rfl rfl (Nat.le_of_ble_eq_true rfl) dX6_knownName_13 (fun _ _ h => cX1_find_c (by omega) h) (fun r5 s6 _ => ?_)
  refine go_istore_n (L' := [(2, vi r5), (1, vi v1), (0, vr a0)]) dX6_knownName_16 rfl (by decide) rfl ?_
  refine go_iload_n 0 dX6_knownName_17 rfl rfl ?_
  refine go_iconst (v := -1) dX6_knownName_18 (by decide) ?_
  refine go_gjn (P := fun j7 => ∀ (s8 : gH), gGo X rvI mX6_knownName d 28 [(2, vi r5)] [] s8 (j7 s8)) (fun s8 => ?_) (fun j7 hj7 => ?_)
  · refine go_iconst (v := 0) dX6_knownName_28 (by decide) ?_
    refine go_iload_n 0 dX6_knownName_29 rfl rfl ?_
    refine go_mmax gk_RX6_188.1 gmm_max2 gmm_3 gmm_max4 (Nat.le_of_ble_eq_true rfl) dX6_knownName_30 ?_
    exact go_ret rfl dX6_knownName_33
  · refine go_icmp_ne (tgt := 28) dX6_knownName_19 (by decide) (fun h9 => ?_) (fun h9 => ?_)
    · refine go_aload_n 2 dX6_knownName_22 rfl rfl ?_
      refine go_iconst (v := 3) dX6_knownName_23 (by decide) ?_
      refine go_iload_n 1 dX6_knownName_24 rfl rfl ?_
      refine go_callV_v (as := [vi 3, vi v1]) gk_RX6_83 gmf_X6_refuse (by decide) rfl (by omega) rfl rfl (Nat.le_of_ble_eq_true rfl) dX6_knownName_25 (fun _ _ h => cX6_refuse_c (by omega) h) (fun r10 s11 _ => ?_)
      exact go_sub [0] (hj7 s11) rfl
    · exact go_sub [0] (hj7 s6) rfl
set_option maxRecDepth 100000 in
set_option maxHeartbeats 4000000 in
theorem cX6_knownName_c {d : Nat} (hd : 7 ≤ d) {a0 : Nat} {s0 : gH} {r : Int32} {s1 : gH} (h : fX6_knownName a0 s0 = some (r, s1)) : gMt mX6_knownName d [vr a0] s0 (some (vi r)) s1 :=
  gMt_of (rv := rvI) (by decide +kernel) (Nat.le_of_ble_eq_true rfl) ⟨_, rfl, rfl⟩ (fun _ => wX6_knownName hd) h
def fX6_firstText (fS : Nat → Int32 → gH → Option (Unit × gH)) (a0 : Nat) (x1 : Int32) (s0 : gH) : Option (Unit × gH) :=
  gb2 (gcv s0 a0 6 (fX6_isSign a0 40 s0)) fun r1 s2 =>
  gjn (fun (s4 : gH) =>
      gb2 (gcv s4 a0 6 (fX6_isSign a0 40 s4)) fun r5 s6 =>
      if r5 = 0 then
        gb2 (gcv s6 a0 6 (fX6_isWord a0 9 s6)) fun r8 s9 =>
        if r8 = 0 then
          (ggR s9 a0 6 7).bind fun v11 =>
          gb2 (gcv s9 a0 6 (fX6_knownName a0 s9)) fun r12 s13 =>
          gb2 (gcv s13 v11 1 (fX1_append v11 0 r12 s13)) fun r14 s15 =>
          some ((), s15)
        else
          gb2 (gcv s9 a0 6 (fX6_advance a0 s9)) fun r16 s17 =>
          gb2 (gcv s17 a0 6 (fX6_daysText a0 s17)) fun r18 s19 =>
          some ((), s19)
      else
        gb2 (gcv s6 a0 6 (fX6_advance a0 s6)) fun r20 s21 =>
        gb2 (gcv s21 a0 6 (fS a0 (x1 + 1) s21)) fun r22 s23 =>
        gb2 (gcv s23 a0 6 (fX6_isSign a0 41 s23)) fun r24 s25 =>
        gb2 (gcv s25 a0 6 (fX6_pass a0 r24 s25)) fun r26 s27 =>
        some ((), s27)
  ) fun j3 =>
  if r1 = 0 then
    j3 s2
  else
    if x1 < 6 then
      j3 s2
    else
      (ggI s2 a0 6 5).bind fun v30 =>
      gb2 (gcv s2 a0 6 (fX6_refuse a0 5 v30 s2)) fun r31 s32 =>
      some ((), s32)
set_option maxRecDepth 100000 in
set_option maxHeartbeats 4000000 in
theorem wX6_firstText {X : Nat × (Nat → Int32)} {d : Nat} (hd : 8 ≤ d) {fS : Nat → Int32 → gH → Option (Unit × gH)} {a0 : Nat} {x1 : Int32} {s0 : gH} (hfS : ∀ (a : Nat) (x : Int32) (s : gH) (r : Unit) (s1 : gH), fS a x s = some (r, s1) → gMt mX6_sumText (d - 1) [vr a, vi x] s none s1) : gGo X rvU mX6_firstText d 0 [(0, vr a0), (1, vi x1)] [] s0 (fX6_firstText fS a0 x1 s0) := by
  unfold fX6_firstText
  refine go_aload_n 0 dX6_firstText_0 rfl rfl ?_
  refine go_bipush (v := 40) dX6_firstText_1 (by decide) ?_
  refine go_callV_I (as := [vi 40]) gk_RX6_87 gmf_X6_isSign (by decide) rfl (by omega) rfl rfl (Nat.le_of_ble_eq_true rfl) dX6_firstText_3 (fun _ _ h => cX6_isSign_c (by omega) h) (fun r1 s2 _ => ?_)
  refine go_gjn (P := fun j3 => ∀ (s4 : gH), gGo X rvU mX6_firstText d 27 [(0, vr a0), (1, vi x1)] [] s4 (j3 s4)) (fun s4 => ?_) (fun j3 hj3 => ?_)
  · refine go_aload_n 0 dX6_firstText_27 rfl rfl ?_
    refine go_bipush (v := 40) dX6_firstText_28 (by decide) ?_
    refine go_callV_I (as := [vi 40]) gk_RX6_87 gmf_X6_isSign (by decide) rfl (by omega) rfl rfl (Nat.le_of_ble_eq_true rfl) dX6_firstText_30 (fun _ _ h => cX6_isSign_c (by omega) h) (fun r5 s6 _ => ?_)
    refine go_if_eq (tgt := 60) dX6_firstText_33 (by decide) (fun h7 => ?_) (fun h7 => ?_)
    · refine go_aload_n 0 dX6_firstText_60 rfl rfl ?_
      refine go_ldcS (i := 9) (by decide) rfl rfl dX6_firstText_61 ?_
      refine go_callV_I (as := [vr (10 + 2 * 9)]) gk_RX6_68 gmf_X6_isWord (by decide) rfl (by omega) rfl rfl (Nat.le_of_ble_eq_true rfl) dX6_firstText_63 (fun _ _ h => cX6_isWord_c (by omega) h) (fun r8 s9 _ => ?_)
      refine go_if_eq (tgt := 80) dX6_firstText_66 (by decide) (fun h10 => ?_) (fun h10 => ?_)
      · refine go_aload_n 0 dX6_firstText_80 rfl rfl ?_
        refine go_getR gf_RX6_45 gcf_6 gft_6_7 dX6_firstText_81 (fun v11 => ?_)
        refine go_iconst (v := 0) dX6_firstText_84 (by decide) ?_
        refine go_aload_n 0 dX6_firstText_85 rfl rfl ?_
        refine go_callV_I (as := []) gk_RX6_225 gmf_X6_knownName (by decide) rfl (by omega) rfl rfl (Nat.le_of_ble_eq_true rfl) dX6_firstText_86 (fun _ _ h => cX6_knownName_c (by omega) h) (fun r12 s13 _ => ?_)
        refine go_callV_v (as := [vi 0, vi r12]) gk_RX6_207 gmf_X1_append (by decide) rfl (by omega) rfl rfl (Nat.le_of_ble_eq_true rfl) dX6_firstText_89 (fun _ _ h => cX1_append_c (by omega) h) (fun r14 s15 _ => ?_)
        exact go_retv rfl dX6_firstText_92
      · refine go_aload_n 0 dX6_firstText_69 rfl rfl ?_
        refine go_callV_v (as := []) gk_RX6_63 gmf_X6_advance (by decide) rfl (by omega) rfl rfl (Nat.le_of_ble_eq_true rfl) dX6_firstText_70 (fun _ _ h => cX6_advance_c (by omega) h) (fun r16 s17 _ => ?_)
        refine go_aload_n 0 dX6_firstText_73 rfl rfl ?_
        refine go_callV_v (as := []) gk_RX6_230 gmf_X6_daysText (by decide) rfl (by omega) rfl rfl (Nat.le_of_ble_eq_true rfl) dX6_firstText_74 (fun _ _ h => cX6_daysText_c (by omega) h) (fun r18 s19 _ => ?_)
        refine go_goto (tgt := 92) dX6_firstText_77 (by decide) ?_
        exact go_retv rfl dX6_firstText_92
    · refine go_aload_n 0 dX6_firstText_36 rfl rfl ?_
      refine go_callV_v (as := []) gk_RX6_63 gmf_X6_advance (by decide) rfl (by omega) rfl rfl (Nat.le_of_ble_eq_true rfl) dX6_firstText_37 (fun _ _ h => cX6_advance_c (by omega) h) (fun r20 s21 _ => ?_)
      refine go_aload_n 0 dX6_firstText_40 rfl rfl ?_
      refine go_iload_n 1 dX6_firstText_41 rfl rfl ?_
      refine go_iconst (v := 1) dX6_firstText_42 (by decide) ?_
      refine go_iadd dX6_firstText_43 ?_
      refine go_callV_v (as := [vi (x1 + 1)]) gk_RX6_196 gmf_X6_sumText (by decide) rfl (by omega) rfl rfl (Nat.le_of_ble_eq_true rfl) dX6_firstText_44 (fun _ _ h => hfS _ _ _ _ _ h) (fun r22 s23 _ => ?_)
      refine go_aload_n 0 dX6_firstText_47 rfl rfl ?_
      refine go_aload_n 0 dX6_firstText_48 rfl rfl ?_
      refine go_bipush (v := 41) dX6_firstText_49 (by decide) ?_
      refine go_callV_I (as := [vi 41]) gk_RX6_87 gmf_X6_isSign (by decide) rfl (by omega) rfl rfl (Nat.le_of_ble_eq_true rfl) dX6_firstText_51 (fun _ _ h => cX6_isSign_c (by omega) h) (fun r24 s25 _ => ?_)
      refine go_callV_v (as := [vi r24]) gk_RX6_91 gmf_X6_pass (by decide) rfl (by omega) rfl rfl (Nat.le_of_ble_eq_true rfl) dX6_firstText_54 (fun _ _ h => cX6_pass_c (by omega) h) (fun r26 s27 _ => ?_)
      refine go_goto (tgt := 92) dX6_firstText_57 (by decide) ?_
      exact go_retv rfl dX6_firstText_92
  · refine go_if_eq (tgt := 27) dX6_firstText_6 (by decide) (fun h28 => ?_) (fun h28 => ?_)
    · exact go_sub [0, 1] (hj3 s2) rfl
    · refine go_iload_n 1 dX6_firstText_9 rfl rfl ?_
      refine go_bipush (v := 6) dX6_firstText_10 (by decide) ?_
      refine go_icmp_lt (tgt := 27) dX6_firstText_12 (by decide) (fun h29 => ?_) (fun h29 => ?_)
      · exact go_sub [0, 1] (hj3 s2) rfl
      · refine go_aload_n 0 dX6_firstText_15 rfl rfl ?_
        refine go_iconst (v := 5) dX6_firstText_16 (by decide) ?_
        refine go_aload_n 0 dX6_firstText_17 rfl rfl ?_
        refine go_getI gf_RX6_80 gcf_6 gft_6_5 dX6_firstText_18 (fun v30 => ?_)
        refine go_callV_v (as := [vi 5, vi v30]) gk_RX6_83 gmf_X6_refuse (by decide) rfl (by omega) rfl rfl (Nat.le_of_ble_eq_true rfl) dX6_firstText_21 (fun _ _ h => cX6_refuse_c (by omega) h) (fun r31 s32 _ => ?_)
        refine go_goto (tgt := 92) dX6_firstText_24 (by decide) ?_
        exact go_retv rfl dX6_firstText_92
set_option maxRecDepth 100000 in
set_option maxHeartbeats 4000000 in
theorem cX6_firstText_c {d : Nat} (hd : 8 ≤ d) {fS : Nat → Int32 → gH → Option (Unit × gH)} {a0 : Nat} {x1 : Int32} {s0 : gH} (hfS : ∀ (a : Nat) (x : Int32) (s : gH) (r : Unit) (s1 : gH), fS a x s = some (r, s1) → gMt mX6_sumText (d - 1) [vr a, vi x] s none s1) {r : Unit} {s1 : gH} (h : fX6_firstText fS a0 x1 s0 = some (r, s1)) : gMt mX6_firstText d [vr a0, vi x1] s0 none s1 :=
  gMt_of (rv := rvU) (by decide +kernel) (Nat.le_of_ble_eq_true rfl) rfl (fun _ => wX6_firstText hd hfS) h
def gX6_oneText_L7  (fS : Nat → Int32 → gH → Option (Unit × gH)) (a0 : Nat) : Nat → Int32 → gH → Option (Unit × gH)
  | 0, _, _ => none
  | n + 1, x2, s0 =>
    if x2 < 1600 then
      gb2 (gcv s0 a0 6 (fX6_isWord a0 10 s0)) fun r5 s6 =>
      gjn (fun (s8 : gH) =>
          gb2 (gcv s8 a0 6 (fX6_isWord a0 10 s8)) fun r9 s10 =>
          gjn (fun (z12 : Int32) (s13 : gH) =>
              gb2 (gcv s13 a0 6 (fX6_advance a0 s13)) fun r14 s15 =>
              (ggR s15 a0 6 7).bind fun v16 =>
              gjn (fun (z18 : Int32) (z19 : Int32) (b20 : Nat) (s21 : gH) =>
                  gb2 (gcv s21 b20 1 (fX1_append b20 z19 z18 s21)) fun r22 s23 =>
                  gX6_oneText_L7 fS a0 n (x2 + 1) s23
              ) fun j17 =>
              if z12 = 8 then
                gb2 (gcv s15 a0 6 (fX6_knownName a0 s15)) fun r25 s26 =>
                j17 r25 z12 v16 s26
              else
                gb2 (gcv s15 a0 6 (fX6_number a0 1 99 s15)) fun r27 s28 =>
                j17 r27 z12 v16 s28
          ) fun j11 =>
          if r9 = 0 then
            gb2 (gcv s10 a0 6 (fX6_isWord a0 11 s10)) fun r30 s31 =>
            if r30 = 0 then
              j11 8 s31
            else
              j11 7 s31
          else
            j11 6 s10
      ) fun j7 =>
      if r5 = 0 then
        gb2 (gcv s6 a0 6 (fX6_isWord a0 11 s6)) fun r34 s35 =>
        if r34 = 0 then
          gb2 (gcv s35 a0 6 (fX6_isWord a0 12 s35)) fun r37 s38 =>
          if r37 = 0 then
            some ((), s38)
          else
            j7 s38
        else
          j7 s35
      else
        j7 s6
    else
      some ((), s0)
set_option maxRecDepth 100000 in
set_option maxHeartbeats 4000000 in
theorem wX6_oneText_L7 {X : Nat × (Nat → Int32)} {d : Nat} (hd : 9 ≤ d)  (fS : Nat → Int32 → gH → Option (Unit × gH)) (a0 : Nat) (hfS : ∀ (a : Nat) (x : Int32) (s : gH) (r : Unit) (s1 : gH), fS a x s = some (r, s1) → gMt mX6_sumText (d - 1 - 1) [vr a, vi x] s none s1) : ∀ (n : Nat) (x2 : Int32) (s0 : gH), gGo X rvU mX6_oneText d 7 [(0, vr a0), (2, vi x2)] [] s0 (gX6_oneText_L7 fS a0 n x2 s0) := by
  intro n
  induction n with
  | zero => intros; exact go_none
  | succ n ih =>
    intro x2 s0
    show gGo _ _ _ _ _ _ _ _ (gX6_oneText_L7 fS a0 (n + 1) x2 s0)
    unfold gX6_oneText_L7
    refine go_iload_n 1 dX6_oneText_7 rfl rfl ?_
    refine go_sipush (v := 1600) dX6_oneText_8 (by decide) ?_
    refine go_icmp_ge (tgt := 110) dX6_oneText_11 (by decide) (fun h4 => ?_) (fun h4 => ?_)
    · refine go_aload_n 0 dX6_oneText_14 rfl rfl ?_
      refine go_ldcS (i := 10) (by decide) rfl rfl dX6_oneText_15 ?_
      refine go_callV_I (as := [vr (10 + 2 * 10)]) gk_RX6_68 gmf_X6_isWord (by decide) rfl (by omega) rfl rfl (Nat.le_of_ble_eq_true rfl) dX6_oneText_17 (fun _ _ h => cX6_isWord_c (by omega) h) (fun r5 s6 _ => ?_)
      refine go_gjn (P := fun j7 => ∀ (s8 : gH), gGo X rvU mX6_oneText d 41 [(0, vr a0), (2, vi x2)] [] s8 (j7 s8)) (fun s8 => ?_) (fun j7 hj7 => ?_)
      · refine go_aload_n 0 dX6_oneText_41 rfl rfl ?_
        refine go_ldcS (i := 10) (by decide) rfl rfl dX6_oneText_42 ?_
        refine go_callV_I (as := [vr (10 + 2 * 10)]) gk_RX6_68 gmf_X6_isWord (by decide) rfl (by omega) rfl rfl (Nat.le_of_ble_eq_true rfl) dX6_oneText_44 (fun _ _ h => cX6_isWord_c (by omega) h) (fun r9 s10 _ => ?_)
        refine go_gjn (P := fun j11 => ∀ (z12 : Int32) (s13 : gH), gGo X rvU mX6_oneText d 71 [(0, vr a0), (2, vi x2)] [vi z12] s13 (j11 z12 s13)) (fun z12 s13 => ?_) (fun j11 hj11 => ?_)
        · refine go_istore_n (L' := [(3, vi z12), (0, vr a0), (2, vi x2)]) dX6_oneText_71 rfl (by decide) rfl ?_
          refine go_aload_n 1 dX6_oneText_72 rfl rfl ?_
          refine go_callV_v (as := []) gk_RX6_63 gmf_X6_advance (by decide) rfl (by omega) rfl rfl (Nat.le_of_ble_eq_true rfl) dX6_oneText_73 (fun _ _ h => cX6_advance_c (by omega) h) (fun r14 s15 _ => ?_)
          refine go_aload_n 1 dX6_oneText_76 rfl rfl ?_
          refine go_getR gf_RX6_45 gcf_6 gft_6_7 dX6_oneText_77 (fun v16 => ?_)
          refine go_iload_n 0 dX6_oneText_80 rfl rfl ?_
          refine go_iload_n 0 dX6_oneText_81 rfl rfl ?_
          refine go_bipush (v := 8) dX6_oneText_82 (by decide) ?_
          refine go_gjn (P := fun j17 => ∀ (z18 : Int32) (z19 : Int32) (b20 : Nat) (s21 : gH), gGo X rvU mX6_oneText d 101 [(0, vr a0), (2, vi x2)] [vi z18, vi z19, vr b20] s21 (j17 z18 z19 b20 s21)) (fun z18 z19 b20 s21 => ?_) (fun j17 hj17 => ?_)
          · refine go_callV_v (as := [vi z19, vi z18]) gk_RX6_207 gmf_X1_append (by decide) rfl (by omega) rfl rfl (Nat.le_of_ble_eq_true rfl) dX6_oneText_101 (fun _ _ h => cX1_append_c (by omega) h) (fun r22 s23 _ => ?_)
            refine go_iinc (v := 1) (L' := [(2, vi (x2 + 1)), (0, vr a0)]) 1 dX6_oneText_104 rfl (by decide) (by decide) rfl ?_
            refine go_goto (tgt := 7) dX6_oneText_107 (by decide) ?_
            exact go_sub [1, 0] (ih (x2 + 1) s23) rfl
          · refine go_icmp_ne (tgt := 94) dX6_oneText_84 (by decide) (fun h24 => ?_) (fun h24 => ?_)
            · refine go_aload_n 1 dX6_oneText_87 rfl rfl ?_
              refine go_callV_I (as := []) gk_RX6_225 gmf_X6_knownName (by decide) rfl (by omega) rfl rfl (Nat.le_of_ble_eq_true rfl) dX6_oneText_88 (fun _ _ h => cX6_knownName_c (by omega) h) (fun r25 s26 _ => ?_)
              refine go_goto (tgt := 101) dX6_oneText_91 (by decide) ?_
              exact go_sub [1, 2] (hj17 r25 z12 v16 s26) rfl
            · refine go_aload_n 1 dX6_oneText_94 rfl rfl ?_
              refine go_iconst (v := 1) dX6_oneText_95 (by decide) ?_
              refine go_bipush (v := 99) dX6_oneText_96 (by decide) ?_
              refine go_callV_I (as := [vi 1, vi 99]) gk_RX6_113 gmf_X6_number (by decide) rfl (by omega) rfl rfl (Nat.le_of_ble_eq_true rfl) dX6_oneText_98 (fun _ _ h => cX6_number_c (by omega) h) (fun r27 s28 _ => ?_)
              exact go_sub [1, 2] (hj17 r27 z12 v16 s28) rfl
        · refine go_if_eq (tgt := 55) dX6_oneText_47 (by decide) (fun h29 => ?_) (fun h29 => ?_)
          · refine go_aload_n 0 dX6_oneText_55 rfl rfl ?_
            refine go_ldcS (i := 11) (by decide) rfl rfl dX6_oneText_56 ?_
            refine go_callV_I (as := [vr (10 + 2 * 11)]) gk_RX6_68 gmf_X6_isWord (by decide) rfl (by omega) rfl rfl (Nat.le_of_ble_eq_true rfl) dX6_oneText_58 (fun _ _ h => cX6_isWord_c (by omega) h) (fun r30 s31 _ => ?_)
            refine go_if_eq (tgt := 69) dX6_oneText_61 (by decide) (fun h32 => ?_) (fun h32 => ?_)
            · refine go_bipush (v := 8) dX6_oneText_69 (by decide) ?_
              exact go_sub [0, 1] (hj11 8 s31) rfl
            · refine go_bipush (v := 7) dX6_oneText_64 (by decide) ?_
              refine go_goto (tgt := 71) dX6_oneText_66 (by decide) ?_
              exact go_sub [0, 1] (hj11 7 s31) rfl
          · refine go_bipush (v := 6) dX6_oneText_50 (by decide) ?_
            refine go_goto (tgt := 71) dX6_oneText_52 (by decide) ?_
            exact go_sub [0, 1] (hj11 6 s10) rfl
      · refine go_if_ne (tgt := 41) dX6_oneText_20 (by decide) (fun h33 => ?_) (fun h33 => ?_)
        · refine go_aload_n 0 dX6_oneText_23 rfl rfl ?_
          refine go_ldcS (i := 11) (by decide) rfl rfl dX6_oneText_24 ?_
          refine go_callV_I (as := [vr (10 + 2 * 11)]) gk_RX6_68 gmf_X6_isWord (by decide) rfl (by omega) rfl rfl (Nat.le_of_ble_eq_true rfl) dX6_oneText_26 (fun _ _ h => cX6_isWord_c (by omega) h) (fun r34 s35 _ => ?_)
          refine go_if_ne (tgt := 41) dX6_oneText_29 (by decide) (fun h36 => ?_) (fun h36 => ?_)
          · refine go_aload_n 0 dX6_oneText_32 rfl rfl ?_
            refine go_ldcS (i := 12) (by decide) rfl rfl dX6_oneText_33 ?_
            refine go_callV_I (as := [vr (10 + 2 * 12)]) gk_RX6_68 gmf_X6_isWord (by decide) rfl (by omega) rfl rfl (Nat.le_of_ble_eq_true rfl) dX6_oneText_35 (fun _ _ h => cX6_isWord_c (by omega) h) (fun r37 s38 _ => ?_)
            refine go_if_eq (tgt := 110) dX6_oneText_38 (by decide) (fun h39 => ?_) (fun h39 => ?_)
            · exact go_retv rfl dX6_oneText_110
            · exact go_sub [0, 1] (hj7 s38) rfl
          · exact go_sub [0, 1] (hj7 s35) rfl
        · exact go_sub [0, 1] (hj7 s6) rfl
    · exact go_retv rfl dX6_oneText_110
def fX6_oneText (fS : Nat → Int32 → gH → Option (Unit × gH)) (a0 : Nat) (x1 : Int32) (s0 : gH) : Option (Unit × gH) :=
  gb2 (gcv s0 a0 6 (fX6_firstText fS a0 x1 s0)) fun r1 s2 =>
  gX6_oneText_L7
    fS a0 20000 0 s2
set_option maxRecDepth 100000 in
set_option maxHeartbeats 4000000 in
theorem wX6_oneText {X : Nat × (Nat → Int32)} {d : Nat} (hd : 9 ≤ d) {fS : Nat → Int32 → gH → Option (Unit × gH)} {a0 : Nat} {x1 : Int32} {s0 : gH} (hfS : ∀ (a : Nat) (x : Int32) (s : gH) (r : Unit) (s1 : gH), fS a x s = some (r, s1) → gMt mX6_sumText (d - 1 - 1) [vr a, vi x] s none s1) : gGo X rvU mX6_oneText d 0 [(0, vr a0), (1, vi x1)] [] s0 (fX6_oneText fS a0 x1 s0) := by
  unfold fX6_oneText
  refine go_aload_n 0 dX6_oneText_0 rfl rfl ?_
  refine go_iload_n 1 dX6_oneText_1 rfl rfl ?_
  refine go_callV_v (as := [vi x1]) gk_RX6_216 gmf_X6_firstText (by decide) rfl (by omega) rfl rfl (Nat.le_of_ble_eq_true rfl) dX6_oneText_2 (fun _ _ h => cX6_firstText_c (by omega) (fun _ _ _ _ _ h => hfS _ _ _ _ _ h) h) (fun r1 s2 _ => ?_)
  refine go_iconst (v := 0) dX6_oneText_5 (by decide) ?_
  refine go_istore_n (L' := [(2, vi 0), (0, vr a0), (1, vi x1)]) dX6_oneText_6 rfl (by decide) rfl ?_
  refine go_sub [1, 0] (wX6_oneText_L7 hd fS a0 hfS 20000 0 s2) rfl
set_option maxRecDepth 100000 in
set_option maxHeartbeats 4000000 in
theorem cX6_oneText_c {d : Nat} (hd : 9 ≤ d) {fS : Nat → Int32 → gH → Option (Unit × gH)} {a0 : Nat} {x1 : Int32} {s0 : gH} (hfS : ∀ (a : Nat) (x : Int32) (s : gH) (r : Unit) (s1 : gH), fS a x s = some (r, s1) → gMt mX6_sumText (d - 1 - 1) [vr a, vi x] s none s1) {r : Unit} {s1 : gH} (h : fX6_oneText fS a0 x1 s0 = some (r, s1)) : gMt mX6_oneText d [vr a0, vi x1] s0 none s1 :=
  gMt_of (rv := rvU) (by decide +kernel) (Nat.le_of_ble_eq_true rfl) rfl (fun _ => wX6_oneText hd hfS) h
def gX6_bothText_L7  (fS : Nat → Int32 → gH → Option (Unit × gH)) (a0 : Nat) (x1 : Int32) : Nat → Int32 → gH → Option (Unit × gH)
  | 0, _, _ => none
  | n + 1, x2, s0 =>
    if x2 < 1600 then
      gb2 (gcv s0 a0 6 (fX6_isWord a0 13 s0)) fun r5 s6 =>
      gjn (fun (s8 : gH) =>
          gb2 (gcv s8 a0 6 (fX6_isWord a0 13 s8)) fun r9 s10 =>
          gjn (fun (z12 : Int32) (s13 : gH) =>
              gb2 (gcv s13 a0 6 (fX6_advance a0 s13)) fun r14 s15 =>
              gb2 (gcv s15 a0 6 (fX6_oneText fS a0 x1 s15)) fun r16 s17 =>
              (ggR s17 a0 6 7).bind fun v18 =>
              gb2 (gcv s17 v18 1 (fX1_append v18 z12 0 s17)) fun r19 s20 =>
              gX6_bothText_L7 fS a0 x1 n (x2 + 1) s20
          ) fun j11 =>
          if r9 = 0 then
            j11 5 s10
          else
            j11 4 s10
      ) fun j7 =>
      if r5 = 0 then
        gb2 (gcv s6 a0 6 (fX6_isWord a0 14 s6)) fun r23 s24 =>
        if r23 = 0 then
          some ((), s24)
        else
          j7 s24
      else
        j7 s6
    else
      some ((), s0)
set_option maxRecDepth 100000 in
set_option maxHeartbeats 4000000 in
theorem wX6_bothText_L7 {X : Nat × (Nat → Int32)} {d : Nat} (hd : 10 ≤ d)  (fS : Nat → Int32 → gH → Option (Unit × gH)) (a0 : Nat) (x1 : Int32) (hfS : ∀ (a : Nat) (x : Int32) (s : gH) (r : Unit) (s1 : gH), fS a x s = some (r, s1) → gMt mX6_sumText (d - 1 - 1 - 1) [vr a, vi x] s none s1) : ∀ (n : Nat) (x2 : Int32) (s0 : gH), gGo X rvU mX6_bothText d 7 [(0, vr a0), (1, vi x1), (2, vi x2)] [] s0 (gX6_bothText_L7 fS a0 x1 n x2 s0) := by
  intro n
  induction n with
  | zero => intros; exact go_none
  | succ n ih =>
    intro x2 s0
    show gGo _ _ _ _ _ _ _ _ (gX6_bothText_L7 fS a0 x1 (n + 1) x2 s0)
    unfold gX6_bothText_L7
    refine go_iload_n 2 dX6_bothText_7 rfl rfl ?_
    refine go_sipush (v := 1600) dX6_bothText_8 (by decide) ?_
    refine go_icmp_ge (tgt := 71) dX6_bothText_11 (by decide) (fun h4 => ?_) (fun h4 => ?_)
    · refine go_aload_n 0 dX6_bothText_14 rfl rfl ?_
      refine go_ldcS (i := 13) (by decide) rfl rfl dX6_bothText_15 ?_
      refine go_callV_I (as := [vr (10 + 2 * 13)]) gk_RX6_68 gmf_X6_isWord (by decide) rfl (by omega) rfl rfl (Nat.le_of_ble_eq_true rfl) dX6_bothText_17 (fun _ _ h => cX6_isWord_c (by omega) h) (fun r5 s6 _ => ?_)
      refine go_gjn (P := fun j7 => ∀ (s8 : gH), gGo X rvU mX6_bothText d 32 [(0, vr a0), (1, vi x1), (2, vi x2)] [] s8 (j7 s8)) (fun s8 => ?_) (fun j7 hj7 => ?_)
      · refine go_aload_n 0 dX6_bothText_32 rfl rfl ?_
        refine go_ldcS (i := 13) (by decide) rfl rfl dX6_bothText_33 ?_
        refine go_callV_I (as := [vr (10 + 2 * 13)]) gk_RX6_68 gmf_X6_isWord (by decide) rfl (by omega) rfl rfl (Nat.le_of_ble_eq_true rfl) dX6_bothText_35 (fun _ _ h => cX6_isWord_c (by omega) h) (fun r9 s10 _ => ?_)
        refine go_gjn (P := fun j11 => ∀ (z12 : Int32) (s13 : gH), gGo X rvU mX6_bothText d 46 [(0, vr a0), (1, vi x1), (2, vi x2)] [vi z12] s13 (j11 z12 s13)) (fun z12 s13 => ?_) (fun j11 hj11 => ?_)
        · refine go_istore_n (L' := [(3, vi z12), (0, vr a0), (1, vi x1), (2, vi x2)]) dX6_bothText_46 rfl (by decide) rfl ?_
          refine go_aload_n 1 dX6_bothText_47 rfl rfl ?_
          refine go_callV_v (as := []) gk_RX6_63 gmf_X6_advance (by decide) rfl (by omega) rfl rfl (Nat.le_of_ble_eq_true rfl) dX6_bothText_48 (fun _ _ h => cX6_advance_c (by omega) h) (fun r14 s15 _ => ?_)
          refine go_aload_n 1 dX6_bothText_51 rfl rfl ?_
          refine go_iload_n 2 dX6_bothText_52 rfl rfl ?_
          refine go_callV_v (as := [vi x1]) gk_RX6_209 gmf_X6_oneText (by decide) rfl (by omega) rfl rfl (Nat.le_of_ble_eq_true rfl) dX6_bothText_53 (fun _ _ h => cX6_oneText_c (by omega) (fun _ _ _ _ _ h => hfS _ _ _ _ _ h) h) (fun r16 s17 _ => ?_)
          refine go_aload_n 1 dX6_bothText_56 rfl rfl ?_
          refine go_getR gf_RX6_45 gcf_6 gft_6_7 dX6_bothText_57 (fun v18 => ?_)
          refine go_iload_n 0 dX6_bothText_60 rfl rfl ?_
          refine go_iconst (v := 0) dX6_bothText_61 (by decide) ?_
          refine go_callV_v (as := [vi z12, vi 0]) gk_RX6_207 gmf_X1_append (by decide) rfl (by omega) rfl rfl (Nat.le_of_ble_eq_true rfl) dX6_bothText_62 (fun _ _ h => cX1_append_c (by omega) h) (fun r19 s20 _ => ?_)
          refine go_iinc (v := 1) (L' := [(2, vi (x2 + 1)), (3, vi z12), (0, vr a0), (1, vi x1)]) 3 dX6_bothText_65 rfl (by decide) (by decide) rfl ?_
          refine go_goto (tgt := 7) dX6_bothText_68 (by decide) ?_
          exact go_sub [2, 3, 0] (ih (x2 + 1) s20) rfl
        · refine go_if_eq (tgt := 45) dX6_bothText_38 (by decide) (fun h21 => ?_) (fun h21 => ?_)
          · refine go_iconst (v := 5) dX6_bothText_45 (by decide) ?_
            exact go_sub [0, 1, 2] (hj11 5 s10) rfl
          · refine go_iconst (v := 4) dX6_bothText_41 (by decide) ?_
            refine go_goto (tgt := 46) dX6_bothText_42 (by decide) ?_
            exact go_sub [0, 1, 2] (hj11 4 s10) rfl
      · refine go_if_ne (tgt := 32) dX6_bothText_20 (by decide) (fun h22 => ?_) (fun h22 => ?_)
        · refine go_aload_n 0 dX6_bothText_23 rfl rfl ?_
          refine go_ldcS (i := 14) (by decide) rfl rfl dX6_bothText_24 ?_
          refine go_callV_I (as := [vr (10 + 2 * 14)]) gk_RX6_68 gmf_X6_isWord (by decide) rfl (by omega) rfl rfl (Nat.le_of_ble_eq_true rfl) dX6_bothText_26 (fun _ _ h => cX6_isWord_c (by omega) h) (fun r23 s24 _ => ?_)
          refine go_if_eq (tgt := 71) dX6_bothText_29 (by decide) (fun h25 => ?_) (fun h25 => ?_)
          · exact go_retv rfl dX6_bothText_71
          · exact go_sub [0, 1, 2] (hj7 s24) rfl
        · exact go_sub [0, 1, 2] (hj7 s6) rfl
    · exact go_retv rfl dX6_bothText_71
def fX6_bothText (fS : Nat → Int32 → gH → Option (Unit × gH)) (a0 : Nat) (x1 : Int32) (s0 : gH) : Option (Unit × gH) :=
  gb2 (gcv s0 a0 6 (fX6_oneText fS a0 x1 s0)) fun r1 s2 =>
  gX6_bothText_L7
    fS a0 x1 20000 0 s2
set_option maxRecDepth 100000 in
set_option maxHeartbeats 4000000 in
theorem wX6_bothText {X : Nat × (Nat → Int32)} {d : Nat} (hd : 10 ≤ d) {fS : Nat → Int32 → gH → Option (Unit × gH)} {a0 : Nat} {x1 : Int32} {s0 : gH} (hfS : ∀ (a : Nat) (x : Int32) (s : gH) (r : Unit) (s1 : gH), fS a x s = some (r, s1) → gMt mX6_sumText (d - 1 - 1 - 1) [vr a, vi x] s none s1) : gGo X rvU mX6_bothText d 0 [(0, vr a0), (1, vi x1)] [] s0 (fX6_bothText fS a0 x1 s0) := by
  unfold fX6_bothText
  refine go_aload_n 0 dX6_bothText_0 rfl rfl ?_
  refine go_iload_n 1 dX6_bothText_1 rfl rfl ?_
  refine go_callV_v (as := [vi x1]) gk_RX6_209 gmf_X6_oneText (by decide) rfl (by omega) rfl rfl (Nat.le_of_ble_eq_true rfl) dX6_bothText_2 (fun _ _ h => cX6_oneText_c (by omega) (fun _ _ _ _ _ h => hfS _ _ _ _ _ h) h) (fun r1 s2 _ => ?_)
  refine go_iconst (v := 0) dX6_bothText_5 (by decide) ?_
  refine go_istore_n (L' := [(2, vi 0), (0, vr a0), (1, vi x1)]) dX6_bothText_6 rfl (by decide) rfl ?_
  refine go_sub [1, 2, 0] (wX6_bothText_L7 hd fS a0 x1 hfS 20000 0 s2) rfl
set_option maxRecDepth 100000 in
set_option maxHeartbeats 4000000 in
theorem cX6_bothText_c {d : Nat} (hd : 10 ≤ d) {fS : Nat → Int32 → gH → Option (Unit × gH)} {a0 : Nat} {x1 : Int32} {s0 : gH} (hfS : ∀ (a : Nat) (x : Int32) (s : gH) (r : Unit) (s1 : gH), fS a x s = some (r, s1) → gMt mX6_sumText (d - 1 - 1 - 1) [vr a, vi x] s none s1) {r : Unit} {s1 : gH} (h : fX6_bothText fS a0 x1 s0 = some (r, s1)) : gMt mX6_bothText d [vr a0, vi x1] s0 none s1 :=
  gMt_of (rv := rvU) (by decide +kernel) (Nat.le_of_ble_eq_true rfl) rfl (fun _ => wX6_bothText hd hfS) h
def gX6_sumText_L7  (fS : Nat → Int32 → gH → Option (Unit × gH)) (a0 : Nat) (x1 : Int32) : Nat → Int32 → gH → Option (Unit × gH)
  | 0, _, _ => none
  | n + 1, x2, s0 =>
    if x2 < 1600 then
      gb2 (gcv s0 a0 6 (fX6_isWord a0 15 s0)) fun r5 s6 =>
      if r5 = 0 then
        some ((), s6)
      else
        gb2 (gcv s6 a0 6 (fX6_advance a0 s6)) fun r8 s9 =>
        gb2 (gcv s9 a0 6 (fX6_bothText fS a0 x1 s9)) fun r10 s11 =>
        (ggR s11 a0 6 7).bind fun v12 =>
        gb2 (gcv s11 v12 1 (fX1_append v12 3 0 s11)) fun r13 s14 =>
        gX6_sumText_L7 fS a0 x1 n (x2 + 1) s14
    else
      some ((), s0)
set_option maxRecDepth 100000 in
set_option maxHeartbeats 4000000 in
theorem wX6_sumText_L7 {X : Nat × (Nat → Int32)} {d : Nat} (hd : 11 ≤ d)  (fS : Nat → Int32 → gH → Option (Unit × gH)) (a0 : Nat) (x1 : Int32) (hfS : ∀ (a : Nat) (x : Int32) (s : gH) (r : Unit) (s1 : gH), fS a x s = some (r, s1) → gMt mX6_sumText (d - 1 - 1 - 1 - 1) [vr a, vi x] s none s1) : ∀ (n : Nat) (x2 : Int32) (s0 : gH), gGo X rvU mX6_sumText d 7 [(0, vr a0), (1, vi x1), (2, vi x2)] [] s0 (gX6_sumText_L7 fS a0 x1 n x2 s0) := by
  intro n
  induction n with
  | zero => intros; exact go_none
  | succ n ih =>
    intro x2 s0
    show gGo _ _ _ _ _ _ _ _ (gX6_sumText_L7 fS a0 x1 (n + 1) x2 s0)
    unfold gX6_sumText_L7
    refine go_iload_n 2 dX6_sumText_7 rfl rfl ?_
    refine go_sipush (v := 1600) dX6_sumText_8 (by decide) ?_
    refine go_icmp_ge (tgt := 47) dX6_sumText_11 (by decide) (fun h4 => ?_) (fun h4 => ?_)
    · refine go_aload_n 0 dX6_sumText_14 rfl rfl ?_
      refine go_ldcS (i := 15) (by decide) rfl rfl dX6_sumText_15 ?_
      refine go_callV_I (as := [vr (10 + 2 * 15)]) gk_RX6_68 gmf_X6_isWord (by decide) rfl (by omega) rfl rfl (Nat.le_of_ble_eq_true rfl) dX6_sumText_17 (fun _ _ h => cX6_isWord_c (by omega) h) (fun r5 s6 _ => ?_)
      refine go_if_eq (tgt := 47) dX6_sumText_20 (by decide) (fun h7 => ?_) (fun h7 => ?_)
      · exact go_retv rfl dX6_sumText_47
      · refine go_aload_n 0 dX6_sumText_23 rfl rfl ?_
        refine go_callV_v (as := []) gk_RX6_63 gmf_X6_advance (by decide) rfl (by omega) rfl rfl (Nat.le_of_ble_eq_true rfl) dX6_sumText_24 (fun _ _ h => cX6_advance_c (by omega) h) (fun r8 s9 _ => ?_)
        refine go_aload_n 0 dX6_sumText_27 rfl rfl ?_
        refine go_iload_n 1 dX6_sumText_28 rfl rfl ?_
        refine go_callV_v (as := [vi x1]) gk_RX6_202 gmf_X6_bothText (by decide) rfl (by omega) rfl rfl (Nat.le_of_ble_eq_true rfl) dX6_sumText_29 (fun _ _ h => cX6_bothText_c (by omega) (fun _ _ _ _ _ h => hfS _ _ _ _ _ h) h) (fun r10 s11 _ => ?_)
        refine go_aload_n 0 dX6_sumText_32 rfl rfl ?_
        refine go_getR gf_RX6_45 gcf_6 gft_6_7 dX6_sumText_33 (fun v12 => ?_)
        refine go_iconst (v := 3) dX6_sumText_36 (by decide) ?_
        refine go_iconst (v := 0) dX6_sumText_37 (by decide) ?_
        refine go_callV_v (as := [vi 3, vi 0]) gk_RX6_207 gmf_X1_append (by decide) rfl (by omega) rfl rfl (Nat.le_of_ble_eq_true rfl) dX6_sumText_38 (fun _ _ h => cX1_append_c (by omega) h) (fun r13 s14 _ => ?_)
        refine go_iinc (v := 1) (L' := [(2, vi (x2 + 1)), (0, vr a0), (1, vi x1)]) 2 dX6_sumText_41 rfl (by decide) (by decide) rfl ?_
        refine go_goto (tgt := 7) dX6_sumText_44 (by decide) ?_
        exact go_sub [1, 2, 0] (ih (x2 + 1) s14) rfl
    · exact go_retv rfl dX6_sumText_47
def fX6_sumText (fS : Nat → Int32 → gH → Option (Unit × gH)) (a0 : Nat) (x1 : Int32) (s0 : gH) : Option (Unit × gH) :=
  gb2 (gcv s0 a0 6 (fX6_bothText fS a0 x1 s0)) fun r1 s2 =>
  gX6_sumText_L7
    fS a0 x1 20000 0 s2
set_option maxRecDepth 100000 in
set_option maxHeartbeats 4000000 in
theorem wX6_sumText {X : Nat × (Nat → Int32)} {d : Nat} (hd : 11 ≤ d) {fS : Nat → Int32 → gH → Option (Unit × gH)} {a0 : Nat} {x1 : Int32} {s0 : gH} (hfS : ∀ (a : Nat) (x : Int32) (s : gH) (r : Unit) (s1 : gH), fS a x s = some (r, s1) → gMt mX6_sumText (d - 1 - 1 - 1 - 1) [vr a, vi x] s none s1) : gGo X rvU mX6_sumText d 0 [(0, vr a0), (1, vi x1)] [] s0 (fX6_sumText fS a0 x1 s0) := by
  unfold fX6_sumText
  refine go_aload_n 0 dX6_sumText_0 rfl rfl ?_
  refine go_iload_n 1 dX6_sumText_1 rfl rfl ?_
  refine go_callV_v (as := [vi x1]) gk_RX6_202 gmf_X6_bothText (by decide) rfl (by omega) rfl rfl (Nat.le_of_ble_eq_true rfl) dX6_sumText_2 (fun _ _ h => cX6_bothText_c (by omega) (fun _ _ _ _ _ h => hfS _ _ _ _ _ h) h) (fun r1 s2 _ => ?_)
  refine go_iconst (v := 0) dX6_sumText_5 (by decide) ?_
  refine go_istore_n (L' := [(2, vi 0), (0, vr a0), (1, vi x1)]) dX6_sumText_6 rfl (by decide) rfl ?_
  refine go_sub [1, 2, 0] (wX6_sumText_L7 hd fS a0 x1 hfS 20000 0 s2) rfl
set_option maxRecDepth 100000 in
set_option maxHeartbeats 4000000 in
theorem cX6_sumText_c {d : Nat} (hd : 11 ≤ d) {fS : Nat → Int32 → gH → Option (Unit × gH)} {a0 : Nat} {x1 : Int32} {s0 : gH} (hfS : ∀ (a : Nat) (x : Int32) (s : gH) (r : Unit) (s1 : gH), fS a x s = some (r, s1) → gMt mX6_sumText (d - 1 - 1 - 1 - 1) [vr a, vi x] s none s1) {r : Unit} {s1 : gH} (h : fX6_sumText fS a0 x1 s0 = some (r, s1)) : gMt mX6_sumText d [vr a0, vi x1] s0 none s1 :=
  gMt_of (rv := rvU) (by decide +kernel) (Nat.le_of_ble_eq_true rfl) rfl (fun _ => wX6_sumText hd hfS) h
def fX6_sumT : Nat → Nat → Int32 → gH → Option (Unit × gH)
  | 0, _, _, _ => none
  | e + 1, a, x, s => fX6_sumText (fX6_sumT e) a x s
theorem cX6_sumT_c : ∀ (e : Nat) {d : Nat} (hd : 11 + 4 * e ≤ d) {a : Nat} {x : Int32} {s0 : gH} {r : Unit} {s1 : gH} (h : fX6_sumT e a x s0 = some (r, s1)), gMt mX6_sumText d [vr a, vi x] s0 none s1
  | 0, _, _, _, _, _, _, _, h => by cases h
  | e + 1, d, hd, a, x, s0, r, s1, h => cX6_sumText_c (by omega) (fun _ _ _ _ _ h => cX6_sumT_c e (by omega) h) h
def fX6_sumTop (a : Nat) (x : Int32) (s : gH) : Option (Unit × gH) := fX6_sumT 8 a x s
theorem cX6_sumTop_c {d : Nat} (hd : 43 ≤ d) {a : Nat} {x : Int32} {s0 : gH} {r : Unit} {s1 : gH} (h : fX6_sumTop a x s0 = some (r, s1)) : gMt mX6_sumText d [vr a, vi x] s0 none s1 := cX6_sumT_c 8 (by omega) h
def fX1_closeSet (a0 : Nat) (x1 : Int32) (s0 : gH) : Option (Unit × gH) :=
  (ggI s0 a0 1 1).bind fun v1 =>
  if v1 < 6 then
    (ggR s0 a0 1 4).bind fun v3 =>
    (ggI s0 a0 1 1).bind fun v4 =>
    (saI s0 v3 2 (6 + v4) x1).bind fun s5 =>
    (ggR s5 a0 1 6).bind fun v6 =>
    (ggI s5 a0 1 1).bind fun v7 =>
    (ggI s5 a0 1 2).bind fun v8 =>
    (saI s5 v6 2 v7 v8).bind fun s9 =>
    (ggI s9 a0 1 1).bind fun v10 =>
    (spI s9 a0 1 1 (v10 + 1)).bind fun s11 =>
    some ((), s11)
  else
    some ((), s0)
set_option maxRecDepth 100000 in
set_option maxHeartbeats 4000000 in
theorem wX1_closeSet {X : Nat × (Nat → Int32)} {d : Nat} (hd : 0 ≤ d) {a0 : Nat} {x1 : Int32} {s0 : gH} : gGo X rvU mX1_closeSet d 0 [(0, vr a0), (1, vi x1)] [] s0 (fX1_closeSet a0 x1 s0) := by
  unfold fX1_closeSet
  refine go_aload_n 0 dX1_closeSet_0 rfl rfl ?_
  refine go_getI gf_RX1_32 gcf_1 gft_1_1 dX1_closeSet_1 (fun v1 => ?_)
  refine go_bipush (v := 6) dX1_closeSet_4 (by decide) ?_
  refine go_icmp_ge (tgt := 45) dX1_closeSet_6 (by decide) (fun h2 => ?_) (fun h2 => ?_)
  · refine go_aload_n 0 dX1_closeSet_9 rfl rfl ?_
    refine go_getR gf_RX1_17 gcf_1 gft_1_4 dX1_closeSet_10 (fun v3 => ?_)
    refine go_bipush (v := 6) dX1_closeSet_13 (by decide) ?_
    refine go_aload_n 0 dX1_closeSet_15 rfl rfl ?_
    refine go_getI gf_RX1_32 gcf_1 gft_1_1 dX1_closeSet_16 (fun v4 => ?_)
    refine go_iadd dX1_closeSet_19 ?_
    refine go_iload_n 1 dX1_closeSet_20 rfl rfl ?_
    refine go_iastore dX1_closeSet_21 (fun s5 _ => ?_)
    refine go_aload_n 0 dX1_closeSet_22 rfl rfl ?_
    refine go_getR gf_RX1_24 gcf_1 gft_1_6 dX1_closeSet_23 (fun v6 => ?_)
    refine go_aload_n 0 dX1_closeSet_26 rfl rfl ?_
    refine go_getI gf_RX1_32 gcf_1 gft_1_1 dX1_closeSet_27 (fun v7 => ?_)
    refine go_aload_n 0 dX1_closeSet_30 rfl rfl ?_
    refine go_getI gf_RX1_35 gcf_1 gft_1_2 dX1_closeSet_31 (fun v8 => ?_)
    refine go_iastore dX1_closeSet_34 (fun s9 _ => ?_)
    refine go_aload_n 0 dX1_closeSet_35 rfl rfl ?_
    refine go_dup dX1_closeSet_36 rfl ?_
    refine go_getI gf_RX1_32 gcf_1 gft_1_1 dX1_closeSet_37 (fun v10 => ?_)
    refine go_iconst (v := 1) dX1_closeSet_40 (by decide) ?_
    refine go_iadd dX1_closeSet_41 ?_
    refine go_putI gf_RX1_32 gcf_1 gpl_1_1 gft_1_1 dX1_closeSet_42 (fun s11 _ => ?_)
    exact go_retv rfl dX1_closeSet_45
  · exact go_retv rfl dX1_closeSet_45
set_option maxRecDepth 100000 in
set_option maxHeartbeats 4000000 in
theorem cX1_closeSet_c {d : Nat} (hd : 0 ≤ d) {a0 : Nat} {x1 : Int32} {s0 : gH} {r : Unit} {s1 : gH} (h : fX1_closeSet a0 x1 s0 = some (r, s1)) : gMt mX1_closeSet d [vr a0, vi x1] s0 none s1 :=
  gMt_of (rv := rvU) (by decide +kernel) (Nat.le_of_ble_eq_true rfl) rfl (fun _ => wX1_closeSet hd) h
def fX6_setText (a0 : Nat) (s0 : gH) : Option (Unit × gH) :=
  (ggR s0 a0 6 7).bind fun v1 =>
  (ggI s0 v1 1 1).bind fun v2 =>
  if v2 < 6 then
    gb2 (gcv s0 a0 6 (fX6_advance a0 s0)) fun r4 s5 =>
    gb2 (gcv s5 a0 6 (fX6_newName a0 s5)) fun r6 s7 =>
    gb2 (gcv s7 a0 6 (fX6_isWord a0 8 s7)) fun r8 s9 =>
    gb2 (gcv s9 a0 6 (fX6_pass a0 r8 s9)) fun r10 s11 =>
    gb2 (gcv s11 a0 6 (fX6_sumTop a0 0 s11)) fun r12 s13 =>
    (ggR s13 a0 6 7).bind fun v14 =>
    gb2 (gcv s13 v14 1 (fX1_closeSet v14 r6 s13)) fun r15 s16 =>
    some ((), s16)
  else
    (ggI s0 a0 6 5).bind fun v17 =>
    gb2 (gcv s0 a0 6 (fX6_refuse a0 5 v17 s0)) fun r18 s19 =>
    some ((), s19)
set_option maxRecDepth 100000 in
set_option maxHeartbeats 4000000 in
theorem wX6_setText {X : Nat × (Nat → Int32)} {d : Nat} (hd : 44 ≤ d) {a0 : Nat} {s0 : gH} : gGo X rvU mX6_setText d 0 [(0, vr a0)] [] s0 (fX6_setText a0 s0) := by
  unfold fX6_setText
  refine go_aload_n 0 dX6_setText_0 rfl rfl ?_
  refine go_getR gf_RX6_45 gcf_6 gft_6_7 dX6_setText_1 (fun v1 => ?_)
  refine go_getI gf_RX6_191 gcf_1 gft_1_1 dX6_setText_4 (fun v2 => ?_)
  refine go_bipush (v := 6) dX6_setText_7 (by decide) ?_
  refine go_icmp_lt (tgt := 22) dX6_setText_9 (by decide) (fun h3 => ?_) (fun h3 => ?_)
  · refine go_aload_n 0 dX6_setText_22 rfl rfl ?_
    refine go_callV_v (as := []) gk_RX6_63 gmf_X6_advance (by decide) rfl (by omega) rfl rfl (Nat.le_of_ble_eq_true rfl) dX6_setText_23 (fun _ _ h => cX6_advance_c (by omega) h) (fun r4 s5 _ => ?_)
    refine go_aload_n 0 dX6_setText_26 rfl rfl ?_
    refine go_callV_I (as := []) gk_RX6_98 gmf_X6_newName (by decide) rfl (by omega) rfl rfl (Nat.le_of_ble_eq_true rfl) dX6_setText_27 (fun _ _ h => cX6_newName_c (by omega) h) (fun r6 s7 _ => ?_)
    refine go_istore_n (L' := [(1, vi r6), (0, vr a0)]) dX6_setText_30 rfl (by decide) rfl ?_
    refine go_aload_n 1 dX6_setText_31 rfl rfl ?_
    refine go_aload_n 1 dX6_setText_32 rfl rfl ?_
    refine go_ldcS (i := 8) (by decide) rfl rfl dX6_setText_33 ?_
    refine go_callV_I (as := [vr (10 + 2 * 8)]) gk_RX6_68 gmf_X6_isWord (by decide) rfl (by omega) rfl rfl (Nat.le_of_ble_eq_true rfl) dX6_setText_35 (fun _ _ h => cX6_isWord_c (by omega) h) (fun r8 s9 _ => ?_)
    refine go_callV_v (as := [vi r8]) gk_RX6_91 gmf_X6_pass (by decide) rfl (by omega) rfl rfl (Nat.le_of_ble_eq_true rfl) dX6_setText_38 (fun _ _ h => cX6_pass_c (by omega) h) (fun r10 s11 _ => ?_)
    refine go_aload_n 1 dX6_setText_41 rfl rfl ?_
    refine go_iconst (v := 0) dX6_setText_42 (by decide) ?_
    refine go_callV_v (as := [vi 0]) gk_RX6_196 gmf_X6_sumText (by decide) rfl (by omega) rfl rfl (Nat.le_of_ble_eq_true rfl) dX6_setText_43 (fun _ _ h => cX6_sumTop_c (by omega) h) (fun r12 s13 _ => ?_)
    refine go_aload_n 1 dX6_setText_46 rfl rfl ?_
    refine go_getR gf_RX6_45 gcf_6 gft_6_7 dX6_setText_47 (fun v14 => ?_)
    refine go_iload_n 0 dX6_setText_50 rfl rfl ?_
    refine go_callV_v (as := [vi r6]) gk_RX6_199 gmf_X1_closeSet (by decide) rfl (by omega) rfl rfl (Nat.le_of_ble_eq_true rfl) dX6_setText_51 (fun _ _ h => cX1_closeSet_c (by omega) h) (fun r15 s16 _ => ?_)
    exact go_retv rfl dX6_setText_54
  · refine go_aload_n 0 dX6_setText_12 rfl rfl ?_
    refine go_iconst (v := 5) dX6_setText_13 (by decide) ?_
    refine go_aload_n 0 dX6_setText_14 rfl rfl ?_
    refine go_getI gf_RX6_80 gcf_6 gft_6_5 dX6_setText_15 (fun v17 => ?_)
    refine go_callV_v (as := [vi 5, vi v17]) gk_RX6_83 gmf_X6_refuse (by decide) rfl (by omega) rfl rfl (Nat.le_of_ble_eq_true rfl) dX6_setText_18 (fun _ _ h => cX6_refuse_c (by omega) h) (fun r18 s19 _ => ?_)
    exact go_retv rfl dX6_setText_21
set_option maxRecDepth 100000 in
set_option maxHeartbeats 4000000 in
theorem cX6_setText_c {d : Nat} (hd : 44 ≤ d) {a0 : Nat} {s0 : gH} {r : Unit} {s1 : gH} (h : fX6_setText a0 s0 = some (r, s1)) : gMt mX6_setText d [vr a0] s0 none s1 :=
  gMt_of (rv := rvU) (by decide +kernel) (Nat.le_of_ble_eq_true rfl) rfl (fun _ => wX6_setText hd) h
def gX6_read_L62  (a0 : Nat) : Nat → Int32 → gH → Option (Unit × gH)
  | 0, _, _ => none
  | n + 1, x3, s0 =>
    if x3 < 1600 then
      gjn (fun (s20 : gH) =>
          gb2 (gcv s20 a0 6 (fX6_isWord a0 0 s20)) fun r21 s22 =>
          gjn (fun (s24 : gH) =>
              gb2 (gcv s24 a0 6 (fX6_isSign a0 59 s24)) fun r25 s26 =>
              gb2 (gcv s26 a0 6 (fX6_pass a0 r25 s26)) fun r27 s28 =>
              (ggI s28 a0 6 0).bind fun v29 =>
              if v29 = 0 then
                gX6_read_L62 a0 n (x3 + 1) s28
              else
                some ((), s28)
          ) fun j23 =>
          if r21 = 0 then
            gb2 (gcv s22 a0 6 (fX6_isWord a0 7 s22)) fun r32 s33 =>
            if r32 = 0 then
              (ggI s33 a0 6 5).bind fun v35 =>
              gb2 (gcv s33 a0 6 (fX6_refuse a0 1 v35 s33)) fun r36 s37 =>
              j23 s37
            else
              gb2 (gcv s33 a0 6 (fX6_setText a0 s33)) fun r38 s39 =>
              j23 s39
          else
            gb2 (gcv s22 a0 6 (fX6_ruleText a0 s22)) fun r40 s41 =>
            j23 s41
      ) fun j19 =>
      if x3 = 0 then
        j19 s0
      else
        (ggI s0 a0 6 4).bind fun v43 =>
        if v43 = 0 then
          some ((), s0)
        else
          j19 s0
    else
      some ((), s0)
set_option maxRecDepth 100000 in
set_option maxHeartbeats 4000000 in
theorem wX6_read_L62 {X : Nat × (Nat → Int32)} {d : Nat} (hd : 45 ≤ d)  (a0 : Nat) : ∀ (n : Nat) (x3 : Int32) (s0 : gH), gGo X rvU mX6_read d 62 [(0, vr a0), (3, vi x3)] [] s0 (gX6_read_L62 a0 n x3 s0) := by
  intro n
  induction n with
  | zero => intros; exact go_none
  | succ n ih =>
    intro x3 s0
    show gGo _ _ _ _ _ _ _ _ (gX6_read_L62 a0 (n + 1) x3 s0)
    unfold gX6_read_L62
    refine go_iload_n 1 dX6_read_62 rfl rfl ?_
    refine go_sipush (v := 1600) dX6_read_63 (by decide) ?_
    refine go_icmp_ge (tgt := 145) dX6_read_66 (by decide) (fun h18 => ?_) (fun h18 => ?_)
    · refine go_iload_n 1 dX6_read_69 rfl rfl ?_
      refine go_gjn (P := fun j19 => ∀ (s20 : gH), gGo X rvU mX6_read d 80 [(0, vr a0), (3, vi x3)] [] s20 (j19 s20)) (fun s20 => ?_) (fun j19 hj19 => ?_)
      · refine go_aload_n 0 dX6_read_80 rfl rfl ?_
        refine go_ldcS (i := 0) (by decide) rfl rfl dX6_read_81 ?_
        refine go_callV_I (as := [vr (10 + 2 * 0)]) gk_RX6_68 gmf_X6_isWord (by decide) rfl (by omega) rfl rfl (Nat.le_of_ble_eq_true rfl) dX6_read_83 (fun _ _ h => cX6_isWord_c (by omega) h) (fun r21 s22 _ => ?_)
        refine go_gjn (P := fun j23 => ∀ (s24 : gH), gGo X rvU mX6_read d 121 [(0, vr a0), (3, vi x3)] [] s24 (j23 s24)) (fun s24 => ?_) (fun j23 hj23 => ?_)
        · refine go_aload_n 0 dX6_read_121 rfl rfl ?_
          refine go_aload_n 0 dX6_read_122 rfl rfl ?_
          refine go_bipush (v := 59) dX6_read_123 (by decide) ?_
          refine go_callV_I (as := [vi 59]) gk_RX6_87 gmf_X6_isSign (by decide) rfl (by omega) rfl rfl (Nat.le_of_ble_eq_true rfl) dX6_read_125 (fun _ _ h => cX6_isSign_c (by omega) h) (fun r25 s26 _ => ?_)
          refine go_callV_v (as := [vi r25]) gk_RX6_91 gmf_X6_pass (by decide) rfl (by omega) rfl rfl (Nat.le_of_ble_eq_true rfl) dX6_read_128 (fun _ _ h => cX6_pass_c (by omega) h) (fun r27 s28 _ => ?_)
          refine go_aload_n 0 dX6_read_131 rfl rfl ?_
          refine go_getI gf_RX6_54 gcf_6 gft_6_0 dX6_read_132 (fun v29 => ?_)
          refine go_if_eq (tgt := 139) dX6_read_135 (by decide) (fun h30 => ?_) (fun h30 => ?_)
          · refine go_iinc (v := 1) (L' := [(3, vi (x3 + 1)), (0, vr a0)]) 1 dX6_read_139 rfl (by decide) (by decide) rfl ?_
            refine go_goto (tgt := 62) dX6_read_142 (by decide) ?_
            exact go_sub [1, 0] (ih (x3 + 1) s28) rfl
          · exact go_retv rfl dX6_read_138
        · refine go_if_eq (tgt := 96) dX6_read_86 (by decide) (fun h31 => ?_) (fun h31 => ?_)
          · refine go_aload_n 0 dX6_read_96 rfl rfl ?_
            refine go_ldcS (i := 7) (by decide) rfl rfl dX6_read_97 ?_
            refine go_callV_I (as := [vr (10 + 2 * 7)]) gk_RX6_68 gmf_X6_isWord (by decide) rfl (by omega) rfl rfl (Nat.le_of_ble_eq_true rfl) dX6_read_99 (fun _ _ h => cX6_isWord_c (by omega) h) (fun r32 s33 _ => ?_)
            refine go_if_eq (tgt := 112) dX6_read_102 (by decide) (fun h34 => ?_) (fun h34 => ?_)
            · refine go_aload_n 0 dX6_read_112 rfl rfl ?_
              refine go_iconst (v := 1) dX6_read_113 (by decide) ?_
              refine go_aload_n 0 dX6_read_114 rfl rfl ?_
              refine go_getI gf_RX6_80 gcf_6 gft_6_5 dX6_read_115 (fun v35 => ?_)
              refine go_callV_v (as := [vi 1, vi v35]) gk_RX6_83 gmf_X6_refuse (by decide) rfl (by omega) rfl rfl (Nat.le_of_ble_eq_true rfl) dX6_read_118 (fun _ _ h => cX6_refuse_c (by omega) h) (fun r36 s37 _ => ?_)
              exact go_sub [0, 1] (hj23 s37) rfl
            · refine go_aload_n 0 dX6_read_105 rfl rfl ?_
              refine go_callV_v (as := []) gk_RX6_77 gmf_X6_setText (by decide) rfl (by omega) rfl rfl (Nat.le_of_ble_eq_true rfl) dX6_read_106 (fun _ _ h => cX6_setText_c (by omega) h) (fun r38 s39 _ => ?_)
              refine go_goto (tgt := 121) dX6_read_109 (by decide) ?_
              exact go_sub [0, 1] (hj23 s39) rfl
          · refine go_aload_n 0 dX6_read_89 rfl rfl ?_
            refine go_callV_v (as := []) gk_RX6_72 gmf_X6_ruleText (by decide) rfl (by omega) rfl rfl (Nat.le_of_ble_eq_true rfl) dX6_read_90 (fun _ _ h => cX6_ruleText_c (by omega) h) (fun r40 s41 _ => ?_)
            refine go_goto (tgt := 121) dX6_read_93 (by decide) ?_
            exact go_sub [0, 1] (hj23 s41) rfl
      · refine go_if_eq (tgt := 80) dX6_read_70 (by decide) (fun h42 => ?_) (fun h42 => ?_)
        · exact go_sub [0, 1] (hj19 s0) rfl
        · refine go_aload_n 0 dX6_read_73 rfl rfl ?_
          refine go_getI gf_RX6_57 gcf_6 gft_6_4 dX6_read_74 (fun v43 => ?_)
          refine go_if_eq (tgt := 145) dX6_read_77 (by decide) (fun h44 => ?_) (fun h44 => ?_)
          · exact go_retv rfl dX6_read_145
          · exact go_sub [0, 1] (hj19 s0) rfl
    · exact go_retv rfl dX6_read_145
def fX6_read (a0 : Nat) (a1 : Nat) (a2 : Nat) (s0 : gH) : Option (Unit × gH) :=
  (ggR s0 a1 10 0).bind fun v1 =>
  (spR s0 a0 6 2 v1).bind fun s2 =>
  (ggI s2 a1 10 1).bind fun v3 =>
  (ggR s2 a0 6 2).bind fun v4 =>
  (glen s2 v4).bind fun v5 =>
  (spI s2 a0 6 3 (gmin v3 v5)).bind fun s6 =>
  (spR s6 a0 6 7 a2).bind fun s7 =>
  (ggR s7 a0 6 7).bind fun v8 =>
  gb2 (gcv s7 v8 1 (fX1_clear v8 s7)) fun r9 s10 =>
  (spI s10 a0 6 0 0).bind fun s11 =>
  (spI s11 a0 6 1 (-1)).bind fun s12 =>
  (spI s12 a0 6 4 3).bind fun s13 =>
  (spI s13 a0 6 6 0).bind fun s14 =>
  gb2 (gcv s14 a0 6 (fX6_advance a0 s14)) fun r15 s16 =>
  gX6_read_L62
    a0 20000 0 s16
set_option maxRecDepth 100000 in
set_option maxHeartbeats 4000000 in
theorem wX6_read {X : Nat × (Nat → Int32)} {d : Nat} (hd : 45 ≤ d) {a0 : Nat} {a1 : Nat} {a2 : Nat} {s0 : gH} : gGo X rvU mX6_read d 0 [(0, vr a0), (1, vr a1), (2, vr a2)] [] s0 (fX6_read a0 a1 a2 s0) := by
  unfold fX6_read
  refine go_aload_n 0 dX6_read_0 rfl rfl ?_
  refine go_aload_n 1 dX6_read_1 rfl rfl ?_
  refine go_getR gf_RX6_28 gcf_10 gft_10_0 dX6_read_2 (fun v1 => ?_)
  refine go_putR gf_RX6_15 gcf_6 gpl_6_2 (Or.inr ⟨_, rfl⟩) gft_6_2 dX6_read_5 (fun s2 _ => ?_)
  refine go_aload_n 0 dX6_read_8 rfl rfl ?_
  refine go_aload_n 1 dX6_read_9 rfl rfl ?_
  refine go_getI gf_RX6_33 gcf_10 gft_10_1 dX6_read_10 (fun v3 => ?_)
  refine go_aload_n 0 dX6_read_13 rfl rfl ?_
  refine go_getR gf_RX6_15 gcf_6 gft_6_2 dX6_read_14 (fun v4 => ?_)
  refine go_alen dX6_read_17 (fun v5 _ => ?_)
  refine go_mmin gk_RX6_36.1 gmm_min2 gmm_3 gmm_min4 (Nat.le_of_ble_eq_true rfl) dX6_read_18 ?_
  refine go_putI gf_RX6_42 gcf_6 gpl_6_3 gft_6_3 dX6_read_21 (fun s6 _ => ?_)
  refine go_aload_n 0 dX6_read_24 rfl rfl ?_
  refine go_aload_n 2 dX6_read_25 rfl rfl ?_
  refine go_putR gf_RX6_45 gcf_6 gpl_6_7 (Or.inl ⟨_, rfl⟩) gft_6_7 dX6_read_26 (fun s7 _ => ?_)
  refine go_aload_n 0 dX6_read_29 rfl rfl ?_
  refine go_getR gf_RX6_45 gcf_6 gft_6_7 dX6_read_30 (fun v8 => ?_)
  refine go_callV_v (as := []) gk_RX6_49 gmf_X1_clear (by decide) rfl (by omega) rfl rfl (Nat.le_of_ble_eq_true rfl) dX6_read_33 (fun _ _ h => cX1_clear_c (by omega) h) (fun r9 s10 _ => ?_)
  refine go_aload_n 0 dX6_read_36 rfl rfl ?_
  refine go_iconst (v := 0) dX6_read_37 (by decide) ?_
  refine go_putI gf_RX6_54 gcf_6 gpl_6_0 gft_6_0 dX6_read_38 (fun s11 _ => ?_)
  refine go_aload_n 0 dX6_read_41 rfl rfl ?_
  refine go_iconst (v := -1) dX6_read_42 (by decide) ?_
  refine go_putI gf_RX6_9 gcf_6 gpl_6_1 gft_6_1 dX6_read_43 (fun s12 _ => ?_)
  refine go_aload_n 0 dX6_read_46 rfl rfl ?_
  refine go_iconst (v := 3) dX6_read_47 (by decide) ?_
  refine go_putI gf_RX6_57 gcf_6 gpl_6_4 gft_6_4 dX6_read_48 (fun s13 _ => ?_)
  refine go_aload_n 0 dX6_read_51 rfl rfl ?_
  refine go_iconst (v := 0) dX6_read_52 (by decide) ?_
  refine go_putI gf_RX6_60 gcf_6 gpl_6_6 gft_6_6 dX6_read_53 (fun s14 _ => ?_)
  refine go_aload_n 0 dX6_read_56 rfl rfl ?_
  refine go_callV_v (as := []) gk_RX6_63 gmf_X6_advance (by decide) rfl (by omega) rfl rfl (Nat.le_of_ble_eq_true rfl) dX6_read_57 (fun _ _ h => cX6_advance_c (by omega) h) (fun r15 s16 _ => ?_)
  refine go_iconst (v := 0) dX6_read_60 (by decide) ?_
  refine go_istore_n (L' := [(3, vi 0), (0, vr a0), (1, vr a1), (2, vr a2)]) dX6_read_61 rfl (by decide) rfl ?_
  refine go_sub [1, 0] (wX6_read_L62 hd a0 20000 0 s16) rfl
set_option maxRecDepth 100000 in
set_option maxHeartbeats 4000000 in
theorem cX6_read_c {d : Nat} (hd : 45 ≤ d) {a0 : Nat} {a1 : Nat} {a2 : Nat} {s0 : gH} {r : Unit} {s1 : gH} (h : fX6_read a0 a1 a2 s0 = some (r, s1)) : gMt mX6_read d [vr a0, vr a1, vr a2] s0 none s1 :=
  gMt_of (rv := rvU) (by decide +kernel) (Nat.le_of_ble_eq_true rfl) rfl (fun _ => wX6_read hd) h
def fX4_clear (a0 : Nat) (s0 : gH) : Option (Unit × gH) :=
  (spI s0 a0 4 5 0).bind fun s1 =>
  some ((), s1)
set_option maxRecDepth 100000 in
set_option maxHeartbeats 4000000 in
theorem wX4_clear {X : Nat × (Nat → Int32)} {d : Nat} (hd : 0 ≤ d) {a0 : Nat} {s0 : gH} : gGo X rvU mX4_clear d 0 [(0, vr a0)] [] s0 (fX4_clear a0 s0) := by
  unfold fX4_clear
  refine go_aload_n 0 dX4_clear_0 rfl rfl ?_
  refine go_iconst (v := 0) dX4_clear_1 (by decide) ?_
  refine go_putI gf_RX4_30 gcf_4 gpl_4_5 gft_4_5 dX4_clear_2 (fun s1 _ => ?_)
  exact go_retv rfl dX4_clear_5
set_option maxRecDepth 100000 in
set_option maxHeartbeats 4000000 in
theorem cX4_clear_c {d : Nat} (hd : 0 ≤ d) {a0 : Nat} {s0 : gH} {r : Unit} {s1 : gH} (h : fX4_clear a0 s0 = some (r, s1)) : gMt mX4_clear d [vr a0] s0 none s1 :=
  gMt_of (rv := rvU) (by decide +kernel) (Nat.le_of_ble_eq_true rfl) rfl (fun _ => wX4_clear hd) h
def fX9_clear (a0 : Nat) (s0 : gH) : Option (Unit × gH) :=
  (spR s0 a0 9 6 0).bind fun s1 =>
  (spI s1 a0 9 8 0).bind fun s2 =>
  (spI s2 a0 9 7 0).bind fun s3 =>
  some ((), s3)
set_option maxRecDepth 100000 in
set_option maxHeartbeats 4000000 in
theorem wX9_clear {X : Nat × (Nat → Int32)} {d : Nat} (hd : 0 ≤ d) {a0 : Nat} {s0 : gH} : gGo X rvU mX9_clear d 0 [(0, vr a0)] [] s0 (fX9_clear a0 s0) := by
  unfold fX9_clear
  refine go_aload_n 0 dX9_clear_0 rfl rfl ?_
  refine go_null dX9_clear_1 ?_
  refine go_putR gf_RX9_60 gcf_9 gpl_9_6 (Or.inl ⟨_, rfl⟩) gft_9_6 dX9_clear_2 (fun s1 _ => ?_)
  refine go_aload_n 0 dX9_clear_5 rfl rfl ?_
  refine go_iconst (v := 0) dX9_clear_6 (by decide) ?_
  refine go_putI gf_RX9_70 gcf_9 gpl_9_8 gft_9_8 dX9_clear_7 (fun s2 _ => ?_)
  refine go_aload_n 0 dX9_clear_10 rfl rfl ?_
  refine go_iconst (v := 0) dX9_clear_11 (by decide) ?_
  refine go_putZ gf_RX9_71 gcf_9 gpl_9_7 gft_9_7 (by decide) dX9_clear_12 (fun s3 _ => ?_)
  exact go_retv rfl dX9_clear_15
set_option maxRecDepth 100000 in
set_option maxHeartbeats 4000000 in
theorem cX9_clear_c {d : Nat} (hd : 0 ≤ d) {a0 : Nat} {s0 : gH} {r : Unit} {s1 : gH} (h : fX9_clear a0 s0 = some (r, s1)) : gMt mX9_clear d [vr a0] s0 none s1 :=
  gMt_of (rv := rvU) (by decide +kernel) (Nat.le_of_ble_eq_true rfl) rfl (fun _ => wX9_clear hd) h
