/-! walks, written by a program -/
def fX11_book (a0 : Nat) (s0 : gH) : Option (Int32 × gH) :=
  (ggR s0 a0 11 1).bind fun v1 =>
  (ggR s0 a0 11 0).bind fun v2 =>
  (ggR s0 a0 11 8).bind fun v3 =>
  gb2 (gcv s0 v1 6 (fX6_read v1 v2 v3 s0)) fun r4 s5 =>
  (ggR s5 a0 11 0).bind fun v6 =>
  (spI s5 v6 10 1 0).bind fun s7 =>
  (ggR s7 a0 11 1).bind fun v8 =>
  (ggI s7 v8 6 0).bind fun v9 =>
  if v9 = 0 then
    (ggR s7 a0 11 8).bind fun v11 =>
    (ggR s7 a0 11 7).bind fun v12 =>
    (spR s7 a0 11 8 v12).bind fun s13 =>
    (spR s13 a0 11 7 v11).bind fun s14 =>
    (ggR s14 a0 11 3).bind fun v15 =>
    (ggR s14 a0 11 7).bind fun v16 =>
    gb2 (gcv s14 v15 5 (fX5_open v15 v16 s14)) fun r17 s18 =>
    (ggR s18 a0 11 4).bind fun v19 =>
    gb2 (gcv s18 v19 4 (fX4_clear v19 s18)) fun r20 s21 =>
    (ggR s21 a0 11 5).bind fun v22 =>
    gb2 (gcv s21 v22 9 (fX9_clear v22 s21)) fun r23 s24 =>
    (ggR s24 a0 11 7).bind fun v25 =>
    (ggI s24 v25 1 0).bind fun v26 =>
    (ggR s24 a0 11 7).bind fun v27 =>
    (ggI s24 v27 1 1).bind fun v28 =>
    some (v26 + v28, s24)
  else
    gb2 (gcv s7 a0 11 (fX11_refuse a0 1 s7)) fun r29 s30 =>
    some (r29, s30)
set_option maxRecDepth 100000 in
set_option maxHeartbeats 4000000 in
theorem wX11_book {X : Nat × (Nat → Int32)} {d : Nat} (hd : 46 ≤ d) {a0 : Nat} {s0 : gH} : gGo X rvI mX11_book d 0 [(0, vr a0)] [] s0 (fX11_book a0 s0) := by
  unfold fX11_book
  refine go_aload_n 0 dX11_book_0 rfl rfl ?_
  refine go_getR gf_RX11_19 gcf_11 gft_11_1 dX11_book_1 (fun v1 => ?_)
  refine go_aload_n 0 dX11_book_4 rfl rfl ?_
  refine go_getR gf_RX11_10 gcf_11 gft_11_0 dX11_book_5 (fun v2 => ?_)
  refine go_aload_n 0 dX11_book_8 rfl rfl ?_
  refine go_getR gf_RX11_64 gcf_11 gft_11_8 dX11_book_9 (fun v3 => ?_)
  refine go_callV_v (as := [vr v2, vr v3]) gk_RX11_90 gmf_X6_read (by decide) rfl (by omega) rfl rfl (Nat.le_of_ble_eq_true rfl) dX11_book_12 (fun _ _ h => cX6_read_c (by omega) h) (fun r4 s5 _ => ?_)
  refine go_aload_n 0 dX11_book_15 rfl rfl ?_
  refine go_getR gf_RX11_10 gcf_11 gft_11_0 dX11_book_16 (fun v6 => ?_)
  refine go_iconst (v := 0) dX11_book_19 (by decide) ?_
  refine go_putI gf_RX11_75 gcf_10 gpl_10_1 gft_10_1 dX11_book_20 (fun s7 _ => ?_)
  refine go_aload_n 0 dX11_book_23 rfl rfl ?_
  refine go_getR gf_RX11_19 gcf_11 gft_11_1 dX11_book_24 (fun v8 => ?_)
  refine go_getI gf_RX11_94 gcf_6 gft_6_0 dX11_book_27 (fun v9 => ?_)
  refine go_if_eq (tgt := 39) dX11_book_30 (by decide) (fun h10 => ?_) (fun h10 => ?_)
  · refine go_aload_n 0 dX11_book_39 rfl rfl ?_
    refine go_getR gf_RX11_64 gcf_11 gft_11_8 dX11_book_40 (fun v11 => ?_)
    refine go_astore_n (L' := [(1, vr v11), (0, vr a0)]) dX11_book_43 rfl (by decide) rfl ?_
    refine go_aload_n 1 dX11_book_44 rfl rfl ?_
    refine go_aload_n 1 dX11_book_45 rfl rfl ?_
    refine go_getR gf_RX11_60 gcf_11 gft_11_7 dX11_book_46 (fun v12 => ?_)
    refine go_putR gf_RX11_64 gcf_11 gpl_11_8 (Or.inl ⟨_, rfl⟩) gft_11_8 dX11_book_49 (fun s13 _ => ?_)
    refine go_aload_n 1 dX11_book_52 rfl rfl ?_
    refine go_aload_n 0 dX11_book_53 rfl rfl ?_
    refine go_putR gf_RX11_60 gcf_11 gpl_11_7 (Or.inl ⟨_, rfl⟩) gft_11_7 dX11_book_54 (fun s14 _ => ?_)
    refine go_aload_n 1 dX11_book_57 rfl rfl ?_
    refine go_getR gf_RX11_35 gcf_11 gft_11_3 dX11_book_58 (fun v15 => ?_)
    refine go_aload_n 1 dX11_book_61 rfl rfl ?_
    refine go_getR gf_RX11_60 gcf_11 gft_11_7 dX11_book_62 (fun v16 => ?_)
    refine go_callV_v (as := [vr v16]) gk_RX11_71 gmf_X5_open (by decide) rfl (by omega) rfl rfl (Nat.le_of_ble_eq_true rfl) dX11_book_65 (fun _ _ h => cX5_open_c (by omega) h) (fun r17 s18 _ => ?_)
    refine go_aload_n 1 dX11_book_68 rfl rfl ?_
    refine go_getR gf_RX11_42 gcf_11 gft_11_4 dX11_book_69 (fun v19 => ?_)
    refine go_callV_v (as := []) gk_RX11_97 gmf_X4_clear (by decide) rfl (by omega) rfl rfl (Nat.le_of_ble_eq_true rfl) dX11_book_72 (fun _ _ h => cX4_clear_c (by omega) h) (fun r20 s21 _ => ?_)
    refine go_aload_n 1 dX11_book_75 rfl rfl ?_
    refine go_getR gf_RX11_49 gcf_11 gft_11_5 dX11_book_76 (fun v22 => ?_)
    refine go_callV_v (as := []) gk_RX11_100 gmf_X9_clear (by decide) rfl (by omega) rfl rfl (Nat.le_of_ble_eq_true rfl) dX11_book_79 (fun _ _ h => cX9_clear_c (by omega) h) (fun r23 s24 _ => ?_)
    refine go_aload_n 1 dX11_book_82 rfl rfl ?_
    refine go_getR gf_RX11_60 gcf_11 gft_11_7 dX11_book_83 (fun v25 => ?_)
    refine go_getI gf_RX11_101 gcf_1 gft_1_0 dX11_book_86 (fun v26 => ?_)
    refine go_aload_n 1 dX11_book_89 rfl rfl ?_
    refine go_getR gf_RX11_60 gcf_11 gft_11_7 dX11_book_90 (fun v27 => ?_)
    refine go_getI gf_RX11_104 gcf_1 gft_1_1 dX11_book_93 (fun v28 => ?_)
    refine go_iadd dX11_book_96 ?_
    exact go_ret rfl dX11_book_97
  · refine go_aload_n 0 dX11_book_33 rfl rfl ?_
    refine go_iconst (v := 1) dX11_book_34 (by decide) ?_
    refine go_callV_I (as := [vi 1]) gk_RX11_78 gmf_X11_refuse (by decide) rfl (by omega) rfl rfl (Nat.le_of_ble_eq_true rfl) dX11_book_35 (fun _ _ h => cX11_refuse_c (by omega) h) (fun r29 s30 _ => ?_)
    exact go_ret rfl dX11_book_38
set_option maxRecDepth 100000 in
set_option maxHeartbeats 4000000 in
theorem cX11_book_c {d : Nat} (hd : 46 ≤ d) {a0 : Nat} {s0 : gH} {r : Int32} {s1 : gH} (h : fX11_book a0 s0 = some (r, s1)) : gMt mX11_book d [vr a0] s0 (some (vi r)) s1 :=
  gMt_of (rv := rvI) (by decide +kernel) (Nat.le_of_ble_eq_true rfl) ⟨_, rfl, rfl⟩ (fun _ => wX11_book hd) h
def gX12_isLeap (x0 : Int32) (s0 : gH) : Option (Int32 × gH) :=
  if gIrem x0 4 = 0 then
    some (1, s0)
  else
    some (0, s0)
def fX12_isLeap (x0 : Int32) (s0 : gH) : Option (Int32 × gH) := gzr (gX12_isLeap x0 s0)
set_option maxRecDepth 100000 in
set_option maxHeartbeats 4000000 in
theorem wX12_isLeap {X : Nat × (Nat → Int32)} {d : Nat} (hd : 0 ≤ d) {x0 : Int32} {s0 : gH} : gGo X rvI mX12_isLeap d 0 [(0, vi x0)] [] s0 (gX12_isLeap x0 s0) := by
  unfold gX12_isLeap
  refine go_iload_n 0 dX12_isLeap_0 rfl rfl ?_
  refine go_iconst (v := 4) dX12_isLeap_1 (by decide) ?_
  refine go_iremc dX12_isLeap_2 (by decide) ?_
  refine go_if_ne (tgt := 10) dX12_isLeap_3 (by decide) (fun h1 => ?_) (fun h1 => ?_)
  · refine go_iconst (v := 1) dX12_isLeap_6 (by decide) ?_
    refine go_goto (tgt := 11) dX12_isLeap_7 (by decide) ?_
    exact go_ret rfl dX12_isLeap_11
  · refine go_iconst (v := 0) dX12_isLeap_10 (by decide) ?_
    exact go_ret rfl dX12_isLeap_11
set_option maxRecDepth 100000 in
set_option maxHeartbeats 4000000 in
theorem cX12_isLeap_c {d : Nat} (hd : 0 ≤ d) {x0 : Int32} {s0 : gH} {r : Int32} {s1 : gH} (h : fX12_isLeap x0 s0 = some (r, s1)) : gMt mX12_isLeap d [vi x0] s0 (some (vi r)) s1 := by
  obtain ⟨h1, h2⟩ := gzr_some h
  exact gMt_of (rv := rvI) (by decide +kernel) (Nat.le_of_ble_eq_true rfl) ⟨_, rfl, gnarZ h2⟩ (fun _ => wX12_isLeap hd) h1
def fX12_longMonth (x0 : Int32) (x1 : Int32) (s0 : gH) : Option (Int32 × gH) :=
  if x1 = 2 then
    gb2 (fX12_isLeap x0 s0) fun r2 s3 =>
    if r2 = 0 then
      some (28, s3)
    else
      some (29, s3)
  else
    if x1 = 4 then
      some (30, s0)
    else
      if x1 = 6 then
        some (30, s0)
      else
        if x1 = 9 then
          some (30, s0)
        else
          if x1 = 11 then
            some (30, s0)
          else
            some (31, s0)
set_option maxRecDepth 100000 in
set_option maxHeartbeats 4000000 in
theorem wX12_longMonth {X : Nat × (Nat → Int32)} {d : Nat} (hd : 1 ≤ d) {x0 : Int32} {x1 : Int32} {s0 : gH} : gGo X rvI mX12_longMonth d 0 [(0, vi x0), (1, vi x1)] [] s0 (fX12_longMonth x0 x1 s0) := by
  unfold fX12_longMonth
  refine go_iload_n 1 dX12_longMonth_0 rfl rfl ?_
  refine go_iconst (v := 2) dX12_longMonth_1 (by decide) ?_
  refine go_icmp_ne (tgt := 22) dX12_longMonth_2 (by decide) (fun h1 => ?_) (fun h1 => ?_)
  · refine go_iload_n 0 dX12_longMonth_5 rfl rfl ?_
    refine go_callS_I (as := [vi x0]) gk_RX12_172 gmf_X12_isLeap (by omega) rfl rfl (Nat.le_of_ble_eq_true rfl) dX12_longMonth_6 (fun _ _ h => cX12_isLeap_c (by omega) h) (fun r2 s3 _ => ?_)
    refine go_if_eq (tgt := 17) dX12_longMonth_9 (by decide) (fun h4 => ?_) (fun h4 => ?_)
    · refine go_bipush (v := 28) dX12_longMonth_17 (by decide) ?_
      refine go_goto (tgt := 52) dX12_longMonth_19 (by decide) ?_
      exact go_ret rfl dX12_longMonth_52
    · refine go_bipush (v := 29) dX12_longMonth_12 (by decide) ?_
      refine go_goto (tgt := 52) dX12_longMonth_14 (by decide) ?_
      exact go_ret rfl dX12_longMonth_52
  · refine go_iload_n 1 dX12_longMonth_22 rfl rfl ?_
    refine go_iconst (v := 4) dX12_longMonth_23 (by decide) ?_
    refine go_icmp_eq (tgt := 45) dX12_longMonth_24 (by decide) (fun h5 => ?_) (fun h5 => ?_)
    · refine go_bipush (v := 30) dX12_longMonth_45 (by decide) ?_
      refine go_goto (tgt := 52) dX12_longMonth_47 (by decide) ?_
      exact go_ret rfl dX12_longMonth_52
    · refine go_iload_n 1 dX12_longMonth_27 rfl rfl ?_
      refine go_bipush (v := 6) dX12_longMonth_28 (by decide) ?_
      refine go_icmp_eq (tgt := 45) dX12_longMonth_30 (by decide) (fun h6 => ?_) (fun h6 => ?_)
      · refine go_bipush (v := 30) dX12_longMonth_45 (by decide) ?_
        refine go_goto (tgt := 52) dX12_longMonth_47 (by decide) ?_
        exact go_ret rfl dX12_longMonth_52
      · refine go_iload_n 1 dX12_longMonth_33 rfl rfl ?_
        refine go_bipush (v := 9) dX12_longMonth_34 (by decide) ?_
        refine go_icmp_eq (tgt := 45) dX12_longMonth_36 (by decide) (fun h7 => ?_) (fun h7 => ?_)
        · refine go_bipush (v := 30) dX12_longMonth_45 (by decide) ?_
          refine go_goto (tgt := 52) dX12_longMonth_47 (by decide) ?_
          exact go_ret rfl dX12_longMonth_52
        · refine go_iload_n 1 dX12_longMonth_39 rfl rfl ?_
          refine go_bipush (v := 11) dX12_longMonth_40 (by decide) ?_
          refine go_icmp_ne (tgt := 50) dX12_longMonth_42 (by decide) (fun h8 => ?_) (fun h8 => ?_)
          · refine go_bipush (v := 30) dX12_longMonth_45 (by decide) ?_
            refine go_goto (tgt := 52) dX12_longMonth_47 (by decide) ?_
            exact go_ret rfl dX12_longMonth_52
          · refine go_bipush (v := 31) dX12_longMonth_50 (by decide) ?_
            exact go_ret rfl dX12_longMonth_52
set_option maxRecDepth 100000 in
set_option maxHeartbeats 4000000 in
theorem cX12_longMonth_c {d : Nat} (hd : 1 ≤ d) {x0 : Int32} {x1 : Int32} {s0 : gH} {r : Int32} {s1 : gH} (h : fX12_longMonth x0 x1 s0 = some (r, s1)) : gMt mX12_longMonth d [vi x0, vi x1] s0 (some (vi r)) s1 :=
  gMt_of (rv := rvI) (by decide +kernel) (Nat.le_of_ble_eq_true rfl) ⟨_, rfl, rfl⟩ (fun _ => wX12_longMonth hd) h
def gX12_laysDays_L27  (a0 : Nat) : Nat → Int32 → Int32 → Int32 → Int32 → Int32 → gH → Option (Unit × gH)
  | 0, _, _, _, _, _, _ => none
  | n + 1, x1, x2, x3, x4, x5, s0 =>
    if x5 < 14610 then
      (ggR s0 a0 12 13).bind fun v6 =>
      (saI s0 v6 2 x5 x1).bind fun s7 =>
      (ggR s7 a0 12 14).bind fun v8 =>
      (saI s7 v8 2 x5 x2).bind fun s9 =>
      (ggR s9 a0 12 15).bind fun v10 =>
      (saI s9 v10 2 x5 x3).bind fun s11 =>
      (ggR s11 a0 12 16).bind fun v12 =>
      (saI s11 v12 2 x5 x4).bind fun s13 =>
      gb2 (fX12_longMonth x1 x2 s13) fun r14 s15 =>
      gjn (fun (y17 : Int32) (y18 : Int32) (s19 : gH) =>
          if 12 < y17 then
            gX12_laysDays_L27 a0 n (x1 + 1) 1 y18 1 (x5 + 1) s19
          else
            gX12_laysDays_L27 a0 n x1 y17 y18 (x4 + 1) (x5 + 1) s19
      ) fun j16 =>
      if r14 < x3 + 1 then
        j16 (x2 + 1) 1 s15
      else
        j16 x2 (x3 + 1) s15
    else
      some ((), s0)
set_option maxRecDepth 100000 in
set_option maxHeartbeats 4000000 in
theorem wX12_laysDays_L27 {X : Nat × (Nat → Int32)} {d : Nat} (hd : 2 ≤ d)  (a0 : Nat) : ∀ (n : Nat) (x1 : Int32) (x2 : Int32) (x3 : Int32) (x4 : Int32) (x5 : Int32) (s0 : gH), gGo X rvU mX12_laysDays d 27 [(0, vr a0), (1, vi x1), (2, vi x2), (3, vi x3), (4, vi x4), (5, vi x5)] [] s0 (gX12_laysDays_L27 a0 n x1 x2 x3 x4 x5 s0) := by
  intro n
  induction n with
  | zero => intros; exact go_none
  | succ n ih =>
    intro x1 x2 x3 x4 x5 s0
    show gGo _ _ _ _ _ _ _ _ (gX12_laysDays_L27 a0 (n + 1) x1 x2 x3 x4 x5 s0)
    unfold gX12_laysDays_L27
    refine go_iload 5 dX12_laysDays_27 rfl ?_
    refine go_sipush (v := 14610) dX12_laysDays_29 (by decide) ?_
    refine go_icmp_ge (tgt := 108) dX12_laysDays_32 (by decide) (fun h5 => ?_) (fun h5 => ?_)
    · refine go_aload_n 0 dX12_laysDays_35 rfl rfl ?_
      refine go_getR gf_RX12_24 gcf_12 gft_12_13 dX12_laysDays_36 (fun v6 => ?_)
      refine go_iload 5 dX12_laysDays_39 rfl ?_
      refine go_iload_n 1 dX12_laysDays_41 rfl rfl ?_
      refine go_iastore dX12_laysDays_42 (fun s7 _ => ?_)
      refine go_aload_n 0 dX12_laysDays_43 rfl rfl ?_
      refine go_getR gf_RX12_27 gcf_12 gft_12_14 dX12_laysDays_44 (fun v8 => ?_)
      refine go_iload 5 dX12_laysDays_47 rfl ?_
      refine go_iload_n 2 dX12_laysDays_49 rfl rfl ?_
      refine go_iastore dX12_laysDays_50 (fun s9 _ => ?_)
      refine go_aload_n 0 dX12_laysDays_51 rfl rfl ?_
      refine go_getR gf_RX12_30 gcf_12 gft_12_15 dX12_laysDays_52 (fun v10 => ?_)
      refine go_iload 5 dX12_laysDays_55 rfl ?_
      refine go_iload_n 3 dX12_laysDays_57 rfl rfl ?_
      refine go_iastore dX12_laysDays_58 (fun s11 _ => ?_)
      refine go_aload_n 0 dX12_laysDays_59 rfl rfl ?_
      refine go_getR gf_RX12_33 gcf_12 gft_12_16 dX12_laysDays_60 (fun v12 => ?_)
      refine go_iload 5 dX12_laysDays_63 rfl ?_
      refine go_iload 4 dX12_laysDays_65 rfl ?_
      refine go_iastore dX12_laysDays_67 (fun s13 _ => ?_)
      refine go_iinc (v := 1) (L' := [(3, vi (x3 + 1)), (0, vr a0), (1, vi x1), (2, vi x2), (4, vi x4), (5, vi x5)]) 3 dX12_laysDays_68 rfl (by decide) (by decide) rfl ?_
      refine go_iinc (v := 1) (L' := [(4, vi (x4 + 1)), (3, vi (x3 + 1)), (0, vr a0), (1, vi x1), (2, vi x2), (5, vi x5)]) 4 dX12_laysDays_71 rfl (by decide) (by decide) rfl ?_
      refine go_iload_n 1 dX12_laysDays_74 rfl rfl ?_
      refine go_iload_n 3 dX12_laysDays_75 rfl rfl ?_
      refine go_iload_n 4 dX12_laysDays_76 rfl rfl ?_
      refine go_callS_I (as := [vi x1, vi x2]) gk_RX12_179 gmf_X12_longMonth (by omega) rfl rfl (Nat.le_of_ble_eq_true rfl) dX12_laysDays_77 (fun _ _ h => cX12_longMonth_c (by omega) h) (fun r14 s15 _ => ?_)
      refine go_gjn (P := fun j16 => ∀ (y17 : Int32) (y18 : Int32) (s19 : gH), gGo X rvU mX12_laysDays d 88 [(0, vr a0), (1, vi x1), (2, vi y17), (3, vi y18), (4, vi (x4 + 1)), (5, vi x5)] [] s19 (j16 y17 y18 s19)) (fun y17 y18 s19 => ?_) (fun j16 hj16 => ?_)
      · refine go_iload_n 2 dX12_laysDays_88 rfl rfl ?_
        refine go_bipush (v := 12) dX12_laysDays_89 (by decide) ?_
        refine go_icmp_le (tgt := 102) dX12_laysDays_91 (by decide) (fun h20 => ?_) (fun h20 => ?_)
        · refine go_iconst (v := 1) dX12_laysDays_94 (by decide) ?_
          refine go_istore_n (L' := [(2, vi 1), (0, vr a0), (1, vi x1), (3, vi y18), (4, vi (x4 + 1)), (5, vi x5)]) dX12_laysDays_95 rfl (by decide) rfl ?_
          refine go_iconst (v := 1) dX12_laysDays_96 (by decide) ?_
          refine go_istore (L' := [(4, vi 1), (2, vi 1), (0, vr a0), (1, vi x1), (3, vi y18), (5, vi x5)]) dX12_laysDays_97 (by decide) rfl ?_
          refine go_iinc (v := 1) (L' := [(1, vi (x1 + 1)), (4, vi 1), (2, vi 1), (0, vr a0), (3, vi y18), (5, vi x5)]) 3 dX12_laysDays_99 rfl (by decide) (by decide) rfl ?_
          refine go_iinc (v := 1) (L' := [(5, vi (x5 + 1)), (1, vi (x1 + 1)), (4, vi 1), (2, vi 1), (0, vr a0), (3, vi y18)]) 5 dX12_laysDays_102 rfl (by decide) (by decide) rfl ?_
          refine go_goto (tgt := 27) dX12_laysDays_105 (by decide) ?_
          exact go_sub [4, 1, 3, 5, 2, 0] (ih (x1 + 1) 1 y18 1 (x5 + 1) s19) rfl
        · refine go_iinc (v := 1) (L' := [(5, vi (x5 + 1)), (0, vr a0), (1, vi x1), (2, vi y17), (3, vi y18), (4, vi (x4 + 1))]) 5 dX12_laysDays_102 rfl (by decide) (by decide) rfl ?_
          refine go_goto (tgt := 27) dX12_laysDays_105 (by decide) ?_
          exact go_sub [1, 2, 3, 4, 5, 0] (ih x1 y17 y18 (x4 + 1) (x5 + 1) s19) rfl
      · refine go_icmp_le (tgt := 88) dX12_laysDays_80 (by decide) (fun h21 => ?_) (fun h21 => ?_)
        · refine go_iconst (v := 1) dX12_laysDays_83 (by decide) ?_
          refine go_istore_n (L' := [(3, vi 1), (4, vi (x4 + 1)), (0, vr a0), (1, vi x1), (2, vi x2), (5, vi x5)]) dX12_laysDays_84 rfl (by decide) rfl ?_
          refine go_iinc (v := 1) (L' := [(2, vi (x2 + 1)), (3, vi 1), (4, vi (x4 + 1)), (0, vr a0), (1, vi x1), (5, vi x5)]) 4 dX12_laysDays_85 rfl (by decide) (by decide) rfl ?_
          exact go_sub [3, 4, 0, 1, 2, 5] (hj16 (x2 + 1) 1 s15) rfl
        · exact go_sub [2, 3, 4, 1, 0, 5] (hj16 x2 (x3 + 1) s15) rfl
    · exact go_retv rfl dX12_laysDays_108
def fX12_laysDays (a0 : Nat) (s0 : gH) : Option (Unit × gH) :=
  (ggI s0 a0 12 17).bind fun v1 =>
  if v1 = 0 then
    (spI s0 a0 12 17 1).bind fun s3 =>
    gX12_laysDays_L27
      a0 20000 2000 1 1 1 0 s3
  else
    some ((), s0)
set_option maxRecDepth 100000 in
set_option maxHeartbeats 4000000 in
theorem wX12_laysDays {X : Nat × (Nat → Int32)} {d : Nat} (hd : 2 ≤ d) {a0 : Nat} {s0 : gH} : gGo X rvU mX12_laysDays d 0 [(0, vr a0)] [] s0 (fX12_laysDays a0 s0) := by
  unfold fX12_laysDays
  refine go_aload_n 0 dX12_laysDays_0 rfl rfl ?_
  refine go_getI gf_RX12_175 gcf_12 gft_12_17 dX12_laysDays_1 (fun v1 => ?_)
  refine go_if_eq (tgt := 8) dX12_laysDays_4 (by decide) (fun h2 => ?_) (fun h2 => ?_)
  · refine go_aload_n 0 dX12_laysDays_8 rfl rfl ?_
    refine go_iconst (v := 1) dX12_laysDays_9 (by decide) ?_
    refine go_putZ gf_RX12_175 gcf_12 gpl_12_17 gft_12_17 (by decide) dX12_laysDays_10 (fun s3 _ => ?_)
    refine go_sipush (v := 2000) dX12_laysDays_13 (by decide) ?_
    refine go_istore_n (L' := [(1, vi 2000), (0, vr a0)]) dX12_laysDays_16 rfl (by decide) rfl ?_
    refine go_iconst (v := 1) dX12_laysDays_17 (by decide) ?_
    refine go_istore_n (L' := [(2, vi 1), (1, vi 2000), (0, vr a0)]) dX12_laysDays_18 rfl (by decide) rfl ?_
    refine go_iconst (v := 1) dX12_laysDays_19 (by decide) ?_
    refine go_istore_n (L' := [(3, vi 1), (2, vi 1), (1, vi 2000), (0, vr a0)]) dX12_laysDays_20 rfl (by decide) rfl ?_
    refine go_iconst (v := 1) dX12_laysDays_21 (by decide) ?_
    refine go_istore (L' := [(4, vi 1), (3, vi 1), (2, vi 1), (1, vi 2000), (0, vr a0)]) dX12_laysDays_22 (by decide) rfl ?_
    refine go_iconst (v := 0) dX12_laysDays_24 (by decide) ?_
    refine go_istore (L' := [(5, vi 0), (4, vi 1), (3, vi 1), (2, vi 1), (1, vi 2000), (0, vr a0)]) dX12_laysDays_25 (by decide) rfl ?_
    refine go_sub [5, 4, 3, 2, 1, 0] (wX12_laysDays_L27 hd a0 20000 2000 1 1 1 0 s3) rfl
  · exact go_retv rfl dX12_laysDays_7
set_option maxRecDepth 100000 in
set_option maxHeartbeats 4000000 in
theorem cX12_laysDays_c {d : Nat} (hd : 2 ≤ d) {a0 : Nat} {s0 : gH} {r : Unit} {s1 : gH} (h : fX12_laysDays a0 s0 = some (r, s1)) : gMt mX12_laysDays d [vr a0] s0 none s1 :=
  gMt_of (rv := rvU) (by decide +kernel) (Nat.le_of_ble_eq_true rfl) rfl (fun _ => wX12_laysDays hd) h
def gX12_look_L0 (k52 : gH → Option (Int32 × gH)) (a0 : Nat) : Nat → gH → Option (Int32 × gH)
  | 0, _ => none
  | n + 1, s0 =>
    (ggI s0 a0 12 2).bind fun v2 =>
    (ggI s0 a0 12 3).bind fun v3 =>
    if v2 < v3 then
      (ggR s0 a0 12 0).bind fun v5 =>
      (ggI s0 a0 12 2).bind fun v6 =>
      (gaI s0 v5 2 v6).bind fun v7 =>
      gjn (fun (s9 : gH) =>
          (ggI s9 a0 12 2).bind fun v10 =>
          (spI s9 a0 12 2 (v10 + 1)).bind fun s11 =>
          gX12_look_L0 k52 a0 n s11
      ) fun j8 =>
      if v7 = 10 then
        j8 s0
      else
        (ggR s0 a0 12 0).bind fun v13 =>
        (ggI s0 a0 12 2).bind fun v14 =>
        (gaI s0 v13 2 v14).bind fun v15 =>
        if v15 = 32 then
          j8 s0
        else
          k52 s0
    else
      k52 s0
set_option maxRecDepth 100000 in
set_option maxHeartbeats 4000000 in
theorem wX12_look_L0 {X : Nat × (Nat → Int32)} {d : Nat} (hd : 0 ≤ d) (k52 : gH → Option (Int32 × gH)) (a0 : Nat) (hk52 : ∀ (s : gH), gGo X rvI mX12_look d 52 [(0, vr a0)] [] s (k52 s)) : ∀ (n : Nat)  (s0 : gH), gGo X rvI mX12_look d 0 [(0, vr a0)] [] s0 (gX12_look_L0 k52 a0 n  s0) := by
  intro n
  induction n with
  | zero => intros; exact go_none
  | succ n ih =>
    intro  s0
    show gGo _ _ _ _ _ _ _ _ (gX12_look_L0 k52 a0 (n + 1)  s0)
    unfold gX12_look_L0
    refine go_aload_n 0 dX12_look_0 rfl rfl ?_
    refine go_getI gf_RX12_123 gcf_12 gft_12_2 dX12_look_1 (fun v2 => ?_)
    refine go_aload_n 0 dX12_look_4 rfl rfl ?_
    refine go_getI gf_RX12_126 gcf_12 gft_12_3 dX12_look_5 (fun v3 => ?_)
    refine go_icmp_ge (tgt := 52) dX12_look_8 (by decide) (fun h4 => ?_) (fun h4 => ?_)
    · refine go_aload_n 0 dX12_look_11 rfl rfl ?_
      refine go_getR gf_RX12_7 gcf_12 gft_12_0 dX12_look_12 (fun v5 => ?_)
      refine go_aload_n 0 dX12_look_15 rfl rfl ?_
      refine go_getI gf_RX12_123 gcf_12 gft_12_2 dX12_look_16 (fun v6 => ?_)
      refine go_iaload dX12_look_19 (fun v7 _ => ?_)
      refine go_bipush (v := 10) dX12_look_20 (by decide) ?_
      refine go_gjn (P := fun j8 => ∀ (s9 : gH), gGo X rvI mX12_look d 39 [(0, vr a0)] [] s9 (j8 s9)) (fun s9 => ?_) (fun j8 hj8 => ?_)
      · refine go_aload_n 0 dX12_look_39 rfl rfl ?_
        refine go_dup dX12_look_40 rfl ?_
        refine go_getI gf_RX12_123 gcf_12 gft_12_2 dX12_look_41 (fun v10 => ?_)
        refine go_iconst (v := 1) dX12_look_44 (by decide) ?_
        refine go_iadd dX12_look_45 ?_
        refine go_putI gf_RX12_123 gcf_12 gpl_12_2 gft_12_2 dX12_look_46 (fun s11 _ => ?_)
        refine go_goto (tgt := 0) dX12_look_49 (by decide) ?_
        exact go_sub [0] (ih s11) rfl
      · refine go_icmp_eq (tgt := 39) dX12_look_22 (by decide) (fun h12 => ?_) (fun h12 => ?_)
        · exact go_sub [0] (hj8 s0) rfl
        · refine go_aload_n 0 dX12_look_25 rfl rfl ?_
          refine go_getR gf_RX12_7 gcf_12 gft_12_0 dX12_look_26 (fun v13 => ?_)
          refine go_aload_n 0 dX12_look_29 rfl rfl ?_
          refine go_getI gf_RX12_123 gcf_12 gft_12_2 dX12_look_30 (fun v14 => ?_)
          refine go_iaload dX12_look_33 (fun v15 _ => ?_)
          refine go_bipush (v := 32) dX12_look_34 (by decide) ?_
          refine go_icmp_ne (tgt := 52) dX12_look_36 (by decide) (fun h16 => ?_) (fun h16 => ?_)
          · exact go_sub [0] (hj8 s0) rfl
          · exact go_sub [0] (hk52 s0) rfl
    · exact go_sub [0] (hk52 s0) rfl
def fX12_look (a0 : Nat) (s0 : gH) : Option (Int32 × gH) :=
  gX12_look_L0
    (fun s17 =>
      (ggI s17 a0 12 2).bind fun v18 =>
      (ggI s17 a0 12 3).bind fun v19 =>
      if v18 < v19 then
        (ggR s17 a0 12 0).bind fun v21 =>
        (ggI s17 a0 12 2).bind fun v22 =>
        (gaI s17 v21 2 v22).bind fun v23 =>
        some (v23, s17)
      else
        some (-1, s17))
    a0 20000 s0
set_option maxRecDepth 100000 in
set_option maxHeartbeats 4000000 in
theorem wX12_look {X : Nat × (Nat → Int32)} {d : Nat} (hd : 0 ≤ d) {a0 : Nat} {s0 : gH} : gGo X rvI mX12_look d 0 [(0, vr a0)] [] s0 (fX12_look a0 s0) := by
  unfold fX12_look
  refine go_sub [0] (wX12_look_L0 hd _ a0 ?_ 20000 s0) rfl
  intro s17
  refine go_aload_n 0 dX12_look_52 rfl rfl ?_
  refine go_getI gf_RX12_123 gcf_12 gft_12_2 dX12_look_53 (fun v18 => ?_)
  refine go_aload_n 0 dX12_look_56 rfl rfl ?_
  refine go_getI gf_RX12_126 gcf_12 gft_12_3 dX12_look_57 (fun v19 => ?_)
  refine go_icmp_ge (tgt := 75) dX12_look_60 (by decide) (fun h20 => ?_) (fun h20 => ?_)
  · refine go_aload_n 0 dX12_look_63 rfl rfl ?_
    refine go_getR gf_RX12_7 gcf_12 gft_12_0 dX12_look_64 (fun v21 => ?_)
    refine go_aload_n 0 dX12_look_67 rfl rfl ?_
    refine go_getI gf_RX12_123 gcf_12 gft_12_2 dX12_look_68 (fun v22 => ?_)
    refine go_iaload dX12_look_71 (fun v23 _ => ?_)
    refine go_goto (tgt := 76) dX12_look_72 (by decide) ?_
    exact go_ret rfl dX12_look_76
  · refine go_iconst (v := -1) dX12_look_75 (by decide) ?_
    exact go_ret rfl dX12_look_76
set_option maxRecDepth 100000 in
set_option maxHeartbeats 4000000 in
theorem cX12_look_c {d : Nat} (hd : 0 ≤ d) {a0 : Nat} {s0 : gH} {r : Int32} {s1 : gH} (h : fX12_look a0 s0 = some (r, s1)) : gMt mX12_look d [vr a0] s0 (some (vi r)) s1 :=
  gMt_of (rv := rvI) (by decide +kernel) (Nat.le_of_ble_eq_true rfl) ⟨_, rfl, rfl⟩ (fun _ => wX12_look hd) h
def fX12_fail (a0 : Nat) (x1 : Int32) (x2 : Int32) (s0 : gH) : Option (Unit × gH) :=
  (ggI s0 a0 12 5).bind fun v1 =>
  if v1 = 0 then
    (spI s0 a0 12 5 x1).bind fun s3 =>
    (spI s3 a0 12 6 x2).bind fun s4 =>
    some ((), s4)
  else
    some ((), s0)
set_option maxRecDepth 100000 in
set_option maxHeartbeats 4000000 in
theorem wX12_fail {X : Nat × (Nat → Int32)} {d : Nat} (hd : 0 ≤ d) {a0 : Nat} {x1 : Int32} {x2 : Int32} {s0 : gH} : gGo X rvU mX12_fail d 0 [(0, vr a0), (1, vi x1), (2, vi x2)] [] s0 (fX12_fail a0 x1 x2 s0) := by
  unfold fX12_fail
  refine go_aload_n 0 dX12_fail_0 rfl rfl ?_
  refine go_getI gf_RX12_117 gcf_12 gft_12_5 dX12_fail_1 (fun v1 => ?_)
  refine go_if_eq (tgt := 8) dX12_fail_4 (by decide) (fun h2 => ?_) (fun h2 => ?_)
  · refine go_aload_n 0 dX12_fail_8 rfl rfl ?_
    refine go_iload_n 1 dX12_fail_9 rfl rfl ?_
    refine go_putI gf_RX12_117 gcf_12 gpl_12_5 gft_12_5 dX12_fail_10 (fun s3 _ => ?_)
    refine go_aload_n 0 dX12_fail_13 rfl rfl ?_
    refine go_iload_n 2 dX12_fail_14 rfl rfl ?_
    refine go_putI gf_RX12_120 gcf_12 gpl_12_6 gft_12_6 dX12_fail_15 (fun s4 _ => ?_)
    exact go_retv rfl dX12_fail_18
  · exact go_retv rfl dX12_fail_7
set_option maxRecDepth 100000 in
set_option maxHeartbeats 4000000 in
theorem cX12_fail_c {d : Nat} (hd : 0 ≤ d) {a0 : Nat} {x1 : Int32} {x2 : Int32} {s0 : gH} {r : Unit} {s1 : gH} (h : fX12_fail a0 x1 x2 s0 = some (r, s1)) : gMt mX12_fail d [vr a0, vi x1, vi x2] s0 none s1 :=
  gMt_of (rv := rvU) (by decide +kernel) (Nat.le_of_ble_eq_true rfl) rfl (fun _ => wX12_fail hd) h
def gX12_isLetter (x0 : Int32) (s0 : gH) : Option (Int32 × gH) :=
  if x0 < 97 then
    some (0, s0)
  else
    if 122 < x0 then
      some (0, s0)
    else
      some (1, s0)
def fX12_isLetter (x0 : Int32) (s0 : gH) : Option (Int32 × gH) := gzr (gX12_isLetter x0 s0)
set_option maxRecDepth 100000 in
set_option maxHeartbeats 4000000 in
theorem wX12_isLetter {X : Nat × (Nat → Int32)} {d : Nat} (hd : 0 ≤ d) {x0 : Int32} {s0 : gH} : gGo X rvI mX12_isLetter d 0 [(0, vi x0)] [] s0 (gX12_isLetter x0 s0) := by
  unfold gX12_isLetter
  refine go_iload_n 0 dX12_isLetter_0 rfl rfl ?_
  refine go_bipush (v := 97) dX12_isLetter_1 (by decide) ?_
  refine go_icmp_lt (tgt := 16) dX12_isLetter_3 (by decide) (fun h1 => ?_) (fun h1 => ?_)
  · refine go_iconst (v := 0) dX12_isLetter_16 (by decide) ?_
    exact go_ret rfl dX12_isLetter_17
  · refine go_iload_n 0 dX12_isLetter_6 rfl rfl ?_
    refine go_bipush (v := 122) dX12_isLetter_7 (by decide) ?_
    refine go_icmp_gt (tgt := 16) dX12_isLetter_9 (by decide) (fun h2 => ?_) (fun h2 => ?_)
    · refine go_iconst (v := 0) dX12_isLetter_16 (by decide) ?_
      exact go_ret rfl dX12_isLetter_17
    · refine go_iconst (v := 1) dX12_isLetter_12 (by decide) ?_
      refine go_goto (tgt := 17) dX12_isLetter_13 (by decide) ?_
      exact go_ret rfl dX12_isLetter_17
set_option maxRecDepth 100000 in
set_option maxHeartbeats 4000000 in
theorem cX12_isLetter_c {d : Nat} (hd : 0 ≤ d) {x0 : Int32} {s0 : gH} {r : Int32} {s1 : gH} (h : fX12_isLetter x0 s0 = some (r, s1)) : gMt mX12_isLetter d [vi x0] s0 (some (vi r)) s1 := by
  obtain ⟨h1, h2⟩ := gzr_some h
  exact gMt_of (rv := rvI) (by decide +kernel) (Nat.le_of_ble_eq_true rfl) ⟨_, rfl, gnarZ h2⟩ (fun _ => wX12_isLetter hd) h1
def gX12_isWordHere (a0 : Nat) (s0 : gH) : Option (Int32 × gH) :=
  (ggI s0 a0 12 5).bind fun v1 =>
  if v1 = 0 then
    gb2 (gcv s0 a0 12 (fX12_look a0 s0)) fun r3 s4 =>
    gb2 (fX12_isLetter r3 s4) fun r5 s6 =>
    if r5 = 0 then
      some (0, s6)
    else
      (ggI s6 a0 12 2).bind fun v8 =>
      (ggI s6 a0 12 4).bind fun v9 =>
      if v8 = v9 then
        some (0, s6)
      else
        some (1, s6)
  else
    some (0, s0)
def fX12_isWordHere (a0 : Nat) (s0 : gH) : Option (Int32 × gH) := gzr (gX12_isWordHere a0 s0)
set_option maxRecDepth 100000 in
set_option maxHeartbeats 4000000 in
theorem wX12_isWordHere {X : Nat × (Nat → Int32)} {d : Nat} (hd : 1 ≤ d) {a0 : Nat} {s0 : gH} : gGo X rvI mX12_isWordHere d 0 [(0, vr a0)] [] s0 (gX12_isWordHere a0 s0) := by
  unfold gX12_isWordHere
  refine go_aload_n 0 dX12_isWordHere_0 rfl rfl ?_
  refine go_getI gf_RX12_117 gcf_12 gft_12_5 dX12_isWordHere_1 (fun v1 => ?_)
  refine go_if_ne (tgt := 32) dX12_isWordHere_4 (by decide) (fun h2 => ?_) (fun h2 => ?_)
  · refine go_aload_n 0 dX12_isWordHere_7 rfl rfl ?_
    refine go_callV_I (as := []) gk_RX12_129 gmf_X12_look (by decide) rfl (by omega) rfl rfl (Nat.le_of_ble_eq_true rfl) dX12_isWordHere_8 (fun _ _ h => cX12_look_c (by omega) h) (fun r3 s4 _ => ?_)
    refine go_callS_I (as := [vi r3]) gk_RX12_133 gmf_X12_isLetter (by omega) rfl rfl (Nat.le_of_ble_eq_true rfl) dX12_isWordHere_11 (fun _ _ h => cX12_isLetter_c (by omega) h) (fun r5 s6 _ => ?_)
    refine go_if_eq (tgt := 32) dX12_isWordHere_14 (by decide) (fun h7 => ?_) (fun h7 => ?_)
    · refine go_iconst (v := 0) dX12_isWordHere_32 (by decide) ?_
      exact go_ret rfl dX12_isWordHere_33
    · refine go_aload_n 0 dX12_isWordHere_17 rfl rfl ?_
      refine go_getI gf_RX12_123 gcf_12 gft_12_2 dX12_isWordHere_18 (fun v8 => ?_)
      refine go_aload_n 0 dX12_isWordHere_21 rfl rfl ?_
      refine go_getI gf_RX12_136 gcf_12 gft_12_4 dX12_isWordHere_22 (fun v9 => ?_)
      refine go_icmp_eq (tgt := 32) dX12_isWordHere_25 (by decide) (fun h10 => ?_) (fun h10 => ?_)
      · refine go_iconst (v := 0) dX12_isWordHere_32 (by decide) ?_
        exact go_ret rfl dX12_isWordHere_33
      · refine go_iconst (v := 1) dX12_isWordHere_28 (by decide) ?_
        refine go_goto (tgt := 33) dX12_isWordHere_29 (by decide) ?_
        exact go_ret rfl dX12_isWordHere_33
  · refine go_iconst (v := 0) dX12_isWordHere_32 (by decide) ?_
    exact go_ret rfl dX12_isWordHere_33
set_option maxRecDepth 100000 in
set_option maxHeartbeats 4000000 in
theorem cX12_isWordHere_c {d : Nat} (hd : 1 ≤ d) {a0 : Nat} {s0 : gH} {r : Int32} {s1 : gH} (h : fX12_isWordHere a0 s0 = some (r, s1)) : gMt mX12_isWordHere d [vr a0] s0 (some (vi r)) s1 := by
  obtain ⟨h1, h2⟩ := gzr_some h
  exact gMt_of (rv := rvI) (by decide +kernel) (Nat.le_of_ble_eq_true rfl) ⟨_, rfl, gnarZ h2⟩ (fun _ => wX12_isWordHere hd) h1
def gX12_isLike_L2  (a0 : Nat) (x1 : Int32) (x2 : Int32) : Nat → Int32 → gH → Option (Int32 × gH)
  | 0, _, _ => none
  | n + 1, x3, s0 =>
    if x3 < x2 then
      (ggR s0 a0 12 11).bind fun v3 =>
      (gaI s0 v3 1 (x1 + x3)).bind fun v4 =>
      (ggR s0 a0 12 0).bind fun v5 =>
      (ggI s0 a0 12 2).bind fun v6 =>
      (gaI s0 v5 2 (v6 + x3)).bind fun v7 =>
      if v4 = v7 then
        gX12_isLike_L2 a0 x1 x2 n (x3 + 1) s0
      else
        some (0, s0)
    else
      some (1, s0)
set_option maxRecDepth 100000 in
set_option maxHeartbeats 4000000 in
theorem wX12_isLike_L2 {X : Nat × (Nat → Int32)} {d : Nat} (hd : 0 ≤ d)  (a0 : Nat) (x1 : Int32) (x2 : Int32) : ∀ (n : Nat) (x3 : Int32) (s0 : gH), gGo X rvI mX12_isLike d 2 [(0, vr a0), (1, vi x1), (2, vi x2), (3, vi x3)] [] s0 (gX12_isLike_L2 a0 x1 x2 n x3 s0) := by
  intro n
  induction n with
  | zero => intros; exact go_none
  | succ n ih =>
    intro x3 s0
    show gGo _ _ _ _ _ _ _ _ (gX12_isLike_L2 a0 x1 x2 (n + 1) x3 s0)
    unfold gX12_isLike_L2
    refine go_iload_n 3 dX12_isLike_2 rfl rfl ?_
    refine go_iload_n 2 dX12_isLike_3 rfl rfl ?_
    refine go_icmp_ge (tgt := 37) dX12_isLike_4 (by decide) (fun h2 => ?_) (fun h2 => ?_)
    · refine go_aload_n 0 dX12_isLike_7 rfl rfl ?_
      refine go_getR gf_RX12_20 gcf_12 gft_12_11 dX12_isLike_8 (fun v3 => ?_)
      refine go_iload_n 1 dX12_isLike_11 rfl rfl ?_
      refine go_iload_n 3 dX12_isLike_12 rfl rfl ?_
      refine go_iadd dX12_isLike_13 ?_
      refine go_caload dX12_isLike_14 (fun v4 _ => ?_)
      refine go_aload_n 0 dX12_isLike_15 rfl rfl ?_
      refine go_getR gf_RX12_7 gcf_12 gft_12_0 dX12_isLike_16 (fun v5 => ?_)
      refine go_aload_n 0 dX12_isLike_19 rfl rfl ?_
      refine go_getI gf_RX12_123 gcf_12 gft_12_2 dX12_isLike_20 (fun v6 => ?_)
      refine go_iload_n 3 dX12_isLike_23 rfl rfl ?_
      refine go_iadd dX12_isLike_24 ?_
      refine go_iaload dX12_isLike_25 (fun v7 _ => ?_)
      refine go_icmp_eq (tgt := 31) dX12_isLike_26 (by decide) (fun h8 => ?_) (fun h8 => ?_)
      · refine go_iinc (v := 1) (L' := [(3, vi (x3 + 1)), (0, vr a0), (1, vi x1), (2, vi x2)]) 3 dX12_isLike_31 rfl (by decide) (by decide) rfl ?_
        refine go_goto (tgt := 2) dX12_isLike_34 (by decide) ?_
        exact go_sub [1, 2, 3, 0] (ih (x3 + 1) s0) rfl
      · refine go_iconst (v := 0) dX12_isLike_29 (by decide) ?_
        exact go_ret rfl dX12_isLike_30
    · refine go_iconst (v := 1) dX12_isLike_37 (by decide) ?_
      exact go_ret rfl dX12_isLike_38
def gX12_isLike (a0 : Nat) (x1 : Int32) (x2 : Int32) (s0 : gH) : Option (Int32 × gH) :=
  gX12_isLike_L2
    a0 x1 x2 20000 0 s0
def fX12_isLike (a0 : Nat) (x1 : Int32) (x2 : Int32) (s0 : gH) : Option (Int32 × gH) := gzr (gX12_isLike a0 x1 x2 s0)
set_option maxRecDepth 100000 in
set_option maxHeartbeats 4000000 in
theorem wX12_isLike {X : Nat × (Nat → Int32)} {d : Nat} (hd : 0 ≤ d) {a0 : Nat} {x1 : Int32} {x2 : Int32} {s0 : gH} : gGo X rvI mX12_isLike d 0 [(0, vr a0), (1, vi x1), (2, vi x2)] [] s0 (gX12_isLike a0 x1 x2 s0) := by
  unfold gX12_isLike
  refine go_iconst (v := 0) dX12_isLike_0 (by decide) ?_
  refine go_istore_n (L' := [(3, vi 0), (0, vr a0), (1, vi x1), (2, vi x2)]) dX12_isLike_1 rfl (by decide) rfl ?_
  refine go_sub [1, 2, 3, 0] (wX12_isLike_L2 hd a0 x1 x2 20000 0 s0) rfl
set_option maxRecDepth 100000 in
set_option maxHeartbeats 4000000 in
theorem cX12_isLike_c {d : Nat} (hd : 0 ≤ d) {a0 : Nat} {x1 : Int32} {x2 : Int32} {s0 : gH} {r : Int32} {s1 : gH} (h : fX12_isLike a0 x1 x2 s0 = some (r, s1)) : gMt mX12_isLike d [vr a0, vi x1, vi x2] s0 (some (vi r)) s1 := by
  obtain ⟨h1, h2⟩ := gzr_some h
  exact gMt_of (rv := rvI) (by decide +kernel) (Nat.le_of_ble_eq_true rfl) ⟨_, rfl, gnarZ h2⟩ (fun _ => wX12_isLike hd) h1
def gX12_ownHere_L11 (k47 : Int32 → gH → Option (Int32 × gH)) (a0 : Nat) : Nat → Int32 → gH → Option (Int32 × gH)
  | 0, _, _ => none
  | n + 1, x1, s0 =>
    (ggI s0 a0 12 2).bind fun v5 =>
    (ggI s0 a0 12 3).bind fun v6 =>
    if v5 + x1 < v6 then
      (ggR s0 a0 12 0).bind fun v8 =>
      (ggI s0 a0 12 2).bind fun v9 =>
      (gaI s0 v8 2 (v9 + x1)).bind fun v10 =>
      gb2 (fX12_isLetter v10 s0) fun r11 s12 =>
      if r11 = 0 then
        k47 x1 s12
      else
        gX12_ownHere_L11 k47 a0 n (x1 + 1) s12
    else
      k47 x1 s0
set_option maxRecDepth 100000 in
set_option maxHeartbeats 4000000 in
theorem wX12_ownHere_L11 {X : Nat × (Nat → Int32)} {d : Nat} (hd : 2 ≤ d) (k47 : Int32 → gH → Option (Int32 × gH)) (a0 : Nat) (hk47 : ∀ (x1 : Int32) (s : gH), gGo X rvI mX12_ownHere d 47 [(0, vr a0), (1, vi x1)] [] s (k47 x1 s)) : ∀ (n : Nat) (x1 : Int32) (s0 : gH), gGo X rvI mX12_ownHere d 11 [(0, vr a0), (1, vi x1)] [] s0 (gX12_ownHere_L11 k47 a0 n x1 s0) := by
  intro n
  induction n with
  | zero => intros; exact go_none
  | succ n ih =>
    intro x1 s0
    show gGo _ _ _ _ _ _ _ _ (gX12_ownHere_L11 k47 a0 (n + 1) x1 s0)
    unfold gX12_ownHere_L11
    refine go_aload_n 0 dX12_ownHere_11 rfl rfl ?_
    refine go_getI gf_RX12_123 gcf_12 gft_12_2 dX12_ownHere_12 (fun v5 => ?_)
    refine go_iload_n 1 dX12_ownHere_15 rfl rfl ?_
    refine go_iadd dX12_ownHere_16 ?_
    refine go_aload_n 0 dX12_ownHere_17 rfl rfl ?_
    refine go_getI gf_RX12_126 gcf_12 gft_12_3 dX12_ownHere_18 (fun v6 => ?_)
    refine go_icmp_ge (tgt := 47) dX12_ownHere_21 (by decide) (fun h7 => ?_) (fun h7 => ?_)
    · refine go_aload_n 0 dX12_ownHere_24 rfl rfl ?_
      refine go_getR gf_RX12_7 gcf_12 gft_12_0 dX12_ownHere_25 (fun v8 => ?_)
      refine go_aload_n 0 dX12_ownHere_28 rfl rfl ?_
      refine go_getI gf_RX12_123 gcf_12 gft_12_2 dX12_ownHere_29 (fun v9 => ?_)
      refine go_iload_n 1 dX12_ownHere_32 rfl rfl ?_
      refine go_iadd dX12_ownHere_33 ?_
      refine go_iaload dX12_ownHere_34 (fun v10 _ => ?_)
      refine go_callS_I (as := [vi v10]) gk_RX12_133 gmf_X12_isLetter (by omega) rfl rfl (Nat.le_of_ble_eq_true rfl) dX12_ownHere_35 (fun _ _ h => cX12_isLetter_c (by omega) h) (fun r11 s12 _ => ?_)
      refine go_if_eq (tgt := 47) dX12_ownHere_38 (by decide) (fun h13 => ?_) (fun h13 => ?_)
      · exact go_sub [0, 1] (hk47 x1 s12) rfl
      · refine go_iinc (v := 1) (L' := [(1, vi (x1 + 1)), (0, vr a0)]) 1 dX12_ownHere_41 rfl (by decide) (by decide) rfl ?_
        refine go_goto (tgt := 11) dX12_ownHere_44 (by decide) ?_
        exact go_sub [1, 0] (ih (x1 + 1) s12) rfl
    · exact go_sub [0, 1] (hk47 x1 s0) rfl
def gX12_ownHere_L54  (a0 : Nat) (x1 : Int32) : Nat → Int32 → Int32 → Int32 → gH → Option (Int32 × gH)
  | 0, _, _, _, _ => none
  | n + 1, x2, x3, x4, s0 =>
    (ggR s0 a0 12 11).bind fun v17 =>
    (glen s0 v17).bind fun v18 =>
    if x4 < v18 then
      (ggR s0 a0 12 11).bind fun v20 =>
      (gaI s0 v20 1 x4).bind fun v21 =>
      if v21 = 32 then
        gjn (fun (s24 : gH) =>
            glet (x4 + 1) fun y25 =>
            gX12_ownHere_L54 a0 x1 n (x2 + 1) y25 (x4 + 1) s24
        ) fun j23 =>
        if x4 - x3 = x1 then
          gb2 (gcv s0 a0 12 (fX12_isLike a0 x3 x1 s0)) fun r27 s28 =>
          if r27 = 0 then
            j23 s28
          else
            some (x2, s28)
        else
          j23 s0
      else
        gX12_ownHere_L54 a0 x1 n x2 x3 (x4 + 1) s0
    else
      some (-1, s0)
set_option maxRecDepth 100000 in
set_option maxHeartbeats 4000000 in
theorem wX12_ownHere_L54 {X : Nat × (Nat → Int32)} {d : Nat} (hd : 2 ≤ d)  (a0 : Nat) (x1 : Int32) : ∀ (n : Nat) (x2 : Int32) (x3 : Int32) (x4 : Int32) (s0 : gH), gGo X rvI mX12_ownHere d 54 [(0, vr a0), (1, vi x1), (2, vi x2), (3, vi x3), (4, vi x4)] [] s0 (gX12_ownHere_L54 a0 x1 n x2 x3 x4 s0) := by
  intro n
  induction n with
  | zero => intros; exact go_none
  | succ n ih =>
    intro x2 x3 x4 s0
    show gGo _ _ _ _ _ _ _ _ (gX12_ownHere_L54 a0 x1 (n + 1) x2 x3 x4 s0)
    unfold gX12_ownHere_L54
    refine go_iload 4 dX12_ownHere_54 rfl ?_
    refine go_aload_n 0 dX12_ownHere_56 rfl rfl ?_
    refine go_getR gf_RX12_20 gcf_12 gft_12_11 dX12_ownHere_57 (fun v17 => ?_)
    refine go_alen dX12_ownHere_60 (fun v18 _ => ?_)
    refine go_icmp_ge (tgt := 109) dX12_ownHere_61 (by decide) (fun h19 => ?_) (fun h19 => ?_)
    · refine go_aload_n 0 dX12_ownHere_64 rfl rfl ?_
      refine go_getR gf_RX12_20 gcf_12 gft_12_11 dX12_ownHere_65 (fun v20 => ?_)
      refine go_iload 4 dX12_ownHere_68 rfl ?_
      refine go_caload dX12_ownHere_70 (fun v21 _ => ?_)
      refine go_bipush (v := 32) dX12_ownHere_71 (by decide) ?_
      refine go_icmp_ne (tgt := 103) dX12_ownHere_73 (by decide) (fun h22 => ?_) (fun h22 => ?_)
      · refine go_iload 4 dX12_ownHere_76 rfl ?_
        refine go_iload_n 3 dX12_ownHere_78 rfl rfl ?_
        refine go_isub dX12_ownHere_79 ?_
        refine go_iload_n 1 dX12_ownHere_80 rfl rfl ?_
        refine go_gjn (P := fun j23 => ∀ (s24 : gH), gGo X rvI mX12_ownHere d 95 [(0, vr a0), (1, vi x1), (2, vi x2), (4, vi x4)] [] s24 (j23 s24)) (fun s24 => ?_) (fun j23 hj23 => ?_)
        · refine go_iinc (v := 1) (L' := [(2, vi (x2 + 1)), (0, vr a0), (1, vi x1), (4, vi x4)]) 2 dX12_ownHere_95 rfl (by decide) (by decide) rfl ?_
          refine go_iload 3 dX12_ownHere_98 rfl ?_
          refine go_iconst (v := 1) dX12_ownHere_100 (by decide) ?_
          refine go_iadd dX12_ownHere_101 ?_
          refine go_istore_n_l (L' := fun y25 => [(3, vi y25), (2, vi (x2 + 1)), (0, vr a0), (1, vi x1), (4, vi x4)]) dX12_ownHere_102 rfl (by decide) (fun _ => rfl) (fun y25 => ?_)
          refine go_iinc (v := 1) (L' := [(4, vi (x4 + 1)), (3, vi y25), (2, vi (x2 + 1)), (0, vr a0), (1, vi x1)]) 4 dX12_ownHere_103 rfl (by decide) (by decide) rfl ?_
          refine go_goto (tgt := 54) dX12_ownHere_106 (by decide) ?_
          exact go_sub [3, 4, 2, 1, 0] (ih (x2 + 1) y25 (x4 + 1) s24) rfl
        · refine go_icmp_ne (tgt := 95) dX12_ownHere_81 (by decide) (fun h26 => ?_) (fun h26 => ?_)
          · refine go_aload_n 0 dX12_ownHere_84 rfl rfl ?_
            refine go_iload_n 3 dX12_ownHere_85 rfl rfl ?_
            refine go_iload_n 1 dX12_ownHere_86 rfl rfl ?_
            refine go_callV_I (as := [vi x3, vi x1]) gk_RX12_156 gmf_X12_isLike (by decide) rfl (by omega) rfl rfl (Nat.le_of_ble_eq_true rfl) dX12_ownHere_87 (fun _ _ h => cX12_isLike_c (by omega) h) (fun r27 s28 _ => ?_)
            refine go_if_eq (tgt := 95) dX12_ownHere_90 (by decide) (fun h29 => ?_) (fun h29 => ?_)
            · exact go_sub [0, 1, 2, 4] (hj23 s28) rfl
            · refine go_iload_n 2 dX12_ownHere_93 rfl rfl ?_
              exact go_ret rfl dX12_ownHere_94
          · exact go_sub [0, 1, 2, 4] (hj23 s0) rfl
      · refine go_iinc (v := 1) (L' := [(4, vi (x4 + 1)), (0, vr a0), (1, vi x1), (2, vi x2), (3, vi x3)]) 4 dX12_ownHere_103 rfl (by decide) (by decide) rfl ?_
        refine go_goto (tgt := 54) dX12_ownHere_106 (by decide) ?_
        exact go_sub [1, 2, 3, 4, 0] (ih x2 x3 (x4 + 1) s0) rfl
    · refine go_iconst (v := -1) dX12_ownHere_109 (by decide) ?_
      exact go_ret rfl dX12_ownHere_110
def fX12_ownHere (a0 : Nat) (s0 : gH) : Option (Int32 × gH) :=
  gb2 (gcv s0 a0 12 (fX12_isWordHere a0 s0)) fun r1 s2 =>
  if r1 = 0 then
    some (-1, s2)
  else
    gX12_ownHere_L11
      (fun y14 s15 =>
        gX12_ownHere_L54
          a0 y14 20000 0 0 0 s15)
      a0 20000 0 s2
set_option maxRecDepth 100000 in
set_option maxHeartbeats 4000000 in
theorem wX12_ownHere {X : Nat × (Nat → Int32)} {d : Nat} (hd : 2 ≤ d) {a0 : Nat} {s0 : gH} : gGo X rvI mX12_ownHere d 0 [(0, vr a0)] [] s0 (fX12_ownHere a0 s0) := by
  unfold fX12_ownHere
  refine go_aload_n 0 dX12_ownHere_0 rfl rfl ?_
  refine go_callV_I (as := []) gk_RX12_152 gmf_X12_isWordHere (by decide) rfl (by omega) rfl rfl (Nat.le_of_ble_eq_true rfl) dX12_ownHere_1 (fun _ _ h => cX12_isWordHere_c (by omega) h) (fun r1 s2 _ => ?_)
  refine go_if_ne (tgt := 9) dX12_ownHere_4 (by decide) (fun h3 => ?_) (fun h3 => ?_)
  · refine go_iconst (v := -1) dX12_ownHere_7 (by decide) ?_
    exact go_ret rfl dX12_ownHere_8
  · refine go_iconst (v := 0) dX12_ownHere_9 (by decide) ?_
    refine go_istore_n (L' := [(1, vi 0), (0, vr a0)]) dX12_ownHere_10 rfl (by decide) rfl ?_
    refine go_sub [1, 0] (wX12_ownHere_L11 hd _ a0 ?_ 20000 0 s2) rfl
    intro y14 s15
    refine go_iconst (v := 0) dX12_ownHere_47 (by decide) ?_
    refine go_istore_n (L' := [(2, vi 0), (0, vr a0), (1, vi y14)]) dX12_ownHere_48 rfl (by decide) rfl ?_
    refine go_iconst (v := 0) dX12_ownHere_49 (by decide) ?_
    refine go_istore_n (L' := [(3, vi 0), (2, vi 0), (0, vr a0), (1, vi y14)]) dX12_ownHere_50 rfl (by decide) rfl ?_
    refine go_iconst (v := 0) dX12_ownHere_51 (by decide) ?_
    refine go_istore (L' := [(4, vi 0), (3, vi 0), (2, vi 0), (0, vr a0), (1, vi y14)]) dX12_ownHere_52 (by decide) rfl ?_
    refine go_sub [3, 4, 2, 1, 0] (wX12_ownHere_L54 hd a0 y14 20000 0 0 0 s15) rfl
set_option maxRecDepth 100000 in
set_option maxHeartbeats 4000000 in
theorem cX12_ownHere_c {d : Nat} (hd : 2 ≤ d) {a0 : Nat} {s0 : gH} {r : Int32} {s1 : gH} (h : fX12_ownHere a0 s0 = some (r, s1)) : gMt mX12_ownHere d [vr a0] s0 (some (vi r)) s1 :=
  gMt_of (rv := rvI) (by decide +kernel) (Nat.le_of_ble_eq_true rfl) ⟨_, rfl, rfl⟩ (fun _ => wX12_ownHere hd) h
def gX12_passes_L0  (a0 : Nat) : Nat → gH → Option (Unit × gH)
  | 0, _ => none
  | n + 1, s0 =>
    (ggI s0 a0 12 2).bind fun v2 =>
    (ggI s0 a0 12 3).bind fun v3 =>
    if v2 < v3 then
      (ggR s0 a0 12 0).bind fun v5 =>
      (ggI s0 a0 12 2).bind fun v6 =>
      (gaI s0 v5 2 v6).bind fun v7 =>
      gb2 (fX12_isLetter v7 s0) fun r8 s9 =>
      if r8 = 0 then
        (ggI s9 a0 12 2).bind fun v11 =>
        (spI s9 a0 12 4 v11).bind fun s12 =>
        some ((), s12)
      else
        (ggI s9 a0 12 2).bind fun v13 =>
        (spI s9 a0 12 2 (v13 + 1)).bind fun s14 =>
        gX12_passes_L0 a0 n s14
    else
      (ggI s0 a0 12 2).bind fun v15 =>
      (spI s0 a0 12 4 v15).bind fun s16 =>
      some ((), s16)
set_option maxRecDepth 100000 in
set_option maxHeartbeats 4000000 in
theorem wX12_passes_L0 {X : Nat × (Nat → Int32)} {d : Nat} (hd : 1 ≤ d)  (a0 : Nat) : ∀ (n : Nat)  (s0 : gH), gGo X rvU mX12_passes d 0 [(0, vr a0)] [] s0 (gX12_passes_L0 a0 n  s0) := by
  intro n
  induction n with
  | zero => intros; exact go_none
  | succ n ih =>
    intro  s0
    show gGo _ _ _ _ _ _ _ _ (gX12_passes_L0 a0 (n + 1)  s0)
    unfold gX12_passes_L0
    refine go_aload_n 0 dX12_passes_0 rfl rfl ?_
    refine go_getI gf_RX12_123 gcf_12 gft_12_2 dX12_passes_1 (fun v2 => ?_)
    refine go_aload_n 0 dX12_passes_4 rfl rfl ?_
    refine go_getI gf_RX12_126 gcf_12 gft_12_3 dX12_passes_5 (fun v3 => ?_)
    refine go_icmp_ge (tgt := 39) dX12_passes_8 (by decide) (fun h4 => ?_) (fun h4 => ?_)
    · refine go_aload_n 0 dX12_passes_11 rfl rfl ?_
      refine go_getR gf_RX12_7 gcf_12 gft_12_0 dX12_passes_12 (fun v5 => ?_)
      refine go_aload_n 0 dX12_passes_15 rfl rfl ?_
      refine go_getI gf_RX12_123 gcf_12 gft_12_2 dX12_passes_16 (fun v6 => ?_)
      refine go_iaload dX12_passes_19 (fun v7 _ => ?_)
      refine go_callS_I (as := [vi v7]) gk_RX12_133 gmf_X12_isLetter (by omega) rfl rfl (Nat.le_of_ble_eq_true rfl) dX12_passes_20 (fun _ _ h => cX12_isLetter_c (by omega) h) (fun r8 s9 _ => ?_)
      refine go_if_eq (tgt := 39) dX12_passes_23 (by decide) (fun h10 => ?_) (fun h10 => ?_)
      · refine go_aload_n 0 dX12_passes_39 rfl rfl ?_
        refine go_aload_n 0 dX12_passes_40 rfl rfl ?_
        refine go_getI gf_RX12_123 gcf_12 gft_12_2 dX12_passes_41 (fun v11 => ?_)
        refine go_putI gf_RX12_136 gcf_12 gpl_12_4 gft_12_4 dX12_passes_44 (fun s12 _ => ?_)
        exact go_retv rfl dX12_passes_47
      · refine go_aload_n 0 dX12_passes_26 rfl rfl ?_
        refine go_dup dX12_passes_27 rfl ?_
        refine go_getI gf_RX12_123 gcf_12 gft_12_2 dX12_passes_28 (fun v13 => ?_)
        refine go_iconst (v := 1) dX12_passes_31 (by decide) ?_
        refine go_iadd dX12_passes_32 ?_
        refine go_putI gf_RX12_123 gcf_12 gpl_12_2 gft_12_2 dX12_passes_33 (fun s14 _ => ?_)
        refine go_goto (tgt := 0) dX12_passes_36 (by decide) ?_
        exact go_sub [0] (ih s14) rfl
    · refine go_aload_n 0 dX12_passes_39 rfl rfl ?_
      refine go_aload_n 0 dX12_passes_40 rfl rfl ?_
      refine go_getI gf_RX12_123 gcf_12 gft_12_2 dX12_passes_41 (fun v15 => ?_)
      refine go_putI gf_RX12_136 gcf_12 gpl_12_4 gft_12_4 dX12_passes_44 (fun s16 _ => ?_)
      exact go_retv rfl dX12_passes_47
def fX12_passes (a0 : Nat) (s0 : gH) : Option (Unit × gH) :=
  gX12_passes_L0
    a0 20000 s0
set_option maxRecDepth 100000 in
set_option maxHeartbeats 4000000 in
theorem wX12_passes {X : Nat × (Nat → Int32)} {d : Nat} (hd : 1 ≤ d) {a0 : Nat} {s0 : gH} : gGo X rvU mX12_passes d 0 [(0, vr a0)] [] s0 (fX12_passes a0 s0) := by
  unfold fX12_passes
  refine go_sub [0] (wX12_passes_L0 hd a0 20000 s0) rfl
set_option maxRecDepth 100000 in
set_option maxHeartbeats 4000000 in
theorem cX12_passes_c {d : Nat} (hd : 1 ≤ d) {a0 : Nat} {s0 : gH} {r : Unit} {s1 : gH} (h : fX12_passes a0 s0 = some (r, s1)) : gMt mX12_passes d [vr a0] s0 none s1 :=
  gMt_of (rv := rvU) (by decide +kernel) (Nat.le_of_ble_eq_true rfl) rfl (fun _ => wX12_passes hd) h
def gX12_takes (a0 : Nat) (x1 : Int32) (s0 : gH) : Option (Int32 × gH) :=
  gb2 (gcv s0 a0 12 (fX12_ownHere a0 s0)) fun r1 s2 =>
  if r1 = x1 then
    gb2 (gcv s2 a0 12 (fX12_passes a0 s2)) fun r4 s5 =>
    some (1, s5)
  else
    some (0, s2)
def fX12_takes (a0 : Nat) (x1 : Int32) (s0 : gH) : Option (Int32 × gH) := gzr (gX12_takes a0 x1 s0)
set_option maxRecDepth 100000 in
set_option maxHeartbeats 4000000 in
theorem wX12_takes {X : Nat × (Nat → Int32)} {d : Nat} (hd : 3 ≤ d) {a0 : Nat} {x1 : Int32} {s0 : gH} : gGo X rvI mX12_takes d 0 [(0, vr a0), (1, vi x1)] [] s0 (gX12_takes a0 x1 s0) := by
  unfold gX12_takes
  refine go_aload_n 0 dX12_takes_0 rfl rfl ?_
  refine go_callV_I (as := []) gk_RX12_160 gmf_X12_ownHere (by decide) rfl (by omega) rfl rfl (Nat.le_of_ble_eq_true rfl) dX12_takes_1 (fun _ _ h => cX12_ownHere_c (by omega) h) (fun r1 s2 _ => ?_)
  refine go_iload_n 1 dX12_takes_4 rfl rfl ?_
  refine go_icmp_eq (tgt := 10) dX12_takes_5 (by decide) (fun h3 => ?_) (fun h3 => ?_)
  · refine go_aload_n 0 dX12_takes_10 rfl rfl ?_
    refine go_callV_v (as := []) gk_RX12_163 gmf_X12_passes (by decide) rfl (by omega) rfl rfl (Nat.le_of_ble_eq_true rfl) dX12_takes_11 (fun _ _ h => cX12_passes_c (by omega) h) (fun r4 s5 _ => ?_)
    refine go_iconst (v := 1) dX12_takes_14 (by decide) ?_
    exact go_ret rfl dX12_takes_15
  · refine go_iconst (v := 0) dX12_takes_8 (by decide) ?_
    exact go_ret rfl dX12_takes_9
set_option maxRecDepth 100000 in
set_option maxHeartbeats 4000000 in
theorem cX12_takes_c {d : Nat} (hd : 3 ≤ d) {a0 : Nat} {x1 : Int32} {s0 : gH} {r : Int32} {s1 : gH} (h : fX12_takes a0 x1 s0 = some (r, s1)) : gMt mX12_takes d [vr a0, vi x1] s0 (some (vi r)) s1 := by
  obtain ⟨h1, h2⟩ := gzr_some h
  exact gMt_of (rv := rvI) (by decide +kernel) (Nat.le_of_ble_eq_true rfl) ⟨_, rfl, gnarZ h2⟩ (fun _ => wX12_takes hd) h1
def fX12_ruleAt (x0 : Int32) (x1 : Int32) (s0 : gH) : Option (Int32 × gH) :=
  some ((2 + (42 * x0)) + x1, s0)
set_option maxRecDepth 100000 in
set_option maxHeartbeats 4000000 in
theorem wX12_ruleAt {X : Nat × (Nat → Int32)} {d : Nat} (hd : 0 ≤ d) {x0 : Int32} {x1 : Int32} {s0 : gH} : gGo X rvI mX12_ruleAt d 0 [(0, vi x0), (1, vi x1)] [] s0 (fX12_ruleAt x0 x1 s0) := by
  unfold fX12_ruleAt
  refine go_iconst (v := 2) dX12_ruleAt_0 (by decide) ?_
  refine go_bipush (v := 42) dX12_ruleAt_1 (by decide) ?_
  refine go_iload_n 0 dX12_ruleAt_3 rfl rfl ?_
  refine go_imul dX12_ruleAt_4 ?_
  refine go_iadd dX12_ruleAt_5 ?_
  refine go_iload_n 1 dX12_ruleAt_6 rfl rfl ?_
  refine go_iadd dX12_ruleAt_7 ?_
  exact go_ret rfl dX12_ruleAt_8
set_option maxRecDepth 100000 in
set_option maxHeartbeats 4000000 in
theorem cX12_ruleAt_c {d : Nat} (hd : 0 ≤ d) {x0 : Int32} {x1 : Int32} {s0 : gH} {r : Int32} {s1 : gH} (h : fX12_ruleAt x0 x1 s0 = some (r, s1)) : gMt mX12_ruleAt d [vi x0, vi x1] s0 (some (vi r)) s1 :=
  gMt_of (rv := rvI) (by decide +kernel) (Nat.le_of_ble_eq_true rfl) ⟨_, rfl, rfl⟩ (fun _ => wX12_ruleAt hd) h
def gX12_name_L60 (k100 : gH → Option (Int32 × gH)) (a0 : Nat) : Nat → Int32 → gH → Option (Int32 × gH)
  | 0, _, _ => none
  | n + 1, x1, s0 =>
    (ggI s0 a0 12 2).bind fun v26 =>
    (ggI s0 a0 12 3).bind fun v27 =>
    if v26 < v27 then
      (ggR s0 a0 12 0).bind fun v29 =>
      (ggI s0 a0 12 2).bind fun v30 =>
      (gaI s0 v29 2 v30).bind fun v31 =>
      gb2 (fX12_isLetter v31 s0) fun r32 s33 =>
      if r32 = 0 then
        (ggI s33 a0 12 2).bind fun v35 =>
        (spI s33 a0 12 4 v35).bind fun s36 =>
        some (x1, s36)
      else
        (ggI s33 a0 12 2).bind fun v37 =>
        (ggI s33 a0 12 12).bind fun v38 =>
        if v37 - v38 = 6 then
          k100 s33
        else
          (ggR s33 a0 12 0).bind fun v40 =>
          (ggI s33 a0 12 2).bind fun v41 =>
          (gaI s33 v40 2 v41).bind fun v42 =>
          glet ((((27 * x1) + v42) - 97) + 1) fun y43 =>
          (ggI s33 a0 12 2).bind fun v44 =>
          (spI s33 a0 12 2 (v44 + 1)).bind fun s45 =>
          gX12_name_L60 k100 a0 n y43 s45
    else
      (ggI s0 a0 12 2).bind fun v46 =>
      (spI s0 a0 12 4 v46).bind fun s47 =>
      some (x1, s47)
set_option maxRecDepth 100000 in
set_option maxHeartbeats 4000000 in
theorem wX12_name_L60 {X : Nat × (Nat → Int32)} {d : Nat} (hd : 3 ≤ d) (k100 : gH → Option (Int32 × gH)) (a0 : Nat) (hk100 : ∀ (s : gH), gGo X rvI mX12_name d 100 [(0, vr a0)] [] s (k100 s)) : ∀ (n : Nat) (x1 : Int32) (s0 : gH), gGo X rvI mX12_name d 60 [(0, vr a0), (1, vi x1)] [] s0 (gX12_name_L60 k100 a0 n x1 s0) := by
  intro n
  induction n with
  | zero => intros; exact go_none
  | succ n ih =>
    intro x1 s0
    show gGo _ _ _ _ _ _ _ _ (gX12_name_L60 k100 a0 (n + 1) x1 s0)
    unfold gX12_name_L60
    refine go_aload_n 0 dX12_name_60 rfl rfl ?_
    refine go_getI gf_RX12_123 gcf_12 gft_12_2 dX12_name_61 (fun v26 => ?_)
    refine go_aload_n 0 dX12_name_64 rfl rfl ?_
    refine go_getI gf_RX12_126 gcf_12 gft_12_3 dX12_name_65 (fun v27 => ?_)
    refine go_icmp_ge (tgt := 144) dX12_name_68 (by decide) (fun h28 => ?_) (fun h28 => ?_)
    · refine go_aload_n 0 dX12_name_71 rfl rfl ?_
      refine go_getR gf_RX12_7 gcf_12 gft_12_0 dX12_name_72 (fun v29 => ?_)
      refine go_aload_n 0 dX12_name_75 rfl rfl ?_
      refine go_getI gf_RX12_123 gcf_12 gft_12_2 dX12_name_76 (fun v30 => ?_)
      refine go_iaload dX12_name_79 (fun v31 _ => ?_)
      refine go_callS_I (as := [vi v31]) gk_RX12_133 gmf_X12_isLetter (by omega) rfl rfl (Nat.le_of_ble_eq_true rfl) dX12_name_80 (fun _ _ h => cX12_isLetter_c (by omega) h) (fun r32 s33 _ => ?_)
      refine go_if_eq (tgt := 144) dX12_name_83 (by decide) (fun h34 => ?_) (fun h34 => ?_)
      · refine go_aload_n 0 dX12_name_144 rfl rfl ?_
        refine go_aload_n 0 dX12_name_145 rfl rfl ?_
        refine go_getI gf_RX12_123 gcf_12 gft_12_2 dX12_name_146 (fun v35 => ?_)
        refine go_putI gf_RX12_136 gcf_12 gpl_12_4 gft_12_4 dX12_name_149 (fun s36 _ => ?_)
        refine go_iload_n 1 dX12_name_152 rfl rfl ?_
        exact go_ret rfl dX12_name_153
      · refine go_aload_n 0 dX12_name_86 rfl rfl ?_
        refine go_getI gf_RX12_123 gcf_12 gft_12_2 dX12_name_87 (fun v37 => ?_)
        refine go_aload_n 0 dX12_name_90 rfl rfl ?_
        refine go_getI gf_RX12_169 gcf_12 gft_12_12 dX12_name_91 (fun v38 => ?_)
        refine go_isub dX12_name_94 ?_
        refine go_bipush (v := 6) dX12_name_95 (by decide) ?_
        refine go_icmp_ne (tgt := 111) dX12_name_97 (by decide) (fun h39 => ?_) (fun h39 => ?_)
        · exact go_sub [0] (hk100 s33) rfl
        · refine go_bipush (v := 27) dX12_name_111 (by decide) ?_
          refine go_iload_n 1 dX12_name_113 rfl rfl ?_
          refine go_imul dX12_name_114 ?_
          refine go_aload_n 0 dX12_name_115 rfl rfl ?_
          refine go_getR gf_RX12_7 gcf_12 gft_12_0 dX12_name_116 (fun v40 => ?_)
          refine go_aload_n 0 dX12_name_119 rfl rfl ?_
          refine go_getI gf_RX12_123 gcf_12 gft_12_2 dX12_name_120 (fun v41 => ?_)
          refine go_iaload dX12_name_123 (fun v42 _ => ?_)
          refine go_iadd dX12_name_124 ?_
          refine go_bipush (v := 97) dX12_name_125 (by decide) ?_
          refine go_isub dX12_name_127 ?_
          refine go_iconst (v := 1) dX12_name_128 (by decide) ?_
          refine go_iadd dX12_name_129 ?_
          refine go_istore_n_l (L' := fun y43 => [(1, vi y43), (0, vr a0)]) dX12_name_130 rfl (by decide) (fun _ => rfl) (fun y43 => ?_)
          refine go_aload_n 1 dX12_name_131 rfl rfl ?_
          refine go_dup dX12_name_132 rfl ?_
          refine go_getI gf_RX12_123 gcf_12 gft_12_2 dX12_name_133 (fun v44 => ?_)
          refine go_iconst (v := 1) dX12_name_136 (by decide) ?_
          refine go_iadd dX12_name_137 ?_
          refine go_putI gf_RX12_123 gcf_12 gpl_12_2 gft_12_2 dX12_name_138 (fun s45 _ => ?_)
          refine go_goto (tgt := 60) dX12_name_141 (by decide) ?_
          exact go_sub [1, 0] (ih y43 s45) rfl
    · refine go_aload_n 0 dX12_name_144 rfl rfl ?_
      refine go_aload_n 0 dX12_name_145 rfl rfl ?_
      refine go_getI gf_RX12_123 gcf_12 gft_12_2 dX12_name_146 (fun v46 => ?_)
      refine go_putI gf_RX12_136 gcf_12 gpl_12_4 gft_12_4 dX12_name_149 (fun s47 _ => ?_)
      refine go_iload_n 1 dX12_name_152 rfl rfl ?_
      exact go_ret rfl dX12_name_153
def fX12_name (a0 : Nat) (s0 : gH) : Option (Int32 × gH) :=
  (ggI s0 a0 12 5).bind fun v1 =>
  if v1 = 0 then
    gb2 (gcv s0 a0 12 (fX12_isWordHere a0 s0)) fun r3 s4 =>
    gjn (fun (s6 : gH) =>
        gb2 (gcv s6 a0 12 (fX12_look a0 s6)) fun r7 s8 =>
        gjn (fun (z10 : Int32) (z11 : Int32) (b12 : Nat) (s13 : gH) =>
            gb2 (gcv s13 b12 12 (fX12_fail b12 z11 z10 s13)) fun r14 s15 =>
            some (0, s15)
        ) fun j9 =>
        if r7 = -1 then
          (ggI s8 a0 12 3).bind fun v17 =>
          j9 v17 1 a0 s8
        else
          (ggI s8 a0 12 2).bind fun v18 =>
          j9 v18 1 a0 s8
    ) fun j5 =>
    if r3 = 0 then
      j5 s4
    else
      gb2 (gcv s4 a0 12 (fX12_ownHere a0 s4)) fun r20 s21 =>
      if r20 = -1 then
        (ggI s21 a0 12 2).bind fun v23 =>
        (spI s21 a0 12 12 v23).bind fun s24 =>
        gX12_name_L60
          (fun s48 =>
            (ggI s48 a0 12 2).bind fun v49 =>
            gb2 (gcv s48 a0 12 (fX12_fail a0 1 v49 s48)) fun r50 s51 =>
            some (0, s51))
          a0 20000 0 s24
      else
        j5 s21
  else
    some (0, s0)
set_option maxRecDepth 100000 in
set_option maxHeartbeats 4000000 in
theorem wX12_name {X : Nat × (Nat → Int32)} {d : Nat} (hd : 3 ≤ d) {a0 : Nat} {s0 : gH} : gGo X rvI mX12_name d 0 [(0, vr a0)] [] s0 (fX12_name a0 s0) := by
  unfold fX12_name
  refine go_aload_n 0 dX12_name_0 rfl rfl ?_
  refine go_getI gf_RX12_117 gcf_12 gft_12_5 dX12_name_1 (fun v1 => ?_)
  refine go_if_eq (tgt := 9) dX12_name_4 (by decide) (fun h2 => ?_) (fun h2 => ?_)
  · refine go_aload_n 0 dX12_name_9 rfl rfl ?_
    refine go_callV_I (as := []) gk_RX12_152 gmf_X12_isWordHere (by decide) rfl (by omega) rfl rfl (Nat.le_of_ble_eq_true rfl) dX12_name_10 (fun _ _ h => cX12_isWordHere_c (by omega) h) (fun r3 s4 _ => ?_)
    refine go_gjn (P := fun j5 => ∀ (s6 : gH), gGo X rvI mX12_name d 24 [(0, vr a0)] [] s6 (j5 s6)) (fun s6 => ?_) (fun j5 hj5 => ?_)
    · refine go_aload_n 0 dX12_name_24 rfl rfl ?_
      refine go_iconst (v := 1) dX12_name_25 (by decide) ?_
      refine go_aload_n 0 dX12_name_26 rfl rfl ?_
      refine go_callV_I (as := []) gk_RX12_129 gmf_X12_look (by decide) rfl (by omega) rfl rfl (Nat.le_of_ble_eq_true rfl) dX12_name_27 (fun _ _ h => cX12_look_c (by omega) h) (fun r7 s8 _ => ?_)
      refine go_iconst (v := -1) dX12_name_30 (by decide) ?_
      refine go_gjn (P := fun j9 => ∀ (z10 : Int32) (z11 : Int32) (b12 : Nat) (s13 : gH), gGo X rvI mX12_name d 45 [] [vi z10, vi z11, vr b12] s13 (j9 z10 z11 b12 s13)) (fun z10 z11 b12 s13 => ?_) (fun j9 hj9 => ?_)
      · refine go_callV_v (as := [vi z11, vi z10]) gk_RX12_142 gmf_X12_fail (by decide) rfl (by omega) rfl rfl (Nat.le_of_ble_eq_true rfl) dX12_name_45 (fun _ _ h => cX12_fail_c (by omega) h) (fun r14 s15 _ => ?_)
        refine go_iconst (v := 0) dX12_name_48 (by decide) ?_
        exact go_ret rfl dX12_name_49
      · refine go_icmp_ne (tgt := 41) dX12_name_31 (by decide) (fun h16 => ?_) (fun h16 => ?_)
        · refine go_aload_n 0 dX12_name_34 rfl rfl ?_
          refine go_getI gf_RX12_126 gcf_12 gft_12_3 dX12_name_35 (fun v17 => ?_)
          refine go_goto (tgt := 45) dX12_name_38 (by decide) ?_
          exact go_sub [] (hj9 v17 1 a0 s8) rfl
        · refine go_aload_n 0 dX12_name_41 rfl rfl ?_
          refine go_getI gf_RX12_123 gcf_12 gft_12_2 dX12_name_42 (fun v18 => ?_)
          exact go_sub [] (hj9 v18 1 a0 s8) rfl
    · refine go_if_eq (tgt := 24) dX12_name_13 (by decide) (fun h19 => ?_) (fun h19 => ?_)
      · exact go_sub [0] (hj5 s4) rfl
      · refine go_aload_n 0 dX12_name_16 rfl rfl ?_
        refine go_callV_I (as := []) gk_RX12_160 gmf_X12_ownHere (by decide) rfl (by omega) rfl rfl (Nat.le_of_ble_eq_true rfl) dX12_name_17 (fun _ _ h => cX12_ownHere_c (by omega) h) (fun r20 s21 _ => ?_)
        refine go_iconst (v := -1) dX12_name_20 (by decide) ?_
        refine go_icmp_eq (tgt := 50) dX12_name_21 (by decide) (fun h22 => ?_) (fun h22 => ?_)
        · refine go_aload_n 0 dX12_name_50 rfl rfl ?_
          refine go_aload_n 0 dX12_name_51 rfl rfl ?_
          refine go_getI gf_RX12_123 gcf_12 gft_12_2 dX12_name_52 (fun v23 => ?_)
          refine go_putI gf_RX12_169 gcf_12 gpl_12_12 gft_12_12 dX12_name_55 (fun s24 _ => ?_)
          refine go_iconst (v := 0) dX12_name_58 (by decide) ?_
          refine go_istore_n (L' := [(1, vi 0), (0, vr a0)]) dX12_name_59 rfl (by decide) rfl ?_
          refine go_sub [1, 0] (wX12_name_L60 hd _ a0 ?_ 20000 0 s24) rfl
          intro s48
          refine go_aload_n 0 dX12_name_100 rfl rfl ?_
          refine go_iconst (v := 1) dX12_name_101 (by decide) ?_
          refine go_aload_n 0 dX12_name_102 rfl rfl ?_
          refine go_getI gf_RX12_123 gcf_12 gft_12_2 dX12_name_103 (fun v49 => ?_)
          refine go_callV_v (as := [vi 1, vi v49]) gk_RX12_142 gmf_X12_fail (by decide) rfl (by omega) rfl rfl (Nat.le_of_ble_eq_true rfl) dX12_name_106 (fun _ _ h => cX12_fail_c (by omega) h) (fun r50 s51 _ => ?_)
          refine go_iconst (v := 0) dX12_name_109 (by decide) ?_
          exact go_ret rfl dX12_name_110
        · exact go_sub [0] (hj5 s21) rfl
  · refine go_iconst (v := 0) dX12_name_7 (by decide) ?_
    exact go_ret rfl dX12_name_8
set_option maxRecDepth 100000 in
set_option maxHeartbeats 4000000 in
theorem cX12_name_c {d : Nat} (hd : 3 ≤ d) {a0 : Nat} {s0 : gH} {r : Int32} {s1 : gH} (h : fX12_name a0 s0 = some (r, s1)) : gMt mX12_name d [vr a0] s0 (some (vi r)) s1 :=
  gMt_of (rv := rvI) (by decide +kernel) (Nat.le_of_ble_eq_true rfl) ⟨_, rfl, rfl⟩ (fun _ => wX12_name hd) h
def fX12_setAt (x0 : Int32) (x1 : Int32) (s0 : gH) : Option (Int32 × gH) :=
  some ((254 + (3 * x0)) + x1, s0)
set_option maxRecDepth 100000 in
set_option maxHeartbeats 4000000 in
theorem wX12_setAt {X : Nat × (Nat → Int32)} {d : Nat} (hd : 0 ≤ d) {x0 : Int32} {x1 : Int32} {s0 : gH} : gGo X rvI mX12_setAt d 0 [(0, vi x0), (1, vi x1)] [] s0 (fX12_setAt x0 x1 s0) := by
  unfold fX12_setAt
  refine go_sipush (v := 254) dX12_setAt_0 (by decide) ?_
  refine go_iconst (v := 3) dX12_setAt_3 (by decide) ?_
  refine go_iload_n 0 dX12_setAt_4 rfl rfl ?_
  refine go_imul dX12_setAt_5 ?_
  refine go_iadd dX12_setAt_6 ?_
  refine go_iload_n 1 dX12_setAt_7 rfl rfl ?_
  refine go_iadd dX12_setAt_8 ?_
  exact go_ret rfl dX12_setAt_9
set_option maxRecDepth 100000 in
set_option maxHeartbeats 4000000 in
theorem cX12_setAt_c {d : Nat} (hd : 0 ≤ d) {x0 : Int32} {x1 : Int32} {s0 : gH} {r : Int32} {s1 : gH} (h : fX12_setAt x0 x1 s0 = some (r, s1)) : gMt mX12_setAt d [vi x0, vi x1] s0 (some (vi r)) s1 :=
  gMt_of (rv := rvI) (by decide +kernel) (Nat.le_of_ble_eq_true rfl) ⟨_, rfl, rfl⟩ (fun _ => wX12_setAt hd) h
def gX12_named_L2 (k34 : gH → Option (Int32 × gH)) (a0 : Nat) (x1 : Int32) : Nat → Int32 → gH → Option (Int32 × gH)
  | 0, _, _ => none
  | n + 1, x2, s0 =>
    (ggR s0 a0 12 18).bind fun v2 =>
    (gaI s0 v2 2 0).bind fun v3 =>
    if x2 < v3 then
      (ggR s0 a0 12 18).bind fun v5 =>
      gb2 (fX12_ruleAt x2 0 s0) fun r6 s7 =>
      (gaI s7 v5 2 r6).bind fun v8 =>
      if v8 = x1 then
        some (x2, s7)
      else
        gX12_named_L2 k34 a0 x1 n (x2 + 1) s7
    else
      k34 s0
set_option maxRecDepth 100000 in
set_option maxHeartbeats 4000000 in
theorem wX12_named_L2 {X : Nat × (Nat → Int32)} {d : Nat} (hd : 1 ≤ d) (k34 : gH → Option (Int32 × gH)) (a0 : Nat) (x1 : Int32) (hk34 : ∀ (s : gH), gGo X rvI mX12_named d 34 [(0, vr a0), (1, vi x1)] [] s (k34 s)) : ∀ (n : Nat) (x2 : Int32) (s0 : gH), gGo X rvI mX12_named d 2 [(0, vr a0), (1, vi x1), (2, vi x2)] [] s0 (gX12_named_L2 k34 a0 x1 n x2 s0) := by
  intro n
  induction n with
  | zero => intros; exact go_none
  | succ n ih =>
    intro x2 s0
    show gGo _ _ _ _ _ _ _ _ (gX12_named_L2 k34 a0 x1 (n + 1) x2 s0)
    unfold gX12_named_L2
    refine go_iload_n 2 dX12_named_2 rfl rfl ?_
    refine go_aload_n 0 dX12_named_3 rfl rfl ?_
    refine go_getR gf_RX12_36 gcf_12 gft_12_18 dX12_named_4 (fun v2 => ?_)
    refine go_iconst (v := 0) dX12_named_7 (by decide) ?_
    refine go_iaload dX12_named_8 (fun v3 _ => ?_)
    refine go_icmp_ge (tgt := 34) dX12_named_9 (by decide) (fun h4 => ?_) (fun h4 => ?_)
    · refine go_aload_n 0 dX12_named_12 rfl rfl ?_
      refine go_getR gf_RX12_36 gcf_12 gft_12_18 dX12_named_13 (fun v5 => ?_)
      refine go_iload_n 2 dX12_named_16 rfl rfl ?_
      refine go_iconst (v := 0) dX12_named_17 (by decide) ?_
      refine go_callS_I (as := [vi x2, vi 0]) gk_RX12_186 gmf_X12_ruleAt (by omega) rfl rfl (Nat.le_of_ble_eq_true rfl) dX12_named_18 (fun _ _ h => cX12_ruleAt_c (by omega) h) (fun r6 s7 _ => ?_)
      refine go_iaload dX12_named_21 (fun v8 _ => ?_)
      refine go_iload_n 1 dX12_named_22 rfl rfl ?_
      refine go_icmp_ne (tgt := 28) dX12_named_23 (by decide) (fun h9 => ?_) (fun h9 => ?_)
      · refine go_iload_n 2 dX12_named_26 rfl rfl ?_
        exact go_ret rfl dX12_named_27
      · refine go_iinc (v := 1) (L' := [(2, vi (x2 + 1)), (0, vr a0), (1, vi x1)]) 2 dX12_named_28 rfl (by decide) (by decide) rfl ?_
        refine go_goto (tgt := 2) dX12_named_31 (by decide) ?_
        exact go_sub [1, 2, 0] (ih (x2 + 1) s7) rfl
    · exact go_sub [0, 1] (hk34 s0) rfl
def gX12_named_L36  (a0 : Nat) (x1 : Int32) : Nat → Int32 → gH → Option (Int32 × gH)
  | 0, _, _ => none
  | n + 1, x2, s0 =>
    (ggR s0 a0 12 18).bind fun v12 =>
    (gaI s0 v12 2 1).bind fun v13 =>
    if x2 < v13 then
      (ggR s0 a0 12 18).bind fun v15 =>
      gb2 (fX12_setAt x2 0 s0) fun r16 s17 =>
      (gaI s17 v15 2 r16).bind fun v18 =>
      if v18 = x1 then
        some (6 + x2, s17)
      else
        gX12_named_L36 a0 x1 n (x2 + 1) s17
    else
      some (-1, s0)
set_option maxRecDepth 100000 in
set_option maxHeartbeats 4000000 in
theorem wX12_named_L36 {X : Nat × (Nat → Int32)} {d : Nat} (hd : 1 ≤ d)  (a0 : Nat) (x1 : Int32) : ∀ (n : Nat) (x2 : Int32) (s0 : gH), gGo X rvI mX12_named d 36 [(0, vr a0), (1, vi x1), (2, vi x2)] [] s0 (gX12_named_L36 a0 x1 n x2 s0) := by
  intro n
  induction n with
  | zero => intros; exact go_none
  | succ n ih =>
    intro x2 s0
    show gGo _ _ _ _ _ _ _ _ (gX12_named_L36 a0 x1 (n + 1) x2 s0)
    unfold gX12_named_L36
    refine go_iload_n 2 dX12_named_36 rfl rfl ?_
    refine go_aload_n 0 dX12_named_37 rfl rfl ?_
    refine go_getR gf_RX12_36 gcf_12 gft_12_18 dX12_named_38 (fun v12 => ?_)
    refine go_iconst (v := 1) dX12_named_41 (by decide) ?_
    refine go_iaload dX12_named_42 (fun v13 _ => ?_)
    refine go_icmp_ge (tgt := 71) dX12_named_43 (by decide) (fun h14 => ?_) (fun h14 => ?_)
    · refine go_aload_n 0 dX12_named_46 rfl rfl ?_
      refine go_getR gf_RX12_36 gcf_12 gft_12_18 dX12_named_47 (fun v15 => ?_)
      refine go_iload_n 2 dX12_named_50 rfl rfl ?_
      refine go_iconst (v := 0) dX12_named_51 (by decide) ?_
      refine go_callS_I (as := [vi x2, vi 0]) gk_RX12_189 gmf_X12_setAt (by omega) rfl rfl (Nat.le_of_ble_eq_true rfl) dX12_named_52 (fun _ _ h => cX12_setAt_c (by omega) h) (fun r16 s17 _ => ?_)
      refine go_iaload dX12_named_55 (fun v18 _ => ?_)
      refine go_iload_n 1 dX12_named_56 rfl rfl ?_
      refine go_icmp_ne (tgt := 65) dX12_named_57 (by decide) (fun h19 => ?_) (fun h19 => ?_)
      · refine go_bipush (v := 6) dX12_named_60 (by decide) ?_
        refine go_iload_n 2 dX12_named_62 rfl rfl ?_
        refine go_iadd dX12_named_63 ?_
        exact go_ret rfl dX12_named_64
      · refine go_iinc (v := 1) (L' := [(2, vi (x2 + 1)), (0, vr a0), (1, vi x1)]) 2 dX12_named_65 rfl (by decide) (by decide) rfl ?_
        refine go_goto (tgt := 36) dX12_named_68 (by decide) ?_
        exact go_sub [1, 2, 0] (ih (x2 + 1) s17) rfl
    · refine go_iconst (v := -1) dX12_named_71 (by decide) ?_
      exact go_ret rfl dX12_named_72
def fX12_named (a0 : Nat) (x1 : Int32) (s0 : gH) : Option (Int32 × gH) :=
  gX12_named_L2
    (fun s10 =>
      gX12_named_L36
        a0 x1 20000 0 s10)
    a0 x1 20000 0 s0
set_option maxRecDepth 100000 in
set_option maxHeartbeats 4000000 in
theorem wX12_named {X : Nat × (Nat → Int32)} {d : Nat} (hd : 1 ≤ d) {a0 : Nat} {x1 : Int32} {s0 : gH} : gGo X rvI mX12_named d 0 [(0, vr a0), (1, vi x1)] [] s0 (fX12_named a0 x1 s0) := by
  unfold fX12_named
  refine go_iconst (v := 0) dX12_named_0 (by decide) ?_
  refine go_istore_n (L' := [(2, vi 0), (0, vr a0), (1, vi x1)]) dX12_named_1 rfl (by decide) rfl ?_
  refine go_sub [1, 2, 0] (wX12_named_L2 hd _ a0 x1 ?_ 20000 0 s0) rfl
  intro s10
  refine go_iconst (v := 0) dX12_named_34 (by decide) ?_
  refine go_istore_n (L' := [(2, vi 0), (0, vr a0), (1, vi x1)]) dX12_named_35 rfl (by decide) rfl ?_
  refine go_sub [1, 2, 0] (wX12_named_L36 hd a0 x1 20000 0 s10) rfl
set_option maxRecDepth 100000 in
set_option maxHeartbeats 4000000 in
theorem cX12_named_c {d : Nat} (hd : 1 ≤ d) {a0 : Nat} {x1 : Int32} {s0 : gH} {r : Int32} {s1 : gH} (h : fX12_named a0 x1 s0 = some (r, s1)) : gMt mX12_named d [vr a0, vi x1] s0 (some (vi r)) s1 :=
  gMt_of (rv := rvI) (by decide +kernel) (Nat.le_of_ble_eq_true rfl) ⟨_, rfl, rfl⟩ (fun _ => wX12_named hd) h
def fX12_newName (a0 : Nat) (s0 : gH) : Option (Int32 × gH) :=
  gb2 (gcv s0 a0 12 (fX12_name a0 s0)) fun r1 s2 =>
  (ggI s2 a0 12 5).bind fun v3 =>
  if v3 = 0 then
    gb2 (gcv s2 a0 12 (fX12_named a0 r1 s2)) fun r5 s6 =>
    if r5 = -1 then
      some (r1, s6)
    else
      (ggI s6 a0 12 12).bind fun v8 =>
      gb2 (gcv s6 a0 12 (fX12_fail a0 3 v8 s6)) fun r9 s10 =>
      some (r1, s10)
  else
    some (r1, s2)
set_option maxRecDepth 100000 in
set_option maxHeartbeats 4000000 in
theorem wX12_newName {X : Nat × (Nat → Int32)} {d : Nat} (hd : 4 ≤ d) {a0 : Nat} {s0 : gH} : gGo X rvI mX12_newName d 0 [(0, vr a0)] [] s0 (fX12_newName a0 s0) := by
  unfold fX12_newName
  refine go_aload_n 0 dX12_newName_0 rfl rfl ?_
  refine go_callV_I (as := []) gk_RX12_192 gmf_X12_name (by decide) rfl (by omega) rfl rfl (Nat.le_of_ble_eq_true rfl) dX12_newName_1 (fun _ _ h => cX12_name_c (by omega) h) (fun r1 s2 _ => ?_)
  refine go_istore_n (L' := [(1, vi r1), (0, vr a0)]) dX12_newName_4 rfl (by decide) rfl ?_
  refine go_aload_n 1 dX12_newName_5 rfl rfl ?_
  refine go_getI gf_RX12_117 gcf_12 gft_12_5 dX12_newName_6 (fun v3 => ?_)
  refine go_if_ne (tgt := 30) dX12_newName_9 (by decide) (fun h4 => ?_) (fun h4 => ?_)
  · refine go_aload_n 1 dX12_newName_12 rfl rfl ?_
    refine go_iload_n 0 dX12_newName_13 rfl rfl ?_
    refine go_callV_I (as := [vi r1]) gk_RX12_195 gmf_X12_named (by decide) rfl (by omega) rfl rfl (Nat.le_of_ble_eq_true rfl) dX12_newName_14 (fun _ _ h => cX12_named_c (by omega) h) (fun r5 s6 _ => ?_)
    refine go_iconst (v := -1) dX12_newName_17 (by decide) ?_
    refine go_icmp_eq (tgt := 30) dX12_newName_18 (by decide) (fun h7 => ?_) (fun h7 => ?_)
    · refine go_iload_n 0 dX12_newName_30 rfl rfl ?_
      exact go_ret rfl dX12_newName_31
    · refine go_aload_n 1 dX12_newName_21 rfl rfl ?_
      refine go_iconst (v := 3) dX12_newName_22 (by decide) ?_
      refine go_aload_n 1 dX12_newName_23 rfl rfl ?_
      refine go_getI gf_RX12_169 gcf_12 gft_12_12 dX12_newName_24 (fun v8 => ?_)
      refine go_callV_v (as := [vi 3, vi v8]) gk_RX12_142 gmf_X12_fail (by decide) rfl (by omega) rfl rfl (Nat.le_of_ble_eq_true rfl) dX12_newName_27 (fun _ _ h => cX12_fail_c (by omega) h) (fun r9 s10 _ => ?_)
      refine go_iload_n 0 dX12_newName_30 rfl rfl ?_
      exact go_ret rfl dX12_newName_31
  · refine go_iload_n 0 dX12_newName_30 rfl rfl ?_
    exact go_ret rfl dX12_newName_31
set_option maxRecDepth 100000 in
set_option maxHeartbeats 4000000 in
theorem cX12_newName_c {d : Nat} (hd : 4 ≤ d) {a0 : Nat} {s0 : gH} {r : Int32} {s1 : gH} (h : fX12_newName a0 s0 = some (r, s1)) : gMt mX12_newName d [vr a0] s0 (some (vi r)) s1 :=
  gMt_of (rv := rvI) (by decide +kernel) (Nat.le_of_ble_eq_true rfl) ⟨_, rfl, rfl⟩ (fun _ => wX12_newName hd) h
def fX12_asks (a0 : Nat) (x1 : Int32) (s0 : gH) : Option (Unit × gH) :=
  (ggI s0 a0 12 5).bind fun v1 =>
  if v1 = 0 then
    gb2 (gcv s0 a0 12 (fX12_takes a0 x1 s0)) fun r3 s4 =>
    if r3 = 0 then
      (ggI s4 a0 12 2).bind fun v6 =>
      gb2 (gcv s4 a0 12 (fX12_fail a0 1 v6 s4)) fun r7 s8 =>
      some ((), s8)
    else
      some ((), s4)
  else
    some ((), s0)
set_option maxRecDepth 100000 in
set_option maxHeartbeats 4000000 in
theorem wX12_asks {X : Nat × (Nat → Int32)} {d : Nat} (hd : 4 ≤ d) {a0 : Nat} {x1 : Int32} {s0 : gH} : gGo X rvU mX12_asks d 0 [(0, vr a0), (1, vi x1)] [] s0 (fX12_asks a0 x1 s0) := by
  unfold fX12_asks
  refine go_aload_n 0 dX12_asks_0 rfl rfl ?_
  refine go_getI gf_RX12_117 gcf_12 gft_12_5 dX12_asks_1 (fun v1 => ?_)
  refine go_if_ne (tgt := 24) dX12_asks_4 (by decide) (fun h2 => ?_) (fun h2 => ?_)
  · refine go_aload_n 0 dX12_asks_7 rfl rfl ?_
    refine go_iload_n 1 dX12_asks_8 rfl rfl ?_
    refine go_callV_I (as := [vi x1]) gk_RX12_166 gmf_X12_takes (by decide) rfl (by omega) rfl rfl (Nat.le_of_ble_eq_true rfl) dX12_asks_9 (fun _ _ h => cX12_takes_c (by omega) h) (fun r3 s4 _ => ?_)
    refine go_if_ne (tgt := 24) dX12_asks_12 (by decide) (fun h5 => ?_) (fun h5 => ?_)
    · refine go_aload_n 0 dX12_asks_15 rfl rfl ?_
      refine go_iconst (v := 1) dX12_asks_16 (by decide) ?_
      refine go_aload_n 0 dX12_asks_17 rfl rfl ?_
      refine go_getI gf_RX12_123 gcf_12 gft_12_2 dX12_asks_18 (fun v6 => ?_)
      refine go_callV_v (as := [vi 1, vi v6]) gk_RX12_142 gmf_X12_fail (by decide) rfl (by omega) rfl rfl (Nat.le_of_ble_eq_true rfl) dX12_asks_21 (fun _ _ h => cX12_fail_c (by omega) h) (fun r7 s8 _ => ?_)
      exact go_retv rfl dX12_asks_24
    · exact go_retv rfl dX12_asks_24
  · exact go_retv rfl dX12_asks_24
set_option maxRecDepth 100000 in
set_option maxHeartbeats 4000000 in
theorem cX12_asks_c {d : Nat} (hd : 4 ≤ d) {a0 : Nat} {x1 : Int32} {s0 : gH} {r : Unit} {s1 : gH} (h : fX12_asks a0 x1 s0 = some (r, s1)) : gMt mX12_asks d [vr a0, vi x1] s0 none s1 :=
  gMt_of (rv := rvU) (by decide +kernel) (Nat.le_of_ble_eq_true rfl) rfl (fun _ => wX12_asks hd) h
def gX12_isDigit (x0 : Int32) (s0 : gH) : Option (Int32 × gH) :=
  if x0 < 48 then
    some (0, s0)
  else
    if 57 < x0 then
      some (0, s0)
    else
      some (1, s0)
def fX12_isDigit (x0 : Int32) (s0 : gH) : Option (Int32 × gH) := gzr (gX12_isDigit x0 s0)
set_option maxRecDepth 100000 in
set_option maxHeartbeats 4000000 in
theorem wX12_isDigit {X : Nat × (Nat → Int32)} {d : Nat} (hd : 0 ≤ d) {x0 : Int32} {s0 : gH} : gGo X rvI mX12_isDigit d 0 [(0, vi x0)] [] s0 (gX12_isDigit x0 s0) := by
  unfold gX12_isDigit
  refine go_iload_n 0 dX12_isDigit_0 rfl rfl ?_
  refine go_bipush (v := 48) dX12_isDigit_1 (by decide) ?_
  refine go_icmp_lt (tgt := 16) dX12_isDigit_3 (by decide) (fun h1 => ?_) (fun h1 => ?_)
  · refine go_iconst (v := 0) dX12_isDigit_16 (by decide) ?_
    exact go_ret rfl dX12_isDigit_17
  · refine go_iload_n 0 dX12_isDigit_6 rfl rfl ?_
    refine go_bipush (v := 57) dX12_isDigit_7 (by decide) ?_
    refine go_icmp_gt (tgt := 16) dX12_isDigit_9 (by decide) (fun h2 => ?_) (fun h2 => ?_)
    · refine go_iconst (v := 0) dX12_isDigit_16 (by decide) ?_
      exact go_ret rfl dX12_isDigit_17
    · refine go_iconst (v := 1) dX12_isDigit_12 (by decide) ?_
      refine go_goto (tgt := 17) dX12_isDigit_13 (by decide) ?_
      exact go_ret rfl dX12_isDigit_17
set_option maxRecDepth 100000 in
set_option maxHeartbeats 4000000 in
theorem cX12_isDigit_c {d : Nat} (hd : 0 ≤ d) {x0 : Int32} {s0 : gH} {r : Int32} {s1 : gH} (h : fX12_isDigit x0 s0 = some (r, s1)) : gMt mX12_isDigit d [vi x0] s0 (some (vi r)) s1 := by
  obtain ⟨h1, h2⟩ := gzr_some h
  exact gMt_of (rv := rvI) (by decide +kernel) (Nat.le_of_ble_eq_true rfl) ⟨_, rfl, gnarZ h2⟩ (fun _ => wX12_isDigit hd) h1
def gX12_isIn (x0 : Int64) (x2 : Int64) (x4 : Int64) (s0 : gH) : Option (Int32 × gH) :=
  if lg_cmp x0 x2 < 0 then
    some (0, s0)
  else
    if 0 < lg_cmp x0 x4 then
      some (0, s0)
    else
      some (1, s0)
def fX12_isIn (x0 : Int64) (x2 : Int64) (x4 : Int64) (s0 : gH) : Option (Int32 × gH) := gzr (gX12_isIn x0 x2 x4 s0)
set_option maxRecDepth 100000 in
set_option maxHeartbeats 4000000 in
theorem wX12_isIn {X : Nat × (Nat → Int32)} {d : Nat} (hd : 0 ≤ d) {x0 : Int64} {x2 : Int64} {x4 : Int64} {s0 : gH} : gGo X rvI mX12_isIn d 0 [(0, vl x0), (2, vl x2), (4, vl x4)] [] s0 (gX12_isIn x0 x2 x4 s0) := by
  unfold gX12_isIn
  refine go_lload_n 0 dX12_isIn_0 rfl rfl ?_
  refine go_lload_n 1 dX12_isIn_1 rfl rfl ?_
  refine go_lcmp dX12_isIn_2 ?_
  refine go_if_lt (tgt := 17) dX12_isIn_3 (by decide) (fun h1 => ?_) (fun h1 => ?_)
  · refine go_iconst (v := 0) dX12_isIn_17 (by decide) ?_
    exact go_ret rfl dX12_isIn_18
  · refine go_lload_n 0 dX12_isIn_6 rfl rfl ?_
    refine go_lload 2 dX12_isIn_7 rfl ?_
    refine go_lcmp dX12_isIn_9 ?_
    refine go_if_gt (tgt := 17) dX12_isIn_10 (by decide) (fun h2 => ?_) (fun h2 => ?_)
    · refine go_iconst (v := 0) dX12_isIn_17 (by decide) ?_
      exact go_ret rfl dX12_isIn_18
    · refine go_iconst (v := 1) dX12_isIn_13 (by decide) ?_
      refine go_goto (tgt := 18) dX12_isIn_14 (by decide) ?_
      exact go_ret rfl dX12_isIn_18
set_option maxRecDepth 100000 in
set_option maxHeartbeats 4000000 in
theorem cX12_isIn_c {d : Nat} (hd : 0 ≤ d) {x0 : Int64} {x2 : Int64} {x4 : Int64} {s0 : gH} {r : Int32} {s1 : gH} (h : fX12_isIn x0 x2 x4 s0 = some (r, s1)) : gMt mX12_isIn d [vl x0, vl x2, vl x4] s0 (some (vi r)) s1 := by
  obtain ⟨h1, h2⟩ := gzr_some h
  exact gMt_of (rv := rvI) (by decide +kernel) (Nat.le_of_ble_eq_true rfl) ⟨_, rfl, gnarZ h2⟩ (fun _ => wX12_isIn hd) h1
def gX12_number_L51 (k90 : gH → Option (Int32 × gH)) (k132 : Int32 → gH → Option (Int32 × gH)) (a0 : Nat) (x1 : Int32) (x2 : Int32) : Nat → Int32 → gH → Option (Int32 × gH)
  | 0, _, _ => none
  | n + 1, x3, s0 =>
    (ggI s0 a0 12 2).bind fun v19 =>
    (ggI s0 a0 12 3).bind fun v20 =>
    if v19 < v20 then
      (ggR s0 a0 12 0).bind fun v22 =>
      (ggI s0 a0 12 2).bind fun v23 =>
      (gaI s0 v22 2 v23).bind fun v24 =>
      gb2 (fX12_isDigit v24 s0) fun r25 s26 =>
      if r25 = 0 then
        k132 x3 s26
      else
        (ggI s26 a0 12 2).bind fun v28 =>
        (ggI s26 a0 12 10).bind fun v29 =>
        if v28 - v29 = 4 then
          k90 s26
        else
          (ggR s26 a0 12 0).bind fun v31 =>
          (ggI s26 a0 12 2).bind fun v32 =>
          (gaI s26 v31 2 v32).bind fun v33 =>
          glet (((10 * x3) + v33) - 48) fun y34 =>
          (ggI s26 a0 12 2).bind fun v35 =>
          (spI s26 a0 12 2 (v35 + 1)).bind fun s36 =>
          gX12_number_L51 k90 k132 a0 x1 x2 n y34 s36
    else
      k132 x3 s0
set_option maxRecDepth 100000 in
set_option maxHeartbeats 4000000 in
theorem wX12_number_L51 {X : Nat × (Nat → Int32)} {d : Nat} (hd : 1 ≤ d) (k90 : gH → Option (Int32 × gH)) (k132 : Int32 → gH → Option (Int32 × gH)) (a0 : Nat) (x1 : Int32) (x2 : Int32) (hk90 : ∀ (s : gH), gGo X rvI mX12_number d 90 [(0, vr a0), (1, vi x1)] [] s (k90 s)) (hk132 : ∀ (x3 : Int32) (s : gH), gGo X rvI mX12_number d 132 [(0, vr a0), (1, vi x1), (2, vi x2), (3, vi x3)] [] s (k132 x3 s)) : ∀ (n : Nat) (x3 : Int32) (s0 : gH), gGo X rvI mX12_number d 51 [(0, vr a0), (1, vi x1), (2, vi x2), (3, vi x3)] [] s0 (gX12_number_L51 k90 k132 a0 x1 x2 n x3 s0) := by
  intro n
  induction n with
  | zero => intros; exact go_none
  | succ n ih =>
    intro x3 s0
    show gGo _ _ _ _ _ _ _ _ (gX12_number_L51 k90 k132 a0 x1 x2 (n + 1) x3 s0)
    unfold gX12_number_L51
    refine go_aload_n 0 dX12_number_51 rfl rfl ?_
    refine go_getI gf_RX12_123 gcf_12 gft_12_2 dX12_number_52 (fun v19 => ?_)
    refine go_aload_n 0 dX12_number_55 rfl rfl ?_
    refine go_getI gf_RX12_126 gcf_12 gft_12_3 dX12_number_56 (fun v20 => ?_)
    refine go_icmp_ge (tgt := 132) dX12_number_59 (by decide) (fun h21 => ?_) (fun h21 => ?_)
    · refine go_aload_n 0 dX12_number_62 rfl rfl ?_
      refine go_getR gf_RX12_7 gcf_12 gft_12_0 dX12_number_63 (fun v22 => ?_)
      refine go_aload_n 0 dX12_number_66 rfl rfl ?_
      refine go_getI gf_RX12_123 gcf_12 gft_12_2 dX12_number_67 (fun v23 => ?_)
      refine go_iaload dX12_number_70 (fun v24 _ => ?_)
      refine go_callS_I (as := [vi v24]) gk_RX12_146 gmf_X12_isDigit (by omega) rfl rfl (Nat.le_of_ble_eq_true rfl) dX12_number_71 (fun _ _ h => cX12_isDigit_c (by omega) h) (fun r25 s26 _ => ?_)
      refine go_if_eq (tgt := 132) dX12_number_74 (by decide) (fun h27 => ?_) (fun h27 => ?_)
      · exact go_sub [0, 1, 2, 3] (hk132 x3 s26) rfl
      · refine go_aload_n 0 dX12_number_77 rfl rfl ?_
        refine go_getI gf_RX12_123 gcf_12 gft_12_2 dX12_number_78 (fun v28 => ?_)
        refine go_aload_n 0 dX12_number_81 rfl rfl ?_
        refine go_getI gf_RX12_149 gcf_12 gft_12_10 dX12_number_82 (fun v29 => ?_)
        refine go_isub dX12_number_85 ?_
        refine go_iconst (v := 4) dX12_number_86 (by decide) ?_
        refine go_icmp_ne (tgt := 101) dX12_number_87 (by decide) (fun h30 => ?_) (fun h30 => ?_)
        · exact go_sub [0, 1] (hk90 s26) rfl
        · refine go_bipush (v := 10) dX12_number_101 (by decide) ?_
          refine go_iload_n 3 dX12_number_103 rfl rfl ?_
          refine go_imul dX12_number_104 ?_
          refine go_aload_n 0 dX12_number_105 rfl rfl ?_
          refine go_getR gf_RX12_7 gcf_12 gft_12_0 dX12_number_106 (fun v31 => ?_)
          refine go_aload_n 0 dX12_number_109 rfl rfl ?_
          refine go_getI gf_RX12_123 gcf_12 gft_12_2 dX12_number_110 (fun v32 => ?_)
          refine go_iaload dX12_number_113 (fun v33 _ => ?_)
          refine go_iadd dX12_number_114 ?_
          refine go_bipush (v := 48) dX12_number_115 (by decide) ?_
          refine go_isub dX12_number_117 ?_
          refine go_istore_n_l (L' := fun y34 => [(3, vi y34), (0, vr a0), (1, vi x1), (2, vi x2)]) dX12_number_118 rfl (by decide) (fun _ => rfl) (fun y34 => ?_)
          refine go_aload_n 1 dX12_number_119 rfl rfl ?_
          refine go_dup dX12_number_120 rfl ?_
          refine go_getI gf_RX12_123 gcf_12 gft_12_2 dX12_number_121 (fun v35 => ?_)
          refine go_iconst (v := 1) dX12_number_124 (by decide) ?_
          refine go_iadd dX12_number_125 ?_
          refine go_putI gf_RX12_123 gcf_12 gpl_12_2 gft_12_2 dX12_number_126 (fun s36 _ => ?_)
          refine go_goto (tgt := 51) dX12_number_129 (by decide) ?_
          exact go_sub [1, 2, 3, 0] (ih y34 s36) rfl
    · exact go_sub [0, 1, 2, 3] (hk132 x3 s0) rfl
def fX12_number (a0 : Nat) (x1 : Int32) (x2 : Int32) (s0 : gH) : Option (Int32 × gH) :=
  (ggI s0 a0 12 5).bind fun v1 =>
  if v1 = 0 then
    gb2 (gcv s0 a0 12 (fX12_look a0 s0)) fun r3 s4 =>
    gb2 (fX12_isDigit r3 s4) fun r5 s6 =>
    gjn (fun (s8 : gH) =>
        (ggI s8 a0 12 2).bind fun v9 =>
        gb2 (gcv s8 a0 12 (fX12_fail a0 1 v9 s8)) fun r10 s11 =>
        some (x1, s11)
    ) fun j7 =>
    if r5 = 0 then
      j7 s6
    else
      (ggI s6 a0 12 2).bind fun v13 =>
      (ggI s6 a0 12 4).bind fun v14 =>
      if v13 = v14 then
        j7 s6
      else
        (ggI s6 a0 12 2).bind fun v16 =>
        (spI s6 a0 12 10 v16).bind fun s17 =>
        gX12_number_L51
          (fun s37 =>
            (ggI s37 a0 12 2).bind fun v38 =>
            gb2 (gcv s37 a0 12 (fX12_fail a0 1 v38 s37)) fun r39 s40 =>
            some (x1, s40))
          (fun y41 s42 =>
            (ggI s42 a0 12 2).bind fun v43 =>
            (spI s42 a0 12 4 v43).bind fun s44 =>
            gb2 (fX12_isIn y41.toInt64 x1.toInt64 x2.toInt64 s44) fun r45 s46 =>
            gjn (fun (s48 : gH) =>
                (ggI s48 a0 12 5).bind fun v49 =>
                if v49 = 0 then
                  some (y41, s48)
                else
                  some (x1, s48)
            ) fun j47 =>
            if r45 = 0 then
              (ggI s46 a0 12 10).bind fun v52 =>
              gb2 (gcv s46 a0 12 (fX12_fail a0 2 v52 s46)) fun r53 s54 =>
              j47 s54
            else
              j47 s46)
          a0 x1 x2 20000 0 s17
  else
    some (x1, s0)
set_option maxRecDepth 100000 in
set_option maxHeartbeats 4000000 in
theorem wX12_number {X : Nat × (Nat → Int32)} {d : Nat} (hd : 1 ≤ d) {a0 : Nat} {x1 : Int32} {x2 : Int32} {s0 : gH} : gGo X rvI mX12_number d 0 [(0, vr a0), (1, vi x1), (2, vi x2)] [] s0 (fX12_number a0 x1 x2 s0) := by
  unfold fX12_number
  refine go_aload_n 0 dX12_number_0 rfl rfl ?_
  refine go_getI gf_RX12_117 gcf_12 gft_12_5 dX12_number_1 (fun v1 => ?_)
  refine go_if_eq (tgt := 9) dX12_number_4 (by decide) (fun h2 => ?_) (fun h2 => ?_)
  · refine go_aload_n 0 dX12_number_9 rfl rfl ?_
    refine go_callV_I (as := []) gk_RX12_129 gmf_X12_look (by decide) rfl (by omega) rfl rfl (Nat.le_of_ble_eq_true rfl) dX12_number_10 (fun _ _ h => cX12_look_c (by omega) h) (fun r3 s4 _ => ?_)
    refine go_callS_I (as := [vi r3]) gk_RX12_146 gmf_X12_isDigit (by omega) rfl rfl (Nat.le_of_ble_eq_true rfl) dX12_number_13 (fun _ _ h => cX12_isDigit_c (by omega) h) (fun r5 s6 _ => ?_)
    refine go_gjn (P := fun j7 => ∀ (s8 : gH), gGo X rvI mX12_number d 30 [(0, vr a0), (1, vi x1)] [] s8 (j7 s8)) (fun s8 => ?_) (fun j7 hj7 => ?_)
    · refine go_aload_n 0 dX12_number_30 rfl rfl ?_
      refine go_iconst (v := 1) dX12_number_31 (by decide) ?_
      refine go_aload_n 0 dX12_number_32 rfl rfl ?_
      refine go_getI gf_RX12_123 gcf_12 gft_12_2 dX12_number_33 (fun v9 => ?_)
      refine go_callV_v (as := [vi 1, vi v9]) gk_RX12_142 gmf_X12_fail (by decide) rfl (by omega) rfl rfl (Nat.le_of_ble_eq_true rfl) dX12_number_36 (fun _ _ h => cX12_fail_c (by omega) h) (fun r10 s11 _ => ?_)
      refine go_iload_n 1 dX12_number_39 rfl rfl ?_
      exact go_ret rfl dX12_number_40
    · refine go_if_eq (tgt := 30) dX12_number_16 (by decide) (fun h12 => ?_) (fun h12 => ?_)
      · exact go_sub [0, 1] (hj7 s6) rfl
      · refine go_aload_n 0 dX12_number_19 rfl rfl ?_
        refine go_getI gf_RX12_123 gcf_12 gft_12_2 dX12_number_20 (fun v13 => ?_)
        refine go_aload_n 0 dX12_number_23 rfl rfl ?_
        refine go_getI gf_RX12_136 gcf_12 gft_12_4 dX12_number_24 (fun v14 => ?_)
        refine go_icmp_ne (tgt := 41) dX12_number_27 (by decide) (fun h15 => ?_) (fun h15 => ?_)
        · exact go_sub [0, 1] (hj7 s6) rfl
        · refine go_aload_n 0 dX12_number_41 rfl rfl ?_
          refine go_aload_n 0 dX12_number_42 rfl rfl ?_
          refine go_getI gf_RX12_123 gcf_12 gft_12_2 dX12_number_43 (fun v16 => ?_)
          refine go_putI gf_RX12_149 gcf_12 gpl_12_10 gft_12_10 dX12_number_46 (fun s17 _ => ?_)
          refine go_iconst (v := 0) dX12_number_49 (by decide) ?_
          refine go_istore_n (L' := [(3, vi 0), (0, vr a0), (1, vi x1), (2, vi x2)]) dX12_number_50 rfl (by decide) rfl ?_
          refine go_sub [1, 2, 3, 0] (wX12_number_L51 hd _ _ a0 x1 x2 ?_ ?_ 20000 0 s17) rfl
          · intro s37
            refine go_aload_n 0 dX12_number_90 rfl rfl ?_
            refine go_iconst (v := 1) dX12_number_91 (by decide) ?_
            refine go_aload_n 0 dX12_number_92 rfl rfl ?_
            refine go_getI gf_RX12_123 gcf_12 gft_12_2 dX12_number_93 (fun v38 => ?_)
            refine go_callV_v (as := [vi 1, vi v38]) gk_RX12_142 gmf_X12_fail (by decide) rfl (by omega) rfl rfl (Nat.le_of_ble_eq_true rfl) dX12_number_96 (fun _ _ h => cX12_fail_c (by omega) h) (fun r39 s40 _ => ?_)
            refine go_iload_n 1 dX12_number_99 rfl rfl ?_
            exact go_ret rfl dX12_number_100
          · intro y41 s42
            refine go_aload_n 0 dX12_number_132 rfl rfl ?_
            refine go_aload_n 0 dX12_number_133 rfl rfl ?_
            refine go_getI gf_RX12_123 gcf_12 gft_12_2 dX12_number_134 (fun v43 => ?_)
            refine go_putI gf_RX12_136 gcf_12 gpl_12_4 gft_12_4 dX12_number_137 (fun s44 _ => ?_)
            refine go_iload_n 3 dX12_number_140 rfl rfl ?_
            refine go_i2l dX12_number_141 ?_
            refine go_iload_n 1 dX12_number_142 rfl rfl ?_
            refine go_i2l dX12_number_143 ?_
            refine go_iload_n 2 dX12_number_144 rfl rfl ?_
            refine go_i2l dX12_number_145 ?_
            refine go_callS_I (as := [vl y41.toInt64, vl x1.toInt64, vl x2.toInt64]) gk_RX12_110 gmf_X12_isIn (by omega) rfl rfl (Nat.le_of_ble_eq_true rfl) dX12_number_146 (fun _ _ h => cX12_isIn_c (by omega) h) (fun r45 s46 _ => ?_)
            refine go_gjn (P := fun j47 => ∀ (s48 : gH), gGo X rvI mX12_number d 161 [(0, vr a0), (1, vi x1), (3, vi y41)] [] s48 (j47 s48)) (fun s48 => ?_) (fun j47 hj47 => ?_)
            · refine go_aload_n 0 dX12_number_161 rfl rfl ?_
              refine go_getI gf_RX12_117 gcf_12 gft_12_5 dX12_number_162 (fun v49 => ?_)
              refine go_if_ne (tgt := 172) dX12_number_165 (by decide) (fun h50 => ?_) (fun h50 => ?_)
              · refine go_iload_n 2 dX12_number_168 rfl rfl ?_
                refine go_goto (tgt := 173) dX12_number_169 (by decide) ?_
                exact go_ret rfl dX12_number_173
              · refine go_iload_n 1 dX12_number_172 rfl rfl ?_
                exact go_ret rfl dX12_number_173
            · refine go_if_ne (tgt := 161) dX12_number_149 (by decide) (fun h51 => ?_) (fun h51 => ?_)
              · refine go_aload_n 0 dX12_number_152 rfl rfl ?_
                refine go_iconst (v := 2) dX12_number_153 (by decide) ?_
                refine go_aload_n 0 dX12_number_154 rfl rfl ?_
                refine go_getI gf_RX12_149 gcf_12 gft_12_10 dX12_number_155 (fun v52 => ?_)
                refine go_callV_v (as := [vi 2, vi v52]) gk_RX12_142 gmf_X12_fail (by decide) rfl (by omega) rfl rfl (Nat.le_of_ble_eq_true rfl) dX12_number_158 (fun _ _ h => cX12_fail_c (by omega) h) (fun r53 s54 _ => ?_)
                exact go_sub [0, 1, 3] (hj47 s54) rfl
              · exact go_sub [0, 1, 3] (hj47 s46) rfl
  · refine go_iload_n 1 dX12_number_7 rfl rfl ?_
    exact go_ret rfl dX12_number_8
set_option maxRecDepth 100000 in
set_option maxHeartbeats 4000000 in
theorem cX12_number_c {d : Nat} (hd : 1 ≤ d) {a0 : Nat} {x1 : Int32} {x2 : Int32} {s0 : gH} {r : Int32} {s1 : gH} (h : fX12_number a0 x1 x2 s0 = some (r, s1)) : gMt mX12_number d [vr a0, vi x1, vi x2] s0 (some (vi r)) s1 :=
  gMt_of (rv := rvI) (by decide +kernel) (Nat.le_of_ble_eq_true rfl) ⟨_, rfl, rfl⟩ (fun _ => wX12_number hd) h
def gX12_takesSign (a0 : Nat) (x1 : Int32) (s0 : gH) : Option (Int32 × gH) :=
  (ggI s0 a0 12 5).bind fun v1 =>
  if v1 = 0 then
    gb2 (gcv s0 a0 12 (fX12_look a0 s0)) fun r3 s4 =>
    if r3 = x1 then
      (ggI s4 a0 12 2).bind fun v6 =>
      (spI s4 a0 12 2 (v6 + 1)).bind fun s7 =>
      some (1, s7)
    else
      some (0, s4)
  else
    some (0, s0)
def fX12_takesSign (a0 : Nat) (x1 : Int32) (s0 : gH) : Option (Int32 × gH) := gzr (gX12_takesSign a0 x1 s0)
set_option maxRecDepth 100000 in
set_option maxHeartbeats 4000000 in
theorem wX12_takesSign {X : Nat × (Nat → Int32)} {d : Nat} (hd : 1 ≤ d) {a0 : Nat} {x1 : Int32} {s0 : gH} : gGo X rvI mX12_takesSign d 0 [(0, vr a0), (1, vi x1)] [] s0 (gX12_takesSign a0 x1 s0) := by
  unfold gX12_takesSign
  refine go_aload_n 0 dX12_takesSign_0 rfl rfl ?_
  refine go_getI gf_RX12_117 gcf_12 gft_12_5 dX12_takesSign_1 (fun v1 => ?_)
  refine go_if_ne (tgt := 15) dX12_takesSign_4 (by decide) (fun h2 => ?_) (fun h2 => ?_)
  · refine go_aload_n 0 dX12_takesSign_7 rfl rfl ?_
    refine go_callV_I (as := []) gk_RX12_129 gmf_X12_look (by decide) rfl (by omega) rfl rfl (Nat.le_of_ble_eq_true rfl) dX12_takesSign_8 (fun _ _ h => cX12_look_c (by omega) h) (fun r3 s4 _ => ?_)
    refine go_iload_n 1 dX12_takesSign_11 rfl rfl ?_
    refine go_icmp_eq (tgt := 17) dX12_takesSign_12 (by decide) (fun h5 => ?_) (fun h5 => ?_)
    · refine go_aload_n 0 dX12_takesSign_17 rfl rfl ?_
      refine go_dup dX12_takesSign_18 rfl ?_
      refine go_getI gf_RX12_123 gcf_12 gft_12_2 dX12_takesSign_19 (fun v6 => ?_)
      refine go_iconst (v := 1) dX12_takesSign_22 (by decide) ?_
      refine go_iadd dX12_takesSign_23 ?_
      refine go_putI gf_RX12_123 gcf_12 gpl_12_2 gft_12_2 dX12_takesSign_24 (fun s7 _ => ?_)
      refine go_iconst (v := 1) dX12_takesSign_27 (by decide) ?_
      exact go_ret rfl dX12_takesSign_28
    · refine go_iconst (v := 0) dX12_takesSign_15 (by decide) ?_
      exact go_ret rfl dX12_takesSign_16
  · refine go_iconst (v := 0) dX12_takesSign_15 (by decide) ?_
    exact go_ret rfl dX12_takesSign_16
set_option maxRecDepth 100000 in
set_option maxHeartbeats 4000000 in
theorem cX12_takesSign_c {d : Nat} (hd : 1 ≤ d) {a0 : Nat} {x1 : Int32} {s0 : gH} {r : Int32} {s1 : gH} (h : fX12_takesSign a0 x1 s0 = some (r, s1)) : gMt mX12_takesSign d [vr a0, vi x1] s0 (some (vi r)) s1 := by
  obtain ⟨h1, h2⟩ := gzr_some h
  exact gMt_of (rv := rvI) (by decide +kernel) (Nat.le_of_ble_eq_true rfl) ⟨_, rfl, gnarZ h2⟩ (fun _ => wX12_takesSign hd) h1
def fX12_asksSign (a0 : Nat) (x1 : Int32) (s0 : gH) : Option (Unit × gH) :=
  (ggI s0 a0 12 5).bind fun v1 =>
  if v1 = 0 then
    gb2 (gcv s0 a0 12 (fX12_takesSign a0 x1 s0)) fun r3 s4 =>
    if r3 = 0 then
      (ggI s4 a0 12 2).bind fun v6 =>
      gb2 (gcv s4 a0 12 (fX12_fail a0 1 v6 s4)) fun r7 s8 =>
      some ((), s8)
    else
      some ((), s4)
  else
    some ((), s0)
set_option maxRecDepth 100000 in
set_option maxHeartbeats 4000000 in
theorem wX12_asksSign {X : Nat × (Nat → Int32)} {d : Nat} (hd : 2 ≤ d) {a0 : Nat} {x1 : Int32} {s0 : gH} : gGo X rvU mX12_asksSign d 0 [(0, vr a0), (1, vi x1)] [] s0 (fX12_asksSign a0 x1 s0) := by
  unfold fX12_asksSign
  refine go_aload_n 0 dX12_asksSign_0 rfl rfl ?_
  refine go_getI gf_RX12_117 gcf_12 gft_12_5 dX12_asksSign_1 (fun v1 => ?_)
  refine go_if_ne (tgt := 24) dX12_asksSign_4 (by decide) (fun h2 => ?_) (fun h2 => ?_)
  · refine go_aload_n 0 dX12_asksSign_7 rfl rfl ?_
    refine go_iload_n 1 dX12_asksSign_8 rfl rfl ?_
    refine go_callV_I (as := [vi x1]) gk_RX12_139 gmf_X12_takesSign (by decide) rfl (by omega) rfl rfl (Nat.le_of_ble_eq_true rfl) dX12_asksSign_9 (fun _ _ h => cX12_takesSign_c (by omega) h) (fun r3 s4 _ => ?_)
    refine go_if_ne (tgt := 24) dX12_asksSign_12 (by decide) (fun h5 => ?_) (fun h5 => ?_)
    · refine go_aload_n 0 dX12_asksSign_15 rfl rfl ?_
      refine go_iconst (v := 1) dX12_asksSign_16 (by decide) ?_
      refine go_aload_n 0 dX12_asksSign_17 rfl rfl ?_
      refine go_getI gf_RX12_123 gcf_12 gft_12_2 dX12_asksSign_18 (fun v6 => ?_)
      refine go_callV_v (as := [vi 1, vi v6]) gk_RX12_142 gmf_X12_fail (by decide) rfl (by omega) rfl rfl (Nat.le_of_ble_eq_true rfl) dX12_asksSign_21 (fun _ _ h => cX12_fail_c (by omega) h) (fun r7 s8 _ => ?_)
      exact go_retv rfl dX12_asksSign_24
    · exact go_retv rfl dX12_asksSign_24
  · exact go_retv rfl dX12_asksSign_24
set_option maxRecDepth 100000 in
set_option maxHeartbeats 4000000 in
theorem cX12_asksSign_c {d : Nat} (hd : 2 ≤ d) {a0 : Nat} {x1 : Int32} {s0 : gH} {r : Unit} {s1 : gH} (h : fX12_asksSign a0 x1 s0 = some (r, s1)) : gMt mX12_asksSign d [vr a0, vi x1] s0 none s1 :=
  gMt_of (rv := rvU) (by decide +kernel) (Nat.le_of_ble_eq_true rfl) rfl (fun _ => wX12_asksSign hd) h
def gX12_dayOf_L7  (a0 : Nat) (x1 : Int32) (x2 : Int32) (x3 : Int32) : Nat → Int32 → gH → Option (Int32 × gH)
  | 0, _, _ => none
  | n + 1, x4, s0 =>
    if x4 < 14610 then
      (ggR s0 a0 12 13).bind fun v5 =>
      (gaI s0 v5 2 x4).bind fun v6 =>
      if v6 = x1 then
        (ggR s0 a0 12 14).bind fun v8 =>
        (gaI s0 v8 2 x4).bind fun v9 =>
        if v9 = x2 then
          (ggR s0 a0 12 15).bind fun v11 =>
          (gaI s0 v11 2 x4).bind fun v12 =>
          if v12 = x3 then
            some (x4, s0)
          else
            gX12_dayOf_L7 a0 x1 x2 x3 n (x4 + 1) s0
        else
          gX12_dayOf_L7 a0 x1 x2 x3 n (x4 + 1) s0
      else
        gX12_dayOf_L7 a0 x1 x2 x3 n (x4 + 1) s0
    else
      some (-1, s0)
set_option maxRecDepth 100000 in
set_option maxHeartbeats 4000000 in
theorem wX12_dayOf_L7 {X : Nat × (Nat → Int32)} {d : Nat} (hd : 3 ≤ d)  (a0 : Nat) (x1 : Int32) (x2 : Int32) (x3 : Int32) : ∀ (n : Nat) (x4 : Int32) (s0 : gH), gGo X rvI mX12_dayOf d 7 [(0, vr a0), (1, vi x1), (2, vi x2), (3, vi x3), (4, vi x4)] [] s0 (gX12_dayOf_L7 a0 x1 x2 x3 n x4 s0) := by
  intro n
  induction n with
  | zero => intros; exact go_none
  | succ n ih =>
    intro x4 s0
    show gGo _ _ _ _ _ _ _ _ (gX12_dayOf_L7 a0 x1 x2 x3 (n + 1) x4 s0)
    unfold gX12_dayOf_L7
    refine go_iload 4 dX12_dayOf_7 rfl ?_
    refine go_sipush (v := 14610) dX12_dayOf_9 (by decide) ?_
    refine go_icmp_ge (tgt := 57) dX12_dayOf_12 (by decide) (fun h4 => ?_) (fun h4 => ?_)
    · refine go_aload_n 0 dX12_dayOf_15 rfl rfl ?_
      refine go_getR gf_RX12_24 gcf_12 gft_12_13 dX12_dayOf_16 (fun v5 => ?_)
      refine go_iload 4 dX12_dayOf_19 rfl ?_
      refine go_iaload dX12_dayOf_21 (fun v6 _ => ?_)
      refine go_iload_n 1 dX12_dayOf_22 rfl rfl ?_
      refine go_icmp_ne (tgt := 51) dX12_dayOf_23 (by decide) (fun h7 => ?_) (fun h7 => ?_)
      · refine go_aload_n 0 dX12_dayOf_26 rfl rfl ?_
        refine go_getR gf_RX12_27 gcf_12 gft_12_14 dX12_dayOf_27 (fun v8 => ?_)
        refine go_iload 4 dX12_dayOf_30 rfl ?_
        refine go_iaload dX12_dayOf_32 (fun v9 _ => ?_)
        refine go_iload_n 2 dX12_dayOf_33 rfl rfl ?_
        refine go_icmp_ne (tgt := 51) dX12_dayOf_34 (by decide) (fun h10 => ?_) (fun h10 => ?_)
        · refine go_aload_n 0 dX12_dayOf_37 rfl rfl ?_
          refine go_getR gf_RX12_30 gcf_12 gft_12_15 dX12_dayOf_38 (fun v11 => ?_)
          refine go_iload 4 dX12_dayOf_41 rfl ?_
          refine go_iaload dX12_dayOf_43 (fun v12 _ => ?_)
          refine go_iload_n 3 dX12_dayOf_44 rfl rfl ?_
          refine go_icmp_ne (tgt := 51) dX12_dayOf_45 (by decide) (fun h13 => ?_) (fun h13 => ?_)
          · refine go_iload 4 dX12_dayOf_48 rfl ?_
            exact go_ret rfl dX12_dayOf_50
          · refine go_iinc (v := 1) (L' := [(4, vi (x4 + 1)), (0, vr a0), (1, vi x1), (2, vi x2), (3, vi x3)]) 4 dX12_dayOf_51 rfl (by decide) (by decide) rfl ?_
            refine go_goto (tgt := 7) dX12_dayOf_54 (by decide) ?_
            exact go_sub [1, 2, 3, 4, 0] (ih (x4 + 1) s0) rfl
        · refine go_iinc (v := 1) (L' := [(4, vi (x4 + 1)), (0, vr a0), (1, vi x1), (2, vi x2), (3, vi x3)]) 4 dX12_dayOf_51 rfl (by decide) (by decide) rfl ?_
          refine go_goto (tgt := 7) dX12_dayOf_54 (by decide) ?_
          exact go_sub [1, 2, 3, 4, 0] (ih (x4 + 1) s0) rfl
      · refine go_iinc (v := 1) (L' := [(4, vi (x4 + 1)), (0, vr a0), (1, vi x1), (2, vi x2), (3, vi x3)]) 4 dX12_dayOf_51 rfl (by decide) (by decide) rfl ?_
        refine go_goto (tgt := 7) dX12_dayOf_54 (by decide) ?_
        exact go_sub [1, 2, 3, 4, 0] (ih (x4 + 1) s0) rfl
    · refine go_iconst (v := -1) dX12_dayOf_57 (by decide) ?_
      exact go_ret rfl dX12_dayOf_58
def fX12_dayOf (a0 : Nat) (x1 : Int32) (x2 : Int32) (x3 : Int32) (s0 : gH) : Option (Int32 × gH) :=
  gb2 (gcv s0 a0 12 (fX12_laysDays a0 s0)) fun r1 s2 =>
  gX12_dayOf_L7
    a0 x1 x2 x3 20000 0 s2
set_option maxRecDepth 100000 in
set_option maxHeartbeats 4000000 in
theorem wX12_dayOf {X : Nat × (Nat → Int32)} {d : Nat} (hd : 3 ≤ d) {a0 : Nat} {x1 : Int32} {x2 : Int32} {x3 : Int32} {s0 : gH} : gGo X rvI mX12_dayOf d 0 [(0, vr a0), (1, vi x1), (2, vi x2), (3, vi x3)] [] s0 (fX12_dayOf a0 x1 x2 x3 s0) := by
  unfold fX12_dayOf
  refine go_aload_n 0 dX12_dayOf_0 rfl rfl ?_
  refine go_callV_v (as := []) gk_RX12_183 gmf_X12_laysDays (by decide) rfl (by omega) rfl rfl (Nat.le_of_ble_eq_true rfl) dX12_dayOf_1 (fun _ _ h => cX12_laysDays_c (by omega) h) (fun r1 s2 _ => ?_)
  refine go_iconst (v := 0) dX12_dayOf_4 (by decide) ?_
  refine go_istore (L' := [(4, vi 0), (0, vr a0), (1, vi x1), (2, vi x2), (3, vi x3)]) dX12_dayOf_5 (by decide) rfl ?_
  refine go_sub [1, 2, 3, 4, 0] (wX12_dayOf_L7 hd a0 x1 x2 x3 20000 0 s2) rfl
set_option maxRecDepth 100000 in
set_option maxHeartbeats 4000000 in
theorem cX12_dayOf_c {d : Nat} (hd : 3 ≤ d) {a0 : Nat} {x1 : Int32} {x2 : Int32} {x3 : Int32} {s0 : gH} {r : Int32} {s1 : gH} (h : fX12_dayOf a0 x1 x2 x3 s0 = some (r, s1)) : gMt mX12_dayOf d [vr a0, vi x1, vi x2, vi x3] s0 (some (vi r)) s1 :=
  gMt_of (rv := rvI) (by decide +kernel) (Nat.le_of_ble_eq_true rfl) ⟨_, rfl, rfl⟩ (fun _ => wX12_dayOf hd) h
