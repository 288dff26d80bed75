/-! walks, written by a program -/
def gX2_shiftSooner_L13  (a0 : Nat) (x2 : Int32) (x3 : Int32) : Nat → Int32 → gH → Option (Unit × gH)
  | 0, _, _ => none
  | n + 1, x4, s0 =>
    if x4 < 229 then
      gjn (fun (z6 : Int64) (s7 : gH) =>
          (ggR s7 a0 2 0).bind fun v8 =>
          gb2 (gcv s7 a0 2 (fX2_word a0 (x4 + x2) s7)) fun r9 s10 =>
          (saJ s10 v8 x4 ((gLushr r9 x3) ||| z6)).bind fun s11 =>
          gX2_shiftSooner_L13 a0 x2 x3 n (x4 + 1) s11
      ) fun j5 =>
      if x3 = 0 then
        j5 0 s0
      else
        gb2 (gcv s0 a0 2 (fX2_word a0 ((x4 + x2) + 1) s0)) fun r13 s14 =>
        j5 (gLshl r13 (64 - x3)) s14
    else
      some ((), s0)
set_option maxRecDepth 100000 in
set_option maxHeartbeats 4000000 in
theorem wX2_shiftSooner_L13 {X : Nat × (Nat → Int32)} {d : Nat} (hd : 1 ≤ d)  (a0 : Nat) (x2 : Int32) (x3 : Int32) : ∀ (n : Nat) (x4 : Int32) (s0 : gH), gGo X rvU mX2_shiftSooner d 13 [(0, vr a0), (2, vi x2), (3, vi x3), (4, vi x4)] [] s0 (gX2_shiftSooner_L13 a0 x2 x3 n x4 s0) := by
  intro n
  induction n with
  | zero => intros; exact go_none
  | succ n ih =>
    intro x4 s0
    show gGo _ _ _ _ _ _ _ _ (gX2_shiftSooner_L13 a0 x2 x3 (n + 1) x4 s0)
    unfold gX2_shiftSooner_L13
    refine go_iload 3 dX2_shiftSooner_13 rfl ?_
    refine go_sipush (v := 229) dX2_shiftSooner_15 (by decide) ?_
    refine go_icmp_ge (tgt := 72) dX2_shiftSooner_18 (by decide) (fun h4 => ?_) (fun h4 => ?_)
    · refine go_iload_n 2 dX2_shiftSooner_21 rfl rfl ?_
      refine go_gjn (P := fun j5 => ∀ (z6 : Int64) (s7 : gH), gGo X rvU mX2_shiftSooner d 44 [(0, vr a0), (2, vi x2), (3, vi x3), (4, vi x4)] [vl z6] s7 (j5 z6 s7)) (fun z6 s7 => ?_) (fun j5 hj5 => ?_)
      · refine go_lstore (L' := [(5, vl z6), (0, vr a0), (2, vi x2), (3, vi x3), (4, vi x4)]) dX2_shiftSooner_44 (by decide) rfl ?_
        refine go_aload_n 1 dX2_shiftSooner_46 rfl rfl ?_
        refine go_getR gf_RX2_11 gcf_2 gft_2_0 dX2_shiftSooner_47 (fun v8 => ?_)
        refine go_iload 4 dX2_shiftSooner_50 rfl ?_
        refine go_aload_n 1 dX2_shiftSooner_52 rfl rfl ?_
        refine go_iload 4 dX2_shiftSooner_53 rfl ?_
        refine go_iload_n 2 dX2_shiftSooner_55 rfl rfl ?_
        refine go_iadd dX2_shiftSooner_56 ?_
        refine go_callV_J (as := [vi (x4 + x2)]) gk_RX2_33 gmf_X2_word (by decide) rfl (by omega) rfl rfl (Nat.le_of_ble_eq_true rfl) dX2_shiftSooner_57 (fun _ _ h => cX2_word_c (by omega) h) (fun r9 s10 _ => ?_)
        refine go_iload_n 3 dX2_shiftSooner_60 rfl rfl ?_
        refine go_lushr dX2_shiftSooner_61 ?_
        refine go_lload 0 dX2_shiftSooner_62 rfl ?_
        refine go_lor dX2_shiftSooner_64 ?_
        refine go_lastore dX2_shiftSooner_65 (fun s11 _ => ?_)
        refine go_iinc (v := 1) (L' := [(4, vi (x4 + 1)), (5, vl z6), (0, vr a0), (2, vi x2), (3, vi x3)]) 4 dX2_shiftSooner_66 rfl (by decide) (by decide) rfl ?_
        refine go_goto (tgt := 13) dX2_shiftSooner_69 (by decide) ?_
        exact go_sub [2, 3, 4, 0] (ih (x4 + 1) s11) rfl
      · refine go_if_ne (tgt := 29) dX2_shiftSooner_22 (by decide) (fun h12 => ?_) (fun h12 => ?_)
        · refine go_lconst (v := 0) dX2_shiftSooner_25 (by decide) ?_
          refine go_goto (tgt := 44) dX2_shiftSooner_26 (by decide) ?_
          exact go_sub [0, 1, 2, 3] (hj5 0 s0) rfl
        · refine go_aload_n 0 dX2_shiftSooner_29 rfl rfl ?_
          refine go_iload 3 dX2_shiftSooner_30 rfl ?_
          refine go_iload_n 1 dX2_shiftSooner_32 rfl rfl ?_
          refine go_iadd dX2_shiftSooner_33 ?_
          refine go_iconst (v := 1) dX2_shiftSooner_34 (by decide) ?_
          refine go_iadd dX2_shiftSooner_35 ?_
          refine go_callV_J (as := [vi ((x4 + x2) + 1)]) gk_RX2_33 gmf_X2_word (by decide) rfl (by omega) rfl rfl (Nat.le_of_ble_eq_true rfl) dX2_shiftSooner_36 (fun _ _ h => cX2_word_c (by omega) h) (fun r13 s14 _ => ?_)
          refine go_bipush (v := 64) dX2_shiftSooner_39 (by decide) ?_
          refine go_iload_n 2 dX2_shiftSooner_41 rfl rfl ?_
          refine go_isub dX2_shiftSooner_42 ?_
          refine go_lshl dX2_shiftSooner_43 ?_
          exact go_sub [0, 1, 2, 3] (hj5 (gLshl r13 (64 - x3)) s14) rfl
    · exact go_retv rfl dX2_shiftSooner_72
def fX2_shiftSooner (a0 : Nat) (x1 : Int32) (s0 : gH) : Option (Unit × gH) :=
  glet (x1 >>> (6 &&& 31)) fun y1 =>
  glet (x1 &&& 63) fun y2 =>
  gX2_shiftSooner_L13
    a0 y1 y2 20000 0 s0
set_option maxRecDepth 100000 in
set_option maxHeartbeats 4000000 in
theorem wX2_shiftSooner {X : Nat × (Nat → Int32)} {d : Nat} (hd : 1 ≤ d) {a0 : Nat} {x1 : Int32} {s0 : gH} : gGo X rvU mX2_shiftSooner d 0 [(0, vr a0), (1, vi x1)] [] s0 (fX2_shiftSooner a0 x1 s0) := by
  unfold fX2_shiftSooner
  refine go_iload_n 1 dX2_shiftSooner_0 rfl rfl ?_
  refine go_bipush (v := 6) dX2_shiftSooner_1 (by decide) ?_
  refine go_ishr dX2_shiftSooner_3 ?_
  refine go_istore_n_l (L' := fun y1 => [(2, vi y1), (0, vr a0), (1, vi x1)]) dX2_shiftSooner_4 rfl (by decide) (fun _ => rfl) (fun y1 => ?_)
  refine go_iload_n 2 dX2_shiftSooner_5 rfl rfl ?_
  refine go_bipush (v := 63) dX2_shiftSooner_6 (by decide) ?_
  refine go_iand dX2_shiftSooner_8 ?_
  refine go_istore_n_l (L' := fun y2 => [(3, vi y2), (2, vi y1), (0, vr a0), (1, vi x1)]) dX2_shiftSooner_9 rfl (by decide) (fun _ => rfl) (fun y2 => ?_)
  refine go_iconst (v := 0) dX2_shiftSooner_10 (by decide) ?_
  refine go_istore (L' := [(4, vi 0), (3, vi y2), (2, vi y1), (0, vr a0), (1, vi x1)]) dX2_shiftSooner_11 (by decide) rfl ?_
  refine go_sub [3, 2, 1, 0] (wX2_shiftSooner_L13 hd a0 y1 y2 20000 0 s0) rfl
set_option maxRecDepth 100000 in
set_option maxHeartbeats 4000000 in
theorem cX2_shiftSooner_c {d : Nat} (hd : 1 ≤ d) {a0 : Nat} {x1 : Int32} {s0 : gH} {r : Unit} {s1 : gH} (h : fX2_shiftSooner a0 x1 s0 = some (r, s1)) : gMt mX2_shiftSooner d [vr a0, vi x1] s0 none s1 :=
  gMt_of (rv := rvU) (by decide +kernel) (Nat.le_of_ble_eq_true rfl) rfl (fun _ => wX2_shiftSooner hd) h
def gX2_search_L32 (k136 : Int64 → Int32 → gH → Option (Int32 × gH)) (a0 : Nat) (a1 : Nat) (x3 : Int32) : Nat → Int64 → Int32 → Int64 → gH → Option (Int32 × gH)
  | 0, _, _, _, _ => none
  | n + 1, x4, x6, x7, s0 =>
    if lg_cmp x4 0 = 0 then
      if x6 < 229 then
        (ggR s0 a0 2 0).bind fun v8 =>
        (gaJ s0 v8 x6).bind fun v9 =>
        (ggR s0 a1 2 0).bind fun v10 =>
        (gaJ s0 v10 x6).bind fun v11 =>
        gjn (fun (z13 : Int64) (s14 : gH) =>
            gjn (fun (z16 : Int64) (z17 : Int64) (s18 : gH) =>
                glet (z17 &&& z16) fun y19 =>
                gX2_search_L32 k136 a0 a1 x3 n y19 (x6 + 1) (-1) s18
            ) fun j15 =>
            if x6 = 228 then
              j15 (x7 &&& 262143) z13 s14
            else
              j15 x7 z13 s14
        ) fun j12 =>
        if x3 = 0 then
          j12 (v9 &&& v11) s0
        else
          if x3 = 1 then
            j12 (v9 ^^^ v11) s0
          else
            j12 ((v9 ||| v11) ^^^ (-1)) s0
      else
        k136 x4 x6 s0
    else
      k136 x4 x6 s0
set_option maxRecDepth 100000 in
set_option maxHeartbeats 4000000 in
theorem wX2_search_L32 {X : Nat × (Nat → Int32)} {d : Nat} (hd : 1 ≤ d) (k136 : Int64 → Int32 → gH → Option (Int32 × gH)) (a0 : Nat) (a1 : Nat) (x3 : Int32) (hk136 : ∀ (x4 : Int64) (x6 : Int32) (s : gH), gGo X rvI mX2_search d 136 [(4, vl x4), (6, vi x6)] [] s (k136 x4 x6 s)) : ∀ (n : Nat) (x4 : Int64) (x6 : Int32) (x7 : Int64) (s0 : gH), gGo X rvI mX2_search d 32 [(0, vr a0), (1, vr a1), (3, vi x3), (4, vl x4), (6, vi x6), (7, vl x7)] [] s0 (gX2_search_L32 k136 a0 a1 x3 n x4 x6 x7 s0) := by
  intro n
  induction n with
  | zero => intros; exact go_none
  | succ n ih =>
    intro x4 x6 x7 s0
    show gGo _ _ _ _ _ _ _ _ (gX2_search_L32 k136 a0 a1 x3 (n + 1) x4 x6 x7 s0)
    unfold gX2_search_L32
    refine go_lload 3 dX2_search_32 rfl ?_
    refine go_lconst (v := 0) dX2_search_34 (by decide) ?_
    refine go_lcmp dX2_search_35 ?_
    refine go_if_ne (tgt := 136) dX2_search_36 (by decide) (fun h6 => ?_) (fun h6 => ?_)
    · refine go_iload 4 dX2_search_39 rfl ?_
      refine go_sipush (v := 229) dX2_search_41 (by decide) ?_
      refine go_icmp_ge (tgt := 136) dX2_search_44 (by decide) (fun h7 => ?_) (fun h7 => ?_)
      · refine go_aload_n 0 dX2_search_47 rfl rfl ?_
        refine go_getR gf_RX2_11 gcf_2 gft_2_0 dX2_search_48 (fun v8 => ?_)
        refine go_iload 4 dX2_search_51 rfl ?_
        refine go_laload dX2_search_53 (fun v9 _ => ?_)
        refine go_lstore (L' := [(9, vl v9), (0, vr a0), (1, vr a1), (3, vi x3), (4, vl x4), (6, vi x6), (7, vl x7)]) dX2_search_54 (by decide) rfl ?_
        refine go_aload_n 2 dX2_search_56 rfl rfl ?_
        refine go_getR gf_RX2_11 gcf_2 gft_2_0 dX2_search_57 (fun v10 => ?_)
        refine go_iload 5 dX2_search_60 rfl ?_
        refine go_laload dX2_search_62 (fun v11 _ => ?_)
        refine go_lstore (L' := [(11, vl v11), (9, vl v9), (0, vr a0), (1, vr a1), (3, vi x3), (4, vl x4), (6, vi x6), (7, vl x7)]) dX2_search_63 (by decide) rfl ?_
        refine go_iload_n 4 dX2_search_65 rfl rfl ?_
        refine go_gjn (P := fun j12 => ∀ (z13 : Int64) (s14 : gH), gGo X rvI mX2_search d 99 [(0, vr a0), (1, vr a1), (3, vi x3), (6, vi x6), (7, vl x7)] [vl z13] s14 (j12 z13 s14)) (fun z13 s14 => ?_) (fun j12 hj12 => ?_)
        · refine go_lstore (L' := [(4, vl z13), (0, vr a0), (1, vr a1), (3, vi x3), (6, vi x6), (7, vl x7)]) dX2_search_99 (by decide) rfl ?_
          refine go_lload 0 dX2_search_101 rfl ?_
          refine go_iload 4 dX2_search_103 rfl ?_
          refine go_sipush (v := 228) dX2_search_105 (by decide) ?_
          refine go_gjn (P := fun j15 => ∀ (z16 : Int64) (z17 : Int64) (s18 : gH), gGo X rvI mX2_search d 122 [(0, vr a0), (1, vr a1), (3, vi x3), (6, vi x6)] [vl z16, vl z17] s18 (j15 z16 z17 s18)) (fun z16 z17 s18 => ?_) (fun j15 hj15 => ?_)
          · refine go_land dX2_search_122 ?_
            refine go_lstore_l (L' := fun y19 => [(4, vl y19), (0, vr a0), (1, vr a1), (3, vi x3), (6, vi x6)]) dX2_search_123 (by decide) (fun _ => rfl) (fun y19 => ?_)
            refine go_ldc2 gcl_RX2_31 dX2_search_125 ?_
            refine go_lstore (L' := [(7, vl (-1)), (4, vl y19), (0, vr a0), (1, vr a1), (3, vi x3), (6, vi x6)]) dX2_search_128 (by decide) rfl ?_
            refine go_iinc (v := 1) (L' := [(6, vi (x6 + 1)), (7, vl (-1)), (4, vl y19), (0, vr a0), (1, vr a1), (3, vi x3)]) 5 dX2_search_130 rfl (by decide) (by decide) rfl ?_
            refine go_goto (tgt := 32) dX2_search_133 (by decide) ?_
            exact go_sub [3, 4, 5, 2, 0, 1] (ih y19 (x6 + 1) (-1) s18) rfl
          · refine go_icmp_ne (tgt := 120) dX2_search_108 (by decide) (fun h20 => ?_) (fun h20 => ?_)
            · refine go_lload 5 dX2_search_111 rfl ?_
              refine go_ldc2 gcl_RX2_37 dX2_search_113 ?_
              refine go_land dX2_search_116 ?_
              refine go_goto (tgt := 122) dX2_search_117 (by decide) ?_
              exact go_sub [1, 2, 3, 4] (hj15 (x7 &&& 262143) z13 s14) rfl
            · refine go_lload 5 dX2_search_120 rfl ?_
              exact go_sub [1, 2, 3, 4] (hj15 x7 z13 s14) rfl
        · refine go_if_ne (tgt := 77) dX2_search_66 (by decide) (fun h21 => ?_) (fun h21 => ?_)
          · refine go_lload 1 dX2_search_69 rfl ?_
            refine go_lload 0 dX2_search_71 rfl ?_
            refine go_land dX2_search_73 ?_
            refine go_goto (tgt := 99) dX2_search_74 (by decide) ?_
            exact go_sub [2, 3, 4, 6, 7] (hj12 (v9 &&& v11) s0) rfl
          · refine go_iload_n 4 dX2_search_77 rfl rfl ?_
            refine go_iconst (v := 1) dX2_search_78 (by decide) ?_
            refine go_icmp_ne (tgt := 90) dX2_search_79 (by decide) (fun h22 => ?_) (fun h22 => ?_)
            · refine go_lload 1 dX2_search_82 rfl ?_
              refine go_lload 0 dX2_search_84 rfl ?_
              refine go_lxor dX2_search_86 ?_
              refine go_goto (tgt := 99) dX2_search_87 (by decide) ?_
              exact go_sub [2, 3, 4, 6, 7] (hj12 (v9 ^^^ v11) s0) rfl
            · refine go_lload 1 dX2_search_90 rfl ?_
              refine go_lload 0 dX2_search_92 rfl ?_
              refine go_lor dX2_search_94 ?_
              refine go_ldc2 gcl_RX2_31 dX2_search_95 ?_
              refine go_lxor dX2_search_98 ?_
              exact go_sub [2, 3, 4, 6, 7] (hj12 ((v9 ||| v11) ^^^ (-1)) s0) rfl
      · exact go_sub [3, 4] (hk136 x4 x6 s0) rfl
    · exact go_sub [3, 4] (hk136 x4 x6 s0) rfl
def fX2_search (a0 : Nat) (a1 : Nat) (x2 : Int32) (x3 : Int32) (s0 : gH) : Option (Int32 × gH) :=
  if x2 < 0 then
    some (-1, s0)
  else
    if x2 < 14610 then
      glet (x2 >>> (6 &&& 31)) fun y3 =>
      glet (gLshl (-1) (x2 &&& 63)) fun y4 =>
      gX2_search_L32
        (fun y23 y24 s25 =>
          if lg_cmp y23 0 = 0 then
            some (-1, s25)
          else
            gb2 (fJ13_bitCount_95d88 ((y23 &&& (-y23)) - 1) s25) fun r27 s28 =>
            some (((y24 - 1) * 64) + r27, s28))
        a0 a1 x3 20000 0 y3 y4 s0
    else
      some (-1, s0)
set_option maxRecDepth 100000 in
set_option maxHeartbeats 4000000 in
theorem wX2_search {X : Nat × (Nat → Int32)} {d : Nat} (hd : 1 ≤ d) {a0 : Nat} {a1 : Nat} {x2 : Int32} {x3 : Int32} {s0 : gH} : gGo X rvI mX2_search d 0 [(0, vr a0), (1, vr a1), (2, vi x2), (3, vi x3)] [] s0 (fX2_search a0 a1 x2 x3 s0) := by
  unfold fX2_search
  refine go_iload_n 2 dX2_search_0 rfl rfl ?_
  refine go_if_lt (tgt := 11) dX2_search_1 (by decide) (fun h1 => ?_) (fun h1 => ?_)
  · refine go_iconst (v := -1) dX2_search_11 (by decide) ?_
    exact go_ret rfl dX2_search_12
  · refine go_iload_n 2 dX2_search_4 rfl rfl ?_
    refine go_sipush (v := 14610) dX2_search_5 (by decide) ?_
    refine go_icmp_lt (tgt := 13) dX2_search_8 (by decide) (fun h2 => ?_) (fun h2 => ?_)
    · refine go_lconst (v := 0) dX2_search_13 (by decide) ?_
      refine go_lstore (L' := [(4, vl 0), (0, vr a0), (1, vr a1), (2, vi x2), (3, vi x3)]) dX2_search_14 (by decide) rfl ?_
      refine go_iload_n 3 dX2_search_16 rfl rfl ?_
      refine go_bipush (v := 6) dX2_search_17 (by decide) ?_
      refine go_ishr dX2_search_19 ?_
      refine go_istore_l (L' := fun y3 => [(6, vi y3), (4, vl 0), (0, vr a0), (1, vr a1), (2, vi x2), (3, vi x3)]) dX2_search_20 (by decide) (fun _ => rfl) (fun y3 => ?_)
      refine go_ldc2 gcl_RX2_31 dX2_search_22 ?_
      refine go_iload_n 4 dX2_search_25 rfl rfl ?_
      refine go_bipush (v := 63) dX2_search_26 (by decide) ?_
      refine go_iand dX2_search_28 ?_
      refine go_lshl dX2_search_29 ?_
      refine go_lstore_l (L' := fun y4 => [(7, vl y4), (6, vi y3), (4, vl 0), (0, vr a0), (1, vr a1), (2, vi x2), (3, vi x3)]) dX2_search_30 (by decide) (fun _ => rfl) (fun y4 => ?_)
      refine go_sub [3, 4, 6, 2, 1, 0] (wX2_search_L32 hd _ a0 a1 x3 ?_ 20000 0 y3 y4 s0) rfl
      intro y23 y24 s25
      refine go_lload 0 dX2_search_136 rfl ?_
      refine go_lconst (v := 0) dX2_search_138 (by decide) ?_
      refine go_lcmp dX2_search_139 ?_
      refine go_if_ne (tgt := 147) dX2_search_140 (by decide) (fun h26 => ?_) (fun h26 => ?_)
      · refine go_iconst (v := -1) dX2_search_143 (by decide) ?_
        refine go_goto (tgt := 166) dX2_search_144 (by decide) ?_
        exact go_ret rfl dX2_search_166
      · refine go_iload 1 dX2_search_147 rfl ?_
        refine go_iconst (v := 1) dX2_search_149 (by decide) ?_
        refine go_isub dX2_search_150 ?_
        refine go_bipush (v := 64) dX2_search_151 (by decide) ?_
        refine go_imul dX2_search_153 ?_
        refine go_lload 0 dX2_search_154 rfl ?_
        refine go_lload 0 dX2_search_156 rfl ?_
        refine go_lneg dX2_search_158 ?_
        refine go_land dX2_search_159 ?_
        refine go_lconst (v := 1) dX2_search_160 (by decide) ?_
        refine go_lsub dX2_search_161 ?_
        refine go_callS_I (as := [vl ((y23 &&& (-y23)) - 1)]) gk_RX2_51 gmf_J13_bitCount_95d88 (by omega) rfl rfl (Nat.le_of_ble_eq_true rfl) dX2_search_162 (fun _ _ h => cJ13_bitCount_95d88_c (by omega) h) (fun r27 s28 _ => ?_)
        refine go_iadd dX2_search_165 ?_
        exact go_ret rfl dX2_search_166
    · refine go_iconst (v := -1) dX2_search_11 (by decide) ?_
      exact go_ret rfl dX2_search_12
set_option maxRecDepth 100000 in
set_option maxHeartbeats 4000000 in
theorem cX2_search_c {d : Nat} (hd : 1 ≤ d) {a0 : Nat} {a1 : Nat} {x2 : Int32} {x3 : Int32} {s0 : gH} {r : Int32} {s1 : gH} (h : fX2_search a0 a1 x2 x3 s0 = some (r, s1)) : gMt mX2_search d [vr a0, vr a1, vi x2, vi x3] s0 (some (vi r)) s1 :=
  gMt_of (rv := rvI) (by decide +kernel) (Nat.le_of_ble_eq_true rfl) ⟨_, rfl, rfl⟩ (fun _ => wX2_search hd) h
def gX2_without_L2  (a0 : Nat) (a1 : Nat) : Nat → Int32 → gH → Option (Unit × gH)
  | 0, _, _ => none
  | n + 1, x2, s0 =>
    if x2 < 229 then
      (ggR s0 a0 2 0).bind fun v3 =>
      (gaJ s0 v3 x2).bind fun v4 =>
      (ggR s0 a1 2 0).bind fun v5 =>
      (gaJ s0 v5 x2).bind fun v6 =>
      (saJ s0 v3 x2 (v4 &&& (v6 ^^^ (-1)))).bind fun s7 =>
      gX2_without_L2 a0 a1 n (x2 + 1) s7
    else
      some ((), s0)
set_option maxRecDepth 100000 in
set_option maxHeartbeats 4000000 in
theorem wX2_without_L2 {X : Nat × (Nat → Int32)} {d : Nat} (hd : 0 ≤ d)  (a0 : Nat) (a1 : Nat) : ∀ (n : Nat) (x2 : Int32) (s0 : gH), gGo X rvU mX2_without d 2 [(0, vr a0), (1, vr a1), (2, vi x2)] [] s0 (gX2_without_L2 a0 a1 n x2 s0) := by
  intro n
  induction n with
  | zero => intros; exact go_none
  | succ n ih =>
    intro x2 s0
    show gGo _ _ _ _ _ _ _ _ (gX2_without_L2 a0 a1 (n + 1) x2 s0)
    unfold gX2_without_L2
    refine go_iload_n 2 dX2_without_2 rfl rfl ?_
    refine go_sipush (v := 229) dX2_without_3 (by decide) ?_
    refine go_icmp_ge (tgt := 34) dX2_without_6 (by decide) (fun h2 => ?_) (fun h2 => ?_)
    · refine go_aload_n 0 dX2_without_9 rfl rfl ?_
      refine go_getR gf_RX2_11 gcf_2 gft_2_0 dX2_without_10 (fun v3 => ?_)
      refine go_iload_n 2 dX2_without_13 rfl rfl ?_
      refine go_dup2 dX2_without_14 rfl rfl ?_
      refine go_laload dX2_without_15 (fun v4 _ => ?_)
      refine go_aload_n 1 dX2_without_16 rfl rfl ?_
      refine go_getR gf_RX2_11 gcf_2 gft_2_0 dX2_without_17 (fun v5 => ?_)
      refine go_iload_n 2 dX2_without_20 rfl rfl ?_
      refine go_laload dX2_without_21 (fun v6 _ => ?_)
      refine go_ldc2 gcl_RX2_31 dX2_without_22 ?_
      refine go_lxor dX2_without_25 ?_
      refine go_land dX2_without_26 ?_
      refine go_lastore dX2_without_27 (fun s7 _ => ?_)
      refine go_iinc (v := 1) (L' := [(2, vi (x2 + 1)), (0, vr a0), (1, vr a1)]) 2 dX2_without_28 rfl (by decide) (by decide) rfl ?_
      refine go_goto (tgt := 2) dX2_without_31 (by decide) ?_
      exact go_sub [1, 2, 0] (ih (x2 + 1) s7) rfl
    · exact go_retv rfl dX2_without_34
def fX2_without (a0 : Nat) (a1 : Nat) (s0 : gH) : Option (Unit × gH) :=
  gX2_without_L2
    a0 a1 20000 0 s0
set_option maxRecDepth 100000 in
set_option maxHeartbeats 4000000 in
theorem wX2_without {X : Nat × (Nat → Int32)} {d : Nat} (hd : 0 ≤ d) {a0 : Nat} {a1 : Nat} {s0 : gH} : gGo X rvU mX2_without d 0 [(0, vr a0), (1, vr a1)] [] s0 (fX2_without a0 a1 s0) := by
  unfold fX2_without
  refine go_iconst (v := 0) dX2_without_0 (by decide) ?_
  refine go_istore_n (L' := [(2, vi 0), (0, vr a0), (1, vr a1)]) dX2_without_1 rfl (by decide) rfl ?_
  refine go_sub [1, 2, 0] (wX2_without_L2 hd a0 a1 20000 0 s0) rfl
set_option maxRecDepth 100000 in
set_option maxHeartbeats 4000000 in
theorem cX2_without_c {d : Nat} (hd : 0 ≤ d) {a0 : Nat} {a1 : Nat} {s0 : gH} {r : Unit} {s1 : gH} (h : fX2_without a0 a1 s0 = some (r, s1)) : gMt mX2_without d [vr a0, vr a1] s0 none s1 :=
  gMt_of (rv := rvU) (by decide +kernel) (Nat.le_of_ble_eq_true rfl) rfl (fun _ => wX2_without hd) h
def gX2_moveOff_L10 (k62 : gH → Option (Unit × gH)) (a0 : Nat) (a1 : Nat) : Nat → Int32 → Int32 → gH → Option (Unit × gH)
  | 0, _, _, _ => none
  | n + 1, x2, x3, s0 =>
    if x3 < 14610 then
      if x2 = -1 then
        k62 s0
      else
        gb2 (gcv s0 a1 2 (fX2_search a1 a1 x2 2 s0)) fun r6 s7 =>
        gb2 (gcv s7 a0 2 (fX2_put a0 r6 s7)) fun r8 s9 =>
        if r6 = -1 then
          gX2_moveOff_L10 k62 a0 a1 n (-1) (x3 + 1) s9
        else
          gb2 (gcv s9 a0 2 (fX2_search a0 a1 r6 0 s9)) fun r11 s12 =>
          gX2_moveOff_L10 k62 a0 a1 n r11 (x3 + 1) s12
    else
      k62 s0
set_option maxRecDepth 100000 in
set_option maxHeartbeats 4000000 in
theorem wX2_moveOff_L10 {X : Nat × (Nat → Int32)} {d : Nat} (hd : 2 ≤ d) (k62 : gH → Option (Unit × gH)) (a0 : Nat) (a1 : Nat) (hk62 : ∀ (s : gH), gGo X rvU mX2_moveOff d 62 [(0, vr a0), (1, vr a1)] [] s (k62 s)) : ∀ (n : Nat) (x2 : Int32) (x3 : Int32) (s0 : gH), gGo X rvU mX2_moveOff d 10 [(0, vr a0), (1, vr a1), (2, vi x2), (3, vi x3)] [] s0 (gX2_moveOff_L10 k62 a0 a1 n x2 x3 s0) := by
  intro n
  induction n with
  | zero => intros; exact go_none
  | succ n ih =>
    intro x2 x3 s0
    show gGo _ _ _ _ _ _ _ _ (gX2_moveOff_L10 k62 a0 a1 (n + 1) x2 x3 s0)
    unfold gX2_moveOff_L10
    refine go_iload_n 3 dX2_moveOff_10 rfl rfl ?_
    refine go_sipush (v := 14610) dX2_moveOff_11 (by decide) ?_
    refine go_icmp_ge (tgt := 62) dX2_moveOff_14 (by decide) (fun h4 => ?_) (fun h4 => ?_)
    · refine go_iload_n 2 dX2_moveOff_17 rfl rfl ?_
      refine go_iconst (v := -1) dX2_moveOff_18 (by decide) ?_
      refine go_icmp_eq (tgt := 62) dX2_moveOff_19 (by decide) (fun h5 => ?_) (fun h5 => ?_)
      · exact go_sub [0, 1] (hk62 s0) rfl
      · refine go_aload_n 1 dX2_moveOff_22 rfl rfl ?_
        refine go_aload_n 1 dX2_moveOff_23 rfl rfl ?_
        refine go_iload_n 2 dX2_moveOff_24 rfl rfl ?_
        refine go_iconst (v := 2) dX2_moveOff_25 (by decide) ?_
        refine go_callV_I (as := [vr a1, vi x2, vi 2]) gk_RX2_39 gmf_X2_search (by decide) rfl (by omega) rfl rfl (Nat.le_of_ble_eq_true rfl) dX2_moveOff_26 (fun _ _ h => cX2_search_c (by omega) h) (fun r6 s7 _ => ?_)
        refine go_istore (L' := [(4, vi r6), (0, vr a0), (1, vr a1), (2, vi x2), (3, vi x3)]) dX2_moveOff_29 (by decide) rfl ?_
        refine go_aload_n 1 dX2_moveOff_31 rfl rfl ?_
        refine go_iload 0 dX2_moveOff_32 rfl ?_
        refine go_callV_v (as := [vi r6]) gk_RX2_43 gmf_X2_put (by decide) rfl (by omega) rfl rfl (Nat.le_of_ble_eq_true rfl) dX2_moveOff_34 (fun _ _ h => cX2_put_c (by omega) h) (fun r8 s9 _ => ?_)
        refine go_iload 0 dX2_moveOff_37 rfl ?_
        refine go_iconst (v := -1) dX2_moveOff_39 (by decide) ?_
        refine go_icmp_ne (tgt := 47) dX2_moveOff_40 (by decide) (fun h10 => ?_) (fun h10 => ?_)
        · refine go_iconst (v := -1) dX2_moveOff_43 (by decide) ?_
          refine go_goto (tgt := 55) dX2_moveOff_44 (by decide) ?_
          refine go_istore_n (L' := [(2, vi (-1)), (4, vi r6), (0, vr a0), (1, vr a1), (3, vi x3)]) dX2_moveOff_55 rfl (by decide) rfl ?_
          refine go_iinc (v := 1) (L' := [(3, vi (x3 + 1)), (2, vi (-1)), (4, vi r6), (0, vr a0), (1, vr a1)]) 4 dX2_moveOff_56 rfl (by decide) (by decide) rfl ?_
          refine go_goto (tgt := 10) dX2_moveOff_59 (by decide) ?_
          exact go_sub [3, 4, 1, 0] (ih (-1) (x3 + 1) s9) rfl
        · refine go_aload_n 1 dX2_moveOff_47 rfl rfl ?_
          refine go_aload_n 2 dX2_moveOff_48 rfl rfl ?_
          refine go_iload 0 dX2_moveOff_49 rfl ?_
          refine go_iconst (v := 0) dX2_moveOff_51 (by decide) ?_
          refine go_callV_I (as := [vr a1, vi r6, vi 0]) gk_RX2_39 gmf_X2_search (by decide) rfl (by omega) rfl rfl (Nat.le_of_ble_eq_true rfl) dX2_moveOff_52 (fun _ _ h => cX2_search_c (by omega) h) (fun r11 s12 _ => ?_)
          refine go_istore_n (L' := [(2, vi r11), (4, vi r6), (0, vr a0), (1, vr a1), (3, vi x3)]) dX2_moveOff_55 rfl (by decide) rfl ?_
          refine go_iinc (v := 1) (L' := [(3, vi (x3 + 1)), (2, vi r11), (4, vi r6), (0, vr a0), (1, vr a1)]) 4 dX2_moveOff_56 rfl (by decide) (by decide) rfl ?_
          refine go_goto (tgt := 10) dX2_moveOff_59 (by decide) ?_
          exact go_sub [3, 4, 1, 0] (ih r11 (x3 + 1) s12) rfl
    · exact go_sub [0, 1] (hk62 s0) rfl
def fX2_moveOff (a0 : Nat) (a1 : Nat) (s0 : gH) : Option (Unit × gH) :=
  gb2 (gcv s0 a0 2 (fX2_search a0 a1 0 0 s0)) fun r1 s2 =>
  gX2_moveOff_L10
    (fun s13 =>
      gb2 (gcv s13 a0 2 (fX2_without a0 a1 s13)) fun r14 s15 =>
      some ((), s15))
    a0 a1 20000 r1 0 s2
set_option maxRecDepth 100000 in
set_option maxHeartbeats 4000000 in
theorem wX2_moveOff {X : Nat × (Nat → Int32)} {d : Nat} (hd : 2 ≤ d) {a0 : Nat} {a1 : Nat} {s0 : gH} : gGo X rvU mX2_moveOff d 0 [(0, vr a0), (1, vr a1)] [] s0 (fX2_moveOff a0 a1 s0) := by
  unfold fX2_moveOff
  refine go_aload_n 0 dX2_moveOff_0 rfl rfl ?_
  refine go_aload_n 1 dX2_moveOff_1 rfl rfl ?_
  refine go_iconst (v := 0) dX2_moveOff_2 (by decide) ?_
  refine go_iconst (v := 0) dX2_moveOff_3 (by decide) ?_
  refine go_callV_I (as := [vr a1, vi 0, vi 0]) gk_RX2_39 gmf_X2_search (by decide) rfl (by omega) rfl rfl (Nat.le_of_ble_eq_true rfl) dX2_moveOff_4 (fun _ _ h => cX2_search_c (by omega) h) (fun r1 s2 _ => ?_)
  refine go_istore_n (L' := [(2, vi r1), (0, vr a0), (1, vr a1)]) dX2_moveOff_7 rfl (by decide) rfl ?_
  refine go_iconst (v := 0) dX2_moveOff_8 (by decide) ?_
  refine go_istore_n (L' := [(3, vi 0), (2, vi r1), (0, vr a0), (1, vr a1)]) dX2_moveOff_9 rfl (by decide) rfl ?_
  refine go_sub [2, 3, 1, 0] (wX2_moveOff_L10 hd _ a0 a1 ?_ 20000 r1 0 s2) rfl
  intro s13
  refine go_aload_n 0 dX2_moveOff_62 rfl rfl ?_
  refine go_aload_n 1 dX2_moveOff_63 rfl rfl ?_
  refine go_callV_v (as := [vr a1]) gk_RX2_47 gmf_X2_without (by decide) rfl (by omega) rfl rfl (Nat.le_of_ble_eq_true rfl) dX2_moveOff_64 (fun _ _ h => cX2_without_c (by omega) h) (fun r14 s15 _ => ?_)
  exact go_retv rfl dX2_moveOff_67
set_option maxRecDepth 100000 in
set_option maxHeartbeats 4000000 in
theorem cX2_moveOff_c {d : Nat} (hd : 2 ≤ d) {a0 : Nat} {a1 : Nat} {s0 : gH} {r : Unit} {s1 : gH} (h : fX2_moveOff a0 a1 s0 = some (r, s1)) : gMt mX2_moveOff d [vr a0, vr a1] s0 none s1 :=
  gMt_of (rv := rvU) (by decide +kernel) (Nat.le_of_ble_eq_true rfl) rfl (fun _ => wX2_moveOff hd) h
def gX2_unite_L2  (a0 : Nat) (a1 : Nat) : Nat → Int32 → gH → Option (Unit × gH)
  | 0, _, _ => none
  | n + 1, x2, s0 =>
    if x2 < 229 then
      (ggR s0 a0 2 0).bind fun v3 =>
      (gaJ s0 v3 x2).bind fun v4 =>
      (ggR s0 a1 2 0).bind fun v5 =>
      (gaJ s0 v5 x2).bind fun v6 =>
      (saJ s0 v3 x2 (v4 ||| v6)).bind fun s7 =>
      gX2_unite_L2 a0 a1 n (x2 + 1) s7
    else
      some ((), s0)
set_option maxRecDepth 100000 in
set_option maxHeartbeats 4000000 in
theorem wX2_unite_L2 {X : Nat × (Nat → Int32)} {d : Nat} (hd : 0 ≤ d)  (a0 : Nat) (a1 : Nat) : ∀ (n : Nat) (x2 : Int32) (s0 : gH), gGo X rvU mX2_unite d 2 [(0, vr a0), (1, vr a1), (2, vi x2)] [] s0 (gX2_unite_L2 a0 a1 n x2 s0) := by
  intro n
  induction n with
  | zero => intros; exact go_none
  | succ n ih =>
    intro x2 s0
    show gGo _ _ _ _ _ _ _ _ (gX2_unite_L2 a0 a1 (n + 1) x2 s0)
    unfold gX2_unite_L2
    refine go_iload_n 2 dX2_unite_2 rfl rfl ?_
    refine go_sipush (v := 229) dX2_unite_3 (by decide) ?_
    refine go_icmp_ge (tgt := 30) dX2_unite_6 (by decide) (fun h2 => ?_) (fun h2 => ?_)
    · refine go_aload_n 0 dX2_unite_9 rfl rfl ?_
      refine go_getR gf_RX2_11 gcf_2 gft_2_0 dX2_unite_10 (fun v3 => ?_)
      refine go_iload_n 2 dX2_unite_13 rfl rfl ?_
      refine go_dup2 dX2_unite_14 rfl rfl ?_
      refine go_laload dX2_unite_15 (fun v4 _ => ?_)
      refine go_aload_n 1 dX2_unite_16 rfl rfl ?_
      refine go_getR gf_RX2_11 gcf_2 gft_2_0 dX2_unite_17 (fun v5 => ?_)
      refine go_iload_n 2 dX2_unite_20 rfl rfl ?_
      refine go_laload dX2_unite_21 (fun v6 _ => ?_)
      refine go_lor dX2_unite_22 ?_
      refine go_lastore dX2_unite_23 (fun s7 _ => ?_)
      refine go_iinc (v := 1) (L' := [(2, vi (x2 + 1)), (0, vr a0), (1, vr a1)]) 2 dX2_unite_24 rfl (by decide) (by decide) rfl ?_
      refine go_goto (tgt := 2) dX2_unite_27 (by decide) ?_
      exact go_sub [1, 2, 0] (ih (x2 + 1) s7) rfl
    · exact go_retv rfl dX2_unite_30
def fX2_unite (a0 : Nat) (a1 : Nat) (s0 : gH) : Option (Unit × gH) :=
  gX2_unite_L2
    a0 a1 20000 0 s0
set_option maxRecDepth 100000 in
set_option maxHeartbeats 4000000 in
theorem wX2_unite {X : Nat × (Nat → Int32)} {d : Nat} (hd : 0 ≤ d) {a0 : Nat} {a1 : Nat} {s0 : gH} : gGo X rvU mX2_unite d 0 [(0, vr a0), (1, vr a1)] [] s0 (fX2_unite a0 a1 s0) := by
  unfold fX2_unite
  refine go_iconst (v := 0) dX2_unite_0 (by decide) ?_
  refine go_istore_n (L' := [(2, vi 0), (0, vr a0), (1, vr a1)]) dX2_unite_1 rfl (by decide) rfl ?_
  refine go_sub [1, 2, 0] (wX2_unite_L2 hd a0 a1 20000 0 s0) rfl
set_option maxRecDepth 100000 in
set_option maxHeartbeats 4000000 in
theorem cX2_unite_c {d : Nat} (hd : 0 ≤ d) {a0 : Nat} {a1 : Nat} {s0 : gH} {r : Unit} {s1 : gH} (h : fX2_unite a0 a1 s0 = some (r, s1)) : gMt mX2_unite d [vr a0, vr a1] s0 none s1 :=
  gMt_of (rv := rvU) (by decide +kernel) (Nat.le_of_ble_eq_true rfl) rfl (fun _ => wX2_unite hd) h
def gX2_limit_L2  (a0 : Nat) (a1 : Nat) : Nat → Int32 → gH → Option (Unit × gH)
  | 0, _, _ => none
  | n + 1, x2, s0 =>
    if x2 < 229 then
      (ggR s0 a0 2 0).bind fun v3 =>
      (gaJ s0 v3 x2).bind fun v4 =>
      (ggR s0 a1 2 0).bind fun v5 =>
      (gaJ s0 v5 x2).bind fun v6 =>
      (saJ s0 v3 x2 (v4 &&& v6)).bind fun s7 =>
      gX2_limit_L2 a0 a1 n (x2 + 1) s7
    else
      some ((), s0)
set_option maxRecDepth 100000 in
set_option maxHeartbeats 4000000 in
theorem wX2_limit_L2 {X : Nat × (Nat → Int32)} {d : Nat} (hd : 0 ≤ d)  (a0 : Nat) (a1 : Nat) : ∀ (n : Nat) (x2 : Int32) (s0 : gH), gGo X rvU mX2_limit d 2 [(0, vr a0), (1, vr a1), (2, vi x2)] [] s0 (gX2_limit_L2 a0 a1 n x2 s0) := by
  intro n
  induction n with
  | zero => intros; exact go_none
  | succ n ih =>
    intro x2 s0
    show gGo _ _ _ _ _ _ _ _ (gX2_limit_L2 a0 a1 (n + 1) x2 s0)
    unfold gX2_limit_L2
    refine go_iload_n 2 dX2_limit_2 rfl rfl ?_
    refine go_sipush (v := 229) dX2_limit_3 (by decide) ?_
    refine go_icmp_ge (tgt := 30) dX2_limit_6 (by decide) (fun h2 => ?_) (fun h2 => ?_)
    · refine go_aload_n 0 dX2_limit_9 rfl rfl ?_
      refine go_getR gf_RX2_11 gcf_2 gft_2_0 dX2_limit_10 (fun v3 => ?_)
      refine go_iload_n 2 dX2_limit_13 rfl rfl ?_
      refine go_dup2 dX2_limit_14 rfl rfl ?_
      refine go_laload dX2_limit_15 (fun v4 _ => ?_)
      refine go_aload_n 1 dX2_limit_16 rfl rfl ?_
      refine go_getR gf_RX2_11 gcf_2 gft_2_0 dX2_limit_17 (fun v5 => ?_)
      refine go_iload_n 2 dX2_limit_20 rfl rfl ?_
      refine go_laload dX2_limit_21 (fun v6 _ => ?_)
      refine go_land dX2_limit_22 ?_
      refine go_lastore dX2_limit_23 (fun s7 _ => ?_)
      refine go_iinc (v := 1) (L' := [(2, vi (x2 + 1)), (0, vr a0), (1, vr a1)]) 2 dX2_limit_24 rfl (by decide) (by decide) rfl ?_
      refine go_goto (tgt := 2) dX2_limit_27 (by decide) ?_
      exact go_sub [1, 2, 0] (ih (x2 + 1) s7) rfl
    · exact go_retv rfl dX2_limit_30
def fX2_limit (a0 : Nat) (a1 : Nat) (s0 : gH) : Option (Unit × gH) :=
  gX2_limit_L2
    a0 a1 20000 0 s0
set_option maxRecDepth 100000 in
set_option maxHeartbeats 4000000 in
theorem wX2_limit {X : Nat × (Nat → Int32)} {d : Nat} (hd : 0 ≤ d) {a0 : Nat} {a1 : Nat} {s0 : gH} : gGo X rvU mX2_limit d 0 [(0, vr a0), (1, vr a1)] [] s0 (fX2_limit a0 a1 s0) := by
  unfold fX2_limit
  refine go_iconst (v := 0) dX2_limit_0 (by decide) ?_
  refine go_istore_n (L' := [(2, vi 0), (0, vr a0), (1, vr a1)]) dX2_limit_1 rfl (by decide) rfl ?_
  refine go_sub [1, 2, 0] (wX2_limit_L2 hd a0 a1 20000 0 s0) rfl
set_option maxRecDepth 100000 in
set_option maxHeartbeats 4000000 in
theorem cX2_limit_c {d : Nat} (hd : 0 ≤ d) {a0 : Nat} {a1 : Nat} {s0 : gH} {r : Unit} {s1 : gH} (h : fX2_limit a0 a1 s0 = some (r, s1)) : gMt mX2_limit d [vr a0, vr a1] s0 none s1 :=
  gMt_of (rv := rvU) (by decide +kernel) (Nat.le_of_ble_eq_true rfl) rfl (fun _ => wX2_limit hd) h
def fX5_join (a0 : Nat) (x1 : Int32) (a2 : Nat) (s0 : gH) : Option (Unit × gH) :=
  (ggI s0 a0 5 6).bind fun v1 =>
  if v1 < 2 then
    some ((), s0)
  else
    (ggI s0 a0 5 6).bind fun v3 =>
    (spI s0 a0 5 6 (v3 - 1)).bind fun s4 =>
    (ggR s4 a0 5 2).bind fun v5 =>
    (ggI s4 a0 5 6).bind fun v6 =>
    (gaR s4 v5 5 (v6 - 1)).bind fun v7 =>
    if x1 = 3 then
      gb2 (gcv s4 v7 2 (fX2_unite v7 a2 s4)) fun r9 s10 =>
      some ((), s10)
    else
      if x1 = 4 then
        gb2 (gcv s4 v7 2 (fX2_limit v7 a2 s4)) fun r12 s13 =>
        some ((), s13)
      else
        gb2 (gcv s4 v7 2 (fX2_without v7 a2 s4)) fun r14 s15 =>
        some ((), s15)
set_option maxRecDepth 100000 in
set_option maxHeartbeats 4000000 in
theorem wX5_join {X : Nat × (Nat → Int32)} {d : Nat} (hd : 1 ≤ d) {a0 : Nat} {x1 : Int32} {a2 : Nat} {s0 : gH} : gGo X rvU mX5_join d 0 [(0, vr a0), (1, vi x1), (2, vr a2)] [] s0 (fX5_join a0 x1 a2 s0) := by
  unfold fX5_join
  refine go_aload_n 0 dX5_join_0 rfl rfl ?_
  refine go_getI gf_RX5_117 gcf_5 gft_5_6 dX5_join_1 (fun v1 => ?_)
  refine go_iconst (v := 2) dX5_join_4 (by decide) ?_
  refine go_icmp_ge (tgt := 9) dX5_join_5 (by decide) (fun h2 => ?_) (fun h2 => ?_)
  · exact go_retv rfl dX5_join_8
  · refine go_aload_n 0 dX5_join_9 rfl rfl ?_
    refine go_dup dX5_join_10 rfl ?_
    refine go_getI gf_RX5_117 gcf_5 gft_5_6 dX5_join_11 (fun v3 => ?_)
    refine go_iconst (v := 1) dX5_join_14 (by decide) ?_
    refine go_isub dX5_join_15 ?_
    refine go_putI gf_RX5_117 gcf_5 gpl_5_6 gft_5_6 dX5_join_16 (fun s4 _ => ?_)
    refine go_aload_n 0 dX5_join_19 rfl rfl ?_
    refine go_getR gf_RX5_17 gcf_5 gft_5_2 dX5_join_20 (fun v5 => ?_)
    refine go_aload_n 0 dX5_join_23 rfl rfl ?_
    refine go_getI gf_RX5_117 gcf_5 gft_5_6 dX5_join_24 (fun v6 => ?_)
    refine go_iconst (v := 1) dX5_join_27 (by decide) ?_
    refine go_isub dX5_join_28 ?_
    refine go_aaload (t := 5) (by decide) (by decide) dX5_join_29 (fun v7 _ => ?_)
    refine go_astore_n (L' := [(3, vr v7), (0, vr a0), (1, vi x1), (2, vr a2)]) dX5_join_30 rfl (by decide) rfl ?_
    refine go_iload_n 2 dX5_join_31 rfl rfl ?_
    refine go_iconst (v := 3) dX5_join_32 (by decide) ?_
    refine go_icmp_ne (tgt := 44) dX5_join_33 (by decide) (fun h8 => ?_) (fun h8 => ?_)
    · refine go_aload_n 0 dX5_join_36 rfl rfl ?_
      refine go_aload_n 3 dX5_join_37 rfl rfl ?_
      refine go_callV_v (as := [vr a2]) gk_RX5_163 gmf_X2_unite (by decide) rfl (by omega) rfl rfl (Nat.le_of_ble_eq_true rfl) dX5_join_38 (fun _ _ h => cX2_unite_c (by omega) h) (fun r9 s10 _ => ?_)
      refine go_goto (tgt := 62) dX5_join_41 (by decide) ?_
      exact go_retv rfl dX5_join_62
    · refine go_iload_n 2 dX5_join_44 rfl rfl ?_
      refine go_iconst (v := 4) dX5_join_45 (by decide) ?_
      refine go_icmp_ne (tgt := 57) dX5_join_46 (by decide) (fun h11 => ?_) (fun h11 => ?_)
      · refine go_aload_n 0 dX5_join_49 rfl rfl ?_
        refine go_aload_n 3 dX5_join_50 rfl rfl ?_
        refine go_callV_v (as := [vr a2]) gk_RX5_166 gmf_X2_limit (by decide) rfl (by omega) rfl rfl (Nat.le_of_ble_eq_true rfl) dX5_join_51 (fun _ _ h => cX2_limit_c (by omega) h) (fun r12 s13 _ => ?_)
        refine go_goto (tgt := 62) dX5_join_54 (by decide) ?_
        exact go_retv rfl dX5_join_62
      · refine go_aload_n 0 dX5_join_57 rfl rfl ?_
        refine go_aload_n 3 dX5_join_58 rfl rfl ?_
        refine go_callV_v (as := [vr a2]) gk_RX5_169 gmf_X2_without (by decide) rfl (by omega) rfl rfl (Nat.le_of_ble_eq_true rfl) dX5_join_59 (fun _ _ h => cX2_without_c (by omega) h) (fun r14 s15 _ => ?_)
        exact go_retv rfl dX5_join_62
set_option maxRecDepth 100000 in
set_option maxHeartbeats 4000000 in
theorem cX5_join_c {d : Nat} (hd : 1 ≤ d) {a0 : Nat} {x1 : Int32} {a2 : Nat} {s0 : gH} {r : Unit} {s1 : gH} (h : fX5_join a0 x1 a2 s0 = some (r, s1)) : gMt mX5_join d [vr a0, vi x1, vr a2] s0 none s1 :=
  gMt_of (rv := rvU) (by decide +kernel) (Nat.le_of_ble_eq_true rfl) rfl (fun _ => wX5_join hd) h
def fX5_perform (a0 : Nat) (x1 : Int32) (x2 : Int32) (s0 : gH) : Option (Unit × gH) :=
  (ggR s0 a0 5 1).bind fun v1 =>
  (ggR s0 a0 5 1).bind fun v2 =>
  (glen s0 v2).bind fun v3 =>
  (gaR s0 v1 5 (gmax 0 (gmin x2 (v3 - 1)))).bind fun v4 =>
  gjn (fun (s6 : gH) =>
      gjn (fun (b8 : Nat) (b9 : Nat) (s10 : gH) =>
          gb2 (gcv s10 b9 5 (fX5_lay b9 b8 s10)) fun r11 s12 =>
          some ((), s12)
      ) fun j7 =>
      if x1 = 0 then
        j7 v4 a0 s6
      else
        j7 0 a0 s6
  ) fun j5 =>
  if x1 = 0 then
    j5 s0
  else
    if x1 = 1 then
      j5 s0
    else
      (ggR s0 a0 5 2).bind fun v16 =>
      (ggI s0 a0 5 6).bind fun v17 =>
      (gaR s0 v16 5 (gmax 0 (v17 - 1))).bind fun v18 =>
      if x1 = 2 then
        gb2 (gcv s0 v18 2 (fX2_put v18 x2 s0)) fun r20 s21 =>
        some ((), s21)
      else
        if x1 = 3 then
          gb2 (gcv s0 a0 5 (fX5_join a0 x1 v18 s0)) fun r23 s24 =>
          some ((), s24)
        else
          if x1 = 4 then
            gb2 (gcv s0 a0 5 (fX5_join a0 x1 v18 s0)) fun r26 s27 =>
            some ((), s27)
          else
            if x1 = 5 then
              gb2 (gcv s0 a0 5 (fX5_join a0 x1 v18 s0)) fun r29 s30 =>
              some ((), s30)
            else
              if x1 = 6 then
                gb2 (gcv s0 v18 2 (fX2_shiftLater v18 x2 s0)) fun r32 s33 =>
                some ((), s33)
              else
                if x1 = 7 then
                  gb2 (gcv s0 v18 2 (fX2_shiftSooner v18 x2 s0)) fun r35 s36 =>
                  some ((), s36)
                else
                  if x1 = 8 then
                    gb2 (gcv s0 v18 2 (fX2_moveOff v18 v4 s0)) fun r38 s39 =>
                    some ((), s39)
                  else
                    gb2 (gcv s0 a0 5 (fX5_join a0 x1 v18 s0)) fun r40 s41 =>
                    some ((), s41)
set_option maxRecDepth 100000 in
set_option maxHeartbeats 4000000 in
theorem wX5_perform {X : Nat × (Nat → Int32)} {d : Nat} (hd : 3 ≤ d) {a0 : Nat} {x1 : Int32} {x2 : Int32} {s0 : gH} : gGo X rvU mX5_perform d 0 [(0, vr a0), (1, vi x1), (2, vi x2)] [] s0 (fX5_perform a0 x1 x2 s0) := by
  unfold fX5_perform
  refine go_aload_n 0 dX5_perform_0 rfl rfl ?_
  refine go_getR gf_RX5_11 gcf_5 gft_5_1 dX5_perform_1 (fun v1 => ?_)
  refine go_iconst (v := 0) dX5_perform_4 (by decide) ?_
  refine go_iload_n 2 dX5_perform_5 rfl rfl ?_
  refine go_aload_n 0 dX5_perform_6 rfl rfl ?_
  refine go_getR gf_RX5_11 gcf_5 gft_5_1 dX5_perform_7 (fun v2 => ?_)
  refine go_alen dX5_perform_10 (fun v3 _ => ?_)
  refine go_iconst (v := 1) dX5_perform_11 (by decide) ?_
  refine go_isub dX5_perform_12 ?_
  refine go_mmin gk_RX5_109.1 gmm_min2 gmm_3 gmm_min4 (Nat.le_of_ble_eq_true rfl) dX5_perform_13 ?_
  refine go_mmax gk_RX5_114.1 gmm_max2 gmm_3 gmm_max4 (Nat.le_of_ble_eq_true rfl) dX5_perform_16 ?_
  refine go_aaload (t := 5) (by decide) (by decide) dX5_perform_19 (fun v4 _ => ?_)
  refine go_astore_n (L' := [(3, vr v4), (0, vr a0), (1, vi x1), (2, vi x2)]) dX5_perform_20 rfl (by decide) rfl ?_
  refine go_iload_n 2 dX5_perform_21 rfl rfl ?_
  refine go_gjn (P := fun j5 => ∀ (s6 : gH), gGo X rvU mX5_perform d 30 [(0, vr a0), (1, vi x1), (3, vr v4)] [] s6 (j5 s6)) (fun s6 => ?_) (fun j5 hj5 => ?_)
  · refine go_aload_n 0 dX5_perform_30 rfl rfl ?_
    refine go_iload_n 1 dX5_perform_31 rfl rfl ?_
    refine go_gjn (P := fun j7 => ∀ (b8 : Nat) (b9 : Nat) (s10 : gH), gGo X rvU mX5_perform d 40 [] [vr b8, vr b9] s10 (j7 b8 b9 s10)) (fun b8 b9 s10 => ?_) (fun j7 hj7 => ?_)
    · refine go_callV_v (as := [vr b8]) gk_RX5_146 gmf_X5_lay (by decide) rfl (by omega) rfl rfl (Nat.le_of_ble_eq_true rfl) dX5_perform_40 (fun _ _ h => cX5_lay_c (by omega) h) (fun r11 s12 _ => ?_)
      exact go_retv rfl dX5_perform_43
    · refine go_if_ne (tgt := 39) dX5_perform_32 (by decide) (fun h13 => ?_) (fun h13 => ?_)
      · refine go_aload_n 2 dX5_perform_35 rfl rfl ?_
        refine go_goto (tgt := 40) dX5_perform_36 (by decide) ?_
        exact go_sub [] (hj7 v4 a0 s6) rfl
      · refine go_null dX5_perform_39 ?_
        exact go_sub [] (hj7 0 a0 s6) rfl
  · refine go_if_eq (tgt := 30) dX5_perform_22 (by decide) (fun h14 => ?_) (fun h14 => ?_)
    · exact go_sub [1, 2, 0] (hj5 s0) rfl
    · refine go_iload_n 2 dX5_perform_25 rfl rfl ?_
      refine go_iconst (v := 1) dX5_perform_26 (by decide) ?_
      refine go_icmp_ne (tgt := 44) dX5_perform_27 (by decide) (fun h15 => ?_) (fun h15 => ?_)
      · exact go_sub [1, 2, 0] (hj5 s0) rfl
      · refine go_aload_n 1 dX5_perform_44 rfl rfl ?_
        refine go_getR gf_RX5_17 gcf_5 gft_5_2 dX5_perform_45 (fun v16 => ?_)
        refine go_iconst (v := 0) dX5_perform_48 (by decide) ?_
        refine go_aload_n 1 dX5_perform_49 rfl rfl ?_
        refine go_getI gf_RX5_117 gcf_5 gft_5_6 dX5_perform_50 (fun v17 => ?_)
        refine go_iconst (v := 1) dX5_perform_53 (by decide) ?_
        refine go_isub dX5_perform_54 ?_
        refine go_mmax gk_RX5_114.1 gmm_max2 gmm_3 gmm_max4 (Nat.le_of_ble_eq_true rfl) dX5_perform_55 ?_
        refine go_aaload (t := 5) (by decide) (by decide) dX5_perform_58 (fun v18 _ => ?_)
        refine go_astore (L' := [(4, vr v18), (3, vr v4), (0, vr a0), (1, vi x1), (2, vi x2)]) dX5_perform_59 (by decide) rfl ?_
        refine go_iload_n 3 dX5_perform_61 rfl rfl ?_
        refine go_ite (fun h19 => ?_) (fun h19 => ?_)
        · refine go_tsIn (v := 2) (off := 42) (tgt := 104) dX5_perform_62 h19 (by decide) (by decide) (by decide) (by decide) ?_
          refine go_aload 0 dX5_perform_104 rfl ?_
          refine go_iload_n 4 dX5_perform_106 rfl rfl ?_
          refine go_callV_v (as := [vi x2]) gk_RX5_140 gmf_X2_put (by decide) rfl (by omega) rfl rfl (Nat.le_of_ble_eq_true rfl) dX5_perform_107 (fun _ _ h => cX2_put_c (by omega) h) (fun r20 s21 _ => ?_)
          refine go_goto (tgt := 147) dX5_perform_110 (by decide) ?_
          exact go_retv rfl dX5_perform_147
        · refine go_ite (fun h22 => ?_) (fun h22 => ?_)
          · refine go_tsIn (v := 3) (off := 78) (tgt := 140) dX5_perform_62 h22 (by decide) (by decide) (by decide) (by decide) ?_
            refine go_aload_n 2 dX5_perform_140 rfl rfl ?_
            refine go_iload_n 3 dX5_perform_141 rfl rfl ?_
            refine go_aload 0 dX5_perform_142 rfl ?_
            refine go_callV_v (as := [vi x1, vr v18]) gk_RX5_158 gmf_X5_join (by decide) rfl (by omega) rfl rfl (Nat.le_of_ble_eq_true rfl) dX5_perform_144 (fun _ _ h => cX5_join_c (by omega) h) (fun r23 s24 _ => ?_)
            exact go_retv rfl dX5_perform_147
          · refine go_ite (fun h25 => ?_) (fun h25 => ?_)
            · refine go_tsIn (v := 4) (off := 78) (tgt := 140) dX5_perform_62 h25 (by decide) (by decide) (by decide) (by decide) ?_
              refine go_aload_n 2 dX5_perform_140 rfl rfl ?_
              refine go_iload_n 3 dX5_perform_141 rfl rfl ?_
              refine go_aload 0 dX5_perform_142 rfl ?_
              refine go_callV_v (as := [vi x1, vr v18]) gk_RX5_158 gmf_X5_join (by decide) rfl (by omega) rfl rfl (Nat.le_of_ble_eq_true rfl) dX5_perform_144 (fun _ _ h => cX5_join_c (by omega) h) (fun r26 s27 _ => ?_)
              exact go_retv rfl dX5_perform_147
            · refine go_ite (fun h28 => ?_) (fun h28 => ?_)
              · refine go_tsIn (v := 5) (off := 78) (tgt := 140) dX5_perform_62 h28 (by decide) (by decide) (by decide) (by decide) ?_
                refine go_aload_n 2 dX5_perform_140 rfl rfl ?_
                refine go_iload_n 3 dX5_perform_141 rfl rfl ?_
                refine go_aload 0 dX5_perform_142 rfl ?_
                refine go_callV_v (as := [vi x1, vr v18]) gk_RX5_158 gmf_X5_join (by decide) rfl (by omega) rfl rfl (Nat.le_of_ble_eq_true rfl) dX5_perform_144 (fun _ _ h => cX5_join_c (by omega) h) (fun r29 s30 _ => ?_)
                exact go_retv rfl dX5_perform_147
              · refine go_ite (fun h31 => ?_) (fun h31 => ?_)
                · refine go_tsIn (v := 6) (off := 51) (tgt := 113) dX5_perform_62 h31 (by decide) (by decide) (by decide) (by decide) ?_
                  refine go_aload 0 dX5_perform_113 rfl ?_
                  refine go_iload_n 4 dX5_perform_115 rfl rfl ?_
                  refine go_callV_v (as := [vi x2]) gk_RX5_149 gmf_X2_shiftLater (by decide) rfl (by omega) rfl rfl (Nat.le_of_ble_eq_true rfl) dX5_perform_116 (fun _ _ h => cX2_shiftLater_c (by omega) h) (fun r32 s33 _ => ?_)
                  refine go_goto (tgt := 147) dX5_perform_119 (by decide) ?_
                  exact go_retv rfl dX5_perform_147
                · refine go_ite (fun h34 => ?_) (fun h34 => ?_)
                  · refine go_tsIn (v := 7) (off := 60) (tgt := 122) dX5_perform_62 h34 (by decide) (by decide) (by decide) (by decide) ?_
                    refine go_aload 0 dX5_perform_122 rfl ?_
                    refine go_iload_n 4 dX5_perform_124 rfl rfl ?_
                    refine go_callV_v (as := [vi x2]) gk_RX5_152 gmf_X2_shiftSooner (by decide) rfl (by omega) rfl rfl (Nat.le_of_ble_eq_true rfl) dX5_perform_125 (fun _ _ h => cX2_shiftSooner_c (by omega) h) (fun r35 s36 _ => ?_)
                    refine go_goto (tgt := 147) dX5_perform_128 (by decide) ?_
                    exact go_retv rfl dX5_perform_147
                  · refine go_ite (fun h37 => ?_) (fun h37 => ?_)
                    · refine go_tsIn (v := 8) (off := 69) (tgt := 131) dX5_perform_62 h37 (by decide) (by decide) (by decide) (by decide) ?_
                      refine go_aload 0 dX5_perform_131 rfl ?_
                      refine go_aload_n 1 dX5_perform_133 rfl rfl ?_
                      refine go_callV_v (as := [vr v4]) gk_RX5_155 gmf_X2_moveOff (by decide) rfl (by omega) rfl rfl (Nat.le_of_ble_eq_true rfl) dX5_perform_134 (fun _ _ h => cX2_moveOff_c (by omega) h) (fun r38 s39 _ => ?_)
                      refine go_goto (tgt := 147) dX5_perform_137 (by decide) ?_
                      exact go_retv rfl dX5_perform_147
                    · refine go_tsOut (tgt := 140) dX5_perform_62 (by have gh19 := gts h19 (n := 2) (by decide); have gh22 := gts h22 (n := 3) (by decide); have gh25 := gts h25 (n := 4) (by decide); have gh28 := gts h28 (n := 5) (by decide); have gh31 := gts h31 (n := 6) (by decide); have gh34 := gts h34 (n := 7) (by decide); have gh37 := gts h37 (n := 8) (by decide); omega) (by decide) ?_
                      refine go_aload_n 2 dX5_perform_140 rfl rfl ?_
                      refine go_iload_n 3 dX5_perform_141 rfl rfl ?_
                      refine go_aload 0 dX5_perform_142 rfl ?_
                      refine go_callV_v (as := [vi x1, vr v18]) gk_RX5_158 gmf_X5_join (by decide) rfl (by omega) rfl rfl (Nat.le_of_ble_eq_true rfl) dX5_perform_144 (fun _ _ h => cX5_join_c (by omega) h) (fun r40 s41 _ => ?_)
                      exact go_retv rfl dX5_perform_147
set_option maxRecDepth 100000 in
set_option maxHeartbeats 4000000 in
theorem cX5_perform_c {d : Nat} (hd : 3 ≤ d) {a0 : Nat} {x1 : Int32} {x2 : Int32} {s0 : gH} {r : Unit} {s1 : gH} (h : fX5_perform a0 x1 x2 s0 = some (r, s1)) : gMt mX5_perform d [vr a0, vi x1, vi x2] s0 none s1 :=
  gMt_of (rv := rvU) (by decide +kernel) (Nat.le_of_ble_eq_true rfl) rfl (fun _ => wX5_perform hd) h
def fX2_take (a0 : Nat) (x1 : Int32) (s0 : gH) : Option (Unit × gH) :=
  gb2 (fX11_isDay x1 s0) fun r1 s2 =>
  if r1 = 0 then
    some ((), s2)
  else
    (ggR s2 a0 2 0).bind fun v4 =>
    (gaJ s2 v4 (x1 >>> (6 &&& 31))).bind fun v5 =>
    (saJ s2 v4 (x1 >>> (6 &&& 31)) (v5 &&& ((gLshl 1 (x1 &&& 63)) ^^^ (-1)))).bind fun s6 =>
    some ((), s6)
set_option maxRecDepth 100000 in
set_option maxHeartbeats 4000000 in
theorem wX2_take {X : Nat × (Nat → Int32)} {d : Nat} (hd : 1 ≤ d) {a0 : Nat} {x1 : Int32} {s0 : gH} : gGo X rvU mX2_take d 0 [(0, vr a0), (1, vi x1)] [] s0 (fX2_take a0 x1 s0) := by
  unfold fX2_take
  refine go_iload_n 1 dX2_take_0 rfl rfl ?_
  refine go_callSN_I (as := [vi x1]) (List.mem_of_getElem? (i := 8) rfl) gst_X11_isDay gmf_X11_isDay (by omega) rfl rfl (Nat.le_of_ble_eq_true rfl) dX2_take_1 (fun _ _ h => cX11_isDay_c (by omega) h) (fun r1 s2 _ => ?_)
  refine go_if_eq (tgt := 29) dX2_take_4 (by decide) (fun h3 => ?_) (fun h3 => ?_)
  · exact go_retv rfl dX2_take_29
  · refine go_aload_n 0 dX2_take_7 rfl rfl ?_
    refine go_getR gf_RX2_11 gcf_2 gft_2_0 dX2_take_8 (fun v4 => ?_)
    refine go_iload_n 1 dX2_take_11 rfl rfl ?_
    refine go_bipush (v := 6) dX2_take_12 (by decide) ?_
    refine go_ishr dX2_take_14 ?_
    refine go_dup2 dX2_take_15 rfl rfl ?_
    refine go_laload dX2_take_16 (fun v5 _ => ?_)
    refine go_lconst (v := 1) dX2_take_17 (by decide) ?_
    refine go_iload_n 1 dX2_take_18 rfl rfl ?_
    refine go_bipush (v := 63) dX2_take_19 (by decide) ?_
    refine go_iand dX2_take_21 ?_
    refine go_lshl dX2_take_22 ?_
    refine go_ldc2 gcl_RX2_31 dX2_take_23 ?_
    refine go_lxor dX2_take_26 ?_
    refine go_land dX2_take_27 ?_
    refine go_lastore dX2_take_28 (fun s6 _ => ?_)
    exact go_retv rfl dX2_take_29
set_option maxRecDepth 100000 in
set_option maxHeartbeats 4000000 in
theorem cX2_take_c {d : Nat} (hd : 1 ≤ d) {a0 : Nat} {x1 : Int32} {s0 : gH} {r : Unit} {s1 : gH} (h : fX2_take a0 x1 s0 = some (r, s1)) : gMt mX2_take d [vr a0, vi x1] s0 none s1 :=
  gMt_of (rv := rvU) (by decide +kernel) (Nat.le_of_ble_eq_true rfl) rfl (fun _ => wX2_take hd) h
def gX5_putTogether_L14 (k52 : gH → Option (Unit × gH)) (a0 : Nat) (x1 : Int32) : Nat → Int32 → gH → Option (Unit × gH)
  | 0, _, _ => none
  | n + 1, x2, s0 =>
    (ggR s0 a0 5 5).bind fun v6 =>
    gb2 (gcv s0 v6 1 (fX1_codeEnd v6 x1 s0)) fun r7 s8 =>
    if x2 < r7 then
      (ggR s8 a0 5 5).bind fun v10 =>
      gb2 (gcv s8 v10 1 (fX1_opAt v10 x2 s8)) fun r11 s12 =>
      (ggR s12 a0 5 5).bind fun v13 =>
      gb2 (gcv s12 v13 1 (fX1_argumentAt v13 x2 s12)) fun r14 s15 =>
      gb2 (gcv s15 a0 5 (fX5_perform a0 r11 r14 s15)) fun r16 s17 =>
      gX5_putTogether_L14 k52 a0 x1 n (x2 + 1) s17
    else
      k52 s8
set_option maxRecDepth 100000 in
set_option maxHeartbeats 4000000 in
theorem wX5_putTogether_L14 {X : Nat × (Nat → Int32)} {d : Nat} (hd : 4 ≤ d) (k52 : gH → Option (Unit × gH)) (a0 : Nat) (x1 : Int32) (hk52 : ∀ (s : gH), gGo X rvU mX5_putTogether d 52 [(0, vr a0), (1, vi x1)] [] s (k52 s)) : ∀ (n : Nat) (x2 : Int32) (s0 : gH), gGo X rvU mX5_putTogether d 14 [(0, vr a0), (1, vi x1), (2, vi x2)] [] s0 (gX5_putTogether_L14 k52 a0 x1 n x2 s0) := by
  intro n
  induction n with
  | zero => intros; exact go_none
  | succ n ih =>
    intro x2 s0
    show gGo _ _ _ _ _ _ _ _ (gX5_putTogether_L14 k52 a0 x1 (n + 1) x2 s0)
    unfold gX5_putTogether_L14
    refine go_iload_n 2 dX5_putTogether_14 rfl rfl ?_
    refine go_aload_n 0 dX5_putTogether_15 rfl rfl ?_
    refine go_getR gf_RX5_37 gcf_5 gft_5_5 dX5_putTogether_16 (fun v6 => ?_)
    refine go_iload_n 1 dX5_putTogether_19 rfl rfl ?_
    refine go_callV_I (as := [vi x1]) gk_RX5_123 gmf_X1_codeEnd (by decide) rfl (by omega) rfl rfl (Nat.le_of_ble_eq_true rfl) dX5_putTogether_20 (fun _ _ h => cX1_codeEnd_c (by omega) h) (fun r7 s8 _ => ?_)
    refine go_icmp_ge (tgt := 52) dX5_putTogether_23 (by decide) (fun h9 => ?_) (fun h9 => ?_)
    · refine go_aload_n 0 dX5_putTogether_26 rfl rfl ?_
      refine go_aload_n 0 dX5_putTogether_27 rfl rfl ?_
      refine go_getR gf_RX5_37 gcf_5 gft_5_5 dX5_putTogether_28 (fun v10 => ?_)
      refine go_iload_n 2 dX5_putTogether_31 rfl rfl ?_
      refine go_callV_I (as := [vi x2]) gk_RX5_126 gmf_X1_opAt (by decide) rfl (by omega) rfl rfl (Nat.le_of_ble_eq_true rfl) dX5_putTogether_32 (fun _ _ h => cX1_opAt_c (by omega) h) (fun r11 s12 _ => ?_)
      refine go_aload_n 0 dX5_putTogether_35 rfl rfl ?_
      refine go_getR gf_RX5_37 gcf_5 gft_5_5 dX5_putTogether_36 (fun v13 => ?_)
      refine go_iload_n 2 dX5_putTogether_39 rfl rfl ?_
      refine go_callV_I (as := [vi x2]) gk_RX5_129 gmf_X1_argumentAt (by decide) rfl (by omega) rfl rfl (Nat.le_of_ble_eq_true rfl) dX5_putTogether_40 (fun _ _ h => cX1_argumentAt_c (by omega) h) (fun r14 s15 _ => ?_)
      refine go_callV_v (as := [vi r11, vi r14]) gk_RX5_132 gmf_X5_perform (by decide) rfl (by omega) rfl rfl (Nat.le_of_ble_eq_true rfl) dX5_putTogether_43 (fun _ _ h => cX5_perform_c (by omega) h) (fun r16 s17 _ => ?_)
      refine go_iinc (v := 1) (L' := [(2, vi (x2 + 1)), (0, vr a0), (1, vi x1)]) 2 dX5_putTogether_46 rfl (by decide) (by decide) rfl ?_
      refine go_goto (tgt := 14) dX5_putTogether_49 (by decide) ?_
      exact go_sub [1, 2, 0] (ih (x2 + 1) s17) rfl
    · exact go_sub [0, 1] (hk52 s8) rfl
def gX5_putTogether_L85 (k118 : gH → Option (Unit × gH)) (a0 : Nat) (x1 : Int32) (a2 : Nat) : Nat → Int32 → gH → Option (Unit × gH)
  | 0, _, _ => none
  | n + 1, x3, s0 =>
    (ggR s0 a0 5 3).bind fun v28 =>
    (gaR s0 v28 6 x1).bind fun v29 =>
    (ggI s0 v29 7 1).bind fun v30 =>
    if x3 < v30 then
      (ggR s0 a0 5 3).bind fun v32 =>
      (gaR s0 v32 6 x1).bind fun v33 =>
      gb2 (gcv s0 v33 7 (fX7_valueAt v33 x3 s0)) fun r34 s35 =>
      gb2 (gcv s35 a2 2 (fX2_put a2 r34 s35)) fun r36 s37 =>
      gX5_putTogether_L85 k118 a0 x1 a2 n (x3 + 1) s37
    else
      k118 s0
set_option maxRecDepth 100000 in
set_option maxHeartbeats 4000000 in
theorem wX5_putTogether_L85 {X : Nat × (Nat → Int32)} {d : Nat} (hd : 4 ≤ d) (k118 : gH → Option (Unit × gH)) (a0 : Nat) (x1 : Int32) (a2 : Nat) (hk118 : ∀ (s : gH), gGo X rvU mX5_putTogether d 118 [(0, vr a0), (1, vi x1), (2, vr a2)] [] s (k118 s)) : ∀ (n : Nat) (x3 : Int32) (s0 : gH), gGo X rvU mX5_putTogether d 85 [(0, vr a0), (1, vi x1), (2, vr a2), (3, vi x3)] [] s0 (gX5_putTogether_L85 k118 a0 x1 a2 n x3 s0) := by
  intro n
  induction n with
  | zero => intros; exact go_none
  | succ n ih =>
    intro x3 s0
    show gGo _ _ _ _ _ _ _ _ (gX5_putTogether_L85 k118 a0 x1 a2 (n + 1) x3 s0)
    unfold gX5_putTogether_L85
    refine go_iload_n 3 dX5_putTogether_85 rfl rfl ?_
    refine go_aload_n 0 dX5_putTogether_86 rfl rfl ?_
    refine go_getR gf_RX5_22 gcf_5 gft_5_3 dX5_putTogether_87 (fun v28 => ?_)
    refine go_iload_n 1 dX5_putTogether_90 rfl rfl ?_
    refine go_aaload (t := 6) (by decide) (by decide) dX5_putTogether_91 (fun v29 _ => ?_)
    refine go_getI gf_RX5_82 gcf_7 gft_7_1 dX5_putTogether_92 (fun v30 => ?_)
    refine go_icmp_ge (tgt := 118) dX5_putTogether_95 (by decide) (fun h31 => ?_) (fun h31 => ?_)
    · refine go_aload_n 2 dX5_putTogether_98 rfl rfl ?_
      refine go_aload_n 0 dX5_putTogether_99 rfl rfl ?_
      refine go_getR gf_RX5_22 gcf_5 gft_5_3 dX5_putTogether_100 (fun v32 => ?_)
      refine go_iload_n 1 dX5_putTogether_103 rfl rfl ?_
      refine go_aaload (t := 6) (by decide) (by decide) dX5_putTogether_104 (fun v33 _ => ?_)
      refine go_iload_n 3 dX5_putTogether_105 rfl rfl ?_
      refine go_callV_I (as := [vi x3]) gk_RX5_96 gmf_X7_valueAt (by decide) rfl (by omega) rfl rfl (Nat.le_of_ble_eq_true rfl) dX5_putTogether_106 (fun _ _ h => cX7_valueAt_c (by omega) h) (fun r34 s35 _ => ?_)
      refine go_callV_v (as := [vi r34]) gk_RX5_140 gmf_X2_put (by decide) rfl (by omega) rfl rfl (Nat.le_of_ble_eq_true rfl) dX5_putTogether_109 (fun _ _ h => cX2_put_c (by omega) h) (fun r36 s37 _ => ?_)
      refine go_iinc (v := 1) (L' := [(3, vi (x3 + 1)), (0, vr a0), (1, vi x1), (2, vr a2)]) 3 dX5_putTogether_112 rfl (by decide) (by decide) rfl ?_
      refine go_goto (tgt := 85) dX5_putTogether_115 (by decide) ?_
      exact go_sub [1, 2, 3, 0] (ih (x3 + 1) s37) rfl
    · exact go_sub [0, 1, 2] (hk118 s0) rfl
def gX5_putTogether_L120  (a0 : Nat) (x1 : Int32) (a2 : Nat) : Nat → Int32 → gH → Option (Unit × gH)
  | 0, _, _ => none
  | n + 1, x3, s0 =>
    (ggR s0 a0 5 4).bind fun v40 =>
    (gaR s0 v40 6 x1).bind fun v41 =>
    (ggI s0 v41 7 1).bind fun v42 =>
    if x3 < v42 then
      (ggR s0 a0 5 4).bind fun v44 =>
      (gaR s0 v44 6 x1).bind fun v45 =>
      gb2 (gcv s0 v45 7 (fX7_valueAt v45 x3 s0)) fun r46 s47 =>
      gb2 (gcv s47 a2 2 (fX2_take a2 r46 s47)) fun r48 s49 =>
      gX5_putTogether_L120 a0 x1 a2 n (x3 + 1) s49
    else
      some ((), s0)
set_option maxRecDepth 100000 in
set_option maxHeartbeats 4000000 in
theorem wX5_putTogether_L120 {X : Nat × (Nat → Int32)} {d : Nat} (hd : 4 ≤ d)  (a0 : Nat) (x1 : Int32) (a2 : Nat) : ∀ (n : Nat) (x3 : Int32) (s0 : gH), gGo X rvU mX5_putTogether d 120 [(0, vr a0), (1, vi x1), (2, vr a2), (3, vi x3)] [] s0 (gX5_putTogether_L120 a0 x1 a2 n x3 s0) := by
  intro n
  induction n with
  | zero => intros; exact go_none
  | succ n ih =>
    intro x3 s0
    show gGo _ _ _ _ _ _ _ _ (gX5_putTogether_L120 a0 x1 a2 (n + 1) x3 s0)
    unfold gX5_putTogether_L120
    refine go_iload_n 3 dX5_putTogether_120 rfl rfl ?_
    refine go_aload_n 0 dX5_putTogether_121 rfl rfl ?_
    refine go_getR gf_RX5_26 gcf_5 gft_5_4 dX5_putTogether_122 (fun v40 => ?_)
    refine go_iload_n 1 dX5_putTogether_125 rfl rfl ?_
    refine go_aaload (t := 6) (by decide) (by decide) dX5_putTogether_126 (fun v41 _ => ?_)
    refine go_getI gf_RX5_82 gcf_7 gft_7_1 dX5_putTogether_127 (fun v42 => ?_)
    refine go_icmp_ge (tgt := 153) dX5_putTogether_130 (by decide) (fun h43 => ?_) (fun h43 => ?_)
    · refine go_aload_n 2 dX5_putTogether_133 rfl rfl ?_
      refine go_aload_n 0 dX5_putTogether_134 rfl rfl ?_
      refine go_getR gf_RX5_26 gcf_5 gft_5_4 dX5_putTogether_135 (fun v44 => ?_)
      refine go_iload_n 1 dX5_putTogether_138 rfl rfl ?_
      refine go_aaload (t := 6) (by decide) (by decide) dX5_putTogether_139 (fun v45 _ => ?_)
      refine go_iload_n 3 dX5_putTogether_140 rfl rfl ?_
      refine go_callV_I (as := [vi x3]) gk_RX5_96 gmf_X7_valueAt (by decide) rfl (by omega) rfl rfl (Nat.le_of_ble_eq_true rfl) dX5_putTogether_141 (fun _ _ h => cX7_valueAt_c (by omega) h) (fun r46 s47 _ => ?_)
      refine go_callV_v (as := [vi r46]) gk_RX5_143 gmf_X2_take (by decide) rfl (by omega) rfl rfl (Nat.le_of_ble_eq_true rfl) dX5_putTogether_144 (fun _ _ h => cX2_take_c (by omega) h) (fun r48 s49 _ => ?_)
      refine go_iinc (v := 1) (L' := [(3, vi (x3 + 1)), (0, vr a0), (1, vi x1), (2, vr a2)]) 3 dX5_putTogether_147 rfl (by decide) (by decide) rfl ?_
      refine go_goto (tgt := 120) dX5_putTogether_150 (by decide) ?_
      exact go_sub [1, 2, 3, 0] (ih (x3 + 1) s49) rfl
    · exact go_retv rfl dX5_putTogether_153
def fX5_putTogether (a0 : Nat) (x1 : Int32) (s0 : gH) : Option (Unit × gH) :=
  (spI s0 a0 5 6 0).bind fun s1 =>
  (ggR s1 a0 5 5).bind fun v2 =>
  gb2 (gcv s1 v2 1 (fX1_codeStart v2 x1 s1)) fun r3 s4 =>
  gX5_putTogether_L14
    (fun s18 =>
      if x1 < 0 then
        some ((), s18)
      else
        if x1 < 6 then
          (ggR s18 a0 5 1).bind fun v21 =>
          (gaR s18 v21 5 (6 + x1)).bind fun v22 =>
          (ggR s18 a0 5 2).bind fun v23 =>
          (gaR s18 v23 5 0).bind fun v24 =>
          gb2 (gcv s18 v22 2 (fX2_copy v22 v24 s18)) fun r25 s26 =>
          gX5_putTogether_L85
            (fun s38 =>
              gX5_putTogether_L120
                a0 x1 v22 20000 0 s38)
            a0 x1 v22 20000 0 s26
        else
          some ((), s18))
    a0 x1 20000 r3 s4
set_option maxRecDepth 100000 in
set_option maxHeartbeats 4000000 in
theorem wX5_putTogether {X : Nat × (Nat → Int32)} {d : Nat} (hd : 4 ≤ d) {a0 : Nat} {x1 : Int32} {s0 : gH} : gGo X rvU mX5_putTogether d 0 [(0, vr a0), (1, vi x1)] [] s0 (fX5_putTogether a0 x1 s0) := by
  unfold fX5_putTogether
  refine go_aload_n 0 dX5_putTogether_0 rfl rfl ?_
  refine go_iconst (v := 0) dX5_putTogether_1 (by decide) ?_
  refine go_putI gf_RX5_117 gcf_5 gpl_5_6 gft_5_6 dX5_putTogether_2 (fun s1 _ => ?_)
  refine go_aload_n 0 dX5_putTogether_5 rfl rfl ?_
  refine go_getR gf_RX5_37 gcf_5 gft_5_5 dX5_putTogether_6 (fun v2 => ?_)
  refine go_iload_n 1 dX5_putTogether_9 rfl rfl ?_
  refine go_callV_I (as := [vi x1]) gk_RX5_120 gmf_X1_codeStart (by decide) rfl (by omega) rfl rfl (Nat.le_of_ble_eq_true rfl) dX5_putTogether_10 (fun _ _ h => cX1_codeStart_c (by omega) h) (fun r3 s4 _ => ?_)
  refine go_istore_n (L' := [(2, vi r3), (0, vr a0), (1, vi x1)]) dX5_putTogether_13 rfl (by decide) rfl ?_
  refine go_sub [1, 2, 0] (wX5_putTogether_L14 hd _ a0 x1 ?_ 20000 r3 s4) rfl
  intro s18
  refine go_iload_n 1 dX5_putTogether_52 rfl rfl ?_
  refine go_if_lt (tgt := 62) dX5_putTogether_53 (by decide) (fun h19 => ?_) (fun h19 => ?_)
  · exact go_retv rfl dX5_putTogether_62
  · refine go_iload_n 1 dX5_putTogether_56 rfl rfl ?_
    refine go_bipush (v := 6) dX5_putTogether_57 (by decide) ?_
    refine go_icmp_lt (tgt := 63) dX5_putTogether_59 (by decide) (fun h20 => ?_) (fun h20 => ?_)
    · refine go_aload_n 0 dX5_putTogether_63 rfl rfl ?_
      refine go_getR gf_RX5_11 gcf_5 gft_5_1 dX5_putTogether_64 (fun v21 => ?_)
      refine go_bipush (v := 6) dX5_putTogether_67 (by decide) ?_
      refine go_iload_n 1 dX5_putTogether_69 rfl rfl ?_
      refine go_iadd dX5_putTogether_70 ?_
      refine go_aaload (t := 5) (by decide) (by decide) dX5_putTogether_71 (fun v22 _ => ?_)
      refine go_astore_n (L' := [(2, vr v22), (0, vr a0), (1, vi x1)]) dX5_putTogether_72 rfl (by decide) rfl ?_
      refine go_aload_n 0 dX5_putTogether_73 rfl rfl ?_
      refine go_aload_n 1 dX5_putTogether_74 rfl rfl ?_
      refine go_getR gf_RX5_17 gcf_5 gft_5_2 dX5_putTogether_75 (fun v23 => ?_)
      refine go_iconst (v := 0) dX5_putTogether_78 (by decide) ?_
      refine go_aaload (t := 5) (by decide) (by decide) dX5_putTogether_79 (fun v24 _ => ?_)
      refine go_callV_v (as := [vr v24]) gk_RX5_136 gmf_X2_copy (by decide) rfl (by omega) rfl rfl (Nat.le_of_ble_eq_true rfl) dX5_putTogether_80 (fun _ _ h => cX2_copy_c (by omega) h) (fun r25 s26 _ => ?_)
      refine go_iconst (v := 0) dX5_putTogether_83 (by decide) ?_
      refine go_istore_n (L' := [(3, vi 0), (2, vr v22), (0, vr a0), (1, vi x1)]) dX5_putTogether_84 rfl (by decide) rfl ?_
      refine go_sub [2, 3, 1, 0] (wX5_putTogether_L85 hd _ a0 x1 v22 ?_ 20000 0 s26) rfl
      intro s38
      refine go_iconst (v := 0) dX5_putTogether_118 (by decide) ?_
      refine go_istore_n (L' := [(3, vi 0), (0, vr a0), (1, vi x1), (2, vr v22)]) dX5_putTogether_119 rfl (by decide) rfl ?_
      refine go_sub [1, 2, 3, 0] (wX5_putTogether_L120 hd a0 x1 v22 20000 0 s38) rfl
    · exact go_retv rfl dX5_putTogether_62
set_option maxRecDepth 100000 in
set_option maxHeartbeats 4000000 in
theorem cX5_putTogether_c {d : Nat} (hd : 4 ≤ d) {a0 : Nat} {x1 : Int32} {s0 : gH} {r : Unit} {s1 : gH} (h : fX5_putTogether a0 x1 s0 = some (r, s1)) : gMt mX5_putTogether d [vr a0, vi x1] s0 none s1 :=
  gMt_of (rv := rvU) (by decide +kernel) (Nat.le_of_ble_eq_true rfl) rfl (fun _ => wX5_putTogether hd) h
def gX5_daysOf_L31  (a0 : Nat) (x1 : Int32) : Nat → Int32 → gH → Option (Nat × gH)
  | 0, _, _ => none
  | n + 1, x2, s0 =>
    if x2 < 6 then
      (ggI s0 a0 5 7).bind fun v12 =>
      if x1 - 6 < v12 then
        (ggR s0 a0 5 1).bind fun v14 =>
        (gaR s0 v14 5 x1).bind fun v15 =>
        some (v15, s0)
      else
        (ggI s0 a0 5 7).bind fun v16 =>
        gb2 (gcv s0 a0 5 (fX5_putTogether a0 v16 s0)) fun r17 s18 =>
        (ggI s18 a0 5 7).bind fun v19 =>
        (spI s18 a0 5 7 (v19 + 1)).bind fun s20 =>
        gX5_daysOf_L31 a0 x1 n (x2 + 1) s20
    else
      (ggR s0 a0 5 1).bind fun v21 =>
      (gaR s0 v21 5 x1).bind fun v22 =>
      some (v22, s0)
set_option maxRecDepth 100000 in
set_option maxHeartbeats 4000000 in
theorem wX5_daysOf_L31 {X : Nat × (Nat → Int32)} {d : Nat} (hd : 5 ≤ d)  (a0 : Nat) (x1 : Int32) : ∀ (n : Nat) (x2 : Int32) (s0 : gH), gGo X rvR mX5_daysOf d 31 [(0, vr a0), (1, vi x1), (2, vi x2)] [] s0 (gX5_daysOf_L31 a0 x1 n x2 s0) := by
  intro n
  induction n with
  | zero => intros; exact go_none
  | succ n ih =>
    intro x2 s0
    show gGo _ _ _ _ _ _ _ _ (gX5_daysOf_L31 a0 x1 (n + 1) x2 s0)
    unfold gX5_daysOf_L31
    refine go_iload_n 2 dX5_daysOf_31 rfl rfl ?_
    refine go_bipush (v := 6) dX5_daysOf_32 (by decide) ?_
    refine go_icmp_ge (tgt := 72) dX5_daysOf_34 (by decide) (fun h11 => ?_) (fun h11 => ?_)
    · refine go_aload_n 0 dX5_daysOf_37 rfl rfl ?_
      refine go_getI gf_RX5_53 gcf_5 gft_5_7 dX5_daysOf_38 (fun v12 => ?_)
      refine go_iload_n 1 dX5_daysOf_41 rfl rfl ?_
      refine go_bipush (v := 6) dX5_daysOf_42 (by decide) ?_
      refine go_isub dX5_daysOf_44 ?_
      refine go_icmp_gt (tgt := 72) dX5_daysOf_45 (by decide) (fun h13 => ?_) (fun h13 => ?_)
      · refine go_aload_n 0 dX5_daysOf_72 rfl rfl ?_
        refine go_getR gf_RX5_11 gcf_5 gft_5_1 dX5_daysOf_73 (fun v14 => ?_)
        refine go_iload_n 1 dX5_daysOf_76 rfl rfl ?_
        refine go_aaload (t := 5) (by decide) (by decide) dX5_daysOf_77 (fun v15 _ => ?_)
        exact go_ret rfl dX5_daysOf_78
      · refine go_aload_n 0 dX5_daysOf_48 rfl rfl ?_
        refine go_aload_n 0 dX5_daysOf_49 rfl rfl ?_
        refine go_getI gf_RX5_53 gcf_5 gft_5_7 dX5_daysOf_50 (fun v16 => ?_)
        refine go_callV_v (as := [vi v16]) gk_RX5_75 gmf_X5_putTogether (by decide) rfl (by omega) rfl rfl (Nat.le_of_ble_eq_true rfl) dX5_daysOf_53 (fun _ _ h => cX5_putTogether_c (by omega) h) (fun r17 s18 _ => ?_)
        refine go_aload_n 0 dX5_daysOf_56 rfl rfl ?_
        refine go_dup dX5_daysOf_57 rfl ?_
        refine go_getI gf_RX5_53 gcf_5 gft_5_7 dX5_daysOf_58 (fun v19 => ?_)
        refine go_iconst (v := 1) dX5_daysOf_61 (by decide) ?_
        refine go_iadd dX5_daysOf_62 ?_
        refine go_putI gf_RX5_53 gcf_5 gpl_5_7 gft_5_7 dX5_daysOf_63 (fun s20 _ => ?_)
        refine go_iinc (v := 1) (L' := [(2, vi (x2 + 1)), (0, vr a0), (1, vi x1)]) 2 dX5_daysOf_66 rfl (by decide) (by decide) rfl ?_
        refine go_goto (tgt := 31) dX5_daysOf_69 (by decide) ?_
        exact go_sub [1, 2, 0] (ih (x2 + 1) s20) rfl
    · refine go_aload_n 0 dX5_daysOf_72 rfl rfl ?_
      refine go_getR gf_RX5_11 gcf_5 gft_5_1 dX5_daysOf_73 (fun v21 => ?_)
      refine go_iload_n 1 dX5_daysOf_76 rfl rfl ?_
      refine go_aaload (t := 5) (by decide) (by decide) dX5_daysOf_77 (fun v22 _ => ?_)
      exact go_ret rfl dX5_daysOf_78
def fX5_daysOf (a0 : Nat) (x1 : Int32) (s0 : gH) : Option (Nat × gH) :=
  (ggR s0 a0 5 5).bind fun v1 =>
  if v1 = 0 then
    some (0, s0)
  else
    (ggR s0 a0 5 5).bind fun v3 =>
    gb2 (gcv s0 v3 1 (fX1_isWhat v3 x1 s0)) fun r4 s5 =>
    if r4 = 0 then
      some (0, s5)
    else
      (ggR s5 a0 5 1).bind fun v7 =>
      (glen s5 v7).bind fun v8 =>
      if x1 < v8 then
        gX5_daysOf_L31
          a0 x1 20000 0 s5
      else
        some (0, s5)
set_option maxRecDepth 100000 in
set_option maxHeartbeats 4000000 in
theorem wX5_daysOf {X : Nat × (Nat → Int32)} {d : Nat} (hd : 5 ≤ d) {a0 : Nat} {x1 : Int32} {s0 : gH} : gGo X rvR mX5_daysOf d 0 [(0, vr a0), (1, vi x1)] [] s0 (fX5_daysOf a0 x1 s0) := by
  unfold fX5_daysOf
  refine go_aload_n 0 dX5_daysOf_0 rfl rfl ?_
  refine go_getR gf_RX5_37 gcf_5 gft_5_5 dX5_daysOf_1 (fun v1 => ?_)
  refine go_ifnull (tgt := 27) dX5_daysOf_4 (by decide) (fun h2 => ?_) (fun h2 => ?_)
  · refine go_null dX5_daysOf_27 ?_
    exact go_ret rfl dX5_daysOf_28
  · refine go_aload_n 0 dX5_daysOf_7 rfl rfl ?_
    refine go_getR gf_RX5_37 gcf_5 gft_5_5 dX5_daysOf_8 (fun v3 => ?_)
    refine go_iload_n 1 dX5_daysOf_11 rfl rfl ?_
    refine go_callV_I (as := [vi x1]) gk_RX5_71 gmf_X1_isWhat (by decide) rfl (by omega) rfl rfl (Nat.le_of_ble_eq_true rfl) dX5_daysOf_12 (fun _ _ h => cX1_isWhat_c (by omega) h) (fun r4 s5 _ => ?_)
    refine go_if_eq (tgt := 27) dX5_daysOf_15 (by decide) (fun h6 => ?_) (fun h6 => ?_)
    · refine go_null dX5_daysOf_27 ?_
      exact go_ret rfl dX5_daysOf_28
    · refine go_iload_n 1 dX5_daysOf_18 rfl rfl ?_
      refine go_aload_n 0 dX5_daysOf_19 rfl rfl ?_
      refine go_getR gf_RX5_11 gcf_5 gft_5_1 dX5_daysOf_20 (fun v7 => ?_)
      refine go_alen dX5_daysOf_23 (fun v8 _ => ?_)
      refine go_icmp_lt (tgt := 29) dX5_daysOf_24 (by decide) (fun h9 => ?_) (fun h9 => ?_)
      · refine go_iconst (v := 0) dX5_daysOf_29 (by decide) ?_
        refine go_istore_n (L' := [(2, vi 0), (0, vr a0), (1, vi x1)]) dX5_daysOf_30 rfl (by decide) rfl ?_
        refine go_sub [1, 2, 0] (wX5_daysOf_L31 hd a0 x1 20000 0 s5) rfl
      · refine go_null dX5_daysOf_27 ?_
        exact go_ret rfl dX5_daysOf_28
set_option maxRecDepth 100000 in
set_option maxHeartbeats 4000000 in
theorem cX5_daysOf_c {d : Nat} (hd : 5 ≤ d) {a0 : Nat} {x1 : Int32} {s0 : gH} {r : Nat} {s1 : gH} (h : fX5_daysOf a0 x1 s0 = some (r, s1)) : gMt mX5_daysOf d [vr a0, vi x1] s0 (some (vr r)) s1 :=
  gMt_of (rv := rvR) (by decide +kernel) (Nat.le_of_ble_eq_true rfl) ⟨_, rfl, (Or.inl ⟨_, rfl⟩)⟩ (fun _ => wX5_daysOf hd) h
def gX2_holds (a0 : Nat) (x1 : Int32) (s0 : gH) : Option (Int32 × gH) :=
  gb2 (fX11_isDay x1 s0) fun r1 s2 =>
  if r1 = 0 then
    some (0, s2)
  else
    (ggR s2 a0 2 0).bind fun v4 =>
    (gaJ s2 v4 (x1 >>> (6 &&& 31))).bind fun v5 =>
    if lg_cmp ((gLushr v5 (x1 &&& 63)) &&& 1) 0 = 0 then
      some (0, s2)
    else
      some (1, s2)
def fX2_holds (a0 : Nat) (x1 : Int32) (s0 : gH) : Option (Int32 × gH) := gzr (gX2_holds a0 x1 s0)
set_option maxRecDepth 100000 in
set_option maxHeartbeats 4000000 in
theorem wX2_holds {X : Nat × (Nat → Int32)} {d : Nat} (hd : 1 ≤ d) {a0 : Nat} {x1 : Int32} {s0 : gH} : gGo X rvI mX2_holds d 0 [(0, vr a0), (1, vi x1)] [] s0 (gX2_holds a0 x1 s0) := by
  unfold gX2_holds
  refine go_iload_n 1 dX2_holds_0 rfl rfl ?_
  refine go_callSN_I (as := [vi x1]) (List.mem_of_getElem? (i := 8) rfl) gst_X11_isDay gmf_X11_isDay (by omega) rfl rfl (Nat.le_of_ble_eq_true rfl) dX2_holds_1 (fun _ _ h => cX11_isDay_c (by omega) h) (fun r1 s2 _ => ?_)
  refine go_if_eq (tgt := 32) dX2_holds_4 (by decide) (fun h3 => ?_) (fun h3 => ?_)
  · refine go_iconst (v := 0) dX2_holds_32 (by decide) ?_
    exact go_ret rfl dX2_holds_33
  · refine go_aload_n 0 dX2_holds_7 rfl rfl ?_
    refine go_getR gf_RX2_11 gcf_2 gft_2_0 dX2_holds_8 (fun v4 => ?_)
    refine go_iload_n 1 dX2_holds_11 rfl rfl ?_
    refine go_bipush (v := 6) dX2_holds_12 (by decide) ?_
    refine go_ishr dX2_holds_14 ?_
    refine go_laload dX2_holds_15 (fun v5 _ => ?_)
    refine go_iload_n 1 dX2_holds_16 rfl rfl ?_
    refine go_bipush (v := 63) dX2_holds_17 (by decide) ?_
    refine go_iand dX2_holds_19 ?_
    refine go_lushr dX2_holds_20 ?_
    refine go_lconst (v := 1) dX2_holds_21 (by decide) ?_
    refine go_land dX2_holds_22 ?_
    refine go_lconst (v := 0) dX2_holds_23 (by decide) ?_
    refine go_lcmp dX2_holds_24 ?_
    refine go_if_eq (tgt := 32) dX2_holds_25 (by decide) (fun h6 => ?_) (fun h6 => ?_)
    · refine go_iconst (v := 0) dX2_holds_32 (by decide) ?_
      exact go_ret rfl dX2_holds_33
    · refine go_iconst (v := 1) dX2_holds_28 (by decide) ?_
      refine go_goto (tgt := 33) dX2_holds_29 (by decide) ?_
      exact go_ret rfl dX2_holds_33
set_option maxRecDepth 100000 in
set_option maxHeartbeats 4000000 in
theorem cX2_holds_c {d : Nat} (hd : 1 ≤ d) {a0 : Nat} {x1 : Int32} {s0 : gH} {r : Int32} {s1 : gH} (h : fX2_holds a0 x1 s0 = some (r, s1)) : gMt mX2_holds d [vr a0, vi x1] s0 (some (vi r)) s1 := by
  obtain ⟨h1, h2⟩ := gzr_some h
  exact gMt_of (rv := rvI) (by decide +kernel) (Nat.le_of_ble_eq_true rfl) ⟨_, rfl, gnarZ h2⟩ (fun _ => wX2_holds hd) h1
def fX11_on (a0 : Nat) (x1 : Int32) (x2 : Int32) (s0 : gH) : Option (Int32 × gH) :=
  (ggR s0 a0 11 3).bind fun v1 =>
  gb2 (gcv s0 v1 5 (fX5_daysOf v1 x1 s0)) fun r2 s3 =>
  if r2 = 0 then
    some (-1, s3)
  else
    gb2 (fX11_isDay x2 s3) fun r5 s6 =>
    if r5 = 0 then
      some (-1, s6)
    else
      gb2 (gcv s6 r2 2 (fX2_holds r2 x2 s6)) fun r8 s9 =>
      if r8 = 0 then
        some (0, s9)
      else
        some (1, s9)
set_option maxRecDepth 100000 in
set_option maxHeartbeats 4000000 in
theorem wX11_on {X : Nat × (Nat → Int32)} {d : Nat} (hd : 6 ≤ d) {a0 : Nat} {x1 : Int32} {x2 : Int32} {s0 : gH} : gGo X rvI mX11_on d 0 [(0, vr a0), (1, vi x1), (2, vi x2)] [] s0 (fX11_on a0 x1 x2 s0) := by
  unfold fX11_on
  refine go_aload_n 0 dX11_on_0 rfl rfl ?_
  refine go_getR gf_RX11_35 gcf_11 gft_11_3 dX11_on_1 (fun v1 => ?_)
  refine go_iload_n 1 dX11_on_4 rfl rfl ?_
  refine go_callV_R (as := [vi x1]) gk_RX11_145 gmf_X5_daysOf (by decide) rfl (by omega) rfl rfl (Nat.le_of_ble_eq_true rfl) dX11_on_5 (fun _ _ h => cX5_daysOf_c (by omega) h) (fun r2 s3 _ => ?_)
  refine go_astore_n (L' := [(3, vr r2), (0, vr a0), (1, vi x1), (2, vi x2)]) dX11_on_8 rfl (by decide) rfl ?_
  refine go_aload_n 0 dX11_on_9 rfl rfl ?_
  refine go_ifnull (tgt := 20) dX11_on_10 (by decide) (fun h4 => ?_) (fun h4 => ?_)
  · refine go_iconst (v := -1) dX11_on_20 (by decide) ?_
    exact go_ret rfl dX11_on_21
  · refine go_iload_n 3 dX11_on_13 rfl rfl ?_
    refine go_callS_I (as := [vi x2]) gk_RX11_139 gmf_X11_isDay (by omega) rfl rfl (Nat.le_of_ble_eq_true rfl) dX11_on_14 (fun _ _ h => cX11_isDay_c (by omega) h) (fun r5 s6 _ => ?_)
    refine go_if_ne (tgt := 22) dX11_on_17 (by decide) (fun h7 => ?_) (fun h7 => ?_)
    · refine go_iconst (v := -1) dX11_on_20 (by decide) ?_
      exact go_ret rfl dX11_on_21
    · refine go_aload_n 0 dX11_on_22 rfl rfl ?_
      refine go_iload_n 3 dX11_on_23 rfl rfl ?_
      refine go_callV_I (as := [vi x2]) gk_RX11_149 gmf_X2_holds (by decide) rfl (by omega) rfl rfl (Nat.le_of_ble_eq_true rfl) dX11_on_24 (fun _ _ h => cX2_holds_c (by omega) h) (fun r8 s9 _ => ?_)
      refine go_if_eq (tgt := 34) dX11_on_27 (by decide) (fun h10 => ?_) (fun h10 => ?_)
      · refine go_iconst (v := 0) dX11_on_34 (by decide) ?_
        exact go_ret rfl dX11_on_35
      · refine go_iconst (v := 1) dX11_on_30 (by decide) ?_
        refine go_goto (tgt := 35) dX11_on_31 (by decide) ?_
        exact go_ret rfl dX11_on_35
set_option maxRecDepth 100000 in
set_option maxHeartbeats 4000000 in
theorem cX11_on_c {d : Nat} (hd : 6 ≤ d) {a0 : Nat} {x1 : Int32} {x2 : Int32} {s0 : gH} {r : Int32} {s1 : gH} (h : fX11_on a0 x1 x2 s0 = some (r, s1)) : gMt mX11_on d [vr a0, vi x1, vi x2] s0 (some (vi r)) s1 :=
  gMt_of (rv := rvI) (by decide +kernel) (Nat.le_of_ble_eq_true rfl) ⟨_, rfl, rfl⟩ (fun _ => wX11_on hd) h
def fX12_periodOf (a0 : Nat) (x1 : Int32) (x2 : Int32) (s0 : gH) : Option (Int32 × gH) :=
  gb2 (gcv s0 a0 12 (fX12_ruleHas a0 x1 2 s0)) fun r1 s2 =>
  if r1 = 0 then
    some (x2, s2)
  else
    if r1 = 1 then
      some ((x2 + 5) / 7, s2)
    else
      if r1 = 2 then
        (ggR s2 a0 12 13).bind fun v6 =>
        (gaI s2 v6 2 x2).bind fun v7 =>
        (ggR s2 a0 12 14).bind fun v8 =>
        (gaI s2 v8 2 x2).bind fun v9 =>
        some (((12 * (v7 - 2000)) + v9) - 1, s2)
      else
        (ggR s2 a0 12 13).bind fun v10 =>
        (gaI s2 v10 2 x2).bind fun v11 =>
        some (v11 - 2000, s2)
set_option maxRecDepth 100000 in
set_option maxHeartbeats 4000000 in
theorem wX12_periodOf {X : Nat × (Nat → Int32)} {d : Nat} (hd : 2 ≤ d) {a0 : Nat} {x1 : Int32} {x2 : Int32} {s0 : gH} : gGo X rvI mX12_periodOf d 0 [(0, vr a0), (1, vi x1), (2, vi x2)] [] s0 (fX12_periodOf a0 x1 x2 s0) := by
  unfold fX12_periodOf
  refine go_aload_n 0 dX12_periodOf_0 rfl rfl ?_
  refine go_iload_n 1 dX12_periodOf_1 rfl rfl ?_
  refine go_iconst (v := 2) dX12_periodOf_2 (by decide) ?_
  refine go_callV_I (as := [vi x1, vi 2]) gk_RX12_321 gmf_X12_ruleHas (by decide) rfl (by omega) rfl rfl (Nat.le_of_ble_eq_true rfl) dX12_periodOf_3 (fun _ _ h => cX12_ruleHas_c (by omega) h) (fun r1 s2 _ => ?_)
  refine go_ite (fun h3 => ?_) (fun h3 => ?_)
  · refine go_tsIn (v := 0) (off := 26) (tgt := 32) dX12_periodOf_6 h3 (by decide) (by decide) (by decide) (by decide) ?_
    refine go_iload_n 2 dX12_periodOf_32 rfl rfl ?_
    exact go_ret rfl dX12_periodOf_33
  · refine go_ite (fun h4 => ?_) (fun h4 => ?_)
    · refine go_tsIn (v := 1) (off := 28) (tgt := 34) dX12_periodOf_6 h4 (by decide) (by decide) (by decide) (by decide) ?_
      refine go_iload_n 2 dX12_periodOf_34 rfl rfl ?_
      refine go_iconst (v := 5) dX12_periodOf_35 (by decide) ?_
      refine go_iadd dX12_periodOf_36 ?_
      refine go_bipush (v := 7) dX12_periodOf_37 (by decide) ?_
      refine go_idivc dX12_periodOf_39 (by decide) ?_
      exact go_ret rfl dX12_periodOf_40
    · refine go_ite (fun h5 => ?_) (fun h5 => ?_)
      · refine go_tsIn (v := 2) (off := 35) (tgt := 41) dX12_periodOf_6 h5 (by decide) (by decide) (by decide) (by decide) ?_
        refine go_bipush (v := 12) dX12_periodOf_41 (by decide) ?_
        refine go_aload_n 0 dX12_periodOf_43 rfl rfl ?_
        refine go_getR gf_RX12_24 gcf_12 gft_12_13 dX12_periodOf_44 (fun v6 => ?_)
        refine go_iload_n 2 dX12_periodOf_47 rfl rfl ?_
        refine go_iaload dX12_periodOf_48 (fun v7 _ => ?_)
        refine go_sipush (v := 2000) dX12_periodOf_49 (by decide) ?_
        refine go_isub dX12_periodOf_52 ?_
        refine go_imul dX12_periodOf_53 ?_
        refine go_aload_n 0 dX12_periodOf_54 rfl rfl ?_
        refine go_getR gf_RX12_27 gcf_12 gft_12_14 dX12_periodOf_55 (fun v8 => ?_)
        refine go_iload_n 2 dX12_periodOf_58 rfl rfl ?_
        refine go_iaload dX12_periodOf_59 (fun v9 _ => ?_)
        refine go_iadd dX12_periodOf_60 ?_
        refine go_iconst (v := 1) dX12_periodOf_61 (by decide) ?_
        refine go_isub dX12_periodOf_62 ?_
        exact go_ret rfl dX12_periodOf_63
      · refine go_tsOut (tgt := 64) dX12_periodOf_6 (by have gh3 := gts h3 (n := 0) (by decide); have gh4 := gts h4 (n := 1) (by decide); have gh5 := gts h5 (n := 2) (by decide); omega) (by decide) ?_
        refine go_aload_n 0 dX12_periodOf_64 rfl rfl ?_
        refine go_getR gf_RX12_24 gcf_12 gft_12_13 dX12_periodOf_65 (fun v10 => ?_)
        refine go_iload_n 2 dX12_periodOf_68 rfl rfl ?_
        refine go_iaload dX12_periodOf_69 (fun v11 _ => ?_)
        refine go_sipush (v := 2000) dX12_periodOf_70 (by decide) ?_
        refine go_isub dX12_periodOf_73 ?_
        exact go_ret rfl dX12_periodOf_74
set_option maxRecDepth 100000 in
set_option maxHeartbeats 4000000 in
theorem cX12_periodOf_c {d : Nat} (hd : 2 ≤ d) {a0 : Nat} {x1 : Int32} {x2 : Int32} {s0 : gH} {r : Int32} {s1 : gH} (h : fX12_periodOf a0 x1 x2 s0 = some (r, s1)) : gMt mX12_periodOf d [vr a0, vi x1, vi x2] s0 (some (vi r)) s1 :=
  gMt_of (rv := rvI) (by decide +kernel) (Nat.le_of_ble_eq_true rfl) ⟨_, rfl, rfl⟩ (fun _ => wX12_periodOf hd) h
def gX12_hasIn (a0 : Nat) (x1 : Int32) (s0 : gH) : Option (Int32 × gH) :=
  gb2 (gcv s0 a0 12 (fX12_ruleHas a0 x1 4 s0)) fun r1 s2 =>
  if r1 = 0 then
    some (0, s2)
  else
    some (1, s2)
def fX12_hasIn (a0 : Nat) (x1 : Int32) (s0 : gH) : Option (Int32 × gH) := gzr (gX12_hasIn a0 x1 s0)
set_option maxRecDepth 100000 in
set_option maxHeartbeats 4000000 in
theorem wX12_hasIn {X : Nat × (Nat → Int32)} {d : Nat} (hd : 2 ≤ d) {a0 : Nat} {x1 : Int32} {s0 : gH} : gGo X rvI mX12_hasIn d 0 [(0, vr a0), (1, vi x1)] [] s0 (gX12_hasIn a0 x1 s0) := by
  unfold gX12_hasIn
  refine go_aload_n 0 dX12_hasIn_0 rfl rfl ?_
  refine go_iload_n 1 dX12_hasIn_1 rfl rfl ?_
  refine go_iconst (v := 4) dX12_hasIn_2 (by decide) ?_
  refine go_callV_I (as := [vi x1, vi 4]) gk_RX12_321 gmf_X12_ruleHas (by decide) rfl (by omega) rfl rfl (Nat.le_of_ble_eq_true rfl) dX12_hasIn_3 (fun _ _ h => cX12_ruleHas_c (by omega) h) (fun r1 s2 _ => ?_)
  refine go_if_eq (tgt := 13) dX12_hasIn_6 (by decide) (fun h3 => ?_) (fun h3 => ?_)
  · refine go_iconst (v := 0) dX12_hasIn_13 (by decide) ?_
    exact go_ret rfl dX12_hasIn_14
  · refine go_iconst (v := 1) dX12_hasIn_9 (by decide) ?_
    refine go_goto (tgt := 14) dX12_hasIn_10 (by decide) ?_
    exact go_ret rfl dX12_hasIn_14
set_option maxRecDepth 100000 in
set_option maxHeartbeats 4000000 in
theorem cX12_hasIn_c {d : Nat} (hd : 2 ≤ d) {a0 : Nat} {x1 : Int32} {s0 : gH} {r : Int32} {s1 : gH} (h : fX12_hasIn a0 x1 s0 = some (r, s1)) : gMt mX12_hasIn d [vr a0, vi x1] s0 (some (vi r)) s1 := by
  obtain ⟨h1, h2⟩ := gzr_some h
  exact gMt_of (rv := rvI) (by decide +kernel) (Nat.le_of_ble_eq_true rfl) ⟨_, rfl, gnarZ h2⟩ (fun _ => wX12_hasIn hd) h1
def gX12_isInMonths (a0 : Nat) (x1 : Int32) (x2 : Int32) (s0 : gH) : Option (Int32 × gH) :=
  gb2 (gcv s0 a0 12 (fX12_hasIn a0 x1 s0)) fun r1 s2 =>
  if r1 = 0 then
    some (1, s2)
  else
    gb2 (gcv s2 a0 12 (fX12_ruleHas a0 x1 4 s2)) fun r4 s5 =>
    (ggR s5 a0 12 14).bind fun v6 =>
    (gaI s5 v6 2 x2).bind fun v7 =>
    gb2 (fX12_isOf r4 v7 s5) fun r8 s9 =>
    if r8 = 0 then
      some (0, s9)
    else
      some (1, s9)
def fX12_isInMonths (a0 : Nat) (x1 : Int32) (x2 : Int32) (s0 : gH) : Option (Int32 × gH) := gzr (gX12_isInMonths a0 x1 x2 s0)
set_option maxRecDepth 100000 in
set_option maxHeartbeats 4000000 in
theorem wX12_isInMonths {X : Nat × (Nat → Int32)} {d : Nat} (hd : 3 ≤ d) {a0 : Nat} {x1 : Int32} {x2 : Int32} {s0 : gH} : gGo X rvI mX12_isInMonths d 0 [(0, vr a0), (1, vi x1), (2, vi x2)] [] s0 (gX12_isInMonths a0 x1 x2 s0) := by
  unfold gX12_isInMonths
  refine go_aload_n 0 dX12_isInMonths_0 rfl rfl ?_
  refine go_iload_n 1 dX12_isInMonths_1 rfl rfl ?_
  refine go_callV_I (as := [vi x1]) gk_RX12_330 gmf_X12_hasIn (by decide) rfl (by omega) rfl rfl (Nat.le_of_ble_eq_true rfl) dX12_isInMonths_2 (fun _ _ h => cX12_hasIn_c (by omega) h) (fun r1 s2 _ => ?_)
  refine go_if_eq (tgt := 26) dX12_isInMonths_5 (by decide) (fun h3 => ?_) (fun h3 => ?_)
  · refine go_iconst (v := 1) dX12_isInMonths_26 (by decide) ?_
    refine go_goto (tgt := 31) dX12_isInMonths_27 (by decide) ?_
    exact go_ret rfl dX12_isInMonths_31
  · refine go_aload_n 0 dX12_isInMonths_8 rfl rfl ?_
    refine go_iload_n 1 dX12_isInMonths_9 rfl rfl ?_
    refine go_iconst (v := 4) dX12_isInMonths_10 (by decide) ?_
    refine go_callV_I (as := [vi x1, vi 4]) gk_RX12_321 gmf_X12_ruleHas (by decide) rfl (by omega) rfl rfl (Nat.le_of_ble_eq_true rfl) dX12_isInMonths_11 (fun _ _ h => cX12_ruleHas_c (by omega) h) (fun r4 s5 _ => ?_)
    refine go_aload_n 0 dX12_isInMonths_14 rfl rfl ?_
    refine go_getR gf_RX12_27 gcf_12 gft_12_14 dX12_isInMonths_15 (fun v6 => ?_)
    refine go_iload_n 2 dX12_isInMonths_18 rfl rfl ?_
    refine go_iaload dX12_isInMonths_19 (fun v7 _ => ?_)
    refine go_callS_I (as := [vi r4, vi v7]) gk_RX12_212 gmf_X12_isOf (by omega) rfl rfl (Nat.le_of_ble_eq_true rfl) dX12_isInMonths_20 (fun _ _ h => cX12_isOf_c (by omega) h) (fun r8 s9 _ => ?_)
    refine go_if_eq (tgt := 30) dX12_isInMonths_23 (by decide) (fun h10 => ?_) (fun h10 => ?_)
    · refine go_iconst (v := 0) dX12_isInMonths_30 (by decide) ?_
      exact go_ret rfl dX12_isInMonths_31
    · refine go_iconst (v := 1) dX12_isInMonths_26 (by decide) ?_
      refine go_goto (tgt := 31) dX12_isInMonths_27 (by decide) ?_
      exact go_ret rfl dX12_isInMonths_31
set_option maxRecDepth 100000 in
set_option maxHeartbeats 4000000 in
theorem cX12_isInMonths_c {d : Nat} (hd : 3 ≤ d) {a0 : Nat} {x1 : Int32} {x2 : Int32} {s0 : gH} {r : Int32} {s1 : gH} (h : fX12_isInMonths a0 x1 x2 s0 = some (r, s1)) : gMt mX12_isInMonths d [vr a0, vi x1, vi x2] s0 (some (vi r)) s1 := by
  obtain ⟨h1, h2⟩ := gzr_some h
  exact gMt_of (rv := rvI) (by decide +kernel) (Nat.le_of_ble_eq_true rfl) ⟨_, rfl, gnarZ h2⟩ (fun _ => wX12_isInMonths hd) h1
def gX12_hasOn (a0 : Nat) (x1 : Int32) (s0 : gH) : Option (Int32 × gH) :=
  gb2 (gcv s0 a0 12 (fX12_ruleHas a0 x1 5 s0)) fun r1 s2 =>
  if 0 < r1 then
    some (1, s2)
  else
    some (0, s2)
def fX12_hasOn (a0 : Nat) (x1 : Int32) (s0 : gH) : Option (Int32 × gH) := gzr (gX12_hasOn a0 x1 s0)
set_option maxRecDepth 100000 in
set_option maxHeartbeats 4000000 in
theorem wX12_hasOn {X : Nat × (Nat → Int32)} {d : Nat} (hd : 2 ≤ d) {a0 : Nat} {x1 : Int32} {s0 : gH} : gGo X rvI mX12_hasOn d 0 [(0, vr a0), (1, vi x1)] [] s0 (gX12_hasOn a0 x1 s0) := by
  unfold gX12_hasOn
  refine go_aload_n 0 dX12_hasOn_0 rfl rfl ?_
  refine go_iload_n 1 dX12_hasOn_1 rfl rfl ?_
  refine go_iconst (v := 5) dX12_hasOn_2 (by decide) ?_
  refine go_callV_I (as := [vi x1, vi 5]) gk_RX12_321 gmf_X12_ruleHas (by decide) rfl (by omega) rfl rfl (Nat.le_of_ble_eq_true rfl) dX12_hasOn_3 (fun _ _ h => cX12_ruleHas_c (by omega) h) (fun r1 s2 _ => ?_)
  refine go_if_le (tgt := 13) dX12_hasOn_6 (by decide) (fun h3 => ?_) (fun h3 => ?_)
  · refine go_iconst (v := 1) dX12_hasOn_9 (by decide) ?_
    refine go_goto (tgt := 14) dX12_hasOn_10 (by decide) ?_
    exact go_ret rfl dX12_hasOn_14
  · refine go_iconst (v := 0) dX12_hasOn_13 (by decide) ?_
    exact go_ret rfl dX12_hasOn_14
set_option maxRecDepth 100000 in
set_option maxHeartbeats 4000000 in
theorem cX12_hasOn_c {d : Nat} (hd : 2 ≤ d) {a0 : Nat} {x1 : Int32} {s0 : gH} {r : Int32} {s1 : gH} (h : fX12_hasOn a0 x1 s0 = some (r, s1)) : gMt mX12_hasOn d [vr a0, vi x1] s0 (some (vi r)) s1 := by
  obtain ⟨h1, h2⟩ := gzr_some h
  exact gMt_of (rv := rvI) (by decide +kernel) (Nat.le_of_ble_eq_true rfl) ⟨_, rfl, gnarZ h2⟩ (fun _ => wX12_hasOn hd) h1
def gX12_isDated_L2  (a0 : Nat) (x1 : Int32) (x2 : Int32) : Nat → Int32 → gH → Option (Int32 × gH)
  | 0, _, _ => none
  | n + 1, x3, s0 =>
    gb2 (gcv s0 a0 12 (fX12_ruleHas a0 x1 5 s0)) fun r2 s3 =>
    if x3 < r2 then
      gb2 (gcv s3 a0 12 (fX12_ruleHas a0 x1 (6 + x3) s3)) fun r5 s6 =>
      (ggR s6 a0 12 15).bind fun v7 =>
      (gaI s6 v7 2 x2).bind fun v8 =>
      gjn (fun (z10 : Int32) (z11 : Int32) (s12 : gH) =>
          if z11 = z10 then
            some (1, s12)
          else
            gX12_isDated_L2 a0 x1 x2 n (x3 + 1) s12
      ) fun j9 =>
      if 0 < r5 then
        j9 r5 v8 s6
      else
        gb2 (gcv s6 a0 12 (fX12_longMonthOf a0 x2 s6)) fun r15 s16 =>
        j9 ((r15 + 1) + r5) v8 s16
    else
      some (0, s3)
set_option maxRecDepth 100000 in
set_option maxHeartbeats 4000000 in
theorem wX12_isDated_L2 {X : Nat × (Nat → Int32)} {d : Nat} (hd : 3 ≤ d)  (a0 : Nat) (x1 : Int32) (x2 : Int32) : ∀ (n : Nat) (x3 : Int32) (s0 : gH), gGo X rvI mX12_isDated d 2 [(0, vr a0), (1, vi x1), (2, vi x2), (3, vi x3)] [] s0 (gX12_isDated_L2 a0 x1 x2 n x3 s0) := by
  intro n
  induction n with
  | zero => intros; exact go_none
  | succ n ih =>
    intro x3 s0
    show gGo _ _ _ _ _ _ _ _ (gX12_isDated_L2 a0 x1 x2 (n + 1) x3 s0)
    unfold gX12_isDated_L2
    refine go_iload_n 3 dX12_isDated_2 rfl rfl ?_
    refine go_aload_n 0 dX12_isDated_3 rfl rfl ?_
    refine go_iload_n 1 dX12_isDated_4 rfl rfl ?_
    refine go_iconst (v := 5) dX12_isDated_5 (by decide) ?_
    refine go_callV_I (as := [vi x1, vi 5]) gk_RX12_321 gmf_X12_ruleHas (by decide) rfl (by omega) rfl rfl (Nat.le_of_ble_eq_true rfl) dX12_isDated_6 (fun _ _ h => cX12_ruleHas_c (by omega) h) (fun r2 s3 _ => ?_)
    refine go_icmp_ge (tgt := 60) dX12_isDated_9 (by decide) (fun h4 => ?_) (fun h4 => ?_)
    · refine go_aload_n 0 dX12_isDated_12 rfl rfl ?_
      refine go_iload_n 1 dX12_isDated_13 rfl rfl ?_
      refine go_bipush (v := 6) dX12_isDated_14 (by decide) ?_
      refine go_iload_n 3 dX12_isDated_16 rfl rfl ?_
      refine go_iadd dX12_isDated_17 ?_
      refine go_callV_I (as := [vi x1, vi (6 + x3)]) gk_RX12_321 gmf_X12_ruleHas (by decide) rfl (by omega) rfl rfl (Nat.le_of_ble_eq_true rfl) dX12_isDated_18 (fun _ _ h => cX12_ruleHas_c (by omega) h) (fun r5 s6 _ => ?_)
      refine go_istore (L' := [(4, vi r5), (0, vr a0), (1, vi x1), (2, vi x2), (3, vi x3)]) dX12_isDated_21 (by decide) rfl ?_
      refine go_aload_n 1 dX12_isDated_23 rfl rfl ?_
      refine go_getR gf_RX12_30 gcf_12 gft_12_15 dX12_isDated_24 (fun v7 => ?_)
      refine go_iload_n 3 dX12_isDated_27 rfl rfl ?_
      refine go_iaload dX12_isDated_28 (fun v8 _ => ?_)
      refine go_iload 0 dX12_isDated_29 rfl ?_
      refine go_gjn (P := fun j9 => ∀ (z10 : Int32) (z11 : Int32) (s12 : gH), gGo X rvI mX12_isDated d 49 [(0, vr a0), (1, vi x1), (2, vi x2), (3, vi x3)] [vi z10, vi z11] s12 (j9 z10 z11 s12)) (fun z10 z11 s12 => ?_) (fun j9 hj9 => ?_)
      · refine go_icmp_ne (tgt := 54) dX12_isDated_49 (by decide) (fun h13 => ?_) (fun h13 => ?_)
        · refine go_iconst (v := 1) dX12_isDated_52 (by decide) ?_
          exact go_ret rfl dX12_isDated_53
        · refine go_iinc (v := 1) (L' := [(3, vi (x3 + 1)), (0, vr a0), (1, vi x1), (2, vi x2)]) 3 dX12_isDated_54 rfl (by decide) (by decide) rfl ?_
          refine go_goto (tgt := 2) dX12_isDated_57 (by decide) ?_
          exact go_sub [1, 2, 3, 0] (ih (x3 + 1) s12) rfl
      · refine go_if_le (tgt := 39) dX12_isDated_31 (by decide) (fun h14 => ?_) (fun h14 => ?_)
        · refine go_iload 0 dX12_isDated_34 rfl ?_
          refine go_goto (tgt := 49) dX12_isDated_36 (by decide) ?_
          exact go_sub [1, 2, 3, 4] (hj9 r5 v8 s6) rfl
        · refine go_aload_n 1 dX12_isDated_39 rfl rfl ?_
          refine go_iload_n 3 dX12_isDated_40 rfl rfl ?_
          refine go_callV_I (as := [vi x2]) gk_RX12_324 gmf_X12_longMonthOf (by decide) rfl (by omega) rfl rfl (Nat.le_of_ble_eq_true rfl) dX12_isDated_41 (fun _ _ h => cX12_longMonthOf_c (by omega) h) (fun r15 s16 _ => ?_)
          refine go_iconst (v := 1) dX12_isDated_44 (by decide) ?_
          refine go_iadd dX12_isDated_45 ?_
          refine go_iload 0 dX12_isDated_46 rfl ?_
          refine go_iadd dX12_isDated_48 ?_
          exact go_sub [1, 2, 3, 4] (hj9 ((r15 + 1) + r5) v8 s16) rfl
    · refine go_iconst (v := 0) dX12_isDated_60 (by decide) ?_
      exact go_ret rfl dX12_isDated_61
def gX12_isDated (a0 : Nat) (x1 : Int32) (x2 : Int32) (s0 : gH) : Option (Int32 × gH) :=
  gX12_isDated_L2
    a0 x1 x2 20000 0 s0
def fX12_isDated (a0 : Nat) (x1 : Int32) (x2 : Int32) (s0 : gH) : Option (Int32 × gH) := gzr (gX12_isDated a0 x1 x2 s0)
set_option maxRecDepth 100000 in
set_option maxHeartbeats 4000000 in
theorem wX12_isDated {X : Nat × (Nat → Int32)} {d : Nat} (hd : 3 ≤ d) {a0 : Nat} {x1 : Int32} {x2 : Int32} {s0 : gH} : gGo X rvI mX12_isDated d 0 [(0, vr a0), (1, vi x1), (2, vi x2)] [] s0 (gX12_isDated a0 x1 x2 s0) := by
  unfold gX12_isDated
  refine go_iconst (v := 0) dX12_isDated_0 (by decide) ?_
  refine go_istore_n (L' := [(3, vi 0), (0, vr a0), (1, vi x1), (2, vi x2)]) dX12_isDated_1 rfl (by decide) rfl ?_
  refine go_sub [1, 2, 3, 0] (wX12_isDated_L2 hd a0 x1 x2 20000 0 s0) rfl
set_option maxRecDepth 100000 in
set_option maxHeartbeats 4000000 in
theorem cX12_isDated_c {d : Nat} (hd : 3 ≤ d) {a0 : Nat} {x1 : Int32} {x2 : Int32} {s0 : gH} {r : Int32} {s1 : gH} (h : fX12_isDated a0 x1 x2 s0 = some (r, s1)) : gMt mX12_isDated d [vr a0, vi x1, vi x2] s0 (some (vi r)) s1 := by
  obtain ⟨h1, h2⟩ := gzr_some h
  exact gMt_of (rv := rvI) (by decide +kernel) (Nat.le_of_ble_eq_true rfl) ⟨_, rfl, gnarZ h2⟩ (fun _ => wX12_isDated hd) h1
def gX12_hasBy (a0 : Nat) (x1 : Int32) (s0 : gH) : Option (Int32 × gH) :=
  gb2 (gcv s0 a0 12 (fX12_ruleHas a0 x1 14 s0)) fun r1 s2 =>
  if 0 < r1 then
    some (1, s2)
  else
    some (0, s2)
def fX12_hasBy (a0 : Nat) (x1 : Int32) (s0 : gH) : Option (Int32 × gH) := gzr (gX12_hasBy a0 x1 s0)
set_option maxRecDepth 100000 in
set_option maxHeartbeats 4000000 in
theorem wX12_hasBy {X : Nat × (Nat → Int32)} {d : Nat} (hd : 2 ≤ d) {a0 : Nat} {x1 : Int32} {s0 : gH} : gGo X rvI mX12_hasBy d 0 [(0, vr a0), (1, vi x1)] [] s0 (gX12_hasBy a0 x1 s0) := by
  unfold gX12_hasBy
  refine go_aload_n 0 dX12_hasBy_0 rfl rfl ?_
  refine go_iload_n 1 dX12_hasBy_1 rfl rfl ?_
  refine go_bipush (v := 14) dX12_hasBy_2 (by decide) ?_
  refine go_callV_I (as := [vi x1, vi 14]) gk_RX12_321 gmf_X12_ruleHas (by decide) rfl (by omega) rfl rfl (Nat.le_of_ble_eq_true rfl) dX12_hasBy_4 (fun _ _ h => cX12_ruleHas_c (by omega) h) (fun r1 s2 _ => ?_)
  refine go_if_le (tgt := 14) dX12_hasBy_7 (by decide) (fun h3 => ?_) (fun h3 => ?_)
  · refine go_iconst (v := 1) dX12_hasBy_10 (by decide) ?_
    refine go_goto (tgt := 15) dX12_hasBy_11 (by decide) ?_
    exact go_ret rfl dX12_hasBy_15
  · refine go_iconst (v := 0) dX12_hasBy_14 (by decide) ?_
    exact go_ret rfl dX12_hasBy_15
set_option maxRecDepth 100000 in
set_option maxHeartbeats 4000000 in
theorem cX12_hasBy_c {d : Nat} (hd : 2 ≤ d) {a0 : Nat} {x1 : Int32} {s0 : gH} {r : Int32} {s1 : gH} (h : fX12_hasBy a0 x1 s0 = some (r, s1)) : gMt mX12_hasBy d [vr a0, vi x1] s0 (some (vi r)) s1 := by
  obtain ⟨h1, h2⟩ := gzr_some h
  exact gMt_of (rv := rvI) (by decide +kernel) (Nat.le_of_ble_eq_true rfl) ⟨_, rfl, gnarZ h2⟩ (fun _ => wX12_hasBy hd) h1
def gX12_isWeekday_L2  (a0 : Nat) (x1 : Int32) (x2 : Int32) : Nat → Int32 → gH → Option (Int32 × gH)
  | 0, _, _ => none
  | n + 1, x3, s0 =>
    gb2 (gcv s0 a0 12 (fX12_ruleHas a0 x1 14 s0)) fun r2 s3 =>
    if x3 < r2 then
      gb2 (gcv s3 a0 12 (fX12_ruleHas a0 x1 ((15 + (2 * x3)) + 1) s3)) fun r5 s6 =>
      gb2 (fX12_weekdayOf x2 s6) fun r7 s8 =>
      if r5 = r7 then
        some (1, s8)
      else
        gX12_isWeekday_L2 a0 x1 x2 n (x3 + 1) s8
    else
      some (0, s3)
set_option maxRecDepth 100000 in
set_option maxHeartbeats 4000000 in
theorem wX12_isWeekday_L2 {X : Nat × (Nat → Int32)} {d : Nat} (hd : 2 ≤ d)  (a0 : Nat) (x1 : Int32) (x2 : Int32) : ∀ (n : Nat) (x3 : Int32) (s0 : gH), gGo X rvI mX12_isWeekday d 2 [(0, vr a0), (1, vi x1), (2, vi x2), (3, vi x3)] [] s0 (gX12_isWeekday_L2 a0 x1 x2 n x3 s0) := by
  intro n
  induction n with
  | zero => intros; exact go_none
  | succ n ih =>
    intro x3 s0
    show gGo _ _ _ _ _ _ _ _ (gX12_isWeekday_L2 a0 x1 x2 (n + 1) x3 s0)
    unfold gX12_isWeekday_L2
    refine go_iload_n 3 dX12_isWeekday_2 rfl rfl ?_
    refine go_aload_n 0 dX12_isWeekday_3 rfl rfl ?_
    refine go_iload_n 1 dX12_isWeekday_4 rfl rfl ?_
    refine go_bipush (v := 14) dX12_isWeekday_5 (by decide) ?_
    refine go_callV_I (as := [vi x1, vi 14]) gk_RX12_321 gmf_X12_ruleHas (by decide) rfl (by omega) rfl rfl (Nat.le_of_ble_eq_true rfl) dX12_isWeekday_7 (fun _ _ h => cX12_ruleHas_c (by omega) h) (fun r2 s3 _ => ?_)
    refine go_icmp_ge (tgt := 41) dX12_isWeekday_10 (by decide) (fun h4 => ?_) (fun h4 => ?_)
    · refine go_aload_n 0 dX12_isWeekday_13 rfl rfl ?_
      refine go_iload_n 1 dX12_isWeekday_14 rfl rfl ?_
      refine go_bipush (v := 15) dX12_isWeekday_15 (by decide) ?_
      refine go_iconst (v := 2) dX12_isWeekday_17 (by decide) ?_
      refine go_iload_n 3 dX12_isWeekday_18 rfl rfl ?_
      refine go_imul dX12_isWeekday_19 ?_
      refine go_iadd dX12_isWeekday_20 ?_
      refine go_iconst (v := 1) dX12_isWeekday_21 (by decide) ?_
      refine go_iadd dX12_isWeekday_22 ?_
      refine go_callV_I (as := [vi x1, vi ((15 + (2 * x3)) + 1)]) gk_RX12_321 gmf_X12_ruleHas (by decide) rfl (by omega) rfl rfl (Nat.le_of_ble_eq_true rfl) dX12_isWeekday_23 (fun _ _ h => cX12_ruleHas_c (by omega) h) (fun r5 s6 _ => ?_)
      refine go_iload_n 2 dX12_isWeekday_26 rfl rfl ?_
      refine go_callS_I (as := [vi x2]) gk_RX12_327 gmf_X12_weekdayOf (by omega) rfl rfl (Nat.le_of_ble_eq_true rfl) dX12_isWeekday_27 (fun _ _ h => cX12_weekdayOf_c (by omega) h) (fun r7 s8 _ => ?_)
      refine go_icmp_ne (tgt := 35) dX12_isWeekday_30 (by decide) (fun h9 => ?_) (fun h9 => ?_)
      · refine go_iconst (v := 1) dX12_isWeekday_33 (by decide) ?_
        exact go_ret rfl dX12_isWeekday_34
      · refine go_iinc (v := 1) (L' := [(3, vi (x3 + 1)), (0, vr a0), (1, vi x1), (2, vi x2)]) 3 dX12_isWeekday_35 rfl (by decide) (by decide) rfl ?_
        refine go_goto (tgt := 2) dX12_isWeekday_38 (by decide) ?_
        exact go_sub [1, 2, 3, 0] (ih (x3 + 1) s8) rfl
    · refine go_iconst (v := 0) dX12_isWeekday_41 (by decide) ?_
      exact go_ret rfl dX12_isWeekday_42
def gX12_isWeekday (a0 : Nat) (x1 : Int32) (x2 : Int32) (s0 : gH) : Option (Int32 × gH) :=
  gX12_isWeekday_L2
    a0 x1 x2 20000 0 s0
def fX12_isWeekday (a0 : Nat) (x1 : Int32) (x2 : Int32) (s0 : gH) : Option (Int32 × gH) := gzr (gX12_isWeekday a0 x1 x2 s0)
set_option maxRecDepth 100000 in
set_option maxHeartbeats 4000000 in
theorem wX12_isWeekday {X : Nat × (Nat → Int32)} {d : Nat} (hd : 2 ≤ d) {a0 : Nat} {x1 : Int32} {x2 : Int32} {s0 : gH} : gGo X rvI mX12_isWeekday d 0 [(0, vr a0), (1, vi x1), (2, vi x2)] [] s0 (gX12_isWeekday a0 x1 x2 s0) := by
  unfold gX12_isWeekday
  refine go_iconst (v := 0) dX12_isWeekday_0 (by decide) ?_
  refine go_istore_n (L' := [(3, vi 0), (0, vr a0), (1, vi x1), (2, vi x2)]) dX12_isWeekday_1 rfl (by decide) rfl ?_
  refine go_sub [1, 2, 3, 0] (wX12_isWeekday_L2 hd a0 x1 x2 20000 0 s0) rfl
set_option maxRecDepth 100000 in
set_option maxHeartbeats 4000000 in
theorem cX12_isWeekday_c {d : Nat} (hd : 2 ≤ d) {a0 : Nat} {x1 : Int32} {x2 : Int32} {s0 : gH} {r : Int32} {s1 : gH} (h : fX12_isWeekday a0 x1 x2 s0 = some (r, s1)) : gMt mX12_isWeekday d [vr a0, vi x1, vi x2] s0 (some (vi r)) s1 := by
  obtain ⟨h1, h2⟩ := gzr_some h
  exact gMt_of (rv := rvI) (by decide +kernel) (Nat.le_of_ble_eq_true rfl) ⟨_, rfl, gnarZ h2⟩ (fun _ => wX12_isWeekday hd) h1
