/-! walks, written by a program -/
def gX12_goesOff_L16  (a0 : Nat) (x1 : Int32) (x2 : Int32) : Nat → Int32 → Int32 → gH → Option (Unit × gH)
  | 0, _, _, _ => none
  | n + 1, x3, x4, s0 =>
    if x4 < 14610 then
      (ggR s0 a0 12 33).bind fun v5 =>
      (gaI s0 v5 4 (x2 + x4)).bind fun v6 =>
      (ggR s0 a0 12 30).bind fun v7 =>
      (gaI s0 v7 4 ((14610 * x1) + x4)).bind fun v8 =>
      if v8 = 0 then
        (ggR s0 a0 12 33).bind fun v10 =>
        if v6 = 0 then
          if x3 = 0 then
            (saI s0 v10 4 (x2 + x4) 0).bind fun s13 =>
            gX12_goesOff_L16 a0 x1 x2 n 0 (x4 + 1) s13
          else
            (saI s0 v10 4 (x2 + x4) 1).bind fun s14 =>
            gX12_goesOff_L16 a0 x1 x2 n 0 (x4 + 1) s14
        else
          (saI s0 v10 4 (x2 + x4) 1).bind fun s15 =>
          gX12_goesOff_L16 a0 x1 x2 n 0 (x4 + 1) s15
      else
        gjn (fun (z17 : Int32) (s18 : gH) =>
            (ggR s18 a0 12 33).bind fun v19 =>
            (saI s18 v19 4 (x2 + x4) 0).bind fun s20 =>
            gX12_goesOff_L16 a0 x1 x2 n z17 (x4 + 1) s20
        ) fun j16 =>
        if x3 = 0 then
          if v6 = 0 then
            j16 0 s0
          else
            j16 1 s0
        else
          j16 1 s0
    else
      some ((), s0)
set_option maxRecDepth 100000 in
set_option maxHeartbeats 4000000 in
theorem wX12_goesOff_L16 {X : Nat × (Nat → Int32)} {d : Nat} (hd : 0 ≤ d)  (a0 : Nat) (x1 : Int32) (x2 : Int32) : ∀ (n : Nat) (x3 : Int32) (x4 : Int32) (s0 : gH), gGo X rvU mX12_goesOff d 16 [(0, vr a0), (1, vi x1), (2, vi x2), (3, vi x3), (4, vi x4)] [] s0 (gX12_goesOff_L16 a0 x1 x2 n x3 x4 s0) := by
  intro n
  induction n with
  | zero => intros; exact go_none
  | succ n ih =>
    intro x3 x4 s0
    show gGo _ _ _ _ _ _ _ _ (gX12_goesOff_L16 a0 x1 x2 (n + 1) x3 x4 s0)
    unfold gX12_goesOff_L16
    refine go_iload 4 dX12_goesOff_16 rfl ?_
    refine go_sipush (v := 14610) dX12_goesOff_18 (by decide) ?_
    refine go_icmp_ge (tgt := 110) dX12_goesOff_21 (by decide) (fun h4 => ?_) (fun h4 => ?_)
    · refine go_aload_n 0 dX12_goesOff_24 rfl rfl ?_
      refine go_getR gf_RX12_69 gcf_12 gft_12_33 dX12_goesOff_25 (fun v5 => ?_)
      refine go_iload_n 2 dX12_goesOff_28 rfl rfl ?_
      refine go_iload 4 dX12_goesOff_29 rfl ?_
      refine go_iadd dX12_goesOff_31 ?_
      refine go_zaload dX12_goesOff_32 (fun v6 _ => ?_)
      refine go_istore (L' := [(5, vi v6), (0, vr a0), (1, vi x1), (2, vi x2), (3, vi x3), (4, vi x4)]) dX12_goesOff_33 (by decide) rfl ?_
      refine go_aload_n 1 dX12_goesOff_35 rfl rfl ?_
      refine go_getR gf_RX12_58 gcf_12 gft_12_30 dX12_goesOff_36 (fun v7 => ?_)
      refine go_sipush (v := 14610) dX12_goesOff_39 (by decide) ?_
      refine go_iload_n 2 dX12_goesOff_42 rfl rfl ?_
      refine go_imul dX12_goesOff_43 ?_
      refine go_iload 5 dX12_goesOff_44 rfl ?_
      refine go_iadd dX12_goesOff_46 ?_
      refine go_zaload dX12_goesOff_47 (fun v8 _ => ?_)
      refine go_if_eq (tgt := 79) dX12_goesOff_48 (by decide) (fun h9 => ?_) (fun h9 => ?_)
      · refine go_aload_n 1 dX12_goesOff_79 rfl rfl ?_
        refine go_getR gf_RX12_69 gcf_12 gft_12_33 dX12_goesOff_80 (fun v10 => ?_)
        refine go_iload_n 3 dX12_goesOff_83 rfl rfl ?_
        refine go_iload 5 dX12_goesOff_84 rfl ?_
        refine go_iadd dX12_goesOff_86 ?_
        refine go_iload 0 dX12_goesOff_87 rfl ?_
        refine go_if_ne (tgt := 96) dX12_goesOff_89 (by decide) (fun h11 => ?_) (fun h11 => ?_)
        · refine go_iload_n 4 dX12_goesOff_92 rfl rfl ?_
          refine go_if_eq (tgt := 100) dX12_goesOff_93 (by decide) (fun h12 => ?_) (fun h12 => ?_)
          · refine go_iconst (v := 0) dX12_goesOff_100 (by decide) ?_
            refine go_zastore dX12_goesOff_101 (fun s13 _ => ?_)
            refine go_iconst (v := 0) dX12_goesOff_102 (by decide) ?_
            refine go_istore_n (L' := [(3, vi 0), (5, vi v6), (0, vr a0), (1, vi x1), (2, vi x2), (4, vi x4)]) dX12_goesOff_103 rfl (by decide) rfl ?_
            refine go_iinc (v := 1) (L' := [(4, vi (x4 + 1)), (3, vi 0), (5, vi v6), (0, vr a0), (1, vi x1), (2, vi x2)]) 5 dX12_goesOff_104 rfl (by decide) (by decide) rfl ?_
            refine go_goto (tgt := 16) dX12_goesOff_107 (by decide) ?_
            exact go_sub [3, 4, 5, 1, 0] (ih 0 (x4 + 1) s13) rfl
          · refine go_iconst (v := 1) dX12_goesOff_96 (by decide) ?_
            refine go_goto (tgt := 101) dX12_goesOff_97 (by decide) ?_
            refine go_zastore dX12_goesOff_101 (fun s14 _ => ?_)
            refine go_iconst (v := 0) dX12_goesOff_102 (by decide) ?_
            refine go_istore_n (L' := [(3, vi 0), (5, vi v6), (0, vr a0), (1, vi x1), (2, vi x2), (4, vi x4)]) dX12_goesOff_103 rfl (by decide) rfl ?_
            refine go_iinc (v := 1) (L' := [(4, vi (x4 + 1)), (3, vi 0), (5, vi v6), (0, vr a0), (1, vi x1), (2, vi x2)]) 5 dX12_goesOff_104 rfl (by decide) (by decide) rfl ?_
            refine go_goto (tgt := 16) dX12_goesOff_107 (by decide) ?_
            exact go_sub [3, 4, 5, 1, 0] (ih 0 (x4 + 1) s14) rfl
        · refine go_iconst (v := 1) dX12_goesOff_96 (by decide) ?_
          refine go_goto (tgt := 101) dX12_goesOff_97 (by decide) ?_
          refine go_zastore dX12_goesOff_101 (fun s15 _ => ?_)
          refine go_iconst (v := 0) dX12_goesOff_102 (by decide) ?_
          refine go_istore_n (L' := [(3, vi 0), (5, vi v6), (0, vr a0), (1, vi x1), (2, vi x2), (4, vi x4)]) dX12_goesOff_103 rfl (by decide) rfl ?_
          refine go_iinc (v := 1) (L' := [(4, vi (x4 + 1)), (3, vi 0), (5, vi v6), (0, vr a0), (1, vi x1), (2, vi x2)]) 5 dX12_goesOff_104 rfl (by decide) (by decide) rfl ?_
          refine go_goto (tgt := 16) dX12_goesOff_107 (by decide) ?_
          exact go_sub [3, 4, 5, 1, 0] (ih 0 (x4 + 1) s15) rfl
      · refine go_iload_n 4 dX12_goesOff_51 rfl rfl ?_
        refine go_gjn (P := fun j16 => ∀ (z17 : Int32) (s18 : gH), gGo X rvU mX12_goesOff d 65 [(0, vr a0), (1, vi x1), (2, vi x2), (4, vi x4)] [vi z17] s18 (j16 z17 s18)) (fun z17 s18 => ?_) (fun j16 hj16 => ?_)
        · refine go_istore_n (L' := [(3, vi z17), (0, vr a0), (1, vi x1), (2, vi x2), (4, vi x4)]) dX12_goesOff_65 rfl (by decide) rfl ?_
          refine go_aload_n 1 dX12_goesOff_66 rfl rfl ?_
          refine go_getR gf_RX12_69 gcf_12 gft_12_33 dX12_goesOff_67 (fun v19 => ?_)
          refine go_iload_n 3 dX12_goesOff_70 rfl rfl ?_
          refine go_iload 4 dX12_goesOff_71 rfl ?_
          refine go_iadd dX12_goesOff_73 ?_
          refine go_iconst (v := 0) dX12_goesOff_74 (by decide) ?_
          refine go_zastore dX12_goesOff_75 (fun s20 _ => ?_)
          refine go_goto (tgt := 104) dX12_goesOff_76 (by decide) ?_
          refine go_iinc (v := 1) (L' := [(4, vi (x4 + 1)), (3, vi z17), (0, vr a0), (1, vi x1), (2, vi x2)]) 4 dX12_goesOff_104 rfl (by decide) (by decide) rfl ?_
          refine go_goto (tgt := 16) dX12_goesOff_107 (by decide) ?_
          exact go_sub [2, 3, 4, 1, 0] (ih z17 (x4 + 1) s20) rfl
        · refine go_if_ne (tgt := 60) dX12_goesOff_52 (by decide) (fun h21 => ?_) (fun h21 => ?_)
          · refine go_iload 0 dX12_goesOff_55 rfl ?_
            refine go_if_eq (tgt := 64) dX12_goesOff_57 (by decide) (fun h22 => ?_) (fun h22 => ?_)
            · refine go_iconst (v := 0) dX12_goesOff_64 (by decide) ?_
              exact go_sub [1, 2, 3, 5] (hj16 0 s0) rfl
            · refine go_iconst (v := 1) dX12_goesOff_60 (by decide) ?_
              refine go_goto (tgt := 65) dX12_goesOff_61 (by decide) ?_
              exact go_sub [1, 2, 3, 5] (hj16 1 s0) rfl
          · refine go_iconst (v := 1) dX12_goesOff_60 (by decide) ?_
            refine go_goto (tgt := 65) dX12_goesOff_61 (by decide) ?_
            exact go_sub [1, 2, 3, 5] (hj16 1 s0) rfl
    · exact go_retv rfl dX12_goesOff_110
def fX12_goesOff (a0 : Nat) (x1 : Int32) (s0 : gH) : Option (Unit × gH) :=
  (ggI s0 a0 12 34).bind fun v1 =>
  glet (14610 * (v1 - 1)) fun y2 =>
  gX12_goesOff_L16
    a0 x1 y2 20000 0 0 s0
set_option maxRecDepth 100000 in
set_option maxHeartbeats 4000000 in
theorem wX12_goesOff {X : Nat × (Nat → Int32)} {d : Nat} (hd : 0 ≤ d) {a0 : Nat} {x1 : Int32} {s0 : gH} : gGo X rvU mX12_goesOff d 0 [(0, vr a0), (1, vi x1)] [] s0 (fX12_goesOff a0 x1 s0) := by
  unfold fX12_goesOff
  refine go_sipush (v := 14610) dX12_goesOff_0 (by decide) ?_
  refine go_aload_n 0 dX12_goesOff_3 rfl rfl ?_
  refine go_getI gf_RX12_384 gcf_12 gft_12_34 dX12_goesOff_4 (fun v1 => ?_)
  refine go_iconst (v := 1) dX12_goesOff_7 (by decide) ?_
  refine go_isub dX12_goesOff_8 ?_
  refine go_imul dX12_goesOff_9 ?_
  refine go_istore_n_l (L' := fun y2 => [(2, vi y2), (0, vr a0), (1, vi x1)]) dX12_goesOff_10 rfl (by decide) (fun _ => rfl) (fun y2 => ?_)
  refine go_iconst (v := 0) dX12_goesOff_11 (by decide) ?_
  refine go_istore_n (L' := [(3, vi 0), (2, vi y2), (0, vr a0), (1, vi x1)]) dX12_goesOff_12 rfl (by decide) rfl ?_
  refine go_iconst (v := 0) dX12_goesOff_13 (by decide) ?_
  refine go_istore (L' := [(4, vi 0), (3, vi 0), (2, vi y2), (0, vr a0), (1, vi x1)]) dX12_goesOff_14 (by decide) rfl ?_
  refine go_sub [3, 4, 2, 1, 0] (wX12_goesOff_L16 hd a0 x1 y2 20000 0 0 s0) rfl
set_option maxRecDepth 100000 in
set_option maxHeartbeats 4000000 in
theorem cX12_goesOff_c {d : Nat} (hd : 0 ≤ d) {a0 : Nat} {x1 : Int32} {s0 : gH} {r : Unit} {s1 : gH} (h : fX12_goesOff a0 x1 s0 = some (r, s1)) : gMt mX12_goesOff d [vr a0, vi x1] s0 none s1 :=
  gMt_of (rv := rvU) (by decide +kernel) (Nat.le_of_ble_eq_true rfl) rfl (fun _ => wX12_goesOff hd) h
def gX12_joinsTop_L33  (a0 : Nat) (x1 : Int32) (x2 : Int32) (x3 : Int32) : Nat → Int32 → gH → Option (Unit × gH)
  | 0, _, _ => none
  | n + 1, x4, s0 =>
    if x4 < 14610 then
      (ggR s0 a0 12 33).bind fun v9 =>
      (gaI s0 v9 4 (x2 + x4)).bind fun v10 =>
      (ggR s0 a0 12 33).bind fun v11 =>
      (gaI s0 v11 4 (x3 + x4)).bind fun v12 =>
      (ggR s0 a0 12 33).bind fun v13 =>
      if x1 = 3 then
        if v10 = 0 then
          if v12 = 0 then
            (saI s0 v13 4 (x2 + x4) 0).bind fun s17 =>
            gX12_joinsTop_L33 a0 x1 x2 x3 n (x4 + 1) s17
          else
            (saI s0 v13 4 (x2 + x4) 1).bind fun s18 =>
            gX12_joinsTop_L33 a0 x1 x2 x3 n (x4 + 1) s18
        else
          (saI s0 v13 4 (x2 + x4) 1).bind fun s19 =>
          gX12_joinsTop_L33 a0 x1 x2 x3 n (x4 + 1) s19
      else
        if v10 = 0 then
          (saI s0 v13 4 (x2 + x4) 0).bind fun s21 =>
          gX12_joinsTop_L33 a0 x1 x2 x3 n (x4 + 1) s21
        else
          gjn (fun (z23 : Int32) (z24 : Int32) (z25 : Int32) (b26 : Nat) (s27 : gH) =>
              if z24 = z23 then
                (saI s27 b26 4 z25 1).bind fun s29 =>
                gX12_joinsTop_L33 a0 x1 x2 x3 n (x4 + 1) s29
              else
                (saI s27 b26 4 z25 0).bind fun s30 =>
                gX12_joinsTop_L33 a0 x1 x2 x3 n (x4 + 1) s30
          ) fun j22 =>
          if x1 = 4 then
            j22 1 v12 (x2 + x4) v13 s0
          else
            j22 0 v12 (x2 + x4) v13 s0
    else
      some ((), s0)
set_option maxRecDepth 100000 in
set_option maxHeartbeats 4000000 in
theorem wX12_joinsTop_L33 {X : Nat × (Nat → Int32)} {d : Nat} (hd : 0 ≤ d)  (a0 : Nat) (x1 : Int32) (x2 : Int32) (x3 : Int32) : ∀ (n : Nat) (x4 : Int32) (s0 : gH), gGo X rvU mX12_joinsTop d 33 [(0, vr a0), (1, vi x1), (2, vi x2), (3, vi x3), (4, vi x4)] [] s0 (gX12_joinsTop_L33 a0 x1 x2 x3 n x4 s0) := by
  intro n
  induction n with
  | zero => intros; exact go_none
  | succ n ih =>
    intro x4 s0
    show gGo _ _ _ _ _ _ _ _ (gX12_joinsTop_L33 a0 x1 x2 x3 (n + 1) x4 s0)
    unfold gX12_joinsTop_L33
    refine go_iload 4 dX12_joinsTop_33 rfl ?_
    refine go_sipush (v := 14610) dX12_joinsTop_35 (by decide) ?_
    refine go_icmp_ge (tgt := 126) dX12_joinsTop_38 (by decide) (fun h8 => ?_) (fun h8 => ?_)
    · refine go_aload_n 0 dX12_joinsTop_41 rfl rfl ?_
      refine go_getR gf_RX12_69 gcf_12 gft_12_33 dX12_joinsTop_42 (fun v9 => ?_)
      refine go_iload_n 2 dX12_joinsTop_45 rfl rfl ?_
      refine go_iload 4 dX12_joinsTop_46 rfl ?_
      refine go_iadd dX12_joinsTop_48 ?_
      refine go_zaload dX12_joinsTop_49 (fun v10 _ => ?_)
      refine go_istore (L' := [(5, vi v10), (0, vr a0), (1, vi x1), (2, vi x2), (3, vi x3), (4, vi x4)]) dX12_joinsTop_50 (by decide) rfl ?_
      refine go_aload_n 1 dX12_joinsTop_52 rfl rfl ?_
      refine go_getR gf_RX12_69 gcf_12 gft_12_33 dX12_joinsTop_53 (fun v11 => ?_)
      refine go_iload_n 4 dX12_joinsTop_56 rfl rfl ?_
      refine go_iload 5 dX12_joinsTop_57 rfl ?_
      refine go_iadd dX12_joinsTop_59 ?_
      refine go_zaload dX12_joinsTop_60 (fun v12 _ => ?_)
      refine go_istore (L' := [(6, vi v12), (5, vi v10), (0, vr a0), (1, vi x1), (2, vi x2), (3, vi x3), (4, vi x4)]) dX12_joinsTop_61 (by decide) rfl ?_
      refine go_aload_n 2 dX12_joinsTop_63 rfl rfl ?_
      refine go_getR gf_RX12_69 gcf_12 gft_12_33 dX12_joinsTop_64 (fun v13 => ?_)
      refine go_iload_n 4 dX12_joinsTop_67 rfl rfl ?_
      refine go_iload 6 dX12_joinsTop_68 rfl ?_
      refine go_iadd dX12_joinsTop_70 ?_
      refine go_iload_n 3 dX12_joinsTop_71 rfl rfl ?_
      refine go_iconst (v := 3) dX12_joinsTop_72 (by decide) ?_
      refine go_icmp_ne (tgt := 94) dX12_joinsTop_73 (by decide) (fun h14 => ?_) (fun h14 => ?_)
      · refine go_iload 1 dX12_joinsTop_76 rfl ?_
        refine go_if_ne (tgt := 86) dX12_joinsTop_78 (by decide) (fun h15 => ?_) (fun h15 => ?_)
        · refine go_iload 0 dX12_joinsTop_81 rfl ?_
          refine go_if_eq (tgt := 90) dX12_joinsTop_83 (by decide) (fun h16 => ?_) (fun h16 => ?_)
          · refine go_iconst (v := 0) dX12_joinsTop_90 (by decide) ?_
            refine go_goto (tgt := 119) dX12_joinsTop_91 (by decide) ?_
            refine go_zastore dX12_joinsTop_119 (fun s17 _ => ?_)
            refine go_iinc (v := 1) (L' := [(4, vi (x4 + 1)), (6, vi v12), (5, vi v10), (0, vr a0), (1, vi x1), (2, vi x2), (3, vi x3)]) 6 dX12_joinsTop_120 rfl (by decide) (by decide) rfl ?_
            refine go_goto (tgt := 33) dX12_joinsTop_123 (by decide) ?_
            exact go_sub [3, 4, 5, 6, 0] (ih (x4 + 1) s17) rfl
          · refine go_iconst (v := 1) dX12_joinsTop_86 (by decide) ?_
            refine go_goto (tgt := 119) dX12_joinsTop_87 (by decide) ?_
            refine go_zastore dX12_joinsTop_119 (fun s18 _ => ?_)
            refine go_iinc (v := 1) (L' := [(4, vi (x4 + 1)), (6, vi v12), (5, vi v10), (0, vr a0), (1, vi x1), (2, vi x2), (3, vi x3)]) 6 dX12_joinsTop_120 rfl (by decide) (by decide) rfl ?_
            refine go_goto (tgt := 33) dX12_joinsTop_123 (by decide) ?_
            exact go_sub [3, 4, 5, 6, 0] (ih (x4 + 1) s18) rfl
        · refine go_iconst (v := 1) dX12_joinsTop_86 (by decide) ?_
          refine go_goto (tgt := 119) dX12_joinsTop_87 (by decide) ?_
          refine go_zastore dX12_joinsTop_119 (fun s19 _ => ?_)
          refine go_iinc (v := 1) (L' := [(4, vi (x4 + 1)), (6, vi v12), (5, vi v10), (0, vr a0), (1, vi x1), (2, vi x2), (3, vi x3)]) 6 dX12_joinsTop_120 rfl (by decide) (by decide) rfl ?_
          refine go_goto (tgt := 33) dX12_joinsTop_123 (by decide) ?_
          exact go_sub [3, 4, 5, 6, 0] (ih (x4 + 1) s19) rfl
      · refine go_iload 1 dX12_joinsTop_94 rfl ?_
        refine go_if_eq (tgt := 118) dX12_joinsTop_96 (by decide) (fun h20 => ?_) (fun h20 => ?_)
        · refine go_iconst (v := 0) dX12_joinsTop_118 (by decide) ?_
          refine go_zastore dX12_joinsTop_119 (fun s21 _ => ?_)
          refine go_iinc (v := 1) (L' := [(4, vi (x4 + 1)), (6, vi v12), (5, vi v10), (0, vr a0), (1, vi x1), (2, vi x2), (3, vi x3)]) 6 dX12_joinsTop_120 rfl (by decide) (by decide) rfl ?_
          refine go_goto (tgt := 33) dX12_joinsTop_123 (by decide) ?_
          exact go_sub [3, 4, 5, 6, 0] (ih (x4 + 1) s21) rfl
        · refine go_iload 0 dX12_joinsTop_99 rfl ?_
          refine go_iload_n 3 dX12_joinsTop_101 rfl rfl ?_
          refine go_iconst (v := 4) dX12_joinsTop_102 (by decide) ?_
          refine go_gjn (P := fun j22 => ∀ (z23 : Int32) (z24 : Int32) (z25 : Int32) (b26 : Nat) (s27 : gH), gGo X rvU mX12_joinsTop d 111 [(0, vr a0), (1, vi x1), (2, vi x2), (3, vi x3), (4, vi x4)] [vi z23, vi z24, vi z25, vr b26] s27 (j22 z23 z24 z25 b26 s27)) (fun z23 z24 z25 b26 s27 => ?_) (fun j22 hj22 => ?_)
          · refine go_icmp_ne (tgt := 118) dX12_joinsTop_111 (by decide) (fun h28 => ?_) (fun h28 => ?_)
            · refine go_iconst (v := 1) dX12_joinsTop_114 (by decide) ?_
              refine go_goto (tgt := 119) dX12_joinsTop_115 (by decide) ?_
              refine go_zastore dX12_joinsTop_119 (fun s29 _ => ?_)
              refine go_iinc (v := 1) (L' := [(4, vi (x4 + 1)), (0, vr a0), (1, vi x1), (2, vi x2), (3, vi x3)]) 4 dX12_joinsTop_120 rfl (by decide) (by decide) rfl ?_
              refine go_goto (tgt := 33) dX12_joinsTop_123 (by decide) ?_
              exact go_sub [1, 2, 3, 4, 0] (ih (x4 + 1) s29) rfl
            · refine go_iconst (v := 0) dX12_joinsTop_118 (by decide) ?_
              refine go_zastore dX12_joinsTop_119 (fun s30 _ => ?_)
              refine go_iinc (v := 1) (L' := [(4, vi (x4 + 1)), (0, vr a0), (1, vi x1), (2, vi x2), (3, vi x3)]) 4 dX12_joinsTop_120 rfl (by decide) (by decide) rfl ?_
              refine go_goto (tgt := 33) dX12_joinsTop_123 (by decide) ?_
              exact go_sub [1, 2, 3, 4, 0] (ih (x4 + 1) s30) rfl
          · refine go_icmp_ne (tgt := 110) dX12_joinsTop_103 (by decide) (fun h31 => ?_) (fun h31 => ?_)
            · refine go_iconst (v := 1) dX12_joinsTop_106 (by decide) ?_
              refine go_goto (tgt := 111) dX12_joinsTop_107 (by decide) ?_
              exact go_sub [2, 3, 4, 5, 6] (hj22 1 v12 (x2 + x4) v13 s0) rfl
            · refine go_iconst (v := 0) dX12_joinsTop_110 (by decide) ?_
              exact go_sub [2, 3, 4, 5, 6] (hj22 0 v12 (x2 + x4) v13 s0) rfl
    · exact go_retv rfl dX12_joinsTop_126
def fX12_joinsTop (a0 : Nat) (x1 : Int32) (s0 : gH) : Option (Unit × gH) :=
  (ggI s0 a0 12 34).bind fun v1 =>
  (spI s0 a0 12 34 (v1 - 1)).bind fun s2 =>
  (ggI s2 a0 12 34).bind fun v3 =>
  glet (14610 * (v3 - 1)) fun y4 =>
  (ggI s2 a0 12 34).bind fun v5 =>
  glet (14610 * v5) fun y6 =>
  gX12_joinsTop_L33
    a0 x1 y4 y6 20000 0 s2
set_option maxRecDepth 100000 in
set_option maxHeartbeats 4000000 in
theorem wX12_joinsTop {X : Nat × (Nat → Int32)} {d : Nat} (hd : 0 ≤ d) {a0 : Nat} {x1 : Int32} {s0 : gH} : gGo X rvU mX12_joinsTop d 0 [(0, vr a0), (1, vi x1)] [] s0 (fX12_joinsTop a0 x1 s0) := by
  unfold fX12_joinsTop
  refine go_aload_n 0 dX12_joinsTop_0 rfl rfl ?_
  refine go_dup dX12_joinsTop_1 rfl ?_
  refine go_getI gf_RX12_384 gcf_12 gft_12_34 dX12_joinsTop_2 (fun v1 => ?_)
  refine go_iconst (v := 1) dX12_joinsTop_5 (by decide) ?_
  refine go_isub dX12_joinsTop_6 ?_
  refine go_putI gf_RX12_384 gcf_12 gpl_12_34 gft_12_34 dX12_joinsTop_7 (fun s2 _ => ?_)
  refine go_sipush (v := 14610) dX12_joinsTop_10 (by decide) ?_
  refine go_aload_n 0 dX12_joinsTop_13 rfl rfl ?_
  refine go_getI gf_RX12_384 gcf_12 gft_12_34 dX12_joinsTop_14 (fun v3 => ?_)
  refine go_iconst (v := 1) dX12_joinsTop_17 (by decide) ?_
  refine go_isub dX12_joinsTop_18 ?_
  refine go_imul dX12_joinsTop_19 ?_
  refine go_istore_n_l (L' := fun y4 => [(2, vi y4), (0, vr a0), (1, vi x1)]) dX12_joinsTop_20 rfl (by decide) (fun _ => rfl) (fun y4 => ?_)
  refine go_sipush (v := 14610) dX12_joinsTop_21 (by decide) ?_
  refine go_aload_n 1 dX12_joinsTop_24 rfl rfl ?_
  refine go_getI gf_RX12_384 gcf_12 gft_12_34 dX12_joinsTop_25 (fun v5 => ?_)
  refine go_imul dX12_joinsTop_28 ?_
  refine go_istore_n_l (L' := fun y6 => [(3, vi y6), (2, vi y4), (0, vr a0), (1, vi x1)]) dX12_joinsTop_29 rfl (by decide) (fun _ => rfl) (fun y6 => ?_)
  refine go_iconst (v := 0) dX12_joinsTop_30 (by decide) ?_
  refine go_istore (L' := [(4, vi 0), (3, vi y6), (2, vi y4), (0, vr a0), (1, vi x1)]) dX12_joinsTop_31 (by decide) rfl ?_
  refine go_sub [3, 4, 2, 1, 0] (wX12_joinsTop_L33 hd a0 x1 y4 y6 20000 0 s2) rfl
set_option maxRecDepth 100000 in
set_option maxHeartbeats 4000000 in
theorem cX12_joinsTop_c {d : Nat} (hd : 0 ≤ d) {a0 : Nat} {x1 : Int32} {s0 : gH} {r : Unit} {s1 : gH} (h : fX12_joinsTop a0 x1 s0 = some (r, s1)) : gMt mX12_joinsTop d [vr a0, vi x1] s0 none s1 :=
  gMt_of (rv := rvU) (by decide +kernel) (Nat.le_of_ble_eq_true rfl) rfl (fun _ => wX12_joinsTop hd) h
def fX12_does (a0 : Nat) (x1 : Int32) (x2 : Int32) (s0 : gH) : Option (Unit × gH) :=
  if x1 = 0 then
    gb2 (gcv s0 a0 12 (fX12_puts a0 x2 s0)) fun r2 s3 =>
    some ((), s3)
  else
    if x1 = 1 then
      gb2 (gcv s0 a0 12 (fX12_putsDay a0 x2 s0)) fun r5 s6 =>
      some ((), s6)
    else
      if x1 = 2 then
        (ggR s0 a0 12 33).bind fun v8 =>
        (ggI s0 a0 12 34).bind fun v9 =>
        (saI s0 v8 4 ((14610 * (v9 - 1)) + x2) 1).bind fun s10 =>
        some ((), s10)
      else
        if x1 = 3 then
          gb2 (gcv s0 a0 12 (fX12_joinsTop a0 x1 s0)) fun r12 s13 =>
          some ((), s13)
        else
          if x1 = 4 then
            gb2 (gcv s0 a0 12 (fX12_joinsTop a0 x1 s0)) fun r15 s16 =>
            some ((), s16)
          else
            if x1 = 5 then
              gb2 (gcv s0 a0 12 (fX12_joinsTop a0 x1 s0)) fun r18 s19 =>
              some ((), s19)
            else
              if x1 = 6 then
                gb2 (gcv s0 a0 12 (fX12_movesTop a0 x2 s0)) fun r21 s22 =>
                some ((), s22)
              else
                if x1 = 7 then
                  gb2 (gcv s0 a0 12 (fX12_movesTop a0 (-x2) s0)) fun r24 s25 =>
                  some ((), s25)
                else
                  if x1 = 8 then
                    gb2 (gcv s0 a0 12 (fX12_goesOff a0 x2 s0)) fun r27 s28 =>
                    some ((), s28)
                  else
                    gb2 (gcv s0 a0 12 (fX12_joinsTop a0 x1 s0)) fun r29 s30 =>
                    some ((), s30)
set_option maxRecDepth 100000 in
set_option maxHeartbeats 4000000 in
theorem wX12_does {X : Nat × (Nat → Int32)} {d : Nat} (hd : 3 ≤ d) {a0 : Nat} {x1 : Int32} {x2 : Int32} {s0 : gH} : gGo X rvU mX12_does d 0 [(0, vr a0), (1, vi x1), (2, vi x2)] [] s0 (fX12_does a0 x1 x2 s0) := by
  unfold fX12_does
  refine go_iload_n 1 dX12_does_0 rfl rfl ?_
  refine go_ite (fun h1 => ?_) (fun h1 => ?_)
  · refine go_tsIn (v := 0) (off := 51) (tgt := 52) dX12_does_1 h1 (by decide) (by decide) (by decide) (by decide) ?_
    refine go_aload_n 0 dX12_does_52 rfl rfl ?_
    refine go_iload_n 2 dX12_does_53 rfl rfl ?_
    refine go_callV_v (as := [vi x2]) gk_RX12_390 gmf_X12_puts (by decide) rfl (by omega) rfl rfl (Nat.le_of_ble_eq_true rfl) dX12_does_54 (fun _ _ h => cX12_puts_c (by omega) h) (fun r2 s3 _ => ?_)
    refine go_goto (tgt := 119) dX12_does_57 (by decide) ?_
    exact go_retv rfl dX12_does_119
  · refine go_ite (fun h4 => ?_) (fun h4 => ?_)
    · refine go_tsIn (v := 1) (off := 59) (tgt := 60) dX12_does_1 h4 (by decide) (by decide) (by decide) (by decide) ?_
      refine go_aload_n 0 dX12_does_60 rfl rfl ?_
      refine go_iload_n 2 dX12_does_61 rfl rfl ?_
      refine go_callV_v (as := [vi x2]) gk_RX12_393 gmf_X12_putsDay (by decide) rfl (by omega) rfl rfl (Nat.le_of_ble_eq_true rfl) dX12_does_62 (fun _ _ h => cX12_putsDay_c (by omega) h) (fun r5 s6 _ => ?_)
      refine go_goto (tgt := 119) dX12_does_65 (by decide) ?_
      exact go_retv rfl dX12_does_119
    · refine go_ite (fun h7 => ?_) (fun h7 => ?_)
      · refine go_tsIn (v := 2) (off := 67) (tgt := 68) dX12_does_1 h7 (by decide) (by decide) (by decide) (by decide) ?_
        refine go_aload_n 0 dX12_does_68 rfl rfl ?_
        refine go_getR gf_RX12_69 gcf_12 gft_12_33 dX12_does_69 (fun v8 => ?_)
        refine go_sipush (v := 14610) dX12_does_72 (by decide) ?_
        refine go_aload_n 0 dX12_does_75 rfl rfl ?_
        refine go_getI gf_RX12_384 gcf_12 gft_12_34 dX12_does_76 (fun v9 => ?_)
        refine go_iconst (v := 1) dX12_does_79 (by decide) ?_
        refine go_isub dX12_does_80 ?_
        refine go_imul dX12_does_81 ?_
        refine go_iload_n 2 dX12_does_82 rfl rfl ?_
        refine go_iadd dX12_does_83 ?_
        refine go_iconst (v := 1) dX12_does_84 (by decide) ?_
        refine go_zastore dX12_does_85 (fun s10 _ => ?_)
        refine go_goto (tgt := 119) dX12_does_86 (by decide) ?_
        exact go_retv rfl dX12_does_119
      · refine go_ite (fun h11 => ?_) (fun h11 => ?_)
        · refine go_tsIn (v := 3) (off := 113) (tgt := 114) dX12_does_1 h11 (by decide) (by decide) (by decide) (by decide) ?_
          refine go_aload_n 0 dX12_does_114 rfl rfl ?_
          refine go_iload_n 1 dX12_does_115 rfl rfl ?_
          refine go_callV_v (as := [vi x1]) gk_RX12_402 gmf_X12_joinsTop (by decide) rfl (by omega) rfl rfl (Nat.le_of_ble_eq_true rfl) dX12_does_116 (fun _ _ h => cX12_joinsTop_c (by omega) h) (fun r12 s13 _ => ?_)
          exact go_retv rfl dX12_does_119
        · refine go_ite (fun h14 => ?_) (fun h14 => ?_)
          · refine go_tsIn (v := 4) (off := 113) (tgt := 114) dX12_does_1 h14 (by decide) (by decide) (by decide) (by decide) ?_
            refine go_aload_n 0 dX12_does_114 rfl rfl ?_
            refine go_iload_n 1 dX12_does_115 rfl rfl ?_
            refine go_callV_v (as := [vi x1]) gk_RX12_402 gmf_X12_joinsTop (by decide) rfl (by omega) rfl rfl (Nat.le_of_ble_eq_true rfl) dX12_does_116 (fun _ _ h => cX12_joinsTop_c (by omega) h) (fun r15 s16 _ => ?_)
            exact go_retv rfl dX12_does_119
          · refine go_ite (fun h17 => ?_) (fun h17 => ?_)
            · refine go_tsIn (v := 5) (off := 113) (tgt := 114) dX12_does_1 h17 (by decide) (by decide) (by decide) (by decide) ?_
              refine go_aload_n 0 dX12_does_114 rfl rfl ?_
              refine go_iload_n 1 dX12_does_115 rfl rfl ?_
              refine go_callV_v (as := [vi x1]) gk_RX12_402 gmf_X12_joinsTop (by decide) rfl (by omega) rfl rfl (Nat.le_of_ble_eq_true rfl) dX12_does_116 (fun _ _ h => cX12_joinsTop_c (by omega) h) (fun r18 s19 _ => ?_)
              exact go_retv rfl dX12_does_119
            · refine go_ite (fun h20 => ?_) (fun h20 => ?_)
              · refine go_tsIn (v := 6) (off := 88) (tgt := 89) dX12_does_1 h20 (by decide) (by decide) (by decide) (by decide) ?_
                refine go_aload_n 0 dX12_does_89 rfl rfl ?_
                refine go_iload_n 2 dX12_does_90 rfl rfl ?_
                refine go_callV_v (as := [vi x2]) gk_RX12_396 gmf_X12_movesTop (by decide) rfl (by omega) rfl rfl (Nat.le_of_ble_eq_true rfl) dX12_does_91 (fun _ _ h => cX12_movesTop_c (by omega) h) (fun r21 s22 _ => ?_)
                refine go_goto (tgt := 119) dX12_does_94 (by decide) ?_
                exact go_retv rfl dX12_does_119
              · refine go_ite (fun h23 => ?_) (fun h23 => ?_)
                · refine go_tsIn (v := 7) (off := 96) (tgt := 97) dX12_does_1 h23 (by decide) (by decide) (by decide) (by decide) ?_
                  refine go_aload_n 0 dX12_does_97 rfl rfl ?_
                  refine go_iload_n 2 dX12_does_98 rfl rfl ?_
                  refine go_ineg dX12_does_99 ?_
                  refine go_callV_v (as := [vi (-x2)]) gk_RX12_396 gmf_X12_movesTop (by decide) rfl (by omega) rfl rfl (Nat.le_of_ble_eq_true rfl) dX12_does_100 (fun _ _ h => cX12_movesTop_c (by omega) h) (fun r24 s25 _ => ?_)
                  refine go_goto (tgt := 119) dX12_does_103 (by decide) ?_
                  exact go_retv rfl dX12_does_119
                · refine go_ite (fun h26 => ?_) (fun h26 => ?_)
                  · refine go_tsIn (v := 8) (off := 105) (tgt := 106) dX12_does_1 h26 (by decide) (by decide) (by decide) (by decide) ?_
                    refine go_aload_n 0 dX12_does_106 rfl rfl ?_
                    refine go_iload_n 2 dX12_does_107 rfl rfl ?_
                    refine go_callV_v (as := [vi x2]) gk_RX12_399 gmf_X12_goesOff (by decide) rfl (by omega) rfl rfl (Nat.le_of_ble_eq_true rfl) dX12_does_108 (fun _ _ h => cX12_goesOff_c (by omega) h) (fun r27 s28 _ => ?_)
                    refine go_goto (tgt := 119) dX12_does_111 (by decide) ?_
                    exact go_retv rfl dX12_does_119
                  · refine go_tsOut (tgt := 114) dX12_does_1 (by have gh1 := gts h1 (n := 0) (by decide); have gh4 := gts h4 (n := 1) (by decide); have gh7 := gts h7 (n := 2) (by decide); have gh11 := gts h11 (n := 3) (by decide); have gh14 := gts h14 (n := 4) (by decide); have gh17 := gts h17 (n := 5) (by decide); have gh20 := gts h20 (n := 6) (by decide); have gh23 := gts h23 (n := 7) (by decide); have gh26 := gts h26 (n := 8) (by decide); omega) (by decide) ?_
                    refine go_aload_n 0 dX12_does_114 rfl rfl ?_
                    refine go_iload_n 1 dX12_does_115 rfl rfl ?_
                    refine go_callV_v (as := [vi x1]) gk_RX12_402 gmf_X12_joinsTop (by decide) rfl (by omega) rfl rfl (Nat.le_of_ble_eq_true rfl) dX12_does_116 (fun _ _ h => cX12_joinsTop_c (by omega) h) (fun r29 s30 _ => ?_)
                    exact go_retv rfl dX12_does_119
set_option maxRecDepth 100000 in
set_option maxHeartbeats 4000000 in
theorem cX12_does_c {d : Nat} (hd : 3 ≤ d) {a0 : Nat} {x1 : Int32} {x2 : Int32} {s0 : gH} {r : Unit} {s1 : gH} (h : fX12_does a0 x1 x2 s0 = some (r, s1)) : gMt mX12_does d [vr a0, vi x1, vi x2] s0 none s1 :=
  gMt_of (rv := rvU) (by decide +kernel) (Nat.le_of_ble_eq_true rfl) rfl (fun _ => wX12_does hd) h
def gX12_laysSet_L16 (k58 : gH → Option (Unit × gH)) (a0 : Nat) (x1 : Int32) : Nat → Int32 → gH → Option (Unit × gH)
  | 0, _, _ => none
  | n + 1, x2, s0 =>
    (ggR s0 a0 12 19).bind fun v7 =>
    gb2 (fX12_setAt x1 2 s0) fun r8 s9 =>
    (gaI s9 v7 2 r8).bind fun v10 =>
    if x2 < v10 then
      (ggR s9 a0 12 21).bind fun v12 =>
      (gaI s9 v12 2 (2 * x2)).bind fun v13 =>
      (ggR s9 a0 12 21).bind fun v14 =>
      (gaI s9 v14 2 ((2 * x2) + 1)).bind fun v15 =>
      gb2 (gcv s9 a0 12 (fX12_does a0 v13 v15 s9)) fun r16 s17 =>
      gX12_laysSet_L16 k58 a0 x1 n (x2 + 1) s17
    else
      k58 s9
set_option maxRecDepth 100000 in
set_option maxHeartbeats 4000000 in
theorem wX12_laysSet_L16 {X : Nat × (Nat → Int32)} {d : Nat} (hd : 4 ≤ d) (k58 : gH → Option (Unit × gH)) (a0 : Nat) (x1 : Int32) (hk58 : ∀ (s : gH), gGo X rvU mX12_laysSet d 58 [(0, vr a0), (1, vi x1)] [] s (k58 s)) : ∀ (n : Nat) (x2 : Int32) (s0 : gH), gGo X rvU mX12_laysSet d 16 [(0, vr a0), (1, vi x1), (2, vi x2)] [] s0 (gX12_laysSet_L16 k58 a0 x1 n x2 s0) := by
  intro n
  induction n with
  | zero => intros; exact go_none
  | succ n ih =>
    intro x2 s0
    show gGo _ _ _ _ _ _ _ _ (gX12_laysSet_L16 k58 a0 x1 (n + 1) x2 s0)
    unfold gX12_laysSet_L16
    refine go_iload_n 2 dX12_laysSet_16 rfl rfl ?_
    refine go_aload_n 0 dX12_laysSet_17 rfl rfl ?_
    refine go_getR gf_RX12_39 gcf_12 gft_12_19 dX12_laysSet_18 (fun v7 => ?_)
    refine go_iload_n 1 dX12_laysSet_21 rfl rfl ?_
    refine go_iconst (v := 2) dX12_laysSet_22 (by decide) ?_
    refine go_callS_I (as := [vi x1, vi 2]) gk_RX12_189 gmf_X12_setAt (by omega) rfl rfl (Nat.le_of_ble_eq_true rfl) dX12_laysSet_23 (fun _ _ h => cX12_setAt_c (by omega) h) (fun r8 s9 _ => ?_)
    refine go_iaload dX12_laysSet_26 (fun v10 _ => ?_)
    refine go_icmp_ge (tgt := 58) dX12_laysSet_27 (by decide) (fun h11 => ?_) (fun h11 => ?_)
    · refine go_aload_n 0 dX12_laysSet_30 rfl rfl ?_
      refine go_aload_n 0 dX12_laysSet_31 rfl rfl ?_
      refine go_getR gf_RX12_45 gcf_12 gft_12_21 dX12_laysSet_32 (fun v12 => ?_)
      refine go_iconst (v := 2) dX12_laysSet_35 (by decide) ?_
      refine go_iload_n 2 dX12_laysSet_36 rfl rfl ?_
      refine go_imul dX12_laysSet_37 ?_
      refine go_iaload dX12_laysSet_38 (fun v13 _ => ?_)
      refine go_aload_n 0 dX12_laysSet_39 rfl rfl ?_
      refine go_getR gf_RX12_45 gcf_12 gft_12_21 dX12_laysSet_40 (fun v14 => ?_)
      refine go_iconst (v := 2) dX12_laysSet_43 (by decide) ?_
      refine go_iload_n 2 dX12_laysSet_44 rfl rfl ?_
      refine go_imul dX12_laysSet_45 ?_
      refine go_iconst (v := 1) dX12_laysSet_46 (by decide) ?_
      refine go_iadd dX12_laysSet_47 ?_
      refine go_iaload dX12_laysSet_48 (fun v15 _ => ?_)
      refine go_callV_v (as := [vi v13, vi v15]) gk_RX12_405 gmf_X12_does (by decide) rfl (by omega) rfl rfl (Nat.le_of_ble_eq_true rfl) dX12_laysSet_49 (fun _ _ h => cX12_does_c (by omega) h) (fun r16 s17 _ => ?_)
      refine go_iinc (v := 1) (L' := [(2, vi (x2 + 1)), (0, vr a0), (1, vi x1)]) 2 dX12_laysSet_52 rfl (by decide) (by decide) rfl ?_
      refine go_goto (tgt := 16) dX12_laysSet_55 (by decide) ?_
      exact go_sub [1, 2, 0] (ih (x2 + 1) s17) rfl
    · exact go_sub [0, 1] (hk58 s9) rfl
def gX12_laysSet_L69 (k96 : gH → Option (Unit × gH)) (a0 : Nat) (x1 : Int32) (x2 : Int32) : Nat → Int32 → gH → Option (Unit × gH)
  | 0, _, _ => none
  | n + 1, x3, s0 =>
    if x3 < 14610 then
      (ggR s0 a0 12 30).bind fun v22 =>
      (ggR s0 a0 12 33).bind fun v23 =>
      (gaI s0 v23 4 x3).bind fun v24 =>
      (saI s0 v22 4 (x2 + x3) v24).bind fun s25 =>
      gX12_laysSet_L69 k96 a0 x1 x2 n (x3 + 1) s25
    else
      k96 s0
set_option maxRecDepth 100000 in
set_option maxHeartbeats 4000000 in
theorem wX12_laysSet_L69 {X : Nat × (Nat → Int32)} {d : Nat} (hd : 4 ≤ d) (k96 : gH → Option (Unit × gH)) (a0 : Nat) (x1 : Int32) (x2 : Int32) (hk96 : ∀ (s : gH), gGo X rvU mX12_laysSet d 96 [(0, vr a0), (1, vi x1), (2, vi x2)] [] s (k96 s)) : ∀ (n : Nat) (x3 : Int32) (s0 : gH), gGo X rvU mX12_laysSet d 69 [(0, vr a0), (1, vi x1), (2, vi x2), (3, vi x3)] [] s0 (gX12_laysSet_L69 k96 a0 x1 x2 n x3 s0) := by
  intro n
  induction n with
  | zero => intros; exact go_none
  | succ n ih =>
    intro x3 s0
    show gGo _ _ _ _ _ _ _ _ (gX12_laysSet_L69 k96 a0 x1 x2 (n + 1) x3 s0)
    unfold gX12_laysSet_L69
    refine go_iload_n 3 dX12_laysSet_69 rfl rfl ?_
    refine go_sipush (v := 14610) dX12_laysSet_70 (by decide) ?_
    refine go_icmp_ge (tgt := 96) dX12_laysSet_73 (by decide) (fun h21 => ?_) (fun h21 => ?_)
    · refine go_aload_n 0 dX12_laysSet_76 rfl rfl ?_
      refine go_getR gf_RX12_58 gcf_12 gft_12_30 dX12_laysSet_77 (fun v22 => ?_)
      refine go_iload_n 2 dX12_laysSet_80 rfl rfl ?_
      refine go_iload_n 3 dX12_laysSet_81 rfl rfl ?_
      refine go_iadd dX12_laysSet_82 ?_
      refine go_aload_n 0 dX12_laysSet_83 rfl rfl ?_
      refine go_getR gf_RX12_69 gcf_12 gft_12_33 dX12_laysSet_84 (fun v23 => ?_)
      refine go_iload_n 3 dX12_laysSet_87 rfl rfl ?_
      refine go_zaload dX12_laysSet_88 (fun v24 _ => ?_)
      refine go_zastore dX12_laysSet_89 (fun s25 _ => ?_)
      refine go_iinc (v := 1) (L' := [(3, vi (x3 + 1)), (0, vr a0), (1, vi x1), (2, vi x2)]) 3 dX12_laysSet_90 rfl (by decide) (by decide) rfl ?_
      refine go_goto (tgt := 69) dX12_laysSet_93 (by decide) ?_
      exact go_sub [1, 2, 3, 0] (ih (x3 + 1) s25) rfl
    · exact go_sub [0, 1, 2] (hk96 s0) rfl
def gX12_laysSet_L98 (k138 : gH → Option (Unit × gH)) (a0 : Nat) (x1 : Int32) (x2 : Int32) : Nat → Int32 → gH → Option (Unit × gH)
  | 0, _, _ => none
  | n + 1, x3, s0 =>
    (ggR s0 a0 12 29).bind fun v28 =>
    gb2 (fX12_handAt x1 0 s0) fun r29 s30 =>
    (gaI s30 v28 2 r29).bind fun v31 =>
    if v31 < x3 then
      k138 s30
    else
      (ggR s30 a0 12 30).bind fun v33 =>
      (ggR s30 a0 12 29).bind fun v34 =>
      gb2 (fX12_handAt x1 0 s30) fun r35 s36 =>
      (gaI s36 v34 2 (r35 + x3)).bind fun v37 =>
      (saI s36 v33 4 (x2 + v37) 1).bind fun s38 =>
      gX12_laysSet_L98 k138 a0 x1 x2 n (x3 + 1) s38
set_option maxRecDepth 100000 in
set_option maxHeartbeats 4000000 in
theorem wX12_laysSet_L98 {X : Nat × (Nat → Int32)} {d : Nat} (hd : 4 ≤ d) (k138 : gH → Option (Unit × gH)) (a0 : Nat) (x1 : Int32) (x2 : Int32) (hk138 : ∀ (s : gH), gGo X rvU mX12_laysSet d 138 [(0, vr a0), (1, vi x1), (2, vi x2)] [] s (k138 s)) : ∀ (n : Nat) (x3 : Int32) (s0 : gH), gGo X rvU mX12_laysSet d 98 [(0, vr a0), (1, vi x1), (2, vi x2), (3, vi x3)] [] s0 (gX12_laysSet_L98 k138 a0 x1 x2 n x3 s0) := by
  intro n
  induction n with
  | zero => intros; exact go_none
  | succ n ih =>
    intro x3 s0
    show gGo _ _ _ _ _ _ _ _ (gX12_laysSet_L98 k138 a0 x1 x2 (n + 1) x3 s0)
    unfold gX12_laysSet_L98
    refine go_iload_n 3 dX12_laysSet_98 rfl rfl ?_
    refine go_aload_n 0 dX12_laysSet_99 rfl rfl ?_
    refine go_getR gf_RX12_54 gcf_12 gft_12_29 dX12_laysSet_100 (fun v28 => ?_)
    refine go_iload_n 1 dX12_laysSet_103 rfl rfl ?_
    refine go_iconst (v := 0) dX12_laysSet_104 (by decide) ?_
    refine go_callS_I (as := [vi x1, vi 0]) gk_RX12_408 gmf_X12_handAt (by omega) rfl rfl (Nat.le_of_ble_eq_true rfl) dX12_laysSet_105 (fun _ _ h => cX12_handAt_c (by omega) h) (fun r29 s30 _ => ?_)
    refine go_iaload dX12_laysSet_108 (fun v31 _ => ?_)
    refine go_icmp_gt (tgt := 138) dX12_laysSet_109 (by decide) (fun h32 => ?_) (fun h32 => ?_)
    · exact go_sub [0, 1, 2] (hk138 s30) rfl
    · refine go_aload_n 0 dX12_laysSet_112 rfl rfl ?_
      refine go_getR gf_RX12_58 gcf_12 gft_12_30 dX12_laysSet_113 (fun v33 => ?_)
      refine go_iload_n 2 dX12_laysSet_116 rfl rfl ?_
      refine go_aload_n 0 dX12_laysSet_117 rfl rfl ?_
      refine go_getR gf_RX12_54 gcf_12 gft_12_29 dX12_laysSet_118 (fun v34 => ?_)
      refine go_iload_n 1 dX12_laysSet_121 rfl rfl ?_
      refine go_iconst (v := 0) dX12_laysSet_122 (by decide) ?_
      refine go_callS_I (as := [vi x1, vi 0]) gk_RX12_408 gmf_X12_handAt (by omega) rfl rfl (Nat.le_of_ble_eq_true rfl) dX12_laysSet_123 (fun _ _ h => cX12_handAt_c (by omega) h) (fun r35 s36 _ => ?_)
      refine go_iload_n 3 dX12_laysSet_126 rfl rfl ?_
      refine go_iadd dX12_laysSet_127 ?_
      refine go_iaload dX12_laysSet_128 (fun v37 _ => ?_)
      refine go_iadd dX12_laysSet_129 ?_
      refine go_iconst (v := 1) dX12_laysSet_130 (by decide) ?_
      refine go_zastore dX12_laysSet_131 (fun s38 _ => ?_)
      refine go_iinc (v := 1) (L' := [(3, vi (x3 + 1)), (0, vr a0), (1, vi x1), (2, vi x2)]) 3 dX12_laysSet_132 rfl (by decide) (by decide) rfl ?_
      refine go_goto (tgt := 98) dX12_laysSet_135 (by decide) ?_
      exact go_sub [1, 2, 3, 0] (ih (x3 + 1) s38) rfl
def gX12_laysSet_L140  (a0 : Nat) (x1 : Int32) (x2 : Int32) : Nat → Int32 → gH → Option (Unit × gH)
  | 0, _, _ => none
  | n + 1, x3, s0 =>
    (ggR s0 a0 12 29).bind fun v41 =>
    gb2 (fX12_handAt x1 1 s0) fun r42 s43 =>
    (gaI s43 v41 2 r42).bind fun v44 =>
    if v44 < x3 then
      some ((), s43)
    else
      (ggR s43 a0 12 30).bind fun v46 =>
      (ggR s43 a0 12 29).bind fun v47 =>
      gb2 (fX12_handAt x1 1 s43) fun r48 s49 =>
      (gaI s49 v47 2 (r48 + x3)).bind fun v50 =>
      (saI s49 v46 4 (x2 + v50) 0).bind fun s51 =>
      gX12_laysSet_L140 a0 x1 x2 n (x3 + 1) s51
set_option maxRecDepth 100000 in
set_option maxHeartbeats 4000000 in
theorem wX12_laysSet_L140 {X : Nat × (Nat → Int32)} {d : Nat} (hd : 4 ≤ d)  (a0 : Nat) (x1 : Int32) (x2 : Int32) : ∀ (n : Nat) (x3 : Int32) (s0 : gH), gGo X rvU mX12_laysSet d 140 [(0, vr a0), (1, vi x1), (2, vi x2), (3, vi x3)] [] s0 (gX12_laysSet_L140 a0 x1 x2 n x3 s0) := by
  intro n
  induction n with
  | zero => intros; exact go_none
  | succ n ih =>
    intro x3 s0
    show gGo _ _ _ _ _ _ _ _ (gX12_laysSet_L140 a0 x1 x2 (n + 1) x3 s0)
    unfold gX12_laysSet_L140
    refine go_iload_n 3 dX12_laysSet_140 rfl rfl ?_
    refine go_aload_n 0 dX12_laysSet_141 rfl rfl ?_
    refine go_getR gf_RX12_54 gcf_12 gft_12_29 dX12_laysSet_142 (fun v41 => ?_)
    refine go_iload_n 1 dX12_laysSet_145 rfl rfl ?_
    refine go_iconst (v := 1) dX12_laysSet_146 (by decide) ?_
    refine go_callS_I (as := [vi x1, vi 1]) gk_RX12_408 gmf_X12_handAt (by omega) rfl rfl (Nat.le_of_ble_eq_true rfl) dX12_laysSet_147 (fun _ _ h => cX12_handAt_c (by omega) h) (fun r42 s43 _ => ?_)
    refine go_iaload dX12_laysSet_150 (fun v44 _ => ?_)
    refine go_icmp_gt (tgt := 180) dX12_laysSet_151 (by decide) (fun h45 => ?_) (fun h45 => ?_)
    · exact go_retv rfl dX12_laysSet_180
    · refine go_aload_n 0 dX12_laysSet_154 rfl rfl ?_
      refine go_getR gf_RX12_58 gcf_12 gft_12_30 dX12_laysSet_155 (fun v46 => ?_)
      refine go_iload_n 2 dX12_laysSet_158 rfl rfl ?_
      refine go_aload_n 0 dX12_laysSet_159 rfl rfl ?_
      refine go_getR gf_RX12_54 gcf_12 gft_12_29 dX12_laysSet_160 (fun v47 => ?_)
      refine go_iload_n 1 dX12_laysSet_163 rfl rfl ?_
      refine go_iconst (v := 1) dX12_laysSet_164 (by decide) ?_
      refine go_callS_I (as := [vi x1, vi 1]) gk_RX12_408 gmf_X12_handAt (by omega) rfl rfl (Nat.le_of_ble_eq_true rfl) dX12_laysSet_165 (fun _ _ h => cX12_handAt_c (by omega) h) (fun r48 s49 _ => ?_)
      refine go_iload_n 3 dX12_laysSet_168 rfl rfl ?_
      refine go_iadd dX12_laysSet_169 ?_
      refine go_iaload dX12_laysSet_170 (fun v50 _ => ?_)
      refine go_iadd dX12_laysSet_171 ?_
      refine go_iconst (v := 0) dX12_laysSet_172 (by decide) ?_
      refine go_zastore dX12_laysSet_173 (fun s51 _ => ?_)
      refine go_iinc (v := 1) (L' := [(3, vi (x3 + 1)), (0, vr a0), (1, vi x1), (2, vi x2)]) 3 dX12_laysSet_174 rfl (by decide) (by decide) rfl ?_
      refine go_goto (tgt := 140) dX12_laysSet_177 (by decide) ?_
      exact go_sub [1, 2, 3, 0] (ih (x3 + 1) s51) rfl
def fX12_laysSet (a0 : Nat) (x1 : Int32) (s0 : gH) : Option (Unit × gH) :=
  (spI s0 a0 12 34 0).bind fun s1 =>
  (ggR s1 a0 12 19).bind fun v2 =>
  gb2 (fX12_setAt x1 1 s1) fun r3 s4 =>
  (gaI s4 v2 2 r3).bind fun v5 =>
  gX12_laysSet_L16
    (fun s18 =>
      glet (14610 * (6 + x1)) fun y19 =>
      gX12_laysSet_L69
        (fun s26 =>
          gX12_laysSet_L98
            (fun s39 =>
              gX12_laysSet_L140
                a0 x1 y19 20000 1 s39)
            a0 x1 y19 20000 1 s26)
        a0 x1 y19 20000 0 s18)
    a0 x1 20000 v5 s4
set_option maxRecDepth 100000 in
set_option maxHeartbeats 4000000 in
theorem wX12_laysSet {X : Nat × (Nat → Int32)} {d : Nat} (hd : 4 ≤ d) {a0 : Nat} {x1 : Int32} {s0 : gH} : gGo X rvU mX12_laysSet d 0 [(0, vr a0), (1, vi x1)] [] s0 (fX12_laysSet a0 x1 s0) := by
  unfold fX12_laysSet
  refine go_aload_n 0 dX12_laysSet_0 rfl rfl ?_
  refine go_iconst (v := 0) dX12_laysSet_1 (by decide) ?_
  refine go_putI gf_RX12_384 gcf_12 gpl_12_34 gft_12_34 dX12_laysSet_2 (fun s1 _ => ?_)
  refine go_aload_n 0 dX12_laysSet_5 rfl rfl ?_
  refine go_getR gf_RX12_39 gcf_12 gft_12_19 dX12_laysSet_6 (fun v2 => ?_)
  refine go_iload_n 1 dX12_laysSet_9 rfl rfl ?_
  refine go_iconst (v := 1) dX12_laysSet_10 (by decide) ?_
  refine go_callS_I (as := [vi x1, vi 1]) gk_RX12_189 gmf_X12_setAt (by omega) rfl rfl (Nat.le_of_ble_eq_true rfl) dX12_laysSet_11 (fun _ _ h => cX12_setAt_c (by omega) h) (fun r3 s4 _ => ?_)
  refine go_iaload dX12_laysSet_14 (fun v5 _ => ?_)
  refine go_istore_n (L' := [(2, vi v5), (0, vr a0), (1, vi x1)]) dX12_laysSet_15 rfl (by decide) rfl ?_
  refine go_sub [1, 2, 0] (wX12_laysSet_L16 hd _ a0 x1 ?_ 20000 v5 s4) rfl
  intro s18
  refine go_sipush (v := 14610) dX12_laysSet_58 (by decide) ?_
  refine go_bipush (v := 6) dX12_laysSet_61 (by decide) ?_
  refine go_iload_n 1 dX12_laysSet_63 rfl rfl ?_
  refine go_iadd dX12_laysSet_64 ?_
  refine go_imul dX12_laysSet_65 ?_
  refine go_istore_n_l (L' := fun y19 => [(2, vi y19), (0, vr a0), (1, vi x1)]) dX12_laysSet_66 rfl (by decide) (fun _ => rfl) (fun y19 => ?_)
  refine go_iconst (v := 0) dX12_laysSet_67 (by decide) ?_
  refine go_istore_n (L' := [(3, vi 0), (2, vi y19), (0, vr a0), (1, vi x1)]) dX12_laysSet_68 rfl (by decide) rfl ?_
  refine go_sub [2, 3, 1, 0] (wX12_laysSet_L69 hd _ a0 x1 y19 ?_ 20000 0 s18) rfl
  intro s26
  refine go_iconst (v := 1) dX12_laysSet_96 (by decide) ?_
  refine go_istore_n (L' := [(3, vi 1), (0, vr a0), (1, vi x1), (2, vi y19)]) dX12_laysSet_97 rfl (by decide) rfl ?_
  refine go_sub [1, 2, 3, 0] (wX12_laysSet_L98 hd _ a0 x1 y19 ?_ 20000 1 s26) rfl
  intro s39
  refine go_iconst (v := 1) dX12_laysSet_138 (by decide) ?_
  refine go_istore_n (L' := [(3, vi 1), (0, vr a0), (1, vi x1), (2, vi y19)]) dX12_laysSet_139 rfl (by decide) rfl ?_
  refine go_sub [1, 2, 3, 0] (wX12_laysSet_L140 hd a0 x1 y19 20000 1 s39) rfl
set_option maxRecDepth 100000 in
set_option maxHeartbeats 4000000 in
theorem cX12_laysSet_c {d : Nat} (hd : 4 ≤ d) {a0 : Nat} {x1 : Int32} {s0 : gH} {r : Unit} {s1 : gH} (h : fX12_laysSet a0 x1 s0 = some (r, s1)) : gMt mX12_laysSet d [vr a0, vi x1] s0 none s1 :=
  gMt_of (rv := rvU) (by decide +kernel) (Nat.le_of_ble_eq_true rfl) rfl (fun _ => wX12_laysSet hd) h
def gX12_lays_L53 (k74 : gH → Option (Unit × gH)) (a0 : Nat) (x1 : Int32) : Nat → Int32 → gH → Option (Unit × gH)
  | 0, _, _ => none
  | n + 1, x2, s0 =>
    (ggR s0 a0 12 19).bind fun v15 =>
    (gaI s0 v15 2 0).bind fun v16 =>
    if x2 < v16 then
      gb2 (gcv s0 a0 12 (fX12_lays0 a0 x2 s0)) fun r18 s19 =>
      gX12_lays_L53 k74 a0 x1 n (x2 + 1) s19
    else
      k74 s0
set_option maxRecDepth 100000 in
set_option maxHeartbeats 4000000 in
theorem wX12_lays_L53 {X : Nat × (Nat → Int32)} {d : Nat} (hd : 10 ≤ d) (k74 : gH → Option (Unit × gH)) (a0 : Nat) (x1 : Int32) (hk74 : ∀ (s : gH), gGo X rvU mX12_lays d 74 [(0, vr a0), (1, vi x1)] [] s (k74 s)) : ∀ (n : Nat) (x2 : Int32) (s0 : gH), gGo X rvU mX12_lays d 53 [(0, vr a0), (1, vi x1), (2, vi x2)] [] s0 (gX12_lays_L53 k74 a0 x1 n x2 s0) := by
  intro n
  induction n with
  | zero => intros; exact go_none
  | succ n ih =>
    intro x2 s0
    show gGo _ _ _ _ _ _ _ _ (gX12_lays_L53 k74 a0 x1 (n + 1) x2 s0)
    unfold gX12_lays_L53
    refine go_iload_n 2 dX12_lays_53 rfl rfl ?_
    refine go_aload_n 0 dX12_lays_54 rfl rfl ?_
    refine go_getR gf_RX12_39 gcf_12 gft_12_19 dX12_lays_55 (fun v15 => ?_)
    refine go_iconst (v := 0) dX12_lays_58 (by decide) ?_
    refine go_iaload dX12_lays_59 (fun v16 _ => ?_)
    refine go_icmp_ge (tgt := 74) dX12_lays_60 (by decide) (fun h17 => ?_) (fun h17 => ?_)
    · refine go_aload_n 0 dX12_lays_63 rfl rfl ?_
      refine go_iload_n 2 dX12_lays_64 rfl rfl ?_
      refine go_callV_v (as := [vi x2]) gk_RX12_419 gmf_X12_lays0 (by decide) rfl (by omega) rfl rfl (Nat.le_of_ble_eq_true rfl) dX12_lays_65 (fun _ _ h => cX12_lays0_c (by omega) h) (fun r18 s19 _ => ?_)
      refine go_iinc (v := 1) (L' := [(2, vi (x2 + 1)), (0, vr a0), (1, vi x1)]) 2 dX12_lays_68 rfl (by decide) (by decide) rfl ?_
      refine go_goto (tgt := 53) dX12_lays_71 (by decide) ?_
      exact go_sub [1, 2, 0] (ih (x2 + 1) s19) rfl
    · exact go_sub [0, 1] (hk74 s0) rfl
def gX12_lays_L76  (a0 : Nat) (x1 : Int32) : Nat → Int32 → gH → Option (Unit × gH)
  | 0, _, _ => none
  | n + 1, x2, s0 =>
    if x1 - 6 < x2 then
      some ((), s0)
    else
      (ggR s0 a0 12 31).bind fun v23 =>
      (gaI s0 v23 4 (6 + x2)).bind fun v24 =>
      if v24 = 0 then
        gb2 (gcv s0 a0 12 (fX12_laysSet a0 x2 s0)) fun r26 s27 =>
        (ggR s27 a0 12 31).bind fun v28 =>
        (saI s27 v28 4 (6 + x2) 1).bind fun s29 =>
        gX12_lays_L76 a0 x1 n (x2 + 1) s29
      else
        gX12_lays_L76 a0 x1 n (x2 + 1) s0
set_option maxRecDepth 100000 in
set_option maxHeartbeats 4000000 in
theorem wX12_lays_L76 {X : Nat × (Nat → Int32)} {d : Nat} (hd : 10 ≤ d)  (a0 : Nat) (x1 : Int32) : ∀ (n : Nat) (x2 : Int32) (s0 : gH), gGo X rvU mX12_lays d 76 [(0, vr a0), (1, vi x1), (2, vi x2)] [] s0 (gX12_lays_L76 a0 x1 n x2 s0) := by
  intro n
  induction n with
  | zero => intros; exact go_none
  | succ n ih =>
    intro x2 s0
    show gGo _ _ _ _ _ _ _ _ (gX12_lays_L76 a0 x1 (n + 1) x2 s0)
    unfold gX12_lays_L76
    refine go_iload_n 2 dX12_lays_76 rfl rfl ?_
    refine go_iload_n 1 dX12_lays_77 rfl rfl ?_
    refine go_bipush (v := 6) dX12_lays_78 (by decide) ?_
    refine go_isub dX12_lays_80 ?_
    refine go_icmp_gt (tgt := 117) dX12_lays_81 (by decide) (fun h22 => ?_) (fun h22 => ?_)
    · exact go_retv rfl dX12_lays_117
    · refine go_aload_n 0 dX12_lays_84 rfl rfl ?_
      refine go_getR gf_RX12_62 gcf_12 gft_12_31 dX12_lays_85 (fun v23 => ?_)
      refine go_bipush (v := 6) dX12_lays_88 (by decide) ?_
      refine go_iload_n 2 dX12_lays_90 rfl rfl ?_
      refine go_iadd dX12_lays_91 ?_
      refine go_zaload dX12_lays_92 (fun v24 _ => ?_)
      refine go_if_ne (tgt := 111) dX12_lays_93 (by decide) (fun h25 => ?_) (fun h25 => ?_)
      · refine go_aload_n 0 dX12_lays_96 rfl rfl ?_
        refine go_iload_n 2 dX12_lays_97 rfl rfl ?_
        refine go_callV_v (as := [vi x2]) gk_RX12_422 gmf_X12_laysSet (by decide) rfl (by omega) rfl rfl (Nat.le_of_ble_eq_true rfl) dX12_lays_98 (fun _ _ h => cX12_laysSet_c (by omega) h) (fun r26 s27 _ => ?_)
        refine go_aload_n 0 dX12_lays_101 rfl rfl ?_
        refine go_getR gf_RX12_62 gcf_12 gft_12_31 dX12_lays_102 (fun v28 => ?_)
        refine go_bipush (v := 6) dX12_lays_105 (by decide) ?_
        refine go_iload_n 2 dX12_lays_107 rfl rfl ?_
        refine go_iadd dX12_lays_108 ?_
        refine go_iconst (v := 1) dX12_lays_109 (by decide) ?_
        refine go_zastore dX12_lays_110 (fun s29 _ => ?_)
        refine go_iinc (v := 1) (L' := [(2, vi (x2 + 1)), (0, vr a0), (1, vi x1)]) 2 dX12_lays_111 rfl (by decide) (by decide) rfl ?_
        refine go_goto (tgt := 76) dX12_lays_114 (by decide) ?_
        exact go_sub [1, 2, 0] (ih (x2 + 1) s29) rfl
      · refine go_iinc (v := 1) (L' := [(2, vi (x2 + 1)), (0, vr a0), (1, vi x1)]) 2 dX12_lays_111 rfl (by decide) (by decide) rfl ?_
        refine go_goto (tgt := 76) dX12_lays_114 (by decide) ?_
        exact go_sub [1, 2, 0] (ih (x2 + 1) s0) rfl
def fX12_lays (a0 : Nat) (x1 : Int32) (s0 : gH) : Option (Unit × gH) :=
  if x1 < 6 then
    (ggR s0 a0 12 31).bind fun v2 =>
    (gaI s0 v2 4 x1).bind fun v3 =>
    if v3 = 0 then
      gb2 (gcv s0 a0 12 (fX12_laysBase a0 x1 s0)) fun r5 s6 =>
      (ggR s6 a0 12 29).bind fun v7 =>
      (gaI s6 v7 2 (2 * x1)).bind fun v8 =>
      (ggR s6 a0 12 30).bind fun v9 =>
      gb2 (gcv s6 a0 12 (fX12_laysDaysBy a0 x1 v8 v9 (14610 * x1) s6)) fun r10 s11 =>
      (ggR s11 a0 12 31).bind fun v12 =>
      (saI s11 v12 4 x1 1).bind fun s13 =>
      some ((), s13)
    else
      some ((), s0)
  else
    gX12_lays_L53
      (fun s20 =>
        gX12_lays_L76
          a0 x1 20000 0 s20)
      a0 x1 20000 0 s0
set_option maxRecDepth 100000 in
set_option maxHeartbeats 4000000 in
theorem wX12_lays {X : Nat × (Nat → Int32)} {d : Nat} (hd : 10 ≤ d) {a0 : Nat} {x1 : Int32} {s0 : gH} : gGo X rvU mX12_lays d 0 [(0, vr a0), (1, vi x1)] [] s0 (fX12_lays a0 x1 s0) := by
  unfold fX12_lays
  refine go_iload_n 1 dX12_lays_0 rfl rfl ?_
  refine go_bipush (v := 6) dX12_lays_1 (by decide) ?_
  refine go_icmp_ge (tgt := 51) dX12_lays_3 (by decide) (fun h1 => ?_) (fun h1 => ?_)
  · refine go_aload_n 0 dX12_lays_6 rfl rfl ?_
    refine go_getR gf_RX12_62 gcf_12 gft_12_31 dX12_lays_7 (fun v2 => ?_)
    refine go_iload_n 1 dX12_lays_10 rfl rfl ?_
    refine go_zaload dX12_lays_11 (fun v3 _ => ?_)
    refine go_if_eq (tgt := 16) dX12_lays_12 (by decide) (fun h4 => ?_) (fun h4 => ?_)
    · refine go_aload_n 0 dX12_lays_16 rfl rfl ?_
      refine go_iload_n 1 dX12_lays_17 rfl rfl ?_
      refine go_callV_v (as := [vi x1]) gk_RX12_412 gmf_X12_laysBase (by decide) rfl (by omega) rfl rfl (Nat.le_of_ble_eq_true rfl) dX12_lays_18 (fun _ _ h => cX12_laysBase_c (by omega) h) (fun r5 s6 _ => ?_)
      refine go_aload_n 0 dX12_lays_21 rfl rfl ?_
      refine go_iload_n 1 dX12_lays_22 rfl rfl ?_
      refine go_aload_n 0 dX12_lays_23 rfl rfl ?_
      refine go_getR gf_RX12_54 gcf_12 gft_12_29 dX12_lays_24 (fun v7 => ?_)
      refine go_iconst (v := 2) dX12_lays_27 (by decide) ?_
      refine go_iload_n 1 dX12_lays_28 rfl rfl ?_
      refine go_imul dX12_lays_29 ?_
      refine go_iaload dX12_lays_30 (fun v8 _ => ?_)
      refine go_aload_n 0 dX12_lays_31 rfl rfl ?_
      refine go_getR gf_RX12_58 gcf_12 gft_12_30 dX12_lays_32 (fun v9 => ?_)
      refine go_sipush (v := 14610) dX12_lays_35 (by decide) ?_
      refine go_iload_n 1 dX12_lays_38 rfl rfl ?_
      refine go_imul dX12_lays_39 ?_
      refine go_callV_v (as := [vi x1, vi v8, vr v9, vi (14610 * x1)]) gk_RX12_415 gmf_X12_laysDaysBy (by decide) rfl (by omega) rfl rfl (Nat.le_of_ble_eq_true rfl) dX12_lays_40 (fun _ _ h => cX12_laysDaysBy_c (by omega) h) (fun r10 s11 _ => ?_)
      refine go_aload_n 0 dX12_lays_43 rfl rfl ?_
      refine go_getR gf_RX12_62 gcf_12 gft_12_31 dX12_lays_44 (fun v12 => ?_)
      refine go_iload_n 1 dX12_lays_47 rfl rfl ?_
      refine go_iconst (v := 1) dX12_lays_48 (by decide) ?_
      refine go_zastore dX12_lays_49 (fun s13 _ => ?_)
      exact go_retv rfl dX12_lays_50
    · exact go_retv rfl dX12_lays_15
  · refine go_iconst (v := 0) dX12_lays_51 (by decide) ?_
    refine go_istore_n (L' := [(2, vi 0), (0, vr a0), (1, vi x1)]) dX12_lays_52 rfl (by decide) rfl ?_
    refine go_sub [1, 2, 0] (wX12_lays_L53 hd _ a0 x1 ?_ 20000 0 s0) rfl
    intro s20
    refine go_iconst (v := 0) dX12_lays_74 (by decide) ?_
    refine go_istore_n (L' := [(2, vi 0), (0, vr a0), (1, vi x1)]) dX12_lays_75 rfl (by decide) rfl ?_
    refine go_sub [1, 2, 0] (wX12_lays_L76 hd a0 x1 20000 0 s20) rfl
set_option maxRecDepth 100000 in
set_option maxHeartbeats 4000000 in
theorem cX12_lays_c {d : Nat} (hd : 10 ≤ d) {a0 : Nat} {x1 : Int32} {s0 : gH} {r : Unit} {s1 : gH} (h : fX12_lays a0 x1 s0 = some (r, s1)) : gMt mX12_lays d [vr a0, vi x1] s0 none s1 :=
  gMt_of (rv := rvU) (by decide +kernel) (Nat.le_of_ble_eq_true rfl) rfl (fun _ => wX12_lays hd) h
def gX12_isAsked (a0 : Nat) (x1 : Int32) (s0 : gH) : Option (Int32 × gH) :=
  gb2 (gcv s0 a0 12 (fX12_isWhat a0 x1 s0)) fun r1 s2 =>
  if r1 = 0 then
    some (0, s2)
  else
    gb2 (gcv s2 a0 12 (fX12_lays a0 x1 s2)) fun r4 s5 =>
    some (1, s5)
def fX12_isAsked (a0 : Nat) (x1 : Int32) (s0 : gH) : Option (Int32 × gH) := gzr (gX12_isAsked a0 x1 s0)
set_option maxRecDepth 100000 in
set_option maxHeartbeats 4000000 in
theorem wX12_isAsked {X : Nat × (Nat → Int32)} {d : Nat} (hd : 11 ≤ d) {a0 : Nat} {x1 : Int32} {s0 : gH} : gGo X rvI mX12_isAsked d 0 [(0, vr a0), (1, vi x1)] [] s0 (gX12_isAsked a0 x1 s0) := by
  unfold gX12_isAsked
  refine go_aload_n 0 dX12_isAsked_0 rfl rfl ?_
  refine go_iload_n 1 dX12_isAsked_1 rfl rfl ?_
  refine go_callV_I (as := [vi x1]) gk_RX12_428 gmf_X12_isWhat (by decide) rfl (by omega) rfl rfl (Nat.le_of_ble_eq_true rfl) dX12_isAsked_2 (fun _ _ h => cX12_isWhat_c (by omega) h) (fun r1 s2 _ => ?_)
  refine go_if_ne (tgt := 10) dX12_isAsked_5 (by decide) (fun h3 => ?_) (fun h3 => ?_)
  · refine go_iconst (v := 0) dX12_isAsked_8 (by decide) ?_
    exact go_ret rfl dX12_isAsked_9
  · refine go_aload_n 0 dX12_isAsked_10 rfl rfl ?_
    refine go_iload_n 1 dX12_isAsked_11 rfl rfl ?_
    refine go_callV_v (as := [vi x1]) gk_RX12_431 gmf_X12_lays (by decide) rfl (by omega) rfl rfl (Nat.le_of_ble_eq_true rfl) dX12_isAsked_12 (fun _ _ h => cX12_lays_c (by omega) h) (fun r4 s5 _ => ?_)
    refine go_iconst (v := 1) dX12_isAsked_15 (by decide) ?_
    exact go_ret rfl dX12_isAsked_16
set_option maxRecDepth 100000 in
set_option maxHeartbeats 4000000 in
theorem cX12_isAsked_c {d : Nat} (hd : 11 ≤ d) {a0 : Nat} {x1 : Int32} {s0 : gH} {r : Int32} {s1 : gH} (h : fX12_isAsked a0 x1 s0 = some (r, s1)) : gMt mX12_isAsked d [vr a0, vi x1] s0 (some (vi r)) s1 := by
  obtain ⟨h1, h2⟩ := gzr_some h
  exact gMt_of (rv := rvI) (by decide +kernel) (Nat.le_of_ble_eq_true rfl) ⟨_, rfl, gnarZ h2⟩ (fun _ => wX12_isAsked hd) h1
def gX12_isOn (a0 : Nat) (x1 : Int32) (x2 : Int32) (s0 : gH) : Option (Int32 × gH) :=
  (ggR s0 a0 12 30).bind fun v1 =>
  (gaI s0 v1 4 ((14610 * x1) + x2)).bind fun v2 =>
  some (v2, s0)
def fX12_isOn (a0 : Nat) (x1 : Int32) (x2 : Int32) (s0 : gH) : Option (Int32 × gH) := gzr (gX12_isOn a0 x1 x2 s0)
set_option maxRecDepth 100000 in
set_option maxHeartbeats 4000000 in
theorem wX12_isOn {X : Nat × (Nat → Int32)} {d : Nat} (hd : 0 ≤ d) {a0 : Nat} {x1 : Int32} {x2 : Int32} {s0 : gH} : gGo X rvI mX12_isOn d 0 [(0, vr a0), (1, vi x1), (2, vi x2)] [] s0 (gX12_isOn a0 x1 x2 s0) := by
  unfold gX12_isOn
  refine go_aload_n 0 dX12_isOn_0 rfl rfl ?_
  refine go_getR gf_RX12_58 gcf_12 gft_12_30 dX12_isOn_1 (fun v1 => ?_)
  refine go_sipush (v := 14610) dX12_isOn_4 (by decide) ?_
  refine go_iload_n 1 dX12_isOn_7 rfl rfl ?_
  refine go_imul dX12_isOn_8 ?_
  refine go_iload_n 2 dX12_isOn_9 rfl rfl ?_
  refine go_iadd dX12_isOn_10 ?_
  refine go_zaload dX12_isOn_11 (fun v2 _ => ?_)
  exact go_ret rfl dX12_isOn_12
set_option maxRecDepth 100000 in
set_option maxHeartbeats 4000000 in
theorem cX12_isOn_c {d : Nat} (hd : 0 ≤ d) {a0 : Nat} {x1 : Int32} {x2 : Int32} {s0 : gH} {r : Int32} {s1 : gH} (h : fX12_isOn a0 x1 x2 s0 = some (r, s1)) : gMt mX12_isOn d [vr a0, vi x1, vi x2] s0 (some (vi r)) s1 := by
  obtain ⟨h1, h2⟩ := gzr_some h
  exact gMt_of (rv := rvI) (by decide +kernel) (Nat.le_of_ble_eq_true rfl) ⟨_, rfl, gnarZ h2⟩ (fun _ => wX12_isOn hd) h1
def fX12_on (a0 : Nat) (x1 : Int32) (x2 : Int32) (s0 : gH) : Option (Int32 × gH) :=
  gb2 (fX12_isDay x2 s0) fun r1 s2 =>
  if r1 = 0 then
    some (-1, s2)
  else
    gb2 (gcv s2 a0 12 (fX12_isAsked a0 x1 s2)) fun r4 s5 =>
    if r4 = 0 then
      some (-1, s5)
    else
      gb2 (gcv s5 a0 12 (fX12_isOn a0 x1 x2 s5)) fun r7 s8 =>
      gb2 (fX12_flag r7 s8) fun r9 s10 =>
      some (r9, s10)
set_option maxRecDepth 100000 in
set_option maxHeartbeats 4000000 in
theorem wX12_on {X : Nat × (Nat → Int32)} {d : Nat} (hd : 12 ≤ d) {a0 : Nat} {x1 : Int32} {x2 : Int32} {s0 : gH} : gGo X rvI mX12_on d 0 [(0, vr a0), (1, vi x1), (2, vi x2)] [] s0 (fX12_on a0 x1 x2 s0) := by
  unfold fX12_on
  refine go_iload_n 2 dX12_on_0 rfl rfl ?_
  refine go_callS_I (as := [vi x2]) gk_RX12_387 gmf_X12_isDay (by omega) rfl rfl (Nat.le_of_ble_eq_true rfl) dX12_on_1 (fun _ _ h => cX12_isDay_c (by omega) h) (fun r1 s2 _ => ?_)
  refine go_if_eq (tgt := 27) dX12_on_4 (by decide) (fun h3 => ?_) (fun h3 => ?_)
  · refine go_iconst (v := -1) dX12_on_27 (by decide) ?_
    exact go_ret rfl dX12_on_28
  · refine go_aload_n 0 dX12_on_7 rfl rfl ?_
    refine go_iload_n 1 dX12_on_8 rfl rfl ?_
    refine go_callV_I (as := [vi x1]) gk_RX12_434 gmf_X12_isAsked (by decide) rfl (by omega) rfl rfl (Nat.le_of_ble_eq_true rfl) dX12_on_9 (fun _ _ h => cX12_isAsked_c (by omega) h) (fun r4 s5 _ => ?_)
    refine go_if_eq (tgt := 27) dX12_on_12 (by decide) (fun h6 => ?_) (fun h6 => ?_)
    · refine go_iconst (v := -1) dX12_on_27 (by decide) ?_
      exact go_ret rfl dX12_on_28
    · refine go_aload_n 0 dX12_on_15 rfl rfl ?_
      refine go_iload_n 1 dX12_on_16 rfl rfl ?_
      refine go_iload_n 2 dX12_on_17 rfl rfl ?_
      refine go_callV_I (as := [vi x1, vi x2]) gk_RX12_437 gmf_X12_isOn (by decide) rfl (by omega) rfl rfl (Nat.le_of_ble_eq_true rfl) dX12_on_18 (fun _ _ h => cX12_isOn_c (by omega) h) (fun r7 s8 _ => ?_)
      refine go_callS_I (as := [vi r7]) gk_RX12_370 gmf_X12_flag (by omega) rfl rfl (Nat.le_of_ble_eq_true rfl) dX12_on_21 (fun _ _ h => cX12_flag_c (by omega) h) (fun r9 s10 _ => ?_)
      refine go_goto (tgt := 28) dX12_on_24 (by decide) ?_
      exact go_ret rfl dX12_on_28
set_option maxRecDepth 100000 in
set_option maxHeartbeats 4000000 in
theorem cX12_on_c {d : Nat} (hd : 12 ≤ d) {a0 : Nat} {x1 : Int32} {x2 : Int32} {s0 : gH} {r : Int32} {s1 : gH} (h : fX12_on a0 x1 x2 s0 = some (r, s1)) : gMt mX12_on d [vr a0, vi x1, vi x2] s0 (some (vi r)) s1 :=
  gMt_of (rv := rvI) (by decide +kernel) (Nat.le_of_ble_eq_true rfl) ⟨_, rfl, rfl⟩ (fun _ => wX12_on hd) h
def fX2_firstFrom (a0 : Nat) (x1 : Int32) (s0 : gH) : Option (Int32 × gH) :=
  gb2 (gcv s0 a0 2 (fX2_search a0 a0 x1 0 s0)) fun r1 s2 =>
  some (r1, s2)
set_option maxRecDepth 100000 in
set_option maxHeartbeats 4000000 in
theorem wX2_firstFrom {X : Nat × (Nat → Int32)} {d : Nat} (hd : 2 ≤ d) {a0 : Nat} {x1 : Int32} {s0 : gH} : gGo X rvI mX2_firstFrom d 0 [(0, vr a0), (1, vi x1)] [] s0 (fX2_firstFrom a0 x1 s0) := by
  unfold fX2_firstFrom
  refine go_aload_n 0 dX2_firstFrom_0 rfl rfl ?_
  refine go_aload_n 0 dX2_firstFrom_1 rfl rfl ?_
  refine go_iload_n 1 dX2_firstFrom_2 rfl rfl ?_
  refine go_iconst (v := 0) dX2_firstFrom_3 (by decide) ?_
  refine go_callV_I (as := [vr a0, vi x1, vi 0]) gk_RX2_39 gmf_X2_search (by decide) rfl (by omega) rfl rfl (Nat.le_of_ble_eq_true rfl) dX2_firstFrom_4 (fun _ _ h => cX2_search_c (by omega) h) (fun r1 s2 _ => ?_)
  exact go_ret rfl dX2_firstFrom_7
set_option maxRecDepth 100000 in
set_option maxHeartbeats 4000000 in
theorem cX2_firstFrom_c {d : Nat} (hd : 2 ≤ d) {a0 : Nat} {x1 : Int32} {s0 : gH} {r : Int32} {s1 : gH} (h : fX2_firstFrom a0 x1 s0 = some (r, s1)) : gMt mX2_firstFrom d [vr a0, vi x1] s0 (some (vi r)) s1 :=
  gMt_of (rv := rvI) (by decide +kernel) (Nat.le_of_ble_eq_true rfl) ⟨_, rfl, rfl⟩ (fun _ => wX2_firstFrom hd) h
def fX11_next (a0 : Nat) (x1 : Int32) (x2 : Int32) (s0 : gH) : Option (Int32 × gH) :=
  (ggR s0 a0 11 3).bind fun v1 =>
  gb2 (gcv s0 v1 5 (fX5_daysOf v1 x1 s0)) fun r2 s3 =>
  if r2 = 0 then
    some (-1, s3)
  else
    if x2 < -1 then
      some (-1, s3)
    else
      if x2 < 14610 then
        gb2 (gcv s3 r2 2 (fX2_firstFrom r2 (x2 + 1) s3)) fun r7 s8 =>
        some (r7, s8)
      else
        some (-1, s3)
set_option maxRecDepth 100000 in
set_option maxHeartbeats 4000000 in
theorem wX11_next {X : Nat × (Nat → Int32)} {d : Nat} (hd : 6 ≤ d) {a0 : Nat} {x1 : Int32} {x2 : Int32} {s0 : gH} : gGo X rvI mX11_next d 0 [(0, vr a0), (1, vi x1), (2, vi x2)] [] s0 (fX11_next a0 x1 x2 s0) := by
  unfold fX11_next
  refine go_aload_n 0 dX11_next_0 rfl rfl ?_
  refine go_getR gf_RX11_35 gcf_11 gft_11_3 dX11_next_1 (fun v1 => ?_)
  refine go_iload_n 1 dX11_next_4 rfl rfl ?_
  refine go_callV_R (as := [vi x1]) gk_RX11_145 gmf_X5_daysOf (by decide) rfl (by omega) rfl rfl (Nat.le_of_ble_eq_true rfl) dX11_next_5 (fun _ _ h => cX5_daysOf_c (by omega) h) (fun r2 s3 _ => ?_)
  refine go_astore_n (L' := [(3, vr r2), (0, vr a0), (1, vi x1), (2, vi x2)]) dX11_next_8 rfl (by decide) rfl ?_
  refine go_aload_n 0 dX11_next_9 rfl rfl ?_
  refine go_ifnull (tgt := 25) dX11_next_10 (by decide) (fun h4 => ?_) (fun h4 => ?_)
  · refine go_iconst (v := -1) dX11_next_25 (by decide) ?_
    exact go_ret rfl dX11_next_26
  · refine go_iload_n 3 dX11_next_13 rfl rfl ?_
    refine go_iconst (v := -1) dX11_next_14 (by decide) ?_
    refine go_icmp_lt (tgt := 25) dX11_next_15 (by decide) (fun h5 => ?_) (fun h5 => ?_)
    · refine go_iconst (v := -1) dX11_next_25 (by decide) ?_
      exact go_ret rfl dX11_next_26
    · refine go_iload_n 3 dX11_next_18 rfl rfl ?_
      refine go_sipush (v := 14610) dX11_next_19 (by decide) ?_
      refine go_icmp_lt (tgt := 27) dX11_next_22 (by decide) (fun h6 => ?_) (fun h6 => ?_)
      · refine go_aload_n 0 dX11_next_27 rfl rfl ?_
        refine go_iload_n 3 dX11_next_28 rfl rfl ?_
        refine go_iconst (v := 1) dX11_next_29 (by decide) ?_
        refine go_iadd dX11_next_30 ?_
        refine go_callV_I (as := [vi (x2 + 1)]) gk_RX11_154 gmf_X2_firstFrom (by decide) rfl (by omega) rfl rfl (Nat.le_of_ble_eq_true rfl) dX11_next_31 (fun _ _ h => cX2_firstFrom_c (by omega) h) (fun r7 s8 _ => ?_)
        exact go_ret rfl dX11_next_34
      · refine go_iconst (v := -1) dX11_next_25 (by decide) ?_
        exact go_ret rfl dX11_next_26
set_option maxRecDepth 100000 in
set_option maxHeartbeats 4000000 in
theorem cX11_next_c {d : Nat} (hd : 6 ≤ d) {a0 : Nat} {x1 : Int32} {x2 : Int32} {s0 : gH} {r : Int32} {s1 : gH} (h : fX11_next a0 x1 x2 s0 = some (r, s1)) : gMt mX11_next d [vr a0, vi x1, vi x2] s0 (some (vi r)) s1 :=
  gMt_of (rv := rvI) (by decide +kernel) (Nat.le_of_ble_eq_true rfl) ⟨_, rfl, rfl⟩ (fun _ => wX11_next hd) h
def gX12_next_L28  (a0 : Nat) (x1 : Int32) : Nat → Int32 → gH → Option (Int32 × gH)
  | 0, _, _ => none
  | n + 1, x3, s0 =>
    if x3 < 14610 then
      gb2 (gcv s0 a0 12 (fX12_isOn a0 x1 x3 s0)) fun r10 s11 =>
      if r10 = 0 then
        gX12_next_L28 a0 x1 n (x3 + 1) s11
      else
        some (x3, s11)
    else
      some (-1, s0)
set_option maxRecDepth 100000 in
set_option maxHeartbeats 4000000 in
theorem wX12_next_L28 {X : Nat × (Nat → Int32)} {d : Nat} (hd : 12 ≤ d)  (a0 : Nat) (x1 : Int32) : ∀ (n : Nat) (x3 : Int32) (s0 : gH), gGo X rvI mX12_next d 28 [(0, vr a0), (1, vi x1), (3, vi x3)] [] s0 (gX12_next_L28 a0 x1 n x3 s0) := by
  intro n
  induction n with
  | zero => intros; exact go_none
  | succ n ih =>
    intro x3 s0
    show gGo _ _ _ _ _ _ _ _ (gX12_next_L28 a0 x1 (n + 1) x3 s0)
    unfold gX12_next_L28
    refine go_iload_n 2 dX12_next_28 rfl rfl ?_
    refine go_sipush (v := 14610) dX12_next_29 (by decide) ?_
    refine go_icmp_ge (tgt := 52) dX12_next_32 (by decide) (fun h9 => ?_) (fun h9 => ?_)
    · refine go_aload_n 0 dX12_next_35 rfl rfl ?_
      refine go_iload_n 1 dX12_next_36 rfl rfl ?_
      refine go_iload_n 2 dX12_next_37 rfl rfl ?_
      refine go_callV_I (as := [vi x1, vi x3]) gk_RX12_437 gmf_X12_isOn (by decide) rfl (by omega) rfl rfl (Nat.le_of_ble_eq_true rfl) dX12_next_38 (fun _ _ h => cX12_isOn_c (by omega) h) (fun r10 s11 _ => ?_)
      refine go_if_eq (tgt := 46) dX12_next_41 (by decide) (fun h12 => ?_) (fun h12 => ?_)
      · refine go_iinc (v := 1) (L' := [(3, vi (x3 + 1)), (0, vr a0), (1, vi x1)]) 2 dX12_next_46 rfl (by decide) (by decide) rfl ?_
        refine go_goto (tgt := 28) dX12_next_49 (by decide) ?_
        exact go_sub [1, 2, 0] (ih (x3 + 1) s11) rfl
      · refine go_iload_n 2 dX12_next_44 rfl rfl ?_
        exact go_ret rfl dX12_next_45
    · refine go_iconst (v := -1) dX12_next_52 (by decide) ?_
      exact go_ret rfl dX12_next_53
def fX12_next (a0 : Nat) (x1 : Int32) (x2 : Int32) (s0 : gH) : Option (Int32 × gH) :=
  gb2 (fX12_isIn x2.toInt64 (-1) 14609 s0) fun r1 s2 =>
  if r1 = 0 then
    some (-1, s2)
  else
    gb2 (gcv s2 a0 12 (fX12_isAsked a0 x1 s2)) fun r4 s5 =>
    if r4 = 0 then
      some (-1, s5)
    else
      glet (x2 + 1) fun y7 =>
      gX12_next_L28
        a0 x1 20000 y7 s5
set_option maxRecDepth 100000 in
set_option maxHeartbeats 4000000 in
theorem wX12_next {X : Nat × (Nat → Int32)} {d : Nat} (hd : 12 ≤ d) {a0 : Nat} {x1 : Int32} {x2 : Int32} {s0 : gH} : gGo X rvI mX12_next d 0 [(0, vr a0), (1, vi x1), (2, vi x2)] [] s0 (fX12_next a0 x1 x2 s0) := by
  unfold fX12_next
  refine go_iload_n 2 dX12_next_0 rfl rfl ?_
  refine go_i2l dX12_next_1 ?_
  refine go_ldc2 gcl_RX12_440 dX12_next_2 ?_
  refine go_ldc2 gcl_RX12_319 dX12_next_5 ?_
  refine go_callS_I (as := [vl x2.toInt64, vl (-1), vl 14609]) gk_RX12_110 gmf_X12_isIn (by omega) rfl rfl (Nat.le_of_ble_eq_true rfl) dX12_next_8 (fun _ _ h => cX12_isIn_c (by omega) h) (fun r1 s2 _ => ?_)
  refine go_if_eq (tgt := 22) dX12_next_11 (by decide) (fun h3 => ?_) (fun h3 => ?_)
  · refine go_iconst (v := -1) dX12_next_22 (by decide) ?_
    exact go_ret rfl dX12_next_23
  · refine go_aload_n 0 dX12_next_14 rfl rfl ?_
    refine go_iload_n 1 dX12_next_15 rfl rfl ?_
    refine go_callV_I (as := [vi x1]) gk_RX12_434 gmf_X12_isAsked (by decide) rfl (by omega) rfl rfl (Nat.le_of_ble_eq_true rfl) dX12_next_16 (fun _ _ h => cX12_isAsked_c (by omega) h) (fun r4 s5 _ => ?_)
    refine go_if_ne (tgt := 24) dX12_next_19 (by decide) (fun h6 => ?_) (fun h6 => ?_)
    · refine go_iconst (v := -1) dX12_next_22 (by decide) ?_
      exact go_ret rfl dX12_next_23
    · refine go_iload_n 2 dX12_next_24 rfl rfl ?_
      refine go_iconst (v := 1) dX12_next_25 (by decide) ?_
      refine go_iadd dX12_next_26 ?_
      refine go_istore_n_l (L' := fun y7 => [(3, vi y7), (0, vr a0), (1, vi x1), (2, vi x2)]) dX12_next_27 rfl (by decide) (fun _ => rfl) (fun y7 => ?_)
      refine go_sub [1, 2, 0] (wX12_next_L28 hd a0 x1 20000 y7 s5) rfl
set_option maxRecDepth 100000 in
set_option maxHeartbeats 4000000 in
theorem cX12_next_c {d : Nat} (hd : 12 ≤ d) {a0 : Nat} {x1 : Int32} {x2 : Int32} {s0 : gH} {r : Int32} {s1 : gH} (h : fX12_next a0 x1 x2 s0 = some (r, s1)) : gMt mX12_next d [vr a0, vi x1, vi x2] s0 (some (vi r)) s1 :=
  gMt_of (rv := rvI) (by decide +kernel) (Nat.le_of_ble_eq_true rfl) ⟨_, rfl, rfl⟩ (fun _ => wX12_next hd) h
def gX2_lastUpTo_L33 (k56 : Int32 → Int64 → gH → Option (Int32 × gH)) (a0 : Nat) : Nat → Int32 → Int64 → gH → Option (Int32 × gH)
  | 0, _, _, _ => none
  | n + 1, x2, x3, s0 =>
    if lg_cmp x3 0 = 0 then
      if 0 < x2 then
        (ggR s0 a0 2 0).bind fun v11 =>
        (gaJ s0 v11 (x2 + (-1))).bind fun v12 =>
        gX2_lastUpTo_L33 k56 a0 n (x2 + (-1)) v12 s0
      else
        k56 x2 x3 s0
    else
      k56 x2 x3 s0
set_option maxRecDepth 100000 in
set_option maxHeartbeats 4000000 in
theorem wX2_lastUpTo_L33 {X : Nat × (Nat → Int32)} {d : Nat} (hd : 1 ≤ d) (k56 : Int32 → Int64 → gH → Option (Int32 × gH)) (a0 : Nat) (hk56 : ∀ (x2 : Int32) (x3 : Int64) (s : gH), gGo X rvI mX2_lastUpTo d 56 [(2, vi x2), (3, vl x3)] [] s (k56 x2 x3 s)) : ∀ (n : Nat) (x2 : Int32) (x3 : Int64) (s0 : gH), gGo X rvI mX2_lastUpTo d 33 [(0, vr a0), (2, vi x2), (3, vl x3)] [] s0 (gX2_lastUpTo_L33 k56 a0 n x2 x3 s0) := by
  intro n
  induction n with
  | zero => intros; exact go_none
  | succ n ih =>
    intro x2 x3 s0
    show gGo _ _ _ _ _ _ _ _ (gX2_lastUpTo_L33 k56 a0 (n + 1) x2 x3 s0)
    unfold gX2_lastUpTo_L33
    refine go_lload_n 2 dX2_lastUpTo_33 rfl rfl ?_
    refine go_lconst (v := 0) dX2_lastUpTo_34 (by decide) ?_
    refine go_lcmp dX2_lastUpTo_35 ?_
    refine go_if_ne (tgt := 56) dX2_lastUpTo_36 (by decide) (fun h9 => ?_) (fun h9 => ?_)
    · refine go_iload_n 1 dX2_lastUpTo_39 rfl rfl ?_
      refine go_if_le (tgt := 56) dX2_lastUpTo_40 (by decide) (fun h10 => ?_) (fun h10 => ?_)
      · refine go_iinc (v := -1) (L' := [(2, vi (x2 + (-1))), (0, vr a0), (3, vl x3)]) 1 dX2_lastUpTo_43 rfl (by decide) (by decide) rfl ?_
        refine go_aload_n 1 dX2_lastUpTo_46 rfl rfl ?_
        refine go_getR gf_RX2_11 gcf_2 gft_2_0 dX2_lastUpTo_47 (fun v11 => ?_)
        refine go_iload_n 0 dX2_lastUpTo_50 rfl rfl ?_
        refine go_laload dX2_lastUpTo_51 (fun v12 _ => ?_)
        refine go_lstore_n (L' := [(3, vl v12), (2, vi (x2 + (-1))), (0, vr a0)]) dX2_lastUpTo_52 rfl (by decide) rfl ?_
        refine go_goto (tgt := 33) dX2_lastUpTo_53 (by decide) ?_
        exact go_sub [2, 1, 0] (ih (x2 + (-1)) v12 s0) rfl
      · exact go_sub [1, 2] (hk56 x2 x3 s0) rfl
    · exact go_sub [1, 2] (hk56 x2 x3 s0) rfl
def gX2_lastUpTo_L67 (k90 : Int64 → gH → Option (Int32 × gH)) (x2 : Int32) : Nat → Int64 → Int32 → gH → Option (Int32 × gH)
  | 0, _, _, _ => none
  | n + 1, x3, x5, s0 =>
    if x5 < 64 then
      glet (x3 ||| (gLushr x3 x5)) fun y19 =>
      glet (x5 * 2) fun y20 =>
      gX2_lastUpTo_L67 k90 x2 n y19 y20 s0
    else
      k90 x3 s0
set_option maxRecDepth 100000 in
set_option maxHeartbeats 4000000 in
theorem wX2_lastUpTo_L67 {X : Nat × (Nat → Int32)} {d : Nat} (hd : 1 ≤ d) (k90 : Int64 → gH → Option (Int32 × gH)) (x2 : Int32) (hk90 : ∀ (x3 : Int64) (s : gH), gGo X rvI mX2_lastUpTo d 90 [(2, vi x2), (3, vl x3)] [] s (k90 x3 s)) : ∀ (n : Nat) (x3 : Int64) (x5 : Int32) (s0 : gH), gGo X rvI mX2_lastUpTo d 67 [(2, vi x2), (3, vl x3), (5, vi x5)] [] s0 (gX2_lastUpTo_L67 k90 x2 n x3 x5 s0) := by
  intro n
  induction n with
  | zero => intros; exact go_none
  | succ n ih =>
    intro x3 x5 s0
    show gGo _ _ _ _ _ _ _ _ (gX2_lastUpTo_L67 k90 x2 (n + 1) x3 x5 s0)
    unfold gX2_lastUpTo_L67
    refine go_iload 2 dX2_lastUpTo_67 rfl ?_
    refine go_bipush (v := 64) dX2_lastUpTo_69 (by decide) ?_
    refine go_icmp_ge (tgt := 90) dX2_lastUpTo_71 (by decide) (fun h18 => ?_) (fun h18 => ?_)
    · refine go_lload_n 1 dX2_lastUpTo_74 rfl rfl ?_
      refine go_lload_n 1 dX2_lastUpTo_75 rfl rfl ?_
      refine go_iload 2 dX2_lastUpTo_76 rfl ?_
      refine go_lushr dX2_lastUpTo_78 ?_
      refine go_lor dX2_lastUpTo_79 ?_
      refine go_lstore_n_l (L' := fun y19 => [(3, vl y19), (2, vi x2), (5, vi x5)]) dX2_lastUpTo_80 rfl (by decide) (fun _ => rfl) (fun y19 => ?_)
      refine go_iload 2 dX2_lastUpTo_81 rfl ?_
      refine go_iconst (v := 2) dX2_lastUpTo_83 (by decide) ?_
      refine go_imul dX2_lastUpTo_84 ?_
      refine go_istore_l (L' := fun y20 => [(5, vi y20), (3, vl y19), (2, vi x2)]) dX2_lastUpTo_85 (by decide) (fun _ => rfl) (fun y20 => ?_)
      refine go_goto (tgt := 67) dX2_lastUpTo_87 (by decide) ?_
      exact go_sub [2, 1, 0] (ih y19 y20 s0) rfl
    · exact go_sub [0, 1] (hk90 x3 s0) rfl
def fX2_lastUpTo (a0 : Nat) (x1 : Int32) (s0 : gH) : Option (Int32 × gH) :=
  gb2 (fX11_isDay x1 s0) fun r1 s2 =>
  if r1 = 0 then
    some (-1, s2)
  else
    glet (x1 >>> (6 &&& 31)) fun y4 =>
    (ggR s2 a0 2 0).bind fun v5 =>
    (gaJ s2 v5 y4).bind fun v6 =>
    glet (v6 &&& (gLushr (-1) (63 - (x1 &&& 63)))) fun y7 =>
    gX2_lastUpTo_L33
      (fun y13 y14 s15 =>
        if lg_cmp y14 0 = 0 then
          some (-1, s15)
        else
          gX2_lastUpTo_L67
            (fun y21 s22 =>
              gb2 (fJ13_bitCount_95d88 y21 s22) fun r23 s24 =>
              some (((y13 * 64) + r23) - 1, s24))
            y13 20000 y14 1 s15)
      a0 20000 y4 y7 s2
set_option maxRecDepth 100000 in
set_option maxHeartbeats 4000000 in
theorem wX2_lastUpTo {X : Nat × (Nat → Int32)} {d : Nat} (hd : 1 ≤ d) {a0 : Nat} {x1 : Int32} {s0 : gH} : gGo X rvI mX2_lastUpTo d 0 [(0, vr a0), (1, vi x1)] [] s0 (fX2_lastUpTo a0 x1 s0) := by
  unfold fX2_lastUpTo
  refine go_iload_n 1 dX2_lastUpTo_0 rfl rfl ?_
  refine go_callSN_I (as := [vi x1]) (List.mem_of_getElem? (i := 8) rfl) gst_X11_isDay gmf_X11_isDay (by omega) rfl rfl (Nat.le_of_ble_eq_true rfl) dX2_lastUpTo_1 (fun _ _ h => cX11_isDay_c (by omega) h) (fun r1 s2 _ => ?_)
  refine go_if_ne (tgt := 9) dX2_lastUpTo_4 (by decide) (fun h3 => ?_) (fun h3 => ?_)
  · refine go_iconst (v := -1) dX2_lastUpTo_7 (by decide) ?_
    exact go_ret rfl dX2_lastUpTo_8
  · refine go_iload_n 1 dX2_lastUpTo_9 rfl rfl ?_
    refine go_bipush (v := 6) dX2_lastUpTo_10 (by decide) ?_
    refine go_ishr dX2_lastUpTo_12 ?_
    refine go_istore_n_l (L' := fun y4 => [(2, vi y4), (0, vr a0), (1, vi x1)]) dX2_lastUpTo_13 rfl (by decide) (fun _ => rfl) (fun y4 => ?_)
    refine go_aload_n 1 dX2_lastUpTo_14 rfl rfl ?_
    refine go_getR gf_RX2_11 gcf_2 gft_2_0 dX2_lastUpTo_15 (fun v5 => ?_)
    refine go_iload_n 0 dX2_lastUpTo_18 rfl rfl ?_
    refine go_laload dX2_lastUpTo_19 (fun v6 _ => ?_)
    refine go_ldc2 gcl_RX2_31 dX2_lastUpTo_20 ?_
    refine go_bipush (v := 63) dX2_lastUpTo_23 (by decide) ?_
    refine go_iload_n 2 dX2_lastUpTo_25 rfl rfl ?_
    refine go_bipush (v := 63) dX2_lastUpTo_26 (by decide) ?_
    refine go_iand dX2_lastUpTo_28 ?_
    refine go_isub dX2_lastUpTo_29 ?_
    refine go_lushr dX2_lastUpTo_30 ?_
    refine go_land dX2_lastUpTo_31 ?_
    refine go_lstore_n_l (L' := fun y7 => [(3, vl y7), (2, vi y4), (0, vr a0), (1, vi x1)]) dX2_lastUpTo_32 rfl (by decide) (fun _ => rfl) (fun y7 => ?_)
    refine go_sub [2, 1, 0] (wX2_lastUpTo_L33 hd _ a0 ?_ 20000 y4 y7 s2) rfl
    intro y13 y14 s15
    refine go_lload_n 1 dX2_lastUpTo_56 rfl rfl ?_
    refine go_lconst (v := 0) dX2_lastUpTo_57 (by decide) ?_
    refine go_lcmp dX2_lastUpTo_58 ?_
    refine go_if_ne (tgt := 64) dX2_lastUpTo_59 (by decide) (fun h16 => ?_) (fun h16 => ?_)
    · refine go_iconst (v := -1) dX2_lastUpTo_62 (by decide) ?_
      exact go_ret rfl dX2_lastUpTo_63
    · refine go_iconst (v := 1) dX2_lastUpTo_64 (by decide) ?_
      refine go_istore (L' := [(5, vi 1), (2, vi y13), (3, vl y14)]) dX2_lastUpTo_65 (by decide) rfl ?_
      refine go_sub [1, 2, 0] (wX2_lastUpTo_L67 hd _ y13 ?_ 20000 y14 1 s15) rfl
      intro y21 s22
      refine go_iload_n 0 dX2_lastUpTo_90 rfl rfl ?_
      refine go_bipush (v := 64) dX2_lastUpTo_91 (by decide) ?_
      refine go_imul dX2_lastUpTo_93 ?_
      refine go_lload_n 1 dX2_lastUpTo_94 rfl rfl ?_
      refine go_callS_I (as := [vl y21]) gk_RX2_51 gmf_J13_bitCount_95d88 (by omega) rfl rfl (Nat.le_of_ble_eq_true rfl) dX2_lastUpTo_95 (fun _ _ h => cJ13_bitCount_95d88_c (by omega) h) (fun r23 s24 _ => ?_)
      refine go_iadd dX2_lastUpTo_98 ?_
      refine go_iconst (v := 1) dX2_lastUpTo_99 (by decide) ?_
      refine go_isub dX2_lastUpTo_100 ?_
      exact go_ret rfl dX2_lastUpTo_101
set_option maxRecDepth 100000 in
set_option maxHeartbeats 4000000 in
theorem cX2_lastUpTo_c {d : Nat} (hd : 1 ≤ d) {a0 : Nat} {x1 : Int32} {s0 : gH} {r : Int32} {s1 : gH} (h : fX2_lastUpTo a0 x1 s0 = some (r, s1)) : gMt mX2_lastUpTo d [vr a0, vi x1] s0 (some (vi r)) s1 :=
  gMt_of (rv := rvI) (by decide +kernel) (Nat.le_of_ble_eq_true rfl) ⟨_, rfl, rfl⟩ (fun _ => wX2_lastUpTo hd) h
def fX11_ahead (a0 : Nat) (x1 : Int32) (x2 : Int32) (s0 : gH) : Option (Int32 × gH) :=
  (ggR s0 a0 11 3).bind fun v1 =>
  gb2 (gcv s0 v1 5 (fX5_daysOf v1 x1 s0)) fun r2 s3 =>
  if r2 = 0 then
    some (-1, s3)
  else
    if x2 < 0 then
      some (-1, s3)
    else
      if 14610 < x2 then
        some (-1, s3)
      else
        gb2 (gcv s3 r2 2 (fX2_lastUpTo r2 (x2 - 1) s3)) fun r7 s8 =>
        some (r7, s8)
set_option maxRecDepth 100000 in
set_option maxHeartbeats 4000000 in
theorem wX11_ahead {X : Nat × (Nat → Int32)} {d : Nat} (hd : 6 ≤ d) {a0 : Nat} {x1 : Int32} {x2 : Int32} {s0 : gH} : gGo X rvI mX11_ahead d 0 [(0, vr a0), (1, vi x1), (2, vi x2)] [] s0 (fX11_ahead a0 x1 x2 s0) := by
  unfold fX11_ahead
  refine go_aload_n 0 dX11_ahead_0 rfl rfl ?_
  refine go_getR gf_RX11_35 gcf_11 gft_11_3 dX11_ahead_1 (fun v1 => ?_)
  refine go_iload_n 1 dX11_ahead_4 rfl rfl ?_
  refine go_callV_R (as := [vi x1]) gk_RX11_145 gmf_X5_daysOf (by decide) rfl (by omega) rfl rfl (Nat.le_of_ble_eq_true rfl) dX11_ahead_5 (fun _ _ h => cX5_daysOf_c (by omega) h) (fun r2 s3 _ => ?_)
  refine go_astore_n (L' := [(3, vr r2), (0, vr a0), (1, vi x1), (2, vi x2)]) dX11_ahead_8 rfl (by decide) rfl ?_
  refine go_aload_n 0 dX11_ahead_9 rfl rfl ?_
  refine go_ifnull (tgt := 24) dX11_ahead_10 (by decide) (fun h4 => ?_) (fun h4 => ?_)
  · refine go_iconst (v := -1) dX11_ahead_24 (by decide) ?_
    exact go_ret rfl dX11_ahead_25
  · refine go_iload_n 3 dX11_ahead_13 rfl rfl ?_
    refine go_if_lt (tgt := 24) dX11_ahead_14 (by decide) (fun h5 => ?_) (fun h5 => ?_)
    · refine go_iconst (v := -1) dX11_ahead_24 (by decide) ?_
      exact go_ret rfl dX11_ahead_25
    · refine go_iload_n 3 dX11_ahead_17 rfl rfl ?_
      refine go_sipush (v := 14610) dX11_ahead_18 (by decide) ?_
      refine go_icmp_le (tgt := 26) dX11_ahead_21 (by decide) (fun h6 => ?_) (fun h6 => ?_)
      · refine go_iconst (v := -1) dX11_ahead_24 (by decide) ?_
        exact go_ret rfl dX11_ahead_25
      · refine go_aload_n 0 dX11_ahead_26 rfl rfl ?_
        refine go_iload_n 3 dX11_ahead_27 rfl rfl ?_
        refine go_iconst (v := 1) dX11_ahead_28 (by decide) ?_
        refine go_isub dX11_ahead_29 ?_
        refine go_callV_I (as := [vi (x2 - 1)]) gk_RX11_157 gmf_X2_lastUpTo (by decide) rfl (by omega) rfl rfl (Nat.le_of_ble_eq_true rfl) dX11_ahead_30 (fun _ _ h => cX2_lastUpTo_c (by omega) h) (fun r7 s8 _ => ?_)
        exact go_ret rfl dX11_ahead_33
set_option maxRecDepth 100000 in
set_option maxHeartbeats 4000000 in
theorem cX11_ahead_c {d : Nat} (hd : 6 ≤ d) {a0 : Nat} {x1 : Int32} {x2 : Int32} {s0 : gH} {r : Int32} {s1 : gH} (h : fX11_ahead a0 x1 x2 s0 = some (r, s1)) : gMt mX11_ahead d [vr a0, vi x1, vi x2] s0 (some (vi r)) s1 :=
  gMt_of (rv := rvI) (by decide +kernel) (Nat.le_of_ble_eq_true rfl) ⟨_, rfl, rfl⟩ (fun _ => wX11_ahead hd) h
def gX12_ahead_L26  (a0 : Nat) (x1 : Int32) : Nat → Int32 → gH → Option (Int32 × gH)
  | 0, _, _ => none
  | n + 1, x3, s0 =>
    if x3 < 0 then
      some (-1, s0)
    else
      gb2 (gcv s0 a0 12 (fX12_isOn a0 x1 x3 s0)) fun r10 s11 =>
      if r10 = 0 then
        gX12_ahead_L26 a0 x1 n (x3 + (-1)) s11
      else
        some (x3, s11)
set_option maxRecDepth 100000 in
set_option maxHeartbeats 4000000 in
theorem wX12_ahead_L26 {X : Nat × (Nat → Int32)} {d : Nat} (hd : 12 ≤ d)  (a0 : Nat) (x1 : Int32) : ∀ (n : Nat) (x3 : Int32) (s0 : gH), gGo X rvI mX12_ahead d 26 [(0, vr a0), (1, vi x1), (3, vi x3)] [] s0 (gX12_ahead_L26 a0 x1 n x3 s0) := by
  intro n
  induction n with
  | zero => intros; exact go_none
  | succ n ih =>
    intro x3 s0
    show gGo _ _ _ _ _ _ _ _ (gX12_ahead_L26 a0 x1 (n + 1) x3 s0)
    unfold gX12_ahead_L26
    refine go_iload_n 2 dX12_ahead_26 rfl rfl ?_
    refine go_if_lt (tgt := 47) dX12_ahead_27 (by decide) (fun h9 => ?_) (fun h9 => ?_)
    · refine go_iconst (v := -1) dX12_ahead_47 (by decide) ?_
      exact go_ret rfl dX12_ahead_48
    · refine go_aload_n 0 dX12_ahead_30 rfl rfl ?_
      refine go_iload_n 1 dX12_ahead_31 rfl rfl ?_
      refine go_iload_n 2 dX12_ahead_32 rfl rfl ?_
      refine go_callV_I (as := [vi x1, vi x3]) gk_RX12_437 gmf_X12_isOn (by decide) rfl (by omega) rfl rfl (Nat.le_of_ble_eq_true rfl) dX12_ahead_33 (fun _ _ h => cX12_isOn_c (by omega) h) (fun r10 s11 _ => ?_)
      refine go_if_eq (tgt := 41) dX12_ahead_36 (by decide) (fun h12 => ?_) (fun h12 => ?_)
      · refine go_iinc (v := -1) (L' := [(3, vi (x3 + (-1))), (0, vr a0), (1, vi x1)]) 2 dX12_ahead_41 rfl (by decide) (by decide) rfl ?_
        refine go_goto (tgt := 26) dX12_ahead_44 (by decide) ?_
        exact go_sub [1, 2, 0] (ih (x3 + (-1)) s11) rfl
      · refine go_iload_n 2 dX12_ahead_39 rfl rfl ?_
        exact go_ret rfl dX12_ahead_40
def fX12_ahead (a0 : Nat) (x1 : Int32) (x2 : Int32) (s0 : gH) : Option (Int32 × gH) :=
  gb2 (fX12_isIn x2.toInt64 0 14610 s0) fun r1 s2 =>
  if r1 = 0 then
    some (-1, s2)
  else
    gb2 (gcv s2 a0 12 (fX12_isAsked a0 x1 s2)) fun r4 s5 =>
    if r4 = 0 then
      some (-1, s5)
    else
      glet (x2 - 1) fun y7 =>
      gX12_ahead_L26
        a0 x1 20000 y7 s5
set_option maxRecDepth 100000 in
set_option maxHeartbeats 4000000 in
theorem wX12_ahead {X : Nat × (Nat → Int32)} {d : Nat} (hd : 12 ≤ d) {a0 : Nat} {x1 : Int32} {x2 : Int32} {s0 : gH} : gGo X rvI mX12_ahead d 0 [(0, vr a0), (1, vi x1), (2, vi x2)] [] s0 (fX12_ahead a0 x1 x2 s0) := by
  unfold fX12_ahead
  refine go_iload_n 2 dX12_ahead_0 rfl rfl ?_
  refine go_i2l dX12_ahead_1 ?_
  refine go_lconst (v := 0) dX12_ahead_2 (by decide) ?_
  refine go_ldc2 gcl_RX12_442 dX12_ahead_3 ?_
  refine go_callS_I (as := [vl x2.toInt64, vl 0, vl 14610]) gk_RX12_110 gmf_X12_isIn (by omega) rfl rfl (Nat.le_of_ble_eq_true rfl) dX12_ahead_6 (fun _ _ h => cX12_isIn_c (by omega) h) (fun r1 s2 _ => ?_)
  refine go_if_eq (tgt := 20) dX12_ahead_9 (by decide) (fun h3 => ?_) (fun h3 => ?_)
  · refine go_iconst (v := -1) dX12_ahead_20 (by decide) ?_
    exact go_ret rfl dX12_ahead_21
  · refine go_aload_n 0 dX12_ahead_12 rfl rfl ?_
    refine go_iload_n 1 dX12_ahead_13 rfl rfl ?_
    refine go_callV_I (as := [vi x1]) gk_RX12_434 gmf_X12_isAsked (by decide) rfl (by omega) rfl rfl (Nat.le_of_ble_eq_true rfl) dX12_ahead_14 (fun _ _ h => cX12_isAsked_c (by omega) h) (fun r4 s5 _ => ?_)
    refine go_if_ne (tgt := 22) dX12_ahead_17 (by decide) (fun h6 => ?_) (fun h6 => ?_)
    · refine go_iconst (v := -1) dX12_ahead_20 (by decide) ?_
      exact go_ret rfl dX12_ahead_21
    · refine go_iload_n 2 dX12_ahead_22 rfl rfl ?_
      refine go_iconst (v := 1) dX12_ahead_23 (by decide) ?_
      refine go_isub dX12_ahead_24 ?_
      refine go_istore_n_l (L' := fun y7 => [(3, vi y7), (0, vr a0), (1, vi x1), (2, vi x2)]) dX12_ahead_25 rfl (by decide) (fun _ => rfl) (fun y7 => ?_)
      refine go_sub [1, 2, 0] (wX12_ahead_L26 hd a0 x1 20000 y7 s5) rfl
set_option maxRecDepth 100000 in
set_option maxHeartbeats 4000000 in
theorem cX12_ahead_c {d : Nat} (hd : 12 ≤ d) {a0 : Nat} {x1 : Int32} {x2 : Int32} {s0 : gH} {r : Int32} {s1 : gH} (h : fX12_ahead a0 x1 x2 s0 = some (r, s1)) : gMt mX12_ahead d [vr a0, vi x1, vi x2] s0 (some (vi r)) s1 :=
  gMt_of (rv := rvI) (by decide +kernel) (Nat.le_of_ble_eq_true rfl) ⟨_, rfl, rfl⟩ (fun _ => wX12_ahead hd) h
def gX2_between_L38  (a0 : Nat) (x1 : Int32) (x2 : Int32) (x3 : Int32) (x4 : Int32) : Nat → Int32 → Int32 → gH → Option (Int32 × gH)
  | 0, _, _, _ => none
  | n + 1, x5, x6, s0 =>
    if x4 < x6 then
      some (x5, s0)
    else
      gjn (fun (z13 : Int64) (s14 : gH) =>
          gjn (fun (z16 : Int64) (s17 : gH) =>
              (ggR s17 a0 2 0).bind fun v18 =>
              (gaJ s17 v18 x6).bind fun v19 =>
              gb2 (fJ13_bitCount_95d88 ((v19 &&& z13) &&& z16) s17) fun r20 s21 =>
              glet (x5 + r20) fun y22 =>
              gX2_between_L38 a0 x1 x2 x3 x4 n y22 (x6 + 1) s21
          ) fun j15 =>
          if x6 = x4 then
            j15 (gLushr (-1) (63 - (x2 &&& 63))) s14
          else
            j15 (-1) s14
      ) fun j12 =>
      if x6 = x3 then
        j12 (gLshl (-1) (x1 &&& 63)) s0
      else
        j12 (-1) s0
set_option maxRecDepth 100000 in
set_option maxHeartbeats 4000000 in
theorem wX2_between_L38 {X : Nat × (Nat → Int32)} {d : Nat} (hd : 1 ≤ d)  (a0 : Nat) (x1 : Int32) (x2 : Int32) (x3 : Int32) (x4 : Int32) : ∀ (n : Nat) (x5 : Int32) (x6 : Int32) (s0 : gH), gGo X rvI mX2_between d 38 [(0, vr a0), (1, vi x1), (2, vi x2), (3, vi x3), (4, vi x4), (5, vi x5), (6, vi x6)] [] s0 (gX2_between_L38 a0 x1 x2 x3 x4 n x5 x6 s0) := by
  intro n
  induction n with
  | zero => intros; exact go_none
  | succ n ih =>
    intro x5 x6 s0
    show gGo _ _ _ _ _ _ _ _ (gX2_between_L38 a0 x1 x2 x3 x4 (n + 1) x5 x6 s0)
    unfold gX2_between_L38
    refine go_iload 6 dX2_between_38 rfl ?_
    refine go_iload 4 dX2_between_40 rfl ?_
    refine go_icmp_gt (tgt := 120) dX2_between_42 (by decide) (fun h11 => ?_) (fun h11 => ?_)
    · refine go_iload 5 dX2_between_120 rfl ?_
      exact go_ret rfl dX2_between_122
    · refine go_iload 6 dX2_between_45 rfl ?_
      refine go_iload_n 3 dX2_between_47 rfl rfl ?_
      refine go_gjn (P := fun j12 => ∀ (z13 : Int64) (s14 : gH), gGo X rvI mX2_between d 65 [(0, vr a0), (1, vi x1), (2, vi x2), (3, vi x3), (4, vi x4), (5, vi x5), (6, vi x6)] [vl z13] s14 (j12 z13 s14)) (fun z13 s14 => ?_) (fun j12 hj12 => ?_)
      · refine go_lstore (L' := [(7, vl z13), (0, vr a0), (1, vi x1), (2, vi x2), (3, vi x3), (4, vi x4), (5, vi x5), (6, vi x6)]) dX2_between_65 (by decide) rfl ?_
        refine go_iload 7 dX2_between_67 rfl ?_
        refine go_iload 5 dX2_between_69 rfl ?_
        refine go_gjn (P := fun j15 => ∀ (z16 : Int64) (s17 : gH), gGo X rvI mX2_between d 91 [(0, vr a0), (1, vi x1), (2, vi x2), (3, vi x3), (4, vi x4), (5, vi x5), (6, vi x6), (7, vl z13)] [vl z16] s17 (j15 z16 s17)) (fun z16 s17 => ?_) (fun j15 hj15 => ?_)
        · refine go_lstore (L' := [(9, vl z16), (0, vr a0), (1, vi x1), (2, vi x2), (3, vi x3), (4, vi x4), (5, vi x5), (6, vi x6), (7, vl z13)]) dX2_between_91 (by decide) rfl ?_
          refine go_iload 6 dX2_between_93 rfl ?_
          refine go_aload_n 1 dX2_between_95 rfl rfl ?_
          refine go_getR gf_RX2_11 gcf_2 gft_2_0 dX2_between_96 (fun v18 => ?_)
          refine go_iload 7 dX2_between_99 rfl ?_
          refine go_laload dX2_between_101 (fun v19 _ => ?_)
          refine go_lload 8 dX2_between_102 rfl ?_
          refine go_land dX2_between_104 ?_
          refine go_lload 0 dX2_between_105 rfl ?_
          refine go_land dX2_between_107 ?_
          refine go_callS_I (as := [vl ((v19 &&& z13) &&& z16)]) gk_RX2_51 gmf_J13_bitCount_95d88 (by omega) rfl rfl (Nat.le_of_ble_eq_true rfl) dX2_between_108 (fun _ _ h => cJ13_bitCount_95d88_c (by omega) h) (fun r20 s21 _ => ?_)
          refine go_iadd dX2_between_111 ?_
          refine go_istore_l (L' := fun y22 => [(5, vi y22), (9, vl z16), (0, vr a0), (1, vi x1), (2, vi x2), (3, vi x3), (4, vi x4), (6, vi x6), (7, vl z13)]) dX2_between_112 (by decide) (fun _ => rfl) (fun y22 => ?_)
          refine go_iinc (v := 1) (L' := [(6, vi (x6 + 1)), (5, vi y22), (9, vl z16), (0, vr a0), (1, vi x1), (2, vi x2), (3, vi x3), (4, vi x4), (7, vl z13)]) 7 dX2_between_114 rfl (by decide) (by decide) rfl ?_
          refine go_goto (tgt := 38) dX2_between_117 (by decide) ?_
          exact go_sub [3, 4, 5, 6, 7, 1, 0] (ih y22 (x6 + 1) s21) rfl
        · refine go_icmp_ne (tgt := 88) dX2_between_71 (by decide) (fun h23 => ?_) (fun h23 => ?_)
          · refine go_ldc2 gcl_RX2_31 dX2_between_74 ?_
            refine go_bipush (v := 63) dX2_between_77 (by decide) ?_
            refine go_iload_n 3 dX2_between_79 rfl rfl ?_
            refine go_bipush (v := 63) dX2_between_80 (by decide) ?_
            refine go_iand dX2_between_82 ?_
            refine go_isub dX2_between_83 ?_
            refine go_lushr dX2_between_84 ?_
            refine go_goto (tgt := 91) dX2_between_85 (by decide) ?_
            exact go_sub [1, 2, 3, 4, 5, 6, 7, 0] (hj15 (gLushr (-1) (63 - (x2 &&& 63))) s14) rfl
          · refine go_ldc2 gcl_RX2_31 dX2_between_88 ?_
            exact go_sub [1, 2, 3, 4, 5, 6, 7, 0] (hj15 (-1) s14) rfl
      · refine go_icmp_ne (tgt := 62) dX2_between_48 (by decide) (fun h24 => ?_) (fun h24 => ?_)
        · refine go_ldc2 gcl_RX2_31 dX2_between_51 ?_
          refine go_iload_n 1 dX2_between_54 rfl rfl ?_
          refine go_bipush (v := 63) dX2_between_55 (by decide) ?_
          refine go_iand dX2_between_57 ?_
          refine go_lshl dX2_between_58 ?_
          refine go_goto (tgt := 65) dX2_between_59 (by decide) ?_
          exact go_sub [0, 1, 2, 3, 4, 5, 6] (hj12 (gLshl (-1) (x1 &&& 63)) s0) rfl
        · refine go_ldc2 gcl_RX2_31 dX2_between_62 ?_
          exact go_sub [0, 1, 2, 3, 4, 5, 6] (hj12 (-1) s0) rfl
def fX2_between (a0 : Nat) (x1 : Int32) (x2 : Int32) (s0 : gH) : Option (Int32 × gH) :=
  gb2 (fX11_isDay x1 s0) fun r1 s2 =>
  if r1 = 0 then
    some (0, s2)
  else
    gb2 (fX11_isDay x2 s2) fun r4 s5 =>
    if r4 = 0 then
      some (0, s5)
    else
      if x2 < x1 then
        some (0, s5)
      else
        glet (x1 >>> (6 &&& 31)) fun y8 =>
        glet (x2 >>> (6 &&& 31)) fun y9 =>
        gX2_between_L38
          a0 x1 x2 y8 y9 20000 0 y8 s5
set_option maxRecDepth 100000 in
set_option maxHeartbeats 4000000 in
theorem wX2_between {X : Nat × (Nat → Int32)} {d : Nat} (hd : 1 ≤ d) {a0 : Nat} {x1 : Int32} {x2 : Int32} {s0 : gH} : gGo X rvI mX2_between d 0 [(0, vr a0), (1, vi x1), (2, vi x2)] [] s0 (fX2_between a0 x1 x2 s0) := by
  unfold fX2_between
  refine go_iload_n 1 dX2_between_0 rfl rfl ?_
  refine go_callSN_I (as := [vi x1]) (List.mem_of_getElem? (i := 8) rfl) gst_X11_isDay gmf_X11_isDay (by omega) rfl rfl (Nat.le_of_ble_eq_true rfl) dX2_between_1 (fun _ _ h => cX11_isDay_c (by omega) h) (fun r1 s2 _ => ?_)
  refine go_if_eq (tgt := 19) dX2_between_4 (by decide) (fun h3 => ?_) (fun h3 => ?_)
  · refine go_iconst (v := 0) dX2_between_19 (by decide) ?_
    exact go_ret rfl dX2_between_20
  · refine go_iload_n 2 dX2_between_7 rfl rfl ?_
    refine go_callSN_I (as := [vi x2]) (List.mem_of_getElem? (i := 8) rfl) gst_X11_isDay gmf_X11_isDay (by omega) rfl rfl (Nat.le_of_ble_eq_true rfl) dX2_between_8 (fun _ _ h => cX11_isDay_c (by omega) h) (fun r4 s5 _ => ?_)
    refine go_if_eq (tgt := 19) dX2_between_11 (by decide) (fun h6 => ?_) (fun h6 => ?_)
    · refine go_iconst (v := 0) dX2_between_19 (by decide) ?_
      exact go_ret rfl dX2_between_20
    · refine go_iload_n 1 dX2_between_14 rfl rfl ?_
      refine go_iload_n 2 dX2_between_15 rfl rfl ?_
      refine go_icmp_le (tgt := 21) dX2_between_16 (by decide) (fun h7 => ?_) (fun h7 => ?_)
      · refine go_iconst (v := 0) dX2_between_19 (by decide) ?_
        exact go_ret rfl dX2_between_20
      · refine go_iload_n 1 dX2_between_21 rfl rfl ?_
        refine go_bipush (v := 6) dX2_between_22 (by decide) ?_
        refine go_ishr dX2_between_24 ?_
        refine go_istore_n_l (L' := fun y8 => [(3, vi y8), (0, vr a0), (1, vi x1), (2, vi x2)]) dX2_between_25 rfl (by decide) (fun _ => rfl) (fun y8 => ?_)
        refine go_iload_n 3 dX2_between_26 rfl rfl ?_
        refine go_bipush (v := 6) dX2_between_27 (by decide) ?_
        refine go_ishr dX2_between_29 ?_
        refine go_istore_l (L' := fun y9 => [(4, vi y9), (3, vi y8), (0, vr a0), (1, vi x1), (2, vi x2)]) dX2_between_30 (by decide) (fun _ => rfl) (fun y9 => ?_)
        refine go_iconst (v := 0) dX2_between_32 (by decide) ?_
        refine go_istore (L' := [(5, vi 0), (4, vi y9), (3, vi y8), (0, vr a0), (1, vi x1), (2, vi x2)]) dX2_between_33 (by decide) rfl ?_
        refine go_iload_n 2 dX2_between_35 rfl rfl ?_
        refine go_istore (L' := [(6, vi y8), (5, vi 0), (4, vi y9), (3, vi y8), (0, vr a0), (1, vi x1), (2, vi x2)]) dX2_between_36 (by decide) rfl ?_
        refine go_sub [4, 5, 6, 3, 2, 1, 0] (wX2_between_L38 hd a0 x1 x2 y8 y9 20000 0 y8 s5) rfl
set_option maxRecDepth 100000 in
set_option maxHeartbeats 4000000 in
theorem cX2_between_c {d : Nat} (hd : 1 ≤ d) {a0 : Nat} {x1 : Int32} {x2 : Int32} {s0 : gH} {r : Int32} {s1 : gH} (h : fX2_between a0 x1 x2 s0 = some (r, s1)) : gMt mX2_between d [vr a0, vi x1, vi x2] s0 (some (vi r)) s1 :=
  gMt_of (rv := rvI) (by decide +kernel) (Nat.le_of_ble_eq_true rfl) ⟨_, rfl, rfl⟩ (fun _ => wX2_between hd) h
