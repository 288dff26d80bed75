/-! walks, written by a program -/
def fJ13_bitCount_95d88 (x0 : Int64) (s0 : gH) : Option (Int32 × gH) :=
  glet (x0 - ((gLushr x0 1) &&& 6148914691236517205)) fun y1 =>
  glet ((y1 &&& 3689348814741910323) + ((gLushr y1 2) &&& 3689348814741910323)) fun y2 =>
  glet ((y2 + (gLushr y2 4)) &&& 1085102592571150095) fun y3 =>
  glet (y3 + (gLushr y3 8)) fun y4 =>
  glet (y4 + (gLushr y4 16)) fun y5 =>
  glet (y5 + (gLushr y5 32)) fun y6 =>
  some (y6.toInt32 &&& 127, s0)
set_option maxRecDepth 100000 in
set_option maxHeartbeats 4000000 in
theorem wJ13_bitCount_95d88 {X : Nat × (Nat → Int32)} {d : Nat} (hd : 0 ≤ d) {x0 : Int64} {s0 : gH} : gGo X rvI mJ13_bitCount_95d88 d 0 [(0, vl x0)] [] s0 (fJ13_bitCount_95d88 x0 s0) := by
  unfold fJ13_bitCount_95d88
  refine go_lload_n 0 dJ13_bitCount_95d88_0 rfl rfl ?_
  refine go_lload_n 0 dJ13_bitCount_95d88_1 rfl rfl ?_
  refine go_iconst (v := 1) dJ13_bitCount_95d88_2 (by decide) ?_
  refine go_lushr dJ13_bitCount_95d88_3 ?_
  refine go_ldc2 gcl_RJ13_314 dJ13_bitCount_95d88_4 ?_
  refine go_land dJ13_bitCount_95d88_7 ?_
  refine go_lsub dJ13_bitCount_95d88_8 ?_
  refine go_lstore_n_l (L' := fun y1 => [(0, vl y1)]) dJ13_bitCount_95d88_9 rfl (by decide) (fun _ => rfl) (fun y1 => ?_)
  refine go_lload_n 0 dJ13_bitCount_95d88_10 rfl rfl ?_
  refine go_ldc2 gcl_RJ13_316 dJ13_bitCount_95d88_11 ?_
  refine go_land dJ13_bitCount_95d88_14 ?_
  refine go_lload_n 0 dJ13_bitCount_95d88_15 rfl rfl ?_
  refine go_iconst (v := 2) dJ13_bitCount_95d88_16 (by decide) ?_
  refine go_lushr dJ13_bitCount_95d88_17 ?_
  refine go_ldc2 gcl_RJ13_316 dJ13_bitCount_95d88_18 ?_
  refine go_land dJ13_bitCount_95d88_21 ?_
  refine go_ladd dJ13_bitCount_95d88_22 ?_
  refine go_lstore_n_l (L' := fun y2 => [(0, vl y2)]) dJ13_bitCount_95d88_23 rfl (by decide) (fun _ => rfl) (fun y2 => ?_)
  refine go_lload_n 0 dJ13_bitCount_95d88_24 rfl rfl ?_
  refine go_lload_n 0 dJ13_bitCount_95d88_25 rfl rfl ?_
  refine go_iconst (v := 4) dJ13_bitCount_95d88_26 (by decide) ?_
  refine go_lushr dJ13_bitCount_95d88_27 ?_
  refine go_ladd dJ13_bitCount_95d88_28 ?_
  refine go_ldc2 gcl_RJ13_318 dJ13_bitCount_95d88_29 ?_
  refine go_land dJ13_bitCount_95d88_32 ?_
  refine go_lstore_n_l (L' := fun y3 => [(0, vl y3)]) dJ13_bitCount_95d88_33 rfl (by decide) (fun _ => rfl) (fun y3 => ?_)
  refine go_lload_n 0 dJ13_bitCount_95d88_34 rfl rfl ?_
  refine go_lload_n 0 dJ13_bitCount_95d88_35 rfl rfl ?_
  refine go_bipush (v := 8) dJ13_bitCount_95d88_36 (by decide) ?_
  refine go_lushr dJ13_bitCount_95d88_38 ?_
  refine go_ladd dJ13_bitCount_95d88_39 ?_
  refine go_lstore_n_l (L' := fun y4 => [(0, vl y4)]) dJ13_bitCount_95d88_40 rfl (by decide) (fun _ => rfl) (fun y4 => ?_)
  refine go_lload_n 0 dJ13_bitCount_95d88_41 rfl rfl ?_
  refine go_lload_n 0 dJ13_bitCount_95d88_42 rfl rfl ?_
  refine go_bipush (v := 16) dJ13_bitCount_95d88_43 (by decide) ?_
  refine go_lushr dJ13_bitCount_95d88_45 ?_
  refine go_ladd dJ13_bitCount_95d88_46 ?_
  refine go_lstore_n_l (L' := fun y5 => [(0, vl y5)]) dJ13_bitCount_95d88_47 rfl (by decide) (fun _ => rfl) (fun y5 => ?_)
  refine go_lload_n 0 dJ13_bitCount_95d88_48 rfl rfl ?_
  refine go_lload_n 0 dJ13_bitCount_95d88_49 rfl rfl ?_
  refine go_bipush (v := 32) dJ13_bitCount_95d88_50 (by decide) ?_
  refine go_lushr dJ13_bitCount_95d88_52 ?_
  refine go_ladd dJ13_bitCount_95d88_53 ?_
  refine go_lstore_n_l (L' := fun y6 => [(0, vl y6)]) dJ13_bitCount_95d88_54 rfl (by decide) (fun _ => rfl) (fun y6 => ?_)
  refine go_lload_n 0 dJ13_bitCount_95d88_55 rfl rfl ?_
  refine go_l2i dJ13_bitCount_95d88_56 ?_
  refine go_bipush (v := 127) dJ13_bitCount_95d88_57 (by decide) ?_
  refine go_iand dJ13_bitCount_95d88_59 ?_
  exact go_ret rfl dJ13_bitCount_95d88_60
set_option maxRecDepth 100000 in
set_option maxHeartbeats 4000000 in
theorem cJ13_bitCount_95d88_c {d : Nat} (hd : 0 ≤ d) {x0 : Int64} {s0 : gH} {r : Int32} {s1 : gH} (h : fJ13_bitCount_95d88 x0 s0 = some (r, s1)) : gMt mJ13_bitCount_95d88 d [vl x0] s0 (some (vi r)) s1 :=
  gMt_of (rv := rvI) (by decide +kernel) (Nat.le_of_ble_eq_true rfl) ⟨_, rfl, rfl⟩ (fun _ => wJ13_bitCount_95d88 hd) h
def gJ7_fill_53178_L5  (a0 : Nat) (x1 : Int32) (x3 : Int32) : Nat → Int32 → gH → Option (Unit × gH)
  | 0, _, _ => none
  | n + 1, x2, s0 =>
    if x2 < x3 then
      (saI s0 a0 2 x2 x1).bind fun s4 =>
      gJ7_fill_53178_L5 a0 x1 x3 n (x2 + 1) s4
    else
      some ((), s0)
set_option maxRecDepth 100000 in
set_option maxHeartbeats 4000000 in
theorem wJ7_fill_53178_L5 {X : Nat × (Nat → Int32)} {d : Nat} (hd : 0 ≤ d)  (a0 : Nat) (x1 : Int32) (x3 : Int32) : ∀ (n : Nat) (x2 : Int32) (s0 : gH), gGo X rvU mJ7_fill_53178 d 5 [(0, vr a0), (1, vi x1), (2, vi x2), (3, vi x3)] [] s0 (gJ7_fill_53178_L5 a0 x1 x3 n x2 s0) := by
  intro n
  induction n with
  | zero => intros; exact go_none
  | succ n ih =>
    intro x2 s0
    show gGo _ _ _ _ _ _ _ _ (gJ7_fill_53178_L5 a0 x1 x3 (n + 1) x2 s0)
    unfold gJ7_fill_53178_L5
    refine go_iload_n 2 dJ7_fill_53178_5 rfl rfl ?_
    refine go_iload_n 3 dJ7_fill_53178_6 rfl rfl ?_
    refine go_icmp_ge (tgt := 20) dJ7_fill_53178_7 (by decide) (fun h3 => ?_) (fun h3 => ?_)
    · refine go_aload_n 0 dJ7_fill_53178_10 rfl rfl ?_
      refine go_iload_n 2 dJ7_fill_53178_11 rfl rfl ?_
      refine go_iload_n 1 dJ7_fill_53178_12 rfl rfl ?_
      refine go_iastore dJ7_fill_53178_13 (fun s4 _ => ?_)
      refine go_iinc (v := 1) (L' := [(2, vi (x2 + 1)), (0, vr a0), (1, vi x1), (3, vi x3)]) 2 dJ7_fill_53178_14 rfl (by decide) (by decide) rfl ?_
      refine go_goto (tgt := 5) dJ7_fill_53178_17 (by decide) ?_
      exact go_sub [1, 2, 0, 3] (ih (x2 + 1) s4) rfl
    · exact go_retv rfl dJ7_fill_53178_20
def fJ7_fill_53178 (a0 : Nat) (x1 : Int32) (s0 : gH) : Option (Unit × gH) :=
  (glen s0 a0).bind fun v1 =>
  gJ7_fill_53178_L5
    a0 x1 v1 20000 0 s0
set_option maxRecDepth 100000 in
set_option maxHeartbeats 4000000 in
theorem wJ7_fill_53178 {X : Nat × (Nat → Int32)} {d : Nat} (hd : 0 ≤ d) {a0 : Nat} {x1 : Int32} {s0 : gH} : gGo X rvU mJ7_fill_53178 d 0 [(0, vr a0), (1, vi x1)] [] s0 (fJ7_fill_53178 a0 x1 s0) := by
  unfold fJ7_fill_53178
  refine go_iconst (v := 0) dJ7_fill_53178_0 (by decide) ?_
  refine go_istore_n (L' := [(2, vi 0), (0, vr a0), (1, vi x1)]) dJ7_fill_53178_1 rfl (by decide) rfl ?_
  refine go_aload_n 1 dJ7_fill_53178_2 rfl rfl ?_
  refine go_alen dJ7_fill_53178_3 (fun v1 _ => ?_)
  refine go_istore_n (L' := [(3, vi v1), (2, vi 0), (0, vr a0), (1, vi x1)]) dJ7_fill_53178_4 rfl (by decide) rfl ?_
  refine go_sub [2, 3, 1, 0] (wJ7_fill_53178_L5 hd a0 x1 v1 20000 0 s0) rfl
set_option maxRecDepth 100000 in
set_option maxHeartbeats 4000000 in
theorem cJ7_fill_53178_c {d : Nat} (hd : 0 ≤ d) {a0 : Nat} {x1 : Int32} {s0 : gH} {r : Unit} {s1 : gH} (h : fJ7_fill_53178 a0 x1 s0 = some (r, s1)) : gMt mJ7_fill_53178 d [vr a0, vi x1] s0 none s1 :=
  gMt_of (rv := rvU) (by decide +kernel) (Nat.le_of_ble_eq_true rfl) rfl (fun _ => wJ7_fill_53178 hd) h
def gJ7_fill_d0a16_L6  (a0 : Nat) (x1 : Int64) (x4 : Int32) : Nat → Int32 → gH → Option (Unit × gH)
  | 0, _, _ => none
  | n + 1, x3, s0 =>
    if x3 < x4 then
      (saJ s0 a0 x3 x1).bind fun s4 =>
      gJ7_fill_d0a16_L6 a0 x1 x4 n (x3 + 1) s4
    else
      some ((), s0)
set_option maxRecDepth 100000 in
set_option maxHeartbeats 4000000 in
theorem wJ7_fill_d0a16_L6 {X : Nat × (Nat → Int32)} {d : Nat} (hd : 0 ≤ d)  (a0 : Nat) (x1 : Int64) (x4 : Int32) : ∀ (n : Nat) (x3 : Int32) (s0 : gH), gGo X rvU mJ7_fill_d0a16 d 6 [(0, vr a0), (1, vl x1), (3, vi x3), (4, vi x4)] [] s0 (gJ7_fill_d0a16_L6 a0 x1 x4 n x3 s0) := by
  intro n
  induction n with
  | zero => intros; exact go_none
  | succ n ih =>
    intro x3 s0
    show gGo _ _ _ _ _ _ _ _ (gJ7_fill_d0a16_L6 a0 x1 x4 (n + 1) x3 s0)
    unfold gJ7_fill_d0a16_L6
    refine go_iload_n 2 dJ7_fill_d0a16_6 rfl rfl ?_
    refine go_iload 3 dJ7_fill_d0a16_7 rfl ?_
    refine go_icmp_ge (tgt := 22) dJ7_fill_d0a16_9 (by decide) (fun h3 => ?_) (fun h3 => ?_)
    · refine go_aload_n 0 dJ7_fill_d0a16_12 rfl rfl ?_
      refine go_iload_n 2 dJ7_fill_d0a16_13 rfl rfl ?_
      refine go_lload_n 1 dJ7_fill_d0a16_14 rfl rfl ?_
      refine go_lastore dJ7_fill_d0a16_15 (fun s4 _ => ?_)
      refine go_iinc (v := 1) (L' := [(3, vi (x3 + 1)), (0, vr a0), (1, vl x1), (4, vi x4)]) 2 dJ7_fill_d0a16_16 rfl (by decide) (by decide) rfl ?_
      refine go_goto (tgt := 6) dJ7_fill_d0a16_19 (by decide) ?_
      exact go_sub [1, 2, 0, 3] (ih (x3 + 1) s4) rfl
    · exact go_retv rfl dJ7_fill_d0a16_22
def fJ7_fill_d0a16 (a0 : Nat) (x1 : Int64) (s0 : gH) : Option (Unit × gH) :=
  (glen s0 a0).bind fun v1 =>
  gJ7_fill_d0a16_L6
    a0 x1 v1 20000 0 s0
set_option maxRecDepth 100000 in
set_option maxHeartbeats 4000000 in
theorem wJ7_fill_d0a16 {X : Nat × (Nat → Int32)} {d : Nat} (hd : 0 ≤ d) {a0 : Nat} {x1 : Int64} {s0 : gH} : gGo X rvU mJ7_fill_d0a16 d 0 [(0, vr a0), (1, vl x1)] [] s0 (fJ7_fill_d0a16 a0 x1 s0) := by
  unfold fJ7_fill_d0a16
  refine go_iconst (v := 0) dJ7_fill_d0a16_0 (by decide) ?_
  refine go_istore_n (L' := [(3, vi 0), (0, vr a0), (1, vl x1)]) dJ7_fill_d0a16_1 rfl (by decide) rfl ?_
  refine go_aload_n 1 dJ7_fill_d0a16_2 rfl rfl ?_
  refine go_alen dJ7_fill_d0a16_3 (fun v1 _ => ?_)
  refine go_istore (L' := [(4, vi v1), (3, vi 0), (0, vr a0), (1, vl x1)]) dJ7_fill_d0a16_4 (by decide) rfl ?_
  refine go_sub [2, 3, 1, 0] (wJ7_fill_d0a16_L6 hd a0 x1 v1 20000 0 s0) rfl
set_option maxRecDepth 100000 in
set_option maxHeartbeats 4000000 in
theorem cJ7_fill_d0a16_c {d : Nat} (hd : 0 ≤ d) {a0 : Nat} {x1 : Int64} {s0 : gH} {r : Unit} {s1 : gH} (h : fJ7_fill_d0a16 a0 x1 s0 = some (r, s1)) : gMt mJ7_fill_d0a16 d [vr a0, vl x1] s0 none s1 :=
  gMt_of (rv := rvU) (by decide +kernel) (Nat.le_of_ble_eq_true rfl) rfl (fun _ => wJ7_fill_d0a16 hd) h
def fX10_init (a0 : Nat) (s0 : gH) : Option (Unit × gH) :=
  if a0 = 0 then none else
  gmka s0 0 1600 fun r1 s2 =>
  (spR s2 a0 10 0 r1).bind fun s3 =>
  some ((), s3)
set_option maxRecDepth 100000 in
set_option maxHeartbeats 4000000 in
theorem wX10_init {X : Nat × (Nat → Int32)} {d : Nat} (hd : 1 ≤ d) {a0 : Nat} {s0 : gH} : gGo X rvU mX10_init d 0 [(0, vr a0)] [] s0 (fX10_init a0 s0) := by
  unfold fX10_init
  refine go_aload_n 0 dX10_init_0 rfl rfl ?_
  refine go_objz go_RX10_3 gob_1 gob_2 (Nat.le_of_ble_eq_true rfl) dX10_init_1 (fun ha0 => ?_)
  refine go_aload_n 0 dX10_init_4 rfl rfl ?_
  refine go_sipush (v := 1600) dX10_init_5 (by decide) ?_
  refine go_mka (t := 0) (by decide) gac_0 dX10_init_8 (fun r1 s2 => ?_)
  refine go_putR gf_RX10_9 gcf_10 (gpf_10_0 rfl rfl) (Or.inr ⟨_, rfl⟩) gft_10_0 dX10_init_10 (fun s3 _ => ?_)
  exact go_retv rfl dX10_init_13
set_option maxRecDepth 100000 in
set_option maxHeartbeats 4000000 in
theorem cX10_init_c {d : Nat} (hd : 1 ≤ d) {a0 : Nat} {s0 : gH} {r : Unit} {s1 : gH} (h : fX10_init a0 s0 = some (r, s1)) : gMt mX10_init d [vr a0] s0 none s1 :=
  gMt_of (rv := rvU) (by decide +kernel) (Nat.le_of_ble_eq_true rfl) rfl (fun _ => wX10_init hd) h
def fX7_init (a0 : Nat) (x1 : Int32) (s0 : gH) : Option (Unit × gH) :=
  if a0 = 0 then none else
  gmka s0 2 (gmax 0 x1) fun r1 s2 =>
  (spR s2 a0 7 0 r1).bind fun s3 =>
  some ((), s3)
set_option maxRecDepth 100000 in
set_option maxHeartbeats 4000000 in
theorem wX7_init {X : Nat × (Nat → Int32)} {d : Nat} (hd : 1 ≤ d) {a0 : Nat} {x1 : Int32} {s0 : gH} : gGo X rvU mX7_init d 0 [(0, vr a0), (1, vi x1)] [] s0 (fX7_init a0 x1 s0) := by
  unfold fX7_init
  refine go_aload_n 0 dX7_init_0 rfl rfl ?_
  refine go_objz go_RX7_3 gob_1 gob_2 (Nat.le_of_ble_eq_true rfl) dX7_init_1 (fun ha0 => ?_)
  refine go_aload_n 0 dX7_init_4 rfl rfl ?_
  refine go_iconst (v := 0) dX7_init_5 (by decide) ?_
  refine go_iload_n 1 dX7_init_6 rfl rfl ?_
  refine go_mmax gk_RX7_9.1 gmm_max2 gmm_3 gmm_max4 (Nat.le_of_ble_eq_true rfl) dX7_init_7 ?_
  refine go_mka (t := 2) (by decide) gac_2 dX7_init_10 (fun r1 s2 => ?_)
  refine go_putR gf_RX7_15 gcf_7 (gpf_7_0 rfl rfl) (Or.inr ⟨_, rfl⟩) gft_7_0 dX7_init_12 (fun s3 _ => ?_)
  exact go_retv rfl dX7_init_15
set_option maxRecDepth 100000 in
set_option maxHeartbeats 4000000 in
theorem cX7_init_c {d : Nat} (hd : 1 ≤ d) {a0 : Nat} {x1 : Int32} {s0 : gH} {r : Unit} {s1 : gH} (h : fX7_init a0 x1 s0 = some (r, s1)) : gMt mX7_init d [vr a0, vi x1] s0 none s1 :=
  gMt_of (rv := rvU) (by decide +kernel) (Nat.le_of_ble_eq_true rfl) rfl (fun _ => wX7_init hd) h
def fX6_init (a0 : Nat) (s0 : gH) : Option (Unit × gH) :=
  if a0 = 0 then none else
  (spI s0 a0 6 1 (-1)).bind fun s1 =>
  gmka s1 0 0 fun r2 s3 =>
  (spR s3 a0 6 2 r2).bind fun s4 =>
  gmk s4 7 fun r5 s6 =>
  gb2 (fX7_init r5 8 s6) fun r7 s8 =>
  (spR s8 a0 6 8 r5).bind fun s9 =>
  some ((), s9)
set_option maxRecDepth 100000 in
set_option maxHeartbeats 4000000 in
theorem wX6_init {X : Nat × (Nat → Int32)} {d : Nat} (hd : 2 ≤ d) {a0 : Nat} {s0 : gH} : gGo X rvU mX6_init d 0 [(0, vr a0)] [] s0 (fX6_init a0 s0) := by
  unfold fX6_init
  refine go_aload_n 0 dX6_init_0 rfl rfl ?_
  refine go_objz go_RX6_3 gob_1 gob_2 (Nat.le_of_ble_eq_true rfl) dX6_init_1 (fun ha0 => ?_)
  refine go_aload_n 0 dX6_init_4 rfl rfl ?_
  refine go_iconst (v := -1) dX6_init_5 (by decide) ?_
  refine go_putI gf_RX6_9 gcf_6 gpl_6_1 gft_6_1 dX6_init_6 (fun s1 _ => ?_)
  refine go_aload_n 0 dX6_init_9 rfl rfl ?_
  refine go_iconst (v := 0) dX6_init_10 (by decide) ?_
  refine go_mka (t := 0) (by decide) gac_0 dX6_init_11 (fun r2 s3 => ?_)
  refine go_putR gf_RX6_15 gcf_6 gpl_6_2 (Or.inr ⟨_, rfl⟩) gft_6_2 dX6_init_13 (fun s4 _ => ?_)
  refine go_aload_n 0 dX6_init_16 rfl rfl ?_
  refine go_mk gn_RX6_19 gcf_7 gcd_7 dX6_init_17 (fun r5 s6 hr5 => ?_)
  refine go_dup dX6_init_20 rfl ?_
  refine go_bipush (v := 8) dX6_init_21 (by decide) ?_
  refine go_callI_v (as := [vi 8]) hr5 gk_RX6_21 rfl gmf_X7_init (by omega) rfl rfl (Nat.le_of_ble_eq_true rfl) dX6_init_23 (fun _ _ h => cX7_init_c (by omega) h) (fun r7 s8 _ => ?_)
  refine go_putR gf_RX6_24 gcf_6 (gpf_6_8 rfl rfl) (Or.inl ⟨_, rfl⟩) gft_6_8 dX6_init_26 (fun s9 _ => ?_)
  exact go_retv rfl dX6_init_29
set_option maxRecDepth 100000 in
set_option maxHeartbeats 4000000 in
theorem cX6_init_c {d : Nat} (hd : 2 ≤ d) {a0 : Nat} {s0 : gH} {r : Unit} {s1 : gH} (h : fX6_init a0 s0 = some (r, s1)) : gMt mX6_init d [vr a0] s0 none s1 :=
  gMt_of (rv := rvU) (by decide +kernel) (Nat.le_of_ble_eq_true rfl) rfl (fun _ => wX6_init hd) h
def fX0_init (a0 : Nat) (s0 : gH) : Option (Unit × gH) :=
  if a0 = 0 then none else
  some ((), s0)
set_option maxRecDepth 100000 in
set_option maxHeartbeats 4000000 in
theorem wX0_init {X : Nat × (Nat → Int32)} {d : Nat} (hd : 1 ≤ d) {a0 : Nat} {s0 : gH} : gGo X rvU mX0_init d 0 [(0, vr a0)] [] s0 (fX0_init a0 s0) := by
  unfold fX0_init
  refine go_aload_n 0 dX0_init_0 rfl rfl ?_
  refine go_objz go_RX0_3 gob_1 gob_2 (Nat.le_of_ble_eq_true rfl) dX0_init_1 (fun ha0 => ?_)
  exact go_retv rfl dX0_init_4
set_option maxRecDepth 100000 in
set_option maxHeartbeats 4000000 in
theorem cX0_init_c {d : Nat} (hd : 1 ≤ d) {a0 : Nat} {s0 : gH} {r : Unit} {s1 : gH} (h : fX0_init a0 s0 = some (r, s1)) : gMt mX0_init d [vr a0] s0 none s1 :=
  gMt_of (rv := rvU) (by decide +kernel) (Nat.le_of_ble_eq_true rfl) rfl (fun _ => wX0_init hd) h
def fX3_init (a0 : Nat) (s0 : gH) : Option (Unit × gH) :=
  if a0 = 0 then none else
  gmk s0 0 fun r1 s2 =>
  gb2 (fX0_init r1 s2) fun r3 s4 =>
  (spR s4 a0 3 0 r1).bind fun s5 =>
  gmka s5 2 366 fun r6 s7 =>
  (spR s7 a0 3 1 r6).bind fun s8 =>
  some ((), s8)
set_option maxRecDepth 100000 in
set_option maxHeartbeats 4000000 in
theorem wX3_init {X : Nat × (Nat → Int32)} {d : Nat} (hd : 2 ≤ d) {a0 : Nat} {s0 : gH} : gGo X rvU mX3_init d 0 [(0, vr a0)] [] s0 (fX3_init a0 s0) := by
  unfold fX3_init
  refine go_aload_n 0 dX3_init_0 rfl rfl ?_
  refine go_objz go_RX3_3 gob_1 gob_2 (Nat.le_of_ble_eq_true rfl) dX3_init_1 (fun ha0 => ?_)
  refine go_aload_n 0 dX3_init_4 rfl rfl ?_
  refine go_mk gn_RX3_9 gcf_0 gcd_0 dX3_init_5 (fun r1 s2 hr1 => ?_)
  refine go_dup dX3_init_8 rfl ?_
  refine go_callIN_v (as := []) hr1 (List.mem_of_getElem? (i := 3) rfl) gim_X0_init rfl rfl gmf_X0_init (by omega) rfl rfl (Nat.le_of_ble_eq_true rfl) dX3_init_9 (fun _ _ h => cX0_init_c (by omega) h) (fun r3 s4 _ => ?_)
  refine go_putR gf_RX3_12 gcf_3 (gpf_3_0 rfl rfl) (Or.inl ⟨_, rfl⟩) gft_3_0 dX3_init_12 (fun s5 _ => ?_)
  refine go_aload_n 0 dX3_init_15 rfl rfl ?_
  refine go_sipush (v := 366) dX3_init_16 (by decide) ?_
  refine go_mka (t := 2) (by decide) gac_2 dX3_init_19 (fun r6 s7 => ?_)
  refine go_putR gf_RX3_18 gcf_3 (gpf_3_1 rfl rfl) (Or.inr ⟨_, rfl⟩) gft_3_1 dX3_init_21 (fun s8 _ => ?_)
  exact go_retv rfl dX3_init_24
set_option maxRecDepth 100000 in
set_option maxHeartbeats 4000000 in
theorem cX3_init_c {d : Nat} (hd : 2 ≤ d) {a0 : Nat} {s0 : gH} {r : Unit} {s1 : gH} (h : fX3_init a0 s0 = some (r, s1)) : gMt mX3_init d [vr a0] s0 none s1 :=
  gMt_of (rv := rvU) (by decide +kernel) (Nat.le_of_ble_eq_true rfl) rfl (fun _ => wX3_init hd) h
def fX2_init (a0 : Nat) (s0 : gH) : Option (Unit × gH) :=
  if a0 = 0 then none else
  gmka s0 3 229 fun r1 s2 =>
  (spR s2 a0 2 0 r1).bind fun s3 =>
  some ((), s3)
set_option maxRecDepth 100000 in
set_option maxHeartbeats 4000000 in
theorem wX2_init {X : Nat × (Nat → Int32)} {d : Nat} (hd : 1 ≤ d) {a0 : Nat} {s0 : gH} : gGo X rvU mX2_init d 0 [(0, vr a0)] [] s0 (fX2_init a0 s0) := by
  unfold fX2_init
  refine go_aload_n 0 dX2_init_0 rfl rfl ?_
  refine go_objz go_RX2_3 gob_1 gob_2 (Nat.le_of_ble_eq_true rfl) dX2_init_1 (fun ha0 => ?_)
  refine go_aload_n 0 dX2_init_4 rfl rfl ?_
  refine go_sipush (v := 229) dX2_init_5 (by decide) ?_
  refine go_mka (t := 3) (by decide) gac_3 dX2_init_8 (fun r1 s2 => ?_)
  refine go_putR gf_RX2_11 gcf_2 (gpf_2_0 rfl rfl) (Or.inr ⟨_, rfl⟩) gft_2_0 dX2_init_10 (fun s3 _ => ?_)
  exact go_retv rfl dX2_init_13
set_option maxRecDepth 100000 in
set_option maxHeartbeats 4000000 in
theorem cX2_init_c {d : Nat} (hd : 1 ≤ d) {a0 : Nat} {s0 : gH} {r : Unit} {s1 : gH} (h : fX2_init a0 s0 = some (r, s1)) : gMt mX2_init d [vr a0] s0 none s1 :=
  gMt_of (rv := rvU) (by decide +kernel) (Nat.le_of_ble_eq_true rfl) rfl (fun _ => wX2_init hd) h
def gX5_init_L47 (k75 : gH → Option (Unit × gH)) (a0 : Nat) : Nat → Int32 → gH → Option (Unit × gH)
  | 0, _, _ => none
  | n + 1, x2, s0 =>
    (ggR s0 a0 5 1).bind fun v15 =>
    (glen s0 v15).bind fun v16 =>
    if x2 < v16 then
      (ggR s0 a0 5 1).bind fun v18 =>
      gmk s0 2 fun r19 s20 =>
      gb2 (fX2_init r19 s20) fun r21 s22 =>
      (saR s22 v18 5 x2 r19).bind fun s23 =>
      gX5_init_L47 k75 a0 n (x2 + 1) s23
    else
      k75 s0
set_option maxRecDepth 100000 in
set_option maxHeartbeats 4000000 in
theorem wX5_init_L47 {X : Nat × (Nat → Int32)} {d : Nat} (hd : 2 ≤ d) (k75 : gH → Option (Unit × gH)) (a0 : Nat) (hk75 : ∀ (s : gH), gGo X rvU mX5_init d 75 [(0, vr a0)] [] s (k75 s)) : ∀ (n : Nat) (x2 : Int32) (s0 : gH), gGo X rvU mX5_init d 47 [(0, vr a0), (2, vi x2)] [] s0 (gX5_init_L47 k75 a0 n x2 s0) := by
  intro n
  induction n with
  | zero => intros; exact go_none
  | succ n ih =>
    intro x2 s0
    show gGo _ _ _ _ _ _ _ _ (gX5_init_L47 k75 a0 (n + 1) x2 s0)
    unfold gX5_init_L47
    refine go_iload_n 1 dX5_init_47 rfl rfl ?_
    refine go_aload_n 0 dX5_init_48 rfl rfl ?_
    refine go_getR gf_RX5_11 gcf_5 gft_5_1 dX5_init_49 (fun v15 => ?_)
    refine go_alen dX5_init_52 (fun v16 _ => ?_)
    refine go_icmp_ge (tgt := 75) dX5_init_53 (by decide) (fun h17 => ?_) (fun h17 => ?_)
    · refine go_aload_n 0 dX5_init_56 rfl rfl ?_
      refine go_getR gf_RX5_11 gcf_5 gft_5_1 dX5_init_57 (fun v18 => ?_)
      refine go_iload_n 1 dX5_init_60 rfl rfl ?_
      refine go_mk gn_RX5_9 gcf_2 gcd_2 dX5_init_61 (fun r19 s20 hr19 => ?_)
      refine go_dup dX5_init_64 rfl ?_
      refine go_callIN_v (as := []) hr19 (List.mem_of_getElem? (i := 4) rfl) gim_X2_init rfl rfl gmf_X2_init (by omega) rfl rfl (Nat.le_of_ble_eq_true rfl) dX5_init_65 (fun _ _ h => cX2_init_c (by omega) h) (fun r21 s22 _ => ?_)
      refine go_aastore (t := 5) (by decide) (by decide) dX5_init_68 (fun s23 _ => ?_)
      refine go_iinc (v := 1) (L' := [(2, vi (x2 + 1)), (0, vr a0)]) 1 dX5_init_69 rfl (by decide) (by decide) rfl ?_
      refine go_goto (tgt := 47) dX5_init_72 (by decide) ?_
      exact go_sub [1, 0] (ih (x2 + 1) s23) rfl
    · exact go_sub [0] (hk75 s0) rfl
def gX5_init_L77 (k105 : gH → Option (Unit × gH)) (a0 : Nat) : Nat → Int32 → gH → Option (Unit × gH)
  | 0, _, _ => none
  | n + 1, x2, s0 =>
    (ggR s0 a0 5 2).bind fun v26 =>
    (glen s0 v26).bind fun v27 =>
    if x2 < v27 then
      (ggR s0 a0 5 2).bind fun v29 =>
      gmk s0 2 fun r30 s31 =>
      gb2 (fX2_init r30 s31) fun r32 s33 =>
      (saR s33 v29 5 x2 r30).bind fun s34 =>
      gX5_init_L77 k105 a0 n (x2 + 1) s34
    else
      k105 s0
set_option maxRecDepth 100000 in
set_option maxHeartbeats 4000000 in
theorem wX5_init_L77 {X : Nat × (Nat → Int32)} {d : Nat} (hd : 2 ≤ d) (k105 : gH → Option (Unit × gH)) (a0 : Nat) (hk105 : ∀ (s : gH), gGo X rvU mX5_init d 105 [(0, vr a0)] [] s (k105 s)) : ∀ (n : Nat) (x2 : Int32) (s0 : gH), gGo X rvU mX5_init d 77 [(0, vr a0), (2, vi x2)] [] s0 (gX5_init_L77 k105 a0 n x2 s0) := by
  intro n
  induction n with
  | zero => intros; exact go_none
  | succ n ih =>
    intro x2 s0
    show gGo _ _ _ _ _ _ _ _ (gX5_init_L77 k105 a0 (n + 1) x2 s0)
    unfold gX5_init_L77
    refine go_iload_n 1 dX5_init_77 rfl rfl ?_
    refine go_aload_n 0 dX5_init_78 rfl rfl ?_
    refine go_getR gf_RX5_17 gcf_5 gft_5_2 dX5_init_79 (fun v26 => ?_)
    refine go_alen dX5_init_82 (fun v27 _ => ?_)
    refine go_icmp_ge (tgt := 105) dX5_init_83 (by decide) (fun h28 => ?_) (fun h28 => ?_)
    · refine go_aload_n 0 dX5_init_86 rfl rfl ?_
      refine go_getR gf_RX5_17 gcf_5 gft_5_2 dX5_init_87 (fun v29 => ?_)
      refine go_iload_n 1 dX5_init_90 rfl rfl ?_
      refine go_mk gn_RX5_9 gcf_2 gcd_2 dX5_init_91 (fun r30 s31 hr30 => ?_)
      refine go_dup dX5_init_94 rfl ?_
      refine go_callIN_v (as := []) hr30 (List.mem_of_getElem? (i := 4) rfl) gim_X2_init rfl rfl gmf_X2_init (by omega) rfl rfl (Nat.le_of_ble_eq_true rfl) dX5_init_95 (fun _ _ h => cX2_init_c (by omega) h) (fun r32 s33 _ => ?_)
      refine go_aastore (t := 5) (by decide) (by decide) dX5_init_98 (fun s34 _ => ?_)
      refine go_iinc (v := 1) (L' := [(2, vi (x2 + 1)), (0, vr a0)]) 1 dX5_init_99 rfl (by decide) (by decide) rfl ?_
      refine go_goto (tgt := 77) dX5_init_102 (by decide) ?_
      exact go_sub [1, 0] (ih (x2 + 1) s34) rfl
    · exact go_sub [0] (hk105 s0) rfl
def gX5_init_L107  (a0 : Nat) : Nat → Int32 → gH → Option (Unit × gH)
  | 0, _, _ => none
  | n + 1, x2, s0 =>
    if x2 < 6 then
      (ggR s0 a0 5 3).bind fun v38 =>
      gmk s0 7 fun r39 s40 =>
      gb2 (fX7_init r39 20 s40) fun r41 s42 =>
      (saR s42 v38 6 x2 r39).bind fun s43 =>
      (ggR s43 a0 5 4).bind fun v44 =>
      gmk s43 7 fun r45 s46 =>
      gb2 (fX7_init r45 20 s46) fun r47 s48 =>
      (saR s48 v44 6 x2 r45).bind fun s49 =>
      gX5_init_L107 a0 n (x2 + 1) s49
    else
      some ((), s0)
set_option maxRecDepth 100000 in
set_option maxHeartbeats 4000000 in
theorem wX5_init_L107 {X : Nat × (Nat → Int32)} {d : Nat} (hd : 2 ≤ d)  (a0 : Nat) : ∀ (n : Nat) (x2 : Int32) (s0 : gH), gGo X rvU mX5_init d 107 [(0, vr a0), (2, vi x2)] [] s0 (gX5_init_L107 a0 n x2 s0) := by
  intro n
  induction n with
  | zero => intros; exact go_none
  | succ n ih =>
    intro x2 s0
    show gGo _ _ _ _ _ _ _ _ (gX5_init_L107 a0 (n + 1) x2 s0)
    unfold gX5_init_L107
    refine go_iload_n 1 dX5_init_107 rfl rfl ?_
    refine go_bipush (v := 6) dX5_init_108 (by decide) ?_
    refine go_icmp_ge (tgt := 149) dX5_init_110 (by decide) (fun h37 => ?_) (fun h37 => ?_)
    · refine go_aload_n 0 dX5_init_113 rfl rfl ?_
      refine go_getR gf_RX5_22 gcf_5 gft_5_3 dX5_init_114 (fun v38 => ?_)
      refine go_iload_n 1 dX5_init_117 rfl rfl ?_
      refine go_mk gn_RX5_20 gcf_7 gcd_7 dX5_init_118 (fun r39 s40 hr39 => ?_)
      refine go_dup dX5_init_121 rfl ?_
      refine go_bipush (v := 20) dX5_init_122 (by decide) ?_
      refine go_callI_v (as := [vi 20]) hr39 gk_RX5_34 rfl gmf_X7_init (by omega) rfl rfl (Nat.le_of_ble_eq_true rfl) dX5_init_124 (fun _ _ h => cX7_init_c (by omega) h) (fun r41 s42 _ => ?_)
      refine go_aastore (t := 6) (by decide) (by decide) dX5_init_127 (fun s43 _ => ?_)
      refine go_aload_n 0 dX5_init_128 rfl rfl ?_
      refine go_getR gf_RX5_26 gcf_5 gft_5_4 dX5_init_129 (fun v44 => ?_)
      refine go_iload_n 1 dX5_init_132 rfl rfl ?_
      refine go_mk gn_RX5_20 gcf_7 gcd_7 dX5_init_133 (fun r45 s46 hr45 => ?_)
      refine go_dup dX5_init_136 rfl ?_
      refine go_bipush (v := 20) dX5_init_137 (by decide) ?_
      refine go_callI_v (as := [vi 20]) hr45 gk_RX5_34 rfl gmf_X7_init (by omega) rfl rfl (Nat.le_of_ble_eq_true rfl) dX5_init_139 (fun _ _ h => cX7_init_c (by omega) h) (fun r47 s48 _ => ?_)
      refine go_aastore (t := 6) (by decide) (by decide) dX5_init_142 (fun s49 _ => ?_)
      refine go_iinc (v := 1) (L' := [(2, vi (x2 + 1)), (0, vr a0)]) 1 dX5_init_143 rfl (by decide) (by decide) rfl ?_
      refine go_goto (tgt := 107) dX5_init_146 (by decide) ?_
      exact go_sub [1, 0] (ih (x2 + 1) s49) rfl
    · exact go_retv rfl dX5_init_149
def fX5_init (a0 : Nat) (a1 : Nat) (s0 : gH) : Option (Unit × gH) :=
  if a0 = 0 then none else
  gmka s0 5 12 fun r1 s2 =>
  (spR s2 a0 5 1 r1).bind fun s3 =>
  gmka s3 5 15 fun r4 s5 =>
  (spR s5 a0 5 2 r4).bind fun s6 =>
  gmka s6 6 6 fun r7 s8 =>
  (spR s8 a0 5 3 r7).bind fun s9 =>
  gmka s9 6 6 fun r10 s11 =>
  (spR s11 a0 5 4 r10).bind fun s12 =>
  (spR s12 a0 5 0 a1).bind fun s13 =>
  gX5_init_L47
    (fun s24 =>
      gX5_init_L77
        (fun s35 =>
          gX5_init_L107
            a0 20000 0 s35)
        a0 20000 0 s24)
    a0 20000 0 s13
set_option maxRecDepth 100000 in
set_option maxHeartbeats 4000000 in
theorem wX5_init {X : Nat × (Nat → Int32)} {d : Nat} (hd : 2 ≤ d) {a0 : Nat} {a1 : Nat} {s0 : gH} : gGo X rvU mX5_init d 0 [(0, vr a0), (1, vr a1)] [] s0 (fX5_init a0 a1 s0) := by
  unfold fX5_init
  refine go_aload_n 0 dX5_init_0 rfl rfl ?_
  refine go_objz go_RX5_3 gob_1 gob_2 (Nat.le_of_ble_eq_true rfl) dX5_init_1 (fun ha0 => ?_)
  refine go_aload_n 0 dX5_init_4 rfl rfl ?_
  refine go_bipush (v := 12) dX5_init_5 (by decide) ?_
  refine go_mkq (t := 5) (by decide) (by decide) ga_RX5_9 dX5_init_7 (fun r1 s2 => ?_)
  refine go_putR gf_RX5_11 gcf_5 (gpf_5_1 rfl rfl) (Or.inr ⟨_, rfl⟩) gft_5_1 dX5_init_10 (fun s3 _ => ?_)
  refine go_aload_n 0 dX5_init_13 rfl rfl ?_
  refine go_bipush (v := 15) dX5_init_14 (by decide) ?_
  refine go_mkq (t := 5) (by decide) (by decide) ga_RX5_9 dX5_init_16 (fun r4 s5 => ?_)
  refine go_putR gf_RX5_17 gcf_5 (gpf_5_2 rfl rfl) (Or.inr ⟨_, rfl⟩) gft_5_2 dX5_init_19 (fun s6 _ => ?_)
  refine go_aload_n 0 dX5_init_22 rfl rfl ?_
  refine go_bipush (v := 6) dX5_init_23 (by decide) ?_
  refine go_mkq (t := 6) (by decide) (by decide) ga_RX5_20 dX5_init_25 (fun r7 s8 => ?_)
  refine go_putR gf_RX5_22 gcf_5 (gpf_5_3 rfl rfl) (Or.inr ⟨_, rfl⟩) gft_5_3 dX5_init_28 (fun s9 _ => ?_)
  refine go_aload_n 0 dX5_init_31 rfl rfl ?_
  refine go_bipush (v := 6) dX5_init_32 (by decide) ?_
  refine go_mkq (t := 6) (by decide) (by decide) ga_RX5_20 dX5_init_34 (fun r10 s11 => ?_)
  refine go_putR gf_RX5_26 gcf_5 (gpf_5_4 rfl rfl) (Or.inr ⟨_, rfl⟩) gft_5_4 dX5_init_37 (fun s12 _ => ?_)
  refine go_aload_n 0 dX5_init_40 rfl rfl ?_
  refine go_aload_n 1 dX5_init_41 rfl rfl ?_
  refine go_putR gf_RX5_29 gcf_5 (gpf_5_0 rfl rfl) (Or.inl ⟨_, rfl⟩) gft_5_0 dX5_init_42 (fun s13 _ => ?_)
  refine go_iconst (v := 0) dX5_init_45 (by decide) ?_
  refine go_istore_n (L' := [(2, vi 0), (0, vr a0), (1, vr a1)]) dX5_init_46 rfl (by decide) rfl ?_
  refine go_sub [1, 0] (wX5_init_L47 hd _ a0 ?_ 20000 0 s13) rfl
  intro s24
  refine go_iconst (v := 0) dX5_init_75 (by decide) ?_
  refine go_istore_n (L' := [(2, vi 0), (0, vr a0)]) dX5_init_76 rfl (by decide) rfl ?_
  refine go_sub [1, 0] (wX5_init_L77 hd _ a0 ?_ 20000 0 s24) rfl
  intro s35
  refine go_iconst (v := 0) dX5_init_105 (by decide) ?_
  refine go_istore_n (L' := [(2, vi 0), (0, vr a0)]) dX5_init_106 rfl (by decide) rfl ?_
  refine go_sub [1, 0] (wX5_init_L107 hd a0 20000 0 s35) rfl
set_option maxRecDepth 100000 in
set_option maxHeartbeats 4000000 in
theorem cX5_init_c {d : Nat} (hd : 2 ≤ d) {a0 : Nat} {a1 : Nat} {s0 : gH} {r : Unit} {s1 : gH} (h : fX5_init a0 a1 s0 = some (r, s1)) : gMt mX5_init d [vr a0, vr a1] s0 none s1 :=
  gMt_of (rv := rvU) (by decide +kernel) (Nat.le_of_ble_eq_true rfl) rfl (fun _ => wX5_init hd) h
def gX4_init_L39  (a0 : Nat) : Nat → Int32 → gH → Option (Unit × gH)
  | 0, _, _ => none
  | n + 1, x1, s0 =>
    if x1 < 20 then
      (ggR s0 a0 4 3).bind fun v15 =>
      gmk s0 7 fun r16 s17 =>
      gb2 (fX7_init r16 40 s17) fun r18 s19 =>
      (saR s19 v15 6 x1 r16).bind fun s20 =>
      gX4_init_L39 a0 n (x1 + 1) s20
    else
      some ((), s0)
set_option maxRecDepth 100000 in
set_option maxHeartbeats 4000000 in
theorem wX4_init_L39 {X : Nat × (Nat → Int32)} {d : Nat} (hd : 2 ≤ d)  (a0 : Nat) : ∀ (n : Nat) (x1 : Int32) (s0 : gH), gGo X rvU mX4_init d 39 [(0, vr a0), (1, vi x1)] [] s0 (gX4_init_L39 a0 n x1 s0) := by
  intro n
  induction n with
  | zero => intros; exact go_none
  | succ n ih =>
    intro x1 s0
    show gGo _ _ _ _ _ _ _ _ (gX4_init_L39 a0 (n + 1) x1 s0)
    unfold gX4_init_L39
    refine go_iload_n 1 dX4_init_39 rfl rfl ?_
    refine go_bipush (v := 20) dX4_init_40 (by decide) ?_
    refine go_icmp_ge (tgt := 66) dX4_init_42 (by decide) (fun h14 => ?_) (fun h14 => ?_)
    · refine go_aload_n 0 dX4_init_45 rfl rfl ?_
      refine go_getR gf_RX4_23 gcf_4 gft_4_3 dX4_init_46 (fun v15 => ?_)
      refine go_iload_n 1 dX4_init_49 rfl rfl ?_
      refine go_mk gn_RX4_21 gcf_7 gcd_7 dX4_init_50 (fun r16 s17 hr16 => ?_)
      refine go_dup dX4_init_53 rfl ?_
      refine go_bipush (v := 40) dX4_init_54 (by decide) ?_
      refine go_callI_v (as := [vi 40]) hr16 gk_RX4_27 rfl gmf_X7_init (by omega) rfl rfl (Nat.le_of_ble_eq_true rfl) dX4_init_56 (fun _ _ h => cX7_init_c (by omega) h) (fun r18 s19 _ => ?_)
      refine go_aastore (t := 6) (by decide) (by decide) dX4_init_59 (fun s20 _ => ?_)
      refine go_iinc (v := 1) (L' := [(1, vi (x1 + 1)), (0, vr a0)]) 1 dX4_init_60 rfl (by decide) (by decide) rfl ?_
      refine go_goto (tgt := 39) dX4_init_63 (by decide) ?_
      exact go_sub [1, 0] (ih (x1 + 1) s20) rfl
    · exact go_retv rfl dX4_init_66
def fX4_init (a0 : Nat) (s0 : gH) : Option (Unit × gH) :=
  if a0 = 0 then none else
  gmka s0 2 20 fun r1 s2 =>
  (spR s2 a0 4 0 r1).bind fun s3 =>
  gmka s3 2 20 fun r4 s5 =>
  (spR s5 a0 4 1 r4).bind fun s6 =>
  gmka s6 2 20 fun r7 s8 =>
  (spR s8 a0 4 2 r7).bind fun s9 =>
  gmka s9 6 20 fun r10 s11 =>
  (spR s11 a0 4 3 r10).bind fun s12 =>
  gX4_init_L39
    a0 20000 0 s12
set_option maxRecDepth 100000 in
set_option maxHeartbeats 4000000 in
theorem wX4_init {X : Nat × (Nat → Int32)} {d : Nat} (hd : 2 ≤ d) {a0 : Nat} {s0 : gH} : gGo X rvU mX4_init d 0 [(0, vr a0)] [] s0 (fX4_init a0 s0) := by
  unfold fX4_init
  refine go_aload_n 0 dX4_init_0 rfl rfl ?_
  refine go_objz go_RX4_3 gob_1 gob_2 (Nat.le_of_ble_eq_true rfl) dX4_init_1 (fun ha0 => ?_)
  refine go_aload_n 0 dX4_init_4 rfl rfl ?_
  refine go_bipush (v := 20) dX4_init_5 (by decide) ?_
  refine go_mka (t := 2) (by decide) gac_2 dX4_init_7 (fun r1 s2 => ?_)
  refine go_putR gf_RX4_9 gcf_4 (gpf_4_0 rfl rfl) (Or.inr ⟨_, rfl⟩) gft_4_0 dX4_init_9 (fun s3 _ => ?_)
  refine go_aload_n 0 dX4_init_12 rfl rfl ?_
  refine go_bipush (v := 20) dX4_init_13 (by decide) ?_
  refine go_mka (t := 2) (by decide) gac_2 dX4_init_15 (fun r4 s5 => ?_)
  refine go_putR gf_RX4_15 gcf_4 (gpf_4_1 rfl rfl) (Or.inr ⟨_, rfl⟩) gft_4_1 dX4_init_17 (fun s6 _ => ?_)
  refine go_aload_n 0 dX4_init_20 rfl rfl ?_
  refine go_bipush (v := 20) dX4_init_21 (by decide) ?_
  refine go_mka (t := 2) (by decide) gac_2 dX4_init_23 (fun r7 s8 => ?_)
  refine go_putR gf_RX4_18 gcf_4 (gpf_4_2 rfl rfl) (Or.inr ⟨_, rfl⟩) gft_4_2 dX4_init_25 (fun s9 _ => ?_)
  refine go_aload_n 0 dX4_init_28 rfl rfl ?_
  refine go_bipush (v := 20) dX4_init_29 (by decide) ?_
  refine go_mkq (t := 6) (by decide) (by decide) ga_RX4_21 dX4_init_31 (fun r10 s11 => ?_)
  refine go_putR gf_RX4_23 gcf_4 (gpf_4_3 rfl rfl) (Or.inr ⟨_, rfl⟩) gft_4_3 dX4_init_34 (fun s12 _ => ?_)
  refine go_iconst (v := 0) dX4_init_37 (by decide) ?_
  refine go_istore_n (L' := [(1, vi 0), (0, vr a0)]) dX4_init_38 rfl (by decide) rfl ?_
  refine go_sub [1, 0] (wX4_init_L39 hd a0 20000 0 s12) rfl
set_option maxRecDepth 100000 in
set_option maxHeartbeats 4000000 in
theorem cX4_init_c {d : Nat} (hd : 2 ≤ d) {a0 : Nat} {s0 : gH} {r : Unit} {s1 : gH} (h : fX4_init a0 s0 = some (r, s1)) : gMt mX4_init d [vr a0] s0 none s1 :=
  gMt_of (rv := rvU) (by decide +kernel) (Nat.le_of_ble_eq_true rfl) rfl (fun _ => wX4_init hd) h
def fX9_init (a0 : Nat) (a1 : Nat) (s0 : gH) : Option (Unit × gH) :=
  if a0 = 0 then none else
  gmk s0 2 fun r1 s2 =>
  gb2 (fX2_init r1 s2) fun r3 s4 =>
  (spR s4 a0 9 1 r1).bind fun s5 =>
  gmka s5 2 12 fun r6 s7 =>
  (spR s7 a0 9 2 r6).bind fun s8 =>
  gmka s8 4 12 fun r9 s10 =>
  (spR s10 a0 9 3 r9).bind fun s11 =>
  gmka s11 2 366 fun r12 s13 =>
  (spR s13 a0 9 4 r12).bind fun s14 =>
  gmk s14 7 fun r15 s16 =>
  gb2 (fX7_init r15 60 s16) fun r17 s18 =>
  (spR s18 a0 9 5 r15).bind fun s19 =>
  (spR s19 a0 9 0 a1).bind fun s20 =>
  some ((), s20)
set_option maxRecDepth 100000 in
set_option maxHeartbeats 4000000 in
theorem wX9_init {X : Nat × (Nat → Int32)} {d : Nat} (hd : 2 ≤ d) {a0 : Nat} {a1 : Nat} {s0 : gH} : gGo X rvU mX9_init d 0 [(0, vr a0), (1, vr a1)] [] s0 (fX9_init a0 a1 s0) := by
  unfold fX9_init
  refine go_aload_n 0 dX9_init_0 rfl rfl ?_
  refine go_objz go_RX9_3 gob_1 gob_2 (Nat.le_of_ble_eq_true rfl) dX9_init_1 (fun ha0 => ?_)
  refine go_aload_n 0 dX9_init_4 rfl rfl ?_
  refine go_mk gn_RX9_9 gcf_2 gcd_2 dX9_init_5 (fun r1 s2 hr1 => ?_)
  refine go_dup dX9_init_8 rfl ?_
  refine go_callIN_v (as := []) hr1 (List.mem_of_getElem? (i := 5) rfl) gim_X2_init rfl rfl gmf_X2_init (by omega) rfl rfl (Nat.le_of_ble_eq_true rfl) dX9_init_9 (fun _ _ h => cX2_init_c (by omega) h) (fun r3 s4 _ => ?_)
  refine go_putR gf_RX9_12 gcf_9 (gpf_9_1 rfl rfl) (Or.inl ⟨_, rfl⟩) gft_9_1 dX9_init_12 (fun s5 _ => ?_)
  refine go_aload_n 0 dX9_init_15 rfl rfl ?_
  refine go_bipush (v := 12) dX9_init_16 (by decide) ?_
  refine go_mka (t := 2) (by decide) gac_2 dX9_init_18 (fun r6 s7 => ?_)
  refine go_putR gf_RX9_18 gcf_9 (gpf_9_2 rfl rfl) (Or.inr ⟨_, rfl⟩) gft_9_2 dX9_init_20 (fun s8 _ => ?_)
  refine go_aload_n 0 dX9_init_23 rfl rfl ?_
  refine go_bipush (v := 12) dX9_init_24 (by decide) ?_
  refine go_mka (t := 4) (by decide) gac_4 dX9_init_26 (fun r9 s10 => ?_)
  refine go_putR gf_RX9_22 gcf_9 (gpf_9_3 rfl rfl) (Or.inr ⟨_, rfl⟩) gft_9_3 dX9_init_28 (fun s11 _ => ?_)
  refine go_aload_n 0 dX9_init_31 rfl rfl ?_
  refine go_sipush (v := 366) dX9_init_32 (by decide) ?_
  refine go_mka (t := 2) (by decide) gac_2 dX9_init_35 (fun r12 s13 => ?_)
  refine go_putR gf_RX9_26 gcf_9 (gpf_9_4 rfl rfl) (Or.inr ⟨_, rfl⟩) gft_9_4 dX9_init_37 (fun s14 _ => ?_)
  refine go_aload_n 0 dX9_init_40 rfl rfl ?_
  refine go_mk gn_RX9_29 gcf_7 gcd_7 dX9_init_41 (fun r15 s16 hr15 => ?_)
  refine go_dup dX9_init_44 rfl ?_
  refine go_bipush (v := 60) dX9_init_45 (by decide) ?_
  refine go_callI_v (as := [vi 60]) hr15 gk_RX9_31 rfl gmf_X7_init (by omega) rfl rfl (Nat.le_of_ble_eq_true rfl) dX9_init_47 (fun _ _ h => cX7_init_c (by omega) h) (fun r17 s18 _ => ?_)
  refine go_putR gf_RX9_34 gcf_9 (gpf_9_5 rfl rfl) (Or.inl ⟨_, rfl⟩) gft_9_5 dX9_init_50 (fun s19 _ => ?_)
  refine go_aload_n 0 dX9_init_53 rfl rfl ?_
  refine go_aload_n 1 dX9_init_54 rfl rfl ?_
  refine go_putR gf_RX9_38 gcf_9 (gpf_9_0 rfl rfl) (Or.inl ⟨_, rfl⟩) gft_9_0 dX9_init_55 (fun s20 _ => ?_)
  exact go_retv rfl dX9_init_58
set_option maxRecDepth 100000 in
set_option maxHeartbeats 4000000 in
theorem cX9_init_c {d : Nat} (hd : 2 ≤ d) {a0 : Nat} {a1 : Nat} {s0 : gH} {r : Unit} {s1 : gH} (h : fX9_init a0 a1 s0 = some (r, s1)) : gMt mX9_init d [vr a0, vr a1] s0 none s1 :=
  gMt_of (rv := rvU) (by decide +kernel) (Nat.le_of_ble_eq_true rfl) rfl (fun _ => wX9_init hd) h
def fX8_init (a0 : Nat) (s0 : gH) : Option (Unit × gH) :=
  if a0 = 0 then none else
  gmk s0 7 fun r1 s2 =>
  gb2 (fX7_init r1 8 s2) fun r3 s4 =>
  (spR s4 a0 8 13 r1).bind fun s5 =>
  gmk s5 7 fun r6 s7 =>
  gb2 (fX7_init r6 8 s7) fun r8 s9 =>
  (spR s9 a0 8 14 r6).bind fun s10 =>
  some ((), s10)
set_option maxRecDepth 100000 in
set_option maxHeartbeats 4000000 in
theorem wX8_init {X : Nat × (Nat → Int32)} {d : Nat} (hd : 2 ≤ d) {a0 : Nat} {s0 : gH} : gGo X rvU mX8_init d 0 [(0, vr a0)] [] s0 (fX8_init a0 s0) := by
  unfold fX8_init
  refine go_aload_n 0 dX8_init_0 rfl rfl ?_
  refine go_objz go_RX8_3 gob_1 gob_2 (Nat.le_of_ble_eq_true rfl) dX8_init_1 (fun ha0 => ?_)
  refine go_aload_n 0 dX8_init_4 rfl rfl ?_
  refine go_mk gn_RX8_9 gcf_7 gcd_7 dX8_init_5 (fun r1 s2 hr1 => ?_)
  refine go_dup dX8_init_8 rfl ?_
  refine go_bipush (v := 8) dX8_init_9 (by decide) ?_
  refine go_callI_v (as := [vi 8]) hr1 gk_RX8_11 rfl gmf_X7_init (by omega) rfl rfl (Nat.le_of_ble_eq_true rfl) dX8_init_11 (fun _ _ h => cX7_init_c (by omega) h) (fun r3 s4 _ => ?_)
  refine go_putR gf_RX8_14 gcf_8 (gpf_8_13 rfl rfl) (Or.inl ⟨_, rfl⟩) gft_8_13 dX8_init_14 (fun s5 _ => ?_)
  refine go_aload_n 0 dX8_init_17 rfl rfl ?_
  refine go_mk gn_RX8_9 gcf_7 gcd_7 dX8_init_18 (fun r6 s7 hr6 => ?_)
  refine go_dup dX8_init_21 rfl ?_
  refine go_bipush (v := 8) dX8_init_22 (by decide) ?_
  refine go_callI_v (as := [vi 8]) hr6 gk_RX8_11 rfl gmf_X7_init (by omega) rfl rfl (Nat.le_of_ble_eq_true rfl) dX8_init_24 (fun _ _ h => cX7_init_c (by omega) h) (fun r8 s9 _ => ?_)
  refine go_putR gf_RX8_20 gcf_8 (gpf_8_14 rfl rfl) (Or.inl ⟨_, rfl⟩) gft_8_14 dX8_init_27 (fun s10 _ => ?_)
  exact go_retv rfl dX8_init_30
set_option maxRecDepth 100000 in
set_option maxHeartbeats 4000000 in
theorem cX8_init_c {d : Nat} (hd : 2 ≤ d) {a0 : Nat} {s0 : gH} {r : Unit} {s1 : gH} (h : fX8_init a0 s0 = some (r, s1)) : gMt mX8_init d [vr a0] s0 none s1 :=
  gMt_of (rv := rvU) (by decide +kernel) (Nat.le_of_ble_eq_true rfl) rfl (fun _ => wX8_init hd) h
def gX1_init_L40  (a0 : Nat) : Nat → Int32 → gH → Option (Unit × gH)
  | 0, _, _ => none
  | n + 1, x1, s0 =>
    if x1 < 6 then
      (ggR s0 a0 1 3).bind fun v15 =>
      gmk s0 8 fun r16 s17 =>
      gb2 (fX8_init r16 s17) fun r18 s19 =>
      (saR s19 v15 7 x1 r16).bind fun s20 =>
      gX1_init_L40 a0 n (x1 + 1) s20
    else
      some ((), s0)
set_option maxRecDepth 100000 in
set_option maxHeartbeats 4000000 in
theorem wX1_init_L40 {X : Nat × (Nat → Int32)} {d : Nat} (hd : 3 ≤ d)  (a0 : Nat) : ∀ (n : Nat) (x1 : Int32) (s0 : gH), gGo X rvU mX1_init d 40 [(0, vr a0), (1, vi x1)] [] s0 (gX1_init_L40 a0 n x1 s0) := by
  intro n
  induction n with
  | zero => intros; exact go_none
  | succ n ih =>
    intro x1 s0
    show gGo _ _ _ _ _ _ _ _ (gX1_init_L40 a0 (n + 1) x1 s0)
    unfold gX1_init_L40
    refine go_iload_n 1 dX1_init_40 rfl rfl ?_
    refine go_bipush (v := 6) dX1_init_41 (by decide) ?_
    refine go_icmp_ge (tgt := 65) dX1_init_43 (by decide) (fun h14 => ?_) (fun h14 => ?_)
    · refine go_aload_n 0 dX1_init_46 rfl rfl ?_
      refine go_getR gf_RX1_11 gcf_1 gft_1_3 dX1_init_47 (fun v15 => ?_)
      refine go_iload_n 1 dX1_init_50 rfl rfl ?_
      refine go_mk gn_RX1_9 gcf_8 gcd_8 dX1_init_51 (fun r16 s17 hr16 => ?_)
      refine go_dup dX1_init_54 rfl ?_
      refine go_callIN_v (as := []) hr16 (List.mem_of_getElem? (i := 6) rfl) gim_X8_init rfl rfl gmf_X8_init (by omega) rfl rfl (Nat.le_of_ble_eq_true rfl) dX1_init_55 (fun _ _ h => cX8_init_c (by omega) h) (fun r18 s19 _ => ?_)
      refine go_aastore (t := 7) (by decide) (by decide) dX1_init_58 (fun s20 _ => ?_)
      refine go_iinc (v := 1) (L' := [(1, vi (x1 + 1)), (0, vr a0)]) 1 dX1_init_59 rfl (by decide) (by decide) rfl ?_
      refine go_goto (tgt := 40) dX1_init_62 (by decide) ?_
      exact go_sub [1, 0] (ih (x1 + 1) s20) rfl
    · exact go_retv rfl dX1_init_65
def fX1_init (a0 : Nat) (s0 : gH) : Option (Unit × gH) :=
  if a0 = 0 then none else
  gmka s0 7 6 fun r1 s2 =>
  (spR s2 a0 1 3 r1).bind fun s3 =>
  gmka s3 2 12 fun r4 s5 =>
  (spR s5 a0 1 4 r4).bind fun s6 =>
  gmka s6 2 800 fun r7 s8 =>
  (spR s8 a0 1 5 r7).bind fun s9 =>
  gmka s9 2 6 fun r10 s11 =>
  (spR s11 a0 1 6 r10).bind fun s12 =>
  gX1_init_L40
    a0 20000 0 s12
set_option maxRecDepth 100000 in
set_option maxHeartbeats 4000000 in
theorem wX1_init {X : Nat × (Nat → Int32)} {d : Nat} (hd : 3 ≤ d) {a0 : Nat} {s0 : gH} : gGo X rvU mX1_init d 0 [(0, vr a0)] [] s0 (fX1_init a0 s0) := by
  unfold fX1_init
  refine go_aload_n 0 dX1_init_0 rfl rfl ?_
  refine go_objz go_RX1_3 gob_1 gob_2 (Nat.le_of_ble_eq_true rfl) dX1_init_1 (fun ha0 => ?_)
  refine go_aload_n 0 dX1_init_4 rfl rfl ?_
  refine go_bipush (v := 6) dX1_init_5 (by decide) ?_
  refine go_mkq (t := 7) (by decide) (by decide) ga_RX1_9 dX1_init_7 (fun r1 s2 => ?_)
  refine go_putR gf_RX1_11 gcf_1 (gpf_1_3 rfl rfl) (Or.inr ⟨_, rfl⟩) gft_1_3 dX1_init_10 (fun s3 _ => ?_)
  refine go_aload_n 0 dX1_init_13 rfl rfl ?_
  refine go_bipush (v := 12) dX1_init_14 (by decide) ?_
  refine go_mka (t := 2) (by decide) gac_2 dX1_init_16 (fun r4 s5 => ?_)
  refine go_putR gf_RX1_17 gcf_1 (gpf_1_4 rfl rfl) (Or.inr ⟨_, rfl⟩) gft_1_4 dX1_init_18 (fun s6 _ => ?_)
  refine go_aload_n 0 dX1_init_21 rfl rfl ?_
  refine go_sipush (v := 800) dX1_init_22 (by decide) ?_
  refine go_mka (t := 2) (by decide) gac_2 dX1_init_25 (fun r7 s8 => ?_)
  refine go_putR gf_RX1_21 gcf_1 (gpf_1_5 rfl rfl) (Or.inr ⟨_, rfl⟩) gft_1_5 dX1_init_27 (fun s9 _ => ?_)
  refine go_aload_n 0 dX1_init_30 rfl rfl ?_
  refine go_bipush (v := 6) dX1_init_31 (by decide) ?_
  refine go_mka (t := 2) (by decide) gac_2 dX1_init_33 (fun r10 s11 => ?_)
  refine go_putR gf_RX1_24 gcf_1 (gpf_1_6 rfl rfl) (Or.inr ⟨_, rfl⟩) gft_1_6 dX1_init_35 (fun s12 _ => ?_)
  refine go_iconst (v := 0) dX1_init_38 (by decide) ?_
  refine go_istore_n (L' := [(1, vi 0), (0, vr a0)]) dX1_init_39 rfl (by decide) rfl ?_
  refine go_sub [1, 0] (wX1_init_L40 hd a0 20000 0 s12) rfl
set_option maxRecDepth 100000 in
set_option maxHeartbeats 4000000 in
theorem cX1_init_c {d : Nat} (hd : 3 ≤ d) {a0 : Nat} {s0 : gH} {r : Unit} {s1 : gH} (h : fX1_init a0 s0 = some (r, s1)) : gMt mX1_init d [vr a0] s0 none s1 :=
  gMt_of (rv := rvU) (by decide +kernel) (Nat.le_of_ble_eq_true rfl) rfl (fun _ => wX1_init hd) h
def fX7_clear (a0 : Nat) (s0 : gH) : Option (Unit × gH) :=
  (spI s0 a0 7 1 0).bind fun s1 =>
  some ((), s1)
set_option maxRecDepth 100000 in
set_option maxHeartbeats 4000000 in
theorem wX7_clear {X : Nat × (Nat → Int32)} {d : Nat} (hd : 0 ≤ d) {a0 : Nat} {s0 : gH} : gGo X rvU mX7_clear d 0 [(0, vr a0)] [] s0 (fX7_clear a0 s0) := by
  unfold fX7_clear
  refine go_aload_n 0 dX7_clear_0 rfl rfl ?_
  refine go_iconst (v := 0) dX7_clear_1 (by decide) ?_
  refine go_putI gf_RX7_21 gcf_7 gpl_7_1 gft_7_1 dX7_clear_2 (fun s1 _ => ?_)
  exact go_retv rfl dX7_clear_5
set_option maxRecDepth 100000 in
set_option maxHeartbeats 4000000 in
theorem cX7_clear_c {d : Nat} (hd : 0 ≤ d) {a0 : Nat} {s0 : gH} {r : Unit} {s1 : gH} (h : fX7_clear a0 s0 = some (r, s1)) : gMt mX7_clear d [vr a0] s0 none s1 :=
  gMt_of (rv := rvU) (by decide +kernel) (Nat.le_of_ble_eq_true rfl) rfl (fun _ => wX7_clear hd) h
def fX1_ruleAt (a0 : Nat) (x1 : Int32) (s0 : gH) : Option (Nat × gH) :=
  if x1 < 0 then
    some (0, s0)
  else
    (ggI s0 a0 1 0).bind fun v2 =>
    if x1 < v2 then
      (ggR s0 a0 1 3).bind fun v4 =>
      (glen s0 v4).bind fun v5 =>
      if x1 < v5 then
        (ggR s0 a0 1 3).bind fun v7 =>
        (gaR s0 v7 7 x1).bind fun v8 =>
        some (v8, s0)
      else
        some (0, s0)
    else
      some (0, s0)
set_option maxRecDepth 100000 in
set_option maxHeartbeats 4000000 in
theorem wX1_ruleAt {X : Nat × (Nat → Int32)} {d : Nat} (hd : 0 ≤ d) {a0 : Nat} {x1 : Int32} {s0 : gH} : gGo X rvR mX1_ruleAt d 0 [(0, vr a0), (1, vi x1)] [] s0 (fX1_ruleAt a0 x1 s0) := by
  unfold fX1_ruleAt
  refine go_iload_n 1 dX1_ruleAt_0 rfl rfl ?_
  refine go_if_lt (tgt := 21) dX1_ruleAt_1 (by decide) (fun h1 => ?_) (fun h1 => ?_)
  · refine go_null dX1_ruleAt_21 ?_
    refine go_goto (tgt := 31) dX1_ruleAt_22 (by decide) ?_
    exact go_ret rfl dX1_ruleAt_31
  · refine go_iload_n 1 dX1_ruleAt_4 rfl rfl ?_
    refine go_aload_n 0 dX1_ruleAt_5 rfl rfl ?_
    refine go_getI gf_RX1_28 gcf_1 gft_1_0 dX1_ruleAt_6 (fun v2 => ?_)
    refine go_icmp_ge (tgt := 21) dX1_ruleAt_9 (by decide) (fun h3 => ?_) (fun h3 => ?_)
    · refine go_iload_n 1 dX1_ruleAt_12 rfl rfl ?_
      refine go_aload_n 0 dX1_ruleAt_13 rfl rfl ?_
      refine go_getR gf_RX1_11 gcf_1 gft_1_3 dX1_ruleAt_14 (fun v4 => ?_)
      refine go_alen dX1_ruleAt_17 (fun v5 _ => ?_)
      refine go_icmp_lt (tgt := 25) dX1_ruleAt_18 (by decide) (fun h6 => ?_) (fun h6 => ?_)
      · refine go_aload_n 0 dX1_ruleAt_25 rfl rfl ?_
        refine go_getR gf_RX1_11 gcf_1 gft_1_3 dX1_ruleAt_26 (fun v7 => ?_)
        refine go_iload_n 1 dX1_ruleAt_29 rfl rfl ?_
        refine go_aaload (t := 7) (by decide) (by decide) dX1_ruleAt_30 (fun v8 _ => ?_)
        exact go_ret rfl dX1_ruleAt_31
      · refine go_null dX1_ruleAt_21 ?_
        refine go_goto (tgt := 31) dX1_ruleAt_22 (by decide) ?_
        exact go_ret rfl dX1_ruleAt_31
    · refine go_null dX1_ruleAt_21 ?_
      refine go_goto (tgt := 31) dX1_ruleAt_22 (by decide) ?_
      exact go_ret rfl dX1_ruleAt_31
set_option maxRecDepth 100000 in
set_option maxHeartbeats 4000000 in
theorem cX1_ruleAt_c {d : Nat} (hd : 0 ≤ d) {a0 : Nat} {x1 : Int32} {s0 : gH} {r : Nat} {s1 : gH} (h : fX1_ruleAt a0 x1 s0 = some (r, s1)) : gMt mX1_ruleAt d [vr a0, vi x1] s0 (some (vr r)) s1 :=
  gMt_of (rv := rvR) (by decide +kernel) (Nat.le_of_ble_eq_true rfl) ⟨_, rfl, (Or.inl ⟨_, rfl⟩)⟩ (fun _ => wX1_ruleAt hd) h
def fX0_yearOf (x0 : Int32) (s0 : gH) : Option (Int32 × gH) :=
  glet (gIrem x0 1461) fun y1 =>
  if y1 < 366 then
    some (((x0 / 1461) * 4) + 0, s0)
  else
    some (((x0 / 1461) * 4) + ((y1 - 1) / 365), s0)
set_option maxRecDepth 100000 in
set_option maxHeartbeats 4000000 in
theorem wX0_yearOf {X : Nat × (Nat → Int32)} {d : Nat} (hd : 0 ≤ d) {x0 : Int32} {s0 : gH} : gGo X rvI mX0_yearOf d 0 [(0, vi x0)] [] s0 (fX0_yearOf x0 s0) := by
  unfold fX0_yearOf
  refine go_iload_n 0 dX0_yearOf_0 rfl rfl ?_
  refine go_sipush (v := 1461) dX0_yearOf_1 (by decide) ?_
  refine go_iremc dX0_yearOf_4 (by decide) ?_
  refine go_istore_n_l (L' := fun y1 => [(1, vi y1), (0, vi x0)]) dX0_yearOf_5 rfl (by decide) (fun _ => rfl) (fun y1 => ?_)
  refine go_iload_n 1 dX0_yearOf_6 rfl rfl ?_
  refine go_sipush (v := 1461) dX0_yearOf_7 (by decide) ?_
  refine go_idivc dX0_yearOf_10 (by decide) ?_
  refine go_iconst (v := 4) dX0_yearOf_11 (by decide) ?_
  refine go_imul dX0_yearOf_12 ?_
  refine go_iload_n 0 dX0_yearOf_13 rfl rfl ?_
  refine go_sipush (v := 366) dX0_yearOf_14 (by decide) ?_
  refine go_icmp_ge (tgt := 24) dX0_yearOf_17 (by decide) (fun h2 => ?_) (fun h2 => ?_)
  · refine go_iconst (v := 0) dX0_yearOf_20 (by decide) ?_
    refine go_goto (tgt := 31) dX0_yearOf_21 (by decide) ?_
    refine go_iadd dX0_yearOf_31 ?_
    exact go_ret rfl dX0_yearOf_32
  · refine go_iload_n 0 dX0_yearOf_24 rfl rfl ?_
    refine go_iconst (v := 1) dX0_yearOf_25 (by decide) ?_
    refine go_isub dX0_yearOf_26 ?_
    refine go_sipush (v := 365) dX0_yearOf_27 (by decide) ?_
    refine go_idivc dX0_yearOf_30 (by decide) ?_
    refine go_iadd dX0_yearOf_31 ?_
    exact go_ret rfl dX0_yearOf_32
set_option maxRecDepth 100000 in
set_option maxHeartbeats 4000000 in
theorem cX0_yearOf_c {d : Nat} (hd : 0 ≤ d) {x0 : Int32} {s0 : gH} {r : Int32} {s1 : gH} (h : fX0_yearOf x0 s0 = some (r, s1)) : gMt mX0_yearOf d [vi x0] s0 (some (vi r)) s1 :=
  gMt_of (rv := rvI) (by decide +kernel) (Nat.le_of_ble_eq_true rfl) ⟨_, rfl, rfl⟩ (fun _ => wX0_yearOf hd) h
def fX0_firstOfYear (x0 : Int32) (s0 : gH) : Option (Int32 × gH) :=
  some ((x0 * 365) + ((x0 + 3) / 4), s0)
set_option maxRecDepth 100000 in
set_option maxHeartbeats 4000000 in
theorem wX0_firstOfYear {X : Nat × (Nat → Int32)} {d : Nat} (hd : 0 ≤ d) {x0 : Int32} {s0 : gH} : gGo X rvI mX0_firstOfYear d 0 [(0, vi x0)] [] s0 (fX0_firstOfYear x0 s0) := by
  unfold fX0_firstOfYear
  refine go_iload_n 0 dX0_firstOfYear_0 rfl rfl ?_
  refine go_sipush (v := 365) dX0_firstOfYear_1 (by decide) ?_
  refine go_imul dX0_firstOfYear_4 ?_
  refine go_iload_n 0 dX0_firstOfYear_5 rfl rfl ?_
  refine go_iconst (v := 3) dX0_firstOfYear_6 (by decide) ?_
  refine go_iadd dX0_firstOfYear_7 ?_
  refine go_iconst (v := 4) dX0_firstOfYear_8 (by decide) ?_
  refine go_idivc dX0_firstOfYear_9 (by decide) ?_
  refine go_iadd dX0_firstOfYear_10 ?_
  exact go_ret rfl dX0_firstOfYear_11
set_option maxRecDepth 100000 in
set_option maxHeartbeats 4000000 in
theorem cX0_firstOfYear_c {d : Nat} (hd : 0 ≤ d) {x0 : Int32} {s0 : gH} {r : Int32} {s1 : gH} (h : fX0_firstOfYear x0 s0 = some (r, s1)) : gMt mX0_firstOfYear d [vi x0] s0 (some (vi r)) s1 :=
  gMt_of (rv := rvI) (by decide +kernel) (Nat.le_of_ble_eq_true rfl) ⟨_, rfl, rfl⟩ (fun _ => wX0_firstOfYear hd) h
def fX0_daysAhead (x0 : Int32) (x1 : Int32) (s0 : gH) : Option (Int32 × gH) :=
  if x1 < 1 then
    some (0, s0)
  else
    if 13 < x1 then
      some (0, s0)
    else
      (gAl (x1 - 1)).bind fun v3 =>
      if 2 < x1 then
        if gIrem x0 4 = 0 then
          some (v3 + 1, s0)
        else
          some (v3 + 0, s0)
      else
        some (v3 + 0, s0)
set_option maxRecDepth 100000 in
set_option maxHeartbeats 4000000 in
theorem wX0_daysAhead {X : Nat × (Nat → Int32)} {d : Nat} (hd : 0 ≤ d) {x0 : Int32} {x1 : Int32} {s0 : gH} : gGo X rvI mX0_daysAhead d 0 [(0, vi x0), (1, vi x1)] [] s0 (fX0_daysAhead x0 x1 s0) := by
  unfold fX0_daysAhead
  refine go_iload_n 1 dX0_daysAhead_0 rfl rfl ?_
  refine go_iconst (v := 1) dX0_daysAhead_1 (by decide) ?_
  refine go_icmp_lt (tgt := 13) dX0_daysAhead_2 (by decide) (fun h1 => ?_) (fun h1 => ?_)
  · refine go_iconst (v := 0) dX0_daysAhead_13 (by decide) ?_
    exact go_ret rfl dX0_daysAhead_14
  · refine go_iload_n 1 dX0_daysAhead_5 rfl rfl ?_
    refine go_getsA gfs_RX0_9 dX0_daysAhead_6 ?_
    refine go_aheadlen dX0_daysAhead_9 ?_
    refine go_icmp_le (tgt := 15) dX0_daysAhead_10 (by decide) (fun h2 => ?_) (fun h2 => ?_)
    · refine go_iconst (v := 0) dX0_daysAhead_13 (by decide) ?_
      exact go_ret rfl dX0_daysAhead_14
    · refine go_getsA gfs_RX0_9 dX0_daysAhead_15 ?_
      refine go_iload_n 1 dX0_daysAhead_18 rfl rfl ?_
      refine go_iconst (v := 1) dX0_daysAhead_19 (by decide) ?_
      refine go_isub dX0_daysAhead_20 ?_
      refine go_ahead dX0_daysAhead_21 (fun v3 _ => ?_)
      refine go_iload_n 1 dX0_daysAhead_22 rfl rfl ?_
      refine go_iconst (v := 2) dX0_daysAhead_23 (by decide) ?_
      refine go_icmp_le (tgt := 37) dX0_daysAhead_24 (by decide) (fun h4 => ?_) (fun h4 => ?_)
      · refine go_iload_n 0 dX0_daysAhead_27 rfl rfl ?_
        refine go_iconst (v := 4) dX0_daysAhead_28 (by decide) ?_
        refine go_iremc dX0_daysAhead_29 (by decide) ?_
        refine go_if_ne (tgt := 37) dX0_daysAhead_30 (by decide) (fun h5 => ?_) (fun h5 => ?_)
        · refine go_iconst (v := 1) dX0_daysAhead_33 (by decide) ?_
          refine go_goto (tgt := 38) dX0_daysAhead_34 (by decide) ?_
          refine go_iadd dX0_daysAhead_38 ?_
          exact go_ret rfl dX0_daysAhead_39
        · refine go_iconst (v := 0) dX0_daysAhead_37 (by decide) ?_
          refine go_iadd dX0_daysAhead_38 ?_
          exact go_ret rfl dX0_daysAhead_39
      · refine go_iconst (v := 0) dX0_daysAhead_37 (by decide) ?_
        refine go_iadd dX0_daysAhead_38 ?_
        exact go_ret rfl dX0_daysAhead_39
set_option maxRecDepth 100000 in
set_option maxHeartbeats 4000000 in
theorem cX0_daysAhead_c {d : Nat} (hd : 0 ≤ d) {x0 : Int32} {x1 : Int32} {s0 : gH} {r : Int32} {s1 : gH} (h : fX0_daysAhead x0 x1 s0 = some (r, s1)) : gMt mX0_daysAhead d [vi x0, vi x1] s0 (some (vi r)) s1 :=
  gMt_of (rv := rvI) (by decide +kernel) (Nat.le_of_ble_eq_true rfl) ⟨_, rfl, rfl⟩ (fun _ => wX0_daysAhead hd) h
def gX0_monthOf_L15  (x1 : Int32) (x2 : Int32) : Nat → Int32 → gH → Option (Int32 × gH)
  | 0, _, _ => none
  | n + 1, x3, s0 =>
    if 1 < x3 then
      gb2 (fX0_daysAhead x1 x3 s0) fun r8 s9 =>
      if x2 < r8 then
        gX0_monthOf_L15 x1 x2 n (x3 + (-1)) s9
      else
        some (x3, s9)
    else
      some (x3, s0)
set_option maxRecDepth 100000 in
set_option maxHeartbeats 4000000 in
theorem wX0_monthOf_L15 {X : Nat × (Nat → Int32)} {d : Nat} (hd : 1 ≤ d)  (x1 : Int32) (x2 : Int32) : ∀ (n : Nat) (x3 : Int32) (s0 : gH), gGo X rvI mX0_monthOf d 15 [(1, vi x1), (2, vi x2), (3, vi x3)] [] s0 (gX0_monthOf_L15 x1 x2 n x3 s0) := by
  intro n
  induction n with
  | zero => intros; exact go_none
  | succ n ih =>
    intro x3 s0
    show gGo _ _ _ _ _ _ _ _ (gX0_monthOf_L15 x1 x2 (n + 1) x3 s0)
    unfold gX0_monthOf_L15
    refine go_iload_n 2 dX0_monthOf_15 rfl rfl ?_
    refine go_iconst (v := 1) dX0_monthOf_16 (by decide) ?_
    refine go_icmp_le (tgt := 35) dX0_monthOf_17 (by decide) (fun h7 => ?_) (fun h7 => ?_)
    · refine go_iload_n 0 dX0_monthOf_20 rfl rfl ?_
      refine go_iload_n 2 dX0_monthOf_21 rfl rfl ?_
      refine go_callS_I (as := [vi x1, vi x3]) gk_RX0_19 gmf_X0_daysAhead (by omega) rfl rfl (Nat.le_of_ble_eq_true rfl) dX0_monthOf_22 (fun _ _ h => cX0_daysAhead_c (by omega) h) (fun r8 s9 _ => ?_)
      refine go_iload_n 1 dX0_monthOf_25 rfl rfl ?_
      refine go_icmp_le (tgt := 35) dX0_monthOf_26 (by decide) (fun h10 => ?_) (fun h10 => ?_)
      · refine go_iinc (v := -1) (L' := [(3, vi (x3 + (-1))), (1, vi x1), (2, vi x2)]) 2 dX0_monthOf_29 rfl (by decide) (by decide) rfl ?_
        refine go_goto (tgt := 15) dX0_monthOf_32 (by decide) ?_
        exact go_sub [1, 2, 0] (ih (x3 + (-1)) s9) rfl
      · refine go_iload_n 2 dX0_monthOf_35 rfl rfl ?_
        exact go_ret rfl dX0_monthOf_36
    · refine go_iload_n 2 dX0_monthOf_35 rfl rfl ?_
      exact go_ret rfl dX0_monthOf_36
def fX0_monthOf (x0 : Int32) (s0 : gH) : Option (Int32 × gH) :=
  gb2 (fX0_yearOf x0 s0) fun r1 s2 =>
  gb2 (fX0_firstOfYear r1 s2) fun r3 s4 =>
  glet (x0 - r3) fun y5 =>
  gX0_monthOf_L15
    r1 y5 20000 12 s4
set_option maxRecDepth 100000 in
set_option maxHeartbeats 4000000 in
theorem wX0_monthOf {X : Nat × (Nat → Int32)} {d : Nat} (hd : 1 ≤ d) {x0 : Int32} {s0 : gH} : gGo X rvI mX0_monthOf d 0 [(0, vi x0)] [] s0 (fX0_monthOf x0 s0) := by
  unfold fX0_monthOf
  refine go_iload_n 0 dX0_monthOf_0 rfl rfl ?_
  refine go_callS_I (as := [vi x0]) gk_RX0_23 gmf_X0_yearOf (by omega) rfl rfl (Nat.le_of_ble_eq_true rfl) dX0_monthOf_1 (fun _ _ h => cX0_yearOf_c (by omega) h) (fun r1 s2 _ => ?_)
  refine go_istore_n (L' := [(1, vi r1), (0, vi x0)]) dX0_monthOf_4 rfl (by decide) rfl ?_
  refine go_iload_n 1 dX0_monthOf_5 rfl rfl ?_
  refine go_iload_n 0 dX0_monthOf_6 rfl rfl ?_
  refine go_callS_I (as := [vi r1]) gk_RX0_15 gmf_X0_firstOfYear (by omega) rfl rfl (Nat.le_of_ble_eq_true rfl) dX0_monthOf_7 (fun _ _ h => cX0_firstOfYear_c (by omega) h) (fun r3 s4 _ => ?_)
  refine go_isub dX0_monthOf_10 ?_
  refine go_istore_n_l (L' := fun y5 => [(2, vi y5), (1, vi r1), (0, vi x0)]) dX0_monthOf_11 rfl (by decide) (fun _ => rfl) (fun y5 => ?_)
  refine go_bipush (v := 12) dX0_monthOf_12 (by decide) ?_
  refine go_istore_n (L' := [(3, vi 12), (2, vi y5), (1, vi r1), (0, vi x0)]) dX0_monthOf_14 rfl (by decide) rfl ?_
  refine go_sub [2, 1, 0] (wX0_monthOf_L15 hd r1 y5 20000 12 s4) rfl
set_option maxRecDepth 100000 in
set_option maxHeartbeats 4000000 in
theorem cX0_monthOf_c {d : Nat} (hd : 1 ≤ d) {x0 : Int32} {s0 : gH} {r : Int32} {s1 : gH} (h : fX0_monthOf x0 s0 = some (r, s1)) : gMt mX0_monthOf d [vi x0] s0 (some (vi r)) s1 :=
  gMt_of (rv := rvI) (by decide +kernel) (Nat.le_of_ble_eq_true rfl) ⟨_, rfl, rfl⟩ (fun _ => wX0_monthOf hd) h
def fX0_periodOf (x0 : Int32) (x1 : Int32) (s0 : gH) : Option (Int32 × gH) :=
  if x0 = 1 then
    some ((x1 + 5) / 7, s0)
  else
    if x0 = 2 then
      gb2 (fX0_yearOf x1 s0) fun r3 s4 =>
      gb2 (fX0_monthOf x1 s4) fun r5 s6 =>
      some (((r3 * 12) + r5) - 1, s6)
    else
      if x0 = 3 then
        gb2 (fX0_yearOf x1 s0) fun r8 s9 =>
        some (r8, s9)
      else
        some (x1, s0)
set_option maxRecDepth 100000 in
set_option maxHeartbeats 4000000 in
theorem wX0_periodOf {X : Nat × (Nat → Int32)} {d : Nat} (hd : 2 ≤ d) {x0 : Int32} {x1 : Int32} {s0 : gH} : gGo X rvI mX0_periodOf d 0 [(0, vi x0), (1, vi x1)] [] s0 (fX0_periodOf x0 x1 s0) := by
  unfold fX0_periodOf
  refine go_iload_n 0 dX0_periodOf_0 rfl rfl ?_
  refine go_ite (fun h1 => ?_) (fun h1 => ?_)
  · refine go_tsIn (v := 1) (off := 27) (tgt := 28) dX0_periodOf_1 h1 (by decide) (by decide) (by decide) (by decide) ?_
    refine go_iload_n 1 dX0_periodOf_28 rfl rfl ?_
    refine go_iconst (v := 5) dX0_periodOf_29 (by decide) ?_
    refine go_iadd dX0_periodOf_30 ?_
    refine go_bipush (v := 7) dX0_periodOf_31 (by decide) ?_
    refine go_idivc dX0_periodOf_33 (by decide) ?_
    exact go_ret rfl dX0_periodOf_34
  · refine go_ite (fun h2 => ?_) (fun h2 => ?_)
    · refine go_tsIn (v := 2) (off := 34) (tgt := 35) dX0_periodOf_1 h2 (by decide) (by decide) (by decide) (by decide) ?_
      refine go_iload_n 1 dX0_periodOf_35 rfl rfl ?_
      refine go_callS_I (as := [vi x1]) gk_RX0_23 gmf_X0_yearOf (by omega) rfl rfl (Nat.le_of_ble_eq_true rfl) dX0_periodOf_36 (fun _ _ h => cX0_yearOf_c (by omega) h) (fun r3 s4 _ => ?_)
      refine go_bipush (v := 12) dX0_periodOf_39 (by decide) ?_
      refine go_imul dX0_periodOf_41 ?_
      refine go_iload_n 1 dX0_periodOf_42 rfl rfl ?_
      refine go_callS_I (as := [vi x1]) gk_RX0_26 gmf_X0_monthOf (by omega) rfl rfl (Nat.le_of_ble_eq_true rfl) dX0_periodOf_43 (fun _ _ h => cX0_monthOf_c (by omega) h) (fun r5 s6 _ => ?_)
      refine go_iadd dX0_periodOf_46 ?_
      refine go_iconst (v := 1) dX0_periodOf_47 (by decide) ?_
      refine go_isub dX0_periodOf_48 ?_
      exact go_ret rfl dX0_periodOf_49
    · refine go_ite (fun h7 => ?_) (fun h7 => ?_)
      · refine go_tsIn (v := 3) (off := 49) (tgt := 50) dX0_periodOf_1 h7 (by decide) (by decide) (by decide) (by decide) ?_
        refine go_iload_n 1 dX0_periodOf_50 rfl rfl ?_
        refine go_callS_I (as := [vi x1]) gk_RX0_23 gmf_X0_yearOf (by omega) rfl rfl (Nat.le_of_ble_eq_true rfl) dX0_periodOf_51 (fun _ _ h => cX0_yearOf_c (by omega) h) (fun r8 s9 _ => ?_)
        exact go_ret rfl dX0_periodOf_54
      · refine go_tsOut (tgt := 55) dX0_periodOf_1 (by have gh1 := gts h1 (n := 1) (by decide); have gh2 := gts h2 (n := 2) (by decide); have gh7 := gts h7 (n := 3) (by decide); omega) (by decide) ?_
        refine go_iload_n 1 dX0_periodOf_55 rfl rfl ?_
        exact go_ret rfl dX0_periodOf_56
set_option maxRecDepth 100000 in
set_option maxHeartbeats 4000000 in
theorem cX0_periodOf_c {d : Nat} (hd : 2 ≤ d) {x0 : Int32} {x1 : Int32} {s0 : gH} {r : Int32} {s1 : gH} (h : fX0_periodOf x0 x1 s0 = some (r, s1)) : gMt mX0_periodOf d [vi x0, vi x1] s0 (some (vi r)) s1 :=
  gMt_of (rv := rvI) (by decide +kernel) (Nat.le_of_ble_eq_true rfl) ⟨_, rfl, rfl⟩ (fun _ => wX0_periodOf hd) h
def fX2_clear (a0 : Nat) (s0 : gH) : Option (Unit × gH) :=
  (ggR s0 a0 2 0).bind fun v1 =>
  gb2 (fJ7_fill_d0a16 v1 0 s0) fun r2 s3 =>
  some ((), s3)
set_option maxRecDepth 100000 in
set_option maxHeartbeats 4000000 in
theorem wX2_clear {X : Nat × (Nat → Int32)} {d : Nat} (hd : 1 ≤ d) {a0 : Nat} {s0 : gH} : gGo X rvU mX2_clear d 0 [(0, vr a0)] [] s0 (fX2_clear a0 s0) := by
  unfold fX2_clear
  refine go_aload_n 0 dX2_clear_0 rfl rfl ?_
  refine go_getR gf_RX2_11 gcf_2 gft_2_0 dX2_clear_1 (fun v1 => ?_)
  refine go_lconst (v := 0) dX2_clear_4 (by decide) ?_
  refine go_callS_v (as := [vr v1, vl 0]) gk_RX2_15 gmf_J7_fill_d0a16 (by omega) rfl rfl (Nat.le_of_ble_eq_true rfl) dX2_clear_5 (fun _ _ h => cJ7_fill_d0a16_c (by omega) h) (fun r2 s3 _ => ?_)
  exact go_retv rfl dX2_clear_8
set_option maxRecDepth 100000 in
set_option maxHeartbeats 4000000 in
theorem cX2_clear_c {d : Nat} (hd : 1 ≤ d) {a0 : Nat} {s0 : gH} {r : Unit} {s1 : gH} (h : fX2_clear a0 s0 = some (r, s1)) : gMt mX2_clear d [vr a0] s0 none s1 :=
  gMt_of (rv := rvU) (by decide +kernel) (Nat.le_of_ble_eq_true rfl) rfl (fun _ => wX2_clear hd) h
def fX0_firstOfMonth (x0 : Int32) (x1 : Int32) (s0 : gH) : Option (Int32 × gH) :=
  gb2 (fX0_firstOfYear x0 s0) fun r1 s2 =>
  gb2 (fX0_daysAhead x0 x1 s2) fun r3 s4 =>
  some (r1 + r3, s4)
set_option maxRecDepth 100000 in
set_option maxHeartbeats 4000000 in
theorem wX0_firstOfMonth {X : Nat × (Nat → Int32)} {d : Nat} (hd : 1 ≤ d) {x0 : Int32} {x1 : Int32} {s0 : gH} : gGo X rvI mX0_firstOfMonth d 0 [(0, vi x0), (1, vi x1)] [] s0 (fX0_firstOfMonth x0 x1 s0) := by
  unfold fX0_firstOfMonth
  refine go_iload_n 0 dX0_firstOfMonth_0 rfl rfl ?_
  refine go_callS_I (as := [vi x0]) gk_RX0_15 gmf_X0_firstOfYear (by omega) rfl rfl (Nat.le_of_ble_eq_true rfl) dX0_firstOfMonth_1 (fun _ _ h => cX0_firstOfYear_c (by omega) h) (fun r1 s2 _ => ?_)
  refine go_iload_n 0 dX0_firstOfMonth_4 rfl rfl ?_
  refine go_iload_n 1 dX0_firstOfMonth_5 rfl rfl ?_
  refine go_callS_I (as := [vi x0, vi x1]) gk_RX0_19 gmf_X0_daysAhead (by omega) rfl rfl (Nat.le_of_ble_eq_true rfl) dX0_firstOfMonth_6 (fun _ _ h => cX0_daysAhead_c (by omega) h) (fun r3 s4 _ => ?_)
  refine go_iadd dX0_firstOfMonth_9 ?_
  exact go_ret rfl dX0_firstOfMonth_10
set_option maxRecDepth 100000 in
set_option maxHeartbeats 4000000 in
theorem cX0_firstOfMonth_c {d : Nat} (hd : 1 ≤ d) {x0 : Int32} {x1 : Int32} {s0 : gH} {r : Int32} {s1 : gH} (h : fX0_firstOfMonth x0 x1 s0 = some (r, s1)) : gMt mX0_firstOfMonth d [vi x0, vi x1] s0 (some (vi r)) s1 :=
  gMt_of (rv := rvI) (by decide +kernel) (Nat.le_of_ble_eq_true rfl) ⟨_, rfl, rfl⟩ (fun _ => wX0_firstOfMonth hd) h
def fX0_firstOfPeriod (x0 : Int32) (x1 : Int32) (s0 : gH) : Option (Int32 × gH) :=
  if x0 = 1 then
    some (gmax 0 ((x1 * 7) - 5), s0)
  else
    if x0 = 2 then
      gb2 (fX0_firstOfMonth (x1 / 12) ((gIrem x1 12) + 1) s0) fun r3 s4 =>
      some (r3, s4)
    else
      if x0 = 3 then
        gb2 (fX0_firstOfYear x1 s0) fun r6 s7 =>
        some (r6, s7)
      else
        some (x1, s0)
set_option maxRecDepth 100000 in
set_option maxHeartbeats 4000000 in
theorem wX0_firstOfPeriod {X : Nat × (Nat → Int32)} {d : Nat} (hd : 2 ≤ d) {x0 : Int32} {x1 : Int32} {s0 : gH} : gGo X rvI mX0_firstOfPeriod d 0 [(0, vi x0), (1, vi x1)] [] s0 (fX0_firstOfPeriod x0 x1 s0) := by
  unfold fX0_firstOfPeriod
  refine go_iload_n 0 dX0_firstOfPeriod_0 rfl rfl ?_
  refine go_ite (fun h1 => ?_) (fun h1 => ?_)
  · refine go_tsIn (v := 1) (off := 27) (tgt := 28) dX0_firstOfPeriod_1 h1 (by decide) (by decide) (by decide) (by decide) ?_
    refine go_iconst (v := 0) dX0_firstOfPeriod_28 (by decide) ?_
    refine go_iload_n 1 dX0_firstOfPeriod_29 rfl rfl ?_
    refine go_bipush (v := 7) dX0_firstOfPeriod_30 (by decide) ?_
    refine go_imul dX0_firstOfPeriod_32 ?_
    refine go_iconst (v := 5) dX0_firstOfPeriod_33 (by decide) ?_
    refine go_isub dX0_firstOfPeriod_34 ?_
    refine go_mmax gk_RX0_29.1 gmm_max2 gmm_3 gmm_max4 (Nat.le_of_ble_eq_true rfl) dX0_firstOfPeriod_35 ?_
    exact go_ret rfl dX0_firstOfPeriod_38
  · refine go_ite (fun h2 => ?_) (fun h2 => ?_)
    · refine go_tsIn (v := 2) (off := 38) (tgt := 39) dX0_firstOfPeriod_1 h2 (by decide) (by decide) (by decide) (by decide) ?_
      refine go_iload_n 1 dX0_firstOfPeriod_39 rfl rfl ?_
      refine go_bipush (v := 12) dX0_firstOfPeriod_40 (by decide) ?_
      refine go_idivc dX0_firstOfPeriod_42 (by decide) ?_
      refine go_iload_n 1 dX0_firstOfPeriod_43 rfl rfl ?_
      refine go_bipush (v := 12) dX0_firstOfPeriod_44 (by decide) ?_
      refine go_iremc dX0_firstOfPeriod_46 (by decide) ?_
      refine go_iconst (v := 1) dX0_firstOfPeriod_47 (by decide) ?_
      refine go_iadd dX0_firstOfPeriod_48 ?_
      refine go_callS_I (as := [vi (x1 / 12), vi ((gIrem x1 12) + 1)]) gk_RX0_34 gmf_X0_firstOfMonth (by omega) rfl rfl (Nat.le_of_ble_eq_true rfl) dX0_firstOfPeriod_49 (fun _ _ h => cX0_firstOfMonth_c (by omega) h) (fun r3 s4 _ => ?_)
      exact go_ret rfl dX0_firstOfPeriod_52
    · refine go_ite (fun h5 => ?_) (fun h5 => ?_)
      · refine go_tsIn (v := 3) (off := 52) (tgt := 53) dX0_firstOfPeriod_1 h5 (by decide) (by decide) (by decide) (by decide) ?_
        refine go_iload_n 1 dX0_firstOfPeriod_53 rfl rfl ?_
        refine go_callS_I (as := [vi x1]) gk_RX0_15 gmf_X0_firstOfYear (by omega) rfl rfl (Nat.le_of_ble_eq_true rfl) dX0_firstOfPeriod_54 (fun _ _ h => cX0_firstOfYear_c (by omega) h) (fun r6 s7 _ => ?_)
        exact go_ret rfl dX0_firstOfPeriod_57
      · refine go_tsOut (tgt := 58) dX0_firstOfPeriod_1 (by have gh1 := gts h1 (n := 1) (by decide); have gh2 := gts h2 (n := 2) (by decide); have gh5 := gts h5 (n := 3) (by decide); omega) (by decide) ?_
        refine go_iload_n 1 dX0_firstOfPeriod_58 rfl rfl ?_
        exact go_ret rfl dX0_firstOfPeriod_59
set_option maxRecDepth 100000 in
set_option maxHeartbeats 4000000 in
theorem cX0_firstOfPeriod_c {d : Nat} (hd : 2 ≤ d) {x0 : Int32} {x1 : Int32} {s0 : gH} {r : Int32} {s1 : gH} (h : fX0_firstOfPeriod x0 x1 s0 = some (r, s1)) : gMt mX0_firstOfPeriod d [vi x0, vi x1] s0 (some (vi r)) s1 :=
  gMt_of (rv := rvI) (by decide +kernel) (Nat.le_of_ble_eq_true rfl) ⟨_, rfl, rfl⟩ (fun _ => wX0_firstOfPeriod hd) h
def gX11_isDay (x0 : Int32) (s0 : gH) : Option (Int32 × gH) :=
  if x0 < 0 then
    some (0, s0)
  else
    if x0 < 14610 then
      some (1, s0)
    else
      some (0, s0)
def fX11_isDay (x0 : Int32) (s0 : gH) : Option (Int32 × gH) := gzr (gX11_isDay x0 s0)
set_option maxRecDepth 100000 in
set_option maxHeartbeats 4000000 in
theorem wX11_isDay {X : Nat × (Nat → Int32)} {d : Nat} (hd : 0 ≤ d) {x0 : Int32} {s0 : gH} : gGo X rvI mX11_isDay d 0 [(0, vi x0)] [] s0 (gX11_isDay x0 s0) := by
  unfold gX11_isDay
  refine go_iload_n 0 dX11_isDay_0 rfl rfl ?_
  refine go_if_lt (tgt := 15) dX11_isDay_1 (by decide) (fun h1 => ?_) (fun h1 => ?_)
  · refine go_iconst (v := 0) dX11_isDay_15 (by decide) ?_
    exact go_ret rfl dX11_isDay_16
  · refine go_iload_n 0 dX11_isDay_4 rfl rfl ?_
    refine go_sipush (v := 14610) dX11_isDay_5 (by decide) ?_
    refine go_icmp_ge (tgt := 15) dX11_isDay_8 (by decide) (fun h2 => ?_) (fun h2 => ?_)
    · refine go_iconst (v := 1) dX11_isDay_11 (by decide) ?_
      refine go_goto (tgt := 16) dX11_isDay_12 (by decide) ?_
      exact go_ret rfl dX11_isDay_16
    · refine go_iconst (v := 0) dX11_isDay_15 (by decide) ?_
      exact go_ret rfl dX11_isDay_16
set_option maxRecDepth 100000 in
set_option maxHeartbeats 4000000 in
theorem cX11_isDay_c {d : Nat} (hd : 0 ≤ d) {x0 : Int32} {s0 : gH} {r : Int32} {s1 : gH} (h : fX11_isDay x0 s0 = some (r, s1)) : gMt mX11_isDay d [vi x0] s0 (some (vi r)) s1 := by
  obtain ⟨h1, h2⟩ := gzr_some h
  exact gMt_of (rv := rvI) (by decide +kernel) (Nat.le_of_ble_eq_true rfl) ⟨_, rfl, gnarZ h2⟩ (fun _ => wX11_isDay hd) h1
def fX0_weekdayOf (x0 : Int32) (s0 : gH) : Option (Int32 × gH) :=
  some (gIrem (x0 + 5) 7, s0)
set_option maxRecDepth 100000 in
set_option maxHeartbeats 4000000 in
theorem wX0_weekdayOf {X : Nat × (Nat → Int32)} {d : Nat} (hd : 0 ≤ d) {x0 : Int32} {s0 : gH} : gGo X rvI mX0_weekdayOf d 0 [(0, vi x0)] [] s0 (fX0_weekdayOf x0 s0) := by
  unfold fX0_weekdayOf
  refine go_iload_n 0 dX0_weekdayOf_0 rfl rfl ?_
  refine go_iconst (v := 5) dX0_weekdayOf_1 (by decide) ?_
  refine go_iadd dX0_weekdayOf_2 ?_
  refine go_bipush (v := 7) dX0_weekdayOf_3 (by decide) ?_
  refine go_iremc dX0_weekdayOf_5 (by decide) ?_
  exact go_ret rfl dX0_weekdayOf_6
set_option maxRecDepth 100000 in
set_option maxHeartbeats 4000000 in
theorem cX0_weekdayOf_c {d : Nat} (hd : 0 ≤ d) {x0 : Int32} {s0 : gH} {r : Int32} {s1 : gH} (h : fX0_weekdayOf x0 s0 = some (r, s1)) : gMt mX0_weekdayOf d [vi x0] s0 (some (vi r)) s1 :=
  gMt_of (rv := rvI) (by decide +kernel) (Nat.le_of_ble_eq_true rfl) ⟨_, rfl, rfl⟩ (fun _ => wX0_weekdayOf hd) h
def gX0_moveTo_L71 (k110 : gH → Option (Unit × gH)) (a0 : Nat) : Nat → gH → Option (Unit × gH)
  | 0, _ => none
  | n + 1, s0 =>
    (ggI s0 a0 0 2).bind fun v24 =>
    if 1 < v24 then
      (ggI s0 a0 0 1).bind fun v26 =>
      (ggI s0 a0 0 2).bind fun v27 =>
      gb2 (fX0_daysAhead v26 v27 s0) fun r28 s29 =>
      (ggI s29 a0 0 6).bind fun v30 =>
      if r28 < v30 then
        k110 s29
      else
        (ggI s29 a0 0 2).bind fun v32 =>
        (spI s29 a0 0 2 (v32 - 1)).bind fun s33 =>
        gX0_moveTo_L71 k110 a0 n s33
    else
      k110 s0
set_option maxRecDepth 100000 in
set_option maxHeartbeats 4000000 in
theorem wX0_moveTo_L71 {X : Nat × (Nat → Int32)} {d : Nat} (hd : 1 ≤ d) (k110 : gH → Option (Unit × gH)) (a0 : Nat) (hk110 : ∀ (s : gH), gGo X rvU mX0_moveTo d 110 [(0, vr a0)] [] s (k110 s)) : ∀ (n : Nat)  (s0 : gH), gGo X rvU mX0_moveTo d 71 [(0, vr a0)] [] s0 (gX0_moveTo_L71 k110 a0 n  s0) := by
  intro n
  induction n with
  | zero => intros; exact go_none
  | succ n ih =>
    intro  s0
    show gGo _ _ _ _ _ _ _ _ (gX0_moveTo_L71 k110 a0 (n + 1)  s0)
    unfold gX0_moveTo_L71
    refine go_aload_n 0 dX0_moveTo_71 rfl rfl ?_
    refine go_getI gf_RX0_60 gcf_0 gft_0_2 dX0_moveTo_72 (fun v24 => ?_)
    refine go_iconst (v := 1) dX0_moveTo_75 (by decide) ?_
    refine go_icmp_le (tgt := 110) dX0_moveTo_76 (by decide) (fun h25 => ?_) (fun h25 => ?_)
    · refine go_aload_n 0 dX0_moveTo_79 rfl rfl ?_
      refine go_getI gf_RX0_51 gcf_0 gft_0_1 dX0_moveTo_80 (fun v26 => ?_)
      refine go_aload_n 0 dX0_moveTo_83 rfl rfl ?_
      refine go_getI gf_RX0_60 gcf_0 gft_0_2 dX0_moveTo_84 (fun v27 => ?_)
      refine go_callS_I (as := [vi v26, vi v27]) gk_RX0_19 gmf_X0_daysAhead (by omega) rfl rfl (Nat.le_of_ble_eq_true rfl) dX0_moveTo_87 (fun _ _ h => cX0_daysAhead_c (by omega) h) (fun r28 s29 _ => ?_)
      refine go_aload_n 0 dX0_moveTo_90 rfl rfl ?_
      refine go_getI gf_RX0_54 gcf_0 gft_0_6 dX0_moveTo_91 (fun v30 => ?_)
      refine go_icmp_lt (tgt := 110) dX0_moveTo_94 (by decide) (fun h31 => ?_) (fun h31 => ?_)
      · exact go_sub [0] (hk110 s29) rfl
      · refine go_aload_n 0 dX0_moveTo_97 rfl rfl ?_
        refine go_dup dX0_moveTo_98 rfl ?_
        refine go_getI gf_RX0_60 gcf_0 gft_0_2 dX0_moveTo_99 (fun v32 => ?_)
        refine go_iconst (v := 1) dX0_moveTo_102 (by decide) ?_
        refine go_isub dX0_moveTo_103 ?_
        refine go_putI gf_RX0_60 gcf_0 gpl_0_2 gft_0_2 dX0_moveTo_104 (fun s33 _ => ?_)
        refine go_goto (tgt := 71) dX0_moveTo_107 (by decide) ?_
        exact go_sub [0] (ih s33) rfl
    · exact go_sub [0] (hk110 s0) rfl
def fX0_moveTo (a0 : Nat) (x1 : Int32) (s0 : gH) : Option (Unit × gH) :=
  gb2 (fX11_isDay x1 s0) fun r1 s2 =>
  if r1 = 0 then
    some ((), s2)
  else
    (spI s2 a0 0 0 x1).bind fun s4 =>
    gb2 (fX0_weekdayOf x1 s4) fun r5 s6 =>
    (spI s6 a0 0 4 r5).bind fun s7 =>
    gb2 (fX0_yearOf x1 s7) fun r8 s9 =>
    (spI s9 a0 0 1 r8).bind fun s10 =>
    (ggI s10 a0 0 1).bind fun v11 =>
    gb2 (fX0_firstOfYear v11 s10) fun r12 s13 =>
    (spI s13 a0 0 6 ((x1 - r12) + 1)).bind fun s14 =>
    (ggI s14 a0 0 1).bind fun v15 =>
    gb2 (fX0_firstOfYear (v15 + 1) s14) fun r16 s17 =>
    (ggI s17 a0 0 1).bind fun v18 =>
    gb2 (fX0_firstOfYear v18 s17) fun r19 s20 =>
    (spI s20 a0 0 7 (r16 - r19)).bind fun s21 =>
    (spI s21 a0 0 2 12).bind fun s22 =>
    gX0_moveTo_L71
      (fun s34 =>
        (ggI s34 a0 0 6).bind fun v35 =>
        (ggI s34 a0 0 1).bind fun v36 =>
        (ggI s34 a0 0 2).bind fun v37 =>
        gb2 (fX0_daysAhead v36 v37 s34) fun r38 s39 =>
        (spI s39 a0 0 3 (v35 - r38)).bind fun s40 =>
        (ggI s40 a0 0 1).bind fun v41 =>
        (ggI s40 a0 0 2).bind fun v42 =>
        gb2 (fX0_daysAhead v41 (v42 + 1) s40) fun r43 s44 =>
        (ggI s44 a0 0 1).bind fun v45 =>
        (ggI s44 a0 0 2).bind fun v46 =>
        gb2 (fX0_daysAhead v45 v46 s44) fun r47 s48 =>
        (spI s48 a0 0 5 (r43 - r47)).bind fun s49 =>
        some ((), s49))
      a0 20000 s22
set_option maxRecDepth 100000 in
set_option maxHeartbeats 4000000 in
theorem wX0_moveTo {X : Nat × (Nat → Int32)} {d : Nat} (hd : 1 ≤ d) {a0 : Nat} {x1 : Int32} {s0 : gH} : gGo X rvU mX0_moveTo d 0 [(0, vr a0), (1, vi x1)] [] s0 (fX0_moveTo a0 x1 s0) := by
  unfold fX0_moveTo
  refine go_iload_n 1 dX0_moveTo_0 rfl rfl ?_
  refine go_callSN_I (as := [vi x1]) (List.mem_of_getElem? (i := 7) rfl) gst_X11_isDay gmf_X11_isDay (by omega) rfl rfl (Nat.le_of_ble_eq_true rfl) dX0_moveTo_1 (fun _ _ h => cX11_isDay_c (by omega) h) (fun r1 s2 _ => ?_)
  refine go_if_ne (tgt := 8) dX0_moveTo_4 (by decide) (fun h3 => ?_) (fun h3 => ?_)
  · exact go_retv rfl dX0_moveTo_7
  · refine go_aload_n 0 dX0_moveTo_8 rfl rfl ?_
    refine go_iload_n 1 dX0_moveTo_9 rfl rfl ?_
    refine go_putI gf_RX0_41 gcf_0 gpl_0_0 gft_0_0 dX0_moveTo_10 (fun s4 _ => ?_)
    refine go_aload_n 0 dX0_moveTo_13 rfl rfl ?_
    refine go_iload_n 1 dX0_moveTo_14 rfl rfl ?_
    refine go_callS_I (as := [vi x1]) gk_RX0_45 gmf_X0_weekdayOf (by omega) rfl rfl (Nat.le_of_ble_eq_true rfl) dX0_moveTo_15 (fun _ _ h => cX0_weekdayOf_c (by omega) h) (fun r5 s6 _ => ?_)
    refine go_putI gf_RX0_48 gcf_0 gpl_0_4 gft_0_4 dX0_moveTo_18 (fun s7 _ => ?_)
    refine go_aload_n 0 dX0_moveTo_21 rfl rfl ?_
    refine go_iload_n 1 dX0_moveTo_22 rfl rfl ?_
    refine go_callS_I (as := [vi x1]) gk_RX0_23 gmf_X0_yearOf (by omega) rfl rfl (Nat.le_of_ble_eq_true rfl) dX0_moveTo_23 (fun _ _ h => cX0_yearOf_c (by omega) h) (fun r8 s9 _ => ?_)
    refine go_putI gf_RX0_51 gcf_0 gpl_0_1 gft_0_1 dX0_moveTo_26 (fun s10 _ => ?_)
    refine go_aload_n 0 dX0_moveTo_29 rfl rfl ?_
    refine go_iload_n 1 dX0_moveTo_30 rfl rfl ?_
    refine go_aload_n 0 dX0_moveTo_31 rfl rfl ?_
    refine go_getI gf_RX0_51 gcf_0 gft_0_1 dX0_moveTo_32 (fun v11 => ?_)
    refine go_callS_I (as := [vi v11]) gk_RX0_15 gmf_X0_firstOfYear (by omega) rfl rfl (Nat.le_of_ble_eq_true rfl) dX0_moveTo_35 (fun _ _ h => cX0_firstOfYear_c (by omega) h) (fun r12 s13 _ => ?_)
    refine go_isub dX0_moveTo_38 ?_
    refine go_iconst (v := 1) dX0_moveTo_39 (by decide) ?_
    refine go_iadd dX0_moveTo_40 ?_
    refine go_putI gf_RX0_54 gcf_0 gpl_0_6 gft_0_6 dX0_moveTo_41 (fun s14 _ => ?_)
    refine go_aload_n 0 dX0_moveTo_44 rfl rfl ?_
    refine go_aload_n 0 dX0_moveTo_45 rfl rfl ?_
    refine go_getI gf_RX0_51 gcf_0 gft_0_1 dX0_moveTo_46 (fun v15 => ?_)
    refine go_iconst (v := 1) dX0_moveTo_49 (by decide) ?_
    refine go_iadd dX0_moveTo_50 ?_
    refine go_callS_I (as := [vi (v15 + 1)]) gk_RX0_15 gmf_X0_firstOfYear (by omega) rfl rfl (Nat.le_of_ble_eq_true rfl) dX0_moveTo_51 (fun _ _ h => cX0_firstOfYear_c (by omega) h) (fun r16 s17 _ => ?_)
    refine go_aload_n 0 dX0_moveTo_54 rfl rfl ?_
    refine go_getI gf_RX0_51 gcf_0 gft_0_1 dX0_moveTo_55 (fun v18 => ?_)
    refine go_callS_I (as := [vi v18]) gk_RX0_15 gmf_X0_firstOfYear (by omega) rfl rfl (Nat.le_of_ble_eq_true rfl) dX0_moveTo_58 (fun _ _ h => cX0_firstOfYear_c (by omega) h) (fun r19 s20 _ => ?_)
    refine go_isub dX0_moveTo_61 ?_
    refine go_putI gf_RX0_57 gcf_0 gpl_0_7 gft_0_7 dX0_moveTo_62 (fun s21 _ => ?_)
    refine go_aload_n 0 dX0_moveTo_65 rfl rfl ?_
    refine go_bipush (v := 12) dX0_moveTo_66 (by decide) ?_
    refine go_putI gf_RX0_60 gcf_0 gpl_0_2 gft_0_2 dX0_moveTo_68 (fun s22 _ => ?_)
    refine go_sub [0] (wX0_moveTo_L71 hd _ a0 ?_ 20000 s22) rfl
    intro s34
    refine go_aload_n 0 dX0_moveTo_110 rfl rfl ?_
    refine go_aload_n 0 dX0_moveTo_111 rfl rfl ?_
    refine go_getI gf_RX0_54 gcf_0 gft_0_6 dX0_moveTo_112 (fun v35 => ?_)
    refine go_aload_n 0 dX0_moveTo_115 rfl rfl ?_
    refine go_getI gf_RX0_51 gcf_0 gft_0_1 dX0_moveTo_116 (fun v36 => ?_)
    refine go_aload_n 0 dX0_moveTo_119 rfl rfl ?_
    refine go_getI gf_RX0_60 gcf_0 gft_0_2 dX0_moveTo_120 (fun v37 => ?_)
    refine go_callS_I (as := [vi v36, vi v37]) gk_RX0_19 gmf_X0_daysAhead (by omega) rfl rfl (Nat.le_of_ble_eq_true rfl) dX0_moveTo_123 (fun _ _ h => cX0_daysAhead_c (by omega) h) (fun r38 s39 _ => ?_)
    refine go_isub dX0_moveTo_126 ?_
    refine go_putI gf_RX0_63 gcf_0 gpl_0_3 gft_0_3 dX0_moveTo_127 (fun s40 _ => ?_)
    refine go_aload_n 0 dX0_moveTo_130 rfl rfl ?_
    refine go_aload_n 0 dX0_moveTo_131 rfl rfl ?_
    refine go_getI gf_RX0_51 gcf_0 gft_0_1 dX0_moveTo_132 (fun v41 => ?_)
    refine go_aload_n 0 dX0_moveTo_135 rfl rfl ?_
    refine go_getI gf_RX0_60 gcf_0 gft_0_2 dX0_moveTo_136 (fun v42 => ?_)
    refine go_iconst (v := 1) dX0_moveTo_139 (by decide) ?_
    refine go_iadd dX0_moveTo_140 ?_
    refine go_callS_I (as := [vi v41, vi (v42 + 1)]) gk_RX0_19 gmf_X0_daysAhead (by omega) rfl rfl (Nat.le_of_ble_eq_true rfl) dX0_moveTo_141 (fun _ _ h => cX0_daysAhead_c (by omega) h) (fun r43 s44 _ => ?_)
    refine go_aload_n 0 dX0_moveTo_144 rfl rfl ?_
    refine go_getI gf_RX0_51 gcf_0 gft_0_1 dX0_moveTo_145 (fun v45 => ?_)
    refine go_aload_n 0 dX0_moveTo_148 rfl rfl ?_
    refine go_getI gf_RX0_60 gcf_0 gft_0_2 dX0_moveTo_149 (fun v46 => ?_)
    refine go_callS_I (as := [vi v45, vi v46]) gk_RX0_19 gmf_X0_daysAhead (by omega) rfl rfl (Nat.le_of_ble_eq_true rfl) dX0_moveTo_152 (fun _ _ h => cX0_daysAhead_c (by omega) h) (fun r47 s48 _ => ?_)
    refine go_isub dX0_moveTo_155 ?_
    refine go_putI gf_RX0_66 gcf_0 gpl_0_5 gft_0_5 dX0_moveTo_156 (fun s49 _ => ?_)
    exact go_retv rfl dX0_moveTo_159
set_option maxRecDepth 100000 in
set_option maxHeartbeats 4000000 in
theorem cX0_moveTo_c {d : Nat} (hd : 1 ≤ d) {a0 : Nat} {x1 : Int32} {s0 : gH} {r : Unit} {s1 : gH} (h : fX0_moveTo a0 x1 s0 = some (r, s1)) : gMt mX0_moveTo d [vr a0, vi x1] s0 none s1 :=
  gMt_of (rv := rvU) (by decide +kernel) (Nat.le_of_ble_eq_true rfl) rfl (fun _ => wX0_moveTo hd) h
def gX8_dateTold (a0 : Nat) (a1 : Nat) (s0 : gH) : Option (Int32 × gH) :=
  (ggI s0 a0 8 12).bind fun v1 =>
  if v1 = 0 then
    some (1, s0)
  else
    (ggI s0 a0 8 9).bind fun v3 =>
    (ggI s0 a1 0 3).bind fun v4 =>
    if (v3 >>> (v4 &&& 31)) &&& 1 = 0 then
      (ggI s0 a0 8 10).bind fun v6 =>
      (ggI s0 a1 0 5).bind fun v7 =>
      (ggI s0 a1 0 3).bind fun v8 =>
      if (v6 >>> (((v7 + 1) - v8) &&& 31)) &&& 1 = 0 then
        some (0, s0)
      else
        some (1, s0)
    else
      some (1, s0)
def fX8_dateTold (a0 : Nat) (a1 : Nat) (s0 : gH) : Option (Int32 × gH) := gzr (gX8_dateTold a0 a1 s0)
set_option maxRecDepth 100000 in
set_option maxHeartbeats 4000000 in
theorem wX8_dateTold {X : Nat × (Nat → Int32)} {d : Nat} (hd : 0 ≤ d) {a0 : Nat} {a1 : Nat} {s0 : gH} : gGo X rvI mX8_dateTold d 0 [(0, vr a0), (1, vr a1)] [] s0 (gX8_dateTold a0 a1 s0) := by
  unfold gX8_dateTold
  refine go_aload_n 0 dX8_dateTold_0 rfl rfl ?_
  refine go_getI gf_RX8_36 gcf_8 gft_8_12 dX8_dateTold_1 (fun v1 => ?_)
  refine go_if_eq (tgt := 42) dX8_dateTold_4 (by decide) (fun h2 => ?_) (fun h2 => ?_)
  · refine go_iconst (v := 1) dX8_dateTold_42 (by decide) ?_
    refine go_goto (tgt := 47) dX8_dateTold_43 (by decide) ?_
    exact go_ret rfl dX8_dateTold_47
  · refine go_aload_n 0 dX8_dateTold_7 rfl rfl ?_
    refine go_getI gf_RX8_27 gcf_8 gft_8_9 dX8_dateTold_8 (fun v3 => ?_)
    refine go_aload_n 1 dX8_dateTold_11 rfl rfl ?_
    refine go_getI gf_RX8_114 gcf_0 gft_0_3 dX8_dateTold_12 (fun v4 => ?_)
    refine go_ishr dX8_dateTold_15 ?_
    refine go_iconst (v := 1) dX8_dateTold_16 (by decide) ?_
    refine go_iand dX8_dateTold_17 ?_
    refine go_if_ne (tgt := 42) dX8_dateTold_18 (by decide) (fun h5 => ?_) (fun h5 => ?_)
    · refine go_aload_n 0 dX8_dateTold_21 rfl rfl ?_
      refine go_getI gf_RX8_30 gcf_8 gft_8_10 dX8_dateTold_22 (fun v6 => ?_)
      refine go_aload_n 1 dX8_dateTold_25 rfl rfl ?_
      refine go_getI gf_RX8_117 gcf_0 gft_0_5 dX8_dateTold_26 (fun v7 => ?_)
      refine go_iconst (v := 1) dX8_dateTold_29 (by decide) ?_
      refine go_iadd dX8_dateTold_30 ?_
      refine go_aload_n 1 dX8_dateTold_31 rfl rfl ?_
      refine go_getI gf_RX8_114 gcf_0 gft_0_3 dX8_dateTold_32 (fun v8 => ?_)
      refine go_isub dX8_dateTold_35 ?_
      refine go_ishr dX8_dateTold_36 ?_
      refine go_iconst (v := 1) dX8_dateTold_37 (by decide) ?_
      refine go_iand dX8_dateTold_38 ?_
      refine go_if_eq (tgt := 46) dX8_dateTold_39 (by decide) (fun h9 => ?_) (fun h9 => ?_)
      · refine go_iconst (v := 0) dX8_dateTold_46 (by decide) ?_
        exact go_ret rfl dX8_dateTold_47
      · refine go_iconst (v := 1) dX8_dateTold_42 (by decide) ?_
        refine go_goto (tgt := 47) dX8_dateTold_43 (by decide) ?_
        exact go_ret rfl dX8_dateTold_47
    · refine go_iconst (v := 1) dX8_dateTold_42 (by decide) ?_
      refine go_goto (tgt := 47) dX8_dateTold_43 (by decide) ?_
      exact go_ret rfl dX8_dateTold_47
set_option maxRecDepth 100000 in
set_option maxHeartbeats 4000000 in
theorem cX8_dateTold_c {d : Nat} (hd : 0 ≤ d) {a0 : Nat} {a1 : Nat} {s0 : gH} {r : Int32} {s1 : gH} (h : fX8_dateTold a0 a1 s0 = some (r, s1)) : gMt mX8_dateTold d [vr a0, vr a1] s0 (some (vi r)) s1 := by
  obtain ⟨h1, h2⟩ := gzr_some h
  exact gMt_of (rv := rvI) (by decide +kernel) (Nat.le_of_ble_eq_true rfl) ⟨_, rfl, gnarZ h2⟩ (fun _ => wX8_dateTold hd) h1
def gX8_weekdayTold (a0 : Nat) (a1 : Nat) (s0 : gH) : Option (Int32 × gH) :=
  (ggR s0 a0 8 13).bind fun v1 =>
  (ggI s0 v1 7 1).bind fun v2 =>
  if v2 = 0 then
    some (1, s0)
  else
    (ggI s0 a0 8 11).bind fun v4 =>
    (ggI s0 a1 0 4).bind fun v5 =>
    if (v4 >>> (v5 &&& 31)) &&& 1 = 0 then
      some (0, s0)
    else
      some (1, s0)
def fX8_weekdayTold (a0 : Nat) (a1 : Nat) (s0 : gH) : Option (Int32 × gH) := gzr (gX8_weekdayTold a0 a1 s0)
set_option maxRecDepth 100000 in
set_option maxHeartbeats 4000000 in
theorem wX8_weekdayTold {X : Nat × (Nat → Int32)} {d : Nat} (hd : 0 ≤ d) {a0 : Nat} {a1 : Nat} {s0 : gH} : gGo X rvI mX8_weekdayTold d 0 [(0, vr a0), (1, vr a1)] [] s0 (gX8_weekdayTold a0 a1 s0) := by
  unfold gX8_weekdayTold
  refine go_aload_n 0 dX8_weekdayTold_0 rfl rfl ?_
  refine go_getR gf_RX8_14 gcf_8 gft_8_13 dX8_weekdayTold_1 (fun v1 => ?_)
  refine go_getI gf_RX8_76 gcf_7 gft_7_1 dX8_weekdayTold_4 (fun v2 => ?_)
  refine go_if_eq (tgt := 24) dX8_weekdayTold_7 (by decide) (fun h3 => ?_) (fun h3 => ?_)
  · refine go_iconst (v := 1) dX8_weekdayTold_24 (by decide) ?_
    refine go_goto (tgt := 29) dX8_weekdayTold_25 (by decide) ?_
    exact go_ret rfl dX8_weekdayTold_29
  · refine go_aload_n 0 dX8_weekdayTold_10 rfl rfl ?_
    refine go_getI gf_RX8_33 gcf_8 gft_8_11 dX8_weekdayTold_11 (fun v4 => ?_)
    refine go_aload_n 1 dX8_weekdayTold_14 rfl rfl ?_
    refine go_getI gf_RX8_105 gcf_0 gft_0_4 dX8_weekdayTold_15 (fun v5 => ?_)
    refine go_ishr dX8_weekdayTold_18 ?_
    refine go_iconst (v := 1) dX8_weekdayTold_19 (by decide) ?_
    refine go_iand dX8_weekdayTold_20 ?_
    refine go_if_eq (tgt := 28) dX8_weekdayTold_21 (by decide) (fun h6 => ?_) (fun h6 => ?_)
    · refine go_iconst (v := 0) dX8_weekdayTold_28 (by decide) ?_
      exact go_ret rfl dX8_weekdayTold_29
    · refine go_iconst (v := 1) dX8_weekdayTold_24 (by decide) ?_
      refine go_goto (tgt := 29) dX8_weekdayTold_25 (by decide) ?_
      exact go_ret rfl dX8_weekdayTold_29
set_option maxRecDepth 100000 in
set_option maxHeartbeats 4000000 in
theorem cX8_weekdayTold_c {d : Nat} (hd : 0 ≤ d) {a0 : Nat} {a1 : Nat} {s0 : gH} {r : Int32} {s1 : gH} (h : fX8_weekdayTold a0 a1 s0 = some (r, s1)) : gMt mX8_weekdayTold d [vr a0, vr a1] s0 (some (vi r)) s1 := by
  obtain ⟨h1, h2⟩ := gzr_some h
  exact gMt_of (rv := rvI) (by decide +kernel) (Nat.le_of_ble_eq_true rfl) ⟨_, rfl, gnarZ h2⟩ (fun _ => wX8_weekdayTold hd) h1
def gX8_placeTold_L23  (a0 : Nat) (x1 : Int32) (x4 : Int32) (x5 : Int32) : Nat → Int32 → gH → Option (Int32 × gH)
  | 0, _, _ => none
  | n + 1, x6, s0 =>
    (ggR s0 a0 8 13).bind fun v4 =>
    (ggI s0 v4 7 1).bind fun v5 =>
    if x6 < v5 then
      (ggR s0 a0 8 13).bind fun v7 =>
      (ggR s0 v7 7 0).bind fun v8 =>
      (glen s0 v8).bind fun v9 =>
      if x6 < v9 then
        (ggR s0 a0 8 13).bind fun v11 =>
        (ggR s0 v11 7 0).bind fun v12 =>
        (gaI s0 v12 2 x6).bind fun v13 =>
        glet (v13 >>> (3 &&& 31)) fun y14 =>
        (ggR s0 a0 8 13).bind fun v15 =>
        (ggR s0 v15 7 0).bind fun v16 =>
        (gaI s0 v16 2 x6).bind fun v17 =>
        if v17 &&& 7 = x1 then
          if y14 = 0 then
            some (1, s0)
          else
            if y14 = x4 then
              some (1, s0)
            else
              if y14 = -x5 then
                some (1, s0)
              else
                gX8_placeTold_L23 a0 x1 x4 x5 n (x6 + 1) s0
        else
          gX8_placeTold_L23 a0 x1 x4 x5 n (x6 + 1) s0
      else
        some (0, s0)
    else
      some (0, s0)
set_option maxRecDepth 100000 in
set_option maxHeartbeats 4000000 in
theorem wX8_placeTold_L23 {X : Nat × (Nat → Int32)} {d : Nat} (hd : 0 ≤ d)  (a0 : Nat) (x1 : Int32) (x4 : Int32) (x5 : Int32) : ∀ (n : Nat) (x6 : Int32) (s0 : gH), gGo X rvI mX8_placeTold d 23 [(0, vr a0), (1, vi x1), (4, vi x4), (5, vi x5), (6, vi x6)] [] s0 (gX8_placeTold_L23 a0 x1 x4 x5 n x6 s0) := by
  intro n
  induction n with
  | zero => intros; exact go_none
  | succ n ih =>
    intro x6 s0
    show gGo _ _ _ _ _ _ _ _ (gX8_placeTold_L23 a0 x1 x4 x5 (n + 1) x6 s0)
    unfold gX8_placeTold_L23
    refine go_iload 4 dX8_placeTold_23 rfl ?_
    refine go_aload_n 0 dX8_placeTold_25 rfl rfl ?_
    refine go_getR gf_RX8_14 gcf_8 gft_8_13 dX8_placeTold_26 (fun v4 => ?_)
    refine go_getI gf_RX8_76 gcf_7 gft_7_1 dX8_placeTold_29 (fun v5 => ?_)
    refine go_icmp_ge (tgt := 107) dX8_placeTold_32 (by decide) (fun h6 => ?_) (fun h6 => ?_)
    · refine go_iload 4 dX8_placeTold_35 rfl ?_
      refine go_aload_n 0 dX8_placeTold_37 rfl rfl ?_
      refine go_getR gf_RX8_14 gcf_8 gft_8_13 dX8_placeTold_38 (fun v7 => ?_)
      refine go_getR gf_RX8_130 gcf_7 gft_7_0 dX8_placeTold_41 (fun v8 => ?_)
      refine go_alen dX8_placeTold_44 (fun v9 _ => ?_)
      refine go_icmp_ge (tgt := 107) dX8_placeTold_45 (by decide) (fun h10 => ?_) (fun h10 => ?_)
      · refine go_aload_n 0 dX8_placeTold_48 rfl rfl ?_
        refine go_getR gf_RX8_14 gcf_8 gft_8_13 dX8_placeTold_49 (fun v11 => ?_)
        refine go_getR gf_RX8_130 gcf_7 gft_7_0 dX8_placeTold_52 (fun v12 => ?_)
        refine go_iload 4 dX8_placeTold_55 rfl ?_
        refine go_iaload dX8_placeTold_57 (fun v13 _ => ?_)
        refine go_iconst (v := 3) dX8_placeTold_58 (by decide) ?_
        refine go_ishr dX8_placeTold_59 ?_
        refine go_istore_l (L' := fun y14 => [(7, vi y14), (0, vr a0), (1, vi x1), (4, vi x4), (5, vi x5), (6, vi x6)]) dX8_placeTold_60 (by decide) (fun _ => rfl) (fun y14 => ?_)
        refine go_aload_n 1 dX8_placeTold_62 rfl rfl ?_
        refine go_getR gf_RX8_14 gcf_8 gft_8_13 dX8_placeTold_63 (fun v15 => ?_)
        refine go_getR gf_RX8_130 gcf_7 gft_7_0 dX8_placeTold_66 (fun v16 => ?_)
        refine go_iload 5 dX8_placeTold_69 rfl ?_
        refine go_iaload dX8_placeTold_71 (fun v17 _ => ?_)
        refine go_bipush (v := 7) dX8_placeTold_72 (by decide) ?_
        refine go_iand dX8_placeTold_74 ?_
        refine go_iload_n 2 dX8_placeTold_75 rfl rfl ?_
        refine go_icmp_ne (tgt := 101) dX8_placeTold_76 (by decide) (fun h18 => ?_) (fun h18 => ?_)
        · refine go_iload 0 dX8_placeTold_79 rfl ?_
          refine go_if_eq (tgt := 99) dX8_placeTold_81 (by decide) (fun h19 => ?_) (fun h19 => ?_)
          · refine go_iconst (v := 1) dX8_placeTold_99 (by decide) ?_
            exact go_ret rfl dX8_placeTold_100
          · refine go_iload 0 dX8_placeTold_84 rfl ?_
            refine go_iload 3 dX8_placeTold_86 rfl ?_
            refine go_icmp_eq (tgt := 99) dX8_placeTold_88 (by decide) (fun h20 => ?_) (fun h20 => ?_)
            · refine go_iconst (v := 1) dX8_placeTold_99 (by decide) ?_
              exact go_ret rfl dX8_placeTold_100
            · refine go_iload 0 dX8_placeTold_91 rfl ?_
              refine go_iload 4 dX8_placeTold_93 rfl ?_
              refine go_ineg dX8_placeTold_95 ?_
              refine go_icmp_ne (tgt := 101) dX8_placeTold_96 (by decide) (fun h21 => ?_) (fun h21 => ?_)
              · refine go_iconst (v := 1) dX8_placeTold_99 (by decide) ?_
                exact go_ret rfl dX8_placeTold_100
              · refine go_iinc (v := 1) (L' := [(6, vi (x6 + 1)), (7, vi y14), (0, vr a0), (1, vi x1), (4, vi x4), (5, vi x5)]) 5 dX8_placeTold_101 rfl (by decide) (by decide) rfl ?_
                refine go_goto (tgt := 23) dX8_placeTold_104 (by decide) ?_
                exact go_sub [2, 3, 4, 5, 0] (ih (x6 + 1) s0) rfl
        · refine go_iinc (v := 1) (L' := [(6, vi (x6 + 1)), (7, vi y14), (0, vr a0), (1, vi x1), (4, vi x4), (5, vi x5)]) 5 dX8_placeTold_101 rfl (by decide) (by decide) rfl ?_
          refine go_goto (tgt := 23) dX8_placeTold_104 (by decide) ?_
          exact go_sub [2, 3, 4, 5, 0] (ih (x6 + 1) s0) rfl
      · refine go_iconst (v := 0) dX8_placeTold_107 (by decide) ?_
        exact go_ret rfl dX8_placeTold_108
    · refine go_iconst (v := 0) dX8_placeTold_107 (by decide) ?_
      exact go_ret rfl dX8_placeTold_108
def gX8_placeTold (a0 : Nat) (x1 : Int32) (x2 : Int32) (x3 : Int32) (s0 : gH) : Option (Int32 × gH) :=
  glet (((x2 - 1) / 7) + 1) fun y1 =>
  glet (((x3 - x2) / 7) + 1) fun y2 =>
  gX8_placeTold_L23
    a0 x1 y1 y2 20000 0 s0
def fX8_placeTold (a0 : Nat) (x1 : Int32) (x2 : Int32) (x3 : Int32) (s0 : gH) : Option (Int32 × gH) := gzr (gX8_placeTold a0 x1 x2 x3 s0)
set_option maxRecDepth 100000 in
set_option maxHeartbeats 4000000 in
theorem wX8_placeTold {X : Nat × (Nat → Int32)} {d : Nat} (hd : 0 ≤ d) {a0 : Nat} {x1 : Int32} {x2 : Int32} {x3 : Int32} {s0 : gH} : gGo X rvI mX8_placeTold d 0 [(0, vr a0), (1, vi x1), (2, vi x2), (3, vi x3)] [] s0 (gX8_placeTold a0 x1 x2 x3 s0) := by
  unfold gX8_placeTold
  refine go_iload_n 2 dX8_placeTold_0 rfl rfl ?_
  refine go_iconst (v := 1) dX8_placeTold_1 (by decide) ?_
  refine go_isub dX8_placeTold_2 ?_
  refine go_bipush (v := 7) dX8_placeTold_3 (by decide) ?_
  refine go_idivc dX8_placeTold_5 (by decide) ?_
  refine go_iconst (v := 1) dX8_placeTold_6 (by decide) ?_
  refine go_iadd dX8_placeTold_7 ?_
  refine go_istore_l (L' := fun y1 => [(4, vi y1), (0, vr a0), (1, vi x1), (2, vi x2), (3, vi x3)]) dX8_placeTold_8 (by decide) (fun _ => rfl) (fun y1 => ?_)
  refine go_iload_n 4 dX8_placeTold_10 rfl rfl ?_
  refine go_iload_n 3 dX8_placeTold_11 rfl rfl ?_
  refine go_isub dX8_placeTold_12 ?_
  refine go_bipush (v := 7) dX8_placeTold_13 (by decide) ?_
  refine go_idivc dX8_placeTold_15 (by decide) ?_
  refine go_iconst (v := 1) dX8_placeTold_16 (by decide) ?_
  refine go_iadd dX8_placeTold_17 ?_
  refine go_istore_l (L' := fun y2 => [(5, vi y2), (4, vi y1), (0, vr a0), (1, vi x1), (2, vi x2), (3, vi x3)]) dX8_placeTold_18 (by decide) (fun _ => rfl) (fun y2 => ?_)
  refine go_iconst (v := 0) dX8_placeTold_20 (by decide) ?_
  refine go_istore (L' := [(6, vi 0), (5, vi y2), (4, vi y1), (0, vr a0), (1, vi x1), (2, vi x2), (3, vi x3)]) dX8_placeTold_21 (by decide) rfl ?_
  refine go_sub [3, 4, 2, 1, 0] (wX8_placeTold_L23 hd a0 x1 y1 y2 20000 0 s0) rfl
set_option maxRecDepth 100000 in
set_option maxHeartbeats 4000000 in
theorem cX8_placeTold_c {d : Nat} (hd : 0 ≤ d) {a0 : Nat} {x1 : Int32} {x2 : Int32} {x3 : Int32} {s0 : gH} {r : Int32} {s1 : gH} (h : fX8_placeTold a0 x1 x2 x3 s0 = some (r, s1)) : gMt mX8_placeTold d [vr a0, vi x1, vi x2, vi x3] s0 (some (vi r)) s1 := by
  obtain ⟨h1, h2⟩ := gzr_some h
  exact gMt_of (rv := rvI) (by decide +kernel) (Nat.le_of_ble_eq_true rfl) ⟨_, rfl, gnarZ h2⟩ (fun _ => wX8_placeTold hd) h1
def gX8_countsInMonth (a0 : Nat) (a1 : Nat) (s0 : gH) : Option (Int32 × gH) :=
  (ggI s0 a0 8 12).bind fun v1 =>
  if 0 < v1 then
    gb2 (gcv s0 a0 8 (fX8_dateTold a0 a1 s0)) fun r3 s4 =>
    if r3 = 0 then
      some (0, s4)
    else
      gb2 (gcv s4 a0 8 (fX8_weekdayTold a0 a1 s4)) fun r6 s7 =>
      if r6 = 0 then
        some (0, s7)
      else
        some (1, s7)
  else
    (ggR s0 a0 8 13).bind fun v9 =>
    (ggI s0 v9 7 1).bind fun v10 =>
    if 0 < v10 then
      (ggI s0 a1 0 4).bind fun v12 =>
      (ggI s0 a1 0 3).bind fun v13 =>
      (ggI s0 a1 0 5).bind fun v14 =>
      gb2 (gcv s0 a0 8 (fX8_placeTold a0 v12 v13 v14 s0)) fun r15 s16 =>
      some (r15, s16)
    else
      (ggI s0 a1 0 3).bind fun v17 =>
      (ggI s0 a0 8 4).bind fun v18 =>
      if v17 = v18 then
        some (1, s0)
      else
        some (0, s0)
def fX8_countsInMonth (a0 : Nat) (a1 : Nat) (s0 : gH) : Option (Int32 × gH) := gzr (gX8_countsInMonth a0 a1 s0)
set_option maxRecDepth 100000 in
set_option maxHeartbeats 4000000 in
theorem wX8_countsInMonth {X : Nat × (Nat → Int32)} {d : Nat} (hd : 1 ≤ d) {a0 : Nat} {a1 : Nat} {s0 : gH} : gGo X rvI mX8_countsInMonth d 0 [(0, vr a0), (1, vr a1)] [] s0 (gX8_countsInMonth a0 a1 s0) := by
  unfold gX8_countsInMonth
  refine go_aload_n 0 dX8_countsInMonth_0 rfl rfl ?_
  refine go_getI gf_RX8_36 gcf_8 gft_8_12 dX8_countsInMonth_1 (fun v1 => ?_)
  refine go_if_le (tgt := 29) dX8_countsInMonth_4 (by decide) (fun h2 => ?_) (fun h2 => ?_)
  · refine go_aload_n 0 dX8_countsInMonth_7 rfl rfl ?_
    refine go_aload_n 1 dX8_countsInMonth_8 rfl rfl ?_
    refine go_callV_I (as := [vr a1]) gk_RX8_98 gmf_X8_dateTold (by decide) rfl (by omega) rfl rfl (Nat.le_of_ble_eq_true rfl) dX8_countsInMonth_9 (fun _ _ h => cX8_dateTold_c (by omega) h) (fun r3 s4 _ => ?_)
    refine go_if_eq (tgt := 27) dX8_countsInMonth_12 (by decide) (fun h5 => ?_) (fun h5 => ?_)
    · refine go_iconst (v := 0) dX8_countsInMonth_27 (by decide) ?_
      exact go_ret rfl dX8_countsInMonth_28
    · refine go_aload_n 0 dX8_countsInMonth_15 rfl rfl ?_
      refine go_aload_n 1 dX8_countsInMonth_16 rfl rfl ?_
      refine go_callV_I (as := [vr a1]) gk_RX8_102 gmf_X8_weekdayTold (by decide) rfl (by omega) rfl rfl (Nat.le_of_ble_eq_true rfl) dX8_countsInMonth_17 (fun _ _ h => cX8_weekdayTold_c (by omega) h) (fun r6 s7 _ => ?_)
      refine go_if_eq (tgt := 27) dX8_countsInMonth_20 (by decide) (fun h8 => ?_) (fun h8 => ?_)
      · refine go_iconst (v := 0) dX8_countsInMonth_27 (by decide) ?_
        exact go_ret rfl dX8_countsInMonth_28
      · refine go_iconst (v := 1) dX8_countsInMonth_23 (by decide) ?_
        refine go_goto (tgt := 28) dX8_countsInMonth_24 (by decide) ?_
        exact go_ret rfl dX8_countsInMonth_28
  · refine go_aload_n 0 dX8_countsInMonth_29 rfl rfl ?_
    refine go_getR gf_RX8_14 gcf_8 gft_8_13 dX8_countsInMonth_30 (fun v9 => ?_)
    refine go_getI gf_RX8_76 gcf_7 gft_7_1 dX8_countsInMonth_33 (fun v10 => ?_)
    refine go_if_le (tgt := 58) dX8_countsInMonth_36 (by decide) (fun h11 => ?_) (fun h11 => ?_)
    · refine go_aload_n 0 dX8_countsInMonth_39 rfl rfl ?_
      refine go_aload_n 1 dX8_countsInMonth_40 rfl rfl ?_
      refine go_getI gf_RX8_105 gcf_0 gft_0_4 dX8_countsInMonth_41 (fun v12 => ?_)
      refine go_aload_n 1 dX8_countsInMonth_44 rfl rfl ?_
      refine go_getI gf_RX8_114 gcf_0 gft_0_3 dX8_countsInMonth_45 (fun v13 => ?_)
      refine go_aload_n 1 dX8_countsInMonth_48 rfl rfl ?_
      refine go_getI gf_RX8_117 gcf_0 gft_0_5 dX8_countsInMonth_49 (fun v14 => ?_)
      refine go_callV_I (as := [vi v12, vi v13, vi v14]) gk_RX8_120 gmf_X8_placeTold (by decide) rfl (by omega) rfl rfl (Nat.le_of_ble_eq_true rfl) dX8_countsInMonth_52 (fun _ _ h => cX8_placeTold_c (by omega) h) (fun r15 s16 _ => ?_)
      refine go_goto (tgt := 74) dX8_countsInMonth_55 (by decide) ?_
      exact go_ret rfl dX8_countsInMonth_74
    · refine go_aload_n 1 dX8_countsInMonth_58 rfl rfl ?_
      refine go_getI gf_RX8_114 gcf_0 gft_0_3 dX8_countsInMonth_59 (fun v17 => ?_)
      refine go_aload_n 0 dX8_countsInMonth_62 rfl rfl ?_
      refine go_getI gf_RX8_67 gcf_8 gft_8_4 dX8_countsInMonth_63 (fun v18 => ?_)
      refine go_icmp_ne (tgt := 73) dX8_countsInMonth_66 (by decide) (fun h19 => ?_) (fun h19 => ?_)
      · refine go_iconst (v := 1) dX8_countsInMonth_69 (by decide) ?_
        refine go_goto (tgt := 74) dX8_countsInMonth_70 (by decide) ?_
        exact go_ret rfl dX8_countsInMonth_74
      · refine go_iconst (v := 0) dX8_countsInMonth_73 (by decide) ?_
        exact go_ret rfl dX8_countsInMonth_74
set_option maxRecDepth 100000 in
set_option maxHeartbeats 4000000 in
theorem cX8_countsInMonth_c {d : Nat} (hd : 1 ≤ d) {a0 : Nat} {a1 : Nat} {s0 : gH} {r : Int32} {s1 : gH} (h : fX8_countsInMonth a0 a1 s0 = some (r, s1)) : gMt mX8_countsInMonth d [vr a0, vr a1] s0 (some (vi r)) s1 := by
  obtain ⟨h1, h2⟩ := gzr_some h
  exact gMt_of (rv := rvI) (by decide +kernel) (Nat.le_of_ble_eq_true rfl) ⟨_, rfl, gnarZ h2⟩ (fun _ => wX8_countsInMonth hd) h1
