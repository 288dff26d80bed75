/-! ROWS: one instruction each, the frame alone -/
section gRows
variable {α : Type} {X : Nat × (Nat → Int32)} {rv : α → Option gv} {M : gM} {d pc : Nat} {L : List (Nat × gv)} {S : List gv} {σ : gH} {o o1 o2 : Option (α × gH)}
theorem go_iconst {n : Int} {v : Int32} (hd : decode M.2.1 pc = .ok (.iconst n, 1)) (hv : Int32.ofInt n = v) (h : gGo X rv M d (pc + 1) L (vi v :: S) σ o) : gGo X rv M d pc L S σ o := gGo.step h (fun p l e R s m args below meth c H locs cells slots Q ls ad hx hb hl k => lv_iconst hx hb hd hv (k ls hl))
theorem go_bipush {n : Int} {v : Int32} (hd : decode M.2.1 pc = .ok (.bipush n, 2)) (hv : (Int8.ofInt n).toInt32 = v) (h : gGo X rv M d (pc + 2) L (vi v :: S) σ o) : gGo X rv M d pc L S σ o := gGo.step h (fun p l e R s m args below meth c H locs cells slots Q ls ad hx hb hl k => lv_bipush hx hb hd hv (k ls hl))
theorem go_sipush {n : Int} {v : Int32} (hd : decode M.2.1 pc = .ok (.sipush n, 3)) (hv : (Int16.ofInt n).toInt32 = v) (h : gGo X rv M d (pc + 3) L (vi v :: S) σ o) : gGo X rv M d pc L S σ o := gGo.step h (fun p l e R s m args below meth c H locs cells slots Q ls ad hx hb hl k => lv_sipush hx hb hd hv (k ls hl))
theorem go_lconst {n : Fin 2} {v : Int64} (hd : decode M.2.1 pc = .ok (.lconst n, 1)) (hv : Int64.ofNat (n : Nat) = v) (h : gGo X rv M d (pc + 1) L (vl v :: S) σ o) : gGo X rv M d pc L S σ o := gGo.step h (fun p l e R s m args below meth c H locs cells slots Q ls ad hx hb hl k => lv_lconst hx hb hd hv (k ls hl))
theorem go_null (hd : decode M.2.1 pc = .ok (.aconst_null, 1)) (h : gGo X rv M d (pc + 1) L (vr 0 :: S) σ o) : gGo X rv M d pc L S σ o := gGo.step h (fun p l e R s m args below meth c H locs cells slots Q ls ad hx hb hl k => lv_null hx hb hd (k ls hl))
theorem go_iload_n {j : Fin 4} {i : Nat} {x : Int32} (q : Nat) (hd : decode M.2.1 pc = .ok (.iload_n j, 1)) (hi : (j : Nat) = i) (hL : L[q]? = some (i, vi x)) (h : gGo X rv M d (pc + 1) L (vi x :: S) σ o) : gGo X rv M d pc L S σ o := gGo.step h (fun p l e R s m args below meth c H locs cells slots Q ls ad hx hb hl k => lv_iload_n hx hb hd hi (gLs_at hl hL) (k ls hl))
theorem go_iload {i : Nat} {x : Int32} (q : Nat) (hd : decode M.2.1 pc = .ok (.iload i, 2)) (hL : L[q]? = some (i, vi x)) (h : gGo X rv M d (pc + 2) L (vi x :: S) σ o) : gGo X rv M d pc L S σ o := gGo.step h (fun p l e R s m args below meth c H locs cells slots Q ls ad hx hb hl k => lv_iload hx hb hd (gLs_at hl hL) (k ls hl))
theorem go_lload_n {j : Fin 4} {i : Nat} {x : Int64} (q : Nat) (hd : decode M.2.1 pc = .ok (.lload_n j, 1)) (hi : (j : Nat) = i) (hL : L[q]? = some (i, vl x)) (h : gGo X rv M d (pc + 1) L (vl x :: S) σ o) : gGo X rv M d pc L S σ o := gGo.step h (fun p l e R s m args below meth c H locs cells slots Q ls ad hx hb hl k => lv_lload_n hx hb hd hi (gLs_at hl hL) (k ls hl))
theorem go_lload {i : Nat} {x : Int64} (q : Nat) (hd : decode M.2.1 pc = .ok (.lload i, 2)) (hL : L[q]? = some (i, vl x)) (h : gGo X rv M d (pc + 2) L (vl x :: S) σ o) : gGo X rv M d pc L S σ o := gGo.step h (fun p l e R s m args below meth c H locs cells slots Q ls ad hx hb hl k => lv_lload hx hb hd (gLs_at hl hL) (k ls hl))
theorem go_aload_n {j : Fin 4} {i r : Nat} (q : Nat) (hd : decode M.2.1 pc = .ok (.aload_n j, 1)) (hi : (j : Nat) = i) (hL : L[q]? = some (i, vr r)) (h : gGo X rv M d (pc + 1) L (vr r :: S) σ o) : gGo X rv M d pc L S σ o := gGo.step h (fun p l e R s m args below meth c H locs cells slots Q ls ad hx hb hl k => by
  have h1 := gLs_at hl hL
  have h2 := k ls hl
  by_cases hr : r = 0
  · subst hr
    exact lv_aload_nN hx hb hd hi h1 h2
  · simp only [List.map_cons, gT, gP_ref hr] at h1 h2
    exact lv_aload_n hx hb hd hi h1 h2)
theorem go_aload {i r : Nat} (q : Nat) (hd : decode M.2.1 pc = .ok (.aload i, 2)) (hL : L[q]? = some (i, vr r)) (h : gGo X rv M d (pc + 2) L (vr r :: S) σ o) : gGo X rv M d pc L S σ o := gGo.step h (fun p l e R s m args below meth c H locs cells slots Q ls ad hx hb hl k => by
  have h1 := gLs_at hl hL
  have h2 := k ls hl
  by_cases hr : r = 0
  · subst hr
    exact lv_aloadN hx hb hd h1 h2
  · simp only [List.map_cons, gT, gP_ref hr] at h1 h2
    exact lv_aload hx hb hd h1 h2)
theorem go_istore_n {j : Fin 4} {i : Nat} {x : Int32} {L' : List (Nat × gv)} (hd : decode M.2.1 pc = .ok (.istore_n j, 1)) (hi : (j : Nat) = i) (hn : i < M.2.2.1) (hL : gst L i (vi x) = L') (h : gGo X rv M d (pc + 1) L' S σ o) : gGo X rv M d pc L (vi x :: S) σ o := gGo.step h (fun p l e R s m args below meth c H locs cells slots Q ls ad hx hb hl k => lv_istore_n hx hb hd hi hl hn (gst_ls ad L i (vi x)) (fun ls' hl' => k ls' (by rw [← hL]; exact hl')))
theorem go_istore {i : Nat} {x : Int32} {L' : List (Nat × gv)} (hd : decode M.2.1 pc = .ok (.istore i, 2)) (hn : i < M.2.2.1) (hL : gst L i (vi x) = L') (h : gGo X rv M d (pc + 2) L' S σ o) : gGo X rv M d pc L (vi x :: S) σ o := gGo.step h (fun p l e R s m args below meth c H locs cells slots Q ls ad hx hb hl k => lv_istore hx hb hd hl hn (gst_ls ad L i (vi x)) (fun ls' hl' => k ls' (by rw [← hL]; exact hl')))
theorem go_lstore_n {j : Fin 4} {i : Nat} {x : Int64} {L' : List (Nat × gv)} (hd : decode M.2.1 pc = .ok (.lstore_n j, 1)) (hi : (j : Nat) = i) (hn : i + 1 < M.2.2.1) (hL : gst2 L i (vl x) = L') (h : gGo X rv M d (pc + 1) L' S σ o) : gGo X rv M d pc L (vl x :: S) σ o := gGo.step h (fun p l e R s m args below meth c H locs cells slots Q ls ad hx hb hl k => lv_lstore_n hx hb hd hi hl hn (gst2_ls ad L i (vl x)) (fun ls' hl' => k ls' (by rw [← hL]; exact hl')))
theorem go_lstore {i : Nat} {x : Int64} {L' : List (Nat × gv)} (hd : decode M.2.1 pc = .ok (.lstore i, 2)) (hn : i + 1 < M.2.2.1) (hL : gst2 L i (vl x) = L') (h : gGo X rv M d (pc + 2) L' S σ o) : gGo X rv M d pc L (vl x :: S) σ o := gGo.step h (fun p l e R s m args below meth c H locs cells slots Q ls ad hx hb hl k => lv_lstore hx hb hd hl hn (gst2_ls ad L i (vl x)) (fun ls' hl' => k ls' (by rw [← hL]; exact hl')))
theorem go_astore_n {j : Fin 4} {i r : Nat} {L' : List (Nat × gv)} (hd : decode M.2.1 pc = .ok (.astore_n j, 1)) (hi : (j : Nat) = i) (hn : i < M.2.2.1) (hL : gst L i (vr r) = L') (h : gGo X rv M d (pc + 1) L' S σ o) : gGo X rv M d pc L (vr r :: S) σ o := gGo.step h (fun p l e R s m args below meth c H locs cells slots Q ls ad hx hb hl k => by
  subst hL
  have hg := gst_ls ad L i (vr r)
  by_cases hr : r = 0
  · subst hr
    exact lv_astore_nN hx hb hd hi hl hn hg k
  · simp only [List.map_cons, gT, gP_ref hr] at hg ⊢
    exact lv_astore_n hx hb hd hi hl hn hg k)
theorem go_astore {i r : Nat} {L' : List (Nat × gv)} (hd : decode M.2.1 pc = .ok (.astore i, 2)) (hn : i < M.2.2.1) (hL : gst L i (vr r) = L') (h : gGo X rv M d (pc + 2) L' S σ o) : gGo X rv M d pc L (vr r :: S) σ o := gGo.step h (fun p l e R s m args below meth c H locs cells slots Q ls ad hx hb hl k => by
  subst hL
  have hg := gst_ls ad L i (vr r)
  by_cases hr : r = 0
  · subst hr
    exact lv_astoreN hx hb hd hl hn hg k
  · simp only [List.map_cons, gT, gP_ref hr] at hg ⊢
    exact lv_astore hx hb hd hl hn hg k)
theorem go_iinc {i : Nat} {n : Int} {x v : Int32} {L' : List (Nat × gv)} (q : Nat) (hd : decode M.2.1 pc = .ok (.iinc i n, 3)) (hL : L[q]? = some (i, vi x)) (hn : i < M.2.2.1) (hv : Int32.ofInt n = v) (hL2 : gst L i (vi (x + v)) = L') (h : gGo X rv M d (pc + 3) L' S σ o) : gGo X rv M d pc L S σ o := gGo.step h (fun p l e R s m args below meth c H locs cells slots Q ls ad hx hb hl k => lv_iinc hx hb hd hl (k := q) (gLs_place hL) (v := x + v) (by rw [hv]) hn (gst_ls ad L i (vi (x + v))) (fun ls' hl' => k ls' (by rw [← hL2]; exact hl')))
theorem go_iadd {x y : Int32} (hd : decode M.2.1 pc = .ok (.iadd, 1)) (h : gGo X rv M d (pc + 1) L (vi (x + y) :: S) σ o) : gGo X rv M d pc L (vi y :: vi x :: S) σ o := gGo.step h (fun p l e R s m args below meth c H locs cells slots Q ls ad hx hb hl k => lv_iadd hx hb hd (k ls hl))
theorem go_isub {x y : Int32} (hd : decode M.2.1 pc = .ok (.isub, 1)) (h : gGo X rv M d (pc + 1) L (vi (x - y) :: S) σ o) : gGo X rv M d pc L (vi y :: vi x :: S) σ o := gGo.step h (fun p l e R s m args below meth c H locs cells slots Q ls ad hx hb hl k => lv_isub hx hb hd (k ls hl))
theorem go_imul {x y : Int32} (hd : decode M.2.1 pc = .ok (.imul, 1)) (h : gGo X rv M d (pc + 1) L (vi (x * y) :: S) σ o) : gGo X rv M d pc L (vi y :: vi x :: S) σ o := gGo.step h (fun p l e R s m args below meth c H locs cells slots Q ls ad hx hb hl k => lv_imul hx hb hd (k ls hl))
theorem go_iand {x y : Int32} (hd : decode M.2.1 pc = .ok (.iand, 1)) (h : gGo X rv M d (pc + 1) L (vi (x &&& y) :: S) σ o) : gGo X rv M d pc L (vi y :: vi x :: S) σ o := gGo.step h (fun p l e R s m args below meth c H locs cells slots Q ls ad hx hb hl k => lv_iand hx hb hd (k ls hl))
theorem go_ior {x y : Int32} (hd : decode M.2.1 pc = .ok (.ior, 1)) (h : gGo X rv M d (pc + 1) L (vi (x ||| y) :: S) σ o) : gGo X rv M d pc L (vi y :: vi x :: S) σ o := gGo.step h (fun p l e R s m args below meth c H locs cells slots Q ls ad hx hb hl k => lv_ior hx hb hd (k ls hl))
theorem go_ixor {x y : Int32} (hd : decode M.2.1 pc = .ok (.ixor, 1)) (h : gGo X rv M d (pc + 1) L (vi (x ^^^ y) :: S) σ o) : gGo X rv M d pc L (vi y :: vi x :: S) σ o := gGo.step h (fun p l e R s m args below meth c H locs cells slots Q ls ad hx hb hl k => lv_ixor hx hb hd (k ls hl))
theorem go_ishl {x y : Int32} (hd : decode M.2.1 pc = .ok (.ishl, 1)) (h : gGo X rv M d (pc + 1) L (vi (x <<< (y &&& 31)) :: S) σ o) : gGo X rv M d pc L (vi y :: vi x :: S) σ o := gGo.step h (fun p l e R s m args below meth c H locs cells slots Q ls ad hx hb hl k => lv_ishl hx hb hd (k ls hl))
theorem go_ishr {x y : Int32} (hd : decode M.2.1 pc = .ok (.ishr, 1)) (h : gGo X rv M d (pc + 1) L (vi (x >>> (y &&& 31)) :: S) σ o) : gGo X rv M d pc L (vi y :: vi x :: S) σ o := gGo.step h (fun p l e R s m args below meth c H locs cells slots Q ls ad hx hb hl k => lv_ishr hx hb hd (k ls hl))
theorem go_ladd {x y : Int64} (hd : decode M.2.1 pc = .ok (.ladd, 1)) (h : gGo X rv M d (pc + 1) L (vl (x + y) :: S) σ o) : gGo X rv M d pc L (vl y :: vl x :: S) σ o := gGo.step h (fun p l e R s m args below meth c H locs cells slots Q ls ad hx hb hl k => lv_ladd hx hb hd (k ls hl))
theorem go_lsub {x y : Int64} (hd : decode M.2.1 pc = .ok (.lsub, 1)) (h : gGo X rv M d (pc + 1) L (vl (x - y) :: S) σ o) : gGo X rv M d pc L (vl y :: vl x :: S) σ o := gGo.step h (fun p l e R s m args below meth c H locs cells slots Q ls ad hx hb hl k => lv_lsub hx hb hd (k ls hl))
theorem go_lmul {x y : Int64} (hd : decode M.2.1 pc = .ok (.lmul, 1)) (h : gGo X rv M d (pc + 1) L (vl (x * y) :: S) σ o) : gGo X rv M d pc L (vl y :: vl x :: S) σ o := gGo.step h (fun p l e R s m args below meth c H locs cells slots Q ls ad hx hb hl k => lv_lmul hx hb hd (k ls hl))
theorem go_land {x y : Int64} (hd : decode M.2.1 pc = .ok (.land, 1)) (h : gGo X rv M d (pc + 1) L (vl (x &&& y) :: S) σ o) : gGo X rv M d pc L (vl y :: vl x :: S) σ o := gGo.step h (fun p l e R s m args below meth c H locs cells slots Q ls ad hx hb hl k => lv_land hx hb hd (k ls hl))
theorem go_lor {x y : Int64} (hd : decode M.2.1 pc = .ok (.lor, 1)) (h : gGo X rv M d (pc + 1) L (vl (x ||| y) :: S) σ o) : gGo X rv M d pc L (vl y :: vl x :: S) σ o := gGo.step h (fun p l e R s m args below meth c H locs cells slots Q ls ad hx hb hl k => lv_lor hx hb hd (k ls hl))
theorem go_lxor {x y : Int64} (hd : decode M.2.1 pc = .ok (.lxor, 1)) (h : gGo X rv M d (pc + 1) L (vl (x ^^^ y) :: S) σ o) : gGo X rv M d pc L (vl y :: vl x :: S) σ o := gGo.step h (fun p l e R s m args below meth c H locs cells slots Q ls ad hx hb hl k => lv_lxor hx hb hd (k ls hl))
def gIrem (x y : Int32) : Int32 := x - x / y * y
def gLrem (x y : Int64) : Int64 := x - x / y * y
def gLushr (x : Int64) (y : Int32) : Int64 := (x.toUInt64 >>> (y.toInt64.toUInt64 &&& Int64.toUInt64 63)).toInt64
def gLshl (x : Int64) (y : Int32) : Int64 := x <<< (y.toInt64 &&& 63)
def gIushr (x y : Int32) : Int32 := (x.toUInt32 >>> (y.toUInt32 &&& Int32.toUInt32 31)).toInt32
theorem go_idivc {x y : Int32} (hd : decode M.2.1 pc = .ok (.idiv, 1)) (hne : ¬ y = 0) (h : gGo X rv M d (pc + 1) L (vi (x / y) :: S) σ o) : gGo X rv M d pc L (vi y :: vi x :: S) σ o := gGo.step h (fun p l e R s m args below meth c H locs cells slots Q ls ad hx hb hl k => lv_idiv hx hb hd hne (k ls hl))
theorem go_idiv {x y : Int32} (hd : decode M.2.1 pc = .ok (.idiv, 1)) (h : ¬ y = 0 → gGo X rv M d (pc + 1) L (vi (x / y) :: S) σ o) : gGo X rv M d pc L (vi y :: vi x :: S) σ (if y = 0 then none else o) := by
  by_cases hy : y = 0
  · rw [if_pos hy]; intro r σ' ho; cases ho
  · rw [if_neg hy]; exact go_idivc hd hy (h hy)
theorem go_iremc {x y : Int32} (hd : decode M.2.1 pc = .ok (.irem, 1)) (hne : ¬ y = 0) (h : gGo X rv M d (pc + 1) L (vi (gIrem x y) :: S) σ o) : gGo X rv M d pc L (vi y :: vi x :: S) σ o := gGo.step h (fun p l e R s m args below meth c H locs cells slots Q ls ad hx hb hl k => lv_irem hx hb hd hne (k ls hl))
theorem go_irem {x y : Int32} (hd : decode M.2.1 pc = .ok (.irem, 1)) (h : ¬ y = 0 → gGo X rv M d (pc + 1) L (vi (gIrem x y) :: S) σ o) : gGo X rv M d pc L (vi y :: vi x :: S) σ (if y = 0 then none else o) := by
  by_cases hy : y = 0
  · rw [if_pos hy]; intro r σ' ho; cases ho
  · rw [if_neg hy]; exact go_iremc hd hy (h hy)
theorem go_ldivc {x y : Int64} (hd : decode M.2.1 pc = .ok (.ldiv, 1)) (hne : ¬ y = 0) (h : gGo X rv M d (pc + 1) L (vl (x / y) :: S) σ o) : gGo X rv M d pc L (vl y :: vl x :: S) σ o := gGo.step h (fun p l e R s m args below meth c H locs cells slots Q ls ad hx hb hl k => lv_ldiv hx hb hd hne (k ls hl))
theorem go_ldiv {x y : Int64} (hd : decode M.2.1 pc = .ok (.ldiv, 1)) (h : ¬ y = 0 → gGo X rv M d (pc + 1) L (vl (x / y) :: S) σ o) : gGo X rv M d pc L (vl y :: vl x :: S) σ (if y = 0 then none else o) := by
  by_cases hy : y = 0
  · rw [if_pos hy]; intro r σ' ho; cases ho
  · rw [if_neg hy]; exact go_ldivc hd hy (h hy)
theorem go_lremc {x y : Int64} (hd : decode M.2.1 pc = .ok (.lrem, 1)) (hne : ¬ y = 0) (h : gGo X rv M d (pc + 1) L (vl (gLrem x y) :: S) σ o) : gGo X rv M d pc L (vl y :: vl x :: S) σ o := gGo.step h (fun p l e R s m args below meth c H locs cells slots Q ls ad hx hb hl k => lv_lrem hx hb hd hne (k ls hl))
theorem go_lrem {x y : Int64} (hd : decode M.2.1 pc = .ok (.lrem, 1)) (h : ¬ y = 0 → gGo X rv M d (pc + 1) L (vl (gLrem x y) :: S) σ o) : gGo X rv M d pc L (vl y :: vl x :: S) σ (if y = 0 then none else o) := by
  by_cases hy : y = 0
  · rw [if_pos hy]; intro r σ' ho; cases ho
  · rw [if_neg hy]; exact go_lremc hd hy (h hy)
theorem go_ineg {x : Int32} (hd : decode M.2.1 pc = .ok (.ineg, 1)) (h : gGo X rv M d (pc + 1) L (vi (-x) :: S) σ o) : gGo X rv M d pc L (vi x :: S) σ o := gGo.step h (fun p l e R s m args below meth c H locs cells slots Q ls ad hx hb hl k => lv_ineg hx hb hd (k ls hl))
theorem go_lneg {x : Int64} (hd : decode M.2.1 pc = .ok (.lneg, 1)) (h : gGo X rv M d (pc + 1) L (vl (-x) :: S) σ o) : gGo X rv M d pc L (vl x :: S) σ o := gGo.step h (fun p l e R s m args below meth c H locs cells slots Q ls ad hx hb hl k => lv_lneg hx hb hd (k ls hl))
theorem go_i2l {x : Int32} (hd : decode M.2.1 pc = .ok (.i2l, 1)) (h : gGo X rv M d (pc + 1) L (vl x.toInt64 :: S) σ o) : gGo X rv M d pc L (vi x :: S) σ o := gGo.step h (fun p l e R s m args below meth c H locs cells slots Q ls ad hx hb hl k => lv_i2l hx hb hd rfl (k ls hl))
theorem go_l2i {x : Int64} (hd : decode M.2.1 pc = .ok (.l2i, 1)) (h : gGo X rv M d (pc + 1) L (vi x.toInt32 :: S) σ o) : gGo X rv M d pc L (vl x :: S) σ o := gGo.step h (fun p l e R s m args below meth c H locs cells slots Q ls ad hx hb hl k => lv_l2i hx hb hd rfl (k ls hl))
theorem go_i2b {x : Int32} (hd : decode M.2.1 pc = .ok (.i2b, 1)) (h : gGo X rv M d (pc + 1) L (vi x.toInt8.toInt32 :: S) σ o) : gGo X rv M d pc L (vi x :: S) σ o := gGo.step h (fun p l e R s m args below meth c H locs cells slots Q ls ad hx hb hl k => lv_i2b hx hb hd rfl (k ls hl))
theorem go_i2c {x : Int32} (hd : decode M.2.1 pc = .ok (.i2c, 1)) (h : gGo X rv M d (pc + 1) L (vi x.toUInt32.toUInt16.toUInt32.toInt32 :: S) σ o) : gGo X rv M d pc L (vi x :: S) σ o := gGo.step h (fun p l e R s m args below meth c H locs cells slots Q ls ad hx hb hl k => lv_i2c hx hb hd rfl (k ls hl))
theorem go_lushr {x : Int64} {y : Int32} (hd : decode M.2.1 pc = .ok (.lushr, 1)) (h : gGo X rv M d (pc + 1) L (vl (gLushr x y) :: S) σ o) : gGo X rv M d pc L (vi y :: vl x :: S) σ o := gGo.step h (fun p l e R s m args below meth c H locs cells slots Q ls ad hx hb hl k => lv_lushr hx hb hd rfl (k ls hl))
theorem go_lshl {x : Int64} {y : Int32} (hd : decode M.2.1 pc = .ok (.lshl, 1)) (h : gGo X rv M d (pc + 1) L (vl (gLshl x y) :: S) σ o) : gGo X rv M d pc L (vi y :: vl x :: S) σ o := gGo.step h (fun p l e R s m args below meth c H locs cells slots Q ls ad hx hb hl k => lv_lshl hx hb hd rfl (k ls hl))
theorem go_iushr {x y : Int32} (hd : decode M.2.1 pc = .ok (.iushr, 1)) (h : gGo X rv M d (pc + 1) L (vi (gIushr x y) :: S) σ o) : gGo X rv M d pc L (vi y :: vi x :: S) σ o := gGo.step h (fun p l e R s m args below meth c H locs cells slots Q ls ad hx hb hl k => lv_iushr hx hb hd rfl (k ls hl))
theorem go_lcmp {x y : Int64} (hd : decode M.2.1 pc = .ok (.lcmp, 1)) (h : gGo X rv M d (pc + 1) L (vi (lg_cmp x y) :: S) σ o) : gGo X rv M d pc L (vl y :: vl x :: S) σ o := gGo.step h (fun p l e R s m args below meth c H locs cells slots Q ls ad hx hb hl k => W.lcmp hx hb hd (k ls hl))
theorem go_dup {v : gv} (hd : decode M.2.1 pc = .ok (.dup, 1)) (hv : gcat v = false) (h : gGo X rv M d (pc + 1) L (v :: v :: S) σ o) : gGo X rv M d pc L (v :: S) σ o := gGo.step h (fun p l e R s m args below meth c H locs cells slots Q ls ad hx hb hl k => lv_dup hx hb hd (gT_c1 hv) (k ls hl))
theorem go_pop {v : gv} (hd : decode M.2.1 pc = .ok (.pop, 1)) (hv : gcat v = false) (h : gGo X rv M d (pc + 1) L S σ o) : gGo X rv M d pc L (v :: S) σ o := gGo.step h (fun p l e R s m args below meth c H locs cells slots Q ls ad hx hb hl k => lv_pop hx hb hd (gT_c1 hv) (k ls hl))
theorem go_dup2 {v w : gv} (hd : decode M.2.1 pc = .ok (.dup2, 1)) (hv : gcat v = false) (hw : gcat w = false) (h : gGo X rv M d (pc + 1) L (v :: w :: v :: w :: S) σ o) : gGo X rv M d pc L (v :: w :: S) σ o := gGo.step h (fun p l e R s m args below meth c H locs cells slots Q ls ad hx hb hl k => lv_dup2_11 hx hb hd (gT_c1 hv) (gT_c1 hw) (k ls hl))
theorem go_dup2l {x : Int64} (hd : decode M.2.1 pc = .ok (.dup2, 1)) (h : gGo X rv M d (pc + 1) L (vl x :: vl x :: S) σ o) : gGo X rv M d pc L (vl x :: S) σ o := gGo.step h (fun p l e R s m args below meth c H locs cells slots Q ls ad hx hb hl k => lv_dup2_2 hx hb hd rfl (k ls hl))
theorem go_goto {off : Int} {tgt : Nat} (hd : decode M.2.1 pc = .ok (.goto off, 3)) (ht : (pc : Int) + off = (tgt : Int)) (h : gGo X rv M d tgt L S σ o) : gGo X rv M d pc L S σ o := gGo.step h (fun p l e R s m args below meth c H locs cells slots Q ls ad hx hb hl k => lv_goto hx hb hd ht (k ls hl))
theorem go_if_eq {x : Int32} {off : Int} {tgt : Nat} (hd : decode M.2.1 pc = .ok (.ifCond .eq off, 3)) (ht : (pc : Int) + off = (tgt : Int)) (h1 : x = 0 → gGo X rv M d tgt L S σ o1) (h2 : ¬ x = 0 → gGo X rv M d (pc + 3) L S σ o2) : gGo X rv M d pc L (vi x :: S) σ (if x = 0 then o1 else o2) := gGo.fork h1 h2 (fun p l e R s m args below meth c H locs cells slots Q ls ad hx hb kt kf => lv_if_eq hx hb hd ht kt kf)
theorem go_icmp_eq {x y : Int32} {off : Int} {tgt : Nat} (hd : decode M.2.1 pc = .ok (.if_icmp .eq off, 3)) (ht : (pc : Int) + off = (tgt : Int)) (h1 : x = y → gGo X rv M d tgt L S σ o1) (h2 : ¬ x = y → gGo X rv M d (pc + 3) L S σ o2) : gGo X rv M d pc L (vi y :: vi x :: S) σ (if x = y then o1 else o2) := gGo.fork h1 h2 (fun p l e R s m args below meth c H locs cells slots Q ls ad hx hb kt kf => lv_icmp_eq hx hb hd ht kt kf)
theorem go_if_ne {x : Int32} {off : Int} {tgt : Nat} (hd : decode M.2.1 pc = .ok (.ifCond .ne off, 3)) (ht : (pc : Int) + off = (tgt : Int)) (h1 : x = 0 → gGo X rv M d (pc + 3) L S σ o1) (h2 : ¬ x = 0 → gGo X rv M d tgt L S σ o2) : gGo X rv M d pc L (vi x :: S) σ (if x = 0 then o1 else o2) := gGo.fork h1 h2 (fun p l e R s m args below meth c H locs cells slots Q ls ad hx hb kt kf => lv_if_ne hx hb hd ht (fun h => kf h) (fun h => kt h))
theorem go_icmp_ne {x y : Int32} {off : Int} {tgt : Nat} (hd : decode M.2.1 pc = .ok (.if_icmp .ne off, 3)) (ht : (pc : Int) + off = (tgt : Int)) (h1 : x = y → gGo X rv M d (pc + 3) L S σ o1) (h2 : ¬ x = y → gGo X rv M d tgt L S σ o2) : gGo X rv M d pc L (vi y :: vi x :: S) σ (if x = y then o1 else o2) := gGo.fork h1 h2 (fun p l e R s m args below meth c H locs cells slots Q ls ad hx hb kt kf => lv_icmp_ne hx hb hd ht (fun h => kf h) (fun h => kt h))
theorem go_if_lt {x : Int32} {off : Int} {tgt : Nat} (hd : decode M.2.1 pc = .ok (.ifCond .lt off, 3)) (ht : (pc : Int) + off = (tgt : Int)) (h1 : x < 0 → gGo X rv M d tgt L S σ o1) (h2 : ¬ x < 0 → gGo X rv M d (pc + 3) L S σ o2) : gGo X rv M d pc L (vi x :: S) σ (if x < 0 then o1 else o2) := gGo.fork h1 h2 (fun p l e R s m args below meth c H locs cells slots Q ls ad hx hb kt kf => lv_if_lt hx hb hd ht kt kf)
theorem go_icmp_lt {x y : Int32} {off : Int} {tgt : Nat} (hd : decode M.2.1 pc = .ok (.if_icmp .lt off, 3)) (ht : (pc : Int) + off = (tgt : Int)) (h1 : x < y → gGo X rv M d tgt L S σ o1) (h2 : ¬ x < y → gGo X rv M d (pc + 3) L S σ o2) : gGo X rv M d pc L (vi y :: vi x :: S) σ (if x < y then o1 else o2) := gGo.fork h1 h2 (fun p l e R s m args below meth c H locs cells slots Q ls ad hx hb kt kf => lv_icmp_lt hx hb hd ht kt kf)
theorem go_if_ge {x : Int32} {off : Int} {tgt : Nat} (hd : decode M.2.1 pc = .ok (.ifCond .ge off, 3)) (ht : (pc : Int) + off = (tgt : Int)) (h1 : x < 0 → gGo X rv M d (pc + 3) L S σ o1) (h2 : ¬ x < 0 → gGo X rv M d tgt L S σ o2) : gGo X rv M d pc L (vi x :: S) σ (if x < 0 then o1 else o2) := gGo.fork h1 h2 (fun p l e R s m args below meth c H locs cells slots Q ls ad hx hb kt kf => lv_if_ge hx hb hd ht (fun h => kf (Int32.not_lt.mpr h)) (fun h => kt (Int32.not_le.mp h)))
theorem go_icmp_ge {x y : Int32} {off : Int} {tgt : Nat} (hd : decode M.2.1 pc = .ok (.if_icmp .ge off, 3)) (ht : (pc : Int) + off = (tgt : Int)) (h1 : x < y → gGo X rv M d (pc + 3) L S σ o1) (h2 : ¬ x < y → gGo X rv M d tgt L S σ o2) : gGo X rv M d pc L (vi y :: vi x :: S) σ (if x < y then o1 else o2) := gGo.fork h1 h2 (fun p l e R s m args below meth c H locs cells slots Q ls ad hx hb kt kf => lv_icmp_ge hx hb hd ht (fun h => kf (Int32.not_lt.mpr h)) (fun h => kt (Int32.not_le.mp h)))
theorem go_if_gt {x : Int32} {off : Int} {tgt : Nat} (hd : decode M.2.1 pc = .ok (.ifCond .gt off, 3)) (ht : (pc : Int) + off = (tgt : Int)) (h1 : 0 < x → gGo X rv M d tgt L S σ o1) (h2 : ¬ 0 < x → gGo X rv M d (pc + 3) L S σ o2) : gGo X rv M d pc L (vi x :: S) σ (if 0 < x then o1 else o2) := gGo.fork h1 h2 (fun p l e R s m args below meth c H locs cells slots Q ls ad hx hb kt kf => lv_if_gt hx hb hd ht kt kf)
theorem go_icmp_gt {x y : Int32} {off : Int} {tgt : Nat} (hd : decode M.2.1 pc = .ok (.if_icmp .gt off, 3)) (ht : (pc : Int) + off = (tgt : Int)) (h1 : y < x → gGo X rv M d tgt L S σ o1) (h2 : ¬ y < x → gGo X rv M d (pc + 3) L S σ o2) : gGo X rv M d pc L (vi y :: vi x :: S) σ (if y < x then o1 else o2) := gGo.fork h1 h2 (fun p l e R s m args below meth c H locs cells slots Q ls ad hx hb kt kf => lv_icmp_gt hx hb hd ht kt kf)
theorem go_if_le {x : Int32} {off : Int} {tgt : Nat} (hd : decode M.2.1 pc = .ok (.ifCond .le off, 3)) (ht : (pc : Int) + off = (tgt : Int)) (h1 : 0 < x → gGo X rv M d (pc + 3) L S σ o1) (h2 : ¬ 0 < x → gGo X rv M d tgt L S σ o2) : gGo X rv M d pc L (vi x :: S) σ (if 0 < x then o1 else o2) := gGo.fork h1 h2 (fun p l e R s m args below meth c H locs cells slots Q ls ad hx hb kt kf => lv_if_le hx hb hd ht (fun h => kf (Int32.not_lt.mpr h)) (fun h => kt (Int32.not_le.mp h)))
theorem go_icmp_le {x y : Int32} {off : Int} {tgt : Nat} (hd : decode M.2.1 pc = .ok (.if_icmp .le off, 3)) (ht : (pc : Int) + off = (tgt : Int)) (h1 : y < x → gGo X rv M d (pc + 3) L S σ o1) (h2 : ¬ y < x → gGo X rv M d tgt L S σ o2) : gGo X rv M d pc L (vi y :: vi x :: S) σ (if y < x then o1 else o2) := gGo.fork h1 h2 (fun p l e R s m args below meth c H locs cells slots Q ls ad hx hb kt kf => lv_icmp_le hx hb hd ht (fun h => kf (Int32.not_lt.mpr h)) (fun h => kt (Int32.not_le.mp h)))
theorem go_ifnull {r : Nat} {off : Int} {tgt : Nat} (hd : decode M.2.1 pc = .ok (.ifnull off, 3)) (ht : (pc : Int) + off = (tgt : Int)) (h1 : r = 0 → gGo X rv M d tgt L S σ o1) (h2 : ¬ r = 0 → gGo X rv M d (pc + 3) L S σ o2) : gGo X rv M d pc L (vr r :: S) σ (if r = 0 then o1 else o2) := gGo.fork h1 h2 (fun p l e R s m args below meth c H locs cells slots Q ls ad hx hb kt kf => by
  by_cases hr : r = 0
  · have h := kt hr
    subst hr
    exact lv_ifnullN hx hb hd ht h
  · simp only [List.map_cons, gT, gP_ref hr]
    exact lv_ifnull hx hb hd (kf hr))
theorem go_ifnonnull {r : Nat} {off : Int} {tgt : Nat} (hd : decode M.2.1 pc = .ok (.ifnonnull off, 3)) (ht : (pc : Int) + off = (tgt : Int)) (h1 : r = 0 → gGo X rv M d (pc + 3) L S σ o1) (h2 : ¬ r = 0 → gGo X rv M d tgt L S σ o2) : gGo X rv M d pc L (vr r :: S) σ (if r = 0 then o1 else o2) := gGo.fork h1 h2 (fun p l e R s m args below meth c H locs cells slots Q ls ad hx hb kt kf => by
  by_cases hr : r = 0
  · have h := kt hr
    subst hr
    exact lv_ifnonnullN hx hb hd h
  · simp only [List.map_cons, gT, gP_ref hr]
    exact lv_ifnonnull hx hb hd ht (kf hr))
/-- no step: the cases of a switch -/
theorem go_ite {P : Prop} [Decidable P] (h1 : P → gGo X rv M d pc L S σ o1) (h2 : ¬ P → gGo X rv M d pc L S σ o2) : gGo X rv M d pc L S σ (if P then o1 else o2) := by
  by_cases hP : P
  · rw [if_pos hP]; exact h1 hP
  · rw [if_neg hP]; exact h2 hP
theorem go_tsIn {dflt lo hi off : Int} {offs : Array Int} {len tgt : Nat} {x v : Int32} (hd : decode M.2.1 pc = .ok (.tableswitch dflt lo hi offs, len)) (hx0 : x = v) (h1 : ¬ v.toInt < lo) (h2 : ¬ hi < v.toInt) (ho : offs[(v.toInt - lo).toNat]? = some off) (ht : (pc : Int) + off = (tgt : Int)) (h : gGo X rv M d tgt L S σ o) : gGo X rv M d pc L (vi x :: S) σ o := by
  subst hx0
  exact gGo.step h (fun p l e R s m args below meth c H locs cells slots Q ls ad hx hb hl k => lv_tableIn hx hb hd h1 h2 ho ht (k ls hl))
theorem go_tsOut {dflt lo hi : Int} {offs : Array Int} {len tgt : Nat} {x : Int32} (hd : decode M.2.1 pc = .ok (.tableswitch dflt lo hi offs, len)) (hx0 : x.toInt < lo ∨ hi < x.toInt) (ht : (pc : Int) + dflt = (tgt : Int)) (h : gGo X rv M d tgt L S σ o) : gGo X rv M d pc L (vi x :: S) σ o := gGo.step h (fun p l e R s m args below meth c H locs cells slots Q ls ad hx hb hl k => lv_tableOut hx hb hd hx0 ht (k ls hl))
theorem go_lookup {dflt off : Int} {ps : Array (Int × Int)} {len tgt : Nat} {x : Int32} (hd : decode M.2.1 pc = .ok (.lookupswitch dflt ps, len)) (hp : (ps.toList.zip (ps.toList.drop 1)).all (fun (a, next) => a.1 < next.1) = true) (ho : Op.lookupswitch.offset ps.toList dflt x.toInt = off) (ht : (pc : Int) + off = (tgt : Int)) (h : gGo X rv M d tgt L S σ o) : gGo X rv M d pc L (vi x :: S) σ o := gGo.step h (fun p l e R s m args below meth c H locs cells slots Q ls ad hx hb hl k => lv_lookup hx hb hd hp ho ht (k ls hl))
theorem go_none : gGo X rv M d pc L S σ none := fun _ _ h => by cases h
/-- a let -/
theorem go_ret {v : gv} {x : α} (hv : rv x = some v) (hd : gRet M.2.1 pc (some v)) : gGo X rv M d pc L [v] σ (some (x, σ)) := by
  intro r σ' ho
  cases ho
  exact ⟨⟨Nat.le_refl _, Nat.le_refl _⟩, fun p l e R s m args below meth c H locs cells slots Q ls B ad D cy n0 q0 hc hh hS h1 h2 h3 h4 hl hq => by
    have := hq pc ls H locs cells slots (by rw [hv]; exact hd) hh hS h1 h2
    rw [hv] at this
    exact this⟩
theorem go_retv {x : α} (hv : rv x = none) (hd : decode M.2.1 pc = .ok (.return_, 1)) : gGo X rv M d pc L [] σ (some (x, σ)) := by
  intro r σ' ho
  cases ho
  exact ⟨⟨Nat.le_refl _, Nat.le_refl _⟩, fun p l e R s m args below meth c H locs cells slots Q ls B ad D cy n0 q0 hc hh hS h1 h2 h3 h4 hl hq => by
    have := hq pc ls H locs cells slots (by rw [hv]; exact hd) hh hS h1 h2
    rw [hv] at this
    exact this⟩
end gRows
