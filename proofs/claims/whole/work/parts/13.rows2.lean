/-! ROWS for the printed walks: typed calls, lets, joins, new cells -/
abbrev rvI : Int32 → Option gv := fun x => some (vi x)
abbrev rvJ : Int64 → Option gv := fun x => some (vl x)
abbrev rvR : Nat → Option gv := fun x => some (vr x)
abbrev rvU : Unit → Option gv := fun _ => none
def gb2 {β γ : Type} (o : Option (β × gH)) (K : β → gH → Option γ) : Option γ := o.bind fun q => K q.1 q.2
def glet {β γ : Type} (e : β) (f : β → γ) : γ := f e
def gjn {β γ : Type} (e : β) (f : β → γ) : γ := f e
def gmk {γ : Type} (σ : gH) (c : Nat) (K : Nat → gH → Option γ) : Option γ := if gN σ = 0 then none else K (gN σ) (gnew σ (c + 1) 0 (gNf c))
def gmka {γ : Type} (σ : gH) (t : Nat) (n : Int32) (K : Nat → gH → Option γ) : Option γ := if n < 0 ∨ 60000000 < n.toNatClampNeg then none else K (gN σ) (gnew σ (20 + t) n.toNatClampNeg n.toNatClampNeg)
def gsv {β : Type} (i : Nat) (o : Option β) : Option β := if i < 16 then o else none
def gzr (o : Option (Int32 × gH)) : Option (Int32 × gH) := o.bind fun q => if q.1 = 0 ∨ q.1 = 1 then some q else none
theorem gzr_some {o : Option (Int32 × gH)} {r : Int32} {s : gH} (h : gzr o = some (r, s)) : o = some (r, s) ∧ (r = 0 ∨ r = 1) := by
  unfold gzr at h
  rcases o with _ | q
  · cases h
  · simp only [Option.bind_some] at h
    split at h
    · cases h
      rename_i hq
      exact ⟨rfl, hq⟩
    · cases h
theorem gnarZ {x : Int32} (h : x = 0 ∨ x = 1) : narrow .boolean (.int x) = .int x := by
  rcases h with rfl | rfl <;> rfl
theorem gts {x v : Int32} {n : Int} (h : ¬ x = v) (hv : v.toInt = n) : x.toInt ≠ n := fun q => h (Int32.toInt_inj.mp (q.trans hv.symm))
section gR2
variable {α : Type} {X : Nat × (Nat → Int32)} {rv : α → Option gv} {M M' : gM} {d d' pc n : Nat} {L : List (Nat × gv)} {S St : List gv} {σ : gH} {o : Option (α × gH)}
theorem go_gjn {γ : Type} {e : γ} {b : γ → Option (α × gH)} (P : γ → Prop) (h1 : P e) (h2 : ∀ j, P j → gGo X rv M d pc L S σ (b j)) : gGo X rv M d pc L S σ (gjn e b) := h2 e h1
theorem go_istore_n_l {j : Fin 4} {i : Nat} {x : Int32} {b : Int32 → Option (α × gH)} {L' : Int32 → List (Nat × gv)} (hd : decode M.2.1 pc = .ok (.istore_n j, 1)) (hi : (j : Nat) = i) (hn : i < M.2.2.1) (hL : ∀ y, gst L i (vi y) = L' y) (h : ∀ y, gGo X rv M d (pc + 1) (L' y) S σ (b y)) : gGo X rv M d pc L (vi x :: S) σ (glet x b) := go_istore_n hd hi hn (hL x) (h x)
theorem go_istore_l {i : Nat} {x : Int32} {b : Int32 → Option (α × gH)} {L' : Int32 → List (Nat × gv)} (hd : decode M.2.1 pc = .ok (.istore i, 2)) (hn : i < M.2.2.1) (hL : ∀ y, gst L i (vi y) = L' y) (h : ∀ y, gGo X rv M d (pc + 2) (L' y) S σ (b y)) : gGo X rv M d pc L (vi x :: S) σ (glet x b) := go_istore hd hn (hL x) (h x)
theorem go_lstore_n_l {j : Fin 4} {i : Nat} {x : Int64} {b : Int64 → Option (α × gH)} {L' : Int64 → List (Nat × gv)} (hd : decode M.2.1 pc = .ok (.lstore_n j, 1)) (hi : (j : Nat) = i) (hn : i + 1 < M.2.2.1) (hL : ∀ y, gst2 L i (vl y) = L' y) (h : ∀ y, gGo X rv M d (pc + 1) (L' y) S σ (b y)) : gGo X rv M d pc L (vl x :: S) σ (glet x b) := go_lstore_n hd hi hn (hL x) (h x)
theorem go_lstore_l {i : Nat} {x : Int64} {b : Int64 → Option (α × gH)} {L' : Int64 → List (Nat × gv)} (hd : decode M.2.1 pc = .ok (.lstore i, 2)) (hn : i + 1 < M.2.2.1) (hL : ∀ y, gst2 L i (vl y) = L' y) (h : ∀ y, gGo X rv M d (pc + 2) (L' y) S σ (b y)) : gGo X rv M d pc L (vl x :: S) σ (glet x b) := go_lstore hd hn (hL x) (h x)
theorem go_mk {c idx : Nat} {K : Nat → gH → Option (α × gH)} (hL : gNL M.1.cls idx c) (hC : gCF c) (hCD : gCD c) (hd : decode M.2.1 pc = .ok (.new idx, 3)) (h : ∀ r s, r ≠ 0 → gGo X rv M d (pc + 3) L (vr r :: S) s (K r s)) : gGo X rv M d pc L S σ (gmk σ c K) := by
  unfold gmk
  by_cases hz : gN σ = 0
  · rw [if_pos hz]; exact go_none
  · rw [if_neg hz]; exact go_new hL hC hCD hd (h _ _ hz)
theorem go_mka {t : Nat} {n : Int32} {K : Nat → gH → Option (α × gH)} (ht5 : t < 5) (hw : Cond.arrayClass (newarray.typeOf (gAT t)) ∈ gTb) (hd : decode M.2.1 pc = .ok (.newarray (gAT t), 2)) (h : ∀ r s, gGo X rv M d (pc + 2) L (vr r :: S) s (K r s)) : gGo X rv M d pc L (vi n :: S) σ (gmka σ t n K) := go_newarr ht5 hw hd (h _ _)
theorem go_mkq {t idx : Nat} {n : Int32} {K : Nat → gH → Option (α × gH)} (ht5 : 5 ≤ t) (ht8 : t < 8) (hw : Cond.classLink M.1.cls idx (gCn t) ∈ gTb) (hd : decode M.2.1 pc = .ok (.anewarray idx, 3)) (h : ∀ r s, gGo X rv M d (pc + 3) L (vr r :: S) s (K r s)) : gGo X rv M d pc L (vi n :: S) σ (gmka σ t n K) := go_anew ht5 ht8 hw hd (h _ _)
theorem go_objz {idx a : Nat} (h1 : Cond.methodLink M.1.cls idx Lib.objectInit ∈ gTb) (h2 : Cond.instanceMethod Lib.objectInit ∈ gTb) (h3 : Cond.code Lib.objectInit ⟨#[0xb1]⟩ 1 none ∈ gTb) (h8 : gcs S ≤ 8) (hd : decode M.2.1 pc = .ok (.invokespecial idx, 3)) (h : a ≠ 0 → gGo X rv M d (pc + 3) L S σ o) : gGo X rv M d pc L (vr a :: S) σ (if a = 0 then none else o) := by
  by_cases hz : a = 0
  · rw [if_pos hz]; exact go_none
  · rw [if_neg hz]; exact go_obj hz h1 h2 h3 h8 hd (h hz)
theorem go_callV_I {idx a c : Nat} {as : List gv} {o1 : Option (Int32 × gH)} {K : Int32 → gH → Option (α × gH)} (hV : gVL M.1.cls idx M') (hF : gMF M' n) (hc13 : c < 13) (hcl : (vwCl[c]?).map (fun q => q.1) = some M'.1.cls) (hdd : d' + 1 ≤ d) (hn : as.length = n) (hst : St = as.reverse ++ vr a :: S) (h8 : gcs S ≤ 8) (hd : decode M.2.1 pc = .ok (.invokevirtual idx, 3)) (hM : ∀ r σ1, o1 = some (r, σ1) → gMt M' d' (vr a :: as) σ (some (vi r)) σ1) (h : ∀ r σ1, o1 = some (r, σ1) → gGo X rv M d (pc + 3) L (vi r :: S) σ1 (K r σ1)) : gGo X rv M d pc L St σ (gb2 (gcv σ a c o1) K) := go_callV (rv' := rvI) hV hF hc13 hcl hdd hn hst h8 hd hM h
theorem go_callS_I {idx : Nat} {as : List gv} {o1 : Option (Int32 × gH)} {K : Int32 → gH → Option (α × gH)} (hV : gSL M.1.cls idx M') (hF : gMF M' n) (hdd : d' + 1 ≤ d) (hn : as.length = n) (hst : St = as.reverse ++ S) (h8 : gcs S ≤ 8) (hd : decode M.2.1 pc = .ok (.invokestatic idx, 3)) (hM : ∀ r σ1, o1 = some (r, σ1) → gMt M' d' (as) σ (some (vi r)) σ1) (h : ∀ r σ1, o1 = some (r, σ1) → gGo X rv M d (pc + 3) L (vi r :: S) σ1 (K r σ1)) : gGo X rv M d pc L St σ (gb2 o1 K) := go_callS (rv' := rvI) hV hF hdd hn hst h8 hd hM h
theorem go_callSN_I {idx : Nat} {as : List gv} {o1 : Option (Int32 × gH)} {K : Int32 → gH → Option (α × gH)} (hV : (M.1.cls, idx, M'.1) ∈ gNest) (hstat : Cond.static M'.1 ∈ gTb) (hF : gMF M' n) (hdd : d' + 1 ≤ d) (hn : as.length = n) (hst : St = as.reverse ++ S) (h8 : gcs S ≤ 8) (hd : decode M.2.1 pc = .ok (.invokestatic idx, 3)) (hM : ∀ r σ1, o1 = some (r, σ1) → gMt M' d' (as) σ (some (vi r)) σ1) (h : ∀ r σ1, o1 = some (r, σ1) → gGo X rv M d (pc + 3) L (vi r :: S) σ1 (K r σ1)) : gGo X rv M d pc L St σ (gb2 o1 K) := go_callSN (rv' := rvI) hV hstat hF hdd hn hst h8 hd hM h
theorem go_callVS_I {idx i : Nat} {as : List gv} {o1 : Option (Int32 × gH)} {K : Int32 → gH → Option (α × gH)} (hV : gVL M.1.cls idx M') (hcls : M'.1.cls = "java/lang/String") (hF : gMF M' n) (hdd : d' + 1 ≤ d) (hn : as.length = n) (hst : St = as.reverse ++ vr (10 + 2 * i) :: S) (h8 : gcs S ≤ 8) (hd : decode M.2.1 pc = .ok (.invokevirtual idx, 3)) (hM : ∀ r σ1, o1 = some (r, σ1) → gMt M' d' (vr (10 + 2 * i) :: as) σ (some (vi r)) σ1) (h : ∀ r σ1, o1 = some (r, σ1) → gGo X rv M d (pc + 3) L (vi r :: S) σ1 (K r σ1)) : gGo X rv M d pc L St σ (gb2 (gsv i o1) K) := by
  unfold gsv
  by_cases hi : i < 16
  · rw [if_pos hi]; exact go_callVS (rv' := rvI) hi hV hcls hF hdd hn hst h8 hd hM h
  · rw [if_neg hi]; exact go_none
theorem go_callV_J {idx a c : Nat} {as : List gv} {o1 : Option (Int64 × gH)} {K : Int64 → gH → Option (α × gH)} (hV : gVL M.1.cls idx M') (hF : gMF M' n) (hc13 : c < 13) (hcl : (vwCl[c]?).map (fun q => q.1) = some M'.1.cls) (hdd : d' + 1 ≤ d) (hn : as.length = n) (hst : St = as.reverse ++ vr a :: S) (h8 : gcs S ≤ 8) (hd : decode M.2.1 pc = .ok (.invokevirtual idx, 3)) (hM : ∀ r σ1, o1 = some (r, σ1) → gMt M' d' (vr a :: as) σ (some (vl r)) σ1) (h : ∀ r σ1, o1 = some (r, σ1) → gGo X rv M d (pc + 3) L (vl r :: S) σ1 (K r σ1)) : gGo X rv M d pc L St σ (gb2 (gcv σ a c o1) K) := go_callV (rv' := rvJ) hV hF hc13 hcl hdd hn hst h8 hd hM h
theorem go_callS_J {idx : Nat} {as : List gv} {o1 : Option (Int64 × gH)} {K : Int64 → gH → Option (α × gH)} (hV : gSL M.1.cls idx M') (hF : gMF M' n) (hdd : d' + 1 ≤ d) (hn : as.length = n) (hst : St = as.reverse ++ S) (h8 : gcs S ≤ 8) (hd : decode M.2.1 pc = .ok (.invokestatic idx, 3)) (hM : ∀ r σ1, o1 = some (r, σ1) → gMt M' d' (as) σ (some (vl r)) σ1) (h : ∀ r σ1, o1 = some (r, σ1) → gGo X rv M d (pc + 3) L (vl r :: S) σ1 (K r σ1)) : gGo X rv M d pc L St σ (gb2 o1 K) := go_callS (rv' := rvJ) hV hF hdd hn hst h8 hd hM h
theorem go_callSN_J {idx : Nat} {as : List gv} {o1 : Option (Int64 × gH)} {K : Int64 → gH → Option (α × gH)} (hV : (M.1.cls, idx, M'.1) ∈ gNest) (hstat : Cond.static M'.1 ∈ gTb) (hF : gMF M' n) (hdd : d' + 1 ≤ d) (hn : as.length = n) (hst : St = as.reverse ++ S) (h8 : gcs S ≤ 8) (hd : decode M.2.1 pc = .ok (.invokestatic idx, 3)) (hM : ∀ r σ1, o1 = some (r, σ1) → gMt M' d' (as) σ (some (vl r)) σ1) (h : ∀ r σ1, o1 = some (r, σ1) → gGo X rv M d (pc + 3) L (vl r :: S) σ1 (K r σ1)) : gGo X rv M d pc L St σ (gb2 o1 K) := go_callSN (rv' := rvJ) hV hstat hF hdd hn hst h8 hd hM h
theorem go_callVS_J {idx i : Nat} {as : List gv} {o1 : Option (Int64 × gH)} {K : Int64 → gH → Option (α × gH)} (hV : gVL M.1.cls idx M') (hcls : M'.1.cls = "java/lang/String") (hF : gMF M' n) (hdd : d' + 1 ≤ d) (hn : as.length = n) (hst : St = as.reverse ++ vr (10 + 2 * i) :: S) (h8 : gcs S ≤ 8) (hd : decode M.2.1 pc = .ok (.invokevirtual idx, 3)) (hM : ∀ r σ1, o1 = some (r, σ1) → gMt M' d' (vr (10 + 2 * i) :: as) σ (some (vl r)) σ1) (h : ∀ r σ1, o1 = some (r, σ1) → gGo X rv M d (pc + 3) L (vl r :: S) σ1 (K r σ1)) : gGo X rv M d pc L St σ (gb2 (gsv i o1) K) := by
  unfold gsv
  by_cases hi : i < 16
  · rw [if_pos hi]; exact go_callVS (rv' := rvJ) hi hV hcls hF hdd hn hst h8 hd hM h
  · rw [if_neg hi]; exact go_none
theorem go_callV_R {idx a c : Nat} {as : List gv} {o1 : Option (Nat × gH)} {K : Nat → gH → Option (α × gH)} (hV : gVL M.1.cls idx M') (hF : gMF M' n) (hc13 : c < 13) (hcl : (vwCl[c]?).map (fun q => q.1) = some M'.1.cls) (hdd : d' + 1 ≤ d) (hn : as.length = n) (hst : St = as.reverse ++ vr a :: S) (h8 : gcs S ≤ 8) (hd : decode M.2.1 pc = .ok (.invokevirtual idx, 3)) (hM : ∀ r σ1, o1 = some (r, σ1) → gMt M' d' (vr a :: as) σ (some (vr r)) σ1) (h : ∀ r σ1, o1 = some (r, σ1) → gGo X rv M d (pc + 3) L (vr r :: S) σ1 (K r σ1)) : gGo X rv M d pc L St σ (gb2 (gcv σ a c o1) K) := go_callV (rv' := rvR) hV hF hc13 hcl hdd hn hst h8 hd hM h
theorem go_callS_R {idx : Nat} {as : List gv} {o1 : Option (Nat × gH)} {K : Nat → gH → Option (α × gH)} (hV : gSL M.1.cls idx M') (hF : gMF M' n) (hdd : d' + 1 ≤ d) (hn : as.length = n) (hst : St = as.reverse ++ S) (h8 : gcs S ≤ 8) (hd : decode M.2.1 pc = .ok (.invokestatic idx, 3)) (hM : ∀ r σ1, o1 = some (r, σ1) → gMt M' d' (as) σ (some (vr r)) σ1) (h : ∀ r σ1, o1 = some (r, σ1) → gGo X rv M d (pc + 3) L (vr r :: S) σ1 (K r σ1)) : gGo X rv M d pc L St σ (gb2 o1 K) := go_callS (rv' := rvR) hV hF hdd hn hst h8 hd hM h
theorem go_callSN_R {idx : Nat} {as : List gv} {o1 : Option (Nat × gH)} {K : Nat → gH → Option (α × gH)} (hV : (M.1.cls, idx, M'.1) ∈ gNest) (hstat : Cond.static M'.1 ∈ gTb) (hF : gMF M' n) (hdd : d' + 1 ≤ d) (hn : as.length = n) (hst : St = as.reverse ++ S) (h8 : gcs S ≤ 8) (hd : decode M.2.1 pc = .ok (.invokestatic idx, 3)) (hM : ∀ r σ1, o1 = some (r, σ1) → gMt M' d' (as) σ (some (vr r)) σ1) (h : ∀ r σ1, o1 = some (r, σ1) → gGo X rv M d (pc + 3) L (vr r :: S) σ1 (K r σ1)) : gGo X rv M d pc L St σ (gb2 o1 K) := go_callSN (rv' := rvR) hV hstat hF hdd hn hst h8 hd hM h
theorem go_callVS_R {idx i : Nat} {as : List gv} {o1 : Option (Nat × gH)} {K : Nat → gH → Option (α × gH)} (hV : gVL M.1.cls idx M') (hcls : M'.1.cls = "java/lang/String") (hF : gMF M' n) (hdd : d' + 1 ≤ d) (hn : as.length = n) (hst : St = as.reverse ++ vr (10 + 2 * i) :: S) (h8 : gcs S ≤ 8) (hd : decode M.2.1 pc = .ok (.invokevirtual idx, 3)) (hM : ∀ r σ1, o1 = some (r, σ1) → gMt M' d' (vr (10 + 2 * i) :: as) σ (some (vr r)) σ1) (h : ∀ r σ1, o1 = some (r, σ1) → gGo X rv M d (pc + 3) L (vr r :: S) σ1 (K r σ1)) : gGo X rv M d pc L St σ (gb2 (gsv i o1) K) := by
  unfold gsv
  by_cases hi : i < 16
  · rw [if_pos hi]; exact go_callVS (rv' := rvR) hi hV hcls hF hdd hn hst h8 hd hM h
  · rw [if_neg hi]; exact go_none
theorem go_callV_v {idx a c : Nat} {as : List gv} {o1 : Option (Unit × gH)} {K : Unit → gH → Option (α × gH)} (hV : gVL M.1.cls idx M') (hF : gMF M' n) (hc13 : c < 13) (hcl : (vwCl[c]?).map (fun q => q.1) = some M'.1.cls) (hdd : d' + 1 ≤ d) (hn : as.length = n) (hst : St = as.reverse ++ vr a :: S) (h8 : gcs S ≤ 8) (hd : decode M.2.1 pc = .ok (.invokevirtual idx, 3)) (hM : ∀ r σ1, o1 = some (r, σ1) → gMt M' d' (vr a :: as) σ none σ1) (h : ∀ r σ1, o1 = some (r, σ1) → gGo X rv M d (pc + 3) L (S) σ1 (K r σ1)) : gGo X rv M d pc L St σ (gb2 (gcv σ a c o1) K) := go_callV (rv' := rvU) hV hF hc13 hcl hdd hn hst h8 hd hM h
theorem go_callS_v {idx : Nat} {as : List gv} {o1 : Option (Unit × gH)} {K : Unit → gH → Option (α × gH)} (hV : gSL M.1.cls idx M') (hF : gMF M' n) (hdd : d' + 1 ≤ d) (hn : as.length = n) (hst : St = as.reverse ++ S) (h8 : gcs S ≤ 8) (hd : decode M.2.1 pc = .ok (.invokestatic idx, 3)) (hM : ∀ r σ1, o1 = some (r, σ1) → gMt M' d' (as) σ none σ1) (h : ∀ r σ1, o1 = some (r, σ1) → gGo X rv M d (pc + 3) L (S) σ1 (K r σ1)) : gGo X rv M d pc L St σ (gb2 o1 K) := go_callS (rv' := rvU) hV hF hdd hn hst h8 hd hM h
theorem go_callSN_v {idx : Nat} {as : List gv} {o1 : Option (Unit × gH)} {K : Unit → gH → Option (α × gH)} (hV : (M.1.cls, idx, M'.1) ∈ gNest) (hstat : Cond.static M'.1 ∈ gTb) (hF : gMF M' n) (hdd : d' + 1 ≤ d) (hn : as.length = n) (hst : St = as.reverse ++ S) (h8 : gcs S ≤ 8) (hd : decode M.2.1 pc = .ok (.invokestatic idx, 3)) (hM : ∀ r σ1, o1 = some (r, σ1) → gMt M' d' (as) σ none σ1) (h : ∀ r σ1, o1 = some (r, σ1) → gGo X rv M d (pc + 3) L (S) σ1 (K r σ1)) : gGo X rv M d pc L St σ (gb2 o1 K) := go_callSN (rv' := rvU) hV hstat hF hdd hn hst h8 hd hM h
theorem go_callVS_v {idx i : Nat} {as : List gv} {o1 : Option (Unit × gH)} {K : Unit → gH → Option (α × gH)} (hV : gVL M.1.cls idx M') (hcls : M'.1.cls = "java/lang/String") (hF : gMF M' n) (hdd : d' + 1 ≤ d) (hn : as.length = n) (hst : St = as.reverse ++ vr (10 + 2 * i) :: S) (h8 : gcs S ≤ 8) (hd : decode M.2.1 pc = .ok (.invokevirtual idx, 3)) (hM : ∀ r σ1, o1 = some (r, σ1) → gMt M' d' (vr (10 + 2 * i) :: as) σ none σ1) (h : ∀ r σ1, o1 = some (r, σ1) → gGo X rv M d (pc + 3) L (S) σ1 (K r σ1)) : gGo X rv M d pc L St σ (gb2 (gsv i o1) K) := by
  unfold gsv
  by_cases hi : i < 16
  · rw [if_pos hi]; exact go_callVS (rv' := rvU) hi hV hcls hF hdd hn hst h8 hd hM h
  · rw [if_neg hi]; exact go_none
theorem go_callI_v {idx a : Nat} {as : List gv} {o1 : Option (Unit × gH)} {K : Unit → gH → Option (α × gH)} (ha : a ≠ 0) (hV : gIL M.1.cls idx M') (hret : M'.2.2.2 = none) (hF : gMF M' n) (hdd : d' + 1 ≤ d) (hn : as.length = n) (hst : St = as.reverse ++ vr a :: S) (h8 : gcs S ≤ 8) (hd : decode M.2.1 pc = .ok (.invokespecial idx, 3)) (hM : ∀ r σ1, o1 = some (r, σ1) → gMt M' d' (vr a :: as) σ none σ1) (h : ∀ r σ1, o1 = some (r, σ1) → gGo X rv M d (pc + 3) L (S) σ1 (K r σ1)) : gGo X rv M d pc L St σ (gb2 o1 K) := go_callI (rv' := rvU) ha hV hret hF hdd hn hst h8 hd hM h
theorem go_callIN_v {idx a : Nat} {as : List gv} {o1 : Option (Unit × gH)} {K : Unit → gH → Option (α × gH)} (ha : a ≠ 0) (hV : (M.1.cls, idx, M'.1) ∈ gNest) (hinst : Cond.instanceMethod M'.1 ∈ gTb) (hname : M'.1.name = "<init>") (hret : M'.2.2.2 = none) (hF : gMF M' n) (hdd : d' + 1 ≤ d) (hn : as.length = n) (hst : St = as.reverse ++ vr a :: S) (h8 : gcs S ≤ 8) (hd : decode M.2.1 pc = .ok (.invokespecial idx, 3)) (hM : ∀ r σ1, o1 = some (r, σ1) → gMt M' d' (vr a :: as) σ none σ1) (h : ∀ r σ1, o1 = some (r, σ1) → gGo X rv M d (pc + 3) L (S) σ1 (K r σ1)) : gGo X rv M d pc L St σ (gb2 o1 K) := go_callIN (rv' := rvU) ha hV hinst hname hret hF hdd hn hst h8 hd hM h
def gmax (x y : Int32) : Int32 := if x < y then y else x
def gmin (x y : Int32) : Int32 := if y < x then y else x
theorem go_mmax {idx : Nat} {x y : Int32} (h1 : Cond.methodLink M.1.cls idx Lib.Math.max.name ∈ gTb) (h2 : Cond.static Lib.Math.max.name ∈ gTb) (h3 : Cond.initialized "java/lang/Math" ∈ gTb) (h4 : Cond.code Lib.Math.max.name Lib.Math.max.code 2 (some .int) ∈ gTb) (h8 : gcs S ≤ 8) (hd : decode M.2.1 pc = .ok (.invokestatic idx, 3)) (h : gGo X rv M d (pc + 3) L (vi (gmax x y) :: S) σ o) : gGo X rv M d pc L (vi y :: vi x :: S) σ o := by
  intro r σ' ho
  obtain ⟨hm, hw⟩ := h r σ' ho
  refine ⟨hm, fun p l e R s m args below meth c H locs cells slots Q ls B ad D cy n0 q0 hc hh hS g1 g2 g3 g4 hl hq => ?_⟩
  have hfr := hc.2.2.2.2.2.2.2.2.2.2.1
  have hlo := hc.2.2.2.2.2.2.2.2.2.2.2
  unfold gMn at hm
  exact va_mmax hc.1 hc.2.1 (by rw [hc.2.2.1]; exact hl.1.symm) hc.2.2.2.1 (hc.2.2.2.2.2.1 _ h1) (hc.2.2.2.2.2.1 _ h2) (hc.2.2.2.2.2.1 _ h3) (hc.2.2.2.2.2.1 _ h4) (by omega) (by rw [gcs_ls]; omega) (by omega) (by omega) hd (hw p l e R s m args below meth c H locs cells slots Q ls B ad D cy n0 q0 hc hh hS g1 g2 g3 g4 hl hq)
theorem go_mmin {idx : Nat} {x y : Int32} (h1 : Cond.methodLink M.1.cls idx Lib.Math.min.name ∈ gTb) (h2 : Cond.static Lib.Math.min.name ∈ gTb) (h3 : Cond.initialized "java/lang/Math" ∈ gTb) (h4 : Cond.code Lib.Math.min.name Lib.Math.min.code 2 (some .int) ∈ gTb) (h8 : gcs S ≤ 8) (hd : decode M.2.1 pc = .ok (.invokestatic idx, 3)) (h : gGo X rv M d (pc + 3) L (vi (gmin x y) :: S) σ o) : gGo X rv M d pc L (vi y :: vi x :: S) σ o := by
  intro r σ' ho
  obtain ⟨hm, hw⟩ := h r σ' ho
  refine ⟨hm, fun p l e R s m args below meth c H locs cells slots Q ls B ad D cy n0 q0 hc hh hS g1 g2 g3 g4 hl hq => ?_⟩
  have hfr := hc.2.2.2.2.2.2.2.2.2.2.1
  have hlo := hc.2.2.2.2.2.2.2.2.2.2.2
  unfold gMn at hm
  exact va_mmin hc.1 hc.2.1 (by rw [hc.2.2.1]; exact hl.1.symm) hc.2.2.2.1 (hc.2.2.2.2.2.1 _ h1) (hc.2.2.2.2.2.1 _ h2) (hc.2.2.2.2.2.1 _ h3) (hc.2.2.2.2.2.1 _ h4) (by omega) (by rw [gcs_ls]; omega) (by omega) (by omega) hd (hw p l e R s m args below meth c H locs cells slots Q ls B ad D cy n0 q0 hc hh hS g1 g2 g3 g4 hl hq)
end gR2
theorem gmm_max2 : Cond.static Lib.Math.max.name ∈ gTb := gk_RX0_29.2
theorem gmm_max4 : Cond.code Lib.Math.max.name Lib.Math.max.code 2 (some .int) ∈ gTb := gmf_J9_max_7cf53.1
theorem gmm_min2 : Cond.static Lib.Math.min.name ∈ gTb := gk_RX1_38.2
theorem gmm_min4 : Cond.code Lib.Math.min.name Lib.Math.min.code 2 (some .int) ∈ gTb := gmf_J9_min_7cf53.1
theorem gmm_3 : Cond.initialized "java/lang/Math" ∈ gTb := gmf_J9_max_7cf53.2.1
abbrev mL_law : gM := (yL_law, cL_law, 4, some .boolean)
/-! the types of fields -/
theorem gft_0_0 : gft 0 0 = 0 := by decide +kernel
theorem gpl_0_0 {M : gM} : gPL M 0 0 .int := ⟨RX0, TX0, 8, rfl, by decide, by decide +kernel, Or.inl rfl⟩
theorem gft_0_1 : gft 0 1 = 0 := by decide +kernel
theorem gpl_0_1 {M : gM} : gPL M 0 1 .int := ⟨RX0, TX0, 8, rfl, by decide, by decide +kernel, Or.inl rfl⟩
theorem gft_0_2 : gft 0 2 = 0 := by decide +kernel
theorem gpl_0_2 {M : gM} : gPL M 0 2 .int := ⟨RX0, TX0, 8, rfl, by decide, by decide +kernel, Or.inl rfl⟩
theorem gft_0_3 : gft 0 3 = 0 := by decide +kernel
theorem gpl_0_3 {M : gM} : gPL M 0 3 .int := ⟨RX0, TX0, 8, rfl, by decide, by decide +kernel, Or.inl rfl⟩
theorem gft_0_4 : gft 0 4 = 0 := by decide +kernel
theorem gpl_0_4 {M : gM} : gPL M 0 4 .int := ⟨RX0, TX0, 8, rfl, by decide, by decide +kernel, Or.inl rfl⟩
theorem gft_0_5 : gft 0 5 = 0 := by decide +kernel
theorem gpl_0_5 {M : gM} : gPL M 0 5 .int := ⟨RX0, TX0, 8, rfl, by decide, by decide +kernel, Or.inl rfl⟩
theorem gft_0_6 : gft 0 6 = 0 := by decide +kernel
theorem gpl_0_6 {M : gM} : gPL M 0 6 .int := ⟨RX0, TX0, 8, rfl, by decide, by decide +kernel, Or.inl rfl⟩
theorem gft_0_7 : gft 0 7 = 0 := by decide +kernel
theorem gpl_0_7 {M : gM} : gPL M 0 7 .int := ⟨RX0, TX0, 8, rfl, by decide, by decide +kernel, Or.inl rfl⟩
theorem gft_1_0 : gft 1 0 = 0 := by decide +kernel
theorem gpl_1_0 {M : gM} : gPL M 1 0 .int := ⟨RX1, TX1, 7, rfl, by decide, by decide +kernel, Or.inl rfl⟩
theorem gft_1_1 : gft 1 1 = 0 := by decide +kernel
theorem gpl_1_1 {M : gM} : gPL M 1 1 .int := ⟨RX1, TX1, 7, rfl, by decide, by decide +kernel, Or.inl rfl⟩
theorem gft_1_2 : gft 1 2 = 0 := by decide +kernel
theorem gpl_1_2 {M : gM} : gPL M 1 2 .int := ⟨RX1, TX1, 7, rfl, by decide, by decide +kernel, Or.inl rfl⟩
theorem gft_1_3 : gft 1 3 = 2 := by decide +kernel
theorem gpf_1_3 {M : gM} (h1 : M.1.name = "<init>") (h2 : RX1 = M.1.cls) : gPL M 1 3 (.array (.object "FeastRules$Rule")) := ⟨RX1, TX1, 7, rfl, by decide, by decide +kernel, Or.inr ⟨h1, h2⟩⟩
theorem gft_1_4 : gft 1 4 = 2 := by decide +kernel
theorem gpf_1_4 {M : gM} (h1 : M.1.name = "<init>") (h2 : RX1 = M.1.cls) : gPL M 1 4 (.array .int) := ⟨RX1, TX1, 7, rfl, by decide, by decide +kernel, Or.inr ⟨h1, h2⟩⟩
theorem gft_1_5 : gft 1 5 = 2 := by decide +kernel
theorem gpf_1_5 {M : gM} (h1 : M.1.name = "<init>") (h2 : RX1 = M.1.cls) : gPL M 1 5 (.array .int) := ⟨RX1, TX1, 7, rfl, by decide, by decide +kernel, Or.inr ⟨h1, h2⟩⟩
theorem gft_1_6 : gft 1 6 = 2 := by decide +kernel
theorem gpf_1_6 {M : gM} (h1 : M.1.name = "<init>") (h2 : RX1 = M.1.cls) : gPL M 1 6 (.array .int) := ⟨RX1, TX1, 7, rfl, by decide, by decide +kernel, Or.inr ⟨h1, h2⟩⟩
theorem gft_2_0 : gft 2 0 = 2 := by decide +kernel
theorem gpf_2_0 {M : gM} (h1 : M.1.name = "<init>") (h2 : RX2 = M.1.cls) : gPL M 2 0 (.array .long) := ⟨RX2, TX2, 1, rfl, by decide, by decide +kernel, Or.inr ⟨h1, h2⟩⟩
theorem gft_3_0 : gft 3 0 = 2 := by decide +kernel
theorem gpf_3_0 {M : gM} (h1 : M.1.name = "<init>") (h2 : RX3 = M.1.cls) : gPL M 3 0 (.object "FeastRules$Almanac") := ⟨RX3, TX3, 3, rfl, by decide, by decide +kernel, Or.inr ⟨h1, h2⟩⟩
theorem gft_3_1 : gft 3 1 = 2 := by decide +kernel
theorem gpf_3_1 {M : gM} (h1 : M.1.name = "<init>") (h2 : RX3 = M.1.cls) : gPL M 3 1 (.array .int) := ⟨RX3, TX3, 3, rfl, by decide, by decide +kernel, Or.inr ⟨h1, h2⟩⟩
theorem gft_3_2 : gft 3 2 = 0 := by decide +kernel
theorem gpl_3_2 {M : gM} : gPL M 3 2 .int := ⟨RX3, TX3, 3, rfl, by decide, by decide +kernel, Or.inl rfl⟩
theorem gft_4_0 : gft 4 0 = 2 := by decide +kernel
theorem gpf_4_0 {M : gM} (h1 : M.1.name = "<init>") (h2 : RX4 = M.1.cls) : gPL M 4 0 (.array .int) := ⟨RX4, TX4, 6, rfl, by decide, by decide +kernel, Or.inr ⟨h1, h2⟩⟩
theorem gft_4_1 : gft 4 1 = 2 := by decide +kernel
theorem gpf_4_1 {M : gM} (h1 : M.1.name = "<init>") (h2 : RX4 = M.1.cls) : gPL M 4 1 (.array .int) := ⟨RX4, TX4, 6, rfl, by decide, by decide +kernel, Or.inr ⟨h1, h2⟩⟩
theorem gft_4_2 : gft 4 2 = 2 := by decide +kernel
theorem gpf_4_2 {M : gM} (h1 : M.1.name = "<init>") (h2 : RX4 = M.1.cls) : gPL M 4 2 (.array .int) := ⟨RX4, TX4, 6, rfl, by decide, by decide +kernel, Or.inr ⟨h1, h2⟩⟩
theorem gft_4_3 : gft 4 3 = 2 := by decide +kernel
theorem gpf_4_3 {M : gM} (h1 : M.1.name = "<init>") (h2 : RX4 = M.1.cls) : gPL M 4 3 (.array (.object "FeastRules$Row")) := ⟨RX4, TX4, 6, rfl, by decide, by decide +kernel, Or.inr ⟨h1, h2⟩⟩
theorem gft_4_4 : gft 4 4 = 0 := by decide +kernel
theorem gpl_4_4 {M : gM} : gPL M 4 4 .int := ⟨RX4, TX4, 6, rfl, by decide, by decide +kernel, Or.inl rfl⟩
theorem gft_4_5 : gft 4 5 = 0 := by decide +kernel
theorem gpl_4_5 {M : gM} : gPL M 4 5 .int := ⟨RX4, TX4, 6, rfl, by decide, by decide +kernel, Or.inl rfl⟩
theorem gft_5_0 : gft 5 0 = 2 := by decide +kernel
theorem gpf_5_0 {M : gM} (h1 : M.1.name = "<init>") (h2 : RX5 = M.1.cls) : gPL M 5 0 (.object "FeastRules$Finder") := ⟨RX5, TX5, 8, rfl, by decide, by decide +kernel, Or.inr ⟨h1, h2⟩⟩
theorem gft_5_1 : gft 5 1 = 2 := by decide +kernel
theorem gpf_5_1 {M : gM} (h1 : M.1.name = "<init>") (h2 : RX5 = M.1.cls) : gPL M 5 1 (.array (.object "FeastRules$DaySet")) := ⟨RX5, TX5, 8, rfl, by decide, by decide +kernel, Or.inr ⟨h1, h2⟩⟩
theorem gft_5_2 : gft 5 2 = 2 := by decide +kernel
theorem gpf_5_2 {M : gM} (h1 : M.1.name = "<init>") (h2 : RX5 = M.1.cls) : gPL M 5 2 (.array (.object "FeastRules$DaySet")) := ⟨RX5, TX5, 8, rfl, by decide, by decide +kernel, Or.inr ⟨h1, h2⟩⟩
theorem gft_5_3 : gft 5 3 = 2 := by decide +kernel
theorem gpf_5_3 {M : gM} (h1 : M.1.name = "<init>") (h2 : RX5 = M.1.cls) : gPL M 5 3 (.array (.object "FeastRules$Row")) := ⟨RX5, TX5, 8, rfl, by decide, by decide +kernel, Or.inr ⟨h1, h2⟩⟩
theorem gft_5_4 : gft 5 4 = 2 := by decide +kernel
theorem gpf_5_4 {M : gM} (h1 : M.1.name = "<init>") (h2 : RX5 = M.1.cls) : gPL M 5 4 (.array (.object "FeastRules$Row")) := ⟨RX5, TX5, 8, rfl, by decide, by decide +kernel, Or.inr ⟨h1, h2⟩⟩
theorem gft_5_5 : gft 5 5 = 2 := by decide +kernel
theorem gpl_5_5 {M : gM} : gPL M 5 5 (.object "FeastRules$Book") := ⟨RX5, TX5, 8, rfl, by decide, by decide +kernel, Or.inl rfl⟩
theorem gft_5_6 : gft 5 6 = 0 := by decide +kernel
theorem gpl_5_6 {M : gM} : gPL M 5 6 .int := ⟨RX5, TX5, 8, rfl, by decide, by decide +kernel, Or.inl rfl⟩
theorem gft_5_7 : gft 5 7 = 0 := by decide +kernel
theorem gpl_5_7 {M : gM} : gPL M 5 7 .int := ⟨RX5, TX5, 8, rfl, by decide, by decide +kernel, Or.inl rfl⟩
theorem gft_6_0 : gft 6 0 = 0 := by decide +kernel
theorem gpl_6_0 {M : gM} : gPL M 6 0 .int := ⟨RX6, TX6, 9, rfl, by decide, by decide +kernel, Or.inl rfl⟩
theorem gft_6_1 : gft 6 1 = 0 := by decide +kernel
theorem gpl_6_1 {M : gM} : gPL M 6 1 .int := ⟨RX6, TX6, 9, rfl, by decide, by decide +kernel, Or.inl rfl⟩
theorem gft_6_2 : gft 6 2 = 2 := by decide +kernel
theorem gpl_6_2 {M : gM} : gPL M 6 2 (.array .byte) := ⟨RX6, TX6, 9, rfl, by decide, by decide +kernel, Or.inl rfl⟩
theorem gft_6_3 : gft 6 3 = 0 := by decide +kernel
theorem gpl_6_3 {M : gM} : gPL M 6 3 .int := ⟨RX6, TX6, 9, rfl, by decide, by decide +kernel, Or.inl rfl⟩
theorem gft_6_4 : gft 6 4 = 0 := by decide +kernel
theorem gpl_6_4 {M : gM} : gPL M 6 4 .int := ⟨RX6, TX6, 9, rfl, by decide, by decide +kernel, Or.inl rfl⟩
theorem gft_6_5 : gft 6 5 = 0 := by decide +kernel
theorem gpl_6_5 {M : gM} : gPL M 6 5 .int := ⟨RX6, TX6, 9, rfl, by decide, by decide +kernel, Or.inl rfl⟩
theorem gft_6_6 : gft 6 6 = 0 := by decide +kernel
theorem gpl_6_6 {M : gM} : gPL M 6 6 .int := ⟨RX6, TX6, 9, rfl, by decide, by decide +kernel, Or.inl rfl⟩
theorem gft_6_7 : gft 6 7 = 2 := by decide +kernel
theorem gpl_6_7 {M : gM} : gPL M 6 7 (.object "FeastRules$Book") := ⟨RX6, TX6, 9, rfl, by decide, by decide +kernel, Or.inl rfl⟩
theorem gft_6_8 : gft 6 8 = 2 := by decide +kernel
theorem gpf_6_8 {M : gM} (h1 : M.1.name = "<init>") (h2 : RX6 = M.1.cls) : gPL M 6 8 (.object "FeastRules$Row") := ⟨RX6, TX6, 9, rfl, by decide, by decide +kernel, Or.inr ⟨h1, h2⟩⟩
theorem gft_7_0 : gft 7 0 = 2 := by decide +kernel
theorem gpf_7_0 {M : gM} (h1 : M.1.name = "<init>") (h2 : RX7 = M.1.cls) : gPL M 7 0 (.array .int) := ⟨RX7, TX7, 2, rfl, by decide, by decide +kernel, Or.inr ⟨h1, h2⟩⟩
theorem gft_7_1 : gft 7 1 = 0 := by decide +kernel
theorem gpl_7_1 {M : gM} : gPL M 7 1 .int := ⟨RX7, TX7, 2, rfl, by decide, by decide +kernel, Or.inl rfl⟩
theorem gft_8_0 : gft 8 0 = 0 := by decide +kernel
theorem gpl_8_0 {M : gM} : gPL M 8 0 .int := ⟨RX8, TX8, 15, rfl, by decide, by decide +kernel, Or.inl rfl⟩
theorem gft_8_1 : gft 8 1 = 0 := by decide +kernel
theorem gpl_8_1 {M : gM} : gPL M 8 1 .int := ⟨RX8, TX8, 15, rfl, by decide, by decide +kernel, Or.inl rfl⟩
theorem gft_8_2 : gft 8 2 = 0 := by decide +kernel
theorem gpl_8_2 {M : gM} : gPL M 8 2 .int := ⟨RX8, TX8, 15, rfl, by decide, by decide +kernel, Or.inl rfl⟩
theorem gft_8_3 : gft 8 3 = 0 := by decide +kernel
theorem gpl_8_3 {M : gM} : gPL M 8 3 .int := ⟨RX8, TX8, 15, rfl, by decide, by decide +kernel, Or.inl rfl⟩
theorem gft_8_4 : gft 8 4 = 0 := by decide +kernel
theorem gpl_8_4 {M : gM} : gPL M 8 4 .int := ⟨RX8, TX8, 15, rfl, by decide, by decide +kernel, Or.inl rfl⟩
theorem gft_8_5 : gft 8 5 = 0 := by decide +kernel
theorem gpl_8_5 {M : gM} : gPL M 8 5 .int := ⟨RX8, TX8, 15, rfl, by decide, by decide +kernel, Or.inl rfl⟩
theorem gft_8_6 : gft 8 6 = 0 := by decide +kernel
theorem gpl_8_6 {M : gM} : gPL M 8 6 .int := ⟨RX8, TX8, 15, rfl, by decide, by decide +kernel, Or.inl rfl⟩
theorem gft_8_7 : gft 8 7 = 0 := by decide +kernel
theorem gpl_8_7 {M : gM} : gPL M 8 7 .int := ⟨RX8, TX8, 15, rfl, by decide, by decide +kernel, Or.inl rfl⟩
theorem gft_8_8 : gft 8 8 = 0 := by decide +kernel
theorem gpl_8_8 {M : gM} : gPL M 8 8 .int := ⟨RX8, TX8, 15, rfl, by decide, by decide +kernel, Or.inl rfl⟩
theorem gft_8_9 : gft 8 9 = 0 := by decide +kernel
theorem gpl_8_9 {M : gM} : gPL M 8 9 .int := ⟨RX8, TX8, 15, rfl, by decide, by decide +kernel, Or.inl rfl⟩
theorem gft_8_10 : gft 8 10 = 0 := by decide +kernel
theorem gpl_8_10 {M : gM} : gPL M 8 10 .int := ⟨RX8, TX8, 15, rfl, by decide, by decide +kernel, Or.inl rfl⟩
theorem gft_8_11 : gft 8 11 = 0 := by decide +kernel
theorem gpl_8_11 {M : gM} : gPL M 8 11 .int := ⟨RX8, TX8, 15, rfl, by decide, by decide +kernel, Or.inl rfl⟩
theorem gft_8_12 : gft 8 12 = 0 := by decide +kernel
theorem gpl_8_12 {M : gM} : gPL M 8 12 .int := ⟨RX8, TX8, 15, rfl, by decide, by decide +kernel, Or.inl rfl⟩
theorem gft_8_13 : gft 8 13 = 2 := by decide +kernel
theorem gpf_8_13 {M : gM} (h1 : M.1.name = "<init>") (h2 : RX8 = M.1.cls) : gPL M 8 13 (.object "FeastRules$Row") := ⟨RX8, TX8, 15, rfl, by decide, by decide +kernel, Or.inr ⟨h1, h2⟩⟩
theorem gft_8_14 : gft 8 14 = 2 := by decide +kernel
theorem gpf_8_14 {M : gM} (h1 : M.1.name = "<init>") (h2 : RX8 = M.1.cls) : gPL M 8 14 (.object "FeastRules$Row") := ⟨RX8, TX8, 15, rfl, by decide, by decide +kernel, Or.inr ⟨h1, h2⟩⟩
theorem gft_9_0 : gft 9 0 = 2 := by decide +kernel
theorem gpf_9_0 {M : gM} (h1 : M.1.name = "<init>") (h2 : RX9 = M.1.cls) : gPL M 9 0 (.object "FeastRules$Finder") := ⟨RX9, TX9, 12, rfl, by decide, by decide +kernel, Or.inr ⟨h1, h2⟩⟩
theorem gft_9_1 : gft 9 1 = 2 := by decide +kernel
theorem gpf_9_1 {M : gM} (h1 : M.1.name = "<init>") (h2 : RX9 = M.1.cls) : gPL M 9 1 (.object "FeastRules$DaySet") := ⟨RX9, TX9, 12, rfl, by decide, by decide +kernel, Or.inr ⟨h1, h2⟩⟩
theorem gft_9_2 : gft 9 2 = 2 := by decide +kernel
theorem gpf_9_2 {M : gM} (h1 : M.1.name = "<init>") (h2 : RX9 = M.1.cls) : gPL M 9 2 (.array .int) := ⟨RX9, TX9, 12, rfl, by decide, by decide +kernel, Or.inr ⟨h1, h2⟩⟩
theorem gft_9_3 : gft 9 3 = 2 := by decide +kernel
theorem gpf_9_3 {M : gM} (h1 : M.1.name = "<init>") (h2 : RX9 = M.1.cls) : gPL M 9 3 (.array .boolean) := ⟨RX9, TX9, 12, rfl, by decide, by decide +kernel, Or.inr ⟨h1, h2⟩⟩
theorem gft_9_4 : gft 9 4 = 2 := by decide +kernel
theorem gpf_9_4 {M : gM} (h1 : M.1.name = "<init>") (h2 : RX9 = M.1.cls) : gPL M 9 4 (.array .int) := ⟨RX9, TX9, 12, rfl, by decide, by decide +kernel, Or.inr ⟨h1, h2⟩⟩
theorem gft_9_5 : gft 9 5 = 2 := by decide +kernel
theorem gpf_9_5 {M : gM} (h1 : M.1.name = "<init>") (h2 : RX9 = M.1.cls) : gPL M 9 5 (.object "FeastRules$Row") := ⟨RX9, TX9, 12, rfl, by decide, by decide +kernel, Or.inr ⟨h1, h2⟩⟩
theorem gft_9_6 : gft 9 6 = 2 := by decide +kernel
theorem gpl_9_6 {M : gM} : gPL M 9 6 (.object "FeastRules$Rule") := ⟨RX9, TX9, 12, rfl, by decide, by decide +kernel, Or.inl rfl⟩
theorem gft_9_7 : gft 9 7 = 0 := by decide +kernel
theorem gpl_9_7 {M : gM} : gPL M 9 7 .boolean := ⟨RX9, TX9, 12, rfl, by decide, by decide +kernel, Or.inl rfl⟩
theorem gft_9_8 : gft 9 8 = 0 := by decide +kernel
theorem gpl_9_8 {M : gM} : gPL M 9 8 .int := ⟨RX9, TX9, 12, rfl, by decide, by decide +kernel, Or.inl rfl⟩
theorem gft_9_9 : gft 9 9 = 0 := by decide +kernel
theorem gpl_9_9 {M : gM} : gPL M 9 9 .int := ⟨RX9, TX9, 12, rfl, by decide, by decide +kernel, Or.inl rfl⟩
theorem gft_9_10 : gft 9 10 = 0 := by decide +kernel
theorem gpl_9_10 {M : gM} : gPL M 9 10 .int := ⟨RX9, TX9, 12, rfl, by decide, by decide +kernel, Or.inl rfl⟩
theorem gft_9_11 : gft 9 11 = 0 := by decide +kernel
theorem gpl_9_11 {M : gM} : gPL M 9 11 .int := ⟨RX9, TX9, 12, rfl, by decide, by decide +kernel, Or.inl rfl⟩
theorem gft_10_0 : gft 10 0 = 2 := by decide +kernel
theorem gpf_10_0 {M : gM} (h1 : M.1.name = "<init>") (h2 : RX10 = M.1.cls) : gPL M 10 0 (.array .byte) := ⟨RX10, TX10, 2, rfl, by decide, by decide +kernel, Or.inr ⟨h1, h2⟩⟩
theorem gft_10_1 : gft 10 1 = 0 := by decide +kernel
theorem gpl_10_1 {M : gM} : gPL M 10 1 .int := ⟨RX10, TX10, 2, rfl, by decide, by decide +kernel, Or.inl rfl⟩
theorem gft_11_0 : gft 11 0 = 2 := by decide +kernel
theorem gpf_11_0 {M : gM} (h1 : M.1.name = "<init>") (h2 : RX11 = M.1.cls) : gPL M 11 0 (.object "FeastRules$Tape") := ⟨RX11, TX11, 10, rfl, by decide, by decide +kernel, Or.inr ⟨h1, h2⟩⟩
theorem gft_11_1 : gft 11 1 = 2 := by decide +kernel
theorem gpf_11_1 {M : gM} (h1 : M.1.name = "<init>") (h2 : RX11 = M.1.cls) : gPL M 11 1 (.object "FeastRules$Reader") := ⟨RX11, TX11, 10, rfl, by decide, by decide +kernel, Or.inr ⟨h1, h2⟩⟩
theorem gft_11_2 : gft 11 2 = 2 := by decide +kernel
theorem gpf_11_2 {M : gM} (h1 : M.1.name = "<init>") (h2 : RX11 = M.1.cls) : gPL M 11 2 (.object "FeastRules$Finder") := ⟨RX11, TX11, 10, rfl, by decide, by decide +kernel, Or.inr ⟨h1, h2⟩⟩
theorem gft_11_3 : gft 11 3 = 2 := by decide +kernel
theorem gpf_11_3 {M : gM} (h1 : M.1.name = "<init>") (h2 : RX11 = M.1.cls) : gPL M 11 3 (.object "FeastRules$Ledger") := ⟨RX11, TX11, 10, rfl, by decide, by decide +kernel, Or.inr ⟨h1, h2⟩⟩
theorem gft_11_4 : gft 11 4 = 2 := by decide +kernel
theorem gpf_11_4 {M : gM} (h1 : M.1.name = "<init>") (h2 : RX11 = M.1.cls) : gPL M 11 4 (.object "FeastRules$Journal") := ⟨RX11, TX11, 10, rfl, by decide, by decide +kernel, Or.inr ⟨h1, h2⟩⟩
theorem gft_11_5 : gft 11 5 = 2 := by decide +kernel
theorem gpf_11_5 {M : gM} (h1 : M.1.name = "<init>") (h2 : RX11 = M.1.cls) : gPL M 11 5 (.object "FeastRules$Seen") := ⟨RX11, TX11, 10, rfl, by decide, by decide +kernel, Or.inr ⟨h1, h2⟩⟩
theorem gft_11_6 : gft 11 6 = 2 := by decide +kernel
theorem gpf_11_6 {M : gM} (h1 : M.1.name = "<init>") (h2 : RX11 = M.1.cls) : gPL M 11 6 (.array .int) := ⟨RX11, TX11, 10, rfl, by decide, by decide +kernel, Or.inr ⟨h1, h2⟩⟩
theorem gft_11_7 : gft 11 7 = 2 := by decide +kernel
theorem gpl_11_7 {M : gM} : gPL M 11 7 (.object "FeastRules$Book") := ⟨RX11, TX11, 10, rfl, by decide, by decide +kernel, Or.inl rfl⟩
theorem gft_11_8 : gft 11 8 = 2 := by decide +kernel
theorem gpl_11_8 {M : gM} : gPL M 11 8 (.object "FeastRules$Book") := ⟨RX11, TX11, 10, rfl, by decide, by decide +kernel, Or.inl rfl⟩
theorem gft_11_9 : gft 11 9 = 0 := by decide +kernel
theorem gpl_11_9 {M : gM} : gPL M 11 9 .int := ⟨RX11, TX11, 10, rfl, by decide, by decide +kernel, Or.inl rfl⟩
theorem gft_12_0 : gft 12 0 = 2 := by decide +kernel
theorem gpf_12_0 {M : gM} (h1 : M.1.name = "<init>") (h2 : RX12 = M.1.cls) : gPL M 12 0 (.array .int) := ⟨RX12, TX12, 47, rfl, by decide, by decide +kernel, Or.inr ⟨h1, h2⟩⟩
theorem gft_12_1 : gft 12 1 = 0 := by decide +kernel
theorem gpl_12_1 {M : gM} : gPL M 12 1 .int := ⟨RX12, TX12, 47, rfl, by decide, by decide +kernel, Or.inl rfl⟩
theorem gft_12_2 : gft 12 2 = 0 := by decide +kernel
theorem gpl_12_2 {M : gM} : gPL M 12 2 .int := ⟨RX12, TX12, 47, rfl, by decide, by decide +kernel, Or.inl rfl⟩
theorem gft_12_3 : gft 12 3 = 0 := by decide +kernel
theorem gpl_12_3 {M : gM} : gPL M 12 3 .int := ⟨RX12, TX12, 47, rfl, by decide, by decide +kernel, Or.inl rfl⟩
theorem gft_12_4 : gft 12 4 = 0 := by decide +kernel
theorem gpl_12_4 {M : gM} : gPL M 12 4 .int := ⟨RX12, TX12, 47, rfl, by decide, by decide +kernel, Or.inl rfl⟩
theorem gft_12_5 : gft 12 5 = 0 := by decide +kernel
theorem gpl_12_5 {M : gM} : gPL M 12 5 .int := ⟨RX12, TX12, 47, rfl, by decide, by decide +kernel, Or.inl rfl⟩
theorem gft_12_6 : gft 12 6 = 0 := by decide +kernel
theorem gpl_12_6 {M : gM} : gPL M 12 6 .int := ⟨RX12, TX12, 47, rfl, by decide, by decide +kernel, Or.inl rfl⟩
theorem gft_12_7 : gft 12 7 = 0 := by decide +kernel
theorem gpl_12_7 {M : gM} : gPL M 12 7 .int := ⟨RX12, TX12, 47, rfl, by decide, by decide +kernel, Or.inl rfl⟩
theorem gft_12_8 : gft 12 8 = 0 := by decide +kernel
theorem gpl_12_8 {M : gM} : gPL M 12 8 .int := ⟨RX12, TX12, 47, rfl, by decide, by decide +kernel, Or.inl rfl⟩
theorem gft_12_9 : gft 12 9 = 2 := by decide +kernel
theorem gpf_12_9 {M : gM} (h1 : M.1.name = "<init>") (h2 : RX12 = M.1.cls) : gPL M 12 9 (.array .int) := ⟨RX12, TX12, 47, rfl, by decide, by decide +kernel, Or.inr ⟨h1, h2⟩⟩
theorem gft_12_10 : gft 12 10 = 0 := by decide +kernel
theorem gpl_12_10 {M : gM} : gPL M 12 10 .int := ⟨RX12, TX12, 47, rfl, by decide, by decide +kernel, Or.inl rfl⟩
theorem gft_12_11 : gft 12 11 = 2 := by decide +kernel
theorem gpf_12_11 {M : gM} (h1 : M.1.name = "<init>") (h2 : RX12 = M.1.cls) : gPL M 12 11 (.array .char) := ⟨RX12, TX12, 47, rfl, by decide, by decide +kernel, Or.inr ⟨h1, h2⟩⟩
theorem gft_12_12 : gft 12 12 = 0 := by decide +kernel
theorem gpl_12_12 {M : gM} : gPL M 12 12 .int := ⟨RX12, TX12, 47, rfl, by decide, by decide +kernel, Or.inl rfl⟩
theorem gft_12_13 : gft 12 13 = 2 := by decide +kernel
theorem gpf_12_13 {M : gM} (h1 : M.1.name = "<init>") (h2 : RX12 = M.1.cls) : gPL M 12 13 (.array .int) := ⟨RX12, TX12, 47, rfl, by decide, by decide +kernel, Or.inr ⟨h1, h2⟩⟩
theorem gft_12_14 : gft 12 14 = 2 := by decide +kernel
theorem gpf_12_14 {M : gM} (h1 : M.1.name = "<init>") (h2 : RX12 = M.1.cls) : gPL M 12 14 (.array .int) := ⟨RX12, TX12, 47, rfl, by decide, by decide +kernel, Or.inr ⟨h1, h2⟩⟩
theorem gft_12_15 : gft 12 15 = 2 := by decide +kernel
theorem gpf_12_15 {M : gM} (h1 : M.1.name = "<init>") (h2 : RX12 = M.1.cls) : gPL M 12 15 (.array .int) := ⟨RX12, TX12, 47, rfl, by decide, by decide +kernel, Or.inr ⟨h1, h2⟩⟩
theorem gft_12_16 : gft 12 16 = 2 := by decide +kernel
theorem gpf_12_16 {M : gM} (h1 : M.1.name = "<init>") (h2 : RX12 = M.1.cls) : gPL M 12 16 (.array .int) := ⟨RX12, TX12, 47, rfl, by decide, by decide +kernel, Or.inr ⟨h1, h2⟩⟩
theorem gft_12_17 : gft 12 17 = 0 := by decide +kernel
theorem gpl_12_17 {M : gM} : gPL M 12 17 .boolean := ⟨RX12, TX12, 47, rfl, by decide, by decide +kernel, Or.inl rfl⟩
theorem gft_12_18 : gft 12 18 = 2 := by decide +kernel
theorem gpf_12_18 {M : gM} (h1 : M.1.name = "<init>") (h2 : RX12 = M.1.cls) : gPL M 12 18 (.array .int) := ⟨RX12, TX12, 47, rfl, by decide, by decide +kernel, Or.inr ⟨h1, h2⟩⟩
theorem gft_12_19 : gft 12 19 = 2 := by decide +kernel
theorem gpf_12_19 {M : gM} (h1 : M.1.name = "<init>") (h2 : RX12 = M.1.cls) : gPL M 12 19 (.array .int) := ⟨RX12, TX12, 47, rfl, by decide, by decide +kernel, Or.inr ⟨h1, h2⟩⟩
theorem gft_12_20 : gft 12 20 = 2 := by decide +kernel
theorem gpf_12_20 {M : gM} (h1 : M.1.name = "<init>") (h2 : RX12 = M.1.cls) : gPL M 12 20 (.array .int) := ⟨RX12, TX12, 47, rfl, by decide, by decide +kernel, Or.inr ⟨h1, h2⟩⟩
theorem gft_12_21 : gft 12 21 = 2 := by decide +kernel
theorem gpf_12_21 {M : gM} (h1 : M.1.name = "<init>") (h2 : RX12 = M.1.cls) : gPL M 12 21 (.array .int) := ⟨RX12, TX12, 47, rfl, by decide, by decide +kernel, Or.inr ⟨h1, h2⟩⟩
theorem gft_12_22 : gft 12 22 = 0 := by decide +kernel
theorem gpl_12_22 {M : gM} : gPL M 12 22 .int := ⟨RX12, TX12, 47, rfl, by decide, by decide +kernel, Or.inl rfl⟩
theorem gft_12_23 : gft 12 23 = 0 := by decide +kernel
theorem gpl_12_23 {M : gM} : gPL M 12 23 .boolean := ⟨RX12, TX12, 47, rfl, by decide, by decide +kernel, Or.inl rfl⟩
theorem gft_12_24 : gft 12 24 = 0 := by decide +kernel
theorem gpl_12_24 {M : gM} : gPL M 12 24 .int := ⟨RX12, TX12, 47, rfl, by decide, by decide +kernel, Or.inl rfl⟩
theorem gft_12_25 : gft 12 25 = 2 := by decide +kernel
theorem gpf_12_25 {M : gM} (h1 : M.1.name = "<init>") (h2 : RX12 = M.1.cls) : gPL M 12 25 (.array .int) := ⟨RX12, TX12, 47, rfl, by decide, by decide +kernel, Or.inr ⟨h1, h2⟩⟩
theorem gft_12_26 : gft 12 26 = 0 := by decide +kernel
theorem gpl_12_26 {M : gM} : gPL M 12 26 .int := ⟨RX12, TX12, 47, rfl, by decide, by decide +kernel, Or.inl rfl⟩
theorem gft_12_27 : gft 12 27 = 0 := by decide +kernel
theorem gpl_12_27 {M : gM} : gPL M 12 27 .int := ⟨RX12, TX12, 47, rfl, by decide, by decide +kernel, Or.inl rfl⟩
theorem gft_12_28 : gft 12 28 = 2 := by decide +kernel
theorem gpf_12_28 {M : gM} (h1 : M.1.name = "<init>") (h2 : RX12 = M.1.cls) : gPL M 12 28 (.array .int) := ⟨RX12, TX12, 47, rfl, by decide, by decide +kernel, Or.inr ⟨h1, h2⟩⟩
theorem gft_12_29 : gft 12 29 = 2 := by decide +kernel
theorem gpf_12_29 {M : gM} (h1 : M.1.name = "<init>") (h2 : RX12 = M.1.cls) : gPL M 12 29 (.array .int) := ⟨RX12, TX12, 47, rfl, by decide, by decide +kernel, Or.inr ⟨h1, h2⟩⟩
theorem gft_12_30 : gft 12 30 = 2 := by decide +kernel
theorem gpf_12_30 {M : gM} (h1 : M.1.name = "<init>") (h2 : RX12 = M.1.cls) : gPL M 12 30 (.array .boolean) := ⟨RX12, TX12, 47, rfl, by decide, by decide +kernel, Or.inr ⟨h1, h2⟩⟩
theorem gft_12_31 : gft 12 31 = 2 := by decide +kernel
theorem gpf_12_31 {M : gM} (h1 : M.1.name = "<init>") (h2 : RX12 = M.1.cls) : gPL M 12 31 (.array .boolean) := ⟨RX12, TX12, 47, rfl, by decide, by decide +kernel, Or.inr ⟨h1, h2⟩⟩
theorem gft_12_32 : gft 12 32 = 2 := by decide +kernel
theorem gpf_12_32 {M : gM} (h1 : M.1.name = "<init>") (h2 : RX12 = M.1.cls) : gPL M 12 32 (.array .boolean) := ⟨RX12, TX12, 47, rfl, by decide, by decide +kernel, Or.inr ⟨h1, h2⟩⟩
theorem gft_12_33 : gft 12 33 = 2 := by decide +kernel
theorem gpf_12_33 {M : gM} (h1 : M.1.name = "<init>") (h2 : RX12 = M.1.cls) : gPL M 12 33 (.array .boolean) := ⟨RX12, TX12, 47, rfl, by decide, by decide +kernel, Or.inr ⟨h1, h2⟩⟩
theorem gft_12_34 : gft 12 34 = 0 := by decide +kernel
theorem gpl_12_34 {M : gM} : gPL M 12 34 .int := ⟨RX12, TX12, 47, rfl, by decide, by decide +kernel, Or.inl rfl⟩
theorem gft_12_35 : gft 12 35 = 2 := by decide +kernel
theorem gpf_12_35 {M : gM} (h1 : M.1.name = "<init>") (h2 : RX12 = M.1.cls) : gPL M 12 35 (.array .boolean) := ⟨RX12, TX12, 47, rfl, by decide, by decide +kernel, Or.inr ⟨h1, h2⟩⟩
theorem gft_12_36 : gft 12 36 = 0 := by decide +kernel
theorem gpl_12_36 {M : gM} : gPL M 12 36 .int := ⟨RX12, TX12, 47, rfl, by decide, by decide +kernel, Or.inl rfl⟩
theorem gft_12_37 : gft 12 37 = 0 := by decide +kernel
theorem gpl_12_37 {M : gM} : gPL M 12 37 .int := ⟨RX12, TX12, 47, rfl, by decide, by decide +kernel, Or.inl rfl⟩
theorem gft_12_38 : gft 12 38 = 2 := by decide +kernel
theorem gpf_12_38 {M : gM} (h1 : M.1.name = "<init>") (h2 : RX12 = M.1.cls) : gPL M 12 38 (.array .int) := ⟨RX12, TX12, 47, rfl, by decide, by decide +kernel, Or.inr ⟨h1, h2⟩⟩
theorem gft_12_39 : gft 12 39 = 2 := by decide +kernel
theorem gpf_12_39 {M : gM} (h1 : M.1.name = "<init>") (h2 : RX12 = M.1.cls) : gPL M 12 39 (.array .boolean) := ⟨RX12, TX12, 47, rfl, by decide, by decide +kernel, Or.inr ⟨h1, h2⟩⟩
theorem gft_12_40 : gft 12 40 = 2 := by decide +kernel
theorem gpf_12_40 {M : gM} (h1 : M.1.name = "<init>") (h2 : RX12 = M.1.cls) : gPL M 12 40 (.array .boolean) := ⟨RX12, TX12, 47, rfl, by decide, by decide +kernel, Or.inr ⟨h1, h2⟩⟩
theorem gft_12_41 : gft 12 41 = 2 := by decide +kernel
theorem gpf_12_41 {M : gM} (h1 : M.1.name = "<init>") (h2 : RX12 = M.1.cls) : gPL M 12 41 (.array .boolean) := ⟨RX12, TX12, 47, rfl, by decide, by decide +kernel, Or.inr ⟨h1, h2⟩⟩
theorem gft_12_42 : gft 12 42 = 2 := by decide +kernel
theorem gpf_12_42 {M : gM} (h1 : M.1.name = "<init>") (h2 : RX12 = M.1.cls) : gPL M 12 42 (.array .int) := ⟨RX12, TX12, 47, rfl, by decide, by decide +kernel, Or.inr ⟨h1, h2⟩⟩
theorem gft_12_43 : gft 12 43 = 2 := by decide +kernel
theorem gpf_12_43 {M : gM} (h1 : M.1.name = "<init>") (h2 : RX12 = M.1.cls) : gPL M 12 43 (.array .int) := ⟨RX12, TX12, 47, rfl, by decide, by decide +kernel, Or.inr ⟨h1, h2⟩⟩
theorem gft_12_44 : gft 12 44 = 0 := by decide +kernel
theorem gpl_12_44 {M : gM} : gPL M 12 44 .int := ⟨RX12, TX12, 47, rfl, by decide, by decide +kernel, Or.inl rfl⟩
theorem gft_12_45 : gft 12 45 = 0 := by decide +kernel
theorem gpl_12_45 {M : gM} : gPL M 12 45 .int := ⟨RX12, TX12, 47, rfl, by decide, by decide +kernel, Or.inl rfl⟩
theorem gft_12_46 : gft 12 46 = 1 := by decide +kernel
theorem gpl_12_46 {M : gM} : gPL M 12 46 .long := ⟨RX12, TX12, 47, rfl, by decide, by decide +kernel, Or.inl rfl⟩
