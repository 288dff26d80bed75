/-! CORE: values, a heap of refs, what the machine's heap is for it -/
abbrev gv : Type := Int32 ⊕ Int64 ⊕ Nat
abbrev vi (x : Int32) : gv := .inl x
abbrev vl (x : Int64) : gv := .inr (.inl x)
abbrev vr (r : Nat) : gv := .inr (.inr r)
def gP (ad : Nat → Nat) (r : Nat) : Value := if r = 0 then .null else .ref (ad r)
def gO (ad : Nat → Nat) (r : Nat) : Option Nat := if r = 0 then none else some (ad r)
def gT (ad : Nat → Nat) (v : gv) : Value := match v with
  | .inl x => .int x
  | .inr (.inl x) => .long x
  | .inr (.inr r) => gP ad r
def gcat (v : gv) : Bool := match v with
  | .inl _ => false
  | .inr (.inl _) => true
  | .inr (.inr _) => false
abbrev gH : Type := (Nat → Nat) × (Nat → Nat) × (Nat → Nat → Int32) × (Nat → Nat → Int64) × (Nat → Nat → Nat) × Nat × Nat
def gK (σ : gH) (r : Nat) : Nat := σ.1 r
def gLn (σ : gH) (r : Nat) : Nat := σ.2.1 r
def gI (σ : gH) (r k : Nat) : Int32 := σ.2.2.1 r k
def gJ (σ : gH) (r k : Nat) : Int64 := σ.2.2.2.1 r k
def gR (σ : gH) (r k : Nat) : Nat := σ.2.2.2.2.1 r k
def gN (σ : gH) : Nat := σ.2.2.2.2.2.1
def gQ (σ : gH) : Nat := σ.2.2.2.2.2.2
def gup {α : Type} (f : Nat → Nat → α) (r k : Nat) (v : α) : Nat → Nat → α := fun a j => if a = r ∧ j = k then v else f a j
def uI (σ : gH) (r k : Nat) (v : Int32) : gH := (σ.1, σ.2.1, gup σ.2.2.1 r k v, σ.2.2.2)
def uJ (σ : gH) (r k : Nat) (v : Int64) : gH := (σ.1, σ.2.1, σ.2.2.1, gup σ.2.2.2.1 r k v, σ.2.2.2.2)
def uR (σ : gH) (r k : Nat) (v : Nat) : gH := (σ.1, σ.2.1, σ.2.2.1, σ.2.2.2.1, gup σ.2.2.2.2.1 r k v, σ.2.2.2.2.2)
def gnew (σ : gH) (kd ln sl : Nat) : gH := (fun a => if a = gN σ then kd else gK σ a, fun a => if a = gN σ then ln else gLn σ a, fun a j => if a = gN σ then 0 else gI σ a j, fun a j => if a = gN σ then 0 else gJ σ a j, fun a j => if a = gN σ then 0 else gR σ a j, gN σ + 1, gQ σ + sl)
def gcode (d : String) : Nat := if d = "J" then 1 else if d = "I" ∨ d = "Z" then 0 else 2
def gNf (c : Nat) : Nat := match vwCl[c]? with
  | some q => q.2.2
  | none => 0
def gft (c k : Nat) : Nat := match vwCl[c]? with
  | some q => gcode (q.2.1 k).2.2.1
  | none => 0
def gfv (σ : gH) (r c k : Nat) : gv := if gft c k = 0 then vi (gI σ r k) else if gft c k = 1 then vl (gJ σ r k) else vr (gR σ r k)
def gfs (ad : Nat → Nat) (σ : gH) (r c : Nat) : List Value := (List.range (gNf c)).map fun k => gT ad (gfv σ r c k)
def garr (ad : Nat → Nat) (σ : gH) (r t : Nat) : (Nat → Int32) ⊕ (Nat → Int64) ⊕ (Nat → UInt32) ⊕ (Nat → UInt64) ⊕ (Nat → Option Nat) :=
  if t = 3 then .inr (.inl (gJ σ r)) else if t < 5 then .inl (gI σ r) else .inr (.inr (.inr (.inr fun j => gO ad (gR σ r j))))
def gE (ad : Nat → Nat) (cy : Nat → ClassId) (σ : gH) (r : Nat) : va_E :=
  if gK σ r < 20 then .inr (gK σ r - 1, gfs ad σ r (gK σ r - 1)) else .inl (cy (gK σ r - 20), gLn σ r, garr ad σ r (gK σ r - 20))
def gW (ad : Nat → Nat) (cy : Nat → ClassId) (σ : gH) : va_W := (List.range (gN σ - 50)).map fun i => (ad (i + 50), gE ad cy σ (i + 50))
def gTy (cy : Nat → ClassId) : List (ClassId × FieldType) := [(cy 0, .byte), (cy 1, .char), (cy 2, .int), (cy 3, .long), (cy 4, .boolean), (cy 5, .object "FeastRules$DaySet"), (cy 6, .object "FeastRules$Row"), (cy 7, .object "FeastRules$Rule")]
def gHp (B : Nat) (ad : Nat → Nat) (D : va_G) (cy : Nat → ClassId) (X : Nat × (Nat → Int32)) (σ : gH) (H : Heap) : Prop :=
  va_P D vwCl (gW ad cy σ) H ∧ va_D (fun q => B ≤ q) (gW ad cy σ) ∧ H.size = B + (gN σ - 50) ∧ 50 ≤ gN σ ∧ (∀ r, gK σ r ≠ 0 → 50 ≤ r ∧ r < gN σ) ∧ (gLn σ 0 ≠ 0 → X.1 = gLn σ 1 ∧ X.2 = gI σ 1)
def gAh (j : Nat) : Int32 := ([0, 31, 59, 90, 120, 151, 181, 212, 243, 273, 304, 334, 365] : List Int32).getD j 0
/-- the String constants: their places in the pool of Reader, their texts -/
def gSx : List (Nat × String) := [(66, "rule"), (250, "rule  every from  set   is    or    and   less  later sooneroff   day   "), (136, "in    on    by    at    until count "), (119, "days  weeks monthsyears "), (186, "mon   tue   wed   thu   fri   sat   sun   "), (111, "every"), (128, "from"), (75, "set"), (194, "is"), (228, "day"), (219, "later"), (221, "sooner"), (223, "off"), (212, "and"), (214, "less"), (205, "or")]
def gSl : List Nat := [4, 72, 36, 24, 42, 5, 4, 3, 2, 3, 5, 6, 3, 3, 4, 2]
def gSb : List (List Int32) := [[114, 117, 108, 101], [114, 117, 108, 101, 32, 32, 101, 118, 101, 114, 121, 32, 102, 114, 111, 109, 32, 32, 115, 101, 116, 32, 32, 32, 105, 115, 32, 32, 32, 32, 111, 114, 32, 32, 32, 32, 97, 110, 100, 32, 32, 32, 108, 101, 115, 115, 32, 32, 108, 97, 116, 101, 114, 32, 115, 111, 111, 110, 101, 114, 111, 102, 102, 32, 32, 32, 100, 97, 121, 32, 32, 32], [105, 110, 32, 32, 32, 32, 111, 110, 32, 32, 32, 32, 98, 121, 32, 32, 32, 32, 97, 116, 32, 32, 32, 32, 117, 110, 116, 105, 108, 32, 99, 111, 117, 110, 116, 32], [100, 97, 121, 115, 32, 32, 119, 101, 101, 107, 115, 32, 109, 111, 110, 116, 104, 115, 121, 101, 97, 114, 115, 32], [109, 111, 110, 32, 32, 32, 116, 117, 101, 32, 32, 32, 119, 101, 100, 32, 32, 32, 116, 104, 117, 32, 32, 32, 102, 114, 105, 32, 32, 32, 115, 97, 116, 32, 32, 32, 115, 117, 110, 32, 32, 32], [101, 118, 101, 114, 121], [102, 114, 111, 109], [115, 101, 116], [105, 115], [100, 97, 121], [108, 97, 116, 101, 114], [115, 111, 111, 110, 101, 114], [111, 102, 102], [97, 110, 100], [108, 101, 115, 115], [111, 114]]
/-- the links between nest mates -/
def gNest : List (String × Nat × MethodName) := [(RX11, 9, yX10_init), (RX11, 18, yX6_init), (RX11, 25, yX3_init), (RX3, 11, yX0_init), (RX5, 33, yX2_init), (RX9, 11, yX2_init), (RX1, 27, yX8_init), (RX0, 37, yX11_isDay), (RX2, 27, yX11_isDay), (RX9, 52, yX11_isDay), (RX5, 85, yX11_isDay)]
def gCn (t : Nat) : String := if t = 5 then "FeastRules$DaySet" else if t = 6 then "FeastRules$Row" else "FeastRules$Rule"
def gRO (B : Nat) (ad : Nat → Nat) (X : Nat × (Nat → Int32)) (U : State) (H : Heap) : Prop :=
  va_X (ad 1) X.1 X.2 U H ∧ ad 1 < B ∧ va_Z "FeastRules$Almanac" "AHEAD" "[I" (.ref (ad 2)) (fun q => B ≤ q) U H ∧ va_T .int (ad 2) 13 (fun j => .int (gAh j)) (fun q => B ≤ q) U H ∧ va_Z "java/lang/String" "COMPACT_STRINGS" "Z" (.int 1) (fun q => B ≤ q) U H ∧
  vk_S 16 gSl gSb (fun i => ad (10 + 2 * i)) (fun i => ad (11 + 2 * i)) (fun q => B ≤ q) U H ∧ (∀ i : Nat, i < 16 → vk_R "FeastRules$Reader" (gSx.getD i (0, "")).1 (gSx.getD i (0, "")).2 (ad (10 + 2 * i)) U) ∧
  (∀ q ∈ gNest, va_Nw (.methodLinkNest q.1 q.2.1 q.2.2 "FeastRules") U) ∧ (∀ t : Nat, 5 ≤ t → t < 8 → va_AO (gCn t) U) ∧ ∃ F : Nat, va_Z "jdk/internal/util/Preconditions" "SIOOBE_FORMATTER" "Ljava/util/function/BiFunction;" (gP ad F) (fun q => B ≤ q) U H
def gTb : List Cond := lw_tbl.filter goodWord
abbrev gM : Type := MethodName × ByteArray × Nat × Option FieldType
def gWs (M : gM) : List Cond := Cond.code M.1 M.2.1 M.2.2.1 M.2.2.2 :: gTb
def gLs (ad : Nat → Nat) (L : List (Nat × gv)) : List (Nat × Value) := L.map fun q => (q.1, gT ad q.2)
def gCx (M : gM) (d : Nat) (p : Program) (R : Room) (s : State) (m : MethodId) (args : Array Value) (meth : Method) (c : Code) (B : Nat) (ad : Nat → Nat) (D : va_G) (cy : Nat → ClassId) (X : Nat × (Nat → Int32)) : Prop :=
  p.tables.exec = Jvm.exec ∧ c.code = M.2.1 ∧ c.maxLocals = M.2.2.1 ∧ s.vm.findClass M.1.cls = some m.cls ∧ meth.name = M.1.name ∧ (∀ w ∈ gTb, w.before args s = true) ∧ va_K D vwCl (gTy cy) s ∧ gRO B ad X s s.heap ∧ (∀ r, 50 ≤ r → ad r = B + (r - 50)) ∧ B ≤ s.heap.size ∧ d + 1 ≤ R.frames ∧ 60 * (d + 1) ≤ R.locals
def gMn (σ σ' : gH) : Prop := gN σ ≤ gN σ' ∧ gQ σ ≤ gQ σ'
def gRet (cc : ByteArray) (pc : Nat) (r : Option gv) : Prop := match r with
  | none => decode cc pc = .ok (.return_, 1)
  | some (.inl _) => decode cc pc = .ok (.ireturn, 1)
  | some (.inr (.inl _)) => decode cc pc = .ok (.lreturn, 1)
  | some (.inr (.inr _)) => decode cc pc = .ok (.areturn, 1)
/-- from here on in this method: if o is an answer and a heap, the machine comes to its return with them -/
def gGo {α : Type} (X : Nat × (Nat → Int32)) (rv : α → Option gv) (M : gM) (d pc : Nat) (L : List (Nat × gv)) (S : List gv) (σ : gH) (o : Option (α × gH)) : Prop :=
  ∀ (r : α) (σ' : gH), o = some (r, σ') → gMn σ σ' ∧
    ∀ (p : Program) (l : Launch) (e : Env) (R : Room) (s : State) (m : MethodId) (args : Array Value) (below : List Frame) (meth : Method) (c : Code) (H : Heap) (locs : List Loc) (cells slots : Nat) (Q : State → Prop) (ls : Array Slot) (B : Nat) (ad : Nat → Nat) (D : va_G) (cy : Nat → ClassId) (n0 q0 : Nat),
      gCx M d p R s m args meth c B ad D cy X → gHp B ad D cy X σ H → va_S (fun q => B ≤ q) s.heap H locs → cells + n0 = gN σ → slots + q0 = gQ σ → gN σ' ≤ R.cells + n0 → gQ σ' ≤ R.slots + q0 → lv_has ls M.2.2.1 (gLs ad L) →
      (∀ (pc' : Nat) (ls' : Array Slot) (H' : Heap) (locs' : List Loc) (cells' slots' : Nat), gRet M.2.1 pc' (rv r) → gHp B ad D cy X σ' H' → va_S (fun q => B ≤ q) s.heap H' locs' → cells' + n0 = gN σ' → slots' + q0 = gQ σ' → W p l e R s m args below meth c H' locs' cells' slots' Q (F0 m pc' ls' ((rv r).toList.map (gT ad)))) →
      W p l e R s m args below meth c H locs cells slots Q (F0 m pc ls (S.map (gT ad)))
/-- a step that moves the frame alone -/
theorem gGo.step {α : Type} {X : Nat × (Nat → Int32)} {rv : α → Option gv} {M : gM} {d pc pc' : Nat} {L L' : List (Nat × gv)} {S S' : List gv} {σ : gH} {o : Option (α × gH)} (h : gGo X rv M d pc' L' S' σ o)
    (hs : ∀ (p : Program) (l : Launch) (e : Env) (R : Room) (s : State) (m : MethodId) (args : Array Value) (below : List Frame) (meth : Method) (c : Code) (H : Heap) (locs : List Loc) (cells slots : Nat) (Q : State → Prop) (ls : Array Slot) (ad : Nat → Nat), p.tables.exec = Jvm.exec → c.code = M.2.1 → lv_has ls M.2.2.1 (gLs ad L) → (∀ ls' : Array Slot, lv_has ls' M.2.2.1 (gLs ad L') → W p l e R s m args below meth c H locs cells slots Q (F0 m pc' ls' (S'.map (gT ad)))) → W p l e R s m args below meth c H locs cells slots Q (F0 m pc ls (S.map (gT ad)))) : gGo X rv M d pc L S σ o := by
  intro r σ' ho
  obtain ⟨hm, hw⟩ := h r σ' ho
  refine ⟨hm, fun p l e R s m args below meth c H locs cells slots Q ls B ad D cy n0 q0 hc hh hS h1 h2 h3 h4 hl hq => ?_⟩
  exact hs p l e R s m args below meth c H locs cells slots Q ls ad hc.1 hc.2.1 hl (fun ls' hl' => hw p l e R s m args below meth c H locs cells slots Q ls' B ad D cy n0 q0 hc hh hS h1 h2 h3 h4 hl' hq)
/-- a branch -/
theorem gGo.fork {α : Type} {X : Nat × (Nat → Int32)} {rv : α → Option gv} {M : gM} {d pc pt pf : Nat} {L : List (Nat × gv)} {S S' : List gv} {σ : gH} {P : Prop} [Decidable P] {o1 o2 : Option (α × gH)} (ht : P → gGo X rv M d pt L S' σ o1) (hf : ¬ P → gGo X rv M d pf L S' σ o2)
    (hs : ∀ (p : Program) (l : Launch) (e : Env) (R : Room) (s : State) (m : MethodId) (args : Array Value) (below : List Frame) (meth : Method) (c : Code) (H : Heap) (locs : List Loc) (cells slots : Nat) (Q : State → Prop) (ls : Array Slot) (ad : Nat → Nat), p.tables.exec = Jvm.exec → c.code = M.2.1 → (P → W p l e R s m args below meth c H locs cells slots Q (F0 m pt ls (S'.map (gT ad)))) → (¬ P → W p l e R s m args below meth c H locs cells slots Q (F0 m pf ls (S'.map (gT ad)))) → W p l e R s m args below meth c H locs cells slots Q (F0 m pc ls (S.map (gT ad)))) : gGo X rv M d pc L S σ (if P then o1 else o2) := by
  by_cases hP : P
  · rw [if_pos hP]
    intro r σ' ho
    obtain ⟨hm, hw⟩ := ht hP r σ' ho
    refine ⟨hm, fun p l e R s m args below meth c H locs cells slots Q ls B ad D cy n0 q0 hc hh hS h1 h2 h3 h4 hl hq => ?_⟩
    exact hs p l e R s m args below meth c H locs cells slots Q ls ad hc.1 hc.2.1 (fun _ => hw p l e R s m args below meth c H locs cells slots Q ls B ad D cy n0 q0 hc hh hS h1 h2 h3 h4 hl hq) (fun h => absurd hP h)
  · rw [if_neg hP]
    intro r σ' ho
    obtain ⟨hm, hw⟩ := hf hP r σ' ho
    refine ⟨hm, fun p l e R s m args below meth c H locs cells slots Q ls B ad D cy n0 q0 hc hh hS h1 h2 h3 h4 hl hq => ?_⟩
    exact hs p l e R s m args below meth c H locs cells slots Q ls ad hc.1 hc.2.1 (fun h => absurd h hP) (fun _ => hw p l e R s m args below meth c H locs cells slots Q ls B ad D cy n0 q0 hc hh hS h1 h2 h3 h4 hl hq)
theorem gT_cat {ad : Nat → Nat} {v : gv} : ((gT ad v).category == 2) = gcat v := by
  rcases v with x | x | r
  · rfl
  · rfl
  · simp only [gT, gP, gcat]
    split <;> rfl
theorem gT_c1 {ad : Nat → Nat} {v : gv} (h : gcat v = false) : (gT ad v).category = 1 := by
  rcases lv_cat (gT ad v) with h1 | h1
  · exact h1
  · have := gT_cat (ad := ad) (v := v)
    rw [h1, h] at this
    cases this
theorem gP_ref {ad : Nat → Nat} {r : Nat} (h : r ≠ 0) : gP ad r = .ref (ad r) := if_neg h
theorem gP_rf (ad : Nat → Nat) (r : Nat) : va_rf (gO ad r) = gP ad r := by
  unfold gO gP
  split <;> rfl
/-- a store of one word into the list of locals -/
def gst (L : List (Nat × gv)) (i : Nat) (v : gv) : List (Nat × gv) := (i, v) :: L.filter (fun q => !(q.1 == i) && !(q.1 + 1 == i && gcat q.2))
def gst2 (L : List (Nat × gv)) (i : Nat) (v : gv) : List (Nat × gv) := (i, v) :: L.filter (fun q => !(q.1 == i) && (!(q.1 == i + 1) && !(q.1 + 1 == i && gcat q.2)))
theorem gst_ls (ad : Nat → Nat) (L : List (Nat × gv)) (i : Nat) (v : gv) : (i, gT ad v) :: (gLs ad L).filter (fun q => !(q.1 == i) && !(q.1 + 1 == i && q.2.category == 2)) = gLs ad (gst L i v) := by
  simp only [gLs, gst, List.map_cons, List.filter_map]
  congr 2
  apply List.filter_congr
  intro q _
  simp only [Function.comp, gT_cat]
theorem gst2_ls (ad : Nat → Nat) (L : List (Nat × gv)) (i : Nat) (v : gv) : (i, gT ad v) :: (gLs ad L).filter (fun q => !(q.1 == i) && (!(q.1 == i + 1) && !(q.1 + 1 == i && q.2.category == 2))) = gLs ad (gst2 L i v) := by
  simp only [gLs, gst2, List.map_cons, List.filter_map]
  congr 2
  apply List.filter_congr
  intro q _
  simp only [Function.comp, gT_cat]
theorem gLs_at {ad : Nat → Nat} {L : List (Nat × gv)} {ls : Array Slot} {nL p i : Nat} {v : gv} (hl : lv_has ls nL (gLs ad L)) (h : L[p]? = some (i, v)) : ls[i]? = some (.val (gT ad v)) :=
  lv_at hl p (by simp [gLs, h])
theorem gLs_place {ad : Nat → Nat} {L : List (Nat × gv)} {p i : Nat} {v : gv} (h : L[p]? = some (i, v)) : (gLs ad L)[p]? = some (i, gT ad v) := by simp [gLs, h]
/-- fewer locals, by their places -/
theorem go_sub {α : Type} {X : Nat × (Nat → Int32)} {rv : α → Option gv} {M : gM} {d pc : Nat} {L L' : List (Nat × gv)} {S : List gv} {σ : gH} {o : Option (α × gH)} (ks : List Nat) (h : gGo X rv M d pc L' S σ o) (hl : ks.filterMap (fun k => L[k]?) = L') : gGo X rv M d pc L S σ o :=
  gGo.step h (fun p l e R s m args below meth c H locs cells slots Q ls ad hx hb hl1 k => k ls (lv_sub hl1 ks (by
    subst hl
    simp only [lv_pick, gLs, List.map_filterMap]
    congr 1
    funext k
    simp)))
