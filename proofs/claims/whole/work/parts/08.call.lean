/-! CALLS: a method's contract, and its use -/
def gWd (B : Nat) (ad : Nat → Nat) (D : va_G) (cy : Nat → ClassId) (X : Nat × (Nat → Int32)) (σ : gH) (U : State) : Prop :=
  va_K D vwCl (gTy cy) U ∧ gHp B ad D cy X σ U.heap ∧ gRO B ad X U U.heap ∧ (∀ r, 50 ≤ r → ad r = B + (r - 50)) ∧ B ≤ U.heap.size
def gQc (B : Nat) (ad : Nat → Nat) (D : va_G) (cy : Nat → ClassId) (X : Nat × (Nat → Int32)) (r : Option gv) (σ' : gH) : Array Value → State → Outcome → State → Prop := fun _ st oc t => (oc = .returned (r.map (gT ad)) ∧ gHp B ad D cy X σ' t.heap) ∧ va_F (fun q => B ≤ q) st t
/-- the contract at these arguments and this heap -/
def gMt (M : gM) (d : Nat) (as : List gv) (σ : gH) (r : Option gv) (σ' : gH) : Prop :=
  gMn σ σ' ∧ ∀ (l : Launch) (B : Nat) (ad : Nat → Nat) (D : va_G) (cy : Nat → ClassId) (X : Nat × (Nat → Int32)), Met l M.1 (gWs M) { frames := d + 1, cells := gN σ' - gN σ, slots := gQ σ' - gQ σ, locals := 60 * (d + 1) } (va_Pc (as.map (gT ad)) (gWd B ad D cy X σ)) (gQc B ad D cy X r σ') (gN σ' - gN σ) (gQ σ' - gQ σ) (fun q => B ≤ q)
def gAr : Nat → List gv → List (Nat × gv)
  | _, [] => []
  | i, v :: vs => (i, v) :: gAr (if gcat v = true then i + 2 else i + 1) vs
def gSz (as : List gv) : Nat := (as.map fun v => if gcat v = true then 2 else 1).sum
def gRok (ret : Option FieldType) (r : Option gv) : Prop := match r with
  | none => ret = none
  | some (.inl x) => ∃ ty, ret = some ty ∧ narrow ty (.int x) = .int x
  | some (.inr (.inl _)) => ret = some .long
  | some (.inr (.inr _)) => ∃ rt, ret = some rt ∧ ((∃ n, rt = .object n) ∨ ∃ t, rt = .array t)
theorem gAr_ls (ad : Nat → Nat) : ∀ (as : List gv) (i : Nat), gLs ad (gAr i as) = lv_args i (as.map (gT ad))
  | [], _ => rfl
  | v :: vs, i => by
    have h : (if (gT ad v).category = 2 then i + 2 else i + 1) = (if gcat v = true then i + 2 else i + 1) := by
      rw [← gT_cat (ad := ad)]
      by_cases hc : (gT ad v).category = 2
      · simp [hc]
      · simp [hc]
    show (i, gT ad v) :: gLs ad (gAr _ vs) = (i, gT ad v) :: lv_args _ (vs.map (gT ad))
    rw [gAr_ls ad vs, h]
theorem gSz_ls (ad : Nat → Nat) : ∀ as : List gv, (lg_sl (as.map (gT ad))).length = gSz as
  | [] => rfl
  | v :: vs => by
    have ih := gSz_ls ad vs
    unfold lg_sl gSz at *
    rw [List.map_cons, List.flatMap_cons, List.length_append, ih, List.map_cons, List.sum_cons, ← gT_cat (ad := ad)]
    by_cases hc : (gT ad v).category = 2
    · simp [hc]
    · simp [hc]
theorem gMt_of {α : Type} {rv : α → Option gv} {M : gM} {d : Nat} {as : List gv} {σ σ' : gH} {o : Option (α × gH)} {r : α} (hy : plainName M.1.cls = true) (hlen : gSz as ≤ M.2.2.1) (hr : gRok M.2.2.2 (rv r)) (h : ∀ X, gGo X rv M d 0 (gAr 0 as) [] σ o) (ho : o = some (r, σ')) : gMt M d as σ (rv r) σ' := by
  have hm := (h (0, fun _ => 0) r σ' ho).1
  refine ⟨hm, fun l B ad D cy X => ?_⟩
  have hw := (h X r σ' ho).2
  refine Met.ofW (cc := M.2.1) (maxL := M.2.2.1) (ret := M.2.2.2) hy rfl ?_
  intro p e s m args below meth c s₁ Bd hml hv
  obtain ⟨rfl, hK, hH, hRO, had, hB⟩ := hv
  have hx := Bd.exec
  have hb := Bd.bytes
  have hret := Bd.returns
  have hts := atoms_spec (ws := gWs M) Bd.pre
  have hown : s.vm.findClass M.1.cls = some m.cls := findClass_of_methodNamed Bd.named
  have hlocks := Bd.notSynchronized
  have hin : meth.name = M.1.name := (name_of_methodNamed Bd.named Bd.method).1
  have hl := lv_entry (as.map (gT ad)) (n := M.2.2.1) (by rw [gSz_ls]; exact hlen)
  rw [lg_entry_eq]
  generalize (lg_sl (as.map (gT ad)) ++ List.replicate (M.2.2.1 - (lg_sl (as.map (gT ad))).length) Slot.unset).toArray = ls at hl ⊢
  rw [← gAr_ls] at hl
  unfold gMn at hm
  refine hw p l e _ s m _ below meth c s.heap [] 0 0 _ ls B ad D cy (gN σ) (gQ σ) ⟨hx, hb, hml, hown, hin, fun w hw => hts w (List.mem_cons_of_mem _ hw), hK, hRO, had, hB, Nat.le_refl _, Nat.le_refl _⟩ hH va_S.rf (Nat.zero_add _) (Nat.zero_add _) ?_ ?_ hl ?_
  · show gN σ' ≤ gN σ' - gN σ + gN σ
    omega
  · show gQ σ' ≤ gQ σ' - gQ σ + gQ σ
    omega
  · intro pc' ls' H' locs' cells' slots' hrt hh' hS' hc' hs'
    have e1 : gN σ' - gN σ = cells' := by omega
    have e2 : gQ σ' - gQ σ = slots' := by omega
    rw [e1, e2]
    have hQ : ∀ t : State, t.heap = H' → gQc B ad D cy X (rv r) σ' (as.map (gT ad)).toArray s (.returned ((rv r).map (gT ad))) t := fun t ht => ⟨⟨rfl, by rw [ht]; exact hh'⟩, hS'.F ht⟩
    revert hrt hr hQ
    rcases rv r with _ | x | x | x
    · intro hr hrt hQ
      exact W.vret hx hb (by rw [hret]; exact hr) (fun t ht _ => hQ t ht) hS'.2.2 hrt hlocks
    · intro hr hrt hQ
      obtain ⟨ty, h1, h2⟩ := hr
      exact W.zret hx hb (by rw [hret]; exact h1) h2 (fun t ht _ => hQ t ht) hS'.2.2 hrt hlocks
    · intro hr hrt hQ
      exact W.lret hx hb (by rw [hret]; exact hr) (fun t ht _ => hQ t ht) hS'.2.2 hrt hlocks
    · intro hr hrt hQ
      obtain ⟨rt, h1, h2⟩ := hr
      refine W.aret hx hb (by rw [hret]; exact h1) h2 ?_ (fun t ht _ => hQ t ht) hS'.2.2 hrt hlocks
      show gP ad x = .null ∨ ∃ a, gP ad x = .ref a
      unfold gP
      split
      · exact Or.inl rfl
      · exact Or.inr ⟨_, rfl⟩
theorem gcallW {p : Program} {l : Launch} {e : Env} {R : Room} {s : State} {m : MethodId} {args : Array Value} {below : List Frame} {meth : Method} {c : Code} {H : Heap} {locs : List Loc} {cells slots : Nat} {Q : State → Prop} {pc : Nat} {ls : Array Slot} {rest st0 : List Value} {a : Array Value} {mc ms B : Nat} {ad : Nat → Nat} {D : va_G} {cy : Nat → ClassId} {X : Nat × (Nat → Int32)} {r : Option gv} {σ1 : gH}
    (hr : va_Run p l e R s m args below meth c H locs cells slots mc ms (F0 m pc ls st0) rest (gQc B ad D cy X r σ1 a) (fun q => B ≤ q)) (hS : va_S (fun q => B ≤ q) s.heap H locs)
    (kk : ∀ (H1 : Heap) (locs1 : List Loc), gHp B ad D cy X σ1 H1 → va_S (fun q => B ≤ q) s.heap H1 locs1 → W p l e R s m args below meth c H1 locs1 (cells + mc) (slots + ms) Q (F0 m (pc + 3) ls ((r.map (gT ad)).toList ++ rest))) : W p l e R s m args below meth c H locs cells slots Q (F0 m pc ls st0) := by
  intro T hT XX
  obtain ⟨v, st₀, t, T', L, h0, X', hL, e1, e2, ⟨⟨hv, hh⟩, hz, hk⟩, st⟩ := hr T hT XX
  cases hv
  rw [h0] at hz hk
  obtain ⟨t2, a1, b1⟩ := kk T'.heap (locs ++ L) (by rw [e1]; exact hh)
    ⟨Nat.le_trans hS.1 (by rw [e1]; exact hz), fun q h1 h2 => by rw [e1, hk q (Nat.lt_of_lt_of_le h1 hS.1) h2]; exact hS.2.1 q h1 h2, fun q hq => by
      rcases List.mem_append.mp hq with h | h
      · exact hS.2.2 q h
      · exact hL q h⟩ T' rfl X'
  exact ⟨t2, st t2 a1, b1⟩
/-- what a call must know of its method: its code and class in the tables, how many parameters, its words -/
def gMF (M : gM) (n : Nat) : Prop := Cond.code M.1 M.2.1 M.2.2.1 M.2.2.2 ∈ gTb ∧ Cond.initialized M.1.cls ∈ gTb ∧ (M.1.cls ≠ "java/lang/invoke/MethodHandle" ∧ M.1.cls ≠ "java/lang/invoke/VarHandle" ∧ (parseMethodDescriptor M.1.desc).map (fun d => d.parameters.length) = some n) ∧ M.2.2.1 ≤ 40
theorem gTb_good {w : Cond} (h : w ∈ gTb) : (w.onTables && w.keeps) = true ∨ ∃ ty, w = .arrayClass ty := good_of_word (List.mem_filter.mp h).2
theorem gGood {M : gM} {n : Nat} (h : gMF M n) : GoodIn gTb (gWs M) := by
  intro w hw
  rcases List.mem_cons.mp hw with rfl | hw
  · exact ⟨h.1, gTb_good h.1⟩
  · exact ⟨hw, gTb_good hw⟩
theorem gRO.go {B : Nat} {ad : Nat → Nat} {X : Nat × (Nat → Int32)} {s U : State} {H : Heap} {locs : List Loc} (h : gRO B ad X s s.heap) (hB : B ≤ s.heap.size) (hS : va_S (fun q => B ≤ q) s.heap H locs) (hU : U.heap = H) (hW : s.WarmedH U.vm) : gRO B ad X U U.heap := by
  obtain ⟨h1, h2, h3, h4, h5, h6, h7, h8, h9, F, h10⟩ := h
  have hk : ∀ a : Nat, a < s.heap.size → ¬ B ≤ a → U.heap[a]? = s.heap[a]? := fun a g1 g2 => by rw [hU]; exact hS.2.1 a g1 g2
  have hA := hW.alike
  exact ⟨(h1.kept (hk _ (by omega) (by omega))).moved hA, h2, (h3.kept hk).moved hA, (h4.kept hk).moved hA, (h5.kept hk).moved hA, (h6.kept hk).moved hA, fun i hi => (h7 i hi).warm hW, fun q hq => (h8 q hq).warmM hW, fun t g1 g2 => (h9 t g1 g2).moved hA, F, (h10.kept hk).moved hA⟩
theorem gBlind {B : Nat} {ad : Nat → Nat} {D : va_G} {cy : Nat → ClassId} {X : Nat × (Nat → Int32)} {σ : gH} {av : List Value} : FrameBlind (va_Pc av (gWd B ad D cy X σ)) := by
  intro a U g mk h
  obtain ⟨h0, hK, hH, hRO, had, hB⟩ := h
  refine ⟨h0, va_K.moved (u := U) (U := U.calling g mk a) (Vm.Alike.refl U.vm) hK, hH, ?_, had, hB⟩
  obtain ⟨h1, h2, h3, h4, h5, h6, h7, h8, h9, F, h10⟩ := hRO
  have hA : U.vm.Alike (U.calling g mk a).vm := Vm.Alike.refl U.vm
  exact ⟨h1.moved hA, h2, h3.moved hA, h4.moved hA, h5.moved hA, h6.moved hA, fun i hi => (h7 i hi).same rfl, fun q hq => (h8 q hq).same rfl rfl, fun t g1 g2 => (h9 t g1 g2).moved hA, F, h10.moved hA⟩
def gcs (S : List gv) : Nat := (S.map fun v => if gcat v = true then 2 else 1).sum
theorem gcs_ls (ad : Nat → Nat) : ∀ S : List gv, ((S.map (gT ad)).map fun v => v.category).sum = gcs S
  | [] => rfl
  | v :: vs => by
    have ih := gcs_ls ad vs
    unfold gcs at *
    rw [List.map_cons, List.map_cons, List.sum_cons, ih, List.map_cons, List.sum_cons, ← gT_cat (ad := ad)]
    rcases lv_cat (gT ad v) with hc | hc <;> simp [hc]
section gCall
variable {α β : Type} {X : Nat × (Nat → Int32)} {rv : α → Option gv} {rv' : β → Option gv} {M M' : gM} {d d' pc n : Nat} {L : List (Nat × gv)} {S St : List gv} {σ : gH} {o : Option (β × gH)} {K : β → gH → Option (α × gH)}
/-- what is the same of all calls -/
theorem go_call {as : List gv}
    (hs : ∀ (p : Program) (l : Launch) (e : Env) (R : Room) (s : State) (m : MethodId) (args : Array Value) (below : List Frame) (meth : Method) (c : Code) (H : Heap) (locs : List Loc) (cells slots : Nat) (ls : Array Slot) (B : Nat) (ad : Nat → Nat) (D : va_G) (cy : Nat → ClassId) (X : Nat × (Nat → Int32)) (rm : Room) (mc ms : Nat) (r : Option gv) (σ1 : gH), gCx M d p R s m args meth c B ad D cy X → gHp B ad D cy X σ H → va_S (fun q => B ≤ q) s.heap H locs → ls.size = M.2.2.1 → rm.cells = mc → rm.slots = ms → rm.frames + 1 ≤ R.frames → 8 + (M'.2.2.1 + 11) + rm.locals ≤ R.locals → cells + mc ≤ R.cells → slots + ms ≤ R.slots → Met l M'.1 (gWs M') rm (va_Pc (as.map (gT ad)) (gWd B ad D cy X σ)) (gQc B ad D cy X r σ1) mc ms (fun q => B ≤ q) → PreS s H (va_Pc (as.map (gT ad)) (gWd B ad D cy X σ)) (as.map (gT ad)) → va_Run p l e R s m args below meth c H locs cells slots mc ms (F0 m pc ls (St.map (gT ad))) (S.map (gT ad)) (gQc B ad D cy X r σ1 (as.map (gT ad)).toArray) (fun q => B ≤ q))
    (hdd : d' + 1 ≤ d) (hF : M'.2.2.1 ≤ 40) (hM : ∀ r σ1, o = some (r, σ1) → gMt M' d' as σ (rv' r) σ1) (h : ∀ r σ1, o = some (r, σ1) → gGo X rv M d (pc + 3) L ((rv' r).toList ++ S) σ1 (K r σ1)) : gGo X rv M d pc L St σ (o.bind fun q => K q.1 q.2) := by
  rcases ho : o with _ | ⟨r1, σ1⟩
  · exact go_none
  · show gGo X rv M d pc L St σ (K r1 σ1)
    obtain ⟨hm1, hMet⟩ := hM r1 σ1 ho
    intro r σ' hr
    obtain ⟨hm, hw⟩ := h r1 σ1 ho r σ' hr
    unfold gMn at hm hm1
    refine ⟨⟨by omega, by omega⟩, fun p l e R s m args below meth c H locs cells slots Q ls B ad D cy n0 q0 hc hh hS h1 h2 h3 h4 hl hq => ?_⟩
    have hfr := hc.2.2.2.2.2.2.2.2.2.2.1
    have hlo := hc.2.2.2.2.2.2.2.2.2.2.2
    refine gcallW (hs p l e R s m args below meth c H locs cells slots ls B ad D cy X _ _ _ (rv' r1) σ1 hc hh hS hl.1 rfl rfl ?_ ?_ ?_ ?_ (hMet l B ad D cy X) ⟨gBlind, fun U hU hW => ⟨rfl, va_K.moved hW.alike hc.2.2.2.2.2.2.1, by rw [hU]; exact hh, gRO.go hc.2.2.2.2.2.2.2.1 hc.2.2.2.2.2.2.2.2.2.1 hS hU hW, hc.2.2.2.2.2.2.2.2.1, by rw [hU, hh.2.2.1]; omega⟩⟩) hS (fun H1 locs1 hh1 hS1 => ?_)
    · show d' + 1 + 1 ≤ R.frames
      omega
    · show 8 + (M'.2.2.1 + 11) + 60 * (d' + 1) ≤ R.locals
      omega
    · show cells + (gN σ1 - gN σ) ≤ R.cells
      omega
    · show slots + (gQ σ1 - gQ σ) ≤ R.slots
      omega
    · have := hw p l e R s m args below meth c H1 locs1 (cells + (gN σ1 - gN σ)) (slots + (gQ σ1 - gQ σ)) Q ls B ad D cy n0 q0 hc hh1 hS1 (by omega) (by omega) h3 h4 hl hq
      rw [List.map_append] at this
      rw [show (Option.map (gT ad) (rv' r1)).toList = ((rv' r1).toList).map (gT ad) by cases rv' r1 <;> rfl]
      exact this
/-- links of calls -/
def gVL (own : String) (idx : Nat) (M' : gM) : Prop := Cond.methodLink own idx M'.1 ∈ gTb ∧ Cond.instanceMethod M'.1 ∈ gTb ∧ Cond.selects M'.1.cls M'.1 M'.1 ∈ gTb
def gSL (own : String) (idx : Nat) (M' : gM) : Prop := Cond.methodLink own idx M'.1 ∈ gTb ∧ Cond.static M'.1 ∈ gTb
def gIL (own : String) (idx : Nat) (M' : gM) : Prop := Cond.methodLink own idx M'.1 ∈ gTb ∧ Cond.instanceMethod M'.1 ∈ gTb ∧ M'.1.name = "<init>"
def gcv {β : Type} (σ : gH) (a c : Nat) (o : Option β) : Option β := if gK σ a = c + 1 then o else none
theorem go_callV {idx a c : Nat} {as : List gv} (hV : gVL M.1.cls idx M') (hF : gMF M' n) (hc13 : c < 13) (hcl : (vwCl[c]?).map (fun q => q.1) = some M'.1.cls) (hdd : d' + 1 ≤ d) (hn : as.length = n) (hst : St = as.reverse ++ vr a :: S) (h8 : gcs S ≤ 8) (hd : decode M.2.1 pc = .ok (.invokevirtual idx, 3)) (hM : ∀ r σ1, o = some (r, σ1) → gMt M' d' (vr a :: as) σ (rv' r) σ1) (h : ∀ r σ1, o = some (r, σ1) → gGo X rv M d (pc + 3) L ((rv' r).toList ++ S) σ1 (K r σ1)) : gGo X rv M d pc L St σ ((gcv σ a c o).bind fun q => K q.1 q.2) := by
  unfold gcv
  by_cases hk : gK σ a = c + 1
  · rw [if_pos hk]
    refine go_call (fun p l e R s m args below meth cd H locs cells slots ls B ad D cy X rm mc ms r σ1 hc hh hSS hls hrc hrs hR1 hR2 hf1 hf2 hMet hp => ?_) hdd hF.2.2.2 hM h
    obtain ⟨hx, hb, hml, hown, hnm, hts, hK, hRO, had, hB, -⟩ := hc
    have ha50 := (hh.2.2.2.2.1 a (by omega)).1
    have hat := hh.at (a := a) (by omega)
    rw [gE_obj hk hc13] at hat
    obtain ⟨q, hq1, hq2⟩ : ∃ q, vwCl[c]? = some q ∧ q.1 = M'.1.cls := by
      rcases hv : vwCl[c]? with _ | q
      · rw [hv] at hcl; cases hcl
      · rw [hv] at hcl; exact ⟨q, rfl, Option.some.inj hcl⟩
    obtain ⟨q', g0, cell, g1, g2, g3, -⟩ := hat
    have hcell : ∃ cell : Cell, H[ad a]? = some cell ∧ cell.vm.isStatics = false ∧ s.vm.findClass M'.1.cls = some cell.cls := ⟨cell, g1, by rw [g3]; rfl, by rw [g2, ← hq2]; exact (hK.1 c q hq1).2.1⟩
    have e0 : (vr a :: as).map (gT ad) = .ref (ad a) :: as.map (gT ad) := by
      show gP ad a :: _ = _
      rw [gP_ref (by omega)]
    rw [e0] at hp hMet ⊢
    refine va_runV (As := as.map (gT ad)) (rest := S.map (gT ad)) (Ts := gTb) ⟨hx, hb, hml, hown, hts⟩ hMet ⟨callB_of n hts (gGood hF) rfl hrc hrs (hts _ hF.2.1) (hts _ hV.1) hF.2.2.1 ⟨hR1, hR2⟩, hts _ hV.2.1, hts _ hV.2.2⟩ ⟨hp.1, hcell, hp.2⟩ rfl (by simp [hn]) hls ?_ (lv_room (by rw [gcs_ls]; exact h8)) hd ⟨hf1, hf2⟩
    rw [hst]
    show List.map _ _ = _
    rw [List.map_append, List.map_reverse]
    show _ ++ gP ad a :: _ = _
    rw [gP_ref (by omega)]
  · rw [if_neg hk]; exact go_none
theorem go_callS {idx : Nat} {as : List gv} (hV : gSL M.1.cls idx M') (hF : gMF M' n) (hdd : d' + 1 ≤ d) (hn : as.length = n) (hst : St = as.reverse ++ S) (h8 : gcs S ≤ 8) (hd : decode M.2.1 pc = .ok (.invokestatic idx, 3)) (hM : ∀ r σ1, o = some (r, σ1) → gMt M' d' as σ (rv' r) σ1) (h : ∀ r σ1, o = some (r, σ1) → gGo X rv M d (pc + 3) L ((rv' r).toList ++ S) σ1 (K r σ1)) : gGo X rv M d pc L St σ (o.bind fun q => K q.1 q.2) := by
  refine go_call (fun p l e R s m args below meth cd H locs cells slots ls B ad D cy X rm mc ms r σ1 hc hh hSS hls hrc hrs hR1 hR2 hf1 hf2 hMet hp => ?_) hdd hF.2.2.2 hM h
  obtain ⟨hx, hb, hml, hown, hnm, hts, hK, hRO, had, hB, -⟩ := hc
  refine va_runS (As := as.map (gT ad)) (rest := S.map (gT ad)) (Ts := gTb) ⟨hx, hb, hml, hown, hts⟩ hMet ⟨callB_of n hts (gGood hF) rfl hrc hrs (hts _ hF.2.1) (hts _ hV.1) hF.2.2.1 ⟨hR1, hR2⟩, hts _ hV.2⟩ hp rfl (by simp [hn]) hls ?_ (lv_room (by rw [gcs_ls]; exact h8)) hd ⟨hf1, hf2⟩
  rw [hst]
  show List.map _ _ = _
  rw [List.map_append, List.map_reverse]
theorem go_callSN {idx : Nat} {as : List gv} (hV : (M.1.cls, idx, M'.1) ∈ gNest) (hstat : Cond.static M'.1 ∈ gTb) (hF : gMF M' n) (hdd : d' + 1 ≤ d) (hn : as.length = n) (hst : St = as.reverse ++ S) (h8 : gcs S ≤ 8) (hd : decode M.2.1 pc = .ok (.invokestatic idx, 3)) (hM : ∀ r σ1, o = some (r, σ1) → gMt M' d' as σ (rv' r) σ1) (h : ∀ r σ1, o = some (r, σ1) → gGo X rv M d (pc + 3) L ((rv' r).toList ++ S) σ1 (K r σ1)) : gGo X rv M d pc L St σ (o.bind fun q => K q.1 q.2) := by
  refine go_call (fun p l e R s m args below meth cd H locs cells slots ls B ad D cy X rm mc ms r σ1 hc hh hSS hls hrc hrs hR1 hR2 hf1 hf2 hMet hp => ?_) hdd hF.2.2.2 hM h
  obtain ⟨hx, hb, hml, hown, hnm, hts, hK, hRO, had, hB, -⟩ := hc
  have hnw := hRO.2.2.2.2.2.2.2.1 _ hV
  refine va_runSN (As := as.map (gT ad)) (rest := S.map (gT ad)) (Ts := gTb) ⟨hx, hb, hml, hown, hts⟩ hMet ⟨va_cnB n hts (gGood hF) rfl hrc hrs hnw (hts _ hF.2.1) hF.2.2.1 ⟨hR1, hR2⟩, hts _ hstat, trivial⟩ hp rfl (by simp [hn]) hls ?_ (lv_room (by rw [gcs_ls]; exact h8)) hd ⟨hf1, hf2⟩
  rw [hst]
  show List.map _ _ = _
  rw [List.map_append, List.map_reverse]
theorem go_callI {idx a : Nat} {as : List gv} (ha : a ≠ 0) (hV : gIL M.1.cls idx M') (hret : M'.2.2.2 = none) (hF : gMF M' n) (hdd : d' + 1 ≤ d) (hn : as.length = n) (hst : St = as.reverse ++ vr a :: S) (h8 : gcs S ≤ 8) (hd : decode M.2.1 pc = .ok (.invokespecial idx, 3)) (hM : ∀ r σ1, o = some (r, σ1) → gMt M' d' (vr a :: as) σ (rv' r) σ1) (h : ∀ r σ1, o = some (r, σ1) → gGo X rv M d (pc + 3) L ((rv' r).toList ++ S) σ1 (K r σ1)) : gGo X rv M d pc L St σ (o.bind fun q => K q.1 q.2) := by
  refine go_call (fun p l e R s m args below meth cd H locs cells slots ls B ad D cy X rm mc ms r σ1 hc hh hSS hls hrc hrs hR1 hR2 hf1 hf2 hMet hp => ?_) hdd hF.2.2.2 hM h
  obtain ⟨hx, hb, hml, hown, hnm, hts, hK, hRO, had, hB, -⟩ := hc
  have e0 : (vr a :: as).map (gT ad) = .ref (ad a) :: as.map (gT ad) := by
    show gP ad a :: _ = _
    rw [gP_ref ha]
  rw [e0] at hp hMet ⊢
  have hG := gGood hF
  have hcode := hF.1
  unfold gWs at hMet hG
  rw [hret] at hMet hG hcode
  refine va_runI (As := as.map (gT ad)) (rest := S.map (gT ad)) (Ts := gTb) ⟨hx, hb, hml, hown, hts⟩ hMet ⟨callB_of n hts hG rfl hrc hrs (hts _ hF.2.1) (hts _ hV.1) hF.2.2.1 ⟨hR1, hR2⟩, hV.2.2, hts _ hV.2.1⟩ hp rfl (by simp [hn]) hls ?_ (lv_room (by rw [gcs_ls]; exact h8)) hd ⟨hf1, hf2⟩
  rw [hst]
  show List.map _ _ = _
  rw [List.map_append, List.map_reverse]
  show _ ++ gP ad a :: _ = _
  rw [gP_ref ha]
theorem go_callIN {idx a : Nat} {as : List gv} (ha : a ≠ 0) (hV : (M.1.cls, idx, M'.1) ∈ gNest) (hinst : Cond.instanceMethod M'.1 ∈ gTb) (hname : M'.1.name = "<init>") (hret : M'.2.2.2 = none) (hF : gMF M' n) (hdd : d' + 1 ≤ d) (hn : as.length = n) (hst : St = as.reverse ++ vr a :: S) (h8 : gcs S ≤ 8) (hd : decode M.2.1 pc = .ok (.invokespecial idx, 3)) (hM : ∀ r σ1, o = some (r, σ1) → gMt M' d' (vr a :: as) σ (rv' r) σ1) (h : ∀ r σ1, o = some (r, σ1) → gGo X rv M d (pc + 3) L ((rv' r).toList ++ S) σ1 (K r σ1)) : gGo X rv M d pc L St σ (o.bind fun q => K q.1 q.2) := by
  refine go_call (fun p l e R s m args below meth cd H locs cells slots ls B ad D cy X rm mc ms r σ1 hc hh hSS hls hrc hrs hR1 hR2 hf1 hf2 hMet hp => ?_) hdd hF.2.2.2 hM h
  obtain ⟨hx, hb, hml, hown, hnm, hts, hK, hRO, had, hB, -⟩ := hc
  have hnw := hRO.2.2.2.2.2.2.2.1 _ hV
  have e0 : (vr a :: as).map (gT ad) = .ref (ad a) :: as.map (gT ad) := by
    show gP ad a :: _ = _
    rw [gP_ref ha]
  rw [e0] at hp hMet ⊢
  have hG := gGood hF
  have hcode := hF.1
  unfold gWs at hMet hG
  rw [hret] at hMet hG hcode
  refine va_runIN (As := as.map (gT ad)) (rest := S.map (gT ad)) (Ts := gTb) ⟨hx, hb, hml, hown, hts⟩ hMet ⟨va_cnB n hts hG rfl hrc hrs hnw (hts _ hF.2.1) hF.2.2.1 ⟨hR1, hR2⟩, hname, hts _ hinst⟩ hp rfl (by simp [hn]) hls ?_ (lv_room (by rw [gcs_ls]; exact h8)) hd ⟨hf1, hf2⟩
  rw [hst]
  show List.map _ _ = _
  rw [List.map_append, List.map_reverse]
  show _ ++ gP ad a :: _ = _
  rw [gP_ref ha]
end gCall
