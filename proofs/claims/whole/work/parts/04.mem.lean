/-! MEMORY: fields and arrays of the heap of refs -/
def ggI (σ : gH) (a c k : Nat) : Option Int32 := if gK σ a = c + 1 then some (gI σ a k) else none
def ggJ (σ : gH) (a c k : Nat) : Option Int64 := if gK σ a = c + 1 then some (gJ σ a k) else none
def ggR (σ : gH) (a c k : Nat) : Option Nat := if gK σ a = c + 1 then some (gR σ a k) else none
def spI (σ : gH) (a c k : Nat) (x : Int32) : Option gH := if gK σ a = c + 1 then some (uI σ a k x) else none
def spJ (σ : gH) (a c k : Nat) (x : Int64) : Option gH := if gK σ a = c + 1 then some (uJ σ a k x) else none
def spR (σ : gH) (a c k : Nat) (x : Nat) : Option gH := if gK σ a = c + 1 then some (uR σ a k x) else none
def gin (σ : gH) (a t : Nat) (i : Int32) : Prop := gK σ a = 20 + t ∧ ¬ (i < 0 ∨ gLn σ a ≤ i.toNatClampNeg)
def gaI (σ : gH) (a t : Nat) (i : Int32) : Option Int32 := if gK σ a = 20 + t ∧ ¬ (i < 0 ∨ gLn σ a ≤ i.toNatClampNeg) then some (gI σ a i.toNatClampNeg) else none
def gaJ (σ : gH) (a : Nat) (i : Int32) : Option Int64 := if gK σ a = 20 + 3 ∧ ¬ (i < 0 ∨ gLn σ a ≤ i.toNatClampNeg) then some (gJ σ a i.toNatClampNeg) else none
def gaR (σ : gH) (a t : Nat) (i : Int32) : Option Nat := if gK σ a = 20 + t ∧ ¬ (i < 0 ∨ gLn σ a ≤ i.toNatClampNeg) then some (gR σ a i.toNatClampNeg) else none
def gnar (t : Nat) (x : Int32) : Int32 := if t = 0 then vp_nar .byte x else if t = 1 then vp_nar .char x else if t = 4 then vp_nar .boolean x else x
def saI (σ : gH) (a t : Nat) (i x : Int32) : Option gH := if gK σ a = 20 + t ∧ ¬ (i < 0 ∨ gLn σ a ≤ i.toNatClampNeg) then some (uI σ a i.toNatClampNeg (gnar t x)) else none
def saJ (σ : gH) (a : Nat) (i : Int32) (x : Int64) : Option gH := if gK σ a = 20 + 3 ∧ ¬ (i < 0 ∨ gLn σ a ≤ i.toNatClampNeg) then some (uJ σ a i.toNatClampNeg x) else none
/-- class c's objects may lie in rows of kind t -/
def gcls (t : Nat) : Nat := if t = 5 then 2 else if t = 6 then 7 else 8
def saR (σ : gH) (a t : Nat) (i : Int32) (x : Nat) : Option gH := if (gK σ a = 20 + t ∧ ¬ (i < 0 ∨ gLn σ a ≤ i.toNatClampNeg)) ∧ gK σ x = gcls t + 1 then some (uR σ a i.toNatClampNeg x) else none
def glen (σ : gH) (a : Nat) : Option Int32 := if 20 ≤ gK σ a ∧ gK σ a < 28 then some (Int32.ofNat (gLn σ a)) else none
/-- what the tables say of class c -/
def gCF (c : Nat) : Prop := c < 13 ∧ ∃ (C : String) (T : u_T) (N : Nat) (ty : Nat → FieldType), vwCl[c]? = some (C, T, N) ∧ (∀ w ∈ u_ws C T N, w ∈ gTb) ∧ (∀ a, a < N → ∀ b, b < N → a ≠ b → (T a).2.1 ≠ (T b).2.1) ∧ ∀ k, k < N → parseFieldDescriptor (T k).2.2.1 = some (ty k)
/-- entry idx of own's pool is field k of class c -/
def gFL (own : String) (idx c k : Nat) : Prop := ∃ (C : String) (T : u_T) (N : Nat), vwCl[c]? = some (C, T, N) ∧ k < N ∧ Cond.fieldLink own idx (T k).1 (T k).2.1 (T k).2.2.1 ∈ gTb
/-- a store to field k of class c by this method, of a type -/
def gPL (M : gM) (c k : Nat) (ty : FieldType) : Prop := ∃ (C : String) (T : u_T) (N : Nat), vwCl[c]? = some (C, T, N) ∧ k < N ∧ parseFieldDescriptor (T k).2.2.1 = some ty ∧ ((T k).2.2.2 = false ∨ (M.1.name = "<init>" ∧ (T k).1 = M.1.cls))
theorem gW_at {ad : Nat → Nat} {cy : Nat → ClassId} {σ : gH} {a : Nat} (h1 : 50 ≤ a) (h2 : a < gN σ) : (gW ad cy σ)[a - 50]? = some (ad a, gE ad cy σ a) := by
  unfold gW
  rw [List.getElem?_map, List.getElem?_range (by omega)]
  simp only [Option.map_some]
  rw [show a - 50 + 50 = a by omega]
theorem gW_set {ad : Nat → Nat} {cy : Nat → ClassId} {σ σ1 : gH} {a : Nat} (h1 : 50 ≤ a) (h2 : a < gN σ) (hN : gN σ1 = gN σ) (he : ∀ r, r ≠ a → gE ad cy σ1 r = gE ad cy σ r) : (gW ad cy σ).set (a - 50) (ad a, gE ad cy σ1 a) = gW ad cy σ1 := by
  apply List.ext_getElem?
  intro i
  have hlen : (gW ad cy σ).length = gN σ - 50 := by simp [gW]
  by_cases hi : i = a - 50
  · subst hi
    rw [List.getElem?_set_self (by omega), gW_at h1 (by omega)]
  · rw [List.getElem?_set_ne (Ne.symm hi)]
    unfold gW
    rw [hN, List.getElem?_map, List.getElem?_map]
    by_cases hl : i < gN σ - 50
    · rw [List.getElem?_range hl]
      simp only [Option.map_some]
      rw [he (i + 50) (by omega)]
    · rw [List.getElem?_eq_none (by simpa using Nat.not_lt.mp hl)]
      rfl
theorem gE_obj {ad : Nat → Nat} {cy : Nat → ClassId} {σ : gH} {a c : Nat} (h : gK σ a = c + 1) (hc : c < 13) : gE ad cy σ a = .inr (c, gfs ad σ a c) := by
  unfold gE
  rw [h, if_pos (by omega)]
  rfl
theorem gE_arr {ad : Nat → Nat} {cy : Nat → ClassId} {σ : gH} {a t : Nat} (h : gK σ a = 20 + t) : gE ad cy σ a = .inl (cy t, gLn σ a, garr ad σ a t) := by
  unfold gE
  rw [h, if_neg (by omega), show 20 + t - 20 = t by omega]
theorem gNf_of {c : Nat} {C : String} {T : u_T} {N : Nat} (h : vwCl[c]? = some (C, T, N)) : gNf c = N := by
  unfold gNf
  rw [h]
theorem gft_of {c k : Nat} {C : String} {T : u_T} {N : Nat} (h : vwCl[c]? = some (C, T, N)) : gft c k = gcode (T k).2.2.1 := by
  unfold gft
  rw [h]
theorem gfs_at {ad : Nat → Nat} {σ : gH} {a c k : Nat} (h : k < gNf c) : (gfs ad σ a c)[k]? = some (gT ad (gfv σ a c k)) := by
  unfold gfs
  rw [List.getElem?_map, List.getElem?_range h]
  rfl
theorem gfs_set {ad : Nat → Nat} {σ σ1 : gH} {a c k : Nat} (h : ∀ j, j ≠ k → gfv σ1 a c j = gfv σ a c j) : (gfs ad σ a c).set k (gT ad (gfv σ1 a c k)) = gfs ad σ1 a c := by
  apply List.ext_getElem?
  intro i
  have hlen : (gfs ad σ a c).length = gNf c := by simp [gfs]
  by_cases hi : i = k
  · subst hi
    by_cases hl : i < gNf c
    · rw [List.getElem?_set_self (by omega), gfs_at hl]
    · rw [List.getElem?_eq_none (by simp [gfs]; omega), List.getElem?_eq_none (by simp [gfs]; omega)]
  · rw [List.getElem?_set_ne (Ne.symm hi)]
    by_cases hl : i < gNf c
    · rw [gfs_at hl, gfs_at hl, h i hi]
    · rw [List.getElem?_eq_none (by simp [gfs]; omega), List.getElem?_eq_none (by simp [gfs]; omega)]
section gMem
variable {α : Type} {X : Nat × (Nat → Int32)} {rv : α → Option gv} {M : gM} {d pc : Nat} {L : List (Nat × gv)} {S : List gv} {σ : gH} {o : Option (α × gH)}
/-- a read of the heap: the frame alone moves, what is pushed is known from the heap -/
theorem gGo.read {pc' : Nat} {S S' : List gv} (h : gGo X rv M d pc' L S' σ o)
    (hs : ∀ (p : Program) (l : Launch) (e : Env) (R : Room) (s : State) (m : MethodId) (args : Array Value) (below : List Frame) (meth : Method) (c : Code) (H : Heap) (locs : List Loc) (cells slots : Nat) (Q : State → Prop) (ls : Array Slot) (B : Nat) (ad : Nat → Nat) (D : va_G) (cy : Nat → ClassId) (X : Nat × (Nat → Int32)), gCx M d p R s m args meth c B ad D cy X → gHp B ad D cy X σ H → va_S (fun q => B ≤ q) s.heap H locs → W p l e R s m args below meth c H locs cells slots Q (F0 m pc' ls (S'.map (gT ad))) → W p l e R s m args below meth c H locs cells slots Q (F0 m pc ls (S.map (gT ad)))) : gGo X rv M d pc L S σ o := by
  intro r σ' ho
  obtain ⟨hm, hw⟩ := h r σ' ho
  exact ⟨hm, fun p l e R s m args below meth c H locs cells slots Q ls B ad D cy n0 q0 hc hh hS h1 h2 h3 h4 hl hq => hs p l e R s m args below meth c H locs cells slots Q ls B ad D cy X hc hh hS (hw p l e R s m args below meth c H locs cells slots Q ls B ad D cy n0 q0 hc hh hS h1 h2 h3 h4 hl hq)⟩
/-- a write into the heap, no cell made -/
theorem gGo.write {pc' : Nat} {σ1 : gH} {S S' : List gv} (hN : gN σ1 = gN σ) (hQ : gQ σ1 = gQ σ) (h : gGo X rv M d pc' L S' σ1 o)
    (hs : ∀ (p : Program) (l : Launch) (e : Env) (R : Room) (s : State) (m : MethodId) (args : Array Value) (below : List Frame) (meth : Method) (c : Code) (H : Heap) (locs : List Loc) (cells slots : Nat) (Q : State → Prop) (ls : Array Slot) (B : Nat) (ad : Nat → Nat) (D : va_G) (cy : Nat → ClassId) (X : Nat × (Nat → Int32)), gCx M d p R s m args meth c B ad D cy X → gHp B ad D cy X σ H → va_S (fun q => B ≤ q) s.heap H locs → (∀ (H1 : Heap) (locs1 : List Loc), gHp B ad D cy X σ1 H1 → va_S (fun q => B ≤ q) s.heap H1 locs1 → W p l e R s m args below meth c H1 locs1 cells slots Q (F0 m pc' ls (S'.map (gT ad)))) → W p l e R s m args below meth c H locs cells slots Q (F0 m pc ls (S.map (gT ad)))) : gGo X rv M d pc L S σ o := by
  intro r σ' ho
  obtain ⟨hm, hw⟩ := h r σ' ho
  unfold gMn at hm
  rw [hN, hQ] at hm
  exact ⟨hm, fun p l e R s m args below meth c H locs cells slots Q ls B ad D cy n0 q0 hc hh hS h1 h2 h3 h4 hl hq => hs p l e R s m args below meth c H locs cells slots Q ls B ad D cy X hc hh hS (fun H1 locs1 hh1 hS1 => hw p l e R s m args below meth c H1 locs1 cells slots Q ls B ad D cy n0 q0 hc hh1 hS1 (by rw [hN]; exact h1) (by rw [hQ]; exact h2) h3 h4 hl hq)⟩
theorem go_get {a c k idx : Nat} (hF : gFL M.1.cls idx c k) (hC : gCF c) (hd : decode M.2.1 pc = .ok (.getfield idx, 3)) (hk : gK σ a = c + 1) (h : gGo X rv M d (pc + 3) L (gfv σ a c k :: S) σ o) : gGo X rv M d pc L (vr a :: S) σ o := by
  refine gGo.read h (fun p l e R s m args below meth cd H locs cells slots Q ls B ad D cy X hc hh hS kk => ?_)
  obtain ⟨hx, hb, hml, hown, hnm, hts, hK, hRO, had, hB, -⟩ := hc
  obtain ⟨hP, hD, hz, h50, hlive, hXX⟩ := hh
  obtain ⟨hc13, C, T, N, ty, hcl, hin, hnm2, hty⟩ := hC
  obtain ⟨C', T', N', hcl', hkN, hlink⟩ := hF
  have he := hcl.symm.trans hcl'
  cases he
  obtain ⟨ha1, ha2⟩ := hlive a (by omega)
  have hpl := gW_at (ad := ad) (cy := cy) ha1 ha2
  rw [gE_obj hk hc13] at hpl
  show W p l e R s m args below meth cd H locs cells slots Q (F0 m pc ls (gP ad a :: S.map (gT ad)))
  rw [gP_ref (by omega)]
  exact va_get (Ts := gTb) hx hb hts hin hown hK hP (a - 50) hpl hcl k hkN (hts _ hlink) (fun x hx => hx) (gfs_at (by rw [gNf_of hcl]; exact hkN)) hd kk
theorem go_getI {a c k idx : Nat} {K : Int32 → Option (α × gH)} (hF : gFL M.1.cls idx c k) (hC : gCF c) (ht : gft c k = 0) (hd : decode M.2.1 pc = .ok (.getfield idx, 3)) (h : ∀ v, gGo X rv M d (pc + 3) L (vi v :: S) σ (K v)) : gGo X rv M d pc L (vr a :: S) σ ((ggI σ a c k).bind K) := by
  unfold ggI
  by_cases hk : gK σ a = c + 1
  · rw [if_pos hk]
    have h1 := h (gI σ a k)
    rw [show vi (gI σ a k) = gfv σ a c k by unfold gfv; rw [if_pos ht]] at h1
    exact go_get hF hC hd hk h1
  · rw [if_neg hk]; exact go_none
theorem go_getJ {a c k idx : Nat} {K : Int64 → Option (α × gH)} (hF : gFL M.1.cls idx c k) (hC : gCF c) (ht : gft c k = 1) (hd : decode M.2.1 pc = .ok (.getfield idx, 3)) (h : ∀ v, gGo X rv M d (pc + 3) L (vl v :: S) σ (K v)) : gGo X rv M d pc L (vr a :: S) σ ((ggJ σ a c k).bind K) := by
  unfold ggJ
  by_cases hk : gK σ a = c + 1
  · rw [if_pos hk]
    have h1 := h (gJ σ a k)
    rw [show vl (gJ σ a k) = gfv σ a c k by unfold gfv; rw [if_neg (by omega), if_pos ht]] at h1
    exact go_get hF hC hd hk h1
  · rw [if_neg hk]; exact go_none
theorem go_getR {a c k idx : Nat} {K : Nat → Option (α × gH)} (hF : gFL M.1.cls idx c k) (hC : gCF c) (ht : gft c k = 2) (hd : decode M.2.1 pc = .ok (.getfield idx, 3)) (h : ∀ v, gGo X rv M d (pc + 3) L (vr v :: S) σ (K v)) : gGo X rv M d pc L (vr a :: S) σ ((ggR σ a c k).bind K) := by
  unfold ggR
  by_cases hk : gK σ a = c + 1
  · rw [if_pos hk]
    have h1 := h (gR σ a k)
    rw [show vr (gR σ a k) = gfv σ a c k by unfold gfv; rw [if_neg (by omega), if_neg (by omega)]] at h1
    exact go_get hF hC hd hk h1
  · rw [if_neg hk]; exact go_none
end gMem
