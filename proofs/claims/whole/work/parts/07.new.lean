/-! MEMORY: new cells -/
def gdef (t : Nat) : Value := if t = 0 then .int 0 else if t = 1 then .long 0 else .null
/-- what a new object of class c holds, by the tables -/
def gCD (c : Nat) : Prop := ∃ (C : String) (T : u_T) (N : Nat) (ty : Nat → FieldType), vwCl[c]? = some (C, T, N) ∧ Cond.instantiable C N ∈ gTb ∧ Cond.initialized C ∈ gTb ∧ (∀ k, k < N → parseFieldDescriptor (T k).2.2.1 = some (ty k)) ∧ ∀ k, k < N → defaultValue (ty k) = gdef (gcode (T k).2.2.1)
def gNL (own : String) (idx c : Nat) : Prop := ∃ (C : String) (T : u_T) (N : Nat), vwCl[c]? = some (C, T, N) ∧ Cond.classLink own idx C ∈ gTb
def gAT (t : Nat) : ArrayType := if t = 0 then .byte else if t = 1 then .char else if t = 2 then .int else if t = 3 then .long else .boolean
section gNew
variable {α : Type} {X : Nat × (Nat → Int32)} {rv : α → Option gv} {M : gM} {d pc : Nat} {L : List (Nat × gv)} {S : List gv} {σ : gH} {o : Option (α × gH)}
theorem gE_new (ad : Nat → Nat) (cy : Nat → ClassId) (σ : gH) (kd ln sl : Nat) (r : Nat) (h : r ≠ gN σ) : gE ad cy (gnew σ kd ln sl) r = gE ad cy σ r := by
  have k1 : gK (gnew σ kd ln sl) r = gK σ r := by simp [gK, gnew, h]
  have k2 : gLn (gnew σ kd ln sl) r = gLn σ r := by simp [gLn, gnew, h]
  have k3 : gI (gnew σ kd ln sl) r = gI σ r := by funext j; simp [gI, gnew, h]
  have k4 : gJ (gnew σ kd ln sl) r = gJ σ r := by funext j; simp [gJ, gnew, h]
  have k5 : gR (gnew σ kd ln sl) r = gR σ r := by funext j; simp [gR, gnew, h]
  have e2 : ∀ c, gfs ad (gnew σ kd ln sl) r c = gfs ad σ r c := fun c => by
    unfold gfs; congr 1; funext j; unfold gfv; rw [k3, k4, k5]
  have e3 : ∀ t, garr ad (gnew σ kd ln sl) r t = garr ad σ r t := fun t => by unfold garr; rw [k3, k4, k5]
  unfold gE
  rw [k1, k2, e2, e3]
theorem gW_new (ad : Nat → Nat) (cy : Nat → ClassId) (σ : gH) (kd ln sl : Nat) (h50 : 50 ≤ gN σ) : gW ad cy (gnew σ kd ln sl) = gW ad cy σ ++ [(ad (gN σ), gE ad cy (gnew σ kd ln sl) (gN σ))] := by
  have hN : gN (gnew σ kd ln sl) = gN σ + 1 := rfl
  unfold gW
  rw [hN, show gN σ + 1 - 50 = (gN σ - 50) + 1 by omega, List.range_succ, List.map_append]
  congr 1
  · apply List.map_congr_left
    intro i hi
    have := List.mem_range.mp hi
    rw [gE_new ad cy σ kd ln sl (i + 50) (by omega)]
  · simp only [List.map_cons, List.map_nil]
    rw [show gN σ - 50 + 50 = gN σ by omega]
theorem gHp.new {B : Nat} {ad : Nat → Nat} {D : va_G} {cy : Nat → ClassId} {X : Nat × (Nat → Int32)} {H H1 : Heap} {kd ln sl : Nat} (had : ∀ r, 50 ≤ r → ad r = B + (r - 50)) (h : gHp B ad D cy X σ H) (z1 : H1.size = H.size + 1) (o1 : ∀ q : Nat, q < H.size → H1[q]? = H[q]?) (hat : va_at D vwCl (ad (gN σ), gE ad cy (gnew σ kd ln sl) (gN σ)) H1) : gHp B ad D cy X (gnew σ kd ln sl) H1 := by
  obtain ⟨hP, hD, hs, h50, hlive, hX1⟩ := h
  have ha : ad (gN σ) = H.size := by rw [had _ h50, hs]
  have hN : gN (gnew σ kd ln sl) = gN σ + 1 := rfl
  have hk : ∀ (k : Nat) (x : Nat × va_E), (gW ad cy σ)[k]? = some x → H1[x.1]? = H[x.1]? := fun k x hx => o1 x.1 ((hP k x hx).lt)
  refine ⟨?_, ?_, by rw [hN, z1, hs]; omega, by rw [hN]; omega, fun r hr => ?_, ?_⟩
  · rw [gW_new ad cy σ kd ln sl h50]
    refine (hP.kept hk).app (fun k x hx => ?_)
    have hz : k < 1 := (List.getElem?_eq_some_iff.mp hx).1
    rw [show k = 0 by omega] at hx
    cases hx
    exact hat
  · rw [gW_new ad cy σ kd ln sl h50]
    exact hD.push hP ha (by rw [ha, hs]; omega)
  · rw [hN]
    by_cases e : r = gN σ
    · omega
    · have : gK (gnew σ kd ln sl) r = gK σ r := by simp [gK, gnew, e]
      rw [this] at hr
      have := hlive r hr
      omega
  · have e0 : gLn (gnew σ kd ln sl) 0 = gLn σ 0 := by simp only [gLn, gnew]; rw [if_neg (by omega)]
    have e1 : gLn (gnew σ kd ln sl) 1 = gLn σ 1 := by simp only [gLn, gnew]; rw [if_neg (by omega)]
    have e2 : gI (gnew σ kd ln sl) 1 = gI σ 1 := by funext j; simp only [gI, gnew]; rw [if_neg (by omega)]
    rw [e0, e1, e2]
    exact hX1
/-- making a cell -/
theorem gGo.make {pc' kd ln sl : Nat} {S S' : List gv} (h : gGo X rv M d pc' L S' (gnew σ kd ln sl) o)
    (hs : ∀ (p : Program) (l : Launch) (e : Env) (R : Room) (s : State) (m : MethodId) (args : Array Value) (below : List Frame) (meth : Method) (c : Code) (H : Heap) (locs : List Loc) (cells slots : Nat) (Q : State → Prop) (ls : Array Slot) (B : Nat) (ad : Nat → Nat) (D : va_G) (cy : Nat → ClassId) (X : Nat × (Nat → Int32)), gCx M d p R s m args meth c B ad D cy X → gHp B ad D cy X σ H → va_S (fun q => B ≤ q) s.heap H locs → ad (gN σ) = H.size → gN σ ≠ 0 → cells + 1 ≤ R.cells → slots + sl ≤ R.slots → (∀ (H1 : Heap), H1.size = H.size + 1 → (∀ q, q < H.size → H1[q]? = H[q]?) → va_at D vwCl (ad (gN σ), gE ad cy (gnew σ kd ln sl) (gN σ)) H1 → W p l e R s m args below meth c H1 locs (cells + 1) (slots + sl) Q (F0 m pc' ls (S'.map (gT ad)))) → W p l e R s m args below meth c H locs cells slots Q (F0 m pc ls (S.map (gT ad)))) : gGo X rv M d pc L S σ o := by
  intro r σ' ho
  obtain ⟨hm, hw⟩ := h r σ' ho
  have hN : gN (gnew σ kd ln sl) = gN σ + 1 := rfl
  have hQ : gQ (gnew σ kd ln sl) = gQ σ + sl := rfl
  unfold gMn at hm
  rw [hN, hQ] at hm
  refine ⟨⟨by omega, by omega⟩, fun p l e R s m args below meth c H locs cells slots Q ls B ad D cy n0 q0 hc hh hS h1 h2 h3 h4 hl hq => ?_⟩
  have had := hc.2.2.2.2.2.2.2.2.1
  have h50 := hh.2.2.2.1
  refine hs p l e R s m args below meth c H locs cells slots Q ls B ad D cy X hc hh hS (by rw [had _ h50, hh.2.2.1]) (by omega) (by omega) (by omega) (fun H1 z1 o1 hat => ?_)
  refine hw p l e R s m args below meth c H1 locs (cells + 1) (slots + sl) Q ls B ad D cy n0 q0 hc (hh.new had z1 o1 hat) ⟨Nat.le_trans hS.1 (by omega), fun x g1 g2 => (o1 x (Nat.lt_of_lt_of_le g1 hS.1)).trans (hS.2.1 x g1 g2), hS.2.2⟩ (by rw [hN]; omega) (by rw [hQ]; omega) h3 h4 hl hq
theorem go_new {c idx : Nat} (hL : gNL M.1.cls idx c) (hC : gCF c) (hCD : gCD c) (hd : decode M.2.1 pc = .ok (.new idx, 3)) (h : gGo X rv M d (pc + 3) L (vr (gN σ) :: S) (gnew σ (c + 1) 0 (gNf c)) o) : gGo X rv M d pc L S σ o := by
  refine gGo.make h (fun p l e R s m args below meth cd H locs cells slots Q ls B ad D cy X hc hh hS hadr hn0 hcells hslots kk => ?_)
  obtain ⟨hx, hb, hml, hown, hnm, hts, hK, hRO, had, hB, -⟩ := hc
  obtain ⟨hc13, C, T, N, ty0, hcl, hin, hnm2, hty⟩ := hC
  obtain ⟨C', T', N', hcl', hlink⟩ := hL
  cases hcl.symm.trans hcl'
  obtain ⟨C', T', N', ty, hcl', hinst, hini, hty', hdef⟩ := hCD
  cases hcl.symm.trans hcl'
  have hNf := gNf_of hcl
  rw [hNf] at hslots kk
  have hKn := hK.1 c _ hcl
  refine W.newcK hx hb hown (hts _ hlink) (hts _ hinst) (hts _ hini) rfl hd hcells hslots hKn.2.1 rfl fun H1 kC hkC e1 z1 o1 => ?_
  have kk := kk H1 z1 o1 (by
    rw [gE_obj (c := c) (by simp [gK, gnew]) hc13, hadr]
    refine ⟨_, hcl, (u_born ty hts hin hKn hkC e1 hty').to (fun j hj => ?_)⟩
    rw [hdef j hj]
    show _ = (gfs ad (gnew σ (c + 1) 0 N) (gN σ) c).getD j .null
    rw [List.getD_eq_getElem?_getD, gfs_at (by rw [hNf]; exact hj)]
    show gdef (gcode (T j).2.2.1) = gT ad (gfv (gnew σ (c + 1) 0 N) (gN σ) c j)
    unfold gfv gdef
    rw [gft_of hcl]
    have z1 : gI (gnew σ (c + 1) 0 N) (gN σ) j = 0 := by simp [gI, gnew]
    have z2 : gJ (gnew σ (c + 1) 0 N) (gN σ) j = 0 := by simp [gJ, gnew]
    have z3 : gR (gnew σ (c + 1) 0 N) (gN σ) j = 0 := by simp [gR, gnew]
    rw [z1, z2, z3]
    split
    · rfl
    · split <;> rfl)
  have e9 : (F0 m (pc + 3) ls ((vr (gN σ) :: S).map (gT ad))) = F0 m (pc + 3) ls (.ref H.size :: S.map (gT ad)) := by
    show F0 m (pc + 3) ls (gP ad (gN σ) :: S.map (gT ad)) = _
    rw [gP_ref hn0, hadr]
  rw [e9] at kk
  exact kk
theorem go_newarr {t : Nat} {n : Int32} (ht5 : t < 5) (hw : Cond.arrayClass (newarray.typeOf (gAT t)) ∈ gTb) (hd : decode M.2.1 pc = .ok (.newarray (gAT t), 2)) (h : gGo X rv M d (pc + 2) L (vr (gN σ) :: S) (gnew σ (20 + t) n.toNatClampNeg n.toNatClampNeg) o) : gGo X rv M d pc L (vi n :: S) σ (if n < 0 ∨ 60000000 < n.toNatClampNeg then none else o) := by
  by_cases hg : n < 0 ∨ 60000000 < n.toNatClampNeg
  · rw [if_pos hg]; exact go_none
  · rw [if_neg hg]
    have hn : ¬ n < 0 := fun q => hg (Or.inl q)
    have hn2 : n.toNatClampNeg ≤ 60000000 := Nat.not_lt.mp fun q => hg (Or.inr q)
    refine gGo.make h (fun p l e R s m args below meth cd H locs cells slots Q ls B ad D cy X hc hh hS hadr hn0 hcells hslots kk => ?_)
    obtain ⟨hx, hb, hml, hown, hnm, hts, hK, hRO, had, hB, -⟩ := hc
    have hbytes : n.toNatClampNeg * componentBytes (newarray.typeOf (gAT t)) ≤ 536870912 := by
      have : componentBytes (newarray.typeOf (gAT t)) ≤ 8 := by
        rcases (show t = 0 ∨ t = 1 ∨ t = 2 ∨ t = 3 ∨ t = 4 by omega) with rfl | rfl | rfl | rfl | rfl <;> decide
      calc n.toNatClampNeg * componentBytes (newarray.typeOf (gAT t)) ≤ n.toNatClampNeg * 8 := Nat.mul_le_mul_left _ this
        _ ≤ 536870912 := by omega
    refine va_newaK hx hb (hts _ hw) rfl hd rfl hn rfl hbytes hcells hslots rfl fun H1 cA e1 z1 o1 hAr hNm => ?_
    have hcA : cA = cy t := by
      have hRA : s.vm.findClass ("[" ++ (newarray.typeOf (gAT t)).toString) = some (cy t) := by
        rcases (show t = 0 ∨ t = 1 ∨ t = 2 ∨ t = 3 ∨ t = 4 by omega) with rfl | rfl | rfl | rfl | rfl
        · exact (hK.2 0 (cy 0, .byte) rfl).2
        · exact (hK.2 1 (cy 1, .char) rfl).2
        · exact (hK.2 2 (cy 2, .int) rfl).2
        · exact (hK.2 3 (cy 3, .long) rfl).2
        · exact (hK.2 4 (cy 4, .boolean) rfl).2
      exact Option.some.inj (hNm.symm.trans hRA)
    subst hcA
    have kk := kk H1 z1 o1 (by
      rw [gE_arr (t := t) (by simp [gK, gnew]), hadr]
      show H1[H.size]? = some (vp_cell (cy t) _)
      rw [e1]
      have z0 : gLn (gnew σ (20 + t) n.toNatClampNeg n.toNatClampNeg) (gN σ) = n.toNatClampNeg := by simp [gLn, gnew]
      rw [z0]
      have z1 : gI (gnew σ (20 + t) n.toNatClampNeg n.toNatClampNeg) (gN σ) = fun _ => 0 := by funext j; simp [gI, gnew]
      have z2 : gJ (gnew σ (20 + t) n.toNatClampNeg n.toNatClampNeg) (gN σ) = fun _ => 0 := by funext j; simp [gJ, gnew]
      unfold garr
      rw [z1, z2]
      rcases (show t = 0 ∨ t = 1 ∨ t = 2 ∨ t = 3 ∨ t = 4 by omega) with rfl | rfl | rfl | rfl | rfl <;> rfl)
    have e9 : (F0 m (pc + 2) ls ((vr (gN σ) :: S).map (gT ad))) = F0 m (pc + 2) ls (.ref H.size :: S.map (gT ad)) := by
      show F0 m (pc + 2) ls (gP ad (gN σ) :: S.map (gT ad)) = _
      rw [gP_ref hn0, hadr]
    rw [e9] at kk
    exact kk
theorem go_anew {t idx : Nat} {n : Int32} (ht5 : 5 ≤ t) (ht8 : t < 8) (hw : Cond.classLink M.1.cls idx (gCn t) ∈ gTb) (hd : decode M.2.1 pc = .ok (.anewarray idx, 3)) (h : gGo X rv M d (pc + 3) L (vr (gN σ) :: S) (gnew σ (20 + t) n.toNatClampNeg n.toNatClampNeg) o) : gGo X rv M d pc L (vi n :: S) σ (if n < 0 ∨ 60000000 < n.toNatClampNeg then none else o) := by
  by_cases hg : n < 0 ∨ 60000000 < n.toNatClampNeg
  · rw [if_pos hg]; exact go_none
  · rw [if_neg hg]
    have hn : ¬ n < 0 := fun q => hg (Or.inl q)
    have hn2 : n.toNatClampNeg ≤ 60000000 := Nat.not_lt.mp fun q => hg (Or.inr q)
    refine gGo.make h (fun p l e R s m args below meth cd H locs cells slots Q ls B ad D cy X hc hh hS hadr hn0 hcells hslots kk => ?_)
    obtain ⟨hx, hb, hml, hown, hnm, hts, hK, hRO, had, hB, -⟩ := hc
    have hover := hRO.2.2.2.2.2.2.2.2.1 t ht5 ht8
    refine W.anew hx hb hown (hts _ hw) (va_AO.use hover) rfl hd rfl hn (by omega) hcells hslots fun cA kA comp f1 f2 f3 f4 => ?_
    generalize hH1 : H.push ({ cls := cA, slots := Array.replicate n.toNatClampNeg .null, vm := .none } : Cell) = H1
    have z1 : H1.size = H.size + 1 := by rw [← hH1, Array.size_push]
    have e1 : H1[H.size]? = some (arrV cA n.toNatClampNeg (fun _ => .null)) := by rw [← hH1, Array.getElem?_push_size, ← arrV_new]
    have o1 : ∀ q : Nat, q < H.size → H1[q]? = H[q]? := fun q hq => by rw [← hH1, Array.getElem?_push, if_neg (Nat.ne_of_lt hq)]
    have hty : (gTy cy)[t]? = some (cy t, .object (gCn t)) := by
      rcases (show t = 5 ∨ t = 6 ∨ t = 7 by omega) with rfl | rfl | rfl <;> rfl
    have hcA : cA = cy t := by
      obtain ⟨kA', comp', k1, k2, k3, k4⟩ := (hK.2 t _ hty).2
      exact Option.some.inj (f1.symm.trans k4)
    subst hcA
    have kk := kk H1 z1 o1 (by
      rw [gE_arr (t := t) (by simp [gK, gnew]), hadr]
      show H1[H.size]? = some (vp_cell (cy t) _)
      rw [e1]
      have z0 : gLn (gnew σ (20 + t) n.toNatClampNeg n.toNatClampNeg) (gN σ) = n.toNatClampNeg := by simp [gLn, gnew]
      rw [z0]
      have z3 : gR (gnew σ (20 + t) n.toNatClampNeg n.toNatClampNeg) (gN σ) = fun _ => 0 := by funext j; simp [gR, gnew]
      unfold garr
      rw [z3, if_neg (by omega), if_neg (by omega)]
      rfl)
    have e9 : (F0 m (pc + 3) ls ((vr (gN σ) :: S).map (gT ad))) = F0 m (pc + 3) ls (.ref H.size :: S.map (gT ad)) := by
      show F0 m (pc + 3) ls (gP ad (gN σ) :: S.map (gT ad)) = _
      rw [gP_ref hn0, hadr]
    rw [e9] at kk
    exact kk
end gNew
