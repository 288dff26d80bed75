/-! THE CLAIM OUT OF ONE WALK OF THE LAW'S BODY. Your part is whole_start (and what it stands on); all else here is the same for every law, but numbers. -/
def R_law : String := "FeastRulesLaw"
def lw_P (b : Addr) (xs : List Int32) (args : Array Value) (s : State) : Prop := args = #[.ref b] ∧ s.IntsAt b xs ∧ xs.length ≤ 3072 ∧ (Jvm.Cond.and given_1 narrow_1).before args s = true
def lw_Q (_ : Array Value) (s : State) (o : Outcome) (t : State) : Prop := o = .returned (some (.int 1)) ∧ Framed s o t [] 600000 7302250
def lw_Z (below : List Frame) (a : Array Value) (s : State) : State → Prop := fun t => ∃ o, t.status = .running ∧ Ended t below o ∧ lw_Q a s o t
/-- the law's own end, with 1 on the stack, nothing written that was there before, its room as the claim has it -/
theorem lw_ret {p : Program} {l : Launch} {e : Env} {s : State} {m : MethodId} {below : List Frame} {meth : Method} {c : Code} {b : Nat} (hx : p.tables.exec = Jvm.exec) (hb : c.code = code) (hr : meth.sig.returnType = ret) (hlocks : meth.locks = false) {pc : Nat} {H : Heap} {ls : Array Slot} (hdg : decode code pc = .ok (.ireturn, 1)) : W p l e room_1 s m #[Value.ref b] below meth c H [] 600000 7302250 (lw_Z below #[Value.ref b] s) (F0 m pc ls [.int 1]) := by
  intro T hT X
  obtain ⟨fs, hret, hrun, hended, hW, hframe⟩ := X.leave (v := some (.int 1)) (hlocks := hlocks) (fun h => by rw [hr] at h; cases h)
  have hmeth' : T.vm.method? m = some meth := X.method'
  refine ⟨T.setFrames fs, ?_, .returned (some (.int 1)), hrun, hended, rfl, ⟨_, rfl⟩, hW, hframe⟩
  jvm_step X.here [X.here.top, hx, hb, hdg, hmeth', hr, ret, narrow_b1]
  (try refine ⟨rfl, ?_⟩); (try refine ⟨rfl, ?_⟩)
  first | (intro acts; rw [hret _ acts rfl rfl rfl]) | rw [hret _ _ rfl rfl rfl]
  exact Steps.refl _
/-- what holds at the law's entry: the machine, the code, the tables' words (any of lw_tbl by 'hts w (by decide +kernel)'), the script of L ints xs at the cell b, what the Statement gives of the start (any of its parts by flat_of_before) -/
def lw_At (p : Program) (s : State) (m : MethodId) (meth : Method) (c : Code) (b L : Nat) (xs : Nat → Int32) : Prop :=
  p.tables.exec = Jvm.exec ∧ c.code = code ∧ meth.sig.returnType = ret ∧ c.maxLocals = 4 ∧ s.vm.findClass R_law = some m.cls ∧ (∀ w ∈ lw_tbl, w.before #[Value.ref b] s = true) ∧ va_X b L xs s s.heap ∧ b < s.heap.size ∧ meth.locks = false ∧ (Jvm.Cond.and given_1 narrow_1).before #[Value.ref b] s = true

theorem gtb_in {w : Cond} (h : w ∈ gTb) : w ∈ lw_tbl := (List.mem_filter.mp h).1
theorem gcy_prim {args : Array Value} {s : State} {ty : FieldType} (h : (Cond.arrayClass ty).before args s = true) (hp : ∀ cA, va_RA s cA ty = (s.vm.findClass ("[" ++ ty.toString) = some cA)) : ∃ cA, ArrOfT s cA ty ∧ va_RA s cA ty := by
  obtain ⟨c, k, comp, h1, h2, h3⟩ := Cond.arrayClass_spec h
  exact ⟨c, fun n z => ⟨fun k h => (by cases h), k, h2, comp, h3⟩, by rw [hp]; exact h1⟩
theorem gcy_obj {args : Array Value} {s : State} {C : String} (h : (Cond.arrayOver (.object C)).before args s = true) : ∃ cA, ArrOfT s cA (.object C) ∧ va_RA s cA (.object C) := by
  obtain ⟨comp, c, k, h1, h2, h3, h4, h5⟩ := Cond.arrayOver_spec h
  exact ⟨c, fun n z => ⟨fun k h => (by cases h), k, h3, comp, h4⟩, k, comp, h3, h4, h1, h5⟩
theorem gcy_of {args : Array Value} {s : State} (hts : ∀ w ∈ lw_tbl, w.before args s = true) : ∃ cy : Nat → ClassId, ∀ (k : Nat) (q : ClassId × FieldType), (gTy cy)[k]? = some q → ArrOfT s q.1 q.2 ∧ va_RA s q.1 q.2 := by
  obtain ⟨c0, h0⟩ := gcy_prim (ty := .byte) (hts _ (gtb_in gac_0)) (fun _ => rfl)
  obtain ⟨c1, h1⟩ := gcy_prim (ty := .char) (hts _ (gtb_in gac_1)) (fun _ => rfl)
  obtain ⟨c2, h2⟩ := gcy_prim (ty := .int) (hts _ (gtb_in gac_2)) (fun _ => rfl)
  obtain ⟨c3, h3⟩ := gcy_prim (ty := .long) (hts _ (gtb_in gac_3)) (fun _ => rfl)
  obtain ⟨c4, h4⟩ := gcy_prim (ty := .boolean) (hts _ (gtb_in gac_4)) (fun _ => rfl)
  obtain ⟨c5, h5⟩ := gcy_obj (hts _ gwo_5)
  obtain ⟨c6, h6⟩ := gcy_obj (hts _ gwo_6)
  obtain ⟨c7, h7⟩ := gcy_obj (hts _ gwo_7)
  refine ⟨fun k => if k = 0 then c0 else if k = 1 then c1 else if k = 2 then c2 else if k = 3 then c3 else if k = 4 then c4 else if k = 5 then c5 else if k = 6 then c6 else c7, fun k q hq => ?_⟩
  match k, hq with
  | 0, hq => cases hq; exact h0
  | 1, hq => cases hq; exact h1
  | 2, hq => cases hq; exact h2
  | 3, hq => cases hq; exact h3
  | 4, hq => cases hq; exact h4
  | 5, hq => cases hq; exact h5
  | 6, hq => cases hq; exact h6
  | 7, hq => cases hq; exact h7
  | k + 8, hq => simp [gTy] at hq
theorem gcl_of {args : Array Value} {s : State} (hts : ∀ w ∈ lw_tbl, w.before args s = true) : ∃ (dC : Nat → ClassId) (dI : Nat → Nat → Nat), ∀ (k : Nat) (q : vw_C), vwCl[k]? = some q → u_Kn s q.1 q.2.1 q.2.2 (dC k) (dI k) := by
  have hg : ∀ w ∈ gTb, w.before args s = true := fun w h => hts w (gtb_in h)
  obtain ⟨c0, i0, h0⟩ := u_known (C := RX0) (T := TX0) (N := 8) (n := 8) hg gu_0 (by obtain ⟨C, T, M, ty, e, hi, -⟩ := gcd_0; cases e; exact hg _ hi)
  obtain ⟨c1, i1, h1⟩ := u_known (C := RX1) (T := TX1) (N := 7) (n := 7) hg gu_1 (by obtain ⟨C, T, M, ty, e, hi, -⟩ := gcd_1; cases e; exact hg _ hi)
  obtain ⟨c2, i2, h2⟩ := u_known (C := RX2) (T := TX2) (N := 1) (n := 1) hg gu_2 (by obtain ⟨C, T, M, ty, e, hi, -⟩ := gcd_2; cases e; exact hg _ hi)
  obtain ⟨c3, i3, h3⟩ := u_known (C := RX3) (T := TX3) (N := 3) (n := 3) hg gu_3 (by obtain ⟨C, T, M, ty, e, hi, -⟩ := gcd_3; cases e; exact hg _ hi)
  obtain ⟨c4, i4, h4⟩ := u_known (C := RX4) (T := TX4) (N := 6) (n := 6) hg gu_4 (by obtain ⟨C, T, M, ty, e, hi, -⟩ := gcd_4; cases e; exact hg _ hi)
  obtain ⟨c5, i5, h5⟩ := u_known (C := RX5) (T := TX5) (N := 8) (n := 8) hg gu_5 (by obtain ⟨C, T, M, ty, e, hi, -⟩ := gcd_5; cases e; exact hg _ hi)
  obtain ⟨c6, i6, h6⟩ := u_known (C := RX6) (T := TX6) (N := 9) (n := 9) hg gu_6 (by obtain ⟨C, T, M, ty, e, hi, -⟩ := gcd_6; cases e; exact hg _ hi)
  obtain ⟨c7, i7, h7⟩ := u_known (C := RX7) (T := TX7) (N := 2) (n := 2) hg gu_7 (by obtain ⟨C, T, M, ty, e, hi, -⟩ := gcd_7; cases e; exact hg _ hi)
  obtain ⟨c8, i8, h8⟩ := u_known (C := RX8) (T := TX8) (N := 15) (n := 15) hg gu_8 (by obtain ⟨C, T, M, ty, e, hi, -⟩ := gcd_8; cases e; exact hg _ hi)
  obtain ⟨c9, i9, h9⟩ := u_known (C := RX9) (T := TX9) (N := 12) (n := 12) hg gu_9 (by obtain ⟨C, T, M, ty, e, hi, -⟩ := gcd_9; cases e; exact hg _ hi)
  obtain ⟨c10, i10, h10⟩ := u_known (C := RX10) (T := TX10) (N := 2) (n := 2) hg gu_10 (by obtain ⟨C, T, M, ty, e, hi, -⟩ := gcd_10; cases e; exact hg _ hi)
  obtain ⟨c11, i11, h11⟩ := u_known (C := RX11) (T := TX11) (N := 10) (n := 10) hg gu_11 (by obtain ⟨C, T, M, ty, e, hi, -⟩ := gcd_11; cases e; exact hg _ hi)
  obtain ⟨c12, i12, h12⟩ := u_known (C := RX12) (T := TX12) (N := 47) (n := 47) hg gu_12 (by obtain ⟨C, T, M, ty, e, hi, -⟩ := gcd_12; cases e; exact hg _ hi)
  refine ⟨fun k => if k = 0 then c0 else if k = 1 then c1 else if k = 2 then c2 else if k = 3 then c3 else if k = 4 then c4 else if k = 5 then c5 else if k = 6 then c6 else if k = 7 then c7 else if k = 8 then c8 else if k = 9 then c9 else if k = 10 then c10 else if k = 11 then c11 else c12, fun k => if k = 0 then i0 else if k = 1 then i1 else if k = 2 then i2 else if k = 3 then i3 else if k = 4 then i4 else if k = 5 then i5 else if k = 6 then i6 else if k = 7 then i7 else if k = 8 then i8 else if k = 9 then i9 else if k = 10 then i10 else if k = 11 then i11 else i12, fun k q hq => ?_⟩
  match k, hq with
  | 0, hq => cases hq; exact h0
  | 1, hq => cases hq; exact h1
  | 2, hq => cases hq; exact h2
  | 3, hq => cases hq; exact h3
  | 4, hq => cases hq; exact h4
  | 5, hq => cases hq; exact h5
  | 6, hq => cases hq; exact h6
  | 7, hq => cases hq; exact h7
  | 8, hq => cases hq; exact h8
  | 9, hq => cases hq; exact h9
  | 10, hq => cases hq; exact h10
  | 11, hq => cases hq; exact h11
  | 12, hq => cases hq; exact h12
  | k + 13, hq => simp [vwCl] at hq

/-- in pure Lean: the law's function answers 1 -/
theorem law_true (L : Nat) (xs : Nat → Int32) (hL : L ≤ 3072) : ∃ σ', gL_law (L, xs) gsc = some (1, σ') ∧ gN σ' ≤ 600050 ∧ gQ σ' ≤ 7302250 := law_all L xs hL
theorem whole_start {p : Program} {e : Env} {s : State} {m : MethodId} {below : List Frame} {meth : Method} {c : Code} (l : Launch) (hflags : l.flags = flags0) {b L : Nat} {xs : Nat → Int32} (hL : L ≤ 3072) (hnm : meth.name = "law") (C0 : lw_At p s m meth c b L xs) : W p l e room_1 s m #[Value.ref b] below meth c s.heap [] 0 0 (lw_Z below #[Value.ref b] s) (entryFrame m ([Value.ref b] : List Value).toArray 4) := by
  obtain ⟨hx, hb, hr, hml, hown, hts, hX, hbl, hlocks, hgv⟩ := C0
  have hnw : narrow_1.before #[Value.ref b] s = true := by
    rw [Cond.before_and, Bool.and_eq_true] at hgv
    exact hgv.2
  have hpt : ∀ (q : List Bool) {w : Cond}, gpath q narrow_1 = some w → w.before #[Value.ref b] s = true := fun q w h => gpath_of q hnw h
  have hA : ∀ a : Nat, a < s.heap.size → ¬ s.heap.size ≤ a := fun a h => by omega
  obtain ⟨dC, dI, hcl⟩ := gcl_of hts
  obtain ⟨cy, hcy⟩ := gcy_of hts
  have hK : va_K (dC, dI) vwCl (gTy cy) s := ⟨hcl, hcy⟩
  obtain ⟨tA, hA1, hA2⟩ := va_Tof (N := 13) (f := fun j => .int (gAh j)) (A := fun q => s.heap.size ≤ q) (by decide) (hpt _ gph1) (va_eqt (hpt _ gph2)) (fun j hj => va_eqt (hpt _ (gph j hj))) hA
  have hZA := va_Zof (A := fun q => s.heap.size ≤ q) (hts _ gws_A) (hts _ gwi_A) hA1 hA
  have hZC := va_Zof (A := fun q => s.heap.size ≤ q) (hts _ gws_C) (hts _ gwi_C) (va_eqi (hpt _ gpcs)) hA
  have hZF := va_Zqof (A := fun q => s.heap.size ≤ q) (hts _ gws_F) (hts _ gwi_F) (hpt _ gpsf) hA
  obtain ⟨adK, adV, hSt, hSe⟩ := vk_Sof (N := 16) (tm := gtm) (len := gSl) (byt := gSb) (A := fun q => s.heap.size ≤ q) (args := #[Value.ref b]) (s := s) (by decide) (fun i hi => hpt _ (gpx i hi)) (fun i hi => hpt _ (gpc i hi)) (fun i hi => hpt _ (gpa i hi)) (fun i hi => hpt _ (gpn i hi)) (fun i hi j hj => hpt _ (gpe i hi j hj)) (fun i j hi hj hij => (gpd i hi j hj hij).elim (fun h => Or.inl (hpt _ h)) (fun h => Or.inr (hpt _ h))) hA
  have hR : ∀ i : Nat, i < 16 → vk_R "FeastRules$Reader" (gSx.getD i (0, "")).1 (gSx.getD i (0, "")).2 (adK i) s := fun i hi => vk_R.of (hts _ (gwr i hi)) (hSe i hi)
  have hNest : ∀ q ∈ gNest, va_Nw (.methodLinkNest q.1 q.2.1 q.2.2 "FeastRules") s := fun q hq => va_Nw.of rfl (hts _ (gwn q hq))
  have hAO : ∀ t : Nat, 5 ≤ t → t < 8 → va_AO (gCn t) s := fun t h1 h2 => by
    rcases (show t = 5 ∨ t = 6 ∨ t = 7 by omega) with rfl | rfl | rfl
    · exact va_AO.of (hts _ gwo_5)
    · exact va_AO.of (hts _ gwo_6)
    · exact va_AO.of (hts _ gwo_7)
  obtain ⟨tF, hF⟩ : ∃ tF : Option Nat, va_Z "jdk/internal/util/Preconditions" "SIOOBE_FORMATTER" "Ljava/util/function/BiFunction;" (va_rf tF) (fun q => s.heap.size ≤ q) s s.heap := by
    rcases hZF with h | ⟨t, h⟩
    · exact ⟨none, h⟩
    · exact ⟨some t, h⟩
  let ad : Nat → Nat := fun r => if 50 ≤ r then s.heap.size + (r - 50) else if r = 1 then b else if r = 2 then tA else if r = 3 then tF.getD 0 else if r % 2 = 0 then adK ((r - 10) / 2) else adV ((r - 10) / 2)
  have eK : ∀ i, i < 16 → ad (10 + 2 * i) = adK i := fun i h => by
    show (if 50 ≤ 10 + 2 * i then _ else _) = _
    rw [if_neg (by omega), if_neg (by omega), if_neg (by omega), if_neg (by omega), if_pos (by omega)]
    congr 1; omega
  have eV : ∀ i, i < 16 → ad (11 + 2 * i) = adV i := fun i h => by
    show (if 50 ≤ 11 + 2 * i then _ else _) = _
    rw [if_neg (by omega), if_neg (by omega), if_neg (by omega), if_neg (by omega), if_neg (by omega)]
    congr 1; omega
  have hRO : gRO s.heap.size ad (L, xs) s s.heap := by
    refine ⟨hX, hbl, hZA, hA2, hZC, ⟨fun i hi => ?_, fun i j hi hj h => ?_⟩, fun i hi => ?_, hNest, hAO, ?_⟩
    · show va_O _ (ad (10 + 2 * i)) _ _ _ ∧ va_OF _ _ _ _ (ad (10 + 2 * i)) _ _ _ ∧ va_OF _ _ _ (.ref (ad (11 + 2 * i))) (ad (10 + 2 * i)) _ _ _ ∧ va_T _ (ad (11 + 2 * i)) _ _ _ _ _
      rw [eK i hi, eV i hi]
      exact hSt.1 i hi
    · exact hSt.2 i j hi hj (by rw [← eK i hi, ← eK j hj]; exact h)
    · rw [eK i hi]
      exact hR i hi
    · cases tF with
      | none => exact ⟨0, hF⟩
      | some t =>
        refine ⟨3, ?_⟩
        rw [gP_ref (by omega)]
        exact hF
  obtain ⟨σ', hlaw, hcap1, hcap2⟩ := law_true L xs hL
  have hgo := wL_law (X := (L, xs)) (d := 100) (by omega) (s0 := gsc)
  obtain ⟨hm, hw⟩ := hgo 1 σ' hlaw
  have hl := lv_entry ([.ref b]) (n := 4) (Nat.le_of_ble_eq_true rfl)
  rw [lg_entry_eq]
  generalize (lg_sl ([.ref b]) ++ List.replicate (4 - (lg_sl ([.ref b])).length) Slot.unset).toArray = ls at hl ⊢
  have hl : lv_has ls 4 (gLs ad [(0, vr 1)]) := hl
  have hHp : gHp s.heap.size ad (dC, dI) cy (L, xs) gsc s.heap := by
    refine ⟨?_, ?_, rfl, Nat.le_refl _, fun r h => absurd rfl h, fun h => absurd rfl h⟩
    · intro k q h
      simp [gW, gN, gsc] at h
    · refine ⟨fun i j p q h => ?_, fun k q h => ?_⟩
      · simp [gW, gN, gsc] at h
      · simp [gW, gN, gsc] at h
  have had : ∀ r, 50 ≤ r → ad r = s.heap.size + (r - 50) := fun r h => if_pos h
  refine hw p l e room_1 s m #[Value.ref b] below meth c s.heap [] 0 0 _ ls s.heap.size ad (dC, dI) cy 50 0 ⟨hx, hb, hml, hown, hnm, fun w h => hts w (gtb_in h), hK, hRO, had, Nat.le_refl _, Nat.le_of_ble_eq_true rfl, Nat.le_of_ble_eq_true rfl⟩ hHp va_S.rf rfl rfl hcap1 hcap2 hl ?_
  intro pc' ls' H' locs' cells' slots' hrt hh' hS' hc' hs'
  refine va_forget (fun q hq => hS'.2.2 q hq) ?_
  refine W.widen (k := 600000) (n := 7302250) (by omega) (by omega) ?_
  exact lw_ret hx hb hr hlocks hrt

