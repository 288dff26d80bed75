/-! What nobody writes: constants, statics, the row AHEAD, the String constants, the script -/
def gAl (i : Int32) : Option Int32 := if ¬ (i < 0 ∨ 13 ≤ i.toNatClampNeg) then some (gAh i.toNatClampNeg) else none
section gRd
variable {α : Type} {X : Nat × (Nat → Int32)} {rv : α → Option gv} {M : gM} {d pc : Nat} {L : List (Nat × gv)} {S : List gv} {σ : gH} {o : Option (α × gH)}
theorem go_ldc {idx : Nat} {v : Int32} (hw : Cond.constant M.1.cls idx v ∈ gTb) (hd : decode M.2.1 pc = .ok (.ldc idx, 2)) (h : gGo X rv M d (pc + 2) L (vi v :: S) σ o) : gGo X rv M d pc L S σ o :=
  gGo.read h (fun p l e R s m args below meth cd H locs cells slots Q ls B ad D cy X hc hh hS kk => lv_ldc hc.1 hc.2.1 hc.2.2.2.1 (hc.2.2.2.2.2.1 _ hw) hd kk)
theorem go_ldc2 {idx : Nat} {v : Int64} (hw : Cond.constantLong M.1.cls idx v ∈ gTb) (hd : decode M.2.1 pc = .ok (.ldc2_w idx, 3)) (h : gGo X rv M d (pc + 3) L (vl v :: S) σ o) : gGo X rv M d pc L S σ o :=
  gGo.read h (fun p l e R s m args below meth cd H locs cells slots Q ls B ad D cy X hc hh hS kk => lv_ldc2 hc.1 hc.2.1 hc.2.2.2.1 (hc.2.2.2.2.2.1 _ hw) hd kk)
theorem go_ldcS {idx i : Nat} (hi : i < 16) (hcls : M.1.cls = "FeastRules$Reader") (hix : (gSx.getD i (0, "")).1 = idx) (hd : decode M.2.1 pc = .ok (.ldc idx, 2)) (h : gGo X rv M d (pc + 2) L (vr (10 + 2 * i) :: S) σ o) : gGo X rv M d pc L S σ o :=
  gGo.read h (fun p l e R s m args below meth cd H locs cells slots Q ls B ad D cy X hc hh hS kk => by
    have hR := hc.2.2.2.2.2.2.2.1.2.2.2.2.2.2.1 i hi
    have kk : W p l e R s m args below meth cd H locs cells slots Q (F0 m (pc + 2) ls (gP ad (10 + 2 * i) :: S.map (gT ad))) := kk
    rw [gP_ref (by omega)] at kk
    rw [hix] at hR
    exact va_ldcS hc.1 hc.2.1 (own := "FeastRules$Reader") (by rw [← hcls]; exact hc.2.2.2.1) hR hd kk)
theorem go_getsA {idx : Nat} (hw : Cond.fieldLink M.1.cls idx "FeastRules$Almanac" "AHEAD" "[I" ∈ gTb) (hd : decode M.2.1 pc = .ok (.getstatic idx, 3)) (h : gGo X rv M d (pc + 3) L (vr 2 :: S) σ o) : gGo X rv M d pc L S σ o :=
  gGo.read h (fun p l e R s m args below meth cd H locs cells slots Q ls B ad D cy X hc hh hS kk => by
    have kk : W p l e R s m args below meth cd H locs cells slots Q (F0 m (pc + 3) ls (gP ad 2 :: S.map (gT ad))) := kk
    rw [gP_ref (by omega)] at kk
    exact va_gets hc.1 hc.2.1 hc.2.2.2.2.2.2.2.1.2.2.1 hS hc.2.2.2.1 (hc.2.2.2.2.2.1 _ hw) (fun x hx => hx) hd kk)
theorem go_getsC {idx : Nat} (hw : Cond.fieldLink M.1.cls idx "java/lang/String" "COMPACT_STRINGS" "Z" ∈ gTb) (hd : decode M.2.1 pc = .ok (.getstatic idx, 3)) (h : gGo X rv M d (pc + 3) L (vi 1 :: S) σ o) : gGo X rv M d pc L S σ o :=
  gGo.read h (fun p l e R s m args below meth cd H locs cells slots Q ls B ad D cy X hc hh hS kk => va_gets hc.1 hc.2.1 hc.2.2.2.2.2.2.2.1.2.2.2.2.1 hS hc.2.2.2.1 (hc.2.2.2.2.2.1 _ hw) (fun x hx => hx) hd kk)
theorem go_getsF {idx : Nat} (hw : Cond.fieldLink M.1.cls idx "jdk/internal/util/Preconditions" "SIOOBE_FORMATTER" "Ljava/util/function/BiFunction;" ∈ gTb) (hd : decode M.2.1 pc = .ok (.getstatic idx, 3)) (h : ∀ F, gGo X rv M d (pc + 3) L (vr F :: S) σ o) : gGo X rv M d pc L S σ o := by
  intro r σ' ho
  refine ⟨(h 0 r σ' ho).1, fun p l e R s m args below meth c H locs cells slots Q ls B ad D cy n0 q0 hc hh hS h1 h2 h3 h4 hl hq => ?_⟩
  obtain ⟨F, hF⟩ := hc.2.2.2.2.2.2.2.1.2.2.2.2.2.2.2.2.2
  exact va_gets hc.1 hc.2.1 hF hS hc.2.2.2.1 (hc.2.2.2.2.2.1 _ hw) (fun x hx => hx) hd ((h F r σ' ho).2 p l e R s m args below meth c H locs cells slots Q ls B ad D cy n0 q0 hc hh hS h1 h2 h3 h4 hl hq)
theorem go_ahead {i : Int32} {K : Int32 → Option (α × gH)} (hd : decode M.2.1 pc = .ok (.iaload, 1)) (h : ∀ v, gAl i = some v → gGo X rv M d (pc + 1) L (vi v :: S) σ (K v)) : gGo X rv M d pc L (vi i :: vr 2 :: S) σ ((gAl i).bind K) := by
  unfold gAl at h ⊢
  by_cases hg : ¬ (i < 0 ∨ 13 ≤ i.toNatClampNeg)
  · rw [if_pos hg] at h ⊢
    refine gGo.read (h _ rfl) (fun p l e R s m args below meth cd H locs cells slots Q ls B ad D cy X hc hh hS kk => ?_)
    show W p l e R s m args below meth cd H locs cells slots Q (F0 m pc ls (.int i :: gP ad 2 :: S.map (gT ad)))
    rw [gP_ref (by omega)]
    exact va_ti hc.1 hc.2.1 hc.2.2.2.2.2.2.2.1.2.2.2.1 hS hg rfl hd kk
  · rw [if_neg hg]; exact go_none
theorem go_aheadlen (hd : decode M.2.1 pc = .ok (.arraylength, 1)) (h : gGo X rv M d (pc + 1) L (vi 13 :: S) σ o) : gGo X rv M d pc L (vr 2 :: S) σ o :=
  gGo.read h (fun p l e R s m args below meth cd H locs cells slots Q ls B ad D cy X hc hh hS kk => by
    show W p l e R s m args below meth cd H locs cells slots Q (F0 m pc ls (gP ad 2 :: S.map (gT ad)))
    rw [gP_ref (by omega)]
    exact va_tlen hc.1 hc.2.1 hc.2.2.2.2.2.2.2.1.2.2.2.1 hS rfl hd kk)
/-- fields of the String constants, and their bytes -/
theorem go_strV {idx i : Nat} (hi : i < 16) (hw : Cond.fieldLink M.1.cls idx "java/lang/String" "value" "[B" ∈ gTb) (hd : decode M.2.1 pc = .ok (.getfield idx, 3)) (h : gGo X rv M d (pc + 3) L (vr (11 + 2 * i) :: S) σ o) : gGo X rv M d pc L (vr (10 + 2 * i) :: S) σ o :=
  gGo.read h (fun p l e R s m args below meth cd H locs cells slots Q ls B ad D cy X hc hh hS kk => by
    have hV := (hc.2.2.2.2.2.2.2.1.2.2.2.2.2.1.1 i hi).2.2.1
    obtain ⟨cf, k, fi, f, cell, h1, h2, h3, h4, h5, h6⟩ := hV.kept hS.2.1
    have kk : W p l e R s m args below meth cd H locs cells slots Q (F0 m (pc + 3) ls (gP ad (11 + 2 * i) :: S.map (gT ad))) := kk
    rw [gP_ref (by omega)] at kk
    show W p l e R s m args below meth cd H locs cells slots Q (F0 m pc ls (gP ad (10 + 2 * i) :: S.map (gT ad)))
    rw [gP_ref (by omega)]
    exact W.getf hc.1 hc.2.1 hc.2.2.2.1 (hc.2.2.2.2.2.1 _ hw) h1 h2 h3 h4 h5 rfl rfl hd kk)
theorem go_strC {idx i : Nat} (hi : i < 16) (hw : Cond.fieldLink M.1.cls idx "java/lang/String" "coder" "B" ∈ gTb) (hd : decode M.2.1 pc = .ok (.getfield idx, 3)) (h : gGo X rv M d (pc + 3) L (vi 0 :: S) σ o) : gGo X rv M d pc L (vr (10 + 2 * i) :: S) σ o :=
  gGo.read h (fun p l e R s m args below meth cd H locs cells slots Q ls B ad D cy X hc hh hS kk => by
    have hV := (hc.2.2.2.2.2.2.2.1.2.2.2.2.2.1.1 i hi).2.1
    obtain ⟨cf, k, fi, f, cell, h1, h2, h3, h4, h5, h6⟩ := hV.kept hS.2.1
    show W p l e R s m args below meth cd H locs cells slots Q (F0 m pc ls (gP ad (10 + 2 * i) :: S.map (gT ad)))
    rw [gP_ref (by omega)]
    exact W.getf hc.1 hc.2.1 hc.2.2.2.1 (hc.2.2.2.2.2.1 _ hw) h1 h2 h3 h4 h5 rfl rfl hd kk)
theorem go_strL {i : Nat} (hi : i < 16) (hd : decode M.2.1 pc = .ok (.arraylength, 1)) (h : gGo X rv M d (pc + 1) L (vi (Int32.ofNat (gSl.getD i 0)) :: S) σ o) : gGo X rv M d pc L (vr (11 + 2 * i) :: S) σ o :=
  gGo.read h (fun p l e R s m args below meth cd H locs cells slots Q ls B ad D cy X hc hh hS kk => by
    have hV := (hc.2.2.2.2.2.2.2.1.2.2.2.2.2.1.1 i hi).2.2.2
    show W p l e R s m args below meth cd H locs cells slots Q (F0 m pc ls (gP ad (11 + 2 * i) :: S.map (gT ad)))
    rw [gP_ref (by omega)]
    exact va_tlen hc.1 hc.2.1 hV hS rfl hd kk)
theorem go_strB {i : Nat} {j : Int32} (hi : i < 16) (hj : vp_in j (gSl.getD i 0)) (hd : decode M.2.1 pc = .ok (.baload, 1)) (h : gGo X rv M d (pc + 1) L (vi ((gSb.getD i []).getD j.toNatClampNeg 0) :: S) σ o) : gGo X rv M d pc L (vi j :: vr (11 + 2 * i) :: S) σ o :=
  gGo.read h (fun p l e R s m args below meth cd H locs cells slots Q ls B ad D cy X hc hh hS kk => by
    have hV := (hc.2.2.2.2.2.2.2.1.2.2.2.2.2.1.1 i hi).2.2.2
    show W p l e R s m args below meth cd H locs cells slots Q (F0 m pc ls (.int j :: gP ad (11 + 2 * i) :: S.map (gT ad)))
    rw [gP_ref (by omega)]
    exact va_tb hc.1 hc.2.1 hV hS hj rfl hd kk)
/-- Object.<init> -/
theorem go_obj {idx a : Nat} (ha : a ≠ 0) (h1 : Cond.methodLink M.1.cls idx Lib.objectInit ∈ gTb) (h2 : Cond.instanceMethod Lib.objectInit ∈ gTb) (h3 : Cond.code Lib.objectInit ⟨#[0xb1]⟩ 1 none ∈ gTb) (h8 : gcs S ≤ 8) (hd : decode M.2.1 pc = .ok (.invokespecial idx, 3)) (h : gGo X rv M d (pc + 3) L S σ o) : gGo X rv M d pc L (vr a :: S) σ o := by
  intro r σ' ho
  obtain ⟨hm, hw⟩ := h r σ' ho
  refine ⟨hm, fun p l e R s m args below meth c H locs cells slots Q ls B ad D cy n0 q0 hc hh hS g1 g2 g3 g4 hl hq => ?_⟩
  have hfr := hc.2.2.2.2.2.2.2.2.2.2.1
  have hlo := hc.2.2.2.2.2.2.2.2.2.2.2
  show W p l e R s m args below meth c H locs cells slots Q (F0 m pc ls (gP ad a :: S.map (gT ad)))
  rw [gP_ref ha]
  exact W.objInit hc.1 hc.2.1 hc.2.2.2.1 (hc.2.2.2.2.2.1 _ h1) (hc.2.2.2.2.2.1 _ h2) (hc.2.2.2.2.2.1 _ h3) rfl (by rw [hc.2.2.1]; exact hl.1) rfl hd (by omega) (by show 2 * 0 + _ + 12 ≤ _; rw [gcs_ls]; omega) (hw p l e R s m args below meth c H locs cells slots Q ls B ad D cy n0 q0 hc hh hS g1 g2 g3 g4 hl hq)
/-- a String constant as receiver -/
theorem go_callVS {β : Type} {rv' : β → Option gv} {M' : gM} {n d' idx i : Nat} {St as : List gv} {o : Option (β × gH)} {K : β → gH → Option (α × gH)} (hi : i < 16) (hV : gVL M.1.cls idx M') (hcls : M'.1.cls = "java/lang/String") (hF : gMF M' n) (hdd : d' + 1 ≤ d) (hn : as.length = n) (hst : St = as.reverse ++ vr (10 + 2 * i) :: S) (h8 : gcs S ≤ 8) (hd : decode M.2.1 pc = .ok (.invokevirtual idx, 3)) (hM : ∀ r σ1, o = some (r, σ1) → gMt M' d' (vr (10 + 2 * i) :: as) σ (rv' r) σ1) (h : ∀ r σ1, o = some (r, σ1) → gGo X rv M d (pc + 3) L ((rv' r).toList ++ S) σ1 (K r σ1)) : gGo X rv M d pc L St σ (o.bind fun q => K q.1 q.2) := by
  refine go_call (fun p l e R s m args below meth cd H locs cells slots ls B ad D cy X rm mc ms r σ1 hc hh hSS hls hrc hrs hR1 hR2 hf1 hf2 hMet hp => ?_) hdd hF.2.2.2 hM h
  obtain ⟨hx, hb, hml, hown, hnm, hts, hK, hRO, had, hB, -⟩ := hc
  have e0 : (vr (10 + 2 * i) :: as).map (gT ad) = .ref (ad (10 + 2 * i)) :: as.map (gT ad) := by
    show gP ad _ :: _ = _
    rw [gP_ref (by omega)]
  rw [e0] at hp hMet ⊢
  refine va_runV (As := as.map (gT ad)) (rest := S.map (gT ad)) (Ts := gTb) ⟨hx, hb, hml, hown, hts⟩ hMet ⟨callB_of n hts (gGood hF) rfl hrc hrs (hts _ hF.2.1) (hts _ hV.1) hF.2.2.1 ⟨hR1, hR2⟩, hts _ hV.2.1, hts _ hV.2.2⟩ ⟨hp.1, ?_, hp.2⟩ rfl (by simp [hn]) hls ?_ (lv_room (by rw [gcs_ls]; exact h8)) hd ⟨hf1, hf2⟩
  · obtain ⟨cell, g1, g2, g3, -⟩ := (hRO.2.2.2.2.2.1.1 i hi).1.kept hSS.2.1
    exact ⟨cell, g1, g2, by rw [hcls]; exact g3⟩
  · rw [hst]
    show List.map _ _ = _
    rw [List.map_append, List.map_reverse]
    show _ ++ gP ad _ :: _ = _
    rw [gP_ref (by omega)]
/-- the script -/
def gXl (σ : gH) (i : Int32) : Option Int32 := if gLn σ 0 ≠ 0 ∧ ¬ (i < 0 ∨ gLn σ 1 ≤ i.toNatClampNeg) then some (gI σ 1 i.toNatClampNeg) else none
def gXn (σ : gH) : Option Int32 := if gLn σ 0 ≠ 0 then some (Int32.ofNat (gLn σ 1)) else none
theorem go_sld {i : Int32} {K : Int32 → Option (α × gH)} (hd : decode M.2.1 pc = .ok (.iaload, 1)) (h : ∀ v, gXl σ i = some v → gGo X rv M d (pc + 1) L (vi v :: S) σ (K v)) : gGo X rv M d pc L (vi i :: vr 1 :: S) σ ((gXl σ i).bind K) := by
  unfold gXl at h ⊢
  by_cases hg : gLn σ 0 ≠ 0 ∧ ¬ (i < 0 ∨ gLn σ 1 ≤ i.toNatClampNeg)
  · rw [if_pos hg] at h ⊢
    obtain ⟨hf, hg⟩ := hg
    refine gGo.read (h _ rfl) (fun p l e R s m args below meth cd H locs cells slots Q ls B ad D cy X hc hh hS kk => ?_)
    obtain ⟨hX, hb1, -⟩ := hc.2.2.2.2.2.2.2.1
    obtain ⟨e1, e2⟩ := hh.2.2.2.2.2 hf
    show W p l e R s m args below meth cd H locs cells slots Q (F0 m pc ls (.int i :: gP ad 1 :: S.map (gT ad)))
    rw [gP_ref (by omega)]
    rw [← e1] at hg
    have hB := hc.2.2.2.2.2.2.2.2.2.1
    refine va_sld hc.1 hc.2.1 hX (by omega) (by show ¬ B ≤ ad 1; omega) hS hg hd ?_
    rw [e2]
    exact kk
  · rw [if_neg hg]; exact go_none
theorem go_slen {K : Int32 → Option (α × gH)} (hd : decode M.2.1 pc = .ok (.arraylength, 1)) (h : ∀ v, gXn σ = some v → gGo X rv M d (pc + 1) L (vi v :: S) σ (K v)) : gGo X rv M d pc L (vr 1 :: S) σ ((gXn σ).bind K) := by
  unfold gXn at h ⊢
  by_cases hf : gLn σ 0 ≠ 0
  · rw [if_pos hf] at h ⊢
    refine gGo.read (h _ rfl) (fun p l e R s m args below meth cd H locs cells slots Q ls B ad D cy X hc hh hS kk => ?_)
    obtain ⟨hX, hb1, -⟩ := hc.2.2.2.2.2.2.2.1
    obtain ⟨e1, e2⟩ := hh.2.2.2.2.2 hf
    show W p l e R s m args below meth cd H locs cells slots Q (F0 m pc ls (gP ad 1 :: S.map (gT ad)))
    rw [gP_ref (by omega)]
    have hB := hc.2.2.2.2.2.2.2.2.2.1
    refine va_slen hc.1 hc.2.1 hX (by omega) (by show ¬ B ≤ ad 1; omega) hS hd ?_
    rw [e1]
    exact kk
  · rw [if_neg hf]; exact go_none
/-- from here on the script is seen -/
def gsX (X : Nat × (Nat → Int32)) (σ : gH) : gH := (σ.1, fun r => if r = 0 then 1 else if r = 1 then X.1 else gLn σ r, fun r j => if r = 1 then X.2 j else gI σ r j, σ.2.2.2)
theorem go_ghost (h : gGo X rv M d pc L S (gsX X σ) o) : gGo X rv M d pc L S σ o := by
  intro r σ' ho
  obtain ⟨hm, hw⟩ := h r σ' ho
  refine ⟨hm, fun p l e R s m args below meth c H locs cells slots Q ls B ad D cy n0 q0 hc hh hS h1 h2 h3 h4 hl hq => ?_⟩
  refine hw p l e R s m args below meth c H locs cells slots Q ls B ad D cy n0 q0 hc ?_ hS h1 h2 h3 h4 hl hq
  have hE : ∀ r, 50 ≤ r → gE ad cy (gsX X σ) r = gE ad cy σ r := by
    intro r hr
    have k2 : gLn (gsX X σ) r = gLn σ r := by simp only [gLn, gsX]; rw [if_neg (by omega), if_neg (by omega)]
    have k3 : gI (gsX X σ) r = gI σ r := by funext j; simp only [gI, gsX]; rw [if_neg (by omega)]
    have e2 : ∀ c, gfs ad (gsX X σ) r c = gfs ad σ r c := fun c => by
      unfold gfs; congr 1; funext j; unfold gfv; rw [k3]; rfl
    have e3 : ∀ t, garr ad (gsX X σ) r t = garr ad σ r t := fun t => by unfold garr; rw [k3]; rfl
    unfold gE
    rw [k2, e2, e3]
    rfl
  have hWe : gW ad cy (gsX X σ) = gW ad cy σ := by
    unfold gW
    apply List.map_congr_left
    intro i _
    rw [hE (i + 50) (by omega)]
  obtain ⟨hP, hD, hz, h50, hlive, -⟩ := hh
  exact ⟨by rw [hWe]; exact hP, by rw [hWe]; exact hD, hz, h50, hlive, fun _ => ⟨rfl, rfl⟩⟩
end gRd
