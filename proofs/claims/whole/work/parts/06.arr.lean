/-! MEMORY: arrays -/
section gArr
variable {α : Type} {X : Nat × (Nat → Int32)} {rv : α → Option gv} {M : gM} {d pc : Nat} {L : List (Nat × gv)} {S : List gv} {σ : gH} {o : Option (α × gH)}
theorem go_baload {a : Nat} {i : Int32} {K : Int32 → Option (α × gH)} (hd : decode M.2.1 pc = .ok (.baload, 1)) (h : ∀ v, gaI σ a 0 i = some v → gGo X rv M d (pc + 1) L (vi v :: S) σ (K v)) : gGo X rv M d pc L (vi i :: vr a :: S) σ ((gaI σ a 0 i).bind K) := by
  unfold gaI at h ⊢
  by_cases hg : gK σ a = 20 + 0 ∧ ¬ (i < 0 ∨ gLn σ a ≤ i.toNatClampNeg)
  · rw [if_pos hg] at h ⊢
    have hk := hg.1
    refine gGo.read (h _ rfl) (fun p l e R s m args below meth cd H locs cells slots Q ls B ad D cy X hc hh hS kk => ?_)
    obtain ⟨hx, hb, hml, hown, hnm, hts, hK, hRO, had, hB, -⟩ := hc
    obtain ⟨hP, hD, hz, h50, hlive, hXX⟩ := hh
    obtain ⟨ha1, ha2⟩ := hlive a (by omega)
    have hpl := gW_at (ad := ad) (cy := cy) ha1 ha2
    rw [gE_arr hk] at hpl
    show W p l e R s m args below meth cd H locs cells slots Q (F0 m pc ls (.int i :: gP ad a :: S.map (gT ad)))
    rw [gP_ref (by omega)]
    exact va_bald (f := gI σ a) hx hb hK hP (a - 50) 0 hpl rfl hg.2 hd kk
  · rw [if_neg hg]; exact go_none
theorem go_caload {a : Nat} {i : Int32} {K : Int32 → Option (α × gH)} (hd : decode M.2.1 pc = .ok (.caload, 1)) (h : ∀ v, gaI σ a 1 i = some v → gGo X rv M d (pc + 1) L (vi v :: S) σ (K v)) : gGo X rv M d pc L (vi i :: vr a :: S) σ ((gaI σ a 1 i).bind K) := by
  unfold gaI at h ⊢
  by_cases hg : gK σ a = 20 + 1 ∧ ¬ (i < 0 ∨ gLn σ a ≤ i.toNatClampNeg)
  · rw [if_pos hg] at h ⊢
    have hk := hg.1
    refine gGo.read (h _ rfl) (fun p l e R s m args below meth cd H locs cells slots Q ls B ad D cy X hc hh hS kk => ?_)
    obtain ⟨hx, hb, hml, hown, hnm, hts, hK, hRO, had, hB, -⟩ := hc
    obtain ⟨hP, hD, hz, h50, hlive, hXX⟩ := hh
    obtain ⟨ha1, ha2⟩ := hlive a (by omega)
    have hpl := gW_at (ad := ad) (cy := cy) ha1 ha2
    rw [gE_arr hk] at hpl
    show W p l e R s m args below meth cd H locs cells slots Q (F0 m pc ls (.int i :: gP ad a :: S.map (gT ad)))
    rw [gP_ref (by omega)]
    exact va_cald (f := gI σ a) hx hb hK hP (a - 50) 1 hpl rfl hg.2 hd kk
  · rw [if_neg hg]; exact go_none
theorem go_iaload {a : Nat} {i : Int32} {K : Int32 → Option (α × gH)} (hd : decode M.2.1 pc = .ok (.iaload, 1)) (h : ∀ v, gaI σ a 2 i = some v → gGo X rv M d (pc + 1) L (vi v :: S) σ (K v)) : gGo X rv M d pc L (vi i :: vr a :: S) σ ((gaI σ a 2 i).bind K) := by
  unfold gaI at h ⊢
  by_cases hg : gK σ a = 20 + 2 ∧ ¬ (i < 0 ∨ gLn σ a ≤ i.toNatClampNeg)
  · rw [if_pos hg] at h ⊢
    have hk := hg.1
    refine gGo.read (h _ rfl) (fun p l e R s m args below meth cd H locs cells slots Q ls B ad D cy X hc hh hS kk => ?_)
    obtain ⟨hx, hb, hml, hown, hnm, hts, hK, hRO, had, hB, -⟩ := hc
    obtain ⟨hP, hD, hz, h50, hlive, hXX⟩ := hh
    obtain ⟨ha1, ha2⟩ := hlive a (by omega)
    have hpl := gW_at (ad := ad) (cy := cy) ha1 ha2
    rw [gE_arr hk] at hpl
    show W p l e R s m args below meth cd H locs cells slots Q (F0 m pc ls (.int i :: gP ad a :: S.map (gT ad)))
    rw [gP_ref (by omega)]
    exact va_iald (f := gI σ a) hx hb hK hP (a - 50) 2 hpl rfl hg.2 hd kk
  · rw [if_neg hg]; exact go_none
theorem go_zaload {a : Nat} {i : Int32} {K : Int32 → Option (α × gH)} (hd : decode M.2.1 pc = .ok (.baload, 1)) (h : ∀ v, gaI σ a 4 i = some v → gGo X rv M d (pc + 1) L (vi v :: S) σ (K v)) : gGo X rv M d pc L (vi i :: vr a :: S) σ ((gaI σ a 4 i).bind K) := by
  unfold gaI at h ⊢
  by_cases hg : gK σ a = 20 + 4 ∧ ¬ (i < 0 ∨ gLn σ a ≤ i.toNatClampNeg)
  · rw [if_pos hg] at h ⊢
    have hk := hg.1
    refine gGo.read (h _ rfl) (fun p l e R s m args below meth cd H locs cells slots Q ls B ad D cy X hc hh hS kk => ?_)
    obtain ⟨hx, hb, hml, hown, hnm, hts, hK, hRO, had, hB, -⟩ := hc
    obtain ⟨hP, hD, hz, h50, hlive, hXX⟩ := hh
    obtain ⟨ha1, ha2⟩ := hlive a (by omega)
    have hpl := gW_at (ad := ad) (cy := cy) ha1 ha2
    rw [gE_arr hk] at hpl
    show W p l e R s m args below meth cd H locs cells slots Q (F0 m pc ls (.int i :: gP ad a :: S.map (gT ad)))
    rw [gP_ref (by omega)]
    exact va_zald (f := gI σ a) hx hb hK hP (a - 50) 4 hpl rfl hg.2 hd kk
  · rw [if_neg hg]; exact go_none
theorem go_laload {a : Nat} {i : Int32} {K : Int64 → Option (α × gH)} (hd : decode M.2.1 pc = .ok (.laload, 1)) (h : ∀ v, gaJ σ a i = some v → gGo X rv M d (pc + 1) L (vl v :: S) σ (K v)) : gGo X rv M d pc L (vi i :: vr a :: S) σ ((gaJ σ a i).bind K) := by
  unfold gaJ at h ⊢
  by_cases hg : gK σ a = 20 + 3 ∧ ¬ (i < 0 ∨ gLn σ a ≤ i.toNatClampNeg)
  · rw [if_pos hg] at h ⊢
    have hk := hg.1
    refine gGo.read (h _ rfl) (fun p l e R s m args below meth cd H locs cells slots Q ls B ad D cy X hc hh hS kk => ?_)
    obtain ⟨hx, hb, hml, hown, hnm, hts, hK, hRO, had, hB, -⟩ := hc
    obtain ⟨hP, hD, hz, h50, hlive, hXX⟩ := hh
    obtain ⟨ha1, ha2⟩ := hlive a (by omega)
    have hpl := gW_at (ad := ad) (cy := cy) ha1 ha2
    rw [gE_arr hk] at hpl
    show W p l e R s m args below meth cd H locs cells slots Q (F0 m pc ls (.int i :: gP ad a :: S.map (gT ad)))
    rw [gP_ref (by omega)]
    exact va_lald (f := gJ σ a) hx hb hK hP (a - 50) 3 hpl rfl hg.2 hd kk
  · rw [if_neg hg]; exact go_none
theorem go_aaload {a t : Nat} {i : Int32} {K : Nat → Option (α × gH)} (ht5 : 5 ≤ t) (ht8 : t < 8) (hd : decode M.2.1 pc = .ok (.aaload, 1)) (h : ∀ v, gaR σ a t i = some v → gGo X rv M d (pc + 1) L (vr v :: S) σ (K v)) : gGo X rv M d pc L (vi i :: vr a :: S) σ ((gaR σ a t i).bind K) := by
  unfold gaR at h ⊢
  by_cases hg : gK σ a = 20 + t ∧ ¬ (i < 0 ∨ gLn σ a ≤ i.toNatClampNeg)
  · rw [if_pos hg] at h ⊢
    have hk := hg.1
    refine gGo.read (h _ rfl) (fun p l e R s m args below meth cd H locs cells slots Q ls B ad D cy X hc hh hS kk => ?_)
    obtain ⟨hx, hb, hml, hown, hnm, hts, hK, hRO, had, hB, -⟩ := hc
    obtain ⟨hP, hD, hz, h50, hlive, hXX⟩ := hh
    obtain ⟨ha1, ha2⟩ := hlive a (by omega)
    have hpl := gW_at (ad := ad) (cy := cy) ha1 ha2
    rw [gE_arr hk] at hpl
    rw [show garr ad σ a t = .inr (.inr (.inr (.inr fun j => gO ad (gR σ a j)))) by unfold garr; rw [if_neg (by omega), if_neg (by omega)]] at hpl
    have kk : W p l e R s m args below meth cd H locs cells slots Q (F0 m (pc + 1) ls (va_rf (gO ad (gR σ a i.toNatClampNeg)) :: S.map (gT ad))) := by
      rw [gP_rf]; exact kk
    show W p l e R s m args below meth cd H locs cells slots Q (F0 m pc ls (.int i :: gP ad a :: S.map (gT ad)))
    rw [gP_ref (by omega)]
    have hty : (gTy cy)[t]? = some (cy t, .object (gCn t)) := by
      rcases (show t = 5 ∨ t = 6 ∨ t = 7 by omega) with rfl | rfl | rfl <;> rfl
    exact va_aldq hx hb hK hP (a - 50) t hpl hty hg.2 hd kk
  · rw [if_neg hg]; exact go_none
/-- a store into an array -/
theorem go_ast {a t j : Nat} {σ1 : gH} {S' : List gv} (hk : gK σ a = 20 + t) (hN : gN σ1 = gN σ) (hQ : gQ σ1 = gQ σ) (hKs : ∀ r, gK σ1 r = gK σ r) (hLs : ∀ r, gLn σ1 r = gLn σ r) (he : ∀ ad cy r, r ≠ a → gE ad cy σ1 r = gE ad cy σ r) (hX : a ≠ 1 → gLn σ1 = gLn σ ∧ gI σ1 1 = gI σ 1) (h : gGo X rv M d (pc + 1) L S σ1 o)
    (hs : ∀ (p : Program) (l : Launch) (e : Env) (R : Room) (s : State) (m : MethodId) (args : Array Value) (below : List Frame) (meth : Method) (c : Code) (H : Heap) (locs : List Loc) (cells slots : Nat) (Q : State → Prop) (ls : Array Slot) (B : Nat) (ad : Nat → Nat) (D : va_G) (cy : Nat → ClassId) (X : Nat × (Nat → Int32)), gCx M d p R s m args meth c B ad D cy X → gHp B ad D cy X σ H → a ≠ 0 → H[ad a]? = some (vp_cell (cy t) (gLn σ a, garr ad σ a t)) → (∀ H1 : Heap, H1[ad a]? = some (vp_cell (cy t) (gLn σ a, garr ad σ1 a t)) → H1.size = H.size → (∀ q, q ≠ ad a → H1[q]? = H[q]?) → W p l e R s m args below meth c H1 (locs ++ [⟨ad a, j⟩]) cells slots Q (F0 m (pc + 1) ls (S.map (gT ad)))) → W p l e R s m args below meth c H locs cells slots Q (F0 m pc ls (S'.map (gT ad)))) : gGo X rv M d pc L S' σ o := by
  refine gGo.write hN hQ h (fun p l e R s m args below meth cd H locs cells slots Q ls B ad D cy X hc hh hS kk => ?_)
  have ha0 : gK σ a ≠ 0 := by omega
  have hat := hh.at ha0
  have ha50 := (hh.2.2.2.2.1 a ha0).1
  rw [gE_arr hk] at hat
  refine hs p l e R s m args below meth cd H locs cells slots Q ls B ad D cy X hc hh (by omega) hat (fun H1 e1 e2 e3 => ?_)
  refine kk H1 _ (hh.put ha0 hN hKs (he ad cy) ?_ e2 e3 hX) (hS.put e2 e3 (hh.in ha0))
  rw [gE_arr (by rw [hKs]; exact hk), hLs]
  exact e1
theorem gI_self (σ : gH) (a i : Nat) (x : Int32) : gI (uI σ a i x) a = upd (gI σ a) i x := by
  funext j
  simp [gI, uI, gup, upd]
theorem gJ_self (σ : gH) (a i : Nat) (x : Int64) : gJ (uJ σ a i x) a = fun j => if j = i then x else gJ σ a j := by
  funext j
  simp [gJ, uJ, gup]
theorem gR_self (σ : gH) (a i : Nat) (x : Nat) : gR (uR σ a i x) a = fun j => if j = i then x else gR σ a j := by
  funext j
  simp [gR, uR, gup]
theorem go_bastore {a : Nat} {i x : Int32} {K : gH → Option (α × gH)} (hd : decode M.2.1 pc = .ok (.bastore, 1)) (h : ∀ σ1, saI σ a 0 i x = some σ1 → gGo X rv M d (pc + 1) L S σ1 (K σ1)) : gGo X rv M d pc L (vi x :: vi i :: vr a :: S) σ ((saI σ a 0 i x).bind K) := by
  unfold saI at h ⊢
  by_cases hg : gK σ a = 20 + 0 ∧ ¬ (i < 0 ∨ gLn σ a ≤ i.toNatClampNeg)
  · rw [if_pos hg] at h ⊢
    refine go_ast (σ1 := uI σ a i.toNatClampNeg (gnar 0 x)) (t := 0) (j := i.toNatClampNeg) hg.1 rfl rfl (fun _ => rfl) (fun _ => rfl) (fun ad cy r hr => gE_uI ad cy σ a _ _ r hr) (gX_uI σ a _ _) (h _ rfl) (fun p l e R s m args below meth cd H locs cells slots Q ls B ad D cy X hc hh ha0 hat kk => ?_)
    show W p l e R s m args below meth cd H locs cells slots Q (F0 m pc ls (.int x :: .int i :: gP ad a :: S.map (gT ad)))
    rw [gP_ref ha0]
    refine W.bast hc.1 hc.2.1 hat ((hc.2.2.2.2.2.2.1.2 0 (cy 0, .byte) rfl).1 (gLn σ a) (fun j => .int (gI σ a j))) (fun q => by cases q) (by show ¬ (i < 0 ∨ (arrV _ _ _).slots.size ≤ _); rw [arrV_size]; exact hg.2) rfl rfl hd fun H1 e1 e2 e3 => ?_
    refine kk H1 ?_ e2 e3
    rw [e1]
    rw [show garr ad σ a 0 = .inl (gI σ a) from rfl, show garr ad (uI σ a i.toNatClampNeg (gnar 0 x)) a 0 = .inl (gI (uI σ a i.toNatClampNeg (gnar 0 x)) a) from rfl, vp_cell_i, vp_cell_i, arrV_store]
    congr 2
    funext q
    show updV _ _ _ q = Value.int (gI (uI σ a i.toNatClampNeg _) a q)
    rw [gI_self]
    by_cases hq : q = i.toNatClampNeg
    · subst hq
      simp [updV, upd, gnar, vp_nar]
      try rfl
    · simp [updV, upd, hq]
  · rw [if_neg hg]; exact go_none
theorem go_castore {a : Nat} {i x : Int32} {K : gH → Option (α × gH)} (hd : decode M.2.1 pc = .ok (.castore, 1)) (h : ∀ σ1, saI σ a 1 i x = some σ1 → gGo X rv M d (pc + 1) L S σ1 (K σ1)) : gGo X rv M d pc L (vi x :: vi i :: vr a :: S) σ ((saI σ a 1 i x).bind K) := by
  unfold saI at h ⊢
  by_cases hg : gK σ a = 20 + 1 ∧ ¬ (i < 0 ∨ gLn σ a ≤ i.toNatClampNeg)
  · rw [if_pos hg] at h ⊢
    refine go_ast (σ1 := uI σ a i.toNatClampNeg (gnar 1 x)) (t := 1) (j := i.toNatClampNeg) hg.1 rfl rfl (fun _ => rfl) (fun _ => rfl) (fun ad cy r hr => gE_uI ad cy σ a _ _ r hr) (gX_uI σ a _ _) (h _ rfl) (fun p l e R s m args below meth cd H locs cells slots Q ls B ad D cy X hc hh ha0 hat kk => ?_)
    show W p l e R s m args below meth cd H locs cells slots Q (F0 m pc ls (.int x :: .int i :: gP ad a :: S.map (gT ad)))
    rw [gP_ref ha0]
    refine W.cast hc.1 hc.2.1 hat ((hc.2.2.2.2.2.2.1.2 1 (cy 1, .char) rfl).1 (gLn σ a) (fun j => .int (gI σ a j))) (fun q => by cases q) (by show ¬ (i < 0 ∨ (arrV _ _ _).slots.size ≤ _); rw [arrV_size]; exact hg.2) rfl rfl hd fun H1 e1 e2 e3 => ?_
    refine kk H1 ?_ e2 e3
    rw [e1]
    rw [show garr ad σ a 1 = .inl (gI σ a) from rfl, show garr ad (uI σ a i.toNatClampNeg (gnar 1 x)) a 1 = .inl (gI (uI σ a i.toNatClampNeg (gnar 1 x)) a) from rfl, vp_cell_i, vp_cell_i, arrV_store]
    congr 2
    funext q
    show updV _ _ _ q = Value.int (gI (uI σ a i.toNatClampNeg _) a q)
    rw [gI_self]
    by_cases hq : q = i.toNatClampNeg
    · subst hq
      simp [updV, upd, gnar, vp_nar]
      try rfl
    · simp [updV, upd, hq]
  · rw [if_neg hg]; exact go_none
theorem go_iastore {a : Nat} {i x : Int32} {K : gH → Option (α × gH)} (hd : decode M.2.1 pc = .ok (.iastore, 1)) (h : ∀ σ1, saI σ a 2 i x = some σ1 → gGo X rv M d (pc + 1) L S σ1 (K σ1)) : gGo X rv M d pc L (vi x :: vi i :: vr a :: S) σ ((saI σ a 2 i x).bind K) := by
  unfold saI at h ⊢
  by_cases hg : gK σ a = 20 + 2 ∧ ¬ (i < 0 ∨ gLn σ a ≤ i.toNatClampNeg)
  · rw [if_pos hg] at h ⊢
    refine go_ast (σ1 := uI σ a i.toNatClampNeg (gnar 2 x)) (t := 2) (j := i.toNatClampNeg) hg.1 rfl rfl (fun _ => rfl) (fun _ => rfl) (fun ad cy r hr => gE_uI ad cy σ a _ _ r hr) (gX_uI σ a _ _) (h _ rfl) (fun p l e R s m args below meth cd H locs cells slots Q ls B ad D cy X hc hh ha0 hat kk => ?_)
    show W p l e R s m args below meth cd H locs cells slots Q (F0 m pc ls (.int x :: .int i :: gP ad a :: S.map (gT ad)))
    rw [gP_ref ha0]
    refine W.iast hc.1 hc.2.1 hat ((hc.2.2.2.2.2.2.1.2 2 (cy 2, .int) rfl).1 (gLn σ a) (fun j => .int (gI σ a j))) (fun q => by cases q) (by show ¬ (i < 0 ∨ (arrV _ _ _).slots.size ≤ _); rw [arrV_size]; exact hg.2) rfl rfl hd fun H1 e1 e2 e3 => ?_
    refine kk H1 ?_ e2 e3
    rw [e1]
    rw [show garr ad σ a 2 = .inl (gI σ a) from rfl, show garr ad (uI σ a i.toNatClampNeg (gnar 2 x)) a 2 = .inl (gI (uI σ a i.toNatClampNeg (gnar 2 x)) a) from rfl, vp_cell_i, vp_cell_i, arrV_store]
    congr 2
    funext q
    show updV _ _ _ q = Value.int (gI (uI σ a i.toNatClampNeg _) a q)
    rw [gI_self]
    by_cases hq : q = i.toNatClampNeg
    · subst hq
      simp [updV, upd, gnar, vp_nar]
      try rfl
    · simp [updV, upd, hq]
  · rw [if_neg hg]; exact go_none
theorem go_zastore {a : Nat} {i x : Int32} {K : gH → Option (α × gH)} (hd : decode M.2.1 pc = .ok (.bastore, 1)) (h : ∀ σ1, saI σ a 4 i x = some σ1 → gGo X rv M d (pc + 1) L S σ1 (K σ1)) : gGo X rv M d pc L (vi x :: vi i :: vr a :: S) σ ((saI σ a 4 i x).bind K) := by
  unfold saI at h ⊢
  by_cases hg : gK σ a = 20 + 4 ∧ ¬ (i < 0 ∨ gLn σ a ≤ i.toNatClampNeg)
  · rw [if_pos hg] at h ⊢
    refine go_ast (σ1 := uI σ a i.toNatClampNeg (gnar 4 x)) (t := 4) (j := i.toNatClampNeg) hg.1 rfl rfl (fun _ => rfl) (fun _ => rfl) (fun ad cy r hr => gE_uI ad cy σ a _ _ r hr) (gX_uI σ a _ _) (h _ rfl) (fun p l e R s m args below meth cd H locs cells slots Q ls B ad D cy X hc hh ha0 hat kk => ?_)
    show W p l e R s m args below meth cd H locs cells slots Q (F0 m pc ls (.int x :: .int i :: gP ad a :: S.map (gT ad)))
    rw [gP_ref ha0]
    refine W.zast hc.1 hc.2.1 hat ((hc.2.2.2.2.2.2.1.2 4 (cy 4, .boolean) rfl).1 (gLn σ a) (fun j => .int (gI σ a j))) (fun q => by cases q) (by show ¬ (i < 0 ∨ (arrV _ _ _).slots.size ≤ _); rw [arrV_size]; exact hg.2) rfl rfl hd fun H1 e1 e2 e3 => ?_
    refine kk H1 ?_ e2 e3
    rw [e1]
    rw [show garr ad σ a 4 = .inl (gI σ a) from rfl, show garr ad (uI σ a i.toNatClampNeg (gnar 4 x)) a 4 = .inl (gI (uI σ a i.toNatClampNeg (gnar 4 x)) a) from rfl, vp_cell_i, vp_cell_i, arrV_store]
    congr 2
    funext q
    show updV _ _ _ q = Value.int (gI (uI σ a i.toNatClampNeg _) a q)
    rw [gI_self]
    by_cases hq : q = i.toNatClampNeg
    · subst hq
      simp [updV, upd, gnar, vp_nar]
      try rfl
    · simp [updV, upd, hq]
  · rw [if_neg hg]; exact go_none
theorem go_lastore {a : Nat} {i : Int32} {x : Int64} {K : gH → Option (α × gH)} (hd : decode M.2.1 pc = .ok (.lastore, 1)) (h : ∀ σ1, saJ σ a i x = some σ1 → gGo X rv M d (pc + 1) L S σ1 (K σ1)) : gGo X rv M d pc L (vl x :: vi i :: vr a :: S) σ ((saJ σ a i x).bind K) := by
  unfold saJ at h ⊢
  by_cases hg : gK σ a = 20 + 3 ∧ ¬ (i < 0 ∨ gLn σ a ≤ i.toNatClampNeg)
  · rw [if_pos hg] at h ⊢
    refine go_ast (σ1 := uJ σ a i.toNatClampNeg x) (t := 3) (j := i.toNatClampNeg) hg.1 rfl rfl (fun _ => rfl) (fun _ => rfl) (fun ad cy r hr => gE_uJ ad cy σ a _ _ r hr) (fun _ => ⟨rfl, rfl⟩) (h _ rfl) (fun p l e R s m args below meth cd H locs cells slots Q ls B ad D cy X hc hh ha0 hat kk => ?_)
    show W p l e R s m args below meth cd H locs cells slots Q (F0 m pc ls (.long x :: .int i :: gP ad a :: S.map (gT ad)))
    rw [gP_ref ha0]
    refine W.last hc.1 hc.2.1 hat ((hc.2.2.2.2.2.2.1.2 3 (cy 3, .long) rfl).1 (gLn σ a) (fun j => .long (gJ σ a j))) (fun q => by cases q) (by show ¬ (i < 0 ∨ (arrV _ _ _).slots.size ≤ _); rw [arrV_size]; exact hg.2) rfl rfl hd fun H1 e1 e2 e3 => ?_
    refine kk H1 ?_ e2 e3
    rw [e1]
    rw [show garr ad σ a 3 = .inr (.inl (gJ σ a)) from rfl, show garr ad (uJ σ a i.toNatClampNeg x) a 3 = .inr (.inl (gJ (uJ σ a i.toNatClampNeg x) a)) from rfl, vp_cell_l, vp_cell_l, arrV_store]
    congr 2
    funext q
    show updV _ _ _ q = Value.long (gJ (uJ σ a i.toNatClampNeg _) a q)
    rw [gJ_self]
    by_cases hq : q = i.toNatClampNeg
    · subst hq
      simp [updV]
    · simp [updV, hq]
  · rw [if_neg hg]; exact go_none
theorem go_aastore {a t x : Nat} {i : Int32} {K : gH → Option (α × gH)} (ht5 : 5 ≤ t) (ht8 : t < 8) (hd : decode M.2.1 pc = .ok (.aastore, 1)) (h : ∀ σ1, saR σ a t i x = some σ1 → gGo X rv M d (pc + 1) L S σ1 (K σ1)) : gGo X rv M d pc L (vr x :: vi i :: vr a :: S) σ ((saR σ a t i x).bind K) := by
  unfold saR at h ⊢
  by_cases hg : (gK σ a = 20 + t ∧ ¬ (i < 0 ∨ gLn σ a ≤ i.toNatClampNeg)) ∧ gK σ x = gcls t + 1
  · rw [if_pos hg] at h ⊢
    obtain ⟨hg, hgx⟩ := hg
    refine go_ast (σ1 := uR σ a i.toNatClampNeg x) (t := t) (j := i.toNatClampNeg) hg.1 rfl rfl (fun _ => rfl) (fun _ => rfl) (fun ad cy r hr => gE_uR ad cy σ a _ _ r hr) (fun _ => ⟨rfl, rfl⟩) (h _ rfl) (fun p l e R s m args below meth cd H locs cells slots Q ls B ad D cy X hc hh ha0 hat kk => ?_)
    have hx0 : x ≠ 0 := by have := (hh.2.2.2.2.1 x (by omega)).1; omega
    have hxt := hh.at (a := x) (by omega)
    have hc13 : gcls t < 13 := by unfold gcls; split; omega; split <;> omega
    rw [gE_obj hgx hc13] at hxt
    have hgr : garr ad σ a t = .inr (.inr (.inr (.inr fun j => gO ad (gR σ a j)))) := by unfold garr; rw [if_neg (by omega), if_neg (by omega)]
    rw [hgr] at hat
    show W p l e R s m args below meth cd H locs cells slots Q (F0 m pc ls (gP ad x :: .int i :: gP ad a :: S.map (gT ad)))
    rw [gP_ref ha0, gP_ref hx0]
    have hK := hc.2.2.2.2.2.2.1
    have hty : (gTy cy)[t]? = some (cy t, .object (gCn t)) := by
      rcases (show t = 5 ∨ t = 6 ∨ t = 7 by omega) with rfl | rfl | rfl <;> rfl
    obtain ⟨q, hq1, hq2⟩ : ∃ q : vw_C, vwCl[gcls t]? = some q ∧ q.1 = gCn t := by
      rcases (show t = 5 ∨ t = 6 ∨ t = 7 by omega) with rfl | rfl | rfl <;> exact ⟨_, rfl, rfl⟩
    obtain ⟨r', hr', cellV, g1, g2, g3, -⟩ := hxt
    have hcls := (hK.1 (gcls t) q hq1).2
    rw [hq2] at hcls
    obtain ⟨kA, comp, k1, k2, k3, -⟩ := (hK.2 t _ hty).2
    have hcomp : comp = D.1 (gcls t) := Option.some.inj (k3.symm.trans hcls.1)
    subst hcomp
    obtain ⟨kC, hkC, -⟩ := hcls.2
    refine W.aast hc.1 hc.2.1 hat (fun q h => by cases h) (fun h => by cases h) k1 k2 rfl hkC ⟨fun q => hg.2 (Or.inl q), by show _ < (arrV _ _ _).slots.size; rw [arrV_size]; exact Nat.not_le.mp fun q => hg.2 (Or.inr q)⟩ g1 (fun q h => by rw [g3] at h; cases h) (by rw [g2]; exact hkC) (by rw [g2]; exact va_assign hcls) rfl rfl hd fun H1 e1 e2 e3 => ?_
    refine kk H1 ?_ e2 e3
    rw [e1]
    rw [show garr ad (uR σ a i.toNatClampNeg x) a t = .inr (.inr (.inr (.inr fun j => gO ad (gR (uR σ a i.toNatClampNeg x) a j)))) by unfold garr; rw [if_neg (by omega), if_neg (by omega)]]
    rw [vp_cell_q, vp_cell_q, arrV_store]
    congr 2
    funext q
    show updV _ _ _ q = va_rf (gO ad (gR (uR σ a i.toNatClampNeg x) a q))
    rw [gR_self]
    by_cases hq : q = i.toNatClampNeg
    · subst hq
      simp [updV, gO, hx0, va_rf]
    · simp [updV, hq]
  · rw [if_neg hg]; exact go_none
theorem go_alen {a : Nat} {K : Int32 → Option (α × gH)} (hd : decode M.2.1 pc = .ok (.arraylength, 1)) (h : ∀ v, glen σ a = some v → gGo X rv M d (pc + 1) L (vi v :: S) σ (K v)) : gGo X rv M d pc L (vr a :: S) σ ((glen σ a).bind K) := by
  unfold glen at h ⊢
  by_cases hg : 20 ≤ gK σ a ∧ gK σ a < 28
  · rw [if_pos hg] at h ⊢
    refine gGo.read (h _ rfl) (fun p l e R s m args below meth cd H locs cells slots Q ls B ad D cy X hc hh hS kk => ?_)
    obtain ⟨hx, hb, hml, hown, hnm, hts, hK, hRO, had, hB, -⟩ := hc
    obtain ⟨hP, hD, hz, h50, hlive, hXX⟩ := hh
    obtain ⟨ha1, ha2⟩ := hlive a (by omega)
    have hpl := gW_at (ad := ad) (cy := cy) ha1 ha2
    obtain ⟨t, ht⟩ : ∃ t, gK σ a = 20 + t := ⟨gK σ a - 20, by omega⟩
    rw [gE_arr ht] at hpl
    show W p l e R s m args below meth cd H locs cells slots Q (F0 m pc ls (gP ad a :: S.map (gT ad)))
    rw [gP_ref (by omega)]
    have hty : ∃ ty, (gTy cy)[t]? = some (cy t, ty) := by
      rcases (show t = 0 ∨ t = 1 ∨ t = 2 ∨ t = 3 ∨ t = 4 ∨ t = 5 ∨ t = 6 ∨ t = 7 by omega) with rfl | rfl | rfl | rfl | rfl | rfl | rfl | rfl <;> exact ⟨_, rfl⟩
    obtain ⟨ty, hty⟩ := hty
    exact va_alen hx hb hK hP (a - 50) t hpl hty rfl hd kk
  · rw [if_neg hg]; exact go_none
end gArr
