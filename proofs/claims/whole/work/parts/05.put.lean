/-! MEMORY: stores -/
section gPut
variable {α : Type} {X : Nat × (Nat → Int32)} {rv : α → Option gv} {M : gM} {d pc : Nat} {L : List (Nat × gv)} {S : List gv} {σ : gH} {o : Option (α × gH)}
theorem gHp.put {B : Nat} {ad : Nat → Nat} {D : va_G} {cy : Nat → ClassId} {X : Nat × (Nat → Int32)} {σ σ1 : gH} {H H1 : Heap} {a : Nat} (h : gHp B ad D cy X σ H) (ha : gK σ a ≠ 0) (hN : gN σ1 = gN σ) (hK : ∀ r, gK σ1 r = gK σ r) (he : ∀ r, r ≠ a → gE ad cy σ1 r = gE ad cy σ r) (hat : va_at D vwCl (ad a, gE ad cy σ1 a) H1) (hz : H1.size = H.size) (oq : ∀ q : Nat, q ≠ ad a → H1[q]? = H[q]?) (hX : a ≠ 1 → gLn σ1 = gLn σ ∧ gI σ1 1 = gI σ 1) : gHp B ad D cy X σ1 H1 := by
  obtain ⟨hP, hD, hs, h50, hlive, hX1⟩ := h
  obtain ⟨h1, h2⟩ := hlive a ha
  have hp := gW_at (ad := ad) (cy := cy) h1 h2
  have e := gW_set (ad := ad) (cy := cy) h1 h2 hN he
  refine ⟨?_, ?_, by rw [hz, hN]; exact hs, by rw [hN]; exact h50, fun r hr => by rw [hN]; exact hlive r (by rw [← hK]; exact hr), by rw [(hX (by omega)).1, (hX (by omega)).2]; exact hX1⟩
  · rw [← e]; exact hP.set hD hp hat oq
  · rw [← e]; exact hD.set hp
theorem gS_put {A : Nat → Prop} {H0 H H1 : Heap} {locs : List Loc} {a k : Nat} (h : va_S A H0 H locs) (z : H1.size = H.size) (oq : ∀ q : Nat, q ≠ a → H1[q]? = H[q]?) (ha : A a) : va_S A H0 H1 (locs ++ [⟨a, k⟩]) := h.put z oq ha
theorem gHp.in {B : Nat} {ad : Nat → Nat} {D : va_G} {cy : Nat → ClassId} {X : Nat × (Nat → Int32)} {σ : gH} {H : Heap} {a : Nat} (h : gHp B ad D cy X σ H) (ha : gK σ a ≠ 0) : B ≤ ad a := by
  obtain ⟨hP, hD, hs, h50, hlive, hX1⟩ := h
  obtain ⟨h1, h2⟩ := hlive a ha
  exact hD.2 _ _ (gW_at (ad := ad) (cy := cy) h1 h2)
theorem gHp.at {B : Nat} {ad : Nat → Nat} {D : va_G} {cy : Nat → ClassId} {X : Nat × (Nat → Int32)} {σ : gH} {H : Heap} {a : Nat} (h : gHp B ad D cy X σ H) (ha : gK σ a ≠ 0) : va_at D vwCl (ad a, gE ad cy σ a) H := by
  obtain ⟨hP, hD, hs, h50, hlive, hX1⟩ := h
  obtain ⟨h1, h2⟩ := hlive a ha
  exact hP _ _ (gW_at (ad := ad) (cy := cy) h1 h2)
/-- a store into a field -/
theorem go_put {a c k idx : Nat} {σ1 : gH} {ty : FieldType} {v : gv} (hF : gFL M.1.cls idx c k) (hC : gCF c) (hL : gPL M c k ty) (hn : ∀ ad, narrow ty (gT ad v) = gT ad v) (hfit : ∀ ad, fits ty (gT ad v) = true) (hd : decode M.2.1 pc = .ok (.putfield idx, 3)) (hk : gK σ a = c + 1)
    (hN : gN σ1 = gN σ) (hQ : gQ σ1 = gQ σ) (hKs : ∀ r, gK σ1 r = gK σ r) (he : ∀ ad cy r, r ≠ a → gE ad cy σ1 r = gE ad cy σ r) (hv : gfv σ1 a c k = v) (hj : ∀ j, j ≠ k → gfv σ1 a c j = gfv σ a c j) (hX : a ≠ 1 → gLn σ1 = gLn σ ∧ gI σ1 1 = gI σ 1)
    (h : gGo X rv M d (pc + 3) L S σ1 o) : gGo X rv M d pc L (v :: vr a :: S) σ o := by
  refine gGo.write hN hQ h (fun p l e R s m args below meth cd H locs cells slots Q ls B ad D cy X hc hh hS kk => ?_)
  obtain ⟨hx, hb, hml, hown, hnm, hts, hK, hRO, had, hB, -⟩ := hc
  obtain ⟨hc13, C, T, N, ty0, hcl, hin, hnm2, hty⟩ := hC
  obtain ⟨C', T', N', hcl', hkN, hlink⟩ := hF
  cases hcl.symm.trans hcl'
  obtain ⟨C', T', N', hcl', -, hdesc, hfin⟩ := hL
  cases hcl.symm.trans hcl'
  have ha0 : gK σ a ≠ 0 := by omega
  have hat := hh.at ha0
  rw [gE_obj hk hc13] at hat
  have hBa := hh.in ha0
  have hap := va_apart (own := M.1.cls) (args := args) (s := s) hts hin ty0 hty hnm2 hK hcl
  obtain ⟨r, h1, cell, q1, q2, q3, q4⟩ := hat
  cases h1.symm.trans hcl
  obtain ⟨hS1, hfc, kC, hkC, hkind⟩ := hK.1 c _ hcl
  obtain ⟨cf, kf, fi, f, hi, hsl⟩ := hS1 k hkN
  have hst := (u_facts hfc hkC (u_lays hts hin hkN) hi).1
  have hlay := hts _ (hin _ (u_in_lay hkN))
  unfold u_lay at hlay
  have hlen : k < (gfs ad σ a c).length := by simp [gfs, gNf_of hcl]; exact hkN
  have fin : ∀ (H1 : Heap), H1[ad a]? = some (cell.setSlot f.slot (gT ad v)) → H1.size = H.size → (∀ q, q ≠ ad a → H1[q]? = H[q]?) → W p l e R s m args below meth cd H1 (locs ++ [⟨ad a, f.slot⟩]) cells slots Q (F0 m (pc + 3) ls (S.map (gT ad))) := by
    intro H1 e1 e2 e3
    rw [hsl] at e1
    refine kk H1 _ (hh.put ha0 hN hKs (he ad cy) ?_ e2 e3 hX) (hS.put e2 e3 hBa)
    rw [gE_obj (by rw [hKs]; exact hk) hc13]
    refine ⟨_, hcl, ?_⟩
    rw [← gfs_set hj, hv]
    exact t_OB.to (V := updV (vp_V (gfs ad σ a c)) k (gT ad v)) ⟨_, e1, q2, q3, t_set q4 hap hkN (gT ad v)⟩ (fun j _ => vp_updV_set hlen (gT ad v) j)
  show W p l e R s m args below meth cd H locs cells slots Q (F0 m pc ls (gT ad v :: gP ad a :: S.map (gT ad)))
  have ha50 := (hh.2.2.2.2.1 a ha0).1
  rw [gP_ref (by omega)]
  rcases hfin with hf | ⟨hf1, hf2⟩
  · rw [if_neg (by rw [hf]; decide)] at hlay
    exact W.putK hx hb (f := f) ⟨hown, hts _ hlink, ⟨_, _, _, hi⟩, hst⟩ (by rw [q2]; exact u_store hfc hkC hkind hlay hi hdesc (hn ad) (hfit ad)) q1 q3 (by rw [hsl]; exact k2_hasslot (q4 k hkN)) rfl rfl hd fin
  · by_cases hf : (T k).2.2.2 = true
    · rw [if_pos hf] at hlay
      have hcf : m.cls = cf := by
        obtain ⟨_, _, c', _, _, _, -, -, hf', -, -, -, hown2, -⟩ := Cond.laysFinal_spec hlay
        have e1 : c' = cf := by have := hi.symm.trans hf'; simp at this; exact this.1.symm
        rw [hf2] at hown2
        rw [← e1]; exact Option.some.inj (hown.symm.trans hown2)
      exact W.putFinK hx hb hown (hts _ hlink) hi hst hcf (by rw [hnm]; exact hf1) (by rw [q2]; exact u_fits hfc hkC hkind (Or.inr hlay) hi hdesc (hn ad) (hfit ad)) q1 q3 (by rw [hsl]; exact k2_hasslot (q4 k hkN)) rfl rfl hd fin
    · rw [if_neg hf] at hlay
      exact W.putK hx hb (f := f) ⟨hown, hts _ hlink, ⟨_, _, _, hi⟩, hst⟩ (by rw [q2]; exact u_store hfc hkC hkind hlay hi hdesc (hn ad) (hfit ad)) q1 q3 (by rw [hsl]; exact k2_hasslot (q4 k hkN)) rfl rfl hd fin
theorem gE_uI (ad : Nat → Nat) (cy : Nat → ClassId) (σ : gH) (a k : Nat) (x : Int32) (r : Nat) (h : r ≠ a) : gE ad cy (uI σ a k x) r = gE ad cy σ r := by
  have e : ∀ j, gI (uI σ a k x) r j = gI σ r j := fun j => by simp [gI, uI, gup, h]
  have e1 : gI (uI σ a k x) r = gI σ r := funext e
  have e2 : ∀ c, gfs ad (uI σ a k x) r c = gfs ad σ r c := fun c => by
    unfold gfs; congr 1; funext j; unfold gfv; rw [e]; rfl
  have e3 : ∀ t, garr ad (uI σ a k x) r t = garr ad σ r t := fun t => by unfold garr; rw [e1]; rfl
  unfold gE
  rw [e2, e3]
  rfl
theorem gE_uJ (ad : Nat → Nat) (cy : Nat → ClassId) (σ : gH) (a k : Nat) (x : Int64) (r : Nat) (h : r ≠ a) : gE ad cy (uJ σ a k x) r = gE ad cy σ r := by
  have e : ∀ j, gJ (uJ σ a k x) r j = gJ σ r j := fun j => by simp [gJ, uJ, gup, h]
  have e1 : gJ (uJ σ a k x) r = gJ σ r := funext e
  have e2 : ∀ c, gfs ad (uJ σ a k x) r c = gfs ad σ r c := fun c => by
    unfold gfs; congr 1; funext j; unfold gfv; rw [e]; rfl
  have e3 : ∀ t, garr ad (uJ σ a k x) r t = garr ad σ r t := fun t => by unfold garr; rw [e1]; rfl
  unfold gE
  rw [e2, e3]
  rfl
theorem gE_uR (ad : Nat → Nat) (cy : Nat → ClassId) (σ : gH) (a k : Nat) (x : Nat) (r : Nat) (h : r ≠ a) : gE ad cy (uR σ a k x) r = gE ad cy σ r := by
  have e : ∀ j, gR (uR σ a k x) r j = gR σ r j := fun j => by simp [gR, uR, gup, h]
  have e1 : gR (uR σ a k x) r = gR σ r := funext e
  have e2 : ∀ c, gfs ad (uR σ a k x) r c = gfs ad σ r c := fun c => by
    unfold gfs; congr 1; funext j; unfold gfv; rw [e]; rfl
  have e3 : ∀ t, garr ad (uR σ a k x) r t = garr ad σ r t := fun t => by unfold garr; rw [e1]; rfl
  unfold gE
  rw [e2, e3]
  rfl
theorem gX_uI (σ : gH) (a k : Nat) (x : Int32) (h : a ≠ 1) : gLn (uI σ a k x) = gLn σ ∧ gI (uI σ a k x) 1 = gI σ 1 := ⟨rfl, by funext j; simp [gI, uI, gup, Ne.symm h]⟩
theorem go_putI {a c k idx : Nat} {x : Int32} {K : gH → Option (α × gH)} (hF : gFL M.1.cls idx c k) (hC : gCF c) (hL : gPL M c k .int) (ht : gft c k = 0) (hd : decode M.2.1 pc = .ok (.putfield idx, 3)) (h : ∀ σ1, spI σ a c k x = some σ1 → gGo X rv M d (pc + 3) L S σ1 (K σ1)) : gGo X rv M d pc L (vi x :: vr a :: S) σ ((spI σ a c k x).bind K) := by
  unfold spI at h ⊢
  by_cases hk : gK σ a = c + 1
  · rw [if_pos hk] at h ⊢
    exact go_put (σ1 := uI σ a k x) hF hC hL (fun _ => rfl) (fun _ => rfl) hd hk rfl rfl (fun _ => rfl) (fun ad cy r hr => gE_uI ad cy σ a k x r hr) (by unfold gfv; rw [if_pos ht]; simp [gI, uI, gup]) (fun j hj => by unfold gfv; simp [gI, gJ, gR, uI, gup, hj]) (gX_uI σ a k x) (h _ rfl)
  · rw [if_neg hk]; exact go_none
theorem go_putZ {a c k idx : Nat} {x : Int32} {K : gH → Option (α × gH)} (hF : gFL M.1.cls idx c k) (hC : gCF c) (hL : gPL M c k .boolean) (ht : gft c k = 0) (hx : x = 0 ∨ x = 1) (hd : decode M.2.1 pc = .ok (.putfield idx, 3)) (h : ∀ σ1, spI σ a c k x = some σ1 → gGo X rv M d (pc + 3) L S σ1 (K σ1)) : gGo X rv M d pc L (vi x :: vr a :: S) σ ((spI σ a c k x).bind K) := by
  unfold spI at h ⊢
  by_cases hk : gK σ a = c + 1
  · rw [if_pos hk] at h ⊢
    exact go_put (σ1 := uI σ a k x) hF hC hL (fun _ => by rcases hx with rfl | rfl <;> rfl) (fun _ => by rcases hx with rfl | rfl <;> rfl) hd hk rfl rfl (fun _ => rfl) (fun ad cy r hr => gE_uI ad cy σ a k x r hr) (by unfold gfv; rw [if_pos ht]; simp [gI, uI, gup]) (fun j hj => by unfold gfv; simp [gI, gJ, gR, uI, gup, hj]) (gX_uI σ a k x) (h _ rfl)
  · rw [if_neg hk]; exact go_none
theorem go_putJ {a c k idx : Nat} {x : Int64} {K : gH → Option (α × gH)} (hF : gFL M.1.cls idx c k) (hC : gCF c) (hL : gPL M c k .long) (ht : gft c k = 1) (hd : decode M.2.1 pc = .ok (.putfield idx, 3)) (h : ∀ σ1, spJ σ a c k x = some σ1 → gGo X rv M d (pc + 3) L S σ1 (K σ1)) : gGo X rv M d pc L (vl x :: vr a :: S) σ ((spJ σ a c k x).bind K) := by
  unfold spJ at h ⊢
  by_cases hk : gK σ a = c + 1
  · rw [if_pos hk] at h ⊢
    exact go_put (σ1 := uJ σ a k x) hF hC hL (fun _ => rfl) (fun _ => rfl) hd hk rfl rfl (fun _ => rfl) (fun ad cy r hr => gE_uJ ad cy σ a k x r hr) (by unfold gfv; rw [if_neg (by omega), if_pos ht]; simp [gJ, uJ, gup]) (fun j hj => by unfold gfv; simp [gI, gJ, gR, uJ, gup, hj]) (fun _ => ⟨rfl, rfl⟩) (h _ rfl)
  · rw [if_neg hk]; exact go_none
theorem go_putR {a c k idx : Nat} {x : Nat} {ty : FieldType} {K : gH → Option (α × gH)} (hF : gFL M.1.cls idx c k) (hC : gCF c) (hL : gPL M c k ty) (hty : (∃ n, ty = .object n) ∨ ∃ t, ty = .array t) (ht : gft c k = 2) (hd : decode M.2.1 pc = .ok (.putfield idx, 3)) (h : ∀ σ1, spR σ a c k x = some σ1 → gGo X rv M d (pc + 3) L S σ1 (K σ1)) : gGo X rv M d pc L (vr x :: vr a :: S) σ ((spR σ a c k x).bind K) := by
  unfold spR at h ⊢
  by_cases hk : gK σ a = c + 1
  · rw [if_pos hk] at h ⊢
    have hn : ∀ ad, narrow ty (gT ad (vr x)) = gT ad (vr x) := fun ad => by
      simp only [gT, gP]
      rcases hty with ⟨n, rfl⟩ | ⟨t, rfl⟩ <;> split <;> rfl
    have hf : ∀ ad, fits ty (gT ad (vr x)) = true := fun ad => by
      simp only [gT, gP]
      rcases hty with ⟨n, rfl⟩ | ⟨t, rfl⟩ <;> split <;> rfl
    exact go_put (σ1 := uR σ a k x) hF hC hL hn hf hd hk rfl rfl (fun _ => rfl) (fun ad cy r hr => gE_uR ad cy σ a k x r hr) (by unfold gfv; rw [if_neg (by omega), if_neg (by omega)]; simp [gR, uR, gup]) (fun j hj => by unfold gfv; simp [gI, gJ, gR, uR, gup, hj]) (fun _ => ⟨rfl, rfl⟩) (h _ rfl)
  · rw [if_neg hk]; exact go_none
end gPut
