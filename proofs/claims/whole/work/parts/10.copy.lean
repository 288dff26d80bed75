/-! System.arraycopy of rows of longs -/
def uJs (σ : gH) (a : Nat) (f : Nat → Int64) : gH := (σ.1, σ.2.1, σ.2.2.1, (fun r j => if r = a then f j else σ.2.2.2.1 r j), σ.2.2.2.2)
def cpJ (σ : gH) (a0 : Nat) (sp : Int32) (a : Nat) (dp n : Int32) : Option gH :=
  if (gK σ a0 = 23 ∧ gK σ a = 23) ∧ (¬ sp < 0 ∧ ¬ dp < 0 ∧ ¬ n < 0) ∧ sp.toNatClampNeg + n.toNatClampNeg ≤ gLn σ a0 ∧ dp.toNatClampNeg + n.toNatClampNeg ≤ gLn σ a then some (uJs σ a (va_cpy (gJ σ a0) (gJ σ a) sp.toNatClampNeg dp.toNatClampNeg n.toNatClampNeg)) else none
section gCopy
variable {α : Type} {X : Nat × (Nat → Int32)} {rv : α → Option gv} {M : gM} {d pc : Nat} {L : List (Nat × gv)} {S : List gv} {σ : gH} {o : Option (α × gH)}
theorem gE_uJs (ad : Nat → Nat) (cy : Nat → ClassId) (σ : gH) (a : Nat) (f : Nat → Int64) (r : Nat) (h : r ≠ a) : gE ad cy (uJs σ a f) r = gE ad cy σ r := by
  have e : ∀ j, gJ (uJs σ a f) r j = gJ σ r j := fun j => by simp [gJ, uJs, h]
  have e1 : gJ (uJs σ a f) r = gJ σ r := funext e
  have e2 : ∀ c, gfs ad (uJs σ a f) r c = gfs ad σ r c := fun c => by
    unfold gfs; congr 1; funext j; unfold gfv; rw [e]; rfl
  have e3 : ∀ t, garr ad (uJs σ a f) r t = garr ad σ r t := fun t => by unfold garr; rw [e1]; rfl
  unfold gE
  rw [e2, e3]
  rfl
theorem go_acopy {idx a0 a : Nat} {sp dp n : Int32} {K : gH → Option (α × gH)} (hw1 : Cond.methodLink M.1.cls idx arraycopyName ∈ gTb) (hw2 : Cond.native arraycopyName ∈ gTb) (hw3 : Cond.static arraycopyName ∈ gTb) (hw4 : Cond.initialized "java/lang/System" ∈ gTb) (h8 : gcs S ≤ 8) (hd : decode M.2.1 pc = .ok (.invokestatic idx, 3)) (h : ∀ σ1, cpJ σ a0 sp a dp n = some σ1 → gGo X rv M d (pc + 3) L S σ1 (K σ1)) : gGo X rv M d pc L (vi n :: vi dp :: vr a :: vi sp :: vr a0 :: S) σ ((cpJ σ a0 sp a dp n).bind K) := by
  unfold cpJ at h ⊢
  by_cases hg : (gK σ a0 = 23 ∧ gK σ a = 23) ∧ (¬ sp < 0 ∧ ¬ dp < 0 ∧ ¬ n < 0) ∧ sp.toNatClampNeg + n.toNatClampNeg ≤ gLn σ a0 ∧ dp.toNatClampNeg + n.toNatClampNeg ≤ gLn σ a
  · rw [if_pos hg] at h ⊢
    obtain ⟨⟨hk0, hk1⟩, ⟨b1, b2, b3⟩, b4, b5⟩ := hg
    have hgo := h _ rfl
    intro r σ' ho
    obtain ⟨hm, hw⟩ := hgo r σ' ho
    refine ⟨hm, fun p l e R s m args below meth cd H locs cells slots Q ls B ad D cy n0 q0 hc hh hS g1 g2 g3 g4 hl hq => ?_⟩
    have hfr := hc.2.2.2.2.2.2.2.2.2.2.1
    have hlo := hc.2.2.2.2.2.2.2.2.2.2.2
    obtain ⟨hx, hb, hml, hown, hnm, hts, hK, hRO, had, hB, -⟩ := hc
    have z0 := (hh.2.2.2.2.1 a0 (by omega)).1
    have z1 := (hh.2.2.2.2.1 a (by omega)).1
    have hc0 : H[ad a0]? = some (vp_cell (cy 3) (gLn σ a0, .inr (.inl (gJ σ a0)))) := by
      have := hh.at (a := a0) (by omega)
      rw [gE_arr (t := 3) hk0] at this
      exact this
    have hc1 : H[ad a]? = some (vp_cell (cy 3) (gLn σ a, .inr (.inl (gJ σ a)))) := by
      have := hh.at (a := a) (by omega)
      rw [gE_arr (t := 3) hk1] at this
      exact this
    have nn : ∀ z : Int32, ¬ z < 0 → z.toInt = (z.toNatClampNeg : Int) := by
      intro z hz
      have hz0 : (0 : Int) ≤ z.toInt := by
        have := Int32.not_lt.mp hz
        simpa using Int32.le_iff_toInt_le.mp this
      show z.toInt = ((z.toInt.toNat : Nat) : Int)
      omega
    show W p l e R s m args below meth cd H locs cells slots Q (F0 m pc ls (.int n :: .int dp :: gP ad a :: .int sp :: gP ad a0 :: S.map (gT ad)))
    rw [gP_ref (by omega), gP_ref (by omega)]
    intro T hT XX
    obtain ⟨-, k0, hk0', cm0, hkk0⟩ := (hK.2 3 (cy 3, .long) rfl).1 (gLn σ a0) (fun j => .long (gJ σ a0 j))
    obtain ⟨-, k1, hk1', cm1, hkk1⟩ := (hK.2 3 (cy 3, .long) rfl).1 (gLn σ a) (fun j => .long (gJ σ a j))
    obtain ⟨vm', X', step⟩ := XX.arraycopy hx hown (hts _ hw1) (hts _ hw2) (hts _ hw3) (hts _ hw4) (src := ad a0) (dst := ad a) (cs := vp_cell (cy 3) (gLn σ a0, .inr (.inl (gJ σ a0)))) (cd := vp_cell (cy 3) (gLn σ a, .inr (.inl (gJ σ a)))) (srcPos := sp) (destPos := dp) (n := n) (by rw [hT]; exact hc0) (by rw [hT]; exact hc1)
      (fun _ h => by cases h) (fun _ h => by cases h) (fun h => by cases h) (fun h => by cases h) hk0' hk1' hkk0 hkk1 (by simp [refKind]) b1 b2 b3
      (by rw [nn sp b1, nn n b3]; show ¬ _ > ((arrV (cy 3) (gLn σ a0) (fun j => .long (gJ σ a0 j))).slots.size : Int); rw [arrV_size]; omega)
      (by rw [nn dp b2, nn n b3]; show ¬ _ > ((arrV (cy 3) (gLn σ a) (fun j => .long (gJ σ a j))).slots.size : Int); rw [arrV_size]; omega)
      (fun vm₁ _ i hi => by
        have e : (vp_cell (cy 3) (gLn σ a0, .inr (.inl (gJ σ a0)))).slots.getD (sp.toNatClampNeg + i) .null = .long (gJ σ a0 (sp.toNatClampNeg + i)) := by
          show (arrV (cy 3) (gLn σ a0) (fun j => .long (gJ σ a0 j))).slots.getD _ _ = _
          rw [Array.getD_eq_getD_getElem?, arrV_read _ _ (by omega)]
          rfl
        refine ⟨?_, ?_⟩
        · rw [e]
          rfl
        · rw [e]
          exact trivial)
      (g := F0 m pc ls (.int n :: .int dp :: .ref (ad a) :: .int sp :: .ref (ad a0) :: S.map (gT ad))) rfl (by rw [hml]; exact hl.1) (rest := S.map (gT ad)) rfl (by rw [hb]; exact hd) (by omega) (by
        show 2 * 0 + _ + _ ≤ _
        rw [gcs_ls]
        have : nativeFrameWords "java/lang/System" "arraycopy" 5 + 11 ≤ 50 := by decide +kernel
        omega)
    have e1 : copied (vp_cell (cy 3) (gLn σ a0, .inr (.inl (gJ σ a0)))) (vp_cell (cy 3) (gLn σ a, .inr (.inl (gJ σ a)))) sp dp n = vp_cell (cy 3) (gLn σ a, .inr (.inl (va_cpy (gJ σ a0) (gJ σ a) sp.toNatClampNeg dp.toNatClampNeg n.toNatClampNeg))) := va_copied (fun z => .long z) (cy 3) (cy 3) (gJ σ a0) (gJ σ a) b4
    rw [e1] at X' step
    generalize hcell : vp_cell (cy 3) (gLn σ a, .inr (.inl (va_cpy (gJ σ a0) (gJ σ a) sp.toNatClampNeg dp.toNatClampNeg n.toNatClampNeg))) = cell at X' step
    have hlt : ad a < H.size := (Array.getElem?_eq_some_iff.mp hc1).1
    have hheap : ((T.setVm vm').setCell (ad a) cell).heap = H.setIfInBounds (ad a) cell := by rw [← hT]; rfl
    have oq : ∀ q : Nat, q ≠ ad a → (H.setIfInBounds (ad a) cell)[q]? = H[q]? := fun q hq => by simp [Array.getElem?_setIfInBounds, Ne.symm hq]
    have hsz : (H.setIfInBounds (ad a) cell).size = H.size := by simp
    have hBa := hh.in (a := a) (by omega)
    have hh1 : gHp B ad D cy X (uJs σ a (va_cpy (gJ σ a0) (gJ σ a) sp.toNatClampNeg dp.toNatClampNeg n.toNatClampNeg)) (H.setIfInBounds (ad a) cell) := by
      refine hh.put (a := a) (by omega) rfl (fun _ => rfl) (fun r hr => gE_uJs ad cy σ a _ r hr) ?_ hsz oq (fun _ => ⟨rfl, rfl⟩)
      rw [gE_arr (t := 3) (show gK (uJs σ a _) a = 20 + 3 from hk1)]
      show (H.setIfInBounds (ad a) cell)[ad a]? = some _
      rw [← hcell]
      simp only [Array.getElem?_setIfInBounds, hlt, if_true]
      congr 2
      show (_, Sum.inr (Sum.inl _)) = (gLn σ a, Sum.inr (Sum.inl (gJ (uJs σ a _) a)))
      congr 3
      funext j
      simp [gJ, uJs]
    obtain ⟨t, a1, c1⟩ := hw p l e R s m args below meth cd (H.setIfInBounds (ad a) cell) _ cells slots Q ls B ad D cy n0 q0 ⟨hx, hb, hml, hown, hnm, hts, hK, hRO, had, hB, hfr, hlo⟩ hh1 ⟨by rw [hsz]; exact hS.1, fun q f1 f2 => by
        rw [oq q (fun e => f2 (by rw [e]; exact hBa))]
        exact hS.2.1 q f1 f2, fun q hq => by
        rcases List.mem_append.mp hq with h | h
        · exact hS.2.2 q h
        · obtain ⟨z, -, hz⟩ := List.mem_map.mp h
          rw [← hz]
          exact hBa⟩ g1 g2 g3 g4 hl hq _ hheap X'
    exact ⟨t, step t a1, c1⟩
  · rw [if_neg hg]; exact go_none
end gCopy
