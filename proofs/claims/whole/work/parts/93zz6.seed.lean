/-! SEED alike -/
theorem p_seed (x : Int32) : alike (fX11_seed 50 x) (fX12_seed 267 x) := by
  obtain ⟨z, z1, z2, rfl⟩ := iZ_of x
  intro X I J v hr
  have c1 := c_seed (X := X) (I := I) (J := J) (v := v) z1 z2
  by_cases q : z < 0
  · rw [if_pos q] at c1
    have c2 := m_seed (X := X) (I := gup I 196 5 (I 196 5 + 1)) (J := J) (v := v) z1 z2
    rw [if_pos q] at c2
    exact ⟨_, _, _, _, _, _, c1, fun k => gup_r (by decide), c2, rel_ref (by decide) hr⟩
  · rw [if_neg q] at c1
    have c2 := m_seed (X := X) (I := gup I 50 9 (iZ z)) (J := J) (v := v) z1 z2
    rw [if_neg q] at c2
    refine ⟨_, _, _, _, _, _, c1, fun k => gup_r (by decide), c2, ?_⟩
    obtain ⟨b, b', S, un, g, c, m, s, o⟩ := hr
    have hb := bk_r c.1
    have f : ∀ a j, (a ≠ 50 ∨ j ≠ 9) → gup I 50 9 (iZ z) a j = I a j := fun a j x => by
      rcases x with x | x
      · exact gup_r x
      · exact gup_k x
    obtain ⟨n, rfl⟩ : ∃ n : Nat, z = (n : Int) := ⟨z.toNat, by omega⟩
    refine ⟨b, b', S, un, g, cH_f c g (fun a j q => f a j (Or.inl (by omega))) (fun a x y => ?_), mH_g m g (fun a j q => f a j (Or.inl (by omega))), sH_fr s (fun a j q => f a j (Or.inl (by omega))) (f 267 36 (Or.inl (by decide))) (f 267 37 (Or.inl (by decide))), ?_⟩
    · funext k; exact gup_r (by omega)
    · obtain ⟨⟨t, t1, t2, t3, t4⟩, h2, ⟨h3, h4⟩, ⟨w, w1, w2, w3⟩, h5, h6⟩ := o
      refine ⟨⟨t, t1, by rw [f 51 1 (Or.inl (by decide))]; exact t2, by rw [f 267 1 (Or.inl (by decide))]; exact t3, fun j hj => by rw [f 52 j (Or.inl (by decide)), f 268 j (Or.inl (by decide))]; exact t4 j hj⟩, fun i hi => by rw [f 196 i (Or.inl (by decide)), f 269 i (Or.inl (by decide))]; exact h2 i hi, ⟨by rw [f 53 0 (Or.inl (by decide)), f 267 7 (Or.inl (by decide))]; exact h3, by rw [f 53 1 (Or.inl (by decide)), f 267 8 (Or.inl (by decide))]; exact h4⟩, ⟨n, by omega, gup_s, gup_s⟩, ?_, fun i hi => by rw [f 270 i (Or.inl (by decide))]; exact h6 i hi⟩
      unfold calInv
      rw [f 267 17 (Or.inl (by decide))]
      rcases h5 with q | q
      · exact Or.inl q
      · exact Or.inr ⟨q.1, calOK_Y q.2 (fun a j x y => f a j (Or.inl (by omega)))⟩
