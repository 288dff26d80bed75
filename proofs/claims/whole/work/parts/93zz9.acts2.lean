/-! ADD, LEAVE, CHANCE, UNDO alike -/
def hdM (k : Nat) (x y : Int32) (s : gH) : Option (Int32 × gH) := gb2 (fX12_canHand 267 x (iZ (k : Int)) y s) fun r1 s2 => if r1 = 0 then gb2 (gcv s2 267 12 (fX12_isRefused 267 2 s2)) fun r4 s5 => some (r4, s5) else gb2 (gcv s2 267 12 (fX12_keeps 267 s2)) fun (_ : Unit) s7 => gb2 (gcv s7 267 12 (fX12_hands 267 x (iZ (k : Int)) y s7)) fun (_ : Unit) s9 => some ((1 : Int32), s9)
theorem p_turn {k : Nat} (hk : k ≤ 1) (x y : Int32) : alike (fX11_turn 50 x y (iZ ((k + 1 : Nat) : Int))) (hdM k x y) := by
  obtain ⟨z, z1, z2, rfl⟩ := iZ_of x
  obtain ⟨d, d1, d2, rfl⟩ := iZ_of y
  intro X I J v hr
  obtain ⟨b, b', S, un, g, c, m, s, o⟩ := hr
  have hb := bk_r c.1
  have ok := (g 0).1
  have hR6 : ∀ k, (S k).1.nR ≤ 6 := fun k => (g k).1.1
  have hD : mkDj (S 0).2.1 (S 0).2.2 := (g 0).2.1
  rcases cq_turn (X := X) (k := k + 1) (by omega) z1 z2 d1 d2 c.1 c.2.2.2.2.2.1 ok hD c.2.2.2.2.2.2.1 c.2.2.2.2.2.2.2.1 c.2.2.2.2.2.2.2.2 rfl with ⟨n1, I1, J1, a1, a2, a3⟩ | ⟨n1, I1, J1, a1, a2, a3, a4, a5⟩
  · obtain ⟨Ic, hIc⟩ : ∃ Ic, Ic = gup I1 196 2 (I1 196 2 + 1) := ⟨_, rfl⟩
    rw [← hIc] at a1
    have e1 : ∀ a j, a ≠ 196 → Ic a j = I1 a j := fun a j q => by rw [hIc, gup_r q]
    have m1 : mH Ic S un := mH_c m g (fun a j q => by rw [e1 a j (by omega)]; exact a2.1 a j (Or.inl (by omega)))
    rcases m_handR (X := X) (J := J1) (v := v) hk z1 z2 d1 d2 ok hD m1.1 m1.2.1 m1.2.2 rfl hR6 with ⟨_, I2, b1, b2, b3⟩ | ⟨n2, _⟩
    · refine ⟨_, Ic, J1, v, _, J1, a1, fun k => by rw [e1 1 k (by decide)]; exact a2.1 1 k (Or.inl (by decide)), b1, ?_⟩
      obtain ⟨Ix, hIx⟩ : ∃ Ix : Nat → Nat → Int32, Ix = fun a j => if a = 196 then I1 a j else I2 a j := ⟨_, rfl⟩
      have x1 : ∀ a j, a ≠ 196 → Ix a j = I2 a j := fun a j q => by rw [hIx]; exact if_neg q
      have x2 : ∀ j, Ix 196 j = I1 196 j := fun j => by rw [hIx]; exact if_pos rfl
      have hy : frY I1 Ix := fun a j p q => by
        by_cases w : a = 196
        · rw [w]; exact x2 j
        · rw [x1 a j w, b2 a j p q, e1 a j w]
      refine rel_cnt (k := 2) (by decide) (q_end g c m s o a2 a3 hy (mLg_f b3 (fun a j q => x1 a j (by omega)))) (fun a j p q => ?_) (fun j => ?_) (fun j => ?_)
      · rw [gup_r q, x1 a j p]
      · rw [gup_r (by decide), b2 196 j (by omega) (by omega), hIc, x2 2]
        by_cases w : j = 2
        · rw [w, gup_s, gup_s]
        · rw [gup_k w, gup_k w, x2 j]
      · rw [x1 269 2 (by decide)]
        by_cases w : j = 2
        · rw [w, gup_s, gup_s]
        · rw [gup_k w, gup_k w, x1 269 j (by decide)]
    · exact absurd n2 n1
  · have f1 : ∀ a j, 267 ≤ a → I1 a j = I a j := fun a j q => a2 a j (by omega) (by omega)
    have m1 := mH_c m g f1
    rcases m_handR (X := X) (J := J1) (v := v) hk z1 z2 d1 d2 ok hD m1.1 m1.2.1 m1.2.2 rfl hR6 with ⟨n2, _⟩ | ⟨_, I2, b1, b2, b3, b4, b5⟩
    · exact absurd n1 n2
    · have f2 : ∀ a j, a < 267 → I2 a j = I1 a j := fun a j q => b2 a j (by omega) (by omega) (by omega)
      have hz : z.toNat < (S 0).1.nS := by have := n1.1; omega
      have hB1 : cBk I1 b (S 0).1 := cBk_fr c.2.2.2.2.2.2.1 ok.1 (fun a j p q => a2 a j (by omega) (by omega))
      refine ⟨_, I1, J1, v, I2, J1, a1, fun k => a2 1 k (by omega) (by omega), b1, rel_act c s a5 (gS_C g ok (turn_gd (g 0).2 hz)) hB1 a4 b3 b4 (b5 _) rfl f2 (fun _ _ => rfl) (fun a j p => a2 a j (by omega) (by omega)) (fun a j p => by rw [b2 a j (by omega) (by omega) (by omega), f1 a j (by omega)]) (Or.inr ⟨a2 188 7 (by omega) (by omega), fun r => rfl⟩) (oH_fr o (fun a j p => by rw [b2 a j (by omega) (by omega) (by omega), a2 a j (by omega) (by omega)]) (fun j p => by rw [b2 267 j (by omega) (by omega) (by omega), f1 267 j (by decide)]) (by rw [a3 267 (by omega)]))⟩
theorem p_add (x y : Int32) : alike (fX11_add 50 x y) (fX12_add 267 x y) := by
  intro X I J v hr
  obtain ⟨r, I1, J1, v1, I2, J2, a, a0, b, h⟩ := p_turn (k := 0) (by omega) x y X I J v hr
  have a' : fX11_turn 50 x y 1 (mkS X I J v) = some (r, mkS X I1 J1 v1) := a
  have hx := (gzr_some (o := gX11_turn 50 x y 1 (mkS X I J v)) a').2
  have hz : gzr (some (r, mkS X I1 J1 v1)) = some (r, mkS X I1 J1 v1) := by rcases hx with rfl | rfl <;> rfl
  have hz2 : gzr (some (r, mkS X I2 J2 v1)) = some (r, mkS X I2 J2 v1) := by rcases hx with rfl | rfl <;> rfl
  refine ⟨r, I1, J1, v1, I2, J2, ?_, a0, ?_, h⟩
  · unfold fX11_add gX11_add
    simp only [o50]
    rw [a', gb2_some]
    exact hz
  · unfold fX12_add gX12_add
    simp only [o267]
    exact (congrArg gzr b).trans hz2
theorem p_leave (x y : Int32) : alike (fX11_leave 50 x y) (fX12_leave 267 x y) := by
  intro X I J v hr
  obtain ⟨r, I1, J1, v1, I2, J2, a, a0, b, h⟩ := p_turn (k := 1) (by omega) x y X I J v hr
  have a' : fX11_turn 50 x y 2 (mkS X I J v) = some (r, mkS X I1 J1 v1) := a
  have hx := (gzr_some (o := gX11_turn 50 x y 2 (mkS X I J v)) a').2
  have hz : gzr (some (r, mkS X I1 J1 v1)) = some (r, mkS X I1 J1 v1) := by rcases hx with rfl | rfl <;> rfl
  have hz2 : gzr (some (r, mkS X I2 J2 v1)) = some (r, mkS X I2 J2 v1) := by rcases hx with rfl | rfl <;> rfl
  refine ⟨r, I1, J1, v1, I2, J2, ?_, a0, ?_, h⟩
  · unfold fX11_leave gX11_leave
    simp only [o50]
    rw [a', gb2_some]
    exact hz
  · unfold fX12_leave gX12_leave
    simp only [o267]
    exact (congrArg gzr b).trans hz2
theorem p_chance (x : Int32) : alike (fX11_chance 50 x) (fX12_chance 267 x) := by
  obtain ⟨d, d1, d2, rfl⟩ := iZ_of x
  intro X I J v hr
  have hr0 := hr
  obtain ⟨b, b', S, un, g, c, m, s, o⟩ := hr
  have hb := bk_r c.1
  have ok := (g 0).1
  have hR6 : ∀ k, (S k).1.nR ≤ 6 := fun k => (g k).1.1
  have hg : gdM (S 0).1.nS ((S 0).2.1, (S 0).2.2) := (g 0).2
  obtain ⟨⟨t, ht⟩, o2, ⟨o3, o4⟩, ⟨z, w1, w2, w3⟩, o5, o6⟩ := o
  rcases cq_chance (X := X) d1 d2 c.1 c.2.2.2.1 c.2.2.2.2.2.1 ok hg c.2.2.2.2.2.2.1 c.2.2.2.2.2.2.2.1 c.2.2.2.2.2.2.2.2 rfl w2 w1 with ⟨n1, a1⟩ | ⟨n1, I1, J1, a1, a2, a3, a4, a5, a6, a7, a8⟩
  · have m1 : mH (gup I 196 2 (I 196 2 + 1)) S un := mH_c m g (fun a k q => gup_r (by omega))
    rcases mq_chance (X := X) (J := J) (v := v) d1 d2 ok hg m1.1 m1.2.1 m1.2.2 rfl hR6 w3 w1 with ⟨_, b1⟩ | ⟨n2, _⟩
    · exact ⟨_, _, _, _, _, _, a1, fun k => gup_r (by decide), b1, rel_ref (by decide) hr0⟩
    · exact absurd n2 n1
  · have f1 : ∀ a j, 267 ≤ a → I1 a j = I a j := fun a j q => a2 a j (by omega) (by omega) (by omega)
    have m1 := mH_c m g f1
    rcases mq_chance (X := X) (J := J1) (v := v) d1 d2 ok hg m1.1 m1.2.1 m1.2.2 rfl hR6 (by rw [a3 267 (by omega)]; exact w3) w1 with ⟨n2, _⟩ | ⟨_, I2, b1, b2, b3, b4, b5⟩
    · exact absurd n1 n2
    · have f2 : ∀ a j, a < 267 → I2 a j = I1 a j := fun a j q => b2 a j (by omega) (by omega) (by omega)
      have hB1 : cBk I1 b (S 0).1 := cBk_fr c.2.2.2.2.2.2.1 ok.1 (fun a j p q => a2 a j (by omega) (by omega) (by omega))
      have f : ∀ a j, (a ≠ 50 ∨ j ≠ 9) → (a ≠ 60 ∨ (j ≠ 6 ∧ j ≠ 7)) → ¬ (119 ≤ a ∧ a ≤ 187) → ¬ (281 ≤ a ∧ a ≤ 286) → a ≠ 292 → (a ≠ 267 ∨ (j ≠ 34 ∧ j ≠ 44 ∧ j ≠ 45)) → I2 a j = I a j := fun a j p1 p2 p3 p4 p5 p6 => by rw [b2 a j p4 p5 p6, a2 a j p1 p2 p3]
      refine ⟨_, I1, J1, v, I2, _, a1, fun k => a2 1 k (by omega) (by omega) (by omega), b1, rel_act c s a8 (gS_C g ok a7) hB1 a6 b3 b4 (b5 _) rfl f2 (fun a p => by funext j; exact gup_r (by omega)) (fun a j p => a2 a j (by omega) (by omega) (by omega)) (fun a j p => f a j (by omega) (by omega) (by omega) (by omega) (by omega) (by omega)) (Or.inr ⟨a2 188 7 (by omega) (by omega) (by omega), fun r => rfl⟩) ⟨⟨t, rTape_fr ht (fun a j p => f a j (by omega) (by omega) (by omega) (by omega) (by omega) (by omega))⟩, fun k hk => ?_, ⟨?_, ?_⟩, ⟨_, a5, ?_, gup_s⟩, calInv_fr o5 (fun a j p => f a j (by omega) (by omega) (by omega) (by omega) (by omega) (by omega)), fun k hk => ?_⟩⟩
      · rw [f 196 k (by omega) (by omega) (by omega) (by omega) (by omega) (by omega), f 269 k (by omega) (by omega) (by omega) (by omega) (by omega) (by omega)]; exact o2 k hk
      · rw [f 53 0 (by omega) (by omega) (by omega) (by omega) (by omega) (by omega), f 267 7 (by omega) (by omega) (by omega) (by omega) (by omega) (by omega)]; exact o3
      · rw [f 53 1 (by omega) (by omega) (by omega) (by omega) (by omega) (by omega), f 267 8 (by omega) (by omega) (by omega) (by omega) (by omega) (by omega)]; exact o4
      · rw [f2 50 9 (by decide)]; exact a4
      · rw [f 270 k (by omega) (by omega) (by omega) (by omega) (by omega) (by omega)]; exact o6 k hk
theorem p_undo : alike (fX11_undo 50) (fX12_undo 267) := by
  intro X I J v hr
  have hr0 := hr
  obtain ⟨b, b', S, un, g, c, m, s, o⟩ := hr
  have hb := bk_r c.1
  have ok := (g 0).1
  have hR6 : ∀ k, (S k).1.nR ≤ 6 := fun k => (g k).1.1
  cases un with
  | zero =>
    have a1 := cq_undo0 (X := X) (J := J) (v := v) c.2.2.2.2.2.2.2.2
    have m1 : mH (gup I 196 4 (I 196 4 + 1)) S 0 := mH_c m g (fun a k q => gup_r (by omega))
    have b1 := m_undo0 (X := X) (J := J) (v := v) m1.2.2
    exact ⟨_, _, _, _, _, _, a1, fun k => gup_r (by decide), b1, rel_ref (by decide) hr0⟩
  | succ un =>
    have hs : smB (S 0).1 (S 1).1 := by
      obtain ⟨q, -, -, -, -, h⟩ := c.2.2.2.2.2.2.2.2
      exact jE_same (h 0 (by omega))
    obtain ⟨I1, J1, a1, a2, a3, a4, a5, a6, a7⟩ := cq_undoS (X := X) c.1 c.2.2.2.1 c.2.2.2.2.2.1 ok (g 1).1 c.2.2.2.2.2.2.1 c.2.2.2.2.2.2.2.1 c.2.2.2.2.2.2.2.2
    have f1 : ∀ a j, 267 ≤ a → I1 a j = I a j := fun a j q => a2 a j (by omega) (by omega) (by omega) (by omega) (by omega)
    have m1 := mH_c m g f1
    obtain ⟨I2, b1, b2, b3, b4, b5⟩ := mq_undoS (X := X) (J := J1) (v := v) (g 1).1 hs m1.1 m1.2.2 hR6
    have f2 : ∀ a j, a < 267 → I2 a j = I1 a j := fun a j q => b2 a j (by omega) (by omega) (by omega)
    have fM : ∀ a k, 267 ≤ a → a ≠ 281 → a ≠ 283 → (a ≠ 267 ∨ (k ≠ 44 ∧ k ≠ 45)) → I2 a k = I a k := fun a k p p1 p2 p3 => by rw [b2 a k p1 p2 p3, f1 a k p]
    have fC : ∀ a k, (50 ≤ a ∧ a ≤ 53) ∨ a = 196 → I2 a k = I a k := fun a k p => by rw [f2 a k (by omega), a2 a k (by omega) (by omega) (by omega) (by omega) (by omega)]
    refine ⟨_, I1, J1, v, I2, J1, a1, fun k => a2 1 k (by omega) (by omega) (by omega) (by omega) (by omega), b1, rel_act c s a6 (fun k => g (k + 1)) a4 a5 b3 b4 b5 hs.1 f2 (fun _ _ => rfl) (fun a k p => a2 a k (by omega) (by omega) (by omega) (by omega) (by omega)) (fun a k p => fM a k (by omega) (by omega) (by omega) (by omega)) a7 (oH_fr o (fun a k p => ?_) (fun k p => fM 267 k (by decide) (by decide) (by decide) (by omega)) (by rw [a3 267 (by decide)]))⟩
    by_cases q : a < 267
    · exact fC a k (by omega)
    · exact fM a k (by omega) (by omega) (by omega) (by omega)
