/-! QUESTIONS about days: free -/
def qFr (P : Nat → Bool) (n : Nat) : Nat → Nat → Nat → Int
  | 0, _, _ => -1
  | m + 1, d, k => if P d = true then qFr P n m (d + 1) 0 else if k + 1 = n then (d : Int) - n + 1 else qFr P n m (d + 1) (k + 1)
def aFree (d e : Int) (P : Nat → Bool) : Int32 := if (0 ≤ d ∧ d < 14610) ∧ 1 ≤ e ∧ e ≤ 999 then iZ (qFr P e.toNat (14610 - d.toNat) d.toNat 0) else -1
theorem qFr_on {P : Nat → Bool} {n : Nat} : ∀ (k d m : Nat), (∀ j, d ≤ j → j < d + k → P j = true) → qFr P n (k + m) d 0 = qFr P n m (d + k) 0 := by
  intro k
  induction k with
  | zero => intro d m h; rw [Nat.zero_add]; rfl
  | succ k ih =>
    intro d m h
    rw [show k + 1 + m = (k + m) + 1 by omega]
    show (if P d = true then qFr P n (k + m) (d + 1) 0 else _) = _
    rw [if_pos (h d (by omega) (by omega)), ih (d + 1) m (fun j a b => h j (by omega) (by omega)), show d + 1 + k = d + (k + 1) by omega]
theorem qFr_off {P : Nat → Bool} {n : Nat} : ∀ (k d m g : Nat), (∀ j, d ≤ j → j < d + k → P j = false) → g + k < n → qFr P n (k + m) d g = qFr P n m (d + k) (g + k) := by
  intro k
  induction k with
  | zero => intro d m g h hg; rw [Nat.zero_add]; rfl
  | succ k ih =>
    intro d m g h hg
    rw [show k + 1 + m = (k + m) + 1 by omega]
    show (if P d = true then qFr P n (k + m) (d + 1) 0 else if g + 1 = n then (d : Int) - n + 1 else qFr P n (k + m) (d + 1) (g + 1)) = _
    rw [if_neg (by rw [h d (by omega) (by omega)]; decide), if_neg (by omega), ih (d + 1) m (g + 1) (fun j a b => h j (by omega) (by omega)) (by omega), show d + 1 + k = d + (k + 1) by omega, show g + 1 + k = g + (k + 1) by omega]
theorem qFr_hit {P : Nat → Bool} {n s m : Nat} (hn : 1 ≤ n) (hm : n ≤ m) (h : ∀ j, s ≤ j → j < s + n → P j = false) : qFr P n m s 0 = (s : Int) := by
  obtain ⟨q, hq⟩ : ∃ q, m = (n - 1) + (q + 1) := ⟨m - n, by omega⟩
  rw [hq, qFr_off (n - 1) s (q + 1) 0 (fun j a b => h j a (by omega)) (by omega)]
  show (if P (s + (n - 1)) = true then qFr P n q (s + (n - 1) + 1) 0 else if 0 + (n - 1) + 1 = n then ((s + (n - 1) : Nat) : Int) - n + 1 else qFr P n q (s + (n - 1) + 1) (0 + (n - 1) + 1)) = _
  rw [if_neg (by rw [h _ (by omega) (by omega)]; decide), if_pos (by omega)]
  omega
theorem qFr_r {P : Nat → Bool} {n : Nat} (hn : n ≤ 999) : ∀ (m d k : Nat), d + m = 14610 → k ≤ d → -1 ≤ qFr P n m d k ∧ qFr P n m d k < 14610 := by
  intro m
  induction m with
  | zero => intro d k _ _; unfold qFr; omega
  | succ m ih =>
    intro d k hd hk
    unfold qFr
    split
    · exact ih (d + 1) 0 (by omega) (by omega)
    · split
      · omega
      · exact ih (d + 1) (k + 1) (by omega) (by omega)
section gQr
variable {X : Nat × (Nat → Int32)} {v : Vt} {B : Bk} {A L : Nat → Nat → Bool} {b : Nat} {I : Nat → Nat → Int32} {J : Nat → Nat → Int64} {P Q : Nat → Bool}
theorem q_missing {r d : Nat} (hr : isDS r) (hP : dsP J r P) (hd : d ≤ 14610) : fX2_firstMissingFrom r (iZ (d : Int)) (mkS X I J v) = some (iZ (nxt (fun d => !P d) d), mkS X I J v) := by
  have e : (if 0 ≤ (d : Int) ∧ (d : Int) < 14610 then nxt (fun d => !dsf J r d) (d : Int).toNat else -1) = nxt (fun d => !P d) d := by
    by_cases c : d < 14610
    · rw [if_pos (by omega)]
      exact nxt_congr (fun j a b => by rw [dsP_d hP b])
    · rw [if_neg (by omega), nxt_none (fun j a b => by omega)]
  rw [ds_missing hr (by omega) (by omega), e]
theorem c_freeL {r n : Nat} (hn : 1 ≤ n) (hn2 : n ≤ 999) (hr : isDS r) (hP : dsP J r P) : ∀ (m d fuel i : Nat), d + m = 14610 → m < fuel → i ≤ d → gX11_free_L47 (iZ (n : Int)) r fuel (iZ (nxt (fun d => !P d) d)) (iZ (i : Int)) (mkS X I J v) = some (iZ (qFr P n (14610 - d) d 0), mkS X I J v) := by
  intro m
  induction m using Nat.strongRecOn with
  | ind m ih =>
    intro d fuel i hd hf hi
    obtain ⟨f, rfl⟩ : ∃ n, fuel = n + 1 := ⟨fuel - 1, by omega⟩
    unfold gX11_free_L47
    rcases nxt_cases (fun d => !P d) d with ⟨h1, h2⟩ | ⟨s, h1, h2, h3, h4, h5⟩
    · rw [h1, if_pos (show iZ (-1) = -1 from rfl), ite_self]
      have := qFr_on (P := P) (n := n) (14610 - d) d 0 (fun j a b => by have := h2 j a (by omega); simpa using this)
      rw [Nat.add_zero] at this
      rw [this]; rfl
    · have hs : qFr P n (14610 - d) d 0 = qFr P n (14610 - s) s 0 := by
        have := qFr_on (P := P) (n := n) (s - d) d (14610 - s) (fun j a b => by have := h5 j a (by omega); simpa using this)
        rw [show 14610 - d = s - d + (14610 - s) by omega, this, show d + (s - d) = s by omega]
      have hps : P s = false := by simpa using h4
      rw [h1, hs, if_pos (by rw [cL_lt (by omega) (by omega) (by decide)]; omega), if_neg (by rw [cM_eq (by omega) (by omega)]; omega), ds_c hr, q_first hr hP (by omega), gb2_some]
      simp only [gjn_eq, ds_c hr, aL]
      have tl : ∀ e : Nat, s < e → e ≤ 14610 → (∀ j, s ≤ j → j < e → P j = false) → (e < 14610 → P e = true) → (if iZ (e : Int) - iZ (s : Int) < iZ (n : Int) then gb2 (fX2_firstMissingFrom r (iZ (e : Int)) (mkS X I J v)) (fun r21 s22 => gX11_free_L47 (iZ (n : Int)) r f r21 (iZ ((i : Int) + 1)) s22) else some (iZ (s : Int), mkS X I J v)) = some (iZ (qFr P n (14610 - s) s 0), mkS X I J v) := by
        intro e e1 e2 e3 e4
        rw [iZ_sub]
        by_cases c : (e : Int) - s < n
        · rw [if_pos (by rw [iZ_lt (by omega) (by omega) (by omega) (by omega)]; exact c), q_missing hr hP e2, gb2_some, show (i : Int) + 1 = ((i + 1 : Nat) : Int) by omega]
          rw [ih (14610 - e) (by omega) e f (i + 1) (by omega) (by omega) (by omega)]
          have o := qFr_off (P := P) (n := n) (e - s) s (14610 - e) 0 (fun j a b => e3 j a (by omega)) (by omega)
          rw [show 14610 - s = e - s + (14610 - e) by omega, o, show s + (e - s) = e by omega]
          by_cases ce : e < 14610
          · obtain ⟨q, hq⟩ : ∃ q, 14610 - e = q + 1 := ⟨14610 - e - 1, by omega⟩
            rw [hq]
            unfold qFr
            rw [if_pos (e4 ce), if_pos (e4 ce)]
          · rw [show 14610 - e = 0 by omega]; rfl
        · rw [if_neg (by rw [iZ_lt (by omega) (by omega) (by omega) (by omega)]; exact c), qFr_hit hn (by omega) (fun j a b => e3 j a (by omega))]
      rcases nxt_cases P s with ⟨g1, g2⟩ | ⟨e, g1, g2, g3, g4, g5⟩
      · rw [g1, if_pos (show iZ (-1) = -1 from rfl)]
        exact tl 14610 h3 (by decide) g2 (fun q => by omega)
      · rw [g1, if_neg (by rw [cM_eq (by omega) (by omega)]; omega)]
        have : s ≠ e := fun q => by rw [q, g4] at hps; cases hps
        exact tl e (by omega) (by omega) g5 (fun _ => g4)
theorem cq_free {z d e : Int} (z1 : -2147483648 ≤ z) (z2 : z < 2147483648) (d1 : -2147483648 ≤ d) (d2 : d < 2147483648) (e1 : -2147483648 ≤ e) (e2 : e < 2147483648) (hb : isBk b) (hv : v.2.2.1 = b) (ok : BkOK B) (hB : cBk I b B) (hL : cLg I J B A L) : ∃ I' J', fX11_free 50 (iZ z) (iZ d) (iZ e) (mkS X I J v) = some (if (0 ≤ z ∧ z < B.nR) ∨ (6 ≤ z ∧ z < 6 + B.nS) then aFree d e (dy B A L z.toNat) else -1, mkS X I' J' v) ∧ frC I I' J J' ∧ cLg I' J' B A L := by
  unfold fX11_free
  simp only [bO, o50R, o60]
  refine c_ask z1 z2 hb hv ok hB hL (fun s => rfl) (fun I' J' r P hr hP => ?_)
  have hr0 := isDS_r hr
  rw [if_neg (by omega), c_isDay d1 d2, gb2_some]
  unfold aFree
  by_cases c : 0 ≤ d ∧ d < 14610
  · rw [if_pos c, if_neg (by decide)]
    by_cases c2 : e < 1
    · rw [if_pos (by rw [cL_lt (by omega) (by omega) (by decide)]; exact c2), if_neg (by omega)]
    · rw [if_neg (by rw [cL_lt (by omega) (by omega) (by decide)]; exact c2)]
      by_cases c3 : 999 < e
      · rw [if_pos (by rw [cR_lt (by omega) (by omega) (by decide)]; exact c3), if_neg (by omega)]
      · rw [if_neg (by rw [cR_lt (by omega) (by omega) (by decide)]; exact c3), if_pos (by omega)]
        obtain ⟨d', rfl⟩ : ∃ n : Nat, d = (n : Int) := ⟨d.toNat, by omega⟩
        obtain ⟨e', rfl⟩ : ∃ n : Nat, e = (n : Int) := ⟨e.toNat, by omega⟩
        rw [ds_c hr, q_missing hr hP (by omega), gb2_some]
        exact c_freeL (by omega) (by omega) hr hP (14610 - d') d' 20000 0 (by omega) (by omega) (Nat.zero_le _)
  · rw [if_neg c, if_pos rfl, if_neg (fun q => c q.1)]
theorem m_freeL {w n : Nat} (hn : 1 ≤ n) (hn2 : n ≤ 999) (hw : w < 12) (h : daysR I (14610 * w) P) : ∀ (m d fuel k : Nat), d + m = 14610 → m < fuel → k ≤ 14610 → k < n → gX12_free_L35 267 (iZ (w : Int)) (iZ (n : Int)) fuel (iZ (k : Int)) (iZ (d : Int)) (mkS X I J v) = some (iZ (qFr P n m d k), mkS X I J v) := by
  intro m
  induction m with
  | zero =>
    intro d fuel k hd hf hk hk2
    obtain ⟨f, rfl⟩ : ∃ n, fuel = n + 1 := ⟨fuel - 1, by omega⟩
    unfold gX12_free_L35
    rw [if_neg (by rw [cL_lt (by omega) (by omega) (by decide)]; omega)]
    rfl
  | succ m ih =>
    intro d fuel k hd hf hk hk2
    obtain ⟨f, rfl⟩ : ∃ n, fuel = n + 1 := ⟨fuel - 1, by omega⟩
    unfold gX12_free_L35
    rw [if_pos (by rw [cL_lt (by omega) (by omega) (by decide)]; omega), m_c, m_isOn hw (by omega) h, gb2_some]
    simp only [gjn_eq, aL, iZ_sub]
    rw [show (d : Int) + 1 = ((d + 1 : Nat) : Int) by omega]
    unfold qFr
    cases P d with
    | true =>
      rw [if_neg (show ¬ tf true = 0 by decide), if_pos rfl, show (0 : Int32) = iZ ((0 : Nat) : Int) from rfl, if_neg (by rw [iZ_eq (by omega) (by omega) (by omega) (by omega)]; omega)]
      exact ih (d + 1) f 0 (by omega) (by omega) (by omega) (by omega)
    | false =>
      rw [if_pos tf_f, if_neg (show ¬ false = true by decide)]
      by_cases c : k + 1 = n
      · rw [if_pos (by rw [iZ_eq (by omega) (by omega) (by omega) (by omega)]; omega), if_pos c]
      · rw [if_neg (by rw [iZ_eq (by omega) (by omega) (by omega) (by omega)]; omega), if_neg c]
        exact ih (d + 1) f (k + 1) (by omega) (by omega) (by omega) (by omega)
theorem mq_free {z d e : Int} (z1 : -2147483648 ≤ z) (z2 : z < 2147483648) (d1 : -2147483648 ≤ d) (d2 : d < 2147483648) (e1 : -2147483648 ≤ e) (e2 : e < 2147483648) (ok : BkOK B) (hB : mBk I B) (hL : mLg I B A L) : ∃ I', fX12_free 267 (iZ z) (iZ d) (iZ e) (mkS X I J v) = some (if (0 ≤ z ∧ z < B.nR) ∨ (6 ≤ z ∧ z < 6 + B.nS) then aFree d e (dy B A L z.toNat) else -1, mkS X I' J v) ∧ frY I I' ∧ mLg I' B A L := by
  have no : ¬ ((0 ≤ d ∧ d < 14610) ∧ 1 ≤ e ∧ e ≤ 999) → (if (0 ≤ z ∧ z < (B.nR : Int)) ∨ (6 ≤ z ∧ z < 6 + (B.nS : Int)) then aFree d e (dy B A L z.toNat) else -1) = -1 := fun q => by unfold aFree; rw [if_neg q, ite_self]
  unfold fX12_free
  rw [m_isDay d1 d2, gb2_some]
  by_cases c : 0 ≤ d ∧ d < 14610
  · rw [if_pos c, if_neg (by decide), m_isIn, gb2_some, iZ_l e1 e2, show (1 : Int64).toInt = 1 from rfl, show (999 : Int64).toInt = 999 from rfl]
    by_cases c2 : 1 ≤ e ∧ e ≤ 999
    · rw [if_pos c2, if_neg (by decide)]
      simp only [o267]
      refine m_ask z1 z2 ok hB hL (fun s => rfl) (fun I' w P hw hz hP hc => ?_)
      obtain ⟨d', rfl⟩ : ∃ n : Nat, d = (n : Int) := ⟨d.toNat, by omega⟩
      obtain ⟨e', rfl⟩ : ∃ n : Nat, e = (n : Int) := ⟨e.toNat, by omega⟩
      rw [if_neg (by decide), hz]
      unfold aFree
      rw [if_pos ⟨c, c2⟩]
      exact m_freeL (by omega) (by omega) hw hP (14610 - d') d' 20000 0 (by omega) (by omega) (by omega) (by omega)
    · rw [if_neg c2, if_pos rfl, no (fun q => c2 q.2)]
      exact ⟨I, rfl, frY_r I, hL⟩
  · rw [if_neg c, if_pos rfl, no (fun q => c q.1)]
    exact ⟨I, rfl, frY_r I, hL⟩
end gQr
