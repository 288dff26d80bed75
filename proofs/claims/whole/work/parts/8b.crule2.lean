/-! A RULE STATEMENT -/
def mkRul (u b : Nat) (P : PD) : RuL := (u, b, P.mk, P.on.length, fun k => P.on.getD k 0, P.by_.length, fun k => P.by_.getD k 0 / 8, fun k => (P.by_.getD k 0 % 8).toNat, P.at_.length, fun k => P.at_.getD k 0, P.un, P.ct)
theorem mkRul_ok {u b : Nat} {P : PD} (hu : u < 4) (hb : b < 14610) (h : PDok P) : RuLok (mkRul u b P) := by
  obtain ⟨y1, y2, y3, y4, y5, y6, y7, y8⟩ := h
  refine ⟨hu, hb, y1, fun k hk => ?_, y3, fun k hk => ?_, fun k hk => ?_, y5, fun k hk => ?_, y7, y8⟩
  · have := y2 _ (mem_get.mpr ⟨k, hk, rfl⟩)
    unfold memR at this
    rw [if_neg (by decide), if_pos rfl] at this
    exact this
  · have := y4 _ (mem_get.mpr ⟨k, hk, rfl⟩)
    unfold memR at this
    rw [if_neg (by decide), if_neg (by decide), if_pos rfl] at this
    exact ⟨this.1, this.2.1⟩
  · have := y4 _ (mem_get.mpr ⟨k, hk, rfl⟩)
    unfold memR at this
    rw [if_neg (by decide), if_neg (by decide), if_pos rfl] at this
    show (P.by_.getD k 0 % 8).toNat < 7
    omega
  · have := y6 _ (mem_get.mpr ⟨k, hk, rfl⟩)
    unfold memR at this
    rw [if_neg (by decide), if_neg (by decide), if_neg (by decide)] at this
    exact ⟨this.1, this.2.1⟩
theorem mkRul_c {I : Nat → Nat → Int32} {q u b : Nat} {P : PD} (h : cPd I q P) (ok : PDok P) (h1 : I q 1 = iZ (u : Int)) (h2 : I q 2 = iZ (b : Int)) (h3 : I q 3 = iZ (cM b : Nat)) (h4 : I q 4 = iZ (cD b : Nat)) (h5 : I q 5 = iZ (((b + 5) % 7 : Nat) : Int)) : cRl I q (mkRul u b P) := by
  obtain ⟨z1, z2, z3, z4, z5, z6, z7, z8, z9⟩ := h
  refine ⟨h1, h2, h3, h4, h5, z1, z2, z3, fun k k1 k2 => ?_, fun k k1 k2 => ?_, fun k k1 => ?_, z7, z8.1, fun k hk => ?_, z9.1, z9.2⟩
  · rw [z4 k k1 k2, mem_get]; rfl
  · rw [z5 k k1 k2, mem_get]; rfl
  · rw [z6 k k1]
    constructor
    · rintro ⟨y, e1, e2⟩
      obtain ⟨j, j1, j2⟩ := mem_get.mp e1
      refine ⟨j, j1, ?_⟩
      show (P.by_.getD j 0 % 8).toNat = k
      rw [j2]; omega
    · rintro ⟨j, j1, j2⟩
      have j2' : (P.by_.getD j 0 % 8).toNat = k := j2
      exact ⟨_, mem_get.mpr ⟨j, j1, rfl⟩, by omega⟩
  · rw [show q + 2 = q + 1 + 1 from rfl, z8.2 k hk]
    congr 1
    show P.by_.getD k 0 = 8 * (P.by_.getD k 0 / 8) + (((P.by_.getD k 0 % 8).toNat : Nat) : Int)
    omega
def Bk.addR (B : Bk) (l : List Nat) (st : Nat) (R : RuL) : Bk := (B.nR + 1, B.nS, fun k => if k = B.nR then R else B.rl k, fun k => if k = B.nR then st else B.stp k, fun k => if k = B.nR then l else B.nm k, B.cs)
/-- a draft, as far as it is right -/
def BkD (B : Bk) : Prop := B.nR ≤ 6 ∧ B.nS ≤ 6 ∧ (∀ r, r < B.nR → RuLok (B.rl r) ∧ 1 ≤ B.stp r ∧ B.stp r ≤ 99) ∧ (∀ s, s < B.nS → mokR (kn B.nR s) (B.cs s) 0) ∧ (∀ w, kn B.nR B.nS w → nmOK (B.nm w))
def cDr (I : Nat → Nat → Int32) (b : Nat) (B : Bk) : Prop := cBk I b B ∧ BkD B ∧ I b 2 = iZ (cE B.cs B.nS : Nat)
def pU (T : Nat → Nat) (n : Nat) (r : PS) : Bool := decide (0 ≤ pOw T n r) && decide (pOw T n r < 4)
def pRu2 (T : Nat → Nat) (n : Nat) (B : Bk) (r : PS) : PS := pNew T n B.nR B.nS B.nm (pAdv T n r)
def pRu3 (T : Nat → Nat) (n : Nat) (B : Bk) (r : PS) : PS := pPass T n (pOw T n (pRu2 T n B r) == 18) (pRu2 T n B r)
def pRu4 (T : Nat → Nat) (n : Nat) (B : Bk) (r : PS) : PS := pNum T n 1 99 (pRu3 T n B r)
def pRu5 (T : Nat → Nat) (n : Nat) (B : Bk) (r : PS) : PS := pPass T n (pU T n (pRu4 T n B r)) (pRu4 T n B r)
def pRu6 (T : Nat → Nat) (n : Nat) (B : Bk) (r : PS) : PS := pPass T n (pOw T n (pRu5 T n B r) == 19) (pRu5 T n B r)
def pRu7 (T : Nat → Nat) (n : Nat) (B : Bk) (r : PS) : PS := pDate T n (pRu6 T n B r)
def pRu8 (T : Nat → Nat) (n : Nat) (B : Bk) (r : PS) : PD × PS := pParts T n (pOw T n (pRu4 T n B r)) 8 (fun _ => false) P0 (pRu7 T n B r)
def pRule (T : Nat → Nat) (n : Nat) (B : Bk) (r : PS) : Bk × PS := if B.nR < 6 then (B.addR (pNameV T n (pAdv T n r)) (pNumV T n (pRu3 T n B r)) (mkRul (pOw T n (pRu4 T n B r)).toNat (pDateV T n (pRu6 T n B r)) (pRu8 T n B r).1), (pRu8 T n B r).2) else (B, pNot 5 r)
def frB (b : Nat) (I I' : Nat → Nat → Int32) : Prop := (∀ r k, r ≠ 53 → r ≠ 55 → r ≠ 56 → ¬ (b ≤ r ∧ r ≤ b + 34) → I' r k = I r k) ∧ I' 53 3 = I 53 3
theorem frB_t {b : Nat} {I I' I'' : Nat → Nat → Int32} (h1 : frB b I I') (h2 : frB b I' I'') : frB b I I'' := ⟨fun r k a b c d => (h2.1 r k a b c d).trans (h1.1 r k a b c d), h2.2.trans h1.2⟩
theorem frB_r (b : Nat) (I : Nat → Nat → Int32) : frB b I I := ⟨fun _ _ _ _ _ _ => rfl, rfl⟩
theorem frB_W {b : Nat} {I I' : Nat → Nat → Int32} (h : frW I I') : frB b I I' := ⟨fun r k a b c _ => h.1 r k a b c, h.2⟩
theorem frB_K {b : Nat} {I I' : Nat → Nat → Int32} (h : frK I I') : frB b I I' := frB_W (frW_K h)
theorem frB_g {b r k : Nat} {x : Int32} {I : Nat → Nat → Int32} (hb : isBk b) (h1 : b ≤ r) (h2 : r ≤ b + 34) : frB b I (gup I r k x) := by
  have := bk_r hb
  exact ⟨fun r' k a b c d => gup_r (by omega), gup_r (by omega)⟩
theorem isWdT : isWd 0 17 ∧ isWd 5 18 ∧ isWd 6 19 ∧ isWd 7 20 ∧ isWd 8 21 ∧ isWd 9 28 ∧ isWd 10 25 ∧ isWd 11 26 ∧ isWd 12 27 ∧ isWd 13 23 ∧ isWd 14 24 ∧ isWd 15 22 := by
  unfold isWd
  decide +kernel
theorem cBk_nm {I : Nat → Nat → Int32} {b : Nat} {B : Bk} (h : cBk I b B) (d : BkD B) : cNm I b B.nR B.nS B.nm := ⟨d.1, d.2.1, h.1, h.2.1, fun w hw => ⟨d.2.2.2.2 w hw, h.2.2.2.2 w hw⟩⟩
theorem pParts_er {T : Nat → Nat} {n : Nat} {u : Int} {r : PS} {f : Nat} {met : Nat → Bool} {P : PD} (h : pOk r = false) : pOk (pParts T n u f met P r).2 = false := by
  cases r with
  | ok s => cases h
  | error e =>
    cases f with
    | zero => rfl
    | succ f => rfl
theorem pRule_in {T : Nat → Nat} {n : Nat} {B : Bk} {r : PS} (h : pOk (pRu8 T n B r).2 = true) : pOk (pRu7 T n B r) = true ∧ pOk (pRu6 T n B r) = true ∧ pOk (pRu5 T n B r) = true ∧ pOk (pRu4 T n B r) = true ∧ pOk (pRu3 T n B r) = true ∧ pOk (pRu2 T n B r) = true ∧ (0 ≤ pOw T n (pRu4 T n B r) ∧ pOw T n (pRu4 T n B r) < 4) ∧ 1 ≤ pNumV T n (pRu3 T n B r) ∧ pNumV T n (pRu3 T n B r) ≤ 99 := by
  have h7 : pOk (pRu7 T n B r) = true := by
    cases z : pOk (pRu7 T n B r)
    · rw [show pOk (pRu8 T n B r).2 = false from pParts_er z] at h; cases h
    · rfl
  have h6 := (pDate_in (pNum_ok h7).1).1
  have h5 := (pPass_ok h6).2
  obtain ⟨w, h4⟩ := pPass_ok h5
  obtain ⟨h3, n1, n2, -⟩ := pNum_ok h4
  have h2 := (pPass_ok h3).2
  unfold pU at w
  rw [Bool.and_eq_true, decide_eq_true_eq, decide_eq_true_eq] at w
  exact ⟨h7, h6, h5, h4, h3, h2, w, n1, n2⟩
theorem cPd_fr2 {I I' : Nat → Nat → Int32} {q : Nat} {P : PD} (h : cPd I q P) (f1 : ∀ k, 6 ≤ k → I' q k = I q k) (f2 : ∀ r k, q < r → r ≤ q + 4 → I' r k = I r k) : cPd I' q P := by
  obtain ⟨z1, z2, z3, z4, z5, z6, z7, z8, z9⟩ := h
  refine ⟨by rw [f1 6 (by decide)]; exact z1, by rw [f1 7 (by decide)]; exact z2, by rw [f1 8 (by decide)]; exact z3, by rw [f1 9 (by decide)]; exact z4, by rw [f1 10 (by decide)]; exact z5, by rw [f1 11 (by decide)]; exact z6, by rw [f1 12 (by decide)]; exact z7, ⟨?_, fun k hk => ?_⟩, ⟨?_, fun k hk => ?_⟩⟩
  · rw [f2 _ _ (by omega) (by omega)]; exact z8.1
  · rw [f2 _ _ (by omega) (by omega)]; exact z8.2 k hk
  · rw [f2 _ _ (by omega) (by omega)]; exact z9.1
  · rw [f2 _ _ (by omega) (by omega)]; exact z9.2 k hk
theorem mokR_mono {nR nR' s : Nat} (h : nR ≤ nR') : ∀ (L : List (Nat × Nat)) (k : Nat), mokR (kn nR s) L k → mokR (kn nR' s) L k := by
  intro L
  induction L with
  | nil => intro k h; exact h
  | cons o L ih => intro k ⟨x, y, z⟩; exact ⟨x, fun w => by have := y w; unfold kn at this ⊢; omega, ih _ z⟩
theorem cDr_addR {I I10 : Nat → Nat → Int32} {b st : Nat} {B : Bk} {l : List Nat} {R : RuL} (hb : isBk b) (hB : cBk I b B) (hBD : BkD B) (hcs : I b 2 = iZ (cE B.cs B.nS : Nat)) (c : B.nR < 6) (keep : ∀ r k, b ≤ r → r ≤ b + 34 → ¬ (b + 5 + 5 * B.nR ≤ r ∧ r ≤ b + 5 + 5 * B.nR + 4) → I10 r k = I r k) (hRl : cRl I10 (b + 5 + 5 * B.nR) R) (hst : I10 (b + 5 + 5 * B.nR) 0 = iZ (st : Int)) (ok : RuLok R) (s1 : 1 ≤ st) (s2 : st ≤ 99) (hl : nmOK l) : cDr (gup (gup I10 (b + 2) B.nR (iZ (nm5 l : Nat))) b 0 (iZ ((B.nR + 1 : Nat) : Int))) b (B.addR l st R) := by
  have hb0 := bk_r hb
  have out : ∀ r k, r ≠ b → r ≠ b + 2 → gup (gup I10 (b + 2) B.nR (iZ (nm5 l : Nat))) b 0 (iZ ((B.nR + 1 : Nat) : Int)) r k = I10 r k := fun r k x y => by rw [gup_r x, gup_r y]
  obtain ⟨q1, q2, q3, q4, q5'⟩ := hB
  obtain ⟨t1, t2, t3, t4, t5⟩ := hBD
  refine ⟨⟨?_, ?_, ?_, ?_, ?_⟩, ⟨?_, t2, ?_, ?_, ?_⟩, ?_⟩
  · rw [gup_s]; rfl
  · rw [gup_k (by decide), gup_r (by omega), keep b 1 (by omega) (by omega) (by omega)]; exact q2
  · intro r hr'
    have hr2 : r < B.nR + 1 := hr'
    by_cases e : r = B.nR
    · subst e
      refine ⟨?_, ?_⟩
      · show cRl _ _ (if B.nR = B.nR then _ else _)
        rw [if_pos rfl]
        exact cRl_fr hRl (fun r k x y => out r k (by omega) (by omega))
      · show _ = iZ (((if B.nR = B.nR then st else _ : Nat) : Nat) : Int)
        rw [if_pos rfl, out _ _ (by omega) (by omega), hst]
    · obtain ⟨r1, r2⟩ := q3 r (by omega)
      refine ⟨?_, ?_⟩
      · show cRl _ _ (if r = B.nR then _ else B.rl r)
        rw [if_neg e]
        exact cRl_fr r1 (fun r' k x y => by rw [out r' k (by omega) (by omega), keep r' k (by omega) (by omega) (by omega)])
      · show _ = iZ (((if r = B.nR then _ else B.stp r : Nat) : Nat) : Int)
        rw [if_neg e, out _ _ (by omega) (by omega), keep _ _ (by omega) (by omega) (by omega)]; exact r2
  · intro s hs
    obtain ⟨s1, s2⟩ := q4 s hs
    refine ⟨cseg_fr (fun k => by rw [out _ _ (by omega) (by omega), keep _ _ (by omega) (by omega) (by omega)]) s1, ?_⟩
    rw [out _ _ (by omega) (by omega), keep _ _ (by omega) (by omega) (by omega)]; exact s2
  · intro w hw
    have hw' : kn (B.nR + 1) B.nS w := hw
    show _ = iZ ((nm5 (if w = B.nR then _ else B.nm w) : Nat) : Int)
    by_cases e : w = B.nR
    · rw [if_pos e, e, gup_r (by omega), gup_s]
    · rw [if_neg e, gup_r (by omega), gup_k e, keep _ _ (by omega) (by omega) (by omega)]
      exact q5' w (by unfold kn at hw' ⊢; omega)
  · show B.nR + 1 ≤ 6; omega
  · intro r hr'
    have hr2 : r < B.nR + 1 := hr'
    show RuLok (if r = B.nR then _ else B.rl r) ∧ 1 ≤ (if r = B.nR then _ else B.stp r) ∧ (if r = B.nR then _ else B.stp r) ≤ 99
    by_cases e : r = B.nR
    · rw [if_pos e, if_pos e]
      exact ⟨ok, s1, s2⟩
    · rw [if_neg e, if_neg e]
      exact t3 r (by omega)
  · intro s hs
    exact mokR_mono (Nat.le_succ _) _ _ (t4 s hs)
  · intro w hw
    have hw' : kn (B.nR + 1) B.nS w := hw
    show nmOK (if w = B.nR then _ else B.nm w)
    by_cases e : w = B.nR
    · rw [if_pos e]; exact hl
    · rw [if_neg e]
      exact t5 w (by unfold kn at hw' ⊢; omega)
  · rw [gup_k (by decide), gup_r (by omega), keep b 2 (by omega) (by omega) (by omega)]
    exact hcs
