/-! Gum: what a row tells, and whether it is so. -/
def alU (f : Nat → Bool) (m : Nat) : Bool := match frO (fun k => !f k) m with
  | none => true
  | some _ => false
theorem alU_t {f : Nat → Bool} {m : Nat} (h : alU f m = true) : ∀ k, k < m → f k = true := by
  unfold alU at h
  generalize hx : frO (fun k => !f k) m = x at h
  match x, h with
  | none, h =>
    intro k hk
    have := frO_none.mp hx k hk
    simpa using this
theorem gLp_al {f : Int32 → Option (Sum Int32 Int32)} {st : Nat → Int32} {g : Nat → Bool} {m : Nat} {A B : Int32} (hn : m < 4096) (hs : ∀ i, i < m → f (st i) = if g i = true then some (.inl (st (i + 1))) else some (.inr A)) (he : f (st m) = some (.inr B)) (s0 : Int32) (h0 : s0 = st 0) : gLp f gFu s0 = some (if alU g m = true then B else A) := by
  rw [gLp_fs (st := st) (g := fun k => !g k) (n := m) (A := fun _ => A) (B := B) hn (fun i hi => ?_) he _ h0]
  · unfold alU
    cases frO (fun k => !g k) m <;> rfl
  · rw [hs i hi]
    cases g i <;> rfl
/-- its number -/
def lk (x : Int64) : Nat := x.toInt.toNat
theorem inL_k {x : Int64} {n : Nat} (h : inL x n = true) (hn : n < 2 ^ 31) : lk x < n ∧ x.toInt = (lk x : Int) ∧ x.toInt32 = nI (lk x) := by
  unfold inL at h
  simp only [Bool.and_eq_true, decide_eq_true_eq] at h
  have e : x.toInt = (lk x : Int) := by unfold lk; omega
  refine ⟨by unfold lk; omega, e, ?_⟩
  have h2 : x = (nI (lk x)).toInt64 := Int64.toInt_inj.mp (by rw [Int32.toInt_toInt64, nI_int _ (by omega), e])
  rw [h2]
  have h3 : lk (nI (lk x)).toInt64 = lk x := by rw [← h2]
  rw [h3]
  simp
theorem C_isBelow (x : Int64) {n : Nat} (hn : n < 2 ^ 31) (M : gMem) : fX3_isBelow x (nI n) M = some (bI (inL x n)) := by
  unfold fX3_isBelow fX3_isBelow_0 inL
  simp only [lg_cmp_lt, lg_cmp_ge, Int64.lt_iff_toInt_lt, Int64.le_iff_toInt_le, Int32.toInt_toInt64, nI_int n hn]
  have z0 : (0 : Int64).toInt = 0 := rfl
  rw [z0]
  by_cases c1 : x.toInt < 0
  · rw [if_pos c1, decide_eq_false (show ¬ (0 : Int) ≤ x.toInt by omega)]; rfl
  · rw [if_neg c1, decide_eq_true (show (0 : Int) ≤ x.toInt by omega), Bool.true_and]
    by_cases c2 : (n : Int) ≤ x.toInt
    · rw [if_pos c2, decide_eq_false (by omega)]; rfl
    · rw [if_neg c2, decide_eq_true (by omega)]; rfl
theorem M_in01 (x : Int64) (M : gMem) : fX9_in x 0 1 M = some (bI (inL x 2)) := by
  rw [F_in]
  unfold inL
  have z0 : (0 : Int64).toInt = 0 := rfl
  have z1 : (1 : Int64).toInt = 1 := rfl
  rw [z0, z1]
  congr 2
  congr 1
  exact decide_eq_decide.mpr (by omega)
/-- the k-th sighting can be read -/
def sgB (v : gCt) (z : Nat → Int64) (k : Nat) : Bool := inL (z (3 * k)) (v 0 4) && (inL (z (3 * k + 1)) (v 0 6) && inL (z (3 * k + 2)) 2)
theorem md3 : ∀ n, n ≤ 60 → (nI n - nI n / 3 * 3 = 0) = (n % 3 = 0) := by
  intro n hn
  have e := pk_rem (a := n) (d := 3) (by omega) (by omega) (by omega)
  show (nI n - nI n / nI 3 * nI 3 = 0) = _
  rw [e, nI_n0 _ (by omega)]
theorem C_canRead {M : gMem} {t s : Nat} {v : gCt} {z : gRw} (h : CT M t v) (hr : RO M z) (hs : s < 4) : fX3_canRead t (6 + 2 * s) M = some (bI (decide (z.2.1 s % 3 = 0) && alU (sgB v (z.2.2 s)) (z.2.1 s / 3))) := by
  have hv0 := h.2.1.1
  have h5 : M.1 t 5 = nI (v 0 4) := h.2.2.1.1.2.2.2.2.2.1
  have h7 : M.1 t 7 = nI (v 0 6) := h.2.2.1.1.2.2.2.2.2.2.2.1
  obtain ⟨⟨-, r2, -, -⟩, r4, r5⟩ := hr s hs
  unfold fX3_canRead fX3_canRead_0
  rw [r2]
  simp only [md3 _ r4]
  by_cases c : z.2.1 s % 3 = 0
  · rw [if_pos c, decide_eq_true c, Bool.true_and]
    unfold fX3_canRead_13h
    refine Eq.trans (gLp_al (st := fun i => nI (3 * i)) (g := sgB v (z.2.2 s)) (m := z.2.1 s / 3) (A := 0) (B := 1) (by omega) (fun i hi => ?_) ?_ 0 rfl) ?_
    rotate_right
    · cases alU (sgB v (z.2.2 s)) (z.2.1 s / 3) <;> rfl
    · show fX3_canRead_13 t (6 + 2 * s) (nI (3 * i)) M = _
      unfold fX3_canRead_13 fX3_canRead_76 fX3_canRead_77
      rw [r2, show (2 : Int32) = nI 2 from rfl, show (1 : Int32) = nI 1 from rfl, show (3 : Int32) = nI 3 from rfl, nI_add, nI_add, nI_add, if_neg (nI_ge (by omega) (by omega)), if_pos (ixV hs (by omega)), if_pos (ixV hs (by omega)), if_pos (ixV hs (by omega)), nI_clamp (by omega), nI_clamp (by omega), nI_clamp (by omega), (r5 _ (by omega)).1, (r5 _ (by omega)).1, (r5 _ (by omega)).1, h5, h7, C_isBelow _ (by omega), C_isBelow _ (by omega), C_isBelow _ (by omega), gB0_some, gB0_some, gB0_some, ite_bI, ite_bI, ite_bI, show 3 * (i + 1) = 3 * i + 3 from rfl]
      unfold sgB
      cases inL (z.2.2 s (3 * i)) (v 0 4) <;> cases inL (z.2.2 s (3 * i + 1)) (v 0 6) <;> cases inL (z.2.2 s (3 * i + 2)) 2 <;> rfl
    · show fX3_canRead_13 t (6 + 2 * s) (nI (3 * (z.2.1 s / 3))) M = _
      unfold fX3_canRead_13
      rw [r2, show (2 : Int32) = nI 2 from rfl, nI_add, if_pos (nI_le (by omega) (by omega))]
  · rw [if_neg c, decide_eq_false c]; rfl
/-- why sightings are refused -/
def sgO (v : gCt) (z : gRw) (s : Nat) : Int32 := if 0 < v 0 9 then (if z.1 s = -1 then -6 else if (decide (z.2.1 s % 3 = 0) && alU (sgB v (z.2.2 s)) (z.2.1 s / 3)) = true then 0 else -2) else -2
theorem sgO_0 {v : gCt} {z : gRw} {s : Nat} (h : sgO v z s = 0) : 0 < v 0 9 ∧ z.2.1 s % 3 = 0 ∧ ∀ k, k < z.2.1 s / 3 → sgB v (z.2.2 s) k = true := by
  unfold sgO at h
  by_cases c : 0 < v 0 9
  · rw [if_pos c] at h
    by_cases c1 : z.1 s = -1
    · rw [if_pos c1] at h; exact absurd h (by decide)
    · rw [if_neg c1] at h
      by_cases c2 : (decide (z.2.1 s % 3 = 0) && alU (sgB v (z.2.2 s)) (z.2.1 s / 3)) = true
      · rw [Bool.and_eq_true, decide_eq_true_eq] at c2
        exact ⟨c, c2.1, alU_t c2.2⟩
      · rw [if_neg c2] at h; exact absurd h (by decide)
  · rw [if_neg c] at h; exact absurd h (by decide)
theorem C_refSights {M : gMem} {t s : Nat} {v : gCt} {z : gRw} (h : CT M t v) (hr : RO M z) (hs : s < 4) : fX8_refusalOfSightings (.ref (6 + 2 * s)) M = some (sgO v z s) := by
  unfold fX8_refusalOfSightings
  show (if gOb 4 (6 + 2 * s) = true then fX8_refusalOfSightings_0a (6 + 2 * s) M else none) = _
  rw [if_pos (gOb4 hs)]
  unfold fX8_refusalOfSightings_0a sgO
  rw [if_pos (gob_T h), h.1.1, C_isTold h, gB0_some, ite_bI, C_isThere hr hs, gB0_some, ite_bI, if_pos h.1.2, C_canRead h hr hs, gB0_some, ite_bI]
  by_cases c : 0 < v 0 9
  · rw [if_pos c, decide_eq_true c, if_pos rfl]
    by_cases c1 : z.1 s = -1
    · rw [if_pos c1, decide_eq_true c1]; rfl
    · rw [if_neg c1, decide_eq_false c1]
      cases (decide (z.2.1 s % 3 = 0) && alU (sgB v (z.2.2 s)) (z.2.1 s / 3)) <;> rfl
  · rw [if_neg c, decide_eq_false c]; rfl
theorem M_whyNot {M : gMem} {t s : Nat} {v : gCt} {z : gRw} (h : CT M t v) (hr : RO M z) (hs : s < 4) : fX9_whyNot (nI s) M = some (sgO v z s) := by
  have hv0 := h.2.1.1
  have ha := h.2.2.2.1
  obtain ⟨⟨-, -, r2, r3⟩, r4, r5⟩ := hr s hs
  have hlp : z.2.1 s % 3 = 0 → fX9_whyNot_46h (nI s) 0 M = some (if alU (sgB v (z.2.2 s)) (z.2.1 s / 3) = true then 0 else -2) := by
    intro c
    unfold fX9_whyNot_46h
    refine gLp_al (st := fun i => nI (3 * i)) (g := sgB v (z.2.2 s)) (m := z.2.1 s / 3) (A := -2) (B := 0) (by omega) (fun i hi => ?_) ?_ _ rfl
    · show fX9_whyNot_46 (nI s) (nI (3 * i)) M = _
      unfold fX9_whyNot_46
      rw [if_pos (ix143 hs), nI_clamp (show s < 2 ^ 31 by omega), r3, if_neg (nI_ge (by omega) (by omega)), show (60 : Int32) = nI 60 from rfl, pk_mul, nI_add, M_in01]
      rw [show nI (60 * s + 3 * i) + (1 : Int32) = nI (60 * s + (3 * i + 1)) from nI_add _ 1, show nI (60 * s + 3 * i) + (2 : Int32) = nI (60 * s + (3 * i + 2)) from nI_add _ 2, show nI (3 * i) + (3 : Int32) = nI (3 * (i + 1)) from nI_add _ 3]
      rw [if_pos (ix144 (by omega)), if_pos (ix144 (by omega)), if_pos (ix144 (by omega)), nI_clamp (by omega), nI_clamp (by omega), nI_clamp (by omega), (r5 _ (by omega)).2, (r5 _ (by omega)).2, (r5 _ (by omega)).2, M_isPerson h.2.1 ha, M_isDoor h.2.1 ha, gB0_some, gB0_some, gB0_some, ite_bI, ite_bI, ite_bI]
      unfold sgB
      cases inL (z.2.2 s (3 * i)) (v 0 4) <;> cases inL (z.2.2 s (3 * i + 1)) (v 0 6) <;> cases inL (z.2.2 s (3 * i + 2)) 2 <;> rfl
    · show fX9_whyNot_46 (nI s) (nI (3 * (z.2.1 s / 3))) M = _
      unfold fX9_whyNot_46
      rw [if_pos (ix143 hs), nI_clamp (show s < 2 ^ 31 by omega), r3, if_pos (nI_le (by omega) (by omega))]
  unfold fX9_whyNot fX9_whyNot_0 sgO
  rw [M_isSlot, gB0_some, ite_bI, inR_nI (by omega), decide_eq_true hs, if_pos rfl, M_isCity h.2.1 ha, gB0_some, ite_bI, if_pos (ix142 hs), if_pos (ix143 hs), nI_clamp (by omega), r2, r3]
  simp only [md3 _ r4]
  by_cases c : 0 < v 0 9
  · rw [if_pos c, decide_eq_true c, if_pos rfl]
    by_cases c1 : z.1 s = -1
    · rw [if_pos c1, if_pos c1]
    · rw [if_neg c1, if_neg c1]
      by_cases c2 : z.2.1 s % 3 = 0
      · rw [if_pos c2, decide_eq_true c2, Bool.true_and, hlp c2]
      · rw [if_neg c2, decide_eq_false c2]; rfl
  · rw [if_neg c, decide_eq_false c]; rfl
theorem M_whyNot_no {x : Int32} (h : inR x 4 = false) (M : gMem) : fX9_whyNot x M = some (-2) := by
  unfold fX9_whyNot fX9_whyNot_0
  rw [M_isSlot, gB0_some, ite_bI, h]; rfl
/-! whether it is so -/
def agB (v : gCt) (u : gSp) (law : Nat) (z : Nat → Int64) (k : Nat) : Bool := thO v u 0 law (lk (z (3 * k))) (lk (z (3 * k + 1))) == decide (z (3 * k + 2) = 1)
def agO (v : gCt) (u : gSp) (law : Nat) (z : gRw) (s : Nat) : Bool := alU (agB v u law (z.2.2 s)) (z.2.1 s / 3)
theorem bI_ne (a b : Bool) : (bI a = bI b) = ((a == b) = true) := by cases a <;> cases b <;> simp [bI]
theorem C_agrees {M : gMem} {t s law : Nat} {v : gCt} {u : gSp} {z : gRw} (h : CT M t v) (hr : RO M z) (hL : LVd M v u 1) (hs : s < 4) (hl : law ≤ 3) (h3 : z.2.1 s % 3 = 0) (hk : ∀ k, k < z.2.1 s / 3 → sgB v (z.2.2 s) k = true) : fX3_agrees t (6 + 2 * s) (nI law) M = some (bI (agO v u law z s)) := by
  have hv0 := h.2.1.1
  obtain ⟨⟨-, r2, -, -⟩, r4, r5⟩ := hr s hs
  unfold fX3_agrees fX3_agrees_0 fX3_agrees_3h agO
  refine Eq.trans (gLp_al (st := fun i => nI (3 * i)) (g := agB v u law (z.2.2 s)) (m := z.2.1 s / 3) (A := 0) (B := 1) (by omega) (fun i hi => ?_) ?_ 0 rfl) ?_
  rotate_right
  · cases alU (agB v u law (z.2.2 s)) (z.2.1 s / 3) <;> rfl
  · show fX3_agrees_3 t (6 + 2 * s) (nI law) (nI (3 * i)) M = _
    have hk := hk i hi
    unfold sgB at hk
    rw [Bool.and_eq_true, Bool.and_eq_true] at hk
    obtain ⟨p1, -, p3⟩ := inL_k hk.1 (by omega)
    obtain ⟨d1, -, d3⟩ := inL_k hk.2.1 (by omega)
    have dO := C_doorsOf (gTn_of h.1.2) h.2.1 h.2.2.1 hL (y := 0) (by omega) (by omega) hl p1
    rw [nI_0] at dO
    unfold fX3_agrees_3 fX3_agrees_93
    rw [r2, show nI (3 * i) + (1 : Int32) = nI (3 * i + 1) from nI_add _ 1, show nI (3 * i) + (2 : Int32) = nI (3 * i + 2) from nI_add _ 2, show nI (3 * i) + (3 : Int32) = nI (3 * (i + 1)) from nI_add _ 3]
    rw [if_neg (nI_ge (by omega) (by omega)), if_pos (ixV hs (by omega)), if_pos (ixV hs (by omega)), show gIx 4 (6 + 2 * s + 1) (nI (3 * i + 2)) = true from ixV hs (by omega), nI_clamp (show 3 * i < 2 ^ 31 by omega), nI_clamp (show 3 * i + 1 < 2 ^ 31 by omega), nI_clamp (show 3 * i + 2 < 2 ^ 31 by omega), (r5 _ (by omega)).1, (r5 _ (by omega)).1, (r5 _ (by omega)).1, p3, d3, F_hasPartner h.2.1 h.2.2.1, gB0_some, ite_bI, inR_nI (by omega), decide_eq_true p1, if_pos rfl, F_hasDoor h.2.1 h.2.2.1, gB0_some, ite_bI, inR_nI (by omega), decide_eq_true d1, if_pos rfl, dO, gB0_some, F_has _ (by omega), gB0_some, bt_gMk (by omega), decide_eq_true d1, Bool.true_and, if_pos (rfl : true = true)]
    simp only [lg_cmp_eq]
    unfold agB
    by_cases c : z.2.2 s (3 * i + 2) = 1
    · rw [if_pos c, decide_eq_true c]
      cases thO v u 0 law (lk (z.2.2 s (3 * i))) (lk (z.2.2 s (3 * i + 1))) <;> rfl
    · rw [if_neg c, decide_eq_false c]
      cases thO v u 0 law (lk (z.2.2 s (3 * i))) (lk (z.2.2 s (3 * i + 1))) <;> rfl
  · show fX3_agrees_3 t (6 + 2 * s) (nI law) (nI (3 * (z.2.1 s / 3))) M = _
    unfold fX3_agrees_3
    rw [r2, show (2 : Int32) = nI 2 from rfl, nI_add, if_pos (nI_le (by omega) (by omega))]
theorem M_isSo {M : gMem} {t s law : Nat} {v : gCt} {u : gSp} {z : gRw} (h : CT M t v) (hr : RO M z) (hm : MV M v u 1) (hL : M.1 141 24 = nI law) (hs : s < 4) (hl : law ≤ 3) (h3 : z.2.1 s % 3 = 0) (hk : ∀ k, k < z.2.1 s / 3 → sgB v (z.2.2 s) k = true) : fX9_isSo (nI s) M = some (bI (agO v u law z s)) := by
  have hv0 := h.2.1.1
  obtain ⟨⟨-, -, r2, r3⟩, r4, r5⟩ := hr s hs
  unfold fX9_isSo fX9_isSo_0 fX9_isSo_2h agO
  refine Eq.trans (gLp_al (st := fun i => nI (3 * i)) (g := agB v u law (z.2.2 s)) (m := z.2.1 s / 3) (A := 0) (B := 1) (by omega) (fun i hi => ?_) ?_ 0 rfl) ?_
  rotate_right
  · cases alU (agB v u law (z.2.2 s)) (z.2.1 s / 3) <;> rfl
  · show fX9_isSo_2 (nI s) (nI (3 * i)) M = _
    have hk := hk i hi
    unfold sgB at hk
    rw [Bool.and_eq_true, Bool.and_eq_true] at hk
    obtain ⟨p1, -, p3⟩ := inL_k hk.1 (by omega)
    obtain ⟨d1, -, d3⟩ := inL_k hk.2.1 (by omega)
    have dO := M_goesThrough h.2.1 h.2.2.2.1 hm (y := 0) (by omega) (by omega) hl hL p1 d1
    rw [nI_0] at dO
    unfold fX9_isSo_2 fX9_isSo_58
    rw [if_pos (ix143 hs), nI_clamp (show s < 2 ^ 31 by omega), r3, if_neg (nI_ge (by omega) (by omega)), show (60 : Int32) = nI 60 from rfl, pk_mul, nI_add]
    rw [show nI (60 * s + 3 * i) + (1 : Int32) = nI (60 * s + (3 * i + 1)) from nI_add _ 1, show nI (60 * s + 3 * i) + (2 : Int32) = nI (60 * s + (3 * i + 2)) from nI_add _ 2, show nI (3 * i) + (3 : Int32) = nI (3 * (i + 1)) from nI_add _ 3]
    rw [if_pos (ix144 (by omega)), if_pos (ix144 (by omega)), show gIx 4 144 (nI (60 * s + (3 * i + 2))) = true from ix144 (by omega), nI_clamp (show 60 * s + 3 * i < 2 ^ 31 by omega), nI_clamp (show 60 * s + (3 * i + 1) < 2 ^ 31 by omega), nI_clamp (show 60 * s + (3 * i + 2) < 2 ^ 31 by omega), (r5 _ (by omega)).2, (r5 _ (by omega)).2, (r5 _ (by omega)).2, p3, d3, dO, gB0_some, if_pos (rfl : true = true)]
    simp only [lg_cmp_eq]
    unfold agB
    by_cases c : z.2.2 s (3 * i + 2) = 1
    · rw [if_pos c, decide_eq_true c]
      cases thO v u 0 law (lk (z.2.2 s (3 * i))) (lk (z.2.2 s (3 * i + 1))) <;> rfl
    · rw [if_neg c, decide_eq_false c]
      cases thO v u 0 law (lk (z.2.2 s (3 * i))) (lk (z.2.2 s (3 * i + 1))) <;> rfl
  · show fX9_isSo_2 (nI s) (nI (3 * (z.2.1 s / 3))) M = _
    unfold fX9_isSo_2
    rw [if_pos (ix143 hs), nI_clamp (show s < 2 ^ 31 by omega), r3, if_pos (nI_le (by omega) (by omega))]
/-! what is supposed: told joins that are false, acts aside -/
def uG (f : Nat → Bool) : gSp := fun i p => if i = 0 then f p else decide (i = 1)
def fC (n c : Nat) : Nat → Bool := fun p => decide (p < n) && !c.testBit p
theorem fC_x : ∀ n, n ≤ 7 → ∀ c, c < 128 → (gMk n (fun _ => true) : Int32) &&& (nI c ^^^ (-1)) = gMk 7 (fC n c) := by decide +kernel
theorem C_supG {M : gMem} {t : Nat} {v : gCt} {x : Int32} {f : Nat → Bool} (h : CT M t v) (hx : x = gMk 7 f) : ∃ N, fX2_supposeNothing M = some N ∧ ∃ K, fX2_live t 1 (gSI (gSI N 14 1 1) 14 0 x) = some K ∧ LVd K v (uG f) 1 ∧ CT K t v ∧ KP M K ∧ ∀ q, 61 ≤ q → K.1 q = M.1 q := by
  obtain ⟨N, n1, n2, n3, n4, n5⟩ := F_sn M
  have kN : KP M N := ⟨fun q hq => n3 q (by have := scr_no hq; omega), fun j _ => by rw [n3 141 (by omega)], fun q _ _ => by rw [n5], by rw [n5]⟩
  have kS : KP N (gSI (gSI N 14 1 1) 14 0 x) := ((Fr.si (lo := 14) (hi := 15) (by omega) (by omega)).kp (by omega) (by omega)).tr ((Fr.si (lo := 14) (hi := 15) (by omega) (by omega)).kp (by omega) (by omega))
  have hP := h.kp (kN.tr kS)
  obtain ⟨s0, s1, s2, s3, s4⟩ := n2
  have hS : SU (gSI (gSI N 14 1 1) 14 0 x) (uG f) := by
    refine ⟨?_, ?_, ?_, ?_, ?_⟩
    · rw [gSI_eq, hx]; rfl
    · rw [gSI_nj (by omega), gSI_eq]; rfl
    · rw [gSI_nj (by omega), gSI_nj (by omega)]; exact s2
    · rw [gSI_nj (by omega), gSI_nj (by omega)]; exact s3
    · rw [gSI_nj (by omega), gSI_nj (by omega)]; exact s4
  obtain ⟨K, k1, k2, k3⟩ := F_live (n := 1) (gTn_of hP.1.2) hP.2.1 hP.2.2.1 hS (by omega)
  have kK := k3.kp (by omega) (by omega)
  refine ⟨N, n1, K, k1, k2, hP.kp kK, (kN.tr kS).tr kK, fun q hq => ?_⟩
  rw [k3.1 q (by omega), gSI_ne (by omega), gSI_ne (by omega), n3 q (by omega)]
theorem M_lays_o {M N : gMem} (h : fX9_lays M = some N) : ∀ j, 33 ≤ j → N.1 141 j = M.1 141 j := by
  unfold fX9_lays fX9_lays_0 fX9_lays_12 fX9_lays_17 fX9_lays_22 fX9_lays_27 fX9_lays_32 fX9_lays_37 at h
  intro j hj
  split at h
  · split at h
    · cases h
      rw [gSI_nj (by omega), gSI_nj (by omega), gSI_nj (by omega), gSI_nj (by omega), gSI_nj (by omega), gSI_nj (by omega), gSI_nj (by omega)]
    · cases h
  · cases h
theorem M_supG {M : gMem} {t : Nat} {v : gCt} {x : Int32} {f : Nat → Bool} (h : CT M t v) (hx : ((gMk (v 0 5) (fun _ => true) : Int32) &&& (x ^^^ (-1))) = gMk 7 f) : ∃ K, fX9_laysTrue x M = some K ∧ MV K v (uG f) 1 ∧ K.1 141 24 = nI (v 0 1) ∧ CT K t v ∧ KP M K ∧ (∀ j, 33 ≤ j → K.1 141 j = M.1 141 j) ∧ ∀ q, 159 ≤ q → K.1 q = M.1 q := by
  have hv0 := h.2.1.1
  obtain ⟨N, n1, n2, n3, n4, n5, n6⟩ := F_lays h
  have no := M_lays_o n1
  have kS : KP N (gSI (gSI N 141 32 0) 141 25 (gMk 7 f)) := (KP.s141 (by omega)).tr (KP.s141 (by omega))
  have r : ∀ j, j ≠ 32 → j ≠ 25 → (gSI (gSI N 141 32 0) 141 25 (gMk 7 f)).1 141 j = N.1 141 j := fun j a b => (gSI_nj b).trans (gSI_nj a)
  obtain ⟨c1, c2, ⟨m1, m2, m3, m4⟩, c4, c5⟩ := n2
  have hS : MS (gSI (gSI N 141 32 0) 141 25 (gMk 7 f)) v (uG f) [] := by
    refine ⟨RA_same c1 (fun q _ _ => (gSI_ne (by omega)).trans (gSI_ne (by omega))), RC_same c2 (fun q _ _ => (gSI_ne (by omega)).trans (gSI_ne (by omega))), ⟨?_, ?_, ?_, ?_⟩, ?_, ?_⟩
    · rw [gSI_eq]; rfl
    · rw [r 26 (by omega) (by omega)]; exact m2
    · rw [r 27 (by omega) (by omega)]; exact m3
    · rw [gSI_nj (by omega), gSI_eq]; rfl
    · rcases c4 with ⟨b1, -⟩ | ⟨p, q, yy, -, -, -, -, -, -, -, b8⟩
      · exact Or.inl ⟨by rw [r 30 (by omega) (by omega)]; exact b1, rfl⟩
      · cases b8
    · obtain ⟨x0, x1, x2, x3⟩ := c5
      refine ⟨x0, x1, by rw [r 31 (by omega) (by omega)]; exact x2, fun p hp => ?_⟩
      rw [← x3 p hp]; rfl
  have hN := n4.kp kS
  obtain ⟨K, k1, k2, k3⟩ := F_runs (n := 1) hN.2.1 (WV_rf hN.2.1 (uG f)) hS (by omega) (gl_1000 hN.2.1 (uG f))
  rw [one_1] at k1
  have kk := (n5.tr kS).tr k3.kp
  refine ⟨K, ?_, k2, ?_, h.kp kk, kk, fun j hj => ?_, fun q hq => ?_⟩
  · unfold fX9_laysTrue fX9_laysTrue_0 fX9_laysTrue_12 fX9_laysTrue_27
    rw [n1, gB0_some, F_joins (n4.kp (KP.s141 (by omega))).2.2.2.1, gB0_some, all_k _ (by omega), hx, k1]; rfl
  · rw [k3.1 141 (by omega), r 24 (by omega) (by omega)]; exact n3
  · rw [k3.1 141 (by omega), r j (by omega) (by omega), no j hj]
  · rw [k3.1 q (by omega), gSI_ne (by omega), gSI_ne (by omega), n6 q (by omega)]
