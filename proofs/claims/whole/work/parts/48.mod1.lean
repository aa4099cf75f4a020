/-! The reference: its city, joins in force, ties of a year. -/
def RA (M : gMem) (v : gCt) : Prop :=
  (M.1 147 0 = nI (v 0 9) ∧ ∀ k, k < 8 → M.1 148 k = nI (v 0 k)) ∧ (∀ p, p < v 0 4 → M.1 149 (3 * p) = nI (v 1 p) ∧ M.1 149 (3 * p + 1) = nI (v 2 p) ∧ M.1 149 (3 * p + 2) = nI (v 3 p)) ∧
  (∀ j, j < v 0 5 → M.1 150 (3 * j) = nI (v 4 j) ∧ M.1 150 (3 * j + 1) = nI (v 5 j) ∧ M.1 150 (3 * j + 2) = nI (v 6 j)) ∧ (∀ d, d < v 0 6 → M.1 151 d = nI (v 7 d)) ∧
  (∀ c, c < v 0 7 → M.1 152 (2 * c) = nI (v 8 c) ∧ M.1 152 (2 * c + 1) = nI (v 9 c))
def RC (M : gMem) (v : gCt) : Prop := M.1 148 8 = nI (v 0 8) ∧ ∀ i, i < v 0 8 → M.1 153 (4 * i) = nI (v 10 i) ∧ M.1 153 (4 * i + 1) = nI (v 11 i) ∧ M.1 153 (4 * i + 2) = nI (v 12 i) ∧ M.1 153 (4 * i + 3) = nI (v 13 i)
theorem RA_same {M N : gMem} {v : gCt} (h : RA M v) (e : ∀ q, 147 ≤ q → q < 153 → N.1 q = M.1 q) : RA N v := by
  unfold RA
  rw [e 147 (by omega) (by omega), e 148 (by omega) (by omega), e 149 (by omega) (by omega), e 150 (by omega) (by omega), e 151 (by omega) (by omega), e 152 (by omega) (by omega)]
  exact h
theorem RC_same {M N : gMem} {v : gCt} (h : RC M v) (e : ∀ q, 147 ≤ q → q < 154 → N.1 q = M.1 q) : RC N v := by
  unfold RC
  rw [e 148 (by omega) (by omega), e 153 (by omega) (by omega)]
  exact h
theorem ix148 {k : Nat} (h : k < 45) : gIx 1 148 (nI k) = true := gIx_k rfl (by decide) h (by omega)
theorem ix149 {k : Nat} (h : k < 90) : gIx 1 149 (nI k) = true := gIx_k rfl (by decide) h (by omega)
theorem ix150 {k : Nat} (h : k < 105) : gIx 1 150 (nI k) = true := gIx_k rfl (by decide) h (by omega)
theorem ix151 {k : Nat} (h : k < 25) : gIx 1 151 (nI k) = true := gIx_k rfl (by decide) h (by omega)
theorem ix152 {k : Nat} (h : k < 50) : gIx 1 152 (nI k) = true := gIx_k rfl (by decide) h (by omega)
theorem ix153 {k : Nat} (h : k < 600) : gIx 1 153 (nI k) = true := gIx_k rfl (by decide) h (by omega)
theorem ix155 {k : Nat} (h : k < 432) : gIx 1 155 (nI k) = true := gIx_k rfl (by decide) h (by omega)
theorem ix156 {k : Nat} (h : k < 6) : gIx 1 156 (nI k) = true := gIx_k rfl (by decide) h (by omega)
theorem ix157 {k : Nat} (h : k < 6) : gIx 1 157 (nI k) = true := gIx_k rfl (by decide) h (by omega)
theorem ix158 {k : Nat} (h : k < 72) : gIx 1 158 (nI k) = true := gIx_k rfl (by decide) h (by omega)
theorem li2 : (2 : Int32) = nI 2 := rfl
theorem li3 : (3 : Int32) = nI 3 := rfl
theorem li4 : (4 : Int32) = nI 4 := rfl
theorem li6 : (6 : Int32) = nI 6 := rfl
theorem li9 : (9 : Int32) = nI 9 := rfl
theorem li12 : (12 : Int32) = nI 12 := rfl
theorem li36 : (36 : Int32) = nI 36 := rfl
/-- a number of the head: what has place k -/
theorem hd_at {M : gMem} {v : gCt} (h : RA M v) {k : Nat} (hk : k < 8) {i : Int32} (hi : i = nI k) : gIx 1 148 i = true ∧ M.1 148 (Int32.toNatClampNeg i) = nI (v 0 k) := by
  subst hi
  exact ⟨ix148 (by omega), by rw [nI_clamp (by omega)]; exact h.1.2 k hk⟩
theorem F_people {M : gMem} {v : gCt} (h : RA M v) : fX9_people M = some (nI (v 0 4)) := by
  obtain ⟨h1, h2⟩ := hd_at h (k := 4) (by omega) (i := 4) rfl
  unfold fX9_people fX9_people_0
  rw [if_pos h1, h2]
theorem F_joins {M : gMem} {v : gCt} (h : RA M v) : fX9_joins M = some (nI (v 0 5)) := by
  obtain ⟨h1, h2⟩ := hd_at h (k := 5) (by omega) (i := 5) rfl
  unfold fX9_joins fX9_joins_0
  rw [if_pos h1, h2]
theorem F_years {M : gMem} {v : gCt} (h : RA M v) : fX9_years M = some (nI (v 0 0)) := by
  obtain ⟨h1, h2⟩ := hd_at h (k := 0) (by omega) (i := 0) rfl
  unfold fX9_years fX9_years_0
  rw [if_pos h1, h2]
theorem F_in (a lo hi : Int64) (M : gMem) : fX9_in a lo hi M = some (bI (decide (lo.toInt ≤ a.toInt) && decide (a.toInt ≤ hi.toInt))) := by
  unfold fX9_in fX9_in_0
  simp only [lg_cmp_lt, lg_cmp_gt, Int64.lt_iff_toInt_lt]
  by_cases h1 : a.toInt < lo.toInt
  · rw [if_pos h1, decide_eq_false (by omega), Bool.false_and]; rfl
  · rw [if_neg h1, decide_eq_true (by omega), Bool.true_and]
    by_cases h2 : hi.toInt < a.toInt
    · rw [if_pos h2, decide_eq_false (by omega)]; rfl
    · rw [if_neg h2, decide_eq_true (by omega)]; rfl
theorem F_isBit (s : Int32) {k : Nat} (hk : k < 32) (M : gMem) : fX9_isBit s (nI k) M = some (bI (bt s k)) := by
  unfold fX9_isBit fX9_isBit_0
  rw [shr_and1 s hk]
  cases bt s k
  · rw [bI_f, if_neg (by decide)]
  · rw [bI_t, if_pos rfl]
theorem F_isPair {M : gMem} {v : gCt} (hr : RC M v) (hv : gWF v) {i a b : Nat} (hi : i < v 0 8) (ha : a < 6) (hb : b < 6) : fX9_isPair (nI i) (nI a) (nI b) M = some (bI (isPr v i a b)) := by
  have hv0 := hv.1
  obtain ⟨r1, r2, -, -⟩ := hr.2 i hi
  obtain ⟨w1, w2, -, -, -⟩ := hv.2.2.2.2.2 i hi
  unfold fX9_isPair fX9_isPair_0 fX9_isPair_26 isPr
  simp (disch := omega) only [li4, pk_mul, nI_1, ix153, nI_clamp, r1, r2, nI_eq, if_true]
  exact isOf_b _ _ a b
/-- the first year of it, as the reference keeps it -/
def oV (x : Option Nat) : Int32 := match x with
  | some z => nI z
  | none => -1
def oB (x : Option Nat) (y : Nat) : Bool := match x with
  | some z => decide (z ≤ y)
  | none => false
theorem ne_m1 : ∀ z, z < 100 → ¬ nI z = -1 := by decide +kernel
theorem F_isOut {M : gMem} {p y : Nat} (hp : p < 6) (hy : y < 100) (x : Option Nat) (hx : ∀ z, x = some z → z < 100) (h : M.1 156 p = oV x) : fX9_isOut (nI p) (nI y) M = some (bI (oB x y)) := by
  unfold fX9_isOut fX9_isOut_0
  rw [ix156 hp, if_pos rfl, nI_clamp (by omega), h]
  cases x with
  | none => rfl
  | some z =>
    have hz := hx z rfl
    show (if nI z = -1 then _ else _) = some (bI (decide (z ≤ y)))
    rw [if_neg (ne_m1 z hz), if_pos rfl]
    show (if nI y < nI z then _ else _) = _
    simp (disch := omega) only [nI_ltI]
    by_cases e : y < z
    · rw [if_pos e, decide_eq_false (by omega)]; rfl
    · rw [if_neg e, decide_eq_true (by omega)]; rfl
/-- no act before the n-th cuts it in a year up to y -/
theorem cutY_lt {v : gCt} {a b fr bb y : Nat} (hy : y < 1000) : ∀ n, (y < cutY v a b fr bb n) ↔ ∀ k, k < n → cutsIt v a b fr bb k = true → y < v 12 k
  | 0 => ⟨fun _ k hk => absurd hk (Nat.not_lt_zero k), fun _ => hy⟩
  | n + 1 => by
    rw [cutY]
    by_cases h : cutsIt v a b fr bb n = true
    · rw [if_pos h, Nat.lt_min, cutY_lt hy n]
      refine ⟨fun g k hk hc => ?_, fun g => ⟨fun k hk hc => g k (by omega) hc, g n (by omega) h⟩⟩
      by_cases e : k = n
      · subst e; exact g.2
      · exact g.1 k (by omega) hc
    · rw [if_neg h, cutY_lt hy n]
      refine ⟨fun g k hk hc => ?_, fun g k hk hc => g k (by omega) hc⟩
      by_cases e : k = n
      · subst e; exact absurd hc h
      · exact g k (by omega) hc
theorem F_isHolding {M : gMem} {v : gCt} {u : gSp} (hr : RC M v) (hv : gWF v) (h26 : M.1 141 26 = gMk 6 (u 4)) (h32 : M.1 141 32 = bI (!u 1 0)) {a b fr wax bb y : Nat} {act : Int32} (ha : a < 6) (hb : b < 6) (hf : fr < 100) (hw : 1 ≤ wax) (hw2 : wax < 100) (hy : y < 100) (hA : ∀ i, i < 31 → (nI i ≤ act ↔ ¬ bb ≤ i)) :
    fX9_isHolding (nI a) (nI b) (nI fr) (nI wax) act (nI y) M = some (bI (inFo y (mkJ v u a b fr (fr + wax) bb))) := by
  have hv0 := hv.1
  have hlp : fX9_isHolding_45h (nI a) (nI b) (nI fr) act (nI y) 0 M = some (bI (u 1 0 || decide (y < cutY v a b fr bb (v 0 8)))) := by
    unfold fX9_isHolding_45h
    have key : ∃ r, gLp (fun s : Int32 => fX9_isHolding_45 (nI a) (nI b) (nI fr) act (nI y) s M) gFu 0 = some r ∧ r = bI (u 1 0 || decide (y < cutY v a b fr bb (v 0 8))) := by
      refine gLp_inv (fun i (s : Int32) => s = nI i ∧ (u 1 0 = false → ∀ k, k < i → cutsIt v a b fr bb k = true → y < v 12 k)) (v 0 8) (fun r => r = bI (u 1 0 || decide (y < cutY v a b fr bb (v 0 8)))) (by omega) (fun i s hi hI => ?_) (fun s hI => ?_) _ ⟨rfl, fun _ k hk => absurd hk (Nat.not_lt_zero k)⟩
      · obtain ⟨h1, h2⟩ := hI
        subst h1
        obtain ⟨r1, r2, r3, r4⟩ := hr.2 i hi
        obtain ⟨w1, w2, w3, w4, w5⟩ := hv.2.2.2.2.2 i hi
        show (∃ s', fX9_isHolding_45 (nI a) (nI b) (nI fr) act (nI y) (nI i) M = _ ∧ _) ∨ ∃ r, fX9_isHolding_45 (nI a) (nI b) (nI fr) act (nI y) (nI i) M = _ ∧ _
        unfold fX9_isHolding_45
        have h8 : gIx 1 148 (8 : Int32) = true := ix148 (k := 8) (by omega)
        rw [h8, if_pos rfl, show Int32.toNatClampNeg (8 : Int32) = 8 from rfl, hr.1, if_neg (nI_ge hi (by omega)), h32, ite_bI]
        cases hu : u 1 0
        · simp (disch := omega) only [Bool.not_false, if_true, li4, li3, li2, pk_mul, nI_add, ix153, nI_clamp, r3, r4, F_isPair hr hv hi ha hb, gB0_some, ite_bI, nI_n0, nI_ltI, nI_eq, nI_1, hA i (by omega)]
          have hnot : ∀ (hc : ¬ y < v 12 i) (hcu : cutsIt v a b fr bb i = true), bI (false || decide (y < cutY v a b fr bb (v 0 8))) = 0 := by
            intro hc hcu
            rw [Bool.false_or, decide_eq_false]
            · rfl
            · intro g
              exact hc ((cutY_lt (by omega) _).mp g i hi hcu)
          have hgo : (cutsIt v a b fr bb i = true → y < v 12 i) → (nI (i + 1) = nI (i + 1) ∧ (True → ∀ k, k < i + 1 → cutsIt v a b fr bb k = true → y < v 12 k)) := by
            intro g
            refine ⟨rfl, fun _ k hk hc => ?_⟩
            by_cases e : k = i
            · subst e; exact g hc
            · exact h2 hu k (by omega) hc
          by_cases c1 : v 13 i = 0
          · rw [if_pos c1]
            cases c2 : isPr v i a b
            · exact Or.inl ⟨_, rfl, hgo (fun hc => by unfold cutsIt at hc; rw [c2, Bool.and_false, Bool.and_false] at hc; cases hc)⟩
            · rw [if_pos rfl]
              by_cases c3 : y < v 12 i
              · rw [if_pos c3]; exact Or.inl ⟨_, rfl, hgo (fun _ => c3)⟩
              · rw [if_neg c3]
                by_cases c4 : fr < v 12 i
                · rw [if_pos c4]
                  exact Or.inr ⟨_, rfl, (hnot c3 (by unfold cutsIt; simp [c1, c2, c4])).symm⟩
                · rw [if_neg c4]
                  by_cases c5 : v 12 i = fr
                  · rw [if_pos c5]
                    by_cases c6 : bb ≤ i
                    · rw [if_neg (fun h => h c6)]
                      exact Or.inr ⟨_, rfl, (hnot c3 (by unfold cutsIt; simp [c1, c2, c5, c6])).symm⟩
                    · rw [if_pos c6]
                      exact Or.inl ⟨_, rfl, hgo (fun hc => by unfold cutsIt at hc; simp [c4, c6] at hc)⟩
                  · rw [if_neg c5]
                    exact Or.inl ⟨_, rfl, hgo (fun hc => by unfold cutsIt at hc; simp [c4, c5] at hc)⟩
          · rw [if_neg c1]
            exact Or.inl ⟨_, rfl, hgo (fun hc => by unfold cutsIt at hc; simp [c1] at hc)⟩
        · exact Or.inr ⟨_, rfl, rfl⟩
      · obtain ⟨h1, h2⟩ := hI
        subst h1
        show ∃ r, fX9_isHolding_45 (nI a) (nI b) (nI fr) act (nI y) (nI (v 0 8)) M = _ ∧ _
        unfold fX9_isHolding_45
        have h8 : gIx 1 148 (8 : Int32) = true := ix148 (k := 8) (by omega)
        rw [h8, if_pos rfl, show Int32.toNatClampNeg (8 : Int32) = 8 from rfl, hr.1, if_pos (Int32.le_refl _)]
        refine ⟨_, rfl, ?_⟩
        cases hu : u 1 0
        · rw [Bool.false_or, decide_eq_true]
          · rfl
          · exact (cutY_lt (by omega) _).mpr (h2 hu)
        · rfl
    obtain ⟨r, k1, k2⟩ := key
    rw [k1, k2]
  unfold fX9_isHolding fX9_isHolding_0
  rw [F_in, gB0_some, ite_bI, show (1 : Int32) = nI 1 from rfl, nI_add, pk_sub (by omega), Int32.toInt_toInt64, Int32.toInt_toInt64, Int32.toInt_toInt64, nI_toInt (by omega), nI_toInt (by omega), nI_toInt (by omega), h26, F_isBit _ (by omega), F_isBit _ (by omega), bt_gMk (by omega), bt_gMk (by omega), decide_eq_true ha, decide_eq_true hb, Bool.true_and, Bool.true_and]
  unfold inFo mkJ
  show _ = some (bI (decide (fr ≤ y) && decide (y < if u 4 a = true ∨ u 4 b = true then 0 else if u 1 0 = true then fr + wax else min (fr + wax) (cutY v a b fr bb (v 0 8)))))
  by_cases h1 : fr ≤ y ∧ y < fr + wax
  · rw [decide_eq_true (show (fr : Int) ≤ (y : Int) by omega), decide_eq_true (show (y : Int) ≤ ((fr + wax - 1 : Nat) : Int) by omega)]
    simp only [Bool.and_self, if_true, gB0_some, ite_bI, hlp]
    cases hA4 : u 4 a
    · cases hB4 : u 4 b
      · cases hu : u 1 0
        · simp only [Bool.false_eq_true, if_false, or_self, decide_eq_true h1.1, Bool.true_and, Bool.false_or]
          congr 2
          exact decide_eq_decide.mpr ⟨fun g => by omega, fun g => by omega⟩
        · simp [h1.1, h1.2]
      · simp [bI]
    · simp [bI]
  · have e : (decide ((fr : Int) ≤ (y : Int)) && decide ((y : Int) ≤ ((fr + wax - 1 : Nat) : Int))) = false := by
      by_cases h2 : fr ≤ y
      · rw [decide_eq_false (p := (y : Int) ≤ _) (by omega), Bool.and_false]
      · rw [decide_eq_false (p := (fr : Int) ≤ _) (by omega), Bool.false_and]
    rw [e]
    simp only [Bool.false_eq_true, if_false]
    have e2 : (decide (fr ≤ y) && decide (y < if u 4 a = true ∨ u 4 b = true then 0 else if u 1 0 = true then fr + wax else min (fr + wax) (cutY v a b fr bb (v 0 8)))) = false := by
      by_cases h2 : fr ≤ y
      · rw [decide_eq_false (p := y < _), Bool.and_false]
        split
        · omega
        · split
          · omega
          · omega
      · rw [decide_eq_false h2, Bool.false_and]
    rw [e2]; rfl
