/-! The reference: firms, funds, colds. -/
theorem tc_ti (l : List gJo) (y : Nat) (aw : Nat → Bool) (p q : Nat) : decide (0 < tcO l y aw p q) = tiO l y aw p q := by
  unfold tcO tiO
  generalize (fun x : gJo => inFo y x && ((!aw x.1 && !aw x.2.1) && ofTwo p q x)) = f
  cases h : l.any f
  · refine decide_eq_false (fun g => ?_)
    obtain ⟨x, hx, hp⟩ := List.countP_pos_iff.mp g
    have := List.any_eq_true.mpr ⟨x, hx, hp⟩
    rw [h] at this; cases this
  · refine decide_eq_true ?_
    obtain ⟨x, hx, hp⟩ := List.any_eq_true.mp h
    exact List.countP_pos_iff.mpr ⟨x, hx, hp⟩
/-- one go over all who are in, and over all again -/
def goA (n : Nat) (ti : Nat → Nat → Bool) (f : Nat → Bool) : Nat → Nat → Bool
  | 0, q => f q
  | a + 1, q => goA n ti f a q || (goA n ti f a a && (decide (q < n) && ti a q))
def goT (n : Nat) (ti : Nat → Nat → Bool) (f : Nat → Bool) : Nat → Nat → Bool
  | 0 => f
  | k + 1 => goA n ti (goT n ti f k) n
theorem goA_s (n : Nat) (ti : Nat → Nat → Bool) (f : Nat → Bool) (a q : Nat) : goA n ti f (a + 1) q = (goA n ti f a q || (goA n ti f a a && (decide (q < n) && ti a q))) := rfl
theorem goA_up {n : Nat} {ti : Nat → Nat → Bool} {f : Nat → Bool} {a q : Nat} (h : f q = true) : goA n ti f a q = true := by
  induction a with
  | zero => exact h
  | succ a ih => rw [goA_s, ih, Bool.true_or]
theorem goA_up2 {n : Nat} {ti : Nat → Nat → Bool} {f : Nat → Bool} {a q : Nat} (m : Nat) (h : goA n ti f a q = true) : goA n ti f (a + m) q = true := by
  induction m with
  | zero => exact h
  | succ m ih => rw [show a + (m + 1) = a + m + 1 from rfl, goA_s, ih, Bool.true_or]
theorem goA_step {n : Nat} {ti : Nat → Nat → Bool} {f : Nat → Bool} {a q : Nat} (ha : a < n) (hq : q < n) (h : f a = true) (ht : ti a q = true) : goA n ti f n q = true := by
  have h1 : goA n ti f (a + 1) q = true := by
    rw [goA_s, goA_up h, decide_eq_true hq, ht]; simp
  have := goA_up2 (n - (a + 1)) h1
  rwa [show a + 1 + (n - (a + 1)) = n by omega] at this
theorem goA_least {n : Nat} {ti : Nat → Nat → Bool} {f S : Nat → Bool} (hn : n ≤ 6) (h0 : ∀ q, q < 6 → f q = true → S q = true) (hS : ∀ a q, a < 6 → q < 6 → S a = true → ti a q = true → S q = true) : ∀ a, a ≤ n → ∀ q, q < 6 → goA n ti f a q = true → S q = true := by
  intro a
  induction a with
  | zero => exact fun _ => h0
  | succ a ih =>
    intro ha q hq h
    rw [goA_s, Bool.or_eq_true, Bool.and_eq_true, Bool.and_eq_true] at h
    rcases h with h | ⟨h1, -, h2⟩
    · exact ih (by omega) q hq h
    · exact hS a q (by omega) hq (ih (by omega) a (by omega) h1) h2
theorem goT_eq {n : Nat} {ti : Nat → Nat → Bool} (hn : n ≤ 6) (ht : ∀ a q, a < 6 → q < 6 → ti a q = true → a < n ∧ q < n) {p : Nat} (hp : p < n) : ∀ q, q < 6 → goT n ti (fun q => decide (q = p)) n q = fmO ti p q := by
  have up : ∀ k q, q < 6 → goT n ti (fun q => decide (q = p)) k q = true → fmO ti p q = true := by
    intro k
    induction k with
    | zero => exact fun q hq h => by rw [of_decide_eq_true h]; exact fmO_self ti p
    | succ k ih => exact goA_least hn ih (fun a q ha hq h h2 => fmO_cl (by omega) ha hq h h2) n (Nat.le_refl _)
  have lo : ∀ k q, q < 6 → clo ti (fun q => decide (q = p)) k q = true → goT n ti (fun q => decide (q = p)) k q = true := by
    intro k
    induction k with
    | zero => exact fun q _ h => h
    | succ k ih =>
      intro q hq h
      rw [clo_s, Bool.or_eq_true, anyU_iff] at h
      rcases h with h | ⟨a, ha, h⟩
      · exact goA_up (ih q hq h)
      · rw [Bool.and_eq_true] at h
        obtain ⟨h1, h2⟩ := ht a q ha hq h.2
        exact goA_step h1 h2 (ih a ha h.1) h.2
  obtain ⟨m, rfl⟩ : ∃ m, n = m + 1 := ⟨n - 1, by omega⟩
  have st := clo_n (ti := ti) (f := fun q => decide (q = p)) (n := m) hn (fun q _ h => by rw [of_decide_eq_true h]; exact hp) (fun a q ha hq h => (ht a q ha hq h).2) (one_cn (by omega))
  intro q hq
  refine Bool.eq_iff_iff.mpr ⟨up _ q hq, fun h => lo _ q hq ?_⟩
  have e1 := clo_st st 1 q hq
  have e2 := clo_st st (6 - m) q hq
  rw [show m + (6 - m) = 6 by omega] at e2
  rw [e1, ← e2]
  exact h
theorem F_firmOf {M : gMem} {v : gCt} {y : Nat} {ot : Nat → Bool} {f : Nat → Nat → Nat} (hv : gWF v) (ha : RA M v) (ho : OT M (v 0 4) y ot) (hy : y < 12) (hf : TC M y f) (hfl : ∀ a b, a < 6 → b < 6 → f a b < 2 ^ 31) (ht : ∀ a q, a < 6 → q < 6 → decide (0 < f a q) = true → a < v 0 4 ∧ q < v 0 4) {p : Nat} (hp : p < v 0 4) :
    fX9_firmOf (nI p) (nI y) M = some (if ot p = true then 0 else gMk 6 (fmO (fun a q => decide (0 < f a q)) p)) := by
  have hv0 := hv.1
  have hpe := F_people ha
  generalize hti : (fun a q => decide (0 < f a q)) = ti
  have hti' : ∀ a q, ti a q = decide (0 < f a q) := fun a q => by rw [← hti]
  generalize hnn : v 0 4 = n at *
  have hn6 : n ≤ 6 := hv0.2.2.2.2.1
  -- over b
  have loopB : ∀ (g : Nat → Bool) (t a : Nat), a < n → t < 100 → fX9_firmOf_42h (nI y) (gMk 6 g) (nI t) (nI a) 0 M = some (.inl (gMk 6 (fun q => g q || (g a && (decide (q < n) && ti a q))), nI (a + 1))) := by
    intro g t a ha ht
    unfold fX9_firmOf_42h
    refine gLp_for (fun i => (gMk 6 (fun q => g q || (g a && (decide (q < i) && ti a q))), nI i)) n _ (by omega) (fun i hi => ?_) ?_ _ (Prod.ext (show gMk 6 g = gMk 6 (fun q => g q || (g a && (decide (q < 0) && ti a q))) from gMk_ext (fun k _ => by simp)) rfl)
    · show fX9_firmOf_42 (nI y) (gMk 6 (fun q => g q || (g a && (decide (q < i) && ti a q)))) (nI t) (nI a) (nI i) M = _
      unfold fX9_firmOf_42
      rw [hpe, gB0_some, if_neg (nI_ge hi (by omega)), F_isBit _ (by omega), bt_gMk (by omega), decide_eq_true (show a < 6 by omega), Bool.true_and, gB0_some, ite_bI, nI_1]
      cases hg : g a
      · simp only [Bool.false_and, Bool.or_false, Bool.false_eq_true, if_false]
      · simp (disch := omega) only [Bool.true_or, if_true, li36, li6, pk_mul, nI_add, ix155, nI_clamp, hf a i (by omega) (by omega), Bool.true_and, b1_eq]
        by_cases h0 : f a i = 0
        · rw [h0, if_pos (by decide)]
          congr 3
          refine gMk_ext (fun q hq => ?_)
          by_cases e : q = i
          · subst e; rw [hti', h0]; simp
          · have : (q < i) = (q < i + 1) := by apply propext; omega
            rw [decide_eq_decide.mpr (by rw [this])]
        · rw [if_neg (nI_nle (by omega) (hfl a i (by omega) (by omega))), gMk_b1 (n := 6) (by omega) (show i < 6 by omega), gMk_or (by omega)]
          congr 3
          refine gMk_ext (fun q hq => ?_)
          by_cases e : q = i
          · subst e; rw [hti', decide_eq_true (show 0 < f a q by omega)]; simp
          · have : (q < i) = (q < i + 1) := by apply propext; omega
            rw [decide_eq_false e, Bool.or_false, decide_eq_decide.mpr (by rw [this])]
    · show fX9_firmOf_42 (nI y) _ (nI t) (nI a) (nI n) M = _
      unfold fX9_firmOf_42
      rw [hpe, gB0_some, if_pos (Int32.le_refl _), nI_1]
      rfl
  -- over a
  have loopA : ∀ (g : Nat → Bool) (t : Nat), t < 100 → fX9_firmOf_30h (nI y) (gMk 6 g) (nI t) 0 M = some (.inl (gMk 6 (goA n ti g n), nI (t + 1))) := by
    intro g t ht
    unfold fX9_firmOf_30h
    refine gLp_for (fun i => (gMk 6 (goA n ti g i), nI i)) n _ (by omega) (fun i hi => ?_) ?_ _ rfl
    · show fX9_firmOf_30 (nI y) (gMk 6 (goA n ti g i)) (nI t) (nI i) M = _
      unfold fX9_firmOf_30
      rw [hpe, gB0_some, if_neg (nI_ge hi (by omega)), loopB _ t i hi ht]
      rfl
    · show fX9_firmOf_30 (nI y) _ (nI t) (nI n) M = _
      unfold fX9_firmOf_30
      rw [hpe, gB0_some, if_pos (Int32.le_refl _), nI_1]
      rfl
  unfold fX9_firmOf fX9_firmOf_0
  rw [F_out ho hn6 (by omega) hp, gB0_some, ite_bI]
  cases ot p
  · simp only [Bool.false_eq_true, if_false]
    unfold fX9_firmOf_18h
    refine gLp_for (fun i => (gMk 6 (goT n ti (fun q => decide (q = p)) i), nI i)) n _ (by omega) (fun i hi => ?_) ?_ _ (Prod.ext (gMk_b1 (n := 6) (by omega) (show p < 6 by omega)) rfl)
    · show fX9_firmOf_18 (nI y) (gMk 6 (goT n ti (fun q => decide (q = p)) i)) (nI i) M = _
      unfold fX9_firmOf_18
      rw [hpe, gB0_some, if_neg (nI_ge hi (by omega)), loopA _ i (by omega)]
      rfl
    · show fX9_firmOf_18 (nI y) _ (nI n) M = _
      unfold fX9_firmOf_18
      rw [hpe, gB0_some, if_pos (Int32.le_refl _), gEx_some]
      congr 2
      exact gMk_ext (goT_eq hn6 (fun a q ha hq h => ht a q ha hq (by rw [hti'] at h; exact h)) hp)
  · simp
theorem smI_up {n m : Nat} (h : n ≤ m) {f : Nat → Bool} {w : Nat → Int32} (h0 : ∀ k, n ≤ k → k < m → f k = false) : smI m f w = smI n f w := by
  induction m with
  | zero => rw [show n = 0 by omega]
  | succ m ih =>
    by_cases e : n = m + 1
    · rw [e]
    · rw [smI, h0 m (by omega) (by omega), if_neg (by simp), ih (by omega) (fun k h1 h2 => h0 k h1 (by omega))]
theorem F_fundsOf {M : gMem} {v : gCt} {y : Nat} {W : Nat → Int32} (hv : gWF v) (ha : RA M v) (hy : y < 12) (hw : ∀ p, p < v 0 4 → M.1 158 (12 * p + y) = W p) {f : Nat → Bool} (hf : ∀ q, q < 6 → f q = true → q < v 0 4) : fX9_fundsOf (gMk 6 f) (nI y) M = some (smI 6 f W) := by
  have hv0 := hv.1
  unfold fX9_fundsOf fX9_fundsOf_0 fX9_fundsOf_5h
  rw [smI_up (n := v 0 4) (by omega) (fun k h1 h2 => by
    cases hc : f k
    · rfl
    · have := hf k h2 hc; omega)]
  refine gLp_for (fun i => (smI i f W, nI i)) (v 0 4) _ (by omega) (fun i hi => ?_) ?_ _ rfl
  · show fX9_fundsOf_5 (gMk 6 f) (nI y) (smI i f W) (nI i) M = _
    unfold fX9_fundsOf_5
    simp (disch := omega) only [F_people ha, gB0_some, nI_leI, show ¬ v 0 4 ≤ i by omega, if_false, F_isBit, bt_gMk, show i < 6 by omega, decide_true, Bool.true_and, ite_bI, li12, pk_mul, nI_add, ix158, if_true, nI_clamp, hw i hi, nI_1, smI_s]
    cases f i <;> simp
  · show fX9_fundsOf_5 (gMk 6 f) (nI y) _ (nI (v 0 4)) M = _
    unfold fX9_fundsOf_5
    rw [F_people ha, gB0_some, if_pos (Int32.le_refl _)]
    rfl
/-- who is told a cold besides -/
def CB (M : gMem) (n : Nat) (u : gSp) : Prop := ∃ x : Option Nat, (∀ z, x = some z → z < n) ∧ M.1 141 31 = oV x ∧ ∀ p, p < 6 → u 3 p = decide (x = some p)
theorem F_isToldCold {M : gMem} {v : gCt} {u : gSp} (hv : gWF v) (ha : RA M v) (hc : CB M (v 0 4) u) {p y : Nat} (hp : p < v 0 4) (hy : y < 12) : fX9_isToldCold (nI p) (nI y) M = some (bI (toC v y p || (decide (y = 0) && u 3 p))) := by
  have hv0 := hv.1
  have key : ∃ r, fX9_isToldCold (nI p) (nI y) M = some r ∧ r = bI (toC v y p || (decide (y = 0) && u 3 p)) := by
    unfold fX9_isToldCold fX9_isToldCold_0 fX9_isToldCold_2h
    refine gLp_inv (fun i (s : Int32) => s = nI i ∧ anyU i (fun c => decide (v 9 c = y) && decide (v 8 c = p)) = false) (v 0 7) (fun r => r = bI (toC v y p || (decide (y = 0) && u 3 p))) (by omega) (fun i s hi hI => ?_) (fun s hI => ?_) _ ⟨rfl, rfl⟩
    · obtain ⟨rfl, h2⟩ := hI
      obtain ⟨q1, q2⟩ := ha.2.2.2.2 i hi
      obtain ⟨w1, w2⟩ := hv.2.2.2.2.1 i hi
      obtain ⟨e1, e2⟩ := hd_at ha (k := 7) (by omega) (i := 7) rfl
      show (∃ s', fX9_isToldCold_2 (nI p) (nI y) (nI i) M = _ ∧ _) ∨ ∃ r, fX9_isToldCold_2 (nI p) (nI y) (nI i) M = _ ∧ _
      unfold fX9_isToldCold_2
      rw [if_pos e1, e2, if_neg (nI_ge hi (by omega))]
      simp (disch := omega) only [li2, pk_mul, nI_1, ix152, if_true, nI_clamp, q1, q2, nI_eq]
      by_cases c1 : v 8 i = p
      · by_cases c2 : v 9 i = y
        · rw [if_pos c1, if_pos c2]
          refine Or.inr ⟨_, rfl, ?_⟩
          have : toC v y p = true := anyU_iff.mpr ⟨i, hi, by simp [c1, c2]⟩
          rw [this]; rfl
        · rw [if_pos c1, if_neg c2]
          exact Or.inl ⟨_, rfl, rfl, by rw [anyU_s, h2]; simp [c2]⟩
      · rw [if_neg c1]
        exact Or.inl ⟨_, rfl, rfl, by rw [anyU_s, h2]; simp [c1]⟩
    · obtain ⟨rfl, h2⟩ := hI
      obtain ⟨e1, e2⟩ := hd_at ha (k := 7) (by omega) (i := 7) rfl
      show ∃ r, fX9_isToldCold_2 (nI p) (nI y) (nI (v 0 7)) M = _ ∧ _
      unfold fX9_isToldCold_2
      have h3 : toC v y p = false := h2
      rw [if_pos e1, e2, if_pos (Int32.le_refl _), h3, Bool.false_or]
      obtain ⟨x, x1, x2, x3⟩ := hc
      rw [x2, x3 p (by omega)]
      simp only [nI_n0 y (by omega)]
      cases x with
      | none =>
        show ∃ r, (if (-1 : Int32) = nI p then _ else _) = _ ∧ _
        rw [if_neg (fun h => ne_m1 p (by omega) h.symm)]
        refine ⟨_, rfl, ?_⟩
        simp [bI]
      | some z =>
        have hz := x1 z rfl
        show ∃ r, (if nI z = nI p then _ else _) = _ ∧ _
        simp (disch := omega) only [nI_eq]
        by_cases c1 : z = p
        · subst c1
          by_cases c2 : y = 0
          · rw [if_pos rfl, if_pos c2]; exact ⟨_, rfl, by simp [c2, bI]⟩
          · rw [if_pos rfl, if_neg c2]; exact ⟨_, rfl, by simp [c2, bI]⟩
        · rw [if_neg c1]; exact ⟨_, rfl, by simp [c1, bI]⟩
  obtain ⟨r, k1, k2⟩ := key
  rw [k1, k2]
/-- the year of a cold, when there was one -/
def CO (M : gMem) (n : Nat) (y : Nat) (sk : Nat → Bool) : Prop := ∀ q, q < n → ∃ x : Option Nat, (∀ z, x = some z → z < 100) ∧ M.1 157 q = oV x ∧ decide (x = some y) = sk q
theorem oV_eq {x : Option Nat} {y : Nat} (hx : ∀ z, x = some z → z < 100) (hy : y < 100) : (oV x = nI y) = (x = some y) := by
  cases x with
  | none => exact propext ⟨fun h => absurd h.symm (ne_m1 y hy), fun h => by cases h⟩
  | some z =>
    have hz := hx z rfl
    show (nI z = nI y) = _
    simp (disch := omega) only [nI_eq, Option.some.injEq]
theorem F_isCaught0 {M : gMem} {v : gCt} (hv : gWF v) (ha : RA M v) {p : Nat} : fX9_isCaught (nI p) (nI 0) M = some 0 := by
  have hv0 := hv.1
  unfold fX9_isCaught fX9_isCaught_0 fX9_isCaught_2h
  refine gLp_for (fun i => nI i) (v 0 4) _ (by omega) (fun i hi => ?_) ?_ _ rfl
  · show fX9_isCaught_2 (nI p) (nI 0) (nI i) M = _
    unfold fX9_isCaught_2
    rw [F_people ha, gB0_some, if_neg (nI_ge hi (by omega)), if_pos (by decide), nI_1]
  · show fX9_isCaught_2 (nI p) (nI 0) (nI (v 0 4)) M = _
    unfold fX9_isCaught_2
    rw [F_people ha, gB0_some, if_pos (Int32.le_refl _)]
    rfl
theorem F_isCaught {M : gMem} {v : gCt} (hv : gWF v) (ha : RA M v) {p y : Nat} (hp : p < v 0 4) (hy : y + 1 < 12) {sk : Nat → Bool} {f : Nat → Nat → Nat} (hc : CO M (v 0 4) y sk) (hf : TC M y f) (hfl : ∀ a b, a < 6 → b < 6 → f a b < 2 ^ 31) : fX9_isCaught (nI p) (nI (y + 1)) M = some (bI (anyU (v 0 4) (fun q => sk q && decide (0 < f p q)))) := by
  have hv0 := hv.1
  have key : ∃ r, fX9_isCaught (nI p) (nI (y + 1)) M = some r ∧ r = bI (anyU (v 0 4) (fun q => sk q && decide (0 < f p q))) := by
    unfold fX9_isCaught fX9_isCaught_0 fX9_isCaught_2h
    refine gLp_inv (fun i (s : Int32) => s = nI i ∧ anyU i (fun q => sk q && decide (0 < f p q)) = false) (v 0 4) (fun r => r = bI (anyU (v 0 4) (fun q => sk q && decide (0 < f p q)))) (by omega) (fun i s hi hI => ?_) (fun s hI => ?_) _ ⟨rfl, rfl⟩
    · obtain ⟨rfl, h2⟩ := hI
      obtain ⟨x, x1, x2, x3⟩ := hc i hi
      show (∃ s', fX9_isCaught_2 (nI p) (nI (y + 1)) (nI i) M = _ ∧ _) ∨ ∃ r, fX9_isCaught_2 (nI p) (nI (y + 1)) (nI i) M = _ ∧ _
      unfold fX9_isCaught_2
      rw [F_people ha, gB0_some, if_neg (nI_ge hi (by omega)), if_neg (nI_nle (by omega) (by omega)), nI_pred, ix157 (by omega), if_pos rfl, nI_clamp (by omega), x2]
      simp only [oV_eq x1 (show y < 100 by omega)]
      by_cases c : x = some y
      · rw [if_pos c]
        have hsk : sk i = true := by rw [← x3, decide_eq_true c]
        simp (disch := omega) only [li36, li6, pk_mul, nI_add, ix155, if_true, nI_clamp, hf p i (by omega) (by omega)]
        by_cases h0 : f p i = 0
        · rw [h0, if_pos (by decide)]
          exact Or.inl ⟨_, rfl, by rw [nI_1], by rw [anyU_s, h2, h0]; simp⟩
        · rw [if_neg (nI_nle (by omega) (hfl p i (by omega) (by omega)))]
          refine Or.inr ⟨_, rfl, ?_⟩
          have : anyU (v 0 4) (fun q => sk q && decide (0 < f p q)) = true := anyU_iff.mpr ⟨i, hi, by rw [hsk, decide_eq_true (by omega)]; rfl⟩
          rw [this]; rfl
      · rw [if_neg c]
        have hsk : sk i = false := by rw [← x3, decide_eq_false c]
        exact Or.inl ⟨_, rfl, by rw [nI_1], by rw [anyU_s, h2, hsk]; rfl⟩
    · obtain ⟨rfl, h2⟩ := hI
      show ∃ r, fX9_isCaught_2 (nI p) (nI (y + 1)) (nI (v 0 4)) M = _ ∧ _
      unfold fX9_isCaught_2
      rw [F_people ha, gB0_some, if_pos (Int32.le_refl _), h2]
      exact ⟨_, rfl, rfl⟩
  obtain ⟨r, k1, k2⟩ := key
  rw [k1, k2]
