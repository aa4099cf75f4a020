/-! How wide: by each law, on both sides. -/
def suU : Nat → (Nat → Bool) → (Nat → Nat) → Nat
  | 0, _, _ => 0
  | n + 1, f, w => suU n f w + (if f n = true then w n else 0)
def mxF : Nat → (Nat → Bool) → (Nat → Nat) → Nat
  | 0, _, _ => 0
  | n + 1, f, w => if f n = true then max (mxF n f w) (w n) else mxF n f w
theorem suU_s (n : Nat) (f : Nat → Bool) (w : Nat → Nat) : suU (n + 1) f w = suU n f w + (if f n = true then w n else 0) := rfl
theorem mxF_s (n : Nat) (f : Nat → Bool) (w : Nat → Nat) : mxF (n + 1) f w = if f n = true then max (mxF n f w) (w n) else mxF n f w := rfl
theorem suU_le {n k : Nat} {f : Nat → Bool} {w : Nat → Nat} (h : ∀ i, i < n → w i ≤ k) : suU n f w ≤ n * k := by
  induction n with
  | zero => exact Nat.zero_le _
  | succ n ih =>
    rw [suU, Nat.succ_mul]
    have := ih (fun i hi => h i (by omega))
    have := h n (by omega)
    split <;> omega
theorem mxF_le {n k : Nat} {f : Nat → Bool} {w : Nat → Nat} (h : ∀ i, i < n → w i ≤ k) : mxF n f w ≤ k := by
  induction n with
  | zero => exact Nat.zero_le _
  | succ n ih =>
    rw [mxF]
    have := ih (fun i hi => h i (by omega))
    have := h n (by omega)
    split <;> omega
/-- how wide a set of partners is by a law, so many joins among them -/
def wdO (v : gCt) (law : Nat) (f : Nat → Bool) (m : Nat) : Int32 := if law = 0 then nI (suU (v 0 4) f (v 1)) else if law = 1 then nI (mxF (v 0 4) f (v 1)) else if law = 2 then nI (2 * cnU 6 f) else gMx 1 (nI (suU (v 0 4) f (v 1)) - nI m)
theorem wsu_le {v : gCt} (hv : gWF v) (f : Nat → Bool) (i : Nat) (hi : i ≤ v 0 4) : suU i f (v 1) ≤ 54 := by
  have hv0 := hv.1
  have := suU_le (n := i) (k := 9) (f := f) (w := v 1) (fun p hp => (hv.2.1 p (by omega)).2.1)
  omega
theorem wmx_le {v : gCt} (hv : gWF v) (f : Nat → Bool) (i : Nat) (hi : i ≤ v 0 4) : mxF i f (v 1) ≤ 9 := mxF_le (fun p hp => (hv.2.1 p (by omega)).2.1)
theorem F_widthOf {M : gMem} {t : Nat} {v : gCt} (ht : gTn t) (hv : gWF v) (hr : RT M t v) {law m : Nat} (hl : law ≤ 3) (f : Nat → Bool) : fX7_widthOf t (gMk 6 f) (nI law) (nI m) M = some (wdO v law f m) := by
  have hv0 := hv.1
  have hnp := hr.1.2.2.2.2.2.1
  unfold fX7_widthOf fX7_widthOf_0 fX7_widthOf_9h
  refine gLp_for (fun i => (nI (suU i f (v 1)), nI (mxF i f (v 1)), nI i)) (v 0 4) _ (by omega) (fun i hi => ?_) ?_ _ rfl
  · show fX7_widthOf_9 t (gMk 6 f) (nI law) (nI m) (nI (suU i f (v 1))) (nI (mxF i f (v 1))) (nI i) M = _
    have a1 := wmx_le hv f i (by omega)
    have a2 := (hv.2.1 i hi).2.1
    unfold fX7_widthOf_9
    rw [hnp, if_neg (nI_ge hi (by omega)), F_has _ (by omega), bt_gMk (by omega), decide_eq_true (show i < 6 by omega), Bool.true_and, gB0_some, ite_bI, ix1 ht (by omega), if_pos rfl, if_pos rfl, nI_clamp (by omega), (hr.2.1 i hi).1, nI_add, gMx_nI (by omega) (by omega), nI_1, suU_s, mxF_s]
    cases f i <;> rfl
  · show fX7_widthOf_9 t (gMk 6 f) (nI law) (nI m) (nI (suU (v 0 4) f (v 1))) (nI (mxF (v 0 4) f (v 1))) (nI (v 0 4)) M = _
    unfold fX7_widthOf_9 wdO
    rw [hnp, if_pos (Int32.le_refl _)]
    rcases (by omega : law = 0 ∨ law = 1 ∨ law = 2 ∨ law = 3) with rfl | rfl | rfl | rfl
    · rfl
    · rfl
    · rw [if_neg (by decide), if_neg (by decide), if_pos (by decide), F_bc, gB0_some, gPop_6, li2, pk_mul]; rfl
    · rw [if_neg (by decide), if_neg (by decide), if_neg (by decide)]; rfl
theorem sub_le1 {σ : Type} (d : Int32) : (if d ≤ 1 then some (Sum.inr (1 : Int32)) else some (Sum.inr d) : Option (Sum σ Int32)) = some (Sum.inr (gMx 1 d)) := by
  unfold gMx
  by_cases c : (1 : Int32) < d
  · rw [if_pos c, if_neg (Int32.not_le.mpr c)]
  · rw [if_neg c, if_pos (Int32.not_lt.mp c)]
theorem M_wideOf {M : gMem} {v : gCt} (hv : gWF v) (ha : RA M v) {law m : Nat} (hl : law ≤ 3) (hm : m < 1000) (hL : M.1 141 24 = nI law) {f : Nat → Bool} : fX9_wideOf (gMk 6 f) (nI m) M = some (if gMk 6 f = 0 then nI (suU (v 0 4) f (v 1)) else wdO v law f m) := by
  have hv0 := hv.1
  unfold fX9_wideOf fX9_wideOf_0 fX9_wideOf_8h
  refine gLp_for (fun i => (nI (suU i f (v 1)), nI (mxF i f (v 1)), nI i)) (v 0 4) _ (by omega) (fun i hi => ?_) ?_ _ rfl
  · show fX9_wideOf_8 (gMk 6 f) (nI m) (nI (suU i f (v 1))) (nI (mxF i f (v 1))) (nI i) M = _
    have a1 := wmx_le hv f i (by omega)
    have a2 := (hv.2.1 i hi).2.1
    unfold fX9_wideOf_8
    rw [F_people ha, gB0_some, if_neg (nI_ge hi (by omega)), F_isBit _ (by omega), bt_gMk (by omega), decide_eq_true (show i < 6 by omega), Bool.true_and, gB0_some, ite_bI, li3, pk_mul, ix149 (by omega), if_pos rfl, if_pos rfl, if_pos rfl, nI_clamp (by omega), (ha.2.1 i hi).1, nI_add, nI_1, suU_s, mxF_s]
    cases f i
    · rfl
    · simp (disch := omega) only [nI_leI, if_true]
      by_cases c : v 1 i ≤ mxF i f (v 1)
      · rw [if_pos c, Nat.max_eq_left c]
      · rw [if_neg c, Nat.max_eq_right (by omega)]
  · show fX9_wideOf_8 (gMk 6 f) (nI m) (nI (suU (v 0 4) f (v 1))) (nI (mxF (v 0 4) f (v 1))) (nI (v 0 4)) M = _
    unfold fX9_wideOf_8 wdO
    rw [F_people ha, gB0_some, if_pos (Int32.le_refl _), hL]
    by_cases c : gMk 6 f = 0
    · rw [if_pos c, if_pos c]; rfl
    · rw [if_neg c, if_neg c]
      rcases (by omega : law = 0 ∨ law = 1 ∨ law = 2 ∨ law = 3) with rfl | rfl | rfl | rfl
      · rfl
      · rfl
      · rw [if_neg (by decide), if_neg (by decide), if_pos (by decide), F_size6, gB0_some, li2, pk_mul]; rfl
      · rw [if_neg (by decide), if_neg (by decide), if_neg (by decide)]
        exact sub_le1 _
/-! joins among a set -/
def amO (l : List gJo) (y : Nat) (f : Nat → Bool) : Nat := l.countP (fun x => inFo y x && (f x.1 && f x.2.1))
theorem take_cnt {l : List gJo} {e : Nat} (he : e < l.length) (f : gJo → Bool) : (l.take (e + 1)).countP f = (l.take e).countP f + (if f l[e] = true then 1 else 0) := by
  rw [List.take_succ_eq_append_getElem he, List.countP_append, List.countP_singleton]
theorem C_joinsAmong {M : gMem} {l : List gJo} (hg : GA M l) (hl : l.length ≤ 38) (hk : ∀ x ∈ l, okJ 6 x) {y : Nat} (hy : y < 100) (f : Nat → Bool) : fX2_joinsAmong (gMk 6 f) (nI y) M = some (nI (amO l y f)) := by
  unfold fX2_joinsAmong fX2_joinsAmong_0 fX2_joinsAmong_5h
  refine gLp_for (fun e => (nI (amO (l.take e) y f), nI e)) l.length _ (by omega) (fun e he => ?_) ?_ _ rfl
  · obtain ⟨q1, q2, q3, q4⟩ := GA_gt hg he
    obtain ⟨k1, k2, k3, k4, k5⟩ := hk _ (List.getElem_mem he)
    show fX2_joinsAmong_5 (gMk 6 f) (nI y) (nI (amO (l.take e) y f)) (nI e) M = some (Sum.inl (nI (amO (l.take (e + 1)) y f), nI (e + 1)))
    have hs : amO (l.take (e + 1)) y f = amO (l.take e) y f + (if (inFo y l[e] && (f (l[e]).1 && f (l[e]).2.1)) = true then 1 else 0) := take_cnt he _
    rw [hs]
    unfold fX2_joinsAmong_5 fX2_joinsAmong_40 fX2_joinsAmong_41 inFo
    generalize l[e] = x at *
    rw [hg.1, if_neg (nI_ge he (by omega))]
    simp (disch := omega) only [ix15, ix16, ix17, ix18, nI_clamp, q1, q2, q3, q4, if_true, nI_leI, nI_ltI, F_has, gB0_some, ite_bI, bt_gMk, k1, k2, decide_true, Bool.true_and, nI_1]
    by_cases h1 : y < x.2.2.1
    · have h1' : ¬ x.2.2.1 ≤ y := by omega
      simp [h1, h1']
    · have h1' : x.2.2.1 ≤ y := by omega
      by_cases h2 : x.2.2.2 ≤ y
      · have h2' : ¬ y < x.2.2.2 := by omega
        simp [h1, h1', h2, h2']
      · have h2' : y < x.2.2.2 := by omega
        cases h3 : f x.1 <;> cases h4 : f x.2.1 <;> simp [h1, h1', h2, h2']
  · show fX2_joinsAmong_5 (gMk 6 f) (nI y) _ (nI l.length) M = _
    unfold fX2_joinsAmong_5
    rw [hg.1, if_pos (Int32.le_refl _), List.take_length]
    rfl
/-- pairs of a set: g over all a < b -/
def prS (n : Nat) (a : Nat) (g : Nat → Nat → Nat) : Nat → Nat
  | 0 => 0
  | k + 1 => prS n a g k + g a (a + 1 + k)
def paS (n : Nat) (g : Nat → Nat → Nat) : Nat → Nat
  | 0 => 0
  | a + 1 => paS n g a + prS n a g (n - (a + 1))
theorem prS_s (n a : Nat) (g : Nat → Nat → Nat) (k : Nat) : prS n a g (k + 1) = prS n a g k + g a (a + 1 + k) := rfl
theorem paS_s (n : Nat) (g : Nat → Nat → Nat) (a : Nat) : paS n g (a + 1) = paS n g a + prS n a g (n - (a + 1)) := rfl
theorem prS_add (n a : Nat) (g h : Nat → Nat → Nat) (k : Nat) : prS n a (fun x y => g x y + h x y) k = prS n a g k + prS n a h k := by
  induction k with
  | zero => rfl
  | succ k ih => rw [prS, prS, prS, ih]; omega
theorem paS_add (n : Nat) (g h : Nat → Nat → Nat) (k : Nat) : paS n (fun x y => g x y + h x y) k = paS n g k + paS n h k := by
  induction k with
  | zero => rfl
  | succ k ih => rw [paS, paS, paS, ih, prS_add]; omega
theorem prS_ext {n a : Nat} {g h : Nat → Nat → Nat} {k : Nat} (e : ∀ b, a < b → b < a + 1 + k → g a b = h a b) : prS n a g k = prS n a h k := by
  induction k with
  | zero => rfl
  | succ k ih => rw [prS, prS, ih (fun b h1 h2 => e b h1 (by omega)), e _ (by omega) (by omega)]
theorem paS_ext {n : Nat} {g h : Nat → Nat → Nat} {k : Nat} (hk : k ≤ n) (e : ∀ a b, a < b → b < n → g a b = h a b) : paS n g k = paS n h k := by
  induction k with
  | zero => rfl
  | succ k ih => rw [paS, paS, ih (by omega), prS_ext (fun b h1 h2 => e k b h1 (by omega))]
theorem prS_one {n a c b : Nat} (k : Nat) (ha : a < b) : prS n a (fun _ y => if y = b then c else 0) k = if b < a + 1 + k then c else 0 := by
  induction k with
  | zero => rw [if_neg (by omega)]; rfl
  | succ k ih =>
    rw [prS, ih]
    by_cases h1 : b < a + 1 + k
    · rw [if_pos h1, if_neg (by omega), if_pos (by omega)]; rfl
    · by_cases h2 : a + 1 + k = b
      · rw [if_neg h1, if_pos h2, if_pos (by omega)]; omega
      · rw [if_neg h1, if_neg h2, if_neg (by omega)]
theorem prS_0 (n a k : Nat) : prS n a (fun _ _ => 0) k = 0 := by
  induction k with
  | zero => rfl
  | succ k ih => rw [prS, ih]
theorem paS_one {n p q c : Nat} (hpq : p < q) (hq : q < n) : ∀ k, k ≤ n → paS n (fun x y => if x = p ∧ y = q then c else 0) k = if p < k then c else 0 := by
  intro k
  induction k with
  | zero => intro _; rw [if_neg (by omega)]; rfl
  | succ k ih =>
    intro hk
    rw [paS, ih (by omega)]
    by_cases e : k = p
    · subst e
      rw [if_neg (by omega), if_pos (by omega)]
      have : prS n k (fun x y => if x = k ∧ y = q then c else 0) (n - (k + 1)) = prS n k (fun _ y => if y = q then c else 0) (n - (k + 1)) := prS_ext (fun b _ _ => by simp)
      rw [this, prS_one _ hpq, if_pos (by omega)]; omega
    · have : prS n k (fun x y => if x = p ∧ y = q then c else 0) (n - (k + 1)) = prS n k (fun _ _ => 0) (n - (k + 1)) := prS_ext (fun b _ _ => by rw [if_neg (fun h => e h.1)])
      rw [this, prS_0]
      by_cases e2 : p < k
      · rw [if_pos e2, if_pos (by omega)]; rfl
      · rw [if_neg e2, if_neg (by omega)]
theorem pair_cnt {n y : Nat} {aw f : Nat → Bool} (hf : ∀ p, f p = true → aw p = false) : ∀ l : List gJo, (∀ x ∈ l, okJ n x) → paS n (fun a b => if (f a && f b) = true then tcO l y aw a b else 0) n = amO l y f := by
  intro l
  induction l with
  | nil =>
    intro _
    have : paS n (fun a b => if (f a && f b) = true then tcO [] y aw a b else 0) n = paS n (fun _ _ => 0) n := paS_ext (Nat.le_refl _) (fun a b _ _ => by unfold tcO; simp)
    rw [this]
    have z : ∀ k, paS n (fun _ _ => 0) k = 0 := fun k => by
      induction k with
      | zero => rfl
      | succ k ih => rw [paS, ih, prS_0]
    exact z n
  | cons x l ih =>
    intro hk
    obtain ⟨k1, k2, k3, -, -⟩ := hk x List.mem_cons_self
    have ih' := ih (fun z hz => hk z (List.mem_cons_of_mem _ hz))
    have hs : ∀ a b, tcO (x :: l) y aw a b = tcO l y aw a b + if (inFo y x && ((!aw x.1 && !aw x.2.1) && ofTwo a b x)) = true then 1 else 0 := fun a b => by unfold tcO; rw [List.countP_cons]
    have ha : amO (x :: l) y f = amO l y f + if (inFo y x && (f x.1 && f x.2.1)) = true then 1 else 0 := by unfold amO; rw [List.countP_cons]
    rw [ha, ← ih']
    have hx : paS n (fun a b => if (f a && f b) = true then tcO (x :: l) y aw a b else 0) n = paS n (fun a b => (if (f a && f b) = true then tcO l y aw a b else 0) + (if a = min x.1 x.2.1 ∧ b = max x.1 x.2.1 then (if (inFo y x && (f x.1 && f x.2.1)) = true then 1 else 0) else 0)) n := by
      refine paS_ext (Nat.le_refl _) (fun a b hab _ => ?_)
      rw [hs]
      have hof : ofTwo a b x = decide (a = min x.1 x.2.1 ∧ b = max x.1 x.2.1) := by
        unfold ofTwo
        refine Bool.eq_iff_iff.mpr ?_
        simp only [Bool.or_eq_true, Bool.and_eq_true, decide_eq_true_eq]
        omega
      rw [hof]
      by_cases c : a = min x.1 x.2.1 ∧ b = max x.1 x.2.1
      · rw [if_pos c, decide_eq_true c, Bool.and_true]
        have hff : (f a && f b) = (f x.1 && f x.2.1) := by
          obtain ⟨c1, c2⟩ := c
          rcases Nat.lt_or_ge x.1 x.2.1 with h | h
          · rw [c1, c2, Nat.min_eq_left (by omega), Nat.max_eq_right (by omega)]
          · rw [c1, c2, Nat.min_eq_right h, Nat.max_eq_left h, Bool.and_comm]
        rw [hff]
        cases h1 : f x.1
        · simp
        · cases h2 : f x.2.1
          · simp
          · rw [hf _ h1, hf _ h2]; simp
      · rw [if_neg c, decide_eq_false c]; simp
    rw [hx, paS_add, paS_one (by omega) (by omega) n (Nat.le_refl _), if_pos (by omega)]
theorem M_joinsIn {M : gMem} {v : gCt} {u : gSp} {n y : Nat} (hv : gWF v) (ha : RA M v) (hm : MV M v u n) (hy : y < n) (hn : n ≤ 12) {f : Nat → Bool} (hf : ∀ p, f p = true → goY v u y p = false) : fX9_joinsIn (gMk 6 f) (nI y) M = some (nI (amO (gl v u) y f)) := by
  have hv0 := hv.1
  have hT := hm.2 y hy
  rw [← pair_cnt hf (gl v u) (gl_ok hv u)]
  generalize hg : (fun a b => if (f a && f b) = true then tcO (gl v u) y (goY v u y) a b else 0) = g
  have hg' : ∀ a b, g a b = if (f a && f b) = true then tcO (gl v u) y (goY v u y) a b else 0 := fun a b => by rw [← hg]
  unfold fX9_joinsIn fX9_joinsIn_0 fX9_joinsIn_5h
  refine gLp_for (fun a => (nI (paS (v 0 4) g a), nI a)) (v 0 4) _ (by omega) (fun a ha2 => ?_) ?_ _ rfl
  · show fX9_joinsIn_5 (gMk 6 f) (nI y) (nI (paS (v 0 4) g a)) (nI a) M = some (Sum.inl (nI (paS (v 0 4) g (a + 1)), nI (a + 1)))
    unfold fX9_joinsIn_5 fX9_joinsIn_20h
    rw [F_people ha, gB0_some, if_neg (nI_ge ha2 (by omega)), nI_1]
    refine gLp_for (fun j => (nI (paS (v 0 4) g a + prS (v 0 4) a g j), nI (a + 1 + j))) (v 0 4 - (a + 1)) _ (by omega) (fun j hj => ?_) ?_ _ rfl
    · show fX9_joinsIn_20 (gMk 6 f) (nI y) (nI (paS (v 0 4) g a + prS (v 0 4) a g j)) (nI a) (nI (a + 1 + j)) M = some (Sum.inl (nI (paS (v 0 4) g a + prS (v 0 4) a g (j + 1)), nI (a + 1 + (j + 1))))
      unfold fX9_joinsIn_20
      rw [F_people ha, gB0_some, if_neg (nI_ge (by omega) (by omega)), F_isBit _ (by omega), F_isBit _ (by omega), bt_gMk (by omega), bt_gMk (by omega), decide_eq_true (show a < 6 by omega), decide_eq_true (show a + 1 + j < 6 by omega), Bool.true_and, Bool.true_and, gB0_some, gB0_some, ite_bI, ite_bI, li36, li6, pk_mul, pk_mul, nI_add, nI_add, ix155 (by omega), if_pos rfl, nI_clamp (by omega), hT a (a + 1 + j) (by omega) (by omega), nI_add, nI_1, Int32.add_zero, prS_s, hg']
      cases f a
      · rfl
      · cases f (a + 1 + j)
        · rfl
        · simp only [if_true, Bool.and_self]
          rw [Nat.add_assoc]; rfl
    · show fX9_joinsIn_20 (gMk 6 f) (nI y) _ (nI a) (nI (a + 1 + (v 0 4 - (a + 1)))) M = _
      rw [show a + 1 + (v 0 4 - (a + 1)) = v 0 4 by omega]
      unfold fX9_joinsIn_20
      rw [F_people ha, gB0_some, if_pos (Int32.le_refl _), nI_1]
      rfl
  · show fX9_joinsIn_5 (gMk 6 f) (nI y) _ (nI (v 0 4)) M = _
    unfold fX9_joinsIn_5
    rw [F_people ha, gB0_some, if_pos (Int32.le_refl _)]
    rfl
