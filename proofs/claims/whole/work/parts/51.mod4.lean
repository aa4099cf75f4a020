/-! The reference: a year, and the years. -/
/-- the first of it below n -/
def frO (f : Nat → Bool) : Nat → Option Nat
  | 0 => none
  | n + 1 => match frO f n with
    | some z => some z
    | none => if f n = true then some n else none
theorem frO_none {f : Nat → Bool} {n : Nat} : frO f n = none ↔ ∀ z, z < n → f z = false := by
  induction n with
  | zero => exact ⟨fun _ z hz => absurd hz (Nat.not_lt_zero z), fun _ => rfl⟩
  | succ n ih =>
    rw [frO]
    cases h : frO f n with
    | some z =>
      refine ⟨fun g => (by cases g), fun g => ?_⟩
      have := ih.mpr (fun z hz => g z (by omega))
      rw [this] at h; cases h
    | none =>
      have h' := ih.mp h
      refine ⟨fun g z hz => ?_, fun g => ?_⟩
      · by_cases e : z = n
        · subst e
          cases hf : f z
          · rfl
          · simp [hf] at g
        · exact h' z (by omega)
      · simp [g n (by omega)]
theorem frO_some {f : Nat → Bool} {n z : Nat} (h : frO f n = some z) : z < n ∧ f z = true ∧ ∀ k, k < z → f k = false := by
  induction n with
  | zero => cases h
  | succ n ih =>
    rw [frO] at h
    cases hf : frO f n with
    | some k =>
      rw [hf] at h
      cases h
      obtain ⟨h1, h2, h3⟩ := ih hf
      exact ⟨by omega, h2, h3⟩
    | none =>
      rw [hf] at h
      have h' := frO_none.mp hf
      by_cases e : f n = true
      · have h : (if f n = true then some n else none) = some z := h
        rw [if_pos e] at h
        cases h
        exact ⟨by omega, e, h'⟩
      · have h : (if f n = true then some n else none) = some z := h
        rw [if_neg e] at h; cases h
theorem frO_lt {f : Nat → Bool} {n : Nat} (hn : n ≤ 99) : ∀ z, frO f n = some z → z < 100 := fun z h => by have := (frO_some h).1; omega
theorem oB_fr {f : Nat → Bool} (hm : ∀ a b, a ≤ b → f a = true → f b = true) {n z : Nat} (hz : z < n) : oB (frO f n) z = f z := by
  cases h : frO f n with
  | none => exact (frO_none.mp h z hz).symm
  | some k =>
    obtain ⟨h1, h2, h3⟩ := frO_some h
    show decide (k ≤ z) = f z
    by_cases e : k ≤ z
    · rw [decide_eq_true e, hm k z e h2]
    · rw [decide_eq_false e, h3 z (by omega)]
theorem goY_s (v : gCt) (u : gSp) (y p : Nat) (h : goY v u y p = true) : goY v u (y + 1) p = true := by
  rw [goY_eq]
  show (go0 v u (y + 1) p || _) = true
  rw [show go0 v u (y + 1) p = goY v u y p from rfl, h]; rfl
theorem goY_mono (v : gCt) (u : gSp) (p : Nat) : ∀ a b, a ≤ b → goY v u a p = true → goY v u b p = true := by
  intro a b hab h
  induction b with
  | zero => rwa [show a = 0 by omega] at h
  | succ b ih =>
    by_cases e : a = b + 1
    · rwa [e] at h
    · exact goY_s v u b p (ih (by omega))
theorem oB_go0 (v : gCt) (u : gSp) (y p : Nat) : oB (frO (fun z => goY v u z p) y) y = go0 v u y p := by
  cases y with
  | zero => rfl
  | succ y =>
    show _ = goY v u y p
    cases h : frO (fun z => goY v u z p) (y + 1) with
    | none => exact (frO_none.mp h y (by omega)).symm
    | some k =>
      obtain ⟨h1, h2, h3⟩ := frO_some h
      show decide (k ≤ y + 1) = _
      rw [decide_eq_true (by omega)]
      exact (goY_mono v u p k y (by omega) h2).symm
theorem ev0_eq (v : gCt) (u : gSp) (y p : Nat) : ev0 v u y p = anyU y (fun z => skY v u z p) := by
  induction y with
  | zero => rfl
  | succ y ih =>
    show evY v u y p = _
    rw [evY_eq, anyU_s, ← ih]
theorem sk_ev {v : gCt} {u : gSp} {y p : Nat} (h : skY v u y p = true) : ev0 v u y p = false := by
  rw [skY_eq] at h
  unfold siO at h
  cases hc : ev0 v u y p
  · rfl
  · rw [hc] at h; simp at h
theorem sk_once {v : gCt} {u : gSp} {y z p : Nat} (h : skY v u y p = true) (h2 : skY v u z p = true) : y = z := by
  have key : ∀ a b, a < b → skY v u a p = true → skY v u b p = true → False := by
    intro a b hab ha hb
    have := sk_ev hb
    rw [ev0_eq] at this
    rw [anyU_iff.mpr ⟨a, hab, ha⟩] at this; cases this
  rcases Nat.lt_trichotomy y z with e | e | e
  · exact (key y z e h h2).elim
  · exact e
  · exact (key z y e h2 h).elim
theorem fr_sk (v : gCt) (u : gSp) (p : Nat) {n z : Nat} (hz : z < n) : decide (frO (fun y => skY v u y p) n = some z) = skY v u z p := by
  cases hs : skY v u z p
  · refine decide_eq_false (fun h => ?_)
    have := (frO_some h).2.1
    rw [hs] at this; cases this
  · refine decide_eq_true ?_
    cases h : frO (fun y => skY v u y p) n with
    | none => have := frO_none.mp h z hz; rw [hs] at this; cases this
    | some k => rw [sk_once (frO_some h).2.1 hs]
theorem fr_ev (v : gCt) (u : gSp) (p n : Nat) : (oV (frO (fun y => skY v u y p) n) = -1) = (ev0 v u n p = false) ∨ 99 < n := by
  by_cases hn : n ≤ 99
  · refine Or.inl ?_
    rw [ev0_eq]
    cases h : frO (fun y => skY v u y p) n with
    | none =>
      have h' := frO_none.mp h
      refine propext ⟨fun _ => ?_, fun _ => rfl⟩
      cases hc : anyU n (fun z => skY v u z p)
      · rfl
      · obtain ⟨k, k1, k2⟩ := anyU_iff.mp hc
        rw [h' k k1] at k2; cases k2
    | some k =>
      obtain ⟨h1, h2, h3⟩ := frO_some h
      refine propext ⟨fun g => absurd g (ne_m1 k (by omega)), fun g => ?_⟩
      rw [anyU_iff.mpr ⟨k, h1, h2⟩] at g; cases g
  · exact Or.inr (by omega)
/-- the reference's still rows -/
def MS (M : gMem) (v : gCt) (u : gSp) (ex : List gJo) : Prop := RA M v ∧ RC M v ∧ SM M u ∧ BE M v u ex ∧ CB M (v 0 4) u
/-- only the reference's years have changed -/
def YF (M N : gMem) : Prop := (∀ q, q < 155 ∨ 159 ≤ q → N.1 q = M.1 q) ∧ N.2 = M.2
theorem YF.rf {M : gMem} : YF M M := ⟨fun _ _ => rfl, rfl⟩
theorem YF.tr {M N K : gMem} (h : YF M N) (g : YF N K) : YF M K := ⟨fun q hq => (g.1 q hq).trans (h.1 q hq), g.2.trans h.2⟩
theorem YF.si {M : gMem} {o j : Nat} {x : Int32} (h1 : 155 ≤ o) (h2 : o < 159) : YF M (gSI M o j x) := ⟨fun q hq => gSI_ne (by omega), rfl⟩
theorem TF.yf {y : Nat} {M N : gMem} (h : TF y M N) : YF M N := ⟨fun q hq => h.2.1 q (by omega), h.2.2⟩
theorem MS.yf {M N : gMem} {v : gCt} {u : gSp} {ex : List gJo} (h : MS M v u ex) (g : YF M N) : MS N v u ex := by
  obtain ⟨h1, h2, h3, h4, h5⟩ := h
  have e := g.1 141 (by omega)
  refine ⟨RA_same h1 (fun q _ _ => g.1 q (by omega)), RC_same h2 (fun q _ _ => g.1 q (by omega)), ?_, ?_, ?_⟩
  · unfold SM; rw [e]; exact h3
  · unfold BE; rw [e]; exact h4
  · unfold CB; rw [e]; exact h5
/-- a city for whose years the reference's rows stand -/
def WV (v w : gCt) (u : gSp) (ex : List gJo) : Prop := gWF w ∧ gl w u = gl v u ++ ex ∧ ∀ k i, k < 10 → ¬ (k = 0 ∧ i = 8) → w k i = v k i
theorem RA_w {M : gMem} {v w : gCt} {u : gSp} {ex : List gJo} (h : RA M v) (hw : WV v w u ex) : RA M w := by
  have e := hw.2.2
  unfold RA
  rw [e 0 9 (by omega) (by omega), e 0 4 (by omega) (by omega), e 0 5 (by omega) (by omega), e 0 6 (by omega) (by omega), e 0 7 (by omega) (by omega)]
  refine ⟨⟨h.1.1, fun k hk => by rw [e 0 k (by omega) (by omega)]; exact h.1.2 k hk⟩, fun p hp => ?_, fun p hp => ?_, fun p hp => ?_, fun p hp => ?_⟩
  · rw [e 1 p (by omega) (by omega), e 2 p (by omega) (by omega), e 3 p (by omega) (by omega)]; exact h.2.1 p hp
  · rw [e 4 p (by omega) (by omega), e 5 p (by omega) (by omega), e 6 p (by omega) (by omega)]; exact h.2.2.1 p hp
  · rw [e 7 p (by omega) (by omega)]; exact h.2.2.2.1 p hp
  · rw [e 8 p (by omega) (by omega), e 9 p (by omega) (by omega)]; exact h.2.2.2.2 p hp
/-- the reference's years: n of them told -/
def MV (M : gMem) (w : gCt) (u : gSp) (n : Nat) : Prop :=
  (∀ p, p < w 0 4 → M.1 156 p = oV (frO (fun z => goY w u z p) n) ∧ M.1 157 p = oV (frO (fun z => skY w u z p) n) ∧ ∀ z, z ≤ n → z < 12 → M.1 158 (12 * p + z) = woY w u z p) ∧
  ∀ z, z < n → TC M z (tcO (gl w u) z (goY w u z))
theorem tc_lt {l : List gJo} (hl : l.length ≤ 1000) (y : Nat) (aw : Nat → Bool) (a b : Nat) : tcO l y aw a b < 2 ^ 31 := by
  have : tcO l y aw a b ≤ l.length := List.countP_le_length
  omega
theorem tcO_ext {l : List gJo} {n y : Nat} {aw aw2 : Nat → Bool} (hk : ∀ x ∈ l, okJ n x) (h : ∀ p, p < n → aw p = aw2 p) (p q : Nat) : tcO l y aw p q = tcO l y aw2 p q := by
  unfold tcO
  induction l with
  | nil => rfl
  | cons x l ih =>
    obtain ⟨k1, k2, -, -, -⟩ := hk x List.mem_cons_self
    rw [List.countP_cons, List.countP_cons, ih (fun z hz => hk z (List.mem_cons_of_mem _ hz)), h _ k1, h _ k2]
theorem fmO_ext2 {l : List gJo} (y : Nat) (aw : Nat → Bool) (p q : Nat) (hq : q < 6) : fmO (fun a q => decide (0 < tcO l y aw a q)) p q = fmO (tiO l y aw) p q := fmO_ext (fun a q _ _ => tc_ti l y aw a q) p q hq
theorem F_year_w {M : gMem} {v w : gCt} {u : gSp} {ex : List gJo} {y : Nat} (hv : gWF v) (hw : WV v w u ex) (hs : MS M v u ex) (hy : y < 12)
    (h1 : ∀ p, p < w 0 4 → M.1 156 p = oV (frO (fun z => goY w u z p) (y + 1)) ∧ M.1 157 p = oV (frO (fun z => skY w u z p) (y + 1)) ∧ ∀ z, z ≤ y → z < 12 → M.1 158 (12 * p + z) = woY w u z p) :
    ∃ N, fX9_year_165h (nI y) 0 M = some N ∧ (∀ p, p < w 0 4 → ∀ z, z ≤ y + 1 → z < 12 → N.1 158 (12 * p + z) = woY w u z p) ∧ (∀ q, q ≠ 158 → N.1 q = M.1 q) ∧ N.2 = M.2 := by
  have hw0 := hw.1.1
  unfold fX9_year_165h
  refine gLp_inv (fun i (s : Int32 × gMem) => s.1 = nI i ∧ (∀ p, p < w 0 4 → ∀ z, (z ≤ y ∨ (z = y + 1 ∧ p < i)) → z < 12 → s.2.1 158 (12 * p + z) = woY w u z p) ∧ (∀ q, q ≠ 158 → s.2.1 q = M.1 q) ∧ s.2.2 = M.2) (w 0 4) (fun (N : gMem) => (∀ p, p < w 0 4 → ∀ z, z ≤ y + 1 → z < 12 → N.1 158 (12 * p + z) = woY w u z p) ∧ (∀ q, q ≠ 158 → N.1 q = M.1 q) ∧ N.2 = M.2) (by omega) (fun i s hi hI => ?_) (fun s hI => ?_) _ ⟨rfl, fun p hp z hz h12 => (h1 p hp).2.2 z (by omega) h12, fun _ _ => rfl, rfl⟩
  · obtain ⟨i', N⟩ := s
    obtain ⟨g1, hI⟩ := hI
    have g1 : i' = nI i := g1
    subst g1
    obtain ⟨g2, g3, g4⟩ := hI
    have g2 : ∀ p, p < w 0 4 → ∀ z, (z ≤ y ∨ (z = y + 1 ∧ p < i)) → z < 12 → N.1 158 (12 * p + z) = woY w u z p := g2
    have g3 : ∀ q, q ≠ 158 → N.1 q = M.1 q := g3
    have g4 : N.2 = M.2 := g4
    have hraw : RA N w := RA_same (RA_w hs.1 hw) (fun q _ _ => g3 q (by omega))
    obtain ⟨q1, q2, q3⟩ := hraw.2.1 i hi
    obtain ⟨e1, e2⟩ := hd_at hraw (k := 2) (by omega) (i := 2) rfl
    have hot : OT N (w 0 4) y (goY w u y) := fun p hp => ⟨_, frO_lt (n := y + 1) (by omega), by rw [g3 156 (by omega)]; exact (h1 p hp).1, oB_fr (goY_mono w u p) (by omega)⟩
    show (∃ s', fX9_year_165 (nI y) (nI i) N = _ ∧ _) ∨ ∃ r, fX9_year_165 (nI y) (nI i) N = _ ∧ _
    unfold fX9_year_165 fX9_year_224 fX9_year_225
    rw [F_people hraw, gB0_some, if_neg (nI_ge hi (by omega)), nI_1, li12]
    by_cases c : 12 ≤ y + 1
    · rw [if_pos (nI_le c (by omega))]
      exact Or.inr ⟨_, rfl, fun p hp z hz h12 => g2 p hp z (by omega) h12, g3, g4⟩
    · rw [if_neg (nI_ge (by omega) (by omega)), F_out hot (by omega) (by omega) hi, gB0_some, ite_bI]
      have fin : ∀ x : Int32, x = (if goY w u y i = true then 0 else nI (w 3 i) - (if skY w u y i = true then nI (w 0 2) else 0)) →
          ∃ s', some (Sum.inl (nI (i + 1), gSI N 158 (12 * i + y + 1) (woY w u y i + x))) = some (Sum.inl s' : Sum (Int32 × gMem) gMem) ∧ s'.1 = nI (i + 1) ∧ (∀ p, p < w 0 4 → ∀ z, (z ≤ y ∨ (z = y + 1 ∧ p < i + 1)) → z < 12 → s'.2.1 158 (12 * p + z) = woY w u z p) ∧ (∀ q, q ≠ 158 → s'.2.1 q = M.1 q) ∧ s'.2.2 = M.2 := by
        intro x hx
        refine ⟨_, rfl, rfl, fun p hp z hz h12 => ?_, fun q hq => (gSI_ne hq).trans (g3 q hq), g4⟩
        by_cases e : 12 * p + z = 12 * i + y + 1
        · have hz1 : z = y + 1 := by omega
          have hp1 : p = i := by omega
          subst hz1; subst hp1
          show (gSI N 158 (12 * p + y + 1) _).1 158 (12 * p + (y + 1)) = _
          rw [← Nat.add_assoc, gSI_eq, woY_s, hx]
        · show (gSI N 158 (12 * i + y + 1) _).1 158 (12 * p + z) = _
          rw [gSI_nj e]
          exact g2 p hp z (by omega) h12
      refine Or.inl ?_
      have hw1 := g2 i hi y (by omega) hy
      simp (disch := omega) only [li3, li2, pk_mul, nI_add, nI_1, ix149, ix157, ix158, if_true, nI_clamp, q3, hw1]
      have hcold : N.1 157 i = oV (frO (fun z => skY w u z i) (y + 1)) := by rw [g3 157 (by omega)]; exact (h1 i hi).2.1
      have hce : (N.1 157 i = nI y) = (skY w u y i = true) := by
        rw [hcold, oV_eq (frO_lt (by omega)) (by omega)]
        have := fr_sk w u i (show y < y + 1 by omega)
        refine propext ⟨fun h => by rw [← this, decide_eq_true h], fun h => of_decide_eq_true (this.trans h)⟩
      cases hg : goY w u y i
      · simp only [Bool.false_eq_true, if_false, hce]
        cases hsk : skY w u y i
        · simp only [Bool.false_eq_true, if_false]
          exact fin _ (by rw [hg, hsk]; simp)
        · simp only [if_true]
          rw [ix148 (k := 2) (by omega), if_pos rfl, hraw.1.2 2 (by omega)]
          exact fin _ (by rw [hg, hsk]; simp)
      · simp only [if_true]
        exact fin _ (by rw [hg]; simp)
  · obtain ⟨i', N⟩ := s
    obtain ⟨g1, hI⟩ := hI
    have g1 : i' = nI (w 0 4) := g1
    subst g1
    obtain ⟨g2, g3, g4⟩ := hI
    have g3 : ∀ q, q ≠ 158 → N.1 q = M.1 q := g3
    have hraw : RA N w := RA_same (RA_w hs.1 hw) (fun q _ _ => g3 q (by omega))
    show ∃ r, fX9_year_165 (nI y) (nI (w 0 4)) N = _ ∧ _
    unfold fX9_year_165
    rw [F_people hraw, gB0_some, if_pos (Int32.le_refl _)]
    exact ⟨_, rfl, fun p hp z hz h12 => g2 p hp z (by omega) h12, g3, g4⟩
