/-! The class: a town lived through. -/
def tj (v : gCt) (u : gSp) (k : Nat) : gJo := mkJ v u (v 4 k) (v 5 k) 0 (if u 0 k = true then 0 else v 6 k) 0
theorem glT_at (v : gCt) (u : gSp) : ∀ n k, k < n → (glT v u n)[k]? = some (tj v u k) := by
  intro n
  induction n with
  | zero => intro k hk; exact absurd hk (Nat.not_lt_zero k)
  | succ n ih =>
    intro k hk
    rw [glT]
    by_cases e : k < n
    · rw [List.getElem?_append_left (by rw [glT_len]; exact e)]
      exact ih k e
    · have : k = n := by omega
      subst this
      rw [List.getElem?_append_right (by rw [glT_len]; exact Nat.le_refl _), glT_len, Nat.sub_self]
      rfl
theorem glA_at (v : gCt) (u : gSp) (n : Nat) {k : Nat} (hk : k < v 0 5) : (glA v u n)[k]? = some (tj v u k) := by
  induction n with
  | zero => exact glT_at v u _ k hk
  | succ n ih =>
    rw [glA]
    split
    · exact ih
    · have := (List.getElem?_eq_some_iff.mp ih).1
      rw [List.getElem?_append_left this]
      exact ih
theorem gl_at (v : gCt) (u : gSp) {k : Nat} (hk : k < v 0 5) : (gl v u)[k]? = some (tj v u k) := by
  unfold gl
  split
  · exact glT_at v u _ k hk
  · exact glA_at v u _ hk
theorem F_worthOf {M : gMem} {y : Nat} (hy : y < 12) (f : Nat → Bool) : fX2_worthOf (gMk 6 f) (nI y) M = some (smI 6 f (M.1 (23 + y))) := by
  unfold fX2_worthOf fX2_worthOf_0 fX2_worthOf_5h
  refine gLp_for (fun i => (smI i f (M.1 (23 + y)), nI i)) 6 _ (by omega) (fun i hi => ?_) ?_ _ rfl
  · show fX2_worthOf_5 (gMk 6 f) (nI y) (smI i f (M.1 (23 + y))) (nI i) M = _
    unfold fX2_worthOf_5
    simp (disch := omega) only [show (6 : Int32) = nI 6 from rfl, nI_leI, show ¬ 6 ≤ i by omega, if_false, F_has, gB0_some, ite_bI, bt_gMk, hi, decide_true, Bool.true_and, ix22 hy, if_true, nI_clamp, ra22, ixW hy hi, nI_1, smI_s]
    cases f i <;> simp
  · show fX2_worthOf_5 (gMk 6 f) (nI y) _ (nI 6) M = _
    unfold fX2_worthOf_5
    rw [show (6 : Int32) = nI 6 from rfl, if_pos (Int32.le_refl _)]
    rfl
def hdO (n : Nat) (ti : Nat → Nat → Bool) (aw : Nat → Bool) (p : Nat) : Bool := (decide (p < n) && !aw p) && !anyU p (fun k => fmO ti p k)
theorem gMk_all {p : Nat} (hp : p ≤ 6) : gMk p (fun _ => true) = gMk 6 (fun k => decide (k < p)) := by
  refine gMk_of (by omega) (fun k hk => ?_) (fun k hk _ => ?_)
  · rw [bt_gMk (by omega), Bool.and_true]
  · rw [bt_gMk (by omega), Bool.and_true, decide_eq_false (by omega)]
theorem F_isFirst {M : gMem} {y p n : Nat} {ti : Nat → Nat → Bool} {aw : Nat → Bool} (hy : y < 12) (hp : p < 6) (hf : M.1 (49 + y) p = fiR n ti aw p) : fX2_isFirstOfFirm (nI p) (nI y) M = some (bI (hdO n ti aw p)) := by
  unfold fX2_isFirstOfFirm fX2_isFirstOfFirm_0
  simp (disch := omega) only [ix48 hy, if_true, nI_clamp, ra48, ixF hy hp, hf, F_allOf, gB0_some]
  unfold fiR hdO
  by_cases h : p < n ∧ aw p = false
  · rw [if_pos h, if_neg (gMk_ne0 (by omega) hp (fmO_self ti p)), gMk_all (by omega), gMk_and (by omega), decide_eq_true h.1, h.2]
    have e : (gMk 6 (fun k => fmO ti p k && decide (k < p)) = 0) = (anyU p (fun k => fmO ti p k) = false) := by
      rw [gMk_eq0 (by omega)]
      refine propext ⟨fun g => ?_, fun g k hk => ?_⟩
      · cases hc : anyU p (fun k => fmO ti p k)
        · rfl
        · obtain ⟨k, h1, h2⟩ := anyU_iff.mp hc
          have := g k (by omega)
          rw [h2, decide_eq_true h1] at this; cases this
      · by_cases e : k < p
        · cases hc : fmO ti p k
          · rfl
          · have := anyU_iff.mpr ⟨k, e, hc⟩
            rw [this] at g; cases g
        · rw [decide_eq_false e, Bool.and_false]
    simp only [e]
    cases anyU p (fun k => fmO ti p k) <;> simp [bI]
  · rw [if_neg h, if_pos rfl]
    have e : (decide (p < n) && !aw p) = false := by
      by_cases h1 : p < n
      · cases h2 : aw p
        · exact absurd ⟨h1, h2⟩ h
        · simp
      · simp [h1]
    rw [e]; rfl
theorem least_of {f : Nat → Bool} : ∀ (n : Nat) {q : Nat}, q ≤ n → f q = true → ∃ p, p ≤ q ∧ f p = true ∧ ∀ k, k < p → f k = false := by
  intro n
  induction n with
  | zero => intro q hq h; exact ⟨q, Nat.le_refl _, h, fun k hk => by omega⟩
  | succ n ih =>
    intro q hq h
    by_cases hex : ∃ k, k < q ∧ f k = true
    · obtain ⟨k, hk, hf⟩ := hex
      obtain ⟨p, p1, p2, p3⟩ := ih (q := k) (by omega) hf
      exact ⟨p, by omega, p2, p3⟩
    · refine ⟨q, Nat.le_refl _, h, fun k hk => ?_⟩
      cases hf : f k
      · rfl
      · exact absurd ⟨k, hk, hf⟩ hex
theorem F_failingIn {M : gMem} {t y n : Nat} {l : List gJo} {aw : Nat → Bool} {W : Nat → Int32} (hy : y < 12) (hn : n ≤ 6) (hp : M.1 t 5 = nI n) (hk : ∀ x ∈ l, okJ n x) (hf : ∀ q, q < 6 → M.1 (49 + y) q = fiR n (tiO l y aw) aw q) (hw : ∀ p, p < n → M.1 (23 + y) p = W p) :
    fX2_failingIn t (nI y) M = some (gMk 6 (fun p => decide (p < n) && (!aw p && decide (smI 6 (fmO (tiO l y aw) p) W < 0)))) := by
  have hsm : ∀ p, p < n → smI 6 (fmO (tiO l y aw) p) (M.1 (23 + y)) = smI 6 (fmO (tiO l y aw) p) W := fun p hp => smI_ext (fun _ _ => rfl) (fun k hk6 hkf => hw k (fm_lt hk hp hk6 hkf))
  unfold fX2_failingIn fX2_failingIn_0 fX2_failingIn_5h
  refine gLp_for (fun i => (gMk 6 (fun q => anyU i (fun p => (hdO n (tiO l y aw) aw p && decide (smI 6 (fmO (tiO l y aw) p) W < 0)) && fmO (tiO l y aw) p q)), nI i)) n _ (by omega) (fun i hi => ?_) ?_ _ (Prod.ext (gMk_0 (n := 6) (by omega)) rfl)
  · have hi6 : i < 6 := by omega
    show fX2_failingIn_5 t (nI y) _ (nI i) M = _
    unfold fX2_failingIn_5
    rw [hp, if_neg (nI_ge hi (by omega)), ix48 hy, if_pos rfl, nI_clamp (by omega), ra48, ixF hy hi6, if_pos rfl, F_isFirst hy hi6 (hf i hi6), gB0_some, ite_bI, nI_clamp (by omega), hf i hi6, nI_1]
    have hs : ∀ q, anyU (i + 1) (fun p => (hdO n (tiO l y aw) aw p && decide (smI 6 (fmO (tiO l y aw) p) W < 0)) && fmO (tiO l y aw) p q) = (anyU i (fun p => (hdO n (tiO l y aw) aw p && decide (smI 6 (fmO (tiO l y aw) p) W < 0)) && fmO (tiO l y aw) p q) || ((hdO n (tiO l y aw) aw i && decide (smI 6 (fmO (tiO l y aw) i) W < 0)) && fmO (tiO l y aw) i q)) := fun q => anyU_s _ _
    cases hh : hdO n (tiO l y aw) aw i
    · simp only [Bool.false_eq_true, if_false]
      congr 3
      exact gMk_ext (fun q _ => by rw [hs, hh]; simp)
    · have hh2 := hh
      unfold hdO at hh2
      simp only [Bool.and_eq_true, decide_eq_true_eq, Bool.not_eq_true'] at hh2
      unfold fiR
      rw [if_pos hh2.1, if_pos rfl, F_worthOf hy, gB0_some, hsm i hi]
      by_cases h0 : smI 6 (fmO (tiO l y aw) i) W < 0
      · rw [if_neg (Int32.not_le.mpr h0), gMk_or (by omega)]
        congr 3
        exact gMk_ext (fun q _ => by rw [hs, hh, decide_eq_true h0]; simp)
      · rw [if_pos (Int32.not_lt.mp h0)]
        congr 3
        exact gMk_ext (fun q _ => by rw [hs, hh, decide_eq_false h0]; simp)
  · show fX2_failingIn_5 t (nI y) _ (nI n) M = _
    unfold fX2_failingIn_5
    rw [hp, if_pos (Int32.le_refl _), gEx_some]
    congr 2
    refine gMk_ext (fun q hq => ?_)
    refine Bool.eq_iff_iff.mpr ⟨fun h => ?_, fun h => ?_⟩
    · obtain ⟨p, p1, p2⟩ := anyU_iff.mp h
      simp only [Bool.and_eq_true, decide_eq_true_eq] at p2
      obtain ⟨⟨h1, h2⟩, h3⟩ := p2
      unfold hdO at h1
      simp only [Bool.and_eq_true, decide_eq_true_eq, Bool.not_eq_true'] at h1
      have e : smI 6 (fmO (tiO l y aw) q) W = smI 6 (fmO (tiO l y aw) p) W := smI_ext (fun k hk => (fmO_eq (tiO_sy l y aw) (by omega) hq h3 k hk).symm) (fun _ _ _ => rfl)
      simp only [Bool.and_eq_true, decide_eq_true_eq, Bool.not_eq_true']
      exact ⟨fm_lt hk p1 hq h3, fm_aw hk h1.1.2 hq h3, by rw [e]; exact h2⟩
    · simp only [Bool.and_eq_true, decide_eq_true_eq, Bool.not_eq_true'] at h
      obtain ⟨h1, h2, h3⟩ := h
      obtain ⟨p, p1, p2, p3⟩ := least_of (f := fmO (tiO l y aw) q) q (Nat.le_refl _) (fmO_self _ q)
      have hp6 : p < 6 := by omega
      have heq := fmO_eq (tiO_sy l y aw) hq hp6 p2
      have e : smI 6 (fmO (tiO l y aw) p) W = smI 6 (fmO (tiO l y aw) q) W := smI_ext (fun k hk => (heq k hk).symm) (fun _ _ _ => rfl)
      refine anyU_iff.mpr ⟨p, by omega, ?_⟩
      simp only [Bool.and_eq_true, decide_eq_true_eq]
      refine ⟨⟨?_, by rw [e]; exact h3⟩, ?_⟩
      · unfold hdO
        have e1 : anyU p (fun k => fmO (tiO l y aw) p k) = false := by
          cases hc : anyU p (fun k => fmO (tiO l y aw) p k)
          · rfl
          · obtain ⟨k, k1, k2⟩ := anyU_iff.mp hc
            rw [← heq k (by omega), p3 k k1] at k2; cases k2
        rw [e1, decide_eq_true (show p < n by omega), fm_aw hk h2 hp6 p2]; rfl
      · rw [← heq q hq]; exact fmO_self _ q
theorem F_change {M : gMem} {t y p : Nat} {v : gCt} {go sk : Nat → Bool} (ht : gTn t) (hv : gWF v) (hr : RT M t v) (hy : y < 12) (hp : p < v 0 4) (h1 : M.1 20 y = gMk 6 go) (h2 : M.1 21 y = gMk 6 sk) : fX2_change t (nI y) (nI p) M = some (if go p = true then 0 else nI (v 3 p) - (if sk p = true then nI (v 0 2) else 0)) := by
  have hv0 := hv.1
  obtain ⟨r1, r2, r3⟩ := hr.2.1 p hp
  have hs := hr.1.2.2.2.1
  have hp6 : p < 6 := by omega
  unfold fX2_change fX2_change_0
  simp (disch := omega) only [ix20 hy, ix21 hy, if_true, nI_clamp, h1, h2, F_has, gB0_some, ite_bI, bt_gMk, hp6, decide_true, Bool.true_and, ix3 ht, r3, hs]
  cases go p <;> cases sk p <;> rfl
theorem F_tellWorths {M : gMem} {t y : Nat} {v : gCt} {u : gSp} (ht : gTn t) (hv : gWF v) (hr : RT M t v) (hy : y < 12) (h : ∀ z, y = z + 1 → M.1 20 z = gMk 6 (goY v u z) ∧ M.1 21 z = gMk 6 (skY v u z) ∧ ∀ p, p < v 0 4 → M.1 (23 + z) p = woY v u z p) :
    ∃ N, fX2_tellWorths t (nI y) M = some N ∧ (∀ p, p < v 0 4 → N.1 (23 + y) p = woY v u y p) ∧ (∀ o, o ≠ 23 + y → N.1 o = M.1 o) ∧ N.2 = M.2 := by
  have hv0 := hv.1
  have htl := gTn_lo ht
  unfold fX2_tellWorths fX2_tellWorths_0 fX2_tellWorths_2h
  refine gLp_inv (fun i (s : Int32 × gMem) => s.1 = nI i ∧ (∀ p, p < i → s.2.1 (23 + y) p = woY v u y p) ∧ (∀ o, o ≠ 23 + y → s.2.1 o = M.1 o) ∧ s.2.2 = M.2) (v 0 4) (fun (N : gMem) => (∀ p, p < v 0 4 → N.1 (23 + y) p = woY v u y p) ∧ (∀ o, o ≠ 23 + y → N.1 o = M.1 o) ∧ N.2 = M.2) (by omega) (fun i s hi hI => ?_) (fun s hI => ?_) _ ⟨rfl, fun p hp => absurd hp (Nat.not_lt_zero p), fun _ _ => rfl, rfl⟩
  · obtain ⟨i', N⟩ := s
    obtain ⟨g1, hI⟩ := hI
    have g1 : i' = nI i := g1
    subst g1
    obtain ⟨g2, g3, g4⟩ := hI
    have g2 : ∀ p, p < i → N.1 (23 + y) p = woY v u y p := g2
    have g3 : ∀ o, o ≠ 23 + y → N.1 o = M.1 o := g3
    have g4 : N.2 = M.2 := g4
    have hrN : RT N t v := RT_same hr (fun j _ => g3 (t + j) (by omega))
    have hnp := hrN.1.2.2.2.2.2.1
    obtain ⟨r1, r2, r3⟩ := hrN.2.1 i hi
    have hi6 : i < 6 := by omega
    refine Or.inl ?_
    show ∃ s', fX2_tellWorths_2 t (nI y) (nI i) N = _ ∧ _
    unfold fX2_tellWorths_2
    rw [hnp, if_neg (nI_ge hi (by omega)), nI_1]
    have fin : ∀ x : Int32, x = woY v u y i → ∃ s', some (Sum.inl (nI (i + 1), gSI N (23 + y) i x)) = some (Sum.inl s' : Sum (Int32 × gMem) gMem) ∧ s'.1 = nI (i + 1) ∧ (∀ p, p < i + 1 → s'.2.1 (23 + y) p = woY v u y p) ∧ (∀ o, o ≠ 23 + y → s'.2.1 o = M.1 o) ∧ s'.2.2 = M.2 := by
      intro x hx
      refine ⟨_, rfl, rfl, fun p hp => ?_, fun o ho => (gSI_ne ho).trans (g3 o ho), g4⟩
      by_cases e : p = i
      · subst e; exact gSI_eq.trans hx
      · exact (gSI_nj e).trans (g2 p (by omega))
    match y, hy, h, g2, g3, fin with
    | 0, hy, h, g2, g3, fin =>
      rw [if_pos nI_0, ix22 (show 0 < 12 by omega), if_pos rfl, ix2 ht hi6, if_pos rfl, nI_clamp (by omega), nI_clamp (by omega), ra22, ixW (show 0 < 12 by omega) hi6, if_pos rfl]
      exact fin _ r2
    | z + 1, hy, h, g2, g3, fin =>
      obtain ⟨h1, h2, h3⟩ := h z rfl
      have hc := F_change (M := N) ht hv hrN (show z < 12 by omega) hi (by rw [g3 20 (by omega)]; exact h1) (by rw [g3 21 (by omega)]; exact h2)
      rw [if_neg (nI_ne0 (by omega) (by omega)), nI_pred, ix22 hy, if_pos rfl, ix22 (show z < 12 by omega), if_pos rfl, nI_clamp (show z < 2 ^ 31 by omega), ra22, ixW (show z < 12 by omega) hi6, if_pos rfl, hc, gB0_some, nI_clamp (show z + 1 < 2 ^ 31 by omega), ra22, ixW hy hi6, if_pos rfl, nI_clamp (show i < 2 ^ 31 by omega), g3 (23 + z) (by omega), h3 i hi]
      exact fin _ rfl
  · obtain ⟨i', N⟩ := s
    obtain ⟨g1, hI⟩ := hI
    have g1 : i' = nI (v 0 4) := g1
    subst g1
    obtain ⟨g2, g3, g4⟩ := hI
    have g3 : ∀ o, o ≠ 23 + y → N.1 o = M.1 o := g3
    have hnp : N.1 t 5 = nI (v 0 4) := by rw [g3 t (by omega)]; exact hr.1.2.2.2.2.2.1
    show ∃ r, fX2_tellWorths_2 t (nI y) (nI (v 0 4)) N = _ ∧ _
    unfold fX2_tellWorths_2
    rw [hnp, if_pos (Int32.le_refl _)]
    exact ⟨_, rfl, g2, g3, g4⟩
def heO (v : gCt) (u : gSp) (y : Nat) (aw : Nat → Bool) (j : Nat) : Bool := inFo y (tj v u j) && (!aw (v 4 j) && !aw (v 5 j))
theorem F_toldHeld {M : gMem} {t y : Nat} {v : gCt} {u : gSp} {aw : Nat → Bool} (ht : gTn t) (hv : gWF v) (hr : RT M t v) (hg : GA M (gl v u)) (hy : y < 12) : fX2_toldHeld t (nI y) (gMk 6 aw) M = some (gMk (v 0 5) (heO v u y aw)) := by
  have hv0 := hv.1
  have hnj := hr.1.2.2.2.2.2.2.1
  have hk6 : ∀ x ∈ gl v u, okJ 6 x := fun x hx => by
    obtain ⟨a, b, c⟩ := gl_ok hv u x hx
    exact ⟨by omega, by omega, c⟩
  unfold fX2_toldHeld fX2_toldHeld_0 fX2_toldHeld_6h
  refine gLp_for (fun i => (gMk i (heO v u y aw), nI i)) (v 0 5) _ (by omega) (fun i hi => ?_) ?_ _ rfl
  · have hat := gl_at v u hi
    obtain ⟨hlt, hel⟩ := List.getElem?_eq_some_iff.mp hat
    obtain ⟨w1, w2, -, -, -⟩ := hv.2.2.1 i hi
    show fX2_toldHeld_6 t (nI y) (gMk 6 aw) (gMk i (heO v u y aw)) (nI i) M = _
    unfold fX2_toldHeld_6
    have hh := F_holdsIn hg (gl_len hv u) hk6 hlt (show y < 100 by omega) (gMk 6 aw)
    rw [hel, bt_gMk (by omega), bt_gMk (by omega)] at hh
    have e1 : (tj v u i).1 = v 4 i := rfl
    have e2 : (tj v u i).2.1 = v 5 i := rfl
    rw [e1, e2, decide_eq_true (show v 4 i < 6 by omega), decide_eq_true (show v 5 i < 6 by omega), Bool.true_and, Bool.true_and] at hh
    rw [hnj, if_neg (nI_ge hi (by omega)), hh, gB0_some, ite_bI, b1_eq, nI_1]
    show _ = some (Sum.inl (gMk (i + 1) (heO v u y aw), nI (i + 1)))
    rw [gMk_s]
    show (if heO v u y aw i = true then _ else _) = _
    cases heO v u y aw i <;> simp
  · show fX2_toldHeld_6 t (nI y) (gMk 6 aw) _ (nI (v 0 5)) M = _
    unfold fX2_toldHeld_6
    rw [hnj, if_pos (Int32.le_refl _)]
    rfl
theorem F_catching {M : gMem} {t y : Nat} {v : gCt} {u : gSp} (ht : gTn t) (hv : gWF v) (hr : RT M t v) (hs : SU M u) (hy : y < 12) (h : ∀ z, y = z + 1 → M.1 21 z = gMk 6 (skY v u z) ∧ ∀ p, p < 6 → M.1 (36 + z) p = gMk 6 (tiY v u z p)) : fX2_catching t (nI y) M = some (gMk 6 (fun p => ca0 v u y p || toC v y p)) := by
  have hv0 := hv.1
  have key : ∀ f : Nat → Bool, fX2_catching_30 t (nI y) (gMk 6 f) M = some (gMk 6 (fun p => f p || toC v y p)) := by
    intro f
    have hnc := hr.1.2.2.2.2.2.2.2.2.1
    unfold fX2_catching_30 fX2_catching_34h
    refine gLp_for (fun i => (gMk 6 (fun p => f p || anyU i (fun c => decide (v 9 c = y) && decide (v 8 c = p))), nI i)) (v 0 7) _ (by omega) (fun i hi => ?_) ?_ _ (Prod.ext (gMk_ext (fun k _ => (Bool.or_false _).symm)) rfl)
    · obtain ⟨q1, q2⟩ := hr.2.2.2.2.1 i hi
      obtain ⟨w1, w2⟩ := hv.2.2.2.2.1 i hi
      have hi5 : i < 5 := by omega
      show fX2_catching_34 t (nI y) _ (nI i) M = _
      unfold fX2_catching_34
      simp (disch := omega) only [hnc, nI_leI, show ¬ v 0 7 ≤ i by omega, if_false, ix8 ht, ix9 ht, if_true, nI_clamp, q1, q2, nI_eq, b1_eq, nI_1]
      by_cases e : v 9 i = y
      · rw [if_pos e, gMk_b1 (n := 6) (by omega) (show v 8 i < 6 by omega), gMk_or (by omega)]
        congr 3
        refine gMk_ext (fun k _ => ?_)
        rw [anyU_s, decide_eq_true e, Bool.true_and, Bool.or_assoc]
        congr 2
        exact decide_eq_decide.mpr eq_comm
      · rw [if_neg e]
        congr 3
        exact gMk_ext (fun k _ => by rw [anyU_s, decide_eq_false e, Bool.false_and, Bool.or_false])
    · show fX2_catching_34 t (nI y) _ (nI (v 0 7)) M = _
      unfold fX2_catching_34
      rw [hnc, if_pos (Int32.le_refl _)]
      rfl
  unfold fX2_catching fX2_catching_0
  match y, hy, h, key with
  | 0, hy, h, key =>
    rw [if_pos nI_0, hs.2.2.2.1]
    exact key _
  | z + 1, hy, h, key =>
    obtain ⟨h1, h2⟩ := h z rfl
    obtain ⟨s1, s2⟩ := (gSh_y z (by omega)).2.1
    rw [if_neg (nI_ne0 (by omega) (by omega)), nI_pred, ix35 (show z < 12 by omega), if_pos rfl, ix21 (show z < 12 by omega), if_pos rfl, nI_clamp (by omega), ra35, h1, F_tiedTo s1 s2 h2, gB0_some]
    exact key _
