/-! The class: joinUp. -/
theorem b1_eq (k : Nat) : (1 : Int32) <<< (nI k &&& 31) = b1 k := rfl
theorem ofTwo_sy (p q : Nat) (x : gJo) : ofTwo p q x = ofTwo q p x := by unfold ofTwo; rw [Bool.or_comm]
theorem tiO_sy (l : List gJo) (y : Nat) (aw : Nat → Bool) (p q : Nat) : tiO l y aw p q = tiO l y aw q p := by
  unfold tiO
  congr 1
  funext x
  rw [ofTwo_sy]
theorem tiO_in {l : List gJo} {n y : Nat} {aw : Nat → Bool} {p q : Nat} (hk : ∀ x ∈ l, okJ n x) (h : tiO l y aw p q = true) : p < n ∧ q < n ∧ aw p = false ∧ aw q = false ∧ p ≠ q := by
  unfold tiO at h
  obtain ⟨x, hx, h⟩ := List.any_eq_true.mp h
  obtain ⟨k1, k2, k3, -, -⟩ := hk x hx
  unfold ofTwo at h
  simp only [Bool.and_eq_true, Bool.or_eq_true, decide_eq_true_eq, Bool.not_eq_true'] at h
  obtain ⟨-, ⟨h1, h2⟩, h | h⟩ := h
  · obtain ⟨rfl, rfl⟩ := h; exact ⟨k1, k2, h1, h2, k3⟩
  · obtain ⟨rfl, rfl⟩ := h; exact ⟨k2, k1, h2, h1, k3.symm⟩
theorem fm_lt {l : List gJo} {n y : Nat} {aw : Nat → Bool} {p q : Nat} (hk : ∀ x ∈ l, okJ n x) (hp : p < n) (hq : q < 6) (h : fmO (tiO l y aw) p q = true) : q < n := by
  have := fmO_least (S := fun x => decide (x < n)) (ti := tiO l y aw) (p := p) (by simp [hp]) (fun a x _ _ _ ht => by simp [(tiO_in hk ht).2.1]) hq h
  exact of_decide_eq_true this
theorem fm_aw {l : List gJo} {n y : Nat} {aw : Nat → Bool} {p q : Nat} (hk : ∀ x ∈ l, okJ n x) (hp : aw p = false) (hq : q < 6) (h : fmO (tiO l y aw) p q = true) : aw q = false := by
  have := fmO_least (S := fun x => !aw x) (ti := tiO l y aw) (p := p) (by simp [hp]) (fun a x _ _ _ ht => by simp [(tiO_in hk ht).2.2.2.1]) hq h
  simpa using this
theorem gMk_ne0 {n : Nat} (hn : n ≤ 32) {f : Nat → Bool} {k : Nat} (hk : k < n) (h : f k = true) : ¬ gMk n f = 0 := by
  rw [gMk_eq0 hn]
  intro g
  rw [g k hk] at h; cases h
/-- the firms of a year -/
def fiR (n : Nat) (ti : Nat → Nat → Bool) (aw : Nat → Bool) (q : Nat) : Int32 := if q < n ∧ aw q = false then gMk 6 (fmO ti q) else 0
theorem F_ju120 {M : gMem} {t y n : Nat} {l : List gJo} {aw : Nat → Bool} (ht : 66 ≤ t) (hy : y < 12) (hn : n ≤ 6) (hp : M.1 t 5 = nI n) (hk : ∀ x ∈ l, okJ n x) (h1 : ∀ p, p < 6 → M.1 (36 + y) p = gMk 6 (tiO l y aw p)) (h2 : ∀ p, p < 6 → M.1 (49 + y) p = 0) :
    ∃ N, fX2_joinUp_120h t (gMk 6 aw) (36 + y) (49 + y) 0 M = some N ∧ (∀ q, q < 6 → N.1 (49 + y) q = fiR n (tiO l y aw) aw q) ∧ (∀ o, o ≠ 49 + y → N.1 o = M.1 o) ∧ N.2 = M.2 := by
  obtain ⟨s1, s2⟩ := (gSh_y y hy).2.1
  obtain ⟨s3, s4⟩ := (gSh_y y hy).2.2
  unfold fX2_joinUp_120h
  refine gLp_inv (fun i (s : Int32 × gMem) => s.1 = nI i ∧ (∀ q, q < 6 → s.2.1 (49 + y) q = if anyU i (fun p => !aw p && fmO (tiO l y aw) p q) = true then gMk 6 (fmO (tiO l y aw) q) else 0) ∧ (∀ o, o ≠ 49 + y → s.2.1 o = M.1 o) ∧ s.2.2 = M.2) n (fun (N : gMem) => (∀ q, q < 6 → N.1 (49 + y) q = fiR n (tiO l y aw) aw q) ∧ (∀ o, o ≠ 49 + y → N.1 o = M.1 o) ∧ N.2 = M.2) (by omega) (fun i s hi hI => ?_) (fun s hI => ?_) _ ⟨rfl, fun q hq => by rw [h2 q hq]; simp [anyU], fun _ _ => rfl, rfl⟩
  · obtain ⟨i', N⟩ := s
    obtain ⟨g1, hI⟩ := hI
    have g1 : i' = nI i := g1
    subst g1
    obtain ⟨g2, g3, g4⟩ := hI
    have g2 : ∀ q, q < 6 → N.1 (49 + y) q = if anyU i (fun p => !aw p && fmO (tiO l y aw) p q) = true then gMk 6 (fmO (tiO l y aw) q) else 0 := g2
    have g3 : ∀ o, o ≠ 49 + y → N.1 o = M.1 o := g3
    have g4 : N.2 = M.2 := g4
    have hpN : N.1 t 5 = nI n := by rw [g3 t (by omega)]; exact hp
    have hiN : ∀ p, p < 6 → N.1 (36 + y) p = gMk 6 (tiO l y aw p) := fun p hp => by rw [g3 (36 + y) (by omega)]; exact h1 p hp
    have hi6 : i < 6 := by omega
    refine Or.inl ?_
    show ∃ s', fX2_joinUp_120 t (gMk 6 aw) (36 + y) (49 + y) (nI i) N = _ ∧ _
    unfold fX2_joinUp_120
    simp (disch := omega) only [hpN, nI_leI, show ¬ n ≤ i by omega, if_false, F_has, gB0_some, ite_bI, bt_gMk, hi6, decide_true, Bool.true_and, ixF hy hi6, nI_clamp, if_true, b1_eq, nI_1]
    by_cases ha : aw i = true
    · rw [if_pos ha]
      refine ⟨_, rfl, rfl, fun q hq => ?_, g3, g4⟩
      show N.1 (49 + y) q = _
      rw [g2 q hq, anyU_s, ha, Bool.not_true, Bool.false_and, Bool.or_false]
    · have ha : aw i = false := by simpa using ha
      rw [if_neg (by rw [ha]; simp)]
      have g2i := g2 i hi6
      by_cases hc : anyU i (fun p => !aw p && fmO (tiO l y aw) p i) = true
      · rw [if_pos hc] at g2i
        rw [g2i, if_neg (gMk_ne0 (by omega) hi6 (fmO_self _ i))]
        refine ⟨_, rfl, rfl, fun q hq => ?_, g3, g4⟩
        show N.1 (49 + y) q = _
        rw [g2 q hq]
        have e : anyU (i + 1) (fun p => !aw p && fmO (tiO l y aw) p q) = anyU i (fun p => !aw p && fmO (tiO l y aw) p q) := by
          rw [anyU_s, ha]
          cases hf : fmO (tiO l y aw) i q
          · simp
          · obtain ⟨p, hp1, hp2⟩ := anyU_iff.mp hc
            rw [Bool.and_eq_true] at hp2
            have : anyU i (fun p => !aw p && fmO (tiO l y aw) p q) = true := anyU_iff.mpr ⟨p, hp1, by rw [Bool.and_eq_true]; exact ⟨hp2.1, fmO_tr (by omega) hq hp2.2 hf⟩⟩
            rw [this]; rfl
        rw [e]
      · rw [if_neg hc] at g2i
        rw [g2i, if_pos rfl, F_reach s1 s2 hiN hi6, gB0_some]
        obtain ⟨K, k1, k2, k3, k4⟩ := F_giveFirm (M := N) s3 s4 (fmO (tiO l y aw) i)
        rw [k1, gB0_some]
        refine ⟨_, rfl, rfl, fun q hq => ?_, fun o ho => (k3 o ho).trans (g3 o ho), k4.trans g4⟩
        show K.1 (49 + y) q = _
        rw [k2 q hq, g2 q hq, anyU_s, ha]
        cases hf : fmO (tiO l y aw) i q
        · simp
        · simp only [if_true, Bool.not_false, Bool.true_and, Bool.or_true]
          exact gMk_ext (fmO_eq (tiO_sy l y aw) hi6 hq hf)
  · obtain ⟨i', N⟩ := s
    obtain ⟨g1, hI⟩ := hI
    have g1 : i' = nI n := g1
    subst g1
    obtain ⟨g2, g3, g4⟩ := hI
    have g3 : ∀ o, o ≠ 49 + y → N.1 o = M.1 o := g3
    have hpN : N.1 t 5 = nI n := by rw [g3 t (by omega)]; exact hp
    show ∃ r, fX2_joinUp_120 t (gMk 6 aw) (36 + y) (49 + y) (nI n) N = _ ∧ _
    unfold fX2_joinUp_120
    rw [hpN, if_pos (Int32.le_refl _)]
    refine ⟨_, rfl, fun q hq => (g2 q hq).trans ?_, g3, g4⟩
    unfold fiR
    by_cases hq2 : q < n ∧ aw q = false
    · rw [if_pos hq2, if_pos]
      exact anyU_iff.mpr ⟨q, hq2.1, by rw [hq2.2, fmO_self]; rfl⟩
    · rw [if_neg hq2, if_neg]
      intro h
      obtain ⟨p, hp1, hp2⟩ := anyU_iff.mp h
      rw [Bool.and_eq_true, Bool.not_eq_true'] at hp2
      exact hq2 ⟨fm_lt hk hp1 hq hp2.2, fm_aw hk hp2.1 hq hp2.2⟩
theorem take_any {l : List gJo} {e : Nat} (he : e < l.length) (f : gJo → Bool) : (l.take (e + 1)).any f = ((l.take e).any f || f l[e]) := by
  rw [List.take_succ_eq_append_getElem he, List.any_append]
  simp
theorem F_ju47 {M : gMem} {t y n : Nat} {l : List gJo} {aw : Nat → Bool} (ht : 66 ≤ t) (hy : y < 12) (hn : n ≤ 6) (hp : M.1 t 5 = nI n) (hl : l.length ≤ 38) (hk : ∀ x ∈ l, okJ n x) (hg : GA M l) (h1 : ∀ p, p < 6 → M.1 (36 + y) p = 0) (h2 : ∀ p, p < 6 → M.1 (49 + y) p = 0) :
    ∃ N, fX2_joinUp_47h t (nI y) (gMk 6 aw) (36 + y) (49 + y) 0 M = some N ∧ (∀ p, p < 6 → N.1 (36 + y) p = gMk 6 (tiO l y aw p)) ∧ (∀ q, q < 6 → N.1 (49 + y) q = fiR n (tiO l y aw) aw q) ∧ (∀ o, o ≠ 36 + y → o ≠ 49 + y → N.1 o = M.1 o) ∧ N.2 = M.2 := by
  have hk6 : ∀ x ∈ l, okJ 6 x := fun x hx => by
    obtain ⟨a, b, c⟩ := hk x hx
    exact ⟨by omega, by omega, c⟩
  unfold fX2_joinUp_47h
  refine gLp_inv (fun e (s : Int32 × gMem) => s.1 = nI e ∧ (∀ p, p < 6 → s.2.1 (36 + y) p = gMk 6 (tiO (l.take e) y aw p)) ∧ (∀ o, o ≠ 36 + y → s.2.1 o = M.1 o) ∧ s.2.2 = M.2) l.length (fun (N : gMem) => (∀ p, p < 6 → N.1 (36 + y) p = gMk 6 (tiO l y aw p)) ∧ (∀ q, q < 6 → N.1 (49 + y) q = fiR n (tiO l y aw) aw q) ∧ (∀ o, o ≠ 36 + y → o ≠ 49 + y → N.1 o = M.1 o) ∧ N.2 = M.2) (by omega) (fun e s he hI => ?_) (fun s hI => ?_) _ ⟨rfl, fun p hp => by rw [h1 p hp]; exact gMk_0 (by omega), fun _ _ => rfl, rfl⟩
  · obtain ⟨i', N⟩ := s
    obtain ⟨g1, hI⟩ := hI
    have g1 : i' = nI e := g1
    subst g1
    obtain ⟨g2, g3, g4⟩ := hI
    have g2 : ∀ p, p < 6 → N.1 (36 + y) p = gMk 6 (tiO (l.take e) y aw p) := g2
    have g3 : ∀ o, o ≠ 36 + y → N.1 o = M.1 o := g3
    have g4 : N.2 = M.2 := g4
    have hgN : GA N l := GA_same hg (by rw [g3 14 (by omega)]) (fun q _ _ => g3 q (by omega))
    obtain ⟨q1, q2, q3, q4⟩ := GA_gt hgN he
    obtain ⟨o1, o2, o3, -, -⟩ := hk6 _ (List.getElem_mem he)
    have hh := F_holdsIn hgN hl hk6 he (show y < 100 by omega) (gMk 6 aw)
    have htk : ∀ p q, tiO (l.take (e + 1)) y aw p q = (tiO (l.take e) y aw p q || (inFo y l[e] && ((!aw (l[e]).1 && !aw (l[e]).2.1) && ofTwo p q l[e]))) := fun p q => take_any he _
    rw [bt_gMk (by omega), bt_gMk (by omega), decide_eq_true o1, decide_eq_true o2, Bool.true_and, Bool.true_and] at hh
    generalize l[e] = x at *
    refine Or.inl ?_
    show ∃ s', fX2_joinUp_47 t (nI y) (gMk 6 aw) (36 + y) (49 + y) (nI e) N = _ ∧ _
    unfold fX2_joinUp_47 fX2_joinUp_97
    rw [hgN.1, if_neg (nI_ge he (by omega)), hh, gB0_some, ite_bI]
    cases hc : inFo y x && (!aw x.1 && !aw x.2.1)
    · simp only [Bool.false_eq_true, if_false, nI_1]
      refine ⟨_, rfl, rfl, fun p hp => (g2 p hp).trans (gMk_ext (fun q _ => ?_)), g3, g4⟩
      rw [htk, ← Bool.and_assoc, hc, Bool.false_and, Bool.or_false]
    · simp (disch := omega) only [if_true, ix15, ix16, nI_clamp, q1, q2, ixI hy o1, ixI hy o2, gSI_ne, b1_eq, nI_1]
      refine ⟨_, rfl, rfl, fun p hp => ?_, fun o ho => ?_, g4⟩
      · show (gSI (gSI N (36 + y) x.1 _) (36 + y) x.2.1 _).1 (36 + y) p = _
        rw [gSI_nj (M := N) (k := x.2.1) (j := x.1) (by omega)]
        have e1 : gMk 6 (tiO (l.take (e + 1)) y aw p) = gMk 6 (tiO (l.take e) y aw p) ||| gMk 6 (fun q => ofTwo p q x) := by
          rw [gMk_or (by omega)]
          exact gMk_ext (fun q _ => by rw [htk, ← Bool.and_assoc, hc, Bool.true_and])
        rw [e1]
        by_cases p2 : p = x.2.1
        · subst p2
          rw [gSI_eq, g2 _ o2, gMk_b1 (n := 6) (by omega) o1]
          congr 1
          refine gMk_ext (fun q _ => ?_)
          unfold ofTwo
          have : ¬ x.1 = x.2.1 := o3
          simp only [this, decide_false, Bool.false_and, Bool.false_or, decide_true, Bool.and_true]
          exact decide_eq_decide.mpr eq_comm
        · rw [gSI_nj p2]
          by_cases p1 : p = x.1
          · subst p1
            rw [gSI_eq, g2 _ o1, gMk_b1 (n := 6) (by omega) o2]
            congr 1
            refine gMk_ext (fun q _ => ?_)
            unfold ofTwo
            have : ¬ x.2.1 = x.1 := fun h => o3 h.symm
            simp only [this, decide_false, Bool.and_false, Bool.or_false, decide_true, Bool.true_and]
            exact decide_eq_decide.mpr eq_comm
          · rw [gSI_nj p1, g2 p hp]
            have : gMk 6 (fun q => ofTwo p q x) = 0 := (gMk_eq0 (by omega) _).mpr (fun q _ => by
              unfold ofTwo
              rw [decide_eq_false (p := x.1 = p) (fun h => p1 h.symm), decide_eq_false (p := x.2.1 = p) (fun h => p2 h.symm), Bool.false_and, Bool.and_false]; rfl)
            rw [this, Int32.or_zero]
      · show (gSI (gSI N (36 + y) _ _) (36 + y) _ _).1 o = _
        rw [gSI_ne ho, gSI_ne ho]
        exact g3 o ho
  · obtain ⟨i', N⟩ := s
    obtain ⟨g1, hI⟩ := hI
    have g1 : i' = nI l.length := g1
    subst g1
    obtain ⟨g2, g3, g4⟩ := hI
    have g2 : ∀ p, p < 6 → N.1 (36 + y) p = gMk 6 (tiO (l.take l.length) y aw p) := g2
    have g3 : ∀ o, o ≠ 36 + y → N.1 o = M.1 o := g3
    have g4 : N.2 = M.2 := g4
    rw [List.take_length] at g2
    obtain ⟨K, k1, k2, k3, k4⟩ := F_ju120 (M := N) ht hy hn (by rw [g3 t (by omega)]; exact hp) hk g2 (fun p hp => by rw [g3 (49 + y) (by omega)]; exact h2 p hp)
    show ∃ r, fX2_joinUp_47 t (nI y) (gMk 6 aw) (36 + y) (49 + y) (nI l.length) N = _ ∧ _
    unfold fX2_joinUp_47
    rw [g3 14 (by omega), hg.1, if_pos (Int32.le_refl _), k1]
    exact ⟨K, rfl, fun p hp => by rw [k3 (36 + y) (by omega)]; exact g2 p hp, k2, fun o h3 h4 => (k3 o h4).trans (g3 o h3), k4.trans g4⟩
theorem F_joinUp {M : gMem} {t y n : Nat} {l : List gJo} {aw : Nat → Bool} (ht : 66 ≤ t) (hy : y < 12) (hn : n ≤ 6) (hp : M.1 t 5 = nI n) (hl : l.length ≤ 38) (hk : ∀ x ∈ l, okJ n x) (hg : GA M l) :
    ∃ N, fX2_joinUp t (nI y) (gMk 6 aw) M = some N ∧ (∀ p, p < 6 → N.1 (36 + y) p = gMk 6 (tiO l y aw p)) ∧ (∀ q, q < 6 → N.1 (49 + y) q = fiR n (tiO l y aw) aw q) ∧ (∀ o, o ≠ 36 + y → o ≠ 49 + y → N.1 o = M.1 o) ∧ N.2 = M.2 := by
  unfold fX2_joinUp fX2_joinUp_0 fX2_joinUp_19h
  rw [ix35 hy, ix48 hy, if_pos rfl, if_pos rfl, nI_clamp (by omega), ra35, ra48]
  refine gLp_inv (fun i (s : Int32 × gMem) => s.1 = nI i ∧ (∀ p, p < i → s.2.1 (36 + y) p = 0 ∧ s.2.1 (49 + y) p = 0) ∧ (∀ o, o ≠ 36 + y → o ≠ 49 + y → s.2.1 o = M.1 o) ∧ s.2.2 = M.2) 6 (fun (N : gMem) => (∀ p, p < 6 → N.1 (36 + y) p = gMk 6 (tiO l y aw p)) ∧ (∀ q, q < 6 → N.1 (49 + y) q = fiR n (tiO l y aw) aw q) ∧ (∀ o, o ≠ 36 + y → o ≠ 49 + y → N.1 o = M.1 o) ∧ N.2 = M.2) (by omega) (fun i s hi hI => ?_) (fun s hI => ?_) _ ⟨rfl, fun p hp => absurd hp (Nat.not_lt_zero p), fun _ _ _ => rfl, rfl⟩
  · obtain ⟨i', N⟩ := s
    obtain ⟨g1, hI⟩ := hI
    have g1 : i' = nI i := g1
    subst g1
    obtain ⟨g2, g3, g4⟩ := hI
    have g2 : ∀ p, p < i → N.1 (36 + y) p = 0 ∧ N.1 (49 + y) p = 0 := g2
    have g3 : ∀ o, o ≠ 36 + y → o ≠ 49 + y → N.1 o = M.1 o := g3
    have g4 : N.2 = M.2 := g4
    refine Or.inl ?_
    show ∃ s', fX2_joinUp_19 t (nI y) (gMk 6 aw) (36 + y) (49 + y) (nI i) N = _ ∧ _
    unfold fX2_joinUp_19 fX2_joinUp_37
    rw [show (6 : Int32) = nI 6 from rfl, if_neg (nI_ge hi (by omega)), ixI hy hi, ixF hy hi, if_pos rfl, if_pos rfl, nI_clamp (by omega), nI_1]
    refine ⟨_, rfl, rfl, fun p hp => ?_, fun o h1 h2 => ?_, g4⟩
    · show (gSI (gSI N (36 + y) i 0) (49 + y) i 0).1 (36 + y) p = 0 ∧ (gSI (gSI N (36 + y) i 0) (49 + y) i 0).1 (49 + y) p = 0
      by_cases e : p = i
      · subst e
        rw [gSI_ne (by omega), gSI_eq, gSI_eq]; exact ⟨rfl, rfl⟩
      · rw [gSI_ne (by omega), gSI_nj e, gSI_nj e, gSI_ne (by omega)]
        exact g2 p (by omega)
    · show (gSI (gSI N (36 + y) i 0) (49 + y) i 0).1 o = _
      rw [gSI_ne h2, gSI_ne h1]
      exact g3 o h1 h2
  · obtain ⟨i', N⟩ := s
    obtain ⟨g1, hI⟩ := hI
    have g1 : i' = nI 6 := g1
    subst g1
    obtain ⟨g2, g3, g4⟩ := hI
    have g3 : ∀ o, o ≠ 36 + y → o ≠ 49 + y → N.1 o = M.1 o := g3
    have g4 : N.2 = M.2 := g4
    obtain ⟨K, k1, k2, k3, k4, k5⟩ := F_ju47 (M := N) (aw := aw) ht hy hn (by rw [g3 t (by omega) (by omega)]; exact hp) hl hk (GA_same hg (by rw [g3 14 (by omega) (by omega)]) (fun q _ _ => g3 q (by omega) (by omega))) (fun p hp => (g2 p hp).1) (fun p hp => (g2 p hp).2)
    show ∃ r, fX2_joinUp_19 t (nI y) (gMk 6 aw) (36 + y) (49 + y) (nI 6) N = _ ∧ _
    unfold fX2_joinUp_19
    rw [show (6 : Int32) = nI 6 from rfl, if_pos (Int32.le_refl _), k1]
    exact ⟨K, rfl, k2, k3, fun o h1 h2 => (k4 o h1 h2).trans (g3 o h1 h2), k5.trans g4⟩
