/-! The class: all joins gathered; ties and firms of a year. -/
theorem glT_len (v : gCt) (u : gSp) (k : Nat) : (glT v u k).length = k := by
  induction k with
  | zero => rfl
  | succ k ih => rw [glT, List.length_append, ih]; rfl
theorem glA_len (v : gCt) (u : gSp) (k : Nat) : (glA v u k).length ≤ v 0 5 + k := by
  induction k with
  | zero => rw [glA, glT_len]; exact Nat.le_refl _
  | succ k ih =>
    rw [glA]
    split
    · omega
    · rw [List.length_append]
      have : ∀ (a : gJo), [a].length = 1 := fun _ => rfl
      rw [this]; omega
theorem gl_len {v : gCt} (hv : gWF v) (u : gSp) : (gl v u).length ≤ 38 := by
  have := hv.1
  unfold gl
  split
  · rw [glT_len]; omega
  · have := glA_len v u (v 0 8); omega
/-- a join of the list -/
def okJ (n : Nat) (x : gJo) : Prop := x.1 < n ∧ x.2.1 < n ∧ x.1 ≠ x.2.1 ∧ x.2.2.1 < 100 ∧ x.2.2.2 < 100
theorem mkJ_ok {v : gCt} {u : gSp} {n a b fr un bb : Nat} (ha : a < n) (hb : b < n) (hab : a ≠ b) (hf : fr < 100) (hu : un < 100) : okJ n (mkJ v u a b fr un bb) := by
  refine ⟨ha, hb, hab, hf, ?_⟩
  unfold mkJ
  show (if _ then _ else _) < 100
  split
  · omega
  · split
    · exact hu
    · exact Nat.lt_of_le_of_lt (Nat.min_le_left _ _) hu
theorem glT_ok {v : gCt} (hv : gWF v) (u : gSp) : ∀ k, k ≤ v 0 5 → ∀ x ∈ glT v u k, okJ (v 0 4) x := by
  intro k
  induction k with
  | zero => intro _ x hx; cases hx
  | succ k ih =>
    intro hk x hx
    rw [glT, List.mem_append] at hx
    rcases hx with hx | hx
    · exact ih (by omega) x hx
    · obtain ⟨w1, w2, w3, w4, w5⟩ := hv.2.2.1 k (by omega)
      rw [List.mem_singleton.mp hx]
      exact mkJ_ok w1 w2 w3 (by omega) (by split <;> omega)
theorem glA_ok {v : gCt} (hv : gWF v) (u : gSp) : ∀ k, k ≤ v 0 8 → ∀ x ∈ glA v u k, okJ (v 0 4) x := by
  have hv0 := hv.1
  intro k
  induction k with
  | zero => intro _; exact glT_ok hv u _ (Nat.le_refl _)
  | succ k ih =>
    intro hk x hx
    rw [glA] at hx
    split at hx
    · exact ih (by omega) x hx
    · rw [List.mem_append] at hx
      rcases hx with hx | hx
      · exact ih (by omega) x hx
      · obtain ⟨w1, w2, w3, w4, w5⟩ := hv.2.2.2.2.2 k (by omega)
        rw [List.mem_singleton.mp hx]
        exact mkJ_ok w1 w2 w3 (by omega) (by omega)
theorem gl_ok {v : gCt} (hv : gWF v) (u : gSp) : ∀ x ∈ gl v u, okJ (v 0 4) x := by
  unfold gl
  split
  · exact glT_ok hv u _ (Nat.le_refl _)
  · exact glA_ok hv u _ (Nat.le_refl _)
theorem nle_m1 : ∀ i, i < 31 → ¬ nI i ≤ (-1 : Int32) := by decide +kernel
theorem GA_gt {M : gMem} {l : List gJo} (h : GA M l) {e : Nat} (he : e < l.length) : M.1 15 e = nI (l[e]).1 ∧ M.1 16 e = nI (l[e]).2.1 ∧ M.1 17 e = nI (l[e]).2.2.1 ∧ M.1 18 e = nI (l[e]).2.2.2 := h.2 e _ (List.getElem?_eq_getElem he)
theorem GA_same {M N : gMem} {l : List gJo} (h : GA M l) (h1 : N.1 14 5 = M.1 14 5) (h2 : ∀ q, 15 ≤ q → q < 19 → N.1 q = M.1 q) : GA N l := by
  refine ⟨h1.trans h.1, fun e x hx => ?_⟩
  rw [h2 15 (by omega) (by omega), h2 16 (by omega) (by omega), h2 17 (by omega) (by omega), h2 18 (by omega) (by omega)]
  exact h.2 e x hx
theorem F_gatherJoins {M : gMem} {t : Nat} {v : gCt} {u : gSp} (ht : gTn t) (hv : gWF v) (hr : RT M t v) (hs : SU M u) :
    ∃ N, fX2_gatherJoins t M = some N ∧ GA N (gl v u) ∧ SU N u ∧ Fr 14 19 M N := by
  have hv0 := hv.1
  have htl := gTn_lo ht
  unfold fX2_gatherJoins fX2_gatherJoins_0 fX2_gatherJoins_7h
  refine gLp_inv (fun i (s : Int32 × gMem) => s.1 = nI i ∧ GA s.2 (glT v u i) ∧ SU s.2 u ∧ Fr 14 19 M s.2) (v 0 5) (fun N => GA N (gl v u) ∧ SU N u ∧ Fr 14 19 M N) (by omega) (fun i s hi hI => ?_) (fun s hI => ?_) _ ⟨rfl, ⟨?_, fun e x hx => ?_⟩, ?_, ?_⟩
  · obtain ⟨i', N⟩ := s
    obtain ⟨h1, h2, h3, h4⟩ := hI
    have h1 : i' = nI i := h1
    subst h1
    have h2 : GA N (glT v u i) := h2
    have h3 : SU N u := h3
    have h4 : Fr 14 19 M N := h4
    have hr' : RT N t v := h4.RT (by omega) hr
    obtain ⟨w1, w2, w3, w4, w5⟩ := hv.2.2.1 i hi
    obtain ⟨q1, q2, q3⟩ := hr'.2.2.1 i hi
    have hnj := hr'.1.2.2.2.2.2.2.1
    have hi' : ¬ v 0 5 ≤ i := by omega
    obtain ⟨K, k1, k2, k3, k4⟩ := F_gather (M := N) (a := v 4 i) (b := v 5 i) (fr := 0) (un := if u 0 i = true then 0 else v 6 i) (bb := 0) (act := -1) (l := glT v u i) ht hv hr' h3 h2 (by rw [glT_len]; omega) (by omega) (by omega) (by omega) (by split <;> omega) (fun j hj => ⟨fun h => absurd h (nle_m1 j hj), fun h => absurd (Nat.zero_le j) h⟩)
    refine Or.inl ⟨(nI (i + 1), K), ?_, rfl, ?_, k3, h4.tr k4⟩
    · show fX2_gatherJoins_7 t (nI i) N = _
      unfold fX2_gatherJoins_7 fX2_gatherJoins_36
      simp (disch := omega) only [hnj, nI_leI, hi', if_false, F_has, h3.1, gB0_some, ite_bI, bt_gMk, show i < 7 by omega, decide_true, Bool.true_and, ix4 ht, ix5 ht, ix6 ht, nI_clamp, q1, q2, q3, if_true]
      have hz : (0 : Int32) = nI 0 := rfl
      cases hb : u 0 i
      · rw [hb] at k1
        simp only [Bool.false_eq_true, if_false] at k1 ⊢
        rw [hz, k1, gB0_some, nI_1]
      · rw [hb] at k1
        simp only [if_true] at k1 ⊢
        rw [hz, k1, gB0_some, nI_1]
    · show GA K (glT v u (i + 1))
      rw [glT]
      exact k2
  · obtain ⟨i', N⟩ := s
    obtain ⟨h1, h2, h3, h4⟩ := hI
    have h1 : i' = nI (v 0 5) := h1
    subst h1
    have h2 : GA N (glT v u (v 0 5)) := h2
    have h3 : SU N u := h3
    have h4 : Fr 14 19 M N := h4
    have hr' : RT N t v := h4.RT (by omega) hr
    have hnj := hr'.1.2.2.2.2.2.2.1
    show ∃ r, fX2_gatherJoins_7 t (nI (v 0 5)) N = _ ∧ _
    unfold fX2_gatherJoins_7
    rw [hnj, if_pos (Int32.le_refl _), h3.2.1, ite_bI]
    by_cases hu : u 1 0 = true
    · rw [if_pos hu]
      refine ⟨N, rfl, ?_, h3, h4⟩
      unfold gl
      rw [if_pos hu]; exact h2
    · rw [if_neg hu]
      have hlp : ∃ r, fX2_gatherJoins_78h t (t + 10) (0 : Int32) N = some r ∧ (GA r (gl v u) ∧ SU r u ∧ Fr 14 19 M r) := by
        unfold fX2_gatherJoins_78h
        refine gLp_inv (fun i (s : Int32 × gMem) => s.1 = nI i ∧ GA s.2 (glA v u i) ∧ SU s.2 u ∧ Fr 14 19 M s.2) (v 0 8) (fun N => GA N (gl v u) ∧ SU N u ∧ Fr 14 19 M N) (by omega) (fun i s hi hI => ?_) (fun s hI => ?_) _ ⟨rfl, h2, h3, h4⟩
        · obtain ⟨i', K⟩ := s
          obtain ⟨g1, g2, g3, g4⟩ := hI
          have g1 : i' = nI i := g1
          subst g1
          have g2 : GA K (glA v u i) := g2
          have g3 : SU K u := g3
          have g4 : Fr 14 19 M K := g4
          have hr' : RT K t v := g4.RT (by omega) hr
          obtain ⟨w1, w2, w3, w4, w5⟩ := hv.2.2.2.2.2 i hi
          obtain ⟨q1, q2, q3, q4⟩ := hr'.2.2.2.2.2 i hi
          have hna := hr'.1.2.2.2.2.2.2.2.2.2
          have hi' : ¬ v 0 8 ≤ i := by omega
          have hlen := glA_len v u i
          refine Or.inl ?_
          show ∃ s', fX2_gatherJoins_78 t (t + 10) (nI i) K = _ ∧ _
          unfold fX2_gatherJoins_78
          simp (disch := omega) only [hna, nI_leI, hi', if_false, ixA1 ht, ixA2 ht, ixA3 ht, ixA4 ht, nI_clamp, q1, q2, q3, q4, if_true, nI_n0, nI_add]
          by_cases hw : v 13 i = 0
          · rw [if_pos hw]
            refine ⟨_, rfl, by rw [nI_1], ?_, g3, g4⟩
            show GA K (glA v u (i + 1))
            rw [glA, if_pos hw]; exact g2
          · rw [if_neg hw]
            obtain ⟨J, k1, k2, k3, k4⟩ := F_gather (M := K) (a := v 10 i) (b := v 11 i) (fr := v 12 i) (un := v 12 i + v 13 i) (bb := i + 1) (act := nI i) (l := glA v u i) ht hv hr' g3 g2 (by omega) (by omega) (by omega) (by omega) (by omega) (fun j hj => by rw [nI_leI (by omega) (by omega)]; omega)
            rw [k1, gB0_some]
            refine ⟨_, rfl, by rw [nI_1], ?_, k3, g4.tr k4⟩
            show GA J (glA v u (i + 1))
            rw [glA, if_neg hw]; exact k2
        · obtain ⟨i', K⟩ := s
          obtain ⟨g1, g2, g3, g4⟩ := hI
          have g1 : i' = nI (v 0 8) := g1
          subst g1
          have hna := (g4.RT (t := t) (v := v) (by omega) hr).1.2.2.2.2.2.2.2.2.2
          have hna : K.1 (t + 10) 4 = nI (v 0 8) := hna
          show ∃ r, fX2_gatherJoins_78 t (t + 10) (nI (v 0 8)) K = _ ∧ _
          unfold fX2_gatherJoins_78
          rw [hna, if_pos (Int32.le_refl _)]
          refine ⟨K, rfl, ?_, g3, g4⟩
          unfold gl
          rw [if_neg hu]; exact g2
      obtain ⟨r, e1, e2⟩ := hlp
      rw [e1]
      exact ⟨r, rfl, e2⟩
  · rw [gSI_eq]; rfl
  · cases hx
  · exact SU_same hs (fun k hk => gSI_nj (by omega))
  · exact Fr.si (by omega) (by omega)
theorem F_holdsIn {M : gMem} {l : List gJo} (hg : GA M l) (hl : l.length ≤ 38) (hk : ∀ x ∈ l, okJ 6 x) {e y : Nat} (he : e < l.length) (hy : y < 100) (aw : Int32) : fX2_holdsIn (nI e) (nI y) aw M = some (bI (inFo y (l[e]) && (!bt aw (l[e]).1 && !bt aw (l[e]).2.1))) := by
  obtain ⟨q1, q2, q3, q4⟩ := GA_gt hg he
  obtain ⟨k1, k2, k3, k4, k5⟩ := hk _ (List.getElem_mem he)
  unfold fX2_holdsIn fX2_holdsIn_0 fX2_holdsIn_24 fX2_holdsIn_25 inFo
  generalize l[e] = x at *
  simp (disch := omega) only [ix15, ix16, ix17, ix18, nI_clamp, q1, q2, q3, q4, if_true, nI_leI, nI_ltI, F_has, gB0_some, ite_bI]
  by_cases h1 : y < x.2.2.1 <;> by_cases h2 : x.2.2.2 ≤ y <;> cases h3 : bt aw x.1 <;> cases h4 : bt aw x.2.1 <;> simp [h1, h2, bI] <;> omega
theorem gAl_of {a n : Nat} (hs : gSh a = (1, n)) (ha : a < gN) : gAl a = true := by
  refine gAl_c ?_
  unfold gAl0
  rw [hs, Bool.and_eq_true, Bool.and_eq_true]
  exact ⟨rfl, rfl, (Nat.blt_eq).mpr ha⟩
theorem F_tiedTo {M : gMem} {a : Nat} {ti : Nat → Nat → Bool} (hs : gSh a = (1, 6)) (ha : a < gN) (hm : ∀ p, p < 6 → M.1 a p = gMk 6 (ti p)) (f : Nat → Bool) : fX2_tiedTo a (gMk 6 f) M = some (gMk 6 (fun q => anyU 6 (fun p => f p && ti p q))) := by
  have hx : ∀ j, j < 6 → gIx 1 a (nI j) = true := fun j hj => gIx_k hs ha hj (by omega)
  have hl : nI (gSh a).2 = nI 6 := by rw [hs]
  unfold fX2_tiedTo fX2_tiedTo_0 fX2_tiedTo_4h
  refine gLp_for (fun i => (gMk 6 (fun q => anyU i (fun p => f p && ti p q)), nI i)) 6 _ (by omega) (fun i hi => ?_) ?_ _ (Prod.ext (gMk_0 (n := 6) (by omega)) rfl)
  · show fX2_tiedTo_4 a (gMk 6 f) (gMk 6 (fun q => anyU i (fun p => f p && ti p q))) (nI i) M = _
    unfold fX2_tiedTo_4
    simp (disch := omega) only [gAl_of hs ha, if_true, hl, nI_leI, show ¬ 6 ≤ i by omega, if_false, F_has, gB0_some, ite_bI, bt_gMk, hi, decide_true, Bool.true_and, hx i hi, nI_clamp, hm i hi, gMk_or, nI_1]
    cases hf : f i
    · simp only [Bool.false_eq_true, if_false]
      congr 3
      exact gMk_ext (fun k _ => by rw [anyU_s, hf, Bool.false_and, Bool.or_false])
    · simp only [if_true]
      congr 3
      exact gMk_ext (fun k _ => by rw [anyU_s, hf, Bool.true_and])
  · show fX2_tiedTo_4 a (gMk 6 f) _ (nI 6) M = _
    unfold fX2_tiedTo_4
    rw [gAl_of hs ha, hl, if_pos rfl, if_pos (Int32.le_refl _)]
    rfl
theorem F_reach {M : gMem} {a : Nat} {ti : Nat → Nat → Bool} (hs : gSh a = (1, 6)) (ha : a < gN) (hm : ∀ p, p < 6 → M.1 a p = gMk 6 (ti p)) {p : Nat} (hp : p < 6) : fX2_reach a (b1 p) M = some (gMk 6 (fmO ti p)) := by
  unfold fX2_reach fX2_reach_0 fX2_reach_4h
  have key : ∃ r, gLp (fun s : Int32 × Int32 => fX2_reach_4 a s.1 s.2 M) gFu (b1 p, 0) = some r ∧ r = gMk 6 (fmO ti p) := by
    refine gLp_inv (fun i (s : Int32 × Int32) => s = (gMk 6 (clo ti (fun q => decide (q = p)) i), nI i)) 6 (fun r => r = gMk 6 (fmO ti p)) (by omega) (fun i s hi hI => ?_) (fun s hI => ?_) _ (by rw [gMk_b1 (by omega) hp]; rfl)
    · subst hI
      show (∃ s', fX2_reach_4 a (gMk 6 (clo ti (fun q => decide (q = p)) i)) (nI i) M = _ ∧ _) ∨ ∃ r, fX2_reach_4 a (gMk 6 (clo ti (fun q => decide (q = p)) i)) (nI i) M = _ ∧ _
      unfold fX2_reach_4
      rw [show (6 : Int32) = nI 6 from rfl, if_neg (nI_ge hi (by omega)), F_tiedTo hs ha hm, gB0_some, gMk_or (by omega)]
      by_cases h : gMk 6 (fun k => clo ti (fun q => decide (q = p)) i k || anyU 6 (fun a => clo ti (fun q => decide (q = p)) i a && ti a k)) = gMk 6 (clo ti (fun q => decide (q = p)) i)
      · rw [if_pos h]
        refine Or.inr ⟨_, rfl, gMk_ext (fun k hk => ?_)⟩
        have := clo_st (ti := ti) (f := fun q => decide (q = p)) (k := i) (fun q hq => gMk_inj (by omega) h q hq) (6 - i) k hk
        rw [show i + (6 - i) = 6 by omega] at this
        exact this.symm
      · rw [if_neg h]
        exact Or.inl ⟨_, rfl, by rw [nI_1]; rfl⟩
    · subst hI
      show ∃ r, fX2_reach_4 a _ (nI 6) M = _ ∧ _
      unfold fX2_reach_4
      rw [show (6 : Int32) = nI 6 from rfl, if_pos (Int32.le_refl _)]
      exact ⟨_, rfl, rfl⟩
  obtain ⟨r, h1, h2⟩ := key
  rw [← h2]
  exact h1
theorem F_giveFirm {M : gMem} {a : Nat} (hs : gSh a = (1, 6)) (ha : a < gN) (f : Nat → Bool) : ∃ N, fX2_giveFirm a (gMk 6 f) M = some N ∧ (∀ p, p < 6 → N.1 a p = if f p = true then gMk 6 f else M.1 a p) ∧ (∀ q, q ≠ a → N.1 q = M.1 q) ∧ N.2 = M.2 := by
  have hx : ∀ j, j < 6 → gIx 1 a (nI j) = true := fun j hj => gIx_k hs ha hj (by omega)
  have hl : nI (gSh a).2 = nI 6 := by rw [hs]
  unfold fX2_giveFirm fX2_giveFirm_0 fX2_giveFirm_2h
  refine gLp_inv (fun i (s : Int32 × gMem) => s.1 = nI i ∧ (∀ p, p < 6 → s.2.1 a p = if p < i ∧ f p = true then gMk 6 f else M.1 a p) ∧ (∀ q, q ≠ a → s.2.1 q = M.1 q) ∧ s.2.2 = M.2) 6 (fun (N : gMem) => (∀ p, p < 6 → N.1 a p = if f p = true then gMk 6 f else M.1 a p) ∧ (∀ q, q ≠ a → N.1 q = M.1 q) ∧ N.2 = M.2) (by omega) (fun i s hi hI => ?_) (fun s hI => ?_) _ ⟨rfl, fun p _ => by simp, fun _ _ => rfl, rfl⟩
  · obtain ⟨i', N⟩ := s
    obtain ⟨h1, h2, h3, h4⟩ := hI
    have h1 : i' = nI i := h1
    subst h1
    refine Or.inl ?_
    show ∃ s', fX2_giveFirm_2 a (gMk 6 f) (nI i) N = _ ∧ _
    unfold fX2_giveFirm_2
    simp (disch := omega) only [gAl_of hs ha, if_true, hl, nI_leI, show ¬ 6 ≤ i by omega, if_false, F_has, gB0_some, ite_bI, bt_gMk, hi, decide_true, Bool.true_and, hx i hi, nI_clamp, nI_1]
    cases hf : f i
    · refine ⟨_, rfl, rfl, fun p hp => (h2 p hp).trans ?_, h3, h4⟩
      by_cases e : p = i
      · subst e; simp [hf]
      · have : p < i ↔ p < i + 1 := by omega
        simp only [this]
    · refine ⟨_, rfl, rfl, fun p hp => ?_, fun q hq => (gSI_ne hq).trans (h3 q hq), h4⟩
      by_cases e : p = i
      · subst e
        show (gSI N a p (gMk 6 f)).1 a p = _
        rw [gSI_eq, if_pos ⟨by omega, hf⟩]
      · show (gSI N a i (gMk 6 f)).1 a p = _
        rw [gSI_nj e, h2 p hp]
        have : p < i ↔ p < i + 1 := by omega
        simp only [this]
  · obtain ⟨i', N⟩ := s
    obtain ⟨h1, h2, h3, h4⟩ := hI
    have h1 : i' = nI 6 := h1
    subst h1
    show ∃ r, fX2_giveFirm_2 a (gMk 6 f) (nI 6) N = _ ∧ _
    unfold fX2_giveFirm_2
    rw [gAl_of hs ha, hl, if_pos rfl, if_pos (Int32.le_refl _)]
    exact ⟨_, rfl, fun p hp => by rw [h2 p hp]; simp only [hp, true_and], h3, h4⟩
