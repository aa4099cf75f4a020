/-! the fewest cuts that part two, and the least wax -/
theorem C_cutsApart {M : gMem} {t p q c : Nat} {v : gCt} (h : CT M t v) (hp : p < v 0 4) (hq : q < v 0 4) (hc : c < 128) : ∃ N, fX8_cutsApart (nI c) (nI p) (nI q) M = some (bI (cuA v p q c), N) ∧ CT N t v ∧ KP M N := by
  have hv0 := h.2.1.1
  obtain ⟨M1, m1, m2, m3, m4⟩ := C_sup h (k := 0) (f := tb c) (x := nI c) (Or.inl ⟨rfl, nI_tb7 c hc⟩)
  obtain ⟨N, n1, n2, n3, n4⟩ := F_liveU (n := 1) m3 m2 (by omega)
  have n1 : fX2_live t (1 : Int32) (gSI M1 14 0 (nI c)) = some N := n1
  have hr := (n2.1 0 (by omega)).2.2.2.2.2 p (by omega)
  rw [fiR_in hp (go_y0 h.2.1 _ p)] at hr
  unfold fX8_cutsApart fX8_cutsApart_0 fX8_cutsApart_20
  rw [m1, gB0_some, if_pos (gob_T m3), m3.1.1, n1, gB0_some, show gIx 7 48 (0 : Int32) = true from ix48 (j := 0) (by omega), if_pos rfl, show gRa 48 (Int32.toNatClampNeg (0 : Int32)) = 49 from rfl, if_pos (gIx_k (gSh_y 0 (by omega)).2.2.1 (gSh_y 0 (by omega)).2.2.2 (show p < 6 by omega) (by omega)), nI_clamp (by omega), show N.1 49 p = gMk 6 (fmO (tiY v (uS 0 (tb c)) 0) p) from hr, F_has _ (by omega), bt_gMk (by omega), decide_eq_true (show q < 6 by omega), Bool.true_and, gB0_some, ite_bI]
  refine ⟨N, ?_, n3, m4.tr n4⟩
  unfold cuA
  cases fmO (tiY v (uS 0 (tb c)) 0) p q <;> rfl
theorem tn_nj {N : gMem} {t : Nat} {v : gCt} (h : CT N t v) : N.1 (N.2.2 0) 6 = nI (v 0 5) := by rw [h.1.1]; exact h.2.2.1.1.2.2.2.2.2.2.1
theorem nI_m1 : ∀ z, z < 200 → ¬ nI z = -1 := by decide +kernel
theorem cuA_lt7 {v : gCt} (hv : gWF v) {i : Nat} (hi : i < 2 ^ v 0 5) : i < 128 := by
  have := pow_le7 hv.1.2.2.2.2.2.1
  omega
theorem C_fewestCut {M : gMem} {t p q : Nat} {v : gCt} (h : CT M t v) (hp : p < v 0 4) (hq : q < v 0 4) : ∃ N, fX8_fewestCut (nI p) (nI q) M = some (oV (snO v p q), N) ∧ CT N t v ∧ KP M N := by
  have hv0 := h.2.1.1
  have hpw := pow_le7 hv0.2.2.2.2.2.1
  have key : ∃ r, fX8_fewestCut (nI p) (nI q) M = some r ∧ (r.1 = oV (snO v p q) ∧ CT r.2 t v ∧ KP M r.2) := by
    unfold fX8_fewestCut fX8_fewestCut_0 fX8_fewestCut_5h
    refine gLp_inv (fun i (s : Int32 × Int32 × gMem) => s.1 = oV (leC (fun s => cnU 7 (tb s)) (cuA v p q) i) ∧ s.2.1 = nI i ∧ CT s.2.2 t v ∧ KP M s.2.2) (2 ^ v 0 5) (fun (r : Int32 × gMem) => r.1 = oV (snO v p q) ∧ CT r.2 t v ∧ KP M r.2) (by omega) (fun i s hi hI => ?_) (fun s hI => ?_) _ ⟨rfl, rfl, h, KP.rf⟩
    · obtain ⟨x2, x3, N⟩ := s
      obtain ⟨g1, g2, g3, g4⟩ := hI
      have g1 : x2 = oV (leC (fun s => cnU 7 (tb s)) (cuA v p q) i) := g1
      have g2 : x3 = nI i := g2
      have g3 : CT N t v := g3
      have g4 : KP M N := g4
      subst g1; subst g2
      have hi7 : i < 128 := by omega
      obtain ⟨A, a1, a2, a3⟩ := C_cutsApart g3 hp hq hi7
      have look : ∀ b : Option Nat, (∀ c, b = some c → cnU 7 (tb i) < cnU 7 (tb c)) → leC (fun s => cnU 7 (tb s)) (cuA v p q) i = b → ∃ s', fX8_fewestCut_36 (nI p) (nI q) (oV b) (nI i) N = some (Sum.inl s') ∧ (s'.1 = oV (leC (fun s => cnU 7 (tb s)) (cuA v p q) (i + 1)) ∧ s'.2.1 = nI (i + 1) ∧ CT s'.2.2 t v ∧ KP M s'.2.2) := by
        intro b hb hl
        have hs : leC (fun s => cnU 7 (tb s)) (cuA v p q) (i + 1) = if cuA v p q i = true then some i else b := by
          rw [leC_s, hl]
          cases b with
          | none => rfl
          | some c =>
            have := hb c rfl
            show (if cnU 7 (tb i) < cnU 7 (tb c) ∧ cuA v p q i = true then some i else some c) = _
            simp only [this, true_and]
        unfold fX8_fewestCut_36 fX8_fewestCut_41
        rw [if_neg (by decide), a1, gBp_some, ite_bI, nI_1, hs]
        cases cuA v p q i
        · exact ⟨_, rfl, rfl, rfl, a2, g4.tr a3⟩
        · exact ⟨_, rfl, rfl, rfl, a2, g4.tr a3⟩
      refine Or.inl ?_
      show ∃ s', fX8_fewestCut_5 (nI p) (nI q) (oV (leC (fun s => cnU 7 (tb s)) (cuA v p q) i)) (nI i) N = _ ∧ _
      unfold fX8_fewestCut_5
      rw [if_pos (gob_T g3), tn_nj g3, sh_pow _ (by omega), if_neg (nI_ge hi (by omega))]
      cases hl : leC (fun s => cnU 7 (tb s)) (cuA v p q) i with
      | none =>
        rw [if_pos (show oV none = -1 from rfl)]
        exact look none (fun c hc => by cases hc) hl
      | some b =>
        obtain ⟨hb, -⟩ := leC_lt hl
        have c1 : cnU 7 (tb i) ≤ 7 := cnU_le 7 _
        have c2 : cnU 7 (tb b) ≤ 7 := cnU_le 7 _
        rw [if_neg (show ¬ oV (some b) = -1 from nI_m1 b (by omega)), F_bc, gB0_some, F_bc, gB0_some, show oV (some b) = nI b from rfl, pop7 hi7, pop7 (show b < 128 by omega)]
        by_cases c : cnU 7 (tb i) < cnU 7 (tb b)
        · rw [if_neg (nI_ge c (by omega))]
          exact look (some b) (fun c' hc => by cases hc; exact c) hl
        · rw [if_pos (nI_le (by omega) (by omega))]
          unfold fX8_fewestCut_41
          rw [if_pos rfl, nI_1]
          refine ⟨_, rfl, ?_, rfl, g3, g4⟩
          show nI b = oV (leC (fun s => cnU 7 (tb s)) (cuA v p q) (i + 1))
          rw [leC_s, hl]
          show _ = oV (if cnU 7 (tb i) < cnU 7 (tb b) ∧ cuA v p q i = true then some i else some b)
          rw [if_neg (fun h => c h.1)]; rfl
    · obtain ⟨x2, x3, N⟩ := s
      obtain ⟨g1, g2, g3, g4⟩ := hI
      have g2 : x3 = nI (2 ^ v 0 5) := g2
      have g3 : CT N t v := g3
      subst g2
      show ∃ r, fX8_fewestCut_5 (nI p) (nI q) x2 (nI (2 ^ v 0 5)) N = _ ∧ _
      unfold fX8_fewestCut_5
      rw [if_pos (gob_T g3), tn_nj g3, sh_pow _ (by omega), if_pos (Int32.le_refl _)]
      exact ⟨_, rfl, g1, g3, g4⟩
  obtain ⟨⟨r, K⟩, k1, k2, k3, k4⟩ := key
  exact ⟨K, by rw [k1]; exact congrArg (fun z => some (z, K)) k2, k3, k4⟩
theorem C_waxOf {M : gMem} {t c : Nat} {v : gCt} (h : CT M t v) (hc : c < 128) : fX7_waxOf t (nI c) M = some (nI (waX v c)) := by
  have hv0 := h.2.1.1
  have ht := gTn_of h.1.2
  unfold fX7_waxOf fX7_waxOf_0 fX7_waxOf_4h
  refine gLp_for (fun i => (nI (suU i (tb c) (v 6)), nI i)) (v 0 5) _ (by omega) (fun i hi => ?_) ?_ _ rfl
  · show fX7_waxOf_4 t (nI c) (nI (suU i (tb c) (v 6))) (nI i) M = _
    unfold fX7_waxOf_4
    have hw := (h.2.2.1.2.2.1 i hi).2.2
    rw [h.2.2.1.1.2.2.2.2.2.2.1, if_neg (nI_ge hi (by omega)), nI_tb7 c hc, F_has _ (by omega), bt_gMk (by omega), decide_eq_true (show i < 7 by omega), Bool.true_and, gB0_some, ite_bI, if_pos (ix6 ht (by omega)), nI_clamp (by omega), hw, nI_1]
    show _ = some (Sum.inl (nI (suU (i + 1) (tb c) (v 6)), nI (i + 1)))
    rw [suU_s]
    have hle := suU_le (n := i) (k := 9) (f := tb c) (w := v 6) (fun q hq => (h.2.1.2.2.1 q (by omega)).2.2.2.2)
    have h9 := (h.2.1.2.2.1 i hi).2.2.2.2
    show (if c.testBit i = true then _ else _) = _
    cases e : c.testBit i
    · have : tb c i = false := e
      rw [this]; rfl
    · have : tb c i = true := e
      rw [this, if_pos rfl, if_pos rfl, nI_add]
  · show fX7_waxOf_4 t (nI c) _ (nI (v 0 5)) M = _
    unfold fX7_waxOf_4
    rw [h.2.2.1.1.2.2.2.2.2.2.1, if_pos (Int32.le_refl _)]
    rfl
