/-! when, by the class: all years -/
theorem C_tryAct {M : gMem} {t p q y : Nat} {v : gCt} (h : CT M t v) (h30 : v 0 8 ≤ 30) (hy0 : 0 < v 0 0) (hp : p < v 0 4) (hq : q < v 0 4) (hpq : p ≠ q) (hy : y < v 0 0) : ∃ A B, fX0_add (t + 10) (nI p) (nI q) (nI y) (9 : Int32) M = some A ∧ fX8_lastWorthOfBoth (nI p) (nI q) A = some (whO (wA v p q y) p q, B) ∧ B.2.2 0 = t ∧ ∃ N, fX0_takeBack (t + 10) B = some N ∧ CT N t v ∧ KW t M N := by
  have ht := gTn_of h.1.2
  have hlo := gTn_lo ht
  have hv := h.2.1
  have hW := wA_WF hv h30 hp hq hpq hy
  obtain ⟨A, a1, a2, a3, a4, a5, a6⟩ := C_addAct (p := p) (q := q) (y := y) h h30
  have eA : A.2.2 0 = t := by rw [a3]; exact h.1.1
  obtain ⟨B, b1', b2⟩ := C_both eA h.1.2 hW a2 (by rw [wA_0 (by decide)]; exact hy0) (show p < wA v p q y 0 4 by rw [wA_0 (by decide)]; exact hp) (show q < wA v p q y 0 4 by rw [wA_0 (by decide)]; exact hq)
  have eB : B.2.2 0 = t := by rw [b2.2.2.2]; exact eA
  have oB : ∀ k, k < 15 → B.1 (t + k) = A.1 (t + k) := fun k hk => b2.1 _ (scr_T ht hk)
  have r4 : M.1 (t + 10) 4 = nI (v 0 8) := by
    have := h.2.2.1.1
    simp only [this]
  have r4A : A.1 (t + 10) 4 = nI (v 0 8 + 1) := by
    have := a2.1
    rw [wA_8] at this
    simp only [this]
  have n4 : gMx (0 : Int32) (nI (v 0 8 + 1) - 1) = nI (v 0 8) := by
    have key : ∀ z, z ≤ 30 → gMx (0 : Int32) (nI (z + 1) - 1) = nI z := by decide +kernel
    exact key _ h30
  refine ⟨A, B, a1, b1', eB, gSI B (t + 10) 4 (nI (v 0 8)), ?_, ?_, ?_⟩
  · unfold fX0_takeBack fX0_takeBack_0
    rw [oB 10 (by omega), r4A, n4]
  · have far : ∀ k, scr k = false → (k < t + 10 ∨ t + 15 ≤ k) → (gSI B (t + 10) 4 (nI (v 0 8))).1 k = M.1 k := fun k s a => (gSI_ne (by omega)).trans ((b2.1 k s).trans (a4 k a))
    have ten : (gSI B (t + 10) 4 (nI (v 0 8))).1 (t + 10) = M.1 (t + 10) := by
      funext j
      by_cases c : j = 4
      · subst c; exact gSI_eq.trans r4.symm
      · exact (gSI_nj c).trans ((congrFun (oB 10 (by omega)) j).trans (a5 j c))
    have ent : ∀ k, 11 ≤ k → k ≤ 14 → ∀ i, i ≠ v 0 8 → (gSI B (t + 10) 4 (nI (v 0 8))).1 (t + k) i = M.1 (t + k) i := fun k a b i hi => (gSI_o (by omega)).trans ((congrFun (oB k (by omega)) i).trans (a6 k a b i hi))
    refine ⟨⟨eB, h.1.2⟩, hv, ?_, RA_same h.2.2.2.1 (fun k a b => far k ?_ (by omega)), RC_same h.2.2.2.2 (fun k a b => far k ?_ (by omega))⟩
    · obtain ⟨r0, r1, r2, r3, r5, r6⟩ := h.2.2.1
      have o0 := far t (scr_T ht (k := 0) (by omega)) (by omega)
      have ok : ∀ i, i < 10 → (gSI B (t + 10) 4 (nI (v 0 8))).1 (t + i) = M.1 (t + i) := fun i hi => far (t + i) (scr_T ht (by omega)) (by omega)
      unfold RT
      rw [o0, ok 1 (by omega), ok 2 (by omega), ok 3 (by omega), ok 4 (by omega), ok 5 (by omega), ok 6 (by omega), ok 7 (by omega), ok 8 (by omega), ok 9 (by omega), ten]
      refine ⟨r0, r1, r2, r3, r5, fun i hi => ?_⟩
      have z := r6 i hi
      have c : i ≠ v 0 8 := by omega
      exact ⟨(ent 11 (by omega) (by omega) i c).trans z.1, (ent 12 (by omega) (by omega) i c).trans z.2.1, (ent 13 (by omega) (by omega) i c).trans z.2.2.1, (ent 14 (by omega) (by omega) i c).trans z.2.2.2⟩
    · unfold scr
      simp only [Bool.or_eq_false_iff, Bool.and_eq_false_iff, decide_eq_false_iff_not]
      omega
    · unfold scr
      simp only [Bool.or_eq_false_iff, Bool.and_eq_false_iff, decide_eq_false_iff_not]
      omega
  · refine ⟨fun k s a => (gSI_ne (by omega)).trans ((b2.1 k s).trans (a4 k a)), fun j c => (gSI_nj c).trans ((congrFun (oB 10 (by omega)) j).trans (a5 j c)), fun j hj => ?_, fun k c1 c2 => ?_, ?_⟩
    · exact (gSI_o (by omega)).trans ((b2.2.1 j hj).trans (congrFun (a4 141 (by omega)) j))
    · show B.2.1 k = M.2.1 k
      rw [b2.2.2.1 k c1 c2, a3]
    · show B.2.2 = M.2.2
      rw [b2.2.2.2, a3]
theorem C_when {M : gMem} {t p q : Nat} {v : gCt} (h : CT M t v) (h30 : v 0 8 ≤ 30) (hy : 0 < v 0 0) (hp : p < v 0 4) (hq : q < v 0 4) (hpq : p ≠ q) : ∃ N, gBp (fX8_lastWorthOfBoth (nI p) (nI q) M) (fun r4 M5 => fX8_when_28h (nI p) (nI q) (-1 : Int32) r4 (0 : Int32) M5) = some ((whS v p q (v 0 0)).1, N) ∧ CT N t v ∧ KW t M N := by
  have ht := gTn_of h.1.2
  have hv := h.2.1
  have hv0 := hv.1
  obtain ⟨A, a1, a2⟩ := C_both h.1.1 h.1.2 hv h.2.2.1 hy hp hq
  rw [a1, gBp_some]
  have key : ∃ r, fX8_when_28h (nI p) (nI q) (-1 : Int32) (whO v p q) (0 : Int32) A = some r ∧ (r.1 = (whS v p q (v 0 0)).1 ∧ CT r.2 t v ∧ KW t M r.2) := by
    unfold fX8_when_28h
    refine gLp_inv (fun i (s : Int32 × Int32 × Int32 × gMem) => (s.1, s.2.1) = whS v p q i ∧ s.2.2.1 = nI i ∧ CT s.2.2.2 t v ∧ KW t M s.2.2.2) (v 0 0) (fun (r : Int32 × gMem) => r.1 = (whS v p q (v 0 0)).1 ∧ CT r.2 t v ∧ KW t M r.2) (by omega) (fun i s hi hI => ?_) (fun s hI => ?_) _ ⟨rfl, rfl, h.kp a2, a2.kw ht⟩
    · obtain ⟨x3, x4, i', N⟩ := s
      obtain ⟨g1, g2, g3, g4⟩ := hI
      have g1 : (x3, x4) = whS v p q i := g1
      have g2 : i' = nI i := g2
      subst g2
      have g3 : CT N t v := g3
      have g4 : KW t M N := g4
      obtain ⟨K, L, k1, k2, k3, P, k4, k5, k6⟩ := C_tryAct g3 h30 hy hp hq hpq hi
      refine Or.inl ?_
      show ∃ s', fX8_when_28 (nI p) (nI q) x3 x4 (nI i) N = _ ∧ _
      unfold fX8_when_28
      rw [if_pos (gob_T g3), tn_ny g3, if_neg (nI_ge hi (by omega)), if_pos (gob_T g3), g3.1.1, k1, gB0_some, k2, gBp_some, k3, if_pos h.1.2, k4, gB0_some, nI_1]
      have kM : KW t M P := g4.tr k6
      have e4 : x4 = (whS v p q i).2 := congrArg Prod.snd g1
      by_cases c : x4 < whO (wA v p q i) p q
      · rw [if_neg (Int32.not_le.mpr c)]
        refine ⟨_, rfl, ?_, rfl, k5, kM⟩
        rw [whS_s, if_pos (by rw [← e4]; exact c)]
      · rw [if_pos (Int32.not_lt.mp c)]
        refine ⟨_, rfl, ?_, rfl, k5, kM⟩
        rw [whS_s, if_neg (by rw [← e4]; exact c)]
        exact g1
    · obtain ⟨x3, x4, i', N⟩ := s
      obtain ⟨g1, g2, g3, g4⟩ := hI
      have g1 : (x3, x4) = whS v p q (v 0 0) := g1
      have g2 : i' = nI (v 0 0) := g2
      subst g2
      have g3 : CT N t v := g3
      show ∃ r, fX8_when_28 (nI p) (nI q) x3 x4 (nI (v 0 0)) N = _ ∧ _
      unfold fX8_when_28
      rw [if_pos (gob_T g3), tn_ny g3, if_pos (Int32.le_refl _)]
      exact ⟨_, rfl, congrArg Prod.fst g1, g3, g4⟩
  obtain ⟨⟨r, K⟩, k1, k2, k3, k4⟩ := key
  exact ⟨K, by rw [k1]; exact congrArg (fun z => some (z, K)) k2, k3, k4⟩
/-- a question that tries acts and takes them back -/
def SW (t : Nat) (v : gCt) (f g : gMem → Option (Int32 × gMem)) : Prop := ∃ r, (∀ M, CT M t v → ∃ N, f M = some (r, N) ∧ CT N t v ∧ KW t M N) ∧ ∀ M, CT M t v → ∃ N, g M = some (r, N) ∧ KP M N
theorem Q_when {t : Nat} {v : gCt} (hyo : yOK v) (h30 : v 0 8 ≤ 30) (p x : Int32) : SW t v (fX8_when p x) (fX9_when p x) := by
  cases hb : inP v p x
  · refine ⟨-2, fun M hM => ⟨M, ?_, hM, KP.rf.kw (gTn_of hM.1.2)⟩, fun M hM => ⟨_, ?_, kp0 M⟩⟩
    · unfold fX8_when fX8_when_0
      rw [if_pos (gob_T hM), hM.1.1, F_hasPair hM.2.1 hM.2.2.1, gB0_some, ite_bI, hb]; rfl
    · have hN := hM.kp (kp0 M)
      unfold fX9_when fX9_when_0 fX9_when_8
      rw [M_areTwo hN.2.1 hN.2.2.2.1, gB0_some, ite_bI, hb]; rfl
  · obtain ⟨k, q, h1, h2, h3, rfl, rfl⟩ := inP_k hb
    have hy := y_pos hyo h1
    refine ⟨(whS v k q (v 0 0)).1, fun M hM => ?_, fun M hM => ?_⟩
    · obtain ⟨N, n1, n2, n3⟩ := C_when hM h30 hy h1 h2 h3
      refine ⟨N, ?_, n2, n3⟩
      unfold fX8_when fX8_when_0
      rw [if_pos (gob_T hM), hM.1.1, F_hasPair hM.2.1 hM.2.2.1, gB0_some, ite_bI, hb]
      exact n1
    · have hN := hM.kp (kp0 M)
      obtain ⟨N, n1, n2, n3⟩ := M_when hN h30 hy h1 h2 h3
      refine ⟨N, ?_, (kp0 M).tr n3⟩
      unfold fX9_when fX9_when_0 fX9_when_8
      rw [M_areTwo hN.2.1 hN.2.2.2.1, gB0_some, ite_bI, hb]
      exact n1
