/-! The reference: a year whole. -/
theorem F_year_c {M : gMem} {v w : gCt} {u : gSp} {ex : List gJo} {y : Nat} (hv : gWF v) (hw : WV v w u ex) (hs : MS M v u ex) (hy : y < 12) (hl : (gl w u).length ≤ 1000)
    (h1 : ∀ p, p < w 0 4 → M.1 156 p = oV (frO (fun z => goY w u z p) (y + 1)) ∧ M.1 157 p = oV (frO (fun z => skY w u z p) y) ∧ ∀ z, z ≤ y → z < 12 → M.1 158 (12 * p + z) = woY w u z p)
    (h2 : ∀ z, z < y + 1 → TC M z (tcO (gl w u) z (goY w u z))) :
    ∃ N, fX9_year_94h (nI y) 0 M = some N ∧ MV N w u (y + 1) ∧ YF M N := by
  have hw0 := hw.1.1
  have e04 : v 0 4 = w 0 4 := (hw.2.2 0 4 (by omega) (by omega)).symm
  unfold fX9_year_94h
  refine gLp_inv (fun i (s : Int32 × gMem) => s.1 = nI i ∧ (∀ p, p < w 0 4 → s.2.1 157 p = oV (frO (fun z => skY w u z p) (if p < i then y + 1 else y))) ∧ (∀ q, q ≠ 157 → s.2.1 q = M.1 q) ∧ s.2.2 = M.2) (w 0 4) (fun (N : gMem) => MV N w u (y + 1) ∧ YF M N) (by omega) (fun i s hi hI => ?_) (fun s hI => ?_) _ ⟨rfl, fun p hp => by rw [if_neg (Nat.not_lt_zero p)]; exact (h1 p hp).2.1, fun _ _ => rfl, rfl⟩
  · obtain ⟨i', N⟩ := s
    obtain ⟨g1, hI⟩ := hI
    have g1 : i' = nI i := g1
    subst g1
    obtain ⟨g2, g3, g4⟩ := hI
    have g2 : ∀ p, p < w 0 4 → N.1 157 p = oV (frO (fun z => skY w u z p) (if p < i then y + 1 else y)) := g2
    have g3 : ∀ q, q ≠ 157 → N.1 q = M.1 q := g3
    have g4 : N.2 = M.2 := g4
    have hraw : RA N w := RA_same (RA_w hs.1 hw) (fun q _ _ => g3 q (by omega))
    have hot : OT N (w 0 4) y (goY w u y) := fun p hp => ⟨_, frO_lt (n := y + 1) (by omega), by rw [g3 156 (by omega)]; exact (h1 p hp).1, oB_fr (goY_mono w u p) (by omega)⟩
    have hcb : CB N (w 0 4) u := by
      rw [← e04]
      unfold CB; rw [g3 141 (by omega)]; exact hs.2.2.2.2
    have h27 : N.1 141 27 = gMk 6 (u 2) := by rw [g3 141 (by omega)]; exact hs.2.2.1.2.2.1
    have hi6 : i < 6 := by omega
    have hcur := g2 i hi
    rw [if_neg (Nat.lt_irrefl i)] at hcur
    -- what the year's cold is
    have hsk : skY w u y i = ((ca0 w u y i || toC w y i) && !(ev0 w u y i || (goY w u y i || u 2 i))) := by rw [skY_eq]; rfl
    have hct : fX9_isToldCold (nI i) (nI y) N = some (bI (toC w y i || (decide (y = 0) && u 3 i))) := F_isToldCold hw.1 hraw hcb hi hy
    have hcc : ∃ b, fX9_isCaught (nI i) (nI y) N = some (bI b) ∧ (ca0 w u y i || toC w y i) = ((toC w y i || (decide (y = 0) && u 3 i)) || b) := by
      match y, hy, h1, h2, g2, hot, hcur, hsk, hct with
      | 0, hy, h1, h2, g2, hot, hcur, hsk, hct =>
        refine ⟨false, F_isCaught0 hw.1 hraw, ?_⟩
        show (u 3 i || toC w 0 i) = _
        rw [Bool.or_comm]; simp
      | z + 1, hy, h1, h2, g2, hot, hcur, hsk, hct =>
        have hc : CO N (w 0 4) z (skY w u z) := fun q hq => ⟨_, frO_lt (n := if q < i then z + 1 + 1 else z + 1) (by split <;> omega), g2 q hq, fr_sk w u q (by split <;> omega)⟩
        have htc : TC N z (tcO (gl w u) z (goY w u z)) := fun a b ha hb => by rw [g3 155 (by omega)]; exact h2 z (by omega) a b ha hb
        refine ⟨_, F_isCaught hw.1 hraw hi hy hc htc (fun a b _ _ => tc_lt hl z _ a b), ?_⟩
        rw [decide_eq_false (show ¬ z + 1 = 0 by omega), Bool.false_and, Bool.or_false, Bool.or_comm]
        congr 1
        show anyU 6 (fun q => skY w u z q && tiY w u z q i) = _
        refine Bool.eq_iff_iff.mpr ⟨fun h => ?_, fun h => ?_⟩
        · obtain ⟨q, k1, k2⟩ := anyU_iff.mp h
          rw [Bool.and_eq_true, tiY_eq] at k2
          have := tiO_in (gl_ok hw.1 u) k2.2
          refine anyU_iff.mpr ⟨q, this.1, ?_⟩
          rw [k2.1, tc_ti, tiO_sy, k2.2]; rfl
        · obtain ⟨q, k1, k2⟩ := anyU_iff.mp h
          rw [Bool.and_eq_true, tc_ti, tiO_sy] at k2
          refine anyU_iff.mpr ⟨q, by omega, ?_⟩
          rw [k2.1, tiY_eq, k2.2]; rfl
    obtain ⟨b, hb1, hb2⟩ := hcc
    rw [hb2] at hsk
    have hev : (N.1 157 i = -1) = (ev0 w u y i = false) := by
      rw [hcur]
      exact (fr_ev w u i y).resolve_right (by omega)
    have same : skY w u y i = false → ∀ p, p < w 0 4 → N.1 157 p = oV (frO (fun z => skY w u z p) (if p < i + 1 then y + 1 else y)) := by
      intro h0 p hp
      rw [g2 p hp]
      by_cases e : p = i
      · subst e
        rw [if_neg (Nat.lt_irrefl p), if_pos (by omega), frO]
        cases hf : frO (fun z => skY w u z p) y with
        | some z => rfl
        | none => simp [h0]
      · have : (p < i) = (p < i + 1) := propext ⟨fun _ => by omega, fun _ => by omega⟩
        simp only [this]
    have new : skY w u y i = true → ∀ p, p < w 0 4 → (gSI N 157 i (nI y)).1 157 p = oV (frO (fun z => skY w u z p) (if p < i + 1 then y + 1 else y)) := by
      intro h0 p hp
      by_cases e : p = i
      · subst e
        rw [gSI_eq, if_pos (by omega), frO]
        have : frO (fun z => skY w u z p) y = none := frO_none.mpr (fun z hz => by
          cases hc : skY w u z p
          · rfl
          · have := sk_once hc h0; omega)
        rw [this]
        simp [h0, oV]
      · rw [gSI_nj e, g2 p hp]
        have : (p < i) = (p < i + 1) := propext ⟨fun _ => by omega, fun _ => by omega⟩
        simp only [this]
    refine Or.inl ?_
    show ∃ s', fX9_year_94 (nI y) (nI i) N = _ ∧ _
    unfold fX9_year_94 fX9_year_150
    rw [F_people hraw, gB0_some, if_neg (nI_ge hi (by omega)), F_out hot (by omega) (by omega) hi, gB0_some, ite_bI, nI_1, h27, F_isBit _ (by omega), bt_gMk (by omega), decide_eq_true hi6, Bool.true_and, gB0_some, ite_bI, ix157 hi6, if_pos rfl, nI_clamp (by omega), hct, gB0_some, ite_bI, hb1, gB0_some, ite_bI]
    simp only [hev, if_true]
    cases c1 : goY w u y i
    · cases c2 : u 2 i
      · cases c3 : ev0 w u y i
        · rw [c1, c2, c3] at hsk
          cases c4 : (toC w y i || (decide (y = 0) && u 3 i))
          · cases c5 : b
            · exact ⟨_, rfl, rfl, same (by rw [hsk, c4, c5]; rfl), g3, g4⟩
            · exact ⟨_, rfl, rfl, new (by rw [hsk, c4, c5]; rfl), fun q hq => (gSI_ne hq).trans (g3 q hq), g4⟩
          · exact ⟨_, rfl, rfl, new (by rw [hsk, c4]; rfl), fun q hq => (gSI_ne hq).trans (g3 q hq), g4⟩
        · exact ⟨_, rfl, rfl, same (by rw [hsk, c3]; simp), g3, g4⟩
      · exact ⟨_, rfl, rfl, same (by rw [hsk, c2]; simp), g3, g4⟩
    · exact ⟨_, rfl, rfl, same (by rw [hsk, c1]; simp), g3, g4⟩
  · obtain ⟨i', N⟩ := s
    obtain ⟨g1, hI⟩ := hI
    have g1 : i' = nI (w 0 4) := g1
    subst g1
    obtain ⟨g2, g3, g4⟩ := hI
    have g2 : ∀ p, p < w 0 4 → N.1 157 p = oV (frO (fun z => skY w u z p) (if p < w 0 4 then y + 1 else y)) := g2
    have g3 : ∀ q, q ≠ 157 → N.1 q = M.1 q := g3
    have g4 : N.2 = M.2 := g4
    have hraw : RA N w := RA_same (RA_w hs.1 hw) (fun q _ _ => g3 q (by omega))
    have hyf : YF M N := ⟨fun q hq => g3 q (by omega), g4⟩
    have h157 : ∀ p, p < w 0 4 → N.1 157 p = oV (frO (fun z => skY w u z p) (y + 1)) := fun p hp => by rw [g2 p hp, if_pos hp]
    obtain ⟨K, k1, k2, k3, k4⟩ := F_year_w (M := N) hv hw (hs.yf hyf) hy (fun p hp => ⟨by rw [g3 156 (by omega)]; exact (h1 p hp).1, h157 p hp, fun z hz h12 => by rw [g3 158 (by omega)]; exact (h1 p hp).2.2 z hz h12⟩)
    show ∃ r, fX9_year_94 (nI y) (nI (w 0 4)) N = _ ∧ _
    unfold fX9_year_94
    rw [F_people hraw, gB0_some, if_pos (Int32.le_refl _), k1]
    refine ⟨K, rfl, ⟨fun p hp => ⟨by rw [k3 156 (by omega), g3 156 (by omega)]; exact (h1 p hp).1, by rw [k3 157 (by omega)]; exact h157 p hp, k2 p hp⟩, fun z hz a b ha hb => ?_⟩, hyf.tr ⟨fun q hq => k3 q (by omega), k4⟩⟩
    rw [k3 155 (by omega), g3 155 (by omega)]
    exact h2 z hz a b ha hb
theorem F_year {M : gMem} {v w : gCt} {u : gSp} {ex : List gJo} {y : Nat} (hv : gWF v) (hw : WV v w u ex) (hs : MS M v u ex) (hy : y < 12) (hl : (gl w u).length ≤ 1000) (hm : MV M w u y) :
    ∃ N, fX9_year (nI y) M = some N ∧ MV N w u (y + 1) ∧ YF M N := by
  have hw0 := hw.1.1
  have e04 : v 0 4 = w 0 4 := (hw.2.2 0 4 (by omega) (by omega)).symm
  have hok := gl_ok hw.1 u
  obtain ⟨m1, m2⟩ := hm
  have ho0 : OT M (w 0 4) y (go0 w u y) := fun p hp => ⟨_, frO_lt (n := y) (by omega), (m1 p hp).1, oB_go0 w u y p⟩
  obtain ⟨A, a1, a2, a3⟩ := F_laysTies (M := M) (v := v) (u := u) (ex := ex) (y := y) (ot := go0 w u y) hv hs.1 hs.2.1 hs.2.2.1 hs.2.2.2.1 hy (by rw [e04]; exact ho0)
  rw [← hw.2.1] at a2
  unfold fX9_year fX9_year_0
  rw [a1, gB0_some]
  have hsA := hs.yf a3.yf
  have hraA : RA A w := RA_w hsA.1 hw
  have hoA : OT A (w 0 4) y (go0 w u y) := OT_same ho0 (a3.2.1 156 (by omega))
  -- who fails
  have hfirm : ∀ p, p < w 0 4 → fX9_firmOf (nI p) (nI y) A = some (if go0 w u y p = true then 0 else gMk 6 (fmO (tiO (gl w u) y (go0 w u y)) p)) := by
    intro p hp
    rw [F_firmOf hw.1 hraA hoA hy a2 (fun a b _ _ => tc_lt hl y _ a b) (fun a q _ _ h => by rw [tc_ti] at h; have := tiO_in hok h; exact ⟨this.1, this.2.1⟩) hp]
    have : gMk 6 (fmO (fun a q => decide (0 < tcO (gl w u) y (go0 w u y) a q)) p) = gMk 6 (fmO (tiO (gl w u) y (go0 w u y)) p) := gMk_ext (fun q hq => fmO_ext2 y _ p q hq)
    rw [this]
  have hfund : ∀ p, p < w 0 4 → fX9_fundsOf (gMk 6 (fmO (tiO (gl w u) y (go0 w u y)) p)) (nI y) A = some (smI 6 (fmO (tiO (gl w u) y (go0 w u y)) p) (woY w u y)) := fun p hp =>
    F_fundsOf hw.1 hraA hy (fun q hq => by rw [a3.2.1 158 (by omega)]; exact (m1 q hq).2.2 y (Nat.le_refl _) hy) (fun q hq h => fm_lt hok hp hq h)
  have hgo : ∀ p, p < w 0 4 → goY w u y p = (go0 w u y p || faO w u y (go0 w u y) (woY w u y) p) := fun p _ => by rw [goY_eq]; rfl
  -- they are marked
  have mark : ∀ B, A = B → ∃ N, fX9_year_54h (nI y) (gMk (w 0 4) (faO w u y (go0 w u y) (woY w u y))) 0 B = some N ∧ MV N w u (y + 1) ∧ YF M N := by
    intro B hB
    subst hB
    unfold fX9_year_54h
    refine gLp_inv (fun i (s : Int32 × gMem) => s.1 = nI i ∧ (∀ p, p < w 0 4 → s.2.1 156 p = oV (frO (fun z => goY w u z p) (if p < i then y + 1 else y))) ∧ (∀ q, q ≠ 156 → s.2.1 q = A.1 q) ∧ s.2.2 = A.2) (w 0 4) (fun (N : gMem) => MV N w u (y + 1) ∧ YF M N) (by omega) (fun i s hi hI => ?_) (fun s hI => ?_) _ ⟨rfl, fun p hp => by rw [if_neg (Nat.not_lt_zero p), a3.2.1 156 (by omega)]; exact (m1 p hp).1, fun _ _ => rfl, rfl⟩
    · obtain ⟨i', N⟩ := s
      obtain ⟨g1, hI⟩ := hI
      have g1 : i' = nI i := g1
      subst g1
      obtain ⟨g2, g3, g4⟩ := hI
      have g2 : ∀ p, p < w 0 4 → N.1 156 p = oV (frO (fun z => goY w u z p) (if p < i then y + 1 else y)) := g2
      have g3 : ∀ q, q ≠ 156 → N.1 q = A.1 q := g3
      have g4 : N.2 = A.2 := g4
      have hraw : RA N w := RA_same hraA (fun q _ _ => g3 q (by omega))
      have hstep : ∀ p, ¬ p = i → (if p < i then y + 1 else y) = (if p < i + 1 then y + 1 else y) := fun p e => by
        have : (p < i) = (p < i + 1) := propext ⟨fun _ => by omega, fun _ => by omega⟩
        simp only [this]
      have h0 := oB_go0 w u y i
      refine Or.inl ?_
      show ∃ s', fX9_year_54 (nI y) _ (nI i) N = _ ∧ _
      unfold fX9_year_54
      rw [F_people hraw, gB0_some, if_neg (nI_ge hi (by omega)), F_isBit _ (by omega), bt_gMk (by omega), decide_eq_true hi, Bool.true_and, gB0_some, ite_bI, nI_1, ix156 (by omega), if_pos rfl, nI_clamp (by omega)]
      cases hfa : faO w u y (go0 w u y) (woY w u y) i
      · refine ⟨_, rfl, rfl, fun p hp => ?_, g3, g4⟩
        show N.1 156 p = _
        rw [g2 p hp]
        by_cases e : p = i
        · subst e
          rw [if_neg (Nat.lt_irrefl p), if_pos (by omega), frO]
          cases hf : frO (fun z => goY w u z p) y with
          | some z => rfl
          | none =>
            rw [hf] at h0
            have : goY w u y p = false := by rw [hgo p hp, hfa, ← h0]; rfl
            simp [this]
        · rw [hstep p e]
      · refine ⟨_, rfl, rfl, fun p hp => ?_, fun q hq => (gSI_ne hq).trans (g3 q hq), g4⟩
        show (gSI N 156 i (nI y)).1 156 p = _
        by_cases e : p = i
        · subst e
          rw [gSI_eq, if_pos (by omega), frO]
          have hn : go0 w u y p = false := by
            unfold faO at hfa
            cases hc : go0 w u y p
            · rfl
            · rw [hc] at hfa; simp at hfa
          have : goY w u y p = true := by rw [hgo p hp, hfa, Bool.or_true]
          cases hf : frO (fun z => goY w u z p) y with
          | some z =>
            rw [hf, hn] at h0
            have hz := (frO_some hf).1
            have : oB (some z) y = true := decide_eq_true (by omega)
            rw [this] at h0; cases h0
          | none => simp [this, oV]
        · rw [gSI_nj e, g2 p hp, hstep p e]
    · obtain ⟨i', N⟩ := s
      obtain ⟨g1, hI⟩ := hI
      have g1 : i' = nI (w 0 4) := g1
      subst g1
      obtain ⟨g2, g3, g4⟩ := hI
      have g3 : ∀ q, q ≠ 156 → N.1 q = A.1 q := g3
      have g4 : N.2 = A.2 := g4
      have g2 : ∀ p, p < w 0 4 → N.1 156 p = oV (frO (fun z => goY w u z p) (y + 1)) := fun p hp => by
        have := g2 p hp
        rw [if_pos hp] at this
        exact this
      have hraw : RA N w := RA_same hraA (fun q _ _ => g3 q (by omega))
      have hyf : YF M N := a3.yf.tr ⟨fun q hq => g3 q (by omega), g4⟩
      show ∃ r, fX9_year_54 (nI y) _ (nI (w 0 4)) N = _ ∧ _
      unfold fX9_year_54 fX9_year_92
      rw [F_people hraw, gB0_some, if_pos (Int32.le_refl _)]
      have base : ∀ K, YF M K → (∀ q, q ≠ 155 → K.1 q = N.1 q) → (∀ z, z < y + 1 → TC K z (tcO (gl w u) z (goY w u z))) → ∃ r, (gEx (fX9_year_94h (nI y) 0 K) : Option (Sum (Int32 × gMem) gMem)) = some (.inr r) ∧ (MV r w u (y + 1) ∧ YF M r) := by
        intro K hK hKN hKt
        obtain ⟨J, j1, j2, j3⟩ := F_year_c (M := K) hv hw (hs.yf hK) hy hl (fun p hp => ⟨by rw [hKN 156 (by omega)]; exact g2 p hp, by rw [hKN 157 (by omega), g3 157 (by omega), a3.2.1 157 (by omega)]; exact (m1 p hp).2.1, fun z hz h12 => by rw [hKN 158 (by omega), g3 158 (by omega), a3.2.1 158 (by omega)]; exact (m1 p hp).2.2 z hz h12⟩) hKt
        rw [j1]
        exact ⟨J, rfl, j2, hK.tr j3⟩
      have hold : ∀ z, z < y → TC N z (tcO (gl w u) z (goY w u z)) := fun z hz a b ha hb => by
        rw [g3 155 (by omega), a3.1 _ (Or.inl (by omega))]
        exact m2 z hz a b ha hb
      by_cases h0 : gMk (w 0 4) (faO w u y (go0 w u y) (woY w u y)) = 0
      · rw [if_pos h0]
        have hz := (gMk_eq0 (by omega) _).mp h0
        refine base N hyf (fun _ _ => rfl) (fun z hz' a b ha hb => ?_)
        by_cases e : z = y
        · subst e
          rw [g3 155 (by omega), a2 a b ha hb, tcO_ext (aw2 := goY w u z) hok (fun p hp => by rw [hgo p hp, hz p hp, Bool.or_false])]
        · exact hold z (by omega) a b ha hb
      · rw [if_neg h0]
        have hoN : OT N (w 0 4) y (goY w u y) := fun p hp => ⟨_, frO_lt (n := y + 1) (by omega), g2 p hp, oB_fr (goY_mono w u p) (by omega)⟩
        have hsN := hs.yf hyf
        obtain ⟨K, k1, k2, k3⟩ := F_laysTies (M := N) (v := v) (u := u) (ex := ex) (y := y) (ot := goY w u y) hv hsN.1 hsN.2.1 hsN.2.2.1 hsN.2.2.2.1 hy (by rw [e04]; exact hoN)
        rw [← hw.2.1] at k2
        rw [k1, gB0_some]
        refine base K (hyf.tr k3.yf) (fun q hq => k3.2.1 q hq) (fun z hz' a b ha hb => ?_)
        by_cases e : z = y
        · subst e; exact k2 a b ha hb
        · rw [k3.1 _ (Or.inl (by omega))]; exact hold z (by omega) a b ha hb
  -- the loop that looks who fails
  obtain ⟨N, n1, n2, n3⟩ := mark A rfl
  refine ⟨N, ?_, n2, n3⟩
  unfold fX9_year_9h
  refine gLp_for (fun i => (gMk i (faO w u y (go0 w u y) (woY w u y)), nI i)) (w 0 4) _ (by omega) (fun i hi => ?_) ?_ _ rfl
  · show fX9_year_9 (nI y) (gMk i (faO w u y (go0 w u y) (woY w u y))) (nI i) A = _
    unfold fX9_year_9
    rw [F_people hraA, gB0_some, if_neg (nI_ge hi (by omega)), F_out hoA (by omega) (by omega) hi, gB0_some, ite_bI, hfirm i hi, gB0_some, nI_1]
    have hfa : faO w u y (go0 w u y) (woY w u y) i = (decide (i < w 0 4) && (!go0 w u y i && decide (smI 6 (fmO (tiO (gl w u) y (go0 w u y)) i) (woY w u y) < 0))) := rfl
    rw [gMk_s i (faO w u y (go0 w u y) (woY w u y)), hfa, decide_eq_true hi, Bool.true_and]
    cases hg : go0 w u y i
    · simp only [Bool.false_eq_true, if_false, hfund i hi, gB0_some, b1_eq]
      by_cases h0 : smI 6 (fmO (tiO (gl w u) y (go0 w u y)) i) (woY w u y) < 0
      · rw [if_neg (Int32.not_le.mpr h0)]; simp [hi, h0]
      · rw [if_pos (Int32.not_lt.mp h0)]; simp [h0]
    · simp
  · show fX9_year_9 (nI y) _ (nI (w 0 4)) A = _
    unfold fX9_year_9
    rw [F_people hraA, gB0_some, if_pos (Int32.le_refl _), n1]
theorem lt_n1 : ∀ n, n ≤ 12 → ∀ y, y ≤ 12 → ((nI n - 1 < nI y) ↔ n ≤ y) := by decide +kernel
theorem F_runs {M : gMem} {v w : gCt} {u : gSp} {ex : List gJo} {n : Nat} (hv : gWF v) (hw : WV v w u ex) (hs : MS M v u ex) (hn : n ≤ 12) (hl : (gl w u).length ≤ 1000) :
    ∃ N, fX9_runs (nI n - 1) M = some N ∧ MV N w u n ∧ YF M N := by
  have hw0 := hw.1.1
  have live : ∀ K, YF M K → MV K w u 0 → ∃ N, fX9_runs_51h (nI n - 1) 0 K = some N ∧ MV N w u n ∧ YF M N := by
    intro K hK hK0
    unfold fX9_runs_51h
    refine gLp_inv (fun i (s : Int32 × gMem) => s.1 = nI i ∧ MV s.2 w u i ∧ YF M s.2) n (fun (N : gMem) => MV N w u n ∧ YF M N) (by omega) (fun i s hi hI => ?_) (fun s hI => ?_) _ ⟨rfl, hK0, hK⟩
    · obtain ⟨i', N⟩ := s
      obtain ⟨g1, hI⟩ := hI
      have g1 : i' = nI i := g1
      subst g1
      obtain ⟨g2, g3⟩ := hI
      have g2 : MV N w u i := g2
      have g3 : YF M N := g3
      obtain ⟨J, j1, j2, j3⟩ := F_year hv hw (hs.yf g3) (show i < 12 by omega) hl g2
      refine Or.inl ?_
      show ∃ s', fX9_runs_51 (nI n - 1) (nI i) N = _ ∧ _
      unfold fX9_runs_51
      rw [if_neg (fun h => by have := (lt_n1 n hn i (by omega)).mp h; omega), j1, gB0_some, nI_1]
      exact ⟨_, rfl, rfl, j2, g3.tr j3⟩
    · obtain ⟨i', N⟩ := s
      obtain ⟨g1, hI⟩ := hI
      have g1 : i' = nI n := g1
      subst g1
      obtain ⟨g2, g3⟩ := hI
      show ∃ r, fX9_runs_51 (nI n - 1) (nI n) N = _ ∧ _
      unfold fX9_runs_51
      rw [if_pos ((lt_n1 n hn n hn).mpr (Nat.le_refl _))]
      exact ⟨_, rfl, g2, g3⟩
  unfold fX9_runs fX9_runs_0 fX9_runs_2h
  refine gLp_inv (fun i (s : Int32 × gMem) => s.1 = nI i ∧ (∀ p, p < i → s.2.1 156 p = -1 ∧ s.2.1 157 p = -1 ∧ s.2.1 158 (12 * p) = nI (w 2 p)) ∧ YF M s.2) (w 0 4) (fun (N : gMem) => MV N w u n ∧ YF M N) (by omega) (fun i s hi hI => ?_) (fun s hI => ?_) _ ⟨rfl, fun p hp => absurd hp (Nat.not_lt_zero p), YF.rf⟩
  · obtain ⟨i', N⟩ := s
    obtain ⟨g1, hI⟩ := hI
    have g1 : i' = nI i := g1
    subst g1
    obtain ⟨g2, g3⟩ := hI
    have g2 : ∀ p, p < i → N.1 156 p = -1 ∧ N.1 157 p = -1 ∧ N.1 158 (12 * p) = nI (w 2 p) := g2
    have g3 : YF M N := g3
    have hraw : RA N w := RA_w (hs.yf g3).1 hw
    obtain ⟨q1, q2, q3⟩ := hraw.2.1 i hi
    refine Or.inl ?_
    show ∃ s', fX9_runs_2 (nI n - 1) (nI i) N = _ ∧ _
    unfold fX9_runs_2 fX9_runs_23 fX9_runs_41
    rw [F_people hraw, gB0_some, if_neg (nI_ge hi (by omega))]
    simp (disch := omega) only [ix156, ix157, ix149, ix158, if_true, nI_clamp, li3, li12, pk_mul, nI_1, gSI_ne, q2]
    refine ⟨_, rfl, rfl, fun p hp => ?_, ((g3.tr (YF.si (by omega) (by omega))).tr (YF.si (by omega) (by omega))).tr (YF.si (by omega) (by omega))⟩
    show (gSI (gSI (gSI N 156 i (-1)) 157 i (-1)) 158 (12 * i) (nI (w 2 i))).1 156 p = -1 ∧ (gSI (gSI (gSI N 156 i (-1)) 157 i (-1)) 158 (12 * i) (nI (w 2 i))).1 157 p = -1 ∧ (gSI (gSI (gSI N 156 i (-1)) 157 i (-1)) 158 (12 * i) (nI (w 2 i))).1 158 (12 * p) = nI (w 2 p)
    by_cases e : p = i
    · subst e
      exact ⟨by rw [gSI_ne (by omega), gSI_ne (by omega), gSI_eq], by rw [gSI_ne (by omega), gSI_eq], gSI_eq⟩
    · obtain ⟨c1, c2, c3⟩ := g2 p (by omega)
      exact ⟨by rw [gSI_ne (by omega), gSI_ne (by omega), gSI_nj e]; exact c1, by rw [gSI_ne (by omega), gSI_nj e, gSI_ne (by omega)]; exact c2, by rw [gSI_nj (by omega), gSI_ne (by omega), gSI_ne (by omega)]; exact c3⟩
  · obtain ⟨i', N⟩ := s
    obtain ⟨g1, hI⟩ := hI
    have g1 : i' = nI (w 0 4) := g1
    subst g1
    obtain ⟨g2, g3⟩ := hI
    have g3 : YF M N := g3
    have hraw : RA N w := RA_w (hs.yf g3).1 hw
    obtain ⟨J, j1, j2, j3⟩ := live N g3 ⟨fun p hp => ⟨(g2 p hp).1, (g2 p hp).2.1, fun z hz _ => by rw [show z = 0 by omega]; exact (g2 p hp).2.2⟩, fun z hz => absurd hz (Nat.not_lt_zero z)⟩
    show ∃ r, fX9_runs_2 (nI n - 1) (nI (w 0 4)) N = _ ∧ _
    unfold fX9_runs_2
    rw [F_people hraw, gB0_some, if_pos (Int32.le_refl _), j1]
    exact ⟨J, rfl, j2, j3⟩
