/-! when, by the reference -/
def whS (v : gCt) (p q : Nat) : Nat → Int32 × Int32
  | 0 => (-1, whO v p q)
  | i + 1 => if (whS v p q i).2 < whO (wA v p q i) p q then (nI i, whO (wA v p q i) p q) else whS v p q i
theorem whS_s (v : gCt) (p q i : Nat) : whS v p q (i + 1) = if (whS v p q i).2 < whO (wA v p q i) p q then (nI i, whO (wA v p q i) p q) else whS v p q i := rfl
theorem MS_28 {M : gMem} {v : gCt} {p q y : Nat} (h : MS M v u0 []) (hp : p < v 0 4) (hq : q < v 0 4) (hpq : p ≠ q) (hy : y < 12) : MS (gSI (gSI (gSI M 141 28 (nI p)) 141 29 (nI q)) 141 30 (nI y)) v u0 [mkJ v u0 p q y (y + 9) 1000] := by
  obtain ⟨c1, c2, ⟨m1, m2, m3, m4⟩, c4, c5⟩ := h
  have r : ∀ i, i ≠ 28 → i ≠ 29 → i ≠ 30 → (gSI (gSI (gSI M 141 28 (nI p)) 141 29 (nI q)) 141 30 (nI y)).1 141 i = M.1 141 i := fun i h1 h2 h3 => (gSI_nj h3).trans ((gSI_nj h2).trans (gSI_nj h1))
  have o : ∀ k, k ≠ 141 → (gSI (gSI (gSI M 141 28 (nI p)) 141 29 (nI q)) 141 30 (nI y)).1 k = M.1 k := fun k hk => (gSI_ne hk).trans ((gSI_ne hk).trans (gSI_ne hk))
  refine ⟨RA_same c1 (fun k _ _ => o k (by omega)), RC_same c2 (fun k _ _ => o k (by omega)), ⟨by rw [r 25 (by omega) (by omega) (by omega)]; exact m1, by rw [r 26 (by omega) (by omega) (by omega)]; exact m2, by rw [r 27 (by omega) (by omega) (by omega)]; exact m3, by rw [r 32 (by omega) (by omega) (by omega)]; exact m4⟩, Or.inr ⟨p, q, y, ?_, ?_, gSI_eq, hp, hq, hpq, hy, rfl⟩, ?_⟩
  · exact (gSI_nj (by omega)).trans ((gSI_nj (by omega)).trans gSI_eq)
  · exact (gSI_nj (by omega)).trans gSI_eq
  · obtain ⟨x0, x1, x2, x3⟩ := c5
    exact ⟨x0, x1, by rw [r 31 (by omega) (by omega) (by omega)]; exact x2, x3⟩
theorem M_when {M : gMem} {t p q : Nat} {v : gCt} (h : CT M t v) (h30 : v 0 8 ≤ 30) (hy : 0 < v 0 0) (hp : p < v 0 4) (hq : q < v 0 4) (hpq : p ≠ q) : ∃ N, gB0 (fX9_laysNow M) (fun M3 => gB0 (fX9_bothAtLast (nI p) (nI q) M3) (fun r5 => fX9_when_34h (nI p) (nI q) (-1 : Int32) r5 (0 : Int32) M3)) = some ((whS v p q (v 0 0)).1, N) ∧ CT N t v ∧ KP M N := by
  have hv := h.2.1
  have hv0 := hv.1
  obtain ⟨A, a1, a2, a3, a4, a5, a6⟩ := F_laysNow h
  rw [a1, gB0_some, M_both a5.2.2.2.1 hv a3 rfl rfl hy hp hq, gB0_some]
  have key : ∃ r, fX9_when_34h (nI p) (nI q) (-1 : Int32) (whO v p q) (0 : Int32) A = some r ∧ (r.1 = (whS v p q (v 0 0)).1 ∧ CT r.2 t v ∧ KP M r.2) := by
    unfold fX9_when_34h
    refine gLp_inv (fun i (s : Int32 × Int32 × Int32 × gMem) => (s.1, s.2.1) = whS v p q i ∧ s.2.2.1 = nI i ∧ CT s.2.2.2 t v ∧ KP M s.2.2.2) (v 0 0) (fun (r : Int32 × gMem) => r.1 = (whS v p q (v 0 0)).1 ∧ CT r.2 t v ∧ KP M r.2) (by omega) (fun i s hi hI => ?_) (fun s hI => ?_) _ ⟨rfl, rfl, a5, a6⟩
    · obtain ⟨x3, x4, i', N⟩ := s
      obtain ⟨g1, g2, g3, g4⟩ := hI
      have g1 : (x3, x4) = whS v p q i := g1
      have g2 : i' = nI i := g2
      subst g2
      have g3 : CT N t v := g3
      have g4 : KP M N := g4
      obtain ⟨B, q1, q2, q3, q4, q5, q6⟩ := F_lays g3
      have kk : KP B (gSI (gSI (gSI B 141 28 (nI p)) 141 29 (nI q)) 141 30 (nI i)) := ((KP.s141 (by omega)).tr (KP.s141 (by omega))).tr (KP.s141 (by omega))
      have hm := MS_28 q2 hp hq hpq (y := i) (by omega)
      have hw := wA_WV hv h30 hp hq hpq hi
      obtain ⟨K, k1, k2, k3⟩ := F_runs hv hw hm hv0.1 (gl_1000 hw.1 u0)
      have hC := q4.kp kk
      have hK := hC.kp k3.kp
      have hb := M_both hK.2.2.2.1 hv k2 (wA_0 (by decide)) (wA_0 (by decide)) hy hp hq
      refine Or.inl ?_
      show ∃ s', fX9_when_34 (nI p) (nI q) x3 x4 (nI i) N = _ ∧ _
      unfold fX9_when_34 fX9_when_54 fX9_when_60 fX9_when_64 fX9_runs_ fX9_runs__0
      rw [F_years g3.2.2.2.1, gB0_some, if_neg (nI_ge hi (by omega)), q1, gB0_some, F_years hC.2.2.2.1, gB0_some, k1, gB0_some, gB0_some, hb, gB0_some, gB0_some, nI_1]
      have kM : KP M K := ((g4.tr q5).tr kk).tr k3.kp
      have e4 : x4 = (whS v p q i).2 := congrArg Prod.snd g1
      by_cases c : x4 < whO (wA v p q i) p q
      · rw [if_pos c]
        refine ⟨_, rfl, ?_, rfl, hK, kM⟩
        rw [whS_s, if_pos (by rw [← e4]; exact c)]
      · rw [if_neg c]
        refine ⟨_, rfl, ?_, rfl, hK, kM⟩
        rw [whS_s, if_neg (by rw [← e4]; exact c)]
        exact g1
    · obtain ⟨x3, x4, i', N⟩ := s
      obtain ⟨g1, g2, g3, g4⟩ := hI
      have g1 : (x3, x4) = whS v p q (v 0 0) := g1
      have g2 : i' = nI (v 0 0) := g2
      subst g2
      have g3 : CT N t v := g3
      show ∃ r, fX9_when_34 (nI p) (nI q) x3 x4 (nI (v 0 0)) N = _ ∧ _
      unfold fX9_when_34
      rw [F_years g3.2.2.2.1, gB0_some, if_pos (Int32.le_refl _)]
      exact ⟨_, rfl, congrArg Prod.fst g1, g3, g4⟩
  obtain ⟨⟨r, K⟩, k1, k2, k3, k4⟩ := key
  exact ⟨K, by rw [k1]; exact congrArg (fun z => some (z, K)) k2, k3, k4⟩
