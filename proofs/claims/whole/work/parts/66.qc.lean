/-! the questions of cuts -/
theorem SQ_h {t : Nat} {v : gCt} {f g : gFq} {p x e : Int32} {F G : gFq} (hf : ∀ M, f M = if gOb 7 (M.2.2 0) = true then gB0 (fX7_hasPair (M.2.2 0) p x M) (fun r2 => if r2 = 0 then some (e, M) else F M) else none) (hg : ∀ M, g M = gB0 (fX9_areTwo p x (gSI M 141 0 0)) (fun r1 => if r1 = 0 then some (e, gSI M 141 0 0) else G (gSI M 141 0 0)))
    (h : ∀ k q, k < v 0 4 → q < v 0 4 → k ≠ q → p = nI k → x = nI q → ∃ r, (∀ M, CT M t v → ∃ K, F M = some (r, K) ∧ KP M K) ∧ ∀ M, CT M t v → ∃ K, G M = some (r, K) ∧ KP M K) : SQ t v f g := by
  refine SQ_g (b := inP v p x) (e := e) (F := F) (G := G) (fun M hM => ?_) (fun M hM => ?_) (fun hb => ?_)
  · rw [hf, if_pos (gob_T hM), hM.1.1, F_hasPair hM.2.1 hM.2.2.1, gB0_some, ite_bI]
  · have hN := hM.kp (kp0 M)
    rw [hg, M_areTwo hN.2.1 hN.2.2.2.1, gB0_some, ite_bI]
  · obtain ⟨k, q, h1, h2, h3, h4, h5⟩ := inP_k hb
    exact h k q h1 h2 h3 h4 h5
theorem snO_lt {v : gCt} (hv : gWF v) {p q b : Nat} (h : snO v p q = some b) : b < 128 := cuA_lt7 hv (leC_lt h).1
theorem Q_snipped {t : Nat} {v : gCt} (p x : Int32) : SQ t v (fX8_snipped p x) (fX9_snipped p x) := by
  refine SQ_h (G := fun M => gB0 (fX9_laysSnips p x M) (fun M3 => some ((M3.1 141 41), M3))) (fun M => rfl) (fun M => rfl) (fun k q hk hq _ e1 e2 => ?_)
  subst e1; subst e2
  refine ⟨oV (snO v k q), fun M hM => ?_, fun M hM => ?_⟩
  · obtain ⟨N, n1, n2, n3⟩ := C_fewestCut hM hk hq
    exact ⟨N, by rw [n1]; rfl, n3⟩
  · obtain ⟨N, n1, n2, n3, n4, n5⟩ := M_laysSnips hM hk hq
    exact ⟨N, by rw [n1, gB0_some, n2], n5⟩
theorem Q_snips {t : Nat} {v : gCt} (p x : Int32) : SQ t v (fX8_snips p x) (fX9_snips p x) := by
  refine SQ_h (G := fun M => gB0 (fX9_laysSnips p x M) (fun M3 => if (M3.1 141 41) = (-1 : Int32) then some ((-1 : Int32), M3) else gB0 (fX9_sizeOf (M3.1 141 41) M3) (fun r5 => some (r5, M3)))) (fun M => rfl) (fun M => rfl) (fun k q hk hq _ e1 e2 => ?_)
  subst e1; subst e2
  refine ⟨match snO v k q with
      | none => -1
      | some b => nI (cnU 7 (tb b)), fun M hM => ?_, fun M hM => ?_⟩
  · obtain ⟨N, n1, n2, n3⟩ := C_fewestCut hM hk hq
    refine ⟨N, ?_, n3⟩
    rw [n1, gBp_some]
    cases hg : snO v k q with
    | none => rfl
    | some b =>
      have hb := snO_lt n2.2.1 hg
      show (if nI b = -1 then _ else gB0 (fJ6_bitCount_0f7a4 (nI b) N) _) = _
      rw [if_neg (nI_m1 b (by omega)), F_bc, pop7 hb]; rfl
  · obtain ⟨N, n1, n2, n3, n4, n5⟩ := M_laysSnips hM hk hq
    refine ⟨N, ?_, n5⟩
    rw [n1, gB0_some, n2]
    cases hg : snO v k q with
    | none => rfl
    | some b =>
      have hb := snO_lt n4.2.1 hg
      show (if nI b = -1 then _ else gB0 (fX9_sizeOf (nI b) N) _) = _
      rw [if_neg (nI_m1 b (by omega)), size7 hb]; rfl
theorem swX_n {v : gCt} {p q : Nat} (h : snO v p q = none) : swX v p q = none := by
  cases hs : swX v p q with
  | none => rfl
  | some m =>
    obtain ⟨⟨k, k1, k2, -⟩, -⟩ := mnW_some hs
    have key : ∀ n, k < n → leC (fun s => cnU 7 (tb s)) (cuA v p q) n ≠ none := by
      intro n
      induction n with
      | zero => intro hk; omega
      | succ n ih =>
        intro hk hn
        rw [leC_s] at hn
        cases hc : leC (fun s => cnU 7 (tb s)) (cuA v p q) n with
        | none =>
          rw [hc] at hn
          have hn : (if cuA v p q n = true then some n else none) = none := hn
          rcases Nat.lt_or_ge k n with g | g
          · exact ih g hc
          · have : k = n := by omega
            subst this
            rw [if_pos k2] at hn; cases hn
        | some b =>
          rw [hc] at hn
          have hn : (if cnU 7 (tb n) < cnU 7 (tb b) ∧ cuA v p q n = true then some n else some b) = none := hn
          split at hn <;> cases hn
    exact absurd h (key _ k1)
theorem swX_s {v : gCt} {p q b : Nat} (h : snO v p q = some b) : swX v p q ≠ none := fun hs => by
  obtain ⟨h1, h2⟩ := leC_lt h
  have := mnW_none.mp hs b h1
  rw [h2] at this; cases this
theorem C_wax {M : gMem} {t p q : Nat} {v : gCt} (h : CT M t v) (hp : p < v 0 4) (hq : q < v 0 4) : ∃ N, fX8_wax_20h (nI p) (nI q) (-1 : Int32) (0 : Int32) M = some (oV (swX v p q), N) ∧ CT N t v ∧ KP M N := by
  have hv0 := h.2.1.1
  have hpw := pow_le7 hv0.2.2.2.2.2.1
  have key : ∃ r, fX8_wax_20h (nI p) (nI q) (-1 : Int32) (0 : Int32) M = some r ∧ (r.1 = oV (swX v p q) ∧ CT r.2 t v ∧ KP M r.2) := by
    unfold fX8_wax_20h
    refine gLp_inv (fun i (s : Int32 × Int32 × gMem) => s.1 = oV (mnW (waX v) (cuA v p q) i) ∧ s.2.1 = nI i ∧ CT s.2.2 t v ∧ KP M s.2.2) (2 ^ v 0 5) (fun (r : Int32 × gMem) => r.1 = oV (swX v p q) ∧ CT r.2 t v ∧ KP M r.2) (by omega) (fun i s hi hI => ?_) (fun s hI => ?_) _ ⟨rfl, rfl, h, KP.rf⟩
    · obtain ⟨x2, x3, N⟩ := s
      obtain ⟨g1, g2, g3, g4⟩ := hI
      have g1 : x2 = oV (mnW (waX v) (cuA v p q) i) := g1
      have g2 : x3 = nI i := g2
      have g3 : CT N t v := g3
      have g4 : KP M N := g4
      subst g1; subst g2
      have hi7 : i < 128 := by omega
      have hwx : ∀ k, waX v k < 100 := fun k => by
        have := suU_le (n := v 0 5) (k := 9) (f := tb k) (w := v 6) (fun q hq => (h.2.1.2.2.1 q hq).2.2.2.2)
        unfold waX
        omega
      have hw := hwx i
      obtain ⟨A, a1, a2, a3⟩ := C_cutsApart g3 hp hq hi7
      have look : ∀ b : Option Nat, (∀ c, b = some c → waX v i < c) → mnW (waX v) (cuA v p q) i = b → ∃ s', fX8_wax_56 (nI p) (nI q) (oV b) (nI i) (nI (waX v i)) N = some (Sum.inl s') ∧ (s'.1 = oV (mnW (waX v) (cuA v p q) (i + 1)) ∧ s'.2.1 = nI (i + 1) ∧ CT s'.2.2 t v ∧ KP M s'.2.2) := by
        intro b hb hl
        have hs : mnW (waX v) (cuA v p q) (i + 1) = if cuA v p q i = true then some (waX v i) else b := by
          rw [mnW_s, hl]
          cases b with
          | none => rfl
          | some c =>
            have := hb c rfl
            show (if waX v i < c ∧ cuA v p q i = true then some (waX v i) else some c) = _
            simp only [this, true_and]
        unfold fX8_wax_56
        rw [a1, gBp_some, ite_bI, nI_1, hs]
        cases cuA v p q i
        · exact ⟨_, rfl, rfl, rfl, a2, g4.tr a3⟩
        · exact ⟨_, rfl, rfl, rfl, a2, g4.tr a3⟩
      refine Or.inl ?_
      show ∃ s', fX8_wax_20 (nI p) (nI q) (oV (mnW (waX v) (cuA v p q) i)) (nI i) N = _ ∧ _
      unfold fX8_wax_20
      rw [if_pos (gob_T g3), tn_nj g3, sh_pow _ (by omega), if_neg (nI_ge hi (by omega)), if_pos (gob_T g3), g3.1.1, C_waxOf g3 hi7, gB0_some]
      cases hl : mnW (waX v) (cuA v p q) i with
      | none =>
        rw [if_pos (show oV none = -1 from rfl)]
        exact look none (fun c hc => by cases hc) hl
      | some b =>
        obtain ⟨⟨k, -, -, hb⟩, -⟩ := mnW_some hl
        have hb2 := hwx k
        rw [if_neg (show ¬ oV (some b) = -1 from nI_m1 b (by omega))]
        show ∃ s', (if nI b ≤ nI (waX v i) then _ else _) = _ ∧ _
        by_cases c : waX v i < b
        · rw [if_neg (nI_ge c (by omega))]
          exact look (some b) (fun c' hc => by cases hc; exact c) hl
        · rw [if_pos (nI_le (by omega) (by omega)), nI_1]
          refine ⟨_, rfl, ?_, rfl, g3, g4⟩
          show nI b = oV (mnW (waX v) (cuA v p q) (i + 1))
          rw [mnW_s, hl]
          show _ = oV (if waX v i < b ∧ cuA v p q i = true then some (waX v i) else some b)
          rw [if_neg (fun h => c h.1)]; rfl
    · obtain ⟨x2, x3, N⟩ := s
      obtain ⟨g1, g2, g3, g4⟩ := hI
      have g2 : x3 = nI (2 ^ v 0 5) := g2
      have g3 : CT N t v := g3
      subst g2
      show ∃ r, fX8_wax_20 (nI p) (nI q) x2 (nI (2 ^ v 0 5)) N = _ ∧ _
      unfold fX8_wax_20
      rw [if_pos (gob_T g3), tn_nj g3, sh_pow _ (by omega), if_pos (Int32.le_refl _)]
      exact ⟨_, rfl, g1, g3, g4⟩
  obtain ⟨⟨r, K⟩, k1, k2, k3, k4⟩ := key
  exact ⟨K, by rw [k1]; exact congrArg (fun z => some (z, K)) k2, k3, k4⟩
theorem Q_wax {t : Nat} {v : gCt} (p x : Int32) : SQ t v (fX8_wax p x) (fX9_wax p x) := by
  refine SQ_h (G := fun M => gB0 (fX9_laysSnips p x M) (fun M3 => if (M3.1 141 41) = (-1 : Int32) then some ((-1 : Int32), M3) else some ((M3.1 141 42), M3))) (fun M => rfl) (fun M => rfl) (fun k q hk hq _ e1 e2 => ?_)
  subst e1; subst e2
  refine ⟨oV (swX v k q), fun M hM => ?_, fun M hM => ?_⟩
  · obtain ⟨N, n1, n2, n3⟩ := C_wax hM hk hq
    exact ⟨N, n1, n3⟩
  · obtain ⟨N, n1, n2, n3, n4, n5⟩ := M_laysSnips hM hk hq
    refine ⟨N, ?_, n5⟩
    rw [n1, gB0_some, n2, n3]
    cases hs : snO v k q with
    | none => rw [swX_n hs]; rfl
    | some b =>
      have hb := snO_lt n4.2.1 hs
      have hn := swX_s hs
      show (if nI b = -1 then _ else _) = _
      rw [if_neg (nI_m1 b (by omega))]
      cases hw : swX v k q with
      | none => exact absurd hw hn
      | some m => rfl
