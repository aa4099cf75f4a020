/-! The reference: ties of a year, firms, funds. -/
/-- who is out in year y, by the reference's rows -/
def OT (M : gMem) (n y : Nat) (ot : Nat → Bool) : Prop := ∀ p, p < n → ∃ x : Option Nat, (∀ z, x = some z → z < 100) ∧ M.1 156 p = oV x ∧ oB x y = ot p
theorem OT_same {M N : gMem} {n y : Nat} {ot : Nat → Bool} (h : OT M n y ot) (e : N.1 156 = M.1 156) : OT N n y ot := by
  unfold OT
  rw [e]; exact h
theorem F_out {M : gMem} {n y : Nat} {ot : Nat → Bool} (h : OT M n y ot) (hn : n ≤ 6) (hy : y < 100) {p : Nat} (hp : p < n) : fX9_isOut (nI p) (nI y) M = some (bI (ot p)) := by
  obtain ⟨x, h1, h2, h3⟩ := h p hp
  rw [F_isOut (by omega) hy x h1 h2, h3]
/-- how often two are tied in year y -/
def TC (M : gMem) (y : Nat) (f : Nat → Nat → Nat) : Prop := ∀ a b, a < 6 → b < 6 → M.1 155 (36 * y + 6 * a + b) = nI (f a b)
/-- only the ties of year y have changed -/
def TF (y : Nat) (M N : gMem) : Prop := (∀ k, k < 36 * y ∨ 36 * y + 36 ≤ k → N.1 155 k = M.1 155 k) ∧ (∀ q, q ≠ 155 → N.1 q = M.1 q) ∧ N.2 = M.2
theorem TF.rf {y : Nat} {M : gMem} : TF y M M := ⟨fun _ _ => rfl, fun _ _ => rfl, rfl⟩
theorem TF.tr {y : Nat} {M N K : gMem} (h : TF y M N) (g : TF y N K) : TF y M K := ⟨fun k hk => (g.1 k hk).trans (h.1 k hk), fun q hq => (g.2.1 q hq).trans (h.2.1 q hq), g.2.2.trans h.2.2⟩
theorem F_tiesTwo {M : gMem} {n y : Nat} {ot : Nat → Bool} {f : Nat → Nat → Nat} (hn : n ≤ 6) (hy : y < 12) (ho : OT M n y ot) (hf : TC M y f) {x : gJo} (h1 : x.1 < n) (h2 : x.2.1 < n) (h3 : x.1 ≠ x.2.1) :
    ∃ N, fX9_tiesTwo (nI x.1) (nI x.2.1) (nI y) M = some N ∧ TC N y (fun a b => f a b + if ((!ot x.1 && !ot x.2.1) && ofTwo a b x) = true then 1 else 0) ∧ TF y M N := by
  unfold fX9_tiesTwo fX9_tiesTwo_0 fX9_tiesTwo_55
  rw [F_out ho hn (by omega) h1, F_out ho hn (by omega) h2, gB0_some, gB0_some, ite_bI, ite_bI]
  cases e1 : ot x.1
  · cases e2 : ot x.2.1
    · simp (disch := omega) only [Bool.false_eq_true, if_false, li36, li6, pk_mul, nI_add, ix155, if_true, nI_clamp, nI_1]
      refine ⟨_, rfl, fun a b ha hb => ?_, fun k hk => ?_, fun q hq => ?_, rfl⟩
      · have e3 : (36 * y + 6 * x.2.1 + x.1) ≠ 36 * y + 6 * x.1 + x.2.1 := by omega
        rw [gSI_nj e3, hf _ _ (by omega) (by omega), hf _ _ (by omega) (by omega), nI_1]
        have hor : ofTwo a b x = true ↔ ((x.1 = a ∧ x.2.1 = b) ∨ (x.1 = b ∧ x.2.1 = a)) := by
          unfold ofTwo; simp
        by_cases c1 : x.1 = a ∧ x.2.1 = b
        · obtain ⟨rfl, rfl⟩ := c1
          rw [gSI_nj (Ne.symm e3), gSI_eq]
          show nI (f x.1 x.2.1 + 1) = nI (f x.1 x.2.1 + if (!false && !false && ofTwo x.1 x.2.1 x) = true then 1 else 0)
          rw [if_pos (by simpa using hor.mpr (Or.inl ⟨rfl, rfl⟩))]
        · by_cases c2 : x.1 = b ∧ x.2.1 = a
          · obtain ⟨rfl, rfl⟩ := c2
            rw [gSI_eq, nI_1]
            show nI (f x.2.1 x.1 + 1) = nI (f x.2.1 x.1 + if (!false && !false && ofTwo x.2.1 x.1 x) = true then 1 else 0)
            rw [if_pos (by simpa using hor.mpr (Or.inr ⟨rfl, rfl⟩))]
          · rw [gSI_nj (by omega), gSI_nj (by omega), hf a b ha hb]
            show nI (f a b) = nI (f a b + if (!false && !false && ofTwo a b x) = true then 1 else 0)
            rw [if_neg]
            · rfl
            · simp only [Bool.not_false, Bool.and_self, Bool.true_and]
              rw [hor]
              exact fun h => h.elim c1 c2
      · rw [gSI_nj (by omega), gSI_nj (by omega)]
      · rw [gSI_ne hq, gSI_ne hq]
    · refine ⟨M, rfl, fun a b ha hb => (hf a b ha hb).trans ?_, TF.rf⟩
      simp
  · refine ⟨M, rfl, fun a b ha hb => (hf a b ha hb).trans ?_, TF.rf⟩
    simp
theorem tcO_app (l : List gJo) (x : gJo) (y : Nat) (aw : Nat → Bool) (a b : Nat) : tcO (l ++ [x]) y aw a b = tcO l y aw a b + if (inFo y x && ((!aw x.1 && !aw x.2.1) && ofTwo a b x)) = true then 1 else 0 := by
  unfold tcO
  rw [List.countP_append]
  congr 1
  rw [List.countP_singleton]
/-- what is supposed, and a join besides -/
def SM (M : gMem) (u : gSp) : Prop := M.1 141 25 = gMk 7 (u 0) ∧ M.1 141 26 = gMk 6 (u 4) ∧ M.1 141 27 = gMk 6 (u 2) ∧ M.1 141 32 = bI (!u 1 0)
def BE (M : gMem) (v : gCt) (u : gSp) (ex : List gJo) : Prop := (M.1 141 30 = -1 ∧ ex = []) ∨ ∃ p q yy, M.1 141 28 = nI p ∧ M.1 141 29 = nI q ∧ M.1 141 30 = nI yy ∧ p < v 0 4 ∧ q < v 0 4 ∧ p ≠ q ∧ yy < 12 ∧ ex = [mkJ v u p q yy (yy + 9) 1000]
theorem F_isTold {M : gMem} {v : gCt} {u : gSp} (hv : gWF v) (ha : RA M v) (hr : RC M v) (hs : SM M u) {j y : Nat} (hj : j < v 0 5) (hy : y < 100) : fX9_isTold (nI j) (nI y) M = some (bI (inFo y (tj v u j))) := by
  have hv0 := hv.1
  obtain ⟨q1, q2, q3⟩ := ha.2.2.1 j hj
  obtain ⟨w1, w2, w3, w4, w5⟩ := hv.2.2.1 j hj
  have hh := F_isHolding (u := u) hr hv hs.2.1 hs.2.2.2 (a := v 4 j) (b := v 5 j) (fr := 0) (wax := v 6 j) (bb := 0) (y := y) (act := -1) (by omega) (by omega) (by omega) w4 (by omega) hy (fun i hi => ⟨fun h => absurd h (nle_m1 i hi), fun h => absurd (Nat.zero_le i) h⟩)
  rw [Nat.zero_add] at hh
  unfold fX9_isTold fX9_isTold_0
  rw [hs.1, F_isBit _ (by omega), bt_gMk (by omega), decide_eq_true (show j < 7 by omega), Bool.true_and, gB0_some, ite_bI]
  unfold tj
  cases hu : u 0 j
  · simp (disch := omega) only [Bool.false_eq_true, if_false, li3, li2, pk_mul, nI_1, nI_add, ix150, if_true, nI_clamp, q1, q2, q3]
    rw [show (0 : Int32) = nI 0 from rfl, hh, gB0_some, nI_0, ite_bI]
    cases inFo y (mkJ v u (v 4 j) (v 5 j) 0 (v 6 j) 0) <;> rfl
  · simp only [if_true]
    have e : inFo y (mkJ v u (v 4 j) (v 5 j) 0 0 0) = false := by
      unfold inFo mkJ
      show (decide (0 ≤ y) && decide (y < if _ then 0 else _)) = false
      rw [decide_eq_false (p := y < _), Bool.and_false]
      split
      · omega
      · split
        · omega
        · simp
    rw [e]; rfl
theorem le_far : ∀ i, i < 31 → nI i ≤ (100000 : Int32) := by decide +kernel
theorem F_lt183 {M : gMem} {v : gCt} {u : gSp} {ex l : List gJo} {y : Nat} {ot : Nat → Bool} (hv : gWF v) (ha : RA M v) (hr : RC M v) (hs : SM M u) (hb : BE M v u ex) (hy : y < 12) (ho : OT M (v 0 4) y ot) (hf : TC M y (tcO l y ot)) :
    ∃ N, fX9_laysTies_183 (nI y) M = some N ∧ TC N y (tcO (l ++ ex) y ot) ∧ TF y M N := by
  have hv0 := hv.1
  unfold fX9_laysTies_183
  rcases hb with ⟨h1, h2⟩ | ⟨p, q, yy, h1, h2, h3, h4, h5, h6, h7, h8⟩
  · rw [h1, if_pos rfl, h2, List.append_nil]
    exact ⟨M, rfl, hf, TF.rf⟩
  · have hh := F_isHolding (u := u) hr hv hs.2.1 hs.2.2.2 (a := p) (b := q) (fr := yy) (wax := 9) (bb := 1000) (y := y) (act := 100000) (by omega) (by omega) (by omega) (by omega) (by omega) (by omega) (fun i hi => ⟨fun _ => by omega, fun _ => le_far i hi⟩)
    rw [h1, h2, h3, if_neg (ne_m1 yy (by omega)), li9, hh, gB0_some, ite_bI, h8]
    obtain ⟨N, n1, n2, n3⟩ := F_tiesTwo (x := mkJ v u p q yy (yy + 9) 1000) (by omega) hy ho hf h4 h5 h6
    have n1 : fX9_tiesTwo (nI p) (nI q) (nI y) M = some N := n1
    cases hc : inFo y (mkJ v u p q yy (yy + 9) 1000)
    · refine ⟨M, rfl, fun a b ha hb => (hf a b ha hb).trans ?_, TF.rf⟩
      rw [tcO_app, hc]; simp
    · rw [if_pos rfl, n1]
      refine ⟨N, rfl, fun a b ha hb => (n2 a b ha hb).trans ?_, n3⟩
      rw [tcO_app, hc, Bool.true_and]
theorem F_lt76 {M : gMem} {v : gCt} {u : gSp} {ex : List gJo} {y : Nat} {ot : Nat → Bool} (hv : gWF v) (ha : RA M v) (hr : RC M v) (hs : SM M u) (hb : BE M v u ex) (hy : y < 12) (ho : OT M (v 0 4) y ot) (hf : TC M y (tcO (glT v u (v 0 5)) y ot)) :
    ∃ N, fX9_laysTies_76h (nI y) 0 M = some N ∧ TC N y (tcO (gl v u ++ ex) y ot) ∧ TF y M N := by
  have hv0 := hv.1
  have h8 : gIx 1 148 (8 : Int32) = true := ix148 (k := 8) (by omega)
  unfold fX9_laysTies_76h
  have mv : ∀ N : gMem, TF y M N → RA N v ∧ RC N v ∧ SM N u ∧ BE N v u ex ∧ OT N (v 0 4) y ot := by
    intro N hN
    have h141 := hN.2.1 141 (by omega)
    refine ⟨RA_same ha (fun q _ _ => hN.2.1 q (by omega)), RC_same hr (fun q _ _ => hN.2.1 q (by omega)), ?_, ?_, OT_same ho (hN.2.1 156 (by omega))⟩
    · unfold SM; rw [h141]; exact hs
    · unfold BE; rw [h141]; exact hb
  by_cases hu : u 1 0 = true
  · -- acts aside
    obtain ⟨N, n1, n2, n3⟩ := F_lt183 hv ha hr hs hb hy ho hf
    refine gLp_inv (fun i (s : Int32 × gMem) => i = 0 ∧ s = (0, M)) 0 (fun N => TC N y (tcO (gl v u ++ ex) y ot) ∧ TF y M N) (by omega) (fun i s hi _ => absurd hi (Nat.not_lt_zero i)) (fun s hI => ?_) _ ⟨rfl, rfl⟩
    obtain ⟨-, rfl⟩ := hI
    show ∃ r, fX9_laysTies_76 (nI y) 0 M = _ ∧ _
    unfold fX9_laysTies_76
    rw [h8, if_pos rfl, hs.2.2.2, hu, n1, gEx_some]
    have e : gl v u = glT v u (v 0 5) := by unfold gl; rw [if_pos hu]
    rw [e]
    refine ⟨N, ?_, n2, n3⟩
    by_cases c : M.1 148 (Int32.toNatClampNeg 8) ≤ 0
    · rw [if_pos c]
    · rw [if_neg c]; rfl
  · have hu : u 1 0 = false := by simpa using hu
    have e : gl v u = glA v u (v 0 8) := by unfold gl; rw [hu]; simp
    rw [e]
    refine gLp_inv (fun i (s : Int32 × gMem) => s.1 = nI i ∧ TC s.2 y (tcO (glA v u i) y ot) ∧ TF y M s.2) (v 0 8) (fun N => TC N y (tcO (glA v u (v 0 8) ++ ex) y ot) ∧ TF y M N) (by omega) (fun i s hi hI => ?_) (fun s hI => ?_) _ ⟨rfl, hf, TF.rf⟩
    · obtain ⟨i', N⟩ := s
      obtain ⟨g1, hI⟩ := hI
      have g1 : i' = nI i := g1
      subst g1
      obtain ⟨g2, g3⟩ := hI
      have g2 : TC N y (tcO (glA v u i) y ot) := g2
      have g3 : TF y M N := g3
      obtain ⟨maa, mr, ms, mb, mo⟩ := mv N g3
      obtain ⟨r1, r2, r3, r4⟩ := mr.2 i hi
      obtain ⟨w1, w2, w3, w4, w5⟩ := hv.2.2.2.2.2 i hi
      refine Or.inl ?_
      show ∃ s', fX9_laysTies_76 (nI y) (nI i) N = _ ∧ _
      unfold fX9_laysTies_76
      rw [h8, if_pos rfl, show Int32.toNatClampNeg (8 : Int32) = 8 from rfl, mr.1, if_neg (nI_ge hi (by omega)), ms.2.2.2, hu, Bool.not_false, bI_t, if_neg (by decide)]
      simp (disch := omega) only [li4, li3, li2, pk_mul, nI_1, nI_add, ix153, if_true, nI_clamp, r1, r2, r3, r4]
      by_cases c : v 13 i = 0
      · rw [c, if_pos (by decide)]
        refine ⟨_, rfl, rfl, ?_, g3⟩
        show TC N y (tcO (glA v u (i + 1)) y ot)
        rw [glA, if_pos c]; exact g2
      · rw [if_neg (nI_nle (by omega) (by omega))]
        have hh := F_isHolding (u := u) mr hv ms.2.1 ms.2.2.2 (a := v 10 i) (b := v 11 i) (fr := v 12 i) (wax := v 13 i) (bb := i + 1) (y := y) (act := nI i) (by omega) (by omega) (by omega) (by omega) (by omega) (by omega) (fun j hj => by rw [nI_leI (by omega) (by omega)]; omega)
        rw [hh, gB0_some, ite_bI]
        obtain ⟨K, n1, n2, n3⟩ := F_tiesTwo (x := mkJ v u (v 10 i) (v 11 i) (v 12 i) (v 12 i + v 13 i) (i + 1)) (by omega) hy mo g2 w1 w2 w3
        have n1 : fX9_tiesTwo (nI (v 10 i)) (nI (v 11 i)) (nI y) N = some K := n1
        have eg : glA v u (i + 1) = glA v u i ++ [mkJ v u (v 10 i) (v 11 i) (v 12 i) (v 12 i + v 13 i) (i + 1)] := by rw [glA, if_neg c]
        cases hc : inFo y (mkJ v u (v 10 i) (v 11 i) (v 12 i) (v 12 i + v 13 i) (i + 1))
        · refine ⟨_, rfl, rfl, fun a b ha hb => (g2 a b ha hb).trans ?_, g3⟩
          rw [eg, tcO_app, hc]; simp
        · rw [if_pos rfl, n1, gB0_some]
          refine ⟨_, rfl, rfl, fun a b ha hb => (n2 a b ha hb).trans ?_, g3.tr n3⟩
          rw [eg, tcO_app, hc, Bool.true_and]
    · obtain ⟨i', N⟩ := s
      obtain ⟨g1, hI⟩ := hI
      have g1 : i' = nI (v 0 8) := g1
      subst g1
      obtain ⟨g2, g3⟩ := hI
      have g2 : TC N y (tcO (glA v u (v 0 8)) y ot) := g2
      have g3 : TF y M N := g3
      obtain ⟨maa, mr, ms, mb, mo⟩ := mv N g3
      obtain ⟨K, n1, n2, n3⟩ := F_lt183 hv maa mr ms mb hy mo g2
      show ∃ r, fX9_laysTies_76 (nI y) (nI (v 0 8)) N = _ ∧ _
      unfold fX9_laysTies_76
      rw [h8, if_pos rfl, show Int32.toNatClampNeg (8 : Int32) = 8 from rfl, mr.1, if_pos (Int32.le_refl _), n1]
      exact ⟨K, rfl, n2, g3.tr n3⟩
theorem F_laysTies {M : gMem} {v : gCt} {u : gSp} {ex : List gJo} {y : Nat} {ot : Nat → Bool} (hv : gWF v) (ha : RA M v) (hr : RC M v) (hs : SM M u) (hb : BE M v u ex) (hy : y < 12) (ho : OT M (v 0 4) y ot) :
    ∃ N, fX9_laysTies (nI y) M = some N ∧ TC N y (tcO (gl v u ++ ex) y ot) ∧ TF y M N := by
  have hv0 := hv.1
  have mv : ∀ N : gMem, TF y M N → RA N v ∧ RC N v ∧ SM N u ∧ BE N v u ex ∧ OT N (v 0 4) y ot := by
    intro N hN
    have h141 := hN.2.1 141 (by omega)
    refine ⟨RA_same ha (fun q _ _ => hN.2.1 q (by omega)), RC_same hr (fun q _ _ => hN.2.1 q (by omega)), ?_, ?_, OT_same ho (hN.2.1 156 (by omega))⟩
    · unfold SM; rw [h141]; exact hs
    · unfold BE; rw [h141]; exact hb
  have told : ∀ N : gMem, TF y M N → TC N y (fun _ _ => 0) → ∃ K, fX9_laysTies_28h (nI y) 0 N = some K ∧ TC K y (tcO (gl v u ++ ex) y ot) ∧ TF y M K := by
    intro N hN h0
    unfold fX9_laysTies_28h
    refine gLp_inv (fun i (s : Int32 × gMem) => s.1 = nI i ∧ TC s.2 y (tcO (glT v u i) y ot) ∧ TF y M s.2) (v 0 5) (fun K => TC K y (tcO (gl v u ++ ex) y ot) ∧ TF y M K) (by omega) (fun i s hi hI => ?_) (fun s hI => ?_) _ ⟨rfl, h0, hN⟩
    · obtain ⟨i', K⟩ := s
      obtain ⟨g1, hI⟩ := hI
      have g1 : i' = nI i := g1
      subst g1
      obtain ⟨g2, g3⟩ := hI
      have g2 : TC K y (tcO (glT v u i) y ot) := g2
      have g3 : TF y M K := g3
      obtain ⟨maa, mr, ms, mb, mo⟩ := mv K g3
      obtain ⟨q1, q2, q3⟩ := maa.2.2.1 i hi
      obtain ⟨w1, w2, w3, w4, w5⟩ := hv.2.2.1 i hi
      refine Or.inl ?_
      show ∃ s', fX9_laysTies_28 (nI y) (nI i) K = _ ∧ _
      unfold fX9_laysTies_28
      rw [F_joins maa, gB0_some, if_neg (nI_ge hi (by omega)), F_isTold hv maa mr ms hi (by omega), gB0_some, ite_bI]
      obtain ⟨J, n1, n2, n3⟩ := F_tiesTwo (x := tj v u i) (by omega) hy mo g2 w1 w2 w3
      have n1 : fX9_tiesTwo (nI (v 4 i)) (nI (v 5 i)) (nI y) K = some J := n1
      have eg : glT v u (i + 1) = glT v u i ++ [tj v u i] := rfl
      cases hc : inFo y (tj v u i)
      · refine ⟨_, rfl, by rw [nI_1], fun a b ha hb => (g2 a b ha hb).trans ?_, g3⟩
        rw [eg, tcO_app, hc]; simp
      · simp (disch := omega) only [if_true, li3, pk_mul, nI_1, ix150, nI_clamp, q1, q2, n1, gB0_some]
        refine ⟨_, rfl, rfl, fun a b ha hb => (n2 a b ha hb).trans ?_, g3.tr n3⟩
        rw [eg, tcO_app, hc, Bool.true_and]
    · obtain ⟨i', K⟩ := s
      obtain ⟨g1, hI⟩ := hI
      have g1 : i' = nI (v 0 5) := g1
      subst g1
      obtain ⟨g2, g3⟩ := hI
      have g2 : TC K y (tcO (glT v u (v 0 5)) y ot) := g2
      have g3 : TF y M K := g3
      obtain ⟨maa, mr, ms, mb, mo⟩ := mv K g3
      obtain ⟨J, n1, n2, n3⟩ := F_lt76 hv maa mr ms mb hy mo g2
      show ∃ r, fX9_laysTies_28 (nI y) (nI (v 0 5)) K = _ ∧ _
      unfold fX9_laysTies_28
      rw [F_joins maa, gB0_some, if_pos (Int32.le_refl _), n1]
      exact ⟨J, rfl, n2, g3.tr n3⟩
  unfold fX9_laysTies fX9_laysTies_0 fX9_laysTies_2h
  refine gLp_inv (fun i (s : Int32 × gMem) => s.1 = nI i ∧ (∀ k, k < i → s.2.1 155 (36 * y + k) = 0) ∧ TF y M s.2) 36 (fun K => TC K y (tcO (gl v u ++ ex) y ot) ∧ TF y M K) (by omega) (fun i s hi hI => ?_) (fun s hI => ?_) _ ⟨rfl, fun k hk => absurd hk (Nat.not_lt_zero k), TF.rf⟩
  · obtain ⟨i', K⟩ := s
    obtain ⟨g1, hI⟩ := hI
    have g1 : i' = nI i := g1
    subst g1
    obtain ⟨g2, g3⟩ := hI
    have g2 : ∀ k, k < i → K.1 155 (36 * y + k) = 0 := g2
    have g3 : TF y M K := g3
    refine Or.inl ?_
    show ∃ s', fX9_laysTies_2 (nI y) (nI i) K = _ ∧ _
    unfold fX9_laysTies_2
    rw [li36, if_neg (nI_ge hi (by omega)), pk_mul, nI_add, ix155 (by omega), if_pos rfl, nI_clamp (by omega), nI_1]
    refine ⟨_, rfl, rfl, fun k hk => ?_, g3.tr ⟨fun k hk => gSI_nj (by omega), fun q hq => gSI_ne hq, rfl⟩⟩
    show (gSI K 155 (36 * y + i) 0).1 155 (36 * y + k) = 0
    by_cases e : k = i
    · subst e; exact gSI_eq
    · rw [gSI_nj (by omega)]; exact g2 k (by omega)
  · obtain ⟨i', K⟩ := s
    obtain ⟨g1, hI⟩ := hI
    have g1 : i' = nI 36 := g1
    subst g1
    obtain ⟨g2, g3⟩ := hI
    have g2 : ∀ k, k < 36 → K.1 155 (36 * y + k) = 0 := g2
    obtain ⟨J, n1, n2, n3⟩ := told K g3 (fun a b ha hb => by
      have := g2 (6 * a + b) (by omega)
      rwa [← Nat.add_assoc] at this)
    show ∃ r, fX9_laysTies_2 (nI y) (nI 36) K = _ ∧ _
    unfold fX9_laysTies_2
    rw [li36, if_pos (Int32.le_refl _), n1]
    exact ⟨J, rfl, n2, n3⟩
