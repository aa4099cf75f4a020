/-! Questions of years, one by one. -/
theorem gob_T {M : gMem} {t : Nat} {v : gCt} (h : CT M t v) : gOb 7 (M.2.2 0) = true := by rw [h.1.1]; exact h.1.2
abbrev gFq : Type := gMem → Option (Int32 × gMem)
/-- what is asked behind years lived through -/
def AF (t : Nat) (v : gCt) (F G : gFq) : Prop := ∃ r, (∀ N, CT N t v → LVd N v u0 (v 0 0) → ∃ K, F N = some (r, K) ∧ KP N K) ∧ ∀ N, CT N t v → MS N v u0 [] → MV N v u0 (v 0 0) → N.1 141 24 = nI (v 0 1) → ∃ K, G N = some (r, K) ∧ KP N K
theorem AF.go {t : Nat} {v : gCt} {F G : gFq} (h : AF t v F G) : ∃ r, (∀ M, CT M t v → ∃ K, gB0 (fX8_liveAsNow M) F = some (r, K) ∧ KP M K) ∧ ∀ M, CT M t v → ∃ K, gB0 (fX9_laysNow M) G = some (r, K) ∧ KP M K := by
  obtain ⟨r, h1, h2⟩ := h
  refine ⟨r, fun M hM => ?_, fun M hM => ?_⟩
  · obtain ⟨N, n1, n2, n3, n4⟩ := F_liveAsNow hM
    obtain ⟨K, k1, k2⟩ := h1 N n3 n2
    rw [n1, gB0_some, k1]
    exact ⟨K, rfl, n4.tr k2⟩
  · obtain ⟨N, n1, n2, n3, n4, n5, n6⟩ := F_laysNow hM
    obtain ⟨K, k1, k2⟩ := h2 N n5 n2 n3 n4
    rw [n1, gB0_some, k1]
    exact ⟨K, rfl, n6.tr k2⟩
theorem kp0 (M : gMem) : KP M (gSI M 141 0 0) := KP.s141 (by omega)
theorem SQ_g {t : Nat} {v : gCt} {f g : gFq} {b : Bool} {e : Int32} {F G : gFq} (hf : ∀ M, CT M t v → f M = if b = true then F M else some (e, M)) (hg : ∀ M, CT M t v → g M = if b = true then G (gSI M 141 0 0) else some (e, gSI M 141 0 0)) (h : b = true → ∃ r, (∀ M, CT M t v → ∃ K, F M = some (r, K) ∧ KP M K) ∧ ∀ M, CT M t v → ∃ K, G M = some (r, K) ∧ KP M K) : SQ t v f g := by
  cases hb : b
  · refine ⟨e, fun M hM => ⟨M, ?_, KP.rf⟩, fun M hM => ⟨_, ?_, kp0 M⟩⟩
    · rw [hf M hM, hb]; rfl
    · rw [hg M hM, hb]; rfl
  · obtain ⟨r, h1, h2⟩ := h hb
    refine ⟨r, fun M hM => ?_, fun M hM => ?_⟩
    · obtain ⟨K, k1, k2⟩ := h1 M hM
      exact ⟨K, by rw [hf M hM, hb]; exact k1, k2⟩
    · obtain ⟨K, k1, k2⟩ := h2 _ (hM.kp (kp0 M))
      exact ⟨K, by rw [hg M hM, hb]; exact k1, (kp0 M).tr k2⟩
theorem SQ_y {t : Nat} {v : gCt} {f g : gFq} {x e : Int32} {F G : gFq} (hf : ∀ M, f M = if gOb 7 (M.2.2 0) = true then gB0 (fX7_hasYear (M.2.2 0) x M) (fun r2 => if r2 = 0 then some (e, M) else gB0 (fX8_liveAsNow M) (fun M4 => F M4)) else none) (hg : ∀ M, g M = gB0 (fX9_isYear x (gSI M 141 0 0)) (fun r1 => if r1 = 0 then some (e, gSI M 141 0 0) else gB0 (fX9_laysNow (gSI M 141 0 0)) (fun M3 => G M3)))
    (h : ∀ y, y < v 0 0 → x = nI y → AF t v F G) : SQ t v f g := by
  refine SQ_g (b := inR x (v 0 0)) (e := e) (F := fun M => gB0 (fX8_liveAsNow M) F) (G := fun M => gB0 (fX9_laysNow M) G) (fun M hM => ?_) (fun M hM => ?_) (fun hb => ?_)
  · rw [hf, if_pos (gob_T hM), hM.1.1, F_hasYear hM.2.1 hM.2.2.1, gB0_some, ite_bI]
  · have hN := hM.kp (kp0 M)
    rw [hg, M_isYear hN.2.1 hN.2.2.2.1, gB0_some, ite_bI]
  · obtain ⟨y, hy, hx⟩ := inR_k hb
    exact (h y hy hx).go
theorem SQ_py {t : Nat} {v : gCt} {f g : gFq} {p x e : Int32} {F G : gFq} (hf : ∀ M, f M = if gOb 7 (M.2.2 0) = true then gB0 (fX7_hasPartner (M.2.2 0) p M) (fun r2 => if r2 = 0 then some (e, M) else if gOb 7 (M.2.2 0) = true then gB0 (fX7_hasYear (M.2.2 0) x M) (fun r5 => if r5 = 0 then some (e, M) else gB0 (fX8_liveAsNow M) (fun M4 => F M4)) else none) else none) (hg : ∀ M, g M = gB0 (fX9_isThen p x (gSI M 141 0 0)) (fun r1 => if r1 = 0 then some (e, gSI M 141 0 0) else gB0 (fX9_laysNow (gSI M 141 0 0)) (fun M3 => G M3)))
    (h : ∀ k y, k < v 0 4 → y < v 0 0 → p = nI k → x = nI y → AF t v F G) : SQ t v f g := by
  refine SQ_g (b := inR p (v 0 4) && inR x (v 0 0)) (e := e) (F := fun M => gB0 (fX8_liveAsNow M) F) (G := fun M => gB0 (fX9_laysNow M) G) (fun M hM => ?_) (fun M hM => ?_) (fun hb => ?_)
  · rw [hf, if_pos (gob_T hM), hM.1.1, F_hasPartner hM.2.1 hM.2.2.1, gB0_some, ite_bI, F_hasYear hM.2.1 hM.2.2.1, gB0_some, ite_bI, if_pos hM.1.2]
    cases inR p (v 0 4) <;> cases inR x (v 0 0) <;> rfl
  · have hN := hM.kp (kp0 M)
    rw [hg, M_isThen hN.2.1 hN.2.2.2.1, gB0_some, ite_bI]
  · rw [Bool.and_eq_true] at hb
    obtain ⟨k, hk, hp⟩ := inR_k hb.1
    obtain ⟨y, hy, hx⟩ := inR_k hb.2
    exact (h k y hk hy hp hx).go
theorem SQ_p {t : Nat} {v : gCt} {f g : gFq} {p e : Int32} {F G : gFq} (hf : ∀ M, f M = if gOb 7 (M.2.2 0) = true then gB0 (fX7_hasPartner (M.2.2 0) p M) (fun r2 => if r2 = 0 then some (e, M) else gB0 (fX8_liveAsNow M) (fun M4 => F M4)) else none) (hg : ∀ M, g M = gB0 (fX9_isPerson (Int32.toInt64 p) (gSI M 141 0 0)) (fun r1 => if r1 = 0 then some (e, gSI M 141 0 0) else gB0 (fX9_laysNow (gSI M 141 0 0)) (fun M3 => G M3)))
    (h : ∀ k, k < v 0 4 → p = nI k → AF t v F G) : SQ t v f g := by
  refine SQ_g (b := inR p (v 0 4)) (e := e) (F := fun M => gB0 (fX8_liveAsNow M) F) (G := fun M => gB0 (fX9_laysNow M) G) (fun M hM => ?_) (fun M hM => ?_) (fun hb => ?_)
  · rw [hf, if_pos (gob_T hM), hM.1.1, F_hasPartner hM.2.1 hM.2.2.1, gB0_some, ite_bI]
  · have hN := hM.kp (kp0 M)
    rw [hg, M_isPerson hN.2.1 hN.2.2.2.1, gB0_some, ite_bI, inL_inR]
  · obtain ⟨k, hk, hp⟩ := inR_k hb
    exact (h k hk hp).go
theorem inP_k {v : gCt} {x y : Int32} (h : inP v x y = true) : ∃ p q, p < v 0 4 ∧ q < v 0 4 ∧ p ≠ q ∧ x = nI p ∧ y = nI q := by
  unfold inP at h
  rw [Bool.and_eq_true, Bool.and_eq_true, Bool.not_eq_true', decide_eq_false_iff_not] at h
  obtain ⟨p, hp, rfl⟩ := inR_k h.1.1
  obtain ⟨q, hq, rfl⟩ := inR_k h.1.2
  exact ⟨p, q, hp, hq, fun e => h.2 (by rw [e]), rfl, rfl⟩
theorem SQ_d {t : Nat} {v : gCt} {f g : gFq} {p x e : Int32} {F G : gFq} (hf : ∀ M, f M = if gOb 7 (M.2.2 0) = true then gB0 (fX7_hasPair (M.2.2 0) p x M) (fun r2 => if r2 = 0 then some (e, M) else gB0 (fX8_liveAsNow M) (fun M4 => F M4)) else none) (hg : ∀ M, g M = gB0 (fX9_areTwo p x (gSI M 141 0 0)) (fun r1 => if r1 = 0 then some (e, gSI M 141 0 0) else gB0 (fX9_laysNow (gSI M 141 0 0)) (fun M3 => G M3)))
    (h : ∀ k q, k < v 0 4 → q < v 0 4 → k ≠ q → p = nI k → x = nI q → AF t v F G) : SQ t v f g := by
  refine SQ_g (b := inP v p x) (e := e) (F := fun M => gB0 (fX8_liveAsNow M) F) (G := fun M => gB0 (fX9_laysNow M) G) (fun M hM => ?_) (fun M hM => ?_) (fun hb => ?_)
  · rw [hf, if_pos (gob_T hM), hM.1.1, F_hasPair hM.2.1 hM.2.2.1, gB0_some, ite_bI]
  · have hN := hM.kp (kp0 M)
    rw [hg, M_areTwo hN.2.1 hN.2.2.2.1, gB0_some, ite_bI]
  · obtain ⟨k, q, h1, h2, h3, h4, h5⟩ := inP_k hb
    exact (h k q h1 h2 h3 h4 h5).go
/-! what sets of a year hold -/
theorem goY_lt (v : gCt) (u : gSp) : ∀ y p, goY v u y p = true → p < v 0 4 := by
  have st : ∀ y, (∀ p, go0 v u y p = true → p < v 0 4) → ∀ p, goY v u y p = true → p < v 0 4 := by
    intro y h0 p h
    rw [goY_eq] at h
    unfold ouO faO at h
    rw [Bool.or_eq_true, Bool.and_eq_true] at h
    rcases h with h | h
    · exact h0 p h
    · exact of_decide_eq_true h.1
  intro y
  induction y with
  | zero => exact st 0 (fun p h => by cases h)
  | succ y ih => exact st (y + 1) ih
theorem skY_lt {v : gCt} {u : gSp} (hv : gWF v) (hu : ∀ p, u 3 p = true → p < v 0 4) : ∀ y p, skY v u y p = true → p < v 0 4 := by
  intro y p h
  rw [skY_eq] at h
  unfold siO at h
  rw [Bool.and_eq_true, Bool.or_eq_true] at h
  rcases h.1 with h | h
  · cases y with
    | zero => exact hu p h
    | succ y =>
      obtain ⟨q, -, k2⟩ := anyU_iff.mp h
      rw [Bool.and_eq_true, tiY_eq] at k2
      exact (tiO_in (gl_ok hv u) k2.2).2.1
  · obtain ⟨c, k1, k2⟩ := anyU_iff.mp h
    simp only [Bool.and_eq_true, decide_eq_true_eq] at k2
    rw [← k2.2]
    exact (hv.2.2.2.2.1 c k1).1
theorem gMk_np {n : Nat} (hn : n ≤ 6) {f : Nat → Bool} (h : ∀ p, f p = true → p < n) : gMk 6 f = gMk n f := (gMk_up (by omega) hn (fun k h1 _ => by
  cases hc : f k
  · rfl
  · have := h k hc; omega)).symm
/-! holds .. colds -/
theorem Q_tied {t : Nat} {v : gCt} (p q y : Int32) : SQ t v (fX8_tied p q y) (fX9_tied p q y) := by
  refine SQ_g (b := inP v p q && inR y (v 0 0)) (e := -2) (F := fun M => gB0 (fX8_liveAsNow M) (fun M7 => gB0 (fX2_areTied p q y M7) (fun r9 => if r9 = 0 then some ((0 : Int32), M7) else some ((1 : Int32), M7)))) (G := fun M => gB0 (fX9_laysNow M) (fun M5 => if gIx 1 155 ((((36 : Int32) * y) + ((6 : Int32) * p)) + q) = true then if (M5.1 155 (Int32.toNatClampNeg ((((36 : Int32) * y) + ((6 : Int32) * p)) + q))) ≤ 0 then some ((0 : Int32), M5) else some ((1 : Int32), M5) else none)) (fun M hM => ?_) (fun M hM => ?_) (fun hb => ?_)
  · unfold fX8_tied fX8_tied_0
    rw [if_pos (gob_T hM), hM.1.1, F_hasPair hM.2.1 hM.2.2.1, gB0_some, ite_bI, F_hasYear hM.2.1 hM.2.2.1, gB0_some, ite_bI, if_pos hM.1.2]
    cases inP v p q <;> cases inR y (v 0 0) <;> rfl
  · have hN := hM.kp (kp0 M)
    unfold fX9_tied fX9_tied_0 fX9_tied_8
    rw [M_areTwo hN.2.1 hN.2.2.2.1, gB0_some, ite_bI, M_isYear hN.2.1 hN.2.2.2.1, gB0_some, ite_bI]
    cases inP v p q <;> cases inR y (v 0 0) <;> rfl
  · rw [Bool.and_eq_true] at hb
    obtain ⟨k, l, h1, h2, h3, rfl, rfl⟩ := inP_k hb.1
    obtain ⟨z, hz, rfl⟩ := inR_k hb.2
    refine AF.go ⟨bI (tiY v u0 z k l), fun N hN hL => ?_, fun N hN hS hV _ => ?_⟩
    · have hv0 := hN.2.1.1
      obtain ⟨-, -, -, -, hY, -⟩ := hL.1 z hz
      unfold fX2_areTied fX2_areTied_0
      simp (disch := omega) only [ix35, if_true, nI_clamp, ra35, ixI, hY k (by omega), F_has, gB0_some, bt_gMk, show l < 6 by omega, decide_true, Bool.true_and, if_pos (bI_z _), ite_bI]
      cases tiY v u0 z k l
      · exact ⟨N, rfl, KP.rf⟩
      · exact ⟨N, rfl, KP.rf⟩
    · have hv0 := hN.2.1.1
      have hT := hV.2 z hz k l (by omega) (by omega)
      simp (disch := omega) only [li36, li6, pk_mul, nI_add, ix155, if_true, nI_clamp, hT]
      have hti : decide (0 < tcO (gl v u0) z (goY v u0 z) k l) = tiY v u0 z k l := by rw [tiY_eq]; exact tc_ti _ _ _ _ _
      by_cases h0 : tcO (gl v u0) z (goY v u0 z) k l = 0
      · rw [h0] at hti ⊢
        rw [if_pos (by decide), ← hti]
        exact ⟨N, rfl, KP.rf⟩
      · rw [if_neg (nI_nle (by omega) (tc_lt (gl_1000 hN.2.1 u0) z _ k l)), ← hti, decide_eq_true (by omega)]
        exact ⟨N, rfl, KP.rf⟩
theorem Q_firm {t : Nat} {v : gCt} (p y : Int32) : SQ t v (fX8_firm p y) (fX9_firm p y) := by
  refine SQ_py (fun M => rfl) (fun M => rfl) (fun k z hk hz hp hx => ?_)
  subst hp; subst hx
  refine ⟨fiR (v 0 4) (tiY v u0 z) (goY v u0 z) k, fun N hN hL => ?_, fun N hN hS hV _ => ?_⟩
  · have hv0 := hN.2.1.1
    obtain ⟨-, -, -, -, -, hY⟩ := hL.1 z hz
    simp (disch := omega) only [ix48, if_true, nI_clamp, ra48, ixF, hY k (by omega)]
    exact ⟨N, rfl, KP.rf⟩
  · dsimp only
    rw [M_firmOf hN.2.1 hN.2.2.2.1 hV hz hN.2.1.1.1 hk, gB0_some]
    exact ⟨N, rfl, KP.rf⟩
theorem Q_colds {t : Nat} {v : gCt} (y : Int32) : SQ t v (fX8_colds y) (fX9_colds y) := by
  refine SQ_y (fun M => rfl) (fun M => rfl) (fun z hz hx => ?_)
  subst hx
  refine ⟨gMk (v 0 4) (skY v u0 z), fun N hN hL => ?_, fun N hN hS hV _ => ?_⟩
  · have hv0 := hN.2.1.1
    obtain ⟨-, -, hY, -⟩ := hL.1 z hz
    simp (disch := omega) only [ix21, if_true, nI_clamp, hY]
    exact ⟨N, by rw [gMk_np (by omega) (skY_lt hN.2.1 (fun p h => by cases h) z)], KP.rf⟩
  · have hv0 := hN.2.1.1
    refine ⟨N, ?_, KP.rf⟩
    unfold fX9_colds_24h
    refine gLp_for (fun i => (gMk i (skY v u0 z), nI i)) (v 0 4) _ (by omega) (fun i hi => ?_) ?_ _ rfl
    · show fX9_colds_24 (nI z) (gMk i (skY v u0 z)) (nI i) N = _
      unfold fX9_colds_24
      rw [F_people hN.2.2.2.1, gB0_some, if_neg (nI_ge hi (by omega)), ix157 (by omega), if_pos rfl, nI_clamp (by omega), (hV.1 i hi).2.1]
      simp only [oV_eq (frO_lt (f := fun y => skY v u0 y i) (n := v 0 0) (by omega)) (show z < 100 by omega), b1_eq, nI_1, gMk_s, Int32.or_zero]
      have hs := fr_sk v u0 i hz
      cases hc : skY v u0 z i
      · rw [hc] at hs
        rw [if_neg (of_decide_eq_false hs)]; simp
      · rw [hc] at hs
        rw [if_pos (of_decide_eq_true hs)]; simp
    · show fX9_colds_24 (nI z) _ (nI (v 0 4)) N = _
      unfold fX9_colds_24
      rw [F_people hN.2.2.2.1, gB0_some, if_pos (Int32.le_refl _)]
      rfl
theorem Q_worth {t : Nat} {v : gCt} (p y : Int32) : SQ t v (fX8_worth p y) (fX9_worth p y) := by
  refine SQ_py (fun M => rfl) (fun M => rfl) (fun k z hk hz hp hx => ?_)
  subst hp; subst hx
  refine ⟨woY v u0 z k, fun N hN hL => ?_, fun N hN hS hV _ => ?_⟩
  · have hv0 := hN.2.1.1
    obtain ⟨-, -, -, hY, -, -⟩ := hL.1 z hz
    simp (disch := omega) only [ix22, if_true, nI_clamp, ra22, ixW, hY k hk]
    exact ⟨N, rfl, KP.rf⟩
  · have hv0 := hN.2.1.1
    have := (hV.1 k hk).2.2 z (by omega) (by omega)
    simp (disch := omega) only [li12, pk_mul, nI_add, ix158, if_true, nI_clamp, this]
    exact ⟨N, rfl, KP.rf⟩
