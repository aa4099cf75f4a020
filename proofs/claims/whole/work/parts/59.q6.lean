/-! hairs -/
theorem clo_fm {ti : Nat → Nat → Bool} {p n q : Nat} (hn : n ≤ 6) (h : clo ti (fun q => decide (q = p)) n q = true) : fmO ti p q = true := by
  have := clo_up (6 - n) h
  rwa [show n + (6 - n) = 6 by omega] at this
/-- a loop that looks for the first step -/
theorem gLp_fs {σ ρ : Type} {f : σ → Option (Sum σ ρ)} {st : Nat → σ} {g : Nat → Bool} {n : Nat} {A : Nat → ρ} {B : ρ} (hn : n < 4096) (hs : ∀ i, i < n → f (st i) = if g i = true then some (.inr (A i)) else some (.inl (st (i + 1)))) (he : f (st n) = some (.inr B)) (s0 : σ) (h0 : s0 = st 0) : gLp f gFu s0 = some (match frO g n with
    | some z => A z
    | none => B) := by
  have key : ∃ r, gLp f gFu s0 = some r ∧ r = (match frO g n with
    | some z => A z
    | none => B) := by
    refine gLp_inv (fun i s => s = st i ∧ frO g i = none) n (fun r => r = (match frO g n with
    | some z => A z
    | none => B)) hn (fun i s hi hI => ?_) (fun s hI => ?_) _ ⟨h0, rfl⟩
    · obtain ⟨rfl, h2⟩ := hI
      rw [hs i hi]
      cases hg : g i
      · exact Or.inl ⟨_, rfl, rfl, by rw [fr_step h2, hg]; rfl⟩
      · exact Or.inr ⟨_, rfl, by rw [frO_hit hi h2 hg]⟩
    · obtain ⟨rfl, h2⟩ := hI
      exact ⟨_, he, by rw [h2]⟩
  obtain ⟨r, k1, k2⟩ := key
  rw [k1, k2]
def hrO (v : gCt) (u : gSp) (y p q : Nat) : Int32 := if goY v u y p = true ∨ goY v u y q = true then -1 else oV (frO (fun n => clo (tiY v u y) (fun x => decide (x = p)) n q) (v 0 4))
theorem C_distance {M : gMem} {v : gCt} {u : gSp} {n y p q : Nat} (hv : gWF v) (hL : LVd M v u n) (hy : y < n) (hn : n ≤ 12) (hp : p < v 0 4) (hq : q < v 0 4) : fX2_distance (nI p) (nI q) (nI y) M = some (hrO v u y p q) := by
  have hv0 := hv.1
  have hR := hL.1 y hy
  obtain ⟨s1, s2⟩ := (gSh_y y (by omega)).2.1
  unfold fX2_distance fX2_distance_0
  rw [ix48 (by omega), if_pos rfl, nI_clamp (by omega), ra48, ixF (by omega) (by omega), if_pos rfl, nI_clamp (by omega), hR.2.2.2.2.2 p (by omega), F_has _ (by omega), gB0_some, ite_bI, bt_fiR (by omega), decide_eq_true hp, Bool.true_and]
  unfold hrO
  cases hgp : goY v u y p
  · cases hf : fmO (tiY v u y) p q
    · -- not of one firm
      have hno : frO (fun n => clo (tiY v u y) (fun x => decide (x = p)) n q) (v 0 4) = none := frO_none.mpr (fun z hz => by
        cases hc : clo (tiY v u y) (fun x => decide (x = p)) z q
        · rfl
        · rw [clo_fm (by omega) hc] at hf; cases hf)
      cases hgq : goY v u y q
      · simp [hno, oV]
      · simp
    · have hgq : goY v u y q = false := fm_go hv hgp q (by omega) hf
      rw [hgq]
      simp only [Bool.not_false, Bool.and_self, if_true, Bool.false_eq_true, or_self, if_false, b1_eq]
      -- found within the partners' number
      obtain ⟨m, hm⟩ : ∃ m, v 0 4 = m + 1 := ⟨v 0 4 - 1, by omega⟩
      have st := clo_n (ti := tiY v u y) (f := fun x => decide (x = p)) (n := m) (by omega) (fun x _ h => by rw [of_decide_eq_true h]; omega) (fun a x _ _ h => by rw [tiY_eq] at h; have := (tiO_in (gl_ok hv u) h).2.1; omega) (one_cn (by omega))
      have hcm : clo (tiY v u y) (fun x => decide (x = p)) m q = true := by
        have e := clo_st st (6 - m) q (by omega)
        rw [show m + (6 - m) = 6 by omega] at e
        rw [← e]; exact hf
      have hz : ∃ z, frO (fun n => clo (tiY v u y) (fun x => decide (x = p)) n q) (v 0 4) = some z ∧ frO (fun n => clo (tiY v u y) (fun x => decide (x = p)) n q) 6 = some z := by
        cases h1 : frO (fun n => clo (tiY v u y) (fun x => decide (x = p)) n q) (v 0 4) with
        | none => have := frO_none.mp h1 m (by omega); rw [hcm] at this; cases this
        | some z =>
          obtain ⟨z1, z2, z3⟩ := frO_some h1
          refine ⟨z, rfl, ?_⟩
          exact frO_hit (by omega) (frO_none.mpr z3) z2
      obtain ⟨z, z1, z2⟩ := hz
      rw [z1]
      unfold fX2_distance_25h
      refine Eq.trans (gLp_fs (st := fun i => (gMk 6 (clo (tiY v u y) (fun x => decide (x = p)) i), nI i)) (g := fun n => clo (tiY v u y) (fun x => decide (x = p)) n q) (n := 6) (A := fun i => nI i) (B := -1) (by omega) (fun i hi => ?_) ?_ _ (by rw [gMk_b1 (n := 6) (by omega) (show p < 6 by omega)]; rfl)) (by rw [z2]; rfl)
      · show fX2_distance_25 (nI q) (nI y) (gMk 6 (clo (tiY v u y) (fun x => decide (x = p)) i)) (nI i) M = _
        unfold fX2_distance_25
        rw [li6, if_neg (nI_ge hi (by omega)), F_has _ (by omega), gB0_some, ite_bI, bt_gMk (by omega), decide_eq_true (show q < 6 by omega), Bool.true_and, ix35 (by omega), if_pos rfl, nI_clamp (by omega), ra35, F_tiedTo s1 s2 hR.2.2.2.2.1, gB0_some, gMk_or (by omega), nI_1]
        rfl
      · show fX2_distance_25 (nI q) (nI y) _ (nI 6) M = _
        unfold fX2_distance_25
        rw [li6, if_pos (Int32.le_refl _)]
  · simp
theorem Q_hairs {t : Nat} {v : gCt} (p q y : Int32) : SQ t v (fX8_hairs p q y) (fX9_hairs p q y) := by
  refine SQ_g (b := inR p (v 0 4) && (inR q (v 0 4) && inR y (v 0 0))) (e := -2) (F := fun M => gB0 (fX8_liveAsNow M) (fun M10 => gB0 (fX2_distance p q y M10) (fun r12 => some (r12, M10)))) (G := fun M => gB0 (fX9_laysNow M) (fun M5 => gB0 (fX9_isOut p y M5) (fun r7 => if r7 = 0 then gB0 (fX9_isOut q y M5) (fun r9 => if r9 = 0 then fX9_hairs_58h q y ((1 : Int32) <<< (p &&& 31)) (0 : Int32) M5 else some ((-1 : Int32), M5)) else some ((-1 : Int32), M5)))) (fun M hM => ?_) (fun M hM => ?_) (fun hb => ?_)
  · unfold fX8_hairs fX8_hairs_0
    rw [if_pos (gob_T hM), hM.1.1, F_hasPartner hM.2.1 hM.2.2.1, gB0_some, ite_bI, F_hasPartner hM.2.1 hM.2.2.1, gB0_some, ite_bI, F_hasYear hM.2.1 hM.2.2.1, gB0_some, ite_bI, if_pos hM.1.2, if_pos hM.1.2]
    cases inR p (v 0 4) <;> cases inR q (v 0 4) <;> cases inR y (v 0 0) <;> rfl
  · have hN := hM.kp (kp0 M)
    unfold fX9_hairs fX9_hairs_0 fX9_hairs_8
    rw [M_isPerson hN.2.1 hN.2.2.2.1, gB0_some, ite_bI, inL_inR, M_isThen hN.2.1 hN.2.2.2.1, gB0_some, ite_bI]
    cases inR p (v 0 4) <;> cases inR q (v 0 4) <;> cases inR y (v 0 0) <;> rfl
  · rw [Bool.and_eq_true, Bool.and_eq_true] at hb
    obtain ⟨k, hk, rfl⟩ := inR_k hb.1
    obtain ⟨l, hl, rfl⟩ := inR_k hb.2.1
    obtain ⟨z, hz, rfl⟩ := inR_k hb.2.2
    refine AF.go ⟨hrO v u0 z k l, fun N hN hL => ⟨N, ?_, KP.rf⟩, fun N hN hS hV _ => ⟨N, ?_, KP.rf⟩⟩
    · dsimp only
      rw [C_distance hN.2.1 hL hz hN.2.1.1.1 hk hl]
      rfl
    · have hv := hN.2.1
      have hv0 := hv.1
      have ha := hN.2.2.2.1
      have ho := hV.ot hz hv0.1
      have hT := hV.2 z hz
      dsimp only
      rw [F_out ho (by omega) (by omega) hk, F_out ho (by omega) (by omega) hl, gB0_some, gB0_some, ite_bI, ite_bI]
      unfold hrO
      cases hgp : goY v u0 z k
      · cases hgq : goY v u0 z l
        · simp only [Bool.false_eq_true, if_false, or_self, b1_eq]
          have hti : ∀ a b, tiY v u0 z a b = decide (0 < tcO (gl v u0) z (goY v u0 z) a b) := fun a b => by rw [tiY_eq]; exact (tc_ti _ _ _ _ _).symm
          -- one step
          have inner : ∀ (g h : Nat → Bool) (s a : Nat), a < v 0 4 → s < 100 → fX9_hairs_98h (nI l) (nI z) (gMk 6 g) (nI s) (gMk 6 h) (nI a) 0 N = some (.inl (gMk 6 (fun q => h q || (g a && (decide (q < v 0 4) && tiY v u0 z a q))), nI (a + 1))) := by
            intro g h s a ha2 hs
            unfold fX9_hairs_98h
            refine gLp_for (fun i => (gMk 6 (fun q => h q || (g a && (decide (q < i) && tiY v u0 z a q))), nI i)) (v 0 4) _ (by omega) (fun i hi => ?_) ?_ _ (Prod.ext (show gMk 6 h = gMk 6 (fun q => h q || (g a && (decide (q < 0) && tiY v u0 z a q))) from gMk_ext (fun k _ => by simp)) rfl)
            · show fX9_hairs_98 (nI l) (nI z) (gMk 6 g) (nI s) (gMk 6 (fun q => h q || (g a && (decide (q < i) && tiY v u0 z a q)))) (nI a) (nI i) N = _
              unfold fX9_hairs_98
              rw [F_people ha, gB0_some, if_neg (nI_ge hi (by omega)), F_isBit _ (by omega), bt_gMk (by omega), decide_eq_true (show a < 6 by omega), Bool.true_and, gB0_some, ite_bI, nI_1]
              cases hg : g a
              · simp only [Bool.false_and, Bool.or_false, Bool.false_eq_true, if_false]
              · simp (disch := omega) only [if_true, li36, li6, pk_mul, nI_add, ix155, nI_clamp, hT a i (by omega) (by omega), Bool.true_and, b1_eq]
                have hst : ∀ x : Bool, tiY v u0 z a i = x → gMk 6 (fun q => h q || (decide (q < i + 1) && tiY v u0 z a q)) = if x = true then gMk 6 (fun q => h q || (decide (q < i) && tiY v u0 z a q)) ||| b1 i else gMk 6 (fun q => h q || (decide (q < i) && tiY v u0 z a q)) := by
                  intro x hx
                  cases x
                  · rw [if_neg (by simp)]
                    refine gMk_ext (fun q hq => ?_)
                    by_cases e : q = i
                    · subst e; rw [hx]; simp
                    · rw [decide_eq_decide.mpr (show q < i + 1 ↔ q < i by omega)]
                  · rw [if_pos rfl, gMk_b1 (n := 6) (by omega) (show i < 6 by omega), gMk_or (by omega)]
                    refine gMk_ext (fun q hq => ?_)
                    by_cases e : q = i
                    · subst e; rw [hx]; simp
                    · rw [decide_eq_decide.mpr (show q < i + 1 ↔ q < i by omega), decide_eq_false e, Bool.or_false]
                by_cases h0 : tcO (gl v u0) z (goY v u0 z) a i = 0
                · rw [h0, if_pos (by decide), hst false (by rw [hti, h0]; rfl)]; rfl
                · rw [if_neg (nI_nle (by omega) (tc_lt (gl_1000 hv u0) z _ a i)), hst true (by rw [hti]; exact decide_eq_true (by omega))]; rfl
            · show fX9_hairs_98 (nI l) (nI z) (gMk 6 g) (nI s) _ (nI a) (nI (v 0 4)) N = _
              unfold fX9_hairs_98
              rw [F_people ha, gB0_some, if_pos (Int32.le_refl _), nI_1]
              rfl
          have step : ∀ (g : Nat → Bool) (s : Nat), s < 100 → fX9_hairs_86h (nI l) (nI z) (gMk 6 g) (nI s) (gMk 6 g) 0 N = some (.inl (gMk 6 (fun q => g q || anyU 6 (fun a => g a && tiY v u0 z a q)), nI (s + 1))) := by
            intro g s hs
            unfold fX9_hairs_86h
            refine gLp_for (fun i => (gMk 6 (fun q => g q || anyU i (fun a => g a && (decide (q < v 0 4) && tiY v u0 z a q))), nI i)) (v 0 4) _ (by omega) (fun i hi => ?_) ?_ _ (Prod.ext (show gMk 6 g = gMk 6 (fun q => g q || anyU 0 (fun a => g a && (decide (q < v 0 4) && tiY v u0 z a q))) from gMk_ext (fun k _ => (Bool.or_false _).symm)) rfl)
            · show fX9_hairs_86 (nI l) (nI z) (gMk 6 g) (nI s) (gMk 6 (fun q => g q || anyU i (fun a => g a && (decide (q < v 0 4) && tiY v u0 z a q)))) (nI i) N = _
              unfold fX9_hairs_86
              rw [F_people ha, gB0_some, if_neg (nI_ge hi (by omega)), inner g _ s i hi hs]
              congr 3
              exact gMk_ext (fun q _ => by rw [anyU_s, Bool.or_assoc])
            · show fX9_hairs_86 (nI l) (nI z) (gMk 6 g) (nI s) _ (nI (v 0 4)) N = _
              unfold fX9_hairs_86
              rw [F_people ha, gB0_some, if_pos (Int32.le_refl _), nI_1, gEx_some]
              congr 4
              refine gMk_ext (fun q hq => ?_)
              congr 1
              refine Bool.eq_iff_iff.mpr ⟨fun h => ?_, fun h => ?_⟩
              · obtain ⟨a, a1, a2⟩ := anyU_iff.mp h
                rw [Bool.and_eq_true, Bool.and_eq_true] at a2
                exact anyU_iff.mpr ⟨a, by omega, by rw [a2.1, a2.2.2]; rfl⟩
              · obtain ⟨a, a1, a2⟩ := anyU_iff.mp h
                rw [Bool.and_eq_true] at a2
                have hin := a2.2
                rw [tiY_eq] at hin
                have := tiO_in (gl_ok hv u0) hin
                exact anyU_iff.mpr ⟨a, this.1, by rw [a2.1, a2.2, decide_eq_true this.2.1]; rfl⟩
          unfold fX9_hairs_58h
          refine Eq.trans (gLp_fs (st := fun i => (gMk 6 (clo (tiY v u0 z) (fun x => decide (x = k)) i), nI i)) (g := fun n => clo (tiY v u0 z) (fun x => decide (x = k)) n l) (n := v 0 4) (A := fun i => (nI i, N)) (B := (-1, N)) (by omega) (fun i hi => ?_) ?_ _ (by rw [gMk_b1 (n := 6) (by omega) (show k < 6 by omega)]; rfl)) (by cases frO (fun n => clo (tiY v u0 z) (fun x => decide (x = k)) n l) (v 0 4) <;> rfl)
          · show fX9_hairs_58 (nI l) (nI z) (gMk 6 (clo (tiY v u0 z) (fun x => decide (x = k)) i)) (nI i) N = _
            unfold fX9_hairs_58
            rw [F_people ha, gB0_some, if_neg (nI_ge hi (by omega)), F_isBit _ (by omega), gB0_some, ite_bI, bt_gMk (by omega), decide_eq_true (show l < 6 by omega), Bool.true_and, step _ i (by omega)]
            rfl
          · show fX9_hairs_58 (nI l) (nI z) _ (nI (v 0 4)) N = _
            unfold fX9_hairs_58
            rw [F_people ha, gB0_some, if_pos (Int32.le_refl _)]
        · rfl
      · rfl
