/-! Questions of years: the first year of something, hairs, the richest, firms. -/
theorem frO_hit {f : Nat → Bool} {n i : Nat} (hi : i < n) (h : frO f i = none) (hf : f i = true) : frO f n = some i := by
  have h3 := frO_none.mp h
  cases hc : frO f n with
  | none => have := frO_none.mp hc i hi; rw [hf] at this; cases this
  | some k =>
    obtain ⟨c1, c2, c3⟩ := frO_some hc
    rcases Nat.lt_trichotomy k i with e | e | e
    · rw [h3 k e] at c2; cases c2
    · rw [e]
    · rw [c3 i e] at hf; cases hf
/-- a loop that looks for the first year of it -/
theorem gLp_fr {f : Int32 → Option (Sum Int32 (Int32 × gMem))} {N : gMem} {g : Nat → Bool} {n : Nat} (hn : n < 4096) (hs : ∀ i, i < n → f (nI i) = if g i = true then some (.inr (nI i, N)) else some (.inl (nI (i + 1)))) (he : f (nI n) = some (.inr (-1, N))) : gLp f gFu 0 = some (oV (frO g n), N) := by
  have key : ∃ r, gLp f gFu 0 = some r ∧ r = (oV (frO g n), N) := by
    refine gLp_inv (fun i (s : Int32) => s = nI i ∧ frO g i = none) n (fun r => r = (oV (frO g n), N)) hn (fun i s hi hI => ?_) (fun s hI => ?_) _ ⟨rfl, rfl⟩
    · obtain ⟨rfl, h2⟩ := hI
      rw [hs i hi]
      cases hg : g i
      · exact Or.inl ⟨_, rfl, rfl, by rw [fr_step h2, hg]; rfl⟩
      · exact Or.inr ⟨_, rfl, by rw [frO_hit hi h2 hg]; rfl⟩
    · obtain ⟨rfl, h2⟩ := hI
      exact ⟨_, he, by rw [h2]; rfl⟩
  obtain ⟨r, k1, k2⟩ := key
  rw [k1, k2]
theorem Q_parts {t : Nat} {v : gCt} (j : Int32) : SQ t v (fX8_parts j) (fX9_parts j) := by
  refine SQ_g (b := inR j (v 0 5)) (e := -2) (F := fun M => gB0 (fX8_liveAsNow M) (fX8_parts_20h j 0)) (G := fun M => gB0 (fX9_laysNow M) (fX9_parts_22h j 0)) (fun M hM => ?_) (fun M hM => ?_) (fun hb => ?_)
  · unfold fX8_parts fX8_parts_0
    rw [if_pos (gob_T hM), hM.1.1, F_hasJoin hM.2.1 hM.2.2.1, gB0_some, ite_bI]
  · have hN := hM.kp (kp0 M)
    unfold fX9_parts fX9_parts_0 fX9_parts_7
    rw [M_isJoin hN.2.1 hN.2.2.2.1, gB0_some, ite_bI]
  · obtain ⟨k, hk, rfl⟩ := inR_k hb
    refine AF.go ⟨oV (frO (fun y => !heO v u0 y (goY v u0 y) k) (v 0 0)), fun N hN hL => ⟨N, ?_, KP.rf⟩, fun N hN hS hV _ => ⟨N, ?_, KP.rf⟩⟩
    · have hv0 := hN.2.1.1
      unfold fX8_parts_20h
      refine gLp_fr (by omega) (fun i hi => ?_) ?_
      · unfold fX8_parts_20
        rw [if_pos (gob_T hN), tn_ny hN, if_neg (nI_ge hi (by omega)), ix19 (by omega), if_pos rfl, nI_clamp (by omega), (hL.1 i hi).1, F_has _ (by omega), gB0_some, ite_bI, bt_gMk (by omega), decide_eq_true hk, Bool.true_and, nI_1]
        cases heO v u0 i (goY v u0 i) k <;> rfl
      · unfold fX8_parts_20
        rw [if_pos (gob_T hN), tn_ny hN, if_pos (Int32.le_refl _)]
    · have hv0 := hN.2.1.1
      unfold fX9_parts_22h
      refine gLp_fr (by omega) (fun i hi => ?_) ?_
      · unfold fX9_parts_22
        rw [F_years hN.2.2.2.1, gB0_some, if_neg (nI_ge hi (by omega)), F_toldThen hN.2.1 hS hV hi (by omega) hk, gB0_some, ite_bI, nI_1]
        cases heO v u0 i (goY v u0 i) k <;> rfl
      · unfold fX9_parts_22
        rw [F_years hN.2.2.2.1, gB0_some, if_pos (Int32.le_refl _)]
theorem bt_fiR {n : Nat} {ti : Nat → Nat → Bool} {aw : Nat → Bool} {p q : Nat} (hq : q < 6) : bt (fiR n ti aw p) q = ((decide (p < n) && !aw p) && fmO ti p q) := by
  unfold fiR
  by_cases h : p < n ∧ aw p = false
  · rw [if_pos h, bt_gMk (by omega), decide_eq_true hq, decide_eq_true h.1, h.2]; rfl
  · rw [if_neg h, b_0]
    by_cases h1 : p < n
    · cases h2 : aw p
      · exact absurd ⟨h1, h2⟩ h
      · simp
    · simp [h1]
theorem Q_apart {t : Nat} {v : gCt} (p q : Int32) : SQ t v (fX8_apart p q) (fX9_apart p q) := by
  refine SQ_d (fun M => rfl) (fun M => rfl) (fun k l hk hl hkl hp hx => ?_)
  subst hp; subst hx
  refine ⟨oV (frO (fun y => !bt (fiR (v 0 4) (tiY v u0 y) (goY v u0 y) k) l) (v 0 0)), fun N hN hL => ⟨N, ?_, KP.rf⟩, fun N hN hS hV _ => ⟨N, ?_, KP.rf⟩⟩
  · have hv0 := hN.2.1.1
    unfold fX8_apart_21h
    refine gLp_fr (by omega) (fun i hi => ?_) ?_
    · unfold fX8_apart_21
      rw [if_pos (gob_T hN), tn_ny hN, if_neg (nI_ge hi (by omega)), ix48 (by omega), if_pos rfl, nI_clamp (by omega), ra48, ixF (by omega) (by omega), if_pos rfl, nI_clamp (by omega), (hL.1 i hi).2.2.2.2.2 k (by omega), F_has _ (by omega), gB0_some, ite_bI, nI_1]
      cases bt (fiR (v 0 4) (tiY v u0 i) (goY v u0 i) k) l <;> rfl
    · unfold fX8_apart_21
      rw [if_pos (gob_T hN), tn_ny hN, if_pos (Int32.le_refl _)]
  · have hv0 := hN.2.1.1
    unfold fX9_apart_23h
    refine gLp_fr (by omega) (fun i hi => ?_) ?_
    · unfold fX9_apart_23
      rw [F_years hN.2.2.2.1, gB0_some, if_neg (nI_ge hi (by omega)), M_firmOf hN.2.1 hN.2.2.2.1 hV hi (by omega) hk, gB0_some, F_isBit _ (by omega), gB0_some, ite_bI, nI_1]
      cases bt (fiR (v 0 4) (tiY v u0 i) (goY v u0 i) k) l <;> rfl
    · unfold fX9_apart_23
      rw [F_years hN.2.2.2.1, gB0_some, if_pos (Int32.le_refl _)]
theorem C_isTold {M : gMem} {t : Nat} {v : gCt} (h : CT M t v) : fX7_isTold t M = some (bI (decide (0 < v 0 9))) := by
  have hv0 := h.2.1.1
  unfold fX7_isTold fX7_isTold_0
  rw [h.2.2.1.1.1]
  by_cases c : v 0 9 = 0
  · rw [c]; rfl
  · rw [if_neg (nI_nle (by omega) (by omega)), decide_eq_true (by omega)]; rfl
theorem M_isCity {M : gMem} {v : gCt} (hv : gWF v) (ha : RA M v) : fX9_isCity M = some (bI (decide (0 < v 0 9))) := by
  have hv0 := hv.1
  unfold fX9_isCity fX9_isCity_0
  have h0 : gIx 1 147 (0 : Int32) = true := gIx_k (j := 0) rfl (by decide) (show 0 < 5 by omega) (by omega)
  rw [if_pos h0, show Int32.toNatClampNeg (0 : Int32) = 0 from rfl, ha.1.1]
  by_cases c : v 0 9 = 0
  · rw [c]; rfl
  · rw [if_neg (nI_nle (by omega) (by omega)), decide_eq_true (by omega)]; rfl
theorem Q_merger {t : Nat} {v : gCt} : SQ t v fX8_merger fX9_merger := by
  refine SQ_g (b := decide (0 < v 0 9)) (e := -2) (F := fun M => if v 0 4 = 0 then some (-1, M) else gB0 (fX8_liveAsNow M) (fX8_merger_31h 0)) (G := fun M => gB0 (fX9_laysNow M) (fX9_merger_21h 0)) (fun M hM => ?_) (fun M hM => ?_) (fun _ => ?_)
  · have hv0 := hM.2.1.1
    unfold fX8_merger fX8_merger_0
    rw [if_pos (gob_T hM), hM.1.1, C_isTold hM, gB0_some, ite_bI, if_pos hM.1.2, hM.2.2.1.1.2.2.2.2.2.1]
    simp only [nI_n0 (v 0 4) (by omega)]
  · have hN := hM.kp (kp0 M)
    unfold fX9_merger fX9_merger_0 fX9_merger_6
    rw [M_isCity hN.2.1 hN.2.2.2.1, gB0_some, ite_bI]
  · have model : ∀ g : Nat → Bool, (∀ y, y < v 0 0 → g y = (decide (0 < v 0 4) && decide (fiR (v 0 4) (tiY v u0 y) (goY v u0 y) 0 = gMk (v 0 4) (fun _ => true)))) → ∀ M, CT M t v → ∃ K, gB0 (fX9_laysNow M) (fX9_merger_21h 0) = some (oV (frO g (v 0 0)), K) ∧ KP M K := by
      intro g hg M hM
      obtain ⟨N, n1, n2, n3, n4, n5, n6⟩ := F_laysNow hM
      have hv0 := hM.2.1.1
      rw [n1, gB0_some]
      refine ⟨N, ?_, n6⟩
      unfold fX9_merger_21h
      refine gLp_fr (by omega) (fun i hi => ?_) ?_
      · unfold fX9_merger_21
        rw [F_years n5.2.2.2.1, gB0_some, if_neg (nI_ge hi (by omega)), F_people n5.2.2.2.1, gB0_some, hg i hi, nI_1]
        by_cases c : v 0 4 = 0
        · rw [c, if_pos (by decide)]; rfl
        · have hf := M_firmOf n5.2.1 n5.2.2.2.1 n3 hi (by omega) (show 0 < v 0 4 by omega)
          rw [nI_0] at hf
          rw [if_neg (nI_nle (by omega) (by omega)), hf, gB0_some, gB0_some, all_k _ (by omega), decide_eq_true (show 0 < v 0 4 by omega), Bool.true_and]
          by_cases d : fiR (v 0 4) (tiY v u0 i) (goY v u0 i) 0 = gMk (v 0 4) (fun _ => true) <;> simp [d]
      · unfold fX9_merger_21
        rw [F_years n5.2.2.2.1, gB0_some, if_pos (Int32.le_refl _)]
    by_cases c : v 0 4 = 0
    · refine ⟨-1, fun M hM => ⟨M, if_pos c, KP.rf⟩, fun M hM => ?_⟩
      have := model (fun _ => false) (fun y _ => by rw [c]; rfl) M hM
      rwa [show frO (fun _ => false) (v 0 0) = none from frO_none.mpr (fun _ _ => rfl)] at this
    · refine ⟨oV (frO (fun y => decide (0 < v 0 4) && decide (fiR (v 0 4) (tiY v u0 y) (goY v u0 y) 0 = gMk (v 0 4) (fun _ => true))) (v 0 0)), fun M hM => ?_, model _ (fun _ _ => rfl)⟩
      obtain ⟨N, n1, n2, n3, n4⟩ := F_liveAsNow hM
      have hv0 := hM.2.1.1
      simp only [if_neg c]
      rw [n1, gB0_some]
      refine ⟨N, ?_, n4⟩
      unfold fX8_merger_31h
      refine gLp_fr (by omega) (fun i hi => ?_) ?_
      · unfold fX8_merger_31
        have i0 : gIx 1 (49 + i) (0 : Int32) = true := ixF (p := 0) (by omega) (by omega)
        rw [if_pos (gob_T n3), tn_ny n3, if_neg (nI_ge hi (by omega)), ix48 (by omega), if_pos rfl, nI_clamp (by omega), ra48, i0, if_pos rfl, if_pos (gob_T n3), tn_np n3, F_allOf (by omega), gB0_some, show Int32.toNatClampNeg (0 : Int32) = 0 from rfl, (n2.1 i hi).2.2.2.2.2 0 (by omega), nI_1, decide_eq_true (show 0 < v 0 4 by omega), Bool.true_and]
        by_cases d : fiR (v 0 4) (tiY v u0 i) (goY v u0 i) 0 = gMk (v 0 4) (fun _ => true) <;> simp [d]
      · unfold fX8_merger_31
        rw [if_pos (gob_T n3), tn_ny n3, if_pos (Int32.le_refl _)]
theorem M_isHead {M : gMem} {v : gCt} {u : gSp} {n y p : Nat} (hv : gWF v) (ha : RA M v) (hm : MV M v u n) (hy : y < n) (hn : n ≤ 12) (hp : p < v 0 4) : fX9_isHead (nI p) (nI y) M = some (bI (hdO (v 0 4) (tiY v u y) (goY v u y) p)) := by
  have hv0 := hv.1
  unfold fX9_isHead fX9_isHead_0
  rw [M_firmOf hv ha hm hy hn hp, gB0_some, all_k _ (by omega)]
  unfold hdO
  cases hg : goY v u y p
  · rw [fiR_in hp hg, if_neg (gMk_ne0 (by omega) (show p < 6 by omega) (fmO_self _ p)), gMk_all (by omega), gMk_and (by omega), decide_eq_true hp]
    have e : (gMk 6 (fun k => fmO (tiY v u y) p k && decide (k < p)) = 0) = (anyU p (fun k => fmO (tiY v u y) p k) = false) := by
      rw [gMk_eq0 (by omega)]
      refine propext ⟨fun g => ?_, fun g k hk => ?_⟩
      · cases hc : anyU p (fun k => fmO (tiY v u y) p k)
        · rfl
        · obtain ⟨k, h1, h2⟩ := anyU_iff.mp hc
          have := g k (by omega)
          rw [h2, decide_eq_true h1] at this; cases this
      · by_cases e : k < p
        · cases hc : fmO (tiY v u y) p k
          · rfl
          · have := anyU_iff.mpr ⟨k, e, hc⟩
            rw [this] at g; cases g
        · rw [decide_eq_false e, Bool.and_false]
    simp only [e]
    cases anyU p (fun k => fmO (tiY v u y) p k) <;> simp [bI]
  · rw [fiR_no hg, if_pos rfl]
    simp [bI]
theorem C_firmCount {M : gMem} {t : Nat} {v : gCt} {u : gSp} {n y : Nat} (hv : gWF v) (hr : RT M t v) (hL : LVd M v u n) (hy : y < n) (hn : n ≤ 12) : fX2_firmCount t (nI y) M = some (nI (cnU (v 0 4) (hdO (v 0 4) (tiY v u y) (goY v u y)))) := by
  have hv0 := hv.1
  have hnp := hr.1.2.2.2.2.2.1
  unfold fX2_firmCount fX2_firmCount_0 fX2_firmCount_5h
  refine gLp_for (fun i => (nI (cnU i (hdO (v 0 4) (tiY v u y) (goY v u y))), nI i)) (v 0 4) _ (by omega) (fun i hi => ?_) ?_ _ rfl
  · show fX2_firmCount_5 t (nI y) (nI (cnU i _)) (nI i) M = _
    unfold fX2_firmCount_5
    rw [hnp, if_neg (nI_ge hi (by omega)), F_isFirst (by omega) (by omega) ((hL.1 y hy).2.2.2.2.2 i (by omega)), gB0_some, ite_bI, nI_1, nI_1]
    show _ = some (Sum.inl (nI (cnU (i + 1) _), nI (i + 1)))
    rw [cnU_s]
    cases hdO (v 0 4) (tiY v u y) (goY v u y) i <;> rfl
  · show fX2_firmCount_5 t (nI y) _ (nI (v 0 4)) M = _
    unfold fX2_firmCount_5
    rw [hnp, if_pos (Int32.le_refl _)]
    rfl
theorem M_firmsAt {M : gMem} {v : gCt} {u : gSp} {n y : Nat} (hv : gWF v) (ha : RA M v) (hm : MV M v u n) (hy : y < n) (hn : n ≤ 12) : fX9_firmsAt (nI y) M = some (nI (cnU (v 0 4) (hdO (v 0 4) (tiY v u y) (goY v u y)))) := by
  have hv0 := hv.1
  unfold fX9_firmsAt fX9_firmsAt_0 fX9_firmsAt_4h
  refine gLp_for (fun i => (nI (cnU i (hdO (v 0 4) (tiY v u y) (goY v u y))), nI i)) (v 0 4) _ (by omega) (fun i hi => ?_) ?_ _ rfl
  · show fX9_firmsAt_4 (nI y) (nI (cnU i _)) (nI i) M = _
    unfold fX9_firmsAt_4
    rw [F_people ha, gB0_some, if_neg (nI_ge hi (by omega)), M_isHead hv ha hm hy hn hi, gB0_some, ite_bI, nI_1, nI_1, Int32.add_zero]
    show _ = some (Sum.inl (nI (cnU (i + 1) _), nI (i + 1)))
    rw [cnU_s]
    cases hdO (v 0 4) (tiY v u y) (goY v u y) i <;> rfl
  · show fX9_firmsAt_4 (nI y) _ (nI (v 0 4)) M = _
    unfold fX9_firmsAt_4
    rw [F_people ha, gB0_some, if_pos (Int32.le_refl _)]
    rfl
theorem Q_firms {t : Nat} {v : gCt} (y : Int32) : SQ t v (fX8_firms y) (fX9_firms y) := by
  refine SQ_y (fun M => rfl) (fun M => rfl) (fun z hz hx => ?_)
  subst hx
  refine ⟨nI (cnU (v 0 4) (hdO (v 0 4) (tiY v u0 z) (goY v u0 z))), fun N hN hL => ⟨N, ?_, KP.rf⟩, fun N hN hS hV _ => ⟨N, ?_, KP.rf⟩⟩
  · dsimp only
    rw [if_pos (gob_T hN), hN.1.1, C_firmCount hN.2.1 hN.2.2.1 hL hz hN.2.1.1.1]
    rfl
  · dsimp only
    rw [M_firmsAt hN.2.1 hN.2.2.2.1 hV hz hN.2.1.1.1]
    rfl
/-! the richest: the first of several whose firm has most -/
def riO (ok : Nat → Bool) (w : Nat → Int32) : Nat → Option Nat
  | 0 => none
  | n + 1 => if ok n = true then (match riO ok w n with
    | some b => if w n ≤ w b then some b else some n
    | none => some n) else riO ok w n
theorem riO_lt {ok : Nat → Bool} {w : Nat → Int32} {n b : Nat} (h : riO ok w n = some b) : b < n ∧ ok b = true := by
  induction n with
  | zero => cases h
  | succ n ih =>
    rw [riO] at h
    by_cases c : ok n = true
    · rw [if_pos c] at h
      cases hr : riO ok w n with
      | none =>
        rw [hr] at h
        cases h
        exact ⟨by omega, c⟩
      | some k =>
        rw [hr] at h
        have h : (if w n ≤ w k then some k else some n) = some b := h
        split at h
        · cases h
          have := ih hr
          exact ⟨by omega, this.2⟩
        · cases h
          exact ⟨by omega, c⟩
    · rw [if_neg c] at h
      have := ih h
      exact ⟨by omega, this.2⟩
theorem Q_richest {t : Nat} {v : gCt} (y : Int32) : SQ t v (fX8_richest y) (fX9_richest y) := by
  refine SQ_y (fun M => rfl) (fun M => rfl) (fun z hz hx => ?_)
  subst hx
  refine ⟨oV (riO (fun p => !goY v u0 z p) (fun p => smI 6 (fmO (tiY v u0 z) p) (woY v u0 z)) (v 0 4)), fun N hN hL => ?_, fun N hN hS hV _ => ⟨N, ?_, KP.rf⟩⟩
  · have hv0 := hN.2.1.1
    obtain ⟨-, -, -, -, -, hY⟩ := hL.1 z hz
    generalize hok : (fun p => !goY v u0 z p) = ok
    generalize hw : (fun p => smI 6 (fmO (tiY v u0 z) p) (woY v u0 z)) = w
    have hok' : ∀ p, ok p = !goY v u0 z p := fun p => by rw [← hok]
    have hw' : ∀ p, w p = smI 6 (fmO (tiY v u0 z) p) (woY v u0 z) := fun p => by rw [← hw]
    have key : ∃ r, fX8_richest_25h (nI z) (-1) 0 0 N = some r ∧ r = (oV (riO ok w (v 0 4)), N) := by
      unfold fX8_richest_25h
      refine gLp_inv (fun i (s : Int32 × Int32 × Int32) => s.1 = oV (riO ok w i) ∧ (∀ b, riO ok w i = some b → s.2.1 = w b) ∧ s.2.2 = nI i) (v 0 4) (fun r => r = (oV (riO ok w (v 0 4)), N)) (by omega) (fun i s hi hI => ?_) (fun s hI => ?_) _ ⟨rfl, fun b hb => (by cases hb), rfl⟩
      · obtain ⟨x2, x3, x4⟩ := s
        obtain ⟨h1, h2, h3⟩ := hI
        have h1 : x2 = oV (riO ok w i) := h1
        have h2 : ∀ b, riO ok w i = some b → x3 = w b := h2
        have h3 : x4 = nI i := h3
        subst h1; subst h3
        refine Or.inl ?_
        show ∃ s', fX8_richest_25 (nI z) (oV (riO ok w i)) x3 (nI i) N = _ ∧ _
        unfold fX8_richest_25 fX8_richest_79
        rw [if_pos (gob_T hN), tn_np hN, if_neg (nI_ge hi (by omega)), ix48 (by omega), if_pos rfl, nI_clamp (by omega), ra48, ixF (by omega) (by omega), if_pos rfl, nI_clamp (by omega), hY i (by omega), nI_1]
        have ho := hok' i
        cases hg : goY v u0 z i
        · rw [hg] at ho
          rw [fiR_in hi hg, C_worthOf hL hz hN.2.1.1.1 (fmY_lt hN.2.1 hi), gB0_some, if_neg (gMk_ne0 (by omega) (show i < 6 by omega) (fmO_self _ i)), ← hw' i]
          cases hr : riO ok w i with
          | none =>
            rw [show oV none = (-1 : Int32) from rfl, if_pos rfl]
            refine ⟨_, rfl, ?_, fun b hb => ?_, rfl⟩
            · show nI i = oV (riO ok w (i + 1))
              rw [riO, ho, hr]; rfl
            · have : riO ok w (i + 1) = some i := by rw [riO, ho, hr]; rfl
              rw [this] at hb; cases hb; rfl
          | some b =>
            have hb6 := (riO_lt hr).1
            have hne : ¬ oV (some b) = -1 := ne_m1 b (by omega)
            have hx3 : x3 = w b := h2 b hr
            rw [if_neg hne, hx3]
            have st : riO ok w (i + 1) = if w i ≤ w b then some b else some i := by rw [riO, ho, hr]; rfl
            by_cases c : w i ≤ w b
            · rw [if_pos c] at st ⊢
              exact ⟨_, rfl, by rw [st], fun b' hb' => by rw [st] at hb'; cases hb'; rfl, rfl⟩
            · rw [if_neg c] at st ⊢
              exact ⟨_, rfl, by rw [st]; rfl, fun b' hb' => by rw [st] at hb'; cases hb'; rfl, rfl⟩
        · rw [hg] at ho
          have st : riO ok w (i + 1) = riO ok w i := by rw [riO, ho]; rfl
          have hz0 : fX2_worthOf 0 (nI z) N = some (smI 6 (fun _ => false) (woY v u0 z)) := by
            have := C_worthOf (f := fun _ => false) hL hz hN.2.1.1.1 (fun q _ h => by cases h)
            rwa [← gMk_0 (by omega)] at this
          rw [fiR_no hg, hz0, gB0_some, if_pos rfl]
          exact ⟨_, rfl, by rw [st], fun b hb => h2 b (by rw [← st]; exact hb), rfl⟩
      · obtain ⟨x2, x3, x4⟩ := s
        obtain ⟨h1, h2, h3⟩ := hI
        have h1 : x2 = oV (riO ok w (v 0 4)) := h1
        have h3 : x4 = nI (v 0 4) := h3
        subst h1; subst h3
        show ∃ r, fX8_richest_25 (nI z) (oV (riO ok w (v 0 4))) x3 (nI (v 0 4)) N = _ ∧ _
        unfold fX8_richest_25
        rw [if_pos (gob_T hN), tn_np hN, if_pos (Int32.le_refl _)]
        exact ⟨_, rfl, rfl⟩
    obtain ⟨r, k1, k2⟩ := key
    exact ⟨N, by rw [k1, k2], KP.rf⟩
  · have hv0 := hN.2.1.1
    generalize hok : (fun p => !goY v u0 z p) = ok
    generalize hw : (fun p => smI 6 (fmO (tiY v u0 z) p) (woY v u0 z)) = w
    have hok' : ∀ p, ok p = !goY v u0 z p := fun p => by rw [← hok]
    have hw' : ∀ p, w p = smI 6 (fmO (tiY v u0 z) p) (woY v u0 z) := fun p => by rw [← hw]
    have fund : ∀ p, p < v 0 4 → goY v u0 z p = false → gB0 (fX9_firmOf (nI p) (nI z) N) (fun r5 => fX9_fundsOf r5 (nI z) N) = some (w p) := fun p hp hg => by
      rw [M_firmOf hN.2.1 hN.2.2.2.1 hV hz hN.2.1.1.1 hp, gB0_some, fiR_in hp hg, F_funds0 hN.2.1 hN.2.2.2.1 hV hz hN.2.1.1.1 (fmY_lt hN.2.1 hp), hw' p]
    unfold fX9_richest_24h
    refine gLp_for (fun i => (oV (riO ok w i), nI i)) (v 0 4) _ (by omega) (fun i hi => ?_) ?_ _ rfl
    · show fX9_richest_24 (nI z) (oV (riO ok w i)) (nI i) N = some (Sum.inl (oV (riO ok w (i + 1)), nI (i + 1)))
      unfold fX9_richest_24
      rw [F_people hN.2.2.2.1, gB0_some, if_neg (nI_ge hi (by omega)), F_out (hV.ot hz hN.2.1.1.1) (by omega) (by omega) hi, gB0_some, ite_bI, nI_1, riO]
      have ho := hok' i
      cases hg : goY v u0 z i
      · rw [hg] at ho
        rw [ho]
        simp only [Bool.false_eq_true, if_false, Bool.not_false, if_true]
        cases hr : riO ok w i with
        | none => rw [show oV none = (-1 : Int32) from rfl, if_pos rfl]; rfl
        | some b =>
          obtain ⟨hb6, hbo⟩ := riO_lt hr
          have hgb : goY v u0 z b = false := by rw [hok' b] at hbo; simpa using hbo
          have f1 := fund i hi hg
          have f2 := fund b (by omega) hgb
          rw [M_firmOf hN.2.1 hN.2.2.2.1 hV hz hN.2.1.1.1 hi, gB0_some] at f1
          rw [M_firmOf hN.2.1 hN.2.2.2.1 hV hz hN.2.1.1.1 (show b < v 0 4 by omega), gB0_some] at f2
          rw [if_neg (show ¬ oV (some b) = -1 from ne_m1 b (by omega)), M_firmOf hN.2.1 hN.2.2.2.1 hV hz hN.2.1.1.1 hi, gB0_some, f1, gB0_some, show oV (some b) = nI b from rfl, M_firmOf hN.2.1 hN.2.2.2.1 hV hz hN.2.1.1.1 (show b < v 0 4 by omega), gB0_some, f2, gB0_some]
          by_cases c : w i ≤ w b
          · rw [if_pos c]
            show _ = some (Sum.inl (oV (if w i ≤ w b then some b else some i), nI (i + 1)))
            rw [if_pos c]; rfl
          · rw [if_neg c]
            show _ = some (Sum.inl (oV (if w i ≤ w b then some b else some i), nI (i + 1)))
            rw [if_neg c]; rfl
      · rw [hg] at ho
        rw [ho]; rfl
    · show fX9_richest_24 (nI z) _ (nI (v 0 4)) N = _
      unfold fX9_richest_24
      rw [F_people hN.2.2.2.1, gB0_some, if_pos (Int32.le_refl _)]
      rfl
