/-! Sets of partners at a door. -/
theorem nI_tb6 : ∀ s, s < 64 → nI s = gMk 6 (fun k => s.testBit k) := by decide +kernel
theorem nI_tb7 : ∀ s, s < 128 → nI s = gMk 7 (fun k => s.testBit k) := by decide +kernel
theorem sh_pow : ∀ n, n ≤ 7 → (1 : Int32) <<< (nI n &&& 31) = nI (2 ^ n) := by decide +kernel
theorem pow_le {n : Nat} (h : n ≤ 6) : 2 ^ n ≤ 64 := Nat.pow_le_pow_right (by omega) (show n ≤ 6 from h)
theorem pow_le7 {n : Nat} (h : n ≤ 7) : 2 ^ n ≤ 128 := Nat.pow_le_pow_right (by omega) (show n ≤ 7 from h)
def thD (v : gCt) (s d : Nat) : Bool := decide (s = 0) || decide (wdO v (v 0 1) (fun k => s.testBit k) (cnU 6 (fun k => s.testBit k) - 1) ≤ nI (v 7 d))
def toW (v : gCt) (s : Nat) : Nat := suU (v 0 4) (fun k => s.testBit k) (v 2)
def swO (v : gCt) (s d : Nat) : Nat := if thD v s d = true then toW v s else 0
theorem toW_le {v : gCt} (hv : gWF v) (s : Nat) : toW v s ≤ 594 := by
  have hv0 := hv.1
  have := suU_le (n := v 0 4) (k := 99) (f := fun k => s.testBit k) (w := v 2) (fun p hp => (hv.2.1 p hp).2.2.1)
  unfold toW
  omega
theorem swO_le {v : gCt} (hv : gWF v) (s d : Nat) : swO v s d ≤ 594 := by
  have := toW_le hv s
  unfold swO
  split <;> omega
theorem toW_0 (v : gCt) : toW v 0 = 0 := by
  unfold toW
  have : (fun k => Nat.testBit 0 k) = fun _ => false := by funext k; exact Nat.zero_testBit k
  rw [this, suU_0]
theorem cn_pos {s : Nat} (h0 : s ≠ 0) (hs : s < 64) : 1 ≤ cnU 6 (fun k => s.testBit k) := by
  have key : ∀ s, s < 64 → s ≠ 0 → 1 ≤ cnU 6 (fun k => s.testBit k) := by decide +kernel
  exact key s hs h0
theorem C_fits {M : gMem} {t : Nat} {v : gCt} (ht : gTn t) (hv : gWF v) (hr : RT M t v) {s d : Nat} (hs : s < 64) (hd : d < v 0 6) : fX1_fits t (nI s) (nI d) M = some (bI (thD v s d)) := by
  have hv0 := hv.1
  unfold fX1_fits fX1_fits_0 thD
  simp only [nI_n0 s (by omega)]
  by_cases c : s = 0
  · rw [if_pos c, decide_eq_true c]; rfl
  · have h1 := cn_pos c hs
    have h6 : cnU 6 (fun k => s.testBit k) ≤ 6 := cnU_le 6 _
    rw [if_neg c, decide_eq_false c, Bool.false_or, nI_tb6 s hs, F_bc, gB0_some, gPop_6, hr.1.2.2.1, show (1 : Int32) = nI 1 from rfl, pk_sub h1, F_widthOf ht hv hr hv0.2.1, gB0_some, ix7 ht (by omega), if_pos rfl, nI_clamp (by omega), hr.2.2.2.1 d hd]
    by_cases e : nI (v 7 d) < wdO v (v 0 1) (fun k => s.testBit k) (cnU 6 (fun k => s.testBit k) - 1)
    · rw [if_pos e, decide_eq_false (Int32.not_le.mpr e)]; rfl
    · rw [if_neg e, decide_eq_true (Int32.not_lt.mp e)]; rfl
theorem C_toldWorth {M : gMem} {t : Nat} {v : gCt} (ht : gTn t) (hv : gWF v) (hr : RT M t v) {s : Nat} (hs : s < 64) : fX7_toldWorth t (nI s) M = some (nI (toW v s)) := by
  have hv0 := hv.1
  have hnp := hr.1.2.2.2.2.2.1
  unfold fX7_toldWorth fX7_toldWorth_0 fX7_toldWorth_4h toW
  refine gLp_for (fun i => (nI (suU i (fun k => s.testBit k) (v 2)), nI i)) (v 0 4) _ (by omega) (fun i hi => ?_) ?_ _ rfl
  · show fX7_toldWorth_4 t (nI s) (nI (suU i _ (v 2))) (nI i) M = some (Sum.inl (nI (suU (i + 1) _ (v 2)), nI (i + 1)))
    unfold fX7_toldWorth_4
    rw [hnp, if_neg (nI_ge hi (by omega)), nI_tb6 s hs, F_has _ (by omega), bt_gMk (by omega), decide_eq_true (show i < 6 by omega), Bool.true_and, gB0_some, ite_bI, ix2 ht (by omega), if_pos rfl, nI_clamp (by omega), (hr.2.1 i hi).2.1, nI_add, nI_1, suU_s]
    cases s.testBit i <;> rfl
  · show fX7_toldWorth_4 t (nI s) _ (nI (v 0 4)) M = _
    unfold fX7_toldWorth_4
    rw [hnp, if_pos (Int32.le_refl _)]
    rfl
theorem C_setWorth {M : gMem} {t : Nat} {v : gCt} (ht : gTn t) (hv : gWF v) (hr : RT M t v) {s d : Nat} (hs : s < 64) (hd : d < v 0 6) : fX1_setWorth t (nI s) (nI d) M = some (nI (swO v s d)) := by
  unfold fX1_setWorth fX1_setWorth_0 swO
  rw [C_fits ht hv hr hs hd, gB0_some, ite_bI, C_toldWorth ht hv hr hs, gB0_some]
  cases thD v s d <;> rfl
theorem M_isThrough {M : gMem} {v : gCt} (hv : gWF v) (ha : RA M v) (hL : M.1 141 24 = nI (v 0 1)) {s d : Nat} (hs : s < 64) (hd : d < v 0 6) : fX9_isThrough (nI s) (nI d) M = some (bI (thD v s d)) := by
  have hv0 := hv.1
  unfold fX9_isThrough fX9_isThrough_0 fX9_isThrough_16 thD
  simp only [nI_n0 s (by omega)]
  by_cases c : s = 0
  · subst c
    have z : gMk 6 (fun _ => false) = 0 := (gMk_0 (by omega)).symm
    have e := M_wideOf hv ha hv0.2.1 (m := 0) (by omega) hL (f := fun _ => false)
    rw [if_pos z, suU_0, z] at e
    have e : fX9_wideOf (nI 0) (0 : Int32) M = some (nI 0) := e
    rw [if_pos rfl, e, gB0_some, ix151 (by omega), if_pos rfl, nI_clamp (by omega), ha.2.2.2.1 d hd, if_neg (nI_nlt (by omega) (by have := (hv.2.2.2.1 d hd).2; omega))]
    simp [bI]
  · have h1 := cn_pos c hs
    have h6 : cnU 6 (fun k => s.testBit k) ≤ 6 := cnU_le 6 _
    have hne : ¬ gMk 6 (fun k => s.testBit k) = 0 := by
      rw [← nI_tb6 s hs]
      exact nI_ne0 (by omega) (by omega)
    rw [if_neg c, decide_eq_false c, Bool.false_or, nI_tb6 s hs, F_size6, gB0_some, show (1 : Int32) = nI 1 from rfl, pk_sub h1, M_wideOf hv ha hv0.2.1 (by omega) hL, gB0_some, if_neg hne, ix151 (by omega), if_pos rfl, nI_clamp (by omega), ha.2.2.2.1 d hd]
    by_cases e : nI (v 7 d) < wdO v (v 0 1) (fun k => s.testBit k) (cnU 6 (fun k => s.testBit k) - 1)
    · rw [if_pos e, decide_eq_false (Int32.not_le.mpr e)]; rfl
    · rw [if_neg e, decide_eq_true (Int32.not_lt.mp e)]; rfl
theorem M_worthOf {M : gMem} {v : gCt} (hv : gWF v) (ha : RA M v) {s : Nat} (hs : s < 64) : fX9_worthOf (nI s) M = some (nI (toW v s)) := by
  have hv0 := hv.1
  unfold fX9_worthOf fX9_worthOf_0 fX9_worthOf_4h toW
  refine gLp_for (fun i => (nI (suU i (fun k => s.testBit k) (v 2)), nI i)) (v 0 4) _ (by omega) (fun i hi => ?_) ?_ _ rfl
  · show fX9_worthOf_4 (nI s) (nI (suU i _ (v 2))) (nI i) M = some (Sum.inl (nI (suU (i + 1) _ (v 2)), nI (i + 1)))
    unfold fX9_worthOf_4
    rw [F_people ha, gB0_some, if_neg (nI_ge hi (by omega)), nI_tb6 s hs, F_isBit _ (by omega), bt_gMk (by omega), decide_eq_true (show i < 6 by omega), Bool.true_and, gB0_some, ite_bI, li3, pk_mul, nI_1, ix149 (by omega), if_pos rfl, nI_clamp (by omega), (ha.2.1 i hi).2.1, nI_add, nI_1, suU_s, Int32.add_zero]
    cases s.testBit i <;> rfl
  · show fX9_worthOf_4 (nI s) _ (nI (v 0 4)) M = _
    unfold fX9_worthOf_4
    rw [F_people ha, gB0_some, if_pos (Int32.le_refl _)]
    rfl
theorem M_valueOf {M : gMem} {v : gCt} (hv : gWF v) (ha : RA M v) (hL : M.1 141 24 = nI (v 0 1)) {s d : Nat} (hs : s < 64) (hd : d < v 0 6) : fX9_valueOf (nI s) (nI d) M = some (nI (swO v s d)) := by
  unfold fX9_valueOf fX9_valueOf_0 swO
  rw [M_isThrough hv ha hL hs hd, gB0_some, ite_bI, M_worthOf hv ha hs, gB0_some]
  cases thD v s d <;> rfl
def bsO (v : gCt) (d : Nat) : Nat → Nat
  | 0 => 0
  | s + 1 => if swO v (bsO v d s) d < swO v s d then s else bsO v d s
theorem bsO_lt (v : gCt) (d : Nat) : ∀ n, bsO v d n = 0 ∨ bsO v d n < n := by
  intro n
  induction n with
  | zero => exact Or.inl rfl
  | succ n ih =>
    rw [bsO]
    split
    · exact Or.inr (by omega)
    · rcases ih with h | h
      · exact Or.inl h
      · exact Or.inr (by omega)
theorem bsO_th (v : gCt) (d : Nat) : ∀ n, thD v (bsO v d n) d = true := by
  intro n
  induction n with
  | zero => rfl
  | succ n ih =>
    rw [bsO]
    split
    · next h =>
      unfold swO at h
      cases hc : thD v n d
      · rw [hc] at h; simp at h
      · rfl
    · exact ih
theorem C_bestSet {M : gMem} {t : Nat} {v : gCt} (ht : gTn t) (hv : gWF v) (hr : RT M t v) {d : Nat} (hd : d < v 0 6) : fX1_bestSet t (nI d) M = some (nI (bsO v d (2 ^ v 0 4))) := by
  have hv0 := hv.1
  have hp := pow_le hv0.2.2.2.2.1
  have hnp := hr.1.2.2.2.2.2.1
  unfold fX1_bestSet fX1_bestSet_0 fX1_bestSet_7h
  refine gLp_for (fun i => (nI (bsO v d i), nI (swO v (bsO v d i) d), nI i)) (2 ^ v 0 4) _ (by omega) (fun i hi => ?_) ?_ _ ?_
  · show fX1_bestSet_7 t (nI d) (nI (bsO v d i)) (nI (swO v (bsO v d i) d)) (nI i) M = some (Sum.inl (nI (bsO v d (i + 1)), nI (swO v (bsO v d (i + 1)) d), nI (i + 1)))
    have b1 := swO_le hv i d
    have b2 := swO_le hv (bsO v d i) d
    unfold fX1_bestSet_7
    rw [hnp, sh_pow _ (by omega), if_neg (nI_ge hi (by omega)), C_setWorth ht hv hr (show i < 64 by omega) hd, gB0_some, nI_1, bsO]
    by_cases c : swO v (bsO v d i) d < swO v i d
    · rw [if_neg (nI_ge c (by omega)), if_pos c]
    · rw [if_pos (nI_le (by omega) (by omega)), if_neg c]
  · show fX1_bestSet_7 t (nI d) _ _ (nI (2 ^ v 0 4)) M = _
    unfold fX1_bestSet_7
    rw [hnp, sh_pow _ (by omega), if_pos (Int32.le_refl _)]
    rfl
  · show ((0 : Int32), (0 : Int32), (0 : Int32)) = (nI 0, nI (swO v 0 d), nI 0)
    have : swO v 0 d = 0 := by unfold swO; rw [toW_0]; simp
    rw [this]; rfl
theorem M_bestSet {M : gMem} {t : Nat} {v : gCt} (h : CT M t v) {d : Nat} (hd : d < v 0 6) : ∃ N, fX9_bestSet (nI d) M = some (nI (bsO v d (2 ^ v 0 4)), N) ∧ CT N t v ∧ KP M N := by
  obtain ⟨N, n1, n2, n3, n4, n5, n6⟩ := F_lays h
  have hv := n4.2.1
  have ha := n4.2.2.2.1
  have hv0 := hv.1
  have hp := pow_le hv0.2.2.2.2.1
  have hp1 : 1 ≤ 2 ^ v 0 4 := Nat.one_le_two_pow
  refine ⟨N, ?_, n4, n5⟩
  unfold fX9_bestSet fX9_bestSet_0
  rw [n1, gB0_some]
  unfold fX9_bestSet_8h
  have hb1 : bsO v d 1 = 0 := by
    rw [bsO]
    split <;> rfl
  refine gLp_for (fun i => (nI (bsO v d (i + 1)), nI (i + 1))) (2 ^ v 0 4 - 1) _ (by omega) (fun i hi => ?_) ?_ _ (by rw [hb1]; rfl)
  · show fX9_bestSet_8 (nI d) (nI (bsO v d (i + 1))) (nI (i + 1)) N = some (Sum.inl (nI (bsO v d (i + 1 + 1)), nI (i + 1 + 1)))
    have b1 := toW_le hv (i + 1)
    have b2 := toW_le hv (bsO v d (i + 1))
    have b3 : bsO v d (i + 1) < 64 := by rcases bsO_lt v d (i + 1) with e | e <;> omega
    have e2 : swO v (bsO v d (i + 1)) d = toW v (bsO v d (i + 1)) := by unfold swO; rw [if_pos (bsO_th v d _)]
    unfold fX9_bestSet_8
    rw [F_people ha, gB0_some, sh_pow _ (by omega), if_neg (nI_ge (by omega) (by omega)), M_isThrough hv ha n3 (show i + 1 < 64 by omega) hd, gB0_some, ite_bI, M_worthOf hv ha (show i + 1 < 64 by omega), gB0_some, M_worthOf hv ha b3, gB0_some, nI_1]
    rw [show bsO v d (i + 1 + 1) = if swO v (bsO v d (i + 1)) d < swO v (i + 1) d then i + 1 else bsO v d (i + 1) from rfl, e2]
    unfold swO
    cases hc : thD v (i + 1) d
    · simp
    · simp only [if_true]
      by_cases c : toW v (bsO v d (i + 1)) < toW v (i + 1)
      · rw [if_neg (nI_ge c (by omega)), if_pos c]
      · rw [if_pos (nI_le (by omega) (by omega)), if_neg c]
  · show fX9_bestSet_8 (nI d) (nI (bsO v d (2 ^ v 0 4 - 1 + 1))) (nI (2 ^ v 0 4 - 1 + 1)) N = _
    rw [show 2 ^ v 0 4 - 1 + 1 = 2 ^ v 0 4 by omega]
    unfold fX9_bestSet_8
    rw [F_people ha, gB0_some, sh_pow _ (by omega), if_pos (Int32.le_refl _)]
    rfl
theorem SP_g {t : Nat} {v : gCt} {f : gMem → Option Int32} {g : gFq} {b : Bool} {e : Int32} {F : gMem → Option Int32} {G : gFq} (hf : ∀ M, CT M t v → f M = if b = true then F M else some e) (hg : ∀ M, CT M t v → g M = if b = true then G (gSI M 141 0 0) else some (e, gSI M 141 0 0)) (h : b = true → ∃ r, (∀ M, CT M t v → F M = some r) ∧ ∀ M, CT M t v → ∃ K, G M = some (r, K) ∧ KP M K) : SP t v f g := by
  cases hb : b
  · refine ⟨e, fun M hM => ?_, fun M hM => ⟨_, ?_, kp0 M⟩⟩
    · rw [hf M hM, hb]; rfl
    · rw [hg M hM, hb]; rfl
  · obtain ⟨r, h1, h2⟩ := h hb
    refine ⟨r, fun M hM => ?_, fun M hM => ?_⟩
    · rw [hf M hM, hb]; exact h1 M hM
    · obtain ⟨K, k1, k2⟩ := h2 _ (hM.kp (kp0 M))
      exact ⟨K, by rw [hg M hM, hb]; exact k1, (kp0 M).tr k2⟩
theorem Q_bests {t : Nat} {v : gCt} (d : Int32) : SP t v (fX8_bests d) (fX9_bests d) := by
  refine SP_g (b := inR d (v 0 6)) (e := -2) (F := fun M => fX1_bestSet t d M) (G := fun M => gBp (fX9_bestSet d M) (fun r3 M4 => some (r3, M4))) (fun M hM => ?_) (fun M hM => ?_) (fun hb => ?_)
  · unfold fX8_bests fX8_bests_0
    rw [if_pos (gob_T hM), hM.1.1, F_hasDoor hM.2.1 hM.2.2.1, gB0_some, ite_bI, if_pos hM.1.2]
    cases fX1_bestSet t d M <;> rfl
  · have hN := hM.kp (kp0 M)
    unfold fX9_bests fX9_bests_0 fX9_bests_8
    rw [M_isDoor hN.2.1 hN.2.2.2.1, gB0_some, ite_bI, inL_inR]
  · obtain ⟨k, hk, rfl⟩ := inR_k hb
    refine ⟨nI (bsO v k (2 ^ v 0 4)), fun M hM => C_bestSet (gTn_of hM.1.2) hM.2.1 hM.2.2.1 hk, fun M hM => ?_⟩
    obtain ⟨N, n1, n2, n3⟩ := M_bestSet hM hk
    exact ⟨N, by rw [n1]; rfl, n3⟩
theorem Q_best {t : Nat} {v : gCt} (d : Int32) : SP t v (fX8_best d) (fX9_best d) := by
  refine SP_g (b := inR d (v 0 6)) (e := -2) (F := fun M => gB0 (fX1_bestSet t d M) (fun r6 => fX7_toldWorth t r6 M)) (G := fun M => gBp (fX9_bestSet d M) (fun r3 M4 => gB0 (fX9_worthOf r3 M4) (fun r6 => some (r6, M4)))) (fun M hM => ?_) (fun M hM => ?_) (fun hb => ?_)
  · unfold fX8_best fX8_best_0
    rw [if_pos (gob_T hM), hM.1.1, F_hasDoor hM.2.1 hM.2.2.1, gB0_some, ite_bI, if_pos hM.1.2, if_pos hM.1.2]
    cases fX1_bestSet t d M with
    | none => rfl
    | some r => rw [gB0_some, gB0_some]; cases fX7_toldWorth t r M <;> rfl
  · have hN := hM.kp (kp0 M)
    unfold fX9_best fX9_best_0 fX9_best_8
    rw [M_isDoor hN.2.1 hN.2.2.2.1, gB0_some, ite_bI, inL_inR]
  · obtain ⟨k, hk, rfl⟩ := inR_k hb
    have b3 : ∀ M, CT M t v → bsO v k (2 ^ v 0 4) < 64 := fun M hM => by
      have := pow_le hM.2.1.1.2.2.2.2.1
      rcases bsO_lt v k (2 ^ v 0 4) with e | e <;> omega
    refine ⟨nI (toW v (bsO v k (2 ^ v 0 4))), fun M hM => ?_, fun M hM => ?_⟩
    · show gB0 (fX1_bestSet t (nI k) M) _ = _
      rw [C_bestSet (gTn_of hM.1.2) hM.2.1 hM.2.2.1 hk, gB0_some, C_toldWorth (gTn_of hM.1.2) hM.2.1 hM.2.2.1 (b3 M hM)]
    · obtain ⟨N, n1, n2, n3⟩ := M_bestSet hM hk
      refine ⟨N, ?_, n3⟩
      show gBp (fX9_bestSet (nI k) M) _ = _
      rw [n1, gBp_some, M_worthOf n2.2.1 n2.2.2.2.1 (b3 M hM)]
      rfl
