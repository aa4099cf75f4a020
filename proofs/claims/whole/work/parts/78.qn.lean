/-! what was told -/
theorem Q_door {t : Nat} {v : gCt} (d : Int32) : SP t v (fX8_door d) (fX9_door d) := by
  refine SP_g (b := inR d (v 0 6)) (e := -2) (F := fun M => if gIx 1 (t + 7) d = true then some (M.1 (t + 7) (Int32.toNatClampNeg d)) else none) (G := fun M => if gIx 1 151 d = true then some ((M.1 151 (Int32.toNatClampNeg d)), M) else none) (fun M hM => ?_) (fun M hM => ?_) (fun hb => ?_)
  · unfold fX8_door fX8_door_0
    rw [if_pos (gob_T hM), hM.1.1, F_hasDoor hM.2.1 hM.2.2.1, gB0_some, ite_bI, if_pos hM.1.2]
  · have hN := hM.kp (kp0 M)
    unfold fX9_door fX9_door_0 fX9_door_8
    rw [M_isDoor hN.2.1 hN.2.2.2.1, gB0_some, ite_bI, inL_inR]
  · obtain ⟨k, hk, rfl⟩ := inR_k hb
    refine ⟨nI (v 7 k), fun M hM => ?_, fun M hM => ⟨M, ?_, KP.rf⟩⟩
    · have hv0 := hM.2.1.1
      show (if gIx 1 (t + 7) (nI k) = true then _ else none) = _
      rw [if_pos (ix7 (gTn_of hM.1.2) (by omega)), nI_clamp (by omega), hM.2.2.1.2.2.2.1 k hk]
    · have hv0 := hM.2.1.1
      show (if gIx 1 151 (nI k) = true then _ else none) = _
      rw [if_pos (ix151 (by omega)), nI_clamp (by omega), hM.2.2.2.1.2.2.2.1 k hk]
theorem w012 (w : Int32) : (decide ((0 : Int) ≤ w.toInt) && decide (w.toInt ≤ 2)) = (decide (w = 0) || (decide (w = 1) || decide (w = 2))) := by
  have e0 : w = 0 ↔ w.toInt = 0 := ⟨fun h => by rw [h]; rfl, fun h => Int32.toInt_inj.mp (h.trans rfl)⟩
  have e1 : w = 1 ↔ w.toInt = 1 := ⟨fun h => by rw [h]; rfl, fun h => Int32.toInt_inj.mp (h.trans rfl)⟩
  have e2 : w = 2 ↔ w.toInt = 2 := ⟨fun h => by rw [h]; rfl, fun h => Int32.toInt_inj.mp (h.trans rfl)⟩
  refine Bool.eq_iff_iff.mpr ?_
  simp only [Bool.and_eq_true, Bool.or_eq_true, decide_eq_true_eq, e0, e1, e2]
  omega
theorem w_k {w : Int32} (h : (decide (w = 0) || (decide (w = 1) || decide (w = 2))) = true) : w = 0 ∨ w = 1 ∨ w = 2 := by
  rw [Bool.or_eq_true, Bool.or_eq_true, decide_eq_true_eq, decide_eq_true_eq, decide_eq_true_eq] at h
  exact h
def pa3 (v : gCt) (k : Nat) (w : Int32) (o : Nat) : Int32 := if w = 0 then nI (v o k) else if w = 1 then nI (v (o + 1) k) else nI (v (o + 2) k)
theorem Q_partner {t : Nat} {v : gCt} (p w : Int32) : SP t v (fX8_partner p w) (fX9_partner p w) := by
  refine SP_g (b := inR p (v 0 4) && (decide (w = 0) || (decide (w = 1) || decide (w = 2)))) (e := -2) (F := fun M => fX8_partner p w M) (G := fun M => if gIx 1 149 (((3 : Int32) * p) + w) = true then some ((M.1 149 (Int32.toNatClampNeg (((3 : Int32) * p) + w))), M) else none) (fun M hM => ?_) (fun M hM => ?_) (fun hb => ?_)
  · by_cases c : (inR p (v 0 4) && (decide (w = 0) || (decide (w = 1) || decide (w = 2)))) = true
    · rw [if_pos c]
    · rw [if_neg c]
      unfold fX8_partner fX8_partner_0
      rw [if_pos (gob_T hM), hM.1.1, F_hasPartner hM.2.1 hM.2.2.1, gB0_some, ite_bI]
      cases hp : inR p (v 0 4)
      · rfl
      · rw [hp, Bool.true_and] at c
        have h0 : ¬ w = 0 := fun e => c (by rw [decide_eq_true e]; rfl)
        have h1 : ¬ w = 1 := fun e => c (by rw [decide_eq_true e, Bool.true_or, Bool.or_true])
        have h2 : ¬ w = 2 := fun e => c (by rw [decide_eq_true e, Bool.or_true, Bool.or_true])
        rw [if_pos rfl, if_neg h0, if_neg h1, if_neg h2]
  · have hN := hM.kp (kp0 M)
    unfold fX9_partner fX9_partner_0 fX9_partner_8
    rw [M_isPerson hN.2.1 hN.2.2.2.1, gB0_some, ite_bI, inL_inR, F_in, gB0_some, ite_bI, Int32.toInt_toInt64]
    show (if inR p (v 0 4) = true then (if (decide ((0 : Int) ≤ w.toInt) && decide (w.toInt ≤ 2)) = true then _ else _) else _) = _
    rw [w012]
    cases inR p (v 0 4) <;> cases (decide (w = 0) || (decide (w = 1) || decide (w = 2))) <;> rfl
  · rw [Bool.and_eq_true] at hb
    obtain ⟨k, hk, rfl⟩ := inR_k hb.1
    have hw := w_k hb.2
    refine ⟨pa3 v k w 1, fun M hM => ?_, fun M hM => ⟨M, ?_, KP.rf⟩⟩
    · have hv0 := hM.2.1.1
      have ht := gTn_of hM.1.2
      have z := hM.2.2.1.2.1 k hk
      have hin := hb.1
      show fX8_partner (nI k) w M = _
      unfold fX8_partner fX8_partner_0 pa3
      rw [if_pos (gob_T hM), hM.1.1, F_hasPartner hM.2.1 hM.2.2.1, gB0_some, ite_bI, hin, if_pos rfl]
      rcases hw with rfl | rfl | rfl
      · rw [if_pos rfl, if_pos rfl, if_pos hM.1.2, if_pos (ix1 ht (by omega)), nI_clamp (by omega), z.1]
      · rw [if_neg (show ¬ (1 : Int32) = 0 by decide), if_neg (show ¬ (1 : Int32) = 0 by decide), if_pos rfl, if_pos rfl, if_pos hM.1.2, if_pos (ix2 ht (by omega)), nI_clamp (by omega), z.2.1]
      · rw [if_neg (show ¬ (2 : Int32) = 0 by decide), if_neg (show ¬ (2 : Int32) = 1 by decide), if_neg (show ¬ (2 : Int32) = 0 by decide), if_neg (show ¬ (2 : Int32) = 1 by decide), if_pos rfl, if_pos hM.1.2, if_pos (ix3 ht (by omega)), nI_clamp (by omega), z.2.2]
    · have hv0 := hM.2.1.1
      have z := hM.2.2.2.1.2.1 k hk
      have e : ∀ j, (3 : Int32) * nI k + nI j = nI (3 * k + j) := fun j => by rw [show (3 : Int32) = nI 3 from rfl, pk_mul, nI_add]
      show (if gIx 1 149 ((3 : Int32) * nI k + w) = true then some (M.1 149 (Int32.toNatClampNeg ((3 : Int32) * nI k + w)), M) else none) = _
      unfold pa3
      rcases hw with rfl | rfl | rfl
      · rw [show (3 : Int32) * nI k + 0 = nI (3 * k + 0) from e 0, if_pos (ix149 (by omega)), nI_clamp (by omega), if_pos rfl]
        exact congrArg (fun x => some (x, M)) z.1
      · rw [show (3 : Int32) * nI k + 1 = nI (3 * k + 1) from e 1, if_pos (ix149 (by omega)), nI_clamp (by omega), if_neg (by decide), if_pos rfl]
        exact congrArg (fun x => some (x, M)) z.2.1
      · rw [show (3 : Int32) * nI k + 2 = nI (3 * k + 2) from e 2, if_pos (ix149 (by omega)), nI_clamp (by omega), if_neg (by decide), if_neg (by decide)]
        exact congrArg (fun x => some (x, M)) z.2.2
