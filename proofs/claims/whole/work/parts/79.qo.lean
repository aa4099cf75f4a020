/-! joins that were told -/
theorem Q_join {t : Nat} {v : gCt} (p w : Int32) : SP t v (fX8_join p w) (fX9_join p w) := by
  refine SP_g (b := inR p (v 0 5) && (decide (w = 0) || (decide (w = 1) || decide (w = 2)))) (e := -2) (F := fun M => fX8_join p w M) (G := fun M => if gIx 1 150 (((3 : Int32) * p) + w) = true then some ((M.1 150 (Int32.toNatClampNeg (((3 : Int32) * p) + w))), M) else none) (fun M hM => ?_) (fun M hM => ?_) (fun hb => ?_)
  · by_cases c : (inR p (v 0 5) && (decide (w = 0) || (decide (w = 1) || decide (w = 2)))) = true
    · rw [if_pos c]
    · rw [if_neg c]
      unfold fX8_join fX8_join_0
      rw [if_pos (gob_T hM), hM.1.1, F_hasJoin hM.2.1 hM.2.2.1, gB0_some, ite_bI]
      cases hp : inR p (v 0 5)
      · rfl
      · rw [hp, Bool.true_and] at c
        have h0 : ¬ w = 0 := fun e => c (by rw [decide_eq_true e]; rfl)
        have h1 : ¬ w = 1 := fun e => c (by rw [decide_eq_true e, Bool.true_or, Bool.or_true])
        have h2 : ¬ w = 2 := fun e => c (by rw [decide_eq_true e, Bool.or_true, Bool.or_true])
        rw [if_pos rfl, if_neg h0, if_neg h1, if_neg h2]
  · have hN := hM.kp (kp0 M)
    unfold fX9_join fX9_join_0 fX9_join_7
    rw [M_isJoin hN.2.1 hN.2.2.2.1, gB0_some, ite_bI, F_in, gB0_some, ite_bI, Int32.toInt_toInt64]
    show (if inR p (v 0 5) = true then (if (decide ((0 : Int) ≤ w.toInt) && decide (w.toInt ≤ 2)) = true then _ else _) else _) = _
    rw [w012]
    cases inR p (v 0 5) <;> cases (decide (w = 0) || (decide (w = 1) || decide (w = 2))) <;> rfl
  · rw [Bool.and_eq_true] at hb
    obtain ⟨k, hk, rfl⟩ := inR_k hb.1
    have hw := w_k hb.2
    refine ⟨pa3 v k w 4, fun M hM => ?_, fun M hM => ⟨M, ?_, KP.rf⟩⟩
    · have hv0 := hM.2.1.1
      have ht := gTn_of hM.1.2
      have z := hM.2.2.1.2.2.1 k hk
      have hin := hb.1
      show fX8_join (nI k) w M = _
      unfold fX8_join fX8_join_0 pa3
      rw [if_pos (gob_T hM), hM.1.1, F_hasJoin hM.2.1 hM.2.2.1, gB0_some, ite_bI, hin, if_pos rfl]
      rcases hw with rfl | rfl | rfl
      · rw [if_pos rfl, if_pos rfl, if_pos hM.1.2, if_pos (ix4 ht (by omega)), nI_clamp (by omega), z.1]
      · rw [if_neg (show ¬ (1 : Int32) = 0 by decide), if_neg (show ¬ (1 : Int32) = 0 by decide), if_pos rfl, if_pos rfl, if_pos hM.1.2, if_pos (ix5 ht (by omega)), nI_clamp (by omega), z.2.1]
      · rw [if_neg (show ¬ (2 : Int32) = 0 by decide), if_neg (show ¬ (2 : Int32) = 1 by decide), if_neg (show ¬ (2 : Int32) = 0 by decide), if_neg (show ¬ (2 : Int32) = 1 by decide), if_pos rfl, if_pos hM.1.2, if_pos (ix6 ht (by omega)), nI_clamp (by omega), z.2.2]
    · have hv0 := hM.2.1.1
      have z := hM.2.2.2.1.2.2.1 k hk
      have e : ∀ j, (3 : Int32) * nI k + nI j = nI (3 * k + j) := fun j => by rw [show (3 : Int32) = nI 3 from rfl, pk_mul, nI_add]
      show (if gIx 1 150 ((3 : Int32) * nI k + w) = true then some (M.1 150 (Int32.toNatClampNeg ((3 : Int32) * nI k + w)), M) else none) = _
      unfold pa3
      rcases hw with rfl | rfl | rfl
      · rw [show (3 : Int32) * nI k + 0 = nI (3 * k + 0) from e 0, if_pos (ix150 (by omega)), nI_clamp (by omega), if_pos rfl]
        exact congrArg (fun x => some (x, M)) z.1
      · rw [show (3 : Int32) * nI k + 1 = nI (3 * k + 1) from e 1, if_pos (ix150 (by omega)), nI_clamp (by omega), if_neg (by decide), if_pos rfl]
        exact congrArg (fun x => some (x, M)) z.2.1
      · rw [show (3 : Int32) * nI k + 2 = nI (3 * k + 2) from e 2, if_pos (ix150 (by omega)), nI_clamp (by omega), if_neg (by decide), if_neg (by decide)]
        exact congrArg (fun x => some (x, M)) z.2.2
