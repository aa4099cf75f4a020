/-! Acts taken back; the slump. -/
def wS (v : gCt) (i x : Nat) : gCt := fun k j => if k = 0 ∧ j = i then x else v k j
theorem wS_k {v : gCt} {i x k j : Nat} (h : k ≠ 0 ∨ j ≠ i) : wS v i x k j = v k j := if_neg (by omega)
theorem wS_e {v : gCt} {i x : Nat} : wS v i x 0 i = x := if_pos ⟨rfl, rfl⟩
theorem wS8_WF {v : gCt} (hv : gWF v) {m : Nat} (hm : m ≤ v 0 8) : gWF (wS v 8 m) := by
  obtain ⟨h0, h1, h2, h3, h4, h5⟩ := hv
  unfold gWF
  rw [wS_e, wS_k (k := 0) (j := 0) (by omega), wS_k (k := 0) (j := 1) (by omega), wS_k (k := 0) (j := 2) (by omega), wS_k (k := 0) (j := 3) (by omega), wS_k (k := 0) (j := 4) (by omega), wS_k (k := 0) (j := 5) (by omega), wS_k (k := 0) (j := 6) (by omega), wS_k (k := 0) (j := 7) (by omega), wS_k (k := 0) (j := 9) (by omega)]
  exact ⟨by omega, h1, h2, h3, h4, fun i hi => h5 i (by omega)⟩
theorem wS2_WF {v : gCt} (hv : gWF v) {m : Nat} (hm : m ≤ 20) : gWF (wS v 2 m) := by
  obtain ⟨h0, h1, h2, h3, h4, h5⟩ := hv
  unfold gWF
  rw [wS_e, wS_k (k := 0) (j := 0) (by omega), wS_k (k := 0) (j := 1) (by omega), wS_k (k := 0) (j := 8) (by omega), wS_k (k := 0) (j := 3) (by omega), wS_k (k := 0) (j := 4) (by omega), wS_k (k := 0) (j := 5) (by omega), wS_k (k := 0) (j := 6) (by omega), wS_k (k := 0) (j := 7) (by omega), wS_k (k := 0) (j := 9) (by omega)]
  exact ⟨by omega, h1, h2, h3, h4, h5⟩
theorem RT_S8 {M : gMem} {t m : Nat} {v : gCt} (h : RT M t v) (hm : m ≤ v 0 8) : RT (gSI M (t + 10) 4 (nI m)) t (wS v 8 m) := by
  obtain ⟨r0, r1, r2, r3, r4, r5⟩ := h
  have o : ∀ k, k ≠ t + 10 → (gSI M (t + 10) 4 (nI m)).1 k = M.1 k := fun k hk => gSI_ne hk
  unfold RT
  rw [wS_e, wS_k (k := 0) (j := 0) (by omega), wS_k (k := 0) (j := 1) (by omega), wS_k (k := 0) (j := 2) (by omega), wS_k (k := 0) (j := 3) (by omega), wS_k (k := 0) (j := 4) (by omega), wS_k (k := 0) (j := 5) (by omega), wS_k (k := 0) (j := 6) (by omega), wS_k (k := 0) (j := 7) (by omega), wS_k (k := 0) (j := 9) (by omega), o t (by omega), o (t + 1) (by omega), o (t + 2) (by omega), o (t + 3) (by omega), o (t + 4) (by omega), o (t + 5) (by omega), o (t + 6) (by omega), o (t + 7) (by omega), o (t + 8) (by omega), o (t + 9) (by omega), o (t + 10 + 1) (by omega), o (t + 10 + 2) (by omega), o (t + 10 + 3) (by omega), o (t + 10 + 4) (by omega), gSI_eq]
  obtain ⟨a0, a1, a2, a3, a4, a5, a6, a7, a8, a9⟩ := r0
  exact ⟨⟨a0, a1, a2, a3, a4, a5, a6, a7, a8, rfl⟩, r1, r2, r3, r4, fun i hi => r5 i (by omega)⟩
theorem RT_S2 {M : gMem} {t m : Nat} {v : gCt} (h : RT M t v) : RT (gSI M t 3 (nI m)) t (wS v 2 m) := by
  obtain ⟨r0, r1, r2, r3, r4, r5⟩ := h
  have o : ∀ k, k ≠ t → (gSI M t 3 (nI m)).1 k = M.1 k := fun k hk => gSI_ne hk
  have p : ∀ j, j ≠ 3 → (gSI M t 3 (nI m)).1 t j = M.1 t j := fun j hj => gSI_nj hj
  unfold RT
  rw [wS_e, wS_k (k := 0) (j := 0) (by omega), wS_k (k := 0) (j := 1) (by omega), wS_k (k := 0) (j := 8) (by omega), wS_k (k := 0) (j := 3) (by omega), wS_k (k := 0) (j := 4) (by omega), wS_k (k := 0) (j := 5) (by omega), wS_k (k := 0) (j := 6) (by omega), wS_k (k := 0) (j := 7) (by omega), wS_k (k := 0) (j := 9) (by omega), p 0 (by omega), p 1 (by omega), p 2 (by omega), p 4 (by omega), p 5 (by omega), p 6 (by omega), p 7 (by omega), p 8 (by omega), o (t + 1) (by omega), o (t + 2) (by omega), o (t + 3) (by omega), o (t + 4) (by omega), o (t + 5) (by omega), o (t + 6) (by omega), o (t + 7) (by omega), o (t + 8) (by omega), o (t + 9) (by omega), o (t + 10) (by omega), o (t + 10 + 1) (by omega), o (t + 10 + 2) (by omega), o (t + 10 + 3) (by omega), o (t + 10 + 4) (by omega), gSI_eq]
  obtain ⟨a0, a1, a2, a3, a4, a5, a6, a7, a8, a9⟩ := r0
  exact ⟨⟨a0, a1, a2, rfl, a4, a5, a6, a7, a8, a9⟩, r1, r2, r3, r4, r5⟩
theorem RA_S {M : gMem} {i m : Nat} {v : gCt} (h : RA M v) (hi : i = 2 ∨ i = 8) : RA (gSI M 148 i (nI m)) (wS v i m) := by
  obtain ⟨⟨a1, a2⟩, b, c, d, f⟩ := h
  unfold RA
  rw [wS_k (k := 0) (j := 4) (by omega), wS_k (k := 0) (j := 5) (by omega), wS_k (k := 0) (j := 6) (by omega), wS_k (k := 0) (j := 7) (by omega), wS_k (k := 0) (j := 9) (by omega), gSI_ne (show 147 ≠ 148 by decide), gSI_ne (show 149 ≠ 148 by decide), gSI_ne (show 150 ≠ 148 by decide), gSI_ne (show 151 ≠ 148 by decide), gSI_ne (show 152 ≠ 148 by decide)]
  refine ⟨⟨a1, fun k hk => ?_⟩, b, c, d, f⟩
  by_cases e : k = i
  · subst e; rw [wS_e, gSI_eq]
  · rw [wS_k (by omega), gSI_nj e]; exact a2 k hk
theorem RC_S8 {M : gMem} {m : Nat} {v : gCt} (h : RC M v) (hm : m ≤ v 0 8) : RC (gSI M 148 8 (nI m)) (wS v 8 m) := by
  unfold RC
  rw [wS_e, gSI_eq, gSI_ne (show 153 ≠ 148 by decide)]
  exact ⟨rfl, fun i hi => h.2 i (by omega)⟩
theorem RC_S2 {M : gMem} {m : Nat} {v : gCt} (h : RC M v) : RC (gSI M 148 2 (nI m)) (wS v 2 m) := by
  unfold RC
  rw [wS_k (k := 0) (j := 8) (by omega), gSI_nj (by omega), gSI_ne (show 153 ≠ 148 by decide)]
  exact h
/-- both sides have set the same number -/
theorem INV_S {M N : gMem} {t i m o j : Nat} {v : gCt} {z : gRw} (h1 : CT M t v) (h2 : yOK v) (h3 : v 0 8 ≤ 30) (h4 : RM M z) (hi : i = 2 ∨ i = 8) (ho : o = t ∨ o = t + 10) (hW : gWF (wS v i m)) (hm : i = 8 → m ≤ v 0 8) (hT : RT (gSI M o j (nI m)) t (wS v i m)) : INV (gSI (gSI (gSI M o j (nI m)) 141 0 0) 148 i (nI m)) := by
  have tt := tw_t h4 h1.1.1
  have rA : RM (gSI M o j (nI m)) z := RM_cl h4 h1.1.1 (fun k hk => gSI_ne (by omega)) rfl
  have rB := rA.kp (kp0 (gSI M o j (nI m)))
  have e : ∀ k, k ≠ o → k ≠ 141 → (gSI (gSI M o j (nI m)) 141 0 0).1 k = M.1 k := fun k a b => (gSI_ne b).trans (gSI_ne a)
  have hA : RA (gSI (gSI M o j (nI m)) 141 0 0) v := RA_same h1.2.2.2.1 (fun q a b => e q (by omega) (by omega))
  have hC : RC (gSI (gSI M o j (nI m)) 141 0 0) v := RC_same h1.2.2.2.2 (fun q a b => e q (by omega) (by omega))
  refine ⟨t, wS v i m, z, ⟨⟨⟨h1.1.1, h1.1.2⟩, hW, RT_same hT (fun k hk => (gSI_ne (by omega)).trans (gSI_ne (by omega))), RA_S hA hi, ?_⟩, ?_, ?_⟩, RM_mo rB (fun k hk => gSI_ne (by omega)) (fun k a b j' hj => ?_) rfl⟩
  · rcases hi with rfl | rfl
    · exact RC_S2 hC
    · exact RC_S8 hC (hm rfl)
  · rcases hi with rfl | rfl
    · exact h2
    · exact h2
  · rcases hi with rfl | rfl
    · exact h3
    · rw [wS_e]; have := hm rfl; omega
  · by_cases c : k = 148
    · subst c
      have : mkO 148 = 9 := rfl
      exact gSI_nj (by omega)
    · rw [gSI_ne c]
theorem i8_t : gIx 1 148 (8 : Int32) = true := ix148 (show 8 < 45 by omega)
theorem i2_t : gIx 1 148 (2 : Int32) = true := ix148 (show 2 < 45 by omega)
theorem i8_c : Int32.toNatClampNeg (8 : Int32) = 8 := rfl
theorem i2_c : Int32.toNatClampNeg (2 : Int32) = 2 := rfl
theorem S_undo : gSt fX8_undo fX9_undo := fun M hM => by
  have rt := hM.kp (kp0 M)
  obtain ⟨t, v, z, ⟨h1, h2, h3⟩, h4⟩ := hM
  have hv := h1.2.1
  have hv0 := hv.1
  have r4 := tn_na h1
  have tt := tw_t h4 h1.1.1
  have hf : fX8_undo M = if 0 < v 0 9 then (if v 0 8 = 0 then some (-5, M) else some (nI (v 0 8 - 1), gSI M (t + 10) 4 (nI (v 0 8 - 1)))) else some (-2, M) := by
    have n4 : v 0 8 ≠ 0 → gMx (0 : Int32) (nI (v 0 8) - 1) = nI (v 0 8 - 1) := fun h0 => by
      have key : ∀ z, z ≤ 30 → z ≠ 0 → gMx (0 : Int32) (nI z - 1) = nI (z - 1) := by decide +kernel
      exact key _ h3 h0
    unfold fX8_undo fX8_undo_0 fX0_takeBack fX0_takeBack_0
    rw [if_pos (gob_T h1), h1.1.1, C_isTold h1, gB0_some, ite_bI, if_pos h1.1.2, if_pos h1.1.2, r4, gB0_some]
    have e2 : ∀ x, (gSI M (t + 10) 4 x).2.2 0 = t := fun x => h1.1.1
    rw [e2, if_pos h1.1.2, gSI_eq]
    simp only [nI_n0 (v 0 8) (by omega)]
    by_cases c : 0 < v 0 9
    · rw [if_pos c, decide_eq_true c, if_pos rfl]
      by_cases c8 : v 0 8 = 0
      · rw [if_pos c8, if_pos c8]
      · rw [if_neg c8, if_neg c8, n4 c8]
    · rw [if_neg c, decide_eq_false c]; rfl
  have hg : ∀ N, RA N v → RC N v → fX9_undo N = if 0 < v 0 9 then (if v 0 8 = 0 then some (-5, gSI N 141 0 0) else some (nI (v 0 8 - 1), gSI (gSI N 141 0 0) 148 8 (nI (v 0 8 - 1)))) else some (-2, gSI N 141 0 0) := fun N ha hc => by
    have ha' : RA (gSI N 141 0 0) v := RA_same ha (fun q _ _ => gSI_ne (by omega))
    have hc' : RC (gSI N 141 0 0) v := RC_same hc (fun q _ _ => gSI_ne (by omega))
    unfold fX9_undo fX9_undo_0 fX9_undo_6 fX9_undo_45
    rw [M_isCity hv ha', gB0_some, ite_bI, if_pos i8_t, if_pos i8_t, if_pos i8_t, if_pos i8_t, i8_c, hc'.1, gSI_eq]
    simp only [nI_n0 (v 0 8) (by omega)]
    by_cases c : 0 < v 0 9
    · rw [if_pos c, decide_eq_true c, if_pos rfl]
      by_cases c8 : v 0 8 = 0
      · rw [if_pos c8, if_pos c8]
      · rw [if_neg c8, if_neg c8, show (1 : Int32) = nI 1 from rfl, pk_sub (by omega)]
    · rw [if_neg c, decide_eq_false c]; rfl
  by_cases c : 0 < v 0 9
  · by_cases c8 : v 0 8 = 0
    · exact ⟨-5, M, gSI M 141 0 0, by rw [hf, if_pos c, if_pos c8], by rw [hg M h1.2.2.2.1 h1.2.2.2.2, if_pos c, if_pos c8], rt⟩
    · refine ⟨nI (v 0 8 - 1), _, _, by rw [hf, if_pos c, if_neg c8], ?_, INV_S h1 h2 h3 h4 (N := M) (o := t + 10) (j := 4) (m := v 0 8 - 1) (Or.inr rfl) (Or.inr rfl) (wS8_WF hv (by omega)) (fun _ => by omega) (RT_S8 h1.2.2.1 (by omega))⟩
      rw [hg _ (RA_same h1.2.2.2.1 (fun q a b => gSI_ne (by omega))) (RC_same h1.2.2.2.2 (fun q a b => gSI_ne (by omega))), if_pos c, if_neg c8]
  · exact ⟨-2, M, gSI M 141 0 0, by rw [hf, if_neg c], by rw [hg M h1.2.2.2.1 h1.2.2.2.2, if_neg c], rt⟩
theorem S_anew : gSt fX8_anew fX9_anew := fun M hM => by
  have rt := hM.kp (kp0 M)
  obtain ⟨t, v, z, ⟨h1, h2, h3⟩, h4⟩ := hM
  have hv := h1.2.1
  have hv0 := hv.1
  have r4 := tn_na h1
  have tt := tw_t h4 h1.1.1
  have hf : fX8_anew M = if 0 < v 0 9 then some (nI (v 0 8), gSI M (t + 10) 4 (nI 0)) else some (-2, M) := by
    unfold fX8_anew fX8_anew_0
    rw [if_pos (gob_T h1), h1.1.1, C_isTold h1, gB0_some, ite_bI, if_pos h1.1.2, if_pos h1.1.2, r4]
    by_cases c : 0 < v 0 9
    · rw [if_pos c, decide_eq_true c, if_pos rfl]; rfl
    · rw [if_neg c, decide_eq_false c]; rfl
  have hg : ∀ N, RA N v → RC N v → fX9_anew N = if 0 < v 0 9 then some (nI (v 0 8), gSI (gSI N 141 0 0) 148 8 (nI 0)) else some (-2, gSI N 141 0 0) := fun N ha hc => by
    have ha' : RA (gSI N 141 0 0) v := RA_same ha (fun q _ _ => gSI_ne (by omega))
    have hc' : RC (gSI N 141 0 0) v := RC_same hc (fun q _ _ => gSI_ne (by omega))
    unfold fX9_anew fX9_anew_0 fX9_anew_6
    rw [M_isCity hv ha', gB0_some, ite_bI, if_pos i8_t, if_pos i8_t, i8_c, hc'.1]
    by_cases c : 0 < v 0 9
    · rw [if_pos c, decide_eq_true c, if_pos rfl]; rfl
    · rw [if_neg c, decide_eq_false c]; rfl
  by_cases c : 0 < v 0 9
  · refine ⟨nI (v 0 8), _, _, by rw [hf, if_pos c], ?_, INV_S h1 h2 h3 h4 (N := M) (o := t + 10) (j := 4) (m := 0) (Or.inr rfl) (Or.inr rfl) (wS8_WF hv (by omega)) (fun _ => by omega) (RT_S8 h1.2.2.1 (by omega))⟩
    rw [hg _ (RA_same h1.2.2.2.1 (fun q a b => gSI_ne (by omega))) (RC_same h1.2.2.2.2 (fun q a b => gSI_ne (by omega))), if_pos c]
  · exact ⟨-2, M, gSI M 141 0 0, by rw [hf, if_neg c], by rw [hg M h1.2.2.2.1 h1.2.2.2.2, if_neg c], rt⟩
theorem S_rate (x : Int32) : gSt (fX8_rate x) (fX9_rate x) := fun M hM => by
  have rt := hM.kp (kp0 M)
  obtain ⟨t, v, z, ⟨h1, h2, h3⟩, h4⟩ := hM
  have hv := h1.2.1
  have hv0 := hv.1
  have r4 := tn_na h1
  have tt := tw_t h4 h1.1.1
  have r3 : M.1 t 3 = nI (v 0 2) := h1.2.2.1.1.2.2.2.1
  have hf : fX8_rate x M = if (decide (0 < v 0 9) && inR x 21) = true then (if v 0 8 = 0 then some (nI (v 0 2), gSI M t 3 x) else some (-5, M)) else some (-2, M) := by
    unfold fX8_rate fX8_rate_0
    rw [if_pos (gob_T h1), h1.1.1, C_isTold h1, gB0_some, ite_bI, if_pos h1.1.2, if_pos h1.1.2, if_pos h1.1.2, r4, r3]
    have e0 : (nI (v 0 8) ≤ 0) = (v 0 8 = 0) := propext ⟨fun h => by
      by_cases c : v 0 8 = 0
      · exact c
      · exact absurd h (nI_nle (by omega) (by omega)), fun h => by rw [h]; decide⟩
    have z20 : (20 : Int32).toInt = 20 := rfl
    simp only [e0, lt0_i, Int32.le_iff_toInt_le, z20]
    unfold inR
    by_cases c1 : x.toInt < 0
    · rw [if_pos c1, decide_eq_false (show ¬ (0 : Int) ≤ x.toInt by omega)]; simp
    · rw [if_neg c1, decide_eq_true (show (0 : Int) ≤ x.toInt by omega)]
      by_cases c2 : x.toInt ≤ 20
      · rw [if_pos c2, decide_eq_true (show x.toInt < ((21 : Nat) : Int) by omega)]; simp
      · rw [if_neg c2, decide_eq_false (show ¬ x.toInt < ((21 : Nat) : Int) by omega)]; simp
  have hg : ∀ N, RA N v → RC N v → fX9_rate x N = if (decide (0 < v 0 9) && inR x 21) = true then (if v 0 8 = 0 then some (nI (v 0 2), gSI (gSI N 141 0 0) 148 2 x) else some (-5, gSI N 141 0 0)) else some (-2, gSI N 141 0 0) := fun N ha hc => by
    have ha' : RA (gSI N 141 0 0) v := RA_same ha (fun q _ _ => gSI_ne (by omega))
    have hc' : RC (gSI N 141 0 0) v := RC_same hc (fun q _ _ => gSI_ne (by omega))
    have e0 : (nI (v 0 8) ≤ 0) = (v 0 8 = 0) := propext ⟨fun h => by
      by_cases c : v 0 8 = 0
      · exact c
      · exact absurd h (nI_nle (by omega) (by omega)), fun h => by rw [h]; decide⟩
    have e1 : (decide ((0 : Int64).toInt ≤ x.toInt) && decide (x.toInt ≤ (20 : Int64).toInt)) = inR x 21 := by
      unfold inR
      have z0 : (0 : Int64).toInt = 0 := rfl
      have z8 : (20 : Int64).toInt = 20 := rfl
      rw [z0, z8]
      congr 1
      exact decide_eq_decide.mpr (by omega)
    have q2 := ha'.1.2 2 (by omega)
    unfold fX9_rate fX9_rate_0 fX9_rate_6
    rw [M_isCity hv ha', gB0_some, ite_bI, F_in, gB0_some, ite_bI, Int32.toInt_toInt64, e1, if_pos i8_t, if_pos i2_t, if_pos i2_t, i8_c, i2_c, hc'.1, q2]
    simp only [e0]
    cases decide (0 < v 0 9) <;> cases inR x 21 <;> rfl
  by_cases c : (decide (0 < v 0 9) && inR x 21) = true
  · by_cases c8 : v 0 8 = 0
    · have c' := c
      rw [Bool.and_eq_true] at c'
      obtain ⟨m, hm, rfl⟩ := inR_k c'.2
      refine ⟨nI (v 0 2), _, _, by rw [hf, if_pos c, if_pos c8], ?_, INV_S h1 h2 h3 h4 (N := M) (o := t) (j := 3) (m := m) (Or.inl rfl) (Or.inl rfl) (wS2_WF hv (by omega)) (fun h => by omega) (RT_S2 h1.2.2.1)⟩
      rw [hg _ (RA_same h1.2.2.2.1 (fun q a b => gSI_ne (by omega))) (RC_same h1.2.2.2.2 (fun q a b => gSI_ne (by omega))), if_pos c, if_pos c8]
    · exact ⟨-5, M, gSI M 141 0 0, by rw [hf, if_pos c, if_neg c8], by rw [hg M h1.2.2.2.1 h1.2.2.2.2, if_pos c, if_neg c8], rt⟩
  · exact ⟨-2, M, gSI M 141 0 0, by rw [hf, if_neg c], by rw [hg M h1.2.2.2.1 h1.2.2.2.2, if_neg c], rt⟩
