/-! the same by the reference; chance, through, mean -/
def LW (M N : gMem) (t : Nat) (v : gCt) : Prop := (∃ g, MS N v (uS 0 g) []) ∧ N.1 141 24 = nI (v 0 1) ∧ CT N t v ∧ KP M N
theorem M_we {M N : gMem} {t m p q i : Nat} {v : gCt} (h : LW M N t v) (ho : OKm v m p q) (hi : i < 2 ^ v 0 5) : ∃ K, fX9_weightOf_10 (nI m) (nI p) (nI q) (nI (wtV v m p q i)) (nI i) N = some (.inl (nI (wtV v m p q (i + 1)), nI (i + 1), K)) ∧ LW M K t v := by
  obtain ⟨⟨g, h1⟩, h2, h3, h4⟩ := h
  have hv := h3.2.1
  have hv0 := hv.1
  have hpw := pow_le7 hv0.2.2.2.2.2.1
  have hi7 : i < 128 := by omega
  have hpl := pw_le hv i (v 0 5)
  have hp10 := p10 _ hv0.2.2.2.2.2.1
  have hstep : wtV v m p q (i + 1) = wtV v m p q i + pw v i (v 0 5) * meV v m p q i := rfl
  have all : ∃ z, (if nI (pw v i (v 0 5)) = 0 then some (.inr (.inl (nI (wtV v m p q i), nI (i + 1), N))) else gEx (fX9_weightOf_91 (nI m) (nI p) (nI q) (nI (wtV v m p q i)) (nI i) (nI (pw v i (v 0 5))) (0 : Int32) (gSI N 141 25 (nI i))) : Option (Sum (Int32 × Int32) (Sum (Int32 × Int32 × gMem) (Int32 × gMem)))) = gEx (some (.inl (nI (wtV v m p q (i + 1)), nI (i + 1), z))) ∧ LW M z t v := by
    have hz := nI_n0 (pw v i (v 0 5)) (by omega)
    by_cases cz : pw v i (v 0 5) = 0
    · rw [if_pos (hz.mpr cz), hstep, cz, Nat.zero_mul, Nat.add_zero]
      exact ⟨N, rfl, ⟨g, h1⟩, h2, h3, h4⟩
    · rw [if_neg (fun e => cz (hz.mp e))]
      have k1 : KP N (gSI N 141 25 (nI i)) := KP.s141 (by omega)
      have s1 := MS_25 h1 hi7
      obtain ⟨A, a1, a2, a3, a4, a5, a6⟩ := M_runU (n := 1) (h3.kp k1) s1 (by omega)
      rw [one_1] at a1
      have f24 : A.1 141 24 = nI (v 0 1) := by rw [a6]; exact (gSI_nj (by omega)).trans h2
      have kA := (h4.tr k1).tr a5
      refine ⟨A, ?_, ⟨tb i, a2⟩, f24, a4, kA⟩
      congr 1
      unfold fX9_weightOf_91
      rw [a1, gB0_some, hstep]
      have one : (1 : Int32) = nI 1 := rfl
      have zero : (0 : Int32) = nI 0 := rfl
      unfold meV
      rcases ho with ⟨rfl, hp, hq⟩ | ⟨rfl, hp, hq⟩ | rfl
      · have hf := M_firmOf hv a4.2.2.2.1 a3 (y := 0) (by omega) (by omega) hp
        rw [fiR_in hp (go_y0 hv _ p)] at hf
        have hf : fX9_firmOf (nI p) (0 : Int32) A = some (gMk 6 (fmO (tiY v (uS 0 (tb i)) 0) p)) := hf
        rw [if_pos (show nI 0 = 0 from rfl), hf, gB0_some, F_isBit _ (by omega), bt_gMk (by omega), decide_eq_true (show q < 6 by omega), Bool.true_and, gB0_some, ite_bI, if_pos rfl]
        cases fmO (tiY v (uS 0 (tb i)) 0) p q
        · rw [if_neg (by decide), if_neg (by decide), zero, pk_mul, nI_add, nI_1]
        · rw [if_pos rfl, if_pos rfl, one, pk_mul, nI_add, nI_add]
      · have hg : fX9_goesThrough (nI p) (nI q) (0 : Int32) A = _ := M_goesThrough hv a4.2.2.2.1 a3 (y := 0) (by omega) (by omega) hv0.2.1 f24 hp hq
        rw [if_neg (show ¬ nI 1 = 0 by decide), if_pos (show nI 1 = 1 from rfl), hg, gB0_some, ite_bI, if_neg (show ¬ (1 : Nat) = 0 by decide), if_pos rfl]
        cases thO v (uS 0 (tb i)) 0 (v 0 1) p q
        · rw [if_neg (by decide), if_neg (by decide), zero, pk_mul, nI_add, nI_1]
        · rw [if_pos rfl, if_pos rfl, one, pk_mul, nI_add, nI_add]
      · have hg : fX9_firmsAt (0 : Int32) A = _ := M_firmsAt hv a4.2.2.2.1 a3 (y := 0) (by omega) (by omega)
        rw [if_neg (show ¬ nI 2 = 0 by decide), if_neg (show ¬ nI 2 = 1 by decide), hg, gB0_some, if_neg (show ¬ (2 : Nat) = 0 by decide), if_neg (show ¬ (2 : Nat) = 1 by decide), pk_mul, nI_add, nI_1]
  obtain ⟨K, k1, k2⟩ := all
  refine ⟨K, ?_, k2⟩
  unfold fX9_weightOf_10
  rw [F_joins h3.2.2.2.1, gB0_some, sh_pow _ (by omega), if_neg (nI_ge hi (by omega))]
  unfold fX9_weightOf_27h
  refine gLp_for (fun j => (nI (pw v i j), nI j)) (v 0 5) _ (by omega) (fun j hj => ?_) ?_ _ rfl
  · show fX9_weightOf_27 (nI m) (nI p) (nI q) (nI (wtV v m p q i)) (nI i) (nI (pw v i j)) (nI j) N = _
    unfold fX9_weightOf_27
    obtain ⟨e1, e2⟩ := hd_at h3.2.2.2.1 (k := 3) (by omega) (i := 3) rfl
    rw [F_joins h3.2.2.2.1, gB0_some, if_neg (nI_ge hj (by omega)), nI_tb7 i hi7, F_isBit _ (by omega), bt_gMk (by omega), decide_eq_true (show j < 7 by omega), Bool.true_and, gB0_some, ite_bI, if_pos e1, if_pos e1, e2, nI_1, show (10 : Int32) - nI (v 0 3) = nI (10 - v 0 3) from pk_sub (a := 10) hv0.2.2.2.1, pk_mul, pk_mul]
    show _ = some (Sum.inl (nI (pw v i (j + 1)), nI (j + 1)))
    rw [pw]
    show (if i.testBit j = true then _ else _) = _
    cases i.testBit j
    · rfl
    · rfl
  · show fX9_weightOf_27 (nI m) (nI p) (nI q) (nI (wtV v m p q i)) (nI i) (nI (pw v i (v 0 5))) (nI (v 0 5)) N = _
    unfold fX9_weightOf_27
    rw [F_joins h3.2.2.2.1, gB0_some, if_pos (Int32.le_refl _), nI_1]
    exact k1
theorem M_weightOf {M : gMem} {t m p q : Nat} {v : gCt} (h : CT M t v) (ho : OKm v m p q) : ∃ N, fX9_weightOf (nI m) (nI p) (nI q) M = some (nI (wtV v m p q (2 ^ v 0 5)), N) ∧ CT N t v ∧ KP M N := by
  have hv0 := h.2.1.1
  have hpw := pow_le7 hv0.2.2.2.2.2.1
  obtain ⟨A, a1, a2, a3, a4, a5, a6⟩ := F_lays h
  unfold fX9_weightOf fX9_weightOf_0 fX9_weightOf_10h
  rw [a1, gB0_some]
  have key : ∃ r, gLp (fun s : Int32 × Int32 × gMem => fX9_weightOf_10 (nI m) (nI p) (nI q) (s.1) (s.2.1) s.2.2) gFu ((0 : Int32), (0 : Int32), A) = some r ∧ (r.1 = nI (wtV v m p q (2 ^ v 0 5)) ∧ CT r.2 t v ∧ KP M r.2) := by
    refine gLp_inv (fun i (s : Int32 × Int32 × gMem) => s.1 = nI (wtV v m p q i) ∧ s.2.1 = nI i ∧ LW M s.2.2 t v) (2 ^ v 0 5) (fun (r : Int32 × gMem) => r.1 = nI (wtV v m p q (2 ^ v 0 5)) ∧ CT r.2 t v ∧ KP M r.2) (by omega) (fun i s hi hI => ?_) (fun s hI => ?_) _ ⟨rfl, rfl, ⟨fun _ => false, by rw [uS_none]; exact a2⟩, a3, a4, a5⟩
    · obtain ⟨x, i', N⟩ := s
      obtain ⟨g1, g2, g3⟩ := hI
      have g1 : x = nI (wtV v m p q i) := g1
      have g2 : i' = nI i := g2
      subst g1; subst g2
      obtain ⟨K, k1, k2⟩ := M_we g3 ho hi
      exact Or.inl ⟨_, k1, rfl, rfl, k2⟩
    · obtain ⟨x, i', N⟩ := s
      obtain ⟨g1, g2, g3⟩ := hI
      have g1 : x = nI (wtV v m p q (2 ^ v 0 5)) := g1
      have g2 : i' = nI (2 ^ v 0 5) := g2
      subst g1; subst g2
      have g3 : LW M N t v := g3
      show ∃ r, fX9_weightOf_10 _ _ _ _ (nI (2 ^ v 0 5)) N = _ ∧ _
      unfold fX9_weightOf_10
      rw [F_joins g3.2.2.1.2.2.2.1, gB0_some, sh_pow _ (by omega), if_pos (Int32.le_refl _)]
      exact ⟨_, rfl, rfl, g3.2.2.1, g3.2.2.2⟩
  obtain ⟨⟨r, K⟩, k1, k2, k3, k4⟩ := key
  exact ⟨K, by rw [k1]; exact congrArg (fun z => some (z, K)) k2, k3, k4⟩
theorem M_tens {M : gMem} {v : gCt} (hv : gWF v) (ha : RA M v) : fX9_tens M = some (nI (10 ^ v 0 5)) := by
  have hv0 := hv.1
  unfold fX9_tens fX9_tens_0 fX9_tens_4h
  refine gLp_for (fun j => (nI (10 ^ j), nI j)) (v 0 5) _ (by omega) (fun j hj => ?_) ?_ _ rfl
  · show fX9_tens_4 (nI (10 ^ j)) (nI j) M = _
    unfold fX9_tens_4
    rw [F_joins ha, gB0_some, if_neg (nI_ge hj (by omega)), show (10 : Int32) = nI 10 from rfl, pk_mul, nI_1, ← Nat.pow_succ]
  · show fX9_tens_4 _ (nI (v 0 5)) M = _
    unfold fX9_tens_4
    rw [F_joins ha, gB0_some, if_pos (Int32.le_refl _)]
    rfl
theorem QM {t m p q : Nat} {v : gCt} (w : Int32) (ho : OKm v m p q) : ∃ r, (∀ M, CT M t v → ∃ K, fX8_meanOf (nI m) (nI p) (nI q) w M = some (r, K) ∧ KP M K) ∧ ∀ M, CT M t v → ∃ K, gBp (fX9_weightOf (nI m) (nI p) (nI q) M) (fun r5 M6 => gB0 (fX9_tens M6) (fun r8 => gB0 (fX9_part r5 r8 w M6) (fun r10 => some (r10, M6)))) = some (r, K) ∧ KP M K := by
  by_cases hv : gWF v
  · have h1 := wt_le hv (i := 2 ^ v 0 5) (Nat.le_refl _) m p q
    have h2 := p10 _ hv.1.2.2.2.2.2.1
    have h3 : 0 < 10 ^ v 0 5 := Nat.pow_pos (by decide)
    have e1 := nI_int (wtV v m p q (2 ^ v 0 5)) (by omega)
    have e2 := nI_int (10 ^ v 0 5) (by omega)
    obtain ⟨r, r1, r2⟩ := lo_same (x := (nI (wtV v m p q (2 ^ v 0 5))).toInt64) (y := (nI (10 ^ v 0 5)).toInt64) (w := w) (by rw [Int32.toInt_toInt64]; exact e1) (by rw [Int32.toInt_toInt64]; exact e2) e1 e2 (by omega) (by omega) (by omega)
    refine ⟨r, fun M hM => ?_, fun M hM => ?_⟩
    · obtain ⟨a, b, N, n1, n2, n3, n4, n5⟩ := C_meanOf w hM ho
      have ea : a = (nI (wtV v m p q (2 ^ v 0 5))).toInt64 := Int64.toInt_inj.mp (by rw [n1, Int32.toInt_toInt64, e1])
      have eb : b = (nI (10 ^ v 0 5)).toInt64 := Int64.toInt_inj.mp (by rw [n2, Int32.toInt_toInt64, e2])
      refine ⟨N, ?_, n5⟩
      rw [n3, ea, eb, r1, gB0_some]
    · obtain ⟨N, n1, n2, n3⟩ := M_weightOf hM ho
      refine ⟨N, ?_, n3⟩
      rw [n1, gBp_some, M_tens hv n2.2.2.2.1, gB0_some, r2, gB0_some]
  · exact ⟨0, fun M hM => absurd hM.2.1 hv, fun M hM => absurd hM.2.1 hv⟩
theorem Q_chance {t : Nat} {v : gCt} (p x w : Int32) : SQ t v (fX8_chance p x w) (fX9_chance p x w) := by
  refine SQ_g (b := inP v p x && (decide (w = 0) || decide (w = 1))) (e := -2) (F := fX8_meanOf 0 p x w) (G := fun M => gBp (fX9_weightOf 0 p x M) (fun r5 M6 => gB0 (fX9_tens M6) (fun r8 => gB0 (fX9_part r5 r8 w M6) (fun r10 => some (r10, M6))))) (fun M hM => ?_) (fun M hM => ?_) (fun hb => ?_)
  · unfold fX8_chance fX8_chance_0
    rw [if_pos (gob_T hM), hM.1.1, F_hasPair hM.2.1 hM.2.2.1, gB0_some, ite_bI, C_isEither, gB0_some, ite_bI, gBp_id]
    cases inP v p x <;> cases (decide (w = 0) || decide (w = 1)) <;> rfl
  · have hN := hM.kp (kp0 M)
    unfold fX9_chance fX9_chance_0 fX9_chance_8
    rw [M_areTwo hN.2.1 hN.2.2.2.1, gB0_some, ite_bI, M_isHalf, gB0_some, ite_bI]
    cases inP v p x <;> cases (decide (w = 0) || decide (w = 1)) <;> rfl
  · rw [Bool.and_eq_true] at hb
    obtain ⟨k, q, h1, h2, h3, rfl, rfl⟩ := inP_k hb.1
    exact QM (m := 0) w (Or.inl ⟨rfl, h1, h2⟩)
theorem Q_through {t : Nat} {v : gCt} (p d w : Int32) : SQ t v (fX8_through p d w) (fX9_through p d w) := by
  refine SQ_g (b := inR p (v 0 4) && (inR d (v 0 6) && (decide (w = 0) || decide (w = 1)))) (e := -2) (F := fX8_meanOf 1 p d w) (G := fun M => gBp (fX9_weightOf 1 p d M) (fun r5 M6 => gB0 (fX9_tens M6) (fun r8 => gB0 (fX9_part r5 r8 w M6) (fun r10 => some (r10, M6))))) (fun M hM => ?_) (fun M hM => ?_) (fun hb => ?_)
  · unfold fX8_through fX8_through_0
    rw [if_pos (gob_T hM), hM.1.1, F_hasPartner hM.2.1 hM.2.2.1, gB0_some, ite_bI, if_pos hM.1.2, F_hasDoor hM.2.1 hM.2.2.1, gB0_some, ite_bI, C_isEither, gB0_some, ite_bI, gBp_id]
    cases inR p (v 0 4) <;> cases inR d (v 0 6) <;> cases (decide (w = 0) || decide (w = 1)) <;> rfl
  · have hN := hM.kp (kp0 M)
    unfold fX9_through fX9_through_0 fX9_through_8
    rw [M_isPerson hN.2.1 hN.2.2.2.1, gB0_some, ite_bI, inL_inR, M_isDoor hN.2.1 hN.2.2.2.1, gB0_some, ite_bI, inL_inR, M_isHalf, gB0_some, ite_bI]
    cases inR p (v 0 4) <;> cases inR d (v 0 6) <;> cases (decide (w = 0) || decide (w = 1)) <;> rfl
  · rw [Bool.and_eq_true, Bool.and_eq_true] at hb
    obtain ⟨k, h1, rfl⟩ := inR_k hb.1
    obtain ⟨q, h2, rfl⟩ := inR_k hb.2.1
    exact QM (m := 1) w (Or.inr (Or.inl ⟨rfl, h1, h2⟩))
theorem Q_mean {t : Nat} {v : gCt} (w : Int32) : SQ t v (fX8_mean w) (fX9_mean w) := by
  refine SQ_g (b := decide (0 < v 0 9) && (decide (w = 0) || decide (w = 1))) (e := -2) (F := fX8_meanOf 2 0 0 w) (G := fun M => gBp (fX9_weightOf 2 0 0 M) (fun r5 M6 => gB0 (fX9_tens M6) (fun r8 => gB0 (fX9_part r5 r8 w M6) (fun r10 => some (r10, M6))))) (fun M hM => ?_) (fun M hM => ?_) (fun hb => ?_)
  · unfold fX8_mean fX8_mean_0
    rw [if_pos (gob_T hM), hM.1.1, C_isTold hM, gB0_some, ite_bI, C_isEither, gB0_some, ite_bI, gBp_id]
    cases decide (0 < v 0 9) <;> cases (decide (w = 0) || decide (w = 1)) <;> rfl
  · have hN := hM.kp (kp0 M)
    unfold fX9_mean fX9_mean_0 fX9_mean_6
    rw [M_isCity hN.2.1 hN.2.2.2.1, gB0_some, ite_bI, M_isHalf, gB0_some, ite_bI]
    cases decide (0 < v 0 9) <;> cases (decide (w = 0) || decide (w = 1)) <;> rfl
  · exact QM (m := 2) (p := 0) (q := 0) w (Or.inr (Or.inr rfl))
