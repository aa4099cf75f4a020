/-! Images kept, and gone back to. -/
theorem gSl_1 {M : gMem} {i q k : Nat} : (gSl M i).1 q k = M.1 q (mkO q * i + k) := rfl
/-- what was copied -/
theorem RAk_cp {M N : gMem} {a b : Nat} {w : gCt} (hv : gWF w) (h30 : w 0 8 ≤ 30) (h : RAk M a w) (e : ∀ q, 147 ≤ q → q < 154 → ∀ k, k < mkO q → N.1 q (mkO q * b + k) = M.1 q (mkO q * a + k)) : RAk N b w :=
  ⟨RA_at hv h.1 (fun q a b => e q a (by omega)), RC_at h30 h.2 (fun q hq => e q (by omega) (by omega))⟩
theorem RAk_o {M N : gMem} {a b : Nat} {w : gCt} (hab : a ≠ b) (hv : gWF w) (h30 : w 0 8 ≤ 30) (h : RAk M a w) (e : ∀ q, 147 ≤ q → q < 154 → ∀ j, j < mkO q * b ∨ mkO q * b + mkO q ≤ j → N.1 q j = M.1 q j) : RAk N a w := by
  have key : ∀ q, 147 ≤ q → q < 154 → ∀ k, k < mkO q → (gSl N a).1 q k = (gSl M a).1 q k := fun q x y k hk => e q x y _ (by
    have := mul_d (m := mkO q) hab
    omega)
  exact ⟨RA_at hv h.1 (fun q x y => key q x (by omega)), RC_at h30 h.2 (fun q hq => key q (by omega) (by omega))⟩
theorem tn_im {k : Nat} (h : k < 3) : gTn (66 + 15 * k) := ⟨k, by omega, rfl⟩
theorem tn_2 {t : Nat} (h : t = 111 ∨ t = 126) : gTn t := by
  rcases h with rfl | rfl
  · exact ⟨3, by omega, rfl⟩
  · exact ⟨4, by omega, rfl⟩
theorem ixI5 {k : Nat} (h : k < 3) : gIx 6 5 (nI k) = true := gIx_k rfl (by decide) h (by omega)
theorem ix154 {k : Nat} (h : k < 3) : gIx 3 154 (nI k) = true := gIx_k rfl (by decide) h (by omega)
theorem F_in2 (x : Int32) (M : gMem) : fX9_in (Int32.toInt64 x) (0 : Int64) (2 : Int64) M = some (bI (inR x 3)) := by
  rw [F_in, Int32.toInt_toInt64]
  unfold inR
  have z0 : (0 : Int64).toInt = 0 := rfl
  have z2 : (2 : Int64).toInt = 2 := rfl
  rw [z0, z2]
  congr 2
  congr 1
  exact decide_eq_decide.mpr (by omega)
theorem sh5 : (nI (gSh 5).2 : Int32) = nI 3 := rfl
theorem in3 {α : Type} (x : Int32) (A B : α) : (if x < 0 then A else if x < nI 3 then B else A) = if inR x 3 = true then B else A := by
  unfold inR
  have z3 : (nI 3 : Int32).toInt = 3 := rfl
  simp only [lt0_i, Int32.lt_iff_toInt_lt, z3]
  have z0 : (0 : Int32).toInt = 0 := rfl
  rw [z0]
  by_cases c1 : x.toInt < 0
  · rw [if_pos c1, decide_eq_false (show ¬ (0 : Int) ≤ x.toInt by omega)]; rfl
  · rw [if_neg c1, decide_eq_true (show (0 : Int) ≤ x.toInt by omega)]
    by_cases c2 : x.toInt < 3
    · rw [if_pos c2, decide_eq_true (show x.toInt < ((3 : Nat) : Int) by omega)]; rfl
    · rw [if_neg c2, decide_eq_false (show ¬ x.toInt < ((3 : Nat) : Int) by omega)]; rfl
theorem nb_1 : vp_nar .boolean (1 : Int32) = 1 := by decide
theorem S_image (x : Int32) : gSt (fX8_image x) (fX9_image x) := fun M hM => by
  have hI := hM
  have rt := hM.kp (kp0 M)
  obtain ⟨t, v, z, ⟨h1, h2, h3⟩, h4⟩ := hM
  have tt := tw_t h4 h1.1.1
  have hg : ∀ N, fX9_image x N = if inR x 3 = true then gB0 (fX9_copyCity (0 : Int32) ((1 : Int32) + x) (gSI N 141 0 0)) (fun M3 => if gIx 3 154 x = true then some ((0 : Int32), (gSI M3 154 (Int32.toNatClampNeg x) (vp_nar .boolean (1 : Int32)))) else none) else some (-2, gSI N 141 0 0) := fun N => by
    unfold fX9_image fX9_image_0 fX9_image_11
    rw [F_in2, gB0_some, ite_bI]
  have hf : fX8_image x M = if inR x 3 = true then (if gIx 6 5 x = true then if gOb 7 (gRa 5 (Int32.toNatClampNeg x)) = true then if gOb 7 (M.2.2 0) = true then gB0 (fX7_copyFrom (gRa 5 (Int32.toNatClampNeg x)) (M.2.2 0) M) (fun M4 => some ((0 : Int32), (gSI M4 0 7 ((M4.1 0 7) ||| ((1 : Int32) <<< (x &&& 31)))))) else none else none else none) else some (-2, M) := by
    unfold fX8_image fX8_image_0
    rw [sh5, in3]
  by_cases hb : inR x 3 = true
  · obtain ⟨k, hk, rfl⟩ := inR_k hb
    have hra : gRa 5 k = 66 + 15 * k := rfl
    have gk := tn_im hk
    obtain ⟨N, n1, n2, n3, n4⟩ := C_copyFrom (M := M) gk (gTn_of h1.1.2) (by omega)
    have rTN := RT_TE h1.2.1 (by omega) n2 h1.2.2.1
    obtain ⟨P, hP⟩ : ∃ P, P = gSI (gSI N 0 7 (N.1 0 7 ||| b1 k)) 141 0 0 := ⟨_, rfl⟩
    have p1 : ∀ q, q ≠ 0 → q ≠ 141 → P.1 q = N.1 q := fun q a b => by rw [hP, gSI_ne b, gSI_ne a]
    have p2 : P.1 0 7 = M.1 0 7 ||| b1 k := by rw [hP, gSI_o (by omega), gSI_eq, n3 0 (by omega)]
    have p3 : P.2 = M.2 := by rw [hP]; exact n4
    have p4 : ∀ j, j ≠ 0 → P.1 141 j = M.1 141 j := fun j hj => by rw [hP, gSI_nj hj, gSI_o (by omega), n3 141 (by omega)]
    obtain ⟨K, k1, k2, k3, k4, k5⟩ := M_copyCity (M := P) (a := 0) (b := 1 + k) (by omega) (by omega) (by omega)
    have q1 : ∀ q, q ≠ 0 → q ≠ 141 → ¬ (66 + 15 * k ≤ q ∧ q < 66 + 15 * k + 15) → (q < 147 ∨ 155 ≤ q) → (gSI K 154 k 1).1 q = M.1 q := fun q a b c d => by
      rw [gSI_ne (by omega), k4 q (by omega), p1 q a b, n3 q (by omega)]
    have r1 : ∀ q, 147 ≤ q → q < 154 → P.1 q = M.1 q := fun q a b => by rw [p1 q (by omega) (by omega), n3 q (by omega)]
    have r2 : ∀ q, 147 ≤ q → q < 154 → (gSI K 154 k 1).1 q = K.1 q := fun q a b => gSI_ne (by omega)
    have r3 : ∀ q, 147 ≤ q → q < 154 → ∀ j, j < mkO q * (1 + k) ∨ mkO q * (1 + k) + mkO q ≤ j → (gSI K 154 k 1).1 q j = M.1 q j := fun q a b j hj => by
      rw [r2 q a b, k3 q a b j hj, r1 q a b]
    have r4 : ∀ q, 147 ≤ q → q < 154 → ∀ j, j < mkO q → (gSI K 154 k 1).1 q (mkO q * (1 + k) + j) = M.1 q (mkO q * 0 + j) := fun q a b j hj => by
      rw [r2 q a b, k2 q a b j hj, r1 q a b]
    have hk2 : (gSI K 154 k 1).2 = M.2 := by show K.2 = M.2; rw [k5, p3]
    have hv := h1.2.1
    have rk0 : RAk M 0 v := (RAk_0 M v).mpr ⟨h1.2.2.2.1, h1.2.2.2.2⟩
    have rk := (RAk_0 (gSI K 154 k 1) v).mp (RAk_o (b := 1 + k) (by omega) hv h3 rk0 r3)
    obtain ⟨g1, g2, g3, g4, g5⟩ := h4
    have c141 : ∀ j, j ≠ 0 → (gSI K 154 k 1).1 141 j = M.1 141 j := fun j hj => by rw [gSI_ne (by omega), k4 141 (by omega), p4 j hj]
    refine ⟨0, gSI N 0 7 (N.1 0 7 ||| b1 k), gSI K 154 k 1, ?_, ?_, t, v, z, ⟨⟨⟨by rw [hk2]; exact h1.1.1, h1.1.2⟩, hv, RT_same h1.2.2.1 (fun i hi => q1 _ (by omega) (by omega) (by omega) (by omega)), rk.1, rk.2⟩, h2, h3⟩, RO_same g1 (fun q hq => q1 q (by omega) (by omega) (by omega) (by omega)) (fun q hq => by rw [hk2]), ?_, fun j hj => ?_, TP_same g4 (q1 2 (by omega) (by omega) (by omega) (by omega)) (q1 3 (by omega) (by omega) (by omega) (by omega)) (c141 6 (by omega)) (q1 146 (by omega) (by omega) (by omega) (by omega)), ?_⟩
    · rw [hf, if_pos hb, if_pos (ixI5 hk), nI_clamp (by omega), hra, if_pos (gTn_ob gk), if_pos (gob_T h1), h1.1.1, n1, gB0_some, b1_eq]
    · rw [hg, if_pos hb, ← hP]
      show gB0 (fX9_copyCity (nI 0) (nI 1 + nI k) P) _ = _
      rw [nI_add, k1, gB0_some, if_pos (ix154 hk), nI_clamp (by omega), nb_1]
    · unfold TWO; rw [hk2]; exact g2
    · obtain ⟨b, b1', b2, b3⟩ := g3 j hj
      have e07 : (gSI K 154 k 1).1 0 7 = M.1 0 7 ||| b1 k := by rw [gSI_ne (by omega), k4 0 (by omega), p2]
      by_cases e : j = k
      · subst e
        refine ⟨true, gSI_eq, ?_, fun _ => ⟨v, ⟨hv, h2, h3⟩, RT_same rTN (fun i hi => ?_), ?_⟩⟩
        · rw [e07, b_or, bt_b1 (by omega), decide_eq_true rfl, Bool.or_true]
        · rw [gSI_ne (by omega), k4 _ (by omega), p1 _ (by omega) (by omega)]
        · rw [Nat.add_comm]
          exact RAk_cp hv h3 rk0 r4
      · refine ⟨b, ?_, ?_, fun hb => ?_⟩
        · rw [gSI_nj e, k4 154 (by omega), p1 154 (by omega) (by omega), n3 154 (by omega)]; exact b1'
        · rw [e07, b_or, bt_b1 (by omega), decide_eq_false e, Bool.or_false]; exact b2
        · obtain ⟨w, w1, w2, w3⟩ := b3 hb
          exact ⟨w, w1, RT_same w2 (fun i hi => q1 _ (by omega) (by omega) (by omega) (by omega)), RAk_o (b := 1 + k) (by omega) w1.1 w1.2.2 w3 r3⟩
    · unfold FL
      rw [q1 1 (by omega) (by omega) (by omega) (by omega), c141 14 (by omega), c141 15 (by omega)]; exact g5
  · refine ⟨-2, M, gSI M 141 0 0, ?_, ?_, rt⟩
    · rw [hf, if_neg hb]
    · rw [hg, if_neg hb]
theorem S_back (x : Int32) : gSt (fX8_back x) (fX9_back x) := fun M hM => by
  have hI := hM
  have rt := hM.kp (kp0 M)
  obtain ⟨t, v, z, ⟨h1, h2, h3⟩, h4⟩ := hM
  have tt := tw_t h4 h1.1.1
  have hg : ∀ N, fX9_back x N = if inR x 3 = true then (if gIx 3 154 x = true then if ((gSI N 141 0 0).1 154 (Int32.toNatClampNeg x)) = 0 then some ((-6 : Int32), gSI N 141 0 0) else gB0 (fX9_copyCity ((1 : Int32) + x) (0 : Int32) (gSI N 141 0 0)) (fun M4 => some ((0 : Int32), M4)) else none) else some (-2, gSI N 141 0 0) := fun N => by
    unfold fX9_back fX9_back_0 fX9_back_11
    rw [F_in2, gB0_some, ite_bI]
  have hf : fX8_back x M = if inR x 3 = true then (gB0 (fX8_has (M.1 0 7) x M) (fun r1 => if r1 = 0 then some ((-6 : Int32), M) else if gOb 7 (M.2.2 0) = true then if gIx 6 5 x = true then if gOb 7 (gRa 5 (Int32.toNatClampNeg x)) = true then gB0 (fX7_copyFrom (M.2.2 0) (gRa 5 (Int32.toNatClampNeg x)) M) (fun M6 => some ((0 : Int32), M6)) else none else none else none)) else some (-2, M) := by
    unfold fX8_back fX8_back_0
    rw [sh5, in3]
  by_cases hb : inR x 3 = true
  · obtain ⟨k, hk, rfl⟩ := inR_k hb
    have hra : gRa 5 k = 66 + 15 * k := rfl
    have gk := tn_im hk
    obtain ⟨g1, g2, g3, g4, g5⟩ := h4
    obtain ⟨b, b1', b2, b3⟩ := g3 k hk
    cases b with
    | false =>
      refine ⟨-6, M, gSI M 141 0 0, ?_, ?_, rt⟩
      · rw [hf, if_pos hb, F_has _ (by omega), gB0_some, ite_bI, b2, if_neg (by decide)]
      · rw [hg, if_pos hb, if_pos (ix154 hk), nI_clamp (by omega), gSI_o (by omega), b1']; rfl
    | true =>
      obtain ⟨w, w1, w2, w3⟩ := b3 rfl
      obtain ⟨N, n1, n2, n3, n4⟩ := C_copyFrom (M := M) (gTn_of h1.1.2) gk (by omega)
      have rTN := RT_TE w1.1 (by omega) n2 w2
      obtain ⟨P, hP⟩ : ∃ P, P = gSI N 141 0 0 := ⟨_, rfl⟩
      have p1 : ∀ q, q ≠ 141 → P.1 q = N.1 q := fun q b => by rw [hP, gSI_ne b]
      have p3 : P.2 = M.2 := by rw [hP]; exact n4
      have p4 : ∀ j, j ≠ 0 → P.1 141 j = M.1 141 j := fun j hj => by rw [hP, gSI_nj hj, n3 141 (by omega)]
      obtain ⟨K, k1, k2, k3, k4, k5⟩ := M_copyCity (M := P) (a := 1 + k) (b := 0) (by omega) (by omega) (by omega)
      have q1 : ∀ q, q ≠ 141 → ¬ (t ≤ q ∧ q < t + 15) → (q < 147 ∨ 154 ≤ q) → K.1 q = M.1 q := fun q b c d => by
        rw [k4 q (by omega), p1 q b, n3 q (by omega)]
      have r1 : ∀ q, 147 ≤ q → q < 154 → P.1 q = M.1 q := fun q a b => by rw [p1 q (by omega), n3 q (by omega)]
      have r3 : ∀ q, 147 ≤ q → q < 154 → ∀ j, j < mkO q * 0 ∨ mkO q * 0 + mkO q ≤ j → K.1 q j = M.1 q j := fun q a b j hj => by
        rw [k3 q a b j hj, r1 q a b]
      have r4 : ∀ q, 147 ≤ q → q < 154 → ∀ j, j < mkO q → K.1 q (mkO q * 0 + j) = M.1 q (mkO q * (k + 1) + j) := fun q a b j hj => by
        rw [k2 q a b j hj, r1 q a b, Nat.add_comm 1 k]
      have hk2 : K.2 = M.2 := by rw [k5, p3]
      have rk := (RAk_0 K w).mp (RAk_cp w1.1 w1.2.2 w3 r4)
      have c141 : ∀ j, j ≠ 0 → K.1 141 j = M.1 141 j := fun j hj => by rw [k4 141 (by omega), p4 j hj]
      refine ⟨0, N, K, ?_, ?_, t, w, z, ⟨⟨⟨by rw [hk2]; exact h1.1.1, h1.1.2⟩, w1.1, RT_same rTN (fun i hi => ?_), rk.1, rk.2⟩, w1.2⟩, RO_same g1 (fun q hq => q1 q (by omega) (by omega) (by omega)) (fun q hq => by rw [hk2]), ?_, fun j hj => ?_, TP_same g4 (q1 2 (by omega) (by omega) (by omega)) (q1 3 (by omega) (by omega) (by omega)) (c141 6 (by omega)) (q1 146 (by omega) (by omega) (by omega)), ?_⟩
      · rw [hf, if_pos hb, F_has _ (by omega), gB0_some, ite_bI, b2, if_pos rfl, if_pos (gob_T h1), if_pos (ixI5 hk), nI_clamp (by omega), hra, if_pos (gTn_ob gk), h1.1.1, n1, gB0_some]
      · rw [hg, if_pos hb, if_pos (ix154 hk), nI_clamp (by omega), ← hP, p1 154 (by omega), n3 154 (by omega), b1', if_neg (by decide)]
        show gB0 (fX9_copyCity (nI 1 + nI k) (nI 0) P) _ = _
        rw [nI_add, k1, gB0_some]
      · rw [k4 _ (by omega), p1 _ (by omega)]
      · unfold TWO; rw [hk2]; exact g2
      · exact IM_same hj (g3 j hj) (by rw [q1 0 (by omega) (by omega) (by omega)]) (fun q a b => q1 q (by omega) (by omega) (by omega)) (fun q a b i hi => r3 q a b i (by omega)) (q1 154 (by omega) (by omega) (by omega))
      · unfold FL
        rw [q1 1 (by omega) (by omega) (by omega), c141 14 (by omega), c141 15 (by omega)]; exact g5
  · refine ⟨-2, M, gSI M 141 0 0, ?_, ?_, rt⟩
    · rw [hf, if_neg hb]
    · rw [hg, if_neg hb]
