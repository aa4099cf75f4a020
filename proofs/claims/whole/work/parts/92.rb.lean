/-! The tape: feed, end. -/
def shN : Nat → Int32
  | 0 => 24
  | 1 => 16
  | 2 => 8
  | 3 => 0
  | _ => -8
theorem shN_s : ∀ i, i < 4 → ¬ shN i < 0 ∧ shN i + (-8) = shN (i + 1) := by decide
def fbO (x : Int32) (i : Nat) : Int32 := vp_nar .byte ((x >>> (shN i &&& 31)).toInt8.toInt32)
theorem fb_r (x : Int32) (i : Nat) : (fbO x i).toInt8.toInt32 = fbO x i := by
  unfold fbO
  rw [pk_vb]
  simp
/-- four bytes more -/
def apO (f : Nat → Int32) (n : Nat) (x : Int32) : Nat → Int32 := fun k => if k < n then f k else fbO x (k - n)
/-- the tape's n bytes, the class's and the reference's -/
def TC8 (M : gMem) (n : Nat) (f : Nat → Int32) : Prop := M.1 2 1 = nI n ∧ ∀ k, k < n → M.1 3 k = f k
def TC9 (M : gMem) (n : Nat) (f : Nat → Int32) : Prop := M.1 141 6 = nI n ∧ ∀ k, k < n → M.1 146 k = f k
theorem ix3b {k : Nat} (h : k < 800) : gIx 2 3 (nI k) = true := gIx_k rfl (by decide) h (by omega)
theorem ix146 {k : Nat} (h : k < 800) : gIx 2 146 (nI k) = true := gIx_k rfl (by decide) h (by omega)
theorem C_put4 {M : gMem} {n : Nat} {f : Nat → Int32} (h : TC8 M n f) (hn : n + 4 ≤ 800) (x : Int32) : ∃ N, fX6_put x M = some N ∧ TC8 N (n + 4) (apO f n x) ∧ (∀ q, q ≠ 2 → q ≠ 3 → N.1 q = M.1 q) ∧ N.2 = M.2 := by
  unfold fX6_put fX6_put_0 fX6_put_3h
  refine gLp_inv (fun i (st : Int32 × gMem) => st.1 = shN i ∧ TC8 st.2 (n + i) (apO f n x) ∧ (∀ q, q ≠ 2 → q ≠ 3 → st.2.1 q = M.1 q) ∧ st.2.2 = M.2) 4 (fun (N : gMem) => TC8 N (n + 4) (apO f n x) ∧ (∀ q, q ≠ 2 → q ≠ 3 → N.1 q = M.1 q) ∧ N.2 = M.2) (by omega) (fun i st hi hI => ?_) (fun st hI => ?_) _ ⟨rfl, ⟨h.1, fun k hk => ?_⟩, fun _ _ _ => rfl, rfl⟩
  · obtain ⟨i', N⟩ := st
    obtain ⟨g1, ⟨g2, g3⟩, g4, g5⟩ := hI
    have g1 : i' = shN i := g1
    subst g1
    have g2 : N.1 2 1 = nI (n + i) := g2
    have g3 : ∀ k, k < n + i → N.1 3 k = apO f n x k := g3
    have g4 : ∀ q, q ≠ 2 → q ≠ 3 → N.1 q = M.1 q := g4
    refine Or.inl ?_
    show ∃ s', fX6_put_3 x (shN i) N = _ ∧ _
    unfold fX6_put_3 fX6_put_41
    rw [if_neg (shN_s i hi).1, g2, if_neg (nI_pos (by omega)), show (nI (gSh 3).2 : Int32) = nI 800 from rfl, if_neg (nI_ge (by omega) (by omega)), if_pos (ix3b (by omega)), nI_clamp (by omega), (shN_s i hi).2, gSI_o (by omega), g2, nI_1]
    refine ⟨_, rfl, rfl, ⟨gSI_eq, fun k hk => ?_⟩, fun q a b => (gSI_ne a).trans ((gSI_ne b).trans (g4 q a b)), g5⟩
    show (gSI (gSI N 3 (n + i) (fbO x i)) 2 1 (nI (n + i + 1))).1 3 k = apO f n x k
    rw [gSI_o (by omega)]
    by_cases e : k = n + i
    · subst e
      rw [gSI_eq]
      unfold apO
      rw [if_neg (by omega)]
      congr 1; omega
    · rw [gSI_nj e]; exact g3 k (by omega)
  · obtain ⟨i', N⟩ := st
    obtain ⟨g1, g2⟩ := hI
    have g1 : i' = shN 4 := g1
    subst g1
    show ∃ r, fX6_put_3 x (shN 4) N = _ ∧ _
    unfold fX6_put_3
    rw [if_pos (by decide)]
    exact ⟨_, rfl, g2⟩
  · unfold apO
    rw [if_pos (show k < n from hk)]
    exact h.2 k hk
theorem M_four {M : gMem} {n : Nat} {f : Nat → Int32} (h : TC9 M n f) (hn : n + 4 ≤ 800) (x : Int32) : ∃ N, fX9_four x M = some N ∧ TC9 N (n + 4) (apO f n x) ∧ (∀ q, q ≠ 141 → q ≠ 146 → N.1 q = M.1 q) ∧ (∀ j, j ≠ 6 → N.1 141 j = M.1 141 j) ∧ N.2 = M.2 := by
  unfold fX9_four fX9_four_0 fX9_four_3h
  refine gLp_inv (fun i (st : Int32 × gMem) => st.1 = shN i ∧ TC9 st.2 (n + i) (apO f n x) ∧ (∀ q, q ≠ 141 → q ≠ 146 → st.2.1 q = M.1 q) ∧ (∀ j, j ≠ 6 → st.2.1 141 j = M.1 141 j) ∧ st.2.2 = M.2) 4 (fun (N : gMem) => TC9 N (n + 4) (apO f n x) ∧ (∀ q, q ≠ 141 → q ≠ 146 → N.1 q = M.1 q) ∧ (∀ j, j ≠ 6 → N.1 141 j = M.1 141 j) ∧ N.2 = M.2) (by omega) (fun i st hi hI => ?_) (fun st hI => ?_) _ ⟨rfl, ⟨h.1, fun k hk => ?_⟩, fun _ _ _ => rfl, fun _ _ => rfl, rfl⟩
  · obtain ⟨i', N⟩ := st
    obtain ⟨g1, ⟨g2, g3⟩, g4, g6, g5⟩ := hI
    have g1 : i' = shN i := g1
    subst g1
    have g2 : N.1 141 6 = nI (n + i) := g2
    have g3 : ∀ k, k < n + i → N.1 146 k = apO f n x k := g3
    have g4 : ∀ q, q ≠ 141 → q ≠ 146 → N.1 q = M.1 q := g4
    have g6 : ∀ j, j ≠ 6 → N.1 141 j = M.1 141 j := g6
    refine Or.inl ?_
    show ∃ s', fX9_four_3 x (shN i) N = _ ∧ _
    unfold fX9_four_3 fX9_four_22
    rw [if_neg (shN_s i hi).1, g2, if_pos (ix146 (by omega)), nI_clamp (by omega), (shN_s i hi).2, gSI_o (by omega), g2, nI_1]
    refine ⟨_, rfl, rfl, ⟨gSI_eq, fun k hk => ?_⟩, fun q a b => (gSI_ne a).trans ((gSI_ne b).trans (g4 q a b)), fun j hj => (gSI_nj hj).trans ((gSI_o (by omega)).trans (g6 j hj)), g5⟩
    show (gSI (gSI N 146 (n + i) (fbO x i)) 141 6 (nI (n + i + 1))).1 146 k = apO f n x k
    rw [gSI_o (by omega)]
    by_cases e : k = n + i
    · subst e
      rw [gSI_eq]
      unfold apO
      rw [if_neg (by omega)]
      congr 1; omega
    · rw [gSI_nj e]; exact g3 k (by omega)
  · obtain ⟨i', N⟩ := st
    obtain ⟨g1, g2⟩ := hI
    have g1 : i' = shN 4 := g1
    subst g1
    show ∃ r, fX9_four_3 x (shN 4) N = _ ∧ _
    unfold fX9_four_3
    rw [if_pos (by decide)]
    exact ⟨_, rfl, g2⟩
  · unfold apO
    rw [if_pos (show k < n from hk)]
    exact h.2 k hk
/-- the tape alone has changed -/
theorem INV_tape {M N : gMem} (h : INV M) (e1 : ∀ q, q ≠ 2 → q ≠ 3 → q ≠ 141 → q ≠ 146 → N.1 q = M.1 q) (e2 : ∀ j, j = 14 ∨ j = 15 → N.1 141 j = M.1 141 j) (e3 : N.2 = M.2) (hr : TP N) : INV N := by
  obtain ⟨t, v, z, ⟨h1, h2, h3⟩, h4⟩ := h
  have tt := tw_t h4 h1.1.1
  obtain ⟨g1, g2, g3, g4, g5⟩ := h4
  refine ⟨t, v, z, ⟨⟨⟨by rw [e3]; exact h1.1.1, h1.1.2⟩, h1.2.1, RT_same h1.2.2.1 (fun i hi => e1 _ (by omega) (by omega) (by omega) (by omega)), RA_same h1.2.2.2.1 (fun q a b => e1 q (by omega) (by omega) (by omega) (by omega)), RC_same h1.2.2.2.2 (fun q a b => e1 q (by omega) (by omega) (by omega) (by omega))⟩, h2, h3⟩, RO_same g1 (fun q hq => e1 q (by omega) (by omega) (by omega) (by omega)) (fun q hq => by rw [e3]), ?_, fun k hk => ?_, hr, ?_⟩
  · unfold TWO; rw [e3]; exact g2
  · exact IM_same hk (g3 k hk) (by rw [e1 0 (by omega) (by omega) (by omega) (by omega)]) (fun q a b => e1 q (by omega) (by omega) (by omega) (by omega)) (fun q a b j hj => by rw [e1 q (by omega) (by omega) (by omega) (by omega)]) (e1 154 (by omega) (by omega) (by omega) (by omega))
  · unfold FL
    rw [e1 1 (by omega) (by omega) (by omega) (by omega), e2 14 (by omega), e2 15 (by omega)]; exact g5
theorem ap_r {f : Nat → Int32} {n : Nat} {x : Int32} (h : ∀ k, k < n → (f k).toInt8.toInt32 = f k) : ∀ k, k < n + 4 → (apO f n x k).toInt8.toInt32 = apO f n x k := fun k hk => by
  unfold apO
  by_cases c : k < n
  · rw [if_pos c]; exact h k c
  · rw [if_neg c]; exact fb_r _ _
theorem S_feed (a b c d e : Int32) : gSt (fX8_feed a b c d e) (fX9_feed a b c d e) := fun M hM => by
  have hI := hM
  have rt := hM.kp (kp0 M)
  obtain ⟨t, v, z, -, h4⟩ := hM
  obtain ⟨g1, g2, g3, ⟨n, n1, n2, n3, n4⟩, g5⟩ := h4
  by_cases hn : n + 20 ≤ 800
  · have r0 : ∀ k, k < n → (M.1 3 k).toInt8.toInt32 = M.1 3 k := fun k hk => (n4 k hk).2
    obtain ⟨N1, a1, b1', c1, d1⟩ := C_put4 (M := M) (n := n) (f := M.1 3) ⟨n2, fun _ _ => rfl⟩ (by omega) a
    obtain ⟨N2, a2, b2, c2, d2⟩ := C_put4 b1' (by omega) b
    obtain ⟨N3, a3, b3, c3, d3⟩ := C_put4 b2 (by omega) c
    obtain ⟨N4, a4, b4, c4, d4⟩ := C_put4 b3 (by omega) d
    obtain ⟨N5, a5, b5, c5, d5⟩ := C_put4 b4 (by omega) e
    have far : ∀ q, q ≠ 2 → q ≠ 3 → N5.1 q = M.1 q := fun q x y => by rw [c5 q x y, c4 q x y, c3 q x y, c2 q x y, c1 q x y]
    have k0 : TC9 (gSI N5 141 0 0) n (M.1 3) := ⟨by rw [gSI_nj (by omega), far 141 (by omega) (by omega)]; exact n3, fun k hk => by rw [gSI_o (by omega), far 146 (by omega) (by omega)]; exact (n4 k hk).1.symm⟩
    obtain ⟨K1, p1, q1, s1, u1, t1⟩ := M_four k0 (by omega) a
    obtain ⟨K2, p2, q2, s2, u2, t2⟩ := M_four q1 (by omega) b
    obtain ⟨K3, p3, q3, s3, u3, t3⟩ := M_four q2 (by omega) c
    obtain ⟨K4, p4, q4, s4, u4, t4⟩ := M_four q3 (by omega) d
    obtain ⟨K5, p5, q5, s5, u5, t5⟩ := M_four q4 (by omega) e
    have kf : ∀ q, q ≠ 141 → q ≠ 146 → K5.1 q = N5.1 q := fun q x y => by rw [s5 q x y, s4 q x y, s3 q x y, s2 q x y, s1 q x y, gSI_ne x]
    have kj : ∀ j, j ≠ 6 → j ≠ 0 → K5.1 141 j = M.1 141 j := fun j x y => by rw [u5 j x, u4 j x, u3 j x, u2 j x, u1 j x, gSI_nj y, far 141 (by omega) (by omega)]
    refine ⟨nI (n + 20), N5, K5, ?_, ?_, INV_tape hI (fun q x y z w => by rw [kf q z w, far q x y]) (fun j hj => kj j (by omega) (by omega)) ?_ ⟨n + 20, hn, ?_, q5.1, fun k hk => ⟨?_, ?_⟩⟩⟩
    · unfold fX8_feed fX8_feed_0
      rw [n2, if_pos (show nI n ≤ (780 : Int32) from nI_le (b := 780) (by omega) (by omega)), a1, gB0_some, a2, gB0_some, a3, gB0_some, a4, gB0_some, a5, gB0_some, b5.1]
    · unfold fX9_feed fX9_feed_0 fX9_feed_6
      rw [k0.1, if_pos (show nI n + 20 ≤ (800 : Int32) from by rw [show nI n + 20 = nI (n + 20) from nI_add n 20]; exact nI_le (b := 800) (by omega) (by omega)), p1, gB0_some, p2, gB0_some, p3, gB0_some, p4, gB0_some, p5, gB0_some, q5.1]
    · rw [t5, t4, t3, t2, t1]
      show N5.2 = M.2
      rw [d5, d4, d3, d2, d1]
    · rw [kf 2 (by omega) (by omega)]; exact b5.1
    · rw [kf 3 (by omega) (by omega), b5.2 k hk, q5.2 k hk]
    · rw [kf 3 (by omega) (by omega), b5.2 k hk]
      exact ap_r (ap_r (ap_r (ap_r (ap_r r0)))) k hk
  · refine ⟨-1, M, gSI M 141 0 0, ?_, ?_, rt⟩
    · unfold fX8_feed fX8_feed_0
      rw [n2, if_neg (show ¬ nI n ≤ (780 : Int32) from nI_ge (a := 780) (by omega) (by omega))]
    · unfold fX9_feed fX9_feed_0 fX9_feed_6
      rw [gSI_nj (by omega), n3, if_neg (show ¬ nI n + 20 ≤ (800 : Int32) from by rw [show nI n + 20 = nI (n + 20) from nI_add n 20]; exact nI_ge (a := 800) (by omega) (by omega))]
theorem S_end (x : Int32) : gSt (fX8_end x) (fX9_end x) := fun M hM => by
  have hI := hM
  have rt := hM.kp (kp0 M)
  obtain ⟨t, v, z, -, h4⟩ := hM
  obtain ⟨g1, g2, g3, ⟨n, n1, n2, n3, n4⟩, g5⟩ := h4
  have hf : fX8_end x M = if inR x (n + 1) = true then some (x, gSI M 2 1 x) else some (-1, M) := by
    unfold fX8_end fX8_end_0 inR
    have z0 : (0 : Int32).toInt = 0 := rfl
    rw [n2]
    simp only [Int32.lt_iff_toInt_lt, Int32.le_iff_toInt_le, z0, nI_int n (by omega)]
    by_cases c1 : x.toInt < 0
    · rw [if_pos c1, decide_eq_false (show ¬ (0 : Int) ≤ x.toInt by omega)]; rfl
    · rw [if_neg c1, decide_eq_true (show (0 : Int) ≤ x.toInt by omega)]
      by_cases c2 : x.toInt ≤ (n : Int)
      · rw [if_pos c2, decide_eq_true (show x.toInt < ((n + 1 : Nat) : Int) by omega)]; rfl
      · rw [if_neg c2, decide_eq_false (show ¬ x.toInt < ((n + 1 : Nat) : Int) by omega)]; rfl
  have hg : ∀ N, N.1 141 6 = nI n → fX9_end x N = if inR x (n + 1) = true then some (x, gSI (gSI N 141 0 0) 141 6 x) else some (-1, gSI N 141 0 0) := fun N hN => by
    have e1 : (decide ((0 : Int64).toInt ≤ x.toInt) && decide (x.toInt ≤ (n : Int))) = inR x (n + 1) := by
      unfold inR
      have z0 : (0 : Int64).toInt = 0 := rfl
      rw [z0]
      congr 1
      exact decide_eq_decide.mpr (by omega)
    unfold fX9_end fX9_end_0 fX9_end_9
    rw [F_in, gB0_some, ite_bI, gSI_nj (by omega), hN, Int32.toInt_toInt64, Int32.toInt_toInt64, nI_int n (by omega), e1]
  by_cases hb : inR x (n + 1) = true
  · obtain ⟨m, hm, rfl⟩ := inR_k hb
    refine ⟨nI m, gSI M 2 1 (nI m), gSI (gSI (gSI M 2 1 (nI m)) 141 0 0) 141 6 (nI m), by rw [hf, if_pos hb], by rw [hg _ (by rw [gSI_o (by omega)]; exact n3), if_pos hb], INV_tape hI (fun q x y z w => by rw [gSI_ne z, gSI_ne z, gSI_ne x]) (fun j hj => by rw [gSI_nj (by omega), gSI_nj (by omega), gSI_o (by omega)]) rfl ⟨m, by omega, ?_, gSI_eq, fun k hk => ?_⟩⟩
    · rw [gSI_o (by omega), gSI_o (by omega), gSI_eq]
    · rw [gSI_o (by omega), gSI_o (by omega), gSI_o (by omega), gSI_o (by omega), gSI_o (by omega), gSI_o (by omega)]
      exact n4 k (by omega)
  · exact ⟨-1, M, gSI M 141 0 0, by rw [hf, if_neg hb], by rw [hg M n3, if_neg hb], rt⟩
