/-! Numbers pasted. -/
def reB (sz : Nat) (x n : Int32) : Bool := decide (0 ≤ x.toInt) && (decide (0 ≤ n.toInt) && decide (x.toInt + n.toInt ≤ (sz : Int)))
theorem re_k {sz : Nat} {x n : Int32} (h : reB sz x n = true) (hs : sz ≤ 60) : ∃ i m, x = nI i ∧ n = nI m ∧ i + m ≤ sz := by
  unfold reB at h
  simp only [Bool.and_eq_true, decide_eq_true_eq] at h
  obtain ⟨i, hi, rfl⟩ := inR_k (x := x) (n := 61) (by unfold inR; rw [Bool.and_eq_true, decide_eq_true_eq, decide_eq_true_eq]; omega)
  obtain ⟨m, hm, rfl⟩ := inR_k (x := n) (n := 61) (by unfold inR; rw [Bool.and_eq_true, decide_eq_true_eq, decide_eq_true_eq]; omega)
  rw [nI_int _ (by omega), nI_int _ (by omega)] at h
  exact ⟨i, m, rfl, rfl, by omega⟩
theorem C_reaches {M : gMem} {o sz : Nat} (h : M.1 o 2 = nI sz) (hs : sz ≤ 60) (x n : Int32) : fX4_reaches o x n M = some (bI (reB sz x n)) := by
  unfold fX4_reaches fX4_reaches_0 reB
  have z0 : (0 : Int32).toInt = 0 := rfl
  rw [h]
  simp only [z0, Int32.lt_iff_toInt_lt, nI_int sz (by omega)]
  by_cases c1 : x.toInt < 0
  · rw [if_pos c1, decide_eq_false (show ¬ (0 : Int) ≤ x.toInt by omega)]; rfl
  · rw [if_neg c1, decide_eq_true (show (0 : Int) ≤ x.toInt by omega)]
    by_cases c2 : n.toInt < 0
    · rw [if_pos c2, decide_eq_false (show ¬ (0 : Int) ≤ n.toInt by omega)]; rfl
    · rw [if_neg c2, decide_eq_true (show (0 : Int) ≤ n.toInt by omega)]
      by_cases c3 : (sz : Int) < x.toInt
      · rw [if_pos c3, decide_eq_false (show ¬ x.toInt + n.toInt ≤ (sz : Int) by omega)]; rfl
      · rw [if_neg c3, j_sub (nI_int sz (by omega)) rfl (by omega)]
        by_cases c4 : (sz : Int) - x.toInt < n.toInt
        · rw [if_pos c4, decide_eq_false (show ¬ x.toInt + n.toInt ≤ (sz : Int) by omega)]; rfl
        · rw [if_neg c4, decide_eq_true (show x.toInt + n.toInt ≤ (sz : Int) by omega)]; rfl
def zPa (z : gRw) (s i a k n : Nat) : gRw := (z.1, z.2.1, fun b j => if b = a ∧ k ≤ j ∧ j < k + n then z.2.2 s (i + (j - k)) else z.2.2 b j)
theorem ar4 : ∀ s, s < 4 → gAr0 4 (6 + 2 * s + 1) = true := by decide +kernel
theorem gAr4 {s : Nat} (h : s < 4) : gAr 4 (6 + 2 * s + 1) = true := gAr_c (ar4 s h)
theorem gCJ_eq {M : gMem} {o : Nat} {f : Nat → Int64} : (gCJ M o f).2.1 o = f := if_pos rfl
theorem gCJ_ne {M : gMem} {o q : Nat} {f : Nat → Int64} (h : q ≠ o) : (gCJ M o f).2.1 q = M.2.1 q := if_neg h
theorem ix145 {k : Nat} (h : k < 60) : gIx 4 145 (nI k) = true := gIx_k rfl (by decide) h (by omega)
theorem M_pas2 {M : gMem} {a k n : Nat} (ha : a < 4) (hk : k + n ≤ 60) : ∃ N, fX9_paste_155h (nI a) (nI k) (nI n) (0 : Int32) M = some (0, N) ∧ N.1 = M.1 ∧ (∀ y, y < n → N.2.1 144 (60 * a + k + y) = M.2.1 145 y) ∧ (∀ j, j < 60 * a + k ∨ 60 * a + k + n ≤ j → N.2.1 144 j = M.2.1 144 j) ∧ (∀ q, q ≠ 144 → N.2.1 q = M.2.1 q) ∧ N.2.2 = M.2.2 := by
  have key : ∃ r, fX9_paste_155h (nI a) (nI k) (nI n) (0 : Int32) M = some r ∧ (r.1 = 0 ∧ r.2.1 = M.1 ∧ (∀ y, y < n → r.2.2.1 144 (60 * a + k + y) = M.2.1 145 y) ∧ (∀ j, j < 60 * a + k ∨ 60 * a + k + n ≤ j → r.2.2.1 144 j = M.2.1 144 j) ∧ (∀ q, q ≠ 144 → r.2.2.1 q = M.2.1 q) ∧ r.2.2.2 = M.2.2) := by
    unfold fX9_paste_155h
    refine gLp_inv (fun i (st : Int32 × gMem) => st.1 = nI i ∧ st.2.1 = M.1 ∧ (∀ y, y < i → st.2.2.1 144 (60 * a + k + y) = M.2.1 145 y) ∧ (∀ j, j < 60 * a + k ∨ 60 * a + k + i ≤ j → st.2.2.1 144 j = M.2.1 144 j) ∧ (∀ q, q ≠ 144 → st.2.2.1 q = M.2.1 q) ∧ st.2.2.2 = M.2.2) n (fun (r : Int32 × gMem) => r.1 = 0 ∧ r.2.1 = M.1 ∧ (∀ y, y < n → r.2.2.1 144 (60 * a + k + y) = M.2.1 145 y) ∧ (∀ j, j < 60 * a + k ∨ 60 * a + k + n ≤ j → r.2.2.1 144 j = M.2.1 144 j) ∧ (∀ q, q ≠ 144 → r.2.2.1 q = M.2.1 q) ∧ r.2.2.2 = M.2.2) (by omega) (fun i st hi hI => ?_) (fun st hI => ?_) _ ⟨rfl, rfl, fun y hy => absurd hy (Nat.not_lt_zero y), fun _ _ => rfl, fun _ _ => rfl, rfl⟩
    · obtain ⟨i', N⟩ := st
      obtain ⟨g1, g2, g3, g4, g5, g6⟩ := hI
      have g1 : i' = nI i := g1
      subst g1
      have g3 : ∀ y, y < i → N.2.1 144 (60 * a + k + y) = M.2.1 145 y := g3
      have g4 : ∀ j, j < 60 * a + k ∨ 60 * a + k + i ≤ j → N.2.1 144 j = M.2.1 144 j := g4
      have g5 : ∀ q, q ≠ 144 → N.2.1 q = M.2.1 q := g5
      refine Or.inl ?_
      show ∃ s', fX9_paste_155 (nI a) (nI k) (nI n) (nI i) N = _ ∧ _
      unfold fX9_paste_155
      rw [if_neg (nI_ge hi (by omega)), show (60 : Int32) = nI 60 from rfl, pk_mul, nI_add, nI_add, if_pos (ix145 (by omega)), if_pos (ix144 (by omega)), nI_clamp (by omega), nI_clamp (by omega), nI_1, g5 145 (by omega)]
      refine ⟨_, rfl, rfl, g2, fun y hy => ?_, fun j hj => (gSJ_nj (by omega)).trans (g4 j (by omega)), fun q hq => (gSJ_ne hq).trans (g5 q hq), g6⟩
      by_cases e : y = i
      · subst e; exact gSJ_eq
      · exact (gSJ_nj (by omega)).trans (g3 y (by omega))
    · obtain ⟨i', N⟩ := st
      obtain ⟨g1, g2⟩ := hI
      have g1 : i' = nI n := g1
      subst g1
      show ∃ r, fX9_paste_155 (nI a) (nI k) (nI n) (nI n) N = _ ∧ _
      unfold fX9_paste_155
      rw [if_pos (Int32.le_refl _)]
      exact ⟨_, rfl, rfl, g2⟩
  obtain ⟨⟨r, N⟩, n1, n2, n3⟩ := key
  have n2 : r = 0 := n2
  subst n2
  exact ⟨N, n1, n3⟩
theorem M_pas1 {M : gMem} {s i a k n : Nat} (hs : s < 4) (hi : i + n ≤ 60) (ha : a < 4) (hk : k + n ≤ 60) : ∃ N, fX9_paste_118h (nI s) (nI i) (nI a) (nI k) (nI n) (0 : Int32) M = some (0, N) ∧ N.1 = M.1 ∧ (∀ y, y < n → N.2.1 144 (60 * a + k + y) = M.2.1 144 (60 * s + i + y)) ∧ (∀ j, j < 60 * a + k ∨ 60 * a + k + n ≤ j → N.2.1 144 j = M.2.1 144 j) ∧ (∀ q, q ≠ 144 → q ≠ 145 → N.2.1 q = M.2.1 q) ∧ N.2.2 = M.2.2 := by
  have key : ∃ r, fX9_paste_118h (nI s) (nI i) (nI a) (nI k) (nI n) (0 : Int32) M = some r ∧ (r.1 = 0 ∧ r.2.1 = M.1 ∧ (∀ y, y < n → r.2.2.1 144 (60 * a + k + y) = M.2.1 144 (60 * s + i + y)) ∧ (∀ j, j < 60 * a + k ∨ 60 * a + k + n ≤ j → r.2.2.1 144 j = M.2.1 144 j) ∧ (∀ q, q ≠ 144 → q ≠ 145 → r.2.2.1 q = M.2.1 q) ∧ r.2.2.2 = M.2.2) := by
    unfold fX9_paste_118h
    refine gLp_inv (fun x (st : Int32 × gMem) => st.1 = nI x ∧ st.2.1 = M.1 ∧ (∀ y, y < x → st.2.2.1 145 y = M.2.1 144 (60 * s + i + y)) ∧ (∀ q, q ≠ 145 → st.2.2.1 q = M.2.1 q) ∧ st.2.2.2 = M.2.2) n (fun (r : Int32 × gMem) => r.1 = 0 ∧ r.2.1 = M.1 ∧ (∀ y, y < n → r.2.2.1 144 (60 * a + k + y) = M.2.1 144 (60 * s + i + y)) ∧ (∀ j, j < 60 * a + k ∨ 60 * a + k + n ≤ j → r.2.2.1 144 j = M.2.1 144 j) ∧ (∀ q, q ≠ 144 → q ≠ 145 → r.2.2.1 q = M.2.1 q) ∧ r.2.2.2 = M.2.2) (by omega) (fun x st hx hI => ?_) (fun st hI => ?_) _ ⟨rfl, rfl, fun y hy => absurd hy (Nat.not_lt_zero y), fun _ _ => rfl, rfl⟩
    · obtain ⟨i', N⟩ := st
      obtain ⟨g1, g2, g3, g4, g5⟩ := hI
      have g1 : i' = nI x := g1
      subst g1
      have g3 : ∀ y, y < x → N.2.1 145 y = M.2.1 144 (60 * s + i + y) := g3
      have g4 : ∀ q, q ≠ 145 → N.2.1 q = M.2.1 q := g4
      refine Or.inl ?_
      show ∃ s', fX9_paste_118 (nI s) (nI i) (nI a) (nI k) (nI n) (nI x) N = _ ∧ _
      unfold fX9_paste_118
      rw [if_neg (nI_ge hx (by omega)), show (60 : Int32) = nI 60 from rfl, pk_mul, nI_add, nI_add, if_pos (ix144 (by omega)), if_pos (ix145 (by omega)), nI_clamp (by omega), nI_clamp (by omega), nI_1, g4 144 (by omega)]
      refine ⟨_, rfl, rfl, g2, fun y hy => ?_, fun q hq => (gSJ_ne hq).trans (g4 q hq), g5⟩
      by_cases e : y = x
      · subst e; exact gSJ_eq
      · exact (gSJ_nj (by omega)).trans (g3 y (by omega))
    · obtain ⟨i', N⟩ := st
      obtain ⟨g1, g2, g3, g4, g5⟩ := hI
      have g1 : i' = nI n := g1
      subst g1
      have g2 : N.1 = M.1 := g2
      have g3 : ∀ y, y < n → N.2.1 145 y = M.2.1 144 (60 * s + i + y) := g3
      have g4 : ∀ q, q ≠ 145 → N.2.1 q = M.2.1 q := g4
      have g5 : N.2.2 = M.2.2 := g5
      obtain ⟨K, k1, k2, k3, k4, k5, k6⟩ := M_pas2 (M := N) ha hk
      show ∃ r, fX9_paste_118 (nI s) (nI i) (nI a) (nI k) (nI n) (nI n) N = _ ∧ _
      unfold fX9_paste_118
      rw [if_pos (Int32.le_refl _), k1, gEx_some]
      refine ⟨_, rfl, rfl, k2.trans g2, fun y hy => (k3 y hy).trans (g3 y hy), fun j hj => (k4 j hj).trans (by rw [g4 144 (by omega)]), fun q q1 q2 => (k5 q q1).trans (g4 q q2), k6.trans g5⟩
  obtain ⟨⟨r, N⟩, n1, n2, n3⟩ := key
  have n2 : r = 0 := n2
  subst n2
  exact ⟨N, n1, n3⟩
theorem S_paste (a b c d e : Int32) : gSt (fX8_paste a b c d e) (fX9_paste a b c d e) := fun M hM => by
  have hI := hM
  have rt := hM.kp (kp0 M)
  obtain ⟨t, v, z, ⟨h1, h2, h3⟩, h4⟩ := hM
  have zr := h4.1
  rcases slot_r (x := a) with ⟨s, hs, rfl⟩ | hx
  · rcases slot_r (x := c) with ⟨w, hw, rfl⟩ | hy
    · have ls := zr.b s hs
      have lw := zr.b w hw
      have is : inR (nI s) 4 = true := by rw [inR_nI (by omega), decide_eq_true hs]
      have iw : inR (nI w) 4 = true := by rw [inR_nI (by omega), decide_eq_true hw]
      have hf : ∀ X, (reB (z.2.1 s) b e && reB (z.2.1 w) d e = true → (if gAr 4 (6 + 2 * s + 1) = true ∧ gAr 4 (6 + 2 * w + 1) = true ∧ 0 ≤ Int32.toInt e ∧ 0 ≤ Int32.toInt d ∧ 0 ≤ Int32.toInt b ∧ Int32.toInt b + Int32.toInt e ≤ ((gSh (6 + 2 * s + 1)).2 : Int) ∧ Int32.toInt d + Int32.toInt e ≤ ((gSh (6 + 2 * w + 1)).2 : Int) then some ((0 : Int32), (gCJ M (6 + 2 * w + 1) (va_cpy (M.2.1 (6 + 2 * s + 1)) (M.2.1 (6 + 2 * w + 1)) (Int32.toNatClampNeg b) (Int32.toNatClampNeg d) (Int32.toNatClampNeg e)))) else none) = X) → fX8_paste (nI s) b (nI w) d e M = if z.1 s = -1 then some (-6, M) else if z.1 w = -1 then some (-6, M) else if z.1 s = z.1 w then (if (reB (z.2.1 s) b e && reB (z.2.1 w) d e) = true then X else some (-7, M)) else some (-8, M) := fun X hX => by
        unfold fX8_paste fX8_paste_0
        rw [C_slot_k hs, gB0_some]
        show (if gOb 4 (6 + 2 * s) = true then _ else none) = _
        rw [if_pos (gOb4 hs), C_slot_k hw, gB0_some]
        show (if gOb 4 (6 + 2 * w) = true then _ else none) = _
        rw [if_pos (gOb4 hw), C_isThere zr hs, gB0_some, ite_bI, C_isThere zr hw, gB0_some, ite_bI, (zr s hs).1.1, (zr w hw).1.1, C_reaches (zr s hs).1.2.1 ls, gB0_some, ite_bI, C_reaches (zr w hw).1.2.1 lw, gB0_some, ite_bI]
        by_cases c1 : z.1 s = -1
        · rw [if_pos c1, decide_eq_true c1]; rfl
        · rw [if_neg c1, decide_eq_false c1]
          by_cases c2 : z.1 w = -1
          · rw [if_pos c2, decide_eq_true c2]; rfl
          · rw [if_neg c2, decide_eq_false c2]
            by_cases c3 : z.1 s = z.1 w
            · rw [if_pos c3, if_pos c3]
              cases r1 : reB (z.2.1 s) b e
              · rfl
              · cases r2 : reB (z.2.1 w) d e
                · rfl
                · rw [← hX (by rw [r1, r2]; rfl)]; rfl
            · rw [if_neg c3, if_neg c3]; rfl
      have hg : ∀ N, ROm N z → fX9_paste (nI s) b (nI w) d e N = if z.1 s = -1 then some (-6, gSI N 141 0 0) else if z.1 w = -1 then some (-6, gSI N 141 0 0) else if z.1 s = z.1 w then (if (reB (z.2.1 s) b e && reB (z.2.1 w) d e) = true then fX9_paste_118h (nI s) b (nI w) d e (0 : Int32) (gSI N 141 0 0) else some (-7, gSI N 141 0 0)) else some (-8, gSI N 141 0 0) := fun N hN => by
        have q1 : (gSI N 141 0 0).1 142 s = z.1 s := (gSI_o (by decide)).trans (hN s hs).1.1
        have q2 : (gSI N 141 0 0).1 143 s = nI (z.2.1 s) := (gSI_o (by decide)).trans (hN s hs).1.2
        have q3 : (gSI N 141 0 0).1 142 w = z.1 w := (gSI_o (by decide)).trans (hN w hw).1.1
        have q4 : (gSI N 141 0 0).1 143 w = nI (z.2.1 w) := (gSI_o (by decide)).trans (hN w hw).1.2
        have sm : ∀ x y : Int32, (x.toInt64 + y.toInt64).toInt = x.toInt + y.toInt := fun x y => by
          have bx := Int32.toInt_lt x
          have by' := Int32.toInt_lt y
          have cx := Int32.le_toInt x
          have cy := Int32.le_toInt y
          exact k_add (Int32.toInt_toInt64 x) (Int32.toInt_toInt64 y) (by omega)
        unfold fX9_paste fX9_paste_0 fX9_paste_6
        rw [M_isSlot, gB0_some, ite_bI, is, if_pos rfl, M_isSlot, gB0_some, ite_bI, iw, if_pos rfl, if_pos (ix142 hs), if_pos (ix142 hw), if_pos (ix142 hs), if_pos (ix142 hw), if_pos (ix143 hs), if_pos (ix143 hw), nI_clamp (show s < 2 ^ 31 by omega), nI_clamp (show w < 2 ^ 31 by omega), q1, q2, q3, q4]
        simp only [lg_cmp_gt, lg_cmp_le, Int64.lt_iff_toInt_lt, Int64.le_iff_toInt_le, sm, Int32.toInt_toInt64, nI_int _ (show z.2.1 s < 2 ^ 31 by omega), nI_int _ (show z.2.1 w < 2 ^ 31 by omega), lt0_i]
        by_cases c1 : z.1 s = -1
        · rw [if_pos c1, if_pos c1]
        · rw [if_neg c1, if_neg c1]
          by_cases c2 : z.1 w = -1
          · rw [if_pos c2, if_pos c2]
          · rw [if_neg c2, if_neg c2]
            by_cases c3 : z.1 s = z.1 w
            · rw [if_pos c3, if_pos c3]
              unfold reB
              by_cases d1 : b.toInt < 0
              · rw [if_pos d1, decide_eq_false (show ¬ (0 : Int) ≤ b.toInt by omega)]; simp
              · rw [if_neg d1, decide_eq_true (show (0 : Int) ≤ b.toInt by omega)]
                by_cases d2 : d.toInt < 0
                · rw [if_pos d2, decide_eq_false (show ¬ (0 : Int) ≤ d.toInt by omega)]; simp
                · rw [if_neg d2, decide_eq_true (show (0 : Int) ≤ d.toInt by omega)]
                  by_cases d3 : e.toInt < 0
                  · rw [if_pos d3, decide_eq_false (show ¬ (0 : Int) ≤ e.toInt by omega)]; simp
                  · rw [if_neg d3, decide_eq_true (show (0 : Int) ≤ e.toInt by omega)]
                    by_cases d4 : (z.2.1 s : Int) < b.toInt + e.toInt
                    · rw [if_pos d4, decide_eq_false (show ¬ b.toInt + e.toInt ≤ (z.2.1 s : Int) by omega)]; simp
                    · rw [if_neg d4, decide_eq_true (show b.toInt + e.toInt ≤ (z.2.1 s : Int) by omega)]
                      by_cases d5 : d.toInt + e.toInt ≤ (z.2.1 w : Int)
                      · rw [if_pos d5, decide_eq_true d5]; simp
                      · rw [if_neg d5, decide_eq_false d5]; simp
            · rw [if_neg c3, if_neg c3]
      by_cases c1 : z.1 s = -1
      · exact ⟨-6, M, gSI M 141 0 0, by rw [hf _ (fun _ => rfl), if_pos c1], by rw [hg M zr.m, if_pos c1], rt⟩
      by_cases c2 : z.1 w = -1
      · exact ⟨-6, M, gSI M 141 0 0, by rw [hf _ (fun _ => rfl), if_neg c1, if_pos c2], by rw [hg M zr.m, if_neg c1, if_pos c2], rt⟩
      by_cases c3 : z.1 s = z.1 w
      · by_cases c4 : (reB (z.2.1 s) b e && reB (z.2.1 w) d e) = true
        · have c4' := c4
          rw [Bool.and_eq_true] at c4'
          obtain ⟨i, n, rfl, rfl, hi⟩ := re_k c4'.1 ls
          obtain ⟨k, m, rfl, hm, hk⟩ := re_k c4'.2 lw
          have hk : k + n ≤ z.2.1 w := by
            unfold reB at c4'
            simp only [Bool.and_eq_true, decide_eq_true_eq] at c4'
            have hk60 : k < 2 ^ 31 := by omega
            have := c4'.2.2.2
            rw [nI_int k hk60, nI_int n (by omega)] at this
            omega
          have e0 : (gCJ M (6 + 2 * w + 1) (va_cpy (M.2.1 (6 + 2 * s + 1)) (M.2.1 (6 + 2 * w + 1)) i k n)).1 = M.1 := rfl
          have hm : ROm (gCJ M (6 + 2 * w + 1) (va_cpy (M.2.1 (6 + 2 * s + 1)) (M.2.1 (6 + 2 * w + 1)) i k n)) z := ROm_same zr.m rfl rfl (gCJ_ne (by omega))
          obtain ⟨K, k1, k2, k3, k4, k5, k6⟩ := M_pas1 (M := gSI (gCJ M (6 + 2 * w + 1) (va_cpy (M.2.1 (6 + 2 * s + 1)) (M.2.1 (6 + 2 * w + 1)) i k n)) 141 0 0) (i := i) (n := n) (k := k) hs (by omega) hw (by omega)
          have l144 : (gSI (gCJ M (6 + 2 * w + 1) (va_cpy (M.2.1 (6 + 2 * s + 1)) (M.2.1 (6 + 2 * w + 1)) i k n)) 141 0 0).2.1 144 = M.2.1 144 := gCJ_ne (by omega)
          refine ⟨0, gCJ M (6 + 2 * w + 1) (va_cpy (M.2.1 (6 + 2 * s + 1)) (M.2.1 (6 + 2 * w + 1)) i k n), K, ?_, ?_, INV_rows hI (z' := zPa z s i w k n) (fun q q1 q2 q3 q4 => ?_) (fun j hj => ?_) ?_ (RO_of zr.b (fun a ha => ⟨?_, fun j hj => ?_⟩) (fun a ha => ⟨?_, fun j hj => ?_⟩))⟩
          · rw [hf (some (0, gCJ M (6 + 2 * w + 1) (va_cpy (M.2.1 (6 + 2 * s + 1)) (M.2.1 (6 + 2 * w + 1)) i k n))) (fun _ => ?_), if_neg c1, if_neg c2, if_pos c3, if_pos c4]
            rw [nI_clamp (show i < 2 ^ 31 by omega), nI_clamp (show k < 2 ^ 31 by omega), nI_clamp (show n < 2 ^ 31 by omega), nI_int i (by omega), nI_int k (by omega), nI_int n (by omega), (sh4 s hs).1, (sh4 w hw).1]
            exact if_pos ⟨gAr4 hs, gAr4 hw, by omega, by omega, by omega, by show (i : Int) + n ≤ ((60 : Nat) : Int); omega, by show (k : Int) + n ≤ ((60 : Nat) : Int); omega⟩
          · rw [hg _ hm, if_neg c1, if_neg c2, if_pos c3, if_pos c4, k1]
          · rw [k2, gSI_ne q4]; rfl
          · rw [k2, gSI_nj (by omega)]; rfl
          · rw [k6]; rfl
          · rw [k2, gSI_ne (by omega)]; exact (zr.c a ha).1
          · have hj : j < z.2.1 a := hj
            rw [k5 _ (by omega) (by omega)]
            show (gCJ M (6 + 2 * w + 1) (va_cpy (M.2.1 (6 + 2 * s + 1)) (M.2.1 (6 + 2 * w + 1)) i k n)).2.1 (6 + 2 * a + 1) j = if a = w ∧ k ≤ j ∧ j < k + n then _ else _
            by_cases e1 : a = w
            · subst e1
              rw [gCJ_eq]
              by_cases e2 : k ≤ j ∧ j < k + n
              · rw [if_pos ⟨rfl, e2⟩, pk_cpy_in e2.1 e2.2]; exact (zr.c s hs).2 _ (by omega)
              · rw [if_neg (fun h => e2 h.2), pk_cpy_out (by omega)]; exact (zr.c a ha).2 j hj
            · rw [if_neg (fun h => e1 h.1), gCJ_ne (by omega)]; exact (zr.c a ha).2 j hj
          · rw [k2, gSI_ne (by omega), gSI_ne (by omega)]; exact (zr.m a ha).1
          · have hj : j < z.2.1 a := hj
            have la := zr.b a ha
            show K.2.1 144 (60 * a + j) = if a = w ∧ k ≤ j ∧ j < k + n then _ else _
            by_cases e1 : a = w ∧ k ≤ j ∧ j < k + n
            · obtain ⟨rfl, e2, e3⟩ := e1
              have := k3 (j - k) (by omega)
              rw [show 60 * a + k + (j - k) = 60 * a + j by omega, l144] at this
              rw [if_pos ⟨rfl, e2, e3⟩, this, show 60 * s + i + (j - k) = 60 * s + (i + (j - k)) by omega]
              exact (zr.m s hs).2 _ (by omega)
            · rw [if_neg e1, k4 _ (by omega), l144]; exact (zr.m a ha).2 j hj
        · exact ⟨-7, M, gSI M 141 0 0, by rw [hf _ (fun _ => rfl), if_neg c1, if_neg c2, if_pos c3, if_neg c4], by rw [hg M zr.m, if_neg c1, if_neg c2, if_pos c3, if_neg c4], rt⟩
      · exact ⟨-8, M, gSI M 141 0 0, by rw [hf _ (fun _ => rfl), if_neg c1, if_neg c2, if_neg c3], by rw [hg M zr.m, if_neg c1, if_neg c2, if_neg c3], rt⟩
    · refine ⟨-2, M, gSI M 141 0 0, ?_, ?_, rt⟩
      · unfold fX8_paste fX8_paste_0
        rw [C_slot_k hs, gB0_some]
        show (if gOb 4 (6 + 2 * s) = true then _ else none) = _
        rw [if_pos (gOb4 hs), C_slot_no hy]; rfl
      · unfold fX9_paste fX9_paste_0 fX9_paste_6
        rw [M_isSlot, gB0_some, ite_bI, inR_nI (by omega), decide_eq_true hs, if_pos rfl, M_isSlot, hy]; rfl
  · refine ⟨-2, M, gSI M 141 0 0, ?_, ?_, rt⟩
    · unfold fX8_paste fX8_paste_0
      rw [C_slot_no hx, gB0_some]
      show gB0 (fX8_slotAt c M) _ = _
      rcases slot_r (x := c) with ⟨w, hw, rfl⟩ | hy
      · rw [C_slot_k hw, gB0_some]
        show (if gOb 4 (6 + 2 * w) = true then _ else none) = _
        rw [if_pos (gOb4 hw)]
      · rw [C_slot_no hy]; rfl
    · unfold fX9_paste fX9_paste_0 fX9_paste_6
      rw [M_isSlot, hx]; rfl
