/-! Rows made, written, pasted. -/
def ROc (M : gMem) (z : gRw) : Prop := ∀ s, s < 4 → (M.1 (6 + 2 * s) 1 = z.1 s ∧ M.1 (6 + 2 * s) 2 = nI (z.2.1 s)) ∧ ∀ k, k < z.2.1 s → M.2.1 (6 + 2 * s + 1) k = z.2.2 s k
def ROm (M : gMem) (z : gRw) : Prop := ∀ s, s < 4 → (M.1 142 s = z.1 s ∧ M.1 143 s = nI (z.2.1 s)) ∧ ∀ k, k < z.2.1 s → M.2.1 144 (60 * s + k) = z.2.2 s k
def RB (z : gRw) : Prop := ∀ s, s < 4 → z.2.1 s ≤ 60
theorem RO_of {M : gMem} {z : gRw} (h1 : RB z) (h2 : ROc M z) (h3 : ROm M z) : RO M z := fun s hs => ⟨⟨(h2 s hs).1.1, (h2 s hs).1.2, (h3 s hs).1.1, (h3 s hs).1.2⟩, h1 s hs, fun k hk => ⟨(h2 s hs).2 k hk, (h3 s hs).2 k hk⟩⟩
theorem RO.c {M : gMem} {z : gRw} (h : RO M z) : ROc M z := fun s hs => ⟨⟨(h s hs).1.1, (h s hs).1.2.1⟩, fun k hk => ((h s hs).2.2 k hk).1⟩
theorem RO.m {M : gMem} {z : gRw} (h : RO M z) : ROm M z := fun s hs => ⟨⟨(h s hs).1.2.2.1, (h s hs).1.2.2.2⟩, fun k hk => ((h s hs).2.2 k hk).2⟩
theorem RO.b {M : gMem} {z : gRw} (h : RO M z) : RB z := fun s hs => (h s hs).2.1
theorem ROm_same {M N : gMem} {z : gRw} (h : ROm M z) (e1 : N.1 142 = M.1 142) (e2 : N.1 143 = M.1 143) (e3 : N.2.1 144 = M.2.1 144) : ROm N z := by unfold ROm; rw [e1, e2, e3]; exact h
theorem ROc_same {M N : gMem} {z : gRw} (h : ROc M z) (e1 : ∀ q, 6 ≤ q → q < 14 → N.1 q = M.1 q) (e2 : ∀ q, 6 ≤ q → q < 14 → N.2.1 q = M.2.1 q) : ROc N z := fun s hs => by
  rw [e1 _ (by omega) (by omega), e2 _ (by omega) (by omega)]; exact h s hs
/-- rows alone have changed -/
theorem INV_rows {M N : gMem} {z' : gRw} (h : INV M) (e1 : ∀ q, ¬ (6 ≤ q ∧ q < 14) → q ≠ 142 → q ≠ 143 → q ≠ 141 → N.1 q = M.1 q) (e2 : ∀ j, j = 6 ∨ j = 14 ∨ j = 15 → N.1 141 j = M.1 141 j) (e3 : N.2.2 = M.2.2) (hr : RO N z') : INV N := by
  obtain ⟨t, v, z, ⟨h1, h2, h3⟩, h4⟩ := h
  have tt := tw_t h4 h1.1.1
  obtain ⟨g1, g2, g3, g4, g5⟩ := h4
  refine ⟨t, v, z', ⟨⟨⟨by rw [e3]; exact h1.1.1, h1.1.2⟩, h1.2.1, RT_same h1.2.2.1 (fun i hi => e1 _ (by omega) (by omega) (by omega) (by omega)), RA_same h1.2.2.2.1 (fun q a b => e1 q (by omega) (by omega) (by omega) (by omega)), RC_same h1.2.2.2.2 (fun q a b => e1 q (by omega) (by omega) (by omega) (by omega))⟩, h2, h3⟩, hr, ?_, fun k hk => ?_, ?_, ?_⟩
  · unfold TWO; rw [e3]; exact g2
  · exact IM_same hk (g3 k hk) (by rw [e1 0 (by omega) (by omega) (by omega) (by omega)]) (fun q a b => e1 q (by omega) (by omega) (by omega) (by omega)) (fun q a b j hj => by rw [e1 q (by omega) (by omega) (by omega) (by omega)]) (e1 154 (by omega) (by omega) (by omega) (by omega))
  · exact TP_same g4 (e1 2 (by omega) (by omega) (by omega) (by omega)) (e1 3 (by omega) (by omega) (by omega) (by omega)) (e2 6 (by omega)) (e1 146 (by omega) (by omega) (by omega) (by omega))
  · unfold FL
    rw [e1 1 (by omega) (by omega) (by omega) (by omega), e2 14 (by omega), e2 15 (by omega)]; exact g5
theorem gMx_n : ∀ n, n ≤ 60 → gMx (0 : Int32) (gMn (nI n) (nI 60)) = nI n := by decide +kernel
theorem al4 : ∀ s, s < 4 → gAl0 (6 + 2 * s + 1) = true := by decide +kernel
theorem gAl4 {s : Nat} (h : s < 4) : gAl (6 + 2 * s + 1) = true := gAl_c (al4 s h)
def zRow (z : gRw) (s n : Nat) (w : Int32) : gRw := (fun a => if a = s then w else z.1 a, fun a => if a = s then n else z.2.1 a, fun a k => if a = s then 0 else z.2.2 a k)
theorem C_begin {M : gMem} {z : gRw} (hr : ROc M z) {s n : Nat} (w : Int32) (hs : s < 4) (hn : n ≤ 60) : ∃ N, fX4_begin (6 + 2 * s) w (nI n) M = some N ∧ ROc N (zRow z s n w) ∧ (∀ q, q ≠ 6 + 2 * s → N.1 q = M.1 q) ∧ (∀ q, q ≠ 6 + 2 * s + 1 → N.2.1 q = M.2.1 q) ∧ N.2.2 = M.2.2 := by
  unfold fX4_begin fX4_begin_0 fX4_begin_19
  rw [if_pos (gAl4 hs), (sh4 s hs).1, gMx_n n hn]
  have b1' : (gSI (gSI M (6 + 2 * s) 1 w) (6 + 2 * s) 2 (nI n)).1 (6 + 2 * s) 1 = w := (gSI_nj (by omega)).trans gSI_eq
  have b2 : (gSI (gSI M (6 + 2 * s) 1 w) (6 + 2 * s) 2 (nI n)).1 (6 + 2 * s) 2 = nI n := gSI_eq
  have b3 : ∀ q, q ≠ 6 + 2 * s → (gSI (gSI M (6 + 2 * s) 1 w) (6 + 2 * s) 2 (nI n)).1 q = M.1 q := fun q hq => (gSI_ne hq).trans (gSI_ne hq)
  have key : ∃ N, fX4_begin_24h (6 + 2 * s) (0 : Int32) (gSI (gSI M (6 + 2 * s) 1 w) (6 + 2 * s) 2 (nI n)) = some N ∧ (N.1 = (gSI (gSI M (6 + 2 * s) 1 w) (6 + 2 * s) 2 (nI n)).1 ∧ (∀ k, k < n → N.2.1 (6 + 2 * s + 1) k = 0) ∧ (∀ q, q ≠ 6 + 2 * s + 1 → N.2.1 q = M.2.1 q) ∧ N.2.2 = M.2.2) := by
    unfold fX4_begin_24h
    refine gLp_inv (fun i (st : Int32 × gMem) => st.1 = nI i ∧ st.2.1 = (gSI (gSI M (6 + 2 * s) 1 w) (6 + 2 * s) 2 (nI n)).1 ∧ (∀ k, k < i → st.2.2.1 (6 + 2 * s + 1) k = 0) ∧ (∀ q, q ≠ 6 + 2 * s + 1 → st.2.2.1 q = M.2.1 q) ∧ st.2.2.2 = M.2.2) n (fun (N : gMem) => N.1 = (gSI (gSI M (6 + 2 * s) 1 w) (6 + 2 * s) 2 (nI n)).1 ∧ (∀ k, k < n → N.2.1 (6 + 2 * s + 1) k = 0) ∧ (∀ q, q ≠ 6 + 2 * s + 1 → N.2.1 q = M.2.1 q) ∧ N.2.2 = M.2.2) (by omega) (fun i st hi hI => ?_) (fun st hI => ?_) _ ⟨rfl, rfl, fun k hk => absurd hk (Nat.not_lt_zero k), fun _ _ => rfl, rfl⟩
    · obtain ⟨i', N⟩ := st
      obtain ⟨g1, g2, g3, g4, g5⟩ := hI
      have g1 : i' = nI i := g1
      subst g1
      have g2 : N.1 = (gSI (gSI M (6 + 2 * s) 1 w) (6 + 2 * s) 2 (nI n)).1 := g2
      have g3 : ∀ k, k < i → N.2.1 (6 + 2 * s + 1) k = 0 := g3
      have g4 : ∀ q, q ≠ 6 + 2 * s + 1 → N.2.1 q = M.2.1 q := g4
      refine Or.inl ?_
      show ∃ s', fX4_begin_24 (6 + 2 * s) (nI i) N = _ ∧ _
      unfold fX4_begin_24
      rw [g2, b2, if_neg (nI_ge hi (by omega)), if_pos (ixV hs (by omega)), nI_clamp (by omega), nI_1]
      refine ⟨_, rfl, rfl, g2, fun k hk => ?_, fun q hq => (gSJ_ne hq).trans (g4 q hq), g5⟩
      by_cases e : k = i
      · subst e; exact gSJ_eq
      · exact (gSJ_nj e).trans (g3 k (by omega))
    · obtain ⟨i', N⟩ := st
      obtain ⟨g1, g2, g3, g4, g5⟩ := hI
      have g1 : i' = nI n := g1
      subst g1
      have g2 : N.1 = (gSI (gSI M (6 + 2 * s) 1 w) (6 + 2 * s) 2 (nI n)).1 := g2
      show ∃ r, fX4_begin_24 (6 + 2 * s) (nI n) N = _ ∧ _
      unfold fX4_begin_24
      rw [g2, b2, if_pos (Int32.le_refl _)]
      exact ⟨_, rfl, g2, g3, g4, g5⟩
  obtain ⟨N, n1, n2, n3, n4, n5⟩ := key
  refine ⟨N, n1, fun a ha => ?_, fun q hq => by rw [n2]; exact b3 q hq, n4, n5⟩
  unfold zRow
  dsimp only
  by_cases e : a = s
  · subst e
    rw [if_pos rfl, if_pos rfl, n2]
    exact ⟨⟨b1', b2⟩, fun k hk => by rw [if_pos rfl]; exact n3 k hk⟩
  · rw [if_neg e, if_neg e, n2, b3 _ (by omega), n4 _ (by omega)]
    refine ⟨(hr a ha).1, fun k hk => ?_⟩
    rw [if_neg e]; exact (hr a ha).2 k hk
theorem M_row {M : gMem} {z : gRw} (hr : ROm M z) (hb : RB z) {s n : Nat} (w : Int32) (hs : s < 4) (hn : n ≤ 60) : ∃ N, fX9_row_53 (nI s) (nI n) (nI n) (nI s) (gSI M 142 (Int32.toNatClampNeg (nI s)) w) = some (0, N) ∧ ROm N (zRow z s n w) ∧ (∀ q, q ≠ 142 → q ≠ 143 → N.1 q = M.1 q) ∧ (∀ q, q ≠ 144 → N.2.1 q = M.2.1 q) ∧ N.2.2 = M.2.2 := by
  unfold fX9_row_53
  rw [if_pos (ix143 hs), nI_clamp (by omega)]
  have c0 : ∀ q, q ≠ 142 → q ≠ 143 → (gSI (gSI M 142 s w) 143 s (nI n)).1 q = M.1 q := fun q a b => (gSI_ne b).trans (gSI_ne a)
  have c1 : (gSI (gSI M 142 s w) 143 s (nI n)).1 142 s = w := (gSI_o (by decide)).trans gSI_eq
  have c2 : (gSI (gSI M 142 s w) 143 s (nI n)).1 143 s = nI n := gSI_eq
  have c3 : ∀ a, a ≠ s → (gSI (gSI M 142 s w) 143 s (nI n)).1 142 a = M.1 142 a := fun a ha => (gSI_o (by decide)).trans (gSI_nj ha)
  have c4 : ∀ a, a ≠ s → (gSI (gSI M 142 s w) 143 s (nI n)).1 143 a = M.1 143 a := fun a ha => (gSI_nj ha).trans (gSI_o (by decide))
  have key : ∃ r, fX9_row_57h (nI s) (nI n) (0 : Int32) (gSI (gSI M 142 s w) 143 s (nI n)) = some r ∧ (r.1 = 0 ∧ r.2.1 = (gSI (gSI M 142 s w) 143 s (nI n)).1 ∧ (∀ k, k < n → r.2.2.1 144 (60 * s + k) = 0) ∧ (∀ k, k < 60 * s ∨ 60 * s + n ≤ k → r.2.2.1 144 k = M.2.1 144 k) ∧ (∀ q, q ≠ 144 → r.2.2.1 q = M.2.1 q) ∧ r.2.2.2 = M.2.2) := by
    unfold fX9_row_57h
    refine gLp_inv (fun i (st : Int32 × gMem) => st.1 = nI i ∧ st.2.1 = (gSI (gSI M 142 s w) 143 s (nI n)).1 ∧ (∀ k, k < i → st.2.2.1 144 (60 * s + k) = 0) ∧ (∀ k, k < 60 * s ∨ 60 * s + i ≤ k → st.2.2.1 144 k = M.2.1 144 k) ∧ (∀ q, q ≠ 144 → st.2.2.1 q = M.2.1 q) ∧ st.2.2.2 = M.2.2) n (fun (r : Int32 × gMem) => r.1 = 0 ∧ r.2.1 = (gSI (gSI M 142 s w) 143 s (nI n)).1 ∧ (∀ k, k < n → r.2.2.1 144 (60 * s + k) = 0) ∧ (∀ k, k < 60 * s ∨ 60 * s + n ≤ k → r.2.2.1 144 k = M.2.1 144 k) ∧ (∀ q, q ≠ 144 → r.2.2.1 q = M.2.1 q) ∧ r.2.2.2 = M.2.2) (by omega) (fun i st hi hI => ?_) (fun st hI => ?_) _ ⟨rfl, rfl, fun k hk => absurd hk (Nat.not_lt_zero k), fun _ _ => rfl, fun _ _ => rfl, rfl⟩
    · obtain ⟨i', N⟩ := st
      obtain ⟨g1, g2, g3, g6, g4, g5⟩ := hI
      have g1 : i' = nI i := g1
      subst g1
      have g3 : ∀ k, k < i → N.2.1 144 (60 * s + k) = 0 := g3
      have g6 : ∀ k, k < 60 * s ∨ 60 * s + i ≤ k → N.2.1 144 k = M.2.1 144 k := g6
      have g4 : ∀ q, q ≠ 144 → N.2.1 q = M.2.1 q := g4
      refine Or.inl ?_
      show ∃ s', fX9_row_57 (nI s) (nI n) (nI i) N = _ ∧ _
      unfold fX9_row_57
      rw [if_neg (nI_ge hi (by omega)), show (60 : Int32) = nI 60 from rfl, pk_mul, nI_add, if_pos (ix144 (by omega)), nI_clamp (by omega), nI_1]
      refine ⟨_, rfl, rfl, g2, fun k hk => ?_, fun k hk => (gSJ_nj (by omega)).trans (g6 k (by omega)), fun q hq => (gSJ_ne hq).trans (g4 q hq), g5⟩
      by_cases e : k = i
      · subst e; exact gSJ_eq
      · exact (gSJ_nj (by omega)).trans (g3 k (by omega))
    · obtain ⟨i', N⟩ := st
      obtain ⟨g1, g2⟩ := hI
      have g1 : i' = nI n := g1
      subst g1
      show ∃ r, fX9_row_57 (nI s) (nI n) (nI n) N = _ ∧ _
      unfold fX9_row_57
      rw [if_pos (Int32.le_refl _)]
      exact ⟨_, rfl, rfl, g2⟩
  obtain ⟨⟨r, N⟩, n1, n2, n3, n4, n5, n6, n7⟩ := key
  have n2 : r = 0 := n2
  subst n2
  have n3 : N.1 = (gSI (gSI M 142 s w) 143 s (nI n)).1 := n3
  have n4 : ∀ k, k < n → N.2.1 144 (60 * s + k) = 0 := n4
  have n5 : ∀ k, k < 60 * s ∨ 60 * s + n ≤ k → N.2.1 144 k = M.2.1 144 k := n5
  refine ⟨N, n1, fun a ha => ?_, fun q a b => by rw [n3]; exact c0 q a b, n6, n7⟩
  unfold zRow
  dsimp only
  by_cases e : a = s
  · subst e
    rw [if_pos rfl, if_pos rfl, n3]
    exact ⟨⟨c1, c2⟩, fun k hk => by rw [if_pos rfl]; exact n4 k hk⟩
  · rw [if_neg e, if_neg e, n3, c3 a e, c4 a e]
    refine ⟨(hr a ha).1, fun k hk => ?_⟩
    have := hb a ha
    rw [if_neg e, n5 _ (by omega)]; exact (hr a ha).2 k hk
def lB (x : Int32) : Bool := decide (x.toInt ≤ 60)
theorem S_row (a b c : Int32) : gSt (fX8_row a b c) (fX9_row a b c) := fun M hM => by
  have hI := hM
  have rt := hM.kp (kp0 M)
  obtain ⟨t, v, z, ⟨h1, h2, h3⟩, h4⟩ := hM
  have z60 : (60 : Int32).toInt = 60 := rfl
  have z4 : (4 : Int32).toInt = 4 := rfl
  have z0 : (0 : Int32).toInt = 0 := rfl
  have hg : ∀ N, fX9_row a b c N = if (inR a 4 && (inR b 4 && decide (c.toInt ≤ 60))) = true then (if 0 ≤ c.toInt then (if gIx 1 142 a = true then fX9_row_53 a c c a (gSI (gSI N 141 0 0) 142 (Int32.toNatClampNeg a) b) else none) else some (-3, gSI N 141 0 0)) else some (-2, gSI N 141 0 0) := fun N => by
    have e1 : (decide ((0 : Int64).toInt ≤ b.toInt) && decide (b.toInt ≤ (3 : Int64).toInt)) = inR b 4 := by
      unfold inR
      have y0 : (0 : Int64).toInt = 0 := rfl
      have y8 : (3 : Int64).toInt = 3 := rfl
      rw [y0, y8]
      congr 1
      exact decide_eq_decide.mpr (by omega)
    unfold fX9_row fX9_row_0 fX9_row_6
    rw [M_isSlot, gB0_some, ite_bI, F_in, gB0_some, ite_bI, Int32.toInt_toInt64, e1]
    simp only [Int32.le_iff_toInt_le, z60, z0]
    by_cases d : c.toInt ≤ 60
    · rw [if_pos d, decide_eq_true d]
      cases inR a 4 <;> cases inR b 4 <;> rfl
    · rw [if_neg d, decide_eq_false d]
      cases inR a 4 <;> cases inR b 4 <;> rfl
  rcases slot_r (x := a) with ⟨s, hs, rfl⟩ | hx
  · have hin : inR (nI s) 4 = true := by rw [inR_nI (by omega), decide_eq_true hs]
    have hf : fX8_row (nI s) b c M = if (inR b 4 && decide (c.toInt ≤ 60)) = true then (if 0 ≤ c.toInt then gB0 (fX4_begin (6 + 2 * s) b c M) (fun M5 => some ((0 : Int32), M5)) else some (-3, M)) else some (-2, M) := by
      unfold fX8_row fX8_row_0
      rw [C_slot_k hs, gB0_some]
      show (if gOb 4 (6 + 2 * s) = true then _ else none) = _
      rw [if_pos (gOb4 hs)]
      simp only [Int32.le_iff_toInt_le, lt0_i, z60, z4, z0]
      unfold inR
      by_cases d1 : b.toInt < 0
      · rw [if_pos d1, decide_eq_false (show ¬ (0 : Int) ≤ b.toInt by omega)]; simp
      · rw [if_neg d1, decide_eq_true (show (0 : Int) ≤ b.toInt by omega)]
        by_cases d2 : 4 ≤ b.toInt
        · rw [if_pos d2, decide_eq_false (show ¬ b.toInt < ((4 : Nat) : Int) by omega)]; simp
        · rw [if_neg d2, decide_eq_true (show b.toInt < ((4 : Nat) : Int) by omega)]
          by_cases d3 : c.toInt ≤ 60
          · rw [if_pos d3, decide_eq_true d3]; simp
          · rw [if_neg d3, decide_eq_false d3]; simp
    by_cases c1 : (inR b 4 && decide (c.toInt ≤ 60)) = true
    · by_cases c2 : 0 ≤ c.toInt
      · have c1' := c1
        rw [Bool.and_eq_true, decide_eq_true_eq] at c1'
        obtain ⟨n, hn, rfl⟩ := inR_k (x := c) (n := 61) (by unfold inR; rw [Bool.and_eq_true, decide_eq_true_eq, decide_eq_true_eq]; omega)
        obtain ⟨N, n1, n2, n3, n4, n5⟩ := C_begin h4.1.c b hs (show n ≤ 60 by omega)
        have hm : ROm (gSI N 141 0 0) z := ROm_same h4.1.m ((gSI_ne (by decide)).trans (n3 142 (by omega))) ((gSI_ne (by decide)).trans (n3 143 (by omega))) (n4 144 (by omega))
        obtain ⟨K, k1, k2, k3, k4, k5⟩ := M_row hm h4.1.b b hs (show n ≤ 60 by omega)
        refine ⟨0, N, K, ?_, ?_, INV_rows hI (z' := zRow z s n b) (fun q q1 q2 q3 q4 => ?_) (fun j hj => ?_) ?_ (RO_of ?_ ?_ k2)⟩
        · rw [hf, if_pos c1, if_pos c2, n1, gB0_some]
        · rw [hg, hin, Bool.true_and, if_pos c1, if_pos c2, if_pos (ix142 hs), k1]
        · rw [k3 q q2 q3, gSI_ne q4]; exact n3 q (by omega)
        · rw [k3 141 (by omega) (by omega), gSI_nj (by omega), n3 141 (by omega)]
        · rw [k5]; exact n5
        · intro a ha
          unfold zRow
          dsimp only
          by_cases e : a = s
          · rw [if_pos e]; omega
          · rw [if_neg e]; exact h4.1.b a ha
        · exact ROc_same n2 (fun q a b => (k3 q (by omega) (by omega)).trans (gSI_ne (by omega))) (fun q a b => k4 q (by omega))
      · refine ⟨-3, M, gSI M 141 0 0, ?_, ?_, rt⟩
        · rw [hf, if_pos c1, if_neg c2]
        · rw [hg, hin, Bool.true_and, if_pos c1, if_neg c2]
    · refine ⟨-2, M, gSI M 141 0 0, ?_, ?_, rt⟩
      · rw [hf, if_neg c1]
      · rw [hg, hin, Bool.true_and, if_neg c1]
  · refine ⟨-2, M, gSI M 141 0 0, ?_, ?_, rt⟩
    · unfold fX8_row fX8_row_0
      rw [C_slot_no hx]; rfl
    · rw [hg, hx, Bool.false_and, if_neg (by decide)]
/-! one number written -/
def cuO (w : Int32) (x : Int64) : Int64 := if w = 0 then Int32.toInt64 ((Int64.toInt32 x).toInt8.toInt32) else if w = (1 : Int32) then Int32.toInt64 ((Int64.toInt32 x).toInt16.toInt32) else if w = (2 : Int32) then Int32.toInt64 (Int64.toInt32 x) else x
theorem M_cut (x : Int64) (w : Int32) (M : gMem) : fX9_cut x w M = some (cuO w x) := by
  unfold fX9_cut fX9_cut_0 cuO
  by_cases a : w = 0
  · rw [if_pos a, if_pos a]
  · rw [if_neg a, if_neg a]
    by_cases b : w = 1
    · rw [if_pos b, if_pos b]
    · rw [if_neg b, if_neg b]
      by_cases c : w = 2
      · rw [if_pos c, if_pos c]
      · rw [if_neg c, if_neg c]
def zWr (z : gRw) (s i : Nat) (x : Int64) : gRw := (z.1, z.2.1, fun a k => if a = s ∧ k = i then x else z.2.2 a k)
theorem C_put {M : gMem} {z : gRw} (hr : RO M z) {s i : Nat} (hs : s < 4) (hi : i < z.2.1 s) (x : Int64) : fX4_put (6 + 2 * s) (nI i) x M = some (gSJ M (6 + 2 * s + 1) i (cuO (z.1 s) x)) := by
  obtain ⟨⟨r1, r2, -, -⟩, r4, -⟩ := hr s hs
  unfold fX4_put fX4_put_0 cuO
  rw [if_neg (nI_pos (by omega)), r1, r2, if_pos (nI_lt hi (by omega)), if_pos (ixV hs (by omega)), if_pos (ixV hs (by omega)), if_pos (ixV hs (by omega)), if_pos (ixV hs (by omega)), nI_clamp (by omega)]
  by_cases a : z.1 s = 0
  · rw [if_pos a, if_pos a]
  · rw [if_neg a, if_neg a]
    by_cases b : z.1 s = 1
    · rw [if_pos b, if_pos b]
    · rw [if_neg b, if_neg b]
      by_cases c : z.1 s = 2
      · rw [if_pos c, if_pos c]
      · rw [if_neg c, if_neg c]
theorem S_write (a b : Int32) (x : Int64) : gSt (fX8_write a b x) (fX9_write a b x) := fun M hM => by
  have hI := hM
  have rt := hM.kp (kp0 M)
  obtain ⟨t, v, z, ⟨h1, h2, h3⟩, h4⟩ := hM
  rcases slot_r (x := a) with ⟨s, hs, rfl⟩ | hx
  · have hl := h4.1.b s hs
    have rr := h4.1 s hs
    have hf : fX8_write (nI s) b x M = if z.1 s = -1 then some (-6, M) else if inR b (z.2.1 s) = true then gB0 (fX4_put (6 + 2 * s) b x M) (fun M7 => some ((0 : Int32), M7)) else some (-7, M) := by
      unfold fX8_write fX8_write_0
      rw [C_slot_k hs, gB0_some]
      show (if gOb 4 (6 + 2 * s) = true then _ else none) = _
      rw [if_pos (gOb4 hs), C_isThere h4.1 hs, gB0_some, ite_bI, rr.1.2.1]
      simp only [lt0_i, Int32.lt_iff_toInt_lt, nI_int _ (show z.2.1 s < 2 ^ 31 by omega)]
      by_cases e : z.1 s = -1
      · rw [if_pos e, decide_eq_true e]; rfl
      · rw [if_neg e, decide_eq_false e]
        unfold inR
        show (if b.toInt < 0 then _ else _) = _
        by_cases d1 : b.toInt < 0
        · rw [if_pos d1, decide_eq_false (show ¬ (0 : Int) ≤ b.toInt by omega)]; simp
        · rw [if_neg d1, decide_eq_true (show (0 : Int) ≤ b.toInt by omega)]
          by_cases d2 : b.toInt < (z.2.1 s : Int)
          · rw [if_pos d2, decide_eq_true d2]; simp
          · rw [if_neg d2, decide_eq_false d2]; simp
    have hg : ∀ N, ROm N z → fX9_write (nI s) b x N = if z.1 s = -1 then some (-6, gSI N 141 0 0) else if inR b (z.2.1 s) = true then (if gIx 4 144 (((60 : Int32) * nI s) + b) = true then some ((0 : Int32), gSJ (gSI N 141 0 0) 144 (Int32.toNatClampNeg (((60 : Int32) * nI s) + b)) (cuO (z.1 s) x)) else none) else some (-7, gSI N 141 0 0) := fun N hN => by
      obtain ⟨⟨p1, p2⟩, -⟩ := hN s hs
      have q1 : (gSI N 141 0 0).1 142 s = z.1 s := (gSI_o (by decide)).trans p1
      have q2 : (gSI N 141 0 0).1 143 s = nI (z.2.1 s) := (gSI_o (by decide)).trans p2
      have e1 : (decide ((0 : Int64).toInt ≤ b.toInt) && decide (b.toInt ≤ ((z.2.1 s : Int) - 1))) = inR b (z.2.1 s) := by
        unfold inR
        have y0 : (0 : Int64).toInt = 0 := rfl
        rw [y0]
        congr 1
        exact decide_eq_decide.mpr (by omega)
      unfold fX9_write fX9_write_0 fX9_write_6
      rw [M_isSlot, gB0_some, ite_bI, inR_nI (by omega), decide_eq_true hs, if_pos rfl, if_pos (ix142 hs), if_pos (ix142 hs), if_pos (ix143 hs), nI_clamp (by omega), q1, q2, F_in, gB0_some, ite_bI, Int32.toInt_toInt64, Int32.toInt_toInt64, n1_32 _ (by omega), e1, M_cut, gB0_some]
    by_cases c1 : z.1 s = -1
    · refine ⟨-6, M, gSI M 141 0 0, ?_, ?_, rt⟩
      · rw [hf, if_pos c1]
      · rw [hg M h4.1.m, if_pos c1]
    · by_cases c2 : inR b (z.2.1 s) = true
      · obtain ⟨i, hi, rfl⟩ := inR_k c2
        have hm : ROm (gSJ M (6 + 2 * s + 1) i (cuO (z.1 s) x)) z := ROm_same h4.1.m rfl rfl (gSJ_ne (by omega))
        have e60 : (60 : Int32) * nI s + nI i = nI (60 * s + i) := by rw [show (60 : Int32) = nI 60 from rfl, pk_mul, nI_add]
        refine ⟨0, gSJ M (6 + 2 * s + 1) i (cuO (z.1 s) x), _, ?_, ?_, INV_rows hI (N := gSJ (gSI (gSJ M (6 + 2 * s + 1) i (cuO (z.1 s) x)) 141 0 0) 144 (60 * s + i) (cuO (z.1 s) x)) (z' := zWr z s i (cuO (z.1 s) x)) (fun q q1 q2 q3 q4 => gSI_ne q4) (fun j hj => show (gSI (gSJ M (6 + 2 * s + 1) i (cuO (z.1 s) x)) 141 0 0).1 141 j = _ from gSI_nj (by omega)) rfl (RO_of h4.1.b (fun a ha => ⟨?_, fun k hk => ?_⟩) (fun a ha => ⟨?_, fun k hk => ?_⟩))⟩
        · rw [hf, if_neg c1, if_pos c2, C_put h4.1 hs hi, gB0_some]
        · rw [hg _ hm, if_neg c1, if_pos c2, e60, if_pos (ix144 (by omega)), nI_clamp (by omega)]
        · show (gSI (gSJ M (6 + 2 * s + 1) i (cuO (z.1 s) x)) 141 0 0).1 (6 + 2 * a) 1 = _ ∧ (gSI (gSJ M (6 + 2 * s + 1) i (cuO (z.1 s) x)) 141 0 0).1 (6 + 2 * a) 2 = _
          rw [gSI_ne (by omega)]
          exact (h4.1.c a ha).1
        · show (gSJ (gSI (gSJ M (6 + 2 * s + 1) i (cuO (z.1 s) x)) 141 0 0) 144 (60 * s + i) (cuO (z.1 s) x)).2.1 (6 + 2 * a + 1) k = if a = s ∧ k = i then _ else _
          rw [gSJ_ne (by omega)]
          show (gSJ M (6 + 2 * s + 1) i (cuO (z.1 s) x)).2.1 (6 + 2 * a + 1) k = _
          by_cases e : a = s
          · subst e
            by_cases e2 : k = i
            · subst e2; rw [if_pos ⟨rfl, rfl⟩]; exact gSJ_eq
            · rw [if_neg (fun h => e2 h.2), gSJ_nj e2]; exact (h4.1.c a ha).2 k hk
          · rw [if_neg (fun h => e h.1), gSJ_ne (by omega)]; exact (h4.1.c a ha).2 k hk
        · show (gSI (gSJ M (6 + 2 * s + 1) i (cuO (z.1 s) x)) 141 0 0).1 142 a = _ ∧ (gSI (gSJ M (6 + 2 * s + 1) i (cuO (z.1 s) x)) 141 0 0).1 143 a = _
          rw [gSI_ne (by omega), gSI_ne (by omega)]
          exact (h4.1.m a ha).1
        · have ha60 := h4.1.b a ha
          have hk : k < z.2.1 a := hk
          show (gSJ (gSI (gSJ M (6 + 2 * s + 1) i (cuO (z.1 s) x)) 141 0 0) 144 (60 * s + i) (cuO (z.1 s) x)).2.1 144 (60 * a + k) = if a = s ∧ k = i then _ else _
          by_cases e : a = s ∧ k = i
          · obtain ⟨rfl, rfl⟩ := e
            rw [if_pos ⟨rfl, rfl⟩]; exact gSJ_eq
          · rw [if_neg e, gSJ_nj (by omega)]
            show (gSJ M (6 + 2 * s + 1) i (cuO (z.1 s) x)).2.1 144 (60 * a + k) = _
            rw [gSJ_ne (by omega)]; exact (h4.1.m a ha).2 k hk
      · refine ⟨-7, M, gSI M 141 0 0, ?_, ?_, rt⟩
        · rw [hf, if_neg c1, if_neg c2]
        · rw [hg M h4.1.m, if_neg c1, if_neg c2]
  · refine ⟨-2, M, gSI M 141 0 0, ?_, ?_, rt⟩
    · unfold fX8_write fX8_write_0
      rw [C_slot_no hx]; rfl
    · unfold fX9_write fX9_write_0 fX9_write_6
      rw [M_isSlot, hx]; rfl
