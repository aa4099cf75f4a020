/-! Acts: weld, snip, undo, anew, rate. -/
def wB (v : gCt) (p q y x : Nat) : gCt := fun k i => if k = 0 then (if i = 8 then v 0 8 + 1 else v 0 i) else if i = v 0 8 ∧ k = 10 then p else if i = v 0 8 ∧ k = 11 then q else if i = v 0 8 ∧ k = 12 then y else if i = v 0 8 ∧ k = 13 then x else v k i
section
variable {v : gCt} {p q y x : Nat}
theorem wB_8 : wB v p q y x 0 8 = v 0 8 + 1 := rfl
theorem wB_0 {i : Nat} (h : i ≠ 8) : wB v p q y x 0 i = v 0 i := by
  show (if i = 8 then _ else _) = _
  exact if_neg h
theorem wB_k {k i : Nat} (h0 : k ≠ 0) (h : k < 10 ∨ i ≠ v 0 8) : wB v p q y x k i = v k i := by
  unfold wB
  rw [if_neg h0, if_neg (by omega), if_neg (by omega), if_neg (by omega), if_neg (by omega)]
theorem wB_10 : wB v p q y x 10 (v 0 8) = p := by
  unfold wB
  rw [if_neg (by decide), if_pos ⟨rfl, rfl⟩]
theorem wB_11 : wB v p q y x 11 (v 0 8) = q := by
  unfold wB
  rw [if_neg (by decide), if_neg (fun h => absurd h.2 (by decide)), if_pos ⟨rfl, rfl⟩]
theorem wB_12 : wB v p q y x 12 (v 0 8) = y := by
  unfold wB
  rw [if_neg (by decide), if_neg (fun h => absurd h.2 (by decide)), if_neg (fun h => absurd h.2 (by decide)), if_pos ⟨rfl, rfl⟩]
theorem wB_13 : wB v p q y x 13 (v 0 8) = x := by
  unfold wB
  rw [if_neg (by decide), if_neg (fun h => absurd h.2 (by decide)), if_neg (fun h => absurd h.2 (by decide)), if_neg (fun h => absurd h.2 (by decide)), if_pos ⟨rfl, rfl⟩]
theorem wB_WF (hv : gWF v) (h : v 0 8 ≤ 30) (hp : p < v 0 4) (hq : q < v 0 4) (hpq : p ≠ q) (hy : y < v 0 0) (hx : x ≤ 9) : gWF (wB v p q y x) := by
  obtain ⟨h0, h1, h2, h3, h4, h5⟩ := hv
  unfold gWF
  rw [wB_8, wB_0 (i := 0) (by decide), wB_0 (i := 1) (by decide), wB_0 (i := 2) (by decide), wB_0 (i := 3) (by decide), wB_0 (i := 4) (by decide), wB_0 (i := 5) (by decide), wB_0 (i := 6) (by decide), wB_0 (i := 7) (by decide), wB_0 (i := 9) (by decide)]
  have e : ∀ k i, k ≠ 0 → k < 10 → wB v p q y x k i = v k i := fun k i a b => wB_k a (Or.inl b)
  refine ⟨by omega, fun i hi => ?_, fun i hi => ?_, fun i hi => ?_, fun i hi => ?_, fun i hi => ?_⟩
  · rw [e 1 i (by decide) (by decide), e 2 i (by decide) (by decide), e 3 i (by decide) (by decide)]; exact h1 i hi
  · rw [e 4 i (by decide) (by decide), e 5 i (by decide) (by decide), e 6 i (by decide) (by decide)]; exact h2 i hi
  · rw [e 7 i (by decide) (by decide)]; exact h3 i hi
  · rw [e 8 i (by decide) (by decide), e 9 i (by decide) (by decide)]; exact h4 i hi
  · by_cases c : i = v 0 8
    · subst c
      rw [wB_10, wB_11, wB_12, wB_13]
      exact ⟨hp, hq, hpq, hy, hx⟩
    · rw [wB_k (by decide) (Or.inr c), wB_k (by decide) (Or.inr c), wB_k (by decide) (Or.inr c), wB_k (by decide) (Or.inr c)]
      exact h5 i (by omega)
end
theorem C_addB {M : gMem} {t p q y x : Nat} {v : gCt} (ht : gTn t) (hv : gWF v) (hr : RT M t v) (h30 : v 0 8 ≤ 30) : ∃ N, fX0_add (t + 10) (nI p) (nI q) (nI y) (nI x) M = some N ∧ RT N t (wB v p q y x) ∧ N.2 = M.2 ∧ (∀ k, k < t + 10 ∨ t + 15 ≤ k → N.1 k = M.1 k) := by
  have h4 : M.1 (t + 10) 4 = nI (v 0 8) := by
    have := hr.1
    simp only [this]
  have ix : ∀ k, 11 ≤ k → k ≤ 14 → gIx 1 (t + k) (nI (v 0 8)) = true := fun k a b => ixT ht (by omega) (n := 31) (by
    have : k = 11 ∨ k = 12 ∨ k = 13 ∨ k = 14 := by omega
    rcases this with rfl | rfl | rfl | rfl <;> rfl) (by omega) (by omega)
  obtain ⟨sh1, sh2⟩ := gTn_at ht 14 (by omega)
  have sh3 : gSh (t + 14) = (1, 31) := sh1
  have al : gAl (t + 10 + 4) = true := gAl_of sh3 sh2
  have l1 : nI (gSh (t + 10 + 4)).2 = nI 31 := by rw [show t + 10 + 4 = t + 14 from rfl, sh3]
  unfold fX0_add fX0_add_0 fX0_add_35 fX0_add_45 fX0_add_55 fX0_add_63
  have n0 : ¬ nI (v 0 8) < 0 := nI_nlt (b := 0) (by omega) (by omega)
  have c1 : ∀ x, (gSI M (t + 10 + 1) (v 0 8) x).1 (t + 10) 4 = nI (v 0 8) := fun x => (gSI_o (by omega)).trans h4
  have c2 : ∀ x z, (gSI (gSI M (t + 10 + 1) (v 0 8) x) (t + 10 + 2) (v 0 8) z).1 (t + 10) 4 = nI (v 0 8) := fun x z => (gSI_o (by omega)).trans (c1 x)
  have c3 : ∀ x z w, (gSI (gSI (gSI M (t + 10 + 1) (v 0 8) x) (t + 10 + 2) (v 0 8) z) (t + 10 + 3) (v 0 8) w).1 (t + 10) 4 = nI (v 0 8) := fun x z w => (gSI_o (by omega)).trans (c2 x z)
  have c4 : ∀ x z w k, (gSI (gSI (gSI (gSI M (t + 10 + 1) (v 0 8) x) (t + 10 + 2) (v 0 8) z) (t + 10 + 3) (v 0 8) w) (t + 10 + 4) (v 0 8) k).1 (t + 10) 4 = nI (v 0 8) := fun x z w k => (gSI_o (by omega)).trans (c3 x z w)
  rw [h4, if_neg n0, if_pos al, l1, if_pos (nI_lt (by omega) (by omega)), if_pos (ix 11 (by omega) (by omega)), nI_clamp (by omega), c1, if_pos (ix 12 (by omega) (by omega)), nI_clamp (by omega), c2, if_pos (ix 13 (by omega) (by omega)), nI_clamp (by omega), c3, if_pos (ix 14 (by omega) (by omega)), nI_clamp (by omega), c4, nI_1]
  have o : ∀ k, k < t + 10 ∨ t + 15 ≤ k → (gSI (gSI (gSI (gSI (gSI M (t + 10 + 1) (v 0 8) (nI p)) (t + 10 + 2) (v 0 8) (nI q)) (t + 10 + 3) (v 0 8) (nI y)) (t + 10 + 4) (v 0 8) (nI x)) (t + 10) 4 (nI (v 0 8 + 1))).1 k = M.1 k := fun k hk => (gSI_ne (by omega)).trans ((gSI_ne (by omega)).trans ((gSI_ne (by omega)).trans ((gSI_ne (by omega)).trans (gSI_ne (by omega)))))
  have g : ∀ k, 11 ≤ k → k ≤ 14 → ∀ i, i ≠ v 0 8 → (gSI (gSI (gSI (gSI (gSI M (t + 10 + 1) (v 0 8) (nI p)) (t + 10 + 2) (v 0 8) (nI q)) (t + 10 + 3) (v 0 8) (nI y)) (t + 10 + 4) (v 0 8) (nI x)) (t + 10) 4 (nI (v 0 8 + 1))).1 (t + k) i = M.1 (t + k) i := fun k a b i hi => by
    have s : ∀ (N : gMem) (a' : Nat) (x : Int32), (gSI N a' (v 0 8) x).1 (t + k) i = N.1 (t + k) i := fun N a' x => by
      by_cases e : t + k = a'
      · subst e; exact gSI_nj hi
      · exact gSI_o e
    exact (gSI_o (by omega)).trans ((s _ _ _).trans ((s _ _ _).trans ((s _ _ _).trans (s _ _ _))))
  refine ⟨_, rfl, ?_, rfl, o⟩
  obtain ⟨r0, r1, r2, r3, r4, r5⟩ := hr
  have e9 : ∀ k i, k ≠ 0 → k < 10 → wB v p q y x k i = v k i := fun k i a b => wB_k a (Or.inl b)
  have o0 := o t (by omega)
  have ok : ∀ i, i < 10 → _ := fun i hi => o (t + i) (by omega)
  unfold RT
  rw [wB_8, wB_0 (i := 0) (by decide), wB_0 (i := 1) (by decide), wB_0 (i := 2) (by decide), wB_0 (i := 3) (by decide), wB_0 (i := 4) (by decide), wB_0 (i := 5) (by decide), wB_0 (i := 6) (by decide), wB_0 (i := 7) (by decide), wB_0 (i := 9) (by decide), o0, ok 1 (by omega), ok 2 (by omega), ok 3 (by omega), ok 4 (by omega), ok 5 (by omega), ok 6 (by omega), ok 7 (by omega), ok 8 (by omega), ok 9 (by omega)]
  refine ⟨?_, fun i hi => ?_, fun i hi => ?_, fun i hi => ?_, fun i hi => ?_, fun i hi => ?_⟩
  · simp only [r0, gSI_eq, and_self, and_true, true_and]
  · rw [e9 1 i (by decide) (by decide), e9 2 i (by decide) (by decide), e9 3 i (by decide) (by decide)]; exact r1 i hi
  · rw [e9 4 i (by decide) (by decide), e9 5 i (by decide) (by decide), e9 6 i (by decide) (by decide)]; exact r2 i hi
  · rw [e9 7 i (by decide) (by decide)]; exact r3 i hi
  · rw [e9 8 i (by decide) (by decide), e9 9 i (by decide) (by decide)]; exact r4 i hi
  · by_cases c : i = v 0 8
    · subst c
      rw [wB_10, wB_11, wB_12, wB_13]
      refine ⟨?_, ?_, ?_, ?_⟩
      · exact (gSI_o (by omega)).trans ((gSI_o (by omega)).trans ((gSI_o (by omega)).trans ((gSI_o (by omega)).trans gSI_eq)))
      · exact (gSI_o (by omega)).trans ((gSI_o (by omega)).trans ((gSI_o (by omega)).trans gSI_eq))
      · exact (gSI_o (by omega)).trans ((gSI_o (by omega)).trans gSI_eq)
      · exact (gSI_o (by omega)).trans gSI_eq
    · rw [wB_k (by decide) (Or.inr c), wB_k (by decide) (Or.inr c), wB_k (by decide) (Or.inr c), wB_k (by decide) (Or.inr c)]
      have z := r5 i (by omega)
      exact ⟨(g 11 (by omega) (by omega) i c).trans z.1, (g 12 (by omega) (by omega) i c).trans z.2.1, (g 13 (by omega) (by omega) i c).trans z.2.2.1, (g 14 (by omega) (by omega) i c).trans z.2.2.2⟩
/-- one act more, in the reference -/
theorem M_does {M : gMem} {p q y x : Nat} {v : gCt} (hv : gWF v) (ha : RA M v) (hc : RC M v) (h30 : v 0 8 < 30) : ∃ N, fX9_does (nI p) (nI q) (nI y) (nI x) M = some N ∧ RA N (wB v p q y x) ∧ RC N (wB v p q y x) ∧ N.2 = M.2 ∧ (∀ k, k ≠ 148 → k ≠ 153 → N.1 k = M.1 k) ∧ (∀ k j, k = 148 ∨ k = 153 → mkO k ≤ j → N.1 k j = M.1 k j) := by
  have i8 : gIx 1 148 (8 : Int32) = true := ix148 (show 8 < 45 by omega)
  have c8 : Int32.toNatClampNeg (8 : Int32) = 8 := rfl
  have e1 : nI (4 * v 0 8) + (1 : Int32) = nI (4 * v 0 8 + 1) := nI_add _ 1
  have e2 : nI (4 * v 0 8) + (2 : Int32) = nI (4 * v 0 8 + 2) := nI_add _ 2
  have e3 : nI (4 * v 0 8) + (3 : Int32) = nI (4 * v 0 8 + 3) := nI_add _ 3
  have e0 : (4 : Int32) * nI (v 0 8) = nI (4 * v 0 8) := by rw [li4, pk_mul]
  unfold fX9_does fX9_does_0 fX9_does_28 fX9_does_38 fX9_does_49 fX9_does_57
  rw [if_pos i8, if_pos i8, if_pos i8, c8, hc.1, e0, e1, e2, e3, if_pos (ix153 (by omega)), if_pos (ix153 (by omega)), if_pos (ix153 (by omega)), if_pos (ix153 (by omega)), nI_clamp (by omega), nI_clamp (by omega), nI_clamp (by omega), nI_clamp (by omega), gSI_o (show 148 ≠ 153 by decide), gSI_o (show 148 ≠ 153 by decide), gSI_o (show 148 ≠ 153 by decide), gSI_o (show 148 ≠ 153 by decide), hc.1, nI_1]
  have far : ∀ k, k ≠ 148 → k ≠ 153 → (gSI (gSI (gSI (gSI (gSI M 153 (4 * v 0 8) (nI p)) 153 (4 * v 0 8 + 1) (nI q)) 153 (4 * v 0 8 + 2) (nI y)) 153 (4 * v 0 8 + 3) (nI x)) 148 8 (nI (v 0 8 + 1))).1 k = M.1 k := fun k a b => (gSI_ne a).trans ((gSI_ne b).trans ((gSI_ne b).trans ((gSI_ne b).trans (gSI_ne b))))
  have ne8 : ∀ j, j ≠ 8 → (gSI (gSI (gSI (gSI (gSI M 153 (4 * v 0 8) (nI p)) 153 (4 * v 0 8 + 1) (nI q)) 153 (4 * v 0 8 + 2) (nI y)) 153 (4 * v 0 8 + 3) (nI x)) 148 8 (nI (v 0 8 + 1))).1 148 j = M.1 148 j := fun j hj => (gSI_nj hj).trans ((gSI_o (by decide)).trans ((gSI_o (by decide)).trans ((gSI_o (by decide)).trans (gSI_o (by decide)))))
  have ne3 : ∀ j, j < 4 * v 0 8 ∨ 4 * v 0 8 + 4 ≤ j → (gSI (gSI (gSI (gSI (gSI M 153 (4 * v 0 8) (nI p)) 153 (4 * v 0 8 + 1) (nI q)) 153 (4 * v 0 8 + 2) (nI y)) 153 (4 * v 0 8 + 3) (nI x)) 148 8 (nI (v 0 8 + 1))).1 153 j = M.1 153 j := fun j hj => (gSI_o (by decide)).trans ((gSI_nj (by omega)).trans ((gSI_nj (by omega)).trans ((gSI_nj (by omega)).trans (gSI_nj (by omega)))))
  have e9 : ∀ k i, k ≠ 0 → k < 10 → wB v p q y x k i = v k i := fun k i a b => wB_k a (Or.inl b)
  refine ⟨_, rfl, ?_, ?_, rfl, far, fun k j hk hj => ?_⟩
  · obtain ⟨⟨a1, a2⟩, b, c, d, f⟩ := ha
    unfold RA
    rw [wB_0 (i := 4) (by decide), wB_0 (i := 5) (by decide), wB_0 (i := 6) (by decide), wB_0 (i := 7) (by decide), wB_0 (i := 9) (by decide), far 147 (by decide) (by decide), far 149 (by decide) (by decide), far 150 (by decide) (by decide), far 151 (by decide) (by decide), far 152 (by decide) (by decide)]
    refine ⟨⟨a1, fun k hk => ?_⟩, fun i hi => ?_, fun i hi => ?_, fun i hi => ?_, fun i hi => ?_⟩
    · rw [ne8 k (by omega), wB_0 (by omega)]; exact a2 k hk
    · rw [e9 1 i (by decide) (by decide), e9 2 i (by decide) (by decide), e9 3 i (by decide) (by decide)]; exact b i hi
    · rw [e9 4 i (by decide) (by decide), e9 5 i (by decide) (by decide), e9 6 i (by decide) (by decide)]; exact c i hi
    · rw [e9 7 i (by decide) (by decide)]; exact d i hi
    · rw [e9 8 i (by decide) (by decide), e9 9 i (by decide) (by decide)]; exact f i hi
  · unfold RC
    rw [wB_8]
    refine ⟨gSI_eq, fun i hi => ?_⟩
    by_cases c : i = v 0 8
    · subst c
      rw [wB_10, wB_11, wB_12, wB_13]
      refine ⟨?_, ?_, ?_, ?_⟩
      · exact (gSI_o (by decide)).trans ((gSI_nj (by omega)).trans ((gSI_nj (by omega)).trans ((gSI_nj (by omega)).trans gSI_eq)))
      · exact (gSI_o (by decide)).trans ((gSI_nj (by omega)).trans ((gSI_nj (by omega)).trans gSI_eq))
      · exact (gSI_o (by decide)).trans ((gSI_nj (by omega)).trans gSI_eq)
      · exact (gSI_o (by decide)).trans gSI_eq
    · rw [wB_k (by decide) (Or.inr c), wB_k (by decide) (Or.inr c), wB_k (by decide) (Or.inr c), wB_k (by decide) (Or.inr c), ne3 _ (by omega), ne3 _ (by omega), ne3 _ (by omega), ne3 _ (by omega)]
      exact hc.2 i (by omega)
  · rcases hk with rfl | rfl
    · exact ne8 j (by have : mkO 148 = 9 := rfl; omega)
    · exact ne3 j (by have : mkO 153 = 120 := rfl; omega)
theorem C_areTied {N : gMem} {v : gCt} {u : gSp} {n z k l : Nat} (hL : LVd N v u n) (hz : z < n) (hn : n ≤ 12) (hk : k < 6) (hl : l < 6) : fX2_areTied (nI k) (nI l) (nI z) N = some (bI (tiY v u z k l)) := by
  obtain ⟨-, -, -, -, hY, -⟩ := hL.1 z hz
  unfold fX2_areTied fX2_areTied_0
  simp (disch := omega) only [ix35, if_true, nI_clamp, ra35, ixI, hY k (by omega), F_has, gB0_some, bt_gMk, hl, decide_true, Bool.true_and, if_pos (bI_z _)]
theorem M_tied {N : gMem} {v : gCt} {u : gSp} {n z k l : Nat} {α : Type} (A B : α) (hv : gWF v) (hV : MV N v u n) (hz : z < n) (hn : n ≤ 12) (hk : k < 6) (hl : l < 6) : (if gIx 1 155 ((((36 : Int32) * nI z) + ((6 : Int32) * nI k)) + nI l) = true then if (N.1 155 (Int32.toNatClampNeg ((((36 : Int32) * nI z) + ((6 : Int32) * nI k)) + nI l))) ≤ 0 then some A else some B else none) = some (if tiY v u z k l = true then B else A) := by
  have hT := hV.2 z hz k l hk hl
  simp (disch := omega) only [li36, li6, pk_mul, nI_add, ix155, if_true, nI_clamp, hT]
  have hti : decide (0 < tcO (gl v u) z (goY v u z) k l) = tiY v u z k l := by rw [tiY_eq]; exact tc_ti _ _ _ _ _
  by_cases h0 : tcO (gl v u) z (goY v u z) k l = 0
  · rw [h0] at hti ⊢
    rw [if_pos (by decide), ← hti]; rfl
  · rw [if_neg (nI_nle (by omega) (tc_lt (gl_1000 hv u) z _ k l)), ← hti, decide_eq_true (by omega), if_pos rfl]
/-- the reference's years, whatever the class has -/
theorem F_laysR {M : gMem} {v : gCt} (ha : RA M v) (hc : RC M v) : ∃ N, fX9_lays M = some N ∧ MS N v u0 [] ∧ KP M N ∧ (∀ q, q ≠ 141 → N.1 q = M.1 q) := by
  obtain ⟨e1, e2⟩ := hd_at ha (k := 1) (by omega) (i := 1) rfl
  unfold fX9_lays fX9_lays_0 fX9_lays_12 fX9_lays_17 fX9_lays_22 fX9_lays_27 fX9_lays_32 fX9_lays_37
  rw [if_pos e1, e2, if_pos (Or.inr rfl)]
  have z7 : (0 : Int32) = gMk 7 (u0 0) := gMk_0 (by omega)
  have z6 : ∀ k, (0 : Int32) = gMk 6 (u0 k) := fun k => gMk_0 (by omega)
  have kp : KP M (gSI (gSI (gSI (gSI (gSI (gSI (gSI M 141 24 (nI (v 0 1))) 141 25 0) 141 26 0) 141 27 0) 141 30 (-1)) 141 31 (-1)) 141 32 1) := ((((((KP.s141 (by omega)).tr (KP.s141 (by omega))).tr (KP.s141 (by omega))).tr (KP.s141 (by omega))).tr (KP.s141 (by omega))).tr (KP.s141 (by omega))).tr (KP.s141 (by omega))
  have far : ∀ q, q ≠ 141 → (gSI (gSI (gSI (gSI (gSI (gSI (gSI M 141 24 (nI (v 0 1))) 141 25 0) 141 26 0) 141 27 0) 141 30 (-1)) 141 31 (-1)) 141 32 1).1 q = M.1 q := fun q hq => by
    rw [gSI_ne hq, gSI_ne hq, gSI_ne hq, gSI_ne hq, gSI_ne hq, gSI_ne hq, gSI_ne hq]
  refine ⟨_, rfl, ⟨RA_same ha (fun q _ _ => far q (by omega)), RC_same hc (fun q _ _ => far q (by omega)), ⟨?_, ?_, ?_, ?_⟩, Or.inl ⟨?_, rfl⟩, ⟨none, fun z hz => (by cases hz), ?_, fun p _ => rfl⟩⟩, kp, far⟩
  · rw [gSI_nj (by omega), gSI_nj (by omega), gSI_nj (by omega), gSI_nj (by omega), gSI_nj (by omega), gSI_eq]; exact z7
  · rw [gSI_nj (by omega), gSI_nj (by omega), gSI_nj (by omega), gSI_nj (by omega), gSI_eq]; exact z6 4
  · rw [gSI_nj (by omega), gSI_nj (by omega), gSI_nj (by omega), gSI_eq]; exact z6 2
  · rw [gSI_eq]; rfl
  · rw [gSI_nj (by omega), gSI_nj (by omega), gSI_eq]
  · rw [gSI_nj (by omega), gSI_eq]; rfl
theorem F_laysNowR {M : gMem} {v : gCt} (hv : gWF v) (ha : RA M v) (hc : RC M v) : ∃ N, fX9_laysNow M = some N ∧ MV N v u0 (v 0 0) ∧ KP M N := by
  obtain ⟨N, n1, n2, n5, n6⟩ := F_laysR ha hc
  obtain ⟨K, k1, k2, k3⟩ := F_runs hv (WV_rf hv u0) n2 hv.1.1 (gl_1000 hv u0)
  unfold fX9_laysNow fX9_laysNow_0 fX9_runs_ fX9_runs__0
  rw [n1, gB0_some, F_years (RA_same ha (fun q _ _ => n6 q (by omega))), gB0_some, k1]
  exact ⟨K, rfl, k2, n5.tr k3.kp⟩
theorem tn_na {N : gMem} {t : Nat} {v : gCt} (h : CT N t v) : N.1 (t + 10) 4 = nI (v 0 8) := by
  have := h.2.2.1.1
  simp only [this]
theorem tw_t {M : gMem} {t : Nat} {z : gRw} (h : RM M z) (ht : M.2.2 0 = t) : t = 111 ∨ t = 126 := by
  rcases h.2.1 with h | h
  · exact Or.inl (ht.symm.trans h.1)
  · exact Or.inr (ht.symm.trans h.1)
/-- the class's town of now has changed -/
theorem RM_cl {M N : gMem} {z : gRw} {t : Nat} (h : RM M z) (ht : M.2.2 0 = t) (e : ∀ k, k < t ∨ t + 15 ≤ k → N.1 k = M.1 k) (e2 : N.2 = M.2) : RM N z := by
  have := tw_t h ht
  exact RM_far h (fun q _ => e q (by omega)) (fun q _ _ => e q (by omega)) (fun q _ => e q (by omega)) (fun q _ _ j _ => by rw [e q (by omega)]) (fun j _ => by rw [e 141 (by omega)]) (fun q _ _ => by rw [e2]) (by rw [e2])
/-- the reference's city of now has changed -/
theorem RM_mo {M N : gMem} {z : gRw} (h : RM M z) (e : ∀ k, k < 147 ∨ 154 ≤ k → N.1 k = M.1 k) (e3 : ∀ k, 147 ≤ k → k < 154 → ∀ j, mkO k ≤ j → N.1 k j = M.1 k j) (e2 : N.2 = M.2) : RM N z :=
  RM_far h (fun q _ => e q (by omega)) (fun q _ _ => e q (by omega)) (fun q _ => e q (by omega)) e3 (fun j _ => by rw [e 141 (by omega)]) (fun q _ _ => by rw [e2]) (by rw [e2])
def wxB (x : Int32) : Bool := decide (1 ≤ x.toInt) && decide (x.toInt ≤ 9)
theorem wx_k {x : Int32} (h : wxB x = true) : ∃ k, k ≤ 9 ∧ x = nI k := by
  unfold wxB at h
  rw [Bool.and_eq_true, decide_eq_true_eq, decide_eq_true_eq] at h
  obtain ⟨k, hk, rfl⟩ := inR_k (x := x) (n := 10) (by unfold inR; rw [Bool.and_eq_true, decide_eq_true_eq, decide_eq_true_eq]; omega)
  exact ⟨k, by omega, rfl⟩
theorem yOK_B {v : gCt} {p q y x : Nat} (h : yOK v) : yOK (wB v p q y x) := h
theorem S_weld (a b c d : Int32) : gSt (fX8_weld a b c d) (fX9_weld a b c d) := fun M hM => by
  have hI := hM
  obtain ⟨t, v, z, ⟨h1, h2, h3⟩, h4⟩ := hM
  have hv := h1.2.1
  have hv0 := hv.1
  have r4 := tn_na h1
  have ht := gTn_of h1.1.2
  -- the class
  have hf : fX8_weld a b c d M = if (inP v a b && (inR c (v 0 0) && wxB d)) = true then (if v 0 8 < 30 then gB0 (fX0_add (t + 10) a b c d M) (fun M9 => gB0 (fX8_liveAsNow M9) (fun M11 => gB0 (fX2_areTied a b c M11) (fun r13 => if r13 = 0 then some ((0 : Int32), M11) else some ((1 : Int32), M11)))) else some (-5, M)) else some (-2, M) := by
    have e18 : ∀ s0 : Int32, fX8_weld_18 a b c d s0 M = if (inP v a b && (inR c (v 0 0) && !decide (s0 = 0))) = true then (if v 0 8 < 30 then gB0 (fX0_add (t + 10) a b c d M) (fun M9 => gB0 (fX8_liveAsNow M9) (fun M11 => gB0 (fX2_areTied a b c M11) (fun r13 => if r13 = 0 then some ((0 : Int32), M11) else some ((1 : Int32), M11)))) else some (-5, M)) else some (-2, M) := fun s0 => by
      unfold fX8_weld_18
      rw [if_pos (gob_T h1), h1.1.1, F_hasPair hv h1.2.2.1, gB0_some, ite_bI, if_pos h1.1.2, F_hasYear hv h1.2.2.1, gB0_some, ite_bI, if_pos h1.1.2, if_pos h1.1.2, r4]
      have e30 : (nI (v 0 8) < (30 : Int32)) = (v 0 8 < 30) := propext (nI_ltI (b := 30) (by omega) (by omega))
      simp only [e30]
      cases inP v a b <;> cases inR c (v 0 0) <;> by_cases e : s0 = 0 <;> simp [e]
    unfold fX8_weld fX8_weld_0 fX8_weld_17
    rw [e18, e18]
    have z1 : (1 : Int32).toInt = 1 := rfl
    have z9 : (9 : Int32).toInt = 9 := rfl
    unfold wxB
    simp only [Int32.lt_iff_toInt_lt, z1, z9]
    by_cases c1 : d.toInt < 1
    · rw [if_pos c1, decide_eq_false (show ¬ (1 : Int) ≤ d.toInt by omega)]; simp
    · rw [if_neg c1, decide_eq_true (show (1 : Int) ≤ d.toInt by omega)]
      by_cases c2 : 9 < d.toInt
      · rw [if_pos c2, decide_eq_false (show ¬ d.toInt ≤ 9 by omega)]; simp
      · rw [if_neg c2, decide_eq_true (show d.toInt ≤ 9 by omega)]; simp
  -- the reference
  have hg : ∀ N, RA N v → RC N v → fX9_weld a b c d N = if (inP v a b && (inR c (v 0 0) && wxB d)) = true then (if v 0 8 < 30 then gB0 (fX9_does a b c d (gSI N 141 0 0)) (fun M8 => gB0 (fX9_laysNow M8) (fun M10 => if gIx 1 155 ((((36 : Int32) * c) + ((6 : Int32) * a)) + b) = true then if (M10.1 155 (Int32.toNatClampNeg ((((36 : Int32) * c) + ((6 : Int32) * a)) + b))) ≤ 0 then some ((0 : Int32), M10) else some ((1 : Int32), M10) else none)) else some (-5, gSI N 141 0 0)) else some (-2, gSI N 141 0 0) := fun N ha hc => by
    have ha' : RA (gSI N 141 0 0) v := RA_same ha (fun q _ _ => gSI_ne (by omega))
    have hc' : RC (gSI N 141 0 0) v := RC_same hc (fun q _ _ => gSI_ne (by omega))
    unfold fX9_weld fX9_weld_0 fX9_weld_8
    rw [M_areTwo hv ha', gB0_some, ite_bI, M_isYear hv ha', gB0_some, ite_bI, F_in, gB0_some, ite_bI, if_pos (show gIx 1 148 (8 : Int32) = true from ix148 (show 8 < 45 by omega)), show Int32.toNatClampNeg (8 : Int32) = 8 from rfl, hc'.1, Int32.toInt_toInt64]
    have e30 : (nI (v 0 8) = (30 : Int32)) = (v 0 8 = 30) := propext (nI_eq (b := 30) (by omega) (by omega))
    simp only [e30]
    show (if inP v a b = true then (if inR c (v 0 0) = true then (if wxB d = true then _ else _) else _) else _) = _
    by_cases c8 : v 0 8 = 30
    · rw [if_pos c8, if_neg (show ¬ v 0 8 < 30 by omega)]
      cases inP v a b <;> cases inR c (v 0 0) <;> cases wxB d <;> rfl
    · rw [if_neg c8, if_pos (show v 0 8 < 30 by omega)]
      cases inP v a b <;> cases inR c (v 0 0) <;> cases wxB d <;> rfl
  have rt := hI.kp (kp0 M)
  by_cases hb : (inP v a b && (inR c (v 0 0) && wxB d)) = true
  · by_cases h8 : v 0 8 < 30
    · rw [Bool.and_eq_true, Bool.and_eq_true] at hb
      have hb' := hb
      obtain ⟨k, l, p1, p2, p3, rfl, rfl⟩ := inP_k hb.1
      obtain ⟨y, y1, rfl⟩ := inR_k hb.2.1
      obtain ⟨x, x1, rfl⟩ := wx_k hb.2.2
      have hW := wB_WF hv (by omega) p1 p2 p3 y1 x1
      obtain ⟨A, a1, a2, a3, a4⟩ := C_addB (p := k) (q := l) (y := y) (x := x) ht hv h1.2.2.1 (by omega)
      have eA : A.2.2 0 = t := by rw [a3]; exact h1.1.1
      obtain ⟨N, n1, n2, n3, n4⟩ := F_liveW eA h1.1.2 hW a2
      have w0 : wB v k l y x 0 0 = v 0 0 := wB_0 (by decide)
      have hti := C_areTied (k := k) (l := l) n2 (by rw [w0]; exact y1) (by rw [w0]; exact hv0.1) (by omega) (by omega)
      have rA : RM A z := RM_cl h4 h1.1.1 (fun k hk => a4 k (by omega)) a3
      have rN := rA.kp n4
      have tt := tw_t h4 h1.1.1
      have rcell : ∀ q, 147 ≤ q → q < 154 → N.1 q = M.1 q := fun q a b => (n4.1 q (scr_f (by omega))).trans (a4 q (by omega))
      have haN : RA N v := RA_same h1.2.2.2.1 (fun q a b => rcell q a (by omega))
      have hcN : RC N v := RC_same h1.2.2.2.2 (fun q a b => rcell q a b)
      have ha' : RA (gSI N 141 0 0) v := RA_same haN (fun q _ _ => gSI_ne (by omega))
      have hc' : RC (gSI N 141 0 0) v := RC_same hcN (fun q _ _ => gSI_ne (by omega))
      obtain ⟨D, d1, d2, d3, d4, d5, d6⟩ := M_does (p := k) (q := l) (y := y) (x := x) hv ha' hc' h8
      have rD : RM D z := RM_mo (rN.kp (kp0 N)) (fun q hq => d5 q (by omega) (by omega)) (fun q a b j hj => by
        by_cases e1 : q = 148
        · exact d6 q j (Or.inl e1) hj
        · by_cases e2 : q = 153
          · exact d6 q j (Or.inr e2) hj
          · rw [d5 q e1 e2]) d4
      have cD : CT D t (wB v k l y x) := ⟨⟨by rw [d4]; show N.2.2 0 = t; rw [n4.2.2.2]; exact eA, h1.1.2⟩, hW, RT_same n3 (fun i hi => (d5 _ (by omega) (by omega)).trans (gSI_ne (by omega))), d2, d3⟩
      obtain ⟨K, k1, k2, k3, k4, k5, k6⟩ := F_laysNow cD
      have hM5 := M_tied (l := l) ((0 : Int32), K) ((1 : Int32), K) hW k3 (z := y) (k := k) (by rw [w0]; exact y1) (by rw [w0]; exact hv0.1) (by omega) (by omega)
      refine ⟨bI (tiY (wB v k l y x) u0 y k l), N, K, ?_, ?_, t, wB v k l y x, z, ⟨k5, yOK_B h2, by rw [wB_8]; omega⟩, rD.kp k6⟩
      · rw [hf, if_pos (by rw [Bool.and_eq_true, Bool.and_eq_true]; exact hb'), if_pos h8, a1, gB0_some, n1, gB0_some, hti, gB0_some, ite_bI]
        cases tiY (wB v k l y x) u0 y k l <;> rfl
      · rw [hg N haN hcN, if_pos (by rw [Bool.and_eq_true, Bool.and_eq_true]; exact hb'), if_pos h8, d1, gB0_some, k1, gB0_some, hM5]
        cases tiY (wB v k l y x) u0 y k l <;> rfl
    · refine ⟨-5, M, gSI M 141 0 0, ?_, ?_, rt⟩
      · rw [hf, if_pos hb, if_neg h8]
      · rw [hg M h1.2.2.2.1 h1.2.2.2.2, if_pos hb, if_neg h8]
  · refine ⟨-2, M, gSI M 141 0 0, ?_, ?_, rt⟩
    · rw [hf, if_neg hb]
    · rw [hg M h1.2.2.2.1 h1.2.2.2.2, if_neg hb]
theorem S_snip (a b c : Int32) : gSt (fX8_snip a b c) (fX9_snip a b c) := fun M hM => by
  have hI := hM
  obtain ⟨t, v, z, ⟨h1, h2, h3⟩, h4⟩ := hM
  have hv := h1.2.1
  have hv0 := hv.1
  have r4 := tn_na h1
  have ht := gTn_of h1.1.2
  have hf : fX8_snip a b c M = if (inP v a b && inR c (v 0 0)) = true then (if v 0 8 < 30 then gB0 (fX8_liveAsNow M) (fun M8 => if gOb 7 (M8.2.2 0) = true then gB0 (fX0_add ((M8.2.2 0) + 10) a b c (0 : Int32) M8) (fun M11 => gB0 (fX2_areTied a b c M11) (fun r13 => if r13 = 0 then some ((0 : Int32), M11) else some ((1 : Int32), M11))) else none) else some (-5, M)) else some (-2, M) := by
    unfold fX8_snip fX8_snip_0
    rw [if_pos (gob_T h1), h1.1.1, F_hasPair hv h1.2.2.1, gB0_some, ite_bI, if_pos h1.1.2, F_hasYear hv h1.2.2.1, gB0_some, ite_bI, if_pos h1.1.2, r4]
    have e30 : (nI (v 0 8) < (30 : Int32)) = (v 0 8 < 30) := propext (nI_ltI (b := 30) (by omega) (by omega))
    simp only [e30]
    cases inP v a b <;> cases inR c (v 0 0) <;> rfl
  have hg : ∀ N, RA N v → RC N v → fX9_snip a b c N = if (inP v a b && inR c (v 0 0)) = true then (if v 0 8 < 30 then gB0 (fX9_laysNow (gSI N 141 0 0)) (fun M6 => if gIx 1 155 ((((36 : Int32) * c) + ((6 : Int32) * a)) + b) = true then if (M6.1 155 (Int32.toNatClampNeg ((((36 : Int32) * c) + ((6 : Int32) * a)) + b))) ≤ 0 then fX9_snip_68 a b c (0 : Int32) M6 else fX9_snip_68 a b c (1 : Int32) M6 else none) else some (-5, gSI N 141 0 0)) else some (-2, gSI N 141 0 0) := fun N ha hc => by
    have ha' : RA (gSI N 141 0 0) v := RA_same ha (fun q _ _ => gSI_ne (by omega))
    have hc' : RC (gSI N 141 0 0) v := RC_same hc (fun q _ _ => gSI_ne (by omega))
    unfold fX9_snip fX9_snip_0 fX9_snip_8
    rw [M_areTwo hv ha', gB0_some, ite_bI, M_isYear hv ha', gB0_some, ite_bI, if_pos (show gIx 1 148 (8 : Int32) = true from ix148 (show 8 < 45 by omega)), show Int32.toNatClampNeg (8 : Int32) = 8 from rfl, hc'.1]
    have e30 : (nI (v 0 8) = (30 : Int32)) = (v 0 8 = 30) := propext (nI_eq (b := 30) (by omega) (by omega))
    simp only [e30]
    by_cases c8 : v 0 8 = 30
    · rw [if_pos c8, if_neg (show ¬ v 0 8 < 30 by omega)]
      cases inP v a b <;> cases inR c (v 0 0) <;> rfl
    · rw [if_neg c8, if_pos (show v 0 8 < 30 by omega)]
      cases inP v a b <;> cases inR c (v 0 0) <;> rfl
  have rt := hI.kp (kp0 M)
  by_cases hb : (inP v a b && inR c (v 0 0)) = true
  · by_cases h8 : v 0 8 < 30
    · rw [Bool.and_eq_true] at hb
      have hb' := hb
      obtain ⟨k, l, p1, p2, p3, rfl, rfl⟩ := inP_k hb.1
      obtain ⟨y, y1, rfl⟩ := inR_k hb.2
      have hW := wB_WF (x := 0) hv (by omega) p1 p2 p3 y1 (by omega)
      obtain ⟨L, l1, l2, l3, l4⟩ := F_liveAsNow h1
      obtain ⟨A, a1, a2, a3, a4⟩ := C_addB (p := k) (q := l) (y := y) (x := 0) ht hv l3.2.2.1 (by omega)
      have eA : A.2.2 0 = t := by rw [a3]; exact l3.1.1
      have tt := tw_t h4 h1.1.1
      have hLA := LVd_same l2 hv0.1 (fun q _ _ => a4 q (by omega))
      have hti := C_areTied (k := k) (l := l) hLA y1 hv0.1 (by omega) (by omega)
      have rA : RM A z := RM_cl (h4.kp l4) l3.1.1 (fun k hk => a4 k (by omega)) a3
      have haA : RA A v := RA_same l3.2.2.2.1 (fun q a b => a4 q (by omega))
      have hcA : RC A v := RC_same l3.2.2.2.2 (fun q a b => a4 q (by omega))
      have ha' : RA (gSI A 141 0 0) v := RA_same haA (fun q _ _ => gSI_ne (by omega))
      have hc' : RC (gSI A 141 0 0) v := RC_same hcA (fun q _ _ => gSI_ne (by omega))
      obtain ⟨K, k1, k2, k3⟩ := F_laysNowR hv ha' hc'
      have kK : KP A K := (kp0 A).tr k3
      have haK : RA K v := RA_same haA (fun q a b => kK.1 q (scr_f (by omega)))
      have hcK : RC K v := RC_same hcA (fun q a b => kK.1 q (scr_f (by omega)))
      obtain ⟨D, d1, d2, d3, d4, d5, d6⟩ := M_does (p := k) (q := l) (y := y) (x := 0) hv haK hcK h8
      have rD : RM D z := RM_mo (rA.kp kK) (fun q hq => d5 q (by omega) (by omega)) (fun q a b j hj => by
        by_cases e1 : q = 148
        · exact d6 q j (Or.inl e1) hj
        · by_cases e2 : q = 153
          · exact d6 q j (Or.inr e2) hj
          · rw [d5 q e1 e2]) d4
      have cD : CT D t (wB v k l y 0) := ⟨⟨by rw [d4, kK.2.2.2]; exact eA, h1.1.2⟩, hW, RT_same a2 (fun i hi => (d5 _ (by omega) (by omega)).trans (kK.1 _ (scr_T ht hi))), d2, d3⟩
      refine ⟨bI (tiY v u0 y k l), A, D, ?_, ?_, t, wB v k l y 0, z, ⟨cD, yOK_B h2, by rw [wB_8]; omega⟩, rD⟩
      · rw [hf, if_pos (by rw [Bool.and_eq_true]; exact hb'), if_pos h8, l1, gB0_some, if_pos (gob_T l3), l3.1.1]
        show gB0 (fX0_add (t + 10) (nI k) (nI l) (nI y) (nI 0) L) _ = _
        rw [a1, gB0_some, hti, gB0_some, ite_bI]
        cases tiY v u0 y k l <;> rfl
      · rw [hg A haA hcA, if_pos (by rw [Bool.and_eq_true]; exact hb'), if_pos h8, k1, gB0_some]
        unfold fX9_snip_68
        show (if gIx 1 155 ((((36 : Int32) * nI y) + ((6 : Int32) * nI k)) + nI l) = true then if (K.1 155 (Int32.toNatClampNeg ((((36 : Int32) * nI y) + ((6 : Int32) * nI k)) + nI l))) ≤ 0 then gB0 (fX9_does (nI k) (nI l) (nI y) (nI 0) K) (fun M1 => some ((0 : Int32), M1)) else gB0 (fX9_does (nI k) (nI l) (nI y) (nI 0) K) (fun M1 => some ((1 : Int32), M1)) else none) = _
        rw [d1, gB0_some, gB0_some]
        have h7 := M_tied (α := Int32 × gMem) (l := l) ((0 : Int32), D) ((1 : Int32), D) hv k2 (z := y) (k := k) y1 hv0.1 (by omega) (by omega)
        rw [h7]
        cases tiY v u0 y k l <;> rfl
    · refine ⟨-5, M, gSI M 141 0 0, ?_, ?_, rt⟩
      · rw [hf, if_pos hb, if_neg h8]
      · rw [hg M h1.2.2.2.1 h1.2.2.2.2, if_pos hb, if_neg h8]
  · refine ⟨-2, M, gSI M 141 0 0, ?_, ?_, rt⟩
    · rw [hf, if_neg hb]
    · rw [hg M h1.2.2.2.1 h1.2.2.2.2, if_neg hb]
