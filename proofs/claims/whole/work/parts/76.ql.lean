/-! when, by the class -/
def KW (t : Nat) (M N : gMem) : Prop := (∀ q, scr q = false → (q < t + 10 ∨ t + 15 ≤ q) → N.1 q = M.1 q) ∧ (∀ j, j ≠ 4 → N.1 (t + 10) j = M.1 (t + 10) j) ∧ (∀ j, j = 6 ∨ j = 14 ∨ j = 15 → N.1 141 j = M.1 141 j) ∧ (∀ q, q ≠ 145 → q ≠ 141 → N.2.1 q = M.2.1 q) ∧ N.2.2 = M.2.2
theorem KW.tr {t : Nat} {M N K : gMem} (h : KW t M N) (g : KW t N K) : KW t M K := ⟨fun q a b => (g.1 q a b).trans (h.1 q a b), fun j hj => (g.2.1 j hj).trans (h.2.1 j hj), fun j hj => (g.2.2.1 j hj).trans (h.2.2.1 j hj), fun q a b => (g.2.2.2.1 q a b).trans (h.2.2.2.1 q a b), g.2.2.2.2.trans h.2.2.2.2⟩
theorem scr_T {t k : Nat} (h : gTn t) (hk : k < 15) : scr (t + k) = false := by
  have := gTn_lo h
  unfold scr
  simp only [Bool.or_eq_false_iff, Bool.and_eq_false_iff, decide_eq_false_iff_not]
  omega
theorem KP.kw {t : Nat} {M N : gMem} (h : KP M N) (ht : gTn t) : KW t M N := ⟨fun q a _ => h.1 q a, fun j _ => by rw [h.1 (t + 10) (scr_T ht (by omega))], h.2.1, h.2.2.1, h.2.2.2⟩
theorem F_liveW {M : gMem} {t : Nat} {w : gCt} (h1 : M.2.2 0 = t) (ho : gOb 7 t = true) (hv : gWF w) (hr : RT M t w) : ∃ N, fX8_liveAsNow M = some N ∧ LVd N w u0 (w 0 0) ∧ RT N t w ∧ KP M N := by
  have ht := gTn_of ho
  obtain ⟨N, n1, n2, n3, n4, n5⟩ := F_sn M
  have kN : KP M N := ⟨fun q hq => n3 q (by have := scr_no hq; omega), fun j _ => by rw [n3 141 (by omega)], fun q _ _ => by rw [n5], by rw [n5]⟩
  have hrN : RT N t w := RT_same hr (fun i hi => kN.1 _ (scr_T ht hi))
  have e2 : N.2.2 0 = t := by rw [n5]; exact h1
  obtain ⟨K, k1, k2, k3⟩ := F_live ht hv hrN n2 hv.1.1
  unfold fX8_liveAsNow fX8_liveAsNow_0
  rw [n1, gB0_some, e2, if_pos ho, if_pos ho, hrN.1.2.1, k1]
  have kK := kN.tr (k3.kp (by omega) (by omega))
  exact ⟨K, rfl, k2, RT_same hr (fun i hi => kK.1 _ (scr_T ht hi)), kK⟩
theorem C_lastW {M : gMem} {t p : Nat} {v : gCt} {u : gSp} (h1 : M.2.2 0 = t) (ho : gOb 7 t = true) (hv : gWF v) (hr : RT M t v) (hL : LVd M v u (v 0 0)) (hy : 0 < v 0 0) (hp : p < v 0 4) : fX8_lastWorth (nI p) M = some (woY v u (v 0 0 - 1) p) := by
  have hv0 := hv.1
  unfold fX8_lastWorth fX8_lastWorth_0
  have e : nI (v 0 0) - 1 = nI (v 0 0 - 1) := by
    rw [show (1 : Int32) = nI 1 from rfl, pk_sub (by omega)]
  rw [h1, if_pos ho, if_pos ho, hr.1.2.1, e, F_hasYear hv hr, gB0_some, ite_bI, inR_nI (by omega), decide_eq_true (show v 0 0 - 1 < v 0 0 by omega), if_pos rfl, ix22 (by omega), if_pos rfl, nI_clamp (by omega), ra22, ixW (by omega) (by omega), if_pos rfl, nI_clamp (by omega), (hL.1 (v 0 0 - 1) (by omega)).2.2.2.1 p hp]
theorem C_both {M : gMem} {t p q : Nat} {w : gCt} (h1 : M.2.2 0 = t) (ho : gOb 7 t = true) (hv : gWF w) (hr : RT M t w) (hy : 0 < w 0 0) (hp : p < w 0 4) (hq : q < w 0 4) : ∃ N, fX8_lastWorthOfBoth (nI p) (nI q) M = some (whO w p q, N) ∧ KP M N := by
  obtain ⟨N, n1, n2, n3, n4⟩ := F_liveW h1 ho hv hr
  have e2 : N.2.2 0 = t := by rw [n4.2.2.2]; exact h1
  unfold fX8_lastWorthOfBoth fX8_lastWorthOfBoth_0
  rw [n1, gB0_some, C_lastW e2 ho hv n3 n2 hy hp, gB0_some, C_lastW e2 ho hv n3 n2 hy hq, gB0_some]
  exact ⟨N, rfl, n4⟩
/-- one act more: the class's town reads as the city with it -/
theorem C_addAct {M : gMem} {t p q y : Nat} {v : gCt} (h : CT M t v) (h30 : v 0 8 ≤ 30) : ∃ N, fX0_add (t + 10) (nI p) (nI q) (nI y) (9 : Int32) M = some N ∧ RT N t (wA v p q y) ∧ N.2 = M.2 ∧ (∀ k, k < t + 10 ∨ t + 15 ≤ k → N.1 k = M.1 k) ∧ (∀ j, j ≠ 4 → N.1 (t + 10) j = M.1 (t + 10) j) ∧ ∀ k, 11 ≤ k → k ≤ 14 → ∀ i, i ≠ v 0 8 → N.1 (t + k) i = M.1 (t + k) i := by
  have ht := gTn_of h.1.2
  have hr := h.2.2.1
  have h4 : M.1 (t + 10) 4 = nI (v 0 8) := by
    have := hr.1
    simp only [this]
  have ix : ∀ k, 11 ≤ k → k ≤ 14 → gIx 1 (t + k) (nI (v 0 8)) = true := fun k a b => ixT ht (by omega) (n := 31) (by
    have : k = 11 ∨ k = 12 ∨ k = 13 ∨ k = 14 := by omega
    rcases this with rfl | rfl | rfl | rfl <;> rfl) (by omega) (by omega)
  obtain ⟨sh1, sh2⟩ := gTn_at ht 14 (by omega)
  have sh3 : gSh (t + 14) = (1, 31) := sh1
  have al : gAl (t + 10 + 4) = true := gAl_of sh3 sh2
  have l1 : nI (gSh (t + 10 + 4)).2 = nI 31 := by rw [show t + 10 + 4 = t + 14 from rfl, sh3]
  unfold fX0_add fX0_add_0 fX0_add_35 fX0_add_45 fX0_add_55 fX0_add_63
  have n0 : ¬ nI (v 0 8) < 0 := nI_nlt (b := 0) (by omega) (by omega)
  have c1 : ∀ x, (gSI M (t + 10 + 1) (v 0 8) x).1 (t + 10) 4 = nI (v 0 8) := fun x => (gSI_o (by omega)).trans h4
  have c2 : ∀ x z, (gSI (gSI M (t + 10 + 1) (v 0 8) x) (t + 10 + 2) (v 0 8) z).1 (t + 10) 4 = nI (v 0 8) := fun x z => (gSI_o (by omega)).trans (c1 x)
  have c3 : ∀ x z w, (gSI (gSI (gSI M (t + 10 + 1) (v 0 8) x) (t + 10 + 2) (v 0 8) z) (t + 10 + 3) (v 0 8) w).1 (t + 10) 4 = nI (v 0 8) := fun x z w => (gSI_o (by omega)).trans (c2 x z)
  have c4 : ∀ x z w k, (gSI (gSI (gSI (gSI M (t + 10 + 1) (v 0 8) x) (t + 10 + 2) (v 0 8) z) (t + 10 + 3) (v 0 8) w) (t + 10 + 4) (v 0 8) k).1 (t + 10) 4 = nI (v 0 8) := fun x z w k => (gSI_o (by omega)).trans (c3 x z w)
  rw [h4, if_neg n0, if_pos al, l1, if_pos (nI_lt (by omega) (by omega)), if_pos (ix 11 (by omega) (by omega)), nI_clamp (by omega), c1, if_pos (ix 12 (by omega) (by omega)), nI_clamp (by omega), c2, if_pos (ix 13 (by omega) (by omega)), nI_clamp (by omega), c3, if_pos (ix 14 (by omega) (by omega)), nI_clamp (by omega), c4, nI_1]
  have o : ∀ k, k < t + 10 ∨ t + 15 ≤ k → (gSI (gSI (gSI (gSI (gSI M (t + 10 + 1) (v 0 8) (nI p)) (t + 10 + 2) (v 0 8) (nI q)) (t + 10 + 3) (v 0 8) (nI y)) (t + 10 + 4) (v 0 8) 9) (t + 10) 4 (nI (v 0 8 + 1))).1 k = M.1 k := fun k hk => (gSI_ne (by omega)).trans ((gSI_ne (by omega)).trans ((gSI_ne (by omega)).trans ((gSI_ne (by omega)).trans (gSI_ne (by omega)))))
  have f : ∀ j, j ≠ 4 → (gSI (gSI (gSI (gSI (gSI M (t + 10 + 1) (v 0 8) (nI p)) (t + 10 + 2) (v 0 8) (nI q)) (t + 10 + 3) (v 0 8) (nI y)) (t + 10 + 4) (v 0 8) 9) (t + 10) 4 (nI (v 0 8 + 1))).1 (t + 10) j = M.1 (t + 10) j := fun j hj => (gSI_nj hj).trans ((gSI_o (by omega)).trans ((gSI_o (by omega)).trans ((gSI_o (by omega)).trans (gSI_o (by omega)))))
  have g : ∀ k, 11 ≤ k → k ≤ 14 → ∀ i, i ≠ v 0 8 → (gSI (gSI (gSI (gSI (gSI M (t + 10 + 1) (v 0 8) (nI p)) (t + 10 + 2) (v 0 8) (nI q)) (t + 10 + 3) (v 0 8) (nI y)) (t + 10 + 4) (v 0 8) 9) (t + 10) 4 (nI (v 0 8 + 1))).1 (t + k) i = M.1 (t + k) i := fun k a b i hi => by
    have s : ∀ (N : gMem) (a' : Nat) (x : Int32), (gSI N a' (v 0 8) x).1 (t + k) i = N.1 (t + k) i := fun N a' x => by
      by_cases e : t + k = a'
      · subst e; exact gSI_nj hi
      · exact gSI_o e
    exact (gSI_o (by omega)).trans ((s _ _ _).trans ((s _ _ _).trans ((s _ _ _).trans (s _ _ _))))
  refine ⟨_, rfl, ?_, rfl, o, f, g⟩
  obtain ⟨r0, r1, r2, r3, r4, r5⟩ := hr
  have e9 : ∀ k i, k ≠ 0 → k < 10 → wA v p q y k i = v k i := fun k i a b => wA_k a (Or.inl b)
  have o0 := o t (by omega)
  have ok : ∀ i, i < 10 → _ := fun i hi => o (t + i) (by omega)
  unfold RT
  rw [wA_8, wA_0 (i := 0) (by decide), wA_0 (i := 1) (by decide), wA_0 (i := 2) (by decide), wA_0 (i := 3) (by decide), wA_0 (i := 4) (by decide), wA_0 (i := 5) (by decide), wA_0 (i := 6) (by decide), wA_0 (i := 7) (by decide), wA_0 (i := 9) (by decide), o0, ok 1 (by omega), ok 2 (by omega), ok 3 (by omega), ok 4 (by omega), ok 5 (by omega), ok 6 (by omega), ok 7 (by omega), ok 8 (by omega), ok 9 (by omega)]
  refine ⟨?_, fun i hi => ?_, fun i hi => ?_, fun i hi => ?_, fun i hi => ?_, fun i hi => ?_⟩
  · simp only [r0, gSI_eq, and_self, and_true, true_and]
  · rw [e9 1 i (by decide) (by decide), e9 2 i (by decide) (by decide), e9 3 i (by decide) (by decide)]; exact r1 i hi
  · rw [e9 4 i (by decide) (by decide), e9 5 i (by decide) (by decide), e9 6 i (by decide) (by decide)]; exact r2 i hi
  · rw [e9 7 i (by decide) (by decide)]; exact r3 i hi
  · rw [e9 8 i (by decide) (by decide), e9 9 i (by decide) (by decide)]; exact r4 i hi
  · by_cases c : i = v 0 8
    · subst c
      rw [wA_10, wA_11, wA_12, wA_13]
      refine ⟨?_, ?_, ?_, ?_⟩
      · exact (gSI_o (by omega)).trans ((gSI_o (by omega)).trans ((gSI_o (by omega)).trans ((gSI_o (by omega)).trans gSI_eq)))
      · exact (gSI_o (by omega)).trans ((gSI_o (by omega)).trans ((gSI_o (by omega)).trans gSI_eq))
      · exact (gSI_o (by omega)).trans ((gSI_o (by omega)).trans gSI_eq)
      · exact (gSI_o (by omega)).trans gSI_eq
    · rw [wA_k (by decide) (Or.inr c), wA_k (by decide) (Or.inr c), wA_k (by decide) (Or.inr c), wA_k (by decide) (Or.inr c)]
      have z := r5 i (by omega)
      exact ⟨(g 11 (by omega) (by omega) i c).trans z.1, (g 12 (by omega) (by omega) i c).trans z.2.1, (g 13 (by omega) (by omega) i c).trans z.2.2.1, (g 14 (by omega) (by omega) i c).trans z.2.2.2⟩
