/-! Gum, by the reference. -/
theorem Fr.kq {lo hi : Nat} {M N : gMem} (h : Fr lo hi M N) (h1 : 155 ≤ lo) (h2 : hi ≤ 162) : KP M N :=
  ⟨fun q hq => h.1 q (by have := scr_no hq; omega), fun j _ => by rw [h.1 141 (by omega)], fun q _ _ => by rw [h.2], by rw [h.2]⟩
theorem MV_same {M N : gMem} {v : gCt} {u : gSp} {n : Nat} (h : MV M v u n) (e : ∀ q, 155 ≤ q → q < 159 → N.1 q = M.1 q) : MV N v u n := by
  refine ⟨fun p hp => ?_, fun z hz => ?_⟩
  · rw [e 156 (by omega) (by omega), e 157 (by omega) (by omega), e 158 (by omega) (by omega)]; exact h.1 p hp
  · unfold TC
    rw [e 155 (by omega) (by omega)]; exact h.2 z hz
theorem ix161 {k : Nat} (h : k < 30) : gIx 1 161 (nI k) = true := gIx_k rfl (by decide) h (by omega)
theorem ixQ5 (p d : Nat) : (5 : Int32) * nI p + nI d = nI (5 * p + d) := by rw [show (5 : Int32) = nI 5 from rfl, pk_mul, nI_add]
theorem ixQ10 (p d : Nat) : (10 : Int32) * nI p + nI d = nI (10 * p + d) := by rw [show (10 : Int32) = nI 10 from rfl, pk_mul, nI_add]
theorem M_doors {M : gMem} {v : gCt} (h : RA M v) : gIx 1 148 (6 : Int32) = true ∧ M.1 148 (Int32.toNatClampNeg (6 : Int32)) = nI (v 0 6) := hd_at h (k := 6) (by omega) (i := 6) rfl
theorem M_ctIn {M : gMem} {t p : Nat} {v : gCt} {u : gSp} (a1 a2 : Int32) (h : CT M t v) (hm : MV M v u 1) (hL : M.1 141 24 = nI (v 0 1)) (hp : p < v 0 4) : ∃ N, fX9_laysTrues_114h a1 a2 (nI p) (0 : Int32) M = some (.inl (nI (p + 1), N)) ∧ (∀ d, d < v 0 6 → N.1 161 (5 * p + d) = if thO v u 0 (v 0 1) p d = true then M.1 161 (5 * p + d) + 1 else M.1 161 (5 * p + d)) ∧ (∀ k, k < 5 * p ∨ 5 * p + 5 ≤ k → N.1 161 k = M.1 161 k) ∧ Fr 161 162 M N := by
  have hv0 := h.2.1.1
  have key : ∃ r, fX9_laysTrues_114h a1 a2 (nI p) (0 : Int32) M = some r ∧ ∃ N, r = .inl (nI (p + 1), N) ∧ (∀ d, d < v 0 6 → N.1 161 (5 * p + d) = if thO v u 0 (v 0 1) p d = true then M.1 161 (5 * p + d) + 1 else M.1 161 (5 * p + d)) ∧ (∀ k, k < 5 * p ∨ 5 * p + 5 ≤ k → N.1 161 k = M.1 161 k) ∧ Fr 161 162 M N := by
    unfold fX9_laysTrues_114h
    refine gLp_inv (fun i (s : Int32 × gMem) => s.1 = nI i ∧ (∀ d, d < i → s.2.1 161 (5 * p + d) = if thO v u 0 (v 0 1) p d = true then M.1 161 (5 * p + d) + 1 else M.1 161 (5 * p + d)) ∧ (∀ k, k < 5 * p ∨ 5 * p + i ≤ k → s.2.1 161 k = M.1 161 k) ∧ Fr 161 162 M s.2) (v 0 6) (fun (r : Sum (Int32 × gMem) (Sum (Int32 × gMem) gMem)) => ∃ N, r = .inl (nI (p + 1), N) ∧ (∀ d, d < v 0 6 → N.1 161 (5 * p + d) = if thO v u 0 (v 0 1) p d = true then M.1 161 (5 * p + d) + 1 else M.1 161 (5 * p + d)) ∧ (∀ k, k < 5 * p ∨ 5 * p + 5 ≤ k → N.1 161 k = M.1 161 k) ∧ Fr 161 162 M N) (by omega) (fun i s hi hI => ?_) (fun s hI => ?_) _ ⟨rfl, fun d hd => absurd hd (Nat.not_lt_zero d), fun _ _ => rfl, Fr.rf⟩
    · obtain ⟨i', N⟩ := s
      obtain ⟨g1, g2, g3, g4⟩ := hI
      have g1 : i' = nI i := g1
      subst g1
      have g2 : ∀ d, d < i → N.1 161 (5 * p + d) = if thO v u 0 (v 0 1) p d = true then M.1 161 (5 * p + d) + 1 else M.1 161 (5 * p + d) := g2
      have g3 : ∀ k, k < 5 * p ∨ 5 * p + i ≤ k → N.1 161 k = M.1 161 k := g3
      have g4 : Fr 161 162 M N := g4
      have hN := h.kp (g4.kq (by omega) (by omega))
      have hLN : N.1 141 24 = nI (v 0 1) := by rw [g4.1 141 (by omega)]; exact hL
      have dO := M_goesThrough hN.2.1 hN.2.2.2.1 (MV_same hm (fun q _ _ => g4.1 q (by omega))) (y := 0) (by omega) (by omega) hv0.2.1 hLN hp hi
      rw [nI_0] at dO
      have hd6 := M_doors hN.2.2.2.1
      refine Or.inl ?_
      show ∃ s', fX9_laysTrues_114 a1 a2 (nI p) (nI i) N = _ ∧ _
      unfold fX9_laysTrues_114 fX9_laysTrues_154
      rw [if_pos hd6.1, hd6.2, if_neg (nI_ge hi (by omega)), ixQ5, if_pos (ix161 (by omega)), if_pos (ix161 (by omega)), if_pos (ix161 (by omega)), dO, gB0_some, ite_bI, nI_clamp (by omega), g3 (5 * p + i) (by omega), nI_1]
      cases hth : thO v u 0 (v 0 1) p i
      · rw [if_neg (by decide)]
        refine ⟨_, rfl, rfl, fun d hd => ?_, fun k hk => (gSI_nj (by omega)).trans (g3 k (by omega)), g4.tr (Fr.si (by omega) (by omega))⟩
        by_cases e : d = i
        · subst e; rw [hth, if_neg (by decide)]; exact gSI_eq.trans (Int32.add_zero _)
        · exact (gSI_nj (by omega)).trans (g2 d (by omega))
      · rw [if_pos rfl]
        refine ⟨_, rfl, rfl, fun d hd => ?_, fun k hk => (gSI_nj (by omega)).trans (g3 k (by omega)), g4.tr (Fr.si (by omega) (by omega))⟩
        by_cases e : d = i
        · subst e; rw [hth, if_pos rfl]; exact gSI_eq
        · exact (gSI_nj (by omega)).trans (g2 d (by omega))
    · obtain ⟨i', N⟩ := s
      obtain ⟨g1, g2, g3, g4⟩ := hI
      have g1 : i' = nI (v 0 6) := g1
      subst g1
      have g4 : Fr 161 162 M N := g4
      have hN := h.kp (g4.kq (by omega) (by omega))
      have hd6 := M_doors hN.2.2.2.1
      show ∃ r, fX9_laysTrues_114 a1 a2 (nI p) (nI (v 0 6)) N = _ ∧ _
      unfold fX9_laysTrues_114
      rw [if_pos hd6.1, hd6.2, if_pos (Int32.le_refl _), nI_1]
      exact ⟨_, rfl, N, rfl, g2, fun k hk => g3 k (by omega), g4⟩
  obtain ⟨r, r1, N, r2, r3⟩ := key
  exact ⟨N, by rw [r1, r2], r3⟩
theorem M_ct {M : gMem} {t c : Nat} {v : gCt} {u : gSp} (a1 : Int32) (h : CT M t v) (hm : MV M v u 1) (hL : M.1 141 24 = nI (v 0 1)) : ∃ N, fX9_laysTrues_103h a1 (nI c) (0 : Int32) M = some (.inl (nI (c + 1), N)) ∧ (∀ p d, p < v 0 4 → d < v 0 6 → N.1 161 (5 * p + d) = if thO v u 0 (v 0 1) p d = true then M.1 161 (5 * p + d) + 1 else M.1 161 (5 * p + d)) ∧ Fr 161 162 M N := by
  have hv0 := h.2.1.1
  have key : ∃ r, fX9_laysTrues_103h a1 (nI c) (0 : Int32) M = some r ∧ ∃ N, r = .inl (nI (c + 1), N) ∧ (∀ p d, p < v 0 4 → d < v 0 6 → N.1 161 (5 * p + d) = if thO v u 0 (v 0 1) p d = true then M.1 161 (5 * p + d) + 1 else M.1 161 (5 * p + d)) ∧ Fr 161 162 M N := by
    unfold fX9_laysTrues_103h
    refine gLp_inv (fun i (s : Int32 × gMem) => s.1 = nI i ∧ (∀ p d, p < i → d < v 0 6 → s.2.1 161 (5 * p + d) = if thO v u 0 (v 0 1) p d = true then M.1 161 (5 * p + d) + 1 else M.1 161 (5 * p + d)) ∧ (∀ k, 5 * i ≤ k → s.2.1 161 k = M.1 161 k) ∧ Fr 161 162 M s.2) (v 0 4) (fun (r : Sum (Int32 × gMem) gMem) => ∃ N, r = .inl (nI (c + 1), N) ∧ (∀ p d, p < v 0 4 → d < v 0 6 → N.1 161 (5 * p + d) = if thO v u 0 (v 0 1) p d = true then M.1 161 (5 * p + d) + 1 else M.1 161 (5 * p + d)) ∧ Fr 161 162 M N) (by omega) (fun i s hi hI => ?_) (fun s hI => ?_) _ ⟨rfl, fun p d hp => absurd hp (Nat.not_lt_zero p), fun _ _ => rfl, Fr.rf⟩
    · obtain ⟨i', N⟩ := s
      obtain ⟨g1, g2, g3, g4⟩ := hI
      have g1 : i' = nI i := g1
      subst g1
      have g2 : ∀ p d, p < i → d < v 0 6 → N.1 161 (5 * p + d) = if thO v u 0 (v 0 1) p d = true then M.1 161 (5 * p + d) + 1 else M.1 161 (5 * p + d) := g2
      have g3 : ∀ k, 5 * i ≤ k → N.1 161 k = M.1 161 k := g3
      have g4 : Fr 161 162 M N := g4
      have hN := h.kp (g4.kq (by omega) (by omega))
      have hLN : N.1 141 24 = nI (v 0 1) := by rw [g4.1 141 (by omega)]; exact hL
      obtain ⟨K, k1, k2, k3, k4⟩ := M_ctIn a1 (nI c) hN (MV_same hm (fun q _ _ => g4.1 q (by omega))) hLN hi
      refine Or.inl ?_
      show ∃ s', fX9_laysTrues_103 a1 (nI c) (nI i) N = _ ∧ _
      unfold fX9_laysTrues_103
      rw [F_people hN.2.2.2.1, gB0_some, if_neg (nI_ge hi (by omega)), k1]
      refine ⟨_, rfl, rfl, fun p d hp hd => ?_, fun k hk => (k3 k (by omega)).trans (g3 k (by omega)), g4.tr k4⟩
      by_cases e : p = i
      · subst e
        rw [k2 d hd, g3 _ (by omega)]
      · exact (k3 _ (by omega)).trans (g2 p d (by omega) hd)
    · obtain ⟨i', N⟩ := s
      obtain ⟨g1, g2, g3, g4⟩ := hI
      have g1 : i' = nI (v 0 4) := g1
      subst g1
      have g4 : Fr 161 162 M N := g4
      have hN := h.kp (g4.kq (by omega) (by omega))
      show ∃ r, fX9_laysTrues_103 a1 (nI c) (nI (v 0 4)) N = _ ∧ _
      unfold fX9_laysTrues_103
      rw [F_people hN.2.2.2.1, gB0_some, if_pos (Int32.le_refl _), nI_1]
      exact ⟨_, rfl, N, rfl, g2, g4⟩
  obtain ⟨r, r1, N, r2, r3⟩ := key
  exact ⟨N, by rw [r1, r2], r3⟩
/-- what is counted after c sets: the reference's -/
def GR (M : gMem) (v : gCt) (z : gRw) (s c : Nat) : Prop := M.1 141 43 = guC (gAg v z s) c ∧ M.1 141 44 = guA (gJA v) (gAg v z s) c ∧ M.1 141 45 = guY (gAg v z s) c ∧ ∀ p d, p < v 0 4 → d < v 0 6 → M.1 161 (5 * p + d) = guT (gAg v z s) (gTh v) p d c
theorem M_csIn {M : gMem} {t s c : Nat} {v : gCt} {z : gRw} (h : CT M t v) (hr : RO M z) (hs : s < 4) (h3 : z.2.1 s % 3 = 0) (hk : ∀ k, k < z.2.1 s / 3 → sgB v (z.2.2 s) k = true) (hc : c < 2 ^ v 0 5) (hg : GR M v z s c) : ∃ N, fX9_laysTrues_45 (nI s) (nI c) M = some (.inl (nI (c + 1), N)) ∧ GR N v z s (c + 1) ∧ KP M N := by
  have hv0 := h.2.1.1
  have hpw := pow_le7 hv0.2.2.2.2.2.1
  have hx := fC_x _ hv0.2.2.2.2.2.1 c (by omega)
  obtain ⟨K, k1, k2, k3, k4, k5, k6, k7⟩ := M_supG h hx
  obtain ⟨g1, g2, g3, g4⟩ := hg
  have ag := M_isSo k4 (hr.kp k5) k2 k3 hs hv0.2.1 h3 hk
  unfold fX9_laysTrues_45
  rw [F_joins h.2.2.2.1, gB0_some, sh_pow _ (by omega), if_neg (nI_ge hc (by omega)), k1, gB0_some, ag, gB0_some, ite_bI, nI_1]
  have hA : agO v (uG (fC (v 0 5) c)) (v 0 1) z s = gAg v z s c := rfl
  rw [hA]
  cases hb : gAg v z s c
  · rw [if_neg (by decide)]
    refine ⟨K, rfl, ⟨?_, ?_, ?_, fun p d hp hd => ?_⟩, k5⟩
    · rw [k6 43 (by omega), guC, hb, if_neg (by decide)]; exact g1
    · rw [k6 44 (by omega), guA, hb, if_neg (by decide)]; exact g2
    · rw [k6 45 (by omega), guY, hb, if_neg (by decide)]; exact g3
    · rw [k7 161 (by omega), guT, hb, Bool.false_and, if_neg (by decide)]; exact g4 p d hp hd
  · rw [if_pos rfl]
    unfold fX9_laysTrues_83 fX9_laysTrues_93
    have kS : KP K (gSI (gSI (gSI K 141 43 (K.1 141 43 + 1)) 141 44 ((gSI K 141 43 (K.1 141 43 + 1)).1 141 44 &&& nI c)) 141 45 ((gSI (gSI K 141 43 (K.1 141 43 + 1)) 141 44 ((gSI K 141 43 (K.1 141 43 + 1)).1 141 44 &&& nI c)).1 141 45 ||| nI c)) := ((KP.s141 (by omega)).tr (KP.s141 (by omega))).tr (KP.s141 (by omega))
    have o1 : ∀ q, q ≠ 141 → (gSI (gSI (gSI K 141 43 (K.1 141 43 + 1)) 141 44 ((gSI K 141 43 (K.1 141 43 + 1)).1 141 44 &&& nI c)) 141 45 ((gSI (gSI K 141 43 (K.1 141 43 + 1)) 141 44 ((gSI K 141 43 (K.1 141 43 + 1)).1 141 44 &&& nI c)).1 141 45 ||| nI c)).1 q = K.1 q := fun q hq => (gSI_ne hq).trans ((gSI_ne hq).trans (gSI_ne hq))
    have hQ := k4.kp kS
    obtain ⟨N, n1, n2, n3⟩ := M_ct (c := c) (nI s) hQ (MV_same k2 (fun q _ _ => o1 q (by omega))) (by rw [gSI_nj (by omega), gSI_nj (by omega), gSI_nj (by omega)]; exact k3)
    rw [n1]
    refine ⟨N, rfl, ⟨?_, ?_, ?_, fun p d hp hd => ?_⟩, (k5.tr kS).tr (n3.kq (by omega) (by omega))⟩
    · rw [n3.1 141 (by omega), gSI_nj (by omega), gSI_nj (by omega), gSI_eq, k6 43 (by omega), g1, guC, hb, if_pos rfl]
    · rw [n3.1 141 (by omega), gSI_nj (by omega), gSI_eq, gSI_nj (by omega), k6 44 (by omega), g2, guA, hb, if_pos rfl]
    · rw [n3.1 141 (by omega), gSI_eq, gSI_nj (by omega), gSI_nj (by omega), k6 45 (by omega), g3, guY, hb, if_pos rfl]
    · rw [n2 p d hp hd, o1 161 (by omega), k7 161 (by omega), g4 p d hp hd, guT, hb, Bool.true_and]
      rfl
theorem ite_mx {α : Type} (F : Int32 → α) (x y : Int32) : (if x ≤ y then F y else F x) = F (gMx x y) := by
  unfold gMx
  by_cases c : x < y
  · rw [if_pos c, if_pos (Int32.le_of_lt c)]
  · rw [if_neg c]
    by_cases d : x ≤ y
    · rw [if_pos d]
      have : x = y := Int32.le_antisymm d (Int32.not_lt.mp c)
      rw [this]
    · rw [if_neg d]
/-- only what is asked has changed -/
def AK (M N : gMem) : Prop := (∀ q, q ≠ 141 → N.1 q = M.1 q) ∧ (∀ j, j ≠ 46 → j ≠ 47 → N.1 141 j = M.1 141 j) ∧ N.2 = M.2
theorem AK.rf {M : gMem} : AK M M := ⟨fun _ _ => rfl, fun _ _ _ => rfl, rfl⟩
theorem AK.tr {M N K : gMem} (h : AK M N) (g : AK N K) : AK M K := ⟨fun q hq => (g.1 q hq).trans (h.1 q hq), fun j a b => (g.2.1 j a b).trans (h.2.1 j a b), g.2.2.trans h.2.2⟩
theorem AK.kp {M N : gMem} (h : AK M N) : KP M N := ⟨fun q hq => h.1 q (scr_no hq).2.1, fun j hj => h.2.1 j (by omega) (by omega), fun _ _ _ => by rw [h.2.2], by rw [h.2.2]⟩
theorem AK.si {M : gMem} {j : Nat} {x : Int32} (h : j = 46 ∨ j = 47) : AK M (gSI M 141 j x) := ⟨fun q hq => gSI_ne hq, fun k a b => gSI_nj (by omega), rfl⟩
theorem M_bqD {M : gMem} {t p : Nat} {v : gCt} {T : Nat → Nat → Int32} {st : Int32 × Int32} (h : CT M t v) (hp : p < v 0 4) (hT : ∀ p d, p < v 0 4 → d < v 0 6 → M.1 161 (5 * p + d) = T p d) (h1 : M.1 141 46 = st.1) (h2 : M.1 141 47 = st.2) : ∃ N, fX9_laysTrues_199h (nI p) (0 : Int32) M = some (.inl (nI (p + 1), N)) ∧ N.1 141 46 = (bqD (M.1 141 43) T p st (v 0 6)).1 ∧ N.1 141 47 = (bqD (M.1 141 43) T p st (v 0 6)).2 ∧ AK M N := by
  have hv0 := h.2.1.1
  have key : ∃ r, fX9_laysTrues_199h (nI p) (0 : Int32) M = some r ∧ ∃ N, r = .inl (nI (p + 1), N) ∧ N.1 141 46 = (bqD (M.1 141 43) T p st (v 0 6)).1 ∧ N.1 141 47 = (bqD (M.1 141 43) T p st (v 0 6)).2 ∧ AK M N := by
    unfold fX9_laysTrues_199h
    refine gLp_inv (fun d (s : Int32 × gMem) => s.1 = nI d ∧ s.2.1 141 46 = (bqD (M.1 141 43) T p st d).1 ∧ s.2.1 141 47 = (bqD (M.1 141 43) T p st d).2 ∧ AK M s.2) (v 0 6) (fun (r : Sum (Int32 × gMem) gMem) => ∃ N, r = .inl (nI (p + 1), N) ∧ N.1 141 46 = (bqD (M.1 141 43) T p st (v 0 6)).1 ∧ N.1 141 47 = (bqD (M.1 141 43) T p st (v 0 6)).2 ∧ AK M N) (by omega) (fun d s hd hI => ?_) (fun s hI => ?_) _ ⟨rfl, h1, h2, AK.rf⟩
    · obtain ⟨i', N⟩ := s
      obtain ⟨g1, g2, g3, g4⟩ := hI
      have g1 : i' = nI d := g1
      subst g1
      have g2 : N.1 141 46 = (bqD (M.1 141 43) T p st d).1 := g2
      have g3 : N.1 141 47 = (bqD (M.1 141 43) T p st d).2 := g3
      have g4 : AK M N := g4
      have hN := h.kp g4.kp
      have hd6 := M_doors hN.2.2.2.1
      have eT : N.1 161 (5 * p + d) = T p d := by rw [g4.1 161 (by omega)]; exact hT p d hp hd
      have e43 : N.1 141 43 = M.1 141 43 := g4.2.1 43 (by omega) (by omega)
      refine Or.inl ?_
      show ∃ s', fX9_laysTrues_199 (nI p) (nI d) N = _ ∧ _
      unfold fX9_laysTrues_199
      rw [if_pos hd6.1, hd6.2, if_neg (nI_ge hd (by omega)), ixQ5, if_pos (ix161 (by omega)), nI_clamp (by omega), eT, e43]
      have em : (if T p d ≤ M.1 141 43 - T p d then fX9_laysTrues_246 (nI p) (nI d) (M.1 141 43 - T p d) N else fX9_laysTrues_246 (nI p) (nI d) (T p d) N) = fX9_laysTrues_246 (nI p) (nI d) (woO (M.1 141 43) (T p d)) N := ite_mx (fun s0 => fX9_laysTrues_246 (nI p) (nI d) s0 N) _ _
      rw [em]
      unfold fX9_laysTrues_246 fX9_laysTrues_273
      rw [g3, ixQ10, nI_1]
      by_cases c : woO (M.1 141 43) (T p d) < (bqD (M.1 141 43) T p st d).2
      · rw [if_pos c]
        refine ⟨_, rfl, rfl, ?_, ?_, g4.tr ((AK.si (Or.inl rfl)).tr (AK.si (Or.inr rfl)))⟩
        · rw [bqD, if_neg (Int32.not_le.mpr c)]; exact (gSI_nj (by omega)).trans gSI_eq
        · rw [bqD, if_neg (Int32.not_le.mpr c)]; exact gSI_eq
      · rw [if_neg c]
        refine ⟨_, rfl, rfl, ?_, ?_, g4⟩
        · rw [bqD, if_pos (Int32.not_lt.mp c)]; exact g2
        · rw [bqD, if_pos (Int32.not_lt.mp c)]; exact g3
    · obtain ⟨i', N⟩ := s
      obtain ⟨g1, g2, g3, g4⟩ := hI
      have g1 : i' = nI (v 0 6) := g1
      subst g1
      have g4 : AK M N := g4
      have hN := h.kp g4.kp
      have hd6 := M_doors hN.2.2.2.1
      show ∃ r, fX9_laysTrues_199 (nI p) (nI (v 0 6)) N = _ ∧ _
      unfold fX9_laysTrues_199
      rw [if_pos hd6.1, hd6.2, if_pos (Int32.le_refl _), nI_1]
      exact ⟨_, rfl, N, rfl, g2, g3, g4⟩
  obtain ⟨r, r1, N, r2, r3⟩ := key
  exact ⟨N, by rw [r1, r2], r3⟩
theorem M_bqP {M : gMem} {t : Nat} {v : gCt} {T : Nat → Nat → Int32} (h : CT M t v) (hT : ∀ p d, p < v 0 4 → d < v 0 6 → M.1 161 (5 * p + d) = T p d) : ∃ N, fX9_laysTrues_181 (gSI M 141 46 (-1)) = some N ∧ N.1 141 46 = (bqP (M.1 141 43) T (v 0 6) (v 0 4)).1 ∧ N.1 141 47 = (bqP (M.1 141 43) T (v 0 6) (v 0 4)).2 ∧ AK M N := by
  have hv0 := h.2.1.1
  unfold fX9_laysTrues_181 fX9_laysTrues_189h
  rw [gSI_nj (show 43 ≠ 46 by omega)]
  refine gLp_inv (fun p (s : Int32 × gMem) => s.1 = nI p ∧ s.2.1 141 46 = (bqP (M.1 141 43) T (v 0 6) p).1 ∧ s.2.1 141 47 = (bqP (M.1 141 43) T (v 0 6) p).2 ∧ AK M s.2) (v 0 4) (fun (N : gMem) => N.1 141 46 = (bqP (M.1 141 43) T (v 0 6) (v 0 4)).1 ∧ N.1 141 47 = (bqP (M.1 141 43) T (v 0 6) (v 0 4)).2 ∧ AK M N) (by omega) (fun p s hp hI => ?_) (fun s hI => ?_) _ ⟨rfl, (gSI_nj (by omega)).trans gSI_eq, gSI_eq, (AK.si (Or.inl rfl)).tr (AK.si (Or.inr rfl))⟩
  · obtain ⟨i', N⟩ := s
    obtain ⟨g1, g2, g3, g4⟩ := hI
    have g1 : i' = nI p := g1
    subst g1
    have g2 : N.1 141 46 = (bqP (M.1 141 43) T (v 0 6) p).1 := g2
    have g3 : N.1 141 47 = (bqP (M.1 141 43) T (v 0 6) p).2 := g3
    have g4 : AK M N := g4
    have hN := h.kp g4.kp
    obtain ⟨K, k1, k2, k3, k4⟩ := M_bqD (T := T) hN hp (fun p d hp hd => by rw [g4.1 161 (by omega)]; exact hT p d hp hd) g2 g3
    rw [g4.2.1 43 (by omega) (by omega)] at k2 k3
    refine Or.inl ?_
    show ∃ s', fX9_laysTrues_189 (nI p) N = _ ∧ _
    unfold fX9_laysTrues_189
    rw [F_people hN.2.2.2.1, gB0_some, if_neg (nI_ge hp (by omega)), k1]
    exact ⟨_, rfl, rfl, k2, k3, g4.tr k4⟩
  · obtain ⟨i', N⟩ := s
    obtain ⟨g1, g2, g3, g4⟩ := hI
    have g1 : i' = nI (v 0 4) := g1
    subst g1
    have g4 : AK M N := g4
    have hN := h.kp g4.kp
    show ∃ r, fX9_laysTrues_189 (nI (v 0 4)) N = _ ∧ _
    unfold fX9_laysTrues_189
    rw [F_people hN.2.2.2.1, gB0_some, if_pos (Int32.le_refl _)]
    exact ⟨_, rfl, g2, g3, g4⟩
def gBq (v : gCt) (z : gRw) (s : Nat) : Int32 × Int32 := bqP (guC (gAg v z s) (2 ^ v 0 5)) (fun p d => guT (gAg v z s) (gTh v) p d (2 ^ v 0 5)) (v 0 6) (v 0 4)
theorem M_laysTrues {M : gMem} {t s : Nat} {v : gCt} {z : gRw} (h : CT M t v) (hr : RO M z) (hs : s < 4) (h3 : z.2.1 s % 3 = 0) (hk : ∀ k, k < z.2.1 s / 3 → sgB v (z.2.2 s) k = true) : ∃ N, fX9_laysTrues (nI s) M = some N ∧ GR N v z s (2 ^ v 0 5) ∧ N.1 141 46 = (gBq v z s).1 ∧ N.1 141 47 = (gBq v z s).2 ∧ KP M N := by
  have hv0 := h.2.1.1
  have hpw := pow_le7 hv0.2.2.2.2.2.1
  unfold fX9_laysTrues fX9_laysTrues_0 fX9_laysTrues_8 fX9_laysTrues_19 fX9_laysTrues_24h
  rw [F_joins (h.kp (KP.s141 (by omega))).2.2.2.1, gB0_some, all_k _ (by omega)]
  show ∃ N, gLp (fun st : Int32 × gMem => fX9_laysTrues_24 (nI s) st.1 st.2) gFu ((0 : Int32), gSI (gSI (gSI M 141 43 0) 141 44 (gJA v)) 141 45 0) = _ ∧ _
  have k0 : KP M (gSI (gSI (gSI M 141 43 0) 141 44 (gJA v)) 141 45 0) := ((KP.s141 (by omega)).tr (KP.s141 (by omega))).tr (KP.s141 (by omega))
  refine gLp_inv (fun i (st : Int32 × gMem) => st.1 = nI i ∧ (st.2.1 141 43 = 0 ∧ st.2.1 141 44 = gJA v ∧ st.2.1 141 45 = 0) ∧ (∀ k, k < i → st.2.1 161 k = 0) ∧ KP M st.2) 30 (fun (N : gMem) => GR N v z s (2 ^ v 0 5) ∧ N.1 141 46 = (gBq v z s).1 ∧ N.1 141 47 = (gBq v z s).2 ∧ KP M N) (by omega) (fun i st hi hI => ?_) (fun st hI => ?_) _ ⟨rfl, ⟨?_, ?_, gSI_eq⟩, fun k hk => absurd hk (Nat.not_lt_zero k), k0⟩
  · obtain ⟨i', N⟩ := st
    obtain ⟨g1, g2, g3, g4⟩ := hI
    have g1 : i' = nI i := g1
    subst g1
    have g3 : ∀ k, k < i → N.1 161 k = 0 := g3
    have g4 : KP M N := g4
    refine Or.inl ?_
    show ∃ s', fX9_laysTrues_24 (nI s) (nI i) N = _ ∧ _
    unfold fX9_laysTrues_24
    rw [show (30 : Int32) = nI 30 from rfl, if_neg (nI_ge hi (by omega)), if_pos (ix161 hi), nI_clamp (by omega), nI_1]
    refine ⟨_, rfl, rfl, ?_, fun k hk => ?_, g4.tr ((Fr.si (lo := 161) (hi := 162) (by omega) (by omega)).kq (by omega) (by omega))⟩
    · have e : (gSI N 161 i 0).1 141 = N.1 141 := gSI_ne (by omega)
      show (gSI N 161 i 0).1 141 43 = 0 ∧ (gSI N 161 i 0).1 141 44 = gJA v ∧ (gSI N 161 i 0).1 141 45 = 0
      rw [e]; exact g2
    · by_cases e : k = i
      · subst e; exact gSI_eq
      · exact (gSI_nj e).trans (g3 k (by omega))
  · obtain ⟨i', N⟩ := st
    obtain ⟨g1, ⟨g2, g5, g6⟩, g3, g4⟩ := hI
    have g1 : i' = nI 30 := g1
    subst g1
    have g2 : N.1 141 43 = 0 := g2
    have g5 : N.1 141 44 = gJA v := g5
    have g6 : N.1 141 45 = 0 := g6
    have g3 : ∀ k, k < 30 → N.1 161 k = 0 := g3
    have kN : KP M N := g4
    show ∃ r, fX9_laysTrues_24 (nI s) (nI 30) N = _ ∧ _
    unfold fX9_laysTrues_24
    rw [show (30 : Int32) = nI 30 from rfl, if_pos (Int32.le_refl _)]
    have key : ∃ r, fX9_laysTrues_45h (nI s) (0 : Int32) N = some r ∧ (GR r v z s (2 ^ v 0 5) ∧ r.1 141 46 = (gBq v z s).1 ∧ r.1 141 47 = (gBq v z s).2 ∧ KP M r) := by
      unfold fX9_laysTrues_45h
      refine gLp_inv (fun c (st : Int32 × gMem) => st.1 = nI c ∧ GR st.2 v z s c ∧ KP M st.2) (2 ^ v 0 5) (fun (r : gMem) => GR r v z s (2 ^ v 0 5) ∧ r.1 141 46 = (gBq v z s).1 ∧ r.1 141 47 = (gBq v z s).2 ∧ KP M r) (by omega) (fun c st hc hI => ?_) (fun st hI => ?_) _ ⟨rfl, ⟨g2, g5, g6, fun p d hp hd => g3 _ (by omega)⟩, kN⟩
      · obtain ⟨i', P⟩ := st
        obtain ⟨p1, p2, p3⟩ := hI
        have p1 : i' = nI c := p1
        subst p1
        have p2 : GR P v z s c := p2
        have p3 : KP M P := p3
        obtain ⟨Q, q1, q2, q3⟩ := M_csIn (h.kp p3) (hr.kp p3) hs h3 hk hc p2
        exact Or.inl ⟨(nI (c + 1), Q), q1, rfl, q2, p3.tr q3⟩
      · obtain ⟨i', P⟩ := st
        obtain ⟨p1, p2, p3⟩ := hI
        have p1 : i' = nI (2 ^ v 0 5) := p1
        subst p1
        have p2 : GR P v z s (2 ^ v 0 5) := p2
        have p3 : KP M P := p3
        have hP := h.kp p3
        obtain ⟨Q, q1, q2, q3, q4⟩ := M_bqP (T := fun p d => guT (gAg v z s) (gTh v) p d (2 ^ v 0 5)) hP p2.2.2.2
        rw [p2.1] at q2 q3
        show ∃ r, fX9_laysTrues_45 (nI s) (nI (2 ^ v 0 5)) P = _ ∧ _
        unfold fX9_laysTrues_45
        rw [F_joins hP.2.2.2.1, gB0_some, sh_pow _ (by omega), if_pos (Int32.le_refl _), q1, gEx_some]
        refine ⟨_, rfl, ⟨?_, ?_, ?_, fun p d hp hd => ?_⟩, q2, q3, p3.tr q4.kp⟩
        · rw [q4.2.1 43 (by omega) (by omega)]; exact p2.1
        · rw [q4.2.1 44 (by omega) (by omega)]; exact p2.2.1
        · rw [q4.2.1 45 (by omega) (by omega)]; exact p2.2.2.1
        · rw [q4.1 161 (by omega)]; exact p2.2.2.2 p d hp hd
    obtain ⟨r, r1, r2⟩ := key
    rw [r1, gEx_some]
    exact ⟨_, rfl, r2⟩
  · rw [gSI_nj (by omega), gSI_nj (by omega), gSI_eq]
  · rw [gSI_nj (by omega), gSI_eq]
