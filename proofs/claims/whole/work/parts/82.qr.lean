/-! Gum, by the class: all sets of told joins. -/
def guC (A : Nat → Bool) : Nat → Int32
  | 0 => 0
  | c + 1 => if A c = true then guC A c + 1 else guC A c
def guA (J : Int32) (A : Nat → Bool) : Nat → Int32
  | 0 => J
  | c + 1 => if A c = true then guA J A c &&& nI c else guA J A c
def guY (A : Nat → Bool) : Nat → Int32
  | 0 => 0
  | c + 1 => if A c = true then guY A c ||| nI c else guY A c
def guT (A : Nat → Bool) (th : Nat → Nat → Nat → Bool) (p d : Nat) : Nat → Int32
  | 0 => 0
  | c + 1 => if (A c && th c p d) = true then guT A th p d c + 1 else guT A th p d c
theorem LVd_same {M N : gMem} {v : gCt} {u : gSp} {n : Nat} (h : LVd M v u n) (hn : n ≤ 12) (e : ∀ q, 14 ≤ q → q < 61 → N.1 q = M.1 q) : LVd N v u n :=
  ⟨fun y hy => (h.1 y hy).same (by rw [e 19 (by omega) (by omega)]) (by rw [e 20 (by omega) (by omega)]) (by rw [e 21 (by omega) (by omega)]) (e _ (by omega) (by omega)) (e _ (by omega) (by omega)) (e _ (by omega) (by omega)), by rw [e 14 (by omega) (by omega)]; exact h.2.1, GA_same h.2.2.1 (by rw [e 14 (by omega) (by omega)]) (fun q _ _ => e q (by omega) (by omega)), SU_same h.2.2.2 (fun k _ => by rw [e 14 (by omega) (by omega)])⟩
theorem ixP5 (p d : Nat) : nI p * (5 : Int32) + nI d = nI (5 * p + d) := by rw [show (5 : Int32) = nI 5 from rfl, pk_mul, nI_add, Nat.mul_comm]
theorem ix65 {k : Nat} (h : k < 30) : gIx 1 65 (nI k) = true := gIx_k rfl (by decide) h (by omega)
theorem C_ctIn {M : gMem} {t p : Nat} {v : gCt} {u : gSp} (h : CT M t v) (hp : p < v 0 4) : ∃ N, fX3_countThroughs_26h t (nI p) (gMk (v 0 6) (thO v u 0 (v 0 1) p)) (0 : Int32) M = some (.inl (nI (p + 1), N)) ∧ (∀ d, d < v 0 6 → N.1 65 (5 * p + d) = if thO v u 0 (v 0 1) p d = true then M.1 65 (5 * p + d) + 1 else M.1 65 (5 * p + d)) ∧ (∀ k, k < 5 * p ∨ 5 * p + 5 ≤ k → N.1 65 k = M.1 65 k) ∧ Fr 65 66 M N := by
  have hv0 := h.2.1.1
  have htl := gTn_lo (gTn_of h.1.2)
  have h7 : M.1 t 7 = nI (v 0 6) := h.2.2.1.1.2.2.2.2.2.2.2.1
  have key : ∃ r, fX3_countThroughs_26h t (nI p) (gMk (v 0 6) (thO v u 0 (v 0 1) p)) (0 : Int32) M = some r ∧ ∃ N, r = .inl (nI (p + 1), N) ∧ (∀ d, d < v 0 6 → N.1 65 (5 * p + d) = if thO v u 0 (v 0 1) p d = true then M.1 65 (5 * p + d) + 1 else M.1 65 (5 * p + d)) ∧ (∀ k, k < 5 * p ∨ 5 * p + 5 ≤ k → N.1 65 k = M.1 65 k) ∧ Fr 65 66 M N := by
    unfold fX3_countThroughs_26h
    refine gLp_inv (fun i (s : Int32 × gMem) => s.1 = nI i ∧ (∀ d, d < i → s.2.1 65 (5 * p + d) = if thO v u 0 (v 0 1) p d = true then M.1 65 (5 * p + d) + 1 else M.1 65 (5 * p + d)) ∧ (∀ k, k < 5 * p ∨ 5 * p + i ≤ k → s.2.1 65 k = M.1 65 k) ∧ Fr 65 66 M s.2) (v 0 6) (fun (r : Sum (Int32 × gMem) gMem) => ∃ N, r = .inl (nI (p + 1), N) ∧ (∀ d, d < v 0 6 → N.1 65 (5 * p + d) = if thO v u 0 (v 0 1) p d = true then M.1 65 (5 * p + d) + 1 else M.1 65 (5 * p + d)) ∧ (∀ k, k < 5 * p ∨ 5 * p + 5 ≤ k → N.1 65 k = M.1 65 k) ∧ Fr 65 66 M N) (by omega) (fun i s hi hI => ?_) (fun s hI => ?_) _ ⟨rfl, fun d hd => absurd hd (Nat.not_lt_zero d), fun _ _ => rfl, Fr.rf⟩
    · obtain ⟨i', N⟩ := s
      obtain ⟨g1, g2, g3, g4⟩ := hI
      have g1 : i' = nI i := g1
      subst g1
      have g2 : ∀ d, d < i → N.1 65 (5 * p + d) = if thO v u 0 (v 0 1) p d = true then M.1 65 (5 * p + d) + 1 else M.1 65 (5 * p + d) := g2
      have g3 : ∀ k, k < 5 * p ∨ 5 * p + i ≤ k → N.1 65 k = M.1 65 k := g3
      have g4 : Fr 65 66 M N := g4
      refine Or.inl ?_
      show ∃ s', fX3_countThroughs_26 t (nI p) (gMk (v 0 6) (thO v u 0 (v 0 1) p)) (nI i) N = _ ∧ _
      unfold fX3_countThroughs_26
      rw [g4.1 t (by omega), h7, if_neg (nI_ge hi (by omega)), F_has _ (by omega), gB0_some, bt_gMk (by omega), decide_eq_true hi, Bool.true_and, ite_bI, ixP5, if_pos (ix65 (by omega)), if_pos (ix65 (by omega)), nI_clamp (by omega), g3 (5 * p + i) (by omega), nI_1]
      cases hth : thO v u 0 (v 0 1) p i
      · rw [if_neg (by decide)]
        refine ⟨_, rfl, rfl, fun d hd => ?_, fun k hk => g3 k (by omega), g4⟩
        by_cases e : d = i
        · subst e; rw [hth, if_neg (by decide)]; exact g3 _ (by omega)
        · exact g2 d (by omega)
      · rw [if_pos rfl]
        refine ⟨_, rfl, rfl, fun d hd => ?_, fun k hk => (gSI_nj (by omega)).trans (g3 k (by omega)), g4.tr (Fr.si (by omega) (by omega))⟩
        by_cases e : d = i
        · subst e; rw [hth, if_pos rfl]; exact gSI_eq
        · exact (gSI_nj (by omega)).trans (g2 d (by omega))
    · obtain ⟨i', N⟩ := s
      obtain ⟨g1, g2, g3, g4⟩ := hI
      have g1 : i' = nI (v 0 6) := g1
      subst g1
      have g4 : Fr 65 66 M N := g4
      show ∃ r, fX3_countThroughs_26 t (nI p) (gMk (v 0 6) (thO v u 0 (v 0 1) p)) (nI (v 0 6)) N = _ ∧ _
      unfold fX3_countThroughs_26
      rw [g4.1 t (by omega), h7, if_pos (Int32.le_refl _), nI_1]
      exact ⟨_, rfl, N, rfl, g2, fun k hk => g3 k (by omega), g4⟩
  obtain ⟨r, r1, N, r2, r3⟩ := key
  exact ⟨N, by rw [r1, r2], r3⟩
theorem C_countThroughs {M : gMem} {t : Nat} {v : gCt} {u : gSp} (h : CT M t v) (hL : LVd M v u 1) : ∃ N, fX3_countThroughs t M = some N ∧ (∀ p d, p < v 0 4 → d < v 0 6 → N.1 65 (5 * p + d) = if thO v u 0 (v 0 1) p d = true then M.1 65 (5 * p + d) + 1 else M.1 65 (5 * p + d)) ∧ Fr 65 66 M N := by
  have hv0 := h.2.1.1
  have htl := gTn_lo (gTn_of h.1.2)
  unfold fX3_countThroughs fX3_countThroughs_0 fX3_countThroughs_2h
  refine gLp_inv (fun i (s : Int32 × gMem) => s.1 = nI i ∧ (∀ p d, p < i → d < v 0 6 → s.2.1 65 (5 * p + d) = if thO v u 0 (v 0 1) p d = true then M.1 65 (5 * p + d) + 1 else M.1 65 (5 * p + d)) ∧ (∀ k, 5 * i ≤ k → s.2.1 65 k = M.1 65 k) ∧ Fr 65 66 M s.2) (v 0 4) (fun (N : gMem) => (∀ p d, p < v 0 4 → d < v 0 6 → N.1 65 (5 * p + d) = if thO v u 0 (v 0 1) p d = true then M.1 65 (5 * p + d) + 1 else M.1 65 (5 * p + d)) ∧ Fr 65 66 M N) (by omega) (fun i s hi hI => ?_) (fun s hI => ?_) _ ⟨rfl, fun p d hp => absurd hp (Nat.not_lt_zero p), fun _ _ => rfl, Fr.rf⟩
  · obtain ⟨i', N⟩ := s
    obtain ⟨g1, g2, g3, g4⟩ := hI
    have g1 : i' = nI i := g1
    subst g1
    have g2 : ∀ p d, p < i → d < v 0 6 → N.1 65 (5 * p + d) = if thO v u 0 (v 0 1) p d = true then M.1 65 (5 * p + d) + 1 else M.1 65 (5 * p + d) := g2
    have g3 : ∀ k, 5 * i ≤ k → N.1 65 k = M.1 65 k := g3
    have g4 : Fr 65 66 M N := g4
    have hN := h.kp (g4.kp (by omega) (by omega))
    have h5 : N.1 t 5 = nI (v 0 4) := hN.2.2.1.1.2.2.2.2.2.1
    have h2 : N.1 t 2 = nI (v 0 1) := hN.2.2.1.1.2.2.1
    have hLN := LVd_same hL (by omega) (fun q _ _ => g4.1 q (by omega))
    have dO := C_doorsOf (gTn_of hN.1.2) hN.2.1 hN.2.2.1 hLN (y := 0) (by omega) (by omega) hv0.2.1 hi
    rw [nI_0] at dO
    obtain ⟨K, k1, k2, k3, k4⟩ := C_ctIn (u := u) hN hi
    refine Or.inl ?_
    show ∃ s', fX3_countThroughs_2 t (nI i) N = _ ∧ _
    unfold fX3_countThroughs_2
    rw [h5, if_neg (nI_ge hi (by omega)), h2, dO, gB0_some, k1]
    refine ⟨_, rfl, rfl, fun p d hp hd => ?_, fun k hk => (k3 k (by omega)).trans (g3 k (by omega)), g4.tr k4⟩
    by_cases e : p = i
    · subst e
      rw [k2 d hd, g3 _ (by omega)]
    · exact (k3 _ (by omega)).trans (g2 p d (by omega) hd)
  · obtain ⟨i', N⟩ := s
    obtain ⟨g1, g2, g3, g4⟩ := hI
    have g1 : i' = nI (v 0 4) := g1
    subst g1
    have g4 : Fr 65 66 M N := g4
    have hN := h.kp (g4.kp (by omega) (by omega))
    have h5 : N.1 t 5 = nI (v 0 4) := hN.2.2.1.1.2.2.2.2.2.1
    show ∃ r, fX3_countThroughs_2 t (nI (v 0 4)) N = _ ∧ _
    unfold fX3_countThroughs_2
    rw [h5, if_pos (Int32.le_refl _)]
    exact ⟨_, rfl, g2, g4⟩
/-- what is counted after c sets: the class's -/
def gAg (v : gCt) (z : gRw) (s c : Nat) : Bool := agO v (uG (fC (v 0 5) c)) (v 0 1) z s
def gTh (v : gCt) (c p d : Nat) : Bool := thO v (uG (fC (v 0 5) c)) 0 (v 0 1) p d
def gJA (v : gCt) : Int32 := gMk (v 0 5) (fun _ => true)
def GC (M : gMem) (v : gCt) (z : gRw) (s c : Nat) : Prop := M.1 64 0 = guC (gAg v z s) c ∧ M.1 64 1 = guA (gJA v) (gAg v z s) c ∧ M.1 64 2 = guY (gAg v z s) c ∧ ∀ p d, p < v 0 4 → d < v 0 6 → M.1 65 (5 * p + d) = guT (gAg v z s) (gTh v) p d c
theorem gJA_n : ∀ n, n ≤ 7 → (gMk n (fun _ => true) : Int32) = nI (2 ^ n - 1) := by decide +kernel
theorem C_csIn {M : gMem} {t s c : Nat} {v : gCt} {z : gRw} (h : CT M t v) (hr : RO M z) (hs : s < 4) (h3 : z.2.1 s % 3 = 0) (hk : ∀ k, k < z.2.1 s / 3 → sgB v (z.2.2 s) k = true) (hc : c < 2 ^ v 0 5) (hg : GC M v z s c) : ∃ N, fX3_countSets_55 t (6 + 2 * s) (gJA v) (nI c) M = some (.inl (nI (c + 1), N)) ∧ GC N v z s (c + 1) ∧ KP M N := by
  have hv0 := h.2.1.1
  have hpw := pow_le7 hv0.2.2.2.2.2.1
  have hx := fC_x _ hv0.2.2.2.2.2.1 c (by omega)
  obtain ⟨A, a1, K, k1, k2, k3, k4, k5⟩ := C_supG h hx
  have h2 : K.1 t 2 = nI (v 0 1) := k3.2.2.1.1.2.2.1
  have e1 : ¬ gJA v < nI c := by
    unfold gJA
    rw [gJA_n _ hv0.2.2.2.2.2.1]
    exact nI_nlt (by omega) (by omega)
  obtain ⟨g1, g2, g3, g4⟩ := hg
  have ag := C_agrees k3 (hr.kp k4) k2 hs hv0.2.1 h3 hk
  unfold fX3_countSets_55 fX3_countSets_79 fX3_countSets_85
  rw [if_neg e1, a1, gB0_some]
  show ∃ N, gB0 (fX2_live t 1 (gSI (gSI A 14 1 1) 14 0 (gMk (v 0 5) (fun _ => true) &&& (nI c ^^^ (-1))))) _ = _ ∧ _
  rw [k1, gB0_some, h2, ag, gB0_some, ite_bI, nI_1]
  have hA : agO v (uG (fC (v 0 5) c)) (v 0 1) z s = gAg v z s c := rfl
  rw [hA]
  cases hb : gAg v z s c
  · rw [if_neg (by decide)]
    refine ⟨K, rfl, ⟨?_, ?_, ?_, fun p d hp hd => ?_⟩, k4⟩
    · rw [k5 64 (by omega), guC, hb, if_neg (by decide)]; exact g1
    · rw [k5 64 (by omega), guA, hb, if_neg (by decide)]; exact g2
    · rw [k5 64 (by omega), guY, hb, if_neg (by decide)]; exact g3
    · rw [k5 65 (by omega), guT, hb, Bool.false_and, if_neg (by decide)]; exact g4 p d hp hd
  · rw [if_pos rfl]
    unfold fX3_countSets_113 fX3_countSets_124 fX3_countSets_136
    have f0 : Fr 64 65 K (gSI (gSI (gSI K 64 0 (K.1 64 0 + 1)) 64 1 ((gSI K 64 0 (K.1 64 0 + 1)).1 64 1 &&& nI c)) 64 2 ((gSI (gSI K 64 0 (K.1 64 0 + 1)) 64 1 ((gSI K 64 0 (K.1 64 0 + 1)).1 64 1 &&& nI c)).1 64 2 ||| nI c)) := ((Fr.si (by omega) (by omega)).tr (Fr.si (by omega) (by omega))).tr (Fr.si (by omega) (by omega))
    have hQ := k3.kp (f0.kp (by omega) (by omega))
    have hLQ := LVd_same k2 (by omega) (fun q _ _ => f0.1 q (by omega))
    obtain ⟨N, n1, n2, n3⟩ := C_countThroughs hQ hLQ
    rw [n1, gB0_some, nI_1]
    refine ⟨N, rfl, ⟨?_, ?_, ?_, fun p d hp hd => ?_⟩, (k4.tr (f0.kp (by omega) (by omega))).tr (n3.kp (by omega) (by omega))⟩
    · rw [n3.1 64 (by omega), gSI_nj (by omega), gSI_nj (by omega), gSI_eq, k5 64 (by omega), g1, guC, hb, if_pos rfl]
    · rw [n3.1 64 (by omega), gSI_nj (by omega), gSI_eq, gSI_nj (by omega), k5 64 (by omega), g2, guA, hb, if_pos rfl]
    · rw [n3.1 64 (by omega), gSI_eq, gSI_nj (by omega), gSI_nj (by omega), k5 64 (by omega), g3, guY, hb, if_pos rfl]
    · rw [n2 p d hp hd, f0.1 65 (by omega), k5 65 (by omega), g4 p d hp hd, guT, hb, Bool.true_and]
      rfl
theorem C_countSets {M : gMem} {t s : Nat} {v : gCt} {z : gRw} (h : CT M t v) (hr : RO M z) (hs : s < 4) (h3 : z.2.1 s % 3 = 0) (hk : ∀ k, k < z.2.1 s / 3 → sgB v (z.2.2 s) k = true) : ∃ N, fX3_countSets t (6 + 2 * s) M = some N ∧ GC N v z s (2 ^ v 0 5) ∧ KP M N := by
  have hv0 := h.2.1.1
  have hpw := pow_le7 hv0.2.2.2.2.2.1
  have h6 : M.1 t 6 = nI (v 0 5) := h.2.2.1.1.2.2.2.2.2.2.1
  unfold fX3_countSets fX3_countSets_0 fX3_countSets_17 fX3_countSets_22 fX3_countSets_28h
  rw [h6, F_allOf (by omega), gB0_some]
  show ∃ N, gLp (fun st : Int32 × gMem => fX3_countSets_28 t (6 + 2 * s) (gJA v) st.1 st.2) gFu ((0 : Int32), gSI (gSI (gSI M 64 0 0) 64 1 (gJA v)) 64 2 0) = _ ∧ _
  have f0 : Fr 64 66 M (gSI (gSI (gSI M 64 0 0) 64 1 (gJA v)) 64 2 0) := ((Fr.si (by omega) (by omega)).tr (Fr.si (by omega) (by omega))).tr (Fr.si (by omega) (by omega))
  refine gLp_inv (fun i (st : Int32 × gMem) => st.1 = nI i ∧ (st.2.1 64 0 = 0 ∧ st.2.1 64 1 = gJA v ∧ st.2.1 64 2 = 0) ∧ (∀ k, k < i → st.2.1 65 k = 0) ∧ Fr 64 66 M st.2) 30 (fun (N : gMem) => GC N v z s (2 ^ v 0 5) ∧ KP M N) (by omega) (fun i st hi hI => ?_) (fun st hI => ?_) _ ⟨rfl, ⟨?_, ?_, gSI_eq⟩, fun k hk => absurd hk (Nat.not_lt_zero k), f0⟩
  · obtain ⟨i', N⟩ := st
    obtain ⟨g1, g2, g3, g4⟩ := hI
    have g1 : i' = nI i := g1
    subst g1
    have g3 : ∀ k, k < i → N.1 65 k = 0 := g3
    have g4 : Fr 64 66 M N := g4
    refine Or.inl ?_
    show ∃ s', fX3_countSets_28 t (6 + 2 * s) (gJA v) (nI i) N = _ ∧ _
    unfold fX3_countSets_28
    rw [show (nI (gSh 65).2 : Int32) = nI 30 from rfl, if_neg (nI_ge hi (by omega)), if_pos (ix65 hi), nI_clamp (by omega), nI_1]
    refine ⟨_, rfl, rfl, ?_, fun k hk => ?_, g4.tr (Fr.si (by omega) (by omega))⟩
    · have e : (gSI N 65 i 0).1 64 = N.1 64 := gSI_ne (by omega)
      show (gSI N 65 i 0).1 64 0 = 0 ∧ (gSI N 65 i 0).1 64 1 = gJA v ∧ (gSI N 65 i 0).1 64 2 = 0
      rw [e]; exact g2
    · by_cases e : k = i
      · subst e; exact gSI_eq
      · exact (gSI_nj e).trans (g3 k (by omega))
  · obtain ⟨i', N⟩ := st
    obtain ⟨g1, ⟨g2, g5, g6⟩, g3, g4⟩ := hI
    have g1 : i' = nI 30 := g1
    subst g1
    have g2 : N.1 64 0 = 0 := g2
    have g5 : N.1 64 1 = gJA v := g5
    have g6 : N.1 64 2 = 0 := g6
    have g3 : ∀ k, k < 30 → N.1 65 k = 0 := g3
    have g4 : Fr 64 66 M N := g4
    have kN := g4.kp (by omega) (by omega)
    show ∃ r, fX3_countSets_28 t (6 + 2 * s) (gJA v) (nI 30) N = _ ∧ _
    unfold fX3_countSets_28
    rw [show (nI (gSh 65).2 : Int32) = nI 30 from rfl, if_pos (Int32.le_refl _)]
    have key : ∃ r, fX3_countSets_55h t (6 + 2 * s) (gJA v) (0 : Int32) N = some r ∧ (GC r v z s (2 ^ v 0 5) ∧ KP M r) := by
      unfold fX3_countSets_55h
      refine gLp_inv (fun c (st : Int32 × gMem) => st.1 = nI c ∧ GC st.2 v z s c ∧ KP M st.2) (2 ^ v 0 5) (fun (r : gMem) => GC r v z s (2 ^ v 0 5) ∧ KP M r) (by omega) (fun c st hc hI => ?_) (fun st hI => ?_) _ ⟨rfl, ⟨g2, g5, g6, fun p d hp hd => g3 _ (by omega)⟩, kN⟩
      · obtain ⟨i', P⟩ := st
        obtain ⟨p1, p2, p3⟩ := hI
        have p1 : i' = nI c := p1
        subst p1
        have p2 : GC P v z s c := p2
        have p3 : KP M P := p3
        obtain ⟨Q, q1, q2, q3⟩ := C_csIn (h.kp p3) (hr.kp p3) hs h3 hk hc p2
        refine Or.inl ⟨(nI (c + 1), Q), q1, rfl, q2, p3.tr q3⟩
      · obtain ⟨i', P⟩ := st
        obtain ⟨p1, p2, p3⟩ := hI
        have p1 : i' = nI (2 ^ v 0 5) := p1
        subst p1
        show ∃ r, fX3_countSets_55 t (6 + 2 * s) (gJA v) (nI (2 ^ v 0 5)) P = _ ∧ _
        unfold fX3_countSets_55 gJA
        have := Nat.two_pow_pos (v 0 5)
        rw [gJA_n _ hv0.2.2.2.2.2.1, if_pos (nI_lt (by omega) (by omega))]
        exact ⟨_, rfl, p2, p3⟩
    obtain ⟨r, r1, r2⟩ := key
    rw [r1, gEx_some]
    exact ⟨_, rfl, r2⟩
  · rw [gSI_nj (by omega), gSI_nj (by omega), gSI_eq]
  · rw [gSI_nj (by omega), gSI_eq]
/-! which question is best -/
def woO (n x : Int32) : Int32 := gMx x (n - x)
def bqD (n : Int32) (T : Nat → Nat → Int32) (p : Nat) (s : Int32 × Int32) : Nat → Int32 × Int32
  | 0 => s
  | d + 1 => if (bqD n T p s d).2 ≤ woO n (T p d) then bqD n T p s d else (nI (10 * p + d), woO n (T p d))
def bqP (n : Int32) (T : Nat → Nat → Int32) (nd : Nat) : Nat → Int32 × Int32
  | 0 => (-1, n)
  | p + 1 => bqD n T p (bqP n T nd p) nd
theorem q_at : ∀ p, p < 6 → ∀ d, d < 5 → (nI (10 * p + d) / 10) * 5 + (nI (10 * p + d) - nI (10 * p + d) / 10 * 10) = nI (5 * p + d) := by decide +kernel
theorem C_leftAtWorst {M : gMem} {p d : Nat} {T : Nat → Nat → Int32} (hp : p < 6) (hd : d < 5) (h : M.1 65 (5 * p + d) = T p d) : fX3_leftAtWorst (nI (10 * p + d)) M = some (woO (M.1 64 0) (T p d)) := by
  unfold fX3_leftAtWorst fX3_leftAtWorst_0 fX3_leftAtWorst_19
  rw [if_pos (nI_pos' (by omega)), q_at p hp d hd, if_neg (nI_pos (by omega)), show (nI (gSh 65).2 : Int32) = nI 30 from rfl, if_pos (nI_lt (by omega) (by omega)), if_pos (ix65 (by omega)), if_pos (ix65 (by omega)), nI_clamp (by omega), h]
  rfl
theorem C_left_no (M : gMem) : fX3_leftAtWorst (-1) M = some (M.1 64 0) := by
  unfold fX3_leftAtWorst fX3_leftAtWorst_0 fX3_leftAtWorst_19
  rw [if_neg (by decide), if_pos (by decide)]
theorem C_bestQuestion {M : gMem} {t : Nat} {v : gCt} {T : Nat → Nat → Int32} (h : CT M t v) (hT : ∀ p d, p < v 0 4 → d < v 0 6 → M.1 65 (5 * p + d) = T p d) : fX3_bestQuestion t M = some (bqP (M.1 64 0) T (v 0 6) (v 0 4)).1 ∧ fX3_leftAtWorst (bqP (M.1 64 0) T (v 0 6) (v 0 4)).1 M = some (bqP (M.1 64 0) T (v 0 6) (v 0 4)).2 := by
  have hv0 := h.2.1.1
  have h5 : M.1 t 5 = nI (v 0 4) := h.2.2.1.1.2.2.2.2.2.1
  have h7 : M.1 t 7 = nI (v 0 6) := h.2.2.1.1.2.2.2.2.2.2.2.1
  have inn : ∀ p, p < v 0 4 → ∀ s : Int32 × Int32, fX3_bestQuestion_22h t s.1 s.2 (nI p) (0 : Int32) M = some (.inl ((bqD (M.1 64 0) T p s (v 0 6)).1, (bqD (M.1 64 0) T p s (v 0 6)).2, nI (p + 1))) := by
    intro p hp s
    unfold fX3_bestQuestion_22h
    refine gLp_for (fun d => ((bqD (M.1 64 0) T p s d).1, (bqD (M.1 64 0) T p s d).2, nI d)) (v 0 6) _ (by omega) (fun d hd => ?_) ?_ _ rfl
    · show fX3_bestQuestion_22 t (bqD (M.1 64 0) T p s d).1 (bqD (M.1 64 0) T p s d).2 (nI p) (nI d) M = _
      unfold fX3_bestQuestion_22
      rw [h7, if_neg (nI_ge hd (by omega)), show (10 : Int32) * nI p + nI d = nI (10 * p + d) by rw [show (10 : Int32) = nI 10 from rfl, pk_mul, nI_add], C_leftAtWorst (by omega) (by omega) (hT p d hp hd), gB0_some, bqD, nI_1]
      by_cases c : (bqD (M.1 64 0) T p s d).2 ≤ woO (M.1 64 0) (T p d)
      · rw [if_pos c, if_pos c]
      · rw [if_neg c, if_neg c]
    · show fX3_bestQuestion_22 t _ _ (nI p) (nI (v 0 6)) M = _
      unfold fX3_bestQuestion_22
      rw [h7, if_pos (Int32.le_refl _), nI_1]
      rfl
  have lw : ∀ p, p ≤ v 0 4 → fX3_leftAtWorst (bqP (M.1 64 0) T (v 0 6) p).1 M = some (bqP (M.1 64 0) T (v 0 6) p).2 := by
    intro p
    induction p with
    | zero => intro _; exact C_left_no M
    | succ p ih =>
      intro hp
      have ih := ih (by omega)
      have kd : ∀ d, d ≤ v 0 6 → fX3_leftAtWorst (bqD (M.1 64 0) T p (bqP (M.1 64 0) T (v 0 6) p) d).1 M = some (bqD (M.1 64 0) T p (bqP (M.1 64 0) T (v 0 6) p) d).2 := by
        intro d
        induction d with
        | zero => intro _; exact ih
        | succ d ihd =>
          intro hd
          rw [bqD]
          by_cases c : (bqD (M.1 64 0) T p (bqP (M.1 64 0) T (v 0 6) p) d).2 ≤ woO (M.1 64 0) (T p d)
          · rw [if_pos c]; exact ihd (by omega)
          · rw [if_neg c]; exact C_leftAtWorst (by omega) (by omega) (hT p d (by omega) (by omega))
      exact kd _ (Nat.le_refl _)
  refine ⟨?_, lw _ (Nat.le_refl _)⟩
  unfold fX3_bestQuestion fX3_bestQuestion_0 fX3_bestQuestion_10h
  refine gLp_for (fun p => ((bqP (M.1 64 0) T (v 0 6) p).1, (bqP (M.1 64 0) T (v 0 6) p).2, nI p)) (v 0 4) _ (by omega) (fun p hp => ?_) ?_ _ rfl
  · show fX3_bestQuestion_10 t (bqP (M.1 64 0) T (v 0 6) p).1 (bqP (M.1 64 0) T (v 0 6) p).2 (nI p) M = _
    unfold fX3_bestQuestion_10
    rw [h5, if_neg (nI_ge hp (by omega)), inn p hp]
    rfl
  · show fX3_bestQuestion_10 t _ _ (nI (v 0 4)) M = _
    unfold fX3_bestQuestion_10
    rw [h5, if_pos (Int32.le_refl _)]
    rfl
