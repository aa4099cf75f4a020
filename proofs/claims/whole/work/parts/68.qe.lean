/-! the same by the reference -/
theorem Fr.kpm {lo hi : Nat} {M N : gMem} (h : Fr lo hi M N) (h1 : 155 ≤ lo) (h2 : hi ≤ 162) : KP M N :=
  ⟨fun q hq => h.1 q (by have := scr_no hq; omega), fun j _ => by rw [h.1 141 (by omega)], fun q _ _ => by rw [h.2], by rw [h.2]⟩
def MT (M N : gMem) (t : Nat) (v : gCt) (d n : Nat) : Prop := (∀ k, k ≤ n → N.1 159 k = oF (tbP (fun s => thD v s d) n k).1 ∧ N.1 160 k = (tbP (fun s => thD v s d) n k).2) ∧ CT N t v ∧ KP M N ∧ N.1 141 24 = nI (v 0 1)
theorem M_143s {N : gMem} (x1 x3 : Int32) {s i r : Nat} {c f : Option Nat × Int32} {k : Nat} (hs : s < 64) (hr : r < 64) (hn : r ≠ s) (hx : nI s &&& (nI i ^^^ (-1)) = nI r) (f2 : N.1 160 r = f.2) (y : Int32) : ∃ K, fX9_laysSets_143 x1 (nI s) x3 (nI i) (nI k) y (nI s) N = some (.inl (nI (i + 1), K)) ∧ K.1 159 s = nI k ∧ K.1 160 s = y + f.2 ∧ (∀ j, j ≠ s → K.1 159 j = N.1 159 j ∧ K.1 160 j = N.1 160 j) ∧ Fr 159 161 N K := by
  unfold fX9_laysSets_143 fX9_laysSets_163
  rw [hx, if_pos (ix160 hr), if_pos (ix160 hs), if_pos (ix159 hs), nI_clamp (by omega), nI_clamp (by omega), nI_1, f2]
  exact ⟨_, rfl, gSI_eq, (gSI_o (by omega)).trans gSI_eq, fun j hj => ⟨(gSI_nj hj).trans (gSI_o (by omega)), (gSI_o (by omega)).trans (gSI_nj hj)⟩, (Fr.si (by omega) (by omega)).tr (Fr.si (by omega) (by omega))⟩
theorem M_part_in {M N : gMem} {t d n : Nat} {v : gCt} (h : MT M N t v d n) (hd : d < v 0 6) (hn : n + 1 < 64) : ∃ K, fX9_laysSets_44 (nI d) (nI (n + 1)) (0 : Int32) (nI (n + 1)) (gSI N 159 (n + 1) 100000) = some (.inl (nI (n + 2), K)) ∧ MT M K t v d (n + 1) := by
  obtain ⟨h1, h2, h3, h4⟩ := h
  have hv := h2.2.1
  have key : ∃ r, fX9_laysSets_44 (nI d) (nI (n + 1)) (0 : Int32) (nI (n + 1)) (gSI N 159 (n + 1) 100000) = some r ∧ ∃ K, r = .inl (nI (n + 2), K) ∧ MT M K t v d (n + 1) := by
    unfold fX9_laysSets_44 fX9_laysSets_53h
    rw [if_pos (ix160 hn), nI_clamp (by omega)]
    have f0 : Fr 159 161 N (gSI (gSI N 159 (n + 1) 100000) 160 (n + 1) 0) := (Fr.si (by omega) (by omega)).tr (Fr.si (by omega) (by omega))
    refine gLp_inv (fun i (s : Int32 × gMem) => s.1 = nI (i + 1) ∧ (∀ k, k ≤ n → s.2.1 159 k = oF (tbP (fun s => thD v s d) n k).1 ∧ s.2.1 160 k = (tbP (fun s => thD v s d) n k).2) ∧ s.2.1 159 (n + 1) = oF (inS (fun s => thD v s d) (tbP (fun s => thD v s d) n) (n + 1) i).1 ∧ s.2.1 160 (n + 1) = (inS (fun s => thD v s d) (tbP (fun s => thD v s d) n) (n + 1) i).2 ∧ Fr 159 161 N s.2) (n + 1) (fun (r : Sum (Int32 × gMem) gMem) => ∃ K, r = .inl (nI (n + 2), K) ∧ MT M K t v d (n + 1)) (by omega) (fun i s hi hI => ?_) (fun s hI => ?_) _ ⟨rfl, fun k hk => ?_, ?_, gSI_eq, f0⟩
    · obtain ⟨i', N1⟩ := s
      obtain ⟨g1, g2, g3, g4, g5⟩ := hI
      have g1 : i' = nI (i + 1) := g1
      subst g1
      have g2 : ∀ k, k ≤ n → N1.1 159 k = oF (tbP (fun s => thD v s d) n k).1 ∧ N1.1 160 k = (tbP (fun s => thD v s d) n k).2 := g2
      have g3 : N1.1 159 (n + 1) = oF (inS (fun s => thD v s d) (tbP (fun s => thD v s d) n) (n + 1) i).1 := g3
      have g4 : N1.1 160 (n + 1) = (inS (fun s => thD v s d) (tbP (fun s => thD v s d) n) (n + 1) i).2 := g4
      have g5 : Fr 159 161 N N1 := g5
      have hC := h2.kp (g5.kpm (by omega) (by omega))
      have h24 : N1.1 141 24 = nI (v 0 1) := by rw [g5.1 141 (by omega)]; exact h4
      refine Or.inl ?_
      show ∃ s', fX9_laysSets_53 (nI d) (nI (n + 1)) (nI (n + 1) &&& (-(nI (n + 1)))) (nI (i + 1)) N1 = _ ∧ _
      have stay : inS (fun s => thD v s d) (tbP (fun s => thD v s d) n) (n + 1) (i + 1) = inS (fun s => thD v s d) (tbP (fun s => thD v s d) n) (n + 1) i → ∃ s', (some (Sum.inl (nI (i + 1) + 1, N1)) : Option (Sum (Int32 × gMem) (Sum (Int32 × gMem) gMem))) = some (Sum.inl s') ∧ (s'.1 = nI (i + 1 + 1) ∧ (∀ k, k ≤ n → s'.2.1 159 k = oF (tbP (fun s => thD v s d) n k).1 ∧ s'.2.1 160 k = (tbP (fun s => thD v s d) n k).2) ∧ s'.2.1 159 (n + 1) = oF (inS (fun s => thD v s d) (tbP (fun s => thD v s d) n) (n + 1) (i + 1)).1 ∧ s'.2.1 160 (n + 1) = (inS (fun s => thD v s d) (tbP (fun s => thD v s d) n) (n + 1) (i + 1)).2 ∧ Fr 159 161 N s'.2) := by
        intro hc
        rw [hc, nI_1]
        exact ⟨_, rfl, rfl, g2, g3, g4, g5⟩
      have skip : (lkP (n + 1) (i + 1) && thD v (i + 1) d) = false → _ := fun hc => stay (by rw [inS_s, if_neg (by rw [hc]; simp)])
      unfold fX9_laysSets_53
      rw [if_neg (nI_nlt (by omega) (by omega))]
      by_cases b : nI (i + 1) &&& (nI (n + 1) ^^^ (-1)) = 0
      · rw [if_pos b]
        obtain ⟨b1', b2'⟩ := lk_sub (n + 1) hn (i + 1) (by omega) b
        by_cases a : nI (i + 1) &&& (nI (n + 1) &&& (-(nI (n + 1)))) = 0
        · rw [if_pos a]
          exact skip (by unfold lkP; rw [decide_eq_true a]; rfl)
        · have hlk : lkP (n + 1) (i + 1) = true := by unfold lkP; rw [decide_eq_false a, decide_eq_true b]; rfl
          rw [if_neg a, M_isThrough hv hC.2.2.2.1 h24 (by omega) hd, gB0_some, ite_bI]
          cases hth : thD v (i + 1) d
          · exact skip (by rw [hth, Bool.and_false])
          · simp only [if_true]
            rw [b1']
            obtain ⟨p1, p2⟩ := g2 (n + 1 - (i + 1)) (by omega)
            have hr : n + 1 - (i + 1) < 64 := by omega
            rw [if_pos (ix159 hr), if_pos (ix159 hn), nI_clamp (by omega), nI_clamp (by omega), p1, g3]
            have hstep : inS (fun s => thD v s d) (tbP (fun s => thD v s d) n) (n + 1) (i + 1) = stP (inS (fun s => thD v s d) (tbP (fun s => thD v s d) n) (n + 1) i) (tbP (fun s => thD v s d) n (n + 1 - (i + 1))) := by rw [inS_s, if_pos (by rw [hlk, hth]; rfl)]
            have bf : ∀ k, (tbP (fun s => thD v s d) n (n + 1 - (i + 1))).1 = some k → k < 64 := fun k hk => by have := tbP_le _ _ _ _ hk; omega
            have bc : ∀ k, (inS (fun s => thD v s d) (tbP (fun s => thD v s d) n) (n + 1) i).1 = some k → k < 65 := fun k hk => by have := inS_le (tbP_le _ n) i (by omega) k hk; omega
            revert g3 g4 p1 p2 bf bc hstep
            generalize hcq : inS (fun s => thD v s d) (tbP (fun s => thD v s d) n) (n + 1) i = c
            generalize hfq : tbP (fun s => thD v s d) n (n + 1 - (i + 1)) = f
            intro g3 g4 p1 p2 hstep bf bc
            have done : ∀ (k : Nat) (y : Int32), stP c f = (some k, y + f.2) → ∃ s', fX9_laysSets_143 (nI d) (nI (n + 1)) (nI (n + 1) &&& (-(nI (n + 1)))) (nI (i + 1)) (nI k) y (nI (n + 1)) N1 = some (Sum.inl s') ∧ (s'.1 = nI (i + 1 + 1) ∧ (∀ k, k ≤ n → s'.2.1 159 k = oF (tbP (fun s => thD v s d) n k).1 ∧ s'.2.1 160 k = (tbP (fun s => thD v s d) n k).2) ∧ s'.2.1 159 (n + 1) = oF (inS (fun s => thD v s d) (tbP (fun s => thD v s d) n) (n + 1) (i + 1)).1 ∧ s'.2.1 160 (n + 1) = (inS (fun s => thD v s d) (tbP (fun s => thD v s d) n) (n + 1) (i + 1)).2 ∧ Fr 159 161 N s'.2) := by
              intro k y hst
              obtain ⟨K, k1, k2, k3, k4, k5⟩ := M_143s (nI d) (nI (n + 1) &&& (-(nI (n + 1)))) (s := n + 1) (i := i + 1) (r := n + 1 - (i + 1)) (c := c) (f := f) (k := k) hn hr (by omega) b1' p2 y
              rw [k1, hstep, hst]
              exact ⟨_, rfl, rfl, fun j hj => by rw [(k4 j (by omega)).1, (k4 j (by omega)).2]; exact g2 j hj, k2, k3, g5.tr k5⟩
            have stay2 : stP c f = c → _ := fun hc => stay (by rw [hstep, hc, hcq])
            have one : (1 : Int32) = nI 1 := rfl
            cases hf : f.1 with
            | none =>
              have e2 : ¬ (1 : Int32) + oF none ≤ oF c.1 := by
                cases hc : c.1 with
                | none => decide
                | some m =>
                  have := bc m hc
                  exact nI_ge (b := 100001) (show m < 100001 by omega) (by omega)
              rw [if_neg e2]
              exact stay2 (by unfold stP; rw [hf])
            | some k =>
              have hk := bf k hf
              rw [show (1 : Int32) + oF (some k) = nI (k + 1) from by show (1 : Int32) + nI k = _; rw [one, nI_add, Nat.add_comm]]
              cases hc : c.1 with
              | none =>
                have e1 : nI (k + 1) ≤ oF none := nI_le (b := 100000) (by omega) (by omega)
                have e2 : ¬ oF none ≤ nI (k + 1) := nI_ge (b := 100000) (by omega) (by omega)
                rw [if_pos e1, if_pos (ix159 hn), if_neg e2]
                exact done (k + 1) 0 (by unfold stP; rw [hf, hc])
              | some m =>
                have hm := bc m hc
                show ∃ s', (if nI (k + 1) ≤ nI m then (if gIx 1 159 (nI (n + 1)) = true then (if nI m ≤ nI (k + 1) then _ else _) else _) else _) = _ ∧ _
                by_cases g : k + 1 < m
                · rw [if_pos (nI_le (by omega) (by omega)), if_pos (ix159 hn), if_neg (nI_ge g (by omega))]
                  exact done (k + 1) 0 (by unfold stP; rw [hf, hc]; exact if_pos g)
                · by_cases e : k + 1 = m
                  · rw [if_pos (nI_le (by omega) (by omega)), if_pos (ix159 hn), if_pos (nI_le (by omega) (by omega)), if_pos (ix160 hn), g4]
                    exact done (k + 1) c.2 (by unfold stP; rw [hf, hc]; show (if k + 1 < m then _ else if k + 1 = m then (some m, c.2 + f.2) else c) = _; rw [if_neg g, if_pos e, e])
                  · rw [if_neg (nI_ge (by omega) (by omega))]
                    exact stay2 (by unfold stP; rw [hf, hc]; show (if k + 1 < m then _ else if k + 1 = m then (some m, c.2 + f.2) else c) = _; rw [if_neg g, if_neg e])
      · rw [if_neg b]
        exact skip (by unfold lkP; rw [decide_eq_false b, Bool.and_false]; rfl)
    · obtain ⟨i', N1⟩ := s
      obtain ⟨g1, g2, g3, g4, g5⟩ := hI
      have g1 : i' = nI (n + 1 + 1) := g1
      subst g1
      have g2 : ∀ k, k ≤ n → N1.1 159 k = oF (tbP (fun s => thD v s d) n k).1 ∧ N1.1 160 k = (tbP (fun s => thD v s d) n k).2 := g2
      have g3 : N1.1 159 (n + 1) = oF (inS (fun s => thD v s d) (tbP (fun s => thD v s d) n) (n + 1) (n + 1)).1 := g3
      have g4 : N1.1 160 (n + 1) = (inS (fun s => thD v s d) (tbP (fun s => thD v s d) n) (n + 1) (n + 1)).2 := g4
      have g5 : Fr 159 161 N N1 := g5
      have kk := g5.kpm (by omega) (by omega)
      show ∃ r, fX9_laysSets_53 (nI d) (nI (n + 1)) (nI (n + 1) &&& (-(nI (n + 1)))) (nI (n + 1 + 1)) N1 = _ ∧ _
      unfold fX9_laysSets_53
      rw [if_pos (nI_lt (by omega) (by omega)), nI_1]
      refine ⟨_, rfl, N1, rfl, fun k hk => ?_, h2.kp kk, h3.tr kk, by rw [g5.1 141 (by omega)]; exact h4⟩
      by_cases c : k = n + 1
      · subst c
        show _ = oF (if n + 1 = n + 1 then _ else tbP (fun s => thD v s d) n (n + 1)).1 ∧ _ = (if n + 1 = n + 1 then _ else tbP (fun s => thD v s d) n (n + 1)).2
        rw [if_pos rfl]
        exact ⟨g3, g4⟩
      · show _ = oF (if k = n + 1 then _ else tbP (fun s => thD v s d) n k).1 ∧ _ = (if k = n + 1 then _ else tbP (fun s => thD v s d) n k).2
        rw [if_neg c]
        exact g2 k (by omega)
    · show (gSI (gSI N 159 (n + 1) 100000) 160 (n + 1) 0).1 159 k = _ ∧ (gSI (gSI N 159 (n + 1) 100000) 160 (n + 1) 0).1 160 k = _
      rw [gSI_o (show (159 : Nat) ≠ 160 by omega), gSI_nj (show k ≠ n + 1 by omega), gSI_nj (show k ≠ n + 1 by omega), gSI_o (show (160 : Nat) ≠ 159 by omega)]
      exact h1 k hk
    · show (gSI (gSI N 159 (n + 1) 100000) 160 (n + 1) 0).1 159 (n + 1) = _
      rw [gSI_o (show (159 : Nat) ≠ 160 by omega), gSI_eq]; rfl
  obtain ⟨r, r1, K, r2, r3⟩ := key
  exact ⟨K, by rw [r1, r2], r3⟩
theorem M_laysSets {M : gMem} {t d : Nat} {v : gCt} (h : CT M t v) (hd : d < v 0 6) : ∃ N, fX9_laysSets (nI d) M = some N ∧ MT M N t v d (2 ^ v 0 4 - 1) := by
  have hv0 := h.2.1.1
  have hpw := pow_le hv0.2.2.2.2.1
  have hp1 : 1 ≤ 2 ^ v 0 4 := Nat.one_le_two_pow
  obtain ⟨A, a1, a2, a3, a4, a5, a6⟩ := F_lays h
  unfold fX9_laysSets fX9_laysSets_0 fX9_laysSets_17 fX9_laysSets_20h
  rw [a1, gB0_some, show gIx 1 159 (0 : Int32) = true from ix159 (k := 0) (by omega), if_pos rfl, show gIx 1 160 (0 : Int32) = true from ix160 (k := 0) (by omega), if_pos rfl, show Int32.toNatClampNeg (0 : Int32) = 0 from rfl]
  have k0 : Fr 159 161 A (gSI (gSI A 159 0 0) 160 0 1) := (Fr.si (by omega) (by omega)).tr (Fr.si (by omega) (by omega))
  have kk := k0.kpm (by omega) (by omega)
  refine gLp_inv (fun i (s : Int32 × gMem) => s.1 = nI (i + 1) ∧ MT M s.2 t v d i) (2 ^ v 0 4 - 1) (fun (N : gMem) => MT M N t v d (2 ^ v 0 4 - 1)) (by omega) (fun i s hi hI => ?_) (fun s hI => ?_) _ ⟨rfl, fun k hk => ?_, a4.kp kk, a5.tr kk, (gSI_o (by omega)).trans ((gSI_o (by omega)).trans a3)⟩
  · obtain ⟨i', N⟩ := s
    obtain ⟨g1, hI⟩ := hI
    have g1 : i' = nI (i + 1) := g1
    subst g1
    have hI : MT M N t v d i := hI
    obtain ⟨K, k1, k2⟩ := M_part_in hI hd (show i + 1 < 64 by omega)
    refine Or.inl ?_
    show ∃ s', fX9_laysSets_20 (nI d) (nI (i + 1)) N = _ ∧ _
    unfold fX9_laysSets_20
    rw [F_people hI.2.1.2.2.2.1, gB0_some, sh_pow _ (by omega), if_neg (nI_ge (by omega) (by omega)), if_pos (ix159 (by omega)), nI_clamp (by omega), k1]
    exact ⟨_, rfl, rfl, k2⟩
  · obtain ⟨i', N⟩ := s
    obtain ⟨g1, hI⟩ := hI
    have g1 : i' = nI (2 ^ v 0 4 - 1 + 1) := g1
    subst g1
    have hI : MT M N t v d (2 ^ v 0 4 - 1) := hI
    show ∃ r, fX9_laysSets_20 (nI d) (nI (2 ^ v 0 4 - 1 + 1)) N = _ ∧ _
    unfold fX9_laysSets_20
    rw [F_people hI.2.1.2.2.2.1, gB0_some, sh_pow _ (by omega), if_pos (nI_le (by omega) (by omega))]
    exact ⟨_, rfl, hI⟩
  · have : k = 0 := by omega
    subst this
    exact ⟨(gSI_o (by omega)).trans gSI_eq, gSI_eq⟩
theorem sh_all : ∀ n, n ≤ 6 → (1 : Int32) <<< (nI n &&& 31) - 1 = nI (2 ^ n - 1) := by decide +kernel
theorem Q_sets {t : Nat} {v : gCt} (d : Int32) : SQ t v (fX8_sets d) (fX9_sets d) := by
  refine SQ_g (b := inR d (v 0 6)) (e := -2) (F := fun M => gB0 (fX1_part t d M) (fun M5 => if gOb 7 (M5.2.2 0) = true then gB0 (fX8_allOf (M5.1 (M5.2.2 0) 5) M5) (fun r8 => if gIx 1 62 r8 = true then some ((M5.1 62 (Int32.toNatClampNeg r8)), M5) else none) else none)) (G := fun M => gB0 (fX9_laysSets d M) (fun M3 => gB0 (fX9_people M3) (fun r5 => if gIx 1 159 (((1 : Int32) <<< (r5 &&& 31)) - (1 : Int32)) = true then if (M3.1 159 (Int32.toNatClampNeg (((1 : Int32) <<< (r5 &&& 31)) - (1 : Int32)))) < (100000 : Int32) then some ((M3.1 159 (Int32.toNatClampNeg (((1 : Int32) <<< (r5 &&& 31)) - (1 : Int32)))), M3) else some ((-1 : Int32), M3) else none))) (fun M hM => ?_) (fun M hM => ?_) (fun hb => ?_)
  · unfold fX8_sets fX8_sets_0
    rw [if_pos (gob_T hM), hM.1.1, F_hasDoor hM.2.1 hM.2.2.1, gB0_some, ite_bI, if_pos hM.1.2]
  · have hN := hM.kp (kp0 M)
    unfold fX9_sets fX9_sets_0 fX9_sets_8
    rw [M_isDoor hN.2.1 hN.2.2.2.1, gB0_some, ite_bI, inL_inR]
  · obtain ⟨k, hk, rfl⟩ := inR_k hb
    refine ⟨oV (tbP (fun s => thD v s k) (2 ^ v 0 4 - 1) (2 ^ v 0 4 - 1)).1, fun M hM => ?_, fun M hM => ?_⟩
    · have hpw := pow_le hM.2.1.1.2.2.2.2.1
      have hp1 : 1 ≤ 2 ^ v 0 4 := Nat.one_le_two_pow
      obtain ⟨N, n1, n2, n3, n4⟩ := C_part hM hk
      refine ⟨N, ?_, n4⟩
      show gB0 (fX1_part t (nI k) M) _ = _
      rw [n1, gB0_some, if_pos (gob_T n3), tn_np n3]
      unfold fX8_allOf fX8_allOf_0
      rw [sh_all _ n3.2.1.1.2.2.2.2.1, gB0_some, if_pos (ix62 (by omega)), nI_clamp (by omega), (n2 _ (Nat.le_refl _)).1]
    · have hpw := pow_le hM.2.1.1.2.2.2.2.1
      have hp1 : 1 ≤ 2 ^ v 0 4 := Nat.one_le_two_pow
      obtain ⟨N, n1, n2, n3, n4, n5⟩ := M_laysSets hM hk
      refine ⟨N, ?_, n4⟩
      show gB0 (fX9_laysSets (nI k) M) _ = _
      rw [n1, gB0_some, F_people n3.2.2.2.1, gB0_some, sh_all _ n3.2.1.1.2.2.2.2.1, if_pos (ix159 (by omega)), nI_clamp (by omega), (n2 _ (Nat.le_refl _)).1]
      cases hc : (tbP (fun s => thD v s k) (2 ^ v 0 4 - 1) (2 ^ v 0 4 - 1)).1 with
      | none => rfl
      | some m =>
        have := tbP_le _ _ _ _ hc
        have e : oF (some m) < 100000 := nI_lt (b := 100000) (show m < 100000 by omega) (by omega)
        rw [if_pos e]; rfl
theorem Q_ways {t : Nat} {v : gCt} (d : Int32) : SQ t v (fX8_ways d) (fX9_ways d) := by
  refine SQ_g (b := inR d (v 0 6)) (e := -2) (F := fun M => gB0 (fX1_part t d M) (fun M5 => if gOb 7 (M5.2.2 0) = true then gB0 (fX8_allOf (M5.1 (M5.2.2 0) 5) M5) (fun r8 => if gIx 1 62 r8 = true then if (M5.1 62 (Int32.toNatClampNeg r8)) = (-1 : Int32) then some ((-1 : Int32), M5) else if gIx 1 63 r8 = true then some ((M5.1 63 (Int32.toNatClampNeg r8)), M5) else none else none) else none)) (G := fun M => gB0 (fX9_laysSets d M) (fun M3 => gB0 (fX9_people M3) (fun r5 => if gIx 1 159 (((1 : Int32) <<< (r5 &&& 31)) - (1 : Int32)) = true then if (M3.1 159 (Int32.toNatClampNeg (((1 : Int32) <<< (r5 &&& 31)) - (1 : Int32)))) < (100000 : Int32) then if gIx 1 160 (((1 : Int32) <<< (r5 &&& 31)) - (1 : Int32)) = true then some ((M3.1 160 (Int32.toNatClampNeg (((1 : Int32) <<< (r5 &&& 31)) - (1 : Int32)))), M3) else none else some ((-1 : Int32), M3) else none))) (fun M hM => ?_) (fun M hM => ?_) (fun hb => ?_)
  · unfold fX8_ways fX8_ways_0
    rw [if_pos (gob_T hM), hM.1.1, F_hasDoor hM.2.1 hM.2.2.1, gB0_some, ite_bI, if_pos hM.1.2]
  · have hN := hM.kp (kp0 M)
    unfold fX9_ways fX9_ways_0 fX9_ways_8
    rw [M_isDoor hN.2.1 hN.2.2.2.1, gB0_some, ite_bI, inL_inR]
  · obtain ⟨k, hk, rfl⟩ := inR_k hb
    refine ⟨match (tbP (fun s => thD v s k) (2 ^ v 0 4 - 1) (2 ^ v 0 4 - 1)).1 with
      | none => -1
      | some _ => (tbP (fun s => thD v s k) (2 ^ v 0 4 - 1) (2 ^ v 0 4 - 1)).2, fun M hM => ?_, fun M hM => ?_⟩
    · have hpw := pow_le hM.2.1.1.2.2.2.2.1
      have hp1 : 1 ≤ 2 ^ v 0 4 := Nat.one_le_two_pow
      obtain ⟨N, n1, n2, n3, n4⟩ := C_part hM hk
      refine ⟨N, ?_, n4⟩
      show gB0 (fX1_part t (nI k) M) _ = _
      rw [n1, gB0_some, if_pos (gob_T n3), tn_np n3]
      unfold fX8_allOf fX8_allOf_0
      rw [sh_all _ n3.2.1.1.2.2.2.2.1, gB0_some, if_pos (ix62 (by omega)), if_pos (ix63 (by omega)), nI_clamp (by omega), (n2 _ (Nat.le_refl _)).1, (n2 _ (Nat.le_refl _)).2]
      cases hc : (tbP (fun s => thD v s k) (2 ^ v 0 4 - 1) (2 ^ v 0 4 - 1)).1 with
      | none => rfl
      | some m =>
        have := tbP_le _ _ _ _ hc
        rw [if_neg (show ¬ oV (some m) = -1 from nI_m1 m (by omega))]
    · have hpw := pow_le hM.2.1.1.2.2.2.2.1
      have hp1 : 1 ≤ 2 ^ v 0 4 := Nat.one_le_two_pow
      obtain ⟨N, n1, n2, n3, n4, n5⟩ := M_laysSets hM hk
      refine ⟨N, ?_, n4⟩
      show gB0 (fX9_laysSets (nI k) M) _ = _
      rw [n1, gB0_some, F_people n3.2.2.2.1, gB0_some, sh_all _ n3.2.1.1.2.2.2.2.1, if_pos (ix159 (by omega)), if_pos (ix160 (by omega)), nI_clamp (by omega), (n2 _ (Nat.le_refl _)).1, (n2 _ (Nat.le_refl _)).2]
      cases hc : (tbP (fun s => thD v s k) (2 ^ v 0 4 - 1) (2 ^ v 0 4 - 1)).1 with
      | none => rfl
      | some m =>
        have := tbP_le _ _ _ _ hc
        have e : oF (some m) < 100000 := nI_lt (b := 100000) (show m < 100000 by omega) (by omega)
        rw [if_pos e]
