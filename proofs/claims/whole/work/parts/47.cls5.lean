/-! The class: live. -/
theorem tiO_ext {l : List gJo} {n y : Nat} {aw aw2 : Nat → Bool} (hk : ∀ x ∈ l, okJ n x) (h : ∀ p, p < n → aw p = aw2 p) (p q : Nat) : tiO l y aw p q = tiO l y aw2 p q := by
  unfold tiO
  induction l with
  | nil => rfl
  | cons x l ih =>
    obtain ⟨k1, k2, -, -, -⟩ := hk x List.mem_cons_self
    rw [List.any_cons, List.any_cons, ih (fun z hz => hk z (List.mem_cons_of_mem _ hz)), h _ k1, h _ k2]
/-- what the decade's rows hold of year y -/
def YRo (M : gMem) (v : gCt) (u : gSp) (y : Nat) : Prop :=
  M.1 19 y = gMk (v 0 5) (heO v u y (goY v u y)) ∧ M.1 20 y = gMk 6 (goY v u y) ∧ M.1 21 y = gMk 6 (skY v u y) ∧ (∀ p, p < v 0 4 → M.1 (23 + y) p = woY v u y p) ∧
  (∀ p, p < 6 → M.1 (36 + y) p = gMk 6 (tiY v u y p)) ∧ (∀ q, q < 6 → M.1 (49 + y) q = fiR (v 0 4) (tiY v u y) (goY v u y) q)
theorem YRo.same {M N : gMem} {v : gCt} {u : gSp} {y : Nat} (h : YRo M v u y) (h1 : N.1 19 y = M.1 19 y) (h2 : N.1 20 y = M.1 20 y) (h3 : N.1 21 y = M.1 21 y) (h4 : N.1 (23 + y) = M.1 (23 + y)) (h5 : N.1 (36 + y) = M.1 (36 + y)) (h6 : N.1 (49 + y) = M.1 (49 + y)) : YRo N v u y := by
  unfold YRo
  rw [h1, h2, h3, h4, h5, h6]
  exact h
/-- the decade is lived through n years -/
def LVd (M : gMem) (v : gCt) (u : gSp) (n : Nat) : Prop := (∀ y, y < n → YRo M v u y) ∧ M.1 14 16 = gMk 6 (ev0 v u n) ∧ GA M (gl v u) ∧ SU M u
theorem go0_s (v : gCt) (u : gSp) (y : Nat) : go0 v u (y + 1) = goY v u y := rfl
theorem F_live {M : gMem} {t n : Nat} {v : gCt} {u : gSp} (ht : gTn t) (hv : gWF v) (hr : RT M t v) (hs : SU M u) (hn : n ≤ 12) : ∃ N, fX2_live t (nI n) M = some N ∧ LVd N v u n ∧ Fr 14 61 M N := by
  have hv0 := hv.1
  have htl := gTn_lo ht
  obtain ⟨M1, e1, g1, s1, f1⟩ := F_gatherJoins ht hv hr hs
  have hokn := gl_ok hv u
  have hll := gl_len hv u
  unfold fX2_live fX2_live_0 fX2_live_15h
  rw [e1, gB0_some]
  refine gLp_inv (fun y (s : Int32 × Int32 × gMem) => (s.1 = gMk 6 (go0 v u y) ∧ s.2.1 = nI y) ∧ LVd s.2.2 v u y ∧ Fr 14 61 M s.2.2) n (fun N => LVd N v u n ∧ Fr 14 61 M N) (by omega) (fun y s hy hI => ?_) (fun s hI => ?_) _ ⟨⟨gMk_0 (by omega), rfl⟩, ⟨fun y hy => absurd hy (Nat.not_lt_zero y), ?_, GA_same g1 (gSI_nj (by omega)) (fun q _ _ => gSI_ne (by omega)), SU_same s1 (fun k hk => gSI_nj (by omega))⟩, (f1.wd (by omega) (by omega)).tr (Fr.si (by omega) (by omega))⟩
  · obtain ⟨gn, y', N⟩ := s
    obtain ⟨⟨h1, h2⟩, hI⟩ := hI
    have h1 : gn = gMk 6 (go0 v u y) := h1
    have h2 : y' = nI y := h2
    subst h1
    subst h2
    obtain ⟨⟨hY, hE, hG, hS⟩, hF⟩ := hI
    have hY : ∀ z, z < y → YRo N v u z := hY
    have hE : N.1 14 16 = gMk 6 (ev0 v u y) := hE
    have hG : GA N (gl v u) := hG
    have hS : SU N u := hS
    have hF : Fr 14 61 M N := hF
    have hrN : RT N t v := hF.RT (by omega) hr
    have hy12 : y < 12 := by omega
    refine Or.inl ?_
    show ∃ s', fX2_live_15 t (nI n) (gMk 6 (go0 v u y)) (nI y) N = _ ∧ _
    unfold fX2_live_15
    rw [if_neg (nI_ge hy (by omega)), show (12 : Int32) = nI 12 from rfl, if_neg (nI_ge hy12 (by omega))]
    -- worth
    obtain ⟨A, a1, a2, a3, a4⟩ := F_tellWorths (u := u) ht hv hrN hy12 (fun z hz => by
      have := hY z (by omega)
      exact ⟨this.2.1, this.2.2.1, this.2.2.2.1⟩)
    rw [a1, gB0_some]
    have hrA : RT A t v := RT_same hrN (fun j _ => a3 (t + j) (by omega))
    have hgA : GA A (gl v u) := GA_same hG (by rw [a3 14 (by omega)]) (fun q _ _ => a3 q (by omega))
    -- ties at the year's beginning
    obtain ⟨B, b1, b2, b3, b4, b5⟩ := F_joinUp (M := A) (t := t) (y := y) (n := v 0 4) (l := gl v u) (aw := go0 v u y) (by omega) hy12 (by omega) hrA.1.2.2.2.2.2.1 hll hokn hgA
    rw [b1, gB0_some]
    have hf := F_failingIn (M := B) (t := t) (y := y) (n := v 0 4) (l := gl v u) (aw := go0 v u y) (W := woY v u y) hy12 (by omega) (by rw [b4 t (by omega) (by omega)]; exact hrA.1.2.2.2.2.2.1) hokn b3 (fun p hp => by rw [b4 (23 + y) (by omega) (by omega)]; exact a2 p hp)
    rw [hf, gB0_some]
    -- behind it, whoever fails
    have rest : ∃ C, (if gMk 6 (fun p => decide (p < v 0 4) && (!go0 v u y p && decide (smI 6 (fmO (tiO (gl v u) y (go0 v u y)) p) (woY v u y) < 0))) = 0 then fX2_live_70 t (nI n) (gMk 6 (go0 v u y)) (nI y) B else gB0 (fX2_joinUp t (nI y) (gMk 6 (go0 v u y) ||| gMk 6 (fun p => decide (p < v 0 4) && (!go0 v u y p && decide (smI 6 (fmO (tiO (gl v u) y (go0 v u y)) p) (woY v u y) < 0)))) B) (fun M7 => fX2_live_70 t (nI n) (gMk 6 (go0 v u y) ||| gMk 6 (fun p => decide (p < v 0 4) && (!go0 v u y p && decide (smI 6 (fmO (tiO (gl v u) y (go0 v u y)) p) (woY v u y) < 0)))) (nI y) M7)) = fX2_live_70 t (nI n) (gMk 6 (goY v u y)) (nI y) C ∧
        (∀ p, p < 6 → C.1 (36 + y) p = gMk 6 (tiY v u y p)) ∧ (∀ q, q < 6 → C.1 (49 + y) q = fiR (v 0 4) (tiY v u y) (goY v u y) q) ∧ (∀ o, o ≠ 36 + y → o ≠ 49 + y → C.1 o = A.1 o) ∧ C.2 = A.2 := by
      have hor : gMk 6 (go0 v u y) ||| gMk 6 (fun p => decide (p < v 0 4) && (!go0 v u y p && decide (smI 6 (fmO (tiO (gl v u) y (go0 v u y)) p) (woY v u y) < 0))) = gMk 6 (goY v u y) := by
        rw [gMk_or (by omega), goY_eq]
        rfl
      rw [hor]
      by_cases h0 : gMk 6 (fun p => decide (p < v 0 4) && (!go0 v u y p && decide (smI 6 (fmO (tiO (gl v u) y (go0 v u y)) p) (woY v u y) < 0))) = 0
      · rw [if_pos h0]
        rw [h0, Int32.or_zero] at hor
        obtain ⟨B', b1', b2', b3', b4', b5'⟩ := F_joinUp (M := A) (t := t) (y := y) (n := v 0 4) (l := gl v u) (aw := goY v u y) (by omega) hy12 (by omega) hrA.1.2.2.2.2.2.1 hll hokn hgA
        rw [← hor, b1] at b1'
        cases b1'
        exact ⟨B, by rw [hor], by rw [tiY_eq]; exact b2', by rw [tiY_eq]; exact b3', b4', b5'⟩
      · rw [if_neg h0]
        obtain ⟨C, c1, c2, c3, c4, c5⟩ := F_joinUp (M := B) (t := t) (y := y) (n := v 0 4) (l := gl v u) (aw := goY v u y) (by omega) hy12 (by omega) (by rw [b4 t (by omega) (by omega)]; exact hrA.1.2.2.2.2.2.1) hll hokn (GA_same hgA (by rw [b4 14 (by omega) (by omega)]) (fun q _ _ => b4 q (by omega) (by omega)))
        rw [c1, gB0_some]
        exact ⟨C, rfl, by rw [tiY_eq]; exact c2, by rw [tiY_eq]; exact c3, fun o h1 h2 => (c4 o h1 h2).trans (b4 o h1 h2), c5.trans b5⟩
    obtain ⟨C, ce, c1, c2, c3, c4⟩ := rest
    rw [ce]
    have cN : ∀ o, o ≠ 23 + y → o ≠ 36 + y → o ≠ 49 + y → C.1 o = N.1 o := fun o h1 h2 h3 => (c3 o h2 h3).trans (a3 o h1)
    have cW : ∀ p, p < v 0 4 → C.1 (23 + y) p = woY v u y p := fun p hp => by rw [c3 (23 + y) (by omega) (by omega)]; exact a2 p hp
    have hrC : RT C t v := RT_same hrN (fun j _ => cN (t + j) (by omega) (by omega) (by omega))
    have hgC : GA C (gl v u) := GA_same hG (by rw [cN 14 (by omega) (by omega) (by omega)]) (fun q _ _ => cN q (by omega) (by omega) (by omega))
    have hsC : SU C u := SU_same hS (fun k _ => by rw [cN 14 (by omega) (by omega) (by omega)])
    have hEC : C.1 14 16 = gMk 6 (ev0 v u y) := by rw [cN 14 (by omega) (by omega) (by omega)]; exact hE
    -- outs
    unfold fX2_live_70
    rw [ix20 hy12, if_pos rfl, nI_clamp (by omega)]
    generalize hD : gSI C 20 y (gMk 6 (goY v u y)) = D
    have dN : ∀ o, o ≠ 20 → D.1 o = C.1 o := fun o ho => by rw [← hD, gSI_ne ho]
    have d20 : ∀ k, D.1 20 k = if k = y then gMk 6 (goY v u y) else C.1 20 k := fun k => by
      rw [← hD]
      by_cases e : k = y
      · subst e; rw [gSI_eq, if_pos rfl]
      · rw [gSI_nj e, if_neg e]
    have hrD : RT D t v := RT_same hrC (fun j _ => dN (t + j) (by omega))
    have hgD : GA D (gl v u) := GA_same hgC (by rw [dN 14 (by omega)]) (fun q _ _ => dN q (by omega))
    -- helds
    unfold fX2_live_89
    rw [F_toldHeld ht hv hrD hgD hy12, gB0_some, ix19 hy12, if_pos rfl, nI_clamp (by omega)]
    generalize hEE : gSI D 19 y (gMk (v 0 5) (heO v u y (goY v u y))) = E
    have eN : ∀ o, o ≠ 19 → E.1 o = D.1 o := fun o ho => by rw [← hEE, gSI_ne ho]
    have e19 : ∀ k, E.1 19 k = if k = y then gMk (v 0 5) (heO v u y (goY v u y)) else D.1 19 k := fun k => by
      rw [← hEE]
      by_cases e : k = y
      · subst e; rw [gSI_eq, if_pos rfl]
      · rw [gSI_nj e, if_neg e]
    have hrE : RT E t v := RT_same hrD (fun j _ => eN (t + j) (by omega))
    have hsE : SU E u := SU_same hsC (fun k _ => by rw [eN 14 (by omega), dN 14 (by omega)])
    -- colds
    unfold fX2_live_103
    rw [F_catching ht hv hrE hsE hy12 (fun z hz => ⟨by
        rw [eN 21 (by omega), dN 21 (by omega), cN 21 (by omega) (by omega) (by omega)]
        exact (hY z (by omega)).2.2.1, fun p hp => by
        rw [eN (36 + z) (by omega), dN (36 + z) (by omega), cN (36 + z) (by omega) (by omega) (by omega)]
        exact (hY z (by omega)).2.2.2.2.1 p hp⟩), gB0_some, ix21 hy12, if_pos rfl, nI_clamp (by omega), eN 14 (by omega), dN 14 (by omega), hEC, hsC.2.2.1, gMk_or (by omega), gMk_or (by omega), gMk_andn (by omega)]
    have hsk : gMk 6 (fun k => (ca0 v u y k || toC v y k) && !((ev0 v u y k || goY v u y k) || u 2 k)) = gMk 6 (skY v u y) := by
      refine gMk_ext (fun k _ => ?_)
      rw [skY_eq]
      unfold siO
      rw [Bool.or_assoc (ev0 v u y k)]
    rw [hsk]
    generalize hK : gSI E 21 y (gMk 6 (skY v u y)) = K
    have kN : ∀ o, o ≠ 21 → K.1 o = E.1 o := fun o ho => by rw [← hK, gSI_ne ho]
    have k21 : ∀ k, K.1 21 k = if k = y then gMk 6 (skY v u y) else E.1 21 k := fun k => by
      rw [← hK]
      by_cases e : k = y
      · subst e; rw [gSI_eq, if_pos rfl]
      · rw [gSI_nj e, if_neg e]
    unfold fX2_live_123
    rw [ix21 hy12, if_pos rfl, nI_clamp (by omega), k21 y, if_pos rfl, kN 14 (by omega), eN 14 (by omega), dN 14 (by omega), hEC, gMk_or (by omega), nI_1]
    have key : ∀ o, o ≠ 14 → (gSI K 14 16 (gMk 6 (fun k => ev0 v u y k || skY v u y k))).1 o = K.1 o := fun o ho => gSI_ne ho
    refine ⟨_, rfl, ⟨?_, rfl⟩, ⟨fun z hz => ?_, ?_, ?_, ?_⟩, ?_⟩
    · rw [go0_s]
    · show YRo (gSI K 14 16 (gMk 6 (fun k => ev0 v u y k || skY v u y k))) v u z
      by_cases e : z = y
      · subst e
        refine ⟨?_, ?_, ?_, fun p hp => ?_, fun p hp => ?_, fun q hq => ?_⟩
        · rw [key 19 (by omega), kN 19 (by omega), e19, if_pos rfl]
        · rw [key 20 (by omega), kN 20 (by omega), eN 20 (by omega), d20, if_pos rfl]
        · rw [key 21 (by omega), k21, if_pos rfl]
        · rw [key (23 + z) (by omega), kN (23 + z) (by omega), eN (23 + z) (by omega), dN (23 + z) (by omega)]; exact cW p hp
        · rw [key (36 + z) (by omega), kN (36 + z) (by omega), eN (36 + z) (by omega), dN (36 + z) (by omega)]; exact c1 p hp
        · rw [key (49 + z) (by omega), kN (49 + z) (by omega), eN (49 + z) (by omega), dN (49 + z) (by omega)]; exact c2 q hq
      · have hzy : z < y := by omega
        refine (hY z hzy).same ?_ ?_ ?_ ?_ ?_ ?_
        · rw [key 19 (by omega), kN 19 (by omega), e19, if_neg e, dN 19 (by omega), cN 19 (by omega) (by omega) (by omega)]
        · rw [key 20 (by omega), kN 20 (by omega), eN 20 (by omega), d20, if_neg e, cN 20 (by omega) (by omega) (by omega)]
        · rw [key 21 (by omega), k21, if_neg e, eN 21 (by omega), dN 21 (by omega), cN 21 (by omega) (by omega) (by omega)]
        · rw [key (23 + z) (by omega), kN (23 + z) (by omega), eN (23 + z) (by omega), dN (23 + z) (by omega), cN (23 + z) (by omega) (by omega) (by omega)]
        · rw [key (36 + z) (by omega), kN (36 + z) (by omega), eN (36 + z) (by omega), dN (36 + z) (by omega), cN (36 + z) (by omega) (by omega) (by omega)]
        · rw [key (49 + z) (by omega), kN (49 + z) (by omega), eN (49 + z) (by omega), dN (49 + z) (by omega), cN (49 + z) (by omega) (by omega) (by omega)]
    · show (gSI K 14 16 (gMk 6 (fun k => ev0 v u y k || skY v u y k))).1 14 16 = _
      rw [gSI_eq]
      show _ = gMk 6 (evY v u y)
      rw [evY_eq]
    · refine GA_same hgC ?_ (fun q h1 h2 => ?_)
      · show (gSI K 14 16 _).1 14 5 = _
        rw [gSI_nj (by omega), kN 14 (by omega), eN 14 (by omega), dN 14 (by omega)]
      · show (gSI K 14 16 _).1 q = _
        rw [gSI_ne (by omega), kN q (by omega), eN q (by omega), dN q (by omega)]
    · refine SU_same hsC (fun k hk => ?_)
      show (gSI K 14 16 _).1 14 k = _
      rw [gSI_nj (by omega), kN 14 (by omega), eN 14 (by omega), dN 14 (by omega)]
    · show Fr 14 61 M (gSI K 14 16 (gMk 6 (fun k => ev0 v u y k || skY v u y k)))
      refine ⟨fun q hq => ?_, ?_⟩
      · rw [key q (by omega), kN q (by omega), eN q (by omega), dN q (by omega), cN q (by omega) (by omega) (by omega)]
        exact hF.1 q hq
      · show K.2 = M.2
        rw [← hK, ← hEE, ← hD]
        exact (c4.trans a4).trans hF.2
  · obtain ⟨gn, y', N⟩ := s
    obtain ⟨⟨h1, h2⟩, hI⟩ := hI
    have h2 : y' = nI n := h2
    subst h2
    obtain ⟨hL, hF⟩ := hI
    show ∃ r, fX2_live_15 t (nI n) gn (nI n) N = _ ∧ _
    unfold fX2_live_15
    rw [if_pos (Int32.le_refl _)]
    exact ⟨N, rfl, hL, hF⟩
  · rw [gSI_eq]
    exact gMk_0 (by omega)
