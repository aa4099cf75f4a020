/-! false joins that are drawn -/
def nx (x : Int64) : Int64 := (((1103515245 : Int64) * x) + (12345 : Int64)) - (((1103515245 : Int64) * x) + (12345 : Int64)) / (2147483648 : Int64) * (2147483648 : Int64)
def nxI (s : Int64) : Nat → Int64
  | 0 => s
  | k + 1 => nx (nxI s k)
def drB (v : gCt) (s : Int64) (k : Nat) : Bool := !decide (0 ≤ (lg_cmp (nx (nxI s k) / (65536 : Int64) - nx (nxI s k) / (65536 : Int64) / (10 : Int64) * (10 : Int64)) (Int32.toInt64 (nI (v 0 3)))))
def drM (v : gCt) (s : Int64) (k : Nat) : Bool := decide (k < v 0 5) && drB v s k
theorem dr_7 {v : gCt} (hv : gWF v) (s : Int64) : gMk (v 0 5) (drB v s) = gMk 7 (drM v s) := by
  have h := hv.1.2.2.2.2.2.1
  refine gMk_of (by omega) (fun k hk => ?_) (fun k hk _ => ?_)
  · rw [bt_gMk (by omega)]; rfl
  · rw [bt_gMk (by omega), decide_eq_false (by omega), Bool.false_and]
theorem C_draw {M : gMem} {t : Nat} {v : gCt} (h : CT M t v) (x : Int32) : fX8_drawFalseJoins x M = some (gMk 7 (drM v x.toInt64)) := by
  have hv0 := h.2.1.1
  rw [← dr_7 h.2.1]
  unfold fX8_drawFalseJoins fX8_drawFalseJoins_0 fX8_drawFalseJoins_8h
  refine gLp_for (fun i => (gMk i (drB v x.toInt64), nxI x.toInt64 i, nI i)) (v 0 5) _ (by omega) (fun i hi => ?_) ?_ _ rfl
  · show fX8_drawFalseJoins_8 (gMk i (drB v x.toInt64)) (nxI x.toInt64 i) (nI i) M = _
    unfold fX8_drawFalseJoins_8 fX8_drawFalseJoins_39
    have h4 : M.1 (M.2.2 0) 4 = nI (v 0 3) := by rw [h.1.1]; exact h.2.2.1.1.2.2.2.2.1
    rw [if_pos (gob_T h), tn_nj h, if_neg (nI_ge hi (by omega)), if_pos (gob_T h), h4, nI_1, b1_eq]
    show _ = some (Sum.inl (gMk (i + 1) (drB v x.toInt64), nx (nxI x.toInt64 i), nI (i + 1)))
    rw [gMk_s]
    by_cases c : 0 ≤ (lg_cmp (nx (nxI x.toInt64 i) / (65536 : Int64) - nx (nxI x.toInt64 i) / (65536 : Int64) / (10 : Int64) * (10 : Int64)) (Int32.toInt64 (nI (v 0 3))))
    · have e : drB v x.toInt64 i = false := by unfold drB; rw [decide_eq_true c]; rfl
      rw [e]
      exact (if_pos c).trans rfl
    · have e : drB v x.toInt64 i = true := by unfold drB; rw [decide_eq_false c]; rfl
      rw [e]
      exact (if_neg c).trans rfl
  · show fX8_drawFalseJoins_8 _ _ (nI (v 0 5)) M = _
    unfold fX8_drawFalseJoins_8
    rw [if_pos (gob_T h), tn_nj h, if_pos (Int32.le_refl _)]
    rfl
theorem C_outAtLast {M : gMem} {t : Nat} {v : gCt} (h : CT M t v) (hy : 0 < v 0 0) (g : Nat → Bool) : ∃ N, fX8_outAtLast (gMk 7 g) M = some (gMk 6 (goY v (uS 0 g) (v 0 0 - 1)), N) ∧ CT N t v ∧ KP M N := by
  have hv0 := h.2.1.1
  obtain ⟨M1, m1, m2, m3, m4⟩ := C_sup h (k := 0) (f := g) (x := gMk 7 g) (Or.inl ⟨rfl, rfl⟩)
  obtain ⟨N, n1, n2, n3, n4⟩ := F_liveU m3 m2 hv0.1
  obtain ⟨-, hg, -⟩ := n2.1 (v 0 0 - 1) (by omega)
  unfold fX8_outAtLast fX8_outAtLast_0 fX8_outAtLast_20
  have e1 : (nI (v 0 0) - 1 : Int32) = nI (v 0 0 - 1) := by rw [show (1 : Int32) = nI 1 from rfl, pk_sub (by omega)]
  have hin : inR (nI (v 0 0 - 1)) (v 0 0) = true := by
    unfold inR
    rw [nI_int _ (by omega), decide_eq_true (by omega), decide_eq_true (by omega)]; rfl
  rw [m1, gB0_some, if_pos (gob_T m3), if_pos (gob_T m3), tn_ny m3, m3.1.1, n1, gB0_some, if_pos (gob_T n3), if_pos (gob_T n3), tn_ny n3, n3.1.1, e1, F_hasYear n3.2.1 n3.2.2.1, gB0_some, ite_bI, hin, if_pos rfl, if_pos (ix20 (by omega)), nI_clamp (by omega), hg]
  exact ⟨N, rfl, n3, m4.tr n4⟩
theorem MS_25g {M : gMem} {v : gCt} {g : Nat → Bool} (h : MS M v (uS 0 g) []) {f : Nat → Bool} {x : Int32} (hx : x = gMk 7 f) : MS (gSI M 141 25 x) v (uS 0 f) [] := by
  obtain ⟨c1, c2, ⟨m1, m2, m3, m4⟩, c4, c5⟩ := h
  have r : ∀ i, i ≠ 25 → (gSI M 141 25 x).1 141 i = M.1 141 i := fun i hi => gSI_nj hi
  have e : (gSI M 141 25 x).1 141 25 = x := gSI_eq
  refine ⟨RA_same c1 (fun q _ _ => gSI_ne (by omega)), RC_same c2 (fun q _ _ => gSI_ne (by omega)), ?_, ?_, ?_⟩
  · exact ⟨by rw [e, hx]; rfl, by rw [r 26 (by omega)]; exact m2, by rw [r 27 (by omega)]; exact m3, by rw [r 32 (by omega)]; exact m4⟩
  · rcases c4 with ⟨b1, -⟩ | ⟨p, q, yy, -, -, -, -, -, -, -, b8⟩
    · exact Or.inl ⟨by rw [r 30 (by omega)]; exact b1, rfl⟩
    · cases b8
  · obtain ⟨x0, x1, x2, x3⟩ := c5
    exact ⟨x0, x1, by rw [r 31 (by omega)]; exact x2, fun p hp => x3 p hp⟩
/-- as many drawn as i -/
def drI (v : gCt) (s : Int64) (i : Nat) (k : Nat) : Bool := decide (k < i) && drB v s k
theorem dr_i {v : gCt} {s : Int64} {i : Nat} (hi : i ≤ 7) : gMk i (drB v s) = gMk 7 (drI v s i) := by
  refine gMk_of (by omega) (fun k hk => ?_) (fun k hk _ => ?_)
  · rw [bt_gMk (by omega)]; rfl
  · rw [bt_gMk (by omega), decide_eq_false (by omega), Bool.false_and]
theorem M_draws {M : gMem} {t : Nat} {v : gCt} (h : CT M t v) (x : Int64) : ∃ N, fX9_draws x M = some N ∧ N.1 141 25 = gMk 7 (drM v x) ∧ MV N v (uS 0 (drM v x)) (v 0 0) ∧ CT N t v ∧ KP M N := by
  have hv := h.2.1
  have hv0 := hv.1
  obtain ⟨A, a1, a2, a3, a4, a5, a6⟩ := F_lays h
  have h25 : A.1 141 25 = 0 := by
    have := a2.2.2.1.1
    rw [this]
    exact (gMk_0 (by omega)).symm
  unfold fX9_draws fX9_draws_0 fX9_draws_9h
  rw [a1, gB0_some]
  refine gLp_inv (fun i (s : Int64 × Int32 × gMem) => s.1 = nxI x i ∧ s.2.1 = nI i ∧ s.2.2.1 141 25 = gMk i (drB v x) ∧ (∃ g, MS s.2.2 v (uS 0 g) []) ∧ CT s.2.2 t v ∧ KP M s.2.2) (v 0 5) (fun (N : gMem) => N.1 141 25 = gMk 7 (drM v x) ∧ MV N v (uS 0 (drM v x)) (v 0 0) ∧ CT N t v ∧ KP M N) (by omega) (fun i s hi hI => ?_) (fun s hI => ?_) _ ⟨rfl, rfl, h25, ⟨fun _ => false, by rw [uS_none]; exact a2⟩, a4, a5⟩
  · obtain ⟨z, i', N⟩ := s
    obtain ⟨g1, g2, g3, ⟨g, g4⟩, g5, g6⟩ := hI
    have g1 : z = nxI x i := g1
    have g2 : i' = nI i := g2
    subst g1; subst g2
    have g3 : N.1 141 25 = gMk i (drB v x) := g3
    have g4 : MS N v (uS 0 g) [] := g4
    have g5 : CT N t v := g5
    have g6 : KP M N := g6
    obtain ⟨e1, e2⟩ := hd_at g5.2.2.2.1 (k := 3) (by omega) (i := 3) rfl
    refine Or.inl ?_
    show ∃ s', fX9_draws_9 (nxI x i) (nI i) N = _ ∧ _
    unfold fX9_draws_9 fX9_draws_42 fX9_draws_65
    rw [F_joins g5.2.2.2.1, gB0_some, if_neg (nI_ge hi (by omega)), if_pos e1, e2, nI_1, b1_eq, g3]
    have fin : ∀ y : Int32, gMk i (drB v x) ||| y = gMk (i + 1) (drB v x) → ∃ s', (some (Sum.inl (nx (nxI x i), nI (i + 1), gSI N 141 25 (gMk i (drB v x) ||| y))) : Option (Sum (Int64 × Int32 × gMem) gMem)) = some (Sum.inl s') ∧ (s'.1 = nxI x (i + 1) ∧ s'.2.1 = nI (i + 1) ∧ s'.2.2.1 141 25 = gMk (i + 1) (drB v x) ∧ (∃ g, MS s'.2.2 v (uS 0 g) []) ∧ CT s'.2.2 t v ∧ KP M s'.2.2) := by
      intro y hy
      have k1 : KP N (gSI N 141 25 (gMk i (drB v x) ||| y)) := KP.s141 (by omega)
      refine ⟨_, rfl, rfl, rfl, gSI_eq.trans hy, ⟨drI v x (i + 1), MS_25g g4 (by rw [hy]; exact dr_i (by omega))⟩, g5.kp k1, g6.tr k1⟩
    by_cases c : 0 ≤ (lg_cmp (nx (nxI x i) / (65536 : Int64) - nx (nxI x i) / (65536 : Int64) / (10 : Int64) * (10 : Int64)) (Int32.toInt64 (nI (v 0 3))))
    · have e : drB v x i = false := by unfold drB; rw [decide_eq_true c]; rfl
      have r := fin 0 (by rw [gMk_s, e, if_neg (by decide), Int32.or_zero])
      obtain ⟨s', s1, s2⟩ := r
      exact ⟨s', (if_pos c).trans s1, s2⟩
    · have e : drB v x i = true := by unfold drB; rw [decide_eq_false c]; rfl
      have r := fin (b1 i) (by rw [gMk_s, e, if_pos rfl])
      obtain ⟨s', s1, s2⟩ := r
      exact ⟨s', (if_neg c).trans s1, s2⟩
  · obtain ⟨z, i', N⟩ := s
    obtain ⟨g1, g2, g3, ⟨g, g4⟩, g5, g6⟩ := hI
    have g2 : i' = nI (v 0 5) := g2
    subst g2
    have g3 : N.1 141 25 = gMk (v 0 5) (drB v x) := g3
    have g4 : MS N v (uS 0 g) [] := g4
    have g5 : CT N t v := g5
    have g6 : KP M N := g6
    have g4' : MS N v (uS 0 (drM v x)) [] := by
      obtain ⟨c1, c2, ⟨m1, m2, m3, m4⟩, c4, c5⟩ := g4
      exact ⟨c1, c2, ⟨g3.trans (dr_7 hv x), m2, m3, m4⟩, c4, c5⟩
    obtain ⟨B, b1', b2, b3, b4, b5, b6⟩ := M_runsY g5 g4'
    show ∃ r, fX9_draws_9 z (nI (v 0 5)) N = _ ∧ _
    unfold fX9_draws_9
    rw [F_joins g5.2.2.2.1, gB0_some, if_pos (Int32.le_refl _), b1', gB0_some]
    exact ⟨B, rfl, by rw [b6, g3]; exact dr_7 hv x, b3, b4, g6.tr b5⟩
def seB (x : Int32) : Bool := decide ((0 : Int) ≤ x.toInt) && decide (x.toInt ≤ 2000000000)
theorem C_isSeed (x : Int32) (M : gMem) : fX8_isSeed x M = some (bI (seB x)) := by
  unfold fX8_isSeed fX8_isSeed_0 seB
  have e1 : (x < 0) ↔ x.toInt < 0 := Int32.lt_iff_toInt_lt
  have e2 : ((2000000000 : Int32) < x) ↔ 2000000000 < x.toInt := Int32.lt_iff_toInt_lt
  by_cases c : x < 0
  · rw [if_pos c, decide_eq_false (by have := e1.mp c; omega), Bool.false_and]; rfl
  · have h1 : ¬ x.toInt < 0 := fun h => c (e1.mpr h)
    rw [if_neg c, decide_eq_true (by omega), Bool.true_and]
    by_cases d : (2000000000 : Int32) < x
    · rw [if_pos d, decide_eq_false (by have := e2.mp d; omega)]; rfl
    · have h2 : ¬ 2000000000 < x.toInt := fun h => d (e2.mpr h)
      rw [if_neg d, decide_eq_true (by omega)]; rfl
theorem M_isSeed (x : Int32) (M : gMem) : fX9_isSeed x M = some (bI (seB x)) := by
  unfold fX9_isSeed fX9_isSeed_0 seB
  rw [F_in, gB0_some, Int32.toInt_toInt64, if_pos (bI_z _)]
  rfl
theorem t_pos {v : gCt} (hyo : yOK v) (h : 0 < v 0 9) : 0 < v 0 0 := by
  rcases Nat.eq_zero_or_pos (v 0 0) with e | e
  · have := (hyo e).2.2.2; omega
  · exact e
theorem Q_drawn {t : Nat} {v : gCt} (hyo : yOK v) (x w : Int32) : SQ t v (fX8_drawn x w) (fX9_drawn x w) := by
  refine SQ_g (b := decide (0 < v 0 9) && (seB x && (decide (w = 0) || decide (w = 1)))) (e := -2) (F := fun M => gB0 (fX8_drawFalseJoins x M) (fun r8 => if w = (1 : Int32) then some (r8, M) else fX8_outAtLast r8 M)) (G := fun M => gB0 (fX9_draws (Int32.toInt64 x) M) (fun M7 => if w = 0 then gB0 (fX9_years M7) (fun r9 => gB0 (fX9_outBits (r9 - (1 : Int32)) M7) (fun r11 => some (r11, M7))) else some ((M7.1 141 25), M7))) (fun M hM => ?_) (fun M hM => ?_) (fun hb => ?_)
  · unfold fX8_drawn fX8_drawn_0
    simp only [gBp_id]
    rw [if_pos (gob_T hM), hM.1.1, C_isTold hM, gB0_some, ite_bI, C_isSeed, gB0_some, ite_bI, C_isEither, gB0_some, ite_bI]
    cases decide (0 < v 0 9) <;> cases seB x <;> cases (decide (w = 0) || decide (w = 1)) <;> rfl
  · have hN := hM.kp (kp0 M)
    unfold fX9_drawn fX9_drawn_0 fX9_drawn_6
    rw [M_isCity hN.2.1 hN.2.2.2.1, gB0_some, ite_bI, M_isSeed, gB0_some, ite_bI, M_isHalf, gB0_some, ite_bI]
    cases decide (0 < v 0 9) <;> cases seB x <;> cases (decide (w = 0) || decide (w = 1)) <;> rfl
  · rw [Bool.and_eq_true, Bool.and_eq_true, decide_eq_true_eq] at hb
    have hy := t_pos hyo hb.1
    obtain ⟨a, rfl⟩ := half_b hb.2.2
    refine ⟨if a = true then gMk 7 (drM v x.toInt64) else gMk 6 (goY v (uS 0 (drM v x.toInt64)) (v 0 0 - 1)), fun M hM => ?_, fun M hM => ?_⟩
    · show ∃ K, gB0 (fX8_drawFalseJoins x M) _ = _ ∧ _
      rw [C_draw hM, gB0_some]
      cases a
      · obtain ⟨N, n1, n2, n3⟩ := C_outAtLast hM hy (drM v x.toInt64)
        exact ⟨N, n1, n3⟩
      · exact ⟨M, rfl, KP.rf⟩
    · obtain ⟨N, n1, n2, n3, n4, n5⟩ := M_draws hM x.toInt64
      refine ⟨N, ?_, n5⟩
      have hv0 := n4.2.1.1
      show gB0 (fX9_draws x.toInt64 M) _ = _
      rw [n1, gB0_some]
      cases a
      · show gB0 (fX9_years N) _ = _
        rw [F_years n4.2.2.2.1, gB0_some, show (1 : Int32) = nI 1 from rfl, pk_sub (by omega), F_outBits n4.2.1 n4.2.2.2.1 n3 (by omega) (by omega), gB0_some, gMk_np hv0.2.2.2.2.1 (fun p hp => goY_lt v _ _ p hp)]
        rfl
      · show some (N.1 141 25, N) = _
        rw [n2]; rfl
theorem seed_add {x : Int32} {i : Nat} (hx : seB x = true) (hi : i < 20) : (x + nI i).toInt64 = x.toInt64 + (nI i).toInt64 := by
  unfold seB at hx
  rw [Bool.and_eq_true, decide_eq_true_eq, decide_eq_true_eq] at hx
  have e := nI_int i (by omega)
  apply Int64.toInt_inj.mp
  rw [Int32.toInt_toInt64, j_add (a := x.toInt) rfl e (by omega), k_add (a := x.toInt) (b := (i : Int)) (Int32.toInt_toInt64 x) (by rw [Int32.toInt_toInt64]; exact e) (by omega)]
def luC (v : gCt) (x : Int32) (p : Nat) : Nat → Nat
  | 0 => 0
  | i + 1 => luC v x p i + (if goY v (uS 0 (drM v (x + nI i).toInt64)) (v 0 0 - 1) p = true then 1 else 0)
theorem Q_luck {t : Nat} {v : gCt} (hyo : yOK v) (x w q : Int32) : SQ t v (fX8_luck x w q) (fX9_luck x w q) := by
  refine SQ_g (b := inR q (v 0 4) && (seB x && (decide ((1 : Int) ≤ w.toInt) && decide (w.toInt ≤ 20)))) (e := -2) (F := fX8_luck_38h x w q 0 0) (G := fX9_luck_42h x w q 0 0) (fun M hM => ?_) (fun M hM => ?_) (fun hb => ?_)
  · unfold fX8_luck fX8_luck_0
    have e1 : (w < 1) ↔ w.toInt < 1 := Int32.lt_iff_toInt_lt
    have e2 : (w ≤ 20) ↔ w.toInt ≤ 20 := Int32.le_iff_toInt_le
    rw [if_pos (gob_T hM), hM.1.1, F_hasPartner hM.2.1 hM.2.2.1, gB0_some, ite_bI, C_isSeed, gB0_some, ite_bI]
    cases inR q (v 0 4)
    · rfl
    · cases seB x
      · rfl
      · show (if w < 1 then _ else _) = _
        by_cases c : w < 1
        · rw [if_pos c, decide_eq_false (by have := e1.mp c; omega)]; rfl
        · have h1 : ¬ w.toInt < 1 := fun h => c (e1.mpr h)
          rw [if_neg c, decide_eq_true (by omega)]
          by_cases d : w ≤ 20
          · rw [if_pos d, decide_eq_true (e2.mp d)]; rfl
          · rw [if_neg d, decide_eq_false (fun h => d (e2.mpr h))]; rfl
  · have hN := hM.kp (kp0 M)
    unfold fX9_luck fX9_luck_0 fX9_luck_6
    rw [M_isSeed, gB0_some, ite_bI, F_in, gB0_some, ite_bI, Int32.toInt_toInt64, M_isPerson hN.2.1 hN.2.2.2.1, gB0_some, ite_bI, inL_inR]
    show (if seB x = true then (if (decide ((1 : Int) ≤ w.toInt) && decide (w.toInt ≤ 20)) = true then _ else _) else _) = _
    cases seB x <;> cases (decide ((1 : Int) ≤ w.toInt) && decide (w.toInt ≤ 20)) <;> cases inR q (v 0 4) <;> rfl
  · rw [Bool.and_eq_true, Bool.and_eq_true, Bool.and_eq_true, decide_eq_true_eq, decide_eq_true_eq] at hb
    obtain ⟨hq, hs, hw1, hw2⟩ := hb
    obtain ⟨p, hp, rfl⟩ := inR_k hq
    have hy := y_pos hyo hp
    obtain ⟨n, rfl, hn⟩ : ∃ n : Nat, w = nI n ∧ n ≤ 20 := ⟨w.toInt.toNat, Int32.toInt_inj.mp (by rw [nI_int _ (by omega)]; omega), by omega⟩
    refine ⟨nI (luC v x p n), fun M hM => ?_, fun M hM => ?_⟩
    · have hv0 := hM.2.1.1
      have key : ∃ r, fX8_luck_38h x (nI n) (nI p) 0 0 M = some r ∧ (r.1 = nI (luC v x p n) ∧ KP M r.2) := by
        unfold fX8_luck_38h
        refine gLp_inv (fun i (s : Int32 × Int32 × gMem) => s.1 = nI (luC v x p i) ∧ s.2.1 = nI i ∧ CT s.2.2 t v ∧ KP M s.2.2) n (fun (r : Int32 × gMem) => r.1 = nI (luC v x p n) ∧ KP M r.2) (by omega) (fun i s hi hI => ?_) (fun s hI => ?_) _ ⟨rfl, rfl, hM, KP.rf⟩
        · obtain ⟨y, i', N⟩ := s
          obtain ⟨g1, g2, g3, g4⟩ := hI
          have g1 : y = nI (luC v x p i) := g1
          have g2 : i' = nI i := g2
          subst g1; subst g2
          have g3 : CT N t v := g3
          have g4 : KP M N := g4
          obtain ⟨K, k1, k2, k3⟩ := C_outAtLast g3 hy (drM v (x + nI i).toInt64)
          refine Or.inl ?_
          show ∃ s', fX8_luck_38 x (nI n) (nI p) (nI (luC v x p i)) (nI i) N = _ ∧ _
          unfold fX8_luck_38
          rw [if_neg (nI_ge hi (by omega)), C_draw g3, gB0_some, k1, gBp_some, F_has _ (by omega), bt_gMk (by omega), decide_eq_true (show p < 6 by omega), Bool.true_and, gB0_some, ite_bI, nI_1, nI_1]
          refine ⟨(nI (luC v x p (i + 1)), nI (i + 1), K), ?_, rfl, rfl, k2, g4.tr k3⟩
          rw [luC]
          cases goY v (uS 0 (drM v (x + nI i).toInt64)) (v 0 0 - 1) p <;> rfl
        · obtain ⟨y, i', N⟩ := s
          obtain ⟨g1, g2, g3, g4⟩ := hI
          have g2 : i' = nI n := g2
          subst g2
          show ∃ r, fX8_luck_38 x (nI n) (nI p) y (nI n) N = _ ∧ _
          unfold fX8_luck_38
          rw [if_pos (Int32.le_refl _)]
          exact ⟨_, rfl, g1, g4⟩
      obtain ⟨⟨r, K⟩, k1, k2, k3⟩ := key
      exact ⟨K, by rw [k1]; exact congrArg (fun z => some (z, K)) k2, k3⟩
    · have hv0 := hM.2.1.1
      have key : ∃ r, fX9_luck_42h x (nI n) (nI p) 0 0 M = some r ∧ (r.1 = nI (luC v x p n) ∧ KP M r.2) := by
        unfold fX9_luck_42h
        refine gLp_inv (fun i (s : Int32 × Int32 × gMem) => s.1 = nI (luC v x p i) ∧ s.2.1 = nI i ∧ CT s.2.2 t v ∧ KP M s.2.2) n (fun (r : Int32 × gMem) => r.1 = nI (luC v x p n) ∧ KP M r.2) (by omega) (fun i s hi hI => ?_) (fun s hI => ?_) _ ⟨rfl, rfl, hM, KP.rf⟩
        · obtain ⟨y, i', N⟩ := s
          obtain ⟨g1, g2, g3, g4⟩ := hI
          have g1 : y = nI (luC v x p i) := g1
          have g2 : i' = nI i := g2
          subst g1; subst g2
          have g3 : CT N t v := g3
          have g4 : KP M N := g4
          obtain ⟨K, k1, k2, k3, k4, k5⟩ := M_draws g3 (x.toInt64 + (nI i).toInt64)
          rw [← seed_add hs (by omega)] at k1 k2 k3
          refine Or.inl ?_
          show ∃ s', fX9_luck_42 x (nI n) (nI p) (nI (luC v x p i)) (nI i) N = _ ∧ _
          unfold fX9_luck_42
          rw [if_neg (nI_ge hi (by omega)), ← seed_add hs (by omega), k1, gB0_some, F_years k4.2.2.2.1, gB0_some, show (1 : Int32) = nI 1 from rfl, pk_sub (by omega), F_out (k3.ot (show v 0 0 - 1 < v 0 0 by omega) (by omega)) (by omega) (by omega) hp, gB0_some, ite_bI, nI_add, nI_add, show (0 : Int32) = nI 0 from rfl, nI_add]
          refine ⟨(nI (luC v x p (i + 1)), nI (i + 1), K), ?_, rfl, rfl, k4, g4.tr k5⟩
          rw [luC]
          cases goY v (uS 0 (drM v (x + nI i).toInt64)) (v 0 0 - 1) p <;> rfl
        · obtain ⟨y, i', N⟩ := s
          obtain ⟨g1, g2, g3, g4⟩ := hI
          have g2 : i' = nI n := g2
          subst g2
          show ∃ r, fX9_luck_42 x (nI n) (nI p) y (nI n) N = _ ∧ _
          unfold fX9_luck_42
          rw [if_pos (Int32.le_refl _)]
          exact ⟨_, rfl, g1, g4⟩
      obtain ⟨⟨r, K⟩, k1, k2, k3⟩ := key
      exact ⟨K, by rw [k1]; exact congrArg (fun z => some (z, K)) k2, k3⟩
