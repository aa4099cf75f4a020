/-! Questions of years, going on. -/
def bl (b0 b1 b2 b3 b4 b5 b6 : Bool) : Nat → Bool := fun k => match k with
  | 0 => b0
  | 1 => b1
  | 2 => b2
  | 3 => b3
  | 4 => b4
  | 5 => b5
  | _ => b6
theorem bl_eq (f : Nat → Bool) : ∀ k, k < 7 → f k = bl (f 0) (f 1) (f 2) (f 3) (f 4) (f 5) (f 6) k := by
  intro k hk
  match k, hk with
  | 0, _ => rfl
  | 1, _ => rfl
  | 2, _ => rfl
  | 3, _ => rfl
  | 4, _ => rfl
  | 5, _ => rfl
  | 6, _ => rfl
theorem pop_bl : ∀ b0 b1 b2 b3 b4 b5 b6 : Bool, gPop (gMk 7 (bl b0 b1 b2 b3 b4 b5 b6)) = nI (cnU 7 (bl b0 b1 b2 b3 b4 b5 b6)) := by decide +kernel
theorem gPop_7 (f : Nat → Bool) : gPop (gMk 7 f) = nI (cnU 7 f) := by
  rw [gMk_ext (bl_eq f), cnU_ext (bl_eq f)]
  exact pop_bl _ _ _ _ _ _ _
theorem gMk_67 (f : Nat → Bool) : gMk 6 f = gMk 7 (fun k => decide (k < 6) && f k) := by
  refine gMk_of (by omega) (fun k hk => ?_) (fun k hk _ => ?_)
  · rw [bt_gMk (by omega)]
  · rw [bt_gMk (by omega), decide_eq_false (by omega), Bool.false_and]
theorem cnU_67 (f : Nat → Bool) : cnU 7 (fun k => decide (k < 6) && f k) = cnU 6 f := by
  rw [cnU_s]
  have : cnU 6 (fun k => decide (k < 6) && f k) = cnU 6 f := cnU_ext (fun k hk => by rw [decide_eq_true hk, Bool.true_and])
  rw [this]; simp
theorem gPop_6 (f : Nat → Bool) : gPop (gMk 6 f) = nI (cnU 6 f) := by rw [gMk_67, gPop_7, cnU_67]
theorem gPop_0 : gPop 0 = 0 := by decide +kernel
theorem F_bc (x : Int32) (M : gMem) : fJ6_bitCount_0f7a4 x M = some (gPop x) := rfl
def gM0 : gMem := (fun _ _ => 0, fun _ _ => 0, fun _ => 0)
theorem size_bl : ∀ b0 b1 b2 b3 b4 b5 b6 : Bool, fX9_sizeOf (gMk 7 (bl b0 b1 b2 b3 b4 b5 b6)) gM0 = some (nI (cnU 7 (bl b0 b1 b2 b3 b4 b5 b6))) := by decide +kernel
theorem F_size7 (f : Nat → Bool) (M : gMem) : fX9_sizeOf (gMk 7 f) M = some (nI (cnU 7 f)) := by
  have e : fX9_sizeOf (gMk 7 f) M = fX9_sizeOf (gMk 7 f) gM0 := rfl
  rw [e, gMk_ext (bl_eq f), cnU_ext (bl_eq f)]
  exact size_bl _ _ _ _ _ _ _
theorem F_size6 (f : Nat → Bool) (M : gMem) : fX9_sizeOf (gMk 6 f) M = some (nI (cnU 6 f)) := by rw [gMk_67, F_size7, cnU_67]
theorem F_size0 (M : gMem) : fX9_sizeOf 0 M = some 0 := by
  have := F_size6 (fun _ => false) M
  rw [← gMk_0 (by omega)] at this
  exact this
theorem fiR_in {n : Nat} {ti : Nat → Nat → Bool} {aw : Nat → Bool} {q : Nat} (h1 : q < n) (h2 : aw q = false) : fiR n ti aw q = gMk 6 (fmO ti q) := if_pos ⟨h1, h2⟩
theorem fiR_no {n : Nat} {ti : Nat → Nat → Bool} {aw : Nat → Bool} {q : Nat} (h2 : aw q = true) : fiR n ti aw q = 0 := if_neg (fun h => by rw [h2] at h; cases h.2)
/-- how many are in a firm -/
def fiN (n : Nat) (ti : Nat → Nat → Bool) (aw : Nat → Bool) (q : Nat) : Nat := if q < n ∧ aw q = false then cnU 6 (fmO ti q) else 0
theorem fiR_pop (n : Nat) (ti : Nat → Nat → Bool) (aw : Nat → Bool) (q : Nat) : gPop (fiR n ti aw q) = nI (fiN n ti aw q) := by
  unfold fiR fiN
  split
  · exact gPop_6 _
  · exact gPop_0
theorem fiR_size (n : Nat) (ti : Nat → Nat → Bool) (aw : Nat → Bool) (q : Nat) (M : gMem) : fX9_sizeOf (fiR n ti aw q) M = some (nI (fiN n ti aw q)) := by
  unfold fiR fiN
  split
  · exact F_size6 _ _
  · exact F_size0 _
theorem fiN_le (n : Nat) (ti : Nat → Nat → Bool) (aw : Nat → Bool) (q : Nat) : fiN n ti aw q ≤ 6 := by
  unfold fiN
  split
  · exact cnU_le 6 _
  · omega
def mxU : Nat → (Nat → Nat) → Nat
  | 0, _ => 0
  | n + 1, f => max (mxU n f) (f n)
theorem mxU_le {n k : Nat} {f : Nat → Nat} (h : ∀ i, f i ≤ k) : mxU n f ≤ k := by
  induction n with
  | zero => exact Nat.zero_le _
  | succ n ih => rw [mxU]; exact Nat.max_le.mpr ⟨ih, h n⟩
/-- each partner's loop in the class's town of now -/
theorem tn_np {N : gMem} {t : Nat} {v : gCt} (h : CT N t v) : N.1 (N.2.2 0) 5 = nI (v 0 4) := by rw [h.1.1]; exact h.2.2.1.1.2.2.2.2.2.1
theorem tn_ny {N : gMem} {t : Nat} {v : gCt} (h : CT N t v) : N.1 (N.2.2 0) 1 = nI (v 0 0) := by rw [h.1.1]; exact h.2.2.1.1.2.1
theorem Q_largest {t : Nat} {v : gCt} (y : Int32) : SQ t v (fX8_largest y) (fX9_largest y) := by
  refine SQ_y (fun M => rfl) (fun M => rfl) (fun z hz hx => ?_)
  subst hx
  refine ⟨nI (mxU (v 0 4) (fiN (v 0 4) (tiY v u0 z) (goY v u0 z))), fun N hN hL => ⟨N, ?_, KP.rf⟩, fun N hN hS hV _ => ⟨N, ?_, KP.rf⟩⟩
  · have hv0 := hN.2.1.1
    obtain ⟨-, -, -, -, -, hY⟩ := hL.1 z hz
    unfold fX8_largest_22h
    refine gLp_for (fun i => (nI (mxU i (fiN (v 0 4) (tiY v u0 z) (goY v u0 z))), nI i)) (v 0 4) _ (by omega) (fun i hi => ?_) ?_ _ rfl
    · show fX8_largest_22 (nI z) (nI (mxU i (fiN (v 0 4) (tiY v u0 z) (goY v u0 z)))) (nI i) N = _
      have a1 := fiN_le (v 0 4) (tiY v u0 z) (goY v u0 z) i
      have a2 : mxU i (fiN (v 0 4) (tiY v u0 z) (goY v u0 z)) ≤ 6 := mxU_le (fiN_le _ _ _)
      unfold fX8_largest_22
      rw [if_pos (gob_T hN), tn_np hN, if_neg (nI_ge hi (by omega)), ix48 (by omega), if_pos rfl, nI_clamp (by omega), ra48, ixF (by omega) (by omega), if_pos rfl, nI_clamp (by omega), hY i (by omega), F_bc, gB0_some, fiR_pop, gMx_nI (by omega) (by omega), nI_1]
      rfl
    · show fX8_largest_22 (nI z) _ (nI (v 0 4)) N = _
      unfold fX8_largest_22
      rw [if_pos (gob_T hN), tn_np hN, if_pos (Int32.le_refl _)]
      rfl
  · have hv0 := hN.2.1.1
    unfold fX9_largest_24h
    refine gLp_for (fun i => (nI (mxU i (fiN (v 0 4) (tiY v u0 z) (goY v u0 z))), nI i)) (v 0 4) _ (by omega) (fun i hi => ?_) ?_ _ rfl
    · show fX9_largest_24 (nI z) (nI (mxU i (fiN (v 0 4) (tiY v u0 z) (goY v u0 z)))) (nI i) N = _
      have a1 := fiN_le (v 0 4) (tiY v u0 z) (goY v u0 z) i
      have a2 : mxU i (fiN (v 0 4) (tiY v u0 z) (goY v u0 z)) ≤ 6 := mxU_le (fiN_le _ _ _)
      unfold fX9_largest_24
      rw [F_people hN.2.2.2.1, gB0_some, if_neg (nI_ge hi (by omega)), M_firmOf hN.2.1 hN.2.2.2.1 hV hz hN.2.1.1.1 hi, gB0_some, fiR_size, gB0_some, nI_1]
      show _ = some (Sum.inl (nI (max (mxU i _) (fiN (v 0 4) (tiY v u0 z) (goY v u0 z) i)), nI (i + 1)))
      simp (disch := omega) only [nI_leI]
      by_cases c : fiN (v 0 4) (tiY v u0 z) (goY v u0 z) i ≤ mxU i (fiN (v 0 4) (tiY v u0 z) (goY v u0 z))
      · rw [if_pos c, Nat.max_eq_left c]
      · rw [if_neg c, gB0_some, fiR_size, gB0_some, Nat.max_eq_right (by omega)]
    · show fX9_largest_24 (nI z) _ (nI (v 0 4)) N = _
      unfold fX9_largest_24
      rw [F_people hN.2.2.2.1, gB0_some, if_pos (Int32.le_refl _)]
      rfl
theorem F_toldThen {M : gMem} {v : gCt} {u : gSp} {j y n : Nat} (hv : gWF v) (hs : MS M v u []) (hm : MV M v u n) (hy : y < n) (hn : n ≤ 12) (hj : j < v 0 5) : fX9_isToldThen (nI j) (nI y) M = some (bI (heO v u y (goY v u y) j)) := by
  have hv0 := hv.1
  obtain ⟨w1, w2, -, -, -⟩ := hv.2.2.1 j hj
  obtain ⟨q1, q2, q3⟩ := hs.1.2.2.1 j hj
  have ho := hm.ot hy hn
  unfold fX9_isToldThen fX9_isToldThen_0 heO
  rw [F_isTold hv hs.1 hs.2.1 hs.2.2.1 hj (by omega), gB0_some, ite_bI]
  simp (disch := omega) only [li3, pk_mul, nI_1, ix150, if_true, nI_clamp, q1, q2]
  rw [F_out ho (by omega) (by omega) w1, F_out ho (by omega) (by omega) w2, gB0_some, gB0_some, ite_bI, ite_bI]
  cases inFo y (tj v u j) <;> cases goY v u y (v 4 j) <;> cases goY v u y (v 5 j) <;> rfl
theorem Q_holds {t : Nat} {v : gCt} (y : Int32) : SQ t v (fX8_holds y) (fX9_holds y) := by
  refine SQ_y (fun M => rfl) (fun M => rfl) (fun z hz hx => ?_)
  subst hx
  refine ⟨gMk (v 0 5) (heO v u0 z (goY v u0 z)), fun N hN hL => ⟨N, ?_, KP.rf⟩, fun N hN hS hV _ => ⟨N, ?_, KP.rf⟩⟩
  · have hv0 := hN.2.1.1
    obtain ⟨hY, -⟩ := hL.1 z hz
    simp (disch := omega) only [ix19, if_true, nI_clamp, hY]
  · have hv0 := hN.2.1.1
    unfold fX9_holds_24h
    refine gLp_for (fun i => (gMk i (heO v u0 z (goY v u0 z)), nI i)) (v 0 5) _ (by omega) (fun i hi => ?_) ?_ _ rfl
    · show fX9_holds_24 (nI z) (gMk i (heO v u0 z (goY v u0 z))) (nI i) N = _
      unfold fX9_holds_24
      rw [F_joins hN.2.2.2.1, gB0_some, if_neg (nI_ge hi (by omega)), F_toldThen hN.2.1 hS hV hz (by omega) hi, gB0_some, ite_bI, b1_eq, nI_1, Int32.or_zero]
      show _ = some (Sum.inl (gMk (i + 1) _, nI (i + 1)))
      rw [gMk_s]
      cases heO v u0 z (goY v u0 z) i <;> rfl
    · show fX9_holds_24 (nI z) _ (nI (v 0 5)) N = _
      unfold fX9_holds_24
      rw [F_joins hN.2.2.2.1, gB0_some, if_pos (Int32.le_refl _)]
      rfl
/-- the first year of it among n, or none -/
theorem fr_step {f : Nat → Bool} {i : Nat} (h : frO f i = none) : frO f (i + 1) = if f i = true then some i else none := by rw [frO, h]
theorem F_firstYearWith {M : gMem} {t a : Nat} {v : gCt} (hM : CT M t v) (hs : gSh a = (1, 12)) (ha : a < gN) {f : Nat → Nat → Bool} (h : ∀ y, y < v 0 0 → M.1 a y = gMk 6 (f y)) {p : Nat} (hp : p < 6) : fX8_firstYearWith a (nI p) M = some (oV (frO (fun y => f y p) (v 0 0))) := by
  have hv0 := hM.2.1.1
  have key : ∃ r, fX8_firstYearWith a (nI p) M = some r ∧ r = oV (frO (fun y => f y p) (v 0 0)) := by
    unfold fX8_firstYearWith fX8_firstYearWith_0 fX8_firstYearWith_2h
    refine gLp_inv (fun i (s : Int32) => s = nI i ∧ frO (fun y => f y p) i = none) (v 0 0) (fun r => r = oV (frO (fun y => f y p) (v 0 0))) (by omega) (fun i s hi hI => ?_) (fun s hI => ?_) _ ⟨rfl, rfl⟩
    · obtain ⟨rfl, h2⟩ := hI
      have hl : nI (gSh a).2 = nI 12 := by rw [hs]
      show (∃ s', fX8_firstYearWith_2 a (nI p) (nI i) M = _ ∧ _) ∨ ∃ r, fX8_firstYearWith_2 a (nI p) (nI i) M = _ ∧ _
      unfold fX8_firstYearWith_2
      rw [if_pos (gob_T hM), tn_ny hM, if_neg (nI_ge hi (by omega)), gAl_of hs ha, if_pos rfl, hl, if_neg (nI_ge (by omega) (by omega)), gIx_k hs ha (by omega) (by omega), if_pos rfl, nI_clamp (by omega), h i hi, F_has _ (by omega), gB0_some, ite_bI, bt_gMk (by omega), decide_eq_true hp, Bool.true_and, nI_1]
      cases hf : f i p
      · exact Or.inl ⟨_, rfl, rfl, by rw [fr_step h2]; simp [hf]⟩
      · refine Or.inr ⟨_, rfl, ?_⟩
        have : frO (fun y => f y p) (v 0 0) = some i := by
          have h3 := frO_none.mp h2
          cases hc : frO (fun y => f y p) (v 0 0) with
          | none => have := frO_none.mp hc i hi; rw [hf] at this; cases this
          | some k =>
            obtain ⟨c1, c2, c3⟩ := frO_some hc
            rcases Nat.lt_trichotomy k i with e | e | e
            · rw [h3 k e] at c2; cases c2
            · rw [e]
            · rw [c3 i e] at hf; cases hf
        rw [this]; rfl
    · obtain ⟨rfl, h2⟩ := hI
      show ∃ r, fX8_firstYearWith_2 a (nI p) (nI (v 0 0)) M = _ ∧ _
      unfold fX8_firstYearWith_2
      rw [if_pos (gob_T hM), tn_ny hM, if_pos (Int32.le_refl _), h2]
      exact ⟨_, rfl, rfl⟩
  obtain ⟨r, k1, k2⟩ := key
  rw [k1, k2]
theorem Q_cold {t : Nat} {v : gCt} (p : Int32) : SQ t v (fX8_cold p) (fX9_cold p) := by
  refine SQ_p (fun M => rfl) (fun M => rfl) (fun k hk hp => ?_)
  subst hp
  refine ⟨oV (frO (fun y => skY v u0 y k) (v 0 0)), fun N hN hL => ⟨N, ?_, KP.rf⟩, fun N hN hS hV _ => ⟨N, ?_, KP.rf⟩⟩
  · have hv0 := hN.2.1.1
    dsimp only
    rw [F_firstYearWith hN rfl (by decide) (f := skY v u0) (fun y hy => (hL.1 y hy).2.2.1) (show k < 6 by omega)]
    rfl
  · have hv0 := hN.2.1.1
    simp (disch := omega) only [ix157, if_true, nI_clamp, (hV.1 k hk).2.1]
theorem Q_fails {t : Nat} {v : gCt} (p : Int32) : SQ t v (fX8_fails p) (fX9_fails p) := by
  refine SQ_p (fun M => rfl) (fun M => rfl) (fun k hk hp => ?_)
  subst hp
  refine ⟨oV (frO (fun y => goY v u0 y k) (v 0 0)), fun N hN hL => ⟨N, ?_, KP.rf⟩, fun N hN hS hV _ => ⟨N, ?_, KP.rf⟩⟩
  · have hv0 := hN.2.1.1
    dsimp only
    rw [F_firstYearWith hN rfl (by decide) (f := goY v u0) (fun y hy => (hL.1 y hy).2.1) (show k < 6 by omega)]
    rfl
  · have hv0 := hN.2.1.1
    simp (disch := omega) only [ix156, if_true, nI_clamp, (hV.1 k hk).1]
theorem F_outBits {M : gMem} {v : gCt} {u : gSp} {y n : Nat} (hv : gWF v) (ha : RA M v) (hm : MV M v u n) (hy : y < n) (hn : n ≤ 12) : fX9_outBits (nI y) M = some (gMk (v 0 4) (goY v u y)) := by
  have hv0 := hv.1
  unfold fX9_outBits fX9_outBits_0 fX9_outBits_4h
  refine gLp_for (fun i => (gMk i (goY v u y), nI i)) (v 0 4) _ (by omega) (fun i hi => ?_) ?_ _ rfl
  · show fX9_outBits_4 (nI y) (gMk i (goY v u y)) (nI i) M = _
    unfold fX9_outBits_4
    rw [F_people ha, gB0_some, if_neg (nI_ge hi (by omega)), F_out (hm.ot hy hn) (by omega) (by omega) hi, gB0_some, ite_bI, b1_eq, nI_1, Int32.or_zero]
    show _ = some (Sum.inl (gMk (i + 1) _, nI (i + 1)))
    rw [gMk_s]
    cases goY v u y i <;> rfl
  · show fX9_outBits_4 (nI y) _ (nI (v 0 4)) M = _
    unfold fX9_outBits_4
    rw [F_people ha, gB0_some, if_pos (Int32.le_refl _)]
    rfl
theorem Q_out {t : Nat} {v : gCt} (y : Int32) : SQ t v (fX8_out y) (fX9_out y) := by
  refine SQ_y (fun M => rfl) (fun M => rfl) (fun z hz hx => ?_)
  subst hx
  refine ⟨gMk (v 0 4) (goY v u0 z), fun N hN hL => ⟨N, ?_, KP.rf⟩, fun N hN hS hV _ => ⟨N, ?_, KP.rf⟩⟩
  · have hv0 := hN.2.1.1
    obtain ⟨-, hY, -⟩ := hL.1 z hz
    simp (disch := omega) only [ix20, if_true, nI_clamp, hY]
    rw [gMk_np (by omega) (goY_lt v u0 z)]
  · dsimp only
    rw [F_outBits hN.2.1 hN.2.2.2.1 hV hz hN.2.1.1.1]
    rfl
theorem F_funds0 {M : gMem} {v : gCt} {u : gSp} {y n : Nat} {f : Nat → Bool} (hv : gWF v) (ha : RA M v) (hm : MV M v u n) (hy : y < n) (hn : n ≤ 12) (hf : ∀ q, q < 6 → f q = true → q < v 0 4) : fX9_fundsOf (gMk 6 f) (nI y) M = some (smI 6 f (woY v u y)) :=
  F_fundsOf hv ha (by omega) (fun q hq => (hm.1 q hq).2.2 y (by omega) (by omega)) hf
theorem C_worthOf {M : gMem} {v : gCt} {u : gSp} {y n : Nat} {f : Nat → Bool} (hL : LVd M v u n) (hy : y < n) (hn : n ≤ 12) (hf : ∀ q, q < 6 → f q = true → q < v 0 4) : fX2_worthOf (gMk 6 f) (nI y) M = some (smI 6 f (woY v u y)) := by
  rw [F_worthOf (by omega)]
  congr 1
  exact smI_ext (fun _ _ => rfl) (fun k hk h => (hL.1 y hy).2.2.2.1 k (hf k hk h))
theorem fmY_lt {v : gCt} {u : gSp} (hv : gWF v) {y p : Nat} (hp : p < v 0 4) : ∀ q, q < 6 → fmO (tiY v u y) p q = true → q < v 0 4 := fun q hq h => by
  rw [tiY_eq] at h
  exact fm_lt (gl_ok hv u) hp hq h
theorem Q_funds {t : Nat} {v : gCt} (p y : Int32) : SQ t v (fX8_funds p y) (fX9_funds p y) := by
  refine SQ_py (fun M => rfl) (fun M => rfl) (fun k z hk hz hp hx => ?_)
  subst hp; subst hx
  refine ⟨if goY v u0 z k = true then -10000 else smI 6 (fmO (tiY v u0 z) k) (woY v u0 z), fun N hN hL => ⟨N, ?_, KP.rf⟩, fun N hN hS hV _ => ⟨N, ?_, KP.rf⟩⟩
  · have hv0 := hN.2.1.1
    obtain ⟨-, -, -, -, -, hY⟩ := hL.1 z hz
    dsimp only
    rw [ix48 (by omega), if_pos rfl, nI_clamp (by omega), ra48, ixF (by omega) (by omega), if_pos rfl, nI_clamp (by omega), hY k (by omega)]
    cases hg : goY v u0 z k
    · rw [fiR_in hk hg, if_neg (gMk_ne0 (by omega) (show k < 6 by omega) (fmO_self _ k)), C_worthOf hL hz hN.2.1.1.1 (fmY_lt hN.2.1 hk)]
      rfl
    · rw [fiR_no hg, if_pos rfl]
      rfl
  · have hv0 := hN.2.1.1
    dsimp only
    rw [F_out (hV.ot hz hN.2.1.1.1) (by omega) (by omega) hk, gB0_some, ite_bI]
    cases hg : goY v u0 z k
    · rw [M_firmOf hN.2.1 hN.2.2.2.1 hV hz hN.2.1.1.1 hk, gB0_some]
      rw [fiR_in hk hg, F_funds0 hN.2.1 hN.2.2.2.1 hV hz hN.2.1.1.1 (fmY_lt hN.2.1 hk)]
      rfl
    · rfl
theorem all_k : ∀ n, n < 31 → (1 : Int32) <<< (nI n &&& 31) - 1 = gMk n (fun _ => true) := allOf_k
theorem gMk_n6 {n : Nat} (hn : n ≤ 6) (f : Nat → Bool) : gMk n f = gMk 6 (fun k => decide (k < n) && f k) := by
  refine gMk_of (by omega) (fun k hk => ?_) (fun k hk _ => ?_)
  · rw [bt_gMk (by omega)]
  · rw [bt_gMk (by omega), decide_eq_false (by omega), Bool.false_and]
theorem Q_total {t : Nat} {v : gCt} (y : Int32) : SQ t v (fX8_total y) (fX9_total y) := by
  refine SQ_y (fun M => rfl) (fun M => rfl) (fun z hz hx => ?_)
  subst hx
  have hf : ∀ q, q < 6 → (decide (q < v 0 4) && !goY v u0 z q) = true → q < v 0 4 := fun q _ h => by
    rw [Bool.and_eq_true] at h
    exact of_decide_eq_true h.1
  refine ⟨smI 6 (fun q => decide (q < v 0 4) && !goY v u0 z q) (woY v u0 z), fun N hN hL => ⟨N, ?_, KP.rf⟩, fun N hN hS hV _ => ⟨N, ?_, KP.rf⟩⟩
  · have hv0 := hN.2.1.1
    obtain ⟨-, hY, -⟩ := hL.1 z hz
    dsimp only
    rw [if_pos (gob_T hN), tn_np hN, F_allOf (by omega), gB0_some, ix20 (by omega), if_pos rfl, nI_clamp (by omega), hY, gMk_all (by omega), gMk_andn (by omega), C_worthOf hL hz hN.2.1.1.1 hf]
    rfl
  · have hv0 := hN.2.1.1
    dsimp only
    rw [F_people hN.2.2.2.1, gB0_some, F_outBits hN.2.1 hN.2.2.2.1 hV hz hN.2.1.1.1, gB0_some, all_k _ (by omega), gMk_all (by omega), ← gMk_np (by omega) (goY_lt v u0 z), gMk_andn (by omega), F_funds0 hN.2.1 hN.2.2.2.1 hV hz hN.2.1.1.1 hf]
    rfl
theorem Q_singles {t : Nat} {v : gCt} (y : Int32) : SQ t v (fX8_singles y) (fX9_singles y) := by
  refine SQ_y (fun M => rfl) (fun M => rfl) (fun z hz hx => ?_)
  subst hx
  refine ⟨gMk (v 0 4) (fun p => decide (fiR (v 0 4) (tiY v u0 z) (goY v u0 z) p = b1 p)), fun N hN hL => ⟨N, ?_, KP.rf⟩, fun N hN hS hV _ => ⟨N, ?_, KP.rf⟩⟩
  · have hv0 := hN.2.1.1
    obtain ⟨-, -, -, -, -, hY⟩ := hL.1 z hz
    unfold fX8_singles_22h
    refine gLp_for (fun i => (gMk i (fun p => decide (fiR (v 0 4) (tiY v u0 z) (goY v u0 z) p = b1 p)), nI i)) (v 0 4) _ (by omega) (fun i hi => ?_) ?_ _ rfl
    · show fX8_singles_22 (nI z) (gMk i _) (nI i) N = _
      unfold fX8_singles_22
      rw [if_pos (gob_T hN), tn_np hN, if_neg (nI_ge hi (by omega)), ix48 (by omega), if_pos rfl, nI_clamp (by omega), ra48, ixF (by omega) (by omega), if_pos rfl, nI_clamp (by omega), hY i (by omega), nI_1, b1_eq]
      show _ = some (Sum.inl (gMk (i + 1) _, nI (i + 1)))
      rw [gMk_s]
      by_cases c : fiR (v 0 4) (tiY v u0 z) (goY v u0 z) i = b1 i <;> simp [c]
    · show fX8_singles_22 (nI z) _ (nI (v 0 4)) N = _
      unfold fX8_singles_22
      rw [if_pos (gob_T hN), tn_np hN, if_pos (Int32.le_refl _)]
      rfl
  · have hv0 := hN.2.1.1
    unfold fX9_singles_24h
    refine gLp_for (fun i => (gMk i (fun p => decide (fiR (v 0 4) (tiY v u0 z) (goY v u0 z) p = b1 p)), nI i)) (v 0 4) _ (by omega) (fun i hi => ?_) ?_ _ rfl
    · show fX9_singles_24 (nI z) (gMk i _) (nI i) N = _
      unfold fX9_singles_24
      rw [F_people hN.2.2.2.1, gB0_some, if_neg (nI_ge hi (by omega)), M_firmOf hN.2.1 hN.2.2.2.1 hV hz hN.2.1.1.1 hi, gB0_some, nI_1, b1_eq, Int32.or_zero]
      show _ = some (Sum.inl (gMk (i + 1) _, nI (i + 1)))
      rw [gMk_s]
      by_cases c : fiR (v 0 4) (tiY v u0 z) (goY v u0 z) i = b1 i <;> simp [c]
    · show fX9_singles_24 (nI z) _ (nI (v 0 4)) N = _
      unfold fX9_singles_24
      rw [F_people hN.2.2.2.1, gB0_some, if_pos (Int32.le_refl _)]
      rfl
