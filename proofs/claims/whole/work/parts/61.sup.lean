/-! What is supposed: one thing alone; who shaves; guards; who sneezes. -/
def uS (k : Nat) (f : Nat → Bool) : gSp := fun i p => if i = k then f p else false
theorem F_liveU {M : gMem} {t n : Nat} {v : gCt} {u : gSp} (h : CT M t v) (hs : SU M u) (hn : n ≤ 12) : ∃ N, fX2_live t (nI n) M = some N ∧ LVd N v u n ∧ CT N t v ∧ KP M N := by
  obtain ⟨K, k1, k2, k3⟩ := F_live (gTn_of h.1.2) h.2.1 h.2.2.1 hs hn
  have kK := k3.kp (by omega) (by omega)
  exact ⟨K, k1, k2, h.kp kK, kK⟩
theorem C_sup {M : gMem} {t : Nat} {v : gCt} (h : CT M t v) {k : Nat} {f : Nat → Bool} {x : Int32} (hk : (k = 0 ∧ x = gMk 7 f) ∨ ((k = 2 ∨ k = 3 ∨ k = 4) ∧ x = gMk 6 f)) : ∃ M1, fX2_supposeNothing M = some M1 ∧ SU (gSI M1 14 k x) (uS k f) ∧ CT (gSI M1 14 k x) t v ∧ KP M (gSI M1 14 k x) := by
  obtain ⟨N, n1, n2, n3, n4, n5⟩ := F_sn M
  have kN : KP M N := ⟨fun q hq => n3 q (by have := scr_no hq; omega), fun j _ => by rw [n3 141 (by omega)], fun q _ _ => by rw [n5], by rw [n5]⟩
  have kS : KP N (gSI N 14 k x) := (Fr.si (lo := 14) (hi := 15) (by omega) (by omega)).kp (by omega) (by omega)
  refine ⟨N, n1, ?_, h.kp (kN.tr kS), kN.tr kS⟩
  obtain ⟨s0, s1, s2, s3, s4⟩ := n2
  have r : ∀ j, j ≠ k → (gSI N 14 k x).1 14 j = N.1 14 j := fun j hj => gSI_nj hj
  have e : (gSI N 14 k x).1 14 k = x := gSI_eq
  rcases hk with ⟨rfl, hx⟩ | ⟨rfl | rfl | rfl, hx⟩
  · exact ⟨by rw [e, hx]; rfl, by rw [r 1 (by omega)]; exact s1, by rw [r 2 (by omega)]; exact s2, by rw [r 3 (by omega)]; exact s3, by rw [r 4 (by omega)]; exact s4⟩
  · exact ⟨by rw [r 0 (by omega)]; exact s0, by rw [r 1 (by omega)]; exact s1, by rw [e, hx]; rfl, by rw [r 3 (by omega)]; exact s3, by rw [r 4 (by omega)]; exact s4⟩
  · exact ⟨by rw [r 0 (by omega)]; exact s0, by rw [r 1 (by omega)]; exact s1, by rw [r 2 (by omega)]; exact s2, by rw [e, hx]; rfl, by rw [r 4 (by omega)]; exact s4⟩
  · exact ⟨by rw [r 0 (by omega)]; exact s0, by rw [r 1 (by omega)]; exact s1, by rw [r 2 (by omega)]; exact s2, by rw [r 3 (by omega)]; exact s3, by rw [e, hx]; rfl⟩
theorem M_sup {M : gMem} {t : Nat} {v : gCt} (h : CT M t v) {j k : Nat} {f : Nat → Bool} {x : Int32} (hk : (j = 25 ∧ k = 0 ∧ x = gMk 7 f) ∨ (j = 26 ∧ k = 4 ∧ x = gMk 6 f) ∨ (j = 27 ∧ k = 2 ∧ x = gMk 6 f) ∨ (j = 31 ∧ k = 3 ∧ ∃ p, p < v 0 4 ∧ x = nI p ∧ ∀ q, f q = decide (q = p))) : ∃ N, fX9_lays M = some N ∧ MS (gSI N 141 j x) v (uS k f) [] ∧ (gSI N 141 j x).1 141 24 = nI (v 0 1) ∧ CT (gSI N 141 j x) t v ∧ KP M (gSI N 141 j x) := by
  obtain ⟨N, n1, n2, n3, n4, n5, n6⟩ := F_lays h
  have hj : j = 25 ∨ j = 26 ∨ j = 27 ∨ j = 31 := by
    rcases hk with h | h | h | h
    · exact Or.inl h.1
    · exact Or.inr (Or.inl h.1)
    · exact Or.inr (Or.inr (Or.inl h.1))
    · exact Or.inr (Or.inr (Or.inr h.1))
  have kS : KP N (gSI N 141 j x) := KP.s141 (by omega)
  have r : ∀ i, i ≠ j → (gSI N 141 j x).1 141 i = N.1 141 i := fun i hi => gSI_nj hi
  have e : (gSI N 141 j x).1 141 j = x := gSI_eq
  obtain ⟨c1, c2, ⟨m1, m2, m3, m4⟩, c4, c5⟩ := n2
  have bb : BE (gSI N 141 j x) v (uS k f) [] := by
    rcases c4 with ⟨b1, -⟩ | ⟨p, q, yy, -, -, -, -, -, -, -, b8⟩
    · exact Or.inl ⟨by rw [r 30 (by omega)]; exact b1, rfl⟩
    · cases b8
  have cb0 : (∀ q, uS k f 3 q = false) → j ≠ 31 → CB (gSI N 141 j x) (v 0 4) (uS k f) := fun h3 hne => by
    obtain ⟨x0, x1, x2, x3⟩ := c5
    refine ⟨x0, x1, by rw [r 31 (by omega)]; exact x2, fun p hp => ?_⟩
    rw [h3, ← x3 p hp]; rfl
  refine ⟨N, n1, ⟨RA_same c1 (fun q _ _ => gSI_ne (by omega)), RC_same c2 (fun q _ _ => gSI_ne (by omega)), ?_, bb, ?_⟩, by rw [r 24 (by omega)]; exact n3, n4.kp kS, n5.tr kS⟩
  · rcases hk with ⟨rfl, rfl, hx⟩ | ⟨rfl, rfl, hx⟩ | ⟨rfl, rfl, hx⟩ | ⟨rfl, rfl, -⟩
    · exact ⟨by rw [e, hx]; rfl, by rw [r 26 (by omega)]; exact m2, by rw [r 27 (by omega)]; exact m3, by rw [r 32 (by omega)]; exact m4⟩
    · exact ⟨by rw [r 25 (by omega)]; exact m1, by rw [e, hx]; rfl, by rw [r 27 (by omega)]; exact m3, by rw [r 32 (by omega)]; exact m4⟩
    · exact ⟨by rw [r 25 (by omega)]; exact m1, by rw [r 26 (by omega)]; exact m2, by rw [e, hx]; rfl, by rw [r 32 (by omega)]; exact m4⟩
    · exact ⟨by rw [r 25 (by omega)]; exact m1, by rw [r 26 (by omega)]; exact m2, by rw [r 27 (by omega)]; exact m3, by rw [r 32 (by omega)]; exact m4⟩
  · rcases hk with ⟨rfl, rfl, hx⟩ | ⟨rfl, rfl, hx⟩ | ⟨rfl, rfl, hx⟩ | ⟨rfl, rfl, p, hp, hx, hf⟩
    · exact cb0 (fun q => rfl) (by omega)
    · exact cb0 (fun q => rfl) (by omega)
    · exact cb0 (fun q => rfl) (by omega)
    · refine ⟨some p, fun z hz => (by cases hz; exact hp), by rw [e, hx]; rfl, fun q _ => ?_⟩
      show f q = _
      rw [hf q]
      exact decide_eq_decide.mpr ⟨fun h => by rw [h], fun h => by cases h; rfl⟩
theorem M_runU {M : gMem} {t n : Nat} {v : gCt} {u : gSp} (h : CT M t v) (hs : MS M v u []) (hn : n ≤ 12) : ∃ N, fX9_runs (nI n - 1) M = some N ∧ MS N v u [] ∧ MV N v u n ∧ CT N t v ∧ KP M N ∧ (∀ j, N.1 141 j = M.1 141 j) := by
  obtain ⟨K, k1, k2, k3⟩ := F_runs h.2.1 (WV_rf h.2.1 u) hs hn (gl_1000 h.2.1 u)
  exact ⟨K, k1, hs.yf k3, k2, h.kp k3.kp, k3.kp, fun j => by rw [k3.1 141 (by omega)]⟩
theorem M_runsY {M : gMem} {t : Nat} {v : gCt} {u : gSp} (h : CT M t v) (hs : MS M v u []) : ∃ N, fX9_runs_ M = some N ∧ MS N v u [] ∧ MV N v u (v 0 0) ∧ CT N t v ∧ KP M N ∧ (∀ j, N.1 141 j = M.1 141 j) := by
  obtain ⟨N, n1, n2⟩ := M_runU h hs h.2.1.1.1
  unfold fX9_runs_ fX9_runs__0
  rw [F_years h.2.2.2.1, gB0_some, n1]
  exact ⟨N, rfl, n2⟩
theorem one_1 : nI 1 - 1 = (0 : Int32) := by decide
/-! two who shave -/
def shF (p q : Nat) (a b : Bool) (k : Nat) : Bool := (a && decide (k = p)) || (b && decide (k = q))
theorem shF_eq : ∀ a b : Bool, ∀ p, p < 6 → ∀ q, q < 6 → (bI a <<< (nI p &&& 31)) ||| (bI b <<< (nI q &&& 31)) = gMk 6 (shF p q a b) := by decide +kernel
def paO (v : gCt) (p q : Nat) (a b : Bool) : Int32 := woY v (uS 4 (shF p q a b)) (v 0 0 - 1) p - 3 * bI a
theorem shF_sy (p q : Nat) (a b : Bool) : shF p q a b = shF q p b a := by
  funext k
  unfold shF
  rw [Bool.or_comm]
theorem C_lastWorth {M : gMem} {t p : Nat} {v : gCt} {u : gSp} (h : CT M t v) (hL : LVd M v u (v 0 0)) (hy : 0 < v 0 0) (hp : p < v 0 4) : fX8_lastWorth (nI p) M = some (woY v u (v 0 0 - 1) p) := by
  have hv0 := h.2.1.1
  unfold fX8_lastWorth fX8_lastWorth_0
  have e : nI (v 0 0) - 1 = nI (v 0 0 - 1) := by
    rw [show (1 : Int32) = nI 1 from rfl, pk_sub (by omega)]
  rw [if_pos (gob_T h), if_pos (gob_T h), tn_ny h, e, h.1.1, F_hasYear h.2.1 h.2.2.1, gB0_some, ite_bI, inR_nI (by omega), decide_eq_true (show v 0 0 - 1 < v 0 0 by omega), if_pos rfl, ix22 (by omega), if_pos rfl, nI_clamp (by omega), ra22, ixW (by omega) (by omega), if_pos rfl, nI_clamp (by omega), (hL.1 (v 0 0 - 1) (by omega)).2.2.2.1 p hp]
theorem C_payOf {M : gMem} {t p q : Nat} {v : gCt} (h : CT M t v) (hy : 0 < v 0 0) (hp : p < v 0 4) (hq : q < v 0 4) (a b : Bool) : ∃ N, fX8_payOf (nI p) (nI q) (bI a) (bI b) M = some (paO v p q a b, N) ∧ CT N t v ∧ KP M N := by
  have hv0 := h.2.1.1
  obtain ⟨M1, m1, m2, m3, m4⟩ := C_sup h (k := 4) (f := shF p q a b) (Or.inr ⟨Or.inr (Or.inr rfl), shF_eq a b p (by omega) q (by omega)⟩)
  obtain ⟨N, n1, n2, n3, n4⟩ := F_liveU m3 m2 hv0.1
  unfold fX8_payOf fX8_payOf_0 fX8_payOf_27
  rw [m1, gB0_some, if_pos (gob_T m3), if_pos (gob_T m3), tn_ny m3, m3.1.1, n1, gB0_some, C_lastWorth n3 n2 hy hp]
  exact ⟨N, rfl, n3, m4.tr n4⟩
theorem M_getsBy {M : gMem} {t p q : Nat} {v : gCt} (h : CT M t v) (hy : 0 < v 0 0) (hp : p < v 0 4) (hq : q < v 0 4) (hpq : p ≠ q) (a b : Bool) (w : Bool) : ∃ N, fX9_getsBy (nI (if w = true then p else q)) (nI p) (nI q) (bI a) (bI b) M = some (if w = true then paO v p q a b else paO v q p b a, N) ∧ CT N t v ∧ KP M N := by
  have hv0 := h.2.1.1
  obtain ⟨M1, m1, m2, m3, m4, m5⟩ := M_sup h (j := 26) (k := 4) (f := shF p q a b) (Or.inr (Or.inl ⟨rfl, rfl, shF_eq a b p (by omega) q (by omega)⟩))
  obtain ⟨N, n1, n2, n3, n4, n5, n6⟩ := M_runsY m4 m2
  have e : ∀ o, o < v 0 4 → (12 : Int32) * nI o + nI (v 0 0) - 1 = nI (12 * o + (v 0 0 - 1)) := fun o ho => by
    rw [li12, pk_mul, nI_add, show (1 : Int32) = nI 1 from rfl, pk_sub (by omega)]
    congr 1; omega
  have hw : ∀ o, o < v 0 4 → N.1 158 (12 * o + (v 0 0 - 1)) = woY v (uS 4 (shF p q a b)) (v 0 0 - 1) o := fun o ho => (n3.1 o ho).2.2 _ (by omega) (by omega)
  refine ⟨N, ?_, n4, m5.tr n5⟩
  unfold fX9_getsBy fX9_getsBy_0 fX9_getsBy_18
  rw [m1, gB0_some, n1, gB0_some, F_years n4.2.2.2.1, gB0_some]
  cases w
  · simp only [Bool.false_eq_true, if_false]
    rw [e q hq, ix158 (by omega), if_pos rfl, nI_clamp (by omega), hw q hq]
    simp (disch := omega) only [nI_eq]
    rw [if_neg (fun h => hpq h.symm)]
    unfold paO
    rw [shF_sy q p]
  · simp only [if_true]
    rw [e p hp, ix158 (by omega), if_pos rfl, nI_clamp (by omega), hw p hp]
    rfl
theorem gBp_id {α β : Type} (x : Option (α × β)) : gBp x (fun r N => some (r, N)) = x := by cases x <;> rfl
theorem inH_or (x : Int32) : (x = 0 ∨ x = 1) ∨ ¬ (x = 0 ∨ x = 1) := Classical.em _
theorem C_isEither (x : Int32) (M : gMem) : fX8_isEither x M = some (bI (decide (x = 0) || decide (x = 1))) := by
  unfold fX8_isEither fX8_isEither_0
  by_cases h1 : x = 0
  · rw [if_pos h1, decide_eq_true h1]; rfl
  · rw [if_neg h1, decide_eq_false h1, Bool.false_or]
    by_cases h2 : x = 1
    · rw [if_pos h2, decide_eq_true h2]; rfl
    · rw [if_neg h2, decide_eq_false h2]; rfl
theorem in01 (x : Int32) : (decide ((0 : Int) ≤ x.toInt) && decide (x.toInt ≤ 1)) = (decide (x = 0) || decide (x = 1)) := by
  have e0 : x = 0 ↔ x.toInt = 0 := ⟨fun h => by rw [h]; rfl, fun h => Int32.toInt_inj.mp (h.trans rfl)⟩
  have e1 : x = 1 ↔ x.toInt = 1 := ⟨fun h => by rw [h]; rfl, fun h => Int32.toInt_inj.mp (h.trans rfl)⟩
  refine Bool.eq_iff_iff.mpr ?_
  simp only [Bool.and_eq_true, Bool.or_eq_true, decide_eq_true_eq, e0, e1]
  omega
theorem M_isHalf (x : Int32) (M : gMem) : fX9_isHalf x M = some (bI (decide (x = 0) || decide (x = 1))) := by
  unfold fX9_isHalf fX9_isHalf_0
  rw [F_in, gB0_some, Int32.toInt_toInt64, if_pos (bI_z _), ← in01]
  rfl
theorem half_b {x : Int32} (h : (decide (x = 0) || decide (x = 1)) = true) : ∃ a, x = bI a := by
  rw [Bool.or_eq_true, decide_eq_true_eq, decide_eq_true_eq] at h
  rcases h with h | h
  · exact ⟨false, h⟩
  · exact ⟨true, h⟩
theorem y_pos {v : gCt} (hyo : yOK v) {p : Nat} (hp : p < v 0 4) : 0 < v 0 0 := by
  rcases Nat.eq_zero_or_pos (v 0 0) with h | h
  · have := (hyo h).1; omega
  · exact h
theorem Q_gets {t : Nat} {v : gCt} (hyo : yOK v) (p q x y : Int32) : SQ t v (fX8_gets p q x y) (fX9_gets p q x y) := by
  refine SQ_g (b := inP v p q && ((decide (x = 0) || decide (x = 1)) && (decide (y = 0) || decide (y = 1)))) (e := -10000) (F := fX8_payOf p q x y) (G := fX9_getsBy p p q x y) (fun M hM => ?_) (fun M hM => ?_) (fun hb => ?_)
  · unfold fX8_gets fX8_gets_0
    rw [if_pos (gob_T hM), hM.1.1, F_hasPair hM.2.1 hM.2.2.1, gB0_some, ite_bI, C_isEither, C_isEither, gB0_some, gB0_some, ite_bI, ite_bI, gBp_id]
    cases inP v p q <;> cases (decide (x = 0) || decide (x = 1)) <;> cases (decide (y = 0) || decide (y = 1)) <;> rfl
  · have hN := hM.kp (kp0 M)
    unfold fX9_gets fX9_gets_0 fX9_gets_8
    rw [M_areTwo hN.2.1 hN.2.2.2.1, gB0_some, ite_bI, M_isHalf, M_isHalf, gB0_some, gB0_some, ite_bI, ite_bI, gBp_id]
    cases inP v p q <;> cases (decide (x = 0) || decide (x = 1)) <;> cases (decide (y = 0) || decide (y = 1)) <;> rfl
  · rw [Bool.and_eq_true, Bool.and_eq_true] at hb
    obtain ⟨k, l, h1, h2, h3, rfl, rfl⟩ := inP_k hb.1
    obtain ⟨a, rfl⟩ := half_b hb.2.1
    obtain ⟨b, rfl⟩ := half_b hb.2.2
    refine ⟨paO v k l a b, fun M hM => ?_, fun M hM => ?_⟩
    · obtain ⟨N, n1, n2, n3⟩ := C_payOf hM (y_pos hyo h1) h1 h2 a b
      exact ⟨N, n1, n3⟩
    · obtain ⟨N, n1, n2, n3⟩ := M_getsBy hM (y_pos hyo h1) h1 h2 h3 a b true
      exact ⟨N, n1, n3⟩
def rsO (v : gCt) (p q c : Nat) : Bool := decide (paO v p q (!c.testBit 0) (c.testBit 1) ≤ paO v p q (c.testBit 0) (c.testBit 1)) && decide (paO v q p (!c.testBit 1) (c.testBit 0) ≤ paO v q p (c.testBit 1) (c.testBit 0))
theorem c_bits : ∀ c, c < 4 → (nI c &&& 1 = bI (c.testBit 0) ∧ nI c >>> ((1 : Int32) &&& 31) = bI (c.testBit 1)) ∧ (nI c - nI c / 2 * 2 = bI (c.testBit 0) ∧ nI c / 2 = bI (c.testBit 1)) := by decide +kernel
theorem one_b : ∀ a : Bool, 1 - bI a = bI (!a) := by decide
theorem Q_rests {t : Nat} {v : gCt} (hyo : yOK v) (p q : Int32) : SQ t v (fX8_rests p q) (fX9_rests p q) := by
  refine SQ_g (b := inP v p q) (e := -2) (F := fX8_rests_20h p q 0 0) (G := fX9_rests_22h p q 0 0) (fun M hM => ?_) (fun M hM => ?_) (fun hb => ?_)
  · unfold fX8_rests fX8_rests_0
    rw [if_pos (gob_T hM), hM.1.1, F_hasPair hM.2.1 hM.2.2.1, gB0_some, ite_bI]
  · have hN := hM.kp (kp0 M)
    unfold fX9_rests fX9_rests_0 fX9_rests_8
    rw [M_areTwo hN.2.1 hN.2.2.2.1, gB0_some, ite_bI]
  · obtain ⟨k, l, h1, h2, h3, rfl, rfl⟩ := inP_k hb
    have hy := y_pos hyo h1
    refine ⟨gMk 4 (rsO v k l), fun M hM => ?_, fun M hM => ?_⟩
    · have key : ∃ r, fX8_rests_20h (nI k) (nI l) 0 0 M = some r ∧ (r.1 = gMk 4 (rsO v k l) ∧ KP M r.2) := by
        unfold fX8_rests_20h
        refine gLp_inv (fun i (s : Int32 × Int32 × gMem) => s.1 = gMk i (rsO v k l) ∧ s.2.1 = nI i ∧ CT s.2.2 t v ∧ KP M s.2.2) 4 (fun (r : Int32 × gMem) => r.1 = gMk 4 (rsO v k l) ∧ KP M r.2) (by omega) (fun i s hi hI => ?_) (fun s hI => ?_) _ ⟨rfl, rfl, hM, KP.rf⟩
        · obtain ⟨x3, x4, N⟩ := s
          obtain ⟨g1, g2, g3, g4⟩ := hI
          have g1 : x3 = gMk i (rsO v k l) := g1
          have g2 : x4 = nI i := g2
          have g3 : CT N t v := g3
          have g4 : KP M N := g4
          obtain ⟨⟨c1, c2⟩, -⟩ := c_bits i hi
          obtain ⟨A, a1, a2, a3⟩ := C_payOf g3 hy h1 h2 (i.testBit 0) (i.testBit 1)
          obtain ⟨B, b1, b2, b3⟩ := C_payOf a2 hy h1 h2 (!i.testBit 0) (i.testBit 1)
          obtain ⟨C, d1, d2, d3⟩ := C_payOf b2 hy h2 h1 (i.testBit 1) (i.testBit 0)
          obtain ⟨D, e1, e2, e3⟩ := C_payOf d2 hy h2 h1 (!i.testBit 1) (i.testBit 0)
          refine Or.inl ⟨(gMk (i + 1) (rsO v k l), nI (i + 1), D), ?_, rfl, rfl, e2, (((g4.tr a3).tr b3).tr d3).tr e3⟩
          show fX8_rests_20 (nI k) (nI l) x3 x4 N = _
          subst g1; subst g2
          unfold fX8_rests_20 fX8_rests_68 fX8_rests_100
          rw [li4, if_neg (nI_ge hi (by omega)), c1, c2, a1, gBp_some, one_b, b1, gBp_some]
          have fin : ∀ x y : Bool, rsO v k l i = (x && y) → (if bI x = 0 then some (Sum.inl (gMk i (rsO v k l), nI i + 1, D)) else if bI y = 0 then some (Sum.inl (gMk i (rsO v k l), nI i + 1, D)) else some (Sum.inl ((gMk i (rsO v k l) ||| ((1 : Int32) <<< (nI i &&& 31))), nI i + 1, D)) : Option (Sum (Int32 × Int32 × gMem) (Int32 × gMem))) = some (Sum.inl (gMk (i + 1) (rsO v k l), nI (i + 1), D)) := by
            intro x y hxy
            rw [ite_bI, ite_bI, b1_eq, nI_1, gMk_s, hxy]
            cases x <;> cases y <;> rfl
          by_cases p1 : paO v k l (i.testBit 0) (i.testBit 1) < paO v k l (!i.testBit 0) (i.testBit 1)
          · rw [if_pos p1, one_b]
            simp only [d1, e1, gBp_some]
            by_cases p2 : paO v l k (i.testBit 1) (i.testBit 0) < paO v l k (!i.testBit 1) (i.testBit 0)
            · rw [if_pos p2]
              exact fin false false (by unfold rsO; rw [decide_eq_false (Int32.not_le.mpr p1)]; rfl)
            · rw [if_neg p2]
              exact fin false true (by unfold rsO; rw [decide_eq_false (Int32.not_le.mpr p1)]; rfl)
          · rw [if_neg p1, one_b]
            simp only [d1, e1, gBp_some]
            by_cases p2 : paO v l k (i.testBit 1) (i.testBit 0) < paO v l k (!i.testBit 1) (i.testBit 0)
            · rw [if_pos p2]
              exact fin true false (by unfold rsO; rw [decide_eq_false (Int32.not_le.mpr p2), Bool.and_false]; rfl)
            · rw [if_neg p2]
              exact fin true true (by unfold rsO; rw [decide_eq_true (Int32.not_lt.mp p1), decide_eq_true (Int32.not_lt.mp p2)])
        · obtain ⟨x3, x4, N⟩ := s
          obtain ⟨g1, g2, g3, g4⟩ := hI
          have g2 : x4 = nI 4 := g2
          subst g2
          show ∃ r, fX8_rests_20 (nI k) (nI l) x3 (nI 4) N = _ ∧ _
          unfold fX8_rests_20
          rw [li4, if_pos (Int32.le_refl _)]
          exact ⟨_, rfl, g1, g4⟩
      obtain ⟨⟨r, K⟩, k1, k2, k3⟩ := key
      exact ⟨K, by rw [k1]; exact congrArg (fun z => some (z, K)) k2, k3⟩
    · have key : ∃ r, fX9_rests_22h (nI k) (nI l) 0 0 M = some r ∧ (r.1 = gMk 4 (rsO v k l) ∧ KP M r.2) := by
        unfold fX9_rests_22h
        refine gLp_inv (fun i (s : Int32 × Int32 × gMem) => s.1 = gMk i (rsO v k l) ∧ s.2.1 = nI i ∧ CT s.2.2 t v ∧ KP M s.2.2) 4 (fun (r : Int32 × gMem) => r.1 = gMk 4 (rsO v k l) ∧ KP M r.2) (by omega) (fun i s hi hI => ?_) (fun s hI => ?_) _ ⟨rfl, rfl, hM, KP.rf⟩
        · obtain ⟨x3, x4, N⟩ := s
          obtain ⟨g1, g2, g3, g4⟩ := hI
          have g1 : x3 = gMk i (rsO v k l) := g1
          have g2 : x4 = nI i := g2
          have g3 : CT N t v := g3
          have g4 : KP M N := g4
          obtain ⟨-, c1, c2⟩ := c_bits i hi
          obtain ⟨A, a1, a2, a3⟩ := M_getsBy g3 hy h1 h2 h3 (!i.testBit 0) (i.testBit 1) true
          obtain ⟨B, q1, q2, q3⟩ := M_getsBy a2 hy h1 h2 h3 (i.testBit 0) (i.testBit 1) true
          obtain ⟨C, d1, d2, d3⟩ := M_getsBy q2 hy h1 h2 h3 (i.testBit 0) (!i.testBit 1) false
          obtain ⟨D, e1, e2, e3⟩ := M_getsBy d2 hy h1 h2 h3 (i.testBit 0) (i.testBit 1) false
          simp only [if_true] at a1 q1
          simp only [Bool.false_eq_true, if_false] at d1 e1
          subst g1; subst g2
          refine Or.inl ?_
          show ∃ s', fX9_rests_22 (nI k) (nI l) (gMk i (rsO v k l)) (nI i) N = _ ∧ _
          unfold fX9_rests_22 fX9_rests_98 fX9_rests_99
          rw [li4, if_neg (nI_ge hi (by omega)), c1, c2, one_b, a1, gBp_some, q1, gBp_some, nI_1, b1_eq]
          have zero : (gMk i (rsO v k l) ||| (0 : Int32)) = gMk i (rsO v k l) := Int32.or_zero
          by_cases p1 : paO v k l (i.testBit 0) (i.testBit 1) < paO v k l (!i.testBit 0) (i.testBit 1)
          · rw [if_pos p1, if_pos rfl, zero]
            refine ⟨_, rfl, ?_, rfl, q2, (g4.tr a3).tr q3⟩
            show gMk i (rsO v k l) = gMk (i + 1) (rsO v k l)
            rw [gMk_s]
            unfold rsO
            rw [decide_eq_false (Int32.not_le.mpr p1)]; rfl
          · rw [if_neg p1, one_b]
            simp only [d1, e1, gBp_some]
            by_cases p2 : paO v l k (i.testBit 1) (i.testBit 0) < paO v l k (!i.testBit 1) (i.testBit 0)
            · rw [if_pos p2, if_pos trivial, zero]
              refine ⟨_, rfl, ?_, rfl, e2, (((g4.tr a3).tr q3).tr d3).tr e3⟩
              show gMk i (rsO v k l) = gMk (i + 1) (rsO v k l)
              rw [gMk_s]
              have : rsO v k l i = false := by unfold rsO; rw [decide_eq_false (Int32.not_le.mpr p2), Bool.and_false]
              rw [this]; rfl
            · rw [if_neg p2, if_neg (by decide)]
              refine ⟨_, rfl, ?_, rfl, e2, (((g4.tr a3).tr q3).tr d3).tr e3⟩
              show gMk i (rsO v k l) ||| b1 i = gMk (i + 1) (rsO v k l)
              rw [gMk_s]
              have : rsO v k l i = true := by unfold rsO; rw [decide_eq_true (Int32.not_lt.mp p1), decide_eq_true (Int32.not_lt.mp p2)]; rfl
              rw [this, if_pos rfl]
        · obtain ⟨x3, x4, N⟩ := s
          obtain ⟨g1, g2, g3, g4⟩ := hI
          have g2 : x4 = nI 4 := g2
          subst g2
          show ∃ r, fX9_rests_22 (nI k) (nI l) x3 (nI 4) N = _ ∧ _
          unfold fX9_rests_22
          rw [li4, if_pos (Int32.le_refl _)]
          exact ⟨_, rfl, g1, g4⟩
      obtain ⟨⟨r, K⟩, k1, k2, k3⟩ := key
      exact ⟨K, by rw [k1]; exact congrArg (fun z => some (z, K)) k2, k3⟩
