/-! How wide a firm is, through which doors it goes. -/
def yOK (v : gCt) : Prop := v 0 0 = 0 → v 0 4 = 0 ∧ v 0 5 = 0 ∧ v 0 6 = 0 ∧ v 0 9 = 0
def wiO (v : gCt) (u : gSp) (y law p : Nat) : Int32 := if goY v u y p = true then 0 else wdO v law (fmO (tiY v u y) p) (amO (gl v u) y (fmO (tiY v u y) p))
theorem amO_le (l : List gJo) (y : Nat) (f : Nat → Bool) : amO l y f ≤ l.length := List.countP_le_length
theorem C_firmWidth {M : gMem} {t : Nat} {v : gCt} {u : gSp} {n y law p : Nat} (ht : gTn t) (hv : gWF v) (hr : RT M t v) (hL : LVd M v u n) (hy : y < n) (hn : n ≤ 12) (hl : law ≤ 3) (hp : p < v 0 4) : fX2_firmWidth t (nI y) (nI p) (nI law) M = some (wiO v u y law p) := by
  have hv0 := hv.1
  have hk6 : ∀ x ∈ gl v u, okJ 6 x := fun x hx => by
    obtain ⟨a, b, c⟩ := gl_ok hv u x hx
    exact ⟨by omega, by omega, c⟩
  unfold fX2_firmWidth fX2_firmWidth_0 wiO
  rw [ix48 (by omega), if_pos rfl, nI_clamp (by omega), ra48, ixF (by omega) (by omega), if_pos rfl, nI_clamp (by omega), (hL.1 y hy).2.2.2.2.2 p (by omega)]
  cases hg : goY v u y p
  · rw [fiR_in hp hg, if_neg (gMk_ne0 (by omega) (show p < 6 by omega) (fmO_self _ p)), C_joinsAmong hL.2.2.1 (gl_len hv u) hk6 (by omega), gB0_some, F_widthOf ht hv hr hl, gB0_some]
    rfl
  · rw [fiR_no hg, if_pos rfl]
    rfl
theorem fm_go {v : gCt} {u : gSp} (hv : gWF v) {y p : Nat} (hp : goY v u y p = false) : ∀ q, q < 6 → fmO (tiY v u y) p q = true → goY v u y q = false := fun q hq h => by
  rw [tiY_eq] at h
  exact fm_aw (gl_ok hv u) hp hq h
theorem suU_0 (n : Nat) (w : Nat → Nat) : suU n (fun _ => false) w = 0 := by
  induction n with
  | zero => rfl
  | succ n ih => rw [suU, ih]; rfl
theorem amO_ext {l : List gJo} {n y : Nat} {f g : Nat → Bool} (hk : ∀ x ∈ l, okJ n x) (h : ∀ p, p < n → f p = g p) : amO l y f = amO l y g := by
  unfold amO
  induction l with
  | nil => rfl
  | cons x l ih =>
    obtain ⟨k1, k2, -, -, -⟩ := hk x List.mem_cons_self
    rw [List.countP_cons, List.countP_cons, ih (fun z hz => hk z (List.mem_cons_of_mem _ hz)), h _ k1, h _ k2]
theorem M_wideThen {M : gMem} {v : gCt} {u : gSp} {n y law p : Nat} (hv : gWF v) (ha : RA M v) (hm : MV M v u n) (hy : y < n) (hn : n ≤ 12) (hl : law ≤ 3) (hL : M.1 141 24 = nI law) (hp : p < v 0 4) : fX9_wideThen (nI p) (nI y) M = some (wiO v u y law p) := by
  have hv0 := hv.1
  unfold fX9_wideThen fX9_wideThen_0 wiO
  rw [M_firmOf hv ha hm hy hn hp, gB0_some]
  cases hg : goY v u y p
  · have e : gMk 6 (fmO (tiY v u y) p) = gMk 6 (fun q => decide (q < 6) && fmO (tiY v u y) p q) := gMk_ext (fun q hq => by rw [decide_eq_true hq, Bool.true_and])
    rw [fiR_in hp hg, e, M_joinsIn hv ha hm hy hn (fun q h => by
      rw [Bool.and_eq_true] at h
      exact fm_go hv hg q (of_decide_eq_true h.1) h.2), gB0_some, ← e]
    have e2 : amO (gl v u) y (fun q => decide (q < 6) && fmO (tiY v u y) p q) = amO (gl v u) y (fmO (tiY v u y) p) := amO_ext (gl_ok hv u) (fun q hq => by rw [decide_eq_true (show q < 6 by omega), Bool.true_and])
    have := amO_le (gl v u) y (fmO (tiY v u y) p)
    have := gl_1000 hv u
    have := gl_len hv u
    rw [e2, M_wideOf hv ha hl (by omega) hL, gB0_some, if_neg (gMk_ne0 (by omega) (show p < 6 by omega) (fmO_self _ p))]
    rfl
  · have z : (0 : Int32) = gMk 6 (fun _ => false) := gMk_0 (by omega)
    have e2 : amO (gl v u) y (fun _ => false) = 0 := by unfold amO; simp
    rw [fiR_no hg, z, M_joinsIn hv ha hm hy hn (fun q h => by cases h), gB0_some, e2, M_wideOf hv ha hl (by omega) hL, gB0_some, if_pos z.symm, suU_0, ← z]
    rfl
theorem suU_pos {n p : Nat} {f : Nat → Bool} {w : Nat → Nat} (hp : p < n) (hf : f p = true) (hw : 1 ≤ w p) : 1 ≤ suU n f w := by
  induction n with
  | zero => exact absurd hp (Nat.not_lt_zero p)
  | succ n ih =>
    rw [suU]
    by_cases e : p = n
    · subst e; rw [if_pos hf]; omega
    · have := ih (by omega); omega
theorem mxF_pos {n p : Nat} {f : Nat → Bool} {w : Nat → Nat} (hp : p < n) (hf : f p = true) (hw : 1 ≤ w p) : 1 ≤ mxF n f w := by
  induction n with
  | zero => exact absurd hp (Nat.not_lt_zero p)
  | succ n ih =>
    rw [mxF]
    by_cases e : p = n
    · subst e; rw [if_pos hf]; omega
    · have := ih (by omega)
      split <;> omega
theorem wdO_ne {v : gCt} (hv : gWF v) {law m p : Nat} {f : Nat → Bool} (hp : p < v 0 4) (hf : f p = true) : ¬ wdO v law f m = 0 := by
  have hv0 := hv.1
  have hw := (hv.2.1 p hp).1
  unfold wdO
  split
  · have := suU_pos hp hf hw
    have := wsu_le hv f _ (Nat.le_refl _)
    exact nI_ne0 (by omega) (by omega)
  · split
    · have := mxF_pos hp hf hw
      have := wmx_le hv f _ (Nat.le_refl _)
      exact nI_ne0 (by omega) (by omega)
    · split
      · have h1 : cnU 6 f ≤ 6 := cnU_le 6 f
        have h2 : 0 < cnU 6 f := by
          have := cnU_lt (n := 6) (f := fun _ => false) (g := f) (fun _ _ h => by cases h) (show p < 6 by omega) rfl hf
          omega
        exact nI_ne0 (by omega) (by omega)
      · unfold gMx
        split
        · next h =>
          intro e
          rw [e] at h
          exact absurd h (by decide)
        · decide
/-- a firm goes through a door -/
def thO (v : gCt) (u : gSp) (y law p d : Nat) : Bool := !goY v u y p && decide (wiO v u y law p ≤ nI (v 7 d))
theorem C_doorsOf {M : gMem} {t : Nat} {v : gCt} {u : gSp} {n y law p : Nat} (ht : gTn t) (hv : gWF v) (hr : RT M t v) (hL : LVd M v u n) (hy : y < n) (hn : n ≤ 12) (hl : law ≤ 3) (hp : p < v 0 4) : fX2_doorsOf t (nI y) (nI p) (nI law) M = some (gMk (v 0 6) (thO v u y law p)) := by
  have hv0 := hv.1
  have hnd := hr.1.2.2.2.2.2.2.2.1
  unfold fX2_doorsOf fX2_doorsOf_0
  rw [C_firmWidth ht hv hr hL hy hn hl hp, gB0_some]
  unfold fX2_doorsOf_17h
  refine gLp_for (fun i => (gMk i (thO v u y law p), nI i)) (v 0 6) _ (by omega) (fun i hi => ?_) ?_ _ rfl
  · show fX2_doorsOf_17 t (wiO v u y law p) (gMk i (thO v u y law p)) (nI i) M = some (Sum.inl (gMk (i + 1) (thO v u y law p), nI (i + 1)))
    unfold fX2_doorsOf_17
    rw [hnd, if_neg (nI_ge hi (by omega)), ix7 ht (by omega), if_pos rfl, nI_clamp (by omega), hr.2.2.2.1 i hi, b1_eq, nI_1, gMk_s]
    unfold thO
    cases hg : goY v u y p
    · have hne : ¬ wiO v u y law p = 0 := by
        unfold wiO
        rw [hg]
        exact wdO_ne hv hp (fmO_self _ p)
      rw [if_neg hne]
      by_cases c : nI (v 7 i) < wiO v u y law p
      · rw [if_pos c, decide_eq_false (Int32.not_le.mpr c)]; rfl
      · rw [if_neg c, decide_eq_true (Int32.not_lt.mp c)]; rfl
    · have hz : wiO v u y law p = 0 := by unfold wiO; rw [hg]; rfl
      rw [if_pos hz]; rfl
  · show fX2_doorsOf_17 t (wiO v u y law p) _ (nI (v 0 6)) M = _
    unfold fX2_doorsOf_17
    rw [hnd, if_pos (Int32.le_refl _)]
    rfl
theorem M_goesThrough {M : gMem} {v : gCt} {u : gSp} {n y law p d : Nat} (hv : gWF v) (ha : RA M v) (hm : MV M v u n) (hy : y < n) (hn : n ≤ 12) (hl : law ≤ 3) (hL : M.1 141 24 = nI law) (hp : p < v 0 4) (hd : d < v 0 6) : fX9_goesThrough (nI p) (nI d) (nI y) M = some (bI (thO v u y law p d)) := by
  have hv0 := hv.1
  unfold fX9_goesThrough fX9_goesThrough_0 thO
  rw [F_out (hm.ot hy hn) (by omega) (by omega) hp, gB0_some, ite_bI, M_wideThen hv ha hm hy hn hl hL hp, gB0_some, ix151 (by omega), if_pos rfl, nI_clamp (by omega), ha.2.2.2.1 d hd]
  cases goY v u y p
  · by_cases c : nI (v 7 d) < wiO v u y law p
    · rw [if_pos c, decide_eq_false (Int32.not_le.mpr c)]; rfl
    · rw [if_neg c, decide_eq_true (Int32.not_lt.mp c)]; rfl
  · rfl
theorem Q_wide {t : Nat} {v : gCt} (p y : Int32) : SQ t v (fX8_wide p y) (fX9_wide p y) := by
  refine SQ_py (fun M => rfl) (fun M => rfl) (fun k z hk hz hp hx => ?_)
  subst hp; subst hx
  refine ⟨wiO v u0 z (v 0 1) k, fun N hN hL => ⟨N, ?_, KP.rf⟩, fun N hN hS hV hl => ⟨N, ?_, KP.rf⟩⟩
  · have hv0 := hN.2.1.1
    dsimp only
    rw [if_pos (gob_T hN), if_pos (gob_T hN), hN.1.1, hN.2.2.1.1.2.2.1, C_firmWidth (gTn_of hN.1.2) hN.2.1 hN.2.2.1 hL hz hv0.1 hv0.2.1 hk]
    rfl
  · have hv0 := hN.2.1.1
    dsimp only
    rw [M_wideThen hN.2.1 hN.2.2.2.1 hV hz hv0.1 hv0.2.1 hl hk]
    rfl
theorem Q_passes {t : Nat} {v : gCt} (p y : Int32) : SQ t v (fX8_passes p y) (fX9_passes p y) := by
  refine SQ_py (fun M => rfl) (fun M => rfl) (fun k z hk hz hp hx => ?_)
  subst hp; subst hx
  refine ⟨gMk (v 0 6) (thO v u0 z (v 0 1) k), fun N hN hL => ⟨N, ?_, KP.rf⟩, fun N hN hS hV hl => ⟨N, ?_, KP.rf⟩⟩
  · have hv0 := hN.2.1.1
    dsimp only
    rw [if_pos (gob_T hN), if_pos (gob_T hN), hN.1.1, hN.2.2.1.1.2.2.1, C_doorsOf (gTn_of hN.1.2) hN.2.1 hN.2.2.1 hL hz hv0.1 hv0.2.1 hk]
    rfl
  · have hv0 := hN.2.1.1
    obtain ⟨e1, e2⟩ := hd_at hN.2.2.2.1 (k := 6) (by omega) (i := 6) rfl
    unfold fX9_passes_26h
    refine gLp_for (fun i => (gMk i (thO v u0 z (v 0 1) k), nI i)) (v 0 6) _ (by omega) (fun i hi => ?_) ?_ _ rfl
    · show fX9_passes_26 (nI k) (nI z) (gMk i _) (nI i) N = some (Sum.inl (gMk (i + 1) _, nI (i + 1)))
      unfold fX9_passes_26
      rw [if_pos e1, e2, if_neg (nI_ge hi (by omega)), M_goesThrough hN.2.1 hN.2.2.2.1 hV hz hv0.1 hv0.2.1 hl hk hi, gB0_some, ite_bI, b1_eq, nI_1, Int32.or_zero, gMk_s]
      cases thO v u0 z (v 0 1) k i <;> rfl
    · show fX9_passes_26 (nI k) (nI z) _ (nI (v 0 6)) N = _
      unfold fX9_passes_26
      rw [if_pos e1, e2, if_pos (Int32.le_refl _)]
      rfl
theorem Q_by {t : Nat} {v : gCt} (hyo : yOK v) (d l : Int32) : SQ t v (fX8_by d l) (fX9_by d l) := by
  refine SQ_g (b := inR d (v 0 6) && inR l 4) (e := -2) (F := fun M => gB0 (fX8_liveAsNow M) (fX8_by_32h d l 0 0)) (G := fun M => gB0 (fX9_lays M) (fun M5 => fX9_by_40 d 0 (gSI M5 141 24 l))) (fun M hM => ?_) (fun M hM => ?_) (fun hb => ?_)
  · unfold fX8_by fX8_by_0
    rw [if_pos (gob_T hM), hM.1.1, F_hasDoor hM.2.1 hM.2.2.1, gB0_some, ite_bI]
    cases inR d (v 0 6)
    · rfl
    · simp only [Bool.true_and, if_true]
      unfold inR
      have e4 : (l < 4) = (l.toInt < 4) := propext (by rw [Int32.lt_iff_toInt_lt]; exact Iff.rfl)
      simp only [lt0_i, e4]
      by_cases c1 : l.toInt < 0
      · rw [if_pos c1, decide_eq_false (by omega)]; rfl
      · rw [if_neg c1, decide_eq_true (show (0 : Int) ≤ l.toInt by omega)]
        by_cases c2 : l.toInt < 4
        · rw [if_pos c2, decide_eq_true (show l.toInt < ((4 : Nat) : Int) by omega)]; rfl
        · rw [if_neg c2, decide_eq_false (show ¬ l.toInt < ((4 : Nat) : Int) by omega)]; rfl
  · have hN := hM.kp (kp0 M)
    unfold fX9_by fX9_by_0 fX9_by_8
    rw [M_isDoor hN.2.1 hN.2.2.2.1, gB0_some, ite_bI, inL_inR, F_in, gB0_some, ite_bI, Int32.toInt_toInt64]
    have e : (decide ((0 : Int64).toInt ≤ l.toInt) && decide (l.toInt ≤ (3 : Int64).toInt)) = inR l 4 := by
      unfold inR
      have z0 : (0 : Int64).toInt = 0 := rfl
      have z3 : (3 : Int64).toInt = 3 := rfl
      rw [z0, z3]
      congr 1
      exact decide_eq_decide.mpr (by omega)
    rw [e]
    cases inR d (v 0 6) <;> cases inR l 4 <;> rfl
  · rw [Bool.and_eq_true] at hb
    obtain ⟨k, hk, rfl⟩ := inR_k hb.1
    obtain ⟨w, hw, rfl⟩ := inR_k hb.2
    have hy0 : 0 < v 0 0 := by
      rcases Nat.eq_zero_or_pos (v 0 0) with h | h
      · have := (hyo h).2.2.1; omega
      · exact h
    refine ⟨nI (cnU (v 0 4) (fun p => hdO (v 0 4) (tiY v u0 0) (goY v u0 0) p && thO v u0 0 w p k)), fun M hM => ?_, fun M hM => ?_⟩
    · obtain ⟨N, n1, n2, n3, n4⟩ := F_liveAsNow hM
      have hv0 := n3.2.1.1
      rw [n1, gB0_some]
      refine ⟨N, ?_, n4⟩
      unfold fX8_by_32h
      refine gLp_for (fun i => (nI (cnU i (fun p => hdO (v 0 4) (tiY v u0 0) (goY v u0 0) p && thO v u0 0 w p k)), nI i)) (v 0 4) _ (by omega) (fun i hi => ?_) ?_ _ rfl
      · show fX8_by_32 (nI k) (nI w) (nI (cnU i _)) (nI i) N = some (Sum.inl (nI (cnU (i + 1) _), nI (i + 1)))
        unfold fX8_by_32
        have f1 := F_isFirst (y := 0) (by omega) (show i < 6 by omega) ((n2.1 0 hy0).2.2.2.2.2 i (by omega))
        have f2 := C_doorsOf (gTn_of n3.1.2) n3.2.1 n3.2.2.1 n2 hy0 hv0.1 (show w ≤ 3 by omega) hi
        rw [nI_0] at f1 f2
        rw [if_pos (gob_T n3), tn_np n3, if_neg (nI_ge hi (by omega)), f1, gB0_some, ite_bI, if_pos (gob_T n3), n3.1.1, f2, gB0_some, F_has _ (by omega), gB0_some, ite_bI, bt_gMk (by omega), decide_eq_true hk, Bool.true_and, nI_1, nI_1, cnU_s]
        cases hdO (v 0 4) (tiY v u0 0) (goY v u0 0) i <;> cases thO v u0 0 w i k <;> rfl
      · show fX8_by_32 (nI k) (nI w) _ (nI (v 0 4)) N = _
        unfold fX8_by_32
        rw [if_pos (gob_T n3), tn_np n3, if_pos (Int32.le_refl _)]
        rfl
    · obtain ⟨N, n1, n2, n3, n4, n5, n6⟩ := F_lays hM
      have hv := hM.2.1
      have hv0 := hv.1
      rw [n1, gB0_some]
      have kL : KP N (gSI N 141 24 (nI w)) := KP.s141 (by omega)
      have hS : MS (gSI N 141 24 (nI w)) v u0 [] := by
        obtain ⟨c1, c2, c3, c4, c5⟩ := n2
        have e : ∀ j, j ≠ 24 → (gSI N 141 24 (nI w)).1 141 j = N.1 141 j := fun j hj => gSI_nj hj
        refine ⟨RA_same c1 (fun q _ _ => gSI_ne (by omega)), RC_same c2 (fun q _ _ => gSI_ne (by omega)), ?_, ?_, ?_⟩
        · unfold SM; rw [e 25 (by omega), e 26 (by omega), e 27 (by omega), e 32 (by omega)]; exact c3
        · unfold BE; rw [e 28 (by omega), e 29 (by omega), e 30 (by omega)]; exact c4
        · unfold CB; rw [e 31 (by omega)]; exact c5
      obtain ⟨K, k1, k2, k3⟩ := F_runs (n := 1) hv (WV_rf hv u0) hS (by omega) (gl_1000 hv u0)
      have z1 : nI 1 - 1 = (0 : Int32) := by decide
      rw [z1] at k1
      unfold fX9_by_40
      rw [k1, gB0_some]
      have kp := (n5.tr kL).tr k3.kp
      have hK := hM.kp kp
      refine ⟨K, ?_, kp⟩
      have hl : K.1 141 24 = nI w := by rw [k3.1 141 (by omega), gSI_eq]
      unfold fX9_by_48h
      refine gLp_for (fun i => (nI (cnU i (fun p => hdO (v 0 4) (tiY v u0 0) (goY v u0 0) p && thO v u0 0 w p k)), nI i)) (v 0 4) _ (by omega) (fun i hi => ?_) ?_ _ rfl
      · show fX9_by_48 (nI k) (nI (cnU i _)) (nI i) K = some (Sum.inl (nI (cnU (i + 1) _), nI (i + 1)))
        unfold fX9_by_48
        have f1 := M_isHead hK.2.1 hK.2.2.2.1 k2 (show 0 < 1 by omega) (by omega) hi
        have f2 := M_goesThrough hK.2.1 hK.2.2.2.1 k2 (show 0 < 1 by omega) (by omega) (show w ≤ 3 by omega) hl hi hk
        rw [nI_0] at f1 f2
        rw [F_people hK.2.2.2.1, gB0_some, if_neg (nI_ge hi (by omega)), f1, gB0_some, ite_bI, f2, gB0_some, ite_bI, nI_1, nI_1, Int32.add_zero, cnU_s]
        cases hdO (v 0 4) (tiY v u0 0) (goY v u0 0) i <;> cases thO v u0 0 w i k <;> rfl
      · show fX9_by_48 (nI k) _ (nI (v 0 4)) K = _
        unfold fX9_by_48
        rw [F_people hK.2.2.2.1, gB0_some, if_pos (Int32.le_refl _)]
        rfl
