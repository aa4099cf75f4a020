/-! What every call keeps; questions of now. -/
def u0 : gSp := fun _ _ => false
def scr (q : Nat) : Bool := (decide (14 ≤ q) && decide (q < 66)) || (decide (q = 141) || (decide (q = 145) || (decide (155 ≤ q) && decide (q < 162))))
/-- all but what is reckoned with stays -/
def KP (M N : gMem) : Prop := (∀ q, scr q = false → N.1 q = M.1 q) ∧ (∀ j, j = 6 ∨ j = 14 ∨ j = 15 → N.1 141 j = M.1 141 j) ∧ (∀ q, q ≠ 145 → q ≠ 141 → N.2.1 q = M.2.1 q) ∧ N.2.2 = M.2.2
theorem KP.rf {M : gMem} : KP M M := ⟨fun _ _ => rfl, fun _ _ => rfl, fun _ _ _ => rfl, rfl⟩
theorem KP.tr {M N K : gMem} (h : KP M N) (g : KP N K) : KP M K := ⟨fun q hq => (g.1 q hq).trans (h.1 q hq), fun j hj => (g.2.1 j hj).trans (h.2.1 j hj), fun q h1 h2 => (g.2.2.1 q h1 h2).trans (h.2.2.1 q h1 h2), g.2.2.2.trans h.2.2.2⟩
theorem scr_no {q : Nat} (h : scr q = false) : ¬ (14 ≤ q ∧ q < 66) ∧ q ≠ 141 ∧ q ≠ 145 ∧ ¬ (155 ≤ q ∧ q < 162) := by
  unfold scr at h
  simp only [Bool.or_eq_false_iff, Bool.and_eq_false_iff, decide_eq_false_iff_not] at h
  omega
theorem Fr.kp {lo hi : Nat} {M N : gMem} (h : Fr lo hi M N) (h1 : 14 ≤ lo) (h2 : hi ≤ 66) : KP M N :=
  ⟨fun q hq => h.1 q (by have := scr_no hq; omega), fun j _ => by rw [h.1 141 (by omega)], fun q _ _ => by rw [h.2], by rw [h.2]⟩
theorem KP.s141 {M : gMem} {j : Nat} {x : Int32} (h : j ≠ 6 ∧ j ≠ 14 ∧ j ≠ 15) : KP M (gSI M 141 j x) :=
  ⟨fun q hq => gSI_ne (scr_no hq).2.1, fun k hk => gSI_nj (by omega), fun _ _ _ => rfl, rfl⟩
theorem YF.kp {M N : gMem} (h : YF M N) : KP M N := ⟨fun q hq => h.1 q (by have := scr_no hq; omega), fun j _ => by rw [h.1 141 (by omega)], fun q _ _ => by rw [h.2], by rw [h.2]⟩
/-- the city of now, on both sides -/
def CT (M : gMem) (t : Nat) (v : gCt) : Prop := (M.2.2 0 = t ∧ gOb 7 t = true) ∧ gWF v ∧ RT M t v ∧ RA M v ∧ RC M v
theorem CT.kp {M N : gMem} {t : Nat} {v : gCt} (h : CT M t v) (k : KP M N) : CT N t v := by
  obtain ⟨⟨h1, h2⟩, h3, h4, h5, h6⟩ := h
  have htl := gTn_lo (gTn_of h2)
  have ks : ∀ q, 66 ≤ q → q < 155 → q ≠ 141 → q ≠ 145 → N.1 q = M.1 q := fun q a b c d => k.1 q (by
    unfold scr
    simp only [Bool.or_eq_false_iff, Bool.and_eq_false_iff, decide_eq_false_iff_not]
    omega)
  exact ⟨⟨by rw [k.2.2.2]; exact h1, h2⟩, h3, RT_same h4 (fun i hi => ks _ (by omega) (by omega) (by omega) (by omega)), RA_same h5 (fun q a b => ks q (by omega) (by omega) (by omega) (by omega)), RC_same h6 (fun q a b => ks q (by omega) (by omega) (by omega) (by omega))⟩
/-- a question: both sides answer the same, and keep all -/
def SQ (t : Nat) (v : gCt) (f g : gMem → Option (Int32 × gMem)) : Prop := ∃ r, (∀ M, CT M t v → ∃ N, f M = some (r, N) ∧ KP M N) ∧ ∀ M, CT M t v → ∃ N, g M = some (r, N) ∧ KP M N
def SP (t : Nat) (v : gCt) (f : gMem → Option Int32) (g : gMem → Option (Int32 × gMem)) : Prop := ∃ r, (∀ M, CT M t v → f M = some r) ∧ ∀ M, CT M t v → ∃ N, g M = some (r, N) ∧ KP M N
/-- x is one of 0 .. n less 1 -/
def inR (x : Int32) (n : Nat) : Bool := decide (0 ≤ x.toInt) && decide (x.toInt < (n : Int))
def inL (x : Int64) (n : Nat) : Bool := decide (0 ≤ x.toInt) && decide (x.toInt < (n : Int))
theorem inR_k {x : Int32} {n : Nat} (h : inR x n = true) : ∃ k, k < n ∧ x = nI k := by
  unfold inR at h
  simp only [Bool.and_eq_true, decide_eq_true_eq] at h
  have hn : ¬ x < 0 := by
    intro hlt
    have := Int32.lt_iff_toInt_lt.mp hlt
    have e0 : (0 : Int32).toInt = 0 := rfl
    omega
  obtain ⟨j, hj, rfl⟩ := nI_of hn
  rw [nI_toInt hj] at h
  exact ⟨j, by omega, rfl⟩
theorem inR_nI {k n : Nat} (hk : k < 2 ^ 31) : inR (nI k) n = decide (k < n) := by
  unfold inR
  rw [nI_toInt hk, decide_eq_true (show (0 : Int) ≤ (k : Int) by omega), Bool.true_and]
  exact decide_eq_decide.mpr (by omega)
theorem inL_inR (x : Int32) (n : Nat) : inL x.toInt64 n = inR x n := by
  unfold inL inR
  rw [Int32.toInt_toInt64]
theorem lt_nI {x : Int32} {n : Nat} (hn : n < 2 ^ 31) : (nI n ≤ x) = ((n : Int) ≤ x.toInt) := propext (by rw [Int32.le_iff_toInt_le, nI_toInt hn])
theorem lt0_i {x : Int32} : (x < 0) = (x.toInt < 0) := propext (by rw [Int32.lt_iff_toInt_lt]; exact Iff.rfl)
theorem ite_in {x : Int32} {n : Nat} (hn : n < 2 ^ 31) : (if x < 0 then some (0 : Int32) else if nI n ≤ x then some 0 else some 1) = some (bI (inR x n)) := by
  simp only [lt_nI hn, lt0_i]
  unfold inR
  by_cases h1 : x.toInt < 0
  · rw [if_pos h1, decide_eq_false (by omega)]; rfl
  · rw [if_neg h1, decide_eq_true (by omega), Bool.true_and]
    by_cases h2 : (n : Int) ≤ x.toInt
    · rw [if_pos h2, decide_eq_false (by omega)]; rfl
    · rw [if_neg h2, decide_eq_true (by omega)]; rfl
theorem F_hasYear {M : gMem} {t : Nat} {v : gCt} (hv : gWF v) (hr : RT M t v) (x : Int32) : fX7_hasYear t x M = some (bI (inR x (v 0 0))) := by
  have := hv.1
  unfold fX7_hasYear fX7_hasYear_0
  rw [hr.1.2.1]
  exact ite_in (by omega)
theorem F_hasPartner {M : gMem} {t : Nat} {v : gCt} (hv : gWF v) (hr : RT M t v) (x : Int32) : fX7_hasPartner t x M = some (bI (inR x (v 0 4))) := by
  have := hv.1
  unfold fX7_hasPartner fX7_hasPartner_0
  rw [hr.1.2.2.2.2.2.1]
  exact ite_in (by omega)
theorem F_hasJoin {M : gMem} {t : Nat} {v : gCt} (hv : gWF v) (hr : RT M t v) (x : Int32) : fX7_hasJoin t x M = some (bI (inR x (v 0 5))) := by
  have := hv.1
  unfold fX7_hasJoin fX7_hasJoin_0
  rw [hr.1.2.2.2.2.2.2.1]
  exact ite_in (by omega)
theorem F_hasDoor {M : gMem} {t : Nat} {v : gCt} (hv : gWF v) (hr : RT M t v) (x : Int32) : fX7_hasDoor t x M = some (bI (inR x (v 0 6))) := by
  have := hv.1
  unfold fX7_hasDoor fX7_hasDoor_0
  rw [hr.1.2.2.2.2.2.2.2.1]
  exact ite_in (by omega)
def inP (v : gCt) (x y : Int32) : Bool := (inR x (v 0 4) && inR y (v 0 4)) && !decide (x = y)
theorem F_hasPair {M : gMem} {t : Nat} {v : gCt} (hv : gWF v) (hr : RT M t v) (x y : Int32) : fX7_hasPair t x y M = some (bI (inP v x y)) := by
  unfold fX7_hasPair fX7_hasPair_0 inP
  rw [F_hasPartner hv hr, F_hasPartner hv hr, gB0_some, gB0_some, ite_bI, ite_bI]
  cases inR x (v 0 4) <;> cases inR y (v 0 4) <;> by_cases h : x = y <;> simp [h, bI]
theorem n1_32 : ∀ n, n ≤ 64 → (nI n - 1).toInt = (n : Int) - 1 := by decide +kernel
theorem n1_64 : ∀ n, n ≤ 64 → ((nI n).toInt64 - 1).toInt = (n : Int) - 1 := by decide +kernel
theorem bI_z (b : Bool) : bI b = 0 ∨ bI b = 1 := by cases b; exact Or.inl rfl; exact Or.inr rfl
theorem in_d (a : Int) (n : Nat) : (decide ((0 : Int) ≤ a) && decide (a ≤ (n : Int) - 1)) = (decide (0 ≤ a) && decide (a < (n : Int))) := by
  congr 1
  exact decide_eq_decide.mpr (by omega)
theorem M_isYear {M : gMem} {v : gCt} (hv : gWF v) (ha : RA M v) (x : Int32) : fX9_isYear x M = some (bI (inR x (v 0 0))) := by
  have := hv.1
  unfold fX9_isYear fX9_isYear_0
  rw [F_years ha, gB0_some, F_in, gB0_some, if_pos (bI_z _), Int32.toInt_toInt64, Int32.toInt_toInt64, n1_32 _ (by omega)]
  show some (bI (decide ((0 : Int) ≤ x.toInt) && _)) = _
  rw [in_d]; rfl
theorem M_isPerson {M : gMem} {v : gCt} (hv : gWF v) (ha : RA M v) (x : Int64) : fX9_isPerson x M = some (bI (inL x (v 0 4))) := by
  have := hv.1
  unfold fX9_isPerson fX9_isPerson_0
  rw [F_people ha, gB0_some, F_in, gB0_some, if_pos (bI_z _), n1_64 _ (by omega)]
  show some (bI (decide ((0 : Int) ≤ x.toInt) && _)) = _
  rw [in_d]; rfl
theorem M_isDoor {M : gMem} {v : gCt} (hv : gWF v) (ha : RA M v) (x : Int64) : fX9_isDoor x M = some (bI (inL x (v 0 6))) := by
  have := hv.1
  obtain ⟨h1, h2⟩ := hd_at ha (k := 6) (by omega) (i := 6) rfl
  unfold fX9_isDoor fX9_isDoor_0
  rw [if_pos h1, h2, F_in, gB0_some, if_pos (bI_z _), n1_64 _ (by omega)]
  show some (bI (decide ((0 : Int) ≤ x.toInt) && _)) = _
  rw [in_d]; rfl
theorem M_isJoin {M : gMem} {v : gCt} (hv : gWF v) (ha : RA M v) (x : Int32) : fX9_isJoin x M = some (bI (inR x (v 0 5))) := by
  have := hv.1
  unfold fX9_isJoin fX9_isJoin_0
  rw [F_joins ha, gB0_some, F_in, gB0_some, if_pos (bI_z _), Int32.toInt_toInt64, Int32.toInt_toInt64, n1_32 _ (by omega)]
  show some (bI (decide ((0 : Int) ≤ x.toInt) && _)) = _
  rw [in_d]; rfl
theorem M_isThen {M : gMem} {v : gCt} (hv : gWF v) (ha : RA M v) (x y : Int32) : fX9_isThen x y M = some (bI (inR x (v 0 4) && inR y (v 0 0))) := by
  unfold fX9_isThen fX9_isThen_0
  rw [M_isPerson hv ha, M_isYear hv ha, gB0_some, gB0_some, ite_bI, ite_bI, inL_inR]
  cases inR x (v 0 4) <;> cases inR y (v 0 0) <;> rfl
theorem M_areTwo {M : gMem} {v : gCt} (hv : gWF v) (ha : RA M v) (x y : Int32) : fX9_areTwo x y M = some (bI (inP v x y)) := by
  unfold fX9_areTwo fX9_areTwo_0 inP
  rw [M_isPerson hv ha, M_isPerson hv ha, gB0_some, gB0_some, ite_bI, ite_bI, inL_inR, inL_inR]
  cases inR x (v 0 4) <;> cases inR y (v 0 4) <;> by_cases h : x = y <;> simp [h, bI]
theorem F_sn (M : gMem) : ∃ N, fX2_supposeNothing M = some N ∧ SU N u0 ∧ (∀ q, q ≠ 14 → N.1 q = M.1 q) ∧ (∀ k, 5 ≤ k → N.1 14 k = M.1 14 k) ∧ N.2 = M.2 := by
  unfold fX2_supposeNothing fX2_supposeNothing_0 fX2_supposeNothing_7 fX2_supposeNothing_12 fX2_supposeNothing_17 fX2_supposeNothing_22
  rw [if_pos (Or.inl rfl)]
  have z7 : (0 : Int32) = gMk 7 (u0 0) := gMk_0 (by omega)
  have z6 : ∀ k, (0 : Int32) = gMk 6 (u0 k) := fun k => gMk_0 (by omega)
  refine ⟨_, rfl, ⟨?_, ?_, ?_, ?_, ?_⟩, fun q hq => ?_, fun k hk => ?_, rfl⟩
  · rw [gSI_nj (by omega), gSI_nj (by omega), gSI_nj (by omega), gSI_nj (by omega), gSI_eq]; exact z7
  · rw [gSI_nj (by omega), gSI_nj (by omega), gSI_nj (by omega), gSI_eq]; rfl
  · rw [gSI_nj (by omega), gSI_nj (by omega), gSI_eq]; exact z6 2
  · rw [gSI_nj (by omega), gSI_eq]; exact z6 3
  · rw [gSI_eq]; exact z6 4
  · rw [gSI_ne hq, gSI_ne hq, gSI_ne hq, gSI_ne hq, gSI_ne hq]
  · rw [gSI_nj (by omega), gSI_nj (by omega), gSI_nj (by omega), gSI_nj (by omega), gSI_nj (by omega)]
theorem F_liveAsNow {M : gMem} {t : Nat} {v : gCt} (h : CT M t v) : ∃ N, fX8_liveAsNow M = some N ∧ LVd N v u0 (v 0 0) ∧ CT N t v ∧ KP M N := by
  obtain ⟨N, n1, n2, n3, n4, n5⟩ := F_sn M
  have kN : KP M N := ⟨fun q hq => n3 q (by have := scr_no hq; omega), fun j _ => by rw [n3 141 (by omega)], fun q _ _ => by rw [n5], by rw [n5]⟩
  have hN := h.kp kN
  have hv := hN.2.1
  obtain ⟨K, k1, k2, k3⟩ := F_live (gTn_of hN.1.2) hv hN.2.2.1 n2 hv.1.1
  unfold fX8_liveAsNow fX8_liveAsNow_0
  rw [n1, gB0_some, hN.1.1, if_pos hN.1.2, if_pos hN.1.2, hN.2.2.1.1.2.1, k1]
  have kK := kN.tr (k3.kp (by omega) (by omega))
  exact ⟨K, rfl, k2, h.kp kK, kK⟩
theorem F_lays {M : gMem} {t : Nat} {v : gCt} (h : CT M t v) : ∃ N, fX9_lays M = some N ∧ MS N v u0 [] ∧ N.1 141 24 = nI (v 0 1) ∧ CT N t v ∧ KP M N ∧ (∀ q, q ≠ 141 → N.1 q = M.1 q) := by
  obtain ⟨e1, e2⟩ := hd_at h.2.2.2.1 (k := 1) (by omega) (i := 1) rfl
  unfold fX9_lays fX9_lays_0 fX9_lays_12 fX9_lays_17 fX9_lays_22 fX9_lays_27 fX9_lays_32 fX9_lays_37
  rw [if_pos e1, e2, if_pos (Or.inr rfl)]
  have z7 : (0 : Int32) = gMk 7 (u0 0) := gMk_0 (by omega)
  have z6 : ∀ k, (0 : Int32) = gMk 6 (u0 k) := fun k => gMk_0 (by omega)
  have kp : KP M (gSI (gSI (gSI (gSI (gSI (gSI (gSI M 141 24 (nI (v 0 1))) 141 25 0) 141 26 0) 141 27 0) 141 30 (-1)) 141 31 (-1)) 141 32 1) := ((((((KP.s141 (by omega)).tr (KP.s141 (by omega))).tr (KP.s141 (by omega))).tr (KP.s141 (by omega))).tr (KP.s141 (by omega))).tr (KP.s141 (by omega))).tr (KP.s141 (by omega))
  have hN := h.kp kp
  refine ⟨_, rfl, ⟨hN.2.2.2.1, hN.2.2.2.2, ⟨?_, ?_, ?_, ?_⟩, Or.inl ⟨?_, rfl⟩, ⟨none, fun z hz => (by cases hz), ?_, fun p _ => rfl⟩⟩, ?_, hN, kp, fun q hq => ?_⟩
  · rw [gSI_nj (by omega), gSI_nj (by omega), gSI_nj (by omega), gSI_nj (by omega), gSI_nj (by omega), gSI_eq]; exact z7
  · rw [gSI_nj (by omega), gSI_nj (by omega), gSI_nj (by omega), gSI_nj (by omega), gSI_eq]; exact z6 4
  · rw [gSI_nj (by omega), gSI_nj (by omega), gSI_nj (by omega), gSI_eq]; exact z6 2
  · rw [gSI_eq]; rfl
  · rw [gSI_nj (by omega), gSI_nj (by omega), gSI_eq]
  · rw [gSI_nj (by omega), gSI_eq]; rfl
  · rw [gSI_nj (by omega), gSI_nj (by omega), gSI_nj (by omega), gSI_nj (by omega), gSI_nj (by omega), gSI_nj (by omega), gSI_eq]
  · rw [gSI_ne hq, gSI_ne hq, gSI_ne hq, gSI_ne hq, gSI_ne hq, gSI_ne hq, gSI_ne hq]
theorem WV_rf {v : gCt} (hv : gWF v) (u : gSp) : WV v v u [] := ⟨hv, (List.append_nil _).symm, fun _ _ _ _ => rfl⟩
theorem gl_1000 {v : gCt} (hv : gWF v) (u : gSp) : (gl v u).length ≤ 1000 := Nat.le_trans (gl_len hv u) (by omega)
theorem F_laysNow {M : gMem} {t : Nat} {v : gCt} (h : CT M t v) : ∃ N, fX9_laysNow M = some N ∧ MS N v u0 [] ∧ MV N v u0 (v 0 0) ∧ N.1 141 24 = nI (v 0 1) ∧ CT N t v ∧ KP M N := by
  obtain ⟨N, n1, n2, n3, n4, n5, n6⟩ := F_lays h
  have hv := h.2.1
  obtain ⟨K, k1, k2, k3⟩ := F_runs hv (WV_rf hv u0) n2 hv.1.1 (gl_1000 hv u0)
  unfold fX9_laysNow fX9_laysNow_0 fX9_runs_ fX9_runs__0
  rw [n1, gB0_some, F_years n4.2.2.2.1, gB0_some, k1]
  refine ⟨K, rfl, n2.yf k3, k2, ?_, n4.kp k3.kp, n5.tr k3.kp⟩
  rw [k3.1 141 (by omega)]; exact n3
/-- what the reference reads of its years -/
theorem MV.ot {M : gMem} {v : gCt} {u : gSp} {n y : Nat} (h : MV M v u n) (hy : y < n) (hn : n ≤ 12) : OT M (v 0 4) y (goY v u y) :=
  fun p hp => ⟨_, frO_lt (n := n) (by omega), (h.1 p hp).1, oB_fr (goY_mono v u p) hy⟩
theorem M_firmOf {M : gMem} {v : gCt} {u : gSp} {n y p : Nat} (hv : gWF v) (ha : RA M v) (h : MV M v u n) (hy : y < n) (hn : n ≤ 12) (hp : p < v 0 4) : fX9_firmOf (nI p) (nI y) M = some (fiR (v 0 4) (tiY v u y) (goY v u y) p) := by
  have hok := gl_ok hv u
  rw [F_firmOf hv ha (h.ot hy hn) (by omega) (h.2 y hy) (fun a b _ _ => tc_lt (gl_1000 hv u) y _ a b) (fun a q _ _ g => by rw [tc_ti] at g; have := tiO_in hok g; exact ⟨this.1, this.2.1⟩) hp]
  unfold fiR
  congr 1
  cases hg : goY v u y p
  · rw [if_neg (by simp), if_pos ⟨hp, rfl⟩, tiY_eq]
    exact gMk_ext (fun q hq => fmO_ext2 y _ p q hq)
  · rw [if_pos rfl, if_neg (by simp)]
