/-! the same, by the reference -/
def oF (x : Option Nat) : Int32 := match x with
  | some z => nI z
  | none => 100000
theorem uS_none : uS 0 (fun _ => false) = u0 := funext (fun i => funext (fun p => by
  show (if i = 0 then false else false) = false
  split <;> rfl))
theorem MS_25 {M : gMem} {v : gCt} {g : Nat → Bool} (h : MS M v (uS 0 g) []) {c : Nat} (hc : c < 128) : MS (gSI M 141 25 (nI c)) v (uS 0 (tb c)) [] := by
  obtain ⟨c1, c2, ⟨m1, m2, m3, m4⟩, c4, c5⟩ := h
  have r : ∀ i, i ≠ 25 → (gSI M 141 25 (nI c)).1 141 i = M.1 141 i := fun i hi => gSI_nj hi
  have e : (gSI M 141 25 (nI c)).1 141 25 = nI c := gSI_eq
  refine ⟨RA_same c1 (fun q _ _ => gSI_ne (by omega)), RC_same c2 (fun q _ _ => gSI_ne (by omega)), ?_, ?_, ?_⟩
  · exact ⟨by rw [e, nI_tb7 c hc]; rfl, by rw [r 26 (by omega)]; exact m2, by rw [r 27 (by omega)]; exact m3, by rw [r 32 (by omega)]; exact m4⟩
  · rcases c4 with ⟨b1, -⟩ | ⟨p, q, yy, -, -, -, -, -, -, -, b8⟩
    · exact Or.inl ⟨by rw [r 30 (by omega)]; exact b1, rfl⟩
    · cases b8
  · obtain ⟨x0, x1, x2, x3⟩ := c5
    exact ⟨x0, x1, by rw [r 31 (by omega)]; exact x2, fun p hp => x3 p hp⟩
theorem M_143 {M : gMem} {v : gCt} (hv : gWF v) (ha : RA M v) (x1 x2 x3 : Int32) {c : Nat} (hc : c < 128) : fX9_laysSnips_143 x1 x2 x3 (nI c) M = some (.inl (nI (c + 1), gSI M 141 42 (if M.1 141 42 ≤ nI (waX v c) then M.1 141 42 else nI (waX v c)))) := by
  have hv0 := hv.1
  unfold fX9_laysSnips_143 fX9_laysSnips_149h
  refine gLp_for (fun i => (nI (suU i (tb c) (v 6)), nI i)) (v 0 5) _ (by omega) (fun i hi => ?_) ?_ _ rfl
  · show fX9_laysSnips_149 x1 x2 x3 (nI c) (nI (suU i (tb c) (v 6))) (nI i) M = _
    unfold fX9_laysSnips_149
    obtain ⟨q1, q2, q3⟩ := ha.2.2.1 i hi
    rw [F_joins ha, gB0_some, if_neg (nI_ge hi (by omega)), nI_tb7 c hc, F_isBit _ (by omega), bt_gMk (by omega), decide_eq_true (show i < 7 by omega), Bool.true_and, gB0_some, ite_bI]
    simp (disch := omega) only [li3, li2, pk_mul, nI_add, ix150, if_true, nI_clamp, q3]
    rw [nI_1, show (0 : Int32) = nI 0 from rfl, nI_add, Nat.add_zero]
    show _ = some (Sum.inl (nI (suU (i + 1) (tb c) (v 6)), nI (i + 1)))
    rw [suU_s]
    show (if c.testBit i = true then _ else _) = _
    cases e : c.testBit i
    · have : tb c i = false := e
      rw [this]; rfl
    · have : tb c i = true := e
      rw [this]; rfl
  · show fX9_laysSnips_149 x1 x2 x3 (nI c) _ (nI (v 0 5)) M = _
    unfold fX9_laysSnips_149 fX9_laysSnips_213
    rw [F_joins ha, gB0_some, if_pos (Int32.le_refl _)]
    show (if M.1 141 42 ≤ nI (waX v c) then _ else _) = _
    by_cases k : M.1 141 42 ≤ nI (waX v c)
    · rw [if_pos k, if_pos k, nI_1]
    · rw [if_neg k, if_neg k, nI_1]; rfl
theorem nowJ_he {v : gCt} (hv : gWF v) {j : Nat} (hj : j < v 0 5) : heO v u0 0 (goY v u0 0) j = nowJ v j := by
  unfold heO nowJ
  rw [go_y0 hv, go_y0 hv, decide_eq_true hj]
  simp
theorem anyU_f {n : Nat} {f : Nat → Bool} : anyU n f = false ↔ ∀ k, k < n → f k = false := by
  constructor
  · intro h k hk
    cases c : f k
    · rfl
    · rw [anyU_iff.mpr ⟨k, hk, c⟩] at h; cases h
  · intro h
    cases c : anyU n f
    · rfl
    · obtain ⟨k, hk, c⟩ := anyU_iff.mp c
      rw [h k hk] at c; cases c
theorem sub_z {v : gCt} (hv : gWF v) {c : Nat} (hc : c < 128) : (nI c &&& (gMk (v 0 5) (nowJ v) ^^^ (-1 : Int32)) = 0) = (subJ v c = true) := by
  have hv0 := hv.1
  rw [gMk_up (m := 7) (by omega) (by omega) (fun k h1 _ => by unfold nowJ; rw [decide_eq_false (by omega), Bool.false_and]), nI_tb7 c hc, gMk_andn (by omega)]
  refine propext ((gMk_eq0 (by omega) _).trans ⟨fun h => ?_, fun h k hk => ?_⟩)
  · unfold subJ
    have : anyU 7 (fun k => tb c k && !nowJ v k) = false := anyU_f.mpr h
    rw [this]; rfl
  · unfold subJ at h
    have h : anyU 7 (fun k => tb c k && !nowJ v k) = false := by simpa using h
    exact anyU_f.mp h k hk
theorem oF_step {w : Nat → Nat} {ok : Nat → Bool} {n : Nat} (hw : ∀ k, w k < 100000) (h : ok n = true) : (if oF (mnW w ok n) ≤ nI (w n) then oF (mnW w ok n) else nI (w n)) = oF (mnW w ok (n + 1)) := by
  rw [mnW_s]
  cases hm : mnW w ok n with
  | none =>
    have : ¬ oF none ≤ nI (w n) := nI_ge (b := 100000) (hw n) (by omega)
    rw [if_neg this]
    show _ = oF (if ok n = true then some (w n) else none)
    rw [if_pos h]; rfl
  | some m =>
    obtain ⟨⟨k, -, -, k3⟩, -⟩ := mnW_some hm
    have hm2 := hw k
    have hn2 := hw n
    show (if nI m ≤ nI (w n) then nI m else nI (w n)) = oF (if w n < m ∧ ok n = true then some (w n) else some m)
    by_cases c : w n < m
    · rw [if_neg (nI_ge c (by omega)), if_pos ⟨c, h⟩]; rfl
    · rw [if_pos (nI_le (by omega) (by omega)), if_neg (fun x => c x.1)]; rfl
theorem waX_lt {v : gCt} (hv : gWF v) (k : Nat) : waX v k < 100000 := by
  have hv0 := hv.1
  have := suU_le (n := v 0 5) (k := 9) (f := tb k) (w := v 6) (fun q hq => (hv.2.2.1 q hq).2.2.2.2)
  unfold waX
  omega
def scA (v : gCt) (p q c : Nat) : Bool := subJ v c && cuA v p q c
/-- what the reference has laid after i cuts -/
def LI (M N : gMem) (t : Nat) (v : gCt) (p q i : Nat) : Prop :=
  (∃ g, MS N v (uS 0 g) []) ∧ N.1 141 41 = oV (leC (fun s => cnU 7 (tb s)) (scA v p q) i) ∧ N.1 141 42 = oF (mnW (waX v) (scA v p q) i) ∧ CT N t v ∧ KP M N
theorem MS.s141 {M : gMem} {v : gCt} {u : gSp} (h : MS M v u []) {j : Nat} {x : Int32} (hj : j = 41 ∨ j = 42) : MS (gSI M 141 j x) v u [] := by
  obtain ⟨c1, c2, ⟨m1, m2, m3, m4⟩, c4, c5⟩ := h
  have r : ∀ i, i < 41 → (gSI M 141 j x).1 141 i = M.1 141 i := fun i hi => gSI_nj (by omega)
  refine ⟨RA_same c1 (fun q _ _ => gSI_ne (by omega)), RC_same c2 (fun q _ _ => gSI_ne (by omega)), ⟨by rw [r 25 (by omega)]; exact m1, by rw [r 26 (by omega)]; exact m2, by rw [r 27 (by omega)]; exact m3, by rw [r 32 (by omega)]; exact m4⟩, ?_, ?_⟩
  · rcases c4 with ⟨b1, b2⟩ | ⟨p, q, yy, -, -, -, -, -, -, -, b8⟩
    · exact Or.inl ⟨by rw [r 30 (by omega)]; exact b1, b2⟩
    · cases b8
  · obtain ⟨x0, x1, x2, x3⟩ := c5
    exact ⟨x0, x1, by rw [r 31 (by omega)]; exact x2, x3⟩
theorem M_64 {M N : gMem} {t p q i : Nat} {v : gCt} (h : LI M N t v p q i) (hp : p < v 0 4) (hq : q < v 0 4) (hi : i < 2 ^ v 0 5) : ∃ K, fX9_laysSnips_64 (nI p) (nI q) (gMk (v 0 5) (nowJ v)) (nI i) N = some (.inl (nI (i + 1), K)) ∧ LI M K t v p q (i + 1) := by
  obtain ⟨⟨g, h1⟩, h2, h3, h4, h5⟩ := h
  have hv := h4.2.1
  have hv0 := hv.1
  have hpw := pow_le7 hv0.2.2.2.2.2.1
  have hi7 : i < 128 := by omega
  unfold fX9_laysSnips_64
  rw [F_joins h4.2.2.2.1, gB0_some, sh_pow _ (by omega), if_neg (nI_ge hi (by omega))]
  have hsz := sub_z hv hi7
  cases hsub : subJ v i
  · rw [hsub] at hsz
    rw [if_neg (by rw [hsz]; simp), nI_1]
    have hsc : scA v p q i = false := by unfold scA; rw [hsub]; rfl
    refine ⟨N, rfl, ⟨g, h1⟩, ?_, ?_, h4, h5⟩
    · rw [h2, leC_s, hsc]
      cases leC (fun s => cnU 7 (tb s)) (scA v p q) i with
      | none => rfl
      | some b => simp
    · rw [h3, mnW_s, hsc]
      cases mnW (waX v) (scA v p q) i with
      | none => rfl
      | some b => simp
  · rw [hsub] at hsz
    rw [if_pos (by rw [hsz])]
    have k1 : KP N (gSI N 141 25 (nI i)) := KP.s141 (by omega)
    have s1 := MS_25 h1 hi7
    obtain ⟨A, a1, a2, a3, a4, a5, a6⟩ := M_runU (n := 1) (h4.kp k1) s1 (by omega)
    rw [one_1] at a1
    have f41 : A.1 141 41 = oV (leC (fun s => cnU 7 (tb s)) (scA v p q) i) := by rw [a6]; exact (gSI_nj (by omega)).trans h2
    have f42 : A.1 141 42 = oF (mnW (waX v) (scA v p q) i) := by rw [a6]; exact (gSI_nj (by omega)).trans h3
    have kA := (h5.tr k1).tr a5
    have hf := M_firmOf hv a4.2.2.2.1 a3 (y := 0) (by omega) (by omega) hp
    rw [fiR_in hp (go_y0 hv _ p)] at hf
    have hf : fX9_firmOf (nI p) (0 : Int32) A = some (gMk 6 (fmO (tiY v (uS 0 (tb i)) 0) p)) := hf
    unfold fX9_laysSnips_95
    rw [a1, gB0_some, hf, gB0_some, F_isBit _ (by omega), bt_gMk (by omega), decide_eq_true (show q < 6 by omega), Bool.true_and, gB0_some, ite_bI]
    have hcu : cuA v p q i = !fmO (tiY v (uS 0 (tb i)) 0) p q := rfl
    have hsc : scA v p q i = cuA v p q i := by unfold scA; rw [hsub, Bool.true_and]
    have w43 : ∀ x : Int32, x = oV (leC (fun s => cnU 7 (tb s)) (scA v p q) (i + 1)) → cuA v p q i = true → ∀ B : gMem, B.1 141 41 = x → B.1 141 42 = oF (mnW (waX v) (scA v p q) i) → MS B v (uS 0 (tb i)) [] → CT B t v → KP M B → ∃ K, fX9_laysSnips_143 (nI p) (nI q) (gMk (v 0 5) (nowJ v)) (nI i) B = some (.inl (nI (i + 1), K)) ∧ LI M K t v p q (i + 1) := by
      intro x hx hc B b1 b2 b3 b4 b5
      have kS : KP B (gSI B 141 42 (if B.1 141 42 ≤ nI (waX v i) then B.1 141 42 else nI (waX v i))) := KP.s141 (by omega)
      refine ⟨_, M_143 hv b4.2.2.2.1 _ _ _ hi7, ⟨tb i, b3.s141 (Or.inr rfl)⟩, ?_, ?_, b4.kp kS, b5.tr kS⟩
      · exact (gSI_nj (by omega)).trans (b1.trans hx)
      · rw [gSI_eq, b2]
        exact oF_step (waX_lt hv) (by rw [hsc]; exact hc)
    cases hfm : fmO (tiY v (uS 0 (tb i)) 0) p q
    · have hc : cuA v p q i = true := by rw [hcu, hfm]; rfl
      have hs1 : scA v p q i = true := by rw [hsc]; exact hc
      simp only [Bool.false_eq_true, if_false]
      have w37 : leC (fun s => cnU 7 (tb s)) (scA v p q) (i + 1) = some i → ∃ K, fX9_laysSnips_137 (nI p) (nI q) (gMk (v 0 5) (nowJ v)) (nI i) A = some (.inl (nI (i + 1), K)) ∧ LI M K t v p q (i + 1) := by
        intro hl
        unfold fX9_laysSnips_137
        have kS : KP A (gSI A 141 41 (nI i)) := KP.s141 (by omega)
        exact w43 (nI i) (by rw [hl]; rfl) hc _ gSI_eq ((gSI_nj (by omega)).trans f42) (a2.s141 (Or.inl rfl)) (a4.kp kS) (kA.tr kS)
      cases hl : leC (fun s => cnU 7 (tb s)) (scA v p q) i with
      | none =>
        rw [hl] at f41
        rw [if_pos (show A.1 141 41 = -1 from f41)]
        refine w37 ?_
        rw [leC_s, hl]
        exact if_pos hs1
      | some b =>
        rw [hl] at f41
        have f41 : A.1 141 41 = nI b := f41
        obtain ⟨hb, -⟩ := leC_lt hl
        have c1 : cnU 7 (tb i) ≤ 7 := cnU_le 7 _
        have c2 : cnU 7 (tb b) ≤ 7 := cnU_le 7 _
        rw [f41, if_neg (nI_m1 b (by omega)), size7 hi7, gB0_some, size7 (by omega), gB0_some]
        have hs2 : leC (fun s => cnU 7 (tb s)) (scA v p q) (i + 1) = if cnU 7 (tb i) < cnU 7 (tb b) ∧ scA v p q i = true then some i else some b := by rw [leC_s, hl]
        by_cases c : cnU 7 (tb i) < cnU 7 (tb b)
        · rw [if_neg (nI_ge c (by omega))]
          exact w37 (by rw [hs2, if_pos ⟨c, hs1⟩])
        · rw [if_pos (nI_le (by omega) (by omega))]
          exact w43 (nI b) (by rw [hs2, if_neg (fun x => c x.1)]; rfl) hc A f41 f42 a2 a4 kA
    · have hc : cuA v p q i = false := by rw [hcu, hfm]; rfl
      have hs1 : scA v p q i = false := by rw [hsc]; exact hc
      simp only [if_true, nI_1]
      refine ⟨A, rfl, ⟨tb i, a2⟩, ?_, ?_, a4, kA⟩
      · rw [f41, leC_s, hs1]
        cases leC (fun s => cnU 7 (tb s)) (scA v p q) i with
        | none => rfl
        | some b => simp
      · rw [f42, mnW_s, hs1]
        cases mnW (waX v) (scA v p q) i with
        | none => rfl
        | some b => simp
theorem M_laysSnips {M : gMem} {t p q : Nat} {v : gCt} (h : CT M t v) (hp : p < v 0 4) (hq : q < v 0 4) : ∃ N, fX9_laysSnips (nI p) (nI q) M = some N ∧ N.1 141 41 = oV (snO v p q) ∧ N.1 141 42 = oF (swX v p q) ∧ CT N t v ∧ KP M N := by
  have hv := h.2.1
  have hv0 := hv.1
  have hpw := pow_le7 hv0.2.2.2.2.2.1
  obtain ⟨A, a1, a2, a3, a4, a5, a6⟩ := F_lays h
  obtain ⟨B, q1, q2, q3, q4, q5, q6⟩ := M_runU (n := 1) a4 a2 (by omega)
  rw [one_1] at q1
  unfold fX9_laysSnips fX9_laysSnips_0
  rw [a1, gB0_some, q1, gB0_some]
  have all : ∃ r, fX9_laysSnips_58 (nI p) (nI q) (gMk (v 0 5) (nowJ v)) (100000 : Int32) (gSI B 141 41 (-1 : Int32)) = some r ∧ LI M r t v p q (2 ^ v 0 5) := by
    unfold fX9_laysSnips_58 fX9_laysSnips_64h
    have k1 : KP B (gSI B 141 41 (-1)) := KP.s141 (by omega)
    have k2 : KP (gSI B 141 41 (-1)) (gSI (gSI B 141 41 (-1)) 141 42 100000) := KP.s141 (by omega)
    have i0 : LI M (gSI (gSI B 141 41 (-1)) 141 42 100000) t v p q 0 := ⟨⟨fun _ => false, by rw [uS_none]; exact (q2.s141 (Or.inl rfl)).s141 (Or.inr rfl)⟩, (gSI_nj (by omega)).trans gSI_eq, gSI_eq, (q4.kp k1).kp k2, ((a5.tr q5).tr k1).tr k2⟩
    refine gLp_inv (fun i (s : Int32 × gMem) => s.1 = nI i ∧ LI M s.2 t v p q i) (2 ^ v 0 5) (fun (N : gMem) => LI M N t v p q (2 ^ v 0 5)) (by omega) (fun i s hi hI => ?_) (fun s hI => ?_) _ ⟨rfl, i0⟩
    · obtain ⟨i', N⟩ := s
      obtain ⟨g1, hI⟩ := hI
      have g1 : i' = nI i := g1
      subst g1
      obtain ⟨K, k1, k2⟩ := M_64 hI hp hq hi
      exact Or.inl ⟨_, k1, rfl, k2⟩
    · obtain ⟨i', N⟩ := s
      obtain ⟨g1, hI⟩ := hI
      have g1 : i' = nI (2 ^ v 0 5) := g1
      subst g1
      have hI : LI M N t v p q (2 ^ v 0 5) := hI
      show ∃ r, fX9_laysSnips_64 _ _ _ (nI (2 ^ v 0 5)) N = _ ∧ _
      unfold fX9_laysSnips_64
      rw [F_joins hI.2.2.2.1.2.2.2.1, gB0_some, sh_pow _ (by omega), if_pos (Int32.le_refl _)]
      exact ⟨_, rfl, hI⟩
  obtain ⟨r, r1, r2⟩ := all
  have key : fX9_laysSnips_14h (nI p) (nI q) (0 : Int32) (0 : Int32) B = some r := by
    unfold fX9_laysSnips_14h
    refine gLp_for (fun i => (gMk i (nowJ v), nI i)) (v 0 5) _ (by omega) (fun i hi => ?_) ?_ _ rfl
    · show fX9_laysSnips_14 (nI p) (nI q) (gMk i (nowJ v)) (nI i) B = _
      unfold fX9_laysSnips_14
      have ht := F_toldThen hv q2 q3 (y := 0) (by omega) (by omega) hi
      rw [nowJ_he hv hi] at ht
      have ht : fX9_isToldThen (nI i) (0 : Int32) B = some (bI (nowJ v i)) := ht
      rw [F_joins q4.2.2.2.1, gB0_some, if_neg (nI_ge hi (by omega)), ht, gB0_some, ite_bI, b1_eq, nI_1, Int32.or_zero]
      show _ = some (Sum.inl (gMk (i + 1) _, nI (i + 1)))
      rw [gMk_s]
      cases nowJ v i <;> rfl
    · show fX9_laysSnips_14 (nI p) (nI q) (gMk (v 0 5) (nowJ v)) (nI (v 0 5)) B = _
      unfold fX9_laysSnips_14
      rw [F_joins q4.2.2.2.1, gB0_some, if_pos (Int32.le_refl _), r1]
  refine ⟨r, key, ?_, ?_, r2.2.2.2.1, r2.2.2.2.2⟩
  · rw [r2.2.1]
    exact congrArg oV (snO_sub hv p q)
  · rw [r2.2.2.1]
    exact congrArg oF (swX_sub hv p q)
