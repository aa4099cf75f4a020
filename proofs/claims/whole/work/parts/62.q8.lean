/-! guards, and who sneezes -/
def tb (s : Nat) : Nat → Bool := fun k => s.testBit k
/-- the first of those of fewest -/
def leC (cn : Nat → Nat) (ok : Nat → Bool) : Nat → Option Nat
  | 0 => none
  | n + 1 => match leC cn ok n with
    | none => if ok n = true then some n else none
    | some b => if cn n < cn b ∧ ok n = true then some n else some b
theorem leC_s (cn : Nat → Nat) (ok : Nat → Bool) (n : Nat) : leC cn ok (n + 1) = match leC cn ok n with
    | none => if ok n = true then some n else none
    | some b => if cn n < cn b ∧ ok n = true then some n else some b := rfl
theorem leC_lt {cn : Nat → Nat} {ok : Nat → Bool} : ∀ {n b : Nat}, leC cn ok n = some b → b < n ∧ ok b = true := by
  intro n
  induction n with
  | zero => intro b h; cases h
  | succ n ih =>
    intro b h
    rw [leC_s] at h
    cases hc : leC cn ok n with
    | none =>
      rw [hc] at h
      have h : (if ok n = true then some n else none) = some b := h
      split at h
      · next e => cases h; exact ⟨by omega, e⟩
      · cases h
    | some k =>
      rw [hc] at h
      have h : (if cn n < cn k ∧ ok n = true then some n else some k) = some b := h
      split at h
      · next e => cases h; exact ⟨by omega, e.2⟩
      · cases h
        have := ih hc
        exact ⟨by omega, this.2⟩
theorem pop6 {s : Nat} (hs : s < 64) : gPop (nI s) = nI (cnU 6 (tb s)) := by rw [nI_tb6 s hs]; exact gPop_6 _
theorem pop7 {s : Nat} (hs : s < 128) : gPop (nI s) = nI (cnU 7 (tb s)) := by rw [nI_tb7 s hs]; exact gPop_7 _
theorem size6 {s : Nat} (hs : s < 64) (M : gMem) : fX9_sizeOf (nI s) M = some (nI (cnU 6 (tb s))) := by rw [nI_tb6 s hs]; exact F_size6 _ _
theorem size7 {s : Nat} (hs : s < 128) (M : gMem) : fX9_sizeOf (nI s) M = some (nI (cnU 7 (tb s))) := by rw [nI_tb7 s hs]; exact F_size7 _ _
theorem has6 {s k : Nat} (hs : s < 64) (hk : k < 32) (M : gMem) : fX8_has (nI s) (nI k) M = some (bI (decide (k < 6) && s.testBit k)) := by rw [nI_tb6 s hs, F_has _ hk, bt_gMk (by omega)]
theorem bit6 {s k : Nat} (hs : s < 64) (hk : k < 32) (M : gMem) : fX9_isBit (nI s) (nI k) M = some (bI (decide (k < 6) && s.testBit k)) := by rw [nI_tb6 s hs, F_isBit _ hk, bt_gMk (by omega)]
def okG (v : gCt) (p s : Nat) : Bool := !s.testBit p && !ev0 v (uS 2 (tb s)) (v 0 0) p
def guO (v : gCt) (p : Nat) : Option Nat := leC (fun s => cnU 6 (tb s)) (okG v p) (2 ^ v 0 4)
theorem C_staysWell {M : gMem} {t p s : Nat} {v : gCt} (h : CT M t v) (hp : p < v 0 4) (hs : s < 64) : ∃ N, fX8_staysWell (nI p) (nI s) M = some (bI (!ev0 v (uS 2 (tb s)) (v 0 0) p), N) ∧ CT N t v ∧ KP M N := by
  have hv0 := h.2.1.1
  obtain ⟨M1, m1, m2, m3, m4⟩ := C_sup h (k := 2) (f := tb s) (x := nI s) (Or.inr ⟨Or.inl rfl, nI_tb6 s hs⟩)
  obtain ⟨N, n1, n2, n3, n4⟩ := F_liveU m3 m2 hv0.1
  unfold fX8_staysWell fX8_staysWell_0 fX8_staysWell_20
  rw [m1, gB0_some, if_pos (gob_T m3), if_pos (gob_T m3), tn_ny m3, m3.1.1, n1, gB0_some, n2.2.1, F_has _ (by omega), bt_gMk (by omega), decide_eq_true (show p < 6 by omega), Bool.true_and, gB0_some, ite_bI]
  refine ⟨N, ?_, n3, m4.tr n4⟩
  cases ev0 v (uS 2 (tb s)) (v 0 0) p <;> rfl
theorem C_fewestGuards {M : gMem} {t p : Nat} {v : gCt} (h : CT M t v) (hp : p < v 0 4) : ∃ N, fX8_fewestGuards (nI p) M = some (oV (guO v p), N) ∧ CT N t v ∧ KP M N := by
  have hv0 := h.2.1.1
  have hpw := pow_le hv0.2.2.2.2.1
  have key : ∃ r, fX8_fewestGuards (nI p) M = some r ∧ (r.1 = oV (guO v p) ∧ CT r.2 t v ∧ KP M r.2) := by
    unfold fX8_fewestGuards fX8_fewestGuards_0 fX8_fewestGuards_4h
    refine gLp_inv (fun i (s : Int32 × Int32 × gMem) => s.1 = oV (leC (fun s => cnU 6 (tb s)) (okG v p) i) ∧ s.2.1 = nI i ∧ CT s.2.2 t v ∧ KP M s.2.2) (2 ^ v 0 4) (fun (r : Int32 × gMem) => r.1 = oV (guO v p) ∧ CT r.2 t v ∧ KP M r.2) (by omega) (fun i s hi hI => ?_) (fun s hI => ?_) _ ⟨rfl, rfl, h, KP.rf⟩
    · obtain ⟨x2, x3, N⟩ := s
      obtain ⟨g1, g2, g3, g4⟩ := hI
      have g1 : x2 = oV (leC (fun s => cnU 6 (tb s)) (okG v p) i) := g1
      have g2 : x3 = nI i := g2
      have g3 : CT N t v := g3
      have g4 : KP M N := g4
      subst g1; subst g2
      have hi64 : i < 64 := by omega
      obtain ⟨A, a1, a2, a3⟩ := C_staysWell g3 hp hi64
      -- a set that is looked at
      have look : ∀ b : Option Nat, (∀ c, b = some c → cnU 6 (tb i) < cnU 6 (tb c)) → leC (fun s => cnU 6 (tb s)) (okG v p) i = b → ∃ s', fX8_fewestGuards_33 (nI p) (oV b) (nI i) N = some (Sum.inl s') ∧ (s'.1 = oV (leC (fun s => cnU 6 (tb s)) (okG v p) (i + 1)) ∧ s'.2.1 = nI (i + 1) ∧ CT s'.2.2 t v ∧ KP M s'.2.2) := by
        intro b hb hl
        have hs : leC (fun s => cnU 6 (tb s)) (okG v p) (i + 1) = if okG v p i = true then some i else b := by
          rw [leC_s, hl]
          cases b with
          | none => rfl
          | some c =>
            have := hb c rfl
            show (if cnU 6 (tb i) < cnU 6 (tb c) ∧ okG v p i = true then some i else some c) = _
            simp only [this, true_and]
        unfold fX8_fewestGuards_33 fX8_fewestGuards_38
        rw [if_neg (by decide), has6 hi64 (by omega), decide_eq_true (show p < 6 by omega), Bool.true_and, gB0_some, ite_bI, a1, gBp_some, ite_bI, nI_1, hs]
        unfold okG
        cases i.testBit p
        · cases ev0 v (uS 2 (tb i)) (v 0 0) p
          · exact ⟨_, rfl, rfl, rfl, a2, g4.tr a3⟩
          · exact ⟨_, rfl, rfl, rfl, a2, g4.tr a3⟩
        · exact ⟨_, rfl, rfl, rfl, g3, g4⟩
      refine Or.inl ?_
      show ∃ s', fX8_fewestGuards_4 (nI p) (oV (leC (fun s => cnU 6 (tb s)) (okG v p) i)) (nI i) N = _ ∧ _
      unfold fX8_fewestGuards_4
      rw [if_pos (gob_T g3), tn_np g3, sh_pow _ (by omega), if_neg (nI_ge hi (by omega))]
      cases hl : leC (fun s => cnU 6 (tb s)) (okG v p) i with
      | none =>
        rw [if_pos (show oV none = -1 from rfl)]
        exact look none (fun c hc => by cases hc) hl
      | some b =>
        obtain ⟨hb, -⟩ := leC_lt hl
        have c1 : cnU 6 (tb i) ≤ 6 := cnU_le 6 _
        have c2 : cnU 6 (tb b) ≤ 6 := cnU_le 6 _
        rw [if_neg (show ¬ oV (some b) = -1 from ne_m1 b (by omega)), F_bc, gB0_some, F_bc, gB0_some, show oV (some b) = nI b from rfl, pop6 hi64, pop6 (show b < 64 by omega)]
        by_cases c : cnU 6 (tb i) < cnU 6 (tb b)
        · rw [if_neg (nI_ge c (by omega))]
          exact look (some b) (fun c' hc => by cases hc; exact c) hl
        · rw [if_pos (nI_le (by omega) (by omega))]
          unfold fX8_fewestGuards_38
          rw [if_pos rfl, nI_1]
          refine ⟨_, rfl, ?_, rfl, g3, g4⟩
          show nI b = oV (leC (fun s => cnU 6 (tb s)) (okG v p) (i + 1))
          rw [leC_s, hl]
          show _ = oV (if cnU 6 (tb i) < cnU 6 (tb b) ∧ okG v p i = true then some i else some b)
          rw [if_neg (fun h => c h.1)]; rfl
    · obtain ⟨x2, x3, N⟩ := s
      obtain ⟨g1, g2, g3, g4⟩ := hI
      have g2 : x3 = nI (2 ^ v 0 4) := g2
      have g3 : CT N t v := g3
      subst g2
      show ∃ r, fX8_fewestGuards_4 (nI p) x2 (nI (2 ^ v 0 4)) N = _ ∧ _
      unfold fX8_fewestGuards_4
      rw [if_pos (gob_T g3), tn_np g3, sh_pow _ (by omega), if_pos (Int32.le_refl _)]
      exact ⟨_, rfl, g1, g3, g4⟩
  obtain ⟨⟨r, K⟩, k1, k2, k3, k4⟩ := key
  exact ⟨K, by rw [k1]; exact congrArg (fun z => some (z, K)) k2, k3, k4⟩
theorem M_guardsOf {M : gMem} {t p : Nat} {v : gCt} (h : CT M t v) (hp : p < v 0 4) : ∃ N, fX9_guardsOf (nI p) M = some (oV (guO v p), N) ∧ CT N t v ∧ KP M N := by
  have hv0 := h.2.1.1
  have hpw := pow_le hv0.2.2.2.2.1
  have key : ∃ r, fX9_guardsOf (nI p) M = some r ∧ (r.1 = oV (guO v p) ∧ CT r.2 t v ∧ KP M r.2) := by
    unfold fX9_guardsOf fX9_guardsOf_0 fX9_guardsOf_4h
    refine gLp_inv (fun i (s : Int32 × Int32 × gMem) => s.1 = oV (leC (fun s => cnU 6 (tb s)) (okG v p) i) ∧ s.2.1 = nI i ∧ CT s.2.2 t v ∧ KP M s.2.2) (2 ^ v 0 4) (fun (r : Int32 × gMem) => r.1 = oV (guO v p) ∧ CT r.2 t v ∧ KP M r.2) (by omega) (fun i s hi hI => ?_) (fun s hI => ?_) _ ⟨rfl, rfl, h, KP.rf⟩
    · obtain ⟨x2, x3, N⟩ := s
      obtain ⟨g1, g2, g3, g4⟩ := hI
      have g1 : x2 = oV (leC (fun s => cnU 6 (tb s)) (okG v p) i) := g1
      have g2 : x3 = nI i := g2
      have g3 : CT N t v := g3
      have g4 : KP M N := g4
      subst g1; subst g2
      have hi64 : i < 64 := by omega
      obtain ⟨A, a1, a2, a5, a3, a4⟩ := M_sup g3 (j := 27) (k := 2) (f := tb i) (x := nI i) (Or.inr (Or.inr (Or.inl ⟨rfl, rfl, nI_tb6 i hi64⟩)))
      obtain ⟨B, b1, b2, b3, b4, b5, b6⟩ := M_runsY a3 a2
      have look : ∀ b : Option Nat, (∀ c, b = some c → cnU 6 (tb i) < cnU 6 (tb c)) → leC (fun s => cnU 6 (tb s)) (okG v p) i = b → i.testBit p = false → ∃ s', fX9_guardsOf_41 (nI p) (oV b) (nI i) N = some (Sum.inl s') ∧ (s'.1 = oV (leC (fun s => cnU 6 (tb s)) (okG v p) (i + 1)) ∧ s'.2.1 = nI (i + 1) ∧ CT s'.2.2 t v ∧ KP M s'.2.2) := by
        intro b hb hl hbit
        have hs : leC (fun s => cnU 6 (tb s)) (okG v p) (i + 1) = if okG v p i = true then some i else b := by
          rw [leC_s, hl]
          cases b with
          | none => rfl
          | some c =>
            have := hb c rfl
            show (if cnU 6 (tb i) < cnU 6 (tb c) ∧ okG v p i = true then some i else some c) = _
            simp only [this, true_and]
        have hco := (b3.1 p hp).2.1
        have hev := (fr_ev v (uS 2 (tb i)) p (v 0 0)).resolve_right (by omega)
        unfold fX9_guardsOf_41 fX9_guardsOf_51
        rw [a1, gB0_some, b1, gB0_some, ix157 (by omega), if_pos rfl, nI_clamp (by omega), hco, nI_1, hs]
        simp only [hev]
        unfold okG
        rw [hbit]
        cases ev0 v (uS 2 (tb i)) (v 0 0) p
        · exact ⟨_, rfl, rfl, rfl, b4, (g4.tr a4).tr b5⟩
        · exact ⟨_, rfl, rfl, rfl, b4, (g4.tr a4).tr b5⟩
      have skip : ∀ b : Option Nat, leC (fun s => cnU 6 (tb s)) (okG v p) (i + 1) = b → ∃ s' : Int32 × Int32 × gMem, (some (Sum.inl (oV b, nI (i + 1), N)) : Option (Sum (Int32 × Int32 × gMem) (Int32 × gMem))) = some (Sum.inl s') ∧ (s'.1 = oV (leC (fun s => cnU 6 (tb s)) (okG v p) (i + 1)) ∧ s'.2.1 = nI (i + 1) ∧ CT s'.2.2 t v ∧ KP M s'.2.2) := fun b hb => ⟨_, rfl, by rw [hb], rfl, g3, g4⟩
      refine Or.inl ?_
      show ∃ s', fX9_guardsOf_4 (nI p) (oV (leC (fun s => cnU 6 (tb s)) (okG v p) i)) (nI i) N = _ ∧ _
      unfold fX9_guardsOf_4
      rw [F_people g3.2.2.2.1, gB0_some, sh_pow _ (by omega), if_neg (nI_ge hi (by omega)), bit6 hi64 (by omega), decide_eq_true (show p < 6 by omega), Bool.true_and, gB0_some, ite_bI, nI_1]
      cases hbit : i.testBit p
      · simp only [Bool.false_eq_true, if_false]
        cases hl : leC (fun s => cnU 6 (tb s)) (okG v p) i with
        | none =>
          rw [if_pos (show oV none = -1 from rfl)]
          exact look none (fun c hc => by cases hc) hl hbit
        | some b =>
          obtain ⟨hb, -⟩ := leC_lt hl
          have c1 : cnU 6 (tb i) ≤ 6 := cnU_le 6 _
          have c2 : cnU 6 (tb b) ≤ 6 := cnU_le 6 _
          rw [if_neg (show ¬ oV (some b) = -1 from ne_m1 b (by omega)), size6 hi64, gB0_some, show oV (some b) = nI b from rfl, size6 (show b < 64 by omega), gB0_some]
          by_cases c : cnU 6 (tb i) < cnU 6 (tb b)
          · rw [if_pos (nI_lt c (by omega))]
            exact look (some b) (fun c' hc => by cases hc; exact c) hl hbit
          · rw [if_neg (nI_nlt (by omega) (by omega))]
            refine skip (some b) ?_
            rw [leC_s, hl]
            show (if cnU 6 (tb i) < cnU 6 (tb b) ∧ okG v p i = true then some i else some b) = _
            rw [if_neg (fun h => c h.1)]
      · simp only [if_true]
        refine skip _ ?_
        have : okG v p i = false := by unfold okG; rw [hbit]; rfl
        rw [leC_s, this]
        cases leC (fun s => cnU 6 (tb s)) (okG v p) i with
        | none => rfl
        | some b => simp
    · obtain ⟨x2, x3, N⟩ := s
      obtain ⟨g1, g2, g3, g4⟩ := hI
      have g2 : x3 = nI (2 ^ v 0 4) := g2
      have g3 : CT N t v := g3
      subst g2
      show ∃ r, fX9_guardsOf_4 (nI p) x2 (nI (2 ^ v 0 4)) N = _ ∧ _
      unfold fX9_guardsOf_4
      rw [F_people g3.2.2.2.1, gB0_some, sh_pow _ (by omega), if_pos (Int32.le_refl _)]
      exact ⟨_, rfl, g1, g3, g4⟩
  obtain ⟨⟨r, K⟩, k1, k2, k3, k4⟩ := key
  exact ⟨K, by rw [k1]; exact congrArg (fun z => some (z, K)) k2, k3, k4⟩
theorem guO_lt {v : gCt} (hv : gWF v) {p b : Nat} (h : guO v p = some b) : b < 64 := by
  have := (leC_lt h).1
  have := pow_le hv.1.2.2.2.2.1
  omega
theorem Q_guarded {t : Nat} {v : gCt} (p : Int32) : SQ t v (fX8_guarded p) (fX9_guarded p) := by
  refine SQ_g (b := inR p (v 0 4)) (e := -2) (F := fX8_fewestGuards p) (G := fX9_guardsOf p) (fun M hM => ?_) (fun M hM => ?_) (fun hb => ?_)
  · unfold fX8_guarded fX8_guarded_0
    rw [if_pos (gob_T hM), hM.1.1, F_hasPartner hM.2.1 hM.2.2.1, gB0_some, ite_bI, gBp_id]
  · have hN := hM.kp (kp0 M)
    unfold fX9_guarded fX9_guarded_0 fX9_guarded_8
    rw [M_isPerson hN.2.1 hN.2.2.2.1, gB0_some, ite_bI, inL_inR, gBp_id]
  · obtain ⟨k, hk, rfl⟩ := inR_k hb
    refine ⟨oV (guO v k), fun M hM => ?_, fun M hM => ?_⟩
    · obtain ⟨N, n1, n2, n3⟩ := C_fewestGuards hM hk; exact ⟨N, n1, n3⟩
    · obtain ⟨N, n1, n2, n3⟩ := M_guardsOf hM hk; exact ⟨N, n1, n3⟩
theorem Q_guards {t : Nat} {v : gCt} (p : Int32) : SQ t v (fX8_guards p) (fX9_guards p) := by
  refine SQ_g (b := inR p (v 0 4)) (e := -2) (F := fun M => gBp (fX8_fewestGuards p M) (fun r4 M5 => if r4 = (-1 : Int32) then some ((-1 : Int32), M5) else gB0 (fJ6_bitCount_0f7a4 r4 M5) (fun r7 => some (r7, M5)))) (G := fun M => gBp (fX9_guardsOf p M) (fun r3 M4 => if r3 = (-1 : Int32) then some ((-1 : Int32), M4) else gB0 (fX9_sizeOf r3 M4) (fun r6 => some (r6, M4)))) (fun M hM => ?_) (fun M hM => ?_) (fun hb => ?_)
  · unfold fX8_guards fX8_guards_0
    rw [if_pos (gob_T hM), hM.1.1, F_hasPartner hM.2.1 hM.2.2.1, gB0_some, ite_bI]
  · have hN := hM.kp (kp0 M)
    unfold fX9_guards fX9_guards_0 fX9_guards_8
    rw [M_isPerson hN.2.1 hN.2.2.2.1, gB0_some, ite_bI, inL_inR]
  · obtain ⟨k, hk, rfl⟩ := inR_k hb
    refine ⟨match guO v k with
      | none => -1
      | some b => nI (cnU 6 (tb b)), fun M hM => ?_, fun M hM => ?_⟩
    · obtain ⟨N, n1, n2, n3⟩ := C_fewestGuards hM hk
      refine ⟨N, ?_, n3⟩
      rw [n1, gBp_some]
      cases hg : guO v k with
      | none => rfl
      | some b =>
        have hb := guO_lt n2.2.1 hg
        show (if nI b = -1 then _ else gB0 (fJ6_bitCount_0f7a4 (nI b) N) _) = _
        rw [if_neg (ne_m1 b (by omega)), F_bc, pop6 hb]; rfl
    · obtain ⟨N, n1, n2, n3⟩ := M_guardsOf hM hk
      refine ⟨N, ?_, n3⟩
      rw [n1, gBp_some]
      cases hg : guO v k with
      | none => rfl
      | some b =>
        have hb := guO_lt n2.2.1 hg
        show (if nI b = -1 then _ else gB0 (fX9_sizeOf (nI b) N) _) = _
        rw [if_neg (ne_m1 b (by omega)), size6 hb]; rfl
/-! the sneezer: the first of several by whom most have one -/
def evN (v : gCt) (p : Nat) : Nat := cnU 6 (ev0 v (uS 3 (fun q => decide (q = p))) (v 0 0))
def moC (c : Nat → Nat) : Nat → Option Nat
  | 0 => none
  | n + 1 => match moC c n with
    | none => some n
    | some b => if c b < c n then some n else some b
theorem moC_s (c : Nat → Nat) (n : Nat) : moC c (n + 1) = match moC c n with
    | none => some n
    | some b => if c b < c n then some n else some b := rfl
theorem moC_lt {c : Nat → Nat} : ∀ {n b : Nat}, moC c n = some b → b < n := by
  intro n
  induction n with
  | zero => intro b h; cases h
  | succ n ih =>
    intro b h
    rw [moC_s] at h
    cases hc : moC c n with
    | none => rw [hc] at h; cases h; omega
    | some k =>
      rw [hc] at h
      have h : (if c k < c n then some n else some k) = some b := h
      split at h
      · cases h; omega
      · cases h; have := ih hc; omega
theorem ev0_lt {v : gCt} {u : gSp} (hv : gWF v) (hu : ∀ p, u 3 p = true → p < v 0 4) (n p : Nat) (h : ev0 v u n p = true) : p < v 0 4 := by
  rw [ev0_eq] at h
  obtain ⟨z, -, hz⟩ := anyU_iff.mp h
  exact skY_lt hv hu z p hz
theorem uS3_lt {n k : Nat} (hk : k < n) : ∀ p, uS 3 (fun q => decide (q = k)) 3 p = true → p < n := fun p h => by
  have h : decide (p = k) = true := h
  rw [of_decide_eq_true h]; exact hk
theorem M_coldsAll {M : gMem} {v : gCt} {u : gSp} (hv : gWF v) (ha : RA M v) (hu : ∀ p, u 3 p = true → p < v 0 4) (hm : MV M v u (v 0 0)) : fX9_coldsAll M = some (nI (cnU 6 (ev0 v u (v 0 0)))) := by
  have hv0 := hv.1
  rw [cnU_up (n := v 0 4) (by omega) (fun k k1 _ => by
    cases hc : ev0 v u (v 0 0) k
    · rfl
    · have := ev0_lt hv hu _ k hc; omega)]
  unfold fX9_coldsAll fX9_coldsAll_0 fX9_coldsAll_4h
  refine gLp_for (fun i => (nI (cnU i (ev0 v u (v 0 0))), nI i)) (v 0 4) _ (by omega) (fun i hi => ?_) ?_ _ rfl
  · show fX9_coldsAll_4 (nI (cnU i _)) (nI i) M = some (Sum.inl (nI (cnU (i + 1) _), nI (i + 1)))
    have hev := (fr_ev v u i (v 0 0)).resolve_right (by omega)
    unfold fX9_coldsAll_4
    rw [F_people ha, gB0_some, if_neg (nI_ge hi (by omega)), ix157 (by omega), if_pos rfl, nI_clamp (by omega), (hm.1 i hi).2.1, nI_1, nI_1, Int32.add_zero, cnU_s]
    simp only [hev]
    cases ev0 v u (v 0 0) i <;> rfl
  · show fX9_coldsAll_4 _ (nI (v 0 4)) M = _
    unfold fX9_coldsAll_4
    rw [F_people ha, gB0_some, if_pos (Int32.le_refl _)]
    rfl
theorem Q_sneezer {t : Nat} {v : gCt} : SQ t v fX8_sneezer fX9_sneezer := by
  refine SQ_g (b := decide (0 < v 0 9)) (e := -2) (F := fX8_sneezer_19h (-1) 0 0) (G := fX9_sneezer_21h (-1) (-1) 0) (fun M hM => ?_) (fun M hM => ?_) (fun _ => ?_)
  · unfold fX8_sneezer fX8_sneezer_0
    rw [if_pos (gob_T hM), hM.1.1, C_isTold hM, gB0_some, ite_bI]
  · have hN := hM.kp (kp0 M)
    unfold fX9_sneezer fX9_sneezer_0 fX9_sneezer_6
    rw [M_isCity hN.2.1 hN.2.2.2.1, gB0_some, ite_bI]
  · refine ⟨oV (moC (evN v) (v 0 4)), fun M hM => ?_, fun M hM => ?_⟩
    · have hv0 := hM.2.1.1
      have key : ∃ r, fX8_sneezer_19h (-1) 0 0 M = some r ∧ (r.1 = oV (moC (evN v) (v 0 4)) ∧ KP M r.2) := by
        unfold fX8_sneezer_19h
        refine gLp_inv (fun i (s : Int32 × Int32 × Int32 × gMem) => (s.1 = oV (moC (evN v) i) ∧ (∀ b, moC (evN v) i = some b → s.2.1 = nI (evN v b))) ∧ s.2.2.1 = nI i ∧ CT s.2.2.2 t v ∧ KP M s.2.2.2) (v 0 4) (fun (r : Int32 × gMem) => r.1 = oV (moC (evN v) (v 0 4)) ∧ KP M r.2) (by omega) (fun i s hi hI => ?_) (fun s hI => ?_) _ ⟨⟨rfl, fun b hb => (by cases hb)⟩, rfl, hM, KP.rf⟩
        · obtain ⟨x1, x2, x3, N⟩ := s
          obtain ⟨⟨g1, g5⟩, g2, g3, g4⟩ := hI
          have g1 : x1 = oV (moC (evN v) i) := g1
          have g5 : ∀ b, moC (evN v) i = some b → x2 = nI (evN v b) := g5
          have g2 : x3 = nI i := g2
          have g3 : CT N t v := g3
          have g4 : KP M N := g4
          obtain ⟨A, a1, a2, a3, a4⟩ := C_sup g3 (k := 3) (f := fun q => decide (q = i)) (x := b1 i) (Or.inr ⟨Or.inr (Or.inl rfl), gMk_b1 (by omega) (by omega)⟩)
          obtain ⟨B, q1, q2, q3, q4⟩ := F_liveU a3 a2 hv0.1
          have hc : gPop (B.1 14 16) = nI (evN v i) := by rw [q2.2.1, gPop_6]; rfl
          refine Or.inl ?_
          show ∃ s', fX8_sneezer_19 x1 x2 x3 N = _ ∧ _
          subst g1
          subst g2
          unfold fX8_sneezer_19 fX8_sneezer_52 fX8_sneezer_88
          rw [if_pos (gob_T g3), tn_np g3, if_neg (nI_ge hi (by omega)), a1, gB0_some, b1_eq, if_pos (gob_T a3), if_pos (gob_T a3), tn_ny a3, a3.1.1, q1, gB0_some, F_bc, gB0_some, hc, nI_1]
          have fin : ∀ b : Option Nat, moC (evN v) (i + 1) = b → ∀ y : Int32, (∀ c, b = some c → y = nI (evN v c)) → ∃ s' : Int32 × Int32 × Int32 × gMem, (some (Sum.inl (oV b, y, nI (i + 1), B)) : Option (Sum (Int32 × Int32 × Int32 × gMem) (Int32 × gMem))) = some (Sum.inl s') ∧ ((s'.1 = oV (moC (evN v) (i + 1)) ∧ (∀ b, moC (evN v) (i + 1) = some b → s'.2.1 = nI (evN v b))) ∧ s'.2.2.1 = nI (i + 1) ∧ CT s'.2.2.2 t v ∧ KP M s'.2.2.2) := fun b hb y hy => ⟨_, rfl, ⟨by rw [hb], fun c hcc => hy c (by rw [← hb]; exact hcc)⟩, rfl, q3, (g4.tr a4).tr q4⟩
          cases hl : moC (evN v) i with
          | none =>
            rw [if_pos (show oV none = -1 from rfl)]
            exact fin (some i) (by rw [moC_s, hl]) _ (fun c hcc => by cases hcc; rfl)
          | some b =>
            have hb := moC_lt hl
            have hx2 : x2 = nI (evN v b) := g5 b hl
            have c1 : evN v i ≤ 6 := cnU_le 6 _
            have c2 : evN v b ≤ 6 := cnU_le 6 _
            rw [if_neg (show ¬ oV (some b) = -1 from ne_m1 b (by omega)), hx2]
            by_cases c : evN v b < evN v i
            · rw [if_neg (nI_ge c (by omega))]
              exact fin (some i) (by rw [moC_s, hl]; exact if_pos c) _ (fun c hcc => by cases hcc; rfl)
            · rw [if_pos (nI_le (by omega) (by omega))]
              exact fin (some b) (by rw [moC_s, hl]; exact if_neg c) _ (fun c hcc => by cases hcc; rfl)
        · obtain ⟨x1, x2, x3, N⟩ := s
          obtain ⟨⟨g1, g5⟩, g2, g3, g4⟩ := hI
          have g2 : x3 = nI (v 0 4) := g2
          have g3 : CT N t v := g3
          subst g2
          show ∃ r, fX8_sneezer_19 x1 x2 (nI (v 0 4)) N = _ ∧ _
          unfold fX8_sneezer_19
          rw [if_pos (gob_T g3), tn_np g3, if_pos (Int32.le_refl _)]
          exact ⟨_, rfl, g1, g4⟩
      obtain ⟨⟨r, K⟩, k1, k2, k3⟩ := key
      exact ⟨K, by rw [k1]; exact congrArg (fun z => some (z, K)) k2, k3⟩
    · have hv0 := hM.2.1.1
      have key : ∃ r, fX9_sneezer_21h (-1) (-1) 0 M = some r ∧ (r.1 = oV (moC (evN v) (v 0 4)) ∧ KP M r.2) := by
        unfold fX9_sneezer_21h
        refine gLp_inv (fun i (s : Int32 × Int32 × Int32 × gMem) => (s.1 = oV (moC (evN v) i) ∧ s.2.1 = (match moC (evN v) i with
          | none => -1
          | some b => nI (evN v b))) ∧ s.2.2.1 = nI i ∧ CT s.2.2.2 t v ∧ KP M s.2.2.2) (v 0 4) (fun (r : Int32 × gMem) => r.1 = oV (moC (evN v) (v 0 4)) ∧ KP M r.2) (by omega) (fun i s hi hI => ?_) (fun s hI => ?_) _ ⟨⟨rfl, rfl⟩, rfl, hM, KP.rf⟩
        · obtain ⟨x1, x2, x3, N⟩ := s
          obtain ⟨⟨g1, g5⟩, g2, g3, g4⟩ := hI
          have g1 : x1 = oV (moC (evN v) i) := g1
          have g5 : x2 = (match moC (evN v) i with
          | none => -1
          | some b => nI (evN v b)) := g5
          have g2 : x3 = nI i := g2
          have g3 : CT N t v := g3
          have g4 : KP M N := g4
          obtain ⟨A, a1, a2, a5, a3, a4⟩ := M_sup g3 (j := 31) (k := 3) (f := fun q => decide (q = i)) (x := nI i) (Or.inr (Or.inr (Or.inr ⟨rfl, rfl, i, hi, rfl, fun _ => rfl⟩)))
          obtain ⟨B, q1, q2, q3, q4, q5, q6⟩ := M_runsY a3 a2
          have hc : fX9_coldsAll B = some (nI (evN v i)) := M_coldsAll q4.2.1 q4.2.2.2.1 (uS3_lt hi) q3
          refine Or.inl ?_
          show ∃ s', fX9_sneezer_21 x1 x2 x3 N = _ ∧ _
          subst g1
          subst g2
          have g5 : x2 = (match moC (evN v) i with
          | none => -1
          | some b => nI (evN v b)) := g5
          unfold fX9_sneezer_21 fX9_sneezer_39
          rw [F_people g3.2.2.2.1, gB0_some, if_neg (nI_ge hi (by omega)), a1, gB0_some, q1, gB0_some, hc, gB0_some, gB0_some, nI_1, g5]
          have fin : ∀ b : Option Nat, moC (evN v) (i + 1) = b → ∀ y : Int32, y = (match b with
          | none => -1
          | some b => nI (evN v b)) → ∃ s' : Int32 × Int32 × Int32 × gMem, (some (Sum.inl (oV b, y, nI (i + 1), B)) : Option (Sum (Int32 × Int32 × Int32 × gMem) (Int32 × gMem))) = some (Sum.inl s') ∧ ((s'.1 = oV (moC (evN v) (i + 1)) ∧ s'.2.1 = (match moC (evN v) (i + 1) with
          | none => -1
          | some b => nI (evN v b))) ∧ s'.2.2.1 = nI (i + 1) ∧ CT s'.2.2.2 t v ∧ KP M s'.2.2.2) := fun b hb y hy => ⟨_, rfl, ⟨by rw [hb], by rw [hb]; exact hy⟩, rfl, q4, (g4.tr a4).tr q5⟩
          have c1 : evN v i ≤ 6 := cnU_le 6 _
          cases hl : moC (evN v) i with
          | none =>
            have : (-1 : Int32) < nI (evN v i) := by
              have key : ∀ n, n ≤ 6 → (-1 : Int32) < nI n := by decide
              exact key _ c1
            show ∃ s', (if (-1 : Int32) < nI (evN v i) then _ else _) = _ ∧ _
            rw [if_pos this]
            exact fin (some i) (by rw [moC_s, hl]) _ rfl
          | some b =>
            have hb := moC_lt hl
            have c2 : evN v b ≤ 6 := cnU_le 6 _
            show ∃ s', (if nI (evN v b) < nI (evN v i) then _ else _) = _ ∧ _
            by_cases c : evN v b < evN v i
            · rw [if_pos (nI_lt c (by omega))]
              exact fin (some i) (by rw [moC_s, hl]; exact if_pos c) _ rfl
            · rw [if_neg (nI_nlt (by omega) (by omega))]
              exact fin (some b) (by rw [moC_s, hl]; exact if_neg c) _ rfl
        · obtain ⟨x1, x2, x3, N⟩ := s
          obtain ⟨⟨g1, g5⟩, g2, g3, g4⟩ := hI
          have g2 : x3 = nI (v 0 4) := g2
          have g3 : CT N t v := g3
          subst g2
          show ∃ r, fX9_sneezer_21 x1 x2 (nI (v 0 4)) N = _ ∧ _
          unfold fX9_sneezer_21
          rw [F_people g3.2.2.2.1, gB0_some, if_pos (Int32.le_refl _)]
          exact ⟨_, rfl, g1, g4⟩
      obtain ⟨⟨r, K⟩, k1, k2, k3⟩ := key
      exact ⟨K, by rw [k1]; exact congrArg (fun z => some (z, K)) k2, k3⟩
