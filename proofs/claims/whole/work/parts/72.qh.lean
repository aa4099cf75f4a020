/-! a partner's share of a door's gains -/
def fcN : Nat → Nat
  | 0 => 1
  | n + 1 => (n + 1) * fcN n
theorem fac_c : ∀ n, n ≤ 6 → gFac n = nI (fcN n) := by decide +kernel
theorem fac_m : ∀ n, n ≤ 6 → gTimes 10 (nI n) = some (nI (fcN n)) := by decide +kernel
theorem fac_b : ∀ n, n ≤ 6 → ∀ k, k ≤ 6 → k + 1 ≤ n → fcN k * fcN (n - 1 - k) ≤ 120 := by decide +kernel
theorem fac_0 : ∀ n, n ≤ 6 → 0 < fcN n ∧ fcN n ≤ 720 := by decide +kernel
theorem or_b : ∀ s, s < 64 → ∀ k, k < 6 → nI s ||| b1 k = nI (s ||| 2 ^ k) ∧ (s ||| 2 ^ k) < 64 := by decide +kernel
theorem cn_lt : ∀ n, n ≤ 6 → ∀ s, s < 2 ^ n → ∀ p, p < n → s.testBit p = false → cnU 6 (tb s) + 1 ≤ n := by decide +kernel
def gaT (v : gCt) (p d s : Nat) : Int := if s.testBit p = true then 0 else (((fcN (cnU 6 (tb s)) * fcN (v 0 4 - 1 - cnU 6 (tb s)) : Nat) : Int)) * ((swO v (s ||| 2 ^ p) d : Int) - (swO v s d : Int))
def gaS (v : gCt) (p d : Nat) : Nat → Int
  | 0 => 0
  | n + 1 => gaS v p d n + gaT v p d n
theorem gaT_b {v : gCt} (hv : gWF v) {p d s : Nat} (hp : p < v 0 4) (hs : s < 2 ^ v 0 4) : (gaT v p d s).natAbs ≤ 71280 := by
  unfold gaT
  cases hb : s.testBit p
  · rw [if_neg (by decide), Int.natAbs_mul]
    have h1 := cn_lt _ hv.1.2.2.2.2.1 s hs p hp hb
    have h2 := fac_b _ hv.1.2.2.2.2.1 _ (cnU_le 6 (tb s)) h1
    have h3 := swO_le hv (s ||| 2 ^ p) d
    have h4 := swO_le hv s d
    have h5 : ((swO v (s ||| 2 ^ p) d : Int) - (swO v s d : Int)).natAbs ≤ 594 := by omega
    have := Nat.mul_le_mul (show ((fcN (cnU 6 (tb s)) * fcN (v 0 4 - 1 - cnU 6 (tb s)) : Nat) : Int).natAbs ≤ 120 from h2) h5
    omega
  · rw [if_pos rfl]; decide
theorem gaS_b {v : gCt} (hv : gWF v) {p d : Nat} (hp : p < v 0 4) : ∀ n, n ≤ 2 ^ v 0 4 → (gaS v p d n).natAbs ≤ n * 71280 := by
  intro n
  induction n with
  | zero => intro _; exact Nat.zero_le _
  | succ n ih =>
    intro hn
    have h1 := ih (by omega)
    have h2 := gaT_b hv (d := d) hp (show n < 2 ^ v 0 4 by omega)
    rw [gaS]
    omega
theorem C_gain {M : gMem} {t p d : Nat} {v : gCt} (h : CT M t v) (hp : p < v 0 4) (hd : d < v 0 6) : ∃ r, fX1_gainOverOrders t (nI p) (nI d) M = some r ∧ r.toInt = gaS v p d (2 ^ v 0 4) := by
  have hv := h.2.1
  have hv0 := hv.1
  have ht := gTn_of h.1.2
  have hpw := pow_le hv0.2.2.2.2.1
  have h5 : M.1 t 5 = nI (v 0 4) := h.2.2.1.1.2.2.2.2.2.1
  unfold fX1_gainOverOrders fX1_gainOverOrders_0 fX1_gainOverOrders_5h
  refine gLp_inv (fun i (s : Int64 × Int32) => s.1.toInt = gaS v p d i ∧ s.2 = nI i) (2 ^ v 0 4) (fun (r : Int64) => r.toInt = gaS v p d (2 ^ v 0 4)) (by omega) (fun i s hi hI => ?_) (fun s hI => ?_) _ ⟨rfl, rfl⟩
  · obtain ⟨x, i'⟩ := s
    obtain ⟨g1, g2⟩ := hI
    have g1 : x.toInt = gaS v p d i := g1
    have g2 : i' = nI i := g2
    subst g2
    have hi64 : i < 64 := by omega
    have hgs := gaS_b hv (d := d) hp i (by omega)
    have hgt := gaT_b hv (d := d) hp hi
    refine Or.inl ?_
    show ∃ s', fX1_gainOverOrders_5 t (nI p) (nI d) x (nI i) M = _ ∧ _
    unfold fX1_gainOverOrders_5
    rw [h5, sh_pow _ (by omega), if_neg (nI_ge hi (by omega)), has6 hi64 (by omega), decide_eq_true (show p < 6 by omega), Bool.true_and, gB0_some, ite_bI, nI_1]
    cases hb : i.testBit p
    · obtain ⟨o1, o2⟩ := or_b i hi64 p (by omega)
      have hcn := cn_lt _ hv0.2.2.2.2.1 i hi p hp hb
      have hc6 : cnU 6 (tb i) ≤ 6 := cnU_le 6 _
      have hsub : (nI (v 0 4) - 1 - nI (cnU 6 (tb i)) : Int32) = nI (v 0 4 - 1 - cnU 6 (tb i)) := by
        rw [show (1 : Int32) = nI 1 from rfl, pk_sub (by omega), pk_sub (by omega)]
      have hmx : gMx (0 : Int32) (nI (v 0 4 - 1 - cnU 6 (tb i))) = nI (v 0 4 - 1 - cnU 6 (tb i)) := by
        have key : ∀ z, z ≤ 6 → gMx (0 : Int32) (nI z) = nI z := by decide +kernel
        exact key _ (by omega)
      have s1 := swO_le hv (i ||| 2 ^ p) d
      have s2 := swO_le hv i d
      rw [if_neg (by decide), b1_eq, o1, C_setWorth ht hv h.2.2.1 o2 hd, gB0_some, C_setWorth ht hv h.2.2.1 hi64 hd, gB0_some, F_bc, pop6 hi64, gB0_some, hsub, hmx, if_pos (by rw [nI_int _ (by omega)]; omega), if_pos (by rw [nI_int _ (by omega)]; omega), nI_clamp (by omega), nI_clamp (by omega), fac_c _ hc6, fac_c _ (by omega)]
      refine ⟨_, rfl, ?_, rfl⟩
      have hf := fac_b _ hv0.2.2.2.2.1 _ hc6 hcn
      have f1 := fac_0 _ hc6
      have f2 := fac_0 (v 0 4 - 1 - cnU 6 (tb i)) (by omega)
      have e0 : gaT v p d i = ((swO v (i ||| 2 ^ p) d : Int) - (swO v i d : Int)) * (fcN (cnU 6 (tb i)) : Int) * (fcN (v 0 4 - 1 - cnU 6 (tb i)) : Int) := by
        unfold gaT
        rw [hb, if_neg (by decide), Int.natCast_mul, Int.mul_comm, Int.mul_assoc]
      have t1 : (nI (swO v (i ||| 2 ^ p) d) - nI (swO v i d)).toInt64.toInt = (swO v (i ||| 2 ^ p) d : Int) - (swO v i d : Int) := by
        rw [Int32.toInt_toInt64]
        exact j_sub (nI_int _ (by omega)) (nI_int _ (by omega)) (by omega)
      have m1 : (((swO v (i ||| 2 ^ p) d : Int) - (swO v i d : Int)) * (fcN (cnU 6 (tb i)) : Int)).natAbs ≤ 594 * 720 := by
        rw [Int.natAbs_mul]
        exact Nat.mul_le_mul (by omega) (by omega)
      have t2 := k_mul t1 (y := (nI (fcN (cnU 6 (tb i)))).toInt64) (b := (fcN (cnU 6 (tb i)) : Int)) (by rw [Int32.toInt_toInt64, nI_int _ (by omega)]) (by omega)
      have t3 := k_mul t2 (y := (nI (fcN (v 0 4 - 1 - cnU 6 (tb i)))).toInt64) (b := (fcN (v 0 4 - 1 - cnU 6 (tb i)) : Int)) (by rw [Int32.toInt_toInt64, nI_int _ (by omega)]) (by rw [← e0]; omega)
      rw [← e0] at t3
      exact k_add g1 t3 (by omega)
    · rw [if_pos rfl]
      refine ⟨_, rfl, ?_, rfl⟩
      show x.toInt = gaS v p d (i + 1)
      rw [gaS]
      have : gaT v p d i = 0 := by unfold gaT; rw [hb]; rfl
      rw [this, g1]; omega
  · obtain ⟨x, i'⟩ := s
    obtain ⟨g1, g2⟩ := hI
    have g2 : i' = nI (2 ^ v 0 4) := g2
    subst g2
    show ∃ r, fX1_gainOverOrders_5 t (nI p) (nI d) x (nI (2 ^ v 0 4)) M = _ ∧ _
    unfold fX1_gainOverOrders_5
    rw [h5, sh_pow _ (by omega), if_pos (Int32.le_refl _)]
    exact ⟨_, rfl, g1⟩
theorem M_gain {M : gMem} {t p d : Nat} {v : gCt} (w : Int32) (h : CT M t v) (hL : M.1 141 24 = nI (v 0 1)) (hp : p < v 0 4) (hd : d < v 0 6) : ∃ x, x.toInt = gaS v p d (2 ^ v 0 4) ∧ fX9_share_43h (nI p) (nI d) w (0 : Int32) (0 : Int32) M = gB0 (fX9_part x (nI (fcN (v 0 4))) w M) (fun r => some (r, M)) := by
  have hv := h.2.1
  have hv0 := hv.1
  have ha := h.2.2.2.1
  have hpw := pow_le hv0.2.2.2.2.1
  have key : ∀ i, i ≤ 2 ^ v 0 4 → ∃ x : Int32, x.toInt = gaS v p d i ∧ fX9_share_43h (nI p) (nI d) w (0 : Int32) (0 : Int32) M = gLp (fun s : Int32 × Int32 => fX9_share_43 (nI p) (nI d) w (s.1) (s.2) M) (gFu - i) (x, nI i) := by
    intro i
    induction i with
    | zero => intro _; exact ⟨0, rfl, rfl⟩
    | succ i ih =>
      intro hi
      obtain ⟨x, g1, g3⟩ := ih (by omega)
      have hfu : gFu - i = gFu - (i + 1) + 1 := by unfold gFu; omega
      rw [hfu] at g3
      have hi64 : i < 64 := by omega
      have hgs := gaS_b hv (d := d) hp i (by omega)
      have hgt := gaT_b hv (d := d) hp (show i < 2 ^ v 0 4 by omega)
      cases hb : i.testBit p
      · obtain ⟨o1, o2⟩ := or_b i hi64 p (by omega)
        have hcn := cn_lt _ hv0.2.2.2.2.1 i (by omega) p hp hb
        have hc6 : cnU 6 (tb i) ≤ 6 := cnU_le 6 _
        have hsub : (nI (v 0 4) - nI (cnU 6 (tb i)) - 1 : Int32) = nI (v 0 4 - 1 - cnU 6 (tb i)) := by
          rw [show (1 : Int32) = nI 1 from rfl, pk_sub (by omega), pk_sub (by omega)]
          congr 1; omega
        have s1 := swO_le hv (i ||| 2 ^ p) d
        have s2 := swO_le hv i d
        have hf := fac_b _ hv0.2.2.2.2.1 _ hc6 hcn
        have f1 := fac_0 _ hc6
        have f2 := fac_0 (v 0 4 - 1 - cnU 6 (tb i)) (by omega)
        have e0 : gaT v p d i = ((fcN (cnU 6 (tb i)) : Int) * (fcN (v 0 4 - 1 - cnU 6 (tb i)) : Int)) * ((swO v (i ||| 2 ^ p) d : Int) - (swO v i d : Int)) := by
          unfold gaT
          rw [hb, if_neg (by decide), Int.natCast_mul]
        have t1 := j_sub (nI_int (swO v (i ||| 2 ^ p) d) (by omega)) (nI_int (swO v i d) (by omega)) (by omega)
        have m1 : ((fcN (cnU 6 (tb i)) : Int) * (fcN (v 0 4 - 1 - cnU 6 (tb i)) : Int)).natAbs ≤ 120 := by
          rw [← Int.natCast_mul]; exact hf
        have t2 := j_mul (nI_int (fcN (cnU 6 (tb i))) (by omega)) (nI_int (fcN (v 0 4 - 1 - cnU 6 (tb i))) (by omega)) (by omega)
        have t3 := j_mul t2 t1 (by rw [← e0]; omega)
        rw [← e0] at t3
        refine ⟨x + ((nI (fcN (cnU 6 (tb i))) * nI (fcN (v 0 4 - 1 - cnU 6 (tb i)))) * (nI (swO v (i ||| 2 ^ p) d) - nI (swO v i d))), j_add g1 t3 (by omega), ?_⟩
        rw [g3]
        refine gLp_l (s := (x, nI i)) ?_
        show fX9_share_43 (nI p) (nI d) w x (nI i) M = _
        unfold fX9_share_43 fX9_times
        rw [F_people ha, gB0_some, sh_pow _ (by omega), if_neg (nI_ge (by omega) (by omega)), bit6 hi64 (by omega), decide_eq_true (show p < 6 by omega), Bool.true_and, gB0_some, ite_bI, hb, if_neg (by decide), size6 hi64, gB0_some, fac_m _ hc6, gB0_some, gB0_some, hsub, fac_m _ (by omega), gB0_some, b1_eq, o1, M_valueOf hv ha hL o2 hd, gB0_some, M_valueOf hv ha hL hi64 hd, gB0_some, nI_1]
      · refine ⟨x, ?_, ?_⟩
        · rw [gaS]
          have : gaT v p d i = 0 := by unfold gaT; rw [hb]; rfl
          rw [this, g1]; omega
        · rw [g3]
          refine gLp_l (s := (x, nI i)) ?_
          show fX9_share_43 (nI p) (nI d) w x (nI i) M = _
          unfold fX9_share_43
          rw [F_people ha, gB0_some, sh_pow _ (by omega), if_neg (nI_ge (by omega) (by omega)), bit6 hi64 (by omega), decide_eq_true (show p < 6 by omega), Bool.true_and, gB0_some, ite_bI, hb, if_pos rfl, nI_1]
  obtain ⟨x, g1, g3⟩ := key (2 ^ v 0 4) (Nat.le_refl _)
  refine ⟨x, g1, ?_⟩
  have hfu : gFu - 2 ^ v 0 4 = gFu - 2 ^ v 0 4 - 1 + 1 := by unfold gFu; omega
  have e9 : fX9_share_43 (nI p) (nI d) w x (nI (2 ^ v 0 4)) M = gB0 (fX9_part x (nI (fcN (v 0 4))) w M) (fun r2 => some (.inr (r2, M))) := by
    unfold fX9_share_43 fX9_times
    rw [F_people ha, gB0_some, sh_pow _ (by omega), if_pos (Int32.le_refl _), gB0_some, fac_m _ (by omega), gB0_some]
  rw [g3, hfu]
  cases hl : fX9_part x (nI (fcN (v 0 4))) w M with
  | none => rw [hl] at e9; rw [gLp_n (s := (x, nI (2 ^ v 0 4))) e9]; rfl
  | some r => rw [hl] at e9; rw [gLp_r (s := (x, nI (2 ^ v 0 4))) (r := (r, M)) e9]; rfl
theorem Q_share {t : Nat} {v : gCt} (p d w : Int32) : SP t v (fX8_share p d w) (fX9_share p d w) := by
  refine SP_g (b := inR p (v 0 4) && (inR d (v 0 6) && (decide (w = 0) || decide (w = 1)))) (e := -2) (F := fun M => if 0 ≤ Int32.toInt (M.1 t 5) ∧ Int32.toInt (M.1 t 5) < 7 then gB0 (fX1_gainOverOrders t p d M) (fun r12 => fX8_lowest r12 (Int32.toInt64 (gFac (Int32.toNatClampNeg (M.1 t 5)))) w M) else none) (G := fun M => gB0 (fX9_lays M) (fun M7 => fX9_share_43h p d w (0 : Int32) (0 : Int32) M7)) (fun M hM => ?_) (fun M hM => ?_) (fun hb => ?_)
  · unfold fX8_share fX8_share_0
    rw [if_pos (gob_T hM), hM.1.1, F_hasPartner hM.2.1 hM.2.2.1, gB0_some, ite_bI, if_pos hM.1.2, F_hasDoor hM.2.1 hM.2.2.1, gB0_some, ite_bI, C_isEither, gB0_some, ite_bI, if_pos hM.1.2, if_pos hM.1.2]
    have e : ∀ x : Option Int64, gB0 x (fun r12 => gB0 (fX8_lowest r12 (Int32.toInt64 (gFac (Int32.toNatClampNeg (M.1 t 5)))) w M) (fun r14 => some r14)) = gB0 x (fun r12 => fX8_lowest r12 (Int32.toInt64 (gFac (Int32.toNatClampNeg (M.1 t 5)))) w M) := fun x => by
      cases x with
      | none => rfl
      | some r => rw [gB0_some, gB0_some]; cases fX8_lowest r (Int32.toInt64 (gFac (Int32.toNatClampNeg (M.1 t 5)))) w M <;> rfl
    rw [e]
    cases inR p (v 0 4) <;> cases inR d (v 0 6) <;> cases (decide (w = 0) || decide (w = 1)) <;> rfl
  · have hN := hM.kp (kp0 M)
    unfold fX9_share fX9_share_0 fX9_share_8
    rw [M_isPerson hN.2.1 hN.2.2.2.1, gB0_some, ite_bI, inL_inR, M_isDoor hN.2.1 hN.2.2.2.1, gB0_some, ite_bI, inL_inR, M_isHalf, gB0_some, ite_bI]
    cases inR p (v 0 4) <;> cases inR d (v 0 6) <;> cases (decide (w = 0) || decide (w = 1)) <;> rfl
  · rw [Bool.and_eq_true, Bool.and_eq_true] at hb
    obtain ⟨k, h1, rfl⟩ := inR_k hb.1
    obtain ⟨q, h2, rfl⟩ := inR_k hb.2.1
    by_cases hv : gWF v
    · have hb1 := gaS_b hv (d := q) h1 (2 ^ v 0 4) (Nat.le_refl _)
      have hpw := pow_le hv.1.2.2.2.2.1
      have f := fac_0 _ hv.1.2.2.2.2.1
      have ex : ∃ z : Int32, z.toInt = gaS v k q (2 ^ v 0 4) := ⟨Int32.ofInt (gaS v k q (2 ^ v 0 4)), by rw [Int32.toInt_ofInt, i32 (by omega)]⟩
      obtain ⟨z, hz⟩ := ex
      have e2 := nI_int (fcN (v 0 4)) (by omega)
      obtain ⟨r, r1, r2⟩ := lo_same (x := z.toInt64) (y := (nI (fcN (v 0 4))).toInt64) (w := w) (by rw [Int32.toInt_toInt64]; exact hz) (by rw [Int32.toInt_toInt64]; exact e2) hz e2 (by omega) (by omega) (by omega)
      refine ⟨r, fun M hM => ?_, fun M hM => ?_⟩
      · obtain ⟨g, g1, g2⟩ := C_gain hM h1 h2
        have h5 : M.1 t 5 = nI (v 0 4) := hM.2.2.1.1.2.2.2.2.2.1
        have eg : g = z.toInt64 := Int64.toInt_inj.mp (by rw [g2, Int32.toInt_toInt64, hz])
        have hn := hv.1.2.2.2.2.1
        show (if 0 ≤ Int32.toInt (M.1 t 5) ∧ Int32.toInt (M.1 t 5) < 7 then gB0 (fX1_gainOverOrders t (nI k) (nI q) M) _ else none) = _
        rw [h5, if_pos (by rw [nI_int _ (by omega)]; omega), g1, gB0_some, nI_clamp (by omega), fac_c _ hn, eg]
        exact r1 M
      · obtain ⟨N, n1, n2, n3, n4, n5, n6⟩ := F_lays hM
        obtain ⟨x, x1, x2⟩ := M_gain w n4 n3 h1 h2
        have ex : x = z := Int32.toInt_inj.mp (by rw [x1, hz])
        refine ⟨N, ?_, n5⟩
        show gB0 (fX9_lays M) _ = _
        rw [n1, gB0_some, x2, ex, r2, gB0_some]
    · exact ⟨0, fun M hM => absurd hM.2.1 hv, fun M hM => absurd hM.2.1 hv⟩
