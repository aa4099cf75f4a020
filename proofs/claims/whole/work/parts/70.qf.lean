/-! what is likely: every case of false joins by its weight -/
def pw (v : gCt) (c : Nat) : Nat → Nat
  | 0 => 1
  | k + 1 => pw v c k * (if c.testBit k = true then v 0 3 else 10 - v 0 3)
def sN (f : Nat → Nat) : Nat → Nat
  | 0 => 0
  | n + 1 => sN f n + f n
theorem pw_le {v : gCt} (hv : gWF v) (c k : Nat) : pw v c k ≤ 10 ^ k := by
  induction k with
  | zero => exact Nat.le_refl _
  | succ k ih =>
    have := hv.1.2.2.2.1
    rw [pw, Nat.pow_succ]
    refine Nat.mul_le_mul ih ?_
    split <;> omega
theorem sN_mono {f : Nat → Nat} {a b : Nat} (h : a ≤ b) : sN f a ≤ sN f b := by
  induction b with
  | zero => have : a = 0 := by omega
            subst this; exact Nat.le_refl _
  | succ b ih =>
    by_cases c : a = b + 1
    · subst c; exact Nat.le_refl _
    · have := ih (by omega)
      rw [sN]; omega
theorem sN_ext {f g : Nat → Nat} {n : Nat} (h : ∀ k, k < n → f k = g k) : sN f n = sN g n := by
  induction n with
  | zero => rfl
  | succ n ih => rw [sN, sN, ih (fun k hk => h k (by omega)), h n (by omega)]
theorem sN_add (f : Nat → Nat) (a b : Nat) : sN f (a + b) = sN f a + sN (fun k => f (a + k)) b := by
  induction b with
  | zero => rfl
  | succ b ih => rw [← Nat.add_assoc, sN, sN, ih]; omega
theorem sN_mul (f : Nat → Nat) (c n : Nat) : sN (fun k => f k * c) n = sN f n * c := by
  induction n with
  | zero => rw [sN, sN, Nat.zero_mul]
  | succ n ih => rw [sN, sN, ih, Nat.add_mul]
theorem sN_le {f g : Nat → Nat} {c : Nat} (h : ∀ k, f k ≤ g k * c) (n : Nat) : sN f n ≤ sN g n * c := by
  induction n with
  | zero => exact Nat.zero_le _
  | succ n ih => have := h n; rw [sN, sN, Nat.add_mul]; omega
theorem pw_hi (v : gCt) {k n c : Nat} (hk : k ≤ n) (hc : c < 2 ^ n) : pw v (2 ^ n + c) k = pw v c k := by
  induction k with
  | zero => rfl
  | succ k ih =>
    rw [pw, pw, ih (by omega), Nat.testBit_two_pow_add_gt (by omega)]
theorem sN_pw {v : gCt} (hv : gWF v) (n : Nat) : sN (fun c => pw v c n) (2 ^ n) = 10 ^ n := by
  have ho := hv.1.2.2.2.1
  induction n with
  | zero => rfl
  | succ n ih =>
    have e : 2 ^ (n + 1) = 2 ^ n + 2 ^ n := by rw [Nat.pow_succ]; omega
    rw [e, sN_add]
    have e1 : sN (fun c => pw v c (n + 1)) (2 ^ n) = sN (fun c => pw v c n) (2 ^ n) * (10 - v 0 3) := by
      rw [← sN_mul]
      refine sN_ext (fun c hc => ?_)
      rw [pw, Nat.testBit_lt_two_pow hc]; rfl
    have e2 : sN (fun k => pw v (2 ^ n + k) (n + 1)) (2 ^ n) = sN (fun c => pw v c n) (2 ^ n) * v 0 3 := by
      rw [← sN_mul]
      refine sN_ext (fun c hc => ?_)
      rw [pw, pw_hi v (Nat.le_refl _) hc, Nat.testBit_two_pow_add_eq, Nat.testBit_lt_two_pow hc]; rfl
    rw [e1, e2, ih, ← Nat.mul_add, Nat.pow_succ]
    congr 1
    omega
def meV (v : gCt) (m p q c : Nat) : Nat :=
  if m = 0 then (if fmO (tiY v (uS 0 (tb c)) 0) p q = true then 1 else 0) else if m = 1 then (if thO v (uS 0 (tb c)) 0 (v 0 1) p q = true then 1 else 0) else cnU (v 0 4) (hdO (v 0 4) (tiY v (uS 0 (tb c)) 0) (goY v (uS 0 (tb c)) 0))
theorem meV_le {v : gCt} (hv : gWF v) (m p q c : Nat) : meV v m p q c ≤ 6 := by
  have := hv.1.2.2.2.2.1
  have := cnU_le (v 0 4) (hdO (v 0 4) (tiY v (uS 0 (tb c)) 0) (goY v (uS 0 (tb c)) 0))
  unfold meV
  repeat' split
  all_goals omega
def wtV (v : gCt) (m p q i : Nat) : Nat := sN (fun c => pw v c (v 0 5) * meV v m p q c) i
theorem p10 : ∀ n, n ≤ 7 → 10 ^ n ≤ 10000000 := by decide
theorem sw_le {v : gCt} (hv : gWF v) {i : Nat} (hi : i ≤ 2 ^ v 0 5) : sN (fun c => pw v c (v 0 5)) i ≤ 10000000 := by
  have h1 := sN_mono (f := fun c => pw v c (v 0 5)) hi
  rw [sN_pw hv] at h1
  have := p10 _ hv.1.2.2.2.2.2.1
  omega
theorem wt_le {v : gCt} (hv : gWF v) {i : Nat} (hi : i ≤ 2 ^ v 0 5) (m p q : Nat) : wtV v m p q i ≤ 60000000 := by
  have h1 := sN_le (f := fun c => pw v c (v 0 5) * meV v m p q c) (g := fun c => pw v c (v 0 5)) (c := 6) (fun k => Nat.mul_le_mul_left _ (meV_le hv m p q k)) i
  have := sw_le hv hi
  unfold wtV
  omega
def OKm (v : gCt) (m p q : Nat) : Prop := (m = 0 ∧ p < v 0 4 ∧ q < v 0 4) ∨ (m = 1 ∧ p < v 0 4 ∧ q < v 0 6) ∨ m = 2
theorem C_casesOf {M : gMem} {t c : Nat} {v : gCt} (h : CT M t v) (hc : c < 128) : ∃ r, fX8_casesOf (nI c) M = some r ∧ r.toInt = (pw v c (v 0 5) : Int) := by
  have hv0 := h.2.1.1
  unfold fX8_casesOf fX8_casesOf_0 fX8_casesOf_5h
  refine gLp_inv (fun i (s : Int64 × Int32) => s.1.toInt = (pw v c i : Int) ∧ s.2 = nI i) (v 0 5) (fun (r : Int64) => r.toInt = (pw v c (v 0 5) : Int)) (by omega) (fun i s hi hI => ?_) (fun s hI => ?_) _ ⟨rfl, rfl⟩
  · obtain ⟨x, i'⟩ := s
    obtain ⟨g1, g2⟩ := hI
    have g1 : x.toInt = (pw v c i : Int) := g1
    have g2 : i' = nI i := g2
    subst g2
    have hb := pw_le h.2.1 c i
    have hb2 := p10 i (by omega)
    refine Or.inl ?_
    show ∃ s', fX8_casesOf_5 (nI c) x (nI i) M = _ ∧ _
    unfold fX8_casesOf_5
    have h4 : M.1 (M.2.2 0) 4 = nI (v 0 3) := by rw [h.1.1]; exact h.2.2.1.1.2.2.2.2.1
    rw [if_pos (gob_T h), tn_nj h, if_neg (nI_ge hi (by omega)), nI_tb7 c hc, F_has _ (by omega), bt_gMk (by omega), decide_eq_true (show i < 7 by omega), Bool.true_and, gB0_some, ite_bI, if_pos (gob_T h), h4, nI_1, show (10 : Int32) - nI (v 0 3) = nI (10 - v 0 3) from pk_sub (a := 10) hv0.2.2.2.1]
    have e1 : ∀ z, z ≤ 10 → (x * (nI z).toInt64).toInt = ((pw v c i * z : Nat) : Int) := fun z hz => by
      have hm : pw v c i * z ≤ 10000000 * 10 := Nat.mul_le_mul (by omega) hz
      rw [k_mul g1 (b := (z : Int)) (by rw [Int32.toInt_toInt64, nI_int z (by omega)]) (by rw [← Int.natCast_mul]; omega), Int.natCast_mul]
    cases hbt : c.testBit i
    · rw [if_neg (by decide)]
      try rw [if_pos (gob_T h)]
      refine ⟨_, rfl, ?_, rfl⟩
      show (x * (nI (10 - v 0 3)).toInt64).toInt = (pw v c (i + 1) : Int)
      rw [e1 _ (by omega), pw, hbt]; rfl
    · rw [if_pos rfl]
      try rw [if_pos (gob_T h)]
      refine ⟨_, rfl, ?_, rfl⟩
      show (x * (nI (v 0 3)).toInt64).toInt = (pw v c (i + 1) : Int)
      rw [e1 _ (by omega), pw, hbt]; rfl
  · obtain ⟨x, i'⟩ := s
    obtain ⟨g1, g2⟩ := hI
    have g2 : i' = nI (v 0 5) := g2
    subst g2
    show ∃ r, fX8_casesOf_5 (nI c) x (nI (v 0 5)) M = _ ∧ _
    unfold fX8_casesOf_5
    rw [if_pos (gob_T h), tn_nj h, if_pos (Int32.le_refl _)]
    exact ⟨_, rfl, g1⟩
theorem gLp_n {σ ρ : Type} {f : σ → Option (Sum σ ρ)} {n : Nat} {s : σ} (h : f s = none) : gLp f (n + 1) s = none := by rw [gLp, h]
theorem C_measure {M : gMem} {t m p q c : Nat} {v : gCt} (h : CT M t v) (hL : LVd M v (uS 0 (tb c)) 1) (ho : OKm v m p q) : fX8_measure (nI m) (nI p) (nI q) M = some (nI (meV v m p q c)) := by
  have hv0 := h.2.1.1
  unfold fX8_measure fX8_measure_0 meV
  rcases ho with ⟨rfl, hp, hq⟩ | ⟨rfl, hp, hq⟩ | rfl
  · have hr := (hL.1 0 (by omega)).2.2.2.2.2 p (by omega)
    rw [fiR_in hp (go_y0 h.2.1 _ p)] at hr
    rw [if_pos (show nI 0 = 0 from rfl), show gIx 7 48 (0 : Int32) = true from ix48 (j := 0) (by omega), if_pos rfl, show gRa 48 (Int32.toNatClampNeg (0 : Int32)) = 49 from rfl, if_pos (gIx_k (gSh_y 0 (by omega)).2.2.1 (gSh_y 0 (by omega)).2.2.2 (show p < 6 by omega) (by omega)), nI_clamp (by omega), show M.1 49 p = gMk 6 (fmO (tiY v (uS 0 (tb c)) 0) p) from hr, F_has _ (by omega), bt_gMk (by omega), decide_eq_true (show q < 6 by omega), Bool.true_and, gB0_some, ite_bI, if_pos rfl]
    cases fmO (tiY v (uS 0 (tb c)) 0) p q <;> rfl
  · have h2 : M.1 (M.2.2 0) 2 = nI (v 0 1) := by rw [h.1.1]; exact h.2.2.1.1.2.2.1
    have hd : fX2_doorsOf t (0 : Int32) (nI p) (nI (v 0 1)) M = _ := C_doorsOf (y := 0) (gTn_of h.1.2) h.2.1 h.2.2.1 hL (by omega) (by omega) hv0.2.1 hp
    rw [if_neg (show ¬ nI 1 = 0 by decide), if_pos (show nI 1 = 1 from rfl), if_pos (gob_T h), if_pos (gob_T h), h2, h.1.1, hd, gB0_some, F_has _ (by omega), bt_gMk (by omega), decide_eq_true hq, Bool.true_and, gB0_some, ite_bI]
    cases thO v (uS 0 (tb c)) 0 (v 0 1) p q <;> rfl
  · have hf : fX2_firmCount t (0 : Int32) M = _ := C_firmCount (y := 0) h.2.1 h.2.2.1 hL (by omega) (by omega)
    rw [if_neg (show ¬ nI 2 = 0 by decide), if_neg (show ¬ nI 2 = 1 by decide), if_pos (gob_T h), h.1.1, hf, gB0_some]
    rfl
theorem C_meanOf {M : gMem} {t m p q : Nat} {v : gCt} (x : Int32) (h : CT M t v) (ho : OKm v m p q) : ∃ a b N, a.toInt = (wtV v m p q (2 ^ v 0 5) : Int) ∧ b.toInt = ((10 ^ v 0 5 : Nat) : Int) ∧ (fX8_meanOf (nI m) (nI p) (nI q) x M = gB0 (fX8_lowest a b x N) (fun r => some (r, N))) ∧ CT N t v ∧ KP M N := by
  have hv := h.2.1
  have hv0 := hv.1
  have hpw := pow_le7 hv0.2.2.2.2.2.1
  have key : ∀ i, i ≤ 2 ^ v 0 5 → ∃ (a b : Int64) (N : gMem), a.toInt = (wtV v m p q i : Int) ∧ b.toInt = ((sN (fun c => pw v c (v 0 5)) i : Nat) : Int) ∧ fX8_meanOf (nI m) (nI p) (nI q) x M = gLp (fun s : Int64 × Int64 × Int32 × gMem => fX8_meanOf_9 (nI m) (nI p) (nI q) x (s.1) (s.2.1) (s.2.2.1) s.2.2.2) (gFu - i) (a, b, nI i, N) ∧ CT N t v ∧ KP M N := by
    intro i
    induction i with
    | zero => intro _; exact ⟨0, 0, M, rfl, rfl, rfl, h, KP.rf⟩
    | succ i ih =>
      intro hi
      obtain ⟨a, b, N, g1, g2, g3, g4, g5⟩ := ih (by omega)
      have hfu : gFu - i = gFu - (i + 1) + 1 := by unfold gFu; omega
      rw [hfu] at g3
      have hi7 : i < 128 := by omega
      obtain ⟨r, r1, r2⟩ := C_casesOf g4 hi7
      have hpl := pw_le hv i (v 0 5)
      have hp10 := p10 _ hv0.2.2.2.2.2.1
      have hsw := sw_le hv (i := i) (by omega)
      have hwt := wt_le hv (i := i) (by omega) m p q
      have hb' : (b + r).toInt = ((sN (fun c => pw v c (v 0 5)) (i + 1) : Nat) : Int) := by
        rw [k_add g2 r2 (by omega), sN]; omega
      by_cases cz : pw v i (v 0 5) = 0
      · refine ⟨a, b + r, N, ?_, hb', ?_, g4, g5⟩
        · rw [g1]; unfold wtV; rw [sN, cz, Nat.zero_mul, Nat.add_zero]
        · rw [g3, gLp_l (s' := (a, b + r, nI (i + 1), N))]
          show fX8_meanOf_9 (nI m) (nI p) (nI q) x a b (nI i) N = _
          unfold fX8_meanOf_9
          simp only [lg_cmp_le, Int64.le_iff_toInt_le]
          rw [if_pos (gob_T g4), tn_nj g4, sh_pow _ (by omega), if_neg (nI_ge (by omega) (by omega)), r1, gB0_some, if_pos (by rw [r2, cz]; decide), nI_1]
      · obtain ⟨M1, m1, m2, m3, m4⟩ := C_sup g4 (k := 0) (f := tb i) (x := nI i) (Or.inl ⟨rfl, nI_tb7 i hi7⟩)
        obtain ⟨K, n1, n2, n3, n4⟩ := F_liveU (n := 1) m3 m2 (by omega)
        have n1 : fX2_live t (1 : Int32) (gSI M1 14 0 (nI i)) = some K := n1
        have hme := C_measure n3 n2 ho
        have hm6 := meV_le hv m p q i
        have hmm : pw v i (v 0 5) * meV v m p q i ≤ 10000000 * 6 := Nat.mul_le_mul (by omega) hm6
        refine ⟨a + r * (nI (meV v m p q i)).toInt64, b + r, K, ?_, hb', ?_, n3, (g5.tr m4).tr n4⟩
        · have e : (r * (nI (meV v m p q i)).toInt64).toInt = ((pw v i (v 0 5) * meV v m p q i : Nat) : Int) := by
            rw [k_mul r2 (b := (meV v m p q i : Int)) (by rw [Int32.toInt_toInt64, nI_int _ (by omega)]) (by rw [← Int.natCast_mul]; omega), Int.natCast_mul]
          rw [k_add g1 e (by omega)]
          unfold wtV
          rw [sN]; unfold wtV at hwt; omega
        · rw [g3, gLp_l (s' := (a + r * (nI (meV v m p q i)).toInt64, b + r, nI (i + 1), K))]
          show fX8_meanOf_9 (nI m) (nI p) (nI q) x a b (nI i) N = _
          unfold fX8_meanOf_9 fX8_meanOf_66
          simp only [lg_cmp_le, Int64.le_iff_toInt_le]
          rw [if_pos (gob_T g4), tn_nj g4, sh_pow _ (by omega), if_neg (nI_ge (by omega) (by omega)), r1, gB0_some, if_neg (by rw [r2]; show ¬ ((pw v i (v 0 5) : Int) ≤ 0); omega), m1, gB0_some, if_pos (gob_T m3), m3.1.1, n1, gB0_some, hme, gB0_some, nI_1]
  obtain ⟨a, b, N, g1, g2, g3, g4, g5⟩ := key (2 ^ v 0 5) (Nat.le_refl _)
  rw [sN_pw hv] at g2
  refine ⟨a, b, N, g1, g2, ?_, g4, g5⟩
  have hfu : gFu - 2 ^ v 0 5 = gFu - 2 ^ v 0 5 - 1 + 1 := by unfold gFu; omega
  have e9 : fX8_meanOf_9 (nI m) (nI p) (nI q) x a b (nI (2 ^ v 0 5)) N = gB0 (fX8_lowest a b x N) (fun r2 => some (.inr (r2, N))) := by
    unfold fX8_meanOf_9
    rw [if_pos (gob_T g4), tn_nj g4, sh_pow _ (by omega), if_pos (Int32.le_refl _)]
  rw [g3, hfu]
  cases hl : fX8_lowest a b x N with
  | none => rw [hl] at e9; rw [gLp_n (s := (a, b, nI (2 ^ v 0 5), N)) e9]; rfl
  | some r => rw [hl] at e9; rw [gLp_r (s := (a, b, nI (2 ^ v 0 5), N)) (r := (r, N)) e9]; rfl
