/-! The text: how the reference comes to its tokens. -/
def TBm (M : gMem) (g : Nat → Nat) (n : Nat) : Prop := (M.1 141 6 = nI n ∧ n ≤ 800) ∧ (∀ k, g k < 256) ∧ ∀ k, k < n → M.1 146 k = sx (g k)
def B1 (M N : gMem) : Prop := (∀ q, q ≠ 141 → N.1 q = M.1 q) ∧ (∀ j, j < 7 ∨ 11 ≤ j → N.1 141 j = M.1 141 j) ∧ (∀ q, q ≠ 141 → N.2.1 q = M.2.1 q) ∧ N.2.2 = M.2.2
theorem B1.rf {M : gMem} : B1 M M := ⟨fun _ _ => rfl, fun _ _ => rfl, fun _ _ => rfl, rfl⟩
theorem B1.tr {M N K : gMem} (h : B1 M N) (g : B1 N K) : B1 M K := ⟨fun q hq => (g.1 q hq).trans (h.1 q hq), fun j hj => (g.2.1 j hj).trans (h.2.1 j hj), fun q hq => (g.2.2.1 q hq).trans (h.2.2.1 q hq), g.2.2.2.trans h.2.2.2⟩
theorem B1.si {M : gMem} {j : Nat} {x : Int32} (h : 7 ≤ j) (h2 : j < 11) : B1 M (gSI M 141 j x) := ⟨fun q hq => gSI_ne hq, fun k hk => gSI_nj (by omega), fun _ _ => rfl, rfl⟩
theorem B1.sj {M : gMem} {j : Nat} {x : Int64} : B1 M (gSJ M 141 j x) := ⟨fun _ _ => rfl, fun _ _ => rfl, fun q hq => gSJ_ne hq, rfl⟩
theorem TBm.b1 {M N : gMem} {g : Nat → Nat} {n : Nat} (h : TBm M g n) (a : B1 M N) : TBm N g n := by
  unfold TBm
  rw [a.2.1 6 (by omega), a.1 146 (by omega)]; exact h
theorem M_isByte {M : gMem} {g : Nat → Nat} {n k lo hi : Nat} (h : TBm M g n) (hk : k ≤ n) (hl : lo < 128) (hh : hi < 128) : fX9_isByte (nI k) (nI lo) (nI hi) M = some (bI (decide (k < n) && (decide (lo ≤ g k) && decide (g k ≤ hi)))) := by
  obtain ⟨⟨h1, h2⟩, h3, h4⟩ := h
  unfold fX9_isByte fX9_isByte_0
  rw [h1]
  by_cases c : k < n
  · rw [if_neg (nI_ge c (by omega)), if_pos (ix146 (by omega)), if_pos (ix146 (by omega)), nI_clamp (by omega), h4 k c, decide_eq_true c, Bool.true_and]
    obtain ⟨-, s1, s2⟩ := sx_k _ (h3 k)
    by_cases c1 : g k < 128
    · rw [s1 c1]
      by_cases d1 : g k < lo
      · rw [if_pos (nI_lt d1 (by omega)), decide_eq_false (show ¬ lo ≤ g k by omega)]; rfl
      · rw [if_neg (nI_nlt (by omega) (by omega)), decide_eq_true (show lo ≤ g k by omega)]
        by_cases d2 : hi < g k
        · rw [if_pos (nI_lt d2 (by omega)), decide_eq_false (by omega)]; rfl
        · rw [if_neg (nI_nlt (by omega) (by omega)), decide_eq_true (by omega)]; rfl
    · have e1 : sx (g k) < nI lo := by
        have e2 := s2 (by omega)
        rw [Int32.lt_iff_toInt_lt] at e2 ⊢
        rw [nI_int lo (by omega)]
        have z0 : (0 : Int32).toInt = 0 := rfl
        rw [z0] at e2
        omega
      rw [if_pos e1, decide_eq_false (show ¬ g k ≤ hi by omega), Bool.and_false]; rfl
  · rw [if_pos (nI_le (by omega) (by omega)), decide_eq_false c]; rfl
/-- a word as a number -/
def hs (g : Nat → Nat) (s : Nat) : Nat → Nat
  | 0 => 0
  | k + 1 => 27 * hs g s k + (g (s + k) - 96)
def hvO (g : Nat → Nat) (s k : Nat) : Int := if k ≤ 12 then (hs g s k : Int) else -1
theorem hs_lt {g : Nat → Nat} {s : Nat} : ∀ k, (∀ j, j < k → g (s + j) ≤ 122) → hs g s k + 1 ≤ 27 ^ k := by
  intro k
  induction k with
  | zero => intro _; exact Nat.le_refl 1
  | succ k ih =>
    intro h
    have h1 := ih (fun j hj => h j (by omega))
    have h2 := h k (by omega)
    rw [hs, Nat.pow_succ]
    omega
def TKm (M : gMem) (g : Nat → Nat) (n p : Nat) : Prop := M.1 141 9 = nI (tS g n p) ∧ M.1 141 7 = nI (tE g n p) ∧ M.1 141 8 = nI (tK g n p) ∧ M.1 141 10 = nI (tV g n p) ∧ (tK g n p = 1 → (M.2.1 141 11).toInt = hvO g (tS g n p) (tE g n p - tS g n p))
theorem ltr_d (b : Nat) : (decide (97 ≤ b) && decide (b ≤ 122)) = ltr b := rfl
theorem dgt_d (b : Nat) : (decide (48 ≤ b) && decide (b ≤ 57)) = dgt b := rfl
theorem ltr_i {b : Nat} (h : ltr b = true) : 97 ≤ b ∧ b ≤ 122 := by
  unfold ltr at h
  rw [Bool.and_eq_true, decide_eq_true_eq, decide_eq_true_eq] at h; exact h
theorem dgt_i {b : Nat} (h : dgt b = true) : 48 ≤ b ∧ b ≤ 57 := by
  unfold dgt at h
  rw [Bool.and_eq_true, decide_eq_true_eq, decide_eq_true_eq] at h; exact h
theorem M_next102 {M : gMem} {g : Nat → Nat} {n s : Nat} (h : TBm M g n) (hs0 : s < n) (hl : ltr (g s) = true) (h7 : M.1 141 7 = nI s) (h11 : M.2.1 141 11 = 0) : ∃ N, fX9_next_102h (0 : Int32) M = some N ∧ N.1 141 7 = nI (rn n (fun k => ltr (g k)) (s + 1)) ∧ (N.2.1 141 11).toInt = hvO g s (rn n (fun k => ltr (g k)) (s + 1) - s) ∧ B1 M N ∧ (∀ j, j ≠ 7 → N.1 141 j = M.1 141 j) := by
  have q2 := h.1.2
  have one : ∀ s', 1 ≤ s' → s + s' ≤ n → (∀ j, s ≤ j → j < s + s' → ltr (g j) = true) → (s + s' < n → ltr (g (s + s')) = false) → rn n (fun k => ltr (g k)) (s + 1) = s + s' := fun s' a b c d => rn_u (by omega) b (fun j x y => c j (by omega) y) d
  unfold fX9_next_102h
  refine gLp_inv (fun i (st : Int32 × gMem) => st.1 = nI i ∧ (st.2.1 141 7 = nI (s + i) ∧ s + i ≤ n) ∧ (∀ j, s ≤ j → j < s + i → ltr (g j) = true) ∧ (st.2.2.1 141 11).toInt = hvO g s i ∧ B1 M st.2 ∧ (∀ j, j ≠ 7 → st.2.1 141 j = M.1 141 j)) (n - s) (fun (N : gMem) => N.1 141 7 = nI (rn n (fun k => ltr (g k)) (s + 1)) ∧ (N.2.1 141 11).toInt = hvO g s (rn n (fun k => ltr (g k)) (s + 1) - s) ∧ B1 M N ∧ (∀ j, j ≠ 7 → N.1 141 j = M.1 141 j)) (by omega) (fun i st hi hI => ?_) (fun st hI => ?_) _ ⟨rfl, ⟨h7, by omega⟩, fun j a b => by omega, by rw [h11]; rfl, B1.rf, fun _ _ => rfl⟩
  · obtain ⟨i', N⟩ := st
    obtain ⟨g1, ⟨g2, g3⟩, g4, g5, g6, g7⟩ := hI
    have g1 : i' = nI i := g1
    subst g1
    have g2 : N.1 141 7 = nI (s + i) := g2
    have g3 : s + i ≤ n := g3
    have g5 : (N.2.1 141 11).toInt = hvO g s i := g5
    have g6 : B1 M N := g6
    have g7 : ∀ j, j ≠ 7 → N.1 141 j = M.1 141 j := g7
    have hT := h.b1 g6
    show (∃ s', fX9_next_102 (nI i) N = _ ∧ _) ∨ ∃ r, fX9_next_102 (nI i) N = _ ∧ _
    unfold fX9_next_102
    rw [g2, show (97 : Int32) = nI 97 from rfl, show (122 : Int32) = nI 122 from rfl, M_isByte hT g3 (by omega) (by omega), gB0_some, ite_bI, decide_eq_true (show s + i < n by omega), Bool.true_and, ltr_d]
    cases hc : ltr (g (s + i))
    · rw [if_neg (by decide)]
      have i0 : 1 ≤ i := by
        rcases Nat.eq_zero_or_pos i with e | e
        · subst e; rw [Nat.add_zero, hl] at hc; cases hc
        · exact e
      have e := one i i0 g3 g4 (fun _ => hc)
      refine Or.inr ⟨_, rfl, by rw [e]; exact g2, ?_, g6, g7⟩
      rw [e, Nat.add_sub_cancel_left]; exact g5
    · rw [if_pos rfl]
      have lb := ltr_i hc
      have fin : ∀ (K : gMem), (K.2.1 141 11).toInt = hvO g s (i + 1) → B1 N K → K.1 = N.1 → ∃ s', (fX9_next_169 (nI i) K = some (Sum.inl s') ∧ (s'.1 = nI (i + 1) ∧ (s'.2.1 141 7 = nI (s + (i + 1)) ∧ s + (i + 1) ≤ n) ∧ (∀ j, s ≤ j → j < s + (i + 1) → ltr (g j) = true) ∧ (s'.2.2.1 141 11).toInt = hvO g s (i + 1) ∧ B1 M s'.2 ∧ (∀ j, j ≠ 7 → s'.2.1 141 j = M.1 141 j))) := by
        intro K k1 k2 k3
        unfold fX9_next_169
        refine ⟨_, rfl, nI_1 i, ⟨?_, by omega⟩, fun j a b => ?_, k1, g6.tr (k2.tr (B1.si (by omega) (by omega))), fun j hj => (gSI_nj hj).trans (by rw [k3]; exact g7 j hj)⟩
        · show (gSI K 141 7 (K.1 141 7 + 1)).1 141 7 = _
          rw [gSI_eq, k3, g2, nI_1]; congr 1
        · by_cases x : j = s + i
          · subst x; exact hc
          · exact g4 j a (by omega)
      by_cases c11 : i ≤ 11
      · have c12 : nI i ≤ (11 : Int32) := nI_le (b := 11) c11 (by omega)
        rw [if_pos c12, if_pos (ix146 (by omega)), nI_clamp (by omega)]
        unfold fX9_next_153
        rw [if_pos c12]
        obtain ⟨s', h1, h2⟩ := fin (gSJ N 141 11 ((((27 : Int64) * (N.2.1 141 11)) + (Int32.toInt64 (N.1 146 (s + i)))) - (96 : Int64))) (by
          rw [gSJ_eq, hT.2.2 _ (by omega), (sx_k _ (h.2.1 _)).2.1 (by omega)]
          have hb := hs_lt (g := g) (s := s) i (fun j hj => (ltr_i (g4 (s + j) (by omega) (by omega))).2)
          have p27 : (27 : Nat) ^ i ≤ 27 ^ 11 := Nat.pow_le_pow_right (by omega) c11
          have e27 : (27 : Nat) ^ 11 = 5559060566555523 := by decide
          unfold hvO at g5 ⊢
          rw [if_pos (by omega)] at g5
          rw [if_pos (by omega), hs]
          have t1 := k_mul (x := 27) (a := 27) rfl g5 (by omega)
          have t2 := k_add t1 (y := (nI (g (s + i))).toInt64) (b := (g (s + i) : Int)) (by rw [Int32.toInt_toInt64, nI_int _ (by omega)]) (by omega)
          have t3 := k_sub t2 (y := 96) (b := 96) rfl (by omega)
          rw [t3]
          omega) B1.sj rfl
        exact Or.inl ⟨s', h1, h2⟩
      · have c12 : ¬ nI i ≤ (11 : Int32) := nI_ge (a := 11) (by omega) (by omega)
        rw [if_neg c12]
        unfold fX9_next_153 fX9_next_166
        rw [if_neg c12]
        obtain ⟨s', h1, h2⟩ := fin (gSJ (gSJ N 141 11 (-1)) 141 11 (-1)) (by
          rw [gSJ_eq]
          unfold hvO
          rw [if_neg (by omega)]; rfl) (B1.sj.tr B1.sj) rfl
        exact Or.inl ⟨s', h1, h2⟩
  · obtain ⟨i', N⟩ := st
    obtain ⟨g1, ⟨g2, g3⟩, g4, g5, g6, g7⟩ := hI
    have g1 : i' = nI (n - s) := g1
    subst g1
    have g2 : N.1 141 7 = nI (s + (n - s)) := g2
    have g3 : s + (n - s) ≤ n := g3
    have g6 : B1 M N := g6
    have hT := h.b1 g6
    show ∃ r, fX9_next_102 (nI (n - s)) N = _ ∧ _
    unfold fX9_next_102
    rw [g2, show (97 : Int32) = nI 97 from rfl, show (122 : Int32) = nI 122 from rfl, M_isByte hT g3 (by omega) (by omega), gB0_some, ite_bI, decide_eq_false (show ¬ s + (n - s) < n by omega), Bool.false_and, if_neg (by decide)]
    have e := one (n - s) (by omega) g3 g4 (fun x => by omega)
    refine ⟨_, rfl, by rw [e]; exact g2, ?_, g6, g7⟩
    rw [e, Nat.add_sub_cancel_left]; exact g5
theorem M_next208 {M : gMem} {g : Nat → Nat} {n s : Nat} (h : TBm M g n) (hs0 : s < n) (hl : dgt (g s) = true) (h7 : M.1 141 7 = nI s) (h10 : M.1 141 10 = 0) : ∃ N, fX9_next_208h M = some N ∧ N.1 141 7 = nI (rn n (fun k => dgt (g k)) (s + 1)) ∧ N.1 141 10 = nI (vr g s (rn n (fun k => dgt (g k)) (s + 1) - s)) ∧ B1 M N ∧ (∀ j, j ≠ 7 → j ≠ 10 → N.1 141 j = M.1 141 j) := by
  have q2 := h.1.2
  have one : ∀ s', 1 ≤ s' → s + s' ≤ n → (∀ j, s ≤ j → j < s + s' → dgt (g j) = true) → (s + s' < n → dgt (g (s + s')) = false) → rn n (fun k => dgt (g k)) (s + 1) = s + s' := fun s' a b c d => rn_u (by omega) b (fun j x y => c j (by omega) y) d
  unfold fX9_next_208h
  refine gLp_inv (fun i (st : gMem) => (st.1 141 7 = nI (s + i) ∧ s + i ≤ n) ∧ (∀ j, s ≤ j → j < s + i → dgt (g j) = true) ∧ st.1 141 10 = nI (vr g s i) ∧ B1 M st ∧ (∀ j, j ≠ 7 → j ≠ 10 → st.1 141 j = M.1 141 j)) (n - s) (fun (N : gMem) => N.1 141 7 = nI (rn n (fun k => dgt (g k)) (s + 1)) ∧ N.1 141 10 = nI (vr g s (rn n (fun k => dgt (g k)) (s + 1) - s)) ∧ B1 M N ∧ (∀ j, j ≠ 7 → j ≠ 10 → N.1 141 j = M.1 141 j)) (by omega) (fun i N hi hI => ?_) (fun N hI => ?_) _ ⟨⟨h7, by omega⟩, fun j a b => by omega, h10, B1.rf, fun _ _ _ => rfl⟩
  · obtain ⟨⟨g2, g3⟩, g4, g5, g6, g7⟩ := hI
    have hT := h.b1 g6
    show (∃ s', fX9_next_208 N = _ ∧ _) ∨ ∃ r, fX9_next_208 N = _ ∧ _
    unfold fX9_next_208
    rw [g2, show (48 : Int32) = nI 48 from rfl, show (57 : Int32) = nI 57 from rfl, M_isByte hT g3 (by omega) (by omega), gB0_some, ite_bI, decide_eq_true (show s + i < n by omega), Bool.true_and, dgt_d]
    cases hc : dgt (g (s + i))
    · rw [if_neg (by decide)]
      have i0 : 1 ≤ i := by
        rcases Nat.eq_zero_or_pos i with e | e
        · subst e; rw [Nat.add_zero, hl] at hc; cases hc
        · exact e
      have e := one i i0 g3 g4 (fun _ => hc)
      refine Or.inr ⟨_, rfl, by rw [e]; exact g2, ?_, g6, g7⟩
      rw [e, Nat.add_sub_cancel_left]; exact g5
    · rw [if_pos rfl]
      have db := dgt_i hc
      have vl := vr_le g s h.2.1 i
      have fin : ∀ x, x = nI (vr g s (i + 1)) → ∃ s', (fX9_next_258 x N = some (Sum.inl s') ∧ ((s'.1 141 7 = nI (s + (i + 1)) ∧ s + (i + 1) ≤ n) ∧ (∀ j, s ≤ j → j < s + (i + 1) → dgt (g j) = true) ∧ s'.1 141 10 = nI (vr g s (i + 1)) ∧ B1 M s' ∧ (∀ j, j ≠ 7 → j ≠ 10 → s'.1 141 j = M.1 141 j))) := by
        intro x hx
        unfold fX9_next_258 fX9_next_263
        refine ⟨_, rfl, ⟨?_, by omega⟩, fun j a b => ?_, ?_, g6.tr ((B1.si (by omega) (by omega)).tr (B1.si (by omega) (by omega))), fun j hj hj2 => (gSI_nj hj).trans ((gSI_nj hj2).trans (g7 j hj hj2))⟩
        · rw [gSI_eq, gSI_nj (by omega), g2, nI_1]; congr 1
        · by_cases x : j = s + i
          · subst x; exact hc
          · exact g4 j a (by omega)
        · rw [gSI_nj (by omega), gSI_eq, hx]
      rw [g5]
      by_cases cv : vr g s i ≤ 100000
      · rw [if_pos (show nI (vr g s i) ≤ (100000 : Int32) from nI_le (b := 100000) cv (by omega)), if_pos (ix146 (by omega)), nI_clamp (by omega), hT.2.2 _ (by omega), (sx_k _ (h.2.1 _)).2.1 (by omega)]
        obtain ⟨s', h1, h2⟩ := fin (((10 : Int32) * nI (vr g s i) + nI (g (s + i))) - nI 48) (by
          rw [show (10 : Int32) = nI 10 from rfl, pk_mul, nI_add, pk_sub (by omega), vr, if_neg (by omega)]
          congr 1; omega)
        exact Or.inl ⟨s', h1, h2⟩
      · rw [if_neg (show ¬ nI (vr g s i) ≤ (100000 : Int32) from nI_ge (a := 100000) (by omega) (by omega))]
        obtain ⟨s', h1, h2⟩ := fin (1000000 : Int32) (by
          rw [vr, if_pos (by omega)]; rfl)
        exact Or.inl ⟨s', h1, h2⟩
  · obtain ⟨⟨g2, g3⟩, g4, g5, g6, g7⟩ := hI
    have hT := h.b1 g6
    show ∃ r, fX9_next_208 N = _ ∧ _
    unfold fX9_next_208
    rw [g2, show (48 : Int32) = nI 48 from rfl, show (57 : Int32) = nI 57 from rfl, M_isByte hT g3 (by omega) (by omega), gB0_some, ite_bI, decide_eq_false (show ¬ s + (n - s) < n by omega), Bool.false_and, if_neg (by decide)]
    have e := one (n - s) (by omega) g3 g4 (fun x => by omega)
    refine ⟨_, rfl, by rw [e]; exact g2, ?_, g6, g7⟩
    rw [e, Nat.add_sub_cancel_left]; exact g5
theorem M_next53 {M : gMem} {g : Nat → Nat} {n p : Nat} (h : TBm M g n) (hp : p ≤ n) (h7 : M.1 141 7 = nI (tS g n p)) : ∃ N, fX9_next_53 (0 : Int32) (gSI M 141 9 (M.1 141 7)) = some N ∧ TKm N g n p ∧ B1 M N := by
  have q2 := h.1.2
  have hsl := tS_le (g := g) hp
  unfold fX9_next_53 fX9_next_58
  obtain ⟨P, hP⟩ : ∃ P, P = gSJ (gSI (gSI M 141 9 (M.1 141 7)) 141 10 0) 141 11 0 := ⟨_, rfl⟩
  rw [← hP]
  have p7 : P.1 141 7 = nI (tS g n p) := by rw [hP, gSJ_2, gSI_nj (by omega), gSI_nj (by omega)]; exact h7
  have p9 : P.1 141 9 = nI (tS g n p) := by rw [hP, gSJ_2, gSI_nj (by omega), gSI_eq]; exact h7
  have p10 : P.1 141 10 = 0 := by rw [hP, gSJ_2, gSI_eq]
  have p11 : P.2.1 141 11 = 0 := by rw [hP]; exact gSJ_eq
  have b0 : B1 M P := by rw [hP]; exact ((B1.si (by omega) (by omega)).tr (B1.si (by omega) (by omega))).tr B1.sj
  have hT := h.b1 b0
  unfold fX9_next_62
  rw [p7, hT.1.1]
  by_cases c : tS g n p = n
  · have k0 : tK g n p = 0 := (tK_0 hp).mpr c
    rw [if_pos (by rw [c])]
    refine ⟨_, rfl, ⟨?_, ?_, ?_, ?_, fun k1 => by omega⟩, b0.tr (B1.si (by omega) (by omega))⟩
    · rw [gSI_nj (by omega)]; exact p9
    · rw [gSI_nj (by omega), p7]; unfold tE; rw [if_pos k0]
    · rw [gSI_eq, k0]; rfl
    · rw [gSI_nj (by omega), p10]; unfold tV; rw [k0, if_neg (by decide)]; rfl
  · have hlt : tS g n p < n := by omega
    have ek : tK g n p = kdB (g (tS g n p)) := by unfold tK; rw [if_pos hlt]
    have kb := kdB_le (g (tS g n p))
    rw [if_neg (fun e => c ((nI_eq (by omega) (by omega)).mp e)), show (97 : Int32) = nI 97 from rfl, show (122 : Int32) = nI 122 from rfl, M_isByte hT hsl.2 (by omega) (by omega), gB0_some, ite_bI, decide_eq_true hlt, Bool.true_and, ltr_d, show (48 : Int32) = nI 48 from rfl, show (57 : Int32) = nI 57 from rfl, M_isByte hT hsl.2 (by omega) (by omega), gB0_some, ite_bI, decide_eq_true hlt, Bool.true_and, dgt_d]
    cases hl : ltr (g (tS g n p))
    · rw [if_neg (by decide)]
      cases hd : dgt (g (tS g n p))
      · rw [if_neg (by decide), if_pos (ix146 (by omega)), nI_clamp (by omega), hT.2.2 _ hlt]
        have e59 : (sx (g (tS g n p)) = (59 : Int32)) = (g (tS g n p) = 59) := by
          have key : ∀ b, b < 256 → (sx b = (59 : Int32) ↔ b = 59) := by decide +kernel
          exact propext (key _ (h.2.1 _))
        simp only [e59]
        unfold fX9_next_294 fX9_next_299
        have rest : ∀ x, x = nI (tK g n p) → tK g n p ≠ 0 → tK g n p ≠ 1 → tK g n p ≠ 2 → ∃ N, some (gSI (gSI P 141 8 x) 141 7 ((gSI P 141 8 x).1 141 7 + 1)) = some N ∧ TKm N g n p ∧ B1 M N := by
          intro x hx n0 n1 n2
          refine ⟨_, rfl, ⟨?_, ?_, ?_, ?_, fun k1 => absurd k1 n1⟩, b0.tr ((B1.si (by omega) (by omega)).tr (B1.si (by omega) (by omega)))⟩
          · rw [gSI_nj (by omega), gSI_nj (by omega)]; exact p9
          · rw [gSI_eq, gSI_nj (by omega), p7, nI_1]; unfold tE; rw [if_neg n0, if_neg n1, if_neg n2]
          · rw [gSI_nj (by omega), gSI_eq, hx]
          · rw [gSI_nj (by omega), gSI_nj (by omega), p10]; unfold tV; rw [if_neg n2]; rfl
        have ek2 : tK g n p = if g (tS g n p) = 59 then 3 else 4 := by rw [ek]; unfold kdB; rw [hl, hd, if_neg (by decide), if_neg (by decide)]
        by_cases c59 : g (tS g n p) = 59
        · rw [if_pos c59]
          rw [if_pos c59] at ek2
          exact rest _ (by rw [ek2]; rfl) (by omega) (by omega) (by omega)
        · rw [if_neg c59]
          rw [if_neg c59] at ek2
          exact rest _ (by rw [ek2]; rfl) (by omega) (by omega) (by omega)
      · have k2 : tK g n p = 2 := by rw [ek]; unfold kdB; rw [hl, hd, if_neg (by decide), if_pos rfl]
        rw [if_pos rfl]
        obtain ⟨N, n1, n2, n3, n4, n5⟩ := M_next208 (hT.b1 (B1.si (j := 8) (x := 2) (by omega) (by omega))) hlt hd ((gSI_nj (by omega)).trans p7) ((gSI_nj (by omega)).trans p10)
        have eE : tE g n p = rn n (fun k => dgt (g k)) (tS g n p + 1) := by unfold tE; rw [if_neg (by omega), if_neg (by omega), if_pos k2]
        refine ⟨N, n1, ⟨?_, ?_, ?_, ?_, fun k1 => by omega⟩, b0.tr ((B1.si (by omega) (by omega)).tr n4)⟩
        · rw [n5 9 (by omega) (by omega), gSI_nj (by omega)]; exact p9
        · rw [n2, eE]
        · rw [n5 8 (by omega) (by omega), gSI_eq, k2]; rfl
        · rw [n3]; unfold tV; rw [if_pos k2, eE]
    · have k1 : tK g n p = 1 := by rw [ek]; unfold kdB; rw [hl, if_pos rfl]
      rw [if_pos rfl]
      obtain ⟨N, n1, n2, n3, n4, n5⟩ := M_next102 (hT.b1 (B1.si (j := 8) (x := 1) (by omega) (by omega))) hlt hl ((gSI_nj (by omega)).trans p7) p11
      have eE : tE g n p = rn n (fun k => ltr (g k)) (tS g n p + 1) := by unfold tE; rw [if_neg (by omega), if_pos k1]
      refine ⟨N, n1, ⟨?_, ?_, ?_, ?_, fun _ => ?_⟩, b0.tr ((B1.si (by omega) (by omega)).tr n4)⟩
      · rw [n5 9 (by omega), gSI_nj (by omega)]; exact p9
      · rw [n2, eE]
      · rw [n5 8 (by omega), gSI_eq, k1]; rfl
      · rw [n5 10 (by omega), gSI_nj (by omega), p10]; unfold tV; rw [k1, if_neg (by decide)]; rfl
      · rw [n3, eE]
theorem M_next {M : gMem} {g : Nat → Nat} {n p : Nat} (h : TBm M g n) (hp : p ≤ n) (h7 : M.1 141 7 = nI p) : ∃ N, fX9_next M = some N ∧ TKm N g n p ∧ B1 M N := by
  have q2 := h.1.2
  have bk : ∀ b, blk b = ((decide (32 ≤ b) && decide (b ≤ 32)) || (decide (10 ≤ b) && decide (b ≤ 10))) := fun b => by
    unfold blk
    refine Bool.eq_iff_iff.mpr ?_
    simp only [Bool.or_eq_true, Bool.and_eq_true, decide_eq_true_eq]
    omega
  unfold fX9_next fX9_next_0h
  refine gLp_inv (fun i (st : gMem) => (st.1 141 7 = nI (p + i) ∧ p + i ≤ n) ∧ (∀ j, p ≤ j → j < p + i → blk (g j) = true) ∧ B1 M st) (n - p) (fun (N : gMem) => TKm N g n p ∧ B1 M N) (by omega) (fun i N hi hI => ?_) (fun N hI => ?_) _ ⟨⟨h7, by omega⟩, fun j a b => by omega, B1.rf⟩
  · obtain ⟨⟨g1, g2⟩, g3, g5⟩ := hI
    have hT := h.b1 g5
    have hstep : fX9_next_0 N = if blk (g (p + i)) = true then some (.inl (gSI N 141 7 (nI (p + i) + 1))) else gEx (fX9_next_53 (0 : Int32) (gSI N 141 9 (N.1 141 7))) := by
      unfold fX9_next_0 fX9_next_30
      rw [g1, show (32 : Int32) = nI 32 from rfl, show (10 : Int32) = nI 10 from rfl, M_isByte hT g2 (by omega) (by omega), gB0_some, ite_bI, M_isByte hT g2 (by omega) (by omega), gB0_some, ite_bI, decide_eq_true (show p + i < n by omega), Bool.true_and, Bool.true_and, bk]
      cases (decide (32 ≤ g (p + i)) && decide (g (p + i) ≤ 32)) <;> cases (decide (10 ≤ g (p + i)) && decide (g (p + i) ≤ 10)) <;> rfl
    show (∃ s', fX9_next_0 N = _ ∧ _) ∨ ∃ r, fX9_next_0 N = _ ∧ _
    rw [hstep]
    cases hc : blk (g (p + i))
    · have e : tS g n p = p + i := rn_u (by omega) (by omega) g3 (fun _ => hc)
      obtain ⟨K, k1, k2, k3⟩ := M_next53 hT hp (by rw [e]; exact g1)
      rw [if_neg (by decide), k1, gEx_some]
      exact Or.inr ⟨_, rfl, k2, g5.tr k3⟩
    · rw [if_pos rfl, nI_1]
      refine Or.inl ⟨_, rfl, ⟨by rw [gSI_eq]; congr 1, by omega⟩, fun j a b => ?_, g5.tr (B1.si (by omega) (by omega))⟩
      by_cases x : j = p + i
      · subst x; exact hc
      · exact g3 j a (by omega)
  · obtain ⟨⟨g1, g2⟩, g3, g5⟩ := hI
    have hT := h.b1 g5
    have e : tS g n p = n := rn_u (by omega) (by omega) (fun j a b => g3 j a (by omega)) (fun x => by omega)
    obtain ⟨K, k1, k2, k3⟩ := M_next53 hT hp (by rw [e, g1]; congr 1; omega)
    show ∃ r, fX9_next_0 N = _ ∧ _
    unfold fX9_next_0
    rw [g1] at k1
    rw [g1, show (32 : Int32) = nI 32 from rfl, show (10 : Int32) = nI 10 from rfl, M_isByte hT g2 (by omega) (by omega), gB0_some, ite_bI, M_isByte hT g2 (by omega) (by omega), gB0_some, ite_bI, decide_eq_false (show ¬ p + (n - p) < n by omega), Bool.false_and, Bool.false_and, if_neg (by decide), if_neg (by decide), k1, gEx_some]
    exact ⟨_, rfl, k2, g5.tr k3⟩
