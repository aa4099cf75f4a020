/-! The text: words, numbers, signs; what both do at a fault. -/
def wN (w i : Nat) : Nat := (gTc w i).toNatClampNeg
theorem wN_k : ∀ w, w < 14 → (1 ≤ gTn2 w ∧ gTn2 w ≤ 12) ∧ ∀ i, i < gTn2 w → gTc w i = nI (wN w i) ∧ 97 ≤ wN w i ∧ wN w i ≤ 122 := by decide +kernel
theorem nI_nek {a k : Nat} (ha : a ≤ 4) (hk : k ≤ 4) (h : ¬ a = k) : ¬ nI a = nI k := fun e => h ((nI_eq (by omega) (by omega)).mp e)
def isW (g : Nat → Nat) (n w p : Nat) : Bool := decide (tK g n p = 1) && (decide (tE g n p - tS g n p = gTn2 w) && alU (fun i => decide (g (tS g n p + i) = wN w i)) (gTn2 w))
theorem C_isWord {M : gMem} {g : Nat → Nat} {n p w : Nat} (h : TBc M g n) (hp : p ≤ n) (hk : TKc M g n p) (hw : w < 14) : fX5_isWord (910 + w) M = some (bI (isW g n w p)) := by
  have q2 := h.1.2
  obtain ⟨k5, k6, k4, -⟩ := hk
  obtain ⟨⟨l1, l2⟩, lc⟩ := wN_k w hw
  have kl := tK_le g n p
  have e1 := tE_le (g := g) hp
  have s1 := tS_le (g := g) hp
  have eL : fJ0_length_8abf5 (910 + w) M = some (nI (gTn2 w)) := by
    unfold fJ0_length_8abf5
    rw [Nat.add_sub_cancel_left]
  unfold fX5_isWord fX5_isWord_0 isW
  rw [k4, k5, k6, pk_sub e1.1, eL, gB0_some]
  by_cases c1 : tK g n p = 1
  · rw [c1, if_pos (show nI 1 = 1 from rfl), decide_eq_true (rfl : 1 = 1), Bool.true_and]
    by_cases c2 : tE g n p - tS g n p = gTn2 w
    · rw [if_pos (by rw [c2]), decide_eq_true c2, Bool.true_and]
      unfold fX5_isWord_28h
      refine Eq.trans (gLp_al (st := fun i => nI i) (g := fun i => decide (g (tS g n p + i) = wN w i)) (m := gTn2 w) (A := 0) (B := 1) (by omega) (fun i hi => ?_) ?_ 0 rfl) ?_
      rotate_right
      · cases alU (fun i => decide (g (tS g n p + i) = wN w i)) (gTn2 w) <;> rfl
      · show fX5_isWord_28 (910 + w) (nI i) M = _
        unfold fX5_isWord_28
        have eC : fJ0_charAt_5068e (910 + w) (nI i) M = some (nI (wN w i)) := by
          unfold fJ0_charAt_5068e
          rw [Nat.add_sub_cancel_left, nI_int _ (by omega), if_pos (by omega), nI_clamp (by omega), (lc i hi).1]
        rw [eL, gB0_some, if_neg (nI_ge hi (by omega)), k5, nI_add, C_at h (by omega), gB0_some, if_pos (show tS g n p + i < n by omega), eC, gB0_some, nI_1]
        have hb := (lc i hi).2
        have gb := h.2.1 (tS g n p + i)
        simp only [nI_eq (show g (tS g n p + i) < 2 ^ 31 by omega) (show wN w i < 2 ^ 31 by omega)]
        by_cases c3 : g (tS g n p + i) = wN w i
        · rw [if_pos c3, decide_eq_true c3, if_pos rfl]
        · rw [if_neg c3, decide_eq_false c3, if_neg (by decide)]
      · show fX5_isWord_28 (910 + w) (nI (gTn2 w)) M = _
        unfold fX5_isWord_28
        rw [eL, gB0_some, if_pos (Int32.le_refl _)]
    · rw [if_neg (fun e => c2 ((nI_eq (by omega) (by omega)).mp e)), decide_eq_false c2]; rfl
  · rw [if_neg (show ¬ nI (tK g n p) = (1 : Int32) from nI_nek kl (show 1 ≤ 4 by omega) c1), decide_eq_false c1]; rfl
/-! a word is its number -/
theorem hs_inj {g g' : Nat → Nat} {s s' : Nat} : ∀ k k', (∀ j, j < k → 97 ≤ g (s + j) ∧ g (s + j) ≤ 122) → (∀ j, j < k' → 97 ≤ g' (s' + j) ∧ g' (s' + j) ≤ 122) → hs g s k = hs g' s' k' → k = k' ∧ ∀ j, j < k → g (s + j) = g' (s' + j) := by
  intro k
  induction k with
  | zero =>
    intro k' _ h2 e
    cases k' with
    | zero => exact ⟨rfl, fun j hj => absurd hj (Nat.not_lt_zero j)⟩
    | succ k' =>
      have := h2 k' (by omega)
      rw [hs, hs] at e
      omega
  | succ k ih =>
    intro k' h1 h2 e
    have a := h1 k (by omega)
    cases k' with
    | zero =>
      rw [hs, hs] at e
      omega
    | succ k' =>
      have b := h2 k' (by omega)
      rw [hs, hs] at e
      have e1 : hs g s k = hs g' s' k' := by omega
      have e2 : g (s + k) = g' (s' + k') := by omega
      obtain ⟨i1, i2⟩ := ih k' (fun j hj => h1 j (by omega)) (fun j hj => h2 j (by omega)) e1
      subst i1
      refine ⟨rfl, fun j hj => ?_⟩
      by_cases c : j = k
      · subst c; exact e2
      · exact i2 j (by omega)
theorem tE_ltr {g : Nat → Nat} {n p : Nat} (hp : p ≤ n) (h : tK g n p = 1) : ∀ j, tS g n p ≤ j → j < tE g n p → ltr (g j) = true := by
  intro j a b
  have hlt : tS g n p < n := by
    have := mt (tK_0 (g := g) hp).mpr (by omega)
    have := tS_le (g := g) hp
    omega
  have ek : kdB (g (tS g n p)) = 1 := by
    unfold tK at h
    rw [if_pos hlt] at h; exact h
  by_cases c : j = tS g n p
  · subst c
    unfold kdB at ek
    cases hl : ltr (g (tS g n p))
    · rw [hl, if_neg (by decide)] at ek
      split at ek
      · omega
      · split at ek <;> omega
    · rfl
  · have eE : tE g n p = rn n (fun k => ltr (g k)) (tS g n p + 1) := by unfold tE; rw [if_neg (by omega), if_pos h]
    rw [eE] at b
    exact rn_c (c := fun k => ltr (g k)) j (by omega) b
theorem alU_i {f : Nat → Bool} {m : Nat} (h : ∀ k, k < m → f k = true) : alU f m = true := by
  unfold alU
  rw [frO_none.mpr (fun k hk => by rw [h k hk]; rfl)]
theorem isW_h {g : Nat → Nat} {n p w : Nat} (hp : p ≤ n) (hw : w < 14) (h : tK g n p = 1) : (hvO g (tS g n p) (tE g n p - tS g n p) = (hs (wN w) 0 (gTn2 w) : Int)) ↔ isW g n w p = true := by
  obtain ⟨⟨l1, l2⟩, lc⟩ := wN_k w hw
  have e1 := tE_le (g := g) hp
  unfold isW
  rw [decide_eq_true h, Bool.true_and, Bool.and_eq_true, decide_eq_true_eq]
  constructor
  · intro e
    unfold hvO at e
    by_cases c : tE g n p - tS g n p ≤ 12
    · rw [if_pos c] at e
      obtain ⟨i1, i2⟩ := hs_inj (g := g) (g' := wN w) (s := tS g n p) (s' := 0) (tE g n p - tS g n p) (gTn2 w) (fun j hj => ltr_i (tE_ltr hp h _ (by omega) (by omega))) (fun j hj => by rw [Nat.zero_add]; exact (lc j hj).2) (by omega)
      refine ⟨i1, alU_i (fun k hk => decide_eq_true ?_)⟩
      have := i2 k (by omega)
      rw [Nat.zero_add] at this; exact this
    · rw [if_neg c] at e
      omega
  · rintro ⟨e, a⟩
    unfold hvO
    rw [if_pos (by omega), e]
    have key : ∀ k, k ≤ gTn2 w → hs g (tS g n p) k = hs (wN w) 0 k := by
      intro k
      induction k with
      | zero => intro _; rfl
      | succ k ih =>
        intro hk
        have := of_decide_eq_true (alU_t a k (by omega))
        rw [hs, hs, ih (by omega), this, Nat.zero_add]
    rw [key _ (Nat.le_refl _)]
/-- the words' numbers, as the reference has them -/
def hW (w : Nat) : Int64 := match w with
  | 0 => 66175
  | 1 => 13385674
  | 2 => 8798
  | 3 => 10349251
  | 4 => 298288
  | 5 => 6223046688
  | 6 => 459383
  | 7 => 12532058
  | 8 => 3746728
  | 9 => 208022
  | 10 => 16818
  | 11 => 90090
  | 12 => 70312
  | _ => 47
theorem hW_k : ∀ w, w < 14 → (hW w).toInt = (hs (wN w) 0 (gTn2 w) : Int) := by decide +kernel
theorem M_is {M : gMem} {g : Nat → Nat} {n p w : Nat} (hp : p ≤ n) (hk : TKm M g n p) (hb : M.1 141 12 = 0) (hw : w < 14) : fX9_is (hW w) M = some (bI (isW g n w p)) := by
  obtain ⟨-, -, k8, -, k11⟩ := hk
  have kl := tK_le g n p
  unfold fX9_is fX9_is_0
  rw [hb, if_pos rfl, k8]
  by_cases c1 : tK g n p = 1
  · rw [c1, if_pos (show nI 1 = 1 from rfl)]
    simp only [lg_cmp_eq]
    have e : (M.2.1 141 11 = hW w) = (isW g n w p = true) := propext (by
      rw [← Int64.toInt_inj, k11 c1, hW_k w hw]
      exact isW_h hp hw c1)
    simp only [e]
    cases isW g n w p <;> rfl
  · rw [if_neg (show ¬ nI (tK g n p) = (1 : Int32) from nI_nek kl (show 1 ≤ 4 by omega) c1)]
    unfold isW
    rw [decide_eq_false c1]; rfl
/-! where one is: behind a fault, or at a token -/
abbrev gPs : Type := Sum (Nat × Nat) Nat
def sB (s : gPs) (f : Nat → gPs) : gPs := match s with
  | .inl e => .inl e
  | .inr p => f p
def rdW (g : Nat → Nat) (n w p : Nat) : gPs := if isW g n w p = true then .inr (tE g n p) else .inl (1, tS g n p)
def rdS (g : Nat → Nat) (n p : Nat) : gPs := if tK g n p = 3 then .inr (tE g n p) else .inl (1, tS g n p)
def okN (g : Nat → Nat) (n lo hi p : Nat) : Bool := decide (tK g n p = 2) && (decide (lo ≤ tV g n p) && decide (tV g n p < hi))
def rdN (g : Nat → Nat) (n lo hi p : Nat) : gPs := if okN g n lo hi p = true then .inr (tE g n p) else .inl (if tK g n p = 2 then 2 else 1, tS g n p)
def CSt (M : gMem) (g : Nat → Nat) (n : Nat) (s : gPs) : Prop := TBc M g n ∧ match s with
  | .inr p => p ≤ n ∧ TKc M g n p ∧ M.1 1 2 = 0 ∧ M.1 1 3 = -1
  | .inl e => (∃ p, p ≤ n ∧ TKc M g n p) ∧ (1 ≤ e.1 ∧ e.1 ≤ 3) ∧ M.1 1 2 = nI e.1 ∧ M.1 1 3 = nI e.2
theorem A1.fr {M N : gMem} (h : A1 M N) : Fr 1 2 M N := ⟨fun q hq => h.1 q (by omega), h.2.2⟩
theorem TBc.fr {M N : gMem} {g : Nat → Nat} {n : Nat} (h : TBc M g n) (a : Fr 1 2 M N) : TBc N g n := by
  unfold TBc
  rw [a.1 2 (by omega), a.1 3 (by omega)]; exact h
theorem C_refuse {M : gMem} {g : Nat → Nat} {n p k : Nat} (h : CSt M g n (.inr p)) (hk : 1 ≤ k ∧ k ≤ 3) : ∃ N, fX5_refuse (nI k) M = some N ∧ CSt N g n (.inl (k, tS g n p)) ∧ Fr 1 2 M N := by
  obtain ⟨h1, h2, h3, h4, h5⟩ := h
  unfold fX5_refuse fX5_refuse_0 fX5_refuse_14
  rw [h4, if_pos rfl]
  have f : Fr 1 2 M (gSI (gSI M 1 2 (nI k)) 1 3 ((gSI M 1 2 (nI k)).1 1 5)) := (Fr.si (by omega) (by omega)).tr (Fr.si (by omega) (by omega))
  obtain ⟨a, b, c, d⟩ := h3
  refine ⟨_, rfl, ⟨h1.fr f, ⟨p, h2, ?_, ?_, ?_, ?_⟩, hk, ?_, ?_⟩, f⟩
  · rw [gSI_nj (by omega), gSI_nj (by omega)]; exact a
  · rw [gSI_nj (by omega), gSI_nj (by omega)]; exact b
  · rw [gSI_nj (by omega), gSI_nj (by omega)]; exact c
  · rw [gSI_nj (by omega), gSI_nj (by omega)]; exact d
  · rw [gSI_nj (by omega), gSI_eq]
  · rw [gSI_eq, gSI_nj (by omega)]; exact a
theorem C_refuse_no {M : gMem} {g : Nat → Nat} {n : Nat} {e : Nat × Nat} (h : CSt M g n (.inl e)) (x : Int32) : fX5_refuse x M = some M := by
  obtain ⟨h1, h2, h3, h4, h5⟩ := h
  unfold fX5_refuse fX5_refuse_0
  rw [h4, if_neg (nI_ne0 (by omega) (by omega))]
theorem C_adv {M : gMem} {g : Nat → Nat} {n p : Nat} (h : CSt M g n (.inr p)) : ∃ N, fX5_advance M = some N ∧ CSt N g n (.inr (tE g n p)) ∧ Fr 1 2 M N := by
  obtain ⟨h1, h2, h3, h4, h5⟩ := h
  have e1 := tE_le (g := g) h2
  obtain ⟨N, n1, n2, n3⟩ := C_advance h1 e1.2.1 h3.2.1
  exact ⟨N, n1, ⟨h1.a1 n3, e1.2.1, n2, by rw [n3.2.1 2 (by omega)]; exact h4, by rw [n3.2.1 3 (by omega)]; exact h5⟩, n3.fr⟩
theorem C_expectWord {M : gMem} {g : Nat → Nat} {n w : Nat} {s : gPs} (h : CSt M g n s) (hw : w < 14) : ∃ N, fX5_expectWord (910 + w) M = some N ∧ CSt N g n (sB s (rdW g n w)) ∧ Fr 1 2 M N := by
  unfold fX5_expectWord fX5_expectWord_0 fX5_expectWord_13
  match s, h with
  | .inr p, h =>
    have h' := h
    obtain ⟨h1, h2, h3, h4, h5⟩ := h'
    rw [C_isWord h1 h2 h3 hw, gB0_some, ite_bI]
    show ∃ N, _ ∧ CSt N g n (rdW g n w p) ∧ _
    unfold rdW
    cases isW g n w p
    · rw [if_neg (by decide), if_neg (by decide)]
      obtain ⟨N, n1, n2, n3⟩ := C_refuse (k := 1) h (by omega)
      rw [show (1 : Int32) = nI 1 from rfl, n1, gB0_some, show N.1 1 2 = nI 1 from n2.2.2.2.1, if_neg (by decide)]
      exact ⟨N, rfl, n2, n3⟩
    · rw [if_pos rfl, if_pos rfl, h4, if_pos rfl]
      obtain ⟨N, n1, n2, n3⟩ := C_adv h
      rw [n1, gB0_some]
      exact ⟨N, rfl, n2, n3⟩
  | .inl e, h =>
    have h' := h
    obtain ⟨h1, ⟨p, h2, h3⟩, h4, h5, h6⟩ := h'
    have n0 : ¬ nI e.1 = 0 := nI_ne0 (by omega) (by omega)
    rw [C_isWord h1 h2 h3 hw, gB0_some, ite_bI, C_refuse_no h, gB0_some, h5, if_neg n0]
    refine ⟨M, ?_, h, Fr.rf⟩
    cases isW g n w p <;> rfl
theorem C_expectNumber {M : gMem} {g : Nat → Nat} {n lo hi : Nat} {s : gPs} {x2 : Int32} (h : CSt M g n s) (hl : lo < 2 ^ 31) (hh : hi ≤ 1000) (hx : x2.toInt = (hi : Int) - 1) : ∃ r N, fX5_expectNumber (nI lo) x2 M = some (r, N) ∧ CSt N g n (sB s (rdN g n lo hi)) ∧ Fr 1 2 M N ∧ ∀ p, s = .inr p → okN g n lo hi p = true → r = nI (tV g n p) := by
  unfold fX5_expectNumber fX5_expectNumber_0 fX5_expectNumber_32 fX5_expectNumber_37
  match s, h with
  | .inr p, h =>
    have h' := h
    obtain ⟨h1, h2, ⟨k5, k6, k4, k7⟩, h4, h5⟩ := h'
    have kl := tK_le g n p
    have vl := tV_le g n p h1.2.1
    show ∃ r N, _ ∧ CSt N g n (rdN g n lo hi p) ∧ _
    unfold rdN okN
    rw [k4, k7, h4, if_pos (rfl : (0 : Int32) = 0)]
    by_cases c2 : tK g n p = 2
    · rw [c2, if_pos (show nI 2 = 2 from rfl), decide_eq_true (rfl : 2 = 2), Bool.true_and, if_pos (rfl : 2 = 2)]
      simp only [Int32.lt_iff_toInt_lt, Int32.le_iff_toInt_le, nI_int lo hl, nI_int (min 1000 (tV g n p)) (by omega), hx]
      have bad : ∀ P : Prop, ∃ r N, gB0 (fX5_refuse (2 : Int32) M) (fun M1 => if (M1.1 1 2) = 0 then gB0 (fX5_advance M1) (fun M2 => some ((M1.1 1 7), M2)) else some ((0 : Int32), M1)) = some (r, N) ∧ CSt N g n (.inl (2, tS g n p)) ∧ Fr 1 2 M N := by
        intro _
        obtain ⟨N, n1, n2, n3⟩ := C_refuse (k := 2) h (by omega)
        rw [show (2 : Int32) = nI 2 from rfl, n1, gB0_some, show N.1 1 2 = nI 2 from n2.2.2.2.1, if_neg (by decide)]
        exact ⟨_, N, rfl, n2, n3⟩
      by_cases d1 : lo ≤ tV g n p
      · have d1' : ¬ ((min 1000 (tV g n p) : Nat) : Int) < (lo : Int) ∨ ((min 1000 (tV g n p) : Nat) : Int) < (lo : Int) := (Classical.em _).symm
        by_cases d2 : tV g n p < hi
        · rw [if_neg (show ¬ ((min 1000 (tV g n p) : Nat) : Int) < (lo : Int) by omega), if_pos (show ((min 1000 (tV g n p) : Nat) : Int) ≤ (hi : Int) - 1 by omega), decide_eq_true d1, decide_eq_true d2, if_pos (show (true && true) = true from rfl)]
          obtain ⟨N, n1, n2, n3⟩ := C_adv h
          rw [n1, gB0_some]
          refine ⟨_, N, rfl, n2, n3, fun p' e _ => ?_⟩
          cases e
          congr 1; omega
        · obtain ⟨r, N, n1, n2, n3⟩ := bad True
          refine ⟨r, N, ?_, by rw [decide_eq_false d2, Bool.and_false, if_neg (by decide)]; exact n2, n3, fun p' e x => ?_⟩
          · by_cases d3 : ((min 1000 (tV g n p) : Nat) : Int) < (lo : Int)
            · rw [if_pos d3]; exact n1
            · rw [if_neg d3, if_neg (show ¬ ((min 1000 (tV g n p) : Nat) : Int) ≤ (hi : Int) - 1 by omega)]; exact n1
          · cases e
            rw [decide_eq_false d2, Bool.and_false, Bool.and_false] at x; cases x
      · obtain ⟨r, N, n1, n2, n3⟩ := bad True
        refine ⟨r, N, ?_, by rw [decide_eq_false d1, Bool.false_and, if_neg (by decide)]; exact n2, n3, fun p' e x => ?_⟩
        · by_cases d3 : ((min 1000 (tV g n p) : Nat) : Int) < (lo : Int)
          · rw [if_pos d3]; exact n1
          · rw [if_neg d3, if_neg (show ¬ ((min 1000 (tV g n p) : Nat) : Int) ≤ (hi : Int) - 1 by omega)]; exact n1
        · cases e
          rw [decide_eq_false d1, Bool.false_and, Bool.and_false] at x; cases x
    · rw [if_neg (show ¬ nI (tK g n p) = (2 : Int32) from nI_nek kl (show 2 ≤ 4 by omega) c2), decide_eq_false c2, Bool.false_and, if_neg (by decide), if_neg c2]
      obtain ⟨N, n1, n2, n3⟩ := C_refuse (k := 1) h (by omega)
      rw [show (1 : Int32) = nI 1 from rfl, n1, gB0_some, show N.1 1 2 = nI 1 from n2.2.2.2.1, if_neg (by decide)]
      refine ⟨_, N, rfl, n2, n3, fun p' e x => ?_⟩
      cases e
      rw [decide_eq_false c2] at x; cases x
  | .inl e, h =>
    have h' := h
    obtain ⟨h1, ⟨p, h2, h3⟩, h4, h5, h6⟩ := h'
    have n0 : ¬ nI e.1 = 0 := nI_ne0 (by omega) (by omega)
    have e37 : (if (M.1 1 2) = 0 then gB0 (fX5_advance M) (fun M1 => some ((M.1 1 7), M1)) else some ((0 : Int32), M)) = some (0, M) := by rw [h5, if_neg n0]
    rw [C_refuse_no h, C_refuse_no h, gB0_some, e37]
    refine ⟨0, M, ?_, h, Fr.rf, fun p e => by cases e⟩
    by_cases c : (M.1 1 4) = (2 : Int32)
    · rw [if_pos c]
      by_cases d : M.1 1 7 < nI lo
      · rw [if_pos d]
      · rw [if_neg d]
        by_cases f : M.1 1 7 ≤ x2
        · rw [if_pos f]
        · rw [if_neg f]
    · rw [if_neg c]
theorem C_expectSign {M : gMem} {g : Nat → Nat} {n : Nat} {s : gPs} (h : CSt M g n s) : ∃ N, fX5_expectSign M = some N ∧ CSt N g n (sB s (rdS g n)) ∧ Fr 1 2 M N := by
  unfold fX5_expectSign fX5_expectSign_0 fX5_expectSign_13
  match s, h with
  | .inr p, h =>
    have h' := h
    obtain ⟨h1, h2, ⟨k5, k6, k4, k7⟩, h4, h5⟩ := h'
    have kl := tK_le g n p
    show ∃ N, _ ∧ CSt N g n (rdS g n p) ∧ _
    unfold rdS
    rw [k4, h4, if_pos (rfl : (0 : Int32) = 0)]
    by_cases c : tK g n p = 3
    · rw [c, if_pos (show nI 3 = 3 from rfl), if_pos rfl]
      obtain ⟨N, n1, n2, n3⟩ := C_adv h
      rw [n1, gB0_some]
      exact ⟨N, rfl, n2, n3⟩
    · rw [if_neg (show ¬ nI (tK g n p) = (3 : Int32) from nI_nek kl (show 3 ≤ 4 by omega) c), if_neg c]
      obtain ⟨N, n1, n2, n3⟩ := C_refuse (k := 1) h (by omega)
      rw [show (1 : Int32) = nI 1 from rfl, n1, gB0_some, show N.1 1 2 = nI 1 from n2.2.2.2.1, if_neg (by decide)]
      exact ⟨N, rfl, n2, n3⟩
  | .inl e, h =>
    have h' := h
    obtain ⟨h1, ⟨p, h2, h3⟩, h4, h5, h6⟩ := h'
    have n0 : ¬ nI e.1 = 0 := nI_ne0 (by omega) (by omega)
    rw [C_refuse_no h, gB0_some, h5, if_neg n0]
    refine ⟨M, ?_, h, Fr.rf⟩
    by_cases c : (M.1 1 4) = (3 : Int32)
    · rw [if_pos c]
    · rw [if_neg c]
/-! the reference -/
def MSt (M : gMem) (g : Nat → Nat) (n : Nat) (s : gPs) : Prop := TBm M g n ∧ match s with
  | .inr p => p ≤ n ∧ TKm M g n p ∧ M.1 141 12 = 0 ∧ M.1 141 13 = -1
  | .inl e => (1 ≤ e.1 ∧ e.1 ≤ 3) ∧ M.1 141 12 = nI e.1 ∧ M.1 141 13 = nI e.2
def Fm (M N : gMem) : Prop := (∀ q, q ≠ 141 → N.1 q = M.1 q) ∧ (∀ j, j < 7 ∨ 14 ≤ j → N.1 141 j = M.1 141 j) ∧ (∀ q, q ≠ 141 → N.2.1 q = M.2.1 q) ∧ N.2.2 = M.2.2
theorem Fm.rf {M : gMem} : Fm M M := ⟨fun _ _ => rfl, fun _ _ => rfl, fun _ _ => rfl, rfl⟩
theorem Fm.tr {M N K : gMem} (h : Fm M N) (g : Fm N K) : Fm M K := ⟨fun q hq => (g.1 q hq).trans (h.1 q hq), fun j hj => (g.2.1 j hj).trans (h.2.1 j hj), fun q hq => (g.2.2.1 q hq).trans (h.2.2.1 q hq), g.2.2.2.trans h.2.2.2⟩
theorem Fm.si {M : gMem} {j : Nat} {x : Int32} (h : 7 ≤ j) (h2 : j < 14) : Fm M (gSI M 141 j x) := ⟨fun q hq => gSI_ne hq, fun k hk => gSI_nj (by omega), fun _ _ => rfl, rfl⟩
theorem B1.fm {M N : gMem} (h : B1 M N) : Fm M N := ⟨h.1, fun j hj => h.2.1 j (by omega), h.2.2.1, h.2.2.2⟩
theorem TBm.fm {M N : gMem} {g : Nat → Nat} {n : Nat} (h : TBm M g n) (a : Fm M N) : TBm N g n := by
  unfold TBm
  rw [a.2.1 6 (by omega), a.1 146 (by omega)]; exact h
theorem M_errs {M : gMem} {g : Nat → Nat} {n p k : Nat} (h : MSt M g n (.inr p)) (hk : 1 ≤ k ∧ k ≤ 3) : ∃ N, fX9_errs (nI k) M = some N ∧ MSt N g n (.inl (k, tS g n p)) ∧ Fm M N := by
  obtain ⟨h1, h2, h3, h4, h5⟩ := h
  unfold fX9_errs fX9_errs_0 fX9_errs_15
  rw [h4, if_pos rfl]
  have f : Fm M (gSI (gSI M 141 12 (nI k)) 141 13 ((gSI M 141 12 (nI k)).1 141 9)) := (Fm.si (by omega) (by omega)).tr (Fm.si (by omega) (by omega))
  refine ⟨_, rfl, ⟨h1.fm f, hk, ?_, ?_⟩, f⟩
  · rw [gSI_nj (by omega), gSI_eq]
  · rw [gSI_eq, gSI_nj (by omega)]; exact h3.1
theorem M_errs_no {M : gMem} {g : Nat → Nat} {n : Nat} {e : Nat × Nat} (h : MSt M g n (.inl e)) (x : Int32) : fX9_errs x M = some M := by
  obtain ⟨h1, h2, h3, h4⟩ := h
  unfold fX9_errs fX9_errs_0
  rw [h3, if_neg (nI_ne0 (by omega) (by omega))]
theorem M_adv {M : gMem} {g : Nat → Nat} {n p : Nat} (h : MSt M g n (.inr p)) : ∃ N, fX9_next M = some N ∧ MSt N g n (.inr (tE g n p)) ∧ Fm M N := by
  obtain ⟨h1, h2, h3, h4, h5⟩ := h
  have e1 := tE_le (g := g) h2
  obtain ⟨N, n1, n2, n3⟩ := M_next h1 e1.2.1 h3.2.1
  exact ⟨N, n1, ⟨h1.b1 n3, e1.2.1, n2, by rw [n3.2.1 12 (by omega)]; exact h4, by rw [n3.2.1 13 (by omega)]; exact h5⟩, n3.fm⟩
theorem M_is_no {M : gMem} {g : Nat → Nat} {n : Nat} {e : Nat × Nat} (h : MSt M g n (.inl e)) (x : Int64) : fX9_is x M = some 0 := by
  obtain ⟨h1, h2, h3, h4⟩ := h
  unfold fX9_is fX9_is_0
  rw [h3, if_neg (nI_ne0 (by omega) (by omega))]
theorem M_asks {M : gMem} {g : Nat → Nat} {n w : Nat} {s : gPs} (h : MSt M g n s) (hw : w < 14) : ∃ N, fX9_asks (hW w) M = some N ∧ MSt N g n (sB s (rdW g n w)) ∧ Fm M N := by
  unfold fX9_asks fX9_asks_0 fX9_takes fX9_takes_0
  match s, h with
  | .inr p, h =>
    have h' := h
    obtain ⟨h1, h2, h3, h4, h5⟩ := h'
    rw [M_is h2 h3 h4 hw, gB0_some, ite_bI]
    show ∃ N, _ ∧ MSt N g n (rdW g n w p) ∧ _
    unfold rdW
    cases isW g n w p
    · rw [if_neg (by decide), if_neg (by decide), gBp_some, if_pos rfl]
      obtain ⟨N, n1, n2, n3⟩ := M_errs (k := 1) h (by omega)
      rw [show (1 : Int32) = nI 1 from rfl, n1, gB0_some]
      exact ⟨N, rfl, n2, n3⟩
    · rw [if_pos rfl, if_pos rfl]
      obtain ⟨N, n1, n2, n3⟩ := M_adv h
      rw [n1, gB0_some, gBp_some]
      dsimp only
      rw [if_neg (by decide)]
      exact ⟨N, rfl, n2, n3⟩
  | .inl e, h =>
    rw [M_is_no h, gB0_some, if_pos rfl, gBp_some, if_pos rfl, M_errs_no h, gB0_some]
    exact ⟨M, rfl, h, Fm.rf⟩
theorem M_number {M : gMem} {g : Nat → Nat} {n lo hi : Nat} {s : gPs} {x2 : Int32} (h : MSt M g n s) (hl : lo < 2 ^ 31) (hx : x2.toInt = (hi : Int) - 1) : ∃ r N, fX9_number (nI lo) x2 M = some (r, N) ∧ MSt N g n (sB s (rdN g n lo hi)) ∧ Fm M N ∧ ∀ p, s = .inr p → okN g n lo hi p = true → r = nI (tV g n p) := by
  unfold fX9_number fX9_number_0
  match s, h with
  | .inr p, h =>
    have h' := h
    obtain ⟨h1, h2, ⟨k9, k7, k8, k10, -⟩, h4, h5⟩ := h'
    have kl := tK_le g n p
    have vl := tV_le g n p h1.2.1
    show ∃ r N, _ ∧ MSt N g n (rdN g n lo hi p) ∧ _
    unfold rdN okN
    rw [h4, if_pos (rfl : (0 : Int32) = 0), k8, k10]
    by_cases c2 : tK g n p = 2
    · rw [c2, if_pos (show nI 2 = 2 from rfl), decide_eq_true (rfl : 2 = 2), Bool.true_and, if_pos (rfl : 2 = 2), F_in, gB0_some, ite_bI, Int32.toInt_toInt64, Int32.toInt_toInt64, Int32.toInt_toInt64, nI_int lo hl, nI_int (tV g n p) (by omega), hx]
      have ed : (decide ((lo : Int) ≤ (tV g n p : Int)) && decide ((tV g n p : Int) ≤ (hi : Int) - 1)) = (decide (lo ≤ tV g n p) && decide (tV g n p < hi)) := by
        congr 1
        · exact decide_eq_decide.mpr (by omega)
        · exact decide_eq_decide.mpr (by omega)
      rw [ed]
      cases hd : (decide (lo ≤ tV g n p) && decide (tV g n p < hi))
      · rw [if_neg (by decide), if_neg (by decide)]
        obtain ⟨N, n1, n2, n3⟩ := M_errs (k := 2) h (by omega)
        rw [show (2 : Int32) = nI 2 from rfl, n1, gB0_some]
        refine ⟨_, N, rfl, n2, n3, fun p' e x => ?_⟩
        cases e
        rw [hd, Bool.and_false] at x; cases x
      · rw [if_pos rfl, if_pos rfl]
        obtain ⟨N, n1, n2, n3⟩ := M_adv h
        rw [n1, gB0_some]
        refine ⟨_, N, rfl, n2, n3, fun p' e x => ?_⟩
        cases e; rfl
    · rw [if_neg (show ¬ nI (tK g n p) = (2 : Int32) from nI_nek kl (show 2 ≤ 4 by omega) c2), decide_eq_false c2, Bool.false_and, if_neg (by decide), if_neg c2]
      obtain ⟨N, n1, n2, n3⟩ := M_errs (k := 1) h (by omega)
      rw [show (1 : Int32) = nI 1 from rfl, n1, gB0_some]
      refine ⟨_, N, rfl, n2, n3, fun p' e x => ?_⟩
      cases e
      rw [decide_eq_false c2] at x; cases x
  | .inl e, h =>
    have h' := h
    obtain ⟨h1, h4, h5, h6⟩ := h'
    rw [h5, if_neg (nI_ne0 (by omega) (by omega))]
    exact ⟨_, M, rfl, h, Fm.rf, fun p e => by cases e⟩
theorem M_number_ {M : gMem} {g : Nat → Nat} {n lo hi w : Nat} {s : gPs} {x2 : Int32} (h : MSt M g n s) (hw : w < 14) (hl : lo < 2 ^ 31) (hx : x2.toInt = (hi : Int) - 1) : ∃ r N, fX9_number_ (hW w) (nI lo) x2 M = some (r, N) ∧ MSt N g n (sB (sB s (rdW g n w)) (rdN g n lo hi)) ∧ Fm M N ∧ ∀ p, sB s (rdW g n w) = .inr p → okN g n lo hi p = true → r = nI (tV g n p) := by
  obtain ⟨N, n1, n2, n3⟩ := M_asks h hw
  obtain ⟨r, K, k1, k2, k3, k4⟩ := M_number n2 hl hx
  unfold fX9_number_ fX9_number__0
  rw [n1, gB0_some, k1, gBp_some]
  exact ⟨r, K, rfl, k2, n3.tr k3, k4⟩
theorem M_ends {M : gMem} {g : Nat → Nat} {n : Nat} {s : gPs} (h : MSt M g n s) : ∃ N, fX9_ends M = some N ∧ MSt N g n (sB s (rdS g n)) ∧ Fm M N := by
  unfold fX9_ends fX9_ends_0 fX9_ends_13
  match s, h with
  | .inr p, h =>
    have h' := h
    obtain ⟨h1, h2, ⟨k9, k7, k8, k10, -⟩, h4, h5⟩ := h'
    have kl := tK_le g n p
    show ∃ N, _ ∧ MSt N g n (rdS g n p) ∧ _
    unfold rdS
    rw [k8, h4, if_pos (rfl : (0 : Int32) = 0)]
    by_cases c : tK g n p = 3
    · rw [c, if_pos (show nI 3 = 3 from rfl), if_pos rfl]
      obtain ⟨N, n1, n2, n3⟩ := M_adv h
      rw [n1, gB0_some]
      exact ⟨N, rfl, n2, n3⟩
    · rw [if_neg (show ¬ nI (tK g n p) = (3 : Int32) from nI_nek kl (show 3 ≤ 4 by omega) c), if_neg c]
      obtain ⟨N, n1, n2, n3⟩ := M_errs (k := 1) h (by omega)
      rw [show (1 : Int32) = nI 1 from rfl, n1, gB0_some, show N.1 141 12 = nI 1 from n2.2.2.1, if_neg (by decide)]
      exact ⟨N, rfl, n2, n3⟩
  | .inl e, h =>
    have h' := h
    obtain ⟨h1, h4, h5, h6⟩ := h'
    rw [M_errs_no h, gB0_some, h5, if_neg (nI_ne0 (by omega) (by omega))]
    refine ⟨M, ?_, h, Fm.rf⟩
    by_cases c : (M.1 141 8) = (3 : Int32)
    · rw [if_pos c]
    · rw [if_neg c]
