/-! The text: its tokens, and how the class comes to them. -/
def sx (b : Nat) : Int32 := (nI b).toInt8.toInt32
theorem sx_k : ∀ b, b < 256 → sx b &&& 255 = nI b ∧ (b < 128 → sx b = nI b) ∧ (128 ≤ b → sx b < 0) := by decide +kernel
theorem sx_8 : ∀ b, b < 256 → (Int8.ofNat b).toInt32 = sx b := by decide +kernel
theorem sx_of {x : Int32} (h : x.toInt8.toInt32 = x) : ∃ b, b < 256 ∧ x = sx b := by
  have hb : x.toInt8.toBitVec.toNat < 256 := x.toInt8.toBitVec.isLt
  refine ⟨x.toInt8.toBitVec.toNat, hb, ?_⟩
  rw [← sx_8 _ hb]
  have e : Int8.ofNat x.toInt8.toBitVec.toNat = x.toInt8 := Int8.toBitVec_inj.mp (by
    show BitVec.ofNat 8 x.toInt8.toBitVec.toNat = x.toInt8.toBitVec
    simp)
  rw [e, h]
def blk (b : Nat) : Bool := decide (b = 32) || decide (b = 10)
def ltr (b : Nat) : Bool := decide (97 ≤ b) && decide (b ≤ 122)
def dgt (b : Nat) : Bool := decide (48 ≤ b) && decide (b ≤ 57)
def kdB (b : Nat) : Nat := if ltr b = true then 1 else if dgt b = true then 2 else if b = 59 then 3 else 4
theorem blk_k : ∀ b, b < 256 → fX5_isBlank (nI b) gM0 = some (bI (blk b)) := by decide +kernel
theorem ltr_k : ∀ b, b < 256 → fX5_isLetter (nI b) gM0 = some (bI (ltr b)) := by decide +kernel
theorem dgt_k : ∀ b, b < 256 → fX5_isDigit (nI b) gM0 = some (bI (dgt b)) := by decide +kernel
theorem kd_k : ∀ b, b < 256 → fX5_kindOf (nI b) gM0 = some (nI (kdB b)) := by decide +kernel
theorem C_isBlank {b : Nat} (h : b < 256) (M : gMem) : fX5_isBlank (nI b) M = some (bI (blk b)) := blk_k b h
theorem C_isLetter {b : Nat} (h : b < 256) (M : gMem) : fX5_isLetter (nI b) M = some (bI (ltr b)) := ltr_k b h
theorem C_isDigit {b : Nat} (h : b < 256) (M : gMem) : fX5_isDigit (nI b) M = some (bI (dgt b)) := dgt_k b h
theorem C_kindOf {b : Nat} (h : b < 256) (M : gMem) : fX5_kindOf (nI b) M = some (nI (kdB b)) := kd_k b h
/-- how far it goes on -/
def rnO (n : Nat) (c : Nat → Bool) : Nat → Nat → Nat
  | 0, p => p
  | k + 1, p => if c p = true then rnO n c k (p + 1) else p
def rn (n : Nat) (c : Nat → Bool) (p : Nat) : Nat := rnO n c (n - p) p
theorem rn_u {n p s : Nat} {c : Nat → Bool} (h1 : p ≤ s) (h2 : s ≤ n) (h3 : ∀ j, p ≤ j → j < s → c j = true) (h4 : s < n → c s = false) : rn n c p = s := by
  have key : ∀ k p, n - p = k → p ≤ s → (∀ j, p ≤ j → j < s → c j = true) → rnO n c k p = s := by
    intro k
    induction k with
    | zero => intro p e a _; rw [rnO]; omega
    | succ k ih =>
      intro p e a b
      rw [rnO]
      by_cases d : p = s
      · subst d; rw [h4 (by omega), if_neg (by decide)]
      · rw [b p (by omega) (by omega), if_pos rfl]
        exact ih (p + 1) (by omega) (by omega) (fun j x y => b j (by omega) y)
  exact key _ p rfl h1 h3
theorem rn_le {n p : Nat} {c : Nat → Bool} (h : p ≤ n) : p ≤ rn n c p ∧ rn n c p ≤ n := by
  have key : ∀ k p, n - p = k → p ≤ n → p ≤ rnO n c k p ∧ rnO n c k p ≤ n := by
    intro k
    induction k with
    | zero => intro p e a; rw [rnO]; omega
    | succ k ih =>
      intro p e a
      rw [rnO]
      by_cases d : c p = true
      · rw [if_pos d]
        have := ih (p + 1) (by omega) (by omega)
        omega
      · rw [if_neg d]; omega
  exact key _ p rfl h
theorem rn_c {n p : Nat} {c : Nat → Bool} : ∀ j, p ≤ j → j < rn n c p → c j = true := by
  have key : ∀ k p, n - p = k → ∀ j, p ≤ j → j < rnO n c k p → c j = true := by
    intro k
    induction k with
    | zero => intro p _ j a b; rw [rnO] at b; omega
    | succ k ih =>
      intro p e j a b
      rw [rnO] at b
      by_cases d : c p = true
      · rw [if_pos d] at b
        by_cases x : j = p
        · subst x; exact d
        · exact ih (p + 1) (by omega) j (by omega) b
      · rw [if_neg d] at b; omega
  exact key _ p rfl
def tS (g : Nat → Nat) (n p : Nat) : Nat := rn n (fun k => blk (g k)) p
def tK (g : Nat → Nat) (n p : Nat) : Nat := if tS g n p < n then kdB (g (tS g n p)) else 0
def tE (g : Nat → Nat) (n p : Nat) : Nat := if tK g n p = 0 then tS g n p else if tK g n p = 1 then rn n (fun k => ltr (g k)) (tS g n p + 1) else if tK g n p = 2 then rn n (fun k => dgt (g k)) (tS g n p + 1) else tS g n p + 1
def vr (g : Nat → Nat) (s : Nat) : Nat → Nat
  | 0 => 0
  | k + 1 => if 100000 < vr g s k then 1000000 else 10 * vr g s k + (g (s + k) - 48)
def tV (g : Nat → Nat) (n p : Nat) : Nat := if tK g n p = 2 then vr g (tS g n p) (tE g n p - tS g n p) else 0
theorem kdB_le (b : Nat) : 1 ≤ kdB b ∧ kdB b ≤ 4 := by
  unfold kdB
  split
  · omega
  · split
    · omega
    · split <;> omega
theorem tS_le {g : Nat → Nat} {n p : Nat} (h : p ≤ n) : p ≤ tS g n p ∧ tS g n p ≤ n := rn_le h
theorem tK_le (g : Nat → Nat) (n p : Nat) : tK g n p ≤ 4 := by
  unfold tK
  split
  · exact (kdB_le _).2
  · omega
theorem tK_0 {g : Nat → Nat} {n p : Nat} (h : p ≤ n) : tK g n p = 0 ↔ tS g n p = n := by
  have h1 := tS_le (g := g) h
  unfold tK
  by_cases c : tS g n p < n
  · rw [if_pos c]
    have := kdB_le (g (tS g n p))
    omega
  · rw [if_neg c]; omega
theorem tE_le {g : Nat → Nat} {n p : Nat} (h : p ≤ n) : tS g n p ≤ tE g n p ∧ tE g n p ≤ n ∧ (tK g n p ≠ 0 → p < tE g n p) := by
  have h1 := tS_le (g := g) h
  unfold tE
  by_cases c : tK g n p = 0
  · rw [if_pos c]; exact ⟨Nat.le_refl _, h1.2, fun x => absurd c x⟩
  · have c2 : tS g n p < n := by
      have := mt (tK_0 (g := g) h).mpr c
      omega
    rw [if_neg c]
    by_cases c1 : tK g n p = 1
    · rw [if_pos c1]
      have := rn_le (n := n) (p := tS g n p + 1) (c := fun k => ltr (g k)) c2
      exact ⟨by omega, by omega, fun _ => by omega⟩
    · rw [if_neg c1]
      by_cases c3 : tK g n p = 2
      · rw [if_pos c3]
        have := rn_le (n := n) (p := tS g n p + 1) (c := fun k => dgt (g k)) c2
        exact ⟨by omega, by omega, fun _ => by omega⟩
      · rw [if_neg c3]
        exact ⟨by omega, by omega, fun _ => by omega⟩
theorem vr_le (g : Nat → Nat) (s : Nat) (hg : ∀ k, g k < 256) : ∀ k, vr g s k ≤ 1000300 := by
  intro k
  induction k with
  | zero => exact Nat.zero_le _
  | succ k ih =>
    rw [vr]
    have := hg (s + k)
    split <;> omega
theorem tV_le (g : Nat → Nat) (n p : Nat) (hg : ∀ k, g k < 256) : tV g n p ≤ 1000300 := by
  unfold tV
  split
  · exact vr_le g _ hg _
  · omega
/-! the class's reader -/
def TBc (M : gMem) (g : Nat → Nat) (n : Nat) : Prop := (M.1 2 1 = nI n ∧ n ≤ 800) ∧ (∀ k, g k < 256) ∧ ∀ k, k < n → M.1 3 k = sx (g k)
/-- only what is read just now has changed -/
def A1 (M N : gMem) : Prop := (∀ q, q ≠ 1 → N.1 q = M.1 q) ∧ (∀ j, j < 4 → N.1 1 j = M.1 1 j) ∧ N.2 = M.2
theorem A1.rf {M : gMem} : A1 M M := ⟨fun _ _ => rfl, fun _ _ => rfl, rfl⟩
theorem A1.tr {M N K : gMem} (h : A1 M N) (g : A1 N K) : A1 M K := ⟨fun q hq => (g.1 q hq).trans (h.1 q hq), fun j hj => (g.2.1 j hj).trans (h.2.1 j hj), g.2.2.trans h.2.2⟩
theorem A1.si {M : gMem} {j : Nat} {x : Int32} (h : 4 ≤ j) : A1 M (gSI M 1 j x) := ⟨fun q hq => gSI_ne hq, fun k hk => gSI_nj (by omega), rfl⟩
theorem TBc.a1 {M N : gMem} {g : Nat → Nat} {n : Nat} (h : TBc M g n) (a : A1 M N) : TBc N g n := by
  unfold TBc
  rw [a.1 2 (by omega), a.1 3 (by omega)]; exact h
theorem C_at {M : gMem} {g : Nat → Nat} {n k : Nat} (h : TBc M g n) (hk : k ≤ n) : fX6_at (nI k) M = some (if k < n then nI (g k) else -1) := by
  obtain ⟨⟨h1, h2⟩, h3, h4⟩ := h
  unfold fX6_at fX6_at_0 fX6_at_25 fX6_at_26
  rw [if_neg (nI_pos (by omega)), h1, show (nI (gSh 3).2 : Int32) = nI 800 from rfl]
  by_cases c : k < n
  · rw [if_neg (nI_ge c (by omega)), if_neg (nI_ge (show k < 800 by omega) (by omega)), if_neg (show ¬ (1 : Int32) = 0 by decide), if_pos (ix3b (by omega)), nI_clamp (by omega), h4 k c, (sx_k _ (h3 k)).1, if_pos c]
  · rw [if_pos (nI_le (show n ≤ k by omega) (by omega)), if_pos rfl, if_neg c]
theorem gMn_k {y : Nat} (h : y < 2 ^ 31) : gMn (1000 : Int32) (nI y) = nI (min 1000 y) := by
  unfold gMn
  rw [show (1000 : Int32) = nI 1000 from rfl]
  by_cases c : y < 1000
  · rw [if_pos (nI_lt c (by omega))]; congr 1; omega
  · rw [if_neg (nI_nlt (by omega) (by omega))]; congr 1; omega
theorem vr_m (g : Nat → Nat) (s k : Nat) (h : g (s + k) < 256) : min 1000 (min 1000 (vr g s k) * 10 + (g (s + k) - 48)) = min 1000 (vr g s (k + 1)) := by
  rw [vr]
  split <;> omega
theorem C_digits {M : gMem} {g : Nat → Nat} {n s : Nat} (h : TBc M g n) (hs : s < n) (hd : dgt (g s) = true) (h5 : M.1 1 5 = nI s) (h6 : M.1 1 6 = nI (s + 1)) : ∃ N, fX5_readDigits M = some N ∧ N.1 1 6 = nI (rn n (fun k => dgt (g k)) (s + 1)) ∧ N.1 1 7 = nI (min 1000 (vr g s (rn n (fun k => dgt (g k)) (s + 1) - s))) ∧ A1 M N ∧ N.1 1 4 = M.1 1 4 ∧ N.1 1 5 = M.1 1 5 := by
  obtain ⟨⟨q1, q2⟩, q3, q4⟩ := h
  have h : TBc M g n := ⟨⟨q1, q2⟩, q3, q4⟩
  have d48 : ∀ b, dgt b = true → 48 ≤ b ∧ b ≤ 57 := fun b hb => by
    unfold dgt at hb
    rw [Bool.and_eq_true, decide_eq_true_eq, decide_eq_true_eq] at hb; exact hb
  have ds := d48 _ hd
  unfold fX5_readDigits fX5_readDigits_0 fX5_readDigits_18h
  rw [h5, C_at h (by omega), gB0_some, if_pos hs, show (48 : Int32) = nI 48 from rfl, pk_sub ds.1]
  refine gLp_inv (fun i (st : gMem) => (st.1 1 6 = nI (s + 1 + i) ∧ s + 1 + i ≤ n) ∧ (∀ j, s + 1 ≤ j → j < s + 1 + i → dgt (g j) = true) ∧ st.1 1 7 = nI (min 1000 (vr g s (i + 1))) ∧ A1 M st ∧ st.1 1 4 = M.1 1 4 ∧ st.1 1 5 = M.1 1 5) (n - (s + 1)) (fun (N : gMem) => N.1 1 6 = nI (rn n (fun k => dgt (g k)) (s + 1)) ∧ N.1 1 7 = nI (min 1000 (vr g s (rn n (fun k => dgt (g k)) (s + 1) - s))) ∧ A1 M N ∧ N.1 1 4 = M.1 1 4 ∧ N.1 1 5 = nI s) (by omega) (fun i N hi hI => ?_) (fun N hI => ?_) _ ⟨⟨(gSI_nj (by omega)).trans h6, by omega⟩, fun j a b => by omega, ?_, A1.si (by omega), gSI_nj (by omega), gSI_nj (by omega)⟩
  · obtain ⟨⟨g1, g2⟩, g3, g4, g5, g6, g7⟩ := hI
    have hT := h.a1 g5
    show (∃ s', fX5_readDigits_18 N = _ ∧ _) ∨ ∃ r, fX5_readDigits_18 N = _ ∧ _
    unfold fX5_readDigits_18 fX5_readDigits_83
    rw [hT.1.1, g1, if_neg (nI_ge (by omega) (by omega)), C_at hT (by omega), gB0_some, gB0_some, if_pos (show s + 1 + i < n by omega), C_isDigit (q3 _), gB0_some, ite_bI]
    cases hc : dgt (g (s + 1 + i))
    · rw [if_neg (by decide)]
      have e : rn n (fun k => dgt (g k)) (s + 1) = s + 1 + i := rn_u (by omega) (by omega) g3 (fun _ => hc)
      refine Or.inr ⟨_, rfl, by rw [e]; exact g1, ?_, g5, g6, g7.trans h5⟩
      rw [e, show s + 1 + i - s = i + 1 by omega]; exact g4
    · rw [if_pos rfl, gSI_nj (by omega), g1, g4]
      have db := d48 _ hc
      have v1 : ((nI (min 1000 (vr g s (i + 1))) * (10 : Int32)) + nI (g (s + 1 + i))) - (48 : Int32) = nI (min 1000 (vr g s (i + 1)) * 10 + (g (s + 1 + i) - 48)) := by
        rw [show (10 : Int32) = nI 10 from rfl, show (48 : Int32) = nI 48 from rfl, pk_mul, nI_add, pk_sub (by omega)]
        congr 1; omega
      have q := q3 (s + 1 + i)
      rw [v1, gMn_k (by omega), nI_1]
      refine Or.inl ⟨_, rfl, ⟨by rw [gSI_eq]; congr 1, by omega⟩, fun j a b => ?_, ?_, g5.tr ((A1.si (by omega)).tr (A1.si (by omega))), by rw [gSI_nj (by omega), gSI_nj (by omega)]; exact g6, by rw [gSI_nj (by omega), gSI_nj (by omega)]; exact g7⟩
      · by_cases x : j = s + 1 + i
        · subst x; exact hc
        · exact g3 j a (by omega)
      · rw [gSI_nj (by omega), gSI_eq]
        have := vr_m g s (i + 1) (q3 _)
        rw [show s + (i + 1) = s + 1 + i by omega] at this
        rw [this]
  · obtain ⟨⟨g1, g2⟩, g3, g4, g5, g6, g7⟩ := hI
    have hT := h.a1 g5
    show ∃ r, fX5_readDigits_18 N = _ ∧ _
    unfold fX5_readDigits_18
    rw [hT.1.1, g1, if_pos (nI_le (by omega) (by omega))]
    have e : rn n (fun k => dgt (g k)) (s + 1) = n := rn_u (by omega) (by omega) (fun j a b => g3 j a (by omega)) (fun x => by omega)
    refine ⟨_, rfl, by rw [e, g1]; congr 1; omega, ?_, g5, g6, g7.trans h5⟩
    rw [e, g4, show n - (s + 1) + 1 = n - s by omega]
  · rw [gSI_eq, vr, vr, if_neg (by decide), Nat.add_zero]
    congr 1; omega
def TKc (M : gMem) (g : Nat → Nat) (n p : Nat) : Prop := M.1 1 5 = nI (tS g n p) ∧ M.1 1 6 = nI (tE g n p) ∧ M.1 1 4 = nI (tK g n p) ∧ M.1 1 7 = nI (min 1000 (tV g n p))
theorem C_adv107 {M : gMem} {g : Nat → Nat} {n s : Nat} (h : TBc M g n) (hs : s < n) (h4 : M.1 1 4 = 1) (h6 : M.1 1 6 = nI (s + 1)) : ∃ N, fX5_advance_107h M = some N ∧ N.1 1 6 = nI (rn n (fun k => ltr (g k)) (s + 1)) ∧ A1 M N ∧ (∀ j, j ≠ 6 → N.1 1 j = M.1 1 j) := by
  have q2 := h.1.2
  unfold fX5_advance_107h
  refine gLp_inv (fun i (st : gMem) => (st.1 1 6 = nI (s + 1 + i) ∧ s + 1 + i ≤ n) ∧ (∀ j, s + 1 ≤ j → j < s + 1 + i → ltr (g j) = true) ∧ A1 M st ∧ (∀ j, j ≠ 6 → st.1 1 j = M.1 1 j)) (n - (s + 1)) (fun (N : gMem) => N.1 1 6 = nI (rn n (fun k => ltr (g k)) (s + 1)) ∧ A1 M N ∧ (∀ j, j ≠ 6 → N.1 1 j = M.1 1 j)) (by omega) (fun i N hi hI => ?_) (fun N hI => ?_) _ ⟨⟨h6, by omega⟩, fun j a b => by omega, A1.rf, fun _ _ => rfl⟩
  · obtain ⟨⟨g1, g2⟩, g3, g5, g6⟩ := hI
    have hT := h.a1 g5
    have e151 : fX5_advance_151 N = some N := by
      unfold fX5_advance_151
      rw [g6 4 (by omega), h4, if_neg (by decide)]
    show (∃ s', fX5_advance_107 N = _ ∧ _) ∨ ∃ r, fX5_advance_107 N = _ ∧ _
    unfold fX5_advance_107
    rw [hT.1.1, g1, if_neg (nI_ge (by omega) (by omega)), C_at hT (by omega), gB0_some, if_pos (show s + 1 + i < n by omega), C_isLetter (h.2.1 _), gB0_some, ite_bI]
    cases hc : ltr (g (s + 1 + i))
    · rw [if_neg (by decide), e151, gEx_some]
      have e : rn n (fun k => ltr (g k)) (s + 1) = s + 1 + i := rn_u (by omega) (by omega) g3 (fun _ => hc)
      exact Or.inr ⟨_, rfl, by rw [e]; exact g1, g5, g6⟩
    · rw [if_pos rfl, nI_1]
      refine Or.inl ⟨_, rfl, ⟨by rw [gSI_eq]; congr 1, by omega⟩, fun j a b => ?_, g5.tr (A1.si (by omega)), fun j hj => (gSI_nj hj).trans (g6 j hj)⟩
      by_cases x : j = s + 1 + i
      · subst x; exact hc
      · exact g3 j a (by omega)
  · obtain ⟨⟨g1, g2⟩, g3, g5, g6⟩ := hI
    have hT := h.a1 g5
    have e151 : fX5_advance_151 N = some N := by
      unfold fX5_advance_151
      rw [g6 4 (by omega), h4, if_neg (by decide)]
    show ∃ r, fX5_advance_107 N = _ ∧ _
    unfold fX5_advance_107
    rw [hT.1.1, g1, if_pos (nI_le (by omega) (by omega)), e151, gEx_some]
    have e : rn n (fun k => ltr (g k)) (s + 1) = n := rn_u (by omega) (by omega) (fun j a b => g3 j a (by omega)) (fun x => by omega)
    exact ⟨_, rfl, by rw [e, g1]; congr 1; omega, g5, g6⟩
theorem C_adv52 {M : gMem} {g : Nat → Nat} {n p : Nat} (h : TBc M g n) (hp : p ≤ n) (h5 : M.1 1 5 = nI (tS g n p)) : ∃ N, fX5_advance_52 M = some N ∧ TKc N g n p ∧ A1 M N := by
  have q2 := h.1.2
  have hs := tS_le (g := g) hp
  have kl := tK_le g n p
  unfold fX5_advance_52
  rw [h5, C_at h hs.2, gB0_some]
  have ek : fX5_kindOf (if tS g n p < n then nI (g (tS g n p)) else -1) M = some (nI (tK g n p)) := by
    unfold tK
    by_cases c : tS g n p < n
    · rw [if_pos c, if_pos c, C_kindOf (h.2.1 _)]
    · rw [if_neg c, if_neg c]; rfl
  rw [ek, gB0_some]
  unfold fX5_advance_72 fX5_advance_77 fX5_advance_96 fX5_advance_100
  have b4 : (gSI (gSI M 1 4 (nI (tK g n p))) 1 7 0).1 1 4 = nI (tK g n p) := (gSI_nj (by omega)).trans gSI_eq
  have b5 : (gSI (gSI M 1 4 (nI (tK g n p))) 1 7 0).1 1 5 = nI (tS g n p) := (gSI_nj (by omega)).trans ((gSI_nj (by omega)).trans h5)
  have a0 : A1 M (gSI (gSI M 1 4 (nI (tK g n p))) 1 7 0) := (A1.si (by omega)).tr (A1.si (by omega))
  rw [b4, b5]
  have c4 : ∀ x, (gSI (gSI (gSI M 1 4 (nI (tK g n p))) 1 7 0) 1 6 x).1 1 4 = nI (tK g n p) := fun x => (gSI_nj (by omega)).trans b4
  have c5 : ∀ x, (gSI (gSI (gSI M 1 4 (nI (tK g n p))) 1 7 0) 1 6 x).1 1 5 = nI (tS g n p) := fun x => (gSI_nj (by omega)).trans b5
  have c7 : ∀ x, (gSI (gSI (gSI M 1 4 (nI (tK g n p))) 1 7 0) 1 6 x).1 1 7 = 0 := fun x => (gSI_nj (by omega)).trans gSI_eq
  have a1 : ∀ x, A1 M (gSI (gSI (gSI M 1 4 (nI (tK g n p))) 1 7 0) 1 6 x) := fun x => a0.tr (A1.si (by omega))
  by_cases k0 : tK g n p = 0
  · rw [k0, if_pos (show nI 0 = 0 from rfl)]
    rw [k0] at c4
    unfold fX5_advance_151
    rw [c4, if_neg (by decide), if_neg (by decide)]
    refine ⟨_, rfl, ⟨?_, ?_, ?_, ?_⟩, ?_⟩
    · have := c5 (nI (tS g n p)); rw [k0] at this; exact this
    · rw [gSI_eq]; unfold tE; rw [if_pos k0]
    · rw [k0]; exact c4 _
    · have := c7 (nI (tS g n p)); rw [k0] at this; rw [this]; unfold tV; rw [k0, if_neg (by decide)]; rfl
    · have := a1 (nI (tS g n p)); rw [k0] at this; exact this
  · have hlt : tS g n p < n := by
      have := mt (tK_0 (g := g) hp).mpr k0
      omega
    have ekd : kdB (g (tS g n p)) = tK g n p := by unfold tK; rw [if_pos hlt]
    rw [if_neg (show ¬ nI (tK g n p) = 0 from nI_ne0 (by omega) (by omega)), nI_1]
    by_cases k1 : tK g n p = 1
    · rw [c4, k1, if_pos (show nI 1 = 1 from rfl)]
      rw [k1] at c4 c5 c7 a1
      obtain ⟨N, n1, n2, n3, n4⟩ := C_adv107 (h.a1 (a1 (nI (tS g n p + 1)))) hlt (c4 _) gSI_eq
      refine ⟨N, n1, ⟨?_, ?_, ?_, ?_⟩, (a1 _).tr n3⟩
      · rw [n4 5 (by omega)]; exact c5 _
      · rw [n2]; unfold tE; rw [if_neg k0, if_pos k1]
      · rw [n4 4 (by omega), k1]; exact c4 _
      · rw [n4 7 (by omega), c7]; unfold tV; rw [k1, if_neg (by decide)]; rfl
    · rw [c4, if_neg (show ¬ nI (tK g n p) = 1 from fun e => k1 ((nI_eq (b := 1) (by omega) (by omega)).mp e))]
      unfold fX5_advance_151
      rw [c4]
      by_cases k2 : tK g n p = 2
      · have hd : dgt (g (tS g n p)) = true := by
          rw [k2] at ekd
          unfold kdB at ekd
          cases c : dgt (g (tS g n p))
          · rw [c] at ekd
            split at ekd
            · omega
            · rw [if_neg (by decide)] at ekd
              split at ekd <;> omega
          · rfl
        rw [k2, if_pos (show nI 2 = 2 from rfl)]
        rw [k2] at c4 c5 c7 a1
        obtain ⟨N, n1, n2, n3, n4, n5, n6⟩ := C_digits (h.a1 (a1 (nI (tS g n p + 1)))) hlt hd (c5 _) gSI_eq
        rw [n1, gB0_some]
        have eE : tE g n p = rn n (fun k => dgt (g k)) (tS g n p + 1) := by unfold tE; rw [if_neg k0, if_neg k1, if_pos k2]
        refine ⟨N, rfl, ⟨?_, ?_, ?_, ?_⟩, (a1 _).tr n4⟩
        · rw [n6]; exact c5 _
        · rw [n2, eE]
        · rw [n5, k2]; exact c4 _
        · rw [n3]; unfold tV; rw [if_pos k2, eE]
      · rw [if_neg (show ¬ nI (tK g n p) = 2 from fun e => k2 ((nI_eq (b := 2) (by omega) (by omega)).mp e))]
        refine ⟨_, rfl, ⟨c5 _, ?_, c4 _, ?_⟩, a1 _⟩
        · rw [gSI_eq]; unfold tE; rw [if_neg k0, if_neg k1, if_neg k2]
        · rw [c7]; unfold tV; rw [if_neg k2]; rfl
theorem C_advance {M : gMem} {g : Nat → Nat} {n p : Nat} (h : TBc M g n) (hp : p ≤ n) (h6 : M.1 1 6 = nI p) : ∃ N, fX5_advance M = some N ∧ TKc N g n p ∧ A1 M N := by
  have q2 := h.1.2
  unfold fX5_advance fX5_advance_0 fX5_advance_8h
  rw [h6]
  refine gLp_inv (fun i (st : gMem) => (st.1 1 5 = nI (p + i) ∧ p + i ≤ n) ∧ (∀ j, p ≤ j → j < p + i → blk (g j) = true) ∧ A1 M st) (n - p) (fun (N : gMem) => TKc N g n p ∧ A1 M N) (by omega) (fun i N hi hI => ?_) (fun N hI => ?_) _ ⟨⟨gSI_eq, by omega⟩, fun j a b => by omega, A1.si (by omega)⟩
  · obtain ⟨⟨g1, g2⟩, g3, g5⟩ := hI
    have hT := h.a1 g5
    show (∃ s', fX5_advance_8 N = _ ∧ _) ∨ ∃ r, fX5_advance_8 N = _ ∧ _
    unfold fX5_advance_8
    rw [hT.1.1, g1, if_neg (nI_ge (by omega) (by omega)), C_at hT (by omega), gB0_some, if_pos (show p + i < n by omega), C_isBlank (h.2.1 _), gB0_some, ite_bI]
    cases hc : blk (g (p + i))
    · have e : tS g n p = p + i := rn_u (by omega) (by omega) g3 (fun _ => hc)
      obtain ⟨K, k1, k2, k3⟩ := C_adv52 hT hp (by rw [e]; exact g1)
      rw [if_neg (by decide), k1, gEx_some]
      exact Or.inr ⟨_, rfl, k2, g5.tr k3⟩
    · rw [if_pos rfl, nI_1]
      refine Or.inl ⟨_, rfl, ⟨by rw [gSI_eq]; congr 1, by omega⟩, fun j a b => ?_, g5.tr (A1.si (by omega))⟩
      by_cases x : j = p + i
      · subst x; exact hc
      · exact g3 j a (by omega)
  · obtain ⟨⟨g1, g2⟩, g3, g5⟩ := hI
    have hT := h.a1 g5
    have e : tS g n p = n := rn_u (by omega) (by omega) (fun j a b => g3 j a (by omega)) (fun x => by omega)
    obtain ⟨K, k1, k2, k3⟩ := C_adv52 hT hp (by rw [e, g1]; congr 1; omega)
    show ∃ r, fX5_advance_8 N = _ ∧ _
    unfold fX5_advance_8
    rw [hT.1.1, g1, if_pos (nI_le (by omega) (by omega)), k1, gEx_some]
    exact ⟨_, rfl, k2, g5.tr k3⟩
