/-! The text: a line, and all of them, by the class. -/
theorem C_full {M : gMem} {g : Nat → Nat} {n p : Nat} (h : CSt M g n (.inr p)) : ∃ N, gB0 (fX5_refuse (3 : Int32) M) (fun M1 => some M1) = some N ∧ CSt N g n (.inl (3, tS g n p)) ∧ Fr 1 2 M N := by
  obtain ⟨N, n1, n2, n3⟩ := C_refuse (k := 3) h (by omega)
  exact ⟨N, by rw [show (3 : Int32) = nI 3 from rfl, n1, gB0_some], n2, n3⟩
theorem C_noP {M : gMem} {g : Nat → Nat} {n p T c : Nat} (h : CSt M g n (.inr p)) (hT : M.2.2 1 = T) (hO : gOb 7 T = true) (hc : M.1 T 5 = nI c) (h6 : 6 ≤ c) (h9 : c ≤ 9) : ∃ N, fX5_readPartner M = some N ∧ CSt N g n (.inl (3, tS g n p)) ∧ Fr 1 2 M N := by
  unfold fX5_readPartner fX5_readPartner_0
  rw [hT, if_pos hO, hc, if_neg (show ¬ nI c < (6 : Int32) from nI_nlt (b := 6) h6 (by omega))]
  exact C_full h
theorem C_noJ {M : gMem} {g : Nat → Nat} {n p T c : Nat} (h : CSt M g n (.inr p)) (hT : M.2.2 1 = T) (hO : gOb 7 T = true) (hc : M.1 T 6 = nI c) (h6 : 7 ≤ c) (h9 : c ≤ 9) : ∃ N, fX5_readJoin M = some N ∧ CSt N g n (.inl (3, tS g n p)) ∧ Fr 1 2 M N := by
  unfold fX5_readJoin fX5_readJoin_0
  rw [hT, if_pos hO, hc, if_neg (show ¬ nI c < (7 : Int32) from nI_nlt (b := 7) h6 (by omega))]
  exact C_full h
theorem C_noD {M : gMem} {g : Nat → Nat} {n p T c : Nat} (h : CSt M g n (.inr p)) (hT : M.2.2 1 = T) (hO : gOb 7 T = true) (hc : M.1 T 7 = nI c) (h6 : 5 ≤ c) (h9 : c ≤ 9) : ∃ N, fX5_readDoor M = some N ∧ CSt N g n (.inl (3, tS g n p)) ∧ Fr 1 2 M N := by
  unfold fX5_readDoor fX5_readDoor_0
  rw [hT, if_pos hO, hc, if_neg (show ¬ nI c < (5 : Int32) from nI_nlt (b := 5) h6 (by omega))]
  exact C_full h
theorem C_noC {M : gMem} {g : Nat → Nat} {n p T c : Nat} (h : CSt M g n (.inr p)) (hT : M.2.2 1 = T) (hO : gOb 7 T = true) (hc : M.1 T 8 = nI c) (h6 : 5 ≤ c) (h9 : c ≤ 9) : ∃ N, fX5_readCold M = some N ∧ CSt N g n (.inl (3, tS g n p)) ∧ Fr 1 2 M N := by
  unfold fX5_readCold fX5_readCold_0
  rw [hT, if_pos hO, hc, if_neg (show ¬ nI c < (5 : Int32) from nI_nlt (b := 5) h6 (by omega))]
  exact C_full h
/-- what a line may change -/
def FrL (T : Nat) (M N : gMem) : Prop := (∀ q, q ≠ 1 → q < T ∨ T + 15 ≤ q → N.1 q = M.1 q) ∧ N.2 = M.2
theorem FrL.tr {T : Nat} {M N K : gMem} (h : FrL T M N) (g : FrL T N K) : FrL T M K := ⟨fun q a b => (g.1 q a b).trans (h.1 q a b), g.2.trans h.2⟩
theorem Fr.l {T : Nat} {M N : gMem} (h : Fr 1 2 M N) : FrL T M N := ⟨fun q a _ => h.1 q (by omega), h.2⟩
theorem C_sign {X : gMem} {g : Nat → Nat} {n T : Nat} {s : gPs} {w : gCt} (h : CSt X g n s) (hT : X.2.2 1 = T) (hO : gOb 7 T = true) (hr : ∀ q, s = .inr q → RT X T w) : ∃ N, fX5_readLine_86 X = some N ∧ CSt N g n (sB s (rdS g n)) ∧ (∀ q, sB s (rdS g n) = .inr q → RT N T (vL w)) ∧ FrL T X N := by
  have hT4 := gTn_lo (gTn_of hO)
  obtain ⟨A, a1, a2, a3⟩ := C_expectSign h
  have eA : A.2.2 1 = T := by rw [a3.2]; exact hT
  unfold fX5_readLine_86
  rw [a1, gB0_some]
  generalize e : sB s (rdS g n) = s' at a2
  match s', a2 with
  | .inr q, a2 =>
    obtain ⟨p, hp, -⟩ := sB_inr e
    have rA : RT A T w := a3.RT (by omega) (hr p hp)
    rw [if_pos (show A.1 1 2 = 0 from a2.2.2.2.1), eA, if_pos hO, rA.1.1, nI_1]
    exact ⟨_, rfl, a2.o (by omega), fun _ _ => RT_L rA, fun q a b => (gSI_ne (by omega)).trans (a3.1 q (by omega)), a3.2⟩
  | .inl x, a2 =>
    have n0 : ¬ nI x.1 = 0 := nI_ne0 (by have := a2.2.2.1; omega) (by have := a2.2.2.1; omega)
    rw [show A.1 1 2 = nI x.1 from a2.2.2.2.1, if_neg n0]
    exact ⟨A, rfl, a2, fun _ c => (by cases c), a3.l⟩
/-- a line's city, but that it counts -/
def lnU (g : Nat → Nat) (n : Nat) (v : gCt) (p : Nat) : gCt := if v 0 9 = 0 then vH v (pv g n (hd1 g n (.inr p))) (pv g n (hd2 g n (.inr p))) (pv g n (hd3 g n (.inr p))) (pv g n (hd4 g n (.inr p))) else lnV g n v p
def lnT (g : Nat → Nat) (n : Nat) (v : gCt) (p : Nat) : gPs := if v 0 9 = 0 then hd5 g n (.inr p) else lnB g n v p
theorem C_line0 {M : gMem} {g : Nat → Nat} {n T p : Nat} {v : gCt} (h : CSt M g n (.inr p)) (hT : M.2.2 1 = T) (hO : gOb 7 T = true) (hV : VI v) (hr : RT M T v) : ∃ X, fX5_readLine M = fX5_readLine_86 X ∧ CSt X g n (lnT g n v p) ∧ (∀ q, lnT g n v p = .inr q → RT X T (lnU g n v p) ∧ gWF (lnU g n v p) ∧ 1 ≤ lnU g n v p 0 0) ∧ FrL T M X := by
  have hT4 := gTn_lo (gTn_of hO)
  obtain ⟨hv, h8, h0, hy⟩ := hV
  have hv0 := hv.1
  have h' := h
  obtain ⟨h1, h2, hk, hf1, hf2⟩ := h'
  obtain ⟨r0, r1, r2, r3, r4, r5, r6, r7, r8, r9⟩ := hr.1
  unfold fX5_readLine fX5_readLine_0 lnT lnU
  rw [hT, if_pos hO, r0]
  by_cases c9 : v 0 9 = 0
  · rw [c9, if_pos (show nI 0 = (0 : Int32) from rfl), if_pos rfl, if_pos rfl]
    obtain ⟨X, x1, x2, x3, x4, x5, x6⟩ := C_readHead h hT hO
    rw [x1, gB0_some]
    refine ⟨X, rfl, x2, fun q hq => ?_, fun q a b => x5 q a (by omega), x6⟩
    obtain ⟨k1, k2, k3, k4, k5⟩ := x3 q hq
    exact ⟨RT_H hr k1 x4 (fun i a b => x5 _ (by omega) (by omega)), WF_H hv h8 k2.2 k3 k4 k5, k2.1⟩
  · rw [if_neg (nI_ne0 (by omega) (by omega)), if_neg c9, if_neg c9]
    have w5 := C_isWord (w := 5) h1 h2 hk (by omega)
    have w9 := C_isWord (w := 9) h1 h2 hk (by omega)
    have w11 := C_isWord (w := 11) h1 h2 hk (by omega)
    have w12 := C_isWord (w := 12) h1 h2 hk (by omega)
    rw [show (915 : Nat) = 910 + 5 from rfl, w5, gB0_some, ite_bI]
    unfold lnB lnV
    cases b5 : isW g n 5 p
    · rw [if_neg (show ¬ false = true by decide), if_neg (show ¬ false = true by decide), if_neg (show ¬ false = true by decide), show (919 : Nat) = 910 + 9 from rfl, w9, gB0_some, ite_bI]
      cases b9 : isW g n 9 p
      · rw [if_neg (show ¬ false = true by decide), if_neg (show ¬ false = true by decide), if_neg (show ¬ false = true by decide), show (921 : Nat) = 910 + 11 from rfl, w11, gB0_some, ite_bI]
        cases b11 : isW g n 11 p
        · rw [if_neg (show ¬ false = true by decide), if_neg (show ¬ false = true by decide), if_neg (show ¬ false = true by decide), show (922 : Nat) = 910 + 12 from rfl, w12, gB0_some, ite_bI]
          cases b12 : isW g n 12 p
          · rw [if_neg (show ¬ false = true by decide), if_neg (show ¬ false = true by decide)]
            obtain ⟨X, x1, x2, x3⟩ := C_refuse (k := 1) h (by omega)
            rw [show (1 : Int32) = nI 1 from rfl, x1, gB0_some]
            exact ⟨X, rfl, x2, fun q hq => (by cases hq), x3.l⟩
          · rw [if_pos rfl, if_pos rfl]
            by_cases c : v 0 7 < 5
            · rw [if_pos c]
              obtain ⟨X, x1, x2, x3, x4, x5, x6, x7, x8⟩ := C_readCold h hT hO r8 c r5 hv0.2.2.2.2.1
              rw [x1, gB0_some]
              refine ⟨X, rfl, x2, fun q hq => ?_, fun q a b => x7 q a (by omega) (by omega) (by omega), x8⟩
              obtain ⟨k1, k2, k3⟩ := x3 q hq
              exact ⟨RT_C hr k1 x4 x5 x6 (fun i a => x7 _ (by omega) (by omega) (by omega) (by omega)), WF_C hv h8 c k2 k3, hy c9⟩
            · rw [if_neg c]
              obtain ⟨X, x1, x2, x3⟩ := C_noC h hT hO r8 (by omega) (by omega)
              rw [x1, gB0_some]
              exact ⟨X, rfl, x2, fun q hq => (by cases hq), x3.l⟩
        · rw [if_pos rfl, if_pos rfl, if_pos rfl]
          by_cases c : v 0 6 < 5
          · rw [if_pos c]
            obtain ⟨X, x1, x2, x3, x4, x5, x6, x7, x8⟩ := C_readDoor h hT hO r7 c
            rw [x1, gB0_some]
            refine ⟨X, rfl, x2, fun q hq => ?_, fun q a b => x7 q a (by omega) (by omega), x8⟩
            obtain ⟨k1, k2, k3⟩ := x3 q hq
            exact ⟨RT_D hr k1 x4 x5 x6 (fun i a b c => x7 _ (by omega) (by omega) (by omega)), WF_D hv h8 c ⟨k2, k3⟩, hy c9⟩
          · rw [if_neg c]
            obtain ⟨X, x1, x2, x3⟩ := C_noD h hT hO r7 (by omega) (by omega)
            rw [x1, gB0_some]
            exact ⟨X, rfl, x2, fun q hq => (by cases hq), x3.l⟩
      · rw [if_pos rfl, if_pos rfl, if_pos rfl]
        by_cases c : v 0 5 < 7
        · rw [if_pos c]
          obtain ⟨X, x1, x2, x3, x4, x5, x6, x7, x8⟩ := C_readJoin h hT hO r6 c r5 hv0.2.2.2.2.1
          rw [x1, gB0_some]
          refine ⟨X, rfl, x2, fun q hq => ?_, fun q a b => x7 q a (by omega) (by omega), x8⟩
          obtain ⟨k1, k2, k3, k4, k5, k6⟩ := x3 q hq
          exact ⟨RT_J hr k1 x4 x5 x6 (fun i a => x7 _ (by omega) (by omega) (by omega)), WF_J hv h8 c k2 k3 k4 ⟨k5, k6⟩, hy c9⟩
        · rw [if_neg c]
          obtain ⟨X, x1, x2, x3⟩ := C_noJ h hT hO r6 (by omega) (by omega)
          rw [x1, gB0_some]
          exact ⟨X, rfl, x2, fun q hq => (by cases hq), x3.l⟩
    · rw [if_pos rfl, if_pos rfl, if_pos rfl]
      by_cases c : v 0 4 < 6
      · rw [if_pos c]
        obtain ⟨X, x1, x2, x3, x4, x5, x6, x7, x8⟩ := C_readPartner h hT hO r5 c
        rw [x1, gB0_some]
        refine ⟨X, rfl, x2, fun q hq => ?_, fun q a b => x7 q a (by omega), x8⟩
        obtain ⟨k1, k2, k3, k4⟩ := x3 q hq
        exact ⟨RT_P hr k1 x4 x5 x6 (fun i a b => x7 _ (by omega) (by omega)), WF_P hv h8 c k2 k3 k4, hy c9⟩
      · rw [if_neg c]
        obtain ⟨X, x1, x2, x3⟩ := C_noP h hT hO r5 (by omega) (by omega)
        rw [x1, gB0_some]
        exact ⟨X, rfl, x2, fun q hq => (by cases hq), x3.l⟩
theorem lnU_8 {g : Nat → Nat} {n : Nat} {v : gCt} {p : Nat} : lnU g n v p 0 8 = v 0 8 ∧ lnU g n v p 0 9 = v 0 9 := by
  unfold lnU lnV
  repeat' split
  all_goals exact ⟨rfl, rfl⟩
theorem VI_L {w : gCt} (h : gWF w) (h8 : w 0 8 = 0) (h9 : w 0 9 < 800) (h0 : 1 ≤ w 0 0) : VI (vL w) :=
  ⟨WF_L h h8 h9, h8, fun e => absurd e (Nat.succ_ne_zero _), fun _ => h0⟩
theorem lnS_eq (g : Nat → Nat) (n : Nat) (v : gCt) (p : Nat) : lnS g n v p = sB (lnT g n v p) (rdS g n) := rfl
theorem lnW_eq (g : Nat → Nat) (n : Nat) (v : gCt) (p : Nat) : lnW g n v p = vL (lnU g n v p) := rfl
theorem C_readLine {M : gMem} {g : Nat → Nat} {n T p : Nat} {v : gCt} (h : CSt M g n (.inr p)) (hT : M.2.2 1 = T) (hO : gOb 7 T = true) (hV : VI v) (hr : RT M T v) (h9 : v 0 9 < 800) : ∃ N, fX5_readLine M = some N ∧ CSt N g n (lnS g n v p) ∧ (∀ q, lnS g n v p = .inr q → RT N T (lnW g n v p) ∧ VI (lnW g n v p)) ∧ FrL T M N := by
  obtain ⟨X, x1, x2, x3, x4⟩ := C_line0 h hT hO hV hr
  obtain ⟨N, n1, n2, n3, n4⟩ := C_sign x2 (by rw [x4.2]; exact hT) hO (fun q hq => (x3 q hq).1)
  refine ⟨N, x1.trans n1, n2, fun q hq => ?_, x4.tr n4⟩
  obtain ⟨r, hr', -⟩ := sB_inr hq
  obtain ⟨k1, k2, k3⟩ := x3 r hr'
  exact ⟨n3 q hq, VI_L k2 (lnU_8.1.trans hV.2.1) (Nat.lt_of_le_of_lt (Nat.le_of_eq lnU_8.2) h9) k3⟩
/-! all lines -/
def lnR (g : Nat → Nat) (n : Nat) : Nat → gCt → Nat → gPs × gCt
  | 0, v, p => (.inr p, v)
  | k + 1, v, p => if tK g n p = 0 then (.inr p, v) else match lnS g n v p with
    | .inl e => (.inl e, v)
    | .inr q => lnR g n k (lnW g n v p) q
theorem lnR_0 {g : Nat → Nat} {n k : Nat} {v : gCt} {p : Nat} (h : tK g n p = 0) : lnR g n k v p = (.inr p, v) := by
  cases k with
  | zero => rfl
  | succ k => rw [lnR, if_pos h]
theorem lnR_e {g : Nat → Nat} {n k : Nat} {v : gCt} {p : Nat} {e : Nat × Nat} (h : tK g n p ≠ 0) (h2 : lnS g n v p = .inl e) : lnR g n (k + 1) v p = (.inl e, v) := by
  rw [lnR, if_neg h, h2]
theorem lnR_s {g : Nat → Nat} {n k : Nat} {v : gCt} {p q : Nat} (h : tK g n p ≠ 0) (h2 : lnS g n v p = .inr q) : lnR g n (k + 1) v p = lnR g n k (lnW g n v p) q := by
  rw [lnR, if_neg h, h2]
def v00 : gCt := fun _ _ => 0
theorem VI_0 : VI v00 := ⟨⟨by unfold v00; omega, fun _ h => absurd h (Nat.not_lt_zero _), fun _ h => absurd h (Nat.not_lt_zero _), fun _ h => absurd h (Nat.not_lt_zero _), fun _ h => absurd h (Nat.not_lt_zero _), fun _ h => absurd h (Nat.not_lt_zero _)⟩, rfl, fun _ => ⟨rfl, rfl, rfl, rfl⟩, fun h => absurd rfl h⟩
def isR (s : gPs) : Bool := match s with
  | .inl _ => false
  | .inr _ => true
theorem C_lines {M : gMem} {g : Nat → Nat} {n T : Nat} (h : CSt M g n (.inr 0)) (hT : M.2.2 1 = T) (hO : gOb 7 T = true) (hr : RT M T v00) : ∃ N, fX5_readTape_28h (0 : Int32) M = some (bI (isR (lnR g n n v00 0).1), N) ∧ CSt N g n (lnR g n n v00 0).1 ∧ (∀ q, (lnR g n n v00 0).1 = .inr q → RT N T (lnR g n n v00 0).2 ∧ VI (lnR g n n v00 0).2) ∧ FrL T M N := by
  have n8 := h.1.1.2
  generalize hR : lnR g n n v00 0 = R
  have key := gLp_inv (f := fun s : Int32 × gMem => fX5_readTape_28 (s.1) s.2) (fun i (st : Int32 × gMem) => st.1 = nI i ∧ FrL T M st.2 ∧ ((∃ e, CSt st.2 g n (.inl e) ∧ R.1 = .inl e) ∨ ∃ p k v, CSt st.2 g n (.inr p) ∧ (i ≤ p ∧ n - p ≤ k) ∧ RT st.2 T v ∧ VI v ∧ v 0 9 = i ∧ lnR g n k v p = R)) 800 (fun r => r.1 = bI (isR R.1) ∧ CSt r.2 g n R.1 ∧ (∀ q, R.1 = .inr q → RT r.2 T R.2 ∧ VI R.2) ∧ FrL T M r.2) (by omega) (fun i st hi hI => ?_) (fun st hI => ?_) ((0 : Int32), M) ⟨rfl, ⟨fun _ _ _ => rfl, rfl⟩, Or.inr ⟨0, n, v00, h, ⟨by omega, by omega⟩, hr, VI_0, rfl, hR⟩⟩
  · obtain ⟨r, r1, r2, r3, r4, r5⟩ := key
    obtain ⟨x, N⟩ := r
    have r2 : x = bI (isR R.1) := r2
    subst r2
    exact ⟨N, r1, r3, r4, r5⟩
  · obtain ⟨i', N⟩ := st
    obtain ⟨g1, g2, g3⟩ := hI
    have g1 : i' = nI i := g1
    subst g1
    show (∃ s', fX5_readTape_28 (nI i) N = _ ∧ _) ∨ ∃ r, fX5_readTape_28 (nI i) N = _ ∧ _
    unfold fX5_readTape_28 fX5_readTape_59
    rw [if_neg (show ¬ (800 : Int32) ≤ nI i from nI_ge (b := 800) hi (by omega))]
    rcases g3 with ⟨e, c1, c2⟩ | ⟨p, k, v, c1, ⟨c2, c3⟩, c4, c5, c6, c7⟩
    · have c1 : CSt N g n (.inl e) := c1
      have n0 : ¬ nI e.1 = 0 := nI_ne0 (by have := c1.2.2.1; omega) (by have := c1.2.2.1; omega)
      rw [show N.1 1 2 = nI e.1 from c1.2.2.2.1, if_neg n0, if_neg n0, ite_self]
      refine Or.inr ⟨((0 : Int32), N), rfl, by rw [c2]; rfl, by rw [c2]; exact c1, fun q hq => ?_, g2⟩
      rw [c2] at hq; cases hq
    · have c1 : CSt N g n (.inr p) := c1
      have c1' := c1
      obtain ⟨d1, d2, ⟨k5, k6, k4, k7⟩, d4, d5⟩ := c1'
      have kl := tK_le g n p
      rw [k4, d4, if_pos (rfl : (0 : Int32) = 0), if_pos (rfl : (0 : Int32) = 0)]
      by_cases k0 : tK g n p = 0
      · rw [k0, if_pos (show nI 0 = (0 : Int32) from rfl)]
        have eR : R = (.inr p, v) := c7.symm.trans (lnR_0 k0)
        subst eR
        exact Or.inr ⟨((1 : Int32), N), rfl, rfl, c1, fun q hq => ⟨c4, c5⟩, g2⟩
      · rw [if_neg (nI_ne0 (by omega) (by omega))]
        have hs0 := tS_le (g := g) d2
        have hlt : tS g n p < n := by
          have := mt (tK_0 (g := g) d2).mpr k0
          omega
        have eT : N.2.2 1 = T := by rw [show N.2 = M.2 from g2.2]; exact hT
        obtain ⟨K, k1, k2, k3, k4'⟩ := C_readLine c1 eT hO c5 c4 (by omega)
        rw [k1, gB0_some, nI_1]
        obtain ⟨k', rfl⟩ : ∃ k', k = k' + 1 := ⟨k - 1, by omega⟩
        refine Or.inl ⟨_, rfl, rfl, g2.tr k4', ?_⟩
        generalize eS : lnS g n v p = S at k2 k3
        match S, k2 with
        | .inl e, k2 => exact Or.inl ⟨e, k2, by rw [← c7, lnR_e k0 eS]⟩
        | .inr q, k2 =>
          have lt := ln_lt d2 eS
          obtain ⟨m1, m2⟩ := k3 q rfl
          refine Or.inr ⟨q, k', lnW g n v p, k2, ⟨by omega, by omega⟩, m1, m2, ?_, by rw [← c7, lnR_s k0 eS]⟩
          rw [lnW_eq]
          show lnU g n v p 0 9 + 1 = i + 1
          rw [lnU_8.2, c6]
  · obtain ⟨i', N⟩ := st
    obtain ⟨g1, g2, g3⟩ := hI
    have g1 : i' = nI 800 := g1
    subst g1
    show ∃ r, fX5_readTape_28 (nI 800) N = _ ∧ _
    unfold fX5_readTape_28 fX5_readTape_59
    rw [if_pos (show (800 : Int32) ≤ nI 800 from Int32.le_refl _)]
    rcases g3 with ⟨e, c1, c2⟩ | ⟨p, k, v, c1, ⟨c2, c3⟩, c4, c5, c6, c7⟩
    · have c1 : CSt N g n (.inl e) := c1
      have n0 : ¬ nI e.1 = 0 := nI_ne0 (by have := c1.2.2.1; omega) (by have := c1.2.2.1; omega)
      rw [show N.1 1 2 = nI e.1 from c1.2.2.2.1, if_neg n0]
      refine ⟨((0 : Int32), N), rfl, by rw [c2]; rfl, by rw [c2]; exact c1, fun q hq => ?_, g2⟩
      rw [c2] at hq; cases hq
    · have c1 : CSt N g n (.inr p) := c1
      have c1' := c1
      obtain ⟨d1, d2, ⟨k5, k6, k4, k7⟩, d4, d5⟩ := c1'
      have hs0 := tS_le (g := g) d2
      have k0 : tK g n p = 0 := (tK_0 d2).mpr (by omega)
      have eR : R = (.inr p, v) := c7.symm.trans (lnR_0 k0)
      subst eR
      rw [d4, if_pos (rfl : (0 : Int32) = 0)]
      exact ⟨((1 : Int32), N), rfl, rfl, c1, fun q hq => ⟨c4, c5⟩, g2⟩
theorem C_clear {M : gMem} {T : Nat} (hO : gOb 7 T = true) : ∃ N, fX7_clear T M = some N ∧ RT N T v00 ∧ (∀ q, q ≠ T → q ≠ T + 10 → N.1 q = M.1 q) ∧ N.2 = M.2 := by
  unfold fX7_clear fX7_clear_0 fX7_clear_7 fX7_clear_12 fX7_clear_17 fX7_clear_22 fX7_clear_27 fX7_clear_32 fX7_clear_37 fX7_clear_42 fX7_clear_50
  have no : ∀ i, ¬ i < v00 0 i := fun i h => absurd h (Nat.not_lt_zero _)
  refine ⟨_, rfl, ⟨⟨?_, ?_, ?_, ?_, ?_, ?_, ?_, ?_, ?_, gSI_eq⟩, fun p hp => absurd hp (Nat.not_lt_zero _), fun p hp => absurd hp (Nat.not_lt_zero _), fun p hp => absurd hp (Nat.not_lt_zero _), fun p hp => absurd hp (Nat.not_lt_zero _), fun p hp => absurd hp (Nat.not_lt_zero _)⟩, fun q a b => ?_, rfl⟩
  · rw [gSI_o (by omega), gSI_nj (by omega), gSI_nj (by omega), gSI_nj (by omega), gSI_nj (by omega), gSI_nj (by omega), gSI_nj (by omega), gSI_nj (by omega), gSI_nj (by omega), gSI_eq]; rfl
  · rw [gSI_o (by omega), gSI_nj (by omega), gSI_nj (by omega), gSI_nj (by omega), gSI_nj (by omega), gSI_nj (by omega), gSI_nj (by omega), gSI_nj (by omega), gSI_eq]; rfl
  · rw [gSI_o (by omega), gSI_nj (by omega), gSI_nj (by omega), gSI_nj (by omega), gSI_nj (by omega), gSI_nj (by omega), gSI_nj (by omega), gSI_eq]; rfl
  · rw [gSI_o (by omega), gSI_nj (by omega), gSI_nj (by omega), gSI_nj (by omega), gSI_nj (by omega), gSI_nj (by omega), gSI_eq]; rfl
  · rw [gSI_o (by omega), gSI_nj (by omega), gSI_nj (by omega), gSI_nj (by omega), gSI_nj (by omega), gSI_eq]; rfl
  · rw [gSI_o (by omega), gSI_nj (by omega), gSI_nj (by omega), gSI_nj (by omega), gSI_eq]; rfl
  · rw [gSI_o (by omega), gSI_nj (by omega), gSI_nj (by omega), gSI_eq]; rfl
  · rw [gSI_o (by omega), gSI_nj (by omega), gSI_eq]; rfl
  · rw [gSI_o (by omega), gSI_eq]; rfl
  · rw [gSI_ne b, gSI_ne a, gSI_ne a, gSI_ne a, gSI_ne a, gSI_ne a, gSI_ne a, gSI_ne a, gSI_ne a, gSI_ne a]
theorem C_readTape {M : gMem} {g : Nat → Nat} {n T : Nat} (h : TBc M g n) (hT : M.2.2 1 = T) (hO : gOb 7 T = true) : ∃ N, fX5_readTape M = some (bI (isR (lnR g n n v00 0).1), N) ∧ CSt N g n (lnR g n n v00 0).1 ∧ (∀ q, (lnR g n n v00 0).1 = .inr q → RT N T (lnR g n n v00 0).2 ∧ VI (lnR g n n v00 0).2) ∧ FrL T M N := by
  have hT4 := gTn_lo (gTn_of hO)
  obtain ⟨A, a1, a2, a3, a4⟩ := C_clear (M := M) hO
  obtain ⟨B, hB⟩ : ∃ B, B = gSI (gSI (gSI A 1 2 0) 1 3 (-1)) 1 6 0 := ⟨_, rfl⟩
  have b1' : ∀ q, q ≠ 1 → B.1 q = A.1 q := fun q hq => by rw [hB, gSI_ne hq, gSI_ne hq, gSI_ne hq]
  have b2 : B.2 = M.2 := by rw [hB]; exact a4
  have hTB : TBc B g n := by
    unfold TBc
    rw [b1' 2 (by omega), b1' 3 (by omega), a3 2 (by omega) (by omega), a3 3 (by omega) (by omega)]; exact h
  obtain ⟨N, n1, n2, n3⟩ := C_advance hTB (Nat.zero_le n) (show B.1 1 6 = nI 0 by rw [hB, gSI_eq]; rfl)
  have eN : N.2 = M.2 := n3.2.2.trans b2
  have cN : CSt N g n (.inr 0) := ⟨hTB.a1 n3, Nat.zero_le n, n2, by rw [n3.2.1 2 (by omega), hB, gSI_nj (by omega), gSI_nj (by omega), gSI_eq], by rw [n3.2.1 3 (by omega), hB, gSI_nj (by omega), gSI_eq]⟩
  have rN : RT N T v00 := RT_same a2 (fun i hi => (n3.1 _ (by omega)).trans (b1' _ (by omega)))
  obtain ⟨K, k1, k2, k3, k4⟩ := C_lines cN (by rw [eN]; exact hT) hO rN
  unfold fX5_readTape fX5_readTape_0 fX5_readTape_14 fX5_readTape_19 fX5_readTape_23
  rw [hT, if_pos hO, a1, gB0_some, ← hB, n1, gB0_some, k1]
  refine ⟨K, rfl, k2, k3, fun q x y => ?_, k4.2.trans eN⟩
  rw [k4.1 q x y, n3.1 q x, b1' q x, a3 q (by omega) (by omega)]
