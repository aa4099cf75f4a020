/-! The text: lines, by the class. -/
def u2 (v : gCt) (k i x : Nat) : gCt := fun a b => if a = k ∧ b = i then x else v a b
theorem u2_e {v : gCt} {k i x : Nat} : u2 v k i x k i = x := if_pos ⟨rfl, rfl⟩
theorem u2_k {v : gCt} {k i x a b : Nat} (h : a ≠ k ∨ b ≠ i) : u2 v k i x a b = v a b := if_neg (by omega)
theorem sB_inr {s : gPs} {f : Nat → gPs} {q : Nat} (h : sB s f = .inr q) : ∃ p, s = .inr p ∧ f p = .inr q := by
  match s, h with
  | .inr p, h => exact ⟨p, rfl, h⟩
theorem rdN_ok {g : Nat → Nat} {n lo hi p q : Nat} (h : rdN g n lo hi p = .inr q) : okN g n lo hi p = true ∧ lo ≤ tV g n p ∧ tV g n p < hi ∧ q = tE g n p := by
  unfold rdN at h
  cases c : okN g n lo hi p
  · rw [c, if_neg (by decide)] at h; cases h
  · rw [c, if_pos rfl] at h
    have c' := c
    unfold okN at c'
    simp only [Bool.and_eq_true, decide_eq_true_eq] at c'
    cases h
    exact ⟨rfl, c'.2.1, c'.2.2, rfl⟩
/-- the value of the number that stands there -/
def pv (g : Nat → Nat) (n : Nat) (s : gPs) : Nat := match s with
  | .inr p => tV g n p
  | .inl _ => 0
theorem CSt.o {M : gMem} {g : Nat → Nat} {n : Nat} {s : gPs} (h : CSt M g n s) {q j : Nat} {x : Int32} (hq : 4 ≤ q) : CSt (gSI M q j x) g n s := by
  have e : ∀ k, k < 4 → (gSI M q j x).1 k = M.1 k := fun k hk => gSI_ne (by omega)
  unfold CSt TBc TKc
  rw [e 1 (by omega), e 2 (by omega), e 3 (by omega)]
  exact h
def adS (g : Nat → Nat) (n p : Nat) : gPs := .inr (tE g n p)
theorem C_advS {M : gMem} {g : Nat → Nat} {n p : Nat} (h : CSt M g n (.inr p)) : ∃ N, fX5_advance M = some N ∧ CSt N g n (sB (.inr p) (adS g n)) ∧ Fr 1 2 M N := C_adv h
/-- behind one number more, its value told if all is well -/
theorem C_num {M : gMem} {g : Nat → Nat} {n lo hi : Nat} {s : gPs} {x1 x2 : Int32} (h : CSt M g n s) (h1 : x1 = nI lo) (hl : lo < 2 ^ 31) (hh : hi ≤ 1000) (hx : x2.toInt = (hi : Int) - 1) : ∃ r N, fX5_expectNumber x1 x2 M = some (r, N) ∧ CSt N g n (sB s (rdN g n lo hi)) ∧ Fr 1 2 M N ∧ ∀ q, sB s (rdN g n lo hi) = .inr q → r = nI (pv g n s) ∧ lo ≤ pv g n s ∧ pv g n s < hi := by
  subst h1
  obtain ⟨r, N, n1, n2, n3, n4⟩ := C_expectNumber h hl hh hx
  refine ⟨r, N, n1, n2, n3, fun q hq => ?_⟩
  obtain ⟨p, rfl, hp⟩ := sB_inr hq
  obtain ⟨a, b, c, -⟩ := rdN_ok hp
  exact ⟨n4 p rfl a, b, c⟩
theorem C_wrd {M : gMem} {g : Nat → Nat} {n w o : Nat} {s : gPs} (h : CSt M g n s) (ho : o = 910 + w) (hw : w < 14) : ∃ N, fX5_expectWord o M = some N ∧ CSt N g n (sB s (rdW g n w)) ∧ Fr 1 2 M N := by
  subst ho
  exact C_expectWord h hw
/-! the head -/
def hd1 (g : Nat → Nat) (n : Nat) (s : gPs) : gPs := sB (sB s (rdW g n 0)) (rdW g n 1)
def hd2 (g : Nat → Nat) (n : Nat) (s : gPs) : gPs := sB (sB (hd1 g n s) (rdN g n 1 13)) (rdW g n 2)
def hd3 (g : Nat → Nat) (n : Nat) (s : gPs) : gPs := sB (sB (hd2 g n s) (rdN g n 0 4)) (rdW g n 3)
def hd4 (g : Nat → Nat) (n : Nat) (s : gPs) : gPs := sB (sB (hd3 g n s) (rdN g n 0 21)) (rdW g n 4)
def hd5 (g : Nat → Nat) (n : Nat) (s : gPs) : gPs := sB (hd4 g n s) (rdN g n 0 11)
theorem sB_n {s : gPs} {f : Nat → gPs} {q : Nat} (h : sB s f = .inr q) : ∃ p, s = .inr p := by
  obtain ⟨p, h1, -⟩ := sB_inr h
  exact ⟨p, h1⟩
theorem C_readHead {M : gMem} {g : Nat → Nat} {n T : Nat} {s : gPs} (h : CSt M g n s) (hT : M.2.2 1 = T) (hO : gOb 7 T = true) : ∃ N, fX5_readHead M = some N ∧ CSt N g n (hd5 g n s) ∧ (∀ q, hd5 g n s = .inr q → (N.1 T 1 = nI (pv g n (hd1 g n s)) ∧ N.1 T 2 = nI (pv g n (hd2 g n s)) ∧ N.1 T 3 = nI (pv g n (hd3 g n s)) ∧ N.1 T 4 = nI (pv g n (hd4 g n s))) ∧ (1 ≤ pv g n (hd1 g n s) ∧ pv g n (hd1 g n s) ≤ 12) ∧ pv g n (hd2 g n s) ≤ 3 ∧ pv g n (hd3 g n s) ≤ 20 ∧ pv g n (hd4 g n s) ≤ 10) ∧ (∀ j, j = 0 ∨ 5 ≤ j → N.1 T j = M.1 T j) ∧ (∀ q, q ≠ 1 → q ≠ T → N.1 q = M.1 q) ∧ N.2 = M.2 := by
  have hT4 := gTn_lo (gTn_of hO)
  unfold fX5_readHead fX5_readHead_0 fX5_readHead_29 fX5_readHead_48 fX5_readHead_68
  obtain ⟨A, a1, a2, a3⟩ := C_wrd (w := 0) h rfl (by omega)
  rw [a1, gB0_some]
  obtain ⟨B, b1', b2, b3⟩ := C_wrd (w := 1) a2 rfl (by omega)
  have eB : B.2.2 1 = T := by rw [b3.2, a3.2]; exact hT
  obtain ⟨r1, C, c1, c2, c3, c4⟩ := C_num (lo := 1) (hi := 13) (x1 := 1) (x2 := 12) b2 rfl (by omega) (by omega) rfl
  rw [b1', gB0_some, eB, if_pos hO, c1, gBp_some]
  dsimp only
  obtain ⟨D, d1, d2, d3⟩ := C_wrd (w := 2) (c2.o (q := T) (j := 1) (x := r1) (by omega)) rfl (by omega)
  have eD : D.2.2 1 = T := by rw [d3.2]; show C.2.2 1 = T; rw [c3.2]; exact eB
  obtain ⟨r2, E, e1, e2, e3, e4⟩ := C_num (lo := 0) (hi := 4) (x1 := 0) (x2 := 3) d2 rfl (by omega) (by omega) rfl
  rw [d1, gB0_some, eD, if_pos hO, e1, gBp_some]
  dsimp only
  obtain ⟨F, f1, f2, f3⟩ := C_wrd (w := 3) (e2.o (q := T) (j := 2) (x := r2) (by omega)) rfl (by omega)
  have eF : F.2.2 1 = T := by rw [f3.2]; show E.2.2 1 = T; rw [e3.2]; exact eD
  obtain ⟨r3, G, g1, g2, g3, g4⟩ := C_num (lo := 0) (hi := 21) (x1 := 0) (x2 := 20) f2 rfl (by omega) (by omega) rfl
  rw [f1, gB0_some, eF, if_pos hO, g1, gBp_some]
  dsimp only
  obtain ⟨H, h1, h2, h3⟩ := C_wrd (w := 4) (g2.o (q := T) (j := 3) (x := r3) (by omega)) rfl (by omega)
  have eH : H.2.2 1 = T := by rw [h3.2]; show G.2.2 1 = T; rw [g3.2]; exact eF
  obtain ⟨r4, I, i1, i2, i3, i4⟩ := C_num (lo := 0) (hi := 11) (x1 := 0) (x2 := 10) h2 rfl (by omega) (by omega) rfl
  rw [h1, gB0_some, eH, if_pos hO, i1, gBp_some]
  dsimp only
  have oT : ∀ {X Y : gMem}, Fr 1 2 X Y → Y.1 T = X.1 T := fun f => f.1 T (by omega)
  have oq : ∀ {X Y : gMem} {q : Nat}, Fr 1 2 X Y → q ≠ 1 → Y.1 q = X.1 q := fun f hq => f.1 _ (by omega)
  refine ⟨_, rfl, i2.o (by omega), fun q hq => ?_, fun j hj => ?_, fun q q1 q2 => ?_, ?_⟩
  · have k4 := i4 q hq
    obtain ⟨p4, hp4⟩ := sB_n hq
    obtain ⟨p4', hp4'⟩ := sB_n hp4
    have k3 := g4 p4' hp4'
    obtain ⟨p3, hp3⟩ := sB_n hp4'
    obtain ⟨p3', hp3'⟩ := sB_n hp3
    have k2 := e4 p3' hp3'
    obtain ⟨p2, hp2⟩ := sB_n hp3'
    obtain ⟨p2', hp2'⟩ := sB_n hp2
    have k1 := c4 p2' hp2'
    refine ⟨⟨?_, ?_, ?_, ?_⟩, ⟨k1.2.1, by have := k1.2.2; unfold hd1; omega⟩, by have := k2.2.2; unfold hd2 hd1; omega, by have := k3.2.2; unfold hd3 hd2 hd1; omega, by have := k4.2.2; unfold hd4 hd3 hd2 hd1; omega⟩
    · rw [gSI_nj (by omega), oT i3, oT h3, gSI_nj (by omega), oT g3, oT f3, gSI_nj (by omega), oT e3, oT d3, gSI_eq]; exact k1.1
    · rw [gSI_nj (by omega), oT i3, oT h3, gSI_nj (by omega), oT g3, oT f3, gSI_eq]; exact k2.1
    · rw [gSI_nj (by omega), oT i3, oT h3, gSI_eq]; exact k3.1
    · rw [gSI_eq]; exact k4.1
  · rw [gSI_nj (by omega), oT i3, oT h3, gSI_nj (by omega), oT g3, oT f3, gSI_nj (by omega), oT e3, oT d3, gSI_nj (by omega), oT c3, oT b3, oT a3]
  · rw [gSI_ne q2, oq i3 q1, oq h3 q1, gSI_ne q2, oq g3 q1, oq f3 q1, gSI_ne q2, oq e3 q1, oq d3 q1, gSI_ne q2, oq c3 q1, oq b3 q1, oq a3 q1]
  · show I.2 = M.2
    rw [i3.2, h3.2]; show G.2 = M.2
    rw [g3.2, f3.2]; show E.2 = M.2
    rw [e3.2, d3.2]; show C.2 = M.2
    rw [c3.2, b3.2, a3.2]
/-! a partner -/
def pr1 (g : Nat → Nat) (n p : Nat) : gPs := sB (sB (.inr p) (adS g n)) (rdW g n 6)
def pr2 (g : Nat → Nat) (n p : Nat) : gPs := sB (sB (pr1 g n p) (rdN g n 1 10)) (rdW g n 7)
def pr3 (g : Nat → Nat) (n p : Nat) : gPs := sB (sB (pr2 g n p) (rdN g n 0 100)) (rdW g n 8)
def pr4 (g : Nat → Nat) (n p : Nat) : gPs := sB (pr3 g n p) (rdN g n 0 10)
theorem C_readPartner {M : gMem} {g : Nat → Nat} {n T p c : Nat} (h : CSt M g n (.inr p)) (hT : M.2.2 1 = T) (hO : gOb 7 T = true) (hc : M.1 T 5 = nI c) (h6 : c < 6) : ∃ N, fX5_readPartner M = some N ∧ CSt N g n (pr4 g n p) ∧ (∀ q, pr4 g n p = .inr q → (N.1 (T + 1) c = nI (pv g n (pr1 g n p)) ∧ N.1 (T + 2) c = nI (pv g n (pr2 g n p)) ∧ N.1 (T + 3) c = nI (pv g n (pr3 g n p))) ∧ (1 ≤ pv g n (pr1 g n p) ∧ pv g n (pr1 g n p) ≤ 9) ∧ pv g n (pr2 g n p) ≤ 99 ∧ pv g n (pr3 g n p) ≤ 9) ∧ N.1 T 5 = nI (c + 1) ∧ (∀ j, j ≠ 5 → N.1 T j = M.1 T j) ∧ (∀ i k, 1 ≤ i → i ≤ 3 → k ≠ c → N.1 (T + i) k = M.1 (T + i) k) ∧ (∀ q, q ≠ 1 → q < T ∨ T + 4 ≤ q → N.1 q = M.1 q) ∧ N.2 = M.2 := by
  have ht := gTn_of hO
  have hT4 := gTn_lo ht
  have oT : ∀ {X Y : gMem} {i : Nat}, Fr 1 2 X Y → Y.1 (T + i) = X.1 (T + i) := fun f => f.1 _ (by omega)
  have oT0 : ∀ {X Y : gMem}, Fr 1 2 X Y → Y.1 T = X.1 T := fun f => f.1 _ (by omega)
  have oq : ∀ {X Y : gMem} {q : Nat}, Fr 1 2 X Y → q ≠ 1 → Y.1 q = X.1 q := fun f hq => f.1 _ (by omega)
  unfold fX5_readPartner fX5_readPartner_0 fX5_readPartner_49 fX5_readPartner_71 fX5_readPartner_91
  rw [hT, if_pos hO, hc, if_pos (show nI c < (6 : Int32) from nI_lt (b := 6) h6 (by omega))]
  obtain ⟨A, a1, a2, a3⟩ := C_advS h
  obtain ⟨B, b1', b2, b3⟩ := C_wrd (w := 6) a2 rfl (by omega)
  have eB : B.2.2 1 = T := by rw [b3.2, a3.2]; exact hT
  obtain ⟨r1, C, c1, c2, c3, c4⟩ := C_num (lo := 1) (hi := 10) (x1 := 1) (x2 := 9) b2 rfl (by omega) (by omega) rfl
  rw [a1, gB0_some, b1', gB0_some, eB, if_pos hO, c1, gBp_some, if_pos (ix1 ht h6), nI_clamp (by omega)]
  dsimp only
  obtain ⟨D, d1, d2, d3⟩ := C_wrd (w := 7) (c2.o (q := T + 1) (j := c) (x := r1) (by omega)) rfl (by omega)
  have eD : D.2.2 1 = T := by rw [d3.2]; show C.2.2 1 = T; rw [c3.2]; exact eB
  obtain ⟨r2, E, e1, e2, e3, e4⟩ := C_num (lo := 0) (hi := 100) (x1 := 0) (x2 := 99) d2 rfl (by omega) (by omega) rfl
  rw [d1, gB0_some, eD, if_pos hO, e1, gBp_some, if_pos (ix2 ht h6)]
  dsimp only
  obtain ⟨F, f1, f2, f3⟩ := C_wrd (w := 8) (e2.o (q := T + 2) (j := c) (x := r2) (by omega)) rfl (by omega)
  have eF : F.2.2 1 = T := by rw [f3.2]; show E.2.2 1 = T; rw [e3.2]; exact eD
  obtain ⟨r3, G, g1, g2, g3, g4⟩ := C_num (lo := 0) (hi := 10) (x1 := 0) (x2 := 9) f2 rfl (by omega) (by omega) rfl
  have eG : (gSI G (T + 3) c r3).2.2 1 = T := by show G.2.2 1 = T; rw [g3.2]; exact eF
  rw [f1, gB0_some, eF, if_pos hO, g1, gBp_some, if_pos (ix3 ht h6)]
  dsimp only
  have v5 : (gSI G (T + 3) c r3).1 T 5 = nI c := by
    rw [gSI_o (by omega), oT0 g3, oT0 f3, gSI_o (by omega), oT0 e3, oT0 d3, gSI_o (by omega), oT0 c3, oT0 b3, oT0 a3]; exact hc
  rw [eG, if_pos hO, v5, nI_1]
  refine ⟨_, rfl, (g2.o (by omega)).o (by omega), fun q hq => ?_, gSI_eq, fun j hj => ?_, fun i k i1 i2 hk => ?_, fun q q1 q2 => ?_, ?_⟩
  · have k3 := g4 q hq
    obtain ⟨p3, hp3⟩ := sB_n hq
    obtain ⟨p3', hp3'⟩ := sB_n hp3
    have k2 := e4 p3' hp3'
    obtain ⟨p2, hp2⟩ := sB_n hp3'
    obtain ⟨p2', hp2'⟩ := sB_n hp2
    have k1 := c4 p2' hp2'
    refine ⟨⟨?_, ?_, ?_⟩, ⟨k1.2.1, by have := k1.2.2; unfold pr1; omega⟩, by have := k2.2.2; unfold pr2 pr1; omega, by have := k3.2.2; unfold pr3 pr2 pr1; omega⟩
    · rw [gSI_o (by omega), gSI_o (by omega), oT g3, oT f3, gSI_o (by omega), oT e3, oT d3, gSI_eq]; exact k1.1
    · rw [gSI_o (by omega), gSI_o (by omega), oT g3, oT f3, gSI_eq]; exact k2.1
    · rw [gSI_o (by omega), gSI_eq]; exact k3.1
  · rw [gSI_nj hj, gSI_o (by omega), oT0 g3, oT0 f3, gSI_o (by omega), oT0 e3, oT0 d3, gSI_o (by omega), oT0 c3, oT0 b3, oT0 a3]
  · have s : ∀ (N : gMem) (a' : Nat) (x : Int32), (gSI N a' c x).1 (T + i) k = N.1 (T + i) k := fun N a' x => by
      by_cases e : T + i = a'
      · subst e; exact gSI_nj hk
      · exact gSI_o e
    rw [gSI_o (by omega), s, oT g3, oT f3, s, oT e3, oT d3, s, oT c3, oT b3, oT a3]
  · rw [gSI_ne (by omega), gSI_ne (by omega), oq g3 q1, oq f3 q1, gSI_ne (by omega), oq e3 q1, oq d3 q1, gSI_ne (by omega), oq c3 q1, oq b3 q1, oq a3 q1]
  · show G.2 = M.2
    rw [g3.2, f3.2]; show E.2 = M.2
    rw [e3.2, d3.2]; show C.2 = M.2
    rw [c3.2, b3.2, a3.2]
/-! a door -/
def dr1 (g : Nat → Nat) (n p : Nat) : gPs := sB (.inr p) (adS g n)
def dr2 (g : Nat → Nat) (n p : Nat) : gPs := sB (dr1 g n p) (rdN g n 1 61)
theorem C_readDoor {M : gMem} {g : Nat → Nat} {n T p c : Nat} (h : CSt M g n (.inr p)) (hT : M.2.2 1 = T) (hO : gOb 7 T = true) (hc : M.1 T 7 = nI c) (h6 : c < 5) : ∃ N, fX5_readDoor M = some N ∧ CSt N g n (dr2 g n p) ∧ (∀ q, dr2 g n p = .inr q → N.1 (T + 7) c = nI (pv g n (dr1 g n p)) ∧ 1 ≤ pv g n (dr1 g n p) ∧ pv g n (dr1 g n p) ≤ 60) ∧ N.1 T 7 = nI (c + 1) ∧ (∀ j, j ≠ 7 → N.1 T j = M.1 T j) ∧ (∀ k, k ≠ c → N.1 (T + 7) k = M.1 (T + 7) k) ∧ (∀ q, q ≠ 1 → q ≠ T → q ≠ T + 7 → N.1 q = M.1 q) ∧ N.2 = M.2 := by
  have ht := gTn_of hO
  have hT4 := gTn_lo ht
  have oq : ∀ {X Y : gMem} {q : Nat}, Fr 1 2 X Y → q ≠ 1 → Y.1 q = X.1 q := fun f hq => f.1 _ (by omega)
  unfold fX5_readDoor fX5_readDoor_0 fX5_readDoor_40
  rw [hT, if_pos hO, hc, if_pos (show nI c < (5 : Int32) from nI_lt (b := 5) h6 (by omega))]
  obtain ⟨A, a1, a2, a3⟩ := C_advS h
  have eA : A.2.2 1 = T := by rw [a3.2]; exact hT
  obtain ⟨r1, C, c1, c2, c3, c4⟩ := C_num (lo := 1) (hi := 61) (x1 := 1) (x2 := 60) a2 rfl (by omega) (by omega) rfl
  have eC : (gSI C (T + 7) c r1).2.2 1 = T := by show C.2.2 1 = T; rw [c3.2]; exact eA
  rw [a1, gB0_some, eA, if_pos hO, c1, gBp_some, if_pos (ix7 ht h6), nI_clamp (by omega)]
  dsimp only
  have v5 : (gSI C (T + 7) c r1).1 T 7 = nI c := by
    rw [gSI_o (by omega), oq c3 (by omega), oq a3 (by omega)]; exact hc
  rw [eC, if_pos hO, v5, nI_1]
  refine ⟨_, rfl, (c2.o (by omega)).o (by omega), fun q hq => ?_, gSI_eq, fun j hj => ?_, fun k hk => ?_, fun q q1 q2 q3 => ?_, ?_⟩
  · have k1 := c4 q hq
    refine ⟨?_, k1.2.1, by have := k1.2.2; unfold dr1; omega⟩
    rw [gSI_o (by omega), gSI_eq]; exact k1.1
  · rw [gSI_nj hj, gSI_o (by omega), oq c3 (by omega), oq a3 (by omega)]
  · rw [gSI_o (by omega), gSI_nj hk, oq c3 (by omega), oq a3 (by omega)]
  · rw [gSI_ne q2, gSI_ne q3, oq c3 q1, oq a3 q1]
  · show C.2 = M.2
    rw [c3.2, a3.2]
/-! a cold -/
def co2 (g : Nat → Nat) (n np p : Nat) : gPs := sB (sB (dr1 g n p) (rdN g n 0 np)) (rdW g n 13)
def co3 (g : Nat → Nat) (n np p : Nat) : gPs := sB (co2 g n np p) (rdN g n 0 12)
theorem np_1 : ∀ c, c ≤ 6 → (nI c - 1).toInt = (c : Int) - 1 := by decide +kernel
theorem C_readCold {M : gMem} {g : Nat → Nat} {n T p c np : Nat} (h : CSt M g n (.inr p)) (hT : M.2.2 1 = T) (hO : gOb 7 T = true) (hc : M.1 T 8 = nI c) (h6 : c < 5) (hn : M.1 T 5 = nI np) (hn6 : np ≤ 6) : ∃ N, fX5_readCold M = some N ∧ CSt N g n (co3 g n np p) ∧ (∀ q, co3 g n np p = .inr q → (N.1 (T + 8) c = nI (pv g n (dr1 g n p)) ∧ N.1 (T + 9) c = nI (pv g n (co2 g n np p))) ∧ pv g n (dr1 g n p) < np ∧ pv g n (co2 g n np p) ≤ 11) ∧ N.1 T 8 = nI (c + 1) ∧ (∀ j, j ≠ 8 → N.1 T j = M.1 T j) ∧ (∀ i k, i = 8 ∨ i = 9 → k ≠ c → N.1 (T + i) k = M.1 (T + i) k) ∧ (∀ q, q ≠ 1 → q ≠ T → q ≠ T + 8 → q ≠ T + 9 → N.1 q = M.1 q) ∧ N.2 = M.2 := by
  have ht := gTn_of hO
  have hT4 := gTn_lo ht
  have oq : ∀ {X Y : gMem} {q : Nat}, Fr 1 2 X Y → q ≠ 1 → Y.1 q = X.1 q := fun f hq => f.1 _ (by omega)
  unfold fX5_readCold fX5_readCold_0 fX5_readCold_49 fX5_readCold_69
  rw [hT, if_pos hO, hc, if_pos (show nI c < (5 : Int32) from nI_lt (b := 5) h6 (by omega))]
  obtain ⟨A, a1, a2, a3⟩ := C_advS h
  have eA : A.2.2 1 = T := by rw [a3.2]; exact hT
  have eN : A.1 T 5 = nI np := by rw [oq a3 (by omega)]; exact hn
  obtain ⟨r1, C, c1, c2, c3, c4⟩ := C_num (lo := 0) (hi := np) (x1 := 0) (x2 := nI np - 1) a2 rfl (by omega) (by omega) (np_1 np hn6)
  rw [a1, gB0_some, eA, if_pos hO, if_pos hO, eN, c1, gBp_some, if_pos (ix8 ht h6), nI_clamp (by omega)]
  dsimp only
  obtain ⟨D, d1, d2, d3⟩ := C_wrd (w := 13) (c2.o (q := T + 8) (j := c) (x := r1) (by omega)) rfl (by omega)
  have eD : D.2.2 1 = T := by rw [d3.2]; show C.2.2 1 = T; rw [c3.2]; exact eA
  obtain ⟨r2, E, e1, e2, e3, e4⟩ := C_num (lo := 0) (hi := 12) (x1 := 0) (x2 := 11) d2 rfl (by omega) (by omega) rfl
  have eE : (gSI E (T + 9) c r2).2.2 1 = T := by show E.2.2 1 = T; rw [e3.2]; exact eD
  rw [d1, gB0_some, eD, if_pos hO, e1, gBp_some, if_pos (ix9 ht h6)]
  dsimp only
  have v5 : (gSI E (T + 9) c r2).1 T 8 = nI c := by
    rw [gSI_o (by omega), oq e3 (by omega), oq d3 (by omega), gSI_o (by omega), oq c3 (by omega), oq a3 (by omega)]; exact hc
  rw [eE, if_pos hO, v5, nI_1]
  refine ⟨_, rfl, (e2.o (by omega)).o (by omega), fun q hq => ?_, gSI_eq, fun j hj => ?_, fun i k hi hk => ?_, fun q q1 q2 q3 q4 => ?_, ?_⟩
  · have k2 := e4 q hq
    obtain ⟨p2, hp2⟩ := sB_n hq
    obtain ⟨p2', hp2'⟩ := sB_n hp2
    have k1 := c4 p2' hp2'
    refine ⟨⟨?_, ?_⟩, k1.2.2, by have := k2.2.2; unfold co2 dr1; omega⟩
    · rw [gSI_o (by omega), gSI_o (by omega), oq e3 (by omega), oq d3 (by omega), gSI_eq]; exact k1.1
    · rw [gSI_o (by omega), gSI_eq]; exact k2.1
  · rw [gSI_nj hj, gSI_o (by omega), oq e3 (by omega), oq d3 (by omega), gSI_o (by omega), oq c3 (by omega), oq a3 (by omega)]
  · have s : ∀ (N : gMem) (a' : Nat) (x : Int32), (gSI N a' c x).1 (T + i) k = N.1 (T + i) k := fun N a' x => by
      by_cases e : T + i = a'
      · subst e; exact gSI_nj hk
      · exact gSI_o e
    rw [gSI_o (by omega), s, oq e3 (by omega), oq d3 (by omega), s, oq c3 (by omega), oq a3 (by omega)]
  · rw [gSI_ne q2, gSI_ne q4, oq e3 q1, oq d3 q1, gSI_ne q3, oq c3 q1, oq a3 q1]
  · show E.2 = M.2
    rw [e3.2, d3.2]; show C.2 = M.2
    rw [c3.2, a3.2]
/-! a join -/
def dfS (g : Nat → Nat) (n a q : Nat) : gPs := if tK g n q = 2 ∧ tV g n q = a then .inl (2, tS g n q) else .inr q
def jn2 (g : Nat → Nat) (n np p : Nat) : gPs := sB (sB (dr1 g n p) (rdN g n 0 np)) (dfS g n (pv g n (dr1 g n p)))
def jn3 (g : Nat → Nat) (n np p : Nat) : gPs := sB (sB (jn2 g n np p) (rdN g n 0 np)) (rdW g n 10)
def jn4 (g : Nat → Nat) (n np p : Nat) : gPs := sB (jn3 g n np p) (rdN g n 1 10)
theorem C_df {M : gMem} {g : Nat → Nat} {n a : Nat} {s : gPs} {x : Int32} (h : CSt M g n s) (hx : ∀ q, s = .inr q → x = nI a ∧ a < 1000) : ∃ N, (if (M.1 1 4) = (2 : Int32) then (if (M.1 1 7) = x then fX5_refuse (2 : Int32) M else some M) else some M) = some N ∧ CSt N g n (sB s (dfS g n a)) ∧ Fr 1 2 M N := by
  match s, h with
  | .inr q, h =>
    have h' := h
    obtain ⟨h1, h2, ⟨k5, k6, k4, k7⟩, h4, h5⟩ := h'
    obtain ⟨rfl, ha⟩ := hx q rfl
    have kl := tK_le g n q
    show ∃ N, _ ∧ CSt N g n (dfS g n a q) ∧ _
    unfold dfS
    rw [k4, k7]
    by_cases c1 : tK g n q = 2
    · rw [c1, if_pos (show nI 2 = 2 from rfl)]
      simp only [nI_eq (show min 1000 (tV g n q) < 2 ^ 31 by omega) (show a < 2 ^ 31 by omega)]
      by_cases c2 : tV g n q = a
      · rw [if_pos (show min 1000 (tV g n q) = a by omega), if_pos ⟨trivial, c2⟩]
        exact C_refuse (k := 2) h (by omega)
      · rw [if_neg (show ¬ min 1000 (tV g n q) = a by omega), if_neg (fun h => c2 h.2)]
        exact ⟨M, rfl, h, Fr.rf⟩
    · rw [if_neg (show ¬ nI (tK g n q) = (2 : Int32) from nI_nek kl (show 2 ≤ 4 by omega) c1), if_neg (fun h => c1 h.1)]
      exact ⟨M, rfl, h, Fr.rf⟩
  | .inl e, h =>
    rw [C_refuse_no h]
    refine ⟨M, ?_, h, Fr.rf⟩
    by_cases c : (M.1 1 4) = (2 : Int32)
    · rw [if_pos c]
      by_cases d : M.1 1 7 = x
      · rw [if_pos d]
      · rw [if_neg d]
    · rw [if_neg c]
theorem C_readJoin {M : gMem} {g : Nat → Nat} {n T p c np : Nat} (h : CSt M g n (.inr p)) (hT : M.2.2 1 = T) (hO : gOb 7 T = true) (hc : M.1 T 6 = nI c) (h6 : c < 7) (hn : M.1 T 5 = nI np) (hn6 : np ≤ 6) : ∃ N, fX5_readJoin M = some N ∧ CSt N g n (jn4 g n np p) ∧ (∀ q, jn4 g n np p = .inr q → (N.1 (T + 4) c = nI (pv g n (dr1 g n p)) ∧ N.1 (T + 5) c = nI (pv g n (jn2 g n np p)) ∧ N.1 (T + 6) c = nI (pv g n (jn3 g n np p))) ∧ pv g n (dr1 g n p) < np ∧ pv g n (jn2 g n np p) < np ∧ pv g n (dr1 g n p) ≠ pv g n (jn2 g n np p) ∧ 1 ≤ pv g n (jn3 g n np p) ∧ pv g n (jn3 g n np p) ≤ 9) ∧ N.1 T 6 = nI (c + 1) ∧ (∀ j, j ≠ 6 → N.1 T j = M.1 T j) ∧ (∀ i k, 4 ≤ i → i ≤ 6 → k ≠ c → N.1 (T + i) k = M.1 (T + i) k) ∧ (∀ q, q ≠ 1 → q ≠ T → q < T + 4 ∨ T + 7 ≤ q → N.1 q = M.1 q) ∧ N.2 = M.2 := by
  have ht := gTn_of hO
  have hT4 := gTn_lo ht
  have oq : ∀ {X Y : gMem} {q : Nat}, Fr 1 2 X Y → q ≠ 1 → Y.1 q = X.1 q := fun f hq => f.1 _ (by omega)
  unfold fX5_readJoin fX5_readJoin_0
  rw [hT, if_pos hO, hc, if_pos (show nI c < (7 : Int32) from nI_lt (b := 7) h6 (by omega))]
  obtain ⟨A, a1, a2, a3⟩ := C_advS h
  have eA : A.2.2 1 = T := by rw [a3.2]; exact hT
  have eN : A.1 T 5 = nI np := by rw [oq a3 (by omega)]; exact hn
  obtain ⟨r1, C, c1, c2, c3, c4⟩ := C_num (lo := 0) (hi := np) (x1 := 0) (x2 := nI np - 1) a2 rfl (by omega) (by omega) (np_1 np hn6)
  rw [a1, gB0_some, eA, if_pos hO, if_pos hO, eN, c1, gBp_some, if_pos (ix4 ht h6), nI_clamp (by omega)]
  dsimp only
  have eC : (gSI C (T + 4) c r1).2.2 1 = T := by show C.2.2 1 = T; rw [c3.2]; exact eA
  obtain ⟨B, b1', b2, b3⟩ := C_df (a := pv g n (dr1 g n p)) (x := r1) (c2.o (q := T + 4) (j := c) (x := r1) (by omega)) (fun q hq => by
    have := c4 q hq
    exact ⟨this.1, by unfold dr1; omega⟩)
  have e48 : fX5_readJoin_48 (nI c) (gSI C (T + 4) c r1) = gB0 (if ((gSI C (T + 4) c r1).1 1 4) = (2 : Int32) then (if ((gSI C (T + 4) c r1).1 1 7) = r1 then fX5_refuse (2 : Int32) (gSI C (T + 4) c r1) else some (gSI C (T + 4) c r1)) else some (gSI C (T + 4) c r1)) (fun X => fX5_readJoin_76 (nI c) X) := by
    unfold fX5_readJoin_48
    rw [eC, if_pos hO, if_pos (ix4 ht h6), nI_clamp (by omega), gSI_eq]
    by_cases x1 : (gSI C (T + 4) c r1).1 1 4 = (2 : Int32)
    · rw [if_pos x1, if_pos x1]
      by_cases x2 : (gSI C (T + 4) c r1).1 1 7 = r1
      · rw [if_pos x2, if_pos x2]
      · rw [if_neg x2, if_neg x2]; rfl
    · rw [if_neg x1, if_neg x1]; rfl
  rw [e48, b1', gB0_some]
  unfold fX5_readJoin_76 fX5_readJoin_102 fX5_readJoin_122
  have eB : B.2.2 1 = T := by rw [b3.2]; exact eC
  have eNB : B.1 T 5 = nI np := by rw [oq b3 (by omega), gSI_o (by omega), oq c3 (by omega)]; exact eN
  obtain ⟨r2, E, e1, e2, e3, e4⟩ := C_num (lo := 0) (hi := np) (x1 := 0) (x2 := nI np - 1) b2 rfl (by omega) (by omega) (np_1 np hn6)
  rw [eB, if_pos hO, if_pos hO, eNB, e1, gBp_some, if_pos (ix5 ht h6), nI_clamp (by omega)]
  dsimp only
  obtain ⟨F, f1, f2, f3⟩ := C_wrd (w := 10) (e2.o (q := T + 5) (j := c) (x := r2) (by omega)) rfl (by omega)
  have eF : F.2.2 1 = T := by rw [f3.2]; show E.2.2 1 = T; rw [e3.2]; exact eB
  obtain ⟨r3, G, g1, g2, g3, g4⟩ := C_num (lo := 1) (hi := 10) (x1 := 1) (x2 := 9) f2 rfl (by omega) (by omega) rfl
  have eG : (gSI G (T + 6) c r3).2.2 1 = T := by show G.2.2 1 = T; rw [g3.2]; exact eF
  rw [f1, gB0_some, eF, if_pos hO, g1, gBp_some, if_pos (ix6 ht h6)]
  dsimp only
  have v5 : (gSI G (T + 6) c r3).1 T 6 = nI c := by
    rw [gSI_o (by omega), oq g3 (by omega), oq f3 (by omega), gSI_o (by omega), oq e3 (by omega), oq b3 (by omega), gSI_o (by omega), oq c3 (by omega), oq a3 (by omega)]; exact hc
  rw [eG, if_pos hO, v5, nI_1]
  refine ⟨_, rfl, (g2.o (by omega)).o (by omega), fun q hq => ?_, gSI_eq, fun j hj => ?_, fun i k i1 i2 hk => ?_, fun q q1 q2 q3 => ?_, ?_⟩
  · have k3 := g4 q hq
    obtain ⟨p3, hp3⟩ := sB_n hq
    obtain ⟨p3', hp3'⟩ := sB_n hp3
    have k2 := e4 p3' hp3'
    obtain ⟨p2, hp2⟩ := sB_n hp3'
    obtain ⟨p1, hp1, hp1'⟩ := sB_inr hp2
    have k1 := c4 p1 hp1
    obtain ⟨p0, hp0, hok⟩ := sB_inr hp3'
    have hne : pv g n (dr1 g n p) ≠ pv g n (jn2 g n np p) := by
      have ej : jn2 g n np p = .inr p0 := hp0
      rw [ej]
      have e1' : sB (sB (dr1 g n p) (rdN g n 0 np)) (dfS g n (pv g n (dr1 g n p))) = .inr p0 := hp0
      obtain ⟨p9, hp9, hd9⟩ := sB_inr e1'
      unfold dfS at hd9
      split at hd9
      · cases hd9
      · next hno =>
        have e9 : p9 = p0 := by cases hd9; rfl
        subst e9
        obtain ⟨x1, -, -, -⟩ := rdN_ok hok
        unfold okN at x1
        simp only [Bool.and_eq_true, decide_eq_true_eq] at x1
        intro heq
        exact hno ⟨x1.1, heq.symm⟩
    refine ⟨⟨?_, ?_, ?_⟩, k1.2.2, k2.2.2, hne, k3.2.1, by have := k3.2.2; unfold jn3 jn2 dr1; unfold dr1 at this; omega⟩
    · rw [gSI_o (by omega), gSI_o (by omega), oq g3 (by omega), oq f3 (by omega), gSI_o (by omega), oq e3 (by omega), oq b3 (by omega), gSI_eq]; exact k1.1
    · rw [gSI_o (by omega), gSI_o (by omega), oq g3 (by omega), oq f3 (by omega), gSI_eq]; exact k2.1
    · rw [gSI_o (by omega), gSI_eq]; exact k3.1
  · rw [gSI_nj hj, gSI_o (by omega), oq g3 (by omega), oq f3 (by omega), gSI_o (by omega), oq e3 (by omega), oq b3 (by omega), gSI_o (by omega), oq c3 (by omega), oq a3 (by omega)]
  · have s : ∀ (N : gMem) (a' : Nat) (x : Int32), (gSI N a' c x).1 (T + i) k = N.1 (T + i) k := fun N a' x => by
      by_cases e : T + i = a'
      · subst e; exact gSI_nj hk
      · exact gSI_o e
    rw [gSI_o (by omega), s, oq g3 (by omega), oq f3 (by omega), s, oq e3 (by omega), oq b3 (by omega), s, oq c3 (by omega), oq a3 (by omega)]
  · rw [gSI_ne (by omega), gSI_ne (by omega), oq g3 q1, oq f3 q1, gSI_ne (by omega), oq e3 q1, oq b3 q1, gSI_ne (by omega), oq c3 q1, oq a3 q1]
  · show G.2 = M.2
    rw [g3.2, f3.2]; show E.2 = M.2
    rw [e3.2, b3.2]; show C.2 = M.2
    rw [c3.2, a3.2]
