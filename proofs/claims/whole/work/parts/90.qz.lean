/-! Images: a city copied. -/
def lenT (i : Nat) : Nat := if i ≤ 3 then 6 else if i ≤ 6 then 7 else if i ≤ 9 then 5 else 31
theorem gMn_s (x : Int32) : gMn x x = x := by
  unfold gMn
  by_cases c : x < x
  · rw [if_pos c]
  · rw [if_neg c]
theorem gCI_eq {M : gMem} {o : Nat} {f : Nat → Int32} : (gCI M o f).1 o = f := if_pos rfl
theorem gCI_ne {M : gMem} {o q : Nat} {f : Nat → Int32} (h : q ≠ o) : (gCI M o f).1 q = M.1 q := if_neg h
theorem gAr1 {a n : Nat} (hs : gSh a = (1, n)) (ha : a < gN) : gAr 1 a = true := gAr_c (by
  unfold gAr0
  rw [hs, Bool.and_eq_true]
  exact ⟨rfl, (Nat.blt_eq).mpr ha⟩)
theorem C_copy {M : gMem} {a b n : Nat} (sa : gSh a = (1, n)) (ga : a < gN) (sb : gSh b = (1, n)) (gb : b < gN) (hn : n ≤ 800) : ∃ N, fX7_copy a b M = some N ∧ (∀ k, k < n → N.1 b k = M.1 a k) ∧ (∀ q, q ≠ b → N.1 q = M.1 q) ∧ N.2 = M.2 := by
  unfold fX7_copy fX7_copy_0
  rw [if_pos (gAl_of sa ga), if_pos (gAl_of sb gb), sa, sb, gMn_s, nI_int _ (show n < 2 ^ 31 by omega), nI_clamp (show n < 2 ^ 31 by omega)]
  have z0 : (0 : Int32).toInt = 0 := rfl
  have zc : Int32.toNatClampNeg (0 : Int32) = 0 := rfl
  rw [if_pos ⟨gAr1 sa ga, gAr1 sb gb, by omega, by rw [z0]; omega, by rw [z0]; omega, by rw [z0]; show (0 : Int) + n ≤ (n : Int); omega, by rw [z0]; show (0 : Int) + n ≤ (n : Int); omega⟩, zc]
  refine ⟨_, rfl, fun k hk => ?_, fun q hq => gCI_ne hq, rfl⟩
  rw [gCI_eq, pk_cpy_in (Nat.zero_le k) (by omega), Nat.zero_add, Nat.sub_zero]
theorem sh_T {t i : Nat} (h : gTn t) (hi : 1 ≤ i) (hi2 : i < 15) (h10 : i ≠ 10) : gSh (t + i) = (1, lenT i) ∧ t + i < gN := by
  have e : gShT i = (1, lenT i) := by
    have key : ∀ i, i < 15 → 1 ≤ i → i ≠ 10 → gShT i = (1, lenT i) := by decide +kernel
    exact key i hi2 hi h10
  obtain ⟨h1, h2⟩ := gTn_at h i hi2
  exact ⟨by rw [h1, e], h2⟩
theorem lenT_le (i : Nat) : lenT i ≤ 31 := by
  unfold lenT
  split
  · omega
  · split
    · omega
    · split <;> omega
/-- what two towns have in common, when one is copied -/
def TE (M : gMem) (t : Nat) (N : gMem) (s : Nat) : Prop := (∀ j, j < 9 → N.1 s j = M.1 t j) ∧ N.1 (s + 10) 4 = M.1 (t + 10) 4 ∧ ∀ i, 1 ≤ i → i < 15 → i ≠ 10 → ∀ k, k < lenT i → N.1 (s + i) k = M.1 (t + i) k
theorem RT_TE {M N : gMem} {t s : Nat} {w : gCt} (hv : gWF w) (h30 : w 0 8 ≤ 31) (h : TE M t N s) (r : RT M t w) : RT N s w := by
  have hv0 := hv.1
  obtain ⟨e0, e1, e2⟩ := h
  obtain ⟨⟨a0, a1, a2, a3, a4, a5, a6, a7, a8, a9⟩, r1, r2, r3, r4, r5⟩ := r
  have f : ∀ i, 1 ≤ i → i < 15 → i ≠ 10 → ∀ k, k < lenT i → N.1 (s + i) k = M.1 (t + i) k := e2
  refine ⟨⟨(e0 0 (by omega)).trans a0, (e0 1 (by omega)).trans a1, (e0 2 (by omega)).trans a2, (e0 3 (by omega)).trans a3, (e0 4 (by omega)).trans a4, (e0 5 (by omega)).trans a5, (e0 6 (by omega)).trans a6, (e0 7 (by omega)).trans a7, (e0 8 (by omega)).trans a8, e1.trans a9⟩, fun p hp => ?_, fun p hp => ?_, fun p hp => ?_, fun p hp => ?_, fun p hp => ?_⟩
  · obtain ⟨x, y, z⟩ := r1 p hp
    exact ⟨(f 1 (by omega) (by omega) (by omega) p (show p < 6 by omega)).trans x, (f 2 (by omega) (by omega) (by omega) p (show p < 6 by omega)).trans y, (f 3 (by omega) (by omega) (by omega) p (show p < 6 by omega)).trans z⟩
  · obtain ⟨x, y, z⟩ := r2 p hp
    exact ⟨(f 4 (by omega) (by omega) (by omega) p (show p < 7 by omega)).trans x, (f 5 (by omega) (by omega) (by omega) p (show p < 7 by omega)).trans y, (f 6 (by omega) (by omega) (by omega) p (show p < 7 by omega)).trans z⟩
  · exact (f 7 (by omega) (by omega) (by omega) p (show p < 5 by omega)).trans (r3 p hp)
  · obtain ⟨x, y⟩ := r4 p hp
    exact ⟨(f 8 (by omega) (by omega) (by omega) p (show p < 5 by omega)).trans x, (f 9 (by omega) (by omega) (by omega) p (show p < 5 by omega)).trans y⟩
  · obtain ⟨x, y, z, u⟩ := r5 p hp
    exact ⟨(f 11 (by omega) (by omega) (by omega) p (show p < 31 by omega)).trans x, (f 12 (by omega) (by omega) (by omega) p (show p < 31 by omega)).trans y, (f 13 (by omega) (by omega) (by omega) p (show p < 31 by omega)).trans z, (f 14 (by omega) (by omega) (by omega) p (show p < 31 by omega)).trans u⟩
theorem C_copyFrom {M : gMem} {A B : Nat} (hA : gTn A) (hB : gTn B) (hAB : A ≠ B) : ∃ N, fX7_copyFrom A B M = some N ∧ TE M B N A ∧ (∀ q, q < A ∨ A + 15 ≤ q → N.1 q = M.1 q) ∧ N.2 = M.2 := by
  have far : B + 15 ≤ A ∨ A + 15 ≤ B := by
    obtain ⟨a, ha, rfl⟩ := hA
    obtain ⟨b, hb, rfl⟩ := hB
    omega
  have hBA : B ≠ A := fun h => hAB h.symm
  unfold fX7_copyFrom fX7_copyFrom_0 fX7_copyFrom_10 fX7_copyFrom_18 fX7_copyFrom_26 fX7_copyFrom_34 fX7_copyFrom_42 fX7_copyFrom_50 fX7_copyFrom_58 fX7_copyFrom_66 fX7_copyFrom_80
  simp only [gSI_ne hBA]
  obtain ⟨N0, hN0⟩ : ∃ N0, N0 = gSI (gSI (gSI (gSI (gSI (gSI (gSI (gSI (gSI M A 0 (M.1 B 0)) A 1 (M.1 B 1)) A 2 (M.1 B 2)) A 3 (M.1 B 3)) A 4 (M.1 B 4)) A 5 (M.1 B 5)) A 6 (M.1 B 6)) A 7 (M.1 B 7)) A 8 (M.1 B 8) := ⟨_, rfl⟩
  rw [← hN0]
  have c0 : ∀ q, q ≠ A → N0.1 q = M.1 q := fun q hq => by rw [hN0]; rw [gSI_ne hq, gSI_ne hq, gSI_ne hq, gSI_ne hq, gSI_ne hq, gSI_ne hq, gSI_ne hq, gSI_ne hq, gSI_ne hq]
  have v0 : N0.1 A 0 = M.1 B 0 := by rw [hN0]; rw [gSI_nj (by omega), gSI_nj (by omega), gSI_nj (by omega), gSI_nj (by omega), gSI_nj (by omega), gSI_nj (by omega), gSI_nj (by omega), gSI_nj (by omega), gSI_eq]
  have v1 : N0.1 A 1 = M.1 B 1 := by rw [hN0]; rw [gSI_nj (by omega), gSI_nj (by omega), gSI_nj (by omega), gSI_nj (by omega), gSI_nj (by omega), gSI_nj (by omega), gSI_nj (by omega), gSI_eq]
  have v2 : N0.1 A 2 = M.1 B 2 := by rw [hN0]; rw [gSI_nj (by omega), gSI_nj (by omega), gSI_nj (by omega), gSI_nj (by omega), gSI_nj (by omega), gSI_nj (by omega), gSI_eq]
  have v3 : N0.1 A 3 = M.1 B 3 := by rw [hN0]; rw [gSI_nj (by omega), gSI_nj (by omega), gSI_nj (by omega), gSI_nj (by omega), gSI_nj (by omega), gSI_eq]
  have v4 : N0.1 A 4 = M.1 B 4 := by rw [hN0]; rw [gSI_nj (by omega), gSI_nj (by omega), gSI_nj (by omega), gSI_nj (by omega), gSI_eq]
  have v5 : N0.1 A 5 = M.1 B 5 := by rw [hN0]; rw [gSI_nj (by omega), gSI_nj (by omega), gSI_nj (by omega), gSI_eq]
  have v6 : N0.1 A 6 = M.1 B 6 := by rw [hN0]; rw [gSI_nj (by omega), gSI_nj (by omega), gSI_eq]
  have v7 : N0.1 A 7 = M.1 B 7 := by rw [hN0]; rw [gSI_nj (by omega), gSI_eq]
  have v8 : N0.1 A 8 = M.1 B 8 := by rw [hN0]; rw [gSI_eq]
  have d0 : N0.2 = M.2 := by rw [hN0]; rfl
  obtain ⟨N1, a1, b1, c1, d1⟩ := C_copy (M := N0) (sh_T hB (i := 1) (by omega) (by omega) (by omega)).1 (sh_T hB (i := 1) (by omega) (by omega) (by omega)).2 (sh_T hA (i := 1) (by omega) (by omega) (by omega)).1 (sh_T hA (i := 1) (by omega) (by omega) (by omega)).2 (show lenT 1 ≤ 800 by decide)
  rw [a1, gB0_some]
  obtain ⟨N2, a2, b2, c2, d2⟩ := C_copy (M := N1) (sh_T hB (i := 2) (by omega) (by omega) (by omega)).1 (sh_T hB (i := 2) (by omega) (by omega) (by omega)).2 (sh_T hA (i := 2) (by omega) (by omega) (by omega)).1 (sh_T hA (i := 2) (by omega) (by omega) (by omega)).2 (show lenT 2 ≤ 800 by decide)
  rw [a2, gB0_some]
  obtain ⟨N3, a3, b3, c3, d3⟩ := C_copy (M := N2) (sh_T hB (i := 3) (by omega) (by omega) (by omega)).1 (sh_T hB (i := 3) (by omega) (by omega) (by omega)).2 (sh_T hA (i := 3) (by omega) (by omega) (by omega)).1 (sh_T hA (i := 3) (by omega) (by omega) (by omega)).2 (show lenT 3 ≤ 800 by decide)
  rw [a3, gB0_some]
  obtain ⟨N4, a4, b4, c4, d4⟩ := C_copy (M := N3) (sh_T hB (i := 4) (by omega) (by omega) (by omega)).1 (sh_T hB (i := 4) (by omega) (by omega) (by omega)).2 (sh_T hA (i := 4) (by omega) (by omega) (by omega)).1 (sh_T hA (i := 4) (by omega) (by omega) (by omega)).2 (show lenT 4 ≤ 800 by decide)
  rw [a4, gB0_some]
  obtain ⟨N5, a5, b5, c5, d5⟩ := C_copy (M := N4) (sh_T hB (i := 5) (by omega) (by omega) (by omega)).1 (sh_T hB (i := 5) (by omega) (by omega) (by omega)).2 (sh_T hA (i := 5) (by omega) (by omega) (by omega)).1 (sh_T hA (i := 5) (by omega) (by omega) (by omega)).2 (show lenT 5 ≤ 800 by decide)
  rw [a5, gB0_some]
  obtain ⟨N6, a6, b6, c6, d6⟩ := C_copy (M := N5) (sh_T hB (i := 6) (by omega) (by omega) (by omega)).1 (sh_T hB (i := 6) (by omega) (by omega) (by omega)).2 (sh_T hA (i := 6) (by omega) (by omega) (by omega)).1 (sh_T hA (i := 6) (by omega) (by omega) (by omega)).2 (show lenT 6 ≤ 800 by decide)
  rw [a6, gB0_some]
  obtain ⟨N7, a7, b7, c7, d7⟩ := C_copy (M := N6) (sh_T hB (i := 7) (by omega) (by omega) (by omega)).1 (sh_T hB (i := 7) (by omega) (by omega) (by omega)).2 (sh_T hA (i := 7) (by omega) (by omega) (by omega)).1 (sh_T hA (i := 7) (by omega) (by omega) (by omega)).2 (show lenT 7 ≤ 800 by decide)
  rw [a7, gB0_some]
  obtain ⟨N8, a8, b8, c8, d8⟩ := C_copy (M := N7) (sh_T hB (i := 8) (by omega) (by omega) (by omega)).1 (sh_T hB (i := 8) (by omega) (by omega) (by omega)).2 (sh_T hA (i := 8) (by omega) (by omega) (by omega)).1 (sh_T hA (i := 8) (by omega) (by omega) (by omega)).2 (show lenT 8 ≤ 800 by decide)
  rw [a8, gB0_some]
  obtain ⟨N9, a9, b9, c9, d9⟩ := C_copy (M := N8) (sh_T hB (i := 9) (by omega) (by omega) (by omega)).1 (sh_T hB (i := 9) (by omega) (by omega) (by omega)).2 (sh_T hA (i := 9) (by omega) (by omega) (by omega)).1 (sh_T hA (i := 9) (by omega) (by omega) (by omega)).2 (show lenT 9 ≤ 800 by decide)
  rw [a9, gB0_some]
  unfold fX0_copyFrom fX0_copyFrom_0 fX0_copyFrom_16
  obtain ⟨N10, hN10⟩ : ∃ N10, N10 = gSI N9 (A + 10) 4 (N9.1 (B + 10) 4) := ⟨_, rfl⟩
  rw [← hN10]
  have c10 : ∀ q, q ≠ A + 10 → N10.1 q = N9.1 q := fun q hq => by rw [hN10]; exact gSI_ne hq
  have v10 : N10.1 (A + 10) 4 = N9.1 (B + 10) 4 := by rw [hN10]; exact gSI_eq
  have d10 : N10.2 = N9.2 := by rw [hN10]; rfl
  obtain ⟨N11, a11, b11, c11, d11⟩ := C_copy (M := N10) (a := B + 10 + 1) (b := A + 10 + 1) (sh_T hB (i := 11) (by omega) (by omega) (by omega)).1 (sh_T hB (i := 11) (by omega) (by omega) (by omega)).2 (sh_T hA (i := 11) (by omega) (by omega) (by omega)).1 (sh_T hA (i := 11) (by omega) (by omega) (by omega)).2 (show lenT 11 ≤ 800 by decide)
  rw [a11, gB0_some]
  obtain ⟨N12, a12, b12, c12, d12⟩ := C_copy (M := N11) (a := B + 10 + 2) (b := A + 10 + 2) (sh_T hB (i := 12) (by omega) (by omega) (by omega)).1 (sh_T hB (i := 12) (by omega) (by omega) (by omega)).2 (sh_T hA (i := 12) (by omega) (by omega) (by omega)).1 (sh_T hA (i := 12) (by omega) (by omega) (by omega)).2 (show lenT 12 ≤ 800 by decide)
  rw [a12, gB0_some]
  obtain ⟨N13, a13, b13, c13, d13⟩ := C_copy (M := N12) (a := B + 10 + 3) (b := A + 10 + 3) (sh_T hB (i := 13) (by omega) (by omega) (by omega)).1 (sh_T hB (i := 13) (by omega) (by omega) (by omega)).2 (sh_T hA (i := 13) (by omega) (by omega) (by omega)).1 (sh_T hA (i := 13) (by omega) (by omega) (by omega)).2 (show lenT 13 ≤ 800 by decide)
  rw [a13, gB0_some]
  obtain ⟨N14, a14, b14, c14, d14⟩ := C_copy (M := N13) (a := B + 10 + 4) (b := A + 10 + 4) (sh_T hB (i := 14) (by omega) (by omega) (by omega)).1 (sh_T hB (i := 14) (by omega) (by omega) (by omega)).2 (sh_T hA (i := 14) (by omega) (by omega) (by omega)).1 (sh_T hA (i := 14) (by omega) (by omega) (by omega)).2 (show lenT 14 ≤ 800 by decide)
  rw [a14, gB0_some]
  rw [gB0_some]
  refine ⟨N14, rfl, ⟨fun j hj => ?_, ?_, fun i h1 h2 h3 k hk => ?_⟩, fun q hq => by rw [c14 q (by omega), c13 q (by omega), c12 q (by omega), c11 q (by omega), c10 q (by omega), c9 q (by omega), c8 q (by omega), c7 q (by omega), c6 q (by omega), c5 q (by omega), c4 q (by omega), c3 q (by omega), c2 q (by omega), c1 q (by omega), c0 q (by omega)], by rw [d14, d13, d12, d11, d10, d9, d8, d7, d6, d5, d4, d3, d2, d1, d0]⟩
  · rw [c14 A (by omega), c13 A (by omega), c12 A (by omega), c11 A (by omega), c10 A (by omega), c9 A (by omega), c8 A (by omega), c7 A (by omega), c6 A (by omega), c5 A (by omega), c4 A (by omega), c3 A (by omega), c2 A (by omega), c1 A (by omega)]
    have : j = 0 ∨ j = 1 ∨ j = 2 ∨ j = 3 ∨ j = 4 ∨ j = 5 ∨ j = 6 ∨ j = 7 ∨ j = 8 := by omega
    rcases this with rfl | rfl | rfl | rfl | rfl | rfl | rfl | rfl | rfl
    · exact v0
    · exact v1
    · exact v2
    · exact v3
    · exact v4
    · exact v5
    · exact v6
    · exact v7
    · exact v8
  · rw [c14 (A + 10) (by omega), c13 (A + 10) (by omega), c12 (A + 10) (by omega), c11 (A + 10) (by omega), v10, c9 (B + 10) (by omega), c8 (B + 10) (by omega), c7 (B + 10) (by omega), c6 (B + 10) (by omega), c5 (B + 10) (by omega), c4 (B + 10) (by omega), c3 (B + 10) (by omega), c2 (B + 10) (by omega), c1 (B + 10) (by omega), c0 (B + 10) (by omega)]
  · have : i = 1 ∨ i = 2 ∨ i = 3 ∨ i = 4 ∨ i = 5 ∨ i = 6 ∨ i = 7 ∨ i = 8 ∨ i = 9 ∨ i = 11 ∨ i = 12 ∨ i = 13 ∨ i = 14 := by omega
    rcases this with rfl | rfl | rfl | rfl | rfl | rfl | rfl | rfl | rfl | rfl | rfl | rfl | rfl
    · rw [c14 (A + 1) (by omega), c13 (A + 1) (by omega), c12 (A + 1) (by omega), c11 (A + 1) (by omega), c10 (A + 1) (by omega), c9 (A + 1) (by omega), c8 (A + 1) (by omega), c7 (A + 1) (by omega), c6 (A + 1) (by omega), c5 (A + 1) (by omega), c4 (A + 1) (by omega), c3 (A + 1) (by omega), c2 (A + 1) (by omega)]; exact (b1 k hk).trans (by show N0.1 (B + 1) k = M.1 (B + 1) k; rw [c0 (B + 1) (by omega)])
    · rw [c14 (A + 2) (by omega), c13 (A + 2) (by omega), c12 (A + 2) (by omega), c11 (A + 2) (by omega), c10 (A + 2) (by omega), c9 (A + 2) (by omega), c8 (A + 2) (by omega), c7 (A + 2) (by omega), c6 (A + 2) (by omega), c5 (A + 2) (by omega), c4 (A + 2) (by omega), c3 (A + 2) (by omega)]; exact (b2 k hk).trans (by show N1.1 (B + 2) k = M.1 (B + 2) k; rw [c1 (B + 2) (by omega), c0 (B + 2) (by omega)])
    · rw [c14 (A + 3) (by omega), c13 (A + 3) (by omega), c12 (A + 3) (by omega), c11 (A + 3) (by omega), c10 (A + 3) (by omega), c9 (A + 3) (by omega), c8 (A + 3) (by omega), c7 (A + 3) (by omega), c6 (A + 3) (by omega), c5 (A + 3) (by omega), c4 (A + 3) (by omega)]; exact (b3 k hk).trans (by show N2.1 (B + 3) k = M.1 (B + 3) k; rw [c2 (B + 3) (by omega), c1 (B + 3) (by omega), c0 (B + 3) (by omega)])
    · rw [c14 (A + 4) (by omega), c13 (A + 4) (by omega), c12 (A + 4) (by omega), c11 (A + 4) (by omega), c10 (A + 4) (by omega), c9 (A + 4) (by omega), c8 (A + 4) (by omega), c7 (A + 4) (by omega), c6 (A + 4) (by omega), c5 (A + 4) (by omega)]; exact (b4 k hk).trans (by show N3.1 (B + 4) k = M.1 (B + 4) k; rw [c3 (B + 4) (by omega), c2 (B + 4) (by omega), c1 (B + 4) (by omega), c0 (B + 4) (by omega)])
    · rw [c14 (A + 5) (by omega), c13 (A + 5) (by omega), c12 (A + 5) (by omega), c11 (A + 5) (by omega), c10 (A + 5) (by omega), c9 (A + 5) (by omega), c8 (A + 5) (by omega), c7 (A + 5) (by omega), c6 (A + 5) (by omega)]; exact (b5 k hk).trans (by show N4.1 (B + 5) k = M.1 (B + 5) k; rw [c4 (B + 5) (by omega), c3 (B + 5) (by omega), c2 (B + 5) (by omega), c1 (B + 5) (by omega), c0 (B + 5) (by omega)])
    · rw [c14 (A + 6) (by omega), c13 (A + 6) (by omega), c12 (A + 6) (by omega), c11 (A + 6) (by omega), c10 (A + 6) (by omega), c9 (A + 6) (by omega), c8 (A + 6) (by omega), c7 (A + 6) (by omega)]; exact (b6 k hk).trans (by show N5.1 (B + 6) k = M.1 (B + 6) k; rw [c5 (B + 6) (by omega), c4 (B + 6) (by omega), c3 (B + 6) (by omega), c2 (B + 6) (by omega), c1 (B + 6) (by omega), c0 (B + 6) (by omega)])
    · rw [c14 (A + 7) (by omega), c13 (A + 7) (by omega), c12 (A + 7) (by omega), c11 (A + 7) (by omega), c10 (A + 7) (by omega), c9 (A + 7) (by omega), c8 (A + 7) (by omega)]; exact (b7 k hk).trans (by show N6.1 (B + 7) k = M.1 (B + 7) k; rw [c6 (B + 7) (by omega), c5 (B + 7) (by omega), c4 (B + 7) (by omega), c3 (B + 7) (by omega), c2 (B + 7) (by omega), c1 (B + 7) (by omega), c0 (B + 7) (by omega)])
    · rw [c14 (A + 8) (by omega), c13 (A + 8) (by omega), c12 (A + 8) (by omega), c11 (A + 8) (by omega), c10 (A + 8) (by omega), c9 (A + 8) (by omega)]; exact (b8 k hk).trans (by show N7.1 (B + 8) k = M.1 (B + 8) k; rw [c7 (B + 8) (by omega), c6 (B + 8) (by omega), c5 (B + 8) (by omega), c4 (B + 8) (by omega), c3 (B + 8) (by omega), c2 (B + 8) (by omega), c1 (B + 8) (by omega), c0 (B + 8) (by omega)])
    · rw [c14 (A + 9) (by omega), c13 (A + 9) (by omega), c12 (A + 9) (by omega), c11 (A + 9) (by omega), c10 (A + 9) (by omega)]; exact (b9 k hk).trans (by show N8.1 (B + 9) k = M.1 (B + 9) k; rw [c8 (B + 9) (by omega), c7 (B + 9) (by omega), c6 (B + 9) (by omega), c5 (B + 9) (by omega), c4 (B + 9) (by omega), c3 (B + 9) (by omega), c2 (B + 9) (by omega), c1 (B + 9) (by omega), c0 (B + 9) (by omega)])
    · rw [c14 (A + 11) (by omega), c13 (A + 11) (by omega), c12 (A + 11) (by omega)]; exact (b11 k hk).trans (by show N10.1 (B + 11) k = M.1 (B + 11) k; rw [c10 (B + 11) (by omega), c9 (B + 11) (by omega), c8 (B + 11) (by omega), c7 (B + 11) (by omega), c6 (B + 11) (by omega), c5 (B + 11) (by omega), c4 (B + 11) (by omega), c3 (B + 11) (by omega), c2 (B + 11) (by omega), c1 (B + 11) (by omega), c0 (B + 11) (by omega)])
    · rw [c14 (A + 12) (by omega), c13 (A + 12) (by omega)]; exact (b12 k hk).trans (by show N11.1 (B + 12) k = M.1 (B + 12) k; rw [c11 (B + 12) (by omega), c10 (B + 12) (by omega), c9 (B + 12) (by omega), c8 (B + 12) (by omega), c7 (B + 12) (by omega), c6 (B + 12) (by omega), c5 (B + 12) (by omega), c4 (B + 12) (by omega), c3 (B + 12) (by omega), c2 (B + 12) (by omega), c1 (B + 12) (by omega), c0 (B + 12) (by omega)])
    · rw [c14 (A + 13) (by omega)]; exact (b13 k hk).trans (by show N12.1 (B + 13) k = M.1 (B + 13) k; rw [c12 (B + 13) (by omega), c11 (B + 13) (by omega), c10 (B + 13) (by omega), c9 (B + 13) (by omega), c8 (B + 13) (by omega), c7 (B + 13) (by omega), c6 (B + 13) (by omega), c5 (B + 13) (by omega), c4 (B + 13) (by omega), c3 (B + 13) (by omega), c2 (B + 13) (by omega), c1 (B + 13) (by omega), c0 (B + 13) (by omega)])
    · exact (b14 k hk).trans (by show N13.1 (B + 14) k = M.1 (B + 14) k; rw [c13 (B + 14) (by omega), c12 (B + 14) (by omega), c11 (B + 14) (by omega), c10 (B + 14) (by omega), c9 (B + 14) (by omega), c8 (B + 14) (by omega), c7 (B + 14) (by omega), c6 (B + 14) (by omega), c5 (B + 14) (by omega), c4 (B + 14) (by omega), c3 (B + 14) (by omega), c2 (B + 14) (by omega), c1 (B + 14) (by omega), c0 (B + 14) (by omega)])
/-! the reference's city copied -/
theorem M_copyRow {M : gMem} {q n m a b : Nat} (sq : gSh q = (1, n)) (gq : q < gN) (hn : n ≤ 600) (hm : m ≤ 120) (ha : m * a + m ≤ n) (hb : m * b + m ≤ n) (hd : m * a + m ≤ m * b ∨ m * b + m ≤ m * a) : ∃ N, fX9_copyRow q (nI m) (nI a) (nI b) M = some N ∧ (∀ k, k < m → N.1 q (m * b + k) = M.1 q (m * a + k)) ∧ (∀ j, j < m * b ∨ m * b + m ≤ j → N.1 q j = M.1 q j) ∧ (∀ p, p ≠ q → N.1 p = M.1 p) ∧ N.2 = M.2 := by
  unfold fX9_copyRow fX9_copyRow_0 fX9_copyRow_3h
  refine gLp_inv (fun i (st : Int32 × gMem) => st.1 = nI i ∧ (∀ k, k < i → st.2.1 q (m * b + k) = M.1 q (m * a + k)) ∧ (∀ j, j < m * b ∨ m * b + i ≤ j → st.2.1 q j = M.1 q j) ∧ (∀ p, p ≠ q → st.2.1 p = M.1 p) ∧ st.2.2 = M.2) m (fun (N : gMem) => (∀ k, k < m → N.1 q (m * b + k) = M.1 q (m * a + k)) ∧ (∀ j, j < m * b ∨ m * b + m ≤ j → N.1 q j = M.1 q j) ∧ (∀ p, p ≠ q → N.1 p = M.1 p) ∧ N.2 = M.2) (by omega) (fun i st hi hI => ?_) (fun st hI => ?_) _ ⟨rfl, fun k hk => absurd hk (Nat.not_lt_zero k), fun _ _ => rfl, fun _ _ => rfl, rfl⟩
  · obtain ⟨i', N⟩ := st
    obtain ⟨g1, g2, g3, g4, g5⟩ := hI
    have g1 : i' = nI i := g1
    subst g1
    have g2 : ∀ k, k < i → N.1 q (m * b + k) = M.1 q (m * a + k) := g2
    have g3 : ∀ j, j < m * b ∨ m * b + i ≤ j → N.1 q j = M.1 q j := g3
    have g4 : ∀ p, p ≠ q → N.1 p = M.1 p := g4
    refine Or.inl ?_
    show ∃ s', fX9_copyRow_3 q (nI m) (nI a) (nI b) (nI i) N = _ ∧ _
    unfold fX9_copyRow_3
    rw [if_neg (nI_ge hi (by omega)), pk_mul, pk_mul, nI_add, nI_add, if_pos (gIx_k sq gq (by omega) (by omega)), if_pos (gIx_k sq gq (by omega) (by omega)), nI_clamp (by omega), nI_clamp (by omega), nI_1, g3 (m * a + i) (by omega)]
    refine ⟨_, rfl, rfl, fun k hk => ?_, fun j hj => (gSI_nj (by omega)).trans (g3 j (by omega)), fun p hp => (gSI_ne hp).trans (g4 p hp), g5⟩
    by_cases e : k = i
    · subst e; exact gSI_eq
    · exact (gSI_nj (by omega)).trans (g2 k (by omega))
  · obtain ⟨i', N⟩ := st
    obtain ⟨g1, g2⟩ := hI
    have g1 : i' = nI m := g1
    subst g1
    show ∃ r, fX9_copyRow_3 q (nI m) (nI a) (nI b) (nI m) N = _ ∧ _
    unfold fX9_copyRow_3
    rw [if_pos (Int32.le_refl _)]
    exact ⟨_, rfl, g2⟩
theorem mul_d {m a b : Nat} (h : a ≠ b) : m * a + m ≤ m * b ∨ m * b + m ≤ m * a := by
  rcases Nat.lt_or_ge a b with h1 | h1
  · exact Or.inl (by rw [← Nat.mul_succ]; exact Nat.mul_le_mul_left m h1)
  · exact Or.inr (by rw [← Nat.mul_succ]; exact Nat.mul_le_mul_left m (show b + 1 ≤ a by omega))
theorem mul_5 {m a : Nat} (h : a < 5) : m * a + m ≤ m * 5 := by rw [← Nat.mul_succ]; exact Nat.mul_le_mul_left m h
theorem M_copyCity {M : gMem} {a b : Nat} (ha : a < 5) (hb : b < 5) (hab : a ≠ b) : ∃ N, fX9_copyCity (nI a) (nI b) M = some N ∧ (∀ q, 147 ≤ q → q < 154 → ∀ k, k < mkO q → N.1 q (mkO q * b + k) = M.1 q (mkO q * a + k)) ∧ (∀ q, 147 ≤ q → q < 154 → ∀ j, j < mkO q * b ∨ mkO q * b + mkO q ≤ j → N.1 q j = M.1 q j) ∧ (∀ q, q < 147 ∨ 154 ≤ q → N.1 q = M.1 q) ∧ N.2 = M.2 := by
  unfold fX9_copyCity fX9_copyCity_0
  obtain ⟨N1, a1, b1, c1, e1, d1⟩ := M_copyRow (M := M) (q := 147) (n := 5) (m := 1) (a := a) (b := b) rfl (by decide) (by omega) (by omega) (mul_5 ha) (mul_5 hb) (mul_d hab)
  rw [show (1 : Int32) = nI 1 from rfl, a1, gB0_some]
  obtain ⟨N2, a2, b2, c2, e2, d2⟩ := M_copyRow (M := N1) (q := 148) (n := 45) (m := 9) (a := a) (b := b) rfl (by decide) (by omega) (by omega) (mul_5 ha) (mul_5 hb) (mul_d hab)
  rw [show (9 : Int32) = nI 9 from rfl, a2, gB0_some]
  obtain ⟨N3, a3, b3, c3, e3, d3⟩ := M_copyRow (M := N2) (q := 149) (n := 90) (m := 18) (a := a) (b := b) rfl (by decide) (by omega) (by omega) (mul_5 ha) (mul_5 hb) (mul_d hab)
  rw [show (18 : Int32) = nI 18 from rfl, a3, gB0_some]
  obtain ⟨N4, a4, b4, c4, e4, d4⟩ := M_copyRow (M := N3) (q := 150) (n := 105) (m := 21) (a := a) (b := b) rfl (by decide) (by omega) (by omega) (mul_5 ha) (mul_5 hb) (mul_d hab)
  rw [show (21 : Int32) = nI 21 from rfl, a4, gB0_some]
  obtain ⟨N5, a5, b5, c5, e5, d5⟩ := M_copyRow (M := N4) (q := 151) (n := 25) (m := 5) (a := a) (b := b) rfl (by decide) (by omega) (by omega) (mul_5 ha) (mul_5 hb) (mul_d hab)
  rw [show (5 : Int32) = nI 5 from rfl, a5, gB0_some]
  obtain ⟨N6, a6, b6, c6, e6, d6⟩ := M_copyRow (M := N5) (q := 152) (n := 50) (m := 10) (a := a) (b := b) rfl (by decide) (by omega) (by omega) (mul_5 ha) (mul_5 hb) (mul_d hab)
  rw [show (10 : Int32) = nI 10 from rfl, a6, gB0_some]
  obtain ⟨N7, a7, b7, c7, e7, d7⟩ := M_copyRow (M := N6) (q := 153) (n := 600) (m := 120) (a := a) (b := b) rfl (by decide) (by omega) (by omega) (mul_5 ha) (mul_5 hb) (mul_d hab)
  rw [show (120 : Int32) = nI 120 from rfl, a7, gB0_some]
  refine ⟨N7, rfl, fun q h1 h2 => ?_, fun q h1 h2 => ?_, fun q hq => ?_, by rw [d7, d6, d5, d4, d3, d2, d1]⟩
  · have : q = 147 ∨ q = 148 ∨ q = 149 ∨ q = 150 ∨ q = 151 ∨ q = 152 ∨ q = 153 := by omega
    rcases this with rfl | rfl | rfl | rfl | rfl | rfl | rfl
    · have this := b1
      rw [e7 147 (by omega), e6 147 (by omega), e5 147 (by omega), e4 147 (by omega), e3 147 (by omega), e2 147 (by omega)]
      exact this
    · have this := b2
      rw [e1 148 (by omega)] at this
      rw [e7 148 (by omega), e6 148 (by omega), e5 148 (by omega), e4 148 (by omega), e3 148 (by omega)]
      exact this
    · have this := b3
      rw [e2 149 (by omega), e1 149 (by omega)] at this
      rw [e7 149 (by omega), e6 149 (by omega), e5 149 (by omega), e4 149 (by omega)]
      exact this
    · have this := b4
      rw [e3 150 (by omega), e2 150 (by omega), e1 150 (by omega)] at this
      rw [e7 150 (by omega), e6 150 (by omega), e5 150 (by omega)]
      exact this
    · have this := b5
      rw [e4 151 (by omega), e3 151 (by omega), e2 151 (by omega), e1 151 (by omega)] at this
      rw [e7 151 (by omega), e6 151 (by omega)]
      exact this
    · have this := b6
      rw [e5 152 (by omega), e4 152 (by omega), e3 152 (by omega), e2 152 (by omega), e1 152 (by omega)] at this
      rw [e7 152 (by omega)]
      exact this
    · have this := b7
      rw [e6 153 (by omega), e5 153 (by omega), e4 153 (by omega), e3 153 (by omega), e2 153 (by omega), e1 153 (by omega)] at this
      exact this
  · have : q = 147 ∨ q = 148 ∨ q = 149 ∨ q = 150 ∨ q = 151 ∨ q = 152 ∨ q = 153 := by omega
    rcases this with rfl | rfl | rfl | rfl | rfl | rfl | rfl
    · have this := c1
      rw [e7 147 (by omega), e6 147 (by omega), e5 147 (by omega), e4 147 (by omega), e3 147 (by omega), e2 147 (by omega)]
      exact this
    · have this := c2
      rw [e1 148 (by omega)] at this
      rw [e7 148 (by omega), e6 148 (by omega), e5 148 (by omega), e4 148 (by omega), e3 148 (by omega)]
      exact this
    · have this := c3
      rw [e2 149 (by omega), e1 149 (by omega)] at this
      rw [e7 149 (by omega), e6 149 (by omega), e5 149 (by omega), e4 149 (by omega)]
      exact this
    · have this := c4
      rw [e3 150 (by omega), e2 150 (by omega), e1 150 (by omega)] at this
      rw [e7 150 (by omega), e6 150 (by omega), e5 150 (by omega)]
      exact this
    · have this := c5
      rw [e4 151 (by omega), e3 151 (by omega), e2 151 (by omega), e1 151 (by omega)] at this
      rw [e7 151 (by omega), e6 151 (by omega)]
      exact this
    · have this := c6
      rw [e5 152 (by omega), e4 152 (by omega), e3 152 (by omega), e2 152 (by omega), e1 152 (by omega)] at this
      rw [e7 152 (by omega)]
      exact this
    · have this := c7
      rw [e6 153 (by omega), e5 153 (by omega), e4 153 (by omega), e3 153 (by omega), e2 153 (by omega), e1 153 (by omega)] at this
      exact this
  · rw [e7 q (by omega), e6 q (by omega), e5 q (by omega), e4 q (by omega), e3 q (by omega), e2 q (by omega), e1 q (by omega)]
