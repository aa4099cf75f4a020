/-! The text: the reference's city as its lines make it. -/
theorem vP_0 {v : gCt} {a b d k : Nat} (h : k ≠ 4) : vP v a b d 0 k = v 0 k := by
  unfold vP
  rw [u2_k (by omega), u2_k (by omega), u2_k (by omega), u2_k (by omega)]
theorem vJ_0 {v : gCt} {a b d k : Nat} (h : k ≠ 5) : vJ v a b d 0 k = v 0 k := by
  unfold vJ
  rw [u2_k (by omega), u2_k (by omega), u2_k (by omega), u2_k (by omega)]
theorem vD_0 {v : gCt} {a k : Nat} (h : k ≠ 6) : vD v a 0 k = v 0 k := by
  unfold vD
  rw [u2_k (by omega), u2_k (by omega)]
theorem vC_0 {v : gCt} {a b k : Nat} (h : k ≠ 7) : vC v a b 0 k = v 0 k := by
  unfold vC
  rw [u2_k (by omega), u2_k (by omega), u2_k (by omega)]
theorem vH_0 {v : gCt} {a b c d k : Nat} (h : 4 ≤ k) : vH v a b c d 0 k = v 0 k := by
  unfold vH
  rw [u2_k (by omega), u2_k (by omega), u2_k (by omega), u2_k (by omega)]
theorem vL_0 {v : gCt} {k : Nat} (h : k ≠ 9) : vL v 0 k = v 0 k := by
  unfold vL
  rw [u2_k (by omega)]
theorem RA_H {M N : gMem} {v : gCt} {a b c d : Nat} (h : RA M v) (e1 : N.1 148 0 = nI a ∧ N.1 148 1 = nI b ∧ N.1 148 2 = nI c ∧ N.1 148 3 = nI d) (e2 : ∀ j, 4 ≤ j → j < 9 → N.1 148 j = M.1 148 j) (e3 : ∀ q, 147 ≤ q → q < 153 → q ≠ 148 → N.1 q = M.1 q) : RA N (vH v a b c d) := by
  obtain ⟨⟨a1, a2⟩, r1, r2, r3, r4⟩ := h
  unfold RA
  rw [e3 147 (by omega) (by omega) (by omega), e3 149 (by omega) (by omega) (by omega), e3 150 (by omega) (by omega) (by omega), e3 151 (by omega) (by omega) (by omega), e3 152 (by omega) (by omega) (by omega)]
  refine ⟨⟨a1, fun k hk => ?_⟩, r1, r2, r3, r4⟩
  by_cases c4 : 4 ≤ k
  · rw [vH_0 c4, e2 k c4 (by omega)]; exact a2 k hk
  · have : k = 0 ∨ k = 1 ∨ k = 2 ∨ k = 3 := by omega
    rcases this with rfl | rfl | rfl | rfl
    · exact e1.1
    · exact e1.2.1
    · exact e1.2.2.1
    · exact e1.2.2.2
theorem RA_P {M N : gMem} {v : gCt} {a b d : Nat} (h : RA M v) (e1 : N.1 149 (3 * v 0 4) = nI a ∧ N.1 149 (3 * v 0 4 + 1) = nI b ∧ N.1 149 (3 * v 0 4 + 2) = nI d) (e0 : N.1 148 4 = nI (v 0 4 + 1)) (e2 : ∀ j, j ≠ 4 → j < 9 → N.1 148 j = M.1 148 j) (e4 : ∀ j, j < 3 * v 0 4 → N.1 149 j = M.1 149 j) (e3 : ∀ q, 147 ≤ q → q < 153 → q ≠ 148 → q ≠ 149 → N.1 q = M.1 q) : RA N (vP v a b d) := by
  obtain ⟨⟨a1, a2⟩, r1, r2, r3, r4⟩ := h
  unfold RA
  rw [e3 147 (by omega) (by omega) (by omega) (by omega), e3 150 (by omega) (by omega) (by omega) (by omega), e3 151 (by omega) (by omega) (by omega) (by omega), e3 152 (by omega) (by omega) (by omega) (by omega)]
  refine ⟨⟨a1, fun k hk => ?_⟩, fun i hi => ?_, fun i hi => ?_, fun i hi => ?_, fun i hi => ?_⟩
  · by_cases c : k = 4
    · subst c; exact e0
    · rw [vP_0 c, e2 k c (by omega)]; exact a2 k hk
  · have hi : i < v 0 4 + 1 := hi
    by_cases c : i = v 0 4
    · subst c; rw [vP_1.1, vP_1.2.1, vP_1.2.2]; exact e1
    · rw [vP_n (k := 1) (by omega) (Or.inr c), vP_n (k := 2) (by omega) (Or.inr c), vP_n (k := 3) (by omega) (Or.inr c), e4 _ (by omega), e4 _ (by omega), e4 _ (by omega)]; exact r1 i (by omega)
  · rw [vP_n (k := 4) (by omega) (Or.inl (by omega)), vP_n (k := 5) (by omega) (Or.inl (by omega)), vP_n (k := 6) (by omega) (Or.inl (by omega))]; exact r2 i hi
  · rw [vP_n (k := 7) (by omega) (Or.inl (by omega))]; exact r3 i hi
  · rw [vP_n (k := 8) (by omega) (Or.inl (by omega)), vP_n (k := 9) (by omega) (Or.inl (by omega))]; exact r4 i hi
theorem RA_J {M N : gMem} {v : gCt} {a b d : Nat} (h : RA M v) (e1 : N.1 150 (3 * v 0 5) = nI a ∧ N.1 150 (3 * v 0 5 + 1) = nI b ∧ N.1 150 (3 * v 0 5 + 2) = nI d) (e0 : N.1 148 5 = nI (v 0 5 + 1)) (e2 : ∀ j, j ≠ 5 → j < 9 → N.1 148 j = M.1 148 j) (e4 : ∀ j, j < 3 * v 0 5 → N.1 150 j = M.1 150 j) (e3 : ∀ q, 147 ≤ q → q < 153 → q ≠ 148 → q ≠ 150 → N.1 q = M.1 q) : RA N (vJ v a b d) := by
  obtain ⟨⟨a1, a2⟩, r1, r2, r3, r4⟩ := h
  unfold RA
  rw [e3 147 (by omega) (by omega) (by omega) (by omega), e3 149 (by omega) (by omega) (by omega) (by omega), e3 151 (by omega) (by omega) (by omega) (by omega), e3 152 (by omega) (by omega) (by omega) (by omega)]
  refine ⟨⟨a1, fun k hk => ?_⟩, fun i hi => ?_, fun i hi => ?_, fun i hi => ?_, fun i hi => ?_⟩
  · by_cases c : k = 5
    · subst c; exact e0
    · rw [vJ_0 c, e2 k c (by omega)]; exact a2 k hk
  · rw [vJ_n (k := 1) (by omega) (Or.inl (by omega)), vJ_n (k := 2) (by omega) (Or.inl (by omega)), vJ_n (k := 3) (by omega) (Or.inl (by omega))]; exact r1 i hi
  · have hi : i < v 0 5 + 1 := hi
    by_cases c : i = v 0 5
    · subst c; rw [vJ_1.1, vJ_1.2.1, vJ_1.2.2]; exact e1
    · rw [vJ_n (k := 4) (by omega) (Or.inr c), vJ_n (k := 5) (by omega) (Or.inr c), vJ_n (k := 6) (by omega) (Or.inr c), e4 _ (by omega), e4 _ (by omega), e4 _ (by omega)]; exact r2 i (by omega)
  · rw [vJ_n (k := 7) (by omega) (Or.inl (by omega))]; exact r3 i hi
  · rw [vJ_n (k := 8) (by omega) (Or.inl (by omega)), vJ_n (k := 9) (by omega) (Or.inl (by omega))]; exact r4 i hi
theorem RA_D {M N : gMem} {v : gCt} {a : Nat} (h : RA M v) (e1 : N.1 151 (v 0 6) = nI a) (e0 : N.1 148 6 = nI (v 0 6 + 1)) (e2 : ∀ j, j ≠ 6 → j < 9 → N.1 148 j = M.1 148 j) (e4 : ∀ j, j < v 0 6 → N.1 151 j = M.1 151 j) (e3 : ∀ q, 147 ≤ q → q < 153 → q ≠ 148 → q ≠ 151 → N.1 q = M.1 q) : RA N (vD v a) := by
  obtain ⟨⟨a1, a2⟩, r1, r2, r3, r4⟩ := h
  unfold RA
  rw [e3 147 (by omega) (by omega) (by omega) (by omega), e3 149 (by omega) (by omega) (by omega) (by omega), e3 150 (by omega) (by omega) (by omega) (by omega), e3 152 (by omega) (by omega) (by omega) (by omega)]
  refine ⟨⟨a1, fun k hk => ?_⟩, fun i hi => ?_, fun i hi => ?_, fun i hi => ?_, fun i hi => ?_⟩
  · by_cases c : k = 6
    · subst c; exact e0
    · rw [vD_0 c, e2 k c (by omega)]; exact a2 k hk
  · rw [vD_n (k := 1) (by omega) (Or.inl (by omega)), vD_n (k := 2) (by omega) (Or.inl (by omega)), vD_n (k := 3) (by omega) (Or.inl (by omega))]; exact r1 i hi
  · rw [vD_n (k := 4) (by omega) (Or.inl (by omega)), vD_n (k := 5) (by omega) (Or.inl (by omega)), vD_n (k := 6) (by omega) (Or.inl (by omega))]; exact r2 i hi
  · have hi : i < v 0 6 + 1 := hi
    by_cases c : i = v 0 6
    · subst c; rw [vD_1]; exact e1
    · rw [vD_n (k := 7) (by omega) (Or.inr c), e4 _ (by omega)]; exact r3 i (by omega)
  · rw [vD_n (k := 8) (by omega) (Or.inl (by omega)), vD_n (k := 9) (by omega) (Or.inl (by omega))]; exact r4 i hi
theorem RA_C {M N : gMem} {v : gCt} {a b : Nat} (h : RA M v) (e1 : N.1 152 (2 * v 0 7) = nI a ∧ N.1 152 (2 * v 0 7 + 1) = nI b) (e0 : N.1 148 7 = nI (v 0 7 + 1)) (e2 : ∀ j, j ≠ 7 → j < 9 → N.1 148 j = M.1 148 j) (e4 : ∀ j, j < 2 * v 0 7 → N.1 152 j = M.1 152 j) (e3 : ∀ q, 147 ≤ q → q < 153 → q ≠ 148 → q ≠ 152 → N.1 q = M.1 q) : RA N (vC v a b) := by
  obtain ⟨⟨a1, a2⟩, r1, r2, r3, r4⟩ := h
  unfold RA
  rw [e3 147 (by omega) (by omega) (by omega) (by omega), e3 149 (by omega) (by omega) (by omega) (by omega), e3 150 (by omega) (by omega) (by omega) (by omega), e3 151 (by omega) (by omega) (by omega) (by omega)]
  refine ⟨⟨a1, fun k hk => ?_⟩, fun i hi => ?_, fun i hi => ?_, fun i hi => ?_, fun i hi => ?_⟩
  · by_cases c : k = 7
    · subst c; exact e0
    · rw [vC_0 c, e2 k c (by omega)]; exact a2 k hk
  · rw [vC_n (k := 1) (by omega) (Or.inl (by omega)), vC_n (k := 2) (by omega) (Or.inl (by omega)), vC_n (k := 3) (by omega) (Or.inl (by omega))]; exact r1 i hi
  · rw [vC_n (k := 4) (by omega) (Or.inl (by omega)), vC_n (k := 5) (by omega) (Or.inl (by omega)), vC_n (k := 6) (by omega) (Or.inl (by omega))]; exact r2 i hi
  · rw [vC_n (k := 7) (by omega) (Or.inl (by omega))]; exact r3 i hi
  · have hi : i < v 0 7 + 1 := hi
    by_cases c : i = v 0 7
    · subst c; rw [vC_1.1, vC_1.2]; exact e1
    · rw [vC_n (k := 8) (by omega) (Or.inr c), vC_n (k := 9) (by omega) (Or.inr c), e4 _ (by omega), e4 _ (by omega)]; exact r4 i (by omega)
theorem RA_L {M N : gMem} {v : gCt} (h : RA M v) (e1 : N.1 147 0 = nI (v 0 9 + 1)) (e3 : ∀ q, 148 ≤ q → q < 153 → N.1 q = M.1 q) : RA N (vL v) := by
  obtain ⟨⟨a1, a2⟩, r1, r2, r3, r4⟩ := h
  unfold RA
  rw [e3 148 (by omega) (by omega), e3 149 (by omega) (by omega), e3 150 (by omega) (by omega), e3 151 (by omega) (by omega), e3 152 (by omega) (by omega)]
  exact ⟨⟨e1, fun k hk => by rw [vL_0 (by omega)]; exact a2 k hk⟩, r1, r2, r3, r4⟩
/-- the city that is being read -/
abbrev R4 (M : gMem) (v : gCt) : Prop := RA (gSl M 4) v
theorem sl4 {M : gMem} {q k : Nat} : (gSl M 4).1 q k = M.1 q (mkO q * 4 + k) := rfl
theorem sl4_ne {M N : gMem} {q : Nat} (h : N.1 q = M.1 q) : (gSl N 4).1 q = (gSl M 4).1 q := by
  funext k
  rw [sl4, sl4, h]
/-- what reading changes of the reference -/
def FrR (M N : gMem) : Prop := (∀ q, q ≠ 141 → q < 147 ∨ 153 ≤ q → N.1 q = M.1 q) ∧ (∀ q, 147 ≤ q → q < 153 → ∀ j, j < mkO q * 4 → N.1 q j = M.1 q j) ∧ N.1 148 44 = M.1 148 44 ∧ G2 M N
theorem FrR.tr {M N K : gMem} (h : FrR M N) (g : FrR N K) : FrR M K := ⟨fun q a b => (g.1 q a b).trans (h.1 q a b), fun q a b j hj => (g.2.1 q a b j hj).trans (h.2.1 q a b j hj), g.2.2.1.trans h.2.2.1, h.2.2.2.tr g.2.2.2⟩
theorem FrR.rf {M : gMem} : FrR M M := ⟨fun _ _ _ => rfl, fun _ _ _ _ _ => rfl, rfl, G2.rf⟩
theorem Fm.fr {M N : gMem} (h : Fm M N) : FrR M N := ⟨fun q a _ => h.1 q a, fun q a b j _ => by rw [h.1 q (by omega)], by rw [h.1 148 (by omega)], h.g2⟩
theorem mk48 : mkO 148 * 4 = 36 := rfl
theorem mk49 : mkO 149 * 4 = 72 := rfl
theorem mk50 : mkO 150 * 4 = 84 := rfl
theorem mk51 : mkO 151 * 4 = 20 := rfl
theorem mk52 : mkO 152 * 4 = 40 := rfl
/-- all rows but two as they were -/
theorem FrR_of {M N : gMem} {a : Nat} (e1 : ∀ j, j < 36 ∨ 44 ≤ j → N.1 148 j = M.1 148 j) (e2 : ∀ j, j < mkO a * 4 → N.1 a j = M.1 a j) (ha : 148 ≤ a ∧ a < 153) (e3 : ∀ q, q ≠ 141 → q ≠ 148 → q ≠ a → N.1 q = M.1 q) (e4 : G2 M N) : FrR M N :=
  ⟨fun q x y => e3 q x (by omega) (by omega), fun q x y j hj => by
    by_cases c : q = 148
    · subst c; rw [mk48] at hj; exact e1 j (Or.inl hj)
    · by_cases d : q = a
      · subst d; exact e2 j hj
      · rw [e3 q (by omega) c d], e1 44 (Or.inr (by omega)), e4⟩
theorem M_room0 {M : gMem} {x2 x3 : Int32} : fX9_isRoom 0 x2 x3 M = some (0, M) := by
  unfold fX9_isRoom fX9_isRoom_0 fX9_isRoom_18 fX9_isRoom_33
  rw [if_pos rfl, if_pos rfl, if_pos rfl]
theorem M_room1 {M : gMem} {g : Nat → Nat} {n p k c m : Nat} (h : MSt M g n (.inr p)) (hk : k < 9) (hc : M.1 148 (36 + k) = nI c) (hm : c < m) (h9 : m < 9) : ∃ N, fX9_isRoom 1 (nI k) (nI m) M = some (1, N) ∧ MSt N g n (.inr (tE g n p)) ∧ Fm M N := by
  obtain ⟨N, n1, n2, n3⟩ := M_adv h
  unfold fX9_isRoom fX9_isRoom_0 fX9_isRoom_18 fX9_isRoom_33
  rw [if_neg (show ¬ (1 : Int32) = 0 by decide), M_hasRead hk, hc, gB0_some, if_neg (fun e => absurd ((nI_eq (by omega) (by omega)).mp e) (by omega)), if_neg (show ¬ (1 : Int32) = 0 by decide), if_pos (show M.1 141 12 = 0 from h.2.2.2.1), n1, gB0_some, if_neg (show ¬ (1 : Int32) = 0 by decide), if_pos (show N.1 141 12 = 0 from n2.2.2.2.1)]
  exact ⟨N, rfl, n2, n3⟩
theorem M_room2 {M : gMem} {g : Nat → Nat} {n p k m : Nat} (h : MSt M g n (.inr p)) (hk : k < 9) (hc : M.1 148 (36 + k) = nI m) : ∃ N, fX9_isRoom 1 (nI k) (nI m) M = some (0, N) ∧ MSt N g n (.inl (3, tS g n p)) ∧ Fm M N := by
  obtain ⟨N, n1, n2, n3⟩ := M_errs (k := 3) h (by omega)
  have n12 : ¬ N.1 141 12 = 0 := by
    rw [show N.1 141 12 = nI 3 from n2.2.2.1]; decide
  unfold fX9_isRoom fX9_isRoom_0 fX9_isRoom_18 fX9_isRoom_33
  rw [if_neg (show ¬ (1 : Int32) = 0 by decide), M_hasRead hk, hc, gB0_some, if_pos rfl, show (3 : Int32) = nI 3 from rfl, n1, gB0_some, if_neg (show ¬ (1 : Int32) = 0 by decide), if_neg n12, if_neg (show ¬ (1 : Int32) = 0 by decide), if_neg n12]
  exact ⟨N, rfl, n2, n3⟩
theorem M_117 {M : gMem} {g : Nat → Nat} {n : Nat} {e : Nat × Nat} (h : MSt M g n (.inl e)) : fX9_lineHere_117 M = some M ∧ fX9_lineHere_86 M = some M ∧ fX9_lineHere_55 M = some M := by
  obtain ⟨h1, h4, h5, h6⟩ := h
  have n0 : ¬ M.1 141 12 = 0 := by rw [h5]; exact nI_ne0 (by omega) (by omega)
  have a : fX9_lineHere_117 M = some M := by unfold fX9_lineHere_117; rw [if_neg n0]
  have b : fX9_lineHere_86 M = some M := by unfold fX9_lineHere_86; rw [if_neg n0]; exact a
  exact ⟨a, b, by unfold fX9_lineHere_55; rw [if_neg n0]; exact b⟩
theorem M_lineHere {M : gMem} {g : Nat → Nat} {n p : Nat} {v : gCt} (h : MSt M g n (.inr p)) (hv : gWF v) (hr : R4 M v) : ∃ N, fX9_lineHere M = some N ∧ MSt N g n (lnB g n v p) ∧ (∀ q, lnB g n v p = .inr q → R4 N (lnV g n v p)) ∧ FrR M N := by
  have hv0 := hv.1
  have h' := h
  obtain ⟨h1, h2, hk, hf1, hf2⟩ := h'
  have c4 : M.1 148 (36 + 4) = nI (v 0 4) := hr.1.2 4 (by omega)
  have c5 : M.1 148 (36 + 5) = nI (v 0 5) := hr.1.2 5 (by omega)
  have c6 : M.1 148 (36 + 6) = nI (v 0 6) := hr.1.2 6 (by omega)
  have c7 : M.1 148 (36 + 7) = nI (v 0 7) := hr.1.2 7 (by omega)
  have w5 := M_is (w := 5) h2 hk hf1 (by omega)
  have w9 := M_is (w := 9) h2 hk hf1 (by omega)
  have w11 := M_is (w := 11) h2 hk hf1 (by omega)
  have w12 := M_is (w := 12) h2 hk hf1 (by omega)
  unfold fX9_lineHere fX9_lineHere_0 lnB lnV
  rw [show (6223046688 : Int64) = hW 5 from rfl, w5, gB0_some]
  cases b5 : isW g n 5 p
  · rw [if_neg (show ¬ false = true by decide), if_neg (show ¬ false = true by decide), bI_f, M_room0, gBp_some]
    dsimp only
    rw [if_pos rfl, if_pos hf1, show (208022 : Int64) = hW 9 from rfl, w9, gB0_some]
    cases b9 : isW g n 9 p
    · rw [if_neg (show ¬ false = true by decide), if_neg (show ¬ false = true by decide), bI_f, M_room0, gBp_some]
      dsimp only
      rw [if_pos rfl]
      unfold fX9_lineHere_55
      rw [if_pos hf1, show (90090 : Int64) = hW 11 from rfl, w11, gB0_some]
      cases b11 : isW g n 11 p
      · rw [if_neg (show ¬ false = true by decide), if_neg (show ¬ false = true by decide), bI_f, M_room0, gBp_some]
        dsimp only
        rw [if_pos rfl]
        unfold fX9_lineHere_86
        rw [if_pos hf1, show (70312 : Int64) = hW 12 from rfl, w12, gB0_some]
        cases b12 : isW g n 12 p
        · rw [if_neg (show ¬ false = true by decide), bI_f, M_room0, gBp_some]
          dsimp only
          rw [if_pos rfl]
          unfold fX9_lineHere_117
          rw [if_pos hf1]
          obtain ⟨N, n1, n2, n3⟩ := M_errs (k := 1) h (by omega)
          rw [show (1 : Int32) = nI 1 from rfl, n1, gB0_some]
          exact ⟨N, rfl, n2, fun q hq => (by cases hq), n3.fr⟩
        · rw [if_pos rfl, bI_t]
          by_cases c : v 0 7 < 5
          · rw [if_pos c]
            obtain ⟨A, a1, a2, a3⟩ := M_room1 (k := 7) (m := 5) h (by omega) c7 c (by omega)
            rw [show (7 : Int32) = nI 7 from rfl, show (5 : Int32) = nI 5 from rfl, a1, gBp_some]
            dsimp only
            rw [if_neg (show ¬ (1 : Int32) = 0 by decide)]
            obtain ⟨N, n1, n2, n3, n4, n5, n6, n7, n8⟩ := M_coldLine a2 (by rw [a3.1 148 (by omega)]; exact c7) c (by rw [a3.1 148 (by omega)]; exact c4) hv0.2.2.2.2.1
            rw [n1, gB0_some]
            refine ⟨N, rfl, n2, fun q hq => ?_, a3.fr.tr (FrR_of (a := 152) (fun j hj => n5 j (by omega)) (fun j hj => n6 j (by rw [mk52] at hj; omega)) (by omega) n7 n8)⟩
            obtain ⟨k1, k2⟩ := n3 q hq
            refine RA_C hr ⟨k1, k2⟩ n4 (fun j a b => ?_) (fun j hj => ?_) (fun q a b c d => sl4_ne ?_)
            · show N.1 148 (36 + j) = M.1 148 (36 + j)
              rw [n5 _ (by omega), a3.1 148 (by omega)]
            · show N.1 152 (40 + j) = M.1 152 (40 + j)
              rw [n6 _ (by omega), a3.1 152 (by omega)]
            · rw [n7 q (by omega) (by omega) (by omega), a3.1 q (by omega)]
          · rw [if_neg c]
            have e7 : v 0 7 = 5 := by omega
            rw [e7] at c7
            obtain ⟨A, a1, a2, a3⟩ := M_room2 (k := 7) (m := 5) h (by omega) c7
            rw [show (7 : Int32) = nI 7 from rfl, show (5 : Int32) = nI 5 from rfl, a1, gBp_some]
            dsimp only
            rw [if_pos rfl, (M_117 a2).1]
            exact ⟨A, rfl, a2, fun q hq => (by cases hq), a3.fr⟩
      · rw [if_pos rfl, if_pos rfl, bI_t]
        by_cases c : v 0 6 < 5
        · rw [if_pos c]
          obtain ⟨A, a1, a2, a3⟩ := M_room1 (k := 6) (m := 5) h (by omega) c6 c (by omega)
          rw [show (6 : Int32) = nI 6 from rfl, show (5 : Int32) = nI 5 from rfl, a1, gBp_some]
          dsimp only
          rw [if_neg (show ¬ (1 : Int32) = 0 by decide)]
          obtain ⟨N, n1, n2, n3, n4, n5, n6, n7, n8⟩ := M_doorLine a2 (by rw [a3.1 148 (by omega)]; exact c6) c
          rw [n1, gB0_some]
          refine ⟨N, rfl, n2, fun q hq => ?_, a3.fr.tr (FrR_of (a := 151) (fun j hj => n5 j (by omega)) (fun j hj => n6 j (by rw [mk51] at hj; omega)) (by omega) n7 n8)⟩
          refine RA_D hr (n3 q hq) n4 (fun j a b => ?_) (fun j hj => ?_) (fun q a b c d => sl4_ne ?_)
          · show N.1 148 (36 + j) = M.1 148 (36 + j)
            rw [n5 _ (by omega), a3.1 148 (by omega)]
          · show N.1 151 (20 + j) = M.1 151 (20 + j)
            rw [n6 _ (by omega), a3.1 151 (by omega)]
          · rw [n7 q (by omega) (by omega) (by omega), a3.1 q (by omega)]
        · rw [if_neg c]
          have e7 : v 0 6 = 5 := by omega
          rw [e7] at c6
          obtain ⟨A, a1, a2, a3⟩ := M_room2 (k := 6) (m := 5) h (by omega) c6
          rw [show (6 : Int32) = nI 6 from rfl, show (5 : Int32) = nI 5 from rfl, a1, gBp_some]
          dsimp only
          rw [if_pos rfl, (M_117 a2).2.1]
          exact ⟨A, rfl, a2, fun q hq => (by cases hq), a3.fr⟩
    · rw [if_pos rfl, if_pos rfl, bI_t]
      by_cases c : v 0 5 < 7
      · rw [if_pos c]
        obtain ⟨A, a1, a2, a3⟩ := M_room1 (k := 5) (m := 7) h (by omega) c5 c (by omega)
        rw [show (5 : Int32) = nI 5 from rfl, show (7 : Int32) = nI 7 from rfl, a1, gBp_some]
        dsimp only
        rw [if_neg (show ¬ (1 : Int32) = 0 by decide)]
        obtain ⟨N, n1, n2, n3, n4, n5, n6, n7, n8⟩ := M_joinLine a2 (by rw [a3.1 148 (by omega)]; exact c5) c (by rw [a3.1 148 (by omega)]; exact c4) hv0.2.2.2.2.1
        rw [n1, gB0_some]
        refine ⟨N, rfl, n2, fun q hq => ?_, a3.fr.tr (FrR_of (a := 150) (fun j hj => n5 j (by omega)) (fun j hj => n6 j (by rw [mk50] at hj; omega)) (by omega) n7 n8)⟩
        obtain ⟨k1, k2, k3⟩ := n3 q hq
        refine RA_J hr ⟨k1, k2, k3⟩ n4 (fun j a b => ?_) (fun j hj => ?_) (fun q a b c d => sl4_ne ?_)
        · show N.1 148 (36 + j) = M.1 148 (36 + j)
          rw [n5 _ (by omega), a3.1 148 (by omega)]
        · show N.1 150 (84 + j) = M.1 150 (84 + j)
          rw [n6 _ (by omega), a3.1 150 (by omega)]
        · rw [n7 q (by omega) (by omega) (by omega), a3.1 q (by omega)]
      · rw [if_neg c]
        have e7 : v 0 5 = 7 := by omega
        rw [e7] at c5
        obtain ⟨A, a1, a2, a3⟩ := M_room2 (k := 5) (m := 7) h (by omega) c5
        rw [show (5 : Int32) = nI 5 from rfl, show (7 : Int32) = nI 7 from rfl, a1, gBp_some]
        dsimp only
        rw [if_pos rfl, (M_117 a2).2.2]
        exact ⟨A, rfl, a2, fun q hq => (by cases hq), a3.fr⟩
  · rw [if_pos rfl, if_pos rfl, bI_t]
    by_cases c : v 0 4 < 6
    · rw [if_pos c]
      obtain ⟨A, a1, a2, a3⟩ := M_room1 (k := 4) (m := 6) h (by omega) c4 c (by omega)
      rw [show (4 : Int32) = nI 4 from rfl, show (6 : Int32) = nI 6 from rfl, a1, gBp_some]
      dsimp only
      rw [if_neg (show ¬ (1 : Int32) = 0 by decide)]
      obtain ⟨N, n1, n2, n3, n4, n5, n6, n7, n8⟩ := M_partnerLine a2 (by rw [a3.1 148 (by omega)]; exact c4) c
      rw [n1, gB0_some]
      refine ⟨N, rfl, n2, fun q hq => ?_, a3.fr.tr (FrR_of (a := 149) (fun j hj => n5 j (by omega)) (fun j hj => n6 j (by rw [mk49] at hj; omega)) (by omega) n7 n8)⟩
      obtain ⟨k1, k2, k3⟩ := n3 q hq
      refine RA_P hr ⟨k1, k2, k3⟩ n4 (fun j a b => ?_) (fun j hj => ?_) (fun q a b c d => sl4_ne ?_)
      · show N.1 148 (36 + j) = M.1 148 (36 + j)
        rw [n5 _ (by omega), a3.1 148 (by omega)]
      · show N.1 149 (72 + j) = M.1 149 (72 + j)
        rw [n6 _ (by omega), a3.1 149 (by omega)]
      · rw [n7 q (by omega) (by omega) (by omega), a3.1 q (by omega)]
    · rw [if_neg c]
      have e7 : v 0 4 = 6 := by omega
      rw [e7] at c4
      obtain ⟨A, a1, a2, a3⟩ := M_room2 (k := 4) (m := 6) h (by omega) c4
      have n12 : ¬ A.1 141 12 = 0 := by
        rw [show A.1 141 12 = nI 3 from a2.2.2.1]; decide
      rw [show (4 : Int32) = nI 4 from rfl, show (6 : Int32) = nI 6 from rfl, a1, gBp_some]
      dsimp only
      rw [if_pos rfl, if_neg n12, (M_117 a2).2.2]
      exact ⟨A, rfl, a2, fun q hq => (by cases hq), a3.fr⟩
