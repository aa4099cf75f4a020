/-! Rows of numbers, on both sides; gifts that are fair. -/
/-- of each slot: width, how many, the numbers -/
abbrev gRw : Type := (Nat → Int32) × (Nat → Nat) × (Nat → Nat → Int64)
def RO (M : gMem) (z : gRw) : Prop := ∀ s, s < 4 → (M.1 (6 + 2 * s) 1 = z.1 s ∧ M.1 (6 + 2 * s) 2 = nI (z.2.1 s) ∧ M.1 142 s = z.1 s ∧ M.1 143 s = nI (z.2.1 s)) ∧ z.2.1 s ≤ 60 ∧ ∀ k, k < z.2.1 s → M.2.1 (6 + 2 * s + 1) k = z.2.2 s k ∧ M.2.1 144 (60 * s + k) = z.2.2 s k
theorem RO_same {M N : gMem} {z : gRw} (h : RO M z) (e1 : ∀ q, (6 ≤ q ∧ q < 14) ∨ (142 ≤ q ∧ q ≤ 143) → N.1 q = M.1 q) (e2 : ∀ q, (6 ≤ q ∧ q < 14) ∨ q = 144 → N.2.1 q = M.2.1 q) : RO N z := fun s hs => by
  obtain ⟨⟨a, b, c, d⟩, e, f⟩ := h s hs
  refine ⟨⟨?_, ?_, ?_, ?_⟩, e, fun k hk => ⟨?_, ?_⟩⟩
  · rw [e1 _ (by omega)]; exact a
  · rw [e1 _ (by omega)]; exact b
  · rw [e1 _ (by omega)]; exact c
  · rw [e1 _ (by omega)]; exact d
  · rw [e2 _ (by omega)]; exact (f k hk).1
  · rw [e2 _ (by omega)]; exact (f k hk).2
theorem scr_lo {q : Nat} (h : q < 14 ∨ (142 ≤ q ∧ q ≤ 144)) : scr q = false := by
  unfold scr
  simp only [Bool.or_eq_false_iff, Bool.and_eq_false_iff, decide_eq_false_iff_not]
  omega
theorem RO.kp {M N : gMem} {z : gRw} (h : RO M z) (k : KP M N) : RO N z := RO_same h (fun q hq => k.1 q (scr_lo (by omega))) (fun q hq => k.2.2.1 q (by omega) (by omega))
theorem ob4 : ∀ s, s < 4 → gOb0 4 (6 + 2 * s) = true := by decide +kernel
theorem gOb4 {s : Nat} (h : s < 4) : gOb 4 (6 + 2 * s) = true := gOb_c (ob4 s h)
theorem sh4 : ∀ s, s < 4 → gSh (6 + 2 * s + 1) = (4, 60) ∧ 6 + 2 * s + 1 < gN := by decide +kernel
theorem ixV {s k : Nat} (h : s < 4) (hk : k < 60) : gIx 4 (6 + 2 * s + 1) (nI k) = true := gIx_k (sh4 s h).1 (sh4 s h).2 hk (by omega)
theorem ix142 {k : Nat} (h : k < 4) : gIx 1 142 (nI k) = true := gIx_k rfl (by decide) h (by omega)
theorem ix143 {k : Nat} (h : k < 4) : gIx 1 143 (nI k) = true := gIx_k rfl (by decide) h (by omega)
theorem ix144 {k : Nat} (h : k < 240) : gIx 4 144 (nI k) = true := gIx_k rfl (by decide) h (by omega)
theorem ixN4 {k : Nat} (h : k < 4) : gIx 5 4 (nI k) = true := gIx_k rfl (by decide) h (by omega)
theorem C_slot_no {x : Int32} (h : inR x 4 = false) (M : gMem) : fX8_slotAt x M = some .null := by
  unfold fX8_slotAt fX8_slotAt_0
  rw [show (nI (gSh 4).2 : Int32) = nI 4 from rfl]
  simp only [lt_nI (show 4 < 2 ^ 31 by omega), lt0_i]
  unfold inR at h
  by_cases c : x.toInt < 0
  · rw [if_pos c]
  · rw [if_neg c]
    rw [decide_eq_true (show (0 : Int) ≤ x.toInt by omega), Bool.true_and, decide_eq_false_iff_not] at h
    rw [if_pos (by omega)]
theorem C_slot_k {s : Nat} (h : s < 4) (M : gMem) : fX8_slotAt (nI s) M = some (.ref (6 + 2 * s)) := by
  unfold fX8_slotAt fX8_slotAt_0
  have hra : gRa 4 s = 6 + 2 * s := rfl
  rw [show (nI (gSh 4).2 : Int32) = nI 4 from rfl, if_neg (nI_pos (by omega)), if_neg (nI_ge h (by omega)), if_pos (ixN4 h), nI_clamp (by omega), hra, if_pos (gOb4 h)]
theorem M_isSlot (x : Int32) (M : gMem) : fX9_isSlot x M = some (bI (inR x 4)) := by
  unfold fX9_isSlot fX9_isSlot_0
  rw [F_in, gB0_some, if_pos (bI_z _), Int32.toInt_toInt64]
  unfold inR
  have z0 : (0 : Int64).toInt = 0 := rfl
  have z3 : (3 : Int64).toInt = 3 := rfl
  rw [z0, z3]
  congr 2
  congr 1
  exact decide_eq_decide.mpr (by omega)
theorem slot_r {x : Int32} : (∃ s, s < 4 ∧ x = nI s) ∨ inR x 4 = false := by
  cases h : inR x 4
  · exact Or.inr rfl
  · exact Or.inl (inR_k h)
/-! what a set is given: halves apart -/
def gvS (z : Nat → Int64) (c : Nat) : Nat → Int64 × Int64
  | 0 => (0, 0)
  | n + 1 => if c.testBit n = true then ((gvS z c n).1 + (z n >>> ((32 : Int32).toInt64 &&& 63)), (gvS z c n).2 + (z n &&& 4294967295)) else gvS z c n
def gvH (z : Nat → Int64) (c n : Nat) : Int64 := (gvS z c n).1 + ((gvS z c n).2 >>> ((32 : Int32).toInt64 &&& 63))
def gvL (z : Nat → Int64) (c n : Nat) : Int64 := (gvS z c n).2 &&& 4294967295
def gvC (z : Nat → Int64) (c n a : Nat) : Int32 := if gvH z c n = 0 then gCmp (gvL z c n) (nI a).toInt64 else gCmp (gvH z c n) 0
theorem C_compare {M : gMem} {z : gRw} (hr : RO M z) {s c a : Nat} (hs : s < 4) (hc : c < 64) (hn : z.2.1 s ≤ 6) : fX4_compareTogether (6 + 2 * s) (nI c) (nI a) M = some (gvC (z.2.2 s) c (z.2.1 s) a) := by
  obtain ⟨⟨-, r2, -, -⟩, -, r5⟩ := hr s hs
  have e68 : fX4_compareTogether_68 (nI a) (gvS (z.2.2 s) c (z.2.1 s)).1 (gvS (z.2.2 s) c (z.2.1 s)).2 M = some (gvC (z.2.2 s) c (z.2.1 s) a) := by
    unfold fX4_compareTogether_68 gvC
    simp only [lg_cmp_eq]
    show (if gvH (z.2.2 s) c (z.2.1 s) = 0 then gB0 (fJ13_compare_74951 (gvL (z.2.2 s) c (z.2.1 s)) (Int32.toInt64 (nI a)) M) _ else gB0 (fJ13_compare_74951 (gvH (z.2.2 s) c (z.2.1 s)) 0 M) _) = _
    by_cases h : gvH (z.2.2 s) c (z.2.1 s) = 0
    · rw [if_pos h, if_pos h]; rfl
    · rw [if_neg h, if_neg h]; rfl
  unfold fX4_compareTogether fX4_compareTogether_0 fX4_compareTogether_8h
  refine gLp_for (fun i => ((gvS (z.2.2 s) c i).1, (gvS (z.2.2 s) c i).2, nI i)) (z.2.1 s) _ (by omega) (fun i hi => ?_) ?_ _ rfl
  · show fX4_compareTogether_8 (6 + 2 * s) (nI c) (nI a) (gvS (z.2.2 s) c i).1 (gvS (z.2.2 s) c i).2 (nI i) M = _
    unfold fX4_compareTogether_8
    rw [r2, if_neg (nI_ge hi (by omega)), if_neg (show ¬ (6 : Int32) ≤ nI i from nI_ge (b := 6) (by omega) (by omega)), has6 hc (by omega), decide_eq_true (show i < 6 by omega), Bool.true_and, gB0_some, ite_bI, ixV hs (by omega), if_pos rfl, if_pos rfl, nI_clamp (by omega), (r5 i hi).1, nI_1]
    rw [gvS]
    cases c.testBit i <;> rfl
  · show fX4_compareTogether_8 (6 + 2 * s) (nI c) (nI a) _ _ (nI (z.2.1 s)) M = _
    unfold fX4_compareTogether_8
    rw [r2, if_pos (Int32.le_refl _), e68]
theorem gSJ_2 {M : gMem} {o j : Nat} {x : Int64} : (gSJ M o j x).1 = M.1 := rfl
theorem gSJ_ne {M : gMem} {o j q : Nat} {x : Int64} (h : q ≠ o) : (gSJ M o j x).2.1 q = M.2.1 q := if_neg h
theorem gSJ_eq {M : gMem} {o j : Nat} {x : Int64} : (gSJ M o j x).2.1 o j = x := by rw [gSJ_0]; exact pk_uLs
theorem gSJ_nj {M : gMem} {o j k : Nat} {x : Int64} (h : k ≠ j) : (gSJ M o j x).2.1 o k = M.2.1 o k := by rw [gSJ_0]; exact pk_uLn h
theorem KP.j141 {M : gMem} {j : Nat} {x : Int64} : KP M (gSJ M 141 j x) := ⟨fun _ _ => rfl, fun _ _ => rfl, fun _ _ h => gSJ_ne h, rfl⟩
theorem KP.j145 {M : gMem} {j : Nat} {x : Int64} : KP M (gSJ M 145 j x) := ⟨fun _ _ => rfl, fun _ _ => rfl, fun _ h _ => gSJ_ne h, rfl⟩
theorem M_given {M : gMem} {t : Nat} {v : gCt} {z : gRw} (h : CT M t v) (hr : RO M z) {s c : Nat} (hs : s < 4) (hc : c < 64) (hn : z.2.1 s = v 0 4) : ∃ N, fX9_laysGiven (nI s) (nI c) M = some N ∧ N.2.1 141 39 = gvH (z.2.2 s) c (v 0 4) ∧ N.2.1 141 40 = gvL (z.2.2 s) c (v 0 4) ∧ N.1 = M.1 ∧ KP M N := by
  have hv0 := h.2.1.1
  have ha := h.2.2.2.1
  unfold fX9_laysGiven fX9_laysGiven_0 fX9_laysGiven_7 fX9_laysGiven_12h
  refine gLp_inv (fun i (st : Int32 × gMem) => st.1 = nI i ∧ st.2.2.1 141 39 = (gvS (z.2.2 s) c i).1 ∧ st.2.2.1 141 40 = (gvS (z.2.2 s) c i).2 ∧ st.2.1 = M.1 ∧ KP M st.2) (v 0 4) (fun (N : gMem) => N.2.1 141 39 = gvH (z.2.2 s) c (v 0 4) ∧ N.2.1 141 40 = gvL (z.2.2 s) c (v 0 4) ∧ N.1 = M.1 ∧ KP M N) (by omega) (fun i st hi hI => ?_) (fun st hI => ?_) _ ⟨rfl, ?_, gSJ_eq, rfl, KP.j141.tr KP.j141⟩
  · obtain ⟨i', N⟩ := st
    obtain ⟨g1, g2, g3, g4, g5⟩ := hI
    have g1 : i' = nI i := g1
    subst g1
    have g2 : N.2.1 141 39 = (gvS (z.2.2 s) c i).1 := g2
    have g3 : N.2.1 141 40 = (gvS (z.2.2 s) c i).2 := g3
    have g4 : N.1 = M.1 := g4
    have g5 : KP M N := g5
    have haN := (h.kp g5).2.2.2.1
    obtain ⟨-, -, r5⟩ := (hr.kp g5) s hs
    have r := (r5 i (by omega)).2
    have hb : 60 * s + i < 240 := by omega
    refine Or.inl ?_
    show ∃ s', fX9_laysGiven_12 (nI s) (nI c) (nI i) N = _ ∧ _
    unfold fX9_laysGiven_12
    rw [F_people haN, gB0_some, if_neg (nI_ge hi (by omega)), bit6 hc (by omega), decide_eq_true (show i < 6 by omega), Bool.true_and, gB0_some, ite_bI, show (60 : Int32) = nI 60 from rfl, pk_mul, nI_add, if_pos (ix144 hb), nI_clamp (by omega), r, g2]
    cases hb2 : c.testBit i
    · rw [if_neg (by decide)]
      refine ⟨_, rfl, ?_, ?_, ?_, g4, g5⟩
      · exact nI_1 i
      · rw [gvS, hb2, if_neg (by decide)]; exact g2
      · rw [gvS, hb2, if_neg (by decide)]; exact g3
    · rw [if_pos rfl]
      unfold fX9_laysGiven_56
      rw [show (60 : Int32) = nI 60 from rfl, pk_mul, nI_add, if_pos (ix144 hb), nI_clamp (by omega), gSJ_nj (show 40 ≠ 39 by decide), g3, gSJ_ne (show 144 ≠ 141 by decide), r]
      refine ⟨_, rfl, ?_, ?_, ?_, g4, g5.tr (KP.j141.tr KP.j141)⟩
      · exact nI_1 i
      · rw [gvS, hb2, if_pos rfl]
        exact (gSJ_nj (by decide)).trans gSJ_eq
      · rw [gvS, hb2, if_pos rfl]
        exact gSJ_eq
  · obtain ⟨i', N⟩ := st
    obtain ⟨g1, g2, g3, g4, g5⟩ := hI
    have g1 : i' = nI (v 0 4) := g1
    subst g1
    have g2 : N.2.1 141 39 = (gvS (z.2.2 s) c (v 0 4)).1 := g2
    have g3 : N.2.1 141 40 = (gvS (z.2.2 s) c (v 0 4)).2 := g3
    have g5 : KP M N := g5
    have haN := (h.kp g5).2.2.2.1
    show ∃ r, fX9_laysGiven_12 (nI s) (nI c) (nI (v 0 4)) N = _ ∧ _
    unfold fX9_laysGiven_12
    rw [F_people haN, gB0_some, if_pos (Int32.le_refl _), g2, g3]
    unfold fX9_laysGiven_102
    rw [gEx_some, gSJ_nj (show 40 ≠ 39 by decide), g3]
    exact ⟨_, rfl, (gSJ_nj (by decide)).trans gSJ_eq, gSJ_eq, g4, g5.tr (KP.j141.tr KP.j141)⟩
  · exact (gSJ_nj (by decide)).trans gSJ_eq
theorem am_hi : ∀ a, a < 600 → (nI a).toInt64 >>> ((32 : Int32).toInt64 &&& 63) = 0 ∧ (nI a).toInt64 &&& 4294967295 = (nI a).toInt64 := by decide +kernel
theorem gCmp_lt (x y : Int64) : (0 ≤ gCmp x y) = ¬ x < y := by
  unfold gCmp
  refine propext ?_
  by_cases c : x < y
  · rw [if_neg (by rw [lg_cmp_ge]; exact Int64.not_le.mpr c)]
    exact ⟨fun h => absurd h (by decide), fun h => absurd c h⟩
  · rw [if_pos ((lg_cmp_ge x y).mpr (Int64.not_lt.mp c))]
    refine ⟨fun _ => c, fun _ => ?_⟩
    by_cases d : lg_cmp x y = 0
    · rw [if_pos d]; decide
    · rw [if_neg d]; decide
theorem gCmp_0 (x y : Int64) : (gCmp x y = 0) = (x = y) := by
  unfold gCmp
  refine propext ?_
  by_cases c : x = y
  · have e := (lg_cmp_eq x y).mpr c
    rw [e]
    exact ⟨fun _ => c, fun _ => by decide⟩
  · have e : ¬ lg_cmp x y = 0 := fun h => c ((lg_cmp_eq x y).mp h)
    rw [if_neg e]
    refine ⟨fun h => ?_, fun h => absurd h c⟩
    by_cases d : 0 ≤ lg_cmp x y
    · rw [if_pos d] at h; exact absurd h (by decide)
    · rw [if_neg d] at h; exact absurd h (by decide)
def gvN (z : Nat → Int64) (c n a : Nat) : Bool := !decide (0 ≤ gvC z c n a)
def gvE (z : Nat → Int64) (c n a : Nat) : Bool := decide (gvC z c n a = 0)
theorem M_less {M : gMem} {t : Nat} {v : gCt} {z : gRw} (h : CT M t v) (hr : RO M z) {s c a : Nat} (hs : s < 4) (hc : c < 64) (hn : z.2.1 s = v 0 4) (ha : a < 600) : ∃ N, fX9_isGivenLess (nI s) (nI c) (nI a).toInt64 M = some (bI (gvN (z.2.2 s) c (v 0 4) a), N) ∧ N.1 = M.1 ∧ KP M N := by
  obtain ⟨N, n1, n2, n3, n4, n5⟩ := M_given h hr hs hc hn
  unfold fX9_isGivenLess fX9_isGivenLess_0
  rw [n1, gB0_some, n2, n3, (am_hi a ha).1, (am_hi a ha).2]
  simp only [lg_cmp_eq, lg_cmp_lt, lg_cmp_ge]
  refine ⟨N, ?_, n4, n5⟩
  unfold gvN gvC
  by_cases c1 : gvH (z.2.2 s) c (v 0 4) = 0
  · have c2 : ¬ gvH (z.2.2 s) c (v 0 4) < 0 := by rw [c1]; decide
    rw [if_neg c2, if_pos c1, if_pos c1]
    simp only [gCmp_lt]
    by_cases c3 : gvL (z.2.2 s) c (v 0 4) < (nI a).toInt64
    · rw [if_neg (Int64.not_le.mpr c3)]; simp only [c3, not_true_eq_false, decide_false, Bool.not_false]; rfl
    · rw [if_pos (Int64.not_lt.mp c3)]; simp only [c3, not_false_eq_true, decide_true, Bool.not_true]; rfl
  · rw [if_neg c1, if_neg c1]
    simp only [gCmp_lt]
    by_cases c3 : gvH (z.2.2 s) c (v 0 4) < 0
    · rw [if_pos c3]; simp only [c3, not_true_eq_false, decide_false, Bool.not_false]; rfl
    · rw [if_neg c3]; simp only [c3, not_false_eq_true, decide_true, Bool.not_true]; rfl
theorem M_just {M : gMem} {t : Nat} {v : gCt} {z : gRw} (h : CT M t v) (hr : RO M z) {s c a : Nat} (hs : s < 4) (hc : c < 64) (hn : z.2.1 s = v 0 4) (ha : a < 600) : ∃ N, fX9_isGivenJust (nI s) (nI c) (nI a).toInt64 M = some (bI (gvE (z.2.2 s) c (v 0 4) a), N) ∧ N.1 = M.1 ∧ KP M N := by
  obtain ⟨N, n1, n2, n3, n4, n5⟩ := M_given h hr hs hc hn
  unfold fX9_isGivenJust fX9_isGivenJust_0
  rw [n1, gB0_some, n2, n3, (am_hi a ha).1, (am_hi a ha).2]
  simp only [lg_cmp_eq]
  refine ⟨N, ?_, n4, n5⟩
  unfold gvE gvC
  by_cases c1 : gvH (z.2.2 s) c (v 0 4) = 0
  · rw [if_pos c1, if_pos c1]
    simp only [gCmp_0]
    by_cases c3 : gvL (z.2.2 s) c (v 0 4) = (nI a).toInt64
    · rw [if_pos c3, decide_eq_true c3]; rfl
    · rw [if_neg c3, decide_eq_false c3]; rfl
  · rw [if_neg c1, if_neg c1]
    simp only [gCmp_0]
    rw [decide_eq_false c1]; rfl
/-! who would leave -/
def lvB (v : gCt) (z : Nat → Int64) (d c : Nat) : Bool := gvN z c (v 0 4) (swO v c d)
def lvO (v : gCt) (z : Nat → Int64) (d : Nat) : Int32 := oV (frO (lvB v z d) (2 ^ v 0 4))
theorem C_firstLeaver {M : gMem} {t s d : Nat} {v : gCt} {z : gRw} (h : CT M t v) (hr : RO M z) (hs : s < 4) (hn : z.2.1 s = v 0 4) (hd : d < v 0 6) : fX1_firstLeaver t (nI d) (6 + 2 * s) M = some (lvO v (z.2.2 s) d) := by
  have hv := h.2.1
  have hv0 := hv.1
  have ht := gTn_of h.1.2
  have hpw := pow_le hv0.2.2.2.2.1
  have h5 : M.1 t 5 = nI (v 0 4) := h.2.2.1.1.2.2.2.2.2.1
  unfold fX1_firstLeaver fX1_firstLeaver_0 fX1_firstLeaver_2h
  refine Eq.trans (gLp_fs (st := fun i => nI i) (g := lvB v (z.2.2 s) d) (n := 2 ^ v 0 4) (A := fun i => nI i) (B := -1) (by omega) (fun i hi => ?_) ?_ 0 rfl) ?_
  rotate_right
  · unfold lvO
    cases frO (lvB v (z.2.2 s) d) (2 ^ v 0 4) <;> rfl
  · show fX1_firstLeaver_2 t (nI d) (6 + 2 * s) (nI i) M = _
    unfold fX1_firstLeaver_2
    have sw := swO_le hv i d
    rw [h5, sh_pow _ (by omega), if_neg (nI_ge hi (by omega)), C_setWorth ht hv h.2.2.1 (by omega) hd, gB0_some, C_compare hr hs (by omega) (by omega), gB0_some, hn, nI_1]
    unfold lvB gvN
    by_cases c : 0 ≤ gvC (z.2.2 s) i (v 0 4) (swO v i d)
    · rw [if_pos c, decide_eq_true c, if_neg (by decide)]
    · rw [if_neg c, decide_eq_false c, if_pos (by decide)]
  · show fX1_firstLeaver_2 t (nI d) (6 + 2 * s) (nI (2 ^ v 0 4)) M = _
    unfold fX1_firstLeaver_2
    rw [h5, sh_pow _ (by omega), if_pos (Int32.le_refl _)]
theorem M_leaveOf {M : gMem} {t s d : Nat} {v : gCt} {z : gRw} (h : CT M t v) (hr : RO M z) (hs : s < 4) (hn : z.2.1 s = v 0 4) (hd : d < v 0 6) : ∃ N, fX9_leaveOf (nI s) (nI d) M = some (lvO v (z.2.2 s) d, N) ∧ N.1 141 24 = nI (v 0 1) ∧ KP M N := by
  have hv := h.2.1
  have hv0 := hv.1
  have hpw := pow_le hv0.2.2.2.2.1
  obtain ⟨K, k1, k2, k3, k4, k5, k6⟩ := F_lays h
  unfold fX9_leaveOf fX9_leaveOf_0 fX9_leaveOf_6h
  rw [k1, gB0_some]
  have key : ∃ r, gLp (fun st : Int32 × gMem => fX9_leaveOf_6 (nI s) (nI d) st.1 st.2) gFu ((0 : Int32), K) = some r ∧ (r.1 = lvO v (z.2.2 s) d ∧ r.2.1 141 24 = nI (v 0 1) ∧ KP M r.2) := by
    refine gLp_inv (fun i (st : Int32 × gMem) => st.1 = nI i ∧ frO (lvB v (z.2.2 s) d) i = none ∧ st.2.1 141 24 = nI (v 0 1) ∧ KP M st.2) (2 ^ v 0 4) (fun (r : Int32 × gMem) => r.1 = lvO v (z.2.2 s) d ∧ r.2.1 141 24 = nI (v 0 1) ∧ KP M r.2) (by omega) (fun i st hi hI => ?_) (fun st hI => ?_) _ ⟨rfl, rfl, k3, k5⟩
    · obtain ⟨i', N⟩ := st
      obtain ⟨g1, g2, g3, g4⟩ := hI
      have g1 : i' = nI i := g1
      subst g1
      have g3 : N.1 141 24 = nI (v 0 1) := g3
      have g4 : KP M N := g4
      have hN := h.kp g4
      have sw := swO_le hv i d
      obtain ⟨P, p1, p2, p3⟩ := M_less (a := swO v i d) hN (hr.kp g4) hs (show i < 64 by omega) hn (by omega)
      have hst : fX9_leaveOf_6 (nI s) (nI d) (nI i) N = if lvB v (z.2.2 s) d i = true then some (.inr (nI i, P)) else some (.inl (nI (i + 1), P)) := by
        unfold fX9_leaveOf_6
        rw [F_people hN.2.2.2.1, gB0_some, sh_pow _ (by omega), if_neg (nI_ge hi (by omega)), M_valueOf hv hN.2.2.2.1 g3 (by omega) hd, gB0_some, p1, gBp_some, ite_bI, nI_1]
        rfl
      have hP : P.1 141 24 = nI (v 0 1) := by rw [p2]; exact g3
      show (∃ s', fX9_leaveOf_6 (nI s) (nI d) (nI i) N = _ ∧ _) ∨ ∃ r, fX9_leaveOf_6 (nI s) (nI d) (nI i) N = _ ∧ _
      rw [hst]
      cases hb : lvB v (z.2.2 s) d i
      · rw [if_neg (by decide)]
        refine Or.inl ⟨_, rfl, rfl, ?_, hP, g4.tr p3⟩
        rw [fr_step g2, hb, if_neg (by decide)]
      · rw [if_pos rfl]
        refine Or.inr ⟨_, rfl, ?_, hP, g4.tr p3⟩
        unfold lvO
        rw [frO_hit hi g2 hb]
        rfl
    · obtain ⟨i', N⟩ := st
      obtain ⟨g1, g2, g3, g4⟩ := hI
      have g1 : i' = nI (2 ^ v 0 4) := g1
      subst g1
      have g4 : KP M N := g4
      have hN := h.kp g4
      have g2 : frO (lvB v (z.2.2 s) d) (2 ^ v 0 4) = none := g2
      show ∃ r, fX9_leaveOf_6 (nI s) (nI d) (nI (2 ^ v 0 4)) N = _ ∧ _
      unfold fX9_leaveOf_6
      rw [F_people hN.2.2.2.1, gB0_some, sh_pow _ (by omega), if_pos (Int32.le_refl _)]
      refine ⟨_, rfl, ?_, g3, g4⟩
      unfold lvO
      rw [g2]
      rfl
  obtain ⟨⟨r, N⟩, r1, r2, r3, r4⟩ := key
  have r2 : r = lvO v (z.2.2 s) d := r2
  exact ⟨N, by rw [r1, r2], r3, r4⟩
/-- why gifts are refused -/
def gfO (v : gCt) (z : gRw) (s : Nat) (d : Int32) : Int32 := if inR d (v 0 6) = true then (if z.1 s = -1 then -6 else if z.2.1 s = v 0 4 then 0 else -2) else -2
theorem gfO_0 {v : gCt} {z : gRw} {s : Nat} {d : Int32} (h : gfO v z s d = 0) : inR d (v 0 6) = true ∧ z.2.1 s = v 0 4 := by
  unfold gfO at h
  cases c : inR d (v 0 6)
  · rw [c, if_neg (by decide)] at h; exact absurd h (by decide)
  · rw [c, if_pos rfl] at h
    by_cases c1 : z.1 s = -1
    · rw [if_pos c1] at h; exact absurd h (by decide)
    · rw [if_neg c1] at h
      by_cases c2 : z.2.1 s = v 0 4
      · exact ⟨rfl, c2⟩
      · rw [if_neg c2] at h; exact absurd h (by decide)
theorem C_isThere {M : gMem} {z : gRw} (hr : RO M z) {s : Nat} (hs : s < 4) : fX4_isThere (6 + 2 * s) M = some (bI (!decide (z.1 s = -1))) := by
  unfold fX4_isThere fX4_isThere_0
  rw [(hr s hs).1.1]
  by_cases c : z.1 s = -1
  · rw [if_pos c, decide_eq_true c]; rfl
  · rw [if_neg c, decide_eq_false c]; rfl
theorem C_refGifts {M : gMem} {t s : Nat} {v : gCt} {z : gRw} (h : CT M t v) (hr : RO M z) (hs : s < 4) (d : Int32) : fX8_refusalOfGifts (.ref (6 + 2 * s)) d M = some (gfO v z s d) := by
  have hv0 := h.2.1.1
  have hl := (hr s hs).2.1
  unfold fX8_refusalOfGifts
  show (if gOb 4 (6 + 2 * s) = true then fX8_refusalOfGifts_0a (6 + 2 * s) d M else none) = _
  rw [if_pos (gOb4 hs)]
  unfold fX8_refusalOfGifts_0a gfO
  rw [if_pos (gob_T h), tn_np h, h.1.1, F_hasDoor h.2.1 h.2.2.1, gB0_some, ite_bI, C_isThere hr hs, gB0_some, ite_bI, (hr s hs).1.2.1, if_pos h.1.2]
  simp only [nI_eq (show z.2.1 s < 2 ^ 31 by omega) (show v 0 4 < 2 ^ 31 by omega)]
  cases inR d (v 0 6)
  · rfl
  · by_cases c : z.1 s = -1
    · rw [if_pos c, decide_eq_true c]; rfl
    · rw [if_neg c, decide_eq_false c]
      by_cases c2 : z.2.1 s = v 0 4
      · rw [if_pos c2, if_pos c2]; rfl
      · rw [if_neg c2, if_neg c2]; rfl
theorem M_whyNotFair {M : gMem} {t s : Nat} {v : gCt} {z : gRw} (h : CT M t v) (hr : RO M z) (hs : s < 4) (d : Int32) : fX9_whyNotFair (nI s) d M = some (gfO v z s d) := by
  have hv0 := h.2.1.1
  have hl := (hr s hs).2.1
  unfold fX9_whyNotFair fX9_whyNotFair_0 gfO
  rw [M_isSlot, gB0_some, ite_bI, inR_nI (by omega), decide_eq_true hs, if_pos rfl, M_isDoor h.2.1 h.2.2.2.1, gB0_some, ite_bI, inL_inR, if_pos (ix142 hs), if_pos (ix143 hs), nI_clamp (by omega), (hr s hs).1.2.2.1, (hr s hs).1.2.2.2, F_people h.2.2.2.1, gB0_some]
  simp only [nI_eq (show z.2.1 s < 2 ^ 31 by omega) (show v 0 4 < 2 ^ 31 by omega)]
  cases inR d (v 0 6)
  · rfl
  · by_cases c : z.1 s = -1
    · rw [if_pos rfl, if_pos rfl, if_pos c, if_pos c]
    · rw [if_pos rfl, if_pos rfl, if_neg c, if_neg c]
      by_cases c2 : z.2.1 s = v 0 4
      · rw [if_pos c2, if_pos c2]
      · rw [if_neg c2, if_neg c2]
/-- a question with a row -/
def SR (t : Nat) (v : gCt) (z : gRw) (f g : gFq) : Prop := ∃ r, (∀ M, CT M t v → RO M z → ∃ N, f M = some (r, N) ∧ KP M N) ∧ ∀ M, CT M t v → RO M z → ∃ N, g M = some (r, N) ∧ KP M N
def ST (t : Nat) (v : gCt) (z : gRw) (f : gMem → Option Int32) (g : gFq) : Prop := ∃ r, (∀ M, CT M t v → RO M z → f M = some r) ∧ ∀ M, CT M t v → RO M z → ∃ N, g M = some (r, N) ∧ KP M N
theorem M_why_no {x d : Int32} (h : inR x 4 = false) (M : gMem) : fX9_whyNotFair x d M = some (-2) := by
  unfold fX9_whyNotFair fX9_whyNotFair_0
  rw [M_isSlot, gB0_some, ite_bI, h]; rfl
theorem Q_leave {t : Nat} {v : gCt} {z : gRw} (x d : Int32) : ST t v z (fX8_leave x d) (fX9_leave x d) := by
  rcases slot_r (x := x) with ⟨s, hs, rfl⟩ | hx
  · by_cases hg : gfO v z s d = 0
    · obtain ⟨h1, h2⟩ := gfO_0 hg
      obtain ⟨k, hk, rfl⟩ := inR_k h1
      refine ⟨lvO v (z.2.2 s) k, fun M hM hR => ?_, fun M hM hR => ?_⟩
      · unfold fX8_leave fX8_leave_0
        rw [C_slot_k hs, gB0_some]
        show (if gOb 4 (6 + 2 * s) = true then _ else none) = _
        rw [if_pos (gOb4 hs), C_refGifts hM hR hs, gB0_some, if_pos hg, if_pos (gob_T hM), hM.1.1, C_firstLeaver hM hR hs h2 hk, gB0_some]
      · have hN := hM.kp (kp0 M)
        have hRN := hR.kp (kp0 M)
        obtain ⟨N, n1, n2, n3⟩ := M_leaveOf hN hRN hs h2 hk
        refine ⟨N, ?_, (kp0 M).tr n3⟩
        unfold fX9_leave fX9_leave_0 fX9_leave_8
        rw [M_whyNotFair hN hRN hs, gB0_some, if_pos hg, n1, gBp_some]
    · refine ⟨gfO v z s d, fun M hM hR => ?_, fun M hM hR => ⟨_, ?_, kp0 M⟩⟩
      · unfold fX8_leave fX8_leave_0
        rw [C_slot_k hs, gB0_some]
        show (if gOb 4 (6 + 2 * s) = true then _ else none) = _
        rw [if_pos (gOb4 hs), C_refGifts hM hR hs, gB0_some, if_neg hg]
      · unfold fX9_leave fX9_leave_0 fX9_leave_8
        rw [M_whyNotFair (hM.kp (kp0 M)) (hR.kp (kp0 M)) hs, gB0_some, if_neg hg]
  · refine ⟨-2, fun M hM hR => ?_, fun M hM hR => ⟨_, ?_, kp0 M⟩⟩
    · unfold fX8_leave fX8_leave_0
      rw [C_slot_no hx]; rfl
    · unfold fX9_leave fX9_leave_0 fX9_leave_8
      rw [M_why_no hx]; rfl
theorem oV_m1 {x : Option Nat} (h : ∀ k, x = some k → k < 100) : (oV x = -1) = (x = none) := by
  cases x with
  | none => exact propext ⟨fun _ => rfl, fun _ => rfl⟩
  | some k => exact propext ⟨fun e => absurd e (ne_m1 k (h k rfl)), fun e => by cases e⟩
theorem Q_fair {t : Nat} {v : gCt} {z : gRw} (x d : Int32) : ST t v z (fX8_fair x d) (fX9_fair x d) := by
  rcases slot_r (x := x) with ⟨s, hs, rfl⟩ | hx
  · by_cases hg : gfO v z s d = 0
    · obtain ⟨h1, h2⟩ := gfO_0 hg
      obtain ⟨k, hk, rfl⟩ := inR_k h1
      refine ⟨bI (decide (lvO v (z.2.2 s) k = -1) && gvE (z.2.2 s) (2 ^ v 0 4 - 1) (v 0 4) (swO v (2 ^ v 0 4 - 1) k)), fun M hM hR => ?_, fun M hM hR => ?_⟩
      · have hv := hM.2.1
        have hv0 := hv.1
        have hpw := pow_le hv0.2.2.2.2.1
        have ep : (gMk (v 0 4) (fun _ => true) : Int32) = nI (2 ^ v 0 4 - 1) := by
          have key : ∀ n, n ≤ 6 → (gMk n (fun _ => true) : Int32) = nI (2 ^ n - 1) := by decide +kernel
          exact key _ hv0.2.2.2.2.1
        unfold fX8_fair fX8_fair_0
        rw [C_slot_k hs, gB0_some]
        show (if gOb 4 (6 + 2 * s) = true then _ else none) = _
        rw [if_pos (gOb4 hs), C_refGifts hM hR hs, gB0_some, if_pos hg, if_pos (gob_T hM), tn_np hM, F_allOf (by omega), gB0_some, if_pos (gob_T hM), hM.1.1, ep, C_setWorth (gTn_of hM.1.2) hv hM.2.2.1 (by omega) hk, gB0_some, C_compare hR hs (by omega) (by omega), gB0_some, h2]
        unfold gvE fX8_fair_62
        rw [if_pos (gob_T hM), hM.1.1, C_firstLeaver hM hR hs h2 hk, gB0_some, if_neg (show ¬ (1 : Int32) = 0 by decide), if_pos (rfl : (0 : Int32) = 0)]
        by_cases c1 : gvC (z.2.2 s) (2 ^ v 0 4 - 1) (v 0 4) (swO v (2 ^ v 0 4 - 1) k) = 0
        · rw [if_pos c1, decide_eq_true c1, Bool.and_true]
          by_cases c2 : lvO v (z.2.2 s) k = -1
          · rw [if_pos c2, decide_eq_true c2]; rfl
          · rw [if_neg c2, decide_eq_false c2]; rfl
        · rw [if_neg c1, decide_eq_false c1, Bool.and_false]; rfl
      · have hN := hM.kp (kp0 M)
        have hRN := hR.kp (kp0 M)
        have hv := hM.2.1
        have hv0 := hv.1
        have hpw := pow_le hv0.2.2.2.2.1
        obtain ⟨N, n1, n2, n3⟩ := M_leaveOf hN hRN hs h2 hk
        have hK := hN.kp n3
        have hRK := hRN.kp n3
        have sw := swO_le hv (2 ^ v 0 4 - 1) k
        have e1 : (nI (2 ^ v 0 4) - 1 : Int32) = nI (2 ^ v 0 4 - 1) := by
          have := Nat.two_pow_pos (v 0 4)
          rw [show (1 : Int32) = nI 1 from rfl, pk_sub (by omega)]
        obtain ⟨P, p1, p2, p3⟩ := M_just (a := swO v (2 ^ v 0 4 - 1) k) hK hRK hs (show 2 ^ v 0 4 - 1 < 64 by omega) h2 (by omega)
        unfold fX9_fair fX9_fair_0 fX9_fair_8
        rw [M_whyNotFair hN hRN hs, gB0_some, if_pos hg, F_people hN.2.2.2.1, gB0_some, n1, gBp_some, sh_pow _ (by omega), e1, M_valueOf hv hK.2.2.2.1 n2 (by omega) hk, gB0_some, p1, gBp_some, ite_bI]
        by_cases c2 : lvO v (z.2.2 s) k = -1
        · rw [if_pos c2, decide_eq_true c2, Bool.true_and]
          cases gvE (z.2.2 s) (2 ^ v 0 4 - 1) (v 0 4) (swO v (2 ^ v 0 4 - 1) k)
          · exact ⟨P, rfl, ((kp0 M).tr n3).tr p3⟩
          · exact ⟨P, rfl, ((kp0 M).tr n3).tr p3⟩
        · rw [if_neg c2, decide_eq_false c2, Bool.false_and]
          exact ⟨N, rfl, (kp0 M).tr n3⟩
    · refine ⟨gfO v z s d, fun M hM hR => ?_, fun M hM hR => ⟨_, ?_, kp0 M⟩⟩
      · unfold fX8_fair fX8_fair_0
        rw [C_slot_k hs, gB0_some]
        show (if gOb 4 (6 + 2 * s) = true then _ else none) = _
        rw [if_pos (gOb4 hs), C_refGifts hM hR hs, gB0_some, if_neg hg]
      · unfold fX9_fair fX9_fair_0 fX9_fair_8
        rw [M_whyNotFair (hM.kp (kp0 M)) (hR.kp (kp0 M)) hs, gB0_some, if_neg hg]
  · refine ⟨-2, fun M hM hR => ?_, fun M hM hR => ⟨_, ?_, kp0 M⟩⟩
    · unfold fX8_fair fX8_fair_0
      rw [C_slot_no hx]; rfl
    · unfold fX9_fair fX9_fair_0 fX9_fair_8
      rw [M_why_no hx]; rfl
