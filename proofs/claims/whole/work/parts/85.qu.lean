/-! The state of both, and what every call keeps. -/
def mkO (q : Nat) : Nat := if q = 147 then 1 else if q = 148 then 9 else if q = 149 then 18 else if q = 150 then 21 else if q = 151 then 5 else if q = 152 then 10 else 120
/-- the reference's city i -/
def gSl (M : gMem) (i : Nat) : gMem := (fun q k => M.1 q (mkO q * i + k), M.2)
def RAk (M : gMem) (i : Nat) (w : gCt) : Prop := RA (gSl M i) w ∧ RC (gSl M i) w
theorem gSl_0 (M : gMem) : gSl M 0 = M := by
  unfold gSl
  refine Prod.ext ?_ rfl
  funext q k
  show M.1 q (mkO q * 0 + k) = M.1 q k
  rw [Nat.mul_zero, Nat.zero_add]
theorem RAk_0 (M : gMem) (w : gCt) : RAk M 0 w ↔ RA M w ∧ RC M w := by unfold RAk; rw [gSl_0]
theorem RA_at {M N : gMem} {w : gCt} (hv : gWF w) (h : RA M w) (e : ∀ q, 147 ≤ q → q < 153 → ∀ k, k < mkO q → N.1 q k = M.1 q k) : RA N w := by
  have hv0 := hv.1
  obtain ⟨⟨a1, a2⟩, b, c, d, f⟩ := h
  refine ⟨⟨(e 147 (by omega) (by omega) 0 (by decide)).trans a1, fun k hk => (e 148 (by omega) (by omega) k (show k < 9 by omega)).trans (a2 k hk)⟩, fun p hp => ?_, fun p hp => ?_, fun p hp => ?_, fun p hp => ?_⟩
  · obtain ⟨x, y, z⟩ := b p hp
    exact ⟨(e 149 (by omega) (by omega) _ (show _ < 18 by omega)).trans x, (e 149 (by omega) (by omega) _ (show _ < 18 by omega)).trans y, (e 149 (by omega) (by omega) _ (show _ < 18 by omega)).trans z⟩
  · obtain ⟨x, y, z⟩ := c p hp
    exact ⟨(e 150 (by omega) (by omega) _ (show _ < 21 by omega)).trans x, (e 150 (by omega) (by omega) _ (show _ < 21 by omega)).trans y, (e 150 (by omega) (by omega) _ (show _ < 21 by omega)).trans z⟩
  · exact (e 151 (by omega) (by omega) _ (show _ < 5 by omega)).trans (d p hp)
  · obtain ⟨x, y⟩ := f p hp
    exact ⟨(e 152 (by omega) (by omega) _ (show _ < 10 by omega)).trans x, (e 152 (by omega) (by omega) _ (show _ < 10 by omega)).trans y⟩
theorem RC_at {M N : gMem} {w : gCt} (h30 : w 0 8 ≤ 30) (h : RC M w) (e : ∀ q, q = 148 ∨ q = 153 → ∀ k, k < mkO q → N.1 q k = M.1 q k) : RC N w := by
  obtain ⟨a, b⟩ := h
  refine ⟨(e 148 (Or.inl rfl) 8 (by decide)).trans a, fun i hi => ?_⟩
  obtain ⟨x, y, z, w'⟩ := b i hi
  exact ⟨(e 153 (Or.inr rfl) _ (show _ < 120 by omega)).trans x, (e 153 (Or.inr rfl) _ (show _ < 120 by omega)).trans y, (e 153 (Or.inr rfl) _ (show _ < 120 by omega)).trans z, (e 153 (Or.inr rfl) _ (show _ < 120 by omega)).trans w'⟩
theorem RAk_far {M N : gMem} {i : Nat} {w : gCt} (h : RAk M (i + 1) w) (e : ∀ q, 147 ≤ q → q < 154 → ∀ j, mkO q * (i + 1) ≤ j → j < mkO q * (i + 2) → N.1 q j = M.1 q j) (hv : gWF w) (h30 : w 0 8 ≤ 30) : RAk N (i + 1) w := by
  have key : ∀ q, 147 ≤ q → q < 154 → ∀ k, k < mkO q → (gSl N (i + 1)).1 q k = (gSl M (i + 1)).1 q k := fun q a b k hk => e q a b _ (Nat.le_add_right _ _) (by
    have : mkO q * (i + 2) = mkO q * (i + 1) + mkO q := by rw [← Nat.mul_succ]
    omega)
  exact ⟨RA_at hv h.1 (fun q a b => key q a (by omega)), RC_at h30 h.2 (fun q hq => key q (by omega) (by omega))⟩
/-- an image -/
def IM (M : gMem) (k : Nat) : Prop := ∃ b, M.1 154 k = bI b ∧ bt (M.1 0 7) k = b ∧ (b = true → ∃ w, (gWF w ∧ yOK w ∧ w 0 8 ≤ 30) ∧ RT M (66 + 15 * k) w ∧ RAk M (k + 1) w)
theorem IM_same {M N : gMem} {k : Nat} (hk : k < 3) (h : IM M k) (h0 : N.1 0 7 = M.1 0 7) (h1 : ∀ q, 66 ≤ q → q < 111 → N.1 q = M.1 q) (h2 : ∀ q, 147 ≤ q → q < 154 → ∀ j, mkO q ≤ j → N.1 q j = M.1 q j) (h3 : N.1 154 = M.1 154) : IM N k := by
  obtain ⟨b, b1, b2, b3⟩ := h
  refine ⟨b, by rw [h3]; exact b1, by rw [h0]; exact b2, fun hb => ?_⟩
  obtain ⟨w, w1, w2, w3⟩ := b3 hb
  refine ⟨w, w1, RT_same w2 (fun i hi => h1 _ (by omega) (by omega)), RAk_far w3 (fun q a c j hj _ => h2 q a c j ?_) w1.1 w1.2.2⟩
  exact Nat.le_trans (Nat.le_mul_of_pos_right _ (by omega)) hj
/-- the tape -/
def TP (M : gMem) : Prop := ∃ n, n ≤ 800 ∧ M.1 2 1 = nI n ∧ M.1 141 6 = nI n ∧ ∀ k, k < n → M.1 3 k = M.1 146 k ∧ (M.1 3 k).toInt8.toInt32 = M.1 3 k
def FL (M : gMem) : Prop := M.1 1 2 = M.1 141 14 ∧ M.1 1 3 = M.1 141 15
def TWO (M : gMem) : Prop := (M.2.2 0 = 111 ∧ M.2.2 1 = 126) ∨ (M.2.2 0 = 126 ∧ M.2.2 1 = 111)
/-- all but the city of now -/
def RM (M : gMem) (z : gRw) : Prop := RO M z ∧ TWO M ∧ (∀ k, k < 3 → IM M k) ∧ TP M ∧ FL M
def INV (M : gMem) : Prop := ∃ t v z, (CT M t v ∧ yOK v ∧ v 0 8 ≤ 30) ∧ RM M z
theorem TP_same {M N : gMem} (h : TP M) (h1 : N.1 2 = M.1 2) (h2 : N.1 3 = M.1 3) (h3 : N.1 141 6 = M.1 141 6) (h4 : N.1 146 = M.1 146) : TP N := by
  unfold TP
  rw [h1, h2, h3, h4]; exact h
/-- what the city of now doesn't touch -/
theorem RM_far {M N : gMem} {z : gRw} (h : RM M z) (e1 : ∀ q, q < 14 → N.1 q = M.1 q) (e2 : ∀ q, 66 ≤ q → q < 111 → N.1 q = M.1 q) (e3 : ∀ q, q = 142 ∨ q = 143 ∨ q = 146 ∨ q = 154 → N.1 q = M.1 q) (e4 : ∀ q, 147 ≤ q → q < 154 → ∀ j, mkO q ≤ j → N.1 q j = M.1 q j) (e5 : ∀ j, j = 6 ∨ j = 14 ∨ j = 15 → N.1 141 j = M.1 141 j) (e6 : ∀ q, q ≠ 145 → q ≠ 141 → N.2.1 q = M.2.1 q) (e7 : N.2.2 = M.2.2) : RM N z := by
  obtain ⟨h1, h2, h3, h4, h5⟩ := h
  refine ⟨RO_same h1 (fun q hq => ?_) (fun q hq => e6 q (by omega) (by omega)), by unfold TWO; rw [e7]; exact h2, fun k hk => IM_same hk (h3 k hk) (by rw [e1 0 (by omega)]) e2 e4 (e3 154 (by omega)), TP_same h4 (e1 2 (by omega)) (e1 3 (by omega)) (e5 6 (by omega)) (e3 146 (by omega)), ?_⟩
  · rcases hq with hq | hq
    · exact e1 q (by omega)
    · exact e3 q (by omega)
  · unfold FL
    rw [e1 1 (by omega), e5 14 (by omega), e5 15 (by omega)]; exact h5
theorem scr_f {q : Nat} (h : ¬ (14 ≤ q ∧ q < 66) ∧ q ≠ 141 ∧ q ≠ 145 ∧ ¬ (155 ≤ q ∧ q < 162)) : scr q = false := by
  unfold scr
  simp only [Bool.or_eq_false_iff, Bool.and_eq_false_iff, decide_eq_false_iff_not]
  omega
theorem RM.kp {M N : gMem} {z : gRw} (h : RM M z) (k : KP M N) : RM N z :=
  RM_far h (fun q _ => k.1 q (scr_f (by omega))) (fun q _ _ => k.1 q (scr_f (by omega))) (fun q _ => k.1 q (scr_f (by omega))) (fun q _ _ j _ => by rw [k.1 q (scr_f (by omega))]) k.2.1 k.2.2.1 k.2.2.2
theorem RM.kw {M N : gMem} {z : gRw} {t : Nat} (h : RM M z) (ht : M.2.2 0 = t) (k : KW t M N) : RM N z := by
  have t2 : t = 111 ∨ t = 126 := by
    rcases h.2.1 with h | h
    · exact Or.inl (ht.symm.trans h.1)
    · exact Or.inr (ht.symm.trans h.1)
  exact RM_far h (fun q _ => k.1 q (scr_f (by omega)) (by omega)) (fun q _ _ => k.1 q (scr_f (by omega)) (by omega)) (fun q _ => k.1 q (scr_f (by omega)) (by omega)) (fun q _ _ j _ => by rw [k.1 q (scr_f (by omega)) (by omega)]) k.2.2.1 k.2.2.2.1 k.2.2.2.2
theorem INV.kp {M N : gMem} (h : INV M) (k : KP M N) : INV N := by
  obtain ⟨t, v, z, ⟨h1, h2, h3⟩, h4⟩ := h
  exact ⟨t, v, z, ⟨h1.kp k, h2, h3⟩, h4.kp k⟩
/-- a call of both: the same answer, and the state as it must be -/
def gSt (f g : gFq) : Prop := ∀ M, INV M → ∃ r N K, f M = some (r, N) ∧ g N = some (r, K) ∧ INV K
def gStP (f : gMem → Option Int32) (g : gFq) : Prop := ∀ M, INV M → ∃ r K, f M = some r ∧ g M = some (r, K) ∧ INV K
theorem St_SQ {f g : gFq} (h : ∀ t v, yOK v → v 0 8 ≤ 30 → SQ t v f g) : gSt f g := fun M hM => by
  obtain ⟨t, v, z, ⟨h1, h2, h3⟩, h4⟩ := hM
  obtain ⟨r, a, b⟩ := h t v h2 h3
  obtain ⟨N, n1, n2⟩ := a M h1
  obtain ⟨K, k1, k2⟩ := b N (h1.kp n2)
  exact ⟨r, N, K, n1, k1, t, v, z, ⟨h1.kp (n2.tr k2), h2, h3⟩, h4.kp (n2.tr k2)⟩
theorem St_SP {f : gMem → Option Int32} {g : gFq} (h : ∀ t v, yOK v → v 0 8 ≤ 30 → SP t v f g) : gStP f g := fun M hM => by
  obtain ⟨t, v, z, ⟨h1, h2, h3⟩, h4⟩ := hM
  obtain ⟨r, a, b⟩ := h t v h2 h3
  obtain ⟨K, k1, k2⟩ := b M h1
  exact ⟨r, K, a M h1, k1, t, v, z, ⟨h1.kp k2, h2, h3⟩, h4.kp k2⟩
theorem St_SR {f g : gFq} (h : ∀ t v z, SR t v z f g) : gSt f g := fun M hM => by
  obtain ⟨t, v, z, ⟨h1, h2, h3⟩, h4⟩ := hM
  obtain ⟨r, a, b⟩ := h t v z
  obtain ⟨N, n1, n2⟩ := a M h1 h4.1
  obtain ⟨K, k1, k2⟩ := b N (h1.kp n2) (h4.1.kp n2)
  exact ⟨r, N, K, n1, k1, t, v, z, ⟨h1.kp (n2.tr k2), h2, h3⟩, h4.kp (n2.tr k2)⟩
theorem St_ST {f : gMem → Option Int32} {g : gFq} (h : ∀ t v z, ST t v z f g) : gStP f g := fun M hM => by
  obtain ⟨t, v, z, ⟨h1, h2, h3⟩, h4⟩ := hM
  obtain ⟨r, a, b⟩ := h t v z
  obtain ⟨K, k1, k2⟩ := b M h1 h4.1
  exact ⟨r, K, a M h1 h4.1, k1, t, v, z, ⟨h1.kp k2, h2, h3⟩, h4.kp k2⟩
theorem St_SW {f g : gFq} (h : ∀ t v, yOK v → v 0 8 ≤ 30 → SW t v f g) : gSt f g := fun M hM => by
  obtain ⟨t, v, z, ⟨h1, h2, h3⟩, h4⟩ := hM
  obtain ⟨r, a, b⟩ := h t v h2 h3
  obtain ⟨N, n1, n2, n3⟩ := a M h1
  obtain ⟨K, k1, k2⟩ := b N n2
  exact ⟨r, N, K, n1, k1, t, v, z, ⟨n2.kp k2, h2, h3⟩, (h4.kw h1.1.1 n3).kp k2⟩
/-! fault, count -/
theorem S_fault (x : Int32) : gStP (fX8_fault x) (fX9_fault x) := fun M hM => by
  have hK := hM.kp (kp0 M)
  obtain ⟨t, v, z, -, -, -, -, -, f1, f2⟩ := hM
  have e1 : (gSI M 141 0 0).1 141 14 = M.1 141 14 := gSI_nj (by omega)
  have e2 : (gSI M 141 0 0).1 141 15 = M.1 141 15 := gSI_nj (by omega)
  unfold fX8_fault fX8_fault_0 fX9_fault fX9_fault_0 fX9_fault_10 fX9_fault_22
  rw [e1, e2, f1, f2]
  by_cases c0 : x = 0
  · rw [if_pos c0, if_pos c0]; exact ⟨_, _, rfl, rfl, hK⟩
  · rw [if_neg c0, if_neg c0]
    by_cases c1 : x = 1
    · rw [if_pos c1, if_pos c1]; exact ⟨_, _, rfl, rfl, hK⟩
    · rw [if_neg c1, if_neg c1]; exact ⟨_, _, rfl, rfl, hK⟩
def cwO (w : Nat → Int32) : Nat → Int32
  | 0 => 0
  | s + 1 => if w s = -1 then cwO w s else cwO w s + 1
theorem C_rowCount {M : gMem} {z : gRw} (hr : RO M z) : fX8_rowCount M = some (cwO z.1 4) := by
  unfold fX8_rowCount fX8_rowCount_0 fX8_rowCount_4h
  refine gLp_for (fun s => (cwO z.1 s, nI s)) 4 _ (by omega) (fun s hs => ?_) ?_ _ rfl
  · show fX8_rowCount_4 (cwO z.1 s) (nI s) M = _
    have hra : gRa 4 s = 6 + 2 * s := rfl
    unfold fX8_rowCount_4
    rw [show (nI (gSh 4).2 : Int32) = nI 4 from rfl, if_neg (nI_ge hs (by omega)), if_pos (ixN4 hs), nI_clamp (by omega), hra, if_pos (gOb4 hs), C_isThere hr hs, gB0_some, ite_bI, nI_1, cwO]
    by_cases c : z.1 s = -1
    · rw [if_pos c, decide_eq_true c]; rfl
    · rw [if_neg c, decide_eq_false c]; rfl
  · show fX8_rowCount_4 (cwO z.1 4) (nI 4) M = _
    unfold fX8_rowCount_4
    rw [show (nI (gSh 4).2 : Int32) = nI 4 from rfl, if_pos (Int32.le_refl _)]
    rfl
theorem M_rowCount {M : gMem} {z : gRw} (hr : RO M z) : fX9_count_66h 0 0 M = some (cwO z.1 4, M) := by
  unfold fX9_count_66h
  refine gLp_for (fun s => (cwO z.1 s, nI s)) 4 _ (by omega) (fun s hs => ?_) ?_ _ rfl
  · show fX9_count_66 (cwO z.1 s) (nI s) M = _
    unfold fX9_count_66
    rw [show (4 : Int32) = nI 4 from rfl, if_neg (nI_ge hs (by omega)), if_pos (ix142 hs), nI_clamp (by omega), (hr s hs).1.2.2.1, nI_1, cwO, Int32.add_zero]
    by_cases c : z.1 s = -1
    · rw [if_pos c, if_pos c]
    · rw [if_neg c, if_neg c]
  · show fX9_count_66 (cwO z.1 4) (nI 4) M = _
    unfold fX9_count_66
    rw [show (4 : Int32) = nI 4 from rfl, if_pos (Int32.le_refl _)]
    rfl
theorem C_count_k {M : gMem} {t : Nat} {v : gCt} (h : CT M t v) : ∀ k, k < 9 → fX8_count (nI k) M = some (nI (v 0 k)) := by
  obtain ⟨a0, a1, a2, a3, a4, a5, a6, a7, a8, a9⟩ := h.2.2.1.1
  have g := gob_T h
  intro k hk
  unfold fX8_count fX8_count_0
  rw [if_pos g, if_pos g, if_pos g, if_pos g, if_pos g, if_pos g, if_pos g, if_pos g, if_pos g, h.1.1, a1, a2, a3, a4, a5, a6, a7, a8, a9]
  match k, hk with
  | 0, _ => rfl
  | 1, _ => rfl
  | 2, _ => rfl
  | 3, _ => rfl
  | 4, _ => rfl
  | 5, _ => rfl
  | 6, _ => rfl
  | 7, _ => rfl
  | 8, _ => rfl
theorem S_count (x : Int32) : gStP (fX8_count x) (fX9_count x) := fun M hM => by
  have hK := hM.kp (kp0 M)
  obtain ⟨t, v, z, ⟨h1, h2, h3⟩, h4, -, -, ⟨n, n1, n2, n3, -⟩, -⟩ := hM
  have kN := h1.kp (kp0 M)
  have rN := h4.kp (kp0 M)
  have e9 : (decide ((0 : Int64).toInt ≤ x.toInt) && decide (x.toInt ≤ (8 : Int64).toInt)) = inR x 9 := by
    unfold inR
    have z0 : (0 : Int64).toInt = 0 := rfl
    have z8 : (8 : Int64).toInt = 8 := rfl
    rw [z0, z8]
    congr 1
    exact decide_eq_decide.mpr (by omega)
  have e6 : (gSI M 141 0 0).1 141 6 = M.1 141 6 := gSI_nj (by omega)
  unfold fX9_count fX9_count_0 fX9_count_11
  rw [F_in, gB0_some, ite_bI, Int32.toInt_toInt64, e9]
  cases hb : inR x 9
  · rw [if_neg (by decide)]
    have nx : ∀ k, k < 9 → ¬ x = nI k := fun k hk e => by
      rw [e, inR_nI (by omega), decide_eq_true hk] at hb
      cases hb
    unfold fX8_count fX8_count_0
    rw [if_neg (show ¬ x = 0 from nx 0 (by omega)), if_neg (show ¬ x = 1 from nx 1 (by omega)), if_neg (show ¬ x = 2 from nx 2 (by omega)), if_neg (show ¬ x = 3 from nx 3 (by omega)), if_neg (show ¬ x = 4 from nx 4 (by omega)), if_neg (show ¬ x = 5 from nx 5 (by omega)), if_neg (show ¬ x = 6 from nx 6 (by omega)), if_neg (show ¬ x = 7 from nx 7 (by omega)), if_neg (show ¬ x = 8 from nx 8 (by omega))]
    by_cases c9 : x = 9
    · rw [if_pos c9, if_pos c9, if_pos (gob_T h1), h1.1.1, h1.2.2.1.1.1, if_pos (show gIx 1 147 (0 : Int32) = true from gIx_k (j := 0) rfl (by decide) (show 0 < 5 by omega) (by omega)), show Int32.toNatClampNeg (0 : Int32) = 0 from rfl, kN.2.2.2.1.1.1]
      exact ⟨_, _, rfl, rfl, hK⟩
    · rw [if_neg c9, if_neg c9]
      by_cases c10 : x = 10
      · rw [if_pos c10, if_pos c10, e6, n2, n3]
        exact ⟨_, _, rfl, rfl, hK⟩
      · rw [if_neg c10, if_neg c10]
        by_cases c11 : x = 11
        · rw [if_pos c11, if_pos c11, C_rowCount h4, M_rowCount rN, gB0_some]
          exact ⟨_, _, rfl, rfl, hK⟩
        · rw [if_neg c11, if_neg c11]
          exact ⟨_, _, rfl, rfl, hK⟩
  · rw [if_pos rfl]
    obtain ⟨k, hk, rfl⟩ := inR_k hb
    rw [C_count_k h1 k hk, if_pos (ix148 (by omega)), nI_clamp (by omega)]
    refine ⟨_, _, rfl, ?_, hK⟩
    by_cases c : k = 8
    · subst c; rw [kN.2.2.2.2.1]
    · rw [kN.2.2.2.1.1.2 k (by omega)]
