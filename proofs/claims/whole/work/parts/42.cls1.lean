/-! The class: joins gathered. -/
theorem ite_bI {α : Type} (b : Bool) (A B : α) : (if bI b = 0 then A else B) = if b = true then B else A := by
  cases b <;> simp [bI]
theorem F_has (s : Int32) {k : Nat} (hk : k < 32) (M : gMem) : fX8_has s (nI k) M = some (bI (bt s k)) := by
  unfold fX8_has fX8_has_0
  rw [shr_and1 s hk, ite_bI]
  cases bt s k <;> rfl
theorem F_has0 (s : Int32) (M : gMem) : fX8_has s 0 M = some (bI (bt s 0)) := F_has s (k := 0) (by omega) M
theorem allOf_k : ∀ n, n < 31 → (1 : Int32) <<< (nI n &&& 31) - 1 = gMk n (fun _ => true) := by decide +kernel
theorem F_allOf {n : Nat} (hn : n < 31) (M : gMem) : fX8_allOf (nI n) M = some (gMk n (fun _ => true)) := by
  unfold fX8_allOf fX8_allOf_0
  rw [allOf_k n hn]
theorem gMn_nI {a b : Nat} (ha : a < 2 ^ 31) (hb : b < 2 ^ 31) : gMn (nI a) (nI b) = nI (min a b) := by
  unfold gMn
  by_cases h : b < a
  · rw [if_pos (nI_lt h ha), Nat.min_eq_right (by omega)]
  · rw [if_neg (nI_nlt (by omega) hb), Nat.min_eq_left (by omega)]
theorem gMx_nI {a b : Nat} (ha : a < 2 ^ 31) (hb : b < 2 ^ 31) : gMx (nI a) (nI b) = nI (max a b) := by
  unfold gMx
  by_cases h : a < b
  · rw [if_pos (nI_lt h hb), Nat.max_eq_right (by omega)]
  · rw [if_neg (nI_nlt (by omega) ha), Nat.max_eq_left (by omega)]
theorem isOf_b (x y a b : Nat) : (if x = a then if y = b then some (1 : Int32) else if x = b then if y = a then some 1 else some 0 else some 0 else if x = b then if y = a then some 1 else some 0 else some 0) = some (bI ((decide (x = a) && decide (y = b)) || (decide (x = b) && decide (y = a)))) := by
  by_cases h1 : x = a <;> by_cases h2 : y = b <;> by_cases h3 : x = b <;> by_cases h4 : y = a <;> simp_all [bI]
theorem F_isOf {M : gMem} {t i a b : Nat} {v : gCt} (ht : gTn t) (hv : gWF v) (hr : RT M t v) (hi : i < v 0 8) (ha : a < 6) (hb : b < 6) : fX0_isOf (t + 10) (nI i) (nI a) (nI b) M = some (bI (isPr v i a b)) := by
  obtain ⟨hv0, -, -, -, -, hva⟩ := hv
  obtain ⟨-, -, -, -, -, hra⟩ := hr
  obtain ⟨r1, r2, -, -⟩ := hra i hi
  obtain ⟨w1, w2, -, -, -⟩ := hva i hi
  have hi' : i < 31 := by omega
  unfold fX0_isOf fX0_isOf_0 fX0_isOf_20 isPr
  simp (disch := omega) only [ixA1 ht, ixA2 ht, nI_clamp, r1, r2, nI_eq, if_true]
  exact isOf_b _ _ a b
theorem cutY_le (v : gCt) (a b fr bb n : Nat) : cutY v a b fr bb n ≤ 1000 := by
  induction n with
  | zero => exact Nat.le_refl _
  | succ n ih =>
    rw [cutY]
    split
    · exact Nat.le_trans (Nat.min_le_left _ _) ih
    · exact ih
theorem F_cutOf {M : gMem} {t a b fr bb : Nat} {act : Int32} {v : gCt} (ht : gTn t) (hv : gWF v) (hr : RT M t v) (ha : a < 6) (hb : b < 6) (hf : fr < 100) (hA : ∀ i, i < 31 → (nI i ≤ act ↔ ¬ bb ≤ i)) : fX0_cutOf (t + 10) (nI a) (nI b) (nI fr) act M = some (nI (cutY v a b fr bb (v 0 8))) := by
  have hv' := hv
  have hr' := hr
  obtain ⟨hv0, -, -, -, -, hva⟩ := hv
  obtain ⟨hr0, -, -, -, -, hra⟩ := hr
  have hna := hr0.2.2.2.2.2.2.2.2.2
  unfold fX0_cutOf fX0_cutOf_0 fX0_cutOf_8h
  refine gLp_for (fun i => (nI (cutY v a b fr bb i), nI i)) (v 0 8) _ (by omega) (fun i hi => ?_) ?_ _ rfl
  · obtain ⟨-, -, r3, r4⟩ := hra i hi
    obtain ⟨-, -, -, w3, w4⟩ := hva i hi
    have hi' : i < 31 := by omega
    have hp := F_isOf ht hv' hr' hi ha hb
    have hc := cutY_le v a b fr bb i
    have hq : ¬ v 0 8 ≤ i := by omega
    have hA' := hA i hi'
    show fX0_cutOf_8 (t + 10) (nI a) (nI b) (nI fr) act (nI (cutY v a b fr bb i)) (nI i) M = _
    unfold fX0_cutOf_8 fX0_cutOf_46 fX0_cutOf_50 fX0_cutOf_51
    simp (disch := omega) only [hna, nI_leI, nI_ltI, nI_eq, nI_n0, ixA3 ht, ixA4 ht, nI_clamp, r3, r4, hA', hp, gB0_some, ite_bI, gMn_nI, if_true, nI_1, hq, if_false]
    rw [cutY, cutsIt]
    by_cases h1 : fr < v 12 i <;> by_cases h2 : v 12 i = fr <;> by_cases h3 : bb ≤ i <;> by_cases h4 : v 13 i = 0 <;> cases h5 : isPr v i a b <;> simp [h1, h2, h3, h4]
  · show fX0_cutOf_8 (t + 10) (nI a) (nI b) (nI fr) act (nI (cutY v a b fr bb (v 0 8))) (nI (v 0 8)) M = _
    unfold fX0_cutOf_8
    rw [hna, if_pos (Int32.le_refl _)]
    rfl

/-- what the class's rows of joins hold -/
def GA (M : gMem) (l : List gJo) : Prop := M.1 14 5 = nI l.length ∧ ∀ (e : Nat) (x : gJo), l[e]? = some x → M.1 15 e = nI x.1 ∧ M.1 16 e = nI x.2.1 ∧ M.1 17 e = nI x.2.2.1 ∧ M.1 18 e = nI x.2.2.2
/-- the supposition stands in the class's decade -/
def SU (M : gMem) (u : gSp) : Prop := M.1 14 0 = gMk 7 (u 0) ∧ M.1 14 1 = bI (u 1 0) ∧ M.1 14 2 = gMk 6 (u 2) ∧ M.1 14 3 = gMk 6 (u 3) ∧ M.1 14 4 = gMk 6 (u 4)
theorem SU_same {M N : gMem} {u : gSp} (h : SU M u) (e : ∀ k, k < 5 → N.1 14 k = M.1 14 k) : SU N u := by
  unfold SU
  rw [e 0 (by omega), e 1 (by omega), e 2 (by omega), e 3 (by omega), e 4 (by omega)]
  exact h
/-- all but the objects from lo to hi stays -/
def Fr (lo hi : Nat) (M N : gMem) : Prop := (∀ q, q < lo ∨ hi ≤ q → N.1 q = M.1 q) ∧ N.2 = M.2
theorem Fr.rf {lo hi : Nat} {M : gMem} : Fr lo hi M M := ⟨fun _ _ => rfl, rfl⟩
theorem Fr.tr {lo hi : Nat} {M N K : gMem} (h : Fr lo hi M N) (g : Fr lo hi N K) : Fr lo hi M K := ⟨fun q hq => (g.1 q hq).trans (h.1 q hq), g.2.trans h.2⟩
theorem Fr.si {lo hi o j : Nat} {M : gMem} {x : Int32} (h1 : lo ≤ o) (h2 : o < hi) : Fr lo hi M (gSI M o j x) := ⟨fun q hq => gSI_ne (by omega), rfl⟩
theorem Fr.wd {lo hi lo2 hi2 : Nat} {M N : gMem} (h : Fr lo hi M N) (h1 : lo2 ≤ lo) (h2 : hi ≤ hi2) : Fr lo2 hi2 M N := ⟨fun q hq => h.1 q (by omega), h.2⟩
theorem Fr.RT {lo hi : Nat} {M N : gMem} (h : Fr lo hi M N) {t : Nat} {v : gCt} (ht : hi ≤ t) (r : RT M t v) : RT N t v := RT_same r (fun i _ => h.1 (t + i) (Or.inr (by omega)))
theorem ite3 {α : Type} {p q : Prop} [inst : Decidable p] [inst2 : Decidable q] (A B : α) : (if p then A else if q then A else B) = if p ∨ q then A else B := by
  by_cases h : p <;> by_cases g : q <;> simp [h, g]
theorem F_gather {M : gMem} {t a b fr un bb : Nat} {act : Int32} {v : gCt} {u : gSp} {l : List gJo} (ht : gTn t) (hv : gWF v) (hr : RT M t v) (hs : SU M u) (hg : GA M l) (hl : l.length < 38) (ha : a < 6) (hb : b < 6) (hf : fr < 100) (hu : un < 100) (hA : ∀ i, i < 31 → (nI i ≤ act ↔ ¬ bb ≤ i)) :
    ∃ N, fX2_gather t (nI a) (nI b) (nI fr) (nI un) act M = some N ∧ GA N (l ++ [mkJ v u a b fr un bb]) ∧ SU N u ∧ Fr 14 19 M N := by
  have hs' := hs
  obtain ⟨s0, s1, s2, s3, s4⟩ := hs
  obtain ⟨g0, g1⟩ := hg
  have hc := F_cutOf ht hv hr ha hb hf hA
  have hcy := cutY_le v a b fr bb (v 0 8)
  have key : ∀ e : Nat, e = (mkJ v u a b fr un bb).2.2.2 → fX2_gather t (nI a) (nI b) (nI fr) (nI un) act M = fX2_gather_66 (nI a) (nI b) (nI fr) (nI e) M := by
    intro e he
    subst he
    unfold fX2_gather fX2_gather_0 fX2_gather_41 fX2_gather_63
    rw [s4, s1, g0, show (38 : Int32) = nI 38 from rfl, if_pos (nI_lt hl (by omega)), ite_bI, hc]
    simp (disch := omega) only [F_has, gB0_some, ite_bI, bt_gMk, gMn_nI, ha, hb, decide_true, Bool.true_and]
    unfold mkJ
    cases h1 : u 4 a <;> cases h2 : u 4 b <;> cases h3 : u 1 0 <;> simp <;> rfl
  rw [key _ rfl]
  generalize hx : mkJ v u a b fr un bb = x
  have x1 : x.1 = a := by rw [← hx]; rfl
  have x2 : x.2.1 = b := by rw [← hx]; rfl
  have x3 : x.2.2.1 = fr := by rw [← hx]; rfl
  unfold fX2_gather_66 fX2_gather_81 fX2_gather_91 fX2_gather_102 fX2_gather_110
  simp (disch := omega) only [gSI_ne, g0, ix15, ix16, ix17, ix18, if_true, nI_clamp, nI_1]
  refine ⟨_, rfl, ⟨?_, fun e y hy => ?_⟩, ?_, ?_⟩
  · rw [gSI_eq, List.length_append]; rfl
  · rw [gSI_ne (by omega), gSI_ne (by omega), gSI_ne (by omega), gSI_ne (by omega)]
    simp (disch := omega) only [gSI_ne]
    rcases Nat.lt_or_ge e l.length with h | h
    · rw [List.getElem?_append_left h] at hy
      obtain ⟨q1, q2, q3, q4⟩ := g1 e y hy
      have hne : e ≠ l.length := by omega
      simp (disch := omega) only [gSI_nj hne, gSI_ne, q1, q2, q3, q4, and_self]
    · have he : e = l.length := by
        have := (List.getElem?_eq_some_iff.mp hy).1
        simp only [List.length_append, List.length_cons, List.length_nil] at this
        omega
      subst he
      rw [List.getElem?_append_right (Nat.le_refl _), Nat.sub_self] at hy
      cases hy
      simp (disch := omega) only [gSI_eq, gSI_ne, x1, x2, x3, and_self]
  · refine SU_same hs' (fun k hk => ?_)
    rw [gSI_nj (by omega)]
    simp (disch := omega) only [gSI_ne]
  · exact ((((Fr.si (by omega) (by omega)).tr (Fr.si (by omega) (by omega))).tr (Fr.si (by omega) (by omega))).tr (Fr.si (by omega) (by omega))).tr (Fr.si (by omega) (by omega))
