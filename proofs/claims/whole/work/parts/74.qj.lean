/-! when best to join: a join besides, of kind nine -/
def wA (v : gCt) (p q y : Nat) : gCt := fun k i => if k = 0 then (if i = 8 then v 0 8 + 1 else v 0 i) else if i = v 0 8 ∧ k = 10 then p else if i = v 0 8 ∧ k = 11 then q else if i = v 0 8 ∧ k = 12 then y else if i = v 0 8 ∧ k = 13 then 9 else v k i
section
variable {v : gCt} {p q y : Nat}
theorem wA_8 : wA v p q y 0 8 = v 0 8 + 1 := rfl
theorem wA_0 {i : Nat} (h : i ≠ 8) : wA v p q y 0 i = v 0 i := by
  show (if i = 8 then _ else _) = _
  exact if_neg h
theorem wA_k {k i : Nat} (h0 : k ≠ 0) (h : k < 10 ∨ i ≠ v 0 8) : wA v p q y k i = v k i := by
  unfold wA
  rw [if_neg h0, if_neg (by omega), if_neg (by omega), if_neg (by omega), if_neg (by omega)]
theorem wA_10 : wA v p q y 10 (v 0 8) = p := by
  unfold wA
  rw [if_neg (by decide), if_pos ⟨rfl, rfl⟩]
theorem wA_11 : wA v p q y 11 (v 0 8) = q := by
  unfold wA
  rw [if_neg (by decide), if_neg (fun h => absurd h.2 (by decide)), if_pos ⟨rfl, rfl⟩]
theorem wA_12 : wA v p q y 12 (v 0 8) = y := by
  unfold wA
  rw [if_neg (by decide), if_neg (fun h => absurd h.2 (by decide)), if_neg (fun h => absurd h.2 (by decide)), if_pos ⟨rfl, rfl⟩]
theorem wA_13 : wA v p q y 13 (v 0 8) = 9 := by
  unfold wA
  rw [if_neg (by decide), if_neg (fun h => absurd h.2 (by decide)), if_neg (fun h => absurd h.2 (by decide)), if_neg (fun h => absurd h.2 (by decide)), if_pos ⟨rfl, rfl⟩]
theorem wA_pr {k : Nat} (hk : k < v 0 8) (a b fr bb : Nat) : cutsIt (wA v p q y) a b fr bb k = cutsIt v a b fr bb k := by
  unfold cutsIt isPr
  rw [wA_k (by decide) (Or.inr (by omega)), wA_k (by decide) (Or.inr (by omega)), wA_k (by decide) (Or.inr (by omega)), wA_k (by decide) (Or.inr (by omega))]
theorem wA_cut (a b fr bb : Nat) : ∀ k, k ≤ v 0 8 → cutY (wA v p q y) a b fr bb k = cutY v a b fr bb k := by
  intro k
  induction k with
  | zero => intro _; rfl
  | succ k ih =>
    intro hk
    rw [cutY, cutY, wA_pr (by omega), ih (by omega), wA_k (by decide) (Or.inr (by omega))]
theorem wA_cut8 (a b fr bb : Nat) : cutY (wA v p q y) a b fr bb (wA v p q y 0 8) = cutY v a b fr bb (v 0 8) := by
  rw [wA_8, cutY, wA_cut a b fr bb _ (Nat.le_refl _)]
  have : cutsIt (wA v p q y) a b fr bb (v 0 8) = false := by unfold cutsIt; rw [wA_13]; rfl
  rw [this, if_neg (by decide)]
theorem wA_mk (u : gSp) (a b fr un bb : Nat) : mkJ (wA v p q y) u a b fr un bb = mkJ v u a b fr un bb := by
  unfold mkJ
  rw [wA_cut8]
theorem cut_far (a b fr c : Nat) : ∀ k, k ≤ c → c ≤ 1000 → cutY v a b fr c k = cutY v a b fr 1000 k := by
  intro k
  induction k with
  | zero => intro _ _; rfl
  | succ k ih =>
    intro hk hc
    rw [cutY, cutY, ih (by omega) hc]
    have : cutsIt v a b fr c k = cutsIt v a b fr 1000 k := by
      unfold cutsIt
      rw [decide_eq_false (show ¬ c ≤ k by omega), decide_eq_false (show ¬ 1000 ≤ k by omega)]
    rw [this]
theorem wA_glT (u : gSp) : ∀ k, glT (wA v p q y) u k = glT v u k := by
  intro k
  induction k with
  | zero => rfl
  | succ k ih => rw [glT, glT, ih, wA_mk, wA_k (by decide) (Or.inl (by decide)), wA_k (by decide) (Or.inl (by decide)), wA_k (by decide) (Or.inl (by decide))]
theorem wA_glA (u : gSp) : ∀ k, k ≤ v 0 8 → glA (wA v p q y) u k = glA v u k := by
  intro k
  induction k with
  | zero => intro _; rw [glA, glA, wA_glT, wA_0 (by decide)]
  | succ k ih =>
    intro hk
    rw [glA, glA, ih (by omega), wA_mk, wA_k (by decide) (Or.inr (by omega)), wA_k (by decide) (Or.inr (by omega)), wA_k (by decide) (Or.inr (by omega)), wA_k (by decide) (Or.inr (by omega))]
theorem wA_gl (h : v 0 8 ≤ 30) : gl (wA v p q y) u0 = gl v u0 ++ [mkJ v u0 p q y (y + 9) 1000] := by
  unfold gl
  have e1 : u0 1 0 = false := rfl
  rw [e1, if_neg (by decide), if_neg (by decide), wA_8, glA, wA_13, if_neg (by decide), wA_glA _ _ (Nat.le_refl _), wA_mk, wA_10, wA_11, wA_12]
  congr 2
  unfold mkJ
  have : cutY v p q y (v 0 8 + 1) (v 0 8) = cutY v p q y 1000 (v 0 8) := cut_far p q y _ _ (by omega) (by omega)
  rw [this]
theorem wA_WF (hv : gWF v) (h : v 0 8 ≤ 30) (hp : p < v 0 4) (hq : q < v 0 4) (hpq : p ≠ q) (hy : y < v 0 0) : gWF (wA v p q y) := by
  obtain ⟨h0, h1, h2, h3, h4, h5⟩ := hv
  unfold gWF
  rw [wA_8, wA_0 (i := 0) (by decide), wA_0 (i := 1) (by decide), wA_0 (i := 2) (by decide), wA_0 (i := 3) (by decide), wA_0 (i := 4) (by decide), wA_0 (i := 5) (by decide), wA_0 (i := 6) (by decide), wA_0 (i := 7) (by decide), wA_0 (i := 9) (by decide)]
  have e : ∀ k i, k ≠ 0 → k < 10 → wA v p q y k i = v k i := fun k i a b => wA_k a (Or.inl b)
  refine ⟨by omega, fun i hi => ?_, fun i hi => ?_, fun i hi => ?_, fun i hi => ?_, fun i hi => ?_⟩
  · rw [e 1 i (by decide) (by decide), e 2 i (by decide) (by decide), e 3 i (by decide) (by decide)]; exact h1 i hi
  · rw [e 4 i (by decide) (by decide), e 5 i (by decide) (by decide), e 6 i (by decide) (by decide)]; exact h2 i hi
  · rw [e 7 i (by decide) (by decide)]; exact h3 i hi
  · rw [e 8 i (by decide) (by decide), e 9 i (by decide) (by decide)]; exact h4 i hi
  · by_cases c : i = v 0 8
    · subst c
      rw [wA_10, wA_11, wA_12, wA_13]
      exact ⟨hp, hq, hpq, hy, by decide⟩
    · rw [wA_k (by decide) (Or.inr c), wA_k (by decide) (Or.inr c), wA_k (by decide) (Or.inr c), wA_k (by decide) (Or.inr c)]
      exact h5 i (by omega)
theorem wA_WV (hv : gWF v) (h : v 0 8 ≤ 30) (hp : p < v 0 4) (hq : q < v 0 4) (hpq : p ≠ q) (hy : y < v 0 0) : WV v (wA v p q y) u0 [mkJ v u0 p q y (y + 9) 1000] :=
  ⟨wA_WF hv h hp hq hpq hy, wA_gl h, fun k i hk hn => by
    by_cases c : k = 0
    · subst c; exact wA_0 (fun e => hn ⟨rfl, e⟩)
    · exact wA_k c (Or.inl hk)⟩
end
/-- what both are worth at last, with the join besides -/
def whO (v : gCt) (p q : Nat) : Int32 := woY v u0 (v 0 0 - 1) p + woY v u0 (v 0 0 - 1) q
theorem M_both {N : gMem} {v w : gCt} {p q : Nat} (ha : RA N v) (hv : gWF v) (hm : MV N w u0 (v 0 0)) (h4 : w 0 4 = v 0 4) (h0 : w 0 0 = v 0 0) (hy : 0 < v 0 0) (hp : p < v 0 4) (hq : q < v 0 4) : fX9_bothAtLast (nI p) (nI q) N = some (whO w p q) := by
  have hv0 := hv.1
  have e : ∀ o, o < v 0 4 → (12 : Int32) * nI o + nI (v 0 0) - 1 = nI (12 * o + (v 0 0 - 1)) := fun o ho => by
    rw [li12, pk_mul, nI_add, show (1 : Int32) = nI 1 from rfl, pk_sub (by omega)]
    congr 1; omega
  have hw : ∀ o, o < v 0 4 → N.1 158 (12 * o + (v 0 0 - 1)) = woY w u0 (v 0 0 - 1) o := fun o ho => (hm.1 o (by omega)).2.2 _ (by omega) (by omega)
  unfold fX9_bothAtLast fX9_bothAtLast_0 whO
  rw [F_years ha, gB0_some, gB0_some, e p hp, e q hq, ix158 (by omega), if_pos rfl, ix158 (by omega), if_pos rfl, nI_clamp (by omega), nI_clamp (by omega), hw p hp, hw q hq, h0]
