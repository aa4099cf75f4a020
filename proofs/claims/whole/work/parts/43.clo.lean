/-! Whom one comes to: sets that grow, and stand still. -/
def cnU : Nat → (Nat → Bool) → Nat
  | 0, _ => 0
  | n + 1, f => cnU n f + (if f n = true then 1 else 0)
theorem cnU_s (n : Nat) (f : Nat → Bool) : cnU (n + 1) f = cnU n f + (if f n = true then 1 else 0) := rfl
theorem cnU_le (n : Nat) (f : Nat → Bool) : cnU n f ≤ n := by
  induction n with
  | zero => exact Nat.le_refl _
  | succ n ih => rw [cnU]; split <;> omega
theorem cnU_mono {n : Nat} {f g : Nat → Bool} (h : ∀ k, k < n → f k = true → g k = true) : cnU n f ≤ cnU n g := by
  induction n with
  | zero => exact Nat.le_refl _
  | succ n ih =>
    rw [cnU, cnU]
    have := ih (fun k hk => h k (by omega))
    by_cases e : f n = true
    · rw [if_pos e, if_pos (h n (by omega) e)]; omega
    · rw [if_neg e]; omega
theorem cnU_ext {n : Nat} {f g : Nat → Bool} (h : ∀ k, k < n → f k = g k) : cnU n f = cnU n g := by
  induction n with
  | zero => rfl
  | succ n ih => rw [cnU, cnU, ih (fun k hk => h k (by omega)), h n (by omega)]
theorem cnU_lt {n : Nat} {f g : Nat → Bool} (h : ∀ k, k < n → f k = true → g k = true) {j : Nat} (hj : j < n) (h1 : f j = false) (h2 : g j = true) : cnU n f < cnU n g := by
  induction n with
  | zero => exact absurd hj (Nat.not_lt_zero j)
  | succ n ih =>
    rw [cnU, cnU]
    by_cases e : j = n
    · subst e
      have := cnU_mono (n := j) (fun k hk => h k (by omega))
      rw [h1, h2, if_neg (by simp), if_pos rfl]
      omega
    · have := ih (fun k hk => h k (by omega)) (by omega)
      by_cases e : f n = true
      · rw [if_pos e, if_pos (h n (by omega) e)]; omega
      · rw [if_neg e]; omega
theorem cnU_full {n : Nat} {f : Nat → Bool} (h : n ≤ cnU n f) : ∀ k, k < n → f k = true := by
  intro k hk
  by_cases e : f k = true
  · exact e
  · have := cnU_lt (f := f) (g := fun _ => true) (fun _ _ _ => rfl) hk (by simpa using e) rfl
    have := cnU_le n (fun _ => true)
    omega
theorem cnU_up {n m : Nat} (h : n ≤ m) {f : Nat → Bool} (h0 : ∀ k, n ≤ k → k < m → f k = false) : cnU m f = cnU n f := by
  induction m with
  | zero => rw [show n = 0 by omega]
  | succ m ih =>
    by_cases e : n = m + 1
    · rw [e]
    · rw [cnU, h0 m (by omega) (by omega), if_neg (by simp), ih (by omega) (fun k h1 h2 => h0 k h1 (by omega))]
      rfl
theorem clo_s (ti : Nat → Nat → Bool) (f : Nat → Bool) (k q : Nat) : clo ti f (k + 1) q = (clo ti f k q || anyU 6 (fun a => clo ti f k a && ti a q)) := rfl
theorem clo_up {ti : Nat → Nat → Bool} {f : Nat → Bool} {k q : Nat} (m : Nat) (h : clo ti f k q = true) : clo ti f (k + m) q = true := by
  induction m with
  | zero => exact h
  | succ m ih => rw [show k + (m + 1) = k + m + 1 from rfl, clo_s, ih, Bool.true_or]
theorem clo_ext {ti ti2 : Nat → Nat → Bool} {f f2 : Nat → Bool} (hf : ∀ q, q < 6 → f q = f2 q) (ht : ∀ a q, a < 6 → q < 6 → ti a q = ti2 a q) : ∀ k q, q < 6 → clo ti f k q = clo ti2 f2 k q := by
  intro k
  induction k with
  | zero => exact hf
  | succ k ih =>
    intro q hq
    rw [clo_s, clo_s, ih q hq]
    congr 1
    exact anyU_ext (fun a ha => by rw [ih a ha, ht a q ha hq])
/-- standing still once is standing still -/
theorem clo_st {ti : Nat → Nat → Bool} {f : Nat → Bool} {k : Nat} (h : ∀ q, q < 6 → clo ti f (k + 1) q = clo ti f k q) (m : Nat) : ∀ q, q < 6 → clo ti f (k + m) q = clo ti f k q := by
  induction m with
  | zero => exact fun _ _ => rfl
  | succ m ih =>
    intro q hq
    rw [show k + (m + 1) = k + m + 1 from rfl, clo_s, ih q hq, ← h q hq, clo_s]
    have e : anyU 6 (fun a => clo ti f (k + m) a && ti a q) = anyU 6 (fun a => clo ti f k a && ti a q) := anyU_ext (fun a ha => by rw [ih a ha])
    rw [e, Bool.or_assoc, Bool.or_self]
theorem clo_in {ti : Nat → Nat → Bool} {f : Nat → Bool} {n : Nat} (hf : ∀ q, q < 6 → f q = true → q < n) (ht : ∀ a q, a < 6 → q < 6 → ti a q = true → q < n) : ∀ k q, q < 6 → clo ti f k q = true → q < n := by
  intro k
  induction k with
  | zero => exact hf
  | succ k ih =>
    intro q hq h
    rw [clo_s, Bool.or_eq_true, anyU_iff] at h
    rcases h with h | ⟨a, ha, h⟩
    · exact ih q hq h
    · rw [Bool.and_eq_true] at h
      exact ht a q ha hq h.2
/-- n of them: after n less 1 steps it stands still -/
theorem clo_n {ti : Nat → Nat → Bool} {f : Nat → Bool} {n : Nat} (hn : n + 1 ≤ 6) (hf : ∀ q, q < 6 → f q = true → q < n + 1) (ht : ∀ a q, a < 6 → q < 6 → ti a q = true → q < n + 1) (h1 : 1 ≤ cnU 6 f) : ∀ q, q < 6 → clo ti f (n + 1) q = clo ti f n q := by
  have hin := clo_in hf ht
  have key : ∀ k, (∃ j, j < k ∧ ∀ q, q < 6 → clo ti f (j + 1) q = clo ti f j q) ∨ k + 1 ≤ cnU 6 (clo ti f k) := by
    intro k
    induction k with
    | zero => exact Or.inr h1
    | succ k ih =>
      rcases ih with ⟨j, hj, h⟩ | h
      · exact Or.inl ⟨j, by omega, h⟩
      · by_cases hs : ∀ q, q < 6 → clo ti f (k + 1) q = clo ti f k q
        · exact Or.inl ⟨k, by omega, hs⟩
        · refine Or.inr ?_
          have : ∃ q, q < 6 ∧ ¬ clo ti f (k + 1) q = clo ti f k q := by
            refine Classical.byContradiction (fun g => hs (fun q hq => ?_))
            exact Classical.byContradiction (fun e => g ⟨q, hq, e⟩)
          obtain ⟨q, hq, hne⟩ := this
          have m1 : ∀ a, a < 6 → clo ti f k a = true → clo ti f (k + 1) a = true := fun a _ h => clo_up 1 h
          have e1 : clo ti f k q = false := by
            cases hc : clo ti f k q
            · rfl
            · exact absurd ((m1 q hq hc).trans hc.symm) hne
          have e2 : clo ti f (k + 1) q = true := by
            cases hc : clo ti f (k + 1) q
            · exact absurd (hc.trans e1.symm) hne
            · rfl
          have := cnU_lt m1 hq e1 e2
          omega
  rcases key n with ⟨j, hj, h⟩ | h
  · intro q hq
    have a1 := clo_st h (n - j) q hq
    have a2 := clo_st h (n + 1 - j) q hq
    rw [show j + (n - j) = n by omega] at a1
    rw [show j + (n + 1 - j) = n + 1 by omega] at a2
    rw [a1, a2]
  · have hup : cnU 6 (clo ti f n) = cnU (n + 1) (clo ti f n) := cnU_up hn (fun k k1 k2 => by
      cases hc : clo ti f n k
      · rfl
      · have := hin n k k2 hc; omega)
    rw [hup] at h
    have hfull := cnU_full h
    intro q hq
    cases hc : clo ti f (n + 1) q
    · cases hc2 : clo ti f n q
      · rfl
      · have := clo_up 1 hc2; rw [hc] at this; cases this
    · rw [hfull q (hin _ q hq hc)]
theorem clo_6 {ti : Nat → Nat → Bool} {f : Nat → Bool} (h1 : 1 ≤ cnU 6 f) (m : Nat) : ∀ q, q < 6 → clo ti f (5 + m) q = clo ti f 5 q :=
  clo_st (clo_n (n := 5) (by omega) (fun q h _ => h) (fun a q _ h _ => h) h1) m
theorem one_cn {p : Nat} (hp : p < 6) : 1 ≤ cnU 6 (fun q => decide (q = p)) := by
  have := cnU_lt (n := 6) (f := fun _ => false) (g := fun q => decide (q = p)) (fun _ _ h => by cases h) hp rfl (by simp)
  omega
theorem fmO_self (ti : Nat → Nat → Bool) (p : Nat) : fmO ti p p = true := by
  have : clo ti (fun q => decide (q = p)) 0 p = true := by show decide (p = p) = true; simp
  exact clo_up 6 this
theorem fmO_cl {ti : Nat → Nat → Bool} {p a q : Nat} (hp : p < 6) (ha : a < 6) (hq : q < 6) (h : fmO ti p a = true) (ht : ti a q = true) : fmO ti p q = true := by
  have e : fmO ti p q = clo ti (fun q => decide (q = p)) 7 q := by
    unfold fmO
    rw [clo_6 (one_cn hp) 1 q hq, clo_6 (one_cn hp) 2 q hq]
  rw [e, clo_s, Bool.or_eq_true, anyU_iff]
  exact Or.inr ⟨a, ha, by rw [Bool.and_eq_true]; exact ⟨h, ht⟩⟩
theorem clo_least {ti : Nat → Nat → Bool} {f S : Nat → Bool} (h0 : ∀ q, q < 6 → f q = true → S q = true) (hS : ∀ a q, a < 6 → q < 6 → S a = true → ti a q = true → S q = true) : ∀ k q, q < 6 → clo ti f k q = true → S q = true := by
  intro k
  induction k with
  | zero => exact h0
  | succ k ih =>
    intro q hq h
    rw [clo_s, Bool.or_eq_true, anyU_iff] at h
    rcases h with h | ⟨a, ha, h⟩
    · exact ih q hq h
    · rw [Bool.and_eq_true] at h
      exact hS a q ha hq (ih a ha h.1) h.2
theorem fmO_least {ti : Nat → Nat → Bool} {p : Nat} {S : Nat → Bool} (h0 : S p = true) (hS : ∀ a q, a < 6 → q < 6 → S a = true → ti a q = true → S q = true) {q : Nat} (hq : q < 6) (h : fmO ti p q = true) : S q = true :=
  clo_least (fun q _ h => by rw [of_decide_eq_true h]; exact h0) hS 6 q hq h
theorem fmO_tr {ti : Nat → Nat → Bool} {p q r : Nat} (hp : p < 6) (hr : r < 6) (h1 : fmO ti p q = true) (h2 : fmO ti q r = true) : fmO ti p r = true :=
  fmO_least h1 (fun _ _ ha hq h ht => fmO_cl hp ha hq h ht) hr h2
theorem fmO_sy {ti : Nat → Nat → Bool} (hsy : ∀ a q, ti a q = ti q a) {p q : Nat} (hp : p < 6) (hq : q < 6) (h : fmO ti p q = true) : fmO ti q p = true := by
  refine fmO_least (S := fun x => fmO ti x p) (fmO_self ti p) (fun a x ha hx hS ht => ?_) hq h
  have h1 : fmO ti x a = true := fmO_cl hx hx ha (fmO_self ti x) (by rw [hsy]; exact ht)
  exact fmO_tr hx hp h1 hS
theorem fmO_eq {ti : Nat → Nat → Bool} (hsy : ∀ a q, ti a q = ti q a) {p q : Nat} (hp : p < 6) (hq : q < 6) (h : fmO ti p q = true) : ∀ r, r < 6 → fmO ti p r = fmO ti q r := by
  intro r hr
  have hs := fmO_sy hsy hp hq h
  cases h1 : fmO ti p r
  · cases h2 : fmO ti q r
    · rfl
    · rw [fmO_tr hp hr h h2] at h1; cases h1
  · exact (fmO_tr hq hr hs h1).symm
theorem fmO_out {ti : Nat → Nat → Bool} {p q : Nat} (hp : p < 6) (hq : q < 6) (h0 : ∀ a, a < 6 → ti p a = false) (h : fmO ti p q = true) : q = p := by
  have := fmO_least (S := fun x => decide (x = p)) (ti := ti) (p := p) (by simp) (fun a x ha hx hS ht => by
    have e := of_decide_eq_true hS
    subst e
    rw [h0 x hx] at ht; cases ht) hq h
  exact of_decide_eq_true this
theorem fmO_ext {ti ti2 : Nat → Nat → Bool} (ht : ∀ a q, a < 6 → q < 6 → ti a q = ti2 a q) (p : Nat) : ∀ q, q < 6 → fmO ti p q = fmO ti2 p q := clo_ext (fun _ _ => rfl) ht 6
