/-! snips: the fewest joins, the least wax -/
theorem leC_spec {cn : Nat → Nat} {ok : Nat → Bool} : ∀ {n b : Nat}, leC cn ok n = some b ↔ (b < n ∧ ok b = true ∧ (∀ k, k < n → ok k = true → cn b ≤ cn k) ∧ ∀ k, k < b → ok k = true → cn b < cn k) := by
  have fwd : ∀ n b, leC cn ok n = some b → (b < n ∧ ok b = true ∧ (∀ k, k < n → ok k = true → cn b ≤ cn k) ∧ ∀ k, k < b → ok k = true → cn b < cn k) := by
    have none_no : ∀ n, leC cn ok n = none → ∀ k, k < n → ok k = false := by
      intro n
      induction n with
      | zero => intro _ k hk; exact absurd hk (Nat.not_lt_zero k)
      | succ n ih =>
        intro h k hk
        rw [leC_s] at h
        cases hc : leC cn ok n with
        | none =>
          rw [hc] at h
          have h : (if ok n = true then some n else none) = none := h
          by_cases e : k = n
          · subst e
            cases ho : ok k
            · rfl
            · rw [ho] at h; cases h
          · exact ih hc k (by omega)
        | some j =>
          rw [hc] at h
          have h : (if cn n < cn j ∧ ok n = true then some n else some j) = none := h
          split at h <;> cases h
    intro n
    induction n with
    | zero => intro b h; cases h
    | succ n ih =>
      intro b h
      rw [leC_s] at h
      cases hc : leC cn ok n with
      | none =>
        rw [hc] at h
        have h : (if ok n = true then some n else none) = some b := h
        split at h
        · next e =>
          cases h
          have hn := none_no n hc
          refine ⟨by omega, e, fun k hk hok => ?_, fun k hk hok => ?_⟩
          · by_cases e2 : k = n
            · rw [e2]; exact Nat.le_refl _
            · rw [hn k (by omega)] at hok; cases hok
          · rw [hn k (by omega)] at hok; cases hok
        · cases h
      | some j =>
        rw [hc] at h
        obtain ⟨j1, j2, j3, j4⟩ := ih j hc
        have h : (if cn n < cn j ∧ ok n = true then some n else some j) = some b := h
        split at h
        · next e =>
          cases h
          refine ⟨by omega, e.2, fun k hk hok => ?_, fun k hk hok => ?_⟩
          · by_cases e2 : k = n
            · rw [e2]; exact Nat.le_refl _
            · have := j3 k (by omega) hok; omega
          · have := j3 k (by omega) hok; omega
        · next e =>
          cases h
          refine ⟨by omega, j2, fun k hk hok => ?_, j4⟩
          by_cases e2 : k = n
          · subst e2
            exact Nat.not_lt.mp (fun hlt => e ⟨hlt, hok⟩)
          · exact j3 k (by omega) hok
  intro n b
  refine ⟨fwd n b, fun ⟨h1, h2, h3, h4⟩ => ?_⟩
  cases hc : leC cn ok n with
  | none =>
    exfalso
    have : ∀ n, leC cn ok n = none → ∀ k, k < n → ok k = false := by
      intro n
      induction n with
      | zero => intro _ k hk; exact absurd hk (Nat.not_lt_zero k)
      | succ n ih =>
        intro h k hk
        rw [leC_s] at h
        cases hc : leC cn ok n with
        | none =>
          rw [hc] at h
          have h : (if ok n = true then some n else none) = none := h
          by_cases e : k = n
          · subst e
            cases ho : ok k
            · rfl
            · rw [ho] at h; cases h
          · exact ih hc k (by omega)
        | some j =>
          rw [hc] at h
          have h : (if cn n < cn j ∧ ok n = true then some n else some j) = none := h
          split at h <;> cases h
    rw [this n hc b h1] at h2; cases h2
  | some j =>
    obtain ⟨j1, j2, j3, j4⟩ := fwd n j hc
    rcases Nat.lt_trichotomy j b with e | e | e
    · have := h4 j e j2
      have := j3 b h1 h2
      omega
    · rw [e]
    · have := j4 b e h2
      have := h3 j j1 j2
      omega
/-- looking at some sets alone finds the same, when each other one has a lesser one among them -/
theorem leC_sub {cn : Nat → Nat} {ok sub : Nat → Bool} {n : Nat} (h : ∀ c, c < n → ok c = true → sub c = false → ∃ d, d < n ∧ ok d = true ∧ sub d = true ∧ cn d < cn c) : leC cn (fun c => sub c && ok c) n = leC cn ok n := by
  cases hc : leC cn ok n with
  | some b =>
    obtain ⟨b1, b2, b3, b4⟩ := leC_spec.mp hc
    refine leC_spec.mpr ⟨b1, ?_, fun k hk hok => ?_, fun k hk hok => ?_⟩
    · cases hs : sub b
      · obtain ⟨d, d1, d2, d3, d4⟩ := h b b1 b2 hs
        have := b3 d d1 d2; omega
      · rw [b2]; rfl
    · rw [Bool.and_eq_true] at hok
      exact b3 k hk hok.2
    · rw [Bool.and_eq_true] at hok
      exact b4 k hk hok.2
  | none =>
    cases hd : leC cn (fun c => sub c && ok c) n with
    | none => rfl
    | some b =>
      obtain ⟨b1, b2, -, -⟩ := leC_spec.mp hd
      rw [Bool.and_eq_true] at b2
      have : ∃ j, leC cn ok n = some j := by
        have key : ∀ n b, b < n → ok b = true → ∃ j, leC cn ok n = some j := by
          intro n
          induction n with
          | zero => intro b hb; exact absurd hb (Nat.not_lt_zero b)
          | succ n ih =>
            intro b hb hok
            rw [leC_s]
            cases hc : leC cn ok n with
            | none =>
              by_cases e : b = n
              · subst e; exact ⟨b, if_pos hok⟩
              · obtain ⟨j, hj⟩ := ih b (by omega) hok
                rw [hj] at hc; cases hc
            | some j =>
              show ∃ i, (if cn n < cn j ∧ ok n = true then some n else some j) = some i
              split
              · exact ⟨_, rfl⟩
              · exact ⟨_, rfl⟩
        exact key n b b1 b2.2
      obtain ⟨j, hj⟩ := this
      rw [hj] at hc; cases hc
/-- the least of a number over sets -/
def mnW (w : Nat → Nat) (ok : Nat → Bool) : Nat → Option Nat
  | 0 => none
  | n + 1 => match mnW w ok n with
    | none => if ok n = true then some (w n) else none
    | some m => if w n < m ∧ ok n = true then some (w n) else some m
theorem mnW_s (w : Nat → Nat) (ok : Nat → Bool) (n : Nat) : mnW w ok (n + 1) = match mnW w ok n with
    | none => if ok n = true then some (w n) else none
    | some m => if w n < m ∧ ok n = true then some (w n) else some m := rfl
theorem mnW_none {w : Nat → Nat} {ok : Nat → Bool} : ∀ {n : Nat}, mnW w ok n = none ↔ ∀ k, k < n → ok k = false := by
  intro n
  induction n with
  | zero => exact ⟨fun _ k hk => absurd hk (Nat.not_lt_zero k), fun _ => rfl⟩
  | succ n ih =>
    rw [mnW_s]
    cases hc : mnW w ok n with
    | none =>
      have h' := ih.mp hc
      show (if ok n = true then some (w n) else none) = none ↔ _
      refine ⟨fun h k hk => ?_, fun h => by rw [h n (by omega)]; rfl⟩
      by_cases e : k = n
      · subst e
        cases ho : ok k
        · rfl
        · rw [ho] at h; cases h
      · exact h' k (by omega)
    | some m =>
      refine ⟨fun h => ?_, fun h => ?_⟩
      · have h : (if w n < m ∧ ok n = true then some (w n) else some m) = none := h
        split at h <;> cases h
      · rw [ih.mpr (fun k hk => h k (by omega))] at hc; cases hc
theorem mnW_some {w : Nat → Nat} {ok : Nat → Bool} : ∀ {n m : Nat}, mnW w ok n = some m → (∃ k, k < n ∧ ok k = true ∧ w k = m) ∧ ∀ k, k < n → ok k = true → m ≤ w k := by
  intro n
  induction n with
  | zero => intro m h; cases h
  | succ n ih =>
    intro m h
    rw [mnW_s] at h
    cases hc : mnW w ok n with
    | none =>
      have hn := mnW_none.mp hc
      rw [hc] at h
      have h : (if ok n = true then some (w n) else none) = some m := h
      split at h
      · next e =>
        cases h
        refine ⟨⟨n, by omega, e, rfl⟩, fun k hk hok => ?_⟩
        by_cases e2 : k = n
        · rw [e2]; exact Nat.le_refl _
        · rw [hn k (by omega)] at hok; cases hok
      · cases h
    | some j =>
      obtain ⟨⟨k0, a1, a2, a3⟩, a4⟩ := ih hc
      rw [hc] at h
      have h : (if w n < j ∧ ok n = true then some (w n) else some j) = some m := h
      split at h
      · next e =>
        cases h
        refine ⟨⟨n, by omega, e.2, rfl⟩, fun k hk hok => ?_⟩
        by_cases e2 : k = n
        · rw [e2]; exact Nat.le_refl _
        · have := a4 k (by omega) hok; omega
      · next e =>
        cases h
        refine ⟨⟨k0, by omega, a2, a3⟩, fun k hk hok => ?_⟩
        by_cases e2 : k = n
        · subst e2
          exact Nat.not_lt.mp (fun hlt => e ⟨hlt, hok⟩)
        · exact a4 k (by omega) hok
theorem mnW_sub {w : Nat → Nat} {ok sub : Nat → Bool} {n : Nat} (h : ∀ c, c < n → ok c = true → sub c = false → ∃ d, d < n ∧ ok d = true ∧ sub d = true ∧ w d ≤ w c) : mnW w (fun c => sub c && ok c) n = mnW w ok n := by
  cases hc : mnW w ok n with
  | none =>
    have hn := mnW_none.mp hc
    exact mnW_none.mpr (fun k hk => by rw [hn k hk, Bool.and_false])
  | some m =>
    obtain ⟨⟨k, a1, a2, a3⟩, a4⟩ := mnW_some hc
    have hex : ∃ d, d < n ∧ ok d = true ∧ sub d = true ∧ w d ≤ w k := by
      cases hs : sub k
      · exact h k a1 a2 hs
      · exact ⟨k, a1, a2, hs, Nat.le_refl _⟩
    obtain ⟨d, d1, d2, d3, d4⟩ := hex
    cases hd : mnW w (fun c => sub c && ok c) n with
    | none => have := mnW_none.mp hd d d1; simp only [d2, d3] at this; cases this
    | some m2 =>
      obtain ⟨⟨k2, b1, b2, b3⟩, b4⟩ := mnW_some hd
      rw [Bool.and_eq_true] at b2
      have e1 := a4 k2 b1 b2.2
      have e2 := b4 d d1 (by simp [d2, d3])
      congr 1
      omega
/-! year 0 -/
theorem smI_su {n : Nat} {f : Nat → Bool} {w : Nat → Nat} : smI n f (fun p => nI (w p)) = nI (suU n f w) := by
  induction n with
  | zero => rfl
  | succ n ih =>
    rw [smI, suU, ih]
    by_cases h : f n = true
    · rw [if_pos h, if_pos h, nI_add]
    · rw [if_neg h, if_neg h]; rfl
theorem go_y0 {v : gCt} (hv : gWF v) (u : gSp) (p : Nat) : goY v u 0 p = false := by
  have hv0 := hv.1
  rw [goY_eq]
  show (false || faO v u 0 (go0 v u 0) (woY v u 0) p) = false
  rw [Bool.false_or]
  unfold faO
  by_cases hp : p < v 0 4
  · have e : smI 6 (fmO (tiO (gl v u) 0 (go0 v u 0)) p) (woY v u 0) = nI (suU (v 0 4) (fmO (tiO (gl v u) 0 (go0 v u 0)) p) (v 2)) := by
      rw [woY_0, smI_up (n := v 0 4) (by omega) (fun k k1 k2 => by
        cases hc : fmO (tiO (gl v u) 0 (go0 v u 0)) p k
        · rfl
        · have := fm_lt (gl_ok hv u) hp k2 hc; omega)]
      exact smI_su
    have hle := suU_le (n := v 0 4) (k := 99) (f := fmO (tiO (gl v u) 0 (go0 v u 0)) p) (w := v 2) (fun q hq => (hv.2.1 q hq).2.2.1)
    rw [e, decide_eq_false (nI_pos (by omega)), Bool.and_false, Bool.and_false]
  · rw [decide_eq_false hp, Bool.false_and]
theorem tiY_0 {v : gCt} (hv : gWF v) (u : gSp) : tiY v u 0 = tiO (gl v u) 0 (fun _ => false) := by
  rw [tiY_eq]
  have : goY v u 0 = fun _ => false := funext (go_y0 hv u)
  rw [this]
/-- false joins that hold no more in year y anyhow make no odds -/
theorem tiO_false {v : gCt} {f g : Nat → Bool} {y : Nat} (h : ∀ k, k < v 0 5 → inFo y (tj v (uS 0 f) k) = inFo y (tj v (uS 0 g) k)) (aw : Nat → Bool) (p q : Nat) : tiO (gl v (uS 0 f)) y aw p q = tiO (gl v (uS 0 g)) y aw p q := by
  have hT : ∀ n, n ≤ v 0 5 → tiO (glT v (uS 0 f) n) y aw p q = tiO (glT v (uS 0 g) n) y aw p q := by
    intro n
    induction n with
    | zero => intro _; rfl
    | succ n ih =>
      intro hn
      unfold tiO at ih ⊢
      rw [glT, glT, List.any_append, List.any_append, ih (by omega)]
      congr 1
      have e := h n (by omega)
      show List.any [tj v (uS 0 f) n] _ = List.any [tj v (uS 0 g) n] _
      rw [List.any_cons, List.any_cons, List.any_nil, e]
      rfl
  have hA : ∀ n, tiO (glA v (uS 0 f) n) y aw p q = tiO (glA v (uS 0 g) n) y aw p q := by
    intro n
    induction n with
    | zero => exact hT _ (Nat.le_refl _)
    | succ n ih =>
      rw [glA, glA]
      by_cases c : v 13 n = 0
      · rw [if_pos c, if_pos c]; exact ih
      · rw [if_neg c, if_neg c]
        unfold tiO at ih ⊢
        rw [List.any_append, List.any_append, ih]
        rfl
  unfold gl
  have e1 : uS 0 f 1 0 = false := rfl
  have e2 : uS 0 g 1 0 = false := rfl
  rw [e1, e2, if_neg (by simp), if_neg (by simp)]
  exact hA _
theorem inFo_tj (v : gCt) (f : Nat → Bool) (k y : Nat) : inFo y (tj v (uS 0 f) k) = (!f k && inFo y (tj v u0 k)) := by
  have e4 : ∀ p, uS 0 f 4 p = false := fun _ => rfl
  have e1 : uS 0 f 1 0 = false := rfl
  have e0 : uS 0 f 0 k = f k := rfl
  have d4 : ∀ p, u0 4 p = false := fun _ => rfl
  have d1 : u0 1 0 = false := rfl
  have d0 : u0 0 k = false := rfl
  unfold inFo tj mkJ
  show (decide (0 ≤ y) && decide (y < if uS 0 f 4 (v 4 k) = true ∨ uS 0 f 4 (v 5 k) = true then 0 else if uS 0 f 1 0 = true then (if uS 0 f 0 k = true then 0 else v 6 k) else min (if uS 0 f 0 k = true then 0 else v 6 k) (cutY v (v 4 k) (v 5 k) 0 0 (v 0 8)))) = (!f k && (decide (0 ≤ y) && decide (y < if u0 4 (v 4 k) = true ∨ u0 4 (v 5 k) = true then 0 else if u0 1 0 = true then (if u0 0 k = true then 0 else v 6 k) else min (if u0 0 k = true then 0 else v 6 k) (cutY v (v 4 k) (v 5 k) 0 0 (v 0 8)))))
  rw [e4, e4, e1, e0, d4, d4, d1, d0]
  cases f k <;> simp
/-- parted by a cut -/
def cuA (v : gCt) (p q c : Nat) : Bool := !fmO (tiY v (uS 0 (tb c)) 0) p q
def nowJ (v : gCt) (k : Nat) : Bool := decide (k < v 0 5) && inFo 0 (tj v u0 k)
def subJ (v : gCt) (c : Nat) : Bool := !anyU 7 (fun k => tb c k && !nowJ v k)
def waX (v : gCt) (c : Nat) : Nat := suU (v 0 5) (tb c) (v 6)
theorem and_lt (a b : Nat) : a &&& b ≤ a := Nat.and_le_left
theorem cut_min {v : gCt} (hv : gWF v) {p q c : Nat} (hc : c < 2 ^ v 0 5) (h : cuA v p q c = true) (hs : subJ v c = false) : ∃ d, d < 2 ^ v 0 5 ∧ cuA v p q d = true ∧ subJ v d = true ∧ cnU 7 (tb d) < cnU 7 (tb c) ∧ waX v d ≤ waX v c := by
  have hv0 := hv.1
  have hp7 := pow_le7 (show v 0 5 ≤ 7 by omega)
  -- the part of it that holds now, as a number
  have hex : ∃ d, d < 2 ^ v 0 5 ∧ ∀ k, tb d k = (tb c k && nowJ v k) := by
    have key : ∀ n (g : Nat → Bool), ∃ m, m < 2 ^ n ∧ ∀ k, m.testBit k = (decide (k < n) && g k) := by
      intro n g
      induction n with
      | zero => exact ⟨0, by simp, fun k => by simp⟩
      | succ n ih =>
        obtain ⟨m, m1, m2⟩ := ih
        by_cases hg : g n = true
        · refine ⟨2 ^ n + m, by rw [Nat.pow_succ]; omega, fun k => ?_⟩
          by_cases e : k = n
          · subst e
            rw [Nat.testBit_two_pow_add_eq, m2, decide_eq_false (Nat.lt_irrefl k), decide_eq_true (by omega), hg]; rfl
          · by_cases e2 : k < n
            · rw [Nat.testBit_two_pow_add_gt e2, m2, decide_eq_true e2, decide_eq_true (by omega)]
            · rw [Nat.testBit_lt_two_pow (x := 2 ^ n + m) (i := k), decide_eq_false (by omega), Bool.false_and]
              have : 2 ^ (n + 1) ≤ 2 ^ k := Nat.pow_le_pow_right (by omega) (by omega)
              rw [Nat.pow_succ] at this
              omega
        · refine ⟨m, by rw [Nat.pow_succ]; omega, fun k => ?_⟩
          rw [m2]
          by_cases e : k = n
          · subst e
            simp only [Bool.not_eq_true] at hg
            rw [hg]; simp
          · rw [decide_eq_decide.mpr (show k < n ↔ k < n + 1 by omega)]
    obtain ⟨m, m1, m2⟩ := key (v 0 5) (fun k => tb c k && nowJ v k)
    refine ⟨m, m1, fun k => ?_⟩
    show m.testBit k = _
    rw [m2]
    by_cases e : k < v 0 5
    · rw [decide_eq_true e, Bool.true_and]
    · unfold nowJ
      rw [decide_eq_false e]; simp
  obtain ⟨d, d1, d2⟩ := hex
  have hsame : tiY v (uS 0 (tb d)) 0 = tiY v (uS 0 (tb c)) 0 := by
    rw [tiY_0 hv, tiY_0 hv]
    funext a b
    refine tiO_false (fun k hk => ?_) _ a b
    rw [inFo_tj, inFo_tj, d2]
    unfold nowJ
    rw [decide_eq_true hk, Bool.true_and]
    cases tb c k <;> cases inFo 0 (tj v u0 k) <;> rfl
  refine ⟨d, d1, by unfold cuA at h ⊢; rw [hsame]; exact h, ?_, ?_, ?_⟩
  · unfold subJ
    cases ha : anyU 7 (fun k => tb d k && !nowJ v k)
    · rfl
    · obtain ⟨k, -, k2⟩ := anyU_iff.mp ha
      rw [d2] at k2
      cases hn : nowJ v k <;> rw [hn] at k2 <;> simp at k2
  · unfold subJ at hs
    simp only [Bool.not_eq_false'] at hs
    obtain ⟨k, k1, k2⟩ := anyU_iff.mp hs
    rw [Bool.and_eq_true, Bool.not_eq_true'] at k2
    exact cnU_lt (fun j _ hj => by rw [d2, Bool.and_eq_true] at hj; exact hj.1) k1 (by rw [d2, k2.2, Bool.and_false]) k2.1
  · unfold waX
    have mono : ∀ n, suU n (tb d) (v 6) ≤ suU n (tb c) (v 6) := by
      intro n
      induction n with
      | zero => exact Nat.le_refl _
      | succ n ih =>
        rw [suU, suU, d2]
        cases tb c n <;> cases nowJ v n <;> simp <;> omega
    exact mono _
def snO (v : gCt) (p q : Nat) : Option Nat := leC (fun c => cnU 7 (tb c)) (cuA v p q) (2 ^ v 0 5)
def swX (v : gCt) (p q : Nat) : Option Nat := mnW (waX v) (cuA v p q) (2 ^ v 0 5)
theorem snO_sub {v : gCt} (hv : gWF v) (p q : Nat) : leC (fun c => cnU 7 (tb c)) (fun c => subJ v c && cuA v p q c) (2 ^ v 0 5) = snO v p q :=
  leC_sub (fun c hc h hs => by
    obtain ⟨d, d1, d2, d3, d4, -⟩ := cut_min hv hc h hs
    exact ⟨d, d1, d2, d3, d4⟩)
theorem swX_sub {v : gCt} (hv : gWF v) (p q : Nat) : mnW (waX v) (fun c => subJ v c && cuA v p q c) (2 ^ v 0 5) = swX v p q :=
  mnW_sub (fun c hc h hs => by
    obtain ⟨d, d1, d2, d3, -, d5⟩ := cut_min hv hc h hs
    exact ⟨d, d1, d2, d3, d5⟩)
