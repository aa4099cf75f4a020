/-! The text: the city as its lines make it. -/
def vH (v : gCt) (a b c d : Nat) : gCt := u2 (u2 (u2 (u2 v 0 0 a) 0 1 b) 0 2 c) 0 3 d
def vP (v : gCt) (a b d : Nat) : gCt := u2 (u2 (u2 (u2 v 1 (v 0 4) a) 2 (v 0 4) b) 3 (v 0 4) d) 0 4 (v 0 4 + 1)
def vJ (v : gCt) (a b d : Nat) : gCt := u2 (u2 (u2 (u2 v 4 (v 0 5) a) 5 (v 0 5) b) 6 (v 0 5) d) 0 5 (v 0 5 + 1)
def vD (v : gCt) (a : Nat) : gCt := u2 (u2 v 7 (v 0 6) a) 0 6 (v 0 6 + 1)
def vC (v : gCt) (a b : Nat) : gCt := u2 (u2 (u2 v 8 (v 0 7) a) 9 (v 0 7) b) 0 7 (v 0 7 + 1)
def vL (v : gCt) : gCt := u2 v 0 9 (v 0 9 + 1)
theorem vP_n {v : gCt} {a b d k i : Nat} (h : k ≠ 0) (hi : (k ≠ 1 ∧ k ≠ 2 ∧ k ≠ 3) ∨ i ≠ v 0 4) : vP v a b d k i = v k i := by
  unfold vP
  rw [u2_k (by omega), u2_k (by omega), u2_k (by omega), u2_k (by omega)]
theorem vP_1 {v : gCt} {a b d : Nat} : vP v a b d 1 (v 0 4) = a ∧ vP v a b d 2 (v 0 4) = b ∧ vP v a b d 3 (v 0 4) = d := by
  unfold vP
  refine ⟨?_, ?_, ?_⟩
  · rw [u2_k (by omega), u2_k (by omega), u2_k (by omega), u2_e]
  · rw [u2_k (by omega), u2_k (by omega), u2_e]
  · rw [u2_k (by omega), u2_e]
theorem vJ_n {v : gCt} {a b d k i : Nat} (h : k ≠ 0) (hi : (k ≠ 4 ∧ k ≠ 5 ∧ k ≠ 6) ∨ i ≠ v 0 5) : vJ v a b d k i = v k i := by
  unfold vJ
  rw [u2_k (by omega), u2_k (by omega), u2_k (by omega), u2_k (by omega)]
theorem vJ_1 {v : gCt} {a b d : Nat} : vJ v a b d 4 (v 0 5) = a ∧ vJ v a b d 5 (v 0 5) = b ∧ vJ v a b d 6 (v 0 5) = d := by
  unfold vJ
  refine ⟨?_, ?_, ?_⟩
  · rw [u2_k (by omega), u2_k (by omega), u2_k (by omega), u2_e]
  · rw [u2_k (by omega), u2_k (by omega), u2_e]
  · rw [u2_k (by omega), u2_e]
theorem vD_n {v : gCt} {a k i : Nat} (h : k ≠ 0) (hi : k ≠ 7 ∨ i ≠ v 0 6) : vD v a k i = v k i := by
  unfold vD
  rw [u2_k (by omega), u2_k (by omega)]
theorem vD_1 {v : gCt} {a : Nat} : vD v a 7 (v 0 6) = a := by
  unfold vD
  rw [u2_k (by omega), u2_e]
theorem vC_n {v : gCt} {a b k i : Nat} (h : k ≠ 0) (hi : (k ≠ 8 ∧ k ≠ 9) ∨ i ≠ v 0 7) : vC v a b k i = v k i := by
  unfold vC
  rw [u2_k (by omega), u2_k (by omega), u2_k (by omega)]
theorem vC_1 {v : gCt} {a b : Nat} : vC v a b 8 (v 0 7) = a ∧ vC v a b 9 (v 0 7) = b := by
  unfold vC
  refine ⟨?_, ?_⟩
  · rw [u2_k (by omega), u2_k (by omega), u2_e]
  · rw [u2_k (by omega), u2_e]
/-- a city that is being told -/
def VI (v : gCt) : Prop := gWF v ∧ v 0 8 = 0 ∧ (v 0 9 = 0 → v 0 4 = 0 ∧ v 0 5 = 0 ∧ v 0 6 = 0 ∧ v 0 7 = 0) ∧ (v 0 9 ≠ 0 → 1 ≤ v 0 0)
theorem WF_H {v : gCt} (h : gWF v) (h8 : v 0 8 = 0) {a b c d : Nat} (ha : a ≤ 12) (hb : b ≤ 3) (hc : c ≤ 20) (hd : d ≤ 10) : gWF (vH v a b c d) := by
  obtain ⟨⟨a0, a1, a2, a3, a4, a5, a6, a7, a8, a9⟩, r1, r2, r3, r4, r5⟩ := h
  refine ⟨⟨ha, hb, hc, hd, a4, a5, a6, a7, a8, a9⟩, r1, r2, r3, r4, fun i hi => ?_⟩
  have : i < v 0 8 := hi
  omega
theorem WF_P {v : gCt} (h : gWF v) (h8 : v 0 8 = 0) {a b d : Nat} (h4 : v 0 4 < 6) (ha : 1 ≤ a ∧ a ≤ 9) (hb : b ≤ 99) (hd : d ≤ 9) : gWF (vP v a b d) := by
  obtain ⟨⟨a0, a1, a2, a3, a4, a5, a6, a7, a8, a9⟩, r1, r2, r3, r4, r5⟩ := h
  refine ⟨⟨a0, a1, a2, a3, show v 0 4 + 1 ≤ 6 by omega, a5, a6, a7, a8, a9⟩, fun i hi => ?_, fun i hi => ?_, fun i hi => ?_, fun i hi => ?_, fun i hi => ?_⟩
  · have hi : i < v 0 4 + 1 := hi
    by_cases c : i = v 0 4
    · subst c; rw [vP_1.1, vP_1.2.1, vP_1.2.2]; exact ⟨ha.1, ha.2, hb, hd⟩
    · rw [vP_n (k := 1) (by omega) (Or.inr c), vP_n (k := 2) (by omega) (Or.inr c), vP_n (k := 3) (by omega) (Or.inr c)]; exact r1 i (by omega)
  · have := r2 i hi
    rw [vP_n (k := 4) (by omega) (Or.inl (by omega)), vP_n (k := 5) (by omega) (Or.inl (by omega)), vP_n (k := 6) (by omega) (Or.inl (by omega))]
    show v 4 i < v 0 4 + 1 ∧ v 5 i < v 0 4 + 1 ∧ _
    exact ⟨by omega, by omega, this.2.2.1, this.2.2.2.1, this.2.2.2.2⟩
  · rw [vP_n (k := 7) (by omega) (Or.inl (by omega))]; exact r3 i hi
  · have := r4 i hi
    rw [vP_n (k := 8) (by omega) (Or.inl (by omega)), vP_n (k := 9) (by omega) (Or.inl (by omega))]
    show v 8 i < v 0 4 + 1 ∧ _
    exact ⟨by omega, this.2⟩
  · have : i < v 0 8 := hi
    omega
theorem WF_J {v : gCt} (h : gWF v) (h8 : v 0 8 = 0) {a b d : Nat} (h4 : v 0 5 < 7) (ha : a < v 0 4) (hb : b < v 0 4) (hab : a ≠ b) (hd : 1 ≤ d ∧ d ≤ 9) : gWF (vJ v a b d) := by
  obtain ⟨⟨a0, a1, a2, a3, a4, a5, a6, a7, a8, a9⟩, r1, r2, r3, r4, r5⟩ := h
  refine ⟨⟨a0, a1, a2, a3, a4, show v 0 5 + 1 ≤ 7 by omega, a6, a7, a8, a9⟩, fun i hi => ?_, fun i hi => ?_, fun i hi => ?_, fun i hi => ?_, fun i hi => ?_⟩
  · rw [vJ_n (k := 1) (by omega) (Or.inl (by omega)), vJ_n (k := 2) (by omega) (Or.inl (by omega)), vJ_n (k := 3) (by omega) (Or.inl (by omega))]; exact r1 i hi
  · have hi : i < v 0 5 + 1 := hi
    show vJ v a b d 4 i < v 0 4 ∧ vJ v a b d 5 i < v 0 4 ∧ _
    by_cases c : i = v 0 5
    · subst c; rw [vJ_1.1, vJ_1.2.1, vJ_1.2.2]; exact ⟨ha, hb, hab, hd.1, hd.2⟩
    · rw [vJ_n (k := 4) (by omega) (Or.inr c), vJ_n (k := 5) (by omega) (Or.inr c), vJ_n (k := 6) (by omega) (Or.inr c)]; exact r2 i (by omega)
  · rw [vJ_n (k := 7) (by omega) (Or.inl (by omega))]; exact r3 i hi
  · rw [vJ_n (k := 8) (by omega) (Or.inl (by omega)), vJ_n (k := 9) (by omega) (Or.inl (by omega))]; exact r4 i hi
  · have : i < v 0 8 := hi
    omega
theorem WF_D {v : gCt} (h : gWF v) (h8 : v 0 8 = 0) {a : Nat} (h4 : v 0 6 < 5) (ha : 1 ≤ a ∧ a ≤ 60) : gWF (vD v a) := by
  obtain ⟨⟨a0, a1, a2, a3, a4, a5, a6, a7, a8, a9⟩, r1, r2, r3, r4, r5⟩ := h
  refine ⟨⟨a0, a1, a2, a3, a4, a5, show v 0 6 + 1 ≤ 5 by omega, a7, a8, a9⟩, fun i hi => ?_, fun i hi => ?_, fun i hi => ?_, fun i hi => ?_, fun i hi => ?_⟩
  · rw [vD_n (k := 1) (by omega) (Or.inl (by omega)), vD_n (k := 2) (by omega) (Or.inl (by omega)), vD_n (k := 3) (by omega) (Or.inl (by omega))]; exact r1 i hi
  · rw [vD_n (k := 4) (by omega) (Or.inl (by omega)), vD_n (k := 5) (by omega) (Or.inl (by omega)), vD_n (k := 6) (by omega) (Or.inl (by omega))]; exact r2 i hi
  · have hi : i < v 0 6 + 1 := hi
    by_cases c : i = v 0 6
    · subst c; rw [vD_1]; exact ha
    · rw [vD_n (k := 7) (by omega) (Or.inr c)]; exact r3 i (by omega)
  · rw [vD_n (k := 8) (by omega) (Or.inl (by omega)), vD_n (k := 9) (by omega) (Or.inl (by omega))]; exact r4 i hi
  · have : i < v 0 8 := hi
    omega
theorem WF_C {v : gCt} (h : gWF v) (h8 : v 0 8 = 0) {a b : Nat} (h4 : v 0 7 < 5) (ha : a < v 0 4) (hb : b ≤ 11) : gWF (vC v a b) := by
  obtain ⟨⟨a0, a1, a2, a3, a4, a5, a6, a7, a8, a9⟩, r1, r2, r3, r4, r5⟩ := h
  refine ⟨⟨a0, a1, a2, a3, a4, a5, a6, show v 0 7 + 1 ≤ 5 by omega, a8, a9⟩, fun i hi => ?_, fun i hi => ?_, fun i hi => ?_, fun i hi => ?_, fun i hi => ?_⟩
  · rw [vC_n (k := 1) (by omega) (Or.inl (by omega)), vC_n (k := 2) (by omega) (Or.inl (by omega)), vC_n (k := 3) (by omega) (Or.inl (by omega))]; exact r1 i hi
  · rw [vC_n (k := 4) (by omega) (Or.inl (by omega)), vC_n (k := 5) (by omega) (Or.inl (by omega)), vC_n (k := 6) (by omega) (Or.inl (by omega))]; exact r2 i hi
  · rw [vC_n (k := 7) (by omega) (Or.inl (by omega))]; exact r3 i hi
  · have hi : i < v 0 7 + 1 := hi
    show vC v a b 8 i < v 0 4 ∧ _
    by_cases c : i = v 0 7
    · subst c; rw [vC_1.1, vC_1.2]; exact ⟨ha, hb⟩
    · rw [vC_n (k := 8) (by omega) (Or.inr c), vC_n (k := 9) (by omega) (Or.inr c)]; exact r4 i (by omega)
  · have : i < v 0 8 := hi
    omega
theorem WF_L {v : gCt} (h : gWF v) (h8 : v 0 8 = 0) (h9 : v 0 9 + 1 ≤ 800) : gWF (vL v) := by
  obtain ⟨⟨a0, a1, a2, a3, a4, a5, a6, a7, a8, a9⟩, r1, r2, r3, r4, r5⟩ := h
  exact ⟨⟨a0, a1, a2, a3, a4, a5, a6, a7, a8, h9⟩, r1, r2, r3, r4, r5⟩
/-! what stands there, line by line -/
/-- a line's words behind the first, but its sign -/
def lnB (g : Nat → Nat) (n : Nat) (v : gCt) (p : Nat) : gPs :=
  if isW g n 5 p = true then (if v 0 4 < 6 then pr4 g n p else .inl (3, tS g n p))
  else if isW g n 9 p = true then (if v 0 5 < 7 then jn4 g n (v 0 4) p else .inl (3, tS g n p))
  else if isW g n 11 p = true then (if v 0 6 < 5 then dr2 g n p else .inl (3, tS g n p))
  else if isW g n 12 p = true then (if v 0 7 < 5 then co3 g n (v 0 4) p else .inl (3, tS g n p))
  else .inl (1, tS g n p)
def lnV (g : Nat → Nat) (n : Nat) (v : gCt) (p : Nat) : gCt :=
  if isW g n 5 p = true then vP v (pv g n (pr1 g n p)) (pv g n (pr2 g n p)) (pv g n (pr3 g n p))
  else if isW g n 9 p = true then vJ v (pv g n (dr1 g n p)) (pv g n (jn2 g n (v 0 4) p)) (pv g n (jn3 g n (v 0 4) p))
  else if isW g n 11 p = true then vD v (pv g n (dr1 g n p))
  else vC v (pv g n (dr1 g n p)) (pv g n (co2 g n (v 0 4) p))
def lnS (g : Nat → Nat) (n : Nat) (v : gCt) (p : Nat) : gPs := sB (if v 0 9 = 0 then hd5 g n (.inr p) else lnB g n v p) (rdS g n)
def lnW (g : Nat → Nat) (n : Nat) (v : gCt) (p : Nat) : gCt := vL (if v 0 9 = 0 then vH v (pv g n (hd1 g n (.inr p))) (pv g n (hd2 g n (.inr p))) (pv g n (hd3 g n (.inr p))) (pv g n (hd4 g n (.inr p))) else lnV g n v p)
/-- one goes on -/
def goF (n : Nat) (f : Nat → gPs) : Prop := ∀ p q, p ≤ n → f p = .inr q → p ≤ q ∧ q ≤ n
theorem goW {g : Nat → Nat} {n w : Nat} : goF n (rdW g n w) := fun p q hp h => by
  have := tE_le (g := g) hp
  have := tS_le (g := g) hp
  unfold rdW at h
  split at h
  · cases h; omega
  · cases h
theorem goN {g : Nat → Nat} {n lo hi : Nat} : goF n (rdN g n lo hi) := fun p q hp h => by
  have := tE_le (g := g) hp
  have := tS_le (g := g) hp
  unfold rdN at h
  split at h
  · cases h; omega
  · cases h
theorem goAd {g : Nat → Nat} {n : Nat} : goF n (adS g n) := fun p q hp h => by
  have := tE_le (g := g) hp
  have := tS_le (g := g) hp
  unfold adS at h
  cases h; omega
theorem goDf {g : Nat → Nat} {n a : Nat} : goF n (dfS g n a) := fun p q hp h => by
  unfold dfS at h
  split at h
  · cases h
  · cases h; omega
def goSt (n p : Nat) (s : gPs) : Prop := ∀ q, s = .inr q → p ≤ q ∧ q ≤ n
theorem goS_B {n p : Nat} {s : gPs} {f : Nat → gPs} (h : goSt n p s) (hf : goF n f) : goSt n p (sB s f) := fun q hq => by
  obtain ⟨r, h1, h2⟩ := sB_inr hq
  have a := h r h1
  have b := hf r q a.2 h2
  omega
theorem goS_0 {n p : Nat} (h : p ≤ n) : goSt n p (.inr p) := fun q hq => by cases hq; omega
theorem goS_no {n p : Nat} {e : Nat × Nat} : goSt n p (.inl e) := fun q hq => by cases hq
theorem go_ln {g : Nat → Nat} {n : Nat} {v : gCt} {p : Nat} (hp : p ≤ n) : goSt n p (if v 0 9 = 0 then hd5 g n (.inr p) else lnB g n v p) := by
  have a := goS_0 hp
  have d1 : goSt n p (dr1 g n p) := goS_B a goAd
  split
  · exact goS_B (goS_B (goS_B (goS_B (goS_B (goS_B (goS_B (goS_B (goS_B a goW) goW) goN) goW) goN) goW) goN) goW) goN
  · unfold lnB
    split
    · split
      · exact goS_B (goS_B (goS_B (goS_B (goS_B (goS_B (goS_B a goAd) goW) goN) goW) goN) goW) goN
      · exact goS_no
    · split
      · split
        · exact goS_B (goS_B (goS_B (goS_B (goS_B d1 goN) goDf) goN) goW) goN
        · exact goS_no
      · split
        · split
          · exact goS_B d1 goN
          · exact goS_no
        · split
          · split
            · exact goS_B (goS_B (goS_B d1 goN) goW) goN
            · exact goS_no
          · exact goS_no
theorem ln_lt {g : Nat → Nat} {n : Nat} {v : gCt} {p q : Nat} (hp : p ≤ n) (h : lnS g n v p = .inr q) : p < q ∧ q ≤ n := by
  obtain ⟨r, h1, h2⟩ := sB_inr h
  have a := go_ln (v := v) (g := g) hp r h1
  have b := tE_le (g := g) a.2
  have c := tS_le (g := g) a.2
  unfold rdS at h2
  split at h2
  · next h3 => cases h2; have := b.2.2 (by omega); omega
  · cases h2
/-! the class's town reads as it -/
theorem RT_H {M N : gMem} {T a b c d : Nat} {v : gCt} (h : RT M T v) (e1 : N.1 T 1 = nI a ∧ N.1 T 2 = nI b ∧ N.1 T 3 = nI c ∧ N.1 T 4 = nI d) (e2 : ∀ j, j = 0 ∨ 5 ≤ j → N.1 T j = M.1 T j) (e3 : ∀ i, 1 ≤ i → i < 15 → N.1 (T + i) = M.1 (T + i)) : RT N T (vH v a b c d) := by
  obtain ⟨⟨a0, a1, a2, a3, a4, a5, a6, a7, a8, a9⟩, r1, r2, r3, r4, r5⟩ := h
  unfold RT
  rw [e3 1 (by omega) (by omega), e3 2 (by omega) (by omega), e3 3 (by omega) (by omega), e3 4 (by omega) (by omega), e3 5 (by omega) (by omega), e3 6 (by omega) (by omega), e3 7 (by omega) (by omega), e3 8 (by omega) (by omega), e3 9 (by omega) (by omega), e3 10 (by omega) (by omega), show T + 10 + 1 = T + 11 from rfl, show T + 10 + 2 = T + 12 from rfl, show T + 10 + 3 = T + 13 from rfl, show T + 10 + 4 = T + 14 from rfl, e3 11 (by omega) (by omega), e3 12 (by omega) (by omega), e3 13 (by omega) (by omega), e3 14 (by omega) (by omega)]
  exact ⟨⟨(e2 0 (by omega)).trans a0, e1.1, e1.2.1, e1.2.2.1, e1.2.2.2, (e2 5 (by omega)).trans a5, (e2 6 (by omega)).trans a6, (e2 7 (by omega)).trans a7, (e2 8 (by omega)).trans a8, a9⟩, r1, r2, r3, r4, r5⟩
theorem RT_P {M N : gMem} {T a b d : Nat} {v : gCt} (h : RT M T v) (e1 : N.1 (T + 1) (v 0 4) = nI a ∧ N.1 (T + 2) (v 0 4) = nI b ∧ N.1 (T + 3) (v 0 4) = nI d) (e0 : N.1 T 5 = nI (v 0 4 + 1)) (e2 : ∀ j, j ≠ 5 → N.1 T j = M.1 T j) (e4 : ∀ i k, 1 ≤ i → i ≤ 3 → k ≠ v 0 4 → N.1 (T + i) k = M.1 (T + i) k) (e3 : ∀ i, 4 ≤ i → i < 15 → N.1 (T + i) = M.1 (T + i)) : RT N T (vP v a b d) := by
  obtain ⟨⟨a0, a1, a2, a3, a4, a5, a6, a7, a8, a9⟩, r1, r2, r3, r4, r5⟩ := h
  unfold RT
  rw [e3 4 (by omega) (by omega), e3 5 (by omega) (by omega), e3 6 (by omega) (by omega), e3 7 (by omega) (by omega), e3 8 (by omega) (by omega), e3 9 (by omega) (by omega), e3 10 (by omega) (by omega), show T + 10 + 1 = T + 11 from rfl, show T + 10 + 2 = T + 12 from rfl, show T + 10 + 3 = T + 13 from rfl, show T + 10 + 4 = T + 14 from rfl, e3 11 (by omega) (by omega), e3 12 (by omega) (by omega), e3 13 (by omega) (by omega), e3 14 (by omega) (by omega)]
  refine ⟨⟨(e2 0 (by omega)).trans a0, (e2 1 (by omega)).trans a1, (e2 2 (by omega)).trans a2, (e2 3 (by omega)).trans a3, (e2 4 (by omega)).trans a4, e0, (e2 6 (by omega)).trans a6, (e2 7 (by omega)).trans a7, (e2 8 (by omega)).trans a8, a9⟩, fun i hi => ?_, fun i hi => ?_, fun i hi => ?_, fun i hi => ?_, fun i hi => ?_⟩
  · have hi : i < v 0 4 + 1 := hi
    by_cases c : i = v 0 4
    · subst c; rw [vP_1.1, vP_1.2.1, vP_1.2.2]; exact e1
    · rw [vP_n (k := 1) (by omega) (Or.inr c), vP_n (k := 2) (by omega) (Or.inr c), vP_n (k := 3) (by omega) (Or.inr c), e4 1 i (by omega) (by omega) c, e4 2 i (by omega) (by omega) c, e4 3 i (by omega) (by omega) c]; exact r1 i (by omega)
  · rw [vP_n (k := 4) (by omega) (Or.inl (by omega)), vP_n (k := 5) (by omega) (Or.inl (by omega)), vP_n (k := 6) (by omega) (Or.inl (by omega))]; exact r2 i hi
  · rw [vP_n (k := 7) (by omega) (Or.inl (by omega))]; exact r3 i hi
  · rw [vP_n (k := 8) (by omega) (Or.inl (by omega)), vP_n (k := 9) (by omega) (Or.inl (by omega))]; exact r4 i hi
  · rw [vP_n (k := 10) (by omega) (Or.inl (by omega)), vP_n (k := 11) (by omega) (Or.inl (by omega)), vP_n (k := 12) (by omega) (Or.inl (by omega)), vP_n (k := 13) (by omega) (Or.inl (by omega))]; exact r5 i hi
theorem RT_J {M N : gMem} {T a b d : Nat} {v : gCt} (h : RT M T v) (e1 : N.1 (T + 4) (v 0 5) = nI a ∧ N.1 (T + 5) (v 0 5) = nI b ∧ N.1 (T + 6) (v 0 5) = nI d) (e0 : N.1 T 6 = nI (v 0 5 + 1)) (e2 : ∀ j, j ≠ 6 → N.1 T j = M.1 T j) (e4 : ∀ i k, 4 ≤ i → i ≤ 6 → k ≠ v 0 5 → N.1 (T + i) k = M.1 (T + i) k) (e3 : ∀ i, (1 ≤ i ∧ i < 4) ∨ (7 ≤ i ∧ i < 15) → N.1 (T + i) = M.1 (T + i)) : RT N T (vJ v a b d) := by
  obtain ⟨⟨a0, a1, a2, a3, a4, a5, a6, a7, a8, a9⟩, r1, r2, r3, r4, r5⟩ := h
  unfold RT
  rw [e3 1 (by omega), e3 2 (by omega), e3 3 (by omega), e3 7 (by omega), e3 8 (by omega), e3 9 (by omega), e3 10 (by omega), show T + 10 + 1 = T + 11 from rfl, show T + 10 + 2 = T + 12 from rfl, show T + 10 + 3 = T + 13 from rfl, show T + 10 + 4 = T + 14 from rfl, e3 11 (by omega), e3 12 (by omega), e3 13 (by omega), e3 14 (by omega)]
  refine ⟨⟨(e2 0 (by omega)).trans a0, (e2 1 (by omega)).trans a1, (e2 2 (by omega)).trans a2, (e2 3 (by omega)).trans a3, (e2 4 (by omega)).trans a4, (e2 5 (by omega)).trans a5, e0, (e2 7 (by omega)).trans a7, (e2 8 (by omega)).trans a8, a9⟩, fun i hi => ?_, fun i hi => ?_, fun i hi => ?_, fun i hi => ?_, fun i hi => ?_⟩
  · rw [vJ_n (k := 1) (by omega) (Or.inl (by omega)), vJ_n (k := 2) (by omega) (Or.inl (by omega)), vJ_n (k := 3) (by omega) (Or.inl (by omega))]; exact r1 i hi
  · have hi : i < v 0 5 + 1 := hi
    by_cases c : i = v 0 5
    · subst c; rw [vJ_1.1, vJ_1.2.1, vJ_1.2.2]; exact e1
    · rw [vJ_n (k := 4) (by omega) (Or.inr c), vJ_n (k := 5) (by omega) (Or.inr c), vJ_n (k := 6) (by omega) (Or.inr c), e4 4 i (by omega) (by omega) c, e4 5 i (by omega) (by omega) c, e4 6 i (by omega) (by omega) c]; exact r2 i (by omega)
  · rw [vJ_n (k := 7) (by omega) (Or.inl (by omega))]; exact r3 i hi
  · rw [vJ_n (k := 8) (by omega) (Or.inl (by omega)), vJ_n (k := 9) (by omega) (Or.inl (by omega))]; exact r4 i hi
  · rw [vJ_n (k := 10) (by omega) (Or.inl (by omega)), vJ_n (k := 11) (by omega) (Or.inl (by omega)), vJ_n (k := 12) (by omega) (Or.inl (by omega)), vJ_n (k := 13) (by omega) (Or.inl (by omega))]; exact r5 i hi
theorem RT_D {M N : gMem} {T a : Nat} {v : gCt} (h : RT M T v) (e1 : N.1 (T + 7) (v 0 6) = nI a) (e0 : N.1 T 7 = nI (v 0 6 + 1)) (e2 : ∀ j, j ≠ 7 → N.1 T j = M.1 T j) (e4 : ∀ k, k ≠ v 0 6 → N.1 (T + 7) k = M.1 (T + 7) k) (e3 : ∀ i, 1 ≤ i → i < 15 → i ≠ 7 → N.1 (T + i) = M.1 (T + i)) : RT N T (vD v a) := by
  obtain ⟨⟨a0, a1, a2, a3, a4, a5, a6, a7, a8, a9⟩, r1, r2, r3, r4, r5⟩ := h
  unfold RT
  rw [e3 1 (by omega) (by omega) (by omega), e3 2 (by omega) (by omega) (by omega), e3 3 (by omega) (by omega) (by omega), e3 4 (by omega) (by omega) (by omega), e3 5 (by omega) (by omega) (by omega), e3 6 (by omega) (by omega) (by omega), e3 8 (by omega) (by omega) (by omega), e3 9 (by omega) (by omega) (by omega), e3 10 (by omega) (by omega) (by omega), show T + 10 + 1 = T + 11 from rfl, show T + 10 + 2 = T + 12 from rfl, show T + 10 + 3 = T + 13 from rfl, show T + 10 + 4 = T + 14 from rfl, e3 11 (by omega) (by omega) (by omega), e3 12 (by omega) (by omega) (by omega), e3 13 (by omega) (by omega) (by omega), e3 14 (by omega) (by omega) (by omega)]
  refine ⟨⟨(e2 0 (by omega)).trans a0, (e2 1 (by omega)).trans a1, (e2 2 (by omega)).trans a2, (e2 3 (by omega)).trans a3, (e2 4 (by omega)).trans a4, (e2 5 (by omega)).trans a5, (e2 6 (by omega)).trans a6, e0, (e2 8 (by omega)).trans a8, a9⟩, fun i hi => ?_, fun i hi => ?_, fun i hi => ?_, fun i hi => ?_, fun i hi => ?_⟩
  · rw [vD_n (k := 1) (by omega) (Or.inl (by omega)), vD_n (k := 2) (by omega) (Or.inl (by omega)), vD_n (k := 3) (by omega) (Or.inl (by omega))]; exact r1 i hi
  · rw [vD_n (k := 4) (by omega) (Or.inl (by omega)), vD_n (k := 5) (by omega) (Or.inl (by omega)), vD_n (k := 6) (by omega) (Or.inl (by omega))]; exact r2 i hi
  · have hi : i < v 0 6 + 1 := hi
    by_cases c : i = v 0 6
    · subst c; rw [vD_1]; exact e1
    · rw [vD_n (k := 7) (by omega) (Or.inr c), e4 i c]; exact r3 i (by omega)
  · rw [vD_n (k := 8) (by omega) (Or.inl (by omega)), vD_n (k := 9) (by omega) (Or.inl (by omega))]; exact r4 i hi
  · rw [vD_n (k := 10) (by omega) (Or.inl (by omega)), vD_n (k := 11) (by omega) (Or.inl (by omega)), vD_n (k := 12) (by omega) (Or.inl (by omega)), vD_n (k := 13) (by omega) (Or.inl (by omega))]; exact r5 i hi
theorem RT_C {M N : gMem} {T a b : Nat} {v : gCt} (h : RT M T v) (e1 : N.1 (T + 8) (v 0 7) = nI a ∧ N.1 (T + 9) (v 0 7) = nI b) (e0 : N.1 T 8 = nI (v 0 7 + 1)) (e2 : ∀ j, j ≠ 8 → N.1 T j = M.1 T j) (e4 : ∀ i k, i = 8 ∨ i = 9 → k ≠ v 0 7 → N.1 (T + i) k = M.1 (T + i) k) (e3 : ∀ i, (1 ≤ i ∧ i < 8) ∨ (10 ≤ i ∧ i < 15) → N.1 (T + i) = M.1 (T + i)) : RT N T (vC v a b) := by
  obtain ⟨⟨a0, a1, a2, a3, a4, a5, a6, a7, a8, a9⟩, r1, r2, r3, r4, r5⟩ := h
  unfold RT
  rw [e3 1 (by omega), e3 2 (by omega), e3 3 (by omega), e3 4 (by omega), e3 5 (by omega), e3 6 (by omega), e3 7 (by omega), e3 10 (by omega), show T + 10 + 1 = T + 11 from rfl, show T + 10 + 2 = T + 12 from rfl, show T + 10 + 3 = T + 13 from rfl, show T + 10 + 4 = T + 14 from rfl, e3 11 (by omega), e3 12 (by omega), e3 13 (by omega), e3 14 (by omega)]
  refine ⟨⟨(e2 0 (by omega)).trans a0, (e2 1 (by omega)).trans a1, (e2 2 (by omega)).trans a2, (e2 3 (by omega)).trans a3, (e2 4 (by omega)).trans a4, (e2 5 (by omega)).trans a5, (e2 6 (by omega)).trans a6, (e2 7 (by omega)).trans a7, e0, a9⟩, fun i hi => ?_, fun i hi => ?_, fun i hi => ?_, fun i hi => ?_, fun i hi => ?_⟩
  · rw [vC_n (k := 1) (by omega) (Or.inl (by omega)), vC_n (k := 2) (by omega) (Or.inl (by omega)), vC_n (k := 3) (by omega) (Or.inl (by omega))]; exact r1 i hi
  · rw [vC_n (k := 4) (by omega) (Or.inl (by omega)), vC_n (k := 5) (by omega) (Or.inl (by omega)), vC_n (k := 6) (by omega) (Or.inl (by omega))]; exact r2 i hi
  · rw [vC_n (k := 7) (by omega) (Or.inl (by omega))]; exact r3 i hi
  · have hi : i < v 0 7 + 1 := hi
    by_cases c : i = v 0 7
    · subst c; rw [vC_1.1, vC_1.2]; exact e1
    · rw [vC_n (k := 8) (by omega) (Or.inr c), vC_n (k := 9) (by omega) (Or.inr c), e4 8 i (by omega) c, e4 9 i (by omega) c]; exact r4 i (by omega)
  · rw [vC_n (k := 10) (by omega) (Or.inl (by omega)), vC_n (k := 11) (by omega) (Or.inl (by omega)), vC_n (k := 12) (by omega) (Or.inl (by omega)), vC_n (k := 13) (by omega) (Or.inl (by omega))]; exact r5 i hi
theorem RT_L {M : gMem} {T : Nat} {v : gCt} (h : RT M T v) : RT (gSI M T 0 (nI (v 0 9 + 1))) T (vL v) := by
  obtain ⟨⟨a0, a1, a2, a3, a4, a5, a6, a7, a8, a9⟩, r1, r2, r3, r4, r5⟩ := h
  have o : ∀ k, k ≠ T → (gSI M T 0 (nI (v 0 9 + 1))).1 k = M.1 k := fun k hk => gSI_ne hk
  have p : ∀ j, j ≠ 0 → (gSI M T 0 (nI (v 0 9 + 1))).1 T j = M.1 T j := fun j hj => gSI_nj hj
  unfold RT
  rw [p 1 (by omega), p 2 (by omega), p 3 (by omega), p 4 (by omega), p 5 (by omega), p 6 (by omega), p 7 (by omega), p 8 (by omega), o (T + 1) (by omega), o (T + 2) (by omega), o (T + 3) (by omega), o (T + 4) (by omega), o (T + 5) (by omega), o (T + 6) (by omega), o (T + 7) (by omega), o (T + 8) (by omega), o (T + 9) (by omega), o (T + 10) (by omega), o (T + 10 + 1) (by omega), o (T + 10 + 2) (by omega), o (T + 10 + 3) (by omega), o (T + 10 + 4) (by omega), gSI_eq]
  exact ⟨⟨rfl, a1, a2, a3, a4, a5, a6, a7, a8, a9⟩, r1, r2, r3, r4, r5⟩
