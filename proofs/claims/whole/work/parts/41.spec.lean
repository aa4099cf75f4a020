/-! What a city is, and its years: in numbers and sets alone. -/
abbrev gCt : Type := Nat → Nat → Nat
/-- what is supposed: 0 which told joins are false, 1 acts aside, 2 who is kept in, 3 who is sick besides, 4 who has shaved -/
abbrev gSp : Type := Nat → Nat → Bool
def anyU : Nat → (Nat → Bool) → Bool
  | 0, _ => false
  | n + 1, f => anyU n f || f n
theorem anyU_s (n : Nat) (f : Nat → Bool) : anyU (n + 1) f = (anyU n f || f n) := rfl
theorem anyU_iff {n : Nat} {f : Nat → Bool} : anyU n f = true ↔ ∃ k, k < n ∧ f k = true := by
  induction n with
  | zero => exact ⟨fun h => (by cases h), fun ⟨k, h, _⟩ => absurd h (Nat.not_lt_zero k)⟩
  | succ n ih =>
    rw [anyU, Bool.or_eq_true, ih]
    constructor
    · rintro (⟨k, h1, h2⟩ | h)
      · exact ⟨k, by omega, h2⟩
      · exact ⟨n, by omega, h⟩
    · rintro ⟨k, h1, h2⟩
      by_cases e : k = n
      · subst e; exact Or.inr h2
      · exact Or.inl ⟨k, by omega, h2⟩
theorem anyU_ext {n : Nat} {f g : Nat → Bool} (h : ∀ k, k < n → f k = g k) : anyU n f = anyU n g := by
  induction n with
  | zero => rfl
  | succ n ih => rw [anyU, anyU, ih (fun k hk => h k (by omega)), h n (by omega)]
def isPr (v : gCt) (k a b : Nat) : Bool := (decide (v 10 k = a) && decide (v 11 k = b)) || (decide (v 10 k = b) && decide (v 11 k = a))
/-- act k is a snip of the two, behind a join made in year fr by act bb less 1 (0: it was told) -/
def cutsIt (v : gCt) (a b fr bb k : Nat) : Bool := decide (v 13 k = 0) && ((decide (fr < v 12 k) || (decide (v 12 k = fr) && decide (bb ≤ k))) && isPr v k a b)
/-- the year in which it is cut -/
def cutY (v : gCt) (a b fr bb : Nat) : Nat → Nat
  | 0 => 1000
  | k + 1 => if cutsIt v a b fr bb k = true then min (cutY v a b fr bb k) (v 12 k) else cutY v a b fr bb k
/-- a join: its two, from when, until when -/
abbrev gJo : Type := Nat × Nat × Nat × Nat
def mkJ (v : gCt) (u : gSp) (a b fr un bb : Nat) : gJo := (a, b, fr, if u 4 a = true ∨ u 4 b = true then 0 else if u 1 0 = true then un else min un (cutY v a b fr bb (v 0 8)))
def glT (v : gCt) (u : gSp) : Nat → List gJo
  | 0 => []
  | k + 1 => glT v u k ++ [mkJ v u (v 4 k) (v 5 k) 0 (if u 0 k = true then 0 else v 6 k) 0]
def glA (v : gCt) (u : gSp) : Nat → List gJo
  | 0 => glT v u (v 0 5)
  | k + 1 => if v 13 k = 0 then glA v u k else glA v u k ++ [mkJ v u (v 10 k) (v 11 k) (v 12 k) (v 12 k + v 13 k) (k + 1)]
def gl (v : gCt) (u : gSp) : List gJo := if u 1 0 = true then glT v u (v 0 5) else glA v u (v 0 8)
def inFo (y : Nat) (x : gJo) : Bool := decide (x.2.2.1 ≤ y) && decide (y < x.2.2.2)
def ofTwo (p q : Nat) (x : gJo) : Bool := (decide (x.1 = p) && decide (x.2.1 = q)) || (decide (x.1 = q) && decide (x.2.1 = p))
/-- tied in year y by one of the joins, the two not away -/
def tiO (l : List gJo) (y : Nat) (aw : Nat → Bool) (p q : Nat) : Bool := l.any (fun x => inFo y x && ((!aw x.1 && !aw x.2.1) && ofTwo p q x))
/-- how many joins tie the two -/
def tcO (l : List gJo) (y : Nat) (aw : Nat → Bool) (p q : Nat) : Nat := l.countP (fun x => inFo y x && ((!aw x.1 && !aw x.2.1) && ofTwo p q x))
/-- whom one comes to in k steps -/
def clo (ti : Nat → Nat → Bool) (f : Nat → Bool) : Nat → Nat → Bool
  | 0, q => f q
  | k + 1, q => clo ti f k q || anyU 6 (fun a => clo ti f k a && ti a q)
def fmO (ti : Nat → Nat → Bool) (p : Nat) : Nat → Bool := clo ti (fun q => decide (q = p)) 6
def smI : Nat → (Nat → Bool) → (Nat → Int32) → Int32
  | 0, _, _ => 0
  | n + 1, f, w => if f n = true then smI n f w + w n else smI n f w
theorem smI_s (n : Nat) (f : Nat → Bool) (w : Nat → Int32) : smI (n + 1) f w = if f n = true then smI n f w + w n else smI n f w := rfl
theorem smI_ext {n : Nat} {f g : Nat → Bool} {w z : Nat → Int32} (h : ∀ k, k < n → f k = g k) (h2 : ∀ k, k < n → f k = true → w k = z k) : smI n f w = smI n g z := by
  induction n with
  | zero => rfl
  | succ n ih =>
    rw [smI, smI, ← h n (by omega), ih (fun k hk => h k (by omega)) (fun k hk => h2 k (by omega))]
    by_cases e : f n = true
    · rw [if_pos e, if_pos e, h2 n (by omega) e]
    · rw [if_neg e, if_neg e]
/-- a year's state: who is out, who has had a cold, who has one, worth, ties -/
abbrev gYs : Type := (Nat → Bool) × (Nat → Bool) × (Nat → Bool) × (Nat → Int32) × (Nat → Nat → Bool)
def faO (v : gCt) (u : gSp) (y : Nat) (out0 : Nat → Bool) (W : Nat → Int32) (p : Nat) : Bool := decide (p < v 0 4) && (!out0 p && decide (smI 6 (fmO (tiO (gl v u) y out0) p) W < 0))
def ouO (v : gCt) (u : gSp) (y : Nat) (out0 : Nat → Bool) (W : Nat → Int32) (p : Nat) : Bool := out0 p || faO v u y out0 W p
def toC (v : gCt) (y p : Nat) : Bool := anyU (v 0 7) (fun c => decide (v 9 c = y) && decide (v 8 c = p))
def siO (v : gCt) (u : gSp) (y : Nat) (out ev ca : Nat → Bool) (p : Nat) : Bool := (ca p || toC v y p) && !(ev p || (out p || u 2 p))
def yMk (v : gCt) (u : gSp) (y : Nat) (out0 ev ca : Nat → Bool) (W : Nat → Int32) : gYs :=
  (ouO v u y out0 W, (fun p => ev p || siO v u y (ouO v u y out0 W) ev ca p), siO v u y (ouO v u y out0 W) ev ca, W, tiO (gl v u) y (ouO v u y out0 W))
def yr (v : gCt) (u : gSp) : Nat → gYs
  | 0 => yMk v u 0 (fun _ => false) (fun _ => false) (fun p => u 3 p) (fun p => nI (v 2 p))
  | y + 1 => yMk v u (y + 1) (yr v u y).1 (yr v u y).2.1 (fun p => anyU 6 (fun q => (yr v u y).2.2.1 q && (yr v u y).2.2.2.2 q p)) (fun p => (yr v u y).2.2.2.1 p + (if (yr v u y).1 p = true then 0 else nI (v 3 p) - (if (yr v u y).2.2.1 p = true then nI (v 0 2) else 0)))
def goY (v : gCt) (u : gSp) (y : Nat) : Nat → Bool := (yr v u y).1
def evY (v : gCt) (u : gSp) (y : Nat) : Nat → Bool := (yr v u y).2.1
def skY (v : gCt) (u : gSp) (y : Nat) : Nat → Bool := (yr v u y).2.2.1
def woY (v : gCt) (u : gSp) (y : Nat) : Nat → Int32 := (yr v u y).2.2.2.1
def tiY (v : gCt) (u : gSp) (y : Nat) : Nat → Nat → Bool := (yr v u y).2.2.2.2
/-- what is ahead of year y -/
def go0 (v : gCt) (u : gSp) : Nat → Nat → Bool
  | 0 => fun _ => false
  | y + 1 => goY v u y
def ev0 (v : gCt) (u : gSp) : Nat → Nat → Bool
  | 0 => fun _ => false
  | y + 1 => evY v u y
def ca0 (v : gCt) (u : gSp) : Nat → Nat → Bool
  | 0 => fun p => u 3 p
  | y + 1 => fun p => anyU 6 (fun q => skY v u y q && tiY v u y q p)
theorem yr_eq (v : gCt) (u : gSp) (y : Nat) : yr v u y = yMk v u y (go0 v u y) (ev0 v u y) (ca0 v u y) (woY v u y) := by cases y <;> rfl
theorem goY_eq (v : gCt) (u : gSp) (y : Nat) : goY v u y = ouO v u y (go0 v u y) (woY v u y) := by unfold goY; rw [yr_eq]; rfl
theorem skY_eq (v : gCt) (u : gSp) (y : Nat) : skY v u y = siO v u y (goY v u y) (ev0 v u y) (ca0 v u y) := by rw [goY_eq]; unfold skY; rw [yr_eq]; rfl
theorem evY_eq (v : gCt) (u : gSp) (y : Nat) : evY v u y = fun p => ev0 v u y p || skY v u y p := by rw [skY_eq, goY_eq]; unfold evY; rw [yr_eq]; rfl
theorem tiY_eq (v : gCt) (u : gSp) (y : Nat) : tiY v u y = tiO (gl v u) y (goY v u y) := by rw [goY_eq]; unfold tiY; rw [yr_eq]; rfl
theorem woY_0 (v : gCt) (u : gSp) : woY v u 0 = fun p => nI (v 2 p) := rfl
theorem woY_s (v : gCt) (u : gSp) (y : Nat) : woY v u (y + 1) = fun p => woY v u y p + (if goY v u y p = true then 0 else nI (v 3 p) - (if skY v u y p = true then nI (v 0 2) else 0)) := rfl
/-- a city as the document has it -/
def gWF (v : gCt) : Prop := (v 0 0 ≤ 12 ∧ v 0 1 ≤ 3 ∧ v 0 2 ≤ 20 ∧ v 0 3 ≤ 10 ∧ v 0 4 ≤ 6 ∧ v 0 5 ≤ 7 ∧ v 0 6 ≤ 5 ∧ v 0 7 ≤ 5 ∧ v 0 8 ≤ 31 ∧ v 0 9 ≤ 800) ∧
  (∀ p, p < v 0 4 → 1 ≤ v 1 p ∧ v 1 p ≤ 9 ∧ v 2 p ≤ 99 ∧ v 3 p ≤ 9) ∧ (∀ j, j < v 0 5 → v 4 j < v 0 4 ∧ v 5 j < v 0 4 ∧ v 4 j ≠ v 5 j ∧ 1 ≤ v 6 j ∧ v 6 j ≤ 9) ∧
  (∀ d, d < v 0 6 → 1 ≤ v 7 d ∧ v 7 d ≤ 60) ∧ (∀ c, c < v 0 7 → v 8 c < v 0 4 ∧ v 9 c ≤ 11) ∧ (∀ i, i < v 0 8 → v 10 i < v 0 4 ∧ v 11 i < v 0 4 ∧ v 10 i ≠ v 11 i ∧ v 12 i < v 0 0 ∧ v 13 i ≤ 9)
/-- the class's town t reads as v -/
def RT (M : gMem) (t : Nat) (v : gCt) : Prop :=
  (M.1 t 0 = nI (v 0 9) ∧ M.1 t 1 = nI (v 0 0) ∧ M.1 t 2 = nI (v 0 1) ∧ M.1 t 3 = nI (v 0 2) ∧ M.1 t 4 = nI (v 0 3) ∧ M.1 t 5 = nI (v 0 4) ∧ M.1 t 6 = nI (v 0 5) ∧ M.1 t 7 = nI (v 0 6) ∧ M.1 t 8 = nI (v 0 7) ∧ M.1 (t + 10) 4 = nI (v 0 8)) ∧
  (∀ p, p < v 0 4 → M.1 (t + 1) p = nI (v 1 p) ∧ M.1 (t + 2) p = nI (v 2 p) ∧ M.1 (t + 3) p = nI (v 3 p)) ∧ (∀ j, j < v 0 5 → M.1 (t + 4) j = nI (v 4 j) ∧ M.1 (t + 5) j = nI (v 5 j) ∧ M.1 (t + 6) j = nI (v 6 j)) ∧
  (∀ d, d < v 0 6 → M.1 (t + 7) d = nI (v 7 d)) ∧ (∀ c, c < v 0 7 → M.1 (t + 8) c = nI (v 8 c) ∧ M.1 (t + 9) c = nI (v 9 c)) ∧
  (∀ i, i < v 0 8 → M.1 (t + 10 + 1) i = nI (v 10 i) ∧ M.1 (t + 10 + 2) i = nI (v 11 i) ∧ M.1 (t + 10 + 3) i = nI (v 12 i) ∧ M.1 (t + 10 + 4) i = nI (v 13 i))
theorem RT_same {M N : gMem} {t : Nat} {v : gCt} (h : RT M t v) (e : ∀ i, i < 15 → N.1 (t + i) = M.1 (t + i)) : RT N t v := by
  have e0 := e 0 (by omega)
  rw [Nat.add_zero] at e0
  unfold RT
  rw [e0, e 1 (by omega), e 2 (by omega), e 3 (by omega), e 4 (by omega), e 5 (by omega), e 6 (by omega), e 7 (by omega), e 8 (by omega), e 9 (by omega), e 10 (by omega), show t + 10 + 1 = t + 11 from rfl, show t + 10 + 2 = t + 12 from rfl, show t + 10 + 3 = t + 13 from rfl, show t + 10 + 4 = t + 14 from rfl, e 11 (by omega), e 12 (by omega), e 13 (by omega), e 14 (by omega)]
  exact h
theorem gTn_of {t : Nat} (h : gOb 7 t = true) : gTn t := by
  have key : ∀ o, o < 162 → gOb0 7 o = true → ∃ j, j < 5 ∧ o = 66 + 15 * j := by decide +kernel
  exact key t (gOb_sh h).2 (by rw [← gOb_eq]; exact h)
theorem gTn_lo {t : Nat} (h : gTn t) : 66 ≤ t ∧ t ≤ 126 := by
  obtain ⟨j, hj, rfl⟩ := h
  omega
/-- rows of a town -/
theorem ixT {t i j n : Nat} (h : gTn t) (hi : i < 15) (hs : gShT i = (1, n)) (hj : j < n) (hn : n < 2 ^ 31) : gIx 1 (t + i) (nI j) = true := gTn_ix h hi hs rfl hj hn
theorem ix1 {t j : Nat} (h : gTn t) (hj : j < 6) : gIx 1 (t + 1) (nI j) = true := ixT h (by omega) rfl hj (by omega)
theorem ix2 {t j : Nat} (h : gTn t) (hj : j < 6) : gIx 1 (t + 2) (nI j) = true := ixT h (by omega) rfl hj (by omega)
theorem ix3 {t j : Nat} (h : gTn t) (hj : j < 6) : gIx 1 (t + 3) (nI j) = true := ixT h (by omega) rfl hj (by omega)
theorem ix4 {t j : Nat} (h : gTn t) (hj : j < 7) : gIx 1 (t + 4) (nI j) = true := ixT h (by omega) rfl hj (by omega)
theorem ix5 {t j : Nat} (h : gTn t) (hj : j < 7) : gIx 1 (t + 5) (nI j) = true := ixT h (by omega) rfl hj (by omega)
theorem ix6 {t j : Nat} (h : gTn t) (hj : j < 7) : gIx 1 (t + 6) (nI j) = true := ixT h (by omega) rfl hj (by omega)
theorem ix7 {t j : Nat} (h : gTn t) (hj : j < 5) : gIx 1 (t + 7) (nI j) = true := ixT h (by omega) rfl hj (by omega)
theorem ix8 {t j : Nat} (h : gTn t) (hj : j < 5) : gIx 1 (t + 8) (nI j) = true := ixT h (by omega) rfl hj (by omega)
theorem ix9 {t j : Nat} (h : gTn t) (hj : j < 5) : gIx 1 (t + 9) (nI j) = true := ixT h (by omega) rfl hj (by omega)
theorem ixA1 {t j : Nat} (h : gTn t) (hj : j < 31) : gIx 1 (t + 10 + 1) (nI j) = true := ixT (i := 11) h (by omega) rfl hj (by omega)
theorem ixA2 {t j : Nat} (h : gTn t) (hj : j < 31) : gIx 1 (t + 10 + 2) (nI j) = true := ixT (i := 12) h (by omega) rfl hj (by omega)
theorem ixA3 {t j : Nat} (h : gTn t) (hj : j < 31) : gIx 1 (t + 10 + 3) (nI j) = true := ixT (i := 13) h (by omega) rfl hj (by omega)
theorem ixA4 {t j : Nat} (h : gTn t) (hj : j < 31) : gIx 1 (t + 10 + 4) (nI j) = true := ixT (i := 14) h (by omega) rfl hj (by omega)
/-- rows of the decade -/
theorem ix15 {j : Nat} (hj : j < 38) : gIx 1 15 (nI j) = true := gIx_k rfl (by decide) hj (by omega)
theorem ix16 {j : Nat} (hj : j < 38) : gIx 1 16 (nI j) = true := gIx_k rfl (by decide) hj (by omega)
theorem ix17 {j : Nat} (hj : j < 38) : gIx 1 17 (nI j) = true := gIx_k rfl (by decide) hj (by omega)
theorem ix18 {j : Nat} (hj : j < 38) : gIx 1 18 (nI j) = true := gIx_k rfl (by decide) hj (by omega)
theorem ix19 {j : Nat} (hj : j < 12) : gIx 1 19 (nI j) = true := gIx_k rfl (by decide) hj (by omega)
theorem ix20 {j : Nat} (hj : j < 12) : gIx 1 20 (nI j) = true := gIx_k rfl (by decide) hj (by omega)
theorem ix21 {j : Nat} (hj : j < 12) : gIx 1 21 (nI j) = true := gIx_k rfl (by decide) hj (by omega)
theorem ix22 {j : Nat} (hj : j < 12) : gIx 7 22 (nI j) = true := gIx_k rfl (by decide) hj (by omega)
theorem ix35 {j : Nat} (hj : j < 12) : gIx 7 35 (nI j) = true := gIx_k rfl (by decide) hj (by omega)
theorem ix48 {j : Nat} (hj : j < 12) : gIx 7 48 (nI j) = true := gIx_k rfl (by decide) hj (by omega)
theorem gSh_y : ∀ y, y < 12 → (gSh (23 + y) = (1, 6) ∧ 23 + y < gN) ∧ (gSh (36 + y) = (1, 6) ∧ 36 + y < gN) ∧ (gSh (49 + y) = (1, 6) ∧ 49 + y < gN) := by decide +kernel
theorem ixW {y p : Nat} (hy : y < 12) (hp : p < 6) : gIx 1 (23 + y) (nI p) = true := gIx_k (gSh_y y hy).1.1 (gSh_y y hy).1.2 hp (by omega)
theorem ixI {y p : Nat} (hy : y < 12) (hp : p < 6) : gIx 1 (36 + y) (nI p) = true := gIx_k (gSh_y y hy).2.1.1 (gSh_y y hy).2.1.2 hp (by omega)
theorem ixF {y p : Nat} (hy : y < 12) (hp : p < 6) : gIx 1 (49 + y) (nI p) = true := gIx_k (gSh_y y hy).2.2.1 (gSh_y y hy).2.2.2 hp (by omega)
theorem ra22 (y : Nat) : gRa 22 y = 23 + y := rfl
theorem ra35 (y : Nat) : gRa 35 y = 36 + y := rfl
theorem ra48 (y : Nat) : gRa 48 y = 49 + y := rfl
