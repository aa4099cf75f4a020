/-! Numbers, bits, loops: what the functions are read with. -/
theorem gB0_some {α ρ : Type} (a : α) (k : α → Option ρ) : gB0 (some a) k = k a := rfl
theorem gBp_some {α β ρ : Type} (a : α × β) (k : α → β → Option ρ) : gBp (some a) k = k a.1 a.2 := rfl
theorem gEx_some {σ ρ : Type} (a : ρ) : (gEx (some a) : Option (Sum σ ρ)) = some (.inr a) := rfl
theorem gEx_none {σ ρ : Type} : (gEx none : Option (Sum σ ρ)) = none := rfl
/-- a loop of n turns whose states are known -/
theorem gLp_for {σ ρ : Type} {f : σ → Option (Sum σ ρ)} (st : Nat → σ) (n : Nat) (X : Option ρ) (hn : n < 4096) (hs : ∀ i, i < n → f (st i) = some (.inl (st (i + 1)))) (he : f (st n) = gEx X) (s0 : σ) (h0 : s0 = st 0) : gLp f gFu s0 = X := by
  have key : ∀ k i m, k + i = n → k < m → gLp f m (st i) = X := by
    intro k
    induction k with
    | zero =>
      intro i m hi hm
      obtain ⟨m, rfl⟩ : ∃ m', m = m' + 1 := ⟨m - 1, by omega⟩
      have : i = n := by omega
      subst this
      unfold gLp
      rw [he]
      cases X <;> rfl
    | succ k ih =>
      intro i m hi hm
      obtain ⟨m, rfl⟩ : ∃ m', m = m' + 1 := ⟨m - 1, by omega⟩
      unfold gLp
      rw [hs i (by omega)]
      exact ih (i + 1) m (by omega) (by omega)
  rw [h0]
  exact key n 0 gFu (by omega) (by unfold gFu; omega)
/-- a loop of at most n turns, with what holds ahead of each -/
theorem gLp_inv {σ ρ : Type} {f : σ → Option (Sum σ ρ)} (I : Nat → σ → Prop) (n : Nat) (X : ρ → Prop) (hn : n < 4096) (hs : ∀ i s, i < n → I i s → (∃ s', f s = some (.inl s') ∧ I (i + 1) s') ∨ ∃ r, f s = some (.inr r) ∧ X r) (he : ∀ s, I n s → ∃ r, f s = some (.inr r) ∧ X r) (s0 : σ) (h0 : I 0 s0) : ∃ r, gLp f gFu s0 = some r ∧ X r := by
  have key : ∀ k i m s, k + i = n → k < m → I i s → ∃ r, gLp f m s = some r ∧ X r := by
    intro k
    induction k with
    | zero =>
      intro i m s hi hm h
      obtain ⟨m, rfl⟩ : ∃ m', m = m' + 1 := ⟨m - 1, by omega⟩
      have : i = n := by omega
      subst this
      obtain ⟨r, h1, h2⟩ := he s h
      exact ⟨r, by unfold gLp; rw [h1], h2⟩
    | succ k ih =>
      intro i m s hi hm h
      obtain ⟨m, rfl⟩ : ∃ m', m = m' + 1 := ⟨m - 1, by omega⟩
      rcases hs i s (by omega) h with ⟨s', h1, h2⟩ | ⟨r, h1, h2⟩
      · obtain ⟨r, h3, h4⟩ := ih (i + 1) m s' (by omega) (by omega) h2
        exact ⟨r, by unfold gLp; rw [h1]; exact h3, h4⟩
      · exact ⟨r, by unfold gLp; rw [h1], h2⟩
  exact key n 0 gFu s0 (by omega) (by unfold gFu; omega) h0
/-! bits -/
def bt (x : Int32) (i : Nat) : Bool := x.toBitVec.getLsbD i
theorem b_ext {x y : Int32} (h : ∀ i, i < 32 → bt x i = bt y i) : x = y := Int32.toBitVec_inj.mp (BitVec.eq_of_getLsbD_eq (fun i hi => h i hi))
theorem b_or (x y : Int32) (i : Nat) : bt (x ||| y) i = (bt x i || bt y i) := by unfold bt; rw [Int32.toBitVec_or, BitVec.getLsbD_or]
theorem b_and (x y : Int32) (i : Nat) : bt (x &&& y) i = (bt x i && bt y i) := by unfold bt; rw [Int32.toBitVec_and, BitVec.getLsbD_and]
theorem b_xor (x y : Int32) (i : Nat) : bt (x ^^^ y) i = (bt x i ^^ bt y i) := by unfold bt; rw [Int32.toBitVec_xor, BitVec.getLsbD_xor]
theorem b_big {x : Int32} {i : Nat} (h : 32 ≤ i) : bt x i = false := BitVec.getLsbD_of_ge _ _ h
theorem b_m1 : ∀ i, i < 32 → bt (-1) i = true := by decide +kernel
theorem b_0 (i : Nat) : bt 0 i = false := BitVec.getLsbD_zero
theorem s_l : ∀ n, n < 32 → ((nI n &&& 31).toBitVec.smod 32).toNat = n := by decide +kernel
theorem b_shl (n : Nat) (hn : n < 32) (x : Int32) {i : Nat} (hi : i < 32) : bt (x <<< (nI n &&& 31)) i = (decide (n ≤ i) && bt x (i - n)) := by
  unfold bt
  rw [Int32.toBitVec_shiftLeft]
  show (x.toBitVec <<< ((nI n &&& 31).toBitVec.smod 32).toNat).getLsbD i = _
  rw [s_l n hn, BitVec.getLsbD_shiftLeft]
  rcases Nat.lt_or_ge i n with h | h
  · simp [h, Nat.not_le.mpr h]
  · simp [hi, h, Nat.not_lt.mpr h]
theorem b_sshr (n : Nat) (hn : n < 32) (x : Int32) {i : Nat} (hi : i < 32) : bt (x >>> (nI n &&& 31)) i = if n + i < 32 then bt x (n + i) else bt x 31 := by
  unfold bt
  rw [Int32.toBitVec_shiftRight]
  show (x.toBitVec.sshiftRight ((nI n &&& 31).toBitVec.smod 32).toNat).getLsbD i = _
  rw [s_l n hn, BitVec.getLsbD_sshiftRight, BitVec.msb_eq_getLsbD_last]
  simp [hi]
theorem b_not (x : Int32) {i : Nat} (hi : i < 32) : bt (x ^^^ (-1)) i = !bt x i := by
  rw [b_xor, b_m1 i hi, Bool.xor_true]
/-- one bit -/
def b1 (k : Nat) : Int32 := (1 : Int32) <<< (nI k &&& 31)
theorem b_1 : ∀ i, i < 32 → bt 1 i = decide (i = 0) := by decide +kernel
theorem bt_b1 {k i : Nat} (hk : k < 32) : bt (b1 k) i = decide (i = k) := by
  rcases Nat.lt_or_ge i 32 with hi | hi
  · unfold b1
    rw [b_shl k hk 1 hi, b_1 _ (by omega)]
    by_cases h : i = k
    · subst h; simp
    · rw [decide_eq_false h]
      rcases Nat.lt_or_ge i k with h2 | h2
      · rw [decide_eq_false (by omega), Bool.false_and]
      · rw [decide_eq_false (p := i - k = 0) (by omega), Bool.and_false]
  · rw [b_big hi, decide_eq_false (by omega)]
def bI (b : Bool) : Int32 := if b = true then 1 else 0
theorem bI_0 (b : Bool) : (bI b = 0) = (b = false) := by cases b <;> simp [bI]
theorem bI_1 (b : Bool) : (bI b = 1) = (b = true) := by cases b <;> simp [bI]
theorem bI_t : bI true = 1 := rfl
theorem bI_f : bI false = 0 := rfl
theorem shr_and1 (s : Int32) {k : Nat} (hk : k < 32) : (s >>> (nI k &&& 31)) &&& 1 = bI (bt s k) := by
  apply b_ext
  intro i hi
  rw [b_and, b_1 i hi, b_sshr k hk s hi]
  by_cases h : i = 0
  · subst h
    rw [Nat.add_zero, if_pos hk]
    cases hb : bt s k
    · rw [bI_f, b_0]; rfl
    · rw [bI_t]; rfl
  · rw [decide_eq_false h, Bool.and_false]
    cases bt s k
    · rw [bI_f, b_0]
    · rw [bI_t, b_1 i hi, decide_eq_false h]
/-- the bits of a set -/
def gMk : Nat → (Nat → Bool) → Int32
  | 0, _ => 0
  | n + 1, f => if f n = true then gMk n f ||| b1 n else gMk n f
theorem gMk_s (n : Nat) (f : Nat → Bool) : gMk (n + 1) f = if f n = true then gMk n f ||| b1 n else gMk n f := rfl
theorem bt_gMk {n : Nat} (hn : n ≤ 32) (f : Nat → Bool) (k : Nat) : bt (gMk n f) k = (decide (k < n) && f k) := by
  induction n with
  | zero => rw [gMk, b_0, decide_eq_false (by omega), Bool.false_and]
  | succ n ih =>
    rw [gMk]
    by_cases h : f n = true
    · rw [if_pos h, b_or, ih (by omega), bt_b1 (by omega)]
      by_cases hk : k = n
      · subst hk; simp [h]
      · rw [decide_eq_false hk, Bool.or_false]
        congr 1
        exact decide_eq_decide.mpr (by omega)
    · rw [if_neg h, ih (by omega)]
      by_cases hk : k = n
      · subst hk; simp [h]
      · congr 1
        exact decide_eq_decide.mpr (by omega)
theorem gMk_ext {n : Nat} {f g : Nat → Bool} (h : ∀ k, k < n → f k = g k) : gMk n f = gMk n g := by
  induction n with
  | zero => rfl
  | succ n ih => rw [gMk, gMk, h n (by omega), ih (fun k hk => h k (by omega))]
/-- a set whose bits are known -/
theorem gMk_of {x : Int32} {n : Nat} (hn : n ≤ 32) {f : Nat → Bool} (h : ∀ k, k < n → bt x k = f k) (h0 : ∀ k, n ≤ k → k < 32 → bt x k = false) : x = gMk n f := by
  apply b_ext
  intro i hi
  rw [bt_gMk hn]
  rcases Nat.lt_or_ge i n with hk | hk
  · rw [h i hk, decide_eq_true hk, Bool.true_and]
  · rw [h0 i hk hi, decide_eq_false (by omega), Bool.false_and]
theorem gMk_up {n m : Nat} (hm : m ≤ 32) (hn : n ≤ m) {f : Nat → Bool} (h : ∀ k, n ≤ k → k < m → f k = false) : gMk n f = gMk m f := by
  refine gMk_of hm (fun k hk => ?_) (fun k hk _ => ?_)
  · rw [bt_gMk (by omega)]
    rcases Nat.lt_or_ge k n with h1 | h1
    · rw [decide_eq_true h1, Bool.true_and]
    · rw [decide_eq_false (by omega), Bool.false_and, h k h1 hk]
  · rw [bt_gMk (by omega), decide_eq_false (by omega), Bool.false_and]
theorem gMk_or {n : Nat} (hn : n ≤ 32) (f g : Nat → Bool) : gMk n f ||| gMk n g = gMk n (fun k => f k || g k) := by
  refine gMk_of hn (fun k hk => ?_) (fun k hk _ => ?_)
  · rw [b_or, bt_gMk hn, bt_gMk hn, decide_eq_true hk]; simp
  · rw [b_or, bt_gMk hn, bt_gMk hn, decide_eq_false (by omega)]; simp
theorem gMk_and {n : Nat} (hn : n ≤ 32) (f g : Nat → Bool) : gMk n f &&& gMk n g = gMk n (fun k => f k && g k) := by
  refine gMk_of hn (fun k hk => ?_) (fun k hk _ => ?_)
  · rw [b_and, bt_gMk hn, bt_gMk hn, decide_eq_true hk]; simp
  · rw [b_and, bt_gMk hn, bt_gMk hn, decide_eq_false (by omega)]; simp
theorem gMk_andn {n : Nat} (hn : n ≤ 32) (f g : Nat → Bool) : gMk n f &&& (gMk n g ^^^ (-1)) = gMk n (fun k => f k && !g k) := by
  refine gMk_of hn (fun k hk => ?_) (fun k hk h2 => ?_)
  · rw [b_and, b_not _ (by omega), bt_gMk hn, bt_gMk hn, decide_eq_true hk]; simp
  · rw [b_and, bt_gMk hn, decide_eq_false (by omega)]; simp
theorem gMk_b1 {n k : Nat} (hn : n ≤ 32) (hk : k < n) : b1 k = gMk n (fun j => decide (j = k)) := by
  refine gMk_of hn (fun j hj => bt_b1 (by omega)) (fun j hj _ => ?_)
  rw [bt_b1 (by omega), decide_eq_false (by omega)]
theorem gMk_0 {n : Nat} (hn : n ≤ 32) : (0 : Int32) = gMk n (fun _ => false) := gMk_of hn (fun _ _ => b_0 _) (fun _ _ _ => b_0 _)
theorem gMk_inj {n : Nat} (hn : n ≤ 32) {f g : Nat → Bool} (h : gMk n f = gMk n g) : ∀ k, k < n → f k = g k := by
  intro k hk
  have := congrArg (fun x => bt x k) h
  simp only [bt_gMk hn, decide_eq_true hk, Bool.true_and] at this
  exact this
theorem gMk_eq0 {n : Nat} (hn : n ≤ 32) (f : Nat → Bool) : gMk n f = 0 ↔ ∀ k, k < n → f k = false := by
  rw [gMk_0 hn]
  exact ⟨fun h k hk => gMk_inj hn h k hk, fun h => gMk_ext h⟩
/-! memory -/
theorem gSI_ne {M : gMem} {o j q : Nat} {x : Int32} (h : q ≠ o) : (gSI M o j x).1 q = M.1 q := if_neg h
theorem gSI_eq {M : gMem} {o j : Nat} {x : Int32} : (gSI M o j x).1 o j = x := by rw [gSI_0]; exact pk_us
theorem gSI_nj {M : gMem} {o j k : Nat} {x : Int32} (h : k ≠ j) : (gSI M o j x).1 o k = M.1 o k := by rw [gSI_0]; exact pk_un h
theorem gSI_2 {M : gMem} {o j : Nat} {x : Int32} : (gSI M o j x).2 = M.2 := rfl
theorem gSI_rd {M : gMem} {o j q k : Nat} {x : Int32} : (gSI M o j x).1 q k = if q = o ∧ k = j then x else M.1 q k := by
  by_cases h : q = o
  · subst h
    by_cases h2 : k = j
    · subst h2; rw [gSI_eq, if_pos ⟨rfl, rfl⟩]
    · rw [gSI_nj h2, if_neg (fun h => h2 h.2)]
  · rw [gSI_ne h, if_neg (fun g => h g.1)]
/-! places that are in their rows -/
theorem gIx_k {t a n j : Nat} (hs : gSh a = (t, n)) (ha : a < gN) (hj : j < n) (hn : n < 2 ^ 31) : gIx t a (nI j) = true := gIx_of hs ha rfl hj hn
theorem gIx_i {t a n : Nat} {x : Int32} (hs : gSh a = (t, n)) (ha : a < gN) (h0 : 0 ≤ x.toInt) (hx : x.toInt < n) : gIx t a x = true := by
  rw [gIx_eq]
  unfold gIx0 gAr0
  rw [hs]
  simp only [Bool.and_eq_true, decide_eq_true_eq, Nat.beq_eq, Nat.blt_eq]
  exact ⟨⟨trivial, ha⟩, h0, hx⟩
theorem nI_n0 (n : Nat) (h : n < 2 ^ 31) : (nI n = 0) = (n = 0) := propext ⟨fun e => (nI_eq (b := 0) h (by omega)).mp (by rw [e]; rfl), fun e => by rw [e]; rfl⟩
