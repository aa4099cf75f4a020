/-! Whole numbers by their value; the greatest that divides two. -/
theorem bm_id {x : Int} {n : Nat} (h1 : -((n : Int) / 2) ≤ x) (h2 : x < ((n : Int) + 1) / 2) : x.bmod n = x := Int.bmod_eq_of_le h1 h2
theorem i32 {x : Int} (h : x.natAbs < 2 ^ 31) : x.bmod (2 ^ 32) = x := bm_id (by omega) (by omega)
theorem i64 {x : Int} (h : x.natAbs < 2 ^ 63) : x.bmod (2 ^ 64) = x := bm_id (by omega) (by omega)
theorem nI_int (n : Nat) (h : n < 2 ^ 31) : (nI n).toInt = (n : Int) := by
  show (Int32.ofNat n).toInt = _
  exact Int32.toInt_ofNat_of_lt (by simpa using h)
theorem j_add {x y : Int32} {a b : Int} (hx : x.toInt = a) (hy : y.toInt = b) (h : (a + b).natAbs < 2 ^ 31) : (x + y).toInt = a + b := by rw [Int32.toInt_add, hx, hy, i32 h]
theorem j_sub {x y : Int32} {a b : Int} (hx : x.toInt = a) (hy : y.toInt = b) (h : (a - b).natAbs < 2 ^ 31) : (x - y).toInt = a - b := by rw [Int32.toInt_sub, hx, hy, i32 h]
theorem j_mul {x y : Int32} {a b : Int} (hx : x.toInt = a) (hy : y.toInt = b) (h : (a * b).natAbs < 2 ^ 31) : (x * y).toInt = a * b := by rw [Int32.toInt_mul, hx, hy, i32 h]
theorem j_div {x y : Int32} {a b : Int} (hx : x.toInt = a) (hy : y.toInt = b) (h : (a.tdiv b).natAbs < 2 ^ 31) : (x / y).toInt = a.tdiv b := by rw [Int32.toInt_div, hx, hy, i32 h]
theorem k_add {x y : Int64} {a b : Int} (hx : x.toInt = a) (hy : y.toInt = b) (h : (a + b).natAbs < 2 ^ 63) : (x + y).toInt = a + b := by rw [Int64.toInt_add, hx, hy, i64 h]
theorem k_sub {x y : Int64} {a b : Int} (hx : x.toInt = a) (hy : y.toInt = b) (h : (a - b).natAbs < 2 ^ 63) : (x - y).toInt = a - b := by rw [Int64.toInt_sub, hx, hy, i64 h]
theorem k_mul {x y : Int64} {a b : Int} (hx : x.toInt = a) (hy : y.toInt = b) (h : (a * b).natAbs < 2 ^ 63) : (x * y).toInt = a * b := by rw [Int64.toInt_mul, hx, hy, i64 h]
theorem k_div {x y : Int64} {a b : Int} (hx : x.toInt = a) (hy : y.toInt = b) (h : (a.tdiv b).natAbs < 2 ^ 63) : (x / y).toInt = a.tdiv b := by rw [Int64.toInt_div, hx, hy, i64 h]
theorem td_le (a b : Int) : (a.tdiv b).natAbs ≤ a.natAbs := by
  rw [Int.natAbs_tdiv]
  exact Nat.div_le_self _ _
/-- what stays over -/
theorem td_md (a b : Int) : a - a.tdiv b * b = a.tmod b := by
  have := Int.tmod_add_mul_tdiv a b
  rw [Int.mul_comm]
  omega
theorem tm_na (a b : Int) : (a.tmod b).natAbs = a.natAbs % b.natAbs := Int.natAbs_tmod a b
def gd (a b : Int) : Nat := Nat.gcd a.natAbs b.natAbs
theorem gd_0 {a b : Int} (h : b = 0) : gd a b = a.natAbs := by subst h; exact Nat.gcd_zero_right _
theorem gd_s (a b : Int) : gd b (a.tmod b) = gd a b := by
  unfold gd
  rw [tm_na, Nat.gcd_comm a.natAbs b.natAbs, Nat.gcd_rec b.natAbs a.natAbs, Nat.gcd_comm]
theorem i32_eq0 {x : Int32} {a : Int} (h : x.toInt = a) : (x = 0) ↔ a = 0 := by
  constructor
  · intro e; subst e; rw [← h]; rfl
  · intro e; exact Int32.toInt_inj.mp (by rw [h, e]; rfl)
theorem i64_eq0 {x : Int64} {a : Int} (h : x.toInt = a) : (x = 0) ↔ a = 0 := by
  constructor
  · intro e; subst e; rw [← h]; rfl
  · intro e; exact Int64.toInt_inj.mp (by rw [h, e]; rfl)
theorem half_md {a b : Nat} (hb : b ≠ 0) (hc : a % b ≠ 0) : 2 * (b % (a % b)) < b := by
  have h1 : a % b < b := Nat.mod_lt _ (by omega)
  have h2 : b % (a % b) < a % b := Nat.mod_lt _ (by omega)
  have h3 := Nat.div_add_mod b (a % b)
  have h4 : 1 ≤ b / (a % b) := (Nat.le_div_iff_mul_le (by omega)).mpr (by omega)
  have h5 : a % b ≤ (a % b) * (b / (a % b)) := Nat.le_mul_of_pos_right _ h4
  omega
theorem rem32 {x y : Int32} {a b : Int} (hx : x.toInt = a) (hy : y.toInt = b) (ha : a.natAbs < 2 ^ 31) : (x - x / y * y).toInt = a.tmod b := by
  have h1 := td_le a b
  have h2 : (a.tdiv b * b).natAbs ≤ a.natAbs := by
    rw [Int.natAbs_mul, Int.natAbs_tdiv]
    exact Nat.div_mul_le_self _ _
  have h3 : (a - a.tdiv b * b).natAbs < 2 ^ 31 := by
    rw [td_md, tm_na]
    exact Nat.lt_of_le_of_lt (Nat.mod_le _ _) ha
  rw [← td_md]
  exact j_sub hx (j_mul (j_div hx hy (by omega)) hy (by omega)) h3
theorem rem64 {x y : Int64} {a b : Int} (hx : x.toInt = a) (hy : y.toInt = b) (ha : a.natAbs < 2 ^ 63) : (x - x / y * y).toInt = a.tmod b := by
  have h1 := td_le a b
  have h2 : (a.tdiv b * b).natAbs ≤ a.natAbs := by
    rw [Int.natAbs_mul, Int.natAbs_tdiv]
    exact Nat.div_mul_le_self _ _
  have h3 : (a - a.tdiv b * b).natAbs < 2 ^ 63 := by
    rw [td_md, tm_na]
    exact Nat.lt_of_le_of_lt (Nat.mod_le _ _) ha
  rw [← td_md]
  exact k_sub hx (k_mul (k_div hx hy (by omega)) hy (by omega)) h3
theorem comm_done {k : Nat} {x y : Int32} {a b : Int} (hx : x.toInt = a) (hy : y.toInt = b) (ha : a.natAbs < 2 ^ 31) (hb : b = 0) : ∃ r, gComm (k + 1) x y = some r ∧ r.toInt = (gd a b : Int) := by
  rw [gComm, if_pos ((i32_eq0 hy).mpr hb), gd_0 hb]
  by_cases c : (0 : Int32) ≤ x
  · have : 0 ≤ a := by rw [← hx]; exact Int32.le_iff_toInt_le.mp c
    exact ⟨x, if_pos c, by rw [hx]; omega⟩
  · have : ¬ 0 ≤ a := fun h => c (Int32.le_iff_toInt_le.mpr (by rw [hx]; exact h))
    refine ⟨-x, if_neg c, ?_⟩
    rw [Int32.toInt_neg, hx, i32 (by omega)]
    omega
theorem comm_gd : ∀ m k, 2 * m + 1 ≤ k → ∀ (x y : Int32) (a b : Int), x.toInt = a → y.toInt = b → a.natAbs < 2 ^ 31 → b.natAbs < 2 ^ 31 → b.natAbs < 2 ^ m → ∃ r, gComm k x y = some r ∧ r.toInt = (gd a b : Int) := by
  intro m
  induction m with
  | zero =>
    intro k hk x y a b hx hy ha hb hm
    obtain ⟨k, rfl⟩ : ∃ j, k = j + 1 := ⟨k - 1, by omega⟩
    exact comm_done hx hy ha (by omega)
  | succ m ih =>
    intro k hk x y a b hx hy ha hb hm
    obtain ⟨k, rfl⟩ : ∃ j, k = j + 1 + 1 := ⟨k - 2, by omega⟩
    by_cases c : b = 0
    · exact comm_done hx hy ha c
    · rw [gComm, if_neg (fun e => c ((i32_eq0 hy).mp e))]
      have hr := rem32 hx hy ha
      have hl : (a.tmod b).natAbs < 2 ^ 31 := by rw [tm_na]; exact Nat.lt_of_le_of_lt (Nat.mod_le _ _) ha
      by_cases d : a.tmod b = 0
      · obtain ⟨r, r1, r2⟩ := comm_done (k := k) hy hr hb d
        exact ⟨r, r1, by rw [r2, gd_s]⟩
      · rw [gComm, if_neg (fun e => d ((i32_eq0 hr).mp e))]
        have hr2 := rem32 hy hr hb
        have hl2 : (b.tmod (a.tmod b)).natAbs < 2 ^ m := by
          have := half_md (a := a.natAbs) (b := b.natAbs) (by omega) (by rw [← tm_na]; omega)
          rw [tm_na, tm_na]
          rw [Nat.pow_succ] at hm
          omega
        have hl3 : (b.tmod (a.tmod b)).natAbs < 2 ^ 31 := by rw [tm_na]; exact Nat.lt_of_le_of_lt (Nat.mod_le _ _) hb
        obtain ⟨r, r1, r2⟩ := ih k (by omega) _ _ _ _ hr hr2 hl hl3 hl2
        exact ⟨r, r1, by rw [r2, gd_s, gd_s]⟩
theorem gLp_r {σ ρ : Type} {f : σ → Option (Sum σ ρ)} {n : Nat} {s : σ} {r : ρ} (h : f s = some (.inr r)) : gLp f (n + 1) s = some r := by rw [gLp, h]
theorem gLp_l {σ ρ : Type} {f : σ → Option (Sum σ ρ)} {n : Nat} {s s' : σ} (h : f s = some (.inl s')) : gLp f (n + 1) s = gLp f n s' := by rw [gLp, h]
theorem cd_step (x y : Int64) {j : Nat} (hj : j < 1000) (M : gMem) : fX8_commonDivisor_9 x y (nI j) M = if y = 0 then some (.inr x) else some (.inl (y, x - x / y * y, nI (j + 1))) := by
  unfold fX8_commonDivisor_9
  have h0 : ¬ (1000 : Int32) ≤ nI j := nI_ge (b := 1000) hj (by omega)
  rw [if_neg h0]
  simp only [lg_cmp_eq, nI_1]
  by_cases c : y = 0
  · rw [if_pos c, if_pos c]
  · rw [if_neg c, if_neg c, if_neg c]
theorem cd_gd (M : gMem) : ∀ m k, 2 * m + 1 ≤ k → ∀ (j : Nat) (x y : Int64) (a b : Nat), j + 2 * m + 1 ≤ 1000 → x.toInt = a → y.toInt = b → a < 2 ^ 63 → b < 2 ^ 63 → b < 2 ^ m → ∃ r, gLp (fun s : Int64 × Int64 × Int32 => fX8_commonDivisor_9 (s.1) (s.2.1) (s.2.2) M) k (x, y, nI j) = some r ∧ r.toInt = (gd a b : Int) := by
  have done : ∀ (k j : Nat) (x y : Int64) (a b : Nat), j < 1000 → x.toInt = a → y.toInt = b → b = 0 → ∃ r, gLp (fun s : Int64 × Int64 × Int32 => fX8_commonDivisor_9 (s.1) (s.2.1) (s.2.2) M) (k + 1) (x, y, nI j) = some r ∧ r.toInt = (gd a b : Int) := by
    intro k j x y a b hj hx hy hb
    subst hb
    rw [gLp_r (show (fun s : Int64 × Int64 × Int32 => fX8_commonDivisor_9 (s.1) (s.2.1) (s.2.2) M) (x, y, nI j) = some (.inr x) from (cd_step x y hj M).trans (if_pos ((i64_eq0 hy).mpr rfl)))]
    exact ⟨x, rfl, by rw [hx, gd_0 (b := ((0 : Nat) : Int)) rfl]; rfl⟩
  have go : ∀ (k j : Nat) (x y : Int64), j < 1000 → ¬ y = 0 → gLp (fun s : Int64 × Int64 × Int32 => fX8_commonDivisor_9 (s.1) (s.2.1) (s.2.2) M) (k + 1) (x, y, nI j) = gLp (fun s : Int64 × Int64 × Int32 => fX8_commonDivisor_9 (s.1) (s.2.1) (s.2.2) M) k (y, x - x / y * y, nI (j + 1)) := by
    intro k j x y hj hy
    exact gLp_l (show (fun s : Int64 × Int64 × Int32 => fX8_commonDivisor_9 (s.1) (s.2.1) (s.2.2) M) (x, y, nI j) = some (.inl (y, x - x / y * y, nI (j + 1))) from (cd_step x y hj M).trans (if_neg hy))
  have md : ∀ (a b : Nat), ((a : Int)).tmod (b : Int) = ((a % b : Nat) : Int) := fun a b => Int.ofNat_tmod a b |>.symm
  intro m
  induction m with
  | zero =>
    intro k hk j x y a b hj hx hy ha hb hm
    obtain ⟨k, rfl⟩ : ∃ j, k = j + 1 := ⟨k - 1, by omega⟩
    exact done k j x y a b (by omega) hx hy (by omega)
  | succ m ih =>
    intro k hk j x y a b hj hx hy ha hb hm
    obtain ⟨k, rfl⟩ : ∃ j, k = j + 1 + 1 := ⟨k - 2, by omega⟩
    by_cases c : b = 0
    · exact done (k + 1) j x y a b (by omega) hx hy c
    · rw [go (k + 1) j x y (by omega) (fun e => c (by have := (i64_eq0 hy).mp e; omega))]
      have hr : (x - x / y * y).toInt = ((a % b : Nat) : Int) := by rw [rem64 hx hy (by omega), md]
      have g1 : gd (b : Int) ((a % b : Nat) : Int) = gd (a : Int) (b : Int) := by rw [← md, gd_s]
      by_cases d : a % b = 0
      · obtain ⟨r, r1, r2⟩ := done k (j + 1) y (x - x / y * y) b (a % b) (by omega) hy hr d
        exact ⟨r, r1, by rw [r2, g1]⟩
      · rw [go k (j + 1) y _ (by omega) (fun e => d (by have := (i64_eq0 hr).mp e; omega))]
        have hr2 : (y - y / (x - x / y * y) * (x - x / y * y)).toInt = ((b % (a % b) : Nat) : Int) := by rw [rem64 hy hr (by omega), md]
        have hl := half_md c d
        have h1 : a % b < b := Nat.mod_lt _ (by omega)
        have g2 : gd ((a % b : Nat) : Int) ((b % (a % b) : Nat) : Int) = gd (b : Int) ((a % b : Nat) : Int) := by rw [← md b (a % b), gd_s]
        obtain ⟨r, r1, r2⟩ := ih k (by omega) (j + 2) _ _ (a % b) (b % (a % b)) (by omega) hr hr2 (by omega) (by omega) (by rw [Nat.pow_succ] at hm; omega)
        exact ⟨r, r1, by rw [r2, g2, g1]⟩
/-- a part in its lowest numbers: its upper or its lower number -/
def loP (a b : Int) (x : Int32) : Int := (if x = 0 then a else b).tdiv (gd a b)
theorem gd_pos {a b : Int} (h : 0 < b) : 0 < gd a b := Nat.gcd_pos_of_pos_right _ (by omega)
theorem M_part {x y w : Int32} {a b : Int} (hx : x.toInt = a) (hy : y.toInt = b) (ha : a.natAbs < 2 ^ 31) (hb : 0 < b) (hb2 : b < 2 ^ 29) (M : gMem) : ∃ r, fX9_part x y w M = some r ∧ r.toInt = loP a b w := by
  obtain ⟨g, g1, g2⟩ := comm_gd 29 60 (by omega) x y a b hx hy ha (by omega) (by omega)
  have hg := gd_pos (a := a) hb
  have hne : ¬ g = 0 := fun e => by have := (i32_eq0 g2).mp e; omega
  unfold fX9_part fX9_part_0 fX9_part_9 fX9_common loP
  rw [g1, gB0_some, gB0_some, if_neg hne, if_neg hne]
  by_cases c : w = 0
  · rw [if_pos c, if_pos c]
    exact ⟨_, rfl, j_div hx g2 (by have := td_le a (gd a b); omega)⟩
  · rw [if_neg c, if_neg c]
    exact ⟨_, rfl, j_div hy g2 (by have := td_le b (gd a b); omega)⟩
theorem C_lowest {x y : Int64} {w : Int32} {a b : Int} (hx : x.toInt = a) (hy : y.toInt = b) (ha : a.natAbs < 2 ^ 31) (hb : 0 < b) (hb2 : b < 2 ^ 29) (M : gMem) : ∃ r, fX8_lowest x y w M = some r ∧ r.toInt = loP a b w := by
  have hab : (if 0 < x then x else -x).toInt = (a.natAbs : Int) := by
    by_cases c : 0 < x
    · have : 0 < a := by rw [← hx]; exact Int64.lt_iff_toInt_lt.mp c
      rw [if_pos c, hx]; omega
    · have : ¬ 0 < a := fun h => c (Int64.lt_iff_toInt_lt.mpr (by rw [hx]; exact h))
      rw [if_neg c, Int64.toInt_neg, hx, i64 (by omega)]; omega
  have hy' : y.toInt = (b.natAbs : Int) := by rw [hy]; omega
  obtain ⟨g, g1, g2⟩ := cd_gd M 29 gFu (by decide) 0 _ y a.natAbs b.natAbs (by omega) hab hy' (by omega) (by omega) (by omega)
  have g3 : gd (a.natAbs : Int) (b.natAbs : Int) = gd a b := rfl
  rw [g3] at g2
  have hg := gd_pos (a := a) hb
  have hne : ¬ g = 0 := fun e => by have := (i64_eq0 g2).mp e; omega
  have g1 : fX8_commonDivisor (if 0 < x then x else -x) y M = some g := g1
  have toI : ∀ (z : Int64) (c : Int), z.toInt = c → c.natAbs < 2 ^ 31 → (Int64.toInt32 z).toInt = c := fun z c h h2 => by
    rw [Int64.toInt_toInt32, h, i32 h2]
  unfold fX8_lowest fX8_lowest_0 loP
  simp only [lg_cmp_eq]
  rw [g1, gB0_some, if_neg hne, if_neg hne, if_neg hne]
  have t1 := td_le a (gd a b)
  have t2 := td_le b (gd a b)
  by_cases c : w = 0
  · rw [if_pos c, if_pos c]
    exact ⟨_, rfl, toI _ _ (k_div hx g2 (by omega)) (by omega)⟩
  · rw [if_neg c, if_neg c]
    exact ⟨_, rfl, toI _ _ (k_div hy g2 (by omega)) (by omega)⟩
theorem lo_same {x y : Int64} {x2 y2 w : Int32} {a b : Int} (hx : x.toInt = a) (hy : y.toInt = b) (hx2 : x2.toInt = a) (hy2 : y2.toInt = b) (ha : a.natAbs < 2 ^ 31) (hb : 0 < b) (hb2 : b < 2 ^ 29) : ∃ r, (∀ M, fX8_lowest x y w M = some r) ∧ ∀ M, fX9_part x2 y2 w M = some r := by
  obtain ⟨r, r1, r2⟩ := M_part (w := w) hx2 hy2 ha hb hb2 ((fun _ _ => 0, fun _ _ => 0, fun _ => 0) : gMem)
  refine ⟨r, fun M => ?_, fun M => ?_⟩
  · obtain ⟨q, q1, q2⟩ := C_lowest (w := w) hx hy ha hb hb2 M
    rw [q1, Int32.toInt_inj.mp (q2.trans r2.symm)]
  · obtain ⟨q, q1, q2⟩ := M_part (w := w) hx2 hy2 ha hb hb2 M
    rw [q1, Int32.toInt_inj.mp (q2.trans r2.symm)]
