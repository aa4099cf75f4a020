/-! bits, and the smallest methods -/
theorem lg_len (G : gG) (vs : List Value) : (lg_sl (vs.map (gRl G))).length = (vs.map fun v => v.category).sum := by
  induction vs with
  | nil => rfl
  | cons v vs ih =>
    have e : lg_sl ((v :: vs).map (gRl G)) = (if (gRl G v).category = 2 then [.val (gRl G v), .second] else [.val (gRl G v)]) ++ lg_sl (vs.map (gRl G)) := rfl
    rw [e, List.length_append, ih, List.map_cons, List.sum_cons, gRl_cat]
    rcases lv_cat v with h | h
    · rw [h]; rfl
    · rw [h]; rfl
theorem gRun_in {G : gG} {Y : gY} {d : Nat} {vs : List Value} {M : gMem} {Z : Option Value → gMem → Prop} (hy : plainFor Y.1 = true) (hn : Nat.ble (vs.map fun v => v.category).sum Y.2.2.1 = true) (h : ∀ d', d ≤ d' → gGo G Y d' Z 0 (gEn Y.2.2.1 vs) [] M) : gRun G Y d vs M Z :=
  gRun_of hy (by rw [lg_len]; exact Nat.le_of_ble_eq_true hn) h
def gNo (hs : List Nat) (pc : Nat) : Bool := match hs with
  | [] => true
  | h :: r => bif Nat.beq pc h then false else gNo r pc
section GLP
variable {G : gG} {Y : gY} {d : Nat} {Z : Option Value → gMem → Prop} {pc : Nat} {tbl : List (Nat × gStp)}
/-- a step, but not from a loop's head -/
theorem go_sx {L : gLoc} {S : List Value} {M : gMem} {pc' : Nat} {L' : gLoc} {S' : List Value} {M' : gMem} (hs : List Nat) (_ : gNo hs pc = true) (ok : gOk Y tbl) (h : gAt tbl pc L S M = some (pc', L', S', M')) (k : gGo G Y d Z pc' L' S' M') : gGo G Y d Z pc L S M := go_st ok h k
/-- a loop of n turns, its state in σ -/
theorem go_loop {σ : Type} (I : Nat → σ → Prop) (L : Nat → σ → gLoc) (M : Nat → σ → gMem) (n : Nat) (body : ∀ i s, i < n → I i s → (∀ s', I (i + 1) s' → gGo G Y d Z pc (L (i + 1) s') [] (M (i + 1) s')) → gGo G Y d Z pc (L i s) [] (M i s)) (exit : ∀ s, I n s → gGo G Y d Z pc (L n s) [] (M n s)) (s0 : σ) (h0 : I 0 s0) : gGo G Y d Z pc (L 0 s0) [] (M 0 s0) := by
  have key : ∀ k i s, k + i = n → I i s → gGo G Y d Z pc (L i s) [] (M i s) := by
    intro k
    induction k with
    | zero => intro i s hi h; have : i = n := by omega
              subst this; exact exit s h
    | succ k ih => intro i s hi h; exact body i s (by omega) h (fun s' h' => ih (i + 1) s' (by omega) h')
  exact key n 0 s0 (by omega) h0
/-- a loop of n turns whose states are known -/
theorem go_for (L : Nat → gLoc) (M : Nat → gMem) (n : Nat) (body : ∀ i, i < n → gGo G Y d Z pc (L (i + 1)) [] (M (i + 1)) → gGo G Y d Z pc (L i) [] (M i)) (exit : gGo G Y d Z pc (L n) [] (M n)) : gGo G Y d Z pc (L 0) [] (M 0) :=
  go_loop (σ := Unit) (fun _ _ => True) (fun i _ => L i) (fun i _ => M i) n (fun i _ hi _ k => body i hi (k () trivial)) (fun _ _ => exit) () trivial
/-- the same, with what is known ahead of each turn -/
theorem go_forI (I : Nat → Prop) (L : Nat → gLoc) (M : Nat → gMem) (n : Nat) (body : ∀ i, i < n → I i → (I (i + 1) → gGo G Y d Z pc (L (i + 1)) [] (M (i + 1))) → gGo G Y d Z pc (L i) [] (M i)) (exit : I n → gGo G Y d Z pc (L n) [] (M n)) (h0 : I 0) : gGo G Y d Z pc (L 0) [] (M 0) :=
  go_loop (σ := Unit) (fun i _ => I i) (fun i _ => L i) (fun i _ => M i) n (fun i _ hi h k => body i hi h (k ())) (fun _ h => exit h) () h0
theorem lp_lt {x : Int32} {n i : Nat} (hp : x = nI n) (hi : i < n) (hn : n < 2 ^ 31) : ¬ x ≤ nI i := by rw [hp]; exact nI_ge hi hn
theorem lp_ge {x : Int32} {n : Nat} (hp : x = nI n) : x ≤ nI n := by rw [hp]; exact Int32.le_refl _
/-- place k is in row a -/
def gHx (tag a k : Nat) : Prop := gIx tag a (nI k) = true ∧ (nI k).toNatClampNeg = k
theorem gHx_of {tag a n k : Nat} (hs : gSh a = (tag, n)) (ha : a < gN) (hk : k < n) (hn : n < 2 ^ 31) : gHx tag a k := ⟨gIx_of hs ha rfl hk hn, nI_clamp (by omega)⟩
section GHX
variable {L L' : gLoc} {S S' : List Value} {M : gMem} {pc' tag a k : Nat}
theorem go_al (ok : gOk Y tbl) (h : gAt tbl pc L S M = ite (gIx tag a (nI k) = true) (some (pc', L', .int (M.1 a (nI k).toNatClampNeg) :: S', M)) none) (hx : gHx tag a k) (g : gGo G Y d Z pc' L' (.int (M.1 a k) :: S') M) : gGo G Y d Z pc L S M :=
  go_ck ok h hx.1 (by rw [hx.2]; exact g)
theorem go_jl (ok : gOk Y tbl) (h : gAt tbl pc L S M = ite (gIx tag a (nI k) = true) (some (pc', L', .long (M.2.1 a (nI k).toNatClampNeg) :: S', M)) none) (hx : gHx tag a k) (g : gGo G Y d Z pc' L' (.long (M.2.1 a k) :: S') M) : gGo G Y d Z pc L S M :=
  go_ck ok h hx.1 (by rw [hx.2]; exact g)
theorem go_as {x : Int32} (ok : gOk Y tbl) (h : gAt tbl pc L S M = ite (gIx tag a (nI k) = true) (some (pc', L', S', gSI M a (nI k).toNatClampNeg x)) none) (hx : gHx tag a k) (g : gGo G Y d Z pc' L' S' (gSI M a k x)) : gGo G Y d Z pc L S M :=
  go_ck ok h hx.1 (by rw [hx.2]; exact g)
theorem go_js {x : Int64} (ok : gOk Y tbl) (h : gAt tbl pc L S M = ite (gIx tag a (nI k) = true) (some (pc', L', S', gSJ M a (nI k).toNatClampNeg x)) none) (hx : gHx tag a k) (g : gGo G Y d Z pc' L' S' (gSJ M a k x)) : gGo G Y d Z pc L S M :=
  go_ck ok h hx.1 (by rw [hx.2]; exact g)
theorem go_aa {b : Nat} (ok : gOk Y tbl) (h : gAt tbl pc L S M = ite (gIx tag a (nI k) = true) (some (pc', L', .ref (gRa a (nI k).toNatClampNeg) :: S', M)) none) (hx : gHx tag a k ∧ gRa a k = b) (g : gGo G Y d Z pc' L' (.ref b :: S') M) : gGo G Y d Z pc L S M :=
  go_ck ok h hx.1.1 (by rw [hx.1.2, hx.2]; exact g)
/-- the same, the index another word for k -/
theorem go_alE {i : Int32} (ok : gOk Y tbl) (h : gAt tbl pc L S M = ite (gIx tag a i = true) (some (pc', L', .int (M.1 a i.toNatClampNeg) :: S', M)) none) (hx : gHx tag a k ∧ i = nI k) (g : gGo G Y d Z pc' L' (.int (M.1 a k) :: S') M) : gGo G Y d Z pc L S M := by
  obtain ⟨hx, rfl⟩ := hx
  exact go_al ok h hx g
theorem go_asE {i x : Int32} (ok : gOk Y tbl) (h : gAt tbl pc L S M = ite (gIx tag a i = true) (some (pc', L', S', gSI M a i.toNatClampNeg x)) none) (hx : gHx tag a k ∧ i = nI k) (g : gGo G Y d Z pc' L' S' (gSI M a k x)) : gGo G Y d Z pc L S M := by
  obtain ⟨hx, rfl⟩ := hx
  exact go_as ok h hx g
theorem go_aaE {b : Nat} {i : Int32} (ok : gOk Y tbl) (h : gAt tbl pc L S M = ite (gIx tag a i = true) (some (pc', L', .ref (gRa a i.toNatClampNeg) :: S', M)) none) (hx : (gHx tag a k ∧ gRa a k = b) ∧ i = nI k) (g : gGo G Y d Z pc' L' (.ref b :: S') M) : gGo G Y d Z pc L S M := by
  obtain ⟨hx, rfl⟩ := hx
  exact go_aa ok h hx g
end GHX
/-- a switch -/
def gSwG (G : gG) (Y : gY) (d : Nat) (Z : Option Value → gMem → Prop) (x : Int32) (L : gLoc) (S : List Value) (M : gMem) (df : Nat) : List (Int32 × Nat) → Prop
  | [] => gGo G Y d Z df L S M
  | q :: r => (x = q.1 → gGo G Y d Z q.2 L S M) ∧ (x ≠ q.1 → gSwG G Y d Z x L S M df r)
theorem gSwG_go {x : Int32} {L : gLoc} {S : List Value} {M : gMem} {df : Nat} : ∀ {ts : List (Int32 × Nat)}, gSwG G Y d Z x L S M df ts → gGr G Y d Z (gSw x L S M df ts)
  | [], h => h
  | q :: r, h => by
    unfold gSw
    exact gr_if h.1 (fun hn => gSwG_go (h.2 hn))
theorem go_sw {L L' : gLoc} {S S' : List Value} {M M' : gMem} {x : Int32} {df : Nat} {ts : List (Int32 × Nat)} (ok : gOk Y tbl) (h : gAt tbl pc L S M = gSw x L' S' M' df ts) (k : gSwG G Y d Z x L' S' M' df ts) : gGo G Y d Z pc L S M := go_r ok h (gSwG_go k)
end GLP
def gB (s j : Int32) : Int32 := if (s >>> (j &&& 31)) &&& 1 = 0 then 0 else 1
theorem R_has (G : gG) (M : gMem) (s j : Int32) : gRun G YX8_has 0 [.int s, .int j] M (fun r N => r = some (.int (gB s j)) ∧ N = M) := by
  refine gRun_in (by decide +kernel) rfl (fun d hd => ?_)
  repeat (first | refine go_sx [] rfl okX8_has rfl ?_ | refine go_ck okX8_has rfl (by first | exact gOb_c rfl | exact gAl_c rfl | exact rfl) ?_)
  refine go_br okX8_has rfl (fun h => ?_) (fun h => ?_)
  · repeat (first | refine go_sx [] rfl okX8_has rfl ?_ | refine go_ck okX8_has rfl (by first | exact gOb_c rfl | exact gAl_c rfl | exact rfl) ?_)
    exact go_zret (reX8_has _ (by decide)) rfl (Or.inl rfl) (⟨by rw [gB, if_pos h], rfl⟩)
  · repeat (first | refine go_sx [] rfl okX8_has rfl ?_ | refine go_ck okX8_has rfl (by first | exact gOb_c rfl | exact gAl_c rfl | exact rfl) ?_)
    exact go_zret (reX8_has _ (by decide)) rfl (Or.inr rfl) (⟨by rw [gB, if_neg h], rfl⟩)
theorem R_allOf (G : gG) (M : gMem) (n : Int32) : gRun G YX8_allOf 0 [.int n] M (fun r N => r = some (.int ((1 : Int32) <<< (n &&& 31) - 1)) ∧ N = M) := by
  refine gRun_in (by decide +kernel) rfl (fun d hd => ?_)
  repeat (first | refine go_sx [] rfl okX8_allOf rfl ?_ | refine go_ck okX8_allOf rfl (by first | exact gOb_c rfl | exact gAl_c rfl | exact rfl) ?_)
  exact go_iret (reX8_allOf _ (by decide)) rfl (⟨rfl, rfl⟩)
/-- the towns -/
theorem gTn_sh : ∀ i, i < 15 → ∀ j, j < 5 → gSh (66 + 15 * j + i) = gShT i ∧ 66 + 15 * j + i < gN := by decide +kernel
def gTn (t : Nat) : Prop := ∃ j, j < 5 ∧ t = 66 + 15 * j
theorem gTn_at {t : Nat} (h : gTn t) (i : Nat) (hi : i < 15) : gSh (t + i) = gShT i ∧ t + i < gN := by
  obtain ⟨j, hj, rfl⟩ := h
  exact gTn_sh i hi j hj
theorem gTn_ob {t : Nat} (h : gTn t) : gOb 7 t = true := by
  obtain ⟨h1, h2⟩ := gTn_at h 0 (by decide)
  refine gOb_c ?_
  unfold gOb0
  rw [Nat.add_zero] at h1 h2
  rw [h1, Bool.and_eq_true, Bool.and_eq_true]
  exact ⟨rfl, rfl, (Nat.blt_eq).mpr h2⟩
theorem gTn_acts {t : Nat} (h : gTn t) : gOb 0 (t + 10) = true := by
  obtain ⟨h1, h2⟩ := gTn_at h 10 (by decide)
  refine gOb_c ?_
  unfold gOb0
  rw [h1, Bool.and_eq_true, Bool.and_eq_true]
  exact ⟨rfl, rfl, (Nat.blt_eq).mpr h2⟩
theorem gTn_h {t i k n : Nat} (h : gTn t) (hi : i < 15) (hs : gShT i = (1, n)) (hk : k < n) (hn : n < 2 ^ 31) : gHx 1 (t + i) k :=
  gHx_of ((gTn_at h i hi).1.trans hs) (gTn_at h i hi).2 hk hn
theorem gTn_ix {t i j n : Nat} {x : Int32} (h : gTn t) (hi : i < 15) (hs : gShT i = (1, n)) (hx : x = nI j) (hj : j < n) (hn : n < 2 ^ 31) : gIx 1 (t + i) x = true :=
  gIx_of ((gTn_at h i hi).1.trans hs) (gTn_at h i hi).2 hx hj hn
/-- the sum over the members of a set -/
def sumS (n : Nat) (s : Int32) (f : Nat → Int32) : Int32 := match n with
  | 0 => 0
  | k + 1 => if gB s (nI k) = 0 then sumS k s f else sumS k s f + f k
theorem R_toldWorth (G : gG) (M : gMem) (t : Nat) (s : Int32) (np : Nat) (ht : gTn t) (hp : M.1 t 5 = nI np) (hn : np ≤ 6) : gRun G YX7_toldWorth 1 [.ref t, .int s] M (fun r N => r = some (.int (sumS np s (M.1 (t + 2)))) ∧ N = M) := by
  refine gRun_in (by decide +kernel) rfl (fun d hd => ?_)
  repeat (first | refine go_sx [4] rfl okX7_toldWorth rfl ?_ | refine go_ck okX7_toldWorth rfl (by first | with_reducible exact gTn_ob ht | exact gOb_c rfl | exact gAl_c rfl | exact rfl) ?_)
  refine go_for (fun i => [some (.ref t), some (.int s), some (.int (sumS i s (M.1 (t + 2)))), some (.int (nI i))]) (fun _ => M) np (fun i hi k => ?_) ?_
  · first | refine go_st okX7_toldWorth rfl ?_ | refine go_ck okX7_toldWorth rfl (by first | with_reducible exact gTn_ob ht | exact gOb_c rfl | exact gAl_c rfl | exact rfl) ?_
    repeat (first | refine go_sx [4] rfl okX7_toldWorth rfl ?_ | refine go_ck okX7_toldWorth rfl (by first | with_reducible exact gTn_ob ht | exact gOb_c rfl | exact gAl_c rfl | exact rfl) ?_)
    refine go_br okX7_toldWorth rfl (fun h => ?_) (fun h => ?_)
    · exact absurd h (by show ¬ M.1 t 5 ≤ nI i; rw [hp]; exact nI_ge (by omega) (by omega))
    repeat (first | refine go_sx [4] rfl okX7_toldWorth rfl ?_ | refine go_ck okX7_toldWorth rfl (by first | with_reducible exact gTn_ob ht | exact gOb_c rfl | exact gAl_c rfl | exact rfl) ?_)
    refine go_call1 ocX7_toldWorth rfl rfl (by first | exact gOb_c rfl | exact rfl) rfl (R_has G M s (nI i)) (by omega) ?_
    refine go_br okX7_toldWorth rfl (fun h => ?_) (fun h => ?_)
    · repeat (first | refine go_sx [4] rfl okX7_toldWorth rfl ?_ | refine go_ck okX7_toldWorth rfl (by first | with_reducible exact gTn_ob ht | exact gOb_c rfl | exact gAl_c rfl | exact rfl) ?_)
      rw [sumS, if_pos h, nI_succ] at k
      exact k
    · repeat (first | refine go_sx [4] rfl okX7_toldWorth rfl ?_ | refine go_al okX7_toldWorth rfl (by first | with_reducible exact gTn_h (i := 2) ht (by decide) rfl (show i < 6 by omega) (by decide)) ?_ | refine go_as okX7_toldWorth rfl (by first | with_reducible exact gTn_h (i := 2) ht (by decide) rfl (show i < 6 by omega) (by decide)) ?_ | refine go_ck okX7_toldWorth rfl (by first | with_reducible exact gTn_ob ht | exact gOb_c rfl | exact gAl_c rfl | exact rfl) ?_)
      rw [sumS, if_neg h, nI_succ] at k
      exact k
  · first | refine go_st okX7_toldWorth rfl ?_ | refine go_ck okX7_toldWorth rfl (by first | with_reducible exact gTn_ob ht | exact gOb_c rfl | exact gAl_c rfl | exact rfl) ?_
    repeat (first | refine go_sx [4] rfl okX7_toldWorth rfl ?_ | refine go_ck okX7_toldWorth rfl (by first | with_reducible exact gTn_ob ht | exact gOb_c rfl | exact gAl_c rfl | exact rfl) ?_)
    refine go_br okX7_toldWorth rfl (fun h => ?_) (fun h => ?_)
    · repeat (first | refine go_sx [4] rfl okX7_toldWorth rfl ?_ | refine go_ck okX7_toldWorth rfl (by first | with_reducible exact gTn_ob ht | exact gOb_c rfl | exact gAl_c rfl | exact rfl) ?_)
      exact go_iret (reX7_toldWorth _ (by decide)) rfl (⟨rfl, rfl⟩)
    · exact absurd (by show M.1 t 5 ≤ nI np; rw [hp]; exact Int32.le_refl _) h
