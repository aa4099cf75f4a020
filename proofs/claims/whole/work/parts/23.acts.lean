/-! Acts, and what copies towns -/
def gLe : gLoc → gLoc → Prop
  | [], _ => True
  | none :: a, _ :: b => True ∧ gLe a b
  | some v :: a, w :: b => w = some v ∧ gLe a b
  | _ :: _, [] => False
theorem gLe_at : ∀ {a b : gLoc}, gLe a b → ∀ (i : Nat) (v : Value), a[i]? = some (some v) → b[i]? = some (some v)
  | [], _, _, i, v, h => by simp at h
  | none :: a, w :: b, hl, 0, v, h => by simp at h
  | none :: a, w :: b, hl, i + 1, v, h => by simpa using gLe_at hl.2 i v (by simpa using h)
  | some u :: a, w :: b, hl, 0, v, h => by
    simp at h
    subst h
    simp [hl.1]
  | some u :: a, w :: b, hl, i + 1, v, h => by simpa using gLe_at hl.2 i v (by simpa using h)
/-- some locals forgotten -/
theorem go_wk {G : gG} {Y : gY} {d : Nat} {Z : Option Value → gMem → Prop} {pc : Nat} {L : gLoc} {S : List Value} {M : gMem} {L' : gLoc} (k : gGo G Y d Z pc L' S M) (h : gLe L' L) : gGo G Y d Z pc L S M :=
  fun p l e s m args below meth c C hret hlk H locs ls hP hS hl => k p l e s m args below meth c C hret hlk H locs ls hP hS ⟨hl.1, hl.2.1, fun i v hi => hl.2.2 i v (gLe_at h i v hi)⟩
def isP (a b f s : Int32) : Int32 := if a = f then (if b = s then 1 else if a = s then (if b = f then 1 else 0) else 0) else if a = s then (if b = f then 1 else 0) else 0
theorem gTn_a0 {t k : Nat} (h : gTn t) (hk : k < 31) : gHx 1 (t + 10 + 1) k := gTn_h (i := 11) h (by decide) rfl hk (by decide)
theorem gTn_a1 {t k : Nat} (h : gTn t) (hk : k < 31) : gHx 1 (t + 10 + 2) k := gTn_h (i := 12) h (by decide) rfl hk (by decide)
theorem gTn_a2 {t k : Nat} (h : gTn t) (hk : k < 31) : gHx 1 (t + 10 + 3) k := gTn_h (i := 13) h (by decide) rfl hk (by decide)
theorem gTn_a3 {t k : Nat} (h : gTn t) (hk : k < 31) : gHx 1 (t + 10 + 4) k := gTn_h (i := 14) h (by decide) rfl hk (by decide)
theorem gTn_al {t i : Nat} (h : gTn t) (hi : i < 4) : gAl (t + 10 + 1 + i) = true ∧ gSh (t + 10 + 1 + i) = (1, 31) := by
  rw [show t + 10 + 1 + i = t + (11 + i) by omega]
  obtain ⟨h1, h2⟩ := gTn_at h (11 + i) (by omega)
  have h3 : gShT (11 + i) = (1, 31) := by rcases (by omega : i = 0 ∨ i = 1 ∨ i = 2 ∨ i = 3) with rfl | rfl | rfl | rfl <;> rfl
  refine ⟨?_, h1.trans h3⟩
  refine gAl_c ?_
  unfold gAl0
  rw [h1, h3, Bool.and_eq_true, Bool.and_eq_true]
  exact ⟨rfl, rfl, (Nat.blt_eq).mpr h2⟩
theorem R_isOf (G : gG) (M : gMem) (t k : Nat) (f s : Int32) (ht : gTn t) (hk : k < 31) : gRun G YX0_isOf 0 [.ref (t + 10), .int (nI k), .int f, .int s] M (fun r N => r = some (.int (isP (M.1 (t + 10 + 1) k) (M.1 (t + 10 + 2) k) f s)) ∧ N = M) := by
  refine gRun_in (by decide +kernel) rfl (fun d hd => ?_)
  repeat' (first | refine go_sx [] rfl okX0_isOf rfl ?_ | refine go_al okX0_isOf rfl (by first | with_reducible exact gTn_a0 ht hk | with_reducible exact gTn_a1 ht hk) ?_ | refine go_as okX0_isOf rfl (by first | with_reducible exact gTn_a0 ht hk | with_reducible exact gTn_a1 ht hk) ?_ | refine go_ck okX0_isOf rfl (by first | with_reducible exact gTn_acts ht | exact gOb_c rfl | exact gAl_c rfl | exact rfl) ?_ | refine go_br okX0_isOf rfl (fun _ => ?_) (fun _ => ?_))
  all_goals first | exact go_zret (reX0_isOf _ (by decide)) rfl (Or.inl rfl) ⟨by first | (simp only [isP, *, if_true, if_false, not_true_eq_false, not_false_eq_true, ne_eq]; done) | (simp [isP, *]; done) | (unfold isP; (repeat' split) <;> first | rfl | contradiction), rfl⟩ | exact go_zret (reX0_isOf _ (by decide)) rfl (Or.inr rfl) ⟨by first | (simp only [isP, *, if_true, if_false, not_true_eq_false, not_false_eq_true, ne_eq]; done) | (simp [isP, *]; done) | (unfold isP; (repeat' split) <;> first | rfl | contradiction), rfl⟩
def behd (made act y i : Int32) : Int32 := if made < y then 1 else if y = made then (if i ≤ act then 0 else 1) else 0
def cutR (f s y w : Nat → Int32) (a b made act : Int32) : Nat → Int32
  | 0 => 1000
  | k + 1 => if w k = 0 then (if behd made act (y k) (nI k) = 0 then cutR f s y w a b made act k else if isP (f k) (s k) a b = 0 then cutR f s y w a b made act k else if y k < cutR f s y w a b made act k then y k else cutR f s y w a b made act k) else cutR f s y w a b made act k
theorem R_cutOf (G : gG) (M : gMem) (t n : Nat) (a b made act : Int32) (ht : gTn t) (hn : M.1 (t + 10) 4 = nI n) (hn2 : n ≤ 31) : gRun G YX0_cutOf 1 [.ref (t + 10), .int a, .int b, .int made, .int act] M (fun r N => r = some (.int (cutR (M.1 (t + 10 + 1)) (M.1 (t + 10 + 2)) (M.1 (t + 10 + 3)) (M.1 (t + 10 + 4)) a b made act n)) ∧ N = M) := by
  refine gRun_in (by decide +kernel) rfl (fun d hd => ?_)
  repeat (first | refine go_sx [8, 53] rfl okX0_cutOf rfl ?_ | refine go_ck okX0_cutOf rfl (by first | with_reducible exact gTn_acts ht | exact gOb_c rfl | exact gAl_c rfl | exact rfl) ?_)
  refine go_for (fun i => [some (.ref (t + 10)), some (.int a), some (.int b), some (.int made), some (.int act), some (.int (cutR (M.1 (t + 10 + 1)) (M.1 (t + 10 + 2)) (M.1 (t + 10 + 3)) (M.1 (t + 10 + 4)) a b made act i)), some (.int (nI i)), none]) (fun _ => M) n (fun i hi k => ?_) ?_
  · have hi31 : i < 31 := by omega
    have e : (nI i).toNatClampNeg = i := nI_clamp (by omega)
    first | refine go_st okX0_cutOf rfl ?_ | refine go_ck okX0_cutOf rfl (by first | with_reducible exact gTn_acts ht | exact gOb_c rfl | exact gAl_c rfl | exact rfl) ?_
    repeat (first | refine go_sx [8, 53] rfl okX0_cutOf rfl ?_ | refine go_ck okX0_cutOf rfl (by first | with_reducible exact gTn_acts ht | exact gOb_c rfl | exact gAl_c rfl | exact rfl) ?_)
    refine go_br okX0_cutOf rfl (fun h => absurd h (lp_lt (hn) hi (by first | omega | decide))) (fun _ => ?_)
    rw [cutR, nI_succ] at k
    have fin : ∀ (x : Int32) (v : Option Value), x = (if M.1 (t + 10 + 4) i = 0 then (if behd made act (M.1 (t + 10 + 3) i) (nI i) = 0 then cutR (M.1 (t + 10 + 1)) (M.1 (t + 10 + 2)) (M.1 (t + 10 + 3)) (M.1 (t + 10 + 4)) a b made act i else if isP (M.1 (t + 10 + 1) i) (M.1 (t + 10 + 2) i) a b = 0 then cutR (M.1 (t + 10 + 1)) (M.1 (t + 10 + 2)) (M.1 (t + 10 + 3)) (M.1 (t + 10 + 4)) a b made act i else if M.1 (t + 10 + 3) i < cutR (M.1 (t + 10 + 1)) (M.1 (t + 10 + 2)) (M.1 (t + 10 + 3)) (M.1 (t + 10 + 4)) a b made act i then M.1 (t + 10 + 3) i else cutR (M.1 (t + 10 + 1)) (M.1 (t + 10 + 2)) (M.1 (t + 10 + 3)) (M.1 (t + 10 + 4)) a b made act i) else cutR (M.1 (t + 10 + 1)) (M.1 (t + 10 + 2)) (M.1 (t + 10 + 3)) (M.1 (t + 10 + 4)) a b made act i) → gGo G YX0_cutOf d (fun r N => r = some (.int (cutR (M.1 (t + 10 + 1)) (M.1 (t + 10 + 2)) (M.1 (t + 10 + 3)) (M.1 (t + 10 + 4)) a b made act n)) ∧ N = M) 8 [some (.ref (t + 10)), some (.int a), some (.int b), some (.int made), some (.int act), some (.int x), some (.int (nI i + 1)), v] [] M := by
      intro x v hx
      subst hx
      exact go_wk k ⟨rfl, rfl, rfl, rfl, rfl, rfl, rfl, True.intro, True.intro⟩
    have bh : ∀ (b7 : Int32), b7 = behd made act (M.1 (t + 10 + 3) i) (nI i) → gGo G YX0_cutOf d (fun r N => r = some (.int (cutR (M.1 (t + 10 + 1)) (M.1 (t + 10 + 2)) (M.1 (t + 10 + 3)) (M.1 (t + 10 + 4)) a b made act n)) ∧ N = M) 53 [some (.ref (t + 10)), some (.int a), some (.int b), some (.int made), some (.int act), some (.int (cutR (M.1 (t + 10 + 1)) (M.1 (t + 10 + 2)) (M.1 (t + 10 + 3)) (M.1 (t + 10 + 4)) a b made act i)), some (.int (nI i)), some (.int b7)] [] M := by
      intro b7 hb
      first | refine go_st okX0_cutOf rfl ?_ | refine go_ck okX0_cutOf rfl (by first | with_reducible exact gTn_acts ht | exact gOb_c rfl | exact gAl_c rfl | exact rfl) ?_
      repeat (first | refine go_sx [8, 53] rfl okX0_cutOf rfl ?_ | refine go_al okX0_cutOf rfl (by first | with_reducible exact gTn_a3 ht hi31) ?_ | refine go_as okX0_cutOf rfl (by first | with_reducible exact gTn_a3 ht hi31) ?_ | refine go_ck okX0_cutOf rfl (by first | with_reducible exact gTn_acts ht | exact gOb_c rfl | exact gAl_c rfl | exact rfl) ?_)
      refine go_br okX0_cutOf rfl (fun h1 => ?_) (fun h1 => ?_)
      · repeat (first | refine go_sx [8, 53] rfl okX0_cutOf rfl ?_ | refine go_ck okX0_cutOf rfl (by first | with_reducible exact gTn_acts ht | exact gOb_c rfl | exact gAl_c rfl | exact rfl) ?_)
        refine go_br okX0_cutOf rfl (fun h2 => ?_) (fun h2 => ?_)
        · rw [hb] at h2
          repeat (first | refine go_sx [8, 53] rfl okX0_cutOf rfl ?_ | refine go_ck okX0_cutOf rfl (by first | with_reducible exact gTn_acts ht | exact gOb_c rfl | exact gAl_c rfl | exact rfl) ?_)
          exact fin _ _ (by rw [if_pos h1, if_pos h2])
        · repeat (first | refine go_sx [8, 53] rfl okX0_cutOf rfl ?_ | refine go_ck okX0_cutOf rfl (by first | with_reducible exact gTn_acts ht | exact gOb_c rfl | exact gAl_c rfl | exact rfl) ?_)
          refine go_call1 ocX0_cutOf rfl rfl (gTn_acts ht) rfl (R_isOf G M t i a b ht hi31) (by omega) ?_
          rw [hb] at h2
          refine go_br okX0_cutOf rfl (fun h3 => ?_) (fun h3 => ?_)
          · repeat (first | refine go_sx [8, 53] rfl okX0_cutOf rfl ?_ | refine go_ck okX0_cutOf rfl (by first | with_reducible exact gTn_acts ht | exact gOb_c rfl | exact gAl_c rfl | exact rfl) ?_)
            exact fin _ _ (by rw [if_pos h1, if_neg h2, if_pos h3])
          · repeat (first | refine go_sx [8, 53] rfl okX0_cutOf rfl ?_ | refine go_al okX0_cutOf rfl (by first | with_reducible exact gTn_a2 ht hi31) ?_ | refine go_as okX0_cutOf rfl (by first | with_reducible exact gTn_a2 ht hi31) ?_ | refine go_ck okX0_cutOf rfl (by first | with_reducible exact gTn_acts ht | exact gOb_c rfl | exact gAl_c rfl | exact rfl) ?_)
            exact fin _ _ (by rw [if_pos h1, if_neg h2, if_neg h3])
      · repeat (first | refine go_sx [8, 53] rfl okX0_cutOf rfl ?_ | refine go_ck okX0_cutOf rfl (by first | with_reducible exact gTn_acts ht | exact gOb_c rfl | exact gAl_c rfl | exact rfl) ?_)
        exact fin _ _ (by rw [if_neg h1])
    repeat (first | refine go_sx [8, 53] rfl okX0_cutOf rfl ?_ | refine go_al okX0_cutOf rfl (by first | with_reducible exact gTn_a2 ht hi31) ?_ | refine go_as okX0_cutOf rfl (by first | with_reducible exact gTn_a2 ht hi31) ?_ | refine go_ck okX0_cutOf rfl (by first | with_reducible exact gTn_acts ht | exact gOb_c rfl | exact gAl_c rfl | exact rfl) ?_)
    refine go_br okX0_cutOf rfl (fun h1 => ?_) (fun h1 => ?_)
    · repeat (first | refine go_sx [8, 53] rfl okX0_cutOf rfl ?_ | refine go_ck okX0_cutOf rfl (by first | with_reducible exact gTn_acts ht | exact gOb_c rfl | exact gAl_c rfl | exact rfl) ?_)
      exact bh 1 (by rw [behd, if_pos h1])
    · repeat (first | refine go_sx [8, 53] rfl okX0_cutOf rfl ?_ | refine go_al okX0_cutOf rfl (by first | with_reducible exact gTn_a2 ht hi31) ?_ | refine go_as okX0_cutOf rfl (by first | with_reducible exact gTn_a2 ht hi31) ?_ | refine go_ck okX0_cutOf rfl (by first | with_reducible exact gTn_acts ht | exact gOb_c rfl | exact gAl_c rfl | exact rfl) ?_)
      refine go_br okX0_cutOf rfl (fun h2 => ?_) (fun h2 => ?_)
      · repeat (first | refine go_sx [8, 53] rfl okX0_cutOf rfl ?_ | refine go_ck okX0_cutOf rfl (by first | with_reducible exact gTn_acts ht | exact gOb_c rfl | exact gAl_c rfl | exact rfl) ?_)
        refine go_br okX0_cutOf rfl (fun h3 => ?_) (fun h3 => ?_)
        · repeat (first | refine go_sx [8, 53] rfl okX0_cutOf rfl ?_ | refine go_ck okX0_cutOf rfl (by first | with_reducible exact gTn_acts ht | exact gOb_c rfl | exact gAl_c rfl | exact rfl) ?_)
          exact bh 0 (by rw [behd, if_neg h1, if_pos h2, if_pos h3])
        · repeat (first | refine go_sx [8, 53] rfl okX0_cutOf rfl ?_ | refine go_ck okX0_cutOf rfl (by first | with_reducible exact gTn_acts ht | exact gOb_c rfl | exact gAl_c rfl | exact rfl) ?_)
          exact bh 1 (by rw [behd, if_neg h1, if_pos h2, if_neg h3])
      · repeat (first | refine go_sx [8, 53] rfl okX0_cutOf rfl ?_ | refine go_ck okX0_cutOf rfl (by first | with_reducible exact gTn_acts ht | exact gOb_c rfl | exact gAl_c rfl | exact rfl) ?_)
        exact bh 0 (by rw [behd, if_neg h1, if_neg h2])
  · first | refine go_st okX0_cutOf rfl ?_ | refine go_ck okX0_cutOf rfl (by first | with_reducible exact gTn_acts ht | exact gOb_c rfl | exact gAl_c rfl | exact rfl) ?_
    repeat (first | refine go_sx [8, 53] rfl okX0_cutOf rfl ?_ | refine go_ck okX0_cutOf rfl (by first | with_reducible exact gTn_acts ht | exact gOb_c rfl | exact gAl_c rfl | exact rfl) ?_)
    refine go_br okX0_cutOf rfl (fun _ => ?_) (fun h => absurd (lp_ge (hn)) h)
    repeat (first | refine go_sx [8, 53] rfl okX0_cutOf rfl ?_ | refine go_ck okX0_cutOf rfl (by first | with_reducible exact gTn_acts ht | exact gOb_c rfl | exact gAl_c rfl | exact rfl) ?_)
    exact go_iret (reX0_cutOf _ (by decide)) rfl (⟨rfl, rfl⟩)
