/-! Decade: firms, worths, colds of a year -/
theorem six : (6 : Int32) = nI 6 := rfl
def chg (M : gMem) (t y p : Nat) : Int32 := if gB (M.1 20 y) (nI p) = 0 then M.1 (t + 3) p - (if gB (M.1 21 y) (nI p) = 0 then 0 else M.1 t 3) else 0
theorem R_change (G : gG) (M : gMem) (t y p : Nat) (ht : gTn t) (hy : y < 12) (hp : p < 6) : gRun G YX2_change 1 [.ref 14, .ref t, .int (nI y), .int (nI p)] M (fun r N => r = some (.int (chg M t y p)) ∧ N = M) := by
  refine gRun_in (by decide +kernel) rfl (fun d hd => ?_)
  repeat' (first | refine go_sx [] rfl okX2_change rfl ?_ | refine go_al okX2_change rfl (by first | with_reducible exact dY1 hy | with_reducible exact dY2 hy | with_reducible exact gTn_h (i := 3) ht (by decide) rfl hp (by decide)) ?_ | refine go_as okX2_change rfl (by first | with_reducible exact dY1 hy | with_reducible exact dY2 hy | with_reducible exact gTn_h (i := 3) ht (by decide) rfl hp (by decide)) ?_ | refine go_ck okX2_change rfl (by first | with_reducible exact gTn_ob ht | exact gOb_c rfl | exact gAl_c rfl | exact rfl) ?_ | refine go_call1 ocX2_change rfl rfl (by first | exact gTn_ob ht | exact gOb_c rfl | exact gAl_c rfl | exact rfl) rfl (R_has G M _ _) (by omega) ?_ | refine go_br okX2_change rfl (fun _ => ?_) (fun _ => ?_))
  all_goals exact go_iret (reX2_change _ (by decide)) rfl ⟨by first | (simp only [chg, *, if_true, if_false, not_true_eq_false, not_false_eq_true, ne_eq]; done) | (simp [chg, *]; done) | (unfold chg; (repeat' split) <;> first | rfl | contradiction), rfl⟩
def hoI (M : gMem) (j : Nat) (year away : Int32) : Int32 := if year < M.1 17 j then 0 else if M.1 18 j ≤ year then 0 else if gB away (M.1 15 j) = 0 then (if gB away (M.1 16 j) = 0 then 1 else 0) else 0
theorem R_holdsIn (G : gG) (M : gMem) (j : Nat) (year away : Int32) (hj : j < 38) : gRun G YX2_holdsIn 1 [.ref 14, .int (nI j), .int year, .int away] M (fun r N => r = some (.int (hoI M j year away)) ∧ N = M) := by
  refine gRun_in (by decide +kernel) rfl (fun d hd => ?_)
  repeat' (first | refine go_sx [] rfl okX2_holdsIn rfl ?_ | refine go_al okX2_holdsIn rfl (by first | with_reducible exact dJ0 hj | with_reducible exact dJ1 hj | with_reducible exact dJ2 hj | with_reducible exact dJ3 hj) ?_ | refine go_as okX2_holdsIn rfl (by first | with_reducible exact dJ0 hj | with_reducible exact dJ1 hj | with_reducible exact dJ2 hj | with_reducible exact dJ3 hj) ?_ | refine go_ck okX2_holdsIn rfl (by first | exact gOb_c rfl | exact gAl_c rfl | exact rfl) ?_ | refine go_call1 ocX2_holdsIn rfl rfl (by first | exact gOb_c rfl | exact gAl_c rfl | exact rfl) rfl (R_has G M _ _) (by omega) ?_ | refine go_br okX2_holdsIn rfl (fun _ => ?_) (fun _ => ?_))
  all_goals first | exact go_zret (reX2_holdsIn _ (by decide)) rfl (Or.inl rfl) ⟨by first | (simp only [hoI, *, if_true, if_false, not_true_eq_false, not_false_eq_true, ne_eq]; done) | (simp [hoI, *]; done) | (unfold hoI; (repeat' split) <;> first | rfl | contradiction), rfl⟩ | exact go_zret (reX2_holdsIn _ (by decide)) rfl (Or.inr rfl) ⟨by first | (simp only [hoI, *, if_true, if_false, not_true_eq_false, not_false_eq_true, ne_eq]; done) | (simp [hoI, *]; done) | (unfold hoI; (repeat' split) <;> first | rfl | contradiction), rfl⟩
theorem hoI_01 (M : gMem) (j : Nat) (year away : Int32) : g01 (hoI M j year away) := by
  unfold hoI g01
  split
  · exact Or.inl rfl
  · split
    · exact Or.inl rfl
    · split
      · split
        · exact Or.inr rfl
        · exact Or.inl rfl
      · exact Or.inl rfl
def tiS (row : Nat → Int32) (s : Int32) : Nat → Int32
  | 0 => 0
  | k + 1 => if gB s (nI k) = 0 then tiS row s k else tiS row s k ||| row k
theorem tiS_s (row : Nat → Int32) (s : Int32) (k : Nat) : tiS row s (k + 1) = if gB s (nI k) = 0 then tiS row s k else tiS row s k ||| row k := rfl
theorem gAl_of {a n : Nat} (hs : gSh a = (1, n)) (ha : a < gN) : gAl a = true := by
  refine gAl_c ?_
  unfold gAl0
  rw [hs, Bool.and_eq_true, Bool.and_eq_true]
  exact ⟨rfl, rfl, (Nat.blt_eq).mpr ha⟩
theorem R_tiedTo (G : gG) (M : gMem) (a : Nat) (s : Int32) (hs : gSh a = (1, 6)) (ha : a < gN) : gRun G YX2_tiedTo 1 [.ref a, .int s] M (fun r N => r = some (.int (tiS (M.1 a) s 6)) ∧ N = M) := by
  have hl : nI (gSh a).2 = nI 6 := by rw [hs]
  refine gRun_in (by decide +kernel) rfl (fun d hd => ?_)
  repeat (first | refine go_sx [4] rfl okX2_tiedTo rfl ?_ | refine go_ck okX2_tiedTo rfl (by first | with_reducible exact gAl_of hs ha | exact gOb_c rfl | exact gAl_c rfl | exact rfl) ?_)
  refine go_for (fun i => [some (.ref a), some (.int s), some (.int (tiS (M.1 a) s i)), some (.int (nI i))]) (fun _ => M) 6 (fun i hi k => ?_) ?_
  · first | refine go_st okX2_tiedTo rfl ?_ | refine go_ck okX2_tiedTo rfl (by first | with_reducible exact gAl_of hs ha | exact gOb_c rfl | exact gAl_c rfl | exact rfl) ?_
    repeat (first | refine go_sx [4] rfl okX2_tiedTo rfl ?_ | refine go_ck okX2_tiedTo rfl (by first | with_reducible exact gAl_of hs ha | exact gOb_c rfl | exact gAl_c rfl | exact rfl) ?_)
    refine go_br okX2_tiedTo rfl (fun h => absurd h (lp_lt (hl) hi (by first | omega | decide))) (fun _ => ?_)
    repeat (first | refine go_sx [4] rfl okX2_tiedTo rfl ?_ | refine go_ck okX2_tiedTo rfl (by first | with_reducible exact gAl_of hs ha | exact gOb_c rfl | exact gAl_c rfl | exact rfl) ?_)
    refine go_call1 ocX2_tiedTo rfl rfl (by first | exact gOb_c rfl | exact rfl) rfl (R_has G M s (nI i)) (by omega) ?_
    rw [tiS_s _ _ i, nI_succ i] at k
    refine go_br okX2_tiedTo rfl (fun h => ?_) (fun h => ?_)
    · rw [if_pos h] at k
      repeat (first | refine go_sx [4] rfl okX2_tiedTo rfl ?_ | refine go_ck okX2_tiedTo rfl (by first | with_reducible exact gAl_of hs ha | exact gOb_c rfl | exact gAl_c rfl | exact rfl) ?_)
      exact k
    · rw [if_neg h] at k
      repeat (first | refine go_sx [4] rfl okX2_tiedTo rfl ?_ | refine go_al okX2_tiedTo rfl (by first | with_reducible exact gHx_of hs ha hi (by decide)) ?_ | refine go_as okX2_tiedTo rfl (by first | with_reducible exact gHx_of hs ha hi (by decide)) ?_ | refine go_ck okX2_tiedTo rfl (by first | with_reducible exact gAl_of hs ha | exact gOb_c rfl | exact gAl_c rfl | exact rfl) ?_)
      exact k
  · first | refine go_st okX2_tiedTo rfl ?_ | refine go_ck okX2_tiedTo rfl (by first | with_reducible exact gAl_of hs ha | exact gOb_c rfl | exact gAl_c rfl | exact rfl) ?_
    repeat (first | refine go_sx [4] rfl okX2_tiedTo rfl ?_ | refine go_ck okX2_tiedTo rfl (by first | with_reducible exact gAl_of hs ha | exact gOb_c rfl | exact gAl_c rfl | exact rfl) ?_)
    refine go_br okX2_tiedTo rfl (fun _ => ?_) (fun h => absurd (lp_ge (hl)) h)
    repeat (first | refine go_sx [4] rfl okX2_tiedTo rfl ?_ | refine go_ck okX2_tiedTo rfl (by first | with_reducible exact gAl_of hs ha | exact gOb_c rfl | exact gAl_c rfl | exact rfl) ?_)
    exact go_iret (reX2_tiedTo _ (by decide)) rfl (⟨rfl, rfl⟩)
def rcS (row : Nat → Int32) (s : Int32) : Nat → Int32
  | 0 => s
  | k + 1 => rcS row s k ||| tiS row (rcS row s k) 6
theorem rcS_st {row : Nat → Int32} {s : Int32} {k : Nat} (h : rcS row s (k + 1) = rcS row s k) : ∀ m, rcS row s (k + m) = rcS row s k
  | 0 => rfl
  | m + 1 => by
    have e := rcS_st h m
    show rcS row s (k + m) ||| tiS row (rcS row s (k + m)) 6 = _
    rw [e]
    exact h
theorem R_reach (G : gG) (M : gMem) (a : Nat) (s : Int32) (hs : gSh a = (1, 6)) (ha : a < gN) : gRun G YX2_reach 2 [.ref a, .int s] M (fun r N => r = some (.int (rcS (M.1 a) s 6)) ∧ N = M) := by
  refine gRun_in (by decide +kernel) rfl (fun d hd => ?_)
  repeat (first | refine go_sx [4] rfl okX2_reach rfl ?_ | refine go_ck okX2_reach rfl (by first | exact gOb_c rfl | exact gAl_c rfl | exact rfl) ?_)
  refine go_for (fun i => [some (.ref a), some (.int s), some (.int (rcS (M.1 a) s i)), some (.int (nI i)), none]) (fun _ => M) 6 (fun i hi k => ?_) ?_
  · first | refine go_st okX2_reach rfl ?_ | refine go_ck okX2_reach rfl (by first | exact gOb_c rfl | exact gAl_c rfl | exact rfl) ?_
    repeat (first | refine go_sx [4] rfl okX2_reach rfl ?_ | refine go_ck okX2_reach rfl (by first | exact gOb_c rfl | exact gAl_c rfl | exact rfl) ?_)
    refine go_br okX2_reach rfl (fun h => absurd h (lp_lt (six) hi (by first | omega | decide))) (fun _ => ?_)
    repeat (first | refine go_sx [4] rfl okX2_reach rfl ?_ | refine go_ck okX2_reach rfl (by first | exact gOb_c rfl | exact gAl_c rfl | exact rfl) ?_)
    refine go_call1 ocX2_reach rfl rfl (by first | exact gOb_c rfl | exact rfl) rfl (R_tiedTo G M a _ hs ha) (by omega) ?_
    repeat (first | refine go_sx [4] rfl okX2_reach rfl ?_ | refine go_ck okX2_reach rfl (by first | exact gOb_c rfl | exact gAl_c rfl | exact rfl) ?_)
    refine go_br okX2_reach rfl (fun h => ?_) (fun h => ?_)
    · repeat (first | refine go_sx [4] rfl okX2_reach rfl ?_ | refine go_ck okX2_reach rfl (by first | exact gOb_c rfl | exact gAl_c rfl | exact rfl) ?_)
      have e : rcS (M.1 a) s 6 = rcS (M.1 a) s i := by
        have := rcS_st (row := M.1 a) (s := s) (k := i) h (6 - i)
        rwa [show i + (6 - i) = 6 by omega] at this
      rw [e]
      exact go_iret (reX2_reach _ (by decide)) rfl (⟨rfl, rfl⟩)
    · repeat (first | refine go_sx [4] rfl okX2_reach rfl ?_ | refine go_ck okX2_reach rfl (by first | exact gOb_c rfl | exact gAl_c rfl | exact rfl) ?_)
      rw [nI_succ] at k
      exact go_wk k ⟨rfl, rfl, rfl, rfl, True.intro, True.intro⟩
  · first | refine go_st okX2_reach rfl ?_ | refine go_ck okX2_reach rfl (by first | exact gOb_c rfl | exact gAl_c rfl | exact rfl) ?_
    repeat (first | refine go_sx [4] rfl okX2_reach rfl ?_ | refine go_ck okX2_reach rfl (by first | exact gOb_c rfl | exact gAl_c rfl | exact rfl) ?_)
    exact go_iret (reX2_reach _ (by decide)) rfl (⟨rfl, rfl⟩)
def gfM (M : gMem) (a : Nat) (mem : Int32) : Nat → gMem
  | 0 => M
  | k + 1 => if gB mem (nI k) = 0 then gfM M a mem k else gSI (gfM M a mem k) a k mem
theorem gfM_s (M : gMem) (a : Nat) (mem : Int32) (k : Nat) : gfM M a mem (k + 1) = if gB mem (nI k) = 0 then gfM M a mem k else gSI (gfM M a mem k) a k mem := rfl
theorem R_giveFirm (G : gG) (M : gMem) (a : Nat) (mem : Int32) (hs : gSh a = (1, 6)) (ha : a < gN) : gRun G YX2_giveFirm 1 [.ref a, .int mem] M (fun r N => r = none ∧ N = gfM M a mem 6) := by
  have hl : nI (gSh a).2 = nI 6 := by rw [hs]
  refine gRun_in (by decide +kernel) rfl (fun d hd => ?_)
  repeat (first | refine go_sx [2] rfl okX2_giveFirm rfl ?_ | refine go_ck okX2_giveFirm rfl (by first | with_reducible exact gAl_of hs ha | exact gOb_c rfl | exact gAl_c rfl | exact rfl) ?_)
  refine go_for (fun i => [some (.ref a), some (.int mem), some (.int (nI i))]) (fun i => gfM M a mem i) 6 (fun i hi k => ?_) ?_
  · first | refine go_st okX2_giveFirm rfl ?_ | refine go_ck okX2_giveFirm rfl (by first | with_reducible exact gAl_of hs ha | exact gOb_c rfl | exact gAl_c rfl | exact rfl) ?_
    repeat (first | refine go_sx [2] rfl okX2_giveFirm rfl ?_ | refine go_ck okX2_giveFirm rfl (by first | with_reducible exact gAl_of hs ha | exact gOb_c rfl | exact gAl_c rfl | exact rfl) ?_)
    refine go_br okX2_giveFirm rfl (fun h => absurd h (lp_lt (hl) hi (by first | omega | decide))) (fun _ => ?_)
    repeat (first | refine go_sx [2] rfl okX2_giveFirm rfl ?_ | refine go_ck okX2_giveFirm rfl (by first | with_reducible exact gAl_of hs ha | exact gOb_c rfl | exact gAl_c rfl | exact rfl) ?_)
    refine go_call1 ocX2_giveFirm rfl rfl (by first | exact gOb_c rfl | exact rfl) rfl (R_has G (gfM M a mem i) mem (nI i)) (by omega) ?_
    rw [gfM_s _ _ _ i, nI_succ i] at k
    refine go_br okX2_giveFirm rfl (fun h => ?_) (fun h => ?_)
    · rw [if_pos h] at k
      repeat (first | refine go_sx [2] rfl okX2_giveFirm rfl ?_ | refine go_ck okX2_giveFirm rfl (by first | with_reducible exact gAl_of hs ha | exact gOb_c rfl | exact gAl_c rfl | exact rfl) ?_)
      exact k
    · rw [if_neg h] at k
      repeat (first | refine go_sx [2] rfl okX2_giveFirm rfl ?_ | refine go_al okX2_giveFirm rfl (by first | with_reducible exact gHx_of hs ha hi (by decide)) ?_ | refine go_as okX2_giveFirm rfl (by first | with_reducible exact gHx_of hs ha hi (by decide)) ?_ | refine go_ck okX2_giveFirm rfl (by first | with_reducible exact gAl_of hs ha | exact gOb_c rfl | exact gAl_c rfl | exact rfl) ?_)
      exact k
  · first | refine go_st okX2_giveFirm rfl ?_ | refine go_ck okX2_giveFirm rfl (by first | with_reducible exact gAl_of hs ha | exact gOb_c rfl | exact gAl_c rfl | exact rfl) ?_
    repeat (first | refine go_sx [2] rfl okX2_giveFirm rfl ?_ | refine go_ck okX2_giveFirm rfl (by first | with_reducible exact gAl_of hs ha | exact gOb_c rfl | exact gAl_c rfl | exact rfl) ?_)
    refine go_br okX2_giveFirm rfl (fun _ => ?_) (fun h => absurd (lp_ge (hl)) h)
    repeat (first | refine go_sx [2] rfl okX2_giveFirm rfl ?_ | refine go_ck okX2_giveFirm rfl (by first | with_reducible exact gAl_of hs ha | exact gOb_c rfl | exact gAl_c rfl | exact rfl) ?_)
    exact go_vret (reX2_giveFirm _ (by decide)) rfl (⟨rfl, rfl⟩)
theorem gfM_o {M : gMem} {a q : Nat} {mem : Int32} (h : q ≠ a) : ∀ k, (gfM M a mem k).1 q = M.1 q
  | 0 => rfl
  | k + 1 => by
    rw [gfM]
    split
    · exact gfM_o h k
    · rw [gSI_1 h, gfM_o h k]
theorem gfM_2 {M : gMem} {a : Nat} {mem : Int32} : ∀ k, (gfM M a mem k).2 = M.2
  | 0 => rfl
  | k + 1 => by
    rw [gfM]
    split
    · exact gfM_2 k
    · exact gfM_2 k
def twV (P : gMem) (t y k : Nat) : Int32 := match y with
  | 0 => P.1 (t + 2) k
  | z + 1 => P.1 (23 + z) k + chg P t z k
def twM (M : gMem) (t y : Nat) : Nat → gMem
  | 0 => M
  | k + 1 => gSI (twM M t y k) (23 + y) k (twV (twM M t y k) t y k)
theorem twM_o {M : gMem} {t y q : Nat} (h : q ≠ 23 + y) : ∀ k, (twM M t y k).1 q = M.1 q
  | 0 => rfl
  | k + 1 => by rw [twM, gSI_1 h, twM_o h k]
theorem twM_2 {M : gMem} {t y : Nat} : ∀ k, (twM M t y k).2 = M.2
  | 0 => rfl
  | k + 1 => by rw [twM]; exact twM_2 k
theorem R_tellWorths (G : gG) (M : gMem) (t y np : Nat) (ht : gTn t) (hy : y < 12) (hp : M.1 t 5 = nI np) (hn : np ≤ 6) : gRun G YX2_tellWorths 2 [.ref 14, .ref t, .int (nI y)] M (fun r N => r = none ∧ N = twM M t y np) := by
  have hb := gTn_big ht
  refine gRun_in (by decide +kernel) rfl (fun d hd => ?_)
  repeat (first | refine go_sx [2] rfl okX2_tellWorths rfl ?_ | refine go_ck okX2_tellWorths rfl (by first | with_reducible exact gTn_ob ht | exact gOb_c rfl | exact gAl_c rfl | exact rfl) ?_)
  refine go_for (fun i => [some (.ref 14), some (.ref t), some (.int (nI y)), some (.int (nI i))]) (fun i => twM M t y i) np (fun i hi k => ?_) ?_
  · have hi6 : i < 6 := by omega
    first | refine go_st okX2_tellWorths rfl ?_ | refine go_ck okX2_tellWorths rfl (by first | with_reducible exact gTn_ob ht | exact gOb_c rfl | exact gAl_c rfl | exact rfl) ?_
    repeat (first | refine go_sx [2] rfl okX2_tellWorths rfl ?_ | refine go_ck okX2_tellWorths rfl (by first | with_reducible exact gTn_ob ht | exact gOb_c rfl | exact gAl_c rfl | exact rfl) ?_)
    refine go_br okX2_tellWorths rfl (fun h => absurd h (lp_lt ((congrFun (twM_o (by omega) i) 5).trans hp) hi (by first | omega | decide))) (fun _ => ?_)
    repeat (first | refine go_sx [2] rfl okX2_tellWorths rfl ?_ | refine go_ck okX2_tellWorths rfl (by first | with_reducible exact gTn_ob ht | exact gOb_c rfl | exact gAl_c rfl | exact rfl) ?_)
    rw [twM, nI_succ] at k
    match y, hy, k with
    | 0, hy, k =>
      repeat (first | refine go_sx [2] rfl okX2_tellWorths rfl ?_ | refine go_al okX2_tellWorths rfl (by first | with_reducible exact gTn_h (i := 2) ht (by decide) rfl hi6 (by decide) | with_reducible exact dW hy hi6) ?_ | refine go_as okX2_tellWorths rfl (by first | with_reducible exact gTn_h (i := 2) ht (by decide) rfl hi6 (by decide) | with_reducible exact dW hy hi6) ?_ | refine go_aa okX2_tellWorths rfl (by first | with_reducible exact a22 hy) ?_ | refine go_ck okX2_tellWorths rfl (by first | with_reducible exact gTn_ob ht | exact gOb_c rfl | exact gAl_c rfl | exact rfl) ?_)
      exact k
    | z + 1, hy, k =>
      refine go_br okX2_tellWorths rfl (fun h => absurd h (nI_ne0 (by omega) (by omega))) (fun _ => ?_)
      repeat (first | refine go_sx [2] rfl okX2_tellWorths rfl ?_ | refine go_aa okX2_tellWorths rfl (by first | with_reducible exact a22 hy) ?_ | refine go_ck okX2_tellWorths rfl (by first | with_reducible exact gTn_ob ht | exact gOb_c rfl | exact gAl_c rfl | exact rfl) ?_)
      refine go_aaE okX2_tellWorths rfl ⟨a22 (y := z) (by omega), nI_pred z⟩ ?_
      repeat (first | refine go_sx [2] rfl okX2_tellWorths rfl ?_ | refine go_al okX2_tellWorths rfl (by first | with_reducible exact dW (y := z) (by omega) hi6) ?_ | refine go_as okX2_tellWorths rfl (by first | with_reducible exact dW (y := z) (by omega) hi6) ?_ | refine go_ck okX2_tellWorths rfl (by first | with_reducible exact gTn_ob ht | exact gOb_c rfl | exact gAl_c rfl | exact rfl) ?_)
      refine go_eq (S2 := [.int (nI i), .int (nI z), .ref t, .ref 14, .int ((twM M t (z + 1) i).1 (23 + z) i), .int (nI i), .ref (23 + (z + 1))]) ?_ rfl (congrArg (fun v => [Value.int (nI i), Value.int v, Value.ref t, Value.ref 14, Value.int ((twM M t (z + 1) i).1 (23 + z) i), Value.int (nI i), Value.ref (23 + (z + 1))]) (nI_pred z)) rfl
      refine go_call1 ocX2_tellWorths rfl rfl (by first | exact gOb_c rfl | exact rfl) rfl (R_change G (twM M t (z + 1) i) t z i ht (by omega) hi6) (by omega) ?_
      repeat (first | refine go_sx [2] rfl okX2_tellWorths rfl ?_ | refine go_al okX2_tellWorths rfl (by first | with_reducible exact dW hy hi6) ?_ | refine go_as okX2_tellWorths rfl (by first | with_reducible exact dW hy hi6) ?_ | refine go_ck okX2_tellWorths rfl (by first | with_reducible exact gTn_ob ht | exact gOb_c rfl | exact gAl_c rfl | exact rfl) ?_)
      exact k
  · first | refine go_st okX2_tellWorths rfl ?_ | refine go_ck okX2_tellWorths rfl (by first | with_reducible exact gTn_ob ht | exact gOb_c rfl | exact gAl_c rfl | exact rfl) ?_
    repeat (first | refine go_sx [2] rfl okX2_tellWorths rfl ?_ | refine go_ck okX2_tellWorths rfl (by first | with_reducible exact gTn_ob ht | exact gOb_c rfl | exact gAl_c rfl | exact rfl) ?_)
    refine go_br okX2_tellWorths rfl (fun _ => ?_) (fun h => absurd (lp_ge ((congrFun (twM_o (by omega) np) 5).trans hp)) h)
    repeat (first | refine go_sx [2] rfl okX2_tellWorths rfl ?_ | refine go_ck okX2_tellWorths rfl (by first | with_reducible exact gTn_ob ht | exact gOb_c rfl | exact gAl_c rfl | exact rfl) ?_)
    exact go_vret (reX2_tellWorths _ (by decide)) rfl (⟨rfl, rfl⟩)
