/-! Town and Acts -/
def gIn (p n : Int32) : Int32 := if p < 0 then 0 else if n ≤ p then 0 else 1
def g01 (x : Int32) : Prop := x = 0 ∨ x = 1
theorem gIn_01 (p n : Int32) : g01 (gIn p n) := by
  unfold gIn g01
  split
  · exact Or.inl rfl
  · split
    · exact Or.inl rfl
    · exact Or.inr rfl
theorem R_hasPartner (G : gG) (M : gMem) (t : Nat) (p : Int32) (ht : gTn t) : gRun G YX7_hasPartner 0 [.ref t, .int p] M (fun r N => r = some (.int (gIn p (M.1 t 5))) ∧ N = M) := by
  refine gRun_in (by decide +kernel) rfl (fun d hd => ?_)
  repeat' (first | refine go_sx [] rfl okX7_hasPartner rfl ?_ | refine go_ck okX7_hasPartner rfl (by first | with_reducible exact gTn_ob ht | exact gOb_c rfl | exact gAl_c rfl | exact rfl) ?_ | refine go_br okX7_hasPartner rfl (fun _ => ?_) (fun _ => ?_))
  all_goals first | exact go_zret (reX7_hasPartner _ (by decide)) rfl (Or.inl rfl) ⟨by first | (simp only [gIn, *, if_true, if_false, not_true_eq_false, not_false_eq_true, ne_eq]; done) | (simp [gIn, *]; done) | (unfold gIn; (repeat' split) <;> first | rfl | contradiction), rfl⟩ | exact go_zret (reX7_hasPartner _ (by decide)) rfl (Or.inr rfl) ⟨by first | (simp only [gIn, *, if_true, if_false, not_true_eq_false, not_false_eq_true, ne_eq]; done) | (simp [gIn, *]; done) | (unfold gIn; (repeat' split) <;> first | rfl | contradiction), rfl⟩
theorem R_hasYear (G : gG) (M : gMem) (t : Nat) (p : Int32) (ht : gTn t) : gRun G YX7_hasYear 0 [.ref t, .int p] M (fun r N => r = some (.int (gIn p (M.1 t 1))) ∧ N = M) := by
  refine gRun_in (by decide +kernel) rfl (fun d hd => ?_)
  repeat' (first | refine go_sx [] rfl okX7_hasYear rfl ?_ | refine go_ck okX7_hasYear rfl (by first | with_reducible exact gTn_ob ht | exact gOb_c rfl | exact gAl_c rfl | exact rfl) ?_ | refine go_br okX7_hasYear rfl (fun _ => ?_) (fun _ => ?_))
  all_goals first | exact go_zret (reX7_hasYear _ (by decide)) rfl (Or.inl rfl) ⟨by first | (simp only [gIn, *, if_true, if_false, not_true_eq_false, not_false_eq_true, ne_eq]; done) | (simp [gIn, *]; done) | (unfold gIn; (repeat' split) <;> first | rfl | contradiction), rfl⟩ | exact go_zret (reX7_hasYear _ (by decide)) rfl (Or.inr rfl) ⟨by first | (simp only [gIn, *, if_true, if_false, not_true_eq_false, not_false_eq_true, ne_eq]; done) | (simp [gIn, *]; done) | (unfold gIn; (repeat' split) <;> first | rfl | contradiction), rfl⟩
theorem R_hasJoin (G : gG) (M : gMem) (t : Nat) (p : Int32) (ht : gTn t) : gRun G YX7_hasJoin 0 [.ref t, .int p] M (fun r N => r = some (.int (gIn p (M.1 t 6))) ∧ N = M) := by
  refine gRun_in (by decide +kernel) rfl (fun d hd => ?_)
  repeat' (first | refine go_sx [] rfl okX7_hasJoin rfl ?_ | refine go_ck okX7_hasJoin rfl (by first | with_reducible exact gTn_ob ht | exact gOb_c rfl | exact gAl_c rfl | exact rfl) ?_ | refine go_br okX7_hasJoin rfl (fun _ => ?_) (fun _ => ?_))
  all_goals first | exact go_zret (reX7_hasJoin _ (by decide)) rfl (Or.inl rfl) ⟨by first | (simp only [gIn, *, if_true, if_false, not_true_eq_false, not_false_eq_true, ne_eq]; done) | (simp [gIn, *]; done) | (unfold gIn; (repeat' split) <;> first | rfl | contradiction), rfl⟩ | exact go_zret (reX7_hasJoin _ (by decide)) rfl (Or.inr rfl) ⟨by first | (simp only [gIn, *, if_true, if_false, not_true_eq_false, not_false_eq_true, ne_eq]; done) | (simp [gIn, *]; done) | (unfold gIn; (repeat' split) <;> first | rfl | contradiction), rfl⟩
theorem R_hasDoor (G : gG) (M : gMem) (t : Nat) (p : Int32) (ht : gTn t) : gRun G YX7_hasDoor 0 [.ref t, .int p] M (fun r N => r = some (.int (gIn p (M.1 t 7))) ∧ N = M) := by
  refine gRun_in (by decide +kernel) rfl (fun d hd => ?_)
  repeat' (first | refine go_sx [] rfl okX7_hasDoor rfl ?_ | refine go_ck okX7_hasDoor rfl (by first | with_reducible exact gTn_ob ht | exact gOb_c rfl | exact gAl_c rfl | exact rfl) ?_ | refine go_br okX7_hasDoor rfl (fun _ => ?_) (fun _ => ?_))
  all_goals first | exact go_zret (reX7_hasDoor _ (by decide)) rfl (Or.inl rfl) ⟨by first | (simp only [gIn, *, if_true, if_false, not_true_eq_false, not_false_eq_true, ne_eq]; done) | (simp [gIn, *]; done) | (unfold gIn; (repeat' split) <;> first | rfl | contradiction), rfl⟩ | exact go_zret (reX7_hasDoor _ (by decide)) rfl (Or.inr rfl) ⟨by first | (simp only [gIn, *, if_true, if_false, not_true_eq_false, not_false_eq_true, ne_eq]; done) | (simp [gIn, *]; done) | (unfold gIn; (repeat' split) <;> first | rfl | contradiction), rfl⟩
def gPr (p q n : Int32) : Int32 := if gIn p n = 0 then 0 else if gIn q n = 0 then 0 else if p = q then 0 else 1
theorem R_hasPair (G : gG) (M : gMem) (t : Nat) (p q : Int32) (ht : gTn t) : gRun G YX7_hasPair 1 [.ref t, .int p, .int q] M (fun r N => r = some (.int (gPr p q (M.1 t 5))) ∧ N = M) := by
  refine gRun_in (by decide +kernel) rfl (fun d hd => ?_)
  repeat' (first | refine go_sx [] rfl okX7_hasPair rfl ?_ | refine go_ck okX7_hasPair rfl (by first | with_reducible exact gTn_ob ht | exact gOb_c rfl | exact gAl_c rfl | exact rfl) ?_ | refine go_call1 ocX7_hasPair rfl rfl (by first | exact gTn_ob ht | exact gOb_c rfl | exact gAl_c rfl | exact rfl) rfl (R_hasPartner G M t _ ht) (by omega) ?_ | refine go_br okX7_hasPair rfl (fun _ => ?_) (fun _ => ?_))
  all_goals first | exact go_zret (reX7_hasPair _ (by decide)) rfl (Or.inl rfl) ⟨by first | (simp only [gPr, *, if_true, if_false, not_true_eq_false, not_false_eq_true, ne_eq]; done) | (simp [gPr, *]; done) | (unfold gPr; (repeat' split) <;> first | rfl | contradiction), rfl⟩ | exact go_zret (reX7_hasPair _ (by decide)) rfl (Or.inr rfl) ⟨by first | (simp only [gPr, *, if_true, if_false, not_true_eq_false, not_false_eq_true, ne_eq]; done) | (simp [gPr, *]; done) | (unfold gPr; (repeat' split) <;> first | rfl | contradiction), rfl⟩
def gPos (n : Int32) : Int32 := if n ≤ 0 then 0 else 1
theorem R_isTold (G : gG) (M : gMem) (t : Nat) (ht : gTn t) : gRun G YX7_isTold 0 [.ref t] M (fun r N => r = some (.int (gPos (M.1 t 0))) ∧ N = M) := by
  refine gRun_in (by decide +kernel) rfl (fun d hd => ?_)
  repeat' (first | refine go_sx [] rfl okX7_isTold rfl ?_ | refine go_ck okX7_isTold rfl (by first | with_reducible exact gTn_ob ht | exact gOb_c rfl | exact gAl_c rfl | exact rfl) ?_ | refine go_br okX7_isTold rfl (fun _ => ?_) (fun _ => ?_))
  all_goals first | exact go_zret (reX7_isTold _ (by decide)) rfl (Or.inl rfl) ⟨by first | (simp only [gPos, *, if_true, if_false, not_true_eq_false, not_false_eq_true, ne_eq]; done) | (simp [gPos, *]; done) | (unfold gPos; (repeat' split) <;> first | rfl | contradiction), rfl⟩ | exact go_zret (reX7_isTold _ (by decide)) rfl (Or.inr rfl) ⟨by first | (simp only [gPos, *, if_true, if_false, not_true_eq_false, not_false_eq_true, ne_eq]; done) | (simp [gPos, *]; done) | (unfold gPos; (repeat' split) <;> first | rfl | contradiction), rfl⟩
theorem R_waxOf (G : gG) (M : gMem) (t : Nat) (s : Int32) (nj : Nat) (ht : gTn t) (hp : M.1 t 6 = nI nj) (hn : nj ≤ 7) : gRun G YX7_waxOf 1 [.ref t, .int s] M (fun r N => r = some (.int (sumS nj s (M.1 (t + 6)))) ∧ N = M) := by
  refine gRun_in (by decide +kernel) rfl (fun d hd => ?_)
  repeat (first | refine go_sx [4] rfl okX7_waxOf rfl ?_ | refine go_ck okX7_waxOf rfl (by first | with_reducible exact gTn_ob ht | exact gOb_c rfl | exact gAl_c rfl | exact rfl) ?_)
  refine go_for (fun i => [some (.ref t), some (.int s), some (.int (sumS i s (M.1 (t + 6)))), some (.int (nI i))]) (fun _ => M) nj (fun i hi k => ?_) ?_
  · first | refine go_st okX7_waxOf rfl ?_ | refine go_ck okX7_waxOf rfl (by first | with_reducible exact gTn_ob ht | exact gOb_c rfl | exact gAl_c rfl | exact rfl) ?_
    repeat (first | refine go_sx [4] rfl okX7_waxOf rfl ?_ | refine go_ck okX7_waxOf rfl (by first | with_reducible exact gTn_ob ht | exact gOb_c rfl | exact gAl_c rfl | exact rfl) ?_)
    refine go_br okX7_waxOf rfl (fun h => ?_) (fun h => ?_)
    · exact absurd h (by show ¬ M.1 t 6 ≤ nI i; rw [hp]; exact nI_ge (by omega) (by omega))
    repeat (first | refine go_sx [4] rfl okX7_waxOf rfl ?_ | refine go_ck okX7_waxOf rfl (by first | with_reducible exact gTn_ob ht | exact gOb_c rfl | exact gAl_c rfl | exact rfl) ?_)
    refine go_call1 ocX7_waxOf rfl rfl (by first | exact gOb_c rfl | exact rfl) rfl (R_has G M s (nI i)) (by omega) ?_
    refine go_br okX7_waxOf rfl (fun h => ?_) (fun h => ?_)
    · repeat (first | refine go_sx [4] rfl okX7_waxOf rfl ?_ | refine go_ck okX7_waxOf rfl (by first | with_reducible exact gTn_ob ht | exact gOb_c rfl | exact gAl_c rfl | exact rfl) ?_)
      rw [sumS, if_pos h, nI_succ] at k
      exact k
    · repeat (first | refine go_sx [4] rfl okX7_waxOf rfl ?_ | refine go_al okX7_waxOf rfl (by first | with_reducible exact gTn_h (i := 6) ht (by decide) rfl (show i < 7 by omega) (by decide)) ?_ | refine go_as okX7_waxOf rfl (by first | with_reducible exact gTn_h (i := 6) ht (by decide) rfl (show i < 7 by omega) (by decide)) ?_ | refine go_ck okX7_waxOf rfl (by first | with_reducible exact gTn_ob ht | exact gOb_c rfl | exact gAl_c rfl | exact rfl) ?_)
      rw [sumS, if_neg h, nI_succ] at k
      exact k
  · first | refine go_st okX7_waxOf rfl ?_ | refine go_ck okX7_waxOf rfl (by first | with_reducible exact gTn_ob ht | exact gOb_c rfl | exact gAl_c rfl | exact rfl) ?_
    repeat (first | refine go_sx [4] rfl okX7_waxOf rfl ?_ | refine go_ck okX7_waxOf rfl (by first | with_reducible exact gTn_ob ht | exact gOb_c rfl | exact gAl_c rfl | exact rfl) ?_)
    refine go_br okX7_waxOf rfl (fun h => ?_) (fun h => ?_)
    · repeat (first | refine go_sx [4] rfl okX7_waxOf rfl ?_ | refine go_ck okX7_waxOf rfl (by first | with_reducible exact gTn_ob ht | exact gOb_c rfl | exact gAl_c rfl | exact rfl) ?_)
      exact go_iret (reX7_waxOf _ (by decide)) rfl (⟨rfl, rfl⟩)
    · exact absurd (by show M.1 t 6 ≤ nI nj; rw [hp]; exact Int32.le_refl _) h
def maxS (n : Nat) (s : Int32) (f : Nat → Int32) : Int32 := match n with
  | 0 => 0
  | k + 1 => if gB s (nI k) = 0 then maxS k s f else if maxS k s f < f k then f k else maxS k s f
def gWid (law sum most size joins : Int32) : Int32 := if law = 0 then sum else if law = 1 then most else if law = 2 then 2 * size else if 1 < sum - joins then sum - joins else 1
theorem R_widthOf (G : gG) (M : gMem) (t : Nat) (s law jn : Int32) (np : Nat) (ht : gTn t) (hp : M.1 t 5 = nI np) (hn : np ≤ 6) : gRun G YX7_widthOf 1 [.ref t, .int s, .int law, .int jn] M (fun r N => r = some (.int (gWid law (sumS np s (M.1 (t + 1))) (maxS np s (M.1 (t + 1))) (gPop s) jn)) ∧ N = M) := by
  refine gRun_in (by decide +kernel) rfl (fun d hd => ?_)
  repeat (first | refine go_sx [9] rfl okX7_widthOf rfl ?_ | refine go_ck okX7_widthOf rfl (by first | with_reducible exact gTn_ob ht | exact gOb_c rfl | exact gAl_c rfl | exact rfl) ?_)
  refine go_for (fun i => [some (.ref t), some (.int s), some (.int law), some (.int jn), some (.int (sumS i s (M.1 (t + 1)))), some (.int (maxS i s (M.1 (t + 1)))), some (.int (nI i))]) (fun _ => M) np (fun i hi k => ?_) ?_
  · first | refine go_st okX7_widthOf rfl ?_ | refine go_ck okX7_widthOf rfl (by first | with_reducible exact gTn_ob ht | exact gOb_c rfl | exact gAl_c rfl | exact rfl) ?_
    repeat (first | refine go_sx [9] rfl okX7_widthOf rfl ?_ | refine go_ck okX7_widthOf rfl (by first | with_reducible exact gTn_ob ht | exact gOb_c rfl | exact gAl_c rfl | exact rfl) ?_)
    refine go_br okX7_widthOf rfl (fun h => ?_) (fun h => ?_)
    · exact absurd h (by show ¬ M.1 t 5 ≤ nI i; rw [hp]; exact nI_ge (by omega) (by omega))
    repeat (first | refine go_sx [9] rfl okX7_widthOf rfl ?_ | refine go_ck okX7_widthOf rfl (by first | with_reducible exact gTn_ob ht | exact gOb_c rfl | exact gAl_c rfl | exact rfl) ?_)
    refine go_call1 ocX7_widthOf rfl rfl (by first | exact gOb_c rfl | exact rfl) rfl (R_has G M s (nI i)) (by omega) ?_
    refine go_br okX7_widthOf rfl (fun h => ?_) (fun h => ?_)
    · repeat (first | refine go_sx [9] rfl okX7_widthOf rfl ?_ | refine go_ck okX7_widthOf rfl (by first | with_reducible exact gTn_ob ht | exact gOb_c rfl | exact gAl_c rfl | exact rfl) ?_)
      rw [sumS, maxS, if_pos h, if_pos h, nI_succ] at k
      exact k
    · repeat (first | refine go_sx [9] rfl okX7_widthOf rfl ?_ | refine go_al okX7_widthOf rfl (by first | with_reducible exact gTn_h (i := 1) ht (by decide) rfl (show i < 6 by omega) (by decide)) ?_ | refine go_as okX7_widthOf rfl (by first | with_reducible exact gTn_h (i := 1) ht (by decide) rfl (show i < 6 by omega) (by decide)) ?_ | refine go_ck okX7_widthOf rfl (by first | with_reducible exact gTn_ob ht | exact gOb_c rfl | exact gAl_c rfl | exact rfl) ?_)
      rw [sumS, maxS, if_neg h, if_neg h, nI_succ] at k
      exact k
  · first | refine go_st okX7_widthOf rfl ?_ | refine go_ck okX7_widthOf rfl (by first | with_reducible exact gTn_ob ht | exact gOb_c rfl | exact gAl_c rfl | exact rfl) ?_
    repeat (first | refine go_sx [9] rfl okX7_widthOf rfl ?_ | refine go_ck okX7_widthOf rfl (by first | with_reducible exact gTn_ob ht | exact gOb_c rfl | exact gAl_c rfl | exact rfl) ?_)
    refine go_br okX7_widthOf rfl (fun h => ?_) (fun h => ?_)
    · repeat (first | refine go_sx [9] rfl okX7_widthOf rfl ?_ | refine go_ck okX7_widthOf rfl (by first | with_reducible exact gTn_ob ht | exact gOb_c rfl | exact gAl_c rfl | exact rfl) ?_)
      refine go_sw okX7_widthOf rfl ⟨fun h0 => ?_, fun h0 => ⟨fun h1 => ?_, fun h1 => ⟨fun h2 => ?_, fun h2 => ?_⟩⟩⟩
      · repeat (first | refine go_sx [9] rfl okX7_widthOf rfl ?_ | refine go_ck okX7_widthOf rfl (by first | with_reducible exact gTn_ob ht | exact gOb_c rfl | exact gAl_c rfl | exact rfl) ?_)
        exact go_iret (reX7_widthOf _ (by decide)) rfl (⟨by rw [gWid, if_pos h0], rfl⟩)
      · repeat (first | refine go_sx [9] rfl okX7_widthOf rfl ?_ | refine go_ck okX7_widthOf rfl (by first | with_reducible exact gTn_ob ht | exact gOb_c rfl | exact gAl_c rfl | exact rfl) ?_)
        exact go_iret (reX7_widthOf _ (by decide)) rfl (⟨by rw [gWid, if_neg h0, if_pos h1], rfl⟩)
      · repeat (first | refine go_sx [9] rfl okX7_widthOf rfl ?_ | refine go_ck okX7_widthOf rfl (by first | with_reducible exact gTn_ob ht | exact gOb_c rfl | exact gAl_c rfl | exact rfl) ?_)
        refine go_call1 ocX7_widthOf rfl rfl (by first | exact gOb_c rfl | exact rfl) rfl (R_bitCount G M s) (by omega) ?_
        repeat (first | refine go_sx [9] rfl okX7_widthOf rfl ?_ | refine go_ck okX7_widthOf rfl (by first | with_reducible exact gTn_ob ht | exact gOb_c rfl | exact gAl_c rfl | exact rfl) ?_)
        exact go_iret (reX7_widthOf _ (by decide)) rfl (⟨by rw [gWid, if_neg h0, if_neg h1, if_pos h2], rfl⟩)
      · repeat (first | refine go_sx [9] rfl okX7_widthOf rfl ?_ | refine go_ck okX7_widthOf rfl (by first | with_reducible exact gTn_ob ht | exact gOb_c rfl | exact gAl_c rfl | exact rfl) ?_)
        exact go_iret (reX7_widthOf _ (by decide)) rfl (⟨by rw [gWid, if_neg h0, if_neg h1, if_neg h2], rfl⟩)
    · exact absurd (by show M.1 t 5 ≤ nI np; rw [hp]; exact Int32.le_refl _) h
