/-! Decade: a year's ties and firms -/
def zuM (M : gMem) (y : Nat) : Nat → gMem
  | 0 => M
  | k + 1 => gSI (gSI (zuM M y k) (36 + y) k 0) (49 + y) k 0
def bit1 (p : Int32) : Int32 := (1 : Int32) <<< (p &&& 31)
def tyM (P : gMem) (y k : Nat) : gMem :=
  gSI (gSI P (36 + y) (P.1 15 k).toNatClampNeg (P.1 (36 + y) (P.1 15 k).toNatClampNeg ||| bit1 (P.1 16 k))) (36 + y) (P.1 16 k).toNatClampNeg ((gSI P (36 + y) (P.1 15 k).toNatClampNeg (P.1 (36 + y) (P.1 15 k).toNatClampNeg ||| bit1 (P.1 16 k))).1 (36 + y) (P.1 16 k).toNatClampNeg ||| bit1 (P.1 15 k))
def juT (M : gMem) (y : Nat) (away : Int32) : Nat → gMem
  | 0 => zuM M y 6
  | k + 1 => if hoI (juT M y away k) k (nI y) away = 0 then juT M y away k else tyM (juT M y away k) y k
def juF (M : gMem) (y : Nat) (away : Int32) (n : Nat) : Nat → gMem
  | 0 => juT M y away n
  | k + 1 => if gB away (nI k) = 0 then (if (juF M y away n k).1 (49 + y) k = 0 then gfM (juF M y away n k) (49 + y) (rcS ((juF M y away n k).1 (36 + y)) (bit1 (nI k)) 6) 6 else juF M y away n k) else juF M y away n k
theorem zuM_o {M : gMem} {y q : Nat} (h : q ≠ 36 + y ∧ q ≠ 49 + y) : ∀ k, (zuM M y k).1 q = M.1 q
  | 0 => rfl
  | k + 1 => by rw [zuM, gSI_1 h.2, gSI_1 h.1, zuM_o h k]
theorem tyM_o {P : gMem} {y k q : Nat} (h : q ≠ 36 + y) : (tyM P y k).1 q = P.1 q := by
  unfold tyM
  rw [gSI_1 h, gSI_1 h]
theorem juT_o {M : gMem} {y q : Nat} {away : Int32} (h : q ≠ 36 + y ∧ q ≠ 49 + y) : ∀ k, (juT M y away k).1 q = M.1 q
  | 0 => zuM_o h 6
  | k + 1 => by
    rw [juT]
    split
    · exact juT_o h k
    · rw [tyM_o h.1, juT_o h k]
theorem juF_o {M : gMem} {y q n : Nat} {away : Int32} (h : q ≠ 36 + y ∧ q ≠ 49 + y) : ∀ k, (juF M y away n k).1 q = M.1 q
  | 0 => juT_o h n
  | k + 1 => by
    rw [juF]
    split
    · split
      · rw [gfM_o h.2, juF_o h k]
      · exact juF_o h k
    · exact juF_o h k
theorem zuM_2 {M : gMem} {y : Nat} : ∀ k, (zuM M y k).2 = M.2
  | 0 => rfl
  | k + 1 => by rw [zuM]; exact zuM_2 k
theorem juT_2 {M : gMem} {y : Nat} {away : Int32} : ∀ k, (juT M y away k).2 = M.2
  | 0 => zuM_2 6
  | k + 1 => by
    rw [juT]
    split
    · exact juT_2 k
    · exact juT_2 k
theorem juF_2 {M : gMem} {y n : Nat} {away : Int32} : ∀ k, (juF M y away n k).2 = M.2
  | 0 => juT_2 n
  | k + 1 => by
    rw [juF]
    split
    · split
      · rw [gfM_2, juF_2 k]
      · exact juF_2 k
    · exact juF_2 k
/-- the joins gathered name partners -/
def jnOk (M : gMem) (n : Nat) : Prop := ∀ k, k < n → ∃ a b, a < 6 ∧ b < 6 ∧ M.1 15 k = nI a ∧ M.1 16 k = nI b
theorem go_gd {G : gG} {Y : gY} {d : Nat} {Z : Option Value → gMem → Prop} {pc : Nat} {L : gLoc} {S : List Value} {M : gMem} (hs : List Nat) (_ : gNo hs pc = true) (k : gGo G Y d Z pc L S M) : gGo G Y d Z pc L S M := k
theorem R_joinUp (G : gG) (M : gMem) (t y np n : Nat) (away : Int32) (ht : gTn t) (hy : y < 12) (hp : M.1 t 5 = nI np) (hnp : np ≤ 6) (hn : M.1 14 5 = nI n) (hn2 : n ≤ 38) (hj : jnOk M n) : gRun G YX2_joinUp 3 [.ref 14, .ref t, .int (nI y), .int away] M (fun r N => r = none ∧ N = juF M y away n np) := by
  have hb := gTn_big ht
  obtain ⟨⟨-, -⟩, ⟨hs, ha⟩, ⟨hs2, ha2⟩⟩ := dSh.2.2 y hy
  refine gRun_in (by decide +kernel) rfl (fun d hd => ?_)
  repeat (refine go_gd [19, 47, 89, 120] rfl ?_; fail_if_success (refine go_br okX2_joinUp rfl (fun _ => ?_) (fun _ => ?_)); first | refine go_st okX2_joinUp rfl ?_ | refine go_aa okX2_joinUp rfl (by first | with_reducible exact a35 hy | with_reducible exact a48 hy) ?_ | refine go_ck okX2_joinUp rfl (by first | with_reducible exact gTn_ob ht | exact gOb_c rfl | exact gAl_c rfl | exact rfl) ?_)
  refine go_for (fun i => [some (.ref 14), some (.ref t), some (.int (nI y)), some (.int away), some (.ref (36 + y)), some (.ref (49 + y)), some (.int (nI i))]) (fun i => zuM M y i) 6 (fun i hi k => ?_) ?_
  · first | refine go_st okX2_joinUp rfl ?_ | refine go_ck okX2_joinUp rfl (by first | with_reducible exact gTn_ob ht | exact gOb_c rfl | exact gAl_c rfl | exact rfl) ?_
    repeat (refine go_gd [19, 47, 89, 120] rfl ?_; fail_if_success (refine go_br okX2_joinUp rfl (fun _ => ?_) (fun _ => ?_)); first | refine go_st okX2_joinUp rfl ?_ | refine go_ck okX2_joinUp rfl (by first | with_reducible exact gTn_ob ht | exact gOb_c rfl | exact gAl_c rfl | exact rfl) ?_)
    refine go_br okX2_joinUp rfl (fun h => absurd h (lp_lt (six) hi (by first | omega | decide))) (fun _ => ?_)
    repeat (refine go_gd [19, 47, 89, 120] rfl ?_; fail_if_success (refine go_br okX2_joinUp rfl (fun _ => ?_) (fun _ => ?_)); first | refine go_st okX2_joinUp rfl ?_ | refine go_al okX2_joinUp rfl (by first | with_reducible exact dT hy hi | with_reducible exact dF hy hi) ?_ | refine go_as okX2_joinUp rfl (by first | with_reducible exact dT hy hi | with_reducible exact dF hy hi) ?_ | refine go_ck okX2_joinUp rfl (by first | with_reducible exact gTn_ob ht | exact gOb_c rfl | exact gAl_c rfl | exact rfl) ?_)
    rw [zuM, nI_succ] at k
    exact k
  first | refine go_st okX2_joinUp rfl ?_ | refine go_ck okX2_joinUp rfl (by first | with_reducible exact gTn_ob ht | exact gOb_c rfl | exact gAl_c rfl | exact rfl) ?_
  repeat (refine go_gd [19, 47, 89, 120] rfl ?_; fail_if_success (refine go_br okX2_joinUp rfl (fun _ => ?_) (fun _ => ?_)); first | refine go_st okX2_joinUp rfl ?_ | refine go_ck okX2_joinUp rfl (by first | with_reducible exact gTn_ob ht | exact gOb_c rfl | exact gAl_c rfl | exact rfl) ?_)
  refine go_br okX2_joinUp rfl (fun _ => ?_) (fun h => absurd (lp_ge (six)) h)
  repeat (refine go_gd [19, 47, 89, 120] rfl ?_; fail_if_success (refine go_br okX2_joinUp rfl (fun _ => ?_) (fun _ => ?_)); first | refine go_st okX2_joinUp rfl ?_ | refine go_ck okX2_joinUp rfl (by first | with_reducible exact gTn_ob ht | exact gOb_c rfl | exact gAl_c rfl | exact rfl) ?_)
  refine go_for (fun i => [some (.ref 14), some (.ref t), some (.int (nI y)), some (.int away), some (.ref (36 + y)), some (.ref (49 + y)), some (.int (nI i))]) (fun i => juT M y away i) n (fun i hi k => ?_) ?_
  · have e14 : ∀ q, q < 36 → (juT M y away i).1 q = M.1 q := fun q hq => juT_o ⟨by omega, by omega⟩ i
    first | refine go_st okX2_joinUp rfl ?_ | refine go_ck okX2_joinUp rfl (by first | with_reducible exact gTn_ob ht | exact gOb_c rfl | exact gAl_c rfl | exact rfl) ?_
    repeat (refine go_gd [19, 47, 89, 120] rfl ?_; fail_if_success (refine go_br okX2_joinUp rfl (fun _ => ?_) (fun _ => ?_)); first | refine go_st okX2_joinUp rfl ?_ | refine go_ck okX2_joinUp rfl (by first | with_reducible exact gTn_ob ht | exact gOb_c rfl | exact gAl_c rfl | exact rfl) ?_)
    refine go_br okX2_joinUp rfl (fun h => absurd h (lp_lt ((congrFun (e14 14 (by decide)) 5).trans hn) hi (by first | omega | decide))) (fun _ => ?_)
    repeat (refine go_gd [19, 47, 89, 120] rfl ?_; fail_if_success (refine go_br okX2_joinUp rfl (fun _ => ?_) (fun _ => ?_)); first | refine go_st okX2_joinUp rfl ?_ | refine go_ck okX2_joinUp rfl (by first | with_reducible exact gTn_ob ht | exact gOb_c rfl | exact gAl_c rfl | exact rfl) ?_)
    refine go_call1 ocX2_joinUp rfl rfl (by first | exact gOb_c rfl | exact rfl) rfl (R_holdsIn G (juT M y away i) i (nI y) away (by omega)) (by omega) ?_
    rw [juT, nI_succ] at k
    refine go_br okX2_joinUp rfl (fun h => ?_) (fun h => ?_)
    · rw [if_pos h] at k
      repeat (refine go_gd [19, 47, 89, 120] rfl ?_; fail_if_success (refine go_br okX2_joinUp rfl (fun _ => ?_) (fun _ => ?_)); first | refine go_st okX2_joinUp rfl ?_ | refine go_ck okX2_joinUp rfl (by first | with_reducible exact gTn_ob ht | exact gOb_c rfl | exact gAl_c rfl | exact rfl) ?_)
      exact k
    · rw [if_neg h] at k
      obtain ⟨a, b, ha6, hb6, ea, eb⟩ := hj i hi
      have fa : (juT M y away i).1 15 i = nI a := by rw [e14 15 (by decide)]; exact ea
      have fb : (juT M y away i).1 16 i = nI b := by rw [e14 16 (by decide)]; exact eb
      have ca : (nI a).toNatClampNeg = a := nI_clamp (by omega)
      have cb : (nI b).toNatClampNeg = b := nI_clamp (by omega)
      rw [tyM, fa, fb, ca, cb] at k
      generalize juT M y away i = P at k fa fb ⊢
      repeat (refine go_gd [19, 47, 89, 120] rfl ?_; fail_if_success (refine go_br okX2_joinUp rfl (fun _ => ?_) (fun _ => ?_)); first | refine go_st okX2_joinUp rfl ?_ | refine go_al okX2_joinUp rfl (by first | with_reducible exact dJ0 (k := i) (by omega) | with_reducible exact dJ1 (k := i) (by omega)) ?_ | refine go_as okX2_joinUp rfl (by first | with_reducible exact dJ0 (k := i) (by omega) | with_reducible exact dJ1 (k := i) (by omega)) ?_ | refine go_alE okX2_joinUp rfl (by first | (constructor; with_reducible exact dT (k := a) hy ha6; exact fa)) ?_ | refine go_asE okX2_joinUp rfl (by first | (constructor; with_reducible exact dT (k := a) hy ha6; exact fa)) ?_ | refine go_ck okX2_joinUp rfl (by first | with_reducible exact gTn_ob ht | exact gOb_c rfl | exact gAl_c rfl | exact rfl) ?_)
      refine go_eq (M2 := gSI P (36 + y) a (P.1 (36 + y) a ||| bit1 (P.1 16 i))) ?_ rfl rfl rfl
      rw [fb]
      generalize hP1 : gSI P (36 + y) a (P.1 (36 + y) a ||| bit1 (nI b)) = P1 at k ⊢
      have ga : P1.1 15 i = nI a := by rw [← hP1, gSI_1 (by omega)]; exact fa
      have gb : P1.1 16 i = nI b := by rw [← hP1, gSI_1 (by omega)]; exact fb
      first | refine go_st okX2_joinUp rfl ?_ | refine go_ck okX2_joinUp rfl (by first | with_reducible exact gTn_ob ht | exact gOb_c rfl | exact gAl_c rfl | exact rfl) ?_
      repeat (refine go_gd [19, 47, 89, 120] rfl ?_; fail_if_success (refine go_br okX2_joinUp rfl (fun _ => ?_) (fun _ => ?_)); first | refine go_st okX2_joinUp rfl ?_ | refine go_al okX2_joinUp rfl (by first | with_reducible exact dJ0 (k := i) (by omega) | with_reducible exact dJ1 (k := i) (by omega)) ?_ | refine go_as okX2_joinUp rfl (by first | with_reducible exact dJ0 (k := i) (by omega) | with_reducible exact dJ1 (k := i) (by omega)) ?_ | refine go_alE okX2_joinUp rfl (by first | (constructor; with_reducible exact dT (k := b) hy hb6; exact gb)) ?_ | refine go_asE okX2_joinUp rfl (by first | (constructor; with_reducible exact dT (k := b) hy hb6; exact gb)) ?_ | refine go_ck okX2_joinUp rfl (by first | with_reducible exact gTn_ob ht | exact gOb_c rfl | exact gAl_c rfl | exact rfl) ?_)
      refine go_eq (M2 := gSI P1 (36 + y) b (P1.1 (36 + y) b ||| bit1 (P1.1 15 i))) ?_ rfl rfl rfl
      rw [ga]
      exact k
  first | refine go_st okX2_joinUp rfl ?_ | refine go_ck okX2_joinUp rfl (by first | with_reducible exact gTn_ob ht | exact gOb_c rfl | exact gAl_c rfl | exact rfl) ?_
  repeat (refine go_gd [19, 47, 89, 120] rfl ?_; fail_if_success (refine go_br okX2_joinUp rfl (fun _ => ?_) (fun _ => ?_)); first | refine go_st okX2_joinUp rfl ?_ | refine go_ck okX2_joinUp rfl (by first | with_reducible exact gTn_ob ht | exact gOb_c rfl | exact gAl_c rfl | exact rfl) ?_)
  refine go_br okX2_joinUp rfl (fun _ => ?_) (fun h => absurd (lp_ge ((congrFun (juT_o (y := y) (away := away) ⟨by omega, by omega⟩ n) 5).trans hn)) h)
  repeat (refine go_gd [19, 47, 89, 120] rfl ?_; fail_if_success (refine go_br okX2_joinUp rfl (fun _ => ?_) (fun _ => ?_)); first | refine go_st okX2_joinUp rfl ?_ | refine go_ck okX2_joinUp rfl (by first | with_reducible exact gTn_ob ht | exact gOb_c rfl | exact gAl_c rfl | exact rfl) ?_)
  refine go_for (fun i => [some (.ref 14), some (.ref t), some (.int (nI y)), some (.int away), some (.ref (36 + y)), some (.ref (49 + y)), some (.int (nI i))]) (fun i => juF M y away n i) np (fun i hi k => ?_) ?_
  · have hi6 : i < 6 := by omega
    first | refine go_st okX2_joinUp rfl ?_ | refine go_ck okX2_joinUp rfl (by first | with_reducible exact gTn_ob ht | exact gOb_c rfl | exact gAl_c rfl | exact rfl) ?_
    repeat (refine go_gd [19, 47, 89, 120] rfl ?_; fail_if_success (refine go_br okX2_joinUp rfl (fun _ => ?_) (fun _ => ?_)); first | refine go_st okX2_joinUp rfl ?_ | refine go_ck okX2_joinUp rfl (by first | with_reducible exact gTn_ob ht | exact gOb_c rfl | exact gAl_c rfl | exact rfl) ?_)
    refine go_br okX2_joinUp rfl (fun h => absurd h (lp_lt ((congrFun (juF_o ⟨by omega, by omega⟩ i) 5).trans hp) hi (by first | omega | decide))) (fun _ => ?_)
    repeat (refine go_gd [19, 47, 89, 120] rfl ?_; fail_if_success (refine go_br okX2_joinUp rfl (fun _ => ?_) (fun _ => ?_)); first | refine go_st okX2_joinUp rfl ?_ | refine go_ck okX2_joinUp rfl (by first | with_reducible exact gTn_ob ht | exact gOb_c rfl | exact gAl_c rfl | exact rfl) ?_)
    refine go_call1 ocX2_joinUp rfl rfl (by first | exact gOb_c rfl | exact rfl) rfl (R_has G (juF M y away n i) away (nI i)) (by omega) ?_
    rw [juF, nI_succ] at k
    refine go_br okX2_joinUp rfl (fun h => ?_) (fun h => ?_)
    · rw [if_pos h] at k
      repeat (refine go_gd [19, 47, 89, 120] rfl ?_; fail_if_success (refine go_br okX2_joinUp rfl (fun _ => ?_) (fun _ => ?_)); first | refine go_st okX2_joinUp rfl ?_ | refine go_al okX2_joinUp rfl (by first | with_reducible exact dF hy hi6) ?_ | refine go_as okX2_joinUp rfl (by first | with_reducible exact dF hy hi6) ?_ | refine go_ck okX2_joinUp rfl (by first | with_reducible exact gTn_ob ht | exact gOb_c rfl | exact gAl_c rfl | exact rfl) ?_)
      refine go_br okX2_joinUp rfl (fun h1 => ?_) (fun h1 => ?_)
      · rw [if_pos h1] at k
        repeat (refine go_gd [19, 47, 89, 120] rfl ?_; fail_if_success (refine go_br okX2_joinUp rfl (fun _ => ?_) (fun _ => ?_)); first | refine go_st okX2_joinUp rfl ?_ | refine go_ck okX2_joinUp rfl (by first | with_reducible exact gTn_ob ht | exact gOb_c rfl | exact gAl_c rfl | exact rfl) ?_)
        refine go_call1 ocX2_joinUp rfl rfl (by first | exact gOb_c rfl | exact rfl) rfl (R_reach G (juF M y away n i) (36 + y) _ hs ha) (by omega) ?_
        refine go_call1 ocX2_joinUp rfl rfl (by first | exact gOb_c rfl | exact rfl) rfl (R_giveFirm G (juF M y away n i) (49 + y) _ hs2 ha2) (by omega) ?_
        repeat (refine go_gd [19, 47, 89, 120] rfl ?_; fail_if_success (refine go_br okX2_joinUp rfl (fun _ => ?_) (fun _ => ?_)); first | refine go_st okX2_joinUp rfl ?_ | refine go_ck okX2_joinUp rfl (by first | with_reducible exact gTn_ob ht | exact gOb_c rfl | exact gAl_c rfl | exact rfl) ?_)
        exact k
      · rw [if_neg h1] at k
        repeat (refine go_gd [19, 47, 89, 120] rfl ?_; fail_if_success (refine go_br okX2_joinUp rfl (fun _ => ?_) (fun _ => ?_)); first | refine go_st okX2_joinUp rfl ?_ | refine go_ck okX2_joinUp rfl (by first | with_reducible exact gTn_ob ht | exact gOb_c rfl | exact gAl_c rfl | exact rfl) ?_)
        exact k
    · rw [if_neg h] at k
      repeat (refine go_gd [19, 47, 89, 120] rfl ?_; fail_if_success (refine go_br okX2_joinUp rfl (fun _ => ?_) (fun _ => ?_)); first | refine go_st okX2_joinUp rfl ?_ | refine go_ck okX2_joinUp rfl (by first | with_reducible exact gTn_ob ht | exact gOb_c rfl | exact gAl_c rfl | exact rfl) ?_)
      exact k
  · first | refine go_st okX2_joinUp rfl ?_ | refine go_ck okX2_joinUp rfl (by first | with_reducible exact gTn_ob ht | exact gOb_c rfl | exact gAl_c rfl | exact rfl) ?_
    repeat (refine go_gd [19, 47, 89, 120] rfl ?_; fail_if_success (refine go_br okX2_joinUp rfl (fun _ => ?_) (fun _ => ?_)); first | refine go_st okX2_joinUp rfl ?_ | refine go_ck okX2_joinUp rfl (by first | with_reducible exact gTn_ob ht | exact gOb_c rfl | exact gAl_c rfl | exact rfl) ?_)
    refine go_br okX2_joinUp rfl (fun _ => ?_) (fun h => absurd (lp_ge ((congrFun (juF_o ⟨by omega, by omega⟩ np) 5).trans hp)) h)
    repeat (refine go_gd [19, 47, 89, 120] rfl ?_; fail_if_success (refine go_br okX2_joinUp rfl (fun _ => ?_) (fun _ => ?_)); first | refine go_st okX2_joinUp rfl ?_ | refine go_ck okX2_joinUp rfl (by first | with_reducible exact gTn_ob ht | exact gOb_c rfl | exact gAl_c rfl | exact rfl) ?_)
    exact go_vret (reX2_joinUp _ (by decide)) rfl (⟨rfl, rfl⟩)
