/-! Decade: the joins gathered -/
theorem dSh : (∀ k, k < 4 → gSh (15 + k) = (1, 38) ∧ 15 + k < gN) ∧ (∀ k, k < 3 → gSh (19 + k) = (1, 12) ∧ 19 + k < gN) ∧ (∀ y, y < 12 → (gSh (23 + y) = (1, 6) ∧ 23 + y < gN) ∧ (gSh (36 + y) = (1, 6) ∧ 36 + y < gN) ∧ (gSh (49 + y) = (1, 6) ∧ 49 + y < gN)) := by decide +kernel
theorem dJ {i k : Nat} (hi : i < 4) (hk : k < 38) : gHx 1 (15 + i) k := gHx_of (dSh.1 i hi).1 (dSh.1 i hi).2 hk (by decide)
theorem dJ0 {k : Nat} (hk : k < 38) : gHx 1 15 k := dJ (i := 0) (by decide) hk
theorem dJ1 {k : Nat} (hk : k < 38) : gHx 1 16 k := dJ (i := 1) (by decide) hk
theorem dJ2 {k : Nat} (hk : k < 38) : gHx 1 17 k := dJ (i := 2) (by decide) hk
theorem dJ3 {k : Nat} (hk : k < 38) : gHx 1 18 k := dJ (i := 3) (by decide) hk
theorem dY {i k : Nat} (hi : i < 3) (hk : k < 12) : gHx 1 (19 + i) k := gHx_of (dSh.2.1 i hi).1 (dSh.2.1 i hi).2 hk (by decide)
theorem dY0 {k : Nat} (hk : k < 12) : gHx 1 19 k := dY (i := 0) (by decide) hk
theorem dY1 {k : Nat} (hk : k < 12) : gHx 1 20 k := dY (i := 1) (by decide) hk
theorem dY2 {k : Nat} (hk : k < 12) : gHx 1 21 k := dY (i := 2) (by decide) hk
theorem dW {y k : Nat} (hy : y < 12) (hk : k < 6) : gHx 1 (23 + y) k := gHx_of (dSh.2.2 y hy).1.1 (dSh.2.2 y hy).1.2 hk (by decide)
theorem dT {y k : Nat} (hy : y < 12) (hk : k < 6) : gHx 1 (36 + y) k := gHx_of (dSh.2.2 y hy).2.1.1 (dSh.2.2 y hy).2.1.2 hk (by decide)
theorem dF {y k : Nat} (hy : y < 12) (hk : k < 6) : gHx 1 (49 + y) k := gHx_of (dSh.2.2 y hy).2.2.1 (dSh.2.2 y hy).2.2.2 hk (by decide)
theorem d22 {y : Nat} (hy : y < 12) : gHx 7 22 y := gHx_of (n := 12) rfl (by decide) hy (by decide)
theorem d35 {y : Nat} (hy : y < 12) : gHx 7 35 y := gHx_of (n := 12) rfl (by decide) hy (by decide)
theorem d48 {y : Nat} (hy : y < 12) : gHx 7 48 y := gHx_of (n := 12) rfl (by decide) hy (by decide)
theorem a22 {y : Nat} (hy : y < 12) : gHx 7 22 y ∧ gRa 22 y = 23 + y := ⟨d22 hy, by show 22 + 1 + y = 23 + y; omega⟩
theorem a35 {y : Nat} (hy : y < 12) : gHx 7 35 y ∧ gRa 35 y = 36 + y := ⟨d35 hy, by show 35 + 1 + y = 36 + y; omega⟩
theorem a48 {y : Nat} (hy : y < 12) : gHx 7 48 y ∧ gRa 48 y = 49 + y := ⟨d48 hy, by show 48 + 1 + y = 49 + y; omega⟩
theorem gTn_big {t : Nat} (h : gTn t) : 66 ≤ t ∧ t + 15 ≤ 141 := by
  obtain ⟨j, hj, rfl⟩ := h
  omega
def spN (M : gMem) : gMem := gSI (gSI (gSI (gSI (gSI M 14 0 0) 14 1 0) 14 2 0) 14 3 0) 14 4 0
theorem R_supposeNothing (G : gG) (M : gMem) : gRun G YX2_supposeNothing 0 [.ref 14] M (fun r N => r = none ∧ N = spN M) := by
  refine gRun_in (by decide +kernel) rfl (fun d hd => ?_)
  repeat (first | refine go_sx [] rfl okX2_supposeNothing rfl ?_ | refine go_ck okX2_supposeNothing rfl (by first | with_reducible exact rfl | with_reducible exact Or.inl rfl | exact gOb_c rfl | exact gAl_c rfl | exact rfl) ?_)
  exact go_vret (reX2_supposeNothing _ (by decide)) rfl (⟨rfl, rfl⟩)
/-- what gather leaves at place k -/
def gaE (M : gMem) (t na : Nat) (first second from_ until_ act : Int32) : Int32 :=
  let c := cutR (M.1 (t + 10 + 1)) (M.1 (t + 10 + 2)) (M.1 (t + 10 + 3)) (M.1 (t + 10 + 4)) first second from_ act na
  let e0 := if M.1 14 1 = 0 then (if c < until_ then c else until_) else until_
  if gB (M.1 14 4) first = 0 then (if gB (M.1 14 4) second = 0 then e0 else 0) else 0
def gaM (M : gMem) (t na k : Nat) (first second from_ until_ act : Int32) : gMem :=
  gSI (gSI (gSI (gSI (gSI M 15 k first) 16 k second) 17 k from_) 18 k (gaE M t na first second from_ until_ act)) 14 5 (nI k + 1)
theorem R_gather (G : gG) (M : gMem) (t na k : Nat) (first second from_ until_ act : Int32) (ht : gTn t) (hn : M.1 (t + 10) 4 = nI na) (hna : na ≤ 31) (hk : M.1 14 5 = nI k) (hk2 : k < 38) : gRun G YX2_gather 2 [.ref 14, .ref t, .int first, .int second, .int from_, .int until_, .int act] M (fun r N => r = none ∧ N = gaM M t na k first second from_ until_ act) := by
  refine gRun_in (by decide +kernel) rfl (fun d hd => ?_)
  repeat (first | refine go_sx [41, 66] rfl okX2_gather rfl ?_ | refine go_ck okX2_gather rfl (by first | with_reducible exact gTn_ob ht | with_reducible exact gTn_acts ht | exact gOb_c rfl | exact gAl_c rfl | exact rfl) ?_)
  refine go_br okX2_gather rfl (fun _ => ?_) (fun h => absurd (show M.1 14 5 < 38 by rw [hk]; exact nI_lt hk2 (by decide)) h)
  have fin : ∀ e : Int32, e = gaE M t na first second from_ until_ act → gGo G YX2_gather d (fun r N => r = none ∧ N = gaM M t na k first second from_ until_ act) 66 [some (.ref 14), some (.ref t), some (.int first), some (.int second), some (.int from_), some (.int until_), some (.int act), some (.int e)] [] M := by
    intro e he
    subst he
    first | refine go_st okX2_gather rfl ?_ | refine go_ck okX2_gather rfl (by first | with_reducible exact gTn_ob ht | with_reducible exact gTn_acts ht | exact gOb_c rfl | exact gAl_c rfl | exact rfl) ?_
    have h1 : (gSI M 15 k first).1 14 5 = nI k := by
      rw [gSI_1 (by decide)]
      exact hk
    have h2 : (gSI (gSI M 15 k first) 16 k second).1 14 5 = nI k := by
      rw [gSI_1 (by decide), gSI_1 (by decide)]
      exact hk
    have h3 : (gSI (gSI (gSI M 15 k first) 16 k second) 17 k from_).1 14 5 = nI k := by
      rw [gSI_1 (by decide), gSI_1 (by decide), gSI_1 (by decide)]
      exact hk
    repeat (first | refine go_sx [41, 66] rfl okX2_gather rfl ?_ | refine go_alE okX2_gather rfl (by first | (constructor; with_reducible exact dJ0 hk2; exact hk) | (constructor; with_reducible exact dJ1 hk2; exact h1) | (constructor; with_reducible exact dJ2 hk2; exact h2) | (constructor; with_reducible exact dJ3 hk2; exact h3)) ?_ | refine go_asE okX2_gather rfl (by first | (constructor; with_reducible exact dJ0 hk2; exact hk) | (constructor; with_reducible exact dJ1 hk2; exact h1) | (constructor; with_reducible exact dJ2 hk2; exact h2) | (constructor; with_reducible exact dJ3 hk2; exact h3)) ?_ | refine go_ck okX2_gather rfl (by first | with_reducible exact gTn_ob ht | with_reducible exact gTn_acts ht | exact gOb_c rfl | exact gAl_c rfl | exact rfl) ?_)
    have hX : (gSI (gSI (gSI (gSI M 15 k first) 16 k second) 17 k from_) 18 k (gaE M t na first second from_ until_ act)).1 14 5 = nI k := by
      rw [gSI_1 (by decide), gSI_1 (by decide), gSI_1 (by decide), gSI_1 (by decide)]
      exact hk
    refine go_eq (M2 := gSI (gSI (gSI (gSI (gSI M 15 k first) 16 k second) 17 k from_) 18 k (gaE M t na first second from_ until_ act)) 14 5 ((gSI (gSI (gSI (gSI M 15 k first) 16 k second) 17 k from_) 18 k (gaE M t na first second from_ until_ act)).1 14 5 + 1)) ?_ rfl rfl rfl
    rw [hX]
    exact go_vret (reX2_gather _ (by decide)) rfl (⟨rfl, rfl⟩)
  have mid : ∀ e0 : Int32, e0 = (if M.1 14 1 = 0 then (if cutR (M.1 (t + 10 + 1)) (M.1 (t + 10 + 2)) (M.1 (t + 10 + 3)) (M.1 (t + 10 + 4)) first second from_ act na < until_ then cutR (M.1 (t + 10 + 1)) (M.1 (t + 10 + 2)) (M.1 (t + 10 + 3)) (M.1 (t + 10 + 4)) first second from_ act na else until_) else until_) → gGo G YX2_gather d (fun r N => r = none ∧ N = gaM M t na k first second from_ until_ act) 41 [some (.ref 14), some (.ref t), some (.int first), some (.int second), some (.int from_), some (.int until_), some (.int act), some (.int e0)] [] M := by
    intro e0 he
    first | refine go_st okX2_gather rfl ?_ | refine go_ck okX2_gather rfl (by first | with_reducible exact gTn_ob ht | with_reducible exact gTn_acts ht | exact gOb_c rfl | exact gAl_c rfl | exact rfl) ?_
    repeat (first | refine go_sx [41, 66] rfl okX2_gather rfl ?_ | refine go_ck okX2_gather rfl (by first | with_reducible exact gTn_ob ht | with_reducible exact gTn_acts ht | exact gOb_c rfl | exact gAl_c rfl | exact rfl) ?_)
    refine go_call1 ocX2_gather rfl rfl (by first | exact gOb_c rfl | exact rfl) rfl (R_has G M _ first) (by omega) ?_
    refine go_br okX2_gather rfl (fun h1 => ?_) (fun h1 => ?_)
    · repeat (first | refine go_sx [41, 66] rfl okX2_gather rfl ?_ | refine go_ck okX2_gather rfl (by first | with_reducible exact gTn_ob ht | with_reducible exact gTn_acts ht | exact gOb_c rfl | exact gAl_c rfl | exact rfl) ?_)
      refine go_call1 ocX2_gather rfl rfl (by first | exact gOb_c rfl | exact rfl) rfl (R_has G M _ second) (by omega) ?_
      refine go_br okX2_gather rfl (fun h2 => ?_) (fun h2 => ?_)
      · repeat (first | refine go_sx [41, 66] rfl okX2_gather rfl ?_ | refine go_ck okX2_gather rfl (by first | with_reducible exact gTn_ob ht | with_reducible exact gTn_acts ht | exact gOb_c rfl | exact gAl_c rfl | exact rfl) ?_)
        exact fin e0 (by simp only [gaE, if_pos h1, if_pos h2]; exact he)
      · repeat (first | refine go_sx [41, 66] rfl okX2_gather rfl ?_ | refine go_ck okX2_gather rfl (by first | with_reducible exact gTn_ob ht | with_reducible exact gTn_acts ht | exact gOb_c rfl | exact gAl_c rfl | exact rfl) ?_)
        exact fin 0 (by simp only [gaE, if_pos h1, if_neg h2])
    · repeat (first | refine go_sx [41, 66] rfl okX2_gather rfl ?_ | refine go_ck okX2_gather rfl (by first | with_reducible exact gTn_ob ht | with_reducible exact gTn_acts ht | exact gOb_c rfl | exact gAl_c rfl | exact rfl) ?_)
      exact fin 0 (by simp only [gaE, if_neg h1])
  repeat (first | refine go_sx [41, 66] rfl okX2_gather rfl ?_ | refine go_ck okX2_gather rfl (by first | with_reducible exact gTn_ob ht | with_reducible exact gTn_acts ht | exact gOb_c rfl | exact gAl_c rfl | exact rfl) ?_)
  refine go_br okX2_gather rfl (fun h0 => ?_) (fun h0 => ?_)
  · repeat (first | refine go_sx [41, 66] rfl okX2_gather rfl ?_ | refine go_ck okX2_gather rfl (by first | with_reducible exact gTn_ob ht | with_reducible exact gTn_acts ht | exact gOb_c rfl | exact gAl_c rfl | exact rfl) ?_)
    refine go_call1 ocX2_gather rfl rfl (gTn_acts ht) rfl (R_cutOf G M t na first second from_ act ht hn hna) (by omega) ?_
    repeat (first | refine go_sx [41, 66] rfl okX2_gather rfl ?_ | refine go_ck okX2_gather rfl (by first | with_reducible exact gTn_ob ht | with_reducible exact gTn_acts ht | exact gOb_c rfl | exact gAl_c rfl | exact rfl) ?_)
    exact mid _ (by rw [if_pos h0])
  · repeat (first | refine go_sx [41, 66] rfl okX2_gather rfl ?_ | refine go_ck okX2_gather rfl (by first | with_reducible exact gTn_ob ht | with_reducible exact gTn_acts ht | exact gOb_c rfl | exact gAl_c rfl | exact rfl) ?_)
    exact mid _ (by rw [if_neg h0])
theorem gaM_o {M : gMem} {t na k q : Nat} {a b c e f : Int32} (h : q < 14 ∨ 18 < q) : (gaM M t na k a b c e f).1 q = M.1 q := by
  unfold gaM
  rw [gSI_1 (by omega), gSI_1 (by omega), gSI_1 (by omega), gSI_1 (by omega), gSI_1 (by omega)]
theorem gaM_14 {M : gMem} {t na k j : Nat} {a b c e f : Int32} (h : j ≠ 5) : (gaM M t na k a b c e f).1 14 j = M.1 14 j := by
  unfold gaM
  rw [gSI_0, pk_un h, gSI_1 (by decide), gSI_1 (by decide), gSI_1 (by decide), gSI_1 (by decide)]
theorem gaM_145 {M : gMem} {t na k : Nat} {a b c e f : Int32} : (gaM M t na k a b c e f).1 14 5 = nI (k + 1) := by
  unfold gaM
  rw [gSI_0, pk_us, nI_succ]
theorem gaM_2 {M : gMem} {t na k : Nat} {a b c e f : Int32} : (gaM M t na k a b c e f).2 = M.2 := rfl
/-- the told ones -/
def gjT (M : gMem) (t na : Nat) : Nat → gMem
  | 0 => gSI M 14 5 0
  | k + 1 => gaM (gjT M t na k) t na k ((gjT M t na k).1 (t + 4) k) ((gjT M t na k).1 (t + 5) k) 0 (if gB ((gjT M t na k).1 14 0) (nI k) = 0 then (gjT M t na k).1 (t + 6) k else 0) (-1)
/-- and those of acts: with how many there are -/
def gjA (M : gMem) (t na nj : Nat) : Nat → gMem × Nat
  | 0 => (gjT M t na nj, nj)
  | k + 1 => if (gjA M t na nj k).1.1 (t + 10 + 4) k = 0 then gjA M t na nj k else (gaM (gjA M t na nj k).1 t na (gjA M t na nj k).2 ((gjA M t na nj k).1.1 (t + 10 + 1) k) ((gjA M t na nj k).1.1 (t + 10 + 2) k) ((gjA M t na nj k).1.1 (t + 10 + 3) k) ((gjA M t na nj k).1.1 (t + 10 + 3) k + (gjA M t na nj k).1.1 (t + 10 + 4) k) (nI k), (gjA M t na nj k).2 + 1)
theorem gjT_o {M : gMem} {t na q : Nat} (h : q < 14 ∨ 18 < q) : ∀ k, (gjT M t na k).1 q = M.1 q
  | 0 => gSI_1 (by omega)
  | k + 1 => by rw [gjT, gaM_o h, gjT_o h k]
theorem gjT_14 {M : gMem} {t na j : Nat} (h : j ≠ 5) : ∀ k, (gjT M t na k).1 14 j = M.1 14 j
  | 0 => by rw [gjT, gSI_0, pk_un h]
  | k + 1 => by rw [gjT, gaM_14 h, gjT_14 h k]
theorem gjT_145 {M : gMem} {t na : Nat} : ∀ k, (gjT M t na k).1 14 5 = nI k
  | 0 => by rw [gjT, gSI_0, pk_us]; rfl
  | k + 1 => by rw [gjT, gaM_145]
theorem gjT_2 {M : gMem} {t na : Nat} : ∀ k, (gjT M t na k).2 = M.2
  | 0 => rfl
  | k + 1 => by rw [gjT, gaM_2, gjT_2 k]
theorem gjA_o {M : gMem} {t na nj q : Nat} (h : q < 14 ∨ 18 < q) : ∀ k, (gjA M t na nj k).1.1 q = M.1 q
  | 0 => gjT_o h nj
  | k + 1 => by
    rw [gjA]
    split
    · exact gjA_o h k
    · show (gaM _ _ _ _ _ _ _ _ _).1 q = _
      rw [gaM_o h, gjA_o h k]
theorem gjA_14 {M : gMem} {t na nj j : Nat} (h : j ≠ 5) : ∀ k, (gjA M t na nj k).1.1 14 j = M.1 14 j
  | 0 => gjT_14 h nj
  | k + 1 => by
    rw [gjA]
    split
    · exact gjA_14 h k
    · show (gaM _ _ _ _ _ _ _ _ _).1 14 j = _
      rw [gaM_14 h, gjA_14 h k]
theorem gjA_145 {M : gMem} {t na nj : Nat} : ∀ k, (gjA M t na nj k).1.1 14 5 = nI (gjA M t na nj k).2
  | 0 => gjT_145 nj
  | k + 1 => by
    rw [gjA]
    split
    · exact gjA_145 k
    · exact gaM_145
theorem gjA_le {M : gMem} {t na nj : Nat} : ∀ k, (gjA M t na nj k).2 ≤ nj + k
  | 0 => Nat.le_refl _
  | k + 1 => by
    rw [gjA]
    have := gjA_le (M := M) (t := t) (na := na) (nj := nj) k
    split
    · omega
    · show _ + 1 ≤ _
      omega
theorem gjA_2 {M : gMem} {t na nj : Nat} : ∀ k, (gjA M t na nj k).1.2 = M.2
  | 0 => gjT_2 nj
  | k + 1 => by
    rw [gjA]
    split
    · exact gjA_2 k
    · show (gaM _ _ _ _ _ _ _ _ _).2 = _
      rw [gaM_2, gjA_2 k]
def gjM (M : gMem) (t na nj : Nat) : gMem := if M.1 14 1 = 0 then (gjA M t na nj na).1 else gjT M t na nj
theorem R_gatherJoins (G : gG) (M : gMem) (t na nj : Nat) (ht : gTn t) (hn : M.1 (t + 10) 4 = nI na) (hna : na ≤ 31) (hj : M.1 t 6 = nI nj) (hnj : nj ≤ 7) : gRun G YX2_gatherJoins 3 [.ref 14, .ref t] M (fun r N => r = none ∧ N = gjM M t na nj) := by
  have hb := gTn_big ht
  refine gRun_in (by decide +kernel) rfl (fun d hd => ?_)
  repeat (first | refine go_sx [7, 36, 63, 78] rfl okX2_gatherJoins rfl ?_ | refine go_ck okX2_gatherJoins rfl (by first | with_reducible exact gTn_ob ht | with_reducible exact gTn_acts ht | exact gOb_c rfl | exact gAl_c rfl | exact rfl) ?_)
  refine go_for (fun i => [some (.ref 14), some (.ref t), some (.int (nI i)), none, none]) (fun i => gjT M t na i) nj (fun i hi k => ?_) ?_
  · first | refine go_st okX2_gatherJoins rfl ?_ | refine go_ck okX2_gatherJoins rfl (by first | with_reducible exact gTn_ob ht | with_reducible exact gTn_acts ht | exact gOb_c rfl | exact gAl_c rfl | exact rfl) ?_
    repeat (first | refine go_sx [7, 36, 63, 78] rfl okX2_gatherJoins rfl ?_ | refine go_ck okX2_gatherJoins rfl (by first | with_reducible exact gTn_ob ht | with_reducible exact gTn_acts ht | exact gOb_c rfl | exact gAl_c rfl | exact rfl) ?_)
    refine go_br okX2_gatherJoins rfl (fun h => absurd h (lp_lt ((congrFun (gjT_o (by omega) i) 6).trans hj) hi (by first | omega | decide))) (fun _ => ?_)
    repeat (first | refine go_sx [7, 36, 63, 78] rfl okX2_gatherJoins rfl ?_ | refine go_ck okX2_gatherJoins rfl (by first | with_reducible exact gTn_ob ht | with_reducible exact gTn_acts ht | exact gOb_c rfl | exact gAl_c rfl | exact rfl) ?_)
    refine go_call1 ocX2_gatherJoins rfl rfl (by first | exact gOb_c rfl | exact rfl) rfl (R_has G _ _ (nI i)) (by omega) ?_
    have fin : ∀ w : Int32, w = (if gB ((gjT M t na i).1 14 0) (nI i) = 0 then (gjT M t na i).1 (t + 6) i else 0) → gGo G YX2_gatherJoins d (fun r N => r = none ∧ N = gjM M t na nj) 36 [some (.ref 14), some (.ref t), some (.int (nI i)), none, none] [.int w] (gjT M t na i) := by
      intro w hw
      subst hw
      first | refine go_st okX2_gatherJoins rfl ?_ | refine go_ck okX2_gatherJoins rfl (by first | with_reducible exact gTn_ob ht | with_reducible exact gTn_acts ht | exact gOb_c rfl | exact gAl_c rfl | exact rfl) ?_
      repeat (first | refine go_sx [7, 36, 63, 78] rfl okX2_gatherJoins rfl ?_ | refine go_al okX2_gatherJoins rfl (by first | with_reducible exact gTn_h (i := 4) ht (by decide) rfl (show i < 7 by omega) (by decide) | with_reducible exact gTn_h (i := 5) ht (by decide) rfl (show i < 7 by omega) (by decide)) ?_ | refine go_as okX2_gatherJoins rfl (by first | with_reducible exact gTn_h (i := 4) ht (by decide) rfl (show i < 7 by omega) (by decide) | with_reducible exact gTn_h (i := 5) ht (by decide) rfl (show i < 7 by omega) (by decide)) ?_ | refine go_ck okX2_gatherJoins rfl (by first | with_reducible exact gTn_ob ht | with_reducible exact gTn_acts ht | exact gOb_c rfl | exact gAl_c rfl | exact rfl) ?_)
      refine go_call1 ocX2_gatherJoins rfl rfl (by first | exact gOb_c rfl | exact rfl) rfl (R_gather G (gjT M t na i) t na i _ _ _ _ _ ht ((congrFun (gjT_o (by omega) i) 4).trans hn) hna (gjT_145 i) (by omega)) (by omega) ?_
      repeat (first | refine go_sx [7, 36, 63, 78] rfl okX2_gatherJoins rfl ?_ | refine go_ck okX2_gatherJoins rfl (by first | with_reducible exact gTn_ob ht | with_reducible exact gTn_acts ht | exact gOb_c rfl | exact gAl_c rfl | exact rfl) ?_)
      rw [nI_succ] at k
      exact go_wk k ⟨rfl, rfl, rfl, True.intro, True.intro, True.intro⟩
    refine go_br okX2_gatherJoins rfl (fun h1 => ?_) (fun h1 => ?_)
    · repeat (first | refine go_sx [7, 36, 63, 78] rfl okX2_gatherJoins rfl ?_ | refine go_al okX2_gatherJoins rfl (by first | with_reducible exact gTn_h (i := 6) ht (by decide) rfl (show i < 7 by omega) (by decide)) ?_ | refine go_as okX2_gatherJoins rfl (by first | with_reducible exact gTn_h (i := 6) ht (by decide) rfl (show i < 7 by omega) (by decide)) ?_ | refine go_ck okX2_gatherJoins rfl (by first | with_reducible exact gTn_ob ht | with_reducible exact gTn_acts ht | exact gOb_c rfl | exact gAl_c rfl | exact rfl) ?_)
      exact fin _ (by rw [if_pos h1])
    · repeat (first | refine go_sx [7, 36, 63, 78] rfl okX2_gatherJoins rfl ?_ | refine go_ck okX2_gatherJoins rfl (by first | with_reducible exact gTn_ob ht | with_reducible exact gTn_acts ht | exact gOb_c rfl | exact gAl_c rfl | exact rfl) ?_)
      exact fin _ (by rw [if_neg h1])
  · first | refine go_st okX2_gatherJoins rfl ?_ | refine go_ck okX2_gatherJoins rfl (by first | with_reducible exact gTn_ob ht | with_reducible exact gTn_acts ht | exact gOb_c rfl | exact gAl_c rfl | exact rfl) ?_
    repeat (first | refine go_sx [7, 36, 63, 78] rfl okX2_gatherJoins rfl ?_ | refine go_ck okX2_gatherJoins rfl (by first | with_reducible exact gTn_ob ht | with_reducible exact gTn_acts ht | exact gOb_c rfl | exact gAl_c rfl | exact rfl) ?_)
    refine go_br okX2_gatherJoins rfl (fun _ => ?_) (fun h => absurd (lp_ge ((congrFun (gjT_o (by omega) nj) 6).trans hj)) h)
    first | refine go_st okX2_gatherJoins rfl ?_ | refine go_ck okX2_gatherJoins rfl (by first | with_reducible exact gTn_ob ht | with_reducible exact gTn_acts ht | exact gOb_c rfl | exact gAl_c rfl | exact rfl) ?_
    repeat (first | refine go_sx [7, 36, 63, 78] rfl okX2_gatherJoins rfl ?_ | refine go_ck okX2_gatherJoins rfl (by first | with_reducible exact gTn_ob ht | with_reducible exact gTn_acts ht | exact gOb_c rfl | exact gAl_c rfl | exact rfl) ?_)
    refine go_br okX2_gatherJoins rfl (fun h1 => ?_) (fun h1 => ?_)
    · rw [gjT_14 (by decide)] at h1
      repeat (first | refine go_sx [7, 36, 63, 78] rfl okX2_gatherJoins rfl ?_ | refine go_ck okX2_gatherJoins rfl (by first | with_reducible exact gTn_ob ht | with_reducible exact gTn_acts ht | exact gOb_c rfl | exact gAl_c rfl | exact rfl) ?_)
      refine go_for (fun i => [some (.ref 14), some (.ref t), some (.ref (t + 10)), some (.int (nI i)), none]) (fun i => (gjA M t na nj i).1) na (fun i hi k => ?_) ?_
      · first | refine go_st okX2_gatherJoins rfl ?_ | refine go_ck okX2_gatherJoins rfl (by first | with_reducible exact gTn_ob ht | with_reducible exact gTn_acts ht | exact gOb_c rfl | exact gAl_c rfl | exact rfl) ?_
        repeat (first | refine go_sx [7, 36, 63, 78] rfl okX2_gatherJoins rfl ?_ | refine go_ck okX2_gatherJoins rfl (by first | with_reducible exact gTn_ob ht | with_reducible exact gTn_acts ht | exact gOb_c rfl | exact gAl_c rfl | exact rfl) ?_)
        refine go_br okX2_gatherJoins rfl (fun h => absurd h (lp_lt ((congrFun (gjA_o (by omega) i) 4).trans hn) hi (by first | omega | decide))) (fun _ => ?_)
        repeat (first | refine go_sx [7, 36, 63, 78] rfl okX2_gatherJoins rfl ?_ | refine go_al okX2_gatherJoins rfl (by first | with_reducible exact gTn_a3 ht (show i < 31 by omega)) ?_ | refine go_as okX2_gatherJoins rfl (by first | with_reducible exact gTn_a3 ht (show i < 31 by omega)) ?_ | refine go_ck okX2_gatherJoins rfl (by first | with_reducible exact gTn_ob ht | with_reducible exact gTn_acts ht | exact gOb_c rfl | exact gAl_c rfl | exact rfl) ?_)
        rw [gjA] at k
        refine go_br okX2_gatherJoins rfl (fun h2 => ?_) (fun h2 => ?_)
        · rw [if_pos h2, nI_succ] at k
          repeat (first | refine go_sx [7, 36, 63, 78] rfl okX2_gatherJoins rfl ?_ | refine go_ck okX2_gatherJoins rfl (by first | with_reducible exact gTn_ob ht | with_reducible exact gTn_acts ht | exact gOb_c rfl | exact gAl_c rfl | exact rfl) ?_)
          exact k
        · rw [if_neg h2, nI_succ] at k
          repeat (first | refine go_sx [7, 36, 63, 78] rfl okX2_gatherJoins rfl ?_ | refine go_al okX2_gatherJoins rfl (by first | with_reducible exact gTn_a0 ht (show i < 31 by omega) | with_reducible exact gTn_a1 ht (show i < 31 by omega) | with_reducible exact gTn_a2 ht (show i < 31 by omega) | with_reducible exact gTn_a3 ht (show i < 31 by omega)) ?_ | refine go_as okX2_gatherJoins rfl (by first | with_reducible exact gTn_a0 ht (show i < 31 by omega) | with_reducible exact gTn_a1 ht (show i < 31 by omega) | with_reducible exact gTn_a2 ht (show i < 31 by omega) | with_reducible exact gTn_a3 ht (show i < 31 by omega)) ?_ | refine go_ck okX2_gatherJoins rfl (by first | with_reducible exact gTn_ob ht | with_reducible exact gTn_acts ht | exact gOb_c rfl | exact gAl_c rfl | exact rfl) ?_)
          have := gjA_le (M := M) (t := t) (na := na) (nj := nj) i
          refine go_call1 ocX2_gatherJoins rfl rfl (by first | exact gOb_c rfl | exact rfl) rfl (R_gather G (gjA M t na nj i).1 t na (gjA M t na nj i).2 _ _ _ _ _ ht ((congrFun (gjA_o (by omega) i) 4).trans hn) hna (gjA_145 i) (by omega)) (by omega) ?_
          repeat (first | refine go_sx [7, 36, 63, 78] rfl okX2_gatherJoins rfl ?_ | refine go_ck okX2_gatherJoins rfl (by first | with_reducible exact gTn_ob ht | with_reducible exact gTn_acts ht | exact gOb_c rfl | exact gAl_c rfl | exact rfl) ?_)
          exact go_wk k ⟨rfl, rfl, rfl, rfl, True.intro, True.intro⟩
      · first | refine go_st okX2_gatherJoins rfl ?_ | refine go_ck okX2_gatherJoins rfl (by first | with_reducible exact gTn_ob ht | with_reducible exact gTn_acts ht | exact gOb_c rfl | exact gAl_c rfl | exact rfl) ?_
        repeat (first | refine go_sx [7, 36, 63, 78] rfl okX2_gatherJoins rfl ?_ | refine go_ck okX2_gatherJoins rfl (by first | with_reducible exact gTn_ob ht | with_reducible exact gTn_acts ht | exact gOb_c rfl | exact gAl_c rfl | exact rfl) ?_)
        refine go_br okX2_gatherJoins rfl (fun _ => ?_) (fun h => absurd (lp_ge ((congrFun (gjA_o (by omega) na) 4).trans hn)) h)
        repeat (first | refine go_sx [7, 36, 63, 78] rfl okX2_gatherJoins rfl ?_ | refine go_ck okX2_gatherJoins rfl (by first | with_reducible exact gTn_ob ht | with_reducible exact gTn_acts ht | exact gOb_c rfl | exact gAl_c rfl | exact rfl) ?_)
        exact go_vret (reX2_gatherJoins _ (by decide)) rfl (⟨rfl, by rw [gjM, if_pos h1]⟩)
    · rw [gjT_14 (by decide)] at h1
      repeat (first | refine go_sx [7, 36, 63, 78] rfl okX2_gatherJoins rfl ?_ | refine go_ck okX2_gatherJoins rfl (by first | with_reducible exact gTn_ob ht | with_reducible exact gTn_acts ht | exact gOb_c rfl | exact gAl_c rfl | exact rfl) ?_)
      exact go_vret (reX2_gatherJoins _ (by decide)) rfl (⟨rfl, by rw [gjM, if_neg h1]⟩)
