/-! the JDK's own methods that are reached -/
def gPop (x : Int32) : Int32 :=
  let sh := fun (x y : Int32) => (x.toUInt32 >>> (y.toUInt32 &&& Int32.toUInt32 31)).toInt32
  let a := x - (sh x 1 &&& 1431655765)
  let b := (a &&& 858993459) + (sh a 2 &&& 858993459)
  let c := (b + sh b 4) &&& 252645135
  let d := c + sh c 8
  let e := d + sh d 16
  e &&& 63
theorem R_bitCount (G : gG) (M : gMem) (x : Int32) : gRun G YJ6_bitCount_0f7a4 0 [.int x] M (fun r N => r = some (.int (gPop x)) ∧ N = M) := by
  refine gRun_in (by decide +kernel) rfl (fun d hd => ?_)
  repeat (first | refine go_sx [] rfl okJ6_bitCount_0f7a4 rfl ?_ | refine go_ck okJ6_bitCount_0f7a4 rfl (by first | exact gOb_c rfl | exact gAl_c rfl | exact rfl) ?_)
  exact go_iret (reJ6_bitCount_0f7a4 _ (by decide)) rfl (⟨rfl, rfl⟩)
def gCmp (x y : Int64) : Int32 := if 0 ≤ lg_cmp x y then (if lg_cmp x y = 0 then 0 else 1) else -1
theorem R_compare (G : gG) (M : gMem) (x y : Int64) : gRun G YJ13_compare_74951 0 [.long x, .long y] M (fun r N => r = some (.int (gCmp x y)) ∧ N = M) := by
  refine gRun_in (by decide +kernel) rfl (fun d hd => ?_)
  repeat' (first | refine go_sx [] rfl okJ13_compare_74951 rfl ?_ | refine go_ck okJ13_compare_74951 rfl (by first | exact gOb_c rfl | exact gAl_c rfl | exact rfl) ?_ | refine go_br okJ13_compare_74951 rfl (fun _ => ?_) (fun _ => ?_))
  all_goals exact go_iret (reJ13_compare_74951 _ (by decide)) rfl ⟨by first | (simp only [gCmp, *, if_true, if_false, not_true_eq_false, not_false_eq_true, ne_eq]; done) | (simp [gCmp, *]; done) | (unfold gCmp; (repeat' split) <;> first | rfl | contradiction), rfl⟩
theorem R_chk3 (G : gG) (M : gMem) (i n : Int32) (v : Value) (hv : v = .null ∨ v = .ref 950) (h0 : ¬ i < 0) (h1 : i < n) : gRun G YJ3_checkIndex_8e157 0 [.int i, .int n, v] M (fun r N => r = some (.int i) ∧ N = M) := by
  rcases hv with rfl | rfl
  · refine gRun_in (by decide +kernel) rfl (fun d hd => ?_)
    repeat (first | refine go_sx [] rfl okJ3_checkIndex_8e157 rfl ?_ | refine go_ck okJ3_checkIndex_8e157 rfl (by first | exact gOb_c rfl | exact gAl_c rfl | exact rfl) ?_)
    refine go_br okJ3_checkIndex_8e157 rfl (fun h => ?_) (fun h => ?_)
    · exact absurd h h0
    · repeat (first | refine go_sx [] rfl okJ3_checkIndex_8e157 rfl ?_ | refine go_ck okJ3_checkIndex_8e157 rfl (by first | exact gOb_c rfl | exact gAl_c rfl | exact rfl) ?_)
      refine go_br okJ3_checkIndex_8e157 rfl (fun h => ?_) (fun h => ?_)
      · repeat (first | refine go_sx [] rfl okJ3_checkIndex_8e157 rfl ?_ | refine go_ck okJ3_checkIndex_8e157 rfl (by first | exact gOb_c rfl | exact gAl_c rfl | exact rfl) ?_)
        exact go_iret (reJ3_checkIndex_8e157 _ (by decide)) rfl (⟨rfl, rfl⟩)
      · exact absurd h1 (by assumption)
  · refine gRun_in (by decide +kernel) rfl (fun d hd => ?_)
    repeat (first | refine go_sx [] rfl okJ3_checkIndex_8e157 rfl ?_ | refine go_ck okJ3_checkIndex_8e157 rfl (by first | exact gOb_c rfl | exact gAl_c rfl | exact rfl) ?_)
    refine go_br okJ3_checkIndex_8e157 rfl (fun h => ?_) (fun h => ?_)
    · exact absurd h h0
    · repeat (first | refine go_sx [] rfl okJ3_checkIndex_8e157 rfl ?_ | refine go_ck okJ3_checkIndex_8e157 rfl (by first | exact gOb_c rfl | exact gAl_c rfl | exact rfl) ?_)
      refine go_br okJ3_checkIndex_8e157 rfl (fun h => ?_) (fun h => ?_)
      · repeat (first | refine go_sx [] rfl okJ3_checkIndex_8e157 rfl ?_ | refine go_ck okJ3_checkIndex_8e157 rfl (by first | exact gOb_c rfl | exact gAl_c rfl | exact rfl) ?_)
        exact go_iret (reJ3_checkIndex_8e157 _ (by decide)) rfl (⟨rfl, rfl⟩)
      · exact absurd h1 (by assumption)
theorem R_chk (G : gG) (M : gMem) (i n : Int32) (h0 : ¬ i < 0) (h1 : i < n) : gRun G YJ0_checkIndex_df160 1 [.int i, .int n] M (fun r N => r = none ∧ N = M) := by
  refine gRun_in (by decide +kernel) rfl (fun d hd => ?_)
  repeat (first | refine go_sx [] rfl okJ0_checkIndex_df160 rfl ?_ | refine go_ck okJ0_checkIndex_df160 rfl (by first | exact gOb_c rfl | exact gAl_c rfl | exact rfl) ?_)
  refine go_sio (show decode cJ0_checkIndex_df160 2 = .ok (.getstatic 1053, 3) by decide +kernel) siJ0_checkIndex_df160 ?_ ?_
  · refine go_call1 ocJ0_checkIndex_df160 rfl rfl (by first | exact gOb_c rfl | exact rfl) rfl (R_chk3 G M i n .null (Or.inl rfl) h0 h1) (by omega) ?_
    repeat (first | refine go_sx [] rfl okJ0_checkIndex_df160 rfl ?_ | refine go_ck okJ0_checkIndex_df160 rfl (by first | exact gOb_c rfl | exact gAl_c rfl | exact rfl) ?_)
    exact go_vret (reJ0_checkIndex_df160 _ (by decide)) rfl (⟨rfl, rfl⟩)
  · refine go_call1 ocJ0_checkIndex_df160 rfl rfl (by first | exact gOb_c rfl | exact rfl) rfl (R_chk3 G M i n (.ref 950) (Or.inr rfl) h0 h1) (by omega) ?_
    repeat (first | refine go_sx [] rfl okJ0_checkIndex_df160 rfl ?_ | refine go_ck okJ0_checkIndex_df160 rfl (by first | exact gOb_c rfl | exact gAl_c rfl | exact rfl) ?_)
    exact go_vret (reJ0_checkIndex_df160 _ (by decide)) rfl (⟨rfl, rfl⟩)
def gTc (k j : Nat) : Int32 := (gTxb.getD k []).getD j 0
def gTn2 (k : Nat) : Nat := gTxl.getD k 0
theorem gTc_ok : ∀ k, k < 14 → ∀ j, j < gTn2 k → ((gTc k j &&& 255).toUInt32 % 65536).toInt32 = gTc k j ∧ narrow .char (.int (gTc k j)) = .int (gTc k j) ∧ gTn2 k < 100 := by decide +kernel
theorem gStr_of : ∀ k, k < 14 → gStr (910 + k) = true ∧ gSar (930 + k) = true ∧ gTn2 k < 100 := by decide +kernel
theorem R_lat (G : gG) (M : gMem) (k j : Nat) (hk : k < 14) (hj : j < gTn2 k) : gRun G YJ1_charAt_3b067 2 [.ref (930 + k), .int (nI j)] M (fun r N => r = some (.int (gTc k j)) ∧ N = M) := by
  obtain ⟨s1, s2, s3⟩ := gStr_of k hk
  obtain ⟨c1, c2, -⟩ := gTc_ok k hk j hj
  have e : 930 + k - 930 = k := by omega
  refine gRun_in (by decide +kernel) rfl (fun d hd => ?_)
  repeat (first | refine go_sx [] rfl okJ1_charAt_3b067 rfl ?_ | refine go_ck okJ1_charAt_3b067 rfl (by first | exact gOb_c rfl | exact gAl_c rfl | exact rfl) ?_)
  refine go_ck okJ1_charAt_3b067 rfl s2 ?_
  rw [e]
  refine go_call1 ocJ1_charAt_3b067 rfl rfl (by first | exact gOb_c rfl | exact rfl) rfl (R_chk G M (nI j) (nI (gTn2 k)) (nI_pos (by omega)) (nI_lt hj (by omega))) (by omega) ?_
  repeat (first | refine go_sx [] rfl okJ1_charAt_3b067 rfl ?_ | refine go_ck okJ1_charAt_3b067 rfl (by first | exact gOb_c rfl | exact gAl_c rfl | exact rfl) ?_)
  refine go_ck okJ1_charAt_3b067 rfl ⟨s2, by rw [nI_toInt (by omega)]; omega, by rw [nI_toInt (by omega), e]; exact_mod_cast hj⟩ ?_
  repeat (first | refine go_sx [] rfl okJ1_charAt_3b067 rfl ?_ | refine go_ck okJ1_charAt_3b067 rfl (by first | exact gOb_c rfl | exact gAl_c rfl | exact rfl) ?_)
  refine go_eq (S2 := [.int (gTc k j)]) (M2 := M) (go_nret (reJ1_charAt_3b067 _ (by decide)) rfl c2 ⟨rfl, rfl⟩) rfl ?_ rfl
  rw [nI_clamp (by omega), e]
  exact congrArg (fun z => [Value.int z]) c1
theorem R_isLatin1 (G : gG) (M : gMem) (k : Nat) (hk : k < 14) : gRun G YJ0_isLatin1_aae02 0 [.ref (910 + k)] M (fun r N => r = some (.int 1) ∧ N = M) := by
  refine gRun_in (by decide +kernel) rfl (fun d hd => ?_)
  repeat (first | refine go_sx [] rfl okJ0_isLatin1_aae02 rfl ?_ | refine go_ck okJ0_isLatin1_aae02 rfl (by first | with_reducible exact (gStr_of k hk).1 | exact gOb_c rfl | exact gAl_c rfl | exact rfl) ?_)
  exact go_zret (reJ0_isLatin1_aae02 _ (by decide)) rfl (Or.inr rfl) (⟨rfl, rfl⟩)
theorem R_coder (G : gG) (M : gMem) (k : Nat) (hk : k < 14) : gRun G YJ0_coder_7d493 0 [.ref (910 + k)] M (fun r N => r = some (.int 0) ∧ N = M) := by
  refine gRun_in (by decide +kernel) rfl (fun d hd => ?_)
  repeat (first | refine go_sx [] rfl okJ0_coder_7d493 rfl ?_ | refine go_ck okJ0_coder_7d493 rfl (by first | with_reducible exact (gStr_of k hk).1 | exact gOb_c rfl | exact gAl_c rfl | exact rfl) ?_)
  exact go_nret (reJ0_coder_7d493 _ (by decide)) rfl rfl ⟨rfl, rfl⟩
theorem gSh0 : ∀ k, k < 14 → nI (gTxl.getD (910 + k + 20 - 930) 0) >>> ((0 : Int32) &&& 31) = nI (gTn2 k) ∧ gSar (910 + k + 20) = true := by decide +kernel
theorem R_length (G : gG) (M : gMem) (k : Nat) (hk : k < 14) : gRun G YJ0_length_8abf5 1 [.ref (910 + k)] M (fun r N => r = some (.int (nI (gTn2 k))) ∧ N = M) := by
  refine gRun_in (by decide +kernel) rfl (fun d hd => ?_)
  repeat (first | refine go_sx [] rfl okJ0_length_8abf5 rfl ?_ | refine go_ck okJ0_length_8abf5 rfl (by first | with_reducible exact (gStr_of k hk).1 | with_reducible exact (gSh0 k hk).2 | exact gOb_c rfl | exact gAl_c rfl | exact rfl) ?_)
  refine go_call1 ocJ0_length_8abf5 rfl rfl ((gStr_of k hk).1) rfl (R_coder G M k hk) (by omega) ?_
  repeat (first | refine go_sx [] rfl okJ0_length_8abf5 rfl ?_ | refine go_ck okJ0_length_8abf5 rfl (by first | with_reducible exact (gStr_of k hk).1 | with_reducible exact (gSh0 k hk).2 | exact gOb_c rfl | exact gAl_c rfl | exact rfl) ?_)
  refine go_eq (S2 := [.int (nI (gTn2 k))]) (M2 := M) (go_iret (reJ0_length_8abf5 _ (by decide)) rfl ⟨rfl, rfl⟩) rfl ?_ rfl
  exact congrArg (fun z => [Value.int z]) (gSh0 k hk).1
theorem R_charAt (G : gG) (M : gMem) (k j : Nat) (hk : k < 14) (hj : j < gTn2 k) : gRun G YJ0_charAt_5068e 3 [.ref (910 + k), .int (nI j)] M (fun r N => r = some (.int (gTc k j)) ∧ N = M) := by
  refine gRun_in (by decide +kernel) rfl (fun d hd => ?_)
  repeat (first | refine go_sx [] rfl okJ0_charAt_5068e rfl ?_ | refine go_ck okJ0_charAt_5068e rfl (by first | with_reducible exact (gStr_of k hk).1 | exact gOb_c rfl | exact gAl_c rfl | exact rfl) ?_)
  refine go_call1 ocJ0_charAt_5068e rfl rfl ((gStr_of k hk).1) rfl (R_isLatin1 G M k hk) (by omega) ?_
  repeat (first | refine go_sx [] rfl okJ0_charAt_5068e rfl ?_ | refine go_ck okJ0_charAt_5068e rfl (by first | with_reducible exact (gStr_of k hk).1 | exact gOb_c rfl | exact gAl_c rfl | exact rfl) ?_)
  rw [show 910 + k + 20 = 930 + k by omega]
  refine go_call1 ocJ0_charAt_5068e rfl rfl (by first | exact gOb_c rfl | exact rfl) rfl (R_lat G M k j hk hj) (by omega) ?_
  exact go_nret (reJ0_charAt_5068e _ (by decide)) rfl (gTc_ok k hk j hj).2.1 ⟨rfl, rfl⟩
