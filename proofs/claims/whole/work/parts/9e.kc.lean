/-! Constructors: the small ones. -/
def wActs (cA : Nat → ClassId) (f : Nat → Nat) : va_W := (f 0, .inr (0, [.ref (f 1), .ref (f 2), .ref (f 3), .ref (f 4), .int 0])) :: ([(f 1, .inl (cA 0, (31, .inl (fun _ => 0))))] ++ [(f 2, .inl (cA 0, (31, .inl (fun _ => 0))))] ++ [(f 3, .inl (cA 0, (31, .inl (fun _ => 0))))] ++ [(f 4, .inl (cA 0, (31, .inl (fun _ => 0))))])
theorem dfX0 : ∀ j, j < gNf 0 → defaultValue (gTy 0 j) = vp_V [.null, .null, .null, .null, .int 0] j := fun j hj => by
  match j, hj with
  | 0, _ => rfl
  | 1, _ => rfl
  | 2, _ => rfl
  | 3, _ => rfl
  | 4, _ => rfl
  | n + 5, hj => exact absurd (show n + 5 < 5 from hj) (by omega)
set_option maxHeartbeats 4000000 in
set_option maxRecDepth 100000 in
theorem cX0_init_ok : kMet YX0_init 2 4 124 (.inr (0, [.null, .null, .null, .null, .int 0])) wActs := by
  refine kMet_of (by decide +kernel) (by decide) rfl (fun p l e s m args below meth c D cA h0 A C hret hlk hin hA hAe ls hl => ?_)
  have hl : lv_has ls 1 [(0, .ref h0)] := hl
  refine k_al C (lv_at hl 0 rfl) rfl (show decode cX0_init 0 = .ok (.aload_n 0, 1) by decide +kernel) ?_
  refine k_obj C wd_1_60 kObjI kObjC hl.1 (show decode cX0_init 1 = .ok (.invokespecial 3, 3) by decide +kernel) ⟨Nat.le_of_ble_eq_true rfl, Nat.le_of_ble_eq_true rfl⟩ ?_
  refine k_al C (lv_at hl 0 rfl) rfl (show decode cX0_init 4 = .ok (.aload_n 0, 1) by decide +kernel) ?_
  refine k_bp (v := 31) C (show decode cX0_init 5 = .ok (.bipush 31, 2) by decide +kernel) (by decide) ?_
  refine k_na (atype := .int) (ty := .int) (i := 0) (N' := 31) (a0 := (31, .inl (fun _ => 0))) C hA wd_1_84 rfl rfl (fun _ h => h) (fun _ => rfl) (by decide) (by decide) (by decide) (Nat.le_of_ble_eq_true rfl) (Nat.le_of_ble_eq_true rfl) (show decode cX0_init 7 = .ok (.newarray .int, 2) by decide +kernel) (fun q1 => ?_)
  refine k_cs (c2 := 1) (s2 := 31) rfl rfl ?_
  refine k_eq (X2 := (h0, .inr (0, [.null, .null, .null, .null, .int 0])) :: ([(q1, .inl (cA 0, (31, .inl (fun _ => 0))))])) rfl ?_
  refine k_pf (j := 0) (ty := (.array .int)) C ck_0 (by decide) wd_1_61 rfl hin rfl (by decide +kernel) rfl rfl (Nat.le_of_ble_eq_true rfl) (show decode cX0_init 9 = .ok (.putfield 9, 3) by decide +kernel) ?_
  refine k_eq (X2 := (h0, .inr (0, [.ref q1, .null, .null, .null, .int 0])) :: ([(q1, .inl (cA 0, (31, .inl (fun _ => 0))))])) rfl ?_
  refine k_al C (lv_at hl 0 rfl) rfl (show decode cX0_init 12 = .ok (.aload_n 0, 1) by decide +kernel) ?_
  refine k_bp (v := 31) C (show decode cX0_init 13 = .ok (.bipush 31, 2) by decide +kernel) (by decide) ?_
  refine k_na (atype := .int) (ty := .int) (i := 0) (N' := 31) (a0 := (31, .inl (fun _ => 0))) C hA wd_1_84 rfl rfl (fun _ h => h) (fun _ => rfl) (by decide) (by decide) (by decide) (Nat.le_of_ble_eq_true rfl) (Nat.le_of_ble_eq_true rfl) (show decode cX0_init 15 = .ok (.newarray .int, 2) by decide +kernel) (fun q2 => ?_)
  refine k_cs (c2 := 2) (s2 := 62) rfl rfl ?_
  refine k_eq (X2 := (h0, .inr (0, [.ref q1, .null, .null, .null, .int 0])) :: ([(q1, .inl (cA 0, (31, .inl (fun _ => 0))))] ++ [(q2, .inl (cA 0, (31, .inl (fun _ => 0))))])) rfl ?_
  refine k_pf (j := 1) (ty := (.array .int)) C ck_0 (by decide) wd_1_63 rfl hin rfl (by decide +kernel) rfl rfl (Nat.le_of_ble_eq_true rfl) (show decode cX0_init 17 = .ok (.putfield 15, 3) by decide +kernel) ?_
  refine k_eq (X2 := (h0, .inr (0, [.ref q1, .ref q2, .null, .null, .int 0])) :: ([(q1, .inl (cA 0, (31, .inl (fun _ => 0))))] ++ [(q2, .inl (cA 0, (31, .inl (fun _ => 0))))])) rfl ?_
  refine k_al C (lv_at hl 0 rfl) rfl (show decode cX0_init 20 = .ok (.aload_n 0, 1) by decide +kernel) ?_
  refine k_bp (v := 31) C (show decode cX0_init 21 = .ok (.bipush 31, 2) by decide +kernel) (by decide) ?_
  refine k_na (atype := .int) (ty := .int) (i := 0) (N' := 31) (a0 := (31, .inl (fun _ => 0))) C hA wd_1_84 rfl rfl (fun _ h => h) (fun _ => rfl) (by decide) (by decide) (by decide) (Nat.le_of_ble_eq_true rfl) (Nat.le_of_ble_eq_true rfl) (show decode cX0_init 23 = .ok (.newarray .int, 2) by decide +kernel) (fun q3 => ?_)
  refine k_cs (c2 := 3) (s2 := 93) rfl rfl ?_
  refine k_eq (X2 := (h0, .inr (0, [.ref q1, .ref q2, .null, .null, .int 0])) :: ([(q1, .inl (cA 0, (31, .inl (fun _ => 0))))] ++ [(q2, .inl (cA 0, (31, .inl (fun _ => 0))))] ++ [(q3, .inl (cA 0, (31, .inl (fun _ => 0))))])) rfl ?_
  refine k_pf (j := 2) (ty := (.array .int)) C ck_0 (by decide) wd_1_65 rfl hin rfl (by decide +kernel) rfl rfl (Nat.le_of_ble_eq_true rfl) (show decode cX0_init 25 = .ok (.putfield 18, 3) by decide +kernel) ?_
  refine k_eq (X2 := (h0, .inr (0, [.ref q1, .ref q2, .ref q3, .null, .int 0])) :: ([(q1, .inl (cA 0, (31, .inl (fun _ => 0))))] ++ [(q2, .inl (cA 0, (31, .inl (fun _ => 0))))] ++ [(q3, .inl (cA 0, (31, .inl (fun _ => 0))))])) rfl ?_
  refine k_al C (lv_at hl 0 rfl) rfl (show decode cX0_init 28 = .ok (.aload_n 0, 1) by decide +kernel) ?_
  refine k_bp (v := 31) C (show decode cX0_init 29 = .ok (.bipush 31, 2) by decide +kernel) (by decide) ?_
  refine k_na (atype := .int) (ty := .int) (i := 0) (N' := 31) (a0 := (31, .inl (fun _ => 0))) C hA wd_1_84 rfl rfl (fun _ h => h) (fun _ => rfl) (by decide) (by decide) (by decide) (Nat.le_of_ble_eq_true rfl) (Nat.le_of_ble_eq_true rfl) (show decode cX0_init 31 = .ok (.newarray .int, 2) by decide +kernel) (fun q4 => ?_)
  refine k_cs (c2 := 4) (s2 := 124) rfl rfl ?_
  refine k_eq (X2 := (h0, .inr (0, [.ref q1, .ref q2, .ref q3, .null, .int 0])) :: ([(q1, .inl (cA 0, (31, .inl (fun _ => 0))))] ++ [(q2, .inl (cA 0, (31, .inl (fun _ => 0))))] ++ [(q3, .inl (cA 0, (31, .inl (fun _ => 0))))] ++ [(q4, .inl (cA 0, (31, .inl (fun _ => 0))))])) rfl ?_
  refine k_pf (j := 3) (ty := (.array .int)) C ck_0 (by decide) wd_1_67 rfl hin rfl (by decide +kernel) rfl rfl (Nat.le_of_ble_eq_true rfl) (show decode cX0_init 33 = .ok (.putfield 21, 3) by decide +kernel) ?_
  refine k_eq (X2 := (h0, .inr (0, [.ref q1, .ref q2, .ref q3, .ref q4, .int 0])) :: ([(q1, .inl (cA 0, (31, .inl (fun _ => 0))))] ++ [(q2, .inl (cA 0, (31, .inl (fun _ => 0))))] ++ [(q3, .inl (cA 0, (31, .inl (fun _ => 0))))] ++ [(q4, .inl (cA 0, (31, .inl (fun _ => 0))))])) rfl ?_
  exact k_ret (kPk [(1, fun _ => h0), (1, fun _ => q1), (1, fun _ => q2), (1, fun _ => q3), (1, fun _ => q4)]) C hret hlk hAe (show decode cX0_init 36 = .ok (.return_, 1) by decide +kernel) rfl rfl
def wTown (cA : Nat → ClassId) (f : Nat → Nat) : va_W := (f 0, .inr (7, [.int 0, .int 0, .int 0, .int 0, .int 0, .int 0, .int 0, .int 0, .int 0, .ref (f 1), .ref (f 2), .ref (f 3), .ref (f 4), .ref (f 5), .ref (f 6), .ref (f 7), .ref (f 8), .ref (f 9), .ref (f 10)])) :: ([(f 1, .inl (cA 0, (6, .inl (fun _ => 0))))] ++ [(f 2, .inl (cA 0, (6, .inl (fun _ => 0))))] ++ [(f 3, .inl (cA 0, (6, .inl (fun _ => 0))))] ++ [(f 4, .inl (cA 0, (7, .inl (fun _ => 0))))] ++ [(f 5, .inl (cA 0, (7, .inl (fun _ => 0))))] ++ [(f 6, .inl (cA 0, (7, .inl (fun _ => 0))))] ++ [(f 7, .inl (cA 0, (5, .inl (fun _ => 0))))] ++ [(f 8, .inl (cA 0, (5, .inl (fun _ => 0))))] ++ [(f 9, .inl (cA 0, (5, .inl (fun _ => 0))))] ++ wActs cA (fun i => f (10 + i)))
theorem dfX7 : ∀ j, j < gNf 7 → defaultValue (gTy 7 j) = vp_V [.int 0, .int 0, .int 0, .int 0, .int 0, .int 0, .int 0, .int 0, .int 0, .null, .null, .null, .null, .null, .null, .null, .null, .null, .null] j := fun j hj => by
  match j, hj with
  | 0, _ => rfl
  | 1, _ => rfl
  | 2, _ => rfl
  | 3, _ => rfl
  | 4, _ => rfl
  | 5, _ => rfl
  | 6, _ => rfl
  | 7, _ => rfl
  | 8, _ => rfl
  | 9, _ => rfl
  | 10, _ => rfl
  | 11, _ => rfl
  | 12, _ => rfl
  | 13, _ => rfl
  | 14, _ => rfl
  | 15, _ => rfl
  | 16, _ => rfl
  | 17, _ => rfl
  | 18, _ => rfl
  | n + 19, hj => exact absurd (show n + 19 < 19 from hj) (by omega)
set_option maxHeartbeats 4000000 in
set_option maxRecDepth 100000 in
theorem cX7_init_ok : kMet YX7_init 4 14 183 (.inr (7, [.int 0, .int 0, .int 0, .int 0, .int 0, .int 0, .int 0, .int 0, .int 0, .null, .null, .null, .null, .null, .null, .null, .null, .null, .null])) wTown := by
  refine kMet_of (by decide +kernel) (by decide) rfl (fun p l e s m args below meth c D cA h0 A C hret hlk hin hA hAe ls hl => ?_)
  have hl : lv_has ls 1 [(0, .ref h0)] := hl
  refine k_al C (lv_at hl 0 rfl) rfl (show decode cX7_init 0 = .ok (.aload_n 0, 1) by decide +kernel) ?_
  refine k_obj C wd_1_54 kObjI kObjC hl.1 (show decode cX7_init 1 = .ok (.invokespecial 3, 3) by decide +kernel) ⟨Nat.le_of_ble_eq_true rfl, Nat.le_of_ble_eq_true rfl⟩ ?_
  refine k_al C (lv_at hl 0 rfl) rfl (show decode cX7_init 4 = .ok (.aload_n 0, 1) by decide +kernel) ?_
  refine k_bp (v := 6) C (show decode cX7_init 5 = .ok (.bipush 6, 2) by decide +kernel) (by decide) ?_
  refine k_na (atype := .int) (ty := .int) (i := 0) (N' := 6) (a0 := (6, .inl (fun _ => 0))) C hA wd_1_84 rfl rfl (fun _ h => h) (fun _ => rfl) (by decide) (by decide) (by decide) (Nat.le_of_ble_eq_true rfl) (Nat.le_of_ble_eq_true rfl) (show decode cX7_init 7 = .ok (.newarray .int, 2) by decide +kernel) (fun q1 => ?_)
  refine k_cs (c2 := 1) (s2 := 6) rfl rfl ?_
  refine k_eq (X2 := (h0, .inr (7, [.int 0, .int 0, .int 0, .int 0, .int 0, .int 0, .int 0, .int 0, .int 0, .null, .null, .null, .null, .null, .null, .null, .null, .null, .null])) :: ([(q1, .inl (cA 0, (6, .inl (fun _ => 0))))])) rfl ?_
  refine k_pf (j := 9) (ty := (.array .int)) C ck_7 (by decide) wd_1_123 rfl hin rfl (by decide +kernel) rfl rfl (Nat.le_of_ble_eq_true rfl) (show decode cX7_init 9 = .ok (.putfield 9, 3) by decide +kernel) ?_
  refine k_eq (X2 := (h0, .inr (7, [.int 0, .int 0, .int 0, .int 0, .int 0, .int 0, .int 0, .int 0, .int 0, .ref q1, .null, .null, .null, .null, .null, .null, .null, .null, .null])) :: ([(q1, .inl (cA 0, (6, .inl (fun _ => 0))))])) rfl ?_
  refine k_al C (lv_at hl 0 rfl) rfl (show decode cX7_init 12 = .ok (.aload_n 0, 1) by decide +kernel) ?_
  refine k_bp (v := 6) C (show decode cX7_init 13 = .ok (.bipush 6, 2) by decide +kernel) (by decide) ?_
  refine k_na (atype := .int) (ty := .int) (i := 0) (N' := 6) (a0 := (6, .inl (fun _ => 0))) C hA wd_1_84 rfl rfl (fun _ h => h) (fun _ => rfl) (by decide) (by decide) (by decide) (Nat.le_of_ble_eq_true rfl) (Nat.le_of_ble_eq_true rfl) (show decode cX7_init 15 = .ok (.newarray .int, 2) by decide +kernel) (fun q2 => ?_)
  refine k_cs (c2 := 2) (s2 := 12) rfl rfl ?_
  refine k_eq (X2 := (h0, .inr (7, [.int 0, .int 0, .int 0, .int 0, .int 0, .int 0, .int 0, .int 0, .int 0, .ref q1, .null, .null, .null, .null, .null, .null, .null, .null, .null])) :: ([(q1, .inl (cA 0, (6, .inl (fun _ => 0))))] ++ [(q2, .inl (cA 0, (6, .inl (fun _ => 0))))])) rfl ?_
  refine k_pf (j := 10) (ty := (.array .int)) C ck_7 (by decide) wd_1_126 rfl hin rfl (by decide +kernel) rfl rfl (Nat.le_of_ble_eq_true rfl) (show decode cX7_init 17 = .ok (.putfield 15, 3) by decide +kernel) ?_
  refine k_eq (X2 := (h0, .inr (7, [.int 0, .int 0, .int 0, .int 0, .int 0, .int 0, .int 0, .int 0, .int 0, .ref q1, .ref q2, .null, .null, .null, .null, .null, .null, .null, .null])) :: ([(q1, .inl (cA 0, (6, .inl (fun _ => 0))))] ++ [(q2, .inl (cA 0, (6, .inl (fun _ => 0))))])) rfl ?_
  refine k_al C (lv_at hl 0 rfl) rfl (show decode cX7_init 20 = .ok (.aload_n 0, 1) by decide +kernel) ?_
  refine k_bp (v := 6) C (show decode cX7_init 21 = .ok (.bipush 6, 2) by decide +kernel) (by decide) ?_
  refine k_na (atype := .int) (ty := .int) (i := 0) (N' := 6) (a0 := (6, .inl (fun _ => 0))) C hA wd_1_84 rfl rfl (fun _ h => h) (fun _ => rfl) (by decide) (by decide) (by decide) (Nat.le_of_ble_eq_true rfl) (Nat.le_of_ble_eq_true rfl) (show decode cX7_init 23 = .ok (.newarray .int, 2) by decide +kernel) (fun q3 => ?_)
  refine k_cs (c2 := 3) (s2 := 18) rfl rfl ?_
  refine k_eq (X2 := (h0, .inr (7, [.int 0, .int 0, .int 0, .int 0, .int 0, .int 0, .int 0, .int 0, .int 0, .ref q1, .ref q2, .null, .null, .null, .null, .null, .null, .null, .null])) :: ([(q1, .inl (cA 0, (6, .inl (fun _ => 0))))] ++ [(q2, .inl (cA 0, (6, .inl (fun _ => 0))))] ++ [(q3, .inl (cA 0, (6, .inl (fun _ => 0))))])) rfl ?_
  refine k_pf (j := 11) (ty := (.array .int)) C ck_7 (by decide) wd_1_130 rfl hin rfl (by decide +kernel) rfl rfl (Nat.le_of_ble_eq_true rfl) (show decode cX7_init 25 = .ok (.putfield 18, 3) by decide +kernel) ?_
  refine k_eq (X2 := (h0, .inr (7, [.int 0, .int 0, .int 0, .int 0, .int 0, .int 0, .int 0, .int 0, .int 0, .ref q1, .ref q2, .ref q3, .null, .null, .null, .null, .null, .null, .null])) :: ([(q1, .inl (cA 0, (6, .inl (fun _ => 0))))] ++ [(q2, .inl (cA 0, (6, .inl (fun _ => 0))))] ++ [(q3, .inl (cA 0, (6, .inl (fun _ => 0))))])) rfl ?_
  refine k_al C (lv_at hl 0 rfl) rfl (show decode cX7_init 28 = .ok (.aload_n 0, 1) by decide +kernel) ?_
  refine k_bp (v := 7) C (show decode cX7_init 29 = .ok (.bipush 7, 2) by decide +kernel) (by decide) ?_
  refine k_na (atype := .int) (ty := .int) (i := 0) (N' := 7) (a0 := (7, .inl (fun _ => 0))) C hA wd_1_84 rfl rfl (fun _ h => h) (fun _ => rfl) (by decide) (by decide) (by decide) (Nat.le_of_ble_eq_true rfl) (Nat.le_of_ble_eq_true rfl) (show decode cX7_init 31 = .ok (.newarray .int, 2) by decide +kernel) (fun q4 => ?_)
  refine k_cs (c2 := 4) (s2 := 25) rfl rfl ?_
  refine k_eq (X2 := (h0, .inr (7, [.int 0, .int 0, .int 0, .int 0, .int 0, .int 0, .int 0, .int 0, .int 0, .ref q1, .ref q2, .ref q3, .null, .null, .null, .null, .null, .null, .null])) :: ([(q1, .inl (cA 0, (6, .inl (fun _ => 0))))] ++ [(q2, .inl (cA 0, (6, .inl (fun _ => 0))))] ++ [(q3, .inl (cA 0, (6, .inl (fun _ => 0))))] ++ [(q4, .inl (cA 0, (7, .inl (fun _ => 0))))])) rfl ?_
  refine k_pf (j := 12) (ty := (.array .int)) C ck_7 (by decide) wd_1_134 rfl hin rfl (by decide +kernel) rfl rfl (Nat.le_of_ble_eq_true rfl) (show decode cX7_init 33 = .ok (.putfield 21, 3) by decide +kernel) ?_
  refine k_eq (X2 := (h0, .inr (7, [.int 0, .int 0, .int 0, .int 0, .int 0, .int 0, .int 0, .int 0, .int 0, .ref q1, .ref q2, .ref q3, .ref q4, .null, .null, .null, .null, .null, .null])) :: ([(q1, .inl (cA 0, (6, .inl (fun _ => 0))))] ++ [(q2, .inl (cA 0, (6, .inl (fun _ => 0))))] ++ [(q3, .inl (cA 0, (6, .inl (fun _ => 0))))] ++ [(q4, .inl (cA 0, (7, .inl (fun _ => 0))))])) rfl ?_
  refine k_al C (lv_at hl 0 rfl) rfl (show decode cX7_init 36 = .ok (.aload_n 0, 1) by decide +kernel) ?_
  refine k_bp (v := 7) C (show decode cX7_init 37 = .ok (.bipush 7, 2) by decide +kernel) (by decide) ?_
  refine k_na (atype := .int) (ty := .int) (i := 0) (N' := 7) (a0 := (7, .inl (fun _ => 0))) C hA wd_1_84 rfl rfl (fun _ h => h) (fun _ => rfl) (by decide) (by decide) (by decide) (Nat.le_of_ble_eq_true rfl) (Nat.le_of_ble_eq_true rfl) (show decode cX7_init 39 = .ok (.newarray .int, 2) by decide +kernel) (fun q5 => ?_)
  refine k_cs (c2 := 5) (s2 := 32) rfl rfl ?_
  refine k_eq (X2 := (h0, .inr (7, [.int 0, .int 0, .int 0, .int 0, .int 0, .int 0, .int 0, .int 0, .int 0, .ref q1, .ref q2, .ref q3, .ref q4, .null, .null, .null, .null, .null, .null])) :: ([(q1, .inl (cA 0, (6, .inl (fun _ => 0))))] ++ [(q2, .inl (cA 0, (6, .inl (fun _ => 0))))] ++ [(q3, .inl (cA 0, (6, .inl (fun _ => 0))))] ++ [(q4, .inl (cA 0, (7, .inl (fun _ => 0))))] ++ [(q5, .inl (cA 0, (7, .inl (fun _ => 0))))])) rfl ?_
  refine k_pf (j := 13) (ty := (.array .int)) C ck_7 (by decide) wd_1_138 rfl hin rfl (by decide +kernel) rfl rfl (Nat.le_of_ble_eq_true rfl) (show decode cX7_init 41 = .ok (.putfield 24, 3) by decide +kernel) ?_
  refine k_eq (X2 := (h0, .inr (7, [.int 0, .int 0, .int 0, .int 0, .int 0, .int 0, .int 0, .int 0, .int 0, .ref q1, .ref q2, .ref q3, .ref q4, .ref q5, .null, .null, .null, .null, .null])) :: ([(q1, .inl (cA 0, (6, .inl (fun _ => 0))))] ++ [(q2, .inl (cA 0, (6, .inl (fun _ => 0))))] ++ [(q3, .inl (cA 0, (6, .inl (fun _ => 0))))] ++ [(q4, .inl (cA 0, (7, .inl (fun _ => 0))))] ++ [(q5, .inl (cA 0, (7, .inl (fun _ => 0))))])) rfl ?_
  refine k_al C (lv_at hl 0 rfl) rfl (show decode cX7_init 44 = .ok (.aload_n 0, 1) by decide +kernel) ?_
  refine k_bp (v := 7) C (show decode cX7_init 45 = .ok (.bipush 7, 2) by decide +kernel) (by decide) ?_
  refine k_na (atype := .int) (ty := .int) (i := 0) (N' := 7) (a0 := (7, .inl (fun _ => 0))) C hA wd_1_84 rfl rfl (fun _ h => h) (fun _ => rfl) (by decide) (by decide) (by decide) (Nat.le_of_ble_eq_true rfl) (Nat.le_of_ble_eq_true rfl) (show decode cX7_init 47 = .ok (.newarray .int, 2) by decide +kernel) (fun q6 => ?_)
  refine k_cs (c2 := 6) (s2 := 39) rfl rfl ?_
  refine k_eq (X2 := (h0, .inr (7, [.int 0, .int 0, .int 0, .int 0, .int 0, .int 0, .int 0, .int 0, .int 0, .ref q1, .ref q2, .ref q3, .ref q4, .ref q5, .null, .null, .null, .null, .null])) :: ([(q1, .inl (cA 0, (6, .inl (fun _ => 0))))] ++ [(q2, .inl (cA 0, (6, .inl (fun _ => 0))))] ++ [(q3, .inl (cA 0, (6, .inl (fun _ => 0))))] ++ [(q4, .inl (cA 0, (7, .inl (fun _ => 0))))] ++ [(q5, .inl (cA 0, (7, .inl (fun _ => 0))))] ++ [(q6, .inl (cA 0, (7, .inl (fun _ => 0))))])) rfl ?_
  refine k_pf (j := 14) (ty := (.array .int)) C ck_7 (by decide) wd_1_142 rfl hin rfl (by decide +kernel) rfl rfl (Nat.le_of_ble_eq_true rfl) (show decode cX7_init 49 = .ok (.putfield 27, 3) by decide +kernel) ?_
  refine k_eq (X2 := (h0, .inr (7, [.int 0, .int 0, .int 0, .int 0, .int 0, .int 0, .int 0, .int 0, .int 0, .ref q1, .ref q2, .ref q3, .ref q4, .ref q5, .ref q6, .null, .null, .null, .null])) :: ([(q1, .inl (cA 0, (6, .inl (fun _ => 0))))] ++ [(q2, .inl (cA 0, (6, .inl (fun _ => 0))))] ++ [(q3, .inl (cA 0, (6, .inl (fun _ => 0))))] ++ [(q4, .inl (cA 0, (7, .inl (fun _ => 0))))] ++ [(q5, .inl (cA 0, (7, .inl (fun _ => 0))))] ++ [(q6, .inl (cA 0, (7, .inl (fun _ => 0))))])) rfl ?_
  refine k_al C (lv_at hl 0 rfl) rfl (show decode cX7_init 52 = .ok (.aload_n 0, 1) by decide +kernel) ?_
  refine k_ic (v := 5) C (show decode cX7_init 53 = .ok (.iconst 5, 1) by decide +kernel) (by decide) ?_
  refine k_na (atype := .int) (ty := .int) (i := 0) (N' := 5) (a0 := (5, .inl (fun _ => 0))) C hA wd_1_84 rfl rfl (fun _ h => h) (fun _ => rfl) (by decide) (by decide) (by decide) (Nat.le_of_ble_eq_true rfl) (Nat.le_of_ble_eq_true rfl) (show decode cX7_init 54 = .ok (.newarray .int, 2) by decide +kernel) (fun q7 => ?_)
  refine k_cs (c2 := 7) (s2 := 44) rfl rfl ?_
  refine k_eq (X2 := (h0, .inr (7, [.int 0, .int 0, .int 0, .int 0, .int 0, .int 0, .int 0, .int 0, .int 0, .ref q1, .ref q2, .ref q3, .ref q4, .ref q5, .ref q6, .null, .null, .null, .null])) :: ([(q1, .inl (cA 0, (6, .inl (fun _ => 0))))] ++ [(q2, .inl (cA 0, (6, .inl (fun _ => 0))))] ++ [(q3, .inl (cA 0, (6, .inl (fun _ => 0))))] ++ [(q4, .inl (cA 0, (7, .inl (fun _ => 0))))] ++ [(q5, .inl (cA 0, (7, .inl (fun _ => 0))))] ++ [(q6, .inl (cA 0, (7, .inl (fun _ => 0))))] ++ [(q7, .inl (cA 0, (5, .inl (fun _ => 0))))])) rfl ?_
  refine k_pf (j := 15) (ty := (.array .int)) C ck_7 (by decide) wd_1_146 rfl hin rfl (by decide +kernel) rfl rfl (Nat.le_of_ble_eq_true rfl) (show decode cX7_init 56 = .ok (.putfield 30, 3) by decide +kernel) ?_
  refine k_eq (X2 := (h0, .inr (7, [.int 0, .int 0, .int 0, .int 0, .int 0, .int 0, .int 0, .int 0, .int 0, .ref q1, .ref q2, .ref q3, .ref q4, .ref q5, .ref q6, .ref q7, .null, .null, .null])) :: ([(q1, .inl (cA 0, (6, .inl (fun _ => 0))))] ++ [(q2, .inl (cA 0, (6, .inl (fun _ => 0))))] ++ [(q3, .inl (cA 0, (6, .inl (fun _ => 0))))] ++ [(q4, .inl (cA 0, (7, .inl (fun _ => 0))))] ++ [(q5, .inl (cA 0, (7, .inl (fun _ => 0))))] ++ [(q6, .inl (cA 0, (7, .inl (fun _ => 0))))] ++ [(q7, .inl (cA 0, (5, .inl (fun _ => 0))))])) rfl ?_
  refine k_al C (lv_at hl 0 rfl) rfl (show decode cX7_init 59 = .ok (.aload_n 0, 1) by decide +kernel) ?_
  refine k_ic (v := 5) C (show decode cX7_init 60 = .ok (.iconst 5, 1) by decide +kernel) (by decide) ?_
  refine k_na (atype := .int) (ty := .int) (i := 0) (N' := 5) (a0 := (5, .inl (fun _ => 0))) C hA wd_1_84 rfl rfl (fun _ h => h) (fun _ => rfl) (by decide) (by decide) (by decide) (Nat.le_of_ble_eq_true rfl) (Nat.le_of_ble_eq_true rfl) (show decode cX7_init 61 = .ok (.newarray .int, 2) by decide +kernel) (fun q8 => ?_)
  refine k_cs (c2 := 8) (s2 := 49) rfl rfl ?_
  refine k_eq (X2 := (h0, .inr (7, [.int 0, .int 0, .int 0, .int 0, .int 0, .int 0, .int 0, .int 0, .int 0, .ref q1, .ref q2, .ref q3, .ref q4, .ref q5, .ref q6, .ref q7, .null, .null, .null])) :: ([(q1, .inl (cA 0, (6, .inl (fun _ => 0))))] ++ [(q2, .inl (cA 0, (6, .inl (fun _ => 0))))] ++ [(q3, .inl (cA 0, (6, .inl (fun _ => 0))))] ++ [(q4, .inl (cA 0, (7, .inl (fun _ => 0))))] ++ [(q5, .inl (cA 0, (7, .inl (fun _ => 0))))] ++ [(q6, .inl (cA 0, (7, .inl (fun _ => 0))))] ++ [(q7, .inl (cA 0, (5, .inl (fun _ => 0))))] ++ [(q8, .inl (cA 0, (5, .inl (fun _ => 0))))])) rfl ?_
  refine k_pf (j := 16) (ty := (.array .int)) C ck_7 (by decide) wd_1_151 rfl hin rfl (by decide +kernel) rfl rfl (Nat.le_of_ble_eq_true rfl) (show decode cX7_init 63 = .ok (.putfield 33, 3) by decide +kernel) ?_
  refine k_eq (X2 := (h0, .inr (7, [.int 0, .int 0, .int 0, .int 0, .int 0, .int 0, .int 0, .int 0, .int 0, .ref q1, .ref q2, .ref q3, .ref q4, .ref q5, .ref q6, .ref q7, .ref q8, .null, .null])) :: ([(q1, .inl (cA 0, (6, .inl (fun _ => 0))))] ++ [(q2, .inl (cA 0, (6, .inl (fun _ => 0))))] ++ [(q3, .inl (cA 0, (6, .inl (fun _ => 0))))] ++ [(q4, .inl (cA 0, (7, .inl (fun _ => 0))))] ++ [(q5, .inl (cA 0, (7, .inl (fun _ => 0))))] ++ [(q6, .inl (cA 0, (7, .inl (fun _ => 0))))] ++ [(q7, .inl (cA 0, (5, .inl (fun _ => 0))))] ++ [(q8, .inl (cA 0, (5, .inl (fun _ => 0))))])) rfl ?_
  refine k_al C (lv_at hl 0 rfl) rfl (show decode cX7_init 66 = .ok (.aload_n 0, 1) by decide +kernel) ?_
  refine k_ic (v := 5) C (show decode cX7_init 67 = .ok (.iconst 5, 1) by decide +kernel) (by decide) ?_
  refine k_na (atype := .int) (ty := .int) (i := 0) (N' := 5) (a0 := (5, .inl (fun _ => 0))) C hA wd_1_84 rfl rfl (fun _ h => h) (fun _ => rfl) (by decide) (by decide) (by decide) (Nat.le_of_ble_eq_true rfl) (Nat.le_of_ble_eq_true rfl) (show decode cX7_init 68 = .ok (.newarray .int, 2) by decide +kernel) (fun q9 => ?_)
  refine k_cs (c2 := 9) (s2 := 54) rfl rfl ?_
  refine k_eq (X2 := (h0, .inr (7, [.int 0, .int 0, .int 0, .int 0, .int 0, .int 0, .int 0, .int 0, .int 0, .ref q1, .ref q2, .ref q3, .ref q4, .ref q5, .ref q6, .ref q7, .ref q8, .null, .null])) :: ([(q1, .inl (cA 0, (6, .inl (fun _ => 0))))] ++ [(q2, .inl (cA 0, (6, .inl (fun _ => 0))))] ++ [(q3, .inl (cA 0, (6, .inl (fun _ => 0))))] ++ [(q4, .inl (cA 0, (7, .inl (fun _ => 0))))] ++ [(q5, .inl (cA 0, (7, .inl (fun _ => 0))))] ++ [(q6, .inl (cA 0, (7, .inl (fun _ => 0))))] ++ [(q7, .inl (cA 0, (5, .inl (fun _ => 0))))] ++ [(q8, .inl (cA 0, (5, .inl (fun _ => 0))))] ++ [(q9, .inl (cA 0, (5, .inl (fun _ => 0))))])) rfl ?_
  refine k_pf (j := 17) (ty := (.array .int)) C ck_7 (by decide) wd_1_154 rfl hin rfl (by decide +kernel) rfl rfl (Nat.le_of_ble_eq_true rfl) (show decode cX7_init 70 = .ok (.putfield 36, 3) by decide +kernel) ?_
  refine k_eq (X2 := (h0, .inr (7, [.int 0, .int 0, .int 0, .int 0, .int 0, .int 0, .int 0, .int 0, .int 0, .ref q1, .ref q2, .ref q3, .ref q4, .ref q5, .ref q6, .ref q7, .ref q8, .ref q9, .null])) :: ([(q1, .inl (cA 0, (6, .inl (fun _ => 0))))] ++ [(q2, .inl (cA 0, (6, .inl (fun _ => 0))))] ++ [(q3, .inl (cA 0, (6, .inl (fun _ => 0))))] ++ [(q4, .inl (cA 0, (7, .inl (fun _ => 0))))] ++ [(q5, .inl (cA 0, (7, .inl (fun _ => 0))))] ++ [(q6, .inl (cA 0, (7, .inl (fun _ => 0))))] ++ [(q7, .inl (cA 0, (5, .inl (fun _ => 0))))] ++ [(q8, .inl (cA 0, (5, .inl (fun _ => 0))))] ++ [(q9, .inl (cA 0, (5, .inl (fun _ => 0))))])) rfl ?_
  refine k_al C (lv_at hl 0 rfl) rfl (show decode cX7_init 73 = .ok (.aload_n 0, 1) by decide +kernel) ?_
  refine k_nw (ci := 0) (fs := [.null, .null, .null, .null, .int 0]) (wX := wActs) (host := "WaxedPartners") C hA ck_0 wd_1_55 wd_1_56 wd_1_5 dfX0 cX0_init_ok cal_X0_init rfl rfl wd_1_57 wd_1_58 ⟨Nat.le_of_ble_eq_true rfl, Nat.le_of_ble_eq_true rfl⟩ (Nat.le_of_ble_eq_true rfl) (Nat.le_of_ble_eq_true rfl) hl.1 (Nat.le_of_ble_eq_true rfl) (show decode cX7_init 74 = .ok (.new 39, 3) by decide +kernel) (show decode cX7_init 77 = .ok (.dup, 1) by decide +kernel) (show decode cX7_init 78 = .ok (.invokespecial 41, 3) by decide +kernel) (fun g10 => ?_)
  refine k_cs (c2 := 14) (s2 := 183) rfl rfl ?_
  refine k_eq (X2 := (h0, .inr (7, [.int 0, .int 0, .int 0, .int 0, .int 0, .int 0, .int 0, .int 0, .int 0, .ref q1, .ref q2, .ref q3, .ref q4, .ref q5, .ref q6, .ref q7, .ref q8, .ref q9, .null])) :: ([(q1, .inl (cA 0, (6, .inl (fun _ => 0))))] ++ [(q2, .inl (cA 0, (6, .inl (fun _ => 0))))] ++ [(q3, .inl (cA 0, (6, .inl (fun _ => 0))))] ++ [(q4, .inl (cA 0, (7, .inl (fun _ => 0))))] ++ [(q5, .inl (cA 0, (7, .inl (fun _ => 0))))] ++ [(q6, .inl (cA 0, (7, .inl (fun _ => 0))))] ++ [(q7, .inl (cA 0, (5, .inl (fun _ => 0))))] ++ [(q8, .inl (cA 0, (5, .inl (fun _ => 0))))] ++ [(q9, .inl (cA 0, (5, .inl (fun _ => 0))))] ++ wActs cA g10)) rfl ?_
  refine k_pf (j := 18) (ty := (.object "WaxedPartners$Acts")) C ck_7 (by decide) wd_1_157 rfl hin rfl (by decide +kernel) rfl rfl (Nat.le_of_ble_eq_true rfl) (show decode cX7_init 81 = .ok (.putfield 42, 3) by decide +kernel) ?_
  refine k_eq (X2 := (h0, .inr (7, [.int 0, .int 0, .int 0, .int 0, .int 0, .int 0, .int 0, .int 0, .int 0, .ref q1, .ref q2, .ref q3, .ref q4, .ref q5, .ref q6, .ref q7, .ref q8, .ref q9, .ref (g10 0)])) :: ([(q1, .inl (cA 0, (6, .inl (fun _ => 0))))] ++ [(q2, .inl (cA 0, (6, .inl (fun _ => 0))))] ++ [(q3, .inl (cA 0, (6, .inl (fun _ => 0))))] ++ [(q4, .inl (cA 0, (7, .inl (fun _ => 0))))] ++ [(q5, .inl (cA 0, (7, .inl (fun _ => 0))))] ++ [(q6, .inl (cA 0, (7, .inl (fun _ => 0))))] ++ [(q7, .inl (cA 0, (5, .inl (fun _ => 0))))] ++ [(q8, .inl (cA 0, (5, .inl (fun _ => 0))))] ++ [(q9, .inl (cA 0, (5, .inl (fun _ => 0))))] ++ wActs cA g10)) rfl ?_
  exact k_ret (kPk [(1, fun _ => h0), (1, fun _ => q1), (1, fun _ => q2), (1, fun _ => q3), (1, fun _ => q4), (1, fun _ => q5), (1, fun _ => q6), (1, fun _ => q7), (1, fun _ => q8), (1, fun _ => q9), (5, g10)]) C hret hlk hAe (show decode cX7_init 84 = .ok (.return_, 1) by decide +kernel) rfl rfl
def wTape (cA : Nat → ClassId) (f : Nat → Nat) : va_W := (f 0, .inr (6, [.ref (f 1), .int 0])) :: ([(f 1, .inl (cA 1, (800, .inl (fun _ => 0))))])
theorem dfX6 : ∀ j, j < gNf 6 → defaultValue (gTy 6 j) = vp_V [.null, .int 0] j := fun j hj => by
  match j, hj with
  | 0, _ => rfl
  | 1, _ => rfl
  | n + 2, hj => exact absurd (show n + 2 < 2 from hj) (by omega)
set_option maxHeartbeats 4000000 in
set_option maxRecDepth 100000 in
theorem cX6_init_ok : kMet YX6_init 2 1 800 (.inr (6, [.null, .int 0])) wTape := by
  refine kMet_of (by decide +kernel) (by decide) rfl (fun p l e s m args below meth c D cA h0 A C hret hlk hin hA hAe ls hl => ?_)
  have hl : lv_has ls 1 [(0, .ref h0)] := hl
  refine k_al C (lv_at hl 0 rfl) rfl (show decode cX6_init 0 = .ok (.aload_n 0, 1) by decide +kernel) ?_
  refine k_obj C wd_1_38 kObjI kObjC hl.1 (show decode cX6_init 1 = .ok (.invokespecial 3, 3) by decide +kernel) ⟨Nat.le_of_ble_eq_true rfl, Nat.le_of_ble_eq_true rfl⟩ ?_
  refine k_al C (lv_at hl 0 rfl) rfl (show decode cX6_init 4 = .ok (.aload_n 0, 1) by decide +kernel) ?_
  refine k_sp (v := 800) C (show decode cX6_init 5 = .ok (.sipush 800, 3) by decide +kernel) (by decide) ?_
  refine k_na (atype := .byte) (ty := .byte) (i := 1) (N' := 800) (a0 := (800, .inl (fun _ => 0))) C hA wd_1_48 rfl rfl (fun _ h => h) (fun _ => rfl) (by decide) (by decide) (by decide) (Nat.le_of_ble_eq_true rfl) (Nat.le_of_ble_eq_true rfl) (show decode cX6_init 8 = .ok (.newarray .byte, 2) by decide +kernel) (fun q1 => ?_)
  refine k_cs (c2 := 1) (s2 := 800) rfl rfl ?_
  refine k_eq (X2 := (h0, .inr (6, [.null, .int 0])) :: ([(q1, .inl (cA 1, (800, .inl (fun _ => 0))))])) rfl ?_
  refine k_pf (j := 0) (ty := (.array .byte)) C ck_6 (by decide) wd_1_39 rfl hin rfl (by decide +kernel) rfl rfl (Nat.le_of_ble_eq_true rfl) (show decode cX6_init 10 = .ok (.putfield 9, 3) by decide +kernel) ?_
  refine k_eq (X2 := (h0, .inr (6, [.ref q1, .int 0])) :: ([(q1, .inl (cA 1, (800, .inl (fun _ => 0))))])) rfl ?_
  exact k_ret (kPk [(1, fun _ => h0), (1, fun _ => q1)]) C hret hlk hAe (show decode cX6_init 13 = .ok (.return_, 1) by decide +kernel) rfl rfl
def wReader (cA : Nat → ClassId) (f : Nat → Nat) : va_W := (f 0, .inr (5, [.ref (f 1), .ref (f 3), .int 0, .int (-1), .int 0, .int 0, .int 0, .int 0])) :: (wTape cA (fun i => f (1 + i)) ++ wTown cA (fun i => f (3 + i)))
theorem dfX5 : ∀ j, j < gNf 5 → defaultValue (gTy 5 j) = vp_V [.null, .null, .int 0, .int 0, .int 0, .int 0, .int 0, .int 0] j := fun j hj => by
  match j, hj with
  | 0, _ => rfl
  | 1, _ => rfl
  | 2, _ => rfl
  | 3, _ => rfl
  | 4, _ => rfl
  | 5, _ => rfl
  | 6, _ => rfl
  | 7, _ => rfl
  | n + 8, hj => exact absurd (show n + 8 < 8 from hj) (by omega)
set_option maxHeartbeats 4000000 in
set_option maxRecDepth 100000 in
theorem cX5_init_ok : kMet YX5_init 6 17 1004 (.inr (5, [.null, .null, .int 0, .int 0, .int 0, .int 0, .int 0, .int 0])) wReader := by
  refine kMet_of (by decide +kernel) (by decide) rfl (fun p l e s m args below meth c D cA h0 A C hret hlk hin hA hAe ls hl => ?_)
  have hl : lv_has ls 1 [(0, .ref h0)] := hl
  refine k_al C (lv_at hl 0 rfl) rfl (show decode cX5_init 0 = .ok (.aload_n 0, 1) by decide +kernel) ?_
  refine k_obj C wd_1_32 kObjI kObjC hl.1 (show decode cX5_init 1 = .ok (.invokespecial 3, 3) by decide +kernel) ⟨Nat.le_of_ble_eq_true rfl, Nat.le_of_ble_eq_true rfl⟩ ?_
  refine k_al C (lv_at hl 0 rfl) rfl (show decode cX5_init 4 = .ok (.aload_n 0, 1) by decide +kernel) ?_
  refine k_nw (ci := 6) (fs := [.null, .int 0]) (wX := wTape) (host := "WaxedPartners") C hA ck_6 wd_1_33 wd_1_34 wd_1_3 dfX6 cX6_init_ok cal_X6_init rfl rfl wd_1_35 wd_1_36 ⟨Nat.le_of_ble_eq_true rfl, Nat.le_of_ble_eq_true rfl⟩ (Nat.le_of_ble_eq_true rfl) (Nat.le_of_ble_eq_true rfl) hl.1 (Nat.le_of_ble_eq_true rfl) (show decode cX5_init 5 = .ok (.new 9, 3) by decide +kernel) (show decode cX5_init 8 = .ok (.dup, 1) by decide +kernel) (show decode cX5_init 9 = .ok (.invokespecial 11, 3) by decide +kernel) (fun g1 => ?_)
  refine k_cs (c2 := 2) (s2 := 802) rfl rfl ?_
  refine k_eq (X2 := (h0, .inr (5, [.null, .null, .int 0, .int 0, .int 0, .int 0, .int 0, .int 0])) :: (wTape cA g1)) rfl ?_
  refine k_pf (j := 0) (ty := (.object "WaxedPartners$Tape")) C ck_5 (by decide) wd_1_199 rfl hin rfl (by decide +kernel) rfl rfl (Nat.le_of_ble_eq_true rfl) (show decode cX5_init 12 = .ok (.putfield 12, 3) by decide +kernel) ?_
  refine k_eq (X2 := (h0, .inr (5, [.ref (g1 0), .null, .int 0, .int 0, .int 0, .int 0, .int 0, .int 0])) :: (wTape cA g1)) rfl ?_
  refine k_al C (lv_at hl 0 rfl) rfl (show decode cX5_init 15 = .ok (.aload_n 0, 1) by decide +kernel) ?_
  refine k_nw (ci := 7) (fs := [.int 0, .int 0, .int 0, .int 0, .int 0, .int 0, .int 0, .int 0, .int 0, .null, .null, .null, .null, .null, .null, .null, .null, .null, .null]) (wX := wTown) (host := "WaxedPartners") C hA ck_7 wd_1_49 wd_1_50 wd_1_4 dfX7 cX7_init_ok cal_X7_init rfl rfl wd_1_51 wd_1_52 ⟨Nat.le_of_ble_eq_true rfl, Nat.le_of_ble_eq_true rfl⟩ (Nat.le_of_ble_eq_true rfl) (Nat.le_of_ble_eq_true rfl) hl.1 (Nat.le_of_ble_eq_true rfl) (show decode cX5_init 16 = .ok (.new 18, 3) by decide +kernel) (show decode cX5_init 19 = .ok (.dup, 1) by decide +kernel) (show decode cX5_init 20 = .ok (.invokespecial 20, 3) by decide +kernel) (fun g2 => ?_)
  refine k_cs (c2 := 17) (s2 := 1004) rfl rfl ?_
  refine k_eq (X2 := (h0, .inr (5, [.ref (g1 0), .null, .int 0, .int 0, .int 0, .int 0, .int 0, .int 0])) :: (wTape cA g1 ++ wTown cA g2)) rfl ?_
  refine k_pp (j := 1) (ty := (.object "WaxedPartners$Town")) C ck_5 (by decide) wd_1_201 rfl (by decide +kernel) rfl rfl (Nat.le_of_ble_eq_true rfl) (show decode cX5_init 23 = .ok (.putfield 21, 3) by decide +kernel) ?_
  refine k_eq (X2 := (h0, .inr (5, [.ref (g1 0), .ref (g2 0), .int 0, .int 0, .int 0, .int 0, .int 0, .int 0])) :: (wTape cA g1 ++ wTown cA g2)) rfl ?_
  refine k_al C (lv_at hl 0 rfl) rfl (show decode cX5_init 26 = .ok (.aload_n 0, 1) by decide +kernel) ?_
  refine k_ic (v := (-1)) C (show decode cX5_init 27 = .ok (.iconst (-1), 1) by decide +kernel) (by decide) ?_
  refine k_pp (j := 3) (ty := .int) C ck_5 (by decide) wd_1_205 rfl (by decide +kernel) rfl rfl (Nat.le_of_ble_eq_true rfl) (show decode cX5_init 28 = .ok (.putfield 25, 3) by decide +kernel) ?_
  refine k_eq (X2 := (h0, .inr (5, [.ref (g1 0), .ref (g2 0), .int 0, .int (-1), .int 0, .int 0, .int 0, .int 0])) :: (wTape cA g1 ++ wTown cA g2)) rfl ?_
  exact k_ret (kPk [(1, fun _ => h0), (2, g1), (15, g2)]) C hret hlk hAe (show decode cX5_init 31 = .ok (.return_, 1) by decide +kernel) rfl rfl
def wNum (cA : Nat → ClassId) (f : Nat → Nat) : va_W := (f 0, .inr (4, [.ref (f 1), .int (-1), .int 0])) :: ([(f 1, .inl (cA 3, (60, .inr (.inl (fun _ => 0)))))])
theorem dfX4 : ∀ j, j < gNf 4 → defaultValue (gTy 4 j) = vp_V [.null, .int 0, .int 0] j := fun j hj => by
  match j, hj with
  | 0, _ => rfl
  | 1, _ => rfl
  | 2, _ => rfl
  | n + 3, hj => exact absurd (show n + 3 < 3 from hj) (by omega)
set_option maxHeartbeats 4000000 in
set_option maxRecDepth 100000 in
theorem cX4_init_ok : kMet YX4_init 2 1 60 (.inr (4, [.null, .int 0, .int 0])) wNum := by
  refine kMet_of (by decide +kernel) (by decide) rfl (fun p l e s m args below meth c D cA h0 A C hret hlk hin hA hAe ls hl => ?_)
  have hl : lv_has ls 1 [(0, .ref h0)] := hl
  refine k_al C (lv_at hl 0 rfl) rfl (show decode cX4_init 0 = .ok (.aload_n 0, 1) by decide +kernel) ?_
  refine k_obj C wd_1_234 kObjI kObjC hl.1 (show decode cX4_init 1 = .ok (.invokespecial 3, 3) by decide +kernel) ⟨Nat.le_of_ble_eq_true rfl, Nat.le_of_ble_eq_true rfl⟩ ?_
  refine k_al C (lv_at hl 0 rfl) rfl (show decode cX4_init 4 = .ok (.aload_n 0, 1) by decide +kernel) ?_
  refine k_bp (v := 60) C (show decode cX4_init 5 = .ok (.bipush 60, 2) by decide +kernel) (by decide) ?_
  refine k_na (atype := .long) (ty := .long) (i := 3) (N' := 60) (a0 := (60, .inr (.inl (fun _ => 0)))) C hA wd_2_10 rfl rfl (fun _ h => h) (fun _ => rfl) (by decide) (by decide) (by decide) (Nat.le_of_ble_eq_true rfl) (Nat.le_of_ble_eq_true rfl) (show decode cX4_init 7 = .ok (.newarray .long, 2) by decide +kernel) (fun q1 => ?_)
  refine k_cs (c2 := 1) (s2 := 60) rfl rfl ?_
  refine k_eq (X2 := (h0, .inr (4, [.null, .int 0, .int 0])) :: ([(q1, .inl (cA 3, (60, .inr (.inl (fun _ => 0)))))])) rfl ?_
  refine k_pf (j := 0) (ty := (.array .long)) C ck_4 (by decide) wd_1_235 rfl hin rfl (by decide +kernel) rfl rfl (Nat.le_of_ble_eq_true rfl) (show decode cX4_init 9 = .ok (.putfield 9, 3) by decide +kernel) ?_
  refine k_eq (X2 := (h0, .inr (4, [.ref q1, .int 0, .int 0])) :: ([(q1, .inl (cA 3, (60, .inr (.inl (fun _ => 0)))))])) rfl ?_
  refine k_al C (lv_at hl 0 rfl) rfl (show decode cX4_init 12 = .ok (.aload_n 0, 1) by decide +kernel) ?_
  refine k_ic (v := (-1)) C (show decode cX4_init 13 = .ok (.iconst (-1), 1) by decide +kernel) (by decide) ?_
  refine k_pp (j := 1) (ty := .int) C ck_4 (by decide) wd_1_238 rfl (by decide +kernel) rfl rfl (Nat.le_of_ble_eq_true rfl) (show decode cX4_init 14 = .ok (.putfield 15, 3) by decide +kernel) ?_
  refine k_eq (X2 := (h0, .inr (4, [.ref q1, .int (-1), .int 0])) :: ([(q1, .inl (cA 3, (60, .inr (.inl (fun _ => 0)))))])) rfl ?_
  exact k_ret (kPk [(1, fun _ => h0), (1, fun _ => q1)]) C hret hlk hAe (show decode cX4_init 17 = .ok (.return_, 1) by decide +kernel) rfl rfl
def wDecade (cA : Nat → ClassId) (f : Nat → Nat) : va_W := (f 0, .inr (2, [.int 0, .int 0, .int 0, .int 0, .int 0, .int 0, .ref (f 1), .ref (f 2), .ref (f 3), .ref (f 4), .ref (f 5), .ref (f 6), .ref (f 7), .ref (f 8), .ref (f 21), .ref (f 34), .int 0])) :: ([(f 1, .inl (cA 0, (38, .inl (fun _ => 0))))] ++ [(f 2, .inl (cA 0, (38, .inl (fun _ => 0))))] ++ [(f 3, .inl (cA 0, (38, .inl (fun _ => 0))))] ++ [(f 4, .inl (cA 0, (38, .inl (fun _ => 0))))] ++ [(f 5, .inl (cA 0, (12, .inl (fun _ => 0))))] ++ [(f 6, .inl (cA 0, (12, .inl (fun _ => 0))))] ++ [(f 7, .inl (cA 0, (12, .inl (fun _ => 0))))] ++ wMn cA (f 8) (fun i => f (9 + i)) ++ wMn cA (f 21) (fun i => f (22 + i)) ++ wMn cA (f 34) (fun i => f (35 + i)))
theorem dfX2 : ∀ j, j < gNf 2 → defaultValue (gTy 2 j) = vp_V [.int 0, .int 0, .int 0, .int 0, .int 0, .int 0, .null, .null, .null, .null, .null, .null, .null, .null, .null, .null, .int 0] j := fun j hj => by
  match j, hj with
  | 0, _ => rfl
  | 1, _ => rfl
  | 2, _ => rfl
  | 3, _ => rfl
  | 4, _ => rfl
  | 5, _ => rfl
  | 6, _ => rfl
  | 7, _ => rfl
  | 8, _ => rfl
  | 9, _ => rfl
  | 10, _ => rfl
  | 11, _ => rfl
  | 12, _ => rfl
  | 13, _ => rfl
  | 14, _ => rfl
  | 15, _ => rfl
  | 16, _ => rfl
  | n + 17, hj => exact absurd (show n + 17 < 17 from hj) (by omega)
set_option maxHeartbeats 4000000 in
set_option maxRecDepth 100000 in
theorem cX2_init_ok : kMet YX2_init 2 46 440 (.inr (2, [.int 0, .int 0, .int 0, .int 0, .int 0, .int 0, .null, .null, .null, .null, .null, .null, .null, .null, .null, .null, .int 0])) wDecade := by
  refine kMet_of (by decide +kernel) (by decide) rfl (fun p l e s m args below meth c D cA h0 A C hret hlk hin hA hAe ls hl => ?_)
  have hl : lv_has ls 1 [(0, .ref h0)] := hl
  refine k_al C (lv_at hl 0 rfl) rfl (show decode cX2_init 0 = .ok (.aload_n 0, 1) by decide +kernel) ?_
  refine k_obj C wd_2_19 kObjI kObjC hl.1 (show decode cX2_init 1 = .ok (.invokespecial 3, 3) by decide +kernel) ⟨Nat.le_of_ble_eq_true rfl, Nat.le_of_ble_eq_true rfl⟩ ?_
  refine k_al C (lv_at hl 0 rfl) rfl (show decode cX2_init 4 = .ok (.aload_n 0, 1) by decide +kernel) ?_
  refine k_bp (v := 38) C (show decode cX2_init 5 = .ok (.bipush 38, 2) by decide +kernel) (by decide) ?_
  refine k_na (atype := .int) (ty := .int) (i := 0) (N' := 38) (a0 := (38, .inl (fun _ => 0))) C hA wd_1_84 rfl rfl (fun _ h => h) (fun _ => rfl) (by decide) (by decide) (by decide) (Nat.le_of_ble_eq_true rfl) (Nat.le_of_ble_eq_true rfl) (show decode cX2_init 7 = .ok (.newarray .int, 2) by decide +kernel) (fun q1 => ?_)
  refine k_cs (c2 := 1) (s2 := 38) rfl rfl ?_
  refine k_eq (X2 := (h0, .inr (2, [.int 0, .int 0, .int 0, .int 0, .int 0, .int 0, .null, .null, .null, .null, .null, .null, .null, .null, .null, .null, .int 0])) :: ([(q1, .inl (cA 0, (38, .inl (fun _ => 0))))])) rfl ?_
  refine k_pf (j := 6) (ty := (.array .int)) C ck_2 (by decide) wd_2_35 rfl hin rfl (by decide +kernel) rfl rfl (Nat.le_of_ble_eq_true rfl) (show decode cX2_init 9 = .ok (.putfield 11, 3) by decide +kernel) ?_
  refine k_eq (X2 := (h0, .inr (2, [.int 0, .int 0, .int 0, .int 0, .int 0, .int 0, .ref q1, .null, .null, .null, .null, .null, .null, .null, .null, .null, .int 0])) :: ([(q1, .inl (cA 0, (38, .inl (fun _ => 0))))])) rfl ?_
  refine k_al C (lv_at hl 0 rfl) rfl (show decode cX2_init 12 = .ok (.aload_n 0, 1) by decide +kernel) ?_
  refine k_bp (v := 38) C (show decode cX2_init 13 = .ok (.bipush 38, 2) by decide +kernel) (by decide) ?_
  refine k_na (atype := .int) (ty := .int) (i := 0) (N' := 38) (a0 := (38, .inl (fun _ => 0))) C hA wd_1_84 rfl rfl (fun _ h => h) (fun _ => rfl) (by decide) (by decide) (by decide) (Nat.le_of_ble_eq_true rfl) (Nat.le_of_ble_eq_true rfl) (show decode cX2_init 15 = .ok (.newarray .int, 2) by decide +kernel) (fun q2 => ?_)
  refine k_cs (c2 := 2) (s2 := 76) rfl rfl ?_
  refine k_eq (X2 := (h0, .inr (2, [.int 0, .int 0, .int 0, .int 0, .int 0, .int 0, .ref q1, .null, .null, .null, .null, .null, .null, .null, .null, .null, .int 0])) :: ([(q1, .inl (cA 0, (38, .inl (fun _ => 0))))] ++ [(q2, .inl (cA 0, (38, .inl (fun _ => 0))))])) rfl ?_
  refine k_pf (j := 7) (ty := (.array .int)) C ck_2 (by decide) wd_2_36 rfl hin rfl (by decide +kernel) rfl rfl (Nat.le_of_ble_eq_true rfl) (show decode cX2_init 17 = .ok (.putfield 15, 3) by decide +kernel) ?_
  refine k_eq (X2 := (h0, .inr (2, [.int 0, .int 0, .int 0, .int 0, .int 0, .int 0, .ref q1, .ref q2, .null, .null, .null, .null, .null, .null, .null, .null, .int 0])) :: ([(q1, .inl (cA 0, (38, .inl (fun _ => 0))))] ++ [(q2, .inl (cA 0, (38, .inl (fun _ => 0))))])) rfl ?_
  refine k_al C (lv_at hl 0 rfl) rfl (show decode cX2_init 20 = .ok (.aload_n 0, 1) by decide +kernel) ?_
  refine k_bp (v := 38) C (show decode cX2_init 21 = .ok (.bipush 38, 2) by decide +kernel) (by decide) ?_
  refine k_na (atype := .int) (ty := .int) (i := 0) (N' := 38) (a0 := (38, .inl (fun _ => 0))) C hA wd_1_84 rfl rfl (fun _ h => h) (fun _ => rfl) (by decide) (by decide) (by decide) (Nat.le_of_ble_eq_true rfl) (Nat.le_of_ble_eq_true rfl) (show decode cX2_init 23 = .ok (.newarray .int, 2) by decide +kernel) (fun q3 => ?_)
  refine k_cs (c2 := 3) (s2 := 114) rfl rfl ?_
  refine k_eq (X2 := (h0, .inr (2, [.int 0, .int 0, .int 0, .int 0, .int 0, .int 0, .ref q1, .ref q2, .null, .null, .null, .null, .null, .null, .null, .null, .int 0])) :: ([(q1, .inl (cA 0, (38, .inl (fun _ => 0))))] ++ [(q2, .inl (cA 0, (38, .inl (fun _ => 0))))] ++ [(q3, .inl (cA 0, (38, .inl (fun _ => 0))))])) rfl ?_
  refine k_pf (j := 8) (ty := (.array .int)) C ck_2 (by decide) wd_2_37 rfl hin rfl (by decide +kernel) rfl rfl (Nat.le_of_ble_eq_true rfl) (show decode cX2_init 25 = .ok (.putfield 18, 3) by decide +kernel) ?_
  refine k_eq (X2 := (h0, .inr (2, [.int 0, .int 0, .int 0, .int 0, .int 0, .int 0, .ref q1, .ref q2, .ref q3, .null, .null, .null, .null, .null, .null, .null, .int 0])) :: ([(q1, .inl (cA 0, (38, .inl (fun _ => 0))))] ++ [(q2, .inl (cA 0, (38, .inl (fun _ => 0))))] ++ [(q3, .inl (cA 0, (38, .inl (fun _ => 0))))])) rfl ?_
  refine k_al C (lv_at hl 0 rfl) rfl (show decode cX2_init 28 = .ok (.aload_n 0, 1) by decide +kernel) ?_
  refine k_bp (v := 38) C (show decode cX2_init 29 = .ok (.bipush 38, 2) by decide +kernel) (by decide) ?_
  refine k_na (atype := .int) (ty := .int) (i := 0) (N' := 38) (a0 := (38, .inl (fun _ => 0))) C hA wd_1_84 rfl rfl (fun _ h => h) (fun _ => rfl) (by decide) (by decide) (by decide) (Nat.le_of_ble_eq_true rfl) (Nat.le_of_ble_eq_true rfl) (show decode cX2_init 31 = .ok (.newarray .int, 2) by decide +kernel) (fun q4 => ?_)
  refine k_cs (c2 := 4) (s2 := 152) rfl rfl ?_
  refine k_eq (X2 := (h0, .inr (2, [.int 0, .int 0, .int 0, .int 0, .int 0, .int 0, .ref q1, .ref q2, .ref q3, .null, .null, .null, .null, .null, .null, .null, .int 0])) :: ([(q1, .inl (cA 0, (38, .inl (fun _ => 0))))] ++ [(q2, .inl (cA 0, (38, .inl (fun _ => 0))))] ++ [(q3, .inl (cA 0, (38, .inl (fun _ => 0))))] ++ [(q4, .inl (cA 0, (38, .inl (fun _ => 0))))])) rfl ?_
  refine k_pf (j := 9) (ty := (.array .int)) C ck_2 (by decide) wd_2_38 rfl hin rfl (by decide +kernel) rfl rfl (Nat.le_of_ble_eq_true rfl) (show decode cX2_init 33 = .ok (.putfield 21, 3) by decide +kernel) ?_
  refine k_eq (X2 := (h0, .inr (2, [.int 0, .int 0, .int 0, .int 0, .int 0, .int 0, .ref q1, .ref q2, .ref q3, .ref q4, .null, .null, .null, .null, .null, .null, .int 0])) :: ([(q1, .inl (cA 0, (38, .inl (fun _ => 0))))] ++ [(q2, .inl (cA 0, (38, .inl (fun _ => 0))))] ++ [(q3, .inl (cA 0, (38, .inl (fun _ => 0))))] ++ [(q4, .inl (cA 0, (38, .inl (fun _ => 0))))])) rfl ?_
  refine k_al C (lv_at hl 0 rfl) rfl (show decode cX2_init 36 = .ok (.aload_n 0, 1) by decide +kernel) ?_
  refine k_bp (v := 12) C (show decode cX2_init 37 = .ok (.bipush 12, 2) by decide +kernel) (by decide) ?_
  refine k_na (atype := .int) (ty := .int) (i := 0) (N' := 12) (a0 := (12, .inl (fun _ => 0))) C hA wd_1_84 rfl rfl (fun _ h => h) (fun _ => rfl) (by decide) (by decide) (by decide) (Nat.le_of_ble_eq_true rfl) (Nat.le_of_ble_eq_true rfl) (show decode cX2_init 39 = .ok (.newarray .int, 2) by decide +kernel) (fun q5 => ?_)
  refine k_cs (c2 := 5) (s2 := 164) rfl rfl ?_
  refine k_eq (X2 := (h0, .inr (2, [.int 0, .int 0, .int 0, .int 0, .int 0, .int 0, .ref q1, .ref q2, .ref q3, .ref q4, .null, .null, .null, .null, .null, .null, .int 0])) :: ([(q1, .inl (cA 0, (38, .inl (fun _ => 0))))] ++ [(q2, .inl (cA 0, (38, .inl (fun _ => 0))))] ++ [(q3, .inl (cA 0, (38, .inl (fun _ => 0))))] ++ [(q4, .inl (cA 0, (38, .inl (fun _ => 0))))] ++ [(q5, .inl (cA 0, (12, .inl (fun _ => 0))))])) rfl ?_
  refine k_pf (j := 10) (ty := (.array .int)) C ck_2 (by decide) wd_2_39 rfl hin rfl (by decide +kernel) rfl rfl (Nat.le_of_ble_eq_true rfl) (show decode cX2_init 41 = .ok (.putfield 24, 3) by decide +kernel) ?_
  refine k_eq (X2 := (h0, .inr (2, [.int 0, .int 0, .int 0, .int 0, .int 0, .int 0, .ref q1, .ref q2, .ref q3, .ref q4, .ref q5, .null, .null, .null, .null, .null, .int 0])) :: ([(q1, .inl (cA 0, (38, .inl (fun _ => 0))))] ++ [(q2, .inl (cA 0, (38, .inl (fun _ => 0))))] ++ [(q3, .inl (cA 0, (38, .inl (fun _ => 0))))] ++ [(q4, .inl (cA 0, (38, .inl (fun _ => 0))))] ++ [(q5, .inl (cA 0, (12, .inl (fun _ => 0))))])) rfl ?_
  refine k_al C (lv_at hl 0 rfl) rfl (show decode cX2_init 44 = .ok (.aload_n 0, 1) by decide +kernel) ?_
  refine k_bp (v := 12) C (show decode cX2_init 45 = .ok (.bipush 12, 2) by decide +kernel) (by decide) ?_
  refine k_na (atype := .int) (ty := .int) (i := 0) (N' := 12) (a0 := (12, .inl (fun _ => 0))) C hA wd_1_84 rfl rfl (fun _ h => h) (fun _ => rfl) (by decide) (by decide) (by decide) (Nat.le_of_ble_eq_true rfl) (Nat.le_of_ble_eq_true rfl) (show decode cX2_init 47 = .ok (.newarray .int, 2) by decide +kernel) (fun q6 => ?_)
  refine k_cs (c2 := 6) (s2 := 176) rfl rfl ?_
  refine k_eq (X2 := (h0, .inr (2, [.int 0, .int 0, .int 0, .int 0, .int 0, .int 0, .ref q1, .ref q2, .ref q3, .ref q4, .ref q5, .null, .null, .null, .null, .null, .int 0])) :: ([(q1, .inl (cA 0, (38, .inl (fun _ => 0))))] ++ [(q2, .inl (cA 0, (38, .inl (fun _ => 0))))] ++ [(q3, .inl (cA 0, (38, .inl (fun _ => 0))))] ++ [(q4, .inl (cA 0, (38, .inl (fun _ => 0))))] ++ [(q5, .inl (cA 0, (12, .inl (fun _ => 0))))] ++ [(q6, .inl (cA 0, (12, .inl (fun _ => 0))))])) rfl ?_
  refine k_pf (j := 11) (ty := (.array .int)) C ck_2 (by decide) wd_2_41 rfl hin rfl (by decide +kernel) rfl rfl (Nat.le_of_ble_eq_true rfl) (show decode cX2_init 49 = .ok (.putfield 27, 3) by decide +kernel) ?_
  refine k_eq (X2 := (h0, .inr (2, [.int 0, .int 0, .int 0, .int 0, .int 0, .int 0, .ref q1, .ref q2, .ref q3, .ref q4, .ref q5, .ref q6, .null, .null, .null, .null, .int 0])) :: ([(q1, .inl (cA 0, (38, .inl (fun _ => 0))))] ++ [(q2, .inl (cA 0, (38, .inl (fun _ => 0))))] ++ [(q3, .inl (cA 0, (38, .inl (fun _ => 0))))] ++ [(q4, .inl (cA 0, (38, .inl (fun _ => 0))))] ++ [(q5, .inl (cA 0, (12, .inl (fun _ => 0))))] ++ [(q6, .inl (cA 0, (12, .inl (fun _ => 0))))])) rfl ?_
  refine k_al C (lv_at hl 0 rfl) rfl (show decode cX2_init 52 = .ok (.aload_n 0, 1) by decide +kernel) ?_
  refine k_bp (v := 12) C (show decode cX2_init 53 = .ok (.bipush 12, 2) by decide +kernel) (by decide) ?_
  refine k_na (atype := .int) (ty := .int) (i := 0) (N' := 12) (a0 := (12, .inl (fun _ => 0))) C hA wd_1_84 rfl rfl (fun _ h => h) (fun _ => rfl) (by decide) (by decide) (by decide) (Nat.le_of_ble_eq_true rfl) (Nat.le_of_ble_eq_true rfl) (show decode cX2_init 55 = .ok (.newarray .int, 2) by decide +kernel) (fun q7 => ?_)
  refine k_cs (c2 := 7) (s2 := 188) rfl rfl ?_
  refine k_eq (X2 := (h0, .inr (2, [.int 0, .int 0, .int 0, .int 0, .int 0, .int 0, .ref q1, .ref q2, .ref q3, .ref q4, .ref q5, .ref q6, .null, .null, .null, .null, .int 0])) :: ([(q1, .inl (cA 0, (38, .inl (fun _ => 0))))] ++ [(q2, .inl (cA 0, (38, .inl (fun _ => 0))))] ++ [(q3, .inl (cA 0, (38, .inl (fun _ => 0))))] ++ [(q4, .inl (cA 0, (38, .inl (fun _ => 0))))] ++ [(q5, .inl (cA 0, (12, .inl (fun _ => 0))))] ++ [(q6, .inl (cA 0, (12, .inl (fun _ => 0))))] ++ [(q7, .inl (cA 0, (12, .inl (fun _ => 0))))])) rfl ?_
  refine k_pf (j := 12) (ty := (.array .int)) C ck_2 (by decide) wd_2_43 rfl hin rfl (by decide +kernel) rfl rfl (Nat.le_of_ble_eq_true rfl) (show decode cX2_init 57 = .ok (.putfield 30, 3) by decide +kernel) ?_
  refine k_eq (X2 := (h0, .inr (2, [.int 0, .int 0, .int 0, .int 0, .int 0, .int 0, .ref q1, .ref q2, .ref q3, .ref q4, .ref q5, .ref q6, .ref q7, .null, .null, .null, .int 0])) :: ([(q1, .inl (cA 0, (38, .inl (fun _ => 0))))] ++ [(q2, .inl (cA 0, (38, .inl (fun _ => 0))))] ++ [(q3, .inl (cA 0, (38, .inl (fun _ => 0))))] ++ [(q4, .inl (cA 0, (38, .inl (fun _ => 0))))] ++ [(q5, .inl (cA 0, (12, .inl (fun _ => 0))))] ++ [(q6, .inl (cA 0, (12, .inl (fun _ => 0))))] ++ [(q7, .inl (cA 0, (12, .inl (fun _ => 0))))])) rfl ?_
  refine k_al C (lv_at hl 0 rfl) rfl (show decode cX2_init 60 = .ok (.aload_n 0, 1) by decide +kernel) ?_
  refine k_bp (v := 12) C (show decode cX2_init 61 = .ok (.bipush 12, 2) by decide +kernel) (by decide) ?_
  refine k_bp (v := 6) C (show decode cX2_init 63 = .ok (.bipush 6, 2) by decide +kernel) (by decide) ?_
  refine k_mn C hA wd_2_20 wd_1_84 (Nat.le_of_ble_eq_true rfl) (Nat.le_of_ble_eq_true rfl) (show decode cX2_init 65 = .ok (.multianewarray 33 2, 4) by decide +kernel) (fun q8 r9 => ?_)
  refine k_cs (c2 := 20) (s2 := 272) rfl rfl ?_
  refine k_eq (X2 := (h0, .inr (2, [.int 0, .int 0, .int 0, .int 0, .int 0, .int 0, .ref q1, .ref q2, .ref q3, .ref q4, .ref q5, .ref q6, .ref q7, .null, .null, .null, .int 0])) :: ([(q1, .inl (cA 0, (38, .inl (fun _ => 0))))] ++ [(q2, .inl (cA 0, (38, .inl (fun _ => 0))))] ++ [(q3, .inl (cA 0, (38, .inl (fun _ => 0))))] ++ [(q4, .inl (cA 0, (38, .inl (fun _ => 0))))] ++ [(q5, .inl (cA 0, (12, .inl (fun _ => 0))))] ++ [(q6, .inl (cA 0, (12, .inl (fun _ => 0))))] ++ [(q7, .inl (cA 0, (12, .inl (fun _ => 0))))] ++ wMn cA q8 r9)) (by rw [k12_eq]; rfl) ?_
  refine k_pf (j := 13) (ty := (.array (.array .int))) C ck_2 (by decide) wd_2_45 rfl hin rfl (by decide +kernel) rfl rfl (Nat.le_of_ble_eq_true rfl) (show decode cX2_init 69 = .ok (.putfield 35, 3) by decide +kernel) ?_
  refine k_eq (X2 := (h0, .inr (2, [.int 0, .int 0, .int 0, .int 0, .int 0, .int 0, .ref q1, .ref q2, .ref q3, .ref q4, .ref q5, .ref q6, .ref q7, .ref q8, .null, .null, .int 0])) :: ([(q1, .inl (cA 0, (38, .inl (fun _ => 0))))] ++ [(q2, .inl (cA 0, (38, .inl (fun _ => 0))))] ++ [(q3, .inl (cA 0, (38, .inl (fun _ => 0))))] ++ [(q4, .inl (cA 0, (38, .inl (fun _ => 0))))] ++ [(q5, .inl (cA 0, (12, .inl (fun _ => 0))))] ++ [(q6, .inl (cA 0, (12, .inl (fun _ => 0))))] ++ [(q7, .inl (cA 0, (12, .inl (fun _ => 0))))] ++ wMn cA q8 r9)) rfl ?_
  refine k_al C (lv_at hl 0 rfl) rfl (show decode cX2_init 72 = .ok (.aload_n 0, 1) by decide +kernel) ?_
  refine k_bp (v := 12) C (show decode cX2_init 73 = .ok (.bipush 12, 2) by decide +kernel) (by decide) ?_
  refine k_bp (v := 6) C (show decode cX2_init 75 = .ok (.bipush 6, 2) by decide +kernel) (by decide) ?_
  refine k_mn C hA wd_2_20 wd_1_84 (Nat.le_of_ble_eq_true rfl) (Nat.le_of_ble_eq_true rfl) (show decode cX2_init 77 = .ok (.multianewarray 33 2, 4) by decide +kernel) (fun q10 r11 => ?_)
  refine k_cs (c2 := 33) (s2 := 356) rfl rfl ?_
  refine k_eq (X2 := (h0, .inr (2, [.int 0, .int 0, .int 0, .int 0, .int 0, .int 0, .ref q1, .ref q2, .ref q3, .ref q4, .ref q5, .ref q6, .ref q7, .ref q8, .null, .null, .int 0])) :: ([(q1, .inl (cA 0, (38, .inl (fun _ => 0))))] ++ [(q2, .inl (cA 0, (38, .inl (fun _ => 0))))] ++ [(q3, .inl (cA 0, (38, .inl (fun _ => 0))))] ++ [(q4, .inl (cA 0, (38, .inl (fun _ => 0))))] ++ [(q5, .inl (cA 0, (12, .inl (fun _ => 0))))] ++ [(q6, .inl (cA 0, (12, .inl (fun _ => 0))))] ++ [(q7, .inl (cA 0, (12, .inl (fun _ => 0))))] ++ wMn cA q8 r9 ++ wMn cA q10 r11)) (by rw [k12_eq]; rfl) ?_
  refine k_pf (j := 14) (ty := (.array (.array .int))) C ck_2 (by decide) wd_2_47 rfl hin rfl (by decide +kernel) rfl rfl (Nat.le_of_ble_eq_true rfl) (show decode cX2_init 81 = .ok (.putfield 38, 3) by decide +kernel) ?_
  refine k_eq (X2 := (h0, .inr (2, [.int 0, .int 0, .int 0, .int 0, .int 0, .int 0, .ref q1, .ref q2, .ref q3, .ref q4, .ref q5, .ref q6, .ref q7, .ref q8, .ref q10, .null, .int 0])) :: ([(q1, .inl (cA 0, (38, .inl (fun _ => 0))))] ++ [(q2, .inl (cA 0, (38, .inl (fun _ => 0))))] ++ [(q3, .inl (cA 0, (38, .inl (fun _ => 0))))] ++ [(q4, .inl (cA 0, (38, .inl (fun _ => 0))))] ++ [(q5, .inl (cA 0, (12, .inl (fun _ => 0))))] ++ [(q6, .inl (cA 0, (12, .inl (fun _ => 0))))] ++ [(q7, .inl (cA 0, (12, .inl (fun _ => 0))))] ++ wMn cA q8 r9 ++ wMn cA q10 r11)) rfl ?_
  refine k_al C (lv_at hl 0 rfl) rfl (show decode cX2_init 84 = .ok (.aload_n 0, 1) by decide +kernel) ?_
  refine k_bp (v := 12) C (show decode cX2_init 85 = .ok (.bipush 12, 2) by decide +kernel) (by decide) ?_
  refine k_bp (v := 6) C (show decode cX2_init 87 = .ok (.bipush 6, 2) by decide +kernel) (by decide) ?_
  refine k_mn C hA wd_2_20 wd_1_84 (Nat.le_of_ble_eq_true rfl) (Nat.le_of_ble_eq_true rfl) (show decode cX2_init 89 = .ok (.multianewarray 33 2, 4) by decide +kernel) (fun q12 r13 => ?_)
  refine k_cs (c2 := 46) (s2 := 440) rfl rfl ?_
  refine k_eq (X2 := (h0, .inr (2, [.int 0, .int 0, .int 0, .int 0, .int 0, .int 0, .ref q1, .ref q2, .ref q3, .ref q4, .ref q5, .ref q6, .ref q7, .ref q8, .ref q10, .null, .int 0])) :: ([(q1, .inl (cA 0, (38, .inl (fun _ => 0))))] ++ [(q2, .inl (cA 0, (38, .inl (fun _ => 0))))] ++ [(q3, .inl (cA 0, (38, .inl (fun _ => 0))))] ++ [(q4, .inl (cA 0, (38, .inl (fun _ => 0))))] ++ [(q5, .inl (cA 0, (12, .inl (fun _ => 0))))] ++ [(q6, .inl (cA 0, (12, .inl (fun _ => 0))))] ++ [(q7, .inl (cA 0, (12, .inl (fun _ => 0))))] ++ wMn cA q8 r9 ++ wMn cA q10 r11 ++ wMn cA q12 r13)) (by rw [k12_eq]; rfl) ?_
  refine k_pf (j := 15) (ty := (.array (.array .int))) C ck_2 (by decide) wd_2_48 rfl hin rfl (by decide +kernel) rfl rfl (Nat.le_of_ble_eq_true rfl) (show decode cX2_init 93 = .ok (.putfield 41, 3) by decide +kernel) ?_
  refine k_eq (X2 := (h0, .inr (2, [.int 0, .int 0, .int 0, .int 0, .int 0, .int 0, .ref q1, .ref q2, .ref q3, .ref q4, .ref q5, .ref q6, .ref q7, .ref q8, .ref q10, .ref q12, .int 0])) :: ([(q1, .inl (cA 0, (38, .inl (fun _ => 0))))] ++ [(q2, .inl (cA 0, (38, .inl (fun _ => 0))))] ++ [(q3, .inl (cA 0, (38, .inl (fun _ => 0))))] ++ [(q4, .inl (cA 0, (38, .inl (fun _ => 0))))] ++ [(q5, .inl (cA 0, (12, .inl (fun _ => 0))))] ++ [(q6, .inl (cA 0, (12, .inl (fun _ => 0))))] ++ [(q7, .inl (cA 0, (12, .inl (fun _ => 0))))] ++ wMn cA q8 r9 ++ wMn cA q10 r11 ++ wMn cA q12 r13)) rfl ?_
  exact k_ret (kPk [(1, fun _ => h0), (1, fun _ => q1), (1, fun _ => q2), (1, fun _ => q3), (1, fun _ => q4), (1, fun _ => q5), (1, fun _ => q6), (1, fun _ => q7), (1, fun _ => q8), (12, r9), (1, fun _ => q10), (12, r11), (1, fun _ => q12), (12, r13)]) C hret hlk hAe (show decode cX2_init 96 = .ok (.return_, 1) by decide +kernel) rfl rfl
def wCrowd (cA : Nat → ClassId) (f : Nat → Nat) : va_W := (f 0, .inr (1, [.ref (f 1), .ref (f 2)])) :: ([(f 1, .inl (cA 0, (64, .inl (fun _ => 0))))] ++ [(f 2, .inl (cA 0, (64, .inl (fun _ => 0))))])
theorem dfX1 : ∀ j, j < gNf 1 → defaultValue (gTy 1 j) = vp_V [.null, .null] j := fun j hj => by
  match j, hj with
  | 0, _ => rfl
  | 1, _ => rfl
  | n + 2, hj => exact absurd (show n + 2 < 2 from hj) (by omega)
set_option maxHeartbeats 4000000 in
set_option maxRecDepth 100000 in
theorem cX1_init_ok : kMet YX1_init 2 2 128 (.inr (1, [.null, .null])) wCrowd := by
  refine kMet_of (by decide +kernel) (by decide) rfl (fun p l e s m args below meth c D cA h0 A C hret hlk hin hA hAe ls hl => ?_)
  have hl : lv_has ls 1 [(0, .ref h0)] := hl
  refine k_al C (lv_at hl 0 rfl) rfl (show decode cX1_init 0 = .ok (.aload_n 0, 1) by decide +kernel) ?_
  refine k_obj C wd_2_92 kObjI kObjC hl.1 (show decode cX1_init 1 = .ok (.invokespecial 3, 3) by decide +kernel) ⟨Nat.le_of_ble_eq_true rfl, Nat.le_of_ble_eq_true rfl⟩ ?_
  refine k_al C (lv_at hl 0 rfl) rfl (show decode cX1_init 4 = .ok (.aload_n 0, 1) by decide +kernel) ?_
  refine k_bp (v := 64) C (show decode cX1_init 5 = .ok (.bipush 64, 2) by decide +kernel) (by decide) ?_
  refine k_na (atype := .int) (ty := .int) (i := 0) (N' := 64) (a0 := (64, .inl (fun _ => 0))) C hA wd_1_84 rfl rfl (fun _ h => h) (fun _ => rfl) (by decide) (by decide) (by decide) (Nat.le_of_ble_eq_true rfl) (Nat.le_of_ble_eq_true rfl) (show decode cX1_init 7 = .ok (.newarray .int, 2) by decide +kernel) (fun q1 => ?_)
  refine k_cs (c2 := 1) (s2 := 64) rfl rfl ?_
  refine k_eq (X2 := (h0, .inr (1, [.null, .null])) :: ([(q1, .inl (cA 0, (64, .inl (fun _ => 0))))])) rfl ?_
  refine k_pf (j := 0) (ty := (.array .int)) C ck_1 (by decide) wd_2_93 rfl hin rfl (by decide +kernel) rfl rfl (Nat.le_of_ble_eq_true rfl) (show decode cX1_init 9 = .ok (.putfield 9, 3) by decide +kernel) ?_
  refine k_eq (X2 := (h0, .inr (1, [.ref q1, .null])) :: ([(q1, .inl (cA 0, (64, .inl (fun _ => 0))))])) rfl ?_
  refine k_al C (lv_at hl 0 rfl) rfl (show decode cX1_init 12 = .ok (.aload_n 0, 1) by decide +kernel) ?_
  refine k_bp (v := 64) C (show decode cX1_init 13 = .ok (.bipush 64, 2) by decide +kernel) (by decide) ?_
  refine k_na (atype := .int) (ty := .int) (i := 0) (N' := 64) (a0 := (64, .inl (fun _ => 0))) C hA wd_1_84 rfl rfl (fun _ h => h) (fun _ => rfl) (by decide) (by decide) (by decide) (Nat.le_of_ble_eq_true rfl) (Nat.le_of_ble_eq_true rfl) (show decode cX1_init 15 = .ok (.newarray .int, 2) by decide +kernel) (fun q2 => ?_)
  refine k_cs (c2 := 2) (s2 := 128) rfl rfl ?_
  refine k_eq (X2 := (h0, .inr (1, [.ref q1, .null])) :: ([(q1, .inl (cA 0, (64, .inl (fun _ => 0))))] ++ [(q2, .inl (cA 0, (64, .inl (fun _ => 0))))])) rfl ?_
  refine k_pf (j := 1) (ty := (.array .int)) C ck_1 (by decide) wd_2_95 rfl hin rfl (by decide +kernel) rfl rfl (Nat.le_of_ble_eq_true rfl) (show decode cX1_init 17 = .ok (.putfield 15, 3) by decide +kernel) ?_
  refine k_eq (X2 := (h0, .inr (1, [.ref q1, .ref q2])) :: ([(q1, .inl (cA 0, (64, .inl (fun _ => 0))))] ++ [(q2, .inl (cA 0, (64, .inl (fun _ => 0))))])) rfl ?_
  exact k_ret (kPk [(1, fun _ => h0), (1, fun _ => q1), (1, fun _ => q2)]) C hret hlk hAe (show decode cX1_init 20 = .ok (.return_, 1) by decide +kernel) rfl rfl
def wGum (cA : Nat → ClassId) (f : Nat → Nat) : va_W := (f 0, .inr (3, [.int 0, .int 0, .int 0, .ref (f 1)])) :: ([(f 1, .inl (cA 0, (30, .inl (fun _ => 0))))])
theorem dfX3 : ∀ j, j < gNf 3 → defaultValue (gTy 3 j) = vp_V [.int 0, .int 0, .int 0, .null] j := fun j hj => by
  match j, hj with
  | 0, _ => rfl
  | 1, _ => rfl
  | 2, _ => rfl
  | 3, _ => rfl
  | n + 4, hj => exact absurd (show n + 4 < 4 from hj) (by omega)
set_option maxHeartbeats 4000000 in
set_option maxRecDepth 100000 in
theorem cX3_init_ok : kMet YX3_init 2 1 30 (.inr (3, [.int 0, .int 0, .int 0, .null])) wGum := by
  refine kMet_of (by decide +kernel) (by decide) rfl (fun p l e s m args below meth c D cA h0 A C hret hlk hin hA hAe ls hl => ?_)
  have hl : lv_has ls 1 [(0, .ref h0)] := hl
  refine k_al C (lv_at hl 0 rfl) rfl (show decode cX3_init 0 = .ok (.aload_n 0, 1) by decide +kernel) ?_
  refine k_obj C wd_2_107 kObjI kObjC hl.1 (show decode cX3_init 1 = .ok (.invokespecial 3, 3) by decide +kernel) ⟨Nat.le_of_ble_eq_true rfl, Nat.le_of_ble_eq_true rfl⟩ ?_
  refine k_al C (lv_at hl 0 rfl) rfl (show decode cX3_init 4 = .ok (.aload_n 0, 1) by decide +kernel) ?_
  refine k_bp (v := 30) C (show decode cX3_init 5 = .ok (.bipush 30, 2) by decide +kernel) (by decide) ?_
  refine k_na (atype := .int) (ty := .int) (i := 0) (N' := 30) (a0 := (30, .inl (fun _ => 0))) C hA wd_1_84 rfl rfl (fun _ h => h) (fun _ => rfl) (by decide) (by decide) (by decide) (Nat.le_of_ble_eq_true rfl) (Nat.le_of_ble_eq_true rfl) (show decode cX3_init 7 = .ok (.newarray .int, 2) by decide +kernel) (fun q1 => ?_)
  refine k_cs (c2 := 1) (s2 := 30) rfl rfl ?_
  refine k_eq (X2 := (h0, .inr (3, [.int 0, .int 0, .int 0, .null])) :: ([(q1, .inl (cA 0, (30, .inl (fun _ => 0))))])) rfl ?_
  refine k_pf (j := 3) (ty := (.array .int)) C ck_3 (by decide) wd_2_114 rfl hin rfl (by decide +kernel) rfl rfl (Nat.le_of_ble_eq_true rfl) (show decode cX3_init 9 = .ok (.putfield 9, 3) by decide +kernel) ?_
  refine k_eq (X2 := (h0, .inr (3, [.int 0, .int 0, .int 0, .ref q1])) :: ([(q1, .inl (cA 0, (30, .inl (fun _ => 0))))])) rfl ?_
  exact k_ret (kPk [(1, fun _ => h0), (1, fun _ => q1)]) C hret hlk hAe (show decode cX3_init 12 = .ok (.return_, 1) by decide +kernel) rfl rfl
