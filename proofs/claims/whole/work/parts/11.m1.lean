/-! steps and calls -/
def tJ0_length_8abf5 : List (Nat × gStp) := [(0, i_aload 0 1), (1, i_gval 4), (4, i_salen 5), (5, i_aload 0 6), (9, i_ii (fun x y => x >>> (y &&& 31)) 10)]
set_option maxRecDepth 100000 in
theorem okJ0_length_8abf5 : gOk YJ0_length_8abf5 tJ0_length_8abf5 := ok_c (sn_aload_n (show decode cJ0_length_8abf5 0 = .ok (.aload_n 0, 1) by decide +kernel) rfl) <|
  ok_c (sn_gval (show decode cJ0_length_8abf5 1 = .ok (.getfield 9, 3) by decide +kernel) wd_9_55) <|
  ok_c (sn_salen (show decode cJ0_length_8abf5 4 = .ok (.arraylength, 1) by decide +kernel)) <|
  ok_c (sn_aload_n (show decode cJ0_length_8abf5 5 = .ok (.aload_n 0, 1) by decide +kernel) rfl) <|
  ok_c (sn_ishr (show decode cJ0_length_8abf5 9 = .ok (.ishr, 1) by decide +kernel)) <|
  ok_n
def uJ0_length_8abf5 : gCT := [(6, YJ0_coder_7d493, 1, some 100)]
set_option maxRecDepth 100000 in
theorem ocJ0_length_8abf5 : gOkC YJ0_length_8abf5 uJ0_length_8abf5 := oc_c (gEdge_Str cal_J0_coder_7d493 rfl (show decode cJ0_length_8abf5 6 = .ok (.invokevirtual 335, 3) by decide +kernel) wd_2_221 wd_2_222 wd_2_223) <|
  oc_n
theorem reJ0_length_8abf5 : ∀ pc ∈ [10], decode cJ0_length_8abf5 pc = .ok (.ireturn, 1) := by decide +kernel
def tJ0_charAt_5068e : List (Nat × gStp) := [(0, i_aload 0 1), (4, i_if_eq 16 7), (7, i_aload 0 8), (8, i_gval 11), (11, i_iload 1 12), (16, i_aload 0 17), (20, i_iload 1 21)]
set_option maxRecDepth 100000 in
theorem okJ0_charAt_5068e : gOk YJ0_charAt_5068e tJ0_charAt_5068e := ok_c (sn_aload_n (show decode cJ0_charAt_5068e 0 = .ok (.aload_n 0, 1) by decide +kernel) rfl) <|
  ok_c (sn_if_eq (show decode cJ0_charAt_5068e 4 = .ok (.ifCond .eq 12, 3) by decide +kernel) (by decide)) <|
  ok_c (sn_aload_n (show decode cJ0_charAt_5068e 7 = .ok (.aload_n 0, 1) by decide +kernel) rfl) <|
  ok_c (sn_gval (show decode cJ0_charAt_5068e 8 = .ok (.getfield 9, 3) by decide +kernel) wd_9_55) <|
  ok_c (sn_iload_n (show decode cJ0_charAt_5068e 11 = .ok (.iload_n 1, 1) by decide +kernel) rfl) <|
  ok_c (sn_aload_n (show decode cJ0_charAt_5068e 16 = .ok (.aload_n 0, 1) by decide +kernel) rfl) <|
  ok_c (sn_iload_n (show decode cJ0_charAt_5068e 20 = .ok (.iload_n 1, 1) by decide +kernel) rfl) <|
  ok_n
def uJ0_charAt_5068e : gCT := [(1, YJ0_isLatin1_aae02, 1, some 100), (12, YJ1_charAt_3b067, 2, none)]
set_option maxRecDepth 100000 in
theorem ocJ0_charAt_5068e : gOkC YJ0_charAt_5068e uJ0_charAt_5068e := oc_c (gEdge_Str cal_J0_isLatin1_aae02 rfl (show decode cJ0_charAt_5068e 1 = .ok (.invokevirtual 492, 3) by decide +kernel) wd_2_231 wd_2_232 wd_2_233) <|
  oc_c (gEdge_S cal_J1_charAt_3b067 (show decode cJ0_charAt_5068e 12 = .ok (.invokestatic 495, 3) by decide +kernel) wd_2_235 wd_2_236) <|
  oc_n
theorem reJ0_charAt_5068e : ∀ pc ∈ [15, 24], decode cJ0_charAt_5068e pc = .ok (.ireturn, 1) := by decide +kernel
def tJ0_coder_7d493 : List (Nat × gStp) := [(0, i_cstr 3), (3, i_if_eq 13 6), (6, i_aload 0 7), (7, i_gcod 10), (10, i_goto 14), (13, i_push (.int 1) 14)]
set_option maxRecDepth 100000 in
theorem okJ0_coder_7d493 : gOk YJ0_coder_7d493 tJ0_coder_7d493 := ok_c (sn_cstr (show decode cJ0_coder_7d493 0 = .ok (.getstatic 38, 3) by decide +kernel) wd_2_225) <|
  ok_c (sn_if_eq (show decode cJ0_coder_7d493 3 = .ok (.ifCond .eq 10, 3) by decide +kernel) (by decide)) <|
  ok_c (sn_aload_n (show decode cJ0_coder_7d493 6 = .ok (.aload_n 0, 1) by decide +kernel) rfl) <|
  ok_c (sn_gcod (show decode cJ0_coder_7d493 7 = .ok (.getfield 15, 3) by decide +kernel) wd_9_56) <|
  ok_c (sn_goto (show decode cJ0_coder_7d493 10 = .ok (.goto 4, 3) by decide +kernel) (by decide)) <|
  ok_c (sn_iconst (v := 1) (show decode cJ0_coder_7d493 13 = .ok (.iconst 1, 1) by decide +kernel) (by decide +kernel)) <|
  ok_n
theorem reJ0_coder_7d493 : ∀ pc ∈ [14], decode cJ0_coder_7d493 pc = .ok (.ireturn, 1) := by decide +kernel
def tJ0_isLatin1_aae02 : List (Nat × gStp) := [(0, i_cstr 3), (3, i_if_eq 17 6), (6, i_aload 0 7), (7, i_gcod 10), (10, i_if_ne 17 13), (13, i_push (.int 1) 14), (14, i_goto 18), (17, i_push (.int 0) 18)]
set_option maxRecDepth 100000 in
theorem okJ0_isLatin1_aae02 : gOk YJ0_isLatin1_aae02 tJ0_isLatin1_aae02 := ok_c (sn_cstr (show decode cJ0_isLatin1_aae02 0 = .ok (.getstatic 38, 3) by decide +kernel) wd_2_225) <|
  ok_c (sn_if_eq (show decode cJ0_isLatin1_aae02 3 = .ok (.ifCond .eq 14, 3) by decide +kernel) (by decide)) <|
  ok_c (sn_aload_n (show decode cJ0_isLatin1_aae02 6 = .ok (.aload_n 0, 1) by decide +kernel) rfl) <|
  ok_c (sn_gcod (show decode cJ0_isLatin1_aae02 7 = .ok (.getfield 15, 3) by decide +kernel) wd_9_56) <|
  ok_c (sn_if_ne (show decode cJ0_isLatin1_aae02 10 = .ok (.ifCond .ne 7, 3) by decide +kernel) (by decide)) <|
  ok_c (sn_iconst (v := 1) (show decode cJ0_isLatin1_aae02 13 = .ok (.iconst 1, 1) by decide +kernel) (by decide +kernel)) <|
  ok_c (sn_goto (show decode cJ0_isLatin1_aae02 14 = .ok (.goto 4, 3) by decide +kernel) (by decide)) <|
  ok_c (sn_iconst (v := 0) (show decode cJ0_isLatin1_aae02 17 = .ok (.iconst 0, 1) by decide +kernel) (by decide +kernel)) <|
  ok_n
theorem reJ0_isLatin1_aae02 : ∀ pc ∈ [18], decode cJ0_isLatin1_aae02 pc = .ok (.ireturn, 1) := by decide +kernel
theorem siJ0_checkIndex_df160 : Cond.fieldLink "java/lang/String" 1053 "jdk/internal/util/Preconditions" "SIOOBE_FORMATTER" "Ljava/util/function/BiFunction;" ∈ gT := wd_3_1
def tJ0_checkIndex_df160 : List (Nat × gStp) := [(0, i_iload 0 1), (1, i_iload 1 2), (8, i_pop 9)]
set_option maxRecDepth 100000 in
theorem okJ0_checkIndex_df160 : gOk YJ0_checkIndex_df160 tJ0_checkIndex_df160 := ok_c (sn_iload_n (show decode cJ0_checkIndex_df160 0 = .ok (.iload_n 0, 1) by decide +kernel) rfl) <|
  ok_c (sn_iload_n (show decode cJ0_checkIndex_df160 1 = .ok (.iload_n 1, 1) by decide +kernel) rfl) <|
  ok_c (sn_pop (show decode cJ0_checkIndex_df160 8 = .ok (.pop, 1) by decide +kernel)) <|
  ok_n
def uJ0_checkIndex_df160 : gCT := [(5, YJ3_checkIndex_8e157, 3, none)]
set_option maxRecDepth 100000 in
theorem ocJ0_checkIndex_df160 : gOkC YJ0_checkIndex_df160 uJ0_checkIndex_df160 := oc_c (gEdge_S cal_J3_checkIndex_8e157 (show decode cJ0_checkIndex_df160 5 = .ok (.invokestatic 1059, 3) by decide +kernel) wd_3_3 wd_3_4) <|
  oc_n
theorem reJ0_checkIndex_df160 : ∀ pc ∈ [9], decode cJ0_checkIndex_df160 pc = .ok (.return_, 1) := by decide +kernel
def tJ1_charAt_3b067 : List (Nat × gStp) := [(0, i_iload 1 1), (1, i_aload 0 2), (2, i_salen 3), (6, i_aload 0 7), (7, i_iload 1 8), (8, i_sbald 9), (9, i_push (.int 255) 12), (12, i_ii (fun x y => x &&& y) 13), (13, i_i (fun x => (x.toUInt32 % 65536).toInt32) 14)]
set_option maxRecDepth 100000 in
theorem okJ1_charAt_3b067 : gOk YJ1_charAt_3b067 tJ1_charAt_3b067 := ok_c (sn_iload_n (show decode cJ1_charAt_3b067 0 = .ok (.iload_n 1, 1) by decide +kernel) rfl) <|
  ok_c (sn_aload_n (show decode cJ1_charAt_3b067 1 = .ok (.aload_n 0, 1) by decide +kernel) rfl) <|
  ok_c (sn_salen (show decode cJ1_charAt_3b067 2 = .ok (.arraylength, 1) by decide +kernel)) <|
  ok_c (sn_aload_n (show decode cJ1_charAt_3b067 6 = .ok (.aload_n 0, 1) by decide +kernel) rfl) <|
  ok_c (sn_iload_n (show decode cJ1_charAt_3b067 7 = .ok (.iload_n 1, 1) by decide +kernel) rfl) <|
  ok_c (sn_sbald (show decode cJ1_charAt_3b067 8 = .ok (.baload, 1) by decide +kernel)) <|
  ok_c (sn_sipush (v := 255) (show decode cJ1_charAt_3b067 9 = .ok (.sipush 255, 3) by decide +kernel) (by decide +kernel)) <|
  ok_c (sn_iand (show decode cJ1_charAt_3b067 12 = .ok (.iand, 1) by decide +kernel)) <|
  ok_c (sn_i2c (show decode cJ1_charAt_3b067 13 = .ok (.i2c, 1) by decide +kernel)) <|
  ok_n
def uJ1_charAt_3b067 : gCT := [(3, YJ0_checkIndex_df160, 2, none)]
set_option maxRecDepth 100000 in
theorem ocJ1_charAt_3b067 : gOkC YJ1_charAt_3b067 uJ1_charAt_3b067 := oc_c (gEdge_S cal_J0_checkIndex_df160 (show decode cJ1_charAt_3b067 3 = .ok (.invokestatic 9, 3) by decide +kernel) wd_2_238 wd_2_239) <|
  oc_n
theorem reJ1_charAt_3b067 : ∀ pc ∈ [14], decode cJ1_charAt_3b067 pc = .ok (.ireturn, 1) := by decide +kernel
def tJ3_checkIndex_8e157 : List (Nat × gStp) := [(0, i_iload 0 1), (1, i_if_lt 9 4), (4, i_iload 0 5), (5, i_iload 1 6), (6, i_ic_lt 16 9), (9, i_aload 2 10), (10, i_iload 0 11), (11, i_iload 1 12), (16, i_iload 0 17)]
set_option maxRecDepth 100000 in
theorem okJ3_checkIndex_8e157 : gOk YJ3_checkIndex_8e157 tJ3_checkIndex_8e157 := ok_c (sn_iload_n (show decode cJ3_checkIndex_8e157 0 = .ok (.iload_n 0, 1) by decide +kernel) rfl) <|
  ok_c (sn_if_lt (show decode cJ3_checkIndex_8e157 1 = .ok (.ifCond .lt 8, 3) by decide +kernel) (by decide)) <|
  ok_c (sn_iload_n (show decode cJ3_checkIndex_8e157 4 = .ok (.iload_n 0, 1) by decide +kernel) rfl) <|
  ok_c (sn_iload_n (show decode cJ3_checkIndex_8e157 5 = .ok (.iload_n 1, 1) by decide +kernel) rfl) <|
  ok_c (sn_ic_lt (show decode cJ3_checkIndex_8e157 6 = .ok (.if_icmp .lt 10, 3) by decide +kernel) (by decide)) <|
  ok_c (sn_aload_n (show decode cJ3_checkIndex_8e157 9 = .ok (.aload_n 2, 1) by decide +kernel) rfl) <|
  ok_c (sn_iload_n (show decode cJ3_checkIndex_8e157 10 = .ok (.iload_n 0, 1) by decide +kernel) rfl) <|
  ok_c (sn_iload_n (show decode cJ3_checkIndex_8e157 11 = .ok (.iload_n 1, 1) by decide +kernel) rfl) <|
  ok_c (sn_iload_n (show decode cJ3_checkIndex_8e157 16 = .ok (.iload_n 0, 1) by decide +kernel) rfl) <|
  ok_n
theorem reJ3_checkIndex_8e157 : ∀ pc ∈ [17], decode cJ3_checkIndex_8e157 pc = .ok (.ireturn, 1) := by decide +kernel
