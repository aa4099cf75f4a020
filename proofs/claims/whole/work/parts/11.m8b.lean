/-! steps and calls -/
def tX8_paste : List (Nat × gStp) := [(0, i_aload 0 1), (1, i_iload 1 2), (5, i_astore 6 7), (7, i_aload 0 8), (8, i_iload 3 9), (12, i_astore 7 14), (14, i_aload 6 16), (16, i_ifnull 24 19), (19, i_aload 7 21), (21, i_ifnull 24 27), (24, i_push (.int (-2)) 26), (27, i_aload 6 29), (32, i_if_eq 43 35), (35, i_aload 7 37), (40, i_if_ne 46 43), (43, i_push (.int (-6)) 45), (46, i_aload 6 48), (48, i_getI 4 1 51), (51, i_aload 7 53), (53, i_getI 4 1 56), (56, i_ic_eq 62 59), (59, i_push (.int (-8)) 61), (62, i_aload 6 64), (64, i_iload 2 65), (65, i_iload 5 67), (70, i_if_eq 85 73), (73, i_aload 7 75), (75, i_iload 4 77), (77, i_iload 5 79), (82, i_if_ne 88 85), (85, i_push (.int (-7)) 87), (88, i_aload 6 90), (90, i_getO 4 1 93), (93, i_iload 2 94), (94, i_aload 7 96), (96, i_getO 4 1 99), (99, i_iload 4 101), (101, i_iload 5 103), (103, i_cpyl 106), (106, i_push (.int 0) 107)]
set_option maxRecDepth 100000 in
theorem okX8_paste : gOk YX8_paste tX8_paste := ok_c (sn_aload_n (show decode cX8_paste 0 = .ok (.aload_n 0, 1) by decide +kernel) rfl) <|
  ok_c (sn_iload_n (show decode cX8_paste 1 = .ok (.iload_n 1, 1) by decide +kernel) rfl) <|
  ok_c (sn_astore (show decode cX8_paste 5 = .ok (.astore 6, 2) by decide +kernel) (by decide)) <|
  ok_c (sn_aload_n (show decode cX8_paste 7 = .ok (.aload_n 0, 1) by decide +kernel) rfl) <|
  ok_c (sn_iload_n (show decode cX8_paste 8 = .ok (.iload_n 3, 1) by decide +kernel) rfl) <|
  ok_c (sn_astore (show decode cX8_paste 12 = .ok (.astore 7, 2) by decide +kernel) (by decide)) <|
  ok_c (sn_aload (show decode cX8_paste 14 = .ok (.aload 6, 2) by decide +kernel)) <|
  ok_c (sn_ifnull (show decode cX8_paste 16 = .ok (.ifnull 8, 3) by decide +kernel) (by decide)) <|
  ok_c (sn_aload (show decode cX8_paste 19 = .ok (.aload 7, 2) by decide +kernel)) <|
  ok_c (sn_ifnonnull (show decode cX8_paste 21 = .ok (.ifnonnull 6, 3) by decide +kernel) (by decide)) <|
  ok_c (sn_bipush (v := (-2)) (show decode cX8_paste 24 = .ok (.bipush (-2), 2) by decide +kernel) (by decide +kernel)) <|
  ok_c (sn_aload (show decode cX8_paste 27 = .ok (.aload 6, 2) by decide +kernel)) <|
  ok_c (sn_if_eq (show decode cX8_paste 32 = .ok (.ifCond .eq 11, 3) by decide +kernel) (by decide)) <|
  ok_c (sn_aload (show decode cX8_paste 35 = .ok (.aload 7, 2) by decide +kernel)) <|
  ok_c (sn_if_ne (show decode cX8_paste 40 = .ok (.ifCond .ne 6, 3) by decide +kernel) (by decide)) <|
  ok_c (sn_bipush (v := (-6)) (show decode cX8_paste 43 = .ok (.bipush (-6), 2) by decide +kernel) (by decide +kernel)) <|
  ok_c (sn_aload (show decode cX8_paste 46 = .ok (.aload 6, 2) by decide +kernel)) <|
  ok_c (sn_getI (fun _ _ => rfl) (sn_get ck_4 (by decide) (show decode cX8_paste 48 = .ok (.getfield 375, 3) by decide +kernel) wd_1_239)) <|
  ok_c (sn_aload (show decode cX8_paste 51 = .ok (.aload 7, 2) by decide +kernel)) <|
  ok_c (sn_getI (fun _ _ => rfl) (sn_get ck_4 (by decide) (show decode cX8_paste 53 = .ok (.getfield 375, 3) by decide +kernel) wd_1_239)) <|
  ok_c (sn_ic_eq (show decode cX8_paste 56 = .ok (.if_icmp .eq 6, 3) by decide +kernel) (by decide)) <|
  ok_c (sn_bipush (v := (-8)) (show decode cX8_paste 59 = .ok (.bipush (-8), 2) by decide +kernel) (by decide +kernel)) <|
  ok_c (sn_aload (show decode cX8_paste 62 = .ok (.aload 6, 2) by decide +kernel)) <|
  ok_c (sn_iload_n (show decode cX8_paste 64 = .ok (.iload_n 2, 1) by decide +kernel) rfl) <|
  ok_c (sn_iload (show decode cX8_paste 65 = .ok (.iload 5, 2) by decide +kernel)) <|
  ok_c (sn_if_eq (show decode cX8_paste 70 = .ok (.ifCond .eq 15, 3) by decide +kernel) (by decide)) <|
  ok_c (sn_aload (show decode cX8_paste 73 = .ok (.aload 7, 2) by decide +kernel)) <|
  ok_c (sn_iload (show decode cX8_paste 75 = .ok (.iload 4, 2) by decide +kernel)) <|
  ok_c (sn_iload (show decode cX8_paste 77 = .ok (.iload 5, 2) by decide +kernel)) <|
  ok_c (sn_if_ne (show decode cX8_paste 82 = .ok (.ifCond .ne 6, 3) by decide +kernel) (by decide)) <|
  ok_c (sn_bipush (v := (-7)) (show decode cX8_paste 85 = .ok (.bipush (-7), 2) by decide +kernel) (by decide +kernel)) <|
  ok_c (sn_aload (show decode cX8_paste 88 = .ok (.aload 6, 2) by decide +kernel)) <|
  ok_c (sn_getO (j := 0) (fun _ _ => rfl) (sn_get ck_4 (by decide) (show decode cX8_paste 90 = .ok (.getfield 381, 3) by decide +kernel) wd_1_237)) <|
  ok_c (sn_iload_n (show decode cX8_paste 93 = .ok (.iload_n 2, 1) by decide +kernel) rfl) <|
  ok_c (sn_aload (show decode cX8_paste 94 = .ok (.aload 7, 2) by decide +kernel)) <|
  ok_c (sn_getO (j := 0) (fun _ _ => rfl) (sn_get ck_4 (by decide) (show decode cX8_paste 96 = .ok (.getfield 381, 3) by decide +kernel) wd_1_237)) <|
  ok_c (sn_iload (show decode cX8_paste 99 = .ok (.iload 4, 2) by decide +kernel)) <|
  ok_c (sn_iload (show decode cX8_paste 101 = .ok (.iload 5, 2) by decide +kernel)) <|
  ok_c (sn_cpyl (show decode cX8_paste 103 = .ok (.invokestatic 385, 3) by decide +kernel) wd_5_210 wd_5_174 wd_5_173 wd_1_18) <|
  ok_c (sn_iconst (v := 0) (show decode cX8_paste 106 = .ok (.iconst 0, 1) by decide +kernel) (by decide +kernel)) <|
  ok_n
def uX8_paste : gCT := [(2, YX8_slotAt, 2, some 8), (9, YX8_slotAt, 2, some 8), (29, YX4_isThere, 1, some 4), (37, YX4_isThere, 1, some 4), (67, YX4_reaches, 3, some 4), (79, YX4_reaches, 3, some 4)]
set_option maxRecDepth 100000 in
theorem ocX8_paste : gOkC YX8_paste uX8_paste := oc_c (gEdge_V cal_X8_slotAt ck_8 rfl (show decode cX8_paste 2 = .ok (.invokevirtual 226, 3) by decide +kernel) wd_4_144 wd_4_146 wp_2_11) <|
  oc_c (gEdge_V cal_X8_slotAt ck_8 rfl (show decode cX8_paste 9 = .ok (.invokevirtual 226, 3) by decide +kernel) wd_4_144 wd_4_146 wp_2_11) <|
  oc_c (gEdge_V cal_X4_isThere ck_4 rfl (show decode cX8_paste 29 = .ok (.invokevirtual 368, 3) by decide +kernel) wd_4_152 wd_4_153 wd_4_154) <|
  oc_c (gEdge_V cal_X4_isThere ck_4 rfl (show decode cX8_paste 37 = .ok (.invokevirtual 368, 3) by decide +kernel) wd_4_152 wd_4_153 wd_4_154) <|
  oc_c (gEdge_V cal_X4_reaches ck_4 rfl (show decode cX8_paste 67 = .ok (.invokevirtual 378, 3) by decide +kernel) wd_5_206 wd_5_207 wd_5_208) <|
  oc_c (gEdge_V cal_X4_reaches ck_4 rfl (show decode cX8_paste 79 = .ok (.invokevirtual 378, 3) by decide +kernel) wd_5_206 wd_5_207 wd_5_208) <|
  oc_n
theorem reX8_paste : ∀ pc ∈ [26, 45, 61, 87, 107], decode cX8_paste pc = .ok (.ireturn, 1) := by decide +kernel
def tX8_isEither : List (Nat × gStp) := [(0, i_iload 0 1), (1, i_if_eq 9 4), (4, i_iload 0 5), (5, i_push (.int 1) 6), (6, i_ic_ne 13 9), (9, i_push (.int 1) 10), (10, i_goto 14), (13, i_push (.int 0) 14)]
set_option maxRecDepth 100000 in
theorem okX8_isEither : gOk YX8_isEither tX8_isEither := ok_c (sn_iload_n (show decode cX8_isEither 0 = .ok (.iload_n 0, 1) by decide +kernel) rfl) <|
  ok_c (sn_if_eq (show decode cX8_isEither 1 = .ok (.ifCond .eq 8, 3) by decide +kernel) (by decide)) <|
  ok_c (sn_iload_n (show decode cX8_isEither 4 = .ok (.iload_n 0, 1) by decide +kernel) rfl) <|
  ok_c (sn_iconst (v := 1) (show decode cX8_isEither 5 = .ok (.iconst 1, 1) by decide +kernel) (by decide +kernel)) <|
  ok_c (sn_ic_ne (show decode cX8_isEither 6 = .ok (.if_icmp .ne 7, 3) by decide +kernel) (by decide)) <|
  ok_c (sn_iconst (v := 1) (show decode cX8_isEither 9 = .ok (.iconst 1, 1) by decide +kernel) (by decide +kernel)) <|
  ok_c (sn_goto (show decode cX8_isEither 10 = .ok (.goto 4, 3) by decide +kernel) (by decide)) <|
  ok_c (sn_iconst (v := 0) (show decode cX8_isEither 13 = .ok (.iconst 0, 1) by decide +kernel) (by decide +kernel)) <|
  ok_n
theorem reX8_isEither : ∀ pc ∈ [14], decode cX8_isEither pc = .ok (.ireturn, 1) := by decide +kernel
def tX8_isSeed : List (Nat × gStp) := [(0, i_iload 0 1), (1, i_if_lt 15 4), (4, i_iload 0 5), (5, i_push (.int 2000000000) 8), (8, i_ic_gt 15 11), (11, i_push (.int 1) 12), (12, i_goto 16), (15, i_push (.int 0) 16)]
set_option maxRecDepth 100000 in
theorem okX8_isSeed : gOk YX8_isSeed tX8_isSeed := ok_c (sn_iload_n (show decode cX8_isSeed 0 = .ok (.iload_n 0, 1) by decide +kernel) rfl) <|
  ok_c (sn_if_lt (show decode cX8_isSeed 1 = .ok (.ifCond .lt 14, 3) by decide +kernel) (by decide)) <|
  ok_c (sn_iload_n (show decode cX8_isSeed 4 = .ok (.iload_n 0, 1) by decide +kernel) rfl) <|
  ok_c (sn_ldcw (show decode cX8_isSeed 5 = .ok (.ldc_w 391, 3) by decide +kernel) wd_5_130) <|
  ok_c (sn_ic_gt (show decode cX8_isSeed 8 = .ok (.if_icmp .gt 7, 3) by decide +kernel) (by decide)) <|
  ok_c (sn_iconst (v := 1) (show decode cX8_isSeed 11 = .ok (.iconst 1, 1) by decide +kernel) (by decide +kernel)) <|
  ok_c (sn_goto (show decode cX8_isSeed 12 = .ok (.goto 4, 3) by decide +kernel) (by decide)) <|
  ok_c (sn_iconst (v := 0) (show decode cX8_isSeed 15 = .ok (.iconst 0, 1) by decide +kernel) (by decide +kernel)) <|
  ok_n
theorem reX8_isSeed : ∀ pc ∈ [16], decode cX8_isSeed pc = .ok (.ireturn, 1) := by decide +kernel
def tX8_slotAt : List (Nat × gStp) := [(0, i_iload 1 1), (1, i_if_lt 22 4), (4, i_iload 1 5), (5, i_aload 0 6), (6, i_getC 8 4 9), (9, i_alen 10), (10, i_ic_ge 22 13), (13, i_aload 0 14), (14, i_getC 8 4 17), (17, i_iload 1 18), (18, i_aald5 19), (19, i_goto 23), (22, i_push .null 23)]
set_option maxRecDepth 100000 in
theorem okX8_slotAt : gOk YX8_slotAt tX8_slotAt := ok_c (sn_iload_n (show decode cX8_slotAt 0 = .ok (.iload_n 1, 1) by decide +kernel) rfl) <|
  ok_c (sn_if_lt (show decode cX8_slotAt 1 = .ok (.ifCond .lt 21, 3) by decide +kernel) (by decide)) <|
  ok_c (sn_iload_n (show decode cX8_slotAt 4 = .ok (.iload_n 1, 1) by decide +kernel) rfl) <|
  ok_c (sn_aload_n (show decode cX8_slotAt 5 = .ok (.aload_n 0, 1) by decide +kernel) rfl) <|
  ok_c (sn_getC (j := 1) (fun _ _ => rfl) (sn_get ck_8 (by decide) (show decode cX8_slotAt 6 = .ok (.getfield 18, 3) by decide +kernel) wd_2_125)) <|
  ok_c (sn_alen (show decode cX8_slotAt 9 = .ok (.arraylength, 1) by decide +kernel)) <|
  ok_c (sn_ic_ge (show decode cX8_slotAt 10 = .ok (.if_icmp .ge 12, 3) by decide +kernel) (by decide)) <|
  ok_c (sn_aload_n (show decode cX8_slotAt 13 = .ok (.aload_n 0, 1) by decide +kernel) rfl) <|
  ok_c (sn_getC (j := 1) (fun _ _ => rfl) (sn_get ck_8 (by decide) (show decode cX8_slotAt 14 = .ok (.getfield 18, 3) by decide +kernel) wd_2_125)) <|
  ok_c (sn_iload_n (show decode cX8_slotAt 17 = .ok (.iload_n 1, 1) by decide +kernel) rfl) <|
  ok_c (sn_aald5 (show decode cX8_slotAt 18 = .ok (.aaload, 1) by decide +kernel)) <|
  ok_c (sn_goto (show decode cX8_slotAt 19 = .ok (.goto 4, 3) by decide +kernel) (by decide)) <|
  ok_c (sn_null (show decode cX8_slotAt 22 = .ok (.aconst_null, 1) by decide +kernel)) <|
  ok_n
theorem reX8_slotAt : ∀ pc ∈ [23], decode cX8_slotAt pc = .ok (.areturn, 1) := by decide +kernel
def tX8_rowCount : List (Nat × gStp) := [(0, i_push (.int 0) 1), (1, i_istore 1 2), (2, i_push (.int 0) 3), (3, i_istore 2 4), (4, i_iload 2 5), (5, i_aload 0 6), (6, i_getC 8 4 9), (9, i_alen 10), (10, i_ic_ge 34 13), (13, i_aload 0 14), (14, i_getC 8 4 17), (17, i_iload 2 18), (18, i_aald5 19), (22, i_if_eq 28 25), (25, i_iinc 1 1 28), (28, i_iinc 2 1 31), (31, i_goto 4), (34, i_iload 1 35)]
set_option maxRecDepth 100000 in
theorem okX8_rowCount : gOk YX8_rowCount tX8_rowCount := ok_c (sn_iconst (v := 0) (show decode cX8_rowCount 0 = .ok (.iconst 0, 1) by decide +kernel) (by decide +kernel)) <|
  ok_c (sn_istore_n (show decode cX8_rowCount 1 = .ok (.istore_n 1, 1) by decide +kernel) rfl (by decide)) <|
  ok_c (sn_iconst (v := 0) (show decode cX8_rowCount 2 = .ok (.iconst 0, 1) by decide +kernel) (by decide +kernel)) <|
  ok_c (sn_istore_n (show decode cX8_rowCount 3 = .ok (.istore_n 2, 1) by decide +kernel) rfl (by decide)) <|
  ok_c (sn_iload_n (show decode cX8_rowCount 4 = .ok (.iload_n 2, 1) by decide +kernel) rfl) <|
  ok_c (sn_aload_n (show decode cX8_rowCount 5 = .ok (.aload_n 0, 1) by decide +kernel) rfl) <|
  ok_c (sn_getC (j := 1) (fun _ _ => rfl) (sn_get ck_8 (by decide) (show decode cX8_rowCount 6 = .ok (.getfield 18, 3) by decide +kernel) wd_2_125)) <|
  ok_c (sn_alen (show decode cX8_rowCount 9 = .ok (.arraylength, 1) by decide +kernel)) <|
  ok_c (sn_ic_ge (show decode cX8_rowCount 10 = .ok (.if_icmp .ge 24, 3) by decide +kernel) (by decide)) <|
  ok_c (sn_aload_n (show decode cX8_rowCount 13 = .ok (.aload_n 0, 1) by decide +kernel) rfl) <|
  ok_c (sn_getC (j := 1) (fun _ _ => rfl) (sn_get ck_8 (by decide) (show decode cX8_rowCount 14 = .ok (.getfield 18, 3) by decide +kernel) wd_2_125)) <|
  ok_c (sn_iload_n (show decode cX8_rowCount 17 = .ok (.iload_n 2, 1) by decide +kernel) rfl) <|
  ok_c (sn_aald5 (show decode cX8_rowCount 18 = .ok (.aaload, 1) by decide +kernel)) <|
  ok_c (sn_if_eq (show decode cX8_rowCount 22 = .ok (.ifCond .eq 6, 3) by decide +kernel) (by decide)) <|
  ok_c (sn_iinc (show decode cX8_rowCount 25 = .ok (.iinc 1 1, 3) by decide +kernel) (by decide) (by decide +kernel)) <|
  ok_c (sn_iinc (show decode cX8_rowCount 28 = .ok (.iinc 2 1, 3) by decide +kernel) (by decide) (by decide +kernel)) <|
  ok_c (sn_goto (show decode cX8_rowCount 31 = .ok (.goto (-27), 3) by decide +kernel) (by decide)) <|
  ok_c (sn_iload_n (show decode cX8_rowCount 34 = .ok (.iload_n 1, 1) by decide +kernel) rfl) <|
  ok_n
def uX8_rowCount : gCT := [(19, YX4_isThere, 1, some 4)]
set_option maxRecDepth 100000 in
theorem ocX8_rowCount : gOkC YX8_rowCount uX8_rowCount := oc_c (gEdge_V cal_X4_isThere ck_4 rfl (show decode cX8_rowCount 19 = .ok (.invokevirtual 368, 3) by decide +kernel) wd_4_152 wd_4_153 wd_4_154) <|
  oc_n
theorem reX8_rowCount : ∀ pc ∈ [35], decode cX8_rowCount pc = .ok (.ireturn, 1) := by decide +kernel
def tX8_liveAsNow : List (Nat × gStp) := [(0, i_aload 0 1), (1, i_getC 8 14 4), (7, i_aload 0 8), (8, i_getC 8 14 11), (11, i_aload 0 12), (12, i_getT 8 0 15), (15, i_aload 0 16), (16, i_getT 8 0 19), (19, i_getI 7 1 22)]
set_option maxRecDepth 100000 in
theorem okX8_liveAsNow : gOk YX8_liveAsNow tX8_liveAsNow := ok_c (sn_aload_n (show decode cX8_liveAsNow 0 = .ok (.aload_n 0, 1) by decide +kernel) rfl) <|
  ok_c (sn_getC (j := 3) (fun _ _ => rfl) (sn_get ck_8 (by decide) (show decode cX8_liveAsNow 1 = .ok (.getfield 33, 3) by decide +kernel) wd_2_127)) <|
  ok_c (sn_aload_n (show decode cX8_liveAsNow 7 = .ok (.aload_n 0, 1) by decide +kernel) rfl) <|
  ok_c (sn_getC (j := 3) (fun _ _ => rfl) (sn_get ck_8 (by decide) (show decode cX8_liveAsNow 8 = .ok (.getfield 33, 3) by decide +kernel) wd_2_127)) <|
  ok_c (sn_aload_n (show decode cX8_liveAsNow 11 = .ok (.aload_n 0, 1) by decide +kernel) rfl) <|
  ok_c (sn_getT (j := 6) (fun _ _ => rfl) (sn_get ck_8 (by decide) (show decode cX8_liveAsNow 12 = .ok (.getfield 51, 3) by decide +kernel) wd_2_130)) <|
  ok_c (sn_aload_n (show decode cX8_liveAsNow 15 = .ok (.aload_n 0, 1) by decide +kernel) rfl) <|
  ok_c (sn_getT (j := 6) (fun _ _ => rfl) (sn_get ck_8 (by decide) (show decode cX8_liveAsNow 16 = .ok (.getfield 51, 3) by decide +kernel) wd_2_130)) <|
  ok_c (sn_getI (fun _ _ => rfl) (sn_get ck_7 (by decide) (show decode cX8_liveAsNow 19 = .ok (.getfield 184, 3) by decide +kernel) wd_1_90)) <|
  ok_n
def uX8_liveAsNow : gCT := [(4, YX2_supposeNothing, 1, some 2), (22, YX2_live, 3, some 2)]
set_option maxRecDepth 100000 in
theorem ocX8_liveAsNow : gOkC YX8_liveAsNow uX8_liveAsNow := oc_c (gEdge_V cal_X2_supposeNothing ck_2 rfl (show decode cX8_liveAsNow 4 = .ok (.invokevirtual 260, 3) by decide +kernel) wd_3_106 wd_3_107 wd_3_108) <|
  oc_c (gEdge_V cal_X2_live ck_2 rfl (show decode cX8_liveAsNow 22 = .ok (.invokevirtual 266, 3) by decide +kernel) wd_3_110 wd_3_111 wd_3_112) <|
  oc_n
theorem reX8_liveAsNow : ∀ pc ∈ [25], decode cX8_liveAsNow pc = .ok (.return_, 1) := by decide +kernel
def tX8_firstYearWith : List (Nat × gStp) := [(0, i_push (.int 0) 1), (1, i_istore 3 2), (2, i_iload 3 3), (3, i_aload 0 4), (4, i_getT 8 0 7), (7, i_getI 7 1 10), (10, i_ic_ge 37 13), (13, i_iload 3 14), (14, i_aload 1 15), (15, i_alen 16), (16, i_ic_ge 37 19), (19, i_aload 1 20), (20, i_iload 3 21), (21, i_iald 22), (22, i_iload 2 23), (26, i_if_eq 31 29), (29, i_iload 3 30), (31, i_iinc 3 1 34), (34, i_goto 2), (37, i_push (.int (-1)) 38)]
set_option maxRecDepth 100000 in
theorem okX8_firstYearWith : gOk YX8_firstYearWith tX8_firstYearWith := ok_c (sn_iconst (v := 0) (show decode cX8_firstYearWith 0 = .ok (.iconst 0, 1) by decide +kernel) (by decide +kernel)) <|
  ok_c (sn_istore_n (show decode cX8_firstYearWith 1 = .ok (.istore_n 3, 1) by decide +kernel) rfl (by decide)) <|
  ok_c (sn_iload_n (show decode cX8_firstYearWith 2 = .ok (.iload_n 3, 1) by decide +kernel) rfl) <|
  ok_c (sn_aload_n (show decode cX8_firstYearWith 3 = .ok (.aload_n 0, 1) by decide +kernel) rfl) <|
  ok_c (sn_getT (j := 6) (fun _ _ => rfl) (sn_get ck_8 (by decide) (show decode cX8_firstYearWith 4 = .ok (.getfield 51, 3) by decide +kernel) wd_2_130)) <|
  ok_c (sn_getI (fun _ _ => rfl) (sn_get ck_7 (by decide) (show decode cX8_firstYearWith 7 = .ok (.getfield 184, 3) by decide +kernel) wd_1_90)) <|
  ok_c (sn_ic_ge (show decode cX8_firstYearWith 10 = .ok (.if_icmp .ge 27, 3) by decide +kernel) (by decide)) <|
  ok_c (sn_iload_n (show decode cX8_firstYearWith 13 = .ok (.iload_n 3, 1) by decide +kernel) rfl) <|
  ok_c (sn_aload_n (show decode cX8_firstYearWith 14 = .ok (.aload_n 1, 1) by decide +kernel) rfl) <|
  ok_c (sn_alen (show decode cX8_firstYearWith 15 = .ok (.arraylength, 1) by decide +kernel)) <|
  ok_c (sn_ic_ge (show decode cX8_firstYearWith 16 = .ok (.if_icmp .ge 21, 3) by decide +kernel) (by decide)) <|
  ok_c (sn_aload_n (show decode cX8_firstYearWith 19 = .ok (.aload_n 1, 1) by decide +kernel) rfl) <|
  ok_c (sn_iload_n (show decode cX8_firstYearWith 20 = .ok (.iload_n 3, 1) by decide +kernel) rfl) <|
  ok_c (sn_iald (show decode cX8_firstYearWith 21 = .ok (.iaload, 1) by decide +kernel)) <|
  ok_c (sn_iload_n (show decode cX8_firstYearWith 22 = .ok (.iload_n 2, 1) by decide +kernel) rfl) <|
  ok_c (sn_if_eq (show decode cX8_firstYearWith 26 = .ok (.ifCond .eq 5, 3) by decide +kernel) (by decide)) <|
  ok_c (sn_iload_n (show decode cX8_firstYearWith 29 = .ok (.iload_n 3, 1) by decide +kernel) rfl) <|
  ok_c (sn_iinc (show decode cX8_firstYearWith 31 = .ok (.iinc 3 1, 3) by decide +kernel) (by decide) (by decide +kernel)) <|
  ok_c (sn_goto (show decode cX8_firstYearWith 34 = .ok (.goto (-32), 3) by decide +kernel) (by decide)) <|
  ok_c (sn_iconst (v := (-1)) (show decode cX8_firstYearWith 37 = .ok (.iconst (-1), 1) by decide +kernel) (by decide +kernel)) <|
  ok_n
def uX8_firstYearWith : gCT := [(23, YX8_has, 2, none)]
set_option maxRecDepth 100000 in
theorem ocX8_firstYearWith : gOkC YX8_firstYearWith uX8_firstYearWith := oc_c (gEdge_S cal_X8_has (show decode cX8_firstYearWith 23 = .ok (.invokestatic 187, 3) by decide +kernel) wd_4_29 wd_3_119) <|
  oc_n
theorem reX8_firstYearWith : ∀ pc ∈ [30, 38], decode cX8_firstYearWith pc = .ok (.ireturn, 1) := by decide +kernel
def tX8_refusalOfGifts : List (Nat × gStp) := [(0, i_aload 1 1), (1, i_ifnull 15 4), (4, i_aload 0 5), (5, i_getT 8 0 8), (8, i_iload 2 9), (12, i_if_ne 18 15), (15, i_push (.int (-2)) 17), (18, i_aload 1 19), (22, i_if_ne 28 25), (25, i_push (.int (-6)) 27), (28, i_aload 1 29), (29, i_getI 4 2 32), (32, i_aload 0 33), (33, i_getT 8 0 36), (36, i_getI 7 5 39), (39, i_ic_ne 46 42), (42, i_push (.int 0) 43), (43, i_goto 48), (46, i_push (.int (-2)) 48)]
set_option maxRecDepth 100000 in
theorem okX8_refusalOfGifts : gOk YX8_refusalOfGifts tX8_refusalOfGifts := ok_c (sn_aload_n (show decode cX8_refusalOfGifts 0 = .ok (.aload_n 1, 1) by decide +kernel) rfl) <|
  ok_c (sn_ifnull (show decode cX8_refusalOfGifts 1 = .ok (.ifnull 14, 3) by decide +kernel) (by decide)) <|
  ok_c (sn_aload_n (show decode cX8_refusalOfGifts 4 = .ok (.aload_n 0, 1) by decide +kernel) rfl) <|
  ok_c (sn_getT (j := 6) (fun _ _ => rfl) (sn_get ck_8 (by decide) (show decode cX8_refusalOfGifts 5 = .ok (.getfield 51, 3) by decide +kernel) wd_2_130)) <|
  ok_c (sn_iload_n (show decode cX8_refusalOfGifts 8 = .ok (.iload_n 2, 1) by decide +kernel) rfl) <|
  ok_c (sn_if_ne (show decode cX8_refusalOfGifts 12 = .ok (.ifCond .ne 6, 3) by decide +kernel) (by decide)) <|
  ok_c (sn_bipush (v := (-2)) (show decode cX8_refusalOfGifts 15 = .ok (.bipush (-2), 2) by decide +kernel) (by decide +kernel)) <|
  ok_c (sn_aload_n (show decode cX8_refusalOfGifts 18 = .ok (.aload_n 1, 1) by decide +kernel) rfl) <|
  ok_c (sn_if_ne (show decode cX8_refusalOfGifts 22 = .ok (.ifCond .ne 6, 3) by decide +kernel) (by decide)) <|
  ok_c (sn_bipush (v := (-6)) (show decode cX8_refusalOfGifts 25 = .ok (.bipush (-6), 2) by decide +kernel) (by decide +kernel)) <|
  ok_c (sn_aload_n (show decode cX8_refusalOfGifts 28 = .ok (.aload_n 1, 1) by decide +kernel) rfl) <|
  ok_c (sn_getI (fun _ _ => rfl) (sn_get ck_4 (by decide) (show decode cX8_refusalOfGifts 29 = .ok (.getfield 371, 3) by decide +kernel) wd_2_2)) <|
  ok_c (sn_aload_n (show decode cX8_refusalOfGifts 32 = .ok (.aload_n 0, 1) by decide +kernel) rfl) <|
  ok_c (sn_getT (j := 6) (fun _ _ => rfl) (sn_get ck_8 (by decide) (show decode cX8_refusalOfGifts 33 = .ok (.getfield 51, 3) by decide +kernel) wd_2_130)) <|
  ok_c (sn_getI (fun _ _ => rfl) (sn_get ck_7 (by decide) (show decode cX8_refusalOfGifts 36 = .ok (.getfield 150, 3) by decide +kernel) wd_1_108)) <|
  ok_c (sn_ic_ne (show decode cX8_refusalOfGifts 39 = .ok (.if_icmp .ne 7, 3) by decide +kernel) (by decide)) <|
  ok_c (sn_iconst (v := 0) (show decode cX8_refusalOfGifts 42 = .ok (.iconst 0, 1) by decide +kernel) (by decide +kernel)) <|
  ok_c (sn_goto (show decode cX8_refusalOfGifts 43 = .ok (.goto 5, 3) by decide +kernel) (by decide)) <|
  ok_c (sn_bipush (v := (-2)) (show decode cX8_refusalOfGifts 46 = .ok (.bipush (-2), 2) by decide +kernel) (by decide +kernel)) <|
  ok_n
def uX8_refusalOfGifts : gCT := [(9, YX7_hasDoor, 2, some 7), (19, YX4_isThere, 1, some 4)]
set_option maxRecDepth 100000 in
theorem ocX8_refusalOfGifts : gOkC YX8_refusalOfGifts uX8_refusalOfGifts := oc_c (gEdge_V cal_X7_hasDoor ck_7 rfl (show decode cX8_refusalOfGifts 9 = .ok (.invokevirtual 109, 3) by decide +kernel) wd_3_90 wd_3_91 wd_3_92) <|
  oc_c (gEdge_V cal_X4_isThere ck_4 rfl (show decode cX8_refusalOfGifts 19 = .ok (.invokevirtual 368, 3) by decide +kernel) wd_4_152 wd_4_153 wd_4_154) <|
  oc_n
theorem reX8_refusalOfGifts : ∀ pc ∈ [17, 27, 48], decode cX8_refusalOfGifts pc = .ok (.ireturn, 1) := by decide +kernel
def tX8_refusalOfSightings : List (Nat × gStp) := [(0, i_aload 1 1), (1, i_ifnull 14 4), (4, i_aload 0 5), (5, i_getT 8 0 8), (11, i_if_ne 17 14), (14, i_push (.int (-2)) 16), (17, i_aload 1 18), (21, i_if_ne 27 24), (24, i_push (.int (-6)) 26), (27, i_aload 0 28), (28, i_getT 8 0 31), (31, i_aload 1 32), (35, i_if_eq 42 38), (38, i_push (.int 0) 39), (39, i_goto 44), (42, i_push (.int (-2)) 44)]
set_option maxRecDepth 100000 in
theorem okX8_refusalOfSightings : gOk YX8_refusalOfSightings tX8_refusalOfSightings := ok_c (sn_aload_n (show decode cX8_refusalOfSightings 0 = .ok (.aload_n 1, 1) by decide +kernel) rfl) <|
  ok_c (sn_ifnull (show decode cX8_refusalOfSightings 1 = .ok (.ifnull 13, 3) by decide +kernel) (by decide)) <|
  ok_c (sn_aload_n (show decode cX8_refusalOfSightings 4 = .ok (.aload_n 0, 1) by decide +kernel) rfl) <|
  ok_c (sn_getT (j := 6) (fun _ _ => rfl) (sn_get ck_8 (by decide) (show decode cX8_refusalOfSightings 5 = .ok (.getfield 51, 3) by decide +kernel) wd_2_130)) <|
  ok_c (sn_if_ne (show decode cX8_refusalOfSightings 11 = .ok (.ifCond .ne 6, 3) by decide +kernel) (by decide)) <|
  ok_c (sn_bipush (v := (-2)) (show decode cX8_refusalOfSightings 14 = .ok (.bipush (-2), 2) by decide +kernel) (by decide +kernel)) <|
  ok_c (sn_aload_n (show decode cX8_refusalOfSightings 17 = .ok (.aload_n 1, 1) by decide +kernel) rfl) <|
  ok_c (sn_if_ne (show decode cX8_refusalOfSightings 21 = .ok (.ifCond .ne 6, 3) by decide +kernel) (by decide)) <|
  ok_c (sn_bipush (v := (-6)) (show decode cX8_refusalOfSightings 24 = .ok (.bipush (-6), 2) by decide +kernel) (by decide +kernel)) <|
  ok_c (sn_aload_n (show decode cX8_refusalOfSightings 27 = .ok (.aload_n 0, 1) by decide +kernel) rfl) <|
  ok_c (sn_getT (j := 6) (fun _ _ => rfl) (sn_get ck_8 (by decide) (show decode cX8_refusalOfSightings 28 = .ok (.getfield 51, 3) by decide +kernel) wd_2_130)) <|
  ok_c (sn_aload_n (show decode cX8_refusalOfSightings 31 = .ok (.aload_n 1, 1) by decide +kernel) rfl) <|
  ok_c (sn_if_eq (show decode cX8_refusalOfSightings 35 = .ok (.ifCond .eq 7, 3) by decide +kernel) (by decide)) <|
  ok_c (sn_iconst (v := 0) (show decode cX8_refusalOfSightings 38 = .ok (.iconst 0, 1) by decide +kernel) (by decide +kernel)) <|
  ok_c (sn_goto (show decode cX8_refusalOfSightings 39 = .ok (.goto 5, 3) by decide +kernel) (by decide)) <|
  ok_c (sn_bipush (v := (-2)) (show decode cX8_refusalOfSightings 42 = .ok (.bipush (-2), 2) by decide +kernel) (by decide +kernel)) <|
  ok_n
def uX8_refusalOfSightings : gCT := [(8, YX7_isTold, 1, some 7), (18, YX4_isThere, 1, some 4), (32, YX3_canRead, 2, none)]
set_option maxRecDepth 100000 in
theorem ocX8_refusalOfSightings : gOkC YX8_refusalOfSightings uX8_refusalOfSightings := oc_c (gEdge_V cal_X7_isTold ck_7 rfl (show decode cX8_refusalOfSightings 8 = .ok (.invokevirtual 190, 3) by decide +kernel) wd_4_59 wd_4_60 wd_4_61) <|
  oc_c (gEdge_V cal_X4_isThere ck_4 rfl (show decode cX8_refusalOfSightings 18 = .ok (.invokevirtual 368, 3) by decide +kernel) wd_4_152 wd_4_153 wd_4_154) <|
  oc_c (gEdge_S cal_X3_canRead (show decode cX8_refusalOfSightings 32 = .ok (.invokestatic 392, 3) by decide +kernel) wd_4_230 wd_4_231) <|
  oc_n
theorem reX8_refusalOfSightings : ∀ pc ∈ [16, 26, 44], decode cX8_refusalOfSightings pc = .ok (.ireturn, 1) := by decide +kernel
def tX8_chew : List (Nat × gStp) := [(0, i_aload 0 1), (1, i_iload 1 2), (5, i_astore 2 6), (6, i_aload 0 7), (7, i_aload 2 8), (11, i_istore 3 12), (12, i_aload 2 13), (13, i_ifnull 36 16), (16, i_iload 3 17), (17, i_if_ne 36 20), (20, i_aload 0 21), (21, i_getC 8 64 24), (24, i_aload 0 25), (25, i_getT 8 0 28), (28, i_aload 0 29), (29, i_getC 8 14 32), (32, i_aload 2 33), (36, i_iload 3 37)]
set_option maxRecDepth 100000 in
theorem okX8_chew : gOk YX8_chew tX8_chew := ok_c (sn_aload_n (show decode cX8_chew 0 = .ok (.aload_n 0, 1) by decide +kernel) rfl) <|
  ok_c (sn_iload_n (show decode cX8_chew 1 = .ok (.iload_n 1, 1) by decide +kernel) rfl) <|
  ok_c (sn_astore_n (show decode cX8_chew 5 = .ok (.astore_n 2, 1) by decide +kernel) rfl (by decide)) <|
  ok_c (sn_aload_n (show decode cX8_chew 6 = .ok (.aload_n 0, 1) by decide +kernel) rfl) <|
  ok_c (sn_aload_n (show decode cX8_chew 7 = .ok (.aload_n 2, 1) by decide +kernel) rfl) <|
  ok_c (sn_istore_n (show decode cX8_chew 11 = .ok (.istore_n 3, 1) by decide +kernel) rfl (by decide)) <|
  ok_c (sn_aload_n (show decode cX8_chew 12 = .ok (.aload_n 2, 1) by decide +kernel) rfl) <|
  ok_c (sn_ifnull (show decode cX8_chew 13 = .ok (.ifnull 23, 3) by decide +kernel) (by decide)) <|
  ok_c (sn_iload_n (show decode cX8_chew 16 = .ok (.iload_n 3, 1) by decide +kernel) rfl) <|
  ok_c (sn_if_ne (show decode cX8_chew 17 = .ok (.ifCond .ne 19, 3) by decide +kernel) (by decide)) <|
  ok_c (sn_aload_n (show decode cX8_chew 20 = .ok (.aload_n 0, 1) by decide +kernel) rfl) <|
  ok_c (sn_getC (j := 5) (fun _ _ => rfl) (sn_get ck_8 (by decide) (show decode cX8_chew 21 = .ok (.getfield 47, 3) by decide +kernel) wd_2_129)) <|
  ok_c (sn_aload_n (show decode cX8_chew 24 = .ok (.aload_n 0, 1) by decide +kernel) rfl) <|
  ok_c (sn_getT (j := 6) (fun _ _ => rfl) (sn_get ck_8 (by decide) (show decode cX8_chew 25 = .ok (.getfield 51, 3) by decide +kernel) wd_2_130)) <|
  ok_c (sn_aload_n (show decode cX8_chew 28 = .ok (.aload_n 0, 1) by decide +kernel) rfl) <|
  ok_c (sn_getC (j := 3) (fun _ _ => rfl) (sn_get ck_8 (by decide) (show decode cX8_chew 29 = .ok (.getfield 33, 3) by decide +kernel) wd_2_127)) <|
  ok_c (sn_aload_n (show decode cX8_chew 32 = .ok (.aload_n 2, 1) by decide +kernel) rfl) <|
  ok_c (sn_iload_n (show decode cX8_chew 36 = .ok (.iload_n 3, 1) by decide +kernel) rfl) <|
  ok_n
def uX8_chew : gCT := [(2, YX8_slotAt, 2, some 8), (8, YX8_refusalOfSightings, 2, some 8), (33, YX3_countSets, 4, some 3)]
set_option maxRecDepth 100000 in
theorem ocX8_chew : gOkC YX8_chew uX8_chew := oc_c (gEdge_V cal_X8_slotAt ck_8 rfl (show decode cX8_chew 2 = .ok (.invokevirtual 226, 3) by decide +kernel) wd_4_144 wd_4_146 wp_2_11) <|
  oc_c (gEdge_V cal_X8_refusalOfSightings ck_8 rfl (show decode cX8_chew 8 = .ok (.invokevirtual 291, 3) by decide +kernel) wd_4_226 wd_4_228 wp_3_2) <|
  oc_c (gEdge_V cal_X3_countSets ck_3 rfl (show decode cX8_chew 33 = .ok (.invokevirtual 396, 3) by decide +kernel) wd_4_236 wd_4_237 wd_4_238) <|
  oc_n
theorem reX8_chew : ∀ pc ∈ [37], decode cX8_chew pc = .ok (.ireturn, 1) := by decide +kernel
def tX8_cutsApart : List (Nat × gStp) := [(0, i_aload 0 1), (1, i_getC 8 14 4), (7, i_aload 0 8), (8, i_getC 8 14 11), (11, i_iload 1 12), (12, i_putI 2 0 15), (15, i_aload 0 16), (16, i_getC 8 14 19), (19, i_aload 0 20), (20, i_getT 8 0 23), (23, i_push (.int 1) 24), (27, i_aload 0 28), (28, i_getC 8 14 31), (31, i_getC 2 48 34), (34, i_push (.int 0) 35), (35, i_aald7 36), (36, i_iload 2 37), (37, i_iald 38), (38, i_iload 3 39), (42, i_if_ne 49 45), (45, i_push (.int 1) 46), (46, i_goto 50), (49, i_push (.int 0) 50)]
set_option maxRecDepth 100000 in
theorem okX8_cutsApart : gOk YX8_cutsApart tX8_cutsApart := ok_c (sn_aload_n (show decode cX8_cutsApart 0 = .ok (.aload_n 0, 1) by decide +kernel) rfl) <|
  ok_c (sn_getC (j := 3) (fun _ _ => rfl) (sn_get ck_8 (by decide) (show decode cX8_cutsApart 1 = .ok (.getfield 33, 3) by decide +kernel) wd_2_127)) <|
  ok_c (sn_aload_n (show decode cX8_cutsApart 7 = .ok (.aload_n 0, 1) by decide +kernel) rfl) <|
  ok_c (sn_getC (j := 3) (fun _ _ => rfl) (sn_get ck_8 (by decide) (show decode cX8_cutsApart 8 = .ok (.getfield 33, 3) by decide +kernel) wd_2_127)) <|
  ok_c (sn_iload_n (show decode cX8_cutsApart 11 = .ok (.iload_n 1, 1) by decide +kernel) rfl) <|
  ok_c (sn_putI ck_2 (by decide) rfl rfl (show decode cX8_cutsApart 12 = .ok (.putfield 400, 3) by decide +kernel) wd_2_24) <|
  ok_c (sn_aload_n (show decode cX8_cutsApart 15 = .ok (.aload_n 0, 1) by decide +kernel) rfl) <|
  ok_c (sn_getC (j := 3) (fun _ _ => rfl) (sn_get ck_8 (by decide) (show decode cX8_cutsApart 16 = .ok (.getfield 33, 3) by decide +kernel) wd_2_127)) <|
  ok_c (sn_aload_n (show decode cX8_cutsApart 19 = .ok (.aload_n 0, 1) by decide +kernel) rfl) <|
  ok_c (sn_getT (j := 6) (fun _ _ => rfl) (sn_get ck_8 (by decide) (show decode cX8_cutsApart 20 = .ok (.getfield 51, 3) by decide +kernel) wd_2_130)) <|
  ok_c (sn_iconst (v := 1) (show decode cX8_cutsApart 23 = .ok (.iconst 1, 1) by decide +kernel) (by decide +kernel)) <|
  ok_c (sn_aload_n (show decode cX8_cutsApart 27 = .ok (.aload_n 0, 1) by decide +kernel) rfl) <|
  ok_c (sn_getC (j := 3) (fun _ _ => rfl) (sn_get ck_8 (by decide) (show decode cX8_cutsApart 28 = .ok (.getfield 33, 3) by decide +kernel) wd_2_127)) <|
  ok_c (sn_getC (j := 15) (fun _ _ => rfl) (sn_get ck_2 (by decide) (show decode cX8_cutsApart 31 = .ok (.getfield 132, 3) by decide +kernel) wd_2_49)) <|
  ok_c (sn_iconst (v := 0) (show decode cX8_cutsApart 34 = .ok (.iconst 0, 1) by decide +kernel) (by decide +kernel)) <|
  ok_c (sn_aald7 (show decode cX8_cutsApart 35 = .ok (.aaload, 1) by decide +kernel)) <|
  ok_c (sn_iload_n (show decode cX8_cutsApart 36 = .ok (.iload_n 2, 1) by decide +kernel) rfl) <|
  ok_c (sn_iald (show decode cX8_cutsApart 37 = .ok (.iaload, 1) by decide +kernel)) <|
  ok_c (sn_iload_n (show decode cX8_cutsApart 38 = .ok (.iload_n 3, 1) by decide +kernel) rfl) <|
  ok_c (sn_if_ne (show decode cX8_cutsApart 42 = .ok (.ifCond .ne 7, 3) by decide +kernel) (by decide)) <|
  ok_c (sn_iconst (v := 1) (show decode cX8_cutsApart 45 = .ok (.iconst 1, 1) by decide +kernel) (by decide +kernel)) <|
  ok_c (sn_goto (show decode cX8_cutsApart 46 = .ok (.goto 4, 3) by decide +kernel) (by decide)) <|
  ok_c (sn_iconst (v := 0) (show decode cX8_cutsApart 49 = .ok (.iconst 0, 1) by decide +kernel) (by decide +kernel)) <|
  ok_n
def uX8_cutsApart : gCT := [(4, YX2_supposeNothing, 1, some 2), (24, YX2_live, 3, some 2), (39, YX8_has, 2, none)]
set_option maxRecDepth 100000 in
theorem ocX8_cutsApart : gOkC YX8_cutsApart uX8_cutsApart := oc_c (gEdge_V cal_X2_supposeNothing ck_2 rfl (show decode cX8_cutsApart 4 = .ok (.invokevirtual 260, 3) by decide +kernel) wd_3_106 wd_3_107 wd_3_108) <|
  oc_c (gEdge_V cal_X2_live ck_2 rfl (show decode cX8_cutsApart 24 = .ok (.invokevirtual 266, 3) by decide +kernel) wd_3_110 wd_3_111 wd_3_112) <|
  oc_c (gEdge_S cal_X8_has (show decode cX8_cutsApart 39 = .ok (.invokestatic 187, 3) by decide +kernel) wd_4_29 wd_3_119) <|
  oc_n
theorem reX8_cutsApart : ∀ pc ∈ [50], decode cX8_cutsApart pc = .ok (.ireturn, 1) := by decide +kernel
def tX8_fewestCut : List (Nat × gStp) := [(0, i_push (.int (-1)) 1), (1, i_istore 3 2), (2, i_push (.int 0) 3), (3, i_istore 4 5), (5, i_iload 4 7), (7, i_push (.int 1) 8), (8, i_aload 0 9), (9, i_getT 8 0 12), (12, i_getI 7 6 15), (15, i_ii (fun x y => x <<< (y &&& 31)) 16), (16, i_ic_ge 68 19), (19, i_iload 3 20), (20, i_push (.int (-1)) 21), (21, i_ic_eq 36 24), (24, i_iload 4 26), (29, i_iload 3 30), (33, i_ic_ge 40 36), (36, i_push (.int 1) 37), (37, i_goto 41), (40, i_push (.int 0) 41), (41, i_istore 5 43), (43, i_iload 5 45), (45, i_if_eq 62 48), (48, i_aload 0 49), (49, i_iload 4 51), (51, i_iload 1 52), (52, i_iload 2 53), (56, i_if_eq 62 59), (59, i_iload 4 61), (61, i_istore 3 62), (62, i_iinc 4 1 65), (65, i_goto 5), (68, i_iload 3 69)]
set_option maxRecDepth 100000 in
theorem okX8_fewestCut : gOk YX8_fewestCut tX8_fewestCut := ok_c (sn_iconst (v := (-1)) (show decode cX8_fewestCut 0 = .ok (.iconst (-1), 1) by decide +kernel) (by decide +kernel)) <|
  ok_c (sn_istore_n (show decode cX8_fewestCut 1 = .ok (.istore_n 3, 1) by decide +kernel) rfl (by decide)) <|
  ok_c (sn_iconst (v := 0) (show decode cX8_fewestCut 2 = .ok (.iconst 0, 1) by decide +kernel) (by decide +kernel)) <|
  ok_c (sn_istore (show decode cX8_fewestCut 3 = .ok (.istore 4, 2) by decide +kernel) (by decide)) <|
  ok_c (sn_iload (show decode cX8_fewestCut 5 = .ok (.iload 4, 2) by decide +kernel)) <|
  ok_c (sn_iconst (v := 1) (show decode cX8_fewestCut 7 = .ok (.iconst 1, 1) by decide +kernel) (by decide +kernel)) <|
  ok_c (sn_aload_n (show decode cX8_fewestCut 8 = .ok (.aload_n 0, 1) by decide +kernel) rfl) <|
  ok_c (sn_getT (j := 6) (fun _ _ => rfl) (sn_get ck_8 (by decide) (show decode cX8_fewestCut 9 = .ok (.getfield 51, 3) by decide +kernel) wd_2_130)) <|
  ok_c (sn_getI (fun _ _ => rfl) (sn_get ck_7 (by decide) (show decode cX8_fewestCut 12 = .ok (.getfield 248, 3) by decide +kernel) wd_1_113)) <|
  ok_c (sn_ishl (show decode cX8_fewestCut 15 = .ok (.ishl, 1) by decide +kernel)) <|
  ok_c (sn_ic_ge (show decode cX8_fewestCut 16 = .ok (.if_icmp .ge 52, 3) by decide +kernel) (by decide)) <|
  ok_c (sn_iload_n (show decode cX8_fewestCut 19 = .ok (.iload_n 3, 1) by decide +kernel) rfl) <|
  ok_c (sn_iconst (v := (-1)) (show decode cX8_fewestCut 20 = .ok (.iconst (-1), 1) by decide +kernel) (by decide +kernel)) <|
  ok_c (sn_ic_eq (show decode cX8_fewestCut 21 = .ok (.if_icmp .eq 15, 3) by decide +kernel) (by decide)) <|
  ok_c (sn_iload (show decode cX8_fewestCut 24 = .ok (.iload 4, 2) by decide +kernel)) <|
  ok_c (sn_iload_n (show decode cX8_fewestCut 29 = .ok (.iload_n 3, 1) by decide +kernel) rfl) <|
  ok_c (sn_ic_ge (show decode cX8_fewestCut 33 = .ok (.if_icmp .ge 7, 3) by decide +kernel) (by decide)) <|
  ok_c (sn_iconst (v := 1) (show decode cX8_fewestCut 36 = .ok (.iconst 1, 1) by decide +kernel) (by decide +kernel)) <|
  ok_c (sn_goto (show decode cX8_fewestCut 37 = .ok (.goto 4, 3) by decide +kernel) (by decide)) <|
  ok_c (sn_iconst (v := 0) (show decode cX8_fewestCut 40 = .ok (.iconst 0, 1) by decide +kernel) (by decide +kernel)) <|
  ok_c (sn_istore (show decode cX8_fewestCut 41 = .ok (.istore 5, 2) by decide +kernel) (by decide)) <|
  ok_c (sn_iload (show decode cX8_fewestCut 43 = .ok (.iload 5, 2) by decide +kernel)) <|
  ok_c (sn_if_eq (show decode cX8_fewestCut 45 = .ok (.ifCond .eq 17, 3) by decide +kernel) (by decide)) <|
  ok_c (sn_aload_n (show decode cX8_fewestCut 48 = .ok (.aload_n 0, 1) by decide +kernel) rfl) <|
  ok_c (sn_iload (show decode cX8_fewestCut 49 = .ok (.iload 4, 2) by decide +kernel)) <|
  ok_c (sn_iload_n (show decode cX8_fewestCut 51 = .ok (.iload_n 1, 1) by decide +kernel) rfl) <|
  ok_c (sn_iload_n (show decode cX8_fewestCut 52 = .ok (.iload_n 2, 1) by decide +kernel) rfl) <|
  ok_c (sn_if_eq (show decode cX8_fewestCut 56 = .ok (.ifCond .eq 6, 3) by decide +kernel) (by decide)) <|
  ok_c (sn_iload (show decode cX8_fewestCut 59 = .ok (.iload 4, 2) by decide +kernel)) <|
  ok_c (sn_istore_n (show decode cX8_fewestCut 61 = .ok (.istore_n 3, 1) by decide +kernel) rfl (by decide)) <|
  ok_c (sn_iinc (show decode cX8_fewestCut 62 = .ok (.iinc 4 1, 3) by decide +kernel) (by decide) (by decide +kernel)) <|
  ok_c (sn_goto (show decode cX8_fewestCut 65 = .ok (.goto (-60), 3) by decide +kernel) (by decide)) <|
  ok_c (sn_iload_n (show decode cX8_fewestCut 68 = .ok (.iload_n 3, 1) by decide +kernel) rfl) <|
  ok_n
def uX8_fewestCut : gCT := [(26, YJ6_bitCount_0f7a4, 1, none), (30, YJ6_bitCount_0f7a4, 1, none), (53, YX8_cutsApart, 4, some 8)]
set_option maxRecDepth 100000 in
theorem ocX8_fewestCut : gOkC YX8_fewestCut uX8_fewestCut := oc_c (gEdge_S cal_J6_bitCount_0f7a4 (show decode cX8_fewestCut 26 = .ok (.invokestatic 153, 3) by decide +kernel) wd_4_7 wd_3_229) <|
  oc_c (gEdge_S cal_J6_bitCount_0f7a4 (show decode cX8_fewestCut 30 = .ok (.invokestatic 153, 3) by decide +kernel) wd_4_7 wd_3_229) <|
  oc_c (gEdge_V cal_X8_cutsApart ck_8 rfl (show decode cX8_fewestCut 53 = .ok (.invokevirtual 254, 3) by decide +kernel) wd_4_182 wd_4_184 wp_2_14) <|
  oc_n
theorem reX8_fewestCut : ∀ pc ∈ [69], decode cX8_fewestCut pc = .ok (.ireturn, 1) := by decide +kernel
def tX8_staysWell : List (Nat × gStp) := [(0, i_aload 0 1), (1, i_getC 8 14 4), (7, i_aload 0 8), (8, i_getC 8 14 11), (11, i_iload 2 12), (12, i_putI 2 2 15), (15, i_aload 0 16), (16, i_getC 8 14 19), (19, i_aload 0 20), (20, i_getT 8 0 23), (23, i_aload 0 24), (24, i_getT 8 0 27), (27, i_getI 7 1 30), (33, i_aload 0 34), (34, i_getC 8 14 37), (37, i_getI 2 16 40), (40, i_iload 1 41), (44, i_if_ne 51 47), (47, i_push (.int 1) 48), (48, i_goto 52), (51, i_push (.int 0) 52)]
set_option maxRecDepth 100000 in
theorem okX8_staysWell : gOk YX8_staysWell tX8_staysWell := ok_c (sn_aload_n (show decode cX8_staysWell 0 = .ok (.aload_n 0, 1) by decide +kernel) rfl) <|
  ok_c (sn_getC (j := 3) (fun _ _ => rfl) (sn_get ck_8 (by decide) (show decode cX8_staysWell 1 = .ok (.getfield 33, 3) by decide +kernel) wd_2_127)) <|
  ok_c (sn_aload_n (show decode cX8_staysWell 7 = .ok (.aload_n 0, 1) by decide +kernel) rfl) <|
  ok_c (sn_getC (j := 3) (fun _ _ => rfl) (sn_get ck_8 (by decide) (show decode cX8_staysWell 8 = .ok (.getfield 33, 3) by decide +kernel) wd_2_127)) <|
  ok_c (sn_iload_n (show decode cX8_staysWell 11 = .ok (.iload_n 2, 1) by decide +kernel) rfl) <|
  ok_c (sn_putI ck_2 (by decide) rfl rfl (show decode cX8_staysWell 12 = .ok (.putfield 403, 3) by decide +kernel) wd_2_29) <|
  ok_c (sn_aload_n (show decode cX8_staysWell 15 = .ok (.aload_n 0, 1) by decide +kernel) rfl) <|
  ok_c (sn_getC (j := 3) (fun _ _ => rfl) (sn_get ck_8 (by decide) (show decode cX8_staysWell 16 = .ok (.getfield 33, 3) by decide +kernel) wd_2_127)) <|
  ok_c (sn_aload_n (show decode cX8_staysWell 19 = .ok (.aload_n 0, 1) by decide +kernel) rfl) <|
  ok_c (sn_getT (j := 6) (fun _ _ => rfl) (sn_get ck_8 (by decide) (show decode cX8_staysWell 20 = .ok (.getfield 51, 3) by decide +kernel) wd_2_130)) <|
  ok_c (sn_aload_n (show decode cX8_staysWell 23 = .ok (.aload_n 0, 1) by decide +kernel) rfl) <|
  ok_c (sn_getT (j := 6) (fun _ _ => rfl) (sn_get ck_8 (by decide) (show decode cX8_staysWell 24 = .ok (.getfield 51, 3) by decide +kernel) wd_2_130)) <|
  ok_c (sn_getI (fun _ _ => rfl) (sn_get ck_7 (by decide) (show decode cX8_staysWell 27 = .ok (.getfield 184, 3) by decide +kernel) wd_1_90)) <|
  ok_c (sn_aload_n (show decode cX8_staysWell 33 = .ok (.aload_n 0, 1) by decide +kernel) rfl) <|
  ok_c (sn_getC (j := 3) (fun _ _ => rfl) (sn_get ck_8 (by decide) (show decode cX8_staysWell 34 = .ok (.getfield 33, 3) by decide +kernel) wd_2_127)) <|
  ok_c (sn_getI (fun _ _ => rfl) (sn_get ck_2 (by decide) (show decode cX8_staysWell 37 = .ok (.getfield 269, 3) by decide +kernel) wd_2_51)) <|
  ok_c (sn_iload_n (show decode cX8_staysWell 40 = .ok (.iload_n 1, 1) by decide +kernel) rfl) <|
  ok_c (sn_if_ne (show decode cX8_staysWell 44 = .ok (.ifCond .ne 7, 3) by decide +kernel) (by decide)) <|
  ok_c (sn_iconst (v := 1) (show decode cX8_staysWell 47 = .ok (.iconst 1, 1) by decide +kernel) (by decide +kernel)) <|
  ok_c (sn_goto (show decode cX8_staysWell 48 = .ok (.goto 4, 3) by decide +kernel) (by decide)) <|
  ok_c (sn_iconst (v := 0) (show decode cX8_staysWell 51 = .ok (.iconst 0, 1) by decide +kernel) (by decide +kernel)) <|
  ok_n
def uX8_staysWell : gCT := [(4, YX2_supposeNothing, 1, some 2), (30, YX2_live, 3, some 2), (41, YX8_has, 2, none)]
set_option maxRecDepth 100000 in
theorem ocX8_staysWell : gOkC YX8_staysWell uX8_staysWell := oc_c (gEdge_V cal_X2_supposeNothing ck_2 rfl (show decode cX8_staysWell 4 = .ok (.invokevirtual 260, 3) by decide +kernel) wd_3_106 wd_3_107 wd_3_108) <|
  oc_c (gEdge_V cal_X2_live ck_2 rfl (show decode cX8_staysWell 30 = .ok (.invokevirtual 266, 3) by decide +kernel) wd_3_110 wd_3_111 wd_3_112) <|
  oc_c (gEdge_S cal_X8_has (show decode cX8_staysWell 41 = .ok (.invokestatic 187, 3) by decide +kernel) wd_4_29 wd_3_119) <|
  oc_n
theorem reX8_staysWell : ∀ pc ∈ [52], decode cX8_staysWell pc = .ok (.ireturn, 1) := by decide +kernel
def tX8_fewestGuards : List (Nat × gStp) := [(0, i_push (.int (-1)) 1), (1, i_istore 2 2), (2, i_push (.int 0) 3), (3, i_istore 3 4), (4, i_iload 3 5), (5, i_push (.int 1) 6), (6, i_aload 0 7), (7, i_getT 8 0 10), (10, i_getI 7 5 13), (13, i_ii (fun x y => x <<< (y &&& 31)) 14), (14, i_ic_ge 70 17), (17, i_iload 2 18), (18, i_push (.int (-1)) 19), (19, i_ic_eq 33 22), (22, i_iload 3 23), (26, i_iload 2 27), (30, i_ic_ge 37 33), (33, i_push (.int 1) 34), (34, i_goto 38), (37, i_push (.int 0) 38), (38, i_istore 4 40), (40, i_iload 4 42), (42, i_if_eq 64 45), (45, i_iload 3 46), (46, i_iload 1 47), (50, i_if_ne 64 53), (53, i_aload 0 54), (54, i_iload 1 55), (55, i_iload 3 56), (59, i_if_eq 64 62), (62, i_iload 3 63), (63, i_istore 2 64), (64, i_iinc 3 1 67), (67, i_goto 4), (70, i_iload 2 71)]
set_option maxRecDepth 100000 in
theorem okX8_fewestGuards : gOk YX8_fewestGuards tX8_fewestGuards := ok_c (sn_iconst (v := (-1)) (show decode cX8_fewestGuards 0 = .ok (.iconst (-1), 1) by decide +kernel) (by decide +kernel)) <|
  ok_c (sn_istore_n (show decode cX8_fewestGuards 1 = .ok (.istore_n 2, 1) by decide +kernel) rfl (by decide)) <|
  ok_c (sn_iconst (v := 0) (show decode cX8_fewestGuards 2 = .ok (.iconst 0, 1) by decide +kernel) (by decide +kernel)) <|
  ok_c (sn_istore_n (show decode cX8_fewestGuards 3 = .ok (.istore_n 3, 1) by decide +kernel) rfl (by decide)) <|
  ok_c (sn_iload_n (show decode cX8_fewestGuards 4 = .ok (.iload_n 3, 1) by decide +kernel) rfl) <|
  ok_c (sn_iconst (v := 1) (show decode cX8_fewestGuards 5 = .ok (.iconst 1, 1) by decide +kernel) (by decide +kernel)) <|
  ok_c (sn_aload_n (show decode cX8_fewestGuards 6 = .ok (.aload_n 0, 1) by decide +kernel) rfl) <|
  ok_c (sn_getT (j := 6) (fun _ _ => rfl) (sn_get ck_8 (by decide) (show decode cX8_fewestGuards 7 = .ok (.getfield 51, 3) by decide +kernel) wd_2_130)) <|
  ok_c (sn_getI (fun _ _ => rfl) (sn_get ck_7 (by decide) (show decode cX8_fewestGuards 10 = .ok (.getfield 150, 3) by decide +kernel) wd_1_108)) <|
  ok_c (sn_ishl (show decode cX8_fewestGuards 13 = .ok (.ishl, 1) by decide +kernel)) <|
  ok_c (sn_ic_ge (show decode cX8_fewestGuards 14 = .ok (.if_icmp .ge 56, 3) by decide +kernel) (by decide)) <|
  ok_c (sn_iload_n (show decode cX8_fewestGuards 17 = .ok (.iload_n 2, 1) by decide +kernel) rfl) <|
  ok_c (sn_iconst (v := (-1)) (show decode cX8_fewestGuards 18 = .ok (.iconst (-1), 1) by decide +kernel) (by decide +kernel)) <|
  ok_c (sn_ic_eq (show decode cX8_fewestGuards 19 = .ok (.if_icmp .eq 14, 3) by decide +kernel) (by decide)) <|
  ok_c (sn_iload_n (show decode cX8_fewestGuards 22 = .ok (.iload_n 3, 1) by decide +kernel) rfl) <|
  ok_c (sn_iload_n (show decode cX8_fewestGuards 26 = .ok (.iload_n 2, 1) by decide +kernel) rfl) <|
  ok_c (sn_ic_ge (show decode cX8_fewestGuards 30 = .ok (.if_icmp .ge 7, 3) by decide +kernel) (by decide)) <|
  ok_c (sn_iconst (v := 1) (show decode cX8_fewestGuards 33 = .ok (.iconst 1, 1) by decide +kernel) (by decide +kernel)) <|
  ok_c (sn_goto (show decode cX8_fewestGuards 34 = .ok (.goto 4, 3) by decide +kernel) (by decide)) <|
  ok_c (sn_iconst (v := 0) (show decode cX8_fewestGuards 37 = .ok (.iconst 0, 1) by decide +kernel) (by decide +kernel)) <|
  ok_c (sn_istore (show decode cX8_fewestGuards 38 = .ok (.istore 4, 2) by decide +kernel) (by decide)) <|
  ok_c (sn_iload (show decode cX8_fewestGuards 40 = .ok (.iload 4, 2) by decide +kernel)) <|
  ok_c (sn_if_eq (show decode cX8_fewestGuards 42 = .ok (.ifCond .eq 22, 3) by decide +kernel) (by decide)) <|
  ok_c (sn_iload_n (show decode cX8_fewestGuards 45 = .ok (.iload_n 3, 1) by decide +kernel) rfl) <|
  ok_c (sn_iload_n (show decode cX8_fewestGuards 46 = .ok (.iload_n 1, 1) by decide +kernel) rfl) <|
  ok_c (sn_if_ne (show decode cX8_fewestGuards 50 = .ok (.ifCond .ne 14, 3) by decide +kernel) (by decide)) <|
  ok_c (sn_aload_n (show decode cX8_fewestGuards 53 = .ok (.aload_n 0, 1) by decide +kernel) rfl) <|
  ok_c (sn_iload_n (show decode cX8_fewestGuards 54 = .ok (.iload_n 1, 1) by decide +kernel) rfl) <|
  ok_c (sn_iload_n (show decode cX8_fewestGuards 55 = .ok (.iload_n 3, 1) by decide +kernel) rfl) <|
  ok_c (sn_if_eq (show decode cX8_fewestGuards 59 = .ok (.ifCond .eq 5, 3) by decide +kernel) (by decide)) <|
  ok_c (sn_iload_n (show decode cX8_fewestGuards 62 = .ok (.iload_n 3, 1) by decide +kernel) rfl) <|
  ok_c (sn_istore_n (show decode cX8_fewestGuards 63 = .ok (.istore_n 2, 1) by decide +kernel) rfl (by decide)) <|
  ok_c (sn_iinc (show decode cX8_fewestGuards 64 = .ok (.iinc 3 1, 3) by decide +kernel) (by decide) (by decide +kernel)) <|
  ok_c (sn_goto (show decode cX8_fewestGuards 67 = .ok (.goto (-63), 3) by decide +kernel) (by decide)) <|
  ok_c (sn_iload_n (show decode cX8_fewestGuards 70 = .ok (.iload_n 2, 1) by decide +kernel) rfl) <|
  ok_n
def uX8_fewestGuards : gCT := [(23, YJ6_bitCount_0f7a4, 1, none), (27, YJ6_bitCount_0f7a4, 1, none), (47, YX8_has, 2, none), (56, YX8_staysWell, 3, some 8)]
set_option maxRecDepth 100000 in
theorem ocX8_fewestGuards : gOkC YX8_fewestGuards uX8_fewestGuards := oc_c (gEdge_S cal_J6_bitCount_0f7a4 (show decode cX8_fewestGuards 23 = .ok (.invokestatic 153, 3) by decide +kernel) wd_4_7 wd_3_229) <|
  oc_c (gEdge_S cal_J6_bitCount_0f7a4 (show decode cX8_fewestGuards 27 = .ok (.invokestatic 153, 3) by decide +kernel) wd_4_7 wd_3_229) <|
  oc_c (gEdge_S cal_X8_has (show decode cX8_fewestGuards 47 = .ok (.invokestatic 187, 3) by decide +kernel) wd_4_29 wd_3_119) <|
  oc_c (gEdge_V cal_X8_staysWell ck_8 rfl (show decode cX8_fewestGuards 56 = .ok (.invokevirtual 406, 3) by decide +kernel) wd_4_206 wd_4_208 wp_3_0) <|
  oc_n
theorem reX8_fewestGuards : ∀ pc ∈ [71], decode cX8_fewestGuards pc = .ok (.ireturn, 1) := by decide +kernel
def tX8_lastWorth : List (Nat × gStp) := [(0, i_aload 0 1), (1, i_getT 8 0 4), (4, i_getI 7 1 7), (7, i_push (.int 1) 8), (8, i_ii (fun x y => x - y) 9), (9, i_istore 2 10), (10, i_aload 0 11), (11, i_getT 8 0 14), (14, i_iload 2 15), (18, i_if_eq 35 21), (21, i_aload 0 22), (22, i_getC 8 14 25), (25, i_getC 2 22 28), (28, i_iload 2 29), (29, i_aald7 30), (30, i_iload 1 31), (31, i_iald 32), (32, i_goto 36), (35, i_push (.int 0) 36)]
set_option maxRecDepth 100000 in
theorem okX8_lastWorth : gOk YX8_lastWorth tX8_lastWorth := ok_c (sn_aload_n (show decode cX8_lastWorth 0 = .ok (.aload_n 0, 1) by decide +kernel) rfl) <|
  ok_c (sn_getT (j := 6) (fun _ _ => rfl) (sn_get ck_8 (by decide) (show decode cX8_lastWorth 1 = .ok (.getfield 51, 3) by decide +kernel) wd_2_130)) <|
  ok_c (sn_getI (fun _ _ => rfl) (sn_get ck_7 (by decide) (show decode cX8_lastWorth 4 = .ok (.getfield 184, 3) by decide +kernel) wd_1_90)) <|
  ok_c (sn_iconst (v := 1) (show decode cX8_lastWorth 7 = .ok (.iconst 1, 1) by decide +kernel) (by decide +kernel)) <|
  ok_c (sn_isub (show decode cX8_lastWorth 8 = .ok (.isub, 1) by decide +kernel)) <|
  ok_c (sn_istore_n (show decode cX8_lastWorth 9 = .ok (.istore_n 2, 1) by decide +kernel) rfl (by decide)) <|
  ok_c (sn_aload_n (show decode cX8_lastWorth 10 = .ok (.aload_n 0, 1) by decide +kernel) rfl) <|
  ok_c (sn_getT (j := 6) (fun _ _ => rfl) (sn_get ck_8 (by decide) (show decode cX8_lastWorth 11 = .ok (.getfield 51, 3) by decide +kernel) wd_2_130)) <|
  ok_c (sn_iload_n (show decode cX8_lastWorth 14 = .ok (.iload_n 2, 1) by decide +kernel) rfl) <|
  ok_c (sn_if_eq (show decode cX8_lastWorth 18 = .ok (.ifCond .eq 17, 3) by decide +kernel) (by decide)) <|
  ok_c (sn_aload_n (show decode cX8_lastWorth 21 = .ok (.aload_n 0, 1) by decide +kernel) rfl) <|
  ok_c (sn_getC (j := 3) (fun _ _ => rfl) (sn_get ck_8 (by decide) (show decode cX8_lastWorth 22 = .ok (.getfield 33, 3) by decide +kernel) wd_2_127)) <|
  ok_c (sn_getC (j := 13) (fun _ _ => rfl) (sn_get ck_2 (by decide) (show decode cX8_lastWorth 25 = .ok (.getfield 176, 3) by decide +kernel) wd_2_46)) <|
  ok_c (sn_iload_n (show decode cX8_lastWorth 28 = .ok (.iload_n 2, 1) by decide +kernel) rfl) <|
  ok_c (sn_aald7 (show decode cX8_lastWorth 29 = .ok (.aaload, 1) by decide +kernel)) <|
  ok_c (sn_iload_n (show decode cX8_lastWorth 30 = .ok (.iload_n 1, 1) by decide +kernel) rfl) <|
  ok_c (sn_iald (show decode cX8_lastWorth 31 = .ok (.iaload, 1) by decide +kernel)) <|
  ok_c (sn_goto (show decode cX8_lastWorth 32 = .ok (.goto 4, 3) by decide +kernel) (by decide)) <|
  ok_c (sn_iconst (v := 0) (show decode cX8_lastWorth 35 = .ok (.iconst 0, 1) by decide +kernel) (by decide +kernel)) <|
  ok_n
def uX8_lastWorth : gCT := [(15, YX7_hasYear, 2, some 7)]
set_option maxRecDepth 100000 in
theorem ocX8_lastWorth : gOkC YX8_lastWorth uX8_lastWorth := oc_c (gEdge_V cal_X7_hasYear ck_7 rfl (show decode cX8_lastWorth 15 = .ok (.invokevirtual 115, 3) by decide +kernel) wd_3_98 wd_3_99 wd_3_100) <|
  oc_n
theorem reX8_lastWorth : ∀ pc ∈ [36], decode cX8_lastWorth pc = .ok (.ireturn, 1) := by decide +kernel
def tX8_payOf : List (Nat × gStp) := [(0, i_aload 0 1), (1, i_getC 8 14 4), (7, i_aload 0 8), (8, i_getC 8 14 11), (11, i_iload 3 12), (12, i_iload 1 13), (13, i_ii (fun x y => x <<< (y &&& 31)) 14), (14, i_iload 4 16), (16, i_iload 2 17), (17, i_ii (fun x y => x <<< (y &&& 31)) 18), (18, i_ii (fun x y => x ||| y) 19), (19, i_putI 2 4 22), (22, i_aload 0 23), (23, i_getC 8 14 26), (26, i_aload 0 27), (27, i_getT 8 0 30), (30, i_aload 0 31), (31, i_getT 8 0 34), (34, i_getI 7 1 37), (40, i_aload 0 41), (41, i_iload 1 42), (45, i_push (.int 3) 46), (46, i_iload 3 47), (47, i_ii (fun x y => x * y) 48), (48, i_ii (fun x y => x - y) 49)]
set_option maxRecDepth 100000 in
theorem okX8_payOf : gOk YX8_payOf tX8_payOf := ok_c (sn_aload_n (show decode cX8_payOf 0 = .ok (.aload_n 0, 1) by decide +kernel) rfl) <|
  ok_c (sn_getC (j := 3) (fun _ _ => rfl) (sn_get ck_8 (by decide) (show decode cX8_payOf 1 = .ok (.getfield 33, 3) by decide +kernel) wd_2_127)) <|
  ok_c (sn_aload_n (show decode cX8_payOf 7 = .ok (.aload_n 0, 1) by decide +kernel) rfl) <|
  ok_c (sn_getC (j := 3) (fun _ _ => rfl) (sn_get ck_8 (by decide) (show decode cX8_payOf 8 = .ok (.getfield 33, 3) by decide +kernel) wd_2_127)) <|
  ok_c (sn_iload_n (show decode cX8_payOf 11 = .ok (.iload_n 3, 1) by decide +kernel) rfl) <|
  ok_c (sn_iload_n (show decode cX8_payOf 12 = .ok (.iload_n 1, 1) by decide +kernel) rfl) <|
  ok_c (sn_ishl (show decode cX8_payOf 13 = .ok (.ishl, 1) by decide +kernel)) <|
  ok_c (sn_iload (show decode cX8_payOf 14 = .ok (.iload 4, 2) by decide +kernel)) <|
  ok_c (sn_iload_n (show decode cX8_payOf 16 = .ok (.iload_n 2, 1) by decide +kernel) rfl) <|
  ok_c (sn_ishl (show decode cX8_payOf 17 = .ok (.ishl, 1) by decide +kernel)) <|
  ok_c (sn_ior (show decode cX8_payOf 18 = .ok (.ior, 1) by decide +kernel)) <|
  ok_c (sn_putI ck_2 (by decide) rfl rfl (show decode cX8_payOf 19 = .ok (.putfield 409, 3) by decide +kernel) wd_2_33) <|
  ok_c (sn_aload_n (show decode cX8_payOf 22 = .ok (.aload_n 0, 1) by decide +kernel) rfl) <|
  ok_c (sn_getC (j := 3) (fun _ _ => rfl) (sn_get ck_8 (by decide) (show decode cX8_payOf 23 = .ok (.getfield 33, 3) by decide +kernel) wd_2_127)) <|
  ok_c (sn_aload_n (show decode cX8_payOf 26 = .ok (.aload_n 0, 1) by decide +kernel) rfl) <|
  ok_c (sn_getT (j := 6) (fun _ _ => rfl) (sn_get ck_8 (by decide) (show decode cX8_payOf 27 = .ok (.getfield 51, 3) by decide +kernel) wd_2_130)) <|
  ok_c (sn_aload_n (show decode cX8_payOf 30 = .ok (.aload_n 0, 1) by decide +kernel) rfl) <|
  ok_c (sn_getT (j := 6) (fun _ _ => rfl) (sn_get ck_8 (by decide) (show decode cX8_payOf 31 = .ok (.getfield 51, 3) by decide +kernel) wd_2_130)) <|
  ok_c (sn_getI (fun _ _ => rfl) (sn_get ck_7 (by decide) (show decode cX8_payOf 34 = .ok (.getfield 184, 3) by decide +kernel) wd_1_90)) <|
  ok_c (sn_aload_n (show decode cX8_payOf 40 = .ok (.aload_n 0, 1) by decide +kernel) rfl) <|
  ok_c (sn_iload_n (show decode cX8_payOf 41 = .ok (.iload_n 1, 1) by decide +kernel) rfl) <|
  ok_c (sn_iconst (v := 3) (show decode cX8_payOf 45 = .ok (.iconst 3, 1) by decide +kernel) (by decide +kernel)) <|
  ok_c (sn_iload_n (show decode cX8_payOf 46 = .ok (.iload_n 3, 1) by decide +kernel) rfl) <|
  ok_c (sn_imul (show decode cX8_payOf 47 = .ok (.imul, 1) by decide +kernel)) <|
  ok_c (sn_isub (show decode cX8_payOf 48 = .ok (.isub, 1) by decide +kernel)) <|
  ok_n
def uX8_payOf : gCT := [(4, YX2_supposeNothing, 1, some 2), (37, YX2_live, 3, some 2), (42, YX8_lastWorth, 2, some 8)]
set_option maxRecDepth 100000 in
theorem ocX8_payOf : gOkC YX8_payOf uX8_payOf := oc_c (gEdge_V cal_X2_supposeNothing ck_2 rfl (show decode cX8_payOf 4 = .ok (.invokevirtual 260, 3) by decide +kernel) wd_3_106 wd_3_107 wd_3_108) <|
  oc_c (gEdge_V cal_X2_live ck_2 rfl (show decode cX8_payOf 37 = .ok (.invokevirtual 266, 3) by decide +kernel) wd_3_110 wd_3_111 wd_3_112) <|
  oc_c (gEdge_V cal_X8_lastWorth ck_8 rfl (show decode cX8_payOf 42 = .ok (.invokevirtual 412, 3) by decide +kernel) wd_5_58 wd_5_60 wp_3_5) <|
  oc_n
theorem reX8_payOf : ∀ pc ∈ [49], decode cX8_payOf pc = .ok (.ireturn, 1) := by decide +kernel
def tX8_lastWorthOfBoth : List (Nat × gStp) := [(0, i_aload 0 1), (4, i_aload 0 5), (5, i_iload 1 6), (9, i_aload 0 10), (10, i_iload 2 11), (14, i_ii (fun x y => x + y) 15)]
set_option maxRecDepth 100000 in
theorem okX8_lastWorthOfBoth : gOk YX8_lastWorthOfBoth tX8_lastWorthOfBoth := ok_c (sn_aload_n (show decode cX8_lastWorthOfBoth 0 = .ok (.aload_n 0, 1) by decide +kernel) rfl) <|
  ok_c (sn_aload_n (show decode cX8_lastWorthOfBoth 4 = .ok (.aload_n 0, 1) by decide +kernel) rfl) <|
  ok_c (sn_iload_n (show decode cX8_lastWorthOfBoth 5 = .ok (.iload_n 1, 1) by decide +kernel) rfl) <|
  ok_c (sn_aload_n (show decode cX8_lastWorthOfBoth 9 = .ok (.aload_n 0, 1) by decide +kernel) rfl) <|
  ok_c (sn_iload_n (show decode cX8_lastWorthOfBoth 10 = .ok (.iload_n 2, 1) by decide +kernel) rfl) <|
  ok_c (sn_iadd (show decode cX8_lastWorthOfBoth 14 = .ok (.iadd, 1) by decide +kernel)) <|
  ok_n
def uX8_lastWorthOfBoth : gCT := [(1, YX8_liveAsNow, 1, some 8), (6, YX8_lastWorth, 2, some 8), (11, YX8_lastWorth, 2, some 8)]
set_option maxRecDepth 100000 in
theorem ocX8_lastWorthOfBoth : gOkC YX8_lastWorthOfBoth uX8_lastWorthOfBoth := oc_c (gEdge_V cal_X8_liveAsNow ck_8 rfl (show decode cX8_lastWorthOfBoth 1 = .ok (.invokevirtual 118, 3) by decide +kernel) wd_3_102 wd_3_104 wp_1_13) <|
  oc_c (gEdge_V cal_X8_lastWorth ck_8 rfl (show decode cX8_lastWorthOfBoth 6 = .ok (.invokevirtual 412, 3) by decide +kernel) wd_5_58 wd_5_60 wp_3_5) <|
  oc_c (gEdge_V cal_X8_lastWorth ck_8 rfl (show decode cX8_lastWorthOfBoth 11 = .ok (.invokevirtual 412, 3) by decide +kernel) wd_5_58 wd_5_60 wp_3_5) <|
  oc_n
theorem reX8_lastWorthOfBoth : ∀ pc ∈ [15], decode cX8_lastWorthOfBoth pc = .ok (.ireturn, 1) := by decide +kernel
def tX8_casesOf : List (Nat × gStp) := [(0, i_push (.long 1) 1), (1, i_lstore 2 2), (2, i_push (.int 0) 3), (3, i_istore 4 5), (5, i_iload 4 7), (7, i_aload 0 8), (8, i_getT 8 0 11), (11, i_getI 7 6 14), (14, i_ic_ge 57 17), (17, i_lload 2 18), (18, i_iload 1 19), (19, i_iload 4 21), (24, i_if_eq 38 27), (27, i_aload 0 28), (28, i_getT 8 0 31), (31, i_getI 7 4 34), (34, i_i2l 35), (35, i_goto 49), (38, i_push (.int 10) 40), (40, i_aload 0 41), (41, i_getT 8 0 44), (44, i_getI 7 4 47), (47, i_ii (fun x y => x - y) 48), (48, i_i2l 49), (49, i_ll (fun x y => x * y) 50), (50, i_lstore 2 51), (51, i_iinc 4 1 54), (54, i_goto 5), (57, i_lload 2 58)]
set_option maxRecDepth 100000 in
theorem okX8_casesOf : gOk YX8_casesOf tX8_casesOf := ok_c (sn_lconst (v := 1) (show decode cX8_casesOf 0 = .ok (.lconst 1, 1) by decide +kernel) (by decide +kernel)) <|
  ok_c (sn_lstore_n (show decode cX8_casesOf 1 = .ok (.lstore_n 2, 1) by decide +kernel) rfl (by decide)) <|
  ok_c (sn_iconst (v := 0) (show decode cX8_casesOf 2 = .ok (.iconst 0, 1) by decide +kernel) (by decide +kernel)) <|
  ok_c (sn_istore (show decode cX8_casesOf 3 = .ok (.istore 4, 2) by decide +kernel) (by decide)) <|
  ok_c (sn_iload (show decode cX8_casesOf 5 = .ok (.iload 4, 2) by decide +kernel)) <|
  ok_c (sn_aload_n (show decode cX8_casesOf 7 = .ok (.aload_n 0, 1) by decide +kernel) rfl) <|
  ok_c (sn_getT (j := 6) (fun _ _ => rfl) (sn_get ck_8 (by decide) (show decode cX8_casesOf 8 = .ok (.getfield 51, 3) by decide +kernel) wd_2_130)) <|
  ok_c (sn_getI (fun _ _ => rfl) (sn_get ck_7 (by decide) (show decode cX8_casesOf 11 = .ok (.getfield 248, 3) by decide +kernel) wd_1_113)) <|
  ok_c (sn_ic_ge (show decode cX8_casesOf 14 = .ok (.if_icmp .ge 43, 3) by decide +kernel) (by decide)) <|
  ok_c (sn_lload_n (show decode cX8_casesOf 17 = .ok (.lload_n 2, 1) by decide +kernel) rfl) <|
  ok_c (sn_iload_n (show decode cX8_casesOf 18 = .ok (.iload_n 1, 1) by decide +kernel) rfl) <|
  ok_c (sn_iload (show decode cX8_casesOf 19 = .ok (.iload 4, 2) by decide +kernel)) <|
  ok_c (sn_if_eq (show decode cX8_casesOf 24 = .ok (.ifCond .eq 14, 3) by decide +kernel) (by decide)) <|
  ok_c (sn_aload_n (show decode cX8_casesOf 27 = .ok (.aload_n 0, 1) by decide +kernel) rfl) <|
  ok_c (sn_getT (j := 6) (fun _ _ => rfl) (sn_get ck_8 (by decide) (show decode cX8_casesOf 28 = .ok (.getfield 51, 3) by decide +kernel) wd_2_130)) <|
  ok_c (sn_getI (fun _ _ => rfl) (sn_get ck_7 (by decide) (show decode cX8_casesOf 31 = .ok (.getfield 344, 3) by decide +kernel) wd_1_102)) <|
  ok_c (sn_i2l (show decode cX8_casesOf 34 = .ok (.i2l, 1) by decide +kernel)) <|
  ok_c (sn_goto (show decode cX8_casesOf 35 = .ok (.goto 14, 3) by decide +kernel) (by decide)) <|
  ok_c (sn_bipush (v := 10) (show decode cX8_casesOf 38 = .ok (.bipush 10, 2) by decide +kernel) (by decide +kernel)) <|
  ok_c (sn_aload_n (show decode cX8_casesOf 40 = .ok (.aload_n 0, 1) by decide +kernel) rfl) <|
  ok_c (sn_getT (j := 6) (fun _ _ => rfl) (sn_get ck_8 (by decide) (show decode cX8_casesOf 41 = .ok (.getfield 51, 3) by decide +kernel) wd_2_130)) <|
  ok_c (sn_getI (fun _ _ => rfl) (sn_get ck_7 (by decide) (show decode cX8_casesOf 44 = .ok (.getfield 344, 3) by decide +kernel) wd_1_102)) <|
  ok_c (sn_isub (show decode cX8_casesOf 47 = .ok (.isub, 1) by decide +kernel)) <|
  ok_c (sn_i2l (show decode cX8_casesOf 48 = .ok (.i2l, 1) by decide +kernel)) <|
  ok_c (sn_lmul (show decode cX8_casesOf 49 = .ok (.lmul, 1) by decide +kernel)) <|
  ok_c (sn_lstore_n (show decode cX8_casesOf 50 = .ok (.lstore_n 2, 1) by decide +kernel) rfl (by decide)) <|
  ok_c (sn_iinc (show decode cX8_casesOf 51 = .ok (.iinc 4 1, 3) by decide +kernel) (by decide) (by decide +kernel)) <|
  ok_c (sn_goto (show decode cX8_casesOf 54 = .ok (.goto (-49), 3) by decide +kernel) (by decide)) <|
  ok_c (sn_lload_n (show decode cX8_casesOf 57 = .ok (.lload_n 2, 1) by decide +kernel) rfl) <|
  ok_n
def uX8_casesOf : gCT := [(21, YX8_has, 2, none)]
set_option maxRecDepth 100000 in
theorem ocX8_casesOf : gOkC YX8_casesOf uX8_casesOf := oc_c (gEdge_S cal_X8_has (show decode cX8_casesOf 21 = .ok (.invokestatic 187, 3) by decide +kernel) wd_4_29 wd_3_119) <|
  oc_n
theorem reX8_casesOf : ∀ pc ∈ [58], decode cX8_casesOf pc = .ok (.lreturn, 1) := by decide +kernel
def tX8_measure : List (Nat × gStp) := [(0, i_iload 1 1), (1, i_sw [(0, 28), (1, 52)] 85), (28, i_aload 0 29), (29, i_getC 8 14 32), (32, i_getC 2 48 35), (35, i_push (.int 0) 36), (36, i_aald7 37), (37, i_iload 2 38), (38, i_iald 39), (39, i_iload 3 40), (43, i_if_eq 50 46), (46, i_push (.int 1) 47), (47, i_goto 51), (50, i_push (.int 0) 51), (52, i_aload 0 53), (53, i_getC 8 14 56), (56, i_aload 0 57), (57, i_getT 8 0 60), (60, i_push (.int 0) 61), (61, i_iload 2 62), (62, i_aload 0 63), (63, i_getT 8 0 66), (66, i_getI 7 2 69), (72, i_iload 3 73), (76, i_if_eq 83 79), (79, i_push (.int 1) 80), (80, i_goto 84), (83, i_push (.int 0) 84), (85, i_aload 0 86), (86, i_getC 8 14 89), (89, i_aload 0 90), (90, i_getT 8 0 93), (93, i_push (.int 0) 94)]
set_option maxRecDepth 100000 in
theorem okX8_measure : gOk YX8_measure tX8_measure := ok_c (sn_iload_n (show decode cX8_measure 0 = .ok (.iload_n 1, 1) by decide +kernel) rfl) <|
  ok_c (sn_lsw (show decode cX8_measure 1 = .ok (.lookupswitch 84 #[(0, 27), (1, 51)], 27) by decide +kernel) (by decide +kernel) (by decide +kernel) (by decide)) <|
  ok_c (sn_aload_n (show decode cX8_measure 28 = .ok (.aload_n 0, 1) by decide +kernel) rfl) <|
  ok_c (sn_getC (j := 3) (fun _ _ => rfl) (sn_get ck_8 (by decide) (show decode cX8_measure 29 = .ok (.getfield 33, 3) by decide +kernel) wd_2_127)) <|
  ok_c (sn_getC (j := 15) (fun _ _ => rfl) (sn_get ck_2 (by decide) (show decode cX8_measure 32 = .ok (.getfield 132, 3) by decide +kernel) wd_2_49)) <|
  ok_c (sn_iconst (v := 0) (show decode cX8_measure 35 = .ok (.iconst 0, 1) by decide +kernel) (by decide +kernel)) <|
  ok_c (sn_aald7 (show decode cX8_measure 36 = .ok (.aaload, 1) by decide +kernel)) <|
  ok_c (sn_iload_n (show decode cX8_measure 37 = .ok (.iload_n 2, 1) by decide +kernel) rfl) <|
  ok_c (sn_iald (show decode cX8_measure 38 = .ok (.iaload, 1) by decide +kernel)) <|
  ok_c (sn_iload_n (show decode cX8_measure 39 = .ok (.iload_n 3, 1) by decide +kernel) rfl) <|
  ok_c (sn_if_eq (show decode cX8_measure 43 = .ok (.ifCond .eq 7, 3) by decide +kernel) (by decide)) <|
  ok_c (sn_iconst (v := 1) (show decode cX8_measure 46 = .ok (.iconst 1, 1) by decide +kernel) (by decide +kernel)) <|
  ok_c (sn_goto (show decode cX8_measure 47 = .ok (.goto 4, 3) by decide +kernel) (by decide)) <|
  ok_c (sn_iconst (v := 0) (show decode cX8_measure 50 = .ok (.iconst 0, 1) by decide +kernel) (by decide +kernel)) <|
  ok_c (sn_aload_n (show decode cX8_measure 52 = .ok (.aload_n 0, 1) by decide +kernel) rfl) <|
  ok_c (sn_getC (j := 3) (fun _ _ => rfl) (sn_get ck_8 (by decide) (show decode cX8_measure 53 = .ok (.getfield 33, 3) by decide +kernel) wd_2_127)) <|
  ok_c (sn_aload_n (show decode cX8_measure 56 = .ok (.aload_n 0, 1) by decide +kernel) rfl) <|
  ok_c (sn_getT (j := 6) (fun _ _ => rfl) (sn_get ck_8 (by decide) (show decode cX8_measure 57 = .ok (.getfield 51, 3) by decide +kernel) wd_2_130)) <|
  ok_c (sn_iconst (v := 0) (show decode cX8_measure 60 = .ok (.iconst 0, 1) by decide +kernel) (by decide +kernel)) <|
  ok_c (sn_iload_n (show decode cX8_measure 61 = .ok (.iload_n 2, 1) by decide +kernel) rfl) <|
  ok_c (sn_aload_n (show decode cX8_measure 62 = .ok (.aload_n 0, 1) by decide +kernel) rfl) <|
  ok_c (sn_getT (j := 6) (fun _ _ => rfl) (sn_get ck_8 (by decide) (show decode cX8_measure 63 = .ok (.getfield 51, 3) by decide +kernel) wd_2_130)) <|
  ok_c (sn_getI (fun _ _ => rfl) (sn_get ck_7 (by decide) (show decode cX8_measure 66 = .ok (.getfield 140, 3) by decide +kernel) wd_1_95)) <|
  ok_c (sn_iload_n (show decode cX8_measure 72 = .ok (.iload_n 3, 1) by decide +kernel) rfl) <|
  ok_c (sn_if_eq (show decode cX8_measure 76 = .ok (.ifCond .eq 7, 3) by decide +kernel) (by decide)) <|
  ok_c (sn_iconst (v := 1) (show decode cX8_measure 79 = .ok (.iconst 1, 1) by decide +kernel) (by decide +kernel)) <|
  ok_c (sn_goto (show decode cX8_measure 80 = .ok (.goto 4, 3) by decide +kernel) (by decide)) <|
  ok_c (sn_iconst (v := 0) (show decode cX8_measure 83 = .ok (.iconst 0, 1) by decide +kernel) (by decide +kernel)) <|
  ok_c (sn_aload_n (show decode cX8_measure 85 = .ok (.aload_n 0, 1) by decide +kernel) rfl) <|
  ok_c (sn_getC (j := 3) (fun _ _ => rfl) (sn_get ck_8 (by decide) (show decode cX8_measure 86 = .ok (.getfield 33, 3) by decide +kernel) wd_2_127)) <|
  ok_c (sn_aload_n (show decode cX8_measure 89 = .ok (.aload_n 0, 1) by decide +kernel) rfl) <|
  ok_c (sn_getT (j := 6) (fun _ _ => rfl) (sn_get ck_8 (by decide) (show decode cX8_measure 90 = .ok (.getfield 51, 3) by decide +kernel) wd_2_130)) <|
  ok_c (sn_iconst (v := 0) (show decode cX8_measure 93 = .ok (.iconst 0, 1) by decide +kernel) (by decide +kernel)) <|
  ok_n
def uX8_measure : gCT := [(40, YX8_has, 2, none), (69, YX2_doorsOf, 5, some 2), (73, YX8_has, 2, none), (94, YX2_firmCount, 3, some 2)]
set_option maxRecDepth 100000 in
theorem ocX8_measure : gOkC YX8_measure uX8_measure := oc_c (gEdge_S cal_X8_has (show decode cX8_measure 40 = .ok (.invokestatic 187, 3) by decide +kernel) wd_4_29 wd_3_119) <|
  oc_c (gEdge_V cal_X2_doorsOf ck_2 rfl (show decode cX8_measure 69 = .ok (.invokevirtual 147, 3) by decide +kernel) wd_3_238 wd_3_239 wd_4_0) <|
  oc_c (gEdge_S cal_X8_has (show decode cX8_measure 73 = .ok (.invokestatic 187, 3) by decide +kernel) wd_4_29 wd_3_119) <|
  oc_c (gEdge_V cal_X2_firmCount ck_2 rfl (show decode cX8_measure 94 = .ok (.invokevirtual 136, 3) by decide +kernel) wd_3_204 wd_3_205 wd_3_206) <|
  oc_n
theorem reX8_measure : ∀ pc ∈ [51, 84, 97], decode cX8_measure pc = .ok (.ireturn, 1) := by decide +kernel
def tX8_meanOf : List (Nat × gStp) := [(0, i_push (.long 0) 1), (1, i_lstore 5 3), (3, i_push (.long 0) 4), (4, i_lstore 7 6), (6, i_push (.int 0) 7), (7, i_istore 9 9), (9, i_iload 9 11), (11, i_push (.int 1) 12), (12, i_aload 0 13), (13, i_getT 8 0 16), (16, i_getI 7 6 19), (19, i_ii (fun x y => x <<< (y &&& 31)) 20), (20, i_ic_ge 95 23), (23, i_aload 0 24), (24, i_iload 9 26), (29, i_lstore 10 31), (31, i_lload 7 33), (33, i_lload 10 35), (35, i_ll (fun x y => x + y) 36), (36, i_lstore 7 38), (38, i_lload 10 40), (40, i_push (.long 0) 41), (41, i_lcmp 42), (42, i_if_le 89 45), (45, i_aload 0 46), (46, i_getC 8 14 49), (52, i_aload 0 53), (53, i_getC 8 14 56), (56, i_iload 9 58), (58, i_putI 2 0 61), (61, i_aload 0 62), (62, i_getC 8 14 65), (65, i_aload 0 66), (66, i_getT 8 0 69), (69, i_push (.int 1) 70), (73, i_lload 5 75), (75, i_lload 10 77), (77, i_aload 0 78), (78, i_iload 1 79), (79, i_iload 2 80), (80, i_iload 3 81), (84, i_i2l 85), (85, i_ll (fun x y => x * y) 86), (86, i_ll (fun x y => x + y) 87), (87, i_lstore 5 89), (89, i_iinc 9 1 92), (92, i_goto 9), (95, i_lload 5 97), (97, i_lload 7 99), (99, i_iload 4 101)]
set_option maxRecDepth 100000 in
theorem okX8_meanOf : gOk YX8_meanOf tX8_meanOf := ok_c (sn_lconst (v := 0) (show decode cX8_meanOf 0 = .ok (.lconst 0, 1) by decide +kernel) (by decide +kernel)) <|
  ok_c (sn_lstore (show decode cX8_meanOf 1 = .ok (.lstore 5, 2) by decide +kernel) (by decide)) <|
  ok_c (sn_lconst (v := 0) (show decode cX8_meanOf 3 = .ok (.lconst 0, 1) by decide +kernel) (by decide +kernel)) <|
  ok_c (sn_lstore (show decode cX8_meanOf 4 = .ok (.lstore 7, 2) by decide +kernel) (by decide)) <|
  ok_c (sn_iconst (v := 0) (show decode cX8_meanOf 6 = .ok (.iconst 0, 1) by decide +kernel) (by decide +kernel)) <|
  ok_c (sn_istore (show decode cX8_meanOf 7 = .ok (.istore 9, 2) by decide +kernel) (by decide)) <|
  ok_c (sn_iload (show decode cX8_meanOf 9 = .ok (.iload 9, 2) by decide +kernel)) <|
  ok_c (sn_iconst (v := 1) (show decode cX8_meanOf 11 = .ok (.iconst 1, 1) by decide +kernel) (by decide +kernel)) <|
  ok_c (sn_aload_n (show decode cX8_meanOf 12 = .ok (.aload_n 0, 1) by decide +kernel) rfl) <|
  ok_c (sn_getT (j := 6) (fun _ _ => rfl) (sn_get ck_8 (by decide) (show decode cX8_meanOf 13 = .ok (.getfield 51, 3) by decide +kernel) wd_2_130)) <|
  ok_c (sn_getI (fun _ _ => rfl) (sn_get ck_7 (by decide) (show decode cX8_meanOf 16 = .ok (.getfield 248, 3) by decide +kernel) wd_1_113)) <|
  ok_c (sn_ishl (show decode cX8_meanOf 19 = .ok (.ishl, 1) by decide +kernel)) <|
  ok_c (sn_ic_ge (show decode cX8_meanOf 20 = .ok (.if_icmp .ge 75, 3) by decide +kernel) (by decide)) <|
  ok_c (sn_aload_n (show decode cX8_meanOf 23 = .ok (.aload_n 0, 1) by decide +kernel) rfl) <|
  ok_c (sn_iload (show decode cX8_meanOf 24 = .ok (.iload 9, 2) by decide +kernel)) <|
  ok_c (sn_lstore (show decode cX8_meanOf 29 = .ok (.lstore 10, 2) by decide +kernel) (by decide)) <|
  ok_c (sn_lload (show decode cX8_meanOf 31 = .ok (.lload 7, 2) by decide +kernel)) <|
  ok_c (sn_lload (show decode cX8_meanOf 33 = .ok (.lload 10, 2) by decide +kernel)) <|
  ok_c (sn_ladd (show decode cX8_meanOf 35 = .ok (.ladd, 1) by decide +kernel)) <|
  ok_c (sn_lstore (show decode cX8_meanOf 36 = .ok (.lstore 7, 2) by decide +kernel) (by decide)) <|
  ok_c (sn_lload (show decode cX8_meanOf 38 = .ok (.lload 10, 2) by decide +kernel)) <|
  ok_c (sn_lconst (v := 0) (show decode cX8_meanOf 40 = .ok (.lconst 0, 1) by decide +kernel) (by decide +kernel)) <|
  ok_c (sn_lcmp (show decode cX8_meanOf 41 = .ok (.lcmp, 1) by decide +kernel)) <|
  ok_c (sn_if_le (show decode cX8_meanOf 42 = .ok (.ifCond .le 47, 3) by decide +kernel) (by decide)) <|
  ok_c (sn_aload_n (show decode cX8_meanOf 45 = .ok (.aload_n 0, 1) by decide +kernel) rfl) <|
  ok_c (sn_getC (j := 3) (fun _ _ => rfl) (sn_get ck_8 (by decide) (show decode cX8_meanOf 46 = .ok (.getfield 33, 3) by decide +kernel) wd_2_127)) <|
  ok_c (sn_aload_n (show decode cX8_meanOf 52 = .ok (.aload_n 0, 1) by decide +kernel) rfl) <|
  ok_c (sn_getC (j := 3) (fun _ _ => rfl) (sn_get ck_8 (by decide) (show decode cX8_meanOf 53 = .ok (.getfield 33, 3) by decide +kernel) wd_2_127)) <|
  ok_c (sn_iload (show decode cX8_meanOf 56 = .ok (.iload 9, 2) by decide +kernel)) <|
  ok_c (sn_putI ck_2 (by decide) rfl rfl (show decode cX8_meanOf 58 = .ok (.putfield 400, 3) by decide +kernel) wd_2_24) <|
  ok_c (sn_aload_n (show decode cX8_meanOf 61 = .ok (.aload_n 0, 1) by decide +kernel) rfl) <|
  ok_c (sn_getC (j := 3) (fun _ _ => rfl) (sn_get ck_8 (by decide) (show decode cX8_meanOf 62 = .ok (.getfield 33, 3) by decide +kernel) wd_2_127)) <|
  ok_c (sn_aload_n (show decode cX8_meanOf 65 = .ok (.aload_n 0, 1) by decide +kernel) rfl) <|
  ok_c (sn_getT (j := 6) (fun _ _ => rfl) (sn_get ck_8 (by decide) (show decode cX8_meanOf 66 = .ok (.getfield 51, 3) by decide +kernel) wd_2_130)) <|
  ok_c (sn_iconst (v := 1) (show decode cX8_meanOf 69 = .ok (.iconst 1, 1) by decide +kernel) (by decide +kernel)) <|
  ok_c (sn_lload (show decode cX8_meanOf 73 = .ok (.lload 5, 2) by decide +kernel)) <|
  ok_c (sn_lload (show decode cX8_meanOf 75 = .ok (.lload 10, 2) by decide +kernel)) <|
  ok_c (sn_aload_n (show decode cX8_meanOf 77 = .ok (.aload_n 0, 1) by decide +kernel) rfl) <|
  ok_c (sn_iload_n (show decode cX8_meanOf 78 = .ok (.iload_n 1, 1) by decide +kernel) rfl) <|
  ok_c (sn_iload_n (show decode cX8_meanOf 79 = .ok (.iload_n 2, 1) by decide +kernel) rfl) <|
  ok_c (sn_iload_n (show decode cX8_meanOf 80 = .ok (.iload_n 3, 1) by decide +kernel) rfl) <|
  ok_c (sn_i2l (show decode cX8_meanOf 84 = .ok (.i2l, 1) by decide +kernel)) <|
  ok_c (sn_lmul (show decode cX8_meanOf 85 = .ok (.lmul, 1) by decide +kernel)) <|
  ok_c (sn_ladd (show decode cX8_meanOf 86 = .ok (.ladd, 1) by decide +kernel)) <|
  ok_c (sn_lstore (show decode cX8_meanOf 87 = .ok (.lstore 5, 2) by decide +kernel) (by decide)) <|
  ok_c (sn_iinc (show decode cX8_meanOf 89 = .ok (.iinc 9 1, 3) by decide +kernel) (by decide) (by decide +kernel)) <|
  ok_c (sn_goto (show decode cX8_meanOf 92 = .ok (.goto (-83), 3) by decide +kernel) (by decide)) <|
  ok_c (sn_lload (show decode cX8_meanOf 95 = .ok (.lload 5, 2) by decide +kernel)) <|
  ok_c (sn_lload (show decode cX8_meanOf 97 = .ok (.lload 7, 2) by decide +kernel)) <|
  ok_c (sn_iload (show decode cX8_meanOf 99 = .ok (.iload 4, 2) by decide +kernel)) <|
  ok_n
def uX8_meanOf : gCT := [(26, YX8_casesOf, 2, some 8), (49, YX2_supposeNothing, 1, some 2), (70, YX2_live, 3, some 2), (81, YX8_measure, 4, some 8), (101, YX8_lowest, 3, none)]
set_option maxRecDepth 100000 in
theorem ocX8_meanOf : gOkC YX8_meanOf uX8_meanOf := oc_c (gEdge_V cal_X8_casesOf ck_8 rfl (show decode cX8_meanOf 26 = .ok (.invokevirtual 415, 3) by decide +kernel) wd_5_91 wd_5_93 wp_3_8) <|
  oc_c (gEdge_V cal_X2_supposeNothing ck_2 rfl (show decode cX8_meanOf 49 = .ok (.invokevirtual 260, 3) by decide +kernel) wd_3_106 wd_3_107 wd_3_108) <|
  oc_c (gEdge_V cal_X2_live ck_2 rfl (show decode cX8_meanOf 70 = .ok (.invokevirtual 266, 3) by decide +kernel) wd_3_110 wd_3_111 wd_3_112) <|
  oc_c (gEdge_V cal_X8_measure ck_8 rfl (show decode cX8_meanOf 81 = .ok (.invokevirtual 419, 3) by decide +kernel) wd_5_95 wd_5_97 wp_3_9) <|
  oc_c (gEdge_S cal_X8_lowest (show decode cX8_meanOf 101 = .ok (.invokestatic 222, 3) by decide +kernel) wd_4_131 wd_4_132) <|
  oc_n
theorem reX8_meanOf : ∀ pc ∈ [104], decode cX8_meanOf pc = .ok (.ireturn, 1) := by decide +kernel
def tX8_commonDivisor : List (Nat × gStp) := [(0, i_lload 0 1), (1, i_lstore 4 3), (3, i_lload 2 4), (4, i_lstore 6 6), (6, i_push (.int 0) 7), (7, i_istore 8 9), (9, i_iload 8 11), (11, i_push (.int 1000) 14), (14, i_ic_ge 45 17), (17, i_lload 6 19), (19, i_push (.long 0) 20), (20, i_lcmp 21), (21, i_if_eq 45 24), (24, i_lload 4 26), (26, i_lload 6 28), (28, i_ldiv (fun x y => x - x / y * y) 29), (29, i_lstore 9 31), (31, i_lload 6 33), (33, i_lstore 4 35), (35, i_lload 9 37), (37, i_lstore 6 39), (39, i_iinc 8 1 42), (42, i_goto 9), (45, i_lload 4 47)]
set_option maxRecDepth 100000 in
theorem okX8_commonDivisor : gOk YX8_commonDivisor tX8_commonDivisor := ok_c (sn_lload_n (show decode cX8_commonDivisor 0 = .ok (.lload_n 0, 1) by decide +kernel) rfl) <|
  ok_c (sn_lstore (show decode cX8_commonDivisor 1 = .ok (.lstore 4, 2) by decide +kernel) (by decide)) <|
  ok_c (sn_lload_n (show decode cX8_commonDivisor 3 = .ok (.lload_n 2, 1) by decide +kernel) rfl) <|
  ok_c (sn_lstore (show decode cX8_commonDivisor 4 = .ok (.lstore 6, 2) by decide +kernel) (by decide)) <|
  ok_c (sn_iconst (v := 0) (show decode cX8_commonDivisor 6 = .ok (.iconst 0, 1) by decide +kernel) (by decide +kernel)) <|
  ok_c (sn_istore (show decode cX8_commonDivisor 7 = .ok (.istore 8, 2) by decide +kernel) (by decide)) <|
  ok_c (sn_iload (show decode cX8_commonDivisor 9 = .ok (.iload 8, 2) by decide +kernel)) <|
  ok_c (sn_sipush (v := 1000) (show decode cX8_commonDivisor 11 = .ok (.sipush 1000, 3) by decide +kernel) (by decide +kernel)) <|
  ok_c (sn_ic_ge (show decode cX8_commonDivisor 14 = .ok (.if_icmp .ge 31, 3) by decide +kernel) (by decide)) <|
  ok_c (sn_lload (show decode cX8_commonDivisor 17 = .ok (.lload 6, 2) by decide +kernel)) <|
  ok_c (sn_lconst (v := 0) (show decode cX8_commonDivisor 19 = .ok (.lconst 0, 1) by decide +kernel) (by decide +kernel)) <|
  ok_c (sn_lcmp (show decode cX8_commonDivisor 20 = .ok (.lcmp, 1) by decide +kernel)) <|
  ok_c (sn_if_eq (show decode cX8_commonDivisor 21 = .ok (.ifCond .eq 24, 3) by decide +kernel) (by decide)) <|
  ok_c (sn_lload (show decode cX8_commonDivisor 24 = .ok (.lload 4, 2) by decide +kernel)) <|
  ok_c (sn_lload (show decode cX8_commonDivisor 26 = .ok (.lload 6, 2) by decide +kernel)) <|
  ok_c (sn_lrem (show decode cX8_commonDivisor 28 = .ok (.lrem, 1) by decide +kernel)) <|
  ok_c (sn_lstore (show decode cX8_commonDivisor 29 = .ok (.lstore 9, 2) by decide +kernel) (by decide)) <|
  ok_c (sn_lload (show decode cX8_commonDivisor 31 = .ok (.lload 6, 2) by decide +kernel)) <|
  ok_c (sn_lstore (show decode cX8_commonDivisor 33 = .ok (.lstore 4, 2) by decide +kernel) (by decide)) <|
  ok_c (sn_lload (show decode cX8_commonDivisor 35 = .ok (.lload 9, 2) by decide +kernel)) <|
  ok_c (sn_lstore (show decode cX8_commonDivisor 37 = .ok (.lstore 6, 2) by decide +kernel) (by decide)) <|
  ok_c (sn_iinc (show decode cX8_commonDivisor 39 = .ok (.iinc 8 1, 3) by decide +kernel) (by decide) (by decide +kernel)) <|
  ok_c (sn_goto (show decode cX8_commonDivisor 42 = .ok (.goto (-33), 3) by decide +kernel) (by decide)) <|
  ok_c (sn_lload (show decode cX8_commonDivisor 45 = .ok (.lload 4, 2) by decide +kernel)) <|
  ok_n
theorem reX8_commonDivisor : ∀ pc ∈ [47], decode cX8_commonDivisor pc = .ok (.lreturn, 1) := by decide +kernel
def tX8_lowest : List (Nat × gStp) := [(0, i_lload 0 1), (1, i_labs 4), (4, i_lload 2 5), (8, i_lstore 5 10), (10, i_lload 5 12), (12, i_push (.long 0) 13), (13, i_lcmp 14), (14, i_if_ne 28 17), (17, i_iload 4 19), (19, i_if_ne 26 22), (22, i_push (.int 0) 23), (23, i_goto 27), (26, i_push (.int 1) 27), (28, i_iload 4 30), (30, i_if_ne 37 33), (33, i_lload 0 34), (34, i_goto 38), (37, i_lload 2 38), (38, i_lload 5 40), (40, i_ldiv (fun x y => x / y) 41), (41, i_l2i 42)]
set_option maxRecDepth 100000 in
theorem okX8_lowest : gOk YX8_lowest tX8_lowest := ok_c (sn_lload_n (show decode cX8_lowest 0 = .ok (.lload_n 0, 1) by decide +kernel) rfl) <|
  ok_c (sn_labs (show decode cX8_lowest 1 = .ok (.invokestatic 422, 3) by decide +kernel) wd_4_134 wd_4_135 wd_1_11 wd_4_136) <|
  ok_c (sn_lload_n (show decode cX8_lowest 4 = .ok (.lload_n 2, 1) by decide +kernel) rfl) <|
  ok_c (sn_lstore (show decode cX8_lowest 8 = .ok (.lstore 5, 2) by decide +kernel) (by decide)) <|
  ok_c (sn_lload (show decode cX8_lowest 10 = .ok (.lload 5, 2) by decide +kernel)) <|
  ok_c (sn_lconst (v := 0) (show decode cX8_lowest 12 = .ok (.lconst 0, 1) by decide +kernel) (by decide +kernel)) <|
  ok_c (sn_lcmp (show decode cX8_lowest 13 = .ok (.lcmp, 1) by decide +kernel)) <|
  ok_c (sn_if_ne (show decode cX8_lowest 14 = .ok (.ifCond .ne 14, 3) by decide +kernel) (by decide)) <|
  ok_c (sn_iload (show decode cX8_lowest 17 = .ok (.iload 4, 2) by decide +kernel)) <|
  ok_c (sn_if_ne (show decode cX8_lowest 19 = .ok (.ifCond .ne 7, 3) by decide +kernel) (by decide)) <|
  ok_c (sn_iconst (v := 0) (show decode cX8_lowest 22 = .ok (.iconst 0, 1) by decide +kernel) (by decide +kernel)) <|
  ok_c (sn_goto (show decode cX8_lowest 23 = .ok (.goto 4, 3) by decide +kernel) (by decide)) <|
  ok_c (sn_iconst (v := 1) (show decode cX8_lowest 26 = .ok (.iconst 1, 1) by decide +kernel) (by decide +kernel)) <|
  ok_c (sn_iload (show decode cX8_lowest 28 = .ok (.iload 4, 2) by decide +kernel)) <|
  ok_c (sn_if_ne (show decode cX8_lowest 30 = .ok (.ifCond .ne 7, 3) by decide +kernel) (by decide)) <|
  ok_c (sn_lload_n (show decode cX8_lowest 33 = .ok (.lload_n 0, 1) by decide +kernel) rfl) <|
  ok_c (sn_goto (show decode cX8_lowest 34 = .ok (.goto 4, 3) by decide +kernel) (by decide)) <|
  ok_c (sn_lload_n (show decode cX8_lowest 37 = .ok (.lload_n 2, 1) by decide +kernel) rfl) <|
  ok_c (sn_lload (show decode cX8_lowest 38 = .ok (.lload 5, 2) by decide +kernel)) <|
  ok_c (sn_ldiv (show decode cX8_lowest 40 = .ok (.ldiv, 1) by decide +kernel)) <|
  ok_c (sn_l2i (show decode cX8_lowest 41 = .ok (.l2i, 1) by decide +kernel)) <|
  ok_n
def uX8_lowest : gCT := [(5, YX8_commonDivisor, 2, none)]
set_option maxRecDepth 100000 in
theorem ocX8_lowest : gOkC YX8_lowest uX8_lowest := oc_c (gEdge_S cal_X8_commonDivisor (show decode cX8_lowest 5 = .ok (.invokestatic 426, 3) by decide +kernel) wd_4_137 wd_4_138) <|
  oc_n
theorem reX8_lowest : ∀ pc ∈ [27, 42], decode cX8_lowest pc = .ok (.ireturn, 1) := by decide +kernel
def tX8_drawFalseJoins : List (Nat × gStp) := [(0, i_push (.int 0) 1), (1, i_istore 2 2), (2, i_iload 1 3), (3, i_i2l 4), (4, i_lstore 3 5), (5, i_push (.int 0) 6), (6, i_istore 5 8), (8, i_iload 5 10), (10, i_aload 0 11), (11, i_getT 8 0 14), (14, i_getI 7 6 17), (17, i_ic_ge 68 20), (20, i_push (.long 1103515245) 23), (23, i_lload 3 24), (24, i_ll (fun x y => x * y) 25), (25, i_push (.long 12345) 28), (28, i_ll (fun x y => x + y) 29), (29, i_push (.long 2147483648) 32), (32, i_ldiv (fun x y => x - x / y * y) 33), (33, i_lstore 3 34), (34, i_lload 3 35), (35, i_push (.long 65536) 38), (38, i_ldiv (fun x y => x / y) 39), (39, i_push (.long 10) 42), (42, i_ldiv (fun x y => x - x / y * y) 43), (43, i_aload 0 44), (44, i_getT 8 0 47), (47, i_getI 7 4 50), (50, i_i2l 51), (51, i_lcmp 52), (52, i_if_ge 62 55), (55, i_iload 2 56), (56, i_push (.int 1) 57), (57, i_iload 5 59), (59, i_ii (fun x y => x <<< (y &&& 31)) 60), (60, i_ii (fun x y => x ||| y) 61), (61, i_istore 2 62), (62, i_iinc 5 1 65), (65, i_goto 8), (68, i_iload 2 69)]
set_option maxRecDepth 100000 in
theorem okX8_drawFalseJoins : gOk YX8_drawFalseJoins tX8_drawFalseJoins := ok_c (sn_iconst (v := 0) (show decode cX8_drawFalseJoins 0 = .ok (.iconst 0, 1) by decide +kernel) (by decide +kernel)) <|
  ok_c (sn_istore_n (show decode cX8_drawFalseJoins 1 = .ok (.istore_n 2, 1) by decide +kernel) rfl (by decide)) <|
  ok_c (sn_iload_n (show decode cX8_drawFalseJoins 2 = .ok (.iload_n 1, 1) by decide +kernel) rfl) <|
  ok_c (sn_i2l (show decode cX8_drawFalseJoins 3 = .ok (.i2l, 1) by decide +kernel)) <|
  ok_c (sn_lstore_n (show decode cX8_drawFalseJoins 4 = .ok (.lstore_n 3, 1) by decide +kernel) rfl (by decide)) <|
  ok_c (sn_iconst (v := 0) (show decode cX8_drawFalseJoins 5 = .ok (.iconst 0, 1) by decide +kernel) (by decide +kernel)) <|
  ok_c (sn_istore (show decode cX8_drawFalseJoins 6 = .ok (.istore 5, 2) by decide +kernel) (by decide)) <|
  ok_c (sn_iload (show decode cX8_drawFalseJoins 8 = .ok (.iload 5, 2) by decide +kernel)) <|
  ok_c (sn_aload_n (show decode cX8_drawFalseJoins 10 = .ok (.aload_n 0, 1) by decide +kernel) rfl) <|
  ok_c (sn_getT (j := 6) (fun _ _ => rfl) (sn_get ck_8 (by decide) (show decode cX8_drawFalseJoins 11 = .ok (.getfield 51, 3) by decide +kernel) wd_2_130)) <|
  ok_c (sn_getI (fun _ _ => rfl) (sn_get ck_7 (by decide) (show decode cX8_drawFalseJoins 14 = .ok (.getfield 248, 3) by decide +kernel) wd_1_113)) <|
  ok_c (sn_ic_ge (show decode cX8_drawFalseJoins 17 = .ok (.if_icmp .ge 51, 3) by decide +kernel) (by decide)) <|
  ok_c (sn_ldc2 (show decode cX8_drawFalseJoins 20 = .ok (.ldc2_w 430, 3) by decide +kernel) wd_5_135) <|
  ok_c (sn_lload_n (show decode cX8_drawFalseJoins 23 = .ok (.lload_n 3, 1) by decide +kernel) rfl) <|
  ok_c (sn_lmul (show decode cX8_drawFalseJoins 24 = .ok (.lmul, 1) by decide +kernel)) <|
  ok_c (sn_ldc2 (show decode cX8_drawFalseJoins 25 = .ok (.ldc2_w 432, 3) by decide +kernel) wd_5_136) <|
  ok_c (sn_ladd (show decode cX8_drawFalseJoins 28 = .ok (.ladd, 1) by decide +kernel)) <|
  ok_c (sn_ldc2 (show decode cX8_drawFalseJoins 29 = .ok (.ldc2_w 434, 3) by decide +kernel) wd_5_137) <|
  ok_c (sn_lrem (show decode cX8_drawFalseJoins 32 = .ok (.lrem, 1) by decide +kernel)) <|
  ok_c (sn_lstore_n (show decode cX8_drawFalseJoins 33 = .ok (.lstore_n 3, 1) by decide +kernel) rfl (by decide)) <|
  ok_c (sn_lload_n (show decode cX8_drawFalseJoins 34 = .ok (.lload_n 3, 1) by decide +kernel) rfl) <|
  ok_c (sn_ldc2 (show decode cX8_drawFalseJoins 35 = .ok (.ldc2_w 436, 3) by decide +kernel) wd_5_138) <|
  ok_c (sn_ldiv (show decode cX8_drawFalseJoins 38 = .ok (.ldiv, 1) by decide +kernel)) <|
  ok_c (sn_ldc2 (show decode cX8_drawFalseJoins 39 = .ok (.ldc2_w 438, 3) by decide +kernel) wd_5_139) <|
  ok_c (sn_lrem (show decode cX8_drawFalseJoins 42 = .ok (.lrem, 1) by decide +kernel)) <|
  ok_c (sn_aload_n (show decode cX8_drawFalseJoins 43 = .ok (.aload_n 0, 1) by decide +kernel) rfl) <|
  ok_c (sn_getT (j := 6) (fun _ _ => rfl) (sn_get ck_8 (by decide) (show decode cX8_drawFalseJoins 44 = .ok (.getfield 51, 3) by decide +kernel) wd_2_130)) <|
  ok_c (sn_getI (fun _ _ => rfl) (sn_get ck_7 (by decide) (show decode cX8_drawFalseJoins 47 = .ok (.getfield 344, 3) by decide +kernel) wd_1_102)) <|
  ok_c (sn_i2l (show decode cX8_drawFalseJoins 50 = .ok (.i2l, 1) by decide +kernel)) <|
  ok_c (sn_lcmp (show decode cX8_drawFalseJoins 51 = .ok (.lcmp, 1) by decide +kernel)) <|
  ok_c (sn_if_ge (show decode cX8_drawFalseJoins 52 = .ok (.ifCond .ge 10, 3) by decide +kernel) (by decide)) <|
  ok_c (sn_iload_n (show decode cX8_drawFalseJoins 55 = .ok (.iload_n 2, 1) by decide +kernel) rfl) <|
  ok_c (sn_iconst (v := 1) (show decode cX8_drawFalseJoins 56 = .ok (.iconst 1, 1) by decide +kernel) (by decide +kernel)) <|
  ok_c (sn_iload (show decode cX8_drawFalseJoins 57 = .ok (.iload 5, 2) by decide +kernel)) <|
  ok_c (sn_ishl (show decode cX8_drawFalseJoins 59 = .ok (.ishl, 1) by decide +kernel)) <|
  ok_c (sn_ior (show decode cX8_drawFalseJoins 60 = .ok (.ior, 1) by decide +kernel)) <|
  ok_c (sn_istore_n (show decode cX8_drawFalseJoins 61 = .ok (.istore_n 2, 1) by decide +kernel) rfl (by decide)) <|
  ok_c (sn_iinc (show decode cX8_drawFalseJoins 62 = .ok (.iinc 5 1, 3) by decide +kernel) (by decide) (by decide +kernel)) <|
  ok_c (sn_goto (show decode cX8_drawFalseJoins 65 = .ok (.goto (-57), 3) by decide +kernel) (by decide)) <|
  ok_c (sn_iload_n (show decode cX8_drawFalseJoins 68 = .ok (.iload_n 2, 1) by decide +kernel) rfl) <|
  ok_n
theorem reX8_drawFalseJoins : ∀ pc ∈ [69], decode cX8_drawFalseJoins pc = .ok (.ireturn, 1) := by decide +kernel
def tX8_outAtLast : List (Nat × gStp) := [(0, i_aload 0 1), (1, i_getC 8 14 4), (7, i_aload 0 8), (8, i_getC 8 14 11), (11, i_iload 1 12), (12, i_putI 2 0 15), (15, i_aload 0 16), (16, i_getC 8 14 19), (19, i_aload 0 20), (20, i_getT 8 0 23), (23, i_aload 0 24), (24, i_getT 8 0 27), (27, i_getI 7 1 30), (33, i_aload 0 34), (34, i_getT 8 0 37), (37, i_getI 7 1 40), (40, i_push (.int 1) 41), (41, i_ii (fun x y => x - y) 42), (42, i_istore 2 43), (43, i_aload 0 44), (44, i_getT 8 0 47), (47, i_iload 2 48), (51, i_if_eq 66 54), (54, i_aload 0 55), (55, i_getC 8 14 58), (58, i_getC 2 20 61), (61, i_iload 2 62), (62, i_iald 63), (63, i_goto 67), (66, i_push (.int 0) 67)]
set_option maxRecDepth 100000 in
theorem okX8_outAtLast : gOk YX8_outAtLast tX8_outAtLast := ok_c (sn_aload_n (show decode cX8_outAtLast 0 = .ok (.aload_n 0, 1) by decide +kernel) rfl) <|
  ok_c (sn_getC (j := 3) (fun _ _ => rfl) (sn_get ck_8 (by decide) (show decode cX8_outAtLast 1 = .ok (.getfield 33, 3) by decide +kernel) wd_2_127)) <|
  ok_c (sn_aload_n (show decode cX8_outAtLast 7 = .ok (.aload_n 0, 1) by decide +kernel) rfl) <|
  ok_c (sn_getC (j := 3) (fun _ _ => rfl) (sn_get ck_8 (by decide) (show decode cX8_outAtLast 8 = .ok (.getfield 33, 3) by decide +kernel) wd_2_127)) <|
  ok_c (sn_iload_n (show decode cX8_outAtLast 11 = .ok (.iload_n 1, 1) by decide +kernel) rfl) <|
  ok_c (sn_putI ck_2 (by decide) rfl rfl (show decode cX8_outAtLast 12 = .ok (.putfield 400, 3) by decide +kernel) wd_2_24) <|
  ok_c (sn_aload_n (show decode cX8_outAtLast 15 = .ok (.aload_n 0, 1) by decide +kernel) rfl) <|
  ok_c (sn_getC (j := 3) (fun _ _ => rfl) (sn_get ck_8 (by decide) (show decode cX8_outAtLast 16 = .ok (.getfield 33, 3) by decide +kernel) wd_2_127)) <|
  ok_c (sn_aload_n (show decode cX8_outAtLast 19 = .ok (.aload_n 0, 1) by decide +kernel) rfl) <|
  ok_c (sn_getT (j := 6) (fun _ _ => rfl) (sn_get ck_8 (by decide) (show decode cX8_outAtLast 20 = .ok (.getfield 51, 3) by decide +kernel) wd_2_130)) <|
  ok_c (sn_aload_n (show decode cX8_outAtLast 23 = .ok (.aload_n 0, 1) by decide +kernel) rfl) <|
  ok_c (sn_getT (j := 6) (fun _ _ => rfl) (sn_get ck_8 (by decide) (show decode cX8_outAtLast 24 = .ok (.getfield 51, 3) by decide +kernel) wd_2_130)) <|
  ok_c (sn_getI (fun _ _ => rfl) (sn_get ck_7 (by decide) (show decode cX8_outAtLast 27 = .ok (.getfield 184, 3) by decide +kernel) wd_1_90)) <|
  ok_c (sn_aload_n (show decode cX8_outAtLast 33 = .ok (.aload_n 0, 1) by decide +kernel) rfl) <|
  ok_c (sn_getT (j := 6) (fun _ _ => rfl) (sn_get ck_8 (by decide) (show decode cX8_outAtLast 34 = .ok (.getfield 51, 3) by decide +kernel) wd_2_130)) <|
  ok_c (sn_getI (fun _ _ => rfl) (sn_get ck_7 (by decide) (show decode cX8_outAtLast 37 = .ok (.getfield 184, 3) by decide +kernel) wd_1_90)) <|
  ok_c (sn_iconst (v := 1) (show decode cX8_outAtLast 40 = .ok (.iconst 1, 1) by decide +kernel) (by decide +kernel)) <|
  ok_c (sn_isub (show decode cX8_outAtLast 41 = .ok (.isub, 1) by decide +kernel)) <|
  ok_c (sn_istore_n (show decode cX8_outAtLast 42 = .ok (.istore_n 2, 1) by decide +kernel) rfl (by decide)) <|
  ok_c (sn_aload_n (show decode cX8_outAtLast 43 = .ok (.aload_n 0, 1) by decide +kernel) rfl) <|
  ok_c (sn_getT (j := 6) (fun _ _ => rfl) (sn_get ck_8 (by decide) (show decode cX8_outAtLast 44 = .ok (.getfield 51, 3) by decide +kernel) wd_2_130)) <|
  ok_c (sn_iload_n (show decode cX8_outAtLast 47 = .ok (.iload_n 2, 1) by decide +kernel) rfl) <|
  ok_c (sn_if_eq (show decode cX8_outAtLast 51 = .ok (.ifCond .eq 15, 3) by decide +kernel) (by decide)) <|
  ok_c (sn_aload_n (show decode cX8_outAtLast 54 = .ok (.aload_n 0, 1) by decide +kernel) rfl) <|
  ok_c (sn_getC (j := 3) (fun _ _ => rfl) (sn_get ck_8 (by decide) (show decode cX8_outAtLast 55 = .ok (.getfield 33, 3) by decide +kernel) wd_2_127)) <|
  ok_c (sn_getC (j := 11) (fun _ _ => rfl) (sn_get ck_2 (by decide) (show decode cX8_outAtLast 58 = .ok (.getfield 181, 3) by decide +kernel) wd_2_42)) <|
  ok_c (sn_iload_n (show decode cX8_outAtLast 61 = .ok (.iload_n 2, 1) by decide +kernel) rfl) <|
  ok_c (sn_iald (show decode cX8_outAtLast 62 = .ok (.iaload, 1) by decide +kernel)) <|
  ok_c (sn_goto (show decode cX8_outAtLast 63 = .ok (.goto 4, 3) by decide +kernel) (by decide)) <|
  ok_c (sn_iconst (v := 0) (show decode cX8_outAtLast 66 = .ok (.iconst 0, 1) by decide +kernel) (by decide +kernel)) <|
  ok_n
def uX8_outAtLast : gCT := [(4, YX2_supposeNothing, 1, some 2), (30, YX2_live, 3, some 2), (48, YX7_hasYear, 2, some 7)]
set_option maxRecDepth 100000 in
theorem ocX8_outAtLast : gOkC YX8_outAtLast uX8_outAtLast := oc_c (gEdge_V cal_X2_supposeNothing ck_2 rfl (show decode cX8_outAtLast 4 = .ok (.invokevirtual 260, 3) by decide +kernel) wd_3_106 wd_3_107 wd_3_108) <|
  oc_c (gEdge_V cal_X2_live ck_2 rfl (show decode cX8_outAtLast 30 = .ok (.invokevirtual 266, 3) by decide +kernel) wd_3_110 wd_3_111 wd_3_112) <|
  oc_c (gEdge_V cal_X7_hasYear ck_7 rfl (show decode cX8_outAtLast 48 = .ok (.invokevirtual 115, 3) by decide +kernel) wd_3_98 wd_3_99 wd_3_100) <|
  oc_n
theorem reX8_outAtLast : ∀ pc ∈ [67], decode cX8_outAtLast pc = .ok (.ireturn, 1) := by decide +kernel
