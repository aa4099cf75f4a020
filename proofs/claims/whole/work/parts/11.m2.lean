/-! steps and calls -/
def tX0_add : List (Nat × gStp) := [(0, i_aload 0 1), (1, i_getI 0 4 4), (4, i_if_lt 19 7), (7, i_aload 0 8), (8, i_getI 0 4 11), (11, i_aload 0 12), (12, i_getO 0 4 15), (15, i_alen 16), (16, i_ic_lt 20 19), (20, i_aload 0 21), (21, i_getO 0 1 24), (24, i_aload 0 25), (25, i_getI 0 4 28), (28, i_iload 1 29), (29, i_iast 30), (30, i_aload 0 31), (31, i_getO 0 2 34), (34, i_aload 0 35), (35, i_getI 0 4 38), (38, i_iload 2 39), (39, i_iast 40), (40, i_aload 0 41), (41, i_getO 0 3 44), (44, i_aload 0 45), (45, i_getI 0 4 48), (48, i_iload 3 49), (49, i_iast 50), (50, i_aload 0 51), (51, i_getO 0 4 54), (54, i_aload 0 55), (55, i_getI 0 4 58), (58, i_iload 4 60), (60, i_iast 61), (61, i_aload 0 62), (62, i_dup 63), (63, i_getI 0 4 66), (66, i_push (.int 1) 67), (67, i_ii (fun x y => x + y) 68), (68, i_putI 0 4 71)]
set_option maxRecDepth 100000 in
theorem okX0_add : gOk YX0_add tX0_add := ok_c (sn_aload_n (show decode cX0_add 0 = .ok (.aload_n 0, 1) by decide +kernel) rfl) <|
  ok_c (sn_getI (fun _ _ => rfl) (sn_get ck_0 (by decide) (show decode cX0_add 1 = .ok (.getfield 24, 3) by decide +kernel) wd_1_69)) <|
  ok_c (sn_if_lt (show decode cX0_add 4 = .ok (.ifCond .lt 15, 3) by decide +kernel) (by decide)) <|
  ok_c (sn_aload_n (show decode cX0_add 7 = .ok (.aload_n 0, 1) by decide +kernel) rfl) <|
  ok_c (sn_getI (fun _ _ => rfl) (sn_get ck_0 (by decide) (show decode cX0_add 8 = .ok (.getfield 24, 3) by decide +kernel) wd_1_69)) <|
  ok_c (sn_aload_n (show decode cX0_add 11 = .ok (.aload_n 0, 1) by decide +kernel) rfl) <|
  ok_c (sn_getO (j := 3) (fun _ _ => rfl) (sn_get ck_0 (by decide) (show decode cX0_add 12 = .ok (.getfield 21, 3) by decide +kernel) wd_1_67)) <|
  ok_c (sn_alen (show decode cX0_add 15 = .ok (.arraylength, 1) by decide +kernel)) <|
  ok_c (sn_ic_lt (show decode cX0_add 16 = .ok (.if_icmp .lt 4, 3) by decide +kernel) (by decide)) <|
  ok_c (sn_aload_n (show decode cX0_add 20 = .ok (.aload_n 0, 1) by decide +kernel) rfl) <|
  ok_c (sn_getO (j := 0) (fun _ _ => rfl) (sn_get ck_0 (by decide) (show decode cX0_add 21 = .ok (.getfield 9, 3) by decide +kernel) wd_1_61)) <|
  ok_c (sn_aload_n (show decode cX0_add 24 = .ok (.aload_n 0, 1) by decide +kernel) rfl) <|
  ok_c (sn_getI (fun _ _ => rfl) (sn_get ck_0 (by decide) (show decode cX0_add 25 = .ok (.getfield 24, 3) by decide +kernel) wd_1_69)) <|
  ok_c (sn_iload_n (show decode cX0_add 28 = .ok (.iload_n 1, 1) by decide +kernel) rfl) <|
  ok_c (sn_iast (show decode cX0_add 29 = .ok (.iastore, 1) by decide +kernel)) <|
  ok_c (sn_aload_n (show decode cX0_add 30 = .ok (.aload_n 0, 1) by decide +kernel) rfl) <|
  ok_c (sn_getO (j := 1) (fun _ _ => rfl) (sn_get ck_0 (by decide) (show decode cX0_add 31 = .ok (.getfield 15, 3) by decide +kernel) wd_1_63)) <|
  ok_c (sn_aload_n (show decode cX0_add 34 = .ok (.aload_n 0, 1) by decide +kernel) rfl) <|
  ok_c (sn_getI (fun _ _ => rfl) (sn_get ck_0 (by decide) (show decode cX0_add 35 = .ok (.getfield 24, 3) by decide +kernel) wd_1_69)) <|
  ok_c (sn_iload_n (show decode cX0_add 38 = .ok (.iload_n 2, 1) by decide +kernel) rfl) <|
  ok_c (sn_iast (show decode cX0_add 39 = .ok (.iastore, 1) by decide +kernel)) <|
  ok_c (sn_aload_n (show decode cX0_add 40 = .ok (.aload_n 0, 1) by decide +kernel) rfl) <|
  ok_c (sn_getO (j := 2) (fun _ _ => rfl) (sn_get ck_0 (by decide) (show decode cX0_add 41 = .ok (.getfield 18, 3) by decide +kernel) wd_1_65)) <|
  ok_c (sn_aload_n (show decode cX0_add 44 = .ok (.aload_n 0, 1) by decide +kernel) rfl) <|
  ok_c (sn_getI (fun _ _ => rfl) (sn_get ck_0 (by decide) (show decode cX0_add 45 = .ok (.getfield 24, 3) by decide +kernel) wd_1_69)) <|
  ok_c (sn_iload_n (show decode cX0_add 48 = .ok (.iload_n 3, 1) by decide +kernel) rfl) <|
  ok_c (sn_iast (show decode cX0_add 49 = .ok (.iastore, 1) by decide +kernel)) <|
  ok_c (sn_aload_n (show decode cX0_add 50 = .ok (.aload_n 0, 1) by decide +kernel) rfl) <|
  ok_c (sn_getO (j := 3) (fun _ _ => rfl) (sn_get ck_0 (by decide) (show decode cX0_add 51 = .ok (.getfield 21, 3) by decide +kernel) wd_1_67)) <|
  ok_c (sn_aload_n (show decode cX0_add 54 = .ok (.aload_n 0, 1) by decide +kernel) rfl) <|
  ok_c (sn_getI (fun _ _ => rfl) (sn_get ck_0 (by decide) (show decode cX0_add 55 = .ok (.getfield 24, 3) by decide +kernel) wd_1_69)) <|
  ok_c (sn_iload (show decode cX0_add 58 = .ok (.iload 4, 2) by decide +kernel)) <|
  ok_c (sn_iast (show decode cX0_add 60 = .ok (.iastore, 1) by decide +kernel)) <|
  ok_c (sn_aload_n (show decode cX0_add 61 = .ok (.aload_n 0, 1) by decide +kernel) rfl) <|
  ok_c (sn_dup (show decode cX0_add 62 = .ok (.dup, 1) by decide +kernel)) <|
  ok_c (sn_getI (fun _ _ => rfl) (sn_get ck_0 (by decide) (show decode cX0_add 63 = .ok (.getfield 24, 3) by decide +kernel) wd_1_69)) <|
  ok_c (sn_iconst (v := 1) (show decode cX0_add 66 = .ok (.iconst 1, 1) by decide +kernel) (by decide +kernel)) <|
  ok_c (sn_iadd (show decode cX0_add 67 = .ok (.iadd, 1) by decide +kernel)) <|
  ok_c (sn_putI ck_0 (by decide) rfl rfl (show decode cX0_add 68 = .ok (.putfield 24, 3) by decide +kernel) wd_1_69) <|
  ok_n
theorem reX0_add : ∀ pc ∈ [19, 71], decode cX0_add pc = .ok (.return_, 1) := by decide +kernel
def tX0_takeBack : List (Nat × gStp) := [(0, i_aload 0 1), (1, i_push (.int 0) 2), (2, i_aload 0 3), (3, i_getI 0 4 6), (6, i_push (.int 1) 7), (7, i_ii (fun x y => x - y) 8), (8, i_max 11), (11, i_putI 0 4 14)]
set_option maxRecDepth 100000 in
theorem okX0_takeBack : gOk YX0_takeBack tX0_takeBack := ok_c (sn_aload_n (show decode cX0_takeBack 0 = .ok (.aload_n 0, 1) by decide +kernel) rfl) <|
  ok_c (sn_iconst (v := 0) (show decode cX0_takeBack 1 = .ok (.iconst 0, 1) by decide +kernel) (by decide +kernel)) <|
  ok_c (sn_aload_n (show decode cX0_takeBack 2 = .ok (.aload_n 0, 1) by decide +kernel) rfl) <|
  ok_c (sn_getI (fun _ _ => rfl) (sn_get ck_0 (by decide) (show decode cX0_takeBack 3 = .ok (.getfield 24, 3) by decide +kernel) wd_1_69)) <|
  ok_c (sn_iconst (v := 1) (show decode cX0_takeBack 6 = .ok (.iconst 1, 1) by decide +kernel) (by decide +kernel)) <|
  ok_c (sn_isub (show decode cX0_takeBack 7 = .ok (.isub, 1) by decide +kernel)) <|
  ok_c (sn_max (show decode cX0_takeBack 8 = .ok (.invokestatic 28, 3) by decide +kernel) wd_5_82 wd_3_226 wd_1_11 wd_3_227) <|
  ok_c (sn_putI ck_0 (by decide) rfl rfl (show decode cX0_takeBack 11 = .ok (.putfield 24, 3) by decide +kernel) wd_1_69) <|
  ok_n
theorem reX0_takeBack : ∀ pc ∈ [14], decode cX0_takeBack pc = .ok (.return_, 1) := by decide +kernel
def tX0_cutOf : List (Nat × gStp) := [(0, i_push (.int 1000) 3), (3, i_istore 5 5), (5, i_push (.int 0) 6), (6, i_istore 6 8), (8, i_iload 6 10), (10, i_aload 0 11), (11, i_getI 0 4 14), (14, i_ic_ge 99 17), (17, i_aload 0 18), (18, i_getO 0 3 21), (21, i_iload 6 23), (23, i_iald 24), (24, i_iload 3 25), (25, i_ic_gt 46 28), (28, i_aload 0 29), (29, i_getO 0 3 32), (32, i_iload 6 34), (34, i_iald 35), (35, i_iload 3 36), (36, i_ic_ne 50 39), (39, i_iload 6 41), (41, i_iload 4 43), (43, i_ic_le 50 46), (46, i_push (.int 1) 47), (47, i_goto 51), (50, i_push (.int 0) 51), (51, i_istore 7 53), (53, i_aload 0 54), (54, i_getO 0 4 57), (57, i_iload 6 59), (59, i_iald 60), (60, i_if_ne 93 63), (63, i_iload 7 65), (65, i_if_eq 93 68), (68, i_aload 0 69), (69, i_iload 6 71), (71, i_iload 1 72), (72, i_iload 2 73), (76, i_if_eq 93 79), (79, i_iload 5 81), (81, i_aload 0 82), (82, i_getO 0 3 85), (85, i_iload 6 87), (87, i_iald 88), (88, i_min 91), (91, i_istore 5 93), (93, i_iinc 6 1 96), (96, i_goto 8), (99, i_iload 5 101)]
set_option maxRecDepth 100000 in
theorem okX0_cutOf : gOk YX0_cutOf tX0_cutOf := ok_c (sn_sipush (v := 1000) (show decode cX0_cutOf 0 = .ok (.sipush 1000, 3) by decide +kernel) (by decide +kernel)) <|
  ok_c (sn_istore (show decode cX0_cutOf 3 = .ok (.istore 5, 2) by decide +kernel) (by decide)) <|
  ok_c (sn_iconst (v := 0) (show decode cX0_cutOf 5 = .ok (.iconst 0, 1) by decide +kernel) (by decide +kernel)) <|
  ok_c (sn_istore (show decode cX0_cutOf 6 = .ok (.istore 6, 2) by decide +kernel) (by decide)) <|
  ok_c (sn_iload (show decode cX0_cutOf 8 = .ok (.iload 6, 2) by decide +kernel)) <|
  ok_c (sn_aload_n (show decode cX0_cutOf 10 = .ok (.aload_n 0, 1) by decide +kernel) rfl) <|
  ok_c (sn_getI (fun _ _ => rfl) (sn_get ck_0 (by decide) (show decode cX0_cutOf 11 = .ok (.getfield 24, 3) by decide +kernel) wd_1_69)) <|
  ok_c (sn_ic_ge (show decode cX0_cutOf 14 = .ok (.if_icmp .ge 85, 3) by decide +kernel) (by decide)) <|
  ok_c (sn_aload_n (show decode cX0_cutOf 17 = .ok (.aload_n 0, 1) by decide +kernel) rfl) <|
  ok_c (sn_getO (j := 2) (fun _ _ => rfl) (sn_get ck_0 (by decide) (show decode cX0_cutOf 18 = .ok (.getfield 18, 3) by decide +kernel) wd_1_65)) <|
  ok_c (sn_iload (show decode cX0_cutOf 21 = .ok (.iload 6, 2) by decide +kernel)) <|
  ok_c (sn_iald (show decode cX0_cutOf 23 = .ok (.iaload, 1) by decide +kernel)) <|
  ok_c (sn_iload_n (show decode cX0_cutOf 24 = .ok (.iload_n 3, 1) by decide +kernel) rfl) <|
  ok_c (sn_ic_gt (show decode cX0_cutOf 25 = .ok (.if_icmp .gt 21, 3) by decide +kernel) (by decide)) <|
  ok_c (sn_aload_n (show decode cX0_cutOf 28 = .ok (.aload_n 0, 1) by decide +kernel) rfl) <|
  ok_c (sn_getO (j := 2) (fun _ _ => rfl) (sn_get ck_0 (by decide) (show decode cX0_cutOf 29 = .ok (.getfield 18, 3) by decide +kernel) wd_1_65)) <|
  ok_c (sn_iload (show decode cX0_cutOf 32 = .ok (.iload 6, 2) by decide +kernel)) <|
  ok_c (sn_iald (show decode cX0_cutOf 34 = .ok (.iaload, 1) by decide +kernel)) <|
  ok_c (sn_iload_n (show decode cX0_cutOf 35 = .ok (.iload_n 3, 1) by decide +kernel) rfl) <|
  ok_c (sn_ic_ne (show decode cX0_cutOf 36 = .ok (.if_icmp .ne 14, 3) by decide +kernel) (by decide)) <|
  ok_c (sn_iload (show decode cX0_cutOf 39 = .ok (.iload 6, 2) by decide +kernel)) <|
  ok_c (sn_iload (show decode cX0_cutOf 41 = .ok (.iload 4, 2) by decide +kernel)) <|
  ok_c (sn_ic_le (show decode cX0_cutOf 43 = .ok (.if_icmp .le 7, 3) by decide +kernel) (by decide)) <|
  ok_c (sn_iconst (v := 1) (show decode cX0_cutOf 46 = .ok (.iconst 1, 1) by decide +kernel) (by decide +kernel)) <|
  ok_c (sn_goto (show decode cX0_cutOf 47 = .ok (.goto 4, 3) by decide +kernel) (by decide)) <|
  ok_c (sn_iconst (v := 0) (show decode cX0_cutOf 50 = .ok (.iconst 0, 1) by decide +kernel) (by decide +kernel)) <|
  ok_c (sn_istore (show decode cX0_cutOf 51 = .ok (.istore 7, 2) by decide +kernel) (by decide)) <|
  ok_c (sn_aload_n (show decode cX0_cutOf 53 = .ok (.aload_n 0, 1) by decide +kernel) rfl) <|
  ok_c (sn_getO (j := 3) (fun _ _ => rfl) (sn_get ck_0 (by decide) (show decode cX0_cutOf 54 = .ok (.getfield 21, 3) by decide +kernel) wd_1_67)) <|
  ok_c (sn_iload (show decode cX0_cutOf 57 = .ok (.iload 6, 2) by decide +kernel)) <|
  ok_c (sn_iald (show decode cX0_cutOf 59 = .ok (.iaload, 1) by decide +kernel)) <|
  ok_c (sn_if_ne (show decode cX0_cutOf 60 = .ok (.ifCond .ne 33, 3) by decide +kernel) (by decide)) <|
  ok_c (sn_iload (show decode cX0_cutOf 63 = .ok (.iload 7, 2) by decide +kernel)) <|
  ok_c (sn_if_eq (show decode cX0_cutOf 65 = .ok (.ifCond .eq 28, 3) by decide +kernel) (by decide)) <|
  ok_c (sn_aload_n (show decode cX0_cutOf 68 = .ok (.aload_n 0, 1) by decide +kernel) rfl) <|
  ok_c (sn_iload (show decode cX0_cutOf 69 = .ok (.iload 6, 2) by decide +kernel)) <|
  ok_c (sn_iload_n (show decode cX0_cutOf 71 = .ok (.iload_n 1, 1) by decide +kernel) rfl) <|
  ok_c (sn_iload_n (show decode cX0_cutOf 72 = .ok (.iload_n 2, 1) by decide +kernel) rfl) <|
  ok_c (sn_if_eq (show decode cX0_cutOf 76 = .ok (.ifCond .eq 17, 3) by decide +kernel) (by decide)) <|
  ok_c (sn_iload (show decode cX0_cutOf 79 = .ok (.iload 5, 2) by decide +kernel)) <|
  ok_c (sn_aload_n (show decode cX0_cutOf 81 = .ok (.aload_n 0, 1) by decide +kernel) rfl) <|
  ok_c (sn_getO (j := 2) (fun _ _ => rfl) (sn_get ck_0 (by decide) (show decode cX0_cutOf 82 = .ok (.getfield 18, 3) by decide +kernel) wd_1_65)) <|
  ok_c (sn_iload (show decode cX0_cutOf 85 = .ok (.iload 6, 2) by decide +kernel)) <|
  ok_c (sn_iald (show decode cX0_cutOf 87 = .ok (.iaload, 1) by decide +kernel)) <|
  ok_c (sn_min (show decode cX0_cutOf 88 = .ok (.invokestatic 38, 3) by decide +kernel) wd_3_133 wd_2_198 wd_1_11 wd_2_199) <|
  ok_c (sn_istore (show decode cX0_cutOf 91 = .ok (.istore 5, 2) by decide +kernel) (by decide)) <|
  ok_c (sn_iinc (show decode cX0_cutOf 93 = .ok (.iinc 6 1, 3) by decide +kernel) (by decide) (by decide +kernel)) <|
  ok_c (sn_goto (show decode cX0_cutOf 96 = .ok (.goto (-88), 3) by decide +kernel) (by decide)) <|
  ok_c (sn_iload (show decode cX0_cutOf 99 = .ok (.iload 5, 2) by decide +kernel)) <|
  ok_n
def uX0_cutOf : gCT := [(73, YX0_isOf, 4, some 0)]
set_option maxRecDepth 100000 in
theorem ocX0_cutOf : gOkC YX0_cutOf uX0_cutOf := oc_c (gEdge_V cal_X0_isOf ck_0 rfl (show decode cX0_cutOf 73 = .ok (.invokevirtual 34, 3) by decide +kernel) wd_3_129 wd_3_131 wp_2_0) <|
  oc_n
theorem reX0_cutOf : ∀ pc ∈ [101], decode cX0_cutOf pc = .ok (.ireturn, 1) := by decide +kernel
def tX0_isOf : List (Nat × gStp) := [(0, i_aload 0 1), (1, i_getO 0 1 4), (4, i_iload 1 5), (5, i_iald 6), (6, i_iload 2 7), (7, i_ic_ne 20 10), (10, i_aload 0 11), (11, i_getO 0 2 14), (14, i_iload 1 15), (15, i_iald 16), (16, i_iload 3 17), (17, i_ic_eq 40 20), (20, i_aload 0 21), (21, i_getO 0 1 24), (24, i_iload 1 25), (25, i_iald 26), (26, i_iload 3 27), (27, i_ic_ne 44 30), (30, i_aload 0 31), (31, i_getO 0 2 34), (34, i_iload 1 35), (35, i_iald 36), (36, i_iload 2 37), (37, i_ic_ne 44 40), (40, i_push (.int 1) 41), (41, i_goto 45), (44, i_push (.int 0) 45)]
set_option maxRecDepth 100000 in
theorem okX0_isOf : gOk YX0_isOf tX0_isOf := ok_c (sn_aload_n (show decode cX0_isOf 0 = .ok (.aload_n 0, 1) by decide +kernel) rfl) <|
  ok_c (sn_getO (j := 0) (fun _ _ => rfl) (sn_get ck_0 (by decide) (show decode cX0_isOf 1 = .ok (.getfield 9, 3) by decide +kernel) wd_1_61)) <|
  ok_c (sn_iload_n (show decode cX0_isOf 4 = .ok (.iload_n 1, 1) by decide +kernel) rfl) <|
  ok_c (sn_iald (show decode cX0_isOf 5 = .ok (.iaload, 1) by decide +kernel)) <|
  ok_c (sn_iload_n (show decode cX0_isOf 6 = .ok (.iload_n 2, 1) by decide +kernel) rfl) <|
  ok_c (sn_ic_ne (show decode cX0_isOf 7 = .ok (.if_icmp .ne 13, 3) by decide +kernel) (by decide)) <|
  ok_c (sn_aload_n (show decode cX0_isOf 10 = .ok (.aload_n 0, 1) by decide +kernel) rfl) <|
  ok_c (sn_getO (j := 1) (fun _ _ => rfl) (sn_get ck_0 (by decide) (show decode cX0_isOf 11 = .ok (.getfield 15, 3) by decide +kernel) wd_1_63)) <|
  ok_c (sn_iload_n (show decode cX0_isOf 14 = .ok (.iload_n 1, 1) by decide +kernel) rfl) <|
  ok_c (sn_iald (show decode cX0_isOf 15 = .ok (.iaload, 1) by decide +kernel)) <|
  ok_c (sn_iload_n (show decode cX0_isOf 16 = .ok (.iload_n 3, 1) by decide +kernel) rfl) <|
  ok_c (sn_ic_eq (show decode cX0_isOf 17 = .ok (.if_icmp .eq 23, 3) by decide +kernel) (by decide)) <|
  ok_c (sn_aload_n (show decode cX0_isOf 20 = .ok (.aload_n 0, 1) by decide +kernel) rfl) <|
  ok_c (sn_getO (j := 0) (fun _ _ => rfl) (sn_get ck_0 (by decide) (show decode cX0_isOf 21 = .ok (.getfield 9, 3) by decide +kernel) wd_1_61)) <|
  ok_c (sn_iload_n (show decode cX0_isOf 24 = .ok (.iload_n 1, 1) by decide +kernel) rfl) <|
  ok_c (sn_iald (show decode cX0_isOf 25 = .ok (.iaload, 1) by decide +kernel)) <|
  ok_c (sn_iload_n (show decode cX0_isOf 26 = .ok (.iload_n 3, 1) by decide +kernel) rfl) <|
  ok_c (sn_ic_ne (show decode cX0_isOf 27 = .ok (.if_icmp .ne 17, 3) by decide +kernel) (by decide)) <|
  ok_c (sn_aload_n (show decode cX0_isOf 30 = .ok (.aload_n 0, 1) by decide +kernel) rfl) <|
  ok_c (sn_getO (j := 1) (fun _ _ => rfl) (sn_get ck_0 (by decide) (show decode cX0_isOf 31 = .ok (.getfield 15, 3) by decide +kernel) wd_1_63)) <|
  ok_c (sn_iload_n (show decode cX0_isOf 34 = .ok (.iload_n 1, 1) by decide +kernel) rfl) <|
  ok_c (sn_iald (show decode cX0_isOf 35 = .ok (.iaload, 1) by decide +kernel)) <|
  ok_c (sn_iload_n (show decode cX0_isOf 36 = .ok (.iload_n 2, 1) by decide +kernel) rfl) <|
  ok_c (sn_ic_ne (show decode cX0_isOf 37 = .ok (.if_icmp .ne 7, 3) by decide +kernel) (by decide)) <|
  ok_c (sn_iconst (v := 1) (show decode cX0_isOf 40 = .ok (.iconst 1, 1) by decide +kernel) (by decide +kernel)) <|
  ok_c (sn_goto (show decode cX0_isOf 41 = .ok (.goto 4, 3) by decide +kernel) (by decide)) <|
  ok_c (sn_iconst (v := 0) (show decode cX0_isOf 44 = .ok (.iconst 0, 1) by decide +kernel) (by decide +kernel)) <|
  ok_n
theorem reX0_isOf : ∀ pc ∈ [45], decode cX0_isOf pc = .ok (.ireturn, 1) := by decide +kernel
def tX0_copyFrom : List (Nat × gStp) := [(0, i_aload 0 1), (1, i_aload 1 2), (2, i_getI 0 4 5), (5, i_putI 0 4 8), (8, i_aload 1 9), (9, i_getO 0 1 12), (12, i_aload 0 13), (13, i_getO 0 1 16), (19, i_aload 1 20), (20, i_getO 0 2 23), (23, i_aload 0 24), (24, i_getO 0 2 27), (30, i_aload 1 31), (31, i_getO 0 3 34), (34, i_aload 0 35), (35, i_getO 0 3 38), (41, i_aload 1 42), (42, i_getO 0 4 45), (45, i_aload 0 46), (46, i_getO 0 4 49)]
set_option maxRecDepth 100000 in
theorem okX0_copyFrom : gOk YX0_copyFrom tX0_copyFrom := ok_c (sn_aload_n (show decode cX0_copyFrom 0 = .ok (.aload_n 0, 1) by decide +kernel) rfl) <|
  ok_c (sn_aload_n (show decode cX0_copyFrom 1 = .ok (.aload_n 1, 1) by decide +kernel) rfl) <|
  ok_c (sn_getI (fun _ _ => rfl) (sn_get ck_0 (by decide) (show decode cX0_copyFrom 2 = .ok (.getfield 24, 3) by decide +kernel) wd_1_69)) <|
  ok_c (sn_putI ck_0 (by decide) rfl rfl (show decode cX0_copyFrom 5 = .ok (.putfield 24, 3) by decide +kernel) wd_1_69) <|
  ok_c (sn_aload_n (show decode cX0_copyFrom 8 = .ok (.aload_n 1, 1) by decide +kernel) rfl) <|
  ok_c (sn_getO (j := 0) (fun _ _ => rfl) (sn_get ck_0 (by decide) (show decode cX0_copyFrom 9 = .ok (.getfield 9, 3) by decide +kernel) wd_1_61)) <|
  ok_c (sn_aload_n (show decode cX0_copyFrom 12 = .ok (.aload_n 0, 1) by decide +kernel) rfl) <|
  ok_c (sn_getO (j := 0) (fun _ _ => rfl) (sn_get ck_0 (by decide) (show decode cX0_copyFrom 13 = .ok (.getfield 9, 3) by decide +kernel) wd_1_61)) <|
  ok_c (sn_aload_n (show decode cX0_copyFrom 19 = .ok (.aload_n 1, 1) by decide +kernel) rfl) <|
  ok_c (sn_getO (j := 1) (fun _ _ => rfl) (sn_get ck_0 (by decide) (show decode cX0_copyFrom 20 = .ok (.getfield 15, 3) by decide +kernel) wd_1_63)) <|
  ok_c (sn_aload_n (show decode cX0_copyFrom 23 = .ok (.aload_n 0, 1) by decide +kernel) rfl) <|
  ok_c (sn_getO (j := 1) (fun _ _ => rfl) (sn_get ck_0 (by decide) (show decode cX0_copyFrom 24 = .ok (.getfield 15, 3) by decide +kernel) wd_1_63)) <|
  ok_c (sn_aload_n (show decode cX0_copyFrom 30 = .ok (.aload_n 1, 1) by decide +kernel) rfl) <|
  ok_c (sn_getO (j := 2) (fun _ _ => rfl) (sn_get ck_0 (by decide) (show decode cX0_copyFrom 31 = .ok (.getfield 18, 3) by decide +kernel) wd_1_65)) <|
  ok_c (sn_aload_n (show decode cX0_copyFrom 34 = .ok (.aload_n 0, 1) by decide +kernel) rfl) <|
  ok_c (sn_getO (j := 2) (fun _ _ => rfl) (sn_get ck_0 (by decide) (show decode cX0_copyFrom 35 = .ok (.getfield 18, 3) by decide +kernel) wd_1_65)) <|
  ok_c (sn_aload_n (show decode cX0_copyFrom 41 = .ok (.aload_n 1, 1) by decide +kernel) rfl) <|
  ok_c (sn_getO (j := 3) (fun _ _ => rfl) (sn_get ck_0 (by decide) (show decode cX0_copyFrom 42 = .ok (.getfield 21, 3) by decide +kernel) wd_1_67)) <|
  ok_c (sn_aload_n (show decode cX0_copyFrom 45 = .ok (.aload_n 0, 1) by decide +kernel) rfl) <|
  ok_c (sn_getO (j := 3) (fun _ _ => rfl) (sn_get ck_0 (by decide) (show decode cX0_copyFrom 46 = .ok (.getfield 21, 3) by decide +kernel) wd_1_67)) <|
  ok_n
def uX0_copyFrom : gCT := [(16, YX7_copy, 2, none), (27, YX7_copy, 2, none), (38, YX7_copy, 2, none), (49, YX7_copy, 2, none)]
set_option maxRecDepth 100000 in
theorem ocX0_copyFrom : gOkC YX0_copyFrom uX0_copyFrom := oc_c (gEdge_S cal_X7_copy (show decode cX0_copyFrom 16 = .ok (.invokestatic 41, 3) by decide +kernel) wd_5_179 wd_5_169) <|
  oc_c (gEdge_S cal_X7_copy (show decode cX0_copyFrom 27 = .ok (.invokestatic 41, 3) by decide +kernel) wd_5_179 wd_5_169) <|
  oc_c (gEdge_S cal_X7_copy (show decode cX0_copyFrom 38 = .ok (.invokestatic 41, 3) by decide +kernel) wd_5_179 wd_5_169) <|
  oc_c (gEdge_S cal_X7_copy (show decode cX0_copyFrom 49 = .ok (.invokestatic 41, 3) by decide +kernel) wd_5_179 wd_5_169) <|
  oc_n
theorem reX0_copyFrom : ∀ pc ∈ [52], decode cX0_copyFrom pc = .ok (.return_, 1) := by decide +kernel
def tX1_fits : List (Nat × gStp) := [(0, i_iload 1 1), (1, i_if_ne 6 4), (4, i_push (.int 1) 5), (6, i_aload 0 7), (7, i_iload 1 8), (8, i_aload 0 9), (9, i_getI 7 2 12), (12, i_iload 1 13), (16, i_push (.int 1) 17), (17, i_ii (fun x y => x - y) 18), (21, i_aload 0 22), (22, i_getO 7 7 25), (25, i_iload 2 26), (26, i_iald 27), (27, i_ic_gt 34 30), (30, i_push (.int 1) 31), (31, i_goto 35), (34, i_push (.int 0) 35)]
set_option maxRecDepth 100000 in
theorem okX1_fits : gOk YX1_fits tX1_fits := ok_c (sn_iload_n (show decode cX1_fits 0 = .ok (.iload_n 1, 1) by decide +kernel) rfl) <|
  ok_c (sn_if_ne (show decode cX1_fits 1 = .ok (.ifCond .ne 5, 3) by decide +kernel) (by decide)) <|
  ok_c (sn_iconst (v := 1) (show decode cX1_fits 4 = .ok (.iconst 1, 1) by decide +kernel) (by decide +kernel)) <|
  ok_c (sn_aload_n (show decode cX1_fits 6 = .ok (.aload_n 0, 1) by decide +kernel) rfl) <|
  ok_c (sn_iload_n (show decode cX1_fits 7 = .ok (.iload_n 1, 1) by decide +kernel) rfl) <|
  ok_c (sn_aload_n (show decode cX1_fits 8 = .ok (.aload_n 0, 1) by decide +kernel) rfl) <|
  ok_c (sn_getI (fun _ _ => rfl) (sn_get ck_7 (by decide) (show decode cX1_fits 9 = .ok (.getfield 18, 3) by decide +kernel) wd_1_91)) <|
  ok_c (sn_iload_n (show decode cX1_fits 12 = .ok (.iload_n 1, 1) by decide +kernel) rfl) <|
  ok_c (sn_iconst (v := 1) (show decode cX1_fits 16 = .ok (.iconst 1, 1) by decide +kernel) (by decide +kernel)) <|
  ok_c (sn_isub (show decode cX1_fits 17 = .ok (.isub, 1) by decide +kernel)) <|
  ok_c (sn_aload_n (show decode cX1_fits 21 = .ok (.aload_n 0, 1) by decide +kernel) rfl) <|
  ok_c (sn_getO (j := 15) (fun _ _ => rfl) (sn_get ck_7 (by decide) (show decode cX1_fits 22 = .ok (.getfield 34, 3) by decide +kernel) wd_1_147)) <|
  ok_c (sn_iload_n (show decode cX1_fits 25 = .ok (.iload_n 2, 1) by decide +kernel) rfl) <|
  ok_c (sn_iald (show decode cX1_fits 26 = .ok (.iaload, 1) by decide +kernel)) <|
  ok_c (sn_ic_gt (show decode cX1_fits 27 = .ok (.if_icmp .gt 7, 3) by decide +kernel) (by decide)) <|
  ok_c (sn_iconst (v := 1) (show decode cX1_fits 30 = .ok (.iconst 1, 1) by decide +kernel) (by decide +kernel)) <|
  ok_c (sn_goto (show decode cX1_fits 31 = .ok (.goto 4, 3) by decide +kernel) (by decide)) <|
  ok_c (sn_iconst (v := 0) (show decode cX1_fits 34 = .ok (.iconst 0, 1) by decide +kernel) (by decide +kernel)) <|
  ok_n
def uX1_fits : gCT := [(13, YJ6_bitCount_0f7a4, 1, none), (18, YX7_widthOf, 4, some 7)]
set_option maxRecDepth 100000 in
theorem ocX1_fits : gOkC YX1_fits uX1_fits := oc_c (gEdge_S cal_J6_bitCount_0f7a4 (show decode cX1_fits 13 = .ok (.invokestatic 24, 3) by decide +kernel) wd_4_89 wd_3_229) <|
  oc_c (gEdge_V cal_X7_widthOf ck_7 rfl (show decode cX1_fits 18 = .ok (.invokevirtual 30, 3) by decide +kernel) wd_4_90 wd_3_221 wd_3_222) <|
  oc_n
theorem reX1_fits : ∀ pc ∈ [5, 35], decode cX1_fits pc = .ok (.ireturn, 1) := by decide +kernel
def tX1_setWorth : List (Nat × gStp) := [(0, i_aload 0 1), (1, i_iload 1 2), (2, i_iload 2 3), (6, i_if_eq 17 9), (9, i_aload 0 10), (10, i_iload 1 11), (14, i_goto 18), (17, i_push (.int 0) 18)]
set_option maxRecDepth 100000 in
theorem okX1_setWorth : gOk YX1_setWorth tX1_setWorth := ok_c (sn_aload_n (show decode cX1_setWorth 0 = .ok (.aload_n 0, 1) by decide +kernel) rfl) <|
  ok_c (sn_iload_n (show decode cX1_setWorth 1 = .ok (.iload_n 1, 1) by decide +kernel) rfl) <|
  ok_c (sn_iload_n (show decode cX1_setWorth 2 = .ok (.iload_n 2, 1) by decide +kernel) rfl) <|
  ok_c (sn_if_eq (show decode cX1_setWorth 6 = .ok (.ifCond .eq 11, 3) by decide +kernel) (by decide)) <|
  ok_c (sn_aload_n (show decode cX1_setWorth 9 = .ok (.aload_n 0, 1) by decide +kernel) rfl) <|
  ok_c (sn_iload_n (show decode cX1_setWorth 10 = .ok (.iload_n 1, 1) by decide +kernel) rfl) <|
  ok_c (sn_goto (show decode cX1_setWorth 14 = .ok (.goto 4, 3) by decide +kernel) (by decide)) <|
  ok_c (sn_iconst (v := 0) (show decode cX1_setWorth 17 = .ok (.iconst 0, 1) by decide +kernel) (by decide +kernel)) <|
  ok_n
def uX1_setWorth : gCT := [(3, YX1_fits, 3, none), (11, YX7_toldWorth, 2, some 7)]
set_option maxRecDepth 100000 in
theorem ocX1_setWorth : gOkC YX1_setWorth uX1_setWorth := oc_c (gEdge_S cal_X1_fits (show decode cX1_setWorth 3 = .ok (.invokestatic 37, 3) by decide +kernel) wd_4_86 wd_4_87) <|
  oc_c (gEdge_V cal_X7_toldWorth ck_7 rfl (show decode cX1_setWorth 11 = .ok (.invokevirtual 41, 3) by decide +kernel) wd_4_91 wd_4_92 wd_4_93) <|
  oc_n
theorem reX1_setWorth : ∀ pc ∈ [18], decode cX1_setWorth pc = .ok (.ireturn, 1) := by decide +kernel
def tX1_bestSet : List (Nat × gStp) := [(0, i_push (.int 0) 1), (1, i_istore 2 2), (2, i_push (.int 0) 3), (3, i_istore 3 4), (4, i_push (.int 0) 5), (5, i_istore 4 7), (7, i_iload 4 9), (9, i_push (.int 1) 10), (10, i_aload 0 11), (11, i_getI 7 5 14), (14, i_ii (fun x y => x <<< (y &&& 31)) 15), (15, i_ic_ge 45 18), (18, i_aload 0 19), (19, i_iload 4 21), (21, i_iload 1 22), (25, i_istore 5 27), (27, i_iload 5 29), (29, i_iload 3 30), (30, i_ic_le 39 33), (33, i_iload 4 35), (35, i_istore 2 36), (36, i_iload 5 38), (38, i_istore 3 39), (39, i_iinc 4 1 42), (42, i_goto 7), (45, i_iload 2 46)]
set_option maxRecDepth 100000 in
theorem okX1_bestSet : gOk YX1_bestSet tX1_bestSet := ok_c (sn_iconst (v := 0) (show decode cX1_bestSet 0 = .ok (.iconst 0, 1) by decide +kernel) (by decide +kernel)) <|
  ok_c (sn_istore_n (show decode cX1_bestSet 1 = .ok (.istore_n 2, 1) by decide +kernel) rfl (by decide)) <|
  ok_c (sn_iconst (v := 0) (show decode cX1_bestSet 2 = .ok (.iconst 0, 1) by decide +kernel) (by decide +kernel)) <|
  ok_c (sn_istore_n (show decode cX1_bestSet 3 = .ok (.istore_n 3, 1) by decide +kernel) rfl (by decide)) <|
  ok_c (sn_iconst (v := 0) (show decode cX1_bestSet 4 = .ok (.iconst 0, 1) by decide +kernel) (by decide +kernel)) <|
  ok_c (sn_istore (show decode cX1_bestSet 5 = .ok (.istore 4, 2) by decide +kernel) (by decide)) <|
  ok_c (sn_iload (show decode cX1_bestSet 7 = .ok (.iload 4, 2) by decide +kernel)) <|
  ok_c (sn_iconst (v := 1) (show decode cX1_bestSet 9 = .ok (.iconst 1, 1) by decide +kernel) (by decide +kernel)) <|
  ok_c (sn_aload_n (show decode cX1_bestSet 10 = .ok (.aload_n 0, 1) by decide +kernel) rfl) <|
  ok_c (sn_getI (fun _ _ => rfl) (sn_get ck_7 (by decide) (show decode cX1_bestSet 11 = .ok (.getfield 44, 3) by decide +kernel) wd_1_105)) <|
  ok_c (sn_ishl (show decode cX1_bestSet 14 = .ok (.ishl, 1) by decide +kernel)) <|
  ok_c (sn_ic_ge (show decode cX1_bestSet 15 = .ok (.if_icmp .ge 30, 3) by decide +kernel) (by decide)) <|
  ok_c (sn_aload_n (show decode cX1_bestSet 18 = .ok (.aload_n 0, 1) by decide +kernel) rfl) <|
  ok_c (sn_iload (show decode cX1_bestSet 19 = .ok (.iload 4, 2) by decide +kernel)) <|
  ok_c (sn_iload_n (show decode cX1_bestSet 21 = .ok (.iload_n 1, 1) by decide +kernel) rfl) <|
  ok_c (sn_istore (show decode cX1_bestSet 25 = .ok (.istore 5, 2) by decide +kernel) (by decide)) <|
  ok_c (sn_iload (show decode cX1_bestSet 27 = .ok (.iload 5, 2) by decide +kernel)) <|
  ok_c (sn_iload_n (show decode cX1_bestSet 29 = .ok (.iload_n 3, 1) by decide +kernel) rfl) <|
  ok_c (sn_ic_le (show decode cX1_bestSet 30 = .ok (.if_icmp .le 9, 3) by decide +kernel) (by decide)) <|
  ok_c (sn_iload (show decode cX1_bestSet 33 = .ok (.iload 4, 2) by decide +kernel)) <|
  ok_c (sn_istore_n (show decode cX1_bestSet 35 = .ok (.istore_n 2, 1) by decide +kernel) rfl (by decide)) <|
  ok_c (sn_iload (show decode cX1_bestSet 36 = .ok (.iload 5, 2) by decide +kernel)) <|
  ok_c (sn_istore_n (show decode cX1_bestSet 38 = .ok (.istore_n 3, 1) by decide +kernel) rfl (by decide)) <|
  ok_c (sn_iinc (show decode cX1_bestSet 39 = .ok (.iinc 4 1, 3) by decide +kernel) (by decide) (by decide +kernel)) <|
  ok_c (sn_goto (show decode cX1_bestSet 42 = .ok (.goto (-35), 3) by decide +kernel) (by decide)) <|
  ok_c (sn_iload_n (show decode cX1_bestSet 45 = .ok (.iload_n 2, 1) by decide +kernel) rfl) <|
  ok_n
def uX1_bestSet : gCT := [(22, YX1_setWorth, 3, none)]
set_option maxRecDepth 100000 in
theorem ocX1_bestSet : gOkC YX1_bestSet uX1_bestSet := oc_c (gEdge_S cal_X1_setWorth (show decode cX1_bestSet 22 = .ok (.invokestatic 47, 3) by decide +kernel) wd_4_83 wd_4_84) <|
  oc_n
theorem reX1_bestSet : ∀ pc ∈ [46], decode cX1_bestSet pc = .ok (.ireturn, 1) := by decide +kernel
def tX1_part : List (Nat × gStp) := [(0, i_aload 0 1), (1, i_getC 1 62 4), (4, i_push (.int 0) 5), (5, i_push (.int 0) 6), (6, i_iast 7), (7, i_aload 0 8), (8, i_getC 1 63 11), (11, i_push (.int 0) 12), (12, i_push (.int 1) 13), (13, i_iast 14), (14, i_push (.int 1) 15), (15, i_istore 3 16), (16, i_iload 3 17), (17, i_push (.int 1) 18), (18, i_aload 1 19), (19, i_getI 7 5 22), (22, i_ii (fun x y => x <<< (y &&& 31)) 23), (23, i_ic_ge 117 26), (26, i_aload 0 27), (27, i_getC 1 62 30), (30, i_iload 3 31), (31, i_push (.int (-1)) 32), (32, i_iast 33), (33, i_aload 0 34), (34, i_getC 1 63 37), (37, i_iload 3 38), (38, i_push (.int 0) 39), (39, i_iast 40), (40, i_iload 3 41), (41, i_iload 3 42), (42, i_i (fun x => -x) 43), (43, i_ii (fun x y => x &&& y) 44), (44, i_istore 4 46), (46, i_push (.int 1) 47), (47, i_istore 5 49), (49, i_iload 5 51), (51, i_iload 3 52), (52, i_ic_gt 111 55), (55, i_iload 5 57), (57, i_iload 4 59), (59, i_ii (fun x y => x &&& y) 60), (60, i_if_eq 76 63), (63, i_iload 5 65), (65, i_iload 3 66), (66, i_push (.int (-1)) 67), (67, i_ii (fun x y => x ^^^ y) 68), (68, i_ii (fun x y => x &&& y) 69), (69, i_if_ne 76 72), (72, i_push (.int 1) 73), (73, i_goto 77), (76, i_push (.int 0) 77), (77, i_istore 6 79), (79, i_iload 6 81), (81, i_if_eq 105 84), (84, i_aload 1 85), (85, i_iload 5 87), (87, i_iload 2 88), (91, i_if_eq 105 94), (94, i_aload 0 95), (95, i_iload 3 96), (96, i_iload 3 97), (97, i_iload 5 99), (99, i_push (.int (-1)) 100), (100, i_ii (fun x y => x ^^^ y) 101), (101, i_ii (fun x y => x &&& y) 102), (105, i_iinc 5 1 108), (108, i_goto 49), (111, i_iinc 3 1 114), (114, i_goto 16)]
set_option maxRecDepth 100000 in
theorem okX1_part : gOk YX1_part tX1_part := ok_c (sn_aload_n (show decode cX1_part 0 = .ok (.aload_n 0, 1) by decide +kernel) rfl) <|
  ok_c (sn_getC (j := 0) (fun _ _ => rfl) (sn_get ck_1 (by decide) (show decode cX1_part 1 = .ok (.getfield 9, 3) by decide +kernel) wd_2_93)) <|
  ok_c (sn_iconst (v := 0) (show decode cX1_part 4 = .ok (.iconst 0, 1) by decide +kernel) (by decide +kernel)) <|
  ok_c (sn_iconst (v := 0) (show decode cX1_part 5 = .ok (.iconst 0, 1) by decide +kernel) (by decide +kernel)) <|
  ok_c (sn_iast (show decode cX1_part 6 = .ok (.iastore, 1) by decide +kernel)) <|
  ok_c (sn_aload_n (show decode cX1_part 7 = .ok (.aload_n 0, 1) by decide +kernel) rfl) <|
  ok_c (sn_getC (j := 1) (fun _ _ => rfl) (sn_get ck_1 (by decide) (show decode cX1_part 8 = .ok (.getfield 15, 3) by decide +kernel) wd_2_95)) <|
  ok_c (sn_iconst (v := 0) (show decode cX1_part 11 = .ok (.iconst 0, 1) by decide +kernel) (by decide +kernel)) <|
  ok_c (sn_iconst (v := 1) (show decode cX1_part 12 = .ok (.iconst 1, 1) by decide +kernel) (by decide +kernel)) <|
  ok_c (sn_iast (show decode cX1_part 13 = .ok (.iastore, 1) by decide +kernel)) <|
  ok_c (sn_iconst (v := 1) (show decode cX1_part 14 = .ok (.iconst 1, 1) by decide +kernel) (by decide +kernel)) <|
  ok_c (sn_istore_n (show decode cX1_part 15 = .ok (.istore_n 3, 1) by decide +kernel) rfl (by decide)) <|
  ok_c (sn_iload_n (show decode cX1_part 16 = .ok (.iload_n 3, 1) by decide +kernel) rfl) <|
  ok_c (sn_iconst (v := 1) (show decode cX1_part 17 = .ok (.iconst 1, 1) by decide +kernel) (by decide +kernel)) <|
  ok_c (sn_aload_n (show decode cX1_part 18 = .ok (.aload_n 1, 1) by decide +kernel) rfl) <|
  ok_c (sn_getI (fun _ _ => rfl) (sn_get ck_7 (by decide) (show decode cX1_part 19 = .ok (.getfield 44, 3) by decide +kernel) wd_1_105)) <|
  ok_c (sn_ishl (show decode cX1_part 22 = .ok (.ishl, 1) by decide +kernel)) <|
  ok_c (sn_ic_ge (show decode cX1_part 23 = .ok (.if_icmp .ge 94, 3) by decide +kernel) (by decide)) <|
  ok_c (sn_aload_n (show decode cX1_part 26 = .ok (.aload_n 0, 1) by decide +kernel) rfl) <|
  ok_c (sn_getC (j := 0) (fun _ _ => rfl) (sn_get ck_1 (by decide) (show decode cX1_part 27 = .ok (.getfield 9, 3) by decide +kernel) wd_2_93)) <|
  ok_c (sn_iload_n (show decode cX1_part 30 = .ok (.iload_n 3, 1) by decide +kernel) rfl) <|
  ok_c (sn_iconst (v := (-1)) (show decode cX1_part 31 = .ok (.iconst (-1), 1) by decide +kernel) (by decide +kernel)) <|
  ok_c (sn_iast (show decode cX1_part 32 = .ok (.iastore, 1) by decide +kernel)) <|
  ok_c (sn_aload_n (show decode cX1_part 33 = .ok (.aload_n 0, 1) by decide +kernel) rfl) <|
  ok_c (sn_getC (j := 1) (fun _ _ => rfl) (sn_get ck_1 (by decide) (show decode cX1_part 34 = .ok (.getfield 15, 3) by decide +kernel) wd_2_95)) <|
  ok_c (sn_iload_n (show decode cX1_part 37 = .ok (.iload_n 3, 1) by decide +kernel) rfl) <|
  ok_c (sn_iconst (v := 0) (show decode cX1_part 38 = .ok (.iconst 0, 1) by decide +kernel) (by decide +kernel)) <|
  ok_c (sn_iast (show decode cX1_part 39 = .ok (.iastore, 1) by decide +kernel)) <|
  ok_c (sn_iload_n (show decode cX1_part 40 = .ok (.iload_n 3, 1) by decide +kernel) rfl) <|
  ok_c (sn_iload_n (show decode cX1_part 41 = .ok (.iload_n 3, 1) by decide +kernel) rfl) <|
  ok_c (sn_ineg (show decode cX1_part 42 = .ok (.ineg, 1) by decide +kernel)) <|
  ok_c (sn_iand (show decode cX1_part 43 = .ok (.iand, 1) by decide +kernel)) <|
  ok_c (sn_istore (show decode cX1_part 44 = .ok (.istore 4, 2) by decide +kernel) (by decide)) <|
  ok_c (sn_iconst (v := 1) (show decode cX1_part 46 = .ok (.iconst 1, 1) by decide +kernel) (by decide +kernel)) <|
  ok_c (sn_istore (show decode cX1_part 47 = .ok (.istore 5, 2) by decide +kernel) (by decide)) <|
  ok_c (sn_iload (show decode cX1_part 49 = .ok (.iload 5, 2) by decide +kernel)) <|
  ok_c (sn_iload_n (show decode cX1_part 51 = .ok (.iload_n 3, 1) by decide +kernel) rfl) <|
  ok_c (sn_ic_gt (show decode cX1_part 52 = .ok (.if_icmp .gt 59, 3) by decide +kernel) (by decide)) <|
  ok_c (sn_iload (show decode cX1_part 55 = .ok (.iload 5, 2) by decide +kernel)) <|
  ok_c (sn_iload (show decode cX1_part 57 = .ok (.iload 4, 2) by decide +kernel)) <|
  ok_c (sn_iand (show decode cX1_part 59 = .ok (.iand, 1) by decide +kernel)) <|
  ok_c (sn_if_eq (show decode cX1_part 60 = .ok (.ifCond .eq 16, 3) by decide +kernel) (by decide)) <|
  ok_c (sn_iload (show decode cX1_part 63 = .ok (.iload 5, 2) by decide +kernel)) <|
  ok_c (sn_iload_n (show decode cX1_part 65 = .ok (.iload_n 3, 1) by decide +kernel) rfl) <|
  ok_c (sn_iconst (v := (-1)) (show decode cX1_part 66 = .ok (.iconst (-1), 1) by decide +kernel) (by decide +kernel)) <|
  ok_c (sn_ixor (show decode cX1_part 67 = .ok (.ixor, 1) by decide +kernel)) <|
  ok_c (sn_iand (show decode cX1_part 68 = .ok (.iand, 1) by decide +kernel)) <|
  ok_c (sn_if_ne (show decode cX1_part 69 = .ok (.ifCond .ne 7, 3) by decide +kernel) (by decide)) <|
  ok_c (sn_iconst (v := 1) (show decode cX1_part 72 = .ok (.iconst 1, 1) by decide +kernel) (by decide +kernel)) <|
  ok_c (sn_goto (show decode cX1_part 73 = .ok (.goto 4, 3) by decide +kernel) (by decide)) <|
  ok_c (sn_iconst (v := 0) (show decode cX1_part 76 = .ok (.iconst 0, 1) by decide +kernel) (by decide +kernel)) <|
  ok_c (sn_istore (show decode cX1_part 77 = .ok (.istore 6, 2) by decide +kernel) (by decide)) <|
  ok_c (sn_iload (show decode cX1_part 79 = .ok (.iload 6, 2) by decide +kernel)) <|
  ok_c (sn_if_eq (show decode cX1_part 81 = .ok (.ifCond .eq 24, 3) by decide +kernel) (by decide)) <|
  ok_c (sn_aload_n (show decode cX1_part 84 = .ok (.aload_n 1, 1) by decide +kernel) rfl) <|
  ok_c (sn_iload (show decode cX1_part 85 = .ok (.iload 5, 2) by decide +kernel)) <|
  ok_c (sn_iload_n (show decode cX1_part 87 = .ok (.iload_n 2, 1) by decide +kernel) rfl) <|
  ok_c (sn_if_eq (show decode cX1_part 91 = .ok (.ifCond .eq 14, 3) by decide +kernel) (by decide)) <|
  ok_c (sn_aload_n (show decode cX1_part 94 = .ok (.aload_n 0, 1) by decide +kernel) rfl) <|
  ok_c (sn_iload_n (show decode cX1_part 95 = .ok (.iload_n 3, 1) by decide +kernel) rfl) <|
  ok_c (sn_iload_n (show decode cX1_part 96 = .ok (.iload_n 3, 1) by decide +kernel) rfl) <|
  ok_c (sn_iload (show decode cX1_part 97 = .ok (.iload 5, 2) by decide +kernel)) <|
  ok_c (sn_iconst (v := (-1)) (show decode cX1_part 99 = .ok (.iconst (-1), 1) by decide +kernel) (by decide +kernel)) <|
  ok_c (sn_ixor (show decode cX1_part 100 = .ok (.ixor, 1) by decide +kernel)) <|
  ok_c (sn_iand (show decode cX1_part 101 = .ok (.iand, 1) by decide +kernel)) <|
  ok_c (sn_iinc (show decode cX1_part 105 = .ok (.iinc 5 1, 3) by decide +kernel) (by decide) (by decide +kernel)) <|
  ok_c (sn_goto (show decode cX1_part 108 = .ok (.goto (-59), 3) by decide +kernel) (by decide)) <|
  ok_c (sn_iinc (show decode cX1_part 111 = .ok (.iinc 3 1, 3) by decide +kernel) (by decide) (by decide +kernel)) <|
  ok_c (sn_goto (show decode cX1_part 114 = .ok (.goto (-98), 3) by decide +kernel) (by decide)) <|
  ok_n
def uX1_part : gCT := [(88, YX1_fits, 3, none), (102, YX1_addParting, 3, some 1)]
set_option maxRecDepth 100000 in
theorem ocX1_part : gOkC YX1_part uX1_part := oc_c (gEdge_S cal_X1_fits (show decode cX1_part 88 = .ok (.invokestatic 37, 3) by decide +kernel) wd_4_86 wd_4_87) <|
  oc_c (gEdge_V cal_X1_addParting ck_1 rfl (show decode cX1_part 102 = .ok (.invokevirtual 51, 3) by decide +kernel) wd_4_108 wd_4_110 wp_2_10) <|
  oc_n
theorem reX1_part : ∀ pc ∈ [117], decode cX1_part pc = .ok (.return_, 1) := by decide +kernel
def tX1_addParting : List (Nat × gStp) := [(0, i_aload 0 1), (1, i_getC 1 62 4), (4, i_iload 2 5), (5, i_iald 6), (6, i_push (.int (-1)) 7), (7, i_ic_ne 11 10), (11, i_aload 0 12), (12, i_getC 1 62 15), (15, i_iload 2 16), (16, i_iald 17), (17, i_push (.int 1) 18), (18, i_ii (fun x y => x + y) 19), (19, i_istore 3 20), (20, i_aload 0 21), (21, i_getC 1 62 24), (24, i_iload 1 25), (25, i_iald 26), (26, i_push (.int (-1)) 27), (27, i_ic_eq 40 30), (30, i_iload 3 31), (31, i_aload 0 32), (32, i_getC 1 62 35), (35, i_iload 1 36), (36, i_iald 37), (37, i_ic_ge 54 40), (40, i_aload 0 41), (41, i_getC 1 62 44), (44, i_iload 1 45), (45, i_iload 3 46), (46, i_iast 47), (47, i_aload 0 48), (48, i_getC 1 63 51), (51, i_iload 1 52), (52, i_push (.int 0) 53), (53, i_iast 54), (54, i_iload 3 55), (55, i_aload 0 56), (56, i_getC 1 62 59), (59, i_iload 1 60), (60, i_iald 61), (61, i_ic_ne 79 64), (64, i_aload 0 65), (65, i_getC 1 63 68), (68, i_iload 1 69), (69, i_dup2 70), (70, i_iald 71), (71, i_aload 0 72), (72, i_getC 1 63 75), (75, i_iload 2 76), (76, i_iald 77), (77, i_ii (fun x y => x + y) 78), (78, i_iast 79)]
set_option maxRecDepth 100000 in
theorem okX1_addParting : gOk YX1_addParting tX1_addParting := ok_c (sn_aload_n (show decode cX1_addParting 0 = .ok (.aload_n 0, 1) by decide +kernel) rfl) <|
  ok_c (sn_getC (j := 0) (fun _ _ => rfl) (sn_get ck_1 (by decide) (show decode cX1_addParting 1 = .ok (.getfield 9, 3) by decide +kernel) wd_2_93)) <|
  ok_c (sn_iload_n (show decode cX1_addParting 4 = .ok (.iload_n 2, 1) by decide +kernel) rfl) <|
  ok_c (sn_iald (show decode cX1_addParting 5 = .ok (.iaload, 1) by decide +kernel)) <|
  ok_c (sn_iconst (v := (-1)) (show decode cX1_addParting 6 = .ok (.iconst (-1), 1) by decide +kernel) (by decide +kernel)) <|
  ok_c (sn_ic_ne (show decode cX1_addParting 7 = .ok (.if_icmp .ne 4, 3) by decide +kernel) (by decide)) <|
  ok_c (sn_aload_n (show decode cX1_addParting 11 = .ok (.aload_n 0, 1) by decide +kernel) rfl) <|
  ok_c (sn_getC (j := 0) (fun _ _ => rfl) (sn_get ck_1 (by decide) (show decode cX1_addParting 12 = .ok (.getfield 9, 3) by decide +kernel) wd_2_93)) <|
  ok_c (sn_iload_n (show decode cX1_addParting 15 = .ok (.iload_n 2, 1) by decide +kernel) rfl) <|
  ok_c (sn_iald (show decode cX1_addParting 16 = .ok (.iaload, 1) by decide +kernel)) <|
  ok_c (sn_iconst (v := 1) (show decode cX1_addParting 17 = .ok (.iconst 1, 1) by decide +kernel) (by decide +kernel)) <|
  ok_c (sn_iadd (show decode cX1_addParting 18 = .ok (.iadd, 1) by decide +kernel)) <|
  ok_c (sn_istore_n (show decode cX1_addParting 19 = .ok (.istore_n 3, 1) by decide +kernel) rfl (by decide)) <|
  ok_c (sn_aload_n (show decode cX1_addParting 20 = .ok (.aload_n 0, 1) by decide +kernel) rfl) <|
  ok_c (sn_getC (j := 0) (fun _ _ => rfl) (sn_get ck_1 (by decide) (show decode cX1_addParting 21 = .ok (.getfield 9, 3) by decide +kernel) wd_2_93)) <|
  ok_c (sn_iload_n (show decode cX1_addParting 24 = .ok (.iload_n 1, 1) by decide +kernel) rfl) <|
  ok_c (sn_iald (show decode cX1_addParting 25 = .ok (.iaload, 1) by decide +kernel)) <|
  ok_c (sn_iconst (v := (-1)) (show decode cX1_addParting 26 = .ok (.iconst (-1), 1) by decide +kernel) (by decide +kernel)) <|
  ok_c (sn_ic_eq (show decode cX1_addParting 27 = .ok (.if_icmp .eq 13, 3) by decide +kernel) (by decide)) <|
  ok_c (sn_iload_n (show decode cX1_addParting 30 = .ok (.iload_n 3, 1) by decide +kernel) rfl) <|
  ok_c (sn_aload_n (show decode cX1_addParting 31 = .ok (.aload_n 0, 1) by decide +kernel) rfl) <|
  ok_c (sn_getC (j := 0) (fun _ _ => rfl) (sn_get ck_1 (by decide) (show decode cX1_addParting 32 = .ok (.getfield 9, 3) by decide +kernel) wd_2_93)) <|
  ok_c (sn_iload_n (show decode cX1_addParting 35 = .ok (.iload_n 1, 1) by decide +kernel) rfl) <|
  ok_c (sn_iald (show decode cX1_addParting 36 = .ok (.iaload, 1) by decide +kernel)) <|
  ok_c (sn_ic_ge (show decode cX1_addParting 37 = .ok (.if_icmp .ge 17, 3) by decide +kernel) (by decide)) <|
  ok_c (sn_aload_n (show decode cX1_addParting 40 = .ok (.aload_n 0, 1) by decide +kernel) rfl) <|
  ok_c (sn_getC (j := 0) (fun _ _ => rfl) (sn_get ck_1 (by decide) (show decode cX1_addParting 41 = .ok (.getfield 9, 3) by decide +kernel) wd_2_93)) <|
  ok_c (sn_iload_n (show decode cX1_addParting 44 = .ok (.iload_n 1, 1) by decide +kernel) rfl) <|
  ok_c (sn_iload_n (show decode cX1_addParting 45 = .ok (.iload_n 3, 1) by decide +kernel) rfl) <|
  ok_c (sn_iast (show decode cX1_addParting 46 = .ok (.iastore, 1) by decide +kernel)) <|
  ok_c (sn_aload_n (show decode cX1_addParting 47 = .ok (.aload_n 0, 1) by decide +kernel) rfl) <|
  ok_c (sn_getC (j := 1) (fun _ _ => rfl) (sn_get ck_1 (by decide) (show decode cX1_addParting 48 = .ok (.getfield 15, 3) by decide +kernel) wd_2_95)) <|
  ok_c (sn_iload_n (show decode cX1_addParting 51 = .ok (.iload_n 1, 1) by decide +kernel) rfl) <|
  ok_c (sn_iconst (v := 0) (show decode cX1_addParting 52 = .ok (.iconst 0, 1) by decide +kernel) (by decide +kernel)) <|
  ok_c (sn_iast (show decode cX1_addParting 53 = .ok (.iastore, 1) by decide +kernel)) <|
  ok_c (sn_iload_n (show decode cX1_addParting 54 = .ok (.iload_n 3, 1) by decide +kernel) rfl) <|
  ok_c (sn_aload_n (show decode cX1_addParting 55 = .ok (.aload_n 0, 1) by decide +kernel) rfl) <|
  ok_c (sn_getC (j := 0) (fun _ _ => rfl) (sn_get ck_1 (by decide) (show decode cX1_addParting 56 = .ok (.getfield 9, 3) by decide +kernel) wd_2_93)) <|
  ok_c (sn_iload_n (show decode cX1_addParting 59 = .ok (.iload_n 1, 1) by decide +kernel) rfl) <|
  ok_c (sn_iald (show decode cX1_addParting 60 = .ok (.iaload, 1) by decide +kernel)) <|
  ok_c (sn_ic_ne (show decode cX1_addParting 61 = .ok (.if_icmp .ne 18, 3) by decide +kernel) (by decide)) <|
  ok_c (sn_aload_n (show decode cX1_addParting 64 = .ok (.aload_n 0, 1) by decide +kernel) rfl) <|
  ok_c (sn_getC (j := 1) (fun _ _ => rfl) (sn_get ck_1 (by decide) (show decode cX1_addParting 65 = .ok (.getfield 15, 3) by decide +kernel) wd_2_95)) <|
  ok_c (sn_iload_n (show decode cX1_addParting 68 = .ok (.iload_n 1, 1) by decide +kernel) rfl) <|
  ok_c (sn_dup2 (show decode cX1_addParting 69 = .ok (.dup2, 1) by decide +kernel)) <|
  ok_c (sn_iald (show decode cX1_addParting 70 = .ok (.iaload, 1) by decide +kernel)) <|
  ok_c (sn_aload_n (show decode cX1_addParting 71 = .ok (.aload_n 0, 1) by decide +kernel) rfl) <|
  ok_c (sn_getC (j := 1) (fun _ _ => rfl) (sn_get ck_1 (by decide) (show decode cX1_addParting 72 = .ok (.getfield 15, 3) by decide +kernel) wd_2_95)) <|
  ok_c (sn_iload_n (show decode cX1_addParting 75 = .ok (.iload_n 2, 1) by decide +kernel) rfl) <|
  ok_c (sn_iald (show decode cX1_addParting 76 = .ok (.iaload, 1) by decide +kernel)) <|
  ok_c (sn_iadd (show decode cX1_addParting 77 = .ok (.iadd, 1) by decide +kernel)) <|
  ok_c (sn_iast (show decode cX1_addParting 78 = .ok (.iastore, 1) by decide +kernel)) <|
  ok_n
theorem reX1_addParting : ∀ pc ∈ [10, 79], decode cX1_addParting pc = .ok (.return_, 1) := by decide +kernel
def tX1_gainOverOrders : List (Nat × gStp) := [(0, i_push (.long 0) 1), (1, i_lstore 3 2), (2, i_push (.int 0) 3), (3, i_istore 5 5), (5, i_iload 5 7), (7, i_push (.int 1) 8), (8, i_aload 0 9), (9, i_getI 7 5 12), (12, i_ii (fun x y => x <<< (y &&& 31)) 13), (13, i_ic_ge 96 16), (16, i_iload 5 18), (18, i_iload 1 19), (22, i_if_ne 90 25), (25, i_aload 0 26), (26, i_iload 5 28), (28, i_push (.int 1) 29), (29, i_iload 1 30), (30, i_ii (fun x y => x <<< (y &&& 31)) 31), (31, i_ii (fun x y => x ||| y) 32), (32, i_iload 2 33), (36, i_aload 0 37), (37, i_iload 5 39), (39, i_iload 2 40), (43, i_ii (fun x y => x - y) 44), (44, i_istore 6 46), (46, i_iload 5 48), (51, i_istore 7 53), (53, i_push (.int 0) 54), (54, i_aload 0 55), (55, i_getI 7 5 58), (58, i_push (.int 1) 59), (59, i_ii (fun x y => x - y) 60), (60, i_iload 7 62), (62, i_ii (fun x y => x - y) 63), (63, i_max 66), (66, i_istore 8 68), (68, i_lload 3 69), (69, i_iload 6 71), (71, i_i2l 72), (72, i_fac 75), (75, i_iload 7 77), (77, i_fald 78), (78, i_i2l 79), (79, i_ll (fun x y => x * y) 80), (80, i_fac 83), (83, i_iload 8 85), (85, i_fald 86), (86, i_i2l 87), (87, i_ll (fun x y => x * y) 88), (88, i_ll (fun x y => x + y) 89), (89, i_lstore 3 90), (90, i_iinc 5 1 93), (93, i_goto 5), (96, i_lload 3 97)]
set_option maxRecDepth 100000 in
theorem okX1_gainOverOrders : gOk YX1_gainOverOrders tX1_gainOverOrders := ok_c (sn_lconst (v := 0) (show decode cX1_gainOverOrders 0 = .ok (.lconst 0, 1) by decide +kernel) (by decide +kernel)) <|
  ok_c (sn_lstore_n (show decode cX1_gainOverOrders 1 = .ok (.lstore_n 3, 1) by decide +kernel) rfl (by decide)) <|
  ok_c (sn_iconst (v := 0) (show decode cX1_gainOverOrders 2 = .ok (.iconst 0, 1) by decide +kernel) (by decide +kernel)) <|
  ok_c (sn_istore (show decode cX1_gainOverOrders 3 = .ok (.istore 5, 2) by decide +kernel) (by decide)) <|
  ok_c (sn_iload (show decode cX1_gainOverOrders 5 = .ok (.iload 5, 2) by decide +kernel)) <|
  ok_c (sn_iconst (v := 1) (show decode cX1_gainOverOrders 7 = .ok (.iconst 1, 1) by decide +kernel) (by decide +kernel)) <|
  ok_c (sn_aload_n (show decode cX1_gainOverOrders 8 = .ok (.aload_n 0, 1) by decide +kernel) rfl) <|
  ok_c (sn_getI (fun _ _ => rfl) (sn_get ck_7 (by decide) (show decode cX1_gainOverOrders 9 = .ok (.getfield 44, 3) by decide +kernel) wd_1_105)) <|
  ok_c (sn_ishl (show decode cX1_gainOverOrders 12 = .ok (.ishl, 1) by decide +kernel)) <|
  ok_c (sn_ic_ge (show decode cX1_gainOverOrders 13 = .ok (.if_icmp .ge 83, 3) by decide +kernel) (by decide)) <|
  ok_c (sn_iload (show decode cX1_gainOverOrders 16 = .ok (.iload 5, 2) by decide +kernel)) <|
  ok_c (sn_iload_n (show decode cX1_gainOverOrders 18 = .ok (.iload_n 1, 1) by decide +kernel) rfl) <|
  ok_c (sn_if_ne (show decode cX1_gainOverOrders 22 = .ok (.ifCond .ne 68, 3) by decide +kernel) (by decide)) <|
  ok_c (sn_aload_n (show decode cX1_gainOverOrders 25 = .ok (.aload_n 0, 1) by decide +kernel) rfl) <|
  ok_c (sn_iload (show decode cX1_gainOverOrders 26 = .ok (.iload 5, 2) by decide +kernel)) <|
  ok_c (sn_iconst (v := 1) (show decode cX1_gainOverOrders 28 = .ok (.iconst 1, 1) by decide +kernel) (by decide +kernel)) <|
  ok_c (sn_iload_n (show decode cX1_gainOverOrders 29 = .ok (.iload_n 1, 1) by decide +kernel) rfl) <|
  ok_c (sn_ishl (show decode cX1_gainOverOrders 30 = .ok (.ishl, 1) by decide +kernel)) <|
  ok_c (sn_ior (show decode cX1_gainOverOrders 31 = .ok (.ior, 1) by decide +kernel)) <|
  ok_c (sn_iload_n (show decode cX1_gainOverOrders 32 = .ok (.iload_n 2, 1) by decide +kernel) rfl) <|
  ok_c (sn_aload_n (show decode cX1_gainOverOrders 36 = .ok (.aload_n 0, 1) by decide +kernel) rfl) <|
  ok_c (sn_iload (show decode cX1_gainOverOrders 37 = .ok (.iload 5, 2) by decide +kernel)) <|
  ok_c (sn_iload_n (show decode cX1_gainOverOrders 39 = .ok (.iload_n 2, 1) by decide +kernel) rfl) <|
  ok_c (sn_isub (show decode cX1_gainOverOrders 43 = .ok (.isub, 1) by decide +kernel)) <|
  ok_c (sn_istore (show decode cX1_gainOverOrders 44 = .ok (.istore 6, 2) by decide +kernel) (by decide)) <|
  ok_c (sn_iload (show decode cX1_gainOverOrders 46 = .ok (.iload 5, 2) by decide +kernel)) <|
  ok_c (sn_istore (show decode cX1_gainOverOrders 51 = .ok (.istore 7, 2) by decide +kernel) (by decide)) <|
  ok_c (sn_iconst (v := 0) (show decode cX1_gainOverOrders 53 = .ok (.iconst 0, 1) by decide +kernel) (by decide +kernel)) <|
  ok_c (sn_aload_n (show decode cX1_gainOverOrders 54 = .ok (.aload_n 0, 1) by decide +kernel) rfl) <|
  ok_c (sn_getI (fun _ _ => rfl) (sn_get ck_7 (by decide) (show decode cX1_gainOverOrders 55 = .ok (.getfield 44, 3) by decide +kernel) wd_1_105)) <|
  ok_c (sn_iconst (v := 1) (show decode cX1_gainOverOrders 58 = .ok (.iconst 1, 1) by decide +kernel) (by decide +kernel)) <|
  ok_c (sn_isub (show decode cX1_gainOverOrders 59 = .ok (.isub, 1) by decide +kernel)) <|
  ok_c (sn_iload (show decode cX1_gainOverOrders 60 = .ok (.iload 7, 2) by decide +kernel)) <|
  ok_c (sn_isub (show decode cX1_gainOverOrders 62 = .ok (.isub, 1) by decide +kernel)) <|
  ok_c (sn_max (show decode cX1_gainOverOrders 63 = .ok (.invokestatic 59, 3) by decide +kernel) wd_4_129 wd_3_226 wd_1_11 wd_3_227) <|
  ok_c (sn_istore (show decode cX1_gainOverOrders 66 = .ok (.istore 8, 2) by decide +kernel) (by decide)) <|
  ok_c (sn_lload_n (show decode cX1_gainOverOrders 68 = .ok (.lload_n 3, 1) by decide +kernel) rfl) <|
  ok_c (sn_iload (show decode cX1_gainOverOrders 69 = .ok (.iload 6, 2) by decide +kernel)) <|
  ok_c (sn_i2l (show decode cX1_gainOverOrders 71 = .ok (.i2l, 1) by decide +kernel)) <|
  ok_c (sn_facN (show decode cX1_gainOverOrders 72 = .ok (.getstatic 65, 3) by decide +kernel) wd_4_130) <|
  ok_c (sn_iload (show decode cX1_gainOverOrders 75 = .ok (.iload 7, 2) by decide +kernel)) <|
  ok_c (sn_fald (show decode cX1_gainOverOrders 77 = .ok (.iaload, 1) by decide +kernel)) <|
  ok_c (sn_i2l (show decode cX1_gainOverOrders 78 = .ok (.i2l, 1) by decide +kernel)) <|
  ok_c (sn_lmul (show decode cX1_gainOverOrders 79 = .ok (.lmul, 1) by decide +kernel)) <|
  ok_c (sn_facN (show decode cX1_gainOverOrders 80 = .ok (.getstatic 65, 3) by decide +kernel) wd_4_130) <|
  ok_c (sn_iload (show decode cX1_gainOverOrders 83 = .ok (.iload 8, 2) by decide +kernel)) <|
  ok_c (sn_fald (show decode cX1_gainOverOrders 85 = .ok (.iaload, 1) by decide +kernel)) <|
  ok_c (sn_i2l (show decode cX1_gainOverOrders 86 = .ok (.i2l, 1) by decide +kernel)) <|
  ok_c (sn_lmul (show decode cX1_gainOverOrders 87 = .ok (.lmul, 1) by decide +kernel)) <|
  ok_c (sn_ladd (show decode cX1_gainOverOrders 88 = .ok (.ladd, 1) by decide +kernel)) <|
  ok_c (sn_lstore_n (show decode cX1_gainOverOrders 89 = .ok (.lstore_n 3, 1) by decide +kernel) rfl (by decide)) <|
  ok_c (sn_iinc (show decode cX1_gainOverOrders 90 = .ok (.iinc 5 1, 3) by decide +kernel) (by decide) (by decide +kernel)) <|
  ok_c (sn_goto (show decode cX1_gainOverOrders 93 = .ok (.goto (-88), 3) by decide +kernel) (by decide)) <|
  ok_c (sn_lload_n (show decode cX1_gainOverOrders 96 = .ok (.lload_n 3, 1) by decide +kernel) rfl) <|
  ok_n
def uX1_gainOverOrders : gCT := [(19, YX8_has, 2, none), (33, YX1_setWorth, 3, none), (40, YX1_setWorth, 3, none), (48, YJ6_bitCount_0f7a4, 1, none)]
set_option maxRecDepth 100000 in
theorem ocX1_gainOverOrders : gOkC YX1_gainOverOrders uX1_gainOverOrders := oc_c (gEdge_SN cal_X8_has (show decode cX1_gainOverOrders 19 = .ok (.invokestatic 55, 3) by decide +kernel) wd_4_128 wd_3_119) <|
  oc_c (gEdge_S cal_X1_setWorth (show decode cX1_gainOverOrders 33 = .ok (.invokestatic 47, 3) by decide +kernel) wd_4_83 wd_4_84) <|
  oc_c (gEdge_S cal_X1_setWorth (show decode cX1_gainOverOrders 40 = .ok (.invokestatic 47, 3) by decide +kernel) wd_4_83 wd_4_84) <|
  oc_c (gEdge_S cal_J6_bitCount_0f7a4 (show decode cX1_gainOverOrders 48 = .ok (.invokestatic 24, 3) by decide +kernel) wd_4_89 wd_3_229) <|
  oc_n
theorem reX1_gainOverOrders : ∀ pc ∈ [97], decode cX1_gainOverOrders pc = .ok (.lreturn, 1) := by decide +kernel
def tX1_firstLeaver : List (Nat × gStp) := [(0, i_push (.int 0) 1), (1, i_istore 3 2), (2, i_iload 3 3), (3, i_push (.int 1) 4), (4, i_aload 0 5), (5, i_getI 7 5 8), (8, i_ii (fun x y => x <<< (y &&& 31)) 9), (9, i_ic_ge 34 12), (12, i_aload 2 13), (13, i_iload 3 14), (14, i_aload 0 15), (15, i_iload 3 16), (16, i_iload 1 17), (23, i_if_ge 28 26), (26, i_iload 3 27), (28, i_iinc 3 1 31), (31, i_goto 2), (34, i_push (.int (-1)) 35)]
set_option maxRecDepth 100000 in
theorem okX1_firstLeaver : gOk YX1_firstLeaver tX1_firstLeaver := ok_c (sn_iconst (v := 0) (show decode cX1_firstLeaver 0 = .ok (.iconst 0, 1) by decide +kernel) (by decide +kernel)) <|
  ok_c (sn_istore_n (show decode cX1_firstLeaver 1 = .ok (.istore_n 3, 1) by decide +kernel) rfl (by decide)) <|
  ok_c (sn_iload_n (show decode cX1_firstLeaver 2 = .ok (.iload_n 3, 1) by decide +kernel) rfl) <|
  ok_c (sn_iconst (v := 1) (show decode cX1_firstLeaver 3 = .ok (.iconst 1, 1) by decide +kernel) (by decide +kernel)) <|
  ok_c (sn_aload_n (show decode cX1_firstLeaver 4 = .ok (.aload_n 0, 1) by decide +kernel) rfl) <|
  ok_c (sn_getI (fun _ _ => rfl) (sn_get ck_7 (by decide) (show decode cX1_firstLeaver 5 = .ok (.getfield 44, 3) by decide +kernel) wd_1_105)) <|
  ok_c (sn_ishl (show decode cX1_firstLeaver 8 = .ok (.ishl, 1) by decide +kernel)) <|
  ok_c (sn_ic_ge (show decode cX1_firstLeaver 9 = .ok (.if_icmp .ge 25, 3) by decide +kernel) (by decide)) <|
  ok_c (sn_aload_n (show decode cX1_firstLeaver 12 = .ok (.aload_n 2, 1) by decide +kernel) rfl) <|
  ok_c (sn_iload_n (show decode cX1_firstLeaver 13 = .ok (.iload_n 3, 1) by decide +kernel) rfl) <|
  ok_c (sn_aload_n (show decode cX1_firstLeaver 14 = .ok (.aload_n 0, 1) by decide +kernel) rfl) <|
  ok_c (sn_iload_n (show decode cX1_firstLeaver 15 = .ok (.iload_n 3, 1) by decide +kernel) rfl) <|
  ok_c (sn_iload_n (show decode cX1_firstLeaver 16 = .ok (.iload_n 1, 1) by decide +kernel) rfl) <|
  ok_c (sn_if_ge (show decode cX1_firstLeaver 23 = .ok (.ifCond .ge 5, 3) by decide +kernel) (by decide)) <|
  ok_c (sn_iload_n (show decode cX1_firstLeaver 26 = .ok (.iload_n 3, 1) by decide +kernel) rfl) <|
  ok_c (sn_iinc (show decode cX1_firstLeaver 28 = .ok (.iinc 3 1, 3) by decide +kernel) (by decide) (by decide +kernel)) <|
  ok_c (sn_goto (show decode cX1_firstLeaver 31 = .ok (.goto (-29), 3) by decide +kernel) (by decide)) <|
  ok_c (sn_iconst (v := (-1)) (show decode cX1_firstLeaver 34 = .ok (.iconst (-1), 1) by decide +kernel) (by decide +kernel)) <|
  ok_n
def uX1_firstLeaver : gCT := [(17, YX1_setWorth, 3, none), (20, YX4_compareTogether, 3, some 4)]
set_option maxRecDepth 100000 in
theorem ocX1_firstLeaver : gOkC YX1_firstLeaver uX1_firstLeaver := oc_c (gEdge_S cal_X1_setWorth (show decode cX1_firstLeaver 17 = .ok (.invokestatic 47, 3) by decide +kernel) wd_4_83 wd_4_84) <|
  oc_c (gEdge_V cal_X4_compareTogether ck_4 rfl (show decode cX1_firstLeaver 20 = .ok (.invokevirtual 68, 3) by decide +kernel) wd_4_169 wd_4_158 wd_4_159) <|
  oc_n
theorem reX1_firstLeaver : ∀ pc ∈ [27, 35], decode cX1_firstLeaver pc = .ok (.ireturn, 1) := by decide +kernel
def tX2_supposeNothing : List (Nat × gStp) := [(0, i_aload 0 1), (1, i_push (.int 0) 2), (2, i_putI 2 0 5), (5, i_aload 0 6), (6, i_push (.int 0) 7), (7, i_putZ 2 1 10), (10, i_aload 0 11), (11, i_push (.int 0) 12), (12, i_putI 2 2 15), (15, i_aload 0 16), (16, i_push (.int 0) 17), (17, i_putI 2 3 20), (20, i_aload 0 21), (21, i_push (.int 0) 22), (22, i_putI 2 4 25)]
set_option maxRecDepth 100000 in
theorem okX2_supposeNothing : gOk YX2_supposeNothing tX2_supposeNothing := ok_c (sn_aload_n (show decode cX2_supposeNothing 0 = .ok (.aload_n 0, 1) by decide +kernel) rfl) <|
  ok_c (sn_iconst (v := 0) (show decode cX2_supposeNothing 1 = .ok (.iconst 0, 1) by decide +kernel) (by decide +kernel)) <|
  ok_c (sn_putI ck_2 (by decide) rfl rfl (show decode cX2_supposeNothing 2 = .ok (.putfield 44, 3) by decide +kernel) wd_2_22) <|
  ok_c (sn_aload_n (show decode cX2_supposeNothing 5 = .ok (.aload_n 0, 1) by decide +kernel) rfl) <|
  ok_c (sn_iconst (v := 0) (show decode cX2_supposeNothing 6 = .ok (.iconst 0, 1) by decide +kernel) (by decide +kernel)) <|
  ok_c (sn_putZ ck_2 (by decide) rfl rfl (show decode cX2_supposeNothing 7 = .ok (.putfield 48, 3) by decide +kernel) wd_2_25) <|
  ok_c (sn_aload_n (show decode cX2_supposeNothing 10 = .ok (.aload_n 0, 1) by decide +kernel) rfl) <|
  ok_c (sn_iconst (v := 0) (show decode cX2_supposeNothing 11 = .ok (.iconst 0, 1) by decide +kernel) (by decide +kernel)) <|
  ok_c (sn_putI ck_2 (by decide) rfl rfl (show decode cX2_supposeNothing 12 = .ok (.putfield 52, 3) by decide +kernel) wd_2_28) <|
  ok_c (sn_aload_n (show decode cX2_supposeNothing 15 = .ok (.aload_n 0, 1) by decide +kernel) rfl) <|
  ok_c (sn_iconst (v := 0) (show decode cX2_supposeNothing 16 = .ok (.iconst 0, 1) by decide +kernel) (by decide +kernel)) <|
  ok_c (sn_putI ck_2 (by decide) rfl rfl (show decode cX2_supposeNothing 17 = .ok (.putfield 55, 3) by decide +kernel) wd_2_30) <|
  ok_c (sn_aload_n (show decode cX2_supposeNothing 20 = .ok (.aload_n 0, 1) by decide +kernel) rfl) <|
  ok_c (sn_iconst (v := 0) (show decode cX2_supposeNothing 21 = .ok (.iconst 0, 1) by decide +kernel) (by decide +kernel)) <|
  ok_c (sn_putI ck_2 (by decide) rfl rfl (show decode cX2_supposeNothing 22 = .ok (.putfield 58, 3) by decide +kernel) wd_2_32) <|
  ok_n
theorem reX2_supposeNothing : ∀ pc ∈ [25], decode cX2_supposeNothing pc = .ok (.return_, 1) := by decide +kernel
def tX2_live : List (Nat × gStp) := [(0, i_aload 0 1), (1, i_aload 1 2), (5, i_push (.int 0) 6), (6, i_istore 3 7), (7, i_aload 0 8), (8, i_push (.int 0) 9), (9, i_putI 2 16 12), (12, i_push (.int 0) 13), (13, i_istore 4 15), (15, i_iload 4 17), (17, i_iload 2 18), (18, i_ic_ge 143 21), (21, i_iload 4 23), (23, i_push (.int 12) 25), (25, i_ic_ge 143 28), (28, i_aload 0 29), (29, i_aload 1 30), (30, i_iload 4 32), (35, i_aload 0 36), (36, i_aload 1 37), (37, i_iload 4 39), (39, i_iload 3 40), (43, i_aload 0 44), (44, i_aload 1 45), (45, i_iload 4 47), (50, i_istore 5 52), (52, i_iload 5 54), (54, i_if_eq 70 57), (57, i_iload 3 58), (58, i_iload 5 60), (60, i_ii (fun x y => x ||| y) 61), (61, i_istore 3 62), (62, i_aload 0 63), (63, i_aload 1 64), (64, i_iload 4 66), (66, i_iload 3 67), (70, i_aload 0 71), (71, i_getC 2 20 74), (74, i_iload 4 76), (76, i_iload 3 77), (77, i_iast 78), (78, i_aload 0 79), (79, i_getC 2 19 82), (82, i_iload 4 84), (84, i_aload 0 85), (85, i_aload 1 86), (86, i_iload 4 88), (88, i_iload 3 89), (92, i_iast 93), (93, i_aload 0 94), (94, i_getC 2 21 97), (97, i_iload 4 99), (99, i_aload 0 100), (100, i_aload 1 101), (101, i_iload 4 103), (106, i_aload 0 107), (107, i_getI 2 16 110), (110, i_iload 3 111), (111, i_ii (fun x y => x ||| y) 112), (112, i_aload 0 113), (113, i_getI 2 2 116), (116, i_ii (fun x y => x ||| y) 117), (117, i_push (.int (-1)) 118), (118, i_ii (fun x y => x ^^^ y) 119), (119, i_ii (fun x y => x &&& y) 120), (120, i_iast 121), (121, i_aload 0 122), (122, i_dup 123), (123, i_getI 2 16 126), (126, i_aload 0 127), (127, i_getC 2 21 130), (130, i_iload 4 132), (132, i_iald 133), (133, i_ii (fun x y => x ||| y) 134), (134, i_putI 2 16 137), (137, i_iinc 4 1 140), (140, i_goto 15)]
set_option maxRecDepth 100000 in
theorem okX2_live : gOk YX2_live tX2_live := ok_c (sn_aload_n (show decode cX2_live 0 = .ok (.aload_n 0, 1) by decide +kernel) rfl) <|
  ok_c (sn_aload_n (show decode cX2_live 1 = .ok (.aload_n 1, 1) by decide +kernel) rfl) <|
  ok_c (sn_iconst (v := 0) (show decode cX2_live 5 = .ok (.iconst 0, 1) by decide +kernel) (by decide +kernel)) <|
  ok_c (sn_istore_n (show decode cX2_live 6 = .ok (.istore_n 3, 1) by decide +kernel) rfl (by decide)) <|
  ok_c (sn_aload_n (show decode cX2_live 7 = .ok (.aload_n 0, 1) by decide +kernel) rfl) <|
  ok_c (sn_iconst (v := 0) (show decode cX2_live 8 = .ok (.iconst 0, 1) by decide +kernel) (by decide +kernel)) <|
  ok_c (sn_putI ck_2 (by decide) rfl rfl (show decode cX2_live 9 = .ok (.putfield 65, 3) by decide +kernel) wd_2_50) <|
  ok_c (sn_iconst (v := 0) (show decode cX2_live 12 = .ok (.iconst 0, 1) by decide +kernel) (by decide +kernel)) <|
  ok_c (sn_istore (show decode cX2_live 13 = .ok (.istore 4, 2) by decide +kernel) (by decide)) <|
  ok_c (sn_iload (show decode cX2_live 15 = .ok (.iload 4, 2) by decide +kernel)) <|
  ok_c (sn_iload_n (show decode cX2_live 17 = .ok (.iload_n 2, 1) by decide +kernel) rfl) <|
  ok_c (sn_ic_ge (show decode cX2_live 18 = .ok (.if_icmp .ge 125, 3) by decide +kernel) (by decide)) <|
  ok_c (sn_iload (show decode cX2_live 21 = .ok (.iload 4, 2) by decide +kernel)) <|
  ok_c (sn_bipush (v := 12) (show decode cX2_live 23 = .ok (.bipush 12, 2) by decide +kernel) (by decide +kernel)) <|
  ok_c (sn_ic_ge (show decode cX2_live 25 = .ok (.if_icmp .ge 118, 3) by decide +kernel) (by decide)) <|
  ok_c (sn_aload_n (show decode cX2_live 28 = .ok (.aload_n 0, 1) by decide +kernel) rfl) <|
  ok_c (sn_aload_n (show decode cX2_live 29 = .ok (.aload_n 1, 1) by decide +kernel) rfl) <|
  ok_c (sn_iload (show decode cX2_live 30 = .ok (.iload 4, 2) by decide +kernel)) <|
  ok_c (sn_aload_n (show decode cX2_live 35 = .ok (.aload_n 0, 1) by decide +kernel) rfl) <|
  ok_c (sn_aload_n (show decode cX2_live 36 = .ok (.aload_n 1, 1) by decide +kernel) rfl) <|
  ok_c (sn_iload (show decode cX2_live 37 = .ok (.iload 4, 2) by decide +kernel)) <|
  ok_c (sn_iload_n (show decode cX2_live 39 = .ok (.iload_n 3, 1) by decide +kernel) rfl) <|
  ok_c (sn_aload_n (show decode cX2_live 43 = .ok (.aload_n 0, 1) by decide +kernel) rfl) <|
  ok_c (sn_aload_n (show decode cX2_live 44 = .ok (.aload_n 1, 1) by decide +kernel) rfl) <|
  ok_c (sn_iload (show decode cX2_live 45 = .ok (.iload 4, 2) by decide +kernel)) <|
  ok_c (sn_istore (show decode cX2_live 50 = .ok (.istore 5, 2) by decide +kernel) (by decide)) <|
  ok_c (sn_iload (show decode cX2_live 52 = .ok (.iload 5, 2) by decide +kernel)) <|
  ok_c (sn_if_eq (show decode cX2_live 54 = .ok (.ifCond .eq 16, 3) by decide +kernel) (by decide)) <|
  ok_c (sn_iload_n (show decode cX2_live 57 = .ok (.iload_n 3, 1) by decide +kernel) rfl) <|
  ok_c (sn_iload (show decode cX2_live 58 = .ok (.iload 5, 2) by decide +kernel)) <|
  ok_c (sn_ior (show decode cX2_live 60 = .ok (.ior, 1) by decide +kernel)) <|
  ok_c (sn_istore_n (show decode cX2_live 61 = .ok (.istore_n 3, 1) by decide +kernel) rfl (by decide)) <|
  ok_c (sn_aload_n (show decode cX2_live 62 = .ok (.aload_n 0, 1) by decide +kernel) rfl) <|
  ok_c (sn_aload_n (show decode cX2_live 63 = .ok (.aload_n 1, 1) by decide +kernel) rfl) <|
  ok_c (sn_iload (show decode cX2_live 64 = .ok (.iload 4, 2) by decide +kernel)) <|
  ok_c (sn_iload_n (show decode cX2_live 66 = .ok (.iload_n 3, 1) by decide +kernel) rfl) <|
  ok_c (sn_aload_n (show decode cX2_live 70 = .ok (.aload_n 0, 1) by decide +kernel) rfl) <|
  ok_c (sn_getC (j := 11) (fun _ _ => rfl) (sn_get ck_2 (by decide) (show decode cX2_live 71 = .ok (.getfield 27, 3) by decide +kernel) wd_2_41)) <|
  ok_c (sn_iload (show decode cX2_live 74 = .ok (.iload 4, 2) by decide +kernel)) <|
  ok_c (sn_iload_n (show decode cX2_live 76 = .ok (.iload_n 3, 1) by decide +kernel) rfl) <|
  ok_c (sn_iast (show decode cX2_live 77 = .ok (.iastore, 1) by decide +kernel)) <|
  ok_c (sn_aload_n (show decode cX2_live 78 = .ok (.aload_n 0, 1) by decide +kernel) rfl) <|
  ok_c (sn_getC (j := 10) (fun _ _ => rfl) (sn_get ck_2 (by decide) (show decode cX2_live 79 = .ok (.getfield 24, 3) by decide +kernel) wd_2_39)) <|
  ok_c (sn_iload (show decode cX2_live 82 = .ok (.iload 4, 2) by decide +kernel)) <|
  ok_c (sn_aload_n (show decode cX2_live 84 = .ok (.aload_n 0, 1) by decide +kernel) rfl) <|
  ok_c (sn_aload_n (show decode cX2_live 85 = .ok (.aload_n 1, 1) by decide +kernel) rfl) <|
  ok_c (sn_iload (show decode cX2_live 86 = .ok (.iload 4, 2) by decide +kernel)) <|
  ok_c (sn_iload_n (show decode cX2_live 88 = .ok (.iload_n 3, 1) by decide +kernel) rfl) <|
  ok_c (sn_iast (show decode cX2_live 92 = .ok (.iastore, 1) by decide +kernel)) <|
  ok_c (sn_aload_n (show decode cX2_live 93 = .ok (.aload_n 0, 1) by decide +kernel) rfl) <|
  ok_c (sn_getC (j := 12) (fun _ _ => rfl) (sn_get ck_2 (by decide) (show decode cX2_live 94 = .ok (.getfield 30, 3) by decide +kernel) wd_2_43)) <|
  ok_c (sn_iload (show decode cX2_live 97 = .ok (.iload 4, 2) by decide +kernel)) <|
  ok_c (sn_aload_n (show decode cX2_live 99 = .ok (.aload_n 0, 1) by decide +kernel) rfl) <|
  ok_c (sn_aload_n (show decode cX2_live 100 = .ok (.aload_n 1, 1) by decide +kernel) rfl) <|
  ok_c (sn_iload (show decode cX2_live 101 = .ok (.iload 4, 2) by decide +kernel)) <|
  ok_c (sn_aload_n (show decode cX2_live 106 = .ok (.aload_n 0, 1) by decide +kernel) rfl) <|
  ok_c (sn_getI (fun _ _ => rfl) (sn_get ck_2 (by decide) (show decode cX2_live 107 = .ok (.getfield 65, 3) by decide +kernel) wd_2_50)) <|
  ok_c (sn_iload_n (show decode cX2_live 110 = .ok (.iload_n 3, 1) by decide +kernel) rfl) <|
  ok_c (sn_ior (show decode cX2_live 111 = .ok (.ior, 1) by decide +kernel)) <|
  ok_c (sn_aload_n (show decode cX2_live 112 = .ok (.aload_n 0, 1) by decide +kernel) rfl) <|
  ok_c (sn_getI (fun _ _ => rfl) (sn_get ck_2 (by decide) (show decode cX2_live 113 = .ok (.getfield 52, 3) by decide +kernel) wd_2_28)) <|
  ok_c (sn_ior (show decode cX2_live 116 = .ok (.ior, 1) by decide +kernel)) <|
  ok_c (sn_iconst (v := (-1)) (show decode cX2_live 117 = .ok (.iconst (-1), 1) by decide +kernel) (by decide +kernel)) <|
  ok_c (sn_ixor (show decode cX2_live 118 = .ok (.ixor, 1) by decide +kernel)) <|
  ok_c (sn_iand (show decode cX2_live 119 = .ok (.iand, 1) by decide +kernel)) <|
  ok_c (sn_iast (show decode cX2_live 120 = .ok (.iastore, 1) by decide +kernel)) <|
  ok_c (sn_aload_n (show decode cX2_live 121 = .ok (.aload_n 0, 1) by decide +kernel) rfl) <|
  ok_c (sn_dup (show decode cX2_live 122 = .ok (.dup, 1) by decide +kernel)) <|
  ok_c (sn_getI (fun _ _ => rfl) (sn_get ck_2 (by decide) (show decode cX2_live 123 = .ok (.getfield 65, 3) by decide +kernel) wd_2_50)) <|
  ok_c (sn_aload_n (show decode cX2_live 126 = .ok (.aload_n 0, 1) by decide +kernel) rfl) <|
  ok_c (sn_getC (j := 12) (fun _ _ => rfl) (sn_get ck_2 (by decide) (show decode cX2_live 127 = .ok (.getfield 30, 3) by decide +kernel) wd_2_43)) <|
  ok_c (sn_iload (show decode cX2_live 130 = .ok (.iload 4, 2) by decide +kernel)) <|
  ok_c (sn_iald (show decode cX2_live 132 = .ok (.iaload, 1) by decide +kernel)) <|
  ok_c (sn_ior (show decode cX2_live 133 = .ok (.ior, 1) by decide +kernel)) <|
  ok_c (sn_putI ck_2 (by decide) rfl rfl (show decode cX2_live 134 = .ok (.putfield 65, 3) by decide +kernel) wd_2_50) <|
  ok_c (sn_iinc (show decode cX2_live 137 = .ok (.iinc 4 1, 3) by decide +kernel) (by decide) (by decide +kernel)) <|
  ok_c (sn_goto (show decode cX2_live 140 = .ok (.goto (-125), 3) by decide +kernel) (by decide)) <|
  ok_n
def uX2_live : gCT := [(2, YX2_gatherJoins, 2, some 2), (32, YX2_tellWorths, 3, some 2), (40, YX2_joinUp, 4, some 2), (47, YX2_failingIn, 3, some 2), (67, YX2_joinUp, 4, some 2), (89, YX2_toldHeld, 4, some 2), (103, YX2_catching, 3, some 2)]
set_option maxRecDepth 100000 in
theorem ocX2_live : gOkC YX2_live uX2_live := oc_c (gEdge_V cal_X2_gatherJoins ck_2 rfl (show decode cX2_live 2 = .ok (.invokevirtual 61, 3) by decide +kernel) wd_3_114 wd_3_116 wp_1_14) <|
  oc_c (gEdge_V cal_X2_tellWorths ck_2 rfl (show decode cX2_live 32 = .ok (.invokevirtual 68, 3) by decide +kernel) wd_3_135 wd_3_137 wp_2_1) <|
  oc_c (gEdge_V cal_X2_joinUp ck_2 rfl (show decode cX2_live 40 = .ok (.invokevirtual 72, 3) by decide +kernel) wd_3_143 wd_3_145 wp_2_3) <|
  oc_c (gEdge_V cal_X2_failingIn ck_2 rfl (show decode cX2_live 47 = .ok (.invokevirtual 76, 3) by decide +kernel) wd_3_160 wd_3_162 wp_2_5) <|
  oc_c (gEdge_V cal_X2_joinUp ck_2 rfl (show decode cX2_live 67 = .ok (.invokevirtual 72, 3) by decide +kernel) wd_3_143 wd_3_145 wp_2_3) <|
  oc_c (gEdge_V cal_X2_toldHeld ck_2 rfl (show decode cX2_live 89 = .ok (.invokevirtual 80, 3) by decide +kernel) wd_3_175 wd_3_177 wp_2_6) <|
  oc_c (gEdge_V cal_X2_catching ck_2 rfl (show decode cX2_live 103 = .ok (.invokevirtual 84, 3) by decide +kernel) wd_3_179 wd_3_181 wp_2_7) <|
  oc_n
theorem reX2_live : ∀ pc ∈ [143], decode cX2_live pc = .ok (.return_, 1) := by decide +kernel
def tX2_gatherJoins : List (Nat × gStp) := [(0, i_aload 0 1), (1, i_push (.int 0) 2), (2, i_putI 2 5 5), (5, i_push (.int 0) 6), (6, i_istore 2 7), (7, i_iload 2 8), (8, i_aload 1 9), (9, i_getI 7 6 12), (12, i_ic_ge 63 15), (15, i_aload 0 16), (16, i_getI 2 0 19), (19, i_iload 2 20), (23, i_if_eq 30 26), (26, i_push (.int 0) 27), (27, i_goto 36), (30, i_aload 1 31), (31, i_getO 7 6 34), (34, i_iload 2 35), (35, i_iald 36), (36, i_istore 3 37), (37, i_aload 0 38), (38, i_aload 1 39), (39, i_aload 1 40), (40, i_getO 7 4 43), (43, i_iload 2 44), (44, i_iald 45), (45, i_aload 1 46), (46, i_getO 7 5 49), (49, i_iload 2 50), (50, i_iald 51), (51, i_push (.int 0) 52), (52, i_iload 3 53), (53, i_push (.int (-1)) 54), (57, i_iinc 2 1 60), (60, i_goto 7), (63, i_aload 0 64), (64, i_getI 2 1 67), (67, i_if_eq 71 70), (71, i_aload 1 72), (72, i_getO 7 10 75), (75, i_astore 2 76), (76, i_push (.int 0) 77), (77, i_istore 3 78), (78, i_iload 3 79), (79, i_aload 2 80), (80, i_getI 0 4 83), (83, i_ic_ge 142 86), (86, i_aload 2 87), (87, i_getO 0 4 90), (90, i_iload 3 91), (91, i_iald 92), (92, i_if_eq 136 95), (95, i_aload 2 96), (96, i_getO 0 3 99), (99, i_iload 3 100), (100, i_iald 101), (101, i_aload 2 102), (102, i_getO 0 4 105), (105, i_iload 3 106), (106, i_iald 107), (107, i_ii (fun x y => x + y) 108), (108, i_istore 4 110), (110, i_aload 0 111), (111, i_aload 1 112), (112, i_aload 2 113), (113, i_getO 0 1 116), (116, i_iload 3 117), (117, i_iald 118), (118, i_aload 2 119), (119, i_getO 0 2 122), (122, i_iload 3 123), (123, i_iald 124), (124, i_aload 2 125), (125, i_getO 0 3 128), (128, i_iload 3 129), (129, i_iald 130), (130, i_iload 4 132), (132, i_iload 3 133), (136, i_iinc 3 1 139), (139, i_goto 78)]
set_option maxRecDepth 100000 in
theorem okX2_gatherJoins : gOk YX2_gatherJoins tX2_gatherJoins := ok_c (sn_aload_n (show decode cX2_gatherJoins 0 = .ok (.aload_n 0, 1) by decide +kernel) rfl) <|
  ok_c (sn_iconst (v := 0) (show decode cX2_gatherJoins 1 = .ok (.iconst 0, 1) by decide +kernel) (by decide +kernel)) <|
  ok_c (sn_putI ck_2 (by decide) rfl rfl (show decode cX2_gatherJoins 2 = .ok (.putfield 87, 3) by decide +kernel) wd_2_34) <|
  ok_c (sn_iconst (v := 0) (show decode cX2_gatherJoins 5 = .ok (.iconst 0, 1) by decide +kernel) (by decide +kernel)) <|
  ok_c (sn_istore_n (show decode cX2_gatherJoins 6 = .ok (.istore_n 2, 1) by decide +kernel) rfl (by decide)) <|
  ok_c (sn_iload_n (show decode cX2_gatherJoins 7 = .ok (.iload_n 2, 1) by decide +kernel) rfl) <|
  ok_c (sn_aload_n (show decode cX2_gatherJoins 8 = .ok (.aload_n 1, 1) by decide +kernel) rfl) <|
  ok_c (sn_getI (fun _ _ => rfl) (sn_get ck_7 (by decide) (show decode cX2_gatherJoins 9 = .ok (.getfield 90, 3) by decide +kernel) wd_1_110)) <|
  ok_c (sn_ic_ge (show decode cX2_gatherJoins 12 = .ok (.if_icmp .ge 51, 3) by decide +kernel) (by decide)) <|
  ok_c (sn_aload_n (show decode cX2_gatherJoins 15 = .ok (.aload_n 0, 1) by decide +kernel) rfl) <|
  ok_c (sn_getI (fun _ _ => rfl) (sn_get ck_2 (by decide) (show decode cX2_gatherJoins 16 = .ok (.getfield 44, 3) by decide +kernel) wd_2_22)) <|
  ok_c (sn_iload_n (show decode cX2_gatherJoins 19 = .ok (.iload_n 2, 1) by decide +kernel) rfl) <|
  ok_c (sn_if_eq (show decode cX2_gatherJoins 23 = .ok (.ifCond .eq 7, 3) by decide +kernel) (by decide)) <|
  ok_c (sn_iconst (v := 0) (show decode cX2_gatherJoins 26 = .ok (.iconst 0, 1) by decide +kernel) (by decide +kernel)) <|
  ok_c (sn_goto (show decode cX2_gatherJoins 27 = .ok (.goto 9, 3) by decide +kernel) (by decide)) <|
  ok_c (sn_aload_n (show decode cX2_gatherJoins 30 = .ok (.aload_n 1, 1) by decide +kernel) rfl) <|
  ok_c (sn_getO (j := 14) (fun _ _ => rfl) (sn_get ck_7 (by decide) (show decode cX2_gatherJoins 31 = .ok (.getfield 97, 3) by decide +kernel) wd_1_143)) <|
  ok_c (sn_iload_n (show decode cX2_gatherJoins 34 = .ok (.iload_n 2, 1) by decide +kernel) rfl) <|
  ok_c (sn_iald (show decode cX2_gatherJoins 35 = .ok (.iaload, 1) by decide +kernel)) <|
  ok_c (sn_istore_n (show decode cX2_gatherJoins 36 = .ok (.istore_n 3, 1) by decide +kernel) rfl (by decide)) <|
  ok_c (sn_aload_n (show decode cX2_gatherJoins 37 = .ok (.aload_n 0, 1) by decide +kernel) rfl) <|
  ok_c (sn_aload_n (show decode cX2_gatherJoins 38 = .ok (.aload_n 1, 1) by decide +kernel) rfl) <|
  ok_c (sn_aload_n (show decode cX2_gatherJoins 39 = .ok (.aload_n 1, 1) by decide +kernel) rfl) <|
  ok_c (sn_getO (j := 12) (fun _ _ => rfl) (sn_get ck_7 (by decide) (show decode cX2_gatherJoins 40 = .ok (.getfield 100, 3) by decide +kernel) wd_1_135)) <|
  ok_c (sn_iload_n (show decode cX2_gatherJoins 43 = .ok (.iload_n 2, 1) by decide +kernel) rfl) <|
  ok_c (sn_iald (show decode cX2_gatherJoins 44 = .ok (.iaload, 1) by decide +kernel)) <|
  ok_c (sn_aload_n (show decode cX2_gatherJoins 45 = .ok (.aload_n 1, 1) by decide +kernel) rfl) <|
  ok_c (sn_getO (j := 13) (fun _ _ => rfl) (sn_get ck_7 (by decide) (show decode cX2_gatherJoins 46 = .ok (.getfield 101, 3) by decide +kernel) wd_1_139)) <|
  ok_c (sn_iload_n (show decode cX2_gatherJoins 49 = .ok (.iload_n 2, 1) by decide +kernel) rfl) <|
  ok_c (sn_iald (show decode cX2_gatherJoins 50 = .ok (.iaload, 1) by decide +kernel)) <|
  ok_c (sn_iconst (v := 0) (show decode cX2_gatherJoins 51 = .ok (.iconst 0, 1) by decide +kernel) (by decide +kernel)) <|
  ok_c (sn_iload_n (show decode cX2_gatherJoins 52 = .ok (.iload_n 3, 1) by decide +kernel) rfl) <|
  ok_c (sn_iconst (v := (-1)) (show decode cX2_gatherJoins 53 = .ok (.iconst (-1), 1) by decide +kernel) (by decide +kernel)) <|
  ok_c (sn_iinc (show decode cX2_gatherJoins 57 = .ok (.iinc 2 1, 3) by decide +kernel) (by decide) (by decide +kernel)) <|
  ok_c (sn_goto (show decode cX2_gatherJoins 60 = .ok (.goto (-53), 3) by decide +kernel) (by decide)) <|
  ok_c (sn_aload_n (show decode cX2_gatherJoins 63 = .ok (.aload_n 0, 1) by decide +kernel) rfl) <|
  ok_c (sn_getI (fun _ _ => rfl) (sn_get ck_2 (by decide) (show decode cX2_gatherJoins 64 = .ok (.getfield 48, 3) by decide +kernel) wd_2_25)) <|
  ok_c (sn_if_eq (show decode cX2_gatherJoins 67 = .ok (.ifCond .eq 4, 3) by decide +kernel) (by decide)) <|
  ok_c (sn_aload_n (show decode cX2_gatherJoins 71 = .ok (.aload_n 1, 1) by decide +kernel) rfl) <|
  ok_c (sn_getO (j := 18) (fun _ _ => rfl) (sn_get ck_7 (by decide) (show decode cX2_gatherJoins 72 = .ok (.getfield 106, 3) by decide +kernel) wd_1_158)) <|
  ok_c (sn_astore_n (show decode cX2_gatherJoins 75 = .ok (.astore_n 2, 1) by decide +kernel) rfl (by decide)) <|
  ok_c (sn_iconst (v := 0) (show decode cX2_gatherJoins 76 = .ok (.iconst 0, 1) by decide +kernel) (by decide +kernel)) <|
  ok_c (sn_istore_n (show decode cX2_gatherJoins 77 = .ok (.istore_n 3, 1) by decide +kernel) rfl (by decide)) <|
  ok_c (sn_iload_n (show decode cX2_gatherJoins 78 = .ok (.iload_n 3, 1) by decide +kernel) rfl) <|
  ok_c (sn_aload_n (show decode cX2_gatherJoins 79 = .ok (.aload_n 2, 1) by decide +kernel) rfl) <|
  ok_c (sn_getI (fun _ _ => rfl) (sn_get ck_0 (by decide) (show decode cX2_gatherJoins 80 = .ok (.getfield 110, 3) by decide +kernel) wd_1_71)) <|
  ok_c (sn_ic_ge (show decode cX2_gatherJoins 83 = .ok (.if_icmp .ge 59, 3) by decide +kernel) (by decide)) <|
  ok_c (sn_aload_n (show decode cX2_gatherJoins 86 = .ok (.aload_n 2, 1) by decide +kernel) rfl) <|
  ok_c (sn_getO (j := 3) (fun _ _ => rfl) (sn_get ck_0 (by decide) (show decode cX2_gatherJoins 87 = .ok (.getfield 115, 3) by decide +kernel) wd_1_68)) <|
  ok_c (sn_iload_n (show decode cX2_gatherJoins 90 = .ok (.iload_n 3, 1) by decide +kernel) rfl) <|
  ok_c (sn_iald (show decode cX2_gatherJoins 91 = .ok (.iaload, 1) by decide +kernel)) <|
  ok_c (sn_if_eq (show decode cX2_gatherJoins 92 = .ok (.ifCond .eq 44, 3) by decide +kernel) (by decide)) <|
  ok_c (sn_aload_n (show decode cX2_gatherJoins 95 = .ok (.aload_n 2, 1) by decide +kernel) rfl) <|
  ok_c (sn_getO (j := 2) (fun _ _ => rfl) (sn_get ck_0 (by decide) (show decode cX2_gatherJoins 96 = .ok (.getfield 116, 3) by decide +kernel) wd_1_66)) <|
  ok_c (sn_iload_n (show decode cX2_gatherJoins 99 = .ok (.iload_n 3, 1) by decide +kernel) rfl) <|
  ok_c (sn_iald (show decode cX2_gatherJoins 100 = .ok (.iaload, 1) by decide +kernel)) <|
  ok_c (sn_aload_n (show decode cX2_gatherJoins 101 = .ok (.aload_n 2, 1) by decide +kernel) rfl) <|
  ok_c (sn_getO (j := 3) (fun _ _ => rfl) (sn_get ck_0 (by decide) (show decode cX2_gatherJoins 102 = .ok (.getfield 115, 3) by decide +kernel) wd_1_68)) <|
  ok_c (sn_iload_n (show decode cX2_gatherJoins 105 = .ok (.iload_n 3, 1) by decide +kernel) rfl) <|
  ok_c (sn_iald (show decode cX2_gatherJoins 106 = .ok (.iaload, 1) by decide +kernel)) <|
  ok_c (sn_iadd (show decode cX2_gatherJoins 107 = .ok (.iadd, 1) by decide +kernel)) <|
  ok_c (sn_istore (show decode cX2_gatherJoins 108 = .ok (.istore 4, 2) by decide +kernel) (by decide)) <|
  ok_c (sn_aload_n (show decode cX2_gatherJoins 110 = .ok (.aload_n 0, 1) by decide +kernel) rfl) <|
  ok_c (sn_aload_n (show decode cX2_gatherJoins 111 = .ok (.aload_n 1, 1) by decide +kernel) rfl) <|
  ok_c (sn_aload_n (show decode cX2_gatherJoins 112 = .ok (.aload_n 2, 1) by decide +kernel) rfl) <|
  ok_c (sn_getO (j := 0) (fun _ _ => rfl) (sn_get ck_0 (by decide) (show decode cX2_gatherJoins 113 = .ok (.getfield 119, 3) by decide +kernel) wd_1_62)) <|
  ok_c (sn_iload_n (show decode cX2_gatherJoins 116 = .ok (.iload_n 3, 1) by decide +kernel) rfl) <|
  ok_c (sn_iald (show decode cX2_gatherJoins 117 = .ok (.iaload, 1) by decide +kernel)) <|
  ok_c (sn_aload_n (show decode cX2_gatherJoins 118 = .ok (.aload_n 2, 1) by decide +kernel) rfl) <|
  ok_c (sn_getO (j := 1) (fun _ _ => rfl) (sn_get ck_0 (by decide) (show decode cX2_gatherJoins 119 = .ok (.getfield 120, 3) by decide +kernel) wd_1_64)) <|
  ok_c (sn_iload_n (show decode cX2_gatherJoins 122 = .ok (.iload_n 3, 1) by decide +kernel) rfl) <|
  ok_c (sn_iald (show decode cX2_gatherJoins 123 = .ok (.iaload, 1) by decide +kernel)) <|
  ok_c (sn_aload_n (show decode cX2_gatherJoins 124 = .ok (.aload_n 2, 1) by decide +kernel) rfl) <|
  ok_c (sn_getO (j := 2) (fun _ _ => rfl) (sn_get ck_0 (by decide) (show decode cX2_gatherJoins 125 = .ok (.getfield 116, 3) by decide +kernel) wd_1_66)) <|
  ok_c (sn_iload_n (show decode cX2_gatherJoins 128 = .ok (.iload_n 3, 1) by decide +kernel) rfl) <|
  ok_c (sn_iald (show decode cX2_gatherJoins 129 = .ok (.iaload, 1) by decide +kernel)) <|
  ok_c (sn_iload (show decode cX2_gatherJoins 130 = .ok (.iload 4, 2) by decide +kernel)) <|
  ok_c (sn_iload_n (show decode cX2_gatherJoins 132 = .ok (.iload_n 3, 1) by decide +kernel) rfl) <|
  ok_c (sn_iinc (show decode cX2_gatherJoins 136 = .ok (.iinc 3 1, 3) by decide +kernel) (by decide) (by decide +kernel)) <|
  ok_c (sn_goto (show decode cX2_gatherJoins 139 = .ok (.goto (-61), 3) by decide +kernel) (by decide)) <|
  ok_n
def uX2_gatherJoins : gCT := [(20, YX8_has, 2, none), (54, YX2_gather, 7, some 2), (133, YX2_gather, 7, some 2)]
set_option maxRecDepth 100000 in
theorem ocX2_gatherJoins : gOkC YX2_gatherJoins uX2_gatherJoins := oc_c (gEdge_SN cal_X8_has (show decode cX2_gatherJoins 20 = .ok (.invokestatic 93, 3) by decide +kernel) wd_3_118 wd_3_119) <|
  oc_c (gEdge_V cal_X2_gather ck_2 rfl (show decode cX2_gatherJoins 54 = .ok (.invokevirtual 102, 3) by decide +kernel) wd_3_121 wd_3_123 wp_1_15) <|
  oc_c (gEdge_V cal_X2_gather ck_2 rfl (show decode cX2_gatherJoins 133 = .ok (.invokevirtual 102, 3) by decide +kernel) wd_3_121 wd_3_123 wp_1_15) <|
  oc_n
theorem reX2_gatherJoins : ∀ pc ∈ [70, 142], decode cX2_gatherJoins pc = .ok (.return_, 1) := by decide +kernel
def tX2_gather : List (Nat × gStp) := [(0, i_aload 0 1), (1, i_getI 2 5 4), (4, i_push (.int 38) 6), (6, i_ic_lt 10 9), (10, i_iload 5 12), (12, i_istore 7 14), (14, i_aload 0 15), (15, i_getI 2 1 18), (18, i_if_ne 41 21), (21, i_iload 7 23), (23, i_aload 1 24), (24, i_getO 7 10 27), (27, i_iload 2 28), (28, i_iload 3 29), (29, i_iload 4 31), (31, i_iload 6 33), (36, i_min 39), (39, i_istore 7 41), (41, i_aload 0 42), (42, i_getI 2 4 45), (45, i_iload 2 46), (49, i_if_ne 63 52), (52, i_aload 0 53), (53, i_getI 2 4 56), (56, i_iload 3 57), (60, i_if_eq 66 63), (63, i_push (.int 0) 64), (64, i_istore 7 66), (66, i_aload 0 67), (67, i_getC 2 15 70), (70, i_aload 0 71), (71, i_getI 2 5 74), (74, i_iload 2 75), (75, i_iast 76), (76, i_aload 0 77), (77, i_getC 2 16 80), (80, i_aload 0 81), (81, i_getI 2 5 84), (84, i_iload 3 85), (85, i_iast 86), (86, i_aload 0 87), (87, i_getC 2 17 90), (90, i_aload 0 91), (91, i_getI 2 5 94), (94, i_iload 4 96), (96, i_iast 97), (97, i_aload 0 98), (98, i_getC 2 18 101), (101, i_aload 0 102), (102, i_getI 2 5 105), (105, i_iload 7 107), (107, i_iast 108), (108, i_aload 0 109), (109, i_dup 110), (110, i_getI 2 5 113), (113, i_push (.int 1) 114), (114, i_ii (fun x y => x + y) 115), (115, i_putI 2 5 118)]
set_option maxRecDepth 100000 in
theorem okX2_gather : gOk YX2_gather tX2_gather := ok_c (sn_aload_n (show decode cX2_gather 0 = .ok (.aload_n 0, 1) by decide +kernel) rfl) <|
  ok_c (sn_getI (fun _ _ => rfl) (sn_get ck_2 (by decide) (show decode cX2_gather 1 = .ok (.getfield 87, 3) by decide +kernel) wd_2_34)) <|
  ok_c (sn_bipush (v := 38) (show decode cX2_gather 4 = .ok (.bipush 38, 2) by decide +kernel) (by decide +kernel)) <|
  ok_c (sn_ic_lt (show decode cX2_gather 6 = .ok (.if_icmp .lt 4, 3) by decide +kernel) (by decide)) <|
  ok_c (sn_iload (show decode cX2_gather 10 = .ok (.iload 5, 2) by decide +kernel)) <|
  ok_c (sn_istore (show decode cX2_gather 12 = .ok (.istore 7, 2) by decide +kernel) (by decide)) <|
  ok_c (sn_aload_n (show decode cX2_gather 14 = .ok (.aload_n 0, 1) by decide +kernel) rfl) <|
  ok_c (sn_getI (fun _ _ => rfl) (sn_get ck_2 (by decide) (show decode cX2_gather 15 = .ok (.getfield 48, 3) by decide +kernel) wd_2_25)) <|
  ok_c (sn_if_ne (show decode cX2_gather 18 = .ok (.ifCond .ne 23, 3) by decide +kernel) (by decide)) <|
  ok_c (sn_iload (show decode cX2_gather 21 = .ok (.iload 7, 2) by decide +kernel)) <|
  ok_c (sn_aload_n (show decode cX2_gather 23 = .ok (.aload_n 1, 1) by decide +kernel) rfl) <|
  ok_c (sn_getO (j := 18) (fun _ _ => rfl) (sn_get ck_7 (by decide) (show decode cX2_gather 24 = .ok (.getfield 106, 3) by decide +kernel) wd_1_158)) <|
  ok_c (sn_iload_n (show decode cX2_gather 27 = .ok (.iload_n 2, 1) by decide +kernel) rfl) <|
  ok_c (sn_iload_n (show decode cX2_gather 28 = .ok (.iload_n 3, 1) by decide +kernel) rfl) <|
  ok_c (sn_iload (show decode cX2_gather 29 = .ok (.iload 4, 2) by decide +kernel)) <|
  ok_c (sn_iload (show decode cX2_gather 31 = .ok (.iload 6, 2) by decide +kernel)) <|
  ok_c (sn_min (show decode cX2_gather 36 = .ok (.invokestatic 125, 3) by decide +kernel) wd_3_134 wd_2_198 wd_1_11 wd_2_199) <|
  ok_c (sn_istore (show decode cX2_gather 39 = .ok (.istore 7, 2) by decide +kernel) (by decide)) <|
  ok_c (sn_aload_n (show decode cX2_gather 41 = .ok (.aload_n 0, 1) by decide +kernel) rfl) <|
  ok_c (sn_getI (fun _ _ => rfl) (sn_get ck_2 (by decide) (show decode cX2_gather 42 = .ok (.getfield 58, 3) by decide +kernel) wd_2_32)) <|
  ok_c (sn_iload_n (show decode cX2_gather 45 = .ok (.iload_n 2, 1) by decide +kernel) rfl) <|
  ok_c (sn_if_ne (show decode cX2_gather 49 = .ok (.ifCond .ne 14, 3) by decide +kernel) (by decide)) <|
  ok_c (sn_aload_n (show decode cX2_gather 52 = .ok (.aload_n 0, 1) by decide +kernel) rfl) <|
  ok_c (sn_getI (fun _ _ => rfl) (sn_get ck_2 (by decide) (show decode cX2_gather 53 = .ok (.getfield 58, 3) by decide +kernel) wd_2_32)) <|
  ok_c (sn_iload_n (show decode cX2_gather 56 = .ok (.iload_n 3, 1) by decide +kernel) rfl) <|
  ok_c (sn_if_eq (show decode cX2_gather 60 = .ok (.ifCond .eq 6, 3) by decide +kernel) (by decide)) <|
  ok_c (sn_iconst (v := 0) (show decode cX2_gather 63 = .ok (.iconst 0, 1) by decide +kernel) (by decide +kernel)) <|
  ok_c (sn_istore (show decode cX2_gather 64 = .ok (.istore 7, 2) by decide +kernel) (by decide)) <|
  ok_c (sn_aload_n (show decode cX2_gather 66 = .ok (.aload_n 0, 1) by decide +kernel) rfl) <|
  ok_c (sn_getC (j := 6) (fun _ _ => rfl) (sn_get ck_2 (by decide) (show decode cX2_gather 67 = .ok (.getfield 11, 3) by decide +kernel) wd_2_35)) <|
  ok_c (sn_aload_n (show decode cX2_gather 70 = .ok (.aload_n 0, 1) by decide +kernel) rfl) <|
  ok_c (sn_getI (fun _ _ => rfl) (sn_get ck_2 (by decide) (show decode cX2_gather 71 = .ok (.getfield 87, 3) by decide +kernel) wd_2_34)) <|
  ok_c (sn_iload_n (show decode cX2_gather 74 = .ok (.iload_n 2, 1) by decide +kernel) rfl) <|
  ok_c (sn_iast (show decode cX2_gather 75 = .ok (.iastore, 1) by decide +kernel)) <|
  ok_c (sn_aload_n (show decode cX2_gather 76 = .ok (.aload_n 0, 1) by decide +kernel) rfl) <|
  ok_c (sn_getC (j := 7) (fun _ _ => rfl) (sn_get ck_2 (by decide) (show decode cX2_gather 77 = .ok (.getfield 15, 3) by decide +kernel) wd_2_36)) <|
  ok_c (sn_aload_n (show decode cX2_gather 80 = .ok (.aload_n 0, 1) by decide +kernel) rfl) <|
  ok_c (sn_getI (fun _ _ => rfl) (sn_get ck_2 (by decide) (show decode cX2_gather 81 = .ok (.getfield 87, 3) by decide +kernel) wd_2_34)) <|
  ok_c (sn_iload_n (show decode cX2_gather 84 = .ok (.iload_n 3, 1) by decide +kernel) rfl) <|
  ok_c (sn_iast (show decode cX2_gather 85 = .ok (.iastore, 1) by decide +kernel)) <|
  ok_c (sn_aload_n (show decode cX2_gather 86 = .ok (.aload_n 0, 1) by decide +kernel) rfl) <|
  ok_c (sn_getC (j := 8) (fun _ _ => rfl) (sn_get ck_2 (by decide) (show decode cX2_gather 87 = .ok (.getfield 18, 3) by decide +kernel) wd_2_37)) <|
  ok_c (sn_aload_n (show decode cX2_gather 90 = .ok (.aload_n 0, 1) by decide +kernel) rfl) <|
  ok_c (sn_getI (fun _ _ => rfl) (sn_get ck_2 (by decide) (show decode cX2_gather 91 = .ok (.getfield 87, 3) by decide +kernel) wd_2_34)) <|
  ok_c (sn_iload (show decode cX2_gather 94 = .ok (.iload 4, 2) by decide +kernel)) <|
  ok_c (sn_iast (show decode cX2_gather 96 = .ok (.iastore, 1) by decide +kernel)) <|
  ok_c (sn_aload_n (show decode cX2_gather 97 = .ok (.aload_n 0, 1) by decide +kernel) rfl) <|
  ok_c (sn_getC (j := 9) (fun _ _ => rfl) (sn_get ck_2 (by decide) (show decode cX2_gather 98 = .ok (.getfield 21, 3) by decide +kernel) wd_2_38)) <|
  ok_c (sn_aload_n (show decode cX2_gather 101 = .ok (.aload_n 0, 1) by decide +kernel) rfl) <|
  ok_c (sn_getI (fun _ _ => rfl) (sn_get ck_2 (by decide) (show decode cX2_gather 102 = .ok (.getfield 87, 3) by decide +kernel) wd_2_34)) <|
  ok_c (sn_iload (show decode cX2_gather 105 = .ok (.iload 7, 2) by decide +kernel)) <|
  ok_c (sn_iast (show decode cX2_gather 107 = .ok (.iastore, 1) by decide +kernel)) <|
  ok_c (sn_aload_n (show decode cX2_gather 108 = .ok (.aload_n 0, 1) by decide +kernel) rfl) <|
  ok_c (sn_dup (show decode cX2_gather 109 = .ok (.dup, 1) by decide +kernel)) <|
  ok_c (sn_getI (fun _ _ => rfl) (sn_get ck_2 (by decide) (show decode cX2_gather 110 = .ok (.getfield 87, 3) by decide +kernel) wd_2_34)) <|
  ok_c (sn_iconst (v := 1) (show decode cX2_gather 113 = .ok (.iconst 1, 1) by decide +kernel) (by decide +kernel)) <|
  ok_c (sn_iadd (show decode cX2_gather 114 = .ok (.iadd, 1) by decide +kernel)) <|
  ok_c (sn_putI ck_2 (by decide) rfl rfl (show decode cX2_gather 115 = .ok (.putfield 87, 3) by decide +kernel) wd_2_34) <|
  ok_n
def uX2_gather : gCT := [(33, YX0_cutOf, 5, some 0), (46, YX8_has, 2, none), (57, YX8_has, 2, none)]
set_option maxRecDepth 100000 in
theorem ocX2_gather : gOkC YX2_gather uX2_gather := oc_c (gEdge_V cal_X0_cutOf ck_0 rfl (show decode cX2_gather 33 = .ok (.invokevirtual 121, 3) by decide +kernel) wd_3_125 wd_3_126 wd_3_127) <|
  oc_c (gEdge_SN cal_X8_has (show decode cX2_gather 46 = .ok (.invokestatic 93, 3) by decide +kernel) wd_3_118 wd_3_119) <|
  oc_c (gEdge_SN cal_X8_has (show decode cX2_gather 57 = .ok (.invokestatic 93, 3) by decide +kernel) wd_3_118 wd_3_119) <|
  oc_n
theorem reX2_gather : ∀ pc ∈ [9, 118], decode cX2_gather pc = .ok (.return_, 1) := by decide +kernel
def tX2_tellWorths : List (Nat × gStp) := [(0, i_push (.int 0) 1), (1, i_istore 3 2), (2, i_iload 3 3), (3, i_aload 1 4), (4, i_getI 7 5 7), (7, i_ic_ge 65 10), (10, i_iload 2 11), (11, i_if_ne 31 14), (14, i_aload 0 15), (15, i_getC 2 22 18), (18, i_iload 2 19), (19, i_aald7 20), (20, i_iload 3 21), (21, i_aload 1 22), (22, i_getO 7 2 25), (25, i_iload 3 26), (26, i_iald 27), (27, i_iast 28), (28, i_goto 59), (31, i_aload 0 32), (32, i_getC 2 22 35), (35, i_iload 2 36), (36, i_aald7 37), (37, i_iload 3 38), (38, i_aload 0 39), (39, i_getC 2 22 42), (42, i_iload 2 43), (43, i_push (.int 1) 44), (44, i_ii (fun x y => x - y) 45), (45, i_aald7 46), (46, i_iload 3 47), (47, i_iald 48), (48, i_aload 0 49), (49, i_aload 1 50), (50, i_iload 2 51), (51, i_push (.int 1) 52), (52, i_ii (fun x y => x - y) 53), (53, i_iload 3 54), (57, i_ii (fun x y => x + y) 58), (58, i_iast 59), (59, i_iinc 3 1 62), (62, i_goto 2)]
set_option maxRecDepth 100000 in
theorem okX2_tellWorths : gOk YX2_tellWorths tX2_tellWorths := ok_c (sn_iconst (v := 0) (show decode cX2_tellWorths 0 = .ok (.iconst 0, 1) by decide +kernel) (by decide +kernel)) <|
  ok_c (sn_istore_n (show decode cX2_tellWorths 1 = .ok (.istore_n 3, 1) by decide +kernel) rfl (by decide)) <|
  ok_c (sn_iload_n (show decode cX2_tellWorths 2 = .ok (.iload_n 3, 1) by decide +kernel) rfl) <|
  ok_c (sn_aload_n (show decode cX2_tellWorths 3 = .ok (.aload_n 1, 1) by decide +kernel) rfl) <|
  ok_c (sn_getI (fun _ _ => rfl) (sn_get ck_7 (by decide) (show decode cX2_tellWorths 4 = .ok (.getfield 131, 3) by decide +kernel) wd_1_107)) <|
  ok_c (sn_ic_ge (show decode cX2_tellWorths 7 = .ok (.if_icmp .ge 58, 3) by decide +kernel) (by decide)) <|
  ok_c (sn_iload_n (show decode cX2_tellWorths 10 = .ok (.iload_n 2, 1) by decide +kernel) rfl) <|
  ok_c (sn_if_ne (show decode cX2_tellWorths 11 = .ok (.ifCond .ne 20, 3) by decide +kernel) (by decide)) <|
  ok_c (sn_aload_n (show decode cX2_tellWorths 14 = .ok (.aload_n 0, 1) by decide +kernel) rfl) <|
  ok_c (sn_getC (j := 13) (fun _ _ => rfl) (sn_get ck_2 (by decide) (show decode cX2_tellWorths 15 = .ok (.getfield 35, 3) by decide +kernel) wd_2_45)) <|
  ok_c (sn_iload_n (show decode cX2_tellWorths 18 = .ok (.iload_n 2, 1) by decide +kernel) rfl) <|
  ok_c (sn_aald7 (show decode cX2_tellWorths 19 = .ok (.aaload, 1) by decide +kernel)) <|
  ok_c (sn_iload_n (show decode cX2_tellWorths 20 = .ok (.iload_n 3, 1) by decide +kernel) rfl) <|
  ok_c (sn_aload_n (show decode cX2_tellWorths 21 = .ok (.aload_n 1, 1) by decide +kernel) rfl) <|
  ok_c (sn_getO (j := 10) (fun _ _ => rfl) (sn_get ck_7 (by decide) (show decode cX2_tellWorths 22 = .ok (.getfield 134, 3) by decide +kernel) wd_1_128)) <|
  ok_c (sn_iload_n (show decode cX2_tellWorths 25 = .ok (.iload_n 3, 1) by decide +kernel) rfl) <|
  ok_c (sn_iald (show decode cX2_tellWorths 26 = .ok (.iaload, 1) by decide +kernel)) <|
  ok_c (sn_iast (show decode cX2_tellWorths 27 = .ok (.iastore, 1) by decide +kernel)) <|
  ok_c (sn_goto (show decode cX2_tellWorths 28 = .ok (.goto 31, 3) by decide +kernel) (by decide)) <|
  ok_c (sn_aload_n (show decode cX2_tellWorths 31 = .ok (.aload_n 0, 1) by decide +kernel) rfl) <|
  ok_c (sn_getC (j := 13) (fun _ _ => rfl) (sn_get ck_2 (by decide) (show decode cX2_tellWorths 32 = .ok (.getfield 35, 3) by decide +kernel) wd_2_45)) <|
  ok_c (sn_iload_n (show decode cX2_tellWorths 35 = .ok (.iload_n 2, 1) by decide +kernel) rfl) <|
  ok_c (sn_aald7 (show decode cX2_tellWorths 36 = .ok (.aaload, 1) by decide +kernel)) <|
  ok_c (sn_iload_n (show decode cX2_tellWorths 37 = .ok (.iload_n 3, 1) by decide +kernel) rfl) <|
  ok_c (sn_aload_n (show decode cX2_tellWorths 38 = .ok (.aload_n 0, 1) by decide +kernel) rfl) <|
  ok_c (sn_getC (j := 13) (fun _ _ => rfl) (sn_get ck_2 (by decide) (show decode cX2_tellWorths 39 = .ok (.getfield 35, 3) by decide +kernel) wd_2_45)) <|
  ok_c (sn_iload_n (show decode cX2_tellWorths 42 = .ok (.iload_n 2, 1) by decide +kernel) rfl) <|
  ok_c (sn_iconst (v := 1) (show decode cX2_tellWorths 43 = .ok (.iconst 1, 1) by decide +kernel) (by decide +kernel)) <|
  ok_c (sn_isub (show decode cX2_tellWorths 44 = .ok (.isub, 1) by decide +kernel)) <|
  ok_c (sn_aald7 (show decode cX2_tellWorths 45 = .ok (.aaload, 1) by decide +kernel)) <|
  ok_c (sn_iload_n (show decode cX2_tellWorths 46 = .ok (.iload_n 3, 1) by decide +kernel) rfl) <|
  ok_c (sn_iald (show decode cX2_tellWorths 47 = .ok (.iaload, 1) by decide +kernel)) <|
  ok_c (sn_aload_n (show decode cX2_tellWorths 48 = .ok (.aload_n 0, 1) by decide +kernel) rfl) <|
  ok_c (sn_aload_n (show decode cX2_tellWorths 49 = .ok (.aload_n 1, 1) by decide +kernel) rfl) <|
  ok_c (sn_iload_n (show decode cX2_tellWorths 50 = .ok (.iload_n 2, 1) by decide +kernel) rfl) <|
  ok_c (sn_iconst (v := 1) (show decode cX2_tellWorths 51 = .ok (.iconst 1, 1) by decide +kernel) (by decide +kernel)) <|
  ok_c (sn_isub (show decode cX2_tellWorths 52 = .ok (.isub, 1) by decide +kernel)) <|
  ok_c (sn_iload_n (show decode cX2_tellWorths 53 = .ok (.iload_n 3, 1) by decide +kernel) rfl) <|
  ok_c (sn_iadd (show decode cX2_tellWorths 57 = .ok (.iadd, 1) by decide +kernel)) <|
  ok_c (sn_iast (show decode cX2_tellWorths 58 = .ok (.iastore, 1) by decide +kernel)) <|
  ok_c (sn_iinc (show decode cX2_tellWorths 59 = .ok (.iinc 3 1, 3) by decide +kernel) (by decide) (by decide +kernel)) <|
  ok_c (sn_goto (show decode cX2_tellWorths 62 = .ok (.goto (-60), 3) by decide +kernel) (by decide)) <|
  ok_n
def uX2_tellWorths : gCT := [(54, YX2_change, 4, some 2)]
set_option maxRecDepth 100000 in
theorem ocX2_tellWorths : gOkC YX2_tellWorths uX2_tellWorths := oc_c (gEdge_V cal_X2_change ck_2 rfl (show decode cX2_tellWorths 54 = .ok (.invokevirtual 136, 3) by decide +kernel) wd_3_139 wd_3_141 wp_2_2) <|
  oc_n
theorem reX2_tellWorths : ∀ pc ∈ [65], decode cX2_tellWorths pc = .ok (.return_, 1) := by decide +kernel
def tX2_change : List (Nat × gStp) := [(0, i_aload 0 1), (1, i_getC 2 20 4), (4, i_iload 2 5), (5, i_iald 6), (6, i_iload 3 7), (10, i_if_eq 15 13), (13, i_push (.int 0) 14), (15, i_aload 1 16), (16, i_getO 7 3 19), (19, i_iload 3 20), (20, i_iald 21), (21, i_aload 0 22), (22, i_getC 2 21 25), (25, i_iload 2 26), (26, i_iald 27), (27, i_iload 3 28), (31, i_if_eq 41 34), (34, i_aload 1 35), (35, i_getI 7 3 38), (38, i_goto 42), (41, i_push (.int 0) 42), (42, i_ii (fun x y => x - y) 43)]
set_option maxRecDepth 100000 in
theorem okX2_change : gOk YX2_change tX2_change := ok_c (sn_aload_n (show decode cX2_change 0 = .ok (.aload_n 0, 1) by decide +kernel) rfl) <|
  ok_c (sn_getC (j := 11) (fun _ _ => rfl) (sn_get ck_2 (by decide) (show decode cX2_change 1 = .ok (.getfield 27, 3) by decide +kernel) wd_2_41)) <|
  ok_c (sn_iload_n (show decode cX2_change 4 = .ok (.iload_n 2, 1) by decide +kernel) rfl) <|
  ok_c (sn_iald (show decode cX2_change 5 = .ok (.iaload, 1) by decide +kernel)) <|
  ok_c (sn_iload_n (show decode cX2_change 6 = .ok (.iload_n 3, 1) by decide +kernel) rfl) <|
  ok_c (sn_if_eq (show decode cX2_change 10 = .ok (.ifCond .eq 5, 3) by decide +kernel) (by decide)) <|
  ok_c (sn_iconst (v := 0) (show decode cX2_change 13 = .ok (.iconst 0, 1) by decide +kernel) (by decide +kernel)) <|
  ok_c (sn_aload_n (show decode cX2_change 15 = .ok (.aload_n 1, 1) by decide +kernel) rfl) <|
  ok_c (sn_getO (j := 11) (fun _ _ => rfl) (sn_get ck_7 (by decide) (show decode cX2_change 16 = .ok (.getfield 139, 3) by decide +kernel) wd_1_133)) <|
  ok_c (sn_iload_n (show decode cX2_change 19 = .ok (.iload_n 3, 1) by decide +kernel) rfl) <|
  ok_c (sn_iald (show decode cX2_change 20 = .ok (.iaload, 1) by decide +kernel)) <|
  ok_c (sn_aload_n (show decode cX2_change 21 = .ok (.aload_n 0, 1) by decide +kernel) rfl) <|
  ok_c (sn_getC (j := 12) (fun _ _ => rfl) (sn_get ck_2 (by decide) (show decode cX2_change 22 = .ok (.getfield 30, 3) by decide +kernel) wd_2_43)) <|
  ok_c (sn_iload_n (show decode cX2_change 25 = .ok (.iload_n 2, 1) by decide +kernel) rfl) <|
  ok_c (sn_iald (show decode cX2_change 26 = .ok (.iaload, 1) by decide +kernel)) <|
  ok_c (sn_iload_n (show decode cX2_change 27 = .ok (.iload_n 3, 1) by decide +kernel) rfl) <|
  ok_c (sn_if_eq (show decode cX2_change 31 = .ok (.ifCond .eq 10, 3) by decide +kernel) (by decide)) <|
  ok_c (sn_aload_n (show decode cX2_change 34 = .ok (.aload_n 1, 1) by decide +kernel) rfl) <|
  ok_c (sn_getI (fun _ _ => rfl) (sn_get ck_7 (by decide) (show decode cX2_change 35 = .ok (.getfield 142, 3) by decide +kernel) wd_1_98)) <|
  ok_c (sn_goto (show decode cX2_change 38 = .ok (.goto 4, 3) by decide +kernel) (by decide)) <|
  ok_c (sn_iconst (v := 0) (show decode cX2_change 41 = .ok (.iconst 0, 1) by decide +kernel) (by decide +kernel)) <|
  ok_c (sn_isub (show decode cX2_change 42 = .ok (.isub, 1) by decide +kernel)) <|
  ok_n
def uX2_change : gCT := [(7, YX8_has, 2, none), (28, YX8_has, 2, none)]
set_option maxRecDepth 100000 in
theorem ocX2_change : gOkC YX2_change uX2_change := oc_c (gEdge_SN cal_X8_has (show decode cX2_change 7 = .ok (.invokestatic 93, 3) by decide +kernel) wd_3_118 wd_3_119) <|
  oc_c (gEdge_SN cal_X8_has (show decode cX2_change 28 = .ok (.invokestatic 93, 3) by decide +kernel) wd_3_118 wd_3_119) <|
  oc_n
theorem reX2_change : ∀ pc ∈ [14, 43], decode cX2_change pc = .ok (.ireturn, 1) := by decide +kernel
def tX2_holdsIn : List (Nat × gStp) := [(0, i_aload 0 1), (1, i_getC 2 17 4), (4, i_iload 1 5), (5, i_iald 6), (6, i_iload 2 7), (7, i_ic_gt 24 10), (10, i_iload 2 11), (11, i_aload 0 12), (12, i_getC 2 18 15), (15, i_iload 1 16), (16, i_iald 17), (17, i_ic_ge 24 20), (20, i_push (.int 1) 21), (21, i_goto 25), (24, i_push (.int 0) 25), (25, i_istore 4 27), (27, i_iload 4 29), (29, i_if_eq 62 32), (32, i_iload 3 33), (33, i_aload 0 34), (34, i_getC 2 15 37), (37, i_iload 1 38), (38, i_iald 39), (42, i_if_ne 62 45), (45, i_iload 3 46), (46, i_aload 0 47), (47, i_getC 2 16 50), (50, i_iload 1 51), (51, i_iald 52), (55, i_if_ne 62 58), (58, i_push (.int 1) 59), (59, i_goto 63), (62, i_push (.int 0) 63)]
set_option maxRecDepth 100000 in
theorem okX2_holdsIn : gOk YX2_holdsIn tX2_holdsIn := ok_c (sn_aload_n (show decode cX2_holdsIn 0 = .ok (.aload_n 0, 1) by decide +kernel) rfl) <|
  ok_c (sn_getC (j := 8) (fun _ _ => rfl) (sn_get ck_2 (by decide) (show decode cX2_holdsIn 1 = .ok (.getfield 18, 3) by decide +kernel) wd_2_37)) <|
  ok_c (sn_iload_n (show decode cX2_holdsIn 4 = .ok (.iload_n 1, 1) by decide +kernel) rfl) <|
  ok_c (sn_iald (show decode cX2_holdsIn 5 = .ok (.iaload, 1) by decide +kernel)) <|
  ok_c (sn_iload_n (show decode cX2_holdsIn 6 = .ok (.iload_n 2, 1) by decide +kernel) rfl) <|
  ok_c (sn_ic_gt (show decode cX2_holdsIn 7 = .ok (.if_icmp .gt 17, 3) by decide +kernel) (by decide)) <|
  ok_c (sn_iload_n (show decode cX2_holdsIn 10 = .ok (.iload_n 2, 1) by decide +kernel) rfl) <|
  ok_c (sn_aload_n (show decode cX2_holdsIn 11 = .ok (.aload_n 0, 1) by decide +kernel) rfl) <|
  ok_c (sn_getC (j := 9) (fun _ _ => rfl) (sn_get ck_2 (by decide) (show decode cX2_holdsIn 12 = .ok (.getfield 21, 3) by decide +kernel) wd_2_38)) <|
  ok_c (sn_iload_n (show decode cX2_holdsIn 15 = .ok (.iload_n 1, 1) by decide +kernel) rfl) <|
  ok_c (sn_iald (show decode cX2_holdsIn 16 = .ok (.iaload, 1) by decide +kernel)) <|
  ok_c (sn_ic_ge (show decode cX2_holdsIn 17 = .ok (.if_icmp .ge 7, 3) by decide +kernel) (by decide)) <|
  ok_c (sn_iconst (v := 1) (show decode cX2_holdsIn 20 = .ok (.iconst 1, 1) by decide +kernel) (by decide +kernel)) <|
  ok_c (sn_goto (show decode cX2_holdsIn 21 = .ok (.goto 4, 3) by decide +kernel) (by decide)) <|
  ok_c (sn_iconst (v := 0) (show decode cX2_holdsIn 24 = .ok (.iconst 0, 1) by decide +kernel) (by decide +kernel)) <|
  ok_c (sn_istore (show decode cX2_holdsIn 25 = .ok (.istore 4, 2) by decide +kernel) (by decide)) <|
  ok_c (sn_iload (show decode cX2_holdsIn 27 = .ok (.iload 4, 2) by decide +kernel)) <|
  ok_c (sn_if_eq (show decode cX2_holdsIn 29 = .ok (.ifCond .eq 33, 3) by decide +kernel) (by decide)) <|
  ok_c (sn_iload_n (show decode cX2_holdsIn 32 = .ok (.iload_n 3, 1) by decide +kernel) rfl) <|
  ok_c (sn_aload_n (show decode cX2_holdsIn 33 = .ok (.aload_n 0, 1) by decide +kernel) rfl) <|
  ok_c (sn_getC (j := 6) (fun _ _ => rfl) (sn_get ck_2 (by decide) (show decode cX2_holdsIn 34 = .ok (.getfield 11, 3) by decide +kernel) wd_2_35)) <|
  ok_c (sn_iload_n (show decode cX2_holdsIn 37 = .ok (.iload_n 1, 1) by decide +kernel) rfl) <|
  ok_c (sn_iald (show decode cX2_holdsIn 38 = .ok (.iaload, 1) by decide +kernel)) <|
  ok_c (sn_if_ne (show decode cX2_holdsIn 42 = .ok (.ifCond .ne 20, 3) by decide +kernel) (by decide)) <|
  ok_c (sn_iload_n (show decode cX2_holdsIn 45 = .ok (.iload_n 3, 1) by decide +kernel) rfl) <|
  ok_c (sn_aload_n (show decode cX2_holdsIn 46 = .ok (.aload_n 0, 1) by decide +kernel) rfl) <|
  ok_c (sn_getC (j := 7) (fun _ _ => rfl) (sn_get ck_2 (by decide) (show decode cX2_holdsIn 47 = .ok (.getfield 15, 3) by decide +kernel) wd_2_36)) <|
  ok_c (sn_iload_n (show decode cX2_holdsIn 50 = .ok (.iload_n 1, 1) by decide +kernel) rfl) <|
  ok_c (sn_iald (show decode cX2_holdsIn 51 = .ok (.iaload, 1) by decide +kernel)) <|
  ok_c (sn_if_ne (show decode cX2_holdsIn 55 = .ok (.ifCond .ne 7, 3) by decide +kernel) (by decide)) <|
  ok_c (sn_iconst (v := 1) (show decode cX2_holdsIn 58 = .ok (.iconst 1, 1) by decide +kernel) (by decide +kernel)) <|
  ok_c (sn_goto (show decode cX2_holdsIn 59 = .ok (.goto 4, 3) by decide +kernel) (by decide)) <|
  ok_c (sn_iconst (v := 0) (show decode cX2_holdsIn 62 = .ok (.iconst 0, 1) by decide +kernel) (by decide +kernel)) <|
  ok_n
def uX2_holdsIn : gCT := [(39, YX8_has, 2, none), (52, YX8_has, 2, none)]
set_option maxRecDepth 100000 in
theorem ocX2_holdsIn : gOkC YX2_holdsIn uX2_holdsIn := oc_c (gEdge_SN cal_X8_has (show decode cX2_holdsIn 39 = .ok (.invokestatic 93, 3) by decide +kernel) wd_3_118 wd_3_119) <|
  oc_c (gEdge_SN cal_X8_has (show decode cX2_holdsIn 52 = .ok (.invokestatic 93, 3) by decide +kernel) wd_3_118 wd_3_119) <|
  oc_n
theorem reX2_holdsIn : ∀ pc ∈ [63], decode cX2_holdsIn pc = .ok (.ireturn, 1) := by decide +kernel
def tX2_joinUp : List (Nat × gStp) := [(0, i_aload 0 1), (1, i_getC 2 35 4), (4, i_iload 2 5), (5, i_aald7 6), (6, i_astore 4 8), (8, i_aload 0 9), (9, i_getC 2 48 12), (12, i_iload 2 13), (13, i_aald7 14), (14, i_astore 5 16), (16, i_push (.int 0) 17), (17, i_istore 6 19), (19, i_iload 6 21), (21, i_push (.int 6) 23), (23, i_ic_ge 44 26), (26, i_aload 4 28), (28, i_iload 6 30), (30, i_push (.int 0) 31), (31, i_iast 32), (32, i_aload 5 34), (34, i_iload 6 36), (36, i_push (.int 0) 37), (37, i_iast 38), (38, i_iinc 6 1 41), (41, i_goto 19), (44, i_push (.int 0) 45), (45, i_istore 6 47), (47, i_iload 6 49), (49, i_aload 0 50), (50, i_getI 2 5 53), (53, i_ic_ge 117 56), (56, i_aload 0 57), (57, i_iload 6 59), (59, i_iload 2 60), (60, i_iload 3 61), (64, i_if_eq 111 67), (67, i_aload 4 69), (69, i_aload 0 70), (70, i_getC 2 15 73), (73, i_iload 6 75), (75, i_iald 76), (76, i_dup2 77), (77, i_iald 78), (78, i_push (.int 1) 79), (79, i_aload 0 80), (80, i_getC 2 16 83), (83, i_iload 6 85), (85, i_iald 86), (86, i_ii (fun x y => x <<< (y &&& 31)) 87), (87, i_ii (fun x y => x ||| y) 88), (88, i_iast 89), (89, i_aload 4 91), (91, i_aload 0 92), (92, i_getC 2 16 95), (95, i_iload 6 97), (97, i_iald 98), (98, i_dup2 99), (99, i_iald 100), (100, i_push (.int 1) 101), (101, i_aload 0 102), (102, i_getC 2 15 105), (105, i_iload 6 107), (107, i_iald 108), (108, i_ii (fun x y => x <<< (y &&& 31)) 109), (109, i_ii (fun x y => x ||| y) 110), (110, i_iast 111), (111, i_iinc 6 1 114), (114, i_goto 47), (117, i_push (.int 0) 118), (118, i_istore 6 120), (120, i_iload 6 122), (122, i_aload 1 123), (123, i_getI 7 5 126), (126, i_ic_ge 166 129), (129, i_iload 3 130), (130, i_iload 6 132), (135, i_if_ne 160 138), (138, i_aload 5 140), (140, i_iload 6 142), (142, i_iald 143), (143, i_if_ne 160 146), (146, i_aload 5 148), (148, i_aload 4 150), (150, i_push (.int 1) 151), (151, i_iload 6 153), (153, i_ii (fun x y => x <<< (y &&& 31)) 154), (160, i_iinc 6 1 163), (163, i_goto 120)]
set_option maxRecDepth 100000 in
theorem okX2_joinUp : gOk YX2_joinUp tX2_joinUp := ok_c (sn_aload_n (show decode cX2_joinUp 0 = .ok (.aload_n 0, 1) by decide +kernel) rfl) <|
  ok_c (sn_getC (j := 14) (fun _ _ => rfl) (sn_get ck_2 (by decide) (show decode cX2_joinUp 1 = .ok (.getfield 38, 3) by decide +kernel) wd_2_47)) <|
  ok_c (sn_iload_n (show decode cX2_joinUp 4 = .ok (.iload_n 2, 1) by decide +kernel) rfl) <|
  ok_c (sn_aald7 (show decode cX2_joinUp 5 = .ok (.aaload, 1) by decide +kernel)) <|
  ok_c (sn_astore (show decode cX2_joinUp 6 = .ok (.astore 4, 2) by decide +kernel) (by decide)) <|
  ok_c (sn_aload_n (show decode cX2_joinUp 8 = .ok (.aload_n 0, 1) by decide +kernel) rfl) <|
  ok_c (sn_getC (j := 15) (fun _ _ => rfl) (sn_get ck_2 (by decide) (show decode cX2_joinUp 9 = .ok (.getfield 41, 3) by decide +kernel) wd_2_48)) <|
  ok_c (sn_iload_n (show decode cX2_joinUp 12 = .ok (.iload_n 2, 1) by decide +kernel) rfl) <|
  ok_c (sn_aald7 (show decode cX2_joinUp 13 = .ok (.aaload, 1) by decide +kernel)) <|
  ok_c (sn_astore (show decode cX2_joinUp 14 = .ok (.astore 5, 2) by decide +kernel) (by decide)) <|
  ok_c (sn_iconst (v := 0) (show decode cX2_joinUp 16 = .ok (.iconst 0, 1) by decide +kernel) (by decide +kernel)) <|
  ok_c (sn_istore (show decode cX2_joinUp 17 = .ok (.istore 6, 2) by decide +kernel) (by decide)) <|
  ok_c (sn_iload (show decode cX2_joinUp 19 = .ok (.iload 6, 2) by decide +kernel)) <|
  ok_c (sn_bipush (v := 6) (show decode cX2_joinUp 21 = .ok (.bipush 6, 2) by decide +kernel) (by decide +kernel)) <|
  ok_c (sn_ic_ge (show decode cX2_joinUp 23 = .ok (.if_icmp .ge 21, 3) by decide +kernel) (by decide)) <|
  ok_c (sn_aload (show decode cX2_joinUp 26 = .ok (.aload 4, 2) by decide +kernel)) <|
  ok_c (sn_iload (show decode cX2_joinUp 28 = .ok (.iload 6, 2) by decide +kernel)) <|
  ok_c (sn_iconst (v := 0) (show decode cX2_joinUp 30 = .ok (.iconst 0, 1) by decide +kernel) (by decide +kernel)) <|
  ok_c (sn_iast (show decode cX2_joinUp 31 = .ok (.iastore, 1) by decide +kernel)) <|
  ok_c (sn_aload (show decode cX2_joinUp 32 = .ok (.aload 5, 2) by decide +kernel)) <|
  ok_c (sn_iload (show decode cX2_joinUp 34 = .ok (.iload 6, 2) by decide +kernel)) <|
  ok_c (sn_iconst (v := 0) (show decode cX2_joinUp 36 = .ok (.iconst 0, 1) by decide +kernel) (by decide +kernel)) <|
  ok_c (sn_iast (show decode cX2_joinUp 37 = .ok (.iastore, 1) by decide +kernel)) <|
  ok_c (sn_iinc (show decode cX2_joinUp 38 = .ok (.iinc 6 1, 3) by decide +kernel) (by decide) (by decide +kernel)) <|
  ok_c (sn_goto (show decode cX2_joinUp 41 = .ok (.goto (-22), 3) by decide +kernel) (by decide)) <|
  ok_c (sn_iconst (v := 0) (show decode cX2_joinUp 44 = .ok (.iconst 0, 1) by decide +kernel) (by decide +kernel)) <|
  ok_c (sn_istore (show decode cX2_joinUp 45 = .ok (.istore 6, 2) by decide +kernel) (by decide)) <|
  ok_c (sn_iload (show decode cX2_joinUp 47 = .ok (.iload 6, 2) by decide +kernel)) <|
  ok_c (sn_aload_n (show decode cX2_joinUp 49 = .ok (.aload_n 0, 1) by decide +kernel) rfl) <|
  ok_c (sn_getI (fun _ _ => rfl) (sn_get ck_2 (by decide) (show decode cX2_joinUp 50 = .ok (.getfield 87, 3) by decide +kernel) wd_2_34)) <|
  ok_c (sn_ic_ge (show decode cX2_joinUp 53 = .ok (.if_icmp .ge 64, 3) by decide +kernel) (by decide)) <|
  ok_c (sn_aload_n (show decode cX2_joinUp 56 = .ok (.aload_n 0, 1) by decide +kernel) rfl) <|
  ok_c (sn_iload (show decode cX2_joinUp 57 = .ok (.iload 6, 2) by decide +kernel)) <|
  ok_c (sn_iload_n (show decode cX2_joinUp 59 = .ok (.iload_n 2, 1) by decide +kernel) rfl) <|
  ok_c (sn_iload_n (show decode cX2_joinUp 60 = .ok (.iload_n 3, 1) by decide +kernel) rfl) <|
  ok_c (sn_if_eq (show decode cX2_joinUp 64 = .ok (.ifCond .eq 47, 3) by decide +kernel) (by decide)) <|
  ok_c (sn_aload (show decode cX2_joinUp 67 = .ok (.aload 4, 2) by decide +kernel)) <|
  ok_c (sn_aload_n (show decode cX2_joinUp 69 = .ok (.aload_n 0, 1) by decide +kernel) rfl) <|
  ok_c (sn_getC (j := 6) (fun _ _ => rfl) (sn_get ck_2 (by decide) (show decode cX2_joinUp 70 = .ok (.getfield 11, 3) by decide +kernel) wd_2_35)) <|
  ok_c (sn_iload (show decode cX2_joinUp 73 = .ok (.iload 6, 2) by decide +kernel)) <|
  ok_c (sn_iald (show decode cX2_joinUp 75 = .ok (.iaload, 1) by decide +kernel)) <|
  ok_c (sn_dup2 (show decode cX2_joinUp 76 = .ok (.dup2, 1) by decide +kernel)) <|
  ok_c (sn_iald (show decode cX2_joinUp 77 = .ok (.iaload, 1) by decide +kernel)) <|
  ok_c (sn_iconst (v := 1) (show decode cX2_joinUp 78 = .ok (.iconst 1, 1) by decide +kernel) (by decide +kernel)) <|
  ok_c (sn_aload_n (show decode cX2_joinUp 79 = .ok (.aload_n 0, 1) by decide +kernel) rfl) <|
  ok_c (sn_getC (j := 7) (fun _ _ => rfl) (sn_get ck_2 (by decide) (show decode cX2_joinUp 80 = .ok (.getfield 15, 3) by decide +kernel) wd_2_36)) <|
  ok_c (sn_iload (show decode cX2_joinUp 83 = .ok (.iload 6, 2) by decide +kernel)) <|
  ok_c (sn_iald (show decode cX2_joinUp 85 = .ok (.iaload, 1) by decide +kernel)) <|
  ok_c (sn_ishl (show decode cX2_joinUp 86 = .ok (.ishl, 1) by decide +kernel)) <|
  ok_c (sn_ior (show decode cX2_joinUp 87 = .ok (.ior, 1) by decide +kernel)) <|
  ok_c (sn_iast (show decode cX2_joinUp 88 = .ok (.iastore, 1) by decide +kernel)) <|
  ok_c (sn_aload (show decode cX2_joinUp 89 = .ok (.aload 4, 2) by decide +kernel)) <|
  ok_c (sn_aload_n (show decode cX2_joinUp 91 = .ok (.aload_n 0, 1) by decide +kernel) rfl) <|
  ok_c (sn_getC (j := 7) (fun _ _ => rfl) (sn_get ck_2 (by decide) (show decode cX2_joinUp 92 = .ok (.getfield 15, 3) by decide +kernel) wd_2_36)) <|
  ok_c (sn_iload (show decode cX2_joinUp 95 = .ok (.iload 6, 2) by decide +kernel)) <|
  ok_c (sn_iald (show decode cX2_joinUp 97 = .ok (.iaload, 1) by decide +kernel)) <|
  ok_c (sn_dup2 (show decode cX2_joinUp 98 = .ok (.dup2, 1) by decide +kernel)) <|
  ok_c (sn_iald (show decode cX2_joinUp 99 = .ok (.iaload, 1) by decide +kernel)) <|
  ok_c (sn_iconst (v := 1) (show decode cX2_joinUp 100 = .ok (.iconst 1, 1) by decide +kernel) (by decide +kernel)) <|
  ok_c (sn_aload_n (show decode cX2_joinUp 101 = .ok (.aload_n 0, 1) by decide +kernel) rfl) <|
  ok_c (sn_getC (j := 6) (fun _ _ => rfl) (sn_get ck_2 (by decide) (show decode cX2_joinUp 102 = .ok (.getfield 11, 3) by decide +kernel) wd_2_35)) <|
  ok_c (sn_iload (show decode cX2_joinUp 105 = .ok (.iload 6, 2) by decide +kernel)) <|
  ok_c (sn_iald (show decode cX2_joinUp 107 = .ok (.iaload, 1) by decide +kernel)) <|
  ok_c (sn_ishl (show decode cX2_joinUp 108 = .ok (.ishl, 1) by decide +kernel)) <|
  ok_c (sn_ior (show decode cX2_joinUp 109 = .ok (.ior, 1) by decide +kernel)) <|
  ok_c (sn_iast (show decode cX2_joinUp 110 = .ok (.iastore, 1) by decide +kernel)) <|
  ok_c (sn_iinc (show decode cX2_joinUp 111 = .ok (.iinc 6 1, 3) by decide +kernel) (by decide) (by decide +kernel)) <|
  ok_c (sn_goto (show decode cX2_joinUp 114 = .ok (.goto (-67), 3) by decide +kernel) (by decide)) <|
  ok_c (sn_iconst (v := 0) (show decode cX2_joinUp 117 = .ok (.iconst 0, 1) by decide +kernel) (by decide +kernel)) <|
  ok_c (sn_istore (show decode cX2_joinUp 118 = .ok (.istore 6, 2) by decide +kernel) (by decide)) <|
  ok_c (sn_iload (show decode cX2_joinUp 120 = .ok (.iload 6, 2) by decide +kernel)) <|
  ok_c (sn_aload_n (show decode cX2_joinUp 122 = .ok (.aload_n 1, 1) by decide +kernel) rfl) <|
  ok_c (sn_getI (fun _ _ => rfl) (sn_get ck_7 (by decide) (show decode cX2_joinUp 123 = .ok (.getfield 131, 3) by decide +kernel) wd_1_107)) <|
  ok_c (sn_ic_ge (show decode cX2_joinUp 126 = .ok (.if_icmp .ge 40, 3) by decide +kernel) (by decide)) <|
  ok_c (sn_iload_n (show decode cX2_joinUp 129 = .ok (.iload_n 3, 1) by decide +kernel) rfl) <|
  ok_c (sn_iload (show decode cX2_joinUp 130 = .ok (.iload 6, 2) by decide +kernel)) <|
  ok_c (sn_if_ne (show decode cX2_joinUp 135 = .ok (.ifCond .ne 25, 3) by decide +kernel) (by decide)) <|
  ok_c (sn_aload (show decode cX2_joinUp 138 = .ok (.aload 5, 2) by decide +kernel)) <|
  ok_c (sn_iload (show decode cX2_joinUp 140 = .ok (.iload 6, 2) by decide +kernel)) <|
  ok_c (sn_iald (show decode cX2_joinUp 142 = .ok (.iaload, 1) by decide +kernel)) <|
  ok_c (sn_if_ne (show decode cX2_joinUp 143 = .ok (.ifCond .ne 17, 3) by decide +kernel) (by decide)) <|
  ok_c (sn_aload (show decode cX2_joinUp 146 = .ok (.aload 5, 2) by decide +kernel)) <|
  ok_c (sn_aload (show decode cX2_joinUp 148 = .ok (.aload 4, 2) by decide +kernel)) <|
  ok_c (sn_iconst (v := 1) (show decode cX2_joinUp 150 = .ok (.iconst 1, 1) by decide +kernel) (by decide +kernel)) <|
  ok_c (sn_iload (show decode cX2_joinUp 151 = .ok (.iload 6, 2) by decide +kernel)) <|
  ok_c (sn_ishl (show decode cX2_joinUp 153 = .ok (.ishl, 1) by decide +kernel)) <|
  ok_c (sn_iinc (show decode cX2_joinUp 160 = .ok (.iinc 6 1, 3) by decide +kernel) (by decide) (by decide +kernel)) <|
  ok_c (sn_goto (show decode cX2_joinUp 163 = .ok (.goto (-43), 3) by decide +kernel) (by decide)) <|
  ok_n
def uX2_joinUp : gCT := [(61, YX2_holdsIn, 4, some 2), (132, YX8_has, 2, none), (154, YX2_reach, 2, none), (157, YX2_giveFirm, 2, none)]
set_option maxRecDepth 100000 in
theorem ocX2_joinUp : gOkC YX2_joinUp uX2_joinUp := oc_c (gEdge_V cal_X2_holdsIn ck_2 rfl (show decode cX2_joinUp 61 = .ok (.invokevirtual 145, 3) by decide +kernel) wd_3_147 wd_3_149 wp_2_4) <|
  oc_c (gEdge_SN cal_X8_has (show decode cX2_joinUp 132 = .ok (.invokestatic 93, 3) by decide +kernel) wd_3_118 wd_3_119) <|
  oc_c (gEdge_S cal_X2_reach (show decode cX2_joinUp 154 = .ok (.invokestatic 149, 3) by decide +kernel) wd_3_151 wd_3_152) <|
  oc_c (gEdge_S cal_X2_giveFirm (show decode cX2_joinUp 157 = .ok (.invokestatic 153, 3) by decide +kernel) wd_3_157 wd_3_158) <|
  oc_n
theorem reX2_joinUp : ∀ pc ∈ [166], decode cX2_joinUp pc = .ok (.return_, 1) := by decide +kernel
def tX2_giveFirm : List (Nat × gStp) := [(0, i_push (.int 0) 1), (1, i_istore 2 2), (2, i_iload 2 3), (3, i_aload 0 4), (4, i_alen 5), (5, i_ic_ge 26 8), (8, i_iload 1 9), (9, i_iload 2 10), (13, i_if_eq 20 16), (16, i_aload 0 17), (17, i_iload 2 18), (18, i_iload 1 19), (19, i_iast 20), (20, i_iinc 2 1 23), (23, i_goto 2)]
set_option maxRecDepth 100000 in
theorem okX2_giveFirm : gOk YX2_giveFirm tX2_giveFirm := ok_c (sn_iconst (v := 0) (show decode cX2_giveFirm 0 = .ok (.iconst 0, 1) by decide +kernel) (by decide +kernel)) <|
  ok_c (sn_istore_n (show decode cX2_giveFirm 1 = .ok (.istore_n 2, 1) by decide +kernel) rfl (by decide)) <|
  ok_c (sn_iload_n (show decode cX2_giveFirm 2 = .ok (.iload_n 2, 1) by decide +kernel) rfl) <|
  ok_c (sn_aload_n (show decode cX2_giveFirm 3 = .ok (.aload_n 0, 1) by decide +kernel) rfl) <|
  ok_c (sn_alen (show decode cX2_giveFirm 4 = .ok (.arraylength, 1) by decide +kernel)) <|
  ok_c (sn_ic_ge (show decode cX2_giveFirm 5 = .ok (.if_icmp .ge 21, 3) by decide +kernel) (by decide)) <|
  ok_c (sn_iload_n (show decode cX2_giveFirm 8 = .ok (.iload_n 1, 1) by decide +kernel) rfl) <|
  ok_c (sn_iload_n (show decode cX2_giveFirm 9 = .ok (.iload_n 2, 1) by decide +kernel) rfl) <|
  ok_c (sn_if_eq (show decode cX2_giveFirm 13 = .ok (.ifCond .eq 7, 3) by decide +kernel) (by decide)) <|
  ok_c (sn_aload_n (show decode cX2_giveFirm 16 = .ok (.aload_n 0, 1) by decide +kernel) rfl) <|
  ok_c (sn_iload_n (show decode cX2_giveFirm 17 = .ok (.iload_n 2, 1) by decide +kernel) rfl) <|
  ok_c (sn_iload_n (show decode cX2_giveFirm 18 = .ok (.iload_n 1, 1) by decide +kernel) rfl) <|
  ok_c (sn_iast (show decode cX2_giveFirm 19 = .ok (.iastore, 1) by decide +kernel)) <|
  ok_c (sn_iinc (show decode cX2_giveFirm 20 = .ok (.iinc 2 1, 3) by decide +kernel) (by decide) (by decide +kernel)) <|
  ok_c (sn_goto (show decode cX2_giveFirm 23 = .ok (.goto (-21), 3) by decide +kernel) (by decide)) <|
  ok_n
def uX2_giveFirm : gCT := [(10, YX8_has, 2, none)]
set_option maxRecDepth 100000 in
theorem ocX2_giveFirm : gOkC YX2_giveFirm uX2_giveFirm := oc_c (gEdge_SN cal_X8_has (show decode cX2_giveFirm 10 = .ok (.invokestatic 93, 3) by decide +kernel) wd_3_118 wd_3_119) <|
  oc_n
theorem reX2_giveFirm : ∀ pc ∈ [26], decode cX2_giveFirm pc = .ok (.return_, 1) := by decide +kernel
def tX2_reach : List (Nat × gStp) := [(0, i_iload 1 1), (1, i_istore 2 2), (2, i_push (.int 0) 3), (3, i_istore 3 4), (4, i_iload 3 5), (5, i_push (.int 6) 7), (7, i_ic_ge 36 10), (10, i_iload 2 11), (11, i_aload 0 12), (12, i_iload 2 13), (16, i_ii (fun x y => x ||| y) 17), (17, i_istore 4 19), (19, i_iload 4 21), (21, i_iload 2 22), (22, i_ic_ne 27 25), (25, i_iload 2 26), (27, i_iload 4 29), (29, i_istore 2 30), (30, i_iinc 3 1 33), (33, i_goto 4), (36, i_iload 2 37)]
set_option maxRecDepth 100000 in
theorem okX2_reach : gOk YX2_reach tX2_reach := ok_c (sn_iload_n (show decode cX2_reach 0 = .ok (.iload_n 1, 1) by decide +kernel) rfl) <|
  ok_c (sn_istore_n (show decode cX2_reach 1 = .ok (.istore_n 2, 1) by decide +kernel) rfl (by decide)) <|
  ok_c (sn_iconst (v := 0) (show decode cX2_reach 2 = .ok (.iconst 0, 1) by decide +kernel) (by decide +kernel)) <|
  ok_c (sn_istore_n (show decode cX2_reach 3 = .ok (.istore_n 3, 1) by decide +kernel) rfl (by decide)) <|
  ok_c (sn_iload_n (show decode cX2_reach 4 = .ok (.iload_n 3, 1) by decide +kernel) rfl) <|
  ok_c (sn_bipush (v := 6) (show decode cX2_reach 5 = .ok (.bipush 6, 2) by decide +kernel) (by decide +kernel)) <|
  ok_c (sn_ic_ge (show decode cX2_reach 7 = .ok (.if_icmp .ge 29, 3) by decide +kernel) (by decide)) <|
  ok_c (sn_iload_n (show decode cX2_reach 10 = .ok (.iload_n 2, 1) by decide +kernel) rfl) <|
  ok_c (sn_aload_n (show decode cX2_reach 11 = .ok (.aload_n 0, 1) by decide +kernel) rfl) <|
  ok_c (sn_iload_n (show decode cX2_reach 12 = .ok (.iload_n 2, 1) by decide +kernel) rfl) <|
  ok_c (sn_ior (show decode cX2_reach 16 = .ok (.ior, 1) by decide +kernel)) <|
  ok_c (sn_istore (show decode cX2_reach 17 = .ok (.istore 4, 2) by decide +kernel) (by decide)) <|
  ok_c (sn_iload (show decode cX2_reach 19 = .ok (.iload 4, 2) by decide +kernel)) <|
  ok_c (sn_iload_n (show decode cX2_reach 21 = .ok (.iload_n 2, 1) by decide +kernel) rfl) <|
  ok_c (sn_ic_ne (show decode cX2_reach 22 = .ok (.if_icmp .ne 5, 3) by decide +kernel) (by decide)) <|
  ok_c (sn_iload_n (show decode cX2_reach 25 = .ok (.iload_n 2, 1) by decide +kernel) rfl) <|
  ok_c (sn_iload (show decode cX2_reach 27 = .ok (.iload 4, 2) by decide +kernel)) <|
  ok_c (sn_istore_n (show decode cX2_reach 29 = .ok (.istore_n 2, 1) by decide +kernel) rfl (by decide)) <|
  ok_c (sn_iinc (show decode cX2_reach 30 = .ok (.iinc 3 1, 3) by decide +kernel) (by decide) (by decide +kernel)) <|
  ok_c (sn_goto (show decode cX2_reach 33 = .ok (.goto (-29), 3) by decide +kernel) (by decide)) <|
  ok_c (sn_iload_n (show decode cX2_reach 36 = .ok (.iload_n 2, 1) by decide +kernel) rfl) <|
  ok_n
def uX2_reach : gCT := [(13, YX2_tiedTo, 2, none)]
set_option maxRecDepth 100000 in
theorem ocX2_reach : gOkC YX2_reach uX2_reach := oc_c (gEdge_S cal_X2_tiedTo (show decode cX2_reach 13 = .ok (.invokestatic 157, 3) by decide +kernel) wd_3_154 wd_3_155) <|
  oc_n
theorem reX2_reach : ∀ pc ∈ [26, 37], decode cX2_reach pc = .ok (.ireturn, 1) := by decide +kernel
def tX2_tiedTo : List (Nat × gStp) := [(0, i_push (.int 0) 1), (1, i_istore 2 2), (2, i_push (.int 0) 3), (3, i_istore 3 4), (4, i_iload 3 5), (5, i_aload 0 6), (6, i_alen 7), (7, i_ic_ge 30 10), (10, i_iload 1 11), (11, i_iload 3 12), (15, i_if_eq 24 18), (18, i_iload 2 19), (19, i_aload 0 20), (20, i_iload 3 21), (21, i_iald 22), (22, i_ii (fun x y => x ||| y) 23), (23, i_istore 2 24), (24, i_iinc 3 1 27), (27, i_goto 4), (30, i_iload 2 31)]
set_option maxRecDepth 100000 in
theorem okX2_tiedTo : gOk YX2_tiedTo tX2_tiedTo := ok_c (sn_iconst (v := 0) (show decode cX2_tiedTo 0 = .ok (.iconst 0, 1) by decide +kernel) (by decide +kernel)) <|
  ok_c (sn_istore_n (show decode cX2_tiedTo 1 = .ok (.istore_n 2, 1) by decide +kernel) rfl (by decide)) <|
  ok_c (sn_iconst (v := 0) (show decode cX2_tiedTo 2 = .ok (.iconst 0, 1) by decide +kernel) (by decide +kernel)) <|
  ok_c (sn_istore_n (show decode cX2_tiedTo 3 = .ok (.istore_n 3, 1) by decide +kernel) rfl (by decide)) <|
  ok_c (sn_iload_n (show decode cX2_tiedTo 4 = .ok (.iload_n 3, 1) by decide +kernel) rfl) <|
  ok_c (sn_aload_n (show decode cX2_tiedTo 5 = .ok (.aload_n 0, 1) by decide +kernel) rfl) <|
  ok_c (sn_alen (show decode cX2_tiedTo 6 = .ok (.arraylength, 1) by decide +kernel)) <|
  ok_c (sn_ic_ge (show decode cX2_tiedTo 7 = .ok (.if_icmp .ge 23, 3) by decide +kernel) (by decide)) <|
  ok_c (sn_iload_n (show decode cX2_tiedTo 10 = .ok (.iload_n 1, 1) by decide +kernel) rfl) <|
  ok_c (sn_iload_n (show decode cX2_tiedTo 11 = .ok (.iload_n 3, 1) by decide +kernel) rfl) <|
  ok_c (sn_if_eq (show decode cX2_tiedTo 15 = .ok (.ifCond .eq 9, 3) by decide +kernel) (by decide)) <|
  ok_c (sn_iload_n (show decode cX2_tiedTo 18 = .ok (.iload_n 2, 1) by decide +kernel) rfl) <|
  ok_c (sn_aload_n (show decode cX2_tiedTo 19 = .ok (.aload_n 0, 1) by decide +kernel) rfl) <|
  ok_c (sn_iload_n (show decode cX2_tiedTo 20 = .ok (.iload_n 3, 1) by decide +kernel) rfl) <|
  ok_c (sn_iald (show decode cX2_tiedTo 21 = .ok (.iaload, 1) by decide +kernel)) <|
  ok_c (sn_ior (show decode cX2_tiedTo 22 = .ok (.ior, 1) by decide +kernel)) <|
  ok_c (sn_istore_n (show decode cX2_tiedTo 23 = .ok (.istore_n 2, 1) by decide +kernel) rfl (by decide)) <|
  ok_c (sn_iinc (show decode cX2_tiedTo 24 = .ok (.iinc 3 1, 3) by decide +kernel) (by decide) (by decide +kernel)) <|
  ok_c (sn_goto (show decode cX2_tiedTo 27 = .ok (.goto (-23), 3) by decide +kernel) (by decide)) <|
  ok_c (sn_iload_n (show decode cX2_tiedTo 30 = .ok (.iload_n 2, 1) by decide +kernel) rfl) <|
  ok_n
def uX2_tiedTo : gCT := [(12, YX8_has, 2, none)]
set_option maxRecDepth 100000 in
theorem ocX2_tiedTo : gOkC YX2_tiedTo uX2_tiedTo := oc_c (gEdge_SN cal_X8_has (show decode cX2_tiedTo 12 = .ok (.invokestatic 93, 3) by decide +kernel) wd_3_118 wd_3_119) <|
  oc_n
theorem reX2_tiedTo : ∀ pc ∈ [31], decode cX2_tiedTo pc = .ok (.ireturn, 1) := by decide +kernel
def tX2_failingIn : List (Nat × gStp) := [(0, i_push (.int 0) 1), (1, i_istore 3 2), (2, i_push (.int 0) 3), (3, i_istore 4 5), (5, i_iload 4 7), (7, i_aload 1 8), (8, i_getI 7 5 11), (11, i_ic_ge 56 14), (14, i_aload 0 15), (15, i_getC 2 48 18), (18, i_iload 2 19), (19, i_aald7 20), (20, i_iload 4 22), (22, i_iald 23), (23, i_istore 5 25), (25, i_aload 0 26), (26, i_iload 4 28), (28, i_iload 2 29), (32, i_if_eq 50 35), (35, i_aload 0 36), (36, i_iload 5 38), (38, i_iload 2 39), (42, i_if_ge 50 45), (45, i_iload 3 46), (46, i_iload 5 48), (48, i_ii (fun x y => x ||| y) 49), (49, i_istore 3 50), (50, i_iinc 4 1 53), (53, i_goto 5), (56, i_iload 3 57)]
set_option maxRecDepth 100000 in
theorem okX2_failingIn : gOk YX2_failingIn tX2_failingIn := ok_c (sn_iconst (v := 0) (show decode cX2_failingIn 0 = .ok (.iconst 0, 1) by decide +kernel) (by decide +kernel)) <|
  ok_c (sn_istore_n (show decode cX2_failingIn 1 = .ok (.istore_n 3, 1) by decide +kernel) rfl (by decide)) <|
  ok_c (sn_iconst (v := 0) (show decode cX2_failingIn 2 = .ok (.iconst 0, 1) by decide +kernel) (by decide +kernel)) <|
  ok_c (sn_istore (show decode cX2_failingIn 3 = .ok (.istore 4, 2) by decide +kernel) (by decide)) <|
  ok_c (sn_iload (show decode cX2_failingIn 5 = .ok (.iload 4, 2) by decide +kernel)) <|
  ok_c (sn_aload_n (show decode cX2_failingIn 7 = .ok (.aload_n 1, 1) by decide +kernel) rfl) <|
  ok_c (sn_getI (fun _ _ => rfl) (sn_get ck_7 (by decide) (show decode cX2_failingIn 8 = .ok (.getfield 131, 3) by decide +kernel) wd_1_107)) <|
  ok_c (sn_ic_ge (show decode cX2_failingIn 11 = .ok (.if_icmp .ge 45, 3) by decide +kernel) (by decide)) <|
  ok_c (sn_aload_n (show decode cX2_failingIn 14 = .ok (.aload_n 0, 1) by decide +kernel) rfl) <|
  ok_c (sn_getC (j := 15) (fun _ _ => rfl) (sn_get ck_2 (by decide) (show decode cX2_failingIn 15 = .ok (.getfield 41, 3) by decide +kernel) wd_2_48)) <|
  ok_c (sn_iload_n (show decode cX2_failingIn 18 = .ok (.iload_n 2, 1) by decide +kernel) rfl) <|
  ok_c (sn_aald7 (show decode cX2_failingIn 19 = .ok (.aaload, 1) by decide +kernel)) <|
  ok_c (sn_iload (show decode cX2_failingIn 20 = .ok (.iload 4, 2) by decide +kernel)) <|
  ok_c (sn_iald (show decode cX2_failingIn 22 = .ok (.iaload, 1) by decide +kernel)) <|
  ok_c (sn_istore (show decode cX2_failingIn 23 = .ok (.istore 5, 2) by decide +kernel) (by decide)) <|
  ok_c (sn_aload_n (show decode cX2_failingIn 25 = .ok (.aload_n 0, 1) by decide +kernel) rfl) <|
  ok_c (sn_iload (show decode cX2_failingIn 26 = .ok (.iload 4, 2) by decide +kernel)) <|
  ok_c (sn_iload_n (show decode cX2_failingIn 28 = .ok (.iload_n 2, 1) by decide +kernel) rfl) <|
  ok_c (sn_if_eq (show decode cX2_failingIn 32 = .ok (.ifCond .eq 18, 3) by decide +kernel) (by decide)) <|
  ok_c (sn_aload_n (show decode cX2_failingIn 35 = .ok (.aload_n 0, 1) by decide +kernel) rfl) <|
  ok_c (sn_iload (show decode cX2_failingIn 36 = .ok (.iload 5, 2) by decide +kernel)) <|
  ok_c (sn_iload_n (show decode cX2_failingIn 38 = .ok (.iload_n 2, 1) by decide +kernel) rfl) <|
  ok_c (sn_if_ge (show decode cX2_failingIn 42 = .ok (.ifCond .ge 8, 3) by decide +kernel) (by decide)) <|
  ok_c (sn_iload_n (show decode cX2_failingIn 45 = .ok (.iload_n 3, 1) by decide +kernel) rfl) <|
  ok_c (sn_iload (show decode cX2_failingIn 46 = .ok (.iload 5, 2) by decide +kernel)) <|
  ok_c (sn_ior (show decode cX2_failingIn 48 = .ok (.ior, 1) by decide +kernel)) <|
  ok_c (sn_istore_n (show decode cX2_failingIn 49 = .ok (.istore_n 3, 1) by decide +kernel) rfl (by decide)) <|
  ok_c (sn_iinc (show decode cX2_failingIn 50 = .ok (.iinc 4 1, 3) by decide +kernel) (by decide) (by decide +kernel)) <|
  ok_c (sn_goto (show decode cX2_failingIn 53 = .ok (.goto (-48), 3) by decide +kernel) (by decide)) <|
  ok_c (sn_iload_n (show decode cX2_failingIn 56 = .ok (.iload_n 3, 1) by decide +kernel) rfl) <|
  ok_n
def uX2_failingIn : gCT := [(29, YX2_isFirstOfFirm, 3, some 2), (39, YX2_worthOf, 3, some 2)]
set_option maxRecDepth 100000 in
theorem ocX2_failingIn : gOkC YX2_failingIn uX2_failingIn := oc_c (gEdge_V cal_X2_isFirstOfFirm ck_2 rfl (show decode cX2_failingIn 29 = .ok (.invokevirtual 160, 3) by decide +kernel) wd_3_164 wd_3_165 wd_3_166) <|
  oc_c (gEdge_V cal_X2_worthOf ck_2 rfl (show decode cX2_failingIn 39 = .ok (.invokevirtual 163, 3) by decide +kernel) wd_3_171 wd_3_172 wd_3_173) <|
  oc_n
theorem reX2_failingIn : ∀ pc ∈ [57], decode cX2_failingIn pc = .ok (.ireturn, 1) := by decide +kernel
def tX2_toldHeld : List (Nat × gStp) := [(0, i_push (.int 0) 1), (1, i_istore 4 3), (3, i_push (.int 0) 4), (4, i_istore 5 6), (6, i_iload 5 8), (8, i_aload 1 9), (9, i_getI 7 6 12), (12, i_ic_ge 41 15), (15, i_aload 0 16), (16, i_iload 5 18), (18, i_iload 2 19), (19, i_iload 3 20), (23, i_if_eq 35 26), (26, i_iload 4 28), (28, i_push (.int 1) 29), (29, i_iload 5 31), (31, i_ii (fun x y => x <<< (y &&& 31)) 32), (32, i_ii (fun x y => x ||| y) 33), (33, i_istore 4 35), (35, i_iinc 5 1 38), (38, i_goto 6), (41, i_iload 4 43)]
set_option maxRecDepth 100000 in
theorem okX2_toldHeld : gOk YX2_toldHeld tX2_toldHeld := ok_c (sn_iconst (v := 0) (show decode cX2_toldHeld 0 = .ok (.iconst 0, 1) by decide +kernel) (by decide +kernel)) <|
  ok_c (sn_istore (show decode cX2_toldHeld 1 = .ok (.istore 4, 2) by decide +kernel) (by decide)) <|
  ok_c (sn_iconst (v := 0) (show decode cX2_toldHeld 3 = .ok (.iconst 0, 1) by decide +kernel) (by decide +kernel)) <|
  ok_c (sn_istore (show decode cX2_toldHeld 4 = .ok (.istore 5, 2) by decide +kernel) (by decide)) <|
  ok_c (sn_iload (show decode cX2_toldHeld 6 = .ok (.iload 5, 2) by decide +kernel)) <|
  ok_c (sn_aload_n (show decode cX2_toldHeld 8 = .ok (.aload_n 1, 1) by decide +kernel) rfl) <|
  ok_c (sn_getI (fun _ _ => rfl) (sn_get ck_7 (by decide) (show decode cX2_toldHeld 9 = .ok (.getfield 90, 3) by decide +kernel) wd_1_110)) <|
  ok_c (sn_ic_ge (show decode cX2_toldHeld 12 = .ok (.if_icmp .ge 29, 3) by decide +kernel) (by decide)) <|
  ok_c (sn_aload_n (show decode cX2_toldHeld 15 = .ok (.aload_n 0, 1) by decide +kernel) rfl) <|
  ok_c (sn_iload (show decode cX2_toldHeld 16 = .ok (.iload 5, 2) by decide +kernel)) <|
  ok_c (sn_iload_n (show decode cX2_toldHeld 18 = .ok (.iload_n 2, 1) by decide +kernel) rfl) <|
  ok_c (sn_iload_n (show decode cX2_toldHeld 19 = .ok (.iload_n 3, 1) by decide +kernel) rfl) <|
  ok_c (sn_if_eq (show decode cX2_toldHeld 23 = .ok (.ifCond .eq 12, 3) by decide +kernel) (by decide)) <|
  ok_c (sn_iload (show decode cX2_toldHeld 26 = .ok (.iload 4, 2) by decide +kernel)) <|
  ok_c (sn_iconst (v := 1) (show decode cX2_toldHeld 28 = .ok (.iconst 1, 1) by decide +kernel) (by decide +kernel)) <|
  ok_c (sn_iload (show decode cX2_toldHeld 29 = .ok (.iload 5, 2) by decide +kernel)) <|
  ok_c (sn_ishl (show decode cX2_toldHeld 31 = .ok (.ishl, 1) by decide +kernel)) <|
  ok_c (sn_ior (show decode cX2_toldHeld 32 = .ok (.ior, 1) by decide +kernel)) <|
  ok_c (sn_istore (show decode cX2_toldHeld 33 = .ok (.istore 4, 2) by decide +kernel) (by decide)) <|
  ok_c (sn_iinc (show decode cX2_toldHeld 35 = .ok (.iinc 5 1, 3) by decide +kernel) (by decide) (by decide +kernel)) <|
  ok_c (sn_goto (show decode cX2_toldHeld 38 = .ok (.goto (-32), 3) by decide +kernel) (by decide)) <|
  ok_c (sn_iload (show decode cX2_toldHeld 41 = .ok (.iload 4, 2) by decide +kernel)) <|
  ok_n
def uX2_toldHeld : gCT := [(20, YX2_holdsIn, 4, some 2)]
set_option maxRecDepth 100000 in
theorem ocX2_toldHeld : gOkC YX2_toldHeld uX2_toldHeld := oc_c (gEdge_V cal_X2_holdsIn ck_2 rfl (show decode cX2_toldHeld 20 = .ok (.invokevirtual 145, 3) by decide +kernel) wd_3_147 wd_3_149 wp_2_4) <|
  oc_n
theorem reX2_toldHeld : ∀ pc ∈ [43], decode cX2_toldHeld pc = .ok (.ireturn, 1) := by decide +kernel
def tX2_catching : List (Nat × gStp) := [(0, i_iload 2 1), (1, i_if_ne 11 4), (4, i_aload 0 5), (5, i_getI 2 3 8), (8, i_goto 30), (11, i_aload 0 12), (12, i_getC 2 35 15), (15, i_iload 2 16), (16, i_push (.int 1) 17), (17, i_ii (fun x y => x - y) 18), (18, i_aald7 19), (19, i_aload 0 20), (20, i_getC 2 21 23), (23, i_iload 2 24), (24, i_push (.int 1) 25), (25, i_ii (fun x y => x - y) 26), (26, i_iald 27), (30, i_istore 3 31), (31, i_push (.int 0) 32), (32, i_istore 4 34), (34, i_iload 4 36), (36, i_aload 1 37), (37, i_getI 7 8 40), (40, i_ic_ge 72 43), (43, i_aload 1 44), (44, i_getO 7 9 47), (47, i_iload 4 49), (49, i_iald 50), (50, i_iload 2 51), (51, i_ic_ne 66 54), (54, i_iload 3 55), (55, i_push (.int 1) 56), (56, i_aload 1 57), (57, i_getO 7 8 60), (60, i_iload 4 62), (62, i_iald 63), (63, i_ii (fun x y => x <<< (y &&& 31)) 64), (64, i_ii (fun x y => x ||| y) 65), (65, i_istore 3 66), (66, i_iinc 4 1 69), (69, i_goto 34), (72, i_iload 3 73)]
set_option maxRecDepth 100000 in
theorem okX2_catching : gOk YX2_catching tX2_catching := ok_c (sn_iload_n (show decode cX2_catching 0 = .ok (.iload_n 2, 1) by decide +kernel) rfl) <|
  ok_c (sn_if_ne (show decode cX2_catching 1 = .ok (.ifCond .ne 10, 3) by decide +kernel) (by decide)) <|
  ok_c (sn_aload_n (show decode cX2_catching 4 = .ok (.aload_n 0, 1) by decide +kernel) rfl) <|
  ok_c (sn_getI (fun _ _ => rfl) (sn_get ck_2 (by decide) (show decode cX2_catching 5 = .ok (.getfield 55, 3) by decide +kernel) wd_2_30)) <|
  ok_c (sn_goto (show decode cX2_catching 8 = .ok (.goto 22, 3) by decide +kernel) (by decide)) <|
  ok_c (sn_aload_n (show decode cX2_catching 11 = .ok (.aload_n 0, 1) by decide +kernel) rfl) <|
  ok_c (sn_getC (j := 14) (fun _ _ => rfl) (sn_get ck_2 (by decide) (show decode cX2_catching 12 = .ok (.getfield 38, 3) by decide +kernel) wd_2_47)) <|
  ok_c (sn_iload_n (show decode cX2_catching 15 = .ok (.iload_n 2, 1) by decide +kernel) rfl) <|
  ok_c (sn_iconst (v := 1) (show decode cX2_catching 16 = .ok (.iconst 1, 1) by decide +kernel) (by decide +kernel)) <|
  ok_c (sn_isub (show decode cX2_catching 17 = .ok (.isub, 1) by decide +kernel)) <|
  ok_c (sn_aald7 (show decode cX2_catching 18 = .ok (.aaload, 1) by decide +kernel)) <|
  ok_c (sn_aload_n (show decode cX2_catching 19 = .ok (.aload_n 0, 1) by decide +kernel) rfl) <|
  ok_c (sn_getC (j := 12) (fun _ _ => rfl) (sn_get ck_2 (by decide) (show decode cX2_catching 20 = .ok (.getfield 30, 3) by decide +kernel) wd_2_43)) <|
  ok_c (sn_iload_n (show decode cX2_catching 23 = .ok (.iload_n 2, 1) by decide +kernel) rfl) <|
  ok_c (sn_iconst (v := 1) (show decode cX2_catching 24 = .ok (.iconst 1, 1) by decide +kernel) (by decide +kernel)) <|
  ok_c (sn_isub (show decode cX2_catching 25 = .ok (.isub, 1) by decide +kernel)) <|
  ok_c (sn_iald (show decode cX2_catching 26 = .ok (.iaload, 1) by decide +kernel)) <|
  ok_c (sn_istore_n (show decode cX2_catching 30 = .ok (.istore_n 3, 1) by decide +kernel) rfl (by decide)) <|
  ok_c (sn_iconst (v := 0) (show decode cX2_catching 31 = .ok (.iconst 0, 1) by decide +kernel) (by decide +kernel)) <|
  ok_c (sn_istore (show decode cX2_catching 32 = .ok (.istore 4, 2) by decide +kernel) (by decide)) <|
  ok_c (sn_iload (show decode cX2_catching 34 = .ok (.iload 4, 2) by decide +kernel)) <|
  ok_c (sn_aload_n (show decode cX2_catching 36 = .ok (.aload_n 1, 1) by decide +kernel) rfl) <|
  ok_c (sn_getI (fun _ _ => rfl) (sn_get ck_7 (by decide) (show decode cX2_catching 37 = .ok (.getfield 166, 3) by decide +kernel) wd_1_121)) <|
  ok_c (sn_ic_ge (show decode cX2_catching 40 = .ok (.if_icmp .ge 32, 3) by decide +kernel) (by decide)) <|
  ok_c (sn_aload_n (show decode cX2_catching 43 = .ok (.aload_n 1, 1) by decide +kernel) rfl) <|
  ok_c (sn_getO (j := 17) (fun _ _ => rfl) (sn_get ck_7 (by decide) (show decode cX2_catching 44 = .ok (.getfield 169, 3) by decide +kernel) wd_1_156)) <|
  ok_c (sn_iload (show decode cX2_catching 47 = .ok (.iload 4, 2) by decide +kernel)) <|
  ok_c (sn_iald (show decode cX2_catching 49 = .ok (.iaload, 1) by decide +kernel)) <|
  ok_c (sn_iload_n (show decode cX2_catching 50 = .ok (.iload_n 2, 1) by decide +kernel) rfl) <|
  ok_c (sn_ic_ne (show decode cX2_catching 51 = .ok (.if_icmp .ne 15, 3) by decide +kernel) (by decide)) <|
  ok_c (sn_iload_n (show decode cX2_catching 54 = .ok (.iload_n 3, 1) by decide +kernel) rfl) <|
  ok_c (sn_iconst (v := 1) (show decode cX2_catching 55 = .ok (.iconst 1, 1) by decide +kernel) (by decide +kernel)) <|
  ok_c (sn_aload_n (show decode cX2_catching 56 = .ok (.aload_n 1, 1) by decide +kernel) rfl) <|
  ok_c (sn_getO (j := 16) (fun _ _ => rfl) (sn_get ck_7 (by decide) (show decode cX2_catching 57 = .ok (.getfield 172, 3) by decide +kernel) wd_1_153)) <|
  ok_c (sn_iload (show decode cX2_catching 60 = .ok (.iload 4, 2) by decide +kernel)) <|
  ok_c (sn_iald (show decode cX2_catching 62 = .ok (.iaload, 1) by decide +kernel)) <|
  ok_c (sn_ishl (show decode cX2_catching 63 = .ok (.ishl, 1) by decide +kernel)) <|
  ok_c (sn_ior (show decode cX2_catching 64 = .ok (.ior, 1) by decide +kernel)) <|
  ok_c (sn_istore_n (show decode cX2_catching 65 = .ok (.istore_n 3, 1) by decide +kernel) rfl (by decide)) <|
  ok_c (sn_iinc (show decode cX2_catching 66 = .ok (.iinc 4 1, 3) by decide +kernel) (by decide) (by decide +kernel)) <|
  ok_c (sn_goto (show decode cX2_catching 69 = .ok (.goto (-35), 3) by decide +kernel) (by decide)) <|
  ok_c (sn_iload_n (show decode cX2_catching 72 = .ok (.iload_n 3, 1) by decide +kernel) rfl) <|
  ok_n
def uX2_catching : gCT := [(27, YX2_tiedTo, 2, none)]
set_option maxRecDepth 100000 in
theorem ocX2_catching : gOkC YX2_catching uX2_catching := oc_c (gEdge_S cal_X2_tiedTo (show decode cX2_catching 27 = .ok (.invokestatic 157, 3) by decide +kernel) wd_3_154 wd_3_155) <|
  oc_n
theorem reX2_catching : ∀ pc ∈ [73], decode cX2_catching pc = .ok (.ireturn, 1) := by decide +kernel
def tX2_worthOf : List (Nat × gStp) := [(0, i_push (.int 0) 1), (1, i_istore 3 2), (2, i_push (.int 0) 3), (3, i_istore 4 5), (5, i_iload 4 7), (7, i_push (.int 6) 9), (9, i_ic_ge 39 12), (12, i_iload 1 13), (13, i_iload 4 15), (18, i_if_eq 33 21), (21, i_iload 3 22), (22, i_aload 0 23), (23, i_getC 2 22 26), (26, i_iload 2 27), (27, i_aald7 28), (28, i_iload 4 30), (30, i_iald 31), (31, i_ii (fun x y => x + y) 32), (32, i_istore 3 33), (33, i_iinc 4 1 36), (36, i_goto 5), (39, i_iload 3 40)]
set_option maxRecDepth 100000 in
theorem okX2_worthOf : gOk YX2_worthOf tX2_worthOf := ok_c (sn_iconst (v := 0) (show decode cX2_worthOf 0 = .ok (.iconst 0, 1) by decide +kernel) (by decide +kernel)) <|
  ok_c (sn_istore_n (show decode cX2_worthOf 1 = .ok (.istore_n 3, 1) by decide +kernel) rfl (by decide)) <|
  ok_c (sn_iconst (v := 0) (show decode cX2_worthOf 2 = .ok (.iconst 0, 1) by decide +kernel) (by decide +kernel)) <|
  ok_c (sn_istore (show decode cX2_worthOf 3 = .ok (.istore 4, 2) by decide +kernel) (by decide)) <|
  ok_c (sn_iload (show decode cX2_worthOf 5 = .ok (.iload 4, 2) by decide +kernel)) <|
  ok_c (sn_bipush (v := 6) (show decode cX2_worthOf 7 = .ok (.bipush 6, 2) by decide +kernel) (by decide +kernel)) <|
  ok_c (sn_ic_ge (show decode cX2_worthOf 9 = .ok (.if_icmp .ge 30, 3) by decide +kernel) (by decide)) <|
  ok_c (sn_iload_n (show decode cX2_worthOf 12 = .ok (.iload_n 1, 1) by decide +kernel) rfl) <|
  ok_c (sn_iload (show decode cX2_worthOf 13 = .ok (.iload 4, 2) by decide +kernel)) <|
  ok_c (sn_if_eq (show decode cX2_worthOf 18 = .ok (.ifCond .eq 15, 3) by decide +kernel) (by decide)) <|
  ok_c (sn_iload_n (show decode cX2_worthOf 21 = .ok (.iload_n 3, 1) by decide +kernel) rfl) <|
  ok_c (sn_aload_n (show decode cX2_worthOf 22 = .ok (.aload_n 0, 1) by decide +kernel) rfl) <|
  ok_c (sn_getC (j := 13) (fun _ _ => rfl) (sn_get ck_2 (by decide) (show decode cX2_worthOf 23 = .ok (.getfield 35, 3) by decide +kernel) wd_2_45)) <|
  ok_c (sn_iload_n (show decode cX2_worthOf 26 = .ok (.iload_n 2, 1) by decide +kernel) rfl) <|
  ok_c (sn_aald7 (show decode cX2_worthOf 27 = .ok (.aaload, 1) by decide +kernel)) <|
  ok_c (sn_iload (show decode cX2_worthOf 28 = .ok (.iload 4, 2) by decide +kernel)) <|
  ok_c (sn_iald (show decode cX2_worthOf 30 = .ok (.iaload, 1) by decide +kernel)) <|
  ok_c (sn_iadd (show decode cX2_worthOf 31 = .ok (.iadd, 1) by decide +kernel)) <|
  ok_c (sn_istore_n (show decode cX2_worthOf 32 = .ok (.istore_n 3, 1) by decide +kernel) rfl (by decide)) <|
  ok_c (sn_iinc (show decode cX2_worthOf 33 = .ok (.iinc 4 1, 3) by decide +kernel) (by decide) (by decide +kernel)) <|
  ok_c (sn_goto (show decode cX2_worthOf 36 = .ok (.goto (-31), 3) by decide +kernel) (by decide)) <|
  ok_c (sn_iload_n (show decode cX2_worthOf 39 = .ok (.iload_n 3, 1) by decide +kernel) rfl) <|
  ok_n
def uX2_worthOf : gCT := [(15, YX8_has, 2, none)]
set_option maxRecDepth 100000 in
theorem ocX2_worthOf : gOkC YX2_worthOf uX2_worthOf := oc_c (gEdge_SN cal_X8_has (show decode cX2_worthOf 15 = .ok (.invokestatic 93, 3) by decide +kernel) wd_3_118 wd_3_119) <|
  oc_n
theorem reX2_worthOf : ∀ pc ∈ [40], decode cX2_worthOf pc = .ok (.ireturn, 1) := by decide +kernel
def tX2_areTied : List (Nat × gStp) := [(0, i_aload 0 1), (1, i_getC 2 35 4), (4, i_iload 3 5), (5, i_aald7 6), (6, i_iload 1 7), (7, i_iald 8), (8, i_iload 2 9)]
set_option maxRecDepth 100000 in
theorem okX2_areTied : gOk YX2_areTied tX2_areTied := ok_c (sn_aload_n (show decode cX2_areTied 0 = .ok (.aload_n 0, 1) by decide +kernel) rfl) <|
  ok_c (sn_getC (j := 14) (fun _ _ => rfl) (sn_get ck_2 (by decide) (show decode cX2_areTied 1 = .ok (.getfield 38, 3) by decide +kernel) wd_2_47)) <|
  ok_c (sn_iload_n (show decode cX2_areTied 4 = .ok (.iload_n 3, 1) by decide +kernel) rfl) <|
  ok_c (sn_aald7 (show decode cX2_areTied 5 = .ok (.aaload, 1) by decide +kernel)) <|
  ok_c (sn_iload_n (show decode cX2_areTied 6 = .ok (.iload_n 1, 1) by decide +kernel) rfl) <|
  ok_c (sn_iald (show decode cX2_areTied 7 = .ok (.iaload, 1) by decide +kernel)) <|
  ok_c (sn_iload_n (show decode cX2_areTied 8 = .ok (.iload_n 2, 1) by decide +kernel) rfl) <|
  ok_n
def uX2_areTied : gCT := [(9, YX8_has, 2, none)]
set_option maxRecDepth 100000 in
theorem ocX2_areTied : gOkC YX2_areTied uX2_areTied := oc_c (gEdge_SN cal_X8_has (show decode cX2_areTied 9 = .ok (.invokestatic 93, 3) by decide +kernel) wd_3_118 wd_3_119) <|
  oc_n
theorem reX2_areTied : ∀ pc ∈ [12], decode cX2_areTied pc = .ok (.ireturn, 1) := by decide +kernel
def tX2_isFirstOfFirm : List (Nat × gStp) := [(0, i_aload 0 1), (1, i_getC 2 48 4), (4, i_iload 2 5), (5, i_aald7 6), (6, i_iload 1 7), (7, i_iald 8), (8, i_istore 3 9), (9, i_iload 3 10), (10, i_if_eq 26 13), (13, i_iload 3 14), (14, i_iload 1 15), (18, i_ii (fun x y => x &&& y) 19), (19, i_if_ne 26 22), (22, i_push (.int 1) 23), (23, i_goto 27), (26, i_push (.int 0) 27)]
set_option maxRecDepth 100000 in
theorem okX2_isFirstOfFirm : gOk YX2_isFirstOfFirm tX2_isFirstOfFirm := ok_c (sn_aload_n (show decode cX2_isFirstOfFirm 0 = .ok (.aload_n 0, 1) by decide +kernel) rfl) <|
  ok_c (sn_getC (j := 15) (fun _ _ => rfl) (sn_get ck_2 (by decide) (show decode cX2_isFirstOfFirm 1 = .ok (.getfield 41, 3) by decide +kernel) wd_2_48)) <|
  ok_c (sn_iload_n (show decode cX2_isFirstOfFirm 4 = .ok (.iload_n 2, 1) by decide +kernel) rfl) <|
  ok_c (sn_aald7 (show decode cX2_isFirstOfFirm 5 = .ok (.aaload, 1) by decide +kernel)) <|
  ok_c (sn_iload_n (show decode cX2_isFirstOfFirm 6 = .ok (.iload_n 1, 1) by decide +kernel) rfl) <|
  ok_c (sn_iald (show decode cX2_isFirstOfFirm 7 = .ok (.iaload, 1) by decide +kernel)) <|
  ok_c (sn_istore_n (show decode cX2_isFirstOfFirm 8 = .ok (.istore_n 3, 1) by decide +kernel) rfl (by decide)) <|
  ok_c (sn_iload_n (show decode cX2_isFirstOfFirm 9 = .ok (.iload_n 3, 1) by decide +kernel) rfl) <|
  ok_c (sn_if_eq (show decode cX2_isFirstOfFirm 10 = .ok (.ifCond .eq 16, 3) by decide +kernel) (by decide)) <|
  ok_c (sn_iload_n (show decode cX2_isFirstOfFirm 13 = .ok (.iload_n 3, 1) by decide +kernel) rfl) <|
  ok_c (sn_iload_n (show decode cX2_isFirstOfFirm 14 = .ok (.iload_n 1, 1) by decide +kernel) rfl) <|
  ok_c (sn_iand (show decode cX2_isFirstOfFirm 18 = .ok (.iand, 1) by decide +kernel)) <|
  ok_c (sn_if_ne (show decode cX2_isFirstOfFirm 19 = .ok (.ifCond .ne 7, 3) by decide +kernel) (by decide)) <|
  ok_c (sn_iconst (v := 1) (show decode cX2_isFirstOfFirm 22 = .ok (.iconst 1, 1) by decide +kernel) (by decide +kernel)) <|
  ok_c (sn_goto (show decode cX2_isFirstOfFirm 23 = .ok (.goto 4, 3) by decide +kernel) (by decide)) <|
  ok_c (sn_iconst (v := 0) (show decode cX2_isFirstOfFirm 26 = .ok (.iconst 0, 1) by decide +kernel) (by decide +kernel)) <|
  ok_n
def uX2_isFirstOfFirm : gCT := [(15, YX8_allOf, 1, none)]
set_option maxRecDepth 100000 in
theorem ocX2_isFirstOfFirm : gOkC YX2_isFirstOfFirm uX2_isFirstOfFirm := oc_c (gEdge_SN cal_X8_allOf (show decode cX2_isFirstOfFirm 15 = .ok (.invokestatic 175, 3) by decide +kernel) wd_3_168 wd_3_169) <|
  oc_n
theorem reX2_isFirstOfFirm : ∀ pc ∈ [27], decode cX2_isFirstOfFirm pc = .ok (.ireturn, 1) := by decide +kernel
def tX2_firmCount : List (Nat × gStp) := [(0, i_push (.int 0) 1), (1, i_istore 3 2), (2, i_push (.int 0) 3), (3, i_istore 4 5), (5, i_iload 4 7), (7, i_aload 1 8), (8, i_getI 7 5 11), (11, i_ic_ge 33 14), (14, i_aload 0 15), (15, i_iload 4 17), (17, i_iload 2 18), (21, i_if_eq 27 24), (24, i_iinc 3 1 27), (27, i_iinc 4 1 30), (30, i_goto 5), (33, i_iload 3 34)]
set_option maxRecDepth 100000 in
theorem okX2_firmCount : gOk YX2_firmCount tX2_firmCount := ok_c (sn_iconst (v := 0) (show decode cX2_firmCount 0 = .ok (.iconst 0, 1) by decide +kernel) (by decide +kernel)) <|
  ok_c (sn_istore_n (show decode cX2_firmCount 1 = .ok (.istore_n 3, 1) by decide +kernel) rfl (by decide)) <|
  ok_c (sn_iconst (v := 0) (show decode cX2_firmCount 2 = .ok (.iconst 0, 1) by decide +kernel) (by decide +kernel)) <|
  ok_c (sn_istore (show decode cX2_firmCount 3 = .ok (.istore 4, 2) by decide +kernel) (by decide)) <|
  ok_c (sn_iload (show decode cX2_firmCount 5 = .ok (.iload 4, 2) by decide +kernel)) <|
  ok_c (sn_aload_n (show decode cX2_firmCount 7 = .ok (.aload_n 1, 1) by decide +kernel) rfl) <|
  ok_c (sn_getI (fun _ _ => rfl) (sn_get ck_7 (by decide) (show decode cX2_firmCount 8 = .ok (.getfield 131, 3) by decide +kernel) wd_1_107)) <|
  ok_c (sn_ic_ge (show decode cX2_firmCount 11 = .ok (.if_icmp .ge 22, 3) by decide +kernel) (by decide)) <|
  ok_c (sn_aload_n (show decode cX2_firmCount 14 = .ok (.aload_n 0, 1) by decide +kernel) rfl) <|
  ok_c (sn_iload (show decode cX2_firmCount 15 = .ok (.iload 4, 2) by decide +kernel)) <|
  ok_c (sn_iload_n (show decode cX2_firmCount 17 = .ok (.iload_n 2, 1) by decide +kernel) rfl) <|
  ok_c (sn_if_eq (show decode cX2_firmCount 21 = .ok (.ifCond .eq 6, 3) by decide +kernel) (by decide)) <|
  ok_c (sn_iinc (show decode cX2_firmCount 24 = .ok (.iinc 3 1, 3) by decide +kernel) (by decide) (by decide +kernel)) <|
  ok_c (sn_iinc (show decode cX2_firmCount 27 = .ok (.iinc 4 1, 3) by decide +kernel) (by decide) (by decide +kernel)) <|
  ok_c (sn_goto (show decode cX2_firmCount 30 = .ok (.goto (-25), 3) by decide +kernel) (by decide)) <|
  ok_c (sn_iload_n (show decode cX2_firmCount 33 = .ok (.iload_n 3, 1) by decide +kernel) rfl) <|
  ok_n
def uX2_firmCount : gCT := [(18, YX2_isFirstOfFirm, 3, some 2)]
set_option maxRecDepth 100000 in
theorem ocX2_firmCount : gOkC YX2_firmCount uX2_firmCount := oc_c (gEdge_V cal_X2_isFirstOfFirm ck_2 rfl (show decode cX2_firmCount 18 = .ok (.invokevirtual 160, 3) by decide +kernel) wd_3_164 wd_3_165 wd_3_166) <|
  oc_n
theorem reX2_firmCount : ∀ pc ∈ [34], decode cX2_firmCount pc = .ok (.ireturn, 1) := by decide +kernel
def tX2_firmWidth : List (Nat × gStp) := [(0, i_aload 0 1), (1, i_getC 2 48 4), (4, i_iload 2 5), (5, i_aald7 6), (6, i_iload 3 7), (7, i_iald 8), (8, i_istore 5 10), (10, i_iload 5 12), (12, i_if_ne 19 15), (15, i_push (.int 0) 16), (16, i_goto 34), (19, i_aload 1 20), (20, i_iload 5 22), (22, i_iload 4 24), (24, i_aload 0 25), (25, i_iload 5 27), (27, i_iload 2 28)]
set_option maxRecDepth 100000 in
theorem okX2_firmWidth : gOk YX2_firmWidth tX2_firmWidth := ok_c (sn_aload_n (show decode cX2_firmWidth 0 = .ok (.aload_n 0, 1) by decide +kernel) rfl) <|
  ok_c (sn_getC (j := 15) (fun _ _ => rfl) (sn_get ck_2 (by decide) (show decode cX2_firmWidth 1 = .ok (.getfield 41, 3) by decide +kernel) wd_2_48)) <|
  ok_c (sn_iload_n (show decode cX2_firmWidth 4 = .ok (.iload_n 2, 1) by decide +kernel) rfl) <|
  ok_c (sn_aald7 (show decode cX2_firmWidth 5 = .ok (.aaload, 1) by decide +kernel)) <|
  ok_c (sn_iload_n (show decode cX2_firmWidth 6 = .ok (.iload_n 3, 1) by decide +kernel) rfl) <|
  ok_c (sn_iald (show decode cX2_firmWidth 7 = .ok (.iaload, 1) by decide +kernel)) <|
  ok_c (sn_istore (show decode cX2_firmWidth 8 = .ok (.istore 5, 2) by decide +kernel) (by decide)) <|
  ok_c (sn_iload (show decode cX2_firmWidth 10 = .ok (.iload 5, 2) by decide +kernel)) <|
  ok_c (sn_if_ne (show decode cX2_firmWidth 12 = .ok (.ifCond .ne 7, 3) by decide +kernel) (by decide)) <|
  ok_c (sn_iconst (v := 0) (show decode cX2_firmWidth 15 = .ok (.iconst 0, 1) by decide +kernel) (by decide +kernel)) <|
  ok_c (sn_goto (show decode cX2_firmWidth 16 = .ok (.goto 18, 3) by decide +kernel) (by decide)) <|
  ok_c (sn_aload_n (show decode cX2_firmWidth 19 = .ok (.aload_n 1, 1) by decide +kernel) rfl) <|
  ok_c (sn_iload (show decode cX2_firmWidth 20 = .ok (.iload 5, 2) by decide +kernel)) <|
  ok_c (sn_iload (show decode cX2_firmWidth 22 = .ok (.iload 4, 2) by decide +kernel)) <|
  ok_c (sn_aload_n (show decode cX2_firmWidth 24 = .ok (.aload_n 0, 1) by decide +kernel) rfl) <|
  ok_c (sn_iload (show decode cX2_firmWidth 25 = .ok (.iload 5, 2) by decide +kernel)) <|
  ok_c (sn_iload_n (show decode cX2_firmWidth 27 = .ok (.iload_n 2, 1) by decide +kernel) rfl) <|
  ok_n
def uX2_firmWidth : gCT := [(28, YX2_joinsAmong, 3, some 2), (31, YX7_widthOf, 4, some 7)]
set_option maxRecDepth 100000 in
theorem ocX2_firmWidth : gOkC YX2_firmWidth uX2_firmWidth := oc_c (gEdge_V cal_X2_joinsAmong ck_2 rfl (show decode cX2_firmWidth 28 = .ok (.invokevirtual 179, 3) by decide +kernel) wd_3_216 wd_3_218 wp_2_8) <|
  oc_c (gEdge_V cal_X7_widthOf ck_7 rfl (show decode cX2_firmWidth 31 = .ok (.invokevirtual 182, 3) by decide +kernel) wd_3_220 wd_3_221 wd_3_222) <|
  oc_n
theorem reX2_firmWidth : ∀ pc ∈ [34], decode cX2_firmWidth pc = .ok (.ireturn, 1) := by decide +kernel
def tX2_joinsAmong : List (Nat × gStp) := [(0, i_push (.int 0) 1), (1, i_istore 3 2), (2, i_push (.int 0) 3), (3, i_istore 4 5), (5, i_iload 4 7), (7, i_aload 0 8), (8, i_getI 2 5 11), (11, i_ic_ge 85 14), (14, i_aload 0 15), (15, i_getC 2 17 18), (18, i_iload 4 20), (20, i_iald 21), (21, i_iload 2 22), (22, i_ic_gt 40 25), (25, i_iload 2 26), (26, i_aload 0 27), (27, i_getC 2 18 30), (30, i_iload 4 32), (32, i_iald 33), (33, i_ic_ge 40 36), (36, i_push (.int 1) 37), (37, i_goto 41), (40, i_push (.int 0) 41), (41, i_istore 5 43), (43, i_iload 5 45), (45, i_if_eq 79 48), (48, i_iload 1 49), (49, i_aload 0 50), (50, i_getC 2 15 53), (53, i_iload 4 55), (55, i_iald 56), (59, i_if_eq 79 62), (62, i_iload 1 63), (63, i_aload 0 64), (64, i_getC 2 16 67), (67, i_iload 4 69), (69, i_iald 70), (73, i_if_eq 79 76), (76, i_iinc 3 1 79), (79, i_iinc 4 1 82), (82, i_goto 5), (85, i_iload 3 86)]
set_option maxRecDepth 100000 in
theorem okX2_joinsAmong : gOk YX2_joinsAmong tX2_joinsAmong := ok_c (sn_iconst (v := 0) (show decode cX2_joinsAmong 0 = .ok (.iconst 0, 1) by decide +kernel) (by decide +kernel)) <|
  ok_c (sn_istore_n (show decode cX2_joinsAmong 1 = .ok (.istore_n 3, 1) by decide +kernel) rfl (by decide)) <|
  ok_c (sn_iconst (v := 0) (show decode cX2_joinsAmong 2 = .ok (.iconst 0, 1) by decide +kernel) (by decide +kernel)) <|
  ok_c (sn_istore (show decode cX2_joinsAmong 3 = .ok (.istore 4, 2) by decide +kernel) (by decide)) <|
  ok_c (sn_iload (show decode cX2_joinsAmong 5 = .ok (.iload 4, 2) by decide +kernel)) <|
  ok_c (sn_aload_n (show decode cX2_joinsAmong 7 = .ok (.aload_n 0, 1) by decide +kernel) rfl) <|
  ok_c (sn_getI (fun _ _ => rfl) (sn_get ck_2 (by decide) (show decode cX2_joinsAmong 8 = .ok (.getfield 87, 3) by decide +kernel) wd_2_34)) <|
  ok_c (sn_ic_ge (show decode cX2_joinsAmong 11 = .ok (.if_icmp .ge 74, 3) by decide +kernel) (by decide)) <|
  ok_c (sn_aload_n (show decode cX2_joinsAmong 14 = .ok (.aload_n 0, 1) by decide +kernel) rfl) <|
  ok_c (sn_getC (j := 8) (fun _ _ => rfl) (sn_get ck_2 (by decide) (show decode cX2_joinsAmong 15 = .ok (.getfield 18, 3) by decide +kernel) wd_2_37)) <|
  ok_c (sn_iload (show decode cX2_joinsAmong 18 = .ok (.iload 4, 2) by decide +kernel)) <|
  ok_c (sn_iald (show decode cX2_joinsAmong 20 = .ok (.iaload, 1) by decide +kernel)) <|
  ok_c (sn_iload_n (show decode cX2_joinsAmong 21 = .ok (.iload_n 2, 1) by decide +kernel) rfl) <|
  ok_c (sn_ic_gt (show decode cX2_joinsAmong 22 = .ok (.if_icmp .gt 18, 3) by decide +kernel) (by decide)) <|
  ok_c (sn_iload_n (show decode cX2_joinsAmong 25 = .ok (.iload_n 2, 1) by decide +kernel) rfl) <|
  ok_c (sn_aload_n (show decode cX2_joinsAmong 26 = .ok (.aload_n 0, 1) by decide +kernel) rfl) <|
  ok_c (sn_getC (j := 9) (fun _ _ => rfl) (sn_get ck_2 (by decide) (show decode cX2_joinsAmong 27 = .ok (.getfield 21, 3) by decide +kernel) wd_2_38)) <|
  ok_c (sn_iload (show decode cX2_joinsAmong 30 = .ok (.iload 4, 2) by decide +kernel)) <|
  ok_c (sn_iald (show decode cX2_joinsAmong 32 = .ok (.iaload, 1) by decide +kernel)) <|
  ok_c (sn_ic_ge (show decode cX2_joinsAmong 33 = .ok (.if_icmp .ge 7, 3) by decide +kernel) (by decide)) <|
  ok_c (sn_iconst (v := 1) (show decode cX2_joinsAmong 36 = .ok (.iconst 1, 1) by decide +kernel) (by decide +kernel)) <|
  ok_c (sn_goto (show decode cX2_joinsAmong 37 = .ok (.goto 4, 3) by decide +kernel) (by decide)) <|
  ok_c (sn_iconst (v := 0) (show decode cX2_joinsAmong 40 = .ok (.iconst 0, 1) by decide +kernel) (by decide +kernel)) <|
  ok_c (sn_istore (show decode cX2_joinsAmong 41 = .ok (.istore 5, 2) by decide +kernel) (by decide)) <|
  ok_c (sn_iload (show decode cX2_joinsAmong 43 = .ok (.iload 5, 2) by decide +kernel)) <|
  ok_c (sn_if_eq (show decode cX2_joinsAmong 45 = .ok (.ifCond .eq 34, 3) by decide +kernel) (by decide)) <|
  ok_c (sn_iload_n (show decode cX2_joinsAmong 48 = .ok (.iload_n 1, 1) by decide +kernel) rfl) <|
  ok_c (sn_aload_n (show decode cX2_joinsAmong 49 = .ok (.aload_n 0, 1) by decide +kernel) rfl) <|
  ok_c (sn_getC (j := 6) (fun _ _ => rfl) (sn_get ck_2 (by decide) (show decode cX2_joinsAmong 50 = .ok (.getfield 11, 3) by decide +kernel) wd_2_35)) <|
  ok_c (sn_iload (show decode cX2_joinsAmong 53 = .ok (.iload 4, 2) by decide +kernel)) <|
  ok_c (sn_iald (show decode cX2_joinsAmong 55 = .ok (.iaload, 1) by decide +kernel)) <|
  ok_c (sn_if_eq (show decode cX2_joinsAmong 59 = .ok (.ifCond .eq 20, 3) by decide +kernel) (by decide)) <|
  ok_c (sn_iload_n (show decode cX2_joinsAmong 62 = .ok (.iload_n 1, 1) by decide +kernel) rfl) <|
  ok_c (sn_aload_n (show decode cX2_joinsAmong 63 = .ok (.aload_n 0, 1) by decide +kernel) rfl) <|
  ok_c (sn_getC (j := 7) (fun _ _ => rfl) (sn_get ck_2 (by decide) (show decode cX2_joinsAmong 64 = .ok (.getfield 15, 3) by decide +kernel) wd_2_36)) <|
  ok_c (sn_iload (show decode cX2_joinsAmong 67 = .ok (.iload 4, 2) by decide +kernel)) <|
  ok_c (sn_iald (show decode cX2_joinsAmong 69 = .ok (.iaload, 1) by decide +kernel)) <|
  ok_c (sn_if_eq (show decode cX2_joinsAmong 73 = .ok (.ifCond .eq 6, 3) by decide +kernel) (by decide)) <|
  ok_c (sn_iinc (show decode cX2_joinsAmong 76 = .ok (.iinc 3 1, 3) by decide +kernel) (by decide) (by decide +kernel)) <|
  ok_c (sn_iinc (show decode cX2_joinsAmong 79 = .ok (.iinc 4 1, 3) by decide +kernel) (by decide) (by decide +kernel)) <|
  ok_c (sn_goto (show decode cX2_joinsAmong 82 = .ok (.goto (-77), 3) by decide +kernel) (by decide)) <|
  ok_c (sn_iload_n (show decode cX2_joinsAmong 85 = .ok (.iload_n 3, 1) by decide +kernel) rfl) <|
  ok_n
def uX2_joinsAmong : gCT := [(56, YX8_has, 2, none), (70, YX8_has, 2, none)]
set_option maxRecDepth 100000 in
theorem ocX2_joinsAmong : gOkC YX2_joinsAmong uX2_joinsAmong := oc_c (gEdge_SN cal_X8_has (show decode cX2_joinsAmong 56 = .ok (.invokestatic 93, 3) by decide +kernel) wd_3_118 wd_3_119) <|
  oc_c (gEdge_SN cal_X8_has (show decode cX2_joinsAmong 70 = .ok (.invokestatic 93, 3) by decide +kernel) wd_3_118 wd_3_119) <|
  oc_n
theorem reX2_joinsAmong : ∀ pc ∈ [86], decode cX2_joinsAmong pc = .ok (.ireturn, 1) := by decide +kernel
def tX2_doorsOf : List (Nat × gStp) := [(0, i_aload 0 1), (1, i_aload 1 2), (2, i_iload 2 3), (3, i_iload 3 4), (4, i_iload 4 6), (9, i_istore 5 11), (11, i_push (.int 0) 12), (12, i_istore 6 14), (14, i_push (.int 0) 15), (15, i_istore 7 17), (17, i_iload 7 19), (19, i_aload 1 20), (20, i_getI 7 7 23), (23, i_ic_ge 58 26), (26, i_iload 5 28), (28, i_if_eq 52 31), (31, i_iload 5 33), (33, i_aload 1 34), (34, i_getO 7 7 37), (37, i_iload 7 39), (39, i_iald 40), (40, i_ic_gt 52 43), (43, i_iload 6 45), (45, i_push (.int 1) 46), (46, i_iload 7 48), (48, i_ii (fun x y => x <<< (y &&& 31)) 49), (49, i_ii (fun x y => x ||| y) 50), (50, i_istore 6 52), (52, i_iinc 7 1 55), (55, i_goto 17), (58, i_iload 6 60)]
set_option maxRecDepth 100000 in
theorem okX2_doorsOf : gOk YX2_doorsOf tX2_doorsOf := ok_c (sn_aload_n (show decode cX2_doorsOf 0 = .ok (.aload_n 0, 1) by decide +kernel) rfl) <|
  ok_c (sn_aload_n (show decode cX2_doorsOf 1 = .ok (.aload_n 1, 1) by decide +kernel) rfl) <|
  ok_c (sn_iload_n (show decode cX2_doorsOf 2 = .ok (.iload_n 2, 1) by decide +kernel) rfl) <|
  ok_c (sn_iload_n (show decode cX2_doorsOf 3 = .ok (.iload_n 3, 1) by decide +kernel) rfl) <|
  ok_c (sn_iload (show decode cX2_doorsOf 4 = .ok (.iload 4, 2) by decide +kernel)) <|
  ok_c (sn_istore (show decode cX2_doorsOf 9 = .ok (.istore 5, 2) by decide +kernel) (by decide)) <|
  ok_c (sn_iconst (v := 0) (show decode cX2_doorsOf 11 = .ok (.iconst 0, 1) by decide +kernel) (by decide +kernel)) <|
  ok_c (sn_istore (show decode cX2_doorsOf 12 = .ok (.istore 6, 2) by decide +kernel) (by decide)) <|
  ok_c (sn_iconst (v := 0) (show decode cX2_doorsOf 14 = .ok (.iconst 0, 1) by decide +kernel) (by decide +kernel)) <|
  ok_c (sn_istore (show decode cX2_doorsOf 15 = .ok (.istore 7, 2) by decide +kernel) (by decide)) <|
  ok_c (sn_iload (show decode cX2_doorsOf 17 = .ok (.iload 7, 2) by decide +kernel)) <|
  ok_c (sn_aload_n (show decode cX2_doorsOf 19 = .ok (.aload_n 1, 1) by decide +kernel) rfl) <|
  ok_c (sn_getI (fun _ _ => rfl) (sn_get ck_7 (by decide) (show decode cX2_doorsOf 20 = .ok (.getfield 190, 3) by decide +kernel) wd_1_117)) <|
  ok_c (sn_ic_ge (show decode cX2_doorsOf 23 = .ok (.if_icmp .ge 35, 3) by decide +kernel) (by decide)) <|
  ok_c (sn_iload (show decode cX2_doorsOf 26 = .ok (.iload 5, 2) by decide +kernel)) <|
  ok_c (sn_if_eq (show decode cX2_doorsOf 28 = .ok (.ifCond .eq 24, 3) by decide +kernel) (by decide)) <|
  ok_c (sn_iload (show decode cX2_doorsOf 31 = .ok (.iload 5, 2) by decide +kernel)) <|
  ok_c (sn_aload_n (show decode cX2_doorsOf 33 = .ok (.aload_n 1, 1) by decide +kernel) rfl) <|
  ok_c (sn_getO (j := 15) (fun _ _ => rfl) (sn_get ck_7 (by decide) (show decode cX2_doorsOf 34 = .ok (.getfield 193, 3) by decide +kernel) wd_1_150)) <|
  ok_c (sn_iload (show decode cX2_doorsOf 37 = .ok (.iload 7, 2) by decide +kernel)) <|
  ok_c (sn_iald (show decode cX2_doorsOf 39 = .ok (.iaload, 1) by decide +kernel)) <|
  ok_c (sn_ic_gt (show decode cX2_doorsOf 40 = .ok (.if_icmp .gt 12, 3) by decide +kernel) (by decide)) <|
  ok_c (sn_iload (show decode cX2_doorsOf 43 = .ok (.iload 6, 2) by decide +kernel)) <|
  ok_c (sn_iconst (v := 1) (show decode cX2_doorsOf 45 = .ok (.iconst 1, 1) by decide +kernel) (by decide +kernel)) <|
  ok_c (sn_iload (show decode cX2_doorsOf 46 = .ok (.iload 7, 2) by decide +kernel)) <|
  ok_c (sn_ishl (show decode cX2_doorsOf 48 = .ok (.ishl, 1) by decide +kernel)) <|
  ok_c (sn_ior (show decode cX2_doorsOf 49 = .ok (.ior, 1) by decide +kernel)) <|
  ok_c (sn_istore (show decode cX2_doorsOf 50 = .ok (.istore 6, 2) by decide +kernel) (by decide)) <|
  ok_c (sn_iinc (show decode cX2_doorsOf 52 = .ok (.iinc 7 1, 3) by decide +kernel) (by decide) (by decide +kernel)) <|
  ok_c (sn_goto (show decode cX2_doorsOf 55 = .ok (.goto (-38), 3) by decide +kernel) (by decide)) <|
  ok_c (sn_iload (show decode cX2_doorsOf 58 = .ok (.iload 6, 2) by decide +kernel)) <|
  ok_n
def uX2_doorsOf : gCT := [(6, YX2_firmWidth, 5, some 2)]
set_option maxRecDepth 100000 in
theorem ocX2_doorsOf : gOkC YX2_doorsOf uX2_doorsOf := oc_c (gEdge_V cal_X2_firmWidth ck_2 rfl (show decode cX2_doorsOf 6 = .ok (.invokevirtual 186, 3) by decide +kernel) wd_4_2 wd_3_213 wd_3_214) <|
  oc_n
theorem reX2_doorsOf : ∀ pc ∈ [60], decode cX2_doorsOf pc = .ok (.ireturn, 1) := by decide +kernel
def tX2_distance : List (Nat × gStp) := [(0, i_aload 0 1), (1, i_getC 2 48 4), (4, i_iload 3 5), (5, i_aald7 6), (6, i_iload 1 7), (7, i_iald 8), (8, i_iload 2 9), (12, i_if_ne 17 15), (15, i_push (.int (-1)) 16), (17, i_push (.int 1) 18), (18, i_iload 1 19), (19, i_ii (fun x y => x <<< (y &&& 31)) 20), (20, i_istore 4 22), (22, i_push (.int 0) 23), (23, i_istore 5 25), (25, i_iload 5 27), (27, i_push (.int 6) 29), (29, i_ic_ge 66 32), (32, i_iload 4 34), (34, i_iload 2 35), (38, i_if_eq 44 41), (41, i_iload 5 43), (44, i_iload 4 46), (46, i_aload 0 47), (47, i_getC 2 35 50), (50, i_iload 3 51), (51, i_aald7 52), (52, i_iload 4 54), (57, i_ii (fun x y => x ||| y) 58), (58, i_istore 4 60), (60, i_iinc 5 1 63), (63, i_goto 25), (66, i_push (.int (-1)) 67)]
set_option maxRecDepth 100000 in
theorem okX2_distance : gOk YX2_distance tX2_distance := ok_c (sn_aload_n (show decode cX2_distance 0 = .ok (.aload_n 0, 1) by decide +kernel) rfl) <|
  ok_c (sn_getC (j := 15) (fun _ _ => rfl) (sn_get ck_2 (by decide) (show decode cX2_distance 1 = .ok (.getfield 41, 3) by decide +kernel) wd_2_48)) <|
  ok_c (sn_iload_n (show decode cX2_distance 4 = .ok (.iload_n 3, 1) by decide +kernel) rfl) <|
  ok_c (sn_aald7 (show decode cX2_distance 5 = .ok (.aaload, 1) by decide +kernel)) <|
  ok_c (sn_iload_n (show decode cX2_distance 6 = .ok (.iload_n 1, 1) by decide +kernel) rfl) <|
  ok_c (sn_iald (show decode cX2_distance 7 = .ok (.iaload, 1) by decide +kernel)) <|
  ok_c (sn_iload_n (show decode cX2_distance 8 = .ok (.iload_n 2, 1) by decide +kernel) rfl) <|
  ok_c (sn_if_ne (show decode cX2_distance 12 = .ok (.ifCond .ne 5, 3) by decide +kernel) (by decide)) <|
  ok_c (sn_iconst (v := (-1)) (show decode cX2_distance 15 = .ok (.iconst (-1), 1) by decide +kernel) (by decide +kernel)) <|
  ok_c (sn_iconst (v := 1) (show decode cX2_distance 17 = .ok (.iconst 1, 1) by decide +kernel) (by decide +kernel)) <|
  ok_c (sn_iload_n (show decode cX2_distance 18 = .ok (.iload_n 1, 1) by decide +kernel) rfl) <|
  ok_c (sn_ishl (show decode cX2_distance 19 = .ok (.ishl, 1) by decide +kernel)) <|
  ok_c (sn_istore (show decode cX2_distance 20 = .ok (.istore 4, 2) by decide +kernel) (by decide)) <|
  ok_c (sn_iconst (v := 0) (show decode cX2_distance 22 = .ok (.iconst 0, 1) by decide +kernel) (by decide +kernel)) <|
  ok_c (sn_istore (show decode cX2_distance 23 = .ok (.istore 5, 2) by decide +kernel) (by decide)) <|
  ok_c (sn_iload (show decode cX2_distance 25 = .ok (.iload 5, 2) by decide +kernel)) <|
  ok_c (sn_bipush (v := 6) (show decode cX2_distance 27 = .ok (.bipush 6, 2) by decide +kernel) (by decide +kernel)) <|
  ok_c (sn_ic_ge (show decode cX2_distance 29 = .ok (.if_icmp .ge 37, 3) by decide +kernel) (by decide)) <|
  ok_c (sn_iload (show decode cX2_distance 32 = .ok (.iload 4, 2) by decide +kernel)) <|
  ok_c (sn_iload_n (show decode cX2_distance 34 = .ok (.iload_n 2, 1) by decide +kernel) rfl) <|
  ok_c (sn_if_eq (show decode cX2_distance 38 = .ok (.ifCond .eq 6, 3) by decide +kernel) (by decide)) <|
  ok_c (sn_iload (show decode cX2_distance 41 = .ok (.iload 5, 2) by decide +kernel)) <|
  ok_c (sn_iload (show decode cX2_distance 44 = .ok (.iload 4, 2) by decide +kernel)) <|
  ok_c (sn_aload_n (show decode cX2_distance 46 = .ok (.aload_n 0, 1) by decide +kernel) rfl) <|
  ok_c (sn_getC (j := 14) (fun _ _ => rfl) (sn_get ck_2 (by decide) (show decode cX2_distance 47 = .ok (.getfield 38, 3) by decide +kernel) wd_2_47)) <|
  ok_c (sn_iload_n (show decode cX2_distance 50 = .ok (.iload_n 3, 1) by decide +kernel) rfl) <|
  ok_c (sn_aald7 (show decode cX2_distance 51 = .ok (.aaload, 1) by decide +kernel)) <|
  ok_c (sn_iload (show decode cX2_distance 52 = .ok (.iload 4, 2) by decide +kernel)) <|
  ok_c (sn_ior (show decode cX2_distance 57 = .ok (.ior, 1) by decide +kernel)) <|
  ok_c (sn_istore (show decode cX2_distance 58 = .ok (.istore 4, 2) by decide +kernel) (by decide)) <|
  ok_c (sn_iinc (show decode cX2_distance 60 = .ok (.iinc 5 1, 3) by decide +kernel) (by decide) (by decide +kernel)) <|
  ok_c (sn_goto (show decode cX2_distance 63 = .ok (.goto (-38), 3) by decide +kernel) (by decide)) <|
  ok_c (sn_iconst (v := (-1)) (show decode cX2_distance 66 = .ok (.iconst (-1), 1) by decide +kernel) (by decide +kernel)) <|
  ok_n
def uX2_distance : gCT := [(9, YX8_has, 2, none), (35, YX8_has, 2, none), (54, YX2_tiedTo, 2, none)]
set_option maxRecDepth 100000 in
theorem ocX2_distance : gOkC YX2_distance uX2_distance := oc_c (gEdge_SN cal_X8_has (show decode cX2_distance 9 = .ok (.invokestatic 93, 3) by decide +kernel) wd_3_118 wd_3_119) <|
  oc_c (gEdge_SN cal_X8_has (show decode cX2_distance 35 = .ok (.invokestatic 93, 3) by decide +kernel) wd_3_118 wd_3_119) <|
  oc_c (gEdge_S cal_X2_tiedTo (show decode cX2_distance 54 = .ok (.invokestatic 157, 3) by decide +kernel) wd_3_154 wd_3_155) <|
  oc_n
theorem reX2_distance : ∀ pc ∈ [16, 43, 67], decode cX2_distance pc = .ok (.ireturn, 1) := by decide +kernel
def tJ6_bitCount_0f7a4 : List (Nat × gStp) := [(0, i_iload 0 1), (1, i_iload 0 2), (2, i_push (.int 1) 3), (3, i_ii (fun x y => (x.toUInt32 >>> (y.toUInt32 &&& Int32.toUInt32 31)).toInt32) 4), (4, i_push (.int 1431655765) 7), (7, i_ii (fun x y => x &&& y) 8), (8, i_ii (fun x y => x - y) 9), (9, i_istore 0 10), (10, i_iload 0 11), (11, i_push (.int 858993459) 14), (14, i_ii (fun x y => x &&& y) 15), (15, i_iload 0 16), (16, i_push (.int 2) 17), (17, i_ii (fun x y => (x.toUInt32 >>> (y.toUInt32 &&& Int32.toUInt32 31)).toInt32) 18), (18, i_push (.int 858993459) 21), (21, i_ii (fun x y => x &&& y) 22), (22, i_ii (fun x y => x + y) 23), (23, i_istore 0 24), (24, i_iload 0 25), (25, i_iload 0 26), (26, i_push (.int 4) 27), (27, i_ii (fun x y => (x.toUInt32 >>> (y.toUInt32 &&& Int32.toUInt32 31)).toInt32) 28), (28, i_ii (fun x y => x + y) 29), (29, i_push (.int 252645135) 32), (32, i_ii (fun x y => x &&& y) 33), (33, i_istore 0 34), (34, i_iload 0 35), (35, i_iload 0 36), (36, i_push (.int 8) 38), (38, i_ii (fun x y => (x.toUInt32 >>> (y.toUInt32 &&& Int32.toUInt32 31)).toInt32) 39), (39, i_ii (fun x y => x + y) 40), (40, i_istore 0 41), (41, i_iload 0 42), (42, i_iload 0 43), (43, i_push (.int 16) 45), (45, i_ii (fun x y => (x.toUInt32 >>> (y.toUInt32 &&& Int32.toUInt32 31)).toInt32) 46), (46, i_ii (fun x y => x + y) 47), (47, i_istore 0 48), (48, i_iload 0 49), (49, i_push (.int 63) 51), (51, i_ii (fun x y => x &&& y) 52)]
set_option maxRecDepth 100000 in
theorem okJ6_bitCount_0f7a4 : gOk YJ6_bitCount_0f7a4 tJ6_bitCount_0f7a4 := ok_c (sn_iload_n (show decode cJ6_bitCount_0f7a4 0 = .ok (.iload_n 0, 1) by decide +kernel) rfl) <|
  ok_c (sn_iload_n (show decode cJ6_bitCount_0f7a4 1 = .ok (.iload_n 0, 1) by decide +kernel) rfl) <|
  ok_c (sn_iconst (v := 1) (show decode cJ6_bitCount_0f7a4 2 = .ok (.iconst 1, 1) by decide +kernel) (by decide +kernel)) <|
  ok_c (sn_iushr (show decode cJ6_bitCount_0f7a4 3 = .ok (.iushr, 1) by decide +kernel)) <|
  ok_c (sn_ldcw (show decode cJ6_bitCount_0f7a4 4 = .ok (.ldc_w 265, 3) by decide +kernel) wd_3_231) <|
  ok_c (sn_iand (show decode cJ6_bitCount_0f7a4 7 = .ok (.iand, 1) by decide +kernel)) <|
  ok_c (sn_isub (show decode cJ6_bitCount_0f7a4 8 = .ok (.isub, 1) by decide +kernel)) <|
  ok_c (sn_istore_n (show decode cJ6_bitCount_0f7a4 9 = .ok (.istore_n 0, 1) by decide +kernel) rfl (by decide)) <|
  ok_c (sn_iload_n (show decode cJ6_bitCount_0f7a4 10 = .ok (.iload_n 0, 1) by decide +kernel) rfl) <|
  ok_c (sn_ldcw (show decode cJ6_bitCount_0f7a4 11 = .ok (.ldc_w 266, 3) by decide +kernel) wd_3_232) <|
  ok_c (sn_iand (show decode cJ6_bitCount_0f7a4 14 = .ok (.iand, 1) by decide +kernel)) <|
  ok_c (sn_iload_n (show decode cJ6_bitCount_0f7a4 15 = .ok (.iload_n 0, 1) by decide +kernel) rfl) <|
  ok_c (sn_iconst (v := 2) (show decode cJ6_bitCount_0f7a4 16 = .ok (.iconst 2, 1) by decide +kernel) (by decide +kernel)) <|
  ok_c (sn_iushr (show decode cJ6_bitCount_0f7a4 17 = .ok (.iushr, 1) by decide +kernel)) <|
  ok_c (sn_ldcw (show decode cJ6_bitCount_0f7a4 18 = .ok (.ldc_w 266, 3) by decide +kernel) wd_3_232) <|
  ok_c (sn_iand (show decode cJ6_bitCount_0f7a4 21 = .ok (.iand, 1) by decide +kernel)) <|
  ok_c (sn_iadd (show decode cJ6_bitCount_0f7a4 22 = .ok (.iadd, 1) by decide +kernel)) <|
  ok_c (sn_istore_n (show decode cJ6_bitCount_0f7a4 23 = .ok (.istore_n 0, 1) by decide +kernel) rfl (by decide)) <|
  ok_c (sn_iload_n (show decode cJ6_bitCount_0f7a4 24 = .ok (.iload_n 0, 1) by decide +kernel) rfl) <|
  ok_c (sn_iload_n (show decode cJ6_bitCount_0f7a4 25 = .ok (.iload_n 0, 1) by decide +kernel) rfl) <|
  ok_c (sn_iconst (v := 4) (show decode cJ6_bitCount_0f7a4 26 = .ok (.iconst 4, 1) by decide +kernel) (by decide +kernel)) <|
  ok_c (sn_iushr (show decode cJ6_bitCount_0f7a4 27 = .ok (.iushr, 1) by decide +kernel)) <|
  ok_c (sn_iadd (show decode cJ6_bitCount_0f7a4 28 = .ok (.iadd, 1) by decide +kernel)) <|
  ok_c (sn_ldcw (show decode cJ6_bitCount_0f7a4 29 = .ok (.ldc_w 267, 3) by decide +kernel) wd_3_233) <|
  ok_c (sn_iand (show decode cJ6_bitCount_0f7a4 32 = .ok (.iand, 1) by decide +kernel)) <|
  ok_c (sn_istore_n (show decode cJ6_bitCount_0f7a4 33 = .ok (.istore_n 0, 1) by decide +kernel) rfl (by decide)) <|
  ok_c (sn_iload_n (show decode cJ6_bitCount_0f7a4 34 = .ok (.iload_n 0, 1) by decide +kernel) rfl) <|
  ok_c (sn_iload_n (show decode cJ6_bitCount_0f7a4 35 = .ok (.iload_n 0, 1) by decide +kernel) rfl) <|
  ok_c (sn_bipush (v := 8) (show decode cJ6_bitCount_0f7a4 36 = .ok (.bipush 8, 2) by decide +kernel) (by decide +kernel)) <|
  ok_c (sn_iushr (show decode cJ6_bitCount_0f7a4 38 = .ok (.iushr, 1) by decide +kernel)) <|
  ok_c (sn_iadd (show decode cJ6_bitCount_0f7a4 39 = .ok (.iadd, 1) by decide +kernel)) <|
  ok_c (sn_istore_n (show decode cJ6_bitCount_0f7a4 40 = .ok (.istore_n 0, 1) by decide +kernel) rfl (by decide)) <|
  ok_c (sn_iload_n (show decode cJ6_bitCount_0f7a4 41 = .ok (.iload_n 0, 1) by decide +kernel) rfl) <|
  ok_c (sn_iload_n (show decode cJ6_bitCount_0f7a4 42 = .ok (.iload_n 0, 1) by decide +kernel) rfl) <|
  ok_c (sn_bipush (v := 16) (show decode cJ6_bitCount_0f7a4 43 = .ok (.bipush 16, 2) by decide +kernel) (by decide +kernel)) <|
  ok_c (sn_iushr (show decode cJ6_bitCount_0f7a4 45 = .ok (.iushr, 1) by decide +kernel)) <|
  ok_c (sn_iadd (show decode cJ6_bitCount_0f7a4 46 = .ok (.iadd, 1) by decide +kernel)) <|
  ok_c (sn_istore_n (show decode cJ6_bitCount_0f7a4 47 = .ok (.istore_n 0, 1) by decide +kernel) rfl (by decide)) <|
  ok_c (sn_iload_n (show decode cJ6_bitCount_0f7a4 48 = .ok (.iload_n 0, 1) by decide +kernel) rfl) <|
  ok_c (sn_bipush (v := 63) (show decode cJ6_bitCount_0f7a4 49 = .ok (.bipush 63, 2) by decide +kernel) (by decide +kernel)) <|
  ok_c (sn_iand (show decode cJ6_bitCount_0f7a4 51 = .ok (.iand, 1) by decide +kernel)) <|
  ok_n
theorem reJ6_bitCount_0f7a4 : ∀ pc ∈ [52], decode cJ6_bitCount_0f7a4 pc = .ok (.ireturn, 1) := by decide +kernel
def tJ13_compare_74951 : List (Nat × gStp) := [(0, i_lload 0 1), (1, i_lload 2 2), (2, i_lcmp 3), (3, i_if_ge 10 6), (6, i_push (.int (-1)) 7), (7, i_goto 21), (10, i_lload 0 11), (11, i_lload 2 12), (12, i_lcmp 13), (13, i_if_ne 20 16), (16, i_push (.int 0) 17), (17, i_goto 21), (20, i_push (.int 1) 21)]
set_option maxRecDepth 100000 in
theorem okJ13_compare_74951 : gOk YJ13_compare_74951 tJ13_compare_74951 := ok_c (sn_lload_n (show decode cJ13_compare_74951 0 = .ok (.lload_n 0, 1) by decide +kernel) rfl) <|
  ok_c (sn_lload_n (show decode cJ13_compare_74951 1 = .ok (.lload_n 2, 1) by decide +kernel) rfl) <|
  ok_c (sn_lcmp (show decode cJ13_compare_74951 2 = .ok (.lcmp, 1) by decide +kernel)) <|
  ok_c (sn_if_ge (show decode cJ13_compare_74951 3 = .ok (.ifCond .ge 7, 3) by decide +kernel) (by decide)) <|
  ok_c (sn_iconst (v := (-1)) (show decode cJ13_compare_74951 6 = .ok (.iconst (-1), 1) by decide +kernel) (by decide +kernel)) <|
  ok_c (sn_goto (show decode cJ13_compare_74951 7 = .ok (.goto 14, 3) by decide +kernel) (by decide)) <|
  ok_c (sn_lload_n (show decode cJ13_compare_74951 10 = .ok (.lload_n 0, 1) by decide +kernel) rfl) <|
  ok_c (sn_lload_n (show decode cJ13_compare_74951 11 = .ok (.lload_n 2, 1) by decide +kernel) rfl) <|
  ok_c (sn_lcmp (show decode cJ13_compare_74951 12 = .ok (.lcmp, 1) by decide +kernel)) <|
  ok_c (sn_if_ne (show decode cJ13_compare_74951 13 = .ok (.ifCond .ne 7, 3) by decide +kernel) (by decide)) <|
  ok_c (sn_iconst (v := 0) (show decode cJ13_compare_74951 16 = .ok (.iconst 0, 1) by decide +kernel) (by decide +kernel)) <|
  ok_c (sn_goto (show decode cJ13_compare_74951 17 = .ok (.goto 4, 3) by decide +kernel) (by decide)) <|
  ok_c (sn_iconst (v := 1) (show decode cJ13_compare_74951 20 = .ok (.iconst 1, 1) by decide +kernel) (by decide +kernel)) <|
  ok_n
theorem reJ13_compare_74951 : ∀ pc ∈ [21], decode cJ13_compare_74951 pc = .ok (.ireturn, 1) := by decide +kernel
