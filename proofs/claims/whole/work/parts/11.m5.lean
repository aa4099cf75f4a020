/-! steps and calls -/
def tX3_canRead : List (Nat × gStp) := [(0, i_aload 1 1), (1, i_getI 4 2 4), (4, i_push (.int 3) 5), (5, i_idiv (fun x y => x - x / y * y) 6), (6, i_if_eq 11 9), (9, i_push (.int 0) 10), (11, i_push (.int 0) 12), (12, i_istore 2 13), (13, i_iload 2 14), (14, i_push (.int 2) 15), (15, i_ii (fun x y => x + y) 16), (16, i_aload 1 17), (17, i_getI 4 2 20), (20, i_ic_ge 90 23), (23, i_aload 1 24), (24, i_getO 4 1 27), (27, i_iload 2 28), (28, i_lald 29), (29, i_aload 0 30), (30, i_getI 7 5 33), (36, i_if_eq 76 39), (39, i_aload 1 40), (40, i_getO 4 1 43), (43, i_iload 2 44), (44, i_push (.int 1) 45), (45, i_ii (fun x y => x + y) 46), (46, i_lald 47), (47, i_aload 0 48), (48, i_getI 7 7 51), (54, i_if_eq 76 57), (57, i_aload 1 58), (58, i_getO 4 1 61), (61, i_iload 2 62), (62, i_push (.int 2) 63), (63, i_ii (fun x y => x + y) 64), (64, i_lald 65), (65, i_push (.int 2) 66), (69, i_if_eq 76 72), (72, i_push (.int 1) 73), (73, i_goto 77), (76, i_push (.int 0) 77), (77, i_istore 3 78), (78, i_iload 3 79), (79, i_if_ne 84 82), (82, i_push (.int 0) 83), (84, i_iinc 2 3 87), (87, i_goto 13), (90, i_push (.int 1) 91)]
set_option maxRecDepth 100000 in
theorem okX3_canRead : gOk YX3_canRead tX3_canRead := ok_c (sn_aload_n (show decode cX3_canRead 0 = .ok (.aload_n 1, 1) by decide +kernel) rfl) <|
  ok_c (sn_getI (fun _ _ => rfl) (sn_get ck_4 (by decide) (show decode cX3_canRead 1 = .ok (.getfield 15, 3) by decide +kernel) wd_2_0)) <|
  ok_c (sn_iconst (v := 3) (show decode cX3_canRead 4 = .ok (.iconst 3, 1) by decide +kernel) (by decide +kernel)) <|
  ok_c (sn_irem (show decode cX3_canRead 5 = .ok (.irem, 1) by decide +kernel)) <|
  ok_c (sn_if_eq (show decode cX3_canRead 6 = .ok (.ifCond .eq 5, 3) by decide +kernel) (by decide)) <|
  ok_c (sn_iconst (v := 0) (show decode cX3_canRead 9 = .ok (.iconst 0, 1) by decide +kernel) (by decide +kernel)) <|
  ok_c (sn_iconst (v := 0) (show decode cX3_canRead 11 = .ok (.iconst 0, 1) by decide +kernel) (by decide +kernel)) <|
  ok_c (sn_istore_n (show decode cX3_canRead 12 = .ok (.istore_n 2, 1) by decide +kernel) rfl (by decide)) <|
  ok_c (sn_iload_n (show decode cX3_canRead 13 = .ok (.iload_n 2, 1) by decide +kernel) rfl) <|
  ok_c (sn_iconst (v := 2) (show decode cX3_canRead 14 = .ok (.iconst 2, 1) by decide +kernel) (by decide +kernel)) <|
  ok_c (sn_iadd (show decode cX3_canRead 15 = .ok (.iadd, 1) by decide +kernel)) <|
  ok_c (sn_aload_n (show decode cX3_canRead 16 = .ok (.aload_n 1, 1) by decide +kernel) rfl) <|
  ok_c (sn_getI (fun _ _ => rfl) (sn_get ck_4 (by decide) (show decode cX3_canRead 17 = .ok (.getfield 15, 3) by decide +kernel) wd_2_0)) <|
  ok_c (sn_ic_ge (show decode cX3_canRead 20 = .ok (.if_icmp .ge 70, 3) by decide +kernel) (by decide)) <|
  ok_c (sn_aload_n (show decode cX3_canRead 23 = .ok (.aload_n 1, 1) by decide +kernel) rfl) <|
  ok_c (sn_getO (j := 0) (fun _ _ => rfl) (sn_get ck_4 (by decide) (show decode cX3_canRead 24 = .ok (.getfield 21, 3) by decide +kernel) wd_1_236)) <|
  ok_c (sn_iload_n (show decode cX3_canRead 27 = .ok (.iload_n 2, 1) by decide +kernel) rfl) <|
  ok_c (sn_lald (show decode cX3_canRead 28 = .ok (.laload, 1) by decide +kernel)) <|
  ok_c (sn_aload_n (show decode cX3_canRead 29 = .ok (.aload_n 0, 1) by decide +kernel) rfl) <|
  ok_c (sn_getI (fun _ _ => rfl) (sn_get ck_7 (by decide) (show decode cX3_canRead 30 = .ok (.getfield 25, 3) by decide +kernel) wd_1_104)) <|
  ok_c (sn_if_eq (show decode cX3_canRead 36 = .ok (.ifCond .eq 40, 3) by decide +kernel) (by decide)) <|
  ok_c (sn_aload_n (show decode cX3_canRead 39 = .ok (.aload_n 1, 1) by decide +kernel) rfl) <|
  ok_c (sn_getO (j := 0) (fun _ _ => rfl) (sn_get ck_4 (by decide) (show decode cX3_canRead 40 = .ok (.getfield 21, 3) by decide +kernel) wd_1_236)) <|
  ok_c (sn_iload_n (show decode cX3_canRead 43 = .ok (.iload_n 2, 1) by decide +kernel) rfl) <|
  ok_c (sn_iconst (v := 1) (show decode cX3_canRead 44 = .ok (.iconst 1, 1) by decide +kernel) (by decide +kernel)) <|
  ok_c (sn_iadd (show decode cX3_canRead 45 = .ok (.iadd, 1) by decide +kernel)) <|
  ok_c (sn_lald (show decode cX3_canRead 46 = .ok (.laload, 1) by decide +kernel)) <|
  ok_c (sn_aload_n (show decode cX3_canRead 47 = .ok (.aload_n 0, 1) by decide +kernel) rfl) <|
  ok_c (sn_getI (fun _ _ => rfl) (sn_get ck_7 (by decide) (show decode cX3_canRead 48 = .ok (.getfield 34, 3) by decide +kernel) wd_1_115)) <|
  ok_c (sn_if_eq (show decode cX3_canRead 54 = .ok (.ifCond .eq 22, 3) by decide +kernel) (by decide)) <|
  ok_c (sn_aload_n (show decode cX3_canRead 57 = .ok (.aload_n 1, 1) by decide +kernel) rfl) <|
  ok_c (sn_getO (j := 0) (fun _ _ => rfl) (sn_get ck_4 (by decide) (show decode cX3_canRead 58 = .ok (.getfield 21, 3) by decide +kernel) wd_1_236)) <|
  ok_c (sn_iload_n (show decode cX3_canRead 61 = .ok (.iload_n 2, 1) by decide +kernel) rfl) <|
  ok_c (sn_iconst (v := 2) (show decode cX3_canRead 62 = .ok (.iconst 2, 1) by decide +kernel) (by decide +kernel)) <|
  ok_c (sn_iadd (show decode cX3_canRead 63 = .ok (.iadd, 1) by decide +kernel)) <|
  ok_c (sn_lald (show decode cX3_canRead 64 = .ok (.laload, 1) by decide +kernel)) <|
  ok_c (sn_iconst (v := 2) (show decode cX3_canRead 65 = .ok (.iconst 2, 1) by decide +kernel) (by decide +kernel)) <|
  ok_c (sn_if_eq (show decode cX3_canRead 69 = .ok (.ifCond .eq 7, 3) by decide +kernel) (by decide)) <|
  ok_c (sn_iconst (v := 1) (show decode cX3_canRead 72 = .ok (.iconst 1, 1) by decide +kernel) (by decide +kernel)) <|
  ok_c (sn_goto (show decode cX3_canRead 73 = .ok (.goto 4, 3) by decide +kernel) (by decide)) <|
  ok_c (sn_iconst (v := 0) (show decode cX3_canRead 76 = .ok (.iconst 0, 1) by decide +kernel) (by decide +kernel)) <|
  ok_c (sn_istore_n (show decode cX3_canRead 77 = .ok (.istore_n 3, 1) by decide +kernel) rfl (by decide)) <|
  ok_c (sn_iload_n (show decode cX3_canRead 78 = .ok (.iload_n 3, 1) by decide +kernel) rfl) <|
  ok_c (sn_if_ne (show decode cX3_canRead 79 = .ok (.ifCond .ne 5, 3) by decide +kernel) (by decide)) <|
  ok_c (sn_iconst (v := 0) (show decode cX3_canRead 82 = .ok (.iconst 0, 1) by decide +kernel) (by decide +kernel)) <|
  ok_c (sn_iinc (show decode cX3_canRead 84 = .ok (.iinc 2 3, 3) by decide +kernel) (by decide) (by decide +kernel)) <|
  ok_c (sn_goto (show decode cX3_canRead 87 = .ok (.goto (-74), 3) by decide +kernel) (by decide)) <|
  ok_c (sn_iconst (v := 1) (show decode cX3_canRead 90 = .ok (.iconst 1, 1) by decide +kernel) (by decide +kernel)) <|
  ok_n
def uX3_canRead : gCT := [(33, YX3_isBelow, 2, none), (51, YX3_isBelow, 2, none), (66, YX3_isBelow, 2, none)]
set_option maxRecDepth 100000 in
theorem ocX3_canRead : gOkC YX3_canRead uX3_canRead := oc_c (gEdge_S cal_X3_isBelow (show decode cX3_canRead 33 = .ok (.invokestatic 30, 3) by decide +kernel) wd_4_233 wd_4_234) <|
  oc_c (gEdge_S cal_X3_isBelow (show decode cX3_canRead 51 = .ok (.invokestatic 30, 3) by decide +kernel) wd_4_233 wd_4_234) <|
  oc_c (gEdge_S cal_X3_isBelow (show decode cX3_canRead 66 = .ok (.invokestatic 30, 3) by decide +kernel) wd_4_233 wd_4_234) <|
  oc_n
theorem reX3_canRead : ∀ pc ∈ [10, 83, 91], decode cX3_canRead pc = .ok (.ireturn, 1) := by decide +kernel
def tX3_isBelow : List (Nat × gStp) := [(0, i_lload 0 1), (1, i_push (.long 0) 2), (2, i_lcmp 3), (3, i_if_lt 17 6), (6, i_lload 0 7), (7, i_iload 2 8), (8, i_i2l 9), (9, i_lcmp 10), (10, i_if_ge 17 13), (13, i_push (.int 1) 14), (14, i_goto 18), (17, i_push (.int 0) 18)]
set_option maxRecDepth 100000 in
theorem okX3_isBelow : gOk YX3_isBelow tX3_isBelow := ok_c (sn_lload_n (show decode cX3_isBelow 0 = .ok (.lload_n 0, 1) by decide +kernel) rfl) <|
  ok_c (sn_lconst (v := 0) (show decode cX3_isBelow 1 = .ok (.lconst 0, 1) by decide +kernel) (by decide +kernel)) <|
  ok_c (sn_lcmp (show decode cX3_isBelow 2 = .ok (.lcmp, 1) by decide +kernel)) <|
  ok_c (sn_if_lt (show decode cX3_isBelow 3 = .ok (.ifCond .lt 14, 3) by decide +kernel) (by decide)) <|
  ok_c (sn_lload_n (show decode cX3_isBelow 6 = .ok (.lload_n 0, 1) by decide +kernel) rfl) <|
  ok_c (sn_iload_n (show decode cX3_isBelow 7 = .ok (.iload_n 2, 1) by decide +kernel) rfl) <|
  ok_c (sn_i2l (show decode cX3_isBelow 8 = .ok (.i2l, 1) by decide +kernel)) <|
  ok_c (sn_lcmp (show decode cX3_isBelow 9 = .ok (.lcmp, 1) by decide +kernel)) <|
  ok_c (sn_if_ge (show decode cX3_isBelow 10 = .ok (.ifCond .ge 7, 3) by decide +kernel) (by decide)) <|
  ok_c (sn_iconst (v := 1) (show decode cX3_isBelow 13 = .ok (.iconst 1, 1) by decide +kernel) (by decide +kernel)) <|
  ok_c (sn_goto (show decode cX3_isBelow 14 = .ok (.goto 4, 3) by decide +kernel) (by decide)) <|
  ok_c (sn_iconst (v := 0) (show decode cX3_isBelow 17 = .ok (.iconst 0, 1) by decide +kernel) (by decide +kernel)) <|
  ok_n
theorem reX3_isBelow : ∀ pc ∈ [18], decode cX3_isBelow pc = .ok (.ireturn, 1) := by decide +kernel
def tX3_agrees : List (Nat × gStp) := [(0, i_push (.int 0) 1), (1, i_istore 4 3), (3, i_iload 4 5), (5, i_push (.int 2) 6), (6, i_ii (fun x y => x + y) 7), (7, i_aload 2 8), (8, i_getI 4 2 11), (11, i_ic_ge 104 14), (14, i_aload 2 15), (15, i_getO 4 1 18), (18, i_iload 4 20), (20, i_lald 21), (21, i_l2i 22), (22, i_istore 5 24), (24, i_aload 2 25), (25, i_getO 4 1 28), (28, i_iload 4 30), (30, i_push (.int 1) 31), (31, i_ii (fun x y => x + y) 32), (32, i_lald 33), (33, i_l2i 34), (34, i_istore 6 36), (36, i_aload 0 37), (37, i_iload 5 39), (42, i_if_eq 54 45), (45, i_aload 0 46), (46, i_iload 6 48), (51, i_if_ne 56 54), (54, i_push (.int 0) 55), (56, i_aload 1 57), (57, i_aload 0 58), (58, i_push (.int 0) 59), (59, i_iload 5 61), (61, i_iload 3 62), (65, i_iload 6 67), (70, i_istore 7 72), (72, i_iload 7 74), (74, i_aload 2 75), (75, i_getO 4 1 78), (78, i_iload 4 80), (80, i_push (.int 2) 81), (81, i_ii (fun x y => x + y) 82), (82, i_lald 83), (83, i_push (.long 1) 84), (84, i_lcmp 85), (85, i_if_ne 92 88), (88, i_push (.int 1) 89), (89, i_goto 93), (92, i_push (.int 0) 93), (93, i_ic_eq 98 96), (96, i_push (.int 0) 97), (98, i_iinc 4 3 101), (101, i_goto 3), (104, i_push (.int 1) 105)]
set_option maxRecDepth 100000 in
theorem okX3_agrees : gOk YX3_agrees tX3_agrees := ok_c (sn_iconst (v := 0) (show decode cX3_agrees 0 = .ok (.iconst 0, 1) by decide +kernel) (by decide +kernel)) <|
  ok_c (sn_istore (show decode cX3_agrees 1 = .ok (.istore 4, 2) by decide +kernel) (by decide)) <|
  ok_c (sn_iload (show decode cX3_agrees 3 = .ok (.iload 4, 2) by decide +kernel)) <|
  ok_c (sn_iconst (v := 2) (show decode cX3_agrees 5 = .ok (.iconst 2, 1) by decide +kernel) (by decide +kernel)) <|
  ok_c (sn_iadd (show decode cX3_agrees 6 = .ok (.iadd, 1) by decide +kernel)) <|
  ok_c (sn_aload_n (show decode cX3_agrees 7 = .ok (.aload_n 2, 1) by decide +kernel) rfl) <|
  ok_c (sn_getI (fun _ _ => rfl) (sn_get ck_4 (by decide) (show decode cX3_agrees 8 = .ok (.getfield 15, 3) by decide +kernel) wd_2_0)) <|
  ok_c (sn_ic_ge (show decode cX3_agrees 11 = .ok (.if_icmp .ge 93, 3) by decide +kernel) (by decide)) <|
  ok_c (sn_aload_n (show decode cX3_agrees 14 = .ok (.aload_n 2, 1) by decide +kernel) rfl) <|
  ok_c (sn_getO (j := 0) (fun _ _ => rfl) (sn_get ck_4 (by decide) (show decode cX3_agrees 15 = .ok (.getfield 21, 3) by decide +kernel) wd_1_236)) <|
  ok_c (sn_iload (show decode cX3_agrees 18 = .ok (.iload 4, 2) by decide +kernel)) <|
  ok_c (sn_lald (show decode cX3_agrees 20 = .ok (.laload, 1) by decide +kernel)) <|
  ok_c (sn_l2i (show decode cX3_agrees 21 = .ok (.l2i, 1) by decide +kernel)) <|
  ok_c (sn_istore (show decode cX3_agrees 22 = .ok (.istore 5, 2) by decide +kernel) (by decide)) <|
  ok_c (sn_aload_n (show decode cX3_agrees 24 = .ok (.aload_n 2, 1) by decide +kernel) rfl) <|
  ok_c (sn_getO (j := 0) (fun _ _ => rfl) (sn_get ck_4 (by decide) (show decode cX3_agrees 25 = .ok (.getfield 21, 3) by decide +kernel) wd_1_236)) <|
  ok_c (sn_iload (show decode cX3_agrees 28 = .ok (.iload 4, 2) by decide +kernel)) <|
  ok_c (sn_iconst (v := 1) (show decode cX3_agrees 30 = .ok (.iconst 1, 1) by decide +kernel) (by decide +kernel)) <|
  ok_c (sn_iadd (show decode cX3_agrees 31 = .ok (.iadd, 1) by decide +kernel)) <|
  ok_c (sn_lald (show decode cX3_agrees 32 = .ok (.laload, 1) by decide +kernel)) <|
  ok_c (sn_l2i (show decode cX3_agrees 33 = .ok (.l2i, 1) by decide +kernel)) <|
  ok_c (sn_istore (show decode cX3_agrees 34 = .ok (.istore 6, 2) by decide +kernel) (by decide)) <|
  ok_c (sn_aload_n (show decode cX3_agrees 36 = .ok (.aload_n 0, 1) by decide +kernel) rfl) <|
  ok_c (sn_iload (show decode cX3_agrees 37 = .ok (.iload 5, 2) by decide +kernel)) <|
  ok_c (sn_if_eq (show decode cX3_agrees 42 = .ok (.ifCond .eq 12, 3) by decide +kernel) (by decide)) <|
  ok_c (sn_aload_n (show decode cX3_agrees 45 = .ok (.aload_n 0, 1) by decide +kernel) rfl) <|
  ok_c (sn_iload (show decode cX3_agrees 46 = .ok (.iload 6, 2) by decide +kernel)) <|
  ok_c (sn_if_ne (show decode cX3_agrees 51 = .ok (.ifCond .ne 5, 3) by decide +kernel) (by decide)) <|
  ok_c (sn_iconst (v := 0) (show decode cX3_agrees 54 = .ok (.iconst 0, 1) by decide +kernel) (by decide +kernel)) <|
  ok_c (sn_aload_n (show decode cX3_agrees 56 = .ok (.aload_n 1, 1) by decide +kernel) rfl) <|
  ok_c (sn_aload_n (show decode cX3_agrees 57 = .ok (.aload_n 0, 1) by decide +kernel) rfl) <|
  ok_c (sn_iconst (v := 0) (show decode cX3_agrees 58 = .ok (.iconst 0, 1) by decide +kernel) (by decide +kernel)) <|
  ok_c (sn_iload (show decode cX3_agrees 59 = .ok (.iload 5, 2) by decide +kernel)) <|
  ok_c (sn_iload_n (show decode cX3_agrees 61 = .ok (.iload_n 3, 1) by decide +kernel) rfl) <|
  ok_c (sn_iload (show decode cX3_agrees 65 = .ok (.iload 6, 2) by decide +kernel)) <|
  ok_c (sn_istore (show decode cX3_agrees 70 = .ok (.istore 7, 2) by decide +kernel) (by decide)) <|
  ok_c (sn_iload (show decode cX3_agrees 72 = .ok (.iload 7, 2) by decide +kernel)) <|
  ok_c (sn_aload_n (show decode cX3_agrees 74 = .ok (.aload_n 2, 1) by decide +kernel) rfl) <|
  ok_c (sn_getO (j := 0) (fun _ _ => rfl) (sn_get ck_4 (by decide) (show decode cX3_agrees 75 = .ok (.getfield 21, 3) by decide +kernel) wd_1_236)) <|
  ok_c (sn_iload (show decode cX3_agrees 78 = .ok (.iload 4, 2) by decide +kernel)) <|
  ok_c (sn_iconst (v := 2) (show decode cX3_agrees 80 = .ok (.iconst 2, 1) by decide +kernel) (by decide +kernel)) <|
  ok_c (sn_iadd (show decode cX3_agrees 81 = .ok (.iadd, 1) by decide +kernel)) <|
  ok_c (sn_lald (show decode cX3_agrees 82 = .ok (.laload, 1) by decide +kernel)) <|
  ok_c (sn_lconst (v := 1) (show decode cX3_agrees 83 = .ok (.lconst 1, 1) by decide +kernel) (by decide +kernel)) <|
  ok_c (sn_lcmp (show decode cX3_agrees 84 = .ok (.lcmp, 1) by decide +kernel)) <|
  ok_c (sn_if_ne (show decode cX3_agrees 85 = .ok (.ifCond .ne 7, 3) by decide +kernel) (by decide)) <|
  ok_c (sn_iconst (v := 1) (show decode cX3_agrees 88 = .ok (.iconst 1, 1) by decide +kernel) (by decide +kernel)) <|
  ok_c (sn_goto (show decode cX3_agrees 89 = .ok (.goto 4, 3) by decide +kernel) (by decide)) <|
  ok_c (sn_iconst (v := 0) (show decode cX3_agrees 92 = .ok (.iconst 0, 1) by decide +kernel) (by decide +kernel)) <|
  ok_c (sn_ic_eq (show decode cX3_agrees 93 = .ok (.if_icmp .eq 5, 3) by decide +kernel) (by decide)) <|
  ok_c (sn_iconst (v := 0) (show decode cX3_agrees 96 = .ok (.iconst 0, 1) by decide +kernel) (by decide +kernel)) <|
  ok_c (sn_iinc (show decode cX3_agrees 98 = .ok (.iinc 4 3, 3) by decide +kernel) (by decide) (by decide +kernel)) <|
  ok_c (sn_goto (show decode cX3_agrees 101 = .ok (.goto (-98), 3) by decide +kernel) (by decide)) <|
  ok_c (sn_iconst (v := 1) (show decode cX3_agrees 104 = .ok (.iconst 1, 1) by decide +kernel) (by decide +kernel)) <|
  ok_n
def uX3_agrees : gCT := [(39, YX7_hasPartner, 2, some 7), (48, YX7_hasDoor, 2, some 7), (62, YX2_doorsOf, 5, some 2), (67, YX8_has, 2, none)]
set_option maxRecDepth 100000 in
theorem ocX3_agrees : gOkC YX3_agrees uX3_agrees := oc_c (gEdge_V cal_X7_hasPartner ck_7 rfl (show decode cX3_agrees 39 = .ok (.invokevirtual 37, 3) by decide +kernel) wd_5_6 wd_3_75 wd_3_76) <|
  oc_c (gEdge_V cal_X7_hasDoor ck_7 rfl (show decode cX3_agrees 48 = .ok (.invokevirtual 41, 3) by decide +kernel) wd_5_7 wd_3_91 wd_3_92) <|
  oc_c (gEdge_V cal_X2_doorsOf ck_2 rfl (show decode cX3_agrees 62 = .ok (.invokevirtual 44, 3) by decide +kernel) wd_5_8 wd_3_239 wd_4_0) <|
  oc_c (gEdge_SN cal_X8_has (show decode cX3_agrees 67 = .ok (.invokestatic 50, 3) by decide +kernel) wd_5_9 wd_3_119) <|
  oc_n
theorem reX3_agrees : ∀ pc ∈ [55, 97, 105], decode cX3_agrees pc = .ok (.ireturn, 1) := by decide +kernel
def tX3_countSets : List (Nat × gStp) := [(0, i_aload 1 1), (1, i_getI 7 6 4), (7, i_istore 4 9), (9, i_aload 0 10), (10, i_push (.int 0) 11), (11, i_putI 3 0 14), (14, i_aload 0 15), (15, i_iload 4 17), (17, i_putI 3 1 20), (20, i_aload 0 21), (21, i_push (.int 0) 22), (22, i_putI 3 2 25), (25, i_push (.int 0) 26), (26, i_istore 5 28), (28, i_iload 5 30), (30, i_aload 0 31), (31, i_getC 3 65 34), (34, i_alen 35), (35, i_ic_ge 52 38), (38, i_aload 0 39), (39, i_getC 3 65 42), (42, i_iload 5 44), (44, i_push (.int 0) 45), (45, i_iast 46), (46, i_iinc 5 1 49), (49, i_goto 28), (52, i_push (.int 0) 53), (53, i_istore 5 55), (55, i_iload 5 57), (57, i_iload 4 59), (59, i_ic_gt 145 62), (62, i_aload 2 63), (66, i_aload 2 67), (67, i_push (.int 1) 68), (68, i_putZ 2 1 71), (71, i_aload 2 72), (72, i_iload 4 74), (74, i_iload 5 76), (76, i_push (.int (-1)) 77), (77, i_ii (fun x y => x ^^^ y) 78), (78, i_ii (fun x y => x &&& y) 79), (79, i_putI 2 0 82), (82, i_aload 2 83), (83, i_aload 1 84), (84, i_push (.int 1) 85), (88, i_aload 1 89), (89, i_aload 2 90), (90, i_aload 3 91), (91, i_aload 1 92), (92, i_getI 7 2 95), (98, i_if_eq 139 101), (101, i_aload 0 102), (102, i_dup 103), (103, i_getI 3 0 106), (106, i_push (.int 1) 107), (107, i_ii (fun x y => x + y) 108), (108, i_putI 3 0 111), (111, i_aload 0 112), (112, i_dup 113), (113, i_getI 3 1 116), (116, i_iload 5 118), (118, i_ii (fun x y => x &&& y) 119), (119, i_putI 3 1 122), (122, i_aload 0 123), (123, i_dup 124), (124, i_getI 3 2 127), (127, i_iload 5 129), (129, i_ii (fun x y => x ||| y) 130), (130, i_putI 3 2 133), (133, i_aload 0 134), (134, i_aload 1 135), (135, i_aload 2 136), (139, i_iinc 5 1 142), (142, i_goto 55)]
set_option maxRecDepth 100000 in
theorem okX3_countSets : gOk YX3_countSets tX3_countSets := ok_c (sn_aload_n (show decode cX3_countSets 0 = .ok (.aload_n 1, 1) by decide +kernel) rfl) <|
  ok_c (sn_getI (fun _ _ => rfl) (sn_get ck_7 (by decide) (show decode cX3_countSets 1 = .ok (.getfield 54, 3) by decide +kernel) wd_1_111)) <|
  ok_c (sn_istore (show decode cX3_countSets 7 = .ok (.istore 4, 2) by decide +kernel) (by decide)) <|
  ok_c (sn_aload_n (show decode cX3_countSets 9 = .ok (.aload_n 0, 1) by decide +kernel) rfl) <|
  ok_c (sn_iconst (v := 0) (show decode cX3_countSets 10 = .ok (.iconst 0, 1) by decide +kernel) (by decide +kernel)) <|
  ok_c (sn_putI ck_3 (by decide) rfl rfl (show decode cX3_countSets 11 = .ok (.putfield 61, 3) by decide +kernel) wd_2_108) <|
  ok_c (sn_aload_n (show decode cX3_countSets 14 = .ok (.aload_n 0, 1) by decide +kernel) rfl) <|
  ok_c (sn_iload (show decode cX3_countSets 15 = .ok (.iload 4, 2) by decide +kernel)) <|
  ok_c (sn_putI ck_3 (by decide) rfl rfl (show decode cX3_countSets 17 = .ok (.putfield 64, 3) by decide +kernel) wd_2_110) <|
  ok_c (sn_aload_n (show decode cX3_countSets 20 = .ok (.aload_n 0, 1) by decide +kernel) rfl) <|
  ok_c (sn_iconst (v := 0) (show decode cX3_countSets 21 = .ok (.iconst 0, 1) by decide +kernel) (by decide +kernel)) <|
  ok_c (sn_putI ck_3 (by decide) rfl rfl (show decode cX3_countSets 22 = .ok (.putfield 67, 3) by decide +kernel) wd_2_112) <|
  ok_c (sn_iconst (v := 0) (show decode cX3_countSets 25 = .ok (.iconst 0, 1) by decide +kernel) (by decide +kernel)) <|
  ok_c (sn_istore (show decode cX3_countSets 26 = .ok (.istore 5, 2) by decide +kernel) (by decide)) <|
  ok_c (sn_iload (show decode cX3_countSets 28 = .ok (.iload 5, 2) by decide +kernel)) <|
  ok_c (sn_aload_n (show decode cX3_countSets 30 = .ok (.aload_n 0, 1) by decide +kernel) rfl) <|
  ok_c (sn_getC (j := 3) (fun _ _ => rfl) (sn_get ck_3 (by decide) (show decode cX3_countSets 31 = .ok (.getfield 9, 3) by decide +kernel) wd_2_114)) <|
  ok_c (sn_alen (show decode cX3_countSets 34 = .ok (.arraylength, 1) by decide +kernel)) <|
  ok_c (sn_ic_ge (show decode cX3_countSets 35 = .ok (.if_icmp .ge 17, 3) by decide +kernel) (by decide)) <|
  ok_c (sn_aload_n (show decode cX3_countSets 38 = .ok (.aload_n 0, 1) by decide +kernel) rfl) <|
  ok_c (sn_getC (j := 3) (fun _ _ => rfl) (sn_get ck_3 (by decide) (show decode cX3_countSets 39 = .ok (.getfield 9, 3) by decide +kernel) wd_2_114)) <|
  ok_c (sn_iload (show decode cX3_countSets 42 = .ok (.iload 5, 2) by decide +kernel)) <|
  ok_c (sn_iconst (v := 0) (show decode cX3_countSets 44 = .ok (.iconst 0, 1) by decide +kernel) (by decide +kernel)) <|
  ok_c (sn_iast (show decode cX3_countSets 45 = .ok (.iastore, 1) by decide +kernel)) <|
  ok_c (sn_iinc (show decode cX3_countSets 46 = .ok (.iinc 5 1, 3) by decide +kernel) (by decide) (by decide +kernel)) <|
  ok_c (sn_goto (show decode cX3_countSets 49 = .ok (.goto (-21), 3) by decide +kernel) (by decide)) <|
  ok_c (sn_iconst (v := 0) (show decode cX3_countSets 52 = .ok (.iconst 0, 1) by decide +kernel) (by decide +kernel)) <|
  ok_c (sn_istore (show decode cX3_countSets 53 = .ok (.istore 5, 2) by decide +kernel) (by decide)) <|
  ok_c (sn_iload (show decode cX3_countSets 55 = .ok (.iload 5, 2) by decide +kernel)) <|
  ok_c (sn_iload (show decode cX3_countSets 57 = .ok (.iload 4, 2) by decide +kernel)) <|
  ok_c (sn_ic_gt (show decode cX3_countSets 59 = .ok (.if_icmp .gt 86, 3) by decide +kernel) (by decide)) <|
  ok_c (sn_aload_n (show decode cX3_countSets 62 = .ok (.aload_n 2, 1) by decide +kernel) rfl) <|
  ok_c (sn_aload_n (show decode cX3_countSets 66 = .ok (.aload_n 2, 1) by decide +kernel) rfl) <|
  ok_c (sn_iconst (v := 1) (show decode cX3_countSets 67 = .ok (.iconst 1, 1) by decide +kernel) (by decide +kernel)) <|
  ok_c (sn_putZ ck_2 (by decide) rfl rfl (show decode cX3_countSets 68 = .ok (.putfield 73, 3) by decide +kernel) wd_2_26) <|
  ok_c (sn_aload_n (show decode cX3_countSets 71 = .ok (.aload_n 2, 1) by decide +kernel) rfl) <|
  ok_c (sn_iload (show decode cX3_countSets 72 = .ok (.iload 4, 2) by decide +kernel)) <|
  ok_c (sn_iload (show decode cX3_countSets 74 = .ok (.iload 5, 2) by decide +kernel)) <|
  ok_c (sn_iconst (v := (-1)) (show decode cX3_countSets 76 = .ok (.iconst (-1), 1) by decide +kernel) (by decide +kernel)) <|
  ok_c (sn_ixor (show decode cX3_countSets 77 = .ok (.ixor, 1) by decide +kernel)) <|
  ok_c (sn_iand (show decode cX3_countSets 78 = .ok (.iand, 1) by decide +kernel)) <|
  ok_c (sn_putI ck_2 (by decide) rfl rfl (show decode cX3_countSets 79 = .ok (.putfield 77, 3) by decide +kernel) wd_2_23) <|
  ok_c (sn_aload_n (show decode cX3_countSets 82 = .ok (.aload_n 2, 1) by decide +kernel) rfl) <|
  ok_c (sn_aload_n (show decode cX3_countSets 83 = .ok (.aload_n 1, 1) by decide +kernel) rfl) <|
  ok_c (sn_iconst (v := 1) (show decode cX3_countSets 84 = .ok (.iconst 1, 1) by decide +kernel) (by decide +kernel)) <|
  ok_c (sn_aload_n (show decode cX3_countSets 88 = .ok (.aload_n 1, 1) by decide +kernel) rfl) <|
  ok_c (sn_aload_n (show decode cX3_countSets 89 = .ok (.aload_n 2, 1) by decide +kernel) rfl) <|
  ok_c (sn_aload_n (show decode cX3_countSets 90 = .ok (.aload_n 3, 1) by decide +kernel) rfl) <|
  ok_c (sn_aload_n (show decode cX3_countSets 91 = .ok (.aload_n 1, 1) by decide +kernel) rfl) <|
  ok_c (sn_getI (fun _ _ => rfl) (sn_get ck_7 (by decide) (show decode cX3_countSets 92 = .ok (.getfield 84, 3) by decide +kernel) wd_1_94)) <|
  ok_c (sn_if_eq (show decode cX3_countSets 98 = .ok (.ifCond .eq 41, 3) by decide +kernel) (by decide)) <|
  ok_c (sn_aload_n (show decode cX3_countSets 101 = .ok (.aload_n 0, 1) by decide +kernel) rfl) <|
  ok_c (sn_dup (show decode cX3_countSets 102 = .ok (.dup, 1) by decide +kernel)) <|
  ok_c (sn_getI (fun _ _ => rfl) (sn_get ck_3 (by decide) (show decode cX3_countSets 103 = .ok (.getfield 61, 3) by decide +kernel) wd_2_108)) <|
  ok_c (sn_iconst (v := 1) (show decode cX3_countSets 106 = .ok (.iconst 1, 1) by decide +kernel) (by decide +kernel)) <|
  ok_c (sn_iadd (show decode cX3_countSets 107 = .ok (.iadd, 1) by decide +kernel)) <|
  ok_c (sn_putI ck_3 (by decide) rfl rfl (show decode cX3_countSets 108 = .ok (.putfield 61, 3) by decide +kernel) wd_2_108) <|
  ok_c (sn_aload_n (show decode cX3_countSets 111 = .ok (.aload_n 0, 1) by decide +kernel) rfl) <|
  ok_c (sn_dup (show decode cX3_countSets 112 = .ok (.dup, 1) by decide +kernel)) <|
  ok_c (sn_getI (fun _ _ => rfl) (sn_get ck_3 (by decide) (show decode cX3_countSets 113 = .ok (.getfield 64, 3) by decide +kernel) wd_2_110)) <|
  ok_c (sn_iload (show decode cX3_countSets 116 = .ok (.iload 5, 2) by decide +kernel)) <|
  ok_c (sn_iand (show decode cX3_countSets 118 = .ok (.iand, 1) by decide +kernel)) <|
  ok_c (sn_putI ck_3 (by decide) rfl rfl (show decode cX3_countSets 119 = .ok (.putfield 64, 3) by decide +kernel) wd_2_110) <|
  ok_c (sn_aload_n (show decode cX3_countSets 122 = .ok (.aload_n 0, 1) by decide +kernel) rfl) <|
  ok_c (sn_dup (show decode cX3_countSets 123 = .ok (.dup, 1) by decide +kernel)) <|
  ok_c (sn_getI (fun _ _ => rfl) (sn_get ck_3 (by decide) (show decode cX3_countSets 124 = .ok (.getfield 67, 3) by decide +kernel) wd_2_112)) <|
  ok_c (sn_iload (show decode cX3_countSets 127 = .ok (.iload 5, 2) by decide +kernel)) <|
  ok_c (sn_ior (show decode cX3_countSets 129 = .ok (.ior, 1) by decide +kernel)) <|
  ok_c (sn_putI ck_3 (by decide) rfl rfl (show decode cX3_countSets 130 = .ok (.putfield 67, 3) by decide +kernel) wd_2_112) <|
  ok_c (sn_aload_n (show decode cX3_countSets 133 = .ok (.aload_n 0, 1) by decide +kernel) rfl) <|
  ok_c (sn_aload_n (show decode cX3_countSets 134 = .ok (.aload_n 1, 1) by decide +kernel) rfl) <|
  ok_c (sn_aload_n (show decode cX3_countSets 135 = .ok (.aload_n 2, 1) by decide +kernel) rfl) <|
  ok_c (sn_iinc (show decode cX3_countSets 139 = .ok (.iinc 5 1, 3) by decide +kernel) (by decide) (by decide +kernel)) <|
  ok_c (sn_goto (show decode cX3_countSets 142 = .ok (.goto (-87), 3) by decide +kernel) (by decide)) <|
  ok_n
def uX3_countSets : gCT := [(4, YX8_allOf, 1, none), (63, YX2_supposeNothing, 1, some 2), (85, YX2_live, 3, some 2), (95, YX3_agrees, 4, none), (136, YX3_countThroughs, 3, some 3)]
set_option maxRecDepth 100000 in
theorem ocX3_countSets : gOkC YX3_countSets uX3_countSets := oc_c (gEdge_SN cal_X8_allOf (show decode cX3_countSets 4 = .ok (.invokestatic 57, 3) by decide +kernel) wd_5_0 wd_3_169) <|
  oc_c (gEdge_V cal_X2_supposeNothing ck_2 rfl (show decode cX3_countSets 63 = .ok (.invokevirtual 70, 3) by decide +kernel) wd_5_1 wd_3_107 wd_3_108) <|
  oc_c (gEdge_V cal_X2_live ck_2 rfl (show decode cX3_countSets 85 = .ok (.invokevirtual 80, 3) by decide +kernel) wd_5_2 wd_3_111 wd_3_112) <|
  oc_c (gEdge_S cal_X3_agrees (show decode cX3_countSets 95 = .ok (.invokestatic 87, 3) by decide +kernel) wd_5_3 wd_5_4) <|
  oc_c (gEdge_V cal_X3_countThroughs ck_3 rfl (show decode cX3_countSets 136 = .ok (.invokevirtual 91, 3) by decide +kernel) wd_5_10 wd_5_12 wp_3_3) <|
  oc_n
theorem reX3_countSets : ∀ pc ∈ [145], decode cX3_countSets pc = .ok (.return_, 1) := by decide +kernel
def tX3_countThroughs : List (Nat × gStp) := [(0, i_push (.int 0) 1), (1, i_istore 3 2), (2, i_iload 3 3), (3, i_aload 1 4), (4, i_getI 7 5 7), (7, i_ic_ge 72 10), (10, i_aload 2 11), (11, i_aload 1 12), (12, i_push (.int 0) 13), (13, i_iload 3 14), (14, i_aload 1 15), (15, i_getI 7 2 18), (21, i_istore 4 23), (23, i_push (.int 0) 24), (24, i_istore 5 26), (26, i_iload 5 28), (28, i_aload 1 29), (29, i_getI 7 7 32), (32, i_ic_ge 66 35), (35, i_iload 4 37), (37, i_iload 5 39), (42, i_if_eq 60 45), (45, i_aload 0 46), (46, i_getC 3 65 49), (49, i_iload 3 50), (50, i_push (.int 5) 51), (51, i_ii (fun x y => x * y) 52), (52, i_iload 5 54), (54, i_ii (fun x y => x + y) 55), (55, i_dup2 56), (56, i_iald 57), (57, i_push (.int 1) 58), (58, i_ii (fun x y => x + y) 59), (59, i_iast 60), (60, i_iinc 5 1 63), (63, i_goto 26), (66, i_iinc 3 1 69), (69, i_goto 2)]
set_option maxRecDepth 100000 in
theorem okX3_countThroughs : gOk YX3_countThroughs tX3_countThroughs := ok_c (sn_iconst (v := 0) (show decode cX3_countThroughs 0 = .ok (.iconst 0, 1) by decide +kernel) (by decide +kernel)) <|
  ok_c (sn_istore_n (show decode cX3_countThroughs 1 = .ok (.istore_n 3, 1) by decide +kernel) rfl (by decide)) <|
  ok_c (sn_iload_n (show decode cX3_countThroughs 2 = .ok (.iload_n 3, 1) by decide +kernel) rfl) <|
  ok_c (sn_aload_n (show decode cX3_countThroughs 3 = .ok (.aload_n 1, 1) by decide +kernel) rfl) <|
  ok_c (sn_getI (fun _ _ => rfl) (sn_get ck_7 (by decide) (show decode cX3_countThroughs 4 = .ok (.getfield 25, 3) by decide +kernel) wd_1_104)) <|
  ok_c (sn_ic_ge (show decode cX3_countThroughs 7 = .ok (.if_icmp .ge 65, 3) by decide +kernel) (by decide)) <|
  ok_c (sn_aload_n (show decode cX3_countThroughs 10 = .ok (.aload_n 2, 1) by decide +kernel) rfl) <|
  ok_c (sn_aload_n (show decode cX3_countThroughs 11 = .ok (.aload_n 1, 1) by decide +kernel) rfl) <|
  ok_c (sn_iconst (v := 0) (show decode cX3_countThroughs 12 = .ok (.iconst 0, 1) by decide +kernel) (by decide +kernel)) <|
  ok_c (sn_iload_n (show decode cX3_countThroughs 13 = .ok (.iload_n 3, 1) by decide +kernel) rfl) <|
  ok_c (sn_aload_n (show decode cX3_countThroughs 14 = .ok (.aload_n 1, 1) by decide +kernel) rfl) <|
  ok_c (sn_getI (fun _ _ => rfl) (sn_get ck_7 (by decide) (show decode cX3_countThroughs 15 = .ok (.getfield 84, 3) by decide +kernel) wd_1_94)) <|
  ok_c (sn_istore (show decode cX3_countThroughs 21 = .ok (.istore 4, 2) by decide +kernel) (by decide)) <|
  ok_c (sn_iconst (v := 0) (show decode cX3_countThroughs 23 = .ok (.iconst 0, 1) by decide +kernel) (by decide +kernel)) <|
  ok_c (sn_istore (show decode cX3_countThroughs 24 = .ok (.istore 5, 2) by decide +kernel) (by decide)) <|
  ok_c (sn_iload (show decode cX3_countThroughs 26 = .ok (.iload 5, 2) by decide +kernel)) <|
  ok_c (sn_aload_n (show decode cX3_countThroughs 28 = .ok (.aload_n 1, 1) by decide +kernel) rfl) <|
  ok_c (sn_getI (fun _ _ => rfl) (sn_get ck_7 (by decide) (show decode cX3_countThroughs 29 = .ok (.getfield 34, 3) by decide +kernel) wd_1_115)) <|
  ok_c (sn_ic_ge (show decode cX3_countThroughs 32 = .ok (.if_icmp .ge 34, 3) by decide +kernel) (by decide)) <|
  ok_c (sn_iload (show decode cX3_countThroughs 35 = .ok (.iload 4, 2) by decide +kernel)) <|
  ok_c (sn_iload (show decode cX3_countThroughs 37 = .ok (.iload 5, 2) by decide +kernel)) <|
  ok_c (sn_if_eq (show decode cX3_countThroughs 42 = .ok (.ifCond .eq 18, 3) by decide +kernel) (by decide)) <|
  ok_c (sn_aload_n (show decode cX3_countThroughs 45 = .ok (.aload_n 0, 1) by decide +kernel) rfl) <|
  ok_c (sn_getC (j := 3) (fun _ _ => rfl) (sn_get ck_3 (by decide) (show decode cX3_countThroughs 46 = .ok (.getfield 9, 3) by decide +kernel) wd_2_114)) <|
  ok_c (sn_iload_n (show decode cX3_countThroughs 49 = .ok (.iload_n 3, 1) by decide +kernel) rfl) <|
  ok_c (sn_iconst (v := 5) (show decode cX3_countThroughs 50 = .ok (.iconst 5, 1) by decide +kernel) (by decide +kernel)) <|
  ok_c (sn_imul (show decode cX3_countThroughs 51 = .ok (.imul, 1) by decide +kernel)) <|
  ok_c (sn_iload (show decode cX3_countThroughs 52 = .ok (.iload 5, 2) by decide +kernel)) <|
  ok_c (sn_iadd (show decode cX3_countThroughs 54 = .ok (.iadd, 1) by decide +kernel)) <|
  ok_c (sn_dup2 (show decode cX3_countThroughs 55 = .ok (.dup2, 1) by decide +kernel)) <|
  ok_c (sn_iald (show decode cX3_countThroughs 56 = .ok (.iaload, 1) by decide +kernel)) <|
  ok_c (sn_iconst (v := 1) (show decode cX3_countThroughs 57 = .ok (.iconst 1, 1) by decide +kernel) (by decide +kernel)) <|
  ok_c (sn_iadd (show decode cX3_countThroughs 58 = .ok (.iadd, 1) by decide +kernel)) <|
  ok_c (sn_iast (show decode cX3_countThroughs 59 = .ok (.iastore, 1) by decide +kernel)) <|
  ok_c (sn_iinc (show decode cX3_countThroughs 60 = .ok (.iinc 5 1, 3) by decide +kernel) (by decide) (by decide +kernel)) <|
  ok_c (sn_goto (show decode cX3_countThroughs 63 = .ok (.goto (-37), 3) by decide +kernel) (by decide)) <|
  ok_c (sn_iinc (show decode cX3_countThroughs 66 = .ok (.iinc 3 1, 3) by decide +kernel) (by decide) (by decide +kernel)) <|
  ok_c (sn_goto (show decode cX3_countThroughs 69 = .ok (.goto (-67), 3) by decide +kernel) (by decide)) <|
  ok_n
def uX3_countThroughs : gCT := [(18, YX2_doorsOf, 5, some 2), (39, YX8_has, 2, none)]
set_option maxRecDepth 100000 in
theorem ocX3_countThroughs : gOkC YX3_countThroughs uX3_countThroughs := oc_c (gEdge_V cal_X2_doorsOf ck_2 rfl (show decode cX3_countThroughs 18 = .ok (.invokevirtual 44, 3) by decide +kernel) wd_5_8 wd_3_239 wd_4_0) <|
  oc_c (gEdge_SN cal_X8_has (show decode cX3_countThroughs 39 = .ok (.invokestatic 50, 3) by decide +kernel) wd_5_9 wd_3_119) <|
  oc_n
theorem reX3_countThroughs : ∀ pc ∈ [72], decode cX3_countThroughs pc = .ok (.return_, 1) := by decide +kernel
def tX3_bestQuestion : List (Nat × gStp) := [(0, i_push (.int (-1)) 1), (1, i_istore 2 2), (2, i_aload 0 3), (3, i_getI 3 0 6), (6, i_istore 3 7), (7, i_push (.int 0) 8), (8, i_istore 4 10), (10, i_iload 4 12), (12, i_aload 1 13), (13, i_getI 7 5 16), (16, i_ic_ge 73 19), (19, i_push (.int 0) 20), (20, i_istore 5 22), (22, i_iload 5 24), (24, i_aload 1 25), (25, i_getI 7 7 28), (28, i_ic_ge 67 31), (31, i_push (.int 10) 33), (33, i_iload 4 35), (35, i_ii (fun x y => x * y) 36), (36, i_iload 5 38), (38, i_ii (fun x y => x + y) 39), (39, i_istore 6 41), (41, i_aload 0 42), (42, i_iload 6 44), (47, i_istore 7 49), (49, i_iload 7 51), (51, i_iload 3 52), (52, i_ic_ge 61 55), (55, i_iload 6 57), (57, i_istore 2 58), (58, i_iload 7 60), (60, i_istore 3 61), (61, i_iinc 5 1 64), (64, i_goto 22), (67, i_iinc 4 1 70), (70, i_goto 10), (73, i_iload 2 74)]
set_option maxRecDepth 100000 in
theorem okX3_bestQuestion : gOk YX3_bestQuestion tX3_bestQuestion := ok_c (sn_iconst (v := (-1)) (show decode cX3_bestQuestion 0 = .ok (.iconst (-1), 1) by decide +kernel) (by decide +kernel)) <|
  ok_c (sn_istore_n (show decode cX3_bestQuestion 1 = .ok (.istore_n 2, 1) by decide +kernel) rfl (by decide)) <|
  ok_c (sn_aload_n (show decode cX3_bestQuestion 2 = .ok (.aload_n 0, 1) by decide +kernel) rfl) <|
  ok_c (sn_getI (fun _ _ => rfl) (sn_get ck_3 (by decide) (show decode cX3_bestQuestion 3 = .ok (.getfield 61, 3) by decide +kernel) wd_2_108)) <|
  ok_c (sn_istore_n (show decode cX3_bestQuestion 6 = .ok (.istore_n 3, 1) by decide +kernel) rfl (by decide)) <|
  ok_c (sn_iconst (v := 0) (show decode cX3_bestQuestion 7 = .ok (.iconst 0, 1) by decide +kernel) (by decide +kernel)) <|
  ok_c (sn_istore (show decode cX3_bestQuestion 8 = .ok (.istore 4, 2) by decide +kernel) (by decide)) <|
  ok_c (sn_iload (show decode cX3_bestQuestion 10 = .ok (.iload 4, 2) by decide +kernel)) <|
  ok_c (sn_aload_n (show decode cX3_bestQuestion 12 = .ok (.aload_n 1, 1) by decide +kernel) rfl) <|
  ok_c (sn_getI (fun _ _ => rfl) (sn_get ck_7 (by decide) (show decode cX3_bestQuestion 13 = .ok (.getfield 25, 3) by decide +kernel) wd_1_104)) <|
  ok_c (sn_ic_ge (show decode cX3_bestQuestion 16 = .ok (.if_icmp .ge 57, 3) by decide +kernel) (by decide)) <|
  ok_c (sn_iconst (v := 0) (show decode cX3_bestQuestion 19 = .ok (.iconst 0, 1) by decide +kernel) (by decide +kernel)) <|
  ok_c (sn_istore (show decode cX3_bestQuestion 20 = .ok (.istore 5, 2) by decide +kernel) (by decide)) <|
  ok_c (sn_iload (show decode cX3_bestQuestion 22 = .ok (.iload 5, 2) by decide +kernel)) <|
  ok_c (sn_aload_n (show decode cX3_bestQuestion 24 = .ok (.aload_n 1, 1) by decide +kernel) rfl) <|
  ok_c (sn_getI (fun _ _ => rfl) (sn_get ck_7 (by decide) (show decode cX3_bestQuestion 25 = .ok (.getfield 34, 3) by decide +kernel) wd_1_115)) <|
  ok_c (sn_ic_ge (show decode cX3_bestQuestion 28 = .ok (.if_icmp .ge 39, 3) by decide +kernel) (by decide)) <|
  ok_c (sn_bipush (v := 10) (show decode cX3_bestQuestion 31 = .ok (.bipush 10, 2) by decide +kernel) (by decide +kernel)) <|
  ok_c (sn_iload (show decode cX3_bestQuestion 33 = .ok (.iload 4, 2) by decide +kernel)) <|
  ok_c (sn_imul (show decode cX3_bestQuestion 35 = .ok (.imul, 1) by decide +kernel)) <|
  ok_c (sn_iload (show decode cX3_bestQuestion 36 = .ok (.iload 5, 2) by decide +kernel)) <|
  ok_c (sn_iadd (show decode cX3_bestQuestion 38 = .ok (.iadd, 1) by decide +kernel)) <|
  ok_c (sn_istore (show decode cX3_bestQuestion 39 = .ok (.istore 6, 2) by decide +kernel) (by decide)) <|
  ok_c (sn_aload_n (show decode cX3_bestQuestion 41 = .ok (.aload_n 0, 1) by decide +kernel) rfl) <|
  ok_c (sn_iload (show decode cX3_bestQuestion 42 = .ok (.iload 6, 2) by decide +kernel)) <|
  ok_c (sn_istore (show decode cX3_bestQuestion 47 = .ok (.istore 7, 2) by decide +kernel) (by decide)) <|
  ok_c (sn_iload (show decode cX3_bestQuestion 49 = .ok (.iload 7, 2) by decide +kernel)) <|
  ok_c (sn_iload_n (show decode cX3_bestQuestion 51 = .ok (.iload_n 3, 1) by decide +kernel) rfl) <|
  ok_c (sn_ic_ge (show decode cX3_bestQuestion 52 = .ok (.if_icmp .ge 9, 3) by decide +kernel) (by decide)) <|
  ok_c (sn_iload (show decode cX3_bestQuestion 55 = .ok (.iload 6, 2) by decide +kernel)) <|
  ok_c (sn_istore_n (show decode cX3_bestQuestion 57 = .ok (.istore_n 2, 1) by decide +kernel) rfl (by decide)) <|
  ok_c (sn_iload (show decode cX3_bestQuestion 58 = .ok (.iload 7, 2) by decide +kernel)) <|
  ok_c (sn_istore_n (show decode cX3_bestQuestion 60 = .ok (.istore_n 3, 1) by decide +kernel) rfl (by decide)) <|
  ok_c (sn_iinc (show decode cX3_bestQuestion 61 = .ok (.iinc 5 1, 3) by decide +kernel) (by decide) (by decide +kernel)) <|
  ok_c (sn_goto (show decode cX3_bestQuestion 64 = .ok (.goto (-42), 3) by decide +kernel) (by decide)) <|
  ok_c (sn_iinc (show decode cX3_bestQuestion 67 = .ok (.iinc 4 1, 3) by decide +kernel) (by decide) (by decide +kernel)) <|
  ok_c (sn_goto (show decode cX3_bestQuestion 70 = .ok (.goto (-60), 3) by decide +kernel) (by decide)) <|
  ok_c (sn_iload_n (show decode cX3_bestQuestion 73 = .ok (.iload_n 2, 1) by decide +kernel) rfl) <|
  ok_n
def uX3_bestQuestion : gCT := [(44, YX3_leftAtWorst, 2, some 3)]
set_option maxRecDepth 100000 in
theorem ocX3_bestQuestion : gOkC YX3_bestQuestion uX3_bestQuestion := oc_c (gEdge_V cal_X3_leftAtWorst ck_3 rfl (show decode cX3_bestQuestion 44 = .ok (.invokevirtual 95, 3) by decide +kernel) wd_5_30 wd_5_31 wd_5_32) <|
  oc_n
theorem reX3_bestQuestion : ∀ pc ∈ [74], decode cX3_bestQuestion pc = .ok (.ireturn, 1) := by decide +kernel
def tX3_leftAtWorst : List (Nat × gStp) := [(0, i_iload 1 1), (1, i_if_ge 8 4), (4, i_push (.int (-1)) 5), (5, i_goto 19), (8, i_iload 1 9), (9, i_push (.int 10) 11), (11, i_idiv (fun x y => x / y) 12), (12, i_push (.int 5) 13), (13, i_ii (fun x y => x * y) 14), (14, i_iload 1 15), (15, i_push (.int 10) 17), (17, i_idiv (fun x y => x - x / y * y) 18), (18, i_ii (fun x y => x + y) 19), (19, i_istore 2 20), (20, i_iload 2 21), (21, i_if_lt 33 24), (24, i_iload 2 25), (25, i_aload 0 26), (26, i_getC 3 65 29), (29, i_alen 30), (30, i_ic_lt 38 33), (33, i_aload 0 34), (34, i_getI 3 0 37), (38, i_aload 0 39), (39, i_getC 3 65 42), (42, i_iload 2 43), (43, i_iald 44), (44, i_aload 0 45), (45, i_getI 3 0 48), (48, i_aload 0 49), (49, i_getC 3 65 52), (52, i_iload 2 53), (53, i_iald 54), (54, i_ii (fun x y => x - y) 55), (55, i_max 58)]
set_option maxRecDepth 100000 in
theorem okX3_leftAtWorst : gOk YX3_leftAtWorst tX3_leftAtWorst := ok_c (sn_iload_n (show decode cX3_leftAtWorst 0 = .ok (.iload_n 1, 1) by decide +kernel) rfl) <|
  ok_c (sn_if_ge (show decode cX3_leftAtWorst 1 = .ok (.ifCond .ge 7, 3) by decide +kernel) (by decide)) <|
  ok_c (sn_iconst (v := (-1)) (show decode cX3_leftAtWorst 4 = .ok (.iconst (-1), 1) by decide +kernel) (by decide +kernel)) <|
  ok_c (sn_goto (show decode cX3_leftAtWorst 5 = .ok (.goto 14, 3) by decide +kernel) (by decide)) <|
  ok_c (sn_iload_n (show decode cX3_leftAtWorst 8 = .ok (.iload_n 1, 1) by decide +kernel) rfl) <|
  ok_c (sn_bipush (v := 10) (show decode cX3_leftAtWorst 9 = .ok (.bipush 10, 2) by decide +kernel) (by decide +kernel)) <|
  ok_c (sn_idiv (show decode cX3_leftAtWorst 11 = .ok (.idiv, 1) by decide +kernel)) <|
  ok_c (sn_iconst (v := 5) (show decode cX3_leftAtWorst 12 = .ok (.iconst 5, 1) by decide +kernel) (by decide +kernel)) <|
  ok_c (sn_imul (show decode cX3_leftAtWorst 13 = .ok (.imul, 1) by decide +kernel)) <|
  ok_c (sn_iload_n (show decode cX3_leftAtWorst 14 = .ok (.iload_n 1, 1) by decide +kernel) rfl) <|
  ok_c (sn_bipush (v := 10) (show decode cX3_leftAtWorst 15 = .ok (.bipush 10, 2) by decide +kernel) (by decide +kernel)) <|
  ok_c (sn_irem (show decode cX3_leftAtWorst 17 = .ok (.irem, 1) by decide +kernel)) <|
  ok_c (sn_iadd (show decode cX3_leftAtWorst 18 = .ok (.iadd, 1) by decide +kernel)) <|
  ok_c (sn_istore_n (show decode cX3_leftAtWorst 19 = .ok (.istore_n 2, 1) by decide +kernel) rfl (by decide)) <|
  ok_c (sn_iload_n (show decode cX3_leftAtWorst 20 = .ok (.iload_n 2, 1) by decide +kernel) rfl) <|
  ok_c (sn_if_lt (show decode cX3_leftAtWorst 21 = .ok (.ifCond .lt 12, 3) by decide +kernel) (by decide)) <|
  ok_c (sn_iload_n (show decode cX3_leftAtWorst 24 = .ok (.iload_n 2, 1) by decide +kernel) rfl) <|
  ok_c (sn_aload_n (show decode cX3_leftAtWorst 25 = .ok (.aload_n 0, 1) by decide +kernel) rfl) <|
  ok_c (sn_getC (j := 3) (fun _ _ => rfl) (sn_get ck_3 (by decide) (show decode cX3_leftAtWorst 26 = .ok (.getfield 9, 3) by decide +kernel) wd_2_114)) <|
  ok_c (sn_alen (show decode cX3_leftAtWorst 29 = .ok (.arraylength, 1) by decide +kernel)) <|
  ok_c (sn_ic_lt (show decode cX3_leftAtWorst 30 = .ok (.if_icmp .lt 8, 3) by decide +kernel) (by decide)) <|
  ok_c (sn_aload_n (show decode cX3_leftAtWorst 33 = .ok (.aload_n 0, 1) by decide +kernel) rfl) <|
  ok_c (sn_getI (fun _ _ => rfl) (sn_get ck_3 (by decide) (show decode cX3_leftAtWorst 34 = .ok (.getfield 61, 3) by decide +kernel) wd_2_108)) <|
  ok_c (sn_aload_n (show decode cX3_leftAtWorst 38 = .ok (.aload_n 0, 1) by decide +kernel) rfl) <|
  ok_c (sn_getC (j := 3) (fun _ _ => rfl) (sn_get ck_3 (by decide) (show decode cX3_leftAtWorst 39 = .ok (.getfield 9, 3) by decide +kernel) wd_2_114)) <|
  ok_c (sn_iload_n (show decode cX3_leftAtWorst 42 = .ok (.iload_n 2, 1) by decide +kernel) rfl) <|
  ok_c (sn_iald (show decode cX3_leftAtWorst 43 = .ok (.iaload, 1) by decide +kernel)) <|
  ok_c (sn_aload_n (show decode cX3_leftAtWorst 44 = .ok (.aload_n 0, 1) by decide +kernel) rfl) <|
  ok_c (sn_getI (fun _ _ => rfl) (sn_get ck_3 (by decide) (show decode cX3_leftAtWorst 45 = .ok (.getfield 61, 3) by decide +kernel) wd_2_108)) <|
  ok_c (sn_aload_n (show decode cX3_leftAtWorst 48 = .ok (.aload_n 0, 1) by decide +kernel) rfl) <|
  ok_c (sn_getC (j := 3) (fun _ _ => rfl) (sn_get ck_3 (by decide) (show decode cX3_leftAtWorst 49 = .ok (.getfield 9, 3) by decide +kernel) wd_2_114)) <|
  ok_c (sn_iload_n (show decode cX3_leftAtWorst 52 = .ok (.iload_n 2, 1) by decide +kernel) rfl) <|
  ok_c (sn_iald (show decode cX3_leftAtWorst 53 = .ok (.iaload, 1) by decide +kernel)) <|
  ok_c (sn_isub (show decode cX3_leftAtWorst 54 = .ok (.isub, 1) by decide +kernel)) <|
  ok_c (sn_max (show decode cX3_leftAtWorst 55 = .ok (.invokestatic 98, 3) by decide +kernel) wd_5_34 wd_3_226 wd_1_11 wd_3_227) <|
  ok_n
theorem reX3_leftAtWorst : ∀ pc ∈ [37, 58], decode cX3_leftAtWorst pc = .ok (.ireturn, 1) := by decide +kernel
def tX4_isThere : List (Nat × gStp) := [(0, i_aload 0 1), (1, i_getI 4 1 4), (4, i_push (.int (-1)) 5), (5, i_ic_eq 12 8), (8, i_push (.int 1) 9), (9, i_goto 13), (12, i_push (.int 0) 13)]
set_option maxRecDepth 100000 in
theorem okX4_isThere : gOk YX4_isThere tX4_isThere := ok_c (sn_aload_n (show decode cX4_isThere 0 = .ok (.aload_n 0, 1) by decide +kernel) rfl) <|
  ok_c (sn_getI (fun _ _ => rfl) (sn_get ck_4 (by decide) (show decode cX4_isThere 1 = .ok (.getfield 15, 3) by decide +kernel) wd_1_238)) <|
  ok_c (sn_iconst (v := (-1)) (show decode cX4_isThere 4 = .ok (.iconst (-1), 1) by decide +kernel) (by decide +kernel)) <|
  ok_c (sn_ic_eq (show decode cX4_isThere 5 = .ok (.if_icmp .eq 7, 3) by decide +kernel) (by decide)) <|
  ok_c (sn_iconst (v := 1) (show decode cX4_isThere 8 = .ok (.iconst 1, 1) by decide +kernel) (by decide +kernel)) <|
  ok_c (sn_goto (show decode cX4_isThere 9 = .ok (.goto 4, 3) by decide +kernel) (by decide)) <|
  ok_c (sn_iconst (v := 0) (show decode cX4_isThere 12 = .ok (.iconst 0, 1) by decide +kernel) (by decide +kernel)) <|
  ok_n
theorem reX4_isThere : ∀ pc ∈ [13], decode cX4_isThere pc = .ok (.ireturn, 1) := by decide +kernel
def tX4_begin : List (Nat × gStp) := [(0, i_aload 0 1), (1, i_iload 1 2), (2, i_putI 4 1 5), (5, i_aload 0 6), (6, i_push (.int 0) 7), (7, i_iload 2 8), (8, i_aload 0 9), (9, i_getO 4 1 12), (12, i_alen 13), (13, i_min 16), (16, i_max 19), (19, i_putI 4 2 22), (22, i_push (.int 0) 23), (23, i_istore 3 24), (24, i_iload 3 25), (25, i_aload 0 26), (26, i_getI 4 2 29), (29, i_ic_ge 45 32), (32, i_aload 0 33), (33, i_getO 4 1 36), (36, i_iload 3 37), (37, i_push (.long 0) 38), (38, i_last 39), (39, i_iinc 3 1 42), (42, i_goto 24)]
set_option maxRecDepth 100000 in
theorem okX4_begin : gOk YX4_begin tX4_begin := ok_c (sn_aload_n (show decode cX4_begin 0 = .ok (.aload_n 0, 1) by decide +kernel) rfl) <|
  ok_c (sn_iload_n (show decode cX4_begin 1 = .ok (.iload_n 1, 1) by decide +kernel) rfl) <|
  ok_c (sn_putI ck_4 (by decide) rfl rfl (show decode cX4_begin 2 = .ok (.putfield 15, 3) by decide +kernel) wd_1_238) <|
  ok_c (sn_aload_n (show decode cX4_begin 5 = .ok (.aload_n 0, 1) by decide +kernel) rfl) <|
  ok_c (sn_iconst (v := 0) (show decode cX4_begin 6 = .ok (.iconst 0, 1) by decide +kernel) (by decide +kernel)) <|
  ok_c (sn_iload_n (show decode cX4_begin 7 = .ok (.iload_n 2, 1) by decide +kernel) rfl) <|
  ok_c (sn_aload_n (show decode cX4_begin 8 = .ok (.aload_n 0, 1) by decide +kernel) rfl) <|
  ok_c (sn_getO (j := 0) (fun _ _ => rfl) (sn_get ck_4 (by decide) (show decode cX4_begin 9 = .ok (.getfield 9, 3) by decide +kernel) wd_1_235)) <|
  ok_c (sn_alen (show decode cX4_begin 12 = .ok (.arraylength, 1) by decide +kernel)) <|
  ok_c (sn_min (show decode cX4_begin 13 = .ok (.invokestatic 19, 3) by decide +kernel) wd_5_192 wd_2_198 wd_1_11 wd_2_199) <|
  ok_c (sn_max (show decode cX4_begin 16 = .ok (.invokestatic 25, 3) by decide +kernel) wd_5_193 wd_3_226 wd_1_11 wd_3_227) <|
  ok_c (sn_putI ck_4 (by decide) rfl rfl (show decode cX4_begin 19 = .ok (.putfield 28, 3) by decide +kernel) wd_2_1) <|
  ok_c (sn_iconst (v := 0) (show decode cX4_begin 22 = .ok (.iconst 0, 1) by decide +kernel) (by decide +kernel)) <|
  ok_c (sn_istore_n (show decode cX4_begin 23 = .ok (.istore_n 3, 1) by decide +kernel) rfl (by decide)) <|
  ok_c (sn_iload_n (show decode cX4_begin 24 = .ok (.iload_n 3, 1) by decide +kernel) rfl) <|
  ok_c (sn_aload_n (show decode cX4_begin 25 = .ok (.aload_n 0, 1) by decide +kernel) rfl) <|
  ok_c (sn_getI (fun _ _ => rfl) (sn_get ck_4 (by decide) (show decode cX4_begin 26 = .ok (.getfield 28, 3) by decide +kernel) wd_2_1)) <|
  ok_c (sn_ic_ge (show decode cX4_begin 29 = .ok (.if_icmp .ge 16, 3) by decide +kernel) (by decide)) <|
  ok_c (sn_aload_n (show decode cX4_begin 32 = .ok (.aload_n 0, 1) by decide +kernel) rfl) <|
  ok_c (sn_getO (j := 0) (fun _ _ => rfl) (sn_get ck_4 (by decide) (show decode cX4_begin 33 = .ok (.getfield 9, 3) by decide +kernel) wd_1_235)) <|
  ok_c (sn_iload_n (show decode cX4_begin 36 = .ok (.iload_n 3, 1) by decide +kernel) rfl) <|
  ok_c (sn_lconst (v := 0) (show decode cX4_begin 37 = .ok (.lconst 0, 1) by decide +kernel) (by decide +kernel)) <|
  ok_c (sn_last (show decode cX4_begin 38 = .ok (.lastore, 1) by decide +kernel)) <|
  ok_c (sn_iinc (show decode cX4_begin 39 = .ok (.iinc 3 1, 3) by decide +kernel) (by decide) (by decide +kernel)) <|
  ok_c (sn_goto (show decode cX4_begin 42 = .ok (.goto (-18), 3) by decide +kernel) (by decide)) <|
  ok_n
theorem reX4_begin : ∀ pc ∈ [45], decode cX4_begin pc = .ok (.return_, 1) := by decide +kernel
def tX4_put : List (Nat × gStp) := [(0, i_iload 1 1), (1, i_if_lt 12 4), (4, i_iload 1 5), (5, i_aload 0 6), (6, i_getI 4 2 9), (9, i_ic_lt 13 12), (13, i_aload 0 14), (14, i_getI 4 1 17), (17, i_sw [(0, 44), (1, 57), (2, 70)] 82), (44, i_aload 0 45), (45, i_getO 4 1 48), (48, i_iload 1 49), (49, i_lload 2 50), (50, i_l2i 51), (51, i_i (fun x => x.toInt8.toInt32) 52), (52, i_i2l 53), (53, i_last 54), (54, i_goto 89), (57, i_aload 0 58), (58, i_getO 4 1 61), (61, i_iload 1 62), (62, i_lload 2 63), (63, i_l2i 64), (64, i_i (fun x => x.toInt16.toInt32) 65), (65, i_i2l 66), (66, i_last 67), (67, i_goto 89), (70, i_aload 0 71), (71, i_getO 4 1 74), (74, i_iload 1 75), (75, i_lload 2 76), (76, i_l2i 77), (77, i_i2l 78), (78, i_last 79), (79, i_goto 89), (82, i_aload 0 83), (83, i_getO 4 1 86), (86, i_iload 1 87), (87, i_lload 2 88), (88, i_last 89)]
set_option maxRecDepth 100000 in
theorem okX4_put : gOk YX4_put tX4_put := ok_c (sn_iload_n (show decode cX4_put 0 = .ok (.iload_n 1, 1) by decide +kernel) rfl) <|
  ok_c (sn_if_lt (show decode cX4_put 1 = .ok (.ifCond .lt 11, 3) by decide +kernel) (by decide)) <|
  ok_c (sn_iload_n (show decode cX4_put 4 = .ok (.iload_n 1, 1) by decide +kernel) rfl) <|
  ok_c (sn_aload_n (show decode cX4_put 5 = .ok (.aload_n 0, 1) by decide +kernel) rfl) <|
  ok_c (sn_getI (fun _ _ => rfl) (sn_get ck_4 (by decide) (show decode cX4_put 6 = .ok (.getfield 28, 3) by decide +kernel) wd_2_1)) <|
  ok_c (sn_ic_lt (show decode cX4_put 9 = .ok (.if_icmp .lt 4, 3) by decide +kernel) (by decide)) <|
  ok_c (sn_aload_n (show decode cX4_put 13 = .ok (.aload_n 0, 1) by decide +kernel) rfl) <|
  ok_c (sn_getI (fun _ _ => rfl) (sn_get ck_4 (by decide) (show decode cX4_put 14 = .ok (.getfield 15, 3) by decide +kernel) wd_1_238)) <|
  ok_c (sn_tsw (show decode cX4_put 17 = .ok (.tableswitch 65 0 2 #[27, 40, 53], 27) by decide +kernel) (by decide +kernel) (by decide)) <|
  ok_c (sn_aload_n (show decode cX4_put 44 = .ok (.aload_n 0, 1) by decide +kernel) rfl) <|
  ok_c (sn_getO (j := 0) (fun _ _ => rfl) (sn_get ck_4 (by decide) (show decode cX4_put 45 = .ok (.getfield 9, 3) by decide +kernel) wd_1_235)) <|
  ok_c (sn_iload_n (show decode cX4_put 48 = .ok (.iload_n 1, 1) by decide +kernel) rfl) <|
  ok_c (sn_lload_n (show decode cX4_put 49 = .ok (.lload_n 2, 1) by decide +kernel) rfl) <|
  ok_c (sn_l2i (show decode cX4_put 50 = .ok (.l2i, 1) by decide +kernel)) <|
  ok_c (sn_i2b (show decode cX4_put 51 = .ok (.i2b, 1) by decide +kernel)) <|
  ok_c (sn_i2l (show decode cX4_put 52 = .ok (.i2l, 1) by decide +kernel)) <|
  ok_c (sn_last (show decode cX4_put 53 = .ok (.lastore, 1) by decide +kernel)) <|
  ok_c (sn_goto (show decode cX4_put 54 = .ok (.goto 35, 3) by decide +kernel) (by decide)) <|
  ok_c (sn_aload_n (show decode cX4_put 57 = .ok (.aload_n 0, 1) by decide +kernel) rfl) <|
  ok_c (sn_getO (j := 0) (fun _ _ => rfl) (sn_get ck_4 (by decide) (show decode cX4_put 58 = .ok (.getfield 9, 3) by decide +kernel) wd_1_235)) <|
  ok_c (sn_iload_n (show decode cX4_put 61 = .ok (.iload_n 1, 1) by decide +kernel) rfl) <|
  ok_c (sn_lload_n (show decode cX4_put 62 = .ok (.lload_n 2, 1) by decide +kernel) rfl) <|
  ok_c (sn_l2i (show decode cX4_put 63 = .ok (.l2i, 1) by decide +kernel)) <|
  ok_c (sn_i2s (show decode cX4_put 64 = .ok (.i2s, 1) by decide +kernel)) <|
  ok_c (sn_i2l (show decode cX4_put 65 = .ok (.i2l, 1) by decide +kernel)) <|
  ok_c (sn_last (show decode cX4_put 66 = .ok (.lastore, 1) by decide +kernel)) <|
  ok_c (sn_goto (show decode cX4_put 67 = .ok (.goto 22, 3) by decide +kernel) (by decide)) <|
  ok_c (sn_aload_n (show decode cX4_put 70 = .ok (.aload_n 0, 1) by decide +kernel) rfl) <|
  ok_c (sn_getO (j := 0) (fun _ _ => rfl) (sn_get ck_4 (by decide) (show decode cX4_put 71 = .ok (.getfield 9, 3) by decide +kernel) wd_1_235)) <|
  ok_c (sn_iload_n (show decode cX4_put 74 = .ok (.iload_n 1, 1) by decide +kernel) rfl) <|
  ok_c (sn_lload_n (show decode cX4_put 75 = .ok (.lload_n 2, 1) by decide +kernel) rfl) <|
  ok_c (sn_l2i (show decode cX4_put 76 = .ok (.l2i, 1) by decide +kernel)) <|
  ok_c (sn_i2l (show decode cX4_put 77 = .ok (.i2l, 1) by decide +kernel)) <|
  ok_c (sn_last (show decode cX4_put 78 = .ok (.lastore, 1) by decide +kernel)) <|
  ok_c (sn_goto (show decode cX4_put 79 = .ok (.goto 10, 3) by decide +kernel) (by decide)) <|
  ok_c (sn_aload_n (show decode cX4_put 82 = .ok (.aload_n 0, 1) by decide +kernel) rfl) <|
  ok_c (sn_getO (j := 0) (fun _ _ => rfl) (sn_get ck_4 (by decide) (show decode cX4_put 83 = .ok (.getfield 9, 3) by decide +kernel) wd_1_235)) <|
  ok_c (sn_iload_n (show decode cX4_put 86 = .ok (.iload_n 1, 1) by decide +kernel) rfl) <|
  ok_c (sn_lload_n (show decode cX4_put 87 = .ok (.lload_n 2, 1) by decide +kernel) rfl) <|
  ok_c (sn_last (show decode cX4_put 88 = .ok (.lastore, 1) by decide +kernel)) <|
  ok_n
theorem reX4_put : ∀ pc ∈ [12, 89], decode cX4_put pc = .ok (.return_, 1) := by decide +kernel
def tX4_reaches : List (Nat × gStp) := [(0, i_iload 1 1), (1, i_if_lt 30 4), (4, i_iload 2 5), (5, i_if_lt 30 8), (8, i_iload 1 9), (9, i_aload 0 10), (10, i_getI 4 2 13), (13, i_ic_gt 30 16), (16, i_iload 2 17), (17, i_aload 0 18), (18, i_getI 4 2 21), (21, i_iload 1 22), (22, i_ii (fun x y => x - y) 23), (23, i_ic_gt 30 26), (26, i_push (.int 1) 27), (27, i_goto 31), (30, i_push (.int 0) 31)]
set_option maxRecDepth 100000 in
theorem okX4_reaches : gOk YX4_reaches tX4_reaches := ok_c (sn_iload_n (show decode cX4_reaches 0 = .ok (.iload_n 1, 1) by decide +kernel) rfl) <|
  ok_c (sn_if_lt (show decode cX4_reaches 1 = .ok (.ifCond .lt 29, 3) by decide +kernel) (by decide)) <|
  ok_c (sn_iload_n (show decode cX4_reaches 4 = .ok (.iload_n 2, 1) by decide +kernel) rfl) <|
  ok_c (sn_if_lt (show decode cX4_reaches 5 = .ok (.ifCond .lt 25, 3) by decide +kernel) (by decide)) <|
  ok_c (sn_iload_n (show decode cX4_reaches 8 = .ok (.iload_n 1, 1) by decide +kernel) rfl) <|
  ok_c (sn_aload_n (show decode cX4_reaches 9 = .ok (.aload_n 0, 1) by decide +kernel) rfl) <|
  ok_c (sn_getI (fun _ _ => rfl) (sn_get ck_4 (by decide) (show decode cX4_reaches 10 = .ok (.getfield 28, 3) by decide +kernel) wd_2_1)) <|
  ok_c (sn_ic_gt (show decode cX4_reaches 13 = .ok (.if_icmp .gt 17, 3) by decide +kernel) (by decide)) <|
  ok_c (sn_iload_n (show decode cX4_reaches 16 = .ok (.iload_n 2, 1) by decide +kernel) rfl) <|
  ok_c (sn_aload_n (show decode cX4_reaches 17 = .ok (.aload_n 0, 1) by decide +kernel) rfl) <|
  ok_c (sn_getI (fun _ _ => rfl) (sn_get ck_4 (by decide) (show decode cX4_reaches 18 = .ok (.getfield 28, 3) by decide +kernel) wd_2_1)) <|
  ok_c (sn_iload_n (show decode cX4_reaches 21 = .ok (.iload_n 1, 1) by decide +kernel) rfl) <|
  ok_c (sn_isub (show decode cX4_reaches 22 = .ok (.isub, 1) by decide +kernel)) <|
  ok_c (sn_ic_gt (show decode cX4_reaches 23 = .ok (.if_icmp .gt 7, 3) by decide +kernel) (by decide)) <|
  ok_c (sn_iconst (v := 1) (show decode cX4_reaches 26 = .ok (.iconst 1, 1) by decide +kernel) (by decide +kernel)) <|
  ok_c (sn_goto (show decode cX4_reaches 27 = .ok (.goto 4, 3) by decide +kernel) (by decide)) <|
  ok_c (sn_iconst (v := 0) (show decode cX4_reaches 30 = .ok (.iconst 0, 1) by decide +kernel) (by decide +kernel)) <|
  ok_n
theorem reX4_reaches : ∀ pc ∈ [31], decode cX4_reaches pc = .ok (.ireturn, 1) := by decide +kernel
def tX4_compareTogether : List (Nat × gStp) := [(0, i_push (.long 0) 1), (1, i_lstore 3 2), (2, i_push (.long 0) 3), (3, i_lstore 5 5), (5, i_push (.int 0) 6), (6, i_istore 7 8), (8, i_iload 7 10), (10, i_aload 0 11), (11, i_getI 4 2 14), (14, i_ic_ge 68 17), (17, i_iload 7 19), (19, i_push (.int 6) 21), (21, i_ic_ge 68 24), (24, i_iload 1 25), (25, i_iload 7 27), (30, i_if_eq 62 33), (33, i_lload 3 34), (34, i_aload 0 35), (35, i_getO 4 1 38), (38, i_iload 7 40), (40, i_lald 41), (41, i_push (.int 32) 43), (43, i_li (fun x y => x >>> (y.toInt64 &&& 63)) 44), (44, i_ll (fun x y => x + y) 45), (45, i_lstore 3 46), (46, i_lload 5 48), (48, i_aload 0 49), (49, i_getO 4 1 52), (52, i_iload 7 54), (54, i_lald 55), (55, i_push (.long 4294967295) 58), (58, i_ll (fun x y => x &&& y) 59), (59, i_ll (fun x y => x + y) 60), (60, i_lstore 5 62), (62, i_iinc 7 1 65), (65, i_goto 8), (68, i_lload 3 69), (69, i_lload 5 71), (71, i_push (.int 32) 73), (73, i_li (fun x y => x >>> (y.toInt64 &&& 63)) 74), (74, i_ll (fun x y => x + y) 75), (75, i_lstore 3 76), (76, i_lload 5 78), (78, i_push (.long 4294967295) 81), (81, i_ll (fun x y => x &&& y) 82), (82, i_lstore 5 84), (84, i_lload 3 85), (85, i_push (.long 0) 86), (86, i_lcmp 87), (87, i_if_eq 98 90), (90, i_lload 3 91), (91, i_push (.long 0) 92), (95, i_goto 105), (98, i_lload 5 100), (100, i_iload 2 101), (101, i_i2l 102)]
set_option maxRecDepth 100000 in
theorem okX4_compareTogether : gOk YX4_compareTogether tX4_compareTogether := ok_c (sn_lconst (v := 0) (show decode cX4_compareTogether 0 = .ok (.lconst 0, 1) by decide +kernel) (by decide +kernel)) <|
  ok_c (sn_lstore_n (show decode cX4_compareTogether 1 = .ok (.lstore_n 3, 1) by decide +kernel) rfl (by decide)) <|
  ok_c (sn_lconst (v := 0) (show decode cX4_compareTogether 2 = .ok (.lconst 0, 1) by decide +kernel) (by decide +kernel)) <|
  ok_c (sn_lstore (show decode cX4_compareTogether 3 = .ok (.lstore 5, 2) by decide +kernel) (by decide)) <|
  ok_c (sn_iconst (v := 0) (show decode cX4_compareTogether 5 = .ok (.iconst 0, 1) by decide +kernel) (by decide +kernel)) <|
  ok_c (sn_istore (show decode cX4_compareTogether 6 = .ok (.istore 7, 2) by decide +kernel) (by decide)) <|
  ok_c (sn_iload (show decode cX4_compareTogether 8 = .ok (.iload 7, 2) by decide +kernel)) <|
  ok_c (sn_aload_n (show decode cX4_compareTogether 10 = .ok (.aload_n 0, 1) by decide +kernel) rfl) <|
  ok_c (sn_getI (fun _ _ => rfl) (sn_get ck_4 (by decide) (show decode cX4_compareTogether 11 = .ok (.getfield 28, 3) by decide +kernel) wd_2_1)) <|
  ok_c (sn_ic_ge (show decode cX4_compareTogether 14 = .ok (.if_icmp .ge 54, 3) by decide +kernel) (by decide)) <|
  ok_c (sn_iload (show decode cX4_compareTogether 17 = .ok (.iload 7, 2) by decide +kernel)) <|
  ok_c (sn_bipush (v := 6) (show decode cX4_compareTogether 19 = .ok (.bipush 6, 2) by decide +kernel) (by decide +kernel)) <|
  ok_c (sn_ic_ge (show decode cX4_compareTogether 21 = .ok (.if_icmp .ge 47, 3) by decide +kernel) (by decide)) <|
  ok_c (sn_iload_n (show decode cX4_compareTogether 24 = .ok (.iload_n 1, 1) by decide +kernel) rfl) <|
  ok_c (sn_iload (show decode cX4_compareTogether 25 = .ok (.iload 7, 2) by decide +kernel)) <|
  ok_c (sn_if_eq (show decode cX4_compareTogether 30 = .ok (.ifCond .eq 32, 3) by decide +kernel) (by decide)) <|
  ok_c (sn_lload_n (show decode cX4_compareTogether 33 = .ok (.lload_n 3, 1) by decide +kernel) rfl) <|
  ok_c (sn_aload_n (show decode cX4_compareTogether 34 = .ok (.aload_n 0, 1) by decide +kernel) rfl) <|
  ok_c (sn_getO (j := 0) (fun _ _ => rfl) (sn_get ck_4 (by decide) (show decode cX4_compareTogether 35 = .ok (.getfield 9, 3) by decide +kernel) wd_1_235)) <|
  ok_c (sn_iload (show decode cX4_compareTogether 38 = .ok (.iload 7, 2) by decide +kernel)) <|
  ok_c (sn_lald (show decode cX4_compareTogether 40 = .ok (.laload, 1) by decide +kernel)) <|
  ok_c (sn_bipush (v := 32) (show decode cX4_compareTogether 41 = .ok (.bipush 32, 2) by decide +kernel) (by decide +kernel)) <|
  ok_c (sn_lshr (show decode cX4_compareTogether 43 = .ok (.lshr, 1) by decide +kernel)) <|
  ok_c (sn_ladd (show decode cX4_compareTogether 44 = .ok (.ladd, 1) by decide +kernel)) <|
  ok_c (sn_lstore_n (show decode cX4_compareTogether 45 = .ok (.lstore_n 3, 1) by decide +kernel) rfl (by decide)) <|
  ok_c (sn_lload (show decode cX4_compareTogether 46 = .ok (.lload 5, 2) by decide +kernel)) <|
  ok_c (sn_aload_n (show decode cX4_compareTogether 48 = .ok (.aload_n 0, 1) by decide +kernel) rfl) <|
  ok_c (sn_getO (j := 0) (fun _ _ => rfl) (sn_get ck_4 (by decide) (show decode cX4_compareTogether 49 = .ok (.getfield 9, 3) by decide +kernel) wd_1_235)) <|
  ok_c (sn_iload (show decode cX4_compareTogether 52 = .ok (.iload 7, 2) by decide +kernel)) <|
  ok_c (sn_lald (show decode cX4_compareTogether 54 = .ok (.laload, 1) by decide +kernel)) <|
  ok_c (sn_ldc2 (show decode cX4_compareTogether 55 = .ok (.ldc2_w 35, 3) by decide +kernel) wd_4_162) <|
  ok_c (sn_land (show decode cX4_compareTogether 58 = .ok (.land, 1) by decide +kernel)) <|
  ok_c (sn_ladd (show decode cX4_compareTogether 59 = .ok (.ladd, 1) by decide +kernel)) <|
  ok_c (sn_lstore (show decode cX4_compareTogether 60 = .ok (.lstore 5, 2) by decide +kernel) (by decide)) <|
  ok_c (sn_iinc (show decode cX4_compareTogether 62 = .ok (.iinc 7 1, 3) by decide +kernel) (by decide) (by decide +kernel)) <|
  ok_c (sn_goto (show decode cX4_compareTogether 65 = .ok (.goto (-57), 3) by decide +kernel) (by decide)) <|
  ok_c (sn_lload_n (show decode cX4_compareTogether 68 = .ok (.lload_n 3, 1) by decide +kernel) rfl) <|
  ok_c (sn_lload (show decode cX4_compareTogether 69 = .ok (.lload 5, 2) by decide +kernel)) <|
  ok_c (sn_bipush (v := 32) (show decode cX4_compareTogether 71 = .ok (.bipush 32, 2) by decide +kernel) (by decide +kernel)) <|
  ok_c (sn_lshr (show decode cX4_compareTogether 73 = .ok (.lshr, 1) by decide +kernel)) <|
  ok_c (sn_ladd (show decode cX4_compareTogether 74 = .ok (.ladd, 1) by decide +kernel)) <|
  ok_c (sn_lstore_n (show decode cX4_compareTogether 75 = .ok (.lstore_n 3, 1) by decide +kernel) rfl (by decide)) <|
  ok_c (sn_lload (show decode cX4_compareTogether 76 = .ok (.lload 5, 2) by decide +kernel)) <|
  ok_c (sn_ldc2 (show decode cX4_compareTogether 78 = .ok (.ldc2_w 35, 3) by decide +kernel) wd_4_162) <|
  ok_c (sn_land (show decode cX4_compareTogether 81 = .ok (.land, 1) by decide +kernel)) <|
  ok_c (sn_lstore (show decode cX4_compareTogether 82 = .ok (.lstore 5, 2) by decide +kernel) (by decide)) <|
  ok_c (sn_lload_n (show decode cX4_compareTogether 84 = .ok (.lload_n 3, 1) by decide +kernel) rfl) <|
  ok_c (sn_lconst (v := 0) (show decode cX4_compareTogether 85 = .ok (.lconst 0, 1) by decide +kernel) (by decide +kernel)) <|
  ok_c (sn_lcmp (show decode cX4_compareTogether 86 = .ok (.lcmp, 1) by decide +kernel)) <|
  ok_c (sn_if_eq (show decode cX4_compareTogether 87 = .ok (.ifCond .eq 11, 3) by decide +kernel) (by decide)) <|
  ok_c (sn_lload_n (show decode cX4_compareTogether 90 = .ok (.lload_n 3, 1) by decide +kernel) rfl) <|
  ok_c (sn_lconst (v := 0) (show decode cX4_compareTogether 91 = .ok (.lconst 0, 1) by decide +kernel) (by decide +kernel)) <|
  ok_c (sn_goto (show decode cX4_compareTogether 95 = .ok (.goto 10, 3) by decide +kernel) (by decide)) <|
  ok_c (sn_lload (show decode cX4_compareTogether 98 = .ok (.lload 5, 2) by decide +kernel)) <|
  ok_c (sn_iload_n (show decode cX4_compareTogether 100 = .ok (.iload_n 2, 1) by decide +kernel) rfl) <|
  ok_c (sn_i2l (show decode cX4_compareTogether 101 = .ok (.i2l, 1) by decide +kernel)) <|
  ok_n
def uX4_compareTogether : gCT := [(27, YX8_has, 2, none), (92, YJ13_compare_74951, 2, none), (102, YJ13_compare_74951, 2, none)]
set_option maxRecDepth 100000 in
theorem ocX4_compareTogether : gOkC YX4_compareTogether uX4_compareTogether := oc_c (gEdge_SN cal_X8_has (show decode cX4_compareTogether 27 = .ok (.invokestatic 31, 3) by decide +kernel) wd_4_161 wd_3_119) <|
  oc_c (gEdge_S cal_J13_compare_74951 (show decode cX4_compareTogether 92 = .ok (.invokestatic 37, 3) by decide +kernel) wd_4_163 wd_4_164) <|
  oc_c (gEdge_S cal_J13_compare_74951 (show decode cX4_compareTogether 102 = .ok (.invokestatic 37, 3) by decide +kernel) wd_4_163 wd_4_164) <|
  oc_n
theorem reX4_compareTogether : ∀ pc ∈ [105], decode cX4_compareTogether pc = .ok (.ireturn, 1) := by decide +kernel
def tX5_readTape : List (Nat × gStp) := [(0, i_aload 0 1), (1, i_getT 5 1 4), (7, i_aload 0 8), (8, i_push (.int 0) 9), (9, i_putI 5 2 12), (12, i_aload 0 13), (13, i_push (.int (-1)) 14), (14, i_putI 5 3 17), (17, i_aload 0 18), (18, i_push (.int 0) 19), (19, i_putI 5 6 22), (22, i_aload 0 23), (26, i_push (.int 0) 27), (27, i_istore 1 28), (28, i_iload 1 29), (29, i_push (.int 800) 32), (32, i_ic_ge 59 35), (35, i_aload 0 36), (36, i_getI 5 4 39), (39, i_if_eq 59 42), (42, i_aload 0 43), (43, i_getI 5 2 46), (46, i_if_ne 59 49), (49, i_aload 0 50), (53, i_iinc 1 1 56), (56, i_goto 28), (59, i_aload 0 60), (60, i_getI 5 2 63), (63, i_if_ne 70 66), (66, i_push (.int 1) 67), (67, i_goto 71), (70, i_push (.int 0) 71)]
set_option maxRecDepth 100000 in
theorem okX5_readTape : gOk YX5_readTape tX5_readTape := ok_c (sn_aload_n (show decode cX5_readTape 0 = .ok (.aload_n 0, 1) by decide +kernel) rfl) <|
  ok_c (sn_getT (j := 1) (fun _ _ => rfl) (sn_get ck_5 (by decide) (show decode cX5_readTape 1 = .ok (.getfield 21, 3) by decide +kernel) wd_1_201)) <|
  ok_c (sn_aload_n (show decode cX5_readTape 7 = .ok (.aload_n 0, 1) by decide +kernel) rfl) <|
  ok_c (sn_iconst (v := 0) (show decode cX5_readTape 8 = .ok (.iconst 0, 1) by decide +kernel) (by decide +kernel)) <|
  ok_c (sn_putI ck_5 (by decide) rfl rfl (show decode cX5_readTape 9 = .ok (.putfield 32, 3) by decide +kernel) wd_1_203) <|
  ok_c (sn_aload_n (show decode cX5_readTape 12 = .ok (.aload_n 0, 1) by decide +kernel) rfl) <|
  ok_c (sn_iconst (v := (-1)) (show decode cX5_readTape 13 = .ok (.iconst (-1), 1) by decide +kernel) (by decide +kernel)) <|
  ok_c (sn_putI ck_5 (by decide) rfl rfl (show decode cX5_readTape 14 = .ok (.putfield 25, 3) by decide +kernel) wd_1_205) <|
  ok_c (sn_aload_n (show decode cX5_readTape 17 = .ok (.aload_n 0, 1) by decide +kernel) rfl) <|
  ok_c (sn_iconst (v := 0) (show decode cX5_readTape 18 = .ok (.iconst 0, 1) by decide +kernel) (by decide +kernel)) <|
  ok_c (sn_putI ck_5 (by decide) rfl rfl (show decode cX5_readTape 19 = .ok (.putfield 35, 3) by decide +kernel) wd_1_209) <|
  ok_c (sn_aload_n (show decode cX5_readTape 22 = .ok (.aload_n 0, 1) by decide +kernel) rfl) <|
  ok_c (sn_iconst (v := 0) (show decode cX5_readTape 26 = .ok (.iconst 0, 1) by decide +kernel) (by decide +kernel)) <|
  ok_c (sn_istore_n (show decode cX5_readTape 27 = .ok (.istore_n 1, 1) by decide +kernel) rfl (by decide)) <|
  ok_c (sn_iload_n (show decode cX5_readTape 28 = .ok (.iload_n 1, 1) by decide +kernel) rfl) <|
  ok_c (sn_sipush (v := 800) (show decode cX5_readTape 29 = .ok (.sipush 800, 3) by decide +kernel) (by decide +kernel)) <|
  ok_c (sn_ic_ge (show decode cX5_readTape 32 = .ok (.if_icmp .ge 27, 3) by decide +kernel) (by decide)) <|
  ok_c (sn_aload_n (show decode cX5_readTape 35 = .ok (.aload_n 0, 1) by decide +kernel) rfl) <|
  ok_c (sn_getI (fun _ _ => rfl) (sn_get ck_5 (by decide) (show decode cX5_readTape 36 = .ok (.getfield 41, 3) by decide +kernel) wd_1_207)) <|
  ok_c (sn_if_eq (show decode cX5_readTape 39 = .ok (.ifCond .eq 20, 3) by decide +kernel) (by decide)) <|
  ok_c (sn_aload_n (show decode cX5_readTape 42 = .ok (.aload_n 0, 1) by decide +kernel) rfl) <|
  ok_c (sn_getI (fun _ _ => rfl) (sn_get ck_5 (by decide) (show decode cX5_readTape 43 = .ok (.getfield 32, 3) by decide +kernel) wd_1_203)) <|
  ok_c (sn_if_ne (show decode cX5_readTape 46 = .ok (.ifCond .ne 13, 3) by decide +kernel) (by decide)) <|
  ok_c (sn_aload_n (show decode cX5_readTape 49 = .ok (.aload_n 0, 1) by decide +kernel) rfl) <|
  ok_c (sn_iinc (show decode cX5_readTape 53 = .ok (.iinc 1 1, 3) by decide +kernel) (by decide) (by decide +kernel)) <|
  ok_c (sn_goto (show decode cX5_readTape 56 = .ok (.goto (-28), 3) by decide +kernel) (by decide)) <|
  ok_c (sn_aload_n (show decode cX5_readTape 59 = .ok (.aload_n 0, 1) by decide +kernel) rfl) <|
  ok_c (sn_getI (fun _ _ => rfl) (sn_get ck_5 (by decide) (show decode cX5_readTape 60 = .ok (.getfield 32, 3) by decide +kernel) wd_1_203)) <|
  ok_c (sn_if_ne (show decode cX5_readTape 63 = .ok (.ifCond .ne 7, 3) by decide +kernel) (by decide)) <|
  ok_c (sn_iconst (v := 1) (show decode cX5_readTape 66 = .ok (.iconst 1, 1) by decide +kernel) (by decide +kernel)) <|
  ok_c (sn_goto (show decode cX5_readTape 67 = .ok (.goto 4, 3) by decide +kernel) (by decide)) <|
  ok_c (sn_iconst (v := 0) (show decode cX5_readTape 70 = .ok (.iconst 0, 1) by decide +kernel) (by decide +kernel)) <|
  ok_n
def uX5_readTape : gCT := [(4, YX7_clear, 1, some 7), (23, YX5_advance, 1, some 5), (50, YX5_readLine, 1, some 5)]
set_option maxRecDepth 100000 in
theorem ocX5_readTape : gOkC YX5_readTape uX5_readTape := oc_c (gEdge_V cal_X7_clear ck_7 rfl (show decode cX5_readTape 4 = .ok (.invokevirtual 29, 3) by decide +kernel) wd_2_169 wd_2_170 wd_2_171) <|
  oc_c (gEdge_V cal_X5_advance ck_5 rfl (show decode cX5_readTape 23 = .ok (.invokevirtual 38, 3) by decide +kernel) wd_2_173 wd_2_175 wp_1_0) <|
  oc_c (gEdge_V cal_X5_readLine ck_5 rfl (show decode cX5_readTape 50 = .ok (.invokevirtual 44, 3) by decide +kernel) wd_2_200 wd_2_202 wp_1_2) <|
  oc_n
theorem reX5_readTape : ∀ pc ∈ [71], decode cX5_readTape pc = .ok (.ireturn, 1) := by decide +kernel
def tX5_readLine : List (Nat × gStp) := [(0, i_aload 0 1), (1, i_getT 5 1 4), (4, i_getI 7 0 7), (7, i_if_ne 17 10), (10, i_aload 0 11), (14, i_goto 86), (17, i_aload 0 18), (18, i_push (.ref 915) 20), (23, i_if_eq 33 26), (26, i_aload 0 27), (30, i_goto 86), (33, i_aload 0 34), (34, i_push (.ref 919) 36), (39, i_if_eq 49 42), (42, i_aload 0 43), (46, i_goto 86), (49, i_aload 0 50), (50, i_push (.ref 921) 52), (55, i_if_eq 65 58), (58, i_aload 0 59), (62, i_goto 86), (65, i_aload 0 66), (66, i_push (.ref 922) 68), (71, i_if_eq 81 74), (74, i_aload 0 75), (78, i_goto 86), (81, i_aload 0 82), (82, i_push (.int 1) 83), (86, i_aload 0 87), (90, i_aload 0 91), (91, i_getI 5 2 94), (94, i_if_ne 110 97), (97, i_aload 0 98), (98, i_getT 5 1 101), (101, i_dup 102), (102, i_getI 7 0 105), (105, i_push (.int 1) 106), (106, i_ii (fun x y => x + y) 107), (107, i_putI 7 0 110)]
set_option maxRecDepth 100000 in
theorem okX5_readLine : gOk YX5_readLine tX5_readLine := ok_c (sn_aload_n (show decode cX5_readLine 0 = .ok (.aload_n 0, 1) by decide +kernel) rfl) <|
  ok_c (sn_getT (j := 1) (fun _ _ => rfl) (sn_get ck_5 (by decide) (show decode cX5_readLine 1 = .ok (.getfield 21, 3) by decide +kernel) wd_1_201)) <|
  ok_c (sn_getI (fun _ _ => rfl) (sn_get ck_7 (by decide) (show decode cX5_readLine 4 = .ok (.getfield 47, 3) by decide +kernel) wd_1_86)) <|
  ok_c (sn_if_ne (show decode cX5_readLine 7 = .ok (.ifCond .ne 10, 3) by decide +kernel) (by decide)) <|
  ok_c (sn_aload_n (show decode cX5_readLine 10 = .ok (.aload_n 0, 1) by decide +kernel) rfl) <|
  ok_c (sn_goto (show decode cX5_readLine 14 = .ok (.goto 72, 3) by decide +kernel) (by decide)) <|
  ok_c (sn_aload_n (show decode cX5_readLine 17 = .ok (.aload_n 0, 1) by decide +kernel) rfl) <|
  ok_c (sn_ldcS 5 (by decide) (by decide +kernel) rfl (show decode cX5_readLine 18 = .ok (.ldc 53, 2) by decide +kernel)) <|
  ok_c (sn_if_eq (show decode cX5_readLine 23 = .ok (.ifCond .eq 10, 3) by decide +kernel) (by decide)) <|
  ok_c (sn_aload_n (show decode cX5_readLine 26 = .ok (.aload_n 0, 1) by decide +kernel) rfl) <|
  ok_c (sn_goto (show decode cX5_readLine 30 = .ok (.goto 56, 3) by decide +kernel) (by decide)) <|
  ok_c (sn_aload_n (show decode cX5_readLine 33 = .ok (.aload_n 0, 1) by decide +kernel) rfl) <|
  ok_c (sn_ldcS 9 (by decide) (by decide +kernel) rfl (show decode cX5_readLine 34 = .ok (.ldc 62, 2) by decide +kernel)) <|
  ok_c (sn_if_eq (show decode cX5_readLine 39 = .ok (.ifCond .eq 10, 3) by decide +kernel) (by decide)) <|
  ok_c (sn_aload_n (show decode cX5_readLine 42 = .ok (.aload_n 0, 1) by decide +kernel) rfl) <|
  ok_c (sn_goto (show decode cX5_readLine 46 = .ok (.goto 40, 3) by decide +kernel) (by decide)) <|
  ok_c (sn_aload_n (show decode cX5_readLine 49 = .ok (.aload_n 0, 1) by decide +kernel) rfl) <|
  ok_c (sn_ldcS 11 (by decide) (by decide +kernel) rfl (show decode cX5_readLine 50 = .ok (.ldc 67, 2) by decide +kernel)) <|
  ok_c (sn_if_eq (show decode cX5_readLine 55 = .ok (.ifCond .eq 10, 3) by decide +kernel) (by decide)) <|
  ok_c (sn_aload_n (show decode cX5_readLine 58 = .ok (.aload_n 0, 1) by decide +kernel) rfl) <|
  ok_c (sn_goto (show decode cX5_readLine 62 = .ok (.goto 24, 3) by decide +kernel) (by decide)) <|
  ok_c (sn_aload_n (show decode cX5_readLine 65 = .ok (.aload_n 0, 1) by decide +kernel) rfl) <|
  ok_c (sn_ldcS 12 (by decide) (by decide +kernel) rfl (show decode cX5_readLine 66 = .ok (.ldc 72, 2) by decide +kernel)) <|
  ok_c (sn_if_eq (show decode cX5_readLine 71 = .ok (.ifCond .eq 10, 3) by decide +kernel) (by decide)) <|
  ok_c (sn_aload_n (show decode cX5_readLine 74 = .ok (.aload_n 0, 1) by decide +kernel) rfl) <|
  ok_c (sn_goto (show decode cX5_readLine 78 = .ok (.goto 8, 3) by decide +kernel) (by decide)) <|
  ok_c (sn_aload_n (show decode cX5_readLine 81 = .ok (.aload_n 0, 1) by decide +kernel) rfl) <|
  ok_c (sn_iconst (v := 1) (show decode cX5_readLine 82 = .ok (.iconst 1, 1) by decide +kernel) (by decide +kernel)) <|
  ok_c (sn_aload_n (show decode cX5_readLine 86 = .ok (.aload_n 0, 1) by decide +kernel) rfl) <|
  ok_c (sn_aload_n (show decode cX5_readLine 90 = .ok (.aload_n 0, 1) by decide +kernel) rfl) <|
  ok_c (sn_getI (fun _ _ => rfl) (sn_get ck_5 (by decide) (show decode cX5_readLine 91 = .ok (.getfield 32, 3) by decide +kernel) wd_1_203)) <|
  ok_c (sn_if_ne (show decode cX5_readLine 94 = .ok (.ifCond .ne 16, 3) by decide +kernel) (by decide)) <|
  ok_c (sn_aload_n (show decode cX5_readLine 97 = .ok (.aload_n 0, 1) by decide +kernel) rfl) <|
  ok_c (sn_getT (j := 1) (fun _ _ => rfl) (sn_get ck_5 (by decide) (show decode cX5_readLine 98 = .ok (.getfield 21, 3) by decide +kernel) wd_1_201)) <|
  ok_c (sn_dup (show decode cX5_readLine 101 = .ok (.dup, 1) by decide +kernel)) <|
  ok_c (sn_getI (fun _ _ => rfl) (sn_get ck_7 (by decide) (show decode cX5_readLine 102 = .ok (.getfield 47, 3) by decide +kernel) wd_1_86)) <|
  ok_c (sn_iconst (v := 1) (show decode cX5_readLine 105 = .ok (.iconst 1, 1) by decide +kernel) (by decide +kernel)) <|
  ok_c (sn_iadd (show decode cX5_readLine 106 = .ok (.iadd, 1) by decide +kernel)) <|
  ok_c (sn_putI ck_7 (by decide) rfl rfl (show decode cX5_readLine 107 = .ok (.putfield 47, 3) by decide +kernel) wd_1_86) <|
  ok_n
def uX5_readLine : gCT := [(11, YX5_readHead, 1, some 5), (20, YX5_isWord, 2, some 5), (27, YX5_readPartner, 1, some 5), (36, YX5_isWord, 2, some 5), (43, YX5_readJoin, 1, some 5), (52, YX5_isWord, 2, some 5), (59, YX5_readDoor, 1, some 5), (68, YX5_isWord, 2, some 5), (75, YX5_readCold, 1, some 5), (83, YX5_refuse, 2, some 5), (87, YX5_expectSign, 1, some 5)]
set_option maxRecDepth 100000 in
theorem ocX5_readLine : gOkC YX5_readLine uX5_readLine := oc_c (gEdge_V cal_X5_readHead ck_5 rfl (show decode cX5_readLine 11 = .ok (.invokevirtual 50, 3) by decide +kernel) wd_2_204 wd_2_206 wp_1_3) <|
  oc_c (gEdge_V cal_X5_isWord ck_5 rfl (show decode cX5_readLine 20 = .ok (.invokevirtual 55, 3) by decide +kernel) wd_2_213 wd_2_215 wp_1_5) <|
  oc_c (gEdge_V cal_X5_readPartner ck_5 rfl (show decode cX5_readLine 27 = .ok (.invokevirtual 59, 3) by decide +kernel) wd_3_38 wd_3_40 wp_1_8) <|
  oc_c (gEdge_V cal_X5_isWord ck_5 rfl (show decode cX5_readLine 36 = .ok (.invokevirtual 55, 3) by decide +kernel) wd_2_213 wd_2_215 wp_1_5) <|
  oc_c (gEdge_V cal_X5_readJoin ck_5 rfl (show decode cX5_readLine 43 = .ok (.invokevirtual 64, 3) by decide +kernel) wd_3_46 wd_3_48 wp_1_9) <|
  oc_c (gEdge_V cal_X5_isWord ck_5 rfl (show decode cX5_readLine 52 = .ok (.invokevirtual 55, 3) by decide +kernel) wd_2_213 wd_2_215 wp_1_5) <|
  oc_c (gEdge_V cal_X5_readDoor ck_5 rfl (show decode cX5_readLine 59 = .ok (.invokevirtual 69, 3) by decide +kernel) wd_3_52 wd_3_54 wp_1_10) <|
  oc_c (gEdge_V cal_X5_isWord ck_5 rfl (show decode cX5_readLine 68 = .ok (.invokevirtual 55, 3) by decide +kernel) wd_2_213 wd_2_215 wp_1_5) <|
  oc_c (gEdge_V cal_X5_readCold ck_5 rfl (show decode cX5_readLine 75 = .ok (.invokevirtual 74, 3) by decide +kernel) wd_3_57 wd_3_59 wp_1_11) <|
  oc_c (gEdge_V cal_X5_refuse ck_5 rfl (show decode cX5_readLine 83 = .ok (.invokevirtual 77, 3) by decide +kernel) wd_3_25 wd_3_27 wp_1_6) <|
  oc_c (gEdge_V cal_X5_expectSign ck_5 rfl (show decode cX5_readLine 87 = .ok (.invokevirtual 81, 3) by decide +kernel) wd_3_62 wd_3_64 wp_1_12) <|
  oc_n
theorem reX5_readLine : ∀ pc ∈ [110], decode cX5_readLine pc = .ok (.return_, 1) := by decide +kernel
def tX5_readHead : List (Nat × gStp) := [(0, i_aload 0 1), (1, i_push (.ref 910) 3), (6, i_aload 0 7), (7, i_push (.ref 911) 9), (12, i_aload 0 13), (13, i_getT 5 1 16), (16, i_aload 0 17), (17, i_push (.int 1) 18), (18, i_push (.int 12) 20), (23, i_putI 7 1 26), (26, i_aload 0 27), (27, i_push (.ref 912) 29), (32, i_aload 0 33), (33, i_getT 5 1 36), (36, i_aload 0 37), (37, i_push (.int 0) 38), (38, i_push (.int 3) 39), (42, i_putI 7 2 45), (45, i_aload 0 46), (46, i_push (.ref 913) 48), (51, i_aload 0 52), (52, i_getT 5 1 55), (55, i_aload 0 56), (56, i_push (.int 0) 57), (57, i_push (.int 20) 59), (62, i_putI 7 3 65), (65, i_aload 0 66), (66, i_push (.ref 914) 68), (71, i_aload 0 72), (72, i_getT 5 1 75), (75, i_aload 0 76), (76, i_push (.int 0) 77), (77, i_push (.int 10) 79), (82, i_putI 7 4 85)]
set_option maxRecDepth 100000 in
theorem okX5_readHead : gOk YX5_readHead tX5_readHead := ok_c (sn_aload_n (show decode cX5_readHead 0 = .ok (.aload_n 0, 1) by decide +kernel) rfl) <|
  ok_c (sn_ldcS 0 (by decide) (by decide +kernel) rfl (show decode cX5_readHead 1 = .ok (.ldc 84, 2) by decide +kernel)) <|
  ok_c (sn_aload_n (show decode cX5_readHead 6 = .ok (.aload_n 0, 1) by decide +kernel) rfl) <|
  ok_c (sn_ldcS 1 (by decide) (by decide +kernel) rfl (show decode cX5_readHead 7 = .ok (.ldc 90, 2) by decide +kernel)) <|
  ok_c (sn_aload_n (show decode cX5_readHead 12 = .ok (.aload_n 0, 1) by decide +kernel) rfl) <|
  ok_c (sn_getT (j := 1) (fun _ _ => rfl) (sn_get ck_5 (by decide) (show decode cX5_readHead 13 = .ok (.getfield 21, 3) by decide +kernel) wd_1_201)) <|
  ok_c (sn_aload_n (show decode cX5_readHead 16 = .ok (.aload_n 0, 1) by decide +kernel) rfl) <|
  ok_c (sn_iconst (v := 1) (show decode cX5_readHead 17 = .ok (.iconst 1, 1) by decide +kernel) (by decide +kernel)) <|
  ok_c (sn_bipush (v := 12) (show decode cX5_readHead 18 = .ok (.bipush 12, 2) by decide +kernel) (by decide +kernel)) <|
  ok_c (sn_putI ck_7 (by decide) rfl rfl (show decode cX5_readHead 23 = .ok (.putfield 96, 3) by decide +kernel) wd_1_89) <|
  ok_c (sn_aload_n (show decode cX5_readHead 26 = .ok (.aload_n 0, 1) by decide +kernel) rfl) <|
  ok_c (sn_ldcS 2 (by decide) (by decide +kernel) rfl (show decode cX5_readHead 27 = .ok (.ldc 98, 2) by decide +kernel)) <|
  ok_c (sn_aload_n (show decode cX5_readHead 32 = .ok (.aload_n 0, 1) by decide +kernel) rfl) <|
  ok_c (sn_getT (j := 1) (fun _ _ => rfl) (sn_get ck_5 (by decide) (show decode cX5_readHead 33 = .ok (.getfield 21, 3) by decide +kernel) wd_1_201)) <|
  ok_c (sn_aload_n (show decode cX5_readHead 36 = .ok (.aload_n 0, 1) by decide +kernel) rfl) <|
  ok_c (sn_iconst (v := 0) (show decode cX5_readHead 37 = .ok (.iconst 0, 1) by decide +kernel) (by decide +kernel)) <|
  ok_c (sn_iconst (v := 3) (show decode cX5_readHead 38 = .ok (.iconst 3, 1) by decide +kernel) (by decide +kernel)) <|
  ok_c (sn_putI ck_7 (by decide) rfl rfl (show decode cX5_readHead 42 = .ok (.putfield 100, 3) by decide +kernel) wd_1_93) <|
  ok_c (sn_aload_n (show decode cX5_readHead 45 = .ok (.aload_n 0, 1) by decide +kernel) rfl) <|
  ok_c (sn_ldcS 3 (by decide) (by decide +kernel) rfl (show decode cX5_readHead 46 = .ok (.ldc 102, 2) by decide +kernel)) <|
  ok_c (sn_aload_n (show decode cX5_readHead 51 = .ok (.aload_n 0, 1) by decide +kernel) rfl) <|
  ok_c (sn_getT (j := 1) (fun _ _ => rfl) (sn_get ck_5 (by decide) (show decode cX5_readHead 52 = .ok (.getfield 21, 3) by decide +kernel) wd_1_201)) <|
  ok_c (sn_aload_n (show decode cX5_readHead 55 = .ok (.aload_n 0, 1) by decide +kernel) rfl) <|
  ok_c (sn_iconst (v := 0) (show decode cX5_readHead 56 = .ok (.iconst 0, 1) by decide +kernel) (by decide +kernel)) <|
  ok_c (sn_bipush (v := 20) (show decode cX5_readHead 57 = .ok (.bipush 20, 2) by decide +kernel) (by decide +kernel)) <|
  ok_c (sn_putI ck_7 (by decide) rfl rfl (show decode cX5_readHead 62 = .ok (.putfield 104, 3) by decide +kernel) wd_1_97) <|
  ok_c (sn_aload_n (show decode cX5_readHead 65 = .ok (.aload_n 0, 1) by decide +kernel) rfl) <|
  ok_c (sn_ldcS 4 (by decide) (by decide +kernel) rfl (show decode cX5_readHead 66 = .ok (.ldc 106, 2) by decide +kernel)) <|
  ok_c (sn_aload_n (show decode cX5_readHead 71 = .ok (.aload_n 0, 1) by decide +kernel) rfl) <|
  ok_c (sn_getT (j := 1) (fun _ _ => rfl) (sn_get ck_5 (by decide) (show decode cX5_readHead 72 = .ok (.getfield 21, 3) by decide +kernel) wd_1_201)) <|
  ok_c (sn_aload_n (show decode cX5_readHead 75 = .ok (.aload_n 0, 1) by decide +kernel) rfl) <|
  ok_c (sn_iconst (v := 0) (show decode cX5_readHead 76 = .ok (.iconst 0, 1) by decide +kernel) (by decide +kernel)) <|
  ok_c (sn_bipush (v := 10) (show decode cX5_readHead 77 = .ok (.bipush 10, 2) by decide +kernel) (by decide +kernel)) <|
  ok_c (sn_putI ck_7 (by decide) rfl rfl (show decode cX5_readHead 82 = .ok (.putfield 108, 3) by decide +kernel) wd_1_101) <|
  ok_n
def uX5_readHead : gCT := [(3, YX5_expectWord, 2, some 5), (9, YX5_expectWord, 2, some 5), (20, YX5_expectNumber, 3, some 5), (29, YX5_expectWord, 2, some 5), (39, YX5_expectNumber, 3, some 5), (48, YX5_expectWord, 2, some 5), (59, YX5_expectNumber, 3, some 5), (68, YX5_expectWord, 2, some 5), (79, YX5_expectNumber, 3, some 5)]
set_option maxRecDepth 100000 in
theorem ocX5_readHead : gOkC YX5_readHead uX5_readHead := oc_c (gEdge_V cal_X5_expectWord ck_5 rfl (show decode cX5_readHead 3 = .ok (.invokevirtual 86, 3) by decide +kernel) wd_2_209 wd_2_211 wp_1_4) <|
  oc_c (gEdge_V cal_X5_expectWord ck_5 rfl (show decode cX5_readHead 9 = .ok (.invokevirtual 86, 3) by decide +kernel) wd_2_209 wd_2_211 wp_1_4) <|
  oc_c (gEdge_V cal_X5_expectNumber ck_5 rfl (show decode cX5_readHead 20 = .ok (.invokevirtual 92, 3) by decide +kernel) wd_3_30 wd_3_32 wp_1_7) <|
  oc_c (gEdge_V cal_X5_expectWord ck_5 rfl (show decode cX5_readHead 29 = .ok (.invokevirtual 86, 3) by decide +kernel) wd_2_209 wd_2_211 wp_1_4) <|
  oc_c (gEdge_V cal_X5_expectNumber ck_5 rfl (show decode cX5_readHead 39 = .ok (.invokevirtual 92, 3) by decide +kernel) wd_3_30 wd_3_32 wp_1_7) <|
  oc_c (gEdge_V cal_X5_expectWord ck_5 rfl (show decode cX5_readHead 48 = .ok (.invokevirtual 86, 3) by decide +kernel) wd_2_209 wd_2_211 wp_1_4) <|
  oc_c (gEdge_V cal_X5_expectNumber ck_5 rfl (show decode cX5_readHead 59 = .ok (.invokevirtual 92, 3) by decide +kernel) wd_3_30 wd_3_32 wp_1_7) <|
  oc_c (gEdge_V cal_X5_expectWord ck_5 rfl (show decode cX5_readHead 68 = .ok (.invokevirtual 86, 3) by decide +kernel) wd_2_209 wd_2_211 wp_1_4) <|
  oc_c (gEdge_V cal_X5_expectNumber ck_5 rfl (show decode cX5_readHead 79 = .ok (.invokevirtual 92, 3) by decide +kernel) wd_3_30 wd_3_32 wp_1_7) <|
  oc_n
theorem reX5_readHead : ∀ pc ∈ [85], decode cX5_readHead pc = .ok (.return_, 1) := by decide +kernel
def tX5_readPartner : List (Nat × gStp) := [(0, i_aload 0 1), (1, i_getT 5 1 4), (4, i_getI 7 5 7), (7, i_istore 1 8), (8, i_iload 1 9), (9, i_push (.int 6) 11), (11, i_ic_lt 20 14), (14, i_aload 0 15), (15, i_push (.int 3) 16), (20, i_aload 0 21), (24, i_aload 0 25), (25, i_push (.ref 916) 27), (30, i_aload 0 31), (31, i_getT 5 1 34), (34, i_getO 7 1 37), (37, i_iload 1 38), (38, i_aload 0 39), (39, i_push (.int 1) 40), (40, i_push (.int 9) 42), (45, i_iast 46), (46, i_aload 0 47), (47, i_push (.ref 917) 49), (52, i_aload 0 53), (53, i_getT 5 1 56), (56, i_getO 7 2 59), (59, i_iload 1 60), (60, i_aload 0 61), (61, i_push (.int 0) 62), (62, i_push (.int 99) 64), (67, i_iast 68), (68, i_aload 0 69), (69, i_push (.ref 918) 71), (74, i_aload 0 75), (75, i_getT 5 1 78), (78, i_getO 7 3 81), (81, i_iload 1 82), (82, i_aload 0 83), (83, i_push (.int 0) 84), (84, i_push (.int 9) 86), (89, i_iast 90), (90, i_aload 0 91), (91, i_getT 5 1 94), (94, i_dup 95), (95, i_getI 7 5 98), (98, i_push (.int 1) 99), (99, i_ii (fun x y => x + y) 100), (100, i_putI 7 5 103)]
set_option maxRecDepth 100000 in
theorem okX5_readPartner : gOk YX5_readPartner tX5_readPartner := ok_c (sn_aload_n (show decode cX5_readPartner 0 = .ok (.aload_n 0, 1) by decide +kernel) rfl) <|
  ok_c (sn_getT (j := 1) (fun _ _ => rfl) (sn_get ck_5 (by decide) (show decode cX5_readPartner 1 = .ok (.getfield 21, 3) by decide +kernel) wd_1_201)) <|
  ok_c (sn_getI (fun _ _ => rfl) (sn_get ck_7 (by decide) (show decode cX5_readPartner 4 = .ok (.getfield 110, 3) by decide +kernel) wd_1_106)) <|
  ok_c (sn_istore_n (show decode cX5_readPartner 7 = .ok (.istore_n 1, 1) by decide +kernel) rfl (by decide)) <|
  ok_c (sn_iload_n (show decode cX5_readPartner 8 = .ok (.iload_n 1, 1) by decide +kernel) rfl) <|
  ok_c (sn_bipush (v := 6) (show decode cX5_readPartner 9 = .ok (.bipush 6, 2) by decide +kernel) (by decide +kernel)) <|
  ok_c (sn_ic_lt (show decode cX5_readPartner 11 = .ok (.if_icmp .lt 9, 3) by decide +kernel) (by decide)) <|
  ok_c (sn_aload_n (show decode cX5_readPartner 14 = .ok (.aload_n 0, 1) by decide +kernel) rfl) <|
  ok_c (sn_iconst (v := 3) (show decode cX5_readPartner 15 = .ok (.iconst 3, 1) by decide +kernel) (by decide +kernel)) <|
  ok_c (sn_aload_n (show decode cX5_readPartner 20 = .ok (.aload_n 0, 1) by decide +kernel) rfl) <|
  ok_c (sn_aload_n (show decode cX5_readPartner 24 = .ok (.aload_n 0, 1) by decide +kernel) rfl) <|
  ok_c (sn_ldcS 6 (by decide) (by decide +kernel) rfl (show decode cX5_readPartner 25 = .ok (.ldc 113, 2) by decide +kernel)) <|
  ok_c (sn_aload_n (show decode cX5_readPartner 30 = .ok (.aload_n 0, 1) by decide +kernel) rfl) <|
  ok_c (sn_getT (j := 1) (fun _ _ => rfl) (sn_get ck_5 (by decide) (show decode cX5_readPartner 31 = .ok (.getfield 21, 3) by decide +kernel) wd_1_201)) <|
  ok_c (sn_getO (j := 9) (fun _ _ => rfl) (sn_get ck_7 (by decide) (show decode cX5_readPartner 34 = .ok (.getfield 115, 3) by decide +kernel) wd_1_124)) <|
  ok_c (sn_iload_n (show decode cX5_readPartner 37 = .ok (.iload_n 1, 1) by decide +kernel) rfl) <|
  ok_c (sn_aload_n (show decode cX5_readPartner 38 = .ok (.aload_n 0, 1) by decide +kernel) rfl) <|
  ok_c (sn_iconst (v := 1) (show decode cX5_readPartner 39 = .ok (.iconst 1, 1) by decide +kernel) (by decide +kernel)) <|
  ok_c (sn_bipush (v := 9) (show decode cX5_readPartner 40 = .ok (.bipush 9, 2) by decide +kernel) (by decide +kernel)) <|
  ok_c (sn_iast (show decode cX5_readPartner 45 = .ok (.iastore, 1) by decide +kernel)) <|
  ok_c (sn_aload_n (show decode cX5_readPartner 46 = .ok (.aload_n 0, 1) by decide +kernel) rfl) <|
  ok_c (sn_ldcS 7 (by decide) (by decide +kernel) rfl (show decode cX5_readPartner 47 = .ok (.ldc 119, 2) by decide +kernel)) <|
  ok_c (sn_aload_n (show decode cX5_readPartner 52 = .ok (.aload_n 0, 1) by decide +kernel) rfl) <|
  ok_c (sn_getT (j := 1) (fun _ _ => rfl) (sn_get ck_5 (by decide) (show decode cX5_readPartner 53 = .ok (.getfield 21, 3) by decide +kernel) wd_1_201)) <|
  ok_c (sn_getO (j := 10) (fun _ _ => rfl) (sn_get ck_7 (by decide) (show decode cX5_readPartner 56 = .ok (.getfield 121, 3) by decide +kernel) wd_1_127)) <|
  ok_c (sn_iload_n (show decode cX5_readPartner 59 = .ok (.iload_n 1, 1) by decide +kernel) rfl) <|
  ok_c (sn_aload_n (show decode cX5_readPartner 60 = .ok (.aload_n 0, 1) by decide +kernel) rfl) <|
  ok_c (sn_iconst (v := 0) (show decode cX5_readPartner 61 = .ok (.iconst 0, 1) by decide +kernel) (by decide +kernel)) <|
  ok_c (sn_bipush (v := 99) (show decode cX5_readPartner 62 = .ok (.bipush 99, 2) by decide +kernel) (by decide +kernel)) <|
  ok_c (sn_iast (show decode cX5_readPartner 67 = .ok (.iastore, 1) by decide +kernel)) <|
  ok_c (sn_aload_n (show decode cX5_readPartner 68 = .ok (.aload_n 0, 1) by decide +kernel) rfl) <|
  ok_c (sn_ldcS 8 (by decide) (by decide +kernel) rfl (show decode cX5_readPartner 69 = .ok (.ldc 124, 2) by decide +kernel)) <|
  ok_c (sn_aload_n (show decode cX5_readPartner 74 = .ok (.aload_n 0, 1) by decide +kernel) rfl) <|
  ok_c (sn_getT (j := 1) (fun _ _ => rfl) (sn_get ck_5 (by decide) (show decode cX5_readPartner 75 = .ok (.getfield 21, 3) by decide +kernel) wd_1_201)) <|
  ok_c (sn_getO (j := 11) (fun _ _ => rfl) (sn_get ck_7 (by decide) (show decode cX5_readPartner 78 = .ok (.getfield 126, 3) by decide +kernel) wd_1_131)) <|
  ok_c (sn_iload_n (show decode cX5_readPartner 81 = .ok (.iload_n 1, 1) by decide +kernel) rfl) <|
  ok_c (sn_aload_n (show decode cX5_readPartner 82 = .ok (.aload_n 0, 1) by decide +kernel) rfl) <|
  ok_c (sn_iconst (v := 0) (show decode cX5_readPartner 83 = .ok (.iconst 0, 1) by decide +kernel) (by decide +kernel)) <|
  ok_c (sn_bipush (v := 9) (show decode cX5_readPartner 84 = .ok (.bipush 9, 2) by decide +kernel) (by decide +kernel)) <|
  ok_c (sn_iast (show decode cX5_readPartner 89 = .ok (.iastore, 1) by decide +kernel)) <|
  ok_c (sn_aload_n (show decode cX5_readPartner 90 = .ok (.aload_n 0, 1) by decide +kernel) rfl) <|
  ok_c (sn_getT (j := 1) (fun _ _ => rfl) (sn_get ck_5 (by decide) (show decode cX5_readPartner 91 = .ok (.getfield 21, 3) by decide +kernel) wd_1_201)) <|
  ok_c (sn_dup (show decode cX5_readPartner 94 = .ok (.dup, 1) by decide +kernel)) <|
  ok_c (sn_getI (fun _ _ => rfl) (sn_get ck_7 (by decide) (show decode cX5_readPartner 95 = .ok (.getfield 110, 3) by decide +kernel) wd_1_106)) <|
  ok_c (sn_iconst (v := 1) (show decode cX5_readPartner 98 = .ok (.iconst 1, 1) by decide +kernel) (by decide +kernel)) <|
  ok_c (sn_iadd (show decode cX5_readPartner 99 = .ok (.iadd, 1) by decide +kernel)) <|
  ok_c (sn_putI ck_7 (by decide) rfl rfl (show decode cX5_readPartner 100 = .ok (.putfield 110, 3) by decide +kernel) wd_1_106) <|
  ok_n
def uX5_readPartner : gCT := [(16, YX5_refuse, 2, some 5), (21, YX5_advance, 1, some 5), (27, YX5_expectWord, 2, some 5), (42, YX5_expectNumber, 3, some 5), (49, YX5_expectWord, 2, some 5), (64, YX5_expectNumber, 3, some 5), (71, YX5_expectWord, 2, some 5), (86, YX5_expectNumber, 3, some 5)]
set_option maxRecDepth 100000 in
theorem ocX5_readPartner : gOkC YX5_readPartner uX5_readPartner := oc_c (gEdge_V cal_X5_refuse ck_5 rfl (show decode cX5_readPartner 16 = .ok (.invokevirtual 77, 3) by decide +kernel) wd_3_25 wd_3_27 wp_1_6) <|
  oc_c (gEdge_V cal_X5_advance ck_5 rfl (show decode cX5_readPartner 21 = .ok (.invokevirtual 38, 3) by decide +kernel) wd_2_173 wd_2_175 wp_1_0) <|
  oc_c (gEdge_V cal_X5_expectWord ck_5 rfl (show decode cX5_readPartner 27 = .ok (.invokevirtual 86, 3) by decide +kernel) wd_2_209 wd_2_211 wp_1_4) <|
  oc_c (gEdge_V cal_X5_expectNumber ck_5 rfl (show decode cX5_readPartner 42 = .ok (.invokevirtual 92, 3) by decide +kernel) wd_3_30 wd_3_32 wp_1_7) <|
  oc_c (gEdge_V cal_X5_expectWord ck_5 rfl (show decode cX5_readPartner 49 = .ok (.invokevirtual 86, 3) by decide +kernel) wd_2_209 wd_2_211 wp_1_4) <|
  oc_c (gEdge_V cal_X5_expectNumber ck_5 rfl (show decode cX5_readPartner 64 = .ok (.invokevirtual 92, 3) by decide +kernel) wd_3_30 wd_3_32 wp_1_7) <|
  oc_c (gEdge_V cal_X5_expectWord ck_5 rfl (show decode cX5_readPartner 71 = .ok (.invokevirtual 86, 3) by decide +kernel) wd_2_209 wd_2_211 wp_1_4) <|
  oc_c (gEdge_V cal_X5_expectNumber ck_5 rfl (show decode cX5_readPartner 86 = .ok (.invokevirtual 92, 3) by decide +kernel) wd_3_30 wd_3_32 wp_1_7) <|
  oc_n
theorem reX5_readPartner : ∀ pc ∈ [19, 103], decode cX5_readPartner pc = .ok (.return_, 1) := by decide +kernel
def tX5_readJoin : List (Nat × gStp) := [(0, i_aload 0 1), (1, i_getT 5 1 4), (4, i_getI 7 6 7), (7, i_istore 1 8), (8, i_iload 1 9), (9, i_push (.int 7) 11), (11, i_ic_lt 20 14), (14, i_aload 0 15), (15, i_push (.int 3) 16), (20, i_aload 0 21), (24, i_aload 0 25), (25, i_getT 5 1 28), (28, i_getO 7 4 31), (31, i_iload 1 32), (32, i_aload 0 33), (33, i_push (.int 0) 34), (34, i_aload 0 35), (35, i_getT 5 1 38), (38, i_getI 7 5 41), (41, i_push (.int 1) 42), (42, i_ii (fun x y => x - y) 43), (46, i_iast 47), (47, i_aload 0 48), (48, i_getI 5 4 51), (51, i_push (.int 2) 52), (52, i_ic_ne 76 55), (55, i_aload 0 56), (56, i_getI 5 7 59), (59, i_aload 0 60), (60, i_getT 5 1 63), (63, i_getO 7 4 66), (66, i_iload 1 67), (67, i_iald 68), (68, i_ic_ne 76 71), (71, i_aload 0 72), (72, i_push (.int 2) 73), (76, i_aload 0 77), (77, i_getT 5 1 80), (80, i_getO 7 5 83), (83, i_iload 1 84), (84, i_aload 0 85), (85, i_push (.int 0) 86), (86, i_aload 0 87), (87, i_getT 5 1 90), (90, i_getI 7 5 93), (93, i_push (.int 1) 94), (94, i_ii (fun x y => x - y) 95), (98, i_iast 99), (99, i_aload 0 100), (100, i_push (.ref 920) 102), (105, i_aload 0 106), (106, i_getT 5 1 109), (109, i_getO 7 6 112), (112, i_iload 1 113), (113, i_aload 0 114), (114, i_push (.int 1) 115), (115, i_push (.int 9) 117), (120, i_iast 121), (121, i_aload 0 122), (122, i_getT 5 1 125), (125, i_dup 126), (126, i_getI 7 6 129), (129, i_push (.int 1) 130), (130, i_ii (fun x y => x + y) 131), (131, i_putI 7 6 134)]
set_option maxRecDepth 100000 in
theorem okX5_readJoin : gOk YX5_readJoin tX5_readJoin := ok_c (sn_aload_n (show decode cX5_readJoin 0 = .ok (.aload_n 0, 1) by decide +kernel) rfl) <|
  ok_c (sn_getT (j := 1) (fun _ _ => rfl) (sn_get ck_5 (by decide) (show decode cX5_readJoin 1 = .ok (.getfield 21, 3) by decide +kernel) wd_1_201)) <|
  ok_c (sn_getI (fun _ _ => rfl) (sn_get ck_7 (by decide) (show decode cX5_readJoin 4 = .ok (.getfield 128, 3) by decide +kernel) wd_1_112)) <|
  ok_c (sn_istore_n (show decode cX5_readJoin 7 = .ok (.istore_n 1, 1) by decide +kernel) rfl (by decide)) <|
  ok_c (sn_iload_n (show decode cX5_readJoin 8 = .ok (.iload_n 1, 1) by decide +kernel) rfl) <|
  ok_c (sn_bipush (v := 7) (show decode cX5_readJoin 9 = .ok (.bipush 7, 2) by decide +kernel) (by decide +kernel)) <|
  ok_c (sn_ic_lt (show decode cX5_readJoin 11 = .ok (.if_icmp .lt 9, 3) by decide +kernel) (by decide)) <|
  ok_c (sn_aload_n (show decode cX5_readJoin 14 = .ok (.aload_n 0, 1) by decide +kernel) rfl) <|
  ok_c (sn_iconst (v := 3) (show decode cX5_readJoin 15 = .ok (.iconst 3, 1) by decide +kernel) (by decide +kernel)) <|
  ok_c (sn_aload_n (show decode cX5_readJoin 20 = .ok (.aload_n 0, 1) by decide +kernel) rfl) <|
  ok_c (sn_aload_n (show decode cX5_readJoin 24 = .ok (.aload_n 0, 1) by decide +kernel) rfl) <|
  ok_c (sn_getT (j := 1) (fun _ _ => rfl) (sn_get ck_5 (by decide) (show decode cX5_readJoin 25 = .ok (.getfield 21, 3) by decide +kernel) wd_1_201)) <|
  ok_c (sn_getO (j := 12) (fun _ _ => rfl) (sn_get ck_7 (by decide) (show decode cX5_readJoin 28 = .ok (.getfield 131, 3) by decide +kernel) wd_1_136)) <|
  ok_c (sn_iload_n (show decode cX5_readJoin 31 = .ok (.iload_n 1, 1) by decide +kernel) rfl) <|
  ok_c (sn_aload_n (show decode cX5_readJoin 32 = .ok (.aload_n 0, 1) by decide +kernel) rfl) <|
  ok_c (sn_iconst (v := 0) (show decode cX5_readJoin 33 = .ok (.iconst 0, 1) by decide +kernel) (by decide +kernel)) <|
  ok_c (sn_aload_n (show decode cX5_readJoin 34 = .ok (.aload_n 0, 1) by decide +kernel) rfl) <|
  ok_c (sn_getT (j := 1) (fun _ _ => rfl) (sn_get ck_5 (by decide) (show decode cX5_readJoin 35 = .ok (.getfield 21, 3) by decide +kernel) wd_1_201)) <|
  ok_c (sn_getI (fun _ _ => rfl) (sn_get ck_7 (by decide) (show decode cX5_readJoin 38 = .ok (.getfield 110, 3) by decide +kernel) wd_1_106)) <|
  ok_c (sn_iconst (v := 1) (show decode cX5_readJoin 41 = .ok (.iconst 1, 1) by decide +kernel) (by decide +kernel)) <|
  ok_c (sn_isub (show decode cX5_readJoin 42 = .ok (.isub, 1) by decide +kernel)) <|
  ok_c (sn_iast (show decode cX5_readJoin 46 = .ok (.iastore, 1) by decide +kernel)) <|
  ok_c (sn_aload_n (show decode cX5_readJoin 47 = .ok (.aload_n 0, 1) by decide +kernel) rfl) <|
  ok_c (sn_getI (fun _ _ => rfl) (sn_get ck_5 (by decide) (show decode cX5_readJoin 48 = .ok (.getfield 41, 3) by decide +kernel) wd_1_207)) <|
  ok_c (sn_iconst (v := 2) (show decode cX5_readJoin 51 = .ok (.iconst 2, 1) by decide +kernel) (by decide +kernel)) <|
  ok_c (sn_ic_ne (show decode cX5_readJoin 52 = .ok (.if_icmp .ne 24, 3) by decide +kernel) (by decide)) <|
  ok_c (sn_aload_n (show decode cX5_readJoin 55 = .ok (.aload_n 0, 1) by decide +kernel) rfl) <|
  ok_c (sn_getI (fun _ _ => rfl) (sn_get ck_5 (by decide) (show decode cX5_readJoin 56 = .ok (.getfield 134, 3) by decide +kernel) wd_1_210)) <|
  ok_c (sn_aload_n (show decode cX5_readJoin 59 = .ok (.aload_n 0, 1) by decide +kernel) rfl) <|
  ok_c (sn_getT (j := 1) (fun _ _ => rfl) (sn_get ck_5 (by decide) (show decode cX5_readJoin 60 = .ok (.getfield 21, 3) by decide +kernel) wd_1_201)) <|
  ok_c (sn_getO (j := 12) (fun _ _ => rfl) (sn_get ck_7 (by decide) (show decode cX5_readJoin 63 = .ok (.getfield 131, 3) by decide +kernel) wd_1_136)) <|
  ok_c (sn_iload_n (show decode cX5_readJoin 66 = .ok (.iload_n 1, 1) by decide +kernel) rfl) <|
  ok_c (sn_iald (show decode cX5_readJoin 67 = .ok (.iaload, 1) by decide +kernel)) <|
  ok_c (sn_ic_ne (show decode cX5_readJoin 68 = .ok (.if_icmp .ne 8, 3) by decide +kernel) (by decide)) <|
  ok_c (sn_aload_n (show decode cX5_readJoin 71 = .ok (.aload_n 0, 1) by decide +kernel) rfl) <|
  ok_c (sn_iconst (v := 2) (show decode cX5_readJoin 72 = .ok (.iconst 2, 1) by decide +kernel) (by decide +kernel)) <|
  ok_c (sn_aload_n (show decode cX5_readJoin 76 = .ok (.aload_n 0, 1) by decide +kernel) rfl) <|
  ok_c (sn_getT (j := 1) (fun _ _ => rfl) (sn_get ck_5 (by decide) (show decode cX5_readJoin 77 = .ok (.getfield 21, 3) by decide +kernel) wd_1_201)) <|
  ok_c (sn_getO (j := 13) (fun _ _ => rfl) (sn_get ck_7 (by decide) (show decode cX5_readJoin 80 = .ok (.getfield 137, 3) by decide +kernel) wd_1_140)) <|
  ok_c (sn_iload_n (show decode cX5_readJoin 83 = .ok (.iload_n 1, 1) by decide +kernel) rfl) <|
  ok_c (sn_aload_n (show decode cX5_readJoin 84 = .ok (.aload_n 0, 1) by decide +kernel) rfl) <|
  ok_c (sn_iconst (v := 0) (show decode cX5_readJoin 85 = .ok (.iconst 0, 1) by decide +kernel) (by decide +kernel)) <|
  ok_c (sn_aload_n (show decode cX5_readJoin 86 = .ok (.aload_n 0, 1) by decide +kernel) rfl) <|
  ok_c (sn_getT (j := 1) (fun _ _ => rfl) (sn_get ck_5 (by decide) (show decode cX5_readJoin 87 = .ok (.getfield 21, 3) by decide +kernel) wd_1_201)) <|
  ok_c (sn_getI (fun _ _ => rfl) (sn_get ck_7 (by decide) (show decode cX5_readJoin 90 = .ok (.getfield 110, 3) by decide +kernel) wd_1_106)) <|
  ok_c (sn_iconst (v := 1) (show decode cX5_readJoin 93 = .ok (.iconst 1, 1) by decide +kernel) (by decide +kernel)) <|
  ok_c (sn_isub (show decode cX5_readJoin 94 = .ok (.isub, 1) by decide +kernel)) <|
  ok_c (sn_iast (show decode cX5_readJoin 98 = .ok (.iastore, 1) by decide +kernel)) <|
  ok_c (sn_aload_n (show decode cX5_readJoin 99 = .ok (.aload_n 0, 1) by decide +kernel) rfl) <|
  ok_c (sn_ldcS 10 (by decide) (by decide +kernel) rfl (show decode cX5_readJoin 100 = .ok (.ldc 140, 2) by decide +kernel)) <|
  ok_c (sn_aload_n (show decode cX5_readJoin 105 = .ok (.aload_n 0, 1) by decide +kernel) rfl) <|
  ok_c (sn_getT (j := 1) (fun _ _ => rfl) (sn_get ck_5 (by decide) (show decode cX5_readJoin 106 = .ok (.getfield 21, 3) by decide +kernel) wd_1_201)) <|
  ok_c (sn_getO (j := 14) (fun _ _ => rfl) (sn_get ck_7 (by decide) (show decode cX5_readJoin 109 = .ok (.getfield 142, 3) by decide +kernel) wd_1_144)) <|
  ok_c (sn_iload_n (show decode cX5_readJoin 112 = .ok (.iload_n 1, 1) by decide +kernel) rfl) <|
  ok_c (sn_aload_n (show decode cX5_readJoin 113 = .ok (.aload_n 0, 1) by decide +kernel) rfl) <|
  ok_c (sn_iconst (v := 1) (show decode cX5_readJoin 114 = .ok (.iconst 1, 1) by decide +kernel) (by decide +kernel)) <|
  ok_c (sn_bipush (v := 9) (show decode cX5_readJoin 115 = .ok (.bipush 9, 2) by decide +kernel) (by decide +kernel)) <|
  ok_c (sn_iast (show decode cX5_readJoin 120 = .ok (.iastore, 1) by decide +kernel)) <|
  ok_c (sn_aload_n (show decode cX5_readJoin 121 = .ok (.aload_n 0, 1) by decide +kernel) rfl) <|
  ok_c (sn_getT (j := 1) (fun _ _ => rfl) (sn_get ck_5 (by decide) (show decode cX5_readJoin 122 = .ok (.getfield 21, 3) by decide +kernel) wd_1_201)) <|
  ok_c (sn_dup (show decode cX5_readJoin 125 = .ok (.dup, 1) by decide +kernel)) <|
  ok_c (sn_getI (fun _ _ => rfl) (sn_get ck_7 (by decide) (show decode cX5_readJoin 126 = .ok (.getfield 128, 3) by decide +kernel) wd_1_112)) <|
  ok_c (sn_iconst (v := 1) (show decode cX5_readJoin 129 = .ok (.iconst 1, 1) by decide +kernel) (by decide +kernel)) <|
  ok_c (sn_iadd (show decode cX5_readJoin 130 = .ok (.iadd, 1) by decide +kernel)) <|
  ok_c (sn_putI ck_7 (by decide) rfl rfl (show decode cX5_readJoin 131 = .ok (.putfield 128, 3) by decide +kernel) wd_1_112) <|
  ok_n
def uX5_readJoin : gCT := [(16, YX5_refuse, 2, some 5), (21, YX5_advance, 1, some 5), (43, YX5_expectNumber, 3, some 5), (73, YX5_refuse, 2, some 5), (95, YX5_expectNumber, 3, some 5), (102, YX5_expectWord, 2, some 5), (117, YX5_expectNumber, 3, some 5)]
set_option maxRecDepth 100000 in
theorem ocX5_readJoin : gOkC YX5_readJoin uX5_readJoin := oc_c (gEdge_V cal_X5_refuse ck_5 rfl (show decode cX5_readJoin 16 = .ok (.invokevirtual 77, 3) by decide +kernel) wd_3_25 wd_3_27 wp_1_6) <|
  oc_c (gEdge_V cal_X5_advance ck_5 rfl (show decode cX5_readJoin 21 = .ok (.invokevirtual 38, 3) by decide +kernel) wd_2_173 wd_2_175 wp_1_0) <|
  oc_c (gEdge_V cal_X5_expectNumber ck_5 rfl (show decode cX5_readJoin 43 = .ok (.invokevirtual 92, 3) by decide +kernel) wd_3_30 wd_3_32 wp_1_7) <|
  oc_c (gEdge_V cal_X5_refuse ck_5 rfl (show decode cX5_readJoin 73 = .ok (.invokevirtual 77, 3) by decide +kernel) wd_3_25 wd_3_27 wp_1_6) <|
  oc_c (gEdge_V cal_X5_expectNumber ck_5 rfl (show decode cX5_readJoin 95 = .ok (.invokevirtual 92, 3) by decide +kernel) wd_3_30 wd_3_32 wp_1_7) <|
  oc_c (gEdge_V cal_X5_expectWord ck_5 rfl (show decode cX5_readJoin 102 = .ok (.invokevirtual 86, 3) by decide +kernel) wd_2_209 wd_2_211 wp_1_4) <|
  oc_c (gEdge_V cal_X5_expectNumber ck_5 rfl (show decode cX5_readJoin 117 = .ok (.invokevirtual 92, 3) by decide +kernel) wd_3_30 wd_3_32 wp_1_7) <|
  oc_n
theorem reX5_readJoin : ∀ pc ∈ [19, 134], decode cX5_readJoin pc = .ok (.return_, 1) := by decide +kernel
def tX5_readDoor : List (Nat × gStp) := [(0, i_aload 0 1), (1, i_getT 5 1 4), (4, i_getI 7 7 7), (7, i_istore 1 8), (8, i_iload 1 9), (9, i_push (.int 5) 10), (10, i_ic_lt 19 13), (13, i_aload 0 14), (14, i_push (.int 3) 15), (19, i_aload 0 20), (23, i_aload 0 24), (24, i_getT 5 1 27), (27, i_getO 7 7 30), (30, i_iload 1 31), (31, i_aload 0 32), (32, i_push (.int 1) 33), (33, i_push (.int 60) 35), (38, i_iast 39), (39, i_aload 0 40), (40, i_getT 5 1 43), (43, i_dup 44), (44, i_getI 7 7 47), (47, i_push (.int 1) 48), (48, i_ii (fun x y => x + y) 49), (49, i_putI 7 7 52)]
set_option maxRecDepth 100000 in
theorem okX5_readDoor : gOk YX5_readDoor tX5_readDoor := ok_c (sn_aload_n (show decode cX5_readDoor 0 = .ok (.aload_n 0, 1) by decide +kernel) rfl) <|
  ok_c (sn_getT (j := 1) (fun _ _ => rfl) (sn_get ck_5 (by decide) (show decode cX5_readDoor 1 = .ok (.getfield 21, 3) by decide +kernel) wd_1_201)) <|
  ok_c (sn_getI (fun _ _ => rfl) (sn_get ck_7 (by decide) (show decode cX5_readDoor 4 = .ok (.getfield 145, 3) by decide +kernel) wd_1_116)) <|
  ok_c (sn_istore_n (show decode cX5_readDoor 7 = .ok (.istore_n 1, 1) by decide +kernel) rfl (by decide)) <|
  ok_c (sn_iload_n (show decode cX5_readDoor 8 = .ok (.iload_n 1, 1) by decide +kernel) rfl) <|
  ok_c (sn_iconst (v := 5) (show decode cX5_readDoor 9 = .ok (.iconst 5, 1) by decide +kernel) (by decide +kernel)) <|
  ok_c (sn_ic_lt (show decode cX5_readDoor 10 = .ok (.if_icmp .lt 9, 3) by decide +kernel) (by decide)) <|
  ok_c (sn_aload_n (show decode cX5_readDoor 13 = .ok (.aload_n 0, 1) by decide +kernel) rfl) <|
  ok_c (sn_iconst (v := 3) (show decode cX5_readDoor 14 = .ok (.iconst 3, 1) by decide +kernel) (by decide +kernel)) <|
  ok_c (sn_aload_n (show decode cX5_readDoor 19 = .ok (.aload_n 0, 1) by decide +kernel) rfl) <|
  ok_c (sn_aload_n (show decode cX5_readDoor 23 = .ok (.aload_n 0, 1) by decide +kernel) rfl) <|
  ok_c (sn_getT (j := 1) (fun _ _ => rfl) (sn_get ck_5 (by decide) (show decode cX5_readDoor 24 = .ok (.getfield 21, 3) by decide +kernel) wd_1_201)) <|
  ok_c (sn_getO (j := 15) (fun _ _ => rfl) (sn_get ck_7 (by decide) (show decode cX5_readDoor 27 = .ok (.getfield 148, 3) by decide +kernel) wd_1_148)) <|
  ok_c (sn_iload_n (show decode cX5_readDoor 30 = .ok (.iload_n 1, 1) by decide +kernel) rfl) <|
  ok_c (sn_aload_n (show decode cX5_readDoor 31 = .ok (.aload_n 0, 1) by decide +kernel) rfl) <|
  ok_c (sn_iconst (v := 1) (show decode cX5_readDoor 32 = .ok (.iconst 1, 1) by decide +kernel) (by decide +kernel)) <|
  ok_c (sn_bipush (v := 60) (show decode cX5_readDoor 33 = .ok (.bipush 60, 2) by decide +kernel) (by decide +kernel)) <|
  ok_c (sn_iast (show decode cX5_readDoor 38 = .ok (.iastore, 1) by decide +kernel)) <|
  ok_c (sn_aload_n (show decode cX5_readDoor 39 = .ok (.aload_n 0, 1) by decide +kernel) rfl) <|
  ok_c (sn_getT (j := 1) (fun _ _ => rfl) (sn_get ck_5 (by decide) (show decode cX5_readDoor 40 = .ok (.getfield 21, 3) by decide +kernel) wd_1_201)) <|
  ok_c (sn_dup (show decode cX5_readDoor 43 = .ok (.dup, 1) by decide +kernel)) <|
  ok_c (sn_getI (fun _ _ => rfl) (sn_get ck_7 (by decide) (show decode cX5_readDoor 44 = .ok (.getfield 145, 3) by decide +kernel) wd_1_116)) <|
  ok_c (sn_iconst (v := 1) (show decode cX5_readDoor 47 = .ok (.iconst 1, 1) by decide +kernel) (by decide +kernel)) <|
  ok_c (sn_iadd (show decode cX5_readDoor 48 = .ok (.iadd, 1) by decide +kernel)) <|
  ok_c (sn_putI ck_7 (by decide) rfl rfl (show decode cX5_readDoor 49 = .ok (.putfield 145, 3) by decide +kernel) wd_1_116) <|
  ok_n
def uX5_readDoor : gCT := [(15, YX5_refuse, 2, some 5), (20, YX5_advance, 1, some 5), (35, YX5_expectNumber, 3, some 5)]
set_option maxRecDepth 100000 in
theorem ocX5_readDoor : gOkC YX5_readDoor uX5_readDoor := oc_c (gEdge_V cal_X5_refuse ck_5 rfl (show decode cX5_readDoor 15 = .ok (.invokevirtual 77, 3) by decide +kernel) wd_3_25 wd_3_27 wp_1_6) <|
  oc_c (gEdge_V cal_X5_advance ck_5 rfl (show decode cX5_readDoor 20 = .ok (.invokevirtual 38, 3) by decide +kernel) wd_2_173 wd_2_175 wp_1_0) <|
  oc_c (gEdge_V cal_X5_expectNumber ck_5 rfl (show decode cX5_readDoor 35 = .ok (.invokevirtual 92, 3) by decide +kernel) wd_3_30 wd_3_32 wp_1_7) <|
  oc_n
theorem reX5_readDoor : ∀ pc ∈ [18, 52], decode cX5_readDoor pc = .ok (.return_, 1) := by decide +kernel
def tX5_readCold : List (Nat × gStp) := [(0, i_aload 0 1), (1, i_getT 5 1 4), (4, i_getI 7 8 7), (7, i_istore 1 8), (8, i_iload 1 9), (9, i_push (.int 5) 10), (10, i_ic_lt 19 13), (13, i_aload 0 14), (14, i_push (.int 3) 15), (19, i_aload 0 20), (23, i_aload 0 24), (24, i_getT 5 1 27), (27, i_getO 7 8 30), (30, i_iload 1 31), (31, i_aload 0 32), (32, i_push (.int 0) 33), (33, i_aload 0 34), (34, i_getT 5 1 37), (37, i_getI 7 5 40), (40, i_push (.int 1) 41), (41, i_ii (fun x y => x - y) 42), (45, i_iast 46), (46, i_aload 0 47), (47, i_push (.ref 923) 49), (52, i_aload 0 53), (53, i_getT 5 1 56), (56, i_getO 7 9 59), (59, i_iload 1 60), (60, i_aload 0 61), (61, i_push (.int 0) 62), (62, i_push (.int 11) 64), (67, i_iast 68), (68, i_aload 0 69), (69, i_getT 5 1 72), (72, i_dup 73), (73, i_getI 7 8 76), (76, i_push (.int 1) 77), (77, i_ii (fun x y => x + y) 78), (78, i_putI 7 8 81)]
set_option maxRecDepth 100000 in
theorem okX5_readCold : gOk YX5_readCold tX5_readCold := ok_c (sn_aload_n (show decode cX5_readCold 0 = .ok (.aload_n 0, 1) by decide +kernel) rfl) <|
  ok_c (sn_getT (j := 1) (fun _ _ => rfl) (sn_get ck_5 (by decide) (show decode cX5_readCold 1 = .ok (.getfield 21, 3) by decide +kernel) wd_1_201)) <|
  ok_c (sn_getI (fun _ _ => rfl) (sn_get ck_7 (by decide) (show decode cX5_readCold 4 = .ok (.getfield 151, 3) by decide +kernel) wd_1_120)) <|
  ok_c (sn_istore_n (show decode cX5_readCold 7 = .ok (.istore_n 1, 1) by decide +kernel) rfl (by decide)) <|
  ok_c (sn_iload_n (show decode cX5_readCold 8 = .ok (.iload_n 1, 1) by decide +kernel) rfl) <|
  ok_c (sn_iconst (v := 5) (show decode cX5_readCold 9 = .ok (.iconst 5, 1) by decide +kernel) (by decide +kernel)) <|
  ok_c (sn_ic_lt (show decode cX5_readCold 10 = .ok (.if_icmp .lt 9, 3) by decide +kernel) (by decide)) <|
  ok_c (sn_aload_n (show decode cX5_readCold 13 = .ok (.aload_n 0, 1) by decide +kernel) rfl) <|
  ok_c (sn_iconst (v := 3) (show decode cX5_readCold 14 = .ok (.iconst 3, 1) by decide +kernel) (by decide +kernel)) <|
  ok_c (sn_aload_n (show decode cX5_readCold 19 = .ok (.aload_n 0, 1) by decide +kernel) rfl) <|
  ok_c (sn_aload_n (show decode cX5_readCold 23 = .ok (.aload_n 0, 1) by decide +kernel) rfl) <|
  ok_c (sn_getT (j := 1) (fun _ _ => rfl) (sn_get ck_5 (by decide) (show decode cX5_readCold 24 = .ok (.getfield 21, 3) by decide +kernel) wd_1_201)) <|
  ok_c (sn_getO (j := 16) (fun _ _ => rfl) (sn_get ck_7 (by decide) (show decode cX5_readCold 27 = .ok (.getfield 154, 3) by decide +kernel) wd_1_152)) <|
  ok_c (sn_iload_n (show decode cX5_readCold 30 = .ok (.iload_n 1, 1) by decide +kernel) rfl) <|
  ok_c (sn_aload_n (show decode cX5_readCold 31 = .ok (.aload_n 0, 1) by decide +kernel) rfl) <|
  ok_c (sn_iconst (v := 0) (show decode cX5_readCold 32 = .ok (.iconst 0, 1) by decide +kernel) (by decide +kernel)) <|
  ok_c (sn_aload_n (show decode cX5_readCold 33 = .ok (.aload_n 0, 1) by decide +kernel) rfl) <|
  ok_c (sn_getT (j := 1) (fun _ _ => rfl) (sn_get ck_5 (by decide) (show decode cX5_readCold 34 = .ok (.getfield 21, 3) by decide +kernel) wd_1_201)) <|
  ok_c (sn_getI (fun _ _ => rfl) (sn_get ck_7 (by decide) (show decode cX5_readCold 37 = .ok (.getfield 110, 3) by decide +kernel) wd_1_106)) <|
  ok_c (sn_iconst (v := 1) (show decode cX5_readCold 40 = .ok (.iconst 1, 1) by decide +kernel) (by decide +kernel)) <|
  ok_c (sn_isub (show decode cX5_readCold 41 = .ok (.isub, 1) by decide +kernel)) <|
  ok_c (sn_iast (show decode cX5_readCold 45 = .ok (.iastore, 1) by decide +kernel)) <|
  ok_c (sn_aload_n (show decode cX5_readCold 46 = .ok (.aload_n 0, 1) by decide +kernel) rfl) <|
  ok_c (sn_ldcS 13 (by decide) (by decide +kernel) rfl (show decode cX5_readCold 47 = .ok (.ldc 157, 2) by decide +kernel)) <|
  ok_c (sn_aload_n (show decode cX5_readCold 52 = .ok (.aload_n 0, 1) by decide +kernel) rfl) <|
  ok_c (sn_getT (j := 1) (fun _ _ => rfl) (sn_get ck_5 (by decide) (show decode cX5_readCold 53 = .ok (.getfield 21, 3) by decide +kernel) wd_1_201)) <|
  ok_c (sn_getO (j := 17) (fun _ _ => rfl) (sn_get ck_7 (by decide) (show decode cX5_readCold 56 = .ok (.getfield 159, 3) by decide +kernel) wd_1_155)) <|
  ok_c (sn_iload_n (show decode cX5_readCold 59 = .ok (.iload_n 1, 1) by decide +kernel) rfl) <|
  ok_c (sn_aload_n (show decode cX5_readCold 60 = .ok (.aload_n 0, 1) by decide +kernel) rfl) <|
  ok_c (sn_iconst (v := 0) (show decode cX5_readCold 61 = .ok (.iconst 0, 1) by decide +kernel) (by decide +kernel)) <|
  ok_c (sn_bipush (v := 11) (show decode cX5_readCold 62 = .ok (.bipush 11, 2) by decide +kernel) (by decide +kernel)) <|
  ok_c (sn_iast (show decode cX5_readCold 67 = .ok (.iastore, 1) by decide +kernel)) <|
  ok_c (sn_aload_n (show decode cX5_readCold 68 = .ok (.aload_n 0, 1) by decide +kernel) rfl) <|
  ok_c (sn_getT (j := 1) (fun _ _ => rfl) (sn_get ck_5 (by decide) (show decode cX5_readCold 69 = .ok (.getfield 21, 3) by decide +kernel) wd_1_201)) <|
  ok_c (sn_dup (show decode cX5_readCold 72 = .ok (.dup, 1) by decide +kernel)) <|
  ok_c (sn_getI (fun _ _ => rfl) (sn_get ck_7 (by decide) (show decode cX5_readCold 73 = .ok (.getfield 151, 3) by decide +kernel) wd_1_120)) <|
  ok_c (sn_iconst (v := 1) (show decode cX5_readCold 76 = .ok (.iconst 1, 1) by decide +kernel) (by decide +kernel)) <|
  ok_c (sn_iadd (show decode cX5_readCold 77 = .ok (.iadd, 1) by decide +kernel)) <|
  ok_c (sn_putI ck_7 (by decide) rfl rfl (show decode cX5_readCold 78 = .ok (.putfield 151, 3) by decide +kernel) wd_1_120) <|
  ok_n
def uX5_readCold : gCT := [(15, YX5_refuse, 2, some 5), (20, YX5_advance, 1, some 5), (42, YX5_expectNumber, 3, some 5), (49, YX5_expectWord, 2, some 5), (64, YX5_expectNumber, 3, some 5)]
set_option maxRecDepth 100000 in
theorem ocX5_readCold : gOkC YX5_readCold uX5_readCold := oc_c (gEdge_V cal_X5_refuse ck_5 rfl (show decode cX5_readCold 15 = .ok (.invokevirtual 77, 3) by decide +kernel) wd_3_25 wd_3_27 wp_1_6) <|
  oc_c (gEdge_V cal_X5_advance ck_5 rfl (show decode cX5_readCold 20 = .ok (.invokevirtual 38, 3) by decide +kernel) wd_2_173 wd_2_175 wp_1_0) <|
  oc_c (gEdge_V cal_X5_expectNumber ck_5 rfl (show decode cX5_readCold 42 = .ok (.invokevirtual 92, 3) by decide +kernel) wd_3_30 wd_3_32 wp_1_7) <|
  oc_c (gEdge_V cal_X5_expectWord ck_5 rfl (show decode cX5_readCold 49 = .ok (.invokevirtual 86, 3) by decide +kernel) wd_2_209 wd_2_211 wp_1_4) <|
  oc_c (gEdge_V cal_X5_expectNumber ck_5 rfl (show decode cX5_readCold 64 = .ok (.invokevirtual 92, 3) by decide +kernel) wd_3_30 wd_3_32 wp_1_7) <|
  oc_n
theorem reX5_readCold : ∀ pc ∈ [18, 81], decode cX5_readCold pc = .ok (.return_, 1) := by decide +kernel
def tX5_refuse : List (Nat × gStp) := [(0, i_aload 0 1), (1, i_getI 5 2 4), (4, i_if_ne 20 7), (7, i_aload 0 8), (8, i_iload 1 9), (9, i_putI 5 2 12), (12, i_aload 0 13), (13, i_aload 0 14), (14, i_getI 5 5 17), (17, i_putI 5 3 20)]
set_option maxRecDepth 100000 in
theorem okX5_refuse : gOk YX5_refuse tX5_refuse := ok_c (sn_aload_n (show decode cX5_refuse 0 = .ok (.aload_n 0, 1) by decide +kernel) rfl) <|
  ok_c (sn_getI (fun _ _ => rfl) (sn_get ck_5 (by decide) (show decode cX5_refuse 1 = .ok (.getfield 32, 3) by decide +kernel) wd_1_203)) <|
  ok_c (sn_if_ne (show decode cX5_refuse 4 = .ok (.ifCond .ne 16, 3) by decide +kernel) (by decide)) <|
  ok_c (sn_aload_n (show decode cX5_refuse 7 = .ok (.aload_n 0, 1) by decide +kernel) rfl) <|
  ok_c (sn_iload_n (show decode cX5_refuse 8 = .ok (.iload_n 1, 1) by decide +kernel) rfl) <|
  ok_c (sn_putI ck_5 (by decide) rfl rfl (show decode cX5_refuse 9 = .ok (.putfield 32, 3) by decide +kernel) wd_1_203) <|
  ok_c (sn_aload_n (show decode cX5_refuse 12 = .ok (.aload_n 0, 1) by decide +kernel) rfl) <|
  ok_c (sn_aload_n (show decode cX5_refuse 13 = .ok (.aload_n 0, 1) by decide +kernel) rfl) <|
  ok_c (sn_getI (fun _ _ => rfl) (sn_get ck_5 (by decide) (show decode cX5_refuse 14 = .ok (.getfield 162, 3) by decide +kernel) wd_1_208)) <|
  ok_c (sn_putI ck_5 (by decide) rfl rfl (show decode cX5_refuse 17 = .ok (.putfield 25, 3) by decide +kernel) wd_1_205) <|
  ok_n
theorem reX5_refuse : ∀ pc ∈ [20], decode cX5_refuse pc = .ok (.return_, 1) := by decide +kernel
def tX5_expectWord : List (Nat × gStp) := [(0, i_aload 0 1), (1, i_aload 1 2), (5, i_if_ne 13 8), (8, i_aload 0 9), (9, i_push (.int 1) 10), (13, i_aload 0 14), (14, i_getI 5 2 17), (17, i_if_ne 24 20), (20, i_aload 0 21)]
set_option maxRecDepth 100000 in
theorem okX5_expectWord : gOk YX5_expectWord tX5_expectWord := ok_c (sn_aload_n (show decode cX5_expectWord 0 = .ok (.aload_n 0, 1) by decide +kernel) rfl) <|
  ok_c (sn_aload_n (show decode cX5_expectWord 1 = .ok (.aload_n 1, 1) by decide +kernel) rfl) <|
  ok_c (sn_if_ne (show decode cX5_expectWord 5 = .ok (.ifCond .ne 8, 3) by decide +kernel) (by decide)) <|
  ok_c (sn_aload_n (show decode cX5_expectWord 8 = .ok (.aload_n 0, 1) by decide +kernel) rfl) <|
  ok_c (sn_iconst (v := 1) (show decode cX5_expectWord 9 = .ok (.iconst 1, 1) by decide +kernel) (by decide +kernel)) <|
  ok_c (sn_aload_n (show decode cX5_expectWord 13 = .ok (.aload_n 0, 1) by decide +kernel) rfl) <|
  ok_c (sn_getI (fun _ _ => rfl) (sn_get ck_5 (by decide) (show decode cX5_expectWord 14 = .ok (.getfield 32, 3) by decide +kernel) wd_1_203)) <|
  ok_c (sn_if_ne (show decode cX5_expectWord 17 = .ok (.ifCond .ne 7, 3) by decide +kernel) (by decide)) <|
  ok_c (sn_aload_n (show decode cX5_expectWord 20 = .ok (.aload_n 0, 1) by decide +kernel) rfl) <|
  ok_n
def uX5_expectWord : gCT := [(2, YX5_isWord, 2, some 5), (10, YX5_refuse, 2, some 5), (21, YX5_advance, 1, some 5)]
set_option maxRecDepth 100000 in
theorem ocX5_expectWord : gOkC YX5_expectWord uX5_expectWord := oc_c (gEdge_V cal_X5_isWord ck_5 rfl (show decode cX5_expectWord 2 = .ok (.invokevirtual 55, 3) by decide +kernel) wd_2_213 wd_2_215 wp_1_5) <|
  oc_c (gEdge_V cal_X5_refuse ck_5 rfl (show decode cX5_expectWord 10 = .ok (.invokevirtual 77, 3) by decide +kernel) wd_3_25 wd_3_27 wp_1_6) <|
  oc_c (gEdge_V cal_X5_advance ck_5 rfl (show decode cX5_expectWord 21 = .ok (.invokevirtual 38, 3) by decide +kernel) wd_2_173 wd_2_175 wp_1_0) <|
  oc_n
theorem reX5_expectWord : ∀ pc ∈ [24], decode cX5_expectWord pc = .ok (.return_, 1) := by decide +kernel
def tX5_expectNumber : List (Nat × gStp) := [(0, i_aload 0 1), (1, i_getI 5 4 4), (4, i_push (.int 2) 5), (5, i_ic_eq 16 8), (8, i_aload 0 9), (9, i_push (.int 1) 10), (13, i_goto 37), (16, i_aload 0 17), (17, i_getI 5 7 20), (20, i_iload 1 21), (21, i_ic_lt 32 24), (24, i_aload 0 25), (25, i_getI 5 7 28), (28, i_iload 2 29), (29, i_ic_le 37 32), (32, i_aload 0 33), (33, i_push (.int 2) 34), (37, i_aload 0 38), (38, i_getI 5 7 41), (41, i_istore 3 42), (42, i_aload 0 43), (43, i_getI 5 2 46), (46, i_if_eq 51 49), (49, i_push (.int 0) 50), (51, i_aload 0 52), (55, i_iload 3 56)]
set_option maxRecDepth 100000 in
theorem okX5_expectNumber : gOk YX5_expectNumber tX5_expectNumber := ok_c (sn_aload_n (show decode cX5_expectNumber 0 = .ok (.aload_n 0, 1) by decide +kernel) rfl) <|
  ok_c (sn_getI (fun _ _ => rfl) (sn_get ck_5 (by decide) (show decode cX5_expectNumber 1 = .ok (.getfield 41, 3) by decide +kernel) wd_1_207)) <|
  ok_c (sn_iconst (v := 2) (show decode cX5_expectNumber 4 = .ok (.iconst 2, 1) by decide +kernel) (by decide +kernel)) <|
  ok_c (sn_ic_eq (show decode cX5_expectNumber 5 = .ok (.if_icmp .eq 11, 3) by decide +kernel) (by decide)) <|
  ok_c (sn_aload_n (show decode cX5_expectNumber 8 = .ok (.aload_n 0, 1) by decide +kernel) rfl) <|
  ok_c (sn_iconst (v := 1) (show decode cX5_expectNumber 9 = .ok (.iconst 1, 1) by decide +kernel) (by decide +kernel)) <|
  ok_c (sn_goto (show decode cX5_expectNumber 13 = .ok (.goto 24, 3) by decide +kernel) (by decide)) <|
  ok_c (sn_aload_n (show decode cX5_expectNumber 16 = .ok (.aload_n 0, 1) by decide +kernel) rfl) <|
  ok_c (sn_getI (fun _ _ => rfl) (sn_get ck_5 (by decide) (show decode cX5_expectNumber 17 = .ok (.getfield 134, 3) by decide +kernel) wd_1_210)) <|
  ok_c (sn_iload_n (show decode cX5_expectNumber 20 = .ok (.iload_n 1, 1) by decide +kernel) rfl) <|
  ok_c (sn_ic_lt (show decode cX5_expectNumber 21 = .ok (.if_icmp .lt 11, 3) by decide +kernel) (by decide)) <|
  ok_c (sn_aload_n (show decode cX5_expectNumber 24 = .ok (.aload_n 0, 1) by decide +kernel) rfl) <|
  ok_c (sn_getI (fun _ _ => rfl) (sn_get ck_5 (by decide) (show decode cX5_expectNumber 25 = .ok (.getfield 134, 3) by decide +kernel) wd_1_210)) <|
  ok_c (sn_iload_n (show decode cX5_expectNumber 28 = .ok (.iload_n 2, 1) by decide +kernel) rfl) <|
  ok_c (sn_ic_le (show decode cX5_expectNumber 29 = .ok (.if_icmp .le 8, 3) by decide +kernel) (by decide)) <|
  ok_c (sn_aload_n (show decode cX5_expectNumber 32 = .ok (.aload_n 0, 1) by decide +kernel) rfl) <|
  ok_c (sn_iconst (v := 2) (show decode cX5_expectNumber 33 = .ok (.iconst 2, 1) by decide +kernel) (by decide +kernel)) <|
  ok_c (sn_aload_n (show decode cX5_expectNumber 37 = .ok (.aload_n 0, 1) by decide +kernel) rfl) <|
  ok_c (sn_getI (fun _ _ => rfl) (sn_get ck_5 (by decide) (show decode cX5_expectNumber 38 = .ok (.getfield 134, 3) by decide +kernel) wd_1_210)) <|
  ok_c (sn_istore_n (show decode cX5_expectNumber 41 = .ok (.istore_n 3, 1) by decide +kernel) rfl (by decide)) <|
  ok_c (sn_aload_n (show decode cX5_expectNumber 42 = .ok (.aload_n 0, 1) by decide +kernel) rfl) <|
  ok_c (sn_getI (fun _ _ => rfl) (sn_get ck_5 (by decide) (show decode cX5_expectNumber 43 = .ok (.getfield 32, 3) by decide +kernel) wd_1_203)) <|
  ok_c (sn_if_eq (show decode cX5_expectNumber 46 = .ok (.ifCond .eq 5, 3) by decide +kernel) (by decide)) <|
  ok_c (sn_iconst (v := 0) (show decode cX5_expectNumber 49 = .ok (.iconst 0, 1) by decide +kernel) (by decide +kernel)) <|
  ok_c (sn_aload_n (show decode cX5_expectNumber 51 = .ok (.aload_n 0, 1) by decide +kernel) rfl) <|
  ok_c (sn_iload_n (show decode cX5_expectNumber 55 = .ok (.iload_n 3, 1) by decide +kernel) rfl) <|
  ok_n
def uX5_expectNumber : gCT := [(10, YX5_refuse, 2, some 5), (34, YX5_refuse, 2, some 5), (52, YX5_advance, 1, some 5)]
set_option maxRecDepth 100000 in
theorem ocX5_expectNumber : gOkC YX5_expectNumber uX5_expectNumber := oc_c (gEdge_V cal_X5_refuse ck_5 rfl (show decode cX5_expectNumber 10 = .ok (.invokevirtual 77, 3) by decide +kernel) wd_3_25 wd_3_27 wp_1_6) <|
  oc_c (gEdge_V cal_X5_refuse ck_5 rfl (show decode cX5_expectNumber 34 = .ok (.invokevirtual 77, 3) by decide +kernel) wd_3_25 wd_3_27 wp_1_6) <|
  oc_c (gEdge_V cal_X5_advance ck_5 rfl (show decode cX5_expectNumber 52 = .ok (.invokevirtual 38, 3) by decide +kernel) wd_2_173 wd_2_175 wp_1_0) <|
  oc_n
theorem reX5_expectNumber : ∀ pc ∈ [50, 56], decode cX5_expectNumber pc = .ok (.ireturn, 1) := by decide +kernel
def tX5_expectSign : List (Nat × gStp) := [(0, i_aload 0 1), (1, i_getI 5 4 4), (4, i_push (.int 3) 5), (5, i_ic_eq 13 8), (8, i_aload 0 9), (9, i_push (.int 1) 10), (13, i_aload 0 14), (14, i_getI 5 2 17), (17, i_if_ne 24 20), (20, i_aload 0 21)]
set_option maxRecDepth 100000 in
theorem okX5_expectSign : gOk YX5_expectSign tX5_expectSign := ok_c (sn_aload_n (show decode cX5_expectSign 0 = .ok (.aload_n 0, 1) by decide +kernel) rfl) <|
  ok_c (sn_getI (fun _ _ => rfl) (sn_get ck_5 (by decide) (show decode cX5_expectSign 1 = .ok (.getfield 41, 3) by decide +kernel) wd_1_207)) <|
  ok_c (sn_iconst (v := 3) (show decode cX5_expectSign 4 = .ok (.iconst 3, 1) by decide +kernel) (by decide +kernel)) <|
  ok_c (sn_ic_eq (show decode cX5_expectSign 5 = .ok (.if_icmp .eq 8, 3) by decide +kernel) (by decide)) <|
  ok_c (sn_aload_n (show decode cX5_expectSign 8 = .ok (.aload_n 0, 1) by decide +kernel) rfl) <|
  ok_c (sn_iconst (v := 1) (show decode cX5_expectSign 9 = .ok (.iconst 1, 1) by decide +kernel) (by decide +kernel)) <|
  ok_c (sn_aload_n (show decode cX5_expectSign 13 = .ok (.aload_n 0, 1) by decide +kernel) rfl) <|
  ok_c (sn_getI (fun _ _ => rfl) (sn_get ck_5 (by decide) (show decode cX5_expectSign 14 = .ok (.getfield 32, 3) by decide +kernel) wd_1_203)) <|
  ok_c (sn_if_ne (show decode cX5_expectSign 17 = .ok (.ifCond .ne 7, 3) by decide +kernel) (by decide)) <|
  ok_c (sn_aload_n (show decode cX5_expectSign 20 = .ok (.aload_n 0, 1) by decide +kernel) rfl) <|
  ok_n
def uX5_expectSign : gCT := [(10, YX5_refuse, 2, some 5), (21, YX5_advance, 1, some 5)]
set_option maxRecDepth 100000 in
theorem ocX5_expectSign : gOkC YX5_expectSign uX5_expectSign := oc_c (gEdge_V cal_X5_refuse ck_5 rfl (show decode cX5_expectSign 10 = .ok (.invokevirtual 77, 3) by decide +kernel) wd_3_25 wd_3_27 wp_1_6) <|
  oc_c (gEdge_V cal_X5_advance ck_5 rfl (show decode cX5_expectSign 21 = .ok (.invokevirtual 38, 3) by decide +kernel) wd_2_173 wd_2_175 wp_1_0) <|
  oc_n
theorem reX5_expectSign : ∀ pc ∈ [24], decode cX5_expectSign pc = .ok (.return_, 1) := by decide +kernel
def tX5_isWord : List (Nat × gStp) := [(0, i_aload 0 1), (1, i_getI 5 4 4), (4, i_push (.int 1) 5), (5, i_ic_ne 24 8), (8, i_aload 0 9), (9, i_getI 5 6 12), (12, i_aload 0 13), (13, i_getI 5 5 16), (16, i_ii (fun x y => x - y) 17), (17, i_aload 1 18), (21, i_ic_eq 26 24), (24, i_push (.int 0) 25), (26, i_push (.int 0) 27), (27, i_istore 2 28), (28, i_iload 2 29), (29, i_aload 1 30), (33, i_ic_ge 65 36), (36, i_aload 0 37), (37, i_getC 5 2 40), (40, i_aload 0 41), (41, i_getI 5 5 44), (44, i_iload 2 45), (45, i_ii (fun x y => x + y) 46), (49, i_aload 1 50), (50, i_iload 2 51), (54, i_ic_eq 59 57), (57, i_push (.int 0) 58), (59, i_iinc 2 1 62), (62, i_goto 28), (65, i_push (.int 1) 66)]
set_option maxRecDepth 100000 in
theorem okX5_isWord : gOk YX5_isWord tX5_isWord := ok_c (sn_aload_n (show decode cX5_isWord 0 = .ok (.aload_n 0, 1) by decide +kernel) rfl) <|
  ok_c (sn_getI (fun _ _ => rfl) (sn_get ck_5 (by decide) (show decode cX5_isWord 1 = .ok (.getfield 41, 3) by decide +kernel) wd_1_207)) <|
  ok_c (sn_iconst (v := 1) (show decode cX5_isWord 4 = .ok (.iconst 1, 1) by decide +kernel) (by decide +kernel)) <|
  ok_c (sn_ic_ne (show decode cX5_isWord 5 = .ok (.if_icmp .ne 19, 3) by decide +kernel) (by decide)) <|
  ok_c (sn_aload_n (show decode cX5_isWord 8 = .ok (.aload_n 0, 1) by decide +kernel) rfl) <|
  ok_c (sn_getI (fun _ _ => rfl) (sn_get ck_5 (by decide) (show decode cX5_isWord 9 = .ok (.getfield 35, 3) by decide +kernel) wd_1_209)) <|
  ok_c (sn_aload_n (show decode cX5_isWord 12 = .ok (.aload_n 0, 1) by decide +kernel) rfl) <|
  ok_c (sn_getI (fun _ _ => rfl) (sn_get ck_5 (by decide) (show decode cX5_isWord 13 = .ok (.getfield 162, 3) by decide +kernel) wd_1_208)) <|
  ok_c (sn_isub (show decode cX5_isWord 16 = .ok (.isub, 1) by decide +kernel)) <|
  ok_c (sn_aload_n (show decode cX5_isWord 17 = .ok (.aload_n 1, 1) by decide +kernel) rfl) <|
  ok_c (sn_ic_eq (show decode cX5_isWord 21 = .ok (.if_icmp .eq 5, 3) by decide +kernel) (by decide)) <|
  ok_c (sn_iconst (v := 0) (show decode cX5_isWord 24 = .ok (.iconst 0, 1) by decide +kernel) (by decide +kernel)) <|
  ok_c (sn_iconst (v := 0) (show decode cX5_isWord 26 = .ok (.iconst 0, 1) by decide +kernel) (by decide +kernel)) <|
  ok_c (sn_istore_n (show decode cX5_isWord 27 = .ok (.istore_n 2, 1) by decide +kernel) rfl (by decide)) <|
  ok_c (sn_iload_n (show decode cX5_isWord 28 = .ok (.iload_n 2, 1) by decide +kernel) rfl) <|
  ok_c (sn_aload_n (show decode cX5_isWord 29 = .ok (.aload_n 1, 1) by decide +kernel) rfl) <|
  ok_c (sn_ic_ge (show decode cX5_isWord 33 = .ok (.if_icmp .ge 32, 3) by decide +kernel) (by decide)) <|
  ok_c (sn_aload_n (show decode cX5_isWord 36 = .ok (.aload_n 0, 1) by decide +kernel) rfl) <|
  ok_c (sn_getC (j := 0) (fun _ _ => rfl) (sn_get ck_5 (by decide) (show decode cX5_isWord 37 = .ok (.getfield 12, 3) by decide +kernel) wd_1_199)) <|
  ok_c (sn_aload_n (show decode cX5_isWord 40 = .ok (.aload_n 0, 1) by decide +kernel) rfl) <|
  ok_c (sn_getI (fun _ _ => rfl) (sn_get ck_5 (by decide) (show decode cX5_isWord 41 = .ok (.getfield 162, 3) by decide +kernel) wd_1_208)) <|
  ok_c (sn_iload_n (show decode cX5_isWord 44 = .ok (.iload_n 2, 1) by decide +kernel) rfl) <|
  ok_c (sn_iadd (show decode cX5_isWord 45 = .ok (.iadd, 1) by decide +kernel)) <|
  ok_c (sn_aload_n (show decode cX5_isWord 49 = .ok (.aload_n 1, 1) by decide +kernel) rfl) <|
  ok_c (sn_iload_n (show decode cX5_isWord 50 = .ok (.iload_n 2, 1) by decide +kernel) rfl) <|
  ok_c (sn_ic_eq (show decode cX5_isWord 54 = .ok (.if_icmp .eq 5, 3) by decide +kernel) (by decide)) <|
  ok_c (sn_iconst (v := 0) (show decode cX5_isWord 57 = .ok (.iconst 0, 1) by decide +kernel) (by decide +kernel)) <|
  ok_c (sn_iinc (show decode cX5_isWord 59 = .ok (.iinc 2 1, 3) by decide +kernel) (by decide) (by decide +kernel)) <|
  ok_c (sn_goto (show decode cX5_isWord 62 = .ok (.goto (-34), 3) by decide +kernel) (by decide)) <|
  ok_c (sn_iconst (v := 1) (show decode cX5_isWord 65 = .ok (.iconst 1, 1) by decide +kernel) (by decide +kernel)) <|
  ok_n
def uX5_isWord : gCT := [(18, YJ0_length_8abf5, 1, some 100), (30, YJ0_length_8abf5, 1, some 100), (46, YX6_at, 2, some 6), (51, YJ0_charAt_5068e, 2, some 100)]
set_option maxRecDepth 100000 in
theorem ocX5_isWord : gOkC YX5_isWord uX5_isWord := oc_c (gEdge_Str cal_J0_length_8abf5 rfl (show decode cX5_isWord 18 = .ok (.invokevirtual 165, 3) by decide +kernel) wd_2_217 wd_2_218 wd_2_219) <|
  oc_c (gEdge_Str cal_J0_length_8abf5 rfl (show decode cX5_isWord 30 = .ok (.invokevirtual 165, 3) by decide +kernel) wd_2_217 wd_2_218 wd_2_219) <|
  oc_c (gEdge_V cal_X6_at ck_6 rfl (show decode cX5_isWord 46 = .ok (.invokevirtual 171, 3) by decide +kernel) wd_2_177 wd_2_178 wd_2_179) <|
  oc_c (gEdge_Str cal_J0_charAt_5068e rfl (show decode cX5_isWord 51 = .ok (.invokevirtual 174, 3) by decide +kernel) wd_2_227 wd_2_228 wd_2_229) <|
  oc_n
theorem reX5_isWord : ∀ pc ∈ [25, 58, 66], decode cX5_isWord pc = .ok (.ireturn, 1) := by decide +kernel
def tX5_advance : List (Nat × gStp) := [(0, i_aload 0 1), (1, i_aload 0 2), (2, i_getI 5 6 5), (5, i_putI 5 5 8), (8, i_aload 0 9), (9, i_getI 5 5 12), (12, i_aload 0 13), (13, i_getC 5 2 16), (16, i_getI 6 1 19), (19, i_ic_ge 52 22), (22, i_aload 0 23), (23, i_getC 5 2 26), (26, i_aload 0 27), (27, i_getI 5 5 30), (36, i_if_eq 52 39), (39, i_aload 0 40), (40, i_dup 41), (41, i_getI 5 5 44), (44, i_push (.int 1) 45), (45, i_ii (fun x y => x + y) 46), (46, i_putI 5 5 49), (49, i_goto 8), (52, i_aload 0 53), (53, i_aload 0 54), (54, i_getC 5 2 57), (57, i_aload 0 58), (58, i_getI 5 5 61), (67, i_putI 5 4 70), (70, i_aload 0 71), (71, i_push (.int 0) 72), (72, i_putI 5 7 75), (75, i_aload 0 76), (76, i_aload 0 77), (77, i_getI 5 4 80), (80, i_if_ne 90 83), (83, i_aload 0 84), (84, i_getI 5 5 87), (87, i_goto 96), (90, i_aload 0 91), (91, i_getI 5 5 94), (94, i_push (.int 1) 95), (95, i_ii (fun x y => x + y) 96), (96, i_putI 5 6 99), (99, i_aload 0 100), (100, i_getI 5 4 103), (103, i_push (.int 1) 104), (104, i_ic_ne 151 107), (107, i_aload 0 108), (108, i_getI 5 6 111), (111, i_aload 0 112), (112, i_getC 5 2 115), (115, i_getI 6 1 118), (118, i_ic_ge 151 121), (121, i_aload 0 122), (122, i_getC 5 2 125), (125, i_aload 0 126), (126, i_getI 5 6 129), (135, i_if_eq 151 138), (138, i_aload 0 139), (139, i_dup 140), (140, i_getI 5 6 143), (143, i_push (.int 1) 144), (144, i_ii (fun x y => x + y) 145), (145, i_putI 5 6 148), (148, i_goto 107), (151, i_aload 0 152), (152, i_getI 5 4 155), (155, i_push (.int 2) 156), (156, i_ic_ne 163 159), (159, i_aload 0 160)]
set_option maxRecDepth 100000 in
theorem okX5_advance : gOk YX5_advance tX5_advance := ok_c (sn_aload_n (show decode cX5_advance 0 = .ok (.aload_n 0, 1) by decide +kernel) rfl) <|
  ok_c (sn_aload_n (show decode cX5_advance 1 = .ok (.aload_n 0, 1) by decide +kernel) rfl) <|
  ok_c (sn_getI (fun _ _ => rfl) (sn_get ck_5 (by decide) (show decode cX5_advance 2 = .ok (.getfield 35, 3) by decide +kernel) wd_1_209)) <|
  ok_c (sn_putI ck_5 (by decide) rfl rfl (show decode cX5_advance 5 = .ok (.putfield 162, 3) by decide +kernel) wd_1_208) <|
  ok_c (sn_aload_n (show decode cX5_advance 8 = .ok (.aload_n 0, 1) by decide +kernel) rfl) <|
  ok_c (sn_getI (fun _ _ => rfl) (sn_get ck_5 (by decide) (show decode cX5_advance 9 = .ok (.getfield 162, 3) by decide +kernel) wd_1_208)) <|
  ok_c (sn_aload_n (show decode cX5_advance 12 = .ok (.aload_n 0, 1) by decide +kernel) rfl) <|
  ok_c (sn_getC (j := 0) (fun _ _ => rfl) (sn_get ck_5 (by decide) (show decode cX5_advance 13 = .ok (.getfield 12, 3) by decide +kernel) wd_1_199)) <|
  ok_c (sn_getI (fun _ _ => rfl) (sn_get ck_6 (by decide) (show decode cX5_advance 16 = .ok (.getfield 178, 3) by decide +kernel) wd_1_42)) <|
  ok_c (sn_ic_ge (show decode cX5_advance 19 = .ok (.if_icmp .ge 33, 3) by decide +kernel) (by decide)) <|
  ok_c (sn_aload_n (show decode cX5_advance 22 = .ok (.aload_n 0, 1) by decide +kernel) rfl) <|
  ok_c (sn_getC (j := 0) (fun _ _ => rfl) (sn_get ck_5 (by decide) (show decode cX5_advance 23 = .ok (.getfield 12, 3) by decide +kernel) wd_1_199)) <|
  ok_c (sn_aload_n (show decode cX5_advance 26 = .ok (.aload_n 0, 1) by decide +kernel) rfl) <|
  ok_c (sn_getI (fun _ _ => rfl) (sn_get ck_5 (by decide) (show decode cX5_advance 27 = .ok (.getfield 162, 3) by decide +kernel) wd_1_208)) <|
  ok_c (sn_if_eq (show decode cX5_advance 36 = .ok (.ifCond .eq 16, 3) by decide +kernel) (by decide)) <|
  ok_c (sn_aload_n (show decode cX5_advance 39 = .ok (.aload_n 0, 1) by decide +kernel) rfl) <|
  ok_c (sn_dup (show decode cX5_advance 40 = .ok (.dup, 1) by decide +kernel)) <|
  ok_c (sn_getI (fun _ _ => rfl) (sn_get ck_5 (by decide) (show decode cX5_advance 41 = .ok (.getfield 162, 3) by decide +kernel) wd_1_208)) <|
  ok_c (sn_iconst (v := 1) (show decode cX5_advance 44 = .ok (.iconst 1, 1) by decide +kernel) (by decide +kernel)) <|
  ok_c (sn_iadd (show decode cX5_advance 45 = .ok (.iadd, 1) by decide +kernel)) <|
  ok_c (sn_putI ck_5 (by decide) rfl rfl (show decode cX5_advance 46 = .ok (.putfield 162, 3) by decide +kernel) wd_1_208) <|
  ok_c (sn_goto (show decode cX5_advance 49 = .ok (.goto (-41), 3) by decide +kernel) (by decide)) <|
  ok_c (sn_aload_n (show decode cX5_advance 52 = .ok (.aload_n 0, 1) by decide +kernel) rfl) <|
  ok_c (sn_aload_n (show decode cX5_advance 53 = .ok (.aload_n 0, 1) by decide +kernel) rfl) <|
  ok_c (sn_getC (j := 0) (fun _ _ => rfl) (sn_get ck_5 (by decide) (show decode cX5_advance 54 = .ok (.getfield 12, 3) by decide +kernel) wd_1_199)) <|
  ok_c (sn_aload_n (show decode cX5_advance 57 = .ok (.aload_n 0, 1) by decide +kernel) rfl) <|
  ok_c (sn_getI (fun _ _ => rfl) (sn_get ck_5 (by decide) (show decode cX5_advance 58 = .ok (.getfield 162, 3) by decide +kernel) wd_1_208)) <|
  ok_c (sn_putI ck_5 (by decide) rfl rfl (show decode cX5_advance 67 = .ok (.putfield 41, 3) by decide +kernel) wd_1_207) <|
  ok_c (sn_aload_n (show decode cX5_advance 70 = .ok (.aload_n 0, 1) by decide +kernel) rfl) <|
  ok_c (sn_iconst (v := 0) (show decode cX5_advance 71 = .ok (.iconst 0, 1) by decide +kernel) (by decide +kernel)) <|
  ok_c (sn_putI ck_5 (by decide) rfl rfl (show decode cX5_advance 72 = .ok (.putfield 134, 3) by decide +kernel) wd_1_210) <|
  ok_c (sn_aload_n (show decode cX5_advance 75 = .ok (.aload_n 0, 1) by decide +kernel) rfl) <|
  ok_c (sn_aload_n (show decode cX5_advance 76 = .ok (.aload_n 0, 1) by decide +kernel) rfl) <|
  ok_c (sn_getI (fun _ _ => rfl) (sn_get ck_5 (by decide) (show decode cX5_advance 77 = .ok (.getfield 41, 3) by decide +kernel) wd_1_207)) <|
  ok_c (sn_if_ne (show decode cX5_advance 80 = .ok (.ifCond .ne 10, 3) by decide +kernel) (by decide)) <|
  ok_c (sn_aload_n (show decode cX5_advance 83 = .ok (.aload_n 0, 1) by decide +kernel) rfl) <|
  ok_c (sn_getI (fun _ _ => rfl) (sn_get ck_5 (by decide) (show decode cX5_advance 84 = .ok (.getfield 162, 3) by decide +kernel) wd_1_208)) <|
  ok_c (sn_goto (show decode cX5_advance 87 = .ok (.goto 9, 3) by decide +kernel) (by decide)) <|
  ok_c (sn_aload_n (show decode cX5_advance 90 = .ok (.aload_n 0, 1) by decide +kernel) rfl) <|
  ok_c (sn_getI (fun _ _ => rfl) (sn_get ck_5 (by decide) (show decode cX5_advance 91 = .ok (.getfield 162, 3) by decide +kernel) wd_1_208)) <|
  ok_c (sn_iconst (v := 1) (show decode cX5_advance 94 = .ok (.iconst 1, 1) by decide +kernel) (by decide +kernel)) <|
  ok_c (sn_iadd (show decode cX5_advance 95 = .ok (.iadd, 1) by decide +kernel)) <|
  ok_c (sn_putI ck_5 (by decide) rfl rfl (show decode cX5_advance 96 = .ok (.putfield 35, 3) by decide +kernel) wd_1_209) <|
  ok_c (sn_aload_n (show decode cX5_advance 99 = .ok (.aload_n 0, 1) by decide +kernel) rfl) <|
  ok_c (sn_getI (fun _ _ => rfl) (sn_get ck_5 (by decide) (show decode cX5_advance 100 = .ok (.getfield 41, 3) by decide +kernel) wd_1_207)) <|
  ok_c (sn_iconst (v := 1) (show decode cX5_advance 103 = .ok (.iconst 1, 1) by decide +kernel) (by decide +kernel)) <|
  ok_c (sn_ic_ne (show decode cX5_advance 104 = .ok (.if_icmp .ne 47, 3) by decide +kernel) (by decide)) <|
  ok_c (sn_aload_n (show decode cX5_advance 107 = .ok (.aload_n 0, 1) by decide +kernel) rfl) <|
  ok_c (sn_getI (fun _ _ => rfl) (sn_get ck_5 (by decide) (show decode cX5_advance 108 = .ok (.getfield 35, 3) by decide +kernel) wd_1_209)) <|
  ok_c (sn_aload_n (show decode cX5_advance 111 = .ok (.aload_n 0, 1) by decide +kernel) rfl) <|
  ok_c (sn_getC (j := 0) (fun _ _ => rfl) (sn_get ck_5 (by decide) (show decode cX5_advance 112 = .ok (.getfield 12, 3) by decide +kernel) wd_1_199)) <|
  ok_c (sn_getI (fun _ _ => rfl) (sn_get ck_6 (by decide) (show decode cX5_advance 115 = .ok (.getfield 178, 3) by decide +kernel) wd_1_42)) <|
  ok_c (sn_ic_ge (show decode cX5_advance 118 = .ok (.if_icmp .ge 33, 3) by decide +kernel) (by decide)) <|
  ok_c (sn_aload_n (show decode cX5_advance 121 = .ok (.aload_n 0, 1) by decide +kernel) rfl) <|
  ok_c (sn_getC (j := 0) (fun _ _ => rfl) (sn_get ck_5 (by decide) (show decode cX5_advance 122 = .ok (.getfield 12, 3) by decide +kernel) wd_1_199)) <|
  ok_c (sn_aload_n (show decode cX5_advance 125 = .ok (.aload_n 0, 1) by decide +kernel) rfl) <|
  ok_c (sn_getI (fun _ _ => rfl) (sn_get ck_5 (by decide) (show decode cX5_advance 126 = .ok (.getfield 35, 3) by decide +kernel) wd_1_209)) <|
  ok_c (sn_if_eq (show decode cX5_advance 135 = .ok (.ifCond .eq 16, 3) by decide +kernel) (by decide)) <|
  ok_c (sn_aload_n (show decode cX5_advance 138 = .ok (.aload_n 0, 1) by decide +kernel) rfl) <|
  ok_c (sn_dup (show decode cX5_advance 139 = .ok (.dup, 1) by decide +kernel)) <|
  ok_c (sn_getI (fun _ _ => rfl) (sn_get ck_5 (by decide) (show decode cX5_advance 140 = .ok (.getfield 35, 3) by decide +kernel) wd_1_209)) <|
  ok_c (sn_iconst (v := 1) (show decode cX5_advance 143 = .ok (.iconst 1, 1) by decide +kernel) (by decide +kernel)) <|
  ok_c (sn_iadd (show decode cX5_advance 144 = .ok (.iadd, 1) by decide +kernel)) <|
  ok_c (sn_putI ck_5 (by decide) rfl rfl (show decode cX5_advance 145 = .ok (.putfield 35, 3) by decide +kernel) wd_1_209) <|
  ok_c (sn_goto (show decode cX5_advance 148 = .ok (.goto (-41), 3) by decide +kernel) (by decide)) <|
  ok_c (sn_aload_n (show decode cX5_advance 151 = .ok (.aload_n 0, 1) by decide +kernel) rfl) <|
  ok_c (sn_getI (fun _ _ => rfl) (sn_get ck_5 (by decide) (show decode cX5_advance 152 = .ok (.getfield 41, 3) by decide +kernel) wd_1_207)) <|
  ok_c (sn_iconst (v := 2) (show decode cX5_advance 155 = .ok (.iconst 2, 1) by decide +kernel) (by decide +kernel)) <|
  ok_c (sn_ic_ne (show decode cX5_advance 156 = .ok (.if_icmp .ne 7, 3) by decide +kernel) (by decide)) <|
  ok_c (sn_aload_n (show decode cX5_advance 159 = .ok (.aload_n 0, 1) by decide +kernel) rfl) <|
  ok_n
def uX5_advance : gCT := [(30, YX6_at, 2, some 6), (33, YX5_isBlank, 1, none), (61, YX6_at, 2, some 6), (64, YX5_kindOf, 1, none), (129, YX6_at, 2, some 6), (132, YX5_isLetter, 1, none), (160, YX5_readDigits, 1, some 5)]
set_option maxRecDepth 100000 in
theorem ocX5_advance : gOkC YX5_advance uX5_advance := oc_c (gEdge_V cal_X6_at ck_6 rfl (show decode cX5_advance 30 = .ok (.invokevirtual 171, 3) by decide +kernel) wd_2_177 wd_2_178 wd_2_179) <|
  oc_c (gEdge_S cal_X5_isBlank (show decode cX5_advance 33 = .ok (.invokestatic 181, 3) by decide +kernel) wd_2_181 wd_2_182) <|
  oc_c (gEdge_V cal_X6_at ck_6 rfl (show decode cX5_advance 61 = .ok (.invokevirtual 171, 3) by decide +kernel) wd_2_177 wd_2_178 wd_2_179) <|
  oc_c (gEdge_S cal_X5_kindOf (show decode cX5_advance 64 = .ok (.invokestatic 185, 3) by decide +kernel) wd_2_184 wd_2_185) <|
  oc_c (gEdge_V cal_X6_at ck_6 rfl (show decode cX5_advance 129 = .ok (.invokevirtual 171, 3) by decide +kernel) wd_2_177 wd_2_178 wd_2_179) <|
  oc_c (gEdge_S cal_X5_isLetter (show decode cX5_advance 132 = .ok (.invokestatic 188, 3) by decide +kernel) wd_2_187 wd_2_188) <|
  oc_c (gEdge_V cal_X5_readDigits ck_5 rfl (show decode cX5_advance 160 = .ok (.invokevirtual 191, 3) by decide +kernel) wd_2_193 wd_2_195 wp_1_1) <|
  oc_n
theorem reX5_advance : ∀ pc ∈ [163], decode cX5_advance pc = .ok (.return_, 1) := by decide +kernel
def tX5_readDigits : List (Nat × gStp) := [(0, i_aload 0 1), (1, i_aload 0 2), (2, i_getC 5 2 5), (5, i_aload 0 6), (6, i_getI 5 5 9), (12, i_push (.int 48) 14), (14, i_ii (fun x y => x - y) 15), (15, i_putI 5 7 18), (18, i_aload 0 19), (19, i_getI 5 6 22), (22, i_aload 0 23), (23, i_getC 5 2 26), (26, i_getI 6 1 29), (29, i_ic_ge 94 32), (32, i_aload 0 33), (33, i_getC 5 2 36), (36, i_aload 0 37), (37, i_getI 5 6 40), (46, i_if_eq 94 49), (49, i_aload 0 50), (50, i_push (.int 1000) 53), (53, i_aload 0 54), (54, i_getI 5 7 57), (57, i_push (.int 10) 59), (59, i_ii (fun x y => x * y) 60), (60, i_aload 0 61), (61, i_getC 5 2 64), (64, i_aload 0 65), (65, i_getI 5 6 68), (71, i_ii (fun x y => x + y) 72), (72, i_push (.int 48) 74), (74, i_ii (fun x y => x - y) 75), (75, i_min 78), (78, i_putI 5 7 81), (81, i_aload 0 82), (82, i_dup 83), (83, i_getI 5 6 86), (86, i_push (.int 1) 87), (87, i_ii (fun x y => x + y) 88), (88, i_putI 5 6 91), (91, i_goto 18)]
set_option maxRecDepth 100000 in
theorem okX5_readDigits : gOk YX5_readDigits tX5_readDigits := ok_c (sn_aload_n (show decode cX5_readDigits 0 = .ok (.aload_n 0, 1) by decide +kernel) rfl) <|
  ok_c (sn_aload_n (show decode cX5_readDigits 1 = .ok (.aload_n 0, 1) by decide +kernel) rfl) <|
  ok_c (sn_getC (j := 0) (fun _ _ => rfl) (sn_get ck_5 (by decide) (show decode cX5_readDigits 2 = .ok (.getfield 12, 3) by decide +kernel) wd_1_199)) <|
  ok_c (sn_aload_n (show decode cX5_readDigits 5 = .ok (.aload_n 0, 1) by decide +kernel) rfl) <|
  ok_c (sn_getI (fun _ _ => rfl) (sn_get ck_5 (by decide) (show decode cX5_readDigits 6 = .ok (.getfield 162, 3) by decide +kernel) wd_1_208)) <|
  ok_c (sn_bipush (v := 48) (show decode cX5_readDigits 12 = .ok (.bipush 48, 2) by decide +kernel) (by decide +kernel)) <|
  ok_c (sn_isub (show decode cX5_readDigits 14 = .ok (.isub, 1) by decide +kernel)) <|
  ok_c (sn_putI ck_5 (by decide) rfl rfl (show decode cX5_readDigits 15 = .ok (.putfield 134, 3) by decide +kernel) wd_1_210) <|
  ok_c (sn_aload_n (show decode cX5_readDigits 18 = .ok (.aload_n 0, 1) by decide +kernel) rfl) <|
  ok_c (sn_getI (fun _ _ => rfl) (sn_get ck_5 (by decide) (show decode cX5_readDigits 19 = .ok (.getfield 35, 3) by decide +kernel) wd_1_209)) <|
  ok_c (sn_aload_n (show decode cX5_readDigits 22 = .ok (.aload_n 0, 1) by decide +kernel) rfl) <|
  ok_c (sn_getC (j := 0) (fun _ _ => rfl) (sn_get ck_5 (by decide) (show decode cX5_readDigits 23 = .ok (.getfield 12, 3) by decide +kernel) wd_1_199)) <|
  ok_c (sn_getI (fun _ _ => rfl) (sn_get ck_6 (by decide) (show decode cX5_readDigits 26 = .ok (.getfield 178, 3) by decide +kernel) wd_1_42)) <|
  ok_c (sn_ic_ge (show decode cX5_readDigits 29 = .ok (.if_icmp .ge 65, 3) by decide +kernel) (by decide)) <|
  ok_c (sn_aload_n (show decode cX5_readDigits 32 = .ok (.aload_n 0, 1) by decide +kernel) rfl) <|
  ok_c (sn_getC (j := 0) (fun _ _ => rfl) (sn_get ck_5 (by decide) (show decode cX5_readDigits 33 = .ok (.getfield 12, 3) by decide +kernel) wd_1_199)) <|
  ok_c (sn_aload_n (show decode cX5_readDigits 36 = .ok (.aload_n 0, 1) by decide +kernel) rfl) <|
  ok_c (sn_getI (fun _ _ => rfl) (sn_get ck_5 (by decide) (show decode cX5_readDigits 37 = .ok (.getfield 35, 3) by decide +kernel) wd_1_209)) <|
  ok_c (sn_if_eq (show decode cX5_readDigits 46 = .ok (.ifCond .eq 48, 3) by decide +kernel) (by decide)) <|
  ok_c (sn_aload_n (show decode cX5_readDigits 49 = .ok (.aload_n 0, 1) by decide +kernel) rfl) <|
  ok_c (sn_sipush (v := 1000) (show decode cX5_readDigits 50 = .ok (.sipush 1000, 3) by decide +kernel) (by decide +kernel)) <|
  ok_c (sn_aload_n (show decode cX5_readDigits 53 = .ok (.aload_n 0, 1) by decide +kernel) rfl) <|
  ok_c (sn_getI (fun _ _ => rfl) (sn_get ck_5 (by decide) (show decode cX5_readDigits 54 = .ok (.getfield 134, 3) by decide +kernel) wd_1_210)) <|
  ok_c (sn_bipush (v := 10) (show decode cX5_readDigits 57 = .ok (.bipush 10, 2) by decide +kernel) (by decide +kernel)) <|
  ok_c (sn_imul (show decode cX5_readDigits 59 = .ok (.imul, 1) by decide +kernel)) <|
  ok_c (sn_aload_n (show decode cX5_readDigits 60 = .ok (.aload_n 0, 1) by decide +kernel) rfl) <|
  ok_c (sn_getC (j := 0) (fun _ _ => rfl) (sn_get ck_5 (by decide) (show decode cX5_readDigits 61 = .ok (.getfield 12, 3) by decide +kernel) wd_1_199)) <|
  ok_c (sn_aload_n (show decode cX5_readDigits 64 = .ok (.aload_n 0, 1) by decide +kernel) rfl) <|
  ok_c (sn_getI (fun _ _ => rfl) (sn_get ck_5 (by decide) (show decode cX5_readDigits 65 = .ok (.getfield 35, 3) by decide +kernel) wd_1_209)) <|
  ok_c (sn_iadd (show decode cX5_readDigits 71 = .ok (.iadd, 1) by decide +kernel)) <|
  ok_c (sn_bipush (v := 48) (show decode cX5_readDigits 72 = .ok (.bipush 48, 2) by decide +kernel) (by decide +kernel)) <|
  ok_c (sn_isub (show decode cX5_readDigits 74 = .ok (.isub, 1) by decide +kernel)) <|
  ok_c (sn_min (show decode cX5_readDigits 75 = .ok (.invokestatic 197, 3) by decide +kernel) wd_2_197 wd_2_198 wd_1_11 wd_2_199) <|
  ok_c (sn_putI ck_5 (by decide) rfl rfl (show decode cX5_readDigits 78 = .ok (.putfield 134, 3) by decide +kernel) wd_1_210) <|
  ok_c (sn_aload_n (show decode cX5_readDigits 81 = .ok (.aload_n 0, 1) by decide +kernel) rfl) <|
  ok_c (sn_dup (show decode cX5_readDigits 82 = .ok (.dup, 1) by decide +kernel)) <|
  ok_c (sn_getI (fun _ _ => rfl) (sn_get ck_5 (by decide) (show decode cX5_readDigits 83 = .ok (.getfield 35, 3) by decide +kernel) wd_1_209)) <|
  ok_c (sn_iconst (v := 1) (show decode cX5_readDigits 86 = .ok (.iconst 1, 1) by decide +kernel) (by decide +kernel)) <|
  ok_c (sn_iadd (show decode cX5_readDigits 87 = .ok (.iadd, 1) by decide +kernel)) <|
  ok_c (sn_putI ck_5 (by decide) rfl rfl (show decode cX5_readDigits 88 = .ok (.putfield 35, 3) by decide +kernel) wd_1_209) <|
  ok_c (sn_goto (show decode cX5_readDigits 91 = .ok (.goto (-73), 3) by decide +kernel) (by decide)) <|
  ok_n
def uX5_readDigits : gCT := [(9, YX6_at, 2, some 6), (40, YX6_at, 2, some 6), (43, YX5_isDigit, 1, none), (68, YX6_at, 2, some 6)]
set_option maxRecDepth 100000 in
theorem ocX5_readDigits : gOkC YX5_readDigits uX5_readDigits := oc_c (gEdge_V cal_X6_at ck_6 rfl (show decode cX5_readDigits 9 = .ok (.invokevirtual 171, 3) by decide +kernel) wd_2_177 wd_2_178 wd_2_179) <|
  oc_c (gEdge_V cal_X6_at ck_6 rfl (show decode cX5_readDigits 40 = .ok (.invokevirtual 171, 3) by decide +kernel) wd_2_177 wd_2_178 wd_2_179) <|
  oc_c (gEdge_S cal_X5_isDigit (show decode cX5_readDigits 43 = .ok (.invokestatic 194, 3) by decide +kernel) wd_2_190 wd_2_191) <|
  oc_c (gEdge_V cal_X6_at ck_6 rfl (show decode cX5_readDigits 68 = .ok (.invokevirtual 171, 3) by decide +kernel) wd_2_177 wd_2_178 wd_2_179) <|
  oc_n
theorem reX5_readDigits : ∀ pc ∈ [94], decode cX5_readDigits pc = .ok (.return_, 1) := by decide +kernel
def tX5_kindOf : List (Nat × gStp) := [(0, i_iload 0 1), (1, i_push (.int (-1)) 2), (2, i_ic_ne 7 5), (5, i_push (.int 0) 6), (7, i_iload 0 8), (11, i_if_eq 16 14), (14, i_push (.int 1) 15), (16, i_iload 0 17), (20, i_if_eq 25 23), (23, i_push (.int 2) 24), (25, i_iload 0 26), (26, i_push (.int 59) 28), (28, i_ic_ne 35 31), (31, i_push (.int 3) 32), (32, i_goto 36), (35, i_push (.int 4) 36)]
set_option maxRecDepth 100000 in
theorem okX5_kindOf : gOk YX5_kindOf tX5_kindOf := ok_c (sn_iload_n (show decode cX5_kindOf 0 = .ok (.iload_n 0, 1) by decide +kernel) rfl) <|
  ok_c (sn_iconst (v := (-1)) (show decode cX5_kindOf 1 = .ok (.iconst (-1), 1) by decide +kernel) (by decide +kernel)) <|
  ok_c (sn_ic_ne (show decode cX5_kindOf 2 = .ok (.if_icmp .ne 5, 3) by decide +kernel) (by decide)) <|
  ok_c (sn_iconst (v := 0) (show decode cX5_kindOf 5 = .ok (.iconst 0, 1) by decide +kernel) (by decide +kernel)) <|
  ok_c (sn_iload_n (show decode cX5_kindOf 7 = .ok (.iload_n 0, 1) by decide +kernel) rfl) <|
  ok_c (sn_if_eq (show decode cX5_kindOf 11 = .ok (.ifCond .eq 5, 3) by decide +kernel) (by decide)) <|
  ok_c (sn_iconst (v := 1) (show decode cX5_kindOf 14 = .ok (.iconst 1, 1) by decide +kernel) (by decide +kernel)) <|
  ok_c (sn_iload_n (show decode cX5_kindOf 16 = .ok (.iload_n 0, 1) by decide +kernel) rfl) <|
  ok_c (sn_if_eq (show decode cX5_kindOf 20 = .ok (.ifCond .eq 5, 3) by decide +kernel) (by decide)) <|
  ok_c (sn_iconst (v := 2) (show decode cX5_kindOf 23 = .ok (.iconst 2, 1) by decide +kernel) (by decide +kernel)) <|
  ok_c (sn_iload_n (show decode cX5_kindOf 25 = .ok (.iload_n 0, 1) by decide +kernel) rfl) <|
  ok_c (sn_bipush (v := 59) (show decode cX5_kindOf 26 = .ok (.bipush 59, 2) by decide +kernel) (by decide +kernel)) <|
  ok_c (sn_ic_ne (show decode cX5_kindOf 28 = .ok (.if_icmp .ne 7, 3) by decide +kernel) (by decide)) <|
  ok_c (sn_iconst (v := 3) (show decode cX5_kindOf 31 = .ok (.iconst 3, 1) by decide +kernel) (by decide +kernel)) <|
  ok_c (sn_goto (show decode cX5_kindOf 32 = .ok (.goto 4, 3) by decide +kernel) (by decide)) <|
  ok_c (sn_iconst (v := 4) (show decode cX5_kindOf 35 = .ok (.iconst 4, 1) by decide +kernel) (by decide +kernel)) <|
  ok_n
def uX5_kindOf : gCT := [(8, YX5_isLetter, 1, none), (17, YX5_isDigit, 1, none)]
set_option maxRecDepth 100000 in
theorem ocX5_kindOf : gOkC YX5_kindOf uX5_kindOf := oc_c (gEdge_S cal_X5_isLetter (show decode cX5_kindOf 8 = .ok (.invokestatic 188, 3) by decide +kernel) wd_2_187 wd_2_188) <|
  oc_c (gEdge_S cal_X5_isDigit (show decode cX5_kindOf 17 = .ok (.invokestatic 194, 3) by decide +kernel) wd_2_190 wd_2_191) <|
  oc_n
theorem reX5_kindOf : ∀ pc ∈ [6, 15, 24, 36], decode cX5_kindOf pc = .ok (.ireturn, 1) := by decide +kernel
def tX5_isBlank : List (Nat × gStp) := [(0, i_iload 0 1), (1, i_push (.int 32) 3), (3, i_ic_eq 12 6), (6, i_iload 0 7), (7, i_push (.int 10) 9), (9, i_ic_ne 16 12), (12, i_push (.int 1) 13), (13, i_goto 17), (16, i_push (.int 0) 17)]
set_option maxRecDepth 100000 in
theorem okX5_isBlank : gOk YX5_isBlank tX5_isBlank := ok_c (sn_iload_n (show decode cX5_isBlank 0 = .ok (.iload_n 0, 1) by decide +kernel) rfl) <|
  ok_c (sn_bipush (v := 32) (show decode cX5_isBlank 1 = .ok (.bipush 32, 2) by decide +kernel) (by decide +kernel)) <|
  ok_c (sn_ic_eq (show decode cX5_isBlank 3 = .ok (.if_icmp .eq 9, 3) by decide +kernel) (by decide)) <|
  ok_c (sn_iload_n (show decode cX5_isBlank 6 = .ok (.iload_n 0, 1) by decide +kernel) rfl) <|
  ok_c (sn_bipush (v := 10) (show decode cX5_isBlank 7 = .ok (.bipush 10, 2) by decide +kernel) (by decide +kernel)) <|
  ok_c (sn_ic_ne (show decode cX5_isBlank 9 = .ok (.if_icmp .ne 7, 3) by decide +kernel) (by decide)) <|
  ok_c (sn_iconst (v := 1) (show decode cX5_isBlank 12 = .ok (.iconst 1, 1) by decide +kernel) (by decide +kernel)) <|
  ok_c (sn_goto (show decode cX5_isBlank 13 = .ok (.goto 4, 3) by decide +kernel) (by decide)) <|
  ok_c (sn_iconst (v := 0) (show decode cX5_isBlank 16 = .ok (.iconst 0, 1) by decide +kernel) (by decide +kernel)) <|
  ok_n
theorem reX5_isBlank : ∀ pc ∈ [17], decode cX5_isBlank pc = .ok (.ireturn, 1) := by decide +kernel
def tX5_isLetter : List (Nat × gStp) := [(0, i_iload 0 1), (1, i_push (.int 97) 3), (3, i_ic_lt 16 6), (6, i_iload 0 7), (7, i_push (.int 122) 9), (9, i_ic_gt 16 12), (12, i_push (.int 1) 13), (13, i_goto 17), (16, i_push (.int 0) 17)]
set_option maxRecDepth 100000 in
theorem okX5_isLetter : gOk YX5_isLetter tX5_isLetter := ok_c (sn_iload_n (show decode cX5_isLetter 0 = .ok (.iload_n 0, 1) by decide +kernel) rfl) <|
  ok_c (sn_bipush (v := 97) (show decode cX5_isLetter 1 = .ok (.bipush 97, 2) by decide +kernel) (by decide +kernel)) <|
  ok_c (sn_ic_lt (show decode cX5_isLetter 3 = .ok (.if_icmp .lt 13, 3) by decide +kernel) (by decide)) <|
  ok_c (sn_iload_n (show decode cX5_isLetter 6 = .ok (.iload_n 0, 1) by decide +kernel) rfl) <|
  ok_c (sn_bipush (v := 122) (show decode cX5_isLetter 7 = .ok (.bipush 122, 2) by decide +kernel) (by decide +kernel)) <|
  ok_c (sn_ic_gt (show decode cX5_isLetter 9 = .ok (.if_icmp .gt 7, 3) by decide +kernel) (by decide)) <|
  ok_c (sn_iconst (v := 1) (show decode cX5_isLetter 12 = .ok (.iconst 1, 1) by decide +kernel) (by decide +kernel)) <|
  ok_c (sn_goto (show decode cX5_isLetter 13 = .ok (.goto 4, 3) by decide +kernel) (by decide)) <|
  ok_c (sn_iconst (v := 0) (show decode cX5_isLetter 16 = .ok (.iconst 0, 1) by decide +kernel) (by decide +kernel)) <|
  ok_n
theorem reX5_isLetter : ∀ pc ∈ [17], decode cX5_isLetter pc = .ok (.ireturn, 1) := by decide +kernel
def tX5_isDigit : List (Nat × gStp) := [(0, i_iload 0 1), (1, i_push (.int 48) 3), (3, i_ic_lt 16 6), (6, i_iload 0 7), (7, i_push (.int 57) 9), (9, i_ic_gt 16 12), (12, i_push (.int 1) 13), (13, i_goto 17), (16, i_push (.int 0) 17)]
set_option maxRecDepth 100000 in
theorem okX5_isDigit : gOk YX5_isDigit tX5_isDigit := ok_c (sn_iload_n (show decode cX5_isDigit 0 = .ok (.iload_n 0, 1) by decide +kernel) rfl) <|
  ok_c (sn_bipush (v := 48) (show decode cX5_isDigit 1 = .ok (.bipush 48, 2) by decide +kernel) (by decide +kernel)) <|
  ok_c (sn_ic_lt (show decode cX5_isDigit 3 = .ok (.if_icmp .lt 13, 3) by decide +kernel) (by decide)) <|
  ok_c (sn_iload_n (show decode cX5_isDigit 6 = .ok (.iload_n 0, 1) by decide +kernel) rfl) <|
  ok_c (sn_bipush (v := 57) (show decode cX5_isDigit 7 = .ok (.bipush 57, 2) by decide +kernel) (by decide +kernel)) <|
  ok_c (sn_ic_gt (show decode cX5_isDigit 9 = .ok (.if_icmp .gt 7, 3) by decide +kernel) (by decide)) <|
  ok_c (sn_iconst (v := 1) (show decode cX5_isDigit 12 = .ok (.iconst 1, 1) by decide +kernel) (by decide +kernel)) <|
  ok_c (sn_goto (show decode cX5_isDigit 13 = .ok (.goto 4, 3) by decide +kernel) (by decide)) <|
  ok_c (sn_iconst (v := 0) (show decode cX5_isDigit 16 = .ok (.iconst 0, 1) by decide +kernel) (by decide +kernel)) <|
  ok_n
theorem reX5_isDigit : ∀ pc ∈ [17], decode cX5_isDigit pc = .ok (.ireturn, 1) := by decide +kernel
def tX6_put : List (Nat × gStp) := [(0, i_push (.int 24) 2), (2, i_istore 2 3), (3, i_iload 2 4), (4, i_if_lt 55 7), (7, i_aload 0 8), (8, i_getI 6 1 11), (11, i_if_lt 49 14), (14, i_aload 0 15), (15, i_getI 6 1 18), (18, i_aload 0 19), (19, i_getC 6 3 22), (22, i_alen 23), (23, i_ic_ge 49 26), (26, i_aload 0 27), (27, i_getC 6 3 30), (30, i_aload 0 31), (31, i_getI 6 1 34), (34, i_iload 1 35), (35, i_iload 2 36), (36, i_ii (fun x y => x >>> (y &&& 31)) 37), (37, i_i (fun x => x.toInt8.toInt32) 38), (38, i_bast 39), (39, i_aload 0 40), (40, i_dup 41), (41, i_getI 6 1 44), (44, i_push (.int 1) 45), (45, i_ii (fun x y => x + y) 46), (46, i_putI 6 1 49), (49, i_iinc 2 (-8) 52), (52, i_goto 3)]
set_option maxRecDepth 100000 in
theorem okX6_put : gOk YX6_put tX6_put := ok_c (sn_bipush (v := 24) (show decode cX6_put 0 = .ok (.bipush 24, 2) by decide +kernel) (by decide +kernel)) <|
  ok_c (sn_istore_n (show decode cX6_put 2 = .ok (.istore_n 2, 1) by decide +kernel) rfl (by decide)) <|
  ok_c (sn_iload_n (show decode cX6_put 3 = .ok (.iload_n 2, 1) by decide +kernel) rfl) <|
  ok_c (sn_if_lt (show decode cX6_put 4 = .ok (.ifCond .lt 51, 3) by decide +kernel) (by decide)) <|
  ok_c (sn_aload_n (show decode cX6_put 7 = .ok (.aload_n 0, 1) by decide +kernel) rfl) <|
  ok_c (sn_getI (fun _ _ => rfl) (sn_get ck_6 (by decide) (show decode cX6_put 8 = .ok (.getfield 15, 3) by decide +kernel) wd_1_40)) <|
  ok_c (sn_if_lt (show decode cX6_put 11 = .ok (.ifCond .lt 38, 3) by decide +kernel) (by decide)) <|
  ok_c (sn_aload_n (show decode cX6_put 14 = .ok (.aload_n 0, 1) by decide +kernel) rfl) <|
  ok_c (sn_getI (fun _ _ => rfl) (sn_get ck_6 (by decide) (show decode cX6_put 15 = .ok (.getfield 15, 3) by decide +kernel) wd_1_40)) <|
  ok_c (sn_aload_n (show decode cX6_put 18 = .ok (.aload_n 0, 1) by decide +kernel) rfl) <|
  ok_c (sn_getC (j := 0) (fun _ _ => rfl) (sn_get ck_6 (by decide) (show decode cX6_put 19 = .ok (.getfield 9, 3) by decide +kernel) wd_1_39)) <|
  ok_c (sn_alen (show decode cX6_put 22 = .ok (.arraylength, 1) by decide +kernel)) <|
  ok_c (sn_ic_ge (show decode cX6_put 23 = .ok (.if_icmp .ge 26, 3) by decide +kernel) (by decide)) <|
  ok_c (sn_aload_n (show decode cX6_put 26 = .ok (.aload_n 0, 1) by decide +kernel) rfl) <|
  ok_c (sn_getC (j := 0) (fun _ _ => rfl) (sn_get ck_6 (by decide) (show decode cX6_put 27 = .ok (.getfield 9, 3) by decide +kernel) wd_1_39)) <|
  ok_c (sn_aload_n (show decode cX6_put 30 = .ok (.aload_n 0, 1) by decide +kernel) rfl) <|
  ok_c (sn_getI (fun _ _ => rfl) (sn_get ck_6 (by decide) (show decode cX6_put 31 = .ok (.getfield 15, 3) by decide +kernel) wd_1_40)) <|
  ok_c (sn_iload_n (show decode cX6_put 34 = .ok (.iload_n 1, 1) by decide +kernel) rfl) <|
  ok_c (sn_iload_n (show decode cX6_put 35 = .ok (.iload_n 2, 1) by decide +kernel) rfl) <|
  ok_c (sn_ishr (show decode cX6_put 36 = .ok (.ishr, 1) by decide +kernel)) <|
  ok_c (sn_i2b (show decode cX6_put 37 = .ok (.i2b, 1) by decide +kernel)) <|
  ok_c (sn_bast (show decode cX6_put 38 = .ok (.bastore, 1) by decide +kernel)) <|
  ok_c (sn_aload_n (show decode cX6_put 39 = .ok (.aload_n 0, 1) by decide +kernel) rfl) <|
  ok_c (sn_dup (show decode cX6_put 40 = .ok (.dup, 1) by decide +kernel)) <|
  ok_c (sn_getI (fun _ _ => rfl) (sn_get ck_6 (by decide) (show decode cX6_put 41 = .ok (.getfield 15, 3) by decide +kernel) wd_1_40)) <|
  ok_c (sn_iconst (v := 1) (show decode cX6_put 44 = .ok (.iconst 1, 1) by decide +kernel) (by decide +kernel)) <|
  ok_c (sn_iadd (show decode cX6_put 45 = .ok (.iadd, 1) by decide +kernel)) <|
  ok_c (sn_putI ck_6 (by decide) rfl rfl (show decode cX6_put 46 = .ok (.putfield 15, 3) by decide +kernel) wd_1_40) <|
  ok_c (sn_iinc (show decode cX6_put 49 = .ok (.iinc 2 (-8), 3) by decide +kernel) (by decide) (by decide +kernel)) <|
  ok_c (sn_goto (show decode cX6_put 52 = .ok (.goto (-49), 3) by decide +kernel) (by decide)) <|
  ok_n
theorem reX6_put : ∀ pc ∈ [55], decode cX6_put pc = .ok (.return_, 1) := by decide +kernel
def tX6_at : List (Nat × gStp) := [(0, i_iload 1 1), (1, i_if_lt 25 4), (4, i_iload 1 5), (5, i_aload 0 6), (6, i_getI 6 1 9), (9, i_ic_ge 25 12), (12, i_iload 1 13), (13, i_aload 0 14), (14, i_getC 6 3 17), (17, i_alen 18), (18, i_ic_ge 25 21), (21, i_push (.int 1) 22), (22, i_goto 26), (25, i_push (.int 0) 26), (26, i_istore 2 27), (27, i_iload 2 28), (28, i_if_eq 44 31), (31, i_aload 0 32), (32, i_getC 6 3 35), (35, i_iload 1 36), (36, i_bald 37), (37, i_push (.int 255) 40), (40, i_ii (fun x y => x &&& y) 41), (41, i_goto 45), (44, i_push (.int (-1)) 45)]
set_option maxRecDepth 100000 in
theorem okX6_at : gOk YX6_at tX6_at := ok_c (sn_iload_n (show decode cX6_at 0 = .ok (.iload_n 1, 1) by decide +kernel) rfl) <|
  ok_c (sn_if_lt (show decode cX6_at 1 = .ok (.ifCond .lt 24, 3) by decide +kernel) (by decide)) <|
  ok_c (sn_iload_n (show decode cX6_at 4 = .ok (.iload_n 1, 1) by decide +kernel) rfl) <|
  ok_c (sn_aload_n (show decode cX6_at 5 = .ok (.aload_n 0, 1) by decide +kernel) rfl) <|
  ok_c (sn_getI (fun _ _ => rfl) (sn_get ck_6 (by decide) (show decode cX6_at 6 = .ok (.getfield 15, 3) by decide +kernel) wd_1_40)) <|
  ok_c (sn_ic_ge (show decode cX6_at 9 = .ok (.if_icmp .ge 16, 3) by decide +kernel) (by decide)) <|
  ok_c (sn_iload_n (show decode cX6_at 12 = .ok (.iload_n 1, 1) by decide +kernel) rfl) <|
  ok_c (sn_aload_n (show decode cX6_at 13 = .ok (.aload_n 0, 1) by decide +kernel) rfl) <|
  ok_c (sn_getC (j := 0) (fun _ _ => rfl) (sn_get ck_6 (by decide) (show decode cX6_at 14 = .ok (.getfield 9, 3) by decide +kernel) wd_1_39)) <|
  ok_c (sn_alen (show decode cX6_at 17 = .ok (.arraylength, 1) by decide +kernel)) <|
  ok_c (sn_ic_ge (show decode cX6_at 18 = .ok (.if_icmp .ge 7, 3) by decide +kernel) (by decide)) <|
  ok_c (sn_iconst (v := 1) (show decode cX6_at 21 = .ok (.iconst 1, 1) by decide +kernel) (by decide +kernel)) <|
  ok_c (sn_goto (show decode cX6_at 22 = .ok (.goto 4, 3) by decide +kernel) (by decide)) <|
  ok_c (sn_iconst (v := 0) (show decode cX6_at 25 = .ok (.iconst 0, 1) by decide +kernel) (by decide +kernel)) <|
  ok_c (sn_istore_n (show decode cX6_at 26 = .ok (.istore_n 2, 1) by decide +kernel) rfl (by decide)) <|
  ok_c (sn_iload_n (show decode cX6_at 27 = .ok (.iload_n 2, 1) by decide +kernel) rfl) <|
  ok_c (sn_if_eq (show decode cX6_at 28 = .ok (.ifCond .eq 16, 3) by decide +kernel) (by decide)) <|
  ok_c (sn_aload_n (show decode cX6_at 31 = .ok (.aload_n 0, 1) by decide +kernel) rfl) <|
  ok_c (sn_getC (j := 0) (fun _ _ => rfl) (sn_get ck_6 (by decide) (show decode cX6_at 32 = .ok (.getfield 9, 3) by decide +kernel) wd_1_39)) <|
  ok_c (sn_iload_n (show decode cX6_at 35 = .ok (.iload_n 1, 1) by decide +kernel) rfl) <|
  ok_c (sn_bald (show decode cX6_at 36 = .ok (.baload, 1) by decide +kernel)) <|
  ok_c (sn_sipush (v := 255) (show decode cX6_at 37 = .ok (.sipush 255, 3) by decide +kernel) (by decide +kernel)) <|
  ok_c (sn_iand (show decode cX6_at 40 = .ok (.iand, 1) by decide +kernel)) <|
  ok_c (sn_goto (show decode cX6_at 41 = .ok (.goto 4, 3) by decide +kernel) (by decide)) <|
  ok_c (sn_iconst (v := (-1)) (show decode cX6_at 44 = .ok (.iconst (-1), 1) by decide +kernel) (by decide +kernel)) <|
  ok_n
theorem reX6_at : ∀ pc ∈ [45], decode cX6_at pc = .ok (.ireturn, 1) := by decide +kernel
def tX7_clear : List (Nat × gStp) := [(0, i_aload 0 1), (1, i_push (.int 0) 2), (2, i_putI 7 0 5), (5, i_aload 0 6), (6, i_push (.int 0) 7), (7, i_putI 7 1 10), (10, i_aload 0 11), (11, i_push (.int 0) 12), (12, i_putI 7 2 15), (15, i_aload 0 16), (16, i_push (.int 0) 17), (17, i_putI 7 3 20), (20, i_aload 0 21), (21, i_push (.int 0) 22), (22, i_putI 7 4 25), (25, i_aload 0 26), (26, i_push (.int 0) 27), (27, i_putI 7 5 30), (30, i_aload 0 31), (31, i_push (.int 0) 32), (32, i_putI 7 6 35), (35, i_aload 0 36), (36, i_push (.int 0) 37), (37, i_putI 7 7 40), (40, i_aload 0 41), (41, i_push (.int 0) 42), (42, i_putI 7 8 45), (45, i_aload 0 46), (46, i_getO 7 10 49), (49, i_push (.int 0) 50), (50, i_putI 0 4 53)]
set_option maxRecDepth 100000 in
theorem okX7_clear : gOk YX7_clear tX7_clear := ok_c (sn_aload_n (show decode cX7_clear 0 = .ok (.aload_n 0, 1) by decide +kernel) rfl) <|
  ok_c (sn_iconst (v := 0) (show decode cX7_clear 1 = .ok (.iconst 0, 1) by decide +kernel) (by decide +kernel)) <|
  ok_c (sn_putI ck_7 (by decide) rfl rfl (show decode cX7_clear 2 = .ok (.putfield 46, 3) by decide +kernel) wd_1_85) <|
  ok_c (sn_aload_n (show decode cX7_clear 5 = .ok (.aload_n 0, 1) by decide +kernel) rfl) <|
  ok_c (sn_iconst (v := 0) (show decode cX7_clear 6 = .ok (.iconst 0, 1) by decide +kernel) (by decide +kernel)) <|
  ok_c (sn_putI ck_7 (by decide) rfl rfl (show decode cX7_clear 7 = .ok (.putfield 50, 3) by decide +kernel) wd_1_88) <|
  ok_c (sn_aload_n (show decode cX7_clear 10 = .ok (.aload_n 0, 1) by decide +kernel) rfl) <|
  ok_c (sn_iconst (v := 0) (show decode cX7_clear 11 = .ok (.iconst 0, 1) by decide +kernel) (by decide +kernel)) <|
  ok_c (sn_putI ck_7 (by decide) rfl rfl (show decode cX7_clear 12 = .ok (.putfield 53, 3) by decide +kernel) wd_1_92) <|
  ok_c (sn_aload_n (show decode cX7_clear 15 = .ok (.aload_n 0, 1) by decide +kernel) rfl) <|
  ok_c (sn_iconst (v := 0) (show decode cX7_clear 16 = .ok (.iconst 0, 1) by decide +kernel) (by decide +kernel)) <|
  ok_c (sn_putI ck_7 (by decide) rfl rfl (show decode cX7_clear 17 = .ok (.putfield 56, 3) by decide +kernel) wd_1_96) <|
  ok_c (sn_aload_n (show decode cX7_clear 20 = .ok (.aload_n 0, 1) by decide +kernel) rfl) <|
  ok_c (sn_iconst (v := 0) (show decode cX7_clear 21 = .ok (.iconst 0, 1) by decide +kernel) (by decide +kernel)) <|
  ok_c (sn_putI ck_7 (by decide) rfl rfl (show decode cX7_clear 22 = .ok (.putfield 59, 3) by decide +kernel) wd_1_100) <|
  ok_c (sn_aload_n (show decode cX7_clear 25 = .ok (.aload_n 0, 1) by decide +kernel) rfl) <|
  ok_c (sn_iconst (v := 0) (show decode cX7_clear 26 = .ok (.iconst 0, 1) by decide +kernel) (by decide +kernel)) <|
  ok_c (sn_putI ck_7 (by decide) rfl rfl (show decode cX7_clear 27 = .ok (.putfield 62, 3) by decide +kernel) wd_1_103) <|
  ok_c (sn_aload_n (show decode cX7_clear 30 = .ok (.aload_n 0, 1) by decide +kernel) rfl) <|
  ok_c (sn_iconst (v := 0) (show decode cX7_clear 31 = .ok (.iconst 0, 1) by decide +kernel) (by decide +kernel)) <|
  ok_c (sn_putI ck_7 (by decide) rfl rfl (show decode cX7_clear 32 = .ok (.putfield 65, 3) by decide +kernel) wd_1_109) <|
  ok_c (sn_aload_n (show decode cX7_clear 35 = .ok (.aload_n 0, 1) by decide +kernel) rfl) <|
  ok_c (sn_iconst (v := 0) (show decode cX7_clear 36 = .ok (.iconst 0, 1) by decide +kernel) (by decide +kernel)) <|
  ok_c (sn_putI ck_7 (by decide) rfl rfl (show decode cX7_clear 37 = .ok (.putfield 68, 3) by decide +kernel) wd_1_114) <|
  ok_c (sn_aload_n (show decode cX7_clear 40 = .ok (.aload_n 0, 1) by decide +kernel) rfl) <|
  ok_c (sn_iconst (v := 0) (show decode cX7_clear 41 = .ok (.iconst 0, 1) by decide +kernel) (by decide +kernel)) <|
  ok_c (sn_putI ck_7 (by decide) rfl rfl (show decode cX7_clear 42 = .ok (.putfield 71, 3) by decide +kernel) wd_1_119) <|
  ok_c (sn_aload_n (show decode cX7_clear 45 = .ok (.aload_n 0, 1) by decide +kernel) rfl) <|
  ok_c (sn_getO (j := 18) (fun _ _ => rfl) (sn_get ck_7 (by decide) (show decode cX7_clear 46 = .ok (.getfield 42, 3) by decide +kernel) wd_1_157)) <|
  ok_c (sn_iconst (v := 0) (show decode cX7_clear 49 = .ok (.iconst 0, 1) by decide +kernel) (by decide +kernel)) <|
  ok_c (sn_putI ck_0 (by decide) rfl rfl (show decode cX7_clear 50 = .ok (.putfield 74, 3) by decide +kernel) wd_1_70) <|
  ok_n
theorem reX7_clear : ∀ pc ∈ [53], decode cX7_clear pc = .ok (.return_, 1) := by decide +kernel
def tX7_copyFrom : List (Nat × gStp) := [(0, i_aload 0 1), (1, i_aload 1 2), (2, i_getI 7 0 5), (5, i_putI 7 0 8), (8, i_aload 0 9), (9, i_aload 1 10), (10, i_getI 7 1 13), (13, i_putI 7 1 16), (16, i_aload 0 17), (17, i_aload 1 18), (18, i_getI 7 2 21), (21, i_putI 7 2 24), (24, i_aload 0 25), (25, i_aload 1 26), (26, i_getI 7 3 29), (29, i_putI 7 3 32), (32, i_aload 0 33), (33, i_aload 1 34), (34, i_getI 7 4 37), (37, i_putI 7 4 40), (40, i_aload 0 41), (41, i_aload 1 42), (42, i_getI 7 5 45), (45, i_putI 7 5 48), (48, i_aload 0 49), (49, i_aload 1 50), (50, i_getI 7 6 53), (53, i_putI 7 6 56), (56, i_aload 0 57), (57, i_aload 1 58), (58, i_getI 7 7 61), (61, i_putI 7 7 64), (64, i_aload 0 65), (65, i_aload 1 66), (66, i_getI 7 8 69), (69, i_putI 7 8 72), (72, i_aload 1 73), (73, i_getO 7 1 76), (76, i_aload 0 77), (77, i_getO 7 1 80), (83, i_aload 1 84), (84, i_getO 7 2 87), (87, i_aload 0 88), (88, i_getO 7 2 91), (94, i_aload 1 95), (95, i_getO 7 3 98), (98, i_aload 0 99), (99, i_getO 7 3 102), (105, i_aload 1 106), (106, i_getO 7 4 109), (109, i_aload 0 110), (110, i_getO 7 4 113), (116, i_aload 1 117), (117, i_getO 7 5 120), (120, i_aload 0 121), (121, i_getO 7 5 124), (127, i_aload 1 128), (128, i_getO 7 6 131), (131, i_aload 0 132), (132, i_getO 7 6 135), (138, i_aload 1 139), (139, i_getO 7 7 142), (142, i_aload 0 143), (143, i_getO 7 7 146), (149, i_aload 1 150), (150, i_getO 7 8 153), (153, i_aload 0 154), (154, i_getO 7 8 157), (160, i_aload 1 161), (161, i_getO 7 9 164), (164, i_aload 0 165), (165, i_getO 7 9 168), (171, i_aload 0 172), (172, i_getO 7 10 175), (175, i_aload 1 176), (176, i_getO 7 10 179)]
set_option maxRecDepth 100000 in
theorem okX7_copyFrom : gOk YX7_copyFrom tX7_copyFrom := ok_c (sn_aload_n (show decode cX7_copyFrom 0 = .ok (.aload_n 0, 1) by decide +kernel) rfl) <|
  ok_c (sn_aload_n (show decode cX7_copyFrom 1 = .ok (.aload_n 1, 1) by decide +kernel) rfl) <|
  ok_c (sn_getI (fun _ _ => rfl) (sn_get ck_7 (by decide) (show decode cX7_copyFrom 2 = .ok (.getfield 46, 3) by decide +kernel) wd_1_85)) <|
  ok_c (sn_putI ck_7 (by decide) rfl rfl (show decode cX7_copyFrom 5 = .ok (.putfield 46, 3) by decide +kernel) wd_1_85) <|
  ok_c (sn_aload_n (show decode cX7_copyFrom 8 = .ok (.aload_n 0, 1) by decide +kernel) rfl) <|
  ok_c (sn_aload_n (show decode cX7_copyFrom 9 = .ok (.aload_n 1, 1) by decide +kernel) rfl) <|
  ok_c (sn_getI (fun _ _ => rfl) (sn_get ck_7 (by decide) (show decode cX7_copyFrom 10 = .ok (.getfield 50, 3) by decide +kernel) wd_1_88)) <|
  ok_c (sn_putI ck_7 (by decide) rfl rfl (show decode cX7_copyFrom 13 = .ok (.putfield 50, 3) by decide +kernel) wd_1_88) <|
  ok_c (sn_aload_n (show decode cX7_copyFrom 16 = .ok (.aload_n 0, 1) by decide +kernel) rfl) <|
  ok_c (sn_aload_n (show decode cX7_copyFrom 17 = .ok (.aload_n 1, 1) by decide +kernel) rfl) <|
  ok_c (sn_getI (fun _ _ => rfl) (sn_get ck_7 (by decide) (show decode cX7_copyFrom 18 = .ok (.getfield 53, 3) by decide +kernel) wd_1_92)) <|
  ok_c (sn_putI ck_7 (by decide) rfl rfl (show decode cX7_copyFrom 21 = .ok (.putfield 53, 3) by decide +kernel) wd_1_92) <|
  ok_c (sn_aload_n (show decode cX7_copyFrom 24 = .ok (.aload_n 0, 1) by decide +kernel) rfl) <|
  ok_c (sn_aload_n (show decode cX7_copyFrom 25 = .ok (.aload_n 1, 1) by decide +kernel) rfl) <|
  ok_c (sn_getI (fun _ _ => rfl) (sn_get ck_7 (by decide) (show decode cX7_copyFrom 26 = .ok (.getfield 56, 3) by decide +kernel) wd_1_96)) <|
  ok_c (sn_putI ck_7 (by decide) rfl rfl (show decode cX7_copyFrom 29 = .ok (.putfield 56, 3) by decide +kernel) wd_1_96) <|
  ok_c (sn_aload_n (show decode cX7_copyFrom 32 = .ok (.aload_n 0, 1) by decide +kernel) rfl) <|
  ok_c (sn_aload_n (show decode cX7_copyFrom 33 = .ok (.aload_n 1, 1) by decide +kernel) rfl) <|
  ok_c (sn_getI (fun _ _ => rfl) (sn_get ck_7 (by decide) (show decode cX7_copyFrom 34 = .ok (.getfield 59, 3) by decide +kernel) wd_1_100)) <|
  ok_c (sn_putI ck_7 (by decide) rfl rfl (show decode cX7_copyFrom 37 = .ok (.putfield 59, 3) by decide +kernel) wd_1_100) <|
  ok_c (sn_aload_n (show decode cX7_copyFrom 40 = .ok (.aload_n 0, 1) by decide +kernel) rfl) <|
  ok_c (sn_aload_n (show decode cX7_copyFrom 41 = .ok (.aload_n 1, 1) by decide +kernel) rfl) <|
  ok_c (sn_getI (fun _ _ => rfl) (sn_get ck_7 (by decide) (show decode cX7_copyFrom 42 = .ok (.getfield 62, 3) by decide +kernel) wd_1_103)) <|
  ok_c (sn_putI ck_7 (by decide) rfl rfl (show decode cX7_copyFrom 45 = .ok (.putfield 62, 3) by decide +kernel) wd_1_103) <|
  ok_c (sn_aload_n (show decode cX7_copyFrom 48 = .ok (.aload_n 0, 1) by decide +kernel) rfl) <|
  ok_c (sn_aload_n (show decode cX7_copyFrom 49 = .ok (.aload_n 1, 1) by decide +kernel) rfl) <|
  ok_c (sn_getI (fun _ _ => rfl) (sn_get ck_7 (by decide) (show decode cX7_copyFrom 50 = .ok (.getfield 65, 3) by decide +kernel) wd_1_109)) <|
  ok_c (sn_putI ck_7 (by decide) rfl rfl (show decode cX7_copyFrom 53 = .ok (.putfield 65, 3) by decide +kernel) wd_1_109) <|
  ok_c (sn_aload_n (show decode cX7_copyFrom 56 = .ok (.aload_n 0, 1) by decide +kernel) rfl) <|
  ok_c (sn_aload_n (show decode cX7_copyFrom 57 = .ok (.aload_n 1, 1) by decide +kernel) rfl) <|
  ok_c (sn_getI (fun _ _ => rfl) (sn_get ck_7 (by decide) (show decode cX7_copyFrom 58 = .ok (.getfield 68, 3) by decide +kernel) wd_1_114)) <|
  ok_c (sn_putI ck_7 (by decide) rfl rfl (show decode cX7_copyFrom 61 = .ok (.putfield 68, 3) by decide +kernel) wd_1_114) <|
  ok_c (sn_aload_n (show decode cX7_copyFrom 64 = .ok (.aload_n 0, 1) by decide +kernel) rfl) <|
  ok_c (sn_aload_n (show decode cX7_copyFrom 65 = .ok (.aload_n 1, 1) by decide +kernel) rfl) <|
  ok_c (sn_getI (fun _ _ => rfl) (sn_get ck_7 (by decide) (show decode cX7_copyFrom 66 = .ok (.getfield 71, 3) by decide +kernel) wd_1_119)) <|
  ok_c (sn_putI ck_7 (by decide) rfl rfl (show decode cX7_copyFrom 69 = .ok (.putfield 71, 3) by decide +kernel) wd_1_119) <|
  ok_c (sn_aload_n (show decode cX7_copyFrom 72 = .ok (.aload_n 1, 1) by decide +kernel) rfl) <|
  ok_c (sn_getO (j := 9) (fun _ _ => rfl) (sn_get ck_7 (by decide) (show decode cX7_copyFrom 73 = .ok (.getfield 9, 3) by decide +kernel) wd_1_123)) <|
  ok_c (sn_aload_n (show decode cX7_copyFrom 76 = .ok (.aload_n 0, 1) by decide +kernel) rfl) <|
  ok_c (sn_getO (j := 9) (fun _ _ => rfl) (sn_get ck_7 (by decide) (show decode cX7_copyFrom 77 = .ok (.getfield 9, 3) by decide +kernel) wd_1_123)) <|
  ok_c (sn_aload_n (show decode cX7_copyFrom 83 = .ok (.aload_n 1, 1) by decide +kernel) rfl) <|
  ok_c (sn_getO (j := 10) (fun _ _ => rfl) (sn_get ck_7 (by decide) (show decode cX7_copyFrom 84 = .ok (.getfield 15, 3) by decide +kernel) wd_1_126)) <|
  ok_c (sn_aload_n (show decode cX7_copyFrom 87 = .ok (.aload_n 0, 1) by decide +kernel) rfl) <|
  ok_c (sn_getO (j := 10) (fun _ _ => rfl) (sn_get ck_7 (by decide) (show decode cX7_copyFrom 88 = .ok (.getfield 15, 3) by decide +kernel) wd_1_126)) <|
  ok_c (sn_aload_n (show decode cX7_copyFrom 94 = .ok (.aload_n 1, 1) by decide +kernel) rfl) <|
  ok_c (sn_getO (j := 11) (fun _ _ => rfl) (sn_get ck_7 (by decide) (show decode cX7_copyFrom 95 = .ok (.getfield 18, 3) by decide +kernel) wd_1_130)) <|
  ok_c (sn_aload_n (show decode cX7_copyFrom 98 = .ok (.aload_n 0, 1) by decide +kernel) rfl) <|
  ok_c (sn_getO (j := 11) (fun _ _ => rfl) (sn_get ck_7 (by decide) (show decode cX7_copyFrom 99 = .ok (.getfield 18, 3) by decide +kernel) wd_1_130)) <|
  ok_c (sn_aload_n (show decode cX7_copyFrom 105 = .ok (.aload_n 1, 1) by decide +kernel) rfl) <|
  ok_c (sn_getO (j := 12) (fun _ _ => rfl) (sn_get ck_7 (by decide) (show decode cX7_copyFrom 106 = .ok (.getfield 21, 3) by decide +kernel) wd_1_134)) <|
  ok_c (sn_aload_n (show decode cX7_copyFrom 109 = .ok (.aload_n 0, 1) by decide +kernel) rfl) <|
  ok_c (sn_getO (j := 12) (fun _ _ => rfl) (sn_get ck_7 (by decide) (show decode cX7_copyFrom 110 = .ok (.getfield 21, 3) by decide +kernel) wd_1_134)) <|
  ok_c (sn_aload_n (show decode cX7_copyFrom 116 = .ok (.aload_n 1, 1) by decide +kernel) rfl) <|
  ok_c (sn_getO (j := 13) (fun _ _ => rfl) (sn_get ck_7 (by decide) (show decode cX7_copyFrom 117 = .ok (.getfield 24, 3) by decide +kernel) wd_1_138)) <|
  ok_c (sn_aload_n (show decode cX7_copyFrom 120 = .ok (.aload_n 0, 1) by decide +kernel) rfl) <|
  ok_c (sn_getO (j := 13) (fun _ _ => rfl) (sn_get ck_7 (by decide) (show decode cX7_copyFrom 121 = .ok (.getfield 24, 3) by decide +kernel) wd_1_138)) <|
  ok_c (sn_aload_n (show decode cX7_copyFrom 127 = .ok (.aload_n 1, 1) by decide +kernel) rfl) <|
  ok_c (sn_getO (j := 14) (fun _ _ => rfl) (sn_get ck_7 (by decide) (show decode cX7_copyFrom 128 = .ok (.getfield 27, 3) by decide +kernel) wd_1_142)) <|
  ok_c (sn_aload_n (show decode cX7_copyFrom 131 = .ok (.aload_n 0, 1) by decide +kernel) rfl) <|
  ok_c (sn_getO (j := 14) (fun _ _ => rfl) (sn_get ck_7 (by decide) (show decode cX7_copyFrom 132 = .ok (.getfield 27, 3) by decide +kernel) wd_1_142)) <|
  ok_c (sn_aload_n (show decode cX7_copyFrom 138 = .ok (.aload_n 1, 1) by decide +kernel) rfl) <|
  ok_c (sn_getO (j := 15) (fun _ _ => rfl) (sn_get ck_7 (by decide) (show decode cX7_copyFrom 139 = .ok (.getfield 30, 3) by decide +kernel) wd_1_146)) <|
  ok_c (sn_aload_n (show decode cX7_copyFrom 142 = .ok (.aload_n 0, 1) by decide +kernel) rfl) <|
  ok_c (sn_getO (j := 15) (fun _ _ => rfl) (sn_get ck_7 (by decide) (show decode cX7_copyFrom 143 = .ok (.getfield 30, 3) by decide +kernel) wd_1_146)) <|
  ok_c (sn_aload_n (show decode cX7_copyFrom 149 = .ok (.aload_n 1, 1) by decide +kernel) rfl) <|
  ok_c (sn_getO (j := 16) (fun _ _ => rfl) (sn_get ck_7 (by decide) (show decode cX7_copyFrom 150 = .ok (.getfield 33, 3) by decide +kernel) wd_1_151)) <|
  ok_c (sn_aload_n (show decode cX7_copyFrom 153 = .ok (.aload_n 0, 1) by decide +kernel) rfl) <|
  ok_c (sn_getO (j := 16) (fun _ _ => rfl) (sn_get ck_7 (by decide) (show decode cX7_copyFrom 154 = .ok (.getfield 33, 3) by decide +kernel) wd_1_151)) <|
  ok_c (sn_aload_n (show decode cX7_copyFrom 160 = .ok (.aload_n 1, 1) by decide +kernel) rfl) <|
  ok_c (sn_getO (j := 17) (fun _ _ => rfl) (sn_get ck_7 (by decide) (show decode cX7_copyFrom 161 = .ok (.getfield 36, 3) by decide +kernel) wd_1_154)) <|
  ok_c (sn_aload_n (show decode cX7_copyFrom 164 = .ok (.aload_n 0, 1) by decide +kernel) rfl) <|
  ok_c (sn_getO (j := 17) (fun _ _ => rfl) (sn_get ck_7 (by decide) (show decode cX7_copyFrom 165 = .ok (.getfield 36, 3) by decide +kernel) wd_1_154)) <|
  ok_c (sn_aload_n (show decode cX7_copyFrom 171 = .ok (.aload_n 0, 1) by decide +kernel) rfl) <|
  ok_c (sn_getO (j := 18) (fun _ _ => rfl) (sn_get ck_7 (by decide) (show decode cX7_copyFrom 172 = .ok (.getfield 42, 3) by decide +kernel) wd_1_157)) <|
  ok_c (sn_aload_n (show decode cX7_copyFrom 175 = .ok (.aload_n 1, 1) by decide +kernel) rfl) <|
  ok_c (sn_getO (j := 18) (fun _ _ => rfl) (sn_get ck_7 (by decide) (show decode cX7_copyFrom 176 = .ok (.getfield 42, 3) by decide +kernel) wd_1_157)) <|
  ok_n
def uX7_copyFrom : gCT := [(80, YX7_copy, 2, none), (91, YX7_copy, 2, none), (102, YX7_copy, 2, none), (113, YX7_copy, 2, none), (124, YX7_copy, 2, none), (135, YX7_copy, 2, none), (146, YX7_copy, 2, none), (157, YX7_copy, 2, none), (168, YX7_copy, 2, none), (179, YX0_copyFrom, 2, some 0)]
set_option maxRecDepth 100000 in
theorem ocX7_copyFrom : gOkC YX7_copyFrom uX7_copyFrom := oc_c (gEdge_S cal_X7_copy (show decode cX7_copyFrom 80 = .ok (.invokestatic 77, 3) by decide +kernel) wd_5_168 wd_5_169) <|
  oc_c (gEdge_S cal_X7_copy (show decode cX7_copyFrom 91 = .ok (.invokestatic 77, 3) by decide +kernel) wd_5_168 wd_5_169) <|
  oc_c (gEdge_S cal_X7_copy (show decode cX7_copyFrom 102 = .ok (.invokestatic 77, 3) by decide +kernel) wd_5_168 wd_5_169) <|
  oc_c (gEdge_S cal_X7_copy (show decode cX7_copyFrom 113 = .ok (.invokestatic 77, 3) by decide +kernel) wd_5_168 wd_5_169) <|
  oc_c (gEdge_S cal_X7_copy (show decode cX7_copyFrom 124 = .ok (.invokestatic 77, 3) by decide +kernel) wd_5_168 wd_5_169) <|
  oc_c (gEdge_S cal_X7_copy (show decode cX7_copyFrom 135 = .ok (.invokestatic 77, 3) by decide +kernel) wd_5_168 wd_5_169) <|
  oc_c (gEdge_S cal_X7_copy (show decode cX7_copyFrom 146 = .ok (.invokestatic 77, 3) by decide +kernel) wd_5_168 wd_5_169) <|
  oc_c (gEdge_S cal_X7_copy (show decode cX7_copyFrom 157 = .ok (.invokestatic 77, 3) by decide +kernel) wd_5_168 wd_5_169) <|
  oc_c (gEdge_S cal_X7_copy (show decode cX7_copyFrom 168 = .ok (.invokestatic 77, 3) by decide +kernel) wd_5_168 wd_5_169) <|
  oc_c (gEdge_V cal_X0_copyFrom ck_0 rfl (show decode cX7_copyFrom 179 = .ok (.invokevirtual 81, 3) by decide +kernel) wd_5_175 wd_5_176 wd_5_177) <|
  oc_n
theorem reX7_copyFrom : ∀ pc ∈ [182], decode cX7_copyFrom pc = .ok (.return_, 1) := by decide +kernel
def tX7_copy : List (Nat × gStp) := [(0, i_aload 0 1), (1, i_push (.int 0) 2), (2, i_aload 1 3), (3, i_push (.int 0) 4), (4, i_aload 0 5), (5, i_alen 6), (6, i_aload 1 7), (7, i_alen 8), (8, i_min 11), (11, i_cpyi 14)]
set_option maxRecDepth 100000 in
theorem okX7_copy : gOk YX7_copy tX7_copy := ok_c (sn_aload_n (show decode cX7_copy 0 = .ok (.aload_n 0, 1) by decide +kernel) rfl) <|
  ok_c (sn_iconst (v := 0) (show decode cX7_copy 1 = .ok (.iconst 0, 1) by decide +kernel) (by decide +kernel)) <|
  ok_c (sn_aload_n (show decode cX7_copy 2 = .ok (.aload_n 1, 1) by decide +kernel) rfl) <|
  ok_c (sn_iconst (v := 0) (show decode cX7_copy 3 = .ok (.iconst 0, 1) by decide +kernel) (by decide +kernel)) <|
  ok_c (sn_aload_n (show decode cX7_copy 4 = .ok (.aload_n 0, 1) by decide +kernel) rfl) <|
  ok_c (sn_alen (show decode cX7_copy 5 = .ok (.arraylength, 1) by decide +kernel)) <|
  ok_c (sn_aload_n (show decode cX7_copy 6 = .ok (.aload_n 1, 1) by decide +kernel) rfl) <|
  ok_c (sn_alen (show decode cX7_copy 7 = .ok (.arraylength, 1) by decide +kernel)) <|
  ok_c (sn_min (show decode cX7_copy 8 = .ok (.invokestatic 85, 3) by decide +kernel) wd_5_171 wd_2_198 wd_1_11 wd_2_199) <|
  ok_c (sn_cpyi (show decode cX7_copy 11 = .ok (.invokestatic 91, 3) by decide +kernel) wd_5_172 wd_5_174 wd_5_173 wd_1_18) <|
  ok_n
theorem reX7_copy : ∀ pc ∈ [14], decode cX7_copy pc = .ok (.return_, 1) := by decide +kernel
def tX7_isTold : List (Nat × gStp) := [(0, i_aload 0 1), (1, i_getI 7 0 4), (4, i_if_le 11 7), (7, i_push (.int 1) 8), (8, i_goto 12), (11, i_push (.int 0) 12)]
set_option maxRecDepth 100000 in
theorem okX7_isTold : gOk YX7_isTold tX7_isTold := ok_c (sn_aload_n (show decode cX7_isTold 0 = .ok (.aload_n 0, 1) by decide +kernel) rfl) <|
  ok_c (sn_getI (fun _ _ => rfl) (sn_get ck_7 (by decide) (show decode cX7_isTold 1 = .ok (.getfield 46, 3) by decide +kernel) wd_1_85)) <|
  ok_c (sn_if_le (show decode cX7_isTold 4 = .ok (.ifCond .le 7, 3) by decide +kernel) (by decide)) <|
  ok_c (sn_iconst (v := 1) (show decode cX7_isTold 7 = .ok (.iconst 1, 1) by decide +kernel) (by decide +kernel)) <|
  ok_c (sn_goto (show decode cX7_isTold 8 = .ok (.goto 4, 3) by decide +kernel) (by decide)) <|
  ok_c (sn_iconst (v := 0) (show decode cX7_isTold 11 = .ok (.iconst 0, 1) by decide +kernel) (by decide +kernel)) <|
  ok_n
theorem reX7_isTold : ∀ pc ∈ [12], decode cX7_isTold pc = .ok (.ireturn, 1) := by decide +kernel
def tX7_hasYear : List (Nat × gStp) := [(0, i_iload 1 1), (1, i_if_lt 16 4), (4, i_iload 1 5), (5, i_aload 0 6), (6, i_getI 7 1 9), (9, i_ic_ge 16 12), (12, i_push (.int 1) 13), (13, i_goto 17), (16, i_push (.int 0) 17)]
set_option maxRecDepth 100000 in
theorem okX7_hasYear : gOk YX7_hasYear tX7_hasYear := ok_c (sn_iload_n (show decode cX7_hasYear 0 = .ok (.iload_n 1, 1) by decide +kernel) rfl) <|
  ok_c (sn_if_lt (show decode cX7_hasYear 1 = .ok (.ifCond .lt 15, 3) by decide +kernel) (by decide)) <|
  ok_c (sn_iload_n (show decode cX7_hasYear 4 = .ok (.iload_n 1, 1) by decide +kernel) rfl) <|
  ok_c (sn_aload_n (show decode cX7_hasYear 5 = .ok (.aload_n 0, 1) by decide +kernel) rfl) <|
  ok_c (sn_getI (fun _ _ => rfl) (sn_get ck_7 (by decide) (show decode cX7_hasYear 6 = .ok (.getfield 50, 3) by decide +kernel) wd_1_88)) <|
  ok_c (sn_ic_ge (show decode cX7_hasYear 9 = .ok (.if_icmp .ge 7, 3) by decide +kernel) (by decide)) <|
  ok_c (sn_iconst (v := 1) (show decode cX7_hasYear 12 = .ok (.iconst 1, 1) by decide +kernel) (by decide +kernel)) <|
  ok_c (sn_goto (show decode cX7_hasYear 13 = .ok (.goto 4, 3) by decide +kernel) (by decide)) <|
  ok_c (sn_iconst (v := 0) (show decode cX7_hasYear 16 = .ok (.iconst 0, 1) by decide +kernel) (by decide +kernel)) <|
  ok_n
theorem reX7_hasYear : ∀ pc ∈ [17], decode cX7_hasYear pc = .ok (.ireturn, 1) := by decide +kernel
def tX7_hasPartner : List (Nat × gStp) := [(0, i_iload 1 1), (1, i_if_lt 16 4), (4, i_iload 1 5), (5, i_aload 0 6), (6, i_getI 7 5 9), (9, i_ic_ge 16 12), (12, i_push (.int 1) 13), (13, i_goto 17), (16, i_push (.int 0) 17)]
set_option maxRecDepth 100000 in
theorem okX7_hasPartner : gOk YX7_hasPartner tX7_hasPartner := ok_c (sn_iload_n (show decode cX7_hasPartner 0 = .ok (.iload_n 1, 1) by decide +kernel) rfl) <|
  ok_c (sn_if_lt (show decode cX7_hasPartner 1 = .ok (.ifCond .lt 15, 3) by decide +kernel) (by decide)) <|
  ok_c (sn_iload_n (show decode cX7_hasPartner 4 = .ok (.iload_n 1, 1) by decide +kernel) rfl) <|
  ok_c (sn_aload_n (show decode cX7_hasPartner 5 = .ok (.aload_n 0, 1) by decide +kernel) rfl) <|
  ok_c (sn_getI (fun _ _ => rfl) (sn_get ck_7 (by decide) (show decode cX7_hasPartner 6 = .ok (.getfield 62, 3) by decide +kernel) wd_1_103)) <|
  ok_c (sn_ic_ge (show decode cX7_hasPartner 9 = .ok (.if_icmp .ge 7, 3) by decide +kernel) (by decide)) <|
  ok_c (sn_iconst (v := 1) (show decode cX7_hasPartner 12 = .ok (.iconst 1, 1) by decide +kernel) (by decide +kernel)) <|
  ok_c (sn_goto (show decode cX7_hasPartner 13 = .ok (.goto 4, 3) by decide +kernel) (by decide)) <|
  ok_c (sn_iconst (v := 0) (show decode cX7_hasPartner 16 = .ok (.iconst 0, 1) by decide +kernel) (by decide +kernel)) <|
  ok_n
theorem reX7_hasPartner : ∀ pc ∈ [17], decode cX7_hasPartner pc = .ok (.ireturn, 1) := by decide +kernel
def tX7_hasPair : List (Nat × gStp) := [(0, i_aload 0 1), (1, i_iload 1 2), (5, i_if_eq 25 8), (8, i_aload 0 9), (9, i_iload 2 10), (13, i_if_eq 25 16), (16, i_iload 1 17), (17, i_iload 2 18), (18, i_ic_eq 25 21), (21, i_push (.int 1) 22), (22, i_goto 26), (25, i_push (.int 0) 26)]
set_option maxRecDepth 100000 in
theorem okX7_hasPair : gOk YX7_hasPair tX7_hasPair := ok_c (sn_aload_n (show decode cX7_hasPair 0 = .ok (.aload_n 0, 1) by decide +kernel) rfl) <|
  ok_c (sn_iload_n (show decode cX7_hasPair 1 = .ok (.iload_n 1, 1) by decide +kernel) rfl) <|
  ok_c (sn_if_eq (show decode cX7_hasPair 5 = .ok (.ifCond .eq 20, 3) by decide +kernel) (by decide)) <|
  ok_c (sn_aload_n (show decode cX7_hasPair 8 = .ok (.aload_n 0, 1) by decide +kernel) rfl) <|
  ok_c (sn_iload_n (show decode cX7_hasPair 9 = .ok (.iload_n 2, 1) by decide +kernel) rfl) <|
  ok_c (sn_if_eq (show decode cX7_hasPair 13 = .ok (.ifCond .eq 12, 3) by decide +kernel) (by decide)) <|
  ok_c (sn_iload_n (show decode cX7_hasPair 16 = .ok (.iload_n 1, 1) by decide +kernel) rfl) <|
  ok_c (sn_iload_n (show decode cX7_hasPair 17 = .ok (.iload_n 2, 1) by decide +kernel) rfl) <|
  ok_c (sn_ic_eq (show decode cX7_hasPair 18 = .ok (.if_icmp .eq 7, 3) by decide +kernel) (by decide)) <|
  ok_c (sn_iconst (v := 1) (show decode cX7_hasPair 21 = .ok (.iconst 1, 1) by decide +kernel) (by decide +kernel)) <|
  ok_c (sn_goto (show decode cX7_hasPair 22 = .ok (.goto 4, 3) by decide +kernel) (by decide)) <|
  ok_c (sn_iconst (v := 0) (show decode cX7_hasPair 25 = .ok (.iconst 0, 1) by decide +kernel) (by decide +kernel)) <|
  ok_n
def uX7_hasPair : gCT := [(2, YX7_hasPartner, 2, some 7), (10, YX7_hasPartner, 2, some 7)]
set_option maxRecDepth 100000 in
theorem ocX7_hasPair : gOkC YX7_hasPair uX7_hasPair := oc_c (gEdge_V cal_X7_hasPartner ck_7 rfl (show decode cX7_hasPair 2 = .ok (.invokevirtual 97, 3) by decide +kernel) wd_3_191 wd_3_75 wd_3_76) <|
  oc_c (gEdge_V cal_X7_hasPartner ck_7 rfl (show decode cX7_hasPair 10 = .ok (.invokevirtual 97, 3) by decide +kernel) wd_3_191 wd_3_75 wd_3_76) <|
  oc_n
theorem reX7_hasPair : ∀ pc ∈ [26], decode cX7_hasPair pc = .ok (.ireturn, 1) := by decide +kernel
def tX7_hasJoin : List (Nat × gStp) := [(0, i_iload 1 1), (1, i_if_lt 16 4), (4, i_iload 1 5), (5, i_aload 0 6), (6, i_getI 7 6 9), (9, i_ic_ge 16 12), (12, i_push (.int 1) 13), (13, i_goto 17), (16, i_push (.int 0) 17)]
set_option maxRecDepth 100000 in
theorem okX7_hasJoin : gOk YX7_hasJoin tX7_hasJoin := ok_c (sn_iload_n (show decode cX7_hasJoin 0 = .ok (.iload_n 1, 1) by decide +kernel) rfl) <|
  ok_c (sn_if_lt (show decode cX7_hasJoin 1 = .ok (.ifCond .lt 15, 3) by decide +kernel) (by decide)) <|
  ok_c (sn_iload_n (show decode cX7_hasJoin 4 = .ok (.iload_n 1, 1) by decide +kernel) rfl) <|
  ok_c (sn_aload_n (show decode cX7_hasJoin 5 = .ok (.aload_n 0, 1) by decide +kernel) rfl) <|
  ok_c (sn_getI (fun _ _ => rfl) (sn_get ck_7 (by decide) (show decode cX7_hasJoin 6 = .ok (.getfield 65, 3) by decide +kernel) wd_1_109)) <|
  ok_c (sn_ic_ge (show decode cX7_hasJoin 9 = .ok (.if_icmp .ge 7, 3) by decide +kernel) (by decide)) <|
  ok_c (sn_iconst (v := 1) (show decode cX7_hasJoin 12 = .ok (.iconst 1, 1) by decide +kernel) (by decide +kernel)) <|
  ok_c (sn_goto (show decode cX7_hasJoin 13 = .ok (.goto 4, 3) by decide +kernel) (by decide)) <|
  ok_c (sn_iconst (v := 0) (show decode cX7_hasJoin 16 = .ok (.iconst 0, 1) by decide +kernel) (by decide +kernel)) <|
  ok_n
theorem reX7_hasJoin : ∀ pc ∈ [17], decode cX7_hasJoin pc = .ok (.ireturn, 1) := by decide +kernel
def tX7_hasDoor : List (Nat × gStp) := [(0, i_iload 1 1), (1, i_if_lt 16 4), (4, i_iload 1 5), (5, i_aload 0 6), (6, i_getI 7 7 9), (9, i_ic_ge 16 12), (12, i_push (.int 1) 13), (13, i_goto 17), (16, i_push (.int 0) 17)]
set_option maxRecDepth 100000 in
theorem okX7_hasDoor : gOk YX7_hasDoor tX7_hasDoor := ok_c (sn_iload_n (show decode cX7_hasDoor 0 = .ok (.iload_n 1, 1) by decide +kernel) rfl) <|
  ok_c (sn_if_lt (show decode cX7_hasDoor 1 = .ok (.ifCond .lt 15, 3) by decide +kernel) (by decide)) <|
  ok_c (sn_iload_n (show decode cX7_hasDoor 4 = .ok (.iload_n 1, 1) by decide +kernel) rfl) <|
  ok_c (sn_aload_n (show decode cX7_hasDoor 5 = .ok (.aload_n 0, 1) by decide +kernel) rfl) <|
  ok_c (sn_getI (fun _ _ => rfl) (sn_get ck_7 (by decide) (show decode cX7_hasDoor 6 = .ok (.getfield 68, 3) by decide +kernel) wd_1_114)) <|
  ok_c (sn_ic_ge (show decode cX7_hasDoor 9 = .ok (.if_icmp .ge 7, 3) by decide +kernel) (by decide)) <|
  ok_c (sn_iconst (v := 1) (show decode cX7_hasDoor 12 = .ok (.iconst 1, 1) by decide +kernel) (by decide +kernel)) <|
  ok_c (sn_goto (show decode cX7_hasDoor 13 = .ok (.goto 4, 3) by decide +kernel) (by decide)) <|
  ok_c (sn_iconst (v := 0) (show decode cX7_hasDoor 16 = .ok (.iconst 0, 1) by decide +kernel) (by decide +kernel)) <|
  ok_n
theorem reX7_hasDoor : ∀ pc ∈ [17], decode cX7_hasDoor pc = .ok (.ireturn, 1) := by decide +kernel
def tX7_toldWorth : List (Nat × gStp) := [(0, i_push (.int 0) 1), (1, i_istore 2 2), (2, i_push (.int 0) 3), (3, i_istore 3 4), (4, i_iload 3 5), (5, i_aload 0 6), (6, i_getI 7 5 9), (9, i_ic_ge 35 12), (12, i_iload 1 13), (13, i_iload 3 14), (17, i_if_eq 29 20), (20, i_iload 2 21), (21, i_aload 0 22), (22, i_getO 7 2 25), (25, i_iload 3 26), (26, i_iald 27), (27, i_ii (fun x y => x + y) 28), (28, i_istore 2 29), (29, i_iinc 3 1 32), (32, i_goto 4), (35, i_iload 2 36)]
set_option maxRecDepth 100000 in
theorem okX7_toldWorth : gOk YX7_toldWorth tX7_toldWorth := ok_c (sn_iconst (v := 0) (show decode cX7_toldWorth 0 = .ok (.iconst 0, 1) by decide +kernel) (by decide +kernel)) <|
  ok_c (sn_istore_n (show decode cX7_toldWorth 1 = .ok (.istore_n 2, 1) by decide +kernel) rfl (by decide)) <|
  ok_c (sn_iconst (v := 0) (show decode cX7_toldWorth 2 = .ok (.iconst 0, 1) by decide +kernel) (by decide +kernel)) <|
  ok_c (sn_istore_n (show decode cX7_toldWorth 3 = .ok (.istore_n 3, 1) by decide +kernel) rfl (by decide)) <|
  ok_c (sn_iload_n (show decode cX7_toldWorth 4 = .ok (.iload_n 3, 1) by decide +kernel) rfl) <|
  ok_c (sn_aload_n (show decode cX7_toldWorth 5 = .ok (.aload_n 0, 1) by decide +kernel) rfl) <|
  ok_c (sn_getI (fun _ _ => rfl) (sn_get ck_7 (by decide) (show decode cX7_toldWorth 6 = .ok (.getfield 62, 3) by decide +kernel) wd_1_103)) <|
  ok_c (sn_ic_ge (show decode cX7_toldWorth 9 = .ok (.if_icmp .ge 26, 3) by decide +kernel) (by decide)) <|
  ok_c (sn_iload_n (show decode cX7_toldWorth 12 = .ok (.iload_n 1, 1) by decide +kernel) rfl) <|
  ok_c (sn_iload_n (show decode cX7_toldWorth 13 = .ok (.iload_n 3, 1) by decide +kernel) rfl) <|
  ok_c (sn_if_eq (show decode cX7_toldWorth 17 = .ok (.ifCond .eq 12, 3) by decide +kernel) (by decide)) <|
  ok_c (sn_iload_n (show decode cX7_toldWorth 20 = .ok (.iload_n 2, 1) by decide +kernel) rfl) <|
  ok_c (sn_aload_n (show decode cX7_toldWorth 21 = .ok (.aload_n 0, 1) by decide +kernel) rfl) <|
  ok_c (sn_getO (j := 10) (fun _ _ => rfl) (sn_get ck_7 (by decide) (show decode cX7_toldWorth 22 = .ok (.getfield 15, 3) by decide +kernel) wd_1_126)) <|
  ok_c (sn_iload_n (show decode cX7_toldWorth 25 = .ok (.iload_n 3, 1) by decide +kernel) rfl) <|
  ok_c (sn_iald (show decode cX7_toldWorth 26 = .ok (.iaload, 1) by decide +kernel)) <|
  ok_c (sn_iadd (show decode cX7_toldWorth 27 = .ok (.iadd, 1) by decide +kernel)) <|
  ok_c (sn_istore_n (show decode cX7_toldWorth 28 = .ok (.istore_n 2, 1) by decide +kernel) rfl (by decide)) <|
  ok_c (sn_iinc (show decode cX7_toldWorth 29 = .ok (.iinc 3 1, 3) by decide +kernel) (by decide) (by decide +kernel)) <|
  ok_c (sn_goto (show decode cX7_toldWorth 32 = .ok (.goto (-28), 3) by decide +kernel) (by decide)) <|
  ok_c (sn_iload_n (show decode cX7_toldWorth 35 = .ok (.iload_n 2, 1) by decide +kernel) rfl) <|
  ok_n
def uX7_toldWorth : gCT := [(14, YX8_has, 2, none)]
set_option maxRecDepth 100000 in
theorem ocX7_toldWorth : gOkC YX7_toldWorth uX7_toldWorth := oc_c (gEdge_SN cal_X8_has (show decode cX7_toldWorth 14 = .ok (.invokestatic 101, 3) by decide +kernel) wd_3_224 wd_3_119) <|
  oc_n
theorem reX7_toldWorth : ∀ pc ∈ [36], decode cX7_toldWorth pc = .ok (.ireturn, 1) := by decide +kernel
def tX7_waxOf : List (Nat × gStp) := [(0, i_push (.int 0) 1), (1, i_istore 2 2), (2, i_push (.int 0) 3), (3, i_istore 3 4), (4, i_iload 3 5), (5, i_aload 0 6), (6, i_getI 7 6 9), (9, i_ic_ge 35 12), (12, i_iload 1 13), (13, i_iload 3 14), (17, i_if_eq 29 20), (20, i_iload 2 21), (21, i_aload 0 22), (22, i_getO 7 6 25), (25, i_iload 3 26), (26, i_iald 27), (27, i_ii (fun x y => x + y) 28), (28, i_istore 2 29), (29, i_iinc 3 1 32), (32, i_goto 4), (35, i_iload 2 36)]
set_option maxRecDepth 100000 in
theorem okX7_waxOf : gOk YX7_waxOf tX7_waxOf := ok_c (sn_iconst (v := 0) (show decode cX7_waxOf 0 = .ok (.iconst 0, 1) by decide +kernel) (by decide +kernel)) <|
  ok_c (sn_istore_n (show decode cX7_waxOf 1 = .ok (.istore_n 2, 1) by decide +kernel) rfl (by decide)) <|
  ok_c (sn_iconst (v := 0) (show decode cX7_waxOf 2 = .ok (.iconst 0, 1) by decide +kernel) (by decide +kernel)) <|
  ok_c (sn_istore_n (show decode cX7_waxOf 3 = .ok (.istore_n 3, 1) by decide +kernel) rfl (by decide)) <|
  ok_c (sn_iload_n (show decode cX7_waxOf 4 = .ok (.iload_n 3, 1) by decide +kernel) rfl) <|
  ok_c (sn_aload_n (show decode cX7_waxOf 5 = .ok (.aload_n 0, 1) by decide +kernel) rfl) <|
  ok_c (sn_getI (fun _ _ => rfl) (sn_get ck_7 (by decide) (show decode cX7_waxOf 6 = .ok (.getfield 65, 3) by decide +kernel) wd_1_109)) <|
  ok_c (sn_ic_ge (show decode cX7_waxOf 9 = .ok (.if_icmp .ge 26, 3) by decide +kernel) (by decide)) <|
  ok_c (sn_iload_n (show decode cX7_waxOf 12 = .ok (.iload_n 1, 1) by decide +kernel) rfl) <|
  ok_c (sn_iload_n (show decode cX7_waxOf 13 = .ok (.iload_n 3, 1) by decide +kernel) rfl) <|
  ok_c (sn_if_eq (show decode cX7_waxOf 17 = .ok (.ifCond .eq 12, 3) by decide +kernel) (by decide)) <|
  ok_c (sn_iload_n (show decode cX7_waxOf 20 = .ok (.iload_n 2, 1) by decide +kernel) rfl) <|
  ok_c (sn_aload_n (show decode cX7_waxOf 21 = .ok (.aload_n 0, 1) by decide +kernel) rfl) <|
  ok_c (sn_getO (j := 14) (fun _ _ => rfl) (sn_get ck_7 (by decide) (show decode cX7_waxOf 22 = .ok (.getfield 27, 3) by decide +kernel) wd_1_142)) <|
  ok_c (sn_iload_n (show decode cX7_waxOf 25 = .ok (.iload_n 3, 1) by decide +kernel) rfl) <|
  ok_c (sn_iald (show decode cX7_waxOf 26 = .ok (.iaload, 1) by decide +kernel)) <|
  ok_c (sn_iadd (show decode cX7_waxOf 27 = .ok (.iadd, 1) by decide +kernel)) <|
  ok_c (sn_istore_n (show decode cX7_waxOf 28 = .ok (.istore_n 2, 1) by decide +kernel) rfl (by decide)) <|
  ok_c (sn_iinc (show decode cX7_waxOf 29 = .ok (.iinc 3 1, 3) by decide +kernel) (by decide) (by decide +kernel)) <|
  ok_c (sn_goto (show decode cX7_waxOf 32 = .ok (.goto (-28), 3) by decide +kernel) (by decide)) <|
  ok_c (sn_iload_n (show decode cX7_waxOf 35 = .ok (.iload_n 2, 1) by decide +kernel) rfl) <|
  ok_n
def uX7_waxOf : gCT := [(14, YX8_has, 2, none)]
set_option maxRecDepth 100000 in
theorem ocX7_waxOf : gOkC YX7_waxOf uX7_waxOf := oc_c (gEdge_SN cal_X8_has (show decode cX7_waxOf 14 = .ok (.invokestatic 101, 3) by decide +kernel) wd_3_224 wd_3_119) <|
  oc_n
theorem reX7_waxOf : ∀ pc ∈ [36], decode cX7_waxOf pc = .ok (.ireturn, 1) := by decide +kernel
def tX7_widthOf : List (Nat × gStp) := [(0, i_push (.int 0) 1), (1, i_istore 4 3), (3, i_push (.int 0) 4), (4, i_istore 5 6), (6, i_push (.int 0) 7), (7, i_istore 6 9), (9, i_iload 6 11), (11, i_aload 0 12), (12, i_getI 7 5 15), (15, i_ic_ge 59 18), (18, i_iload 1 19), (19, i_iload 6 21), (24, i_if_eq 53 27), (27, i_iload 4 29), (29, i_aload 0 30), (30, i_getO 7 1 33), (33, i_iload 6 35), (35, i_iald 36), (36, i_ii (fun x y => x + y) 37), (37, i_istore 4 39), (39, i_iload 5 41), (41, i_aload 0 42), (42, i_getO 7 1 45), (45, i_iload 6 47), (47, i_iald 48), (48, i_max 51), (51, i_istore 5 53), (53, i_iinc 6 1 56), (56, i_goto 9), (59, i_iload 2 60), (60, i_sw [(0, 88), (1, 91), (2, 94)] 101), (88, i_iload 4 90), (91, i_iload 5 93), (94, i_push (.int 2) 95), (95, i_iload 1 96), (99, i_ii (fun x y => x * y) 100), (101, i_push (.int 1) 102), (102, i_iload 4 104), (104, i_iload 3 105), (105, i_ii (fun x y => x - y) 106), (106, i_max 109)]
set_option maxRecDepth 100000 in
theorem okX7_widthOf : gOk YX7_widthOf tX7_widthOf := ok_c (sn_iconst (v := 0) (show decode cX7_widthOf 0 = .ok (.iconst 0, 1) by decide +kernel) (by decide +kernel)) <|
  ok_c (sn_istore (show decode cX7_widthOf 1 = .ok (.istore 4, 2) by decide +kernel) (by decide)) <|
  ok_c (sn_iconst (v := 0) (show decode cX7_widthOf 3 = .ok (.iconst 0, 1) by decide +kernel) (by decide +kernel)) <|
  ok_c (sn_istore (show decode cX7_widthOf 4 = .ok (.istore 5, 2) by decide +kernel) (by decide)) <|
  ok_c (sn_iconst (v := 0) (show decode cX7_widthOf 6 = .ok (.iconst 0, 1) by decide +kernel) (by decide +kernel)) <|
  ok_c (sn_istore (show decode cX7_widthOf 7 = .ok (.istore 6, 2) by decide +kernel) (by decide)) <|
  ok_c (sn_iload (show decode cX7_widthOf 9 = .ok (.iload 6, 2) by decide +kernel)) <|
  ok_c (sn_aload_n (show decode cX7_widthOf 11 = .ok (.aload_n 0, 1) by decide +kernel) rfl) <|
  ok_c (sn_getI (fun _ _ => rfl) (sn_get ck_7 (by decide) (show decode cX7_widthOf 12 = .ok (.getfield 62, 3) by decide +kernel) wd_1_103)) <|
  ok_c (sn_ic_ge (show decode cX7_widthOf 15 = .ok (.if_icmp .ge 44, 3) by decide +kernel) (by decide)) <|
  ok_c (sn_iload_n (show decode cX7_widthOf 18 = .ok (.iload_n 1, 1) by decide +kernel) rfl) <|
  ok_c (sn_iload (show decode cX7_widthOf 19 = .ok (.iload 6, 2) by decide +kernel)) <|
  ok_c (sn_if_eq (show decode cX7_widthOf 24 = .ok (.ifCond .eq 29, 3) by decide +kernel) (by decide)) <|
  ok_c (sn_iload (show decode cX7_widthOf 27 = .ok (.iload 4, 2) by decide +kernel)) <|
  ok_c (sn_aload_n (show decode cX7_widthOf 29 = .ok (.aload_n 0, 1) by decide +kernel) rfl) <|
  ok_c (sn_getO (j := 9) (fun _ _ => rfl) (sn_get ck_7 (by decide) (show decode cX7_widthOf 30 = .ok (.getfield 9, 3) by decide +kernel) wd_1_123)) <|
  ok_c (sn_iload (show decode cX7_widthOf 33 = .ok (.iload 6, 2) by decide +kernel)) <|
  ok_c (sn_iald (show decode cX7_widthOf 35 = .ok (.iaload, 1) by decide +kernel)) <|
  ok_c (sn_iadd (show decode cX7_widthOf 36 = .ok (.iadd, 1) by decide +kernel)) <|
  ok_c (sn_istore (show decode cX7_widthOf 37 = .ok (.istore 4, 2) by decide +kernel) (by decide)) <|
  ok_c (sn_iload (show decode cX7_widthOf 39 = .ok (.iload 5, 2) by decide +kernel)) <|
  ok_c (sn_aload_n (show decode cX7_widthOf 41 = .ok (.aload_n 0, 1) by decide +kernel) rfl) <|
  ok_c (sn_getO (j := 9) (fun _ _ => rfl) (sn_get ck_7 (by decide) (show decode cX7_widthOf 42 = .ok (.getfield 9, 3) by decide +kernel) wd_1_123)) <|
  ok_c (sn_iload (show decode cX7_widthOf 45 = .ok (.iload 6, 2) by decide +kernel)) <|
  ok_c (sn_iald (show decode cX7_widthOf 47 = .ok (.iaload, 1) by decide +kernel)) <|
  ok_c (sn_max (show decode cX7_widthOf 48 = .ok (.invokestatic 105, 3) by decide +kernel) wd_3_225 wd_3_226 wd_1_11 wd_3_227) <|
  ok_c (sn_istore (show decode cX7_widthOf 51 = .ok (.istore 5, 2) by decide +kernel) (by decide)) <|
  ok_c (sn_iinc (show decode cX7_widthOf 53 = .ok (.iinc 6 1, 3) by decide +kernel) (by decide) (by decide +kernel)) <|
  ok_c (sn_goto (show decode cX7_widthOf 56 = .ok (.goto (-47), 3) by decide +kernel) (by decide)) <|
  ok_c (sn_iload_n (show decode cX7_widthOf 59 = .ok (.iload_n 2, 1) by decide +kernel) rfl) <|
  ok_c (sn_tsw (show decode cX7_widthOf 60 = .ok (.tableswitch 41 0 2 #[28, 31, 34], 28) by decide +kernel) (by decide +kernel) (by decide)) <|
  ok_c (sn_iload (show decode cX7_widthOf 88 = .ok (.iload 4, 2) by decide +kernel)) <|
  ok_c (sn_iload (show decode cX7_widthOf 91 = .ok (.iload 5, 2) by decide +kernel)) <|
  ok_c (sn_iconst (v := 2) (show decode cX7_widthOf 94 = .ok (.iconst 2, 1) by decide +kernel) (by decide +kernel)) <|
  ok_c (sn_iload_n (show decode cX7_widthOf 95 = .ok (.iload_n 1, 1) by decide +kernel) rfl) <|
  ok_c (sn_imul (show decode cX7_widthOf 99 = .ok (.imul, 1) by decide +kernel)) <|
  ok_c (sn_iconst (v := 1) (show decode cX7_widthOf 101 = .ok (.iconst 1, 1) by decide +kernel) (by decide +kernel)) <|
  ok_c (sn_iload (show decode cX7_widthOf 102 = .ok (.iload 4, 2) by decide +kernel)) <|
  ok_c (sn_iload_n (show decode cX7_widthOf 104 = .ok (.iload_n 3, 1) by decide +kernel) rfl) <|
  ok_c (sn_isub (show decode cX7_widthOf 105 = .ok (.isub, 1) by decide +kernel)) <|
  ok_c (sn_max (show decode cX7_widthOf 106 = .ok (.invokestatic 105, 3) by decide +kernel) wd_3_225 wd_3_226 wd_1_11 wd_3_227) <|
  ok_n
def uX7_widthOf : gCT := [(21, YX8_has, 2, none), (96, YJ6_bitCount_0f7a4, 1, none)]
set_option maxRecDepth 100000 in
theorem ocX7_widthOf : gOkC YX7_widthOf uX7_widthOf := oc_c (gEdge_SN cal_X8_has (show decode cX7_widthOf 21 = .ok (.invokestatic 101, 3) by decide +kernel) wd_3_224 wd_3_119) <|
  oc_c (gEdge_S cal_J6_bitCount_0f7a4 (show decode cX7_widthOf 96 = .ok (.invokestatic 108, 3) by decide +kernel) wd_3_228 wd_3_229) <|
  oc_n
theorem reX7_widthOf : ∀ pc ∈ [90, 93, 100, 109], decode cX7_widthOf pc = .ok (.ireturn, 1) := by decide +kernel
def tX8_has : List (Nat × gStp) := [(0, i_iload 0 1), (1, i_iload 1 2), (2, i_ii (fun x y => x >>> (y &&& 31)) 3), (3, i_push (.int 1) 4), (4, i_ii (fun x y => x &&& y) 5), (5, i_if_eq 12 8), (8, i_push (.int 1) 9), (9, i_goto 13), (12, i_push (.int 0) 13)]
set_option maxRecDepth 100000 in
theorem okX8_has : gOk YX8_has tX8_has := ok_c (sn_iload_n (show decode cX8_has 0 = .ok (.iload_n 0, 1) by decide +kernel) rfl) <|
  ok_c (sn_iload_n (show decode cX8_has 1 = .ok (.iload_n 1, 1) by decide +kernel) rfl) <|
  ok_c (sn_ishr (show decode cX8_has 2 = .ok (.ishr, 1) by decide +kernel)) <|
  ok_c (sn_iconst (v := 1) (show decode cX8_has 3 = .ok (.iconst 1, 1) by decide +kernel) (by decide +kernel)) <|
  ok_c (sn_iand (show decode cX8_has 4 = .ok (.iand, 1) by decide +kernel)) <|
  ok_c (sn_if_eq (show decode cX8_has 5 = .ok (.ifCond .eq 7, 3) by decide +kernel) (by decide)) <|
  ok_c (sn_iconst (v := 1) (show decode cX8_has 8 = .ok (.iconst 1, 1) by decide +kernel) (by decide +kernel)) <|
  ok_c (sn_goto (show decode cX8_has 9 = .ok (.goto 4, 3) by decide +kernel) (by decide)) <|
  ok_c (sn_iconst (v := 0) (show decode cX8_has 12 = .ok (.iconst 0, 1) by decide +kernel) (by decide +kernel)) <|
  ok_n
theorem reX8_has : ∀ pc ∈ [13], decode cX8_has pc = .ok (.ireturn, 1) := by decide +kernel
def tX8_allOf : List (Nat × gStp) := [(0, i_push (.int 1) 1), (1, i_iload 0 2), (2, i_ii (fun x y => x <<< (y &&& 31)) 3), (3, i_push (.int 1) 4), (4, i_ii (fun x y => x - y) 5)]
set_option maxRecDepth 100000 in
theorem okX8_allOf : gOk YX8_allOf tX8_allOf := ok_c (sn_iconst (v := 1) (show decode cX8_allOf 0 = .ok (.iconst 1, 1) by decide +kernel) (by decide +kernel)) <|
  ok_c (sn_iload_n (show decode cX8_allOf 1 = .ok (.iload_n 0, 1) by decide +kernel) rfl) <|
  ok_c (sn_ishl (show decode cX8_allOf 2 = .ok (.ishl, 1) by decide +kernel)) <|
  ok_c (sn_iconst (v := 1) (show decode cX8_allOf 3 = .ok (.iconst 1, 1) by decide +kernel) (by decide +kernel)) <|
  ok_c (sn_isub (show decode cX8_allOf 4 = .ok (.isub, 1) by decide +kernel)) <|
  ok_n
theorem reX8_allOf : ∀ pc ∈ [5], decode cX8_allOf pc = .ok (.ireturn, 1) := by decide +kernel
