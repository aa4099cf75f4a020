/-! steps and calls -/
def tX9_laysSnips : List (Nat × gStp) := [(0, i_aload 0 1), (4, i_aload 0 5), (5, i_push (.int 0) 6), (9, i_push (.int 0) 10), (10, i_istore 3 11), (11, i_push (.int 0) 12), (12, i_istore 4 14), (14, i_iload 4 16), (16, i_aload 0 17), (20, i_ic_ge 50 23), (23, i_iload 3 24), (24, i_aload 0 25), (25, i_iload 4 27), (27, i_push (.int 0) 28), (31, i_if_eq 41 34), (34, i_push (.int 1) 35), (35, i_iload 4 37), (37, i_ii (fun x y => x <<< (y &&& 31)) 38), (38, i_goto 42), (41, i_push (.int 0) 42), (42, i_ii (fun x y => x ||| y) 43), (43, i_istore 3 44), (44, i_iinc 4 1 47), (47, i_goto 14), (50, i_aload 0 51), (51, i_push (.int (-1)) 52), (52, i_putI 9 41 55), (55, i_aload 0 56), (56, i_push (.int 100000) 58), (58, i_putI 9 42 61), (61, i_push (.int 0) 62), (62, i_istore 4 64), (64, i_iload 4 66), (66, i_push (.int 1) 67), (67, i_aload 0 68), (71, i_ii (fun x y => x <<< (y &&& 31)) 72), (72, i_ic_ge 222 75), (75, i_iload 4 77), (77, i_iload 3 78), (78, i_push (.int (-1)) 79), (79, i_ii (fun x y => x ^^^ y) 80), (80, i_ii (fun x y => x &&& y) 81), (81, i_if_eq 87 84), (84, i_goto 216), (87, i_aload 0 88), (88, i_iload 4 90), (90, i_putI 9 25 93), (93, i_aload 0 94), (94, i_push (.int 0) 95), (98, i_aload 0 99), (99, i_iload 1 100), (100, i_push (.int 0) 101), (104, i_iload 2 105), (108, i_if_eq 114 111), (111, i_goto 216), (114, i_aload 0 115), (115, i_getI 9 41 118), (118, i_push (.int (-1)) 119), (119, i_ic_eq 137 122), (122, i_iload 4 124), (127, i_aload 0 128), (128, i_getI 9 41 131), (134, i_ic_ge 143 137), (137, i_aload 0 138), (138, i_iload 4 140), (140, i_putI 9 41 143), (143, i_push (.int 0) 144), (144, i_istore 5 146), (146, i_push (.int 0) 147), (147, i_istore 6 149), (149, i_iload 6 151), (151, i_aload 0 152), (155, i_ic_ge 194 158), (158, i_iload 5 160), (160, i_iload 4 162), (162, i_iload 6 164), (167, i_if_eq 184 170), (170, i_aload 0 171), (171, i_getC 9 150 174), (174, i_push (.int 3) 175), (175, i_iload 6 177), (177, i_ii (fun x y => x * y) 178), (178, i_push (.int 2) 179), (179, i_ii (fun x y => x + y) 180), (180, i_iald 181), (181, i_goto 185), (184, i_push (.int 0) 185), (185, i_ii (fun x y => x + y) 186), (186, i_istore 5 188), (188, i_iinc 6 1 191), (191, i_goto 149), (194, i_aload 0 195), (195, i_iload 5 197), (197, i_aload 0 198), (198, i_getI 9 42 201), (201, i_ic_ge 209 204), (204, i_iload 5 206), (206, i_goto 213), (209, i_aload 0 210), (210, i_getI 9 42 213), (213, i_putI 9 42 216), (216, i_iinc 4 1 219), (219, i_goto 64)]
set_option maxRecDepth 100000 in
theorem okX9_laysSnips : gOk YX9_laysSnips tX9_laysSnips := ok_c (sn_aload_n (show decode cX9_laysSnips 0 = .ok (.aload_n 0, 1) by decide +kernel) rfl) <|
  ok_c (sn_aload_n (show decode cX9_laysSnips 4 = .ok (.aload_n 0, 1) by decide +kernel) rfl) <|
  ok_c (sn_iconst (v := 0) (show decode cX9_laysSnips 5 = .ok (.iconst 0, 1) by decide +kernel) (by decide +kernel)) <|
  ok_c (sn_iconst (v := 0) (show decode cX9_laysSnips 9 = .ok (.iconst 0, 1) by decide +kernel) (by decide +kernel)) <|
  ok_c (sn_istore_n (show decode cX9_laysSnips 10 = .ok (.istore_n 3, 1) by decide +kernel) rfl (by decide)) <|
  ok_c (sn_iconst (v := 0) (show decode cX9_laysSnips 11 = .ok (.iconst 0, 1) by decide +kernel) (by decide +kernel)) <|
  ok_c (sn_istore (show decode cX9_laysSnips 12 = .ok (.istore 4, 2) by decide +kernel) (by decide)) <|
  ok_c (sn_iload (show decode cX9_laysSnips 14 = .ok (.iload 4, 2) by decide +kernel)) <|
  ok_c (sn_aload_n (show decode cX9_laysSnips 16 = .ok (.aload_n 0, 1) by decide +kernel) rfl) <|
  ok_c (sn_ic_ge (show decode cX9_laysSnips 20 = .ok (.if_icmp .ge 30, 3) by decide +kernel) (by decide)) <|
  ok_c (sn_iload_n (show decode cX9_laysSnips 23 = .ok (.iload_n 3, 1) by decide +kernel) rfl) <|
  ok_c (sn_aload_n (show decode cX9_laysSnips 24 = .ok (.aload_n 0, 1) by decide +kernel) rfl) <|
  ok_c (sn_iload (show decode cX9_laysSnips 25 = .ok (.iload 4, 2) by decide +kernel)) <|
  ok_c (sn_iconst (v := 0) (show decode cX9_laysSnips 27 = .ok (.iconst 0, 1) by decide +kernel) (by decide +kernel)) <|
  ok_c (sn_if_eq (show decode cX9_laysSnips 31 = .ok (.ifCond .eq 10, 3) by decide +kernel) (by decide)) <|
  ok_c (sn_iconst (v := 1) (show decode cX9_laysSnips 34 = .ok (.iconst 1, 1) by decide +kernel) (by decide +kernel)) <|
  ok_c (sn_iload (show decode cX9_laysSnips 35 = .ok (.iload 4, 2) by decide +kernel)) <|
  ok_c (sn_ishl (show decode cX9_laysSnips 37 = .ok (.ishl, 1) by decide +kernel)) <|
  ok_c (sn_goto (show decode cX9_laysSnips 38 = .ok (.goto 4, 3) by decide +kernel) (by decide)) <|
  ok_c (sn_iconst (v := 0) (show decode cX9_laysSnips 41 = .ok (.iconst 0, 1) by decide +kernel) (by decide +kernel)) <|
  ok_c (sn_ior (show decode cX9_laysSnips 42 = .ok (.ior, 1) by decide +kernel)) <|
  ok_c (sn_istore_n (show decode cX9_laysSnips 43 = .ok (.istore_n 3, 1) by decide +kernel) rfl (by decide)) <|
  ok_c (sn_iinc (show decode cX9_laysSnips 44 = .ok (.iinc 4 1, 3) by decide +kernel) (by decide) (by decide +kernel)) <|
  ok_c (sn_goto (show decode cX9_laysSnips 47 = .ok (.goto (-33), 3) by decide +kernel) (by decide)) <|
  ok_c (sn_aload_n (show decode cX9_laysSnips 50 = .ok (.aload_n 0, 1) by decide +kernel) rfl) <|
  ok_c (sn_iconst (v := (-1)) (show decode cX9_laysSnips 51 = .ok (.iconst (-1), 1) by decide +kernel) (by decide +kernel)) <|
  ok_c (sn_putI ck_9 (by decide) rfl rfl (show decode cX9_laysSnips 52 = .ok (.putfield 433, 3) by decide +kernel) wd_6_18) <|
  ok_c (sn_aload_n (show decode cX9_laysSnips 55 = .ok (.aload_n 0, 1) by decide +kernel) rfl) <|
  ok_c (sn_ldc (show decode cX9_laysSnips 56 = .ok (.ldc 127, 2) by decide +kernel) wd_6_191) <|
  ok_c (sn_putI ck_9 (by decide) rfl rfl (show decode cX9_laysSnips 58 = .ok (.putfield 436, 3) by decide +kernel) wd_6_19) <|
  ok_c (sn_iconst (v := 0) (show decode cX9_laysSnips 61 = .ok (.iconst 0, 1) by decide +kernel) (by decide +kernel)) <|
  ok_c (sn_istore (show decode cX9_laysSnips 62 = .ok (.istore 4, 2) by decide +kernel) (by decide)) <|
  ok_c (sn_iload (show decode cX9_laysSnips 64 = .ok (.iload 4, 2) by decide +kernel)) <|
  ok_c (sn_iconst (v := 1) (show decode cX9_laysSnips 66 = .ok (.iconst 1, 1) by decide +kernel) (by decide +kernel)) <|
  ok_c (sn_aload_n (show decode cX9_laysSnips 67 = .ok (.aload_n 0, 1) by decide +kernel) rfl) <|
  ok_c (sn_ishl (show decode cX9_laysSnips 71 = .ok (.ishl, 1) by decide +kernel)) <|
  ok_c (sn_ic_ge (show decode cX9_laysSnips 72 = .ok (.if_icmp .ge 150, 3) by decide +kernel) (by decide)) <|
  ok_c (sn_iload (show decode cX9_laysSnips 75 = .ok (.iload 4, 2) by decide +kernel)) <|
  ok_c (sn_iload_n (show decode cX9_laysSnips 77 = .ok (.iload_n 3, 1) by decide +kernel) rfl) <|
  ok_c (sn_iconst (v := (-1)) (show decode cX9_laysSnips 78 = .ok (.iconst (-1), 1) by decide +kernel) (by decide +kernel)) <|
  ok_c (sn_ixor (show decode cX9_laysSnips 79 = .ok (.ixor, 1) by decide +kernel)) <|
  ok_c (sn_iand (show decode cX9_laysSnips 80 = .ok (.iand, 1) by decide +kernel)) <|
  ok_c (sn_if_eq (show decode cX9_laysSnips 81 = .ok (.ifCond .eq 6, 3) by decide +kernel) (by decide)) <|
  ok_c (sn_goto (show decode cX9_laysSnips 84 = .ok (.goto 132, 3) by decide +kernel) (by decide)) <|
  ok_c (sn_aload_n (show decode cX9_laysSnips 87 = .ok (.aload_n 0, 1) by decide +kernel) rfl) <|
  ok_c (sn_iload (show decode cX9_laysSnips 88 = .ok (.iload 4, 2) by decide +kernel)) <|
  ok_c (sn_putI ck_9 (by decide) rfl rfl (show decode cX9_laysSnips 90 = .ok (.putfield 262, 3) by decide +kernel) wd_6_2) <|
  ok_c (sn_aload_n (show decode cX9_laysSnips 93 = .ok (.aload_n 0, 1) by decide +kernel) rfl) <|
  ok_c (sn_iconst (v := 0) (show decode cX9_laysSnips 94 = .ok (.iconst 0, 1) by decide +kernel) (by decide +kernel)) <|
  ok_c (sn_aload_n (show decode cX9_laysSnips 98 = .ok (.aload_n 0, 1) by decide +kernel) rfl) <|
  ok_c (sn_iload_n (show decode cX9_laysSnips 99 = .ok (.iload_n 1, 1) by decide +kernel) rfl) <|
  ok_c (sn_iconst (v := 0) (show decode cX9_laysSnips 100 = .ok (.iconst 0, 1) by decide +kernel) (by decide +kernel)) <|
  ok_c (sn_iload_n (show decode cX9_laysSnips 104 = .ok (.iload_n 2, 1) by decide +kernel) rfl) <|
  ok_c (sn_if_eq (show decode cX9_laysSnips 108 = .ok (.ifCond .eq 6, 3) by decide +kernel) (by decide)) <|
  ok_c (sn_goto (show decode cX9_laysSnips 111 = .ok (.goto 105, 3) by decide +kernel) (by decide)) <|
  ok_c (sn_aload_n (show decode cX9_laysSnips 114 = .ok (.aload_n 0, 1) by decide +kernel) rfl) <|
  ok_c (sn_getI (fun _ _ => rfl) (sn_get ck_9 (by decide) (show decode cX9_laysSnips 115 = .ok (.getfield 433, 3) by decide +kernel) wd_6_18)) <|
  ok_c (sn_iconst (v := (-1)) (show decode cX9_laysSnips 118 = .ok (.iconst (-1), 1) by decide +kernel) (by decide +kernel)) <|
  ok_c (sn_ic_eq (show decode cX9_laysSnips 119 = .ok (.if_icmp .eq 18, 3) by decide +kernel) (by decide)) <|
  ok_c (sn_iload (show decode cX9_laysSnips 122 = .ok (.iload 4, 2) by decide +kernel)) <|
  ok_c (sn_aload_n (show decode cX9_laysSnips 127 = .ok (.aload_n 0, 1) by decide +kernel) rfl) <|
  ok_c (sn_getI (fun _ _ => rfl) (sn_get ck_9 (by decide) (show decode cX9_laysSnips 128 = .ok (.getfield 433, 3) by decide +kernel) wd_6_18)) <|
  ok_c (sn_ic_ge (show decode cX9_laysSnips 134 = .ok (.if_icmp .ge 9, 3) by decide +kernel) (by decide)) <|
  ok_c (sn_aload_n (show decode cX9_laysSnips 137 = .ok (.aload_n 0, 1) by decide +kernel) rfl) <|
  ok_c (sn_iload (show decode cX9_laysSnips 138 = .ok (.iload 4, 2) by decide +kernel)) <|
  ok_c (sn_putI ck_9 (by decide) rfl rfl (show decode cX9_laysSnips 140 = .ok (.putfield 433, 3) by decide +kernel) wd_6_18) <|
  ok_c (sn_iconst (v := 0) (show decode cX9_laysSnips 143 = .ok (.iconst 0, 1) by decide +kernel) (by decide +kernel)) <|
  ok_c (sn_istore (show decode cX9_laysSnips 144 = .ok (.istore 5, 2) by decide +kernel) (by decide)) <|
  ok_c (sn_iconst (v := 0) (show decode cX9_laysSnips 146 = .ok (.iconst 0, 1) by decide +kernel) (by decide +kernel)) <|
  ok_c (sn_istore (show decode cX9_laysSnips 147 = .ok (.istore 6, 2) by decide +kernel) (by decide)) <|
  ok_c (sn_iload (show decode cX9_laysSnips 149 = .ok (.iload 6, 2) by decide +kernel)) <|
  ok_c (sn_aload_n (show decode cX9_laysSnips 151 = .ok (.aload_n 0, 1) by decide +kernel) rfl) <|
  ok_c (sn_ic_ge (show decode cX9_laysSnips 155 = .ok (.if_icmp .ge 39, 3) by decide +kernel) (by decide)) <|
  ok_c (sn_iload (show decode cX9_laysSnips 158 = .ok (.iload 5, 2) by decide +kernel)) <|
  ok_c (sn_iload (show decode cX9_laysSnips 160 = .ok (.iload 4, 2) by decide +kernel)) <|
  ok_c (sn_iload (show decode cX9_laysSnips 162 = .ok (.iload 6, 2) by decide +kernel)) <|
  ok_c (sn_if_eq (show decode cX9_laysSnips 167 = .ok (.ifCond .eq 17, 3) by decide +kernel) (by decide)) <|
  ok_c (sn_aload_n (show decode cX9_laysSnips 170 = .ok (.aload_n 0, 1) by decide +kernel) rfl) <|
  ok_c (sn_getC (j := 19) (fun _ _ => rfl) (sn_get ck_9 (by decide) (show decode cX9_laysSnips 171 = .ok (.getfield 40, 3) by decide +kernel) wd_5_236)) <|
  ok_c (sn_iconst (v := 3) (show decode cX9_laysSnips 174 = .ok (.iconst 3, 1) by decide +kernel) (by decide +kernel)) <|
  ok_c (sn_iload (show decode cX9_laysSnips 175 = .ok (.iload 6, 2) by decide +kernel)) <|
  ok_c (sn_imul (show decode cX9_laysSnips 177 = .ok (.imul, 1) by decide +kernel)) <|
  ok_c (sn_iconst (v := 2) (show decode cX9_laysSnips 178 = .ok (.iconst 2, 1) by decide +kernel) (by decide +kernel)) <|
  ok_c (sn_iadd (show decode cX9_laysSnips 179 = .ok (.iadd, 1) by decide +kernel)) <|
  ok_c (sn_iald (show decode cX9_laysSnips 180 = .ok (.iaload, 1) by decide +kernel)) <|
  ok_c (sn_goto (show decode cX9_laysSnips 181 = .ok (.goto 4, 3) by decide +kernel) (by decide)) <|
  ok_c (sn_iconst (v := 0) (show decode cX9_laysSnips 184 = .ok (.iconst 0, 1) by decide +kernel) (by decide +kernel)) <|
  ok_c (sn_iadd (show decode cX9_laysSnips 185 = .ok (.iadd, 1) by decide +kernel)) <|
  ok_c (sn_istore (show decode cX9_laysSnips 186 = .ok (.istore 5, 2) by decide +kernel) (by decide)) <|
  ok_c (sn_iinc (show decode cX9_laysSnips 188 = .ok (.iinc 6 1, 3) by decide +kernel) (by decide) (by decide +kernel)) <|
  ok_c (sn_goto (show decode cX9_laysSnips 191 = .ok (.goto (-42), 3) by decide +kernel) (by decide)) <|
  ok_c (sn_aload_n (show decode cX9_laysSnips 194 = .ok (.aload_n 0, 1) by decide +kernel) rfl) <|
  ok_c (sn_iload (show decode cX9_laysSnips 195 = .ok (.iload 5, 2) by decide +kernel)) <|
  ok_c (sn_aload_n (show decode cX9_laysSnips 197 = .ok (.aload_n 0, 1) by decide +kernel) rfl) <|
  ok_c (sn_getI (fun _ _ => rfl) (sn_get ck_9 (by decide) (show decode cX9_laysSnips 198 = .ok (.getfield 436, 3) by decide +kernel) wd_6_19)) <|
  ok_c (sn_ic_ge (show decode cX9_laysSnips 201 = .ok (.if_icmp .ge 8, 3) by decide +kernel) (by decide)) <|
  ok_c (sn_iload (show decode cX9_laysSnips 204 = .ok (.iload 5, 2) by decide +kernel)) <|
  ok_c (sn_goto (show decode cX9_laysSnips 206 = .ok (.goto 7, 3) by decide +kernel) (by decide)) <|
  ok_c (sn_aload_n (show decode cX9_laysSnips 209 = .ok (.aload_n 0, 1) by decide +kernel) rfl) <|
  ok_c (sn_getI (fun _ _ => rfl) (sn_get ck_9 (by decide) (show decode cX9_laysSnips 210 = .ok (.getfield 436, 3) by decide +kernel) wd_6_19)) <|
  ok_c (sn_putI ck_9 (by decide) rfl rfl (show decode cX9_laysSnips 213 = .ok (.putfield 436, 3) by decide +kernel) wd_6_19) <|
  ok_c (sn_iinc (show decode cX9_laysSnips 216 = .ok (.iinc 4 1, 3) by decide +kernel) (by decide) (by decide +kernel)) <|
  ok_c (sn_goto (show decode cX9_laysSnips 219 = .ok (.goto (-155), 3) by decide +kernel) (by decide)) <|
  ok_n
def uX9_laysSnips : gCT := [(1, YX9_lays, 1, some 9), (6, YX9_runs, 2, some 9), (17, YX9_joins, 1, some 9), (28, YX9_isToldThen, 3, some 9), (68, YX9_joins, 1, some 9), (95, YX9_runs, 2, some 9), (101, YX9_firmOf, 3, some 9), (105, YX9_isBit, 2, none), (124, YX9_sizeOf, 1, none), (131, YX9_sizeOf, 1, none), (152, YX9_joins, 1, some 9), (164, YX9_isBit, 2, none)]
set_option maxRecDepth 100000 in
theorem ocX9_laysSnips : gOkC YX9_laysSnips uX9_laysSnips := oc_c (gEdge_V cal_X9_lays ck_9 rfl (show decode cX9_laysSnips 1 = .ok (.invokevirtual 329, 3) by decide +kernel) wd_7_91 wd_7_93 wp_5_13) <|
  oc_c (gEdge_V cal_X9_runs ck_9 rfl (show decode cX9_laysSnips 6 = .ok (.invokevirtual 326, 3) by decide +kernel) wd_7_99 wd_7_101 wp_5_15) <|
  oc_c (gEdge_V cal_X9_joins ck_9 rfl (show decode cX9_laysSnips 17 = .ok (.invokevirtual 250, 3) by decide +kernel) wd_7_63 wd_7_65 wp_5_8) <|
  oc_c (gEdge_V cal_X9_isToldThen ck_9 rfl (show decode cX9_laysSnips 28 = .ok (.invokevirtual 357, 3) by decide +kernel) wd_7_150 wd_7_152 wp_6_11) <|
  oc_c (gEdge_V cal_X9_joins ck_9 rfl (show decode cX9_laysSnips 68 = .ok (.invokevirtual 250, 3) by decide +kernel) wd_7_63 wd_7_65 wp_5_8) <|
  oc_c (gEdge_V cal_X9_runs ck_9 rfl (show decode cX9_laysSnips 95 = .ok (.invokevirtual 326, 3) by decide +kernel) wd_7_99 wd_7_101 wp_5_15) <|
  oc_c (gEdge_V cal_X9_firmOf ck_9 rfl (show decode cX9_laysSnips 101 = .ok (.invokevirtual 311, 3) by decide +kernel) wd_7_134 wd_7_136 wp_6_7) <|
  oc_c (gEdge_S cal_X9_isBit (show decode cX9_laysSnips 105 = .ok (.invokestatic 281, 3) by decide +kernel) wd_7_115 wd_7_116) <|
  oc_c (gEdge_S cal_X9_sizeOf (show decode cX9_laysSnips 124 = .ok (.invokestatic 334, 3) by decide +kernel) wd_7_198 wd_7_199) <|
  oc_c (gEdge_S cal_X9_sizeOf (show decode cX9_laysSnips 131 = .ok (.invokestatic 334, 3) by decide +kernel) wd_7_198 wd_7_199) <|
  oc_c (gEdge_V cal_X9_joins ck_9 rfl (show decode cX9_laysSnips 152 = .ok (.invokevirtual 250, 3) by decide +kernel) wd_7_63 wd_7_65 wp_5_8) <|
  oc_c (gEdge_S cal_X9_isBit (show decode cX9_laysSnips 164 = .ok (.invokestatic 281, 3) by decide +kernel) wd_7_115 wd_7_116) <|
  oc_n
theorem reX9_laysSnips : ∀ pc ∈ [222], decode cX9_laysSnips pc = .ok (.return_, 1) := by decide +kernel
def tX9_snips : List (Nat × gStp) := [(0, i_aload 0 1), (1, i_push (.int 0) 2), (2, i_putI 9 0 5), (5, i_aload 0 6), (6, i_iload 1 7), (7, i_iload 2 8), (11, i_if_ne 17 14), (14, i_push (.int (-2)) 16), (17, i_aload 0 18), (18, i_iload 1 19), (19, i_iload 2 20), (23, i_aload 0 24), (24, i_getI 9 41 27), (27, i_push (.int (-1)) 28), (28, i_ic_ne 35 31), (31, i_push (.int (-1)) 32), (32, i_goto 42), (35, i_aload 0 36), (36, i_getI 9 41 39)]
set_option maxRecDepth 100000 in
theorem okX9_snips : gOk YX9_snips tX9_snips := ok_c (sn_aload_n (show decode cX9_snips 0 = .ok (.aload_n 0, 1) by decide +kernel) rfl) <|
  ok_c (sn_iconst (v := 0) (show decode cX9_snips 1 = .ok (.iconst 0, 1) by decide +kernel) (by decide +kernel)) <|
  ok_c (sn_putI ck_9 (by decide) rfl rfl (show decode cX9_snips 2 = .ok (.putfield 77, 3) by decide +kernel) wd_5_217) <|
  ok_c (sn_aload_n (show decode cX9_snips 5 = .ok (.aload_n 0, 1) by decide +kernel) rfl) <|
  ok_c (sn_iload_n (show decode cX9_snips 6 = .ok (.iload_n 1, 1) by decide +kernel) rfl) <|
  ok_c (sn_iload_n (show decode cX9_snips 7 = .ok (.iload_n 2, 1) by decide +kernel) rfl) <|
  ok_c (sn_if_ne (show decode cX9_snips 11 = .ok (.ifCond .ne 6, 3) by decide +kernel) (by decide)) <|
  ok_c (sn_bipush (v := (-2)) (show decode cX9_snips 14 = .ok (.bipush (-2), 2) by decide +kernel) (by decide +kernel)) <|
  ok_c (sn_aload_n (show decode cX9_snips 17 = .ok (.aload_n 0, 1) by decide +kernel) rfl) <|
  ok_c (sn_iload_n (show decode cX9_snips 18 = .ok (.iload_n 1, 1) by decide +kernel) rfl) <|
  ok_c (sn_iload_n (show decode cX9_snips 19 = .ok (.iload_n 2, 1) by decide +kernel) rfl) <|
  ok_c (sn_aload_n (show decode cX9_snips 23 = .ok (.aload_n 0, 1) by decide +kernel) rfl) <|
  ok_c (sn_getI (fun _ _ => rfl) (sn_get ck_9 (by decide) (show decode cX9_snips 24 = .ok (.getfield 433, 3) by decide +kernel) wd_6_18)) <|
  ok_c (sn_iconst (v := (-1)) (show decode cX9_snips 27 = .ok (.iconst (-1), 1) by decide +kernel) (by decide +kernel)) <|
  ok_c (sn_ic_ne (show decode cX9_snips 28 = .ok (.if_icmp .ne 7, 3) by decide +kernel) (by decide)) <|
  ok_c (sn_iconst (v := (-1)) (show decode cX9_snips 31 = .ok (.iconst (-1), 1) by decide +kernel) (by decide +kernel)) <|
  ok_c (sn_goto (show decode cX9_snips 32 = .ok (.goto 10, 3) by decide +kernel) (by decide)) <|
  ok_c (sn_aload_n (show decode cX9_snips 35 = .ok (.aload_n 0, 1) by decide +kernel) rfl) <|
  ok_c (sn_getI (fun _ _ => rfl) (sn_get ck_9 (by decide) (show decode cX9_snips 36 = .ok (.getfield 433, 3) by decide +kernel) wd_6_18)) <|
  ok_n
def uX9_snips : gCT := [(8, YX9_areTwo, 3, some 9), (20, YX9_laysSnips, 3, some 9), (39, YX9_sizeOf, 1, none)]
set_option maxRecDepth 100000 in
theorem ocX9_snips : gOkC YX9_snips uX9_snips := oc_c (gEdge_V cal_X9_areTwo ck_9 rfl (show decode cX9_snips 8 = .ok (.invokevirtual 360, 3) by decide +kernel) wd_7_158 wd_7_160 wp_6_12) <|
  oc_c (gEdge_V cal_X9_laysSnips ck_9 rfl (show decode cX9_snips 20 = .ok (.invokevirtual 439, 3) by decide +kernel) wd_8_118 wd_8_120 wp_8_0) <|
  oc_c (gEdge_S cal_X9_sizeOf (show decode cX9_snips 39 = .ok (.invokestatic 334, 3) by decide +kernel) wd_7_198 wd_7_199) <|
  oc_n
theorem reX9_snips : ∀ pc ∈ [16, 42], decode cX9_snips pc = .ok (.ireturn, 1) := by decide +kernel
def tX9_snipped : List (Nat × gStp) := [(0, i_aload 0 1), (1, i_push (.int 0) 2), (2, i_putI 9 0 5), (5, i_aload 0 6), (6, i_iload 1 7), (7, i_iload 2 8), (11, i_if_ne 17 14), (14, i_push (.int (-2)) 16), (17, i_aload 0 18), (18, i_iload 1 19), (19, i_iload 2 20), (23, i_aload 0 24), (24, i_getI 9 41 27)]
set_option maxRecDepth 100000 in
theorem okX9_snipped : gOk YX9_snipped tX9_snipped := ok_c (sn_aload_n (show decode cX9_snipped 0 = .ok (.aload_n 0, 1) by decide +kernel) rfl) <|
  ok_c (sn_iconst (v := 0) (show decode cX9_snipped 1 = .ok (.iconst 0, 1) by decide +kernel) (by decide +kernel)) <|
  ok_c (sn_putI ck_9 (by decide) rfl rfl (show decode cX9_snipped 2 = .ok (.putfield 77, 3) by decide +kernel) wd_5_217) <|
  ok_c (sn_aload_n (show decode cX9_snipped 5 = .ok (.aload_n 0, 1) by decide +kernel) rfl) <|
  ok_c (sn_iload_n (show decode cX9_snipped 6 = .ok (.iload_n 1, 1) by decide +kernel) rfl) <|
  ok_c (sn_iload_n (show decode cX9_snipped 7 = .ok (.iload_n 2, 1) by decide +kernel) rfl) <|
  ok_c (sn_if_ne (show decode cX9_snipped 11 = .ok (.ifCond .ne 6, 3) by decide +kernel) (by decide)) <|
  ok_c (sn_bipush (v := (-2)) (show decode cX9_snipped 14 = .ok (.bipush (-2), 2) by decide +kernel) (by decide +kernel)) <|
  ok_c (sn_aload_n (show decode cX9_snipped 17 = .ok (.aload_n 0, 1) by decide +kernel) rfl) <|
  ok_c (sn_iload_n (show decode cX9_snipped 18 = .ok (.iload_n 1, 1) by decide +kernel) rfl) <|
  ok_c (sn_iload_n (show decode cX9_snipped 19 = .ok (.iload_n 2, 1) by decide +kernel) rfl) <|
  ok_c (sn_aload_n (show decode cX9_snipped 23 = .ok (.aload_n 0, 1) by decide +kernel) rfl) <|
  ok_c (sn_getI (fun _ _ => rfl) (sn_get ck_9 (by decide) (show decode cX9_snipped 24 = .ok (.getfield 433, 3) by decide +kernel) wd_6_18)) <|
  ok_n
def uX9_snipped : gCT := [(8, YX9_areTwo, 3, some 9), (20, YX9_laysSnips, 3, some 9)]
set_option maxRecDepth 100000 in
theorem ocX9_snipped : gOkC YX9_snipped uX9_snipped := oc_c (gEdge_V cal_X9_areTwo ck_9 rfl (show decode cX9_snipped 8 = .ok (.invokevirtual 360, 3) by decide +kernel) wd_7_158 wd_7_160 wp_6_12) <|
  oc_c (gEdge_V cal_X9_laysSnips ck_9 rfl (show decode cX9_snipped 20 = .ok (.invokevirtual 439, 3) by decide +kernel) wd_8_118 wd_8_120 wp_8_0) <|
  oc_n
theorem reX9_snipped : ∀ pc ∈ [16, 27], decode cX9_snipped pc = .ok (.ireturn, 1) := by decide +kernel
def tX9_wax : List (Nat × gStp) := [(0, i_aload 0 1), (1, i_push (.int 0) 2), (2, i_putI 9 0 5), (5, i_aload 0 6), (6, i_iload 1 7), (7, i_iload 2 8), (11, i_if_ne 17 14), (14, i_push (.int (-2)) 16), (17, i_aload 0 18), (18, i_iload 1 19), (19, i_iload 2 20), (23, i_aload 0 24), (24, i_getI 9 41 27), (27, i_push (.int (-1)) 28), (28, i_ic_ne 35 31), (31, i_push (.int (-1)) 32), (32, i_goto 39), (35, i_aload 0 36), (36, i_getI 9 42 39)]
set_option maxRecDepth 100000 in
theorem okX9_wax : gOk YX9_wax tX9_wax := ok_c (sn_aload_n (show decode cX9_wax 0 = .ok (.aload_n 0, 1) by decide +kernel) rfl) <|
  ok_c (sn_iconst (v := 0) (show decode cX9_wax 1 = .ok (.iconst 0, 1) by decide +kernel) (by decide +kernel)) <|
  ok_c (sn_putI ck_9 (by decide) rfl rfl (show decode cX9_wax 2 = .ok (.putfield 77, 3) by decide +kernel) wd_5_217) <|
  ok_c (sn_aload_n (show decode cX9_wax 5 = .ok (.aload_n 0, 1) by decide +kernel) rfl) <|
  ok_c (sn_iload_n (show decode cX9_wax 6 = .ok (.iload_n 1, 1) by decide +kernel) rfl) <|
  ok_c (sn_iload_n (show decode cX9_wax 7 = .ok (.iload_n 2, 1) by decide +kernel) rfl) <|
  ok_c (sn_if_ne (show decode cX9_wax 11 = .ok (.ifCond .ne 6, 3) by decide +kernel) (by decide)) <|
  ok_c (sn_bipush (v := (-2)) (show decode cX9_wax 14 = .ok (.bipush (-2), 2) by decide +kernel) (by decide +kernel)) <|
  ok_c (sn_aload_n (show decode cX9_wax 17 = .ok (.aload_n 0, 1) by decide +kernel) rfl) <|
  ok_c (sn_iload_n (show decode cX9_wax 18 = .ok (.iload_n 1, 1) by decide +kernel) rfl) <|
  ok_c (sn_iload_n (show decode cX9_wax 19 = .ok (.iload_n 2, 1) by decide +kernel) rfl) <|
  ok_c (sn_aload_n (show decode cX9_wax 23 = .ok (.aload_n 0, 1) by decide +kernel) rfl) <|
  ok_c (sn_getI (fun _ _ => rfl) (sn_get ck_9 (by decide) (show decode cX9_wax 24 = .ok (.getfield 433, 3) by decide +kernel) wd_6_18)) <|
  ok_c (sn_iconst (v := (-1)) (show decode cX9_wax 27 = .ok (.iconst (-1), 1) by decide +kernel) (by decide +kernel)) <|
  ok_c (sn_ic_ne (show decode cX9_wax 28 = .ok (.if_icmp .ne 7, 3) by decide +kernel) (by decide)) <|
  ok_c (sn_iconst (v := (-1)) (show decode cX9_wax 31 = .ok (.iconst (-1), 1) by decide +kernel) (by decide +kernel)) <|
  ok_c (sn_goto (show decode cX9_wax 32 = .ok (.goto 7, 3) by decide +kernel) (by decide)) <|
  ok_c (sn_aload_n (show decode cX9_wax 35 = .ok (.aload_n 0, 1) by decide +kernel) rfl) <|
  ok_c (sn_getI (fun _ _ => rfl) (sn_get ck_9 (by decide) (show decode cX9_wax 36 = .ok (.getfield 436, 3) by decide +kernel) wd_6_19)) <|
  ok_n
def uX9_wax : gCT := [(8, YX9_areTwo, 3, some 9), (20, YX9_laysSnips, 3, some 9)]
set_option maxRecDepth 100000 in
theorem ocX9_wax : gOkC YX9_wax uX9_wax := oc_c (gEdge_V cal_X9_areTwo ck_9 rfl (show decode cX9_wax 8 = .ok (.invokevirtual 360, 3) by decide +kernel) wd_7_158 wd_7_160 wp_6_12) <|
  oc_c (gEdge_V cal_X9_laysSnips ck_9 rfl (show decode cX9_wax 20 = .ok (.invokevirtual 439, 3) by decide +kernel) wd_8_118 wd_8_120 wp_8_0) <|
  oc_n
theorem reX9_wax : ∀ pc ∈ [16, 39], decode cX9_wax pc = .ok (.ireturn, 1) := by decide +kernel
def tX9_guardsOf : List (Nat × gStp) := [(0, i_push (.int (-1)) 1), (1, i_istore 2 2), (2, i_push (.int 0) 3), (3, i_istore 3 4), (4, i_iload 3 5), (5, i_push (.int 1) 6), (6, i_aload 0 7), (10, i_ii (fun x y => x <<< (y &&& 31)) 11), (11, i_ic_ge 72 14), (14, i_iload 3 15), (15, i_iload 1 16), (19, i_if_ne 66 22), (22, i_iload 2 23), (23, i_push (.int (-1)) 24), (24, i_ic_eq 41 27), (27, i_iload 3 28), (31, i_iload 2 32), (35, i_ic_lt 41 38), (38, i_goto 66), (41, i_aload 0 42), (45, i_aload 0 46), (46, i_iload 3 47), (47, i_putI 9 27 50), (50, i_aload 0 51), (54, i_aload 0 55), (55, i_getC 9 157 58), (58, i_iload 1 59), (59, i_iald 60), (60, i_push (.int (-1)) 61), (61, i_ic_ne 66 64), (64, i_iload 3 65), (65, i_istore 2 66), (66, i_iinc 3 1 69), (69, i_goto 4), (72, i_iload 2 73)]
set_option maxRecDepth 100000 in
theorem okX9_guardsOf : gOk YX9_guardsOf tX9_guardsOf := ok_c (sn_iconst (v := (-1)) (show decode cX9_guardsOf 0 = .ok (.iconst (-1), 1) by decide +kernel) (by decide +kernel)) <|
  ok_c (sn_istore_n (show decode cX9_guardsOf 1 = .ok (.istore_n 2, 1) by decide +kernel) rfl (by decide)) <|
  ok_c (sn_iconst (v := 0) (show decode cX9_guardsOf 2 = .ok (.iconst 0, 1) by decide +kernel) (by decide +kernel)) <|
  ok_c (sn_istore_n (show decode cX9_guardsOf 3 = .ok (.istore_n 3, 1) by decide +kernel) rfl (by decide)) <|
  ok_c (sn_iload_n (show decode cX9_guardsOf 4 = .ok (.iload_n 3, 1) by decide +kernel) rfl) <|
  ok_c (sn_iconst (v := 1) (show decode cX9_guardsOf 5 = .ok (.iconst 1, 1) by decide +kernel) (by decide +kernel)) <|
  ok_c (sn_aload_n (show decode cX9_guardsOf 6 = .ok (.aload_n 0, 1) by decide +kernel) rfl) <|
  ok_c (sn_ishl (show decode cX9_guardsOf 10 = .ok (.ishl, 1) by decide +kernel)) <|
  ok_c (sn_ic_ge (show decode cX9_guardsOf 11 = .ok (.if_icmp .ge 61, 3) by decide +kernel) (by decide)) <|
  ok_c (sn_iload_n (show decode cX9_guardsOf 14 = .ok (.iload_n 3, 1) by decide +kernel) rfl) <|
  ok_c (sn_iload_n (show decode cX9_guardsOf 15 = .ok (.iload_n 1, 1) by decide +kernel) rfl) <|
  ok_c (sn_if_ne (show decode cX9_guardsOf 19 = .ok (.ifCond .ne 47, 3) by decide +kernel) (by decide)) <|
  ok_c (sn_iload_n (show decode cX9_guardsOf 22 = .ok (.iload_n 2, 1) by decide +kernel) rfl) <|
  ok_c (sn_iconst (v := (-1)) (show decode cX9_guardsOf 23 = .ok (.iconst (-1), 1) by decide +kernel) (by decide +kernel)) <|
  ok_c (sn_ic_eq (show decode cX9_guardsOf 24 = .ok (.if_icmp .eq 17, 3) by decide +kernel) (by decide)) <|
  ok_c (sn_iload_n (show decode cX9_guardsOf 27 = .ok (.iload_n 3, 1) by decide +kernel) rfl) <|
  ok_c (sn_iload_n (show decode cX9_guardsOf 31 = .ok (.iload_n 2, 1) by decide +kernel) rfl) <|
  ok_c (sn_ic_lt (show decode cX9_guardsOf 35 = .ok (.if_icmp .lt 6, 3) by decide +kernel) (by decide)) <|
  ok_c (sn_goto (show decode cX9_guardsOf 38 = .ok (.goto 28, 3) by decide +kernel) (by decide)) <|
  ok_c (sn_aload_n (show decode cX9_guardsOf 41 = .ok (.aload_n 0, 1) by decide +kernel) rfl) <|
  ok_c (sn_aload_n (show decode cX9_guardsOf 45 = .ok (.aload_n 0, 1) by decide +kernel) rfl) <|
  ok_c (sn_iload_n (show decode cX9_guardsOf 46 = .ok (.iload_n 3, 1) by decide +kernel) rfl) <|
  ok_c (sn_putI ck_9 (by decide) rfl rfl (show decode cX9_guardsOf 47 = .ok (.putfield 268, 3) by decide +kernel) wd_6_4) <|
  ok_c (sn_aload_n (show decode cX9_guardsOf 50 = .ok (.aload_n 0, 1) by decide +kernel) rfl) <|
  ok_c (sn_aload_n (show decode cX9_guardsOf 54 = .ok (.aload_n 0, 1) by decide +kernel) rfl) <|
  ok_c (sn_getC (j := 35) (fun _ _ => rfl) (sn_get ck_9 (by decide) (show decode cX9_guardsOf 55 = .ok (.getfield 62, 3) by decide +kernel) wd_6_12)) <|
  ok_c (sn_iload_n (show decode cX9_guardsOf 58 = .ok (.iload_n 1, 1) by decide +kernel) rfl) <|
  ok_c (sn_iald (show decode cX9_guardsOf 59 = .ok (.iaload, 1) by decide +kernel)) <|
  ok_c (sn_iconst (v := (-1)) (show decode cX9_guardsOf 60 = .ok (.iconst (-1), 1) by decide +kernel) (by decide +kernel)) <|
  ok_c (sn_ic_ne (show decode cX9_guardsOf 61 = .ok (.if_icmp .ne 5, 3) by decide +kernel) (by decide)) <|
  ok_c (sn_iload_n (show decode cX9_guardsOf 64 = .ok (.iload_n 3, 1) by decide +kernel) rfl) <|
  ok_c (sn_istore_n (show decode cX9_guardsOf 65 = .ok (.istore_n 2, 1) by decide +kernel) rfl (by decide)) <|
  ok_c (sn_iinc (show decode cX9_guardsOf 66 = .ok (.iinc 3 1, 3) by decide +kernel) (by decide) (by decide +kernel)) <|
  ok_c (sn_goto (show decode cX9_guardsOf 69 = .ok (.goto (-65), 3) by decide +kernel) (by decide)) <|
  ok_c (sn_iload_n (show decode cX9_guardsOf 72 = .ok (.iload_n 2, 1) by decide +kernel) rfl) <|
  ok_n
def uX9_guardsOf : gCT := [(7, YX9_people, 1, some 9), (16, YX9_isBit, 2, none), (28, YX9_sizeOf, 1, none), (32, YX9_sizeOf, 1, none), (42, YX9_lays, 1, some 9), (51, YX9_runs_, 1, some 9)]
set_option maxRecDepth 100000 in
theorem ocX9_guardsOf : gOkC YX9_guardsOf uX9_guardsOf := oc_c (gEdge_V cal_X9_people ck_9 rfl (show decode cX9_guardsOf 7 = .ok (.invokevirtual 244, 3) by decide +kernel) wd_7_50 wd_7_52 wp_5_6) <|
  oc_c (gEdge_S cal_X9_isBit (show decode cX9_guardsOf 16 = .ok (.invokestatic 281, 3) by decide +kernel) wd_7_115 wd_7_116) <|
  oc_c (gEdge_S cal_X9_sizeOf (show decode cX9_guardsOf 28 = .ok (.invokestatic 334, 3) by decide +kernel) wd_7_198 wd_7_199) <|
  oc_c (gEdge_S cal_X9_sizeOf (show decode cX9_guardsOf 32 = .ok (.invokestatic 334, 3) by decide +kernel) wd_7_198 wd_7_199) <|
  oc_c (gEdge_V cal_X9_lays ck_9 rfl (show decode cX9_guardsOf 42 = .ok (.invokevirtual 329, 3) by decide +kernel) wd_7_91 wd_7_93 wp_5_13) <|
  oc_c (gEdge_V cal_X9_runs_ ck_9 rfl (show decode cX9_guardsOf 51 = .ok (.invokevirtual 332, 3) by decide +kernel) wd_7_95 wd_7_97 wp_5_14) <|
  oc_n
theorem reX9_guardsOf : ∀ pc ∈ [73], decode cX9_guardsOf pc = .ok (.ireturn, 1) := by decide +kernel
def tX9_guards : List (Nat × gStp) := [(0, i_aload 0 1), (1, i_push (.int 0) 2), (2, i_putI 9 0 5), (5, i_aload 0 6), (6, i_iload 1 7), (7, i_i2l 8), (11, i_if_ne 17 14), (14, i_push (.int (-2)) 16), (17, i_aload 0 18), (18, i_iload 1 19), (22, i_istore 2 23), (23, i_iload 2 24), (24, i_push (.int (-1)) 25), (25, i_ic_ne 32 28), (28, i_push (.int (-1)) 29), (29, i_goto 36), (32, i_iload 2 33)]
set_option maxRecDepth 100000 in
theorem okX9_guards : gOk YX9_guards tX9_guards := ok_c (sn_aload_n (show decode cX9_guards 0 = .ok (.aload_n 0, 1) by decide +kernel) rfl) <|
  ok_c (sn_iconst (v := 0) (show decode cX9_guards 1 = .ok (.iconst 0, 1) by decide +kernel) (by decide +kernel)) <|
  ok_c (sn_putI ck_9 (by decide) rfl rfl (show decode cX9_guards 2 = .ok (.putfield 77, 3) by decide +kernel) wd_5_217) <|
  ok_c (sn_aload_n (show decode cX9_guards 5 = .ok (.aload_n 0, 1) by decide +kernel) rfl) <|
  ok_c (sn_iload_n (show decode cX9_guards 6 = .ok (.iload_n 1, 1) by decide +kernel) rfl) <|
  ok_c (sn_i2l (show decode cX9_guards 7 = .ok (.i2l, 1) by decide +kernel)) <|
  ok_c (sn_if_ne (show decode cX9_guards 11 = .ok (.ifCond .ne 6, 3) by decide +kernel) (by decide)) <|
  ok_c (sn_bipush (v := (-2)) (show decode cX9_guards 14 = .ok (.bipush (-2), 2) by decide +kernel) (by decide +kernel)) <|
  ok_c (sn_aload_n (show decode cX9_guards 17 = .ok (.aload_n 0, 1) by decide +kernel) rfl) <|
  ok_c (sn_iload_n (show decode cX9_guards 18 = .ok (.iload_n 1, 1) by decide +kernel) rfl) <|
  ok_c (sn_istore_n (show decode cX9_guards 22 = .ok (.istore_n 2, 1) by decide +kernel) rfl (by decide)) <|
  ok_c (sn_iload_n (show decode cX9_guards 23 = .ok (.iload_n 2, 1) by decide +kernel) rfl) <|
  ok_c (sn_iconst (v := (-1)) (show decode cX9_guards 24 = .ok (.iconst (-1), 1) by decide +kernel) (by decide +kernel)) <|
  ok_c (sn_ic_ne (show decode cX9_guards 25 = .ok (.if_icmp .ne 7, 3) by decide +kernel) (by decide)) <|
  ok_c (sn_iconst (v := (-1)) (show decode cX9_guards 28 = .ok (.iconst (-1), 1) by decide +kernel) (by decide +kernel)) <|
  ok_c (sn_goto (show decode cX9_guards 29 = .ok (.goto 7, 3) by decide +kernel) (by decide)) <|
  ok_c (sn_iload_n (show decode cX9_guards 32 = .ok (.iload_n 2, 1) by decide +kernel) rfl) <|
  ok_n
def uX9_guards : gCT := [(8, YX9_isPerson, 2, some 9), (19, YX9_guardsOf, 2, some 9), (33, YX9_sizeOf, 1, none)]
set_option maxRecDepth 100000 in
theorem ocX9_guards : gOkC YX9_guards uX9_guards := oc_c (gEdge_V cal_X9_isPerson ck_9 rfl (show decode cX9_guards 8 = .ok (.invokevirtual 247, 3) by decide +kernel) wd_7_46 wd_7_48 wp_5_5) <|
  oc_c (gEdge_V cal_X9_guardsOf ck_9 rfl (show decode cX9_guards 19 = .ok (.invokevirtual 442, 3) by decide +kernel) wd_8_134 wd_8_136 wp_8_1) <|
  oc_c (gEdge_S cal_X9_sizeOf (show decode cX9_guards 33 = .ok (.invokestatic 334, 3) by decide +kernel) wd_7_198 wd_7_199) <|
  oc_n
theorem reX9_guards : ∀ pc ∈ [16, 36], decode cX9_guards pc = .ok (.ireturn, 1) := by decide +kernel
def tX9_guarded : List (Nat × gStp) := [(0, i_aload 0 1), (1, i_push (.int 0) 2), (2, i_putI 9 0 5), (5, i_aload 0 6), (6, i_iload 1 7), (7, i_i2l 8), (11, i_if_eq 22 14), (14, i_aload 0 15), (15, i_iload 1 16), (19, i_goto 24), (22, i_push (.int (-2)) 24)]
set_option maxRecDepth 100000 in
theorem okX9_guarded : gOk YX9_guarded tX9_guarded := ok_c (sn_aload_n (show decode cX9_guarded 0 = .ok (.aload_n 0, 1) by decide +kernel) rfl) <|
  ok_c (sn_iconst (v := 0) (show decode cX9_guarded 1 = .ok (.iconst 0, 1) by decide +kernel) (by decide +kernel)) <|
  ok_c (sn_putI ck_9 (by decide) rfl rfl (show decode cX9_guarded 2 = .ok (.putfield 77, 3) by decide +kernel) wd_5_217) <|
  ok_c (sn_aload_n (show decode cX9_guarded 5 = .ok (.aload_n 0, 1) by decide +kernel) rfl) <|
  ok_c (sn_iload_n (show decode cX9_guarded 6 = .ok (.iload_n 1, 1) by decide +kernel) rfl) <|
  ok_c (sn_i2l (show decode cX9_guarded 7 = .ok (.i2l, 1) by decide +kernel)) <|
  ok_c (sn_if_eq (show decode cX9_guarded 11 = .ok (.ifCond .eq 11, 3) by decide +kernel) (by decide)) <|
  ok_c (sn_aload_n (show decode cX9_guarded 14 = .ok (.aload_n 0, 1) by decide +kernel) rfl) <|
  ok_c (sn_iload_n (show decode cX9_guarded 15 = .ok (.iload_n 1, 1) by decide +kernel) rfl) <|
  ok_c (sn_goto (show decode cX9_guarded 19 = .ok (.goto 5, 3) by decide +kernel) (by decide)) <|
  ok_c (sn_bipush (v := (-2)) (show decode cX9_guarded 22 = .ok (.bipush (-2), 2) by decide +kernel) (by decide +kernel)) <|
  ok_n
def uX9_guarded : gCT := [(8, YX9_isPerson, 2, some 9), (16, YX9_guardsOf, 2, some 9)]
set_option maxRecDepth 100000 in
theorem ocX9_guarded : gOkC YX9_guarded uX9_guarded := oc_c (gEdge_V cal_X9_isPerson ck_9 rfl (show decode cX9_guarded 8 = .ok (.invokevirtual 247, 3) by decide +kernel) wd_7_46 wd_7_48 wp_5_5) <|
  oc_c (gEdge_V cal_X9_guardsOf ck_9 rfl (show decode cX9_guarded 16 = .ok (.invokevirtual 442, 3) by decide +kernel) wd_8_134 wd_8_136 wp_8_1) <|
  oc_n
theorem reX9_guarded : ∀ pc ∈ [24], decode cX9_guarded pc = .ok (.ireturn, 1) := by decide +kernel
def tX9_coldsAll : List (Nat × gStp) := [(0, i_push (.int 0) 1), (1, i_istore 1 2), (2, i_push (.int 0) 3), (3, i_istore 2 4), (4, i_iload 2 5), (5, i_aload 0 6), (9, i_ic_ge 36 12), (12, i_iload 1 13), (13, i_aload 0 14), (14, i_getC 9 157 17), (17, i_iload 2 18), (18, i_iald 19), (19, i_push (.int (-1)) 20), (20, i_ic_ne 27 23), (23, i_push (.int 0) 24), (24, i_goto 28), (27, i_push (.int 1) 28), (28, i_ii (fun x y => x + y) 29), (29, i_istore 1 30), (30, i_iinc 2 1 33), (33, i_goto 4), (36, i_iload 1 37)]
set_option maxRecDepth 100000 in
theorem okX9_coldsAll : gOk YX9_coldsAll tX9_coldsAll := ok_c (sn_iconst (v := 0) (show decode cX9_coldsAll 0 = .ok (.iconst 0, 1) by decide +kernel) (by decide +kernel)) <|
  ok_c (sn_istore_n (show decode cX9_coldsAll 1 = .ok (.istore_n 1, 1) by decide +kernel) rfl (by decide)) <|
  ok_c (sn_iconst (v := 0) (show decode cX9_coldsAll 2 = .ok (.iconst 0, 1) by decide +kernel) (by decide +kernel)) <|
  ok_c (sn_istore_n (show decode cX9_coldsAll 3 = .ok (.istore_n 2, 1) by decide +kernel) rfl (by decide)) <|
  ok_c (sn_iload_n (show decode cX9_coldsAll 4 = .ok (.iload_n 2, 1) by decide +kernel) rfl) <|
  ok_c (sn_aload_n (show decode cX9_coldsAll 5 = .ok (.aload_n 0, 1) by decide +kernel) rfl) <|
  ok_c (sn_ic_ge (show decode cX9_coldsAll 9 = .ok (.if_icmp .ge 27, 3) by decide +kernel) (by decide)) <|
  ok_c (sn_iload_n (show decode cX9_coldsAll 12 = .ok (.iload_n 1, 1) by decide +kernel) rfl) <|
  ok_c (sn_aload_n (show decode cX9_coldsAll 13 = .ok (.aload_n 0, 1) by decide +kernel) rfl) <|
  ok_c (sn_getC (j := 35) (fun _ _ => rfl) (sn_get ck_9 (by decide) (show decode cX9_coldsAll 14 = .ok (.getfield 62, 3) by decide +kernel) wd_6_12)) <|
  ok_c (sn_iload_n (show decode cX9_coldsAll 17 = .ok (.iload_n 2, 1) by decide +kernel) rfl) <|
  ok_c (sn_iald (show decode cX9_coldsAll 18 = .ok (.iaload, 1) by decide +kernel)) <|
  ok_c (sn_iconst (v := (-1)) (show decode cX9_coldsAll 19 = .ok (.iconst (-1), 1) by decide +kernel) (by decide +kernel)) <|
  ok_c (sn_ic_ne (show decode cX9_coldsAll 20 = .ok (.if_icmp .ne 7, 3) by decide +kernel) (by decide)) <|
  ok_c (sn_iconst (v := 0) (show decode cX9_coldsAll 23 = .ok (.iconst 0, 1) by decide +kernel) (by decide +kernel)) <|
  ok_c (sn_goto (show decode cX9_coldsAll 24 = .ok (.goto 4, 3) by decide +kernel) (by decide)) <|
  ok_c (sn_iconst (v := 1) (show decode cX9_coldsAll 27 = .ok (.iconst 1, 1) by decide +kernel) (by decide +kernel)) <|
  ok_c (sn_iadd (show decode cX9_coldsAll 28 = .ok (.iadd, 1) by decide +kernel)) <|
  ok_c (sn_istore_n (show decode cX9_coldsAll 29 = .ok (.istore_n 1, 1) by decide +kernel) rfl (by decide)) <|
  ok_c (sn_iinc (show decode cX9_coldsAll 30 = .ok (.iinc 2 1, 3) by decide +kernel) (by decide) (by decide +kernel)) <|
  ok_c (sn_goto (show decode cX9_coldsAll 33 = .ok (.goto (-29), 3) by decide +kernel) (by decide)) <|
  ok_c (sn_iload_n (show decode cX9_coldsAll 36 = .ok (.iload_n 1, 1) by decide +kernel) rfl) <|
  ok_n
def uX9_coldsAll : gCT := [(6, YX9_people, 1, some 9)]
set_option maxRecDepth 100000 in
theorem ocX9_coldsAll : gOkC YX9_coldsAll uX9_coldsAll := oc_c (gEdge_V cal_X9_people ck_9 rfl (show decode cX9_coldsAll 6 = .ok (.invokevirtual 244, 3) by decide +kernel) wd_7_50 wd_7_52 wp_5_6) <|
  oc_n
theorem reX9_coldsAll : ∀ pc ∈ [37], decode cX9_coldsAll pc = .ok (.ireturn, 1) := by decide +kernel
def tX9_sneezer : List (Nat × gStp) := [(0, i_aload 0 1), (1, i_push (.int 0) 2), (2, i_putI 9 0 5), (5, i_aload 0 6), (9, i_if_ne 15 12), (12, i_push (.int (-2)) 14), (15, i_push (.int (-1)) 16), (16, i_istore 1 17), (17, i_push (.int (-1)) 18), (18, i_istore 2 19), (19, i_push (.int 0) 20), (20, i_istore 3 21), (21, i_iload 3 22), (22, i_aload 0 23), (26, i_ic_ge 66 29), (29, i_aload 0 30), (33, i_aload 0 34), (34, i_iload 3 35), (35, i_putI 9 31 38), (38, i_aload 0 39), (42, i_aload 0 43), (46, i_iload 2 47), (47, i_ic_gt 53 50), (50, i_goto 60), (53, i_iload 3 54), (54, i_istore 1 55), (55, i_aload 0 56), (59, i_istore 2 60), (60, i_iinc 3 1 63), (63, i_goto 21), (66, i_iload 1 67)]
set_option maxRecDepth 100000 in
theorem okX9_sneezer : gOk YX9_sneezer tX9_sneezer := ok_c (sn_aload_n (show decode cX9_sneezer 0 = .ok (.aload_n 0, 1) by decide +kernel) rfl) <|
  ok_c (sn_iconst (v := 0) (show decode cX9_sneezer 1 = .ok (.iconst 0, 1) by decide +kernel) (by decide +kernel)) <|
  ok_c (sn_putI ck_9 (by decide) rfl rfl (show decode cX9_sneezer 2 = .ok (.putfield 77, 3) by decide +kernel) wd_5_217) <|
  ok_c (sn_aload_n (show decode cX9_sneezer 5 = .ok (.aload_n 0, 1) by decide +kernel) rfl) <|
  ok_c (sn_if_ne (show decode cX9_sneezer 9 = .ok (.ifCond .ne 6, 3) by decide +kernel) (by decide)) <|
  ok_c (sn_bipush (v := (-2)) (show decode cX9_sneezer 12 = .ok (.bipush (-2), 2) by decide +kernel) (by decide +kernel)) <|
  ok_c (sn_iconst (v := (-1)) (show decode cX9_sneezer 15 = .ok (.iconst (-1), 1) by decide +kernel) (by decide +kernel)) <|
  ok_c (sn_istore_n (show decode cX9_sneezer 16 = .ok (.istore_n 1, 1) by decide +kernel) rfl (by decide)) <|
  ok_c (sn_iconst (v := (-1)) (show decode cX9_sneezer 17 = .ok (.iconst (-1), 1) by decide +kernel) (by decide +kernel)) <|
  ok_c (sn_istore_n (show decode cX9_sneezer 18 = .ok (.istore_n 2, 1) by decide +kernel) rfl (by decide)) <|
  ok_c (sn_iconst (v := 0) (show decode cX9_sneezer 19 = .ok (.iconst 0, 1) by decide +kernel) (by decide +kernel)) <|
  ok_c (sn_istore_n (show decode cX9_sneezer 20 = .ok (.istore_n 3, 1) by decide +kernel) rfl (by decide)) <|
  ok_c (sn_iload_n (show decode cX9_sneezer 21 = .ok (.iload_n 3, 1) by decide +kernel) rfl) <|
  ok_c (sn_aload_n (show decode cX9_sneezer 22 = .ok (.aload_n 0, 1) by decide +kernel) rfl) <|
  ok_c (sn_ic_ge (show decode cX9_sneezer 26 = .ok (.if_icmp .ge 40, 3) by decide +kernel) (by decide)) <|
  ok_c (sn_aload_n (show decode cX9_sneezer 29 = .ok (.aload_n 0, 1) by decide +kernel) rfl) <|
  ok_c (sn_aload_n (show decode cX9_sneezer 33 = .ok (.aload_n 0, 1) by decide +kernel) rfl) <|
  ok_c (sn_iload_n (show decode cX9_sneezer 34 = .ok (.iload_n 3, 1) by decide +kernel) rfl) <|
  ok_c (sn_putI ck_9 (by decide) rfl rfl (show decode cX9_sneezer 35 = .ok (.putfield 274, 3) by decide +kernel) wd_6_8) <|
  ok_c (sn_aload_n (show decode cX9_sneezer 38 = .ok (.aload_n 0, 1) by decide +kernel) rfl) <|
  ok_c (sn_aload_n (show decode cX9_sneezer 42 = .ok (.aload_n 0, 1) by decide +kernel) rfl) <|
  ok_c (sn_iload_n (show decode cX9_sneezer 46 = .ok (.iload_n 2, 1) by decide +kernel) rfl) <|
  ok_c (sn_ic_gt (show decode cX9_sneezer 47 = .ok (.if_icmp .gt 6, 3) by decide +kernel) (by decide)) <|
  ok_c (sn_goto (show decode cX9_sneezer 50 = .ok (.goto 10, 3) by decide +kernel) (by decide)) <|
  ok_c (sn_iload_n (show decode cX9_sneezer 53 = .ok (.iload_n 3, 1) by decide +kernel) rfl) <|
  ok_c (sn_istore_n (show decode cX9_sneezer 54 = .ok (.istore_n 1, 1) by decide +kernel) rfl (by decide)) <|
  ok_c (sn_aload_n (show decode cX9_sneezer 55 = .ok (.aload_n 0, 1) by decide +kernel) rfl) <|
  ok_c (sn_istore_n (show decode cX9_sneezer 59 = .ok (.istore_n 2, 1) by decide +kernel) rfl (by decide)) <|
  ok_c (sn_iinc (show decode cX9_sneezer 60 = .ok (.iinc 3 1, 3) by decide +kernel) (by decide) (by decide +kernel)) <|
  ok_c (sn_goto (show decode cX9_sneezer 63 = .ok (.goto (-42), 3) by decide +kernel) (by decide)) <|
  ok_c (sn_iload_n (show decode cX9_sneezer 66 = .ok (.iload_n 1, 1) by decide +kernel) rfl) <|
  ok_n
def uX9_sneezer : gCT := [(6, YX9_isCity, 1, some 9), (23, YX9_people, 1, some 9), (30, YX9_lays, 1, some 9), (39, YX9_runs_, 1, some 9), (43, YX9_coldsAll, 1, some 9), (56, YX9_coldsAll, 1, some 9)]
set_option maxRecDepth 100000 in
theorem ocX9_sneezer : gOkC YX9_sneezer uX9_sneezer := oc_c (gEdge_V cal_X9_isCity ck_9 rfl (show decode cX9_sneezer 6 = .ok (.invokevirtual 378, 3) by decide +kernel) wd_8_17 wd_8_19 wp_7_5) <|
  oc_c (gEdge_V cal_X9_people ck_9 rfl (show decode cX9_sneezer 23 = .ok (.invokevirtual 244, 3) by decide +kernel) wd_7_50 wd_7_52 wp_5_6) <|
  oc_c (gEdge_V cal_X9_lays ck_9 rfl (show decode cX9_sneezer 30 = .ok (.invokevirtual 329, 3) by decide +kernel) wd_7_91 wd_7_93 wp_5_13) <|
  oc_c (gEdge_V cal_X9_runs_ ck_9 rfl (show decode cX9_sneezer 39 = .ok (.invokevirtual 332, 3) by decide +kernel) wd_7_95 wd_7_97 wp_5_14) <|
  oc_c (gEdge_V cal_X9_coldsAll ck_9 rfl (show decode cX9_sneezer 43 = .ok (.invokevirtual 445, 3) by decide +kernel) wd_8_146 wd_8_148 wp_8_2) <|
  oc_c (gEdge_V cal_X9_coldsAll ck_9 rfl (show decode cX9_sneezer 56 = .ok (.invokevirtual 445, 3) by decide +kernel) wd_8_146 wd_8_148 wp_8_2) <|
  oc_n
theorem reX9_sneezer : ∀ pc ∈ [14, 67], decode cX9_sneezer pc = .ok (.ireturn, 1) := by decide +kernel
def tX9_whyNot : List (Nat × gStp) := [(0, i_iload 1 1), (4, i_if_eq 14 7), (7, i_aload 0 8), (11, i_if_ne 17 14), (14, i_push (.int (-2)) 16), (17, i_aload 0 18), (18, i_getC 9 142 21), (21, i_iload 1 22), (22, i_iald 23), (23, i_push (.int (-1)) 24), (24, i_ic_ne 30 27), (27, i_push (.int (-6)) 29), (30, i_aload 0 31), (31, i_getC 9 143 34), (34, i_iload 1 35), (35, i_iald 36), (36, i_push (.int 3) 37), (37, i_idiv (fun x y => x - x / y * y) 38), (38, i_if_eq 44 41), (41, i_push (.int (-2)) 43), (44, i_push (.int 0) 45), (45, i_istore 2 46), (46, i_iload 2 47), (47, i_aload 0 48), (48, i_getC 9 143 51), (51, i_iload 1 52), (52, i_iald 53), (53, i_ic_ge 116 56), (56, i_push (.int 60) 58), (58, i_iload 1 59), (59, i_ii (fun x y => x * y) 60), (60, i_iload 2 61), (61, i_ii (fun x y => x + y) 62), (62, i_istore 3 63), (63, i_aload 0 64), (64, i_aload 0 65), (65, i_getC 9 144 68), (68, i_iload 3 69), (69, i_lald 70), (73, i_if_eq 107 76), (76, i_aload 0 77), (77, i_aload 0 78), (78, i_getC 9 144 81), (81, i_iload 3 82), (82, i_push (.int 1) 83), (83, i_ii (fun x y => x + y) 84), (84, i_lald 85), (88, i_if_eq 107 91), (91, i_aload 0 92), (92, i_getC 9 144 95), (95, i_iload 3 96), (96, i_push (.int 2) 97), (97, i_ii (fun x y => x + y) 98), (98, i_lald 99), (99, i_push (.long 0) 100), (100, i_push (.long 1) 101), (104, i_if_ne 110 107), (107, i_push (.int (-2)) 109), (110, i_iinc 2 3 113), (113, i_goto 46), (116, i_push (.int 0) 117)]
set_option maxRecDepth 100000 in
theorem okX9_whyNot : gOk YX9_whyNot tX9_whyNot := ok_c (sn_iload_n (show decode cX9_whyNot 0 = .ok (.iload_n 1, 1) by decide +kernel) rfl) <|
  ok_c (sn_if_eq (show decode cX9_whyNot 4 = .ok (.ifCond .eq 10, 3) by decide +kernel) (by decide)) <|
  ok_c (sn_aload_n (show decode cX9_whyNot 7 = .ok (.aload_n 0, 1) by decide +kernel) rfl) <|
  ok_c (sn_if_ne (show decode cX9_whyNot 11 = .ok (.ifCond .ne 6, 3) by decide +kernel) (by decide)) <|
  ok_c (sn_bipush (v := (-2)) (show decode cX9_whyNot 14 = .ok (.bipush (-2), 2) by decide +kernel) (by decide +kernel)) <|
  ok_c (sn_aload_n (show decode cX9_whyNot 17 = .ok (.aload_n 0, 1) by decide +kernel) rfl) <|
  ok_c (sn_getC (j := 1) (fun _ _ => rfl) (sn_get ck_9 (by decide) (show decode cX9_whyNot 18 = .ok (.getfield 7, 3) by decide +kernel) wd_5_218)) <|
  ok_c (sn_iload_n (show decode cX9_whyNot 21 = .ok (.iload_n 1, 1) by decide +kernel) rfl) <|
  ok_c (sn_iald (show decode cX9_whyNot 22 = .ok (.iaload, 1) by decide +kernel)) <|
  ok_c (sn_iconst (v := (-1)) (show decode cX9_whyNot 23 = .ok (.iconst (-1), 1) by decide +kernel) (by decide +kernel)) <|
  ok_c (sn_ic_ne (show decode cX9_whyNot 24 = .ok (.if_icmp .ne 6, 3) by decide +kernel) (by decide)) <|
  ok_c (sn_bipush (v := (-6)) (show decode cX9_whyNot 27 = .ok (.bipush (-6), 2) by decide +kernel) (by decide +kernel)) <|
  ok_c (sn_aload_n (show decode cX9_whyNot 30 = .ok (.aload_n 0, 1) by decide +kernel) rfl) <|
  ok_c (sn_getC (j := 2) (fun _ _ => rfl) (sn_get ck_9 (by decide) (show decode cX9_whyNot 31 = .ok (.getfield 13, 3) by decide +kernel) wd_5_219)) <|
  ok_c (sn_iload_n (show decode cX9_whyNot 34 = .ok (.iload_n 1, 1) by decide +kernel) rfl) <|
  ok_c (sn_iald (show decode cX9_whyNot 35 = .ok (.iaload, 1) by decide +kernel)) <|
  ok_c (sn_iconst (v := 3) (show decode cX9_whyNot 36 = .ok (.iconst 3, 1) by decide +kernel) (by decide +kernel)) <|
  ok_c (sn_irem (show decode cX9_whyNot 37 = .ok (.irem, 1) by decide +kernel)) <|
  ok_c (sn_if_eq (show decode cX9_whyNot 38 = .ok (.ifCond .eq 6, 3) by decide +kernel) (by decide)) <|
  ok_c (sn_bipush (v := (-2)) (show decode cX9_whyNot 41 = .ok (.bipush (-2), 2) by decide +kernel) (by decide +kernel)) <|
  ok_c (sn_iconst (v := 0) (show decode cX9_whyNot 44 = .ok (.iconst 0, 1) by decide +kernel) (by decide +kernel)) <|
  ok_c (sn_istore_n (show decode cX9_whyNot 45 = .ok (.istore_n 2, 1) by decide +kernel) rfl (by decide)) <|
  ok_c (sn_iload_n (show decode cX9_whyNot 46 = .ok (.iload_n 2, 1) by decide +kernel) rfl) <|
  ok_c (sn_aload_n (show decode cX9_whyNot 47 = .ok (.aload_n 0, 1) by decide +kernel) rfl) <|
  ok_c (sn_getC (j := 2) (fun _ _ => rfl) (sn_get ck_9 (by decide) (show decode cX9_whyNot 48 = .ok (.getfield 13, 3) by decide +kernel) wd_5_219)) <|
  ok_c (sn_iload_n (show decode cX9_whyNot 51 = .ok (.iload_n 1, 1) by decide +kernel) rfl) <|
  ok_c (sn_iald (show decode cX9_whyNot 52 = .ok (.iaload, 1) by decide +kernel)) <|
  ok_c (sn_ic_ge (show decode cX9_whyNot 53 = .ok (.if_icmp .ge 63, 3) by decide +kernel) (by decide)) <|
  ok_c (sn_bipush (v := 60) (show decode cX9_whyNot 56 = .ok (.bipush 60, 2) by decide +kernel) (by decide +kernel)) <|
  ok_c (sn_iload_n (show decode cX9_whyNot 58 = .ok (.iload_n 1, 1) by decide +kernel) rfl) <|
  ok_c (sn_imul (show decode cX9_whyNot 59 = .ok (.imul, 1) by decide +kernel)) <|
  ok_c (sn_iload_n (show decode cX9_whyNot 60 = .ok (.iload_n 2, 1) by decide +kernel) rfl) <|
  ok_c (sn_iadd (show decode cX9_whyNot 61 = .ok (.iadd, 1) by decide +kernel)) <|
  ok_c (sn_istore_n (show decode cX9_whyNot 62 = .ok (.istore_n 3, 1) by decide +kernel) rfl (by decide)) <|
  ok_c (sn_aload_n (show decode cX9_whyNot 63 = .ok (.aload_n 0, 1) by decide +kernel) rfl) <|
  ok_c (sn_aload_n (show decode cX9_whyNot 64 = .ok (.aload_n 0, 1) by decide +kernel) rfl) <|
  ok_c (sn_getC (j := 3) (fun _ _ => rfl) (sn_get ck_9 (by decide) (show decode cX9_whyNot 65 = .ok (.getfield 16, 3) by decide +kernel) wd_5_220)) <|
  ok_c (sn_iload_n (show decode cX9_whyNot 68 = .ok (.iload_n 3, 1) by decide +kernel) rfl) <|
  ok_c (sn_lald (show decode cX9_whyNot 69 = .ok (.laload, 1) by decide +kernel)) <|
  ok_c (sn_if_eq (show decode cX9_whyNot 73 = .ok (.ifCond .eq 34, 3) by decide +kernel) (by decide)) <|
  ok_c (sn_aload_n (show decode cX9_whyNot 76 = .ok (.aload_n 0, 1) by decide +kernel) rfl) <|
  ok_c (sn_aload_n (show decode cX9_whyNot 77 = .ok (.aload_n 0, 1) by decide +kernel) rfl) <|
  ok_c (sn_getC (j := 3) (fun _ _ => rfl) (sn_get ck_9 (by decide) (show decode cX9_whyNot 78 = .ok (.getfield 16, 3) by decide +kernel) wd_5_220)) <|
  ok_c (sn_iload_n (show decode cX9_whyNot 81 = .ok (.iload_n 3, 1) by decide +kernel) rfl) <|
  ok_c (sn_iconst (v := 1) (show decode cX9_whyNot 82 = .ok (.iconst 1, 1) by decide +kernel) (by decide +kernel)) <|
  ok_c (sn_iadd (show decode cX9_whyNot 83 = .ok (.iadd, 1) by decide +kernel)) <|
  ok_c (sn_lald (show decode cX9_whyNot 84 = .ok (.laload, 1) by decide +kernel)) <|
  ok_c (sn_if_eq (show decode cX9_whyNot 88 = .ok (.ifCond .eq 19, 3) by decide +kernel) (by decide)) <|
  ok_c (sn_aload_n (show decode cX9_whyNot 91 = .ok (.aload_n 0, 1) by decide +kernel) rfl) <|
  ok_c (sn_getC (j := 3) (fun _ _ => rfl) (sn_get ck_9 (by decide) (show decode cX9_whyNot 92 = .ok (.getfield 16, 3) by decide +kernel) wd_5_220)) <|
  ok_c (sn_iload_n (show decode cX9_whyNot 95 = .ok (.iload_n 3, 1) by decide +kernel) rfl) <|
  ok_c (sn_iconst (v := 2) (show decode cX9_whyNot 96 = .ok (.iconst 2, 1) by decide +kernel) (by decide +kernel)) <|
  ok_c (sn_iadd (show decode cX9_whyNot 97 = .ok (.iadd, 1) by decide +kernel)) <|
  ok_c (sn_lald (show decode cX9_whyNot 98 = .ok (.laload, 1) by decide +kernel)) <|
  ok_c (sn_lconst (v := 0) (show decode cX9_whyNot 99 = .ok (.lconst 0, 1) by decide +kernel) (by decide +kernel)) <|
  ok_c (sn_lconst (v := 1) (show decode cX9_whyNot 100 = .ok (.lconst 1, 1) by decide +kernel) (by decide +kernel)) <|
  ok_c (sn_if_ne (show decode cX9_whyNot 104 = .ok (.ifCond .ne 6, 3) by decide +kernel) (by decide)) <|
  ok_c (sn_bipush (v := (-2)) (show decode cX9_whyNot 107 = .ok (.bipush (-2), 2) by decide +kernel) (by decide +kernel)) <|
  ok_c (sn_iinc (show decode cX9_whyNot 110 = .ok (.iinc 2 3, 3) by decide +kernel) (by decide) (by decide +kernel)) <|
  ok_c (sn_goto (show decode cX9_whyNot 113 = .ok (.goto (-67), 3) by decide +kernel) (by decide)) <|
  ok_c (sn_iconst (v := 0) (show decode cX9_whyNot 116 = .ok (.iconst 0, 1) by decide +kernel) (by decide +kernel)) <|
  ok_n
def uX9_whyNot : gCT := [(1, YX9_isSlot, 1, none), (8, YX9_isCity, 1, some 9), (70, YX9_isPerson, 2, some 9), (85, YX9_isDoor, 2, some 9), (101, YX9_in, 3, none)]
set_option maxRecDepth 100000 in
theorem ocX9_whyNot : gOkC YX9_whyNot uX9_whyNot := oc_c (gEdge_S cal_X9_isSlot (show decode cX9_whyNot 1 = .ok (.invokestatic 86, 3) by decide +kernel) wd_6_130 wd_6_131) <|
  oc_c (gEdge_V cal_X9_isCity ck_9 rfl (show decode cX9_whyNot 8 = .ok (.invokevirtual 378, 3) by decide +kernel) wd_8_17 wd_8_19 wp_7_5) <|
  oc_c (gEdge_V cal_X9_isPerson ck_9 rfl (show decode cX9_whyNot 70 = .ok (.invokevirtual 247, 3) by decide +kernel) wd_7_46 wd_7_48 wp_5_5) <|
  oc_c (gEdge_V cal_X9_isDoor ck_9 rfl (show decode cX9_whyNot 85 = .ok (.invokevirtual 351, 3) by decide +kernel) wd_7_71 wd_7_73 wp_5_9) <|
  oc_c (gEdge_S cal_X9_in (show decode cX9_whyNot 101 = .ok (.invokestatic 82, 3) by decide +kernel) wd_6_134 wd_6_135) <|
  oc_n
theorem reX9_whyNot : ∀ pc ∈ [16, 29, 43, 109, 117], decode cX9_whyNot pc = .ok (.ireturn, 1) := by decide +kernel
def tX9_laysTrue : List (Nat × gStp) := [(0, i_aload 0 1), (4, i_aload 0 5), (5, i_push (.int 0) 6), (6, i_putZ 9 32 9), (9, i_aload 0 10), (10, i_push (.int 1) 11), (11, i_aload 0 12), (15, i_ii (fun x y => x <<< (y &&& 31)) 16), (16, i_push (.int 1) 17), (17, i_ii (fun x y => x - y) 18), (18, i_iload 1 19), (19, i_push (.int (-1)) 20), (20, i_ii (fun x y => x ^^^ y) 21), (21, i_ii (fun x y => x &&& y) 22), (22, i_putI 9 25 25), (25, i_aload 0 26), (26, i_push (.int 0) 27)]
set_option maxRecDepth 100000 in
theorem okX9_laysTrue : gOk YX9_laysTrue tX9_laysTrue := ok_c (sn_aload_n (show decode cX9_laysTrue 0 = .ok (.aload_n 0, 1) by decide +kernel) rfl) <|
  ok_c (sn_aload_n (show decode cX9_laysTrue 4 = .ok (.aload_n 0, 1) by decide +kernel) rfl) <|
  ok_c (sn_iconst (v := 0) (show decode cX9_laysTrue 5 = .ok (.iconst 0, 1) by decide +kernel) (by decide +kernel)) <|
  ok_c (sn_putZ ck_9 (by decide) rfl rfl (show decode cX9_laysTrue 6 = .ok (.putfield 277, 3) by decide +kernel) wd_6_9) <|
  ok_c (sn_aload_n (show decode cX9_laysTrue 9 = .ok (.aload_n 0, 1) by decide +kernel) rfl) <|
  ok_c (sn_iconst (v := 1) (show decode cX9_laysTrue 10 = .ok (.iconst 1, 1) by decide +kernel) (by decide +kernel)) <|
  ok_c (sn_aload_n (show decode cX9_laysTrue 11 = .ok (.aload_n 0, 1) by decide +kernel) rfl) <|
  ok_c (sn_ishl (show decode cX9_laysTrue 15 = .ok (.ishl, 1) by decide +kernel)) <|
  ok_c (sn_iconst (v := 1) (show decode cX9_laysTrue 16 = .ok (.iconst 1, 1) by decide +kernel) (by decide +kernel)) <|
  ok_c (sn_isub (show decode cX9_laysTrue 17 = .ok (.isub, 1) by decide +kernel)) <|
  ok_c (sn_iload_n (show decode cX9_laysTrue 18 = .ok (.iload_n 1, 1) by decide +kernel) rfl) <|
  ok_c (sn_iconst (v := (-1)) (show decode cX9_laysTrue 19 = .ok (.iconst (-1), 1) by decide +kernel) (by decide +kernel)) <|
  ok_c (sn_ixor (show decode cX9_laysTrue 20 = .ok (.ixor, 1) by decide +kernel)) <|
  ok_c (sn_iand (show decode cX9_laysTrue 21 = .ok (.iand, 1) by decide +kernel)) <|
  ok_c (sn_putI ck_9 (by decide) rfl rfl (show decode cX9_laysTrue 22 = .ok (.putfield 262, 3) by decide +kernel) wd_6_2) <|
  ok_c (sn_aload_n (show decode cX9_laysTrue 25 = .ok (.aload_n 0, 1) by decide +kernel) rfl) <|
  ok_c (sn_iconst (v := 0) (show decode cX9_laysTrue 26 = .ok (.iconst 0, 1) by decide +kernel) (by decide +kernel)) <|
  ok_n
def uX9_laysTrue : gCT := [(1, YX9_lays, 1, some 9), (12, YX9_joins, 1, some 9), (27, YX9_runs, 2, some 9)]
set_option maxRecDepth 100000 in
theorem ocX9_laysTrue : gOkC YX9_laysTrue uX9_laysTrue := oc_c (gEdge_V cal_X9_lays ck_9 rfl (show decode cX9_laysTrue 1 = .ok (.invokevirtual 329, 3) by decide +kernel) wd_7_91 wd_7_93 wp_5_13) <|
  oc_c (gEdge_V cal_X9_joins ck_9 rfl (show decode cX9_laysTrue 12 = .ok (.invokevirtual 250, 3) by decide +kernel) wd_7_63 wd_7_65 wp_5_8) <|
  oc_c (gEdge_V cal_X9_runs ck_9 rfl (show decode cX9_laysTrue 27 = .ok (.invokevirtual 326, 3) by decide +kernel) wd_7_99 wd_7_101 wp_5_15) <|
  oc_n
theorem reX9_laysTrue : ∀ pc ∈ [30], decode cX9_laysTrue pc = .ok (.return_, 1) := by decide +kernel
def tX9_isSo : List (Nat × gStp) := [(0, i_push (.int 0) 1), (1, i_istore 2 2), (2, i_iload 2 3), (3, i_aload 0 4), (4, i_getC 9 143 7), (7, i_iload 1 8), (8, i_iald 9), (9, i_ic_ge 69 12), (12, i_push (.int 60) 14), (14, i_iload 1 15), (15, i_ii (fun x y => x * y) 16), (16, i_iload 2 17), (17, i_ii (fun x y => x + y) 18), (18, i_istore 3 19), (19, i_aload 0 20), (20, i_aload 0 21), (21, i_getC 9 144 24), (24, i_iload 3 25), (25, i_lald 26), (26, i_l2i 27), (27, i_aload 0 28), (28, i_getC 9 144 31), (31, i_iload 3 32), (32, i_push (.int 1) 33), (33, i_ii (fun x y => x + y) 34), (34, i_lald 35), (35, i_l2i 36), (36, i_push (.int 0) 37), (40, i_aload 0 41), (41, i_getC 9 144 44), (44, i_iload 3 45), (45, i_push (.int 2) 46), (46, i_ii (fun x y => x + y) 47), (47, i_lald 48), (48, i_push (.long 1) 49), (49, i_lcmp 50), (50, i_if_ne 57 53), (53, i_push (.int 1) 54), (54, i_goto 58), (57, i_push (.int 0) 58), (58, i_ic_eq 63 61), (61, i_push (.int 0) 62), (63, i_iinc 2 3 66), (66, i_goto 2), (69, i_push (.int 1) 70)]
set_option maxRecDepth 100000 in
theorem okX9_isSo : gOk YX9_isSo tX9_isSo := ok_c (sn_iconst (v := 0) (show decode cX9_isSo 0 = .ok (.iconst 0, 1) by decide +kernel) (by decide +kernel)) <|
  ok_c (sn_istore_n (show decode cX9_isSo 1 = .ok (.istore_n 2, 1) by decide +kernel) rfl (by decide)) <|
  ok_c (sn_iload_n (show decode cX9_isSo 2 = .ok (.iload_n 2, 1) by decide +kernel) rfl) <|
  ok_c (sn_aload_n (show decode cX9_isSo 3 = .ok (.aload_n 0, 1) by decide +kernel) rfl) <|
  ok_c (sn_getC (j := 2) (fun _ _ => rfl) (sn_get ck_9 (by decide) (show decode cX9_isSo 4 = .ok (.getfield 13, 3) by decide +kernel) wd_5_219)) <|
  ok_c (sn_iload_n (show decode cX9_isSo 7 = .ok (.iload_n 1, 1) by decide +kernel) rfl) <|
  ok_c (sn_iald (show decode cX9_isSo 8 = .ok (.iaload, 1) by decide +kernel)) <|
  ok_c (sn_ic_ge (show decode cX9_isSo 9 = .ok (.if_icmp .ge 60, 3) by decide +kernel) (by decide)) <|
  ok_c (sn_bipush (v := 60) (show decode cX9_isSo 12 = .ok (.bipush 60, 2) by decide +kernel) (by decide +kernel)) <|
  ok_c (sn_iload_n (show decode cX9_isSo 14 = .ok (.iload_n 1, 1) by decide +kernel) rfl) <|
  ok_c (sn_imul (show decode cX9_isSo 15 = .ok (.imul, 1) by decide +kernel)) <|
  ok_c (sn_iload_n (show decode cX9_isSo 16 = .ok (.iload_n 2, 1) by decide +kernel) rfl) <|
  ok_c (sn_iadd (show decode cX9_isSo 17 = .ok (.iadd, 1) by decide +kernel)) <|
  ok_c (sn_istore_n (show decode cX9_isSo 18 = .ok (.istore_n 3, 1) by decide +kernel) rfl (by decide)) <|
  ok_c (sn_aload_n (show decode cX9_isSo 19 = .ok (.aload_n 0, 1) by decide +kernel) rfl) <|
  ok_c (sn_aload_n (show decode cX9_isSo 20 = .ok (.aload_n 0, 1) by decide +kernel) rfl) <|
  ok_c (sn_getC (j := 3) (fun _ _ => rfl) (sn_get ck_9 (by decide) (show decode cX9_isSo 21 = .ok (.getfield 16, 3) by decide +kernel) wd_5_220)) <|
  ok_c (sn_iload_n (show decode cX9_isSo 24 = .ok (.iload_n 3, 1) by decide +kernel) rfl) <|
  ok_c (sn_lald (show decode cX9_isSo 25 = .ok (.laload, 1) by decide +kernel)) <|
  ok_c (sn_l2i (show decode cX9_isSo 26 = .ok (.l2i, 1) by decide +kernel)) <|
  ok_c (sn_aload_n (show decode cX9_isSo 27 = .ok (.aload_n 0, 1) by decide +kernel) rfl) <|
  ok_c (sn_getC (j := 3) (fun _ _ => rfl) (sn_get ck_9 (by decide) (show decode cX9_isSo 28 = .ok (.getfield 16, 3) by decide +kernel) wd_5_220)) <|
  ok_c (sn_iload_n (show decode cX9_isSo 31 = .ok (.iload_n 3, 1) by decide +kernel) rfl) <|
  ok_c (sn_iconst (v := 1) (show decode cX9_isSo 32 = .ok (.iconst 1, 1) by decide +kernel) (by decide +kernel)) <|
  ok_c (sn_iadd (show decode cX9_isSo 33 = .ok (.iadd, 1) by decide +kernel)) <|
  ok_c (sn_lald (show decode cX9_isSo 34 = .ok (.laload, 1) by decide +kernel)) <|
  ok_c (sn_l2i (show decode cX9_isSo 35 = .ok (.l2i, 1) by decide +kernel)) <|
  ok_c (sn_iconst (v := 0) (show decode cX9_isSo 36 = .ok (.iconst 0, 1) by decide +kernel) (by decide +kernel)) <|
  ok_c (sn_aload_n (show decode cX9_isSo 40 = .ok (.aload_n 0, 1) by decide +kernel) rfl) <|
  ok_c (sn_getC (j := 3) (fun _ _ => rfl) (sn_get ck_9 (by decide) (show decode cX9_isSo 41 = .ok (.getfield 16, 3) by decide +kernel) wd_5_220)) <|
  ok_c (sn_iload_n (show decode cX9_isSo 44 = .ok (.iload_n 3, 1) by decide +kernel) rfl) <|
  ok_c (sn_iconst (v := 2) (show decode cX9_isSo 45 = .ok (.iconst 2, 1) by decide +kernel) (by decide +kernel)) <|
  ok_c (sn_iadd (show decode cX9_isSo 46 = .ok (.iadd, 1) by decide +kernel)) <|
  ok_c (sn_lald (show decode cX9_isSo 47 = .ok (.laload, 1) by decide +kernel)) <|
  ok_c (sn_lconst (v := 1) (show decode cX9_isSo 48 = .ok (.lconst 1, 1) by decide +kernel) (by decide +kernel)) <|
  ok_c (sn_lcmp (show decode cX9_isSo 49 = .ok (.lcmp, 1) by decide +kernel)) <|
  ok_c (sn_if_ne (show decode cX9_isSo 50 = .ok (.ifCond .ne 7, 3) by decide +kernel) (by decide)) <|
  ok_c (sn_iconst (v := 1) (show decode cX9_isSo 53 = .ok (.iconst 1, 1) by decide +kernel) (by decide +kernel)) <|
  ok_c (sn_goto (show decode cX9_isSo 54 = .ok (.goto 4, 3) by decide +kernel) (by decide)) <|
  ok_c (sn_iconst (v := 0) (show decode cX9_isSo 57 = .ok (.iconst 0, 1) by decide +kernel) (by decide +kernel)) <|
  ok_c (sn_ic_eq (show decode cX9_isSo 58 = .ok (.if_icmp .eq 5, 3) by decide +kernel) (by decide)) <|
  ok_c (sn_iconst (v := 0) (show decode cX9_isSo 61 = .ok (.iconst 0, 1) by decide +kernel) (by decide +kernel)) <|
  ok_c (sn_iinc (show decode cX9_isSo 63 = .ok (.iinc 2 3, 3) by decide +kernel) (by decide) (by decide +kernel)) <|
  ok_c (sn_goto (show decode cX9_isSo 66 = .ok (.goto (-64), 3) by decide +kernel) (by decide)) <|
  ok_c (sn_iconst (v := 1) (show decode cX9_isSo 69 = .ok (.iconst 1, 1) by decide +kernel) (by decide +kernel)) <|
  ok_n
def uX9_isSo : gCT := [(37, YX9_goesThrough, 4, some 9)]
set_option maxRecDepth 100000 in
theorem ocX9_isSo : gOkC YX9_isSo uX9_isSo := oc_c (gEdge_V cal_X9_goesThrough ck_9 rfl (show decode cX9_isSo 37 = .ok (.invokevirtual 372, 3) by decide +kernel) wd_7_205 wd_7_207 wp_7_3) <|
  oc_n
theorem reX9_isSo : ∀ pc ∈ [62, 70], decode cX9_isSo pc = .ok (.ireturn, 1) := by decide +kernel
def tX9_laysTrues : List (Nat × gStp) := [(0, i_aload 0 1), (1, i_push (.int 0) 2), (2, i_putI 9 43 5), (5, i_aload 0 6), (6, i_push (.int 1) 7), (7, i_aload 0 8), (11, i_ii (fun x y => x <<< (y &&& 31)) 12), (12, i_push (.int 1) 13), (13, i_ii (fun x y => x - y) 14), (14, i_putI 9 44 17), (17, i_aload 0 18), (18, i_push (.int 0) 19), (19, i_putI 9 45 22), (22, i_push (.int 0) 23), (23, i_istore 2 24), (24, i_iload 2 25), (25, i_push (.int 30) 27), (27, i_ic_ge 43 30), (30, i_aload 0 31), (31, i_getC 9 161 34), (34, i_iload 2 35), (35, i_push (.int 0) 36), (36, i_iast 37), (37, i_iinc 2 1 40), (40, i_goto 24), (43, i_push (.int 0) 44), (44, i_istore 2 45), (45, i_iload 2 46), (46, i_push (.int 1) 47), (47, i_aload 0 48), (51, i_ii (fun x y => x <<< (y &&& 31)) 52), (52, i_ic_ge 174 55), (55, i_aload 0 56), (56, i_iload 2 57), (60, i_aload 0 61), (61, i_iload 1 62), (65, i_if_ne 71 68), (68, i_goto 168), (71, i_aload 0 72), (72, i_dup 73), (73, i_getI 9 43 76), (76, i_push (.int 1) 77), (77, i_ii (fun x y => x + y) 78), (78, i_putI 9 43 81), (81, i_aload 0 82), (82, i_dup 83), (83, i_getI 9 44 86), (86, i_iload 2 87), (87, i_ii (fun x y => x &&& y) 88), (88, i_putI 9 44 91), (91, i_aload 0 92), (92, i_dup 93), (93, i_getI 9 45 96), (96, i_iload 2 97), (97, i_ii (fun x y => x ||| y) 98), (98, i_putI 9 45 101), (101, i_push (.int 0) 102), (102, i_istore 3 103), (103, i_iload 3 104), (104, i_aload 0 105), (108, i_ic_ge 168 111), (111, i_push (.int 0) 112), (112, i_istore 4 114), (114, i_iload 4 116), (116, i_aload 0 117), (117, i_getC 9 148 120), (120, i_push (.int 6) 122), (122, i_iald 123), (123, i_ic_ge 162 126), (126, i_aload 0 127), (127, i_getC 9 161 130), (130, i_push (.int 5) 131), (131, i_iload 3 132), (132, i_ii (fun x y => x * y) 133), (133, i_iload 4 135), (135, i_ii (fun x y => x + y) 136), (136, i_dup2 137), (137, i_iald 138), (138, i_aload 0 139), (139, i_iload 3 140), (140, i_iload 4 142), (142, i_push (.int 0) 143), (146, i_if_eq 153 149), (149, i_push (.int 1) 150), (150, i_goto 154), (153, i_push (.int 0) 154), (154, i_ii (fun x y => x + y) 155), (155, i_iast 156), (156, i_iinc 4 1 159), (159, i_goto 114), (162, i_iinc 3 1 165), (165, i_goto 103), (168, i_iinc 2 1 171), (171, i_goto 45), (174, i_aload 0 175), (175, i_push (.int (-1)) 176), (176, i_putI 9 46 179), (179, i_aload 0 180), (180, i_aload 0 181), (181, i_getI 9 43 184), (184, i_putI 9 47 187), (187, i_push (.int 0) 188), (188, i_istore 2 189), (189, i_iload 2 190), (190, i_aload 0 191), (194, i_ic_ge 288 197), (197, i_push (.int 0) 198), (198, i_istore 3 199), (199, i_iload 3 200), (200, i_aload 0 201), (201, i_getC 9 148 204), (204, i_push (.int 6) 206), (206, i_iald 207), (207, i_ic_ge 282 210), (210, i_aload 0 211), (211, i_getC 9 161 214), (214, i_push (.int 5) 215), (215, i_iload 2 216), (216, i_ii (fun x y => x * y) 217), (217, i_iload 3 218), (218, i_ii (fun x y => x + y) 219), (219, i_iald 220), (220, i_istore 4 222), (222, i_iload 4 224), (224, i_aload 0 225), (225, i_getI 9 43 228), (228, i_iload 4 230), (230, i_ii (fun x y => x - y) 231), (231, i_ic_le 239 234), (234, i_iload 4 236), (236, i_goto 246), (239, i_aload 0 240), (240, i_getI 9 43 243), (243, i_iload 4 245), (245, i_ii (fun x y => x - y) 246), (246, i_istore 5 248), (248, i_iload 5 250), (250, i_aload 0 251), (251, i_getI 9 47 254), (254, i_ic_lt 260 257), (257, i_goto 276), (260, i_aload 0 261), (261, i_push (.int 10) 263), (263, i_iload 2 264), (264, i_ii (fun x y => x * y) 265), (265, i_iload 3 266), (266, i_ii (fun x y => x + y) 267), (267, i_putI 9 46 270), (270, i_aload 0 271), (271, i_iload 5 273), (273, i_putI 9 47 276), (276, i_iinc 3 1 279), (279, i_goto 199), (282, i_iinc 2 1 285), (285, i_goto 189)]
set_option maxRecDepth 100000 in
theorem okX9_laysTrues : gOk YX9_laysTrues tX9_laysTrues := ok_c (sn_aload_n (show decode cX9_laysTrues 0 = .ok (.aload_n 0, 1) by decide +kernel) rfl) <|
  ok_c (sn_iconst (v := 0) (show decode cX9_laysTrues 1 = .ok (.iconst 0, 1) by decide +kernel) (by decide +kernel)) <|
  ok_c (sn_putI ck_9 (by decide) rfl rfl (show decode cX9_laysTrues 2 = .ok (.putfield 448, 3) by decide +kernel) wd_6_20) <|
  ok_c (sn_aload_n (show decode cX9_laysTrues 5 = .ok (.aload_n 0, 1) by decide +kernel) rfl) <|
  ok_c (sn_iconst (v := 1) (show decode cX9_laysTrues 6 = .ok (.iconst 1, 1) by decide +kernel) (by decide +kernel)) <|
  ok_c (sn_aload_n (show decode cX9_laysTrues 7 = .ok (.aload_n 0, 1) by decide +kernel) rfl) <|
  ok_c (sn_ishl (show decode cX9_laysTrues 11 = .ok (.ishl, 1) by decide +kernel)) <|
  ok_c (sn_iconst (v := 1) (show decode cX9_laysTrues 12 = .ok (.iconst 1, 1) by decide +kernel) (by decide +kernel)) <|
  ok_c (sn_isub (show decode cX9_laysTrues 13 = .ok (.isub, 1) by decide +kernel)) <|
  ok_c (sn_putI ck_9 (by decide) rfl rfl (show decode cX9_laysTrues 14 = .ok (.putfield 451, 3) by decide +kernel) wd_6_21) <|
  ok_c (sn_aload_n (show decode cX9_laysTrues 17 = .ok (.aload_n 0, 1) by decide +kernel) rfl) <|
  ok_c (sn_iconst (v := 0) (show decode cX9_laysTrues 18 = .ok (.iconst 0, 1) by decide +kernel) (by decide +kernel)) <|
  ok_c (sn_putI ck_9 (by decide) rfl rfl (show decode cX9_laysTrues 19 = .ok (.putfield 454, 3) by decide +kernel) wd_6_22) <|
  ok_c (sn_iconst (v := 0) (show decode cX9_laysTrues 22 = .ok (.iconst 0, 1) by decide +kernel) (by decide +kernel)) <|
  ok_c (sn_istore_n (show decode cX9_laysTrues 23 = .ok (.istore_n 2, 1) by decide +kernel) rfl (by decide)) <|
  ok_c (sn_iload_n (show decode cX9_laysTrues 24 = .ok (.iload_n 2, 1) by decide +kernel) rfl) <|
  ok_c (sn_bipush (v := 30) (show decode cX9_laysTrues 25 = .ok (.bipush 30, 2) by decide +kernel) (by decide +kernel)) <|
  ok_c (sn_ic_ge (show decode cX9_laysTrues 27 = .ok (.if_icmp .ge 16, 3) by decide +kernel) (by decide)) <|
  ok_c (sn_aload_n (show decode cX9_laysTrues 30 = .ok (.aload_n 0, 1) by decide +kernel) rfl) <|
  ok_c (sn_getC (j := 48) (fun _ _ => rfl) (sn_get ck_9 (by decide) (show decode cX9_laysTrues 31 = .ok (.getfield 74, 3) by decide +kernel) wd_6_25)) <|
  ok_c (sn_iload_n (show decode cX9_laysTrues 34 = .ok (.iload_n 2, 1) by decide +kernel) rfl) <|
  ok_c (sn_iconst (v := 0) (show decode cX9_laysTrues 35 = .ok (.iconst 0, 1) by decide +kernel) (by decide +kernel)) <|
  ok_c (sn_iast (show decode cX9_laysTrues 36 = .ok (.iastore, 1) by decide +kernel)) <|
  ok_c (sn_iinc (show decode cX9_laysTrues 37 = .ok (.iinc 2 1, 3) by decide +kernel) (by decide) (by decide +kernel)) <|
  ok_c (sn_goto (show decode cX9_laysTrues 40 = .ok (.goto (-16), 3) by decide +kernel) (by decide)) <|
  ok_c (sn_iconst (v := 0) (show decode cX9_laysTrues 43 = .ok (.iconst 0, 1) by decide +kernel) (by decide +kernel)) <|
  ok_c (sn_istore_n (show decode cX9_laysTrues 44 = .ok (.istore_n 2, 1) by decide +kernel) rfl (by decide)) <|
  ok_c (sn_iload_n (show decode cX9_laysTrues 45 = .ok (.iload_n 2, 1) by decide +kernel) rfl) <|
  ok_c (sn_iconst (v := 1) (show decode cX9_laysTrues 46 = .ok (.iconst 1, 1) by decide +kernel) (by decide +kernel)) <|
  ok_c (sn_aload_n (show decode cX9_laysTrues 47 = .ok (.aload_n 0, 1) by decide +kernel) rfl) <|
  ok_c (sn_ishl (show decode cX9_laysTrues 51 = .ok (.ishl, 1) by decide +kernel)) <|
  ok_c (sn_ic_ge (show decode cX9_laysTrues 52 = .ok (.if_icmp .ge 122, 3) by decide +kernel) (by decide)) <|
  ok_c (sn_aload_n (show decode cX9_laysTrues 55 = .ok (.aload_n 0, 1) by decide +kernel) rfl) <|
  ok_c (sn_iload_n (show decode cX9_laysTrues 56 = .ok (.iload_n 2, 1) by decide +kernel) rfl) <|
  ok_c (sn_aload_n (show decode cX9_laysTrues 60 = .ok (.aload_n 0, 1) by decide +kernel) rfl) <|
  ok_c (sn_iload_n (show decode cX9_laysTrues 61 = .ok (.iload_n 1, 1) by decide +kernel) rfl) <|
  ok_c (sn_if_ne (show decode cX9_laysTrues 65 = .ok (.ifCond .ne 6, 3) by decide +kernel) (by decide)) <|
  ok_c (sn_goto (show decode cX9_laysTrues 68 = .ok (.goto 100, 3) by decide +kernel) (by decide)) <|
  ok_c (sn_aload_n (show decode cX9_laysTrues 71 = .ok (.aload_n 0, 1) by decide +kernel) rfl) <|
  ok_c (sn_dup (show decode cX9_laysTrues 72 = .ok (.dup, 1) by decide +kernel)) <|
  ok_c (sn_getI (fun _ _ => rfl) (sn_get ck_9 (by decide) (show decode cX9_laysTrues 73 = .ok (.getfield 448, 3) by decide +kernel) wd_6_20)) <|
  ok_c (sn_iconst (v := 1) (show decode cX9_laysTrues 76 = .ok (.iconst 1, 1) by decide +kernel) (by decide +kernel)) <|
  ok_c (sn_iadd (show decode cX9_laysTrues 77 = .ok (.iadd, 1) by decide +kernel)) <|
  ok_c (sn_putI ck_9 (by decide) rfl rfl (show decode cX9_laysTrues 78 = .ok (.putfield 448, 3) by decide +kernel) wd_6_20) <|
  ok_c (sn_aload_n (show decode cX9_laysTrues 81 = .ok (.aload_n 0, 1) by decide +kernel) rfl) <|
  ok_c (sn_dup (show decode cX9_laysTrues 82 = .ok (.dup, 1) by decide +kernel)) <|
  ok_c (sn_getI (fun _ _ => rfl) (sn_get ck_9 (by decide) (show decode cX9_laysTrues 83 = .ok (.getfield 451, 3) by decide +kernel) wd_6_21)) <|
  ok_c (sn_iload_n (show decode cX9_laysTrues 86 = .ok (.iload_n 2, 1) by decide +kernel) rfl) <|
  ok_c (sn_iand (show decode cX9_laysTrues 87 = .ok (.iand, 1) by decide +kernel)) <|
  ok_c (sn_putI ck_9 (by decide) rfl rfl (show decode cX9_laysTrues 88 = .ok (.putfield 451, 3) by decide +kernel) wd_6_21) <|
  ok_c (sn_aload_n (show decode cX9_laysTrues 91 = .ok (.aload_n 0, 1) by decide +kernel) rfl) <|
  ok_c (sn_dup (show decode cX9_laysTrues 92 = .ok (.dup, 1) by decide +kernel)) <|
  ok_c (sn_getI (fun _ _ => rfl) (sn_get ck_9 (by decide) (show decode cX9_laysTrues 93 = .ok (.getfield 454, 3) by decide +kernel) wd_6_22)) <|
  ok_c (sn_iload_n (show decode cX9_laysTrues 96 = .ok (.iload_n 2, 1) by decide +kernel) rfl) <|
  ok_c (sn_ior (show decode cX9_laysTrues 97 = .ok (.ior, 1) by decide +kernel)) <|
  ok_c (sn_putI ck_9 (by decide) rfl rfl (show decode cX9_laysTrues 98 = .ok (.putfield 454, 3) by decide +kernel) wd_6_22) <|
  ok_c (sn_iconst (v := 0) (show decode cX9_laysTrues 101 = .ok (.iconst 0, 1) by decide +kernel) (by decide +kernel)) <|
  ok_c (sn_istore_n (show decode cX9_laysTrues 102 = .ok (.istore_n 3, 1) by decide +kernel) rfl (by decide)) <|
  ok_c (sn_iload_n (show decode cX9_laysTrues 103 = .ok (.iload_n 3, 1) by decide +kernel) rfl) <|
  ok_c (sn_aload_n (show decode cX9_laysTrues 104 = .ok (.aload_n 0, 1) by decide +kernel) rfl) <|
  ok_c (sn_ic_ge (show decode cX9_laysTrues 108 = .ok (.if_icmp .ge 60, 3) by decide +kernel) (by decide)) <|
  ok_c (sn_iconst (v := 0) (show decode cX9_laysTrues 111 = .ok (.iconst 0, 1) by decide +kernel) (by decide +kernel)) <|
  ok_c (sn_istore (show decode cX9_laysTrues 112 = .ok (.istore 4, 2) by decide +kernel) (by decide)) <|
  ok_c (sn_iload (show decode cX9_laysTrues 114 = .ok (.iload 4, 2) by decide +kernel)) <|
  ok_c (sn_aload_n (show decode cX9_laysTrues 116 = .ok (.aload_n 0, 1) by decide +kernel) rfl) <|
  ok_c (sn_getC (j := 17) (fun _ _ => rfl) (sn_get ck_9 (by decide) (show decode cX9_laysTrues 117 = .ok (.getfield 34, 3) by decide +kernel) wd_5_234)) <|
  ok_c (sn_bipush (v := 6) (show decode cX9_laysTrues 120 = .ok (.bipush 6, 2) by decide +kernel) (by decide +kernel)) <|
  ok_c (sn_iald (show decode cX9_laysTrues 122 = .ok (.iaload, 1) by decide +kernel)) <|
  ok_c (sn_ic_ge (show decode cX9_laysTrues 123 = .ok (.if_icmp .ge 39, 3) by decide +kernel) (by decide)) <|
  ok_c (sn_aload_n (show decode cX9_laysTrues 126 = .ok (.aload_n 0, 1) by decide +kernel) rfl) <|
  ok_c (sn_getC (j := 48) (fun _ _ => rfl) (sn_get ck_9 (by decide) (show decode cX9_laysTrues 127 = .ok (.getfield 74, 3) by decide +kernel) wd_6_25)) <|
  ok_c (sn_iconst (v := 5) (show decode cX9_laysTrues 130 = .ok (.iconst 5, 1) by decide +kernel) (by decide +kernel)) <|
  ok_c (sn_iload_n (show decode cX9_laysTrues 131 = .ok (.iload_n 3, 1) by decide +kernel) rfl) <|
  ok_c (sn_imul (show decode cX9_laysTrues 132 = .ok (.imul, 1) by decide +kernel)) <|
  ok_c (sn_iload (show decode cX9_laysTrues 133 = .ok (.iload 4, 2) by decide +kernel)) <|
  ok_c (sn_iadd (show decode cX9_laysTrues 135 = .ok (.iadd, 1) by decide +kernel)) <|
  ok_c (sn_dup2 (show decode cX9_laysTrues 136 = .ok (.dup2, 1) by decide +kernel)) <|
  ok_c (sn_iald (show decode cX9_laysTrues 137 = .ok (.iaload, 1) by decide +kernel)) <|
  ok_c (sn_aload_n (show decode cX9_laysTrues 138 = .ok (.aload_n 0, 1) by decide +kernel) rfl) <|
  ok_c (sn_iload_n (show decode cX9_laysTrues 139 = .ok (.iload_n 3, 1) by decide +kernel) rfl) <|
  ok_c (sn_iload (show decode cX9_laysTrues 140 = .ok (.iload 4, 2) by decide +kernel)) <|
  ok_c (sn_iconst (v := 0) (show decode cX9_laysTrues 142 = .ok (.iconst 0, 1) by decide +kernel) (by decide +kernel)) <|
  ok_c (sn_if_eq (show decode cX9_laysTrues 146 = .ok (.ifCond .eq 7, 3) by decide +kernel) (by decide)) <|
  ok_c (sn_iconst (v := 1) (show decode cX9_laysTrues 149 = .ok (.iconst 1, 1) by decide +kernel) (by decide +kernel)) <|
  ok_c (sn_goto (show decode cX9_laysTrues 150 = .ok (.goto 4, 3) by decide +kernel) (by decide)) <|
  ok_c (sn_iconst (v := 0) (show decode cX9_laysTrues 153 = .ok (.iconst 0, 1) by decide +kernel) (by decide +kernel)) <|
  ok_c (sn_iadd (show decode cX9_laysTrues 154 = .ok (.iadd, 1) by decide +kernel)) <|
  ok_c (sn_iast (show decode cX9_laysTrues 155 = .ok (.iastore, 1) by decide +kernel)) <|
  ok_c (sn_iinc (show decode cX9_laysTrues 156 = .ok (.iinc 4 1, 3) by decide +kernel) (by decide) (by decide +kernel)) <|
  ok_c (sn_goto (show decode cX9_laysTrues 159 = .ok (.goto (-45), 3) by decide +kernel) (by decide)) <|
  ok_c (sn_iinc (show decode cX9_laysTrues 162 = .ok (.iinc 3 1, 3) by decide +kernel) (by decide) (by decide +kernel)) <|
  ok_c (sn_goto (show decode cX9_laysTrues 165 = .ok (.goto (-62), 3) by decide +kernel) (by decide)) <|
  ok_c (sn_iinc (show decode cX9_laysTrues 168 = .ok (.iinc 2 1, 3) by decide +kernel) (by decide) (by decide +kernel)) <|
  ok_c (sn_goto (show decode cX9_laysTrues 171 = .ok (.goto (-126), 3) by decide +kernel) (by decide)) <|
  ok_c (sn_aload_n (show decode cX9_laysTrues 174 = .ok (.aload_n 0, 1) by decide +kernel) rfl) <|
  ok_c (sn_iconst (v := (-1)) (show decode cX9_laysTrues 175 = .ok (.iconst (-1), 1) by decide +kernel) (by decide +kernel)) <|
  ok_c (sn_putI ck_9 (by decide) rfl rfl (show decode cX9_laysTrues 176 = .ok (.putfield 463, 3) by decide +kernel) wd_6_23) <|
  ok_c (sn_aload_n (show decode cX9_laysTrues 179 = .ok (.aload_n 0, 1) by decide +kernel) rfl) <|
  ok_c (sn_aload_n (show decode cX9_laysTrues 180 = .ok (.aload_n 0, 1) by decide +kernel) rfl) <|
  ok_c (sn_getI (fun _ _ => rfl) (sn_get ck_9 (by decide) (show decode cX9_laysTrues 181 = .ok (.getfield 448, 3) by decide +kernel) wd_6_20)) <|
  ok_c (sn_putI ck_9 (by decide) rfl rfl (show decode cX9_laysTrues 184 = .ok (.putfield 466, 3) by decide +kernel) wd_6_24) <|
  ok_c (sn_iconst (v := 0) (show decode cX9_laysTrues 187 = .ok (.iconst 0, 1) by decide +kernel) (by decide +kernel)) <|
  ok_c (sn_istore_n (show decode cX9_laysTrues 188 = .ok (.istore_n 2, 1) by decide +kernel) rfl (by decide)) <|
  ok_c (sn_iload_n (show decode cX9_laysTrues 189 = .ok (.iload_n 2, 1) by decide +kernel) rfl) <|
  ok_c (sn_aload_n (show decode cX9_laysTrues 190 = .ok (.aload_n 0, 1) by decide +kernel) rfl) <|
  ok_c (sn_ic_ge (show decode cX9_laysTrues 194 = .ok (.if_icmp .ge 94, 3) by decide +kernel) (by decide)) <|
  ok_c (sn_iconst (v := 0) (show decode cX9_laysTrues 197 = .ok (.iconst 0, 1) by decide +kernel) (by decide +kernel)) <|
  ok_c (sn_istore_n (show decode cX9_laysTrues 198 = .ok (.istore_n 3, 1) by decide +kernel) rfl (by decide)) <|
  ok_c (sn_iload_n (show decode cX9_laysTrues 199 = .ok (.iload_n 3, 1) by decide +kernel) rfl) <|
  ok_c (sn_aload_n (show decode cX9_laysTrues 200 = .ok (.aload_n 0, 1) by decide +kernel) rfl) <|
  ok_c (sn_getC (j := 17) (fun _ _ => rfl) (sn_get ck_9 (by decide) (show decode cX9_laysTrues 201 = .ok (.getfield 34, 3) by decide +kernel) wd_5_234)) <|
  ok_c (sn_bipush (v := 6) (show decode cX9_laysTrues 204 = .ok (.bipush 6, 2) by decide +kernel) (by decide +kernel)) <|
  ok_c (sn_iald (show decode cX9_laysTrues 206 = .ok (.iaload, 1) by decide +kernel)) <|
  ok_c (sn_ic_ge (show decode cX9_laysTrues 207 = .ok (.if_icmp .ge 75, 3) by decide +kernel) (by decide)) <|
  ok_c (sn_aload_n (show decode cX9_laysTrues 210 = .ok (.aload_n 0, 1) by decide +kernel) rfl) <|
  ok_c (sn_getC (j := 48) (fun _ _ => rfl) (sn_get ck_9 (by decide) (show decode cX9_laysTrues 211 = .ok (.getfield 74, 3) by decide +kernel) wd_6_25)) <|
  ok_c (sn_iconst (v := 5) (show decode cX9_laysTrues 214 = .ok (.iconst 5, 1) by decide +kernel) (by decide +kernel)) <|
  ok_c (sn_iload_n (show decode cX9_laysTrues 215 = .ok (.iload_n 2, 1) by decide +kernel) rfl) <|
  ok_c (sn_imul (show decode cX9_laysTrues 216 = .ok (.imul, 1) by decide +kernel)) <|
  ok_c (sn_iload_n (show decode cX9_laysTrues 217 = .ok (.iload_n 3, 1) by decide +kernel) rfl) <|
  ok_c (sn_iadd (show decode cX9_laysTrues 218 = .ok (.iadd, 1) by decide +kernel)) <|
  ok_c (sn_iald (show decode cX9_laysTrues 219 = .ok (.iaload, 1) by decide +kernel)) <|
  ok_c (sn_istore (show decode cX9_laysTrues 220 = .ok (.istore 4, 2) by decide +kernel) (by decide)) <|
  ok_c (sn_iload (show decode cX9_laysTrues 222 = .ok (.iload 4, 2) by decide +kernel)) <|
  ok_c (sn_aload_n (show decode cX9_laysTrues 224 = .ok (.aload_n 0, 1) by decide +kernel) rfl) <|
  ok_c (sn_getI (fun _ _ => rfl) (sn_get ck_9 (by decide) (show decode cX9_laysTrues 225 = .ok (.getfield 448, 3) by decide +kernel) wd_6_20)) <|
  ok_c (sn_iload (show decode cX9_laysTrues 228 = .ok (.iload 4, 2) by decide +kernel)) <|
  ok_c (sn_isub (show decode cX9_laysTrues 230 = .ok (.isub, 1) by decide +kernel)) <|
  ok_c (sn_ic_le (show decode cX9_laysTrues 231 = .ok (.if_icmp .le 8, 3) by decide +kernel) (by decide)) <|
  ok_c (sn_iload (show decode cX9_laysTrues 234 = .ok (.iload 4, 2) by decide +kernel)) <|
  ok_c (sn_goto (show decode cX9_laysTrues 236 = .ok (.goto 10, 3) by decide +kernel) (by decide)) <|
  ok_c (sn_aload_n (show decode cX9_laysTrues 239 = .ok (.aload_n 0, 1) by decide +kernel) rfl) <|
  ok_c (sn_getI (fun _ _ => rfl) (sn_get ck_9 (by decide) (show decode cX9_laysTrues 240 = .ok (.getfield 448, 3) by decide +kernel) wd_6_20)) <|
  ok_c (sn_iload (show decode cX9_laysTrues 243 = .ok (.iload 4, 2) by decide +kernel)) <|
  ok_c (sn_isub (show decode cX9_laysTrues 245 = .ok (.isub, 1) by decide +kernel)) <|
  ok_c (sn_istore (show decode cX9_laysTrues 246 = .ok (.istore 5, 2) by decide +kernel) (by decide)) <|
  ok_c (sn_iload (show decode cX9_laysTrues 248 = .ok (.iload 5, 2) by decide +kernel)) <|
  ok_c (sn_aload_n (show decode cX9_laysTrues 250 = .ok (.aload_n 0, 1) by decide +kernel) rfl) <|
  ok_c (sn_getI (fun _ _ => rfl) (sn_get ck_9 (by decide) (show decode cX9_laysTrues 251 = .ok (.getfield 466, 3) by decide +kernel) wd_6_24)) <|
  ok_c (sn_ic_lt (show decode cX9_laysTrues 254 = .ok (.if_icmp .lt 6, 3) by decide +kernel) (by decide)) <|
  ok_c (sn_goto (show decode cX9_laysTrues 257 = .ok (.goto 19, 3) by decide +kernel) (by decide)) <|
  ok_c (sn_aload_n (show decode cX9_laysTrues 260 = .ok (.aload_n 0, 1) by decide +kernel) rfl) <|
  ok_c (sn_bipush (v := 10) (show decode cX9_laysTrues 261 = .ok (.bipush 10, 2) by decide +kernel) (by decide +kernel)) <|
  ok_c (sn_iload_n (show decode cX9_laysTrues 263 = .ok (.iload_n 2, 1) by decide +kernel) rfl) <|
  ok_c (sn_imul (show decode cX9_laysTrues 264 = .ok (.imul, 1) by decide +kernel)) <|
  ok_c (sn_iload_n (show decode cX9_laysTrues 265 = .ok (.iload_n 3, 1) by decide +kernel) rfl) <|
  ok_c (sn_iadd (show decode cX9_laysTrues 266 = .ok (.iadd, 1) by decide +kernel)) <|
  ok_c (sn_putI ck_9 (by decide) rfl rfl (show decode cX9_laysTrues 267 = .ok (.putfield 463, 3) by decide +kernel) wd_6_23) <|
  ok_c (sn_aload_n (show decode cX9_laysTrues 270 = .ok (.aload_n 0, 1) by decide +kernel) rfl) <|
  ok_c (sn_iload (show decode cX9_laysTrues 271 = .ok (.iload 5, 2) by decide +kernel)) <|
  ok_c (sn_putI ck_9 (by decide) rfl rfl (show decode cX9_laysTrues 273 = .ok (.putfield 466, 3) by decide +kernel) wd_6_24) <|
  ok_c (sn_iinc (show decode cX9_laysTrues 276 = .ok (.iinc 3 1, 3) by decide +kernel) (by decide) (by decide +kernel)) <|
  ok_c (sn_goto (show decode cX9_laysTrues 279 = .ok (.goto (-80), 3) by decide +kernel) (by decide)) <|
  ok_c (sn_iinc (show decode cX9_laysTrues 282 = .ok (.iinc 2 1, 3) by decide +kernel) (by decide) (by decide +kernel)) <|
  ok_c (sn_goto (show decode cX9_laysTrues 285 = .ok (.goto (-96), 3) by decide +kernel) (by decide)) <|
  ok_n
def uX9_laysTrues : gCT := [(8, YX9_joins, 1, some 9), (48, YX9_joins, 1, some 9), (57, YX9_laysTrue, 2, some 9), (62, YX9_isSo, 2, some 9), (105, YX9_people, 1, some 9), (143, YX9_goesThrough, 4, some 9), (191, YX9_people, 1, some 9)]
set_option maxRecDepth 100000 in
theorem ocX9_laysTrues : gOkC YX9_laysTrues uX9_laysTrues := oc_c (gEdge_V cal_X9_joins ck_9 rfl (show decode cX9_laysTrues 8 = .ok (.invokevirtual 250, 3) by decide +kernel) wd_7_63 wd_7_65 wp_5_8) <|
  oc_c (gEdge_V cal_X9_joins ck_9 rfl (show decode cX9_laysTrues 48 = .ok (.invokevirtual 250, 3) by decide +kernel) wd_7_63 wd_7_65 wp_5_8) <|
  oc_c (gEdge_V cal_X9_laysTrue ck_9 rfl (show decode cX9_laysTrues 57 = .ok (.invokevirtual 457, 3) by decide +kernel) wd_8_162 wd_8_164 wp_8_5) <|
  oc_c (gEdge_V cal_X9_isSo ck_9 rfl (show decode cX9_laysTrues 62 = .ok (.invokevirtual 460, 3) by decide +kernel) wd_8_166 wd_8_168 wp_8_6) <|
  oc_c (gEdge_V cal_X9_people ck_9 rfl (show decode cX9_laysTrues 105 = .ok (.invokevirtual 244, 3) by decide +kernel) wd_7_50 wd_7_52 wp_5_6) <|
  oc_c (gEdge_V cal_X9_goesThrough ck_9 rfl (show decode cX9_laysTrues 143 = .ok (.invokevirtual 372, 3) by decide +kernel) wd_7_205 wd_7_207 wp_7_3) <|
  oc_c (gEdge_V cal_X9_people ck_9 rfl (show decode cX9_laysTrues 191 = .ok (.invokevirtual 244, 3) by decide +kernel) wd_7_50 wd_7_52 wp_5_6) <|
  oc_n
theorem reX9_laysTrues : ∀ pc ∈ [288], decode cX9_laysTrues pc = .ok (.return_, 1) := by decide +kernel
def tX9_trues : List (Nat × gStp) := [(0, i_aload 0 1), (1, i_push (.int 0) 2), (2, i_putI 9 0 5), (5, i_aload 0 6), (6, i_iload 1 7), (10, i_istore 2 11), (11, i_iload 2 12), (12, i_if_eq 17 15), (15, i_iload 2 16), (17, i_aload 0 18), (18, i_iload 1 19), (22, i_aload 0 23), (23, i_getI 9 43 26)]
set_option maxRecDepth 100000 in
theorem okX9_trues : gOk YX9_trues tX9_trues := ok_c (sn_aload_n (show decode cX9_trues 0 = .ok (.aload_n 0, 1) by decide +kernel) rfl) <|
  ok_c (sn_iconst (v := 0) (show decode cX9_trues 1 = .ok (.iconst 0, 1) by decide +kernel) (by decide +kernel)) <|
  ok_c (sn_putI ck_9 (by decide) rfl rfl (show decode cX9_trues 2 = .ok (.putfield 77, 3) by decide +kernel) wd_5_217) <|
  ok_c (sn_aload_n (show decode cX9_trues 5 = .ok (.aload_n 0, 1) by decide +kernel) rfl) <|
  ok_c (sn_iload_n (show decode cX9_trues 6 = .ok (.iload_n 1, 1) by decide +kernel) rfl) <|
  ok_c (sn_istore_n (show decode cX9_trues 10 = .ok (.istore_n 2, 1) by decide +kernel) rfl (by decide)) <|
  ok_c (sn_iload_n (show decode cX9_trues 11 = .ok (.iload_n 2, 1) by decide +kernel) rfl) <|
  ok_c (sn_if_eq (show decode cX9_trues 12 = .ok (.ifCond .eq 5, 3) by decide +kernel) (by decide)) <|
  ok_c (sn_iload_n (show decode cX9_trues 15 = .ok (.iload_n 2, 1) by decide +kernel) rfl) <|
  ok_c (sn_aload_n (show decode cX9_trues 17 = .ok (.aload_n 0, 1) by decide +kernel) rfl) <|
  ok_c (sn_iload_n (show decode cX9_trues 18 = .ok (.iload_n 1, 1) by decide +kernel) rfl) <|
  ok_c (sn_aload_n (show decode cX9_trues 22 = .ok (.aload_n 0, 1) by decide +kernel) rfl) <|
  ok_c (sn_getI (fun _ _ => rfl) (sn_get ck_9 (by decide) (show decode cX9_trues 23 = .ok (.getfield 448, 3) by decide +kernel) wd_6_20)) <|
  ok_n
def uX9_trues : gCT := [(7, YX9_whyNot, 2, some 9), (19, YX9_laysTrues, 2, some 9)]
set_option maxRecDepth 100000 in
theorem ocX9_trues : gOkC YX9_trues uX9_trues := oc_c (gEdge_V cal_X9_whyNot ck_9 rfl (show decode cX9_trues 7 = .ok (.invokevirtual 469, 3) by decide +kernel) wd_8_154 wd_8_156 wp_8_3) <|
  oc_c (gEdge_V cal_X9_laysTrues ck_9 rfl (show decode cX9_trues 19 = .ok (.invokevirtual 472, 3) by decide +kernel) wd_8_158 wd_8_160 wp_8_4) <|
  oc_n
theorem reX9_trues : ∀ pc ∈ [16, 26], decode cX9_trues pc = .ok (.ireturn, 1) := by decide +kernel
def tX9_surely : List (Nat × gStp) := [(0, i_aload 0 1), (1, i_push (.int 0) 2), (2, i_putI 9 0 5), (5, i_aload 0 6), (6, i_iload 1 7), (10, i_istore 2 11), (11, i_iload 2 12), (12, i_if_eq 17 15), (15, i_iload 2 16), (17, i_aload 0 18), (18, i_iload 1 19), (22, i_aload 0 23), (23, i_getI 9 43 26), (26, i_if_ne 33 29), (29, i_push (.int (-1)) 30), (30, i_goto 37), (33, i_aload 0 34), (34, i_getI 9 44 37)]
set_option maxRecDepth 100000 in
theorem okX9_surely : gOk YX9_surely tX9_surely := ok_c (sn_aload_n (show decode cX9_surely 0 = .ok (.aload_n 0, 1) by decide +kernel) rfl) <|
  ok_c (sn_iconst (v := 0) (show decode cX9_surely 1 = .ok (.iconst 0, 1) by decide +kernel) (by decide +kernel)) <|
  ok_c (sn_putI ck_9 (by decide) rfl rfl (show decode cX9_surely 2 = .ok (.putfield 77, 3) by decide +kernel) wd_5_217) <|
  ok_c (sn_aload_n (show decode cX9_surely 5 = .ok (.aload_n 0, 1) by decide +kernel) rfl) <|
  ok_c (sn_iload_n (show decode cX9_surely 6 = .ok (.iload_n 1, 1) by decide +kernel) rfl) <|
  ok_c (sn_istore_n (show decode cX9_surely 10 = .ok (.istore_n 2, 1) by decide +kernel) rfl (by decide)) <|
  ok_c (sn_iload_n (show decode cX9_surely 11 = .ok (.iload_n 2, 1) by decide +kernel) rfl) <|
  ok_c (sn_if_eq (show decode cX9_surely 12 = .ok (.ifCond .eq 5, 3) by decide +kernel) (by decide)) <|
  ok_c (sn_iload_n (show decode cX9_surely 15 = .ok (.iload_n 2, 1) by decide +kernel) rfl) <|
  ok_c (sn_aload_n (show decode cX9_surely 17 = .ok (.aload_n 0, 1) by decide +kernel) rfl) <|
  ok_c (sn_iload_n (show decode cX9_surely 18 = .ok (.iload_n 1, 1) by decide +kernel) rfl) <|
  ok_c (sn_aload_n (show decode cX9_surely 22 = .ok (.aload_n 0, 1) by decide +kernel) rfl) <|
  ok_c (sn_getI (fun _ _ => rfl) (sn_get ck_9 (by decide) (show decode cX9_surely 23 = .ok (.getfield 448, 3) by decide +kernel) wd_6_20)) <|
  ok_c (sn_if_ne (show decode cX9_surely 26 = .ok (.ifCond .ne 7, 3) by decide +kernel) (by decide)) <|
  ok_c (sn_iconst (v := (-1)) (show decode cX9_surely 29 = .ok (.iconst (-1), 1) by decide +kernel) (by decide +kernel)) <|
  ok_c (sn_goto (show decode cX9_surely 30 = .ok (.goto 7, 3) by decide +kernel) (by decide)) <|
  ok_c (sn_aload_n (show decode cX9_surely 33 = .ok (.aload_n 0, 1) by decide +kernel) rfl) <|
  ok_c (sn_getI (fun _ _ => rfl) (sn_get ck_9 (by decide) (show decode cX9_surely 34 = .ok (.getfield 451, 3) by decide +kernel) wd_6_21)) <|
  ok_n
def uX9_surely : gCT := [(7, YX9_whyNot, 2, some 9), (19, YX9_laysTrues, 2, some 9)]
set_option maxRecDepth 100000 in
theorem ocX9_surely : gOkC YX9_surely uX9_surely := oc_c (gEdge_V cal_X9_whyNot ck_9 rfl (show decode cX9_surely 7 = .ok (.invokevirtual 469, 3) by decide +kernel) wd_8_154 wd_8_156 wp_8_3) <|
  oc_c (gEdge_V cal_X9_laysTrues ck_9 rfl (show decode cX9_surely 19 = .ok (.invokevirtual 472, 3) by decide +kernel) wd_8_158 wd_8_160 wp_8_4) <|
  oc_n
theorem reX9_surely : ∀ pc ∈ [16, 37], decode cX9_surely pc = .ok (.ireturn, 1) := by decide +kernel
def tX9_never : List (Nat × gStp) := [(0, i_aload 0 1), (1, i_push (.int 0) 2), (2, i_putI 9 0 5), (5, i_aload 0 6), (6, i_iload 1 7), (10, i_istore 2 11), (11, i_iload 2 12), (12, i_if_eq 17 15), (15, i_iload 2 16), (17, i_aload 0 18), (18, i_iload 1 19), (22, i_aload 0 23), (23, i_getI 9 43 26), (26, i_if_ne 33 29), (29, i_push (.int (-1)) 30), (30, i_goto 48), (33, i_push (.int 1) 34), (34, i_aload 0 35), (38, i_ii (fun x y => x <<< (y &&& 31)) 39), (39, i_push (.int 1) 40), (40, i_ii (fun x y => x - y) 41), (41, i_aload 0 42), (42, i_getI 9 45 45), (45, i_push (.int (-1)) 46), (46, i_ii (fun x y => x ^^^ y) 47), (47, i_ii (fun x y => x &&& y) 48)]
set_option maxRecDepth 100000 in
theorem okX9_never : gOk YX9_never tX9_never := ok_c (sn_aload_n (show decode cX9_never 0 = .ok (.aload_n 0, 1) by decide +kernel) rfl) <|
  ok_c (sn_iconst (v := 0) (show decode cX9_never 1 = .ok (.iconst 0, 1) by decide +kernel) (by decide +kernel)) <|
  ok_c (sn_putI ck_9 (by decide) rfl rfl (show decode cX9_never 2 = .ok (.putfield 77, 3) by decide +kernel) wd_5_217) <|
  ok_c (sn_aload_n (show decode cX9_never 5 = .ok (.aload_n 0, 1) by decide +kernel) rfl) <|
  ok_c (sn_iload_n (show decode cX9_never 6 = .ok (.iload_n 1, 1) by decide +kernel) rfl) <|
  ok_c (sn_istore_n (show decode cX9_never 10 = .ok (.istore_n 2, 1) by decide +kernel) rfl (by decide)) <|
  ok_c (sn_iload_n (show decode cX9_never 11 = .ok (.iload_n 2, 1) by decide +kernel) rfl) <|
  ok_c (sn_if_eq (show decode cX9_never 12 = .ok (.ifCond .eq 5, 3) by decide +kernel) (by decide)) <|
  ok_c (sn_iload_n (show decode cX9_never 15 = .ok (.iload_n 2, 1) by decide +kernel) rfl) <|
  ok_c (sn_aload_n (show decode cX9_never 17 = .ok (.aload_n 0, 1) by decide +kernel) rfl) <|
  ok_c (sn_iload_n (show decode cX9_never 18 = .ok (.iload_n 1, 1) by decide +kernel) rfl) <|
  ok_c (sn_aload_n (show decode cX9_never 22 = .ok (.aload_n 0, 1) by decide +kernel) rfl) <|
  ok_c (sn_getI (fun _ _ => rfl) (sn_get ck_9 (by decide) (show decode cX9_never 23 = .ok (.getfield 448, 3) by decide +kernel) wd_6_20)) <|
  ok_c (sn_if_ne (show decode cX9_never 26 = .ok (.ifCond .ne 7, 3) by decide +kernel) (by decide)) <|
  ok_c (sn_iconst (v := (-1)) (show decode cX9_never 29 = .ok (.iconst (-1), 1) by decide +kernel) (by decide +kernel)) <|
  ok_c (sn_goto (show decode cX9_never 30 = .ok (.goto 18, 3) by decide +kernel) (by decide)) <|
  ok_c (sn_iconst (v := 1) (show decode cX9_never 33 = .ok (.iconst 1, 1) by decide +kernel) (by decide +kernel)) <|
  ok_c (sn_aload_n (show decode cX9_never 34 = .ok (.aload_n 0, 1) by decide +kernel) rfl) <|
  ok_c (sn_ishl (show decode cX9_never 38 = .ok (.ishl, 1) by decide +kernel)) <|
  ok_c (sn_iconst (v := 1) (show decode cX9_never 39 = .ok (.iconst 1, 1) by decide +kernel) (by decide +kernel)) <|
  ok_c (sn_isub (show decode cX9_never 40 = .ok (.isub, 1) by decide +kernel)) <|
  ok_c (sn_aload_n (show decode cX9_never 41 = .ok (.aload_n 0, 1) by decide +kernel) rfl) <|
  ok_c (sn_getI (fun _ _ => rfl) (sn_get ck_9 (by decide) (show decode cX9_never 42 = .ok (.getfield 454, 3) by decide +kernel) wd_6_22)) <|
  ok_c (sn_iconst (v := (-1)) (show decode cX9_never 45 = .ok (.iconst (-1), 1) by decide +kernel) (by decide +kernel)) <|
  ok_c (sn_ixor (show decode cX9_never 46 = .ok (.ixor, 1) by decide +kernel)) <|
  ok_c (sn_iand (show decode cX9_never 47 = .ok (.iand, 1) by decide +kernel)) <|
  ok_n
def uX9_never : gCT := [(7, YX9_whyNot, 2, some 9), (19, YX9_laysTrues, 2, some 9), (35, YX9_joins, 1, some 9)]
set_option maxRecDepth 100000 in
theorem ocX9_never : gOkC YX9_never uX9_never := oc_c (gEdge_V cal_X9_whyNot ck_9 rfl (show decode cX9_never 7 = .ok (.invokevirtual 469, 3) by decide +kernel) wd_8_154 wd_8_156 wp_8_3) <|
  oc_c (gEdge_V cal_X9_laysTrues ck_9 rfl (show decode cX9_never 19 = .ok (.invokevirtual 472, 3) by decide +kernel) wd_8_158 wd_8_160 wp_8_4) <|
  oc_c (gEdge_V cal_X9_joins ck_9 rfl (show decode cX9_never 35 = .ok (.invokevirtual 250, 3) by decide +kernel) wd_7_63 wd_7_65 wp_5_8) <|
  oc_n
theorem reX9_never : ∀ pc ∈ [16, 48], decode cX9_never pc = .ok (.ireturn, 1) := by decide +kernel
def tX9_ask : List (Nat × gStp) := [(0, i_aload 0 1), (1, i_push (.int 0) 2), (2, i_putI 9 0 5), (5, i_aload 0 6), (6, i_iload 1 7), (10, i_istore 2 11), (11, i_iload 2 12), (12, i_if_eq 17 15), (15, i_iload 2 16), (17, i_aload 0 18), (18, i_iload 1 19), (22, i_aload 0 23), (23, i_getI 9 46 26)]
set_option maxRecDepth 100000 in
theorem okX9_ask : gOk YX9_ask tX9_ask := ok_c (sn_aload_n (show decode cX9_ask 0 = .ok (.aload_n 0, 1) by decide +kernel) rfl) <|
  ok_c (sn_iconst (v := 0) (show decode cX9_ask 1 = .ok (.iconst 0, 1) by decide +kernel) (by decide +kernel)) <|
  ok_c (sn_putI ck_9 (by decide) rfl rfl (show decode cX9_ask 2 = .ok (.putfield 77, 3) by decide +kernel) wd_5_217) <|
  ok_c (sn_aload_n (show decode cX9_ask 5 = .ok (.aload_n 0, 1) by decide +kernel) rfl) <|
  ok_c (sn_iload_n (show decode cX9_ask 6 = .ok (.iload_n 1, 1) by decide +kernel) rfl) <|
  ok_c (sn_istore_n (show decode cX9_ask 10 = .ok (.istore_n 2, 1) by decide +kernel) rfl (by decide)) <|
  ok_c (sn_iload_n (show decode cX9_ask 11 = .ok (.iload_n 2, 1) by decide +kernel) rfl) <|
  ok_c (sn_if_eq (show decode cX9_ask 12 = .ok (.ifCond .eq 5, 3) by decide +kernel) (by decide)) <|
  ok_c (sn_iload_n (show decode cX9_ask 15 = .ok (.iload_n 2, 1) by decide +kernel) rfl) <|
  ok_c (sn_aload_n (show decode cX9_ask 17 = .ok (.aload_n 0, 1) by decide +kernel) rfl) <|
  ok_c (sn_iload_n (show decode cX9_ask 18 = .ok (.iload_n 1, 1) by decide +kernel) rfl) <|
  ok_c (sn_aload_n (show decode cX9_ask 22 = .ok (.aload_n 0, 1) by decide +kernel) rfl) <|
  ok_c (sn_getI (fun _ _ => rfl) (sn_get ck_9 (by decide) (show decode cX9_ask 23 = .ok (.getfield 463, 3) by decide +kernel) wd_6_23)) <|
  ok_n
def uX9_ask : gCT := [(7, YX9_whyNot, 2, some 9), (19, YX9_laysTrues, 2, some 9)]
set_option maxRecDepth 100000 in
theorem ocX9_ask : gOkC YX9_ask uX9_ask := oc_c (gEdge_V cal_X9_whyNot ck_9 rfl (show decode cX9_ask 7 = .ok (.invokevirtual 469, 3) by decide +kernel) wd_8_154 wd_8_156 wp_8_3) <|
  oc_c (gEdge_V cal_X9_laysTrues ck_9 rfl (show decode cX9_ask 19 = .ok (.invokevirtual 472, 3) by decide +kernel) wd_8_158 wd_8_160 wp_8_4) <|
  oc_n
theorem reX9_ask : ∀ pc ∈ [16, 26], decode cX9_ask pc = .ok (.ireturn, 1) := by decide +kernel
def tX9_leaves : List (Nat × gStp) := [(0, i_aload 0 1), (1, i_push (.int 0) 2), (2, i_putI 9 0 5), (5, i_aload 0 6), (6, i_iload 1 7), (10, i_istore 2 11), (11, i_iload 2 12), (12, i_if_eq 17 15), (15, i_iload 2 16), (17, i_aload 0 18), (18, i_iload 1 19), (22, i_aload 0 23), (23, i_getI 9 47 26)]
set_option maxRecDepth 100000 in
theorem okX9_leaves : gOk YX9_leaves tX9_leaves := ok_c (sn_aload_n (show decode cX9_leaves 0 = .ok (.aload_n 0, 1) by decide +kernel) rfl) <|
  ok_c (sn_iconst (v := 0) (show decode cX9_leaves 1 = .ok (.iconst 0, 1) by decide +kernel) (by decide +kernel)) <|
  ok_c (sn_putI ck_9 (by decide) rfl rfl (show decode cX9_leaves 2 = .ok (.putfield 77, 3) by decide +kernel) wd_5_217) <|
  ok_c (sn_aload_n (show decode cX9_leaves 5 = .ok (.aload_n 0, 1) by decide +kernel) rfl) <|
  ok_c (sn_iload_n (show decode cX9_leaves 6 = .ok (.iload_n 1, 1) by decide +kernel) rfl) <|
  ok_c (sn_istore_n (show decode cX9_leaves 10 = .ok (.istore_n 2, 1) by decide +kernel) rfl (by decide)) <|
  ok_c (sn_iload_n (show decode cX9_leaves 11 = .ok (.iload_n 2, 1) by decide +kernel) rfl) <|
  ok_c (sn_if_eq (show decode cX9_leaves 12 = .ok (.ifCond .eq 5, 3) by decide +kernel) (by decide)) <|
  ok_c (sn_iload_n (show decode cX9_leaves 15 = .ok (.iload_n 2, 1) by decide +kernel) rfl) <|
  ok_c (sn_aload_n (show decode cX9_leaves 17 = .ok (.aload_n 0, 1) by decide +kernel) rfl) <|
  ok_c (sn_iload_n (show decode cX9_leaves 18 = .ok (.iload_n 1, 1) by decide +kernel) rfl) <|
  ok_c (sn_aload_n (show decode cX9_leaves 22 = .ok (.aload_n 0, 1) by decide +kernel) rfl) <|
  ok_c (sn_getI (fun _ _ => rfl) (sn_get ck_9 (by decide) (show decode cX9_leaves 23 = .ok (.getfield 466, 3) by decide +kernel) wd_6_24)) <|
  ok_n
def uX9_leaves : gCT := [(7, YX9_whyNot, 2, some 9), (19, YX9_laysTrues, 2, some 9)]
set_option maxRecDepth 100000 in
theorem ocX9_leaves : gOkC YX9_leaves uX9_leaves := oc_c (gEdge_V cal_X9_whyNot ck_9 rfl (show decode cX9_leaves 7 = .ok (.invokevirtual 469, 3) by decide +kernel) wd_8_154 wd_8_156 wp_8_3) <|
  oc_c (gEdge_V cal_X9_laysTrues ck_9 rfl (show decode cX9_leaves 19 = .ok (.invokevirtual 472, 3) by decide +kernel) wd_8_158 wd_8_160 wp_8_4) <|
  oc_n
theorem reX9_leaves : ∀ pc ∈ [16, 26], decode cX9_leaves pc = .ok (.ireturn, 1) := by decide +kernel
def tX9_laws : List (Nat × gStp) := [(0, i_aload 0 1), (1, i_push (.int 0) 2), (2, i_putI 9 0 5), (5, i_aload 0 6), (6, i_iload 1 7), (10, i_istore 2 11), (11, i_iload 2 12), (12, i_if_eq 17 15), (15, i_iload 2 16), (17, i_push (.int 0) 18), (18, i_istore 3 19), (19, i_push (.int 0) 20), (20, i_istore 4 22), (22, i_iload 4 24), (24, i_push (.int 4) 25), (25, i_ic_ge 71 28), (28, i_aload 0 29), (29, i_push (.int 1) 30), (30, i_aload 0 31), (34, i_ii (fun x y => x <<< (y &&& 31)) 35), (35, i_push (.int 1) 36), (36, i_ii (fun x y => x - y) 37), (40, i_aload 0 41), (41, i_iload 4 43), (43, i_putI 9 24 46), (46, i_iload 3 47), (47, i_aload 0 48), (48, i_iload 1 49), (52, i_if_eq 62 55), (55, i_push (.int 1) 56), (56, i_iload 4 58), (58, i_ii (fun x y => x <<< (y &&& 31)) 59), (59, i_goto 63), (62, i_push (.int 0) 63), (63, i_ii (fun x y => x ||| y) 64), (64, i_istore 3 65), (65, i_iinc 4 1 68), (68, i_goto 22), (71, i_iload 3 72)]
set_option maxRecDepth 100000 in
theorem okX9_laws : gOk YX9_laws tX9_laws := ok_c (sn_aload_n (show decode cX9_laws 0 = .ok (.aload_n 0, 1) by decide +kernel) rfl) <|
  ok_c (sn_iconst (v := 0) (show decode cX9_laws 1 = .ok (.iconst 0, 1) by decide +kernel) (by decide +kernel)) <|
  ok_c (sn_putI ck_9 (by decide) rfl rfl (show decode cX9_laws 2 = .ok (.putfield 77, 3) by decide +kernel) wd_5_217) <|
  ok_c (sn_aload_n (show decode cX9_laws 5 = .ok (.aload_n 0, 1) by decide +kernel) rfl) <|
  ok_c (sn_iload_n (show decode cX9_laws 6 = .ok (.iload_n 1, 1) by decide +kernel) rfl) <|
  ok_c (sn_istore_n (show decode cX9_laws 10 = .ok (.istore_n 2, 1) by decide +kernel) rfl (by decide)) <|
  ok_c (sn_iload_n (show decode cX9_laws 11 = .ok (.iload_n 2, 1) by decide +kernel) rfl) <|
  ok_c (sn_if_eq (show decode cX9_laws 12 = .ok (.ifCond .eq 5, 3) by decide +kernel) (by decide)) <|
  ok_c (sn_iload_n (show decode cX9_laws 15 = .ok (.iload_n 2, 1) by decide +kernel) rfl) <|
  ok_c (sn_iconst (v := 0) (show decode cX9_laws 17 = .ok (.iconst 0, 1) by decide +kernel) (by decide +kernel)) <|
  ok_c (sn_istore_n (show decode cX9_laws 18 = .ok (.istore_n 3, 1) by decide +kernel) rfl (by decide)) <|
  ok_c (sn_iconst (v := 0) (show decode cX9_laws 19 = .ok (.iconst 0, 1) by decide +kernel) (by decide +kernel)) <|
  ok_c (sn_istore (show decode cX9_laws 20 = .ok (.istore 4, 2) by decide +kernel) (by decide)) <|
  ok_c (sn_iload (show decode cX9_laws 22 = .ok (.iload 4, 2) by decide +kernel)) <|
  ok_c (sn_iconst (v := 4) (show decode cX9_laws 24 = .ok (.iconst 4, 1) by decide +kernel) (by decide +kernel)) <|
  ok_c (sn_ic_ge (show decode cX9_laws 25 = .ok (.if_icmp .ge 46, 3) by decide +kernel) (by decide)) <|
  ok_c (sn_aload_n (show decode cX9_laws 28 = .ok (.aload_n 0, 1) by decide +kernel) rfl) <|
  ok_c (sn_iconst (v := 1) (show decode cX9_laws 29 = .ok (.iconst 1, 1) by decide +kernel) (by decide +kernel)) <|
  ok_c (sn_aload_n (show decode cX9_laws 30 = .ok (.aload_n 0, 1) by decide +kernel) rfl) <|
  ok_c (sn_ishl (show decode cX9_laws 34 = .ok (.ishl, 1) by decide +kernel)) <|
  ok_c (sn_iconst (v := 1) (show decode cX9_laws 35 = .ok (.iconst 1, 1) by decide +kernel) (by decide +kernel)) <|
  ok_c (sn_isub (show decode cX9_laws 36 = .ok (.isub, 1) by decide +kernel)) <|
  ok_c (sn_aload_n (show decode cX9_laws 40 = .ok (.aload_n 0, 1) by decide +kernel) rfl) <|
  ok_c (sn_iload (show decode cX9_laws 41 = .ok (.iload 4, 2) by decide +kernel)) <|
  ok_c (sn_putI ck_9 (by decide) rfl rfl (show decode cX9_laws 43 = .ok (.putfield 259, 3) by decide +kernel) wd_6_1) <|
  ok_c (sn_iload_n (show decode cX9_laws 46 = .ok (.iload_n 3, 1) by decide +kernel) rfl) <|
  ok_c (sn_aload_n (show decode cX9_laws 47 = .ok (.aload_n 0, 1) by decide +kernel) rfl) <|
  ok_c (sn_iload_n (show decode cX9_laws 48 = .ok (.iload_n 1, 1) by decide +kernel) rfl) <|
  ok_c (sn_if_eq (show decode cX9_laws 52 = .ok (.ifCond .eq 10, 3) by decide +kernel) (by decide)) <|
  ok_c (sn_iconst (v := 1) (show decode cX9_laws 55 = .ok (.iconst 1, 1) by decide +kernel) (by decide +kernel)) <|
  ok_c (sn_iload (show decode cX9_laws 56 = .ok (.iload 4, 2) by decide +kernel)) <|
  ok_c (sn_ishl (show decode cX9_laws 58 = .ok (.ishl, 1) by decide +kernel)) <|
  ok_c (sn_goto (show decode cX9_laws 59 = .ok (.goto 4, 3) by decide +kernel) (by decide)) <|
  ok_c (sn_iconst (v := 0) (show decode cX9_laws 62 = .ok (.iconst 0, 1) by decide +kernel) (by decide +kernel)) <|
  ok_c (sn_ior (show decode cX9_laws 63 = .ok (.ior, 1) by decide +kernel)) <|
  ok_c (sn_istore_n (show decode cX9_laws 64 = .ok (.istore_n 3, 1) by decide +kernel) rfl (by decide)) <|
  ok_c (sn_iinc (show decode cX9_laws 65 = .ok (.iinc 4 1, 3) by decide +kernel) (by decide) (by decide +kernel)) <|
  ok_c (sn_goto (show decode cX9_laws 68 = .ok (.goto (-46), 3) by decide +kernel) (by decide)) <|
  ok_c (sn_iload_n (show decode cX9_laws 71 = .ok (.iload_n 3, 1) by decide +kernel) rfl) <|
  ok_n
def uX9_laws : gCT := [(7, YX9_whyNot, 2, some 9), (31, YX9_joins, 1, some 9), (37, YX9_laysTrue, 2, some 9), (49, YX9_isSo, 2, some 9)]
set_option maxRecDepth 100000 in
theorem ocX9_laws : gOkC YX9_laws uX9_laws := oc_c (gEdge_V cal_X9_whyNot ck_9 rfl (show decode cX9_laws 7 = .ok (.invokevirtual 469, 3) by decide +kernel) wd_8_154 wd_8_156 wp_8_3) <|
  oc_c (gEdge_V cal_X9_joins ck_9 rfl (show decode cX9_laws 31 = .ok (.invokevirtual 250, 3) by decide +kernel) wd_7_63 wd_7_65 wp_5_8) <|
  oc_c (gEdge_V cal_X9_laysTrue ck_9 rfl (show decode cX9_laws 37 = .ok (.invokevirtual 457, 3) by decide +kernel) wd_8_162 wd_8_164 wp_8_5) <|
  oc_c (gEdge_V cal_X9_isSo ck_9 rfl (show decode cX9_laws 49 = .ok (.invokevirtual 460, 3) by decide +kernel) wd_8_166 wd_8_168 wp_8_6) <|
  oc_n
theorem reX9_laws : ∀ pc ∈ [16, 72], decode cX9_laws pc = .ok (.ireturn, 1) := by decide +kernel
def tX9_by : List (Nat × gStp) := [(0, i_aload 0 1), (1, i_push (.int 0) 2), (2, i_putI 9 0 5), (5, i_aload 0 6), (6, i_iload 1 7), (7, i_i2l 8), (11, i_if_eq 26 14), (14, i_iload 2 15), (15, i_i2l 16), (16, i_push (.long 0) 17), (17, i_push (.long 3) 20), (23, i_if_ne 29 26), (26, i_push (.int (-2)) 28), (29, i_aload 0 30), (33, i_aload 0 34), (34, i_iload 2 35), (35, i_putI 9 24 38), (38, i_aload 0 39), (39, i_push (.int 0) 40), (43, i_push (.int 0) 44), (44, i_istore 3 45), (45, i_push (.int 0) 46), (46, i_istore 4 48), (48, i_iload 4 50), (50, i_aload 0 51), (54, i_ic_ge 92 57), (57, i_iload 3 58), (58, i_aload 0 59), (59, i_iload 4 61), (61, i_push (.int 0) 62), (65, i_if_eq 83 68), (68, i_aload 0 69), (69, i_iload 4 71), (71, i_iload 1 72), (72, i_push (.int 0) 73), (76, i_if_eq 83 79), (79, i_push (.int 1) 80), (80, i_goto 84), (83, i_push (.int 0) 84), (84, i_ii (fun x y => x + y) 85), (85, i_istore 3 86), (86, i_iinc 4 1 89), (89, i_goto 48), (92, i_iload 3 93)]
set_option maxRecDepth 100000 in
theorem okX9_by : gOk YX9_by tX9_by := ok_c (sn_aload_n (show decode cX9_by 0 = .ok (.aload_n 0, 1) by decide +kernel) rfl) <|
  ok_c (sn_iconst (v := 0) (show decode cX9_by 1 = .ok (.iconst 0, 1) by decide +kernel) (by decide +kernel)) <|
  ok_c (sn_putI ck_9 (by decide) rfl rfl (show decode cX9_by 2 = .ok (.putfield 77, 3) by decide +kernel) wd_5_217) <|
  ok_c (sn_aload_n (show decode cX9_by 5 = .ok (.aload_n 0, 1) by decide +kernel) rfl) <|
  ok_c (sn_iload_n (show decode cX9_by 6 = .ok (.iload_n 1, 1) by decide +kernel) rfl) <|
  ok_c (sn_i2l (show decode cX9_by 7 = .ok (.i2l, 1) by decide +kernel)) <|
  ok_c (sn_if_eq (show decode cX9_by 11 = .ok (.ifCond .eq 15, 3) by decide +kernel) (by decide)) <|
  ok_c (sn_iload_n (show decode cX9_by 14 = .ok (.iload_n 2, 1) by decide +kernel) rfl) <|
  ok_c (sn_i2l (show decode cX9_by 15 = .ok (.i2l, 1) by decide +kernel)) <|
  ok_c (sn_lconst (v := 0) (show decode cX9_by 16 = .ok (.lconst 0, 1) by decide +kernel) (by decide +kernel)) <|
  ok_c (sn_ldc2 (show decode cX9_by 17 = .ok (.ldc2_w 80, 3) by decide +kernel) wd_6_133) <|
  ok_c (sn_if_ne (show decode cX9_by 23 = .ok (.ifCond .ne 6, 3) by decide +kernel) (by decide)) <|
  ok_c (sn_bipush (v := (-2)) (show decode cX9_by 26 = .ok (.bipush (-2), 2) by decide +kernel) (by decide +kernel)) <|
  ok_c (sn_aload_n (show decode cX9_by 29 = .ok (.aload_n 0, 1) by decide +kernel) rfl) <|
  ok_c (sn_aload_n (show decode cX9_by 33 = .ok (.aload_n 0, 1) by decide +kernel) rfl) <|
  ok_c (sn_iload_n (show decode cX9_by 34 = .ok (.iload_n 2, 1) by decide +kernel) rfl) <|
  ok_c (sn_putI ck_9 (by decide) rfl rfl (show decode cX9_by 35 = .ok (.putfield 259, 3) by decide +kernel) wd_6_1) <|
  ok_c (sn_aload_n (show decode cX9_by 38 = .ok (.aload_n 0, 1) by decide +kernel) rfl) <|
  ok_c (sn_iconst (v := 0) (show decode cX9_by 39 = .ok (.iconst 0, 1) by decide +kernel) (by decide +kernel)) <|
  ok_c (sn_iconst (v := 0) (show decode cX9_by 43 = .ok (.iconst 0, 1) by decide +kernel) (by decide +kernel)) <|
  ok_c (sn_istore_n (show decode cX9_by 44 = .ok (.istore_n 3, 1) by decide +kernel) rfl (by decide)) <|
  ok_c (sn_iconst (v := 0) (show decode cX9_by 45 = .ok (.iconst 0, 1) by decide +kernel) (by decide +kernel)) <|
  ok_c (sn_istore (show decode cX9_by 46 = .ok (.istore 4, 2) by decide +kernel) (by decide)) <|
  ok_c (sn_iload (show decode cX9_by 48 = .ok (.iload 4, 2) by decide +kernel)) <|
  ok_c (sn_aload_n (show decode cX9_by 50 = .ok (.aload_n 0, 1) by decide +kernel) rfl) <|
  ok_c (sn_ic_ge (show decode cX9_by 54 = .ok (.if_icmp .ge 38, 3) by decide +kernel) (by decide)) <|
  ok_c (sn_iload_n (show decode cX9_by 57 = .ok (.iload_n 3, 1) by decide +kernel) rfl) <|
  ok_c (sn_aload_n (show decode cX9_by 58 = .ok (.aload_n 0, 1) by decide +kernel) rfl) <|
  ok_c (sn_iload (show decode cX9_by 59 = .ok (.iload 4, 2) by decide +kernel)) <|
  ok_c (sn_iconst (v := 0) (show decode cX9_by 61 = .ok (.iconst 0, 1) by decide +kernel) (by decide +kernel)) <|
  ok_c (sn_if_eq (show decode cX9_by 65 = .ok (.ifCond .eq 18, 3) by decide +kernel) (by decide)) <|
  ok_c (sn_aload_n (show decode cX9_by 68 = .ok (.aload_n 0, 1) by decide +kernel) rfl) <|
  ok_c (sn_iload (show decode cX9_by 69 = .ok (.iload 4, 2) by decide +kernel)) <|
  ok_c (sn_iload_n (show decode cX9_by 71 = .ok (.iload_n 1, 1) by decide +kernel) rfl) <|
  ok_c (sn_iconst (v := 0) (show decode cX9_by 72 = .ok (.iconst 0, 1) by decide +kernel) (by decide +kernel)) <|
  ok_c (sn_if_eq (show decode cX9_by 76 = .ok (.ifCond .eq 7, 3) by decide +kernel) (by decide)) <|
  ok_c (sn_iconst (v := 1) (show decode cX9_by 79 = .ok (.iconst 1, 1) by decide +kernel) (by decide +kernel)) <|
  ok_c (sn_goto (show decode cX9_by 80 = .ok (.goto 4, 3) by decide +kernel) (by decide)) <|
  ok_c (sn_iconst (v := 0) (show decode cX9_by 83 = .ok (.iconst 0, 1) by decide +kernel) (by decide +kernel)) <|
  ok_c (sn_iadd (show decode cX9_by 84 = .ok (.iadd, 1) by decide +kernel)) <|
  ok_c (sn_istore_n (show decode cX9_by 85 = .ok (.istore_n 3, 1) by decide +kernel) rfl (by decide)) <|
  ok_c (sn_iinc (show decode cX9_by 86 = .ok (.iinc 4 1, 3) by decide +kernel) (by decide) (by decide +kernel)) <|
  ok_c (sn_goto (show decode cX9_by 89 = .ok (.goto (-41), 3) by decide +kernel) (by decide)) <|
  ok_c (sn_iload_n (show decode cX9_by 92 = .ok (.iload_n 3, 1) by decide +kernel) rfl) <|
  ok_n
def uX9_by : gCT := [(8, YX9_isDoor, 2, some 9), (20, YX9_in, 3, none), (30, YX9_lays, 1, some 9), (40, YX9_runs, 2, some 9), (51, YX9_people, 1, some 9), (62, YX9_isHead, 3, some 9), (73, YX9_goesThrough, 4, some 9)]
set_option maxRecDepth 100000 in
theorem ocX9_by : gOkC YX9_by uX9_by := oc_c (gEdge_V cal_X9_isDoor ck_9 rfl (show decode cX9_by 8 = .ok (.invokevirtual 351, 3) by decide +kernel) wd_7_71 wd_7_73 wp_5_9) <|
  oc_c (gEdge_S cal_X9_in (show decode cX9_by 20 = .ok (.invokestatic 82, 3) by decide +kernel) wd_6_134 wd_6_135) <|
  oc_c (gEdge_V cal_X9_lays ck_9 rfl (show decode cX9_by 30 = .ok (.invokevirtual 329, 3) by decide +kernel) wd_7_91 wd_7_93 wp_5_13) <|
  oc_c (gEdge_V cal_X9_runs ck_9 rfl (show decode cX9_by 40 = .ok (.invokevirtual 326, 3) by decide +kernel) wd_7_99 wd_7_101 wp_5_15) <|
  oc_c (gEdge_V cal_X9_people ck_9 rfl (show decode cX9_by 51 = .ok (.invokevirtual 244, 3) by decide +kernel) wd_7_50 wd_7_52 wp_5_6) <|
  oc_c (gEdge_V cal_X9_isHead ck_9 rfl (show decode cX9_by 62 = .ok (.invokevirtual 366, 3) by decide +kernel) wd_7_178 wd_7_180 wp_6_15) <|
  oc_c (gEdge_V cal_X9_goesThrough ck_9 rfl (show decode cX9_by 73 = .ok (.invokevirtual 372, 3) by decide +kernel) wd_7_205 wd_7_207 wp_7_3) <|
  oc_n
theorem reX9_by : ∀ pc ∈ [28, 93], decode cX9_by pc = .ok (.ireturn, 1) := by decide +kernel
def tX9_getsBy : List (Nat × gStp) := [(0, i_aload 0 1), (4, i_aload 0 5), (5, i_iload 4 7), (7, i_iload 2 8), (8, i_ii (fun x y => x <<< (y &&& 31)) 9), (9, i_iload 5 11), (11, i_iload 3 12), (12, i_ii (fun x y => x <<< (y &&& 31)) 13), (13, i_ii (fun x y => x ||| y) 14), (14, i_putI 9 26 17), (17, i_aload 0 18), (21, i_aload 0 22), (22, i_getC 9 158 25), (25, i_push (.int 12) 27), (27, i_iload 1 28), (28, i_ii (fun x y => x * y) 29), (29, i_aload 0 30), (33, i_ii (fun x y => x + y) 34), (34, i_push (.int 1) 35), (35, i_ii (fun x y => x - y) 36), (36, i_iald 37), (37, i_push (.int 3) 38), (38, i_iload 1 39), (39, i_iload 2 40), (40, i_ic_ne 48 43), (43, i_iload 4 45), (45, i_goto 50), (48, i_iload 5 50), (50, i_ii (fun x y => x * y) 51), (51, i_ii (fun x y => x - y) 52)]
set_option maxRecDepth 100000 in
theorem okX9_getsBy : gOk YX9_getsBy tX9_getsBy := ok_c (sn_aload_n (show decode cX9_getsBy 0 = .ok (.aload_n 0, 1) by decide +kernel) rfl) <|
  ok_c (sn_aload_n (show decode cX9_getsBy 4 = .ok (.aload_n 0, 1) by decide +kernel) rfl) <|
  ok_c (sn_iload (show decode cX9_getsBy 5 = .ok (.iload 4, 2) by decide +kernel)) <|
  ok_c (sn_iload_n (show decode cX9_getsBy 7 = .ok (.iload_n 2, 1) by decide +kernel) rfl) <|
  ok_c (sn_ishl (show decode cX9_getsBy 8 = .ok (.ishl, 1) by decide +kernel)) <|
  ok_c (sn_iload (show decode cX9_getsBy 9 = .ok (.iload 5, 2) by decide +kernel)) <|
  ok_c (sn_iload_n (show decode cX9_getsBy 11 = .ok (.iload_n 3, 1) by decide +kernel) rfl) <|
  ok_c (sn_ishl (show decode cX9_getsBy 12 = .ok (.ishl, 1) by decide +kernel)) <|
  ok_c (sn_ior (show decode cX9_getsBy 13 = .ok (.ior, 1) by decide +kernel)) <|
  ok_c (sn_putI ck_9 (by decide) rfl rfl (show decode cX9_getsBy 14 = .ok (.putfield 265, 3) by decide +kernel) wd_6_3) <|
  ok_c (sn_aload_n (show decode cX9_getsBy 17 = .ok (.aload_n 0, 1) by decide +kernel) rfl) <|
  ok_c (sn_aload_n (show decode cX9_getsBy 21 = .ok (.aload_n 0, 1) by decide +kernel) rfl) <|
  ok_c (sn_getC (j := 36) (fun _ _ => rfl) (sn_get ck_9 (by decide) (show decode cX9_getsBy 22 = .ok (.getfield 65, 3) by decide +kernel) wd_6_13)) <|
  ok_c (sn_bipush (v := 12) (show decode cX9_getsBy 25 = .ok (.bipush 12, 2) by decide +kernel) (by decide +kernel)) <|
  ok_c (sn_iload_n (show decode cX9_getsBy 27 = .ok (.iload_n 1, 1) by decide +kernel) rfl) <|
  ok_c (sn_imul (show decode cX9_getsBy 28 = .ok (.imul, 1) by decide +kernel)) <|
  ok_c (sn_aload_n (show decode cX9_getsBy 29 = .ok (.aload_n 0, 1) by decide +kernel) rfl) <|
  ok_c (sn_iadd (show decode cX9_getsBy 33 = .ok (.iadd, 1) by decide +kernel)) <|
  ok_c (sn_iconst (v := 1) (show decode cX9_getsBy 34 = .ok (.iconst 1, 1) by decide +kernel) (by decide +kernel)) <|
  ok_c (sn_isub (show decode cX9_getsBy 35 = .ok (.isub, 1) by decide +kernel)) <|
  ok_c (sn_iald (show decode cX9_getsBy 36 = .ok (.iaload, 1) by decide +kernel)) <|
  ok_c (sn_iconst (v := 3) (show decode cX9_getsBy 37 = .ok (.iconst 3, 1) by decide +kernel) (by decide +kernel)) <|
  ok_c (sn_iload_n (show decode cX9_getsBy 38 = .ok (.iload_n 1, 1) by decide +kernel) rfl) <|
  ok_c (sn_iload_n (show decode cX9_getsBy 39 = .ok (.iload_n 2, 1) by decide +kernel) rfl) <|
  ok_c (sn_ic_ne (show decode cX9_getsBy 40 = .ok (.if_icmp .ne 8, 3) by decide +kernel) (by decide)) <|
  ok_c (sn_iload (show decode cX9_getsBy 43 = .ok (.iload 4, 2) by decide +kernel)) <|
  ok_c (sn_goto (show decode cX9_getsBy 45 = .ok (.goto 5, 3) by decide +kernel) (by decide)) <|
  ok_c (sn_iload (show decode cX9_getsBy 48 = .ok (.iload 5, 2) by decide +kernel)) <|
  ok_c (sn_imul (show decode cX9_getsBy 50 = .ok (.imul, 1) by decide +kernel)) <|
  ok_c (sn_isub (show decode cX9_getsBy 51 = .ok (.isub, 1) by decide +kernel)) <|
  ok_n
def uX9_getsBy : gCT := [(1, YX9_lays, 1, some 9), (18, YX9_runs_, 1, some 9), (30, YX9_years, 1, some 9)]
set_option maxRecDepth 100000 in
theorem ocX9_getsBy : gOkC YX9_getsBy uX9_getsBy := oc_c (gEdge_V cal_X9_lays ck_9 rfl (show decode cX9_getsBy 1 = .ok (.invokevirtual 329, 3) by decide +kernel) wd_7_91 wd_7_93 wp_5_13) <|
  oc_c (gEdge_V cal_X9_runs_ ck_9 rfl (show decode cX9_getsBy 18 = .ok (.invokevirtual 332, 3) by decide +kernel) wd_7_95 wd_7_97 wp_5_14) <|
  oc_c (gEdge_V cal_X9_years ck_9 rfl (show decode cX9_getsBy 30 = .ok (.invokevirtual 253, 3) by decide +kernel) wd_7_83 wd_7_85 wp_5_11) <|
  oc_n
theorem reX9_getsBy : ∀ pc ∈ [52], decode cX9_getsBy pc = .ok (.ireturn, 1) := by decide +kernel
def tX9_rests : List (Nat × gStp) := [(0, i_aload 0 1), (1, i_push (.int 0) 2), (2, i_putI 9 0 5), (5, i_aload 0 6), (6, i_iload 1 7), (7, i_iload 2 8), (11, i_if_ne 17 14), (14, i_push (.int (-2)) 16), (17, i_push (.int 0) 18), (18, i_istore 3 19), (19, i_push (.int 0) 20), (20, i_istore 4 22), (22, i_iload 4 24), (24, i_push (.int 4) 25), (25, i_ic_ge 123 28), (28, i_iload 4 30), (30, i_push (.int 2) 31), (31, i_idiv (fun x y => x - x / y * y) 32), (32, i_istore 5 34), (34, i_iload 4 36), (36, i_push (.int 2) 37), (37, i_idiv (fun x y => x / y) 38), (38, i_istore 6 40), (40, i_aload 0 41), (41, i_iload 1 42), (42, i_iload 1 43), (43, i_iload 2 44), (44, i_push (.int 1) 45), (45, i_iload 5 47), (47, i_ii (fun x y => x - y) 48), (48, i_iload 6 50), (53, i_aload 0 54), (54, i_iload 1 55), (55, i_iload 1 56), (56, i_iload 2 57), (57, i_iload 5 59), (59, i_iload 6 61), (64, i_ic_gt 98 67), (67, i_aload 0 68), (68, i_iload 2 69), (69, i_iload 1 70), (70, i_iload 2 71), (71, i_iload 5 73), (73, i_push (.int 1) 74), (74, i_iload 6 76), (76, i_ii (fun x y => x - y) 77), (80, i_aload 0 81), (81, i_iload 2 82), (82, i_iload 1 83), (83, i_iload 2 84), (84, i_iload 5 86), (86, i_iload 6 88), (91, i_ic_gt 98 94), (94, i_push (.int 1) 95), (95, i_goto 99), (98, i_push (.int 0) 99), (99, i_istore 7 101), (101, i_iload 3 102), (102, i_iload 7 104), (104, i_if_eq 114 107), (107, i_push (.int 1) 108), (108, i_iload 4 110), (110, i_ii (fun x y => x <<< (y &&& 31)) 111), (111, i_goto 115), (114, i_push (.int 0) 115), (115, i_ii (fun x y => x ||| y) 116), (116, i_istore 3 117), (117, i_iinc 4 1 120), (120, i_goto 22), (123, i_iload 3 124)]
set_option maxRecDepth 100000 in
theorem okX9_rests : gOk YX9_rests tX9_rests := ok_c (sn_aload_n (show decode cX9_rests 0 = .ok (.aload_n 0, 1) by decide +kernel) rfl) <|
  ok_c (sn_iconst (v := 0) (show decode cX9_rests 1 = .ok (.iconst 0, 1) by decide +kernel) (by decide +kernel)) <|
  ok_c (sn_putI ck_9 (by decide) rfl rfl (show decode cX9_rests 2 = .ok (.putfield 77, 3) by decide +kernel) wd_5_217) <|
  ok_c (sn_aload_n (show decode cX9_rests 5 = .ok (.aload_n 0, 1) by decide +kernel) rfl) <|
  ok_c (sn_iload_n (show decode cX9_rests 6 = .ok (.iload_n 1, 1) by decide +kernel) rfl) <|
  ok_c (sn_iload_n (show decode cX9_rests 7 = .ok (.iload_n 2, 1) by decide +kernel) rfl) <|
  ok_c (sn_if_ne (show decode cX9_rests 11 = .ok (.ifCond .ne 6, 3) by decide +kernel) (by decide)) <|
  ok_c (sn_bipush (v := (-2)) (show decode cX9_rests 14 = .ok (.bipush (-2), 2) by decide +kernel) (by decide +kernel)) <|
  ok_c (sn_iconst (v := 0) (show decode cX9_rests 17 = .ok (.iconst 0, 1) by decide +kernel) (by decide +kernel)) <|
  ok_c (sn_istore_n (show decode cX9_rests 18 = .ok (.istore_n 3, 1) by decide +kernel) rfl (by decide)) <|
  ok_c (sn_iconst (v := 0) (show decode cX9_rests 19 = .ok (.iconst 0, 1) by decide +kernel) (by decide +kernel)) <|
  ok_c (sn_istore (show decode cX9_rests 20 = .ok (.istore 4, 2) by decide +kernel) (by decide)) <|
  ok_c (sn_iload (show decode cX9_rests 22 = .ok (.iload 4, 2) by decide +kernel)) <|
  ok_c (sn_iconst (v := 4) (show decode cX9_rests 24 = .ok (.iconst 4, 1) by decide +kernel) (by decide +kernel)) <|
  ok_c (sn_ic_ge (show decode cX9_rests 25 = .ok (.if_icmp .ge 98, 3) by decide +kernel) (by decide)) <|
  ok_c (sn_iload (show decode cX9_rests 28 = .ok (.iload 4, 2) by decide +kernel)) <|
  ok_c (sn_iconst (v := 2) (show decode cX9_rests 30 = .ok (.iconst 2, 1) by decide +kernel) (by decide +kernel)) <|
  ok_c (sn_irem (show decode cX9_rests 31 = .ok (.irem, 1) by decide +kernel)) <|
  ok_c (sn_istore (show decode cX9_rests 32 = .ok (.istore 5, 2) by decide +kernel) (by decide)) <|
  ok_c (sn_iload (show decode cX9_rests 34 = .ok (.iload 4, 2) by decide +kernel)) <|
  ok_c (sn_iconst (v := 2) (show decode cX9_rests 36 = .ok (.iconst 2, 1) by decide +kernel) (by decide +kernel)) <|
  ok_c (sn_idiv (show decode cX9_rests 37 = .ok (.idiv, 1) by decide +kernel)) <|
  ok_c (sn_istore (show decode cX9_rests 38 = .ok (.istore 6, 2) by decide +kernel) (by decide)) <|
  ok_c (sn_aload_n (show decode cX9_rests 40 = .ok (.aload_n 0, 1) by decide +kernel) rfl) <|
  ok_c (sn_iload_n (show decode cX9_rests 41 = .ok (.iload_n 1, 1) by decide +kernel) rfl) <|
  ok_c (sn_iload_n (show decode cX9_rests 42 = .ok (.iload_n 1, 1) by decide +kernel) rfl) <|
  ok_c (sn_iload_n (show decode cX9_rests 43 = .ok (.iload_n 2, 1) by decide +kernel) rfl) <|
  ok_c (sn_iconst (v := 1) (show decode cX9_rests 44 = .ok (.iconst 1, 1) by decide +kernel) (by decide +kernel)) <|
  ok_c (sn_iload (show decode cX9_rests 45 = .ok (.iload 5, 2) by decide +kernel)) <|
  ok_c (sn_isub (show decode cX9_rests 47 = .ok (.isub, 1) by decide +kernel)) <|
  ok_c (sn_iload (show decode cX9_rests 48 = .ok (.iload 6, 2) by decide +kernel)) <|
  ok_c (sn_aload_n (show decode cX9_rests 53 = .ok (.aload_n 0, 1) by decide +kernel) rfl) <|
  ok_c (sn_iload_n (show decode cX9_rests 54 = .ok (.iload_n 1, 1) by decide +kernel) rfl) <|
  ok_c (sn_iload_n (show decode cX9_rests 55 = .ok (.iload_n 1, 1) by decide +kernel) rfl) <|
  ok_c (sn_iload_n (show decode cX9_rests 56 = .ok (.iload_n 2, 1) by decide +kernel) rfl) <|
  ok_c (sn_iload (show decode cX9_rests 57 = .ok (.iload 5, 2) by decide +kernel)) <|
  ok_c (sn_iload (show decode cX9_rests 59 = .ok (.iload 6, 2) by decide +kernel)) <|
  ok_c (sn_ic_gt (show decode cX9_rests 64 = .ok (.if_icmp .gt 34, 3) by decide +kernel) (by decide)) <|
  ok_c (sn_aload_n (show decode cX9_rests 67 = .ok (.aload_n 0, 1) by decide +kernel) rfl) <|
  ok_c (sn_iload_n (show decode cX9_rests 68 = .ok (.iload_n 2, 1) by decide +kernel) rfl) <|
  ok_c (sn_iload_n (show decode cX9_rests 69 = .ok (.iload_n 1, 1) by decide +kernel) rfl) <|
  ok_c (sn_iload_n (show decode cX9_rests 70 = .ok (.iload_n 2, 1) by decide +kernel) rfl) <|
  ok_c (sn_iload (show decode cX9_rests 71 = .ok (.iload 5, 2) by decide +kernel)) <|
  ok_c (sn_iconst (v := 1) (show decode cX9_rests 73 = .ok (.iconst 1, 1) by decide +kernel) (by decide +kernel)) <|
  ok_c (sn_iload (show decode cX9_rests 74 = .ok (.iload 6, 2) by decide +kernel)) <|
  ok_c (sn_isub (show decode cX9_rests 76 = .ok (.isub, 1) by decide +kernel)) <|
  ok_c (sn_aload_n (show decode cX9_rests 80 = .ok (.aload_n 0, 1) by decide +kernel) rfl) <|
  ok_c (sn_iload_n (show decode cX9_rests 81 = .ok (.iload_n 2, 1) by decide +kernel) rfl) <|
  ok_c (sn_iload_n (show decode cX9_rests 82 = .ok (.iload_n 1, 1) by decide +kernel) rfl) <|
  ok_c (sn_iload_n (show decode cX9_rests 83 = .ok (.iload_n 2, 1) by decide +kernel) rfl) <|
  ok_c (sn_iload (show decode cX9_rests 84 = .ok (.iload 5, 2) by decide +kernel)) <|
  ok_c (sn_iload (show decode cX9_rests 86 = .ok (.iload 6, 2) by decide +kernel)) <|
  ok_c (sn_ic_gt (show decode cX9_rests 91 = .ok (.if_icmp .gt 7, 3) by decide +kernel) (by decide)) <|
  ok_c (sn_iconst (v := 1) (show decode cX9_rests 94 = .ok (.iconst 1, 1) by decide +kernel) (by decide +kernel)) <|
  ok_c (sn_goto (show decode cX9_rests 95 = .ok (.goto 4, 3) by decide +kernel) (by decide)) <|
  ok_c (sn_iconst (v := 0) (show decode cX9_rests 98 = .ok (.iconst 0, 1) by decide +kernel) (by decide +kernel)) <|
  ok_c (sn_istore (show decode cX9_rests 99 = .ok (.istore 7, 2) by decide +kernel) (by decide)) <|
  ok_c (sn_iload_n (show decode cX9_rests 101 = .ok (.iload_n 3, 1) by decide +kernel) rfl) <|
  ok_c (sn_iload (show decode cX9_rests 102 = .ok (.iload 7, 2) by decide +kernel)) <|
  ok_c (sn_if_eq (show decode cX9_rests 104 = .ok (.ifCond .eq 10, 3) by decide +kernel) (by decide)) <|
  ok_c (sn_iconst (v := 1) (show decode cX9_rests 107 = .ok (.iconst 1, 1) by decide +kernel) (by decide +kernel)) <|
  ok_c (sn_iload (show decode cX9_rests 108 = .ok (.iload 4, 2) by decide +kernel)) <|
  ok_c (sn_ishl (show decode cX9_rests 110 = .ok (.ishl, 1) by decide +kernel)) <|
  ok_c (sn_goto (show decode cX9_rests 111 = .ok (.goto 4, 3) by decide +kernel) (by decide)) <|
  ok_c (sn_iconst (v := 0) (show decode cX9_rests 114 = .ok (.iconst 0, 1) by decide +kernel) (by decide +kernel)) <|
  ok_c (sn_ior (show decode cX9_rests 115 = .ok (.ior, 1) by decide +kernel)) <|
  ok_c (sn_istore_n (show decode cX9_rests 116 = .ok (.istore_n 3, 1) by decide +kernel) rfl (by decide)) <|
  ok_c (sn_iinc (show decode cX9_rests 117 = .ok (.iinc 4 1, 3) by decide +kernel) (by decide) (by decide +kernel)) <|
  ok_c (sn_goto (show decode cX9_rests 120 = .ok (.goto (-98), 3) by decide +kernel) (by decide)) <|
  ok_c (sn_iload_n (show decode cX9_rests 123 = .ok (.iload_n 3, 1) by decide +kernel) rfl) <|
  ok_n
def uX9_rests : gCT := [(8, YX9_areTwo, 3, some 9), (50, YX9_getsBy, 6, some 9), (61, YX9_getsBy, 6, some 9), (77, YX9_getsBy, 6, some 9), (88, YX9_getsBy, 6, some 9)]
set_option maxRecDepth 100000 in
theorem ocX9_rests : gOkC YX9_rests uX9_rests := oc_c (gEdge_V cal_X9_areTwo ck_9 rfl (show decode cX9_rests 8 = .ok (.invokevirtual 360, 3) by decide +kernel) wd_7_158 wd_7_160 wp_6_12) <|
  oc_c (gEdge_V cal_X9_getsBy ck_9 rfl (show decode cX9_rests 50 = .ok (.invokevirtual 475, 3) by decide +kernel) wd_8_198 wd_8_200 wp_8_7) <|
  oc_c (gEdge_V cal_X9_getsBy ck_9 rfl (show decode cX9_rests 61 = .ok (.invokevirtual 475, 3) by decide +kernel) wd_8_198 wd_8_200 wp_8_7) <|
  oc_c (gEdge_V cal_X9_getsBy ck_9 rfl (show decode cX9_rests 77 = .ok (.invokevirtual 475, 3) by decide +kernel) wd_8_198 wd_8_200 wp_8_7) <|
  oc_c (gEdge_V cal_X9_getsBy ck_9 rfl (show decode cX9_rests 88 = .ok (.invokevirtual 475, 3) by decide +kernel) wd_8_198 wd_8_200 wp_8_7) <|
  oc_n
theorem reX9_rests : ∀ pc ∈ [16, 124], decode cX9_rests pc = .ok (.ireturn, 1) := by decide +kernel
def tX9_gets : List (Nat × gStp) := [(0, i_aload 0 1), (1, i_push (.int 0) 2), (2, i_putI 9 0 5), (5, i_aload 0 6), (6, i_iload 1 7), (7, i_iload 2 8), (11, i_if_eq 42 14), (14, i_iload 3 15), (18, i_if_eq 42 21), (21, i_iload 4 23), (26, i_if_eq 42 29), (29, i_aload 0 30), (30, i_iload 1 31), (31, i_iload 1 32), (32, i_iload 2 33), (33, i_iload 3 34), (34, i_iload 4 36), (39, i_goto 45), (42, i_push (.int (-10000)) 45)]
set_option maxRecDepth 100000 in
theorem okX9_gets : gOk YX9_gets tX9_gets := ok_c (sn_aload_n (show decode cX9_gets 0 = .ok (.aload_n 0, 1) by decide +kernel) rfl) <|
  ok_c (sn_iconst (v := 0) (show decode cX9_gets 1 = .ok (.iconst 0, 1) by decide +kernel) (by decide +kernel)) <|
  ok_c (sn_putI ck_9 (by decide) rfl rfl (show decode cX9_gets 2 = .ok (.putfield 77, 3) by decide +kernel) wd_5_217) <|
  ok_c (sn_aload_n (show decode cX9_gets 5 = .ok (.aload_n 0, 1) by decide +kernel) rfl) <|
  ok_c (sn_iload_n (show decode cX9_gets 6 = .ok (.iload_n 1, 1) by decide +kernel) rfl) <|
  ok_c (sn_iload_n (show decode cX9_gets 7 = .ok (.iload_n 2, 1) by decide +kernel) rfl) <|
  ok_c (sn_if_eq (show decode cX9_gets 11 = .ok (.ifCond .eq 31, 3) by decide +kernel) (by decide)) <|
  ok_c (sn_iload_n (show decode cX9_gets 14 = .ok (.iload_n 3, 1) by decide +kernel) rfl) <|
  ok_c (sn_if_eq (show decode cX9_gets 18 = .ok (.ifCond .eq 24, 3) by decide +kernel) (by decide)) <|
  ok_c (sn_iload (show decode cX9_gets 21 = .ok (.iload 4, 2) by decide +kernel)) <|
  ok_c (sn_if_eq (show decode cX9_gets 26 = .ok (.ifCond .eq 16, 3) by decide +kernel) (by decide)) <|
  ok_c (sn_aload_n (show decode cX9_gets 29 = .ok (.aload_n 0, 1) by decide +kernel) rfl) <|
  ok_c (sn_iload_n (show decode cX9_gets 30 = .ok (.iload_n 1, 1) by decide +kernel) rfl) <|
  ok_c (sn_iload_n (show decode cX9_gets 31 = .ok (.iload_n 1, 1) by decide +kernel) rfl) <|
  ok_c (sn_iload_n (show decode cX9_gets 32 = .ok (.iload_n 2, 1) by decide +kernel) rfl) <|
  ok_c (sn_iload_n (show decode cX9_gets 33 = .ok (.iload_n 3, 1) by decide +kernel) rfl) <|
  ok_c (sn_iload (show decode cX9_gets 34 = .ok (.iload 4, 2) by decide +kernel)) <|
  ok_c (sn_goto (show decode cX9_gets 39 = .ok (.goto 6, 3) by decide +kernel) (by decide)) <|
  ok_c (sn_sipush (v := (-10000)) (show decode cX9_gets 42 = .ok (.sipush (-10000), 3) by decide +kernel) (by decide +kernel)) <|
  ok_n
def uX9_gets : gCT := [(8, YX9_areTwo, 3, some 9), (15, YX9_isHalf, 1, none), (23, YX9_isHalf, 1, none), (36, YX9_getsBy, 6, some 9)]
set_option maxRecDepth 100000 in
theorem ocX9_gets : gOkC YX9_gets uX9_gets := oc_c (gEdge_V cal_X9_areTwo ck_9 rfl (show decode cX9_gets 8 = .ok (.invokevirtual 360, 3) by decide +kernel) wd_7_158 wd_7_160 wp_6_12) <|
  oc_c (gEdge_S cal_X9_isHalf (show decode cX9_gets 15 = .ok (.invokestatic 399, 3) by decide +kernel) wd_8_69 wd_8_70) <|
  oc_c (gEdge_S cal_X9_isHalf (show decode cX9_gets 23 = .ok (.invokestatic 399, 3) by decide +kernel) wd_8_69 wd_8_70) <|
  oc_c (gEdge_V cal_X9_getsBy ck_9 rfl (show decode cX9_gets 36 = .ok (.invokevirtual 475, 3) by decide +kernel) wd_8_198 wd_8_200 wp_8_7) <|
  oc_n
theorem reX9_gets : ∀ pc ∈ [45], decode cX9_gets pc = .ok (.ireturn, 1) := by decide +kernel
def tX9_bothAtLast : List (Nat × gStp) := [(0, i_aload 0 1), (1, i_getC 9 158 4), (4, i_push (.int 12) 6), (6, i_iload 1 7), (7, i_ii (fun x y => x * y) 8), (8, i_aload 0 9), (12, i_ii (fun x y => x + y) 13), (13, i_push (.int 1) 14), (14, i_ii (fun x y => x - y) 15), (15, i_iald 16), (16, i_aload 0 17), (17, i_getC 9 158 20), (20, i_push (.int 12) 22), (22, i_iload 2 23), (23, i_ii (fun x y => x * y) 24), (24, i_aload 0 25), (28, i_ii (fun x y => x + y) 29), (29, i_push (.int 1) 30), (30, i_ii (fun x y => x - y) 31), (31, i_iald 32), (32, i_ii (fun x y => x + y) 33)]
set_option maxRecDepth 100000 in
theorem okX9_bothAtLast : gOk YX9_bothAtLast tX9_bothAtLast := ok_c (sn_aload_n (show decode cX9_bothAtLast 0 = .ok (.aload_n 0, 1) by decide +kernel) rfl) <|
  ok_c (sn_getC (j := 36) (fun _ _ => rfl) (sn_get ck_9 (by decide) (show decode cX9_bothAtLast 1 = .ok (.getfield 65, 3) by decide +kernel) wd_6_13)) <|
  ok_c (sn_bipush (v := 12) (show decode cX9_bothAtLast 4 = .ok (.bipush 12, 2) by decide +kernel) (by decide +kernel)) <|
  ok_c (sn_iload_n (show decode cX9_bothAtLast 6 = .ok (.iload_n 1, 1) by decide +kernel) rfl) <|
  ok_c (sn_imul (show decode cX9_bothAtLast 7 = .ok (.imul, 1) by decide +kernel)) <|
  ok_c (sn_aload_n (show decode cX9_bothAtLast 8 = .ok (.aload_n 0, 1) by decide +kernel) rfl) <|
  ok_c (sn_iadd (show decode cX9_bothAtLast 12 = .ok (.iadd, 1) by decide +kernel)) <|
  ok_c (sn_iconst (v := 1) (show decode cX9_bothAtLast 13 = .ok (.iconst 1, 1) by decide +kernel) (by decide +kernel)) <|
  ok_c (sn_isub (show decode cX9_bothAtLast 14 = .ok (.isub, 1) by decide +kernel)) <|
  ok_c (sn_iald (show decode cX9_bothAtLast 15 = .ok (.iaload, 1) by decide +kernel)) <|
  ok_c (sn_aload_n (show decode cX9_bothAtLast 16 = .ok (.aload_n 0, 1) by decide +kernel) rfl) <|
  ok_c (sn_getC (j := 36) (fun _ _ => rfl) (sn_get ck_9 (by decide) (show decode cX9_bothAtLast 17 = .ok (.getfield 65, 3) by decide +kernel) wd_6_13)) <|
  ok_c (sn_bipush (v := 12) (show decode cX9_bothAtLast 20 = .ok (.bipush 12, 2) by decide +kernel) (by decide +kernel)) <|
  ok_c (sn_iload_n (show decode cX9_bothAtLast 22 = .ok (.iload_n 2, 1) by decide +kernel) rfl) <|
  ok_c (sn_imul (show decode cX9_bothAtLast 23 = .ok (.imul, 1) by decide +kernel)) <|
  ok_c (sn_aload_n (show decode cX9_bothAtLast 24 = .ok (.aload_n 0, 1) by decide +kernel) rfl) <|
  ok_c (sn_iadd (show decode cX9_bothAtLast 28 = .ok (.iadd, 1) by decide +kernel)) <|
  ok_c (sn_iconst (v := 1) (show decode cX9_bothAtLast 29 = .ok (.iconst 1, 1) by decide +kernel) (by decide +kernel)) <|
  ok_c (sn_isub (show decode cX9_bothAtLast 30 = .ok (.isub, 1) by decide +kernel)) <|
  ok_c (sn_iald (show decode cX9_bothAtLast 31 = .ok (.iaload, 1) by decide +kernel)) <|
  ok_c (sn_iadd (show decode cX9_bothAtLast 32 = .ok (.iadd, 1) by decide +kernel)) <|
  ok_n
def uX9_bothAtLast : gCT := [(9, YX9_years, 1, some 9), (25, YX9_years, 1, some 9)]
set_option maxRecDepth 100000 in
theorem ocX9_bothAtLast : gOkC YX9_bothAtLast uX9_bothAtLast := oc_c (gEdge_V cal_X9_years ck_9 rfl (show decode cX9_bothAtLast 9 = .ok (.invokevirtual 253, 3) by decide +kernel) wd_7_83 wd_7_85 wp_5_11) <|
  oc_c (gEdge_V cal_X9_years ck_9 rfl (show decode cX9_bothAtLast 25 = .ok (.invokevirtual 253, 3) by decide +kernel) wd_7_83 wd_7_85 wp_5_11) <|
  oc_n
theorem reX9_bothAtLast : ∀ pc ∈ [33], decode cX9_bothAtLast pc = .ok (.ireturn, 1) := by decide +kernel
def tX9_when : List (Nat × gStp) := [(0, i_aload 0 1), (1, i_push (.int 0) 2), (2, i_putI 9 0 5), (5, i_aload 0 6), (6, i_iload 1 7), (7, i_iload 2 8), (11, i_if_ne 17 14), (14, i_push (.int (-2)) 16), (17, i_aload 0 18), (21, i_push (.int (-1)) 22), (22, i_istore 3 23), (23, i_aload 0 24), (24, i_iload 1 25), (25, i_iload 2 26), (29, i_istore 4 31), (31, i_push (.int 0) 32), (32, i_istore 5 34), (34, i_iload 5 36), (36, i_aload 0 37), (40, i_ic_ge 98 43), (43, i_aload 0 44), (47, i_aload 0 48), (48, i_iload 1 49), (49, i_putI 9 28 52), (52, i_aload 0 53), (53, i_iload 2 54), (54, i_putI 9 29 57), (57, i_aload 0 58), (58, i_iload 5 60), (60, i_putI 9 30 63), (63, i_aload 0 64), (67, i_aload 0 68), (68, i_iload 1 69), (69, i_iload 2 70), (73, i_iload 4 75), (75, i_ic_gt 81 78), (78, i_goto 92), (81, i_iload 5 83), (83, i_istore 3 84), (84, i_aload 0 85), (85, i_iload 1 86), (86, i_iload 2 87), (90, i_istore 4 92), (92, i_iinc 5 1 95), (95, i_goto 34), (98, i_iload 3 99)]
set_option maxRecDepth 100000 in
theorem okX9_when : gOk YX9_when tX9_when := ok_c (sn_aload_n (show decode cX9_when 0 = .ok (.aload_n 0, 1) by decide +kernel) rfl) <|
  ok_c (sn_iconst (v := 0) (show decode cX9_when 1 = .ok (.iconst 0, 1) by decide +kernel) (by decide +kernel)) <|
  ok_c (sn_putI ck_9 (by decide) rfl rfl (show decode cX9_when 2 = .ok (.putfield 77, 3) by decide +kernel) wd_5_217) <|
  ok_c (sn_aload_n (show decode cX9_when 5 = .ok (.aload_n 0, 1) by decide +kernel) rfl) <|
  ok_c (sn_iload_n (show decode cX9_when 6 = .ok (.iload_n 1, 1) by decide +kernel) rfl) <|
  ok_c (sn_iload_n (show decode cX9_when 7 = .ok (.iload_n 2, 1) by decide +kernel) rfl) <|
  ok_c (sn_if_ne (show decode cX9_when 11 = .ok (.ifCond .ne 6, 3) by decide +kernel) (by decide)) <|
  ok_c (sn_bipush (v := (-2)) (show decode cX9_when 14 = .ok (.bipush (-2), 2) by decide +kernel) (by decide +kernel)) <|
  ok_c (sn_aload_n (show decode cX9_when 17 = .ok (.aload_n 0, 1) by decide +kernel) rfl) <|
  ok_c (sn_iconst (v := (-1)) (show decode cX9_when 21 = .ok (.iconst (-1), 1) by decide +kernel) (by decide +kernel)) <|
  ok_c (sn_istore_n (show decode cX9_when 22 = .ok (.istore_n 3, 1) by decide +kernel) rfl (by decide)) <|
  ok_c (sn_aload_n (show decode cX9_when 23 = .ok (.aload_n 0, 1) by decide +kernel) rfl) <|
  ok_c (sn_iload_n (show decode cX9_when 24 = .ok (.iload_n 1, 1) by decide +kernel) rfl) <|
  ok_c (sn_iload_n (show decode cX9_when 25 = .ok (.iload_n 2, 1) by decide +kernel) rfl) <|
  ok_c (sn_istore (show decode cX9_when 29 = .ok (.istore 4, 2) by decide +kernel) (by decide)) <|
  ok_c (sn_iconst (v := 0) (show decode cX9_when 31 = .ok (.iconst 0, 1) by decide +kernel) (by decide +kernel)) <|
  ok_c (sn_istore (show decode cX9_when 32 = .ok (.istore 5, 2) by decide +kernel) (by decide)) <|
  ok_c (sn_iload (show decode cX9_when 34 = .ok (.iload 5, 2) by decide +kernel)) <|
  ok_c (sn_aload_n (show decode cX9_when 36 = .ok (.aload_n 0, 1) by decide +kernel) rfl) <|
  ok_c (sn_ic_ge (show decode cX9_when 40 = .ok (.if_icmp .ge 58, 3) by decide +kernel) (by decide)) <|
  ok_c (sn_aload_n (show decode cX9_when 43 = .ok (.aload_n 0, 1) by decide +kernel) rfl) <|
  ok_c (sn_aload_n (show decode cX9_when 47 = .ok (.aload_n 0, 1) by decide +kernel) rfl) <|
  ok_c (sn_iload_n (show decode cX9_when 48 = .ok (.iload_n 1, 1) by decide +kernel) rfl) <|
  ok_c (sn_putI ck_9 (by decide) rfl rfl (show decode cX9_when 49 = .ok (.putfield 302, 3) by decide +kernel) wd_6_5) <|
  ok_c (sn_aload_n (show decode cX9_when 52 = .ok (.aload_n 0, 1) by decide +kernel) rfl) <|
  ok_c (sn_iload_n (show decode cX9_when 53 = .ok (.iload_n 2, 1) by decide +kernel) rfl) <|
  ok_c (sn_putI ck_9 (by decide) rfl rfl (show decode cX9_when 54 = .ok (.putfield 305, 3) by decide +kernel) wd_6_6) <|
  ok_c (sn_aload_n (show decode cX9_when 57 = .ok (.aload_n 0, 1) by decide +kernel) rfl) <|
  ok_c (sn_iload (show decode cX9_when 58 = .ok (.iload 5, 2) by decide +kernel)) <|
  ok_c (sn_putI ck_9 (by decide) rfl rfl (show decode cX9_when 60 = .ok (.putfield 271, 3) by decide +kernel) wd_6_7) <|
  ok_c (sn_aload_n (show decode cX9_when 63 = .ok (.aload_n 0, 1) by decide +kernel) rfl) <|
  ok_c (sn_aload_n (show decode cX9_when 67 = .ok (.aload_n 0, 1) by decide +kernel) rfl) <|
  ok_c (sn_iload_n (show decode cX9_when 68 = .ok (.iload_n 1, 1) by decide +kernel) rfl) <|
  ok_c (sn_iload_n (show decode cX9_when 69 = .ok (.iload_n 2, 1) by decide +kernel) rfl) <|
  ok_c (sn_iload (show decode cX9_when 73 = .ok (.iload 4, 2) by decide +kernel)) <|
  ok_c (sn_ic_gt (show decode cX9_when 75 = .ok (.if_icmp .gt 6, 3) by decide +kernel) (by decide)) <|
  ok_c (sn_goto (show decode cX9_when 78 = .ok (.goto 14, 3) by decide +kernel) (by decide)) <|
  ok_c (sn_iload (show decode cX9_when 81 = .ok (.iload 5, 2) by decide +kernel)) <|
  ok_c (sn_istore_n (show decode cX9_when 83 = .ok (.istore_n 3, 1) by decide +kernel) rfl (by decide)) <|
  ok_c (sn_aload_n (show decode cX9_when 84 = .ok (.aload_n 0, 1) by decide +kernel) rfl) <|
  ok_c (sn_iload_n (show decode cX9_when 85 = .ok (.iload_n 1, 1) by decide +kernel) rfl) <|
  ok_c (sn_iload_n (show decode cX9_when 86 = .ok (.iload_n 2, 1) by decide +kernel) rfl) <|
  ok_c (sn_istore (show decode cX9_when 90 = .ok (.istore 4, 2) by decide +kernel) (by decide)) <|
  ok_c (sn_iinc (show decode cX9_when 92 = .ok (.iinc 5 1, 3) by decide +kernel) (by decide) (by decide +kernel)) <|
  ok_c (sn_goto (show decode cX9_when 95 = .ok (.goto (-61), 3) by decide +kernel) (by decide)) <|
  ok_c (sn_iload_n (show decode cX9_when 98 = .ok (.iload_n 3, 1) by decide +kernel) rfl) <|
  ok_n
def uX9_when : gCT := [(8, YX9_areTwo, 3, some 9), (18, YX9_laysNow, 1, some 9), (26, YX9_bothAtLast, 3, some 9), (37, YX9_years, 1, some 9), (44, YX9_lays, 1, some 9), (64, YX9_runs_, 1, some 9), (70, YX9_bothAtLast, 3, some 9), (87, YX9_bothAtLast, 3, some 9)]
set_option maxRecDepth 100000 in
theorem ocX9_when : gOkC YX9_when uX9_when := oc_c (gEdge_V cal_X9_areTwo ck_9 rfl (show decode cX9_when 8 = .ok (.invokevirtual 360, 3) by decide +kernel) wd_7_158 wd_7_160 wp_6_12) <|
  oc_c (gEdge_V cal_X9_laysNow ck_9 rfl (show decode cX9_when 18 = .ok (.invokevirtual 354, 3) by decide +kernel) wd_7_87 wd_7_89 wp_5_12) <|
  oc_c (gEdge_V cal_X9_bothAtLast ck_9 rfl (show decode cX9_when 26 = .ok (.invokevirtual 479, 3) by decide +kernel) wd_8_210 wd_8_212 wp_8_8) <|
  oc_c (gEdge_V cal_X9_years ck_9 rfl (show decode cX9_when 37 = .ok (.invokevirtual 253, 3) by decide +kernel) wd_7_83 wd_7_85 wp_5_11) <|
  oc_c (gEdge_V cal_X9_lays ck_9 rfl (show decode cX9_when 44 = .ok (.invokevirtual 329, 3) by decide +kernel) wd_7_91 wd_7_93 wp_5_13) <|
  oc_c (gEdge_V cal_X9_runs_ ck_9 rfl (show decode cX9_when 64 = .ok (.invokevirtual 332, 3) by decide +kernel) wd_7_95 wd_7_97 wp_5_14) <|
  oc_c (gEdge_V cal_X9_bothAtLast ck_9 rfl (show decode cX9_when 70 = .ok (.invokevirtual 479, 3) by decide +kernel) wd_8_210 wd_8_212 wp_8_8) <|
  oc_c (gEdge_V cal_X9_bothAtLast ck_9 rfl (show decode cX9_when 87 = .ok (.invokevirtual 479, 3) by decide +kernel) wd_8_210 wd_8_212 wp_8_8) <|
  oc_n
theorem reX9_when : ∀ pc ∈ [16, 99], decode cX9_when pc = .ok (.ireturn, 1) := by decide +kernel
def tX9_tens : List (Nat × gStp) := [(0, i_push (.int 1) 1), (1, i_istore 1 2), (2, i_push (.int 0) 3), (3, i_istore 2 4), (4, i_iload 2 5), (5, i_aload 0 6), (9, i_ic_ge 23 12), (12, i_iload 1 13), (13, i_push (.int 10) 15), (15, i_ii (fun x y => x * y) 16), (16, i_istore 1 17), (17, i_iinc 2 1 20), (20, i_goto 4), (23, i_iload 1 24)]
set_option maxRecDepth 100000 in
theorem okX9_tens : gOk YX9_tens tX9_tens := ok_c (sn_iconst (v := 1) (show decode cX9_tens 0 = .ok (.iconst 1, 1) by decide +kernel) (by decide +kernel)) <|
  ok_c (sn_istore_n (show decode cX9_tens 1 = .ok (.istore_n 1, 1) by decide +kernel) rfl (by decide)) <|
  ok_c (sn_iconst (v := 0) (show decode cX9_tens 2 = .ok (.iconst 0, 1) by decide +kernel) (by decide +kernel)) <|
  ok_c (sn_istore_n (show decode cX9_tens 3 = .ok (.istore_n 2, 1) by decide +kernel) rfl (by decide)) <|
  ok_c (sn_iload_n (show decode cX9_tens 4 = .ok (.iload_n 2, 1) by decide +kernel) rfl) <|
  ok_c (sn_aload_n (show decode cX9_tens 5 = .ok (.aload_n 0, 1) by decide +kernel) rfl) <|
  ok_c (sn_ic_ge (show decode cX9_tens 9 = .ok (.if_icmp .ge 14, 3) by decide +kernel) (by decide)) <|
  ok_c (sn_iload_n (show decode cX9_tens 12 = .ok (.iload_n 1, 1) by decide +kernel) rfl) <|
  ok_c (sn_bipush (v := 10) (show decode cX9_tens 13 = .ok (.bipush 10, 2) by decide +kernel) (by decide +kernel)) <|
  ok_c (sn_imul (show decode cX9_tens 15 = .ok (.imul, 1) by decide +kernel)) <|
  ok_c (sn_istore_n (show decode cX9_tens 16 = .ok (.istore_n 1, 1) by decide +kernel) rfl (by decide)) <|
  ok_c (sn_iinc (show decode cX9_tens 17 = .ok (.iinc 2 1, 3) by decide +kernel) (by decide) (by decide +kernel)) <|
  ok_c (sn_goto (show decode cX9_tens 20 = .ok (.goto (-16), 3) by decide +kernel) (by decide)) <|
  ok_c (sn_iload_n (show decode cX9_tens 23 = .ok (.iload_n 1, 1) by decide +kernel) rfl) <|
  ok_n
def uX9_tens : gCT := [(6, YX9_joins, 1, some 9)]
set_option maxRecDepth 100000 in
theorem ocX9_tens : gOkC YX9_tens uX9_tens := oc_c (gEdge_V cal_X9_joins ck_9 rfl (show decode cX9_tens 6 = .ok (.invokevirtual 250, 3) by decide +kernel) wd_7_63 wd_7_65 wp_5_8) <|
  oc_n
theorem reX9_tens : ∀ pc ∈ [24], decode cX9_tens pc = .ok (.ireturn, 1) := by decide +kernel
def tX9_weightOf : List (Nat × gStp) := [(0, i_aload 0 1), (4, i_push (.int 0) 5), (5, i_istore 4 7), (7, i_push (.int 0) 8), (8, i_istore 5 10), (10, i_iload 5 12), (12, i_push (.int 1) 13), (13, i_aload 0 14), (17, i_ii (fun x y => x <<< (y &&& 31)) 18), (18, i_ic_ge 161 21), (21, i_push (.int 1) 22), (22, i_istore 6 24), (24, i_push (.int 0) 25), (25, i_istore 7 27), (27, i_iload 7 29), (29, i_aload 0 30), (33, i_ic_ge 75 36), (36, i_iload 6 38), (38, i_iload 5 40), (40, i_iload 7 42), (45, i_if_eq 57 48), (48, i_aload 0 49), (49, i_getC 9 148 52), (52, i_push (.int 3) 53), (53, i_iald 54), (54, i_goto 66), (57, i_push (.int 10) 59), (59, i_aload 0 60), (60, i_getC 9 148 63), (63, i_push (.int 3) 64), (64, i_iald 65), (65, i_ii (fun x y => x - y) 66), (66, i_ii (fun x y => x * y) 67), (67, i_istore 6 69), (69, i_iinc 7 1 72), (72, i_goto 27), (75, i_iload 6 77), (77, i_if_ne 83 80), (80, i_goto 155), (83, i_aload 0 84), (84, i_iload 5 86), (86, i_putI 9 25 89), (89, i_aload 0 90), (90, i_push (.int 0) 91), (94, i_iload 4 96), (96, i_iload 6 98), (98, i_iload 1 99), (99, i_if_ne 123 102), (102, i_aload 0 103), (103, i_iload 2 104), (104, i_push (.int 0) 105), (108, i_iload 3 109), (112, i_if_eq 119 115), (115, i_push (.int 1) 116), (116, i_goto 151), (119, i_push (.int 0) 120), (120, i_goto 151), (123, i_iload 1 124), (124, i_push (.int 1) 125), (125, i_ic_ne 146 128), (128, i_aload 0 129), (129, i_iload 2 130), (130, i_iload 3 131), (131, i_push (.int 0) 132), (135, i_if_eq 142 138), (138, i_push (.int 1) 139), (139, i_goto 151), (142, i_push (.int 0) 143), (143, i_goto 151), (146, i_aload 0 147), (147, i_push (.int 0) 148), (151, i_ii (fun x y => x * y) 152), (152, i_ii (fun x y => x + y) 153), (153, i_istore 4 155), (155, i_iinc 5 1 158), (158, i_goto 10), (161, i_iload 4 163)]
set_option maxRecDepth 100000 in
theorem okX9_weightOf : gOk YX9_weightOf tX9_weightOf := ok_c (sn_aload_n (show decode cX9_weightOf 0 = .ok (.aload_n 0, 1) by decide +kernel) rfl) <|
  ok_c (sn_iconst (v := 0) (show decode cX9_weightOf 4 = .ok (.iconst 0, 1) by decide +kernel) (by decide +kernel)) <|
  ok_c (sn_istore (show decode cX9_weightOf 5 = .ok (.istore 4, 2) by decide +kernel) (by decide)) <|
  ok_c (sn_iconst (v := 0) (show decode cX9_weightOf 7 = .ok (.iconst 0, 1) by decide +kernel) (by decide +kernel)) <|
  ok_c (sn_istore (show decode cX9_weightOf 8 = .ok (.istore 5, 2) by decide +kernel) (by decide)) <|
  ok_c (sn_iload (show decode cX9_weightOf 10 = .ok (.iload 5, 2) by decide +kernel)) <|
  ok_c (sn_iconst (v := 1) (show decode cX9_weightOf 12 = .ok (.iconst 1, 1) by decide +kernel) (by decide +kernel)) <|
  ok_c (sn_aload_n (show decode cX9_weightOf 13 = .ok (.aload_n 0, 1) by decide +kernel) rfl) <|
  ok_c (sn_ishl (show decode cX9_weightOf 17 = .ok (.ishl, 1) by decide +kernel)) <|
  ok_c (sn_ic_ge (show decode cX9_weightOf 18 = .ok (.if_icmp .ge 143, 3) by decide +kernel) (by decide)) <|
  ok_c (sn_iconst (v := 1) (show decode cX9_weightOf 21 = .ok (.iconst 1, 1) by decide +kernel) (by decide +kernel)) <|
  ok_c (sn_istore (show decode cX9_weightOf 22 = .ok (.istore 6, 2) by decide +kernel) (by decide)) <|
  ok_c (sn_iconst (v := 0) (show decode cX9_weightOf 24 = .ok (.iconst 0, 1) by decide +kernel) (by decide +kernel)) <|
  ok_c (sn_istore (show decode cX9_weightOf 25 = .ok (.istore 7, 2) by decide +kernel) (by decide)) <|
  ok_c (sn_iload (show decode cX9_weightOf 27 = .ok (.iload 7, 2) by decide +kernel)) <|
  ok_c (sn_aload_n (show decode cX9_weightOf 29 = .ok (.aload_n 0, 1) by decide +kernel) rfl) <|
  ok_c (sn_ic_ge (show decode cX9_weightOf 33 = .ok (.if_icmp .ge 42, 3) by decide +kernel) (by decide)) <|
  ok_c (sn_iload (show decode cX9_weightOf 36 = .ok (.iload 6, 2) by decide +kernel)) <|
  ok_c (sn_iload (show decode cX9_weightOf 38 = .ok (.iload 5, 2) by decide +kernel)) <|
  ok_c (sn_iload (show decode cX9_weightOf 40 = .ok (.iload 7, 2) by decide +kernel)) <|
  ok_c (sn_if_eq (show decode cX9_weightOf 45 = .ok (.ifCond .eq 12, 3) by decide +kernel) (by decide)) <|
  ok_c (sn_aload_n (show decode cX9_weightOf 48 = .ok (.aload_n 0, 1) by decide +kernel) rfl) <|
  ok_c (sn_getC (j := 17) (fun _ _ => rfl) (sn_get ck_9 (by decide) (show decode cX9_weightOf 49 = .ok (.getfield 34, 3) by decide +kernel) wd_5_234)) <|
  ok_c (sn_iconst (v := 3) (show decode cX9_weightOf 52 = .ok (.iconst 3, 1) by decide +kernel) (by decide +kernel)) <|
  ok_c (sn_iald (show decode cX9_weightOf 53 = .ok (.iaload, 1) by decide +kernel)) <|
  ok_c (sn_goto (show decode cX9_weightOf 54 = .ok (.goto 12, 3) by decide +kernel) (by decide)) <|
  ok_c (sn_bipush (v := 10) (show decode cX9_weightOf 57 = .ok (.bipush 10, 2) by decide +kernel) (by decide +kernel)) <|
  ok_c (sn_aload_n (show decode cX9_weightOf 59 = .ok (.aload_n 0, 1) by decide +kernel) rfl) <|
  ok_c (sn_getC (j := 17) (fun _ _ => rfl) (sn_get ck_9 (by decide) (show decode cX9_weightOf 60 = .ok (.getfield 34, 3) by decide +kernel) wd_5_234)) <|
  ok_c (sn_iconst (v := 3) (show decode cX9_weightOf 63 = .ok (.iconst 3, 1) by decide +kernel) (by decide +kernel)) <|
  ok_c (sn_iald (show decode cX9_weightOf 64 = .ok (.iaload, 1) by decide +kernel)) <|
  ok_c (sn_isub (show decode cX9_weightOf 65 = .ok (.isub, 1) by decide +kernel)) <|
  ok_c (sn_imul (show decode cX9_weightOf 66 = .ok (.imul, 1) by decide +kernel)) <|
  ok_c (sn_istore (show decode cX9_weightOf 67 = .ok (.istore 6, 2) by decide +kernel) (by decide)) <|
  ok_c (sn_iinc (show decode cX9_weightOf 69 = .ok (.iinc 7 1, 3) by decide +kernel) (by decide) (by decide +kernel)) <|
  ok_c (sn_goto (show decode cX9_weightOf 72 = .ok (.goto (-45), 3) by decide +kernel) (by decide)) <|
  ok_c (sn_iload (show decode cX9_weightOf 75 = .ok (.iload 6, 2) by decide +kernel)) <|
  ok_c (sn_if_ne (show decode cX9_weightOf 77 = .ok (.ifCond .ne 6, 3) by decide +kernel) (by decide)) <|
  ok_c (sn_goto (show decode cX9_weightOf 80 = .ok (.goto 75, 3) by decide +kernel) (by decide)) <|
  ok_c (sn_aload_n (show decode cX9_weightOf 83 = .ok (.aload_n 0, 1) by decide +kernel) rfl) <|
  ok_c (sn_iload (show decode cX9_weightOf 84 = .ok (.iload 5, 2) by decide +kernel)) <|
  ok_c (sn_putI ck_9 (by decide) rfl rfl (show decode cX9_weightOf 86 = .ok (.putfield 262, 3) by decide +kernel) wd_6_2) <|
  ok_c (sn_aload_n (show decode cX9_weightOf 89 = .ok (.aload_n 0, 1) by decide +kernel) rfl) <|
  ok_c (sn_iconst (v := 0) (show decode cX9_weightOf 90 = .ok (.iconst 0, 1) by decide +kernel) (by decide +kernel)) <|
  ok_c (sn_iload (show decode cX9_weightOf 94 = .ok (.iload 4, 2) by decide +kernel)) <|
  ok_c (sn_iload (show decode cX9_weightOf 96 = .ok (.iload 6, 2) by decide +kernel)) <|
  ok_c (sn_iload_n (show decode cX9_weightOf 98 = .ok (.iload_n 1, 1) by decide +kernel) rfl) <|
  ok_c (sn_if_ne (show decode cX9_weightOf 99 = .ok (.ifCond .ne 24, 3) by decide +kernel) (by decide)) <|
  ok_c (sn_aload_n (show decode cX9_weightOf 102 = .ok (.aload_n 0, 1) by decide +kernel) rfl) <|
  ok_c (sn_iload_n (show decode cX9_weightOf 103 = .ok (.iload_n 2, 1) by decide +kernel) rfl) <|
  ok_c (sn_iconst (v := 0) (show decode cX9_weightOf 104 = .ok (.iconst 0, 1) by decide +kernel) (by decide +kernel)) <|
  ok_c (sn_iload_n (show decode cX9_weightOf 108 = .ok (.iload_n 3, 1) by decide +kernel) rfl) <|
  ok_c (sn_if_eq (show decode cX9_weightOf 112 = .ok (.ifCond .eq 7, 3) by decide +kernel) (by decide)) <|
  ok_c (sn_iconst (v := 1) (show decode cX9_weightOf 115 = .ok (.iconst 1, 1) by decide +kernel) (by decide +kernel)) <|
  ok_c (sn_goto (show decode cX9_weightOf 116 = .ok (.goto 35, 3) by decide +kernel) (by decide)) <|
  ok_c (sn_iconst (v := 0) (show decode cX9_weightOf 119 = .ok (.iconst 0, 1) by decide +kernel) (by decide +kernel)) <|
  ok_c (sn_goto (show decode cX9_weightOf 120 = .ok (.goto 31, 3) by decide +kernel) (by decide)) <|
  ok_c (sn_iload_n (show decode cX9_weightOf 123 = .ok (.iload_n 1, 1) by decide +kernel) rfl) <|
  ok_c (sn_iconst (v := 1) (show decode cX9_weightOf 124 = .ok (.iconst 1, 1) by decide +kernel) (by decide +kernel)) <|
  ok_c (sn_ic_ne (show decode cX9_weightOf 125 = .ok (.if_icmp .ne 21, 3) by decide +kernel) (by decide)) <|
  ok_c (sn_aload_n (show decode cX9_weightOf 128 = .ok (.aload_n 0, 1) by decide +kernel) rfl) <|
  ok_c (sn_iload_n (show decode cX9_weightOf 129 = .ok (.iload_n 2, 1) by decide +kernel) rfl) <|
  ok_c (sn_iload_n (show decode cX9_weightOf 130 = .ok (.iload_n 3, 1) by decide +kernel) rfl) <|
  ok_c (sn_iconst (v := 0) (show decode cX9_weightOf 131 = .ok (.iconst 0, 1) by decide +kernel) (by decide +kernel)) <|
  ok_c (sn_if_eq (show decode cX9_weightOf 135 = .ok (.ifCond .eq 7, 3) by decide +kernel) (by decide)) <|
  ok_c (sn_iconst (v := 1) (show decode cX9_weightOf 138 = .ok (.iconst 1, 1) by decide +kernel) (by decide +kernel)) <|
  ok_c (sn_goto (show decode cX9_weightOf 139 = .ok (.goto 12, 3) by decide +kernel) (by decide)) <|
  ok_c (sn_iconst (v := 0) (show decode cX9_weightOf 142 = .ok (.iconst 0, 1) by decide +kernel) (by decide +kernel)) <|
  ok_c (sn_goto (show decode cX9_weightOf 143 = .ok (.goto 8, 3) by decide +kernel) (by decide)) <|
  ok_c (sn_aload_n (show decode cX9_weightOf 146 = .ok (.aload_n 0, 1) by decide +kernel) rfl) <|
  ok_c (sn_iconst (v := 0) (show decode cX9_weightOf 147 = .ok (.iconst 0, 1) by decide +kernel) (by decide +kernel)) <|
  ok_c (sn_imul (show decode cX9_weightOf 151 = .ok (.imul, 1) by decide +kernel)) <|
  ok_c (sn_iadd (show decode cX9_weightOf 152 = .ok (.iadd, 1) by decide +kernel)) <|
  ok_c (sn_istore (show decode cX9_weightOf 153 = .ok (.istore 4, 2) by decide +kernel) (by decide)) <|
  ok_c (sn_iinc (show decode cX9_weightOf 155 = .ok (.iinc 5 1, 3) by decide +kernel) (by decide) (by decide +kernel)) <|
  ok_c (sn_goto (show decode cX9_weightOf 158 = .ok (.goto (-148), 3) by decide +kernel) (by decide)) <|
  ok_c (sn_iload (show decode cX9_weightOf 161 = .ok (.iload 4, 2) by decide +kernel)) <|
  ok_n
def uX9_weightOf : gCT := [(1, YX9_lays, 1, some 9), (14, YX9_joins, 1, some 9), (30, YX9_joins, 1, some 9), (42, YX9_isBit, 2, none), (91, YX9_runs, 2, some 9), (105, YX9_firmOf, 3, some 9), (109, YX9_isBit, 2, none), (132, YX9_goesThrough, 4, some 9), (148, YX9_firmsAt, 2, some 9)]
set_option maxRecDepth 100000 in
theorem ocX9_weightOf : gOkC YX9_weightOf uX9_weightOf := oc_c (gEdge_V cal_X9_lays ck_9 rfl (show decode cX9_weightOf 1 = .ok (.invokevirtual 329, 3) by decide +kernel) wd_7_91 wd_7_93 wp_5_13) <|
  oc_c (gEdge_V cal_X9_joins ck_9 rfl (show decode cX9_weightOf 14 = .ok (.invokevirtual 250, 3) by decide +kernel) wd_7_63 wd_7_65 wp_5_8) <|
  oc_c (gEdge_V cal_X9_joins ck_9 rfl (show decode cX9_weightOf 30 = .ok (.invokevirtual 250, 3) by decide +kernel) wd_7_63 wd_7_65 wp_5_8) <|
  oc_c (gEdge_S cal_X9_isBit (show decode cX9_weightOf 42 = .ok (.invokestatic 281, 3) by decide +kernel) wd_7_115 wd_7_116) <|
  oc_c (gEdge_V cal_X9_runs ck_9 rfl (show decode cX9_weightOf 91 = .ok (.invokevirtual 326, 3) by decide +kernel) wd_7_99 wd_7_101 wp_5_15) <|
  oc_c (gEdge_V cal_X9_firmOf ck_9 rfl (show decode cX9_weightOf 105 = .ok (.invokevirtual 311, 3) by decide +kernel) wd_7_134 wd_7_136 wp_6_7) <|
  oc_c (gEdge_S cal_X9_isBit (show decode cX9_weightOf 109 = .ok (.invokestatic 281, 3) by decide +kernel) wd_7_115 wd_7_116) <|
  oc_c (gEdge_V cal_X9_goesThrough ck_9 rfl (show decode cX9_weightOf 132 = .ok (.invokevirtual 372, 3) by decide +kernel) wd_7_205 wd_7_207 wp_7_3) <|
  oc_c (gEdge_V cal_X9_firmsAt ck_9 rfl (show decode cX9_weightOf 148 = .ok (.invokevirtual 369, 3) by decide +kernel) wd_7_174 wd_7_176 wp_6_14) <|
  oc_n
theorem reX9_weightOf : ∀ pc ∈ [163], decode cX9_weightOf pc = .ok (.ireturn, 1) := by decide +kernel
def tX9_chance : List (Nat × gStp) := [(0, i_aload 0 1), (1, i_push (.int 0) 2), (2, i_putI 9 0 5), (5, i_aload 0 6), (6, i_iload 1 7), (7, i_iload 2 8), (11, i_if_eq 39 14), (14, i_iload 3 15), (18, i_if_eq 39 21), (21, i_aload 0 22), (22, i_push (.int 0) 23), (23, i_iload 1 24), (24, i_iload 2 25), (28, i_aload 0 29), (32, i_iload 3 33), (36, i_goto 41), (39, i_push (.int (-2)) 41)]
set_option maxRecDepth 100000 in
theorem okX9_chance : gOk YX9_chance tX9_chance := ok_c (sn_aload_n (show decode cX9_chance 0 = .ok (.aload_n 0, 1) by decide +kernel) rfl) <|
  ok_c (sn_iconst (v := 0) (show decode cX9_chance 1 = .ok (.iconst 0, 1) by decide +kernel) (by decide +kernel)) <|
  ok_c (sn_putI ck_9 (by decide) rfl rfl (show decode cX9_chance 2 = .ok (.putfield 77, 3) by decide +kernel) wd_5_217) <|
  ok_c (sn_aload_n (show decode cX9_chance 5 = .ok (.aload_n 0, 1) by decide +kernel) rfl) <|
  ok_c (sn_iload_n (show decode cX9_chance 6 = .ok (.iload_n 1, 1) by decide +kernel) rfl) <|
  ok_c (sn_iload_n (show decode cX9_chance 7 = .ok (.iload_n 2, 1) by decide +kernel) rfl) <|
  ok_c (sn_if_eq (show decode cX9_chance 11 = .ok (.ifCond .eq 28, 3) by decide +kernel) (by decide)) <|
  ok_c (sn_iload_n (show decode cX9_chance 14 = .ok (.iload_n 3, 1) by decide +kernel) rfl) <|
  ok_c (sn_if_eq (show decode cX9_chance 18 = .ok (.ifCond .eq 21, 3) by decide +kernel) (by decide)) <|
  ok_c (sn_aload_n (show decode cX9_chance 21 = .ok (.aload_n 0, 1) by decide +kernel) rfl) <|
  ok_c (sn_iconst (v := 0) (show decode cX9_chance 22 = .ok (.iconst 0, 1) by decide +kernel) (by decide +kernel)) <|
  ok_c (sn_iload_n (show decode cX9_chance 23 = .ok (.iload_n 1, 1) by decide +kernel) rfl) <|
  ok_c (sn_iload_n (show decode cX9_chance 24 = .ok (.iload_n 2, 1) by decide +kernel) rfl) <|
  ok_c (sn_aload_n (show decode cX9_chance 28 = .ok (.aload_n 0, 1) by decide +kernel) rfl) <|
  ok_c (sn_iload_n (show decode cX9_chance 32 = .ok (.iload_n 3, 1) by decide +kernel) rfl) <|
  ok_c (sn_goto (show decode cX9_chance 36 = .ok (.goto 5, 3) by decide +kernel) (by decide)) <|
  ok_c (sn_bipush (v := (-2)) (show decode cX9_chance 39 = .ok (.bipush (-2), 2) by decide +kernel) (by decide +kernel)) <|
  ok_n
def uX9_chance : gCT := [(8, YX9_areTwo, 3, some 9), (15, YX9_isHalf, 1, none), (25, YX9_weightOf, 4, some 9), (29, YX9_tens, 1, some 9), (33, YX9_part, 3, none)]
set_option maxRecDepth 100000 in
theorem ocX9_chance : gOkC YX9_chance uX9_chance := oc_c (gEdge_V cal_X9_areTwo ck_9 rfl (show decode cX9_chance 8 = .ok (.invokevirtual 360, 3) by decide +kernel) wd_7_158 wd_7_160 wp_6_12) <|
  oc_c (gEdge_S cal_X9_isHalf (show decode cX9_chance 15 = .ok (.invokestatic 399, 3) by decide +kernel) wd_8_69 wd_8_70) <|
  oc_c (gEdge_V cal_X9_weightOf ck_9 rfl (show decode cX9_chance 25 = .ok (.invokevirtual 482, 3) by decide +kernel) wd_8_218 wd_8_220 wp_8_9) <|
  oc_c (gEdge_V cal_X9_tens ck_9 rfl (show decode cX9_chance 29 = .ok (.invokevirtual 485, 3) by decide +kernel) wd_8_222 wd_8_224 wp_8_10) <|
  oc_c (gEdge_S cal_X9_part (show decode cX9_chance 33 = .ok (.invokestatic 405, 3) by decide +kernel) wd_8_79 wd_8_80) <|
  oc_n
theorem reX9_chance : ∀ pc ∈ [41], decode cX9_chance pc = .ok (.ireturn, 1) := by decide +kernel
def tX9_through : List (Nat × gStp) := [(0, i_aload 0 1), (1, i_push (.int 0) 2), (2, i_putI 9 0 5), (5, i_aload 0 6), (6, i_iload 1 7), (7, i_i2l 8), (11, i_if_eq 48 14), (14, i_aload 0 15), (15, i_iload 2 16), (16, i_i2l 17), (20, i_if_eq 48 23), (23, i_iload 3 24), (27, i_if_eq 48 30), (30, i_aload 0 31), (31, i_push (.int 1) 32), (32, i_iload 1 33), (33, i_iload 2 34), (37, i_aload 0 38), (41, i_iload 3 42), (45, i_goto 50), (48, i_push (.int (-2)) 50)]
set_option maxRecDepth 100000 in
theorem okX9_through : gOk YX9_through tX9_through := ok_c (sn_aload_n (show decode cX9_through 0 = .ok (.aload_n 0, 1) by decide +kernel) rfl) <|
  ok_c (sn_iconst (v := 0) (show decode cX9_through 1 = .ok (.iconst 0, 1) by decide +kernel) (by decide +kernel)) <|
  ok_c (sn_putI ck_9 (by decide) rfl rfl (show decode cX9_through 2 = .ok (.putfield 77, 3) by decide +kernel) wd_5_217) <|
  ok_c (sn_aload_n (show decode cX9_through 5 = .ok (.aload_n 0, 1) by decide +kernel) rfl) <|
  ok_c (sn_iload_n (show decode cX9_through 6 = .ok (.iload_n 1, 1) by decide +kernel) rfl) <|
  ok_c (sn_i2l (show decode cX9_through 7 = .ok (.i2l, 1) by decide +kernel)) <|
  ok_c (sn_if_eq (show decode cX9_through 11 = .ok (.ifCond .eq 37, 3) by decide +kernel) (by decide)) <|
  ok_c (sn_aload_n (show decode cX9_through 14 = .ok (.aload_n 0, 1) by decide +kernel) rfl) <|
  ok_c (sn_iload_n (show decode cX9_through 15 = .ok (.iload_n 2, 1) by decide +kernel) rfl) <|
  ok_c (sn_i2l (show decode cX9_through 16 = .ok (.i2l, 1) by decide +kernel)) <|
  ok_c (sn_if_eq (show decode cX9_through 20 = .ok (.ifCond .eq 28, 3) by decide +kernel) (by decide)) <|
  ok_c (sn_iload_n (show decode cX9_through 23 = .ok (.iload_n 3, 1) by decide +kernel) rfl) <|
  ok_c (sn_if_eq (show decode cX9_through 27 = .ok (.ifCond .eq 21, 3) by decide +kernel) (by decide)) <|
  ok_c (sn_aload_n (show decode cX9_through 30 = .ok (.aload_n 0, 1) by decide +kernel) rfl) <|
  ok_c (sn_iconst (v := 1) (show decode cX9_through 31 = .ok (.iconst 1, 1) by decide +kernel) (by decide +kernel)) <|
  ok_c (sn_iload_n (show decode cX9_through 32 = .ok (.iload_n 1, 1) by decide +kernel) rfl) <|
  ok_c (sn_iload_n (show decode cX9_through 33 = .ok (.iload_n 2, 1) by decide +kernel) rfl) <|
  ok_c (sn_aload_n (show decode cX9_through 37 = .ok (.aload_n 0, 1) by decide +kernel) rfl) <|
  ok_c (sn_iload_n (show decode cX9_through 41 = .ok (.iload_n 3, 1) by decide +kernel) rfl) <|
  ok_c (sn_goto (show decode cX9_through 45 = .ok (.goto 5, 3) by decide +kernel) (by decide)) <|
  ok_c (sn_bipush (v := (-2)) (show decode cX9_through 48 = .ok (.bipush (-2), 2) by decide +kernel) (by decide +kernel)) <|
  ok_n
def uX9_through : gCT := [(8, YX9_isPerson, 2, some 9), (17, YX9_isDoor, 2, some 9), (24, YX9_isHalf, 1, none), (34, YX9_weightOf, 4, some 9), (38, YX9_tens, 1, some 9), (42, YX9_part, 3, none)]
set_option maxRecDepth 100000 in
theorem ocX9_through : gOkC YX9_through uX9_through := oc_c (gEdge_V cal_X9_isPerson ck_9 rfl (show decode cX9_through 8 = .ok (.invokevirtual 247, 3) by decide +kernel) wd_7_46 wd_7_48 wp_5_5) <|
  oc_c (gEdge_V cal_X9_isDoor ck_9 rfl (show decode cX9_through 17 = .ok (.invokevirtual 351, 3) by decide +kernel) wd_7_71 wd_7_73 wp_5_9) <|
  oc_c (gEdge_S cal_X9_isHalf (show decode cX9_through 24 = .ok (.invokestatic 399, 3) by decide +kernel) wd_8_69 wd_8_70) <|
  oc_c (gEdge_V cal_X9_weightOf ck_9 rfl (show decode cX9_through 34 = .ok (.invokevirtual 482, 3) by decide +kernel) wd_8_218 wd_8_220 wp_8_9) <|
  oc_c (gEdge_V cal_X9_tens ck_9 rfl (show decode cX9_through 38 = .ok (.invokevirtual 485, 3) by decide +kernel) wd_8_222 wd_8_224 wp_8_10) <|
  oc_c (gEdge_S cal_X9_part (show decode cX9_through 42 = .ok (.invokestatic 405, 3) by decide +kernel) wd_8_79 wd_8_80) <|
  oc_n
theorem reX9_through : ∀ pc ∈ [50], decode cX9_through pc = .ok (.ireturn, 1) := by decide +kernel
def tX9_mean : List (Nat × gStp) := [(0, i_aload 0 1), (1, i_push (.int 0) 2), (2, i_putI 9 0 5), (5, i_aload 0 6), (9, i_if_eq 37 12), (12, i_iload 1 13), (16, i_if_eq 37 19), (19, i_aload 0 20), (20, i_push (.int 2) 21), (21, i_push (.int 0) 22), (22, i_push (.int 0) 23), (26, i_aload 0 27), (30, i_iload 1 31), (34, i_goto 39), (37, i_push (.int (-2)) 39)]
set_option maxRecDepth 100000 in
theorem okX9_mean : gOk YX9_mean tX9_mean := ok_c (sn_aload_n (show decode cX9_mean 0 = .ok (.aload_n 0, 1) by decide +kernel) rfl) <|
  ok_c (sn_iconst (v := 0) (show decode cX9_mean 1 = .ok (.iconst 0, 1) by decide +kernel) (by decide +kernel)) <|
  ok_c (sn_putI ck_9 (by decide) rfl rfl (show decode cX9_mean 2 = .ok (.putfield 77, 3) by decide +kernel) wd_5_217) <|
  ok_c (sn_aload_n (show decode cX9_mean 5 = .ok (.aload_n 0, 1) by decide +kernel) rfl) <|
  ok_c (sn_if_eq (show decode cX9_mean 9 = .ok (.ifCond .eq 28, 3) by decide +kernel) (by decide)) <|
  ok_c (sn_iload_n (show decode cX9_mean 12 = .ok (.iload_n 1, 1) by decide +kernel) rfl) <|
  ok_c (sn_if_eq (show decode cX9_mean 16 = .ok (.ifCond .eq 21, 3) by decide +kernel) (by decide)) <|
  ok_c (sn_aload_n (show decode cX9_mean 19 = .ok (.aload_n 0, 1) by decide +kernel) rfl) <|
  ok_c (sn_iconst (v := 2) (show decode cX9_mean 20 = .ok (.iconst 2, 1) by decide +kernel) (by decide +kernel)) <|
  ok_c (sn_iconst (v := 0) (show decode cX9_mean 21 = .ok (.iconst 0, 1) by decide +kernel) (by decide +kernel)) <|
  ok_c (sn_iconst (v := 0) (show decode cX9_mean 22 = .ok (.iconst 0, 1) by decide +kernel) (by decide +kernel)) <|
  ok_c (sn_aload_n (show decode cX9_mean 26 = .ok (.aload_n 0, 1) by decide +kernel) rfl) <|
  ok_c (sn_iload_n (show decode cX9_mean 30 = .ok (.iload_n 1, 1) by decide +kernel) rfl) <|
  ok_c (sn_goto (show decode cX9_mean 34 = .ok (.goto 5, 3) by decide +kernel) (by decide)) <|
  ok_c (sn_bipush (v := (-2)) (show decode cX9_mean 37 = .ok (.bipush (-2), 2) by decide +kernel) (by decide +kernel)) <|
  ok_n
def uX9_mean : gCT := [(6, YX9_isCity, 1, some 9), (13, YX9_isHalf, 1, none), (23, YX9_weightOf, 4, some 9), (27, YX9_tens, 1, some 9), (31, YX9_part, 3, none)]
set_option maxRecDepth 100000 in
theorem ocX9_mean : gOkC YX9_mean uX9_mean := oc_c (gEdge_V cal_X9_isCity ck_9 rfl (show decode cX9_mean 6 = .ok (.invokevirtual 378, 3) by decide +kernel) wd_8_17 wd_8_19 wp_7_5) <|
  oc_c (gEdge_S cal_X9_isHalf (show decode cX9_mean 13 = .ok (.invokestatic 399, 3) by decide +kernel) wd_8_69 wd_8_70) <|
  oc_c (gEdge_V cal_X9_weightOf ck_9 rfl (show decode cX9_mean 23 = .ok (.invokevirtual 482, 3) by decide +kernel) wd_8_218 wd_8_220 wp_8_9) <|
  oc_c (gEdge_V cal_X9_tens ck_9 rfl (show decode cX9_mean 27 = .ok (.invokevirtual 485, 3) by decide +kernel) wd_8_222 wd_8_224 wp_8_10) <|
  oc_c (gEdge_S cal_X9_part (show decode cX9_mean 31 = .ok (.invokestatic 405, 3) by decide +kernel) wd_8_79 wd_8_80) <|
  oc_n
theorem reX9_mean : ∀ pc ∈ [39], decode cX9_mean pc = .ok (.ireturn, 1) := by decide +kernel
def tX9_draws : List (Nat × gStp) := [(0, i_aload 0 1), (4, i_lload 1 5), (5, i_lstore 3 6), (6, i_push (.int 0) 7), (7, i_istore 5 9), (9, i_iload 5 11), (11, i_aload 0 12), (15, i_ic_ge 75 18), (18, i_push (.long 1103515245) 21), (21, i_lload 3 22), (22, i_ll (fun x y => x * y) 23), (23, i_push (.long 12345) 26), (26, i_ll (fun x y => x + y) 27), (27, i_push (.long 2147483648) 30), (30, i_ldiv (fun x y => x - x / y * y) 31), (31, i_lstore 3 32), (32, i_aload 0 33), (33, i_dup 34), (34, i_getI 9 25 37), (37, i_lload 3 38), (38, i_push (.long 65536) 41), (41, i_ldiv (fun x y => x / y) 42), (42, i_push (.long 10) 45), (45, i_ldiv (fun x y => x - x / y * y) 46), (46, i_aload 0 47), (47, i_getC 9 148 50), (50, i_push (.int 3) 51), (51, i_iald 52), (52, i_i2l 53), (53, i_lcmp 54), (54, i_if_ge 64 57), (57, i_push (.int 1) 58), (58, i_iload 5 60), (60, i_ii (fun x y => x <<< (y &&& 31)) 61), (61, i_goto 65), (64, i_push (.int 0) 65), (65, i_ii (fun x y => x ||| y) 66), (66, i_putI 9 25 69), (69, i_iinc 5 1 72), (72, i_goto 9), (75, i_aload 0 76)]
set_option maxRecDepth 100000 in
theorem okX9_draws : gOk YX9_draws tX9_draws := ok_c (sn_aload_n (show decode cX9_draws 0 = .ok (.aload_n 0, 1) by decide +kernel) rfl) <|
  ok_c (sn_lload_n (show decode cX9_draws 4 = .ok (.lload_n 1, 1) by decide +kernel) rfl) <|
  ok_c (sn_lstore_n (show decode cX9_draws 5 = .ok (.lstore_n 3, 1) by decide +kernel) rfl (by decide)) <|
  ok_c (sn_iconst (v := 0) (show decode cX9_draws 6 = .ok (.iconst 0, 1) by decide +kernel) (by decide +kernel)) <|
  ok_c (sn_istore (show decode cX9_draws 7 = .ok (.istore 5, 2) by decide +kernel) (by decide)) <|
  ok_c (sn_iload (show decode cX9_draws 9 = .ok (.iload 5, 2) by decide +kernel)) <|
  ok_c (sn_aload_n (show decode cX9_draws 11 = .ok (.aload_n 0, 1) by decide +kernel) rfl) <|
  ok_c (sn_ic_ge (show decode cX9_draws 15 = .ok (.if_icmp .ge 60, 3) by decide +kernel) (by decide)) <|
  ok_c (sn_ldc2 (show decode cX9_draws 18 = .ok (.ldc2_w 488, 3) by decide +kernel) wd_9_6) <|
  ok_c (sn_lload_n (show decode cX9_draws 21 = .ok (.lload_n 3, 1) by decide +kernel) rfl) <|
  ok_c (sn_lmul (show decode cX9_draws 22 = .ok (.lmul, 1) by decide +kernel)) <|
  ok_c (sn_ldc2 (show decode cX9_draws 23 = .ok (.ldc2_w 490, 3) by decide +kernel) wd_9_7) <|
  ok_c (sn_ladd (show decode cX9_draws 26 = .ok (.ladd, 1) by decide +kernel)) <|
  ok_c (sn_ldc2 (show decode cX9_draws 27 = .ok (.ldc2_w 492, 3) by decide +kernel) wd_9_8) <|
  ok_c (sn_lrem (show decode cX9_draws 30 = .ok (.lrem, 1) by decide +kernel)) <|
  ok_c (sn_lstore_n (show decode cX9_draws 31 = .ok (.lstore_n 3, 1) by decide +kernel) rfl (by decide)) <|
  ok_c (sn_aload_n (show decode cX9_draws 32 = .ok (.aload_n 0, 1) by decide +kernel) rfl) <|
  ok_c (sn_dup (show decode cX9_draws 33 = .ok (.dup, 1) by decide +kernel)) <|
  ok_c (sn_getI (fun _ _ => rfl) (sn_get ck_9 (by decide) (show decode cX9_draws 34 = .ok (.getfield 262, 3) by decide +kernel) wd_6_2)) <|
  ok_c (sn_lload_n (show decode cX9_draws 37 = .ok (.lload_n 3, 1) by decide +kernel) rfl) <|
  ok_c (sn_ldc2 (show decode cX9_draws 38 = .ok (.ldc2_w 494, 3) by decide +kernel) wd_9_9) <|
  ok_c (sn_ldiv (show decode cX9_draws 41 = .ok (.ldiv, 1) by decide +kernel)) <|
  ok_c (sn_ldc2 (show decode cX9_draws 42 = .ok (.ldc2_w 496, 3) by decide +kernel) wd_9_10) <|
  ok_c (sn_lrem (show decode cX9_draws 45 = .ok (.lrem, 1) by decide +kernel)) <|
  ok_c (sn_aload_n (show decode cX9_draws 46 = .ok (.aload_n 0, 1) by decide +kernel) rfl) <|
  ok_c (sn_getC (j := 17) (fun _ _ => rfl) (sn_get ck_9 (by decide) (show decode cX9_draws 47 = .ok (.getfield 34, 3) by decide +kernel) wd_5_234)) <|
  ok_c (sn_iconst (v := 3) (show decode cX9_draws 50 = .ok (.iconst 3, 1) by decide +kernel) (by decide +kernel)) <|
  ok_c (sn_iald (show decode cX9_draws 51 = .ok (.iaload, 1) by decide +kernel)) <|
  ok_c (sn_i2l (show decode cX9_draws 52 = .ok (.i2l, 1) by decide +kernel)) <|
  ok_c (sn_lcmp (show decode cX9_draws 53 = .ok (.lcmp, 1) by decide +kernel)) <|
  ok_c (sn_if_ge (show decode cX9_draws 54 = .ok (.ifCond .ge 10, 3) by decide +kernel) (by decide)) <|
  ok_c (sn_iconst (v := 1) (show decode cX9_draws 57 = .ok (.iconst 1, 1) by decide +kernel) (by decide +kernel)) <|
  ok_c (sn_iload (show decode cX9_draws 58 = .ok (.iload 5, 2) by decide +kernel)) <|
  ok_c (sn_ishl (show decode cX9_draws 60 = .ok (.ishl, 1) by decide +kernel)) <|
  ok_c (sn_goto (show decode cX9_draws 61 = .ok (.goto 4, 3) by decide +kernel) (by decide)) <|
  ok_c (sn_iconst (v := 0) (show decode cX9_draws 64 = .ok (.iconst 0, 1) by decide +kernel) (by decide +kernel)) <|
  ok_c (sn_ior (show decode cX9_draws 65 = .ok (.ior, 1) by decide +kernel)) <|
  ok_c (sn_putI ck_9 (by decide) rfl rfl (show decode cX9_draws 66 = .ok (.putfield 262, 3) by decide +kernel) wd_6_2) <|
  ok_c (sn_iinc (show decode cX9_draws 69 = .ok (.iinc 5 1, 3) by decide +kernel) (by decide) (by decide +kernel)) <|
  ok_c (sn_goto (show decode cX9_draws 72 = .ok (.goto (-63), 3) by decide +kernel) (by decide)) <|
  ok_c (sn_aload_n (show decode cX9_draws 75 = .ok (.aload_n 0, 1) by decide +kernel) rfl) <|
  ok_n
def uX9_draws : gCT := [(1, YX9_lays, 1, some 9), (12, YX9_joins, 1, some 9), (76, YX9_runs_, 1, some 9)]
set_option maxRecDepth 100000 in
theorem ocX9_draws : gOkC YX9_draws uX9_draws := oc_c (gEdge_V cal_X9_lays ck_9 rfl (show decode cX9_draws 1 = .ok (.invokevirtual 329, 3) by decide +kernel) wd_7_91 wd_7_93 wp_5_13) <|
  oc_c (gEdge_V cal_X9_joins ck_9 rfl (show decode cX9_draws 12 = .ok (.invokevirtual 250, 3) by decide +kernel) wd_7_63 wd_7_65 wp_5_8) <|
  oc_c (gEdge_V cal_X9_runs_ ck_9 rfl (show decode cX9_draws 76 = .ok (.invokevirtual 332, 3) by decide +kernel) wd_7_95 wd_7_97 wp_5_14) <|
  oc_n
theorem reX9_draws : ∀ pc ∈ [79], decode cX9_draws pc = .ok (.return_, 1) := by decide +kernel
def tX9_isSeed : List (Nat × gStp) := [(0, i_iload 0 1), (1, i_i2l 2), (2, i_push (.long 0) 3), (3, i_push (.long 2000000000) 6)]
set_option maxRecDepth 100000 in
theorem okX9_isSeed : gOk YX9_isSeed tX9_isSeed := ok_c (sn_iload_n (show decode cX9_isSeed 0 = .ok (.iload_n 0, 1) by decide +kernel) rfl) <|
  ok_c (sn_i2l (show decode cX9_isSeed 1 = .ok (.i2l, 1) by decide +kernel)) <|
  ok_c (sn_lconst (v := 0) (show decode cX9_isSeed 2 = .ok (.lconst 0, 1) by decide +kernel) (by decide +kernel)) <|
  ok_c (sn_ldc2 (show decode cX9_isSeed 3 = .ok (.ldc2_w 498, 3) by decide +kernel) wd_9_1) <|
  ok_n
def uX9_isSeed : gCT := [(6, YX9_in, 3, none)]
set_option maxRecDepth 100000 in
theorem ocX9_isSeed : gOkC YX9_isSeed uX9_isSeed := oc_c (gEdge_S cal_X9_in (show decode cX9_isSeed 6 = .ok (.invokestatic 82, 3) by decide +kernel) wd_6_134 wd_6_135) <|
  oc_n
theorem reX9_isSeed : ∀ pc ∈ [9], decode cX9_isSeed pc = .ok (.ireturn, 1) := by decide +kernel
def tX9_drawn : List (Nat × gStp) := [(0, i_aload 0 1), (1, i_push (.int 0) 2), (2, i_putI 9 0 5), (5, i_aload 0 6), (9, i_if_eq 26 12), (12, i_iload 1 13), (16, i_if_eq 26 19), (19, i_iload 2 20), (23, i_if_ne 29 26), (26, i_push (.int (-2)) 28), (29, i_aload 0 30), (30, i_iload 1 31), (31, i_i2l 32), (35, i_iload 2 36), (36, i_if_ne 52 39), (39, i_aload 0 40), (40, i_aload 0 41), (44, i_push (.int 1) 45), (45, i_ii (fun x y => x - y) 46), (49, i_goto 56), (52, i_aload 0 53), (53, i_getI 9 25 56)]
set_option maxRecDepth 100000 in
theorem okX9_drawn : gOk YX9_drawn tX9_drawn := ok_c (sn_aload_n (show decode cX9_drawn 0 = .ok (.aload_n 0, 1) by decide +kernel) rfl) <|
  ok_c (sn_iconst (v := 0) (show decode cX9_drawn 1 = .ok (.iconst 0, 1) by decide +kernel) (by decide +kernel)) <|
  ok_c (sn_putI ck_9 (by decide) rfl rfl (show decode cX9_drawn 2 = .ok (.putfield 77, 3) by decide +kernel) wd_5_217) <|
  ok_c (sn_aload_n (show decode cX9_drawn 5 = .ok (.aload_n 0, 1) by decide +kernel) rfl) <|
  ok_c (sn_if_eq (show decode cX9_drawn 9 = .ok (.ifCond .eq 17, 3) by decide +kernel) (by decide)) <|
  ok_c (sn_iload_n (show decode cX9_drawn 12 = .ok (.iload_n 1, 1) by decide +kernel) rfl) <|
  ok_c (sn_if_eq (show decode cX9_drawn 16 = .ok (.ifCond .eq 10, 3) by decide +kernel) (by decide)) <|
  ok_c (sn_iload_n (show decode cX9_drawn 19 = .ok (.iload_n 2, 1) by decide +kernel) rfl) <|
  ok_c (sn_if_ne (show decode cX9_drawn 23 = .ok (.ifCond .ne 6, 3) by decide +kernel) (by decide)) <|
  ok_c (sn_bipush (v := (-2)) (show decode cX9_drawn 26 = .ok (.bipush (-2), 2) by decide +kernel) (by decide +kernel)) <|
  ok_c (sn_aload_n (show decode cX9_drawn 29 = .ok (.aload_n 0, 1) by decide +kernel) rfl) <|
  ok_c (sn_iload_n (show decode cX9_drawn 30 = .ok (.iload_n 1, 1) by decide +kernel) rfl) <|
  ok_c (sn_i2l (show decode cX9_drawn 31 = .ok (.i2l, 1) by decide +kernel)) <|
  ok_c (sn_iload_n (show decode cX9_drawn 35 = .ok (.iload_n 2, 1) by decide +kernel) rfl) <|
  ok_c (sn_if_ne (show decode cX9_drawn 36 = .ok (.ifCond .ne 16, 3) by decide +kernel) (by decide)) <|
  ok_c (sn_aload_n (show decode cX9_drawn 39 = .ok (.aload_n 0, 1) by decide +kernel) rfl) <|
  ok_c (sn_aload_n (show decode cX9_drawn 40 = .ok (.aload_n 0, 1) by decide +kernel) rfl) <|
  ok_c (sn_iconst (v := 1) (show decode cX9_drawn 44 = .ok (.iconst 1, 1) by decide +kernel) (by decide +kernel)) <|
  ok_c (sn_isub (show decode cX9_drawn 45 = .ok (.isub, 1) by decide +kernel)) <|
  ok_c (sn_goto (show decode cX9_drawn 49 = .ok (.goto 7, 3) by decide +kernel) (by decide)) <|
  ok_c (sn_aload_n (show decode cX9_drawn 52 = .ok (.aload_n 0, 1) by decide +kernel) rfl) <|
  ok_c (sn_getI (fun _ _ => rfl) (sn_get ck_9 (by decide) (show decode cX9_drawn 53 = .ok (.getfield 262, 3) by decide +kernel) wd_6_2)) <|
  ok_n
def uX9_drawn : gCT := [(6, YX9_isCity, 1, some 9), (13, YX9_isSeed, 1, none), (20, YX9_isHalf, 1, none), (32, YX9_draws, 2, some 9), (41, YX9_years, 1, some 9), (46, YX9_outBits, 2, some 9)]
set_option maxRecDepth 100000 in
theorem ocX9_drawn : gOkC YX9_drawn uX9_drawn := oc_c (gEdge_V cal_X9_isCity ck_9 rfl (show decode cX9_drawn 6 = .ok (.invokevirtual 378, 3) by decide +kernel) wd_8_17 wd_8_19 wp_7_5) <|
  oc_c (gEdge_S cal_X9_isSeed (show decode cX9_drawn 13 = .ok (.invokestatic 500, 3) by decide +kernel) wd_8_238 wd_8_239) <|
  oc_c (gEdge_S cal_X9_isHalf (show decode cX9_drawn 20 = .ok (.invokestatic 399, 3) by decide +kernel) wd_8_69 wd_8_70) <|
  oc_c (gEdge_V cal_X9_draws ck_9 rfl (show decode cX9_drawn 32 = .ok (.invokevirtual 503, 3) by decide +kernel) wd_9_2 wd_9_4 wp_8_11) <|
  oc_c (gEdge_V cal_X9_years ck_9 rfl (show decode cX9_drawn 41 = .ok (.invokevirtual 253, 3) by decide +kernel) wd_7_83 wd_7_85 wp_5_11) <|
  oc_c (gEdge_V cal_X9_outBits ck_9 rfl (show decode cX9_drawn 46 = .ok (.invokevirtual 375, 3) by decide +kernel) wd_7_237 wd_7_239 wp_7_4) <|
  oc_n
theorem reX9_drawn : ∀ pc ∈ [28, 56], decode cX9_drawn pc = .ok (.ireturn, 1) := by decide +kernel
def tX9_luck : List (Nat × gStp) := [(0, i_aload 0 1), (1, i_push (.int 0) 2), (2, i_putI 9 0 5), (5, i_iload 1 6), (9, i_if_eq 33 12), (12, i_iload 2 13), (13, i_i2l 14), (14, i_push (.long 1) 15), (15, i_push (.long 20) 18), (21, i_if_eq 33 24), (24, i_aload 0 25), (25, i_iload 3 26), (26, i_i2l 27), (30, i_if_ne 36 33), (33, i_push (.int (-2)) 35), (36, i_push (.int 0) 37), (37, i_istore 4 39), (39, i_push (.int 0) 40), (40, i_istore 5 42), (42, i_iload 5 44), (44, i_iload 2 45), (45, i_ic_ge 88 48), (48, i_aload 0 49), (49, i_iload 1 50), (50, i_i2l 51), (51, i_iload 5 53), (53, i_i2l 54), (54, i_ll (fun x y => x + y) 55), (58, i_iload 4 60), (60, i_aload 0 61), (61, i_iload 3 62), (62, i_aload 0 63), (66, i_push (.int 1) 67), (67, i_ii (fun x y => x - y) 68), (71, i_if_eq 78 74), (74, i_push (.int 1) 75), (75, i_goto 79), (78, i_push (.int 0) 79), (79, i_ii (fun x y => x + y) 80), (80, i_istore 4 82), (82, i_iinc 5 1 85), (85, i_goto 42), (88, i_iload 4 90)]
set_option maxRecDepth 100000 in
theorem okX9_luck : gOk YX9_luck tX9_luck := ok_c (sn_aload_n (show decode cX9_luck 0 = .ok (.aload_n 0, 1) by decide +kernel) rfl) <|
  ok_c (sn_iconst (v := 0) (show decode cX9_luck 1 = .ok (.iconst 0, 1) by decide +kernel) (by decide +kernel)) <|
  ok_c (sn_putI ck_9 (by decide) rfl rfl (show decode cX9_luck 2 = .ok (.putfield 77, 3) by decide +kernel) wd_5_217) <|
  ok_c (sn_iload_n (show decode cX9_luck 5 = .ok (.iload_n 1, 1) by decide +kernel) rfl) <|
  ok_c (sn_if_eq (show decode cX9_luck 9 = .ok (.ifCond .eq 24, 3) by decide +kernel) (by decide)) <|
  ok_c (sn_iload_n (show decode cX9_luck 12 = .ok (.iload_n 2, 1) by decide +kernel) rfl) <|
  ok_c (sn_i2l (show decode cX9_luck 13 = .ok (.i2l, 1) by decide +kernel)) <|
  ok_c (sn_lconst (v := 1) (show decode cX9_luck 14 = .ok (.lconst 1, 1) by decide +kernel) (by decide +kernel)) <|
  ok_c (sn_ldc2 (show decode cX9_luck 15 = .ok (.ldc2_w 506, 3) by decide +kernel) wd_9_15) <|
  ok_c (sn_if_eq (show decode cX9_luck 21 = .ok (.ifCond .eq 12, 3) by decide +kernel) (by decide)) <|
  ok_c (sn_aload_n (show decode cX9_luck 24 = .ok (.aload_n 0, 1) by decide +kernel) rfl) <|
  ok_c (sn_iload_n (show decode cX9_luck 25 = .ok (.iload_n 3, 1) by decide +kernel) rfl) <|
  ok_c (sn_i2l (show decode cX9_luck 26 = .ok (.i2l, 1) by decide +kernel)) <|
  ok_c (sn_if_ne (show decode cX9_luck 30 = .ok (.ifCond .ne 6, 3) by decide +kernel) (by decide)) <|
  ok_c (sn_bipush (v := (-2)) (show decode cX9_luck 33 = .ok (.bipush (-2), 2) by decide +kernel) (by decide +kernel)) <|
  ok_c (sn_iconst (v := 0) (show decode cX9_luck 36 = .ok (.iconst 0, 1) by decide +kernel) (by decide +kernel)) <|
  ok_c (sn_istore (show decode cX9_luck 37 = .ok (.istore 4, 2) by decide +kernel) (by decide)) <|
  ok_c (sn_iconst (v := 0) (show decode cX9_luck 39 = .ok (.iconst 0, 1) by decide +kernel) (by decide +kernel)) <|
  ok_c (sn_istore (show decode cX9_luck 40 = .ok (.istore 5, 2) by decide +kernel) (by decide)) <|
  ok_c (sn_iload (show decode cX9_luck 42 = .ok (.iload 5, 2) by decide +kernel)) <|
  ok_c (sn_iload_n (show decode cX9_luck 44 = .ok (.iload_n 2, 1) by decide +kernel) rfl) <|
  ok_c (sn_ic_ge (show decode cX9_luck 45 = .ok (.if_icmp .ge 43, 3) by decide +kernel) (by decide)) <|
  ok_c (sn_aload_n (show decode cX9_luck 48 = .ok (.aload_n 0, 1) by decide +kernel) rfl) <|
  ok_c (sn_iload_n (show decode cX9_luck 49 = .ok (.iload_n 1, 1) by decide +kernel) rfl) <|
  ok_c (sn_i2l (show decode cX9_luck 50 = .ok (.i2l, 1) by decide +kernel)) <|
  ok_c (sn_iload (show decode cX9_luck 51 = .ok (.iload 5, 2) by decide +kernel)) <|
  ok_c (sn_i2l (show decode cX9_luck 53 = .ok (.i2l, 1) by decide +kernel)) <|
  ok_c (sn_ladd (show decode cX9_luck 54 = .ok (.ladd, 1) by decide +kernel)) <|
  ok_c (sn_iload (show decode cX9_luck 58 = .ok (.iload 4, 2) by decide +kernel)) <|
  ok_c (sn_aload_n (show decode cX9_luck 60 = .ok (.aload_n 0, 1) by decide +kernel) rfl) <|
  ok_c (sn_iload_n (show decode cX9_luck 61 = .ok (.iload_n 3, 1) by decide +kernel) rfl) <|
  ok_c (sn_aload_n (show decode cX9_luck 62 = .ok (.aload_n 0, 1) by decide +kernel) rfl) <|
  ok_c (sn_iconst (v := 1) (show decode cX9_luck 66 = .ok (.iconst 1, 1) by decide +kernel) (by decide +kernel)) <|
  ok_c (sn_isub (show decode cX9_luck 67 = .ok (.isub, 1) by decide +kernel)) <|
  ok_c (sn_if_eq (show decode cX9_luck 71 = .ok (.ifCond .eq 7, 3) by decide +kernel) (by decide)) <|
  ok_c (sn_iconst (v := 1) (show decode cX9_luck 74 = .ok (.iconst 1, 1) by decide +kernel) (by decide +kernel)) <|
  ok_c (sn_goto (show decode cX9_luck 75 = .ok (.goto 4, 3) by decide +kernel) (by decide)) <|
  ok_c (sn_iconst (v := 0) (show decode cX9_luck 78 = .ok (.iconst 0, 1) by decide +kernel) (by decide +kernel)) <|
  ok_c (sn_iadd (show decode cX9_luck 79 = .ok (.iadd, 1) by decide +kernel)) <|
  ok_c (sn_istore (show decode cX9_luck 80 = .ok (.istore 4, 2) by decide +kernel) (by decide)) <|
  ok_c (sn_iinc (show decode cX9_luck 82 = .ok (.iinc 5 1, 3) by decide +kernel) (by decide) (by decide +kernel)) <|
  ok_c (sn_goto (show decode cX9_luck 85 = .ok (.goto (-43), 3) by decide +kernel) (by decide)) <|
  ok_c (sn_iload (show decode cX9_luck 88 = .ok (.iload 4, 2) by decide +kernel)) <|
  ok_n
def uX9_luck : gCT := [(6, YX9_isSeed, 1, none), (18, YX9_in, 3, none), (27, YX9_isPerson, 2, some 9), (55, YX9_draws, 2, some 9), (63, YX9_years, 1, some 9), (68, YX9_isOut, 3, some 9)]
set_option maxRecDepth 100000 in
theorem ocX9_luck : gOkC YX9_luck uX9_luck := oc_c (gEdge_S cal_X9_isSeed (show decode cX9_luck 6 = .ok (.invokestatic 500, 3) by decide +kernel) wd_8_238 wd_8_239) <|
  oc_c (gEdge_S cal_X9_in (show decode cX9_luck 18 = .ok (.invokestatic 82, 3) by decide +kernel) wd_6_134 wd_6_135) <|
  oc_c (gEdge_V cal_X9_isPerson ck_9 rfl (show decode cX9_luck 27 = .ok (.invokevirtual 247, 3) by decide +kernel) wd_7_46 wd_7_48 wp_5_5) <|
  oc_c (gEdge_V cal_X9_draws ck_9 rfl (show decode cX9_luck 55 = .ok (.invokevirtual 503, 3) by decide +kernel) wd_9_2 wd_9_4 wp_8_11) <|
  oc_c (gEdge_V cal_X9_years ck_9 rfl (show decode cX9_luck 63 = .ok (.invokevirtual 253, 3) by decide +kernel) wd_7_83 wd_7_85 wp_5_11) <|
  oc_c (gEdge_V cal_X9_isOut ck_9 rfl (show decode cX9_luck 68 = .ok (.invokevirtual 292, 3) by decide +kernel) wd_7_130 wd_7_132 wp_6_6) <|
  oc_n
theorem reX9_luck : ∀ pc ∈ [35, 90], decode cX9_luck pc = .ok (.ireturn, 1) := by decide +kernel
def tX9_does : List (Nat × gStp) := [(0, i_push (.int 4) 1), (1, i_aload 0 2), (2, i_getC 9 148 5), (5, i_push (.int 8) 7), (7, i_iald 8), (8, i_ii (fun x y => x * y) 9), (9, i_istore 5 11), (11, i_aload 0 12), (12, i_getC 9 153 15), (15, i_iload 5 17), (17, i_iload 1 18), (18, i_iast 19), (19, i_aload 0 20), (20, i_getC 9 153 23), (23, i_iload 5 25), (25, i_push (.int 1) 26), (26, i_ii (fun x y => x + y) 27), (27, i_iload 2 28), (28, i_iast 29), (29, i_aload 0 30), (30, i_getC 9 153 33), (33, i_iload 5 35), (35, i_push (.int 2) 36), (36, i_ii (fun x y => x + y) 37), (37, i_iload 3 38), (38, i_iast 39), (39, i_aload 0 40), (40, i_getC 9 153 43), (43, i_iload 5 45), (45, i_push (.int 3) 46), (46, i_ii (fun x y => x + y) 47), (47, i_iload 4 49), (49, i_iast 50), (50, i_aload 0 51), (51, i_getC 9 148 54), (54, i_push (.int 8) 56), (56, i_dup2 57), (57, i_iald 58), (58, i_push (.int 1) 59), (59, i_ii (fun x y => x + y) 60), (60, i_iast 61)]
set_option maxRecDepth 100000 in
theorem okX9_does : gOk YX9_does tX9_does := ok_c (sn_iconst (v := 4) (show decode cX9_does 0 = .ok (.iconst 4, 1) by decide +kernel) (by decide +kernel)) <|
  ok_c (sn_aload_n (show decode cX9_does 1 = .ok (.aload_n 0, 1) by decide +kernel) rfl) <|
  ok_c (sn_getC (j := 17) (fun _ _ => rfl) (sn_get ck_9 (by decide) (show decode cX9_does 2 = .ok (.getfield 34, 3) by decide +kernel) wd_5_234)) <|
  ok_c (sn_bipush (v := 8) (show decode cX9_does 5 = .ok (.bipush 8, 2) by decide +kernel) (by decide +kernel)) <|
  ok_c (sn_iald (show decode cX9_does 7 = .ok (.iaload, 1) by decide +kernel)) <|
  ok_c (sn_imul (show decode cX9_does 8 = .ok (.imul, 1) by decide +kernel)) <|
  ok_c (sn_istore (show decode cX9_does 9 = .ok (.istore 5, 2) by decide +kernel) (by decide)) <|
  ok_c (sn_aload_n (show decode cX9_does 11 = .ok (.aload_n 0, 1) by decide +kernel) rfl) <|
  ok_c (sn_getC (j := 22) (fun _ _ => rfl) (sn_get ck_9 (by decide) (show decode cX9_does 12 = .ok (.getfield 49, 3) by decide +kernel) wd_5_239)) <|
  ok_c (sn_iload (show decode cX9_does 15 = .ok (.iload 5, 2) by decide +kernel)) <|
  ok_c (sn_iload_n (show decode cX9_does 17 = .ok (.iload_n 1, 1) by decide +kernel) rfl) <|
  ok_c (sn_iast (show decode cX9_does 18 = .ok (.iastore, 1) by decide +kernel)) <|
  ok_c (sn_aload_n (show decode cX9_does 19 = .ok (.aload_n 0, 1) by decide +kernel) rfl) <|
  ok_c (sn_getC (j := 22) (fun _ _ => rfl) (sn_get ck_9 (by decide) (show decode cX9_does 20 = .ok (.getfield 49, 3) by decide +kernel) wd_5_239)) <|
  ok_c (sn_iload (show decode cX9_does 23 = .ok (.iload 5, 2) by decide +kernel)) <|
  ok_c (sn_iconst (v := 1) (show decode cX9_does 25 = .ok (.iconst 1, 1) by decide +kernel) (by decide +kernel)) <|
  ok_c (sn_iadd (show decode cX9_does 26 = .ok (.iadd, 1) by decide +kernel)) <|
  ok_c (sn_iload_n (show decode cX9_does 27 = .ok (.iload_n 2, 1) by decide +kernel) rfl) <|
  ok_c (sn_iast (show decode cX9_does 28 = .ok (.iastore, 1) by decide +kernel)) <|
  ok_c (sn_aload_n (show decode cX9_does 29 = .ok (.aload_n 0, 1) by decide +kernel) rfl) <|
  ok_c (sn_getC (j := 22) (fun _ _ => rfl) (sn_get ck_9 (by decide) (show decode cX9_does 30 = .ok (.getfield 49, 3) by decide +kernel) wd_5_239)) <|
  ok_c (sn_iload (show decode cX9_does 33 = .ok (.iload 5, 2) by decide +kernel)) <|
  ok_c (sn_iconst (v := 2) (show decode cX9_does 35 = .ok (.iconst 2, 1) by decide +kernel) (by decide +kernel)) <|
  ok_c (sn_iadd (show decode cX9_does 36 = .ok (.iadd, 1) by decide +kernel)) <|
  ok_c (sn_iload_n (show decode cX9_does 37 = .ok (.iload_n 3, 1) by decide +kernel) rfl) <|
  ok_c (sn_iast (show decode cX9_does 38 = .ok (.iastore, 1) by decide +kernel)) <|
  ok_c (sn_aload_n (show decode cX9_does 39 = .ok (.aload_n 0, 1) by decide +kernel) rfl) <|
  ok_c (sn_getC (j := 22) (fun _ _ => rfl) (sn_get ck_9 (by decide) (show decode cX9_does 40 = .ok (.getfield 49, 3) by decide +kernel) wd_5_239)) <|
  ok_c (sn_iload (show decode cX9_does 43 = .ok (.iload 5, 2) by decide +kernel)) <|
  ok_c (sn_iconst (v := 3) (show decode cX9_does 45 = .ok (.iconst 3, 1) by decide +kernel) (by decide +kernel)) <|
  ok_c (sn_iadd (show decode cX9_does 46 = .ok (.iadd, 1) by decide +kernel)) <|
  ok_c (sn_iload (show decode cX9_does 47 = .ok (.iload 4, 2) by decide +kernel)) <|
  ok_c (sn_iast (show decode cX9_does 49 = .ok (.iastore, 1) by decide +kernel)) <|
  ok_c (sn_aload_n (show decode cX9_does 50 = .ok (.aload_n 0, 1) by decide +kernel) rfl) <|
  ok_c (sn_getC (j := 17) (fun _ _ => rfl) (sn_get ck_9 (by decide) (show decode cX9_does 51 = .ok (.getfield 34, 3) by decide +kernel) wd_5_234)) <|
  ok_c (sn_bipush (v := 8) (show decode cX9_does 54 = .ok (.bipush 8, 2) by decide +kernel) (by decide +kernel)) <|
  ok_c (sn_dup2 (show decode cX9_does 56 = .ok (.dup2, 1) by decide +kernel)) <|
  ok_c (sn_iald (show decode cX9_does 57 = .ok (.iaload, 1) by decide +kernel)) <|
  ok_c (sn_iconst (v := 1) (show decode cX9_does 58 = .ok (.iconst 1, 1) by decide +kernel) (by decide +kernel)) <|
  ok_c (sn_iadd (show decode cX9_does 59 = .ok (.iadd, 1) by decide +kernel)) <|
  ok_c (sn_iast (show decode cX9_does 60 = .ok (.iastore, 1) by decide +kernel)) <|
  ok_n
theorem reX9_does : ∀ pc ∈ [61], decode cX9_does pc = .ok (.return_, 1) := by decide +kernel
def tX9_weld : List (Nat × gStp) := [(0, i_aload 0 1), (1, i_push (.int 0) 2), (2, i_putI 9 0 5), (5, i_aload 0 6), (6, i_iload 1 7), (7, i_iload 2 8), (11, i_if_eq 35 14), (14, i_aload 0 15), (15, i_iload 3 16), (19, i_if_eq 35 22), (22, i_iload 4 24), (24, i_i2l 25), (25, i_push (.long 1) 26), (26, i_push (.long 9) 29), (32, i_if_ne 38 35), (35, i_push (.int (-2)) 37), (38, i_aload 0 39), (39, i_getC 9 148 42), (42, i_push (.int 8) 44), (44, i_iald 45), (45, i_push (.int 30) 47), (47, i_ic_ne 53 50), (50, i_push (.int (-5)) 52), (53, i_aload 0 54), (54, i_iload 1 55), (55, i_iload 2 56), (56, i_iload 3 57), (57, i_iload 4 59), (62, i_aload 0 63), (66, i_aload 0 67), (67, i_getC 9 155 70), (70, i_push (.int 36) 72), (72, i_iload 3 73), (73, i_ii (fun x y => x * y) 74), (74, i_push (.int 6) 76), (76, i_iload 1 77), (77, i_ii (fun x y => x * y) 78), (78, i_ii (fun x y => x + y) 79), (79, i_iload 2 80), (80, i_ii (fun x y => x + y) 81), (81, i_iald 82), (82, i_if_le 89 85), (85, i_push (.int 1) 86), (86, i_goto 90), (89, i_push (.int 0) 90)]
set_option maxRecDepth 100000 in
theorem okX9_weld : gOk YX9_weld tX9_weld := ok_c (sn_aload_n (show decode cX9_weld 0 = .ok (.aload_n 0, 1) by decide +kernel) rfl) <|
  ok_c (sn_iconst (v := 0) (show decode cX9_weld 1 = .ok (.iconst 0, 1) by decide +kernel) (by decide +kernel)) <|
  ok_c (sn_putI ck_9 (by decide) rfl rfl (show decode cX9_weld 2 = .ok (.putfield 77, 3) by decide +kernel) wd_5_217) <|
  ok_c (sn_aload_n (show decode cX9_weld 5 = .ok (.aload_n 0, 1) by decide +kernel) rfl) <|
  ok_c (sn_iload_n (show decode cX9_weld 6 = .ok (.iload_n 1, 1) by decide +kernel) rfl) <|
  ok_c (sn_iload_n (show decode cX9_weld 7 = .ok (.iload_n 2, 1) by decide +kernel) rfl) <|
  ok_c (sn_if_eq (show decode cX9_weld 11 = .ok (.ifCond .eq 24, 3) by decide +kernel) (by decide)) <|
  ok_c (sn_aload_n (show decode cX9_weld 14 = .ok (.aload_n 0, 1) by decide +kernel) rfl) <|
  ok_c (sn_iload_n (show decode cX9_weld 15 = .ok (.iload_n 3, 1) by decide +kernel) rfl) <|
  ok_c (sn_if_eq (show decode cX9_weld 19 = .ok (.ifCond .eq 16, 3) by decide +kernel) (by decide)) <|
  ok_c (sn_iload (show decode cX9_weld 22 = .ok (.iload 4, 2) by decide +kernel)) <|
  ok_c (sn_i2l (show decode cX9_weld 24 = .ok (.i2l, 1) by decide +kernel)) <|
  ok_c (sn_lconst (v := 1) (show decode cX9_weld 25 = .ok (.lconst 1, 1) by decide +kernel) (by decide +kernel)) <|
  ok_c (sn_ldc2 (show decode cX9_weld 26 = .ok (.ldc2_w 508, 3) by decide +kernel) wd_9_20) <|
  ok_c (sn_if_ne (show decode cX9_weld 32 = .ok (.ifCond .ne 6, 3) by decide +kernel) (by decide)) <|
  ok_c (sn_bipush (v := (-2)) (show decode cX9_weld 35 = .ok (.bipush (-2), 2) by decide +kernel) (by decide +kernel)) <|
  ok_c (sn_aload_n (show decode cX9_weld 38 = .ok (.aload_n 0, 1) by decide +kernel) rfl) <|
  ok_c (sn_getC (j := 17) (fun _ _ => rfl) (sn_get ck_9 (by decide) (show decode cX9_weld 39 = .ok (.getfield 34, 3) by decide +kernel) wd_5_234)) <|
  ok_c (sn_bipush (v := 8) (show decode cX9_weld 42 = .ok (.bipush 8, 2) by decide +kernel) (by decide +kernel)) <|
  ok_c (sn_iald (show decode cX9_weld 44 = .ok (.iaload, 1) by decide +kernel)) <|
  ok_c (sn_bipush (v := 30) (show decode cX9_weld 45 = .ok (.bipush 30, 2) by decide +kernel) (by decide +kernel)) <|
  ok_c (sn_ic_ne (show decode cX9_weld 47 = .ok (.if_icmp .ne 6, 3) by decide +kernel) (by decide)) <|
  ok_c (sn_bipush (v := (-5)) (show decode cX9_weld 50 = .ok (.bipush (-5), 2) by decide +kernel) (by decide +kernel)) <|
  ok_c (sn_aload_n (show decode cX9_weld 53 = .ok (.aload_n 0, 1) by decide +kernel) rfl) <|
  ok_c (sn_iload_n (show decode cX9_weld 54 = .ok (.iload_n 1, 1) by decide +kernel) rfl) <|
  ok_c (sn_iload_n (show decode cX9_weld 55 = .ok (.iload_n 2, 1) by decide +kernel) rfl) <|
  ok_c (sn_iload_n (show decode cX9_weld 56 = .ok (.iload_n 3, 1) by decide +kernel) rfl) <|
  ok_c (sn_iload (show decode cX9_weld 57 = .ok (.iload 4, 2) by decide +kernel)) <|
  ok_c (sn_aload_n (show decode cX9_weld 62 = .ok (.aload_n 0, 1) by decide +kernel) rfl) <|
  ok_c (sn_aload_n (show decode cX9_weld 66 = .ok (.aload_n 0, 1) by decide +kernel) rfl) <|
  ok_c (sn_getC (j := 33) (fun _ _ => rfl) (sn_get ck_9 (by decide) (show decode cX9_weld 67 = .ok (.getfield 56, 3) by decide +kernel) wd_6_10)) <|
  ok_c (sn_bipush (v := 36) (show decode cX9_weld 70 = .ok (.bipush 36, 2) by decide +kernel) (by decide +kernel)) <|
  ok_c (sn_iload_n (show decode cX9_weld 72 = .ok (.iload_n 3, 1) by decide +kernel) rfl) <|
  ok_c (sn_imul (show decode cX9_weld 73 = .ok (.imul, 1) by decide +kernel)) <|
  ok_c (sn_bipush (v := 6) (show decode cX9_weld 74 = .ok (.bipush 6, 2) by decide +kernel) (by decide +kernel)) <|
  ok_c (sn_iload_n (show decode cX9_weld 76 = .ok (.iload_n 1, 1) by decide +kernel) rfl) <|
  ok_c (sn_imul (show decode cX9_weld 77 = .ok (.imul, 1) by decide +kernel)) <|
  ok_c (sn_iadd (show decode cX9_weld 78 = .ok (.iadd, 1) by decide +kernel)) <|
  ok_c (sn_iload_n (show decode cX9_weld 79 = .ok (.iload_n 2, 1) by decide +kernel) rfl) <|
  ok_c (sn_iadd (show decode cX9_weld 80 = .ok (.iadd, 1) by decide +kernel)) <|
  ok_c (sn_iald (show decode cX9_weld 81 = .ok (.iaload, 1) by decide +kernel)) <|
  ok_c (sn_if_le (show decode cX9_weld 82 = .ok (.ifCond .le 7, 3) by decide +kernel) (by decide)) <|
  ok_c (sn_iconst (v := 1) (show decode cX9_weld 85 = .ok (.iconst 1, 1) by decide +kernel) (by decide +kernel)) <|
  ok_c (sn_goto (show decode cX9_weld 86 = .ok (.goto 4, 3) by decide +kernel) (by decide)) <|
  ok_c (sn_iconst (v := 0) (show decode cX9_weld 89 = .ok (.iconst 0, 1) by decide +kernel) (by decide +kernel)) <|
  ok_n
def uX9_weld : gCT := [(8, YX9_areTwo, 3, some 9), (16, YX9_isYear, 2, some 9), (29, YX9_in, 3, none), (59, YX9_does, 5, some 9), (63, YX9_laysNow, 1, some 9)]
set_option maxRecDepth 100000 in
theorem ocX9_weld : gOkC YX9_weld uX9_weld := oc_c (gEdge_V cal_X9_areTwo ck_9 rfl (show decode cX9_weld 8 = .ok (.invokevirtual 360, 3) by decide +kernel) wd_7_158 wd_7_160 wp_6_12) <|
  oc_c (gEdge_V cal_X9_isYear ck_9 rfl (show decode cX9_weld 16 = .ok (.invokevirtual 256, 3) by decide +kernel) wd_7_79 wd_7_81 wp_5_10) <|
  oc_c (gEdge_S cal_X9_in (show decode cX9_weld 29 = .ok (.invokestatic 82, 3) by decide +kernel) wd_6_134 wd_6_135) <|
  oc_c (gEdge_V cal_X9_does ck_9 rfl (show decode cX9_weld 59 = .ok (.invokevirtual 510, 3) by decide +kernel) wd_9_21 wd_9_23 wp_8_12) <|
  oc_c (gEdge_V cal_X9_laysNow ck_9 rfl (show decode cX9_weld 63 = .ok (.invokevirtual 354, 3) by decide +kernel) wd_7_87 wd_7_89 wp_5_12) <|
  oc_n
theorem reX9_weld : ∀ pc ∈ [37, 52, 90], decode cX9_weld pc = .ok (.ireturn, 1) := by decide +kernel
def tX9_snip : List (Nat × gStp) := [(0, i_aload 0 1), (1, i_push (.int 0) 2), (2, i_putI 9 0 5), (5, i_aload 0 6), (6, i_iload 1 7), (7, i_iload 2 8), (11, i_if_eq 22 14), (14, i_aload 0 15), (15, i_iload 3 16), (19, i_if_ne 25 22), (22, i_push (.int (-2)) 24), (25, i_aload 0 26), (26, i_getC 9 148 29), (29, i_push (.int 8) 31), (31, i_iald 32), (32, i_push (.int 30) 34), (34, i_ic_ne 40 37), (37, i_push (.int (-5)) 39), (40, i_aload 0 41), (44, i_aload 0 45), (45, i_getC 9 155 48), (48, i_push (.int 36) 50), (50, i_iload 3 51), (51, i_ii (fun x y => x * y) 52), (52, i_push (.int 6) 54), (54, i_iload 1 55), (55, i_ii (fun x y => x * y) 56), (56, i_ii (fun x y => x + y) 57), (57, i_iload 2 58), (58, i_ii (fun x y => x + y) 59), (59, i_iald 60), (60, i_if_le 67 63), (63, i_push (.int 1) 64), (64, i_goto 68), (67, i_push (.int 0) 68), (68, i_istore 4 70), (70, i_aload 0 71), (71, i_iload 1 72), (72, i_iload 2 73), (73, i_iload 3 74), (74, i_push (.int 0) 75), (78, i_iload 4 80)]
set_option maxRecDepth 100000 in
theorem okX9_snip : gOk YX9_snip tX9_snip := ok_c (sn_aload_n (show decode cX9_snip 0 = .ok (.aload_n 0, 1) by decide +kernel) rfl) <|
  ok_c (sn_iconst (v := 0) (show decode cX9_snip 1 = .ok (.iconst 0, 1) by decide +kernel) (by decide +kernel)) <|
  ok_c (sn_putI ck_9 (by decide) rfl rfl (show decode cX9_snip 2 = .ok (.putfield 77, 3) by decide +kernel) wd_5_217) <|
  ok_c (sn_aload_n (show decode cX9_snip 5 = .ok (.aload_n 0, 1) by decide +kernel) rfl) <|
  ok_c (sn_iload_n (show decode cX9_snip 6 = .ok (.iload_n 1, 1) by decide +kernel) rfl) <|
  ok_c (sn_iload_n (show decode cX9_snip 7 = .ok (.iload_n 2, 1) by decide +kernel) rfl) <|
  ok_c (sn_if_eq (show decode cX9_snip 11 = .ok (.ifCond .eq 11, 3) by decide +kernel) (by decide)) <|
  ok_c (sn_aload_n (show decode cX9_snip 14 = .ok (.aload_n 0, 1) by decide +kernel) rfl) <|
  ok_c (sn_iload_n (show decode cX9_snip 15 = .ok (.iload_n 3, 1) by decide +kernel) rfl) <|
  ok_c (sn_if_ne (show decode cX9_snip 19 = .ok (.ifCond .ne 6, 3) by decide +kernel) (by decide)) <|
  ok_c (sn_bipush (v := (-2)) (show decode cX9_snip 22 = .ok (.bipush (-2), 2) by decide +kernel) (by decide +kernel)) <|
  ok_c (sn_aload_n (show decode cX9_snip 25 = .ok (.aload_n 0, 1) by decide +kernel) rfl) <|
  ok_c (sn_getC (j := 17) (fun _ _ => rfl) (sn_get ck_9 (by decide) (show decode cX9_snip 26 = .ok (.getfield 34, 3) by decide +kernel) wd_5_234)) <|
  ok_c (sn_bipush (v := 8) (show decode cX9_snip 29 = .ok (.bipush 8, 2) by decide +kernel) (by decide +kernel)) <|
  ok_c (sn_iald (show decode cX9_snip 31 = .ok (.iaload, 1) by decide +kernel)) <|
  ok_c (sn_bipush (v := 30) (show decode cX9_snip 32 = .ok (.bipush 30, 2) by decide +kernel) (by decide +kernel)) <|
  ok_c (sn_ic_ne (show decode cX9_snip 34 = .ok (.if_icmp .ne 6, 3) by decide +kernel) (by decide)) <|
  ok_c (sn_bipush (v := (-5)) (show decode cX9_snip 37 = .ok (.bipush (-5), 2) by decide +kernel) (by decide +kernel)) <|
  ok_c (sn_aload_n (show decode cX9_snip 40 = .ok (.aload_n 0, 1) by decide +kernel) rfl) <|
  ok_c (sn_aload_n (show decode cX9_snip 44 = .ok (.aload_n 0, 1) by decide +kernel) rfl) <|
  ok_c (sn_getC (j := 33) (fun _ _ => rfl) (sn_get ck_9 (by decide) (show decode cX9_snip 45 = .ok (.getfield 56, 3) by decide +kernel) wd_6_10)) <|
  ok_c (sn_bipush (v := 36) (show decode cX9_snip 48 = .ok (.bipush 36, 2) by decide +kernel) (by decide +kernel)) <|
  ok_c (sn_iload_n (show decode cX9_snip 50 = .ok (.iload_n 3, 1) by decide +kernel) rfl) <|
  ok_c (sn_imul (show decode cX9_snip 51 = .ok (.imul, 1) by decide +kernel)) <|
  ok_c (sn_bipush (v := 6) (show decode cX9_snip 52 = .ok (.bipush 6, 2) by decide +kernel) (by decide +kernel)) <|
  ok_c (sn_iload_n (show decode cX9_snip 54 = .ok (.iload_n 1, 1) by decide +kernel) rfl) <|
  ok_c (sn_imul (show decode cX9_snip 55 = .ok (.imul, 1) by decide +kernel)) <|
  ok_c (sn_iadd (show decode cX9_snip 56 = .ok (.iadd, 1) by decide +kernel)) <|
  ok_c (sn_iload_n (show decode cX9_snip 57 = .ok (.iload_n 2, 1) by decide +kernel) rfl) <|
  ok_c (sn_iadd (show decode cX9_snip 58 = .ok (.iadd, 1) by decide +kernel)) <|
  ok_c (sn_iald (show decode cX9_snip 59 = .ok (.iaload, 1) by decide +kernel)) <|
  ok_c (sn_if_le (show decode cX9_snip 60 = .ok (.ifCond .le 7, 3) by decide +kernel) (by decide)) <|
  ok_c (sn_iconst (v := 1) (show decode cX9_snip 63 = .ok (.iconst 1, 1) by decide +kernel) (by decide +kernel)) <|
  ok_c (sn_goto (show decode cX9_snip 64 = .ok (.goto 4, 3) by decide +kernel) (by decide)) <|
  ok_c (sn_iconst (v := 0) (show decode cX9_snip 67 = .ok (.iconst 0, 1) by decide +kernel) (by decide +kernel)) <|
  ok_c (sn_istore (show decode cX9_snip 68 = .ok (.istore 4, 2) by decide +kernel) (by decide)) <|
  ok_c (sn_aload_n (show decode cX9_snip 70 = .ok (.aload_n 0, 1) by decide +kernel) rfl) <|
  ok_c (sn_iload_n (show decode cX9_snip 71 = .ok (.iload_n 1, 1) by decide +kernel) rfl) <|
  ok_c (sn_iload_n (show decode cX9_snip 72 = .ok (.iload_n 2, 1) by decide +kernel) rfl) <|
  ok_c (sn_iload_n (show decode cX9_snip 73 = .ok (.iload_n 3, 1) by decide +kernel) rfl) <|
  ok_c (sn_iconst (v := 0) (show decode cX9_snip 74 = .ok (.iconst 0, 1) by decide +kernel) (by decide +kernel)) <|
  ok_c (sn_iload (show decode cX9_snip 78 = .ok (.iload 4, 2) by decide +kernel)) <|
  ok_n
def uX9_snip : gCT := [(8, YX9_areTwo, 3, some 9), (16, YX9_isYear, 2, some 9), (41, YX9_laysNow, 1, some 9), (75, YX9_does, 5, some 9)]
set_option maxRecDepth 100000 in
theorem ocX9_snip : gOkC YX9_snip uX9_snip := oc_c (gEdge_V cal_X9_areTwo ck_9 rfl (show decode cX9_snip 8 = .ok (.invokevirtual 360, 3) by decide +kernel) wd_7_158 wd_7_160 wp_6_12) <|
  oc_c (gEdge_V cal_X9_isYear ck_9 rfl (show decode cX9_snip 16 = .ok (.invokevirtual 256, 3) by decide +kernel) wd_7_79 wd_7_81 wp_5_10) <|
  oc_c (gEdge_V cal_X9_laysNow ck_9 rfl (show decode cX9_snip 41 = .ok (.invokevirtual 354, 3) by decide +kernel) wd_7_87 wd_7_89 wp_5_12) <|
  oc_c (gEdge_V cal_X9_does ck_9 rfl (show decode cX9_snip 75 = .ok (.invokevirtual 510, 3) by decide +kernel) wd_9_21 wd_9_23 wp_8_12) <|
  oc_n
theorem reX9_snip : ∀ pc ∈ [24, 39, 80], decode cX9_snip pc = .ok (.ireturn, 1) := by decide +kernel
def tX9_undo : List (Nat × gStp) := [(0, i_aload 0 1), (1, i_push (.int 0) 2), (2, i_putI 9 0 5), (5, i_aload 0 6), (9, i_if_ne 15 12), (12, i_push (.int (-2)) 14), (15, i_aload 0 16), (16, i_getC 9 148 19), (19, i_push (.int 8) 21), (21, i_iald 22), (22, i_if_ne 28 25), (25, i_push (.int (-5)) 27), (28, i_aload 0 29), (29, i_getC 9 148 32), (32, i_push (.int 8) 34), (34, i_dup2 35), (35, i_iald 36), (36, i_push (.int 1) 37), (37, i_ii (fun x y => x - y) 38), (38, i_iast 39), (39, i_aload 0 40), (40, i_getC 9 148 43), (43, i_push (.int 8) 45), (45, i_iald 46)]
set_option maxRecDepth 100000 in
theorem okX9_undo : gOk YX9_undo tX9_undo := ok_c (sn_aload_n (show decode cX9_undo 0 = .ok (.aload_n 0, 1) by decide +kernel) rfl) <|
  ok_c (sn_iconst (v := 0) (show decode cX9_undo 1 = .ok (.iconst 0, 1) by decide +kernel) (by decide +kernel)) <|
  ok_c (sn_putI ck_9 (by decide) rfl rfl (show decode cX9_undo 2 = .ok (.putfield 77, 3) by decide +kernel) wd_5_217) <|
  ok_c (sn_aload_n (show decode cX9_undo 5 = .ok (.aload_n 0, 1) by decide +kernel) rfl) <|
  ok_c (sn_if_ne (show decode cX9_undo 9 = .ok (.ifCond .ne 6, 3) by decide +kernel) (by decide)) <|
  ok_c (sn_bipush (v := (-2)) (show decode cX9_undo 12 = .ok (.bipush (-2), 2) by decide +kernel) (by decide +kernel)) <|
  ok_c (sn_aload_n (show decode cX9_undo 15 = .ok (.aload_n 0, 1) by decide +kernel) rfl) <|
  ok_c (sn_getC (j := 17) (fun _ _ => rfl) (sn_get ck_9 (by decide) (show decode cX9_undo 16 = .ok (.getfield 34, 3) by decide +kernel) wd_5_234)) <|
  ok_c (sn_bipush (v := 8) (show decode cX9_undo 19 = .ok (.bipush 8, 2) by decide +kernel) (by decide +kernel)) <|
  ok_c (sn_iald (show decode cX9_undo 21 = .ok (.iaload, 1) by decide +kernel)) <|
  ok_c (sn_if_ne (show decode cX9_undo 22 = .ok (.ifCond .ne 6, 3) by decide +kernel) (by decide)) <|
  ok_c (sn_bipush (v := (-5)) (show decode cX9_undo 25 = .ok (.bipush (-5), 2) by decide +kernel) (by decide +kernel)) <|
  ok_c (sn_aload_n (show decode cX9_undo 28 = .ok (.aload_n 0, 1) by decide +kernel) rfl) <|
  ok_c (sn_getC (j := 17) (fun _ _ => rfl) (sn_get ck_9 (by decide) (show decode cX9_undo 29 = .ok (.getfield 34, 3) by decide +kernel) wd_5_234)) <|
  ok_c (sn_bipush (v := 8) (show decode cX9_undo 32 = .ok (.bipush 8, 2) by decide +kernel) (by decide +kernel)) <|
  ok_c (sn_dup2 (show decode cX9_undo 34 = .ok (.dup2, 1) by decide +kernel)) <|
  ok_c (sn_iald (show decode cX9_undo 35 = .ok (.iaload, 1) by decide +kernel)) <|
  ok_c (sn_iconst (v := 1) (show decode cX9_undo 36 = .ok (.iconst 1, 1) by decide +kernel) (by decide +kernel)) <|
  ok_c (sn_isub (show decode cX9_undo 37 = .ok (.isub, 1) by decide +kernel)) <|
  ok_c (sn_iast (show decode cX9_undo 38 = .ok (.iastore, 1) by decide +kernel)) <|
  ok_c (sn_aload_n (show decode cX9_undo 39 = .ok (.aload_n 0, 1) by decide +kernel) rfl) <|
  ok_c (sn_getC (j := 17) (fun _ _ => rfl) (sn_get ck_9 (by decide) (show decode cX9_undo 40 = .ok (.getfield 34, 3) by decide +kernel) wd_5_234)) <|
  ok_c (sn_bipush (v := 8) (show decode cX9_undo 43 = .ok (.bipush 8, 2) by decide +kernel) (by decide +kernel)) <|
  ok_c (sn_iald (show decode cX9_undo 45 = .ok (.iaload, 1) by decide +kernel)) <|
  ok_n
def uX9_undo : gCT := [(6, YX9_isCity, 1, some 9)]
set_option maxRecDepth 100000 in
theorem ocX9_undo : gOkC YX9_undo uX9_undo := oc_c (gEdge_V cal_X9_isCity ck_9 rfl (show decode cX9_undo 6 = .ok (.invokevirtual 378, 3) by decide +kernel) wd_8_17 wd_8_19 wp_7_5) <|
  oc_n
theorem reX9_undo : ∀ pc ∈ [14, 27, 46], decode cX9_undo pc = .ok (.ireturn, 1) := by decide +kernel
def tX9_anew : List (Nat × gStp) := [(0, i_aload 0 1), (1, i_push (.int 0) 2), (2, i_putI 9 0 5), (5, i_aload 0 6), (9, i_if_ne 15 12), (12, i_push (.int (-2)) 14), (15, i_aload 0 16), (16, i_getC 9 148 19), (19, i_push (.int 8) 21), (21, i_iald 22), (22, i_istore 1 23), (23, i_aload 0 24), (24, i_getC 9 148 27), (27, i_push (.int 8) 29), (29, i_push (.int 0) 30), (30, i_iast 31), (31, i_iload 1 32)]
set_option maxRecDepth 100000 in
theorem okX9_anew : gOk YX9_anew tX9_anew := ok_c (sn_aload_n (show decode cX9_anew 0 = .ok (.aload_n 0, 1) by decide +kernel) rfl) <|
  ok_c (sn_iconst (v := 0) (show decode cX9_anew 1 = .ok (.iconst 0, 1) by decide +kernel) (by decide +kernel)) <|
  ok_c (sn_putI ck_9 (by decide) rfl rfl (show decode cX9_anew 2 = .ok (.putfield 77, 3) by decide +kernel) wd_5_217) <|
  ok_c (sn_aload_n (show decode cX9_anew 5 = .ok (.aload_n 0, 1) by decide +kernel) rfl) <|
  ok_c (sn_if_ne (show decode cX9_anew 9 = .ok (.ifCond .ne 6, 3) by decide +kernel) (by decide)) <|
  ok_c (sn_bipush (v := (-2)) (show decode cX9_anew 12 = .ok (.bipush (-2), 2) by decide +kernel) (by decide +kernel)) <|
  ok_c (sn_aload_n (show decode cX9_anew 15 = .ok (.aload_n 0, 1) by decide +kernel) rfl) <|
  ok_c (sn_getC (j := 17) (fun _ _ => rfl) (sn_get ck_9 (by decide) (show decode cX9_anew 16 = .ok (.getfield 34, 3) by decide +kernel) wd_5_234)) <|
  ok_c (sn_bipush (v := 8) (show decode cX9_anew 19 = .ok (.bipush 8, 2) by decide +kernel) (by decide +kernel)) <|
  ok_c (sn_iald (show decode cX9_anew 21 = .ok (.iaload, 1) by decide +kernel)) <|
  ok_c (sn_istore_n (show decode cX9_anew 22 = .ok (.istore_n 1, 1) by decide +kernel) rfl (by decide)) <|
  ok_c (sn_aload_n (show decode cX9_anew 23 = .ok (.aload_n 0, 1) by decide +kernel) rfl) <|
  ok_c (sn_getC (j := 17) (fun _ _ => rfl) (sn_get ck_9 (by decide) (show decode cX9_anew 24 = .ok (.getfield 34, 3) by decide +kernel) wd_5_234)) <|
  ok_c (sn_bipush (v := 8) (show decode cX9_anew 27 = .ok (.bipush 8, 2) by decide +kernel) (by decide +kernel)) <|
  ok_c (sn_iconst (v := 0) (show decode cX9_anew 29 = .ok (.iconst 0, 1) by decide +kernel) (by decide +kernel)) <|
  ok_c (sn_iast (show decode cX9_anew 30 = .ok (.iastore, 1) by decide +kernel)) <|
  ok_c (sn_iload_n (show decode cX9_anew 31 = .ok (.iload_n 1, 1) by decide +kernel) rfl) <|
  ok_n
def uX9_anew : gCT := [(6, YX9_isCity, 1, some 9)]
set_option maxRecDepth 100000 in
theorem ocX9_anew : gOkC YX9_anew uX9_anew := oc_c (gEdge_V cal_X9_isCity ck_9 rfl (show decode cX9_anew 6 = .ok (.invokevirtual 378, 3) by decide +kernel) wd_8_17 wd_8_19 wp_7_5) <|
  oc_n
theorem reX9_anew : ∀ pc ∈ [14, 32], decode cX9_anew pc = .ok (.ireturn, 1) := by decide +kernel
def tX9_rate : List (Nat × gStp) := [(0, i_aload 0 1), (1, i_push (.int 0) 2), (2, i_putI 9 0 5), (5, i_aload 0 6), (9, i_if_eq 24 12), (12, i_iload 1 13), (13, i_i2l 14), (14, i_push (.long 0) 15), (15, i_push (.long 20) 18), (21, i_if_ne 27 24), (24, i_push (.int (-2)) 26), (27, i_aload 0 28), (28, i_getC 9 148 31), (31, i_push (.int 8) 33), (33, i_iald 34), (34, i_if_le 40 37), (37, i_push (.int (-5)) 39), (40, i_aload 0 41), (41, i_getC 9 148 44), (44, i_push (.int 2) 45), (45, i_iald 46), (46, i_istore 2 47), (47, i_aload 0 48), (48, i_getC 9 148 51), (51, i_push (.int 2) 52), (52, i_iload 1 53), (53, i_iast 54), (54, i_iload 2 55)]
set_option maxRecDepth 100000 in
theorem okX9_rate : gOk YX9_rate tX9_rate := ok_c (sn_aload_n (show decode cX9_rate 0 = .ok (.aload_n 0, 1) by decide +kernel) rfl) <|
  ok_c (sn_iconst (v := 0) (show decode cX9_rate 1 = .ok (.iconst 0, 1) by decide +kernel) (by decide +kernel)) <|
  ok_c (sn_putI ck_9 (by decide) rfl rfl (show decode cX9_rate 2 = .ok (.putfield 77, 3) by decide +kernel) wd_5_217) <|
  ok_c (sn_aload_n (show decode cX9_rate 5 = .ok (.aload_n 0, 1) by decide +kernel) rfl) <|
  ok_c (sn_if_eq (show decode cX9_rate 9 = .ok (.ifCond .eq 15, 3) by decide +kernel) (by decide)) <|
  ok_c (sn_iload_n (show decode cX9_rate 12 = .ok (.iload_n 1, 1) by decide +kernel) rfl) <|
  ok_c (sn_i2l (show decode cX9_rate 13 = .ok (.i2l, 1) by decide +kernel)) <|
  ok_c (sn_lconst (v := 0) (show decode cX9_rate 14 = .ok (.lconst 0, 1) by decide +kernel) (by decide +kernel)) <|
  ok_c (sn_ldc2 (show decode cX9_rate 15 = .ok (.ldc2_w 506, 3) by decide +kernel) wd_9_15) <|
  ok_c (sn_if_ne (show decode cX9_rate 21 = .ok (.ifCond .ne 6, 3) by decide +kernel) (by decide)) <|
  ok_c (sn_bipush (v := (-2)) (show decode cX9_rate 24 = .ok (.bipush (-2), 2) by decide +kernel) (by decide +kernel)) <|
  ok_c (sn_aload_n (show decode cX9_rate 27 = .ok (.aload_n 0, 1) by decide +kernel) rfl) <|
  ok_c (sn_getC (j := 17) (fun _ _ => rfl) (sn_get ck_9 (by decide) (show decode cX9_rate 28 = .ok (.getfield 34, 3) by decide +kernel) wd_5_234)) <|
  ok_c (sn_bipush (v := 8) (show decode cX9_rate 31 = .ok (.bipush 8, 2) by decide +kernel) (by decide +kernel)) <|
  ok_c (sn_iald (show decode cX9_rate 33 = .ok (.iaload, 1) by decide +kernel)) <|
  ok_c (sn_if_le (show decode cX9_rate 34 = .ok (.ifCond .le 6, 3) by decide +kernel) (by decide)) <|
  ok_c (sn_bipush (v := (-5)) (show decode cX9_rate 37 = .ok (.bipush (-5), 2) by decide +kernel) (by decide +kernel)) <|
  ok_c (sn_aload_n (show decode cX9_rate 40 = .ok (.aload_n 0, 1) by decide +kernel) rfl) <|
  ok_c (sn_getC (j := 17) (fun _ _ => rfl) (sn_get ck_9 (by decide) (show decode cX9_rate 41 = .ok (.getfield 34, 3) by decide +kernel) wd_5_234)) <|
  ok_c (sn_iconst (v := 2) (show decode cX9_rate 44 = .ok (.iconst 2, 1) by decide +kernel) (by decide +kernel)) <|
  ok_c (sn_iald (show decode cX9_rate 45 = .ok (.iaload, 1) by decide +kernel)) <|
  ok_c (sn_istore_n (show decode cX9_rate 46 = .ok (.istore_n 2, 1) by decide +kernel) rfl (by decide)) <|
  ok_c (sn_aload_n (show decode cX9_rate 47 = .ok (.aload_n 0, 1) by decide +kernel) rfl) <|
  ok_c (sn_getC (j := 17) (fun _ _ => rfl) (sn_get ck_9 (by decide) (show decode cX9_rate 48 = .ok (.getfield 34, 3) by decide +kernel) wd_5_234)) <|
  ok_c (sn_iconst (v := 2) (show decode cX9_rate 51 = .ok (.iconst 2, 1) by decide +kernel) (by decide +kernel)) <|
  ok_c (sn_iload_n (show decode cX9_rate 52 = .ok (.iload_n 1, 1) by decide +kernel) rfl) <|
  ok_c (sn_iast (show decode cX9_rate 53 = .ok (.iastore, 1) by decide +kernel)) <|
  ok_c (sn_iload_n (show decode cX9_rate 54 = .ok (.iload_n 2, 1) by decide +kernel) rfl) <|
  ok_n
def uX9_rate : gCT := [(6, YX9_isCity, 1, some 9), (18, YX9_in, 3, none)]
set_option maxRecDepth 100000 in
theorem ocX9_rate : gOkC YX9_rate uX9_rate := oc_c (gEdge_V cal_X9_isCity ck_9 rfl (show decode cX9_rate 6 = .ok (.invokevirtual 378, 3) by decide +kernel) wd_8_17 wd_8_19 wp_7_5) <|
  oc_c (gEdge_S cal_X9_in (show decode cX9_rate 18 = .ok (.invokestatic 82, 3) by decide +kernel) wd_6_134 wd_6_135) <|
  oc_n
theorem reX9_rate : ∀ pc ∈ [26, 39, 55], decode cX9_rate pc = .ok (.ireturn, 1) := by decide +kernel
def tX9_count : List (Nat × gStp) := [(0, i_aload 0 1), (1, i_push (.int 0) 2), (2, i_putI 9 0 5), (5, i_iload 1 6), (6, i_i2l 7), (7, i_push (.long 0) 8), (8, i_push (.long 8) 11), (14, i_if_eq 24 17), (17, i_aload 0 18), (18, i_getC 9 148 21), (21, i_iload 1 22), (22, i_iald 23), (24, i_push (.int 0) 25), (25, i_istore 2 26), (26, i_iload 1 27), (27, i_sw [(9, 52), (10, 59), (11, 64)] 97), (52, i_aload 0 53), (53, i_getC 9 147 56), (56, i_push (.int 0) 57), (57, i_iald 58), (59, i_aload 0 60), (60, i_getI 9 6 63), (64, i_push (.int 0) 65), (65, i_istore 3 66), (66, i_iload 3 67), (67, i_push (.int 4) 68), (68, i_ic_ge 95 71), (71, i_iload 2 72), (72, i_aload 0 73), (73, i_getC 9 142 76), (76, i_iload 3 77), (77, i_iald 78), (78, i_push (.int (-1)) 79), (79, i_ic_ne 86 82), (82, i_push (.int 0) 83), (83, i_goto 87), (86, i_push (.int 1) 87), (87, i_ii (fun x y => x + y) 88), (88, i_istore 2 89), (89, i_iinc 3 1 92), (92, i_goto 66), (95, i_iload 2 96), (97, i_push (.int (-1)) 98)]
set_option maxRecDepth 100000 in
theorem okX9_count : gOk YX9_count tX9_count := ok_c (sn_aload_n (show decode cX9_count 0 = .ok (.aload_n 0, 1) by decide +kernel) rfl) <|
  ok_c (sn_iconst (v := 0) (show decode cX9_count 1 = .ok (.iconst 0, 1) by decide +kernel) (by decide +kernel)) <|
  ok_c (sn_putI ck_9 (by decide) rfl rfl (show decode cX9_count 2 = .ok (.putfield 77, 3) by decide +kernel) wd_5_217) <|
  ok_c (sn_iload_n (show decode cX9_count 5 = .ok (.iload_n 1, 1) by decide +kernel) rfl) <|
  ok_c (sn_i2l (show decode cX9_count 6 = .ok (.i2l, 1) by decide +kernel)) <|
  ok_c (sn_lconst (v := 0) (show decode cX9_count 7 = .ok (.lconst 0, 1) by decide +kernel) (by decide +kernel)) <|
  ok_c (sn_ldc2 (show decode cX9_count 8 = .ok (.ldc2_w 514, 3) by decide +kernel) wd_9_45) <|
  ok_c (sn_if_eq (show decode cX9_count 14 = .ok (.ifCond .eq 10, 3) by decide +kernel) (by decide)) <|
  ok_c (sn_aload_n (show decode cX9_count 17 = .ok (.aload_n 0, 1) by decide +kernel) rfl) <|
  ok_c (sn_getC (j := 17) (fun _ _ => rfl) (sn_get ck_9 (by decide) (show decode cX9_count 18 = .ok (.getfield 34, 3) by decide +kernel) wd_5_234)) <|
  ok_c (sn_iload_n (show decode cX9_count 21 = .ok (.iload_n 1, 1) by decide +kernel) rfl) <|
  ok_c (sn_iald (show decode cX9_count 22 = .ok (.iaload, 1) by decide +kernel)) <|
  ok_c (sn_iconst (v := 0) (show decode cX9_count 24 = .ok (.iconst 0, 1) by decide +kernel) (by decide +kernel)) <|
  ok_c (sn_istore_n (show decode cX9_count 25 = .ok (.istore_n 2, 1) by decide +kernel) rfl (by decide)) <|
  ok_c (sn_iload_n (show decode cX9_count 26 = .ok (.iload_n 1, 1) by decide +kernel) rfl) <|
  ok_c (sn_tsw (show decode cX9_count 27 = .ok (.tableswitch 70 9 11 #[25, 32, 37], 25) by decide +kernel) (by decide +kernel) (by decide)) <|
  ok_c (sn_aload_n (show decode cX9_count 52 = .ok (.aload_n 0, 1) by decide +kernel) rfl) <|
  ok_c (sn_getC (j := 16) (fun _ _ => rfl) (sn_get ck_9 (by decide) (show decode cX9_count 53 = .ok (.getfield 31, 3) by decide +kernel) wd_5_233)) <|
  ok_c (sn_iconst (v := 0) (show decode cX9_count 56 = .ok (.iconst 0, 1) by decide +kernel) (by decide +kernel)) <|
  ok_c (sn_iald (show decode cX9_count 57 = .ok (.iaload, 1) by decide +kernel)) <|
  ok_c (sn_aload_n (show decode cX9_count 59 = .ok (.aload_n 0, 1) by decide +kernel) rfl) <|
  ok_c (sn_getI (fun _ _ => rfl) (sn_get ck_9 (by decide) (show decode cX9_count 60 = .ok (.getfield 94, 3) by decide +kernel) wd_5_223)) <|
  ok_c (sn_iconst (v := 0) (show decode cX9_count 64 = .ok (.iconst 0, 1) by decide +kernel) (by decide +kernel)) <|
  ok_c (sn_istore_n (show decode cX9_count 65 = .ok (.istore_n 3, 1) by decide +kernel) rfl (by decide)) <|
  ok_c (sn_iload_n (show decode cX9_count 66 = .ok (.iload_n 3, 1) by decide +kernel) rfl) <|
  ok_c (sn_iconst (v := 4) (show decode cX9_count 67 = .ok (.iconst 4, 1) by decide +kernel) (by decide +kernel)) <|
  ok_c (sn_ic_ge (show decode cX9_count 68 = .ok (.if_icmp .ge 27, 3) by decide +kernel) (by decide)) <|
  ok_c (sn_iload_n (show decode cX9_count 71 = .ok (.iload_n 2, 1) by decide +kernel) rfl) <|
  ok_c (sn_aload_n (show decode cX9_count 72 = .ok (.aload_n 0, 1) by decide +kernel) rfl) <|
  ok_c (sn_getC (j := 1) (fun _ _ => rfl) (sn_get ck_9 (by decide) (show decode cX9_count 73 = .ok (.getfield 7, 3) by decide +kernel) wd_5_218)) <|
  ok_c (sn_iload_n (show decode cX9_count 76 = .ok (.iload_n 3, 1) by decide +kernel) rfl) <|
  ok_c (sn_iald (show decode cX9_count 77 = .ok (.iaload, 1) by decide +kernel)) <|
  ok_c (sn_iconst (v := (-1)) (show decode cX9_count 78 = .ok (.iconst (-1), 1) by decide +kernel) (by decide +kernel)) <|
  ok_c (sn_ic_ne (show decode cX9_count 79 = .ok (.if_icmp .ne 7, 3) by decide +kernel) (by decide)) <|
  ok_c (sn_iconst (v := 0) (show decode cX9_count 82 = .ok (.iconst 0, 1) by decide +kernel) (by decide +kernel)) <|
  ok_c (sn_goto (show decode cX9_count 83 = .ok (.goto 4, 3) by decide +kernel) (by decide)) <|
  ok_c (sn_iconst (v := 1) (show decode cX9_count 86 = .ok (.iconst 1, 1) by decide +kernel) (by decide +kernel)) <|
  ok_c (sn_iadd (show decode cX9_count 87 = .ok (.iadd, 1) by decide +kernel)) <|
  ok_c (sn_istore_n (show decode cX9_count 88 = .ok (.istore_n 2, 1) by decide +kernel) rfl (by decide)) <|
  ok_c (sn_iinc (show decode cX9_count 89 = .ok (.iinc 3 1, 3) by decide +kernel) (by decide) (by decide +kernel)) <|
  ok_c (sn_goto (show decode cX9_count 92 = .ok (.goto (-26), 3) by decide +kernel) (by decide)) <|
  ok_c (sn_iload_n (show decode cX9_count 95 = .ok (.iload_n 2, 1) by decide +kernel) rfl) <|
  ok_c (sn_iconst (v := (-1)) (show decode cX9_count 97 = .ok (.iconst (-1), 1) by decide +kernel) (by decide +kernel)) <|
  ok_n
def uX9_count : gCT := [(11, YX9_in, 3, none)]
set_option maxRecDepth 100000 in
theorem ocX9_count : gOkC YX9_count uX9_count := oc_c (gEdge_S cal_X9_in (show decode cX9_count 11 = .ok (.invokestatic 82, 3) by decide +kernel) wd_6_134 wd_6_135) <|
  oc_n
theorem reX9_count : ∀ pc ∈ [23, 58, 63, 96, 98], decode cX9_count pc = .ok (.ireturn, 1) := by decide +kernel
def tX9_image : List (Nat × gStp) := [(0, i_aload 0 1), (1, i_push (.int 0) 2), (2, i_putI 9 0 5), (5, i_iload 1 6), (6, i_i2l 7), (7, i_push (.long 0) 8), (8, i_push (.long 2) 11), (14, i_if_ne 20 17), (17, i_push (.int (-2)) 19), (20, i_aload 0 21), (21, i_push (.int 0) 22), (22, i_push (.int 1) 23), (23, i_iload 1 24), (24, i_ii (fun x y => x + y) 25), (28, i_aload 0 29), (29, i_getC 9 154 32), (32, i_iload 1 33), (33, i_push (.int 1) 34), (34, i_zast 35), (35, i_push (.int 0) 36)]
set_option maxRecDepth 100000 in
theorem okX9_image : gOk YX9_image tX9_image := ok_c (sn_aload_n (show decode cX9_image 0 = .ok (.aload_n 0, 1) by decide +kernel) rfl) <|
  ok_c (sn_iconst (v := 0) (show decode cX9_image 1 = .ok (.iconst 0, 1) by decide +kernel) (by decide +kernel)) <|
  ok_c (sn_putI ck_9 (by decide) rfl rfl (show decode cX9_image 2 = .ok (.putfield 77, 3) by decide +kernel) wd_5_217) <|
  ok_c (sn_iload_n (show decode cX9_image 5 = .ok (.iload_n 1, 1) by decide +kernel) rfl) <|
  ok_c (sn_i2l (show decode cX9_image 6 = .ok (.i2l, 1) by decide +kernel)) <|
  ok_c (sn_lconst (v := 0) (show decode cX9_image 7 = .ok (.lconst 0, 1) by decide +kernel) (by decide +kernel)) <|
  ok_c (sn_ldc2 (show decode cX9_image 8 = .ok (.ldc2_w 346, 3) by decide +kernel) wd_7_54) <|
  ok_c (sn_if_ne (show decode cX9_image 14 = .ok (.ifCond .ne 6, 3) by decide +kernel) (by decide)) <|
  ok_c (sn_bipush (v := (-2)) (show decode cX9_image 17 = .ok (.bipush (-2), 2) by decide +kernel) (by decide +kernel)) <|
  ok_c (sn_aload_n (show decode cX9_image 20 = .ok (.aload_n 0, 1) by decide +kernel) rfl) <|
  ok_c (sn_iconst (v := 0) (show decode cX9_image 21 = .ok (.iconst 0, 1) by decide +kernel) (by decide +kernel)) <|
  ok_c (sn_iconst (v := 1) (show decode cX9_image 22 = .ok (.iconst 1, 1) by decide +kernel) (by decide +kernel)) <|
  ok_c (sn_iload_n (show decode cX9_image 23 = .ok (.iload_n 1, 1) by decide +kernel) rfl) <|
  ok_c (sn_iadd (show decode cX9_image 24 = .ok (.iadd, 1) by decide +kernel)) <|
  ok_c (sn_aload_n (show decode cX9_image 28 = .ok (.aload_n 0, 1) by decide +kernel) rfl) <|
  ok_c (sn_getC (j := 23) (fun _ _ => rfl) (sn_get ck_9 (by decide) (show decode cX9_image 29 = .ok (.getfield 52, 3) by decide +kernel) wd_6_0)) <|
  ok_c (sn_iload_n (show decode cX9_image 32 = .ok (.iload_n 1, 1) by decide +kernel) rfl) <|
  ok_c (sn_iconst (v := 1) (show decode cX9_image 33 = .ok (.iconst 1, 1) by decide +kernel) (by decide +kernel)) <|
  ok_c (sn_zast (show decode cX9_image 34 = .ok (.bastore, 1) by decide +kernel)) <|
  ok_c (sn_iconst (v := 0) (show decode cX9_image 35 = .ok (.iconst 0, 1) by decide +kernel) (by decide +kernel)) <|
  ok_n
def uX9_image : gCT := [(11, YX9_in, 3, none), (25, YX9_copyCity, 3, some 9)]
set_option maxRecDepth 100000 in
theorem ocX9_image : gOkC YX9_image uX9_image := oc_c (gEdge_S cal_X9_in (show decode cX9_image 11 = .ok (.invokestatic 82, 3) by decide +kernel) wd_6_134 wd_6_135) <|
  oc_c (gEdge_V cal_X9_copyCity ck_9 rfl (show decode cX9_image 25 = .ok (.invokevirtual 237, 3) by decide +kernel) wd_7_35 wd_7_37 wp_5_4) <|
  oc_n
theorem reX9_image : ∀ pc ∈ [19, 36], decode cX9_image pc = .ok (.ireturn, 1) := by decide +kernel
def tX9_back : List (Nat × gStp) := [(0, i_aload 0 1), (1, i_push (.int 0) 2), (2, i_putI 9 0 5), (5, i_iload 1 6), (6, i_i2l 7), (7, i_push (.long 0) 8), (8, i_push (.long 2) 11), (14, i_if_ne 20 17), (17, i_push (.int (-2)) 19), (20, i_aload 0 21), (21, i_getC 9 154 24), (24, i_iload 1 25), (25, i_zald 26), (26, i_if_ne 32 29), (29, i_push (.int (-6)) 31), (32, i_aload 0 33), (33, i_push (.int 1) 34), (34, i_iload 1 35), (35, i_ii (fun x y => x + y) 36), (36, i_push (.int 0) 37), (40, i_push (.int 0) 41)]
set_option maxRecDepth 100000 in
theorem okX9_back : gOk YX9_back tX9_back := ok_c (sn_aload_n (show decode cX9_back 0 = .ok (.aload_n 0, 1) by decide +kernel) rfl) <|
  ok_c (sn_iconst (v := 0) (show decode cX9_back 1 = .ok (.iconst 0, 1) by decide +kernel) (by decide +kernel)) <|
  ok_c (sn_putI ck_9 (by decide) rfl rfl (show decode cX9_back 2 = .ok (.putfield 77, 3) by decide +kernel) wd_5_217) <|
  ok_c (sn_iload_n (show decode cX9_back 5 = .ok (.iload_n 1, 1) by decide +kernel) rfl) <|
  ok_c (sn_i2l (show decode cX9_back 6 = .ok (.i2l, 1) by decide +kernel)) <|
  ok_c (sn_lconst (v := 0) (show decode cX9_back 7 = .ok (.lconst 0, 1) by decide +kernel) (by decide +kernel)) <|
  ok_c (sn_ldc2 (show decode cX9_back 8 = .ok (.ldc2_w 346, 3) by decide +kernel) wd_7_54) <|
  ok_c (sn_if_ne (show decode cX9_back 14 = .ok (.ifCond .ne 6, 3) by decide +kernel) (by decide)) <|
  ok_c (sn_bipush (v := (-2)) (show decode cX9_back 17 = .ok (.bipush (-2), 2) by decide +kernel) (by decide +kernel)) <|
  ok_c (sn_aload_n (show decode cX9_back 20 = .ok (.aload_n 0, 1) by decide +kernel) rfl) <|
  ok_c (sn_getC (j := 23) (fun _ _ => rfl) (sn_get ck_9 (by decide) (show decode cX9_back 21 = .ok (.getfield 52, 3) by decide +kernel) wd_6_0)) <|
  ok_c (sn_iload_n (show decode cX9_back 24 = .ok (.iload_n 1, 1) by decide +kernel) rfl) <|
  ok_c (sn_zald (show decode cX9_back 25 = .ok (.baload, 1) by decide +kernel)) <|
  ok_c (sn_if_ne (show decode cX9_back 26 = .ok (.ifCond .ne 6, 3) by decide +kernel) (by decide)) <|
  ok_c (sn_bipush (v := (-6)) (show decode cX9_back 29 = .ok (.bipush (-6), 2) by decide +kernel) (by decide +kernel)) <|
  ok_c (sn_aload_n (show decode cX9_back 32 = .ok (.aload_n 0, 1) by decide +kernel) rfl) <|
  ok_c (sn_iconst (v := 1) (show decode cX9_back 33 = .ok (.iconst 1, 1) by decide +kernel) (by decide +kernel)) <|
  ok_c (sn_iload_n (show decode cX9_back 34 = .ok (.iload_n 1, 1) by decide +kernel) rfl) <|
  ok_c (sn_iadd (show decode cX9_back 35 = .ok (.iadd, 1) by decide +kernel)) <|
  ok_c (sn_iconst (v := 0) (show decode cX9_back 36 = .ok (.iconst 0, 1) by decide +kernel) (by decide +kernel)) <|
  ok_c (sn_iconst (v := 0) (show decode cX9_back 40 = .ok (.iconst 0, 1) by decide +kernel) (by decide +kernel)) <|
  ok_n
def uX9_back : gCT := [(11, YX9_in, 3, none), (37, YX9_copyCity, 3, some 9)]
set_option maxRecDepth 100000 in
theorem ocX9_back : gOkC YX9_back uX9_back := oc_c (gEdge_S cal_X9_in (show decode cX9_back 11 = .ok (.invokestatic 82, 3) by decide +kernel) wd_6_134 wd_6_135) <|
  oc_c (gEdge_V cal_X9_copyCity ck_9 rfl (show decode cX9_back 37 = .ok (.invokevirtual 237, 3) by decide +kernel) wd_7_35 wd_7_37 wp_5_4) <|
  oc_n
theorem reX9_back : ∀ pc ∈ [19, 31, 41], decode cX9_back pc = .ok (.ireturn, 1) := by decide +kernel
