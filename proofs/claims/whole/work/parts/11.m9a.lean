/-! steps and calls -/
def tX9_in : List (Nat × gStp) := [(0, i_lload 0 1), (1, i_lload 2 2), (2, i_lcmp 3), (3, i_if_lt 17 6), (6, i_lload 0 7), (7, i_lload 4 9), (9, i_lcmp 10), (10, i_if_gt 17 13), (13, i_push (.int 1) 14), (14, i_goto 18), (17, i_push (.int 0) 18)]
set_option maxRecDepth 100000 in
theorem okX9_in : gOk YX9_in tX9_in := ok_c (sn_lload_n (show decode cX9_in 0 = .ok (.lload_n 0, 1) by decide +kernel) rfl) <|
  ok_c (sn_lload_n (show decode cX9_in 1 = .ok (.lload_n 2, 1) by decide +kernel) rfl) <|
  ok_c (sn_lcmp (show decode cX9_in 2 = .ok (.lcmp, 1) by decide +kernel)) <|
  ok_c (sn_if_lt (show decode cX9_in 3 = .ok (.ifCond .lt 14, 3) by decide +kernel) (by decide)) <|
  ok_c (sn_lload_n (show decode cX9_in 6 = .ok (.lload_n 0, 1) by decide +kernel) rfl) <|
  ok_c (sn_lload (show decode cX9_in 7 = .ok (.lload 4, 2) by decide +kernel)) <|
  ok_c (sn_lcmp (show decode cX9_in 9 = .ok (.lcmp, 1) by decide +kernel)) <|
  ok_c (sn_if_gt (show decode cX9_in 10 = .ok (.ifCond .gt 7, 3) by decide +kernel) (by decide)) <|
  ok_c (sn_iconst (v := 1) (show decode cX9_in 13 = .ok (.iconst 1, 1) by decide +kernel) (by decide +kernel)) <|
  ok_c (sn_goto (show decode cX9_in 14 = .ok (.goto 4, 3) by decide +kernel) (by decide)) <|
  ok_c (sn_iconst (v := 0) (show decode cX9_in 17 = .ok (.iconst 0, 1) by decide +kernel) (by decide +kernel)) <|
  ok_n
theorem reX9_in : ∀ pc ∈ [18], decode cX9_in pc = .ok (.ireturn, 1) := by decide +kernel
def tX9_isSlot : List (Nat × gStp) := [(0, i_iload 0 1), (1, i_i2l 2), (2, i_push (.long 0) 3), (3, i_push (.long 3) 6)]
set_option maxRecDepth 100000 in
theorem okX9_isSlot : gOk YX9_isSlot tX9_isSlot := ok_c (sn_iload_n (show decode cX9_isSlot 0 = .ok (.iload_n 0, 1) by decide +kernel) rfl) <|
  ok_c (sn_i2l (show decode cX9_isSlot 1 = .ok (.i2l, 1) by decide +kernel)) <|
  ok_c (sn_lconst (v := 0) (show decode cX9_isSlot 2 = .ok (.lconst 0, 1) by decide +kernel) (by decide +kernel)) <|
  ok_c (sn_ldc2 (show decode cX9_isSlot 3 = .ok (.ldc2_w 80, 3) by decide +kernel) wd_6_133) <|
  ok_n
def uX9_isSlot : gCT := [(6, YX9_in, 3, none)]
set_option maxRecDepth 100000 in
theorem ocX9_isSlot : gOkC YX9_isSlot uX9_isSlot := oc_c (gEdge_S cal_X9_in (show decode cX9_isSlot 6 = .ok (.invokestatic 82, 3) by decide +kernel) wd_6_134 wd_6_135) <|
  oc_n
theorem reX9_isSlot : ∀ pc ∈ [9], decode cX9_isSlot pc = .ok (.ireturn, 1) := by decide +kernel
def tX9_row : List (Nat × gStp) := [(0, i_aload 0 1), (1, i_push (.int 0) 2), (2, i_putI 9 0 5), (5, i_iload 1 6), (9, i_if_eq 30 12), (12, i_iload 2 13), (13, i_i2l 14), (14, i_push (.long 0) 15), (15, i_push (.long 3) 18), (21, i_if_eq 30 24), (24, i_iload 3 25), (25, i_push (.int 60) 27), (27, i_ic_le 33 30), (30, i_push (.int (-2)) 32), (33, i_iload 3 34), (34, i_if_ge 40 37), (37, i_push (.int (-3)) 39), (40, i_aload 0 41), (41, i_getC 9 142 44), (44, i_iload 1 45), (45, i_iload 2 46), (46, i_iast 47), (47, i_aload 0 48), (48, i_getC 9 143 51), (51, i_iload 1 52), (52, i_iload 3 53), (53, i_iast 54), (54, i_push (.int 0) 55), (55, i_istore 4 57), (57, i_iload 4 59), (59, i_iload 3 60), (60, i_ic_ge 82 63), (63, i_aload 0 64), (64, i_getC 9 144 67), (67, i_push (.int 60) 69), (69, i_iload 1 70), (70, i_ii (fun x y => x * y) 71), (71, i_iload 4 73), (73, i_ii (fun x y => x + y) 74), (74, i_push (.long 0) 75), (75, i_last 76), (76, i_iinc 4 1 79), (79, i_goto 57), (82, i_push (.int 0) 83)]
set_option maxRecDepth 100000 in
theorem okX9_row : gOk YX9_row tX9_row := ok_c (sn_aload_n (show decode cX9_row 0 = .ok (.aload_n 0, 1) by decide +kernel) rfl) <|
  ok_c (sn_iconst (v := 0) (show decode cX9_row 1 = .ok (.iconst 0, 1) by decide +kernel) (by decide +kernel)) <|
  ok_c (sn_putI ck_9 (by decide) rfl rfl (show decode cX9_row 2 = .ok (.putfield 77, 3) by decide +kernel) wd_5_217) <|
  ok_c (sn_iload_n (show decode cX9_row 5 = .ok (.iload_n 1, 1) by decide +kernel) rfl) <|
  ok_c (sn_if_eq (show decode cX9_row 9 = .ok (.ifCond .eq 21, 3) by decide +kernel) (by decide)) <|
  ok_c (sn_iload_n (show decode cX9_row 12 = .ok (.iload_n 2, 1) by decide +kernel) rfl) <|
  ok_c (sn_i2l (show decode cX9_row 13 = .ok (.i2l, 1) by decide +kernel)) <|
  ok_c (sn_lconst (v := 0) (show decode cX9_row 14 = .ok (.lconst 0, 1) by decide +kernel) (by decide +kernel)) <|
  ok_c (sn_ldc2 (show decode cX9_row 15 = .ok (.ldc2_w 80, 3) by decide +kernel) wd_6_133) <|
  ok_c (sn_if_eq (show decode cX9_row 21 = .ok (.ifCond .eq 9, 3) by decide +kernel) (by decide)) <|
  ok_c (sn_iload_n (show decode cX9_row 24 = .ok (.iload_n 3, 1) by decide +kernel) rfl) <|
  ok_c (sn_bipush (v := 60) (show decode cX9_row 25 = .ok (.bipush 60, 2) by decide +kernel) (by decide +kernel)) <|
  ok_c (sn_ic_le (show decode cX9_row 27 = .ok (.if_icmp .le 6, 3) by decide +kernel) (by decide)) <|
  ok_c (sn_bipush (v := (-2)) (show decode cX9_row 30 = .ok (.bipush (-2), 2) by decide +kernel) (by decide +kernel)) <|
  ok_c (sn_iload_n (show decode cX9_row 33 = .ok (.iload_n 3, 1) by decide +kernel) rfl) <|
  ok_c (sn_if_ge (show decode cX9_row 34 = .ok (.ifCond .ge 6, 3) by decide +kernel) (by decide)) <|
  ok_c (sn_bipush (v := (-3)) (show decode cX9_row 37 = .ok (.bipush (-3), 2) by decide +kernel) (by decide +kernel)) <|
  ok_c (sn_aload_n (show decode cX9_row 40 = .ok (.aload_n 0, 1) by decide +kernel) rfl) <|
  ok_c (sn_getC (j := 1) (fun _ _ => rfl) (sn_get ck_9 (by decide) (show decode cX9_row 41 = .ok (.getfield 7, 3) by decide +kernel) wd_5_218)) <|
  ok_c (sn_iload_n (show decode cX9_row 44 = .ok (.iload_n 1, 1) by decide +kernel) rfl) <|
  ok_c (sn_iload_n (show decode cX9_row 45 = .ok (.iload_n 2, 1) by decide +kernel) rfl) <|
  ok_c (sn_iast (show decode cX9_row 46 = .ok (.iastore, 1) by decide +kernel)) <|
  ok_c (sn_aload_n (show decode cX9_row 47 = .ok (.aload_n 0, 1) by decide +kernel) rfl) <|
  ok_c (sn_getC (j := 2) (fun _ _ => rfl) (sn_get ck_9 (by decide) (show decode cX9_row 48 = .ok (.getfield 13, 3) by decide +kernel) wd_5_219)) <|
  ok_c (sn_iload_n (show decode cX9_row 51 = .ok (.iload_n 1, 1) by decide +kernel) rfl) <|
  ok_c (sn_iload_n (show decode cX9_row 52 = .ok (.iload_n 3, 1) by decide +kernel) rfl) <|
  ok_c (sn_iast (show decode cX9_row 53 = .ok (.iastore, 1) by decide +kernel)) <|
  ok_c (sn_iconst (v := 0) (show decode cX9_row 54 = .ok (.iconst 0, 1) by decide +kernel) (by decide +kernel)) <|
  ok_c (sn_istore (show decode cX9_row 55 = .ok (.istore 4, 2) by decide +kernel) (by decide)) <|
  ok_c (sn_iload (show decode cX9_row 57 = .ok (.iload 4, 2) by decide +kernel)) <|
  ok_c (sn_iload_n (show decode cX9_row 59 = .ok (.iload_n 3, 1) by decide +kernel) rfl) <|
  ok_c (sn_ic_ge (show decode cX9_row 60 = .ok (.if_icmp .ge 22, 3) by decide +kernel) (by decide)) <|
  ok_c (sn_aload_n (show decode cX9_row 63 = .ok (.aload_n 0, 1) by decide +kernel) rfl) <|
  ok_c (sn_getC (j := 3) (fun _ _ => rfl) (sn_get ck_9 (by decide) (show decode cX9_row 64 = .ok (.getfield 16, 3) by decide +kernel) wd_5_220)) <|
  ok_c (sn_bipush (v := 60) (show decode cX9_row 67 = .ok (.bipush 60, 2) by decide +kernel) (by decide +kernel)) <|
  ok_c (sn_iload_n (show decode cX9_row 69 = .ok (.iload_n 1, 1) by decide +kernel) rfl) <|
  ok_c (sn_imul (show decode cX9_row 70 = .ok (.imul, 1) by decide +kernel)) <|
  ok_c (sn_iload (show decode cX9_row 71 = .ok (.iload 4, 2) by decide +kernel)) <|
  ok_c (sn_iadd (show decode cX9_row 73 = .ok (.iadd, 1) by decide +kernel)) <|
  ok_c (sn_lconst (v := 0) (show decode cX9_row 74 = .ok (.lconst 0, 1) by decide +kernel) (by decide +kernel)) <|
  ok_c (sn_last (show decode cX9_row 75 = .ok (.lastore, 1) by decide +kernel)) <|
  ok_c (sn_iinc (show decode cX9_row 76 = .ok (.iinc 4 1, 3) by decide +kernel) (by decide) (by decide +kernel)) <|
  ok_c (sn_goto (show decode cX9_row 79 = .ok (.goto (-22), 3) by decide +kernel) (by decide)) <|
  ok_c (sn_iconst (v := 0) (show decode cX9_row 82 = .ok (.iconst 0, 1) by decide +kernel) (by decide +kernel)) <|
  ok_n
def uX9_row : gCT := [(6, YX9_isSlot, 1, none), (18, YX9_in, 3, none)]
set_option maxRecDepth 100000 in
theorem ocX9_row : gOkC YX9_row uX9_row := oc_c (gEdge_S cal_X9_isSlot (show decode cX9_row 6 = .ok (.invokestatic 86, 3) by decide +kernel) wd_6_130 wd_6_131) <|
  oc_c (gEdge_S cal_X9_in (show decode cX9_row 18 = .ok (.invokestatic 82, 3) by decide +kernel) wd_6_134 wd_6_135) <|
  oc_n
theorem reX9_row : ∀ pc ∈ [32, 39, 83], decode cX9_row pc = .ok (.ireturn, 1) := by decide +kernel
def tX9_cut : List (Nat × gStp) := [(0, i_iload 2 1), (1, i_if_ne 11 4), (4, i_lload 0 5), (5, i_l2i 6), (6, i_i (fun x => x.toInt8.toInt32) 7), (7, i_i2l 8), (8, i_goto 35), (11, i_iload 2 12), (12, i_push (.int 1) 13), (13, i_ic_ne 23 16), (16, i_lload 0 17), (17, i_l2i 18), (18, i_i (fun x => x.toInt16.toInt32) 19), (19, i_i2l 20), (20, i_goto 35), (23, i_iload 2 24), (24, i_push (.int 2) 25), (25, i_ic_ne 34 28), (28, i_lload 0 29), (29, i_l2i 30), (30, i_i2l 31), (31, i_goto 35), (34, i_lload 0 35)]
set_option maxRecDepth 100000 in
theorem okX9_cut : gOk YX9_cut tX9_cut := ok_c (sn_iload_n (show decode cX9_cut 0 = .ok (.iload_n 2, 1) by decide +kernel) rfl) <|
  ok_c (sn_if_ne (show decode cX9_cut 1 = .ok (.ifCond .ne 10, 3) by decide +kernel) (by decide)) <|
  ok_c (sn_lload_n (show decode cX9_cut 4 = .ok (.lload_n 0, 1) by decide +kernel) rfl) <|
  ok_c (sn_l2i (show decode cX9_cut 5 = .ok (.l2i, 1) by decide +kernel)) <|
  ok_c (sn_i2b (show decode cX9_cut 6 = .ok (.i2b, 1) by decide +kernel)) <|
  ok_c (sn_i2l (show decode cX9_cut 7 = .ok (.i2l, 1) by decide +kernel)) <|
  ok_c (sn_goto (show decode cX9_cut 8 = .ok (.goto 27, 3) by decide +kernel) (by decide)) <|
  ok_c (sn_iload_n (show decode cX9_cut 11 = .ok (.iload_n 2, 1) by decide +kernel) rfl) <|
  ok_c (sn_iconst (v := 1) (show decode cX9_cut 12 = .ok (.iconst 1, 1) by decide +kernel) (by decide +kernel)) <|
  ok_c (sn_ic_ne (show decode cX9_cut 13 = .ok (.if_icmp .ne 10, 3) by decide +kernel) (by decide)) <|
  ok_c (sn_lload_n (show decode cX9_cut 16 = .ok (.lload_n 0, 1) by decide +kernel) rfl) <|
  ok_c (sn_l2i (show decode cX9_cut 17 = .ok (.l2i, 1) by decide +kernel)) <|
  ok_c (sn_i2s (show decode cX9_cut 18 = .ok (.i2s, 1) by decide +kernel)) <|
  ok_c (sn_i2l (show decode cX9_cut 19 = .ok (.i2l, 1) by decide +kernel)) <|
  ok_c (sn_goto (show decode cX9_cut 20 = .ok (.goto 15, 3) by decide +kernel) (by decide)) <|
  ok_c (sn_iload_n (show decode cX9_cut 23 = .ok (.iload_n 2, 1) by decide +kernel) rfl) <|
  ok_c (sn_iconst (v := 2) (show decode cX9_cut 24 = .ok (.iconst 2, 1) by decide +kernel) (by decide +kernel)) <|
  ok_c (sn_ic_ne (show decode cX9_cut 25 = .ok (.if_icmp .ne 9, 3) by decide +kernel) (by decide)) <|
  ok_c (sn_lload_n (show decode cX9_cut 28 = .ok (.lload_n 0, 1) by decide +kernel) rfl) <|
  ok_c (sn_l2i (show decode cX9_cut 29 = .ok (.l2i, 1) by decide +kernel)) <|
  ok_c (sn_i2l (show decode cX9_cut 30 = .ok (.i2l, 1) by decide +kernel)) <|
  ok_c (sn_goto (show decode cX9_cut 31 = .ok (.goto 4, 3) by decide +kernel) (by decide)) <|
  ok_c (sn_lload_n (show decode cX9_cut 34 = .ok (.lload_n 0, 1) by decide +kernel) rfl) <|
  ok_n
theorem reX9_cut : ∀ pc ∈ [35], decode cX9_cut pc = .ok (.lreturn, 1) := by decide +kernel
def tX9_write : List (Nat × gStp) := [(0, i_aload 0 1), (1, i_push (.int 0) 2), (2, i_putI 9 0 5), (5, i_iload 1 6), (9, i_if_ne 15 12), (12, i_push (.int (-2)) 14), (15, i_aload 0 16), (16, i_getC 9 142 19), (19, i_iload 1 20), (20, i_iald 21), (21, i_push (.int (-1)) 22), (22, i_ic_ne 28 25), (25, i_push (.int (-6)) 27), (28, i_iload 2 29), (29, i_i2l 30), (30, i_push (.long 0) 31), (31, i_aload 0 32), (32, i_getC 9 143 35), (35, i_iload 1 36), (36, i_iald 37), (37, i_push (.int 1) 38), (38, i_ii (fun x y => x - y) 39), (39, i_i2l 40), (43, i_if_ne 49 46), (46, i_push (.int (-7)) 48), (49, i_aload 0 50), (50, i_getC 9 144 53), (53, i_push (.int 60) 55), (55, i_iload 1 56), (56, i_ii (fun x y => x * y) 57), (57, i_iload 2 58), (58, i_ii (fun x y => x + y) 59), (59, i_lload 3 60), (60, i_aload 0 61), (61, i_getC 9 142 64), (64, i_iload 1 65), (65, i_iald 66), (69, i_last 70), (70, i_push (.int 0) 71)]
set_option maxRecDepth 100000 in
theorem okX9_write : gOk YX9_write tX9_write := ok_c (sn_aload_n (show decode cX9_write 0 = .ok (.aload_n 0, 1) by decide +kernel) rfl) <|
  ok_c (sn_iconst (v := 0) (show decode cX9_write 1 = .ok (.iconst 0, 1) by decide +kernel) (by decide +kernel)) <|
  ok_c (sn_putI ck_9 (by decide) rfl rfl (show decode cX9_write 2 = .ok (.putfield 77, 3) by decide +kernel) wd_5_217) <|
  ok_c (sn_iload_n (show decode cX9_write 5 = .ok (.iload_n 1, 1) by decide +kernel) rfl) <|
  ok_c (sn_if_ne (show decode cX9_write 9 = .ok (.ifCond .ne 6, 3) by decide +kernel) (by decide)) <|
  ok_c (sn_bipush (v := (-2)) (show decode cX9_write 12 = .ok (.bipush (-2), 2) by decide +kernel) (by decide +kernel)) <|
  ok_c (sn_aload_n (show decode cX9_write 15 = .ok (.aload_n 0, 1) by decide +kernel) rfl) <|
  ok_c (sn_getC (j := 1) (fun _ _ => rfl) (sn_get ck_9 (by decide) (show decode cX9_write 16 = .ok (.getfield 7, 3) by decide +kernel) wd_5_218)) <|
  ok_c (sn_iload_n (show decode cX9_write 19 = .ok (.iload_n 1, 1) by decide +kernel) rfl) <|
  ok_c (sn_iald (show decode cX9_write 20 = .ok (.iaload, 1) by decide +kernel)) <|
  ok_c (sn_iconst (v := (-1)) (show decode cX9_write 21 = .ok (.iconst (-1), 1) by decide +kernel) (by decide +kernel)) <|
  ok_c (sn_ic_ne (show decode cX9_write 22 = .ok (.if_icmp .ne 6, 3) by decide +kernel) (by decide)) <|
  ok_c (sn_bipush (v := (-6)) (show decode cX9_write 25 = .ok (.bipush (-6), 2) by decide +kernel) (by decide +kernel)) <|
  ok_c (sn_iload_n (show decode cX9_write 28 = .ok (.iload_n 2, 1) by decide +kernel) rfl) <|
  ok_c (sn_i2l (show decode cX9_write 29 = .ok (.i2l, 1) by decide +kernel)) <|
  ok_c (sn_lconst (v := 0) (show decode cX9_write 30 = .ok (.lconst 0, 1) by decide +kernel) (by decide +kernel)) <|
  ok_c (sn_aload_n (show decode cX9_write 31 = .ok (.aload_n 0, 1) by decide +kernel) rfl) <|
  ok_c (sn_getC (j := 2) (fun _ _ => rfl) (sn_get ck_9 (by decide) (show decode cX9_write 32 = .ok (.getfield 13, 3) by decide +kernel) wd_5_219)) <|
  ok_c (sn_iload_n (show decode cX9_write 35 = .ok (.iload_n 1, 1) by decide +kernel) rfl) <|
  ok_c (sn_iald (show decode cX9_write 36 = .ok (.iaload, 1) by decide +kernel)) <|
  ok_c (sn_iconst (v := 1) (show decode cX9_write 37 = .ok (.iconst 1, 1) by decide +kernel) (by decide +kernel)) <|
  ok_c (sn_isub (show decode cX9_write 38 = .ok (.isub, 1) by decide +kernel)) <|
  ok_c (sn_i2l (show decode cX9_write 39 = .ok (.i2l, 1) by decide +kernel)) <|
  ok_c (sn_if_ne (show decode cX9_write 43 = .ok (.ifCond .ne 6, 3) by decide +kernel) (by decide)) <|
  ok_c (sn_bipush (v := (-7)) (show decode cX9_write 46 = .ok (.bipush (-7), 2) by decide +kernel) (by decide +kernel)) <|
  ok_c (sn_aload_n (show decode cX9_write 49 = .ok (.aload_n 0, 1) by decide +kernel) rfl) <|
  ok_c (sn_getC (j := 3) (fun _ _ => rfl) (sn_get ck_9 (by decide) (show decode cX9_write 50 = .ok (.getfield 16, 3) by decide +kernel) wd_5_220)) <|
  ok_c (sn_bipush (v := 60) (show decode cX9_write 53 = .ok (.bipush 60, 2) by decide +kernel) (by decide +kernel)) <|
  ok_c (sn_iload_n (show decode cX9_write 55 = .ok (.iload_n 1, 1) by decide +kernel) rfl) <|
  ok_c (sn_imul (show decode cX9_write 56 = .ok (.imul, 1) by decide +kernel)) <|
  ok_c (sn_iload_n (show decode cX9_write 57 = .ok (.iload_n 2, 1) by decide +kernel) rfl) <|
  ok_c (sn_iadd (show decode cX9_write 58 = .ok (.iadd, 1) by decide +kernel)) <|
  ok_c (sn_lload_n (show decode cX9_write 59 = .ok (.lload_n 3, 1) by decide +kernel) rfl) <|
  ok_c (sn_aload_n (show decode cX9_write 60 = .ok (.aload_n 0, 1) by decide +kernel) rfl) <|
  ok_c (sn_getC (j := 1) (fun _ _ => rfl) (sn_get ck_9 (by decide) (show decode cX9_write 61 = .ok (.getfield 7, 3) by decide +kernel) wd_5_218)) <|
  ok_c (sn_iload_n (show decode cX9_write 64 = .ok (.iload_n 1, 1) by decide +kernel) rfl) <|
  ok_c (sn_iald (show decode cX9_write 65 = .ok (.iaload, 1) by decide +kernel)) <|
  ok_c (sn_last (show decode cX9_write 69 = .ok (.lastore, 1) by decide +kernel)) <|
  ok_c (sn_iconst (v := 0) (show decode cX9_write 70 = .ok (.iconst 0, 1) by decide +kernel) (by decide +kernel)) <|
  ok_n
def uX9_write : gCT := [(6, YX9_isSlot, 1, none), (40, YX9_in, 3, none), (66, YX9_cut, 2, none)]
set_option maxRecDepth 100000 in
theorem ocX9_write : gOkC YX9_write uX9_write := oc_c (gEdge_S cal_X9_isSlot (show decode cX9_write 6 = .ok (.invokestatic 86, 3) by decide +kernel) wd_6_130 wd_6_131) <|
  oc_c (gEdge_S cal_X9_in (show decode cX9_write 40 = .ok (.invokestatic 82, 3) by decide +kernel) wd_6_134 wd_6_135) <|
  oc_c (gEdge_S cal_X9_cut (show decode cX9_write 66 = .ok (.invokestatic 90, 3) by decide +kernel) wd_6_141 wd_6_142) <|
  oc_n
theorem reX9_write : ∀ pc ∈ [14, 27, 48, 71], decode cX9_write pc = .ok (.ireturn, 1) := by decide +kernel
def tX9_paste : List (Nat × gStp) := [(0, i_aload 0 1), (1, i_push (.int 0) 2), (2, i_putI 9 0 5), (5, i_iload 1 6), (9, i_if_eq 19 12), (12, i_iload 3 13), (16, i_if_ne 22 19), (19, i_push (.int (-2)) 21), (22, i_aload 0 23), (23, i_getC 9 142 26), (26, i_iload 1 27), (27, i_iald 28), (28, i_push (.int (-1)) 29), (29, i_ic_eq 42 32), (32, i_aload 0 33), (33, i_getC 9 142 36), (36, i_iload 3 37), (37, i_iald 38), (38, i_push (.int (-1)) 39), (39, i_ic_ne 45 42), (42, i_push (.int (-6)) 44), (45, i_aload 0 46), (46, i_getC 9 142 49), (49, i_iload 1 50), (50, i_iald 51), (51, i_aload 0 52), (52, i_getC 9 142 55), (55, i_iload 3 56), (56, i_iald 57), (57, i_ic_eq 63 60), (60, i_push (.int (-8)) 62), (63, i_iload 2 64), (64, i_if_lt 112 67), (67, i_iload 4 69), (69, i_if_lt 112 72), (72, i_iload 5 74), (74, i_if_lt 112 77), (77, i_iload 2 78), (78, i_i2l 79), (79, i_iload 5 81), (81, i_i2l 82), (82, i_ll (fun x y => x + y) 83), (83, i_aload 0 84), (84, i_getC 9 143 87), (87, i_iload 1 88), (88, i_iald 89), (89, i_i2l 90), (90, i_lcmp 91), (91, i_if_gt 112 94), (94, i_iload 4 96), (96, i_i2l 97), (97, i_iload 5 99), (99, i_i2l 100), (100, i_ll (fun x y => x + y) 101), (101, i_aload 0 102), (102, i_getC 9 143 105), (105, i_iload 3 106), (106, i_iald 107), (107, i_i2l 108), (108, i_lcmp 109), (109, i_if_le 115 112), (112, i_push (.int (-7)) 114), (115, i_push (.int 0) 116), (116, i_istore 6 118), (118, i_iload 6 120), (120, i_iload 5 122), (122, i_ic_ge 152 125), (125, i_aload 0 126), (126, i_getC 9 145 129), (129, i_iload 6 131), (131, i_aload 0 132), (132, i_getC 9 144 135), (135, i_push (.int 60) 137), (137, i_iload 1 138), (138, i_ii (fun x y => x * y) 139), (139, i_iload 2 140), (140, i_ii (fun x y => x + y) 141), (141, i_iload 6 143), (143, i_ii (fun x y => x + y) 144), (144, i_lald 145), (145, i_last 146), (146, i_iinc 6 1 149), (149, i_goto 118), (152, i_push (.int 0) 153), (153, i_istore 6 155), (155, i_iload 6 157), (157, i_iload 5 159), (159, i_ic_ge 190 162), (162, i_aload 0 163), (163, i_getC 9 144 166), (166, i_push (.int 60) 168), (168, i_iload 3 169), (169, i_ii (fun x y => x * y) 170), (170, i_iload 4 172), (172, i_ii (fun x y => x + y) 173), (173, i_iload 6 175), (175, i_ii (fun x y => x + y) 176), (176, i_aload 0 177), (177, i_getC 9 145 180), (180, i_iload 6 182), (182, i_lald 183), (183, i_last 184), (184, i_iinc 6 1 187), (187, i_goto 155), (190, i_push (.int 0) 191)]
set_option maxRecDepth 100000 in
theorem okX9_paste : gOk YX9_paste tX9_paste := ok_c (sn_aload_n (show decode cX9_paste 0 = .ok (.aload_n 0, 1) by decide +kernel) rfl) <|
  ok_c (sn_iconst (v := 0) (show decode cX9_paste 1 = .ok (.iconst 0, 1) by decide +kernel) (by decide +kernel)) <|
  ok_c (sn_putI ck_9 (by decide) rfl rfl (show decode cX9_paste 2 = .ok (.putfield 77, 3) by decide +kernel) wd_5_217) <|
  ok_c (sn_iload_n (show decode cX9_paste 5 = .ok (.iload_n 1, 1) by decide +kernel) rfl) <|
  ok_c (sn_if_eq (show decode cX9_paste 9 = .ok (.ifCond .eq 10, 3) by decide +kernel) (by decide)) <|
  ok_c (sn_iload_n (show decode cX9_paste 12 = .ok (.iload_n 3, 1) by decide +kernel) rfl) <|
  ok_c (sn_if_ne (show decode cX9_paste 16 = .ok (.ifCond .ne 6, 3) by decide +kernel) (by decide)) <|
  ok_c (sn_bipush (v := (-2)) (show decode cX9_paste 19 = .ok (.bipush (-2), 2) by decide +kernel) (by decide +kernel)) <|
  ok_c (sn_aload_n (show decode cX9_paste 22 = .ok (.aload_n 0, 1) by decide +kernel) rfl) <|
  ok_c (sn_getC (j := 1) (fun _ _ => rfl) (sn_get ck_9 (by decide) (show decode cX9_paste 23 = .ok (.getfield 7, 3) by decide +kernel) wd_5_218)) <|
  ok_c (sn_iload_n (show decode cX9_paste 26 = .ok (.iload_n 1, 1) by decide +kernel) rfl) <|
  ok_c (sn_iald (show decode cX9_paste 27 = .ok (.iaload, 1) by decide +kernel)) <|
  ok_c (sn_iconst (v := (-1)) (show decode cX9_paste 28 = .ok (.iconst (-1), 1) by decide +kernel) (by decide +kernel)) <|
  ok_c (sn_ic_eq (show decode cX9_paste 29 = .ok (.if_icmp .eq 13, 3) by decide +kernel) (by decide)) <|
  ok_c (sn_aload_n (show decode cX9_paste 32 = .ok (.aload_n 0, 1) by decide +kernel) rfl) <|
  ok_c (sn_getC (j := 1) (fun _ _ => rfl) (sn_get ck_9 (by decide) (show decode cX9_paste 33 = .ok (.getfield 7, 3) by decide +kernel) wd_5_218)) <|
  ok_c (sn_iload_n (show decode cX9_paste 36 = .ok (.iload_n 3, 1) by decide +kernel) rfl) <|
  ok_c (sn_iald (show decode cX9_paste 37 = .ok (.iaload, 1) by decide +kernel)) <|
  ok_c (sn_iconst (v := (-1)) (show decode cX9_paste 38 = .ok (.iconst (-1), 1) by decide +kernel) (by decide +kernel)) <|
  ok_c (sn_ic_ne (show decode cX9_paste 39 = .ok (.if_icmp .ne 6, 3) by decide +kernel) (by decide)) <|
  ok_c (sn_bipush (v := (-6)) (show decode cX9_paste 42 = .ok (.bipush (-6), 2) by decide +kernel) (by decide +kernel)) <|
  ok_c (sn_aload_n (show decode cX9_paste 45 = .ok (.aload_n 0, 1) by decide +kernel) rfl) <|
  ok_c (sn_getC (j := 1) (fun _ _ => rfl) (sn_get ck_9 (by decide) (show decode cX9_paste 46 = .ok (.getfield 7, 3) by decide +kernel) wd_5_218)) <|
  ok_c (sn_iload_n (show decode cX9_paste 49 = .ok (.iload_n 1, 1) by decide +kernel) rfl) <|
  ok_c (sn_iald (show decode cX9_paste 50 = .ok (.iaload, 1) by decide +kernel)) <|
  ok_c (sn_aload_n (show decode cX9_paste 51 = .ok (.aload_n 0, 1) by decide +kernel) rfl) <|
  ok_c (sn_getC (j := 1) (fun _ _ => rfl) (sn_get ck_9 (by decide) (show decode cX9_paste 52 = .ok (.getfield 7, 3) by decide +kernel) wd_5_218)) <|
  ok_c (sn_iload_n (show decode cX9_paste 55 = .ok (.iload_n 3, 1) by decide +kernel) rfl) <|
  ok_c (sn_iald (show decode cX9_paste 56 = .ok (.iaload, 1) by decide +kernel)) <|
  ok_c (sn_ic_eq (show decode cX9_paste 57 = .ok (.if_icmp .eq 6, 3) by decide +kernel) (by decide)) <|
  ok_c (sn_bipush (v := (-8)) (show decode cX9_paste 60 = .ok (.bipush (-8), 2) by decide +kernel) (by decide +kernel)) <|
  ok_c (sn_iload_n (show decode cX9_paste 63 = .ok (.iload_n 2, 1) by decide +kernel) rfl) <|
  ok_c (sn_if_lt (show decode cX9_paste 64 = .ok (.ifCond .lt 48, 3) by decide +kernel) (by decide)) <|
  ok_c (sn_iload (show decode cX9_paste 67 = .ok (.iload 4, 2) by decide +kernel)) <|
  ok_c (sn_if_lt (show decode cX9_paste 69 = .ok (.ifCond .lt 43, 3) by decide +kernel) (by decide)) <|
  ok_c (sn_iload (show decode cX9_paste 72 = .ok (.iload 5, 2) by decide +kernel)) <|
  ok_c (sn_if_lt (show decode cX9_paste 74 = .ok (.ifCond .lt 38, 3) by decide +kernel) (by decide)) <|
  ok_c (sn_iload_n (show decode cX9_paste 77 = .ok (.iload_n 2, 1) by decide +kernel) rfl) <|
  ok_c (sn_i2l (show decode cX9_paste 78 = .ok (.i2l, 1) by decide +kernel)) <|
  ok_c (sn_iload (show decode cX9_paste 79 = .ok (.iload 5, 2) by decide +kernel)) <|
  ok_c (sn_i2l (show decode cX9_paste 81 = .ok (.i2l, 1) by decide +kernel)) <|
  ok_c (sn_ladd (show decode cX9_paste 82 = .ok (.ladd, 1) by decide +kernel)) <|
  ok_c (sn_aload_n (show decode cX9_paste 83 = .ok (.aload_n 0, 1) by decide +kernel) rfl) <|
  ok_c (sn_getC (j := 2) (fun _ _ => rfl) (sn_get ck_9 (by decide) (show decode cX9_paste 84 = .ok (.getfield 13, 3) by decide +kernel) wd_5_219)) <|
  ok_c (sn_iload_n (show decode cX9_paste 87 = .ok (.iload_n 1, 1) by decide +kernel) rfl) <|
  ok_c (sn_iald (show decode cX9_paste 88 = .ok (.iaload, 1) by decide +kernel)) <|
  ok_c (sn_i2l (show decode cX9_paste 89 = .ok (.i2l, 1) by decide +kernel)) <|
  ok_c (sn_lcmp (show decode cX9_paste 90 = .ok (.lcmp, 1) by decide +kernel)) <|
  ok_c (sn_if_gt (show decode cX9_paste 91 = .ok (.ifCond .gt 21, 3) by decide +kernel) (by decide)) <|
  ok_c (sn_iload (show decode cX9_paste 94 = .ok (.iload 4, 2) by decide +kernel)) <|
  ok_c (sn_i2l (show decode cX9_paste 96 = .ok (.i2l, 1) by decide +kernel)) <|
  ok_c (sn_iload (show decode cX9_paste 97 = .ok (.iload 5, 2) by decide +kernel)) <|
  ok_c (sn_i2l (show decode cX9_paste 99 = .ok (.i2l, 1) by decide +kernel)) <|
  ok_c (sn_ladd (show decode cX9_paste 100 = .ok (.ladd, 1) by decide +kernel)) <|
  ok_c (sn_aload_n (show decode cX9_paste 101 = .ok (.aload_n 0, 1) by decide +kernel) rfl) <|
  ok_c (sn_getC (j := 2) (fun _ _ => rfl) (sn_get ck_9 (by decide) (show decode cX9_paste 102 = .ok (.getfield 13, 3) by decide +kernel) wd_5_219)) <|
  ok_c (sn_iload_n (show decode cX9_paste 105 = .ok (.iload_n 3, 1) by decide +kernel) rfl) <|
  ok_c (sn_iald (show decode cX9_paste 106 = .ok (.iaload, 1) by decide +kernel)) <|
  ok_c (sn_i2l (show decode cX9_paste 107 = .ok (.i2l, 1) by decide +kernel)) <|
  ok_c (sn_lcmp (show decode cX9_paste 108 = .ok (.lcmp, 1) by decide +kernel)) <|
  ok_c (sn_if_le (show decode cX9_paste 109 = .ok (.ifCond .le 6, 3) by decide +kernel) (by decide)) <|
  ok_c (sn_bipush (v := (-7)) (show decode cX9_paste 112 = .ok (.bipush (-7), 2) by decide +kernel) (by decide +kernel)) <|
  ok_c (sn_iconst (v := 0) (show decode cX9_paste 115 = .ok (.iconst 0, 1) by decide +kernel) (by decide +kernel)) <|
  ok_c (sn_istore (show decode cX9_paste 116 = .ok (.istore 6, 2) by decide +kernel) (by decide)) <|
  ok_c (sn_iload (show decode cX9_paste 118 = .ok (.iload 6, 2) by decide +kernel)) <|
  ok_c (sn_iload (show decode cX9_paste 120 = .ok (.iload 5, 2) by decide +kernel)) <|
  ok_c (sn_ic_ge (show decode cX9_paste 122 = .ok (.if_icmp .ge 30, 3) by decide +kernel) (by decide)) <|
  ok_c (sn_aload_n (show decode cX9_paste 125 = .ok (.aload_n 0, 1) by decide +kernel) rfl) <|
  ok_c (sn_getC (j := 4) (fun _ _ => rfl) (sn_get ck_9 (by decide) (show decode cX9_paste 126 = .ok (.getfield 20, 3) by decide +kernel) wd_5_221)) <|
  ok_c (sn_iload (show decode cX9_paste 129 = .ok (.iload 6, 2) by decide +kernel)) <|
  ok_c (sn_aload_n (show decode cX9_paste 131 = .ok (.aload_n 0, 1) by decide +kernel) rfl) <|
  ok_c (sn_getC (j := 3) (fun _ _ => rfl) (sn_get ck_9 (by decide) (show decode cX9_paste 132 = .ok (.getfield 16, 3) by decide +kernel) wd_5_220)) <|
  ok_c (sn_bipush (v := 60) (show decode cX9_paste 135 = .ok (.bipush 60, 2) by decide +kernel) (by decide +kernel)) <|
  ok_c (sn_iload_n (show decode cX9_paste 137 = .ok (.iload_n 1, 1) by decide +kernel) rfl) <|
  ok_c (sn_imul (show decode cX9_paste 138 = .ok (.imul, 1) by decide +kernel)) <|
  ok_c (sn_iload_n (show decode cX9_paste 139 = .ok (.iload_n 2, 1) by decide +kernel) rfl) <|
  ok_c (sn_iadd (show decode cX9_paste 140 = .ok (.iadd, 1) by decide +kernel)) <|
  ok_c (sn_iload (show decode cX9_paste 141 = .ok (.iload 6, 2) by decide +kernel)) <|
  ok_c (sn_iadd (show decode cX9_paste 143 = .ok (.iadd, 1) by decide +kernel)) <|
  ok_c (sn_lald (show decode cX9_paste 144 = .ok (.laload, 1) by decide +kernel)) <|
  ok_c (sn_last (show decode cX9_paste 145 = .ok (.lastore, 1) by decide +kernel)) <|
  ok_c (sn_iinc (show decode cX9_paste 146 = .ok (.iinc 6 1, 3) by decide +kernel) (by decide) (by decide +kernel)) <|
  ok_c (sn_goto (show decode cX9_paste 149 = .ok (.goto (-31), 3) by decide +kernel) (by decide)) <|
  ok_c (sn_iconst (v := 0) (show decode cX9_paste 152 = .ok (.iconst 0, 1) by decide +kernel) (by decide +kernel)) <|
  ok_c (sn_istore (show decode cX9_paste 153 = .ok (.istore 6, 2) by decide +kernel) (by decide)) <|
  ok_c (sn_iload (show decode cX9_paste 155 = .ok (.iload 6, 2) by decide +kernel)) <|
  ok_c (sn_iload (show decode cX9_paste 157 = .ok (.iload 5, 2) by decide +kernel)) <|
  ok_c (sn_ic_ge (show decode cX9_paste 159 = .ok (.if_icmp .ge 31, 3) by decide +kernel) (by decide)) <|
  ok_c (sn_aload_n (show decode cX9_paste 162 = .ok (.aload_n 0, 1) by decide +kernel) rfl) <|
  ok_c (sn_getC (j := 3) (fun _ _ => rfl) (sn_get ck_9 (by decide) (show decode cX9_paste 163 = .ok (.getfield 16, 3) by decide +kernel) wd_5_220)) <|
  ok_c (sn_bipush (v := 60) (show decode cX9_paste 166 = .ok (.bipush 60, 2) by decide +kernel) (by decide +kernel)) <|
  ok_c (sn_iload_n (show decode cX9_paste 168 = .ok (.iload_n 3, 1) by decide +kernel) rfl) <|
  ok_c (sn_imul (show decode cX9_paste 169 = .ok (.imul, 1) by decide +kernel)) <|
  ok_c (sn_iload (show decode cX9_paste 170 = .ok (.iload 4, 2) by decide +kernel)) <|
  ok_c (sn_iadd (show decode cX9_paste 172 = .ok (.iadd, 1) by decide +kernel)) <|
  ok_c (sn_iload (show decode cX9_paste 173 = .ok (.iload 6, 2) by decide +kernel)) <|
  ok_c (sn_iadd (show decode cX9_paste 175 = .ok (.iadd, 1) by decide +kernel)) <|
  ok_c (sn_aload_n (show decode cX9_paste 176 = .ok (.aload_n 0, 1) by decide +kernel) rfl) <|
  ok_c (sn_getC (j := 4) (fun _ _ => rfl) (sn_get ck_9 (by decide) (show decode cX9_paste 177 = .ok (.getfield 20, 3) by decide +kernel) wd_5_221)) <|
  ok_c (sn_iload (show decode cX9_paste 180 = .ok (.iload 6, 2) by decide +kernel)) <|
  ok_c (sn_lald (show decode cX9_paste 182 = .ok (.laload, 1) by decide +kernel)) <|
  ok_c (sn_last (show decode cX9_paste 183 = .ok (.lastore, 1) by decide +kernel)) <|
  ok_c (sn_iinc (show decode cX9_paste 184 = .ok (.iinc 6 1, 3) by decide +kernel) (by decide) (by decide +kernel)) <|
  ok_c (sn_goto (show decode cX9_paste 187 = .ok (.goto (-32), 3) by decide +kernel) (by decide)) <|
  ok_c (sn_iconst (v := 0) (show decode cX9_paste 190 = .ok (.iconst 0, 1) by decide +kernel) (by decide +kernel)) <|
  ok_n
def uX9_paste : gCT := [(6, YX9_isSlot, 1, none), (13, YX9_isSlot, 1, none)]
set_option maxRecDepth 100000 in
theorem ocX9_paste : gOkC YX9_paste uX9_paste := oc_c (gEdge_S cal_X9_isSlot (show decode cX9_paste 6 = .ok (.invokestatic 86, 3) by decide +kernel) wd_6_130 wd_6_131) <|
  oc_c (gEdge_S cal_X9_isSlot (show decode cX9_paste 13 = .ok (.invokestatic 86, 3) by decide +kernel) wd_6_130 wd_6_131) <|
  oc_n
theorem reX9_paste : ∀ pc ∈ [21, 44, 62, 114, 191], decode cX9_paste pc = .ok (.ireturn, 1) := by decide +kernel
def tX9_feed : List (Nat × gStp) := [(0, i_aload 0 1), (1, i_push (.int 0) 2), (2, i_putI 9 0 5), (5, i_aload 0 6), (6, i_getI 9 6 9), (9, i_push (.int 20) 11), (11, i_ii (fun x y => x + y) 12), (12, i_push (.int 800) 15), (15, i_ic_le 20 18), (18, i_push (.int (-1)) 19), (20, i_aload 0 21), (21, i_iload 1 22), (25, i_aload 0 26), (26, i_iload 2 27), (30, i_aload 0 31), (31, i_iload 3 32), (35, i_aload 0 36), (36, i_iload 4 38), (41, i_aload 0 42), (42, i_iload 5 44), (47, i_aload 0 48), (48, i_getI 9 6 51)]
set_option maxRecDepth 100000 in
theorem okX9_feed : gOk YX9_feed tX9_feed := ok_c (sn_aload_n (show decode cX9_feed 0 = .ok (.aload_n 0, 1) by decide +kernel) rfl) <|
  ok_c (sn_iconst (v := 0) (show decode cX9_feed 1 = .ok (.iconst 0, 1) by decide +kernel) (by decide +kernel)) <|
  ok_c (sn_putI ck_9 (by decide) rfl rfl (show decode cX9_feed 2 = .ok (.putfield 77, 3) by decide +kernel) wd_5_217) <|
  ok_c (sn_aload_n (show decode cX9_feed 5 = .ok (.aload_n 0, 1) by decide +kernel) rfl) <|
  ok_c (sn_getI (fun _ _ => rfl) (sn_get ck_9 (by decide) (show decode cX9_feed 6 = .ok (.getfield 94, 3) by decide +kernel) wd_5_223)) <|
  ok_c (sn_bipush (v := 20) (show decode cX9_feed 9 = .ok (.bipush 20, 2) by decide +kernel) (by decide +kernel)) <|
  ok_c (sn_iadd (show decode cX9_feed 11 = .ok (.iadd, 1) by decide +kernel)) <|
  ok_c (sn_sipush (v := 800) (show decode cX9_feed 12 = .ok (.sipush 800, 3) by decide +kernel) (by decide +kernel)) <|
  ok_c (sn_ic_le (show decode cX9_feed 15 = .ok (.if_icmp .le 5, 3) by decide +kernel) (by decide)) <|
  ok_c (sn_iconst (v := (-1)) (show decode cX9_feed 18 = .ok (.iconst (-1), 1) by decide +kernel) (by decide +kernel)) <|
  ok_c (sn_aload_n (show decode cX9_feed 20 = .ok (.aload_n 0, 1) by decide +kernel) rfl) <|
  ok_c (sn_iload_n (show decode cX9_feed 21 = .ok (.iload_n 1, 1) by decide +kernel) rfl) <|
  ok_c (sn_aload_n (show decode cX9_feed 25 = .ok (.aload_n 0, 1) by decide +kernel) rfl) <|
  ok_c (sn_iload_n (show decode cX9_feed 26 = .ok (.iload_n 2, 1) by decide +kernel) rfl) <|
  ok_c (sn_aload_n (show decode cX9_feed 30 = .ok (.aload_n 0, 1) by decide +kernel) rfl) <|
  ok_c (sn_iload_n (show decode cX9_feed 31 = .ok (.iload_n 3, 1) by decide +kernel) rfl) <|
  ok_c (sn_aload_n (show decode cX9_feed 35 = .ok (.aload_n 0, 1) by decide +kernel) rfl) <|
  ok_c (sn_iload (show decode cX9_feed 36 = .ok (.iload 4, 2) by decide +kernel)) <|
  ok_c (sn_aload_n (show decode cX9_feed 41 = .ok (.aload_n 0, 1) by decide +kernel) rfl) <|
  ok_c (sn_iload (show decode cX9_feed 42 = .ok (.iload 5, 2) by decide +kernel)) <|
  ok_c (sn_aload_n (show decode cX9_feed 47 = .ok (.aload_n 0, 1) by decide +kernel) rfl) <|
  ok_c (sn_getI (fun _ _ => rfl) (sn_get ck_9 (by decide) (show decode cX9_feed 48 = .ok (.getfield 94, 3) by decide +kernel) wd_5_223)) <|
  ok_n
def uX9_feed : gCT := [(22, YX9_four, 2, some 9), (27, YX9_four, 2, some 9), (32, YX9_four, 2, some 9), (38, YX9_four, 2, some 9), (44, YX9_four, 2, some 9)]
set_option maxRecDepth 100000 in
theorem ocX9_feed : gOkC YX9_feed uX9_feed := oc_c (gEdge_V cal_X9_four ck_9 rfl (show decode cX9_feed 22 = .ok (.invokevirtual 97, 3) by decide +kernel) wd_6_152 wd_6_154 wp_3_13) <|
  oc_c (gEdge_V cal_X9_four ck_9 rfl (show decode cX9_feed 27 = .ok (.invokevirtual 97, 3) by decide +kernel) wd_6_152 wd_6_154 wp_3_13) <|
  oc_c (gEdge_V cal_X9_four ck_9 rfl (show decode cX9_feed 32 = .ok (.invokevirtual 97, 3) by decide +kernel) wd_6_152 wd_6_154 wp_3_13) <|
  oc_c (gEdge_V cal_X9_four ck_9 rfl (show decode cX9_feed 38 = .ok (.invokevirtual 97, 3) by decide +kernel) wd_6_152 wd_6_154 wp_3_13) <|
  oc_c (gEdge_V cal_X9_four ck_9 rfl (show decode cX9_feed 44 = .ok (.invokevirtual 97, 3) by decide +kernel) wd_6_152 wd_6_154 wp_3_13) <|
  oc_n
theorem reX9_feed : ∀ pc ∈ [19, 51], decode cX9_feed pc = .ok (.ireturn, 1) := by decide +kernel
def tX9_four : List (Nat × gStp) := [(0, i_push (.int 24) 2), (2, i_istore 2 3), (3, i_iload 2 4), (4, i_if_lt 36 7), (7, i_aload 0 8), (8, i_getC 9 146 11), (11, i_aload 0 12), (12, i_getI 9 6 15), (15, i_iload 1 16), (16, i_iload 2 17), (17, i_ii (fun x y => x >>> (y &&& 31)) 18), (18, i_i (fun x => x.toInt8.toInt32) 19), (19, i_bast 20), (20, i_aload 0 21), (21, i_dup 22), (22, i_getI 9 6 25), (25, i_push (.int 1) 26), (26, i_ii (fun x y => x + y) 27), (27, i_putI 9 6 30), (30, i_iinc 2 (-8) 33), (33, i_goto 3)]
set_option maxRecDepth 100000 in
theorem okX9_four : gOk YX9_four tX9_four := ok_c (sn_bipush (v := 24) (show decode cX9_four 0 = .ok (.bipush 24, 2) by decide +kernel) (by decide +kernel)) <|
  ok_c (sn_istore_n (show decode cX9_four 2 = .ok (.istore_n 2, 1) by decide +kernel) rfl (by decide)) <|
  ok_c (sn_iload_n (show decode cX9_four 3 = .ok (.iload_n 2, 1) by decide +kernel) rfl) <|
  ok_c (sn_if_lt (show decode cX9_four 4 = .ok (.ifCond .lt 32, 3) by decide +kernel) (by decide)) <|
  ok_c (sn_aload_n (show decode cX9_four 7 = .ok (.aload_n 0, 1) by decide +kernel) rfl) <|
  ok_c (sn_getC (j := 5) (fun _ _ => rfl) (sn_get ck_9 (by decide) (show decode cX9_four 8 = .ok (.getfield 23, 3) by decide +kernel) wd_5_222)) <|
  ok_c (sn_aload_n (show decode cX9_four 11 = .ok (.aload_n 0, 1) by decide +kernel) rfl) <|
  ok_c (sn_getI (fun _ _ => rfl) (sn_get ck_9 (by decide) (show decode cX9_four 12 = .ok (.getfield 94, 3) by decide +kernel) wd_5_223)) <|
  ok_c (sn_iload_n (show decode cX9_four 15 = .ok (.iload_n 1, 1) by decide +kernel) rfl) <|
  ok_c (sn_iload_n (show decode cX9_four 16 = .ok (.iload_n 2, 1) by decide +kernel) rfl) <|
  ok_c (sn_ishr (show decode cX9_four 17 = .ok (.ishr, 1) by decide +kernel)) <|
  ok_c (sn_i2b (show decode cX9_four 18 = .ok (.i2b, 1) by decide +kernel)) <|
  ok_c (sn_bast (show decode cX9_four 19 = .ok (.bastore, 1) by decide +kernel)) <|
  ok_c (sn_aload_n (show decode cX9_four 20 = .ok (.aload_n 0, 1) by decide +kernel) rfl) <|
  ok_c (sn_dup (show decode cX9_four 21 = .ok (.dup, 1) by decide +kernel)) <|
  ok_c (sn_getI (fun _ _ => rfl) (sn_get ck_9 (by decide) (show decode cX9_four 22 = .ok (.getfield 94, 3) by decide +kernel) wd_5_223)) <|
  ok_c (sn_iconst (v := 1) (show decode cX9_four 25 = .ok (.iconst 1, 1) by decide +kernel) (by decide +kernel)) <|
  ok_c (sn_iadd (show decode cX9_four 26 = .ok (.iadd, 1) by decide +kernel)) <|
  ok_c (sn_putI ck_9 (by decide) rfl rfl (show decode cX9_four 27 = .ok (.putfield 94, 3) by decide +kernel) wd_5_223) <|
  ok_c (sn_iinc (show decode cX9_four 30 = .ok (.iinc 2 (-8), 3) by decide +kernel) (by decide) (by decide +kernel)) <|
  ok_c (sn_goto (show decode cX9_four 33 = .ok (.goto (-30), 3) by decide +kernel) (by decide)) <|
  ok_n
theorem reX9_four : ∀ pc ∈ [36], decode cX9_four pc = .ok (.return_, 1) := by decide +kernel
def tX9_end : List (Nat × gStp) := [(0, i_aload 0 1), (1, i_push (.int 0) 2), (2, i_putI 9 0 5), (5, i_iload 1 6), (6, i_i2l 7), (7, i_push (.long 0) 8), (8, i_aload 0 9), (9, i_getI 9 6 12), (12, i_i2l 13), (16, i_if_ne 21 19), (19, i_push (.int (-1)) 20), (21, i_aload 0 22), (22, i_iload 1 23), (23, i_putI 9 6 26), (26, i_iload 1 27)]
set_option maxRecDepth 100000 in
theorem okX9_end : gOk YX9_end tX9_end := ok_c (sn_aload_n (show decode cX9_end 0 = .ok (.aload_n 0, 1) by decide +kernel) rfl) <|
  ok_c (sn_iconst (v := 0) (show decode cX9_end 1 = .ok (.iconst 0, 1) by decide +kernel) (by decide +kernel)) <|
  ok_c (sn_putI ck_9 (by decide) rfl rfl (show decode cX9_end 2 = .ok (.putfield 77, 3) by decide +kernel) wd_5_217) <|
  ok_c (sn_iload_n (show decode cX9_end 5 = .ok (.iload_n 1, 1) by decide +kernel) rfl) <|
  ok_c (sn_i2l (show decode cX9_end 6 = .ok (.i2l, 1) by decide +kernel)) <|
  ok_c (sn_lconst (v := 0) (show decode cX9_end 7 = .ok (.lconst 0, 1) by decide +kernel) (by decide +kernel)) <|
  ok_c (sn_aload_n (show decode cX9_end 8 = .ok (.aload_n 0, 1) by decide +kernel) rfl) <|
  ok_c (sn_getI (fun _ _ => rfl) (sn_get ck_9 (by decide) (show decode cX9_end 9 = .ok (.getfield 94, 3) by decide +kernel) wd_5_223)) <|
  ok_c (sn_i2l (show decode cX9_end 12 = .ok (.i2l, 1) by decide +kernel)) <|
  ok_c (sn_if_ne (show decode cX9_end 16 = .ok (.ifCond .ne 5, 3) by decide +kernel) (by decide)) <|
  ok_c (sn_iconst (v := (-1)) (show decode cX9_end 19 = .ok (.iconst (-1), 1) by decide +kernel) (by decide +kernel)) <|
  ok_c (sn_aload_n (show decode cX9_end 21 = .ok (.aload_n 0, 1) by decide +kernel) rfl) <|
  ok_c (sn_iload_n (show decode cX9_end 22 = .ok (.iload_n 1, 1) by decide +kernel) rfl) <|
  ok_c (sn_putI ck_9 (by decide) rfl rfl (show decode cX9_end 23 = .ok (.putfield 94, 3) by decide +kernel) wd_5_223) <|
  ok_c (sn_iload_n (show decode cX9_end 26 = .ok (.iload_n 1, 1) by decide +kernel) rfl) <|
  ok_n
def uX9_end : gCT := [(13, YX9_in, 3, none)]
set_option maxRecDepth 100000 in
theorem ocX9_end : gOkC YX9_end uX9_end := oc_c (gEdge_S cal_X9_in (show decode cX9_end 13 = .ok (.invokestatic 82, 3) by decide +kernel) wd_6_134 wd_6_135) <|
  oc_n
theorem reX9_end : ∀ pc ∈ [20, 27], decode cX9_end pc = .ok (.ireturn, 1) := by decide +kernel
def tX9_isByte : List (Nat × gStp) := [(0, i_iload 1 1), (1, i_aload 0 2), (2, i_getI 9 6 5), (5, i_ic_ge 32 8), (8, i_aload 0 9), (9, i_getC 9 146 12), (12, i_iload 1 13), (13, i_bald 14), (14, i_iload 2 15), (15, i_ic_lt 32 18), (18, i_aload 0 19), (19, i_getC 9 146 22), (22, i_iload 1 23), (23, i_bald 24), (24, i_iload 3 25), (25, i_ic_gt 32 28), (28, i_push (.int 1) 29), (29, i_goto 33), (32, i_push (.int 0) 33)]
set_option maxRecDepth 100000 in
theorem okX9_isByte : gOk YX9_isByte tX9_isByte := ok_c (sn_iload_n (show decode cX9_isByte 0 = .ok (.iload_n 1, 1) by decide +kernel) rfl) <|
  ok_c (sn_aload_n (show decode cX9_isByte 1 = .ok (.aload_n 0, 1) by decide +kernel) rfl) <|
  ok_c (sn_getI (fun _ _ => rfl) (sn_get ck_9 (by decide) (show decode cX9_isByte 2 = .ok (.getfield 94, 3) by decide +kernel) wd_5_223)) <|
  ok_c (sn_ic_ge (show decode cX9_isByte 5 = .ok (.if_icmp .ge 27, 3) by decide +kernel) (by decide)) <|
  ok_c (sn_aload_n (show decode cX9_isByte 8 = .ok (.aload_n 0, 1) by decide +kernel) rfl) <|
  ok_c (sn_getC (j := 5) (fun _ _ => rfl) (sn_get ck_9 (by decide) (show decode cX9_isByte 9 = .ok (.getfield 23, 3) by decide +kernel) wd_5_222)) <|
  ok_c (sn_iload_n (show decode cX9_isByte 12 = .ok (.iload_n 1, 1) by decide +kernel) rfl) <|
  ok_c (sn_bald (show decode cX9_isByte 13 = .ok (.baload, 1) by decide +kernel)) <|
  ok_c (sn_iload_n (show decode cX9_isByte 14 = .ok (.iload_n 2, 1) by decide +kernel) rfl) <|
  ok_c (sn_ic_lt (show decode cX9_isByte 15 = .ok (.if_icmp .lt 17, 3) by decide +kernel) (by decide)) <|
  ok_c (sn_aload_n (show decode cX9_isByte 18 = .ok (.aload_n 0, 1) by decide +kernel) rfl) <|
  ok_c (sn_getC (j := 5) (fun _ _ => rfl) (sn_get ck_9 (by decide) (show decode cX9_isByte 19 = .ok (.getfield 23, 3) by decide +kernel) wd_5_222)) <|
  ok_c (sn_iload_n (show decode cX9_isByte 22 = .ok (.iload_n 1, 1) by decide +kernel) rfl) <|
  ok_c (sn_bald (show decode cX9_isByte 23 = .ok (.baload, 1) by decide +kernel)) <|
  ok_c (sn_iload_n (show decode cX9_isByte 24 = .ok (.iload_n 3, 1) by decide +kernel) rfl) <|
  ok_c (sn_ic_gt (show decode cX9_isByte 25 = .ok (.if_icmp .gt 7, 3) by decide +kernel) (by decide)) <|
  ok_c (sn_iconst (v := 1) (show decode cX9_isByte 28 = .ok (.iconst 1, 1) by decide +kernel) (by decide +kernel)) <|
  ok_c (sn_goto (show decode cX9_isByte 29 = .ok (.goto 4, 3) by decide +kernel) (by decide)) <|
  ok_c (sn_iconst (v := 0) (show decode cX9_isByte 32 = .ok (.iconst 0, 1) by decide +kernel) (by decide +kernel)) <|
  ok_n
theorem reX9_isByte : ∀ pc ∈ [33], decode cX9_isByte pc = .ok (.ireturn, 1) := by decide +kernel
def tX9_next : List (Nat × gStp) := [(0, i_aload 0 1), (1, i_aload 0 2), (2, i_getI 9 7 5), (5, i_push (.int 32) 7), (7, i_push (.int 32) 9), (12, i_if_ne 30 15), (15, i_aload 0 16), (16, i_aload 0 17), (17, i_getI 9 7 20), (20, i_push (.int 10) 22), (22, i_push (.int 10) 24), (27, i_if_eq 43 30), (30, i_aload 0 31), (31, i_dup 32), (32, i_getI 9 7 35), (35, i_push (.int 1) 36), (36, i_ii (fun x y => x + y) 37), (37, i_putI 9 7 40), (40, i_goto 0), (43, i_aload 0 44), (44, i_aload 0 45), (45, i_getI 9 7 48), (48, i_putI 9 9 51), (51, i_aload 0 52), (52, i_push (.int 0) 53), (53, i_putI 9 10 56), (56, i_aload 0 57), (57, i_push (.long 0) 58), (58, i_putJ 9 11 61), (61, i_aload 0 62), (62, i_getI 9 7 65), (65, i_aload 0 66), (66, i_getI 9 6 69), (69, i_ic_ne 80 72), (72, i_aload 0 73), (73, i_push (.int 0) 74), (74, i_putI 9 8 77), (77, i_goto 307), (80, i_aload 0 81), (81, i_aload 0 82), (82, i_getI 9 7 85), (85, i_push (.int 97) 87), (87, i_push (.int 122) 89), (92, i_if_eq 188 95), (95, i_aload 0 96), (96, i_push (.int 1) 97), (97, i_putI 9 8 100), (100, i_push (.int 0) 101), (101, i_istore 1 102), (102, i_aload 0 103), (103, i_aload 0 104), (104, i_getI 9 7 107), (107, i_push (.int 97) 109), (109, i_push (.int 122) 111), (114, i_if_eq 185 117), (117, i_aload 0 118), (118, i_iload 1 119), (119, i_push (.int 11) 121), (121, i_ic_le 130 124), (124, i_push (.long (-1)) 127), (127, i_goto 153), (130, i_push (.long 27) 133), (133, i_aload 0 134), (134, i_getJ 9 11 137), (137, i_ll (fun x y => x * y) 138), (138, i_aload 0 139), (139, i_getC 9 146 142), (142, i_aload 0 143), (143, i_getI 9 7 146), (146, i_bald 147), (147, i_i2l 148), (148, i_ll (fun x y => x + y) 149), (149, i_push (.long 96) 152), (152, i_ll (fun x y => x - y) 153), (153, i_putJ 9 11 156), (156, i_iload 1 157), (157, i_push (.int 11) 159), (159, i_ic_le 169 162), (162, i_aload 0 163), (163, i_push (.long (-1)) 166), (166, i_putJ 9 11 169), (169, i_aload 0 170), (170, i_dup 171), (171, i_getI 9 7 174), (174, i_push (.int 1) 175), (175, i_ii (fun x y => x + y) 176), (176, i_putI 9 7 179), (179, i_iinc 1 1 182), (182, i_goto 102), (185, i_goto 307), (188, i_aload 0 189), (189, i_aload 0 190), (190, i_getI 9 7 193), (193, i_push (.int 48) 195), (195, i_push (.int 57) 197), (200, i_if_eq 274 203), (203, i_aload 0 204), (204, i_push (.int 2) 205), (205, i_putI 9 8 208), (208, i_aload 0 209), (209, i_aload 0 210), (210, i_getI 9 7 213), (213, i_push (.int 48) 215), (215, i_push (.int 57) 217), (220, i_if_eq 307 223), (223, i_aload 0 224), (224, i_aload 0 225), (225, i_getI 9 10 228), (228, i_push (.int 100000) 230), (230, i_ic_le 238 233), (233, i_push (.int 1000000) 235), (235, i_goto 258), (238, i_push (.int 10) 240), (240, i_aload 0 241), (241, i_getI 9 10 244), (244, i_ii (fun x y => x * y) 245), (245, i_aload 0 246), (246, i_getC 9 146 249), (249, i_aload 0 250), (250, i_getI 9 7 253), (253, i_bald 254), (254, i_ii (fun x y => x + y) 255), (255, i_push (.int 48) 257), (257, i_ii (fun x y => x - y) 258), (258, i_putI 9 10 261), (261, i_aload 0 262), (262, i_dup 263), (263, i_getI 9 7 266), (266, i_push (.int 1) 267), (267, i_ii (fun x y => x + y) 268), (268, i_putI 9 7 271), (271, i_goto 208), (274, i_aload 0 275), (275, i_aload 0 276), (276, i_getC 9 146 279), (279, i_aload 0 280), (280, i_getI 9 7 283), (283, i_bald 284), (284, i_push (.int 59) 286), (286, i_ic_ne 293 289), (289, i_push (.int 3) 290), (290, i_goto 294), (293, i_push (.int 4) 294), (294, i_putI 9 8 297), (297, i_aload 0 298), (298, i_dup 299), (299, i_getI 9 7 302), (302, i_push (.int 1) 303), (303, i_ii (fun x y => x + y) 304), (304, i_putI 9 7 307)]
set_option maxRecDepth 100000 in
theorem okX9_next : gOk YX9_next tX9_next := ok_c (sn_aload_n (show decode cX9_next 0 = .ok (.aload_n 0, 1) by decide +kernel) rfl) <|
  ok_c (sn_aload_n (show decode cX9_next 1 = .ok (.aload_n 0, 1) by decide +kernel) rfl) <|
  ok_c (sn_getI (fun _ _ => rfl) (sn_get ck_9 (by decide) (show decode cX9_next 2 = .ok (.getfield 101, 3) by decide +kernel) wd_5_224)) <|
  ok_c (sn_bipush (v := 32) (show decode cX9_next 5 = .ok (.bipush 32, 2) by decide +kernel) (by decide +kernel)) <|
  ok_c (sn_bipush (v := 32) (show decode cX9_next 7 = .ok (.bipush 32, 2) by decide +kernel) (by decide +kernel)) <|
  ok_c (sn_if_ne (show decode cX9_next 12 = .ok (.ifCond .ne 18, 3) by decide +kernel) (by decide)) <|
  ok_c (sn_aload_n (show decode cX9_next 15 = .ok (.aload_n 0, 1) by decide +kernel) rfl) <|
  ok_c (sn_aload_n (show decode cX9_next 16 = .ok (.aload_n 0, 1) by decide +kernel) rfl) <|
  ok_c (sn_getI (fun _ _ => rfl) (sn_get ck_9 (by decide) (show decode cX9_next 17 = .ok (.getfield 101, 3) by decide +kernel) wd_5_224)) <|
  ok_c (sn_bipush (v := 10) (show decode cX9_next 20 = .ok (.bipush 10, 2) by decide +kernel) (by decide +kernel)) <|
  ok_c (sn_bipush (v := 10) (show decode cX9_next 22 = .ok (.bipush 10, 2) by decide +kernel) (by decide +kernel)) <|
  ok_c (sn_if_eq (show decode cX9_next 27 = .ok (.ifCond .eq 16, 3) by decide +kernel) (by decide)) <|
  ok_c (sn_aload_n (show decode cX9_next 30 = .ok (.aload_n 0, 1) by decide +kernel) rfl) <|
  ok_c (sn_dup (show decode cX9_next 31 = .ok (.dup, 1) by decide +kernel)) <|
  ok_c (sn_getI (fun _ _ => rfl) (sn_get ck_9 (by decide) (show decode cX9_next 32 = .ok (.getfield 101, 3) by decide +kernel) wd_5_224)) <|
  ok_c (sn_iconst (v := 1) (show decode cX9_next 35 = .ok (.iconst 1, 1) by decide +kernel) (by decide +kernel)) <|
  ok_c (sn_iadd (show decode cX9_next 36 = .ok (.iadd, 1) by decide +kernel)) <|
  ok_c (sn_putI ck_9 (by decide) rfl rfl (show decode cX9_next 37 = .ok (.putfield 101, 3) by decide +kernel) wd_5_224) <|
  ok_c (sn_goto (show decode cX9_next 40 = .ok (.goto (-40), 3) by decide +kernel) (by decide)) <|
  ok_c (sn_aload_n (show decode cX9_next 43 = .ok (.aload_n 0, 1) by decide +kernel) rfl) <|
  ok_c (sn_aload_n (show decode cX9_next 44 = .ok (.aload_n 0, 1) by decide +kernel) rfl) <|
  ok_c (sn_getI (fun _ _ => rfl) (sn_get ck_9 (by decide) (show decode cX9_next 45 = .ok (.getfield 101, 3) by decide +kernel) wd_5_224)) <|
  ok_c (sn_putI ck_9 (by decide) rfl rfl (show decode cX9_next 48 = .ok (.putfield 108, 3) by decide +kernel) wd_5_226) <|
  ok_c (sn_aload_n (show decode cX9_next 51 = .ok (.aload_n 0, 1) by decide +kernel) rfl) <|
  ok_c (sn_iconst (v := 0) (show decode cX9_next 52 = .ok (.iconst 0, 1) by decide +kernel) (by decide +kernel)) <|
  ok_c (sn_putI ck_9 (by decide) rfl rfl (show decode cX9_next 53 = .ok (.putfield 111, 3) by decide +kernel) wd_5_227) <|
  ok_c (sn_aload_n (show decode cX9_next 56 = .ok (.aload_n 0, 1) by decide +kernel) rfl) <|
  ok_c (sn_lconst (v := 0) (show decode cX9_next 57 = .ok (.lconst 0, 1) by decide +kernel) (by decide +kernel)) <|
  ok_c (sn_putJ ck_9 (by decide) rfl rfl (show decode cX9_next 58 = .ok (.putfield 114, 3) by decide +kernel) wd_5_228) <|
  ok_c (sn_aload_n (show decode cX9_next 61 = .ok (.aload_n 0, 1) by decide +kernel) rfl) <|
  ok_c (sn_getI (fun _ _ => rfl) (sn_get ck_9 (by decide) (show decode cX9_next 62 = .ok (.getfield 101, 3) by decide +kernel) wd_5_224)) <|
  ok_c (sn_aload_n (show decode cX9_next 65 = .ok (.aload_n 0, 1) by decide +kernel) rfl) <|
  ok_c (sn_getI (fun _ _ => rfl) (sn_get ck_9 (by decide) (show decode cX9_next 66 = .ok (.getfield 94, 3) by decide +kernel) wd_5_223)) <|
  ok_c (sn_ic_ne (show decode cX9_next 69 = .ok (.if_icmp .ne 11, 3) by decide +kernel) (by decide)) <|
  ok_c (sn_aload_n (show decode cX9_next 72 = .ok (.aload_n 0, 1) by decide +kernel) rfl) <|
  ok_c (sn_iconst (v := 0) (show decode cX9_next 73 = .ok (.iconst 0, 1) by decide +kernel) (by decide +kernel)) <|
  ok_c (sn_putI ck_9 (by decide) rfl rfl (show decode cX9_next 74 = .ok (.putfield 118, 3) by decide +kernel) wd_5_225) <|
  ok_c (sn_goto (show decode cX9_next 77 = .ok (.goto 230, 3) by decide +kernel) (by decide)) <|
  ok_c (sn_aload_n (show decode cX9_next 80 = .ok (.aload_n 0, 1) by decide +kernel) rfl) <|
  ok_c (sn_aload_n (show decode cX9_next 81 = .ok (.aload_n 0, 1) by decide +kernel) rfl) <|
  ok_c (sn_getI (fun _ _ => rfl) (sn_get ck_9 (by decide) (show decode cX9_next 82 = .ok (.getfield 101, 3) by decide +kernel) wd_5_224)) <|
  ok_c (sn_bipush (v := 97) (show decode cX9_next 85 = .ok (.bipush 97, 2) by decide +kernel) (by decide +kernel)) <|
  ok_c (sn_bipush (v := 122) (show decode cX9_next 87 = .ok (.bipush 122, 2) by decide +kernel) (by decide +kernel)) <|
  ok_c (sn_if_eq (show decode cX9_next 92 = .ok (.ifCond .eq 96, 3) by decide +kernel) (by decide)) <|
  ok_c (sn_aload_n (show decode cX9_next 95 = .ok (.aload_n 0, 1) by decide +kernel) rfl) <|
  ok_c (sn_iconst (v := 1) (show decode cX9_next 96 = .ok (.iconst 1, 1) by decide +kernel) (by decide +kernel)) <|
  ok_c (sn_putI ck_9 (by decide) rfl rfl (show decode cX9_next 97 = .ok (.putfield 118, 3) by decide +kernel) wd_5_225) <|
  ok_c (sn_iconst (v := 0) (show decode cX9_next 100 = .ok (.iconst 0, 1) by decide +kernel) (by decide +kernel)) <|
  ok_c (sn_istore_n (show decode cX9_next 101 = .ok (.istore_n 1, 1) by decide +kernel) rfl (by decide)) <|
  ok_c (sn_aload_n (show decode cX9_next 102 = .ok (.aload_n 0, 1) by decide +kernel) rfl) <|
  ok_c (sn_aload_n (show decode cX9_next 103 = .ok (.aload_n 0, 1) by decide +kernel) rfl) <|
  ok_c (sn_getI (fun _ _ => rfl) (sn_get ck_9 (by decide) (show decode cX9_next 104 = .ok (.getfield 101, 3) by decide +kernel) wd_5_224)) <|
  ok_c (sn_bipush (v := 97) (show decode cX9_next 107 = .ok (.bipush 97, 2) by decide +kernel) (by decide +kernel)) <|
  ok_c (sn_bipush (v := 122) (show decode cX9_next 109 = .ok (.bipush 122, 2) by decide +kernel) (by decide +kernel)) <|
  ok_c (sn_if_eq (show decode cX9_next 114 = .ok (.ifCond .eq 71, 3) by decide +kernel) (by decide)) <|
  ok_c (sn_aload_n (show decode cX9_next 117 = .ok (.aload_n 0, 1) by decide +kernel) rfl) <|
  ok_c (sn_iload_n (show decode cX9_next 118 = .ok (.iload_n 1, 1) by decide +kernel) rfl) <|
  ok_c (sn_bipush (v := 11) (show decode cX9_next 119 = .ok (.bipush 11, 2) by decide +kernel) (by decide +kernel)) <|
  ok_c (sn_ic_le (show decode cX9_next 121 = .ok (.if_icmp .le 9, 3) by decide +kernel) (by decide)) <|
  ok_c (sn_ldc2 (show decode cX9_next 124 = .ok (.ldc2_w 121, 3) by decide +kernel) wd_6_188) <|
  ok_c (sn_goto (show decode cX9_next 127 = .ok (.goto 26, 3) by decide +kernel) (by decide)) <|
  ok_c (sn_ldc2 (show decode cX9_next 130 = .ok (.ldc2_w 123, 3) by decide +kernel) wd_6_189) <|
  ok_c (sn_aload_n (show decode cX9_next 133 = .ok (.aload_n 0, 1) by decide +kernel) rfl) <|
  ok_c (sn_getJ (fun _ _ => rfl) (sn_get ck_9 (by decide) (show decode cX9_next 134 = .ok (.getfield 114, 3) by decide +kernel) wd_5_228)) <|
  ok_c (sn_lmul (show decode cX9_next 137 = .ok (.lmul, 1) by decide +kernel)) <|
  ok_c (sn_aload_n (show decode cX9_next 138 = .ok (.aload_n 0, 1) by decide +kernel) rfl) <|
  ok_c (sn_getC (j := 5) (fun _ _ => rfl) (sn_get ck_9 (by decide) (show decode cX9_next 139 = .ok (.getfield 23, 3) by decide +kernel) wd_5_222)) <|
  ok_c (sn_aload_n (show decode cX9_next 142 = .ok (.aload_n 0, 1) by decide +kernel) rfl) <|
  ok_c (sn_getI (fun _ _ => rfl) (sn_get ck_9 (by decide) (show decode cX9_next 143 = .ok (.getfield 101, 3) by decide +kernel) wd_5_224)) <|
  ok_c (sn_bald (show decode cX9_next 146 = .ok (.baload, 1) by decide +kernel)) <|
  ok_c (sn_i2l (show decode cX9_next 147 = .ok (.i2l, 1) by decide +kernel)) <|
  ok_c (sn_ladd (show decode cX9_next 148 = .ok (.ladd, 1) by decide +kernel)) <|
  ok_c (sn_ldc2 (show decode cX9_next 149 = .ok (.ldc2_w 125, 3) by decide +kernel) wd_6_190) <|
  ok_c (sn_lsub (show decode cX9_next 152 = .ok (.lsub, 1) by decide +kernel)) <|
  ok_c (sn_putJ ck_9 (by decide) rfl rfl (show decode cX9_next 153 = .ok (.putfield 114, 3) by decide +kernel) wd_5_228) <|
  ok_c (sn_iload_n (show decode cX9_next 156 = .ok (.iload_n 1, 1) by decide +kernel) rfl) <|
  ok_c (sn_bipush (v := 11) (show decode cX9_next 157 = .ok (.bipush 11, 2) by decide +kernel) (by decide +kernel)) <|
  ok_c (sn_ic_le (show decode cX9_next 159 = .ok (.if_icmp .le 10, 3) by decide +kernel) (by decide)) <|
  ok_c (sn_aload_n (show decode cX9_next 162 = .ok (.aload_n 0, 1) by decide +kernel) rfl) <|
  ok_c (sn_ldc2 (show decode cX9_next 163 = .ok (.ldc2_w 121, 3) by decide +kernel) wd_6_188) <|
  ok_c (sn_putJ ck_9 (by decide) rfl rfl (show decode cX9_next 166 = .ok (.putfield 114, 3) by decide +kernel) wd_5_228) <|
  ok_c (sn_aload_n (show decode cX9_next 169 = .ok (.aload_n 0, 1) by decide +kernel) rfl) <|
  ok_c (sn_dup (show decode cX9_next 170 = .ok (.dup, 1) by decide +kernel)) <|
  ok_c (sn_getI (fun _ _ => rfl) (sn_get ck_9 (by decide) (show decode cX9_next 171 = .ok (.getfield 101, 3) by decide +kernel) wd_5_224)) <|
  ok_c (sn_iconst (v := 1) (show decode cX9_next 174 = .ok (.iconst 1, 1) by decide +kernel) (by decide +kernel)) <|
  ok_c (sn_iadd (show decode cX9_next 175 = .ok (.iadd, 1) by decide +kernel)) <|
  ok_c (sn_putI ck_9 (by decide) rfl rfl (show decode cX9_next 176 = .ok (.putfield 101, 3) by decide +kernel) wd_5_224) <|
  ok_c (sn_iinc (show decode cX9_next 179 = .ok (.iinc 1 1, 3) by decide +kernel) (by decide) (by decide +kernel)) <|
  ok_c (sn_goto (show decode cX9_next 182 = .ok (.goto (-80), 3) by decide +kernel) (by decide)) <|
  ok_c (sn_goto (show decode cX9_next 185 = .ok (.goto 122, 3) by decide +kernel) (by decide)) <|
  ok_c (sn_aload_n (show decode cX9_next 188 = .ok (.aload_n 0, 1) by decide +kernel) rfl) <|
  ok_c (sn_aload_n (show decode cX9_next 189 = .ok (.aload_n 0, 1) by decide +kernel) rfl) <|
  ok_c (sn_getI (fun _ _ => rfl) (sn_get ck_9 (by decide) (show decode cX9_next 190 = .ok (.getfield 101, 3) by decide +kernel) wd_5_224)) <|
  ok_c (sn_bipush (v := 48) (show decode cX9_next 193 = .ok (.bipush 48, 2) by decide +kernel) (by decide +kernel)) <|
  ok_c (sn_bipush (v := 57) (show decode cX9_next 195 = .ok (.bipush 57, 2) by decide +kernel) (by decide +kernel)) <|
  ok_c (sn_if_eq (show decode cX9_next 200 = .ok (.ifCond .eq 74, 3) by decide +kernel) (by decide)) <|
  ok_c (sn_aload_n (show decode cX9_next 203 = .ok (.aload_n 0, 1) by decide +kernel) rfl) <|
  ok_c (sn_iconst (v := 2) (show decode cX9_next 204 = .ok (.iconst 2, 1) by decide +kernel) (by decide +kernel)) <|
  ok_c (sn_putI ck_9 (by decide) rfl rfl (show decode cX9_next 205 = .ok (.putfield 118, 3) by decide +kernel) wd_5_225) <|
  ok_c (sn_aload_n (show decode cX9_next 208 = .ok (.aload_n 0, 1) by decide +kernel) rfl) <|
  ok_c (sn_aload_n (show decode cX9_next 209 = .ok (.aload_n 0, 1) by decide +kernel) rfl) <|
  ok_c (sn_getI (fun _ _ => rfl) (sn_get ck_9 (by decide) (show decode cX9_next 210 = .ok (.getfield 101, 3) by decide +kernel) wd_5_224)) <|
  ok_c (sn_bipush (v := 48) (show decode cX9_next 213 = .ok (.bipush 48, 2) by decide +kernel) (by decide +kernel)) <|
  ok_c (sn_bipush (v := 57) (show decode cX9_next 215 = .ok (.bipush 57, 2) by decide +kernel) (by decide +kernel)) <|
  ok_c (sn_if_eq (show decode cX9_next 220 = .ok (.ifCond .eq 87, 3) by decide +kernel) (by decide)) <|
  ok_c (sn_aload_n (show decode cX9_next 223 = .ok (.aload_n 0, 1) by decide +kernel) rfl) <|
  ok_c (sn_aload_n (show decode cX9_next 224 = .ok (.aload_n 0, 1) by decide +kernel) rfl) <|
  ok_c (sn_getI (fun _ _ => rfl) (sn_get ck_9 (by decide) (show decode cX9_next 225 = .ok (.getfield 111, 3) by decide +kernel) wd_5_227)) <|
  ok_c (sn_ldc (show decode cX9_next 228 = .ok (.ldc 127, 2) by decide +kernel) wd_6_191) <|
  ok_c (sn_ic_le (show decode cX9_next 230 = .ok (.if_icmp .le 8, 3) by decide +kernel) (by decide)) <|
  ok_c (sn_ldc (show decode cX9_next 233 = .ok (.ldc 128, 2) by decide +kernel) wd_6_192) <|
  ok_c (sn_goto (show decode cX9_next 235 = .ok (.goto 23, 3) by decide +kernel) (by decide)) <|
  ok_c (sn_bipush (v := 10) (show decode cX9_next 238 = .ok (.bipush 10, 2) by decide +kernel) (by decide +kernel)) <|
  ok_c (sn_aload_n (show decode cX9_next 240 = .ok (.aload_n 0, 1) by decide +kernel) rfl) <|
  ok_c (sn_getI (fun _ _ => rfl) (sn_get ck_9 (by decide) (show decode cX9_next 241 = .ok (.getfield 111, 3) by decide +kernel) wd_5_227)) <|
  ok_c (sn_imul (show decode cX9_next 244 = .ok (.imul, 1) by decide +kernel)) <|
  ok_c (sn_aload_n (show decode cX9_next 245 = .ok (.aload_n 0, 1) by decide +kernel) rfl) <|
  ok_c (sn_getC (j := 5) (fun _ _ => rfl) (sn_get ck_9 (by decide) (show decode cX9_next 246 = .ok (.getfield 23, 3) by decide +kernel) wd_5_222)) <|
  ok_c (sn_aload_n (show decode cX9_next 249 = .ok (.aload_n 0, 1) by decide +kernel) rfl) <|
  ok_c (sn_getI (fun _ _ => rfl) (sn_get ck_9 (by decide) (show decode cX9_next 250 = .ok (.getfield 101, 3) by decide +kernel) wd_5_224)) <|
  ok_c (sn_bald (show decode cX9_next 253 = .ok (.baload, 1) by decide +kernel)) <|
  ok_c (sn_iadd (show decode cX9_next 254 = .ok (.iadd, 1) by decide +kernel)) <|
  ok_c (sn_bipush (v := 48) (show decode cX9_next 255 = .ok (.bipush 48, 2) by decide +kernel) (by decide +kernel)) <|
  ok_c (sn_isub (show decode cX9_next 257 = .ok (.isub, 1) by decide +kernel)) <|
  ok_c (sn_putI ck_9 (by decide) rfl rfl (show decode cX9_next 258 = .ok (.putfield 111, 3) by decide +kernel) wd_5_227) <|
  ok_c (sn_aload_n (show decode cX9_next 261 = .ok (.aload_n 0, 1) by decide +kernel) rfl) <|
  ok_c (sn_dup (show decode cX9_next 262 = .ok (.dup, 1) by decide +kernel)) <|
  ok_c (sn_getI (fun _ _ => rfl) (sn_get ck_9 (by decide) (show decode cX9_next 263 = .ok (.getfield 101, 3) by decide +kernel) wd_5_224)) <|
  ok_c (sn_iconst (v := 1) (show decode cX9_next 266 = .ok (.iconst 1, 1) by decide +kernel) (by decide +kernel)) <|
  ok_c (sn_iadd (show decode cX9_next 267 = .ok (.iadd, 1) by decide +kernel)) <|
  ok_c (sn_putI ck_9 (by decide) rfl rfl (show decode cX9_next 268 = .ok (.putfield 101, 3) by decide +kernel) wd_5_224) <|
  ok_c (sn_goto (show decode cX9_next 271 = .ok (.goto (-63), 3) by decide +kernel) (by decide)) <|
  ok_c (sn_aload_n (show decode cX9_next 274 = .ok (.aload_n 0, 1) by decide +kernel) rfl) <|
  ok_c (sn_aload_n (show decode cX9_next 275 = .ok (.aload_n 0, 1) by decide +kernel) rfl) <|
  ok_c (sn_getC (j := 5) (fun _ _ => rfl) (sn_get ck_9 (by decide) (show decode cX9_next 276 = .ok (.getfield 23, 3) by decide +kernel) wd_5_222)) <|
  ok_c (sn_aload_n (show decode cX9_next 279 = .ok (.aload_n 0, 1) by decide +kernel) rfl) <|
  ok_c (sn_getI (fun _ _ => rfl) (sn_get ck_9 (by decide) (show decode cX9_next 280 = .ok (.getfield 101, 3) by decide +kernel) wd_5_224)) <|
  ok_c (sn_bald (show decode cX9_next 283 = .ok (.baload, 1) by decide +kernel)) <|
  ok_c (sn_bipush (v := 59) (show decode cX9_next 284 = .ok (.bipush 59, 2) by decide +kernel) (by decide +kernel)) <|
  ok_c (sn_ic_ne (show decode cX9_next 286 = .ok (.if_icmp .ne 7, 3) by decide +kernel) (by decide)) <|
  ok_c (sn_iconst (v := 3) (show decode cX9_next 289 = .ok (.iconst 3, 1) by decide +kernel) (by decide +kernel)) <|
  ok_c (sn_goto (show decode cX9_next 290 = .ok (.goto 4, 3) by decide +kernel) (by decide)) <|
  ok_c (sn_iconst (v := 4) (show decode cX9_next 293 = .ok (.iconst 4, 1) by decide +kernel) (by decide +kernel)) <|
  ok_c (sn_putI ck_9 (by decide) rfl rfl (show decode cX9_next 294 = .ok (.putfield 118, 3) by decide +kernel) wd_5_225) <|
  ok_c (sn_aload_n (show decode cX9_next 297 = .ok (.aload_n 0, 1) by decide +kernel) rfl) <|
  ok_c (sn_dup (show decode cX9_next 298 = .ok (.dup, 1) by decide +kernel)) <|
  ok_c (sn_getI (fun _ _ => rfl) (sn_get ck_9 (by decide) (show decode cX9_next 299 = .ok (.getfield 101, 3) by decide +kernel) wd_5_224)) <|
  ok_c (sn_iconst (v := 1) (show decode cX9_next 302 = .ok (.iconst 1, 1) by decide +kernel) (by decide +kernel)) <|
  ok_c (sn_iadd (show decode cX9_next 303 = .ok (.iadd, 1) by decide +kernel)) <|
  ok_c (sn_putI ck_9 (by decide) rfl rfl (show decode cX9_next 304 = .ok (.putfield 101, 3) by decide +kernel) wd_5_224) <|
  ok_n
def uX9_next : gCT := [(9, YX9_isByte, 4, some 9), (24, YX9_isByte, 4, some 9), (89, YX9_isByte, 4, some 9), (111, YX9_isByte, 4, some 9), (197, YX9_isByte, 4, some 9), (217, YX9_isByte, 4, some 9)]
set_option maxRecDepth 100000 in
theorem ocX9_next : gOkC YX9_next uX9_next := oc_c (gEdge_V cal_X9_isByte ck_9 rfl (show decode cX9_next 9 = .ok (.invokevirtual 104, 3) by decide +kernel) wd_6_184 wd_6_186 wp_4_2) <|
  oc_c (gEdge_V cal_X9_isByte ck_9 rfl (show decode cX9_next 24 = .ok (.invokevirtual 104, 3) by decide +kernel) wd_6_184 wd_6_186 wp_4_2) <|
  oc_c (gEdge_V cal_X9_isByte ck_9 rfl (show decode cX9_next 89 = .ok (.invokevirtual 104, 3) by decide +kernel) wd_6_184 wd_6_186 wp_4_2) <|
  oc_c (gEdge_V cal_X9_isByte ck_9 rfl (show decode cX9_next 111 = .ok (.invokevirtual 104, 3) by decide +kernel) wd_6_184 wd_6_186 wp_4_2) <|
  oc_c (gEdge_V cal_X9_isByte ck_9 rfl (show decode cX9_next 197 = .ok (.invokevirtual 104, 3) by decide +kernel) wd_6_184 wd_6_186 wp_4_2) <|
  oc_c (gEdge_V cal_X9_isByte ck_9 rfl (show decode cX9_next 217 = .ok (.invokevirtual 104, 3) by decide +kernel) wd_6_184 wd_6_186 wp_4_2) <|
  oc_n
theorem reX9_next : ∀ pc ∈ [307], decode cX9_next pc = .ok (.return_, 1) := by decide +kernel
def tX9_isGood : List (Nat × gStp) := [(0, i_aload 0 1), (1, i_getI 9 12 4), (4, i_if_ne 11 7), (7, i_push (.int 1) 8), (8, i_goto 12), (11, i_push (.int 0) 12)]
set_option maxRecDepth 100000 in
theorem okX9_isGood : gOk YX9_isGood tX9_isGood := ok_c (sn_aload_n (show decode cX9_isGood 0 = .ok (.aload_n 0, 1) by decide +kernel) rfl) <|
  ok_c (sn_getI (fun _ _ => rfl) (sn_get ck_9 (by decide) (show decode cX9_isGood 1 = .ok (.getfield 129, 3) by decide +kernel) wd_5_229)) <|
  ok_c (sn_if_ne (show decode cX9_isGood 4 = .ok (.ifCond .ne 7, 3) by decide +kernel) (by decide)) <|
  ok_c (sn_iconst (v := 1) (show decode cX9_isGood 7 = .ok (.iconst 1, 1) by decide +kernel) (by decide +kernel)) <|
  ok_c (sn_goto (show decode cX9_isGood 8 = .ok (.goto 4, 3) by decide +kernel) (by decide)) <|
  ok_c (sn_iconst (v := 0) (show decode cX9_isGood 11 = .ok (.iconst 0, 1) by decide +kernel) (by decide +kernel)) <|
  ok_n
theorem reX9_isGood : ∀ pc ∈ [12], decode cX9_isGood pc = .ok (.ireturn, 1) := by decide +kernel
def tX9_errs : List (Nat × gStp) := [(0, i_aload 0 1), (1, i_getI 9 12 4), (4, i_if_eq 8 7), (8, i_aload 0 9), (9, i_iload 1 10), (10, i_putI 9 12 13), (13, i_aload 0 14), (14, i_aload 0 15), (15, i_getI 9 9 18), (18, i_putI 9 13 21)]
set_option maxRecDepth 100000 in
theorem okX9_errs : gOk YX9_errs tX9_errs := ok_c (sn_aload_n (show decode cX9_errs 0 = .ok (.aload_n 0, 1) by decide +kernel) rfl) <|
  ok_c (sn_getI (fun _ _ => rfl) (sn_get ck_9 (by decide) (show decode cX9_errs 1 = .ok (.getfield 129, 3) by decide +kernel) wd_5_229)) <|
  ok_c (sn_if_eq (show decode cX9_errs 4 = .ok (.ifCond .eq 4, 3) by decide +kernel) (by decide)) <|
  ok_c (sn_aload_n (show decode cX9_errs 8 = .ok (.aload_n 0, 1) by decide +kernel) rfl) <|
  ok_c (sn_iload_n (show decode cX9_errs 9 = .ok (.iload_n 1, 1) by decide +kernel) rfl) <|
  ok_c (sn_putI ck_9 (by decide) rfl rfl (show decode cX9_errs 10 = .ok (.putfield 129, 3) by decide +kernel) wd_5_229) <|
  ok_c (sn_aload_n (show decode cX9_errs 13 = .ok (.aload_n 0, 1) by decide +kernel) rfl) <|
  ok_c (sn_aload_n (show decode cX9_errs 14 = .ok (.aload_n 0, 1) by decide +kernel) rfl) <|
  ok_c (sn_getI (fun _ _ => rfl) (sn_get ck_9 (by decide) (show decode cX9_errs 15 = .ok (.getfield 108, 3) by decide +kernel) wd_5_226)) <|
  ok_c (sn_putI ck_9 (by decide) rfl rfl (show decode cX9_errs 18 = .ok (.putfield 132, 3) by decide +kernel) wd_5_230) <|
  ok_n
theorem reX9_errs : ∀ pc ∈ [7, 21], decode cX9_errs pc = .ok (.return_, 1) := by decide +kernel
def tX9_is : List (Nat × gStp) := [(0, i_aload 0 1), (1, i_getI 9 12 4), (4, i_if_ne 28 7), (7, i_aload 0 8), (8, i_getI 9 8 11), (11, i_push (.int 1) 12), (12, i_ic_ne 28 15), (15, i_aload 0 16), (16, i_getJ 9 11 19), (19, i_lload 1 20), (20, i_lcmp 21), (21, i_if_ne 28 24), (24, i_push (.int 1) 25), (25, i_goto 29), (28, i_push (.int 0) 29)]
set_option maxRecDepth 100000 in
theorem okX9_is : gOk YX9_is tX9_is := ok_c (sn_aload_n (show decode cX9_is 0 = .ok (.aload_n 0, 1) by decide +kernel) rfl) <|
  ok_c (sn_getI (fun _ _ => rfl) (sn_get ck_9 (by decide) (show decode cX9_is 1 = .ok (.getfield 129, 3) by decide +kernel) wd_5_229)) <|
  ok_c (sn_if_ne (show decode cX9_is 4 = .ok (.ifCond .ne 24, 3) by decide +kernel) (by decide)) <|
  ok_c (sn_aload_n (show decode cX9_is 7 = .ok (.aload_n 0, 1) by decide +kernel) rfl) <|
  ok_c (sn_getI (fun _ _ => rfl) (sn_get ck_9 (by decide) (show decode cX9_is 8 = .ok (.getfield 118, 3) by decide +kernel) wd_5_225)) <|
  ok_c (sn_iconst (v := 1) (show decode cX9_is 11 = .ok (.iconst 1, 1) by decide +kernel) (by decide +kernel)) <|
  ok_c (sn_ic_ne (show decode cX9_is 12 = .ok (.if_icmp .ne 16, 3) by decide +kernel) (by decide)) <|
  ok_c (sn_aload_n (show decode cX9_is 15 = .ok (.aload_n 0, 1) by decide +kernel) rfl) <|
  ok_c (sn_getJ (fun _ _ => rfl) (sn_get ck_9 (by decide) (show decode cX9_is 16 = .ok (.getfield 114, 3) by decide +kernel) wd_5_228)) <|
  ok_c (sn_lload_n (show decode cX9_is 19 = .ok (.lload_n 1, 1) by decide +kernel) rfl) <|
  ok_c (sn_lcmp (show decode cX9_is 20 = .ok (.lcmp, 1) by decide +kernel)) <|
  ok_c (sn_if_ne (show decode cX9_is 21 = .ok (.ifCond .ne 7, 3) by decide +kernel) (by decide)) <|
  ok_c (sn_iconst (v := 1) (show decode cX9_is 24 = .ok (.iconst 1, 1) by decide +kernel) (by decide +kernel)) <|
  ok_c (sn_goto (show decode cX9_is 25 = .ok (.goto 4, 3) by decide +kernel) (by decide)) <|
  ok_c (sn_iconst (v := 0) (show decode cX9_is 28 = .ok (.iconst 0, 1) by decide +kernel) (by decide +kernel)) <|
  ok_n
theorem reX9_is : ∀ pc ∈ [29], decode cX9_is pc = .ok (.ireturn, 1) := by decide +kernel
def tX9_takes : List (Nat × gStp) := [(0, i_aload 0 1), (1, i_lload 1 2), (5, i_if_ne 10 8), (8, i_push (.int 0) 9), (10, i_aload 0 11), (14, i_push (.int 1) 15)]
set_option maxRecDepth 100000 in
theorem okX9_takes : gOk YX9_takes tX9_takes := ok_c (sn_aload_n (show decode cX9_takes 0 = .ok (.aload_n 0, 1) by decide +kernel) rfl) <|
  ok_c (sn_lload_n (show decode cX9_takes 1 = .ok (.lload_n 1, 1) by decide +kernel) rfl) <|
  ok_c (sn_if_ne (show decode cX9_takes 5 = .ok (.ifCond .ne 5, 3) by decide +kernel) (by decide)) <|
  ok_c (sn_iconst (v := 0) (show decode cX9_takes 8 = .ok (.iconst 0, 1) by decide +kernel) (by decide +kernel)) <|
  ok_c (sn_aload_n (show decode cX9_takes 10 = .ok (.aload_n 0, 1) by decide +kernel) rfl) <|
  ok_c (sn_iconst (v := 1) (show decode cX9_takes 14 = .ok (.iconst 1, 1) by decide +kernel) (by decide +kernel)) <|
  ok_n
def uX9_takes : gCT := [(2, YX9_is, 2, some 9), (11, YX9_next, 1, some 9)]
set_option maxRecDepth 100000 in
theorem ocX9_takes : gOkC YX9_takes uX9_takes := oc_c (gEdge_V cal_X9_is ck_9 rfl (show decode cX9_takes 2 = .ok (.invokevirtual 135, 3) by decide +kernel) wd_6_206 wd_6_208 wp_4_6) <|
  oc_c (gEdge_V cal_X9_next ck_9 rfl (show decode cX9_takes 11 = .ok (.invokevirtual 139, 3) by decide +kernel) wd_6_180 wd_6_182 wp_4_1) <|
  oc_n
theorem reX9_takes : ∀ pc ∈ [9, 15], decode cX9_takes pc = .ok (.ireturn, 1) := by decide +kernel
def tX9_asks : List (Nat × gStp) := [(0, i_aload 0 1), (1, i_lload 1 2), (5, i_if_ne 13 8), (8, i_aload 0 9), (9, i_push (.int 1) 10)]
set_option maxRecDepth 100000 in
theorem okX9_asks : gOk YX9_asks tX9_asks := ok_c (sn_aload_n (show decode cX9_asks 0 = .ok (.aload_n 0, 1) by decide +kernel) rfl) <|
  ok_c (sn_lload_n (show decode cX9_asks 1 = .ok (.lload_n 1, 1) by decide +kernel) rfl) <|
  ok_c (sn_if_ne (show decode cX9_asks 5 = .ok (.ifCond .ne 8, 3) by decide +kernel) (by decide)) <|
  ok_c (sn_aload_n (show decode cX9_asks 8 = .ok (.aload_n 0, 1) by decide +kernel) rfl) <|
  ok_c (sn_iconst (v := 1) (show decode cX9_asks 9 = .ok (.iconst 1, 1) by decide +kernel) (by decide +kernel)) <|
  ok_n
def uX9_asks : gCT := [(2, YX9_takes, 2, some 9), (10, YX9_errs, 2, some 9)]
set_option maxRecDepth 100000 in
theorem ocX9_asks : gOkC YX9_asks uX9_asks := oc_c (gEdge_V cal_X9_takes ck_9 rfl (show decode cX9_asks 2 = .ok (.invokevirtual 142, 3) by decide +kernel) wd_6_202 wd_6_204 wp_4_5) <|
  oc_c (gEdge_V cal_X9_errs ck_9 rfl (show decode cX9_asks 10 = .ok (.invokevirtual 145, 3) by decide +kernel) wd_6_210 wd_6_212 wp_4_7) <|
  oc_n
theorem reX9_asks : ∀ pc ∈ [13], decode cX9_asks pc = .ok (.return_, 1) := by decide +kernel
def tX9_number : List (Nat × gStp) := [(0, i_aload 0 1), (1, i_getI 9 12 4), (4, i_if_eq 9 7), (7, i_iload 1 8), (9, i_aload 0 10), (10, i_getI 9 8 13), (13, i_push (.int 2) 14), (14, i_ic_eq 24 17), (17, i_aload 0 18), (18, i_push (.int 1) 19), (22, i_iload 1 23), (24, i_aload 0 25), (25, i_getI 9 10 28), (28, i_i2l 29), (29, i_iload 1 30), (30, i_i2l 31), (31, i_iload 2 32), (32, i_i2l 33), (36, i_if_ne 46 39), (39, i_aload 0 40), (40, i_push (.int 2) 41), (44, i_iload 1 45), (46, i_aload 0 47), (47, i_getI 9 10 50), (50, i_istore 3 51), (51, i_aload 0 52), (55, i_iload 3 56)]
set_option maxRecDepth 100000 in
theorem okX9_number : gOk YX9_number tX9_number := ok_c (sn_aload_n (show decode cX9_number 0 = .ok (.aload_n 0, 1) by decide +kernel) rfl) <|
  ok_c (sn_getI (fun _ _ => rfl) (sn_get ck_9 (by decide) (show decode cX9_number 1 = .ok (.getfield 129, 3) by decide +kernel) wd_5_229)) <|
  ok_c (sn_if_eq (show decode cX9_number 4 = .ok (.ifCond .eq 5, 3) by decide +kernel) (by decide)) <|
  ok_c (sn_iload_n (show decode cX9_number 7 = .ok (.iload_n 1, 1) by decide +kernel) rfl) <|
  ok_c (sn_aload_n (show decode cX9_number 9 = .ok (.aload_n 0, 1) by decide +kernel) rfl) <|
  ok_c (sn_getI (fun _ _ => rfl) (sn_get ck_9 (by decide) (show decode cX9_number 10 = .ok (.getfield 118, 3) by decide +kernel) wd_5_225)) <|
  ok_c (sn_iconst (v := 2) (show decode cX9_number 13 = .ok (.iconst 2, 1) by decide +kernel) (by decide +kernel)) <|
  ok_c (sn_ic_eq (show decode cX9_number 14 = .ok (.if_icmp .eq 10, 3) by decide +kernel) (by decide)) <|
  ok_c (sn_aload_n (show decode cX9_number 17 = .ok (.aload_n 0, 1) by decide +kernel) rfl) <|
  ok_c (sn_iconst (v := 1) (show decode cX9_number 18 = .ok (.iconst 1, 1) by decide +kernel) (by decide +kernel)) <|
  ok_c (sn_iload_n (show decode cX9_number 22 = .ok (.iload_n 1, 1) by decide +kernel) rfl) <|
  ok_c (sn_aload_n (show decode cX9_number 24 = .ok (.aload_n 0, 1) by decide +kernel) rfl) <|
  ok_c (sn_getI (fun _ _ => rfl) (sn_get ck_9 (by decide) (show decode cX9_number 25 = .ok (.getfield 111, 3) by decide +kernel) wd_5_227)) <|
  ok_c (sn_i2l (show decode cX9_number 28 = .ok (.i2l, 1) by decide +kernel)) <|
  ok_c (sn_iload_n (show decode cX9_number 29 = .ok (.iload_n 1, 1) by decide +kernel) rfl) <|
  ok_c (sn_i2l (show decode cX9_number 30 = .ok (.i2l, 1) by decide +kernel)) <|
  ok_c (sn_iload_n (show decode cX9_number 31 = .ok (.iload_n 2, 1) by decide +kernel) rfl) <|
  ok_c (sn_i2l (show decode cX9_number 32 = .ok (.i2l, 1) by decide +kernel)) <|
  ok_c (sn_if_ne (show decode cX9_number 36 = .ok (.ifCond .ne 10, 3) by decide +kernel) (by decide)) <|
  ok_c (sn_aload_n (show decode cX9_number 39 = .ok (.aload_n 0, 1) by decide +kernel) rfl) <|
  ok_c (sn_iconst (v := 2) (show decode cX9_number 40 = .ok (.iconst 2, 1) by decide +kernel) (by decide +kernel)) <|
  ok_c (sn_iload_n (show decode cX9_number 44 = .ok (.iload_n 1, 1) by decide +kernel) rfl) <|
  ok_c (sn_aload_n (show decode cX9_number 46 = .ok (.aload_n 0, 1) by decide +kernel) rfl) <|
  ok_c (sn_getI (fun _ _ => rfl) (sn_get ck_9 (by decide) (show decode cX9_number 47 = .ok (.getfield 111, 3) by decide +kernel) wd_5_227)) <|
  ok_c (sn_istore_n (show decode cX9_number 50 = .ok (.istore_n 3, 1) by decide +kernel) rfl (by decide)) <|
  ok_c (sn_aload_n (show decode cX9_number 51 = .ok (.aload_n 0, 1) by decide +kernel) rfl) <|
  ok_c (sn_iload_n (show decode cX9_number 55 = .ok (.iload_n 3, 1) by decide +kernel) rfl) <|
  ok_n
def uX9_number : gCT := [(19, YX9_errs, 2, some 9), (33, YX9_in, 3, none), (41, YX9_errs, 2, some 9), (52, YX9_next, 1, some 9)]
set_option maxRecDepth 100000 in
theorem ocX9_number : gOkC YX9_number uX9_number := oc_c (gEdge_V cal_X9_errs ck_9 rfl (show decode cX9_number 19 = .ok (.invokevirtual 145, 3) by decide +kernel) wd_6_210 wd_6_212 wp_4_7) <|
  oc_c (gEdge_S cal_X9_in (show decode cX9_number 33 = .ok (.invokestatic 82, 3) by decide +kernel) wd_6_134 wd_6_135) <|
  oc_c (gEdge_V cal_X9_errs ck_9 rfl (show decode cX9_number 41 = .ok (.invokevirtual 145, 3) by decide +kernel) wd_6_210 wd_6_212 wp_4_7) <|
  oc_c (gEdge_V cal_X9_next ck_9 rfl (show decode cX9_number 52 = .ok (.invokevirtual 139, 3) by decide +kernel) wd_6_180 wd_6_182 wp_4_1) <|
  oc_n
theorem reX9_number : ∀ pc ∈ [8, 23, 45, 56], decode cX9_number pc = .ok (.ireturn, 1) := by decide +kernel
def tX9_number_ : List (Nat × gStp) := [(0, i_aload 0 1), (1, i_lload 1 2), (5, i_aload 0 6), (6, i_iload 3 7), (7, i_iload 4 9)]
set_option maxRecDepth 100000 in
theorem okX9_number_ : gOk YX9_number_ tX9_number_ := ok_c (sn_aload_n (show decode cX9_number_ 0 = .ok (.aload_n 0, 1) by decide +kernel) rfl) <|
  ok_c (sn_lload_n (show decode cX9_number_ 1 = .ok (.lload_n 1, 1) by decide +kernel) rfl) <|
  ok_c (sn_aload_n (show decode cX9_number_ 5 = .ok (.aload_n 0, 1) by decide +kernel) rfl) <|
  ok_c (sn_iload_n (show decode cX9_number_ 6 = .ok (.iload_n 3, 1) by decide +kernel) rfl) <|
  ok_c (sn_iload (show decode cX9_number_ 7 = .ok (.iload 4, 2) by decide +kernel)) <|
  ok_n
def uX9_number_ : gCT := [(2, YX9_asks, 2, some 9), (9, YX9_number, 3, some 9)]
set_option maxRecDepth 100000 in
theorem ocX9_number_ : gOkC YX9_number_ uX9_number_ := oc_c (gEdge_V cal_X9_asks ck_9 rfl (show decode cX9_number_ 2 = .ok (.invokevirtual 148, 3) by decide +kernel) wd_6_198 wd_6_200 wp_4_4) <|
  oc_c (gEdge_V cal_X9_number ck_9 rfl (show decode cX9_number_ 9 = .ok (.invokevirtual 152, 3) by decide +kernel) wd_6_219 wd_6_221 wp_4_9) <|
  oc_n
theorem reX9_number_ : ∀ pc ∈ [12], decode cX9_number_ pc = .ok (.ireturn, 1) := by decide +kernel
def tX9_ends : List (Nat × gStp) := [(0, i_aload 0 1), (1, i_getI 9 8 4), (4, i_push (.int 3) 5), (5, i_ic_eq 13 8), (8, i_aload 0 9), (9, i_push (.int 1) 10), (13, i_aload 0 14), (14, i_getI 9 12 17), (17, i_if_ne 24 20), (20, i_aload 0 21)]
set_option maxRecDepth 100000 in
theorem okX9_ends : gOk YX9_ends tX9_ends := ok_c (sn_aload_n (show decode cX9_ends 0 = .ok (.aload_n 0, 1) by decide +kernel) rfl) <|
  ok_c (sn_getI (fun _ _ => rfl) (sn_get ck_9 (by decide) (show decode cX9_ends 1 = .ok (.getfield 118, 3) by decide +kernel) wd_5_225)) <|
  ok_c (sn_iconst (v := 3) (show decode cX9_ends 4 = .ok (.iconst 3, 1) by decide +kernel) (by decide +kernel)) <|
  ok_c (sn_ic_eq (show decode cX9_ends 5 = .ok (.if_icmp .eq 8, 3) by decide +kernel) (by decide)) <|
  ok_c (sn_aload_n (show decode cX9_ends 8 = .ok (.aload_n 0, 1) by decide +kernel) rfl) <|
  ok_c (sn_iconst (v := 1) (show decode cX9_ends 9 = .ok (.iconst 1, 1) by decide +kernel) (by decide +kernel)) <|
  ok_c (sn_aload_n (show decode cX9_ends 13 = .ok (.aload_n 0, 1) by decide +kernel) rfl) <|
  ok_c (sn_getI (fun _ _ => rfl) (sn_get ck_9 (by decide) (show decode cX9_ends 14 = .ok (.getfield 129, 3) by decide +kernel) wd_5_229)) <|
  ok_c (sn_if_ne (show decode cX9_ends 17 = .ok (.ifCond .ne 7, 3) by decide +kernel) (by decide)) <|
  ok_c (sn_aload_n (show decode cX9_ends 20 = .ok (.aload_n 0, 1) by decide +kernel) rfl) <|
  ok_n
def uX9_ends : gCT := [(10, YX9_errs, 2, some 9), (21, YX9_next, 1, some 9)]
set_option maxRecDepth 100000 in
theorem ocX9_ends : gOkC YX9_ends uX9_ends := oc_c (gEdge_V cal_X9_errs ck_9 rfl (show decode cX9_ends 10 = .ok (.invokevirtual 145, 3) by decide +kernel) wd_6_210 wd_6_212 wp_4_7) <|
  oc_c (gEdge_V cal_X9_next ck_9 rfl (show decode cX9_ends 21 = .ok (.invokevirtual 139, 3) by decide +kernel) wd_6_180 wd_6_182 wp_4_1) <|
  oc_n
theorem reX9_ends : ∀ pc ∈ [24], decode cX9_ends pc = .ok (.return_, 1) := by decide +kernel
def tX9_begins : List (Nat × gStp) := [(0, i_aload 0 1), (1, i_push (.int 0) 2), (2, i_putI 9 12 5), (5, i_aload 0 6), (6, i_push (.int (-1)) 7), (7, i_putI 9 13 10), (10, i_aload 0 11), (11, i_push (.int 0) 12), (12, i_putI 9 7 15), (15, i_aload 0 16)]
set_option maxRecDepth 100000 in
theorem okX9_begins : gOk YX9_begins tX9_begins := ok_c (sn_aload_n (show decode cX9_begins 0 = .ok (.aload_n 0, 1) by decide +kernel) rfl) <|
  ok_c (sn_iconst (v := 0) (show decode cX9_begins 1 = .ok (.iconst 0, 1) by decide +kernel) (by decide +kernel)) <|
  ok_c (sn_putI ck_9 (by decide) rfl rfl (show decode cX9_begins 2 = .ok (.putfield 129, 3) by decide +kernel) wd_5_229) <|
  ok_c (sn_aload_n (show decode cX9_begins 5 = .ok (.aload_n 0, 1) by decide +kernel) rfl) <|
  ok_c (sn_iconst (v := (-1)) (show decode cX9_begins 6 = .ok (.iconst (-1), 1) by decide +kernel) (by decide +kernel)) <|
  ok_c (sn_putI ck_9 (by decide) rfl rfl (show decode cX9_begins 7 = .ok (.putfield 132, 3) by decide +kernel) wd_5_230) <|
  ok_c (sn_aload_n (show decode cX9_begins 10 = .ok (.aload_n 0, 1) by decide +kernel) rfl) <|
  ok_c (sn_iconst (v := 0) (show decode cX9_begins 11 = .ok (.iconst 0, 1) by decide +kernel) (by decide +kernel)) <|
  ok_c (sn_putI ck_9 (by decide) rfl rfl (show decode cX9_begins 12 = .ok (.putfield 101, 3) by decide +kernel) wd_5_224) <|
  ok_c (sn_aload_n (show decode cX9_begins 15 = .ok (.aload_n 0, 1) by decide +kernel) rfl) <|
  ok_n
def uX9_begins : gCT := [(16, YX9_next, 1, some 9)]
set_option maxRecDepth 100000 in
theorem ocX9_begins : gOkC YX9_begins uX9_begins := oc_c (gEdge_V cal_X9_next ck_9 rfl (show decode cX9_begins 16 = .ok (.invokevirtual 139, 3) by decide +kernel) wd_6_180 wd_6_182 wp_4_1) <|
  oc_n
theorem reX9_begins : ∀ pc ∈ [19], decode cX9_begins pc = .ok (.return_, 1) := by decide +kernel
def tX9_isOver : List (Nat × gStp) := [(0, i_aload 0 1), (1, i_push (.int 0) 2), (2, i_putI 9 6 5), (5, i_aload 0 6), (6, i_aload 0 7), (7, i_getI 9 12 10), (10, i_putI 9 14 13), (13, i_aload 0 14), (14, i_aload 0 15), (15, i_getI 9 12 18), (18, i_if_ne 25 21), (21, i_push (.int (-1)) 22), (22, i_goto 29), (25, i_aload 0 26), (26, i_getI 9 13 29), (29, i_putI 9 15 32)]
set_option maxRecDepth 100000 in
theorem okX9_isOver : gOk YX9_isOver tX9_isOver := ok_c (sn_aload_n (show decode cX9_isOver 0 = .ok (.aload_n 0, 1) by decide +kernel) rfl) <|
  ok_c (sn_iconst (v := 0) (show decode cX9_isOver 1 = .ok (.iconst 0, 1) by decide +kernel) (by decide +kernel)) <|
  ok_c (sn_putI ck_9 (by decide) rfl rfl (show decode cX9_isOver 2 = .ok (.putfield 94, 3) by decide +kernel) wd_5_223) <|
  ok_c (sn_aload_n (show decode cX9_isOver 5 = .ok (.aload_n 0, 1) by decide +kernel) rfl) <|
  ok_c (sn_aload_n (show decode cX9_isOver 6 = .ok (.aload_n 0, 1) by decide +kernel) rfl) <|
  ok_c (sn_getI (fun _ _ => rfl) (sn_get ck_9 (by decide) (show decode cX9_isOver 7 = .ok (.getfield 129, 3) by decide +kernel) wd_5_229)) <|
  ok_c (sn_putI ck_9 (by decide) rfl rfl (show decode cX9_isOver 10 = .ok (.putfield 156, 3) by decide +kernel) wd_5_231) <|
  ok_c (sn_aload_n (show decode cX9_isOver 13 = .ok (.aload_n 0, 1) by decide +kernel) rfl) <|
  ok_c (sn_aload_n (show decode cX9_isOver 14 = .ok (.aload_n 0, 1) by decide +kernel) rfl) <|
  ok_c (sn_getI (fun _ _ => rfl) (sn_get ck_9 (by decide) (show decode cX9_isOver 15 = .ok (.getfield 129, 3) by decide +kernel) wd_5_229)) <|
  ok_c (sn_if_ne (show decode cX9_isOver 18 = .ok (.ifCond .ne 7, 3) by decide +kernel) (by decide)) <|
  ok_c (sn_iconst (v := (-1)) (show decode cX9_isOver 21 = .ok (.iconst (-1), 1) by decide +kernel) (by decide +kernel)) <|
  ok_c (sn_goto (show decode cX9_isOver 22 = .ok (.goto 7, 3) by decide +kernel) (by decide)) <|
  ok_c (sn_aload_n (show decode cX9_isOver 25 = .ok (.aload_n 0, 1) by decide +kernel) rfl) <|
  ok_c (sn_getI (fun _ _ => rfl) (sn_get ck_9 (by decide) (show decode cX9_isOver 26 = .ok (.getfield 132, 3) by decide +kernel) wd_5_230)) <|
  ok_c (sn_putI ck_9 (by decide) rfl rfl (show decode cX9_isOver 29 = .ok (.putfield 27, 3) by decide +kernel) wd_5_232) <|
  ok_n
theorem reX9_isOver : ∀ pc ∈ [32], decode cX9_isOver pc = .ok (.return_, 1) := by decide +kernel
def tX9_fault : List (Nat × gStp) := [(0, i_aload 0 1), (1, i_push (.int 0) 2), (2, i_putI 9 0 5), (5, i_iload 1 6), (6, i_if_ne 16 9), (9, i_aload 0 10), (10, i_getI 9 14 13), (13, i_goto 29), (16, i_iload 1 17), (17, i_push (.int 1) 18), (18, i_ic_ne 28 21), (21, i_aload 0 22), (22, i_getI 9 15 25), (25, i_goto 29), (28, i_push (.int (-1)) 29)]
set_option maxRecDepth 100000 in
theorem okX9_fault : gOk YX9_fault tX9_fault := ok_c (sn_aload_n (show decode cX9_fault 0 = .ok (.aload_n 0, 1) by decide +kernel) rfl) <|
  ok_c (sn_iconst (v := 0) (show decode cX9_fault 1 = .ok (.iconst 0, 1) by decide +kernel) (by decide +kernel)) <|
  ok_c (sn_putI ck_9 (by decide) rfl rfl (show decode cX9_fault 2 = .ok (.putfield 77, 3) by decide +kernel) wd_5_217) <|
  ok_c (sn_iload_n (show decode cX9_fault 5 = .ok (.iload_n 1, 1) by decide +kernel) rfl) <|
  ok_c (sn_if_ne (show decode cX9_fault 6 = .ok (.ifCond .ne 10, 3) by decide +kernel) (by decide)) <|
  ok_c (sn_aload_n (show decode cX9_fault 9 = .ok (.aload_n 0, 1) by decide +kernel) rfl) <|
  ok_c (sn_getI (fun _ _ => rfl) (sn_get ck_9 (by decide) (show decode cX9_fault 10 = .ok (.getfield 156, 3) by decide +kernel) wd_5_231)) <|
  ok_c (sn_goto (show decode cX9_fault 13 = .ok (.goto 16, 3) by decide +kernel) (by decide)) <|
  ok_c (sn_iload_n (show decode cX9_fault 16 = .ok (.iload_n 1, 1) by decide +kernel) rfl) <|
  ok_c (sn_iconst (v := 1) (show decode cX9_fault 17 = .ok (.iconst 1, 1) by decide +kernel) (by decide +kernel)) <|
  ok_c (sn_ic_ne (show decode cX9_fault 18 = .ok (.if_icmp .ne 10, 3) by decide +kernel) (by decide)) <|
  ok_c (sn_aload_n (show decode cX9_fault 21 = .ok (.aload_n 0, 1) by decide +kernel) rfl) <|
  ok_c (sn_getI (fun _ _ => rfl) (sn_get ck_9 (by decide) (show decode cX9_fault 22 = .ok (.getfield 27, 3) by decide +kernel) wd_5_232)) <|
  ok_c (sn_goto (show decode cX9_fault 25 = .ok (.goto 4, 3) by decide +kernel) (by decide)) <|
  ok_c (sn_iconst (v := (-1)) (show decode cX9_fault 28 = .ok (.iconst (-1), 1) by decide +kernel) (by decide +kernel)) <|
  ok_n
theorem reX9_fault : ∀ pc ∈ [29], decode cX9_fault pc = .ok (.ireturn, 1) := by decide +kernel
def tX9_hasRead : List (Nat × gStp) := [(0, i_aload 0 1), (1, i_getC 9 148 4), (4, i_push (.int 36) 6), (6, i_iload 1 7), (7, i_ii (fun x y => x + y) 8), (8, i_iald 9)]
set_option maxRecDepth 100000 in
theorem okX9_hasRead : gOk YX9_hasRead tX9_hasRead := ok_c (sn_aload_n (show decode cX9_hasRead 0 = .ok (.aload_n 0, 1) by decide +kernel) rfl) <|
  ok_c (sn_getC (j := 17) (fun _ _ => rfl) (sn_get ck_9 (by decide) (show decode cX9_hasRead 1 = .ok (.getfield 34, 3) by decide +kernel) wd_5_234)) <|
  ok_c (sn_bipush (v := 36) (show decode cX9_hasRead 4 = .ok (.bipush 36, 2) by decide +kernel) (by decide +kernel)) <|
  ok_c (sn_iload_n (show decode cX9_hasRead 6 = .ok (.iload_n 1, 1) by decide +kernel) rfl) <|
  ok_c (sn_iadd (show decode cX9_hasRead 7 = .ok (.iadd, 1) by decide +kernel)) <|
  ok_c (sn_iald (show decode cX9_hasRead 8 = .ok (.iaload, 1) by decide +kernel)) <|
  ok_n
theorem reX9_hasRead : ∀ pc ∈ [9], decode cX9_hasRead pc = .ok (.ireturn, 1) := by decide +kernel
def tX9_tells : List (Nat × gStp) := [(0, i_aload 0 1), (1, i_getC 9 148 4), (4, i_push (.int 36) 6), (6, i_iload 1 7), (7, i_ii (fun x y => x + y) 8), (8, i_iload 2 9), (9, i_iast 10)]
set_option maxRecDepth 100000 in
theorem okX9_tells : gOk YX9_tells tX9_tells := ok_c (sn_aload_n (show decode cX9_tells 0 = .ok (.aload_n 0, 1) by decide +kernel) rfl) <|
  ok_c (sn_getC (j := 17) (fun _ _ => rfl) (sn_get ck_9 (by decide) (show decode cX9_tells 1 = .ok (.getfield 34, 3) by decide +kernel) wd_5_234)) <|
  ok_c (sn_bipush (v := 36) (show decode cX9_tells 4 = .ok (.bipush 36, 2) by decide +kernel) (by decide +kernel)) <|
  ok_c (sn_iload_n (show decode cX9_tells 6 = .ok (.iload_n 1, 1) by decide +kernel) rfl) <|
  ok_c (sn_iadd (show decode cX9_tells 7 = .ok (.iadd, 1) by decide +kernel)) <|
  ok_c (sn_iload_n (show decode cX9_tells 8 = .ok (.iload_n 2, 1) by decide +kernel) rfl) <|
  ok_c (sn_iast (show decode cX9_tells 9 = .ok (.iastore, 1) by decide +kernel)) <|
  ok_n
theorem reX9_tells : ∀ pc ∈ [10], decode cX9_tells pc = .ok (.return_, 1) := by decide +kernel
def tX9_partnerLine : List (Nat × gStp) := [(0, i_push (.int 3) 1), (1, i_push (.int 24) 3), (3, i_aload 0 4), (4, i_push (.int 4) 5), (8, i_ii (fun x y => x + y) 9), (9, i_ii (fun x y => x * y) 10), (10, i_istore 1 11), (11, i_aload 0 12), (12, i_getC 9 149 15), (15, i_iload 1 16), (16, i_aload 0 17), (17, i_push (.long 459383) 20), (20, i_push (.int 1) 21), (21, i_push (.int 9) 23), (26, i_iast 27), (27, i_aload 0 28), (28, i_getC 9 149 31), (31, i_iload 1 32), (32, i_push (.int 1) 33), (33, i_ii (fun x y => x + y) 34), (34, i_aload 0 35), (35, i_push (.long 12532058) 38), (38, i_push (.int 0) 39), (39, i_push (.int 99) 41), (44, i_iast 45), (45, i_aload 0 46), (46, i_getC 9 149 49), (49, i_iload 1 50), (50, i_push (.int 2) 51), (51, i_ii (fun x y => x + y) 52), (52, i_aload 0 53), (53, i_push (.long 3746728) 56), (56, i_push (.int 0) 57), (57, i_push (.int 9) 59), (62, i_iast 63), (63, i_aload 0 64), (64, i_push (.int 4) 65), (65, i_aload 0 66), (66, i_push (.int 4) 67), (70, i_push (.int 1) 71), (71, i_ii (fun x y => x + y) 72)]
set_option maxRecDepth 100000 in
theorem okX9_partnerLine : gOk YX9_partnerLine tX9_partnerLine := ok_c (sn_iconst (v := 3) (show decode cX9_partnerLine 0 = .ok (.iconst 3, 1) by decide +kernel) (by decide +kernel)) <|
  ok_c (sn_bipush (v := 24) (show decode cX9_partnerLine 1 = .ok (.bipush 24, 2) by decide +kernel) (by decide +kernel)) <|
  ok_c (sn_aload_n (show decode cX9_partnerLine 3 = .ok (.aload_n 0, 1) by decide +kernel) rfl) <|
  ok_c (sn_iconst (v := 4) (show decode cX9_partnerLine 4 = .ok (.iconst 4, 1) by decide +kernel) (by decide +kernel)) <|
  ok_c (sn_iadd (show decode cX9_partnerLine 8 = .ok (.iadd, 1) by decide +kernel)) <|
  ok_c (sn_imul (show decode cX9_partnerLine 9 = .ok (.imul, 1) by decide +kernel)) <|
  ok_c (sn_istore_n (show decode cX9_partnerLine 10 = .ok (.istore_n 1, 1) by decide +kernel) rfl (by decide)) <|
  ok_c (sn_aload_n (show decode cX9_partnerLine 11 = .ok (.aload_n 0, 1) by decide +kernel) rfl) <|
  ok_c (sn_getC (j := 18) (fun _ _ => rfl) (sn_get ck_9 (by decide) (show decode cX9_partnerLine 12 = .ok (.getfield 37, 3) by decide +kernel) wd_5_235)) <|
  ok_c (sn_iload_n (show decode cX9_partnerLine 15 = .ok (.iload_n 1, 1) by decide +kernel) rfl) <|
  ok_c (sn_aload_n (show decode cX9_partnerLine 16 = .ok (.aload_n 0, 1) by decide +kernel) rfl) <|
  ok_c (sn_ldc2 (show decode cX9_partnerLine 17 = .ok (.ldc2_w 163, 3) by decide +kernel) wd_7_3) <|
  ok_c (sn_iconst (v := 1) (show decode cX9_partnerLine 20 = .ok (.iconst 1, 1) by decide +kernel) (by decide +kernel)) <|
  ok_c (sn_bipush (v := 9) (show decode cX9_partnerLine 21 = .ok (.bipush 9, 2) by decide +kernel) (by decide +kernel)) <|
  ok_c (sn_iast (show decode cX9_partnerLine 26 = .ok (.iastore, 1) by decide +kernel)) <|
  ok_c (sn_aload_n (show decode cX9_partnerLine 27 = .ok (.aload_n 0, 1) by decide +kernel) rfl) <|
  ok_c (sn_getC (j := 18) (fun _ _ => rfl) (sn_get ck_9 (by decide) (show decode cX9_partnerLine 28 = .ok (.getfield 37, 3) by decide +kernel) wd_5_235)) <|
  ok_c (sn_iload_n (show decode cX9_partnerLine 31 = .ok (.iload_n 1, 1) by decide +kernel) rfl) <|
  ok_c (sn_iconst (v := 1) (show decode cX9_partnerLine 32 = .ok (.iconst 1, 1) by decide +kernel) (by decide +kernel)) <|
  ok_c (sn_iadd (show decode cX9_partnerLine 33 = .ok (.iadd, 1) by decide +kernel)) <|
  ok_c (sn_aload_n (show decode cX9_partnerLine 34 = .ok (.aload_n 0, 1) by decide +kernel) rfl) <|
  ok_c (sn_ldc2 (show decode cX9_partnerLine 35 = .ok (.ldc2_w 168, 3) by decide +kernel) wd_7_4) <|
  ok_c (sn_iconst (v := 0) (show decode cX9_partnerLine 38 = .ok (.iconst 0, 1) by decide +kernel) (by decide +kernel)) <|
  ok_c (sn_bipush (v := 99) (show decode cX9_partnerLine 39 = .ok (.bipush 99, 2) by decide +kernel) (by decide +kernel)) <|
  ok_c (sn_iast (show decode cX9_partnerLine 44 = .ok (.iastore, 1) by decide +kernel)) <|
  ok_c (sn_aload_n (show decode cX9_partnerLine 45 = .ok (.aload_n 0, 1) by decide +kernel) rfl) <|
  ok_c (sn_getC (j := 18) (fun _ _ => rfl) (sn_get ck_9 (by decide) (show decode cX9_partnerLine 46 = .ok (.getfield 37, 3) by decide +kernel) wd_5_235)) <|
  ok_c (sn_iload_n (show decode cX9_partnerLine 49 = .ok (.iload_n 1, 1) by decide +kernel) rfl) <|
  ok_c (sn_iconst (v := 2) (show decode cX9_partnerLine 50 = .ok (.iconst 2, 1) by decide +kernel) (by decide +kernel)) <|
  ok_c (sn_iadd (show decode cX9_partnerLine 51 = .ok (.iadd, 1) by decide +kernel)) <|
  ok_c (sn_aload_n (show decode cX9_partnerLine 52 = .ok (.aload_n 0, 1) by decide +kernel) rfl) <|
  ok_c (sn_ldc2 (show decode cX9_partnerLine 53 = .ok (.ldc2_w 170, 3) by decide +kernel) wd_7_5) <|
  ok_c (sn_iconst (v := 0) (show decode cX9_partnerLine 56 = .ok (.iconst 0, 1) by decide +kernel) (by decide +kernel)) <|
  ok_c (sn_bipush (v := 9) (show decode cX9_partnerLine 57 = .ok (.bipush 9, 2) by decide +kernel) (by decide +kernel)) <|
  ok_c (sn_iast (show decode cX9_partnerLine 62 = .ok (.iastore, 1) by decide +kernel)) <|
  ok_c (sn_aload_n (show decode cX9_partnerLine 63 = .ok (.aload_n 0, 1) by decide +kernel) rfl) <|
  ok_c (sn_iconst (v := 4) (show decode cX9_partnerLine 64 = .ok (.iconst 4, 1) by decide +kernel) (by decide +kernel)) <|
  ok_c (sn_aload_n (show decode cX9_partnerLine 65 = .ok (.aload_n 0, 1) by decide +kernel) rfl) <|
  ok_c (sn_iconst (v := 4) (show decode cX9_partnerLine 66 = .ok (.iconst 4, 1) by decide +kernel) (by decide +kernel)) <|
  ok_c (sn_iconst (v := 1) (show decode cX9_partnerLine 70 = .ok (.iconst 1, 1) by decide +kernel) (by decide +kernel)) <|
  ok_c (sn_iadd (show decode cX9_partnerLine 71 = .ok (.iadd, 1) by decide +kernel)) <|
  ok_n
def uX9_partnerLine : gCT := [(5, YX9_hasRead, 2, some 9), (23, YX9_number_, 4, some 9), (41, YX9_number_, 4, some 9), (59, YX9_number_, 4, some 9), (67, YX9_hasRead, 2, some 9), (72, YX9_tells, 3, some 9)]
set_option maxRecDepth 100000 in
theorem ocX9_partnerLine : gOkC YX9_partnerLine uX9_partnerLine := oc_c (gEdge_V cal_X9_hasRead ck_9 rfl (show decode cX9_partnerLine 5 = .ok (.invokevirtual 159, 3) by decide +kernel) wd_6_235 wd_6_237 wp_4_12) <|
  oc_c (gEdge_V cal_X9_number_ ck_9 rfl (show decode cX9_partnerLine 23 = .ok (.invokevirtual 165, 3) by decide +kernel) wd_6_215 wd_6_217 wp_4_8) <|
  oc_c (gEdge_V cal_X9_number_ ck_9 rfl (show decode cX9_partnerLine 41 = .ok (.invokevirtual 165, 3) by decide +kernel) wd_6_215 wd_6_217 wp_4_8) <|
  oc_c (gEdge_V cal_X9_number_ ck_9 rfl (show decode cX9_partnerLine 59 = .ok (.invokevirtual 165, 3) by decide +kernel) wd_6_215 wd_6_217 wp_4_8) <|
  oc_c (gEdge_V cal_X9_hasRead ck_9 rfl (show decode cX9_partnerLine 67 = .ok (.invokevirtual 159, 3) by decide +kernel) wd_6_235 wd_6_237 wp_4_12) <|
  oc_c (gEdge_V cal_X9_tells ck_9 rfl (show decode cX9_partnerLine 72 = .ok (.invokevirtual 172, 3) by decide +kernel) wd_6_172 wd_6_174 wp_3_15) <|
  oc_n
theorem reX9_partnerLine : ∀ pc ∈ [75], decode cX9_partnerLine pc = .ok (.return_, 1) := by decide +kernel
def tX9_personHere : List (Nat × gStp) := [(0, i_aload 0 1), (1, i_push (.int 0) 2), (2, i_aload 0 3), (3, i_push (.int 4) 4), (7, i_push (.int 1) 8), (8, i_ii (fun x y => x - y) 9)]
set_option maxRecDepth 100000 in
theorem okX9_personHere : gOk YX9_personHere tX9_personHere := ok_c (sn_aload_n (show decode cX9_personHere 0 = .ok (.aload_n 0, 1) by decide +kernel) rfl) <|
  ok_c (sn_iconst (v := 0) (show decode cX9_personHere 1 = .ok (.iconst 0, 1) by decide +kernel) (by decide +kernel)) <|
  ok_c (sn_aload_n (show decode cX9_personHere 2 = .ok (.aload_n 0, 1) by decide +kernel) rfl) <|
  ok_c (sn_iconst (v := 4) (show decode cX9_personHere 3 = .ok (.iconst 4, 1) by decide +kernel) (by decide +kernel)) <|
  ok_c (sn_iconst (v := 1) (show decode cX9_personHere 7 = .ok (.iconst 1, 1) by decide +kernel) (by decide +kernel)) <|
  ok_c (sn_isub (show decode cX9_personHere 8 = .ok (.isub, 1) by decide +kernel)) <|
  ok_n
def uX9_personHere : gCT := [(4, YX9_hasRead, 2, some 9), (9, YX9_number, 3, some 9)]
set_option maxRecDepth 100000 in
theorem ocX9_personHere : gOkC YX9_personHere uX9_personHere := oc_c (gEdge_V cal_X9_hasRead ck_9 rfl (show decode cX9_personHere 4 = .ok (.invokevirtual 159, 3) by decide +kernel) wd_6_235 wd_6_237 wp_4_12) <|
  oc_c (gEdge_V cal_X9_number ck_9 rfl (show decode cX9_personHere 9 = .ok (.invokevirtual 152, 3) by decide +kernel) wd_6_219 wd_6_221 wp_4_9) <|
  oc_n
theorem reX9_personHere : ∀ pc ∈ [12], decode cX9_personHere pc = .ok (.ireturn, 1) := by decide +kernel
def tX9_joinLine : List (Nat × gStp) := [(0, i_push (.int 3) 1), (1, i_push (.int 28) 3), (3, i_aload 0 4), (4, i_push (.int 5) 5), (8, i_ii (fun x y => x + y) 9), (9, i_ii (fun x y => x * y) 10), (10, i_istore 1 11), (11, i_aload 0 12), (12, i_getC 9 150 15), (15, i_iload 1 16), (16, i_aload 0 17), (20, i_iast 21), (21, i_aload 0 22), (22, i_getI 9 12 25), (25, i_if_ne 54 28), (28, i_aload 0 29), (29, i_getI 9 8 32), (32, i_push (.int 2) 33), (33, i_ic_ne 54 36), (36, i_aload 0 37), (37, i_getI 9 10 40), (40, i_aload 0 41), (41, i_getC 9 150 44), (44, i_iload 1 45), (45, i_iald 46), (46, i_ic_ne 54 49), (49, i_aload 0 50), (50, i_push (.int 2) 51), (54, i_aload 0 55), (55, i_getC 9 150 58), (58, i_iload 1 59), (59, i_push (.int 1) 60), (60, i_ii (fun x y => x + y) 61), (61, i_aload 0 62), (65, i_iast 66), (66, i_aload 0 67), (67, i_getC 9 150 70), (70, i_iload 1 71), (71, i_push (.int 2) 72), (72, i_ii (fun x y => x + y) 73), (73, i_aload 0 74), (74, i_push (.long 16818) 77), (77, i_push (.int 1) 78), (78, i_push (.int 9) 80), (83, i_iast 84), (84, i_aload 0 85), (85, i_push (.int 5) 86), (86, i_aload 0 87), (87, i_push (.int 5) 88), (91, i_push (.int 1) 92), (92, i_ii (fun x y => x + y) 93)]
set_option maxRecDepth 100000 in
theorem okX9_joinLine : gOk YX9_joinLine tX9_joinLine := ok_c (sn_iconst (v := 3) (show decode cX9_joinLine 0 = .ok (.iconst 3, 1) by decide +kernel) (by decide +kernel)) <|
  ok_c (sn_bipush (v := 28) (show decode cX9_joinLine 1 = .ok (.bipush 28, 2) by decide +kernel) (by decide +kernel)) <|
  ok_c (sn_aload_n (show decode cX9_joinLine 3 = .ok (.aload_n 0, 1) by decide +kernel) rfl) <|
  ok_c (sn_iconst (v := 5) (show decode cX9_joinLine 4 = .ok (.iconst 5, 1) by decide +kernel) (by decide +kernel)) <|
  ok_c (sn_iadd (show decode cX9_joinLine 8 = .ok (.iadd, 1) by decide +kernel)) <|
  ok_c (sn_imul (show decode cX9_joinLine 9 = .ok (.imul, 1) by decide +kernel)) <|
  ok_c (sn_istore_n (show decode cX9_joinLine 10 = .ok (.istore_n 1, 1) by decide +kernel) rfl (by decide)) <|
  ok_c (sn_aload_n (show decode cX9_joinLine 11 = .ok (.aload_n 0, 1) by decide +kernel) rfl) <|
  ok_c (sn_getC (j := 19) (fun _ _ => rfl) (sn_get ck_9 (by decide) (show decode cX9_joinLine 12 = .ok (.getfield 40, 3) by decide +kernel) wd_5_236)) <|
  ok_c (sn_iload_n (show decode cX9_joinLine 15 = .ok (.iload_n 1, 1) by decide +kernel) rfl) <|
  ok_c (sn_aload_n (show decode cX9_joinLine 16 = .ok (.aload_n 0, 1) by decide +kernel) rfl) <|
  ok_c (sn_iast (show decode cX9_joinLine 20 = .ok (.iastore, 1) by decide +kernel)) <|
  ok_c (sn_aload_n (show decode cX9_joinLine 21 = .ok (.aload_n 0, 1) by decide +kernel) rfl) <|
  ok_c (sn_getI (fun _ _ => rfl) (sn_get ck_9 (by decide) (show decode cX9_joinLine 22 = .ok (.getfield 129, 3) by decide +kernel) wd_5_229)) <|
  ok_c (sn_if_ne (show decode cX9_joinLine 25 = .ok (.ifCond .ne 29, 3) by decide +kernel) (by decide)) <|
  ok_c (sn_aload_n (show decode cX9_joinLine 28 = .ok (.aload_n 0, 1) by decide +kernel) rfl) <|
  ok_c (sn_getI (fun _ _ => rfl) (sn_get ck_9 (by decide) (show decode cX9_joinLine 29 = .ok (.getfield 118, 3) by decide +kernel) wd_5_225)) <|
  ok_c (sn_iconst (v := 2) (show decode cX9_joinLine 32 = .ok (.iconst 2, 1) by decide +kernel) (by decide +kernel)) <|
  ok_c (sn_ic_ne (show decode cX9_joinLine 33 = .ok (.if_icmp .ne 21, 3) by decide +kernel) (by decide)) <|
  ok_c (sn_aload_n (show decode cX9_joinLine 36 = .ok (.aload_n 0, 1) by decide +kernel) rfl) <|
  ok_c (sn_getI (fun _ _ => rfl) (sn_get ck_9 (by decide) (show decode cX9_joinLine 37 = .ok (.getfield 111, 3) by decide +kernel) wd_5_227)) <|
  ok_c (sn_aload_n (show decode cX9_joinLine 40 = .ok (.aload_n 0, 1) by decide +kernel) rfl) <|
  ok_c (sn_getC (j := 19) (fun _ _ => rfl) (sn_get ck_9 (by decide) (show decode cX9_joinLine 41 = .ok (.getfield 40, 3) by decide +kernel) wd_5_236)) <|
  ok_c (sn_iload_n (show decode cX9_joinLine 44 = .ok (.iload_n 1, 1) by decide +kernel) rfl) <|
  ok_c (sn_iald (show decode cX9_joinLine 45 = .ok (.iaload, 1) by decide +kernel)) <|
  ok_c (sn_ic_ne (show decode cX9_joinLine 46 = .ok (.if_icmp .ne 8, 3) by decide +kernel) (by decide)) <|
  ok_c (sn_aload_n (show decode cX9_joinLine 49 = .ok (.aload_n 0, 1) by decide +kernel) rfl) <|
  ok_c (sn_iconst (v := 2) (show decode cX9_joinLine 50 = .ok (.iconst 2, 1) by decide +kernel) (by decide +kernel)) <|
  ok_c (sn_aload_n (show decode cX9_joinLine 54 = .ok (.aload_n 0, 1) by decide +kernel) rfl) <|
  ok_c (sn_getC (j := 19) (fun _ _ => rfl) (sn_get ck_9 (by decide) (show decode cX9_joinLine 55 = .ok (.getfield 40, 3) by decide +kernel) wd_5_236)) <|
  ok_c (sn_iload_n (show decode cX9_joinLine 58 = .ok (.iload_n 1, 1) by decide +kernel) rfl) <|
  ok_c (sn_iconst (v := 1) (show decode cX9_joinLine 59 = .ok (.iconst 1, 1) by decide +kernel) (by decide +kernel)) <|
  ok_c (sn_iadd (show decode cX9_joinLine 60 = .ok (.iadd, 1) by decide +kernel)) <|
  ok_c (sn_aload_n (show decode cX9_joinLine 61 = .ok (.aload_n 0, 1) by decide +kernel) rfl) <|
  ok_c (sn_iast (show decode cX9_joinLine 65 = .ok (.iastore, 1) by decide +kernel)) <|
  ok_c (sn_aload_n (show decode cX9_joinLine 66 = .ok (.aload_n 0, 1) by decide +kernel) rfl) <|
  ok_c (sn_getC (j := 19) (fun _ _ => rfl) (sn_get ck_9 (by decide) (show decode cX9_joinLine 67 = .ok (.getfield 40, 3) by decide +kernel) wd_5_236)) <|
  ok_c (sn_iload_n (show decode cX9_joinLine 70 = .ok (.iload_n 1, 1) by decide +kernel) rfl) <|
  ok_c (sn_iconst (v := 2) (show decode cX9_joinLine 71 = .ok (.iconst 2, 1) by decide +kernel) (by decide +kernel)) <|
  ok_c (sn_iadd (show decode cX9_joinLine 72 = .ok (.iadd, 1) by decide +kernel)) <|
  ok_c (sn_aload_n (show decode cX9_joinLine 73 = .ok (.aload_n 0, 1) by decide +kernel) rfl) <|
  ok_c (sn_ldc2 (show decode cX9_joinLine 74 = .ok (.ldc2_w 180, 3) by decide +kernel) wd_7_15) <|
  ok_c (sn_iconst (v := 1) (show decode cX9_joinLine 77 = .ok (.iconst 1, 1) by decide +kernel) (by decide +kernel)) <|
  ok_c (sn_bipush (v := 9) (show decode cX9_joinLine 78 = .ok (.bipush 9, 2) by decide +kernel) (by decide +kernel)) <|
  ok_c (sn_iast (show decode cX9_joinLine 83 = .ok (.iastore, 1) by decide +kernel)) <|
  ok_c (sn_aload_n (show decode cX9_joinLine 84 = .ok (.aload_n 0, 1) by decide +kernel) rfl) <|
  ok_c (sn_iconst (v := 5) (show decode cX9_joinLine 85 = .ok (.iconst 5, 1) by decide +kernel) (by decide +kernel)) <|
  ok_c (sn_aload_n (show decode cX9_joinLine 86 = .ok (.aload_n 0, 1) by decide +kernel) rfl) <|
  ok_c (sn_iconst (v := 5) (show decode cX9_joinLine 87 = .ok (.iconst 5, 1) by decide +kernel) (by decide +kernel)) <|
  ok_c (sn_iconst (v := 1) (show decode cX9_joinLine 91 = .ok (.iconst 1, 1) by decide +kernel) (by decide +kernel)) <|
  ok_c (sn_iadd (show decode cX9_joinLine 92 = .ok (.iadd, 1) by decide +kernel)) <|
  ok_n
def uX9_joinLine : gCT := [(5, YX9_hasRead, 2, some 9), (17, YX9_personHere, 1, some 9), (51, YX9_errs, 2, some 9), (62, YX9_personHere, 1, some 9), (80, YX9_number_, 4, some 9), (88, YX9_hasRead, 2, some 9), (93, YX9_tells, 3, some 9)]
set_option maxRecDepth 100000 in
theorem ocX9_joinLine : gOkC YX9_joinLine uX9_joinLine := oc_c (gEdge_V cal_X9_hasRead ck_9 rfl (show decode cX9_joinLine 5 = .ok (.invokevirtual 159, 3) by decide +kernel) wd_6_235 wd_6_237 wp_4_12) <|
  oc_c (gEdge_V cal_X9_personHere ck_9 rfl (show decode cX9_joinLine 17 = .ok (.invokevirtual 176, 3) by decide +kernel) wd_7_11 wd_7_13 wp_4_15) <|
  oc_c (gEdge_V cal_X9_errs ck_9 rfl (show decode cX9_joinLine 51 = .ok (.invokevirtual 145, 3) by decide +kernel) wd_6_210 wd_6_212 wp_4_7) <|
  oc_c (gEdge_V cal_X9_personHere ck_9 rfl (show decode cX9_joinLine 62 = .ok (.invokevirtual 176, 3) by decide +kernel) wd_7_11 wd_7_13 wp_4_15) <|
  oc_c (gEdge_V cal_X9_number_ ck_9 rfl (show decode cX9_joinLine 80 = .ok (.invokevirtual 165, 3) by decide +kernel) wd_6_215 wd_6_217 wp_4_8) <|
  oc_c (gEdge_V cal_X9_hasRead ck_9 rfl (show decode cX9_joinLine 88 = .ok (.invokevirtual 159, 3) by decide +kernel) wd_6_235 wd_6_237 wp_4_12) <|
  oc_c (gEdge_V cal_X9_tells ck_9 rfl (show decode cX9_joinLine 93 = .ok (.invokevirtual 172, 3) by decide +kernel) wd_6_172 wd_6_174 wp_3_15) <|
  oc_n
theorem reX9_joinLine : ∀ pc ∈ [96], decode cX9_joinLine pc = .ok (.return_, 1) := by decide +kernel
def tX9_doorLine : List (Nat × gStp) := [(0, i_aload 0 1), (1, i_getC 9 151 4), (4, i_push (.int 20) 6), (6, i_aload 0 7), (7, i_push (.int 6) 9), (12, i_ii (fun x y => x + y) 13), (13, i_aload 0 14), (14, i_push (.int 1) 15), (15, i_push (.int 60) 17), (20, i_iast 21), (21, i_aload 0 22), (22, i_push (.int 6) 24), (24, i_aload 0 25), (25, i_push (.int 6) 27), (30, i_push (.int 1) 31), (31, i_ii (fun x y => x + y) 32)]
set_option maxRecDepth 100000 in
theorem okX9_doorLine : gOk YX9_doorLine tX9_doorLine := ok_c (sn_aload_n (show decode cX9_doorLine 0 = .ok (.aload_n 0, 1) by decide +kernel) rfl) <|
  ok_c (sn_getC (j := 20) (fun _ _ => rfl) (sn_get ck_9 (by decide) (show decode cX9_doorLine 1 = .ok (.getfield 43, 3) by decide +kernel) wd_5_237)) <|
  ok_c (sn_bipush (v := 20) (show decode cX9_doorLine 4 = .ok (.bipush 20, 2) by decide +kernel) (by decide +kernel)) <|
  ok_c (sn_aload_n (show decode cX9_doorLine 6 = .ok (.aload_n 0, 1) by decide +kernel) rfl) <|
  ok_c (sn_bipush (v := 6) (show decode cX9_doorLine 7 = .ok (.bipush 6, 2) by decide +kernel) (by decide +kernel)) <|
  ok_c (sn_iadd (show decode cX9_doorLine 12 = .ok (.iadd, 1) by decide +kernel)) <|
  ok_c (sn_aload_n (show decode cX9_doorLine 13 = .ok (.aload_n 0, 1) by decide +kernel) rfl) <|
  ok_c (sn_iconst (v := 1) (show decode cX9_doorLine 14 = .ok (.iconst 1, 1) by decide +kernel) (by decide +kernel)) <|
  ok_c (sn_bipush (v := 60) (show decode cX9_doorLine 15 = .ok (.bipush 60, 2) by decide +kernel) (by decide +kernel)) <|
  ok_c (sn_iast (show decode cX9_doorLine 20 = .ok (.iastore, 1) by decide +kernel)) <|
  ok_c (sn_aload_n (show decode cX9_doorLine 21 = .ok (.aload_n 0, 1) by decide +kernel) rfl) <|
  ok_c (sn_bipush (v := 6) (show decode cX9_doorLine 22 = .ok (.bipush 6, 2) by decide +kernel) (by decide +kernel)) <|
  ok_c (sn_aload_n (show decode cX9_doorLine 24 = .ok (.aload_n 0, 1) by decide +kernel) rfl) <|
  ok_c (sn_bipush (v := 6) (show decode cX9_doorLine 25 = .ok (.bipush 6, 2) by decide +kernel) (by decide +kernel)) <|
  ok_c (sn_iconst (v := 1) (show decode cX9_doorLine 30 = .ok (.iconst 1, 1) by decide +kernel) (by decide +kernel)) <|
  ok_c (sn_iadd (show decode cX9_doorLine 31 = .ok (.iadd, 1) by decide +kernel)) <|
  ok_n
def uX9_doorLine : gCT := [(9, YX9_hasRead, 2, some 9), (17, YX9_number, 3, some 9), (27, YX9_hasRead, 2, some 9), (32, YX9_tells, 3, some 9)]
set_option maxRecDepth 100000 in
theorem ocX9_doorLine : gOkC YX9_doorLine uX9_doorLine := oc_c (gEdge_V cal_X9_hasRead ck_9 rfl (show decode cX9_doorLine 9 = .ok (.invokevirtual 159, 3) by decide +kernel) wd_6_235 wd_6_237 wp_4_12) <|
  oc_c (gEdge_V cal_X9_number ck_9 rfl (show decode cX9_doorLine 17 = .ok (.invokevirtual 152, 3) by decide +kernel) wd_6_219 wd_6_221 wp_4_9) <|
  oc_c (gEdge_V cal_X9_hasRead ck_9 rfl (show decode cX9_doorLine 27 = .ok (.invokevirtual 159, 3) by decide +kernel) wd_6_235 wd_6_237 wp_4_12) <|
  oc_c (gEdge_V cal_X9_tells ck_9 rfl (show decode cX9_doorLine 32 = .ok (.invokevirtual 172, 3) by decide +kernel) wd_6_172 wd_6_174 wp_3_15) <|
  oc_n
theorem reX9_doorLine : ∀ pc ∈ [35], decode cX9_doorLine pc = .ok (.return_, 1) := by decide +kernel
def tX9_coldLine : List (Nat × gStp) := [(0, i_push (.int 2) 1), (1, i_push (.int 20) 3), (3, i_aload 0 4), (4, i_push (.int 7) 6), (9, i_ii (fun x y => x + y) 10), (10, i_ii (fun x y => x * y) 11), (11, i_istore 1 12), (12, i_aload 0 13), (13, i_getC 9 152 16), (16, i_iload 1 17), (17, i_aload 0 18), (21, i_iast 22), (22, i_aload 0 23), (23, i_getC 9 152 26), (26, i_iload 1 27), (27, i_push (.int 1) 28), (28, i_ii (fun x y => x + y) 29), (29, i_aload 0 30), (30, i_push (.long 47) 33), (33, i_push (.int 0) 34), (34, i_push (.int 11) 36), (39, i_iast 40), (40, i_aload 0 41), (41, i_push (.int 7) 43), (43, i_aload 0 44), (44, i_push (.int 7) 46), (49, i_push (.int 1) 50), (50, i_ii (fun x y => x + y) 51)]
set_option maxRecDepth 100000 in
theorem okX9_coldLine : gOk YX9_coldLine tX9_coldLine := ok_c (sn_iconst (v := 2) (show decode cX9_coldLine 0 = .ok (.iconst 2, 1) by decide +kernel) (by decide +kernel)) <|
  ok_c (sn_bipush (v := 20) (show decode cX9_coldLine 1 = .ok (.bipush 20, 2) by decide +kernel) (by decide +kernel)) <|
  ok_c (sn_aload_n (show decode cX9_coldLine 3 = .ok (.aload_n 0, 1) by decide +kernel) rfl) <|
  ok_c (sn_bipush (v := 7) (show decode cX9_coldLine 4 = .ok (.bipush 7, 2) by decide +kernel) (by decide +kernel)) <|
  ok_c (sn_iadd (show decode cX9_coldLine 9 = .ok (.iadd, 1) by decide +kernel)) <|
  ok_c (sn_imul (show decode cX9_coldLine 10 = .ok (.imul, 1) by decide +kernel)) <|
  ok_c (sn_istore_n (show decode cX9_coldLine 11 = .ok (.istore_n 1, 1) by decide +kernel) rfl (by decide)) <|
  ok_c (sn_aload_n (show decode cX9_coldLine 12 = .ok (.aload_n 0, 1) by decide +kernel) rfl) <|
  ok_c (sn_getC (j := 21) (fun _ _ => rfl) (sn_get ck_9 (by decide) (show decode cX9_coldLine 13 = .ok (.getfield 46, 3) by decide +kernel) wd_5_238)) <|
  ok_c (sn_iload_n (show decode cX9_coldLine 16 = .ok (.iload_n 1, 1) by decide +kernel) rfl) <|
  ok_c (sn_aload_n (show decode cX9_coldLine 17 = .ok (.aload_n 0, 1) by decide +kernel) rfl) <|
  ok_c (sn_iast (show decode cX9_coldLine 21 = .ok (.iastore, 1) by decide +kernel)) <|
  ok_c (sn_aload_n (show decode cX9_coldLine 22 = .ok (.aload_n 0, 1) by decide +kernel) rfl) <|
  ok_c (sn_getC (j := 21) (fun _ _ => rfl) (sn_get ck_9 (by decide) (show decode cX9_coldLine 23 = .ok (.getfield 46, 3) by decide +kernel) wd_5_238)) <|
  ok_c (sn_iload_n (show decode cX9_coldLine 26 = .ok (.iload_n 1, 1) by decide +kernel) rfl) <|
  ok_c (sn_iconst (v := 1) (show decode cX9_coldLine 27 = .ok (.iconst 1, 1) by decide +kernel) (by decide +kernel)) <|
  ok_c (sn_iadd (show decode cX9_coldLine 28 = .ok (.iadd, 1) by decide +kernel)) <|
  ok_c (sn_aload_n (show decode cX9_coldLine 29 = .ok (.aload_n 0, 1) by decide +kernel) rfl) <|
  ok_c (sn_ldc2 (show decode cX9_coldLine 30 = .ok (.ldc2_w 182, 3) by decide +kernel) wd_7_26) <|
  ok_c (sn_iconst (v := 0) (show decode cX9_coldLine 33 = .ok (.iconst 0, 1) by decide +kernel) (by decide +kernel)) <|
  ok_c (sn_bipush (v := 11) (show decode cX9_coldLine 34 = .ok (.bipush 11, 2) by decide +kernel) (by decide +kernel)) <|
  ok_c (sn_iast (show decode cX9_coldLine 39 = .ok (.iastore, 1) by decide +kernel)) <|
  ok_c (sn_aload_n (show decode cX9_coldLine 40 = .ok (.aload_n 0, 1) by decide +kernel) rfl) <|
  ok_c (sn_bipush (v := 7) (show decode cX9_coldLine 41 = .ok (.bipush 7, 2) by decide +kernel) (by decide +kernel)) <|
  ok_c (sn_aload_n (show decode cX9_coldLine 43 = .ok (.aload_n 0, 1) by decide +kernel) rfl) <|
  ok_c (sn_bipush (v := 7) (show decode cX9_coldLine 44 = .ok (.bipush 7, 2) by decide +kernel) (by decide +kernel)) <|
  ok_c (sn_iconst (v := 1) (show decode cX9_coldLine 49 = .ok (.iconst 1, 1) by decide +kernel) (by decide +kernel)) <|
  ok_c (sn_iadd (show decode cX9_coldLine 50 = .ok (.iadd, 1) by decide +kernel)) <|
  ok_n
def uX9_coldLine : gCT := [(6, YX9_hasRead, 2, some 9), (18, YX9_personHere, 1, some 9), (36, YX9_number_, 4, some 9), (46, YX9_hasRead, 2, some 9), (51, YX9_tells, 3, some 9)]
set_option maxRecDepth 100000 in
theorem ocX9_coldLine : gOkC YX9_coldLine uX9_coldLine := oc_c (gEdge_V cal_X9_hasRead ck_9 rfl (show decode cX9_coldLine 6 = .ok (.invokevirtual 159, 3) by decide +kernel) wd_6_235 wd_6_237 wp_4_12) <|
  oc_c (gEdge_V cal_X9_personHere ck_9 rfl (show decode cX9_coldLine 18 = .ok (.invokevirtual 176, 3) by decide +kernel) wd_7_11 wd_7_13 wp_4_15) <|
  oc_c (gEdge_V cal_X9_number_ ck_9 rfl (show decode cX9_coldLine 36 = .ok (.invokevirtual 165, 3) by decide +kernel) wd_6_215 wd_6_217 wp_4_8) <|
  oc_c (gEdge_V cal_X9_hasRead ck_9 rfl (show decode cX9_coldLine 46 = .ok (.invokevirtual 159, 3) by decide +kernel) wd_6_235 wd_6_237 wp_4_12) <|
  oc_c (gEdge_V cal_X9_tells ck_9 rfl (show decode cX9_coldLine 51 = .ok (.invokevirtual 172, 3) by decide +kernel) wd_6_172 wd_6_174 wp_3_15) <|
  oc_n
theorem reX9_coldLine : ∀ pc ∈ [54], decode cX9_coldLine pc = .ok (.return_, 1) := by decide +kernel
def tX9_isRoom : List (Nat × gStp) := [(0, i_iload 1 1), (1, i_if_eq 18 4), (4, i_aload 0 5), (5, i_iload 2 6), (9, i_iload 3 10), (10, i_ic_ne 18 13), (13, i_aload 0 14), (14, i_push (.int 3) 15), (18, i_iload 1 19), (19, i_if_eq 33 22), (22, i_aload 0 23), (23, i_getI 9 12 26), (26, i_if_ne 33 29), (29, i_aload 0 30), (33, i_iload 1 34), (34, i_if_eq 48 37), (37, i_aload 0 38), (38, i_getI 9 12 41), (41, i_if_ne 48 44), (44, i_push (.int 1) 45), (45, i_goto 49), (48, i_push (.int 0) 49)]
set_option maxRecDepth 100000 in
theorem okX9_isRoom : gOk YX9_isRoom tX9_isRoom := ok_c (sn_iload_n (show decode cX9_isRoom 0 = .ok (.iload_n 1, 1) by decide +kernel) rfl) <|
  ok_c (sn_if_eq (show decode cX9_isRoom 1 = .ok (.ifCond .eq 17, 3) by decide +kernel) (by decide)) <|
  ok_c (sn_aload_n (show decode cX9_isRoom 4 = .ok (.aload_n 0, 1) by decide +kernel) rfl) <|
  ok_c (sn_iload_n (show decode cX9_isRoom 5 = .ok (.iload_n 2, 1) by decide +kernel) rfl) <|
  ok_c (sn_iload_n (show decode cX9_isRoom 9 = .ok (.iload_n 3, 1) by decide +kernel) rfl) <|
  ok_c (sn_ic_ne (show decode cX9_isRoom 10 = .ok (.if_icmp .ne 8, 3) by decide +kernel) (by decide)) <|
  ok_c (sn_aload_n (show decode cX9_isRoom 13 = .ok (.aload_n 0, 1) by decide +kernel) rfl) <|
  ok_c (sn_iconst (v := 3) (show decode cX9_isRoom 14 = .ok (.iconst 3, 1) by decide +kernel) (by decide +kernel)) <|
  ok_c (sn_iload_n (show decode cX9_isRoom 18 = .ok (.iload_n 1, 1) by decide +kernel) rfl) <|
  ok_c (sn_if_eq (show decode cX9_isRoom 19 = .ok (.ifCond .eq 14, 3) by decide +kernel) (by decide)) <|
  ok_c (sn_aload_n (show decode cX9_isRoom 22 = .ok (.aload_n 0, 1) by decide +kernel) rfl) <|
  ok_c (sn_getI (fun _ _ => rfl) (sn_get ck_9 (by decide) (show decode cX9_isRoom 23 = .ok (.getfield 129, 3) by decide +kernel) wd_5_229)) <|
  ok_c (sn_if_ne (show decode cX9_isRoom 26 = .ok (.ifCond .ne 7, 3) by decide +kernel) (by decide)) <|
  ok_c (sn_aload_n (show decode cX9_isRoom 29 = .ok (.aload_n 0, 1) by decide +kernel) rfl) <|
  ok_c (sn_iload_n (show decode cX9_isRoom 33 = .ok (.iload_n 1, 1) by decide +kernel) rfl) <|
  ok_c (sn_if_eq (show decode cX9_isRoom 34 = .ok (.ifCond .eq 14, 3) by decide +kernel) (by decide)) <|
  ok_c (sn_aload_n (show decode cX9_isRoom 37 = .ok (.aload_n 0, 1) by decide +kernel) rfl) <|
  ok_c (sn_getI (fun _ _ => rfl) (sn_get ck_9 (by decide) (show decode cX9_isRoom 38 = .ok (.getfield 129, 3) by decide +kernel) wd_5_229)) <|
  ok_c (sn_if_ne (show decode cX9_isRoom 41 = .ok (.ifCond .ne 7, 3) by decide +kernel) (by decide)) <|
  ok_c (sn_iconst (v := 1) (show decode cX9_isRoom 44 = .ok (.iconst 1, 1) by decide +kernel) (by decide +kernel)) <|
  ok_c (sn_goto (show decode cX9_isRoom 45 = .ok (.goto 4, 3) by decide +kernel) (by decide)) <|
  ok_c (sn_iconst (v := 0) (show decode cX9_isRoom 48 = .ok (.iconst 0, 1) by decide +kernel) (by decide +kernel)) <|
  ok_n
def uX9_isRoom : gCT := [(6, YX9_hasRead, 2, some 9), (15, YX9_errs, 2, some 9), (30, YX9_next, 1, some 9)]
set_option maxRecDepth 100000 in
theorem ocX9_isRoom : gOkC YX9_isRoom uX9_isRoom := oc_c (gEdge_V cal_X9_hasRead ck_9 rfl (show decode cX9_isRoom 6 = .ok (.invokevirtual 159, 3) by decide +kernel) wd_6_235 wd_6_237 wp_4_12) <|
  oc_c (gEdge_V cal_X9_errs ck_9 rfl (show decode cX9_isRoom 15 = .ok (.invokevirtual 145, 3) by decide +kernel) wd_6_210 wd_6_212 wp_4_7) <|
  oc_c (gEdge_V cal_X9_next ck_9 rfl (show decode cX9_isRoom 30 = .ok (.invokevirtual 139, 3) by decide +kernel) wd_6_180 wd_6_182 wp_4_1) <|
  oc_n
theorem reX9_isRoom : ∀ pc ∈ [49], decode cX9_isRoom pc = .ok (.ireturn, 1) := by decide +kernel
def tX9_lineHere : List (Nat × gStp) := [(0, i_aload 0 1), (1, i_aload 0 2), (2, i_push (.long 6223046688) 5), (8, i_push (.int 4) 9), (9, i_push (.int 6) 11), (14, i_if_eq 24 17), (17, i_aload 0 18), (21, i_goto 129), (24, i_aload 0 25), (25, i_getI 9 12 28), (28, i_if_ne 55 31), (31, i_aload 0 32), (32, i_aload 0 33), (33, i_push (.long 208022) 36), (39, i_push (.int 5) 40), (40, i_push (.int 7) 42), (45, i_if_eq 55 48), (48, i_aload 0 49), (52, i_goto 129), (55, i_aload 0 56), (56, i_getI 9 12 59), (59, i_if_ne 86 62), (62, i_aload 0 63), (63, i_aload 0 64), (64, i_push (.long 90090) 67), (70, i_push (.int 6) 72), (72, i_push (.int 5) 73), (76, i_if_eq 86 79), (79, i_aload 0 80), (83, i_goto 129), (86, i_aload 0 87), (87, i_getI 9 12 90), (90, i_if_ne 117 93), (93, i_aload 0 94), (94, i_aload 0 95), (95, i_push (.long 70312) 98), (101, i_push (.int 7) 103), (103, i_push (.int 5) 104), (107, i_if_eq 117 110), (110, i_aload 0 111), (114, i_goto 129), (117, i_aload 0 118), (118, i_getI 9 12 121), (121, i_if_ne 129 124), (124, i_aload 0 125), (125, i_push (.int 1) 126)]
set_option maxRecDepth 100000 in
theorem okX9_lineHere : gOk YX9_lineHere tX9_lineHere := ok_c (sn_aload_n (show decode cX9_lineHere 0 = .ok (.aload_n 0, 1) by decide +kernel) rfl) <|
  ok_c (sn_aload_n (show decode cX9_lineHere 1 = .ok (.aload_n 0, 1) by decide +kernel) rfl) <|
  ok_c (sn_ldc2 (show decode cX9_lineHere 2 = .ok (.ldc2_w 184, 3) by decide +kernel) wd_6_230) <|
  ok_c (sn_iconst (v := 4) (show decode cX9_lineHere 8 = .ok (.iconst 4, 1) by decide +kernel) (by decide +kernel)) <|
  ok_c (sn_bipush (v := 6) (show decode cX9_lineHere 9 = .ok (.bipush 6, 2) by decide +kernel) (by decide +kernel)) <|
  ok_c (sn_if_eq (show decode cX9_lineHere 14 = .ok (.ifCond .eq 10, 3) by decide +kernel) (by decide)) <|
  ok_c (sn_aload_n (show decode cX9_lineHere 17 = .ok (.aload_n 0, 1) by decide +kernel) rfl) <|
  ok_c (sn_goto (show decode cX9_lineHere 21 = .ok (.goto 108, 3) by decide +kernel) (by decide)) <|
  ok_c (sn_aload_n (show decode cX9_lineHere 24 = .ok (.aload_n 0, 1) by decide +kernel) rfl) <|
  ok_c (sn_getI (fun _ _ => rfl) (sn_get ck_9 (by decide) (show decode cX9_lineHere 25 = .ok (.getfield 129, 3) by decide +kernel) wd_5_229)) <|
  ok_c (sn_if_ne (show decode cX9_lineHere 28 = .ok (.ifCond .ne 27, 3) by decide +kernel) (by decide)) <|
  ok_c (sn_aload_n (show decode cX9_lineHere 31 = .ok (.aload_n 0, 1) by decide +kernel) rfl) <|
  ok_c (sn_aload_n (show decode cX9_lineHere 32 = .ok (.aload_n 0, 1) by decide +kernel) rfl) <|
  ok_c (sn_ldc2 (show decode cX9_lineHere 33 = .ok (.ldc2_w 193, 3) by decide +kernel) wd_7_6) <|
  ok_c (sn_iconst (v := 5) (show decode cX9_lineHere 39 = .ok (.iconst 5, 1) by decide +kernel) (by decide +kernel)) <|
  ok_c (sn_bipush (v := 7) (show decode cX9_lineHere 40 = .ok (.bipush 7, 2) by decide +kernel) (by decide +kernel)) <|
  ok_c (sn_if_eq (show decode cX9_lineHere 45 = .ok (.ifCond .eq 10, 3) by decide +kernel) (by decide)) <|
  ok_c (sn_aload_n (show decode cX9_lineHere 48 = .ok (.aload_n 0, 1) by decide +kernel) rfl) <|
  ok_c (sn_goto (show decode cX9_lineHere 52 = .ok (.goto 77, 3) by decide +kernel) (by decide)) <|
  ok_c (sn_aload_n (show decode cX9_lineHere 55 = .ok (.aload_n 0, 1) by decide +kernel) rfl) <|
  ok_c (sn_getI (fun _ _ => rfl) (sn_get ck_9 (by decide) (show decode cX9_lineHere 56 = .ok (.getfield 129, 3) by decide +kernel) wd_5_229)) <|
  ok_c (sn_if_ne (show decode cX9_lineHere 59 = .ok (.ifCond .ne 27, 3) by decide +kernel) (by decide)) <|
  ok_c (sn_aload_n (show decode cX9_lineHere 62 = .ok (.aload_n 0, 1) by decide +kernel) rfl) <|
  ok_c (sn_aload_n (show decode cX9_lineHere 63 = .ok (.aload_n 0, 1) by decide +kernel) rfl) <|
  ok_c (sn_ldc2 (show decode cX9_lineHere 64 = .ok (.ldc2_w 198, 3) by decide +kernel) wd_7_16) <|
  ok_c (sn_bipush (v := 6) (show decode cX9_lineHere 70 = .ok (.bipush 6, 2) by decide +kernel) (by decide +kernel)) <|
  ok_c (sn_iconst (v := 5) (show decode cX9_lineHere 72 = .ok (.iconst 5, 1) by decide +kernel) (by decide +kernel)) <|
  ok_c (sn_if_eq (show decode cX9_lineHere 76 = .ok (.ifCond .eq 10, 3) by decide +kernel) (by decide)) <|
  ok_c (sn_aload_n (show decode cX9_lineHere 79 = .ok (.aload_n 0, 1) by decide +kernel) rfl) <|
  ok_c (sn_goto (show decode cX9_lineHere 83 = .ok (.goto 46, 3) by decide +kernel) (by decide)) <|
  ok_c (sn_aload_n (show decode cX9_lineHere 86 = .ok (.aload_n 0, 1) by decide +kernel) rfl) <|
  ok_c (sn_getI (fun _ _ => rfl) (sn_get ck_9 (by decide) (show decode cX9_lineHere 87 = .ok (.getfield 129, 3) by decide +kernel) wd_5_229)) <|
  ok_c (sn_if_ne (show decode cX9_lineHere 90 = .ok (.ifCond .ne 27, 3) by decide +kernel) (by decide)) <|
  ok_c (sn_aload_n (show decode cX9_lineHere 93 = .ok (.aload_n 0, 1) by decide +kernel) rfl) <|
  ok_c (sn_aload_n (show decode cX9_lineHere 94 = .ok (.aload_n 0, 1) by decide +kernel) rfl) <|
  ok_c (sn_ldc2 (show decode cX9_lineHere 95 = .ok (.ldc2_w 203, 3) by decide +kernel) wd_7_21) <|
  ok_c (sn_bipush (v := 7) (show decode cX9_lineHere 101 = .ok (.bipush 7, 2) by decide +kernel) (by decide +kernel)) <|
  ok_c (sn_iconst (v := 5) (show decode cX9_lineHere 103 = .ok (.iconst 5, 1) by decide +kernel) (by decide +kernel)) <|
  ok_c (sn_if_eq (show decode cX9_lineHere 107 = .ok (.ifCond .eq 10, 3) by decide +kernel) (by decide)) <|
  ok_c (sn_aload_n (show decode cX9_lineHere 110 = .ok (.aload_n 0, 1) by decide +kernel) rfl) <|
  ok_c (sn_goto (show decode cX9_lineHere 114 = .ok (.goto 15, 3) by decide +kernel) (by decide)) <|
  ok_c (sn_aload_n (show decode cX9_lineHere 117 = .ok (.aload_n 0, 1) by decide +kernel) rfl) <|
  ok_c (sn_getI (fun _ _ => rfl) (sn_get ck_9 (by decide) (show decode cX9_lineHere 118 = .ok (.getfield 129, 3) by decide +kernel) wd_5_229)) <|
  ok_c (sn_if_ne (show decode cX9_lineHere 121 = .ok (.ifCond .ne 8, 3) by decide +kernel) (by decide)) <|
  ok_c (sn_aload_n (show decode cX9_lineHere 124 = .ok (.aload_n 0, 1) by decide +kernel) rfl) <|
  ok_c (sn_iconst (v := 1) (show decode cX9_lineHere 125 = .ok (.iconst 1, 1) by decide +kernel) (by decide +kernel)) <|
  ok_n
def uX9_lineHere : gCT := [(5, YX9_is, 2, some 9), (11, YX9_isRoom, 4, some 9), (18, YX9_partnerLine, 1, some 9), (36, YX9_is, 2, some 9), (42, YX9_isRoom, 4, some 9), (49, YX9_joinLine, 1, some 9), (67, YX9_is, 2, some 9), (73, YX9_isRoom, 4, some 9), (80, YX9_doorLine, 1, some 9), (98, YX9_is, 2, some 9), (104, YX9_isRoom, 4, some 9), (111, YX9_coldLine, 1, some 9), (126, YX9_errs, 2, some 9)]
set_option maxRecDepth 100000 in
theorem ocX9_lineHere : gOkC YX9_lineHere uX9_lineHere := oc_c (gEdge_V cal_X9_is ck_9 rfl (show decode cX9_lineHere 5 = .ok (.invokevirtual 135, 3) by decide +kernel) wd_6_206 wd_6_208 wp_4_6) <|
  oc_c (gEdge_V cal_X9_isRoom ck_9 rfl (show decode cX9_lineHere 11 = .ok (.invokevirtual 186, 3) by decide +kernel) wd_6_231 wd_6_233 wp_4_11) <|
  oc_c (gEdge_V cal_X9_partnerLine ck_9 rfl (show decode cX9_lineHere 18 = .ok (.invokevirtual 190, 3) by decide +kernel) wd_6_239 wd_7_1 wp_4_13) <|
  oc_c (gEdge_V cal_X9_is ck_9 rfl (show decode cX9_lineHere 36 = .ok (.invokevirtual 135, 3) by decide +kernel) wd_6_206 wd_6_208 wp_4_6) <|
  oc_c (gEdge_V cal_X9_isRoom ck_9 rfl (show decode cX9_lineHere 42 = .ok (.invokevirtual 186, 3) by decide +kernel) wd_6_231 wd_6_233 wp_4_11) <|
  oc_c (gEdge_V cal_X9_joinLine ck_9 rfl (show decode cX9_lineHere 49 = .ok (.invokevirtual 195, 3) by decide +kernel) wd_7_7 wd_7_9 wp_4_14) <|
  oc_c (gEdge_V cal_X9_is ck_9 rfl (show decode cX9_lineHere 67 = .ok (.invokevirtual 135, 3) by decide +kernel) wd_6_206 wd_6_208 wp_4_6) <|
  oc_c (gEdge_V cal_X9_isRoom ck_9 rfl (show decode cX9_lineHere 73 = .ok (.invokevirtual 186, 3) by decide +kernel) wd_6_231 wd_6_233 wp_4_11) <|
  oc_c (gEdge_V cal_X9_doorLine ck_9 rfl (show decode cX9_lineHere 80 = .ok (.invokevirtual 200, 3) by decide +kernel) wd_7_17 wd_7_19 wp_5_0) <|
  oc_c (gEdge_V cal_X9_is ck_9 rfl (show decode cX9_lineHere 98 = .ok (.invokevirtual 135, 3) by decide +kernel) wd_6_206 wd_6_208 wp_4_6) <|
  oc_c (gEdge_V cal_X9_isRoom ck_9 rfl (show decode cX9_lineHere 104 = .ok (.invokevirtual 186, 3) by decide +kernel) wd_6_231 wd_6_233 wp_4_11) <|
  oc_c (gEdge_V cal_X9_coldLine ck_9 rfl (show decode cX9_lineHere 111 = .ok (.invokevirtual 205, 3) by decide +kernel) wd_7_22 wd_7_24 wp_5_1) <|
  oc_c (gEdge_V cal_X9_errs ck_9 rfl (show decode cX9_lineHere 126 = .ok (.invokevirtual 145, 3) by decide +kernel) wd_6_210 wd_6_212 wp_4_7) <|
  oc_n
theorem reX9_lineHere : ∀ pc ∈ [129], decode cX9_lineHere pc = .ok (.return_, 1) := by decide +kernel
def tX9_clears : List (Nat × gStp) := [(0, i_aload 0 1), (1, i_getC 9 147 4), (4, i_push (.int 4) 5), (5, i_push (.int 0) 6), (6, i_iast 7), (7, i_push (.int 0) 8), (8, i_istore 1 9), (9, i_iload 1 10), (10, i_push (.int 9) 12), (12, i_ic_ge 27 15), (15, i_aload 0 16), (16, i_iload 1 17), (17, i_push (.int 0) 18), (21, i_iinc 1 1 24), (24, i_goto 9)]
set_option maxRecDepth 100000 in
theorem okX9_clears : gOk YX9_clears tX9_clears := ok_c (sn_aload_n (show decode cX9_clears 0 = .ok (.aload_n 0, 1) by decide +kernel) rfl) <|
  ok_c (sn_getC (j := 16) (fun _ _ => rfl) (sn_get ck_9 (by decide) (show decode cX9_clears 1 = .ok (.getfield 31, 3) by decide +kernel) wd_5_233)) <|
  ok_c (sn_iconst (v := 4) (show decode cX9_clears 4 = .ok (.iconst 4, 1) by decide +kernel) (by decide +kernel)) <|
  ok_c (sn_iconst (v := 0) (show decode cX9_clears 5 = .ok (.iconst 0, 1) by decide +kernel) (by decide +kernel)) <|
  ok_c (sn_iast (show decode cX9_clears 6 = .ok (.iastore, 1) by decide +kernel)) <|
  ok_c (sn_iconst (v := 0) (show decode cX9_clears 7 = .ok (.iconst 0, 1) by decide +kernel) (by decide +kernel)) <|
  ok_c (sn_istore_n (show decode cX9_clears 8 = .ok (.istore_n 1, 1) by decide +kernel) rfl (by decide)) <|
  ok_c (sn_iload_n (show decode cX9_clears 9 = .ok (.iload_n 1, 1) by decide +kernel) rfl) <|
  ok_c (sn_bipush (v := 9) (show decode cX9_clears 10 = .ok (.bipush 9, 2) by decide +kernel) (by decide +kernel)) <|
  ok_c (sn_ic_ge (show decode cX9_clears 12 = .ok (.if_icmp .ge 15, 3) by decide +kernel) (by decide)) <|
  ok_c (sn_aload_n (show decode cX9_clears 15 = .ok (.aload_n 0, 1) by decide +kernel) rfl) <|
  ok_c (sn_iload_n (show decode cX9_clears 16 = .ok (.iload_n 1, 1) by decide +kernel) rfl) <|
  ok_c (sn_iconst (v := 0) (show decode cX9_clears 17 = .ok (.iconst 0, 1) by decide +kernel) (by decide +kernel)) <|
  ok_c (sn_iinc (show decode cX9_clears 21 = .ok (.iinc 1 1, 3) by decide +kernel) (by decide) (by decide +kernel)) <|
  ok_c (sn_goto (show decode cX9_clears 24 = .ok (.goto (-15), 3) by decide +kernel) (by decide)) <|
  ok_n
def uX9_clears : gCT := [(18, YX9_tells, 3, some 9)]
set_option maxRecDepth 100000 in
theorem ocX9_clears : gOkC YX9_clears uX9_clears := oc_c (gEdge_V cal_X9_tells ck_9 rfl (show decode cX9_clears 18 = .ok (.invokevirtual 172, 3) by decide +kernel) wd_6_172 wd_6_174 wp_3_15) <|
  oc_n
theorem reX9_clears : ∀ pc ∈ [27], decode cX9_clears pc = .ok (.return_, 1) := by decide +kernel
def tX9_city : List (Nat × gStp) := [(0, i_aload 0 1), (1, i_push (.int 0) 2), (2, i_putI 9 0 5), (5, i_aload 0 6), (9, i_aload 0 10), (13, i_aload 0 14), (17, i_if_eq 133 20), (20, i_aload 0 21), (21, i_getI 9 8 24), (24, i_if_eq 133 27), (27, i_aload 0 28), (28, i_getC 9 147 31), (31, i_push (.int 4) 32), (32, i_iald 33), (33, i_if_ne 105 36), (36, i_aload 0 37), (37, i_push (.long 66175) 40), (43, i_aload 0 44), (44, i_push (.int 0) 45), (45, i_aload 0 46), (46, i_push (.long 13385674) 49), (49, i_push (.int 1) 50), (50, i_push (.int 12) 52), (58, i_aload 0 59), (59, i_push (.int 1) 60), (60, i_aload 0 61), (61, i_push (.long 8798) 64), (64, i_push (.int 0) 65), (65, i_push (.int 3) 66), (72, i_aload 0 73), (73, i_push (.int 2) 74), (74, i_aload 0 75), (75, i_push (.long 10349251) 78), (78, i_push (.int 0) 79), (79, i_push (.int 20) 81), (87, i_aload 0 88), (88, i_push (.int 3) 89), (89, i_aload 0 90), (90, i_push (.long 298288) 93), (93, i_push (.int 0) 94), (94, i_push (.int 10) 96), (102, i_goto 109), (105, i_aload 0 106), (109, i_aload 0 110), (113, i_if_eq 120 116), (116, i_aload 0 117), (120, i_aload 0 121), (121, i_getC 9 147 124), (124, i_push (.int 4) 125), (125, i_dup2 126), (126, i_iald 127), (127, i_push (.int 1) 128), (128, i_ii (fun x y => x + y) 129), (129, i_iast 130), (130, i_goto 13), (133, i_aload 0 134), (137, i_aload 0 138), (138, i_getI 9 12 141), (141, i_if_eq 147 144), (144, i_push (.int (-4)) 146), (147, i_aload 0 148), (148, i_push (.int 4) 149), (149, i_push (.int 0) 150), (153, i_aload 0 154), (154, i_getC 9 147 157), (157, i_push (.int 0) 158), (158, i_iald 159)]
set_option maxRecDepth 100000 in
theorem okX9_city : gOk YX9_city tX9_city := ok_c (sn_aload_n (show decode cX9_city 0 = .ok (.aload_n 0, 1) by decide +kernel) rfl) <|
  ok_c (sn_iconst (v := 0) (show decode cX9_city 1 = .ok (.iconst 0, 1) by decide +kernel) (by decide +kernel)) <|
  ok_c (sn_putI ck_9 (by decide) rfl rfl (show decode cX9_city 2 = .ok (.putfield 77, 3) by decide +kernel) wd_5_217) <|
  ok_c (sn_aload_n (show decode cX9_city 5 = .ok (.aload_n 0, 1) by decide +kernel) rfl) <|
  ok_c (sn_aload_n (show decode cX9_city 9 = .ok (.aload_n 0, 1) by decide +kernel) rfl) <|
  ok_c (sn_aload_n (show decode cX9_city 13 = .ok (.aload_n 0, 1) by decide +kernel) rfl) <|
  ok_c (sn_if_eq (show decode cX9_city 17 = .ok (.ifCond .eq 116, 3) by decide +kernel) (by decide)) <|
  ok_c (sn_aload_n (show decode cX9_city 20 = .ok (.aload_n 0, 1) by decide +kernel) rfl) <|
  ok_c (sn_getI (fun _ _ => rfl) (sn_get ck_9 (by decide) (show decode cX9_city 21 = .ok (.getfield 118, 3) by decide +kernel) wd_5_225)) <|
  ok_c (sn_if_eq (show decode cX9_city 24 = .ok (.ifCond .eq 109, 3) by decide +kernel) (by decide)) <|
  ok_c (sn_aload_n (show decode cX9_city 27 = .ok (.aload_n 0, 1) by decide +kernel) rfl) <|
  ok_c (sn_getC (j := 16) (fun _ _ => rfl) (sn_get ck_9 (by decide) (show decode cX9_city 28 = .ok (.getfield 31, 3) by decide +kernel) wd_5_233)) <|
  ok_c (sn_iconst (v := 4) (show decode cX9_city 31 = .ok (.iconst 4, 1) by decide +kernel) (by decide +kernel)) <|
  ok_c (sn_iald (show decode cX9_city 32 = .ok (.iaload, 1) by decide +kernel)) <|
  ok_c (sn_if_ne (show decode cX9_city 33 = .ok (.ifCond .ne 72, 3) by decide +kernel) (by decide)) <|
  ok_c (sn_aload_n (show decode cX9_city 36 = .ok (.aload_n 0, 1) by decide +kernel) rfl) <|
  ok_c (sn_ldc2 (show decode cX9_city 37 = .ok (.ldc2_w 218, 3) by decide +kernel) wd_6_197) <|
  ok_c (sn_aload_n (show decode cX9_city 43 = .ok (.aload_n 0, 1) by decide +kernel) rfl) <|
  ok_c (sn_iconst (v := 0) (show decode cX9_city 44 = .ok (.iconst 0, 1) by decide +kernel) (by decide +kernel)) <|
  ok_c (sn_aload_n (show decode cX9_city 45 = .ok (.aload_n 0, 1) by decide +kernel) rfl) <|
  ok_c (sn_ldc2 (show decode cX9_city 46 = .ok (.ldc2_w 220, 3) by decide +kernel) wd_6_214) <|
  ok_c (sn_iconst (v := 1) (show decode cX9_city 49 = .ok (.iconst 1, 1) by decide +kernel) (by decide +kernel)) <|
  ok_c (sn_bipush (v := 12) (show decode cX9_city 50 = .ok (.bipush 12, 2) by decide +kernel) (by decide +kernel)) <|
  ok_c (sn_aload_n (show decode cX9_city 58 = .ok (.aload_n 0, 1) by decide +kernel) rfl) <|
  ok_c (sn_iconst (v := 1) (show decode cX9_city 59 = .ok (.iconst 1, 1) by decide +kernel) (by decide +kernel)) <|
  ok_c (sn_aload_n (show decode cX9_city 60 = .ok (.aload_n 0, 1) by decide +kernel) rfl) <|
  ok_c (sn_ldc2 (show decode cX9_city 61 = .ok (.ldc2_w 222, 3) by decide +kernel) wd_6_223) <|
  ok_c (sn_iconst (v := 0) (show decode cX9_city 64 = .ok (.iconst 0, 1) by decide +kernel) (by decide +kernel)) <|
  ok_c (sn_iconst (v := 3) (show decode cX9_city 65 = .ok (.iconst 3, 1) by decide +kernel) (by decide +kernel)) <|
  ok_c (sn_aload_n (show decode cX9_city 72 = .ok (.aload_n 0, 1) by decide +kernel) rfl) <|
  ok_c (sn_iconst (v := 2) (show decode cX9_city 73 = .ok (.iconst 2, 1) by decide +kernel) (by decide +kernel)) <|
  ok_c (sn_aload_n (show decode cX9_city 74 = .ok (.aload_n 0, 1) by decide +kernel) rfl) <|
  ok_c (sn_ldc2 (show decode cX9_city 75 = .ok (.ldc2_w 224, 3) by decide +kernel) wd_6_224) <|
  ok_c (sn_iconst (v := 0) (show decode cX9_city 78 = .ok (.iconst 0, 1) by decide +kernel) (by decide +kernel)) <|
  ok_c (sn_bipush (v := 20) (show decode cX9_city 79 = .ok (.bipush 20, 2) by decide +kernel) (by decide +kernel)) <|
  ok_c (sn_aload_n (show decode cX9_city 87 = .ok (.aload_n 0, 1) by decide +kernel) rfl) <|
  ok_c (sn_iconst (v := 3) (show decode cX9_city 88 = .ok (.iconst 3, 1) by decide +kernel) (by decide +kernel)) <|
  ok_c (sn_aload_n (show decode cX9_city 89 = .ok (.aload_n 0, 1) by decide +kernel) rfl) <|
  ok_c (sn_ldc2 (show decode cX9_city 90 = .ok (.ldc2_w 226, 3) by decide +kernel) wd_6_225) <|
  ok_c (sn_iconst (v := 0) (show decode cX9_city 93 = .ok (.iconst 0, 1) by decide +kernel) (by decide +kernel)) <|
  ok_c (sn_bipush (v := 10) (show decode cX9_city 94 = .ok (.bipush 10, 2) by decide +kernel) (by decide +kernel)) <|
  ok_c (sn_goto (show decode cX9_city 102 = .ok (.goto 7, 3) by decide +kernel) (by decide)) <|
  ok_c (sn_aload_n (show decode cX9_city 105 = .ok (.aload_n 0, 1) by decide +kernel) rfl) <|
  ok_c (sn_aload_n (show decode cX9_city 109 = .ok (.aload_n 0, 1) by decide +kernel) rfl) <|
  ok_c (sn_if_eq (show decode cX9_city 113 = .ok (.ifCond .eq 7, 3) by decide +kernel) (by decide)) <|
  ok_c (sn_aload_n (show decode cX9_city 116 = .ok (.aload_n 0, 1) by decide +kernel) rfl) <|
  ok_c (sn_aload_n (show decode cX9_city 120 = .ok (.aload_n 0, 1) by decide +kernel) rfl) <|
  ok_c (sn_getC (j := 16) (fun _ _ => rfl) (sn_get ck_9 (by decide) (show decode cX9_city 121 = .ok (.getfield 31, 3) by decide +kernel) wd_5_233)) <|
  ok_c (sn_iconst (v := 4) (show decode cX9_city 124 = .ok (.iconst 4, 1) by decide +kernel) (by decide +kernel)) <|
  ok_c (sn_dup2 (show decode cX9_city 125 = .ok (.dup2, 1) by decide +kernel)) <|
  ok_c (sn_iald (show decode cX9_city 126 = .ok (.iaload, 1) by decide +kernel)) <|
  ok_c (sn_iconst (v := 1) (show decode cX9_city 127 = .ok (.iconst 1, 1) by decide +kernel) (by decide +kernel)) <|
  ok_c (sn_iadd (show decode cX9_city 128 = .ok (.iadd, 1) by decide +kernel)) <|
  ok_c (sn_iast (show decode cX9_city 129 = .ok (.iastore, 1) by decide +kernel)) <|
  ok_c (sn_goto (show decode cX9_city 130 = .ok (.goto (-117), 3) by decide +kernel) (by decide)) <|
  ok_c (sn_aload_n (show decode cX9_city 133 = .ok (.aload_n 0, 1) by decide +kernel) rfl) <|
  ok_c (sn_aload_n (show decode cX9_city 137 = .ok (.aload_n 0, 1) by decide +kernel) rfl) <|
  ok_c (sn_getI (fun _ _ => rfl) (sn_get ck_9 (by decide) (show decode cX9_city 138 = .ok (.getfield 129, 3) by decide +kernel) wd_5_229)) <|
  ok_c (sn_if_eq (show decode cX9_city 141 = .ok (.ifCond .eq 6, 3) by decide +kernel) (by decide)) <|
  ok_c (sn_bipush (v := (-4)) (show decode cX9_city 144 = .ok (.bipush (-4), 2) by decide +kernel) (by decide +kernel)) <|
  ok_c (sn_aload_n (show decode cX9_city 147 = .ok (.aload_n 0, 1) by decide +kernel) rfl) <|
  ok_c (sn_iconst (v := 4) (show decode cX9_city 148 = .ok (.iconst 4, 1) by decide +kernel) (by decide +kernel)) <|
  ok_c (sn_iconst (v := 0) (show decode cX9_city 149 = .ok (.iconst 0, 1) by decide +kernel) (by decide +kernel)) <|
  ok_c (sn_aload_n (show decode cX9_city 153 = .ok (.aload_n 0, 1) by decide +kernel) rfl) <|
  ok_c (sn_getC (j := 16) (fun _ _ => rfl) (sn_get ck_9 (by decide) (show decode cX9_city 154 = .ok (.getfield 31, 3) by decide +kernel) wd_5_233)) <|
  ok_c (sn_iconst (v := 0) (show decode cX9_city 157 = .ok (.iconst 0, 1) by decide +kernel) (by decide +kernel)) <|
  ok_c (sn_iald (show decode cX9_city 158 = .ok (.iaload, 1) by decide +kernel)) <|
  ok_n
def uX9_city : gCT := [(6, YX9_clears, 1, some 9), (10, YX9_begins, 1, some 9), (14, YX9_isGood, 1, some 9), (40, YX9_asks, 2, some 9), (52, YX9_number_, 4, some 9), (55, YX9_tells, 3, some 9), (66, YX9_number_, 4, some 9), (69, YX9_tells, 3, some 9), (81, YX9_number_, 4, some 9), (84, YX9_tells, 3, some 9), (96, YX9_number_, 4, some 9), (99, YX9_tells, 3, some 9), (106, YX9_lineHere, 1, some 9), (110, YX9_isGood, 1, some 9), (117, YX9_ends, 1, some 9), (134, YX9_isOver, 1, some 9), (150, YX9_copyCity, 3, some 9)]
set_option maxRecDepth 100000 in
theorem ocX9_city : gOkC YX9_city uX9_city := oc_c (gEdge_V cal_X9_clears ck_9 rfl (show decode cX9_city 6 = .ok (.invokevirtual 208, 3) by decide +kernel) wd_6_168 wd_6_170 wp_3_14) <|
  oc_c (gEdge_V cal_X9_begins ck_9 rfl (show decode cX9_city 10 = .ok (.invokevirtual 211, 3) by decide +kernel) wd_6_176 wd_6_178 wp_4_0) <|
  oc_c (gEdge_V cal_X9_isGood ck_9 rfl (show decode cX9_city 14 = .ok (.invokevirtual 214, 3) by decide +kernel) wd_6_193 wd_6_195 wp_4_3) <|
  oc_c (gEdge_V cal_X9_asks ck_9 rfl (show decode cX9_city 40 = .ok (.invokevirtual 148, 3) by decide +kernel) wd_6_198 wd_6_200 wp_4_4) <|
  oc_c (gEdge_V cal_X9_number_ ck_9 rfl (show decode cX9_city 52 = .ok (.invokevirtual 165, 3) by decide +kernel) wd_6_215 wd_6_217 wp_4_8) <|
  oc_c (gEdge_V cal_X9_tells ck_9 rfl (show decode cX9_city 55 = .ok (.invokevirtual 172, 3) by decide +kernel) wd_6_172 wd_6_174 wp_3_15) <|
  oc_c (gEdge_V cal_X9_number_ ck_9 rfl (show decode cX9_city 66 = .ok (.invokevirtual 165, 3) by decide +kernel) wd_6_215 wd_6_217 wp_4_8) <|
  oc_c (gEdge_V cal_X9_tells ck_9 rfl (show decode cX9_city 69 = .ok (.invokevirtual 172, 3) by decide +kernel) wd_6_172 wd_6_174 wp_3_15) <|
  oc_c (gEdge_V cal_X9_number_ ck_9 rfl (show decode cX9_city 81 = .ok (.invokevirtual 165, 3) by decide +kernel) wd_6_215 wd_6_217 wp_4_8) <|
  oc_c (gEdge_V cal_X9_tells ck_9 rfl (show decode cX9_city 84 = .ok (.invokevirtual 172, 3) by decide +kernel) wd_6_172 wd_6_174 wp_3_15) <|
  oc_c (gEdge_V cal_X9_number_ ck_9 rfl (show decode cX9_city 96 = .ok (.invokevirtual 165, 3) by decide +kernel) wd_6_215 wd_6_217 wp_4_8) <|
  oc_c (gEdge_V cal_X9_tells ck_9 rfl (show decode cX9_city 99 = .ok (.invokevirtual 172, 3) by decide +kernel) wd_6_172 wd_6_174 wp_3_15) <|
  oc_c (gEdge_V cal_X9_lineHere ck_9 rfl (show decode cX9_city 106 = .ok (.invokevirtual 228, 3) by decide +kernel) wd_6_226 wd_6_228 wp_4_10) <|
  oc_c (gEdge_V cal_X9_isGood ck_9 rfl (show decode cX9_city 110 = .ok (.invokevirtual 214, 3) by decide +kernel) wd_6_193 wd_6_195 wp_4_3) <|
  oc_c (gEdge_V cal_X9_ends ck_9 rfl (show decode cX9_city 117 = .ok (.invokevirtual 231, 3) by decide +kernel) wd_7_27 wd_7_29 wp_5_2) <|
  oc_c (gEdge_V cal_X9_isOver ck_9 rfl (show decode cX9_city 134 = .ok (.invokevirtual 234, 3) by decide +kernel) wd_7_31 wd_7_33 wp_5_3) <|
  oc_c (gEdge_V cal_X9_copyCity ck_9 rfl (show decode cX9_city 150 = .ok (.invokevirtual 237, 3) by decide +kernel) wd_7_35 wd_7_37 wp_5_4) <|
  oc_n
theorem reX9_city : ∀ pc ∈ [146, 159], decode cX9_city pc = .ok (.ireturn, 1) := by decide +kernel
def tX9_copyRow : List (Nat × gStp) := [(0, i_push (.int 0) 1), (1, i_istore 4 3), (3, i_iload 4 5), (5, i_iload 1 6), (6, i_ic_ge 31 9), (9, i_aload 0 10), (10, i_iload 1 11), (11, i_iload 3 12), (12, i_ii (fun x y => x * y) 13), (13, i_iload 4 15), (15, i_ii (fun x y => x + y) 16), (16, i_aload 0 17), (17, i_iload 1 18), (18, i_iload 2 19), (19, i_ii (fun x y => x * y) 20), (20, i_iload 4 22), (22, i_ii (fun x y => x + y) 23), (23, i_iald 24), (24, i_iast 25), (25, i_iinc 4 1 28), (28, i_goto 3)]
set_option maxRecDepth 100000 in
theorem okX9_copyRow : gOk YX9_copyRow tX9_copyRow := ok_c (sn_iconst (v := 0) (show decode cX9_copyRow 0 = .ok (.iconst 0, 1) by decide +kernel) (by decide +kernel)) <|
  ok_c (sn_istore (show decode cX9_copyRow 1 = .ok (.istore 4, 2) by decide +kernel) (by decide)) <|
  ok_c (sn_iload (show decode cX9_copyRow 3 = .ok (.iload 4, 2) by decide +kernel)) <|
  ok_c (sn_iload_n (show decode cX9_copyRow 5 = .ok (.iload_n 1, 1) by decide +kernel) rfl) <|
  ok_c (sn_ic_ge (show decode cX9_copyRow 6 = .ok (.if_icmp .ge 25, 3) by decide +kernel) (by decide)) <|
  ok_c (sn_aload_n (show decode cX9_copyRow 9 = .ok (.aload_n 0, 1) by decide +kernel) rfl) <|
  ok_c (sn_iload_n (show decode cX9_copyRow 10 = .ok (.iload_n 1, 1) by decide +kernel) rfl) <|
  ok_c (sn_iload_n (show decode cX9_copyRow 11 = .ok (.iload_n 3, 1) by decide +kernel) rfl) <|
  ok_c (sn_imul (show decode cX9_copyRow 12 = .ok (.imul, 1) by decide +kernel)) <|
  ok_c (sn_iload (show decode cX9_copyRow 13 = .ok (.iload 4, 2) by decide +kernel)) <|
  ok_c (sn_iadd (show decode cX9_copyRow 15 = .ok (.iadd, 1) by decide +kernel)) <|
  ok_c (sn_aload_n (show decode cX9_copyRow 16 = .ok (.aload_n 0, 1) by decide +kernel) rfl) <|
  ok_c (sn_iload_n (show decode cX9_copyRow 17 = .ok (.iload_n 1, 1) by decide +kernel) rfl) <|
  ok_c (sn_iload_n (show decode cX9_copyRow 18 = .ok (.iload_n 2, 1) by decide +kernel) rfl) <|
  ok_c (sn_imul (show decode cX9_copyRow 19 = .ok (.imul, 1) by decide +kernel)) <|
  ok_c (sn_iload (show decode cX9_copyRow 20 = .ok (.iload 4, 2) by decide +kernel)) <|
  ok_c (sn_iadd (show decode cX9_copyRow 22 = .ok (.iadd, 1) by decide +kernel)) <|
  ok_c (sn_iald (show decode cX9_copyRow 23 = .ok (.iaload, 1) by decide +kernel)) <|
  ok_c (sn_iast (show decode cX9_copyRow 24 = .ok (.iastore, 1) by decide +kernel)) <|
  ok_c (sn_iinc (show decode cX9_copyRow 25 = .ok (.iinc 4 1, 3) by decide +kernel) (by decide) (by decide +kernel)) <|
  ok_c (sn_goto (show decode cX9_copyRow 28 = .ok (.goto (-25), 3) by decide +kernel) (by decide)) <|
  ok_n
theorem reX9_copyRow : ∀ pc ∈ [31], decode cX9_copyRow pc = .ok (.return_, 1) := by decide +kernel
def tX9_copyCity : List (Nat × gStp) := [(0, i_aload 0 1), (1, i_getC 9 147 4), (4, i_push (.int 1) 5), (5, i_iload 1 6), (6, i_iload 2 7), (10, i_aload 0 11), (11, i_getC 9 148 14), (14, i_push (.int 9) 16), (16, i_iload 1 17), (17, i_iload 2 18), (21, i_aload 0 22), (22, i_getC 9 149 25), (25, i_push (.int 18) 27), (27, i_iload 1 28), (28, i_iload 2 29), (32, i_aload 0 33), (33, i_getC 9 150 36), (36, i_push (.int 21) 38), (38, i_iload 1 39), (39, i_iload 2 40), (43, i_aload 0 44), (44, i_getC 9 151 47), (47, i_push (.int 5) 48), (48, i_iload 1 49), (49, i_iload 2 50), (53, i_aload 0 54), (54, i_getC 9 152 57), (57, i_push (.int 10) 59), (59, i_iload 1 60), (60, i_iload 2 61), (64, i_aload 0 65), (65, i_getC 9 153 68), (68, i_push (.int 120) 70), (70, i_iload 1 71), (71, i_iload 2 72)]
set_option maxRecDepth 100000 in
theorem okX9_copyCity : gOk YX9_copyCity tX9_copyCity := ok_c (sn_aload_n (show decode cX9_copyCity 0 = .ok (.aload_n 0, 1) by decide +kernel) rfl) <|
  ok_c (sn_getC (j := 16) (fun _ _ => rfl) (sn_get ck_9 (by decide) (show decode cX9_copyCity 1 = .ok (.getfield 31, 3) by decide +kernel) wd_5_233)) <|
  ok_c (sn_iconst (v := 1) (show decode cX9_copyCity 4 = .ok (.iconst 1, 1) by decide +kernel) (by decide +kernel)) <|
  ok_c (sn_iload_n (show decode cX9_copyCity 5 = .ok (.iload_n 1, 1) by decide +kernel) rfl) <|
  ok_c (sn_iload_n (show decode cX9_copyCity 6 = .ok (.iload_n 2, 1) by decide +kernel) rfl) <|
  ok_c (sn_aload_n (show decode cX9_copyCity 10 = .ok (.aload_n 0, 1) by decide +kernel) rfl) <|
  ok_c (sn_getC (j := 17) (fun _ _ => rfl) (sn_get ck_9 (by decide) (show decode cX9_copyCity 11 = .ok (.getfield 34, 3) by decide +kernel) wd_5_234)) <|
  ok_c (sn_bipush (v := 9) (show decode cX9_copyCity 14 = .ok (.bipush 9, 2) by decide +kernel) (by decide +kernel)) <|
  ok_c (sn_iload_n (show decode cX9_copyCity 16 = .ok (.iload_n 1, 1) by decide +kernel) rfl) <|
  ok_c (sn_iload_n (show decode cX9_copyCity 17 = .ok (.iload_n 2, 1) by decide +kernel) rfl) <|
  ok_c (sn_aload_n (show decode cX9_copyCity 21 = .ok (.aload_n 0, 1) by decide +kernel) rfl) <|
  ok_c (sn_getC (j := 18) (fun _ _ => rfl) (sn_get ck_9 (by decide) (show decode cX9_copyCity 22 = .ok (.getfield 37, 3) by decide +kernel) wd_5_235)) <|
  ok_c (sn_bipush (v := 18) (show decode cX9_copyCity 25 = .ok (.bipush 18, 2) by decide +kernel) (by decide +kernel)) <|
  ok_c (sn_iload_n (show decode cX9_copyCity 27 = .ok (.iload_n 1, 1) by decide +kernel) rfl) <|
  ok_c (sn_iload_n (show decode cX9_copyCity 28 = .ok (.iload_n 2, 1) by decide +kernel) rfl) <|
  ok_c (sn_aload_n (show decode cX9_copyCity 32 = .ok (.aload_n 0, 1) by decide +kernel) rfl) <|
  ok_c (sn_getC (j := 19) (fun _ _ => rfl) (sn_get ck_9 (by decide) (show decode cX9_copyCity 33 = .ok (.getfield 40, 3) by decide +kernel) wd_5_236)) <|
  ok_c (sn_bipush (v := 21) (show decode cX9_copyCity 36 = .ok (.bipush 21, 2) by decide +kernel) (by decide +kernel)) <|
  ok_c (sn_iload_n (show decode cX9_copyCity 38 = .ok (.iload_n 1, 1) by decide +kernel) rfl) <|
  ok_c (sn_iload_n (show decode cX9_copyCity 39 = .ok (.iload_n 2, 1) by decide +kernel) rfl) <|
  ok_c (sn_aload_n (show decode cX9_copyCity 43 = .ok (.aload_n 0, 1) by decide +kernel) rfl) <|
  ok_c (sn_getC (j := 20) (fun _ _ => rfl) (sn_get ck_9 (by decide) (show decode cX9_copyCity 44 = .ok (.getfield 43, 3) by decide +kernel) wd_5_237)) <|
  ok_c (sn_iconst (v := 5) (show decode cX9_copyCity 47 = .ok (.iconst 5, 1) by decide +kernel) (by decide +kernel)) <|
  ok_c (sn_iload_n (show decode cX9_copyCity 48 = .ok (.iload_n 1, 1) by decide +kernel) rfl) <|
  ok_c (sn_iload_n (show decode cX9_copyCity 49 = .ok (.iload_n 2, 1) by decide +kernel) rfl) <|
  ok_c (sn_aload_n (show decode cX9_copyCity 53 = .ok (.aload_n 0, 1) by decide +kernel) rfl) <|
  ok_c (sn_getC (j := 21) (fun _ _ => rfl) (sn_get ck_9 (by decide) (show decode cX9_copyCity 54 = .ok (.getfield 46, 3) by decide +kernel) wd_5_238)) <|
  ok_c (sn_bipush (v := 10) (show decode cX9_copyCity 57 = .ok (.bipush 10, 2) by decide +kernel) (by decide +kernel)) <|
  ok_c (sn_iload_n (show decode cX9_copyCity 59 = .ok (.iload_n 1, 1) by decide +kernel) rfl) <|
  ok_c (sn_iload_n (show decode cX9_copyCity 60 = .ok (.iload_n 2, 1) by decide +kernel) rfl) <|
  ok_c (sn_aload_n (show decode cX9_copyCity 64 = .ok (.aload_n 0, 1) by decide +kernel) rfl) <|
  ok_c (sn_getC (j := 22) (fun _ _ => rfl) (sn_get ck_9 (by decide) (show decode cX9_copyCity 65 = .ok (.getfield 49, 3) by decide +kernel) wd_5_239)) <|
  ok_c (sn_bipush (v := 120) (show decode cX9_copyCity 68 = .ok (.bipush 120, 2) by decide +kernel) (by decide +kernel)) <|
  ok_c (sn_iload_n (show decode cX9_copyCity 70 = .ok (.iload_n 1, 1) by decide +kernel) rfl) <|
  ok_c (sn_iload_n (show decode cX9_copyCity 71 = .ok (.iload_n 2, 1) by decide +kernel) rfl) <|
  ok_n
def uX9_copyCity : gCT := [(7, YX9_copyRow, 4, none), (18, YX9_copyRow, 4, none), (29, YX9_copyRow, 4, none), (40, YX9_copyRow, 4, none), (50, YX9_copyRow, 4, none), (61, YX9_copyRow, 4, none), (72, YX9_copyRow, 4, none)]
set_option maxRecDepth 100000 in
theorem ocX9_copyCity : gOkC YX9_copyCity uX9_copyCity := oc_c (gEdge_S cal_X9_copyRow (show decode cX9_copyCity 7 = .ok (.invokestatic 240, 3) by decide +kernel) wd_7_39 wd_7_40) <|
  oc_c (gEdge_S cal_X9_copyRow (show decode cX9_copyCity 18 = .ok (.invokestatic 240, 3) by decide +kernel) wd_7_39 wd_7_40) <|
  oc_c (gEdge_S cal_X9_copyRow (show decode cX9_copyCity 29 = .ok (.invokestatic 240, 3) by decide +kernel) wd_7_39 wd_7_40) <|
  oc_c (gEdge_S cal_X9_copyRow (show decode cX9_copyCity 40 = .ok (.invokestatic 240, 3) by decide +kernel) wd_7_39 wd_7_40) <|
  oc_c (gEdge_S cal_X9_copyRow (show decode cX9_copyCity 50 = .ok (.invokestatic 240, 3) by decide +kernel) wd_7_39 wd_7_40) <|
  oc_c (gEdge_S cal_X9_copyRow (show decode cX9_copyCity 61 = .ok (.invokestatic 240, 3) by decide +kernel) wd_7_39 wd_7_40) <|
  oc_c (gEdge_S cal_X9_copyRow (show decode cX9_copyCity 72 = .ok (.invokestatic 240, 3) by decide +kernel) wd_7_39 wd_7_40) <|
  oc_n
theorem reX9_copyCity : ∀ pc ∈ [75], decode cX9_copyCity pc = .ok (.return_, 1) := by decide +kernel
def tX9_isCity : List (Nat × gStp) := [(0, i_aload 0 1), (1, i_getC 9 147 4), (4, i_push (.int 0) 5), (5, i_iald 6), (6, i_if_le 13 9), (9, i_push (.int 1) 10), (10, i_goto 14), (13, i_push (.int 0) 14)]
set_option maxRecDepth 100000 in
theorem okX9_isCity : gOk YX9_isCity tX9_isCity := ok_c (sn_aload_n (show decode cX9_isCity 0 = .ok (.aload_n 0, 1) by decide +kernel) rfl) <|
  ok_c (sn_getC (j := 16) (fun _ _ => rfl) (sn_get ck_9 (by decide) (show decode cX9_isCity 1 = .ok (.getfield 31, 3) by decide +kernel) wd_5_233)) <|
  ok_c (sn_iconst (v := 0) (show decode cX9_isCity 4 = .ok (.iconst 0, 1) by decide +kernel) (by decide +kernel)) <|
  ok_c (sn_iald (show decode cX9_isCity 5 = .ok (.iaload, 1) by decide +kernel)) <|
  ok_c (sn_if_le (show decode cX9_isCity 6 = .ok (.ifCond .le 7, 3) by decide +kernel) (by decide)) <|
  ok_c (sn_iconst (v := 1) (show decode cX9_isCity 9 = .ok (.iconst 1, 1) by decide +kernel) (by decide +kernel)) <|
  ok_c (sn_goto (show decode cX9_isCity 10 = .ok (.goto 4, 3) by decide +kernel) (by decide)) <|
  ok_c (sn_iconst (v := 0) (show decode cX9_isCity 13 = .ok (.iconst 0, 1) by decide +kernel) (by decide +kernel)) <|
  ok_n
theorem reX9_isCity : ∀ pc ∈ [14], decode cX9_isCity pc = .ok (.ireturn, 1) := by decide +kernel
def tX9_years : List (Nat × gStp) := [(0, i_aload 0 1), (1, i_getC 9 148 4), (4, i_push (.int 0) 5), (5, i_iald 6)]
set_option maxRecDepth 100000 in
theorem okX9_years : gOk YX9_years tX9_years := ok_c (sn_aload_n (show decode cX9_years 0 = .ok (.aload_n 0, 1) by decide +kernel) rfl) <|
  ok_c (sn_getC (j := 17) (fun _ _ => rfl) (sn_get ck_9 (by decide) (show decode cX9_years 1 = .ok (.getfield 34, 3) by decide +kernel) wd_5_234)) <|
  ok_c (sn_iconst (v := 0) (show decode cX9_years 4 = .ok (.iconst 0, 1) by decide +kernel) (by decide +kernel)) <|
  ok_c (sn_iald (show decode cX9_years 5 = .ok (.iaload, 1) by decide +kernel)) <|
  ok_n
theorem reX9_years : ∀ pc ∈ [6], decode cX9_years pc = .ok (.ireturn, 1) := by decide +kernel
def tX9_people : List (Nat × gStp) := [(0, i_aload 0 1), (1, i_getC 9 148 4), (4, i_push (.int 4) 5), (5, i_iald 6)]
set_option maxRecDepth 100000 in
theorem okX9_people : gOk YX9_people tX9_people := ok_c (sn_aload_n (show decode cX9_people 0 = .ok (.aload_n 0, 1) by decide +kernel) rfl) <|
  ok_c (sn_getC (j := 17) (fun _ _ => rfl) (sn_get ck_9 (by decide) (show decode cX9_people 1 = .ok (.getfield 34, 3) by decide +kernel) wd_5_234)) <|
  ok_c (sn_iconst (v := 4) (show decode cX9_people 4 = .ok (.iconst 4, 1) by decide +kernel) (by decide +kernel)) <|
  ok_c (sn_iald (show decode cX9_people 5 = .ok (.iaload, 1) by decide +kernel)) <|
  ok_n
theorem reX9_people : ∀ pc ∈ [6], decode cX9_people pc = .ok (.ireturn, 1) := by decide +kernel
def tX9_joins : List (Nat × gStp) := [(0, i_aload 0 1), (1, i_getC 9 148 4), (4, i_push (.int 5) 5), (5, i_iald 6)]
set_option maxRecDepth 100000 in
theorem okX9_joins : gOk YX9_joins tX9_joins := ok_c (sn_aload_n (show decode cX9_joins 0 = .ok (.aload_n 0, 1) by decide +kernel) rfl) <|
  ok_c (sn_getC (j := 17) (fun _ _ => rfl) (sn_get ck_9 (by decide) (show decode cX9_joins 1 = .ok (.getfield 34, 3) by decide +kernel) wd_5_234)) <|
  ok_c (sn_iconst (v := 5) (show decode cX9_joins 4 = .ok (.iconst 5, 1) by decide +kernel) (by decide +kernel)) <|
  ok_c (sn_iald (show decode cX9_joins 5 = .ok (.iaload, 1) by decide +kernel)) <|
  ok_n
theorem reX9_joins : ∀ pc ∈ [6], decode cX9_joins pc = .ok (.ireturn, 1) := by decide +kernel
def tX9_isPerson : List (Nat × gStp) := [(0, i_lload 1 1), (1, i_push (.long 0) 2), (2, i_aload 0 3), (6, i_i2l 7), (7, i_push (.long 1) 8), (8, i_ll (fun x y => x - y) 9)]
set_option maxRecDepth 100000 in
theorem okX9_isPerson : gOk YX9_isPerson tX9_isPerson := ok_c (sn_lload_n (show decode cX9_isPerson 0 = .ok (.lload_n 1, 1) by decide +kernel) rfl) <|
  ok_c (sn_lconst (v := 0) (show decode cX9_isPerson 1 = .ok (.lconst 0, 1) by decide +kernel) (by decide +kernel)) <|
  ok_c (sn_aload_n (show decode cX9_isPerson 2 = .ok (.aload_n 0, 1) by decide +kernel) rfl) <|
  ok_c (sn_i2l (show decode cX9_isPerson 6 = .ok (.i2l, 1) by decide +kernel)) <|
  ok_c (sn_lconst (v := 1) (show decode cX9_isPerson 7 = .ok (.lconst 1, 1) by decide +kernel) (by decide +kernel)) <|
  ok_c (sn_lsub (show decode cX9_isPerson 8 = .ok (.lsub, 1) by decide +kernel)) <|
  ok_n
def uX9_isPerson : gCT := [(3, YX9_people, 1, some 9), (9, YX9_in, 3, none)]
set_option maxRecDepth 100000 in
theorem ocX9_isPerson : gOkC YX9_isPerson uX9_isPerson := oc_c (gEdge_V cal_X9_people ck_9 rfl (show decode cX9_isPerson 3 = .ok (.invokevirtual 244, 3) by decide +kernel) wd_7_50 wd_7_52 wp_5_6) <|
  oc_c (gEdge_S cal_X9_in (show decode cX9_isPerson 9 = .ok (.invokestatic 82, 3) by decide +kernel) wd_6_134 wd_6_135) <|
  oc_n
theorem reX9_isPerson : ∀ pc ∈ [12], decode cX9_isPerson pc = .ok (.ireturn, 1) := by decide +kernel
def tX9_areTwo : List (Nat × gStp) := [(0, i_aload 0 1), (1, i_iload 1 2), (2, i_i2l 3), (6, i_if_eq 27 9), (9, i_aload 0 10), (10, i_iload 2 11), (11, i_i2l 12), (15, i_if_eq 27 18), (18, i_iload 1 19), (19, i_iload 2 20), (20, i_ic_eq 27 23), (23, i_push (.int 1) 24), (24, i_goto 28), (27, i_push (.int 0) 28)]
set_option maxRecDepth 100000 in
theorem okX9_areTwo : gOk YX9_areTwo tX9_areTwo := ok_c (sn_aload_n (show decode cX9_areTwo 0 = .ok (.aload_n 0, 1) by decide +kernel) rfl) <|
  ok_c (sn_iload_n (show decode cX9_areTwo 1 = .ok (.iload_n 1, 1) by decide +kernel) rfl) <|
  ok_c (sn_i2l (show decode cX9_areTwo 2 = .ok (.i2l, 1) by decide +kernel)) <|
  ok_c (sn_if_eq (show decode cX9_areTwo 6 = .ok (.ifCond .eq 21, 3) by decide +kernel) (by decide)) <|
  ok_c (sn_aload_n (show decode cX9_areTwo 9 = .ok (.aload_n 0, 1) by decide +kernel) rfl) <|
  ok_c (sn_iload_n (show decode cX9_areTwo 10 = .ok (.iload_n 2, 1) by decide +kernel) rfl) <|
  ok_c (sn_i2l (show decode cX9_areTwo 11 = .ok (.i2l, 1) by decide +kernel)) <|
  ok_c (sn_if_eq (show decode cX9_areTwo 15 = .ok (.ifCond .eq 12, 3) by decide +kernel) (by decide)) <|
  ok_c (sn_iload_n (show decode cX9_areTwo 18 = .ok (.iload_n 1, 1) by decide +kernel) rfl) <|
  ok_c (sn_iload_n (show decode cX9_areTwo 19 = .ok (.iload_n 2, 1) by decide +kernel) rfl) <|
  ok_c (sn_ic_eq (show decode cX9_areTwo 20 = .ok (.if_icmp .eq 7, 3) by decide +kernel) (by decide)) <|
  ok_c (sn_iconst (v := 1) (show decode cX9_areTwo 23 = .ok (.iconst 1, 1) by decide +kernel) (by decide +kernel)) <|
  ok_c (sn_goto (show decode cX9_areTwo 24 = .ok (.goto 4, 3) by decide +kernel) (by decide)) <|
  ok_c (sn_iconst (v := 0) (show decode cX9_areTwo 27 = .ok (.iconst 0, 1) by decide +kernel) (by decide +kernel)) <|
  ok_n
def uX9_areTwo : gCT := [(3, YX9_isPerson, 2, some 9), (12, YX9_isPerson, 2, some 9)]
set_option maxRecDepth 100000 in
theorem ocX9_areTwo : gOkC YX9_areTwo uX9_areTwo := oc_c (gEdge_V cal_X9_isPerson ck_9 rfl (show decode cX9_areTwo 3 = .ok (.invokevirtual 247, 3) by decide +kernel) wd_7_46 wd_7_48 wp_5_5) <|
  oc_c (gEdge_V cal_X9_isPerson ck_9 rfl (show decode cX9_areTwo 12 = .ok (.invokevirtual 247, 3) by decide +kernel) wd_7_46 wd_7_48 wp_5_5) <|
  oc_n
theorem reX9_areTwo : ∀ pc ∈ [28], decode cX9_areTwo pc = .ok (.ireturn, 1) := by decide +kernel
def tX9_isJoin : List (Nat × gStp) := [(0, i_iload 1 1), (1, i_i2l 2), (2, i_push (.long 0) 3), (3, i_aload 0 4), (7, i_push (.int 1) 8), (8, i_ii (fun x y => x - y) 9), (9, i_i2l 10)]
set_option maxRecDepth 100000 in
theorem okX9_isJoin : gOk YX9_isJoin tX9_isJoin := ok_c (sn_iload_n (show decode cX9_isJoin 0 = .ok (.iload_n 1, 1) by decide +kernel) rfl) <|
  ok_c (sn_i2l (show decode cX9_isJoin 1 = .ok (.i2l, 1) by decide +kernel)) <|
  ok_c (sn_lconst (v := 0) (show decode cX9_isJoin 2 = .ok (.lconst 0, 1) by decide +kernel) (by decide +kernel)) <|
  ok_c (sn_aload_n (show decode cX9_isJoin 3 = .ok (.aload_n 0, 1) by decide +kernel) rfl) <|
  ok_c (sn_iconst (v := 1) (show decode cX9_isJoin 7 = .ok (.iconst 1, 1) by decide +kernel) (by decide +kernel)) <|
  ok_c (sn_isub (show decode cX9_isJoin 8 = .ok (.isub, 1) by decide +kernel)) <|
  ok_c (sn_i2l (show decode cX9_isJoin 9 = .ok (.i2l, 1) by decide +kernel)) <|
  ok_n
def uX9_isJoin : gCT := [(4, YX9_joins, 1, some 9), (10, YX9_in, 3, none)]
set_option maxRecDepth 100000 in
theorem ocX9_isJoin : gOkC YX9_isJoin uX9_isJoin := oc_c (gEdge_V cal_X9_joins ck_9 rfl (show decode cX9_isJoin 4 = .ok (.invokevirtual 250, 3) by decide +kernel) wd_7_63 wd_7_65 wp_5_8) <|
  oc_c (gEdge_S cal_X9_in (show decode cX9_isJoin 10 = .ok (.invokestatic 82, 3) by decide +kernel) wd_6_134 wd_6_135) <|
  oc_n
theorem reX9_isJoin : ∀ pc ∈ [13], decode cX9_isJoin pc = .ok (.ireturn, 1) := by decide +kernel
def tX9_isDoor : List (Nat × gStp) := [(0, i_lload 1 1), (1, i_push (.long 0) 2), (2, i_aload 0 3), (3, i_getC 9 148 6), (6, i_push (.int 6) 8), (8, i_iald 9), (9, i_i2l 10), (10, i_push (.long 1) 11), (11, i_ll (fun x y => x - y) 12)]
set_option maxRecDepth 100000 in
theorem okX9_isDoor : gOk YX9_isDoor tX9_isDoor := ok_c (sn_lload_n (show decode cX9_isDoor 0 = .ok (.lload_n 1, 1) by decide +kernel) rfl) <|
  ok_c (sn_lconst (v := 0) (show decode cX9_isDoor 1 = .ok (.lconst 0, 1) by decide +kernel) (by decide +kernel)) <|
  ok_c (sn_aload_n (show decode cX9_isDoor 2 = .ok (.aload_n 0, 1) by decide +kernel) rfl) <|
  ok_c (sn_getC (j := 17) (fun _ _ => rfl) (sn_get ck_9 (by decide) (show decode cX9_isDoor 3 = .ok (.getfield 34, 3) by decide +kernel) wd_5_234)) <|
  ok_c (sn_bipush (v := 6) (show decode cX9_isDoor 6 = .ok (.bipush 6, 2) by decide +kernel) (by decide +kernel)) <|
  ok_c (sn_iald (show decode cX9_isDoor 8 = .ok (.iaload, 1) by decide +kernel)) <|
  ok_c (sn_i2l (show decode cX9_isDoor 9 = .ok (.i2l, 1) by decide +kernel)) <|
  ok_c (sn_lconst (v := 1) (show decode cX9_isDoor 10 = .ok (.lconst 1, 1) by decide +kernel) (by decide +kernel)) <|
  ok_c (sn_lsub (show decode cX9_isDoor 11 = .ok (.lsub, 1) by decide +kernel)) <|
  ok_n
def uX9_isDoor : gCT := [(12, YX9_in, 3, none)]
set_option maxRecDepth 100000 in
theorem ocX9_isDoor : gOkC YX9_isDoor uX9_isDoor := oc_c (gEdge_S cal_X9_in (show decode cX9_isDoor 12 = .ok (.invokestatic 82, 3) by decide +kernel) wd_6_134 wd_6_135) <|
  oc_n
theorem reX9_isDoor : ∀ pc ∈ [15], decode cX9_isDoor pc = .ok (.ireturn, 1) := by decide +kernel
def tX9_isYear : List (Nat × gStp) := [(0, i_iload 1 1), (1, i_i2l 2), (2, i_push (.long 0) 3), (3, i_aload 0 4), (7, i_push (.int 1) 8), (8, i_ii (fun x y => x - y) 9), (9, i_i2l 10)]
set_option maxRecDepth 100000 in
theorem okX9_isYear : gOk YX9_isYear tX9_isYear := ok_c (sn_iload_n (show decode cX9_isYear 0 = .ok (.iload_n 1, 1) by decide +kernel) rfl) <|
  ok_c (sn_i2l (show decode cX9_isYear 1 = .ok (.i2l, 1) by decide +kernel)) <|
  ok_c (sn_lconst (v := 0) (show decode cX9_isYear 2 = .ok (.lconst 0, 1) by decide +kernel) (by decide +kernel)) <|
  ok_c (sn_aload_n (show decode cX9_isYear 3 = .ok (.aload_n 0, 1) by decide +kernel) rfl) <|
  ok_c (sn_iconst (v := 1) (show decode cX9_isYear 7 = .ok (.iconst 1, 1) by decide +kernel) (by decide +kernel)) <|
  ok_c (sn_isub (show decode cX9_isYear 8 = .ok (.isub, 1) by decide +kernel)) <|
  ok_c (sn_i2l (show decode cX9_isYear 9 = .ok (.i2l, 1) by decide +kernel)) <|
  ok_n
def uX9_isYear : gCT := [(4, YX9_years, 1, some 9), (10, YX9_in, 3, none)]
set_option maxRecDepth 100000 in
theorem ocX9_isYear : gOkC YX9_isYear uX9_isYear := oc_c (gEdge_V cal_X9_years ck_9 rfl (show decode cX9_isYear 4 = .ok (.invokevirtual 253, 3) by decide +kernel) wd_7_83 wd_7_85 wp_5_11) <|
  oc_c (gEdge_S cal_X9_in (show decode cX9_isYear 10 = .ok (.invokestatic 82, 3) by decide +kernel) wd_6_134 wd_6_135) <|
  oc_n
theorem reX9_isYear : ∀ pc ∈ [13], decode cX9_isYear pc = .ok (.ireturn, 1) := by decide +kernel
def tX9_isThen : List (Nat × gStp) := [(0, i_aload 0 1), (1, i_iload 1 2), (2, i_i2l 3), (6, i_if_eq 21 9), (9, i_aload 0 10), (10, i_iload 2 11), (14, i_if_eq 21 17), (17, i_push (.int 1) 18), (18, i_goto 22), (21, i_push (.int 0) 22)]
set_option maxRecDepth 100000 in
theorem okX9_isThen : gOk YX9_isThen tX9_isThen := ok_c (sn_aload_n (show decode cX9_isThen 0 = .ok (.aload_n 0, 1) by decide +kernel) rfl) <|
  ok_c (sn_iload_n (show decode cX9_isThen 1 = .ok (.iload_n 1, 1) by decide +kernel) rfl) <|
  ok_c (sn_i2l (show decode cX9_isThen 2 = .ok (.i2l, 1) by decide +kernel)) <|
  ok_c (sn_if_eq (show decode cX9_isThen 6 = .ok (.ifCond .eq 15, 3) by decide +kernel) (by decide)) <|
  ok_c (sn_aload_n (show decode cX9_isThen 9 = .ok (.aload_n 0, 1) by decide +kernel) rfl) <|
  ok_c (sn_iload_n (show decode cX9_isThen 10 = .ok (.iload_n 2, 1) by decide +kernel) rfl) <|
  ok_c (sn_if_eq (show decode cX9_isThen 14 = .ok (.ifCond .eq 7, 3) by decide +kernel) (by decide)) <|
  ok_c (sn_iconst (v := 1) (show decode cX9_isThen 17 = .ok (.iconst 1, 1) by decide +kernel) (by decide +kernel)) <|
  ok_c (sn_goto (show decode cX9_isThen 18 = .ok (.goto 4, 3) by decide +kernel) (by decide)) <|
  ok_c (sn_iconst (v := 0) (show decode cX9_isThen 21 = .ok (.iconst 0, 1) by decide +kernel) (by decide +kernel)) <|
  ok_n
def uX9_isThen : gCT := [(3, YX9_isPerson, 2, some 9), (11, YX9_isYear, 2, some 9)]
set_option maxRecDepth 100000 in
theorem ocX9_isThen : gOkC YX9_isThen uX9_isThen := oc_c (gEdge_V cal_X9_isPerson ck_9 rfl (show decode cX9_isThen 3 = .ok (.invokevirtual 247, 3) by decide +kernel) wd_7_46 wd_7_48 wp_5_5) <|
  oc_c (gEdge_V cal_X9_isYear ck_9 rfl (show decode cX9_isThen 11 = .ok (.invokevirtual 256, 3) by decide +kernel) wd_7_79 wd_7_81 wp_5_10) <|
  oc_n
theorem reX9_isThen : ∀ pc ∈ [22], decode cX9_isThen pc = .ok (.ireturn, 1) := by decide +kernel
def tX9_isHalf : List (Nat × gStp) := [(0, i_iload 0 1), (1, i_i2l 2), (2, i_push (.long 0) 3), (3, i_push (.long 1) 4)]
set_option maxRecDepth 100000 in
theorem okX9_isHalf : gOk YX9_isHalf tX9_isHalf := ok_c (sn_iload_n (show decode cX9_isHalf 0 = .ok (.iload_n 0, 1) by decide +kernel) rfl) <|
  ok_c (sn_i2l (show decode cX9_isHalf 1 = .ok (.i2l, 1) by decide +kernel)) <|
  ok_c (sn_lconst (v := 0) (show decode cX9_isHalf 2 = .ok (.lconst 0, 1) by decide +kernel) (by decide +kernel)) <|
  ok_c (sn_lconst (v := 1) (show decode cX9_isHalf 3 = .ok (.lconst 1, 1) by decide +kernel) (by decide +kernel)) <|
  ok_n
def uX9_isHalf : gCT := [(4, YX9_in, 3, none)]
set_option maxRecDepth 100000 in
theorem ocX9_isHalf : gOkC YX9_isHalf uX9_isHalf := oc_c (gEdge_S cal_X9_in (show decode cX9_isHalf 4 = .ok (.invokestatic 82, 3) by decide +kernel) wd_6_134 wd_6_135) <|
  oc_n
theorem reX9_isHalf : ∀ pc ∈ [7], decode cX9_isHalf pc = .ok (.ireturn, 1) := by decide +kernel
def tX9_isBit : List (Nat × gStp) := [(0, i_iload 0 1), (1, i_iload 1 2), (2, i_ii (fun x y => x >>> (y &&& 31)) 3), (3, i_push (.int 1) 4), (4, i_ii (fun x y => x &&& y) 5), (5, i_push (.int 1) 6), (6, i_ic_ne 13 9), (9, i_push (.int 1) 10), (10, i_goto 14), (13, i_push (.int 0) 14)]
set_option maxRecDepth 100000 in
theorem okX9_isBit : gOk YX9_isBit tX9_isBit := ok_c (sn_iload_n (show decode cX9_isBit 0 = .ok (.iload_n 0, 1) by decide +kernel) rfl) <|
  ok_c (sn_iload_n (show decode cX9_isBit 1 = .ok (.iload_n 1, 1) by decide +kernel) rfl) <|
  ok_c (sn_ishr (show decode cX9_isBit 2 = .ok (.ishr, 1) by decide +kernel)) <|
  ok_c (sn_iconst (v := 1) (show decode cX9_isBit 3 = .ok (.iconst 1, 1) by decide +kernel) (by decide +kernel)) <|
  ok_c (sn_iand (show decode cX9_isBit 4 = .ok (.iand, 1) by decide +kernel)) <|
  ok_c (sn_iconst (v := 1) (show decode cX9_isBit 5 = .ok (.iconst 1, 1) by decide +kernel) (by decide +kernel)) <|
  ok_c (sn_ic_ne (show decode cX9_isBit 6 = .ok (.if_icmp .ne 7, 3) by decide +kernel) (by decide)) <|
  ok_c (sn_iconst (v := 1) (show decode cX9_isBit 9 = .ok (.iconst 1, 1) by decide +kernel) (by decide +kernel)) <|
  ok_c (sn_goto (show decode cX9_isBit 10 = .ok (.goto 4, 3) by decide +kernel) (by decide)) <|
  ok_c (sn_iconst (v := 0) (show decode cX9_isBit 13 = .ok (.iconst 0, 1) by decide +kernel) (by decide +kernel)) <|
  ok_n
theorem reX9_isBit : ∀ pc ∈ [14], decode cX9_isBit pc = .ok (.ireturn, 1) := by decide +kernel
def tX9_sizeOf : List (Nat × gStp) := [(0, i_push (.int 0) 1), (1, i_istore 1 2), (2, i_iload 0 3), (3, i_istore 2 4), (4, i_iload 2 5), (5, i_if_eq 20 8), (8, i_iinc 1 1 11), (11, i_iload 2 12), (12, i_iload 2 13), (13, i_push (.int 1) 14), (14, i_ii (fun x y => x - y) 15), (15, i_ii (fun x y => x &&& y) 16), (16, i_istore 2 17), (17, i_goto 4), (20, i_iload 1 21)]
set_option maxRecDepth 100000 in
theorem okX9_sizeOf : gOk YX9_sizeOf tX9_sizeOf := ok_c (sn_iconst (v := 0) (show decode cX9_sizeOf 0 = .ok (.iconst 0, 1) by decide +kernel) (by decide +kernel)) <|
  ok_c (sn_istore_n (show decode cX9_sizeOf 1 = .ok (.istore_n 1, 1) by decide +kernel) rfl (by decide)) <|
  ok_c (sn_iload_n (show decode cX9_sizeOf 2 = .ok (.iload_n 0, 1) by decide +kernel) rfl) <|
  ok_c (sn_istore_n (show decode cX9_sizeOf 3 = .ok (.istore_n 2, 1) by decide +kernel) rfl (by decide)) <|
  ok_c (sn_iload_n (show decode cX9_sizeOf 4 = .ok (.iload_n 2, 1) by decide +kernel) rfl) <|
  ok_c (sn_if_eq (show decode cX9_sizeOf 5 = .ok (.ifCond .eq 15, 3) by decide +kernel) (by decide)) <|
  ok_c (sn_iinc (show decode cX9_sizeOf 8 = .ok (.iinc 1 1, 3) by decide +kernel) (by decide) (by decide +kernel)) <|
  ok_c (sn_iload_n (show decode cX9_sizeOf 11 = .ok (.iload_n 2, 1) by decide +kernel) rfl) <|
  ok_c (sn_iload_n (show decode cX9_sizeOf 12 = .ok (.iload_n 2, 1) by decide +kernel) rfl) <|
  ok_c (sn_iconst (v := 1) (show decode cX9_sizeOf 13 = .ok (.iconst 1, 1) by decide +kernel) (by decide +kernel)) <|
  ok_c (sn_isub (show decode cX9_sizeOf 14 = .ok (.isub, 1) by decide +kernel)) <|
  ok_c (sn_iand (show decode cX9_sizeOf 15 = .ok (.iand, 1) by decide +kernel)) <|
  ok_c (sn_istore_n (show decode cX9_sizeOf 16 = .ok (.istore_n 2, 1) by decide +kernel) rfl (by decide)) <|
  ok_c (sn_goto (show decode cX9_sizeOf 17 = .ok (.goto (-13), 3) by decide +kernel) (by decide)) <|
  ok_c (sn_iload_n (show decode cX9_sizeOf 20 = .ok (.iload_n 1, 1) by decide +kernel) rfl) <|
  ok_n
theorem reX9_sizeOf : ∀ pc ∈ [21], decode cX9_sizeOf pc = .ok (.ireturn, 1) := by decide +kernel
def tX9_lays : List (Nat × gStp) := [(0, i_aload 0 1), (1, i_aload 0 2), (2, i_getC 9 148 5), (5, i_push (.int 1) 6), (6, i_iald 7), (7, i_putI 9 24 10), (10, i_aload 0 11), (11, i_push (.int 0) 12), (12, i_putI 9 25 15), (15, i_aload 0 16), (16, i_push (.int 0) 17), (17, i_putI 9 26 20), (20, i_aload 0 21), (21, i_push (.int 0) 22), (22, i_putI 9 27 25), (25, i_aload 0 26), (26, i_push (.int (-1)) 27), (27, i_putI 9 30 30), (30, i_aload 0 31), (31, i_push (.int (-1)) 32), (32, i_putI 9 31 35), (35, i_aload 0 36), (36, i_push (.int 1) 37), (37, i_putZ 9 32 40)]
set_option maxRecDepth 100000 in
theorem okX9_lays : gOk YX9_lays tX9_lays := ok_c (sn_aload_n (show decode cX9_lays 0 = .ok (.aload_n 0, 1) by decide +kernel) rfl) <|
  ok_c (sn_aload_n (show decode cX9_lays 1 = .ok (.aload_n 0, 1) by decide +kernel) rfl) <|
  ok_c (sn_getC (j := 17) (fun _ _ => rfl) (sn_get ck_9 (by decide) (show decode cX9_lays 2 = .ok (.getfield 34, 3) by decide +kernel) wd_5_234)) <|
  ok_c (sn_iconst (v := 1) (show decode cX9_lays 5 = .ok (.iconst 1, 1) by decide +kernel) (by decide +kernel)) <|
  ok_c (sn_iald (show decode cX9_lays 6 = .ok (.iaload, 1) by decide +kernel)) <|
  ok_c (sn_putI ck_9 (by decide) rfl rfl (show decode cX9_lays 7 = .ok (.putfield 259, 3) by decide +kernel) wd_6_1) <|
  ok_c (sn_aload_n (show decode cX9_lays 10 = .ok (.aload_n 0, 1) by decide +kernel) rfl) <|
  ok_c (sn_iconst (v := 0) (show decode cX9_lays 11 = .ok (.iconst 0, 1) by decide +kernel) (by decide +kernel)) <|
  ok_c (sn_putI ck_9 (by decide) rfl rfl (show decode cX9_lays 12 = .ok (.putfield 262, 3) by decide +kernel) wd_6_2) <|
  ok_c (sn_aload_n (show decode cX9_lays 15 = .ok (.aload_n 0, 1) by decide +kernel) rfl) <|
  ok_c (sn_iconst (v := 0) (show decode cX9_lays 16 = .ok (.iconst 0, 1) by decide +kernel) (by decide +kernel)) <|
  ok_c (sn_putI ck_9 (by decide) rfl rfl (show decode cX9_lays 17 = .ok (.putfield 265, 3) by decide +kernel) wd_6_3) <|
  ok_c (sn_aload_n (show decode cX9_lays 20 = .ok (.aload_n 0, 1) by decide +kernel) rfl) <|
  ok_c (sn_iconst (v := 0) (show decode cX9_lays 21 = .ok (.iconst 0, 1) by decide +kernel) (by decide +kernel)) <|
  ok_c (sn_putI ck_9 (by decide) rfl rfl (show decode cX9_lays 22 = .ok (.putfield 268, 3) by decide +kernel) wd_6_4) <|
  ok_c (sn_aload_n (show decode cX9_lays 25 = .ok (.aload_n 0, 1) by decide +kernel) rfl) <|
  ok_c (sn_iconst (v := (-1)) (show decode cX9_lays 26 = .ok (.iconst (-1), 1) by decide +kernel) (by decide +kernel)) <|
  ok_c (sn_putI ck_9 (by decide) rfl rfl (show decode cX9_lays 27 = .ok (.putfield 271, 3) by decide +kernel) wd_6_7) <|
  ok_c (sn_aload_n (show decode cX9_lays 30 = .ok (.aload_n 0, 1) by decide +kernel) rfl) <|
  ok_c (sn_iconst (v := (-1)) (show decode cX9_lays 31 = .ok (.iconst (-1), 1) by decide +kernel) (by decide +kernel)) <|
  ok_c (sn_putI ck_9 (by decide) rfl rfl (show decode cX9_lays 32 = .ok (.putfield 274, 3) by decide +kernel) wd_6_8) <|
  ok_c (sn_aload_n (show decode cX9_lays 35 = .ok (.aload_n 0, 1) by decide +kernel) rfl) <|
  ok_c (sn_iconst (v := 1) (show decode cX9_lays 36 = .ok (.iconst 1, 1) by decide +kernel) (by decide +kernel)) <|
  ok_c (sn_putZ ck_9 (by decide) rfl rfl (show decode cX9_lays 37 = .ok (.putfield 277, 3) by decide +kernel) wd_6_9) <|
  ok_n
theorem reX9_lays : ∀ pc ∈ [40], decode cX9_lays pc = .ok (.return_, 1) := by decide +kernel
def tX9_isPair : List (Nat × gStp) := [(0, i_aload 0 1), (1, i_getC 9 153 4), (4, i_push (.int 4) 5), (5, i_iload 1 6), (6, i_ii (fun x y => x * y) 7), (7, i_iald 8), (8, i_iload 2 9), (9, i_ic_ne 26 12), (12, i_aload 0 13), (13, i_getC 9 153 16), (16, i_push (.int 4) 17), (17, i_iload 1 18), (18, i_ii (fun x y => x * y) 19), (19, i_push (.int 1) 20), (20, i_ii (fun x y => x + y) 21), (21, i_iald 22), (22, i_iload 3 23), (23, i_ic_eq 52 26), (26, i_aload 0 27), (27, i_getC 9 153 30), (30, i_push (.int 4) 31), (31, i_iload 1 32), (32, i_ii (fun x y => x * y) 33), (33, i_iald 34), (34, i_iload 3 35), (35, i_ic_ne 56 38), (38, i_aload 0 39), (39, i_getC 9 153 42), (42, i_push (.int 4) 43), (43, i_iload 1 44), (44, i_ii (fun x y => x * y) 45), (45, i_push (.int 1) 46), (46, i_ii (fun x y => x + y) 47), (47, i_iald 48), (48, i_iload 2 49), (49, i_ic_ne 56 52), (52, i_push (.int 1) 53), (53, i_goto 57), (56, i_push (.int 0) 57)]
set_option maxRecDepth 100000 in
theorem okX9_isPair : gOk YX9_isPair tX9_isPair := ok_c (sn_aload_n (show decode cX9_isPair 0 = .ok (.aload_n 0, 1) by decide +kernel) rfl) <|
  ok_c (sn_getC (j := 22) (fun _ _ => rfl) (sn_get ck_9 (by decide) (show decode cX9_isPair 1 = .ok (.getfield 49, 3) by decide +kernel) wd_5_239)) <|
  ok_c (sn_iconst (v := 4) (show decode cX9_isPair 4 = .ok (.iconst 4, 1) by decide +kernel) (by decide +kernel)) <|
  ok_c (sn_iload_n (show decode cX9_isPair 5 = .ok (.iload_n 1, 1) by decide +kernel) rfl) <|
  ok_c (sn_imul (show decode cX9_isPair 6 = .ok (.imul, 1) by decide +kernel)) <|
  ok_c (sn_iald (show decode cX9_isPair 7 = .ok (.iaload, 1) by decide +kernel)) <|
  ok_c (sn_iload_n (show decode cX9_isPair 8 = .ok (.iload_n 2, 1) by decide +kernel) rfl) <|
  ok_c (sn_ic_ne (show decode cX9_isPair 9 = .ok (.if_icmp .ne 17, 3) by decide +kernel) (by decide)) <|
  ok_c (sn_aload_n (show decode cX9_isPair 12 = .ok (.aload_n 0, 1) by decide +kernel) rfl) <|
  ok_c (sn_getC (j := 22) (fun _ _ => rfl) (sn_get ck_9 (by decide) (show decode cX9_isPair 13 = .ok (.getfield 49, 3) by decide +kernel) wd_5_239)) <|
  ok_c (sn_iconst (v := 4) (show decode cX9_isPair 16 = .ok (.iconst 4, 1) by decide +kernel) (by decide +kernel)) <|
  ok_c (sn_iload_n (show decode cX9_isPair 17 = .ok (.iload_n 1, 1) by decide +kernel) rfl) <|
  ok_c (sn_imul (show decode cX9_isPair 18 = .ok (.imul, 1) by decide +kernel)) <|
  ok_c (sn_iconst (v := 1) (show decode cX9_isPair 19 = .ok (.iconst 1, 1) by decide +kernel) (by decide +kernel)) <|
  ok_c (sn_iadd (show decode cX9_isPair 20 = .ok (.iadd, 1) by decide +kernel)) <|
  ok_c (sn_iald (show decode cX9_isPair 21 = .ok (.iaload, 1) by decide +kernel)) <|
  ok_c (sn_iload_n (show decode cX9_isPair 22 = .ok (.iload_n 3, 1) by decide +kernel) rfl) <|
  ok_c (sn_ic_eq (show decode cX9_isPair 23 = .ok (.if_icmp .eq 29, 3) by decide +kernel) (by decide)) <|
  ok_c (sn_aload_n (show decode cX9_isPair 26 = .ok (.aload_n 0, 1) by decide +kernel) rfl) <|
  ok_c (sn_getC (j := 22) (fun _ _ => rfl) (sn_get ck_9 (by decide) (show decode cX9_isPair 27 = .ok (.getfield 49, 3) by decide +kernel) wd_5_239)) <|
  ok_c (sn_iconst (v := 4) (show decode cX9_isPair 30 = .ok (.iconst 4, 1) by decide +kernel) (by decide +kernel)) <|
  ok_c (sn_iload_n (show decode cX9_isPair 31 = .ok (.iload_n 1, 1) by decide +kernel) rfl) <|
  ok_c (sn_imul (show decode cX9_isPair 32 = .ok (.imul, 1) by decide +kernel)) <|
  ok_c (sn_iald (show decode cX9_isPair 33 = .ok (.iaload, 1) by decide +kernel)) <|
  ok_c (sn_iload_n (show decode cX9_isPair 34 = .ok (.iload_n 3, 1) by decide +kernel) rfl) <|
  ok_c (sn_ic_ne (show decode cX9_isPair 35 = .ok (.if_icmp .ne 21, 3) by decide +kernel) (by decide)) <|
  ok_c (sn_aload_n (show decode cX9_isPair 38 = .ok (.aload_n 0, 1) by decide +kernel) rfl) <|
  ok_c (sn_getC (j := 22) (fun _ _ => rfl) (sn_get ck_9 (by decide) (show decode cX9_isPair 39 = .ok (.getfield 49, 3) by decide +kernel) wd_5_239)) <|
  ok_c (sn_iconst (v := 4) (show decode cX9_isPair 42 = .ok (.iconst 4, 1) by decide +kernel) (by decide +kernel)) <|
  ok_c (sn_iload_n (show decode cX9_isPair 43 = .ok (.iload_n 1, 1) by decide +kernel) rfl) <|
  ok_c (sn_imul (show decode cX9_isPair 44 = .ok (.imul, 1) by decide +kernel)) <|
  ok_c (sn_iconst (v := 1) (show decode cX9_isPair 45 = .ok (.iconst 1, 1) by decide +kernel) (by decide +kernel)) <|
  ok_c (sn_iadd (show decode cX9_isPair 46 = .ok (.iadd, 1) by decide +kernel)) <|
  ok_c (sn_iald (show decode cX9_isPair 47 = .ok (.iaload, 1) by decide +kernel)) <|
  ok_c (sn_iload_n (show decode cX9_isPair 48 = .ok (.iload_n 2, 1) by decide +kernel) rfl) <|
  ok_c (sn_ic_ne (show decode cX9_isPair 49 = .ok (.if_icmp .ne 7, 3) by decide +kernel) (by decide)) <|
  ok_c (sn_iconst (v := 1) (show decode cX9_isPair 52 = .ok (.iconst 1, 1) by decide +kernel) (by decide +kernel)) <|
  ok_c (sn_goto (show decode cX9_isPair 53 = .ok (.goto 4, 3) by decide +kernel) (by decide)) <|
  ok_c (sn_iconst (v := 0) (show decode cX9_isPair 56 = .ok (.iconst 0, 1) by decide +kernel) (by decide +kernel)) <|
  ok_n
theorem reX9_isPair : ∀ pc ∈ [57], decode cX9_isPair pc = .ok (.ireturn, 1) := by decide +kernel
def tX9_isHolding : List (Nat × gStp) := [(0, i_iload 6 2), (2, i_i2l 3), (3, i_iload 3 4), (4, i_i2l 5), (5, i_iload 3 6), (6, i_iload 4 8), (8, i_ii (fun x y => x + y) 9), (9, i_push (.int 1) 10), (10, i_ii (fun x y => x - y) 11), (11, i_i2l 12), (15, i_if_eq 40 18), (18, i_aload 0 19), (19, i_getI 9 26 22), (22, i_iload 1 23), (26, i_if_ne 40 29), (29, i_aload 0 30), (30, i_getI 9 26 33), (33, i_iload 2 34), (37, i_if_eq 42 40), (40, i_push (.int 0) 41), (42, i_push (.int 0) 43), (43, i_istore 7 45), (45, i_iload 7 47), (47, i_aload 0 48), (48, i_getC 9 148 51), (51, i_push (.int 8) 53), (53, i_iald 54), (54, i_ic_ge 136 57), (57, i_aload 0 58), (58, i_getI 9 32 61), (61, i_if_eq 136 64), (64, i_aload 0 65), (65, i_getC 9 153 68), (68, i_push (.int 4) 69), (69, i_iload 7 71), (71, i_ii (fun x y => x * y) 72), (72, i_push (.int 2) 73), (73, i_ii (fun x y => x + y) 74), (74, i_iald 75), (75, i_istore 8 77), (77, i_aload 0 78), (78, i_getC 9 153 81), (81, i_push (.int 4) 82), (82, i_iload 7 84), (84, i_ii (fun x y => x * y) 85), (85, i_push (.int 3) 86), (86, i_ii (fun x y => x + y) 87), (87, i_iald 88), (88, i_if_ne 130 91), (91, i_aload 0 92), (92, i_iload 7 94), (94, i_iload 1 95), (95, i_iload 2 96), (99, i_if_eq 130 102), (102, i_iload 8 104), (104, i_iload 6 106), (106, i_ic_gt 130 109), (109, i_iload 8 111), (111, i_iload 3 112), (112, i_ic_gt 128 115), (115, i_iload 8 117), (117, i_iload 3 118), (118, i_ic_ne 130 121), (121, i_iload 7 123), (123, i_iload 5 125), (125, i_ic_le 130 128), (128, i_push (.int 0) 129), (130, i_iinc 7 1 133), (133, i_goto 45), (136, i_push (.int 1) 137)]
set_option maxRecDepth 100000 in
theorem okX9_isHolding : gOk YX9_isHolding tX9_isHolding := ok_c (sn_iload (show decode cX9_isHolding 0 = .ok (.iload 6, 2) by decide +kernel)) <|
  ok_c (sn_i2l (show decode cX9_isHolding 2 = .ok (.i2l, 1) by decide +kernel)) <|
  ok_c (sn_iload_n (show decode cX9_isHolding 3 = .ok (.iload_n 3, 1) by decide +kernel) rfl) <|
  ok_c (sn_i2l (show decode cX9_isHolding 4 = .ok (.i2l, 1) by decide +kernel)) <|
  ok_c (sn_iload_n (show decode cX9_isHolding 5 = .ok (.iload_n 3, 1) by decide +kernel) rfl) <|
  ok_c (sn_iload (show decode cX9_isHolding 6 = .ok (.iload 4, 2) by decide +kernel)) <|
  ok_c (sn_iadd (show decode cX9_isHolding 8 = .ok (.iadd, 1) by decide +kernel)) <|
  ok_c (sn_iconst (v := 1) (show decode cX9_isHolding 9 = .ok (.iconst 1, 1) by decide +kernel) (by decide +kernel)) <|
  ok_c (sn_isub (show decode cX9_isHolding 10 = .ok (.isub, 1) by decide +kernel)) <|
  ok_c (sn_i2l (show decode cX9_isHolding 11 = .ok (.i2l, 1) by decide +kernel)) <|
  ok_c (sn_if_eq (show decode cX9_isHolding 15 = .ok (.ifCond .eq 25, 3) by decide +kernel) (by decide)) <|
  ok_c (sn_aload_n (show decode cX9_isHolding 18 = .ok (.aload_n 0, 1) by decide +kernel) rfl) <|
  ok_c (sn_getI (fun _ _ => rfl) (sn_get ck_9 (by decide) (show decode cX9_isHolding 19 = .ok (.getfield 265, 3) by decide +kernel) wd_6_3)) <|
  ok_c (sn_iload_n (show decode cX9_isHolding 22 = .ok (.iload_n 1, 1) by decide +kernel) rfl) <|
  ok_c (sn_if_ne (show decode cX9_isHolding 26 = .ok (.ifCond .ne 14, 3) by decide +kernel) (by decide)) <|
  ok_c (sn_aload_n (show decode cX9_isHolding 29 = .ok (.aload_n 0, 1) by decide +kernel) rfl) <|
  ok_c (sn_getI (fun _ _ => rfl) (sn_get ck_9 (by decide) (show decode cX9_isHolding 30 = .ok (.getfield 265, 3) by decide +kernel) wd_6_3)) <|
  ok_c (sn_iload_n (show decode cX9_isHolding 33 = .ok (.iload_n 2, 1) by decide +kernel) rfl) <|
  ok_c (sn_if_eq (show decode cX9_isHolding 37 = .ok (.ifCond .eq 5, 3) by decide +kernel) (by decide)) <|
  ok_c (sn_iconst (v := 0) (show decode cX9_isHolding 40 = .ok (.iconst 0, 1) by decide +kernel) (by decide +kernel)) <|
  ok_c (sn_iconst (v := 0) (show decode cX9_isHolding 42 = .ok (.iconst 0, 1) by decide +kernel) (by decide +kernel)) <|
  ok_c (sn_istore (show decode cX9_isHolding 43 = .ok (.istore 7, 2) by decide +kernel) (by decide)) <|
  ok_c (sn_iload (show decode cX9_isHolding 45 = .ok (.iload 7, 2) by decide +kernel)) <|
  ok_c (sn_aload_n (show decode cX9_isHolding 47 = .ok (.aload_n 0, 1) by decide +kernel) rfl) <|
  ok_c (sn_getC (j := 17) (fun _ _ => rfl) (sn_get ck_9 (by decide) (show decode cX9_isHolding 48 = .ok (.getfield 34, 3) by decide +kernel) wd_5_234)) <|
  ok_c (sn_bipush (v := 8) (show decode cX9_isHolding 51 = .ok (.bipush 8, 2) by decide +kernel) (by decide +kernel)) <|
  ok_c (sn_iald (show decode cX9_isHolding 53 = .ok (.iaload, 1) by decide +kernel)) <|
  ok_c (sn_ic_ge (show decode cX9_isHolding 54 = .ok (.if_icmp .ge 82, 3) by decide +kernel) (by decide)) <|
  ok_c (sn_aload_n (show decode cX9_isHolding 57 = .ok (.aload_n 0, 1) by decide +kernel) rfl) <|
  ok_c (sn_getI (fun _ _ => rfl) (sn_get ck_9 (by decide) (show decode cX9_isHolding 58 = .ok (.getfield 277, 3) by decide +kernel) wd_6_9)) <|
  ok_c (sn_if_eq (show decode cX9_isHolding 61 = .ok (.ifCond .eq 75, 3) by decide +kernel) (by decide)) <|
  ok_c (sn_aload_n (show decode cX9_isHolding 64 = .ok (.aload_n 0, 1) by decide +kernel) rfl) <|
  ok_c (sn_getC (j := 22) (fun _ _ => rfl) (sn_get ck_9 (by decide) (show decode cX9_isHolding 65 = .ok (.getfield 49, 3) by decide +kernel) wd_5_239)) <|
  ok_c (sn_iconst (v := 4) (show decode cX9_isHolding 68 = .ok (.iconst 4, 1) by decide +kernel) (by decide +kernel)) <|
  ok_c (sn_iload (show decode cX9_isHolding 69 = .ok (.iload 7, 2) by decide +kernel)) <|
  ok_c (sn_imul (show decode cX9_isHolding 71 = .ok (.imul, 1) by decide +kernel)) <|
  ok_c (sn_iconst (v := 2) (show decode cX9_isHolding 72 = .ok (.iconst 2, 1) by decide +kernel) (by decide +kernel)) <|
  ok_c (sn_iadd (show decode cX9_isHolding 73 = .ok (.iadd, 1) by decide +kernel)) <|
  ok_c (sn_iald (show decode cX9_isHolding 74 = .ok (.iaload, 1) by decide +kernel)) <|
  ok_c (sn_istore (show decode cX9_isHolding 75 = .ok (.istore 8, 2) by decide +kernel) (by decide)) <|
  ok_c (sn_aload_n (show decode cX9_isHolding 77 = .ok (.aload_n 0, 1) by decide +kernel) rfl) <|
  ok_c (sn_getC (j := 22) (fun _ _ => rfl) (sn_get ck_9 (by decide) (show decode cX9_isHolding 78 = .ok (.getfield 49, 3) by decide +kernel) wd_5_239)) <|
  ok_c (sn_iconst (v := 4) (show decode cX9_isHolding 81 = .ok (.iconst 4, 1) by decide +kernel) (by decide +kernel)) <|
  ok_c (sn_iload (show decode cX9_isHolding 82 = .ok (.iload 7, 2) by decide +kernel)) <|
  ok_c (sn_imul (show decode cX9_isHolding 84 = .ok (.imul, 1) by decide +kernel)) <|
  ok_c (sn_iconst (v := 3) (show decode cX9_isHolding 85 = .ok (.iconst 3, 1) by decide +kernel) (by decide +kernel)) <|
  ok_c (sn_iadd (show decode cX9_isHolding 86 = .ok (.iadd, 1) by decide +kernel)) <|
  ok_c (sn_iald (show decode cX9_isHolding 87 = .ok (.iaload, 1) by decide +kernel)) <|
  ok_c (sn_if_ne (show decode cX9_isHolding 88 = .ok (.ifCond .ne 42, 3) by decide +kernel) (by decide)) <|
  ok_c (sn_aload_n (show decode cX9_isHolding 91 = .ok (.aload_n 0, 1) by decide +kernel) rfl) <|
  ok_c (sn_iload (show decode cX9_isHolding 92 = .ok (.iload 7, 2) by decide +kernel)) <|
  ok_c (sn_iload_n (show decode cX9_isHolding 94 = .ok (.iload_n 1, 1) by decide +kernel) rfl) <|
  ok_c (sn_iload_n (show decode cX9_isHolding 95 = .ok (.iload_n 2, 1) by decide +kernel) rfl) <|
  ok_c (sn_if_eq (show decode cX9_isHolding 99 = .ok (.ifCond .eq 31, 3) by decide +kernel) (by decide)) <|
  ok_c (sn_iload (show decode cX9_isHolding 102 = .ok (.iload 8, 2) by decide +kernel)) <|
  ok_c (sn_iload (show decode cX9_isHolding 104 = .ok (.iload 6, 2) by decide +kernel)) <|
  ok_c (sn_ic_gt (show decode cX9_isHolding 106 = .ok (.if_icmp .gt 24, 3) by decide +kernel) (by decide)) <|
  ok_c (sn_iload (show decode cX9_isHolding 109 = .ok (.iload 8, 2) by decide +kernel)) <|
  ok_c (sn_iload_n (show decode cX9_isHolding 111 = .ok (.iload_n 3, 1) by decide +kernel) rfl) <|
  ok_c (sn_ic_gt (show decode cX9_isHolding 112 = .ok (.if_icmp .gt 16, 3) by decide +kernel) (by decide)) <|
  ok_c (sn_iload (show decode cX9_isHolding 115 = .ok (.iload 8, 2) by decide +kernel)) <|
  ok_c (sn_iload_n (show decode cX9_isHolding 117 = .ok (.iload_n 3, 1) by decide +kernel) rfl) <|
  ok_c (sn_ic_ne (show decode cX9_isHolding 118 = .ok (.if_icmp .ne 12, 3) by decide +kernel) (by decide)) <|
  ok_c (sn_iload (show decode cX9_isHolding 121 = .ok (.iload 7, 2) by decide +kernel)) <|
  ok_c (sn_iload (show decode cX9_isHolding 123 = .ok (.iload 5, 2) by decide +kernel)) <|
  ok_c (sn_ic_le (show decode cX9_isHolding 125 = .ok (.if_icmp .le 5, 3) by decide +kernel) (by decide)) <|
  ok_c (sn_iconst (v := 0) (show decode cX9_isHolding 128 = .ok (.iconst 0, 1) by decide +kernel) (by decide +kernel)) <|
  ok_c (sn_iinc (show decode cX9_isHolding 130 = .ok (.iinc 7 1, 3) by decide +kernel) (by decide) (by decide +kernel)) <|
  ok_c (sn_goto (show decode cX9_isHolding 133 = .ok (.goto (-88), 3) by decide +kernel) (by decide)) <|
  ok_c (sn_iconst (v := 1) (show decode cX9_isHolding 136 = .ok (.iconst 1, 1) by decide +kernel) (by decide +kernel)) <|
  ok_n
def uX9_isHolding : gCT := [(12, YX9_in, 3, none), (23, YX9_isBit, 2, none), (34, YX9_isBit, 2, none), (96, YX9_isPair, 4, some 9)]
set_option maxRecDepth 100000 in
theorem ocX9_isHolding : gOkC YX9_isHolding uX9_isHolding := oc_c (gEdge_S cal_X9_in (show decode cX9_isHolding 12 = .ok (.invokestatic 82, 3) by decide +kernel) wd_6_134 wd_6_135) <|
  oc_c (gEdge_S cal_X9_isBit (show decode cX9_isHolding 23 = .ok (.invokestatic 281, 3) by decide +kernel) wd_7_115 wd_7_116) <|
  oc_c (gEdge_S cal_X9_isBit (show decode cX9_isHolding 34 = .ok (.invokestatic 281, 3) by decide +kernel) wd_7_115 wd_7_116) <|
  oc_c (gEdge_V cal_X9_isPair ck_9 rfl (show decode cX9_isHolding 96 = .ok (.invokevirtual 285, 3) by decide +kernel) wd_7_122 wd_7_124 wp_6_4) <|
  oc_n
theorem reX9_isHolding : ∀ pc ∈ [41, 129, 137], decode cX9_isHolding pc = .ok (.ireturn, 1) := by decide +kernel
def tX9_isTold : List (Nat × gStp) := [(0, i_aload 0 1), (1, i_getI 9 25 4), (4, i_iload 1 5), (8, i_if_ne 53 11), (11, i_aload 0 12), (12, i_aload 0 13), (13, i_getC 9 150 16), (16, i_push (.int 3) 17), (17, i_iload 1 18), (18, i_ii (fun x y => x * y) 19), (19, i_iald 20), (20, i_aload 0 21), (21, i_getC 9 150 24), (24, i_push (.int 3) 25), (25, i_iload 1 26), (26, i_ii (fun x y => x * y) 27), (27, i_push (.int 1) 28), (28, i_ii (fun x y => x + y) 29), (29, i_iald 30), (30, i_push (.int 0) 31), (31, i_aload 0 32), (32, i_getC 9 150 35), (35, i_push (.int 3) 36), (36, i_iload 1 37), (37, i_ii (fun x y => x * y) 38), (38, i_push (.int 2) 39), (39, i_ii (fun x y => x + y) 40), (40, i_iald 41), (41, i_push (.int (-1)) 42), (42, i_iload 2 43), (46, i_if_eq 53 49), (49, i_push (.int 1) 50), (50, i_goto 54), (53, i_push (.int 0) 54)]
set_option maxRecDepth 100000 in
theorem okX9_isTold : gOk YX9_isTold tX9_isTold := ok_c (sn_aload_n (show decode cX9_isTold 0 = .ok (.aload_n 0, 1) by decide +kernel) rfl) <|
  ok_c (sn_getI (fun _ _ => rfl) (sn_get ck_9 (by decide) (show decode cX9_isTold 1 = .ok (.getfield 262, 3) by decide +kernel) wd_6_2)) <|
  ok_c (sn_iload_n (show decode cX9_isTold 4 = .ok (.iload_n 1, 1) by decide +kernel) rfl) <|
  ok_c (sn_if_ne (show decode cX9_isTold 8 = .ok (.ifCond .ne 45, 3) by decide +kernel) (by decide)) <|
  ok_c (sn_aload_n (show decode cX9_isTold 11 = .ok (.aload_n 0, 1) by decide +kernel) rfl) <|
  ok_c (sn_aload_n (show decode cX9_isTold 12 = .ok (.aload_n 0, 1) by decide +kernel) rfl) <|
  ok_c (sn_getC (j := 19) (fun _ _ => rfl) (sn_get ck_9 (by decide) (show decode cX9_isTold 13 = .ok (.getfield 40, 3) by decide +kernel) wd_5_236)) <|
  ok_c (sn_iconst (v := 3) (show decode cX9_isTold 16 = .ok (.iconst 3, 1) by decide +kernel) (by decide +kernel)) <|
  ok_c (sn_iload_n (show decode cX9_isTold 17 = .ok (.iload_n 1, 1) by decide +kernel) rfl) <|
  ok_c (sn_imul (show decode cX9_isTold 18 = .ok (.imul, 1) by decide +kernel)) <|
  ok_c (sn_iald (show decode cX9_isTold 19 = .ok (.iaload, 1) by decide +kernel)) <|
  ok_c (sn_aload_n (show decode cX9_isTold 20 = .ok (.aload_n 0, 1) by decide +kernel) rfl) <|
  ok_c (sn_getC (j := 19) (fun _ _ => rfl) (sn_get ck_9 (by decide) (show decode cX9_isTold 21 = .ok (.getfield 40, 3) by decide +kernel) wd_5_236)) <|
  ok_c (sn_iconst (v := 3) (show decode cX9_isTold 24 = .ok (.iconst 3, 1) by decide +kernel) (by decide +kernel)) <|
  ok_c (sn_iload_n (show decode cX9_isTold 25 = .ok (.iload_n 1, 1) by decide +kernel) rfl) <|
  ok_c (sn_imul (show decode cX9_isTold 26 = .ok (.imul, 1) by decide +kernel)) <|
  ok_c (sn_iconst (v := 1) (show decode cX9_isTold 27 = .ok (.iconst 1, 1) by decide +kernel) (by decide +kernel)) <|
  ok_c (sn_iadd (show decode cX9_isTold 28 = .ok (.iadd, 1) by decide +kernel)) <|
  ok_c (sn_iald (show decode cX9_isTold 29 = .ok (.iaload, 1) by decide +kernel)) <|
  ok_c (sn_iconst (v := 0) (show decode cX9_isTold 30 = .ok (.iconst 0, 1) by decide +kernel) (by decide +kernel)) <|
  ok_c (sn_aload_n (show decode cX9_isTold 31 = .ok (.aload_n 0, 1) by decide +kernel) rfl) <|
  ok_c (sn_getC (j := 19) (fun _ _ => rfl) (sn_get ck_9 (by decide) (show decode cX9_isTold 32 = .ok (.getfield 40, 3) by decide +kernel) wd_5_236)) <|
  ok_c (sn_iconst (v := 3) (show decode cX9_isTold 35 = .ok (.iconst 3, 1) by decide +kernel) (by decide +kernel)) <|
  ok_c (sn_iload_n (show decode cX9_isTold 36 = .ok (.iload_n 1, 1) by decide +kernel) rfl) <|
  ok_c (sn_imul (show decode cX9_isTold 37 = .ok (.imul, 1) by decide +kernel)) <|
  ok_c (sn_iconst (v := 2) (show decode cX9_isTold 38 = .ok (.iconst 2, 1) by decide +kernel) (by decide +kernel)) <|
  ok_c (sn_iadd (show decode cX9_isTold 39 = .ok (.iadd, 1) by decide +kernel)) <|
  ok_c (sn_iald (show decode cX9_isTold 40 = .ok (.iaload, 1) by decide +kernel)) <|
  ok_c (sn_iconst (v := (-1)) (show decode cX9_isTold 41 = .ok (.iconst (-1), 1) by decide +kernel) (by decide +kernel)) <|
  ok_c (sn_iload_n (show decode cX9_isTold 42 = .ok (.iload_n 2, 1) by decide +kernel) rfl) <|
  ok_c (sn_if_eq (show decode cX9_isTold 46 = .ok (.ifCond .eq 7, 3) by decide +kernel) (by decide)) <|
  ok_c (sn_iconst (v := 1) (show decode cX9_isTold 49 = .ok (.iconst 1, 1) by decide +kernel) (by decide +kernel)) <|
  ok_c (sn_goto (show decode cX9_isTold 50 = .ok (.goto 4, 3) by decide +kernel) (by decide)) <|
  ok_c (sn_iconst (v := 0) (show decode cX9_isTold 53 = .ok (.iconst 0, 1) by decide +kernel) (by decide +kernel)) <|
  ok_n
def uX9_isTold : gCT := [(5, YX9_isBit, 2, none), (43, YX9_isHolding, 7, some 9)]
set_option maxRecDepth 100000 in
theorem ocX9_isTold : gOkC YX9_isTold uX9_isTold := oc_c (gEdge_S cal_X9_isBit (show decode cX9_isTold 5 = .ok (.invokestatic 281, 3) by decide +kernel) wd_7_115 wd_7_116) <|
  oc_c (gEdge_V cal_X9_isHolding ck_9 rfl (show decode cX9_isTold 43 = .ok (.invokevirtual 288, 3) by decide +kernel) wd_7_118 wd_7_120 wp_6_3) <|
  oc_n
theorem reX9_isTold : ∀ pc ∈ [54], decode cX9_isTold pc = .ok (.ireturn, 1) := by decide +kernel
def tX9_tiesTwo : List (Nat × gStp) := [(0, i_aload 0 1), (1, i_iload 1 2), (2, i_iload 3 3), (6, i_if_ne 18 9), (9, i_aload 0 10), (10, i_iload 2 11), (11, i_iload 3 12), (15, i_if_eq 19 18), (19, i_aload 0 20), (20, i_getC 9 155 23), (23, i_push (.int 36) 25), (25, i_iload 3 26), (26, i_ii (fun x y => x * y) 27), (27, i_push (.int 6) 29), (29, i_iload 1 30), (30, i_ii (fun x y => x * y) 31), (31, i_ii (fun x y => x + y) 32), (32, i_iload 2 33), (33, i_ii (fun x y => x + y) 34), (34, i_dup2 35), (35, i_iald 36), (36, i_push (.int 1) 37), (37, i_ii (fun x y => x + y) 38), (38, i_iast 39), (39, i_aload 0 40), (40, i_getC 9 155 43), (43, i_push (.int 36) 45), (45, i_iload 3 46), (46, i_ii (fun x y => x * y) 47), (47, i_push (.int 6) 49), (49, i_iload 2 50), (50, i_ii (fun x y => x * y) 51), (51, i_ii (fun x y => x + y) 52), (52, i_iload 1 53), (53, i_ii (fun x y => x + y) 54), (54, i_dup2 55), (55, i_iald 56), (56, i_push (.int 1) 57), (57, i_ii (fun x y => x + y) 58), (58, i_iast 59)]
set_option maxRecDepth 100000 in
theorem okX9_tiesTwo : gOk YX9_tiesTwo tX9_tiesTwo := ok_c (sn_aload_n (show decode cX9_tiesTwo 0 = .ok (.aload_n 0, 1) by decide +kernel) rfl) <|
  ok_c (sn_iload_n (show decode cX9_tiesTwo 1 = .ok (.iload_n 1, 1) by decide +kernel) rfl) <|
  ok_c (sn_iload_n (show decode cX9_tiesTwo 2 = .ok (.iload_n 3, 1) by decide +kernel) rfl) <|
  ok_c (sn_if_ne (show decode cX9_tiesTwo 6 = .ok (.ifCond .ne 12, 3) by decide +kernel) (by decide)) <|
  ok_c (sn_aload_n (show decode cX9_tiesTwo 9 = .ok (.aload_n 0, 1) by decide +kernel) rfl) <|
  ok_c (sn_iload_n (show decode cX9_tiesTwo 10 = .ok (.iload_n 2, 1) by decide +kernel) rfl) <|
  ok_c (sn_iload_n (show decode cX9_tiesTwo 11 = .ok (.iload_n 3, 1) by decide +kernel) rfl) <|
  ok_c (sn_if_eq (show decode cX9_tiesTwo 15 = .ok (.ifCond .eq 4, 3) by decide +kernel) (by decide)) <|
  ok_c (sn_aload_n (show decode cX9_tiesTwo 19 = .ok (.aload_n 0, 1) by decide +kernel) rfl) <|
  ok_c (sn_getC (j := 33) (fun _ _ => rfl) (sn_get ck_9 (by decide) (show decode cX9_tiesTwo 20 = .ok (.getfield 56, 3) by decide +kernel) wd_6_10)) <|
  ok_c (sn_bipush (v := 36) (show decode cX9_tiesTwo 23 = .ok (.bipush 36, 2) by decide +kernel) (by decide +kernel)) <|
  ok_c (sn_iload_n (show decode cX9_tiesTwo 25 = .ok (.iload_n 3, 1) by decide +kernel) rfl) <|
  ok_c (sn_imul (show decode cX9_tiesTwo 26 = .ok (.imul, 1) by decide +kernel)) <|
  ok_c (sn_bipush (v := 6) (show decode cX9_tiesTwo 27 = .ok (.bipush 6, 2) by decide +kernel) (by decide +kernel)) <|
  ok_c (sn_iload_n (show decode cX9_tiesTwo 29 = .ok (.iload_n 1, 1) by decide +kernel) rfl) <|
  ok_c (sn_imul (show decode cX9_tiesTwo 30 = .ok (.imul, 1) by decide +kernel)) <|
  ok_c (sn_iadd (show decode cX9_tiesTwo 31 = .ok (.iadd, 1) by decide +kernel)) <|
  ok_c (sn_iload_n (show decode cX9_tiesTwo 32 = .ok (.iload_n 2, 1) by decide +kernel) rfl) <|
  ok_c (sn_iadd (show decode cX9_tiesTwo 33 = .ok (.iadd, 1) by decide +kernel)) <|
  ok_c (sn_dup2 (show decode cX9_tiesTwo 34 = .ok (.dup2, 1) by decide +kernel)) <|
  ok_c (sn_iald (show decode cX9_tiesTwo 35 = .ok (.iaload, 1) by decide +kernel)) <|
  ok_c (sn_iconst (v := 1) (show decode cX9_tiesTwo 36 = .ok (.iconst 1, 1) by decide +kernel) (by decide +kernel)) <|
  ok_c (sn_iadd (show decode cX9_tiesTwo 37 = .ok (.iadd, 1) by decide +kernel)) <|
  ok_c (sn_iast (show decode cX9_tiesTwo 38 = .ok (.iastore, 1) by decide +kernel)) <|
  ok_c (sn_aload_n (show decode cX9_tiesTwo 39 = .ok (.aload_n 0, 1) by decide +kernel) rfl) <|
  ok_c (sn_getC (j := 33) (fun _ _ => rfl) (sn_get ck_9 (by decide) (show decode cX9_tiesTwo 40 = .ok (.getfield 56, 3) by decide +kernel) wd_6_10)) <|
  ok_c (sn_bipush (v := 36) (show decode cX9_tiesTwo 43 = .ok (.bipush 36, 2) by decide +kernel) (by decide +kernel)) <|
  ok_c (sn_iload_n (show decode cX9_tiesTwo 45 = .ok (.iload_n 3, 1) by decide +kernel) rfl) <|
  ok_c (sn_imul (show decode cX9_tiesTwo 46 = .ok (.imul, 1) by decide +kernel)) <|
  ok_c (sn_bipush (v := 6) (show decode cX9_tiesTwo 47 = .ok (.bipush 6, 2) by decide +kernel) (by decide +kernel)) <|
  ok_c (sn_iload_n (show decode cX9_tiesTwo 49 = .ok (.iload_n 2, 1) by decide +kernel) rfl) <|
  ok_c (sn_imul (show decode cX9_tiesTwo 50 = .ok (.imul, 1) by decide +kernel)) <|
  ok_c (sn_iadd (show decode cX9_tiesTwo 51 = .ok (.iadd, 1) by decide +kernel)) <|
  ok_c (sn_iload_n (show decode cX9_tiesTwo 52 = .ok (.iload_n 1, 1) by decide +kernel) rfl) <|
  ok_c (sn_iadd (show decode cX9_tiesTwo 53 = .ok (.iadd, 1) by decide +kernel)) <|
  ok_c (sn_dup2 (show decode cX9_tiesTwo 54 = .ok (.dup2, 1) by decide +kernel)) <|
  ok_c (sn_iald (show decode cX9_tiesTwo 55 = .ok (.iaload, 1) by decide +kernel)) <|
  ok_c (sn_iconst (v := 1) (show decode cX9_tiesTwo 56 = .ok (.iconst 1, 1) by decide +kernel) (by decide +kernel)) <|
  ok_c (sn_iadd (show decode cX9_tiesTwo 57 = .ok (.iadd, 1) by decide +kernel)) <|
  ok_c (sn_iast (show decode cX9_tiesTwo 58 = .ok (.iastore, 1) by decide +kernel)) <|
  ok_n
def uX9_tiesTwo : gCT := [(3, YX9_isOut, 3, some 9), (12, YX9_isOut, 3, some 9)]
set_option maxRecDepth 100000 in
theorem ocX9_tiesTwo : gOkC YX9_tiesTwo uX9_tiesTwo := oc_c (gEdge_V cal_X9_isOut ck_9 rfl (show decode cX9_tiesTwo 3 = .ok (.invokevirtual 292, 3) by decide +kernel) wd_7_130 wd_7_132 wp_6_6) <|
  oc_c (gEdge_V cal_X9_isOut ck_9 rfl (show decode cX9_tiesTwo 12 = .ok (.invokevirtual 292, 3) by decide +kernel) wd_7_130 wd_7_132 wp_6_6) <|
  oc_n
theorem reX9_tiesTwo : ∀ pc ∈ [18, 59], decode cX9_tiesTwo pc = .ok (.return_, 1) := by decide +kernel
def tX9_isOut : List (Nat × gStp) := [(0, i_aload 0 1), (1, i_getC 9 156 4), (4, i_iload 1 5), (5, i_iald 6), (6, i_push (.int (-1)) 7), (7, i_ic_eq 24 10), (10, i_aload 0 11), (11, i_getC 9 156 14), (14, i_iload 1 15), (15, i_iald 16), (16, i_iload 2 17), (17, i_ic_gt 24 20), (20, i_push (.int 1) 21), (21, i_goto 25), (24, i_push (.int 0) 25)]
set_option maxRecDepth 100000 in
theorem okX9_isOut : gOk YX9_isOut tX9_isOut := ok_c (sn_aload_n (show decode cX9_isOut 0 = .ok (.aload_n 0, 1) by decide +kernel) rfl) <|
  ok_c (sn_getC (j := 34) (fun _ _ => rfl) (sn_get ck_9 (by decide) (show decode cX9_isOut 1 = .ok (.getfield 59, 3) by decide +kernel) wd_6_11)) <|
  ok_c (sn_iload_n (show decode cX9_isOut 4 = .ok (.iload_n 1, 1) by decide +kernel) rfl) <|
  ok_c (sn_iald (show decode cX9_isOut 5 = .ok (.iaload, 1) by decide +kernel)) <|
  ok_c (sn_iconst (v := (-1)) (show decode cX9_isOut 6 = .ok (.iconst (-1), 1) by decide +kernel) (by decide +kernel)) <|
  ok_c (sn_ic_eq (show decode cX9_isOut 7 = .ok (.if_icmp .eq 17, 3) by decide +kernel) (by decide)) <|
  ok_c (sn_aload_n (show decode cX9_isOut 10 = .ok (.aload_n 0, 1) by decide +kernel) rfl) <|
  ok_c (sn_getC (j := 34) (fun _ _ => rfl) (sn_get ck_9 (by decide) (show decode cX9_isOut 11 = .ok (.getfield 59, 3) by decide +kernel) wd_6_11)) <|
  ok_c (sn_iload_n (show decode cX9_isOut 14 = .ok (.iload_n 1, 1) by decide +kernel) rfl) <|
  ok_c (sn_iald (show decode cX9_isOut 15 = .ok (.iaload, 1) by decide +kernel)) <|
  ok_c (sn_iload_n (show decode cX9_isOut 16 = .ok (.iload_n 2, 1) by decide +kernel) rfl) <|
  ok_c (sn_ic_gt (show decode cX9_isOut 17 = .ok (.if_icmp .gt 7, 3) by decide +kernel) (by decide)) <|
  ok_c (sn_iconst (v := 1) (show decode cX9_isOut 20 = .ok (.iconst 1, 1) by decide +kernel) (by decide +kernel)) <|
  ok_c (sn_goto (show decode cX9_isOut 21 = .ok (.goto 4, 3) by decide +kernel) (by decide)) <|
  ok_c (sn_iconst (v := 0) (show decode cX9_isOut 24 = .ok (.iconst 0, 1) by decide +kernel) (by decide +kernel)) <|
  ok_n
theorem reX9_isOut : ∀ pc ∈ [25], decode cX9_isOut pc = .ok (.ireturn, 1) := by decide +kernel
def tX9_laysTies : List (Nat × gStp) := [(0, i_push (.int 0) 1), (1, i_istore 2 2), (2, i_iload 2 3), (3, i_push (.int 36) 5), (5, i_ic_ge 26 8), (8, i_aload 0 9), (9, i_getC 9 155 12), (12, i_push (.int 36) 14), (14, i_iload 1 15), (15, i_ii (fun x y => x * y) 16), (16, i_iload 2 17), (17, i_ii (fun x y => x + y) 18), (18, i_push (.int 0) 19), (19, i_iast 20), (20, i_iinc 2 1 23), (23, i_goto 2), (26, i_push (.int 0) 27), (27, i_istore 2 28), (28, i_iload 2 29), (29, i_aload 0 30), (33, i_ic_ge 74 36), (36, i_aload 0 37), (37, i_iload 2 38), (38, i_iload 1 39), (42, i_if_eq 68 45), (45, i_aload 0 46), (46, i_aload 0 47), (47, i_getC 9 150 50), (50, i_push (.int 3) 51), (51, i_iload 2 52), (52, i_ii (fun x y => x * y) 53), (53, i_iald 54), (54, i_aload 0 55), (55, i_getC 9 150 58), (58, i_push (.int 3) 59), (59, i_iload 2 60), (60, i_ii (fun x y => x * y) 61), (61, i_push (.int 1) 62), (62, i_ii (fun x y => x + y) 63), (63, i_iald 64), (64, i_iload 1 65), (68, i_iinc 2 1 71), (71, i_goto 28), (74, i_push (.int 0) 75), (75, i_istore 2 76), (76, i_iload 2 77), (77, i_aload 0 78), (78, i_getC 9 148 81), (81, i_push (.int 8) 83), (83, i_iald 84), (84, i_ic_ge 183 87), (87, i_aload 0 88), (88, i_getI 9 32 91), (91, i_if_eq 183 94), (94, i_aload 0 95), (95, i_getC 9 153 98), (98, i_push (.int 4) 99), (99, i_iload 2 100), (100, i_ii (fun x y => x * y) 101), (101, i_push (.int 3) 102), (102, i_ii (fun x y => x + y) 103), (103, i_iald 104), (104, i_if_le 177 107), (107, i_aload 0 108), (108, i_aload 0 109), (109, i_getC 9 153 112), (112, i_push (.int 4) 113), (113, i_iload 2 114), (114, i_ii (fun x y => x * y) 115), (115, i_iald 116), (116, i_aload 0 117), (117, i_getC 9 153 120), (120, i_push (.int 4) 121), (121, i_iload 2 122), (122, i_ii (fun x y => x * y) 123), (123, i_push (.int 1) 124), (124, i_ii (fun x y => x + y) 125), (125, i_iald 126), (126, i_aload 0 127), (127, i_getC 9 153 130), (130, i_push (.int 4) 131), (131, i_iload 2 132), (132, i_ii (fun x y => x * y) 133), (133, i_push (.int 2) 134), (134, i_ii (fun x y => x + y) 135), (135, i_iald 136), (136, i_aload 0 137), (137, i_getC 9 153 140), (140, i_push (.int 4) 141), (141, i_iload 2 142), (142, i_ii (fun x y => x * y) 143), (143, i_push (.int 3) 144), (144, i_ii (fun x y => x + y) 145), (145, i_iald 146), (146, i_iload 2 147), (147, i_iload 1 148), (151, i_if_eq 177 154), (154, i_aload 0 155), (155, i_aload 0 156), (156, i_getC 9 153 159), (159, i_push (.int 4) 160), (160, i_iload 2 161), (161, i_ii (fun x y => x * y) 162), (162, i_iald 163), (163, i_aload 0 164), (164, i_getC 9 153 167), (167, i_push (.int 4) 168), (168, i_iload 2 169), (169, i_ii (fun x y => x * y) 170), (170, i_push (.int 1) 171), (171, i_ii (fun x y => x + y) 172), (172, i_iald 173), (173, i_iload 1 174), (177, i_iinc 2 1 180), (180, i_goto 76), (183, i_aload 0 184), (184, i_getI 9 30 187), (187, i_push (.int (-1)) 188), (188, i_ic_eq 228 191), (191, i_aload 0 192), (192, i_aload 0 193), (193, i_getI 9 28 196), (196, i_aload 0 197), (197, i_getI 9 29 200), (200, i_aload 0 201), (201, i_getI 9 30 204), (204, i_push (.int 9) 206), (206, i_push (.int 100000) 208), (208, i_iload 1 209), (212, i_if_eq 228 215), (215, i_aload 0 216), (216, i_aload 0 217), (217, i_getI 9 28 220), (220, i_aload 0 221), (221, i_getI 9 29 224), (224, i_iload 1 225)]
set_option maxRecDepth 100000 in
theorem okX9_laysTies : gOk YX9_laysTies tX9_laysTies := ok_c (sn_iconst (v := 0) (show decode cX9_laysTies 0 = .ok (.iconst 0, 1) by decide +kernel) (by decide +kernel)) <|
  ok_c (sn_istore_n (show decode cX9_laysTies 1 = .ok (.istore_n 2, 1) by decide +kernel) rfl (by decide)) <|
  ok_c (sn_iload_n (show decode cX9_laysTies 2 = .ok (.iload_n 2, 1) by decide +kernel) rfl) <|
  ok_c (sn_bipush (v := 36) (show decode cX9_laysTies 3 = .ok (.bipush 36, 2) by decide +kernel) (by decide +kernel)) <|
  ok_c (sn_ic_ge (show decode cX9_laysTies 5 = .ok (.if_icmp .ge 21, 3) by decide +kernel) (by decide)) <|
  ok_c (sn_aload_n (show decode cX9_laysTies 8 = .ok (.aload_n 0, 1) by decide +kernel) rfl) <|
  ok_c (sn_getC (j := 33) (fun _ _ => rfl) (sn_get ck_9 (by decide) (show decode cX9_laysTies 9 = .ok (.getfield 56, 3) by decide +kernel) wd_6_10)) <|
  ok_c (sn_bipush (v := 36) (show decode cX9_laysTies 12 = .ok (.bipush 36, 2) by decide +kernel) (by decide +kernel)) <|
  ok_c (sn_iload_n (show decode cX9_laysTies 14 = .ok (.iload_n 1, 1) by decide +kernel) rfl) <|
  ok_c (sn_imul (show decode cX9_laysTies 15 = .ok (.imul, 1) by decide +kernel)) <|
  ok_c (sn_iload_n (show decode cX9_laysTies 16 = .ok (.iload_n 2, 1) by decide +kernel) rfl) <|
  ok_c (sn_iadd (show decode cX9_laysTies 17 = .ok (.iadd, 1) by decide +kernel)) <|
  ok_c (sn_iconst (v := 0) (show decode cX9_laysTies 18 = .ok (.iconst 0, 1) by decide +kernel) (by decide +kernel)) <|
  ok_c (sn_iast (show decode cX9_laysTies 19 = .ok (.iastore, 1) by decide +kernel)) <|
  ok_c (sn_iinc (show decode cX9_laysTies 20 = .ok (.iinc 2 1, 3) by decide +kernel) (by decide) (by decide +kernel)) <|
  ok_c (sn_goto (show decode cX9_laysTies 23 = .ok (.goto (-21), 3) by decide +kernel) (by decide)) <|
  ok_c (sn_iconst (v := 0) (show decode cX9_laysTies 26 = .ok (.iconst 0, 1) by decide +kernel) (by decide +kernel)) <|
  ok_c (sn_istore_n (show decode cX9_laysTies 27 = .ok (.istore_n 2, 1) by decide +kernel) rfl (by decide)) <|
  ok_c (sn_iload_n (show decode cX9_laysTies 28 = .ok (.iload_n 2, 1) by decide +kernel) rfl) <|
  ok_c (sn_aload_n (show decode cX9_laysTies 29 = .ok (.aload_n 0, 1) by decide +kernel) rfl) <|
  ok_c (sn_ic_ge (show decode cX9_laysTies 33 = .ok (.if_icmp .ge 41, 3) by decide +kernel) (by decide)) <|
  ok_c (sn_aload_n (show decode cX9_laysTies 36 = .ok (.aload_n 0, 1) by decide +kernel) rfl) <|
  ok_c (sn_iload_n (show decode cX9_laysTies 37 = .ok (.iload_n 2, 1) by decide +kernel) rfl) <|
  ok_c (sn_iload_n (show decode cX9_laysTies 38 = .ok (.iload_n 1, 1) by decide +kernel) rfl) <|
  ok_c (sn_if_eq (show decode cX9_laysTies 42 = .ok (.ifCond .eq 26, 3) by decide +kernel) (by decide)) <|
  ok_c (sn_aload_n (show decode cX9_laysTies 45 = .ok (.aload_n 0, 1) by decide +kernel) rfl) <|
  ok_c (sn_aload_n (show decode cX9_laysTies 46 = .ok (.aload_n 0, 1) by decide +kernel) rfl) <|
  ok_c (sn_getC (j := 19) (fun _ _ => rfl) (sn_get ck_9 (by decide) (show decode cX9_laysTies 47 = .ok (.getfield 40, 3) by decide +kernel) wd_5_236)) <|
  ok_c (sn_iconst (v := 3) (show decode cX9_laysTies 50 = .ok (.iconst 3, 1) by decide +kernel) (by decide +kernel)) <|
  ok_c (sn_iload_n (show decode cX9_laysTies 51 = .ok (.iload_n 2, 1) by decide +kernel) rfl) <|
  ok_c (sn_imul (show decode cX9_laysTies 52 = .ok (.imul, 1) by decide +kernel)) <|
  ok_c (sn_iald (show decode cX9_laysTies 53 = .ok (.iaload, 1) by decide +kernel)) <|
  ok_c (sn_aload_n (show decode cX9_laysTies 54 = .ok (.aload_n 0, 1) by decide +kernel) rfl) <|
  ok_c (sn_getC (j := 19) (fun _ _ => rfl) (sn_get ck_9 (by decide) (show decode cX9_laysTies 55 = .ok (.getfield 40, 3) by decide +kernel) wd_5_236)) <|
  ok_c (sn_iconst (v := 3) (show decode cX9_laysTies 58 = .ok (.iconst 3, 1) by decide +kernel) (by decide +kernel)) <|
  ok_c (sn_iload_n (show decode cX9_laysTies 59 = .ok (.iload_n 2, 1) by decide +kernel) rfl) <|
  ok_c (sn_imul (show decode cX9_laysTies 60 = .ok (.imul, 1) by decide +kernel)) <|
  ok_c (sn_iconst (v := 1) (show decode cX9_laysTies 61 = .ok (.iconst 1, 1) by decide +kernel) (by decide +kernel)) <|
  ok_c (sn_iadd (show decode cX9_laysTies 62 = .ok (.iadd, 1) by decide +kernel)) <|
  ok_c (sn_iald (show decode cX9_laysTies 63 = .ok (.iaload, 1) by decide +kernel)) <|
  ok_c (sn_iload_n (show decode cX9_laysTies 64 = .ok (.iload_n 1, 1) by decide +kernel) rfl) <|
  ok_c (sn_iinc (show decode cX9_laysTies 68 = .ok (.iinc 2 1, 3) by decide +kernel) (by decide) (by decide +kernel)) <|
  ok_c (sn_goto (show decode cX9_laysTies 71 = .ok (.goto (-43), 3) by decide +kernel) (by decide)) <|
  ok_c (sn_iconst (v := 0) (show decode cX9_laysTies 74 = .ok (.iconst 0, 1) by decide +kernel) (by decide +kernel)) <|
  ok_c (sn_istore_n (show decode cX9_laysTies 75 = .ok (.istore_n 2, 1) by decide +kernel) rfl (by decide)) <|
  ok_c (sn_iload_n (show decode cX9_laysTies 76 = .ok (.iload_n 2, 1) by decide +kernel) rfl) <|
  ok_c (sn_aload_n (show decode cX9_laysTies 77 = .ok (.aload_n 0, 1) by decide +kernel) rfl) <|
  ok_c (sn_getC (j := 17) (fun _ _ => rfl) (sn_get ck_9 (by decide) (show decode cX9_laysTies 78 = .ok (.getfield 34, 3) by decide +kernel) wd_5_234)) <|
  ok_c (sn_bipush (v := 8) (show decode cX9_laysTies 81 = .ok (.bipush 8, 2) by decide +kernel) (by decide +kernel)) <|
  ok_c (sn_iald (show decode cX9_laysTies 83 = .ok (.iaload, 1) by decide +kernel)) <|
  ok_c (sn_ic_ge (show decode cX9_laysTies 84 = .ok (.if_icmp .ge 99, 3) by decide +kernel) (by decide)) <|
  ok_c (sn_aload_n (show decode cX9_laysTies 87 = .ok (.aload_n 0, 1) by decide +kernel) rfl) <|
  ok_c (sn_getI (fun _ _ => rfl) (sn_get ck_9 (by decide) (show decode cX9_laysTies 88 = .ok (.getfield 277, 3) by decide +kernel) wd_6_9)) <|
  ok_c (sn_if_eq (show decode cX9_laysTies 91 = .ok (.ifCond .eq 92, 3) by decide +kernel) (by decide)) <|
  ok_c (sn_aload_n (show decode cX9_laysTies 94 = .ok (.aload_n 0, 1) by decide +kernel) rfl) <|
  ok_c (sn_getC (j := 22) (fun _ _ => rfl) (sn_get ck_9 (by decide) (show decode cX9_laysTies 95 = .ok (.getfield 49, 3) by decide +kernel) wd_5_239)) <|
  ok_c (sn_iconst (v := 4) (show decode cX9_laysTies 98 = .ok (.iconst 4, 1) by decide +kernel) (by decide +kernel)) <|
  ok_c (sn_iload_n (show decode cX9_laysTies 99 = .ok (.iload_n 2, 1) by decide +kernel) rfl) <|
  ok_c (sn_imul (show decode cX9_laysTies 100 = .ok (.imul, 1) by decide +kernel)) <|
  ok_c (sn_iconst (v := 3) (show decode cX9_laysTies 101 = .ok (.iconst 3, 1) by decide +kernel) (by decide +kernel)) <|
  ok_c (sn_iadd (show decode cX9_laysTies 102 = .ok (.iadd, 1) by decide +kernel)) <|
  ok_c (sn_iald (show decode cX9_laysTies 103 = .ok (.iaload, 1) by decide +kernel)) <|
  ok_c (sn_if_le (show decode cX9_laysTies 104 = .ok (.ifCond .le 73, 3) by decide +kernel) (by decide)) <|
  ok_c (sn_aload_n (show decode cX9_laysTies 107 = .ok (.aload_n 0, 1) by decide +kernel) rfl) <|
  ok_c (sn_aload_n (show decode cX9_laysTies 108 = .ok (.aload_n 0, 1) by decide +kernel) rfl) <|
  ok_c (sn_getC (j := 22) (fun _ _ => rfl) (sn_get ck_9 (by decide) (show decode cX9_laysTies 109 = .ok (.getfield 49, 3) by decide +kernel) wd_5_239)) <|
  ok_c (sn_iconst (v := 4) (show decode cX9_laysTies 112 = .ok (.iconst 4, 1) by decide +kernel) (by decide +kernel)) <|
  ok_c (sn_iload_n (show decode cX9_laysTies 113 = .ok (.iload_n 2, 1) by decide +kernel) rfl) <|
  ok_c (sn_imul (show decode cX9_laysTies 114 = .ok (.imul, 1) by decide +kernel)) <|
  ok_c (sn_iald (show decode cX9_laysTies 115 = .ok (.iaload, 1) by decide +kernel)) <|
  ok_c (sn_aload_n (show decode cX9_laysTies 116 = .ok (.aload_n 0, 1) by decide +kernel) rfl) <|
  ok_c (sn_getC (j := 22) (fun _ _ => rfl) (sn_get ck_9 (by decide) (show decode cX9_laysTies 117 = .ok (.getfield 49, 3) by decide +kernel) wd_5_239)) <|
  ok_c (sn_iconst (v := 4) (show decode cX9_laysTies 120 = .ok (.iconst 4, 1) by decide +kernel) (by decide +kernel)) <|
  ok_c (sn_iload_n (show decode cX9_laysTies 121 = .ok (.iload_n 2, 1) by decide +kernel) rfl) <|
  ok_c (sn_imul (show decode cX9_laysTies 122 = .ok (.imul, 1) by decide +kernel)) <|
  ok_c (sn_iconst (v := 1) (show decode cX9_laysTies 123 = .ok (.iconst 1, 1) by decide +kernel) (by decide +kernel)) <|
  ok_c (sn_iadd (show decode cX9_laysTies 124 = .ok (.iadd, 1) by decide +kernel)) <|
  ok_c (sn_iald (show decode cX9_laysTies 125 = .ok (.iaload, 1) by decide +kernel)) <|
  ok_c (sn_aload_n (show decode cX9_laysTies 126 = .ok (.aload_n 0, 1) by decide +kernel) rfl) <|
  ok_c (sn_getC (j := 22) (fun _ _ => rfl) (sn_get ck_9 (by decide) (show decode cX9_laysTies 127 = .ok (.getfield 49, 3) by decide +kernel) wd_5_239)) <|
  ok_c (sn_iconst (v := 4) (show decode cX9_laysTies 130 = .ok (.iconst 4, 1) by decide +kernel) (by decide +kernel)) <|
  ok_c (sn_iload_n (show decode cX9_laysTies 131 = .ok (.iload_n 2, 1) by decide +kernel) rfl) <|
  ok_c (sn_imul (show decode cX9_laysTies 132 = .ok (.imul, 1) by decide +kernel)) <|
  ok_c (sn_iconst (v := 2) (show decode cX9_laysTies 133 = .ok (.iconst 2, 1) by decide +kernel) (by decide +kernel)) <|
  ok_c (sn_iadd (show decode cX9_laysTies 134 = .ok (.iadd, 1) by decide +kernel)) <|
  ok_c (sn_iald (show decode cX9_laysTies 135 = .ok (.iaload, 1) by decide +kernel)) <|
  ok_c (sn_aload_n (show decode cX9_laysTies 136 = .ok (.aload_n 0, 1) by decide +kernel) rfl) <|
  ok_c (sn_getC (j := 22) (fun _ _ => rfl) (sn_get ck_9 (by decide) (show decode cX9_laysTies 137 = .ok (.getfield 49, 3) by decide +kernel) wd_5_239)) <|
  ok_c (sn_iconst (v := 4) (show decode cX9_laysTies 140 = .ok (.iconst 4, 1) by decide +kernel) (by decide +kernel)) <|
  ok_c (sn_iload_n (show decode cX9_laysTies 141 = .ok (.iload_n 2, 1) by decide +kernel) rfl) <|
  ok_c (sn_imul (show decode cX9_laysTies 142 = .ok (.imul, 1) by decide +kernel)) <|
  ok_c (sn_iconst (v := 3) (show decode cX9_laysTies 143 = .ok (.iconst 3, 1) by decide +kernel) (by decide +kernel)) <|
  ok_c (sn_iadd (show decode cX9_laysTies 144 = .ok (.iadd, 1) by decide +kernel)) <|
  ok_c (sn_iald (show decode cX9_laysTies 145 = .ok (.iaload, 1) by decide +kernel)) <|
  ok_c (sn_iload_n (show decode cX9_laysTies 146 = .ok (.iload_n 2, 1) by decide +kernel) rfl) <|
  ok_c (sn_iload_n (show decode cX9_laysTies 147 = .ok (.iload_n 1, 1) by decide +kernel) rfl) <|
  ok_c (sn_if_eq (show decode cX9_laysTies 151 = .ok (.ifCond .eq 26, 3) by decide +kernel) (by decide)) <|
  ok_c (sn_aload_n (show decode cX9_laysTies 154 = .ok (.aload_n 0, 1) by decide +kernel) rfl) <|
  ok_c (sn_aload_n (show decode cX9_laysTies 155 = .ok (.aload_n 0, 1) by decide +kernel) rfl) <|
  ok_c (sn_getC (j := 22) (fun _ _ => rfl) (sn_get ck_9 (by decide) (show decode cX9_laysTies 156 = .ok (.getfield 49, 3) by decide +kernel) wd_5_239)) <|
  ok_c (sn_iconst (v := 4) (show decode cX9_laysTies 159 = .ok (.iconst 4, 1) by decide +kernel) (by decide +kernel)) <|
  ok_c (sn_iload_n (show decode cX9_laysTies 160 = .ok (.iload_n 2, 1) by decide +kernel) rfl) <|
  ok_c (sn_imul (show decode cX9_laysTies 161 = .ok (.imul, 1) by decide +kernel)) <|
  ok_c (sn_iald (show decode cX9_laysTies 162 = .ok (.iaload, 1) by decide +kernel)) <|
  ok_c (sn_aload_n (show decode cX9_laysTies 163 = .ok (.aload_n 0, 1) by decide +kernel) rfl) <|
  ok_c (sn_getC (j := 22) (fun _ _ => rfl) (sn_get ck_9 (by decide) (show decode cX9_laysTies 164 = .ok (.getfield 49, 3) by decide +kernel) wd_5_239)) <|
  ok_c (sn_iconst (v := 4) (show decode cX9_laysTies 167 = .ok (.iconst 4, 1) by decide +kernel) (by decide +kernel)) <|
  ok_c (sn_iload_n (show decode cX9_laysTies 168 = .ok (.iload_n 2, 1) by decide +kernel) rfl) <|
  ok_c (sn_imul (show decode cX9_laysTies 169 = .ok (.imul, 1) by decide +kernel)) <|
  ok_c (sn_iconst (v := 1) (show decode cX9_laysTies 170 = .ok (.iconst 1, 1) by decide +kernel) (by decide +kernel)) <|
  ok_c (sn_iadd (show decode cX9_laysTies 171 = .ok (.iadd, 1) by decide +kernel)) <|
  ok_c (sn_iald (show decode cX9_laysTies 172 = .ok (.iaload, 1) by decide +kernel)) <|
  ok_c (sn_iload_n (show decode cX9_laysTies 173 = .ok (.iload_n 1, 1) by decide +kernel) rfl) <|
  ok_c (sn_iinc (show decode cX9_laysTies 177 = .ok (.iinc 2 1, 3) by decide +kernel) (by decide) (by decide +kernel)) <|
  ok_c (sn_goto (show decode cX9_laysTies 180 = .ok (.goto (-104), 3) by decide +kernel) (by decide)) <|
  ok_c (sn_aload_n (show decode cX9_laysTies 183 = .ok (.aload_n 0, 1) by decide +kernel) rfl) <|
  ok_c (sn_getI (fun _ _ => rfl) (sn_get ck_9 (by decide) (show decode cX9_laysTies 184 = .ok (.getfield 271, 3) by decide +kernel) wd_6_7)) <|
  ok_c (sn_iconst (v := (-1)) (show decode cX9_laysTies 187 = .ok (.iconst (-1), 1) by decide +kernel) (by decide +kernel)) <|
  ok_c (sn_ic_eq (show decode cX9_laysTies 188 = .ok (.if_icmp .eq 40, 3) by decide +kernel) (by decide)) <|
  ok_c (sn_aload_n (show decode cX9_laysTies 191 = .ok (.aload_n 0, 1) by decide +kernel) rfl) <|
  ok_c (sn_aload_n (show decode cX9_laysTies 192 = .ok (.aload_n 0, 1) by decide +kernel) rfl) <|
  ok_c (sn_getI (fun _ _ => rfl) (sn_get ck_9 (by decide) (show decode cX9_laysTies 193 = .ok (.getfield 302, 3) by decide +kernel) wd_6_5)) <|
  ok_c (sn_aload_n (show decode cX9_laysTies 196 = .ok (.aload_n 0, 1) by decide +kernel) rfl) <|
  ok_c (sn_getI (fun _ _ => rfl) (sn_get ck_9 (by decide) (show decode cX9_laysTies 197 = .ok (.getfield 305, 3) by decide +kernel) wd_6_6)) <|
  ok_c (sn_aload_n (show decode cX9_laysTies 200 = .ok (.aload_n 0, 1) by decide +kernel) rfl) <|
  ok_c (sn_getI (fun _ _ => rfl) (sn_get ck_9 (by decide) (show decode cX9_laysTies 201 = .ok (.getfield 271, 3) by decide +kernel) wd_6_7)) <|
  ok_c (sn_bipush (v := 9) (show decode cX9_laysTies 204 = .ok (.bipush 9, 2) by decide +kernel) (by decide +kernel)) <|
  ok_c (sn_ldc (show decode cX9_laysTies 206 = .ok (.ldc 127, 2) by decide +kernel) wd_6_191) <|
  ok_c (sn_iload_n (show decode cX9_laysTies 208 = .ok (.iload_n 1, 1) by decide +kernel) rfl) <|
  ok_c (sn_if_eq (show decode cX9_laysTies 212 = .ok (.ifCond .eq 16, 3) by decide +kernel) (by decide)) <|
  ok_c (sn_aload_n (show decode cX9_laysTies 215 = .ok (.aload_n 0, 1) by decide +kernel) rfl) <|
  ok_c (sn_aload_n (show decode cX9_laysTies 216 = .ok (.aload_n 0, 1) by decide +kernel) rfl) <|
  ok_c (sn_getI (fun _ _ => rfl) (sn_get ck_9 (by decide) (show decode cX9_laysTies 217 = .ok (.getfield 302, 3) by decide +kernel) wd_6_5)) <|
  ok_c (sn_aload_n (show decode cX9_laysTies 220 = .ok (.aload_n 0, 1) by decide +kernel) rfl) <|
  ok_c (sn_getI (fun _ _ => rfl) (sn_get ck_9 (by decide) (show decode cX9_laysTies 221 = .ok (.getfield 305, 3) by decide +kernel) wd_6_6)) <|
  ok_c (sn_iload_n (show decode cX9_laysTies 224 = .ok (.iload_n 1, 1) by decide +kernel) rfl) <|
  ok_n
def uX9_laysTies : gCT := [(30, YX9_joins, 1, some 9), (39, YX9_isTold, 3, some 9), (65, YX9_tiesTwo, 4, some 9), (148, YX9_isHolding, 7, some 9), (174, YX9_tiesTwo, 4, some 9), (209, YX9_isHolding, 7, some 9), (225, YX9_tiesTwo, 4, some 9)]
set_option maxRecDepth 100000 in
theorem ocX9_laysTies : gOkC YX9_laysTies uX9_laysTies := oc_c (gEdge_V cal_X9_joins ck_9 rfl (show decode cX9_laysTies 30 = .ok (.invokevirtual 250, 3) by decide +kernel) wd_7_63 wd_7_65 wp_5_8) <|
  oc_c (gEdge_V cal_X9_isTold ck_9 rfl (show decode cX9_laysTies 39 = .ok (.invokevirtual 295, 3) by decide +kernel) wd_7_111 wd_7_113 wp_6_2) <|
  oc_c (gEdge_V cal_X9_tiesTwo ck_9 rfl (show decode cX9_laysTies 65 = .ok (.invokevirtual 298, 3) by decide +kernel) wd_7_126 wd_7_128 wp_6_5) <|
  oc_c (gEdge_V cal_X9_isHolding ck_9 rfl (show decode cX9_laysTies 148 = .ok (.invokevirtual 288, 3) by decide +kernel) wd_7_118 wd_7_120 wp_6_3) <|
  oc_c (gEdge_V cal_X9_tiesTwo ck_9 rfl (show decode cX9_laysTies 174 = .ok (.invokevirtual 298, 3) by decide +kernel) wd_7_126 wd_7_128 wp_6_5) <|
  oc_c (gEdge_V cal_X9_isHolding ck_9 rfl (show decode cX9_laysTies 209 = .ok (.invokevirtual 288, 3) by decide +kernel) wd_7_118 wd_7_120 wp_6_3) <|
  oc_c (gEdge_V cal_X9_tiesTwo ck_9 rfl (show decode cX9_laysTies 225 = .ok (.invokevirtual 298, 3) by decide +kernel) wd_7_126 wd_7_128 wp_6_5) <|
  oc_n
theorem reX9_laysTies : ∀ pc ∈ [228], decode cX9_laysTies pc = .ok (.return_, 1) := by decide +kernel
def tX9_firmOf : List (Nat × gStp) := [(0, i_aload 0 1), (1, i_iload 1 2), (2, i_iload 2 3), (6, i_if_eq 11 9), (9, i_push (.int 0) 10), (11, i_push (.int 1) 12), (12, i_iload 1 13), (13, i_ii (fun x y => x <<< (y &&& 31)) 14), (14, i_istore 3 15), (15, i_push (.int 0) 16), (16, i_istore 4 18), (18, i_iload 4 20), (20, i_aload 0 21), (24, i_ic_ge 106 27), (27, i_push (.int 0) 28), (28, i_istore 5 30), (30, i_iload 5 32), (32, i_aload 0 33), (36, i_ic_ge 100 39), (39, i_push (.int 0) 40), (40, i_istore 6 42), (42, i_iload 6 44), (44, i_aload 0 45), (48, i_ic_ge 94 51), (51, i_iload 3 52), (52, i_iload 5 54), (57, i_if_eq 88 60), (60, i_aload 0 61), (61, i_getC 9 155 64), (64, i_push (.int 36) 66), (66, i_iload 2 67), (67, i_ii (fun x y => x * y) 68), (68, i_push (.int 6) 70), (70, i_iload 5 72), (72, i_ii (fun x y => x * y) 73), (73, i_ii (fun x y => x + y) 74), (74, i_iload 6 76), (76, i_ii (fun x y => x + y) 77), (77, i_iald 78), (78, i_if_le 88 81), (81, i_iload 3 82), (82, i_push (.int 1) 83), (83, i_iload 6 85), (85, i_ii (fun x y => x <<< (y &&& 31)) 86), (86, i_ii (fun x y => x ||| y) 87), (87, i_istore 3 88), (88, i_iinc 6 1 91), (91, i_goto 42), (94, i_iinc 5 1 97), (97, i_goto 30), (100, i_iinc 4 1 103), (103, i_goto 18), (106, i_iload 3 107)]
set_option maxRecDepth 100000 in
theorem okX9_firmOf : gOk YX9_firmOf tX9_firmOf := ok_c (sn_aload_n (show decode cX9_firmOf 0 = .ok (.aload_n 0, 1) by decide +kernel) rfl) <|
  ok_c (sn_iload_n (show decode cX9_firmOf 1 = .ok (.iload_n 1, 1) by decide +kernel) rfl) <|
  ok_c (sn_iload_n (show decode cX9_firmOf 2 = .ok (.iload_n 2, 1) by decide +kernel) rfl) <|
  ok_c (sn_if_eq (show decode cX9_firmOf 6 = .ok (.ifCond .eq 5, 3) by decide +kernel) (by decide)) <|
  ok_c (sn_iconst (v := 0) (show decode cX9_firmOf 9 = .ok (.iconst 0, 1) by decide +kernel) (by decide +kernel)) <|
  ok_c (sn_iconst (v := 1) (show decode cX9_firmOf 11 = .ok (.iconst 1, 1) by decide +kernel) (by decide +kernel)) <|
  ok_c (sn_iload_n (show decode cX9_firmOf 12 = .ok (.iload_n 1, 1) by decide +kernel) rfl) <|
  ok_c (sn_ishl (show decode cX9_firmOf 13 = .ok (.ishl, 1) by decide +kernel)) <|
  ok_c (sn_istore_n (show decode cX9_firmOf 14 = .ok (.istore_n 3, 1) by decide +kernel) rfl (by decide)) <|
  ok_c (sn_iconst (v := 0) (show decode cX9_firmOf 15 = .ok (.iconst 0, 1) by decide +kernel) (by decide +kernel)) <|
  ok_c (sn_istore (show decode cX9_firmOf 16 = .ok (.istore 4, 2) by decide +kernel) (by decide)) <|
  ok_c (sn_iload (show decode cX9_firmOf 18 = .ok (.iload 4, 2) by decide +kernel)) <|
  ok_c (sn_aload_n (show decode cX9_firmOf 20 = .ok (.aload_n 0, 1) by decide +kernel) rfl) <|
  ok_c (sn_ic_ge (show decode cX9_firmOf 24 = .ok (.if_icmp .ge 82, 3) by decide +kernel) (by decide)) <|
  ok_c (sn_iconst (v := 0) (show decode cX9_firmOf 27 = .ok (.iconst 0, 1) by decide +kernel) (by decide +kernel)) <|
  ok_c (sn_istore (show decode cX9_firmOf 28 = .ok (.istore 5, 2) by decide +kernel) (by decide)) <|
  ok_c (sn_iload (show decode cX9_firmOf 30 = .ok (.iload 5, 2) by decide +kernel)) <|
  ok_c (sn_aload_n (show decode cX9_firmOf 32 = .ok (.aload_n 0, 1) by decide +kernel) rfl) <|
  ok_c (sn_ic_ge (show decode cX9_firmOf 36 = .ok (.if_icmp .ge 64, 3) by decide +kernel) (by decide)) <|
  ok_c (sn_iconst (v := 0) (show decode cX9_firmOf 39 = .ok (.iconst 0, 1) by decide +kernel) (by decide +kernel)) <|
  ok_c (sn_istore (show decode cX9_firmOf 40 = .ok (.istore 6, 2) by decide +kernel) (by decide)) <|
  ok_c (sn_iload (show decode cX9_firmOf 42 = .ok (.iload 6, 2) by decide +kernel)) <|
  ok_c (sn_aload_n (show decode cX9_firmOf 44 = .ok (.aload_n 0, 1) by decide +kernel) rfl) <|
  ok_c (sn_ic_ge (show decode cX9_firmOf 48 = .ok (.if_icmp .ge 46, 3) by decide +kernel) (by decide)) <|
  ok_c (sn_iload_n (show decode cX9_firmOf 51 = .ok (.iload_n 3, 1) by decide +kernel) rfl) <|
  ok_c (sn_iload (show decode cX9_firmOf 52 = .ok (.iload 5, 2) by decide +kernel)) <|
  ok_c (sn_if_eq (show decode cX9_firmOf 57 = .ok (.ifCond .eq 31, 3) by decide +kernel) (by decide)) <|
  ok_c (sn_aload_n (show decode cX9_firmOf 60 = .ok (.aload_n 0, 1) by decide +kernel) rfl) <|
  ok_c (sn_getC (j := 33) (fun _ _ => rfl) (sn_get ck_9 (by decide) (show decode cX9_firmOf 61 = .ok (.getfield 56, 3) by decide +kernel) wd_6_10)) <|
  ok_c (sn_bipush (v := 36) (show decode cX9_firmOf 64 = .ok (.bipush 36, 2) by decide +kernel) (by decide +kernel)) <|
  ok_c (sn_iload_n (show decode cX9_firmOf 66 = .ok (.iload_n 2, 1) by decide +kernel) rfl) <|
  ok_c (sn_imul (show decode cX9_firmOf 67 = .ok (.imul, 1) by decide +kernel)) <|
  ok_c (sn_bipush (v := 6) (show decode cX9_firmOf 68 = .ok (.bipush 6, 2) by decide +kernel) (by decide +kernel)) <|
  ok_c (sn_iload (show decode cX9_firmOf 70 = .ok (.iload 5, 2) by decide +kernel)) <|
  ok_c (sn_imul (show decode cX9_firmOf 72 = .ok (.imul, 1) by decide +kernel)) <|
  ok_c (sn_iadd (show decode cX9_firmOf 73 = .ok (.iadd, 1) by decide +kernel)) <|
  ok_c (sn_iload (show decode cX9_firmOf 74 = .ok (.iload 6, 2) by decide +kernel)) <|
  ok_c (sn_iadd (show decode cX9_firmOf 76 = .ok (.iadd, 1) by decide +kernel)) <|
  ok_c (sn_iald (show decode cX9_firmOf 77 = .ok (.iaload, 1) by decide +kernel)) <|
  ok_c (sn_if_le (show decode cX9_firmOf 78 = .ok (.ifCond .le 10, 3) by decide +kernel) (by decide)) <|
  ok_c (sn_iload_n (show decode cX9_firmOf 81 = .ok (.iload_n 3, 1) by decide +kernel) rfl) <|
  ok_c (sn_iconst (v := 1) (show decode cX9_firmOf 82 = .ok (.iconst 1, 1) by decide +kernel) (by decide +kernel)) <|
  ok_c (sn_iload (show decode cX9_firmOf 83 = .ok (.iload 6, 2) by decide +kernel)) <|
  ok_c (sn_ishl (show decode cX9_firmOf 85 = .ok (.ishl, 1) by decide +kernel)) <|
  ok_c (sn_ior (show decode cX9_firmOf 86 = .ok (.ior, 1) by decide +kernel)) <|
  ok_c (sn_istore_n (show decode cX9_firmOf 87 = .ok (.istore_n 3, 1) by decide +kernel) rfl (by decide)) <|
  ok_c (sn_iinc (show decode cX9_firmOf 88 = .ok (.iinc 6 1, 3) by decide +kernel) (by decide) (by decide +kernel)) <|
  ok_c (sn_goto (show decode cX9_firmOf 91 = .ok (.goto (-49), 3) by decide +kernel) (by decide)) <|
  ok_c (sn_iinc (show decode cX9_firmOf 94 = .ok (.iinc 5 1, 3) by decide +kernel) (by decide) (by decide +kernel)) <|
  ok_c (sn_goto (show decode cX9_firmOf 97 = .ok (.goto (-67), 3) by decide +kernel) (by decide)) <|
  ok_c (sn_iinc (show decode cX9_firmOf 100 = .ok (.iinc 4 1, 3) by decide +kernel) (by decide) (by decide +kernel)) <|
  ok_c (sn_goto (show decode cX9_firmOf 103 = .ok (.goto (-85), 3) by decide +kernel) (by decide)) <|
  ok_c (sn_iload_n (show decode cX9_firmOf 106 = .ok (.iload_n 3, 1) by decide +kernel) rfl) <|
  ok_n
def uX9_firmOf : gCT := [(3, YX9_isOut, 3, some 9), (21, YX9_people, 1, some 9), (33, YX9_people, 1, some 9), (45, YX9_people, 1, some 9), (54, YX9_isBit, 2, none)]
set_option maxRecDepth 100000 in
theorem ocX9_firmOf : gOkC YX9_firmOf uX9_firmOf := oc_c (gEdge_V cal_X9_isOut ck_9 rfl (show decode cX9_firmOf 3 = .ok (.invokevirtual 292, 3) by decide +kernel) wd_7_130 wd_7_132 wp_6_6) <|
  oc_c (gEdge_V cal_X9_people ck_9 rfl (show decode cX9_firmOf 21 = .ok (.invokevirtual 244, 3) by decide +kernel) wd_7_50 wd_7_52 wp_5_6) <|
  oc_c (gEdge_V cal_X9_people ck_9 rfl (show decode cX9_firmOf 33 = .ok (.invokevirtual 244, 3) by decide +kernel) wd_7_50 wd_7_52 wp_5_6) <|
  oc_c (gEdge_V cal_X9_people ck_9 rfl (show decode cX9_firmOf 45 = .ok (.invokevirtual 244, 3) by decide +kernel) wd_7_50 wd_7_52 wp_5_6) <|
  oc_c (gEdge_S cal_X9_isBit (show decode cX9_firmOf 54 = .ok (.invokestatic 281, 3) by decide +kernel) wd_7_115 wd_7_116) <|
  oc_n
theorem reX9_firmOf : ∀ pc ∈ [10, 107], decode cX9_firmOf pc = .ok (.ireturn, 1) := by decide +kernel
def tX9_fundsOf : List (Nat × gStp) := [(0, i_push (.int 0) 1), (1, i_istore 3 2), (2, i_push (.int 0) 3), (3, i_istore 4 5), (5, i_iload 4 7), (7, i_aload 0 8), (11, i_ic_ge 48 14), (14, i_iload 3 15), (15, i_iload 1 16), (16, i_iload 4 18), (21, i_if_eq 39 24), (24, i_aload 0 25), (25, i_getC 9 158 28), (28, i_push (.int 12) 30), (30, i_iload 4 32), (32, i_ii (fun x y => x * y) 33), (33, i_iload 2 34), (34, i_ii (fun x y => x + y) 35), (35, i_iald 36), (36, i_goto 40), (39, i_push (.int 0) 40), (40, i_ii (fun x y => x + y) 41), (41, i_istore 3 42), (42, i_iinc 4 1 45), (45, i_goto 5), (48, i_iload 3 49)]
set_option maxRecDepth 100000 in
theorem okX9_fundsOf : gOk YX9_fundsOf tX9_fundsOf := ok_c (sn_iconst (v := 0) (show decode cX9_fundsOf 0 = .ok (.iconst 0, 1) by decide +kernel) (by decide +kernel)) <|
  ok_c (sn_istore_n (show decode cX9_fundsOf 1 = .ok (.istore_n 3, 1) by decide +kernel) rfl (by decide)) <|
  ok_c (sn_iconst (v := 0) (show decode cX9_fundsOf 2 = .ok (.iconst 0, 1) by decide +kernel) (by decide +kernel)) <|
  ok_c (sn_istore (show decode cX9_fundsOf 3 = .ok (.istore 4, 2) by decide +kernel) (by decide)) <|
  ok_c (sn_iload (show decode cX9_fundsOf 5 = .ok (.iload 4, 2) by decide +kernel)) <|
  ok_c (sn_aload_n (show decode cX9_fundsOf 7 = .ok (.aload_n 0, 1) by decide +kernel) rfl) <|
  ok_c (sn_ic_ge (show decode cX9_fundsOf 11 = .ok (.if_icmp .ge 37, 3) by decide +kernel) (by decide)) <|
  ok_c (sn_iload_n (show decode cX9_fundsOf 14 = .ok (.iload_n 3, 1) by decide +kernel) rfl) <|
  ok_c (sn_iload_n (show decode cX9_fundsOf 15 = .ok (.iload_n 1, 1) by decide +kernel) rfl) <|
  ok_c (sn_iload (show decode cX9_fundsOf 16 = .ok (.iload 4, 2) by decide +kernel)) <|
  ok_c (sn_if_eq (show decode cX9_fundsOf 21 = .ok (.ifCond .eq 18, 3) by decide +kernel) (by decide)) <|
  ok_c (sn_aload_n (show decode cX9_fundsOf 24 = .ok (.aload_n 0, 1) by decide +kernel) rfl) <|
  ok_c (sn_getC (j := 36) (fun _ _ => rfl) (sn_get ck_9 (by decide) (show decode cX9_fundsOf 25 = .ok (.getfield 65, 3) by decide +kernel) wd_6_13)) <|
  ok_c (sn_bipush (v := 12) (show decode cX9_fundsOf 28 = .ok (.bipush 12, 2) by decide +kernel) (by decide +kernel)) <|
  ok_c (sn_iload (show decode cX9_fundsOf 30 = .ok (.iload 4, 2) by decide +kernel)) <|
  ok_c (sn_imul (show decode cX9_fundsOf 32 = .ok (.imul, 1) by decide +kernel)) <|
  ok_c (sn_iload_n (show decode cX9_fundsOf 33 = .ok (.iload_n 2, 1) by decide +kernel) rfl) <|
  ok_c (sn_iadd (show decode cX9_fundsOf 34 = .ok (.iadd, 1) by decide +kernel)) <|
  ok_c (sn_iald (show decode cX9_fundsOf 35 = .ok (.iaload, 1) by decide +kernel)) <|
  ok_c (sn_goto (show decode cX9_fundsOf 36 = .ok (.goto 4, 3) by decide +kernel) (by decide)) <|
  ok_c (sn_iconst (v := 0) (show decode cX9_fundsOf 39 = .ok (.iconst 0, 1) by decide +kernel) (by decide +kernel)) <|
  ok_c (sn_iadd (show decode cX9_fundsOf 40 = .ok (.iadd, 1) by decide +kernel)) <|
  ok_c (sn_istore_n (show decode cX9_fundsOf 41 = .ok (.istore_n 3, 1) by decide +kernel) rfl (by decide)) <|
  ok_c (sn_iinc (show decode cX9_fundsOf 42 = .ok (.iinc 4 1, 3) by decide +kernel) (by decide) (by decide +kernel)) <|
  ok_c (sn_goto (show decode cX9_fundsOf 45 = .ok (.goto (-40), 3) by decide +kernel) (by decide)) <|
  ok_c (sn_iload_n (show decode cX9_fundsOf 48 = .ok (.iload_n 3, 1) by decide +kernel) rfl) <|
  ok_n
def uX9_fundsOf : gCT := [(8, YX9_people, 1, some 9), (18, YX9_isBit, 2, none)]
set_option maxRecDepth 100000 in
theorem ocX9_fundsOf : gOkC YX9_fundsOf uX9_fundsOf := oc_c (gEdge_V cal_X9_people ck_9 rfl (show decode cX9_fundsOf 8 = .ok (.invokevirtual 244, 3) by decide +kernel) wd_7_50 wd_7_52 wp_5_6) <|
  oc_c (gEdge_S cal_X9_isBit (show decode cX9_fundsOf 18 = .ok (.invokestatic 281, 3) by decide +kernel) wd_7_115 wd_7_116) <|
  oc_n
theorem reX9_fundsOf : ∀ pc ∈ [49], decode cX9_fundsOf pc = .ok (.ireturn, 1) := by decide +kernel
def tX9_isToldCold : List (Nat × gStp) := [(0, i_push (.int 0) 1), (1, i_istore 3 2), (2, i_iload 3 3), (3, i_aload 0 4), (4, i_getC 9 148 7), (7, i_push (.int 7) 9), (9, i_iald 10), (10, i_ic_ge 47 13), (13, i_aload 0 14), (14, i_getC 9 152 17), (17, i_push (.int 2) 18), (18, i_iload 3 19), (19, i_ii (fun x y => x * y) 20), (20, i_iald 21), (21, i_iload 1 22), (22, i_ic_ne 41 25), (25, i_aload 0 26), (26, i_getC 9 152 29), (29, i_push (.int 2) 30), (30, i_iload 3 31), (31, i_ii (fun x y => x * y) 32), (32, i_push (.int 1) 33), (33, i_ii (fun x y => x + y) 34), (34, i_iald 35), (35, i_iload 2 36), (36, i_ic_ne 41 39), (39, i_push (.int 1) 40), (41, i_iinc 3 1 44), (44, i_goto 2), (47, i_aload 0 48), (48, i_getI 9 31 51), (51, i_iload 1 52), (52, i_ic_ne 63 55), (55, i_iload 2 56), (56, i_if_ne 63 59), (59, i_push (.int 1) 60), (60, i_goto 64), (63, i_push (.int 0) 64)]
set_option maxRecDepth 100000 in
theorem okX9_isToldCold : gOk YX9_isToldCold tX9_isToldCold := ok_c (sn_iconst (v := 0) (show decode cX9_isToldCold 0 = .ok (.iconst 0, 1) by decide +kernel) (by decide +kernel)) <|
  ok_c (sn_istore_n (show decode cX9_isToldCold 1 = .ok (.istore_n 3, 1) by decide +kernel) rfl (by decide)) <|
  ok_c (sn_iload_n (show decode cX9_isToldCold 2 = .ok (.iload_n 3, 1) by decide +kernel) rfl) <|
  ok_c (sn_aload_n (show decode cX9_isToldCold 3 = .ok (.aload_n 0, 1) by decide +kernel) rfl) <|
  ok_c (sn_getC (j := 17) (fun _ _ => rfl) (sn_get ck_9 (by decide) (show decode cX9_isToldCold 4 = .ok (.getfield 34, 3) by decide +kernel) wd_5_234)) <|
  ok_c (sn_bipush (v := 7) (show decode cX9_isToldCold 7 = .ok (.bipush 7, 2) by decide +kernel) (by decide +kernel)) <|
  ok_c (sn_iald (show decode cX9_isToldCold 9 = .ok (.iaload, 1) by decide +kernel)) <|
  ok_c (sn_ic_ge (show decode cX9_isToldCold 10 = .ok (.if_icmp .ge 37, 3) by decide +kernel) (by decide)) <|
  ok_c (sn_aload_n (show decode cX9_isToldCold 13 = .ok (.aload_n 0, 1) by decide +kernel) rfl) <|
  ok_c (sn_getC (j := 21) (fun _ _ => rfl) (sn_get ck_9 (by decide) (show decode cX9_isToldCold 14 = .ok (.getfield 46, 3) by decide +kernel) wd_5_238)) <|
  ok_c (sn_iconst (v := 2) (show decode cX9_isToldCold 17 = .ok (.iconst 2, 1) by decide +kernel) (by decide +kernel)) <|
  ok_c (sn_iload_n (show decode cX9_isToldCold 18 = .ok (.iload_n 3, 1) by decide +kernel) rfl) <|
  ok_c (sn_imul (show decode cX9_isToldCold 19 = .ok (.imul, 1) by decide +kernel)) <|
  ok_c (sn_iald (show decode cX9_isToldCold 20 = .ok (.iaload, 1) by decide +kernel)) <|
  ok_c (sn_iload_n (show decode cX9_isToldCold 21 = .ok (.iload_n 1, 1) by decide +kernel) rfl) <|
  ok_c (sn_ic_ne (show decode cX9_isToldCold 22 = .ok (.if_icmp .ne 19, 3) by decide +kernel) (by decide)) <|
  ok_c (sn_aload_n (show decode cX9_isToldCold 25 = .ok (.aload_n 0, 1) by decide +kernel) rfl) <|
  ok_c (sn_getC (j := 21) (fun _ _ => rfl) (sn_get ck_9 (by decide) (show decode cX9_isToldCold 26 = .ok (.getfield 46, 3) by decide +kernel) wd_5_238)) <|
  ok_c (sn_iconst (v := 2) (show decode cX9_isToldCold 29 = .ok (.iconst 2, 1) by decide +kernel) (by decide +kernel)) <|
  ok_c (sn_iload_n (show decode cX9_isToldCold 30 = .ok (.iload_n 3, 1) by decide +kernel) rfl) <|
  ok_c (sn_imul (show decode cX9_isToldCold 31 = .ok (.imul, 1) by decide +kernel)) <|
  ok_c (sn_iconst (v := 1) (show decode cX9_isToldCold 32 = .ok (.iconst 1, 1) by decide +kernel) (by decide +kernel)) <|
  ok_c (sn_iadd (show decode cX9_isToldCold 33 = .ok (.iadd, 1) by decide +kernel)) <|
  ok_c (sn_iald (show decode cX9_isToldCold 34 = .ok (.iaload, 1) by decide +kernel)) <|
  ok_c (sn_iload_n (show decode cX9_isToldCold 35 = .ok (.iload_n 2, 1) by decide +kernel) rfl) <|
  ok_c (sn_ic_ne (show decode cX9_isToldCold 36 = .ok (.if_icmp .ne 5, 3) by decide +kernel) (by decide)) <|
  ok_c (sn_iconst (v := 1) (show decode cX9_isToldCold 39 = .ok (.iconst 1, 1) by decide +kernel) (by decide +kernel)) <|
  ok_c (sn_iinc (show decode cX9_isToldCold 41 = .ok (.iinc 3 1, 3) by decide +kernel) (by decide) (by decide +kernel)) <|
  ok_c (sn_goto (show decode cX9_isToldCold 44 = .ok (.goto (-42), 3) by decide +kernel) (by decide)) <|
  ok_c (sn_aload_n (show decode cX9_isToldCold 47 = .ok (.aload_n 0, 1) by decide +kernel) rfl) <|
  ok_c (sn_getI (fun _ _ => rfl) (sn_get ck_9 (by decide) (show decode cX9_isToldCold 48 = .ok (.getfield 274, 3) by decide +kernel) wd_6_8)) <|
  ok_c (sn_iload_n (show decode cX9_isToldCold 51 = .ok (.iload_n 1, 1) by decide +kernel) rfl) <|
  ok_c (sn_ic_ne (show decode cX9_isToldCold 52 = .ok (.if_icmp .ne 11, 3) by decide +kernel) (by decide)) <|
  ok_c (sn_iload_n (show decode cX9_isToldCold 55 = .ok (.iload_n 2, 1) by decide +kernel) rfl) <|
  ok_c (sn_if_ne (show decode cX9_isToldCold 56 = .ok (.ifCond .ne 7, 3) by decide +kernel) (by decide)) <|
  ok_c (sn_iconst (v := 1) (show decode cX9_isToldCold 59 = .ok (.iconst 1, 1) by decide +kernel) (by decide +kernel)) <|
  ok_c (sn_goto (show decode cX9_isToldCold 60 = .ok (.goto 4, 3) by decide +kernel) (by decide)) <|
  ok_c (sn_iconst (v := 0) (show decode cX9_isToldCold 63 = .ok (.iconst 0, 1) by decide +kernel) (by decide +kernel)) <|
  ok_n
theorem reX9_isToldCold : ∀ pc ∈ [40, 64], decode cX9_isToldCold pc = .ok (.ireturn, 1) := by decide +kernel
def tX9_isCaught : List (Nat × gStp) := [(0, i_push (.int 0) 1), (1, i_istore 3 2), (2, i_iload 3 3), (3, i_aload 0 4), (7, i_ic_ge 55 10), (10, i_iload 2 11), (11, i_if_le 49 14), (14, i_aload 0 15), (15, i_getC 9 157 18), (18, i_iload 3 19), (19, i_iald 20), (20, i_iload 2 21), (21, i_push (.int 1) 22), (22, i_ii (fun x y => x - y) 23), (23, i_ic_ne 49 26), (26, i_aload 0 27), (27, i_getC 9 155 30), (30, i_push (.int 36) 32), (32, i_iload 2 33), (33, i_push (.int 1) 34), (34, i_ii (fun x y => x - y) 35), (35, i_ii (fun x y => x * y) 36), (36, i_push (.int 6) 38), (38, i_iload 1 39), (39, i_ii (fun x y => x * y) 40), (40, i_ii (fun x y => x + y) 41), (41, i_iload 3 42), (42, i_ii (fun x y => x + y) 43), (43, i_iald 44), (44, i_if_le 49 47), (47, i_push (.int 1) 48), (49, i_iinc 3 1 52), (52, i_goto 2), (55, i_push (.int 0) 56)]
set_option maxRecDepth 100000 in
theorem okX9_isCaught : gOk YX9_isCaught tX9_isCaught := ok_c (sn_iconst (v := 0) (show decode cX9_isCaught 0 = .ok (.iconst 0, 1) by decide +kernel) (by decide +kernel)) <|
  ok_c (sn_istore_n (show decode cX9_isCaught 1 = .ok (.istore_n 3, 1) by decide +kernel) rfl (by decide)) <|
  ok_c (sn_iload_n (show decode cX9_isCaught 2 = .ok (.iload_n 3, 1) by decide +kernel) rfl) <|
  ok_c (sn_aload_n (show decode cX9_isCaught 3 = .ok (.aload_n 0, 1) by decide +kernel) rfl) <|
  ok_c (sn_ic_ge (show decode cX9_isCaught 7 = .ok (.if_icmp .ge 48, 3) by decide +kernel) (by decide)) <|
  ok_c (sn_iload_n (show decode cX9_isCaught 10 = .ok (.iload_n 2, 1) by decide +kernel) rfl) <|
  ok_c (sn_if_le (show decode cX9_isCaught 11 = .ok (.ifCond .le 38, 3) by decide +kernel) (by decide)) <|
  ok_c (sn_aload_n (show decode cX9_isCaught 14 = .ok (.aload_n 0, 1) by decide +kernel) rfl) <|
  ok_c (sn_getC (j := 35) (fun _ _ => rfl) (sn_get ck_9 (by decide) (show decode cX9_isCaught 15 = .ok (.getfield 62, 3) by decide +kernel) wd_6_12)) <|
  ok_c (sn_iload_n (show decode cX9_isCaught 18 = .ok (.iload_n 3, 1) by decide +kernel) rfl) <|
  ok_c (sn_iald (show decode cX9_isCaught 19 = .ok (.iaload, 1) by decide +kernel)) <|
  ok_c (sn_iload_n (show decode cX9_isCaught 20 = .ok (.iload_n 2, 1) by decide +kernel) rfl) <|
  ok_c (sn_iconst (v := 1) (show decode cX9_isCaught 21 = .ok (.iconst 1, 1) by decide +kernel) (by decide +kernel)) <|
  ok_c (sn_isub (show decode cX9_isCaught 22 = .ok (.isub, 1) by decide +kernel)) <|
  ok_c (sn_ic_ne (show decode cX9_isCaught 23 = .ok (.if_icmp .ne 26, 3) by decide +kernel) (by decide)) <|
  ok_c (sn_aload_n (show decode cX9_isCaught 26 = .ok (.aload_n 0, 1) by decide +kernel) rfl) <|
  ok_c (sn_getC (j := 33) (fun _ _ => rfl) (sn_get ck_9 (by decide) (show decode cX9_isCaught 27 = .ok (.getfield 56, 3) by decide +kernel) wd_6_10)) <|
  ok_c (sn_bipush (v := 36) (show decode cX9_isCaught 30 = .ok (.bipush 36, 2) by decide +kernel) (by decide +kernel)) <|
  ok_c (sn_iload_n (show decode cX9_isCaught 32 = .ok (.iload_n 2, 1) by decide +kernel) rfl) <|
  ok_c (sn_iconst (v := 1) (show decode cX9_isCaught 33 = .ok (.iconst 1, 1) by decide +kernel) (by decide +kernel)) <|
  ok_c (sn_isub (show decode cX9_isCaught 34 = .ok (.isub, 1) by decide +kernel)) <|
  ok_c (sn_imul (show decode cX9_isCaught 35 = .ok (.imul, 1) by decide +kernel)) <|
  ok_c (sn_bipush (v := 6) (show decode cX9_isCaught 36 = .ok (.bipush 6, 2) by decide +kernel) (by decide +kernel)) <|
  ok_c (sn_iload_n (show decode cX9_isCaught 38 = .ok (.iload_n 1, 1) by decide +kernel) rfl) <|
  ok_c (sn_imul (show decode cX9_isCaught 39 = .ok (.imul, 1) by decide +kernel)) <|
  ok_c (sn_iadd (show decode cX9_isCaught 40 = .ok (.iadd, 1) by decide +kernel)) <|
  ok_c (sn_iload_n (show decode cX9_isCaught 41 = .ok (.iload_n 3, 1) by decide +kernel) rfl) <|
  ok_c (sn_iadd (show decode cX9_isCaught 42 = .ok (.iadd, 1) by decide +kernel)) <|
  ok_c (sn_iald (show decode cX9_isCaught 43 = .ok (.iaload, 1) by decide +kernel)) <|
  ok_c (sn_if_le (show decode cX9_isCaught 44 = .ok (.ifCond .le 5, 3) by decide +kernel) (by decide)) <|
  ok_c (sn_iconst (v := 1) (show decode cX9_isCaught 47 = .ok (.iconst 1, 1) by decide +kernel) (by decide +kernel)) <|
  ok_c (sn_iinc (show decode cX9_isCaught 49 = .ok (.iinc 3 1, 3) by decide +kernel) (by decide) (by decide +kernel)) <|
  ok_c (sn_goto (show decode cX9_isCaught 52 = .ok (.goto (-50), 3) by decide +kernel) (by decide)) <|
  ok_c (sn_iconst (v := 0) (show decode cX9_isCaught 55 = .ok (.iconst 0, 1) by decide +kernel) (by decide +kernel)) <|
  ok_n
def uX9_isCaught : gCT := [(4, YX9_people, 1, some 9)]
set_option maxRecDepth 100000 in
theorem ocX9_isCaught : gOkC YX9_isCaught uX9_isCaught := oc_c (gEdge_V cal_X9_people ck_9 rfl (show decode cX9_isCaught 4 = .ok (.invokevirtual 244, 3) by decide +kernel) wd_7_50 wd_7_52 wp_5_6) <|
  oc_n
theorem reX9_isCaught : ∀ pc ∈ [48, 56], decode cX9_isCaught pc = .ok (.ireturn, 1) := by decide +kernel
