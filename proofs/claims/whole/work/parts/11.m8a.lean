/-! steps and calls -/
def tX8_feed : List (Nat × gStp) := [(0, i_aload 0 1), (1, i_getC 8 1 4), (4, i_getC 5 2 7), (7, i_astore 6 9), (9, i_aload 6 11), (11, i_getI 6 1 14), (14, i_push (.int 780) 17), (17, i_ic_le 22 20), (20, i_push (.int (-1)) 21), (22, i_aload 6 24), (24, i_iload 1 25), (28, i_aload 6 30), (30, i_iload 2 31), (34, i_aload 6 36), (36, i_iload 3 37), (40, i_aload 6 42), (42, i_iload 4 44), (47, i_aload 6 49), (49, i_iload 5 51), (54, i_aload 6 56), (56, i_getI 6 1 59)]
set_option maxRecDepth 100000 in
theorem okX8_feed : gOk YX8_feed tX8_feed := ok_c (sn_aload_n (show decode cX8_feed 0 = .ok (.aload_n 0, 1) by decide +kernel) rfl) <|
  ok_c (sn_getC (j := 0) (fun _ _ => rfl) (sn_get ck_8 (by decide) (show decode cX8_feed 1 = .ok (.getfield 10, 3) by decide +kernel) wd_2_124)) <|
  ok_c (sn_getC (j := 0) (fun _ _ => rfl) (sn_get ck_5 (by decide) (show decode cX8_feed 4 = .ok (.getfield 55, 3) by decide +kernel) wd_1_200)) <|
  ok_c (sn_astore (show decode cX8_feed 7 = .ok (.astore 6, 2) by decide +kernel) (by decide)) <|
  ok_c (sn_aload (show decode cX8_feed 9 = .ok (.aload 6, 2) by decide +kernel)) <|
  ok_c (sn_getI (fun _ _ => rfl) (sn_get ck_6 (by decide) (show decode cX8_feed 11 = .ok (.getfield 59, 3) by decide +kernel) wd_1_41)) <|
  ok_c (sn_sipush (v := 780) (show decode cX8_feed 14 = .ok (.sipush 780, 3) by decide +kernel) (by decide +kernel)) <|
  ok_c (sn_ic_le (show decode cX8_feed 17 = .ok (.if_icmp .le 5, 3) by decide +kernel) (by decide)) <|
  ok_c (sn_iconst (v := (-1)) (show decode cX8_feed 20 = .ok (.iconst (-1), 1) by decide +kernel) (by decide +kernel)) <|
  ok_c (sn_aload (show decode cX8_feed 22 = .ok (.aload 6, 2) by decide +kernel)) <|
  ok_c (sn_iload_n (show decode cX8_feed 24 = .ok (.iload_n 1, 1) by decide +kernel) rfl) <|
  ok_c (sn_aload (show decode cX8_feed 28 = .ok (.aload 6, 2) by decide +kernel)) <|
  ok_c (sn_iload_n (show decode cX8_feed 30 = .ok (.iload_n 2, 1) by decide +kernel) rfl) <|
  ok_c (sn_aload (show decode cX8_feed 34 = .ok (.aload 6, 2) by decide +kernel)) <|
  ok_c (sn_iload_n (show decode cX8_feed 36 = .ok (.iload_n 3, 1) by decide +kernel) rfl) <|
  ok_c (sn_aload (show decode cX8_feed 40 = .ok (.aload 6, 2) by decide +kernel)) <|
  ok_c (sn_iload (show decode cX8_feed 42 = .ok (.iload 4, 2) by decide +kernel)) <|
  ok_c (sn_aload (show decode cX8_feed 47 = .ok (.aload 6, 2) by decide +kernel)) <|
  ok_c (sn_iload (show decode cX8_feed 49 = .ok (.iload 5, 2) by decide +kernel)) <|
  ok_c (sn_aload (show decode cX8_feed 54 = .ok (.aload 6, 2) by decide +kernel)) <|
  ok_c (sn_getI (fun _ _ => rfl) (sn_get ck_6 (by decide) (show decode cX8_feed 56 = .ok (.getfield 59, 3) by decide +kernel) wd_1_41)) <|
  ok_n
def uX8_feed : gCT := [(25, YX6_put, 2, some 6), (31, YX6_put, 2, some 6), (37, YX6_put, 2, some 6), (44, YX6_put, 2, some 6), (51, YX6_put, 2, some 6)]
set_option maxRecDepth 100000 in
theorem ocX8_feed : gOkC YX8_feed uX8_feed := oc_c (gEdge_V cal_X6_put ck_6 rfl (show decode cX8_feed 25 = .ok (.invokevirtual 65, 3) by decide +kernel) wd_2_153 wd_2_154 wd_2_155) <|
  oc_c (gEdge_V cal_X6_put ck_6 rfl (show decode cX8_feed 31 = .ok (.invokevirtual 65, 3) by decide +kernel) wd_2_153 wd_2_154 wd_2_155) <|
  oc_c (gEdge_V cal_X6_put ck_6 rfl (show decode cX8_feed 37 = .ok (.invokevirtual 65, 3) by decide +kernel) wd_2_153 wd_2_154 wd_2_155) <|
  oc_c (gEdge_V cal_X6_put ck_6 rfl (show decode cX8_feed 44 = .ok (.invokevirtual 65, 3) by decide +kernel) wd_2_153 wd_2_154 wd_2_155) <|
  oc_c (gEdge_V cal_X6_put ck_6 rfl (show decode cX8_feed 51 = .ok (.invokevirtual 65, 3) by decide +kernel) wd_2_153 wd_2_154 wd_2_155) <|
  oc_n
theorem reX8_feed : ∀ pc ∈ [21, 59], decode cX8_feed pc = .ok (.ireturn, 1) := by decide +kernel
def tX8_end : List (Nat × gStp) := [(0, i_iload 1 1), (1, i_if_lt 18 4), (4, i_iload 1 5), (5, i_aload 0 6), (6, i_getC 8 1 9), (9, i_getC 5 2 12), (12, i_getI 6 1 15), (15, i_ic_le 20 18), (18, i_push (.int (-1)) 19), (20, i_aload 0 21), (21, i_getC 8 1 24), (24, i_getC 5 2 27), (27, i_iload 1 28), (28, i_putI 6 1 31), (31, i_iload 1 32)]
set_option maxRecDepth 100000 in
theorem okX8_end : gOk YX8_end tX8_end := ok_c (sn_iload_n (show decode cX8_end 0 = .ok (.iload_n 1, 1) by decide +kernel) rfl) <|
  ok_c (sn_if_lt (show decode cX8_end 1 = .ok (.ifCond .lt 17, 3) by decide +kernel) (by decide)) <|
  ok_c (sn_iload_n (show decode cX8_end 4 = .ok (.iload_n 1, 1) by decide +kernel) rfl) <|
  ok_c (sn_aload_n (show decode cX8_end 5 = .ok (.aload_n 0, 1) by decide +kernel) rfl) <|
  ok_c (sn_getC (j := 0) (fun _ _ => rfl) (sn_get ck_8 (by decide) (show decode cX8_end 6 = .ok (.getfield 10, 3) by decide +kernel) wd_2_124)) <|
  ok_c (sn_getC (j := 0) (fun _ _ => rfl) (sn_get ck_5 (by decide) (show decode cX8_end 9 = .ok (.getfield 55, 3) by decide +kernel) wd_1_200)) <|
  ok_c (sn_getI (fun _ _ => rfl) (sn_get ck_6 (by decide) (show decode cX8_end 12 = .ok (.getfield 59, 3) by decide +kernel) wd_1_41)) <|
  ok_c (sn_ic_le (show decode cX8_end 15 = .ok (.if_icmp .le 5, 3) by decide +kernel) (by decide)) <|
  ok_c (sn_iconst (v := (-1)) (show decode cX8_end 18 = .ok (.iconst (-1), 1) by decide +kernel) (by decide +kernel)) <|
  ok_c (sn_aload_n (show decode cX8_end 20 = .ok (.aload_n 0, 1) by decide +kernel) rfl) <|
  ok_c (sn_getC (j := 0) (fun _ _ => rfl) (sn_get ck_8 (by decide) (show decode cX8_end 21 = .ok (.getfield 10, 3) by decide +kernel) wd_2_124)) <|
  ok_c (sn_getC (j := 0) (fun _ _ => rfl) (sn_get ck_5 (by decide) (show decode cX8_end 24 = .ok (.getfield 55, 3) by decide +kernel) wd_1_200)) <|
  ok_c (sn_iload_n (show decode cX8_end 27 = .ok (.iload_n 1, 1) by decide +kernel) rfl) <|
  ok_c (sn_putI ck_6 (by decide) rfl rfl (show decode cX8_end 28 = .ok (.putfield 59, 3) by decide +kernel) wd_1_41) <|
  ok_c (sn_iload_n (show decode cX8_end 31 = .ok (.iload_n 1, 1) by decide +kernel) rfl) <|
  ok_n
theorem reX8_end : ∀ pc ∈ [19, 32], decode cX8_end pc = .ok (.ireturn, 1) := by decide +kernel
def tX8_city : List (Nat × gStp) := [(0, i_aload 0 1), (1, i_getC 8 1 4), (7, i_istore 1 8), (8, i_aload 0 9), (9, i_getC 8 1 12), (12, i_getC 5 2 15), (15, i_push (.int 0) 16), (16, i_putI 6 1 19), (19, i_iload 1 20), (20, i_if_ne 26 23), (23, i_push (.int (-4)) 25), (26, i_aload 0 27), (27, i_getT 8 0 30), (30, i_astore 2 31), (31, i_aload 0 32), (32, i_aload 0 33), (33, i_getC 8 1 36), (36, i_getT 5 1 39), (39, i_putT 8 0 42), (42, i_aload 0 43), (43, i_getC 8 1 46), (46, i_aload 2 47), (47, i_putT 5 1 50), (50, i_aload 0 51), (51, i_getT 8 0 54), (54, i_getI 7 0 57)]
set_option maxRecDepth 100000 in
theorem okX8_city : gOk YX8_city tX8_city := ok_c (sn_aload_n (show decode cX8_city 0 = .ok (.aload_n 0, 1) by decide +kernel) rfl) <|
  ok_c (sn_getC (j := 0) (fun _ _ => rfl) (sn_get ck_8 (by decide) (show decode cX8_city 1 = .ok (.getfield 10, 3) by decide +kernel) wd_2_124)) <|
  ok_c (sn_istore_n (show decode cX8_city 7 = .ok (.istore_n 1, 1) by decide +kernel) rfl (by decide)) <|
  ok_c (sn_aload_n (show decode cX8_city 8 = .ok (.aload_n 0, 1) by decide +kernel) rfl) <|
  ok_c (sn_getC (j := 0) (fun _ _ => rfl) (sn_get ck_8 (by decide) (show decode cX8_city 9 = .ok (.getfield 10, 3) by decide +kernel) wd_2_124)) <|
  ok_c (sn_getC (j := 0) (fun _ _ => rfl) (sn_get ck_5 (by decide) (show decode cX8_city 12 = .ok (.getfield 55, 3) by decide +kernel) wd_1_200)) <|
  ok_c (sn_iconst (v := 0) (show decode cX8_city 15 = .ok (.iconst 0, 1) by decide +kernel) (by decide +kernel)) <|
  ok_c (sn_putI ck_6 (by decide) rfl rfl (show decode cX8_city 16 = .ok (.putfield 59, 3) by decide +kernel) wd_1_41) <|
  ok_c (sn_iload_n (show decode cX8_city 19 = .ok (.iload_n 1, 1) by decide +kernel) rfl) <|
  ok_c (sn_if_ne (show decode cX8_city 20 = .ok (.ifCond .ne 6, 3) by decide +kernel) (by decide)) <|
  ok_c (sn_bipush (v := (-4)) (show decode cX8_city 23 = .ok (.bipush (-4), 2) by decide +kernel) (by decide +kernel)) <|
  ok_c (sn_aload_n (show decode cX8_city 26 = .ok (.aload_n 0, 1) by decide +kernel) rfl) <|
  ok_c (sn_getT (j := 6) (fun _ _ => rfl) (sn_get ck_8 (by decide) (show decode cX8_city 27 = .ok (.getfield 51, 3) by decide +kernel) wd_2_130)) <|
  ok_c (sn_astore_n (show decode cX8_city 30 = .ok (.astore_n 2, 1) by decide +kernel) rfl (by decide)) <|
  ok_c (sn_aload_n (show decode cX8_city 31 = .ok (.aload_n 0, 1) by decide +kernel) rfl) <|
  ok_c (sn_aload_n (show decode cX8_city 32 = .ok (.aload_n 0, 1) by decide +kernel) rfl) <|
  ok_c (sn_getC (j := 0) (fun _ _ => rfl) (sn_get ck_8 (by decide) (show decode cX8_city 33 = .ok (.getfield 10, 3) by decide +kernel) wd_2_124)) <|
  ok_c (sn_getT (j := 1) (fun _ _ => rfl) (sn_get ck_5 (by decide) (show decode cX8_city 36 = .ok (.getfield 73, 3) by decide +kernel) wd_1_202)) <|
  ok_c (sn_putT8 (show decode cX8_city 39 = .ok (.putfield 51, 3) by decide +kernel) wd_2_130) <|
  ok_c (sn_aload_n (show decode cX8_city 42 = .ok (.aload_n 0, 1) by decide +kernel) rfl) <|
  ok_c (sn_getC (j := 0) (fun _ _ => rfl) (sn_get ck_8 (by decide) (show decode cX8_city 43 = .ok (.getfield 10, 3) by decide +kernel) wd_2_124)) <|
  ok_c (sn_aload_n (show decode cX8_city 46 = .ok (.aload_n 2, 1) by decide +kernel) rfl) <|
  ok_c (sn_putT5 (show decode cX8_city 47 = .ok (.putfield 73, 3) by decide +kernel) wd_1_202) <|
  ok_c (sn_aload_n (show decode cX8_city 50 = .ok (.aload_n 0, 1) by decide +kernel) rfl) <|
  ok_c (sn_getT (j := 6) (fun _ _ => rfl) (sn_get ck_8 (by decide) (show decode cX8_city 51 = .ok (.getfield 51, 3) by decide +kernel) wd_2_130)) <|
  ok_c (sn_getI (fun _ _ => rfl) (sn_get ck_7 (by decide) (show decode cX8_city 54 = .ok (.getfield 74, 3) by decide +kernel) wd_1_87)) <|
  ok_n
def uX8_city : gCT := [(4, YX5_readTape, 1, some 5)]
set_option maxRecDepth 100000 in
theorem ocX8_city : gOkC YX8_city uX8_city := oc_c (gEdge_V cal_X5_readTape ck_5 rfl (show decode cX8_city 4 = .ok (.invokevirtual 69, 3) by decide +kernel) wd_2_165 wd_2_166 wd_2_167) <|
  oc_n
theorem reX8_city : ∀ pc ∈ [25, 57], decode cX8_city pc = .ok (.ireturn, 1) := by decide +kernel
def tX8_fault : List (Nat × gStp) := [(0, i_iload 1 1), (1, i_sw [(0, 28), (1, 36)] 44), (28, i_aload 0 29), (29, i_getC 8 1 32), (32, i_getI 5 2 35), (36, i_aload 0 37), (37, i_getC 8 1 40), (40, i_getI 5 3 43), (44, i_push (.int (-1)) 45)]
set_option maxRecDepth 100000 in
theorem okX8_fault : gOk YX8_fault tX8_fault := ok_c (sn_iload_n (show decode cX8_fault 0 = .ok (.iload_n 1, 1) by decide +kernel) rfl) <|
  ok_c (sn_lsw (show decode cX8_fault 1 = .ok (.lookupswitch 43 #[(0, 27), (1, 35)], 27) by decide +kernel) (by decide +kernel) (by decide +kernel) (by decide)) <|
  ok_c (sn_aload_n (show decode cX8_fault 28 = .ok (.aload_n 0, 1) by decide +kernel) rfl) <|
  ok_c (sn_getC (j := 0) (fun _ _ => rfl) (sn_get ck_8 (by decide) (show decode cX8_fault 29 = .ok (.getfield 10, 3) by decide +kernel) wd_2_124)) <|
  ok_c (sn_getI (fun _ _ => rfl) (sn_get ck_5 (by decide) (show decode cX8_fault 32 = .ok (.getfield 77, 3) by decide +kernel) wd_1_204)) <|
  ok_c (sn_aload_n (show decode cX8_fault 36 = .ok (.aload_n 0, 1) by decide +kernel) rfl) <|
  ok_c (sn_getC (j := 0) (fun _ _ => rfl) (sn_get ck_8 (by decide) (show decode cX8_fault 37 = .ok (.getfield 10, 3) by decide +kernel) wd_2_124)) <|
  ok_c (sn_getI (fun _ _ => rfl) (sn_get ck_5 (by decide) (show decode cX8_fault 40 = .ok (.getfield 80, 3) by decide +kernel) wd_1_206)) <|
  ok_c (sn_iconst (v := (-1)) (show decode cX8_fault 44 = .ok (.iconst (-1), 1) by decide +kernel) (by decide +kernel)) <|
  ok_n
theorem reX8_fault : ∀ pc ∈ [35, 43, 45], decode cX8_fault pc = .ok (.ireturn, 1) := by decide +kernel
def tX8_partner : List (Nat × gStp) := [(0, i_aload 0 1), (1, i_getT 8 0 4), (4, i_iload 1 5), (8, i_if_ne 14 11), (11, i_push (.int (-2)) 13), (14, i_iload 2 15), (15, i_sw [(0, 40), (1, 50), (2, 60)] 70), (40, i_aload 0 41), (41, i_getT 8 0 44), (44, i_getO 7 1 47), (47, i_iload 1 48), (48, i_iald 49), (50, i_aload 0 51), (51, i_getT 8 0 54), (54, i_getO 7 2 57), (57, i_iload 1 58), (58, i_iald 59), (60, i_aload 0 61), (61, i_getT 8 0 64), (64, i_getO 7 3 67), (67, i_iload 1 68), (68, i_iald 69), (70, i_push (.int (-2)) 72)]
set_option maxRecDepth 100000 in
theorem okX8_partner : gOk YX8_partner tX8_partner := ok_c (sn_aload_n (show decode cX8_partner 0 = .ok (.aload_n 0, 1) by decide +kernel) rfl) <|
  ok_c (sn_getT (j := 6) (fun _ _ => rfl) (sn_get ck_8 (by decide) (show decode cX8_partner 1 = .ok (.getfield 51, 3) by decide +kernel) wd_2_130)) <|
  ok_c (sn_iload_n (show decode cX8_partner 4 = .ok (.iload_n 1, 1) by decide +kernel) rfl) <|
  ok_c (sn_if_ne (show decode cX8_partner 8 = .ok (.ifCond .ne 6, 3) by decide +kernel) (by decide)) <|
  ok_c (sn_bipush (v := (-2)) (show decode cX8_partner 11 = .ok (.bipush (-2), 2) by decide +kernel) (by decide +kernel)) <|
  ok_c (sn_iload_n (show decode cX8_partner 14 = .ok (.iload_n 2, 1) by decide +kernel) rfl) <|
  ok_c (sn_tsw (show decode cX8_partner 15 = .ok (.tableswitch 55 0 2 #[25, 35, 45], 25) by decide +kernel) (by decide +kernel) (by decide)) <|
  ok_c (sn_aload_n (show decode cX8_partner 40 = .ok (.aload_n 0, 1) by decide +kernel) rfl) <|
  ok_c (sn_getT (j := 6) (fun _ _ => rfl) (sn_get ck_8 (by decide) (show decode cX8_partner 41 = .ok (.getfield 51, 3) by decide +kernel) wd_2_130)) <|
  ok_c (sn_getO (j := 9) (fun _ _ => rfl) (sn_get ck_7 (by decide) (show decode cX8_partner 44 = .ok (.getfield 87, 3) by decide +kernel) wd_1_125)) <|
  ok_c (sn_iload_n (show decode cX8_partner 47 = .ok (.iload_n 1, 1) by decide +kernel) rfl) <|
  ok_c (sn_iald (show decode cX8_partner 48 = .ok (.iaload, 1) by decide +kernel)) <|
  ok_c (sn_aload_n (show decode cX8_partner 50 = .ok (.aload_n 0, 1) by decide +kernel) rfl) <|
  ok_c (sn_getT (j := 6) (fun _ _ => rfl) (sn_get ck_8 (by decide) (show decode cX8_partner 51 = .ok (.getfield 51, 3) by decide +kernel) wd_2_130)) <|
  ok_c (sn_getO (j := 10) (fun _ _ => rfl) (sn_get ck_7 (by decide) (show decode cX8_partner 54 = .ok (.getfield 91, 3) by decide +kernel) wd_1_129)) <|
  ok_c (sn_iload_n (show decode cX8_partner 57 = .ok (.iload_n 1, 1) by decide +kernel) rfl) <|
  ok_c (sn_iald (show decode cX8_partner 58 = .ok (.iaload, 1) by decide +kernel)) <|
  ok_c (sn_aload_n (show decode cX8_partner 60 = .ok (.aload_n 0, 1) by decide +kernel) rfl) <|
  ok_c (sn_getT (j := 6) (fun _ _ => rfl) (sn_get ck_8 (by decide) (show decode cX8_partner 61 = .ok (.getfield 51, 3) by decide +kernel) wd_2_130)) <|
  ok_c (sn_getO (j := 11) (fun _ _ => rfl) (sn_get ck_7 (by decide) (show decode cX8_partner 64 = .ok (.getfield 94, 3) by decide +kernel) wd_1_132)) <|
  ok_c (sn_iload_n (show decode cX8_partner 67 = .ok (.iload_n 1, 1) by decide +kernel) rfl) <|
  ok_c (sn_iald (show decode cX8_partner 68 = .ok (.iaload, 1) by decide +kernel)) <|
  ok_c (sn_bipush (v := (-2)) (show decode cX8_partner 70 = .ok (.bipush (-2), 2) by decide +kernel) (by decide +kernel)) <|
  ok_n
def uX8_partner : gCT := [(5, YX7_hasPartner, 2, some 7)]
set_option maxRecDepth 100000 in
theorem ocX8_partner : gOkC YX8_partner uX8_partner := oc_c (gEdge_V cal_X7_hasPartner ck_7 rfl (show decode cX8_partner 5 = .ok (.invokevirtual 83, 3) by decide +kernel) wd_3_74 wd_3_75 wd_3_76) <|
  oc_n
theorem reX8_partner : ∀ pc ∈ [13, 49, 59, 69, 72], decode cX8_partner pc = .ok (.ireturn, 1) := by decide +kernel
def tX8_join : List (Nat × gStp) := [(0, i_aload 0 1), (1, i_getT 8 0 4), (4, i_iload 1 5), (8, i_if_ne 14 11), (11, i_push (.int (-2)) 13), (14, i_iload 2 15), (15, i_sw [(0, 40), (1, 50), (2, 60)] 70), (40, i_aload 0 41), (41, i_getT 8 0 44), (44, i_getO 7 4 47), (47, i_iload 1 48), (48, i_iald 49), (50, i_aload 0 51), (51, i_getT 8 0 54), (54, i_getO 7 5 57), (57, i_iload 1 58), (58, i_iald 59), (60, i_aload 0 61), (61, i_getT 8 0 64), (64, i_getO 7 6 67), (67, i_iload 1 68), (68, i_iald 69), (70, i_push (.int (-2)) 72)]
set_option maxRecDepth 100000 in
theorem okX8_join : gOk YX8_join tX8_join := ok_c (sn_aload_n (show decode cX8_join 0 = .ok (.aload_n 0, 1) by decide +kernel) rfl) <|
  ok_c (sn_getT (j := 6) (fun _ _ => rfl) (sn_get ck_8 (by decide) (show decode cX8_join 1 = .ok (.getfield 51, 3) by decide +kernel) wd_2_130)) <|
  ok_c (sn_iload_n (show decode cX8_join 4 = .ok (.iload_n 1, 1) by decide +kernel) rfl) <|
  ok_c (sn_if_ne (show decode cX8_join 8 = .ok (.ifCond .ne 6, 3) by decide +kernel) (by decide)) <|
  ok_c (sn_bipush (v := (-2)) (show decode cX8_join 11 = .ok (.bipush (-2), 2) by decide +kernel) (by decide +kernel)) <|
  ok_c (sn_iload_n (show decode cX8_join 14 = .ok (.iload_n 2, 1) by decide +kernel) rfl) <|
  ok_c (sn_tsw (show decode cX8_join 15 = .ok (.tableswitch 55 0 2 #[25, 35, 45], 25) by decide +kernel) (by decide +kernel) (by decide)) <|
  ok_c (sn_aload_n (show decode cX8_join 40 = .ok (.aload_n 0, 1) by decide +kernel) rfl) <|
  ok_c (sn_getT (j := 6) (fun _ _ => rfl) (sn_get ck_8 (by decide) (show decode cX8_join 41 = .ok (.getfield 51, 3) by decide +kernel) wd_2_130)) <|
  ok_c (sn_getO (j := 12) (fun _ _ => rfl) (sn_get ck_7 (by decide) (show decode cX8_join 44 = .ok (.getfield 100, 3) by decide +kernel) wd_1_137)) <|
  ok_c (sn_iload_n (show decode cX8_join 47 = .ok (.iload_n 1, 1) by decide +kernel) rfl) <|
  ok_c (sn_iald (show decode cX8_join 48 = .ok (.iaload, 1) by decide +kernel)) <|
  ok_c (sn_aload_n (show decode cX8_join 50 = .ok (.aload_n 0, 1) by decide +kernel) rfl) <|
  ok_c (sn_getT (j := 6) (fun _ _ => rfl) (sn_get ck_8 (by decide) (show decode cX8_join 51 = .ok (.getfield 51, 3) by decide +kernel) wd_2_130)) <|
  ok_c (sn_getO (j := 13) (fun _ _ => rfl) (sn_get ck_7 (by decide) (show decode cX8_join 54 = .ok (.getfield 103, 3) by decide +kernel) wd_1_141)) <|
  ok_c (sn_iload_n (show decode cX8_join 57 = .ok (.iload_n 1, 1) by decide +kernel) rfl) <|
  ok_c (sn_iald (show decode cX8_join 58 = .ok (.iaload, 1) by decide +kernel)) <|
  ok_c (sn_aload_n (show decode cX8_join 60 = .ok (.aload_n 0, 1) by decide +kernel) rfl) <|
  ok_c (sn_getT (j := 6) (fun _ _ => rfl) (sn_get ck_8 (by decide) (show decode cX8_join 61 = .ok (.getfield 51, 3) by decide +kernel) wd_2_130)) <|
  ok_c (sn_getO (j := 14) (fun _ _ => rfl) (sn_get ck_7 (by decide) (show decode cX8_join 64 = .ok (.getfield 106, 3) by decide +kernel) wd_1_145)) <|
  ok_c (sn_iload_n (show decode cX8_join 67 = .ok (.iload_n 1, 1) by decide +kernel) rfl) <|
  ok_c (sn_iald (show decode cX8_join 68 = .ok (.iaload, 1) by decide +kernel)) <|
  ok_c (sn_bipush (v := (-2)) (show decode cX8_join 70 = .ok (.bipush (-2), 2) by decide +kernel) (by decide +kernel)) <|
  ok_n
def uX8_join : gCT := [(5, YX7_hasJoin, 2, some 7)]
set_option maxRecDepth 100000 in
theorem ocX8_join : gOkC YX8_join uX8_join := oc_c (gEdge_V cal_X7_hasJoin ck_7 rfl (show decode cX8_join 5 = .ok (.invokevirtual 97, 3) by decide +kernel) wd_3_82 wd_3_83 wd_3_84) <|
  oc_n
theorem reX8_join : ∀ pc ∈ [13, 49, 59, 69, 72], decode cX8_join pc = .ok (.ireturn, 1) := by decide +kernel
def tX8_door : List (Nat × gStp) := [(0, i_aload 0 1), (1, i_getT 8 0 4), (4, i_iload 1 5), (8, i_if_eq 23 11), (11, i_aload 0 12), (12, i_getT 8 0 15), (15, i_getO 7 7 18), (18, i_iload 1 19), (19, i_iald 20), (20, i_goto 25), (23, i_push (.int (-2)) 25)]
set_option maxRecDepth 100000 in
theorem okX8_door : gOk YX8_door tX8_door := ok_c (sn_aload_n (show decode cX8_door 0 = .ok (.aload_n 0, 1) by decide +kernel) rfl) <|
  ok_c (sn_getT (j := 6) (fun _ _ => rfl) (sn_get ck_8 (by decide) (show decode cX8_door 1 = .ok (.getfield 51, 3) by decide +kernel) wd_2_130)) <|
  ok_c (sn_iload_n (show decode cX8_door 4 = .ok (.iload_n 1, 1) by decide +kernel) rfl) <|
  ok_c (sn_if_eq (show decode cX8_door 8 = .ok (.ifCond .eq 15, 3) by decide +kernel) (by decide)) <|
  ok_c (sn_aload_n (show decode cX8_door 11 = .ok (.aload_n 0, 1) by decide +kernel) rfl) <|
  ok_c (sn_getT (j := 6) (fun _ _ => rfl) (sn_get ck_8 (by decide) (show decode cX8_door 12 = .ok (.getfield 51, 3) by decide +kernel) wd_2_130)) <|
  ok_c (sn_getO (j := 15) (fun _ _ => rfl) (sn_get ck_7 (by decide) (show decode cX8_door 15 = .ok (.getfield 112, 3) by decide +kernel) wd_1_149)) <|
  ok_c (sn_iload_n (show decode cX8_door 18 = .ok (.iload_n 1, 1) by decide +kernel) rfl) <|
  ok_c (sn_iald (show decode cX8_door 19 = .ok (.iaload, 1) by decide +kernel)) <|
  ok_c (sn_goto (show decode cX8_door 20 = .ok (.goto 5, 3) by decide +kernel) (by decide)) <|
  ok_c (sn_bipush (v := (-2)) (show decode cX8_door 23 = .ok (.bipush (-2), 2) by decide +kernel) (by decide +kernel)) <|
  ok_n
def uX8_door : gCT := [(5, YX7_hasDoor, 2, some 7)]
set_option maxRecDepth 100000 in
theorem ocX8_door : gOkC YX8_door uX8_door := oc_c (gEdge_V cal_X7_hasDoor ck_7 rfl (show decode cX8_door 5 = .ok (.invokevirtual 109, 3) by decide +kernel) wd_3_90 wd_3_91 wd_3_92) <|
  oc_n
theorem reX8_door : ∀ pc ∈ [25], decode cX8_door pc = .ok (.ireturn, 1) := by decide +kernel
def tX8_holds : List (Nat × gStp) := [(0, i_aload 0 1), (1, i_getT 8 0 4), (4, i_iload 1 5), (8, i_if_ne 14 11), (11, i_push (.int (-2)) 13), (14, i_aload 0 15), (18, i_aload 0 19), (19, i_getC 8 14 22), (22, i_getC 2 19 25), (25, i_iload 1 26), (26, i_iald 27)]
set_option maxRecDepth 100000 in
theorem okX8_holds : gOk YX8_holds tX8_holds := ok_c (sn_aload_n (show decode cX8_holds 0 = .ok (.aload_n 0, 1) by decide +kernel) rfl) <|
  ok_c (sn_getT (j := 6) (fun _ _ => rfl) (sn_get ck_8 (by decide) (show decode cX8_holds 1 = .ok (.getfield 51, 3) by decide +kernel) wd_2_130)) <|
  ok_c (sn_iload_n (show decode cX8_holds 4 = .ok (.iload_n 1, 1) by decide +kernel) rfl) <|
  ok_c (sn_if_ne (show decode cX8_holds 8 = .ok (.ifCond .ne 6, 3) by decide +kernel) (by decide)) <|
  ok_c (sn_bipush (v := (-2)) (show decode cX8_holds 11 = .ok (.bipush (-2), 2) by decide +kernel) (by decide +kernel)) <|
  ok_c (sn_aload_n (show decode cX8_holds 14 = .ok (.aload_n 0, 1) by decide +kernel) rfl) <|
  ok_c (sn_aload_n (show decode cX8_holds 18 = .ok (.aload_n 0, 1) by decide +kernel) rfl) <|
  ok_c (sn_getC (j := 3) (fun _ _ => rfl) (sn_get ck_8 (by decide) (show decode cX8_holds 19 = .ok (.getfield 33, 3) by decide +kernel) wd_2_127)) <|
  ok_c (sn_getC (j := 10) (fun _ _ => rfl) (sn_get ck_2 (by decide) (show decode cX8_holds 22 = .ok (.getfield 121, 3) by decide +kernel) wd_2_40)) <|
  ok_c (sn_iload_n (show decode cX8_holds 25 = .ok (.iload_n 1, 1) by decide +kernel) rfl) <|
  ok_c (sn_iald (show decode cX8_holds 26 = .ok (.iaload, 1) by decide +kernel)) <|
  ok_n
def uX8_holds : gCT := [(5, YX7_hasYear, 2, some 7), (15, YX8_liveAsNow, 1, some 8)]
set_option maxRecDepth 100000 in
theorem ocX8_holds : gOkC YX8_holds uX8_holds := oc_c (gEdge_V cal_X7_hasYear ck_7 rfl (show decode cX8_holds 5 = .ok (.invokevirtual 115, 3) by decide +kernel) wd_3_98 wd_3_99 wd_3_100) <|
  oc_c (gEdge_V cal_X8_liveAsNow ck_8 rfl (show decode cX8_holds 15 = .ok (.invokevirtual 118, 3) by decide +kernel) wd_3_102 wd_3_104 wp_1_13) <|
  oc_n
theorem reX8_holds : ∀ pc ∈ [13, 27], decode cX8_holds pc = .ok (.ireturn, 1) := by decide +kernel
def tX8_tied : List (Nat × gStp) := [(0, i_aload 0 1), (1, i_getT 8 0 4), (4, i_iload 1 5), (5, i_iload 2 6), (9, i_if_eq 23 12), (12, i_aload 0 13), (13, i_getT 8 0 16), (16, i_iload 3 17), (20, i_if_ne 26 23), (23, i_push (.int (-2)) 25), (26, i_aload 0 27), (30, i_aload 0 31), (31, i_getC 8 14 34), (34, i_iload 1 35), (35, i_iload 2 36), (36, i_iload 3 37), (40, i_if_eq 47 43), (43, i_push (.int 1) 44), (44, i_goto 48), (47, i_push (.int 0) 48)]
set_option maxRecDepth 100000 in
theorem okX8_tied : gOk YX8_tied tX8_tied := ok_c (sn_aload_n (show decode cX8_tied 0 = .ok (.aload_n 0, 1) by decide +kernel) rfl) <|
  ok_c (sn_getT (j := 6) (fun _ _ => rfl) (sn_get ck_8 (by decide) (show decode cX8_tied 1 = .ok (.getfield 51, 3) by decide +kernel) wd_2_130)) <|
  ok_c (sn_iload_n (show decode cX8_tied 4 = .ok (.iload_n 1, 1) by decide +kernel) rfl) <|
  ok_c (sn_iload_n (show decode cX8_tied 5 = .ok (.iload_n 2, 1) by decide +kernel) rfl) <|
  ok_c (sn_if_eq (show decode cX8_tied 9 = .ok (.ifCond .eq 14, 3) by decide +kernel) (by decide)) <|
  ok_c (sn_aload_n (show decode cX8_tied 12 = .ok (.aload_n 0, 1) by decide +kernel) rfl) <|
  ok_c (sn_getT (j := 6) (fun _ _ => rfl) (sn_get ck_8 (by decide) (show decode cX8_tied 13 = .ok (.getfield 51, 3) by decide +kernel) wd_2_130)) <|
  ok_c (sn_iload_n (show decode cX8_tied 16 = .ok (.iload_n 3, 1) by decide +kernel) rfl) <|
  ok_c (sn_if_ne (show decode cX8_tied 20 = .ok (.ifCond .ne 6, 3) by decide +kernel) (by decide)) <|
  ok_c (sn_bipush (v := (-2)) (show decode cX8_tied 23 = .ok (.bipush (-2), 2) by decide +kernel) (by decide +kernel)) <|
  ok_c (sn_aload_n (show decode cX8_tied 26 = .ok (.aload_n 0, 1) by decide +kernel) rfl) <|
  ok_c (sn_aload_n (show decode cX8_tied 30 = .ok (.aload_n 0, 1) by decide +kernel) rfl) <|
  ok_c (sn_getC (j := 3) (fun _ _ => rfl) (sn_get ck_8 (by decide) (show decode cX8_tied 31 = .ok (.getfield 33, 3) by decide +kernel) wd_2_127)) <|
  ok_c (sn_iload_n (show decode cX8_tied 34 = .ok (.iload_n 1, 1) by decide +kernel) rfl) <|
  ok_c (sn_iload_n (show decode cX8_tied 35 = .ok (.iload_n 2, 1) by decide +kernel) rfl) <|
  ok_c (sn_iload_n (show decode cX8_tied 36 = .ok (.iload_n 3, 1) by decide +kernel) rfl) <|
  ok_c (sn_if_eq (show decode cX8_tied 40 = .ok (.ifCond .eq 7, 3) by decide +kernel) (by decide)) <|
  ok_c (sn_iconst (v := 1) (show decode cX8_tied 43 = .ok (.iconst 1, 1) by decide +kernel) (by decide +kernel)) <|
  ok_c (sn_goto (show decode cX8_tied 44 = .ok (.goto 4, 3) by decide +kernel) (by decide)) <|
  ok_c (sn_iconst (v := 0) (show decode cX8_tied 47 = .ok (.iconst 0, 1) by decide +kernel) (by decide +kernel)) <|
  ok_n
def uX8_tied : gCT := [(6, YX7_hasPair, 3, some 7), (17, YX7_hasYear, 2, some 7), (27, YX8_liveAsNow, 1, some 8), (37, YX2_areTied, 4, some 2)]
set_option maxRecDepth 100000 in
theorem ocX8_tied : gOkC YX8_tied uX8_tied := oc_c (gEdge_V cal_X7_hasPair ck_7 rfl (show decode cX8_tied 6 = .ok (.invokevirtual 124, 3) by decide +kernel) wd_3_187 wd_3_188 wd_3_189) <|
  oc_c (gEdge_V cal_X7_hasYear ck_7 rfl (show decode cX8_tied 17 = .ok (.invokevirtual 115, 3) by decide +kernel) wd_3_98 wd_3_99 wd_3_100) <|
  oc_c (gEdge_V cal_X8_liveAsNow ck_8 rfl (show decode cX8_tied 27 = .ok (.invokevirtual 118, 3) by decide +kernel) wd_3_102 wd_3_104 wp_1_13) <|
  oc_c (gEdge_V cal_X2_areTied ck_2 rfl (show decode cX8_tied 37 = .ok (.invokevirtual 128, 3) by decide +kernel) wd_3_192 wd_3_193 wd_3_194) <|
  oc_n
theorem reX8_tied : ∀ pc ∈ [25, 48], decode cX8_tied pc = .ok (.ireturn, 1) := by decide +kernel
def tX8_firm : List (Nat × gStp) := [(0, i_aload 0 1), (1, i_getT 8 0 4), (4, i_iload 1 5), (8, i_if_eq 22 11), (11, i_aload 0 12), (12, i_getT 8 0 15), (15, i_iload 2 16), (19, i_if_ne 25 22), (22, i_push (.int (-2)) 24), (25, i_aload 0 26), (29, i_aload 0 30), (30, i_getC 8 14 33), (33, i_getC 2 48 36), (36, i_iload 2 37), (37, i_aald7 38), (38, i_iload 1 39), (39, i_iald 40)]
set_option maxRecDepth 100000 in
theorem okX8_firm : gOk YX8_firm tX8_firm := ok_c (sn_aload_n (show decode cX8_firm 0 = .ok (.aload_n 0, 1) by decide +kernel) rfl) <|
  ok_c (sn_getT (j := 6) (fun _ _ => rfl) (sn_get ck_8 (by decide) (show decode cX8_firm 1 = .ok (.getfield 51, 3) by decide +kernel) wd_2_130)) <|
  ok_c (sn_iload_n (show decode cX8_firm 4 = .ok (.iload_n 1, 1) by decide +kernel) rfl) <|
  ok_c (sn_if_eq (show decode cX8_firm 8 = .ok (.ifCond .eq 14, 3) by decide +kernel) (by decide)) <|
  ok_c (sn_aload_n (show decode cX8_firm 11 = .ok (.aload_n 0, 1) by decide +kernel) rfl) <|
  ok_c (sn_getT (j := 6) (fun _ _ => rfl) (sn_get ck_8 (by decide) (show decode cX8_firm 12 = .ok (.getfield 51, 3) by decide +kernel) wd_2_130)) <|
  ok_c (sn_iload_n (show decode cX8_firm 15 = .ok (.iload_n 2, 1) by decide +kernel) rfl) <|
  ok_c (sn_if_ne (show decode cX8_firm 19 = .ok (.ifCond .ne 6, 3) by decide +kernel) (by decide)) <|
  ok_c (sn_bipush (v := (-2)) (show decode cX8_firm 22 = .ok (.bipush (-2), 2) by decide +kernel) (by decide +kernel)) <|
  ok_c (sn_aload_n (show decode cX8_firm 25 = .ok (.aload_n 0, 1) by decide +kernel) rfl) <|
  ok_c (sn_aload_n (show decode cX8_firm 29 = .ok (.aload_n 0, 1) by decide +kernel) rfl) <|
  ok_c (sn_getC (j := 3) (fun _ _ => rfl) (sn_get ck_8 (by decide) (show decode cX8_firm 30 = .ok (.getfield 33, 3) by decide +kernel) wd_2_127)) <|
  ok_c (sn_getC (j := 15) (fun _ _ => rfl) (sn_get ck_2 (by decide) (show decode cX8_firm 33 = .ok (.getfield 132, 3) by decide +kernel) wd_2_49)) <|
  ok_c (sn_iload_n (show decode cX8_firm 36 = .ok (.iload_n 2, 1) by decide +kernel) rfl) <|
  ok_c (sn_aald7 (show decode cX8_firm 37 = .ok (.aaload, 1) by decide +kernel)) <|
  ok_c (sn_iload_n (show decode cX8_firm 38 = .ok (.iload_n 1, 1) by decide +kernel) rfl) <|
  ok_c (sn_iald (show decode cX8_firm 39 = .ok (.iaload, 1) by decide +kernel)) <|
  ok_n
def uX8_firm : gCT := [(5, YX7_hasPartner, 2, some 7), (16, YX7_hasYear, 2, some 7), (26, YX8_liveAsNow, 1, some 8)]
set_option maxRecDepth 100000 in
theorem ocX8_firm : gOkC YX8_firm uX8_firm := oc_c (gEdge_V cal_X7_hasPartner ck_7 rfl (show decode cX8_firm 5 = .ok (.invokevirtual 83, 3) by decide +kernel) wd_3_74 wd_3_75 wd_3_76) <|
  oc_c (gEdge_V cal_X7_hasYear ck_7 rfl (show decode cX8_firm 16 = .ok (.invokevirtual 115, 3) by decide +kernel) wd_3_98 wd_3_99 wd_3_100) <|
  oc_c (gEdge_V cal_X8_liveAsNow ck_8 rfl (show decode cX8_firm 26 = .ok (.invokevirtual 118, 3) by decide +kernel) wd_3_102 wd_3_104 wp_1_13) <|
  oc_n
theorem reX8_firm : ∀ pc ∈ [24, 40], decode cX8_firm pc = .ok (.ireturn, 1) := by decide +kernel
def tX8_firms : List (Nat × gStp) := [(0, i_aload 0 1), (1, i_getT 8 0 4), (4, i_iload 1 5), (8, i_if_ne 14 11), (11, i_push (.int (-2)) 13), (14, i_aload 0 15), (18, i_aload 0 19), (19, i_getC 8 14 22), (22, i_aload 0 23), (23, i_getT 8 0 26), (26, i_iload 1 27)]
set_option maxRecDepth 100000 in
theorem okX8_firms : gOk YX8_firms tX8_firms := ok_c (sn_aload_n (show decode cX8_firms 0 = .ok (.aload_n 0, 1) by decide +kernel) rfl) <|
  ok_c (sn_getT (j := 6) (fun _ _ => rfl) (sn_get ck_8 (by decide) (show decode cX8_firms 1 = .ok (.getfield 51, 3) by decide +kernel) wd_2_130)) <|
  ok_c (sn_iload_n (show decode cX8_firms 4 = .ok (.iload_n 1, 1) by decide +kernel) rfl) <|
  ok_c (sn_if_ne (show decode cX8_firms 8 = .ok (.ifCond .ne 6, 3) by decide +kernel) (by decide)) <|
  ok_c (sn_bipush (v := (-2)) (show decode cX8_firms 11 = .ok (.bipush (-2), 2) by decide +kernel) (by decide +kernel)) <|
  ok_c (sn_aload_n (show decode cX8_firms 14 = .ok (.aload_n 0, 1) by decide +kernel) rfl) <|
  ok_c (sn_aload_n (show decode cX8_firms 18 = .ok (.aload_n 0, 1) by decide +kernel) rfl) <|
  ok_c (sn_getC (j := 3) (fun _ _ => rfl) (sn_get ck_8 (by decide) (show decode cX8_firms 19 = .ok (.getfield 33, 3) by decide +kernel) wd_2_127)) <|
  ok_c (sn_aload_n (show decode cX8_firms 22 = .ok (.aload_n 0, 1) by decide +kernel) rfl) <|
  ok_c (sn_getT (j := 6) (fun _ _ => rfl) (sn_get ck_8 (by decide) (show decode cX8_firms 23 = .ok (.getfield 51, 3) by decide +kernel) wd_2_130)) <|
  ok_c (sn_iload_n (show decode cX8_firms 26 = .ok (.iload_n 1, 1) by decide +kernel) rfl) <|
  ok_n
def uX8_firms : gCT := [(5, YX7_hasYear, 2, some 7), (15, YX8_liveAsNow, 1, some 8), (27, YX2_firmCount, 3, some 2)]
set_option maxRecDepth 100000 in
theorem ocX8_firms : gOkC YX8_firms uX8_firms := oc_c (gEdge_V cal_X7_hasYear ck_7 rfl (show decode cX8_firms 5 = .ok (.invokevirtual 115, 3) by decide +kernel) wd_3_98 wd_3_99 wd_3_100) <|
  oc_c (gEdge_V cal_X8_liveAsNow ck_8 rfl (show decode cX8_firms 15 = .ok (.invokevirtual 118, 3) by decide +kernel) wd_3_102 wd_3_104 wp_1_13) <|
  oc_c (gEdge_V cal_X2_firmCount ck_2 rfl (show decode cX8_firms 27 = .ok (.invokevirtual 136, 3) by decide +kernel) wd_3_204 wd_3_205 wd_3_206) <|
  oc_n
theorem reX8_firms : ∀ pc ∈ [13, 30], decode cX8_firms pc = .ok (.ireturn, 1) := by decide +kernel
def tX8_wide : List (Nat × gStp) := [(0, i_aload 0 1), (1, i_getT 8 0 4), (4, i_iload 1 5), (8, i_if_eq 22 11), (11, i_aload 0 12), (12, i_getT 8 0 15), (15, i_iload 2 16), (19, i_if_ne 25 22), (22, i_push (.int (-2)) 24), (25, i_aload 0 26), (29, i_aload 0 30), (30, i_getC 8 14 33), (33, i_aload 0 34), (34, i_getT 8 0 37), (37, i_iload 2 38), (38, i_iload 1 39), (39, i_aload 0 40), (40, i_getT 8 0 43), (43, i_getI 7 2 46)]
set_option maxRecDepth 100000 in
theorem okX8_wide : gOk YX8_wide tX8_wide := ok_c (sn_aload_n (show decode cX8_wide 0 = .ok (.aload_n 0, 1) by decide +kernel) rfl) <|
  ok_c (sn_getT (j := 6) (fun _ _ => rfl) (sn_get ck_8 (by decide) (show decode cX8_wide 1 = .ok (.getfield 51, 3) by decide +kernel) wd_2_130)) <|
  ok_c (sn_iload_n (show decode cX8_wide 4 = .ok (.iload_n 1, 1) by decide +kernel) rfl) <|
  ok_c (sn_if_eq (show decode cX8_wide 8 = .ok (.ifCond .eq 14, 3) by decide +kernel) (by decide)) <|
  ok_c (sn_aload_n (show decode cX8_wide 11 = .ok (.aload_n 0, 1) by decide +kernel) rfl) <|
  ok_c (sn_getT (j := 6) (fun _ _ => rfl) (sn_get ck_8 (by decide) (show decode cX8_wide 12 = .ok (.getfield 51, 3) by decide +kernel) wd_2_130)) <|
  ok_c (sn_iload_n (show decode cX8_wide 15 = .ok (.iload_n 2, 1) by decide +kernel) rfl) <|
  ok_c (sn_if_ne (show decode cX8_wide 19 = .ok (.ifCond .ne 6, 3) by decide +kernel) (by decide)) <|
  ok_c (sn_bipush (v := (-2)) (show decode cX8_wide 22 = .ok (.bipush (-2), 2) by decide +kernel) (by decide +kernel)) <|
  ok_c (sn_aload_n (show decode cX8_wide 25 = .ok (.aload_n 0, 1) by decide +kernel) rfl) <|
  ok_c (sn_aload_n (show decode cX8_wide 29 = .ok (.aload_n 0, 1) by decide +kernel) rfl) <|
  ok_c (sn_getC (j := 3) (fun _ _ => rfl) (sn_get ck_8 (by decide) (show decode cX8_wide 30 = .ok (.getfield 33, 3) by decide +kernel) wd_2_127)) <|
  ok_c (sn_aload_n (show decode cX8_wide 33 = .ok (.aload_n 0, 1) by decide +kernel) rfl) <|
  ok_c (sn_getT (j := 6) (fun _ _ => rfl) (sn_get ck_8 (by decide) (show decode cX8_wide 34 = .ok (.getfield 51, 3) by decide +kernel) wd_2_130)) <|
  ok_c (sn_iload_n (show decode cX8_wide 37 = .ok (.iload_n 2, 1) by decide +kernel) rfl) <|
  ok_c (sn_iload_n (show decode cX8_wide 38 = .ok (.iload_n 1, 1) by decide +kernel) rfl) <|
  ok_c (sn_aload_n (show decode cX8_wide 39 = .ok (.aload_n 0, 1) by decide +kernel) rfl) <|
  ok_c (sn_getT (j := 6) (fun _ _ => rfl) (sn_get ck_8 (by decide) (show decode cX8_wide 40 = .ok (.getfield 51, 3) by decide +kernel) wd_2_130)) <|
  ok_c (sn_getI (fun _ _ => rfl) (sn_get ck_7 (by decide) (show decode cX8_wide 43 = .ok (.getfield 140, 3) by decide +kernel) wd_1_95)) <|
  ok_n
def uX8_wide : gCT := [(5, YX7_hasPartner, 2, some 7), (16, YX7_hasYear, 2, some 7), (26, YX8_liveAsNow, 1, some 8), (46, YX2_firmWidth, 5, some 2)]
set_option maxRecDepth 100000 in
theorem ocX8_wide : gOkC YX8_wide uX8_wide := oc_c (gEdge_V cal_X7_hasPartner ck_7 rfl (show decode cX8_wide 5 = .ok (.invokevirtual 83, 3) by decide +kernel) wd_3_74 wd_3_75 wd_3_76) <|
  oc_c (gEdge_V cal_X7_hasYear ck_7 rfl (show decode cX8_wide 16 = .ok (.invokevirtual 115, 3) by decide +kernel) wd_3_98 wd_3_99 wd_3_100) <|
  oc_c (gEdge_V cal_X8_liveAsNow ck_8 rfl (show decode cX8_wide 26 = .ok (.invokevirtual 118, 3) by decide +kernel) wd_3_102 wd_3_104 wp_1_13) <|
  oc_c (gEdge_V cal_X2_firmWidth ck_2 rfl (show decode cX8_wide 46 = .ok (.invokevirtual 143, 3) by decide +kernel) wd_3_212 wd_3_213 wd_3_214) <|
  oc_n
theorem reX8_wide : ∀ pc ∈ [24, 49], decode cX8_wide pc = .ok (.ireturn, 1) := by decide +kernel
def tX8_passes : List (Nat × gStp) := [(0, i_aload 0 1), (1, i_getT 8 0 4), (4, i_iload 1 5), (8, i_if_eq 22 11), (11, i_aload 0 12), (12, i_getT 8 0 15), (15, i_iload 2 16), (19, i_if_ne 25 22), (22, i_push (.int (-2)) 24), (25, i_aload 0 26), (29, i_aload 0 30), (30, i_getC 8 14 33), (33, i_aload 0 34), (34, i_getT 8 0 37), (37, i_iload 2 38), (38, i_iload 1 39), (39, i_aload 0 40), (40, i_getT 8 0 43), (43, i_getI 7 2 46)]
set_option maxRecDepth 100000 in
theorem okX8_passes : gOk YX8_passes tX8_passes := ok_c (sn_aload_n (show decode cX8_passes 0 = .ok (.aload_n 0, 1) by decide +kernel) rfl) <|
  ok_c (sn_getT (j := 6) (fun _ _ => rfl) (sn_get ck_8 (by decide) (show decode cX8_passes 1 = .ok (.getfield 51, 3) by decide +kernel) wd_2_130)) <|
  ok_c (sn_iload_n (show decode cX8_passes 4 = .ok (.iload_n 1, 1) by decide +kernel) rfl) <|
  ok_c (sn_if_eq (show decode cX8_passes 8 = .ok (.ifCond .eq 14, 3) by decide +kernel) (by decide)) <|
  ok_c (sn_aload_n (show decode cX8_passes 11 = .ok (.aload_n 0, 1) by decide +kernel) rfl) <|
  ok_c (sn_getT (j := 6) (fun _ _ => rfl) (sn_get ck_8 (by decide) (show decode cX8_passes 12 = .ok (.getfield 51, 3) by decide +kernel) wd_2_130)) <|
  ok_c (sn_iload_n (show decode cX8_passes 15 = .ok (.iload_n 2, 1) by decide +kernel) rfl) <|
  ok_c (sn_if_ne (show decode cX8_passes 19 = .ok (.ifCond .ne 6, 3) by decide +kernel) (by decide)) <|
  ok_c (sn_bipush (v := (-2)) (show decode cX8_passes 22 = .ok (.bipush (-2), 2) by decide +kernel) (by decide +kernel)) <|
  ok_c (sn_aload_n (show decode cX8_passes 25 = .ok (.aload_n 0, 1) by decide +kernel) rfl) <|
  ok_c (sn_aload_n (show decode cX8_passes 29 = .ok (.aload_n 0, 1) by decide +kernel) rfl) <|
  ok_c (sn_getC (j := 3) (fun _ _ => rfl) (sn_get ck_8 (by decide) (show decode cX8_passes 30 = .ok (.getfield 33, 3) by decide +kernel) wd_2_127)) <|
  ok_c (sn_aload_n (show decode cX8_passes 33 = .ok (.aload_n 0, 1) by decide +kernel) rfl) <|
  ok_c (sn_getT (j := 6) (fun _ _ => rfl) (sn_get ck_8 (by decide) (show decode cX8_passes 34 = .ok (.getfield 51, 3) by decide +kernel) wd_2_130)) <|
  ok_c (sn_iload_n (show decode cX8_passes 37 = .ok (.iload_n 2, 1) by decide +kernel) rfl) <|
  ok_c (sn_iload_n (show decode cX8_passes 38 = .ok (.iload_n 1, 1) by decide +kernel) rfl) <|
  ok_c (sn_aload_n (show decode cX8_passes 39 = .ok (.aload_n 0, 1) by decide +kernel) rfl) <|
  ok_c (sn_getT (j := 6) (fun _ _ => rfl) (sn_get ck_8 (by decide) (show decode cX8_passes 40 = .ok (.getfield 51, 3) by decide +kernel) wd_2_130)) <|
  ok_c (sn_getI (fun _ _ => rfl) (sn_get ck_7 (by decide) (show decode cX8_passes 43 = .ok (.getfield 140, 3) by decide +kernel) wd_1_95)) <|
  ok_n
def uX8_passes : gCT := [(5, YX7_hasPartner, 2, some 7), (16, YX7_hasYear, 2, some 7), (26, YX8_liveAsNow, 1, some 8), (46, YX2_doorsOf, 5, some 2)]
set_option maxRecDepth 100000 in
theorem ocX8_passes : gOkC YX8_passes uX8_passes := oc_c (gEdge_V cal_X7_hasPartner ck_7 rfl (show decode cX8_passes 5 = .ok (.invokevirtual 83, 3) by decide +kernel) wd_3_74 wd_3_75 wd_3_76) <|
  oc_c (gEdge_V cal_X7_hasYear ck_7 rfl (show decode cX8_passes 16 = .ok (.invokevirtual 115, 3) by decide +kernel) wd_3_98 wd_3_99 wd_3_100) <|
  oc_c (gEdge_V cal_X8_liveAsNow ck_8 rfl (show decode cX8_passes 26 = .ok (.invokevirtual 118, 3) by decide +kernel) wd_3_102 wd_3_104 wp_1_13) <|
  oc_c (gEdge_V cal_X2_doorsOf ck_2 rfl (show decode cX8_passes 46 = .ok (.invokevirtual 147, 3) by decide +kernel) wd_3_238 wd_3_239 wd_4_0) <|
  oc_n
theorem reX8_passes : ∀ pc ∈ [24, 49], decode cX8_passes pc = .ok (.ireturn, 1) := by decide +kernel
def tX8_largest : List (Nat × gStp) := [(0, i_aload 0 1), (1, i_getT 8 0 4), (4, i_iload 1 5), (8, i_if_ne 14 11), (11, i_push (.int (-2)) 13), (14, i_aload 0 15), (18, i_push (.int 0) 19), (19, i_istore 2 20), (20, i_push (.int 0) 21), (21, i_istore 3 22), (22, i_iload 3 23), (23, i_aload 0 24), (24, i_getT 8 0 27), (27, i_getI 7 5 30), (30, i_ic_ge 58 33), (33, i_iload 2 34), (34, i_aload 0 35), (35, i_getC 8 14 38), (38, i_getC 2 48 41), (41, i_iload 1 42), (42, i_aald7 43), (43, i_iload 3 44), (44, i_iald 45), (48, i_max 51), (51, i_istore 2 52), (52, i_iinc 3 1 55), (55, i_goto 22), (58, i_iload 2 59)]
set_option maxRecDepth 100000 in
theorem okX8_largest : gOk YX8_largest tX8_largest := ok_c (sn_aload_n (show decode cX8_largest 0 = .ok (.aload_n 0, 1) by decide +kernel) rfl) <|
  ok_c (sn_getT (j := 6) (fun _ _ => rfl) (sn_get ck_8 (by decide) (show decode cX8_largest 1 = .ok (.getfield 51, 3) by decide +kernel) wd_2_130)) <|
  ok_c (sn_iload_n (show decode cX8_largest 4 = .ok (.iload_n 1, 1) by decide +kernel) rfl) <|
  ok_c (sn_if_ne (show decode cX8_largest 8 = .ok (.ifCond .ne 6, 3) by decide +kernel) (by decide)) <|
  ok_c (sn_bipush (v := (-2)) (show decode cX8_largest 11 = .ok (.bipush (-2), 2) by decide +kernel) (by decide +kernel)) <|
  ok_c (sn_aload_n (show decode cX8_largest 14 = .ok (.aload_n 0, 1) by decide +kernel) rfl) <|
  ok_c (sn_iconst (v := 0) (show decode cX8_largest 18 = .ok (.iconst 0, 1) by decide +kernel) (by decide +kernel)) <|
  ok_c (sn_istore_n (show decode cX8_largest 19 = .ok (.istore_n 2, 1) by decide +kernel) rfl (by decide)) <|
  ok_c (sn_iconst (v := 0) (show decode cX8_largest 20 = .ok (.iconst 0, 1) by decide +kernel) (by decide +kernel)) <|
  ok_c (sn_istore_n (show decode cX8_largest 21 = .ok (.istore_n 3, 1) by decide +kernel) rfl (by decide)) <|
  ok_c (sn_iload_n (show decode cX8_largest 22 = .ok (.iload_n 3, 1) by decide +kernel) rfl) <|
  ok_c (sn_aload_n (show decode cX8_largest 23 = .ok (.aload_n 0, 1) by decide +kernel) rfl) <|
  ok_c (sn_getT (j := 6) (fun _ _ => rfl) (sn_get ck_8 (by decide) (show decode cX8_largest 24 = .ok (.getfield 51, 3) by decide +kernel) wd_2_130)) <|
  ok_c (sn_getI (fun _ _ => rfl) (sn_get ck_7 (by decide) (show decode cX8_largest 27 = .ok (.getfield 150, 3) by decide +kernel) wd_1_108)) <|
  ok_c (sn_ic_ge (show decode cX8_largest 30 = .ok (.if_icmp .ge 28, 3) by decide +kernel) (by decide)) <|
  ok_c (sn_iload_n (show decode cX8_largest 33 = .ok (.iload_n 2, 1) by decide +kernel) rfl) <|
  ok_c (sn_aload_n (show decode cX8_largest 34 = .ok (.aload_n 0, 1) by decide +kernel) rfl) <|
  ok_c (sn_getC (j := 3) (fun _ _ => rfl) (sn_get ck_8 (by decide) (show decode cX8_largest 35 = .ok (.getfield 33, 3) by decide +kernel) wd_2_127)) <|
  ok_c (sn_getC (j := 15) (fun _ _ => rfl) (sn_get ck_2 (by decide) (show decode cX8_largest 38 = .ok (.getfield 132, 3) by decide +kernel) wd_2_49)) <|
  ok_c (sn_iload_n (show decode cX8_largest 41 = .ok (.iload_n 1, 1) by decide +kernel) rfl) <|
  ok_c (sn_aald7 (show decode cX8_largest 42 = .ok (.aaload, 1) by decide +kernel)) <|
  ok_c (sn_iload_n (show decode cX8_largest 43 = .ok (.iload_n 3, 1) by decide +kernel) rfl) <|
  ok_c (sn_iald (show decode cX8_largest 44 = .ok (.iaload, 1) by decide +kernel)) <|
  ok_c (sn_max (show decode cX8_largest 48 = .ok (.invokestatic 159, 3) by decide +kernel) wd_4_8 wd_3_226 wd_1_11 wd_3_227) <|
  ok_c (sn_istore_n (show decode cX8_largest 51 = .ok (.istore_n 2, 1) by decide +kernel) rfl (by decide)) <|
  ok_c (sn_iinc (show decode cX8_largest 52 = .ok (.iinc 3 1, 3) by decide +kernel) (by decide) (by decide +kernel)) <|
  ok_c (sn_goto (show decode cX8_largest 55 = .ok (.goto (-33), 3) by decide +kernel) (by decide)) <|
  ok_c (sn_iload_n (show decode cX8_largest 58 = .ok (.iload_n 2, 1) by decide +kernel) rfl) <|
  ok_n
def uX8_largest : gCT := [(5, YX7_hasYear, 2, some 7), (15, YX8_liveAsNow, 1, some 8), (45, YJ6_bitCount_0f7a4, 1, none)]
set_option maxRecDepth 100000 in
theorem ocX8_largest : gOkC YX8_largest uX8_largest := oc_c (gEdge_V cal_X7_hasYear ck_7 rfl (show decode cX8_largest 5 = .ok (.invokevirtual 115, 3) by decide +kernel) wd_3_98 wd_3_99 wd_3_100) <|
  oc_c (gEdge_V cal_X8_liveAsNow ck_8 rfl (show decode cX8_largest 15 = .ok (.invokevirtual 118, 3) by decide +kernel) wd_3_102 wd_3_104 wp_1_13) <|
  oc_c (gEdge_S cal_J6_bitCount_0f7a4 (show decode cX8_largest 45 = .ok (.invokestatic 153, 3) by decide +kernel) wd_4_7 wd_3_229) <|
  oc_n
theorem reX8_largest : ∀ pc ∈ [13, 59], decode cX8_largest pc = .ok (.ireturn, 1) := by decide +kernel
def tX8_hairs : List (Nat × gStp) := [(0, i_aload 0 1), (1, i_getT 8 0 4), (4, i_iload 1 5), (8, i_if_eq 33 11), (11, i_aload 0 12), (12, i_getT 8 0 15), (15, i_iload 2 16), (19, i_if_eq 33 22), (22, i_aload 0 23), (23, i_getT 8 0 26), (26, i_iload 3 27), (30, i_if_ne 36 33), (33, i_push (.int (-2)) 35), (36, i_aload 0 37), (40, i_aload 0 41), (41, i_getC 8 14 44), (44, i_iload 1 45), (45, i_iload 2 46), (46, i_iload 3 47)]
set_option maxRecDepth 100000 in
theorem okX8_hairs : gOk YX8_hairs tX8_hairs := ok_c (sn_aload_n (show decode cX8_hairs 0 = .ok (.aload_n 0, 1) by decide +kernel) rfl) <|
  ok_c (sn_getT (j := 6) (fun _ _ => rfl) (sn_get ck_8 (by decide) (show decode cX8_hairs 1 = .ok (.getfield 51, 3) by decide +kernel) wd_2_130)) <|
  ok_c (sn_iload_n (show decode cX8_hairs 4 = .ok (.iload_n 1, 1) by decide +kernel) rfl) <|
  ok_c (sn_if_eq (show decode cX8_hairs 8 = .ok (.ifCond .eq 25, 3) by decide +kernel) (by decide)) <|
  ok_c (sn_aload_n (show decode cX8_hairs 11 = .ok (.aload_n 0, 1) by decide +kernel) rfl) <|
  ok_c (sn_getT (j := 6) (fun _ _ => rfl) (sn_get ck_8 (by decide) (show decode cX8_hairs 12 = .ok (.getfield 51, 3) by decide +kernel) wd_2_130)) <|
  ok_c (sn_iload_n (show decode cX8_hairs 15 = .ok (.iload_n 2, 1) by decide +kernel) rfl) <|
  ok_c (sn_if_eq (show decode cX8_hairs 19 = .ok (.ifCond .eq 14, 3) by decide +kernel) (by decide)) <|
  ok_c (sn_aload_n (show decode cX8_hairs 22 = .ok (.aload_n 0, 1) by decide +kernel) rfl) <|
  ok_c (sn_getT (j := 6) (fun _ _ => rfl) (sn_get ck_8 (by decide) (show decode cX8_hairs 23 = .ok (.getfield 51, 3) by decide +kernel) wd_2_130)) <|
  ok_c (sn_iload_n (show decode cX8_hairs 26 = .ok (.iload_n 3, 1) by decide +kernel) rfl) <|
  ok_c (sn_if_ne (show decode cX8_hairs 30 = .ok (.ifCond .ne 6, 3) by decide +kernel) (by decide)) <|
  ok_c (sn_bipush (v := (-2)) (show decode cX8_hairs 33 = .ok (.bipush (-2), 2) by decide +kernel) (by decide +kernel)) <|
  ok_c (sn_aload_n (show decode cX8_hairs 36 = .ok (.aload_n 0, 1) by decide +kernel) rfl) <|
  ok_c (sn_aload_n (show decode cX8_hairs 40 = .ok (.aload_n 0, 1) by decide +kernel) rfl) <|
  ok_c (sn_getC (j := 3) (fun _ _ => rfl) (sn_get ck_8 (by decide) (show decode cX8_hairs 41 = .ok (.getfield 33, 3) by decide +kernel) wd_2_127)) <|
  ok_c (sn_iload_n (show decode cX8_hairs 44 = .ok (.iload_n 1, 1) by decide +kernel) rfl) <|
  ok_c (sn_iload_n (show decode cX8_hairs 45 = .ok (.iload_n 2, 1) by decide +kernel) rfl) <|
  ok_c (sn_iload_n (show decode cX8_hairs 46 = .ok (.iload_n 3, 1) by decide +kernel) rfl) <|
  ok_n
def uX8_hairs : gCT := [(5, YX7_hasPartner, 2, some 7), (16, YX7_hasPartner, 2, some 7), (27, YX7_hasYear, 2, some 7), (37, YX8_liveAsNow, 1, some 8), (47, YX2_distance, 4, some 2)]
set_option maxRecDepth 100000 in
theorem ocX8_hairs : gOkC YX8_hairs uX8_hairs := oc_c (gEdge_V cal_X7_hasPartner ck_7 rfl (show decode cX8_hairs 5 = .ok (.invokevirtual 83, 3) by decide +kernel) wd_3_74 wd_3_75 wd_3_76) <|
  oc_c (gEdge_V cal_X7_hasPartner ck_7 rfl (show decode cX8_hairs 16 = .ok (.invokevirtual 83, 3) by decide +kernel) wd_3_74 wd_3_75 wd_3_76) <|
  oc_c (gEdge_V cal_X7_hasYear ck_7 rfl (show decode cX8_hairs 27 = .ok (.invokevirtual 115, 3) by decide +kernel) wd_3_98 wd_3_99 wd_3_100) <|
  oc_c (gEdge_V cal_X8_liveAsNow ck_8 rfl (show decode cX8_hairs 37 = .ok (.invokevirtual 118, 3) by decide +kernel) wd_3_102 wd_3_104 wp_1_13) <|
  oc_c (gEdge_V cal_X2_distance ck_2 rfl (show decode cX8_hairs 47 = .ok (.invokevirtual 165, 3) by decide +kernel) wd_4_13 wd_4_14 wd_4_15) <|
  oc_n
theorem reX8_hairs : ∀ pc ∈ [35, 50], decode cX8_hairs pc = .ok (.ireturn, 1) := by decide +kernel
def tX8_colds : List (Nat × gStp) := [(0, i_aload 0 1), (1, i_getT 8 0 4), (4, i_iload 1 5), (8, i_if_ne 14 11), (11, i_push (.int (-2)) 13), (14, i_aload 0 15), (18, i_aload 0 19), (19, i_getC 8 14 22), (22, i_getC 2 21 25), (25, i_iload 1 26), (26, i_iald 27)]
set_option maxRecDepth 100000 in
theorem okX8_colds : gOk YX8_colds tX8_colds := ok_c (sn_aload_n (show decode cX8_colds 0 = .ok (.aload_n 0, 1) by decide +kernel) rfl) <|
  ok_c (sn_getT (j := 6) (fun _ _ => rfl) (sn_get ck_8 (by decide) (show decode cX8_colds 1 = .ok (.getfield 51, 3) by decide +kernel) wd_2_130)) <|
  ok_c (sn_iload_n (show decode cX8_colds 4 = .ok (.iload_n 1, 1) by decide +kernel) rfl) <|
  ok_c (sn_if_ne (show decode cX8_colds 8 = .ok (.ifCond .ne 6, 3) by decide +kernel) (by decide)) <|
  ok_c (sn_bipush (v := (-2)) (show decode cX8_colds 11 = .ok (.bipush (-2), 2) by decide +kernel) (by decide +kernel)) <|
  ok_c (sn_aload_n (show decode cX8_colds 14 = .ok (.aload_n 0, 1) by decide +kernel) rfl) <|
  ok_c (sn_aload_n (show decode cX8_colds 18 = .ok (.aload_n 0, 1) by decide +kernel) rfl) <|
  ok_c (sn_getC (j := 3) (fun _ _ => rfl) (sn_get ck_8 (by decide) (show decode cX8_colds 19 = .ok (.getfield 33, 3) by decide +kernel) wd_2_127)) <|
  ok_c (sn_getC (j := 12) (fun _ _ => rfl) (sn_get ck_2 (by decide) (show decode cX8_colds 22 = .ok (.getfield 169, 3) by decide +kernel) wd_2_44)) <|
  ok_c (sn_iload_n (show decode cX8_colds 25 = .ok (.iload_n 1, 1) by decide +kernel) rfl) <|
  ok_c (sn_iald (show decode cX8_colds 26 = .ok (.iaload, 1) by decide +kernel)) <|
  ok_n
def uX8_colds : gCT := [(5, YX7_hasYear, 2, some 7), (15, YX8_liveAsNow, 1, some 8)]
set_option maxRecDepth 100000 in
theorem ocX8_colds : gOkC YX8_colds uX8_colds := oc_c (gEdge_V cal_X7_hasYear ck_7 rfl (show decode cX8_colds 5 = .ok (.invokevirtual 115, 3) by decide +kernel) wd_3_98 wd_3_99 wd_3_100) <|
  oc_c (gEdge_V cal_X8_liveAsNow ck_8 rfl (show decode cX8_colds 15 = .ok (.invokevirtual 118, 3) by decide +kernel) wd_3_102 wd_3_104 wp_1_13) <|
  oc_n
theorem reX8_colds : ∀ pc ∈ [13, 27], decode cX8_colds pc = .ok (.ireturn, 1) := by decide +kernel
def tX8_cold : List (Nat × gStp) := [(0, i_aload 0 1), (1, i_getT 8 0 4), (4, i_iload 1 5), (8, i_if_ne 14 11), (11, i_push (.int (-2)) 13), (14, i_aload 0 15), (18, i_aload 0 19), (19, i_aload 0 20), (20, i_getC 8 14 23), (23, i_getC 2 21 26), (26, i_iload 1 27)]
set_option maxRecDepth 100000 in
theorem okX8_cold : gOk YX8_cold tX8_cold := ok_c (sn_aload_n (show decode cX8_cold 0 = .ok (.aload_n 0, 1) by decide +kernel) rfl) <|
  ok_c (sn_getT (j := 6) (fun _ _ => rfl) (sn_get ck_8 (by decide) (show decode cX8_cold 1 = .ok (.getfield 51, 3) by decide +kernel) wd_2_130)) <|
  ok_c (sn_iload_n (show decode cX8_cold 4 = .ok (.iload_n 1, 1) by decide +kernel) rfl) <|
  ok_c (sn_if_ne (show decode cX8_cold 8 = .ok (.ifCond .ne 6, 3) by decide +kernel) (by decide)) <|
  ok_c (sn_bipush (v := (-2)) (show decode cX8_cold 11 = .ok (.bipush (-2), 2) by decide +kernel) (by decide +kernel)) <|
  ok_c (sn_aload_n (show decode cX8_cold 14 = .ok (.aload_n 0, 1) by decide +kernel) rfl) <|
  ok_c (sn_aload_n (show decode cX8_cold 18 = .ok (.aload_n 0, 1) by decide +kernel) rfl) <|
  ok_c (sn_aload_n (show decode cX8_cold 19 = .ok (.aload_n 0, 1) by decide +kernel) rfl) <|
  ok_c (sn_getC (j := 3) (fun _ _ => rfl) (sn_get ck_8 (by decide) (show decode cX8_cold 20 = .ok (.getfield 33, 3) by decide +kernel) wd_2_127)) <|
  ok_c (sn_getC (j := 12) (fun _ _ => rfl) (sn_get ck_2 (by decide) (show decode cX8_cold 23 = .ok (.getfield 169, 3) by decide +kernel) wd_2_44)) <|
  ok_c (sn_iload_n (show decode cX8_cold 26 = .ok (.iload_n 1, 1) by decide +kernel) rfl) <|
  ok_n
def uX8_cold : gCT := [(5, YX7_hasPartner, 2, some 7), (15, YX8_liveAsNow, 1, some 8), (27, YX8_firstYearWith, 3, some 8)]
set_option maxRecDepth 100000 in
theorem ocX8_cold : gOkC YX8_cold uX8_cold := oc_c (gEdge_V cal_X7_hasPartner ck_7 rfl (show decode cX8_cold 5 = .ok (.invokevirtual 83, 3) by decide +kernel) wd_3_74 wd_3_75 wd_3_76) <|
  oc_c (gEdge_V cal_X8_liveAsNow ck_8 rfl (show decode cX8_cold 15 = .ok (.invokevirtual 118, 3) by decide +kernel) wd_3_102 wd_3_104 wp_1_13) <|
  oc_c (gEdge_V cal_X8_firstYearWith ck_8 rfl (show decode cX8_cold 27 = .ok (.invokevirtual 172, 3) by decide +kernel) wd_4_25 wd_4_27 wp_2_9) <|
  oc_n
theorem reX8_cold : ∀ pc ∈ [13, 30], decode cX8_cold pc = .ok (.ireturn, 1) := by decide +kernel
def tX8_worth : List (Nat × gStp) := [(0, i_aload 0 1), (1, i_getT 8 0 4), (4, i_iload 1 5), (8, i_if_eq 22 11), (11, i_aload 0 12), (12, i_getT 8 0 15), (15, i_iload 2 16), (19, i_if_ne 26 22), (22, i_push (.int (-10000)) 25), (26, i_aload 0 27), (30, i_aload 0 31), (31, i_getC 8 14 34), (34, i_getC 2 22 37), (37, i_iload 2 38), (38, i_aald7 39), (39, i_iload 1 40), (40, i_iald 41)]
set_option maxRecDepth 100000 in
theorem okX8_worth : gOk YX8_worth tX8_worth := ok_c (sn_aload_n (show decode cX8_worth 0 = .ok (.aload_n 0, 1) by decide +kernel) rfl) <|
  ok_c (sn_getT (j := 6) (fun _ _ => rfl) (sn_get ck_8 (by decide) (show decode cX8_worth 1 = .ok (.getfield 51, 3) by decide +kernel) wd_2_130)) <|
  ok_c (sn_iload_n (show decode cX8_worth 4 = .ok (.iload_n 1, 1) by decide +kernel) rfl) <|
  ok_c (sn_if_eq (show decode cX8_worth 8 = .ok (.ifCond .eq 14, 3) by decide +kernel) (by decide)) <|
  ok_c (sn_aload_n (show decode cX8_worth 11 = .ok (.aload_n 0, 1) by decide +kernel) rfl) <|
  ok_c (sn_getT (j := 6) (fun _ _ => rfl) (sn_get ck_8 (by decide) (show decode cX8_worth 12 = .ok (.getfield 51, 3) by decide +kernel) wd_2_130)) <|
  ok_c (sn_iload_n (show decode cX8_worth 15 = .ok (.iload_n 2, 1) by decide +kernel) rfl) <|
  ok_c (sn_if_ne (show decode cX8_worth 19 = .ok (.ifCond .ne 7, 3) by decide +kernel) (by decide)) <|
  ok_c (sn_sipush (v := (-10000)) (show decode cX8_worth 22 = .ok (.sipush (-10000), 3) by decide +kernel) (by decide +kernel)) <|
  ok_c (sn_aload_n (show decode cX8_worth 26 = .ok (.aload_n 0, 1) by decide +kernel) rfl) <|
  ok_c (sn_aload_n (show decode cX8_worth 30 = .ok (.aload_n 0, 1) by decide +kernel) rfl) <|
  ok_c (sn_getC (j := 3) (fun _ _ => rfl) (sn_get ck_8 (by decide) (show decode cX8_worth 31 = .ok (.getfield 33, 3) by decide +kernel) wd_2_127)) <|
  ok_c (sn_getC (j := 13) (fun _ _ => rfl) (sn_get ck_2 (by decide) (show decode cX8_worth 34 = .ok (.getfield 176, 3) by decide +kernel) wd_2_46)) <|
  ok_c (sn_iload_n (show decode cX8_worth 37 = .ok (.iload_n 2, 1) by decide +kernel) rfl) <|
  ok_c (sn_aald7 (show decode cX8_worth 38 = .ok (.aaload, 1) by decide +kernel)) <|
  ok_c (sn_iload_n (show decode cX8_worth 39 = .ok (.iload_n 1, 1) by decide +kernel) rfl) <|
  ok_c (sn_iald (show decode cX8_worth 40 = .ok (.iaload, 1) by decide +kernel)) <|
  ok_n
def uX8_worth : gCT := [(5, YX7_hasPartner, 2, some 7), (16, YX7_hasYear, 2, some 7), (27, YX8_liveAsNow, 1, some 8)]
set_option maxRecDepth 100000 in
theorem ocX8_worth : gOkC YX8_worth uX8_worth := oc_c (gEdge_V cal_X7_hasPartner ck_7 rfl (show decode cX8_worth 5 = .ok (.invokevirtual 83, 3) by decide +kernel) wd_3_74 wd_3_75 wd_3_76) <|
  oc_c (gEdge_V cal_X7_hasYear ck_7 rfl (show decode cX8_worth 16 = .ok (.invokevirtual 115, 3) by decide +kernel) wd_3_98 wd_3_99 wd_3_100) <|
  oc_c (gEdge_V cal_X8_liveAsNow ck_8 rfl (show decode cX8_worth 27 = .ok (.invokevirtual 118, 3) by decide +kernel) wd_3_102 wd_3_104 wp_1_13) <|
  oc_n
theorem reX8_worth : ∀ pc ∈ [25, 41], decode cX8_worth pc = .ok (.ireturn, 1) := by decide +kernel
def tX8_funds : List (Nat × gStp) := [(0, i_aload 0 1), (1, i_getT 8 0 4), (4, i_iload 1 5), (8, i_if_eq 22 11), (11, i_aload 0 12), (12, i_getT 8 0 15), (15, i_iload 2 16), (19, i_if_ne 26 22), (22, i_push (.int (-10000)) 25), (26, i_aload 0 27), (30, i_aload 0 31), (31, i_getC 8 14 34), (34, i_getC 2 48 37), (37, i_iload 2 38), (38, i_aald7 39), (39, i_iload 1 40), (40, i_iald 41), (41, i_istore 3 42), (42, i_iload 3 43), (43, i_if_ne 52 46), (46, i_push (.int (-10000)) 49), (49, i_goto 61), (52, i_aload 0 53), (53, i_getC 8 14 56), (56, i_iload 3 57), (57, i_iload 2 58)]
set_option maxRecDepth 100000 in
theorem okX8_funds : gOk YX8_funds tX8_funds := ok_c (sn_aload_n (show decode cX8_funds 0 = .ok (.aload_n 0, 1) by decide +kernel) rfl) <|
  ok_c (sn_getT (j := 6) (fun _ _ => rfl) (sn_get ck_8 (by decide) (show decode cX8_funds 1 = .ok (.getfield 51, 3) by decide +kernel) wd_2_130)) <|
  ok_c (sn_iload_n (show decode cX8_funds 4 = .ok (.iload_n 1, 1) by decide +kernel) rfl) <|
  ok_c (sn_if_eq (show decode cX8_funds 8 = .ok (.ifCond .eq 14, 3) by decide +kernel) (by decide)) <|
  ok_c (sn_aload_n (show decode cX8_funds 11 = .ok (.aload_n 0, 1) by decide +kernel) rfl) <|
  ok_c (sn_getT (j := 6) (fun _ _ => rfl) (sn_get ck_8 (by decide) (show decode cX8_funds 12 = .ok (.getfield 51, 3) by decide +kernel) wd_2_130)) <|
  ok_c (sn_iload_n (show decode cX8_funds 15 = .ok (.iload_n 2, 1) by decide +kernel) rfl) <|
  ok_c (sn_if_ne (show decode cX8_funds 19 = .ok (.ifCond .ne 7, 3) by decide +kernel) (by decide)) <|
  ok_c (sn_sipush (v := (-10000)) (show decode cX8_funds 22 = .ok (.sipush (-10000), 3) by decide +kernel) (by decide +kernel)) <|
  ok_c (sn_aload_n (show decode cX8_funds 26 = .ok (.aload_n 0, 1) by decide +kernel) rfl) <|
  ok_c (sn_aload_n (show decode cX8_funds 30 = .ok (.aload_n 0, 1) by decide +kernel) rfl) <|
  ok_c (sn_getC (j := 3) (fun _ _ => rfl) (sn_get ck_8 (by decide) (show decode cX8_funds 31 = .ok (.getfield 33, 3) by decide +kernel) wd_2_127)) <|
  ok_c (sn_getC (j := 15) (fun _ _ => rfl) (sn_get ck_2 (by decide) (show decode cX8_funds 34 = .ok (.getfield 132, 3) by decide +kernel) wd_2_49)) <|
  ok_c (sn_iload_n (show decode cX8_funds 37 = .ok (.iload_n 2, 1) by decide +kernel) rfl) <|
  ok_c (sn_aald7 (show decode cX8_funds 38 = .ok (.aaload, 1) by decide +kernel)) <|
  ok_c (sn_iload_n (show decode cX8_funds 39 = .ok (.iload_n 1, 1) by decide +kernel) rfl) <|
  ok_c (sn_iald (show decode cX8_funds 40 = .ok (.iaload, 1) by decide +kernel)) <|
  ok_c (sn_istore_n (show decode cX8_funds 41 = .ok (.istore_n 3, 1) by decide +kernel) rfl (by decide)) <|
  ok_c (sn_iload_n (show decode cX8_funds 42 = .ok (.iload_n 3, 1) by decide +kernel) rfl) <|
  ok_c (sn_if_ne (show decode cX8_funds 43 = .ok (.ifCond .ne 9, 3) by decide +kernel) (by decide)) <|
  ok_c (sn_sipush (v := (-10000)) (show decode cX8_funds 46 = .ok (.sipush (-10000), 3) by decide +kernel) (by decide +kernel)) <|
  ok_c (sn_goto (show decode cX8_funds 49 = .ok (.goto 12, 3) by decide +kernel) (by decide)) <|
  ok_c (sn_aload_n (show decode cX8_funds 52 = .ok (.aload_n 0, 1) by decide +kernel) rfl) <|
  ok_c (sn_getC (j := 3) (fun _ _ => rfl) (sn_get ck_8 (by decide) (show decode cX8_funds 53 = .ok (.getfield 33, 3) by decide +kernel) wd_2_127)) <|
  ok_c (sn_iload_n (show decode cX8_funds 56 = .ok (.iload_n 3, 1) by decide +kernel) rfl) <|
  ok_c (sn_iload_n (show decode cX8_funds 57 = .ok (.iload_n 2, 1) by decide +kernel) rfl) <|
  ok_n
def uX8_funds : gCT := [(5, YX7_hasPartner, 2, some 7), (16, YX7_hasYear, 2, some 7), (27, YX8_liveAsNow, 1, some 8), (58, YX2_worthOf, 3, some 2)]
set_option maxRecDepth 100000 in
theorem ocX8_funds : gOkC YX8_funds uX8_funds := oc_c (gEdge_V cal_X7_hasPartner ck_7 rfl (show decode cX8_funds 5 = .ok (.invokevirtual 83, 3) by decide +kernel) wd_3_74 wd_3_75 wd_3_76) <|
  oc_c (gEdge_V cal_X7_hasYear ck_7 rfl (show decode cX8_funds 16 = .ok (.invokevirtual 115, 3) by decide +kernel) wd_3_98 wd_3_99 wd_3_100) <|
  oc_c (gEdge_V cal_X8_liveAsNow ck_8 rfl (show decode cX8_funds 27 = .ok (.invokevirtual 118, 3) by decide +kernel) wd_3_102 wd_3_104 wp_1_13) <|
  oc_c (gEdge_V cal_X2_worthOf ck_2 rfl (show decode cX8_funds 58 = .ok (.invokevirtual 178, 3) by decide +kernel) wd_4_38 wd_3_172 wd_3_173) <|
  oc_n
theorem reX8_funds : ∀ pc ∈ [25, 61], decode cX8_funds pc = .ok (.ireturn, 1) := by decide +kernel
def tX8_out : List (Nat × gStp) := [(0, i_aload 0 1), (1, i_getT 8 0 4), (4, i_iload 1 5), (8, i_if_ne 14 11), (11, i_push (.int (-2)) 13), (14, i_aload 0 15), (18, i_aload 0 19), (19, i_getC 8 14 22), (22, i_getC 2 20 25), (25, i_iload 1 26), (26, i_iald 27)]
set_option maxRecDepth 100000 in
theorem okX8_out : gOk YX8_out tX8_out := ok_c (sn_aload_n (show decode cX8_out 0 = .ok (.aload_n 0, 1) by decide +kernel) rfl) <|
  ok_c (sn_getT (j := 6) (fun _ _ => rfl) (sn_get ck_8 (by decide) (show decode cX8_out 1 = .ok (.getfield 51, 3) by decide +kernel) wd_2_130)) <|
  ok_c (sn_iload_n (show decode cX8_out 4 = .ok (.iload_n 1, 1) by decide +kernel) rfl) <|
  ok_c (sn_if_ne (show decode cX8_out 8 = .ok (.ifCond .ne 6, 3) by decide +kernel) (by decide)) <|
  ok_c (sn_bipush (v := (-2)) (show decode cX8_out 11 = .ok (.bipush (-2), 2) by decide +kernel) (by decide +kernel)) <|
  ok_c (sn_aload_n (show decode cX8_out 14 = .ok (.aload_n 0, 1) by decide +kernel) rfl) <|
  ok_c (sn_aload_n (show decode cX8_out 18 = .ok (.aload_n 0, 1) by decide +kernel) rfl) <|
  ok_c (sn_getC (j := 3) (fun _ _ => rfl) (sn_get ck_8 (by decide) (show decode cX8_out 19 = .ok (.getfield 33, 3) by decide +kernel) wd_2_127)) <|
  ok_c (sn_getC (j := 11) (fun _ _ => rfl) (sn_get ck_2 (by decide) (show decode cX8_out 22 = .ok (.getfield 181, 3) by decide +kernel) wd_2_42)) <|
  ok_c (sn_iload_n (show decode cX8_out 25 = .ok (.iload_n 1, 1) by decide +kernel) rfl) <|
  ok_c (sn_iald (show decode cX8_out 26 = .ok (.iaload, 1) by decide +kernel)) <|
  ok_n
def uX8_out : gCT := [(5, YX7_hasYear, 2, some 7), (15, YX8_liveAsNow, 1, some 8)]
set_option maxRecDepth 100000 in
theorem ocX8_out : gOkC YX8_out uX8_out := oc_c (gEdge_V cal_X7_hasYear ck_7 rfl (show decode cX8_out 5 = .ok (.invokevirtual 115, 3) by decide +kernel) wd_3_98 wd_3_99 wd_3_100) <|
  oc_c (gEdge_V cal_X8_liveAsNow ck_8 rfl (show decode cX8_out 15 = .ok (.invokevirtual 118, 3) by decide +kernel) wd_3_102 wd_3_104 wp_1_13) <|
  oc_n
theorem reX8_out : ∀ pc ∈ [13, 27], decode cX8_out pc = .ok (.ireturn, 1) := by decide +kernel
def tX8_fails : List (Nat × gStp) := [(0, i_aload 0 1), (1, i_getT 8 0 4), (4, i_iload 1 5), (8, i_if_ne 14 11), (11, i_push (.int (-2)) 13), (14, i_aload 0 15), (18, i_aload 0 19), (19, i_aload 0 20), (20, i_getC 8 14 23), (23, i_getC 2 20 26), (26, i_iload 1 27)]
set_option maxRecDepth 100000 in
theorem okX8_fails : gOk YX8_fails tX8_fails := ok_c (sn_aload_n (show decode cX8_fails 0 = .ok (.aload_n 0, 1) by decide +kernel) rfl) <|
  ok_c (sn_getT (j := 6) (fun _ _ => rfl) (sn_get ck_8 (by decide) (show decode cX8_fails 1 = .ok (.getfield 51, 3) by decide +kernel) wd_2_130)) <|
  ok_c (sn_iload_n (show decode cX8_fails 4 = .ok (.iload_n 1, 1) by decide +kernel) rfl) <|
  ok_c (sn_if_ne (show decode cX8_fails 8 = .ok (.ifCond .ne 6, 3) by decide +kernel) (by decide)) <|
  ok_c (sn_bipush (v := (-2)) (show decode cX8_fails 11 = .ok (.bipush (-2), 2) by decide +kernel) (by decide +kernel)) <|
  ok_c (sn_aload_n (show decode cX8_fails 14 = .ok (.aload_n 0, 1) by decide +kernel) rfl) <|
  ok_c (sn_aload_n (show decode cX8_fails 18 = .ok (.aload_n 0, 1) by decide +kernel) rfl) <|
  ok_c (sn_aload_n (show decode cX8_fails 19 = .ok (.aload_n 0, 1) by decide +kernel) rfl) <|
  ok_c (sn_getC (j := 3) (fun _ _ => rfl) (sn_get ck_8 (by decide) (show decode cX8_fails 20 = .ok (.getfield 33, 3) by decide +kernel) wd_2_127)) <|
  ok_c (sn_getC (j := 11) (fun _ _ => rfl) (sn_get ck_2 (by decide) (show decode cX8_fails 23 = .ok (.getfield 181, 3) by decide +kernel) wd_2_42)) <|
  ok_c (sn_iload_n (show decode cX8_fails 26 = .ok (.iload_n 1, 1) by decide +kernel) rfl) <|
  ok_n
def uX8_fails : gCT := [(5, YX7_hasPartner, 2, some 7), (15, YX8_liveAsNow, 1, some 8), (27, YX8_firstYearWith, 3, some 8)]
set_option maxRecDepth 100000 in
theorem ocX8_fails : gOkC YX8_fails uX8_fails := oc_c (gEdge_V cal_X7_hasPartner ck_7 rfl (show decode cX8_fails 5 = .ok (.invokevirtual 83, 3) by decide +kernel) wd_3_74 wd_3_75 wd_3_76) <|
  oc_c (gEdge_V cal_X8_liveAsNow ck_8 rfl (show decode cX8_fails 15 = .ok (.invokevirtual 118, 3) by decide +kernel) wd_3_102 wd_3_104 wp_1_13) <|
  oc_c (gEdge_V cal_X8_firstYearWith ck_8 rfl (show decode cX8_fails 27 = .ok (.invokevirtual 172, 3) by decide +kernel) wd_4_25 wd_4_27 wp_2_9) <|
  oc_n
theorem reX8_fails : ∀ pc ∈ [13, 30], decode cX8_fails pc = .ok (.ireturn, 1) := by decide +kernel
def tX8_richest : List (Nat × gStp) := [(0, i_aload 0 1), (1, i_getT 8 0 4), (4, i_iload 1 5), (8, i_if_ne 14 11), (11, i_push (.int (-2)) 13), (14, i_aload 0 15), (18, i_push (.int (-1)) 19), (19, i_istore 2 20), (20, i_push (.int 0) 21), (21, i_istore 3 22), (22, i_push (.int 0) 23), (23, i_istore 4 25), (25, i_iload 4 27), (27, i_aload 0 28), (28, i_getT 8 0 31), (31, i_getI 7 5 34), (34, i_ic_ge 91 37), (37, i_aload 0 38), (38, i_getC 8 14 41), (41, i_getC 2 48 44), (44, i_iload 1 45), (45, i_aald7 46), (46, i_iload 4 48), (48, i_iald 49), (49, i_istore 5 51), (51, i_aload 0 52), (52, i_getC 8 14 55), (55, i_iload 5 57), (57, i_iload 1 58), (61, i_istore 6 63), (63, i_iload 5 65), (65, i_if_eq 85 68), (68, i_iload 2 69), (69, i_push (.int (-1)) 70), (70, i_ic_eq 79 73), (73, i_iload 6 75), (75, i_iload 3 76), (76, i_ic_le 85 79), (79, i_iload 4 81), (81, i_istore 2 82), (82, i_iload 6 84), (84, i_istore 3 85), (85, i_iinc 4 1 88), (88, i_goto 25), (91, i_iload 2 92)]
set_option maxRecDepth 100000 in
theorem okX8_richest : gOk YX8_richest tX8_richest := ok_c (sn_aload_n (show decode cX8_richest 0 = .ok (.aload_n 0, 1) by decide +kernel) rfl) <|
  ok_c (sn_getT (j := 6) (fun _ _ => rfl) (sn_get ck_8 (by decide) (show decode cX8_richest 1 = .ok (.getfield 51, 3) by decide +kernel) wd_2_130)) <|
  ok_c (sn_iload_n (show decode cX8_richest 4 = .ok (.iload_n 1, 1) by decide +kernel) rfl) <|
  ok_c (sn_if_ne (show decode cX8_richest 8 = .ok (.ifCond .ne 6, 3) by decide +kernel) (by decide)) <|
  ok_c (sn_bipush (v := (-2)) (show decode cX8_richest 11 = .ok (.bipush (-2), 2) by decide +kernel) (by decide +kernel)) <|
  ok_c (sn_aload_n (show decode cX8_richest 14 = .ok (.aload_n 0, 1) by decide +kernel) rfl) <|
  ok_c (sn_iconst (v := (-1)) (show decode cX8_richest 18 = .ok (.iconst (-1), 1) by decide +kernel) (by decide +kernel)) <|
  ok_c (sn_istore_n (show decode cX8_richest 19 = .ok (.istore_n 2, 1) by decide +kernel) rfl (by decide)) <|
  ok_c (sn_iconst (v := 0) (show decode cX8_richest 20 = .ok (.iconst 0, 1) by decide +kernel) (by decide +kernel)) <|
  ok_c (sn_istore_n (show decode cX8_richest 21 = .ok (.istore_n 3, 1) by decide +kernel) rfl (by decide)) <|
  ok_c (sn_iconst (v := 0) (show decode cX8_richest 22 = .ok (.iconst 0, 1) by decide +kernel) (by decide +kernel)) <|
  ok_c (sn_istore (show decode cX8_richest 23 = .ok (.istore 4, 2) by decide +kernel) (by decide)) <|
  ok_c (sn_iload (show decode cX8_richest 25 = .ok (.iload 4, 2) by decide +kernel)) <|
  ok_c (sn_aload_n (show decode cX8_richest 27 = .ok (.aload_n 0, 1) by decide +kernel) rfl) <|
  ok_c (sn_getT (j := 6) (fun _ _ => rfl) (sn_get ck_8 (by decide) (show decode cX8_richest 28 = .ok (.getfield 51, 3) by decide +kernel) wd_2_130)) <|
  ok_c (sn_getI (fun _ _ => rfl) (sn_get ck_7 (by decide) (show decode cX8_richest 31 = .ok (.getfield 150, 3) by decide +kernel) wd_1_108)) <|
  ok_c (sn_ic_ge (show decode cX8_richest 34 = .ok (.if_icmp .ge 57, 3) by decide +kernel) (by decide)) <|
  ok_c (sn_aload_n (show decode cX8_richest 37 = .ok (.aload_n 0, 1) by decide +kernel) rfl) <|
  ok_c (sn_getC (j := 3) (fun _ _ => rfl) (sn_get ck_8 (by decide) (show decode cX8_richest 38 = .ok (.getfield 33, 3) by decide +kernel) wd_2_127)) <|
  ok_c (sn_getC (j := 15) (fun _ _ => rfl) (sn_get ck_2 (by decide) (show decode cX8_richest 41 = .ok (.getfield 132, 3) by decide +kernel) wd_2_49)) <|
  ok_c (sn_iload_n (show decode cX8_richest 44 = .ok (.iload_n 1, 1) by decide +kernel) rfl) <|
  ok_c (sn_aald7 (show decode cX8_richest 45 = .ok (.aaload, 1) by decide +kernel)) <|
  ok_c (sn_iload (show decode cX8_richest 46 = .ok (.iload 4, 2) by decide +kernel)) <|
  ok_c (sn_iald (show decode cX8_richest 48 = .ok (.iaload, 1) by decide +kernel)) <|
  ok_c (sn_istore (show decode cX8_richest 49 = .ok (.istore 5, 2) by decide +kernel) (by decide)) <|
  ok_c (sn_aload_n (show decode cX8_richest 51 = .ok (.aload_n 0, 1) by decide +kernel) rfl) <|
  ok_c (sn_getC (j := 3) (fun _ _ => rfl) (sn_get ck_8 (by decide) (show decode cX8_richest 52 = .ok (.getfield 33, 3) by decide +kernel) wd_2_127)) <|
  ok_c (sn_iload (show decode cX8_richest 55 = .ok (.iload 5, 2) by decide +kernel)) <|
  ok_c (sn_iload_n (show decode cX8_richest 57 = .ok (.iload_n 1, 1) by decide +kernel) rfl) <|
  ok_c (sn_istore (show decode cX8_richest 61 = .ok (.istore 6, 2) by decide +kernel) (by decide)) <|
  ok_c (sn_iload (show decode cX8_richest 63 = .ok (.iload 5, 2) by decide +kernel)) <|
  ok_c (sn_if_eq (show decode cX8_richest 65 = .ok (.ifCond .eq 20, 3) by decide +kernel) (by decide)) <|
  ok_c (sn_iload_n (show decode cX8_richest 68 = .ok (.iload_n 2, 1) by decide +kernel) rfl) <|
  ok_c (sn_iconst (v := (-1)) (show decode cX8_richest 69 = .ok (.iconst (-1), 1) by decide +kernel) (by decide +kernel)) <|
  ok_c (sn_ic_eq (show decode cX8_richest 70 = .ok (.if_icmp .eq 9, 3) by decide +kernel) (by decide)) <|
  ok_c (sn_iload (show decode cX8_richest 73 = .ok (.iload 6, 2) by decide +kernel)) <|
  ok_c (sn_iload_n (show decode cX8_richest 75 = .ok (.iload_n 3, 1) by decide +kernel) rfl) <|
  ok_c (sn_ic_le (show decode cX8_richest 76 = .ok (.if_icmp .le 9, 3) by decide +kernel) (by decide)) <|
  ok_c (sn_iload (show decode cX8_richest 79 = .ok (.iload 4, 2) by decide +kernel)) <|
  ok_c (sn_istore_n (show decode cX8_richest 81 = .ok (.istore_n 2, 1) by decide +kernel) rfl (by decide)) <|
  ok_c (sn_iload (show decode cX8_richest 82 = .ok (.iload 6, 2) by decide +kernel)) <|
  ok_c (sn_istore_n (show decode cX8_richest 84 = .ok (.istore_n 3, 1) by decide +kernel) rfl (by decide)) <|
  ok_c (sn_iinc (show decode cX8_richest 85 = .ok (.iinc 4 1, 3) by decide +kernel) (by decide) (by decide +kernel)) <|
  ok_c (sn_goto (show decode cX8_richest 88 = .ok (.goto (-63), 3) by decide +kernel) (by decide)) <|
  ok_c (sn_iload_n (show decode cX8_richest 91 = .ok (.iload_n 2, 1) by decide +kernel) rfl) <|
  ok_n
def uX8_richest : gCT := [(5, YX7_hasYear, 2, some 7), (15, YX8_liveAsNow, 1, some 8), (58, YX2_worthOf, 3, some 2)]
set_option maxRecDepth 100000 in
theorem ocX8_richest : gOkC YX8_richest uX8_richest := oc_c (gEdge_V cal_X7_hasYear ck_7 rfl (show decode cX8_richest 5 = .ok (.invokevirtual 115, 3) by decide +kernel) wd_3_98 wd_3_99 wd_3_100) <|
  oc_c (gEdge_V cal_X8_liveAsNow ck_8 rfl (show decode cX8_richest 15 = .ok (.invokevirtual 118, 3) by decide +kernel) wd_3_102 wd_3_104 wp_1_13) <|
  oc_c (gEdge_V cal_X2_worthOf ck_2 rfl (show decode cX8_richest 58 = .ok (.invokevirtual 178, 3) by decide +kernel) wd_4_38 wd_3_172 wd_3_173) <|
  oc_n
theorem reX8_richest : ∀ pc ∈ [13, 92], decode cX8_richest pc = .ok (.ireturn, 1) := by decide +kernel
def tX8_parts : List (Nat × gStp) := [(0, i_aload 0 1), (1, i_getT 8 0 4), (4, i_iload 1 5), (8, i_if_ne 14 11), (11, i_push (.int (-2)) 13), (14, i_aload 0 15), (18, i_push (.int 0) 19), (19, i_istore 2 20), (20, i_iload 2 21), (21, i_aload 0 22), (22, i_getT 8 0 25), (25, i_getI 7 1 28), (28, i_ic_ge 55 31), (31, i_aload 0 32), (32, i_getC 8 14 35), (35, i_getC 2 19 38), (38, i_iload 2 39), (39, i_iald 40), (40, i_iload 1 41), (44, i_if_ne 49 47), (47, i_iload 2 48), (49, i_iinc 2 1 52), (52, i_goto 20), (55, i_push (.int (-1)) 56)]
set_option maxRecDepth 100000 in
theorem okX8_parts : gOk YX8_parts tX8_parts := ok_c (sn_aload_n (show decode cX8_parts 0 = .ok (.aload_n 0, 1) by decide +kernel) rfl) <|
  ok_c (sn_getT (j := 6) (fun _ _ => rfl) (sn_get ck_8 (by decide) (show decode cX8_parts 1 = .ok (.getfield 51, 3) by decide +kernel) wd_2_130)) <|
  ok_c (sn_iload_n (show decode cX8_parts 4 = .ok (.iload_n 1, 1) by decide +kernel) rfl) <|
  ok_c (sn_if_ne (show decode cX8_parts 8 = .ok (.ifCond .ne 6, 3) by decide +kernel) (by decide)) <|
  ok_c (sn_bipush (v := (-2)) (show decode cX8_parts 11 = .ok (.bipush (-2), 2) by decide +kernel) (by decide +kernel)) <|
  ok_c (sn_aload_n (show decode cX8_parts 14 = .ok (.aload_n 0, 1) by decide +kernel) rfl) <|
  ok_c (sn_iconst (v := 0) (show decode cX8_parts 18 = .ok (.iconst 0, 1) by decide +kernel) (by decide +kernel)) <|
  ok_c (sn_istore_n (show decode cX8_parts 19 = .ok (.istore_n 2, 1) by decide +kernel) rfl (by decide)) <|
  ok_c (sn_iload_n (show decode cX8_parts 20 = .ok (.iload_n 2, 1) by decide +kernel) rfl) <|
  ok_c (sn_aload_n (show decode cX8_parts 21 = .ok (.aload_n 0, 1) by decide +kernel) rfl) <|
  ok_c (sn_getT (j := 6) (fun _ _ => rfl) (sn_get ck_8 (by decide) (show decode cX8_parts 22 = .ok (.getfield 51, 3) by decide +kernel) wd_2_130)) <|
  ok_c (sn_getI (fun _ _ => rfl) (sn_get ck_7 (by decide) (show decode cX8_parts 25 = .ok (.getfield 184, 3) by decide +kernel) wd_1_90)) <|
  ok_c (sn_ic_ge (show decode cX8_parts 28 = .ok (.if_icmp .ge 27, 3) by decide +kernel) (by decide)) <|
  ok_c (sn_aload_n (show decode cX8_parts 31 = .ok (.aload_n 0, 1) by decide +kernel) rfl) <|
  ok_c (sn_getC (j := 3) (fun _ _ => rfl) (sn_get ck_8 (by decide) (show decode cX8_parts 32 = .ok (.getfield 33, 3) by decide +kernel) wd_2_127)) <|
  ok_c (sn_getC (j := 10) (fun _ _ => rfl) (sn_get ck_2 (by decide) (show decode cX8_parts 35 = .ok (.getfield 121, 3) by decide +kernel) wd_2_40)) <|
  ok_c (sn_iload_n (show decode cX8_parts 38 = .ok (.iload_n 2, 1) by decide +kernel) rfl) <|
  ok_c (sn_iald (show decode cX8_parts 39 = .ok (.iaload, 1) by decide +kernel)) <|
  ok_c (sn_iload_n (show decode cX8_parts 40 = .ok (.iload_n 1, 1) by decide +kernel) rfl) <|
  ok_c (sn_if_ne (show decode cX8_parts 44 = .ok (.ifCond .ne 5, 3) by decide +kernel) (by decide)) <|
  ok_c (sn_iload_n (show decode cX8_parts 47 = .ok (.iload_n 2, 1) by decide +kernel) rfl) <|
  ok_c (sn_iinc (show decode cX8_parts 49 = .ok (.iinc 2 1, 3) by decide +kernel) (by decide) (by decide +kernel)) <|
  ok_c (sn_goto (show decode cX8_parts 52 = .ok (.goto (-32), 3) by decide +kernel) (by decide)) <|
  ok_c (sn_iconst (v := (-1)) (show decode cX8_parts 55 = .ok (.iconst (-1), 1) by decide +kernel) (by decide +kernel)) <|
  ok_n
def uX8_parts : gCT := [(5, YX7_hasJoin, 2, some 7), (15, YX8_liveAsNow, 1, some 8), (41, YX8_has, 2, none)]
set_option maxRecDepth 100000 in
theorem ocX8_parts : gOkC YX8_parts uX8_parts := oc_c (gEdge_V cal_X7_hasJoin ck_7 rfl (show decode cX8_parts 5 = .ok (.invokevirtual 97, 3) by decide +kernel) wd_3_82 wd_3_83 wd_3_84) <|
  oc_c (gEdge_V cal_X8_liveAsNow ck_8 rfl (show decode cX8_parts 15 = .ok (.invokevirtual 118, 3) by decide +kernel) wd_3_102 wd_3_104 wp_1_13) <|
  oc_c (gEdge_S cal_X8_has (show decode cX8_parts 41 = .ok (.invokestatic 187, 3) by decide +kernel) wd_4_29 wd_3_119) <|
  oc_n
theorem reX8_parts : ∀ pc ∈ [13, 48, 56], decode cX8_parts pc = .ok (.ireturn, 1) := by decide +kernel
def tX8_merger : List (Nat × gStp) := [(0, i_aload 0 1), (1, i_getT 8 0 4), (7, i_if_ne 13 10), (10, i_push (.int (-2)) 12), (13, i_aload 0 14), (14, i_getT 8 0 17), (17, i_getI 7 5 20), (20, i_if_ne 25 23), (23, i_push (.int (-1)) 24), (25, i_aload 0 26), (29, i_push (.int 0) 30), (30, i_istore 1 31), (31, i_iload 1 32), (32, i_aload 0 33), (33, i_getT 8 0 36), (36, i_getI 7 1 39), (39, i_ic_ge 74 42), (42, i_aload 0 43), (43, i_getC 8 14 46), (46, i_getC 2 48 49), (49, i_iload 1 50), (50, i_aald7 51), (51, i_push (.int 0) 52), (52, i_iald 53), (53, i_aload 0 54), (54, i_getT 8 0 57), (57, i_getI 7 5 60), (63, i_ic_ne 68 66), (66, i_iload 1 67), (68, i_iinc 1 1 71), (71, i_goto 31), (74, i_push (.int (-1)) 75)]
set_option maxRecDepth 100000 in
theorem okX8_merger : gOk YX8_merger tX8_merger := ok_c (sn_aload_n (show decode cX8_merger 0 = .ok (.aload_n 0, 1) by decide +kernel) rfl) <|
  ok_c (sn_getT (j := 6) (fun _ _ => rfl) (sn_get ck_8 (by decide) (show decode cX8_merger 1 = .ok (.getfield 51, 3) by decide +kernel) wd_2_130)) <|
  ok_c (sn_if_ne (show decode cX8_merger 7 = .ok (.ifCond .ne 6, 3) by decide +kernel) (by decide)) <|
  ok_c (sn_bipush (v := (-2)) (show decode cX8_merger 10 = .ok (.bipush (-2), 2) by decide +kernel) (by decide +kernel)) <|
  ok_c (sn_aload_n (show decode cX8_merger 13 = .ok (.aload_n 0, 1) by decide +kernel) rfl) <|
  ok_c (sn_getT (j := 6) (fun _ _ => rfl) (sn_get ck_8 (by decide) (show decode cX8_merger 14 = .ok (.getfield 51, 3) by decide +kernel) wd_2_130)) <|
  ok_c (sn_getI (fun _ _ => rfl) (sn_get ck_7 (by decide) (show decode cX8_merger 17 = .ok (.getfield 150, 3) by decide +kernel) wd_1_108)) <|
  ok_c (sn_if_ne (show decode cX8_merger 20 = .ok (.ifCond .ne 5, 3) by decide +kernel) (by decide)) <|
  ok_c (sn_iconst (v := (-1)) (show decode cX8_merger 23 = .ok (.iconst (-1), 1) by decide +kernel) (by decide +kernel)) <|
  ok_c (sn_aload_n (show decode cX8_merger 25 = .ok (.aload_n 0, 1) by decide +kernel) rfl) <|
  ok_c (sn_iconst (v := 0) (show decode cX8_merger 29 = .ok (.iconst 0, 1) by decide +kernel) (by decide +kernel)) <|
  ok_c (sn_istore_n (show decode cX8_merger 30 = .ok (.istore_n 1, 1) by decide +kernel) rfl (by decide)) <|
  ok_c (sn_iload_n (show decode cX8_merger 31 = .ok (.iload_n 1, 1) by decide +kernel) rfl) <|
  ok_c (sn_aload_n (show decode cX8_merger 32 = .ok (.aload_n 0, 1) by decide +kernel) rfl) <|
  ok_c (sn_getT (j := 6) (fun _ _ => rfl) (sn_get ck_8 (by decide) (show decode cX8_merger 33 = .ok (.getfield 51, 3) by decide +kernel) wd_2_130)) <|
  ok_c (sn_getI (fun _ _ => rfl) (sn_get ck_7 (by decide) (show decode cX8_merger 36 = .ok (.getfield 184, 3) by decide +kernel) wd_1_90)) <|
  ok_c (sn_ic_ge (show decode cX8_merger 39 = .ok (.if_icmp .ge 35, 3) by decide +kernel) (by decide)) <|
  ok_c (sn_aload_n (show decode cX8_merger 42 = .ok (.aload_n 0, 1) by decide +kernel) rfl) <|
  ok_c (sn_getC (j := 3) (fun _ _ => rfl) (sn_get ck_8 (by decide) (show decode cX8_merger 43 = .ok (.getfield 33, 3) by decide +kernel) wd_2_127)) <|
  ok_c (sn_getC (j := 15) (fun _ _ => rfl) (sn_get ck_2 (by decide) (show decode cX8_merger 46 = .ok (.getfield 132, 3) by decide +kernel) wd_2_49)) <|
  ok_c (sn_iload_n (show decode cX8_merger 49 = .ok (.iload_n 1, 1) by decide +kernel) rfl) <|
  ok_c (sn_aald7 (show decode cX8_merger 50 = .ok (.aaload, 1) by decide +kernel)) <|
  ok_c (sn_iconst (v := 0) (show decode cX8_merger 51 = .ok (.iconst 0, 1) by decide +kernel) (by decide +kernel)) <|
  ok_c (sn_iald (show decode cX8_merger 52 = .ok (.iaload, 1) by decide +kernel)) <|
  ok_c (sn_aload_n (show decode cX8_merger 53 = .ok (.aload_n 0, 1) by decide +kernel) rfl) <|
  ok_c (sn_getT (j := 6) (fun _ _ => rfl) (sn_get ck_8 (by decide) (show decode cX8_merger 54 = .ok (.getfield 51, 3) by decide +kernel) wd_2_130)) <|
  ok_c (sn_getI (fun _ _ => rfl) (sn_get ck_7 (by decide) (show decode cX8_merger 57 = .ok (.getfield 150, 3) by decide +kernel) wd_1_108)) <|
  ok_c (sn_ic_ne (show decode cX8_merger 63 = .ok (.if_icmp .ne 5, 3) by decide +kernel) (by decide)) <|
  ok_c (sn_iload_n (show decode cX8_merger 66 = .ok (.iload_n 1, 1) by decide +kernel) rfl) <|
  ok_c (sn_iinc (show decode cX8_merger 68 = .ok (.iinc 1 1, 3) by decide +kernel) (by decide) (by decide +kernel)) <|
  ok_c (sn_goto (show decode cX8_merger 71 = .ok (.goto (-40), 3) by decide +kernel) (by decide)) <|
  ok_c (sn_iconst (v := (-1)) (show decode cX8_merger 74 = .ok (.iconst (-1), 1) by decide +kernel) (by decide +kernel)) <|
  ok_n
def uX8_merger : gCT := [(4, YX7_isTold, 1, some 7), (26, YX8_liveAsNow, 1, some 8), (60, YX8_allOf, 1, none)]
set_option maxRecDepth 100000 in
theorem ocX8_merger : gOkC YX8_merger uX8_merger := oc_c (gEdge_V cal_X7_isTold ck_7 rfl (show decode cX8_merger 4 = .ok (.invokevirtual 190, 3) by decide +kernel) wd_4_59 wd_4_60 wd_4_61) <|
  oc_c (gEdge_V cal_X8_liveAsNow ck_8 rfl (show decode cX8_merger 26 = .ok (.invokevirtual 118, 3) by decide +kernel) wd_3_102 wd_3_104 wp_1_13) <|
  oc_c (gEdge_S cal_X8_allOf (show decode cX8_merger 60 = .ok (.invokestatic 193, 3) by decide +kernel) wd_4_63 wd_3_169) <|
  oc_n
theorem reX8_merger : ∀ pc ∈ [12, 24, 67, 75], decode cX8_merger pc = .ok (.ireturn, 1) := by decide +kernel
def tX8_apart : List (Nat × gStp) := [(0, i_aload 0 1), (1, i_getT 8 0 4), (4, i_iload 1 5), (5, i_iload 2 6), (9, i_if_ne 15 12), (12, i_push (.int (-2)) 14), (15, i_aload 0 16), (19, i_push (.int 0) 20), (20, i_istore 3 21), (21, i_iload 3 22), (22, i_aload 0 23), (23, i_getT 8 0 26), (26, i_getI 7 1 29), (29, i_ic_ge 58 32), (32, i_aload 0 33), (33, i_getC 8 14 36), (36, i_getC 2 48 39), (39, i_iload 3 40), (40, i_aald7 41), (41, i_iload 1 42), (42, i_iald 43), (43, i_iload 2 44), (47, i_if_ne 52 50), (50, i_iload 3 51), (52, i_iinc 3 1 55), (55, i_goto 21), (58, i_push (.int (-1)) 59)]
set_option maxRecDepth 100000 in
theorem okX8_apart : gOk YX8_apart tX8_apart := ok_c (sn_aload_n (show decode cX8_apart 0 = .ok (.aload_n 0, 1) by decide +kernel) rfl) <|
  ok_c (sn_getT (j := 6) (fun _ _ => rfl) (sn_get ck_8 (by decide) (show decode cX8_apart 1 = .ok (.getfield 51, 3) by decide +kernel) wd_2_130)) <|
  ok_c (sn_iload_n (show decode cX8_apart 4 = .ok (.iload_n 1, 1) by decide +kernel) rfl) <|
  ok_c (sn_iload_n (show decode cX8_apart 5 = .ok (.iload_n 2, 1) by decide +kernel) rfl) <|
  ok_c (sn_if_ne (show decode cX8_apart 9 = .ok (.ifCond .ne 6, 3) by decide +kernel) (by decide)) <|
  ok_c (sn_bipush (v := (-2)) (show decode cX8_apart 12 = .ok (.bipush (-2), 2) by decide +kernel) (by decide +kernel)) <|
  ok_c (sn_aload_n (show decode cX8_apart 15 = .ok (.aload_n 0, 1) by decide +kernel) rfl) <|
  ok_c (sn_iconst (v := 0) (show decode cX8_apart 19 = .ok (.iconst 0, 1) by decide +kernel) (by decide +kernel)) <|
  ok_c (sn_istore_n (show decode cX8_apart 20 = .ok (.istore_n 3, 1) by decide +kernel) rfl (by decide)) <|
  ok_c (sn_iload_n (show decode cX8_apart 21 = .ok (.iload_n 3, 1) by decide +kernel) rfl) <|
  ok_c (sn_aload_n (show decode cX8_apart 22 = .ok (.aload_n 0, 1) by decide +kernel) rfl) <|
  ok_c (sn_getT (j := 6) (fun _ _ => rfl) (sn_get ck_8 (by decide) (show decode cX8_apart 23 = .ok (.getfield 51, 3) by decide +kernel) wd_2_130)) <|
  ok_c (sn_getI (fun _ _ => rfl) (sn_get ck_7 (by decide) (show decode cX8_apart 26 = .ok (.getfield 184, 3) by decide +kernel) wd_1_90)) <|
  ok_c (sn_ic_ge (show decode cX8_apart 29 = .ok (.if_icmp .ge 29, 3) by decide +kernel) (by decide)) <|
  ok_c (sn_aload_n (show decode cX8_apart 32 = .ok (.aload_n 0, 1) by decide +kernel) rfl) <|
  ok_c (sn_getC (j := 3) (fun _ _ => rfl) (sn_get ck_8 (by decide) (show decode cX8_apart 33 = .ok (.getfield 33, 3) by decide +kernel) wd_2_127)) <|
  ok_c (sn_getC (j := 15) (fun _ _ => rfl) (sn_get ck_2 (by decide) (show decode cX8_apart 36 = .ok (.getfield 132, 3) by decide +kernel) wd_2_49)) <|
  ok_c (sn_iload_n (show decode cX8_apart 39 = .ok (.iload_n 3, 1) by decide +kernel) rfl) <|
  ok_c (sn_aald7 (show decode cX8_apart 40 = .ok (.aaload, 1) by decide +kernel)) <|
  ok_c (sn_iload_n (show decode cX8_apart 41 = .ok (.iload_n 1, 1) by decide +kernel) rfl) <|
  ok_c (sn_iald (show decode cX8_apart 42 = .ok (.iaload, 1) by decide +kernel)) <|
  ok_c (sn_iload_n (show decode cX8_apart 43 = .ok (.iload_n 2, 1) by decide +kernel) rfl) <|
  ok_c (sn_if_ne (show decode cX8_apart 47 = .ok (.ifCond .ne 5, 3) by decide +kernel) (by decide)) <|
  ok_c (sn_iload_n (show decode cX8_apart 50 = .ok (.iload_n 3, 1) by decide +kernel) rfl) <|
  ok_c (sn_iinc (show decode cX8_apart 52 = .ok (.iinc 3 1, 3) by decide +kernel) (by decide) (by decide +kernel)) <|
  ok_c (sn_goto (show decode cX8_apart 55 = .ok (.goto (-34), 3) by decide +kernel) (by decide)) <|
  ok_c (sn_iconst (v := (-1)) (show decode cX8_apart 58 = .ok (.iconst (-1), 1) by decide +kernel) (by decide +kernel)) <|
  ok_n
def uX8_apart : gCT := [(6, YX7_hasPair, 3, some 7), (16, YX8_liveAsNow, 1, some 8), (44, YX8_has, 2, none)]
set_option maxRecDepth 100000 in
theorem ocX8_apart : gOkC YX8_apart uX8_apart := oc_c (gEdge_V cal_X7_hasPair ck_7 rfl (show decode cX8_apart 6 = .ok (.invokevirtual 124, 3) by decide +kernel) wd_3_187 wd_3_188 wd_3_189) <|
  oc_c (gEdge_V cal_X8_liveAsNow ck_8 rfl (show decode cX8_apart 16 = .ok (.invokevirtual 118, 3) by decide +kernel) wd_3_102 wd_3_104 wp_1_13) <|
  oc_c (gEdge_S cal_X8_has (show decode cX8_apart 44 = .ok (.invokestatic 187, 3) by decide +kernel) wd_4_29 wd_3_119) <|
  oc_n
theorem reX8_apart : ∀ pc ∈ [14, 51, 59], decode cX8_apart pc = .ok (.ireturn, 1) := by decide +kernel
def tX8_singles : List (Nat × gStp) := [(0, i_aload 0 1), (1, i_getT 8 0 4), (4, i_iload 1 5), (8, i_if_ne 14 11), (11, i_push (.int (-2)) 13), (14, i_aload 0 15), (18, i_push (.int 0) 19), (19, i_istore 2 20), (20, i_push (.int 0) 21), (21, i_istore 3 22), (22, i_iload 3 23), (23, i_aload 0 24), (24, i_getT 8 0 27), (27, i_getI 7 5 30), (30, i_ic_ge 62 33), (33, i_aload 0 34), (34, i_getC 8 14 37), (37, i_getC 2 48 40), (40, i_iload 1 41), (41, i_aald7 42), (42, i_iload 3 43), (43, i_iald 44), (44, i_push (.int 1) 45), (45, i_iload 3 46), (46, i_ii (fun x y => x <<< (y &&& 31)) 47), (47, i_ic_ne 56 50), (50, i_iload 2 51), (51, i_push (.int 1) 52), (52, i_iload 3 53), (53, i_ii (fun x y => x <<< (y &&& 31)) 54), (54, i_ii (fun x y => x ||| y) 55), (55, i_istore 2 56), (56, i_iinc 3 1 59), (59, i_goto 22), (62, i_iload 2 63)]
set_option maxRecDepth 100000 in
theorem okX8_singles : gOk YX8_singles tX8_singles := ok_c (sn_aload_n (show decode cX8_singles 0 = .ok (.aload_n 0, 1) by decide +kernel) rfl) <|
  ok_c (sn_getT (j := 6) (fun _ _ => rfl) (sn_get ck_8 (by decide) (show decode cX8_singles 1 = .ok (.getfield 51, 3) by decide +kernel) wd_2_130)) <|
  ok_c (sn_iload_n (show decode cX8_singles 4 = .ok (.iload_n 1, 1) by decide +kernel) rfl) <|
  ok_c (sn_if_ne (show decode cX8_singles 8 = .ok (.ifCond .ne 6, 3) by decide +kernel) (by decide)) <|
  ok_c (sn_bipush (v := (-2)) (show decode cX8_singles 11 = .ok (.bipush (-2), 2) by decide +kernel) (by decide +kernel)) <|
  ok_c (sn_aload_n (show decode cX8_singles 14 = .ok (.aload_n 0, 1) by decide +kernel) rfl) <|
  ok_c (sn_iconst (v := 0) (show decode cX8_singles 18 = .ok (.iconst 0, 1) by decide +kernel) (by decide +kernel)) <|
  ok_c (sn_istore_n (show decode cX8_singles 19 = .ok (.istore_n 2, 1) by decide +kernel) rfl (by decide)) <|
  ok_c (sn_iconst (v := 0) (show decode cX8_singles 20 = .ok (.iconst 0, 1) by decide +kernel) (by decide +kernel)) <|
  ok_c (sn_istore_n (show decode cX8_singles 21 = .ok (.istore_n 3, 1) by decide +kernel) rfl (by decide)) <|
  ok_c (sn_iload_n (show decode cX8_singles 22 = .ok (.iload_n 3, 1) by decide +kernel) rfl) <|
  ok_c (sn_aload_n (show decode cX8_singles 23 = .ok (.aload_n 0, 1) by decide +kernel) rfl) <|
  ok_c (sn_getT (j := 6) (fun _ _ => rfl) (sn_get ck_8 (by decide) (show decode cX8_singles 24 = .ok (.getfield 51, 3) by decide +kernel) wd_2_130)) <|
  ok_c (sn_getI (fun _ _ => rfl) (sn_get ck_7 (by decide) (show decode cX8_singles 27 = .ok (.getfield 150, 3) by decide +kernel) wd_1_108)) <|
  ok_c (sn_ic_ge (show decode cX8_singles 30 = .ok (.if_icmp .ge 32, 3) by decide +kernel) (by decide)) <|
  ok_c (sn_aload_n (show decode cX8_singles 33 = .ok (.aload_n 0, 1) by decide +kernel) rfl) <|
  ok_c (sn_getC (j := 3) (fun _ _ => rfl) (sn_get ck_8 (by decide) (show decode cX8_singles 34 = .ok (.getfield 33, 3) by decide +kernel) wd_2_127)) <|
  ok_c (sn_getC (j := 15) (fun _ _ => rfl) (sn_get ck_2 (by decide) (show decode cX8_singles 37 = .ok (.getfield 132, 3) by decide +kernel) wd_2_49)) <|
  ok_c (sn_iload_n (show decode cX8_singles 40 = .ok (.iload_n 1, 1) by decide +kernel) rfl) <|
  ok_c (sn_aald7 (show decode cX8_singles 41 = .ok (.aaload, 1) by decide +kernel)) <|
  ok_c (sn_iload_n (show decode cX8_singles 42 = .ok (.iload_n 3, 1) by decide +kernel) rfl) <|
  ok_c (sn_iald (show decode cX8_singles 43 = .ok (.iaload, 1) by decide +kernel)) <|
  ok_c (sn_iconst (v := 1) (show decode cX8_singles 44 = .ok (.iconst 1, 1) by decide +kernel) (by decide +kernel)) <|
  ok_c (sn_iload_n (show decode cX8_singles 45 = .ok (.iload_n 3, 1) by decide +kernel) rfl) <|
  ok_c (sn_ishl (show decode cX8_singles 46 = .ok (.ishl, 1) by decide +kernel)) <|
  ok_c (sn_ic_ne (show decode cX8_singles 47 = .ok (.if_icmp .ne 9, 3) by decide +kernel) (by decide)) <|
  ok_c (sn_iload_n (show decode cX8_singles 50 = .ok (.iload_n 2, 1) by decide +kernel) rfl) <|
  ok_c (sn_iconst (v := 1) (show decode cX8_singles 51 = .ok (.iconst 1, 1) by decide +kernel) (by decide +kernel)) <|
  ok_c (sn_iload_n (show decode cX8_singles 52 = .ok (.iload_n 3, 1) by decide +kernel) rfl) <|
  ok_c (sn_ishl (show decode cX8_singles 53 = .ok (.ishl, 1) by decide +kernel)) <|
  ok_c (sn_ior (show decode cX8_singles 54 = .ok (.ior, 1) by decide +kernel)) <|
  ok_c (sn_istore_n (show decode cX8_singles 55 = .ok (.istore_n 2, 1) by decide +kernel) rfl (by decide)) <|
  ok_c (sn_iinc (show decode cX8_singles 56 = .ok (.iinc 3 1, 3) by decide +kernel) (by decide) (by decide +kernel)) <|
  ok_c (sn_goto (show decode cX8_singles 59 = .ok (.goto (-37), 3) by decide +kernel) (by decide)) <|
  ok_c (sn_iload_n (show decode cX8_singles 62 = .ok (.iload_n 2, 1) by decide +kernel) rfl) <|
  ok_n
def uX8_singles : gCT := [(5, YX7_hasYear, 2, some 7), (15, YX8_liveAsNow, 1, some 8)]
set_option maxRecDepth 100000 in
theorem ocX8_singles : gOkC YX8_singles uX8_singles := oc_c (gEdge_V cal_X7_hasYear ck_7 rfl (show decode cX8_singles 5 = .ok (.invokevirtual 115, 3) by decide +kernel) wd_3_98 wd_3_99 wd_3_100) <|
  oc_c (gEdge_V cal_X8_liveAsNow ck_8 rfl (show decode cX8_singles 15 = .ok (.invokevirtual 118, 3) by decide +kernel) wd_3_102 wd_3_104 wp_1_13) <|
  oc_n
theorem reX8_singles : ∀ pc ∈ [13, 63], decode cX8_singles pc = .ok (.ireturn, 1) := by decide +kernel
def tX8_total : List (Nat × gStp) := [(0, i_aload 0 1), (1, i_getT 8 0 4), (4, i_iload 1 5), (8, i_if_ne 15 11), (11, i_push (.int (-10000)) 14), (15, i_aload 0 16), (19, i_aload 0 20), (20, i_getC 8 14 23), (23, i_aload 0 24), (24, i_getT 8 0 27), (27, i_getI 7 5 30), (33, i_aload 0 34), (34, i_getC 8 14 37), (37, i_getC 2 20 40), (40, i_iload 1 41), (41, i_iald 42), (42, i_push (.int (-1)) 43), (43, i_ii (fun x y => x ^^^ y) 44), (44, i_ii (fun x y => x &&& y) 45), (45, i_iload 1 46)]
set_option maxRecDepth 100000 in
theorem okX8_total : gOk YX8_total tX8_total := ok_c (sn_aload_n (show decode cX8_total 0 = .ok (.aload_n 0, 1) by decide +kernel) rfl) <|
  ok_c (sn_getT (j := 6) (fun _ _ => rfl) (sn_get ck_8 (by decide) (show decode cX8_total 1 = .ok (.getfield 51, 3) by decide +kernel) wd_2_130)) <|
  ok_c (sn_iload_n (show decode cX8_total 4 = .ok (.iload_n 1, 1) by decide +kernel) rfl) <|
  ok_c (sn_if_ne (show decode cX8_total 8 = .ok (.ifCond .ne 7, 3) by decide +kernel) (by decide)) <|
  ok_c (sn_sipush (v := (-10000)) (show decode cX8_total 11 = .ok (.sipush (-10000), 3) by decide +kernel) (by decide +kernel)) <|
  ok_c (sn_aload_n (show decode cX8_total 15 = .ok (.aload_n 0, 1) by decide +kernel) rfl) <|
  ok_c (sn_aload_n (show decode cX8_total 19 = .ok (.aload_n 0, 1) by decide +kernel) rfl) <|
  ok_c (sn_getC (j := 3) (fun _ _ => rfl) (sn_get ck_8 (by decide) (show decode cX8_total 20 = .ok (.getfield 33, 3) by decide +kernel) wd_2_127)) <|
  ok_c (sn_aload_n (show decode cX8_total 23 = .ok (.aload_n 0, 1) by decide +kernel) rfl) <|
  ok_c (sn_getT (j := 6) (fun _ _ => rfl) (sn_get ck_8 (by decide) (show decode cX8_total 24 = .ok (.getfield 51, 3) by decide +kernel) wd_2_130)) <|
  ok_c (sn_getI (fun _ _ => rfl) (sn_get ck_7 (by decide) (show decode cX8_total 27 = .ok (.getfield 150, 3) by decide +kernel) wd_1_108)) <|
  ok_c (sn_aload_n (show decode cX8_total 33 = .ok (.aload_n 0, 1) by decide +kernel) rfl) <|
  ok_c (sn_getC (j := 3) (fun _ _ => rfl) (sn_get ck_8 (by decide) (show decode cX8_total 34 = .ok (.getfield 33, 3) by decide +kernel) wd_2_127)) <|
  ok_c (sn_getC (j := 11) (fun _ _ => rfl) (sn_get ck_2 (by decide) (show decode cX8_total 37 = .ok (.getfield 181, 3) by decide +kernel) wd_2_42)) <|
  ok_c (sn_iload_n (show decode cX8_total 40 = .ok (.iload_n 1, 1) by decide +kernel) rfl) <|
  ok_c (sn_iald (show decode cX8_total 41 = .ok (.iaload, 1) by decide +kernel)) <|
  ok_c (sn_iconst (v := (-1)) (show decode cX8_total 42 = .ok (.iconst (-1), 1) by decide +kernel) (by decide +kernel)) <|
  ok_c (sn_ixor (show decode cX8_total 43 = .ok (.ixor, 1) by decide +kernel)) <|
  ok_c (sn_iand (show decode cX8_total 44 = .ok (.iand, 1) by decide +kernel)) <|
  ok_c (sn_iload_n (show decode cX8_total 45 = .ok (.iload_n 1, 1) by decide +kernel) rfl) <|
  ok_n
def uX8_total : gCT := [(5, YX7_hasYear, 2, some 7), (16, YX8_liveAsNow, 1, some 8), (30, YX8_allOf, 1, none), (46, YX2_worthOf, 3, some 2)]
set_option maxRecDepth 100000 in
theorem ocX8_total : gOkC YX8_total uX8_total := oc_c (gEdge_V cal_X7_hasYear ck_7 rfl (show decode cX8_total 5 = .ok (.invokevirtual 115, 3) by decide +kernel) wd_3_98 wd_3_99 wd_3_100) <|
  oc_c (gEdge_V cal_X8_liveAsNow ck_8 rfl (show decode cX8_total 16 = .ok (.invokevirtual 118, 3) by decide +kernel) wd_3_102 wd_3_104 wp_1_13) <|
  oc_c (gEdge_S cal_X8_allOf (show decode cX8_total 30 = .ok (.invokestatic 193, 3) by decide +kernel) wd_4_63 wd_3_169) <|
  oc_c (gEdge_V cal_X2_worthOf ck_2 rfl (show decode cX8_total 46 = .ok (.invokevirtual 178, 3) by decide +kernel) wd_4_38 wd_3_172 wd_3_173) <|
  oc_n
theorem reX8_total : ∀ pc ∈ [14, 49], decode cX8_total pc = .ok (.ireturn, 1) := by decide +kernel
def tX8_best : List (Nat × gStp) := [(0, i_aload 0 1), (1, i_getT 8 0 4), (4, i_iload 1 5), (8, i_if_ne 14 11), (11, i_push (.int (-2)) 13), (14, i_aload 0 15), (15, i_getT 8 0 18), (18, i_aload 0 19), (19, i_getT 8 0 22), (22, i_iload 1 23)]
set_option maxRecDepth 100000 in
theorem okX8_best : gOk YX8_best tX8_best := ok_c (sn_aload_n (show decode cX8_best 0 = .ok (.aload_n 0, 1) by decide +kernel) rfl) <|
  ok_c (sn_getT (j := 6) (fun _ _ => rfl) (sn_get ck_8 (by decide) (show decode cX8_best 1 = .ok (.getfield 51, 3) by decide +kernel) wd_2_130)) <|
  ok_c (sn_iload_n (show decode cX8_best 4 = .ok (.iload_n 1, 1) by decide +kernel) rfl) <|
  ok_c (sn_if_ne (show decode cX8_best 8 = .ok (.ifCond .ne 6, 3) by decide +kernel) (by decide)) <|
  ok_c (sn_bipush (v := (-2)) (show decode cX8_best 11 = .ok (.bipush (-2), 2) by decide +kernel) (by decide +kernel)) <|
  ok_c (sn_aload_n (show decode cX8_best 14 = .ok (.aload_n 0, 1) by decide +kernel) rfl) <|
  ok_c (sn_getT (j := 6) (fun _ _ => rfl) (sn_get ck_8 (by decide) (show decode cX8_best 15 = .ok (.getfield 51, 3) by decide +kernel) wd_2_130)) <|
  ok_c (sn_aload_n (show decode cX8_best 18 = .ok (.aload_n 0, 1) by decide +kernel) rfl) <|
  ok_c (sn_getT (j := 6) (fun _ _ => rfl) (sn_get ck_8 (by decide) (show decode cX8_best 19 = .ok (.getfield 51, 3) by decide +kernel) wd_2_130)) <|
  ok_c (sn_iload_n (show decode cX8_best 22 = .ok (.iload_n 1, 1) by decide +kernel) rfl) <|
  ok_n
def uX8_best : gCT := [(5, YX7_hasDoor, 2, some 7), (23, YX1_bestSet, 2, none), (26, YX7_toldWorth, 2, some 7)]
set_option maxRecDepth 100000 in
theorem ocX8_best : gOkC YX8_best uX8_best := oc_c (gEdge_V cal_X7_hasDoor ck_7 rfl (show decode cX8_best 5 = .ok (.invokevirtual 109, 3) by decide +kernel) wd_3_90 wd_3_91 wd_3_92) <|
  oc_c (gEdge_S cal_X1_bestSet (show decode cX8_best 23 = .ok (.invokestatic 196, 3) by decide +kernel) wd_4_80 wd_4_81) <|
  oc_c (gEdge_V cal_X7_toldWorth ck_7 rfl (show decode cX8_best 26 = .ok (.invokevirtual 199, 3) by decide +kernel) wd_4_95 wd_4_92 wd_4_93) <|
  oc_n
theorem reX8_best : ∀ pc ∈ [13, 29], decode cX8_best pc = .ok (.ireturn, 1) := by decide +kernel
def tX8_bests : List (Nat × gStp) := [(0, i_aload 0 1), (1, i_getT 8 0 4), (4, i_iload 1 5), (8, i_if_ne 14 11), (11, i_push (.int (-2)) 13), (14, i_aload 0 15), (15, i_getT 8 0 18), (18, i_iload 1 19)]
set_option maxRecDepth 100000 in
theorem okX8_bests : gOk YX8_bests tX8_bests := ok_c (sn_aload_n (show decode cX8_bests 0 = .ok (.aload_n 0, 1) by decide +kernel) rfl) <|
  ok_c (sn_getT (j := 6) (fun _ _ => rfl) (sn_get ck_8 (by decide) (show decode cX8_bests 1 = .ok (.getfield 51, 3) by decide +kernel) wd_2_130)) <|
  ok_c (sn_iload_n (show decode cX8_bests 4 = .ok (.iload_n 1, 1) by decide +kernel) rfl) <|
  ok_c (sn_if_ne (show decode cX8_bests 8 = .ok (.ifCond .ne 6, 3) by decide +kernel) (by decide)) <|
  ok_c (sn_bipush (v := (-2)) (show decode cX8_bests 11 = .ok (.bipush (-2), 2) by decide +kernel) (by decide +kernel)) <|
  ok_c (sn_aload_n (show decode cX8_bests 14 = .ok (.aload_n 0, 1) by decide +kernel) rfl) <|
  ok_c (sn_getT (j := 6) (fun _ _ => rfl) (sn_get ck_8 (by decide) (show decode cX8_bests 15 = .ok (.getfield 51, 3) by decide +kernel) wd_2_130)) <|
  ok_c (sn_iload_n (show decode cX8_bests 18 = .ok (.iload_n 1, 1) by decide +kernel) rfl) <|
  ok_n
def uX8_bests : gCT := [(5, YX7_hasDoor, 2, some 7), (19, YX1_bestSet, 2, none)]
set_option maxRecDepth 100000 in
theorem ocX8_bests : gOkC YX8_bests uX8_bests := oc_c (gEdge_V cal_X7_hasDoor ck_7 rfl (show decode cX8_bests 5 = .ok (.invokevirtual 109, 3) by decide +kernel) wd_3_90 wd_3_91 wd_3_92) <|
  oc_c (gEdge_S cal_X1_bestSet (show decode cX8_bests 19 = .ok (.invokestatic 196, 3) by decide +kernel) wd_4_80 wd_4_81) <|
  oc_n
theorem reX8_bests : ∀ pc ∈ [13, 22], decode cX8_bests pc = .ok (.ireturn, 1) := by decide +kernel
def tX8_sets : List (Nat × gStp) := [(0, i_aload 0 1), (1, i_getT 8 0 4), (4, i_iload 1 5), (8, i_if_ne 14 11), (11, i_push (.int (-2)) 13), (14, i_aload 0 15), (15, i_getC 8 61 18), (18, i_aload 0 19), (19, i_getT 8 0 22), (22, i_iload 1 23), (26, i_aload 0 27), (27, i_getC 8 61 30), (30, i_getC 1 62 33), (33, i_aload 0 34), (34, i_getT 8 0 37), (37, i_getI 7 5 40), (43, i_iald 44)]
set_option maxRecDepth 100000 in
theorem okX8_sets : gOk YX8_sets tX8_sets := ok_c (sn_aload_n (show decode cX8_sets 0 = .ok (.aload_n 0, 1) by decide +kernel) rfl) <|
  ok_c (sn_getT (j := 6) (fun _ _ => rfl) (sn_get ck_8 (by decide) (show decode cX8_sets 1 = .ok (.getfield 51, 3) by decide +kernel) wd_2_130)) <|
  ok_c (sn_iload_n (show decode cX8_sets 4 = .ok (.iload_n 1, 1) by decide +kernel) rfl) <|
  ok_c (sn_if_ne (show decode cX8_sets 8 = .ok (.ifCond .ne 6, 3) by decide +kernel) (by decide)) <|
  ok_c (sn_bipush (v := (-2)) (show decode cX8_sets 11 = .ok (.bipush (-2), 2) by decide +kernel) (by decide +kernel)) <|
  ok_c (sn_aload_n (show decode cX8_sets 14 = .ok (.aload_n 0, 1) by decide +kernel) rfl) <|
  ok_c (sn_getC (j := 4) (fun _ _ => rfl) (sn_get ck_8 (by decide) (show decode cX8_sets 15 = .ok (.getfield 40, 3) by decide +kernel) wd_2_128)) <|
  ok_c (sn_aload_n (show decode cX8_sets 18 = .ok (.aload_n 0, 1) by decide +kernel) rfl) <|
  ok_c (sn_getT (j := 6) (fun _ _ => rfl) (sn_get ck_8 (by decide) (show decode cX8_sets 19 = .ok (.getfield 51, 3) by decide +kernel) wd_2_130)) <|
  ok_c (sn_iload_n (show decode cX8_sets 22 = .ok (.iload_n 1, 1) by decide +kernel) rfl) <|
  ok_c (sn_aload_n (show decode cX8_sets 26 = .ok (.aload_n 0, 1) by decide +kernel) rfl) <|
  ok_c (sn_getC (j := 4) (fun _ _ => rfl) (sn_get ck_8 (by decide) (show decode cX8_sets 27 = .ok (.getfield 40, 3) by decide +kernel) wd_2_128)) <|
  ok_c (sn_getC (j := 0) (fun _ _ => rfl) (sn_get ck_1 (by decide) (show decode cX8_sets 30 = .ok (.getfield 206, 3) by decide +kernel) wd_2_94)) <|
  ok_c (sn_aload_n (show decode cX8_sets 33 = .ok (.aload_n 0, 1) by decide +kernel) rfl) <|
  ok_c (sn_getT (j := 6) (fun _ _ => rfl) (sn_get ck_8 (by decide) (show decode cX8_sets 34 = .ok (.getfield 51, 3) by decide +kernel) wd_2_130)) <|
  ok_c (sn_getI (fun _ _ => rfl) (sn_get ck_7 (by decide) (show decode cX8_sets 37 = .ok (.getfield 150, 3) by decide +kernel) wd_1_108)) <|
  ok_c (sn_iald (show decode cX8_sets 43 = .ok (.iaload, 1) by decide +kernel)) <|
  ok_n
def uX8_sets : gCT := [(5, YX7_hasDoor, 2, some 7), (23, YX1_part, 3, some 1), (40, YX8_allOf, 1, none)]
set_option maxRecDepth 100000 in
theorem ocX8_sets : gOkC YX8_sets uX8_sets := oc_c (gEdge_V cal_X7_hasDoor ck_7 rfl (show decode cX8_sets 5 = .ok (.invokevirtual 109, 3) by decide +kernel) wd_3_90 wd_3_91 wd_3_92) <|
  oc_c (gEdge_V cal_X1_part ck_1 rfl (show decode cX8_sets 23 = .ok (.invokevirtual 202, 3) by decide +kernel) wd_4_104 wd_4_105 wd_4_106) <|
  oc_c (gEdge_S cal_X8_allOf (show decode cX8_sets 40 = .ok (.invokestatic 193, 3) by decide +kernel) wd_4_63 wd_3_169) <|
  oc_n
theorem reX8_sets : ∀ pc ∈ [13, 44], decode cX8_sets pc = .ok (.ireturn, 1) := by decide +kernel
def tX8_ways : List (Nat × gStp) := [(0, i_aload 0 1), (1, i_getT 8 0 4), (4, i_iload 1 5), (8, i_if_ne 14 11), (11, i_push (.int (-2)) 13), (14, i_aload 0 15), (15, i_getC 8 61 18), (18, i_aload 0 19), (19, i_getT 8 0 22), (22, i_iload 1 23), (26, i_aload 0 27), (27, i_getT 8 0 30), (30, i_getI 7 5 33), (36, i_istore 2 37), (37, i_aload 0 38), (38, i_getC 8 61 41), (41, i_getC 1 62 44), (44, i_iload 2 45), (45, i_iald 46), (46, i_push (.int (-1)) 47), (47, i_ic_ne 54 50), (50, i_push (.int (-1)) 51), (51, i_goto 63), (54, i_aload 0 55), (55, i_getC 8 61 58), (58, i_getC 1 63 61), (61, i_iload 2 62), (62, i_iald 63)]
set_option maxRecDepth 100000 in
theorem okX8_ways : gOk YX8_ways tX8_ways := ok_c (sn_aload_n (show decode cX8_ways 0 = .ok (.aload_n 0, 1) by decide +kernel) rfl) <|
  ok_c (sn_getT (j := 6) (fun _ _ => rfl) (sn_get ck_8 (by decide) (show decode cX8_ways 1 = .ok (.getfield 51, 3) by decide +kernel) wd_2_130)) <|
  ok_c (sn_iload_n (show decode cX8_ways 4 = .ok (.iload_n 1, 1) by decide +kernel) rfl) <|
  ok_c (sn_if_ne (show decode cX8_ways 8 = .ok (.ifCond .ne 6, 3) by decide +kernel) (by decide)) <|
  ok_c (sn_bipush (v := (-2)) (show decode cX8_ways 11 = .ok (.bipush (-2), 2) by decide +kernel) (by decide +kernel)) <|
  ok_c (sn_aload_n (show decode cX8_ways 14 = .ok (.aload_n 0, 1) by decide +kernel) rfl) <|
  ok_c (sn_getC (j := 4) (fun _ _ => rfl) (sn_get ck_8 (by decide) (show decode cX8_ways 15 = .ok (.getfield 40, 3) by decide +kernel) wd_2_128)) <|
  ok_c (sn_aload_n (show decode cX8_ways 18 = .ok (.aload_n 0, 1) by decide +kernel) rfl) <|
  ok_c (sn_getT (j := 6) (fun _ _ => rfl) (sn_get ck_8 (by decide) (show decode cX8_ways 19 = .ok (.getfield 51, 3) by decide +kernel) wd_2_130)) <|
  ok_c (sn_iload_n (show decode cX8_ways 22 = .ok (.iload_n 1, 1) by decide +kernel) rfl) <|
  ok_c (sn_aload_n (show decode cX8_ways 26 = .ok (.aload_n 0, 1) by decide +kernel) rfl) <|
  ok_c (sn_getT (j := 6) (fun _ _ => rfl) (sn_get ck_8 (by decide) (show decode cX8_ways 27 = .ok (.getfield 51, 3) by decide +kernel) wd_2_130)) <|
  ok_c (sn_getI (fun _ _ => rfl) (sn_get ck_7 (by decide) (show decode cX8_ways 30 = .ok (.getfield 150, 3) by decide +kernel) wd_1_108)) <|
  ok_c (sn_istore_n (show decode cX8_ways 36 = .ok (.istore_n 2, 1) by decide +kernel) rfl (by decide)) <|
  ok_c (sn_aload_n (show decode cX8_ways 37 = .ok (.aload_n 0, 1) by decide +kernel) rfl) <|
  ok_c (sn_getC (j := 4) (fun _ _ => rfl) (sn_get ck_8 (by decide) (show decode cX8_ways 38 = .ok (.getfield 40, 3) by decide +kernel) wd_2_128)) <|
  ok_c (sn_getC (j := 0) (fun _ _ => rfl) (sn_get ck_1 (by decide) (show decode cX8_ways 41 = .ok (.getfield 206, 3) by decide +kernel) wd_2_94)) <|
  ok_c (sn_iload_n (show decode cX8_ways 44 = .ok (.iload_n 2, 1) by decide +kernel) rfl) <|
  ok_c (sn_iald (show decode cX8_ways 45 = .ok (.iaload, 1) by decide +kernel)) <|
  ok_c (sn_iconst (v := (-1)) (show decode cX8_ways 46 = .ok (.iconst (-1), 1) by decide +kernel) (by decide +kernel)) <|
  ok_c (sn_ic_ne (show decode cX8_ways 47 = .ok (.if_icmp .ne 7, 3) by decide +kernel) (by decide)) <|
  ok_c (sn_iconst (v := (-1)) (show decode cX8_ways 50 = .ok (.iconst (-1), 1) by decide +kernel) (by decide +kernel)) <|
  ok_c (sn_goto (show decode cX8_ways 51 = .ok (.goto 12, 3) by decide +kernel) (by decide)) <|
  ok_c (sn_aload_n (show decode cX8_ways 54 = .ok (.aload_n 0, 1) by decide +kernel) rfl) <|
  ok_c (sn_getC (j := 4) (fun _ _ => rfl) (sn_get ck_8 (by decide) (show decode cX8_ways 55 = .ok (.getfield 40, 3) by decide +kernel) wd_2_128)) <|
  ok_c (sn_getC (j := 1) (fun _ _ => rfl) (sn_get ck_1 (by decide) (show decode cX8_ways 58 = .ok (.getfield 209, 3) by decide +kernel) wd_2_96)) <|
  ok_c (sn_iload_n (show decode cX8_ways 61 = .ok (.iload_n 2, 1) by decide +kernel) rfl) <|
  ok_c (sn_iald (show decode cX8_ways 62 = .ok (.iaload, 1) by decide +kernel)) <|
  ok_n
def uX8_ways : gCT := [(5, YX7_hasDoor, 2, some 7), (23, YX1_part, 3, some 1), (33, YX8_allOf, 1, none)]
set_option maxRecDepth 100000 in
theorem ocX8_ways : gOkC YX8_ways uX8_ways := oc_c (gEdge_V cal_X7_hasDoor ck_7 rfl (show decode cX8_ways 5 = .ok (.invokevirtual 109, 3) by decide +kernel) wd_3_90 wd_3_91 wd_3_92) <|
  oc_c (gEdge_V cal_X1_part ck_1 rfl (show decode cX8_ways 23 = .ok (.invokevirtual 202, 3) by decide +kernel) wd_4_104 wd_4_105 wd_4_106) <|
  oc_c (gEdge_S cal_X8_allOf (show decode cX8_ways 33 = .ok (.invokestatic 193, 3) by decide +kernel) wd_4_63 wd_3_169) <|
  oc_n
theorem reX8_ways : ∀ pc ∈ [13, 63], decode cX8_ways pc = .ok (.ireturn, 1) := by decide +kernel
def tX8_share : List (Nat × gStp) := [(0, i_aload 0 1), (1, i_getT 8 0 4), (4, i_iload 1 5), (8, i_if_eq 29 11), (11, i_aload 0 12), (12, i_getT 8 0 15), (15, i_iload 2 16), (19, i_if_eq 29 22), (22, i_iload 3 23), (26, i_if_ne 32 29), (29, i_push (.int (-2)) 31), (32, i_fac 35), (35, i_aload 0 36), (36, i_getT 8 0 39), (39, i_getI 7 5 42), (42, i_fald 43), (43, i_istore 4 45), (45, i_aload 0 46), (46, i_getT 8 0 49), (49, i_iload 1 50), (50, i_iload 2 51), (54, i_iload 4 56), (56, i_i2l 57), (57, i_iload 3 58)]
set_option maxRecDepth 100000 in
theorem okX8_share : gOk YX8_share tX8_share := ok_c (sn_aload_n (show decode cX8_share 0 = .ok (.aload_n 0, 1) by decide +kernel) rfl) <|
  ok_c (sn_getT (j := 6) (fun _ _ => rfl) (sn_get ck_8 (by decide) (show decode cX8_share 1 = .ok (.getfield 51, 3) by decide +kernel) wd_2_130)) <|
  ok_c (sn_iload_n (show decode cX8_share 4 = .ok (.iload_n 1, 1) by decide +kernel) rfl) <|
  ok_c (sn_if_eq (show decode cX8_share 8 = .ok (.ifCond .eq 21, 3) by decide +kernel) (by decide)) <|
  ok_c (sn_aload_n (show decode cX8_share 11 = .ok (.aload_n 0, 1) by decide +kernel) rfl) <|
  ok_c (sn_getT (j := 6) (fun _ _ => rfl) (sn_get ck_8 (by decide) (show decode cX8_share 12 = .ok (.getfield 51, 3) by decide +kernel) wd_2_130)) <|
  ok_c (sn_iload_n (show decode cX8_share 15 = .ok (.iload_n 2, 1) by decide +kernel) rfl) <|
  ok_c (sn_if_eq (show decode cX8_share 19 = .ok (.ifCond .eq 10, 3) by decide +kernel) (by decide)) <|
  ok_c (sn_iload_n (show decode cX8_share 22 = .ok (.iload_n 3, 1) by decide +kernel) rfl) <|
  ok_c (sn_if_ne (show decode cX8_share 26 = .ok (.ifCond .ne 6, 3) by decide +kernel) (by decide)) <|
  ok_c (sn_bipush (v := (-2)) (show decode cX8_share 29 = .ok (.bipush (-2), 2) by decide +kernel) (by decide +kernel)) <|
  ok_c (sn_fac (show decode cX8_share 32 = .ok (.getstatic 215, 3) by decide +kernel) wd_4_123) <|
  ok_c (sn_aload_n (show decode cX8_share 35 = .ok (.aload_n 0, 1) by decide +kernel) rfl) <|
  ok_c (sn_getT (j := 6) (fun _ _ => rfl) (sn_get ck_8 (by decide) (show decode cX8_share 36 = .ok (.getfield 51, 3) by decide +kernel) wd_2_130)) <|
  ok_c (sn_getI (fun _ _ => rfl) (sn_get ck_7 (by decide) (show decode cX8_share 39 = .ok (.getfield 150, 3) by decide +kernel) wd_1_108)) <|
  ok_c (sn_fald (show decode cX8_share 42 = .ok (.iaload, 1) by decide +kernel)) <|
  ok_c (sn_istore (show decode cX8_share 43 = .ok (.istore 4, 2) by decide +kernel) (by decide)) <|
  ok_c (sn_aload_n (show decode cX8_share 45 = .ok (.aload_n 0, 1) by decide +kernel) rfl) <|
  ok_c (sn_getT (j := 6) (fun _ _ => rfl) (sn_get ck_8 (by decide) (show decode cX8_share 46 = .ok (.getfield 51, 3) by decide +kernel) wd_2_130)) <|
  ok_c (sn_iload_n (show decode cX8_share 49 = .ok (.iload_n 1, 1) by decide +kernel) rfl) <|
  ok_c (sn_iload_n (show decode cX8_share 50 = .ok (.iload_n 2, 1) by decide +kernel) rfl) <|
  ok_c (sn_iload (show decode cX8_share 54 = .ok (.iload 4, 2) by decide +kernel)) <|
  ok_c (sn_i2l (show decode cX8_share 56 = .ok (.i2l, 1) by decide +kernel)) <|
  ok_c (sn_iload_n (show decode cX8_share 57 = .ok (.iload_n 3, 1) by decide +kernel) rfl) <|
  ok_n
def uX8_share : gCT := [(5, YX7_hasPartner, 2, some 7), (16, YX7_hasDoor, 2, some 7), (23, YX8_isEither, 1, none), (51, YX1_gainOverOrders, 3, none), (58, YX8_lowest, 3, none)]
set_option maxRecDepth 100000 in
theorem ocX8_share : gOkC YX8_share uX8_share := oc_c (gEdge_V cal_X7_hasPartner ck_7 rfl (show decode cX8_share 5 = .ok (.invokevirtual 83, 3) by decide +kernel) wd_3_74 wd_3_75 wd_3_76) <|
  oc_c (gEdge_V cal_X7_hasDoor ck_7 rfl (show decode cX8_share 16 = .ok (.invokevirtual 109, 3) by decide +kernel) wd_3_90 wd_3_91 wd_3_92) <|
  oc_c (gEdge_S cal_X8_isEither (show decode cX8_share 23 = .ok (.invokestatic 212, 3) by decide +kernel) wd_4_120 wd_4_121) <|
  oc_c (gEdge_S cal_X1_gainOverOrders (show decode cX8_share 51 = .ok (.invokestatic 218, 3) by decide +kernel) wd_4_125 wd_4_126) <|
  oc_c (gEdge_S cal_X8_lowest (show decode cX8_share 58 = .ok (.invokestatic 222, 3) by decide +kernel) wd_4_131 wd_4_132) <|
  oc_n
theorem reX8_share : ∀ pc ∈ [31, 61], decode cX8_share pc = .ok (.ireturn, 1) := by decide +kernel
def tX8_fair : List (Nat × gStp) := [(0, i_aload 0 1), (1, i_iload 1 2), (5, i_astore 3 6), (6, i_aload 0 7), (7, i_aload 3 8), (8, i_iload 2 9), (12, i_istore 4 14), (14, i_aload 3 15), (15, i_ifnull 23 18), (18, i_iload 4 20), (20, i_if_eq 26 23), (23, i_iload 4 25), (26, i_aload 0 27), (27, i_getT 8 0 30), (30, i_getI 7 5 33), (36, i_istore 5 38), (38, i_aload 3 39), (39, i_iload 5 41), (41, i_aload 0 42), (42, i_getT 8 0 45), (45, i_iload 5 47), (47, i_iload 2 48), (54, i_if_ne 61 57), (57, i_push (.int 1) 58), (58, i_goto 62), (61, i_push (.int 0) 62), (62, i_istore 6 64), (64, i_iload 6 66), (66, i_if_eq 86 69), (69, i_aload 0 70), (70, i_getT 8 0 73), (73, i_iload 2 74), (74, i_aload 3 75), (78, i_push (.int (-1)) 79), (79, i_ic_ne 86 82), (82, i_push (.int 1) 83), (83, i_goto 87), (86, i_push (.int 0) 87)]
set_option maxRecDepth 100000 in
theorem okX8_fair : gOk YX8_fair tX8_fair := ok_c (sn_aload_n (show decode cX8_fair 0 = .ok (.aload_n 0, 1) by decide +kernel) rfl) <|
  ok_c (sn_iload_n (show decode cX8_fair 1 = .ok (.iload_n 1, 1) by decide +kernel) rfl) <|
  ok_c (sn_astore_n (show decode cX8_fair 5 = .ok (.astore_n 3, 1) by decide +kernel) rfl (by decide)) <|
  ok_c (sn_aload_n (show decode cX8_fair 6 = .ok (.aload_n 0, 1) by decide +kernel) rfl) <|
  ok_c (sn_aload_n (show decode cX8_fair 7 = .ok (.aload_n 3, 1) by decide +kernel) rfl) <|
  ok_c (sn_iload_n (show decode cX8_fair 8 = .ok (.iload_n 2, 1) by decide +kernel) rfl) <|
  ok_c (sn_istore (show decode cX8_fair 12 = .ok (.istore 4, 2) by decide +kernel) (by decide)) <|
  ok_c (sn_aload_n (show decode cX8_fair 14 = .ok (.aload_n 3, 1) by decide +kernel) rfl) <|
  ok_c (sn_ifnull (show decode cX8_fair 15 = .ok (.ifnull 8, 3) by decide +kernel) (by decide)) <|
  ok_c (sn_iload (show decode cX8_fair 18 = .ok (.iload 4, 2) by decide +kernel)) <|
  ok_c (sn_if_eq (show decode cX8_fair 20 = .ok (.ifCond .eq 6, 3) by decide +kernel) (by decide)) <|
  ok_c (sn_iload (show decode cX8_fair 23 = .ok (.iload 4, 2) by decide +kernel)) <|
  ok_c (sn_aload_n (show decode cX8_fair 26 = .ok (.aload_n 0, 1) by decide +kernel) rfl) <|
  ok_c (sn_getT (j := 6) (fun _ _ => rfl) (sn_get ck_8 (by decide) (show decode cX8_fair 27 = .ok (.getfield 51, 3) by decide +kernel) wd_2_130)) <|
  ok_c (sn_getI (fun _ _ => rfl) (sn_get ck_7 (by decide) (show decode cX8_fair 30 = .ok (.getfield 150, 3) by decide +kernel) wd_1_108)) <|
  ok_c (sn_istore (show decode cX8_fair 36 = .ok (.istore 5, 2) by decide +kernel) (by decide)) <|
  ok_c (sn_aload_n (show decode cX8_fair 38 = .ok (.aload_n 3, 1) by decide +kernel) rfl) <|
  ok_c (sn_iload (show decode cX8_fair 39 = .ok (.iload 5, 2) by decide +kernel)) <|
  ok_c (sn_aload_n (show decode cX8_fair 41 = .ok (.aload_n 0, 1) by decide +kernel) rfl) <|
  ok_c (sn_getT (j := 6) (fun _ _ => rfl) (sn_get ck_8 (by decide) (show decode cX8_fair 42 = .ok (.getfield 51, 3) by decide +kernel) wd_2_130)) <|
  ok_c (sn_iload (show decode cX8_fair 45 = .ok (.iload 5, 2) by decide +kernel)) <|
  ok_c (sn_iload_n (show decode cX8_fair 47 = .ok (.iload_n 2, 1) by decide +kernel) rfl) <|
  ok_c (sn_if_ne (show decode cX8_fair 54 = .ok (.ifCond .ne 7, 3) by decide +kernel) (by decide)) <|
  ok_c (sn_iconst (v := 1) (show decode cX8_fair 57 = .ok (.iconst 1, 1) by decide +kernel) (by decide +kernel)) <|
  ok_c (sn_goto (show decode cX8_fair 58 = .ok (.goto 4, 3) by decide +kernel) (by decide)) <|
  ok_c (sn_iconst (v := 0) (show decode cX8_fair 61 = .ok (.iconst 0, 1) by decide +kernel) (by decide +kernel)) <|
  ok_c (sn_istore (show decode cX8_fair 62 = .ok (.istore 6, 2) by decide +kernel) (by decide)) <|
  ok_c (sn_iload (show decode cX8_fair 64 = .ok (.iload 6, 2) by decide +kernel)) <|
  ok_c (sn_if_eq (show decode cX8_fair 66 = .ok (.ifCond .eq 20, 3) by decide +kernel) (by decide)) <|
  ok_c (sn_aload_n (show decode cX8_fair 69 = .ok (.aload_n 0, 1) by decide +kernel) rfl) <|
  ok_c (sn_getT (j := 6) (fun _ _ => rfl) (sn_get ck_8 (by decide) (show decode cX8_fair 70 = .ok (.getfield 51, 3) by decide +kernel) wd_2_130)) <|
  ok_c (sn_iload_n (show decode cX8_fair 73 = .ok (.iload_n 2, 1) by decide +kernel) rfl) <|
  ok_c (sn_aload_n (show decode cX8_fair 74 = .ok (.aload_n 3, 1) by decide +kernel) rfl) <|
  ok_c (sn_iconst (v := (-1)) (show decode cX8_fair 78 = .ok (.iconst (-1), 1) by decide +kernel) (by decide +kernel)) <|
  ok_c (sn_ic_ne (show decode cX8_fair 79 = .ok (.if_icmp .ne 7, 3) by decide +kernel) (by decide)) <|
  ok_c (sn_iconst (v := 1) (show decode cX8_fair 82 = .ok (.iconst 1, 1) by decide +kernel) (by decide +kernel)) <|
  ok_c (sn_goto (show decode cX8_fair 83 = .ok (.goto 4, 3) by decide +kernel) (by decide)) <|
  ok_c (sn_iconst (v := 0) (show decode cX8_fair 86 = .ok (.iconst 0, 1) by decide +kernel) (by decide +kernel)) <|
  ok_n
def uX8_fair : gCT := [(2, YX8_slotAt, 2, some 8), (9, YX8_refusalOfGifts, 3, some 8), (33, YX8_allOf, 1, none), (48, YX1_setWorth, 3, none), (51, YX4_compareTogether, 3, some 4), (75, YX1_firstLeaver, 3, none)]
set_option maxRecDepth 100000 in
theorem ocX8_fair : gOkC YX8_fair uX8_fair := oc_c (gEdge_V cal_X8_slotAt ck_8 rfl (show decode cX8_fair 2 = .ok (.invokevirtual 226, 3) by decide +kernel) wd_4_144 wd_4_146 wp_2_11) <|
  oc_c (gEdge_V cal_X8_refusalOfGifts ck_8 rfl (show decode cX8_fair 9 = .ok (.invokevirtual 230, 3) by decide +kernel) wd_4_148 wd_4_150 wp_2_12) <|
  oc_c (gEdge_S cal_X8_allOf (show decode cX8_fair 33 = .ok (.invokestatic 193, 3) by decide +kernel) wd_4_63 wd_3_169) <|
  oc_c (gEdge_S cal_X1_setWorth (show decode cX8_fair 48 = .ok (.invokestatic 234, 3) by decide +kernel) wd_4_156 wd_4_84) <|
  oc_c (gEdge_V cal_X4_compareTogether ck_4 rfl (show decode cX8_fair 51 = .ok (.invokevirtual 238, 3) by decide +kernel) wd_4_157 wd_4_158 wd_4_159) <|
  oc_c (gEdge_S cal_X1_firstLeaver (show decode cX8_fair 75 = .ok (.invokestatic 241, 3) by decide +kernel) wd_4_166 wd_4_167) <|
  oc_n
theorem reX8_fair : ∀ pc ∈ [25, 87], decode cX8_fair pc = .ok (.ireturn, 1) := by decide +kernel
def tX8_leave : List (Nat × gStp) := [(0, i_aload 0 1), (1, i_iload 1 2), (5, i_astore 3 6), (6, i_aload 0 7), (7, i_aload 3 8), (8, i_iload 2 9), (12, i_istore 4 14), (14, i_aload 3 15), (15, i_ifnull 23 18), (18, i_iload 4 20), (20, i_if_eq 26 23), (23, i_iload 4 25), (26, i_aload 0 27), (27, i_getT 8 0 30), (30, i_iload 2 31), (31, i_aload 3 32)]
set_option maxRecDepth 100000 in
theorem okX8_leave : gOk YX8_leave tX8_leave := ok_c (sn_aload_n (show decode cX8_leave 0 = .ok (.aload_n 0, 1) by decide +kernel) rfl) <|
  ok_c (sn_iload_n (show decode cX8_leave 1 = .ok (.iload_n 1, 1) by decide +kernel) rfl) <|
  ok_c (sn_astore_n (show decode cX8_leave 5 = .ok (.astore_n 3, 1) by decide +kernel) rfl (by decide)) <|
  ok_c (sn_aload_n (show decode cX8_leave 6 = .ok (.aload_n 0, 1) by decide +kernel) rfl) <|
  ok_c (sn_aload_n (show decode cX8_leave 7 = .ok (.aload_n 3, 1) by decide +kernel) rfl) <|
  ok_c (sn_iload_n (show decode cX8_leave 8 = .ok (.iload_n 2, 1) by decide +kernel) rfl) <|
  ok_c (sn_istore (show decode cX8_leave 12 = .ok (.istore 4, 2) by decide +kernel) (by decide)) <|
  ok_c (sn_aload_n (show decode cX8_leave 14 = .ok (.aload_n 3, 1) by decide +kernel) rfl) <|
  ok_c (sn_ifnull (show decode cX8_leave 15 = .ok (.ifnull 8, 3) by decide +kernel) (by decide)) <|
  ok_c (sn_iload (show decode cX8_leave 18 = .ok (.iload 4, 2) by decide +kernel)) <|
  ok_c (sn_if_eq (show decode cX8_leave 20 = .ok (.ifCond .eq 6, 3) by decide +kernel) (by decide)) <|
  ok_c (sn_iload (show decode cX8_leave 23 = .ok (.iload 4, 2) by decide +kernel)) <|
  ok_c (sn_aload_n (show decode cX8_leave 26 = .ok (.aload_n 0, 1) by decide +kernel) rfl) <|
  ok_c (sn_getT (j := 6) (fun _ _ => rfl) (sn_get ck_8 (by decide) (show decode cX8_leave 27 = .ok (.getfield 51, 3) by decide +kernel) wd_2_130)) <|
  ok_c (sn_iload_n (show decode cX8_leave 30 = .ok (.iload_n 2, 1) by decide +kernel) rfl) <|
  ok_c (sn_aload_n (show decode cX8_leave 31 = .ok (.aload_n 3, 1) by decide +kernel) rfl) <|
  ok_n
def uX8_leave : gCT := [(2, YX8_slotAt, 2, some 8), (9, YX8_refusalOfGifts, 3, some 8), (32, YX1_firstLeaver, 3, none)]
set_option maxRecDepth 100000 in
theorem ocX8_leave : gOkC YX8_leave uX8_leave := oc_c (gEdge_V cal_X8_slotAt ck_8 rfl (show decode cX8_leave 2 = .ok (.invokevirtual 226, 3) by decide +kernel) wd_4_144 wd_4_146 wp_2_11) <|
  oc_c (gEdge_V cal_X8_refusalOfGifts ck_8 rfl (show decode cX8_leave 9 = .ok (.invokevirtual 230, 3) by decide +kernel) wd_4_148 wd_4_150 wp_2_12) <|
  oc_c (gEdge_S cal_X1_firstLeaver (show decode cX8_leave 32 = .ok (.invokestatic 241, 3) by decide +kernel) wd_4_166 wd_4_167) <|
  oc_n
theorem reX8_leave : ∀ pc ∈ [25, 35], decode cX8_leave pc = .ok (.ireturn, 1) := by decide +kernel
def tX8_snips : List (Nat × gStp) := [(0, i_aload 0 1), (1, i_getT 8 0 4), (4, i_iload 1 5), (5, i_iload 2 6), (9, i_if_ne 15 12), (12, i_push (.int (-2)) 14), (15, i_aload 0 16), (16, i_iload 1 17), (17, i_iload 2 18), (21, i_istore 3 22), (22, i_iload 3 23), (23, i_push (.int (-1)) 24), (24, i_ic_ne 31 27), (27, i_push (.int (-1)) 28), (28, i_goto 35), (31, i_iload 3 32)]
set_option maxRecDepth 100000 in
theorem okX8_snips : gOk YX8_snips tX8_snips := ok_c (sn_aload_n (show decode cX8_snips 0 = .ok (.aload_n 0, 1) by decide +kernel) rfl) <|
  ok_c (sn_getT (j := 6) (fun _ _ => rfl) (sn_get ck_8 (by decide) (show decode cX8_snips 1 = .ok (.getfield 51, 3) by decide +kernel) wd_2_130)) <|
  ok_c (sn_iload_n (show decode cX8_snips 4 = .ok (.iload_n 1, 1) by decide +kernel) rfl) <|
  ok_c (sn_iload_n (show decode cX8_snips 5 = .ok (.iload_n 2, 1) by decide +kernel) rfl) <|
  ok_c (sn_if_ne (show decode cX8_snips 9 = .ok (.ifCond .ne 6, 3) by decide +kernel) (by decide)) <|
  ok_c (sn_bipush (v := (-2)) (show decode cX8_snips 12 = .ok (.bipush (-2), 2) by decide +kernel) (by decide +kernel)) <|
  ok_c (sn_aload_n (show decode cX8_snips 15 = .ok (.aload_n 0, 1) by decide +kernel) rfl) <|
  ok_c (sn_iload_n (show decode cX8_snips 16 = .ok (.iload_n 1, 1) by decide +kernel) rfl) <|
  ok_c (sn_iload_n (show decode cX8_snips 17 = .ok (.iload_n 2, 1) by decide +kernel) rfl) <|
  ok_c (sn_istore_n (show decode cX8_snips 21 = .ok (.istore_n 3, 1) by decide +kernel) rfl (by decide)) <|
  ok_c (sn_iload_n (show decode cX8_snips 22 = .ok (.iload_n 3, 1) by decide +kernel) rfl) <|
  ok_c (sn_iconst (v := (-1)) (show decode cX8_snips 23 = .ok (.iconst (-1), 1) by decide +kernel) (by decide +kernel)) <|
  ok_c (sn_ic_ne (show decode cX8_snips 24 = .ok (.if_icmp .ne 7, 3) by decide +kernel) (by decide)) <|
  ok_c (sn_iconst (v := (-1)) (show decode cX8_snips 27 = .ok (.iconst (-1), 1) by decide +kernel) (by decide +kernel)) <|
  ok_c (sn_goto (show decode cX8_snips 28 = .ok (.goto 7, 3) by decide +kernel) (by decide)) <|
  ok_c (sn_iload_n (show decode cX8_snips 31 = .ok (.iload_n 3, 1) by decide +kernel) rfl) <|
  ok_n
def uX8_snips : gCT := [(6, YX7_hasPair, 3, some 7), (18, YX8_fewestCut, 3, some 8), (32, YJ6_bitCount_0f7a4, 1, none)]
set_option maxRecDepth 100000 in
theorem ocX8_snips : gOkC YX8_snips uX8_snips := oc_c (gEdge_V cal_X7_hasPair ck_7 rfl (show decode cX8_snips 6 = .ok (.invokevirtual 124, 3) by decide +kernel) wd_3_187 wd_3_188 wd_3_189) <|
  oc_c (gEdge_V cal_X8_fewestCut ck_8 rfl (show decode cX8_snips 18 = .ok (.invokevirtual 245, 3) by decide +kernel) wd_4_178 wd_4_180 wp_2_13) <|
  oc_c (gEdge_S cal_J6_bitCount_0f7a4 (show decode cX8_snips 32 = .ok (.invokestatic 153, 3) by decide +kernel) wd_4_7 wd_3_229) <|
  oc_n
theorem reX8_snips : ∀ pc ∈ [14, 35], decode cX8_snips pc = .ok (.ireturn, 1) := by decide +kernel
def tX8_snipped : List (Nat × gStp) := [(0, i_aload 0 1), (1, i_getT 8 0 4), (4, i_iload 1 5), (5, i_iload 2 6), (9, i_if_ne 15 12), (12, i_push (.int (-2)) 14), (15, i_aload 0 16), (16, i_iload 1 17), (17, i_iload 2 18)]
set_option maxRecDepth 100000 in
theorem okX8_snipped : gOk YX8_snipped tX8_snipped := ok_c (sn_aload_n (show decode cX8_snipped 0 = .ok (.aload_n 0, 1) by decide +kernel) rfl) <|
  ok_c (sn_getT (j := 6) (fun _ _ => rfl) (sn_get ck_8 (by decide) (show decode cX8_snipped 1 = .ok (.getfield 51, 3) by decide +kernel) wd_2_130)) <|
  ok_c (sn_iload_n (show decode cX8_snipped 4 = .ok (.iload_n 1, 1) by decide +kernel) rfl) <|
  ok_c (sn_iload_n (show decode cX8_snipped 5 = .ok (.iload_n 2, 1) by decide +kernel) rfl) <|
  ok_c (sn_if_ne (show decode cX8_snipped 9 = .ok (.ifCond .ne 6, 3) by decide +kernel) (by decide)) <|
  ok_c (sn_bipush (v := (-2)) (show decode cX8_snipped 12 = .ok (.bipush (-2), 2) by decide +kernel) (by decide +kernel)) <|
  ok_c (sn_aload_n (show decode cX8_snipped 15 = .ok (.aload_n 0, 1) by decide +kernel) rfl) <|
  ok_c (sn_iload_n (show decode cX8_snipped 16 = .ok (.iload_n 1, 1) by decide +kernel) rfl) <|
  ok_c (sn_iload_n (show decode cX8_snipped 17 = .ok (.iload_n 2, 1) by decide +kernel) rfl) <|
  ok_n
def uX8_snipped : gCT := [(6, YX7_hasPair, 3, some 7), (18, YX8_fewestCut, 3, some 8)]
set_option maxRecDepth 100000 in
theorem ocX8_snipped : gOkC YX8_snipped uX8_snipped := oc_c (gEdge_V cal_X7_hasPair ck_7 rfl (show decode cX8_snipped 6 = .ok (.invokevirtual 124, 3) by decide +kernel) wd_3_187 wd_3_188 wd_3_189) <|
  oc_c (gEdge_V cal_X8_fewestCut ck_8 rfl (show decode cX8_snipped 18 = .ok (.invokevirtual 245, 3) by decide +kernel) wd_4_178 wd_4_180 wp_2_13) <|
  oc_n
theorem reX8_snipped : ∀ pc ∈ [14, 21], decode cX8_snipped pc = .ok (.ireturn, 1) := by decide +kernel
def tX8_wax : List (Nat × gStp) := [(0, i_aload 0 1), (1, i_getT 8 0 4), (4, i_iload 1 5), (5, i_iload 2 6), (9, i_if_ne 15 12), (12, i_push (.int (-2)) 14), (15, i_push (.int (-1)) 16), (16, i_istore 3 17), (17, i_push (.int 0) 18), (18, i_istore 4 20), (20, i_iload 4 22), (22, i_push (.int 1) 23), (23, i_aload 0 24), (24, i_getT 8 0 27), (27, i_getI 7 6 30), (30, i_ii (fun x y => x <<< (y &&& 31)) 31), (31, i_ic_ge 76 34), (34, i_aload 0 35), (35, i_getT 8 0 38), (38, i_iload 4 40), (43, i_istore 5 45), (45, i_iload 3 46), (46, i_push (.int (-1)) 47), (47, i_ic_eq 56 50), (50, i_iload 5 52), (52, i_iload 3 53), (53, i_ic_ge 70 56), (56, i_aload 0 57), (57, i_iload 4 59), (59, i_iload 1 60), (60, i_iload 2 61), (64, i_if_eq 70 67), (67, i_iload 5 69), (69, i_istore 3 70), (70, i_iinc 4 1 73), (73, i_goto 20), (76, i_iload 3 77)]
set_option maxRecDepth 100000 in
theorem okX8_wax : gOk YX8_wax tX8_wax := ok_c (sn_aload_n (show decode cX8_wax 0 = .ok (.aload_n 0, 1) by decide +kernel) rfl) <|
  ok_c (sn_getT (j := 6) (fun _ _ => rfl) (sn_get ck_8 (by decide) (show decode cX8_wax 1 = .ok (.getfield 51, 3) by decide +kernel) wd_2_130)) <|
  ok_c (sn_iload_n (show decode cX8_wax 4 = .ok (.iload_n 1, 1) by decide +kernel) rfl) <|
  ok_c (sn_iload_n (show decode cX8_wax 5 = .ok (.iload_n 2, 1) by decide +kernel) rfl) <|
  ok_c (sn_if_ne (show decode cX8_wax 9 = .ok (.ifCond .ne 6, 3) by decide +kernel) (by decide)) <|
  ok_c (sn_bipush (v := (-2)) (show decode cX8_wax 12 = .ok (.bipush (-2), 2) by decide +kernel) (by decide +kernel)) <|
  ok_c (sn_iconst (v := (-1)) (show decode cX8_wax 15 = .ok (.iconst (-1), 1) by decide +kernel) (by decide +kernel)) <|
  ok_c (sn_istore_n (show decode cX8_wax 16 = .ok (.istore_n 3, 1) by decide +kernel) rfl (by decide)) <|
  ok_c (sn_iconst (v := 0) (show decode cX8_wax 17 = .ok (.iconst 0, 1) by decide +kernel) (by decide +kernel)) <|
  ok_c (sn_istore (show decode cX8_wax 18 = .ok (.istore 4, 2) by decide +kernel) (by decide)) <|
  ok_c (sn_iload (show decode cX8_wax 20 = .ok (.iload 4, 2) by decide +kernel)) <|
  ok_c (sn_iconst (v := 1) (show decode cX8_wax 22 = .ok (.iconst 1, 1) by decide +kernel) (by decide +kernel)) <|
  ok_c (sn_aload_n (show decode cX8_wax 23 = .ok (.aload_n 0, 1) by decide +kernel) rfl) <|
  ok_c (sn_getT (j := 6) (fun _ _ => rfl) (sn_get ck_8 (by decide) (show decode cX8_wax 24 = .ok (.getfield 51, 3) by decide +kernel) wd_2_130)) <|
  ok_c (sn_getI (fun _ _ => rfl) (sn_get ck_7 (by decide) (show decode cX8_wax 27 = .ok (.getfield 248, 3) by decide +kernel) wd_1_113)) <|
  ok_c (sn_ishl (show decode cX8_wax 30 = .ok (.ishl, 1) by decide +kernel)) <|
  ok_c (sn_ic_ge (show decode cX8_wax 31 = .ok (.if_icmp .ge 45, 3) by decide +kernel) (by decide)) <|
  ok_c (sn_aload_n (show decode cX8_wax 34 = .ok (.aload_n 0, 1) by decide +kernel) rfl) <|
  ok_c (sn_getT (j := 6) (fun _ _ => rfl) (sn_get ck_8 (by decide) (show decode cX8_wax 35 = .ok (.getfield 51, 3) by decide +kernel) wd_2_130)) <|
  ok_c (sn_iload (show decode cX8_wax 38 = .ok (.iload 4, 2) by decide +kernel)) <|
  ok_c (sn_istore (show decode cX8_wax 43 = .ok (.istore 5, 2) by decide +kernel) (by decide)) <|
  ok_c (sn_iload_n (show decode cX8_wax 45 = .ok (.iload_n 3, 1) by decide +kernel) rfl) <|
  ok_c (sn_iconst (v := (-1)) (show decode cX8_wax 46 = .ok (.iconst (-1), 1) by decide +kernel) (by decide +kernel)) <|
  ok_c (sn_ic_eq (show decode cX8_wax 47 = .ok (.if_icmp .eq 9, 3) by decide +kernel) (by decide)) <|
  ok_c (sn_iload (show decode cX8_wax 50 = .ok (.iload 5, 2) by decide +kernel)) <|
  ok_c (sn_iload_n (show decode cX8_wax 52 = .ok (.iload_n 3, 1) by decide +kernel) rfl) <|
  ok_c (sn_ic_ge (show decode cX8_wax 53 = .ok (.if_icmp .ge 17, 3) by decide +kernel) (by decide)) <|
  ok_c (sn_aload_n (show decode cX8_wax 56 = .ok (.aload_n 0, 1) by decide +kernel) rfl) <|
  ok_c (sn_iload (show decode cX8_wax 57 = .ok (.iload 4, 2) by decide +kernel)) <|
  ok_c (sn_iload_n (show decode cX8_wax 59 = .ok (.iload_n 1, 1) by decide +kernel) rfl) <|
  ok_c (sn_iload_n (show decode cX8_wax 60 = .ok (.iload_n 2, 1) by decide +kernel) rfl) <|
  ok_c (sn_if_eq (show decode cX8_wax 64 = .ok (.ifCond .eq 6, 3) by decide +kernel) (by decide)) <|
  ok_c (sn_iload (show decode cX8_wax 67 = .ok (.iload 5, 2) by decide +kernel)) <|
  ok_c (sn_istore_n (show decode cX8_wax 69 = .ok (.istore_n 3, 1) by decide +kernel) rfl (by decide)) <|
  ok_c (sn_iinc (show decode cX8_wax 70 = .ok (.iinc 4 1, 3) by decide +kernel) (by decide) (by decide +kernel)) <|
  ok_c (sn_goto (show decode cX8_wax 73 = .ok (.goto (-53), 3) by decide +kernel) (by decide)) <|
  ok_c (sn_iload_n (show decode cX8_wax 76 = .ok (.iload_n 3, 1) by decide +kernel) rfl) <|
  ok_n
def uX8_wax : gCT := [(6, YX7_hasPair, 3, some 7), (40, YX7_waxOf, 2, some 7), (61, YX8_cutsApart, 4, some 8)]
set_option maxRecDepth 100000 in
theorem ocX8_wax : gOkC YX8_wax uX8_wax := oc_c (gEdge_V cal_X7_hasPair ck_7 rfl (show decode cX8_wax 6 = .ok (.invokevirtual 124, 3) by decide +kernel) wd_3_187 wd_3_188 wd_3_189) <|
  oc_c (gEdge_V cal_X7_waxOf ck_7 rfl (show decode cX8_wax 40 = .ok (.invokevirtual 251, 3) by decide +kernel) wd_4_194 wd_4_195 wd_4_196) <|
  oc_c (gEdge_V cal_X8_cutsApart ck_8 rfl (show decode cX8_wax 61 = .ok (.invokevirtual 254, 3) by decide +kernel) wd_4_182 wd_4_184 wp_2_14) <|
  oc_n
theorem reX8_wax : ∀ pc ∈ [14, 77], decode cX8_wax pc = .ok (.ireturn, 1) := by decide +kernel
def tX8_guards : List (Nat × gStp) := [(0, i_aload 0 1), (1, i_getT 8 0 4), (4, i_iload 1 5), (8, i_if_ne 14 11), (11, i_push (.int (-2)) 13), (14, i_aload 0 15), (15, i_iload 1 16), (19, i_istore 2 20), (20, i_iload 2 21), (21, i_push (.int (-1)) 22), (22, i_ic_ne 29 25), (25, i_push (.int (-1)) 26), (26, i_goto 33), (29, i_iload 2 30)]
set_option maxRecDepth 100000 in
theorem okX8_guards : gOk YX8_guards tX8_guards := ok_c (sn_aload_n (show decode cX8_guards 0 = .ok (.aload_n 0, 1) by decide +kernel) rfl) <|
  ok_c (sn_getT (j := 6) (fun _ _ => rfl) (sn_get ck_8 (by decide) (show decode cX8_guards 1 = .ok (.getfield 51, 3) by decide +kernel) wd_2_130)) <|
  ok_c (sn_iload_n (show decode cX8_guards 4 = .ok (.iload_n 1, 1) by decide +kernel) rfl) <|
  ok_c (sn_if_ne (show decode cX8_guards 8 = .ok (.ifCond .ne 6, 3) by decide +kernel) (by decide)) <|
  ok_c (sn_bipush (v := (-2)) (show decode cX8_guards 11 = .ok (.bipush (-2), 2) by decide +kernel) (by decide +kernel)) <|
  ok_c (sn_aload_n (show decode cX8_guards 14 = .ok (.aload_n 0, 1) by decide +kernel) rfl) <|
  ok_c (sn_iload_n (show decode cX8_guards 15 = .ok (.iload_n 1, 1) by decide +kernel) rfl) <|
  ok_c (sn_istore_n (show decode cX8_guards 19 = .ok (.istore_n 2, 1) by decide +kernel) rfl (by decide)) <|
  ok_c (sn_iload_n (show decode cX8_guards 20 = .ok (.iload_n 2, 1) by decide +kernel) rfl) <|
  ok_c (sn_iconst (v := (-1)) (show decode cX8_guards 21 = .ok (.iconst (-1), 1) by decide +kernel) (by decide +kernel)) <|
  ok_c (sn_ic_ne (show decode cX8_guards 22 = .ok (.if_icmp .ne 7, 3) by decide +kernel) (by decide)) <|
  ok_c (sn_iconst (v := (-1)) (show decode cX8_guards 25 = .ok (.iconst (-1), 1) by decide +kernel) (by decide +kernel)) <|
  ok_c (sn_goto (show decode cX8_guards 26 = .ok (.goto 7, 3) by decide +kernel) (by decide)) <|
  ok_c (sn_iload_n (show decode cX8_guards 29 = .ok (.iload_n 2, 1) by decide +kernel) rfl) <|
  ok_n
def uX8_guards : gCT := [(5, YX7_hasPartner, 2, some 7), (16, YX8_fewestGuards, 2, some 8), (30, YJ6_bitCount_0f7a4, 1, none)]
set_option maxRecDepth 100000 in
theorem ocX8_guards : gOkC YX8_guards uX8_guards := oc_c (gEdge_V cal_X7_hasPartner ck_7 rfl (show decode cX8_guards 5 = .ok (.invokevirtual 83, 3) by decide +kernel) wd_3_74 wd_3_75 wd_3_76) <|
  oc_c (gEdge_V cal_X8_fewestGuards ck_8 rfl (show decode cX8_guards 16 = .ok (.invokevirtual 257, 3) by decide +kernel) wd_4_202 wd_4_204 wp_2_15) <|
  oc_c (gEdge_S cal_J6_bitCount_0f7a4 (show decode cX8_guards 30 = .ok (.invokestatic 153, 3) by decide +kernel) wd_4_7 wd_3_229) <|
  oc_n
theorem reX8_guards : ∀ pc ∈ [13, 33], decode cX8_guards pc = .ok (.ireturn, 1) := by decide +kernel
def tX8_guarded : List (Nat × gStp) := [(0, i_aload 0 1), (1, i_getT 8 0 4), (4, i_iload 1 5), (8, i_if_ne 14 11), (11, i_push (.int (-2)) 13), (14, i_aload 0 15), (15, i_iload 1 16)]
set_option maxRecDepth 100000 in
theorem okX8_guarded : gOk YX8_guarded tX8_guarded := ok_c (sn_aload_n (show decode cX8_guarded 0 = .ok (.aload_n 0, 1) by decide +kernel) rfl) <|
  ok_c (sn_getT (j := 6) (fun _ _ => rfl) (sn_get ck_8 (by decide) (show decode cX8_guarded 1 = .ok (.getfield 51, 3) by decide +kernel) wd_2_130)) <|
  ok_c (sn_iload_n (show decode cX8_guarded 4 = .ok (.iload_n 1, 1) by decide +kernel) rfl) <|
  ok_c (sn_if_ne (show decode cX8_guarded 8 = .ok (.ifCond .ne 6, 3) by decide +kernel) (by decide)) <|
  ok_c (sn_bipush (v := (-2)) (show decode cX8_guarded 11 = .ok (.bipush (-2), 2) by decide +kernel) (by decide +kernel)) <|
  ok_c (sn_aload_n (show decode cX8_guarded 14 = .ok (.aload_n 0, 1) by decide +kernel) rfl) <|
  ok_c (sn_iload_n (show decode cX8_guarded 15 = .ok (.iload_n 1, 1) by decide +kernel) rfl) <|
  ok_n
def uX8_guarded : gCT := [(5, YX7_hasPartner, 2, some 7), (16, YX8_fewestGuards, 2, some 8)]
set_option maxRecDepth 100000 in
theorem ocX8_guarded : gOkC YX8_guarded uX8_guarded := oc_c (gEdge_V cal_X7_hasPartner ck_7 rfl (show decode cX8_guarded 5 = .ok (.invokevirtual 83, 3) by decide +kernel) wd_3_74 wd_3_75 wd_3_76) <|
  oc_c (gEdge_V cal_X8_fewestGuards ck_8 rfl (show decode cX8_guarded 16 = .ok (.invokevirtual 257, 3) by decide +kernel) wd_4_202 wd_4_204 wp_2_15) <|
  oc_n
theorem reX8_guarded : ∀ pc ∈ [13, 19], decode cX8_guarded pc = .ok (.ireturn, 1) := by decide +kernel
def tX8_sneezer : List (Nat × gStp) := [(0, i_aload 0 1), (1, i_getT 8 0 4), (7, i_if_ne 13 10), (10, i_push (.int (-2)) 12), (13, i_push (.int (-1)) 14), (14, i_istore 1 15), (15, i_push (.int 0) 16), (16, i_istore 2 17), (17, i_push (.int 0) 18), (18, i_istore 3 19), (19, i_iload 3 20), (20, i_aload 0 21), (21, i_getT 8 0 24), (24, i_getI 7 5 27), (27, i_ic_ge 99 30), (30, i_aload 0 31), (31, i_getC 8 14 34), (37, i_aload 0 38), (38, i_getC 8 14 41), (41, i_push (.int 1) 42), (42, i_iload 3 43), (43, i_ii (fun x y => x <<< (y &&& 31)) 44), (44, i_putI 2 3 47), (47, i_aload 0 48), (48, i_getC 8 14 51), (51, i_aload 0 52), (52, i_getT 8 0 55), (55, i_aload 0 56), (56, i_getT 8 0 59), (59, i_getI 7 1 62), (65, i_aload 0 66), (66, i_getC 8 14 69), (69, i_getI 2 16 72), (75, i_istore 4 77), (77, i_iload 1 78), (78, i_push (.int (-1)) 79), (79, i_ic_eq 88 82), (82, i_iload 4 84), (84, i_iload 2 85), (85, i_ic_le 93 88), (88, i_iload 3 89), (89, i_istore 1 90), (90, i_iload 4 92), (92, i_istore 2 93), (93, i_iinc 3 1 96), (96, i_goto 19), (99, i_iload 1 100)]
set_option maxRecDepth 100000 in
theorem okX8_sneezer : gOk YX8_sneezer tX8_sneezer := ok_c (sn_aload_n (show decode cX8_sneezer 0 = .ok (.aload_n 0, 1) by decide +kernel) rfl) <|
  ok_c (sn_getT (j := 6) (fun _ _ => rfl) (sn_get ck_8 (by decide) (show decode cX8_sneezer 1 = .ok (.getfield 51, 3) by decide +kernel) wd_2_130)) <|
  ok_c (sn_if_ne (show decode cX8_sneezer 7 = .ok (.ifCond .ne 6, 3) by decide +kernel) (by decide)) <|
  ok_c (sn_bipush (v := (-2)) (show decode cX8_sneezer 10 = .ok (.bipush (-2), 2) by decide +kernel) (by decide +kernel)) <|
  ok_c (sn_iconst (v := (-1)) (show decode cX8_sneezer 13 = .ok (.iconst (-1), 1) by decide +kernel) (by decide +kernel)) <|
  ok_c (sn_istore_n (show decode cX8_sneezer 14 = .ok (.istore_n 1, 1) by decide +kernel) rfl (by decide)) <|
  ok_c (sn_iconst (v := 0) (show decode cX8_sneezer 15 = .ok (.iconst 0, 1) by decide +kernel) (by decide +kernel)) <|
  ok_c (sn_istore_n (show decode cX8_sneezer 16 = .ok (.istore_n 2, 1) by decide +kernel) rfl (by decide)) <|
  ok_c (sn_iconst (v := 0) (show decode cX8_sneezer 17 = .ok (.iconst 0, 1) by decide +kernel) (by decide +kernel)) <|
  ok_c (sn_istore_n (show decode cX8_sneezer 18 = .ok (.istore_n 3, 1) by decide +kernel) rfl (by decide)) <|
  ok_c (sn_iload_n (show decode cX8_sneezer 19 = .ok (.iload_n 3, 1) by decide +kernel) rfl) <|
  ok_c (sn_aload_n (show decode cX8_sneezer 20 = .ok (.aload_n 0, 1) by decide +kernel) rfl) <|
  ok_c (sn_getT (j := 6) (fun _ _ => rfl) (sn_get ck_8 (by decide) (show decode cX8_sneezer 21 = .ok (.getfield 51, 3) by decide +kernel) wd_2_130)) <|
  ok_c (sn_getI (fun _ _ => rfl) (sn_get ck_7 (by decide) (show decode cX8_sneezer 24 = .ok (.getfield 150, 3) by decide +kernel) wd_1_108)) <|
  ok_c (sn_ic_ge (show decode cX8_sneezer 27 = .ok (.if_icmp .ge 72, 3) by decide +kernel) (by decide)) <|
  ok_c (sn_aload_n (show decode cX8_sneezer 30 = .ok (.aload_n 0, 1) by decide +kernel) rfl) <|
  ok_c (sn_getC (j := 3) (fun _ _ => rfl) (sn_get ck_8 (by decide) (show decode cX8_sneezer 31 = .ok (.getfield 33, 3) by decide +kernel) wd_2_127)) <|
  ok_c (sn_aload_n (show decode cX8_sneezer 37 = .ok (.aload_n 0, 1) by decide +kernel) rfl) <|
  ok_c (sn_getC (j := 3) (fun _ _ => rfl) (sn_get ck_8 (by decide) (show decode cX8_sneezer 38 = .ok (.getfield 33, 3) by decide +kernel) wd_2_127)) <|
  ok_c (sn_iconst (v := 1) (show decode cX8_sneezer 41 = .ok (.iconst 1, 1) by decide +kernel) (by decide +kernel)) <|
  ok_c (sn_iload_n (show decode cX8_sneezer 42 = .ok (.iload_n 3, 1) by decide +kernel) rfl) <|
  ok_c (sn_ishl (show decode cX8_sneezer 43 = .ok (.ishl, 1) by decide +kernel)) <|
  ok_c (sn_putI ck_2 (by decide) rfl rfl (show decode cX8_sneezer 44 = .ok (.putfield 263, 3) by decide +kernel) wd_2_31) <|
  ok_c (sn_aload_n (show decode cX8_sneezer 47 = .ok (.aload_n 0, 1) by decide +kernel) rfl) <|
  ok_c (sn_getC (j := 3) (fun _ _ => rfl) (sn_get ck_8 (by decide) (show decode cX8_sneezer 48 = .ok (.getfield 33, 3) by decide +kernel) wd_2_127)) <|
  ok_c (sn_aload_n (show decode cX8_sneezer 51 = .ok (.aload_n 0, 1) by decide +kernel) rfl) <|
  ok_c (sn_getT (j := 6) (fun _ _ => rfl) (sn_get ck_8 (by decide) (show decode cX8_sneezer 52 = .ok (.getfield 51, 3) by decide +kernel) wd_2_130)) <|
  ok_c (sn_aload_n (show decode cX8_sneezer 55 = .ok (.aload_n 0, 1) by decide +kernel) rfl) <|
  ok_c (sn_getT (j := 6) (fun _ _ => rfl) (sn_get ck_8 (by decide) (show decode cX8_sneezer 56 = .ok (.getfield 51, 3) by decide +kernel) wd_2_130)) <|
  ok_c (sn_getI (fun _ _ => rfl) (sn_get ck_7 (by decide) (show decode cX8_sneezer 59 = .ok (.getfield 184, 3) by decide +kernel) wd_1_90)) <|
  ok_c (sn_aload_n (show decode cX8_sneezer 65 = .ok (.aload_n 0, 1) by decide +kernel) rfl) <|
  ok_c (sn_getC (j := 3) (fun _ _ => rfl) (sn_get ck_8 (by decide) (show decode cX8_sneezer 66 = .ok (.getfield 33, 3) by decide +kernel) wd_2_127)) <|
  ok_c (sn_getI (fun _ _ => rfl) (sn_get ck_2 (by decide) (show decode cX8_sneezer 69 = .ok (.getfield 269, 3) by decide +kernel) wd_2_51)) <|
  ok_c (sn_istore (show decode cX8_sneezer 75 = .ok (.istore 4, 2) by decide +kernel) (by decide)) <|
  ok_c (sn_iload_n (show decode cX8_sneezer 77 = .ok (.iload_n 1, 1) by decide +kernel) rfl) <|
  ok_c (sn_iconst (v := (-1)) (show decode cX8_sneezer 78 = .ok (.iconst (-1), 1) by decide +kernel) (by decide +kernel)) <|
  ok_c (sn_ic_eq (show decode cX8_sneezer 79 = .ok (.if_icmp .eq 9, 3) by decide +kernel) (by decide)) <|
  ok_c (sn_iload (show decode cX8_sneezer 82 = .ok (.iload 4, 2) by decide +kernel)) <|
  ok_c (sn_iload_n (show decode cX8_sneezer 84 = .ok (.iload_n 2, 1) by decide +kernel) rfl) <|
  ok_c (sn_ic_le (show decode cX8_sneezer 85 = .ok (.if_icmp .le 8, 3) by decide +kernel) (by decide)) <|
  ok_c (sn_iload_n (show decode cX8_sneezer 88 = .ok (.iload_n 3, 1) by decide +kernel) rfl) <|
  ok_c (sn_istore_n (show decode cX8_sneezer 89 = .ok (.istore_n 1, 1) by decide +kernel) rfl (by decide)) <|
  ok_c (sn_iload (show decode cX8_sneezer 90 = .ok (.iload 4, 2) by decide +kernel)) <|
  ok_c (sn_istore_n (show decode cX8_sneezer 92 = .ok (.istore_n 2, 1) by decide +kernel) rfl (by decide)) <|
  ok_c (sn_iinc (show decode cX8_sneezer 93 = .ok (.iinc 3 1, 3) by decide +kernel) (by decide) (by decide +kernel)) <|
  ok_c (sn_goto (show decode cX8_sneezer 96 = .ok (.goto (-77), 3) by decide +kernel) (by decide)) <|
  ok_c (sn_iload_n (show decode cX8_sneezer 99 = .ok (.iload_n 1, 1) by decide +kernel) rfl) <|
  ok_n
def uX8_sneezer : gCT := [(4, YX7_isTold, 1, some 7), (34, YX2_supposeNothing, 1, some 2), (62, YX2_live, 3, some 2), (72, YJ6_bitCount_0f7a4, 1, none)]
set_option maxRecDepth 100000 in
theorem ocX8_sneezer : gOkC YX8_sneezer uX8_sneezer := oc_c (gEdge_V cal_X7_isTold ck_7 rfl (show decode cX8_sneezer 4 = .ok (.invokevirtual 190, 3) by decide +kernel) wd_4_59 wd_4_60 wd_4_61) <|
  oc_c (gEdge_V cal_X2_supposeNothing ck_2 rfl (show decode cX8_sneezer 34 = .ok (.invokevirtual 260, 3) by decide +kernel) wd_3_106 wd_3_107 wd_3_108) <|
  oc_c (gEdge_V cal_X2_live ck_2 rfl (show decode cX8_sneezer 62 = .ok (.invokevirtual 266, 3) by decide +kernel) wd_3_110 wd_3_111 wd_3_112) <|
  oc_c (gEdge_S cal_J6_bitCount_0f7a4 (show decode cX8_sneezer 72 = .ok (.invokestatic 153, 3) by decide +kernel) wd_4_7 wd_3_229) <|
  oc_n
theorem reX8_sneezer : ∀ pc ∈ [12, 100], decode cX8_sneezer pc = .ok (.ireturn, 1) := by decide +kernel
def tX8_trues : List (Nat × gStp) := [(0, i_aload 0 1), (1, i_iload 1 2), (5, i_istore 2 6), (6, i_iload 2 7), (7, i_if_eq 14 10), (10, i_iload 2 11), (11, i_goto 21), (14, i_aload 0 15), (15, i_getC 8 64 18), (18, i_getI 3 0 21)]
set_option maxRecDepth 100000 in
theorem okX8_trues : gOk YX8_trues tX8_trues := ok_c (sn_aload_n (show decode cX8_trues 0 = .ok (.aload_n 0, 1) by decide +kernel) rfl) <|
  ok_c (sn_iload_n (show decode cX8_trues 1 = .ok (.iload_n 1, 1) by decide +kernel) rfl) <|
  ok_c (sn_istore_n (show decode cX8_trues 5 = .ok (.istore_n 2, 1) by decide +kernel) rfl (by decide)) <|
  ok_c (sn_iload_n (show decode cX8_trues 6 = .ok (.iload_n 2, 1) by decide +kernel) rfl) <|
  ok_c (sn_if_eq (show decode cX8_trues 7 = .ok (.ifCond .eq 7, 3) by decide +kernel) (by decide)) <|
  ok_c (sn_iload_n (show decode cX8_trues 10 = .ok (.iload_n 2, 1) by decide +kernel) rfl) <|
  ok_c (sn_goto (show decode cX8_trues 11 = .ok (.goto 10, 3) by decide +kernel) (by decide)) <|
  ok_c (sn_aload_n (show decode cX8_trues 14 = .ok (.aload_n 0, 1) by decide +kernel) rfl) <|
  ok_c (sn_getC (j := 5) (fun _ _ => rfl) (sn_get ck_8 (by decide) (show decode cX8_trues 15 = .ok (.getfield 47, 3) by decide +kernel) wd_2_129)) <|
  ok_c (sn_getI (fun _ _ => rfl) (sn_get ck_3 (by decide) (show decode cX8_trues 18 = .ok (.getfield 275, 3) by decide +kernel) wd_2_109)) <|
  ok_n
def uX8_trues : gCT := [(2, YX8_chew, 2, some 8)]
set_option maxRecDepth 100000 in
theorem ocX8_trues : gOkC YX8_trues uX8_trues := oc_c (gEdge_V cal_X8_chew ck_8 rfl (show decode cX8_trues 2 = .ok (.invokevirtual 272, 3) by decide +kernel) wd_4_222 wd_4_224 wp_3_1) <|
  oc_n
theorem reX8_trues : ∀ pc ∈ [21], decode cX8_trues pc = .ok (.ireturn, 1) := by decide +kernel
def tX8_surely : List (Nat × gStp) := [(0, i_aload 0 1), (1, i_iload 1 2), (5, i_istore 2 6), (6, i_iload 2 7), (7, i_if_eq 12 10), (10, i_iload 2 11), (12, i_aload 0 13), (13, i_getC 8 64 16), (16, i_getI 3 0 19), (19, i_if_ne 26 22), (22, i_push (.int (-1)) 23), (23, i_goto 33), (26, i_aload 0 27), (27, i_getC 8 64 30), (30, i_getI 3 1 33)]
set_option maxRecDepth 100000 in
theorem okX8_surely : gOk YX8_surely tX8_surely := ok_c (sn_aload_n (show decode cX8_surely 0 = .ok (.aload_n 0, 1) by decide +kernel) rfl) <|
  ok_c (sn_iload_n (show decode cX8_surely 1 = .ok (.iload_n 1, 1) by decide +kernel) rfl) <|
  ok_c (sn_istore_n (show decode cX8_surely 5 = .ok (.istore_n 2, 1) by decide +kernel) rfl (by decide)) <|
  ok_c (sn_iload_n (show decode cX8_surely 6 = .ok (.iload_n 2, 1) by decide +kernel) rfl) <|
  ok_c (sn_if_eq (show decode cX8_surely 7 = .ok (.ifCond .eq 5, 3) by decide +kernel) (by decide)) <|
  ok_c (sn_iload_n (show decode cX8_surely 10 = .ok (.iload_n 2, 1) by decide +kernel) rfl) <|
  ok_c (sn_aload_n (show decode cX8_surely 12 = .ok (.aload_n 0, 1) by decide +kernel) rfl) <|
  ok_c (sn_getC (j := 5) (fun _ _ => rfl) (sn_get ck_8 (by decide) (show decode cX8_surely 13 = .ok (.getfield 47, 3) by decide +kernel) wd_2_129)) <|
  ok_c (sn_getI (fun _ _ => rfl) (sn_get ck_3 (by decide) (show decode cX8_surely 16 = .ok (.getfield 275, 3) by decide +kernel) wd_2_109)) <|
  ok_c (sn_if_ne (show decode cX8_surely 19 = .ok (.ifCond .ne 7, 3) by decide +kernel) (by decide)) <|
  ok_c (sn_iconst (v := (-1)) (show decode cX8_surely 22 = .ok (.iconst (-1), 1) by decide +kernel) (by decide +kernel)) <|
  ok_c (sn_goto (show decode cX8_surely 23 = .ok (.goto 10, 3) by decide +kernel) (by decide)) <|
  ok_c (sn_aload_n (show decode cX8_surely 26 = .ok (.aload_n 0, 1) by decide +kernel) rfl) <|
  ok_c (sn_getC (j := 5) (fun _ _ => rfl) (sn_get ck_8 (by decide) (show decode cX8_surely 27 = .ok (.getfield 47, 3) by decide +kernel) wd_2_129)) <|
  ok_c (sn_getI (fun _ _ => rfl) (sn_get ck_3 (by decide) (show decode cX8_surely 30 = .ok (.getfield 278, 3) by decide +kernel) wd_2_111)) <|
  ok_n
def uX8_surely : gCT := [(2, YX8_chew, 2, some 8)]
set_option maxRecDepth 100000 in
theorem ocX8_surely : gOkC YX8_surely uX8_surely := oc_c (gEdge_V cal_X8_chew ck_8 rfl (show decode cX8_surely 2 = .ok (.invokevirtual 272, 3) by decide +kernel) wd_4_222 wd_4_224 wp_3_1) <|
  oc_n
theorem reX8_surely : ∀ pc ∈ [11, 33], decode cX8_surely pc = .ok (.ireturn, 1) := by decide +kernel
def tX8_never : List (Nat × gStp) := [(0, i_aload 0 1), (1, i_iload 1 2), (5, i_istore 2 6), (6, i_iload 2 7), (7, i_if_eq 12 10), (10, i_iload 2 11), (12, i_aload 0 13), (13, i_getC 8 64 16), (16, i_getI 3 0 19), (19, i_if_ne 26 22), (22, i_push (.int (-1)) 23), (23, i_goto 46), (26, i_aload 0 27), (27, i_getT 8 0 30), (30, i_getI 7 6 33), (36, i_aload 0 37), (37, i_getC 8 64 40), (40, i_getI 3 2 43), (43, i_push (.int (-1)) 44), (44, i_ii (fun x y => x ^^^ y) 45), (45, i_ii (fun x y => x &&& y) 46)]
set_option maxRecDepth 100000 in
theorem okX8_never : gOk YX8_never tX8_never := ok_c (sn_aload_n (show decode cX8_never 0 = .ok (.aload_n 0, 1) by decide +kernel) rfl) <|
  ok_c (sn_iload_n (show decode cX8_never 1 = .ok (.iload_n 1, 1) by decide +kernel) rfl) <|
  ok_c (sn_istore_n (show decode cX8_never 5 = .ok (.istore_n 2, 1) by decide +kernel) rfl (by decide)) <|
  ok_c (sn_iload_n (show decode cX8_never 6 = .ok (.iload_n 2, 1) by decide +kernel) rfl) <|
  ok_c (sn_if_eq (show decode cX8_never 7 = .ok (.ifCond .eq 5, 3) by decide +kernel) (by decide)) <|
  ok_c (sn_iload_n (show decode cX8_never 10 = .ok (.iload_n 2, 1) by decide +kernel) rfl) <|
  ok_c (sn_aload_n (show decode cX8_never 12 = .ok (.aload_n 0, 1) by decide +kernel) rfl) <|
  ok_c (sn_getC (j := 5) (fun _ _ => rfl) (sn_get ck_8 (by decide) (show decode cX8_never 13 = .ok (.getfield 47, 3) by decide +kernel) wd_2_129)) <|
  ok_c (sn_getI (fun _ _ => rfl) (sn_get ck_3 (by decide) (show decode cX8_never 16 = .ok (.getfield 275, 3) by decide +kernel) wd_2_109)) <|
  ok_c (sn_if_ne (show decode cX8_never 19 = .ok (.ifCond .ne 7, 3) by decide +kernel) (by decide)) <|
  ok_c (sn_iconst (v := (-1)) (show decode cX8_never 22 = .ok (.iconst (-1), 1) by decide +kernel) (by decide +kernel)) <|
  ok_c (sn_goto (show decode cX8_never 23 = .ok (.goto 23, 3) by decide +kernel) (by decide)) <|
  ok_c (sn_aload_n (show decode cX8_never 26 = .ok (.aload_n 0, 1) by decide +kernel) rfl) <|
  ok_c (sn_getT (j := 6) (fun _ _ => rfl) (sn_get ck_8 (by decide) (show decode cX8_never 27 = .ok (.getfield 51, 3) by decide +kernel) wd_2_130)) <|
  ok_c (sn_getI (fun _ _ => rfl) (sn_get ck_7 (by decide) (show decode cX8_never 30 = .ok (.getfield 248, 3) by decide +kernel) wd_1_113)) <|
  ok_c (sn_aload_n (show decode cX8_never 36 = .ok (.aload_n 0, 1) by decide +kernel) rfl) <|
  ok_c (sn_getC (j := 5) (fun _ _ => rfl) (sn_get ck_8 (by decide) (show decode cX8_never 37 = .ok (.getfield 47, 3) by decide +kernel) wd_2_129)) <|
  ok_c (sn_getI (fun _ _ => rfl) (sn_get ck_3 (by decide) (show decode cX8_never 40 = .ok (.getfield 281, 3) by decide +kernel) wd_2_113)) <|
  ok_c (sn_iconst (v := (-1)) (show decode cX8_never 43 = .ok (.iconst (-1), 1) by decide +kernel) (by decide +kernel)) <|
  ok_c (sn_ixor (show decode cX8_never 44 = .ok (.ixor, 1) by decide +kernel)) <|
  ok_c (sn_iand (show decode cX8_never 45 = .ok (.iand, 1) by decide +kernel)) <|
  ok_n
def uX8_never : gCT := [(2, YX8_chew, 2, some 8), (33, YX8_allOf, 1, none)]
set_option maxRecDepth 100000 in
theorem ocX8_never : gOkC YX8_never uX8_never := oc_c (gEdge_V cal_X8_chew ck_8 rfl (show decode cX8_never 2 = .ok (.invokevirtual 272, 3) by decide +kernel) wd_4_222 wd_4_224 wp_3_1) <|
  oc_c (gEdge_S cal_X8_allOf (show decode cX8_never 33 = .ok (.invokestatic 193, 3) by decide +kernel) wd_4_63 wd_3_169) <|
  oc_n
theorem reX8_never : ∀ pc ∈ [11, 46], decode cX8_never pc = .ok (.ireturn, 1) := by decide +kernel
def tX8_ask : List (Nat × gStp) := [(0, i_aload 0 1), (1, i_iload 1 2), (5, i_istore 2 6), (6, i_iload 2 7), (7, i_if_eq 14 10), (10, i_iload 2 11), (11, i_goto 25), (14, i_aload 0 15), (15, i_getC 8 64 18), (18, i_aload 0 19), (19, i_getT 8 0 22)]
set_option maxRecDepth 100000 in
theorem okX8_ask : gOk YX8_ask tX8_ask := ok_c (sn_aload_n (show decode cX8_ask 0 = .ok (.aload_n 0, 1) by decide +kernel) rfl) <|
  ok_c (sn_iload_n (show decode cX8_ask 1 = .ok (.iload_n 1, 1) by decide +kernel) rfl) <|
  ok_c (sn_istore_n (show decode cX8_ask 5 = .ok (.istore_n 2, 1) by decide +kernel) rfl (by decide)) <|
  ok_c (sn_iload_n (show decode cX8_ask 6 = .ok (.iload_n 2, 1) by decide +kernel) rfl) <|
  ok_c (sn_if_eq (show decode cX8_ask 7 = .ok (.ifCond .eq 7, 3) by decide +kernel) (by decide)) <|
  ok_c (sn_iload_n (show decode cX8_ask 10 = .ok (.iload_n 2, 1) by decide +kernel) rfl) <|
  ok_c (sn_goto (show decode cX8_ask 11 = .ok (.goto 14, 3) by decide +kernel) (by decide)) <|
  ok_c (sn_aload_n (show decode cX8_ask 14 = .ok (.aload_n 0, 1) by decide +kernel) rfl) <|
  ok_c (sn_getC (j := 5) (fun _ _ => rfl) (sn_get ck_8 (by decide) (show decode cX8_ask 15 = .ok (.getfield 47, 3) by decide +kernel) wd_2_129)) <|
  ok_c (sn_aload_n (show decode cX8_ask 18 = .ok (.aload_n 0, 1) by decide +kernel) rfl) <|
  ok_c (sn_getT (j := 6) (fun _ _ => rfl) (sn_get ck_8 (by decide) (show decode cX8_ask 19 = .ok (.getfield 51, 3) by decide +kernel) wd_2_130)) <|
  ok_n
def uX8_ask : gCT := [(2, YX8_chew, 2, some 8), (22, YX3_bestQuestion, 2, some 3)]
set_option maxRecDepth 100000 in
theorem ocX8_ask : gOkC YX8_ask uX8_ask := oc_c (gEdge_V cal_X8_chew ck_8 rfl (show decode cX8_ask 2 = .ok (.invokevirtual 272, 3) by decide +kernel) wd_4_222 wd_4_224 wp_3_1) <|
  oc_c (gEdge_V cal_X3_bestQuestion ck_3 rfl (show decode cX8_ask 22 = .ok (.invokevirtual 284, 3) by decide +kernel) wd_5_26 wd_5_27 wd_5_28) <|
  oc_n
theorem reX8_ask : ∀ pc ∈ [25], decode cX8_ask pc = .ok (.ireturn, 1) := by decide +kernel
def tX8_leaves : List (Nat × gStp) := [(0, i_aload 0 1), (1, i_iload 1 2), (5, i_istore 2 6), (6, i_iload 2 7), (7, i_if_eq 14 10), (10, i_iload 2 11), (11, i_goto 32), (14, i_aload 0 15), (15, i_getC 8 64 18), (18, i_aload 0 19), (19, i_getC 8 64 22), (22, i_aload 0 23), (23, i_getT 8 0 26)]
set_option maxRecDepth 100000 in
theorem okX8_leaves : gOk YX8_leaves tX8_leaves := ok_c (sn_aload_n (show decode cX8_leaves 0 = .ok (.aload_n 0, 1) by decide +kernel) rfl) <|
  ok_c (sn_iload_n (show decode cX8_leaves 1 = .ok (.iload_n 1, 1) by decide +kernel) rfl) <|
  ok_c (sn_istore_n (show decode cX8_leaves 5 = .ok (.istore_n 2, 1) by decide +kernel) rfl (by decide)) <|
  ok_c (sn_iload_n (show decode cX8_leaves 6 = .ok (.iload_n 2, 1) by decide +kernel) rfl) <|
  ok_c (sn_if_eq (show decode cX8_leaves 7 = .ok (.ifCond .eq 7, 3) by decide +kernel) (by decide)) <|
  ok_c (sn_iload_n (show decode cX8_leaves 10 = .ok (.iload_n 2, 1) by decide +kernel) rfl) <|
  ok_c (sn_goto (show decode cX8_leaves 11 = .ok (.goto 21, 3) by decide +kernel) (by decide)) <|
  ok_c (sn_aload_n (show decode cX8_leaves 14 = .ok (.aload_n 0, 1) by decide +kernel) rfl) <|
  ok_c (sn_getC (j := 5) (fun _ _ => rfl) (sn_get ck_8 (by decide) (show decode cX8_leaves 15 = .ok (.getfield 47, 3) by decide +kernel) wd_2_129)) <|
  ok_c (sn_aload_n (show decode cX8_leaves 18 = .ok (.aload_n 0, 1) by decide +kernel) rfl) <|
  ok_c (sn_getC (j := 5) (fun _ _ => rfl) (sn_get ck_8 (by decide) (show decode cX8_leaves 19 = .ok (.getfield 47, 3) by decide +kernel) wd_2_129)) <|
  ok_c (sn_aload_n (show decode cX8_leaves 22 = .ok (.aload_n 0, 1) by decide +kernel) rfl) <|
  ok_c (sn_getT (j := 6) (fun _ _ => rfl) (sn_get ck_8 (by decide) (show decode cX8_leaves 23 = .ok (.getfield 51, 3) by decide +kernel) wd_2_130)) <|
  ok_n
def uX8_leaves : gCT := [(2, YX8_chew, 2, some 8), (26, YX3_bestQuestion, 2, some 3), (29, YX3_leftAtWorst, 2, some 3)]
set_option maxRecDepth 100000 in
theorem ocX8_leaves : gOkC YX8_leaves uX8_leaves := oc_c (gEdge_V cal_X8_chew ck_8 rfl (show decode cX8_leaves 2 = .ok (.invokevirtual 272, 3) by decide +kernel) wd_4_222 wd_4_224 wp_3_1) <|
  oc_c (gEdge_V cal_X3_bestQuestion ck_3 rfl (show decode cX8_leaves 26 = .ok (.invokevirtual 284, 3) by decide +kernel) wd_5_26 wd_5_27 wd_5_28) <|
  oc_c (gEdge_V cal_X3_leftAtWorst ck_3 rfl (show decode cX8_leaves 29 = .ok (.invokevirtual 288, 3) by decide +kernel) wd_5_39 wd_5_31 wd_5_32) <|
  oc_n
theorem reX8_leaves : ∀ pc ∈ [32], decode cX8_leaves pc = .ok (.ireturn, 1) := by decide +kernel
def tX8_laws : List (Nat × gStp) := [(0, i_aload 0 1), (1, i_iload 1 2), (5, i_astore 2 6), (6, i_aload 0 7), (7, i_aload 2 8), (11, i_istore 3 12), (12, i_aload 2 13), (13, i_ifnull 20 16), (16, i_iload 3 17), (17, i_if_eq 22 20), (20, i_iload 3 21), (22, i_aload 0 23), (23, i_getC 8 14 26), (29, i_aload 0 30), (30, i_getC 8 14 33), (33, i_push (.int 1) 34), (34, i_putZ 2 1 37), (37, i_aload 0 38), (38, i_getC 8 14 41), (41, i_aload 0 42), (42, i_getT 8 0 45), (45, i_push (.int 1) 46), (49, i_push (.int 0) 50), (50, i_istore 4 52), (52, i_push (.int 0) 53), (53, i_istore 5 55), (55, i_iload 5 57), (57, i_push (.int 4) 58), (58, i_ic_ge 93 61), (61, i_aload 0 62), (62, i_getT 8 0 65), (65, i_aload 0 66), (66, i_getC 8 14 69), (69, i_aload 2 70), (70, i_iload 5 72), (75, i_if_eq 87 78), (78, i_iload 4 80), (80, i_push (.int 1) 81), (81, i_iload 5 83), (83, i_ii (fun x y => x <<< (y &&& 31)) 84), (84, i_ii (fun x y => x ||| y) 85), (85, i_istore 4 87), (87, i_iinc 5 1 90), (90, i_goto 55), (93, i_iload 4 95)]
set_option maxRecDepth 100000 in
theorem okX8_laws : gOk YX8_laws tX8_laws := ok_c (sn_aload_n (show decode cX8_laws 0 = .ok (.aload_n 0, 1) by decide +kernel) rfl) <|
  ok_c (sn_iload_n (show decode cX8_laws 1 = .ok (.iload_n 1, 1) by decide +kernel) rfl) <|
  ok_c (sn_astore_n (show decode cX8_laws 5 = .ok (.astore_n 2, 1) by decide +kernel) rfl (by decide)) <|
  ok_c (sn_aload_n (show decode cX8_laws 6 = .ok (.aload_n 0, 1) by decide +kernel) rfl) <|
  ok_c (sn_aload_n (show decode cX8_laws 7 = .ok (.aload_n 2, 1) by decide +kernel) rfl) <|
  ok_c (sn_istore_n (show decode cX8_laws 11 = .ok (.istore_n 3, 1) by decide +kernel) rfl (by decide)) <|
  ok_c (sn_aload_n (show decode cX8_laws 12 = .ok (.aload_n 2, 1) by decide +kernel) rfl) <|
  ok_c (sn_ifnull (show decode cX8_laws 13 = .ok (.ifnull 7, 3) by decide +kernel) (by decide)) <|
  ok_c (sn_iload_n (show decode cX8_laws 16 = .ok (.iload_n 3, 1) by decide +kernel) rfl) <|
  ok_c (sn_if_eq (show decode cX8_laws 17 = .ok (.ifCond .eq 5, 3) by decide +kernel) (by decide)) <|
  ok_c (sn_iload_n (show decode cX8_laws 20 = .ok (.iload_n 3, 1) by decide +kernel) rfl) <|
  ok_c (sn_aload_n (show decode cX8_laws 22 = .ok (.aload_n 0, 1) by decide +kernel) rfl) <|
  ok_c (sn_getC (j := 3) (fun _ _ => rfl) (sn_get ck_8 (by decide) (show decode cX8_laws 23 = .ok (.getfield 33, 3) by decide +kernel) wd_2_127)) <|
  ok_c (sn_aload_n (show decode cX8_laws 29 = .ok (.aload_n 0, 1) by decide +kernel) rfl) <|
  ok_c (sn_getC (j := 3) (fun _ _ => rfl) (sn_get ck_8 (by decide) (show decode cX8_laws 30 = .ok (.getfield 33, 3) by decide +kernel) wd_2_127)) <|
  ok_c (sn_iconst (v := 1) (show decode cX8_laws 33 = .ok (.iconst 1, 1) by decide +kernel) (by decide +kernel)) <|
  ok_c (sn_putZ ck_2 (by decide) rfl rfl (show decode cX8_laws 34 = .ok (.putfield 295, 3) by decide +kernel) wd_2_27) <|
  ok_c (sn_aload_n (show decode cX8_laws 37 = .ok (.aload_n 0, 1) by decide +kernel) rfl) <|
  ok_c (sn_getC (j := 3) (fun _ _ => rfl) (sn_get ck_8 (by decide) (show decode cX8_laws 38 = .ok (.getfield 33, 3) by decide +kernel) wd_2_127)) <|
  ok_c (sn_aload_n (show decode cX8_laws 41 = .ok (.aload_n 0, 1) by decide +kernel) rfl) <|
  ok_c (sn_getT (j := 6) (fun _ _ => rfl) (sn_get ck_8 (by decide) (show decode cX8_laws 42 = .ok (.getfield 51, 3) by decide +kernel) wd_2_130)) <|
  ok_c (sn_iconst (v := 1) (show decode cX8_laws 45 = .ok (.iconst 1, 1) by decide +kernel) (by decide +kernel)) <|
  ok_c (sn_iconst (v := 0) (show decode cX8_laws 49 = .ok (.iconst 0, 1) by decide +kernel) (by decide +kernel)) <|
  ok_c (sn_istore (show decode cX8_laws 50 = .ok (.istore 4, 2) by decide +kernel) (by decide)) <|
  ok_c (sn_iconst (v := 0) (show decode cX8_laws 52 = .ok (.iconst 0, 1) by decide +kernel) (by decide +kernel)) <|
  ok_c (sn_istore (show decode cX8_laws 53 = .ok (.istore 5, 2) by decide +kernel) (by decide)) <|
  ok_c (sn_iload (show decode cX8_laws 55 = .ok (.iload 5, 2) by decide +kernel)) <|
  ok_c (sn_iconst (v := 4) (show decode cX8_laws 57 = .ok (.iconst 4, 1) by decide +kernel) (by decide +kernel)) <|
  ok_c (sn_ic_ge (show decode cX8_laws 58 = .ok (.if_icmp .ge 35, 3) by decide +kernel) (by decide)) <|
  ok_c (sn_aload_n (show decode cX8_laws 61 = .ok (.aload_n 0, 1) by decide +kernel) rfl) <|
  ok_c (sn_getT (j := 6) (fun _ _ => rfl) (sn_get ck_8 (by decide) (show decode cX8_laws 62 = .ok (.getfield 51, 3) by decide +kernel) wd_2_130)) <|
  ok_c (sn_aload_n (show decode cX8_laws 65 = .ok (.aload_n 0, 1) by decide +kernel) rfl) <|
  ok_c (sn_getC (j := 3) (fun _ _ => rfl) (sn_get ck_8 (by decide) (show decode cX8_laws 66 = .ok (.getfield 33, 3) by decide +kernel) wd_2_127)) <|
  ok_c (sn_aload_n (show decode cX8_laws 69 = .ok (.aload_n 2, 1) by decide +kernel) rfl) <|
  ok_c (sn_iload (show decode cX8_laws 70 = .ok (.iload 5, 2) by decide +kernel)) <|
  ok_c (sn_if_eq (show decode cX8_laws 75 = .ok (.ifCond .eq 12, 3) by decide +kernel) (by decide)) <|
  ok_c (sn_iload (show decode cX8_laws 78 = .ok (.iload 4, 2) by decide +kernel)) <|
  ok_c (sn_iconst (v := 1) (show decode cX8_laws 80 = .ok (.iconst 1, 1) by decide +kernel) (by decide +kernel)) <|
  ok_c (sn_iload (show decode cX8_laws 81 = .ok (.iload 5, 2) by decide +kernel)) <|
  ok_c (sn_ishl (show decode cX8_laws 83 = .ok (.ishl, 1) by decide +kernel)) <|
  ok_c (sn_ior (show decode cX8_laws 84 = .ok (.ior, 1) by decide +kernel)) <|
  ok_c (sn_istore (show decode cX8_laws 85 = .ok (.istore 4, 2) by decide +kernel) (by decide)) <|
  ok_c (sn_iinc (show decode cX8_laws 87 = .ok (.iinc 5 1, 3) by decide +kernel) (by decide) (by decide +kernel)) <|
  ok_c (sn_goto (show decode cX8_laws 90 = .ok (.goto (-35), 3) by decide +kernel) (by decide)) <|
  ok_c (sn_iload (show decode cX8_laws 93 = .ok (.iload 4, 2) by decide +kernel)) <|
  ok_n
def uX8_laws : gCT := [(2, YX8_slotAt, 2, some 8), (8, YX8_refusalOfSightings, 2, some 8), (26, YX2_supposeNothing, 1, some 2), (46, YX2_live, 3, some 2), (72, YX3_agrees, 4, none)]
set_option maxRecDepth 100000 in
theorem ocX8_laws : gOkC YX8_laws uX8_laws := oc_c (gEdge_V cal_X8_slotAt ck_8 rfl (show decode cX8_laws 2 = .ok (.invokevirtual 226, 3) by decide +kernel) wd_4_144 wd_4_146 wp_2_11) <|
  oc_c (gEdge_V cal_X8_refusalOfSightings ck_8 rfl (show decode cX8_laws 8 = .ok (.invokevirtual 291, 3) by decide +kernel) wd_4_226 wd_4_228 wp_3_2) <|
  oc_c (gEdge_V cal_X2_supposeNothing ck_2 rfl (show decode cX8_laws 26 = .ok (.invokevirtual 260, 3) by decide +kernel) wd_3_106 wd_3_107 wd_3_108) <|
  oc_c (gEdge_V cal_X2_live ck_2 rfl (show decode cX8_laws 46 = .ok (.invokevirtual 266, 3) by decide +kernel) wd_3_110 wd_3_111 wd_3_112) <|
  oc_c (gEdge_S cal_X3_agrees (show decode cX8_laws 72 = .ok (.invokestatic 299, 3) by decide +kernel) wd_5_44 wd_5_4) <|
  oc_n
theorem reX8_laws : ∀ pc ∈ [21, 95], decode cX8_laws pc = .ok (.ireturn, 1) := by decide +kernel
def tX8_by : List (Nat × gStp) := [(0, i_aload 0 1), (1, i_getT 8 0 4), (4, i_iload 1 5), (8, i_if_eq 20 11), (11, i_iload 2 12), (12, i_if_lt 20 15), (15, i_iload 2 16), (16, i_push (.int 4) 17), (17, i_ic_lt 23 20), (20, i_push (.int (-2)) 22), (23, i_aload 0 24), (27, i_push (.int 0) 28), (28, i_istore 3 29), (29, i_push (.int 0) 30), (30, i_istore 4 32), (32, i_iload 4 34), (34, i_aload 0 35), (35, i_getT 8 0 38), (38, i_getI 7 5 41), (41, i_ic_ge 88 44), (44, i_aload 0 45), (45, i_getC 8 14 48), (48, i_iload 4 50), (50, i_push (.int 0) 51), (54, i_if_eq 82 57), (57, i_aload 0 58), (58, i_getC 8 14 61), (61, i_aload 0 62), (62, i_getT 8 0 65), (65, i_push (.int 0) 66), (66, i_iload 4 68), (68, i_iload 2 69), (72, i_iload 1 73), (76, i_if_eq 82 79), (79, i_iinc 3 1 82), (82, i_iinc 4 1 85), (85, i_goto 32), (88, i_iload 3 89)]
set_option maxRecDepth 100000 in
theorem okX8_by : gOk YX8_by tX8_by := ok_c (sn_aload_n (show decode cX8_by 0 = .ok (.aload_n 0, 1) by decide +kernel) rfl) <|
  ok_c (sn_getT (j := 6) (fun _ _ => rfl) (sn_get ck_8 (by decide) (show decode cX8_by 1 = .ok (.getfield 51, 3) by decide +kernel) wd_2_130)) <|
  ok_c (sn_iload_n (show decode cX8_by 4 = .ok (.iload_n 1, 1) by decide +kernel) rfl) <|
  ok_c (sn_if_eq (show decode cX8_by 8 = .ok (.ifCond .eq 12, 3) by decide +kernel) (by decide)) <|
  ok_c (sn_iload_n (show decode cX8_by 11 = .ok (.iload_n 2, 1) by decide +kernel) rfl) <|
  ok_c (sn_if_lt (show decode cX8_by 12 = .ok (.ifCond .lt 8, 3) by decide +kernel) (by decide)) <|
  ok_c (sn_iload_n (show decode cX8_by 15 = .ok (.iload_n 2, 1) by decide +kernel) rfl) <|
  ok_c (sn_iconst (v := 4) (show decode cX8_by 16 = .ok (.iconst 4, 1) by decide +kernel) (by decide +kernel)) <|
  ok_c (sn_ic_lt (show decode cX8_by 17 = .ok (.if_icmp .lt 6, 3) by decide +kernel) (by decide)) <|
  ok_c (sn_bipush (v := (-2)) (show decode cX8_by 20 = .ok (.bipush (-2), 2) by decide +kernel) (by decide +kernel)) <|
  ok_c (sn_aload_n (show decode cX8_by 23 = .ok (.aload_n 0, 1) by decide +kernel) rfl) <|
  ok_c (sn_iconst (v := 0) (show decode cX8_by 27 = .ok (.iconst 0, 1) by decide +kernel) (by decide +kernel)) <|
  ok_c (sn_istore_n (show decode cX8_by 28 = .ok (.istore_n 3, 1) by decide +kernel) rfl (by decide)) <|
  ok_c (sn_iconst (v := 0) (show decode cX8_by 29 = .ok (.iconst 0, 1) by decide +kernel) (by decide +kernel)) <|
  ok_c (sn_istore (show decode cX8_by 30 = .ok (.istore 4, 2) by decide +kernel) (by decide)) <|
  ok_c (sn_iload (show decode cX8_by 32 = .ok (.iload 4, 2) by decide +kernel)) <|
  ok_c (sn_aload_n (show decode cX8_by 34 = .ok (.aload_n 0, 1) by decide +kernel) rfl) <|
  ok_c (sn_getT (j := 6) (fun _ _ => rfl) (sn_get ck_8 (by decide) (show decode cX8_by 35 = .ok (.getfield 51, 3) by decide +kernel) wd_2_130)) <|
  ok_c (sn_getI (fun _ _ => rfl) (sn_get ck_7 (by decide) (show decode cX8_by 38 = .ok (.getfield 150, 3) by decide +kernel) wd_1_108)) <|
  ok_c (sn_ic_ge (show decode cX8_by 41 = .ok (.if_icmp .ge 47, 3) by decide +kernel) (by decide)) <|
  ok_c (sn_aload_n (show decode cX8_by 44 = .ok (.aload_n 0, 1) by decide +kernel) rfl) <|
  ok_c (sn_getC (j := 3) (fun _ _ => rfl) (sn_get ck_8 (by decide) (show decode cX8_by 45 = .ok (.getfield 33, 3) by decide +kernel) wd_2_127)) <|
  ok_c (sn_iload (show decode cX8_by 48 = .ok (.iload 4, 2) by decide +kernel)) <|
  ok_c (sn_iconst (v := 0) (show decode cX8_by 50 = .ok (.iconst 0, 1) by decide +kernel) (by decide +kernel)) <|
  ok_c (sn_if_eq (show decode cX8_by 54 = .ok (.ifCond .eq 28, 3) by decide +kernel) (by decide)) <|
  ok_c (sn_aload_n (show decode cX8_by 57 = .ok (.aload_n 0, 1) by decide +kernel) rfl) <|
  ok_c (sn_getC (j := 3) (fun _ _ => rfl) (sn_get ck_8 (by decide) (show decode cX8_by 58 = .ok (.getfield 33, 3) by decide +kernel) wd_2_127)) <|
  ok_c (sn_aload_n (show decode cX8_by 61 = .ok (.aload_n 0, 1) by decide +kernel) rfl) <|
  ok_c (sn_getT (j := 6) (fun _ _ => rfl) (sn_get ck_8 (by decide) (show decode cX8_by 62 = .ok (.getfield 51, 3) by decide +kernel) wd_2_130)) <|
  ok_c (sn_iconst (v := 0) (show decode cX8_by 65 = .ok (.iconst 0, 1) by decide +kernel) (by decide +kernel)) <|
  ok_c (sn_iload (show decode cX8_by 66 = .ok (.iload 4, 2) by decide +kernel)) <|
  ok_c (sn_iload_n (show decode cX8_by 68 = .ok (.iload_n 2, 1) by decide +kernel) rfl) <|
  ok_c (sn_iload_n (show decode cX8_by 72 = .ok (.iload_n 1, 1) by decide +kernel) rfl) <|
  ok_c (sn_if_eq (show decode cX8_by 76 = .ok (.ifCond .eq 6, 3) by decide +kernel) (by decide)) <|
  ok_c (sn_iinc (show decode cX8_by 79 = .ok (.iinc 3 1, 3) by decide +kernel) (by decide) (by decide +kernel)) <|
  ok_c (sn_iinc (show decode cX8_by 82 = .ok (.iinc 4 1, 3) by decide +kernel) (by decide) (by decide +kernel)) <|
  ok_c (sn_goto (show decode cX8_by 85 = .ok (.goto (-53), 3) by decide +kernel) (by decide)) <|
  ok_c (sn_iload_n (show decode cX8_by 88 = .ok (.iload_n 3, 1) by decide +kernel) rfl) <|
  ok_n
def uX8_by : gCT := [(5, YX7_hasDoor, 2, some 7), (24, YX8_liveAsNow, 1, some 8), (51, YX2_isFirstOfFirm, 3, some 2), (69, YX2_doorsOf, 5, some 2), (73, YX8_has, 2, none)]
set_option maxRecDepth 100000 in
theorem ocX8_by : gOkC YX8_by uX8_by := oc_c (gEdge_V cal_X7_hasDoor ck_7 rfl (show decode cX8_by 5 = .ok (.invokevirtual 109, 3) by decide +kernel) wd_3_90 wd_3_91 wd_3_92) <|
  oc_c (gEdge_V cal_X8_liveAsNow ck_8 rfl (show decode cX8_by 24 = .ok (.invokevirtual 118, 3) by decide +kernel) wd_3_102 wd_3_104 wp_1_13) <|
  oc_c (gEdge_V cal_X2_isFirstOfFirm ck_2 rfl (show decode cX8_by 51 = .ok (.invokevirtual 303, 3) by decide +kernel) wd_5_49 wd_3_165 wd_3_166) <|
  oc_c (gEdge_V cal_X2_doorsOf ck_2 rfl (show decode cX8_by 69 = .ok (.invokevirtual 147, 3) by decide +kernel) wd_3_238 wd_3_239 wd_4_0) <|
  oc_c (gEdge_S cal_X8_has (show decode cX8_by 73 = .ok (.invokestatic 187, 3) by decide +kernel) wd_4_29 wd_3_119) <|
  oc_n
theorem reX8_by : ∀ pc ∈ [22, 89], decode cX8_by pc = .ok (.ireturn, 1) := by decide +kernel
def tX8_rests : List (Nat × gStp) := [(0, i_aload 0 1), (1, i_getT 8 0 4), (4, i_iload 1 5), (5, i_iload 2 6), (9, i_if_ne 15 12), (12, i_push (.int (-2)) 14), (15, i_push (.int 0) 16), (16, i_istore 3 17), (17, i_push (.int 0) 18), (18, i_istore 4 20), (20, i_iload 4 22), (22, i_push (.int 4) 23), (23, i_ic_ge 125 26), (26, i_iload 4 28), (28, i_push (.int 1) 29), (29, i_ii (fun x y => x &&& y) 30), (30, i_istore 5 32), (32, i_iload 4 34), (34, i_push (.int 1) 35), (35, i_ii (fun x y => x >>> (y &&& 31)) 36), (36, i_istore 6 38), (38, i_aload 0 39), (39, i_iload 1 40), (40, i_iload 2 41), (41, i_iload 5 43), (43, i_iload 6 45), (48, i_aload 0 49), (49, i_iload 1 50), (50, i_iload 2 51), (51, i_push (.int 1) 52), (52, i_iload 5 54), (54, i_ii (fun x y => x - y) 55), (55, i_iload 6 57), (60, i_ic_lt 67 63), (63, i_push (.int 1) 64), (64, i_goto 68), (67, i_push (.int 0) 68), (68, i_istore 7 70), (70, i_aload 0 71), (71, i_iload 2 72), (72, i_iload 1 73), (73, i_iload 6 75), (75, i_iload 5 77), (80, i_aload 0 81), (81, i_iload 2 82), (82, i_iload 1 83), (83, i_push (.int 1) 84), (84, i_iload 6 86), (86, i_ii (fun x y => x - y) 87), (87, i_iload 5 89), (92, i_ic_lt 99 95), (95, i_push (.int 1) 96), (96, i_goto 100), (99, i_push (.int 0) 100), (100, i_istore 8 102), (102, i_iload 7 104), (104, i_if_eq 119 107), (107, i_iload 8 109), (109, i_if_eq 119 112), (112, i_iload 3 113), (113, i_push (.int 1) 114), (114, i_iload 4 116), (116, i_ii (fun x y => x <<< (y &&& 31)) 117), (117, i_ii (fun x y => x ||| y) 118), (118, i_istore 3 119), (119, i_iinc 4 1 122), (122, i_goto 20), (125, i_iload 3 126)]
set_option maxRecDepth 100000 in
theorem okX8_rests : gOk YX8_rests tX8_rests := ok_c (sn_aload_n (show decode cX8_rests 0 = .ok (.aload_n 0, 1) by decide +kernel) rfl) <|
  ok_c (sn_getT (j := 6) (fun _ _ => rfl) (sn_get ck_8 (by decide) (show decode cX8_rests 1 = .ok (.getfield 51, 3) by decide +kernel) wd_2_130)) <|
  ok_c (sn_iload_n (show decode cX8_rests 4 = .ok (.iload_n 1, 1) by decide +kernel) rfl) <|
  ok_c (sn_iload_n (show decode cX8_rests 5 = .ok (.iload_n 2, 1) by decide +kernel) rfl) <|
  ok_c (sn_if_ne (show decode cX8_rests 9 = .ok (.ifCond .ne 6, 3) by decide +kernel) (by decide)) <|
  ok_c (sn_bipush (v := (-2)) (show decode cX8_rests 12 = .ok (.bipush (-2), 2) by decide +kernel) (by decide +kernel)) <|
  ok_c (sn_iconst (v := 0) (show decode cX8_rests 15 = .ok (.iconst 0, 1) by decide +kernel) (by decide +kernel)) <|
  ok_c (sn_istore_n (show decode cX8_rests 16 = .ok (.istore_n 3, 1) by decide +kernel) rfl (by decide)) <|
  ok_c (sn_iconst (v := 0) (show decode cX8_rests 17 = .ok (.iconst 0, 1) by decide +kernel) (by decide +kernel)) <|
  ok_c (sn_istore (show decode cX8_rests 18 = .ok (.istore 4, 2) by decide +kernel) (by decide)) <|
  ok_c (sn_iload (show decode cX8_rests 20 = .ok (.iload 4, 2) by decide +kernel)) <|
  ok_c (sn_iconst (v := 4) (show decode cX8_rests 22 = .ok (.iconst 4, 1) by decide +kernel) (by decide +kernel)) <|
  ok_c (sn_ic_ge (show decode cX8_rests 23 = .ok (.if_icmp .ge 102, 3) by decide +kernel) (by decide)) <|
  ok_c (sn_iload (show decode cX8_rests 26 = .ok (.iload 4, 2) by decide +kernel)) <|
  ok_c (sn_iconst (v := 1) (show decode cX8_rests 28 = .ok (.iconst 1, 1) by decide +kernel) (by decide +kernel)) <|
  ok_c (sn_iand (show decode cX8_rests 29 = .ok (.iand, 1) by decide +kernel)) <|
  ok_c (sn_istore (show decode cX8_rests 30 = .ok (.istore 5, 2) by decide +kernel) (by decide)) <|
  ok_c (sn_iload (show decode cX8_rests 32 = .ok (.iload 4, 2) by decide +kernel)) <|
  ok_c (sn_iconst (v := 1) (show decode cX8_rests 34 = .ok (.iconst 1, 1) by decide +kernel) (by decide +kernel)) <|
  ok_c (sn_ishr (show decode cX8_rests 35 = .ok (.ishr, 1) by decide +kernel)) <|
  ok_c (sn_istore (show decode cX8_rests 36 = .ok (.istore 6, 2) by decide +kernel) (by decide)) <|
  ok_c (sn_aload_n (show decode cX8_rests 38 = .ok (.aload_n 0, 1) by decide +kernel) rfl) <|
  ok_c (sn_iload_n (show decode cX8_rests 39 = .ok (.iload_n 1, 1) by decide +kernel) rfl) <|
  ok_c (sn_iload_n (show decode cX8_rests 40 = .ok (.iload_n 2, 1) by decide +kernel) rfl) <|
  ok_c (sn_iload (show decode cX8_rests 41 = .ok (.iload 5, 2) by decide +kernel)) <|
  ok_c (sn_iload (show decode cX8_rests 43 = .ok (.iload 6, 2) by decide +kernel)) <|
  ok_c (sn_aload_n (show decode cX8_rests 48 = .ok (.aload_n 0, 1) by decide +kernel) rfl) <|
  ok_c (sn_iload_n (show decode cX8_rests 49 = .ok (.iload_n 1, 1) by decide +kernel) rfl) <|
  ok_c (sn_iload_n (show decode cX8_rests 50 = .ok (.iload_n 2, 1) by decide +kernel) rfl) <|
  ok_c (sn_iconst (v := 1) (show decode cX8_rests 51 = .ok (.iconst 1, 1) by decide +kernel) (by decide +kernel)) <|
  ok_c (sn_iload (show decode cX8_rests 52 = .ok (.iload 5, 2) by decide +kernel)) <|
  ok_c (sn_isub (show decode cX8_rests 54 = .ok (.isub, 1) by decide +kernel)) <|
  ok_c (sn_iload (show decode cX8_rests 55 = .ok (.iload 6, 2) by decide +kernel)) <|
  ok_c (sn_ic_lt (show decode cX8_rests 60 = .ok (.if_icmp .lt 7, 3) by decide +kernel) (by decide)) <|
  ok_c (sn_iconst (v := 1) (show decode cX8_rests 63 = .ok (.iconst 1, 1) by decide +kernel) (by decide +kernel)) <|
  ok_c (sn_goto (show decode cX8_rests 64 = .ok (.goto 4, 3) by decide +kernel) (by decide)) <|
  ok_c (sn_iconst (v := 0) (show decode cX8_rests 67 = .ok (.iconst 0, 1) by decide +kernel) (by decide +kernel)) <|
  ok_c (sn_istore (show decode cX8_rests 68 = .ok (.istore 7, 2) by decide +kernel) (by decide)) <|
  ok_c (sn_aload_n (show decode cX8_rests 70 = .ok (.aload_n 0, 1) by decide +kernel) rfl) <|
  ok_c (sn_iload_n (show decode cX8_rests 71 = .ok (.iload_n 2, 1) by decide +kernel) rfl) <|
  ok_c (sn_iload_n (show decode cX8_rests 72 = .ok (.iload_n 1, 1) by decide +kernel) rfl) <|
  ok_c (sn_iload (show decode cX8_rests 73 = .ok (.iload 6, 2) by decide +kernel)) <|
  ok_c (sn_iload (show decode cX8_rests 75 = .ok (.iload 5, 2) by decide +kernel)) <|
  ok_c (sn_aload_n (show decode cX8_rests 80 = .ok (.aload_n 0, 1) by decide +kernel) rfl) <|
  ok_c (sn_iload_n (show decode cX8_rests 81 = .ok (.iload_n 2, 1) by decide +kernel) rfl) <|
  ok_c (sn_iload_n (show decode cX8_rests 82 = .ok (.iload_n 1, 1) by decide +kernel) rfl) <|
  ok_c (sn_iconst (v := 1) (show decode cX8_rests 83 = .ok (.iconst 1, 1) by decide +kernel) (by decide +kernel)) <|
  ok_c (sn_iload (show decode cX8_rests 84 = .ok (.iload 6, 2) by decide +kernel)) <|
  ok_c (sn_isub (show decode cX8_rests 86 = .ok (.isub, 1) by decide +kernel)) <|
  ok_c (sn_iload (show decode cX8_rests 87 = .ok (.iload 5, 2) by decide +kernel)) <|
  ok_c (sn_ic_lt (show decode cX8_rests 92 = .ok (.if_icmp .lt 7, 3) by decide +kernel) (by decide)) <|
  ok_c (sn_iconst (v := 1) (show decode cX8_rests 95 = .ok (.iconst 1, 1) by decide +kernel) (by decide +kernel)) <|
  ok_c (sn_goto (show decode cX8_rests 96 = .ok (.goto 4, 3) by decide +kernel) (by decide)) <|
  ok_c (sn_iconst (v := 0) (show decode cX8_rests 99 = .ok (.iconst 0, 1) by decide +kernel) (by decide +kernel)) <|
  ok_c (sn_istore (show decode cX8_rests 100 = .ok (.istore 8, 2) by decide +kernel) (by decide)) <|
  ok_c (sn_iload (show decode cX8_rests 102 = .ok (.iload 7, 2) by decide +kernel)) <|
  ok_c (sn_if_eq (show decode cX8_rests 104 = .ok (.ifCond .eq 15, 3) by decide +kernel) (by decide)) <|
  ok_c (sn_iload (show decode cX8_rests 107 = .ok (.iload 8, 2) by decide +kernel)) <|
  ok_c (sn_if_eq (show decode cX8_rests 109 = .ok (.ifCond .eq 10, 3) by decide +kernel) (by decide)) <|
  ok_c (sn_iload_n (show decode cX8_rests 112 = .ok (.iload_n 3, 1) by decide +kernel) rfl) <|
  ok_c (sn_iconst (v := 1) (show decode cX8_rests 113 = .ok (.iconst 1, 1) by decide +kernel) (by decide +kernel)) <|
  ok_c (sn_iload (show decode cX8_rests 114 = .ok (.iload 4, 2) by decide +kernel)) <|
  ok_c (sn_ishl (show decode cX8_rests 116 = .ok (.ishl, 1) by decide +kernel)) <|
  ok_c (sn_ior (show decode cX8_rests 117 = .ok (.ior, 1) by decide +kernel)) <|
  ok_c (sn_istore_n (show decode cX8_rests 118 = .ok (.istore_n 3, 1) by decide +kernel) rfl (by decide)) <|
  ok_c (sn_iinc (show decode cX8_rests 119 = .ok (.iinc 4 1, 3) by decide +kernel) (by decide) (by decide +kernel)) <|
  ok_c (sn_goto (show decode cX8_rests 122 = .ok (.goto (-102), 3) by decide +kernel) (by decide)) <|
  ok_c (sn_iload_n (show decode cX8_rests 125 = .ok (.iload_n 3, 1) by decide +kernel) rfl) <|
  ok_n
def uX8_rests : gCT := [(6, YX7_hasPair, 3, some 7), (45, YX8_payOf, 5, some 8), (57, YX8_payOf, 5, some 8), (77, YX8_payOf, 5, some 8), (89, YX8_payOf, 5, some 8)]
set_option maxRecDepth 100000 in
theorem ocX8_rests : gOkC YX8_rests uX8_rests := oc_c (gEdge_V cal_X7_hasPair ck_7 rfl (show decode cX8_rests 6 = .ok (.invokevirtual 124, 3) by decide +kernel) wd_3_187 wd_3_188 wd_3_189) <|
  oc_c (gEdge_V cal_X8_payOf ck_8 rfl (show decode cX8_rests 45 = .ok (.invokevirtual 306, 3) by decide +kernel) wd_5_54 wd_5_56 wp_3_4) <|
  oc_c (gEdge_V cal_X8_payOf ck_8 rfl (show decode cX8_rests 57 = .ok (.invokevirtual 306, 3) by decide +kernel) wd_5_54 wd_5_56 wp_3_4) <|
  oc_c (gEdge_V cal_X8_payOf ck_8 rfl (show decode cX8_rests 77 = .ok (.invokevirtual 306, 3) by decide +kernel) wd_5_54 wd_5_56 wp_3_4) <|
  oc_c (gEdge_V cal_X8_payOf ck_8 rfl (show decode cX8_rests 89 = .ok (.invokevirtual 306, 3) by decide +kernel) wd_5_54 wd_5_56 wp_3_4) <|
  oc_n
theorem reX8_rests : ∀ pc ∈ [14, 126], decode cX8_rests pc = .ok (.ireturn, 1) := by decide +kernel
def tX8_gets : List (Nat × gStp) := [(0, i_aload 0 1), (1, i_getT 8 0 4), (4, i_iload 1 5), (5, i_iload 2 6), (9, i_if_eq 27 12), (12, i_iload 3 13), (16, i_if_eq 27 19), (19, i_iload 4 21), (24, i_if_ne 31 27), (27, i_push (.int (-10000)) 30), (31, i_aload 0 32), (32, i_iload 1 33), (33, i_iload 2 34), (34, i_iload 3 35), (35, i_iload 4 37)]
set_option maxRecDepth 100000 in
theorem okX8_gets : gOk YX8_gets tX8_gets := ok_c (sn_aload_n (show decode cX8_gets 0 = .ok (.aload_n 0, 1) by decide +kernel) rfl) <|
  ok_c (sn_getT (j := 6) (fun _ _ => rfl) (sn_get ck_8 (by decide) (show decode cX8_gets 1 = .ok (.getfield 51, 3) by decide +kernel) wd_2_130)) <|
  ok_c (sn_iload_n (show decode cX8_gets 4 = .ok (.iload_n 1, 1) by decide +kernel) rfl) <|
  ok_c (sn_iload_n (show decode cX8_gets 5 = .ok (.iload_n 2, 1) by decide +kernel) rfl) <|
  ok_c (sn_if_eq (show decode cX8_gets 9 = .ok (.ifCond .eq 18, 3) by decide +kernel) (by decide)) <|
  ok_c (sn_iload_n (show decode cX8_gets 12 = .ok (.iload_n 3, 1) by decide +kernel) rfl) <|
  ok_c (sn_if_eq (show decode cX8_gets 16 = .ok (.ifCond .eq 11, 3) by decide +kernel) (by decide)) <|
  ok_c (sn_iload (show decode cX8_gets 19 = .ok (.iload 4, 2) by decide +kernel)) <|
  ok_c (sn_if_ne (show decode cX8_gets 24 = .ok (.ifCond .ne 7, 3) by decide +kernel) (by decide)) <|
  ok_c (sn_sipush (v := (-10000)) (show decode cX8_gets 27 = .ok (.sipush (-10000), 3) by decide +kernel) (by decide +kernel)) <|
  ok_c (sn_aload_n (show decode cX8_gets 31 = .ok (.aload_n 0, 1) by decide +kernel) rfl) <|
  ok_c (sn_iload_n (show decode cX8_gets 32 = .ok (.iload_n 1, 1) by decide +kernel) rfl) <|
  ok_c (sn_iload_n (show decode cX8_gets 33 = .ok (.iload_n 2, 1) by decide +kernel) rfl) <|
  ok_c (sn_iload_n (show decode cX8_gets 34 = .ok (.iload_n 3, 1) by decide +kernel) rfl) <|
  ok_c (sn_iload (show decode cX8_gets 35 = .ok (.iload 4, 2) by decide +kernel)) <|
  ok_n
def uX8_gets : gCT := [(6, YX7_hasPair, 3, some 7), (13, YX8_isEither, 1, none), (21, YX8_isEither, 1, none), (37, YX8_payOf, 5, some 8)]
set_option maxRecDepth 100000 in
theorem ocX8_gets : gOkC YX8_gets uX8_gets := oc_c (gEdge_V cal_X7_hasPair ck_7 rfl (show decode cX8_gets 6 = .ok (.invokevirtual 124, 3) by decide +kernel) wd_3_187 wd_3_188 wd_3_189) <|
  oc_c (gEdge_S cal_X8_isEither (show decode cX8_gets 13 = .ok (.invokestatic 212, 3) by decide +kernel) wd_4_120 wd_4_121) <|
  oc_c (gEdge_S cal_X8_isEither (show decode cX8_gets 21 = .ok (.invokestatic 212, 3) by decide +kernel) wd_4_120 wd_4_121) <|
  oc_c (gEdge_V cal_X8_payOf ck_8 rfl (show decode cX8_gets 37 = .ok (.invokevirtual 306, 3) by decide +kernel) wd_5_54 wd_5_56 wp_3_4) <|
  oc_n
theorem reX8_gets : ∀ pc ∈ [30, 40], decode cX8_gets pc = .ok (.ireturn, 1) := by decide +kernel
def tX8_when : List (Nat × gStp) := [(0, i_aload 0 1), (1, i_getT 8 0 4), (4, i_iload 1 5), (5, i_iload 2 6), (9, i_if_ne 15 12), (12, i_push (.int (-2)) 14), (15, i_push (.int (-1)) 16), (16, i_istore 3 17), (17, i_aload 0 18), (18, i_iload 1 19), (19, i_iload 2 20), (23, i_istore 4 25), (25, i_push (.int 0) 26), (26, i_istore 5 28), (28, i_iload 5 30), (30, i_aload 0 31), (31, i_getT 8 0 34), (34, i_getI 7 1 37), (37, i_ic_ge 94 40), (40, i_aload 0 41), (41, i_getT 8 0 44), (44, i_getO 7 10 47), (47, i_iload 1 48), (48, i_iload 2 49), (49, i_iload 5 51), (51, i_push (.int 9) 53), (56, i_aload 0 57), (57, i_iload 1 58), (58, i_iload 2 59), (62, i_istore 6 64), (64, i_aload 0 65), (65, i_getT 8 0 68), (68, i_getO 7 10 71), (74, i_iload 6 76), (76, i_iload 4 78), (78, i_ic_le 88 81), (81, i_iload 5 83), (83, i_istore 3 84), (84, i_iload 6 86), (86, i_istore 4 88), (88, i_iinc 5 1 91), (91, i_goto 28), (94, i_iload 3 95)]
set_option maxRecDepth 100000 in
theorem okX8_when : gOk YX8_when tX8_when := ok_c (sn_aload_n (show decode cX8_when 0 = .ok (.aload_n 0, 1) by decide +kernel) rfl) <|
  ok_c (sn_getT (j := 6) (fun _ _ => rfl) (sn_get ck_8 (by decide) (show decode cX8_when 1 = .ok (.getfield 51, 3) by decide +kernel) wd_2_130)) <|
  ok_c (sn_iload_n (show decode cX8_when 4 = .ok (.iload_n 1, 1) by decide +kernel) rfl) <|
  ok_c (sn_iload_n (show decode cX8_when 5 = .ok (.iload_n 2, 1) by decide +kernel) rfl) <|
  ok_c (sn_if_ne (show decode cX8_when 9 = .ok (.ifCond .ne 6, 3) by decide +kernel) (by decide)) <|
  ok_c (sn_bipush (v := (-2)) (show decode cX8_when 12 = .ok (.bipush (-2), 2) by decide +kernel) (by decide +kernel)) <|
  ok_c (sn_iconst (v := (-1)) (show decode cX8_when 15 = .ok (.iconst (-1), 1) by decide +kernel) (by decide +kernel)) <|
  ok_c (sn_istore_n (show decode cX8_when 16 = .ok (.istore_n 3, 1) by decide +kernel) rfl (by decide)) <|
  ok_c (sn_aload_n (show decode cX8_when 17 = .ok (.aload_n 0, 1) by decide +kernel) rfl) <|
  ok_c (sn_iload_n (show decode cX8_when 18 = .ok (.iload_n 1, 1) by decide +kernel) rfl) <|
  ok_c (sn_iload_n (show decode cX8_when 19 = .ok (.iload_n 2, 1) by decide +kernel) rfl) <|
  ok_c (sn_istore (show decode cX8_when 23 = .ok (.istore 4, 2) by decide +kernel) (by decide)) <|
  ok_c (sn_iconst (v := 0) (show decode cX8_when 25 = .ok (.iconst 0, 1) by decide +kernel) (by decide +kernel)) <|
  ok_c (sn_istore (show decode cX8_when 26 = .ok (.istore 5, 2) by decide +kernel) (by decide)) <|
  ok_c (sn_iload (show decode cX8_when 28 = .ok (.iload 5, 2) by decide +kernel)) <|
  ok_c (sn_aload_n (show decode cX8_when 30 = .ok (.aload_n 0, 1) by decide +kernel) rfl) <|
  ok_c (sn_getT (j := 6) (fun _ _ => rfl) (sn_get ck_8 (by decide) (show decode cX8_when 31 = .ok (.getfield 51, 3) by decide +kernel) wd_2_130)) <|
  ok_c (sn_getI (fun _ _ => rfl) (sn_get ck_7 (by decide) (show decode cX8_when 34 = .ok (.getfield 184, 3) by decide +kernel) wd_1_90)) <|
  ok_c (sn_ic_ge (show decode cX8_when 37 = .ok (.if_icmp .ge 57, 3) by decide +kernel) (by decide)) <|
  ok_c (sn_aload_n (show decode cX8_when 40 = .ok (.aload_n 0, 1) by decide +kernel) rfl) <|
  ok_c (sn_getT (j := 6) (fun _ _ => rfl) (sn_get ck_8 (by decide) (show decode cX8_when 41 = .ok (.getfield 51, 3) by decide +kernel) wd_2_130)) <|
  ok_c (sn_getO (j := 18) (fun _ _ => rfl) (sn_get ck_7 (by decide) (show decode cX8_when 44 = .ok (.getfield 313, 3) by decide +kernel) wd_1_159)) <|
  ok_c (sn_iload_n (show decode cX8_when 47 = .ok (.iload_n 1, 1) by decide +kernel) rfl) <|
  ok_c (sn_iload_n (show decode cX8_when 48 = .ok (.iload_n 2, 1) by decide +kernel) rfl) <|
  ok_c (sn_iload (show decode cX8_when 49 = .ok (.iload 5, 2) by decide +kernel)) <|
  ok_c (sn_bipush (v := 9) (show decode cX8_when 51 = .ok (.bipush 9, 2) by decide +kernel) (by decide +kernel)) <|
  ok_c (sn_aload_n (show decode cX8_when 56 = .ok (.aload_n 0, 1) by decide +kernel) rfl) <|
  ok_c (sn_iload_n (show decode cX8_when 57 = .ok (.iload_n 1, 1) by decide +kernel) rfl) <|
  ok_c (sn_iload_n (show decode cX8_when 58 = .ok (.iload_n 2, 1) by decide +kernel) rfl) <|
  ok_c (sn_istore (show decode cX8_when 62 = .ok (.istore 6, 2) by decide +kernel) (by decide)) <|
  ok_c (sn_aload_n (show decode cX8_when 64 = .ok (.aload_n 0, 1) by decide +kernel) rfl) <|
  ok_c (sn_getT (j := 6) (fun _ _ => rfl) (sn_get ck_8 (by decide) (show decode cX8_when 65 = .ok (.getfield 51, 3) by decide +kernel) wd_2_130)) <|
  ok_c (sn_getO (j := 18) (fun _ _ => rfl) (sn_get ck_7 (by decide) (show decode cX8_when 68 = .ok (.getfield 313, 3) by decide +kernel) wd_1_159)) <|
  ok_c (sn_iload (show decode cX8_when 74 = .ok (.iload 6, 2) by decide +kernel)) <|
  ok_c (sn_iload (show decode cX8_when 76 = .ok (.iload 4, 2) by decide +kernel)) <|
  ok_c (sn_ic_le (show decode cX8_when 78 = .ok (.if_icmp .le 10, 3) by decide +kernel) (by decide)) <|
  ok_c (sn_iload (show decode cX8_when 81 = .ok (.iload 5, 2) by decide +kernel)) <|
  ok_c (sn_istore_n (show decode cX8_when 83 = .ok (.istore_n 3, 1) by decide +kernel) rfl (by decide)) <|
  ok_c (sn_iload (show decode cX8_when 84 = .ok (.iload 6, 2) by decide +kernel)) <|
  ok_c (sn_istore (show decode cX8_when 86 = .ok (.istore 4, 2) by decide +kernel) (by decide)) <|
  ok_c (sn_iinc (show decode cX8_when 88 = .ok (.iinc 5 1, 3) by decide +kernel) (by decide) (by decide +kernel)) <|
  ok_c (sn_goto (show decode cX8_when 91 = .ok (.goto (-63), 3) by decide +kernel) (by decide)) <|
  ok_c (sn_iload_n (show decode cX8_when 94 = .ok (.iload_n 3, 1) by decide +kernel) rfl) <|
  ok_n
def uX8_when : gCT := [(6, YX7_hasPair, 3, some 7), (20, YX8_lastWorthOfBoth, 3, some 8), (53, YX0_add, 5, some 0), (59, YX8_lastWorthOfBoth, 3, some 8), (71, YX0_takeBack, 1, some 0)]
set_option maxRecDepth 100000 in
theorem ocX8_when : gOkC YX8_when uX8_when := oc_c (gEdge_V cal_X7_hasPair ck_7 rfl (show decode cX8_when 6 = .ok (.invokevirtual 124, 3) by decide +kernel) wd_3_187 wd_3_188 wd_3_189) <|
  oc_c (gEdge_V cal_X8_lastWorthOfBoth ck_8 rfl (show decode cX8_when 20 = .ok (.invokevirtual 310, 3) by decide +kernel) wd_5_70 wd_5_72 wp_3_6) <|
  oc_c (gEdge_V cal_X0_add ck_0 rfl (show decode cX8_when 53 = .ok (.invokevirtual 317, 3) by decide +kernel) wd_5_74 wd_5_75 wd_5_76) <|
  oc_c (gEdge_V cal_X8_lastWorthOfBoth ck_8 rfl (show decode cX8_when 59 = .ok (.invokevirtual 310, 3) by decide +kernel) wd_5_70 wd_5_72 wp_3_6) <|
  oc_c (gEdge_V cal_X0_takeBack ck_0 rfl (show decode cX8_when 71 = .ok (.invokevirtual 323, 3) by decide +kernel) wd_5_78 wd_5_79 wd_5_80) <|
  oc_n
theorem reX8_when : ∀ pc ∈ [14, 95], decode cX8_when pc = .ok (.ireturn, 1) := by decide +kernel
def tX8_chance : List (Nat × gStp) := [(0, i_aload 0 1), (1, i_getT 8 0 4), (4, i_iload 1 5), (5, i_iload 2 6), (9, i_if_eq 19 12), (12, i_iload 3 13), (16, i_if_ne 22 19), (19, i_push (.int (-2)) 21), (22, i_aload 0 23), (23, i_push (.int 0) 24), (24, i_iload 1 25), (25, i_iload 2 26), (26, i_iload 3 27)]
set_option maxRecDepth 100000 in
theorem okX8_chance : gOk YX8_chance tX8_chance := ok_c (sn_aload_n (show decode cX8_chance 0 = .ok (.aload_n 0, 1) by decide +kernel) rfl) <|
  ok_c (sn_getT (j := 6) (fun _ _ => rfl) (sn_get ck_8 (by decide) (show decode cX8_chance 1 = .ok (.getfield 51, 3) by decide +kernel) wd_2_130)) <|
  ok_c (sn_iload_n (show decode cX8_chance 4 = .ok (.iload_n 1, 1) by decide +kernel) rfl) <|
  ok_c (sn_iload_n (show decode cX8_chance 5 = .ok (.iload_n 2, 1) by decide +kernel) rfl) <|
  ok_c (sn_if_eq (show decode cX8_chance 9 = .ok (.ifCond .eq 10, 3) by decide +kernel) (by decide)) <|
  ok_c (sn_iload_n (show decode cX8_chance 12 = .ok (.iload_n 3, 1) by decide +kernel) rfl) <|
  ok_c (sn_if_ne (show decode cX8_chance 16 = .ok (.ifCond .ne 6, 3) by decide +kernel) (by decide)) <|
  ok_c (sn_bipush (v := (-2)) (show decode cX8_chance 19 = .ok (.bipush (-2), 2) by decide +kernel) (by decide +kernel)) <|
  ok_c (sn_aload_n (show decode cX8_chance 22 = .ok (.aload_n 0, 1) by decide +kernel) rfl) <|
  ok_c (sn_iconst (v := 0) (show decode cX8_chance 23 = .ok (.iconst 0, 1) by decide +kernel) (by decide +kernel)) <|
  ok_c (sn_iload_n (show decode cX8_chance 24 = .ok (.iload_n 1, 1) by decide +kernel) rfl) <|
  ok_c (sn_iload_n (show decode cX8_chance 25 = .ok (.iload_n 2, 1) by decide +kernel) rfl) <|
  ok_c (sn_iload_n (show decode cX8_chance 26 = .ok (.iload_n 3, 1) by decide +kernel) rfl) <|
  ok_n
def uX8_chance : gCT := [(6, YX7_hasPair, 3, some 7), (13, YX8_isEither, 1, none), (27, YX8_meanOf, 5, some 8)]
set_option maxRecDepth 100000 in
theorem ocX8_chance : gOkC YX8_chance uX8_chance := oc_c (gEdge_V cal_X7_hasPair ck_7 rfl (show decode cX8_chance 6 = .ok (.invokevirtual 124, 3) by decide +kernel) wd_3_187 wd_3_188 wd_3_189) <|
  oc_c (gEdge_S cal_X8_isEither (show decode cX8_chance 13 = .ok (.invokestatic 212, 3) by decide +kernel) wd_4_120 wd_4_121) <|
  oc_c (gEdge_V cal_X8_meanOf ck_8 rfl (show decode cX8_chance 27 = .ok (.invokevirtual 326, 3) by decide +kernel) wd_5_87 wd_5_89 wp_3_7) <|
  oc_n
theorem reX8_chance : ∀ pc ∈ [21, 30], decode cX8_chance pc = .ok (.ireturn, 1) := by decide +kernel
def tX8_through : List (Nat × gStp) := [(0, i_aload 0 1), (1, i_getT 8 0 4), (4, i_iload 1 5), (8, i_if_eq 29 11), (11, i_aload 0 12), (12, i_getT 8 0 15), (15, i_iload 2 16), (19, i_if_eq 29 22), (22, i_iload 3 23), (26, i_if_ne 32 29), (29, i_push (.int (-2)) 31), (32, i_aload 0 33), (33, i_push (.int 1) 34), (34, i_iload 1 35), (35, i_iload 2 36), (36, i_iload 3 37)]
set_option maxRecDepth 100000 in
theorem okX8_through : gOk YX8_through tX8_through := ok_c (sn_aload_n (show decode cX8_through 0 = .ok (.aload_n 0, 1) by decide +kernel) rfl) <|
  ok_c (sn_getT (j := 6) (fun _ _ => rfl) (sn_get ck_8 (by decide) (show decode cX8_through 1 = .ok (.getfield 51, 3) by decide +kernel) wd_2_130)) <|
  ok_c (sn_iload_n (show decode cX8_through 4 = .ok (.iload_n 1, 1) by decide +kernel) rfl) <|
  ok_c (sn_if_eq (show decode cX8_through 8 = .ok (.ifCond .eq 21, 3) by decide +kernel) (by decide)) <|
  ok_c (sn_aload_n (show decode cX8_through 11 = .ok (.aload_n 0, 1) by decide +kernel) rfl) <|
  ok_c (sn_getT (j := 6) (fun _ _ => rfl) (sn_get ck_8 (by decide) (show decode cX8_through 12 = .ok (.getfield 51, 3) by decide +kernel) wd_2_130)) <|
  ok_c (sn_iload_n (show decode cX8_through 15 = .ok (.iload_n 2, 1) by decide +kernel) rfl) <|
  ok_c (sn_if_eq (show decode cX8_through 19 = .ok (.ifCond .eq 10, 3) by decide +kernel) (by decide)) <|
  ok_c (sn_iload_n (show decode cX8_through 22 = .ok (.iload_n 3, 1) by decide +kernel) rfl) <|
  ok_c (sn_if_ne (show decode cX8_through 26 = .ok (.ifCond .ne 6, 3) by decide +kernel) (by decide)) <|
  ok_c (sn_bipush (v := (-2)) (show decode cX8_through 29 = .ok (.bipush (-2), 2) by decide +kernel) (by decide +kernel)) <|
  ok_c (sn_aload_n (show decode cX8_through 32 = .ok (.aload_n 0, 1) by decide +kernel) rfl) <|
  ok_c (sn_iconst (v := 1) (show decode cX8_through 33 = .ok (.iconst 1, 1) by decide +kernel) (by decide +kernel)) <|
  ok_c (sn_iload_n (show decode cX8_through 34 = .ok (.iload_n 1, 1) by decide +kernel) rfl) <|
  ok_c (sn_iload_n (show decode cX8_through 35 = .ok (.iload_n 2, 1) by decide +kernel) rfl) <|
  ok_c (sn_iload_n (show decode cX8_through 36 = .ok (.iload_n 3, 1) by decide +kernel) rfl) <|
  ok_n
def uX8_through : gCT := [(5, YX7_hasPartner, 2, some 7), (16, YX7_hasDoor, 2, some 7), (23, YX8_isEither, 1, none), (37, YX8_meanOf, 5, some 8)]
set_option maxRecDepth 100000 in
theorem ocX8_through : gOkC YX8_through uX8_through := oc_c (gEdge_V cal_X7_hasPartner ck_7 rfl (show decode cX8_through 5 = .ok (.invokevirtual 83, 3) by decide +kernel) wd_3_74 wd_3_75 wd_3_76) <|
  oc_c (gEdge_V cal_X7_hasDoor ck_7 rfl (show decode cX8_through 16 = .ok (.invokevirtual 109, 3) by decide +kernel) wd_3_90 wd_3_91 wd_3_92) <|
  oc_c (gEdge_S cal_X8_isEither (show decode cX8_through 23 = .ok (.invokestatic 212, 3) by decide +kernel) wd_4_120 wd_4_121) <|
  oc_c (gEdge_V cal_X8_meanOf ck_8 rfl (show decode cX8_through 37 = .ok (.invokevirtual 326, 3) by decide +kernel) wd_5_87 wd_5_89 wp_3_7) <|
  oc_n
theorem reX8_through : ∀ pc ∈ [31, 40], decode cX8_through pc = .ok (.ireturn, 1) := by decide +kernel
def tX8_mean : List (Nat × gStp) := [(0, i_aload 0 1), (1, i_getT 8 0 4), (7, i_if_eq 17 10), (10, i_iload 1 11), (14, i_if_ne 20 17), (17, i_push (.int (-2)) 19), (20, i_aload 0 21), (21, i_push (.int 2) 22), (22, i_push (.int 0) 23), (23, i_push (.int 0) 24), (24, i_iload 1 25)]
set_option maxRecDepth 100000 in
theorem okX8_mean : gOk YX8_mean tX8_mean := ok_c (sn_aload_n (show decode cX8_mean 0 = .ok (.aload_n 0, 1) by decide +kernel) rfl) <|
  ok_c (sn_getT (j := 6) (fun _ _ => rfl) (sn_get ck_8 (by decide) (show decode cX8_mean 1 = .ok (.getfield 51, 3) by decide +kernel) wd_2_130)) <|
  ok_c (sn_if_eq (show decode cX8_mean 7 = .ok (.ifCond .eq 10, 3) by decide +kernel) (by decide)) <|
  ok_c (sn_iload_n (show decode cX8_mean 10 = .ok (.iload_n 1, 1) by decide +kernel) rfl) <|
  ok_c (sn_if_ne (show decode cX8_mean 14 = .ok (.ifCond .ne 6, 3) by decide +kernel) (by decide)) <|
  ok_c (sn_bipush (v := (-2)) (show decode cX8_mean 17 = .ok (.bipush (-2), 2) by decide +kernel) (by decide +kernel)) <|
  ok_c (sn_aload_n (show decode cX8_mean 20 = .ok (.aload_n 0, 1) by decide +kernel) rfl) <|
  ok_c (sn_iconst (v := 2) (show decode cX8_mean 21 = .ok (.iconst 2, 1) by decide +kernel) (by decide +kernel)) <|
  ok_c (sn_iconst (v := 0) (show decode cX8_mean 22 = .ok (.iconst 0, 1) by decide +kernel) (by decide +kernel)) <|
  ok_c (sn_iconst (v := 0) (show decode cX8_mean 23 = .ok (.iconst 0, 1) by decide +kernel) (by decide +kernel)) <|
  ok_c (sn_iload_n (show decode cX8_mean 24 = .ok (.iload_n 1, 1) by decide +kernel) rfl) <|
  ok_n
def uX8_mean : gCT := [(4, YX7_isTold, 1, some 7), (11, YX8_isEither, 1, none), (25, YX8_meanOf, 5, some 8)]
set_option maxRecDepth 100000 in
theorem ocX8_mean : gOkC YX8_mean uX8_mean := oc_c (gEdge_V cal_X7_isTold ck_7 rfl (show decode cX8_mean 4 = .ok (.invokevirtual 190, 3) by decide +kernel) wd_4_59 wd_4_60 wd_4_61) <|
  oc_c (gEdge_S cal_X8_isEither (show decode cX8_mean 11 = .ok (.invokestatic 212, 3) by decide +kernel) wd_4_120 wd_4_121) <|
  oc_c (gEdge_V cal_X8_meanOf ck_8 rfl (show decode cX8_mean 25 = .ok (.invokevirtual 326, 3) by decide +kernel) wd_5_87 wd_5_89 wp_3_7) <|
  oc_n
theorem reX8_mean : ∀ pc ∈ [19, 28], decode cX8_mean pc = .ok (.ireturn, 1) := by decide +kernel
def tX8_weld : List (Nat × gStp) := [(0, i_iload 4 2), (2, i_push (.int 1) 3), (3, i_ic_lt 17 6), (6, i_iload 4 8), (8, i_push (.int 9) 10), (10, i_ic_gt 17 13), (13, i_push (.int 1) 14), (14, i_goto 18), (17, i_push (.int 0) 18), (18, i_istore 5 20), (20, i_aload 0 21), (21, i_getT 8 0 24), (24, i_iload 1 25), (25, i_iload 2 26), (29, i_if_eq 48 32), (32, i_aload 0 33), (33, i_getT 8 0 36), (36, i_iload 3 37), (40, i_if_eq 48 43), (43, i_iload 5 45), (45, i_if_ne 51 48), (48, i_push (.int (-2)) 50), (51, i_aload 0 52), (52, i_getT 8 0 55), (55, i_getO 7 10 58), (58, i_getI 0 4 61), (61, i_push (.int 30) 63), (63, i_ic_lt 69 66), (66, i_push (.int (-5)) 68), (69, i_aload 0 70), (70, i_getT 8 0 73), (73, i_getO 7 10 76), (76, i_iload 1 77), (77, i_iload 2 78), (78, i_iload 3 79), (79, i_iload 4 81), (84, i_aload 0 85), (88, i_aload 0 89), (89, i_getC 8 14 92), (92, i_iload 1 93), (93, i_iload 2 94), (94, i_iload 3 95), (98, i_if_eq 105 101), (101, i_push (.int 1) 102), (102, i_goto 106), (105, i_push (.int 0) 106)]
set_option maxRecDepth 100000 in
theorem okX8_weld : gOk YX8_weld tX8_weld := ok_c (sn_iload (show decode cX8_weld 0 = .ok (.iload 4, 2) by decide +kernel)) <|
  ok_c (sn_iconst (v := 1) (show decode cX8_weld 2 = .ok (.iconst 1, 1) by decide +kernel) (by decide +kernel)) <|
  ok_c (sn_ic_lt (show decode cX8_weld 3 = .ok (.if_icmp .lt 14, 3) by decide +kernel) (by decide)) <|
  ok_c (sn_iload (show decode cX8_weld 6 = .ok (.iload 4, 2) by decide +kernel)) <|
  ok_c (sn_bipush (v := 9) (show decode cX8_weld 8 = .ok (.bipush 9, 2) by decide +kernel) (by decide +kernel)) <|
  ok_c (sn_ic_gt (show decode cX8_weld 10 = .ok (.if_icmp .gt 7, 3) by decide +kernel) (by decide)) <|
  ok_c (sn_iconst (v := 1) (show decode cX8_weld 13 = .ok (.iconst 1, 1) by decide +kernel) (by decide +kernel)) <|
  ok_c (sn_goto (show decode cX8_weld 14 = .ok (.goto 4, 3) by decide +kernel) (by decide)) <|
  ok_c (sn_iconst (v := 0) (show decode cX8_weld 17 = .ok (.iconst 0, 1) by decide +kernel) (by decide +kernel)) <|
  ok_c (sn_istore (show decode cX8_weld 18 = .ok (.istore 5, 2) by decide +kernel) (by decide)) <|
  ok_c (sn_aload_n (show decode cX8_weld 20 = .ok (.aload_n 0, 1) by decide +kernel) rfl) <|
  ok_c (sn_getT (j := 6) (fun _ _ => rfl) (sn_get ck_8 (by decide) (show decode cX8_weld 21 = .ok (.getfield 51, 3) by decide +kernel) wd_2_130)) <|
  ok_c (sn_iload_n (show decode cX8_weld 24 = .ok (.iload_n 1, 1) by decide +kernel) rfl) <|
  ok_c (sn_iload_n (show decode cX8_weld 25 = .ok (.iload_n 2, 1) by decide +kernel) rfl) <|
  ok_c (sn_if_eq (show decode cX8_weld 29 = .ok (.ifCond .eq 19, 3) by decide +kernel) (by decide)) <|
  ok_c (sn_aload_n (show decode cX8_weld 32 = .ok (.aload_n 0, 1) by decide +kernel) rfl) <|
  ok_c (sn_getT (j := 6) (fun _ _ => rfl) (sn_get ck_8 (by decide) (show decode cX8_weld 33 = .ok (.getfield 51, 3) by decide +kernel) wd_2_130)) <|
  ok_c (sn_iload_n (show decode cX8_weld 36 = .ok (.iload_n 3, 1) by decide +kernel) rfl) <|
  ok_c (sn_if_eq (show decode cX8_weld 40 = .ok (.ifCond .eq 8, 3) by decide +kernel) (by decide)) <|
  ok_c (sn_iload (show decode cX8_weld 43 = .ok (.iload 5, 2) by decide +kernel)) <|
  ok_c (sn_if_ne (show decode cX8_weld 45 = .ok (.ifCond .ne 6, 3) by decide +kernel) (by decide)) <|
  ok_c (sn_bipush (v := (-2)) (show decode cX8_weld 48 = .ok (.bipush (-2), 2) by decide +kernel) (by decide +kernel)) <|
  ok_c (sn_aload_n (show decode cX8_weld 51 = .ok (.aload_n 0, 1) by decide +kernel) rfl) <|
  ok_c (sn_getT (j := 6) (fun _ _ => rfl) (sn_get ck_8 (by decide) (show decode cX8_weld 52 = .ok (.getfield 51, 3) by decide +kernel) wd_2_130)) <|
  ok_c (sn_getO (j := 18) (fun _ _ => rfl) (sn_get ck_7 (by decide) (show decode cX8_weld 55 = .ok (.getfield 313, 3) by decide +kernel) wd_1_159)) <|
  ok_c (sn_getI (fun _ _ => rfl) (sn_get ck_0 (by decide) (show decode cX8_weld 58 = .ok (.getfield 329, 3) by decide +kernel) wd_1_72)) <|
  ok_c (sn_bipush (v := 30) (show decode cX8_weld 61 = .ok (.bipush 30, 2) by decide +kernel) (by decide +kernel)) <|
  ok_c (sn_ic_lt (show decode cX8_weld 63 = .ok (.if_icmp .lt 6, 3) by decide +kernel) (by decide)) <|
  ok_c (sn_bipush (v := (-5)) (show decode cX8_weld 66 = .ok (.bipush (-5), 2) by decide +kernel) (by decide +kernel)) <|
  ok_c (sn_aload_n (show decode cX8_weld 69 = .ok (.aload_n 0, 1) by decide +kernel) rfl) <|
  ok_c (sn_getT (j := 6) (fun _ _ => rfl) (sn_get ck_8 (by decide) (show decode cX8_weld 70 = .ok (.getfield 51, 3) by decide +kernel) wd_2_130)) <|
  ok_c (sn_getO (j := 18) (fun _ _ => rfl) (sn_get ck_7 (by decide) (show decode cX8_weld 73 = .ok (.getfield 313, 3) by decide +kernel) wd_1_159)) <|
  ok_c (sn_iload_n (show decode cX8_weld 76 = .ok (.iload_n 1, 1) by decide +kernel) rfl) <|
  ok_c (sn_iload_n (show decode cX8_weld 77 = .ok (.iload_n 2, 1) by decide +kernel) rfl) <|
  ok_c (sn_iload_n (show decode cX8_weld 78 = .ok (.iload_n 3, 1) by decide +kernel) rfl) <|
  ok_c (sn_iload (show decode cX8_weld 79 = .ok (.iload 4, 2) by decide +kernel)) <|
  ok_c (sn_aload_n (show decode cX8_weld 84 = .ok (.aload_n 0, 1) by decide +kernel) rfl) <|
  ok_c (sn_aload_n (show decode cX8_weld 88 = .ok (.aload_n 0, 1) by decide +kernel) rfl) <|
  ok_c (sn_getC (j := 3) (fun _ _ => rfl) (sn_get ck_8 (by decide) (show decode cX8_weld 89 = .ok (.getfield 33, 3) by decide +kernel) wd_2_127)) <|
  ok_c (sn_iload_n (show decode cX8_weld 92 = .ok (.iload_n 1, 1) by decide +kernel) rfl) <|
  ok_c (sn_iload_n (show decode cX8_weld 93 = .ok (.iload_n 2, 1) by decide +kernel) rfl) <|
  ok_c (sn_iload_n (show decode cX8_weld 94 = .ok (.iload_n 3, 1) by decide +kernel) rfl) <|
  ok_c (sn_if_eq (show decode cX8_weld 98 = .ok (.ifCond .eq 7, 3) by decide +kernel) (by decide)) <|
  ok_c (sn_iconst (v := 1) (show decode cX8_weld 101 = .ok (.iconst 1, 1) by decide +kernel) (by decide +kernel)) <|
  ok_c (sn_goto (show decode cX8_weld 102 = .ok (.goto 4, 3) by decide +kernel) (by decide)) <|
  ok_c (sn_iconst (v := 0) (show decode cX8_weld 105 = .ok (.iconst 0, 1) by decide +kernel) (by decide +kernel)) <|
  ok_n
def uX8_weld : gCT := [(26, YX7_hasPair, 3, some 7), (37, YX7_hasYear, 2, some 7), (81, YX0_add, 5, some 0), (85, YX8_liveAsNow, 1, some 8), (95, YX2_areTied, 4, some 2)]
set_option maxRecDepth 100000 in
theorem ocX8_weld : gOkC YX8_weld uX8_weld := oc_c (gEdge_V cal_X7_hasPair ck_7 rfl (show decode cX8_weld 26 = .ok (.invokevirtual 124, 3) by decide +kernel) wd_3_187 wd_3_188 wd_3_189) <|
  oc_c (gEdge_V cal_X7_hasYear ck_7 rfl (show decode cX8_weld 37 = .ok (.invokevirtual 115, 3) by decide +kernel) wd_3_98 wd_3_99 wd_3_100) <|
  oc_c (gEdge_V cal_X0_add ck_0 rfl (show decode cX8_weld 81 = .ok (.invokevirtual 317, 3) by decide +kernel) wd_5_74 wd_5_75 wd_5_76) <|
  oc_c (gEdge_V cal_X8_liveAsNow ck_8 rfl (show decode cX8_weld 85 = .ok (.invokevirtual 118, 3) by decide +kernel) wd_3_102 wd_3_104 wp_1_13) <|
  oc_c (gEdge_V cal_X2_areTied ck_2 rfl (show decode cX8_weld 95 = .ok (.invokevirtual 128, 3) by decide +kernel) wd_3_192 wd_3_193 wd_3_194) <|
  oc_n
theorem reX8_weld : ∀ pc ∈ [50, 68, 106], decode cX8_weld pc = .ok (.ireturn, 1) := by decide +kernel
def tX8_snip : List (Nat × gStp) := [(0, i_aload 0 1), (1, i_getT 8 0 4), (4, i_iload 1 5), (5, i_iload 2 6), (9, i_if_eq 23 12), (12, i_aload 0 13), (13, i_getT 8 0 16), (16, i_iload 3 17), (20, i_if_ne 26 23), (23, i_push (.int (-2)) 25), (26, i_aload 0 27), (27, i_getT 8 0 30), (30, i_getO 7 10 33), (33, i_getI 0 4 36), (36, i_push (.int 30) 38), (38, i_ic_lt 44 41), (41, i_push (.int (-5)) 43), (44, i_aload 0 45), (48, i_aload 0 49), (49, i_getT 8 0 52), (52, i_getO 7 10 55), (55, i_iload 1 56), (56, i_iload 2 57), (57, i_iload 3 58), (58, i_push (.int 0) 59), (62, i_aload 0 63), (63, i_getC 8 14 66), (66, i_iload 1 67), (67, i_iload 2 68), (68, i_iload 3 69), (72, i_if_eq 79 75), (75, i_push (.int 1) 76), (76, i_goto 80), (79, i_push (.int 0) 80)]
set_option maxRecDepth 100000 in
theorem okX8_snip : gOk YX8_snip tX8_snip := ok_c (sn_aload_n (show decode cX8_snip 0 = .ok (.aload_n 0, 1) by decide +kernel) rfl) <|
  ok_c (sn_getT (j := 6) (fun _ _ => rfl) (sn_get ck_8 (by decide) (show decode cX8_snip 1 = .ok (.getfield 51, 3) by decide +kernel) wd_2_130)) <|
  ok_c (sn_iload_n (show decode cX8_snip 4 = .ok (.iload_n 1, 1) by decide +kernel) rfl) <|
  ok_c (sn_iload_n (show decode cX8_snip 5 = .ok (.iload_n 2, 1) by decide +kernel) rfl) <|
  ok_c (sn_if_eq (show decode cX8_snip 9 = .ok (.ifCond .eq 14, 3) by decide +kernel) (by decide)) <|
  ok_c (sn_aload_n (show decode cX8_snip 12 = .ok (.aload_n 0, 1) by decide +kernel) rfl) <|
  ok_c (sn_getT (j := 6) (fun _ _ => rfl) (sn_get ck_8 (by decide) (show decode cX8_snip 13 = .ok (.getfield 51, 3) by decide +kernel) wd_2_130)) <|
  ok_c (sn_iload_n (show decode cX8_snip 16 = .ok (.iload_n 3, 1) by decide +kernel) rfl) <|
  ok_c (sn_if_ne (show decode cX8_snip 20 = .ok (.ifCond .ne 6, 3) by decide +kernel) (by decide)) <|
  ok_c (sn_bipush (v := (-2)) (show decode cX8_snip 23 = .ok (.bipush (-2), 2) by decide +kernel) (by decide +kernel)) <|
  ok_c (sn_aload_n (show decode cX8_snip 26 = .ok (.aload_n 0, 1) by decide +kernel) rfl) <|
  ok_c (sn_getT (j := 6) (fun _ _ => rfl) (sn_get ck_8 (by decide) (show decode cX8_snip 27 = .ok (.getfield 51, 3) by decide +kernel) wd_2_130)) <|
  ok_c (sn_getO (j := 18) (fun _ _ => rfl) (sn_get ck_7 (by decide) (show decode cX8_snip 30 = .ok (.getfield 313, 3) by decide +kernel) wd_1_159)) <|
  ok_c (sn_getI (fun _ _ => rfl) (sn_get ck_0 (by decide) (show decode cX8_snip 33 = .ok (.getfield 329, 3) by decide +kernel) wd_1_72)) <|
  ok_c (sn_bipush (v := 30) (show decode cX8_snip 36 = .ok (.bipush 30, 2) by decide +kernel) (by decide +kernel)) <|
  ok_c (sn_ic_lt (show decode cX8_snip 38 = .ok (.if_icmp .lt 6, 3) by decide +kernel) (by decide)) <|
  ok_c (sn_bipush (v := (-5)) (show decode cX8_snip 41 = .ok (.bipush (-5), 2) by decide +kernel) (by decide +kernel)) <|
  ok_c (sn_aload_n (show decode cX8_snip 44 = .ok (.aload_n 0, 1) by decide +kernel) rfl) <|
  ok_c (sn_aload_n (show decode cX8_snip 48 = .ok (.aload_n 0, 1) by decide +kernel) rfl) <|
  ok_c (sn_getT (j := 6) (fun _ _ => rfl) (sn_get ck_8 (by decide) (show decode cX8_snip 49 = .ok (.getfield 51, 3) by decide +kernel) wd_2_130)) <|
  ok_c (sn_getO (j := 18) (fun _ _ => rfl) (sn_get ck_7 (by decide) (show decode cX8_snip 52 = .ok (.getfield 313, 3) by decide +kernel) wd_1_159)) <|
  ok_c (sn_iload_n (show decode cX8_snip 55 = .ok (.iload_n 1, 1) by decide +kernel) rfl) <|
  ok_c (sn_iload_n (show decode cX8_snip 56 = .ok (.iload_n 2, 1) by decide +kernel) rfl) <|
  ok_c (sn_iload_n (show decode cX8_snip 57 = .ok (.iload_n 3, 1) by decide +kernel) rfl) <|
  ok_c (sn_iconst (v := 0) (show decode cX8_snip 58 = .ok (.iconst 0, 1) by decide +kernel) (by decide +kernel)) <|
  ok_c (sn_aload_n (show decode cX8_snip 62 = .ok (.aload_n 0, 1) by decide +kernel) rfl) <|
  ok_c (sn_getC (j := 3) (fun _ _ => rfl) (sn_get ck_8 (by decide) (show decode cX8_snip 63 = .ok (.getfield 33, 3) by decide +kernel) wd_2_127)) <|
  ok_c (sn_iload_n (show decode cX8_snip 66 = .ok (.iload_n 1, 1) by decide +kernel) rfl) <|
  ok_c (sn_iload_n (show decode cX8_snip 67 = .ok (.iload_n 2, 1) by decide +kernel) rfl) <|
  ok_c (sn_iload_n (show decode cX8_snip 68 = .ok (.iload_n 3, 1) by decide +kernel) rfl) <|
  ok_c (sn_if_eq (show decode cX8_snip 72 = .ok (.ifCond .eq 7, 3) by decide +kernel) (by decide)) <|
  ok_c (sn_iconst (v := 1) (show decode cX8_snip 75 = .ok (.iconst 1, 1) by decide +kernel) (by decide +kernel)) <|
  ok_c (sn_goto (show decode cX8_snip 76 = .ok (.goto 4, 3) by decide +kernel) (by decide)) <|
  ok_c (sn_iconst (v := 0) (show decode cX8_snip 79 = .ok (.iconst 0, 1) by decide +kernel) (by decide +kernel)) <|
  ok_n
def uX8_snip : gCT := [(6, YX7_hasPair, 3, some 7), (17, YX7_hasYear, 2, some 7), (45, YX8_liveAsNow, 1, some 8), (59, YX0_add, 5, some 0), (69, YX2_areTied, 4, some 2)]
set_option maxRecDepth 100000 in
theorem ocX8_snip : gOkC YX8_snip uX8_snip := oc_c (gEdge_V cal_X7_hasPair ck_7 rfl (show decode cX8_snip 6 = .ok (.invokevirtual 124, 3) by decide +kernel) wd_3_187 wd_3_188 wd_3_189) <|
  oc_c (gEdge_V cal_X7_hasYear ck_7 rfl (show decode cX8_snip 17 = .ok (.invokevirtual 115, 3) by decide +kernel) wd_3_98 wd_3_99 wd_3_100) <|
  oc_c (gEdge_V cal_X8_liveAsNow ck_8 rfl (show decode cX8_snip 45 = .ok (.invokevirtual 118, 3) by decide +kernel) wd_3_102 wd_3_104 wp_1_13) <|
  oc_c (gEdge_V cal_X0_add ck_0 rfl (show decode cX8_snip 59 = .ok (.invokevirtual 317, 3) by decide +kernel) wd_5_74 wd_5_75 wd_5_76) <|
  oc_c (gEdge_V cal_X2_areTied ck_2 rfl (show decode cX8_snip 69 = .ok (.invokevirtual 128, 3) by decide +kernel) wd_3_192 wd_3_193 wd_3_194) <|
  oc_n
theorem reX8_snip : ∀ pc ∈ [25, 43, 80], decode cX8_snip pc = .ok (.ireturn, 1) := by decide +kernel
def tX8_undo : List (Nat × gStp) := [(0, i_aload 0 1), (1, i_getT 8 0 4), (7, i_if_ne 13 10), (10, i_push (.int (-2)) 12), (13, i_aload 0 14), (14, i_getT 8 0 17), (17, i_getO 7 10 20), (20, i_getI 0 4 23), (23, i_if_ne 29 26), (26, i_push (.int (-5)) 28), (29, i_aload 0 30), (30, i_getT 8 0 33), (33, i_getO 7 10 36), (39, i_aload 0 40), (40, i_getT 8 0 43), (43, i_getO 7 10 46), (46, i_getI 0 4 49)]
set_option maxRecDepth 100000 in
theorem okX8_undo : gOk YX8_undo tX8_undo := ok_c (sn_aload_n (show decode cX8_undo 0 = .ok (.aload_n 0, 1) by decide +kernel) rfl) <|
  ok_c (sn_getT (j := 6) (fun _ _ => rfl) (sn_get ck_8 (by decide) (show decode cX8_undo 1 = .ok (.getfield 51, 3) by decide +kernel) wd_2_130)) <|
  ok_c (sn_if_ne (show decode cX8_undo 7 = .ok (.ifCond .ne 6, 3) by decide +kernel) (by decide)) <|
  ok_c (sn_bipush (v := (-2)) (show decode cX8_undo 10 = .ok (.bipush (-2), 2) by decide +kernel) (by decide +kernel)) <|
  ok_c (sn_aload_n (show decode cX8_undo 13 = .ok (.aload_n 0, 1) by decide +kernel) rfl) <|
  ok_c (sn_getT (j := 6) (fun _ _ => rfl) (sn_get ck_8 (by decide) (show decode cX8_undo 14 = .ok (.getfield 51, 3) by decide +kernel) wd_2_130)) <|
  ok_c (sn_getO (j := 18) (fun _ _ => rfl) (sn_get ck_7 (by decide) (show decode cX8_undo 17 = .ok (.getfield 313, 3) by decide +kernel) wd_1_159)) <|
  ok_c (sn_getI (fun _ _ => rfl) (sn_get ck_0 (by decide) (show decode cX8_undo 20 = .ok (.getfield 329, 3) by decide +kernel) wd_1_72)) <|
  ok_c (sn_if_ne (show decode cX8_undo 23 = .ok (.ifCond .ne 6, 3) by decide +kernel) (by decide)) <|
  ok_c (sn_bipush (v := (-5)) (show decode cX8_undo 26 = .ok (.bipush (-5), 2) by decide +kernel) (by decide +kernel)) <|
  ok_c (sn_aload_n (show decode cX8_undo 29 = .ok (.aload_n 0, 1) by decide +kernel) rfl) <|
  ok_c (sn_getT (j := 6) (fun _ _ => rfl) (sn_get ck_8 (by decide) (show decode cX8_undo 30 = .ok (.getfield 51, 3) by decide +kernel) wd_2_130)) <|
  ok_c (sn_getO (j := 18) (fun _ _ => rfl) (sn_get ck_7 (by decide) (show decode cX8_undo 33 = .ok (.getfield 313, 3) by decide +kernel) wd_1_159)) <|
  ok_c (sn_aload_n (show decode cX8_undo 39 = .ok (.aload_n 0, 1) by decide +kernel) rfl) <|
  ok_c (sn_getT (j := 6) (fun _ _ => rfl) (sn_get ck_8 (by decide) (show decode cX8_undo 40 = .ok (.getfield 51, 3) by decide +kernel) wd_2_130)) <|
  ok_c (sn_getO (j := 18) (fun _ _ => rfl) (sn_get ck_7 (by decide) (show decode cX8_undo 43 = .ok (.getfield 313, 3) by decide +kernel) wd_1_159)) <|
  ok_c (sn_getI (fun _ _ => rfl) (sn_get ck_0 (by decide) (show decode cX8_undo 46 = .ok (.getfield 329, 3) by decide +kernel) wd_1_72)) <|
  ok_n
def uX8_undo : gCT := [(4, YX7_isTold, 1, some 7), (36, YX0_takeBack, 1, some 0)]
set_option maxRecDepth 100000 in
theorem ocX8_undo : gOkC YX8_undo uX8_undo := oc_c (gEdge_V cal_X7_isTold ck_7 rfl (show decode cX8_undo 4 = .ok (.invokevirtual 190, 3) by decide +kernel) wd_4_59 wd_4_60 wd_4_61) <|
  oc_c (gEdge_V cal_X0_takeBack ck_0 rfl (show decode cX8_undo 36 = .ok (.invokevirtual 323, 3) by decide +kernel) wd_5_78 wd_5_79 wd_5_80) <|
  oc_n
theorem reX8_undo : ∀ pc ∈ [12, 28, 49], decode cX8_undo pc = .ok (.ireturn, 1) := by decide +kernel
def tX8_anew : List (Nat × gStp) := [(0, i_aload 0 1), (1, i_getT 8 0 4), (7, i_if_ne 13 10), (10, i_push (.int (-2)) 12), (13, i_aload 0 14), (14, i_getT 8 0 17), (17, i_getO 7 10 20), (20, i_getI 0 4 23), (23, i_istore 1 24), (24, i_aload 0 25), (25, i_getT 8 0 28), (28, i_getO 7 10 31), (31, i_push (.int 0) 32), (32, i_putI 0 4 35), (35, i_iload 1 36)]
set_option maxRecDepth 100000 in
theorem okX8_anew : gOk YX8_anew tX8_anew := ok_c (sn_aload_n (show decode cX8_anew 0 = .ok (.aload_n 0, 1) by decide +kernel) rfl) <|
  ok_c (sn_getT (j := 6) (fun _ _ => rfl) (sn_get ck_8 (by decide) (show decode cX8_anew 1 = .ok (.getfield 51, 3) by decide +kernel) wd_2_130)) <|
  ok_c (sn_if_ne (show decode cX8_anew 7 = .ok (.ifCond .ne 6, 3) by decide +kernel) (by decide)) <|
  ok_c (sn_bipush (v := (-2)) (show decode cX8_anew 10 = .ok (.bipush (-2), 2) by decide +kernel) (by decide +kernel)) <|
  ok_c (sn_aload_n (show decode cX8_anew 13 = .ok (.aload_n 0, 1) by decide +kernel) rfl) <|
  ok_c (sn_getT (j := 6) (fun _ _ => rfl) (sn_get ck_8 (by decide) (show decode cX8_anew 14 = .ok (.getfield 51, 3) by decide +kernel) wd_2_130)) <|
  ok_c (sn_getO (j := 18) (fun _ _ => rfl) (sn_get ck_7 (by decide) (show decode cX8_anew 17 = .ok (.getfield 313, 3) by decide +kernel) wd_1_159)) <|
  ok_c (sn_getI (fun _ _ => rfl) (sn_get ck_0 (by decide) (show decode cX8_anew 20 = .ok (.getfield 329, 3) by decide +kernel) wd_1_72)) <|
  ok_c (sn_istore_n (show decode cX8_anew 23 = .ok (.istore_n 1, 1) by decide +kernel) rfl (by decide)) <|
  ok_c (sn_aload_n (show decode cX8_anew 24 = .ok (.aload_n 0, 1) by decide +kernel) rfl) <|
  ok_c (sn_getT (j := 6) (fun _ _ => rfl) (sn_get ck_8 (by decide) (show decode cX8_anew 25 = .ok (.getfield 51, 3) by decide +kernel) wd_2_130)) <|
  ok_c (sn_getO (j := 18) (fun _ _ => rfl) (sn_get ck_7 (by decide) (show decode cX8_anew 28 = .ok (.getfield 313, 3) by decide +kernel) wd_1_159)) <|
  ok_c (sn_iconst (v := 0) (show decode cX8_anew 31 = .ok (.iconst 0, 1) by decide +kernel) (by decide +kernel)) <|
  ok_c (sn_putI ck_0 (by decide) rfl rfl (show decode cX8_anew 32 = .ok (.putfield 329, 3) by decide +kernel) wd_1_72) <|
  ok_c (sn_iload_n (show decode cX8_anew 35 = .ok (.iload_n 1, 1) by decide +kernel) rfl) <|
  ok_n
def uX8_anew : gCT := [(4, YX7_isTold, 1, some 7)]
set_option maxRecDepth 100000 in
theorem ocX8_anew : gOkC YX8_anew uX8_anew := oc_c (gEdge_V cal_X7_isTold ck_7 rfl (show decode cX8_anew 4 = .ok (.invokevirtual 190, 3) by decide +kernel) wd_4_59 wd_4_60 wd_4_61) <|
  oc_n
theorem reX8_anew : ∀ pc ∈ [12, 36], decode cX8_anew pc = .ok (.ireturn, 1) := by decide +kernel
def tX8_drawn : List (Nat × gStp) := [(0, i_aload 0 1), (1, i_getT 8 0 4), (7, i_if_eq 24 10), (10, i_iload 1 11), (14, i_if_eq 24 17), (17, i_iload 2 18), (21, i_if_ne 27 24), (24, i_push (.int (-2)) 26), (27, i_aload 0 28), (28, i_iload 1 29), (32, i_istore 3 33), (33, i_iload 2 34), (34, i_push (.int 1) 35), (35, i_ic_ne 42 38), (38, i_iload 3 39), (39, i_goto 47), (42, i_aload 0 43), (43, i_iload 3 44)]
set_option maxRecDepth 100000 in
theorem okX8_drawn : gOk YX8_drawn tX8_drawn := ok_c (sn_aload_n (show decode cX8_drawn 0 = .ok (.aload_n 0, 1) by decide +kernel) rfl) <|
  ok_c (sn_getT (j := 6) (fun _ _ => rfl) (sn_get ck_8 (by decide) (show decode cX8_drawn 1 = .ok (.getfield 51, 3) by decide +kernel) wd_2_130)) <|
  ok_c (sn_if_eq (show decode cX8_drawn 7 = .ok (.ifCond .eq 17, 3) by decide +kernel) (by decide)) <|
  ok_c (sn_iload_n (show decode cX8_drawn 10 = .ok (.iload_n 1, 1) by decide +kernel) rfl) <|
  ok_c (sn_if_eq (show decode cX8_drawn 14 = .ok (.ifCond .eq 10, 3) by decide +kernel) (by decide)) <|
  ok_c (sn_iload_n (show decode cX8_drawn 17 = .ok (.iload_n 2, 1) by decide +kernel) rfl) <|
  ok_c (sn_if_ne (show decode cX8_drawn 21 = .ok (.ifCond .ne 6, 3) by decide +kernel) (by decide)) <|
  ok_c (sn_bipush (v := (-2)) (show decode cX8_drawn 24 = .ok (.bipush (-2), 2) by decide +kernel) (by decide +kernel)) <|
  ok_c (sn_aload_n (show decode cX8_drawn 27 = .ok (.aload_n 0, 1) by decide +kernel) rfl) <|
  ok_c (sn_iload_n (show decode cX8_drawn 28 = .ok (.iload_n 1, 1) by decide +kernel) rfl) <|
  ok_c (sn_istore_n (show decode cX8_drawn 32 = .ok (.istore_n 3, 1) by decide +kernel) rfl (by decide)) <|
  ok_c (sn_iload_n (show decode cX8_drawn 33 = .ok (.iload_n 2, 1) by decide +kernel) rfl) <|
  ok_c (sn_iconst (v := 1) (show decode cX8_drawn 34 = .ok (.iconst 1, 1) by decide +kernel) (by decide +kernel)) <|
  ok_c (sn_ic_ne (show decode cX8_drawn 35 = .ok (.if_icmp .ne 7, 3) by decide +kernel) (by decide)) <|
  ok_c (sn_iload_n (show decode cX8_drawn 38 = .ok (.iload_n 3, 1) by decide +kernel) rfl) <|
  ok_c (sn_goto (show decode cX8_drawn 39 = .ok (.goto 8, 3) by decide +kernel) (by decide)) <|
  ok_c (sn_aload_n (show decode cX8_drawn 42 = .ok (.aload_n 0, 1) by decide +kernel) rfl) <|
  ok_c (sn_iload_n (show decode cX8_drawn 43 = .ok (.iload_n 3, 1) by decide +kernel) rfl) <|
  ok_n
def uX8_drawn : gCT := [(4, YX7_isTold, 1, some 7), (11, YX8_isSeed, 1, none), (18, YX8_isEither, 1, none), (29, YX8_drawFalseJoins, 2, some 8), (44, YX8_outAtLast, 2, some 8)]
set_option maxRecDepth 100000 in
theorem ocX8_drawn : gOkC YX8_drawn uX8_drawn := oc_c (gEdge_V cal_X7_isTold ck_7 rfl (show decode cX8_drawn 4 = .ok (.invokevirtual 190, 3) by decide +kernel) wd_4_59 wd_4_60 wd_4_61) <|
  oc_c (gEdge_S cal_X8_isSeed (show decode cX8_drawn 11 = .ok (.invokestatic 332, 3) by decide +kernel) wd_5_127 wd_5_128) <|
  oc_c (gEdge_S cal_X8_isEither (show decode cX8_drawn 18 = .ok (.invokestatic 212, 3) by decide +kernel) wd_4_120 wd_4_121) <|
  oc_c (gEdge_V cal_X8_drawFalseJoins ck_8 rfl (show decode cX8_drawn 29 = .ok (.invokevirtual 335, 3) by decide +kernel) wd_5_131 wd_5_133 wp_3_10) <|
  oc_c (gEdge_V cal_X8_outAtLast ck_8 rfl (show decode cX8_drawn 44 = .ok (.invokevirtual 338, 3) by decide +kernel) wd_5_140 wd_5_142 wp_3_11) <|
  oc_n
theorem reX8_drawn : ∀ pc ∈ [26, 47], decode cX8_drawn pc = .ok (.ireturn, 1) := by decide +kernel
def tX8_luck : List (Nat × gStp) := [(0, i_aload 0 1), (1, i_getT 8 0 4), (4, i_iload 3 5), (8, i_if_eq 29 11), (11, i_iload 1 12), (15, i_if_eq 29 18), (18, i_iload 2 19), (19, i_push (.int 1) 20), (20, i_ic_lt 29 23), (23, i_iload 2 24), (24, i_push (.int 20) 26), (26, i_ic_le 32 29), (29, i_push (.int (-2)) 31), (32, i_push (.int 0) 33), (33, i_istore 4 35), (35, i_push (.int 0) 36), (36, i_istore 5 38), (38, i_iload 5 40), (40, i_iload 2 41), (41, i_ic_ge 72 44), (44, i_aload 0 45), (45, i_aload 0 46), (46, i_iload 1 47), (47, i_iload 5 49), (49, i_ii (fun x y => x + y) 50), (56, i_iload 3 57), (60, i_if_eq 66 63), (63, i_iinc 4 1 66), (66, i_iinc 5 1 69), (69, i_goto 38), (72, i_iload 4 74)]
set_option maxRecDepth 100000 in
theorem okX8_luck : gOk YX8_luck tX8_luck := ok_c (sn_aload_n (show decode cX8_luck 0 = .ok (.aload_n 0, 1) by decide +kernel) rfl) <|
  ok_c (sn_getT (j := 6) (fun _ _ => rfl) (sn_get ck_8 (by decide) (show decode cX8_luck 1 = .ok (.getfield 51, 3) by decide +kernel) wd_2_130)) <|
  ok_c (sn_iload_n (show decode cX8_luck 4 = .ok (.iload_n 3, 1) by decide +kernel) rfl) <|
  ok_c (sn_if_eq (show decode cX8_luck 8 = .ok (.ifCond .eq 21, 3) by decide +kernel) (by decide)) <|
  ok_c (sn_iload_n (show decode cX8_luck 11 = .ok (.iload_n 1, 1) by decide +kernel) rfl) <|
  ok_c (sn_if_eq (show decode cX8_luck 15 = .ok (.ifCond .eq 14, 3) by decide +kernel) (by decide)) <|
  ok_c (sn_iload_n (show decode cX8_luck 18 = .ok (.iload_n 2, 1) by decide +kernel) rfl) <|
  ok_c (sn_iconst (v := 1) (show decode cX8_luck 19 = .ok (.iconst 1, 1) by decide +kernel) (by decide +kernel)) <|
  ok_c (sn_ic_lt (show decode cX8_luck 20 = .ok (.if_icmp .lt 9, 3) by decide +kernel) (by decide)) <|
  ok_c (sn_iload_n (show decode cX8_luck 23 = .ok (.iload_n 2, 1) by decide +kernel) rfl) <|
  ok_c (sn_bipush (v := 20) (show decode cX8_luck 24 = .ok (.bipush 20, 2) by decide +kernel) (by decide +kernel)) <|
  ok_c (sn_ic_le (show decode cX8_luck 26 = .ok (.if_icmp .le 6, 3) by decide +kernel) (by decide)) <|
  ok_c (sn_bipush (v := (-2)) (show decode cX8_luck 29 = .ok (.bipush (-2), 2) by decide +kernel) (by decide +kernel)) <|
  ok_c (sn_iconst (v := 0) (show decode cX8_luck 32 = .ok (.iconst 0, 1) by decide +kernel) (by decide +kernel)) <|
  ok_c (sn_istore (show decode cX8_luck 33 = .ok (.istore 4, 2) by decide +kernel) (by decide)) <|
  ok_c (sn_iconst (v := 0) (show decode cX8_luck 35 = .ok (.iconst 0, 1) by decide +kernel) (by decide +kernel)) <|
  ok_c (sn_istore (show decode cX8_luck 36 = .ok (.istore 5, 2) by decide +kernel) (by decide)) <|
  ok_c (sn_iload (show decode cX8_luck 38 = .ok (.iload 5, 2) by decide +kernel)) <|
  ok_c (sn_iload_n (show decode cX8_luck 40 = .ok (.iload_n 2, 1) by decide +kernel) rfl) <|
  ok_c (sn_ic_ge (show decode cX8_luck 41 = .ok (.if_icmp .ge 31, 3) by decide +kernel) (by decide)) <|
  ok_c (sn_aload_n (show decode cX8_luck 44 = .ok (.aload_n 0, 1) by decide +kernel) rfl) <|
  ok_c (sn_aload_n (show decode cX8_luck 45 = .ok (.aload_n 0, 1) by decide +kernel) rfl) <|
  ok_c (sn_iload_n (show decode cX8_luck 46 = .ok (.iload_n 1, 1) by decide +kernel) rfl) <|
  ok_c (sn_iload (show decode cX8_luck 47 = .ok (.iload 5, 2) by decide +kernel)) <|
  ok_c (sn_iadd (show decode cX8_luck 49 = .ok (.iadd, 1) by decide +kernel)) <|
  ok_c (sn_iload_n (show decode cX8_luck 56 = .ok (.iload_n 3, 1) by decide +kernel) rfl) <|
  ok_c (sn_if_eq (show decode cX8_luck 60 = .ok (.ifCond .eq 6, 3) by decide +kernel) (by decide)) <|
  ok_c (sn_iinc (show decode cX8_luck 63 = .ok (.iinc 4 1, 3) by decide +kernel) (by decide) (by decide +kernel)) <|
  ok_c (sn_iinc (show decode cX8_luck 66 = .ok (.iinc 5 1, 3) by decide +kernel) (by decide) (by decide +kernel)) <|
  ok_c (sn_goto (show decode cX8_luck 69 = .ok (.goto (-31), 3) by decide +kernel) (by decide)) <|
  ok_c (sn_iload (show decode cX8_luck 72 = .ok (.iload 4, 2) by decide +kernel)) <|
  ok_n
def uX8_luck : gCT := [(5, YX7_hasPartner, 2, some 7), (12, YX8_isSeed, 1, none), (50, YX8_drawFalseJoins, 2, some 8), (53, YX8_outAtLast, 2, some 8), (57, YX8_has, 2, none)]
set_option maxRecDepth 100000 in
theorem ocX8_luck : gOkC YX8_luck uX8_luck := oc_c (gEdge_V cal_X7_hasPartner ck_7 rfl (show decode cX8_luck 5 = .ok (.invokevirtual 83, 3) by decide +kernel) wd_3_74 wd_3_75 wd_3_76) <|
  oc_c (gEdge_S cal_X8_isSeed (show decode cX8_luck 12 = .ok (.invokestatic 332, 3) by decide +kernel) wd_5_127 wd_5_128) <|
  oc_c (gEdge_V cal_X8_drawFalseJoins ck_8 rfl (show decode cX8_luck 50 = .ok (.invokevirtual 335, 3) by decide +kernel) wd_5_131 wd_5_133 wp_3_10) <|
  oc_c (gEdge_V cal_X8_outAtLast ck_8 rfl (show decode cX8_luck 53 = .ok (.invokevirtual 338, 3) by decide +kernel) wd_5_140 wd_5_142 wp_3_11) <|
  oc_c (gEdge_S cal_X8_has (show decode cX8_luck 57 = .ok (.invokestatic 187, 3) by decide +kernel) wd_4_29 wd_3_119) <|
  oc_n
theorem reX8_luck : ∀ pc ∈ [31, 74], decode cX8_luck pc = .ok (.ireturn, 1) := by decide +kernel
def tX8_rate : List (Nat × gStp) := [(0, i_aload 0 1), (1, i_getT 8 0 4), (7, i_if_eq 20 10), (10, i_iload 1 11), (11, i_if_lt 20 14), (14, i_iload 1 15), (15, i_push (.int 20) 17), (17, i_ic_le 23 20), (20, i_push (.int (-2)) 22), (23, i_aload 0 24), (24, i_getT 8 0 27), (27, i_getO 7 10 30), (30, i_getI 0 4 33), (33, i_if_le 39 36), (36, i_push (.int (-5)) 38), (39, i_aload 0 40), (40, i_getT 8 0 43), (43, i_getI 7 3 46), (46, i_istore 2 47), (47, i_aload 0 48), (48, i_getT 8 0 51), (51, i_iload 1 52), (52, i_putI 7 3 55), (55, i_iload 2 56)]
set_option maxRecDepth 100000 in
theorem okX8_rate : gOk YX8_rate tX8_rate := ok_c (sn_aload_n (show decode cX8_rate 0 = .ok (.aload_n 0, 1) by decide +kernel) rfl) <|
  ok_c (sn_getT (j := 6) (fun _ _ => rfl) (sn_get ck_8 (by decide) (show decode cX8_rate 1 = .ok (.getfield 51, 3) by decide +kernel) wd_2_130)) <|
  ok_c (sn_if_eq (show decode cX8_rate 7 = .ok (.ifCond .eq 13, 3) by decide +kernel) (by decide)) <|
  ok_c (sn_iload_n (show decode cX8_rate 10 = .ok (.iload_n 1, 1) by decide +kernel) rfl) <|
  ok_c (sn_if_lt (show decode cX8_rate 11 = .ok (.ifCond .lt 9, 3) by decide +kernel) (by decide)) <|
  ok_c (sn_iload_n (show decode cX8_rate 14 = .ok (.iload_n 1, 1) by decide +kernel) rfl) <|
  ok_c (sn_bipush (v := 20) (show decode cX8_rate 15 = .ok (.bipush 20, 2) by decide +kernel) (by decide +kernel)) <|
  ok_c (sn_ic_le (show decode cX8_rate 17 = .ok (.if_icmp .le 6, 3) by decide +kernel) (by decide)) <|
  ok_c (sn_bipush (v := (-2)) (show decode cX8_rate 20 = .ok (.bipush (-2), 2) by decide +kernel) (by decide +kernel)) <|
  ok_c (sn_aload_n (show decode cX8_rate 23 = .ok (.aload_n 0, 1) by decide +kernel) rfl) <|
  ok_c (sn_getT (j := 6) (fun _ _ => rfl) (sn_get ck_8 (by decide) (show decode cX8_rate 24 = .ok (.getfield 51, 3) by decide +kernel) wd_2_130)) <|
  ok_c (sn_getO (j := 18) (fun _ _ => rfl) (sn_get ck_7 (by decide) (show decode cX8_rate 27 = .ok (.getfield 313, 3) by decide +kernel) wd_1_159)) <|
  ok_c (sn_getI (fun _ _ => rfl) (sn_get ck_0 (by decide) (show decode cX8_rate 30 = .ok (.getfield 329, 3) by decide +kernel) wd_1_72)) <|
  ok_c (sn_if_le (show decode cX8_rate 33 = .ok (.ifCond .le 6, 3) by decide +kernel) (by decide)) <|
  ok_c (sn_bipush (v := (-5)) (show decode cX8_rate 36 = .ok (.bipush (-5), 2) by decide +kernel) (by decide +kernel)) <|
  ok_c (sn_aload_n (show decode cX8_rate 39 = .ok (.aload_n 0, 1) by decide +kernel) rfl) <|
  ok_c (sn_getT (j := 6) (fun _ _ => rfl) (sn_get ck_8 (by decide) (show decode cX8_rate 40 = .ok (.getfield 51, 3) by decide +kernel) wd_2_130)) <|
  ok_c (sn_getI (fun _ _ => rfl) (sn_get ck_7 (by decide) (show decode cX8_rate 43 = .ok (.getfield 341, 3) by decide +kernel) wd_1_99)) <|
  ok_c (sn_istore_n (show decode cX8_rate 46 = .ok (.istore_n 2, 1) by decide +kernel) rfl (by decide)) <|
  ok_c (sn_aload_n (show decode cX8_rate 47 = .ok (.aload_n 0, 1) by decide +kernel) rfl) <|
  ok_c (sn_getT (j := 6) (fun _ _ => rfl) (sn_get ck_8 (by decide) (show decode cX8_rate 48 = .ok (.getfield 51, 3) by decide +kernel) wd_2_130)) <|
  ok_c (sn_iload_n (show decode cX8_rate 51 = .ok (.iload_n 1, 1) by decide +kernel) rfl) <|
  ok_c (sn_putI ck_7 (by decide) rfl rfl (show decode cX8_rate 52 = .ok (.putfield 341, 3) by decide +kernel) wd_1_99) <|
  ok_c (sn_iload_n (show decode cX8_rate 55 = .ok (.iload_n 2, 1) by decide +kernel) rfl) <|
  ok_n
def uX8_rate : gCT := [(4, YX7_isTold, 1, some 7)]
set_option maxRecDepth 100000 in
theorem ocX8_rate : gOkC YX8_rate uX8_rate := oc_c (gEdge_V cal_X7_isTold ck_7 rfl (show decode cX8_rate 4 = .ok (.invokevirtual 190, 3) by decide +kernel) wd_4_59 wd_4_60 wd_4_61) <|
  oc_n
theorem reX8_rate : ∀ pc ∈ [22, 38, 56], decode cX8_rate pc = .ok (.ireturn, 1) := by decide +kernel
def tX8_count : List (Nat × gStp) := [(0, i_iload 1 1), (1, i_sw [(0, 64), (1, 72), (2, 80), (3, 88), (4, 96), (5, 104), (6, 112), (7, 120), (8, 128), (9, 139), (10, 147), (11, 158)] 163), (64, i_aload 0 65), (65, i_getT 8 0 68), (68, i_getI 7 1 71), (72, i_aload 0 73), (73, i_getT 8 0 76), (76, i_getI 7 2 79), (80, i_aload 0 81), (81, i_getT 8 0 84), (84, i_getI 7 3 87), (88, i_aload 0 89), (89, i_getT 8 0 92), (92, i_getI 7 4 95), (96, i_aload 0 97), (97, i_getT 8 0 100), (100, i_getI 7 5 103), (104, i_aload 0 105), (105, i_getT 8 0 108), (108, i_getI 7 6 111), (112, i_aload 0 113), (113, i_getT 8 0 116), (116, i_getI 7 7 119), (120, i_aload 0 121), (121, i_getT 8 0 124), (124, i_getI 7 8 127), (128, i_aload 0 129), (129, i_getT 8 0 132), (132, i_getO 7 10 135), (135, i_getI 0 4 138), (139, i_aload 0 140), (140, i_getT 8 0 143), (143, i_getI 7 0 146), (147, i_aload 0 148), (148, i_getC 8 1 151), (151, i_getC 5 2 154), (154, i_getI 6 1 157), (158, i_aload 0 159), (163, i_push (.int (-1)) 164)]
set_option maxRecDepth 100000 in
theorem okX8_count : gOk YX8_count tX8_count := ok_c (sn_iload_n (show decode cX8_count 0 = .ok (.iload_n 1, 1) by decide +kernel) rfl) <|
  ok_c (sn_tsw (show decode cX8_count 1 = .ok (.tableswitch 162 0 11 #[63, 71, 79, 87, 95, 103, 111, 119, 127, 138, 146, 157], 63) by decide +kernel) (by decide +kernel) (by decide)) <|
  ok_c (sn_aload_n (show decode cX8_count 64 = .ok (.aload_n 0, 1) by decide +kernel) rfl) <|
  ok_c (sn_getT (j := 6) (fun _ _ => rfl) (sn_get ck_8 (by decide) (show decode cX8_count 65 = .ok (.getfield 51, 3) by decide +kernel) wd_2_130)) <|
  ok_c (sn_getI (fun _ _ => rfl) (sn_get ck_7 (by decide) (show decode cX8_count 68 = .ok (.getfield 184, 3) by decide +kernel) wd_1_90)) <|
  ok_c (sn_aload_n (show decode cX8_count 72 = .ok (.aload_n 0, 1) by decide +kernel) rfl) <|
  ok_c (sn_getT (j := 6) (fun _ _ => rfl) (sn_get ck_8 (by decide) (show decode cX8_count 73 = .ok (.getfield 51, 3) by decide +kernel) wd_2_130)) <|
  ok_c (sn_getI (fun _ _ => rfl) (sn_get ck_7 (by decide) (show decode cX8_count 76 = .ok (.getfield 140, 3) by decide +kernel) wd_1_95)) <|
  ok_c (sn_aload_n (show decode cX8_count 80 = .ok (.aload_n 0, 1) by decide +kernel) rfl) <|
  ok_c (sn_getT (j := 6) (fun _ _ => rfl) (sn_get ck_8 (by decide) (show decode cX8_count 81 = .ok (.getfield 51, 3) by decide +kernel) wd_2_130)) <|
  ok_c (sn_getI (fun _ _ => rfl) (sn_get ck_7 (by decide) (show decode cX8_count 84 = .ok (.getfield 341, 3) by decide +kernel) wd_1_99)) <|
  ok_c (sn_aload_n (show decode cX8_count 88 = .ok (.aload_n 0, 1) by decide +kernel) rfl) <|
  ok_c (sn_getT (j := 6) (fun _ _ => rfl) (sn_get ck_8 (by decide) (show decode cX8_count 89 = .ok (.getfield 51, 3) by decide +kernel) wd_2_130)) <|
  ok_c (sn_getI (fun _ _ => rfl) (sn_get ck_7 (by decide) (show decode cX8_count 92 = .ok (.getfield 344, 3) by decide +kernel) wd_1_102)) <|
  ok_c (sn_aload_n (show decode cX8_count 96 = .ok (.aload_n 0, 1) by decide +kernel) rfl) <|
  ok_c (sn_getT (j := 6) (fun _ _ => rfl) (sn_get ck_8 (by decide) (show decode cX8_count 97 = .ok (.getfield 51, 3) by decide +kernel) wd_2_130)) <|
  ok_c (sn_getI (fun _ _ => rfl) (sn_get ck_7 (by decide) (show decode cX8_count 100 = .ok (.getfield 150, 3) by decide +kernel) wd_1_108)) <|
  ok_c (sn_aload_n (show decode cX8_count 104 = .ok (.aload_n 0, 1) by decide +kernel) rfl) <|
  ok_c (sn_getT (j := 6) (fun _ _ => rfl) (sn_get ck_8 (by decide) (show decode cX8_count 105 = .ok (.getfield 51, 3) by decide +kernel) wd_2_130)) <|
  ok_c (sn_getI (fun _ _ => rfl) (sn_get ck_7 (by decide) (show decode cX8_count 108 = .ok (.getfield 248, 3) by decide +kernel) wd_1_113)) <|
  ok_c (sn_aload_n (show decode cX8_count 112 = .ok (.aload_n 0, 1) by decide +kernel) rfl) <|
  ok_c (sn_getT (j := 6) (fun _ _ => rfl) (sn_get ck_8 (by decide) (show decode cX8_count 113 = .ok (.getfield 51, 3) by decide +kernel) wd_2_130)) <|
  ok_c (sn_getI (fun _ _ => rfl) (sn_get ck_7 (by decide) (show decode cX8_count 116 = .ok (.getfield 347, 3) by decide +kernel) wd_1_118)) <|
  ok_c (sn_aload_n (show decode cX8_count 120 = .ok (.aload_n 0, 1) by decide +kernel) rfl) <|
  ok_c (sn_getT (j := 6) (fun _ _ => rfl) (sn_get ck_8 (by decide) (show decode cX8_count 121 = .ok (.getfield 51, 3) by decide +kernel) wd_2_130)) <|
  ok_c (sn_getI (fun _ _ => rfl) (sn_get ck_7 (by decide) (show decode cX8_count 124 = .ok (.getfield 350, 3) by decide +kernel) wd_1_122)) <|
  ok_c (sn_aload_n (show decode cX8_count 128 = .ok (.aload_n 0, 1) by decide +kernel) rfl) <|
  ok_c (sn_getT (j := 6) (fun _ _ => rfl) (sn_get ck_8 (by decide) (show decode cX8_count 129 = .ok (.getfield 51, 3) by decide +kernel) wd_2_130)) <|
  ok_c (sn_getO (j := 18) (fun _ _ => rfl) (sn_get ck_7 (by decide) (show decode cX8_count 132 = .ok (.getfield 313, 3) by decide +kernel) wd_1_159)) <|
  ok_c (sn_getI (fun _ _ => rfl) (sn_get ck_0 (by decide) (show decode cX8_count 135 = .ok (.getfield 329, 3) by decide +kernel) wd_1_72)) <|
  ok_c (sn_aload_n (show decode cX8_count 139 = .ok (.aload_n 0, 1) by decide +kernel) rfl) <|
  ok_c (sn_getT (j := 6) (fun _ _ => rfl) (sn_get ck_8 (by decide) (show decode cX8_count 140 = .ok (.getfield 51, 3) by decide +kernel) wd_2_130)) <|
  ok_c (sn_getI (fun _ _ => rfl) (sn_get ck_7 (by decide) (show decode cX8_count 143 = .ok (.getfield 74, 3) by decide +kernel) wd_1_87)) <|
  ok_c (sn_aload_n (show decode cX8_count 147 = .ok (.aload_n 0, 1) by decide +kernel) rfl) <|
  ok_c (sn_getC (j := 0) (fun _ _ => rfl) (sn_get ck_8 (by decide) (show decode cX8_count 148 = .ok (.getfield 10, 3) by decide +kernel) wd_2_124)) <|
  ok_c (sn_getC (j := 0) (fun _ _ => rfl) (sn_get ck_5 (by decide) (show decode cX8_count 151 = .ok (.getfield 55, 3) by decide +kernel) wd_1_200)) <|
  ok_c (sn_getI (fun _ _ => rfl) (sn_get ck_6 (by decide) (show decode cX8_count 154 = .ok (.getfield 59, 3) by decide +kernel) wd_1_41)) <|
  ok_c (sn_aload_n (show decode cX8_count 158 = .ok (.aload_n 0, 1) by decide +kernel) rfl) <|
  ok_c (sn_iconst (v := (-1)) (show decode cX8_count 163 = .ok (.iconst (-1), 1) by decide +kernel) (by decide +kernel)) <|
  ok_n
def uX8_count : gCT := [(159, YX8_rowCount, 1, some 8)]
set_option maxRecDepth 100000 in
theorem ocX8_count : gOkC YX8_count uX8_count := oc_c (gEdge_V cal_X8_rowCount ck_8 rfl (show decode cX8_count 159 = .ok (.invokevirtual 353, 3) by decide +kernel) wd_5_156 wd_5_158 wp_3_12) <|
  oc_n
theorem reX8_count : ∀ pc ∈ [71, 79, 87, 95, 103, 111, 119, 127, 138, 146, 157, 162, 164], decode cX8_count pc = .ok (.ireturn, 1) := by decide +kernel
def tX8_image : List (Nat × gStp) := [(0, i_iload 1 1), (1, i_if_lt 13 4), (4, i_iload 1 5), (5, i_aload 0 6), (6, i_getC 8 5 9), (9, i_alen 10), (10, i_ic_lt 16 13), (13, i_push (.int (-2)) 15), (16, i_aload 0 17), (17, i_getC 8 5 20), (20, i_iload 1 21), (21, i_aald6 22), (22, i_aload 0 23), (23, i_getT 8 0 26), (29, i_aload 0 30), (30, i_dup 31), (31, i_getI 8 7 34), (34, i_push (.int 1) 35), (35, i_iload 1 36), (36, i_ii (fun x y => x <<< (y &&& 31)) 37), (37, i_ii (fun x y => x ||| y) 38), (38, i_putI 8 7 41), (41, i_push (.int 0) 42)]
set_option maxRecDepth 100000 in
theorem okX8_image : gOk YX8_image tX8_image := ok_c (sn_iload_n (show decode cX8_image 0 = .ok (.iload_n 1, 1) by decide +kernel) rfl) <|
  ok_c (sn_if_lt (show decode cX8_image 1 = .ok (.ifCond .lt 12, 3) by decide +kernel) (by decide)) <|
  ok_c (sn_iload_n (show decode cX8_image 4 = .ok (.iload_n 1, 1) by decide +kernel) rfl) <|
  ok_c (sn_aload_n (show decode cX8_image 5 = .ok (.aload_n 0, 1) by decide +kernel) rfl) <|
  ok_c (sn_getC (j := 2) (fun _ _ => rfl) (sn_get ck_8 (by decide) (show decode cX8_image 6 = .ok (.getfield 25, 3) by decide +kernel) wd_2_126)) <|
  ok_c (sn_alen (show decode cX8_image 9 = .ok (.arraylength, 1) by decide +kernel)) <|
  ok_c (sn_ic_lt (show decode cX8_image 10 = .ok (.if_icmp .lt 6, 3) by decide +kernel) (by decide)) <|
  ok_c (sn_bipush (v := (-2)) (show decode cX8_image 13 = .ok (.bipush (-2), 2) by decide +kernel) (by decide +kernel)) <|
  ok_c (sn_aload_n (show decode cX8_image 16 = .ok (.aload_n 0, 1) by decide +kernel) rfl) <|
  ok_c (sn_getC (j := 2) (fun _ _ => rfl) (sn_get ck_8 (by decide) (show decode cX8_image 17 = .ok (.getfield 25, 3) by decide +kernel) wd_2_126)) <|
  ok_c (sn_iload_n (show decode cX8_image 20 = .ok (.iload_n 1, 1) by decide +kernel) rfl) <|
  ok_c (sn_aald6 (show decode cX8_image 21 = .ok (.aaload, 1) by decide +kernel)) <|
  ok_c (sn_aload_n (show decode cX8_image 22 = .ok (.aload_n 0, 1) by decide +kernel) rfl) <|
  ok_c (sn_getT (j := 6) (fun _ _ => rfl) (sn_get ck_8 (by decide) (show decode cX8_image 23 = .ok (.getfield 51, 3) by decide +kernel) wd_2_130)) <|
  ok_c (sn_aload_n (show decode cX8_image 29 = .ok (.aload_n 0, 1) by decide +kernel) rfl) <|
  ok_c (sn_dup (show decode cX8_image 30 = .ok (.dup, 1) by decide +kernel)) <|
  ok_c (sn_getI (fun _ _ => rfl) (sn_get ck_8 (by decide) (show decode cX8_image 31 = .ok (.getfield 361, 3) by decide +kernel) wd_2_131)) <|
  ok_c (sn_iconst (v := 1) (show decode cX8_image 34 = .ok (.iconst 1, 1) by decide +kernel) (by decide +kernel)) <|
  ok_c (sn_iload_n (show decode cX8_image 35 = .ok (.iload_n 1, 1) by decide +kernel) rfl) <|
  ok_c (sn_ishl (show decode cX8_image 36 = .ok (.ishl, 1) by decide +kernel)) <|
  ok_c (sn_ior (show decode cX8_image 37 = .ok (.ior, 1) by decide +kernel)) <|
  ok_c (sn_putI ck_8 (by decide) rfl rfl (show decode cX8_image 38 = .ok (.putfield 361, 3) by decide +kernel) wd_2_131) <|
  ok_c (sn_iconst (v := 0) (show decode cX8_image 41 = .ok (.iconst 0, 1) by decide +kernel) (by decide +kernel)) <|
  ok_n
def uX8_image : gCT := [(26, YX7_copyFrom, 2, some 7)]
set_option maxRecDepth 100000 in
theorem ocX8_image : gOkC YX8_image uX8_image := oc_c (gEdge_V cal_X7_copyFrom ck_7 rfl (show decode cX8_image 26 = .ok (.invokevirtual 357, 3) by decide +kernel) wd_5_164 wd_5_165 wd_5_166) <|
  oc_n
theorem reX8_image : ∀ pc ∈ [15, 42], decode cX8_image pc = .ok (.ireturn, 1) := by decide +kernel
def tX8_back : List (Nat × gStp) := [(0, i_iload 1 1), (1, i_if_lt 13 4), (4, i_iload 1 5), (5, i_aload 0 6), (6, i_getC 8 5 9), (9, i_alen 10), (10, i_ic_lt 16 13), (13, i_push (.int (-2)) 15), (16, i_aload 0 17), (17, i_getI 8 7 20), (20, i_iload 1 21), (24, i_if_ne 30 27), (27, i_push (.int (-6)) 29), (30, i_aload 0 31), (31, i_getT 8 0 34), (34, i_aload 0 35), (35, i_getC 8 5 38), (38, i_iload 1 39), (39, i_aald6 40), (43, i_push (.int 0) 44)]
set_option maxRecDepth 100000 in
theorem okX8_back : gOk YX8_back tX8_back := ok_c (sn_iload_n (show decode cX8_back 0 = .ok (.iload_n 1, 1) by decide +kernel) rfl) <|
  ok_c (sn_if_lt (show decode cX8_back 1 = .ok (.ifCond .lt 12, 3) by decide +kernel) (by decide)) <|
  ok_c (sn_iload_n (show decode cX8_back 4 = .ok (.iload_n 1, 1) by decide +kernel) rfl) <|
  ok_c (sn_aload_n (show decode cX8_back 5 = .ok (.aload_n 0, 1) by decide +kernel) rfl) <|
  ok_c (sn_getC (j := 2) (fun _ _ => rfl) (sn_get ck_8 (by decide) (show decode cX8_back 6 = .ok (.getfield 25, 3) by decide +kernel) wd_2_126)) <|
  ok_c (sn_alen (show decode cX8_back 9 = .ok (.arraylength, 1) by decide +kernel)) <|
  ok_c (sn_ic_lt (show decode cX8_back 10 = .ok (.if_icmp .lt 6, 3) by decide +kernel) (by decide)) <|
  ok_c (sn_bipush (v := (-2)) (show decode cX8_back 13 = .ok (.bipush (-2), 2) by decide +kernel) (by decide +kernel)) <|
  ok_c (sn_aload_n (show decode cX8_back 16 = .ok (.aload_n 0, 1) by decide +kernel) rfl) <|
  ok_c (sn_getI (fun _ _ => rfl) (sn_get ck_8 (by decide) (show decode cX8_back 17 = .ok (.getfield 361, 3) by decide +kernel) wd_2_131)) <|
  ok_c (sn_iload_n (show decode cX8_back 20 = .ok (.iload_n 1, 1) by decide +kernel) rfl) <|
  ok_c (sn_if_ne (show decode cX8_back 24 = .ok (.ifCond .ne 6, 3) by decide +kernel) (by decide)) <|
  ok_c (sn_bipush (v := (-6)) (show decode cX8_back 27 = .ok (.bipush (-6), 2) by decide +kernel) (by decide +kernel)) <|
  ok_c (sn_aload_n (show decode cX8_back 30 = .ok (.aload_n 0, 1) by decide +kernel) rfl) <|
  ok_c (sn_getT (j := 6) (fun _ _ => rfl) (sn_get ck_8 (by decide) (show decode cX8_back 31 = .ok (.getfield 51, 3) by decide +kernel) wd_2_130)) <|
  ok_c (sn_aload_n (show decode cX8_back 34 = .ok (.aload_n 0, 1) by decide +kernel) rfl) <|
  ok_c (sn_getC (j := 2) (fun _ _ => rfl) (sn_get ck_8 (by decide) (show decode cX8_back 35 = .ok (.getfield 25, 3) by decide +kernel) wd_2_126)) <|
  ok_c (sn_iload_n (show decode cX8_back 38 = .ok (.iload_n 1, 1) by decide +kernel) rfl) <|
  ok_c (sn_aald6 (show decode cX8_back 39 = .ok (.aaload, 1) by decide +kernel)) <|
  ok_c (sn_iconst (v := 0) (show decode cX8_back 43 = .ok (.iconst 0, 1) by decide +kernel) (by decide +kernel)) <|
  ok_n
def uX8_back : gCT := [(21, YX8_has, 2, none), (40, YX7_copyFrom, 2, some 7)]
set_option maxRecDepth 100000 in
theorem ocX8_back : gOkC YX8_back uX8_back := oc_c (gEdge_S cal_X8_has (show decode cX8_back 21 = .ok (.invokestatic 187, 3) by decide +kernel) wd_4_29 wd_3_119) <|
  oc_c (gEdge_V cal_X7_copyFrom ck_7 rfl (show decode cX8_back 40 = .ok (.invokevirtual 357, 3) by decide +kernel) wd_5_164 wd_5_165 wd_5_166) <|
  oc_n
theorem reX8_back : ∀ pc ∈ [15, 29, 44], decode cX8_back pc = .ok (.ireturn, 1) := by decide +kernel
def tX8_row : List (Nat × gStp) := [(0, i_aload 0 1), (1, i_iload 1 2), (5, i_astore 4 7), (7, i_aload 4 9), (9, i_ifnull 27 12), (12, i_iload 2 13), (13, i_if_lt 27 16), (16, i_iload 2 17), (17, i_push (.int 4) 18), (18, i_ic_ge 27 21), (21, i_iload 3 22), (22, i_push (.int 60) 24), (24, i_ic_le 30 27), (27, i_push (.int (-2)) 29), (30, i_iload 3 31), (31, i_if_ge 37 34), (34, i_push (.int (-3)) 36), (37, i_aload 4 39), (39, i_iload 2 40), (40, i_iload 3 41), (44, i_push (.int 0) 45)]
set_option maxRecDepth 100000 in
theorem okX8_row : gOk YX8_row tX8_row := ok_c (sn_aload_n (show decode cX8_row 0 = .ok (.aload_n 0, 1) by decide +kernel) rfl) <|
  ok_c (sn_iload_n (show decode cX8_row 1 = .ok (.iload_n 1, 1) by decide +kernel) rfl) <|
  ok_c (sn_astore (show decode cX8_row 5 = .ok (.astore 4, 2) by decide +kernel) (by decide)) <|
  ok_c (sn_aload (show decode cX8_row 7 = .ok (.aload 4, 2) by decide +kernel)) <|
  ok_c (sn_ifnull (show decode cX8_row 9 = .ok (.ifnull 18, 3) by decide +kernel) (by decide)) <|
  ok_c (sn_iload_n (show decode cX8_row 12 = .ok (.iload_n 2, 1) by decide +kernel) rfl) <|
  ok_c (sn_if_lt (show decode cX8_row 13 = .ok (.ifCond .lt 14, 3) by decide +kernel) (by decide)) <|
  ok_c (sn_iload_n (show decode cX8_row 16 = .ok (.iload_n 2, 1) by decide +kernel) rfl) <|
  ok_c (sn_iconst (v := 4) (show decode cX8_row 17 = .ok (.iconst 4, 1) by decide +kernel) (by decide +kernel)) <|
  ok_c (sn_ic_ge (show decode cX8_row 18 = .ok (.if_icmp .ge 9, 3) by decide +kernel) (by decide)) <|
  ok_c (sn_iload_n (show decode cX8_row 21 = .ok (.iload_n 3, 1) by decide +kernel) rfl) <|
  ok_c (sn_bipush (v := 60) (show decode cX8_row 22 = .ok (.bipush 60, 2) by decide +kernel) (by decide +kernel)) <|
  ok_c (sn_ic_le (show decode cX8_row 24 = .ok (.if_icmp .le 6, 3) by decide +kernel) (by decide)) <|
  ok_c (sn_bipush (v := (-2)) (show decode cX8_row 27 = .ok (.bipush (-2), 2) by decide +kernel) (by decide +kernel)) <|
  ok_c (sn_iload_n (show decode cX8_row 30 = .ok (.iload_n 3, 1) by decide +kernel) rfl) <|
  ok_c (sn_if_ge (show decode cX8_row 31 = .ok (.ifCond .ge 6, 3) by decide +kernel) (by decide)) <|
  ok_c (sn_bipush (v := (-3)) (show decode cX8_row 34 = .ok (.bipush (-3), 2) by decide +kernel) (by decide +kernel)) <|
  ok_c (sn_aload (show decode cX8_row 37 = .ok (.aload 4, 2) by decide +kernel)) <|
  ok_c (sn_iload_n (show decode cX8_row 39 = .ok (.iload_n 2, 1) by decide +kernel) rfl) <|
  ok_c (sn_iload_n (show decode cX8_row 40 = .ok (.iload_n 3, 1) by decide +kernel) rfl) <|
  ok_c (sn_iconst (v := 0) (show decode cX8_row 44 = .ok (.iconst 0, 1) by decide +kernel) (by decide +kernel)) <|
  ok_n
def uX8_row : gCT := [(2, YX8_slotAt, 2, some 8), (41, YX4_begin, 3, some 4)]
set_option maxRecDepth 100000 in
theorem ocX8_row : gOkC YX8_row uX8_row := oc_c (gEdge_V cal_X8_slotAt ck_8 rfl (show decode cX8_row 2 = .ok (.invokevirtual 226, 3) by decide +kernel) wd_4_144 wd_4_146 wp_2_11) <|
  oc_c (gEdge_V cal_X4_begin ck_4 rfl (show decode cX8_row 41 = .ok (.invokevirtual 364, 3) by decide +kernel) wd_5_188 wd_5_189 wd_5_190) <|
  oc_n
theorem reX8_row : ∀ pc ∈ [29, 36, 45], decode cX8_row pc = .ok (.ireturn, 1) := by decide +kernel
def tX8_write : List (Nat × gStp) := [(0, i_aload 0 1), (1, i_iload 1 2), (5, i_astore 5 7), (7, i_aload 5 9), (9, i_ifnull 12 15), (12, i_push (.int (-2)) 14), (15, i_aload 5 17), (20, i_if_ne 26 23), (23, i_push (.int (-6)) 25), (26, i_iload 2 27), (27, i_if_lt 39 30), (30, i_iload 2 31), (31, i_aload 5 33), (33, i_getI 4 2 36), (36, i_ic_lt 42 39), (39, i_push (.int (-7)) 41), (42, i_aload 5 44), (44, i_iload 2 45), (45, i_lload 3 46), (49, i_push (.int 0) 50)]
set_option maxRecDepth 100000 in
theorem okX8_write : gOk YX8_write tX8_write := ok_c (sn_aload_n (show decode cX8_write 0 = .ok (.aload_n 0, 1) by decide +kernel) rfl) <|
  ok_c (sn_iload_n (show decode cX8_write 1 = .ok (.iload_n 1, 1) by decide +kernel) rfl) <|
  ok_c (sn_astore (show decode cX8_write 5 = .ok (.astore 5, 2) by decide +kernel) (by decide)) <|
  ok_c (sn_aload (show decode cX8_write 7 = .ok (.aload 5, 2) by decide +kernel)) <|
  ok_c (sn_ifnonnull (show decode cX8_write 9 = .ok (.ifnonnull 6, 3) by decide +kernel) (by decide)) <|
  ok_c (sn_bipush (v := (-2)) (show decode cX8_write 12 = .ok (.bipush (-2), 2) by decide +kernel) (by decide +kernel)) <|
  ok_c (sn_aload (show decode cX8_write 15 = .ok (.aload 5, 2) by decide +kernel)) <|
  ok_c (sn_if_ne (show decode cX8_write 20 = .ok (.ifCond .ne 6, 3) by decide +kernel) (by decide)) <|
  ok_c (sn_bipush (v := (-6)) (show decode cX8_write 23 = .ok (.bipush (-6), 2) by decide +kernel) (by decide +kernel)) <|
  ok_c (sn_iload_n (show decode cX8_write 26 = .ok (.iload_n 2, 1) by decide +kernel) rfl) <|
  ok_c (sn_if_lt (show decode cX8_write 27 = .ok (.ifCond .lt 12, 3) by decide +kernel) (by decide)) <|
  ok_c (sn_iload_n (show decode cX8_write 30 = .ok (.iload_n 2, 1) by decide +kernel) rfl) <|
  ok_c (sn_aload (show decode cX8_write 31 = .ok (.aload 5, 2) by decide +kernel)) <|
  ok_c (sn_getI (fun _ _ => rfl) (sn_get ck_4 (by decide) (show decode cX8_write 33 = .ok (.getfield 371, 3) by decide +kernel) wd_2_2)) <|
  ok_c (sn_ic_lt (show decode cX8_write 36 = .ok (.if_icmp .lt 6, 3) by decide +kernel) (by decide)) <|
  ok_c (sn_bipush (v := (-7)) (show decode cX8_write 39 = .ok (.bipush (-7), 2) by decide +kernel) (by decide +kernel)) <|
  ok_c (sn_aload (show decode cX8_write 42 = .ok (.aload 5, 2) by decide +kernel)) <|
  ok_c (sn_iload_n (show decode cX8_write 44 = .ok (.iload_n 2, 1) by decide +kernel) rfl) <|
  ok_c (sn_lload_n (show decode cX8_write 45 = .ok (.lload_n 3, 1) by decide +kernel) rfl) <|
  ok_c (sn_iconst (v := 0) (show decode cX8_write 49 = .ok (.iconst 0, 1) by decide +kernel) (by decide +kernel)) <|
  ok_n
def uX8_write : gCT := [(2, YX8_slotAt, 2, some 8), (17, YX4_isThere, 1, some 4), (46, YX4_put, 3, some 4)]
set_option maxRecDepth 100000 in
theorem ocX8_write : gOkC YX8_write uX8_write := oc_c (gEdge_V cal_X8_slotAt ck_8 rfl (show decode cX8_write 2 = .ok (.invokevirtual 226, 3) by decide +kernel) wd_4_144 wd_4_146 wp_2_11) <|
  oc_c (gEdge_V cal_X4_isThere ck_4 rfl (show decode cX8_write 17 = .ok (.invokevirtual 368, 3) by decide +kernel) wd_4_152 wd_4_153 wd_4_154) <|
  oc_c (gEdge_V cal_X4_put ck_4 rfl (show decode cX8_write 46 = .ok (.invokevirtual 372, 3) by decide +kernel) wd_5_198 wd_5_199 wd_5_200) <|
  oc_n
theorem reX8_write : ∀ pc ∈ [14, 25, 41, 50], decode cX8_write pc = .ok (.ireturn, 1) := by decide +kernel
