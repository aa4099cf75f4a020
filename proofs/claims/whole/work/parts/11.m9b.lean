/-! steps and calls -/
def tX9_year : List (Nat × gStp) := [(0, i_aload 0 1), (1, i_iload 1 2), (5, i_push (.int 0) 6), (6, i_istore 2 7), (7, i_push (.int 0) 8), (8, i_istore 3 9), (9, i_iload 3 10), (10, i_aload 0 11), (14, i_ic_ge 52 17), (17, i_aload 0 18), (18, i_iload 3 19), (19, i_iload 1 20), (23, i_if_ne 46 26), (26, i_aload 0 27), (27, i_aload 0 28), (28, i_iload 3 29), (29, i_iload 1 30), (33, i_iload 1 34), (37, i_if_ge 46 40), (40, i_iload 2 41), (41, i_push (.int 1) 42), (42, i_iload 3 43), (43, i_ii (fun x y => x <<< (y &&& 31)) 44), (44, i_ii (fun x y => x ||| y) 45), (45, i_istore 2 46), (46, i_iinc 3 1 49), (49, i_goto 9), (52, i_push (.int 0) 53), (53, i_istore 3 54), (54, i_iload 3 55), (55, i_aload 0 56), (59, i_ic_ge 83 62), (62, i_iload 2 63), (63, i_iload 3 64), (67, i_if_eq 77 70), (70, i_aload 0 71), (71, i_getC 9 156 74), (74, i_iload 3 75), (75, i_iload 1 76), (76, i_iast 77), (77, i_iinc 3 1 80), (80, i_goto 54), (83, i_iload 2 84), (84, i_if_eq 92 87), (87, i_aload 0 88), (88, i_iload 1 89), (92, i_push (.int 0) 93), (93, i_istore 3 94), (94, i_iload 3 95), (95, i_aload 0 96), (99, i_ic_ge 163 102), (102, i_aload 0 103), (103, i_iload 3 104), (104, i_iload 1 105), (108, i_if_ne 157 111), (111, i_aload 0 112), (112, i_getI 9 27 115), (115, i_iload 3 116), (119, i_if_ne 157 122), (122, i_aload 0 123), (123, i_getC 9 157 126), (126, i_iload 3 127), (127, i_iald 128), (128, i_push (.int (-1)) 129), (129, i_ic_ne 157 132), (132, i_aload 0 133), (133, i_iload 3 134), (134, i_iload 1 135), (138, i_if_ne 150 141), (141, i_aload 0 142), (142, i_iload 3 143), (143, i_iload 1 144), (147, i_if_eq 157 150), (150, i_aload 0 151), (151, i_getC 9 157 154), (154, i_iload 3 155), (155, i_iload 1 156), (156, i_iast 157), (157, i_iinc 3 1 160), (160, i_goto 94), (163, i_push (.int 0) 164), (164, i_istore 3 165), (165, i_iload 3 166), (166, i_aload 0 167), (170, i_ic_ge 260 173), (173, i_iload 1 174), (174, i_push (.int 1) 175), (175, i_ii (fun x y => x + y) 176), (176, i_push (.int 12) 178), (178, i_ic_ge 260 181), (181, i_aload 0 182), (182, i_iload 3 183), (183, i_iload 1 184), (187, i_if_eq 194 190), (190, i_push (.int 0) 191), (191, i_goto 225), (194, i_aload 0 195), (195, i_getC 9 149 198), (198, i_push (.int 3) 199), (199, i_iload 3 200), (200, i_ii (fun x y => x * y) 201), (201, i_push (.int 2) 202), (202, i_ii (fun x y => x + y) 203), (203, i_iald 204), (204, i_aload 0 205), (205, i_getC 9 157 208), (208, i_iload 3 209), (209, i_iald 210), (210, i_iload 1 211), (211, i_ic_ne 223 214), (214, i_aload 0 215), (215, i_getC 9 148 218), (218, i_push (.int 2) 219), (219, i_iald 220), (220, i_goto 224), (223, i_push (.int 0) 224), (224, i_ii (fun x y => x - y) 225), (225, i_istore 4 227), (227, i_aload 0 228), (228, i_getC 9 158 231), (231, i_push (.int 12) 233), (233, i_iload 3 234), (234, i_ii (fun x y => x * y) 235), (235, i_iload 1 236), (236, i_ii (fun x y => x + y) 237), (237, i_push (.int 1) 238), (238, i_ii (fun x y => x + y) 239), (239, i_aload 0 240), (240, i_getC 9 158 243), (243, i_push (.int 12) 245), (245, i_iload 3 246), (246, i_ii (fun x y => x * y) 247), (247, i_iload 1 248), (248, i_ii (fun x y => x + y) 249), (249, i_iald 250), (250, i_iload 4 252), (252, i_ii (fun x y => x + y) 253), (253, i_iast 254), (254, i_iinc 3 1 257), (257, i_goto 165)]
set_option maxRecDepth 100000 in
theorem okX9_year : gOk YX9_year tX9_year := ok_c (sn_aload_n (show decode cX9_year 0 = .ok (.aload_n 0, 1) by decide +kernel) rfl) <|
  ok_c (sn_iload_n (show decode cX9_year 1 = .ok (.iload_n 1, 1) by decide +kernel) rfl) <|
  ok_c (sn_iconst (v := 0) (show decode cX9_year 5 = .ok (.iconst 0, 1) by decide +kernel) (by decide +kernel)) <|
  ok_c (sn_istore_n (show decode cX9_year 6 = .ok (.istore_n 2, 1) by decide +kernel) rfl (by decide)) <|
  ok_c (sn_iconst (v := 0) (show decode cX9_year 7 = .ok (.iconst 0, 1) by decide +kernel) (by decide +kernel)) <|
  ok_c (sn_istore_n (show decode cX9_year 8 = .ok (.istore_n 3, 1) by decide +kernel) rfl (by decide)) <|
  ok_c (sn_iload_n (show decode cX9_year 9 = .ok (.iload_n 3, 1) by decide +kernel) rfl) <|
  ok_c (sn_aload_n (show decode cX9_year 10 = .ok (.aload_n 0, 1) by decide +kernel) rfl) <|
  ok_c (sn_ic_ge (show decode cX9_year 14 = .ok (.if_icmp .ge 38, 3) by decide +kernel) (by decide)) <|
  ok_c (sn_aload_n (show decode cX9_year 17 = .ok (.aload_n 0, 1) by decide +kernel) rfl) <|
  ok_c (sn_iload_n (show decode cX9_year 18 = .ok (.iload_n 3, 1) by decide +kernel) rfl) <|
  ok_c (sn_iload_n (show decode cX9_year 19 = .ok (.iload_n 1, 1) by decide +kernel) rfl) <|
  ok_c (sn_if_ne (show decode cX9_year 23 = .ok (.ifCond .ne 23, 3) by decide +kernel) (by decide)) <|
  ok_c (sn_aload_n (show decode cX9_year 26 = .ok (.aload_n 0, 1) by decide +kernel) rfl) <|
  ok_c (sn_aload_n (show decode cX9_year 27 = .ok (.aload_n 0, 1) by decide +kernel) rfl) <|
  ok_c (sn_iload_n (show decode cX9_year 28 = .ok (.iload_n 3, 1) by decide +kernel) rfl) <|
  ok_c (sn_iload_n (show decode cX9_year 29 = .ok (.iload_n 1, 1) by decide +kernel) rfl) <|
  ok_c (sn_iload_n (show decode cX9_year 33 = .ok (.iload_n 1, 1) by decide +kernel) rfl) <|
  ok_c (sn_if_ge (show decode cX9_year 37 = .ok (.ifCond .ge 9, 3) by decide +kernel) (by decide)) <|
  ok_c (sn_iload_n (show decode cX9_year 40 = .ok (.iload_n 2, 1) by decide +kernel) rfl) <|
  ok_c (sn_iconst (v := 1) (show decode cX9_year 41 = .ok (.iconst 1, 1) by decide +kernel) (by decide +kernel)) <|
  ok_c (sn_iload_n (show decode cX9_year 42 = .ok (.iload_n 3, 1) by decide +kernel) rfl) <|
  ok_c (sn_ishl (show decode cX9_year 43 = .ok (.ishl, 1) by decide +kernel)) <|
  ok_c (sn_ior (show decode cX9_year 44 = .ok (.ior, 1) by decide +kernel)) <|
  ok_c (sn_istore_n (show decode cX9_year 45 = .ok (.istore_n 2, 1) by decide +kernel) rfl (by decide)) <|
  ok_c (sn_iinc (show decode cX9_year 46 = .ok (.iinc 3 1, 3) by decide +kernel) (by decide) (by decide +kernel)) <|
  ok_c (sn_goto (show decode cX9_year 49 = .ok (.goto (-40), 3) by decide +kernel) (by decide)) <|
  ok_c (sn_iconst (v := 0) (show decode cX9_year 52 = .ok (.iconst 0, 1) by decide +kernel) (by decide +kernel)) <|
  ok_c (sn_istore_n (show decode cX9_year 53 = .ok (.istore_n 3, 1) by decide +kernel) rfl (by decide)) <|
  ok_c (sn_iload_n (show decode cX9_year 54 = .ok (.iload_n 3, 1) by decide +kernel) rfl) <|
  ok_c (sn_aload_n (show decode cX9_year 55 = .ok (.aload_n 0, 1) by decide +kernel) rfl) <|
  ok_c (sn_ic_ge (show decode cX9_year 59 = .ok (.if_icmp .ge 24, 3) by decide +kernel) (by decide)) <|
  ok_c (sn_iload_n (show decode cX9_year 62 = .ok (.iload_n 2, 1) by decide +kernel) rfl) <|
  ok_c (sn_iload_n (show decode cX9_year 63 = .ok (.iload_n 3, 1) by decide +kernel) rfl) <|
  ok_c (sn_if_eq (show decode cX9_year 67 = .ok (.ifCond .eq 10, 3) by decide +kernel) (by decide)) <|
  ok_c (sn_aload_n (show decode cX9_year 70 = .ok (.aload_n 0, 1) by decide +kernel) rfl) <|
  ok_c (sn_getC (j := 34) (fun _ _ => rfl) (sn_get ck_9 (by decide) (show decode cX9_year 71 = .ok (.getfield 59, 3) by decide +kernel) wd_6_11)) <|
  ok_c (sn_iload_n (show decode cX9_year 74 = .ok (.iload_n 3, 1) by decide +kernel) rfl) <|
  ok_c (sn_iload_n (show decode cX9_year 75 = .ok (.iload_n 1, 1) by decide +kernel) rfl) <|
  ok_c (sn_iast (show decode cX9_year 76 = .ok (.iastore, 1) by decide +kernel)) <|
  ok_c (sn_iinc (show decode cX9_year 77 = .ok (.iinc 3 1, 3) by decide +kernel) (by decide) (by decide +kernel)) <|
  ok_c (sn_goto (show decode cX9_year 80 = .ok (.goto (-26), 3) by decide +kernel) (by decide)) <|
  ok_c (sn_iload_n (show decode cX9_year 83 = .ok (.iload_n 2, 1) by decide +kernel) rfl) <|
  ok_c (sn_if_eq (show decode cX9_year 84 = .ok (.ifCond .eq 8, 3) by decide +kernel) (by decide)) <|
  ok_c (sn_aload_n (show decode cX9_year 87 = .ok (.aload_n 0, 1) by decide +kernel) rfl) <|
  ok_c (sn_iload_n (show decode cX9_year 88 = .ok (.iload_n 1, 1) by decide +kernel) rfl) <|
  ok_c (sn_iconst (v := 0) (show decode cX9_year 92 = .ok (.iconst 0, 1) by decide +kernel) (by decide +kernel)) <|
  ok_c (sn_istore_n (show decode cX9_year 93 = .ok (.istore_n 3, 1) by decide +kernel) rfl (by decide)) <|
  ok_c (sn_iload_n (show decode cX9_year 94 = .ok (.iload_n 3, 1) by decide +kernel) rfl) <|
  ok_c (sn_aload_n (show decode cX9_year 95 = .ok (.aload_n 0, 1) by decide +kernel) rfl) <|
  ok_c (sn_ic_ge (show decode cX9_year 99 = .ok (.if_icmp .ge 64, 3) by decide +kernel) (by decide)) <|
  ok_c (sn_aload_n (show decode cX9_year 102 = .ok (.aload_n 0, 1) by decide +kernel) rfl) <|
  ok_c (sn_iload_n (show decode cX9_year 103 = .ok (.iload_n 3, 1) by decide +kernel) rfl) <|
  ok_c (sn_iload_n (show decode cX9_year 104 = .ok (.iload_n 1, 1) by decide +kernel) rfl) <|
  ok_c (sn_if_ne (show decode cX9_year 108 = .ok (.ifCond .ne 49, 3) by decide +kernel) (by decide)) <|
  ok_c (sn_aload_n (show decode cX9_year 111 = .ok (.aload_n 0, 1) by decide +kernel) rfl) <|
  ok_c (sn_getI (fun _ _ => rfl) (sn_get ck_9 (by decide) (show decode cX9_year 112 = .ok (.getfield 268, 3) by decide +kernel) wd_6_4)) <|
  ok_c (sn_iload_n (show decode cX9_year 115 = .ok (.iload_n 3, 1) by decide +kernel) rfl) <|
  ok_c (sn_if_ne (show decode cX9_year 119 = .ok (.ifCond .ne 38, 3) by decide +kernel) (by decide)) <|
  ok_c (sn_aload_n (show decode cX9_year 122 = .ok (.aload_n 0, 1) by decide +kernel) rfl) <|
  ok_c (sn_getC (j := 35) (fun _ _ => rfl) (sn_get ck_9 (by decide) (show decode cX9_year 123 = .ok (.getfield 62, 3) by decide +kernel) wd_6_12)) <|
  ok_c (sn_iload_n (show decode cX9_year 126 = .ok (.iload_n 3, 1) by decide +kernel) rfl) <|
  ok_c (sn_iald (show decode cX9_year 127 = .ok (.iaload, 1) by decide +kernel)) <|
  ok_c (sn_iconst (v := (-1)) (show decode cX9_year 128 = .ok (.iconst (-1), 1) by decide +kernel) (by decide +kernel)) <|
  ok_c (sn_ic_ne (show decode cX9_year 129 = .ok (.if_icmp .ne 28, 3) by decide +kernel) (by decide)) <|
  ok_c (sn_aload_n (show decode cX9_year 132 = .ok (.aload_n 0, 1) by decide +kernel) rfl) <|
  ok_c (sn_iload_n (show decode cX9_year 133 = .ok (.iload_n 3, 1) by decide +kernel) rfl) <|
  ok_c (sn_iload_n (show decode cX9_year 134 = .ok (.iload_n 1, 1) by decide +kernel) rfl) <|
  ok_c (sn_if_ne (show decode cX9_year 138 = .ok (.ifCond .ne 12, 3) by decide +kernel) (by decide)) <|
  ok_c (sn_aload_n (show decode cX9_year 141 = .ok (.aload_n 0, 1) by decide +kernel) rfl) <|
  ok_c (sn_iload_n (show decode cX9_year 142 = .ok (.iload_n 3, 1) by decide +kernel) rfl) <|
  ok_c (sn_iload_n (show decode cX9_year 143 = .ok (.iload_n 1, 1) by decide +kernel) rfl) <|
  ok_c (sn_if_eq (show decode cX9_year 147 = .ok (.ifCond .eq 10, 3) by decide +kernel) (by decide)) <|
  ok_c (sn_aload_n (show decode cX9_year 150 = .ok (.aload_n 0, 1) by decide +kernel) rfl) <|
  ok_c (sn_getC (j := 35) (fun _ _ => rfl) (sn_get ck_9 (by decide) (show decode cX9_year 151 = .ok (.getfield 62, 3) by decide +kernel) wd_6_12)) <|
  ok_c (sn_iload_n (show decode cX9_year 154 = .ok (.iload_n 3, 1) by decide +kernel) rfl) <|
  ok_c (sn_iload_n (show decode cX9_year 155 = .ok (.iload_n 1, 1) by decide +kernel) rfl) <|
  ok_c (sn_iast (show decode cX9_year 156 = .ok (.iastore, 1) by decide +kernel)) <|
  ok_c (sn_iinc (show decode cX9_year 157 = .ok (.iinc 3 1, 3) by decide +kernel) (by decide) (by decide +kernel)) <|
  ok_c (sn_goto (show decode cX9_year 160 = .ok (.goto (-66), 3) by decide +kernel) (by decide)) <|
  ok_c (sn_iconst (v := 0) (show decode cX9_year 163 = .ok (.iconst 0, 1) by decide +kernel) (by decide +kernel)) <|
  ok_c (sn_istore_n (show decode cX9_year 164 = .ok (.istore_n 3, 1) by decide +kernel) rfl (by decide)) <|
  ok_c (sn_iload_n (show decode cX9_year 165 = .ok (.iload_n 3, 1) by decide +kernel) rfl) <|
  ok_c (sn_aload_n (show decode cX9_year 166 = .ok (.aload_n 0, 1) by decide +kernel) rfl) <|
  ok_c (sn_ic_ge (show decode cX9_year 170 = .ok (.if_icmp .ge 90, 3) by decide +kernel) (by decide)) <|
  ok_c (sn_iload_n (show decode cX9_year 173 = .ok (.iload_n 1, 1) by decide +kernel) rfl) <|
  ok_c (sn_iconst (v := 1) (show decode cX9_year 174 = .ok (.iconst 1, 1) by decide +kernel) (by decide +kernel)) <|
  ok_c (sn_iadd (show decode cX9_year 175 = .ok (.iadd, 1) by decide +kernel)) <|
  ok_c (sn_bipush (v := 12) (show decode cX9_year 176 = .ok (.bipush 12, 2) by decide +kernel) (by decide +kernel)) <|
  ok_c (sn_ic_ge (show decode cX9_year 178 = .ok (.if_icmp .ge 82, 3) by decide +kernel) (by decide)) <|
  ok_c (sn_aload_n (show decode cX9_year 181 = .ok (.aload_n 0, 1) by decide +kernel) rfl) <|
  ok_c (sn_iload_n (show decode cX9_year 182 = .ok (.iload_n 3, 1) by decide +kernel) rfl) <|
  ok_c (sn_iload_n (show decode cX9_year 183 = .ok (.iload_n 1, 1) by decide +kernel) rfl) <|
  ok_c (sn_if_eq (show decode cX9_year 187 = .ok (.ifCond .eq 7, 3) by decide +kernel) (by decide)) <|
  ok_c (sn_iconst (v := 0) (show decode cX9_year 190 = .ok (.iconst 0, 1) by decide +kernel) (by decide +kernel)) <|
  ok_c (sn_goto (show decode cX9_year 191 = .ok (.goto 34, 3) by decide +kernel) (by decide)) <|
  ok_c (sn_aload_n (show decode cX9_year 194 = .ok (.aload_n 0, 1) by decide +kernel) rfl) <|
  ok_c (sn_getC (j := 18) (fun _ _ => rfl) (sn_get ck_9 (by decide) (show decode cX9_year 195 = .ok (.getfield 37, 3) by decide +kernel) wd_5_235)) <|
  ok_c (sn_iconst (v := 3) (show decode cX9_year 198 = .ok (.iconst 3, 1) by decide +kernel) (by decide +kernel)) <|
  ok_c (sn_iload_n (show decode cX9_year 199 = .ok (.iload_n 3, 1) by decide +kernel) rfl) <|
  ok_c (sn_imul (show decode cX9_year 200 = .ok (.imul, 1) by decide +kernel)) <|
  ok_c (sn_iconst (v := 2) (show decode cX9_year 201 = .ok (.iconst 2, 1) by decide +kernel) (by decide +kernel)) <|
  ok_c (sn_iadd (show decode cX9_year 202 = .ok (.iadd, 1) by decide +kernel)) <|
  ok_c (sn_iald (show decode cX9_year 203 = .ok (.iaload, 1) by decide +kernel)) <|
  ok_c (sn_aload_n (show decode cX9_year 204 = .ok (.aload_n 0, 1) by decide +kernel) rfl) <|
  ok_c (sn_getC (j := 35) (fun _ _ => rfl) (sn_get ck_9 (by decide) (show decode cX9_year 205 = .ok (.getfield 62, 3) by decide +kernel) wd_6_12)) <|
  ok_c (sn_iload_n (show decode cX9_year 208 = .ok (.iload_n 3, 1) by decide +kernel) rfl) <|
  ok_c (sn_iald (show decode cX9_year 209 = .ok (.iaload, 1) by decide +kernel)) <|
  ok_c (sn_iload_n (show decode cX9_year 210 = .ok (.iload_n 1, 1) by decide +kernel) rfl) <|
  ok_c (sn_ic_ne (show decode cX9_year 211 = .ok (.if_icmp .ne 12, 3) by decide +kernel) (by decide)) <|
  ok_c (sn_aload_n (show decode cX9_year 214 = .ok (.aload_n 0, 1) by decide +kernel) rfl) <|
  ok_c (sn_getC (j := 17) (fun _ _ => rfl) (sn_get ck_9 (by decide) (show decode cX9_year 215 = .ok (.getfield 34, 3) by decide +kernel) wd_5_234)) <|
  ok_c (sn_iconst (v := 2) (show decode cX9_year 218 = .ok (.iconst 2, 1) by decide +kernel) (by decide +kernel)) <|
  ok_c (sn_iald (show decode cX9_year 219 = .ok (.iaload, 1) by decide +kernel)) <|
  ok_c (sn_goto (show decode cX9_year 220 = .ok (.goto 4, 3) by decide +kernel) (by decide)) <|
  ok_c (sn_iconst (v := 0) (show decode cX9_year 223 = .ok (.iconst 0, 1) by decide +kernel) (by decide +kernel)) <|
  ok_c (sn_isub (show decode cX9_year 224 = .ok (.isub, 1) by decide +kernel)) <|
  ok_c (sn_istore (show decode cX9_year 225 = .ok (.istore 4, 2) by decide +kernel) (by decide)) <|
  ok_c (sn_aload_n (show decode cX9_year 227 = .ok (.aload_n 0, 1) by decide +kernel) rfl) <|
  ok_c (sn_getC (j := 36) (fun _ _ => rfl) (sn_get ck_9 (by decide) (show decode cX9_year 228 = .ok (.getfield 65, 3) by decide +kernel) wd_6_13)) <|
  ok_c (sn_bipush (v := 12) (show decode cX9_year 231 = .ok (.bipush 12, 2) by decide +kernel) (by decide +kernel)) <|
  ok_c (sn_iload_n (show decode cX9_year 233 = .ok (.iload_n 3, 1) by decide +kernel) rfl) <|
  ok_c (sn_imul (show decode cX9_year 234 = .ok (.imul, 1) by decide +kernel)) <|
  ok_c (sn_iload_n (show decode cX9_year 235 = .ok (.iload_n 1, 1) by decide +kernel) rfl) <|
  ok_c (sn_iadd (show decode cX9_year 236 = .ok (.iadd, 1) by decide +kernel)) <|
  ok_c (sn_iconst (v := 1) (show decode cX9_year 237 = .ok (.iconst 1, 1) by decide +kernel) (by decide +kernel)) <|
  ok_c (sn_iadd (show decode cX9_year 238 = .ok (.iadd, 1) by decide +kernel)) <|
  ok_c (sn_aload_n (show decode cX9_year 239 = .ok (.aload_n 0, 1) by decide +kernel) rfl) <|
  ok_c (sn_getC (j := 36) (fun _ _ => rfl) (sn_get ck_9 (by decide) (show decode cX9_year 240 = .ok (.getfield 65, 3) by decide +kernel) wd_6_13)) <|
  ok_c (sn_bipush (v := 12) (show decode cX9_year 243 = .ok (.bipush 12, 2) by decide +kernel) (by decide +kernel)) <|
  ok_c (sn_iload_n (show decode cX9_year 245 = .ok (.iload_n 3, 1) by decide +kernel) rfl) <|
  ok_c (sn_imul (show decode cX9_year 246 = .ok (.imul, 1) by decide +kernel)) <|
  ok_c (sn_iload_n (show decode cX9_year 247 = .ok (.iload_n 1, 1) by decide +kernel) rfl) <|
  ok_c (sn_iadd (show decode cX9_year 248 = .ok (.iadd, 1) by decide +kernel)) <|
  ok_c (sn_iald (show decode cX9_year 249 = .ok (.iaload, 1) by decide +kernel)) <|
  ok_c (sn_iload (show decode cX9_year 250 = .ok (.iload 4, 2) by decide +kernel)) <|
  ok_c (sn_iadd (show decode cX9_year 252 = .ok (.iadd, 1) by decide +kernel)) <|
  ok_c (sn_iast (show decode cX9_year 253 = .ok (.iastore, 1) by decide +kernel)) <|
  ok_c (sn_iinc (show decode cX9_year 254 = .ok (.iinc 3 1, 3) by decide +kernel) (by decide) (by decide +kernel)) <|
  ok_c (sn_goto (show decode cX9_year 257 = .ok (.goto (-92), 3) by decide +kernel) (by decide)) <|
  ok_n
def uX9_year : gCT := [(2, YX9_laysTies, 2, some 9), (11, YX9_people, 1, some 9), (20, YX9_isOut, 3, some 9), (30, YX9_firmOf, 3, some 9), (34, YX9_fundsOf, 3, some 9), (56, YX9_people, 1, some 9), (64, YX9_isBit, 2, none), (89, YX9_laysTies, 2, some 9), (96, YX9_people, 1, some 9), (105, YX9_isOut, 3, some 9), (116, YX9_isBit, 2, none), (135, YX9_isToldCold, 3, some 9), (144, YX9_isCaught, 3, some 9), (167, YX9_people, 1, some 9), (184, YX9_isOut, 3, some 9)]
set_option maxRecDepth 100000 in
theorem ocX9_year : gOkC YX9_year uX9_year := oc_c (gEdge_V cal_X9_laysTies ck_9 rfl (show decode cX9_year 2 = .ok (.invokevirtual 308, 3) by decide +kernel) wd_7_107 wd_7_109 wp_6_1) <|
  oc_c (gEdge_V cal_X9_people ck_9 rfl (show decode cX9_year 11 = .ok (.invokevirtual 244, 3) by decide +kernel) wd_7_50 wd_7_52 wp_5_6) <|
  oc_c (gEdge_V cal_X9_isOut ck_9 rfl (show decode cX9_year 20 = .ok (.invokevirtual 292, 3) by decide +kernel) wd_7_130 wd_7_132 wp_6_6) <|
  oc_c (gEdge_V cal_X9_firmOf ck_9 rfl (show decode cX9_year 30 = .ok (.invokevirtual 311, 3) by decide +kernel) wd_7_134 wd_7_136 wp_6_7) <|
  oc_c (gEdge_V cal_X9_fundsOf ck_9 rfl (show decode cX9_year 34 = .ok (.invokevirtual 314, 3) by decide +kernel) wd_7_138 wd_7_140 wp_6_8) <|
  oc_c (gEdge_V cal_X9_people ck_9 rfl (show decode cX9_year 56 = .ok (.invokevirtual 244, 3) by decide +kernel) wd_7_50 wd_7_52 wp_5_6) <|
  oc_c (gEdge_S cal_X9_isBit (show decode cX9_year 64 = .ok (.invokestatic 281, 3) by decide +kernel) wd_7_115 wd_7_116) <|
  oc_c (gEdge_V cal_X9_laysTies ck_9 rfl (show decode cX9_year 89 = .ok (.invokevirtual 308, 3) by decide +kernel) wd_7_107 wd_7_109 wp_6_1) <|
  oc_c (gEdge_V cal_X9_people ck_9 rfl (show decode cX9_year 96 = .ok (.invokevirtual 244, 3) by decide +kernel) wd_7_50 wd_7_52 wp_5_6) <|
  oc_c (gEdge_V cal_X9_isOut ck_9 rfl (show decode cX9_year 105 = .ok (.invokevirtual 292, 3) by decide +kernel) wd_7_130 wd_7_132 wp_6_6) <|
  oc_c (gEdge_S cal_X9_isBit (show decode cX9_year 116 = .ok (.invokestatic 281, 3) by decide +kernel) wd_7_115 wd_7_116) <|
  oc_c (gEdge_V cal_X9_isToldCold ck_9 rfl (show decode cX9_year 135 = .ok (.invokevirtual 317, 3) by decide +kernel) wd_7_142 wd_7_144 wp_6_9) <|
  oc_c (gEdge_V cal_X9_isCaught ck_9 rfl (show decode cX9_year 144 = .ok (.invokevirtual 320, 3) by decide +kernel) wd_7_146 wd_7_148 wp_6_10) <|
  oc_c (gEdge_V cal_X9_people ck_9 rfl (show decode cX9_year 167 = .ok (.invokevirtual 244, 3) by decide +kernel) wd_7_50 wd_7_52 wp_5_6) <|
  oc_c (gEdge_V cal_X9_isOut ck_9 rfl (show decode cX9_year 184 = .ok (.invokevirtual 292, 3) by decide +kernel) wd_7_130 wd_7_132 wp_6_6) <|
  oc_n
theorem reX9_year : ∀ pc ∈ [260], decode cX9_year pc = .ok (.return_, 1) := by decide +kernel
def tX9_runs : List (Nat × gStp) := [(0, i_push (.int 0) 1), (1, i_istore 2 2), (2, i_iload 2 3), (3, i_aload 0 4), (7, i_ic_ge 49 10), (10, i_aload 0 11), (11, i_getC 9 156 14), (14, i_iload 2 15), (15, i_push (.int (-1)) 16), (16, i_iast 17), (17, i_aload 0 18), (18, i_getC 9 157 21), (21, i_iload 2 22), (22, i_push (.int (-1)) 23), (23, i_iast 24), (24, i_aload 0 25), (25, i_getC 9 158 28), (28, i_push (.int 12) 30), (30, i_iload 2 31), (31, i_ii (fun x y => x * y) 32), (32, i_aload 0 33), (33, i_getC 9 149 36), (36, i_push (.int 3) 37), (37, i_iload 2 38), (38, i_ii (fun x y => x * y) 39), (39, i_push (.int 1) 40), (40, i_ii (fun x y => x + y) 41), (41, i_iald 42), (42, i_iast 43), (43, i_iinc 2 1 46), (46, i_goto 2), (49, i_push (.int 0) 50), (50, i_istore 2 51), (51, i_iload 2 52), (52, i_iload 1 53), (53, i_ic_gt 67 56), (56, i_aload 0 57), (57, i_iload 2 58), (61, i_iinc 2 1 64), (64, i_goto 51)]
set_option maxRecDepth 100000 in
theorem okX9_runs : gOk YX9_runs tX9_runs := ok_c (sn_iconst (v := 0) (show decode cX9_runs 0 = .ok (.iconst 0, 1) by decide +kernel) (by decide +kernel)) <|
  ok_c (sn_istore_n (show decode cX9_runs 1 = .ok (.istore_n 2, 1) by decide +kernel) rfl (by decide)) <|
  ok_c (sn_iload_n (show decode cX9_runs 2 = .ok (.iload_n 2, 1) by decide +kernel) rfl) <|
  ok_c (sn_aload_n (show decode cX9_runs 3 = .ok (.aload_n 0, 1) by decide +kernel) rfl) <|
  ok_c (sn_ic_ge (show decode cX9_runs 7 = .ok (.if_icmp .ge 42, 3) by decide +kernel) (by decide)) <|
  ok_c (sn_aload_n (show decode cX9_runs 10 = .ok (.aload_n 0, 1) by decide +kernel) rfl) <|
  ok_c (sn_getC (j := 34) (fun _ _ => rfl) (sn_get ck_9 (by decide) (show decode cX9_runs 11 = .ok (.getfield 59, 3) by decide +kernel) wd_6_11)) <|
  ok_c (sn_iload_n (show decode cX9_runs 14 = .ok (.iload_n 2, 1) by decide +kernel) rfl) <|
  ok_c (sn_iconst (v := (-1)) (show decode cX9_runs 15 = .ok (.iconst (-1), 1) by decide +kernel) (by decide +kernel)) <|
  ok_c (sn_iast (show decode cX9_runs 16 = .ok (.iastore, 1) by decide +kernel)) <|
  ok_c (sn_aload_n (show decode cX9_runs 17 = .ok (.aload_n 0, 1) by decide +kernel) rfl) <|
  ok_c (sn_getC (j := 35) (fun _ _ => rfl) (sn_get ck_9 (by decide) (show decode cX9_runs 18 = .ok (.getfield 62, 3) by decide +kernel) wd_6_12)) <|
  ok_c (sn_iload_n (show decode cX9_runs 21 = .ok (.iload_n 2, 1) by decide +kernel) rfl) <|
  ok_c (sn_iconst (v := (-1)) (show decode cX9_runs 22 = .ok (.iconst (-1), 1) by decide +kernel) (by decide +kernel)) <|
  ok_c (sn_iast (show decode cX9_runs 23 = .ok (.iastore, 1) by decide +kernel)) <|
  ok_c (sn_aload_n (show decode cX9_runs 24 = .ok (.aload_n 0, 1) by decide +kernel) rfl) <|
  ok_c (sn_getC (j := 36) (fun _ _ => rfl) (sn_get ck_9 (by decide) (show decode cX9_runs 25 = .ok (.getfield 65, 3) by decide +kernel) wd_6_13)) <|
  ok_c (sn_bipush (v := 12) (show decode cX9_runs 28 = .ok (.bipush 12, 2) by decide +kernel) (by decide +kernel)) <|
  ok_c (sn_iload_n (show decode cX9_runs 30 = .ok (.iload_n 2, 1) by decide +kernel) rfl) <|
  ok_c (sn_imul (show decode cX9_runs 31 = .ok (.imul, 1) by decide +kernel)) <|
  ok_c (sn_aload_n (show decode cX9_runs 32 = .ok (.aload_n 0, 1) by decide +kernel) rfl) <|
  ok_c (sn_getC (j := 18) (fun _ _ => rfl) (sn_get ck_9 (by decide) (show decode cX9_runs 33 = .ok (.getfield 37, 3) by decide +kernel) wd_5_235)) <|
  ok_c (sn_iconst (v := 3) (show decode cX9_runs 36 = .ok (.iconst 3, 1) by decide +kernel) (by decide +kernel)) <|
  ok_c (sn_iload_n (show decode cX9_runs 37 = .ok (.iload_n 2, 1) by decide +kernel) rfl) <|
  ok_c (sn_imul (show decode cX9_runs 38 = .ok (.imul, 1) by decide +kernel)) <|
  ok_c (sn_iconst (v := 1) (show decode cX9_runs 39 = .ok (.iconst 1, 1) by decide +kernel) (by decide +kernel)) <|
  ok_c (sn_iadd (show decode cX9_runs 40 = .ok (.iadd, 1) by decide +kernel)) <|
  ok_c (sn_iald (show decode cX9_runs 41 = .ok (.iaload, 1) by decide +kernel)) <|
  ok_c (sn_iast (show decode cX9_runs 42 = .ok (.iastore, 1) by decide +kernel)) <|
  ok_c (sn_iinc (show decode cX9_runs 43 = .ok (.iinc 2 1, 3) by decide +kernel) (by decide) (by decide +kernel)) <|
  ok_c (sn_goto (show decode cX9_runs 46 = .ok (.goto (-44), 3) by decide +kernel) (by decide)) <|
  ok_c (sn_iconst (v := 0) (show decode cX9_runs 49 = .ok (.iconst 0, 1) by decide +kernel) (by decide +kernel)) <|
  ok_c (sn_istore_n (show decode cX9_runs 50 = .ok (.istore_n 2, 1) by decide +kernel) rfl (by decide)) <|
  ok_c (sn_iload_n (show decode cX9_runs 51 = .ok (.iload_n 2, 1) by decide +kernel) rfl) <|
  ok_c (sn_iload_n (show decode cX9_runs 52 = .ok (.iload_n 1, 1) by decide +kernel) rfl) <|
  ok_c (sn_ic_gt (show decode cX9_runs 53 = .ok (.if_icmp .gt 14, 3) by decide +kernel) (by decide)) <|
  ok_c (sn_aload_n (show decode cX9_runs 56 = .ok (.aload_n 0, 1) by decide +kernel) rfl) <|
  ok_c (sn_iload_n (show decode cX9_runs 57 = .ok (.iload_n 2, 1) by decide +kernel) rfl) <|
  ok_c (sn_iinc (show decode cX9_runs 61 = .ok (.iinc 2 1, 3) by decide +kernel) (by decide) (by decide +kernel)) <|
  ok_c (sn_goto (show decode cX9_runs 64 = .ok (.goto (-13), 3) by decide +kernel) (by decide)) <|
  ok_n
def uX9_runs : gCT := [(4, YX9_people, 1, some 9), (58, YX9_year, 2, some 9)]
set_option maxRecDepth 100000 in
theorem ocX9_runs : gOkC YX9_runs uX9_runs := oc_c (gEdge_V cal_X9_people ck_9 rfl (show decode cX9_runs 4 = .ok (.invokevirtual 244, 3) by decide +kernel) wd_7_50 wd_7_52 wp_5_6) <|
  oc_c (gEdge_V cal_X9_year ck_9 rfl (show decode cX9_runs 58 = .ok (.invokevirtual 323, 3) by decide +kernel) wd_7_103 wd_7_105 wp_6_0) <|
  oc_n
theorem reX9_runs : ∀ pc ∈ [67], decode cX9_runs pc = .ok (.return_, 1) := by decide +kernel
def tX9_runs_ : List (Nat × gStp) := [(0, i_aload 0 1), (1, i_aload 0 2), (5, i_push (.int 1) 6), (6, i_ii (fun x y => x - y) 7)]
set_option maxRecDepth 100000 in
theorem okX9_runs_ : gOk YX9_runs_ tX9_runs_ := ok_c (sn_aload_n (show decode cX9_runs_ 0 = .ok (.aload_n 0, 1) by decide +kernel) rfl) <|
  ok_c (sn_aload_n (show decode cX9_runs_ 1 = .ok (.aload_n 0, 1) by decide +kernel) rfl) <|
  ok_c (sn_iconst (v := 1) (show decode cX9_runs_ 5 = .ok (.iconst 1, 1) by decide +kernel) (by decide +kernel)) <|
  ok_c (sn_isub (show decode cX9_runs_ 6 = .ok (.isub, 1) by decide +kernel)) <|
  ok_n
def uX9_runs_ : gCT := [(2, YX9_years, 1, some 9), (7, YX9_runs, 2, some 9)]
set_option maxRecDepth 100000 in
theorem ocX9_runs_ : gOkC YX9_runs_ uX9_runs_ := oc_c (gEdge_V cal_X9_years ck_9 rfl (show decode cX9_runs_ 2 = .ok (.invokevirtual 253, 3) by decide +kernel) wd_7_83 wd_7_85 wp_5_11) <|
  oc_c (gEdge_V cal_X9_runs ck_9 rfl (show decode cX9_runs_ 7 = .ok (.invokevirtual 326, 3) by decide +kernel) wd_7_99 wd_7_101 wp_5_15) <|
  oc_n
theorem reX9_runs_ : ∀ pc ∈ [10], decode cX9_runs_ pc = .ok (.return_, 1) := by decide +kernel
def tX9_laysNow : List (Nat × gStp) := [(0, i_aload 0 1), (4, i_aload 0 5)]
set_option maxRecDepth 100000 in
theorem okX9_laysNow : gOk YX9_laysNow tX9_laysNow := ok_c (sn_aload_n (show decode cX9_laysNow 0 = .ok (.aload_n 0, 1) by decide +kernel) rfl) <|
  ok_c (sn_aload_n (show decode cX9_laysNow 4 = .ok (.aload_n 0, 1) by decide +kernel) rfl) <|
  ok_n
def uX9_laysNow : gCT := [(1, YX9_lays, 1, some 9), (5, YX9_runs_, 1, some 9)]
set_option maxRecDepth 100000 in
theorem ocX9_laysNow : gOkC YX9_laysNow uX9_laysNow := oc_c (gEdge_V cal_X9_lays ck_9 rfl (show decode cX9_laysNow 1 = .ok (.invokevirtual 329, 3) by decide +kernel) wd_7_91 wd_7_93 wp_5_13) <|
  oc_c (gEdge_V cal_X9_runs_ ck_9 rfl (show decode cX9_laysNow 5 = .ok (.invokevirtual 332, 3) by decide +kernel) wd_7_95 wd_7_97 wp_5_14) <|
  oc_n
theorem reX9_laysNow : ∀ pc ∈ [8], decode cX9_laysNow pc = .ok (.return_, 1) := by decide +kernel
def tX9_outBits : List (Nat × gStp) := [(0, i_push (.int 0) 1), (1, i_istore 2 2), (2, i_push (.int 0) 3), (3, i_istore 3 4), (4, i_iload 3 5), (5, i_aload 0 6), (9, i_ic_ge 37 12), (12, i_iload 2 13), (13, i_aload 0 14), (14, i_iload 3 15), (15, i_iload 1 16), (19, i_if_eq 28 22), (22, i_push (.int 1) 23), (23, i_iload 3 24), (24, i_ii (fun x y => x <<< (y &&& 31)) 25), (25, i_goto 29), (28, i_push (.int 0) 29), (29, i_ii (fun x y => x ||| y) 30), (30, i_istore 2 31), (31, i_iinc 3 1 34), (34, i_goto 4), (37, i_iload 2 38)]
set_option maxRecDepth 100000 in
theorem okX9_outBits : gOk YX9_outBits tX9_outBits := ok_c (sn_iconst (v := 0) (show decode cX9_outBits 0 = .ok (.iconst 0, 1) by decide +kernel) (by decide +kernel)) <|
  ok_c (sn_istore_n (show decode cX9_outBits 1 = .ok (.istore_n 2, 1) by decide +kernel) rfl (by decide)) <|
  ok_c (sn_iconst (v := 0) (show decode cX9_outBits 2 = .ok (.iconst 0, 1) by decide +kernel) (by decide +kernel)) <|
  ok_c (sn_istore_n (show decode cX9_outBits 3 = .ok (.istore_n 3, 1) by decide +kernel) rfl (by decide)) <|
  ok_c (sn_iload_n (show decode cX9_outBits 4 = .ok (.iload_n 3, 1) by decide +kernel) rfl) <|
  ok_c (sn_aload_n (show decode cX9_outBits 5 = .ok (.aload_n 0, 1) by decide +kernel) rfl) <|
  ok_c (sn_ic_ge (show decode cX9_outBits 9 = .ok (.if_icmp .ge 28, 3) by decide +kernel) (by decide)) <|
  ok_c (sn_iload_n (show decode cX9_outBits 12 = .ok (.iload_n 2, 1) by decide +kernel) rfl) <|
  ok_c (sn_aload_n (show decode cX9_outBits 13 = .ok (.aload_n 0, 1) by decide +kernel) rfl) <|
  ok_c (sn_iload_n (show decode cX9_outBits 14 = .ok (.iload_n 3, 1) by decide +kernel) rfl) <|
  ok_c (sn_iload_n (show decode cX9_outBits 15 = .ok (.iload_n 1, 1) by decide +kernel) rfl) <|
  ok_c (sn_if_eq (show decode cX9_outBits 19 = .ok (.ifCond .eq 9, 3) by decide +kernel) (by decide)) <|
  ok_c (sn_iconst (v := 1) (show decode cX9_outBits 22 = .ok (.iconst 1, 1) by decide +kernel) (by decide +kernel)) <|
  ok_c (sn_iload_n (show decode cX9_outBits 23 = .ok (.iload_n 3, 1) by decide +kernel) rfl) <|
  ok_c (sn_ishl (show decode cX9_outBits 24 = .ok (.ishl, 1) by decide +kernel)) <|
  ok_c (sn_goto (show decode cX9_outBits 25 = .ok (.goto 4, 3) by decide +kernel) (by decide)) <|
  ok_c (sn_iconst (v := 0) (show decode cX9_outBits 28 = .ok (.iconst 0, 1) by decide +kernel) (by decide +kernel)) <|
  ok_c (sn_ior (show decode cX9_outBits 29 = .ok (.ior, 1) by decide +kernel)) <|
  ok_c (sn_istore_n (show decode cX9_outBits 30 = .ok (.istore_n 2, 1) by decide +kernel) rfl (by decide)) <|
  ok_c (sn_iinc (show decode cX9_outBits 31 = .ok (.iinc 3 1, 3) by decide +kernel) (by decide) (by decide +kernel)) <|
  ok_c (sn_goto (show decode cX9_outBits 34 = .ok (.goto (-30), 3) by decide +kernel) (by decide)) <|
  ok_c (sn_iload_n (show decode cX9_outBits 37 = .ok (.iload_n 2, 1) by decide +kernel) rfl) <|
  ok_n
def uX9_outBits : gCT := [(6, YX9_people, 1, some 9), (16, YX9_isOut, 3, some 9)]
set_option maxRecDepth 100000 in
theorem ocX9_outBits : gOkC YX9_outBits uX9_outBits := oc_c (gEdge_V cal_X9_people ck_9 rfl (show decode cX9_outBits 6 = .ok (.invokevirtual 244, 3) by decide +kernel) wd_7_50 wd_7_52 wp_5_6) <|
  oc_c (gEdge_V cal_X9_isOut ck_9 rfl (show decode cX9_outBits 16 = .ok (.invokevirtual 292, 3) by decide +kernel) wd_7_130 wd_7_132 wp_6_6) <|
  oc_n
theorem reX9_outBits : ∀ pc ∈ [38], decode cX9_outBits pc = .ok (.ireturn, 1) := by decide +kernel
def tX9_wideOf : List (Nat × gStp) := [(0, i_push (.int 0) 1), (1, i_istore 3 2), (2, i_push (.int 0) 3), (3, i_istore 4 5), (5, i_push (.int 0) 6), (6, i_istore 5 8), (8, i_iload 5 10), (10, i_aload 0 11), (14, i_ic_ge 77 17), (17, i_iload 1 18), (18, i_iload 5 20), (23, i_if_ne 29 26), (26, i_goto 71), (29, i_iload 3 30), (30, i_aload 0 31), (31, i_getC 9 149 34), (34, i_push (.int 3) 35), (35, i_iload 5 37), (37, i_ii (fun x y => x * y) 38), (38, i_iald 39), (39, i_ii (fun x y => x + y) 40), (40, i_istore 3 41), (41, i_aload 0 42), (42, i_getC 9 149 45), (45, i_push (.int 3) 46), (46, i_iload 5 48), (48, i_ii (fun x y => x * y) 49), (49, i_iald 50), (50, i_iload 4 52), (52, i_ic_le 67 55), (55, i_aload 0 56), (56, i_getC 9 149 59), (59, i_push (.int 3) 60), (60, i_iload 5 62), (62, i_ii (fun x y => x * y) 63), (63, i_iald 64), (64, i_goto 69), (67, i_iload 4 69), (69, i_istore 4 71), (71, i_iinc 5 1 74), (74, i_goto 8), (77, i_iload 1 78), (78, i_if_eq 88 81), (81, i_aload 0 82), (82, i_getI 9 24 85), (85, i_if_ne 90 88), (88, i_iload 3 89), (90, i_aload 0 91), (91, i_getI 9 24 94), (94, i_push (.int 1) 95), (95, i_ic_ne 101 98), (98, i_iload 4 100), (101, i_aload 0 102), (102, i_getI 9 24 105), (105, i_push (.int 2) 106), (106, i_ic_ne 116 109), (109, i_push (.int 2) 110), (110, i_iload 1 111), (114, i_ii (fun x y => x * y) 115), (116, i_iload 3 117), (117, i_iload 2 118), (118, i_ii (fun x y => x - y) 119), (119, i_push (.int 1) 120), (120, i_ic_le 129 123), (123, i_iload 3 124), (124, i_iload 2 125), (125, i_ii (fun x y => x - y) 126), (126, i_goto 130), (129, i_push (.int 1) 130)]
set_option maxRecDepth 100000 in
theorem okX9_wideOf : gOk YX9_wideOf tX9_wideOf := ok_c (sn_iconst (v := 0) (show decode cX9_wideOf 0 = .ok (.iconst 0, 1) by decide +kernel) (by decide +kernel)) <|
  ok_c (sn_istore_n (show decode cX9_wideOf 1 = .ok (.istore_n 3, 1) by decide +kernel) rfl (by decide)) <|
  ok_c (sn_iconst (v := 0) (show decode cX9_wideOf 2 = .ok (.iconst 0, 1) by decide +kernel) (by decide +kernel)) <|
  ok_c (sn_istore (show decode cX9_wideOf 3 = .ok (.istore 4, 2) by decide +kernel) (by decide)) <|
  ok_c (sn_iconst (v := 0) (show decode cX9_wideOf 5 = .ok (.iconst 0, 1) by decide +kernel) (by decide +kernel)) <|
  ok_c (sn_istore (show decode cX9_wideOf 6 = .ok (.istore 5, 2) by decide +kernel) (by decide)) <|
  ok_c (sn_iload (show decode cX9_wideOf 8 = .ok (.iload 5, 2) by decide +kernel)) <|
  ok_c (sn_aload_n (show decode cX9_wideOf 10 = .ok (.aload_n 0, 1) by decide +kernel) rfl) <|
  ok_c (sn_ic_ge (show decode cX9_wideOf 14 = .ok (.if_icmp .ge 63, 3) by decide +kernel) (by decide)) <|
  ok_c (sn_iload_n (show decode cX9_wideOf 17 = .ok (.iload_n 1, 1) by decide +kernel) rfl) <|
  ok_c (sn_iload (show decode cX9_wideOf 18 = .ok (.iload 5, 2) by decide +kernel)) <|
  ok_c (sn_if_ne (show decode cX9_wideOf 23 = .ok (.ifCond .ne 6, 3) by decide +kernel) (by decide)) <|
  ok_c (sn_goto (show decode cX9_wideOf 26 = .ok (.goto 45, 3) by decide +kernel) (by decide)) <|
  ok_c (sn_iload_n (show decode cX9_wideOf 29 = .ok (.iload_n 3, 1) by decide +kernel) rfl) <|
  ok_c (sn_aload_n (show decode cX9_wideOf 30 = .ok (.aload_n 0, 1) by decide +kernel) rfl) <|
  ok_c (sn_getC (j := 18) (fun _ _ => rfl) (sn_get ck_9 (by decide) (show decode cX9_wideOf 31 = .ok (.getfield 37, 3) by decide +kernel) wd_5_235)) <|
  ok_c (sn_iconst (v := 3) (show decode cX9_wideOf 34 = .ok (.iconst 3, 1) by decide +kernel) (by decide +kernel)) <|
  ok_c (sn_iload (show decode cX9_wideOf 35 = .ok (.iload 5, 2) by decide +kernel)) <|
  ok_c (sn_imul (show decode cX9_wideOf 37 = .ok (.imul, 1) by decide +kernel)) <|
  ok_c (sn_iald (show decode cX9_wideOf 38 = .ok (.iaload, 1) by decide +kernel)) <|
  ok_c (sn_iadd (show decode cX9_wideOf 39 = .ok (.iadd, 1) by decide +kernel)) <|
  ok_c (sn_istore_n (show decode cX9_wideOf 40 = .ok (.istore_n 3, 1) by decide +kernel) rfl (by decide)) <|
  ok_c (sn_aload_n (show decode cX9_wideOf 41 = .ok (.aload_n 0, 1) by decide +kernel) rfl) <|
  ok_c (sn_getC (j := 18) (fun _ _ => rfl) (sn_get ck_9 (by decide) (show decode cX9_wideOf 42 = .ok (.getfield 37, 3) by decide +kernel) wd_5_235)) <|
  ok_c (sn_iconst (v := 3) (show decode cX9_wideOf 45 = .ok (.iconst 3, 1) by decide +kernel) (by decide +kernel)) <|
  ok_c (sn_iload (show decode cX9_wideOf 46 = .ok (.iload 5, 2) by decide +kernel)) <|
  ok_c (sn_imul (show decode cX9_wideOf 48 = .ok (.imul, 1) by decide +kernel)) <|
  ok_c (sn_iald (show decode cX9_wideOf 49 = .ok (.iaload, 1) by decide +kernel)) <|
  ok_c (sn_iload (show decode cX9_wideOf 50 = .ok (.iload 4, 2) by decide +kernel)) <|
  ok_c (sn_ic_le (show decode cX9_wideOf 52 = .ok (.if_icmp .le 15, 3) by decide +kernel) (by decide)) <|
  ok_c (sn_aload_n (show decode cX9_wideOf 55 = .ok (.aload_n 0, 1) by decide +kernel) rfl) <|
  ok_c (sn_getC (j := 18) (fun _ _ => rfl) (sn_get ck_9 (by decide) (show decode cX9_wideOf 56 = .ok (.getfield 37, 3) by decide +kernel) wd_5_235)) <|
  ok_c (sn_iconst (v := 3) (show decode cX9_wideOf 59 = .ok (.iconst 3, 1) by decide +kernel) (by decide +kernel)) <|
  ok_c (sn_iload (show decode cX9_wideOf 60 = .ok (.iload 5, 2) by decide +kernel)) <|
  ok_c (sn_imul (show decode cX9_wideOf 62 = .ok (.imul, 1) by decide +kernel)) <|
  ok_c (sn_iald (show decode cX9_wideOf 63 = .ok (.iaload, 1) by decide +kernel)) <|
  ok_c (sn_goto (show decode cX9_wideOf 64 = .ok (.goto 5, 3) by decide +kernel) (by decide)) <|
  ok_c (sn_iload (show decode cX9_wideOf 67 = .ok (.iload 4, 2) by decide +kernel)) <|
  ok_c (sn_istore (show decode cX9_wideOf 69 = .ok (.istore 4, 2) by decide +kernel) (by decide)) <|
  ok_c (sn_iinc (show decode cX9_wideOf 71 = .ok (.iinc 5 1, 3) by decide +kernel) (by decide) (by decide +kernel)) <|
  ok_c (sn_goto (show decode cX9_wideOf 74 = .ok (.goto (-66), 3) by decide +kernel) (by decide)) <|
  ok_c (sn_iload_n (show decode cX9_wideOf 77 = .ok (.iload_n 1, 1) by decide +kernel) rfl) <|
  ok_c (sn_if_eq (show decode cX9_wideOf 78 = .ok (.ifCond .eq 10, 3) by decide +kernel) (by decide)) <|
  ok_c (sn_aload_n (show decode cX9_wideOf 81 = .ok (.aload_n 0, 1) by decide +kernel) rfl) <|
  ok_c (sn_getI (fun _ _ => rfl) (sn_get ck_9 (by decide) (show decode cX9_wideOf 82 = .ok (.getfield 259, 3) by decide +kernel) wd_6_1)) <|
  ok_c (sn_if_ne (show decode cX9_wideOf 85 = .ok (.ifCond .ne 5, 3) by decide +kernel) (by decide)) <|
  ok_c (sn_iload_n (show decode cX9_wideOf 88 = .ok (.iload_n 3, 1) by decide +kernel) rfl) <|
  ok_c (sn_aload_n (show decode cX9_wideOf 90 = .ok (.aload_n 0, 1) by decide +kernel) rfl) <|
  ok_c (sn_getI (fun _ _ => rfl) (sn_get ck_9 (by decide) (show decode cX9_wideOf 91 = .ok (.getfield 259, 3) by decide +kernel) wd_6_1)) <|
  ok_c (sn_iconst (v := 1) (show decode cX9_wideOf 94 = .ok (.iconst 1, 1) by decide +kernel) (by decide +kernel)) <|
  ok_c (sn_ic_ne (show decode cX9_wideOf 95 = .ok (.if_icmp .ne 6, 3) by decide +kernel) (by decide)) <|
  ok_c (sn_iload (show decode cX9_wideOf 98 = .ok (.iload 4, 2) by decide +kernel)) <|
  ok_c (sn_aload_n (show decode cX9_wideOf 101 = .ok (.aload_n 0, 1) by decide +kernel) rfl) <|
  ok_c (sn_getI (fun _ _ => rfl) (sn_get ck_9 (by decide) (show decode cX9_wideOf 102 = .ok (.getfield 259, 3) by decide +kernel) wd_6_1)) <|
  ok_c (sn_iconst (v := 2) (show decode cX9_wideOf 105 = .ok (.iconst 2, 1) by decide +kernel) (by decide +kernel)) <|
  ok_c (sn_ic_ne (show decode cX9_wideOf 106 = .ok (.if_icmp .ne 10, 3) by decide +kernel) (by decide)) <|
  ok_c (sn_iconst (v := 2) (show decode cX9_wideOf 109 = .ok (.iconst 2, 1) by decide +kernel) (by decide +kernel)) <|
  ok_c (sn_iload_n (show decode cX9_wideOf 110 = .ok (.iload_n 1, 1) by decide +kernel) rfl) <|
  ok_c (sn_imul (show decode cX9_wideOf 114 = .ok (.imul, 1) by decide +kernel)) <|
  ok_c (sn_iload_n (show decode cX9_wideOf 116 = .ok (.iload_n 3, 1) by decide +kernel) rfl) <|
  ok_c (sn_iload_n (show decode cX9_wideOf 117 = .ok (.iload_n 2, 1) by decide +kernel) rfl) <|
  ok_c (sn_isub (show decode cX9_wideOf 118 = .ok (.isub, 1) by decide +kernel)) <|
  ok_c (sn_iconst (v := 1) (show decode cX9_wideOf 119 = .ok (.iconst 1, 1) by decide +kernel) (by decide +kernel)) <|
  ok_c (sn_ic_le (show decode cX9_wideOf 120 = .ok (.if_icmp .le 9, 3) by decide +kernel) (by decide)) <|
  ok_c (sn_iload_n (show decode cX9_wideOf 123 = .ok (.iload_n 3, 1) by decide +kernel) rfl) <|
  ok_c (sn_iload_n (show decode cX9_wideOf 124 = .ok (.iload_n 2, 1) by decide +kernel) rfl) <|
  ok_c (sn_isub (show decode cX9_wideOf 125 = .ok (.isub, 1) by decide +kernel)) <|
  ok_c (sn_goto (show decode cX9_wideOf 126 = .ok (.goto 4, 3) by decide +kernel) (by decide)) <|
  ok_c (sn_iconst (v := 1) (show decode cX9_wideOf 129 = .ok (.iconst 1, 1) by decide +kernel) (by decide +kernel)) <|
  ok_n
def uX9_wideOf : gCT := [(11, YX9_people, 1, some 9), (20, YX9_isBit, 2, none), (111, YX9_sizeOf, 1, none)]
set_option maxRecDepth 100000 in
theorem ocX9_wideOf : gOkC YX9_wideOf uX9_wideOf := oc_c (gEdge_V cal_X9_people ck_9 rfl (show decode cX9_wideOf 11 = .ok (.invokevirtual 244, 3) by decide +kernel) wd_7_50 wd_7_52 wp_5_6) <|
  oc_c (gEdge_S cal_X9_isBit (show decode cX9_wideOf 20 = .ok (.invokestatic 281, 3) by decide +kernel) wd_7_115 wd_7_116) <|
  oc_c (gEdge_S cal_X9_sizeOf (show decode cX9_wideOf 111 = .ok (.invokestatic 334, 3) by decide +kernel) wd_7_198 wd_7_199) <|
  oc_n
theorem reX9_wideOf : ∀ pc ∈ [89, 100, 115, 130], decode cX9_wideOf pc = .ok (.ireturn, 1) := by decide +kernel
def tX9_joinsIn : List (Nat × gStp) := [(0, i_push (.int 0) 1), (1, i_istore 3 2), (2, i_push (.int 0) 3), (3, i_istore 4 5), (5, i_iload 4 7), (7, i_aload 0 8), (11, i_ic_ge 84 14), (14, i_iload 4 16), (16, i_push (.int 1) 17), (17, i_ii (fun x y => x + y) 18), (18, i_istore 5 20), (20, i_iload 5 22), (22, i_aload 0 23), (26, i_ic_ge 78 29), (29, i_iload 3 30), (30, i_iload 1 31), (31, i_iload 4 33), (36, i_if_eq 69 39), (39, i_iload 1 40), (40, i_iload 5 42), (45, i_if_eq 69 48), (48, i_aload 0 49), (49, i_getC 9 155 52), (52, i_push (.int 36) 54), (54, i_iload 2 55), (55, i_ii (fun x y => x * y) 56), (56, i_push (.int 6) 58), (58, i_iload 4 60), (60, i_ii (fun x y => x * y) 61), (61, i_ii (fun x y => x + y) 62), (62, i_iload 5 64), (64, i_ii (fun x y => x + y) 65), (65, i_iald 66), (66, i_goto 70), (69, i_push (.int 0) 70), (70, i_ii (fun x y => x + y) 71), (71, i_istore 3 72), (72, i_iinc 5 1 75), (75, i_goto 20), (78, i_iinc 4 1 81), (81, i_goto 5), (84, i_iload 3 85)]
set_option maxRecDepth 100000 in
theorem okX9_joinsIn : gOk YX9_joinsIn tX9_joinsIn := ok_c (sn_iconst (v := 0) (show decode cX9_joinsIn 0 = .ok (.iconst 0, 1) by decide +kernel) (by decide +kernel)) <|
  ok_c (sn_istore_n (show decode cX9_joinsIn 1 = .ok (.istore_n 3, 1) by decide +kernel) rfl (by decide)) <|
  ok_c (sn_iconst (v := 0) (show decode cX9_joinsIn 2 = .ok (.iconst 0, 1) by decide +kernel) (by decide +kernel)) <|
  ok_c (sn_istore (show decode cX9_joinsIn 3 = .ok (.istore 4, 2) by decide +kernel) (by decide)) <|
  ok_c (sn_iload (show decode cX9_joinsIn 5 = .ok (.iload 4, 2) by decide +kernel)) <|
  ok_c (sn_aload_n (show decode cX9_joinsIn 7 = .ok (.aload_n 0, 1) by decide +kernel) rfl) <|
  ok_c (sn_ic_ge (show decode cX9_joinsIn 11 = .ok (.if_icmp .ge 73, 3) by decide +kernel) (by decide)) <|
  ok_c (sn_iload (show decode cX9_joinsIn 14 = .ok (.iload 4, 2) by decide +kernel)) <|
  ok_c (sn_iconst (v := 1) (show decode cX9_joinsIn 16 = .ok (.iconst 1, 1) by decide +kernel) (by decide +kernel)) <|
  ok_c (sn_iadd (show decode cX9_joinsIn 17 = .ok (.iadd, 1) by decide +kernel)) <|
  ok_c (sn_istore (show decode cX9_joinsIn 18 = .ok (.istore 5, 2) by decide +kernel) (by decide)) <|
  ok_c (sn_iload (show decode cX9_joinsIn 20 = .ok (.iload 5, 2) by decide +kernel)) <|
  ok_c (sn_aload_n (show decode cX9_joinsIn 22 = .ok (.aload_n 0, 1) by decide +kernel) rfl) <|
  ok_c (sn_ic_ge (show decode cX9_joinsIn 26 = .ok (.if_icmp .ge 52, 3) by decide +kernel) (by decide)) <|
  ok_c (sn_iload_n (show decode cX9_joinsIn 29 = .ok (.iload_n 3, 1) by decide +kernel) rfl) <|
  ok_c (sn_iload_n (show decode cX9_joinsIn 30 = .ok (.iload_n 1, 1) by decide +kernel) rfl) <|
  ok_c (sn_iload (show decode cX9_joinsIn 31 = .ok (.iload 4, 2) by decide +kernel)) <|
  ok_c (sn_if_eq (show decode cX9_joinsIn 36 = .ok (.ifCond .eq 33, 3) by decide +kernel) (by decide)) <|
  ok_c (sn_iload_n (show decode cX9_joinsIn 39 = .ok (.iload_n 1, 1) by decide +kernel) rfl) <|
  ok_c (sn_iload (show decode cX9_joinsIn 40 = .ok (.iload 5, 2) by decide +kernel)) <|
  ok_c (sn_if_eq (show decode cX9_joinsIn 45 = .ok (.ifCond .eq 24, 3) by decide +kernel) (by decide)) <|
  ok_c (sn_aload_n (show decode cX9_joinsIn 48 = .ok (.aload_n 0, 1) by decide +kernel) rfl) <|
  ok_c (sn_getC (j := 33) (fun _ _ => rfl) (sn_get ck_9 (by decide) (show decode cX9_joinsIn 49 = .ok (.getfield 56, 3) by decide +kernel) wd_6_10)) <|
  ok_c (sn_bipush (v := 36) (show decode cX9_joinsIn 52 = .ok (.bipush 36, 2) by decide +kernel) (by decide +kernel)) <|
  ok_c (sn_iload_n (show decode cX9_joinsIn 54 = .ok (.iload_n 2, 1) by decide +kernel) rfl) <|
  ok_c (sn_imul (show decode cX9_joinsIn 55 = .ok (.imul, 1) by decide +kernel)) <|
  ok_c (sn_bipush (v := 6) (show decode cX9_joinsIn 56 = .ok (.bipush 6, 2) by decide +kernel) (by decide +kernel)) <|
  ok_c (sn_iload (show decode cX9_joinsIn 58 = .ok (.iload 4, 2) by decide +kernel)) <|
  ok_c (sn_imul (show decode cX9_joinsIn 60 = .ok (.imul, 1) by decide +kernel)) <|
  ok_c (sn_iadd (show decode cX9_joinsIn 61 = .ok (.iadd, 1) by decide +kernel)) <|
  ok_c (sn_iload (show decode cX9_joinsIn 62 = .ok (.iload 5, 2) by decide +kernel)) <|
  ok_c (sn_iadd (show decode cX9_joinsIn 64 = .ok (.iadd, 1) by decide +kernel)) <|
  ok_c (sn_iald (show decode cX9_joinsIn 65 = .ok (.iaload, 1) by decide +kernel)) <|
  ok_c (sn_goto (show decode cX9_joinsIn 66 = .ok (.goto 4, 3) by decide +kernel) (by decide)) <|
  ok_c (sn_iconst (v := 0) (show decode cX9_joinsIn 69 = .ok (.iconst 0, 1) by decide +kernel) (by decide +kernel)) <|
  ok_c (sn_iadd (show decode cX9_joinsIn 70 = .ok (.iadd, 1) by decide +kernel)) <|
  ok_c (sn_istore_n (show decode cX9_joinsIn 71 = .ok (.istore_n 3, 1) by decide +kernel) rfl (by decide)) <|
  ok_c (sn_iinc (show decode cX9_joinsIn 72 = .ok (.iinc 5 1, 3) by decide +kernel) (by decide) (by decide +kernel)) <|
  ok_c (sn_goto (show decode cX9_joinsIn 75 = .ok (.goto (-55), 3) by decide +kernel) (by decide)) <|
  ok_c (sn_iinc (show decode cX9_joinsIn 78 = .ok (.iinc 4 1, 3) by decide +kernel) (by decide) (by decide +kernel)) <|
  ok_c (sn_goto (show decode cX9_joinsIn 81 = .ok (.goto (-76), 3) by decide +kernel) (by decide)) <|
  ok_c (sn_iload_n (show decode cX9_joinsIn 84 = .ok (.iload_n 3, 1) by decide +kernel) rfl) <|
  ok_n
def uX9_joinsIn : gCT := [(8, YX9_people, 1, some 9), (23, YX9_people, 1, some 9), (33, YX9_isBit, 2, none), (42, YX9_isBit, 2, none)]
set_option maxRecDepth 100000 in
theorem ocX9_joinsIn : gOkC YX9_joinsIn uX9_joinsIn := oc_c (gEdge_V cal_X9_people ck_9 rfl (show decode cX9_joinsIn 8 = .ok (.invokevirtual 244, 3) by decide +kernel) wd_7_50 wd_7_52 wp_5_6) <|
  oc_c (gEdge_V cal_X9_people ck_9 rfl (show decode cX9_joinsIn 23 = .ok (.invokevirtual 244, 3) by decide +kernel) wd_7_50 wd_7_52 wp_5_6) <|
  oc_c (gEdge_S cal_X9_isBit (show decode cX9_joinsIn 33 = .ok (.invokestatic 281, 3) by decide +kernel) wd_7_115 wd_7_116) <|
  oc_c (gEdge_S cal_X9_isBit (show decode cX9_joinsIn 42 = .ok (.invokestatic 281, 3) by decide +kernel) wd_7_115 wd_7_116) <|
  oc_n
theorem reX9_joinsIn : ∀ pc ∈ [85], decode cX9_joinsIn pc = .ok (.ireturn, 1) := by decide +kernel
def tX9_wideThen : List (Nat × gStp) := [(0, i_aload 0 1), (1, i_iload 1 2), (2, i_iload 2 3), (6, i_istore 3 7), (7, i_aload 0 8), (8, i_iload 3 9), (9, i_aload 0 10), (10, i_iload 3 11), (11, i_iload 2 12)]
set_option maxRecDepth 100000 in
theorem okX9_wideThen : gOk YX9_wideThen tX9_wideThen := ok_c (sn_aload_n (show decode cX9_wideThen 0 = .ok (.aload_n 0, 1) by decide +kernel) rfl) <|
  ok_c (sn_iload_n (show decode cX9_wideThen 1 = .ok (.iload_n 1, 1) by decide +kernel) rfl) <|
  ok_c (sn_iload_n (show decode cX9_wideThen 2 = .ok (.iload_n 2, 1) by decide +kernel) rfl) <|
  ok_c (sn_istore_n (show decode cX9_wideThen 6 = .ok (.istore_n 3, 1) by decide +kernel) rfl (by decide)) <|
  ok_c (sn_aload_n (show decode cX9_wideThen 7 = .ok (.aload_n 0, 1) by decide +kernel) rfl) <|
  ok_c (sn_iload_n (show decode cX9_wideThen 8 = .ok (.iload_n 3, 1) by decide +kernel) rfl) <|
  ok_c (sn_aload_n (show decode cX9_wideThen 9 = .ok (.aload_n 0, 1) by decide +kernel) rfl) <|
  ok_c (sn_iload_n (show decode cX9_wideThen 10 = .ok (.iload_n 3, 1) by decide +kernel) rfl) <|
  ok_c (sn_iload_n (show decode cX9_wideThen 11 = .ok (.iload_n 2, 1) by decide +kernel) rfl) <|
  ok_n
def uX9_wideThen : gCT := [(3, YX9_firmOf, 3, some 9), (12, YX9_joinsIn, 3, some 9), (15, YX9_wideOf, 3, some 9)]
set_option maxRecDepth 100000 in
theorem ocX9_wideThen : gOkC YX9_wideThen uX9_wideThen := oc_c (gEdge_V cal_X9_firmOf ck_9 rfl (show decode cX9_wideThen 3 = .ok (.invokevirtual 311, 3) by decide +kernel) wd_7_134 wd_7_136 wp_6_7) <|
  oc_c (gEdge_V cal_X9_joinsIn ck_9 rfl (show decode cX9_wideThen 12 = .ok (.invokevirtual 337, 3) by decide +kernel) wd_7_190 wd_7_192 wp_7_1) <|
  oc_c (gEdge_V cal_X9_wideOf ck_9 rfl (show decode cX9_wideThen 15 = .ok (.invokevirtual 340, 3) by decide +kernel) wd_7_194 wd_7_196 wp_7_2) <|
  oc_n
theorem reX9_wideThen : ∀ pc ∈ [18], decode cX9_wideThen pc = .ok (.ireturn, 1) := by decide +kernel
def tX9_goesThrough : List (Nat × gStp) := [(0, i_aload 0 1), (1, i_iload 1 2), (2, i_iload 3 3), (6, i_if_ne 28 9), (9, i_aload 0 10), (10, i_iload 1 11), (11, i_iload 3 12), (15, i_aload 0 16), (16, i_getC 9 151 19), (19, i_iload 2 20), (20, i_iald 21), (21, i_ic_gt 28 24), (24, i_push (.int 1) 25), (25, i_goto 29), (28, i_push (.int 0) 29)]
set_option maxRecDepth 100000 in
theorem okX9_goesThrough : gOk YX9_goesThrough tX9_goesThrough := ok_c (sn_aload_n (show decode cX9_goesThrough 0 = .ok (.aload_n 0, 1) by decide +kernel) rfl) <|
  ok_c (sn_iload_n (show decode cX9_goesThrough 1 = .ok (.iload_n 1, 1) by decide +kernel) rfl) <|
  ok_c (sn_iload_n (show decode cX9_goesThrough 2 = .ok (.iload_n 3, 1) by decide +kernel) rfl) <|
  ok_c (sn_if_ne (show decode cX9_goesThrough 6 = .ok (.ifCond .ne 22, 3) by decide +kernel) (by decide)) <|
  ok_c (sn_aload_n (show decode cX9_goesThrough 9 = .ok (.aload_n 0, 1) by decide +kernel) rfl) <|
  ok_c (sn_iload_n (show decode cX9_goesThrough 10 = .ok (.iload_n 1, 1) by decide +kernel) rfl) <|
  ok_c (sn_iload_n (show decode cX9_goesThrough 11 = .ok (.iload_n 3, 1) by decide +kernel) rfl) <|
  ok_c (sn_aload_n (show decode cX9_goesThrough 15 = .ok (.aload_n 0, 1) by decide +kernel) rfl) <|
  ok_c (sn_getC (j := 20) (fun _ _ => rfl) (sn_get ck_9 (by decide) (show decode cX9_goesThrough 16 = .ok (.getfield 43, 3) by decide +kernel) wd_5_237)) <|
  ok_c (sn_iload_n (show decode cX9_goesThrough 19 = .ok (.iload_n 2, 1) by decide +kernel) rfl) <|
  ok_c (sn_iald (show decode cX9_goesThrough 20 = .ok (.iaload, 1) by decide +kernel)) <|
  ok_c (sn_ic_gt (show decode cX9_goesThrough 21 = .ok (.if_icmp .gt 7, 3) by decide +kernel) (by decide)) <|
  ok_c (sn_iconst (v := 1) (show decode cX9_goesThrough 24 = .ok (.iconst 1, 1) by decide +kernel) (by decide +kernel)) <|
  ok_c (sn_goto (show decode cX9_goesThrough 25 = .ok (.goto 4, 3) by decide +kernel) (by decide)) <|
  ok_c (sn_iconst (v := 0) (show decode cX9_goesThrough 28 = .ok (.iconst 0, 1) by decide +kernel) (by decide +kernel)) <|
  ok_n
def uX9_goesThrough : gCT := [(3, YX9_isOut, 3, some 9), (12, YX9_wideThen, 3, some 9)]
set_option maxRecDepth 100000 in
theorem ocX9_goesThrough : gOkC YX9_goesThrough uX9_goesThrough := oc_c (gEdge_V cal_X9_isOut ck_9 rfl (show decode cX9_goesThrough 3 = .ok (.invokevirtual 292, 3) by decide +kernel) wd_7_130 wd_7_132 wp_6_6) <|
  oc_c (gEdge_V cal_X9_wideThen ck_9 rfl (show decode cX9_goesThrough 12 = .ok (.invokevirtual 343, 3) by decide +kernel) wd_7_186 wd_7_188 wp_7_0) <|
  oc_n
theorem reX9_goesThrough : ∀ pc ∈ [29], decode cX9_goesThrough pc = .ok (.ireturn, 1) := by decide +kernel
def tX9_isHead : List (Nat × gStp) := [(0, i_aload 0 1), (1, i_iload 1 2), (2, i_iload 2 3), (6, i_istore 3 7), (7, i_iload 3 8), (8, i_if_eq 25 11), (11, i_iload 3 12), (12, i_push (.int 1) 13), (13, i_iload 1 14), (14, i_ii (fun x y => x <<< (y &&& 31)) 15), (15, i_push (.int 1) 16), (16, i_ii (fun x y => x - y) 17), (17, i_ii (fun x y => x &&& y) 18), (18, i_if_ne 25 21), (21, i_push (.int 1) 22), (22, i_goto 26), (25, i_push (.int 0) 26)]
set_option maxRecDepth 100000 in
theorem okX9_isHead : gOk YX9_isHead tX9_isHead := ok_c (sn_aload_n (show decode cX9_isHead 0 = .ok (.aload_n 0, 1) by decide +kernel) rfl) <|
  ok_c (sn_iload_n (show decode cX9_isHead 1 = .ok (.iload_n 1, 1) by decide +kernel) rfl) <|
  ok_c (sn_iload_n (show decode cX9_isHead 2 = .ok (.iload_n 2, 1) by decide +kernel) rfl) <|
  ok_c (sn_istore_n (show decode cX9_isHead 6 = .ok (.istore_n 3, 1) by decide +kernel) rfl (by decide)) <|
  ok_c (sn_iload_n (show decode cX9_isHead 7 = .ok (.iload_n 3, 1) by decide +kernel) rfl) <|
  ok_c (sn_if_eq (show decode cX9_isHead 8 = .ok (.ifCond .eq 17, 3) by decide +kernel) (by decide)) <|
  ok_c (sn_iload_n (show decode cX9_isHead 11 = .ok (.iload_n 3, 1) by decide +kernel) rfl) <|
  ok_c (sn_iconst (v := 1) (show decode cX9_isHead 12 = .ok (.iconst 1, 1) by decide +kernel) (by decide +kernel)) <|
  ok_c (sn_iload_n (show decode cX9_isHead 13 = .ok (.iload_n 1, 1) by decide +kernel) rfl) <|
  ok_c (sn_ishl (show decode cX9_isHead 14 = .ok (.ishl, 1) by decide +kernel)) <|
  ok_c (sn_iconst (v := 1) (show decode cX9_isHead 15 = .ok (.iconst 1, 1) by decide +kernel) (by decide +kernel)) <|
  ok_c (sn_isub (show decode cX9_isHead 16 = .ok (.isub, 1) by decide +kernel)) <|
  ok_c (sn_iand (show decode cX9_isHead 17 = .ok (.iand, 1) by decide +kernel)) <|
  ok_c (sn_if_ne (show decode cX9_isHead 18 = .ok (.ifCond .ne 7, 3) by decide +kernel) (by decide)) <|
  ok_c (sn_iconst (v := 1) (show decode cX9_isHead 21 = .ok (.iconst 1, 1) by decide +kernel) (by decide +kernel)) <|
  ok_c (sn_goto (show decode cX9_isHead 22 = .ok (.goto 4, 3) by decide +kernel) (by decide)) <|
  ok_c (sn_iconst (v := 0) (show decode cX9_isHead 25 = .ok (.iconst 0, 1) by decide +kernel) (by decide +kernel)) <|
  ok_n
def uX9_isHead : gCT := [(3, YX9_firmOf, 3, some 9)]
set_option maxRecDepth 100000 in
theorem ocX9_isHead : gOkC YX9_isHead uX9_isHead := oc_c (gEdge_V cal_X9_firmOf ck_9 rfl (show decode cX9_isHead 3 = .ok (.invokevirtual 311, 3) by decide +kernel) wd_7_134 wd_7_136 wp_6_7) <|
  oc_n
theorem reX9_isHead : ∀ pc ∈ [26], decode cX9_isHead pc = .ok (.ireturn, 1) := by decide +kernel
def tX9_partner : List (Nat × gStp) := [(0, i_aload 0 1), (1, i_push (.int 0) 2), (2, i_putI 9 0 5), (5, i_aload 0 6), (6, i_iload 1 7), (7, i_i2l 8), (11, i_if_eq 39 14), (14, i_iload 2 15), (15, i_i2l 16), (16, i_push (.long 0) 17), (17, i_push (.long 2) 20), (23, i_if_eq 39 26), (26, i_aload 0 27), (27, i_getC 9 149 30), (30, i_push (.int 3) 31), (31, i_iload 1 32), (32, i_ii (fun x y => x * y) 33), (33, i_iload 2 34), (34, i_ii (fun x y => x + y) 35), (35, i_iald 36), (36, i_goto 41), (39, i_push (.int (-2)) 41)]
set_option maxRecDepth 100000 in
theorem okX9_partner : gOk YX9_partner tX9_partner := ok_c (sn_aload_n (show decode cX9_partner 0 = .ok (.aload_n 0, 1) by decide +kernel) rfl) <|
  ok_c (sn_iconst (v := 0) (show decode cX9_partner 1 = .ok (.iconst 0, 1) by decide +kernel) (by decide +kernel)) <|
  ok_c (sn_putI ck_9 (by decide) rfl rfl (show decode cX9_partner 2 = .ok (.putfield 77, 3) by decide +kernel) wd_5_217) <|
  ok_c (sn_aload_n (show decode cX9_partner 5 = .ok (.aload_n 0, 1) by decide +kernel) rfl) <|
  ok_c (sn_iload_n (show decode cX9_partner 6 = .ok (.iload_n 1, 1) by decide +kernel) rfl) <|
  ok_c (sn_i2l (show decode cX9_partner 7 = .ok (.i2l, 1) by decide +kernel)) <|
  ok_c (sn_if_eq (show decode cX9_partner 11 = .ok (.ifCond .eq 28, 3) by decide +kernel) (by decide)) <|
  ok_c (sn_iload_n (show decode cX9_partner 14 = .ok (.iload_n 2, 1) by decide +kernel) rfl) <|
  ok_c (sn_i2l (show decode cX9_partner 15 = .ok (.i2l, 1) by decide +kernel)) <|
  ok_c (sn_lconst (v := 0) (show decode cX9_partner 16 = .ok (.lconst 0, 1) by decide +kernel) (by decide +kernel)) <|
  ok_c (sn_ldc2 (show decode cX9_partner 17 = .ok (.ldc2_w 346, 3) by decide +kernel) wd_7_54) <|
  ok_c (sn_if_eq (show decode cX9_partner 23 = .ok (.ifCond .eq 16, 3) by decide +kernel) (by decide)) <|
  ok_c (sn_aload_n (show decode cX9_partner 26 = .ok (.aload_n 0, 1) by decide +kernel) rfl) <|
  ok_c (sn_getC (j := 18) (fun _ _ => rfl) (sn_get ck_9 (by decide) (show decode cX9_partner 27 = .ok (.getfield 37, 3) by decide +kernel) wd_5_235)) <|
  ok_c (sn_iconst (v := 3) (show decode cX9_partner 30 = .ok (.iconst 3, 1) by decide +kernel) (by decide +kernel)) <|
  ok_c (sn_iload_n (show decode cX9_partner 31 = .ok (.iload_n 1, 1) by decide +kernel) rfl) <|
  ok_c (sn_imul (show decode cX9_partner 32 = .ok (.imul, 1) by decide +kernel)) <|
  ok_c (sn_iload_n (show decode cX9_partner 33 = .ok (.iload_n 2, 1) by decide +kernel) rfl) <|
  ok_c (sn_iadd (show decode cX9_partner 34 = .ok (.iadd, 1) by decide +kernel)) <|
  ok_c (sn_iald (show decode cX9_partner 35 = .ok (.iaload, 1) by decide +kernel)) <|
  ok_c (sn_goto (show decode cX9_partner 36 = .ok (.goto 5, 3) by decide +kernel) (by decide)) <|
  ok_c (sn_bipush (v := (-2)) (show decode cX9_partner 39 = .ok (.bipush (-2), 2) by decide +kernel) (by decide +kernel)) <|
  ok_n
def uX9_partner : gCT := [(8, YX9_isPerson, 2, some 9), (20, YX9_in, 3, none)]
set_option maxRecDepth 100000 in
theorem ocX9_partner : gOkC YX9_partner uX9_partner := oc_c (gEdge_V cal_X9_isPerson ck_9 rfl (show decode cX9_partner 8 = .ok (.invokevirtual 247, 3) by decide +kernel) wd_7_46 wd_7_48 wp_5_5) <|
  oc_c (gEdge_S cal_X9_in (show decode cX9_partner 20 = .ok (.invokestatic 82, 3) by decide +kernel) wd_6_134 wd_6_135) <|
  oc_n
theorem reX9_partner : ∀ pc ∈ [41], decode cX9_partner pc = .ok (.ireturn, 1) := by decide +kernel
def tX9_join : List (Nat × gStp) := [(0, i_aload 0 1), (1, i_push (.int 0) 2), (2, i_putI 9 0 5), (5, i_aload 0 6), (6, i_iload 1 7), (10, i_if_eq 38 13), (13, i_iload 2 14), (14, i_i2l 15), (15, i_push (.long 0) 16), (16, i_push (.long 2) 19), (22, i_if_eq 38 25), (25, i_aload 0 26), (26, i_getC 9 150 29), (29, i_push (.int 3) 30), (30, i_iload 1 31), (31, i_ii (fun x y => x * y) 32), (32, i_iload 2 33), (33, i_ii (fun x y => x + y) 34), (34, i_iald 35), (35, i_goto 40), (38, i_push (.int (-2)) 40)]
set_option maxRecDepth 100000 in
theorem okX9_join : gOk YX9_join tX9_join := ok_c (sn_aload_n (show decode cX9_join 0 = .ok (.aload_n 0, 1) by decide +kernel) rfl) <|
  ok_c (sn_iconst (v := 0) (show decode cX9_join 1 = .ok (.iconst 0, 1) by decide +kernel) (by decide +kernel)) <|
  ok_c (sn_putI ck_9 (by decide) rfl rfl (show decode cX9_join 2 = .ok (.putfield 77, 3) by decide +kernel) wd_5_217) <|
  ok_c (sn_aload_n (show decode cX9_join 5 = .ok (.aload_n 0, 1) by decide +kernel) rfl) <|
  ok_c (sn_iload_n (show decode cX9_join 6 = .ok (.iload_n 1, 1) by decide +kernel) rfl) <|
  ok_c (sn_if_eq (show decode cX9_join 10 = .ok (.ifCond .eq 28, 3) by decide +kernel) (by decide)) <|
  ok_c (sn_iload_n (show decode cX9_join 13 = .ok (.iload_n 2, 1) by decide +kernel) rfl) <|
  ok_c (sn_i2l (show decode cX9_join 14 = .ok (.i2l, 1) by decide +kernel)) <|
  ok_c (sn_lconst (v := 0) (show decode cX9_join 15 = .ok (.lconst 0, 1) by decide +kernel) (by decide +kernel)) <|
  ok_c (sn_ldc2 (show decode cX9_join 16 = .ok (.ldc2_w 346, 3) by decide +kernel) wd_7_54) <|
  ok_c (sn_if_eq (show decode cX9_join 22 = .ok (.ifCond .eq 16, 3) by decide +kernel) (by decide)) <|
  ok_c (sn_aload_n (show decode cX9_join 25 = .ok (.aload_n 0, 1) by decide +kernel) rfl) <|
  ok_c (sn_getC (j := 19) (fun _ _ => rfl) (sn_get ck_9 (by decide) (show decode cX9_join 26 = .ok (.getfield 40, 3) by decide +kernel) wd_5_236)) <|
  ok_c (sn_iconst (v := 3) (show decode cX9_join 29 = .ok (.iconst 3, 1) by decide +kernel) (by decide +kernel)) <|
  ok_c (sn_iload_n (show decode cX9_join 30 = .ok (.iload_n 1, 1) by decide +kernel) rfl) <|
  ok_c (sn_imul (show decode cX9_join 31 = .ok (.imul, 1) by decide +kernel)) <|
  ok_c (sn_iload_n (show decode cX9_join 32 = .ok (.iload_n 2, 1) by decide +kernel) rfl) <|
  ok_c (sn_iadd (show decode cX9_join 33 = .ok (.iadd, 1) by decide +kernel)) <|
  ok_c (sn_iald (show decode cX9_join 34 = .ok (.iaload, 1) by decide +kernel)) <|
  ok_c (sn_goto (show decode cX9_join 35 = .ok (.goto 5, 3) by decide +kernel) (by decide)) <|
  ok_c (sn_bipush (v := (-2)) (show decode cX9_join 38 = .ok (.bipush (-2), 2) by decide +kernel) (by decide +kernel)) <|
  ok_n
def uX9_join : gCT := [(7, YX9_isJoin, 2, some 9), (19, YX9_in, 3, none)]
set_option maxRecDepth 100000 in
theorem ocX9_join : gOkC YX9_join uX9_join := oc_c (gEdge_V cal_X9_isJoin ck_9 rfl (show decode cX9_join 7 = .ok (.invokevirtual 348, 3) by decide +kernel) wd_7_59 wd_7_61 wp_5_7) <|
  oc_c (gEdge_S cal_X9_in (show decode cX9_join 19 = .ok (.invokestatic 82, 3) by decide +kernel) wd_6_134 wd_6_135) <|
  oc_n
theorem reX9_join : ∀ pc ∈ [40], decode cX9_join pc = .ok (.ireturn, 1) := by decide +kernel
def tX9_door : List (Nat × gStp) := [(0, i_aload 0 1), (1, i_push (.int 0) 2), (2, i_putI 9 0 5), (5, i_aload 0 6), (6, i_iload 1 7), (7, i_i2l 8), (11, i_if_eq 23 14), (14, i_aload 0 15), (15, i_getC 9 151 18), (18, i_iload 1 19), (19, i_iald 20), (20, i_goto 25), (23, i_push (.int (-2)) 25)]
set_option maxRecDepth 100000 in
theorem okX9_door : gOk YX9_door tX9_door := ok_c (sn_aload_n (show decode cX9_door 0 = .ok (.aload_n 0, 1) by decide +kernel) rfl) <|
  ok_c (sn_iconst (v := 0) (show decode cX9_door 1 = .ok (.iconst 0, 1) by decide +kernel) (by decide +kernel)) <|
  ok_c (sn_putI ck_9 (by decide) rfl rfl (show decode cX9_door 2 = .ok (.putfield 77, 3) by decide +kernel) wd_5_217) <|
  ok_c (sn_aload_n (show decode cX9_door 5 = .ok (.aload_n 0, 1) by decide +kernel) rfl) <|
  ok_c (sn_iload_n (show decode cX9_door 6 = .ok (.iload_n 1, 1) by decide +kernel) rfl) <|
  ok_c (sn_i2l (show decode cX9_door 7 = .ok (.i2l, 1) by decide +kernel)) <|
  ok_c (sn_if_eq (show decode cX9_door 11 = .ok (.ifCond .eq 12, 3) by decide +kernel) (by decide)) <|
  ok_c (sn_aload_n (show decode cX9_door 14 = .ok (.aload_n 0, 1) by decide +kernel) rfl) <|
  ok_c (sn_getC (j := 20) (fun _ _ => rfl) (sn_get ck_9 (by decide) (show decode cX9_door 15 = .ok (.getfield 43, 3) by decide +kernel) wd_5_237)) <|
  ok_c (sn_iload_n (show decode cX9_door 18 = .ok (.iload_n 1, 1) by decide +kernel) rfl) <|
  ok_c (sn_iald (show decode cX9_door 19 = .ok (.iaload, 1) by decide +kernel)) <|
  ok_c (sn_goto (show decode cX9_door 20 = .ok (.goto 5, 3) by decide +kernel) (by decide)) <|
  ok_c (sn_bipush (v := (-2)) (show decode cX9_door 23 = .ok (.bipush (-2), 2) by decide +kernel) (by decide +kernel)) <|
  ok_n
def uX9_door : gCT := [(8, YX9_isDoor, 2, some 9)]
set_option maxRecDepth 100000 in
theorem ocX9_door : gOkC YX9_door uX9_door := oc_c (gEdge_V cal_X9_isDoor ck_9 rfl (show decode cX9_door 8 = .ok (.invokevirtual 351, 3) by decide +kernel) wd_7_71 wd_7_73 wp_5_9) <|
  oc_n
theorem reX9_door : ∀ pc ∈ [25], decode cX9_door pc = .ok (.ireturn, 1) := by decide +kernel
def tX9_isToldThen : List (Nat × gStp) := [(0, i_aload 0 1), (1, i_iload 1 2), (2, i_iload 2 3), (6, i_if_eq 47 9), (9, i_aload 0 10), (10, i_aload 0 11), (11, i_getC 9 150 14), (14, i_push (.int 3) 15), (15, i_iload 1 16), (16, i_ii (fun x y => x * y) 17), (17, i_iald 18), (18, i_iload 2 19), (22, i_if_ne 47 25), (25, i_aload 0 26), (26, i_aload 0 27), (27, i_getC 9 150 30), (30, i_push (.int 3) 31), (31, i_iload 1 32), (32, i_ii (fun x y => x * y) 33), (33, i_push (.int 1) 34), (34, i_ii (fun x y => x + y) 35), (35, i_iald 36), (36, i_iload 2 37), (40, i_if_ne 47 43), (43, i_push (.int 1) 44), (44, i_goto 48), (47, i_push (.int 0) 48)]
set_option maxRecDepth 100000 in
theorem okX9_isToldThen : gOk YX9_isToldThen tX9_isToldThen := ok_c (sn_aload_n (show decode cX9_isToldThen 0 = .ok (.aload_n 0, 1) by decide +kernel) rfl) <|
  ok_c (sn_iload_n (show decode cX9_isToldThen 1 = .ok (.iload_n 1, 1) by decide +kernel) rfl) <|
  ok_c (sn_iload_n (show decode cX9_isToldThen 2 = .ok (.iload_n 2, 1) by decide +kernel) rfl) <|
  ok_c (sn_if_eq (show decode cX9_isToldThen 6 = .ok (.ifCond .eq 41, 3) by decide +kernel) (by decide)) <|
  ok_c (sn_aload_n (show decode cX9_isToldThen 9 = .ok (.aload_n 0, 1) by decide +kernel) rfl) <|
  ok_c (sn_aload_n (show decode cX9_isToldThen 10 = .ok (.aload_n 0, 1) by decide +kernel) rfl) <|
  ok_c (sn_getC (j := 19) (fun _ _ => rfl) (sn_get ck_9 (by decide) (show decode cX9_isToldThen 11 = .ok (.getfield 40, 3) by decide +kernel) wd_5_236)) <|
  ok_c (sn_iconst (v := 3) (show decode cX9_isToldThen 14 = .ok (.iconst 3, 1) by decide +kernel) (by decide +kernel)) <|
  ok_c (sn_iload_n (show decode cX9_isToldThen 15 = .ok (.iload_n 1, 1) by decide +kernel) rfl) <|
  ok_c (sn_imul (show decode cX9_isToldThen 16 = .ok (.imul, 1) by decide +kernel)) <|
  ok_c (sn_iald (show decode cX9_isToldThen 17 = .ok (.iaload, 1) by decide +kernel)) <|
  ok_c (sn_iload_n (show decode cX9_isToldThen 18 = .ok (.iload_n 2, 1) by decide +kernel) rfl) <|
  ok_c (sn_if_ne (show decode cX9_isToldThen 22 = .ok (.ifCond .ne 25, 3) by decide +kernel) (by decide)) <|
  ok_c (sn_aload_n (show decode cX9_isToldThen 25 = .ok (.aload_n 0, 1) by decide +kernel) rfl) <|
  ok_c (sn_aload_n (show decode cX9_isToldThen 26 = .ok (.aload_n 0, 1) by decide +kernel) rfl) <|
  ok_c (sn_getC (j := 19) (fun _ _ => rfl) (sn_get ck_9 (by decide) (show decode cX9_isToldThen 27 = .ok (.getfield 40, 3) by decide +kernel) wd_5_236)) <|
  ok_c (sn_iconst (v := 3) (show decode cX9_isToldThen 30 = .ok (.iconst 3, 1) by decide +kernel) (by decide +kernel)) <|
  ok_c (sn_iload_n (show decode cX9_isToldThen 31 = .ok (.iload_n 1, 1) by decide +kernel) rfl) <|
  ok_c (sn_imul (show decode cX9_isToldThen 32 = .ok (.imul, 1) by decide +kernel)) <|
  ok_c (sn_iconst (v := 1) (show decode cX9_isToldThen 33 = .ok (.iconst 1, 1) by decide +kernel) (by decide +kernel)) <|
  ok_c (sn_iadd (show decode cX9_isToldThen 34 = .ok (.iadd, 1) by decide +kernel)) <|
  ok_c (sn_iald (show decode cX9_isToldThen 35 = .ok (.iaload, 1) by decide +kernel)) <|
  ok_c (sn_iload_n (show decode cX9_isToldThen 36 = .ok (.iload_n 2, 1) by decide +kernel) rfl) <|
  ok_c (sn_if_ne (show decode cX9_isToldThen 40 = .ok (.ifCond .ne 7, 3) by decide +kernel) (by decide)) <|
  ok_c (sn_iconst (v := 1) (show decode cX9_isToldThen 43 = .ok (.iconst 1, 1) by decide +kernel) (by decide +kernel)) <|
  ok_c (sn_goto (show decode cX9_isToldThen 44 = .ok (.goto 4, 3) by decide +kernel) (by decide)) <|
  ok_c (sn_iconst (v := 0) (show decode cX9_isToldThen 47 = .ok (.iconst 0, 1) by decide +kernel) (by decide +kernel)) <|
  ok_n
def uX9_isToldThen : gCT := [(3, YX9_isTold, 3, some 9), (19, YX9_isOut, 3, some 9), (37, YX9_isOut, 3, some 9)]
set_option maxRecDepth 100000 in
theorem ocX9_isToldThen : gOkC YX9_isToldThen uX9_isToldThen := oc_c (gEdge_V cal_X9_isTold ck_9 rfl (show decode cX9_isToldThen 3 = .ok (.invokevirtual 295, 3) by decide +kernel) wd_7_111 wd_7_113 wp_6_2) <|
  oc_c (gEdge_V cal_X9_isOut ck_9 rfl (show decode cX9_isToldThen 19 = .ok (.invokevirtual 292, 3) by decide +kernel) wd_7_130 wd_7_132 wp_6_6) <|
  oc_c (gEdge_V cal_X9_isOut ck_9 rfl (show decode cX9_isToldThen 37 = .ok (.invokevirtual 292, 3) by decide +kernel) wd_7_130 wd_7_132 wp_6_6) <|
  oc_n
theorem reX9_isToldThen : ∀ pc ∈ [48], decode cX9_isToldThen pc = .ok (.ireturn, 1) := by decide +kernel
def tX9_holds : List (Nat × gStp) := [(0, i_aload 0 1), (1, i_push (.int 0) 2), (2, i_putI 9 0 5), (5, i_aload 0 6), (6, i_iload 1 7), (10, i_if_ne 16 13), (13, i_push (.int (-2)) 15), (16, i_aload 0 17), (20, i_push (.int 0) 21), (21, i_istore 2 22), (22, i_push (.int 0) 23), (23, i_istore 3 24), (24, i_iload 3 25), (25, i_aload 0 26), (29, i_ic_ge 57 32), (32, i_iload 2 33), (33, i_aload 0 34), (34, i_iload 3 35), (35, i_iload 1 36), (39, i_if_eq 48 42), (42, i_push (.int 1) 43), (43, i_iload 3 44), (44, i_ii (fun x y => x <<< (y &&& 31)) 45), (45, i_goto 49), (48, i_push (.int 0) 49), (49, i_ii (fun x y => x ||| y) 50), (50, i_istore 2 51), (51, i_iinc 3 1 54), (54, i_goto 24), (57, i_iload 2 58)]
set_option maxRecDepth 100000 in
theorem okX9_holds : gOk YX9_holds tX9_holds := ok_c (sn_aload_n (show decode cX9_holds 0 = .ok (.aload_n 0, 1) by decide +kernel) rfl) <|
  ok_c (sn_iconst (v := 0) (show decode cX9_holds 1 = .ok (.iconst 0, 1) by decide +kernel) (by decide +kernel)) <|
  ok_c (sn_putI ck_9 (by decide) rfl rfl (show decode cX9_holds 2 = .ok (.putfield 77, 3) by decide +kernel) wd_5_217) <|
  ok_c (sn_aload_n (show decode cX9_holds 5 = .ok (.aload_n 0, 1) by decide +kernel) rfl) <|
  ok_c (sn_iload_n (show decode cX9_holds 6 = .ok (.iload_n 1, 1) by decide +kernel) rfl) <|
  ok_c (sn_if_ne (show decode cX9_holds 10 = .ok (.ifCond .ne 6, 3) by decide +kernel) (by decide)) <|
  ok_c (sn_bipush (v := (-2)) (show decode cX9_holds 13 = .ok (.bipush (-2), 2) by decide +kernel) (by decide +kernel)) <|
  ok_c (sn_aload_n (show decode cX9_holds 16 = .ok (.aload_n 0, 1) by decide +kernel) rfl) <|
  ok_c (sn_iconst (v := 0) (show decode cX9_holds 20 = .ok (.iconst 0, 1) by decide +kernel) (by decide +kernel)) <|
  ok_c (sn_istore_n (show decode cX9_holds 21 = .ok (.istore_n 2, 1) by decide +kernel) rfl (by decide)) <|
  ok_c (sn_iconst (v := 0) (show decode cX9_holds 22 = .ok (.iconst 0, 1) by decide +kernel) (by decide +kernel)) <|
  ok_c (sn_istore_n (show decode cX9_holds 23 = .ok (.istore_n 3, 1) by decide +kernel) rfl (by decide)) <|
  ok_c (sn_iload_n (show decode cX9_holds 24 = .ok (.iload_n 3, 1) by decide +kernel) rfl) <|
  ok_c (sn_aload_n (show decode cX9_holds 25 = .ok (.aload_n 0, 1) by decide +kernel) rfl) <|
  ok_c (sn_ic_ge (show decode cX9_holds 29 = .ok (.if_icmp .ge 28, 3) by decide +kernel) (by decide)) <|
  ok_c (sn_iload_n (show decode cX9_holds 32 = .ok (.iload_n 2, 1) by decide +kernel) rfl) <|
  ok_c (sn_aload_n (show decode cX9_holds 33 = .ok (.aload_n 0, 1) by decide +kernel) rfl) <|
  ok_c (sn_iload_n (show decode cX9_holds 34 = .ok (.iload_n 3, 1) by decide +kernel) rfl) <|
  ok_c (sn_iload_n (show decode cX9_holds 35 = .ok (.iload_n 1, 1) by decide +kernel) rfl) <|
  ok_c (sn_if_eq (show decode cX9_holds 39 = .ok (.ifCond .eq 9, 3) by decide +kernel) (by decide)) <|
  ok_c (sn_iconst (v := 1) (show decode cX9_holds 42 = .ok (.iconst 1, 1) by decide +kernel) (by decide +kernel)) <|
  ok_c (sn_iload_n (show decode cX9_holds 43 = .ok (.iload_n 3, 1) by decide +kernel) rfl) <|
  ok_c (sn_ishl (show decode cX9_holds 44 = .ok (.ishl, 1) by decide +kernel)) <|
  ok_c (sn_goto (show decode cX9_holds 45 = .ok (.goto 4, 3) by decide +kernel) (by decide)) <|
  ok_c (sn_iconst (v := 0) (show decode cX9_holds 48 = .ok (.iconst 0, 1) by decide +kernel) (by decide +kernel)) <|
  ok_c (sn_ior (show decode cX9_holds 49 = .ok (.ior, 1) by decide +kernel)) <|
  ok_c (sn_istore_n (show decode cX9_holds 50 = .ok (.istore_n 2, 1) by decide +kernel) rfl (by decide)) <|
  ok_c (sn_iinc (show decode cX9_holds 51 = .ok (.iinc 3 1, 3) by decide +kernel) (by decide) (by decide +kernel)) <|
  ok_c (sn_goto (show decode cX9_holds 54 = .ok (.goto (-30), 3) by decide +kernel) (by decide)) <|
  ok_c (sn_iload_n (show decode cX9_holds 57 = .ok (.iload_n 2, 1) by decide +kernel) rfl) <|
  ok_n
def uX9_holds : gCT := [(7, YX9_isYear, 2, some 9), (17, YX9_laysNow, 1, some 9), (26, YX9_joins, 1, some 9), (36, YX9_isToldThen, 3, some 9)]
set_option maxRecDepth 100000 in
theorem ocX9_holds : gOkC YX9_holds uX9_holds := oc_c (gEdge_V cal_X9_isYear ck_9 rfl (show decode cX9_holds 7 = .ok (.invokevirtual 256, 3) by decide +kernel) wd_7_79 wd_7_81 wp_5_10) <|
  oc_c (gEdge_V cal_X9_laysNow ck_9 rfl (show decode cX9_holds 17 = .ok (.invokevirtual 354, 3) by decide +kernel) wd_7_87 wd_7_89 wp_5_12) <|
  oc_c (gEdge_V cal_X9_joins ck_9 rfl (show decode cX9_holds 26 = .ok (.invokevirtual 250, 3) by decide +kernel) wd_7_63 wd_7_65 wp_5_8) <|
  oc_c (gEdge_V cal_X9_isToldThen ck_9 rfl (show decode cX9_holds 36 = .ok (.invokevirtual 357, 3) by decide +kernel) wd_7_150 wd_7_152 wp_6_11) <|
  oc_n
theorem reX9_holds : ∀ pc ∈ [15, 58], decode cX9_holds pc = .ok (.ireturn, 1) := by decide +kernel
def tX9_tied : List (Nat × gStp) := [(0, i_aload 0 1), (1, i_push (.int 0) 2), (2, i_putI 9 0 5), (5, i_aload 0 6), (6, i_iload 1 7), (7, i_iload 2 8), (11, i_if_eq 22 14), (14, i_aload 0 15), (15, i_iload 3 16), (19, i_if_ne 25 22), (22, i_push (.int (-2)) 24), (25, i_aload 0 26), (29, i_aload 0 30), (30, i_getC 9 155 33), (33, i_push (.int 36) 35), (35, i_iload 3 36), (36, i_ii (fun x y => x * y) 37), (37, i_push (.int 6) 39), (39, i_iload 1 40), (40, i_ii (fun x y => x * y) 41), (41, i_ii (fun x y => x + y) 42), (42, i_iload 2 43), (43, i_ii (fun x y => x + y) 44), (44, i_iald 45), (45, i_if_le 52 48), (48, i_push (.int 1) 49), (49, i_goto 53), (52, i_push (.int 0) 53)]
set_option maxRecDepth 100000 in
theorem okX9_tied : gOk YX9_tied tX9_tied := ok_c (sn_aload_n (show decode cX9_tied 0 = .ok (.aload_n 0, 1) by decide +kernel) rfl) <|
  ok_c (sn_iconst (v := 0) (show decode cX9_tied 1 = .ok (.iconst 0, 1) by decide +kernel) (by decide +kernel)) <|
  ok_c (sn_putI ck_9 (by decide) rfl rfl (show decode cX9_tied 2 = .ok (.putfield 77, 3) by decide +kernel) wd_5_217) <|
  ok_c (sn_aload_n (show decode cX9_tied 5 = .ok (.aload_n 0, 1) by decide +kernel) rfl) <|
  ok_c (sn_iload_n (show decode cX9_tied 6 = .ok (.iload_n 1, 1) by decide +kernel) rfl) <|
  ok_c (sn_iload_n (show decode cX9_tied 7 = .ok (.iload_n 2, 1) by decide +kernel) rfl) <|
  ok_c (sn_if_eq (show decode cX9_tied 11 = .ok (.ifCond .eq 11, 3) by decide +kernel) (by decide)) <|
  ok_c (sn_aload_n (show decode cX9_tied 14 = .ok (.aload_n 0, 1) by decide +kernel) rfl) <|
  ok_c (sn_iload_n (show decode cX9_tied 15 = .ok (.iload_n 3, 1) by decide +kernel) rfl) <|
  ok_c (sn_if_ne (show decode cX9_tied 19 = .ok (.ifCond .ne 6, 3) by decide +kernel) (by decide)) <|
  ok_c (sn_bipush (v := (-2)) (show decode cX9_tied 22 = .ok (.bipush (-2), 2) by decide +kernel) (by decide +kernel)) <|
  ok_c (sn_aload_n (show decode cX9_tied 25 = .ok (.aload_n 0, 1) by decide +kernel) rfl) <|
  ok_c (sn_aload_n (show decode cX9_tied 29 = .ok (.aload_n 0, 1) by decide +kernel) rfl) <|
  ok_c (sn_getC (j := 33) (fun _ _ => rfl) (sn_get ck_9 (by decide) (show decode cX9_tied 30 = .ok (.getfield 56, 3) by decide +kernel) wd_6_10)) <|
  ok_c (sn_bipush (v := 36) (show decode cX9_tied 33 = .ok (.bipush 36, 2) by decide +kernel) (by decide +kernel)) <|
  ok_c (sn_iload_n (show decode cX9_tied 35 = .ok (.iload_n 3, 1) by decide +kernel) rfl) <|
  ok_c (sn_imul (show decode cX9_tied 36 = .ok (.imul, 1) by decide +kernel)) <|
  ok_c (sn_bipush (v := 6) (show decode cX9_tied 37 = .ok (.bipush 6, 2) by decide +kernel) (by decide +kernel)) <|
  ok_c (sn_iload_n (show decode cX9_tied 39 = .ok (.iload_n 1, 1) by decide +kernel) rfl) <|
  ok_c (sn_imul (show decode cX9_tied 40 = .ok (.imul, 1) by decide +kernel)) <|
  ok_c (sn_iadd (show decode cX9_tied 41 = .ok (.iadd, 1) by decide +kernel)) <|
  ok_c (sn_iload_n (show decode cX9_tied 42 = .ok (.iload_n 2, 1) by decide +kernel) rfl) <|
  ok_c (sn_iadd (show decode cX9_tied 43 = .ok (.iadd, 1) by decide +kernel)) <|
  ok_c (sn_iald (show decode cX9_tied 44 = .ok (.iaload, 1) by decide +kernel)) <|
  ok_c (sn_if_le (show decode cX9_tied 45 = .ok (.ifCond .le 7, 3) by decide +kernel) (by decide)) <|
  ok_c (sn_iconst (v := 1) (show decode cX9_tied 48 = .ok (.iconst 1, 1) by decide +kernel) (by decide +kernel)) <|
  ok_c (sn_goto (show decode cX9_tied 49 = .ok (.goto 4, 3) by decide +kernel) (by decide)) <|
  ok_c (sn_iconst (v := 0) (show decode cX9_tied 52 = .ok (.iconst 0, 1) by decide +kernel) (by decide +kernel)) <|
  ok_n
def uX9_tied : gCT := [(8, YX9_areTwo, 3, some 9), (16, YX9_isYear, 2, some 9), (26, YX9_laysNow, 1, some 9)]
set_option maxRecDepth 100000 in
theorem ocX9_tied : gOkC YX9_tied uX9_tied := oc_c (gEdge_V cal_X9_areTwo ck_9 rfl (show decode cX9_tied 8 = .ok (.invokevirtual 360, 3) by decide +kernel) wd_7_158 wd_7_160 wp_6_12) <|
  oc_c (gEdge_V cal_X9_isYear ck_9 rfl (show decode cX9_tied 16 = .ok (.invokevirtual 256, 3) by decide +kernel) wd_7_79 wd_7_81 wp_5_10) <|
  oc_c (gEdge_V cal_X9_laysNow ck_9 rfl (show decode cX9_tied 26 = .ok (.invokevirtual 354, 3) by decide +kernel) wd_7_87 wd_7_89 wp_5_12) <|
  oc_n
theorem reX9_tied : ∀ pc ∈ [24, 53], decode cX9_tied pc = .ok (.ireturn, 1) := by decide +kernel
def tX9_firm : List (Nat × gStp) := [(0, i_aload 0 1), (1, i_push (.int 0) 2), (2, i_putI 9 0 5), (5, i_aload 0 6), (6, i_iload 1 7), (7, i_iload 2 8), (11, i_if_ne 17 14), (14, i_push (.int (-2)) 16), (17, i_aload 0 18), (21, i_aload 0 22), (22, i_iload 1 23), (23, i_iload 2 24)]
set_option maxRecDepth 100000 in
theorem okX9_firm : gOk YX9_firm tX9_firm := ok_c (sn_aload_n (show decode cX9_firm 0 = .ok (.aload_n 0, 1) by decide +kernel) rfl) <|
  ok_c (sn_iconst (v := 0) (show decode cX9_firm 1 = .ok (.iconst 0, 1) by decide +kernel) (by decide +kernel)) <|
  ok_c (sn_putI ck_9 (by decide) rfl rfl (show decode cX9_firm 2 = .ok (.putfield 77, 3) by decide +kernel) wd_5_217) <|
  ok_c (sn_aload_n (show decode cX9_firm 5 = .ok (.aload_n 0, 1) by decide +kernel) rfl) <|
  ok_c (sn_iload_n (show decode cX9_firm 6 = .ok (.iload_n 1, 1) by decide +kernel) rfl) <|
  ok_c (sn_iload_n (show decode cX9_firm 7 = .ok (.iload_n 2, 1) by decide +kernel) rfl) <|
  ok_c (sn_if_ne (show decode cX9_firm 11 = .ok (.ifCond .ne 6, 3) by decide +kernel) (by decide)) <|
  ok_c (sn_bipush (v := (-2)) (show decode cX9_firm 14 = .ok (.bipush (-2), 2) by decide +kernel) (by decide +kernel)) <|
  ok_c (sn_aload_n (show decode cX9_firm 17 = .ok (.aload_n 0, 1) by decide +kernel) rfl) <|
  ok_c (sn_aload_n (show decode cX9_firm 21 = .ok (.aload_n 0, 1) by decide +kernel) rfl) <|
  ok_c (sn_iload_n (show decode cX9_firm 22 = .ok (.iload_n 1, 1) by decide +kernel) rfl) <|
  ok_c (sn_iload_n (show decode cX9_firm 23 = .ok (.iload_n 2, 1) by decide +kernel) rfl) <|
  ok_n
def uX9_firm : gCT := [(8, YX9_isThen, 3, some 9), (18, YX9_laysNow, 1, some 9), (24, YX9_firmOf, 3, some 9)]
set_option maxRecDepth 100000 in
theorem ocX9_firm : gOkC YX9_firm uX9_firm := oc_c (gEdge_V cal_X9_isThen ck_9 rfl (show decode cX9_firm 8 = .ok (.invokevirtual 363, 3) by decide +kernel) wd_7_166 wd_7_168 wp_6_13) <|
  oc_c (gEdge_V cal_X9_laysNow ck_9 rfl (show decode cX9_firm 18 = .ok (.invokevirtual 354, 3) by decide +kernel) wd_7_87 wd_7_89 wp_5_12) <|
  oc_c (gEdge_V cal_X9_firmOf ck_9 rfl (show decode cX9_firm 24 = .ok (.invokevirtual 311, 3) by decide +kernel) wd_7_134 wd_7_136 wp_6_7) <|
  oc_n
theorem reX9_firm : ∀ pc ∈ [16, 27], decode cX9_firm pc = .ok (.ireturn, 1) := by decide +kernel
def tX9_firmsAt : List (Nat × gStp) := [(0, i_push (.int 0) 1), (1, i_istore 2 2), (2, i_push (.int 0) 3), (3, i_istore 3 4), (4, i_iload 3 5), (5, i_aload 0 6), (9, i_ic_ge 35 12), (12, i_iload 2 13), (13, i_aload 0 14), (14, i_iload 3 15), (15, i_iload 1 16), (19, i_if_eq 26 22), (22, i_push (.int 1) 23), (23, i_goto 27), (26, i_push (.int 0) 27), (27, i_ii (fun x y => x + y) 28), (28, i_istore 2 29), (29, i_iinc 3 1 32), (32, i_goto 4), (35, i_iload 2 36)]
set_option maxRecDepth 100000 in
theorem okX9_firmsAt : gOk YX9_firmsAt tX9_firmsAt := ok_c (sn_iconst (v := 0) (show decode cX9_firmsAt 0 = .ok (.iconst 0, 1) by decide +kernel) (by decide +kernel)) <|
  ok_c (sn_istore_n (show decode cX9_firmsAt 1 = .ok (.istore_n 2, 1) by decide +kernel) rfl (by decide)) <|
  ok_c (sn_iconst (v := 0) (show decode cX9_firmsAt 2 = .ok (.iconst 0, 1) by decide +kernel) (by decide +kernel)) <|
  ok_c (sn_istore_n (show decode cX9_firmsAt 3 = .ok (.istore_n 3, 1) by decide +kernel) rfl (by decide)) <|
  ok_c (sn_iload_n (show decode cX9_firmsAt 4 = .ok (.iload_n 3, 1) by decide +kernel) rfl) <|
  ok_c (sn_aload_n (show decode cX9_firmsAt 5 = .ok (.aload_n 0, 1) by decide +kernel) rfl) <|
  ok_c (sn_ic_ge (show decode cX9_firmsAt 9 = .ok (.if_icmp .ge 26, 3) by decide +kernel) (by decide)) <|
  ok_c (sn_iload_n (show decode cX9_firmsAt 12 = .ok (.iload_n 2, 1) by decide +kernel) rfl) <|
  ok_c (sn_aload_n (show decode cX9_firmsAt 13 = .ok (.aload_n 0, 1) by decide +kernel) rfl) <|
  ok_c (sn_iload_n (show decode cX9_firmsAt 14 = .ok (.iload_n 3, 1) by decide +kernel) rfl) <|
  ok_c (sn_iload_n (show decode cX9_firmsAt 15 = .ok (.iload_n 1, 1) by decide +kernel) rfl) <|
  ok_c (sn_if_eq (show decode cX9_firmsAt 19 = .ok (.ifCond .eq 7, 3) by decide +kernel) (by decide)) <|
  ok_c (sn_iconst (v := 1) (show decode cX9_firmsAt 22 = .ok (.iconst 1, 1) by decide +kernel) (by decide +kernel)) <|
  ok_c (sn_goto (show decode cX9_firmsAt 23 = .ok (.goto 4, 3) by decide +kernel) (by decide)) <|
  ok_c (sn_iconst (v := 0) (show decode cX9_firmsAt 26 = .ok (.iconst 0, 1) by decide +kernel) (by decide +kernel)) <|
  ok_c (sn_iadd (show decode cX9_firmsAt 27 = .ok (.iadd, 1) by decide +kernel)) <|
  ok_c (sn_istore_n (show decode cX9_firmsAt 28 = .ok (.istore_n 2, 1) by decide +kernel) rfl (by decide)) <|
  ok_c (sn_iinc (show decode cX9_firmsAt 29 = .ok (.iinc 3 1, 3) by decide +kernel) (by decide) (by decide +kernel)) <|
  ok_c (sn_goto (show decode cX9_firmsAt 32 = .ok (.goto (-28), 3) by decide +kernel) (by decide)) <|
  ok_c (sn_iload_n (show decode cX9_firmsAt 35 = .ok (.iload_n 2, 1) by decide +kernel) rfl) <|
  ok_n
def uX9_firmsAt : gCT := [(6, YX9_people, 1, some 9), (16, YX9_isHead, 3, some 9)]
set_option maxRecDepth 100000 in
theorem ocX9_firmsAt : gOkC YX9_firmsAt uX9_firmsAt := oc_c (gEdge_V cal_X9_people ck_9 rfl (show decode cX9_firmsAt 6 = .ok (.invokevirtual 244, 3) by decide +kernel) wd_7_50 wd_7_52 wp_5_6) <|
  oc_c (gEdge_V cal_X9_isHead ck_9 rfl (show decode cX9_firmsAt 16 = .ok (.invokevirtual 366, 3) by decide +kernel) wd_7_178 wd_7_180 wp_6_15) <|
  oc_n
theorem reX9_firmsAt : ∀ pc ∈ [36], decode cX9_firmsAt pc = .ok (.ireturn, 1) := by decide +kernel
def tX9_firms : List (Nat × gStp) := [(0, i_aload 0 1), (1, i_push (.int 0) 2), (2, i_putI 9 0 5), (5, i_aload 0 6), (6, i_iload 1 7), (10, i_if_ne 16 13), (13, i_push (.int (-2)) 15), (16, i_aload 0 17), (20, i_aload 0 21), (21, i_iload 1 22)]
set_option maxRecDepth 100000 in
theorem okX9_firms : gOk YX9_firms tX9_firms := ok_c (sn_aload_n (show decode cX9_firms 0 = .ok (.aload_n 0, 1) by decide +kernel) rfl) <|
  ok_c (sn_iconst (v := 0) (show decode cX9_firms 1 = .ok (.iconst 0, 1) by decide +kernel) (by decide +kernel)) <|
  ok_c (sn_putI ck_9 (by decide) rfl rfl (show decode cX9_firms 2 = .ok (.putfield 77, 3) by decide +kernel) wd_5_217) <|
  ok_c (sn_aload_n (show decode cX9_firms 5 = .ok (.aload_n 0, 1) by decide +kernel) rfl) <|
  ok_c (sn_iload_n (show decode cX9_firms 6 = .ok (.iload_n 1, 1) by decide +kernel) rfl) <|
  ok_c (sn_if_ne (show decode cX9_firms 10 = .ok (.ifCond .ne 6, 3) by decide +kernel) (by decide)) <|
  ok_c (sn_bipush (v := (-2)) (show decode cX9_firms 13 = .ok (.bipush (-2), 2) by decide +kernel) (by decide +kernel)) <|
  ok_c (sn_aload_n (show decode cX9_firms 16 = .ok (.aload_n 0, 1) by decide +kernel) rfl) <|
  ok_c (sn_aload_n (show decode cX9_firms 20 = .ok (.aload_n 0, 1) by decide +kernel) rfl) <|
  ok_c (sn_iload_n (show decode cX9_firms 21 = .ok (.iload_n 1, 1) by decide +kernel) rfl) <|
  ok_n
def uX9_firms : gCT := [(7, YX9_isYear, 2, some 9), (17, YX9_laysNow, 1, some 9), (22, YX9_firmsAt, 2, some 9)]
set_option maxRecDepth 100000 in
theorem ocX9_firms : gOkC YX9_firms uX9_firms := oc_c (gEdge_V cal_X9_isYear ck_9 rfl (show decode cX9_firms 7 = .ok (.invokevirtual 256, 3) by decide +kernel) wd_7_79 wd_7_81 wp_5_10) <|
  oc_c (gEdge_V cal_X9_laysNow ck_9 rfl (show decode cX9_firms 17 = .ok (.invokevirtual 354, 3) by decide +kernel) wd_7_87 wd_7_89 wp_5_12) <|
  oc_c (gEdge_V cal_X9_firmsAt ck_9 rfl (show decode cX9_firms 22 = .ok (.invokevirtual 369, 3) by decide +kernel) wd_7_174 wd_7_176 wp_6_14) <|
  oc_n
theorem reX9_firms : ∀ pc ∈ [15, 25], decode cX9_firms pc = .ok (.ireturn, 1) := by decide +kernel
def tX9_wide : List (Nat × gStp) := [(0, i_aload 0 1), (1, i_push (.int 0) 2), (2, i_putI 9 0 5), (5, i_aload 0 6), (6, i_iload 1 7), (7, i_iload 2 8), (11, i_if_ne 17 14), (14, i_push (.int (-2)) 16), (17, i_aload 0 18), (21, i_aload 0 22), (22, i_iload 1 23), (23, i_iload 2 24)]
set_option maxRecDepth 100000 in
theorem okX9_wide : gOk YX9_wide tX9_wide := ok_c (sn_aload_n (show decode cX9_wide 0 = .ok (.aload_n 0, 1) by decide +kernel) rfl) <|
  ok_c (sn_iconst (v := 0) (show decode cX9_wide 1 = .ok (.iconst 0, 1) by decide +kernel) (by decide +kernel)) <|
  ok_c (sn_putI ck_9 (by decide) rfl rfl (show decode cX9_wide 2 = .ok (.putfield 77, 3) by decide +kernel) wd_5_217) <|
  ok_c (sn_aload_n (show decode cX9_wide 5 = .ok (.aload_n 0, 1) by decide +kernel) rfl) <|
  ok_c (sn_iload_n (show decode cX9_wide 6 = .ok (.iload_n 1, 1) by decide +kernel) rfl) <|
  ok_c (sn_iload_n (show decode cX9_wide 7 = .ok (.iload_n 2, 1) by decide +kernel) rfl) <|
  ok_c (sn_if_ne (show decode cX9_wide 11 = .ok (.ifCond .ne 6, 3) by decide +kernel) (by decide)) <|
  ok_c (sn_bipush (v := (-2)) (show decode cX9_wide 14 = .ok (.bipush (-2), 2) by decide +kernel) (by decide +kernel)) <|
  ok_c (sn_aload_n (show decode cX9_wide 17 = .ok (.aload_n 0, 1) by decide +kernel) rfl) <|
  ok_c (sn_aload_n (show decode cX9_wide 21 = .ok (.aload_n 0, 1) by decide +kernel) rfl) <|
  ok_c (sn_iload_n (show decode cX9_wide 22 = .ok (.iload_n 1, 1) by decide +kernel) rfl) <|
  ok_c (sn_iload_n (show decode cX9_wide 23 = .ok (.iload_n 2, 1) by decide +kernel) rfl) <|
  ok_n
def uX9_wide : gCT := [(8, YX9_isThen, 3, some 9), (18, YX9_laysNow, 1, some 9), (24, YX9_wideThen, 3, some 9)]
set_option maxRecDepth 100000 in
theorem ocX9_wide : gOkC YX9_wide uX9_wide := oc_c (gEdge_V cal_X9_isThen ck_9 rfl (show decode cX9_wide 8 = .ok (.invokevirtual 363, 3) by decide +kernel) wd_7_166 wd_7_168 wp_6_13) <|
  oc_c (gEdge_V cal_X9_laysNow ck_9 rfl (show decode cX9_wide 18 = .ok (.invokevirtual 354, 3) by decide +kernel) wd_7_87 wd_7_89 wp_5_12) <|
  oc_c (gEdge_V cal_X9_wideThen ck_9 rfl (show decode cX9_wide 24 = .ok (.invokevirtual 343, 3) by decide +kernel) wd_7_186 wd_7_188 wp_7_0) <|
  oc_n
theorem reX9_wide : ∀ pc ∈ [16, 27], decode cX9_wide pc = .ok (.ireturn, 1) := by decide +kernel
def tX9_passes : List (Nat × gStp) := [(0, i_aload 0 1), (1, i_push (.int 0) 2), (2, i_putI 9 0 5), (5, i_aload 0 6), (6, i_iload 1 7), (7, i_iload 2 8), (11, i_if_ne 17 14), (14, i_push (.int (-2)) 16), (17, i_aload 0 18), (21, i_push (.int 0) 22), (22, i_istore 3 23), (23, i_push (.int 0) 24), (24, i_istore 4 26), (26, i_iload 4 28), (28, i_aload 0 29), (29, i_getC 9 148 32), (32, i_push (.int 6) 34), (34, i_iald 35), (35, i_ic_ge 66 38), (38, i_iload 3 39), (39, i_aload 0 40), (40, i_iload 1 41), (41, i_iload 4 43), (43, i_iload 2 44), (47, i_if_eq 57 50), (50, i_push (.int 1) 51), (51, i_iload 4 53), (53, i_ii (fun x y => x <<< (y &&& 31)) 54), (54, i_goto 58), (57, i_push (.int 0) 58), (58, i_ii (fun x y => x ||| y) 59), (59, i_istore 3 60), (60, i_iinc 4 1 63), (63, i_goto 26), (66, i_iload 3 67)]
set_option maxRecDepth 100000 in
theorem okX9_passes : gOk YX9_passes tX9_passes := ok_c (sn_aload_n (show decode cX9_passes 0 = .ok (.aload_n 0, 1) by decide +kernel) rfl) <|
  ok_c (sn_iconst (v := 0) (show decode cX9_passes 1 = .ok (.iconst 0, 1) by decide +kernel) (by decide +kernel)) <|
  ok_c (sn_putI ck_9 (by decide) rfl rfl (show decode cX9_passes 2 = .ok (.putfield 77, 3) by decide +kernel) wd_5_217) <|
  ok_c (sn_aload_n (show decode cX9_passes 5 = .ok (.aload_n 0, 1) by decide +kernel) rfl) <|
  ok_c (sn_iload_n (show decode cX9_passes 6 = .ok (.iload_n 1, 1) by decide +kernel) rfl) <|
  ok_c (sn_iload_n (show decode cX9_passes 7 = .ok (.iload_n 2, 1) by decide +kernel) rfl) <|
  ok_c (sn_if_ne (show decode cX9_passes 11 = .ok (.ifCond .ne 6, 3) by decide +kernel) (by decide)) <|
  ok_c (sn_bipush (v := (-2)) (show decode cX9_passes 14 = .ok (.bipush (-2), 2) by decide +kernel) (by decide +kernel)) <|
  ok_c (sn_aload_n (show decode cX9_passes 17 = .ok (.aload_n 0, 1) by decide +kernel) rfl) <|
  ok_c (sn_iconst (v := 0) (show decode cX9_passes 21 = .ok (.iconst 0, 1) by decide +kernel) (by decide +kernel)) <|
  ok_c (sn_istore_n (show decode cX9_passes 22 = .ok (.istore_n 3, 1) by decide +kernel) rfl (by decide)) <|
  ok_c (sn_iconst (v := 0) (show decode cX9_passes 23 = .ok (.iconst 0, 1) by decide +kernel) (by decide +kernel)) <|
  ok_c (sn_istore (show decode cX9_passes 24 = .ok (.istore 4, 2) by decide +kernel) (by decide)) <|
  ok_c (sn_iload (show decode cX9_passes 26 = .ok (.iload 4, 2) by decide +kernel)) <|
  ok_c (sn_aload_n (show decode cX9_passes 28 = .ok (.aload_n 0, 1) by decide +kernel) rfl) <|
  ok_c (sn_getC (j := 17) (fun _ _ => rfl) (sn_get ck_9 (by decide) (show decode cX9_passes 29 = .ok (.getfield 34, 3) by decide +kernel) wd_5_234)) <|
  ok_c (sn_bipush (v := 6) (show decode cX9_passes 32 = .ok (.bipush 6, 2) by decide +kernel) (by decide +kernel)) <|
  ok_c (sn_iald (show decode cX9_passes 34 = .ok (.iaload, 1) by decide +kernel)) <|
  ok_c (sn_ic_ge (show decode cX9_passes 35 = .ok (.if_icmp .ge 31, 3) by decide +kernel) (by decide)) <|
  ok_c (sn_iload_n (show decode cX9_passes 38 = .ok (.iload_n 3, 1) by decide +kernel) rfl) <|
  ok_c (sn_aload_n (show decode cX9_passes 39 = .ok (.aload_n 0, 1) by decide +kernel) rfl) <|
  ok_c (sn_iload_n (show decode cX9_passes 40 = .ok (.iload_n 1, 1) by decide +kernel) rfl) <|
  ok_c (sn_iload (show decode cX9_passes 41 = .ok (.iload 4, 2) by decide +kernel)) <|
  ok_c (sn_iload_n (show decode cX9_passes 43 = .ok (.iload_n 2, 1) by decide +kernel) rfl) <|
  ok_c (sn_if_eq (show decode cX9_passes 47 = .ok (.ifCond .eq 10, 3) by decide +kernel) (by decide)) <|
  ok_c (sn_iconst (v := 1) (show decode cX9_passes 50 = .ok (.iconst 1, 1) by decide +kernel) (by decide +kernel)) <|
  ok_c (sn_iload (show decode cX9_passes 51 = .ok (.iload 4, 2) by decide +kernel)) <|
  ok_c (sn_ishl (show decode cX9_passes 53 = .ok (.ishl, 1) by decide +kernel)) <|
  ok_c (sn_goto (show decode cX9_passes 54 = .ok (.goto 4, 3) by decide +kernel) (by decide)) <|
  ok_c (sn_iconst (v := 0) (show decode cX9_passes 57 = .ok (.iconst 0, 1) by decide +kernel) (by decide +kernel)) <|
  ok_c (sn_ior (show decode cX9_passes 58 = .ok (.ior, 1) by decide +kernel)) <|
  ok_c (sn_istore_n (show decode cX9_passes 59 = .ok (.istore_n 3, 1) by decide +kernel) rfl (by decide)) <|
  ok_c (sn_iinc (show decode cX9_passes 60 = .ok (.iinc 4 1, 3) by decide +kernel) (by decide) (by decide +kernel)) <|
  ok_c (sn_goto (show decode cX9_passes 63 = .ok (.goto (-37), 3) by decide +kernel) (by decide)) <|
  ok_c (sn_iload_n (show decode cX9_passes 66 = .ok (.iload_n 3, 1) by decide +kernel) rfl) <|
  ok_n
def uX9_passes : gCT := [(8, YX9_isThen, 3, some 9), (18, YX9_laysNow, 1, some 9), (44, YX9_goesThrough, 4, some 9)]
set_option maxRecDepth 100000 in
theorem ocX9_passes : gOkC YX9_passes uX9_passes := oc_c (gEdge_V cal_X9_isThen ck_9 rfl (show decode cX9_passes 8 = .ok (.invokevirtual 363, 3) by decide +kernel) wd_7_166 wd_7_168 wp_6_13) <|
  oc_c (gEdge_V cal_X9_laysNow ck_9 rfl (show decode cX9_passes 18 = .ok (.invokevirtual 354, 3) by decide +kernel) wd_7_87 wd_7_89 wp_5_12) <|
  oc_c (gEdge_V cal_X9_goesThrough ck_9 rfl (show decode cX9_passes 44 = .ok (.invokevirtual 372, 3) by decide +kernel) wd_7_205 wd_7_207 wp_7_3) <|
  oc_n
theorem reX9_passes : ∀ pc ∈ [16, 67], decode cX9_passes pc = .ok (.ireturn, 1) := by decide +kernel
def tX9_largest : List (Nat × gStp) := [(0, i_aload 0 1), (1, i_push (.int 0) 2), (2, i_putI 9 0 5), (5, i_aload 0 6), (6, i_iload 1 7), (10, i_if_ne 16 13), (13, i_push (.int (-2)) 15), (16, i_aload 0 17), (20, i_push (.int 0) 21), (21, i_istore 2 22), (22, i_push (.int 0) 23), (23, i_istore 3 24), (24, i_iload 3 25), (25, i_aload 0 26), (29, i_ic_ge 65 32), (32, i_aload 0 33), (33, i_iload 3 34), (34, i_iload 1 35), (41, i_iload 2 42), (42, i_ic_le 57 45), (45, i_aload 0 46), (46, i_iload 3 47), (47, i_iload 1 48), (54, i_goto 58), (57, i_iload 2 58), (58, i_istore 2 59), (59, i_iinc 3 1 62), (62, i_goto 24), (65, i_iload 2 66)]
set_option maxRecDepth 100000 in
theorem okX9_largest : gOk YX9_largest tX9_largest := ok_c (sn_aload_n (show decode cX9_largest 0 = .ok (.aload_n 0, 1) by decide +kernel) rfl) <|
  ok_c (sn_iconst (v := 0) (show decode cX9_largest 1 = .ok (.iconst 0, 1) by decide +kernel) (by decide +kernel)) <|
  ok_c (sn_putI ck_9 (by decide) rfl rfl (show decode cX9_largest 2 = .ok (.putfield 77, 3) by decide +kernel) wd_5_217) <|
  ok_c (sn_aload_n (show decode cX9_largest 5 = .ok (.aload_n 0, 1) by decide +kernel) rfl) <|
  ok_c (sn_iload_n (show decode cX9_largest 6 = .ok (.iload_n 1, 1) by decide +kernel) rfl) <|
  ok_c (sn_if_ne (show decode cX9_largest 10 = .ok (.ifCond .ne 6, 3) by decide +kernel) (by decide)) <|
  ok_c (sn_bipush (v := (-2)) (show decode cX9_largest 13 = .ok (.bipush (-2), 2) by decide +kernel) (by decide +kernel)) <|
  ok_c (sn_aload_n (show decode cX9_largest 16 = .ok (.aload_n 0, 1) by decide +kernel) rfl) <|
  ok_c (sn_iconst (v := 0) (show decode cX9_largest 20 = .ok (.iconst 0, 1) by decide +kernel) (by decide +kernel)) <|
  ok_c (sn_istore_n (show decode cX9_largest 21 = .ok (.istore_n 2, 1) by decide +kernel) rfl (by decide)) <|
  ok_c (sn_iconst (v := 0) (show decode cX9_largest 22 = .ok (.iconst 0, 1) by decide +kernel) (by decide +kernel)) <|
  ok_c (sn_istore_n (show decode cX9_largest 23 = .ok (.istore_n 3, 1) by decide +kernel) rfl (by decide)) <|
  ok_c (sn_iload_n (show decode cX9_largest 24 = .ok (.iload_n 3, 1) by decide +kernel) rfl) <|
  ok_c (sn_aload_n (show decode cX9_largest 25 = .ok (.aload_n 0, 1) by decide +kernel) rfl) <|
  ok_c (sn_ic_ge (show decode cX9_largest 29 = .ok (.if_icmp .ge 36, 3) by decide +kernel) (by decide)) <|
  ok_c (sn_aload_n (show decode cX9_largest 32 = .ok (.aload_n 0, 1) by decide +kernel) rfl) <|
  ok_c (sn_iload_n (show decode cX9_largest 33 = .ok (.iload_n 3, 1) by decide +kernel) rfl) <|
  ok_c (sn_iload_n (show decode cX9_largest 34 = .ok (.iload_n 1, 1) by decide +kernel) rfl) <|
  ok_c (sn_iload_n (show decode cX9_largest 41 = .ok (.iload_n 2, 1) by decide +kernel) rfl) <|
  ok_c (sn_ic_le (show decode cX9_largest 42 = .ok (.if_icmp .le 15, 3) by decide +kernel) (by decide)) <|
  ok_c (sn_aload_n (show decode cX9_largest 45 = .ok (.aload_n 0, 1) by decide +kernel) rfl) <|
  ok_c (sn_iload_n (show decode cX9_largest 46 = .ok (.iload_n 3, 1) by decide +kernel) rfl) <|
  ok_c (sn_iload_n (show decode cX9_largest 47 = .ok (.iload_n 1, 1) by decide +kernel) rfl) <|
  ok_c (sn_goto (show decode cX9_largest 54 = .ok (.goto 4, 3) by decide +kernel) (by decide)) <|
  ok_c (sn_iload_n (show decode cX9_largest 57 = .ok (.iload_n 2, 1) by decide +kernel) rfl) <|
  ok_c (sn_istore_n (show decode cX9_largest 58 = .ok (.istore_n 2, 1) by decide +kernel) rfl (by decide)) <|
  ok_c (sn_iinc (show decode cX9_largest 59 = .ok (.iinc 3 1, 3) by decide +kernel) (by decide) (by decide +kernel)) <|
  ok_c (sn_goto (show decode cX9_largest 62 = .ok (.goto (-38), 3) by decide +kernel) (by decide)) <|
  ok_c (sn_iload_n (show decode cX9_largest 65 = .ok (.iload_n 2, 1) by decide +kernel) rfl) <|
  ok_n
def uX9_largest : gCT := [(7, YX9_isYear, 2, some 9), (17, YX9_laysNow, 1, some 9), (26, YX9_people, 1, some 9), (35, YX9_firmOf, 3, some 9), (38, YX9_sizeOf, 1, none), (48, YX9_firmOf, 3, some 9), (51, YX9_sizeOf, 1, none)]
set_option maxRecDepth 100000 in
theorem ocX9_largest : gOkC YX9_largest uX9_largest := oc_c (gEdge_V cal_X9_isYear ck_9 rfl (show decode cX9_largest 7 = .ok (.invokevirtual 256, 3) by decide +kernel) wd_7_79 wd_7_81 wp_5_10) <|
  oc_c (gEdge_V cal_X9_laysNow ck_9 rfl (show decode cX9_largest 17 = .ok (.invokevirtual 354, 3) by decide +kernel) wd_7_87 wd_7_89 wp_5_12) <|
  oc_c (gEdge_V cal_X9_people ck_9 rfl (show decode cX9_largest 26 = .ok (.invokevirtual 244, 3) by decide +kernel) wd_7_50 wd_7_52 wp_5_6) <|
  oc_c (gEdge_V cal_X9_firmOf ck_9 rfl (show decode cX9_largest 35 = .ok (.invokevirtual 311, 3) by decide +kernel) wd_7_134 wd_7_136 wp_6_7) <|
  oc_c (gEdge_S cal_X9_sizeOf (show decode cX9_largest 38 = .ok (.invokestatic 334, 3) by decide +kernel) wd_7_198 wd_7_199) <|
  oc_c (gEdge_V cal_X9_firmOf ck_9 rfl (show decode cX9_largest 48 = .ok (.invokevirtual 311, 3) by decide +kernel) wd_7_134 wd_7_136 wp_6_7) <|
  oc_c (gEdge_S cal_X9_sizeOf (show decode cX9_largest 51 = .ok (.invokestatic 334, 3) by decide +kernel) wd_7_198 wd_7_199) <|
  oc_n
theorem reX9_largest : ∀ pc ∈ [15, 66], decode cX9_largest pc = .ok (.ireturn, 1) := by decide +kernel
def tX9_hairs : List (Nat × gStp) := [(0, i_aload 0 1), (1, i_push (.int 0) 2), (2, i_putI 9 0 5), (5, i_aload 0 6), (6, i_iload 1 7), (7, i_i2l 8), (11, i_if_eq 23 14), (14, i_aload 0 15), (15, i_iload 2 16), (16, i_iload 3 17), (20, i_if_ne 26 23), (23, i_push (.int (-2)) 25), (26, i_aload 0 27), (30, i_aload 0 31), (31, i_iload 1 32), (32, i_iload 3 33), (36, i_if_ne 48 39), (39, i_aload 0 40), (40, i_iload 2 41), (41, i_iload 3 42), (45, i_if_eq 50 48), (48, i_push (.int (-1)) 49), (50, i_push (.int 1) 51), (51, i_iload 1 52), (52, i_ii (fun x y => x <<< (y &&& 31)) 53), (53, i_istore 4 55), (55, i_push (.int 0) 56), (56, i_istore 5 58), (58, i_iload 5 60), (60, i_aload 0 61), (64, i_ic_ge 169 67), (67, i_iload 4 69), (69, i_iload 2 70), (73, i_if_eq 79 76), (76, i_iload 5 78), (79, i_iload 4 81), (81, i_istore 6 83), (83, i_push (.int 0) 84), (84, i_istore 7 86), (86, i_iload 7 88), (88, i_aload 0 89), (92, i_ic_ge 159 95), (95, i_push (.int 0) 96), (96, i_istore 8 98), (98, i_iload 8 100), (100, i_aload 0 101), (104, i_ic_ge 153 107), (107, i_iload 4 109), (109, i_iload 7 111), (114, i_if_eq 147 117), (117, i_aload 0 118), (118, i_getC 9 155 121), (121, i_push (.int 36) 123), (123, i_iload 3 124), (124, i_ii (fun x y => x * y) 125), (125, i_push (.int 6) 127), (127, i_iload 7 129), (129, i_ii (fun x y => x * y) 130), (130, i_ii (fun x y => x + y) 131), (131, i_iload 8 133), (133, i_ii (fun x y => x + y) 134), (134, i_iald 135), (135, i_if_le 147 138), (138, i_iload 6 140), (140, i_push (.int 1) 141), (141, i_iload 8 143), (143, i_ii (fun x y => x <<< (y &&& 31)) 144), (144, i_ii (fun x y => x ||| y) 145), (145, i_istore 6 147), (147, i_iinc 8 1 150), (150, i_goto 98), (153, i_iinc 7 1 156), (156, i_goto 86), (159, i_iload 6 161), (161, i_istore 4 163), (163, i_iinc 5 1 166), (166, i_goto 58), (169, i_push (.int (-1)) 170)]
set_option maxRecDepth 100000 in
theorem okX9_hairs : gOk YX9_hairs tX9_hairs := ok_c (sn_aload_n (show decode cX9_hairs 0 = .ok (.aload_n 0, 1) by decide +kernel) rfl) <|
  ok_c (sn_iconst (v := 0) (show decode cX9_hairs 1 = .ok (.iconst 0, 1) by decide +kernel) (by decide +kernel)) <|
  ok_c (sn_putI ck_9 (by decide) rfl rfl (show decode cX9_hairs 2 = .ok (.putfield 77, 3) by decide +kernel) wd_5_217) <|
  ok_c (sn_aload_n (show decode cX9_hairs 5 = .ok (.aload_n 0, 1) by decide +kernel) rfl) <|
  ok_c (sn_iload_n (show decode cX9_hairs 6 = .ok (.iload_n 1, 1) by decide +kernel) rfl) <|
  ok_c (sn_i2l (show decode cX9_hairs 7 = .ok (.i2l, 1) by decide +kernel)) <|
  ok_c (sn_if_eq (show decode cX9_hairs 11 = .ok (.ifCond .eq 12, 3) by decide +kernel) (by decide)) <|
  ok_c (sn_aload_n (show decode cX9_hairs 14 = .ok (.aload_n 0, 1) by decide +kernel) rfl) <|
  ok_c (sn_iload_n (show decode cX9_hairs 15 = .ok (.iload_n 2, 1) by decide +kernel) rfl) <|
  ok_c (sn_iload_n (show decode cX9_hairs 16 = .ok (.iload_n 3, 1) by decide +kernel) rfl) <|
  ok_c (sn_if_ne (show decode cX9_hairs 20 = .ok (.ifCond .ne 6, 3) by decide +kernel) (by decide)) <|
  ok_c (sn_bipush (v := (-2)) (show decode cX9_hairs 23 = .ok (.bipush (-2), 2) by decide +kernel) (by decide +kernel)) <|
  ok_c (sn_aload_n (show decode cX9_hairs 26 = .ok (.aload_n 0, 1) by decide +kernel) rfl) <|
  ok_c (sn_aload_n (show decode cX9_hairs 30 = .ok (.aload_n 0, 1) by decide +kernel) rfl) <|
  ok_c (sn_iload_n (show decode cX9_hairs 31 = .ok (.iload_n 1, 1) by decide +kernel) rfl) <|
  ok_c (sn_iload_n (show decode cX9_hairs 32 = .ok (.iload_n 3, 1) by decide +kernel) rfl) <|
  ok_c (sn_if_ne (show decode cX9_hairs 36 = .ok (.ifCond .ne 12, 3) by decide +kernel) (by decide)) <|
  ok_c (sn_aload_n (show decode cX9_hairs 39 = .ok (.aload_n 0, 1) by decide +kernel) rfl) <|
  ok_c (sn_iload_n (show decode cX9_hairs 40 = .ok (.iload_n 2, 1) by decide +kernel) rfl) <|
  ok_c (sn_iload_n (show decode cX9_hairs 41 = .ok (.iload_n 3, 1) by decide +kernel) rfl) <|
  ok_c (sn_if_eq (show decode cX9_hairs 45 = .ok (.ifCond .eq 5, 3) by decide +kernel) (by decide)) <|
  ok_c (sn_iconst (v := (-1)) (show decode cX9_hairs 48 = .ok (.iconst (-1), 1) by decide +kernel) (by decide +kernel)) <|
  ok_c (sn_iconst (v := 1) (show decode cX9_hairs 50 = .ok (.iconst 1, 1) by decide +kernel) (by decide +kernel)) <|
  ok_c (sn_iload_n (show decode cX9_hairs 51 = .ok (.iload_n 1, 1) by decide +kernel) rfl) <|
  ok_c (sn_ishl (show decode cX9_hairs 52 = .ok (.ishl, 1) by decide +kernel)) <|
  ok_c (sn_istore (show decode cX9_hairs 53 = .ok (.istore 4, 2) by decide +kernel) (by decide)) <|
  ok_c (sn_iconst (v := 0) (show decode cX9_hairs 55 = .ok (.iconst 0, 1) by decide +kernel) (by decide +kernel)) <|
  ok_c (sn_istore (show decode cX9_hairs 56 = .ok (.istore 5, 2) by decide +kernel) (by decide)) <|
  ok_c (sn_iload (show decode cX9_hairs 58 = .ok (.iload 5, 2) by decide +kernel)) <|
  ok_c (sn_aload_n (show decode cX9_hairs 60 = .ok (.aload_n 0, 1) by decide +kernel) rfl) <|
  ok_c (sn_ic_ge (show decode cX9_hairs 64 = .ok (.if_icmp .ge 105, 3) by decide +kernel) (by decide)) <|
  ok_c (sn_iload (show decode cX9_hairs 67 = .ok (.iload 4, 2) by decide +kernel)) <|
  ok_c (sn_iload_n (show decode cX9_hairs 69 = .ok (.iload_n 2, 1) by decide +kernel) rfl) <|
  ok_c (sn_if_eq (show decode cX9_hairs 73 = .ok (.ifCond .eq 6, 3) by decide +kernel) (by decide)) <|
  ok_c (sn_iload (show decode cX9_hairs 76 = .ok (.iload 5, 2) by decide +kernel)) <|
  ok_c (sn_iload (show decode cX9_hairs 79 = .ok (.iload 4, 2) by decide +kernel)) <|
  ok_c (sn_istore (show decode cX9_hairs 81 = .ok (.istore 6, 2) by decide +kernel) (by decide)) <|
  ok_c (sn_iconst (v := 0) (show decode cX9_hairs 83 = .ok (.iconst 0, 1) by decide +kernel) (by decide +kernel)) <|
  ok_c (sn_istore (show decode cX9_hairs 84 = .ok (.istore 7, 2) by decide +kernel) (by decide)) <|
  ok_c (sn_iload (show decode cX9_hairs 86 = .ok (.iload 7, 2) by decide +kernel)) <|
  ok_c (sn_aload_n (show decode cX9_hairs 88 = .ok (.aload_n 0, 1) by decide +kernel) rfl) <|
  ok_c (sn_ic_ge (show decode cX9_hairs 92 = .ok (.if_icmp .ge 67, 3) by decide +kernel) (by decide)) <|
  ok_c (sn_iconst (v := 0) (show decode cX9_hairs 95 = .ok (.iconst 0, 1) by decide +kernel) (by decide +kernel)) <|
  ok_c (sn_istore (show decode cX9_hairs 96 = .ok (.istore 8, 2) by decide +kernel) (by decide)) <|
  ok_c (sn_iload (show decode cX9_hairs 98 = .ok (.iload 8, 2) by decide +kernel)) <|
  ok_c (sn_aload_n (show decode cX9_hairs 100 = .ok (.aload_n 0, 1) by decide +kernel) rfl) <|
  ok_c (sn_ic_ge (show decode cX9_hairs 104 = .ok (.if_icmp .ge 49, 3) by decide +kernel) (by decide)) <|
  ok_c (sn_iload (show decode cX9_hairs 107 = .ok (.iload 4, 2) by decide +kernel)) <|
  ok_c (sn_iload (show decode cX9_hairs 109 = .ok (.iload 7, 2) by decide +kernel)) <|
  ok_c (sn_if_eq (show decode cX9_hairs 114 = .ok (.ifCond .eq 33, 3) by decide +kernel) (by decide)) <|
  ok_c (sn_aload_n (show decode cX9_hairs 117 = .ok (.aload_n 0, 1) by decide +kernel) rfl) <|
  ok_c (sn_getC (j := 33) (fun _ _ => rfl) (sn_get ck_9 (by decide) (show decode cX9_hairs 118 = .ok (.getfield 56, 3) by decide +kernel) wd_6_10)) <|
  ok_c (sn_bipush (v := 36) (show decode cX9_hairs 121 = .ok (.bipush 36, 2) by decide +kernel) (by decide +kernel)) <|
  ok_c (sn_iload_n (show decode cX9_hairs 123 = .ok (.iload_n 3, 1) by decide +kernel) rfl) <|
  ok_c (sn_imul (show decode cX9_hairs 124 = .ok (.imul, 1) by decide +kernel)) <|
  ok_c (sn_bipush (v := 6) (show decode cX9_hairs 125 = .ok (.bipush 6, 2) by decide +kernel) (by decide +kernel)) <|
  ok_c (sn_iload (show decode cX9_hairs 127 = .ok (.iload 7, 2) by decide +kernel)) <|
  ok_c (sn_imul (show decode cX9_hairs 129 = .ok (.imul, 1) by decide +kernel)) <|
  ok_c (sn_iadd (show decode cX9_hairs 130 = .ok (.iadd, 1) by decide +kernel)) <|
  ok_c (sn_iload (show decode cX9_hairs 131 = .ok (.iload 8, 2) by decide +kernel)) <|
  ok_c (sn_iadd (show decode cX9_hairs 133 = .ok (.iadd, 1) by decide +kernel)) <|
  ok_c (sn_iald (show decode cX9_hairs 134 = .ok (.iaload, 1) by decide +kernel)) <|
  ok_c (sn_if_le (show decode cX9_hairs 135 = .ok (.ifCond .le 12, 3) by decide +kernel) (by decide)) <|
  ok_c (sn_iload (show decode cX9_hairs 138 = .ok (.iload 6, 2) by decide +kernel)) <|
  ok_c (sn_iconst (v := 1) (show decode cX9_hairs 140 = .ok (.iconst 1, 1) by decide +kernel) (by decide +kernel)) <|
  ok_c (sn_iload (show decode cX9_hairs 141 = .ok (.iload 8, 2) by decide +kernel)) <|
  ok_c (sn_ishl (show decode cX9_hairs 143 = .ok (.ishl, 1) by decide +kernel)) <|
  ok_c (sn_ior (show decode cX9_hairs 144 = .ok (.ior, 1) by decide +kernel)) <|
  ok_c (sn_istore (show decode cX9_hairs 145 = .ok (.istore 6, 2) by decide +kernel) (by decide)) <|
  ok_c (sn_iinc (show decode cX9_hairs 147 = .ok (.iinc 8 1, 3) by decide +kernel) (by decide) (by decide +kernel)) <|
  ok_c (sn_goto (show decode cX9_hairs 150 = .ok (.goto (-52), 3) by decide +kernel) (by decide)) <|
  ok_c (sn_iinc (show decode cX9_hairs 153 = .ok (.iinc 7 1, 3) by decide +kernel) (by decide) (by decide +kernel)) <|
  ok_c (sn_goto (show decode cX9_hairs 156 = .ok (.goto (-70), 3) by decide +kernel) (by decide)) <|
  ok_c (sn_iload (show decode cX9_hairs 159 = .ok (.iload 6, 2) by decide +kernel)) <|
  ok_c (sn_istore (show decode cX9_hairs 161 = .ok (.istore 4, 2) by decide +kernel) (by decide)) <|
  ok_c (sn_iinc (show decode cX9_hairs 163 = .ok (.iinc 5 1, 3) by decide +kernel) (by decide) (by decide +kernel)) <|
  ok_c (sn_goto (show decode cX9_hairs 166 = .ok (.goto (-108), 3) by decide +kernel) (by decide)) <|
  ok_c (sn_iconst (v := (-1)) (show decode cX9_hairs 169 = .ok (.iconst (-1), 1) by decide +kernel) (by decide +kernel)) <|
  ok_n
def uX9_hairs : gCT := [(8, YX9_isPerson, 2, some 9), (17, YX9_isThen, 3, some 9), (27, YX9_laysNow, 1, some 9), (33, YX9_isOut, 3, some 9), (42, YX9_isOut, 3, some 9), (61, YX9_people, 1, some 9), (70, YX9_isBit, 2, none), (89, YX9_people, 1, some 9), (101, YX9_people, 1, some 9), (111, YX9_isBit, 2, none)]
set_option maxRecDepth 100000 in
theorem ocX9_hairs : gOkC YX9_hairs uX9_hairs := oc_c (gEdge_V cal_X9_isPerson ck_9 rfl (show decode cX9_hairs 8 = .ok (.invokevirtual 247, 3) by decide +kernel) wd_7_46 wd_7_48 wp_5_5) <|
  oc_c (gEdge_V cal_X9_isThen ck_9 rfl (show decode cX9_hairs 17 = .ok (.invokevirtual 363, 3) by decide +kernel) wd_7_166 wd_7_168 wp_6_13) <|
  oc_c (gEdge_V cal_X9_laysNow ck_9 rfl (show decode cX9_hairs 27 = .ok (.invokevirtual 354, 3) by decide +kernel) wd_7_87 wd_7_89 wp_5_12) <|
  oc_c (gEdge_V cal_X9_isOut ck_9 rfl (show decode cX9_hairs 33 = .ok (.invokevirtual 292, 3) by decide +kernel) wd_7_130 wd_7_132 wp_6_6) <|
  oc_c (gEdge_V cal_X9_isOut ck_9 rfl (show decode cX9_hairs 42 = .ok (.invokevirtual 292, 3) by decide +kernel) wd_7_130 wd_7_132 wp_6_6) <|
  oc_c (gEdge_V cal_X9_people ck_9 rfl (show decode cX9_hairs 61 = .ok (.invokevirtual 244, 3) by decide +kernel) wd_7_50 wd_7_52 wp_5_6) <|
  oc_c (gEdge_S cal_X9_isBit (show decode cX9_hairs 70 = .ok (.invokestatic 281, 3) by decide +kernel) wd_7_115 wd_7_116) <|
  oc_c (gEdge_V cal_X9_people ck_9 rfl (show decode cX9_hairs 89 = .ok (.invokevirtual 244, 3) by decide +kernel) wd_7_50 wd_7_52 wp_5_6) <|
  oc_c (gEdge_V cal_X9_people ck_9 rfl (show decode cX9_hairs 101 = .ok (.invokevirtual 244, 3) by decide +kernel) wd_7_50 wd_7_52 wp_5_6) <|
  oc_c (gEdge_S cal_X9_isBit (show decode cX9_hairs 111 = .ok (.invokestatic 281, 3) by decide +kernel) wd_7_115 wd_7_116) <|
  oc_n
theorem reX9_hairs : ∀ pc ∈ [25, 49, 78, 170], decode cX9_hairs pc = .ok (.ireturn, 1) := by decide +kernel
def tX9_colds : List (Nat × gStp) := [(0, i_aload 0 1), (1, i_push (.int 0) 2), (2, i_putI 9 0 5), (5, i_aload 0 6), (6, i_iload 1 7), (10, i_if_ne 16 13), (13, i_push (.int (-2)) 15), (16, i_aload 0 17), (20, i_push (.int 0) 21), (21, i_istore 2 22), (22, i_push (.int 0) 23), (23, i_istore 3 24), (24, i_iload 3 25), (25, i_aload 0 26), (29, i_ic_ge 58 32), (32, i_iload 2 33), (33, i_aload 0 34), (34, i_getC 9 157 37), (37, i_iload 3 38), (38, i_iald 39), (39, i_iload 1 40), (40, i_ic_ne 49 43), (43, i_push (.int 1) 44), (44, i_iload 3 45), (45, i_ii (fun x y => x <<< (y &&& 31)) 46), (46, i_goto 50), (49, i_push (.int 0) 50), (50, i_ii (fun x y => x ||| y) 51), (51, i_istore 2 52), (52, i_iinc 3 1 55), (55, i_goto 24), (58, i_iload 2 59)]
set_option maxRecDepth 100000 in
theorem okX9_colds : gOk YX9_colds tX9_colds := ok_c (sn_aload_n (show decode cX9_colds 0 = .ok (.aload_n 0, 1) by decide +kernel) rfl) <|
  ok_c (sn_iconst (v := 0) (show decode cX9_colds 1 = .ok (.iconst 0, 1) by decide +kernel) (by decide +kernel)) <|
  ok_c (sn_putI ck_9 (by decide) rfl rfl (show decode cX9_colds 2 = .ok (.putfield 77, 3) by decide +kernel) wd_5_217) <|
  ok_c (sn_aload_n (show decode cX9_colds 5 = .ok (.aload_n 0, 1) by decide +kernel) rfl) <|
  ok_c (sn_iload_n (show decode cX9_colds 6 = .ok (.iload_n 1, 1) by decide +kernel) rfl) <|
  ok_c (sn_if_ne (show decode cX9_colds 10 = .ok (.ifCond .ne 6, 3) by decide +kernel) (by decide)) <|
  ok_c (sn_bipush (v := (-2)) (show decode cX9_colds 13 = .ok (.bipush (-2), 2) by decide +kernel) (by decide +kernel)) <|
  ok_c (sn_aload_n (show decode cX9_colds 16 = .ok (.aload_n 0, 1) by decide +kernel) rfl) <|
  ok_c (sn_iconst (v := 0) (show decode cX9_colds 20 = .ok (.iconst 0, 1) by decide +kernel) (by decide +kernel)) <|
  ok_c (sn_istore_n (show decode cX9_colds 21 = .ok (.istore_n 2, 1) by decide +kernel) rfl (by decide)) <|
  ok_c (sn_iconst (v := 0) (show decode cX9_colds 22 = .ok (.iconst 0, 1) by decide +kernel) (by decide +kernel)) <|
  ok_c (sn_istore_n (show decode cX9_colds 23 = .ok (.istore_n 3, 1) by decide +kernel) rfl (by decide)) <|
  ok_c (sn_iload_n (show decode cX9_colds 24 = .ok (.iload_n 3, 1) by decide +kernel) rfl) <|
  ok_c (sn_aload_n (show decode cX9_colds 25 = .ok (.aload_n 0, 1) by decide +kernel) rfl) <|
  ok_c (sn_ic_ge (show decode cX9_colds 29 = .ok (.if_icmp .ge 29, 3) by decide +kernel) (by decide)) <|
  ok_c (sn_iload_n (show decode cX9_colds 32 = .ok (.iload_n 2, 1) by decide +kernel) rfl) <|
  ok_c (sn_aload_n (show decode cX9_colds 33 = .ok (.aload_n 0, 1) by decide +kernel) rfl) <|
  ok_c (sn_getC (j := 35) (fun _ _ => rfl) (sn_get ck_9 (by decide) (show decode cX9_colds 34 = .ok (.getfield 62, 3) by decide +kernel) wd_6_12)) <|
  ok_c (sn_iload_n (show decode cX9_colds 37 = .ok (.iload_n 3, 1) by decide +kernel) rfl) <|
  ok_c (sn_iald (show decode cX9_colds 38 = .ok (.iaload, 1) by decide +kernel)) <|
  ok_c (sn_iload_n (show decode cX9_colds 39 = .ok (.iload_n 1, 1) by decide +kernel) rfl) <|
  ok_c (sn_ic_ne (show decode cX9_colds 40 = .ok (.if_icmp .ne 9, 3) by decide +kernel) (by decide)) <|
  ok_c (sn_iconst (v := 1) (show decode cX9_colds 43 = .ok (.iconst 1, 1) by decide +kernel) (by decide +kernel)) <|
  ok_c (sn_iload_n (show decode cX9_colds 44 = .ok (.iload_n 3, 1) by decide +kernel) rfl) <|
  ok_c (sn_ishl (show decode cX9_colds 45 = .ok (.ishl, 1) by decide +kernel)) <|
  ok_c (sn_goto (show decode cX9_colds 46 = .ok (.goto 4, 3) by decide +kernel) (by decide)) <|
  ok_c (sn_iconst (v := 0) (show decode cX9_colds 49 = .ok (.iconst 0, 1) by decide +kernel) (by decide +kernel)) <|
  ok_c (sn_ior (show decode cX9_colds 50 = .ok (.ior, 1) by decide +kernel)) <|
  ok_c (sn_istore_n (show decode cX9_colds 51 = .ok (.istore_n 2, 1) by decide +kernel) rfl (by decide)) <|
  ok_c (sn_iinc (show decode cX9_colds 52 = .ok (.iinc 3 1, 3) by decide +kernel) (by decide) (by decide +kernel)) <|
  ok_c (sn_goto (show decode cX9_colds 55 = .ok (.goto (-31), 3) by decide +kernel) (by decide)) <|
  ok_c (sn_iload_n (show decode cX9_colds 58 = .ok (.iload_n 2, 1) by decide +kernel) rfl) <|
  ok_n
def uX9_colds : gCT := [(7, YX9_isYear, 2, some 9), (17, YX9_laysNow, 1, some 9), (26, YX9_people, 1, some 9)]
set_option maxRecDepth 100000 in
theorem ocX9_colds : gOkC YX9_colds uX9_colds := oc_c (gEdge_V cal_X9_isYear ck_9 rfl (show decode cX9_colds 7 = .ok (.invokevirtual 256, 3) by decide +kernel) wd_7_79 wd_7_81 wp_5_10) <|
  oc_c (gEdge_V cal_X9_laysNow ck_9 rfl (show decode cX9_colds 17 = .ok (.invokevirtual 354, 3) by decide +kernel) wd_7_87 wd_7_89 wp_5_12) <|
  oc_c (gEdge_V cal_X9_people ck_9 rfl (show decode cX9_colds 26 = .ok (.invokevirtual 244, 3) by decide +kernel) wd_7_50 wd_7_52 wp_5_6) <|
  oc_n
theorem reX9_colds : ∀ pc ∈ [15, 59], decode cX9_colds pc = .ok (.ireturn, 1) := by decide +kernel
def tX9_cold : List (Nat × gStp) := [(0, i_aload 0 1), (1, i_push (.int 0) 2), (2, i_putI 9 0 5), (5, i_aload 0 6), (6, i_iload 1 7), (7, i_i2l 8), (11, i_if_ne 17 14), (14, i_push (.int (-2)) 16), (17, i_aload 0 18), (21, i_aload 0 22), (22, i_getC 9 157 25), (25, i_iload 1 26), (26, i_iald 27)]
set_option maxRecDepth 100000 in
theorem okX9_cold : gOk YX9_cold tX9_cold := ok_c (sn_aload_n (show decode cX9_cold 0 = .ok (.aload_n 0, 1) by decide +kernel) rfl) <|
  ok_c (sn_iconst (v := 0) (show decode cX9_cold 1 = .ok (.iconst 0, 1) by decide +kernel) (by decide +kernel)) <|
  ok_c (sn_putI ck_9 (by decide) rfl rfl (show decode cX9_cold 2 = .ok (.putfield 77, 3) by decide +kernel) wd_5_217) <|
  ok_c (sn_aload_n (show decode cX9_cold 5 = .ok (.aload_n 0, 1) by decide +kernel) rfl) <|
  ok_c (sn_iload_n (show decode cX9_cold 6 = .ok (.iload_n 1, 1) by decide +kernel) rfl) <|
  ok_c (sn_i2l (show decode cX9_cold 7 = .ok (.i2l, 1) by decide +kernel)) <|
  ok_c (sn_if_ne (show decode cX9_cold 11 = .ok (.ifCond .ne 6, 3) by decide +kernel) (by decide)) <|
  ok_c (sn_bipush (v := (-2)) (show decode cX9_cold 14 = .ok (.bipush (-2), 2) by decide +kernel) (by decide +kernel)) <|
  ok_c (sn_aload_n (show decode cX9_cold 17 = .ok (.aload_n 0, 1) by decide +kernel) rfl) <|
  ok_c (sn_aload_n (show decode cX9_cold 21 = .ok (.aload_n 0, 1) by decide +kernel) rfl) <|
  ok_c (sn_getC (j := 35) (fun _ _ => rfl) (sn_get ck_9 (by decide) (show decode cX9_cold 22 = .ok (.getfield 62, 3) by decide +kernel) wd_6_12)) <|
  ok_c (sn_iload_n (show decode cX9_cold 25 = .ok (.iload_n 1, 1) by decide +kernel) rfl) <|
  ok_c (sn_iald (show decode cX9_cold 26 = .ok (.iaload, 1) by decide +kernel)) <|
  ok_n
def uX9_cold : gCT := [(8, YX9_isPerson, 2, some 9), (18, YX9_laysNow, 1, some 9)]
set_option maxRecDepth 100000 in
theorem ocX9_cold : gOkC YX9_cold uX9_cold := oc_c (gEdge_V cal_X9_isPerson ck_9 rfl (show decode cX9_cold 8 = .ok (.invokevirtual 247, 3) by decide +kernel) wd_7_46 wd_7_48 wp_5_5) <|
  oc_c (gEdge_V cal_X9_laysNow ck_9 rfl (show decode cX9_cold 18 = .ok (.invokevirtual 354, 3) by decide +kernel) wd_7_87 wd_7_89 wp_5_12) <|
  oc_n
theorem reX9_cold : ∀ pc ∈ [16, 27], decode cX9_cold pc = .ok (.ireturn, 1) := by decide +kernel
def tX9_worth : List (Nat × gStp) := [(0, i_aload 0 1), (1, i_push (.int 0) 2), (2, i_putI 9 0 5), (5, i_aload 0 6), (6, i_iload 1 7), (7, i_iload 2 8), (11, i_if_ne 18 14), (14, i_push (.int (-10000)) 17), (18, i_aload 0 19), (22, i_aload 0 23), (23, i_getC 9 158 26), (26, i_push (.int 12) 28), (28, i_iload 1 29), (29, i_ii (fun x y => x * y) 30), (30, i_iload 2 31), (31, i_ii (fun x y => x + y) 32), (32, i_iald 33)]
set_option maxRecDepth 100000 in
theorem okX9_worth : gOk YX9_worth tX9_worth := ok_c (sn_aload_n (show decode cX9_worth 0 = .ok (.aload_n 0, 1) by decide +kernel) rfl) <|
  ok_c (sn_iconst (v := 0) (show decode cX9_worth 1 = .ok (.iconst 0, 1) by decide +kernel) (by decide +kernel)) <|
  ok_c (sn_putI ck_9 (by decide) rfl rfl (show decode cX9_worth 2 = .ok (.putfield 77, 3) by decide +kernel) wd_5_217) <|
  ok_c (sn_aload_n (show decode cX9_worth 5 = .ok (.aload_n 0, 1) by decide +kernel) rfl) <|
  ok_c (sn_iload_n (show decode cX9_worth 6 = .ok (.iload_n 1, 1) by decide +kernel) rfl) <|
  ok_c (sn_iload_n (show decode cX9_worth 7 = .ok (.iload_n 2, 1) by decide +kernel) rfl) <|
  ok_c (sn_if_ne (show decode cX9_worth 11 = .ok (.ifCond .ne 7, 3) by decide +kernel) (by decide)) <|
  ok_c (sn_sipush (v := (-10000)) (show decode cX9_worth 14 = .ok (.sipush (-10000), 3) by decide +kernel) (by decide +kernel)) <|
  ok_c (sn_aload_n (show decode cX9_worth 18 = .ok (.aload_n 0, 1) by decide +kernel) rfl) <|
  ok_c (sn_aload_n (show decode cX9_worth 22 = .ok (.aload_n 0, 1) by decide +kernel) rfl) <|
  ok_c (sn_getC (j := 36) (fun _ _ => rfl) (sn_get ck_9 (by decide) (show decode cX9_worth 23 = .ok (.getfield 65, 3) by decide +kernel) wd_6_13)) <|
  ok_c (sn_bipush (v := 12) (show decode cX9_worth 26 = .ok (.bipush 12, 2) by decide +kernel) (by decide +kernel)) <|
  ok_c (sn_iload_n (show decode cX9_worth 28 = .ok (.iload_n 1, 1) by decide +kernel) rfl) <|
  ok_c (sn_imul (show decode cX9_worth 29 = .ok (.imul, 1) by decide +kernel)) <|
  ok_c (sn_iload_n (show decode cX9_worth 30 = .ok (.iload_n 2, 1) by decide +kernel) rfl) <|
  ok_c (sn_iadd (show decode cX9_worth 31 = .ok (.iadd, 1) by decide +kernel)) <|
  ok_c (sn_iald (show decode cX9_worth 32 = .ok (.iaload, 1) by decide +kernel)) <|
  ok_n
def uX9_worth : gCT := [(8, YX9_isThen, 3, some 9), (19, YX9_laysNow, 1, some 9)]
set_option maxRecDepth 100000 in
theorem ocX9_worth : gOkC YX9_worth uX9_worth := oc_c (gEdge_V cal_X9_isThen ck_9 rfl (show decode cX9_worth 8 = .ok (.invokevirtual 363, 3) by decide +kernel) wd_7_166 wd_7_168 wp_6_13) <|
  oc_c (gEdge_V cal_X9_laysNow ck_9 rfl (show decode cX9_worth 19 = .ok (.invokevirtual 354, 3) by decide +kernel) wd_7_87 wd_7_89 wp_5_12) <|
  oc_n
theorem reX9_worth : ∀ pc ∈ [17, 33], decode cX9_worth pc = .ok (.ireturn, 1) := by decide +kernel
def tX9_funds : List (Nat × gStp) := [(0, i_aload 0 1), (1, i_push (.int 0) 2), (2, i_putI 9 0 5), (5, i_aload 0 6), (6, i_iload 1 7), (7, i_iload 2 8), (11, i_if_ne 18 14), (14, i_push (.int (-10000)) 17), (18, i_aload 0 19), (22, i_aload 0 23), (23, i_iload 1 24), (24, i_iload 2 25), (28, i_if_eq 37 31), (31, i_push (.int (-10000)) 34), (34, i_goto 48), (37, i_aload 0 38), (38, i_aload 0 39), (39, i_iload 1 40), (40, i_iload 2 41), (44, i_iload 2 45)]
set_option maxRecDepth 100000 in
theorem okX9_funds : gOk YX9_funds tX9_funds := ok_c (sn_aload_n (show decode cX9_funds 0 = .ok (.aload_n 0, 1) by decide +kernel) rfl) <|
  ok_c (sn_iconst (v := 0) (show decode cX9_funds 1 = .ok (.iconst 0, 1) by decide +kernel) (by decide +kernel)) <|
  ok_c (sn_putI ck_9 (by decide) rfl rfl (show decode cX9_funds 2 = .ok (.putfield 77, 3) by decide +kernel) wd_5_217) <|
  ok_c (sn_aload_n (show decode cX9_funds 5 = .ok (.aload_n 0, 1) by decide +kernel) rfl) <|
  ok_c (sn_iload_n (show decode cX9_funds 6 = .ok (.iload_n 1, 1) by decide +kernel) rfl) <|
  ok_c (sn_iload_n (show decode cX9_funds 7 = .ok (.iload_n 2, 1) by decide +kernel) rfl) <|
  ok_c (sn_if_ne (show decode cX9_funds 11 = .ok (.ifCond .ne 7, 3) by decide +kernel) (by decide)) <|
  ok_c (sn_sipush (v := (-10000)) (show decode cX9_funds 14 = .ok (.sipush (-10000), 3) by decide +kernel) (by decide +kernel)) <|
  ok_c (sn_aload_n (show decode cX9_funds 18 = .ok (.aload_n 0, 1) by decide +kernel) rfl) <|
  ok_c (sn_aload_n (show decode cX9_funds 22 = .ok (.aload_n 0, 1) by decide +kernel) rfl) <|
  ok_c (sn_iload_n (show decode cX9_funds 23 = .ok (.iload_n 1, 1) by decide +kernel) rfl) <|
  ok_c (sn_iload_n (show decode cX9_funds 24 = .ok (.iload_n 2, 1) by decide +kernel) rfl) <|
  ok_c (sn_if_eq (show decode cX9_funds 28 = .ok (.ifCond .eq 9, 3) by decide +kernel) (by decide)) <|
  ok_c (sn_sipush (v := (-10000)) (show decode cX9_funds 31 = .ok (.sipush (-10000), 3) by decide +kernel) (by decide +kernel)) <|
  ok_c (sn_goto (show decode cX9_funds 34 = .ok (.goto 14, 3) by decide +kernel) (by decide)) <|
  ok_c (sn_aload_n (show decode cX9_funds 37 = .ok (.aload_n 0, 1) by decide +kernel) rfl) <|
  ok_c (sn_aload_n (show decode cX9_funds 38 = .ok (.aload_n 0, 1) by decide +kernel) rfl) <|
  ok_c (sn_iload_n (show decode cX9_funds 39 = .ok (.iload_n 1, 1) by decide +kernel) rfl) <|
  ok_c (sn_iload_n (show decode cX9_funds 40 = .ok (.iload_n 2, 1) by decide +kernel) rfl) <|
  ok_c (sn_iload_n (show decode cX9_funds 44 = .ok (.iload_n 2, 1) by decide +kernel) rfl) <|
  ok_n
def uX9_funds : gCT := [(8, YX9_isThen, 3, some 9), (19, YX9_laysNow, 1, some 9), (25, YX9_isOut, 3, some 9), (41, YX9_firmOf, 3, some 9), (45, YX9_fundsOf, 3, some 9)]
set_option maxRecDepth 100000 in
theorem ocX9_funds : gOkC YX9_funds uX9_funds := oc_c (gEdge_V cal_X9_isThen ck_9 rfl (show decode cX9_funds 8 = .ok (.invokevirtual 363, 3) by decide +kernel) wd_7_166 wd_7_168 wp_6_13) <|
  oc_c (gEdge_V cal_X9_laysNow ck_9 rfl (show decode cX9_funds 19 = .ok (.invokevirtual 354, 3) by decide +kernel) wd_7_87 wd_7_89 wp_5_12) <|
  oc_c (gEdge_V cal_X9_isOut ck_9 rfl (show decode cX9_funds 25 = .ok (.invokevirtual 292, 3) by decide +kernel) wd_7_130 wd_7_132 wp_6_6) <|
  oc_c (gEdge_V cal_X9_firmOf ck_9 rfl (show decode cX9_funds 41 = .ok (.invokevirtual 311, 3) by decide +kernel) wd_7_134 wd_7_136 wp_6_7) <|
  oc_c (gEdge_V cal_X9_fundsOf ck_9 rfl (show decode cX9_funds 45 = .ok (.invokevirtual 314, 3) by decide +kernel) wd_7_138 wd_7_140 wp_6_8) <|
  oc_n
theorem reX9_funds : ∀ pc ∈ [17, 48], decode cX9_funds pc = .ok (.ireturn, 1) := by decide +kernel
def tX9_out : List (Nat × gStp) := [(0, i_aload 0 1), (1, i_push (.int 0) 2), (2, i_putI 9 0 5), (5, i_aload 0 6), (6, i_iload 1 7), (10, i_if_ne 16 13), (13, i_push (.int (-2)) 15), (16, i_aload 0 17), (20, i_aload 0 21), (21, i_iload 1 22)]
set_option maxRecDepth 100000 in
theorem okX9_out : gOk YX9_out tX9_out := ok_c (sn_aload_n (show decode cX9_out 0 = .ok (.aload_n 0, 1) by decide +kernel) rfl) <|
  ok_c (sn_iconst (v := 0) (show decode cX9_out 1 = .ok (.iconst 0, 1) by decide +kernel) (by decide +kernel)) <|
  ok_c (sn_putI ck_9 (by decide) rfl rfl (show decode cX9_out 2 = .ok (.putfield 77, 3) by decide +kernel) wd_5_217) <|
  ok_c (sn_aload_n (show decode cX9_out 5 = .ok (.aload_n 0, 1) by decide +kernel) rfl) <|
  ok_c (sn_iload_n (show decode cX9_out 6 = .ok (.iload_n 1, 1) by decide +kernel) rfl) <|
  ok_c (sn_if_ne (show decode cX9_out 10 = .ok (.ifCond .ne 6, 3) by decide +kernel) (by decide)) <|
  ok_c (sn_bipush (v := (-2)) (show decode cX9_out 13 = .ok (.bipush (-2), 2) by decide +kernel) (by decide +kernel)) <|
  ok_c (sn_aload_n (show decode cX9_out 16 = .ok (.aload_n 0, 1) by decide +kernel) rfl) <|
  ok_c (sn_aload_n (show decode cX9_out 20 = .ok (.aload_n 0, 1) by decide +kernel) rfl) <|
  ok_c (sn_iload_n (show decode cX9_out 21 = .ok (.iload_n 1, 1) by decide +kernel) rfl) <|
  ok_n
def uX9_out : gCT := [(7, YX9_isYear, 2, some 9), (17, YX9_laysNow, 1, some 9), (22, YX9_outBits, 2, some 9)]
set_option maxRecDepth 100000 in
theorem ocX9_out : gOkC YX9_out uX9_out := oc_c (gEdge_V cal_X9_isYear ck_9 rfl (show decode cX9_out 7 = .ok (.invokevirtual 256, 3) by decide +kernel) wd_7_79 wd_7_81 wp_5_10) <|
  oc_c (gEdge_V cal_X9_laysNow ck_9 rfl (show decode cX9_out 17 = .ok (.invokevirtual 354, 3) by decide +kernel) wd_7_87 wd_7_89 wp_5_12) <|
  oc_c (gEdge_V cal_X9_outBits ck_9 rfl (show decode cX9_out 22 = .ok (.invokevirtual 375, 3) by decide +kernel) wd_7_237 wd_7_239 wp_7_4) <|
  oc_n
theorem reX9_out : ∀ pc ∈ [15, 25], decode cX9_out pc = .ok (.ireturn, 1) := by decide +kernel
def tX9_fails : List (Nat × gStp) := [(0, i_aload 0 1), (1, i_push (.int 0) 2), (2, i_putI 9 0 5), (5, i_aload 0 6), (6, i_iload 1 7), (7, i_i2l 8), (11, i_if_ne 17 14), (14, i_push (.int (-2)) 16), (17, i_aload 0 18), (21, i_aload 0 22), (22, i_getC 9 156 25), (25, i_iload 1 26), (26, i_iald 27)]
set_option maxRecDepth 100000 in
theorem okX9_fails : gOk YX9_fails tX9_fails := ok_c (sn_aload_n (show decode cX9_fails 0 = .ok (.aload_n 0, 1) by decide +kernel) rfl) <|
  ok_c (sn_iconst (v := 0) (show decode cX9_fails 1 = .ok (.iconst 0, 1) by decide +kernel) (by decide +kernel)) <|
  ok_c (sn_putI ck_9 (by decide) rfl rfl (show decode cX9_fails 2 = .ok (.putfield 77, 3) by decide +kernel) wd_5_217) <|
  ok_c (sn_aload_n (show decode cX9_fails 5 = .ok (.aload_n 0, 1) by decide +kernel) rfl) <|
  ok_c (sn_iload_n (show decode cX9_fails 6 = .ok (.iload_n 1, 1) by decide +kernel) rfl) <|
  ok_c (sn_i2l (show decode cX9_fails 7 = .ok (.i2l, 1) by decide +kernel)) <|
  ok_c (sn_if_ne (show decode cX9_fails 11 = .ok (.ifCond .ne 6, 3) by decide +kernel) (by decide)) <|
  ok_c (sn_bipush (v := (-2)) (show decode cX9_fails 14 = .ok (.bipush (-2), 2) by decide +kernel) (by decide +kernel)) <|
  ok_c (sn_aload_n (show decode cX9_fails 17 = .ok (.aload_n 0, 1) by decide +kernel) rfl) <|
  ok_c (sn_aload_n (show decode cX9_fails 21 = .ok (.aload_n 0, 1) by decide +kernel) rfl) <|
  ok_c (sn_getC (j := 34) (fun _ _ => rfl) (sn_get ck_9 (by decide) (show decode cX9_fails 22 = .ok (.getfield 59, 3) by decide +kernel) wd_6_11)) <|
  ok_c (sn_iload_n (show decode cX9_fails 25 = .ok (.iload_n 1, 1) by decide +kernel) rfl) <|
  ok_c (sn_iald (show decode cX9_fails 26 = .ok (.iaload, 1) by decide +kernel)) <|
  ok_n
def uX9_fails : gCT := [(8, YX9_isPerson, 2, some 9), (18, YX9_laysNow, 1, some 9)]
set_option maxRecDepth 100000 in
theorem ocX9_fails : gOkC YX9_fails uX9_fails := oc_c (gEdge_V cal_X9_isPerson ck_9 rfl (show decode cX9_fails 8 = .ok (.invokevirtual 247, 3) by decide +kernel) wd_7_46 wd_7_48 wp_5_5) <|
  oc_c (gEdge_V cal_X9_laysNow ck_9 rfl (show decode cX9_fails 18 = .ok (.invokevirtual 354, 3) by decide +kernel) wd_7_87 wd_7_89 wp_5_12) <|
  oc_n
theorem reX9_fails : ∀ pc ∈ [16, 27], decode cX9_fails pc = .ok (.ireturn, 1) := by decide +kernel
def tX9_richest : List (Nat × gStp) := [(0, i_aload 0 1), (1, i_push (.int 0) 2), (2, i_putI 9 0 5), (5, i_aload 0 6), (6, i_iload 1 7), (10, i_if_ne 16 13), (13, i_push (.int (-2)) 15), (16, i_aload 0 17), (20, i_push (.int (-1)) 21), (21, i_istore 2 22), (22, i_push (.int 0) 23), (23, i_istore 3 24), (24, i_iload 3 25), (25, i_aload 0 26), (29, i_ic_ge 79 32), (32, i_aload 0 33), (33, i_iload 3 34), (34, i_iload 1 35), (38, i_if_ne 73 41), (41, i_iload 2 42), (42, i_push (.int (-1)) 43), (43, i_ic_eq 71 46), (46, i_aload 0 47), (47, i_aload 0 48), (48, i_iload 3 49), (49, i_iload 1 50), (53, i_iload 1 54), (57, i_aload 0 58), (58, i_aload 0 59), (59, i_iload 2 60), (60, i_iload 1 61), (64, i_iload 1 65), (68, i_ic_le 73 71), (71, i_iload 3 72), (72, i_istore 2 73), (73, i_iinc 3 1 76), (76, i_goto 24), (79, i_iload 2 80)]
set_option maxRecDepth 100000 in
theorem okX9_richest : gOk YX9_richest tX9_richest := ok_c (sn_aload_n (show decode cX9_richest 0 = .ok (.aload_n 0, 1) by decide +kernel) rfl) <|
  ok_c (sn_iconst (v := 0) (show decode cX9_richest 1 = .ok (.iconst 0, 1) by decide +kernel) (by decide +kernel)) <|
  ok_c (sn_putI ck_9 (by decide) rfl rfl (show decode cX9_richest 2 = .ok (.putfield 77, 3) by decide +kernel) wd_5_217) <|
  ok_c (sn_aload_n (show decode cX9_richest 5 = .ok (.aload_n 0, 1) by decide +kernel) rfl) <|
  ok_c (sn_iload_n (show decode cX9_richest 6 = .ok (.iload_n 1, 1) by decide +kernel) rfl) <|
  ok_c (sn_if_ne (show decode cX9_richest 10 = .ok (.ifCond .ne 6, 3) by decide +kernel) (by decide)) <|
  ok_c (sn_bipush (v := (-2)) (show decode cX9_richest 13 = .ok (.bipush (-2), 2) by decide +kernel) (by decide +kernel)) <|
  ok_c (sn_aload_n (show decode cX9_richest 16 = .ok (.aload_n 0, 1) by decide +kernel) rfl) <|
  ok_c (sn_iconst (v := (-1)) (show decode cX9_richest 20 = .ok (.iconst (-1), 1) by decide +kernel) (by decide +kernel)) <|
  ok_c (sn_istore_n (show decode cX9_richest 21 = .ok (.istore_n 2, 1) by decide +kernel) rfl (by decide)) <|
  ok_c (sn_iconst (v := 0) (show decode cX9_richest 22 = .ok (.iconst 0, 1) by decide +kernel) (by decide +kernel)) <|
  ok_c (sn_istore_n (show decode cX9_richest 23 = .ok (.istore_n 3, 1) by decide +kernel) rfl (by decide)) <|
  ok_c (sn_iload_n (show decode cX9_richest 24 = .ok (.iload_n 3, 1) by decide +kernel) rfl) <|
  ok_c (sn_aload_n (show decode cX9_richest 25 = .ok (.aload_n 0, 1) by decide +kernel) rfl) <|
  ok_c (sn_ic_ge (show decode cX9_richest 29 = .ok (.if_icmp .ge 50, 3) by decide +kernel) (by decide)) <|
  ok_c (sn_aload_n (show decode cX9_richest 32 = .ok (.aload_n 0, 1) by decide +kernel) rfl) <|
  ok_c (sn_iload_n (show decode cX9_richest 33 = .ok (.iload_n 3, 1) by decide +kernel) rfl) <|
  ok_c (sn_iload_n (show decode cX9_richest 34 = .ok (.iload_n 1, 1) by decide +kernel) rfl) <|
  ok_c (sn_if_ne (show decode cX9_richest 38 = .ok (.ifCond .ne 35, 3) by decide +kernel) (by decide)) <|
  ok_c (sn_iload_n (show decode cX9_richest 41 = .ok (.iload_n 2, 1) by decide +kernel) rfl) <|
  ok_c (sn_iconst (v := (-1)) (show decode cX9_richest 42 = .ok (.iconst (-1), 1) by decide +kernel) (by decide +kernel)) <|
  ok_c (sn_ic_eq (show decode cX9_richest 43 = .ok (.if_icmp .eq 28, 3) by decide +kernel) (by decide)) <|
  ok_c (sn_aload_n (show decode cX9_richest 46 = .ok (.aload_n 0, 1) by decide +kernel) rfl) <|
  ok_c (sn_aload_n (show decode cX9_richest 47 = .ok (.aload_n 0, 1) by decide +kernel) rfl) <|
  ok_c (sn_iload_n (show decode cX9_richest 48 = .ok (.iload_n 3, 1) by decide +kernel) rfl) <|
  ok_c (sn_iload_n (show decode cX9_richest 49 = .ok (.iload_n 1, 1) by decide +kernel) rfl) <|
  ok_c (sn_iload_n (show decode cX9_richest 53 = .ok (.iload_n 1, 1) by decide +kernel) rfl) <|
  ok_c (sn_aload_n (show decode cX9_richest 57 = .ok (.aload_n 0, 1) by decide +kernel) rfl) <|
  ok_c (sn_aload_n (show decode cX9_richest 58 = .ok (.aload_n 0, 1) by decide +kernel) rfl) <|
  ok_c (sn_iload_n (show decode cX9_richest 59 = .ok (.iload_n 2, 1) by decide +kernel) rfl) <|
  ok_c (sn_iload_n (show decode cX9_richest 60 = .ok (.iload_n 1, 1) by decide +kernel) rfl) <|
  ok_c (sn_iload_n (show decode cX9_richest 64 = .ok (.iload_n 1, 1) by decide +kernel) rfl) <|
  ok_c (sn_ic_le (show decode cX9_richest 68 = .ok (.if_icmp .le 5, 3) by decide +kernel) (by decide)) <|
  ok_c (sn_iload_n (show decode cX9_richest 71 = .ok (.iload_n 3, 1) by decide +kernel) rfl) <|
  ok_c (sn_istore_n (show decode cX9_richest 72 = .ok (.istore_n 2, 1) by decide +kernel) rfl (by decide)) <|
  ok_c (sn_iinc (show decode cX9_richest 73 = .ok (.iinc 3 1, 3) by decide +kernel) (by decide) (by decide +kernel)) <|
  ok_c (sn_goto (show decode cX9_richest 76 = .ok (.goto (-52), 3) by decide +kernel) (by decide)) <|
  ok_c (sn_iload_n (show decode cX9_richest 79 = .ok (.iload_n 2, 1) by decide +kernel) rfl) <|
  ok_n
def uX9_richest : gCT := [(7, YX9_isYear, 2, some 9), (17, YX9_laysNow, 1, some 9), (26, YX9_people, 1, some 9), (35, YX9_isOut, 3, some 9), (50, YX9_firmOf, 3, some 9), (54, YX9_fundsOf, 3, some 9), (61, YX9_firmOf, 3, some 9), (65, YX9_fundsOf, 3, some 9)]
set_option maxRecDepth 100000 in
theorem ocX9_richest : gOkC YX9_richest uX9_richest := oc_c (gEdge_V cal_X9_isYear ck_9 rfl (show decode cX9_richest 7 = .ok (.invokevirtual 256, 3) by decide +kernel) wd_7_79 wd_7_81 wp_5_10) <|
  oc_c (gEdge_V cal_X9_laysNow ck_9 rfl (show decode cX9_richest 17 = .ok (.invokevirtual 354, 3) by decide +kernel) wd_7_87 wd_7_89 wp_5_12) <|
  oc_c (gEdge_V cal_X9_people ck_9 rfl (show decode cX9_richest 26 = .ok (.invokevirtual 244, 3) by decide +kernel) wd_7_50 wd_7_52 wp_5_6) <|
  oc_c (gEdge_V cal_X9_isOut ck_9 rfl (show decode cX9_richest 35 = .ok (.invokevirtual 292, 3) by decide +kernel) wd_7_130 wd_7_132 wp_6_6) <|
  oc_c (gEdge_V cal_X9_firmOf ck_9 rfl (show decode cX9_richest 50 = .ok (.invokevirtual 311, 3) by decide +kernel) wd_7_134 wd_7_136 wp_6_7) <|
  oc_c (gEdge_V cal_X9_fundsOf ck_9 rfl (show decode cX9_richest 54 = .ok (.invokevirtual 314, 3) by decide +kernel) wd_7_138 wd_7_140 wp_6_8) <|
  oc_c (gEdge_V cal_X9_firmOf ck_9 rfl (show decode cX9_richest 61 = .ok (.invokevirtual 311, 3) by decide +kernel) wd_7_134 wd_7_136 wp_6_7) <|
  oc_c (gEdge_V cal_X9_fundsOf ck_9 rfl (show decode cX9_richest 65 = .ok (.invokevirtual 314, 3) by decide +kernel) wd_7_138 wd_7_140 wp_6_8) <|
  oc_n
theorem reX9_richest : ∀ pc ∈ [15, 80], decode cX9_richest pc = .ok (.ireturn, 1) := by decide +kernel
def tX9_parts : List (Nat × gStp) := [(0, i_aload 0 1), (1, i_push (.int 0) 2), (2, i_putI 9 0 5), (5, i_aload 0 6), (6, i_iload 1 7), (10, i_if_ne 16 13), (13, i_push (.int (-2)) 15), (16, i_aload 0 17), (20, i_push (.int 0) 21), (21, i_istore 2 22), (22, i_iload 2 23), (23, i_aload 0 24), (27, i_ic_ge 47 30), (30, i_aload 0 31), (31, i_iload 1 32), (32, i_iload 2 33), (36, i_if_ne 41 39), (39, i_iload 2 40), (41, i_iinc 2 1 44), (44, i_goto 22), (47, i_push (.int (-1)) 48)]
set_option maxRecDepth 100000 in
theorem okX9_parts : gOk YX9_parts tX9_parts := ok_c (sn_aload_n (show decode cX9_parts 0 = .ok (.aload_n 0, 1) by decide +kernel) rfl) <|
  ok_c (sn_iconst (v := 0) (show decode cX9_parts 1 = .ok (.iconst 0, 1) by decide +kernel) (by decide +kernel)) <|
  ok_c (sn_putI ck_9 (by decide) rfl rfl (show decode cX9_parts 2 = .ok (.putfield 77, 3) by decide +kernel) wd_5_217) <|
  ok_c (sn_aload_n (show decode cX9_parts 5 = .ok (.aload_n 0, 1) by decide +kernel) rfl) <|
  ok_c (sn_iload_n (show decode cX9_parts 6 = .ok (.iload_n 1, 1) by decide +kernel) rfl) <|
  ok_c (sn_if_ne (show decode cX9_parts 10 = .ok (.ifCond .ne 6, 3) by decide +kernel) (by decide)) <|
  ok_c (sn_bipush (v := (-2)) (show decode cX9_parts 13 = .ok (.bipush (-2), 2) by decide +kernel) (by decide +kernel)) <|
  ok_c (sn_aload_n (show decode cX9_parts 16 = .ok (.aload_n 0, 1) by decide +kernel) rfl) <|
  ok_c (sn_iconst (v := 0) (show decode cX9_parts 20 = .ok (.iconst 0, 1) by decide +kernel) (by decide +kernel)) <|
  ok_c (sn_istore_n (show decode cX9_parts 21 = .ok (.istore_n 2, 1) by decide +kernel) rfl (by decide)) <|
  ok_c (sn_iload_n (show decode cX9_parts 22 = .ok (.iload_n 2, 1) by decide +kernel) rfl) <|
  ok_c (sn_aload_n (show decode cX9_parts 23 = .ok (.aload_n 0, 1) by decide +kernel) rfl) <|
  ok_c (sn_ic_ge (show decode cX9_parts 27 = .ok (.if_icmp .ge 20, 3) by decide +kernel) (by decide)) <|
  ok_c (sn_aload_n (show decode cX9_parts 30 = .ok (.aload_n 0, 1) by decide +kernel) rfl) <|
  ok_c (sn_iload_n (show decode cX9_parts 31 = .ok (.iload_n 1, 1) by decide +kernel) rfl) <|
  ok_c (sn_iload_n (show decode cX9_parts 32 = .ok (.iload_n 2, 1) by decide +kernel) rfl) <|
  ok_c (sn_if_ne (show decode cX9_parts 36 = .ok (.ifCond .ne 5, 3) by decide +kernel) (by decide)) <|
  ok_c (sn_iload_n (show decode cX9_parts 39 = .ok (.iload_n 2, 1) by decide +kernel) rfl) <|
  ok_c (sn_iinc (show decode cX9_parts 41 = .ok (.iinc 2 1, 3) by decide +kernel) (by decide) (by decide +kernel)) <|
  ok_c (sn_goto (show decode cX9_parts 44 = .ok (.goto (-22), 3) by decide +kernel) (by decide)) <|
  ok_c (sn_iconst (v := (-1)) (show decode cX9_parts 47 = .ok (.iconst (-1), 1) by decide +kernel) (by decide +kernel)) <|
  ok_n
def uX9_parts : gCT := [(7, YX9_isJoin, 2, some 9), (17, YX9_laysNow, 1, some 9), (24, YX9_years, 1, some 9), (33, YX9_isToldThen, 3, some 9)]
set_option maxRecDepth 100000 in
theorem ocX9_parts : gOkC YX9_parts uX9_parts := oc_c (gEdge_V cal_X9_isJoin ck_9 rfl (show decode cX9_parts 7 = .ok (.invokevirtual 348, 3) by decide +kernel) wd_7_59 wd_7_61 wp_5_7) <|
  oc_c (gEdge_V cal_X9_laysNow ck_9 rfl (show decode cX9_parts 17 = .ok (.invokevirtual 354, 3) by decide +kernel) wd_7_87 wd_7_89 wp_5_12) <|
  oc_c (gEdge_V cal_X9_years ck_9 rfl (show decode cX9_parts 24 = .ok (.invokevirtual 253, 3) by decide +kernel) wd_7_83 wd_7_85 wp_5_11) <|
  oc_c (gEdge_V cal_X9_isToldThen ck_9 rfl (show decode cX9_parts 33 = .ok (.invokevirtual 357, 3) by decide +kernel) wd_7_150 wd_7_152 wp_6_11) <|
  oc_n
theorem reX9_parts : ∀ pc ∈ [15, 40, 48], decode cX9_parts pc = .ok (.ireturn, 1) := by decide +kernel
def tX9_merger : List (Nat × gStp) := [(0, i_aload 0 1), (1, i_push (.int 0) 2), (2, i_putI 9 0 5), (5, i_aload 0 6), (9, i_if_ne 15 12), (12, i_push (.int (-2)) 14), (15, i_aload 0 16), (19, i_push (.int 0) 20), (20, i_istore 1 21), (21, i_iload 1 22), (22, i_aload 0 23), (26, i_ic_ge 61 29), (29, i_aload 0 30), (33, i_if_le 55 36), (36, i_aload 0 37), (37, i_push (.int 0) 38), (38, i_iload 1 39), (42, i_push (.int 1) 43), (43, i_aload 0 44), (47, i_ii (fun x y => x <<< (y &&& 31)) 48), (48, i_push (.int 1) 49), (49, i_ii (fun x y => x - y) 50), (50, i_ic_ne 55 53), (53, i_iload 1 54), (55, i_iinc 1 1 58), (58, i_goto 21), (61, i_push (.int (-1)) 62)]
set_option maxRecDepth 100000 in
theorem okX9_merger : gOk YX9_merger tX9_merger := ok_c (sn_aload_n (show decode cX9_merger 0 = .ok (.aload_n 0, 1) by decide +kernel) rfl) <|
  ok_c (sn_iconst (v := 0) (show decode cX9_merger 1 = .ok (.iconst 0, 1) by decide +kernel) (by decide +kernel)) <|
  ok_c (sn_putI ck_9 (by decide) rfl rfl (show decode cX9_merger 2 = .ok (.putfield 77, 3) by decide +kernel) wd_5_217) <|
  ok_c (sn_aload_n (show decode cX9_merger 5 = .ok (.aload_n 0, 1) by decide +kernel) rfl) <|
  ok_c (sn_if_ne (show decode cX9_merger 9 = .ok (.ifCond .ne 6, 3) by decide +kernel) (by decide)) <|
  ok_c (sn_bipush (v := (-2)) (show decode cX9_merger 12 = .ok (.bipush (-2), 2) by decide +kernel) (by decide +kernel)) <|
  ok_c (sn_aload_n (show decode cX9_merger 15 = .ok (.aload_n 0, 1) by decide +kernel) rfl) <|
  ok_c (sn_iconst (v := 0) (show decode cX9_merger 19 = .ok (.iconst 0, 1) by decide +kernel) (by decide +kernel)) <|
  ok_c (sn_istore_n (show decode cX9_merger 20 = .ok (.istore_n 1, 1) by decide +kernel) rfl (by decide)) <|
  ok_c (sn_iload_n (show decode cX9_merger 21 = .ok (.iload_n 1, 1) by decide +kernel) rfl) <|
  ok_c (sn_aload_n (show decode cX9_merger 22 = .ok (.aload_n 0, 1) by decide +kernel) rfl) <|
  ok_c (sn_ic_ge (show decode cX9_merger 26 = .ok (.if_icmp .ge 35, 3) by decide +kernel) (by decide)) <|
  ok_c (sn_aload_n (show decode cX9_merger 29 = .ok (.aload_n 0, 1) by decide +kernel) rfl) <|
  ok_c (sn_if_le (show decode cX9_merger 33 = .ok (.ifCond .le 22, 3) by decide +kernel) (by decide)) <|
  ok_c (sn_aload_n (show decode cX9_merger 36 = .ok (.aload_n 0, 1) by decide +kernel) rfl) <|
  ok_c (sn_iconst (v := 0) (show decode cX9_merger 37 = .ok (.iconst 0, 1) by decide +kernel) (by decide +kernel)) <|
  ok_c (sn_iload_n (show decode cX9_merger 38 = .ok (.iload_n 1, 1) by decide +kernel) rfl) <|
  ok_c (sn_iconst (v := 1) (show decode cX9_merger 42 = .ok (.iconst 1, 1) by decide +kernel) (by decide +kernel)) <|
  ok_c (sn_aload_n (show decode cX9_merger 43 = .ok (.aload_n 0, 1) by decide +kernel) rfl) <|
  ok_c (sn_ishl (show decode cX9_merger 47 = .ok (.ishl, 1) by decide +kernel)) <|
  ok_c (sn_iconst (v := 1) (show decode cX9_merger 48 = .ok (.iconst 1, 1) by decide +kernel) (by decide +kernel)) <|
  ok_c (sn_isub (show decode cX9_merger 49 = .ok (.isub, 1) by decide +kernel)) <|
  ok_c (sn_ic_ne (show decode cX9_merger 50 = .ok (.if_icmp .ne 5, 3) by decide +kernel) (by decide)) <|
  ok_c (sn_iload_n (show decode cX9_merger 53 = .ok (.iload_n 1, 1) by decide +kernel) rfl) <|
  ok_c (sn_iinc (show decode cX9_merger 55 = .ok (.iinc 1 1, 3) by decide +kernel) (by decide) (by decide +kernel)) <|
  ok_c (sn_goto (show decode cX9_merger 58 = .ok (.goto (-37), 3) by decide +kernel) (by decide)) <|
  ok_c (sn_iconst (v := (-1)) (show decode cX9_merger 61 = .ok (.iconst (-1), 1) by decide +kernel) (by decide +kernel)) <|
  ok_n
def uX9_merger : gCT := [(6, YX9_isCity, 1, some 9), (16, YX9_laysNow, 1, some 9), (23, YX9_years, 1, some 9), (30, YX9_people, 1, some 9), (39, YX9_firmOf, 3, some 9), (44, YX9_people, 1, some 9)]
set_option maxRecDepth 100000 in
theorem ocX9_merger : gOkC YX9_merger uX9_merger := oc_c (gEdge_V cal_X9_isCity ck_9 rfl (show decode cX9_merger 6 = .ok (.invokevirtual 378, 3) by decide +kernel) wd_8_17 wd_8_19 wp_7_5) <|
  oc_c (gEdge_V cal_X9_laysNow ck_9 rfl (show decode cX9_merger 16 = .ok (.invokevirtual 354, 3) by decide +kernel) wd_7_87 wd_7_89 wp_5_12) <|
  oc_c (gEdge_V cal_X9_years ck_9 rfl (show decode cX9_merger 23 = .ok (.invokevirtual 253, 3) by decide +kernel) wd_7_83 wd_7_85 wp_5_11) <|
  oc_c (gEdge_V cal_X9_people ck_9 rfl (show decode cX9_merger 30 = .ok (.invokevirtual 244, 3) by decide +kernel) wd_7_50 wd_7_52 wp_5_6) <|
  oc_c (gEdge_V cal_X9_firmOf ck_9 rfl (show decode cX9_merger 39 = .ok (.invokevirtual 311, 3) by decide +kernel) wd_7_134 wd_7_136 wp_6_7) <|
  oc_c (gEdge_V cal_X9_people ck_9 rfl (show decode cX9_merger 44 = .ok (.invokevirtual 244, 3) by decide +kernel) wd_7_50 wd_7_52 wp_5_6) <|
  oc_n
theorem reX9_merger : ∀ pc ∈ [14, 54, 62], decode cX9_merger pc = .ok (.ireturn, 1) := by decide +kernel
def tX9_apart : List (Nat × gStp) := [(0, i_aload 0 1), (1, i_push (.int 0) 2), (2, i_putI 9 0 5), (5, i_aload 0 6), (6, i_iload 1 7), (7, i_iload 2 8), (11, i_if_ne 17 14), (14, i_push (.int (-2)) 16), (17, i_aload 0 18), (21, i_push (.int 0) 22), (22, i_istore 3 23), (23, i_iload 3 24), (24, i_aload 0 25), (28, i_ic_ge 52 31), (31, i_aload 0 32), (32, i_iload 1 33), (33, i_iload 3 34), (37, i_iload 2 38), (41, i_if_ne 46 44), (44, i_iload 3 45), (46, i_iinc 3 1 49), (49, i_goto 23), (52, i_push (.int (-1)) 53)]
set_option maxRecDepth 100000 in
theorem okX9_apart : gOk YX9_apart tX9_apart := ok_c (sn_aload_n (show decode cX9_apart 0 = .ok (.aload_n 0, 1) by decide +kernel) rfl) <|
  ok_c (sn_iconst (v := 0) (show decode cX9_apart 1 = .ok (.iconst 0, 1) by decide +kernel) (by decide +kernel)) <|
  ok_c (sn_putI ck_9 (by decide) rfl rfl (show decode cX9_apart 2 = .ok (.putfield 77, 3) by decide +kernel) wd_5_217) <|
  ok_c (sn_aload_n (show decode cX9_apart 5 = .ok (.aload_n 0, 1) by decide +kernel) rfl) <|
  ok_c (sn_iload_n (show decode cX9_apart 6 = .ok (.iload_n 1, 1) by decide +kernel) rfl) <|
  ok_c (sn_iload_n (show decode cX9_apart 7 = .ok (.iload_n 2, 1) by decide +kernel) rfl) <|
  ok_c (sn_if_ne (show decode cX9_apart 11 = .ok (.ifCond .ne 6, 3) by decide +kernel) (by decide)) <|
  ok_c (sn_bipush (v := (-2)) (show decode cX9_apart 14 = .ok (.bipush (-2), 2) by decide +kernel) (by decide +kernel)) <|
  ok_c (sn_aload_n (show decode cX9_apart 17 = .ok (.aload_n 0, 1) by decide +kernel) rfl) <|
  ok_c (sn_iconst (v := 0) (show decode cX9_apart 21 = .ok (.iconst 0, 1) by decide +kernel) (by decide +kernel)) <|
  ok_c (sn_istore_n (show decode cX9_apart 22 = .ok (.istore_n 3, 1) by decide +kernel) rfl (by decide)) <|
  ok_c (sn_iload_n (show decode cX9_apart 23 = .ok (.iload_n 3, 1) by decide +kernel) rfl) <|
  ok_c (sn_aload_n (show decode cX9_apart 24 = .ok (.aload_n 0, 1) by decide +kernel) rfl) <|
  ok_c (sn_ic_ge (show decode cX9_apart 28 = .ok (.if_icmp .ge 24, 3) by decide +kernel) (by decide)) <|
  ok_c (sn_aload_n (show decode cX9_apart 31 = .ok (.aload_n 0, 1) by decide +kernel) rfl) <|
  ok_c (sn_iload_n (show decode cX9_apart 32 = .ok (.iload_n 1, 1) by decide +kernel) rfl) <|
  ok_c (sn_iload_n (show decode cX9_apart 33 = .ok (.iload_n 3, 1) by decide +kernel) rfl) <|
  ok_c (sn_iload_n (show decode cX9_apart 37 = .ok (.iload_n 2, 1) by decide +kernel) rfl) <|
  ok_c (sn_if_ne (show decode cX9_apart 41 = .ok (.ifCond .ne 5, 3) by decide +kernel) (by decide)) <|
  ok_c (sn_iload_n (show decode cX9_apart 44 = .ok (.iload_n 3, 1) by decide +kernel) rfl) <|
  ok_c (sn_iinc (show decode cX9_apart 46 = .ok (.iinc 3 1, 3) by decide +kernel) (by decide) (by decide +kernel)) <|
  ok_c (sn_goto (show decode cX9_apart 49 = .ok (.goto (-26), 3) by decide +kernel) (by decide)) <|
  ok_c (sn_iconst (v := (-1)) (show decode cX9_apart 52 = .ok (.iconst (-1), 1) by decide +kernel) (by decide +kernel)) <|
  ok_n
def uX9_apart : gCT := [(8, YX9_areTwo, 3, some 9), (18, YX9_laysNow, 1, some 9), (25, YX9_years, 1, some 9), (34, YX9_firmOf, 3, some 9), (38, YX9_isBit, 2, none)]
set_option maxRecDepth 100000 in
theorem ocX9_apart : gOkC YX9_apart uX9_apart := oc_c (gEdge_V cal_X9_areTwo ck_9 rfl (show decode cX9_apart 8 = .ok (.invokevirtual 360, 3) by decide +kernel) wd_7_158 wd_7_160 wp_6_12) <|
  oc_c (gEdge_V cal_X9_laysNow ck_9 rfl (show decode cX9_apart 18 = .ok (.invokevirtual 354, 3) by decide +kernel) wd_7_87 wd_7_89 wp_5_12) <|
  oc_c (gEdge_V cal_X9_years ck_9 rfl (show decode cX9_apart 25 = .ok (.invokevirtual 253, 3) by decide +kernel) wd_7_83 wd_7_85 wp_5_11) <|
  oc_c (gEdge_V cal_X9_firmOf ck_9 rfl (show decode cX9_apart 34 = .ok (.invokevirtual 311, 3) by decide +kernel) wd_7_134 wd_7_136 wp_6_7) <|
  oc_c (gEdge_S cal_X9_isBit (show decode cX9_apart 38 = .ok (.invokestatic 281, 3) by decide +kernel) wd_7_115 wd_7_116) <|
  oc_n
theorem reX9_apart : ∀ pc ∈ [16, 45, 53], decode cX9_apart pc = .ok (.ireturn, 1) := by decide +kernel
def tX9_singles : List (Nat × gStp) := [(0, i_aload 0 1), (1, i_push (.int 0) 2), (2, i_putI 9 0 5), (5, i_aload 0 6), (6, i_iload 1 7), (10, i_if_ne 16 13), (13, i_push (.int (-2)) 15), (16, i_aload 0 17), (20, i_push (.int 0) 21), (21, i_istore 2 22), (22, i_push (.int 0) 23), (23, i_istore 3 24), (24, i_iload 3 25), (25, i_aload 0 26), (29, i_ic_ge 60 32), (32, i_iload 2 33), (33, i_aload 0 34), (34, i_iload 3 35), (35, i_iload 1 36), (39, i_push (.int 1) 40), (40, i_iload 3 41), (41, i_ii (fun x y => x <<< (y &&& 31)) 42), (42, i_ic_ne 51 45), (45, i_push (.int 1) 46), (46, i_iload 3 47), (47, i_ii (fun x y => x <<< (y &&& 31)) 48), (48, i_goto 52), (51, i_push (.int 0) 52), (52, i_ii (fun x y => x ||| y) 53), (53, i_istore 2 54), (54, i_iinc 3 1 57), (57, i_goto 24), (60, i_iload 2 61)]
set_option maxRecDepth 100000 in
theorem okX9_singles : gOk YX9_singles tX9_singles := ok_c (sn_aload_n (show decode cX9_singles 0 = .ok (.aload_n 0, 1) by decide +kernel) rfl) <|
  ok_c (sn_iconst (v := 0) (show decode cX9_singles 1 = .ok (.iconst 0, 1) by decide +kernel) (by decide +kernel)) <|
  ok_c (sn_putI ck_9 (by decide) rfl rfl (show decode cX9_singles 2 = .ok (.putfield 77, 3) by decide +kernel) wd_5_217) <|
  ok_c (sn_aload_n (show decode cX9_singles 5 = .ok (.aload_n 0, 1) by decide +kernel) rfl) <|
  ok_c (sn_iload_n (show decode cX9_singles 6 = .ok (.iload_n 1, 1) by decide +kernel) rfl) <|
  ok_c (sn_if_ne (show decode cX9_singles 10 = .ok (.ifCond .ne 6, 3) by decide +kernel) (by decide)) <|
  ok_c (sn_bipush (v := (-2)) (show decode cX9_singles 13 = .ok (.bipush (-2), 2) by decide +kernel) (by decide +kernel)) <|
  ok_c (sn_aload_n (show decode cX9_singles 16 = .ok (.aload_n 0, 1) by decide +kernel) rfl) <|
  ok_c (sn_iconst (v := 0) (show decode cX9_singles 20 = .ok (.iconst 0, 1) by decide +kernel) (by decide +kernel)) <|
  ok_c (sn_istore_n (show decode cX9_singles 21 = .ok (.istore_n 2, 1) by decide +kernel) rfl (by decide)) <|
  ok_c (sn_iconst (v := 0) (show decode cX9_singles 22 = .ok (.iconst 0, 1) by decide +kernel) (by decide +kernel)) <|
  ok_c (sn_istore_n (show decode cX9_singles 23 = .ok (.istore_n 3, 1) by decide +kernel) rfl (by decide)) <|
  ok_c (sn_iload_n (show decode cX9_singles 24 = .ok (.iload_n 3, 1) by decide +kernel) rfl) <|
  ok_c (sn_aload_n (show decode cX9_singles 25 = .ok (.aload_n 0, 1) by decide +kernel) rfl) <|
  ok_c (sn_ic_ge (show decode cX9_singles 29 = .ok (.if_icmp .ge 31, 3) by decide +kernel) (by decide)) <|
  ok_c (sn_iload_n (show decode cX9_singles 32 = .ok (.iload_n 2, 1) by decide +kernel) rfl) <|
  ok_c (sn_aload_n (show decode cX9_singles 33 = .ok (.aload_n 0, 1) by decide +kernel) rfl) <|
  ok_c (sn_iload_n (show decode cX9_singles 34 = .ok (.iload_n 3, 1) by decide +kernel) rfl) <|
  ok_c (sn_iload_n (show decode cX9_singles 35 = .ok (.iload_n 1, 1) by decide +kernel) rfl) <|
  ok_c (sn_iconst (v := 1) (show decode cX9_singles 39 = .ok (.iconst 1, 1) by decide +kernel) (by decide +kernel)) <|
  ok_c (sn_iload_n (show decode cX9_singles 40 = .ok (.iload_n 3, 1) by decide +kernel) rfl) <|
  ok_c (sn_ishl (show decode cX9_singles 41 = .ok (.ishl, 1) by decide +kernel)) <|
  ok_c (sn_ic_ne (show decode cX9_singles 42 = .ok (.if_icmp .ne 9, 3) by decide +kernel) (by decide)) <|
  ok_c (sn_iconst (v := 1) (show decode cX9_singles 45 = .ok (.iconst 1, 1) by decide +kernel) (by decide +kernel)) <|
  ok_c (sn_iload_n (show decode cX9_singles 46 = .ok (.iload_n 3, 1) by decide +kernel) rfl) <|
  ok_c (sn_ishl (show decode cX9_singles 47 = .ok (.ishl, 1) by decide +kernel)) <|
  ok_c (sn_goto (show decode cX9_singles 48 = .ok (.goto 4, 3) by decide +kernel) (by decide)) <|
  ok_c (sn_iconst (v := 0) (show decode cX9_singles 51 = .ok (.iconst 0, 1) by decide +kernel) (by decide +kernel)) <|
  ok_c (sn_ior (show decode cX9_singles 52 = .ok (.ior, 1) by decide +kernel)) <|
  ok_c (sn_istore_n (show decode cX9_singles 53 = .ok (.istore_n 2, 1) by decide +kernel) rfl (by decide)) <|
  ok_c (sn_iinc (show decode cX9_singles 54 = .ok (.iinc 3 1, 3) by decide +kernel) (by decide) (by decide +kernel)) <|
  ok_c (sn_goto (show decode cX9_singles 57 = .ok (.goto (-33), 3) by decide +kernel) (by decide)) <|
  ok_c (sn_iload_n (show decode cX9_singles 60 = .ok (.iload_n 2, 1) by decide +kernel) rfl) <|
  ok_n
def uX9_singles : gCT := [(7, YX9_isYear, 2, some 9), (17, YX9_laysNow, 1, some 9), (26, YX9_people, 1, some 9), (36, YX9_firmOf, 3, some 9)]
set_option maxRecDepth 100000 in
theorem ocX9_singles : gOkC YX9_singles uX9_singles := oc_c (gEdge_V cal_X9_isYear ck_9 rfl (show decode cX9_singles 7 = .ok (.invokevirtual 256, 3) by decide +kernel) wd_7_79 wd_7_81 wp_5_10) <|
  oc_c (gEdge_V cal_X9_laysNow ck_9 rfl (show decode cX9_singles 17 = .ok (.invokevirtual 354, 3) by decide +kernel) wd_7_87 wd_7_89 wp_5_12) <|
  oc_c (gEdge_V cal_X9_people ck_9 rfl (show decode cX9_singles 26 = .ok (.invokevirtual 244, 3) by decide +kernel) wd_7_50 wd_7_52 wp_5_6) <|
  oc_c (gEdge_V cal_X9_firmOf ck_9 rfl (show decode cX9_singles 36 = .ok (.invokevirtual 311, 3) by decide +kernel) wd_7_134 wd_7_136 wp_6_7) <|
  oc_n
theorem reX9_singles : ∀ pc ∈ [15, 61], decode cX9_singles pc = .ok (.ireturn, 1) := by decide +kernel
def tX9_total : List (Nat × gStp) := [(0, i_aload 0 1), (1, i_push (.int 0) 2), (2, i_putI 9 0 5), (5, i_aload 0 6), (6, i_iload 1 7), (10, i_if_ne 17 13), (13, i_push (.int (-10000)) 16), (17, i_aload 0 18), (21, i_aload 0 22), (22, i_push (.int 1) 23), (23, i_aload 0 24), (27, i_ii (fun x y => x <<< (y &&& 31)) 28), (28, i_push (.int 1) 29), (29, i_ii (fun x y => x - y) 30), (30, i_aload 0 31), (31, i_iload 1 32), (35, i_push (.int (-1)) 36), (36, i_ii (fun x y => x ^^^ y) 37), (37, i_ii (fun x y => x &&& y) 38), (38, i_iload 1 39)]
set_option maxRecDepth 100000 in
theorem okX9_total : gOk YX9_total tX9_total := ok_c (sn_aload_n (show decode cX9_total 0 = .ok (.aload_n 0, 1) by decide +kernel) rfl) <|
  ok_c (sn_iconst (v := 0) (show decode cX9_total 1 = .ok (.iconst 0, 1) by decide +kernel) (by decide +kernel)) <|
  ok_c (sn_putI ck_9 (by decide) rfl rfl (show decode cX9_total 2 = .ok (.putfield 77, 3) by decide +kernel) wd_5_217) <|
  ok_c (sn_aload_n (show decode cX9_total 5 = .ok (.aload_n 0, 1) by decide +kernel) rfl) <|
  ok_c (sn_iload_n (show decode cX9_total 6 = .ok (.iload_n 1, 1) by decide +kernel) rfl) <|
  ok_c (sn_if_ne (show decode cX9_total 10 = .ok (.ifCond .ne 7, 3) by decide +kernel) (by decide)) <|
  ok_c (sn_sipush (v := (-10000)) (show decode cX9_total 13 = .ok (.sipush (-10000), 3) by decide +kernel) (by decide +kernel)) <|
  ok_c (sn_aload_n (show decode cX9_total 17 = .ok (.aload_n 0, 1) by decide +kernel) rfl) <|
  ok_c (sn_aload_n (show decode cX9_total 21 = .ok (.aload_n 0, 1) by decide +kernel) rfl) <|
  ok_c (sn_iconst (v := 1) (show decode cX9_total 22 = .ok (.iconst 1, 1) by decide +kernel) (by decide +kernel)) <|
  ok_c (sn_aload_n (show decode cX9_total 23 = .ok (.aload_n 0, 1) by decide +kernel) rfl) <|
  ok_c (sn_ishl (show decode cX9_total 27 = .ok (.ishl, 1) by decide +kernel)) <|
  ok_c (sn_iconst (v := 1) (show decode cX9_total 28 = .ok (.iconst 1, 1) by decide +kernel) (by decide +kernel)) <|
  ok_c (sn_isub (show decode cX9_total 29 = .ok (.isub, 1) by decide +kernel)) <|
  ok_c (sn_aload_n (show decode cX9_total 30 = .ok (.aload_n 0, 1) by decide +kernel) rfl) <|
  ok_c (sn_iload_n (show decode cX9_total 31 = .ok (.iload_n 1, 1) by decide +kernel) rfl) <|
  ok_c (sn_iconst (v := (-1)) (show decode cX9_total 35 = .ok (.iconst (-1), 1) by decide +kernel) (by decide +kernel)) <|
  ok_c (sn_ixor (show decode cX9_total 36 = .ok (.ixor, 1) by decide +kernel)) <|
  ok_c (sn_iand (show decode cX9_total 37 = .ok (.iand, 1) by decide +kernel)) <|
  ok_c (sn_iload_n (show decode cX9_total 38 = .ok (.iload_n 1, 1) by decide +kernel) rfl) <|
  ok_n
def uX9_total : gCT := [(7, YX9_isYear, 2, some 9), (18, YX9_laysNow, 1, some 9), (24, YX9_people, 1, some 9), (32, YX9_outBits, 2, some 9), (39, YX9_fundsOf, 3, some 9)]
set_option maxRecDepth 100000 in
theorem ocX9_total : gOkC YX9_total uX9_total := oc_c (gEdge_V cal_X9_isYear ck_9 rfl (show decode cX9_total 7 = .ok (.invokevirtual 256, 3) by decide +kernel) wd_7_79 wd_7_81 wp_5_10) <|
  oc_c (gEdge_V cal_X9_laysNow ck_9 rfl (show decode cX9_total 18 = .ok (.invokevirtual 354, 3) by decide +kernel) wd_7_87 wd_7_89 wp_5_12) <|
  oc_c (gEdge_V cal_X9_people ck_9 rfl (show decode cX9_total 24 = .ok (.invokevirtual 244, 3) by decide +kernel) wd_7_50 wd_7_52 wp_5_6) <|
  oc_c (gEdge_V cal_X9_outBits ck_9 rfl (show decode cX9_total 32 = .ok (.invokevirtual 375, 3) by decide +kernel) wd_7_237 wd_7_239 wp_7_4) <|
  oc_c (gEdge_V cal_X9_fundsOf ck_9 rfl (show decode cX9_total 39 = .ok (.invokevirtual 314, 3) by decide +kernel) wd_7_138 wd_7_140 wp_6_8) <|
  oc_n
theorem reX9_total : ∀ pc ∈ [16, 42], decode cX9_total pc = .ok (.ireturn, 1) := by decide +kernel
def tX9_isThrough : List (Nat × gStp) := [(0, i_aload 0 1), (1, i_iload 1 2), (2, i_iload 1 3), (3, i_if_ne 10 6), (6, i_push (.int 0) 7), (7, i_goto 16), (10, i_iload 1 11), (14, i_push (.int 1) 15), (15, i_ii (fun x y => x - y) 16), (19, i_aload 0 20), (20, i_getC 9 151 23), (23, i_iload 2 24), (24, i_iald 25), (25, i_ic_gt 32 28), (28, i_push (.int 1) 29), (29, i_goto 33), (32, i_push (.int 0) 33)]
set_option maxRecDepth 100000 in
theorem okX9_isThrough : gOk YX9_isThrough tX9_isThrough := ok_c (sn_aload_n (show decode cX9_isThrough 0 = .ok (.aload_n 0, 1) by decide +kernel) rfl) <|
  ok_c (sn_iload_n (show decode cX9_isThrough 1 = .ok (.iload_n 1, 1) by decide +kernel) rfl) <|
  ok_c (sn_iload_n (show decode cX9_isThrough 2 = .ok (.iload_n 1, 1) by decide +kernel) rfl) <|
  ok_c (sn_if_ne (show decode cX9_isThrough 3 = .ok (.ifCond .ne 7, 3) by decide +kernel) (by decide)) <|
  ok_c (sn_iconst (v := 0) (show decode cX9_isThrough 6 = .ok (.iconst 0, 1) by decide +kernel) (by decide +kernel)) <|
  ok_c (sn_goto (show decode cX9_isThrough 7 = .ok (.goto 9, 3) by decide +kernel) (by decide)) <|
  ok_c (sn_iload_n (show decode cX9_isThrough 10 = .ok (.iload_n 1, 1) by decide +kernel) rfl) <|
  ok_c (sn_iconst (v := 1) (show decode cX9_isThrough 14 = .ok (.iconst 1, 1) by decide +kernel) (by decide +kernel)) <|
  ok_c (sn_isub (show decode cX9_isThrough 15 = .ok (.isub, 1) by decide +kernel)) <|
  ok_c (sn_aload_n (show decode cX9_isThrough 19 = .ok (.aload_n 0, 1) by decide +kernel) rfl) <|
  ok_c (sn_getC (j := 20) (fun _ _ => rfl) (sn_get ck_9 (by decide) (show decode cX9_isThrough 20 = .ok (.getfield 43, 3) by decide +kernel) wd_5_237)) <|
  ok_c (sn_iload_n (show decode cX9_isThrough 23 = .ok (.iload_n 2, 1) by decide +kernel) rfl) <|
  ok_c (sn_iald (show decode cX9_isThrough 24 = .ok (.iaload, 1) by decide +kernel)) <|
  ok_c (sn_ic_gt (show decode cX9_isThrough 25 = .ok (.if_icmp .gt 7, 3) by decide +kernel) (by decide)) <|
  ok_c (sn_iconst (v := 1) (show decode cX9_isThrough 28 = .ok (.iconst 1, 1) by decide +kernel) (by decide +kernel)) <|
  ok_c (sn_goto (show decode cX9_isThrough 29 = .ok (.goto 4, 3) by decide +kernel) (by decide)) <|
  ok_c (sn_iconst (v := 0) (show decode cX9_isThrough 32 = .ok (.iconst 0, 1) by decide +kernel) (by decide +kernel)) <|
  ok_n
def uX9_isThrough : gCT := [(11, YX9_sizeOf, 1, none), (16, YX9_wideOf, 3, some 9)]
set_option maxRecDepth 100000 in
theorem ocX9_isThrough : gOkC YX9_isThrough uX9_isThrough := oc_c (gEdge_S cal_X9_sizeOf (show decode cX9_isThrough 11 = .ok (.invokestatic 334, 3) by decide +kernel) wd_7_198 wd_7_199) <|
  oc_c (gEdge_V cal_X9_wideOf ck_9 rfl (show decode cX9_isThrough 16 = .ok (.invokevirtual 340, 3) by decide +kernel) wd_7_194 wd_7_196 wp_7_2) <|
  oc_n
theorem reX9_isThrough : ∀ pc ∈ [33], decode cX9_isThrough pc = .ok (.ireturn, 1) := by decide +kernel
def tX9_worthOf : List (Nat × gStp) := [(0, i_push (.int 0) 1), (1, i_istore 2 2), (2, i_push (.int 0) 3), (3, i_istore 3 4), (4, i_iload 3 5), (5, i_aload 0 6), (9, i_ic_ge 43 12), (12, i_iload 2 13), (13, i_iload 1 14), (14, i_iload 3 15), (18, i_if_eq 34 21), (21, i_aload 0 22), (22, i_getC 9 149 25), (25, i_push (.int 3) 26), (26, i_iload 3 27), (27, i_ii (fun x y => x * y) 28), (28, i_push (.int 1) 29), (29, i_ii (fun x y => x + y) 30), (30, i_iald 31), (31, i_goto 35), (34, i_push (.int 0) 35), (35, i_ii (fun x y => x + y) 36), (36, i_istore 2 37), (37, i_iinc 3 1 40), (40, i_goto 4), (43, i_iload 2 44)]
set_option maxRecDepth 100000 in
theorem okX9_worthOf : gOk YX9_worthOf tX9_worthOf := ok_c (sn_iconst (v := 0) (show decode cX9_worthOf 0 = .ok (.iconst 0, 1) by decide +kernel) (by decide +kernel)) <|
  ok_c (sn_istore_n (show decode cX9_worthOf 1 = .ok (.istore_n 2, 1) by decide +kernel) rfl (by decide)) <|
  ok_c (sn_iconst (v := 0) (show decode cX9_worthOf 2 = .ok (.iconst 0, 1) by decide +kernel) (by decide +kernel)) <|
  ok_c (sn_istore_n (show decode cX9_worthOf 3 = .ok (.istore_n 3, 1) by decide +kernel) rfl (by decide)) <|
  ok_c (sn_iload_n (show decode cX9_worthOf 4 = .ok (.iload_n 3, 1) by decide +kernel) rfl) <|
  ok_c (sn_aload_n (show decode cX9_worthOf 5 = .ok (.aload_n 0, 1) by decide +kernel) rfl) <|
  ok_c (sn_ic_ge (show decode cX9_worthOf 9 = .ok (.if_icmp .ge 34, 3) by decide +kernel) (by decide)) <|
  ok_c (sn_iload_n (show decode cX9_worthOf 12 = .ok (.iload_n 2, 1) by decide +kernel) rfl) <|
  ok_c (sn_iload_n (show decode cX9_worthOf 13 = .ok (.iload_n 1, 1) by decide +kernel) rfl) <|
  ok_c (sn_iload_n (show decode cX9_worthOf 14 = .ok (.iload_n 3, 1) by decide +kernel) rfl) <|
  ok_c (sn_if_eq (show decode cX9_worthOf 18 = .ok (.ifCond .eq 16, 3) by decide +kernel) (by decide)) <|
  ok_c (sn_aload_n (show decode cX9_worthOf 21 = .ok (.aload_n 0, 1) by decide +kernel) rfl) <|
  ok_c (sn_getC (j := 18) (fun _ _ => rfl) (sn_get ck_9 (by decide) (show decode cX9_worthOf 22 = .ok (.getfield 37, 3) by decide +kernel) wd_5_235)) <|
  ok_c (sn_iconst (v := 3) (show decode cX9_worthOf 25 = .ok (.iconst 3, 1) by decide +kernel) (by decide +kernel)) <|
  ok_c (sn_iload_n (show decode cX9_worthOf 26 = .ok (.iload_n 3, 1) by decide +kernel) rfl) <|
  ok_c (sn_imul (show decode cX9_worthOf 27 = .ok (.imul, 1) by decide +kernel)) <|
  ok_c (sn_iconst (v := 1) (show decode cX9_worthOf 28 = .ok (.iconst 1, 1) by decide +kernel) (by decide +kernel)) <|
  ok_c (sn_iadd (show decode cX9_worthOf 29 = .ok (.iadd, 1) by decide +kernel)) <|
  ok_c (sn_iald (show decode cX9_worthOf 30 = .ok (.iaload, 1) by decide +kernel)) <|
  ok_c (sn_goto (show decode cX9_worthOf 31 = .ok (.goto 4, 3) by decide +kernel) (by decide)) <|
  ok_c (sn_iconst (v := 0) (show decode cX9_worthOf 34 = .ok (.iconst 0, 1) by decide +kernel) (by decide +kernel)) <|
  ok_c (sn_iadd (show decode cX9_worthOf 35 = .ok (.iadd, 1) by decide +kernel)) <|
  ok_c (sn_istore_n (show decode cX9_worthOf 36 = .ok (.istore_n 2, 1) by decide +kernel) rfl (by decide)) <|
  ok_c (sn_iinc (show decode cX9_worthOf 37 = .ok (.iinc 3 1, 3) by decide +kernel) (by decide) (by decide +kernel)) <|
  ok_c (sn_goto (show decode cX9_worthOf 40 = .ok (.goto (-36), 3) by decide +kernel) (by decide)) <|
  ok_c (sn_iload_n (show decode cX9_worthOf 43 = .ok (.iload_n 2, 1) by decide +kernel) rfl) <|
  ok_n
def uX9_worthOf : gCT := [(6, YX9_people, 1, some 9), (15, YX9_isBit, 2, none)]
set_option maxRecDepth 100000 in
theorem ocX9_worthOf : gOkC YX9_worthOf uX9_worthOf := oc_c (gEdge_V cal_X9_people ck_9 rfl (show decode cX9_worthOf 6 = .ok (.invokevirtual 244, 3) by decide +kernel) wd_7_50 wd_7_52 wp_5_6) <|
  oc_c (gEdge_S cal_X9_isBit (show decode cX9_worthOf 15 = .ok (.invokestatic 281, 3) by decide +kernel) wd_7_115 wd_7_116) <|
  oc_n
theorem reX9_worthOf : ∀ pc ∈ [44], decode cX9_worthOf pc = .ok (.ireturn, 1) := by decide +kernel
def tX9_bestSet : List (Nat × gStp) := [(0, i_aload 0 1), (4, i_push (.int 0) 5), (5, i_istore 2 6), (6, i_push (.int 1) 7), (7, i_istore 3 8), (8, i_iload 3 9), (9, i_push (.int 1) 10), (10, i_aload 0 11), (14, i_ii (fun x y => x <<< (y &&& 31)) 15), (15, i_ic_ge 48 18), (18, i_aload 0 19), (19, i_iload 3 20), (20, i_iload 1 21), (24, i_if_eq 42 27), (27, i_aload 0 28), (28, i_iload 3 29), (32, i_aload 0 33), (33, i_iload 2 34), (37, i_ic_le 42 40), (40, i_iload 3 41), (41, i_istore 2 42), (42, i_iinc 3 1 45), (45, i_goto 8), (48, i_iload 2 49)]
set_option maxRecDepth 100000 in
theorem okX9_bestSet : gOk YX9_bestSet tX9_bestSet := ok_c (sn_aload_n (show decode cX9_bestSet 0 = .ok (.aload_n 0, 1) by decide +kernel) rfl) <|
  ok_c (sn_iconst (v := 0) (show decode cX9_bestSet 4 = .ok (.iconst 0, 1) by decide +kernel) (by decide +kernel)) <|
  ok_c (sn_istore_n (show decode cX9_bestSet 5 = .ok (.istore_n 2, 1) by decide +kernel) rfl (by decide)) <|
  ok_c (sn_iconst (v := 1) (show decode cX9_bestSet 6 = .ok (.iconst 1, 1) by decide +kernel) (by decide +kernel)) <|
  ok_c (sn_istore_n (show decode cX9_bestSet 7 = .ok (.istore_n 3, 1) by decide +kernel) rfl (by decide)) <|
  ok_c (sn_iload_n (show decode cX9_bestSet 8 = .ok (.iload_n 3, 1) by decide +kernel) rfl) <|
  ok_c (sn_iconst (v := 1) (show decode cX9_bestSet 9 = .ok (.iconst 1, 1) by decide +kernel) (by decide +kernel)) <|
  ok_c (sn_aload_n (show decode cX9_bestSet 10 = .ok (.aload_n 0, 1) by decide +kernel) rfl) <|
  ok_c (sn_ishl (show decode cX9_bestSet 14 = .ok (.ishl, 1) by decide +kernel)) <|
  ok_c (sn_ic_ge (show decode cX9_bestSet 15 = .ok (.if_icmp .ge 33, 3) by decide +kernel) (by decide)) <|
  ok_c (sn_aload_n (show decode cX9_bestSet 18 = .ok (.aload_n 0, 1) by decide +kernel) rfl) <|
  ok_c (sn_iload_n (show decode cX9_bestSet 19 = .ok (.iload_n 3, 1) by decide +kernel) rfl) <|
  ok_c (sn_iload_n (show decode cX9_bestSet 20 = .ok (.iload_n 1, 1) by decide +kernel) rfl) <|
  ok_c (sn_if_eq (show decode cX9_bestSet 24 = .ok (.ifCond .eq 18, 3) by decide +kernel) (by decide)) <|
  ok_c (sn_aload_n (show decode cX9_bestSet 27 = .ok (.aload_n 0, 1) by decide +kernel) rfl) <|
  ok_c (sn_iload_n (show decode cX9_bestSet 28 = .ok (.iload_n 3, 1) by decide +kernel) rfl) <|
  ok_c (sn_aload_n (show decode cX9_bestSet 32 = .ok (.aload_n 0, 1) by decide +kernel) rfl) <|
  ok_c (sn_iload_n (show decode cX9_bestSet 33 = .ok (.iload_n 2, 1) by decide +kernel) rfl) <|
  ok_c (sn_ic_le (show decode cX9_bestSet 37 = .ok (.if_icmp .le 5, 3) by decide +kernel) (by decide)) <|
  ok_c (sn_iload_n (show decode cX9_bestSet 40 = .ok (.iload_n 3, 1) by decide +kernel) rfl) <|
  ok_c (sn_istore_n (show decode cX9_bestSet 41 = .ok (.istore_n 2, 1) by decide +kernel) rfl (by decide)) <|
  ok_c (sn_iinc (show decode cX9_bestSet 42 = .ok (.iinc 3 1, 3) by decide +kernel) (by decide) (by decide +kernel)) <|
  ok_c (sn_goto (show decode cX9_bestSet 45 = .ok (.goto (-37), 3) by decide +kernel) (by decide)) <|
  ok_c (sn_iload_n (show decode cX9_bestSet 48 = .ok (.iload_n 2, 1) by decide +kernel) rfl) <|
  ok_n
def uX9_bestSet : gCT := [(1, YX9_lays, 1, some 9), (11, YX9_people, 1, some 9), (21, YX9_isThrough, 3, some 9), (29, YX9_worthOf, 2, some 9), (34, YX9_worthOf, 2, some 9)]
set_option maxRecDepth 100000 in
theorem ocX9_bestSet : gOkC YX9_bestSet uX9_bestSet := oc_c (gEdge_V cal_X9_lays ck_9 rfl (show decode cX9_bestSet 1 = .ok (.invokevirtual 329, 3) by decide +kernel) wd_7_91 wd_7_93 wp_5_13) <|
  oc_c (gEdge_V cal_X9_people ck_9 rfl (show decode cX9_bestSet 11 = .ok (.invokevirtual 244, 3) by decide +kernel) wd_7_50 wd_7_52 wp_5_6) <|
  oc_c (gEdge_V cal_X9_isThrough ck_9 rfl (show decode cX9_bestSet 21 = .ok (.invokevirtual 381, 3) by decide +kernel) wd_8_41 wd_8_43 wp_7_7) <|
  oc_c (gEdge_V cal_X9_worthOf ck_9 rfl (show decode cX9_bestSet 29 = .ok (.invokevirtual 384, 3) by decide +kernel) wd_8_45 wd_8_47 wp_7_8) <|
  oc_c (gEdge_V cal_X9_worthOf ck_9 rfl (show decode cX9_bestSet 34 = .ok (.invokevirtual 384, 3) by decide +kernel) wd_8_45 wd_8_47 wp_7_8) <|
  oc_n
theorem reX9_bestSet : ∀ pc ∈ [49], decode cX9_bestSet pc = .ok (.ireturn, 1) := by decide +kernel
def tX9_best : List (Nat × gStp) := [(0, i_aload 0 1), (1, i_push (.int 0) 2), (2, i_putI 9 0 5), (5, i_aload 0 6), (6, i_iload 1 7), (7, i_i2l 8), (11, i_if_eq 26 14), (14, i_aload 0 15), (15, i_aload 0 16), (16, i_iload 1 17), (23, i_goto 28), (26, i_push (.int (-2)) 28)]
set_option maxRecDepth 100000 in
theorem okX9_best : gOk YX9_best tX9_best := ok_c (sn_aload_n (show decode cX9_best 0 = .ok (.aload_n 0, 1) by decide +kernel) rfl) <|
  ok_c (sn_iconst (v := 0) (show decode cX9_best 1 = .ok (.iconst 0, 1) by decide +kernel) (by decide +kernel)) <|
  ok_c (sn_putI ck_9 (by decide) rfl rfl (show decode cX9_best 2 = .ok (.putfield 77, 3) by decide +kernel) wd_5_217) <|
  ok_c (sn_aload_n (show decode cX9_best 5 = .ok (.aload_n 0, 1) by decide +kernel) rfl) <|
  ok_c (sn_iload_n (show decode cX9_best 6 = .ok (.iload_n 1, 1) by decide +kernel) rfl) <|
  ok_c (sn_i2l (show decode cX9_best 7 = .ok (.i2l, 1) by decide +kernel)) <|
  ok_c (sn_if_eq (show decode cX9_best 11 = .ok (.ifCond .eq 15, 3) by decide +kernel) (by decide)) <|
  ok_c (sn_aload_n (show decode cX9_best 14 = .ok (.aload_n 0, 1) by decide +kernel) rfl) <|
  ok_c (sn_aload_n (show decode cX9_best 15 = .ok (.aload_n 0, 1) by decide +kernel) rfl) <|
  ok_c (sn_iload_n (show decode cX9_best 16 = .ok (.iload_n 1, 1) by decide +kernel) rfl) <|
  ok_c (sn_goto (show decode cX9_best 23 = .ok (.goto 5, 3) by decide +kernel) (by decide)) <|
  ok_c (sn_bipush (v := (-2)) (show decode cX9_best 26 = .ok (.bipush (-2), 2) by decide +kernel) (by decide +kernel)) <|
  ok_n
def uX9_best : gCT := [(8, YX9_isDoor, 2, some 9), (17, YX9_bestSet, 2, some 9), (20, YX9_worthOf, 2, some 9)]
set_option maxRecDepth 100000 in
theorem ocX9_best : gOkC YX9_best uX9_best := oc_c (gEdge_V cal_X9_isDoor ck_9 rfl (show decode cX9_best 8 = .ok (.invokevirtual 351, 3) by decide +kernel) wd_7_71 wd_7_73 wp_5_9) <|
  oc_c (gEdge_V cal_X9_bestSet ck_9 rfl (show decode cX9_best 17 = .ok (.invokevirtual 387, 3) by decide +kernel) wd_8_37 wd_8_39 wp_7_6) <|
  oc_c (gEdge_V cal_X9_worthOf ck_9 rfl (show decode cX9_best 20 = .ok (.invokevirtual 384, 3) by decide +kernel) wd_8_45 wd_8_47 wp_7_8) <|
  oc_n
theorem reX9_best : ∀ pc ∈ [28], decode cX9_best pc = .ok (.ireturn, 1) := by decide +kernel
def tX9_bests : List (Nat × gStp) := [(0, i_aload 0 1), (1, i_push (.int 0) 2), (2, i_putI 9 0 5), (5, i_aload 0 6), (6, i_iload 1 7), (7, i_i2l 8), (11, i_if_eq 22 14), (14, i_aload 0 15), (15, i_iload 1 16), (19, i_goto 24), (22, i_push (.int (-2)) 24)]
set_option maxRecDepth 100000 in
theorem okX9_bests : gOk YX9_bests tX9_bests := ok_c (sn_aload_n (show decode cX9_bests 0 = .ok (.aload_n 0, 1) by decide +kernel) rfl) <|
  ok_c (sn_iconst (v := 0) (show decode cX9_bests 1 = .ok (.iconst 0, 1) by decide +kernel) (by decide +kernel)) <|
  ok_c (sn_putI ck_9 (by decide) rfl rfl (show decode cX9_bests 2 = .ok (.putfield 77, 3) by decide +kernel) wd_5_217) <|
  ok_c (sn_aload_n (show decode cX9_bests 5 = .ok (.aload_n 0, 1) by decide +kernel) rfl) <|
  ok_c (sn_iload_n (show decode cX9_bests 6 = .ok (.iload_n 1, 1) by decide +kernel) rfl) <|
  ok_c (sn_i2l (show decode cX9_bests 7 = .ok (.i2l, 1) by decide +kernel)) <|
  ok_c (sn_if_eq (show decode cX9_bests 11 = .ok (.ifCond .eq 11, 3) by decide +kernel) (by decide)) <|
  ok_c (sn_aload_n (show decode cX9_bests 14 = .ok (.aload_n 0, 1) by decide +kernel) rfl) <|
  ok_c (sn_iload_n (show decode cX9_bests 15 = .ok (.iload_n 1, 1) by decide +kernel) rfl) <|
  ok_c (sn_goto (show decode cX9_bests 19 = .ok (.goto 5, 3) by decide +kernel) (by decide)) <|
  ok_c (sn_bipush (v := (-2)) (show decode cX9_bests 22 = .ok (.bipush (-2), 2) by decide +kernel) (by decide +kernel)) <|
  ok_n
def uX9_bests : gCT := [(8, YX9_isDoor, 2, some 9), (16, YX9_bestSet, 2, some 9)]
set_option maxRecDepth 100000 in
theorem ocX9_bests : gOkC YX9_bests uX9_bests := oc_c (gEdge_V cal_X9_isDoor ck_9 rfl (show decode cX9_bests 8 = .ok (.invokevirtual 351, 3) by decide +kernel) wd_7_71 wd_7_73 wp_5_9) <|
  oc_c (gEdge_V cal_X9_bestSet ck_9 rfl (show decode cX9_bests 16 = .ok (.invokevirtual 387, 3) by decide +kernel) wd_8_37 wd_8_39 wp_7_6) <|
  oc_n
theorem reX9_bests : ∀ pc ∈ [24], decode cX9_bests pc = .ok (.ireturn, 1) := by decide +kernel
def tX9_laysSets : List (Nat × gStp) := [(0, i_aload 0 1), (4, i_aload 0 5), (5, i_getC 9 159 8), (8, i_push (.int 0) 9), (9, i_push (.int 0) 10), (10, i_iast 11), (11, i_aload 0 12), (12, i_getC 9 160 15), (15, i_push (.int 0) 16), (16, i_push (.int 1) 17), (17, i_iast 18), (18, i_push (.int 1) 19), (19, i_istore 2 20), (20, i_iload 2 21), (21, i_push (.int 1) 22), (22, i_aload 0 23), (26, i_ii (fun x y => x <<< (y &&& 31)) 27), (27, i_ic_ge 176 30), (30, i_aload 0 31), (31, i_getC 9 159 34), (34, i_iload 2 35), (35, i_push (.int 100000) 37), (37, i_iast 38), (38, i_aload 0 39), (39, i_getC 9 160 42), (42, i_iload 2 43), (43, i_push (.int 0) 44), (44, i_iast 45), (45, i_iload 2 46), (46, i_iload 2 47), (47, i_i (fun x => -x) 48), (48, i_ii (fun x y => x &&& y) 49), (49, i_istore 3 50), (50, i_push (.int 1) 51), (51, i_istore 4 53), (53, i_iload 4 55), (55, i_iload 2 56), (56, i_ic_gt 170 59), (59, i_iload 4 61), (61, i_iload 2 62), (62, i_push (.int (-1)) 63), (63, i_ii (fun x y => x ^^^ y) 64), (64, i_ii (fun x y => x &&& y) 65), (65, i_if_ne 164 68), (68, i_iload 4 70), (70, i_iload 3 71), (71, i_ii (fun x y => x &&& y) 72), (72, i_if_eq 164 75), (75, i_aload 0 76), (76, i_iload 4 78), (78, i_iload 1 79), (82, i_if_ne 88 85), (85, i_goto 164), (88, i_push (.int 1) 89), (89, i_aload 0 90), (90, i_getC 9 159 93), (93, i_iload 2 94), (94, i_iload 4 96), (96, i_push (.int (-1)) 97), (97, i_ii (fun x y => x ^^^ y) 98), (98, i_ii (fun x y => x &&& y) 99), (99, i_iald 100), (100, i_ii (fun x y => x + y) 101), (101, i_istore 5 103), (103, i_iload 5 105), (105, i_aload 0 106), (106, i_getC 9 159 109), (109, i_iload 2 110), (110, i_iald 111), (111, i_ic_le 117 114), (114, i_goto 164), (117, i_aload 0 118), (118, i_getC 9 160 121), (121, i_iload 2 122), (122, i_iload 5 124), (124, i_aload 0 125), (125, i_getC 9 159 128), (128, i_iload 2 129), (129, i_iald 130), (130, i_ic_ge 137 133), (133, i_push (.int 0) 134), (134, i_goto 143), (137, i_aload 0 138), (138, i_getC 9 160 141), (141, i_iload 2 142), (142, i_iald 143), (143, i_aload 0 144), (144, i_getC 9 160 147), (147, i_iload 2 148), (148, i_iload 4 150), (150, i_push (.int (-1)) 151), (151, i_ii (fun x y => x ^^^ y) 152), (152, i_ii (fun x y => x &&& y) 153), (153, i_iald 154), (154, i_ii (fun x y => x + y) 155), (155, i_iast 156), (156, i_aload 0 157), (157, i_getC 9 159 160), (160, i_iload 2 161), (161, i_iload 5 163), (163, i_iast 164), (164, i_iinc 4 1 167), (167, i_goto 53), (170, i_iinc 2 1 173), (173, i_goto 20)]
set_option maxRecDepth 100000 in
theorem okX9_laysSets : gOk YX9_laysSets tX9_laysSets := ok_c (sn_aload_n (show decode cX9_laysSets 0 = .ok (.aload_n 0, 1) by decide +kernel) rfl) <|
  ok_c (sn_aload_n (show decode cX9_laysSets 4 = .ok (.aload_n 0, 1) by decide +kernel) rfl) <|
  ok_c (sn_getC (j := 37) (fun _ _ => rfl) (sn_get ck_9 (by decide) (show decode cX9_laysSets 5 = .ok (.getfield 68, 3) by decide +kernel) wd_6_14)) <|
  ok_c (sn_iconst (v := 0) (show decode cX9_laysSets 8 = .ok (.iconst 0, 1) by decide +kernel) (by decide +kernel)) <|
  ok_c (sn_iconst (v := 0) (show decode cX9_laysSets 9 = .ok (.iconst 0, 1) by decide +kernel) (by decide +kernel)) <|
  ok_c (sn_iast (show decode cX9_laysSets 10 = .ok (.iastore, 1) by decide +kernel)) <|
  ok_c (sn_aload_n (show decode cX9_laysSets 11 = .ok (.aload_n 0, 1) by decide +kernel) rfl) <|
  ok_c (sn_getC (j := 38) (fun _ _ => rfl) (sn_get ck_9 (by decide) (show decode cX9_laysSets 12 = .ok (.getfield 71, 3) by decide +kernel) wd_6_15)) <|
  ok_c (sn_iconst (v := 0) (show decode cX9_laysSets 15 = .ok (.iconst 0, 1) by decide +kernel) (by decide +kernel)) <|
  ok_c (sn_iconst (v := 1) (show decode cX9_laysSets 16 = .ok (.iconst 1, 1) by decide +kernel) (by decide +kernel)) <|
  ok_c (sn_iast (show decode cX9_laysSets 17 = .ok (.iastore, 1) by decide +kernel)) <|
  ok_c (sn_iconst (v := 1) (show decode cX9_laysSets 18 = .ok (.iconst 1, 1) by decide +kernel) (by decide +kernel)) <|
  ok_c (sn_istore_n (show decode cX9_laysSets 19 = .ok (.istore_n 2, 1) by decide +kernel) rfl (by decide)) <|
  ok_c (sn_iload_n (show decode cX9_laysSets 20 = .ok (.iload_n 2, 1) by decide +kernel) rfl) <|
  ok_c (sn_iconst (v := 1) (show decode cX9_laysSets 21 = .ok (.iconst 1, 1) by decide +kernel) (by decide +kernel)) <|
  ok_c (sn_aload_n (show decode cX9_laysSets 22 = .ok (.aload_n 0, 1) by decide +kernel) rfl) <|
  ok_c (sn_ishl (show decode cX9_laysSets 26 = .ok (.ishl, 1) by decide +kernel)) <|
  ok_c (sn_ic_ge (show decode cX9_laysSets 27 = .ok (.if_icmp .ge 149, 3) by decide +kernel) (by decide)) <|
  ok_c (sn_aload_n (show decode cX9_laysSets 30 = .ok (.aload_n 0, 1) by decide +kernel) rfl) <|
  ok_c (sn_getC (j := 37) (fun _ _ => rfl) (sn_get ck_9 (by decide) (show decode cX9_laysSets 31 = .ok (.getfield 68, 3) by decide +kernel) wd_6_14)) <|
  ok_c (sn_iload_n (show decode cX9_laysSets 34 = .ok (.iload_n 2, 1) by decide +kernel) rfl) <|
  ok_c (sn_ldc (show decode cX9_laysSets 35 = .ok (.ldc 127, 2) by decide +kernel) wd_6_191) <|
  ok_c (sn_iast (show decode cX9_laysSets 37 = .ok (.iastore, 1) by decide +kernel)) <|
  ok_c (sn_aload_n (show decode cX9_laysSets 38 = .ok (.aload_n 0, 1) by decide +kernel) rfl) <|
  ok_c (sn_getC (j := 38) (fun _ _ => rfl) (sn_get ck_9 (by decide) (show decode cX9_laysSets 39 = .ok (.getfield 71, 3) by decide +kernel) wd_6_15)) <|
  ok_c (sn_iload_n (show decode cX9_laysSets 42 = .ok (.iload_n 2, 1) by decide +kernel) rfl) <|
  ok_c (sn_iconst (v := 0) (show decode cX9_laysSets 43 = .ok (.iconst 0, 1) by decide +kernel) (by decide +kernel)) <|
  ok_c (sn_iast (show decode cX9_laysSets 44 = .ok (.iastore, 1) by decide +kernel)) <|
  ok_c (sn_iload_n (show decode cX9_laysSets 45 = .ok (.iload_n 2, 1) by decide +kernel) rfl) <|
  ok_c (sn_iload_n (show decode cX9_laysSets 46 = .ok (.iload_n 2, 1) by decide +kernel) rfl) <|
  ok_c (sn_ineg (show decode cX9_laysSets 47 = .ok (.ineg, 1) by decide +kernel)) <|
  ok_c (sn_iand (show decode cX9_laysSets 48 = .ok (.iand, 1) by decide +kernel)) <|
  ok_c (sn_istore_n (show decode cX9_laysSets 49 = .ok (.istore_n 3, 1) by decide +kernel) rfl (by decide)) <|
  ok_c (sn_iconst (v := 1) (show decode cX9_laysSets 50 = .ok (.iconst 1, 1) by decide +kernel) (by decide +kernel)) <|
  ok_c (sn_istore (show decode cX9_laysSets 51 = .ok (.istore 4, 2) by decide +kernel) (by decide)) <|
  ok_c (sn_iload (show decode cX9_laysSets 53 = .ok (.iload 4, 2) by decide +kernel)) <|
  ok_c (sn_iload_n (show decode cX9_laysSets 55 = .ok (.iload_n 2, 1) by decide +kernel) rfl) <|
  ok_c (sn_ic_gt (show decode cX9_laysSets 56 = .ok (.if_icmp .gt 114, 3) by decide +kernel) (by decide)) <|
  ok_c (sn_iload (show decode cX9_laysSets 59 = .ok (.iload 4, 2) by decide +kernel)) <|
  ok_c (sn_iload_n (show decode cX9_laysSets 61 = .ok (.iload_n 2, 1) by decide +kernel) rfl) <|
  ok_c (sn_iconst (v := (-1)) (show decode cX9_laysSets 62 = .ok (.iconst (-1), 1) by decide +kernel) (by decide +kernel)) <|
  ok_c (sn_ixor (show decode cX9_laysSets 63 = .ok (.ixor, 1) by decide +kernel)) <|
  ok_c (sn_iand (show decode cX9_laysSets 64 = .ok (.iand, 1) by decide +kernel)) <|
  ok_c (sn_if_ne (show decode cX9_laysSets 65 = .ok (.ifCond .ne 99, 3) by decide +kernel) (by decide)) <|
  ok_c (sn_iload (show decode cX9_laysSets 68 = .ok (.iload 4, 2) by decide +kernel)) <|
  ok_c (sn_iload_n (show decode cX9_laysSets 70 = .ok (.iload_n 3, 1) by decide +kernel) rfl) <|
  ok_c (sn_iand (show decode cX9_laysSets 71 = .ok (.iand, 1) by decide +kernel)) <|
  ok_c (sn_if_eq (show decode cX9_laysSets 72 = .ok (.ifCond .eq 92, 3) by decide +kernel) (by decide)) <|
  ok_c (sn_aload_n (show decode cX9_laysSets 75 = .ok (.aload_n 0, 1) by decide +kernel) rfl) <|
  ok_c (sn_iload (show decode cX9_laysSets 76 = .ok (.iload 4, 2) by decide +kernel)) <|
  ok_c (sn_iload_n (show decode cX9_laysSets 78 = .ok (.iload_n 1, 1) by decide +kernel) rfl) <|
  ok_c (sn_if_ne (show decode cX9_laysSets 82 = .ok (.ifCond .ne 6, 3) by decide +kernel) (by decide)) <|
  ok_c (sn_goto (show decode cX9_laysSets 85 = .ok (.goto 79, 3) by decide +kernel) (by decide)) <|
  ok_c (sn_iconst (v := 1) (show decode cX9_laysSets 88 = .ok (.iconst 1, 1) by decide +kernel) (by decide +kernel)) <|
  ok_c (sn_aload_n (show decode cX9_laysSets 89 = .ok (.aload_n 0, 1) by decide +kernel) rfl) <|
  ok_c (sn_getC (j := 37) (fun _ _ => rfl) (sn_get ck_9 (by decide) (show decode cX9_laysSets 90 = .ok (.getfield 68, 3) by decide +kernel) wd_6_14)) <|
  ok_c (sn_iload_n (show decode cX9_laysSets 93 = .ok (.iload_n 2, 1) by decide +kernel) rfl) <|
  ok_c (sn_iload (show decode cX9_laysSets 94 = .ok (.iload 4, 2) by decide +kernel)) <|
  ok_c (sn_iconst (v := (-1)) (show decode cX9_laysSets 96 = .ok (.iconst (-1), 1) by decide +kernel) (by decide +kernel)) <|
  ok_c (sn_ixor (show decode cX9_laysSets 97 = .ok (.ixor, 1) by decide +kernel)) <|
  ok_c (sn_iand (show decode cX9_laysSets 98 = .ok (.iand, 1) by decide +kernel)) <|
  ok_c (sn_iald (show decode cX9_laysSets 99 = .ok (.iaload, 1) by decide +kernel)) <|
  ok_c (sn_iadd (show decode cX9_laysSets 100 = .ok (.iadd, 1) by decide +kernel)) <|
  ok_c (sn_istore (show decode cX9_laysSets 101 = .ok (.istore 5, 2) by decide +kernel) (by decide)) <|
  ok_c (sn_iload (show decode cX9_laysSets 103 = .ok (.iload 5, 2) by decide +kernel)) <|
  ok_c (sn_aload_n (show decode cX9_laysSets 105 = .ok (.aload_n 0, 1) by decide +kernel) rfl) <|
  ok_c (sn_getC (j := 37) (fun _ _ => rfl) (sn_get ck_9 (by decide) (show decode cX9_laysSets 106 = .ok (.getfield 68, 3) by decide +kernel) wd_6_14)) <|
  ok_c (sn_iload_n (show decode cX9_laysSets 109 = .ok (.iload_n 2, 1) by decide +kernel) rfl) <|
  ok_c (sn_iald (show decode cX9_laysSets 110 = .ok (.iaload, 1) by decide +kernel)) <|
  ok_c (sn_ic_le (show decode cX9_laysSets 111 = .ok (.if_icmp .le 6, 3) by decide +kernel) (by decide)) <|
  ok_c (sn_goto (show decode cX9_laysSets 114 = .ok (.goto 50, 3) by decide +kernel) (by decide)) <|
  ok_c (sn_aload_n (show decode cX9_laysSets 117 = .ok (.aload_n 0, 1) by decide +kernel) rfl) <|
  ok_c (sn_getC (j := 38) (fun _ _ => rfl) (sn_get ck_9 (by decide) (show decode cX9_laysSets 118 = .ok (.getfield 71, 3) by decide +kernel) wd_6_15)) <|
  ok_c (sn_iload_n (show decode cX9_laysSets 121 = .ok (.iload_n 2, 1) by decide +kernel) rfl) <|
  ok_c (sn_iload (show decode cX9_laysSets 122 = .ok (.iload 5, 2) by decide +kernel)) <|
  ok_c (sn_aload_n (show decode cX9_laysSets 124 = .ok (.aload_n 0, 1) by decide +kernel) rfl) <|
  ok_c (sn_getC (j := 37) (fun _ _ => rfl) (sn_get ck_9 (by decide) (show decode cX9_laysSets 125 = .ok (.getfield 68, 3) by decide +kernel) wd_6_14)) <|
  ok_c (sn_iload_n (show decode cX9_laysSets 128 = .ok (.iload_n 2, 1) by decide +kernel) rfl) <|
  ok_c (sn_iald (show decode cX9_laysSets 129 = .ok (.iaload, 1) by decide +kernel)) <|
  ok_c (sn_ic_ge (show decode cX9_laysSets 130 = .ok (.if_icmp .ge 7, 3) by decide +kernel) (by decide)) <|
  ok_c (sn_iconst (v := 0) (show decode cX9_laysSets 133 = .ok (.iconst 0, 1) by decide +kernel) (by decide +kernel)) <|
  ok_c (sn_goto (show decode cX9_laysSets 134 = .ok (.goto 9, 3) by decide +kernel) (by decide)) <|
  ok_c (sn_aload_n (show decode cX9_laysSets 137 = .ok (.aload_n 0, 1) by decide +kernel) rfl) <|
  ok_c (sn_getC (j := 38) (fun _ _ => rfl) (sn_get ck_9 (by decide) (show decode cX9_laysSets 138 = .ok (.getfield 71, 3) by decide +kernel) wd_6_15)) <|
  ok_c (sn_iload_n (show decode cX9_laysSets 141 = .ok (.iload_n 2, 1) by decide +kernel) rfl) <|
  ok_c (sn_iald (show decode cX9_laysSets 142 = .ok (.iaload, 1) by decide +kernel)) <|
  ok_c (sn_aload_n (show decode cX9_laysSets 143 = .ok (.aload_n 0, 1) by decide +kernel) rfl) <|
  ok_c (sn_getC (j := 38) (fun _ _ => rfl) (sn_get ck_9 (by decide) (show decode cX9_laysSets 144 = .ok (.getfield 71, 3) by decide +kernel) wd_6_15)) <|
  ok_c (sn_iload_n (show decode cX9_laysSets 147 = .ok (.iload_n 2, 1) by decide +kernel) rfl) <|
  ok_c (sn_iload (show decode cX9_laysSets 148 = .ok (.iload 4, 2) by decide +kernel)) <|
  ok_c (sn_iconst (v := (-1)) (show decode cX9_laysSets 150 = .ok (.iconst (-1), 1) by decide +kernel) (by decide +kernel)) <|
  ok_c (sn_ixor (show decode cX9_laysSets 151 = .ok (.ixor, 1) by decide +kernel)) <|
  ok_c (sn_iand (show decode cX9_laysSets 152 = .ok (.iand, 1) by decide +kernel)) <|
  ok_c (sn_iald (show decode cX9_laysSets 153 = .ok (.iaload, 1) by decide +kernel)) <|
  ok_c (sn_iadd (show decode cX9_laysSets 154 = .ok (.iadd, 1) by decide +kernel)) <|
  ok_c (sn_iast (show decode cX9_laysSets 155 = .ok (.iastore, 1) by decide +kernel)) <|
  ok_c (sn_aload_n (show decode cX9_laysSets 156 = .ok (.aload_n 0, 1) by decide +kernel) rfl) <|
  ok_c (sn_getC (j := 37) (fun _ _ => rfl) (sn_get ck_9 (by decide) (show decode cX9_laysSets 157 = .ok (.getfield 68, 3) by decide +kernel) wd_6_14)) <|
  ok_c (sn_iload_n (show decode cX9_laysSets 160 = .ok (.iload_n 2, 1) by decide +kernel) rfl) <|
  ok_c (sn_iload (show decode cX9_laysSets 161 = .ok (.iload 5, 2) by decide +kernel)) <|
  ok_c (sn_iast (show decode cX9_laysSets 163 = .ok (.iastore, 1) by decide +kernel)) <|
  ok_c (sn_iinc (show decode cX9_laysSets 164 = .ok (.iinc 4 1, 3) by decide +kernel) (by decide) (by decide +kernel)) <|
  ok_c (sn_goto (show decode cX9_laysSets 167 = .ok (.goto (-114), 3) by decide +kernel) (by decide)) <|
  ok_c (sn_iinc (show decode cX9_laysSets 170 = .ok (.iinc 2 1, 3) by decide +kernel) (by decide) (by decide +kernel)) <|
  ok_c (sn_goto (show decode cX9_laysSets 173 = .ok (.goto (-153), 3) by decide +kernel) (by decide)) <|
  ok_n
def uX9_laysSets : gCT := [(1, YX9_lays, 1, some 9), (23, YX9_people, 1, some 9), (79, YX9_isThrough, 3, some 9)]
set_option maxRecDepth 100000 in
theorem ocX9_laysSets : gOkC YX9_laysSets uX9_laysSets := oc_c (gEdge_V cal_X9_lays ck_9 rfl (show decode cX9_laysSets 1 = .ok (.invokevirtual 329, 3) by decide +kernel) wd_7_91 wd_7_93 wp_5_13) <|
  oc_c (gEdge_V cal_X9_people ck_9 rfl (show decode cX9_laysSets 23 = .ok (.invokevirtual 244, 3) by decide +kernel) wd_7_50 wd_7_52 wp_5_6) <|
  oc_c (gEdge_V cal_X9_isThrough ck_9 rfl (show decode cX9_laysSets 79 = .ok (.invokevirtual 381, 3) by decide +kernel) wd_8_41 wd_8_43 wp_7_7) <|
  oc_n
theorem reX9_laysSets : ∀ pc ∈ [176], decode cX9_laysSets pc = .ok (.return_, 1) := by decide +kernel
def tX9_sets : List (Nat × gStp) := [(0, i_aload 0 1), (1, i_push (.int 0) 2), (2, i_putI 9 0 5), (5, i_aload 0 6), (6, i_iload 1 7), (7, i_i2l 8), (11, i_if_ne 17 14), (14, i_push (.int (-2)) 16), (17, i_aload 0 18), (18, i_iload 1 19), (22, i_aload 0 23), (23, i_getC 9 159 26), (26, i_push (.int 1) 27), (27, i_aload 0 28), (31, i_ii (fun x y => x <<< (y &&& 31)) 32), (32, i_push (.int 1) 33), (33, i_ii (fun x y => x - y) 34), (34, i_iald 35), (35, i_istore 2 36), (36, i_iload 2 37), (37, i_push (.int 100000) 39), (39, i_ic_lt 46 42), (42, i_push (.int (-1)) 43), (43, i_goto 47), (46, i_iload 2 47)]
set_option maxRecDepth 100000 in
theorem okX9_sets : gOk YX9_sets tX9_sets := ok_c (sn_aload_n (show decode cX9_sets 0 = .ok (.aload_n 0, 1) by decide +kernel) rfl) <|
  ok_c (sn_iconst (v := 0) (show decode cX9_sets 1 = .ok (.iconst 0, 1) by decide +kernel) (by decide +kernel)) <|
  ok_c (sn_putI ck_9 (by decide) rfl rfl (show decode cX9_sets 2 = .ok (.putfield 77, 3) by decide +kernel) wd_5_217) <|
  ok_c (sn_aload_n (show decode cX9_sets 5 = .ok (.aload_n 0, 1) by decide +kernel) rfl) <|
  ok_c (sn_iload_n (show decode cX9_sets 6 = .ok (.iload_n 1, 1) by decide +kernel) rfl) <|
  ok_c (sn_i2l (show decode cX9_sets 7 = .ok (.i2l, 1) by decide +kernel)) <|
  ok_c (sn_if_ne (show decode cX9_sets 11 = .ok (.ifCond .ne 6, 3) by decide +kernel) (by decide)) <|
  ok_c (sn_bipush (v := (-2)) (show decode cX9_sets 14 = .ok (.bipush (-2), 2) by decide +kernel) (by decide +kernel)) <|
  ok_c (sn_aload_n (show decode cX9_sets 17 = .ok (.aload_n 0, 1) by decide +kernel) rfl) <|
  ok_c (sn_iload_n (show decode cX9_sets 18 = .ok (.iload_n 1, 1) by decide +kernel) rfl) <|
  ok_c (sn_aload_n (show decode cX9_sets 22 = .ok (.aload_n 0, 1) by decide +kernel) rfl) <|
  ok_c (sn_getC (j := 37) (fun _ _ => rfl) (sn_get ck_9 (by decide) (show decode cX9_sets 23 = .ok (.getfield 68, 3) by decide +kernel) wd_6_14)) <|
  ok_c (sn_iconst (v := 1) (show decode cX9_sets 26 = .ok (.iconst 1, 1) by decide +kernel) (by decide +kernel)) <|
  ok_c (sn_aload_n (show decode cX9_sets 27 = .ok (.aload_n 0, 1) by decide +kernel) rfl) <|
  ok_c (sn_ishl (show decode cX9_sets 31 = .ok (.ishl, 1) by decide +kernel)) <|
  ok_c (sn_iconst (v := 1) (show decode cX9_sets 32 = .ok (.iconst 1, 1) by decide +kernel) (by decide +kernel)) <|
  ok_c (sn_isub (show decode cX9_sets 33 = .ok (.isub, 1) by decide +kernel)) <|
  ok_c (sn_iald (show decode cX9_sets 34 = .ok (.iaload, 1) by decide +kernel)) <|
  ok_c (sn_istore_n (show decode cX9_sets 35 = .ok (.istore_n 2, 1) by decide +kernel) rfl (by decide)) <|
  ok_c (sn_iload_n (show decode cX9_sets 36 = .ok (.iload_n 2, 1) by decide +kernel) rfl) <|
  ok_c (sn_ldc (show decode cX9_sets 37 = .ok (.ldc 127, 2) by decide +kernel) wd_6_191) <|
  ok_c (sn_ic_lt (show decode cX9_sets 39 = .ok (.if_icmp .lt 7, 3) by decide +kernel) (by decide)) <|
  ok_c (sn_iconst (v := (-1)) (show decode cX9_sets 42 = .ok (.iconst (-1), 1) by decide +kernel) (by decide +kernel)) <|
  ok_c (sn_goto (show decode cX9_sets 43 = .ok (.goto 4, 3) by decide +kernel) (by decide)) <|
  ok_c (sn_iload_n (show decode cX9_sets 46 = .ok (.iload_n 2, 1) by decide +kernel) rfl) <|
  ok_n
def uX9_sets : gCT := [(8, YX9_isDoor, 2, some 9), (19, YX9_laysSets, 2, some 9), (28, YX9_people, 1, some 9)]
set_option maxRecDepth 100000 in
theorem ocX9_sets : gOkC YX9_sets uX9_sets := oc_c (gEdge_V cal_X9_isDoor ck_9 rfl (show decode cX9_sets 8 = .ok (.invokevirtual 351, 3) by decide +kernel) wd_7_71 wd_7_73 wp_5_9) <|
  oc_c (gEdge_V cal_X9_laysSets ck_9 rfl (show decode cX9_sets 19 = .ok (.invokevirtual 390, 3) by decide +kernel) wd_8_57 wd_8_59 wp_7_9) <|
  oc_c (gEdge_V cal_X9_people ck_9 rfl (show decode cX9_sets 28 = .ok (.invokevirtual 244, 3) by decide +kernel) wd_7_50 wd_7_52 wp_5_6) <|
  oc_n
theorem reX9_sets : ∀ pc ∈ [16, 47], decode cX9_sets pc = .ok (.ireturn, 1) := by decide +kernel
def tX9_ways : List (Nat × gStp) := [(0, i_aload 0 1), (1, i_push (.int 0) 2), (2, i_putI 9 0 5), (5, i_aload 0 6), (6, i_iload 1 7), (7, i_i2l 8), (11, i_if_ne 17 14), (14, i_push (.int (-2)) 16), (17, i_aload 0 18), (18, i_iload 1 19), (22, i_push (.int 1) 23), (23, i_aload 0 24), (27, i_ii (fun x y => x <<< (y &&& 31)) 28), (28, i_push (.int 1) 29), (29, i_ii (fun x y => x - y) 30), (30, i_istore 2 31), (31, i_aload 0 32), (32, i_getC 9 159 35), (35, i_iload 2 36), (36, i_iald 37), (37, i_push (.int 100000) 39), (39, i_ic_lt 46 42), (42, i_push (.int (-1)) 43), (43, i_goto 52), (46, i_aload 0 47), (47, i_getC 9 160 50), (50, i_iload 2 51), (51, i_iald 52)]
set_option maxRecDepth 100000 in
theorem okX9_ways : gOk YX9_ways tX9_ways := ok_c (sn_aload_n (show decode cX9_ways 0 = .ok (.aload_n 0, 1) by decide +kernel) rfl) <|
  ok_c (sn_iconst (v := 0) (show decode cX9_ways 1 = .ok (.iconst 0, 1) by decide +kernel) (by decide +kernel)) <|
  ok_c (sn_putI ck_9 (by decide) rfl rfl (show decode cX9_ways 2 = .ok (.putfield 77, 3) by decide +kernel) wd_5_217) <|
  ok_c (sn_aload_n (show decode cX9_ways 5 = .ok (.aload_n 0, 1) by decide +kernel) rfl) <|
  ok_c (sn_iload_n (show decode cX9_ways 6 = .ok (.iload_n 1, 1) by decide +kernel) rfl) <|
  ok_c (sn_i2l (show decode cX9_ways 7 = .ok (.i2l, 1) by decide +kernel)) <|
  ok_c (sn_if_ne (show decode cX9_ways 11 = .ok (.ifCond .ne 6, 3) by decide +kernel) (by decide)) <|
  ok_c (sn_bipush (v := (-2)) (show decode cX9_ways 14 = .ok (.bipush (-2), 2) by decide +kernel) (by decide +kernel)) <|
  ok_c (sn_aload_n (show decode cX9_ways 17 = .ok (.aload_n 0, 1) by decide +kernel) rfl) <|
  ok_c (sn_iload_n (show decode cX9_ways 18 = .ok (.iload_n 1, 1) by decide +kernel) rfl) <|
  ok_c (sn_iconst (v := 1) (show decode cX9_ways 22 = .ok (.iconst 1, 1) by decide +kernel) (by decide +kernel)) <|
  ok_c (sn_aload_n (show decode cX9_ways 23 = .ok (.aload_n 0, 1) by decide +kernel) rfl) <|
  ok_c (sn_ishl (show decode cX9_ways 27 = .ok (.ishl, 1) by decide +kernel)) <|
  ok_c (sn_iconst (v := 1) (show decode cX9_ways 28 = .ok (.iconst 1, 1) by decide +kernel) (by decide +kernel)) <|
  ok_c (sn_isub (show decode cX9_ways 29 = .ok (.isub, 1) by decide +kernel)) <|
  ok_c (sn_istore_n (show decode cX9_ways 30 = .ok (.istore_n 2, 1) by decide +kernel) rfl (by decide)) <|
  ok_c (sn_aload_n (show decode cX9_ways 31 = .ok (.aload_n 0, 1) by decide +kernel) rfl) <|
  ok_c (sn_getC (j := 37) (fun _ _ => rfl) (sn_get ck_9 (by decide) (show decode cX9_ways 32 = .ok (.getfield 68, 3) by decide +kernel) wd_6_14)) <|
  ok_c (sn_iload_n (show decode cX9_ways 35 = .ok (.iload_n 2, 1) by decide +kernel) rfl) <|
  ok_c (sn_iald (show decode cX9_ways 36 = .ok (.iaload, 1) by decide +kernel)) <|
  ok_c (sn_ldc (show decode cX9_ways 37 = .ok (.ldc 127, 2) by decide +kernel) wd_6_191) <|
  ok_c (sn_ic_lt (show decode cX9_ways 39 = .ok (.if_icmp .lt 7, 3) by decide +kernel) (by decide)) <|
  ok_c (sn_iconst (v := (-1)) (show decode cX9_ways 42 = .ok (.iconst (-1), 1) by decide +kernel) (by decide +kernel)) <|
  ok_c (sn_goto (show decode cX9_ways 43 = .ok (.goto 9, 3) by decide +kernel) (by decide)) <|
  ok_c (sn_aload_n (show decode cX9_ways 46 = .ok (.aload_n 0, 1) by decide +kernel) rfl) <|
  ok_c (sn_getC (j := 38) (fun _ _ => rfl) (sn_get ck_9 (by decide) (show decode cX9_ways 47 = .ok (.getfield 71, 3) by decide +kernel) wd_6_15)) <|
  ok_c (sn_iload_n (show decode cX9_ways 50 = .ok (.iload_n 2, 1) by decide +kernel) rfl) <|
  ok_c (sn_iald (show decode cX9_ways 51 = .ok (.iaload, 1) by decide +kernel)) <|
  ok_n
def uX9_ways : gCT := [(8, YX9_isDoor, 2, some 9), (19, YX9_laysSets, 2, some 9), (24, YX9_people, 1, some 9)]
set_option maxRecDepth 100000 in
theorem ocX9_ways : gOkC YX9_ways uX9_ways := oc_c (gEdge_V cal_X9_isDoor ck_9 rfl (show decode cX9_ways 8 = .ok (.invokevirtual 351, 3) by decide +kernel) wd_7_71 wd_7_73 wp_5_9) <|
  oc_c (gEdge_V cal_X9_laysSets ck_9 rfl (show decode cX9_ways 19 = .ok (.invokevirtual 390, 3) by decide +kernel) wd_8_57 wd_8_59 wp_7_9) <|
  oc_c (gEdge_V cal_X9_people ck_9 rfl (show decode cX9_ways 24 = .ok (.invokevirtual 244, 3) by decide +kernel) wd_7_50 wd_7_52 wp_5_6) <|
  oc_n
theorem reX9_ways : ∀ pc ∈ [16, 52], decode cX9_ways pc = .ok (.ireturn, 1) := by decide +kernel
def tX9_valueOf : List (Nat × gStp) := [(0, i_aload 0 1), (1, i_iload 1 2), (2, i_iload 2 3), (6, i_if_eq 17 9), (9, i_aload 0 10), (10, i_iload 1 11), (14, i_goto 18), (17, i_push (.int 0) 18)]
set_option maxRecDepth 100000 in
theorem okX9_valueOf : gOk YX9_valueOf tX9_valueOf := ok_c (sn_aload_n (show decode cX9_valueOf 0 = .ok (.aload_n 0, 1) by decide +kernel) rfl) <|
  ok_c (sn_iload_n (show decode cX9_valueOf 1 = .ok (.iload_n 1, 1) by decide +kernel) rfl) <|
  ok_c (sn_iload_n (show decode cX9_valueOf 2 = .ok (.iload_n 2, 1) by decide +kernel) rfl) <|
  ok_c (sn_if_eq (show decode cX9_valueOf 6 = .ok (.ifCond .eq 11, 3) by decide +kernel) (by decide)) <|
  ok_c (sn_aload_n (show decode cX9_valueOf 9 = .ok (.aload_n 0, 1) by decide +kernel) rfl) <|
  ok_c (sn_iload_n (show decode cX9_valueOf 10 = .ok (.iload_n 1, 1) by decide +kernel) rfl) <|
  ok_c (sn_goto (show decode cX9_valueOf 14 = .ok (.goto 4, 3) by decide +kernel) (by decide)) <|
  ok_c (sn_iconst (v := 0) (show decode cX9_valueOf 17 = .ok (.iconst 0, 1) by decide +kernel) (by decide +kernel)) <|
  ok_n
def uX9_valueOf : gCT := [(3, YX9_isThrough, 3, some 9), (11, YX9_worthOf, 2, some 9)]
set_option maxRecDepth 100000 in
theorem ocX9_valueOf : gOkC YX9_valueOf uX9_valueOf := oc_c (gEdge_V cal_X9_isThrough ck_9 rfl (show decode cX9_valueOf 3 = .ok (.invokevirtual 381, 3) by decide +kernel) wd_8_41 wd_8_43 wp_7_7) <|
  oc_c (gEdge_V cal_X9_worthOf ck_9 rfl (show decode cX9_valueOf 11 = .ok (.invokevirtual 384, 3) by decide +kernel) wd_8_45 wd_8_47 wp_7_8) <|
  oc_n
theorem reX9_valueOf : ∀ pc ∈ [18], decode cX9_valueOf pc = .ok (.ireturn, 1) := by decide +kernel
def tX9_times : List (Nat × gStp) := [(0, i_iload 0 1), (1, i_push (.int 2) 2), (2, i_ic_ge 9 5), (5, i_push (.int 1) 6), (6, i_goto 17), (9, i_iload 0 10), (10, i_iload 0 11), (11, i_push (.int 1) 12), (12, i_ii (fun x y => x - y) 13), (16, i_ii (fun x y => x * y) 17)]
set_option maxRecDepth 100000 in
theorem okX9_times : gOk YX9_times tX9_times := ok_c (sn_iload_n (show decode cX9_times 0 = .ok (.iload_n 0, 1) by decide +kernel) rfl) <|
  ok_c (sn_iconst (v := 2) (show decode cX9_times 1 = .ok (.iconst 2, 1) by decide +kernel) (by decide +kernel)) <|
  ok_c (sn_ic_ge (show decode cX9_times 2 = .ok (.if_icmp .ge 7, 3) by decide +kernel) (by decide)) <|
  ok_c (sn_iconst (v := 1) (show decode cX9_times 5 = .ok (.iconst 1, 1) by decide +kernel) (by decide +kernel)) <|
  ok_c (sn_goto (show decode cX9_times 6 = .ok (.goto 11, 3) by decide +kernel) (by decide)) <|
  ok_c (sn_iload_n (show decode cX9_times 9 = .ok (.iload_n 0, 1) by decide +kernel) rfl) <|
  ok_c (sn_iload_n (show decode cX9_times 10 = .ok (.iload_n 0, 1) by decide +kernel) rfl) <|
  ok_c (sn_iconst (v := 1) (show decode cX9_times 11 = .ok (.iconst 1, 1) by decide +kernel) (by decide +kernel)) <|
  ok_c (sn_isub (show decode cX9_times 12 = .ok (.isub, 1) by decide +kernel)) <|
  ok_c (sn_imul (show decode cX9_times 16 = .ok (.imul, 1) by decide +kernel)) <|
  ok_n
def uX9_times : gCT := [(13, YX9_times, 1, none)]
set_option maxRecDepth 100000 in
theorem ocX9_times : gOkC YX9_times uX9_times := oc_c (gEdge_S cal_X9_times (show decode cX9_times 13 = .ok (.invokestatic 393, 3) by decide +kernel) wd_8_72 wd_8_73) <|
  oc_n
theorem reX9_times : ∀ pc ∈ [17], decode cX9_times pc = .ok (.ireturn, 1) := by decide +kernel
def tX9_common : List (Nat × gStp) := [(0, i_iload 1 1), (1, i_if_ne 17 4), (4, i_iload 0 5), (5, i_if_ge 13 8), (8, i_iload 0 9), (9, i_i (fun x => -x) 10), (10, i_goto 24), (13, i_iload 0 14), (14, i_goto 24), (17, i_iload 1 18), (18, i_iload 0 19), (19, i_iload 1 20), (20, i_idiv (fun x y => x - x / y * y) 21)]
set_option maxRecDepth 100000 in
theorem okX9_common : gOk YX9_common tX9_common := ok_c (sn_iload_n (show decode cX9_common 0 = .ok (.iload_n 1, 1) by decide +kernel) rfl) <|
  ok_c (sn_if_ne (show decode cX9_common 1 = .ok (.ifCond .ne 16, 3) by decide +kernel) (by decide)) <|
  ok_c (sn_iload_n (show decode cX9_common 4 = .ok (.iload_n 0, 1) by decide +kernel) rfl) <|
  ok_c (sn_if_ge (show decode cX9_common 5 = .ok (.ifCond .ge 8, 3) by decide +kernel) (by decide)) <|
  ok_c (sn_iload_n (show decode cX9_common 8 = .ok (.iload_n 0, 1) by decide +kernel) rfl) <|
  ok_c (sn_ineg (show decode cX9_common 9 = .ok (.ineg, 1) by decide +kernel)) <|
  ok_c (sn_goto (show decode cX9_common 10 = .ok (.goto 14, 3) by decide +kernel) (by decide)) <|
  ok_c (sn_iload_n (show decode cX9_common 13 = .ok (.iload_n 0, 1) by decide +kernel) rfl) <|
  ok_c (sn_goto (show decode cX9_common 14 = .ok (.goto 10, 3) by decide +kernel) (by decide)) <|
  ok_c (sn_iload_n (show decode cX9_common 17 = .ok (.iload_n 1, 1) by decide +kernel) rfl) <|
  ok_c (sn_iload_n (show decode cX9_common 18 = .ok (.iload_n 0, 1) by decide +kernel) rfl) <|
  ok_c (sn_iload_n (show decode cX9_common 19 = .ok (.iload_n 1, 1) by decide +kernel) rfl) <|
  ok_c (sn_irem (show decode cX9_common 20 = .ok (.irem, 1) by decide +kernel)) <|
  ok_n
def uX9_common : gCT := [(21, YX9_common, 2, none)]
set_option maxRecDepth 100000 in
theorem ocX9_common : gOkC YX9_common uX9_common := oc_c (gEdge_S cal_X9_common (show decode cX9_common 21 = .ok (.invokestatic 396, 3) by decide +kernel) wd_8_82 wd_8_83) <|
  oc_n
theorem reX9_common : ∀ pc ∈ [24], decode cX9_common pc = .ok (.ireturn, 1) := by decide +kernel
def tX9_part : List (Nat × gStp) := [(0, i_iload 2 1), (1, i_if_ne 8 4), (4, i_iload 0 5), (5, i_goto 9), (8, i_iload 1 9), (9, i_iload 0 10), (10, i_iload 1 11), (14, i_idiv (fun x y => x / y) 15)]
set_option maxRecDepth 100000 in
theorem okX9_part : gOk YX9_part tX9_part := ok_c (sn_iload_n (show decode cX9_part 0 = .ok (.iload_n 2, 1) by decide +kernel) rfl) <|
  ok_c (sn_if_ne (show decode cX9_part 1 = .ok (.ifCond .ne 7, 3) by decide +kernel) (by decide)) <|
  ok_c (sn_iload_n (show decode cX9_part 4 = .ok (.iload_n 0, 1) by decide +kernel) rfl) <|
  ok_c (sn_goto (show decode cX9_part 5 = .ok (.goto 4, 3) by decide +kernel) (by decide)) <|
  ok_c (sn_iload_n (show decode cX9_part 8 = .ok (.iload_n 1, 1) by decide +kernel) rfl) <|
  ok_c (sn_iload_n (show decode cX9_part 9 = .ok (.iload_n 0, 1) by decide +kernel) rfl) <|
  ok_c (sn_iload_n (show decode cX9_part 10 = .ok (.iload_n 1, 1) by decide +kernel) rfl) <|
  ok_c (sn_idiv (show decode cX9_part 14 = .ok (.idiv, 1) by decide +kernel)) <|
  ok_n
def uX9_part : gCT := [(11, YX9_common, 2, none)]
set_option maxRecDepth 100000 in
theorem ocX9_part : gOkC YX9_part uX9_part := oc_c (gEdge_S cal_X9_common (show decode cX9_part 11 = .ok (.invokestatic 396, 3) by decide +kernel) wd_8_82 wd_8_83) <|
  oc_n
theorem reX9_part : ∀ pc ∈ [15], decode cX9_part pc = .ok (.ireturn, 1) := by decide +kernel
def tX9_share : List (Nat × gStp) := [(0, i_aload 0 1), (1, i_push (.int 0) 2), (2, i_putI 9 0 5), (5, i_aload 0 6), (6, i_iload 1 7), (7, i_i2l 8), (11, i_if_eq 30 14), (14, i_aload 0 15), (15, i_iload 2 16), (16, i_i2l 17), (20, i_if_eq 30 23), (23, i_iload 3 24), (27, i_if_ne 33 30), (30, i_push (.int (-2)) 32), (33, i_aload 0 34), (37, i_push (.int 0) 38), (38, i_istore 4 40), (40, i_push (.int 0) 41), (41, i_istore 5 43), (43, i_iload 5 45), (45, i_push (.int 1) 46), (46, i_aload 0 47), (50, i_ii (fun x y => x <<< (y &&& 31)) 51), (51, i_ic_ge 122 54), (54, i_iload 5 56), (56, i_iload 1 57), (60, i_if_eq 66 63), (63, i_goto 116), (66, i_iload 5 68), (71, i_istore 6 73), (73, i_iload 4 75), (75, i_iload 6 77), (80, i_aload 0 81), (84, i_iload 6 86), (86, i_ii (fun x y => x - y) 87), (87, i_push (.int 1) 88), (88, i_ii (fun x y => x - y) 89), (92, i_ii (fun x y => x * y) 93), (93, i_aload 0 94), (94, i_iload 5 96), (96, i_push (.int 1) 97), (97, i_iload 1 98), (98, i_ii (fun x y => x <<< (y &&& 31)) 99), (99, i_ii (fun x y => x ||| y) 100), (100, i_iload 2 101), (104, i_aload 0 105), (105, i_iload 5 107), (107, i_iload 2 108), (111, i_ii (fun x y => x - y) 112), (112, i_ii (fun x y => x * y) 113), (113, i_ii (fun x y => x + y) 114), (114, i_istore 4 116), (116, i_iinc 5 1 119), (119, i_goto 43), (122, i_iload 4 124), (124, i_aload 0 125), (131, i_iload 3 132)]
set_option maxRecDepth 100000 in
theorem okX9_share : gOk YX9_share tX9_share := ok_c (sn_aload_n (show decode cX9_share 0 = .ok (.aload_n 0, 1) by decide +kernel) rfl) <|
  ok_c (sn_iconst (v := 0) (show decode cX9_share 1 = .ok (.iconst 0, 1) by decide +kernel) (by decide +kernel)) <|
  ok_c (sn_putI ck_9 (by decide) rfl rfl (show decode cX9_share 2 = .ok (.putfield 77, 3) by decide +kernel) wd_5_217) <|
  ok_c (sn_aload_n (show decode cX9_share 5 = .ok (.aload_n 0, 1) by decide +kernel) rfl) <|
  ok_c (sn_iload_n (show decode cX9_share 6 = .ok (.iload_n 1, 1) by decide +kernel) rfl) <|
  ok_c (sn_i2l (show decode cX9_share 7 = .ok (.i2l, 1) by decide +kernel)) <|
  ok_c (sn_if_eq (show decode cX9_share 11 = .ok (.ifCond .eq 19, 3) by decide +kernel) (by decide)) <|
  ok_c (sn_aload_n (show decode cX9_share 14 = .ok (.aload_n 0, 1) by decide +kernel) rfl) <|
  ok_c (sn_iload_n (show decode cX9_share 15 = .ok (.iload_n 2, 1) by decide +kernel) rfl) <|
  ok_c (sn_i2l (show decode cX9_share 16 = .ok (.i2l, 1) by decide +kernel)) <|
  ok_c (sn_if_eq (show decode cX9_share 20 = .ok (.ifCond .eq 10, 3) by decide +kernel) (by decide)) <|
  ok_c (sn_iload_n (show decode cX9_share 23 = .ok (.iload_n 3, 1) by decide +kernel) rfl) <|
  ok_c (sn_if_ne (show decode cX9_share 27 = .ok (.ifCond .ne 6, 3) by decide +kernel) (by decide)) <|
  ok_c (sn_bipush (v := (-2)) (show decode cX9_share 30 = .ok (.bipush (-2), 2) by decide +kernel) (by decide +kernel)) <|
  ok_c (sn_aload_n (show decode cX9_share 33 = .ok (.aload_n 0, 1) by decide +kernel) rfl) <|
  ok_c (sn_iconst (v := 0) (show decode cX9_share 37 = .ok (.iconst 0, 1) by decide +kernel) (by decide +kernel)) <|
  ok_c (sn_istore (show decode cX9_share 38 = .ok (.istore 4, 2) by decide +kernel) (by decide)) <|
  ok_c (sn_iconst (v := 0) (show decode cX9_share 40 = .ok (.iconst 0, 1) by decide +kernel) (by decide +kernel)) <|
  ok_c (sn_istore (show decode cX9_share 41 = .ok (.istore 5, 2) by decide +kernel) (by decide)) <|
  ok_c (sn_iload (show decode cX9_share 43 = .ok (.iload 5, 2) by decide +kernel)) <|
  ok_c (sn_iconst (v := 1) (show decode cX9_share 45 = .ok (.iconst 1, 1) by decide +kernel) (by decide +kernel)) <|
  ok_c (sn_aload_n (show decode cX9_share 46 = .ok (.aload_n 0, 1) by decide +kernel) rfl) <|
  ok_c (sn_ishl (show decode cX9_share 50 = .ok (.ishl, 1) by decide +kernel)) <|
  ok_c (sn_ic_ge (show decode cX9_share 51 = .ok (.if_icmp .ge 71, 3) by decide +kernel) (by decide)) <|
  ok_c (sn_iload (show decode cX9_share 54 = .ok (.iload 5, 2) by decide +kernel)) <|
  ok_c (sn_iload_n (show decode cX9_share 56 = .ok (.iload_n 1, 1) by decide +kernel) rfl) <|
  ok_c (sn_if_eq (show decode cX9_share 60 = .ok (.ifCond .eq 6, 3) by decide +kernel) (by decide)) <|
  ok_c (sn_goto (show decode cX9_share 63 = .ok (.goto 53, 3) by decide +kernel) (by decide)) <|
  ok_c (sn_iload (show decode cX9_share 66 = .ok (.iload 5, 2) by decide +kernel)) <|
  ok_c (sn_istore (show decode cX9_share 71 = .ok (.istore 6, 2) by decide +kernel) (by decide)) <|
  ok_c (sn_iload (show decode cX9_share 73 = .ok (.iload 4, 2) by decide +kernel)) <|
  ok_c (sn_iload (show decode cX9_share 75 = .ok (.iload 6, 2) by decide +kernel)) <|
  ok_c (sn_aload_n (show decode cX9_share 80 = .ok (.aload_n 0, 1) by decide +kernel) rfl) <|
  ok_c (sn_iload (show decode cX9_share 84 = .ok (.iload 6, 2) by decide +kernel)) <|
  ok_c (sn_isub (show decode cX9_share 86 = .ok (.isub, 1) by decide +kernel)) <|
  ok_c (sn_iconst (v := 1) (show decode cX9_share 87 = .ok (.iconst 1, 1) by decide +kernel) (by decide +kernel)) <|
  ok_c (sn_isub (show decode cX9_share 88 = .ok (.isub, 1) by decide +kernel)) <|
  ok_c (sn_imul (show decode cX9_share 92 = .ok (.imul, 1) by decide +kernel)) <|
  ok_c (sn_aload_n (show decode cX9_share 93 = .ok (.aload_n 0, 1) by decide +kernel) rfl) <|
  ok_c (sn_iload (show decode cX9_share 94 = .ok (.iload 5, 2) by decide +kernel)) <|
  ok_c (sn_iconst (v := 1) (show decode cX9_share 96 = .ok (.iconst 1, 1) by decide +kernel) (by decide +kernel)) <|
  ok_c (sn_iload_n (show decode cX9_share 97 = .ok (.iload_n 1, 1) by decide +kernel) rfl) <|
  ok_c (sn_ishl (show decode cX9_share 98 = .ok (.ishl, 1) by decide +kernel)) <|
  ok_c (sn_ior (show decode cX9_share 99 = .ok (.ior, 1) by decide +kernel)) <|
  ok_c (sn_iload_n (show decode cX9_share 100 = .ok (.iload_n 2, 1) by decide +kernel) rfl) <|
  ok_c (sn_aload_n (show decode cX9_share 104 = .ok (.aload_n 0, 1) by decide +kernel) rfl) <|
  ok_c (sn_iload (show decode cX9_share 105 = .ok (.iload 5, 2) by decide +kernel)) <|
  ok_c (sn_iload_n (show decode cX9_share 107 = .ok (.iload_n 2, 1) by decide +kernel) rfl) <|
  ok_c (sn_isub (show decode cX9_share 111 = .ok (.isub, 1) by decide +kernel)) <|
  ok_c (sn_imul (show decode cX9_share 112 = .ok (.imul, 1) by decide +kernel)) <|
  ok_c (sn_iadd (show decode cX9_share 113 = .ok (.iadd, 1) by decide +kernel)) <|
  ok_c (sn_istore (show decode cX9_share 114 = .ok (.istore 4, 2) by decide +kernel) (by decide)) <|
  ok_c (sn_iinc (show decode cX9_share 116 = .ok (.iinc 5 1, 3) by decide +kernel) (by decide) (by decide +kernel)) <|
  ok_c (sn_goto (show decode cX9_share 119 = .ok (.goto (-76), 3) by decide +kernel) (by decide)) <|
  ok_c (sn_iload (show decode cX9_share 122 = .ok (.iload 4, 2) by decide +kernel)) <|
  ok_c (sn_aload_n (show decode cX9_share 124 = .ok (.aload_n 0, 1) by decide +kernel) rfl) <|
  ok_c (sn_iload_n (show decode cX9_share 131 = .ok (.iload_n 3, 1) by decide +kernel) rfl) <|
  ok_n
def uX9_share : gCT := [(8, YX9_isPerson, 2, some 9), (17, YX9_isDoor, 2, some 9), (24, YX9_isHalf, 1, none), (34, YX9_lays, 1, some 9), (47, YX9_people, 1, some 9), (57, YX9_isBit, 2, none), (68, YX9_sizeOf, 1, none), (77, YX9_times, 1, none), (81, YX9_people, 1, some 9), (89, YX9_times, 1, none), (101, YX9_valueOf, 3, some 9), (108, YX9_valueOf, 3, some 9), (125, YX9_people, 1, some 9), (128, YX9_times, 1, none), (132, YX9_part, 3, none)]
set_option maxRecDepth 100000 in
theorem ocX9_share : gOkC YX9_share uX9_share := oc_c (gEdge_V cal_X9_isPerson ck_9 rfl (show decode cX9_share 8 = .ok (.invokevirtual 247, 3) by decide +kernel) wd_7_46 wd_7_48 wp_5_5) <|
  oc_c (gEdge_V cal_X9_isDoor ck_9 rfl (show decode cX9_share 17 = .ok (.invokevirtual 351, 3) by decide +kernel) wd_7_71 wd_7_73 wp_5_9) <|
  oc_c (gEdge_S cal_X9_isHalf (show decode cX9_share 24 = .ok (.invokestatic 399, 3) by decide +kernel) wd_8_69 wd_8_70) <|
  oc_c (gEdge_V cal_X9_lays ck_9 rfl (show decode cX9_share 34 = .ok (.invokevirtual 329, 3) by decide +kernel) wd_7_91 wd_7_93 wp_5_13) <|
  oc_c (gEdge_V cal_X9_people ck_9 rfl (show decode cX9_share 47 = .ok (.invokevirtual 244, 3) by decide +kernel) wd_7_50 wd_7_52 wp_5_6) <|
  oc_c (gEdge_S cal_X9_isBit (show decode cX9_share 57 = .ok (.invokestatic 281, 3) by decide +kernel) wd_7_115 wd_7_116) <|
  oc_c (gEdge_S cal_X9_sizeOf (show decode cX9_share 68 = .ok (.invokestatic 334, 3) by decide +kernel) wd_7_198 wd_7_199) <|
  oc_c (gEdge_S cal_X9_times (show decode cX9_share 77 = .ok (.invokestatic 393, 3) by decide +kernel) wd_8_72 wd_8_73) <|
  oc_c (gEdge_V cal_X9_people ck_9 rfl (show decode cX9_share 81 = .ok (.invokevirtual 244, 3) by decide +kernel) wd_7_50 wd_7_52 wp_5_6) <|
  oc_c (gEdge_S cal_X9_times (show decode cX9_share 89 = .ok (.invokestatic 393, 3) by decide +kernel) wd_8_72 wd_8_73) <|
  oc_c (gEdge_V cal_X9_valueOf ck_9 rfl (show decode cX9_share 101 = .ok (.invokevirtual 402, 3) by decide +kernel) wd_8_75 wd_8_77 wp_7_10) <|
  oc_c (gEdge_V cal_X9_valueOf ck_9 rfl (show decode cX9_share 108 = .ok (.invokevirtual 402, 3) by decide +kernel) wd_8_75 wd_8_77 wp_7_10) <|
  oc_c (gEdge_V cal_X9_people ck_9 rfl (show decode cX9_share 125 = .ok (.invokevirtual 244, 3) by decide +kernel) wd_7_50 wd_7_52 wp_5_6) <|
  oc_c (gEdge_S cal_X9_times (show decode cX9_share 128 = .ok (.invokestatic 393, 3) by decide +kernel) wd_8_72 wd_8_73) <|
  oc_c (gEdge_S cal_X9_part (show decode cX9_share 132 = .ok (.invokestatic 405, 3) by decide +kernel) wd_8_79 wd_8_80) <|
  oc_n
theorem reX9_share : ∀ pc ∈ [32, 135], decode cX9_share pc = .ok (.ireturn, 1) := by decide +kernel
def tX9_whyNotFair : List (Nat × gStp) := [(0, i_iload 1 1), (4, i_if_eq 16 7), (7, i_aload 0 8), (8, i_iload 2 9), (9, i_i2l 10), (13, i_if_ne 19 16), (16, i_push (.int (-2)) 18), (19, i_aload 0 20), (20, i_getC 9 142 23), (23, i_iload 1 24), (24, i_iald 25), (25, i_push (.int (-1)) 26), (26, i_ic_ne 32 29), (29, i_push (.int (-6)) 31), (32, i_aload 0 33), (33, i_getC 9 143 36), (36, i_iload 1 37), (37, i_iald 38), (38, i_aload 0 39), (42, i_ic_ne 49 45), (45, i_push (.int 0) 46), (46, i_goto 51), (49, i_push (.int (-2)) 51)]
set_option maxRecDepth 100000 in
theorem okX9_whyNotFair : gOk YX9_whyNotFair tX9_whyNotFair := ok_c (sn_iload_n (show decode cX9_whyNotFair 0 = .ok (.iload_n 1, 1) by decide +kernel) rfl) <|
  ok_c (sn_if_eq (show decode cX9_whyNotFair 4 = .ok (.ifCond .eq 12, 3) by decide +kernel) (by decide)) <|
  ok_c (sn_aload_n (show decode cX9_whyNotFair 7 = .ok (.aload_n 0, 1) by decide +kernel) rfl) <|
  ok_c (sn_iload_n (show decode cX9_whyNotFair 8 = .ok (.iload_n 2, 1) by decide +kernel) rfl) <|
  ok_c (sn_i2l (show decode cX9_whyNotFair 9 = .ok (.i2l, 1) by decide +kernel)) <|
  ok_c (sn_if_ne (show decode cX9_whyNotFair 13 = .ok (.ifCond .ne 6, 3) by decide +kernel) (by decide)) <|
  ok_c (sn_bipush (v := (-2)) (show decode cX9_whyNotFair 16 = .ok (.bipush (-2), 2) by decide +kernel) (by decide +kernel)) <|
  ok_c (sn_aload_n (show decode cX9_whyNotFair 19 = .ok (.aload_n 0, 1) by decide +kernel) rfl) <|
  ok_c (sn_getC (j := 1) (fun _ _ => rfl) (sn_get ck_9 (by decide) (show decode cX9_whyNotFair 20 = .ok (.getfield 7, 3) by decide +kernel) wd_5_218)) <|
  ok_c (sn_iload_n (show decode cX9_whyNotFair 23 = .ok (.iload_n 1, 1) by decide +kernel) rfl) <|
  ok_c (sn_iald (show decode cX9_whyNotFair 24 = .ok (.iaload, 1) by decide +kernel)) <|
  ok_c (sn_iconst (v := (-1)) (show decode cX9_whyNotFair 25 = .ok (.iconst (-1), 1) by decide +kernel) (by decide +kernel)) <|
  ok_c (sn_ic_ne (show decode cX9_whyNotFair 26 = .ok (.if_icmp .ne 6, 3) by decide +kernel) (by decide)) <|
  ok_c (sn_bipush (v := (-6)) (show decode cX9_whyNotFair 29 = .ok (.bipush (-6), 2) by decide +kernel) (by decide +kernel)) <|
  ok_c (sn_aload_n (show decode cX9_whyNotFair 32 = .ok (.aload_n 0, 1) by decide +kernel) rfl) <|
  ok_c (sn_getC (j := 2) (fun _ _ => rfl) (sn_get ck_9 (by decide) (show decode cX9_whyNotFair 33 = .ok (.getfield 13, 3) by decide +kernel) wd_5_219)) <|
  ok_c (sn_iload_n (show decode cX9_whyNotFair 36 = .ok (.iload_n 1, 1) by decide +kernel) rfl) <|
  ok_c (sn_iald (show decode cX9_whyNotFair 37 = .ok (.iaload, 1) by decide +kernel)) <|
  ok_c (sn_aload_n (show decode cX9_whyNotFair 38 = .ok (.aload_n 0, 1) by decide +kernel) rfl) <|
  ok_c (sn_ic_ne (show decode cX9_whyNotFair 42 = .ok (.if_icmp .ne 7, 3) by decide +kernel) (by decide)) <|
  ok_c (sn_iconst (v := 0) (show decode cX9_whyNotFair 45 = .ok (.iconst 0, 1) by decide +kernel) (by decide +kernel)) <|
  ok_c (sn_goto (show decode cX9_whyNotFair 46 = .ok (.goto 5, 3) by decide +kernel) (by decide)) <|
  ok_c (sn_bipush (v := (-2)) (show decode cX9_whyNotFair 49 = .ok (.bipush (-2), 2) by decide +kernel) (by decide +kernel)) <|
  ok_n
def uX9_whyNotFair : gCT := [(1, YX9_isSlot, 1, none), (10, YX9_isDoor, 2, some 9), (39, YX9_people, 1, some 9)]
set_option maxRecDepth 100000 in
theorem ocX9_whyNotFair : gOkC YX9_whyNotFair uX9_whyNotFair := oc_c (gEdge_S cal_X9_isSlot (show decode cX9_whyNotFair 1 = .ok (.invokestatic 86, 3) by decide +kernel) wd_6_130 wd_6_131) <|
  oc_c (gEdge_V cal_X9_isDoor ck_9 rfl (show decode cX9_whyNotFair 10 = .ok (.invokevirtual 351, 3) by decide +kernel) wd_7_71 wd_7_73 wp_5_9) <|
  oc_c (gEdge_V cal_X9_people ck_9 rfl (show decode cX9_whyNotFair 39 = .ok (.invokevirtual 244, 3) by decide +kernel) wd_7_50 wd_7_52 wp_5_6) <|
  oc_n
theorem reX9_whyNotFair : ∀ pc ∈ [18, 31, 51], decode cX9_whyNotFair pc = .ok (.ireturn, 1) := by decide +kernel
def tX9_laysGiven : List (Nat × gStp) := [(0, i_aload 0 1), (1, i_push (.long 0) 2), (2, i_putJ 9 39 5), (5, i_aload 0 6), (6, i_push (.long 0) 7), (7, i_putJ 9 40 10), (10, i_push (.int 0) 11), (11, i_istore 3 12), (12, i_iload 3 13), (13, i_aload 0 14), (17, i_ic_ge 84 20), (20, i_iload 2 21), (21, i_iload 3 22), (25, i_if_ne 31 28), (28, i_goto 78), (31, i_aload 0 32), (32, i_dup 33), (33, i_getJ 9 39 36), (36, i_aload 0 37), (37, i_getC 9 144 40), (40, i_push (.int 60) 42), (42, i_iload 1 43), (43, i_ii (fun x y => x * y) 44), (44, i_iload 3 45), (45, i_ii (fun x y => x + y) 46), (46, i_lald 47), (47, i_push (.int 32) 49), (49, i_li (fun x y => x >>> (y.toInt64 &&& 63)) 50), (50, i_ll (fun x y => x + y) 51), (51, i_putJ 9 39 54), (54, i_aload 0 55), (55, i_dup 56), (56, i_getJ 9 40 59), (59, i_aload 0 60), (60, i_getC 9 144 63), (63, i_push (.int 60) 65), (65, i_iload 1 66), (66, i_ii (fun x y => x * y) 67), (67, i_iload 3 68), (68, i_ii (fun x y => x + y) 69), (69, i_lald 70), (70, i_push (.long 4294967295) 73), (73, i_ll (fun x y => x &&& y) 74), (74, i_ll (fun x y => x + y) 75), (75, i_putJ 9 40 78), (78, i_iinc 3 1 81), (81, i_goto 12), (84, i_aload 0 85), (85, i_dup 86), (86, i_getJ 9 39 89), (89, i_aload 0 90), (90, i_getJ 9 40 93), (93, i_push (.int 32) 95), (95, i_li (fun x y => x >>> (y.toInt64 &&& 63)) 96), (96, i_ll (fun x y => x + y) 97), (97, i_putJ 9 39 100), (100, i_aload 0 101), (101, i_dup 102), (102, i_getJ 9 40 105), (105, i_push (.long 4294967295) 108), (108, i_ll (fun x y => x &&& y) 109), (109, i_putJ 9 40 112)]
set_option maxRecDepth 100000 in
theorem okX9_laysGiven : gOk YX9_laysGiven tX9_laysGiven := ok_c (sn_aload_n (show decode cX9_laysGiven 0 = .ok (.aload_n 0, 1) by decide +kernel) rfl) <|
  ok_c (sn_lconst (v := 0) (show decode cX9_laysGiven 1 = .ok (.lconst 0, 1) by decide +kernel) (by decide +kernel)) <|
  ok_c (sn_putJ ck_9 (by decide) rfl rfl (show decode cX9_laysGiven 2 = .ok (.putfield 409, 3) by decide +kernel) wd_6_16) <|
  ok_c (sn_aload_n (show decode cX9_laysGiven 5 = .ok (.aload_n 0, 1) by decide +kernel) rfl) <|
  ok_c (sn_lconst (v := 0) (show decode cX9_laysGiven 6 = .ok (.lconst 0, 1) by decide +kernel) (by decide +kernel)) <|
  ok_c (sn_putJ ck_9 (by decide) rfl rfl (show decode cX9_laysGiven 7 = .ok (.putfield 412, 3) by decide +kernel) wd_6_17) <|
  ok_c (sn_iconst (v := 0) (show decode cX9_laysGiven 10 = .ok (.iconst 0, 1) by decide +kernel) (by decide +kernel)) <|
  ok_c (sn_istore_n (show decode cX9_laysGiven 11 = .ok (.istore_n 3, 1) by decide +kernel) rfl (by decide)) <|
  ok_c (sn_iload_n (show decode cX9_laysGiven 12 = .ok (.iload_n 3, 1) by decide +kernel) rfl) <|
  ok_c (sn_aload_n (show decode cX9_laysGiven 13 = .ok (.aload_n 0, 1) by decide +kernel) rfl) <|
  ok_c (sn_ic_ge (show decode cX9_laysGiven 17 = .ok (.if_icmp .ge 67, 3) by decide +kernel) (by decide)) <|
  ok_c (sn_iload_n (show decode cX9_laysGiven 20 = .ok (.iload_n 2, 1) by decide +kernel) rfl) <|
  ok_c (sn_iload_n (show decode cX9_laysGiven 21 = .ok (.iload_n 3, 1) by decide +kernel) rfl) <|
  ok_c (sn_if_ne (show decode cX9_laysGiven 25 = .ok (.ifCond .ne 6, 3) by decide +kernel) (by decide)) <|
  ok_c (sn_goto (show decode cX9_laysGiven 28 = .ok (.goto 50, 3) by decide +kernel) (by decide)) <|
  ok_c (sn_aload_n (show decode cX9_laysGiven 31 = .ok (.aload_n 0, 1) by decide +kernel) rfl) <|
  ok_c (sn_dup (show decode cX9_laysGiven 32 = .ok (.dup, 1) by decide +kernel)) <|
  ok_c (sn_getJ (fun _ _ => rfl) (sn_get ck_9 (by decide) (show decode cX9_laysGiven 33 = .ok (.getfield 409, 3) by decide +kernel) wd_6_16)) <|
  ok_c (sn_aload_n (show decode cX9_laysGiven 36 = .ok (.aload_n 0, 1) by decide +kernel) rfl) <|
  ok_c (sn_getC (j := 3) (fun _ _ => rfl) (sn_get ck_9 (by decide) (show decode cX9_laysGiven 37 = .ok (.getfield 16, 3) by decide +kernel) wd_5_220)) <|
  ok_c (sn_bipush (v := 60) (show decode cX9_laysGiven 40 = .ok (.bipush 60, 2) by decide +kernel) (by decide +kernel)) <|
  ok_c (sn_iload_n (show decode cX9_laysGiven 42 = .ok (.iload_n 1, 1) by decide +kernel) rfl) <|
  ok_c (sn_imul (show decode cX9_laysGiven 43 = .ok (.imul, 1) by decide +kernel)) <|
  ok_c (sn_iload_n (show decode cX9_laysGiven 44 = .ok (.iload_n 3, 1) by decide +kernel) rfl) <|
  ok_c (sn_iadd (show decode cX9_laysGiven 45 = .ok (.iadd, 1) by decide +kernel)) <|
  ok_c (sn_lald (show decode cX9_laysGiven 46 = .ok (.laload, 1) by decide +kernel)) <|
  ok_c (sn_bipush (v := 32) (show decode cX9_laysGiven 47 = .ok (.bipush 32, 2) by decide +kernel) (by decide +kernel)) <|
  ok_c (sn_lshr (show decode cX9_laysGiven 49 = .ok (.lshr, 1) by decide +kernel)) <|
  ok_c (sn_ladd (show decode cX9_laysGiven 50 = .ok (.ladd, 1) by decide +kernel)) <|
  ok_c (sn_putJ ck_9 (by decide) rfl rfl (show decode cX9_laysGiven 51 = .ok (.putfield 409, 3) by decide +kernel) wd_6_16) <|
  ok_c (sn_aload_n (show decode cX9_laysGiven 54 = .ok (.aload_n 0, 1) by decide +kernel) rfl) <|
  ok_c (sn_dup (show decode cX9_laysGiven 55 = .ok (.dup, 1) by decide +kernel)) <|
  ok_c (sn_getJ (fun _ _ => rfl) (sn_get ck_9 (by decide) (show decode cX9_laysGiven 56 = .ok (.getfield 412, 3) by decide +kernel) wd_6_17)) <|
  ok_c (sn_aload_n (show decode cX9_laysGiven 59 = .ok (.aload_n 0, 1) by decide +kernel) rfl) <|
  ok_c (sn_getC (j := 3) (fun _ _ => rfl) (sn_get ck_9 (by decide) (show decode cX9_laysGiven 60 = .ok (.getfield 16, 3) by decide +kernel) wd_5_220)) <|
  ok_c (sn_bipush (v := 60) (show decode cX9_laysGiven 63 = .ok (.bipush 60, 2) by decide +kernel) (by decide +kernel)) <|
  ok_c (sn_iload_n (show decode cX9_laysGiven 65 = .ok (.iload_n 1, 1) by decide +kernel) rfl) <|
  ok_c (sn_imul (show decode cX9_laysGiven 66 = .ok (.imul, 1) by decide +kernel)) <|
  ok_c (sn_iload_n (show decode cX9_laysGiven 67 = .ok (.iload_n 3, 1) by decide +kernel) rfl) <|
  ok_c (sn_iadd (show decode cX9_laysGiven 68 = .ok (.iadd, 1) by decide +kernel)) <|
  ok_c (sn_lald (show decode cX9_laysGiven 69 = .ok (.laload, 1) by decide +kernel)) <|
  ok_c (sn_ldc2 (show decode cX9_laysGiven 70 = .ok (.ldc2_w 415, 3) by decide +kernel) wd_8_105) <|
  ok_c (sn_land (show decode cX9_laysGiven 73 = .ok (.land, 1) by decide +kernel)) <|
  ok_c (sn_ladd (show decode cX9_laysGiven 74 = .ok (.ladd, 1) by decide +kernel)) <|
  ok_c (sn_putJ ck_9 (by decide) rfl rfl (show decode cX9_laysGiven 75 = .ok (.putfield 412, 3) by decide +kernel) wd_6_17) <|
  ok_c (sn_iinc (show decode cX9_laysGiven 78 = .ok (.iinc 3 1, 3) by decide +kernel) (by decide) (by decide +kernel)) <|
  ok_c (sn_goto (show decode cX9_laysGiven 81 = .ok (.goto (-69), 3) by decide +kernel) (by decide)) <|
  ok_c (sn_aload_n (show decode cX9_laysGiven 84 = .ok (.aload_n 0, 1) by decide +kernel) rfl) <|
  ok_c (sn_dup (show decode cX9_laysGiven 85 = .ok (.dup, 1) by decide +kernel)) <|
  ok_c (sn_getJ (fun _ _ => rfl) (sn_get ck_9 (by decide) (show decode cX9_laysGiven 86 = .ok (.getfield 409, 3) by decide +kernel) wd_6_16)) <|
  ok_c (sn_aload_n (show decode cX9_laysGiven 89 = .ok (.aload_n 0, 1) by decide +kernel) rfl) <|
  ok_c (sn_getJ (fun _ _ => rfl) (sn_get ck_9 (by decide) (show decode cX9_laysGiven 90 = .ok (.getfield 412, 3) by decide +kernel) wd_6_17)) <|
  ok_c (sn_bipush (v := 32) (show decode cX9_laysGiven 93 = .ok (.bipush 32, 2) by decide +kernel) (by decide +kernel)) <|
  ok_c (sn_lshr (show decode cX9_laysGiven 95 = .ok (.lshr, 1) by decide +kernel)) <|
  ok_c (sn_ladd (show decode cX9_laysGiven 96 = .ok (.ladd, 1) by decide +kernel)) <|
  ok_c (sn_putJ ck_9 (by decide) rfl rfl (show decode cX9_laysGiven 97 = .ok (.putfield 409, 3) by decide +kernel) wd_6_16) <|
  ok_c (sn_aload_n (show decode cX9_laysGiven 100 = .ok (.aload_n 0, 1) by decide +kernel) rfl) <|
  ok_c (sn_dup (show decode cX9_laysGiven 101 = .ok (.dup, 1) by decide +kernel)) <|
  ok_c (sn_getJ (fun _ _ => rfl) (sn_get ck_9 (by decide) (show decode cX9_laysGiven 102 = .ok (.getfield 412, 3) by decide +kernel) wd_6_17)) <|
  ok_c (sn_ldc2 (show decode cX9_laysGiven 105 = .ok (.ldc2_w 415, 3) by decide +kernel) wd_8_105) <|
  ok_c (sn_land (show decode cX9_laysGiven 108 = .ok (.land, 1) by decide +kernel)) <|
  ok_c (sn_putJ ck_9 (by decide) rfl rfl (show decode cX9_laysGiven 109 = .ok (.putfield 412, 3) by decide +kernel) wd_6_17) <|
  ok_n
def uX9_laysGiven : gCT := [(14, YX9_people, 1, some 9), (22, YX9_isBit, 2, none)]
set_option maxRecDepth 100000 in
theorem ocX9_laysGiven : gOkC YX9_laysGiven uX9_laysGiven := oc_c (gEdge_V cal_X9_people ck_9 rfl (show decode cX9_laysGiven 14 = .ok (.invokevirtual 244, 3) by decide +kernel) wd_7_50 wd_7_52 wp_5_6) <|
  oc_c (gEdge_S cal_X9_isBit (show decode cX9_laysGiven 22 = .ok (.invokestatic 281, 3) by decide +kernel) wd_7_115 wd_7_116) <|
  oc_n
theorem reX9_laysGiven : ∀ pc ∈ [112], decode cX9_laysGiven pc = .ok (.return_, 1) := by decide +kernel
def tX9_isGivenLess : List (Nat × gStp) := [(0, i_aload 0 1), (1, i_iload 1 2), (2, i_iload 2 3), (6, i_aload 0 7), (7, i_getJ 9 39 10), (10, i_lload 3 11), (11, i_push (.int 32) 13), (13, i_li (fun x y => x >>> (y.toInt64 &&& 63)) 14), (14, i_lcmp 15), (15, i_if_lt 43 18), (18, i_aload 0 19), (19, i_getJ 9 39 22), (22, i_lload 3 23), (23, i_push (.int 32) 25), (25, i_li (fun x y => x >>> (y.toInt64 &&& 63)) 26), (26, i_lcmp 27), (27, i_if_ne 47 30), (30, i_aload 0 31), (31, i_getJ 9 40 34), (34, i_lload 3 35), (35, i_push (.long 4294967295) 38), (38, i_ll (fun x y => x &&& y) 39), (39, i_lcmp 40), (40, i_if_ge 47 43), (43, i_push (.int 1) 44), (44, i_goto 48), (47, i_push (.int 0) 48)]
set_option maxRecDepth 100000 in
theorem okX9_isGivenLess : gOk YX9_isGivenLess tX9_isGivenLess := ok_c (sn_aload_n (show decode cX9_isGivenLess 0 = .ok (.aload_n 0, 1) by decide +kernel) rfl) <|
  ok_c (sn_iload_n (show decode cX9_isGivenLess 1 = .ok (.iload_n 1, 1) by decide +kernel) rfl) <|
  ok_c (sn_iload_n (show decode cX9_isGivenLess 2 = .ok (.iload_n 2, 1) by decide +kernel) rfl) <|
  ok_c (sn_aload_n (show decode cX9_isGivenLess 6 = .ok (.aload_n 0, 1) by decide +kernel) rfl) <|
  ok_c (sn_getJ (fun _ _ => rfl) (sn_get ck_9 (by decide) (show decode cX9_isGivenLess 7 = .ok (.getfield 409, 3) by decide +kernel) wd_6_16)) <|
  ok_c (sn_lload_n (show decode cX9_isGivenLess 10 = .ok (.lload_n 3, 1) by decide +kernel) rfl) <|
  ok_c (sn_bipush (v := 32) (show decode cX9_isGivenLess 11 = .ok (.bipush 32, 2) by decide +kernel) (by decide +kernel)) <|
  ok_c (sn_lshr (show decode cX9_isGivenLess 13 = .ok (.lshr, 1) by decide +kernel)) <|
  ok_c (sn_lcmp (show decode cX9_isGivenLess 14 = .ok (.lcmp, 1) by decide +kernel)) <|
  ok_c (sn_if_lt (show decode cX9_isGivenLess 15 = .ok (.ifCond .lt 28, 3) by decide +kernel) (by decide)) <|
  ok_c (sn_aload_n (show decode cX9_isGivenLess 18 = .ok (.aload_n 0, 1) by decide +kernel) rfl) <|
  ok_c (sn_getJ (fun _ _ => rfl) (sn_get ck_9 (by decide) (show decode cX9_isGivenLess 19 = .ok (.getfield 409, 3) by decide +kernel) wd_6_16)) <|
  ok_c (sn_lload_n (show decode cX9_isGivenLess 22 = .ok (.lload_n 3, 1) by decide +kernel) rfl) <|
  ok_c (sn_bipush (v := 32) (show decode cX9_isGivenLess 23 = .ok (.bipush 32, 2) by decide +kernel) (by decide +kernel)) <|
  ok_c (sn_lshr (show decode cX9_isGivenLess 25 = .ok (.lshr, 1) by decide +kernel)) <|
  ok_c (sn_lcmp (show decode cX9_isGivenLess 26 = .ok (.lcmp, 1) by decide +kernel)) <|
  ok_c (sn_if_ne (show decode cX9_isGivenLess 27 = .ok (.ifCond .ne 20, 3) by decide +kernel) (by decide)) <|
  ok_c (sn_aload_n (show decode cX9_isGivenLess 30 = .ok (.aload_n 0, 1) by decide +kernel) rfl) <|
  ok_c (sn_getJ (fun _ _ => rfl) (sn_get ck_9 (by decide) (show decode cX9_isGivenLess 31 = .ok (.getfield 412, 3) by decide +kernel) wd_6_17)) <|
  ok_c (sn_lload_n (show decode cX9_isGivenLess 34 = .ok (.lload_n 3, 1) by decide +kernel) rfl) <|
  ok_c (sn_ldc2 (show decode cX9_isGivenLess 35 = .ok (.ldc2_w 415, 3) by decide +kernel) wd_8_105) <|
  ok_c (sn_land (show decode cX9_isGivenLess 38 = .ok (.land, 1) by decide +kernel)) <|
  ok_c (sn_lcmp (show decode cX9_isGivenLess 39 = .ok (.lcmp, 1) by decide +kernel)) <|
  ok_c (sn_if_ge (show decode cX9_isGivenLess 40 = .ok (.ifCond .ge 7, 3) by decide +kernel) (by decide)) <|
  ok_c (sn_iconst (v := 1) (show decode cX9_isGivenLess 43 = .ok (.iconst 1, 1) by decide +kernel) (by decide +kernel)) <|
  ok_c (sn_goto (show decode cX9_isGivenLess 44 = .ok (.goto 4, 3) by decide +kernel) (by decide)) <|
  ok_c (sn_iconst (v := 0) (show decode cX9_isGivenLess 47 = .ok (.iconst 0, 1) by decide +kernel) (by decide +kernel)) <|
  ok_n
def uX9_isGivenLess : gCT := [(3, YX9_laysGiven, 3, some 9)]
set_option maxRecDepth 100000 in
theorem ocX9_isGivenLess : gOkC YX9_isGivenLess uX9_isGivenLess := oc_c (gEdge_V cal_X9_laysGiven ck_9 rfl (show decode cX9_isGivenLess 3 = .ok (.invokevirtual 417, 3) by decide +kernel) wd_8_101 wd_8_103 wp_7_14) <|
  oc_n
theorem reX9_isGivenLess : ∀ pc ∈ [48], decode cX9_isGivenLess pc = .ok (.ireturn, 1) := by decide +kernel
def tX9_isGivenJust : List (Nat × gStp) := [(0, i_aload 0 1), (1, i_iload 1 2), (2, i_iload 2 3), (6, i_aload 0 7), (7, i_getJ 9 39 10), (10, i_lload 3 11), (11, i_push (.int 32) 13), (13, i_li (fun x y => x >>> (y.toInt64 &&& 63)) 14), (14, i_lcmp 15), (15, i_if_ne 35 18), (18, i_aload 0 19), (19, i_getJ 9 40 22), (22, i_lload 3 23), (23, i_push (.long 4294967295) 26), (26, i_ll (fun x y => x &&& y) 27), (27, i_lcmp 28), (28, i_if_ne 35 31), (31, i_push (.int 1) 32), (32, i_goto 36), (35, i_push (.int 0) 36)]
set_option maxRecDepth 100000 in
theorem okX9_isGivenJust : gOk YX9_isGivenJust tX9_isGivenJust := ok_c (sn_aload_n (show decode cX9_isGivenJust 0 = .ok (.aload_n 0, 1) by decide +kernel) rfl) <|
  ok_c (sn_iload_n (show decode cX9_isGivenJust 1 = .ok (.iload_n 1, 1) by decide +kernel) rfl) <|
  ok_c (sn_iload_n (show decode cX9_isGivenJust 2 = .ok (.iload_n 2, 1) by decide +kernel) rfl) <|
  ok_c (sn_aload_n (show decode cX9_isGivenJust 6 = .ok (.aload_n 0, 1) by decide +kernel) rfl) <|
  ok_c (sn_getJ (fun _ _ => rfl) (sn_get ck_9 (by decide) (show decode cX9_isGivenJust 7 = .ok (.getfield 409, 3) by decide +kernel) wd_6_16)) <|
  ok_c (sn_lload_n (show decode cX9_isGivenJust 10 = .ok (.lload_n 3, 1) by decide +kernel) rfl) <|
  ok_c (sn_bipush (v := 32) (show decode cX9_isGivenJust 11 = .ok (.bipush 32, 2) by decide +kernel) (by decide +kernel)) <|
  ok_c (sn_lshr (show decode cX9_isGivenJust 13 = .ok (.lshr, 1) by decide +kernel)) <|
  ok_c (sn_lcmp (show decode cX9_isGivenJust 14 = .ok (.lcmp, 1) by decide +kernel)) <|
  ok_c (sn_if_ne (show decode cX9_isGivenJust 15 = .ok (.ifCond .ne 20, 3) by decide +kernel) (by decide)) <|
  ok_c (sn_aload_n (show decode cX9_isGivenJust 18 = .ok (.aload_n 0, 1) by decide +kernel) rfl) <|
  ok_c (sn_getJ (fun _ _ => rfl) (sn_get ck_9 (by decide) (show decode cX9_isGivenJust 19 = .ok (.getfield 412, 3) by decide +kernel) wd_6_17)) <|
  ok_c (sn_lload_n (show decode cX9_isGivenJust 22 = .ok (.lload_n 3, 1) by decide +kernel) rfl) <|
  ok_c (sn_ldc2 (show decode cX9_isGivenJust 23 = .ok (.ldc2_w 415, 3) by decide +kernel) wd_8_105) <|
  ok_c (sn_land (show decode cX9_isGivenJust 26 = .ok (.land, 1) by decide +kernel)) <|
  ok_c (sn_lcmp (show decode cX9_isGivenJust 27 = .ok (.lcmp, 1) by decide +kernel)) <|
  ok_c (sn_if_ne (show decode cX9_isGivenJust 28 = .ok (.ifCond .ne 7, 3) by decide +kernel) (by decide)) <|
  ok_c (sn_iconst (v := 1) (show decode cX9_isGivenJust 31 = .ok (.iconst 1, 1) by decide +kernel) (by decide +kernel)) <|
  ok_c (sn_goto (show decode cX9_isGivenJust 32 = .ok (.goto 4, 3) by decide +kernel) (by decide)) <|
  ok_c (sn_iconst (v := 0) (show decode cX9_isGivenJust 35 = .ok (.iconst 0, 1) by decide +kernel) (by decide +kernel)) <|
  ok_n
def uX9_isGivenJust : gCT := [(3, YX9_laysGiven, 3, some 9)]
set_option maxRecDepth 100000 in
theorem ocX9_isGivenJust : gOkC YX9_isGivenJust uX9_isGivenJust := oc_c (gEdge_V cal_X9_laysGiven ck_9 rfl (show decode cX9_isGivenJust 3 = .ok (.invokevirtual 417, 3) by decide +kernel) wd_8_101 wd_8_103 wp_7_14) <|
  oc_n
theorem reX9_isGivenJust : ∀ pc ∈ [36], decode cX9_isGivenJust pc = .ok (.ireturn, 1) := by decide +kernel
def tX9_leaveOf : List (Nat × gStp) := [(0, i_aload 0 1), (4, i_push (.int 0) 5), (5, i_istore 3 6), (6, i_iload 3 7), (7, i_push (.int 1) 8), (8, i_aload 0 9), (12, i_ii (fun x y => x <<< (y &&& 31)) 13), (13, i_ic_ge 40 16), (16, i_aload 0 17), (17, i_iload 1 18), (18, i_iload 3 19), (19, i_aload 0 20), (20, i_iload 3 21), (21, i_iload 2 22), (25, i_i2l 26), (29, i_if_eq 34 32), (32, i_iload 3 33), (34, i_iinc 3 1 37), (37, i_goto 6), (40, i_push (.int (-1)) 41)]
set_option maxRecDepth 100000 in
theorem okX9_leaveOf : gOk YX9_leaveOf tX9_leaveOf := ok_c (sn_aload_n (show decode cX9_leaveOf 0 = .ok (.aload_n 0, 1) by decide +kernel) rfl) <|
  ok_c (sn_iconst (v := 0) (show decode cX9_leaveOf 4 = .ok (.iconst 0, 1) by decide +kernel) (by decide +kernel)) <|
  ok_c (sn_istore_n (show decode cX9_leaveOf 5 = .ok (.istore_n 3, 1) by decide +kernel) rfl (by decide)) <|
  ok_c (sn_iload_n (show decode cX9_leaveOf 6 = .ok (.iload_n 3, 1) by decide +kernel) rfl) <|
  ok_c (sn_iconst (v := 1) (show decode cX9_leaveOf 7 = .ok (.iconst 1, 1) by decide +kernel) (by decide +kernel)) <|
  ok_c (sn_aload_n (show decode cX9_leaveOf 8 = .ok (.aload_n 0, 1) by decide +kernel) rfl) <|
  ok_c (sn_ishl (show decode cX9_leaveOf 12 = .ok (.ishl, 1) by decide +kernel)) <|
  ok_c (sn_ic_ge (show decode cX9_leaveOf 13 = .ok (.if_icmp .ge 27, 3) by decide +kernel) (by decide)) <|
  ok_c (sn_aload_n (show decode cX9_leaveOf 16 = .ok (.aload_n 0, 1) by decide +kernel) rfl) <|
  ok_c (sn_iload_n (show decode cX9_leaveOf 17 = .ok (.iload_n 1, 1) by decide +kernel) rfl) <|
  ok_c (sn_iload_n (show decode cX9_leaveOf 18 = .ok (.iload_n 3, 1) by decide +kernel) rfl) <|
  ok_c (sn_aload_n (show decode cX9_leaveOf 19 = .ok (.aload_n 0, 1) by decide +kernel) rfl) <|
  ok_c (sn_iload_n (show decode cX9_leaveOf 20 = .ok (.iload_n 3, 1) by decide +kernel) rfl) <|
  ok_c (sn_iload_n (show decode cX9_leaveOf 21 = .ok (.iload_n 2, 1) by decide +kernel) rfl) <|
  ok_c (sn_i2l (show decode cX9_leaveOf 25 = .ok (.i2l, 1) by decide +kernel)) <|
  ok_c (sn_if_eq (show decode cX9_leaveOf 29 = .ok (.ifCond .eq 5, 3) by decide +kernel) (by decide)) <|
  ok_c (sn_iload_n (show decode cX9_leaveOf 32 = .ok (.iload_n 3, 1) by decide +kernel) rfl) <|
  ok_c (sn_iinc (show decode cX9_leaveOf 34 = .ok (.iinc 3 1, 3) by decide +kernel) (by decide) (by decide +kernel)) <|
  ok_c (sn_goto (show decode cX9_leaveOf 37 = .ok (.goto (-31), 3) by decide +kernel) (by decide)) <|
  ok_c (sn_iconst (v := (-1)) (show decode cX9_leaveOf 40 = .ok (.iconst (-1), 1) by decide +kernel) (by decide +kernel)) <|
  ok_n
def uX9_leaveOf : gCT := [(1, YX9_lays, 1, some 9), (9, YX9_people, 1, some 9), (22, YX9_valueOf, 3, some 9), (26, YX9_isGivenLess, 4, some 9)]
set_option maxRecDepth 100000 in
theorem ocX9_leaveOf : gOkC YX9_leaveOf uX9_leaveOf := oc_c (gEdge_V cal_X9_lays ck_9 rfl (show decode cX9_leaveOf 1 = .ok (.invokevirtual 329, 3) by decide +kernel) wd_7_91 wd_7_93 wp_5_13) <|
  oc_c (gEdge_V cal_X9_people ck_9 rfl (show decode cX9_leaveOf 9 = .ok (.invokevirtual 244, 3) by decide +kernel) wd_7_50 wd_7_52 wp_5_6) <|
  oc_c (gEdge_V cal_X9_valueOf ck_9 rfl (show decode cX9_leaveOf 22 = .ok (.invokevirtual 402, 3) by decide +kernel) wd_8_75 wd_8_77 wp_7_10) <|
  oc_c (gEdge_V cal_X9_isGivenLess ck_9 rfl (show decode cX9_leaveOf 26 = .ok (.invokevirtual 420, 3) by decide +kernel) wd_8_97 wd_8_99 wp_7_13) <|
  oc_n
theorem reX9_leaveOf : ∀ pc ∈ [33, 41], decode cX9_leaveOf pc = .ok (.ireturn, 1) := by decide +kernel
def tX9_fair : List (Nat × gStp) := [(0, i_aload 0 1), (1, i_push (.int 0) 2), (2, i_putI 9 0 5), (5, i_aload 0 6), (6, i_iload 1 7), (7, i_iload 2 8), (11, i_istore 3 12), (12, i_iload 3 13), (13, i_if_eq 18 16), (16, i_iload 3 17), (18, i_push (.int 1) 19), (19, i_aload 0 20), (23, i_ii (fun x y => x <<< (y &&& 31)) 24), (24, i_push (.int 1) 25), (25, i_ii (fun x y => x - y) 26), (26, i_istore 4 28), (28, i_aload 0 29), (29, i_iload 1 30), (30, i_iload 2 31), (34, i_push (.int (-1)) 35), (35, i_ic_ne 60 38), (38, i_aload 0 39), (39, i_iload 1 40), (40, i_iload 4 42), (42, i_aload 0 43), (43, i_iload 4 45), (45, i_iload 2 46), (49, i_i2l 50), (53, i_if_eq 60 56), (56, i_push (.int 1) 57), (57, i_goto 61), (60, i_push (.int 0) 61)]
set_option maxRecDepth 100000 in
theorem okX9_fair : gOk YX9_fair tX9_fair := ok_c (sn_aload_n (show decode cX9_fair 0 = .ok (.aload_n 0, 1) by decide +kernel) rfl) <|
  ok_c (sn_iconst (v := 0) (show decode cX9_fair 1 = .ok (.iconst 0, 1) by decide +kernel) (by decide +kernel)) <|
  ok_c (sn_putI ck_9 (by decide) rfl rfl (show decode cX9_fair 2 = .ok (.putfield 77, 3) by decide +kernel) wd_5_217) <|
  ok_c (sn_aload_n (show decode cX9_fair 5 = .ok (.aload_n 0, 1) by decide +kernel) rfl) <|
  ok_c (sn_iload_n (show decode cX9_fair 6 = .ok (.iload_n 1, 1) by decide +kernel) rfl) <|
  ok_c (sn_iload_n (show decode cX9_fair 7 = .ok (.iload_n 2, 1) by decide +kernel) rfl) <|
  ok_c (sn_istore_n (show decode cX9_fair 11 = .ok (.istore_n 3, 1) by decide +kernel) rfl (by decide)) <|
  ok_c (sn_iload_n (show decode cX9_fair 12 = .ok (.iload_n 3, 1) by decide +kernel) rfl) <|
  ok_c (sn_if_eq (show decode cX9_fair 13 = .ok (.ifCond .eq 5, 3) by decide +kernel) (by decide)) <|
  ok_c (sn_iload_n (show decode cX9_fair 16 = .ok (.iload_n 3, 1) by decide +kernel) rfl) <|
  ok_c (sn_iconst (v := 1) (show decode cX9_fair 18 = .ok (.iconst 1, 1) by decide +kernel) (by decide +kernel)) <|
  ok_c (sn_aload_n (show decode cX9_fair 19 = .ok (.aload_n 0, 1) by decide +kernel) rfl) <|
  ok_c (sn_ishl (show decode cX9_fair 23 = .ok (.ishl, 1) by decide +kernel)) <|
  ok_c (sn_iconst (v := 1) (show decode cX9_fair 24 = .ok (.iconst 1, 1) by decide +kernel) (by decide +kernel)) <|
  ok_c (sn_isub (show decode cX9_fair 25 = .ok (.isub, 1) by decide +kernel)) <|
  ok_c (sn_istore (show decode cX9_fair 26 = .ok (.istore 4, 2) by decide +kernel) (by decide)) <|
  ok_c (sn_aload_n (show decode cX9_fair 28 = .ok (.aload_n 0, 1) by decide +kernel) rfl) <|
  ok_c (sn_iload_n (show decode cX9_fair 29 = .ok (.iload_n 1, 1) by decide +kernel) rfl) <|
  ok_c (sn_iload_n (show decode cX9_fair 30 = .ok (.iload_n 2, 1) by decide +kernel) rfl) <|
  ok_c (sn_iconst (v := (-1)) (show decode cX9_fair 34 = .ok (.iconst (-1), 1) by decide +kernel) (by decide +kernel)) <|
  ok_c (sn_ic_ne (show decode cX9_fair 35 = .ok (.if_icmp .ne 25, 3) by decide +kernel) (by decide)) <|
  ok_c (sn_aload_n (show decode cX9_fair 38 = .ok (.aload_n 0, 1) by decide +kernel) rfl) <|
  ok_c (sn_iload_n (show decode cX9_fair 39 = .ok (.iload_n 1, 1) by decide +kernel) rfl) <|
  ok_c (sn_iload (show decode cX9_fair 40 = .ok (.iload 4, 2) by decide +kernel)) <|
  ok_c (sn_aload_n (show decode cX9_fair 42 = .ok (.aload_n 0, 1) by decide +kernel) rfl) <|
  ok_c (sn_iload (show decode cX9_fair 43 = .ok (.iload 4, 2) by decide +kernel)) <|
  ok_c (sn_iload_n (show decode cX9_fair 45 = .ok (.iload_n 2, 1) by decide +kernel) rfl) <|
  ok_c (sn_i2l (show decode cX9_fair 49 = .ok (.i2l, 1) by decide +kernel)) <|
  ok_c (sn_if_eq (show decode cX9_fair 53 = .ok (.ifCond .eq 7, 3) by decide +kernel) (by decide)) <|
  ok_c (sn_iconst (v := 1) (show decode cX9_fair 56 = .ok (.iconst 1, 1) by decide +kernel) (by decide +kernel)) <|
  ok_c (sn_goto (show decode cX9_fair 57 = .ok (.goto 4, 3) by decide +kernel) (by decide)) <|
  ok_c (sn_iconst (v := 0) (show decode cX9_fair 60 = .ok (.iconst 0, 1) by decide +kernel) (by decide +kernel)) <|
  ok_n
def uX9_fair : gCT := [(8, YX9_whyNotFair, 3, some 9), (20, YX9_people, 1, some 9), (31, YX9_leaveOf, 3, some 9), (46, YX9_valueOf, 3, some 9), (50, YX9_isGivenJust, 4, some 9)]
set_option maxRecDepth 100000 in
theorem ocX9_fair : gOkC YX9_fair uX9_fair := oc_c (gEdge_V cal_X9_whyNotFair ck_9 rfl (show decode cX9_fair 8 = .ok (.invokevirtual 424, 3) by decide +kernel) wd_8_89 wd_8_91 wp_7_11) <|
  oc_c (gEdge_V cal_X9_people ck_9 rfl (show decode cX9_fair 20 = .ok (.invokevirtual 244, 3) by decide +kernel) wd_7_50 wd_7_52 wp_5_6) <|
  oc_c (gEdge_V cal_X9_leaveOf ck_9 rfl (show decode cX9_fair 31 = .ok (.invokevirtual 427, 3) by decide +kernel) wd_8_93 wd_8_95 wp_7_12) <|
  oc_c (gEdge_V cal_X9_valueOf ck_9 rfl (show decode cX9_fair 46 = .ok (.invokevirtual 402, 3) by decide +kernel) wd_8_75 wd_8_77 wp_7_10) <|
  oc_c (gEdge_V cal_X9_isGivenJust ck_9 rfl (show decode cX9_fair 50 = .ok (.invokevirtual 430, 3) by decide +kernel) wd_8_106 wd_8_108 wp_7_15) <|
  oc_n
theorem reX9_fair : ∀ pc ∈ [17, 61], decode cX9_fair pc = .ok (.ireturn, 1) := by decide +kernel
def tX9_leave : List (Nat × gStp) := [(0, i_aload 0 1), (1, i_push (.int 0) 2), (2, i_putI 9 0 5), (5, i_aload 0 6), (6, i_iload 1 7), (7, i_iload 2 8), (11, i_istore 3 12), (12, i_iload 3 13), (13, i_if_eq 20 16), (16, i_iload 3 17), (17, i_goto 26), (20, i_aload 0 21), (21, i_iload 1 22), (22, i_iload 2 23)]
set_option maxRecDepth 100000 in
theorem okX9_leave : gOk YX9_leave tX9_leave := ok_c (sn_aload_n (show decode cX9_leave 0 = .ok (.aload_n 0, 1) by decide +kernel) rfl) <|
  ok_c (sn_iconst (v := 0) (show decode cX9_leave 1 = .ok (.iconst 0, 1) by decide +kernel) (by decide +kernel)) <|
  ok_c (sn_putI ck_9 (by decide) rfl rfl (show decode cX9_leave 2 = .ok (.putfield 77, 3) by decide +kernel) wd_5_217) <|
  ok_c (sn_aload_n (show decode cX9_leave 5 = .ok (.aload_n 0, 1) by decide +kernel) rfl) <|
  ok_c (sn_iload_n (show decode cX9_leave 6 = .ok (.iload_n 1, 1) by decide +kernel) rfl) <|
  ok_c (sn_iload_n (show decode cX9_leave 7 = .ok (.iload_n 2, 1) by decide +kernel) rfl) <|
  ok_c (sn_istore_n (show decode cX9_leave 11 = .ok (.istore_n 3, 1) by decide +kernel) rfl (by decide)) <|
  ok_c (sn_iload_n (show decode cX9_leave 12 = .ok (.iload_n 3, 1) by decide +kernel) rfl) <|
  ok_c (sn_if_eq (show decode cX9_leave 13 = .ok (.ifCond .eq 7, 3) by decide +kernel) (by decide)) <|
  ok_c (sn_iload_n (show decode cX9_leave 16 = .ok (.iload_n 3, 1) by decide +kernel) rfl) <|
  ok_c (sn_goto (show decode cX9_leave 17 = .ok (.goto 9, 3) by decide +kernel) (by decide)) <|
  ok_c (sn_aload_n (show decode cX9_leave 20 = .ok (.aload_n 0, 1) by decide +kernel) rfl) <|
  ok_c (sn_iload_n (show decode cX9_leave 21 = .ok (.iload_n 1, 1) by decide +kernel) rfl) <|
  ok_c (sn_iload_n (show decode cX9_leave 22 = .ok (.iload_n 2, 1) by decide +kernel) rfl) <|
  ok_n
def uX9_leave : gCT := [(8, YX9_whyNotFair, 3, some 9), (23, YX9_leaveOf, 3, some 9)]
set_option maxRecDepth 100000 in
theorem ocX9_leave : gOkC YX9_leave uX9_leave := oc_c (gEdge_V cal_X9_whyNotFair ck_9 rfl (show decode cX9_leave 8 = .ok (.invokevirtual 424, 3) by decide +kernel) wd_8_89 wd_8_91 wp_7_11) <|
  oc_c (gEdge_V cal_X9_leaveOf ck_9 rfl (show decode cX9_leave 23 = .ok (.invokevirtual 427, 3) by decide +kernel) wd_8_93 wd_8_95 wp_7_12) <|
  oc_n
theorem reX9_leave : ∀ pc ∈ [26], decode cX9_leave pc = .ok (.ireturn, 1) := by decide +kernel
