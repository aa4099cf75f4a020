/-! The law: its cases. -/
section LCS
variable {p : Program} {l : Launch} {e : Env} {s : State} {m : MethodId} {args : Array Value} {below : List Frame} {meth : Method} {c : Code} {cells slots : Nat} {Q : State → Prop} {G : gG} {b Ln : Nat} {xs : Nat → Int32}
def tL0 : List (Nat × gStp) := [(312, i_aload 1 313), (313, i_aload 0 314), (314, i_iload 3 315), (315, i_push (.int 1) 316), (316, i_ii (fun x y => x + y) 317), (318, i_aload 0 319), (319, i_iload 3 320), (320, i_push (.int 2) 321), (321, i_ii (fun x y => x + y) 322), (323, i_aload 0 324), (324, i_iload 3 325), (325, i_push (.int 3) 326), (326, i_ii (fun x y => x + y) 327), (328, i_aload 0 329), (329, i_iload 3 330), (330, i_push (.int 4) 331), (331, i_ii (fun x y => x + y) 332), (333, i_aload 0 334), (334, i_iload 3 335), (335, i_push (.int 5) 336), (336, i_ii (fun x y => x + y) 337), (341, i_aload 2 342), (342, i_aload 0 343), (343, i_iload 3 344), (344, i_push (.int 1) 345), (345, i_ii (fun x y => x + y) 346), (347, i_aload 0 348), (348, i_iload 3 349), (349, i_push (.int 2) 350), (350, i_ii (fun x y => x + y) 351), (352, i_aload 0 353), (353, i_iload 3 354), (354, i_push (.int 3) 355), (355, i_ii (fun x y => x + y) 356), (357, i_aload 0 358), (358, i_iload 3 359), (359, i_push (.int 4) 360), (360, i_ii (fun x y => x + y) 361), (362, i_aload 0 363), (363, i_iload 3 364), (364, i_push (.int 5) 365), (365, i_ii (fun x y => x + y) 366), (370, i_ic_eq 2300 373), (373, i_push (.int 0) 374)]
set_option maxRecDepth 100000 in
theorem okL0 : gOk YL tL0 := ok_c (sn_aload_n (show decode code 312 = .ok (.aload_n 1, 1) by decide +kernel) rfl) <|
  ok_c (sn_aload_n (show decode code 313 = .ok (.aload_n 0, 1) by decide +kernel) rfl) <|
  ok_c (sn_iload_n (show decode code 314 = .ok (.iload_n 3, 1) by decide +kernel) rfl) <|
  ok_c (sn_iconst (v := 1) (show decode code 315 = .ok (.iconst 1, 1) by decide +kernel) (by decide +kernel)) <|
  ok_c (sn_iadd (show decode code 316 = .ok (.iadd, 1) by decide +kernel)) <|
  ok_c (sn_aload_n (show decode code 318 = .ok (.aload_n 0, 1) by decide +kernel) rfl) <|
  ok_c (sn_iload_n (show decode code 319 = .ok (.iload_n 3, 1) by decide +kernel) rfl) <|
  ok_c (sn_iconst (v := 2) (show decode code 320 = .ok (.iconst 2, 1) by decide +kernel) (by decide +kernel)) <|
  ok_c (sn_iadd (show decode code 321 = .ok (.iadd, 1) by decide +kernel)) <|
  ok_c (sn_aload_n (show decode code 323 = .ok (.aload_n 0, 1) by decide +kernel) rfl) <|
  ok_c (sn_iload_n (show decode code 324 = .ok (.iload_n 3, 1) by decide +kernel) rfl) <|
  ok_c (sn_iconst (v := 3) (show decode code 325 = .ok (.iconst 3, 1) by decide +kernel) (by decide +kernel)) <|
  ok_c (sn_iadd (show decode code 326 = .ok (.iadd, 1) by decide +kernel)) <|
  ok_c (sn_aload_n (show decode code 328 = .ok (.aload_n 0, 1) by decide +kernel) rfl) <|
  ok_c (sn_iload_n (show decode code 329 = .ok (.iload_n 3, 1) by decide +kernel) rfl) <|
  ok_c (sn_iconst (v := 4) (show decode code 330 = .ok (.iconst 4, 1) by decide +kernel) (by decide +kernel)) <|
  ok_c (sn_iadd (show decode code 331 = .ok (.iadd, 1) by decide +kernel)) <|
  ok_c (sn_aload_n (show decode code 333 = .ok (.aload_n 0, 1) by decide +kernel) rfl) <|
  ok_c (sn_iload_n (show decode code 334 = .ok (.iload_n 3, 1) by decide +kernel) rfl) <|
  ok_c (sn_iconst (v := 5) (show decode code 335 = .ok (.iconst 5, 1) by decide +kernel) (by decide +kernel)) <|
  ok_c (sn_iadd (show decode code 336 = .ok (.iadd, 1) by decide +kernel)) <|
  ok_c (sn_aload_n (show decode code 341 = .ok (.aload_n 2, 1) by decide +kernel) rfl) <|
  ok_c (sn_aload_n (show decode code 342 = .ok (.aload_n 0, 1) by decide +kernel) rfl) <|
  ok_c (sn_iload_n (show decode code 343 = .ok (.iload_n 3, 1) by decide +kernel) rfl) <|
  ok_c (sn_iconst (v := 1) (show decode code 344 = .ok (.iconst 1, 1) by decide +kernel) (by decide +kernel)) <|
  ok_c (sn_iadd (show decode code 345 = .ok (.iadd, 1) by decide +kernel)) <|
  ok_c (sn_aload_n (show decode code 347 = .ok (.aload_n 0, 1) by decide +kernel) rfl) <|
  ok_c (sn_iload_n (show decode code 348 = .ok (.iload_n 3, 1) by decide +kernel) rfl) <|
  ok_c (sn_iconst (v := 2) (show decode code 349 = .ok (.iconst 2, 1) by decide +kernel) (by decide +kernel)) <|
  ok_c (sn_iadd (show decode code 350 = .ok (.iadd, 1) by decide +kernel)) <|
  ok_c (sn_aload_n (show decode code 352 = .ok (.aload_n 0, 1) by decide +kernel) rfl) <|
  ok_c (sn_iload_n (show decode code 353 = .ok (.iload_n 3, 1) by decide +kernel) rfl) <|
  ok_c (sn_iconst (v := 3) (show decode code 354 = .ok (.iconst 3, 1) by decide +kernel) (by decide +kernel)) <|
  ok_c (sn_iadd (show decode code 355 = .ok (.iadd, 1) by decide +kernel)) <|
  ok_c (sn_aload_n (show decode code 357 = .ok (.aload_n 0, 1) by decide +kernel) rfl) <|
  ok_c (sn_iload_n (show decode code 358 = .ok (.iload_n 3, 1) by decide +kernel) rfl) <|
  ok_c (sn_iconst (v := 4) (show decode code 359 = .ok (.iconst 4, 1) by decide +kernel) (by decide +kernel)) <|
  ok_c (sn_iadd (show decode code 360 = .ok (.iadd, 1) by decide +kernel)) <|
  ok_c (sn_aload_n (show decode code 362 = .ok (.aload_n 0, 1) by decide +kernel) rfl) <|
  ok_c (sn_iload_n (show decode code 363 = .ok (.iload_n 3, 1) by decide +kernel) rfl) <|
  ok_c (sn_iconst (v := 5) (show decode code 364 = .ok (.iconst 5, 1) by decide +kernel) (by decide +kernel)) <|
  ok_c (sn_iadd (show decode code 365 = .ok (.iadd, 1) by decide +kernel)) <|
  ok_c (sn_ic_eq (show decode code 370 = .ok (.if_icmp .eq 1930, 3) by decide +kernel) (by decide)) <|
  ok_c (sn_iconst (v := 0) (show decode code 373 = .ok (.iconst 0, 1) by decide +kernel) (by decide +kernel)) <|
  ok_n
def uL0 : gCT := [(338, YX8_feed, 6, some 8), (367, YX9_feed, 6, some 9)]
set_option maxRecDepth 100000 in
theorem ocL0 : gOkC YL uL0 := oc_c (gEdge_V cal_X8_feed ck_8 rfl (show decode code 338 = .ok (.invokevirtual 13, 3) by decide +kernel) wd_2_149 wd_2_150 wd_2_151) <|
  oc_c (gEdge_V cal_X9_feed ck_9 rfl (show decode code 367 = .ok (.invokevirtual 17, 3) by decide +kernel) wd_6_148 wd_6_149 wd_6_150) <|
  oc_n
set_option maxRecDepth 20000 in
theorem lc_0 (C : vCx p s m args c cells slots G b Ln xs) {i : Nat} (hin : ∀ k, k < 6 → vp_in (nI i + nI k) Ln) {M : gMem} (hI : INV M) (kk : ∀ M', INV M' → gV p l e s m args below meth c cells slots Q G 2300 (vLw (nI i)) [] M') : gV p l e s m args below meth c cells slots Q G 312 (vLw (nI i)) [] M := by
  obtain ⟨r, N, K, h1, h2, h3⟩ := S_feed ((xs (nI i + 1).toNatClampNeg)) ((xs (nI i + 2).toNatClampNeg)) ((xs (nI i + 3).toNatClampNeg)) ((xs (nI i + 4).toNatClampNeg)) ((xs (nI i + 5).toNatClampNeg)) M hI
  refine v_rn okL0 C 5 (pc' := 317) (L' := vLw (nI i)) (S' := [.int (nI i + 1), .ref 960, .ref 0]) (M' := M) rfl ?_
  refine v_sld C (hin 1 (by omega)) (show decode code 317 = .ok (.iaload, 1) by decide +kernel) ?_
  refine v_rn okL0 C 4 (pc' := 322) (L' := vLw (nI i)) (S' := [.int (nI i + 2), .ref 960, .int (xs (nI i + 1).toNatClampNeg), .ref 0]) (M' := M) rfl ?_
  refine v_sld C (hin 2 (by omega)) (show decode code 322 = .ok (.iaload, 1) by decide +kernel) ?_
  refine v_rn okL0 C 4 (pc' := 327) (L' := vLw (nI i)) (S' := [.int (nI i + 3), .ref 960, .int (xs (nI i + 2).toNatClampNeg), .int (xs (nI i + 1).toNatClampNeg), .ref 0]) (M' := M) rfl ?_
  refine v_sld C (hin 3 (by omega)) (show decode code 327 = .ok (.iaload, 1) by decide +kernel) ?_
  refine v_rn okL0 C 4 (pc' := 332) (L' := vLw (nI i)) (S' := [.int (nI i + 4), .ref 960, .int (xs (nI i + 3).toNatClampNeg), .int (xs (nI i + 2).toNatClampNeg), .int (xs (nI i + 1).toNatClampNeg), .ref 0]) (M' := M) rfl ?_
  refine v_sld C (hin 4 (by omega)) (show decode code 332 = .ok (.iaload, 1) by decide +kernel) ?_
  refine v_rn okL0 C 4 (pc' := 337) (L' := vLw (nI i)) (S' := [.int (nI i + 5), .ref 960, .int (xs (nI i + 4).toNatClampNeg), .int (xs (nI i + 3).toNatClampNeg), .int (xs (nI i + 2).toNatClampNeg), .int (xs (nI i + 1).toNatClampNeg), .ref 0]) (M' := M) rfl ?_
  refine v_sld C (hin 5 (by omega)) (show decode code 337 = .ok (.iaload, 1) by decide +kernel) ?_
  refine v_call ocL0 C rfl rfl (gOb_c rfl) rfl (SX8_feed ((xs (nI i + 1).toNatClampNeg)) ((xs (nI i + 2).toNatClampNeg)) ((xs (nI i + 3).toNatClampNeg)) ((xs (nI i + 4).toNatClampNeg)) ((xs (nI i + 5).toNatClampNeg)) M h1) (by decide) ?_
  refine v_rn okL0 C 5 (pc' := 346) (L' := vLw (nI i)) (S' := [.int (nI i + 1), .ref 960, .ref 141, .int r]) (M' := N) rfl ?_
  refine v_sld C (hin 1 (by omega)) (show decode code 346 = .ok (.iaload, 1) by decide +kernel) ?_
  refine v_rn okL0 C 4 (pc' := 351) (L' := vLw (nI i)) (S' := [.int (nI i + 2), .ref 960, .int (xs (nI i + 1).toNatClampNeg), .ref 141, .int r]) (M' := N) rfl ?_
  refine v_sld C (hin 2 (by omega)) (show decode code 351 = .ok (.iaload, 1) by decide +kernel) ?_
  refine v_rn okL0 C 4 (pc' := 356) (L' := vLw (nI i)) (S' := [.int (nI i + 3), .ref 960, .int (xs (nI i + 2).toNatClampNeg), .int (xs (nI i + 1).toNatClampNeg), .ref 141, .int r]) (M' := N) rfl ?_
  refine v_sld C (hin 3 (by omega)) (show decode code 356 = .ok (.iaload, 1) by decide +kernel) ?_
  refine v_rn okL0 C 4 (pc' := 361) (L' := vLw (nI i)) (S' := [.int (nI i + 4), .ref 960, .int (xs (nI i + 3).toNatClampNeg), .int (xs (nI i + 2).toNatClampNeg), .int (xs (nI i + 1).toNatClampNeg), .ref 141, .int r]) (M' := N) rfl ?_
  refine v_sld C (hin 4 (by omega)) (show decode code 361 = .ok (.iaload, 1) by decide +kernel) ?_
  refine v_rn okL0 C 4 (pc' := 366) (L' := vLw (nI i)) (S' := [.int (nI i + 5), .ref 960, .int (xs (nI i + 4).toNatClampNeg), .int (xs (nI i + 3).toNatClampNeg), .int (xs (nI i + 2).toNatClampNeg), .int (xs (nI i + 1).toNatClampNeg), .ref 141, .int r]) (M' := N) rfl ?_
  refine v_sld C (hin 5 (by omega)) (show decode code 366 = .ok (.iaload, 1) by decide +kernel) ?_
  refine v_call ocL0 C rfl rfl (gOb_c rfl) rfl (SX9_feed ((xs (nI i + 1).toNatClampNeg)) ((xs (nI i + 2).toNatClampNeg)) ((xs (nI i + 3).toNatClampNeg)) ((xs (nI i + 4).toNatClampNeg)) ((xs (nI i + 5).toNatClampNeg)) N h2) (by decide) ?_
  refine v_eq okL0 C (t := 2300) rfl ?_
  exact kk K h3
def tL1 : List (Nat × gStp) := [(375, i_aload 1 376), (376, i_aload 0 377), (377, i_iload 3 378), (378, i_push (.int 1) 379), (379, i_ii (fun x y => x + y) 380), (384, i_aload 2 385), (385, i_aload 0 386), (386, i_iload 3 387), (387, i_push (.int 1) 388), (388, i_ii (fun x y => x + y) 389), (393, i_ic_eq 2300 396), (396, i_push (.int 0) 397)]
set_option maxRecDepth 100000 in
theorem okL1 : gOk YL tL1 := ok_c (sn_aload_n (show decode code 375 = .ok (.aload_n 1, 1) by decide +kernel) rfl) <|
  ok_c (sn_aload_n (show decode code 376 = .ok (.aload_n 0, 1) by decide +kernel) rfl) <|
  ok_c (sn_iload_n (show decode code 377 = .ok (.iload_n 3, 1) by decide +kernel) rfl) <|
  ok_c (sn_iconst (v := 1) (show decode code 378 = .ok (.iconst 1, 1) by decide +kernel) (by decide +kernel)) <|
  ok_c (sn_iadd (show decode code 379 = .ok (.iadd, 1) by decide +kernel)) <|
  ok_c (sn_aload_n (show decode code 384 = .ok (.aload_n 2, 1) by decide +kernel) rfl) <|
  ok_c (sn_aload_n (show decode code 385 = .ok (.aload_n 0, 1) by decide +kernel) rfl) <|
  ok_c (sn_iload_n (show decode code 386 = .ok (.iload_n 3, 1) by decide +kernel) rfl) <|
  ok_c (sn_iconst (v := 1) (show decode code 387 = .ok (.iconst 1, 1) by decide +kernel) (by decide +kernel)) <|
  ok_c (sn_iadd (show decode code 388 = .ok (.iadd, 1) by decide +kernel)) <|
  ok_c (sn_ic_eq (show decode code 393 = .ok (.if_icmp .eq 1907, 3) by decide +kernel) (by decide)) <|
  ok_c (sn_iconst (v := 0) (show decode code 396 = .ok (.iconst 0, 1) by decide +kernel) (by decide +kernel)) <|
  ok_n
def uL1 : gCT := [(381, YX8_end, 2, some 8), (390, YX9_end, 2, some 9)]
set_option maxRecDepth 100000 in
theorem ocL1 : gOkC YL uL1 := oc_c (gEdge_V cal_X8_end ck_8 rfl (show decode code 381 = .ok (.invokevirtual 18, 3) by decide +kernel) wd_2_157 wd_2_158 wd_2_159) <|
  oc_c (gEdge_V cal_X9_end ck_9 rfl (show decode code 390 = .ok (.invokevirtual 22, 3) by decide +kernel) wd_6_156 wd_6_157 wd_6_158) <|
  oc_n
set_option maxRecDepth 20000 in
theorem lc_1 (C : vCx p s m args c cells slots G b Ln xs) {i : Nat} (hin : ∀ k, k < 6 → vp_in (nI i + nI k) Ln) {M : gMem} (hI : INV M) (kk : ∀ M', INV M' → gV p l e s m args below meth c cells slots Q G 2300 (vLw (nI i)) [] M') : gV p l e s m args below meth c cells slots Q G 375 (vLw (nI i)) [] M := by
  obtain ⟨r, N, K, h1, h2, h3⟩ := S_end ((xs (nI i + 1).toNatClampNeg)) M hI
  refine v_rn okL1 C 5 (pc' := 380) (L' := vLw (nI i)) (S' := [.int (nI i + 1), .ref 960, .ref 0]) (M' := M) rfl ?_
  refine v_sld C (hin 1 (by omega)) (show decode code 380 = .ok (.iaload, 1) by decide +kernel) ?_
  refine v_call ocL1 C rfl rfl (gOb_c rfl) rfl (SX8_end ((xs (nI i + 1).toNatClampNeg)) M h1) (by decide) ?_
  refine v_rn okL1 C 5 (pc' := 389) (L' := vLw (nI i)) (S' := [.int (nI i + 1), .ref 960, .ref 141, .int r]) (M' := N) rfl ?_
  refine v_sld C (hin 1 (by omega)) (show decode code 389 = .ok (.iaload, 1) by decide +kernel) ?_
  refine v_call ocL1 C rfl rfl (gOb_c rfl) rfl (SX9_end ((xs (nI i + 1).toNatClampNeg)) N h2) (by decide) ?_
  refine v_eq okL1 C (t := 2300) rfl ?_
  exact kk K h3
def tL2 : List (Nat × gStp) := [(398, i_aload 1 399), (402, i_aload 2 403), (406, i_ic_eq 2300 409), (409, i_push (.int 0) 410)]
set_option maxRecDepth 100000 in
theorem okL2 : gOk YL tL2 := ok_c (sn_aload_n (show decode code 398 = .ok (.aload_n 1, 1) by decide +kernel) rfl) <|
  ok_c (sn_aload_n (show decode code 402 = .ok (.aload_n 2, 1) by decide +kernel) rfl) <|
  ok_c (sn_ic_eq (show decode code 406 = .ok (.if_icmp .eq 1894, 3) by decide +kernel) (by decide)) <|
  ok_c (sn_iconst (v := 0) (show decode code 409 = .ok (.iconst 0, 1) by decide +kernel) (by decide +kernel)) <|
  ok_n
def uL2 : gCT := [(399, YX8_city, 1, some 8), (403, YX9_city, 1, some 9)]
set_option maxRecDepth 100000 in
theorem ocL2 : gOkC YL uL2 := oc_c (gEdge_V cal_X8_city ck_8 rfl (show decode code 399 = .ok (.invokevirtual 23, 3) by decide +kernel) wd_2_161 wd_2_162 wd_2_163) <|
  oc_c (gEdge_V cal_X9_city ck_9 rfl (show decode code 403 = .ok (.invokevirtual 27, 3) by decide +kernel) wd_6_164 wd_6_165 wd_6_166) <|
  oc_n
set_option maxRecDepth 20000 in
theorem lc_2 (C : vCx p s m args c cells slots G b Ln xs) {i : Nat} (hin : ∀ k, k < 6 → vp_in (nI i + nI k) Ln) {M : gMem} (hI : INV M) (kk : ∀ M', INV M' → gV p l e s m args below meth c cells slots Q G 2300 (vLw (nI i)) [] M') : gV p l e s m args below meth c cells slots Q G 398 (vLw (nI i)) [] M := by
  obtain ⟨r, N, K, h1, h2, h3⟩ := S_city M hI
  refine v_rn okL2 C 1 (pc' := 399) (L' := vLw (nI i)) (S' := [.ref 0]) (M' := M) rfl ?_
  refine v_call ocL2 C rfl rfl (gOb_c rfl) rfl (SX8_city M h1) (by decide) ?_
  refine v_rn okL2 C 1 (pc' := 403) (L' := vLw (nI i)) (S' := [.ref 141, .int r]) (M' := N) rfl ?_
  refine v_call ocL2 C rfl rfl (gOb_c rfl) rfl (SX9_city N h2) (by decide) ?_
  refine v_eq okL2 C (t := 2300) rfl ?_
  exact kk K h3
def tL3 : List (Nat × gStp) := [(411, i_aload 1 412), (412, i_aload 0 413), (413, i_iload 3 414), (414, i_push (.int 1) 415), (415, i_ii (fun x y => x + y) 416), (420, i_aload 2 421), (421, i_aload 0 422), (422, i_iload 3 423), (423, i_push (.int 1) 424), (424, i_ii (fun x y => x + y) 425), (429, i_ic_eq 2300 432), (432, i_push (.int 0) 433)]
set_option maxRecDepth 100000 in
theorem okL3 : gOk YL tL3 := ok_c (sn_aload_n (show decode code 411 = .ok (.aload_n 1, 1) by decide +kernel) rfl) <|
  ok_c (sn_aload_n (show decode code 412 = .ok (.aload_n 0, 1) by decide +kernel) rfl) <|
  ok_c (sn_iload_n (show decode code 413 = .ok (.iload_n 3, 1) by decide +kernel) rfl) <|
  ok_c (sn_iconst (v := 1) (show decode code 414 = .ok (.iconst 1, 1) by decide +kernel) (by decide +kernel)) <|
  ok_c (sn_iadd (show decode code 415 = .ok (.iadd, 1) by decide +kernel)) <|
  ok_c (sn_aload_n (show decode code 420 = .ok (.aload_n 2, 1) by decide +kernel) rfl) <|
  ok_c (sn_aload_n (show decode code 421 = .ok (.aload_n 0, 1) by decide +kernel) rfl) <|
  ok_c (sn_iload_n (show decode code 422 = .ok (.iload_n 3, 1) by decide +kernel) rfl) <|
  ok_c (sn_iconst (v := 1) (show decode code 423 = .ok (.iconst 1, 1) by decide +kernel) (by decide +kernel)) <|
  ok_c (sn_iadd (show decode code 424 = .ok (.iadd, 1) by decide +kernel)) <|
  ok_c (sn_ic_eq (show decode code 429 = .ok (.if_icmp .eq 1871, 3) by decide +kernel) (by decide)) <|
  ok_c (sn_iconst (v := 0) (show decode code 432 = .ok (.iconst 0, 1) by decide +kernel) (by decide +kernel)) <|
  ok_n
def uL3 : gCT := [(417, YX8_fault, 2, some 8), (426, YX9_fault, 2, some 9)]
set_option maxRecDepth 100000 in
theorem ocL3 : gOkC YL uL3 := oc_c (gEdge_V cal_X8_fault ck_8 rfl (show decode code 417 = .ok (.invokevirtual 28, 3) by decide +kernel) wd_3_66 wd_3_67 wd_3_68) <|
  oc_c (gEdge_V cal_X9_fault ck_9 rfl (show decode code 426 = .ok (.invokevirtual 31, 3) by decide +kernel) wd_6_160 wd_6_161 wd_6_162) <|
  oc_n
set_option maxRecDepth 20000 in
theorem lc_3 (C : vCx p s m args c cells slots G b Ln xs) {i : Nat} (hin : ∀ k, k < 6 → vp_in (nI i + nI k) Ln) {M : gMem} (hI : INV M) (kk : ∀ M', INV M' → gV p l e s m args below meth c cells slots Q G 2300 (vLw (nI i)) [] M') : gV p l e s m args below meth c cells slots Q G 411 (vLw (nI i)) [] M := by
  obtain ⟨r, K, h1, h2, h3⟩ := S_fault ((xs (nI i + 1).toNatClampNeg)) M hI
  refine v_rn okL3 C 5 (pc' := 416) (L' := vLw (nI i)) (S' := [.int (nI i + 1), .ref 960, .ref 0]) (M' := M) rfl ?_
  refine v_sld C (hin 1 (by omega)) (show decode code 416 = .ok (.iaload, 1) by decide +kernel) ?_
  refine v_call ocL3 C rfl rfl (gOb_c rfl) rfl (SX8_fault ((xs (nI i + 1).toNatClampNeg)) M h1) (by decide) ?_
  refine v_rn okL3 C 5 (pc' := 425) (L' := vLw (nI i)) (S' := [.int (nI i + 1), .ref 960, .ref 141, .int r]) (M' := M) rfl ?_
  refine v_sld C (hin 1 (by omega)) (show decode code 425 = .ok (.iaload, 1) by decide +kernel) ?_
  refine v_call ocL3 C rfl rfl (gOb_c rfl) rfl (SX9_fault ((xs (nI i + 1).toNatClampNeg)) M h2) (by decide) ?_
  refine v_eq okL3 C (t := 2300) rfl ?_
  exact kk K h3
def tL4 : List (Nat × gStp) := [(434, i_aload 1 435), (435, i_aload 0 436), (436, i_iload 3 437), (437, i_push (.int 1) 438), (438, i_ii (fun x y => x + y) 439), (440, i_aload 0 441), (441, i_iload 3 442), (442, i_push (.int 2) 443), (443, i_ii (fun x y => x + y) 444), (448, i_aload 2 449), (449, i_aload 0 450), (450, i_iload 3 451), (451, i_push (.int 1) 452), (452, i_ii (fun x y => x + y) 453), (454, i_aload 0 455), (455, i_iload 3 456), (456, i_push (.int 2) 457), (457, i_ii (fun x y => x + y) 458), (462, i_ic_eq 2300 465), (465, i_push (.int 0) 466)]
set_option maxRecDepth 100000 in
theorem okL4 : gOk YL tL4 := ok_c (sn_aload_n (show decode code 434 = .ok (.aload_n 1, 1) by decide +kernel) rfl) <|
  ok_c (sn_aload_n (show decode code 435 = .ok (.aload_n 0, 1) by decide +kernel) rfl) <|
  ok_c (sn_iload_n (show decode code 436 = .ok (.iload_n 3, 1) by decide +kernel) rfl) <|
  ok_c (sn_iconst (v := 1) (show decode code 437 = .ok (.iconst 1, 1) by decide +kernel) (by decide +kernel)) <|
  ok_c (sn_iadd (show decode code 438 = .ok (.iadd, 1) by decide +kernel)) <|
  ok_c (sn_aload_n (show decode code 440 = .ok (.aload_n 0, 1) by decide +kernel) rfl) <|
  ok_c (sn_iload_n (show decode code 441 = .ok (.iload_n 3, 1) by decide +kernel) rfl) <|
  ok_c (sn_iconst (v := 2) (show decode code 442 = .ok (.iconst 2, 1) by decide +kernel) (by decide +kernel)) <|
  ok_c (sn_iadd (show decode code 443 = .ok (.iadd, 1) by decide +kernel)) <|
  ok_c (sn_aload_n (show decode code 448 = .ok (.aload_n 2, 1) by decide +kernel) rfl) <|
  ok_c (sn_aload_n (show decode code 449 = .ok (.aload_n 0, 1) by decide +kernel) rfl) <|
  ok_c (sn_iload_n (show decode code 450 = .ok (.iload_n 3, 1) by decide +kernel) rfl) <|
  ok_c (sn_iconst (v := 1) (show decode code 451 = .ok (.iconst 1, 1) by decide +kernel) (by decide +kernel)) <|
  ok_c (sn_iadd (show decode code 452 = .ok (.iadd, 1) by decide +kernel)) <|
  ok_c (sn_aload_n (show decode code 454 = .ok (.aload_n 0, 1) by decide +kernel) rfl) <|
  ok_c (sn_iload_n (show decode code 455 = .ok (.iload_n 3, 1) by decide +kernel) rfl) <|
  ok_c (sn_iconst (v := 2) (show decode code 456 = .ok (.iconst 2, 1) by decide +kernel) (by decide +kernel)) <|
  ok_c (sn_iadd (show decode code 457 = .ok (.iadd, 1) by decide +kernel)) <|
  ok_c (sn_ic_eq (show decode code 462 = .ok (.if_icmp .eq 1838, 3) by decide +kernel) (by decide)) <|
  ok_c (sn_iconst (v := 0) (show decode code 465 = .ok (.iconst 0, 1) by decide +kernel) (by decide +kernel)) <|
  ok_n
def uL4 : gCT := [(445, YX8_partner, 3, some 8), (459, YX9_partner, 3, some 9)]
set_option maxRecDepth 100000 in
theorem ocL4 : gOkC YL uL4 := oc_c (gEdge_V cal_X8_partner ck_8 rfl (show decode code 445 = .ok (.invokevirtual 32, 3) by decide +kernel) wd_3_70 wd_3_71 wd_3_72) <|
  oc_c (gEdge_V cal_X9_partner ck_9 rfl (show decode code 459 = .ok (.invokevirtual 36, 3) by decide +kernel) wd_7_42 wd_7_43 wd_7_44) <|
  oc_n
set_option maxRecDepth 20000 in
theorem lc_4 (C : vCx p s m args c cells slots G b Ln xs) {i : Nat} (hin : ∀ k, k < 6 → vp_in (nI i + nI k) Ln) {M : gMem} (hI : INV M) (kk : ∀ M', INV M' → gV p l e s m args below meth c cells slots Q G 2300 (vLw (nI i)) [] M') : gV p l e s m args below meth c cells slots Q G 434 (vLw (nI i)) [] M := by
  obtain ⟨r, K, h1, h2, h3⟩ := S_partner ((xs (nI i + 1).toNatClampNeg)) ((xs (nI i + 2).toNatClampNeg)) M hI
  refine v_rn okL4 C 5 (pc' := 439) (L' := vLw (nI i)) (S' := [.int (nI i + 1), .ref 960, .ref 0]) (M' := M) rfl ?_
  refine v_sld C (hin 1 (by omega)) (show decode code 439 = .ok (.iaload, 1) by decide +kernel) ?_
  refine v_rn okL4 C 4 (pc' := 444) (L' := vLw (nI i)) (S' := [.int (nI i + 2), .ref 960, .int (xs (nI i + 1).toNatClampNeg), .ref 0]) (M' := M) rfl ?_
  refine v_sld C (hin 2 (by omega)) (show decode code 444 = .ok (.iaload, 1) by decide +kernel) ?_
  refine v_call ocL4 C rfl rfl (gOb_c rfl) rfl (SX8_partner ((xs (nI i + 1).toNatClampNeg)) ((xs (nI i + 2).toNatClampNeg)) M h1) (by decide) ?_
  refine v_rn okL4 C 5 (pc' := 453) (L' := vLw (nI i)) (S' := [.int (nI i + 1), .ref 960, .ref 141, .int r]) (M' := M) rfl ?_
  refine v_sld C (hin 1 (by omega)) (show decode code 453 = .ok (.iaload, 1) by decide +kernel) ?_
  refine v_rn okL4 C 4 (pc' := 458) (L' := vLw (nI i)) (S' := [.int (nI i + 2), .ref 960, .int (xs (nI i + 1).toNatClampNeg), .ref 141, .int r]) (M' := M) rfl ?_
  refine v_sld C (hin 2 (by omega)) (show decode code 458 = .ok (.iaload, 1) by decide +kernel) ?_
  refine v_call ocL4 C rfl rfl (gOb_c rfl) rfl (SX9_partner ((xs (nI i + 1).toNatClampNeg)) ((xs (nI i + 2).toNatClampNeg)) M h2) (by decide) ?_
  refine v_eq okL4 C (t := 2300) rfl ?_
  exact kk K h3
def tL5 : List (Nat × gStp) := [(467, i_aload 1 468), (468, i_aload 0 469), (469, i_iload 3 470), (470, i_push (.int 1) 471), (471, i_ii (fun x y => x + y) 472), (473, i_aload 0 474), (474, i_iload 3 475), (475, i_push (.int 2) 476), (476, i_ii (fun x y => x + y) 477), (481, i_aload 2 482), (482, i_aload 0 483), (483, i_iload 3 484), (484, i_push (.int 1) 485), (485, i_ii (fun x y => x + y) 486), (487, i_aload 0 488), (488, i_iload 3 489), (489, i_push (.int 2) 490), (490, i_ii (fun x y => x + y) 491), (495, i_ic_eq 2300 498), (498, i_push (.int 0) 499)]
set_option maxRecDepth 100000 in
theorem okL5 : gOk YL tL5 := ok_c (sn_aload_n (show decode code 467 = .ok (.aload_n 1, 1) by decide +kernel) rfl) <|
  ok_c (sn_aload_n (show decode code 468 = .ok (.aload_n 0, 1) by decide +kernel) rfl) <|
  ok_c (sn_iload_n (show decode code 469 = .ok (.iload_n 3, 1) by decide +kernel) rfl) <|
  ok_c (sn_iconst (v := 1) (show decode code 470 = .ok (.iconst 1, 1) by decide +kernel) (by decide +kernel)) <|
  ok_c (sn_iadd (show decode code 471 = .ok (.iadd, 1) by decide +kernel)) <|
  ok_c (sn_aload_n (show decode code 473 = .ok (.aload_n 0, 1) by decide +kernel) rfl) <|
  ok_c (sn_iload_n (show decode code 474 = .ok (.iload_n 3, 1) by decide +kernel) rfl) <|
  ok_c (sn_iconst (v := 2) (show decode code 475 = .ok (.iconst 2, 1) by decide +kernel) (by decide +kernel)) <|
  ok_c (sn_iadd (show decode code 476 = .ok (.iadd, 1) by decide +kernel)) <|
  ok_c (sn_aload_n (show decode code 481 = .ok (.aload_n 2, 1) by decide +kernel) rfl) <|
  ok_c (sn_aload_n (show decode code 482 = .ok (.aload_n 0, 1) by decide +kernel) rfl) <|
  ok_c (sn_iload_n (show decode code 483 = .ok (.iload_n 3, 1) by decide +kernel) rfl) <|
  ok_c (sn_iconst (v := 1) (show decode code 484 = .ok (.iconst 1, 1) by decide +kernel) (by decide +kernel)) <|
  ok_c (sn_iadd (show decode code 485 = .ok (.iadd, 1) by decide +kernel)) <|
  ok_c (sn_aload_n (show decode code 487 = .ok (.aload_n 0, 1) by decide +kernel) rfl) <|
  ok_c (sn_iload_n (show decode code 488 = .ok (.iload_n 3, 1) by decide +kernel) rfl) <|
  ok_c (sn_iconst (v := 2) (show decode code 489 = .ok (.iconst 2, 1) by decide +kernel) (by decide +kernel)) <|
  ok_c (sn_iadd (show decode code 490 = .ok (.iadd, 1) by decide +kernel)) <|
  ok_c (sn_ic_eq (show decode code 495 = .ok (.if_icmp .eq 1805, 3) by decide +kernel) (by decide)) <|
  ok_c (sn_iconst (v := 0) (show decode code 498 = .ok (.iconst 0, 1) by decide +kernel) (by decide +kernel)) <|
  ok_n
def uL5 : gCT := [(478, YX8_join, 3, some 8), (492, YX9_join, 3, some 9)]
set_option maxRecDepth 100000 in
theorem ocL5 : gOkC YL uL5 := oc_c (gEdge_V cal_X8_join ck_8 rfl (show decode code 478 = .ok (.invokevirtual 37, 3) by decide +kernel) wd_3_78 wd_3_79 wd_3_80) <|
  oc_c (gEdge_V cal_X9_join ck_9 rfl (show decode code 492 = .ok (.invokevirtual 40, 3) by decide +kernel) wd_7_55 wd_7_56 wd_7_57) <|
  oc_n
set_option maxRecDepth 20000 in
theorem lc_5 (C : vCx p s m args c cells slots G b Ln xs) {i : Nat} (hin : ∀ k, k < 6 → vp_in (nI i + nI k) Ln) {M : gMem} (hI : INV M) (kk : ∀ M', INV M' → gV p l e s m args below meth c cells slots Q G 2300 (vLw (nI i)) [] M') : gV p l e s m args below meth c cells slots Q G 467 (vLw (nI i)) [] M := by
  obtain ⟨r, K, h1, h2, h3⟩ := S_join ((xs (nI i + 1).toNatClampNeg)) ((xs (nI i + 2).toNatClampNeg)) M hI
  refine v_rn okL5 C 5 (pc' := 472) (L' := vLw (nI i)) (S' := [.int (nI i + 1), .ref 960, .ref 0]) (M' := M) rfl ?_
  refine v_sld C (hin 1 (by omega)) (show decode code 472 = .ok (.iaload, 1) by decide +kernel) ?_
  refine v_rn okL5 C 4 (pc' := 477) (L' := vLw (nI i)) (S' := [.int (nI i + 2), .ref 960, .int (xs (nI i + 1).toNatClampNeg), .ref 0]) (M' := M) rfl ?_
  refine v_sld C (hin 2 (by omega)) (show decode code 477 = .ok (.iaload, 1) by decide +kernel) ?_
  refine v_call ocL5 C rfl rfl (gOb_c rfl) rfl (SX8_join ((xs (nI i + 1).toNatClampNeg)) ((xs (nI i + 2).toNatClampNeg)) M h1) (by decide) ?_
  refine v_rn okL5 C 5 (pc' := 486) (L' := vLw (nI i)) (S' := [.int (nI i + 1), .ref 960, .ref 141, .int r]) (M' := M) rfl ?_
  refine v_sld C (hin 1 (by omega)) (show decode code 486 = .ok (.iaload, 1) by decide +kernel) ?_
  refine v_rn okL5 C 4 (pc' := 491) (L' := vLw (nI i)) (S' := [.int (nI i + 2), .ref 960, .int (xs (nI i + 1).toNatClampNeg), .ref 141, .int r]) (M' := M) rfl ?_
  refine v_sld C (hin 2 (by omega)) (show decode code 491 = .ok (.iaload, 1) by decide +kernel) ?_
  refine v_call ocL5 C rfl rfl (gOb_c rfl) rfl (SX9_join ((xs (nI i + 1).toNatClampNeg)) ((xs (nI i + 2).toNatClampNeg)) M h2) (by decide) ?_
  refine v_eq okL5 C (t := 2300) rfl ?_
  exact kk K h3
def tL6 : List (Nat × gStp) := [(500, i_aload 1 501), (501, i_aload 0 502), (502, i_iload 3 503), (503, i_push (.int 1) 504), (504, i_ii (fun x y => x + y) 505), (509, i_aload 2 510), (510, i_aload 0 511), (511, i_iload 3 512), (512, i_push (.int 1) 513), (513, i_ii (fun x y => x + y) 514), (518, i_ic_eq 2300 521), (521, i_push (.int 0) 522)]
set_option maxRecDepth 100000 in
theorem okL6 : gOk YL tL6 := ok_c (sn_aload_n (show decode code 500 = .ok (.aload_n 1, 1) by decide +kernel) rfl) <|
  ok_c (sn_aload_n (show decode code 501 = .ok (.aload_n 0, 1) by decide +kernel) rfl) <|
  ok_c (sn_iload_n (show decode code 502 = .ok (.iload_n 3, 1) by decide +kernel) rfl) <|
  ok_c (sn_iconst (v := 1) (show decode code 503 = .ok (.iconst 1, 1) by decide +kernel) (by decide +kernel)) <|
  ok_c (sn_iadd (show decode code 504 = .ok (.iadd, 1) by decide +kernel)) <|
  ok_c (sn_aload_n (show decode code 509 = .ok (.aload_n 2, 1) by decide +kernel) rfl) <|
  ok_c (sn_aload_n (show decode code 510 = .ok (.aload_n 0, 1) by decide +kernel) rfl) <|
  ok_c (sn_iload_n (show decode code 511 = .ok (.iload_n 3, 1) by decide +kernel) rfl) <|
  ok_c (sn_iconst (v := 1) (show decode code 512 = .ok (.iconst 1, 1) by decide +kernel) (by decide +kernel)) <|
  ok_c (sn_iadd (show decode code 513 = .ok (.iadd, 1) by decide +kernel)) <|
  ok_c (sn_ic_eq (show decode code 518 = .ok (.if_icmp .eq 1782, 3) by decide +kernel) (by decide)) <|
  ok_c (sn_iconst (v := 0) (show decode code 521 = .ok (.iconst 0, 1) by decide +kernel) (by decide +kernel)) <|
  ok_n
def uL6 : gCT := [(506, YX8_door, 2, some 8), (515, YX9_door, 2, some 9)]
set_option maxRecDepth 100000 in
theorem ocL6 : gOkC YL uL6 := oc_c (gEdge_V cal_X8_door ck_8 rfl (show decode code 506 = .ok (.invokevirtual 41, 3) by decide +kernel) wd_3_86 wd_3_87 wd_3_88) <|
  oc_c (gEdge_V cal_X9_door ck_9 rfl (show decode code 515 = .ok (.invokevirtual 44, 3) by decide +kernel) wd_7_67 wd_7_68 wd_7_69) <|
  oc_n
set_option maxRecDepth 20000 in
theorem lc_6 (C : vCx p s m args c cells slots G b Ln xs) {i : Nat} (hin : ∀ k, k < 6 → vp_in (nI i + nI k) Ln) {M : gMem} (hI : INV M) (kk : ∀ M', INV M' → gV p l e s m args below meth c cells slots Q G 2300 (vLw (nI i)) [] M') : gV p l e s m args below meth c cells slots Q G 500 (vLw (nI i)) [] M := by
  obtain ⟨r, K, h1, h2, h3⟩ := S_door ((xs (nI i + 1).toNatClampNeg)) M hI
  refine v_rn okL6 C 5 (pc' := 505) (L' := vLw (nI i)) (S' := [.int (nI i + 1), .ref 960, .ref 0]) (M' := M) rfl ?_
  refine v_sld C (hin 1 (by omega)) (show decode code 505 = .ok (.iaload, 1) by decide +kernel) ?_
  refine v_call ocL6 C rfl rfl (gOb_c rfl) rfl (SX8_door ((xs (nI i + 1).toNatClampNeg)) M h1) (by decide) ?_
  refine v_rn okL6 C 5 (pc' := 514) (L' := vLw (nI i)) (S' := [.int (nI i + 1), .ref 960, .ref 141, .int r]) (M' := M) rfl ?_
  refine v_sld C (hin 1 (by omega)) (show decode code 514 = .ok (.iaload, 1) by decide +kernel) ?_
  refine v_call ocL6 C rfl rfl (gOb_c rfl) rfl (SX9_door ((xs (nI i + 1).toNatClampNeg)) M h2) (by decide) ?_
  refine v_eq okL6 C (t := 2300) rfl ?_
  exact kk K h3
def tL7 : List (Nat × gStp) := [(523, i_aload 1 524), (524, i_aload 0 525), (525, i_iload 3 526), (526, i_push (.int 1) 527), (527, i_ii (fun x y => x + y) 528), (532, i_aload 2 533), (533, i_aload 0 534), (534, i_iload 3 535), (535, i_push (.int 1) 536), (536, i_ii (fun x y => x + y) 537), (541, i_ic_eq 2300 544), (544, i_push (.int 0) 545)]
set_option maxRecDepth 100000 in
theorem okL7 : gOk YL tL7 := ok_c (sn_aload_n (show decode code 523 = .ok (.aload_n 1, 1) by decide +kernel) rfl) <|
  ok_c (sn_aload_n (show decode code 524 = .ok (.aload_n 0, 1) by decide +kernel) rfl) <|
  ok_c (sn_iload_n (show decode code 525 = .ok (.iload_n 3, 1) by decide +kernel) rfl) <|
  ok_c (sn_iconst (v := 1) (show decode code 526 = .ok (.iconst 1, 1) by decide +kernel) (by decide +kernel)) <|
  ok_c (sn_iadd (show decode code 527 = .ok (.iadd, 1) by decide +kernel)) <|
  ok_c (sn_aload_n (show decode code 532 = .ok (.aload_n 2, 1) by decide +kernel) rfl) <|
  ok_c (sn_aload_n (show decode code 533 = .ok (.aload_n 0, 1) by decide +kernel) rfl) <|
  ok_c (sn_iload_n (show decode code 534 = .ok (.iload_n 3, 1) by decide +kernel) rfl) <|
  ok_c (sn_iconst (v := 1) (show decode code 535 = .ok (.iconst 1, 1) by decide +kernel) (by decide +kernel)) <|
  ok_c (sn_iadd (show decode code 536 = .ok (.iadd, 1) by decide +kernel)) <|
  ok_c (sn_ic_eq (show decode code 541 = .ok (.if_icmp .eq 1759, 3) by decide +kernel) (by decide)) <|
  ok_c (sn_iconst (v := 0) (show decode code 544 = .ok (.iconst 0, 1) by decide +kernel) (by decide +kernel)) <|
  ok_n
def uL7 : gCT := [(529, YX8_holds, 2, some 8), (538, YX9_holds, 2, some 9)]
set_option maxRecDepth 100000 in
theorem ocL7 : gOkC YL uL7 := oc_c (gEdge_V cal_X8_holds ck_8 rfl (show decode code 529 = .ok (.invokevirtual 45, 3) by decide +kernel) wd_3_94 wd_3_95 wd_3_96) <|
  oc_c (gEdge_V cal_X9_holds ck_9 rfl (show decode code 538 = .ok (.invokevirtual 48, 3) by decide +kernel) wd_7_75 wd_7_76 wd_7_77) <|
  oc_n
set_option maxRecDepth 20000 in
theorem lc_7 (C : vCx p s m args c cells slots G b Ln xs) {i : Nat} (hin : ∀ k, k < 6 → vp_in (nI i + nI k) Ln) {M : gMem} (hI : INV M) (kk : ∀ M', INV M' → gV p l e s m args below meth c cells slots Q G 2300 (vLw (nI i)) [] M') : gV p l e s m args below meth c cells slots Q G 523 (vLw (nI i)) [] M := by
  obtain ⟨r, N, K, h1, h2, h3⟩ := S_holds ((xs (nI i + 1).toNatClampNeg)) M hI
  refine v_rn okL7 C 5 (pc' := 528) (L' := vLw (nI i)) (S' := [.int (nI i + 1), .ref 960, .ref 0]) (M' := M) rfl ?_
  refine v_sld C (hin 1 (by omega)) (show decode code 528 = .ok (.iaload, 1) by decide +kernel) ?_
  refine v_call ocL7 C rfl rfl (gOb_c rfl) rfl (SX8_holds ((xs (nI i + 1).toNatClampNeg)) M h1) (by decide) ?_
  refine v_rn okL7 C 5 (pc' := 537) (L' := vLw (nI i)) (S' := [.int (nI i + 1), .ref 960, .ref 141, .int r]) (M' := N) rfl ?_
  refine v_sld C (hin 1 (by omega)) (show decode code 537 = .ok (.iaload, 1) by decide +kernel) ?_
  refine v_call ocL7 C rfl rfl (gOb_c rfl) rfl (SX9_holds ((xs (nI i + 1).toNatClampNeg)) N h2) (by decide) ?_
  refine v_eq okL7 C (t := 2300) rfl ?_
  exact kk K h3
def tL8 : List (Nat × gStp) := [(546, i_aload 1 547), (547, i_aload 0 548), (548, i_iload 3 549), (549, i_push (.int 1) 550), (550, i_ii (fun x y => x + y) 551), (552, i_aload 0 553), (553, i_iload 3 554), (554, i_push (.int 2) 555), (555, i_ii (fun x y => x + y) 556), (557, i_aload 0 558), (558, i_iload 3 559), (559, i_push (.int 3) 560), (560, i_ii (fun x y => x + y) 561), (565, i_aload 2 566), (566, i_aload 0 567), (567, i_iload 3 568), (568, i_push (.int 1) 569), (569, i_ii (fun x y => x + y) 570), (571, i_aload 0 572), (572, i_iload 3 573), (573, i_push (.int 2) 574), (574, i_ii (fun x y => x + y) 575), (576, i_aload 0 577), (577, i_iload 3 578), (578, i_push (.int 3) 579), (579, i_ii (fun x y => x + y) 580), (584, i_ic_eq 2300 587), (587, i_push (.int 0) 588)]
set_option maxRecDepth 100000 in
theorem okL8 : gOk YL tL8 := ok_c (sn_aload_n (show decode code 546 = .ok (.aload_n 1, 1) by decide +kernel) rfl) <|
  ok_c (sn_aload_n (show decode code 547 = .ok (.aload_n 0, 1) by decide +kernel) rfl) <|
  ok_c (sn_iload_n (show decode code 548 = .ok (.iload_n 3, 1) by decide +kernel) rfl) <|
  ok_c (sn_iconst (v := 1) (show decode code 549 = .ok (.iconst 1, 1) by decide +kernel) (by decide +kernel)) <|
  ok_c (sn_iadd (show decode code 550 = .ok (.iadd, 1) by decide +kernel)) <|
  ok_c (sn_aload_n (show decode code 552 = .ok (.aload_n 0, 1) by decide +kernel) rfl) <|
  ok_c (sn_iload_n (show decode code 553 = .ok (.iload_n 3, 1) by decide +kernel) rfl) <|
  ok_c (sn_iconst (v := 2) (show decode code 554 = .ok (.iconst 2, 1) by decide +kernel) (by decide +kernel)) <|
  ok_c (sn_iadd (show decode code 555 = .ok (.iadd, 1) by decide +kernel)) <|
  ok_c (sn_aload_n (show decode code 557 = .ok (.aload_n 0, 1) by decide +kernel) rfl) <|
  ok_c (sn_iload_n (show decode code 558 = .ok (.iload_n 3, 1) by decide +kernel) rfl) <|
  ok_c (sn_iconst (v := 3) (show decode code 559 = .ok (.iconst 3, 1) by decide +kernel) (by decide +kernel)) <|
  ok_c (sn_iadd (show decode code 560 = .ok (.iadd, 1) by decide +kernel)) <|
  ok_c (sn_aload_n (show decode code 565 = .ok (.aload_n 2, 1) by decide +kernel) rfl) <|
  ok_c (sn_aload_n (show decode code 566 = .ok (.aload_n 0, 1) by decide +kernel) rfl) <|
  ok_c (sn_iload_n (show decode code 567 = .ok (.iload_n 3, 1) by decide +kernel) rfl) <|
  ok_c (sn_iconst (v := 1) (show decode code 568 = .ok (.iconst 1, 1) by decide +kernel) (by decide +kernel)) <|
  ok_c (sn_iadd (show decode code 569 = .ok (.iadd, 1) by decide +kernel)) <|
  ok_c (sn_aload_n (show decode code 571 = .ok (.aload_n 0, 1) by decide +kernel) rfl) <|
  ok_c (sn_iload_n (show decode code 572 = .ok (.iload_n 3, 1) by decide +kernel) rfl) <|
  ok_c (sn_iconst (v := 2) (show decode code 573 = .ok (.iconst 2, 1) by decide +kernel) (by decide +kernel)) <|
  ok_c (sn_iadd (show decode code 574 = .ok (.iadd, 1) by decide +kernel)) <|
  ok_c (sn_aload_n (show decode code 576 = .ok (.aload_n 0, 1) by decide +kernel) rfl) <|
  ok_c (sn_iload_n (show decode code 577 = .ok (.iload_n 3, 1) by decide +kernel) rfl) <|
  ok_c (sn_iconst (v := 3) (show decode code 578 = .ok (.iconst 3, 1) by decide +kernel) (by decide +kernel)) <|
  ok_c (sn_iadd (show decode code 579 = .ok (.iadd, 1) by decide +kernel)) <|
  ok_c (sn_ic_eq (show decode code 584 = .ok (.if_icmp .eq 1716, 3) by decide +kernel) (by decide)) <|
  ok_c (sn_iconst (v := 0) (show decode code 587 = .ok (.iconst 0, 1) by decide +kernel) (by decide +kernel)) <|
  ok_n
def uL8 : gCT := [(562, YX8_tied, 4, some 8), (581, YX9_tied, 4, some 9)]
set_option maxRecDepth 100000 in
theorem ocL8 : gOkC YL uL8 := oc_c (gEdge_V cal_X8_tied ck_8 rfl (show decode code 562 = .ok (.invokevirtual 49, 3) by decide +kernel) wd_3_183 wd_3_184 wd_3_185) <|
  oc_c (gEdge_V cal_X9_tied ck_9 rfl (show decode code 581 = .ok (.invokevirtual 53, 3) by decide +kernel) wd_7_154 wd_7_155 wd_7_156) <|
  oc_n
set_option maxRecDepth 20000 in
theorem lc_8 (C : vCx p s m args c cells slots G b Ln xs) {i : Nat} (hin : ∀ k, k < 6 → vp_in (nI i + nI k) Ln) {M : gMem} (hI : INV M) (kk : ∀ M', INV M' → gV p l e s m args below meth c cells slots Q G 2300 (vLw (nI i)) [] M') : gV p l e s m args below meth c cells slots Q G 546 (vLw (nI i)) [] M := by
  obtain ⟨r, N, K, h1, h2, h3⟩ := S_tied ((xs (nI i + 1).toNatClampNeg)) ((xs (nI i + 2).toNatClampNeg)) ((xs (nI i + 3).toNatClampNeg)) M hI
  refine v_rn okL8 C 5 (pc' := 551) (L' := vLw (nI i)) (S' := [.int (nI i + 1), .ref 960, .ref 0]) (M' := M) rfl ?_
  refine v_sld C (hin 1 (by omega)) (show decode code 551 = .ok (.iaload, 1) by decide +kernel) ?_
  refine v_rn okL8 C 4 (pc' := 556) (L' := vLw (nI i)) (S' := [.int (nI i + 2), .ref 960, .int (xs (nI i + 1).toNatClampNeg), .ref 0]) (M' := M) rfl ?_
  refine v_sld C (hin 2 (by omega)) (show decode code 556 = .ok (.iaload, 1) by decide +kernel) ?_
  refine v_rn okL8 C 4 (pc' := 561) (L' := vLw (nI i)) (S' := [.int (nI i + 3), .ref 960, .int (xs (nI i + 2).toNatClampNeg), .int (xs (nI i + 1).toNatClampNeg), .ref 0]) (M' := M) rfl ?_
  refine v_sld C (hin 3 (by omega)) (show decode code 561 = .ok (.iaload, 1) by decide +kernel) ?_
  refine v_call ocL8 C rfl rfl (gOb_c rfl) rfl (SX8_tied ((xs (nI i + 1).toNatClampNeg)) ((xs (nI i + 2).toNatClampNeg)) ((xs (nI i + 3).toNatClampNeg)) M h1) (by decide) ?_
  refine v_rn okL8 C 5 (pc' := 570) (L' := vLw (nI i)) (S' := [.int (nI i + 1), .ref 960, .ref 141, .int r]) (M' := N) rfl ?_
  refine v_sld C (hin 1 (by omega)) (show decode code 570 = .ok (.iaload, 1) by decide +kernel) ?_
  refine v_rn okL8 C 4 (pc' := 575) (L' := vLw (nI i)) (S' := [.int (nI i + 2), .ref 960, .int (xs (nI i + 1).toNatClampNeg), .ref 141, .int r]) (M' := N) rfl ?_
  refine v_sld C (hin 2 (by omega)) (show decode code 575 = .ok (.iaload, 1) by decide +kernel) ?_
  refine v_rn okL8 C 4 (pc' := 580) (L' := vLw (nI i)) (S' := [.int (nI i + 3), .ref 960, .int (xs (nI i + 2).toNatClampNeg), .int (xs (nI i + 1).toNatClampNeg), .ref 141, .int r]) (M' := N) rfl ?_
  refine v_sld C (hin 3 (by omega)) (show decode code 580 = .ok (.iaload, 1) by decide +kernel) ?_
  refine v_call ocL8 C rfl rfl (gOb_c rfl) rfl (SX9_tied ((xs (nI i + 1).toNatClampNeg)) ((xs (nI i + 2).toNatClampNeg)) ((xs (nI i + 3).toNatClampNeg)) N h2) (by decide) ?_
  refine v_eq okL8 C (t := 2300) rfl ?_
  exact kk K h3
def tL9 : List (Nat × gStp) := [(589, i_aload 1 590), (590, i_aload 0 591), (591, i_iload 3 592), (592, i_push (.int 1) 593), (593, i_ii (fun x y => x + y) 594), (595, i_aload 0 596), (596, i_iload 3 597), (597, i_push (.int 2) 598), (598, i_ii (fun x y => x + y) 599), (603, i_aload 2 604), (604, i_aload 0 605), (605, i_iload 3 606), (606, i_push (.int 1) 607), (607, i_ii (fun x y => x + y) 608), (609, i_aload 0 610), (610, i_iload 3 611), (611, i_push (.int 2) 612), (612, i_ii (fun x y => x + y) 613), (617, i_ic_eq 2300 620), (620, i_push (.int 0) 621)]
set_option maxRecDepth 100000 in
theorem okL9 : gOk YL tL9 := ok_c (sn_aload_n (show decode code 589 = .ok (.aload_n 1, 1) by decide +kernel) rfl) <|
  ok_c (sn_aload_n (show decode code 590 = .ok (.aload_n 0, 1) by decide +kernel) rfl) <|
  ok_c (sn_iload_n (show decode code 591 = .ok (.iload_n 3, 1) by decide +kernel) rfl) <|
  ok_c (sn_iconst (v := 1) (show decode code 592 = .ok (.iconst 1, 1) by decide +kernel) (by decide +kernel)) <|
  ok_c (sn_iadd (show decode code 593 = .ok (.iadd, 1) by decide +kernel)) <|
  ok_c (sn_aload_n (show decode code 595 = .ok (.aload_n 0, 1) by decide +kernel) rfl) <|
  ok_c (sn_iload_n (show decode code 596 = .ok (.iload_n 3, 1) by decide +kernel) rfl) <|
  ok_c (sn_iconst (v := 2) (show decode code 597 = .ok (.iconst 2, 1) by decide +kernel) (by decide +kernel)) <|
  ok_c (sn_iadd (show decode code 598 = .ok (.iadd, 1) by decide +kernel)) <|
  ok_c (sn_aload_n (show decode code 603 = .ok (.aload_n 2, 1) by decide +kernel) rfl) <|
  ok_c (sn_aload_n (show decode code 604 = .ok (.aload_n 0, 1) by decide +kernel) rfl) <|
  ok_c (sn_iload_n (show decode code 605 = .ok (.iload_n 3, 1) by decide +kernel) rfl) <|
  ok_c (sn_iconst (v := 1) (show decode code 606 = .ok (.iconst 1, 1) by decide +kernel) (by decide +kernel)) <|
  ok_c (sn_iadd (show decode code 607 = .ok (.iadd, 1) by decide +kernel)) <|
  ok_c (sn_aload_n (show decode code 609 = .ok (.aload_n 0, 1) by decide +kernel) rfl) <|
  ok_c (sn_iload_n (show decode code 610 = .ok (.iload_n 3, 1) by decide +kernel) rfl) <|
  ok_c (sn_iconst (v := 2) (show decode code 611 = .ok (.iconst 2, 1) by decide +kernel) (by decide +kernel)) <|
  ok_c (sn_iadd (show decode code 612 = .ok (.iadd, 1) by decide +kernel)) <|
  ok_c (sn_ic_eq (show decode code 617 = .ok (.if_icmp .eq 1683, 3) by decide +kernel) (by decide)) <|
  ok_c (sn_iconst (v := 0) (show decode code 620 = .ok (.iconst 0, 1) by decide +kernel) (by decide +kernel)) <|
  ok_n
def uL9 : gCT := [(600, YX8_firm, 3, some 8), (614, YX9_firm, 3, some 9)]
set_option maxRecDepth 100000 in
theorem ocL9 : gOkC YL uL9 := oc_c (gEdge_V cal_X8_firm ck_8 rfl (show decode code 600 = .ok (.invokevirtual 54, 3) by decide +kernel) wd_3_196 wd_3_197 wd_3_198) <|
  oc_c (gEdge_V cal_X9_firm ck_9 rfl (show decode code 614 = .ok (.invokevirtual 57, 3) by decide +kernel) wd_7_162 wd_7_163 wd_7_164) <|
  oc_n
set_option maxRecDepth 20000 in
theorem lc_9 (C : vCx p s m args c cells slots G b Ln xs) {i : Nat} (hin : ∀ k, k < 6 → vp_in (nI i + nI k) Ln) {M : gMem} (hI : INV M) (kk : ∀ M', INV M' → gV p l e s m args below meth c cells slots Q G 2300 (vLw (nI i)) [] M') : gV p l e s m args below meth c cells slots Q G 589 (vLw (nI i)) [] M := by
  obtain ⟨r, N, K, h1, h2, h3⟩ := S_firm ((xs (nI i + 1).toNatClampNeg)) ((xs (nI i + 2).toNatClampNeg)) M hI
  refine v_rn okL9 C 5 (pc' := 594) (L' := vLw (nI i)) (S' := [.int (nI i + 1), .ref 960, .ref 0]) (M' := M) rfl ?_
  refine v_sld C (hin 1 (by omega)) (show decode code 594 = .ok (.iaload, 1) by decide +kernel) ?_
  refine v_rn okL9 C 4 (pc' := 599) (L' := vLw (nI i)) (S' := [.int (nI i + 2), .ref 960, .int (xs (nI i + 1).toNatClampNeg), .ref 0]) (M' := M) rfl ?_
  refine v_sld C (hin 2 (by omega)) (show decode code 599 = .ok (.iaload, 1) by decide +kernel) ?_
  refine v_call ocL9 C rfl rfl (gOb_c rfl) rfl (SX8_firm ((xs (nI i + 1).toNatClampNeg)) ((xs (nI i + 2).toNatClampNeg)) M h1) (by decide) ?_
  refine v_rn okL9 C 5 (pc' := 608) (L' := vLw (nI i)) (S' := [.int (nI i + 1), .ref 960, .ref 141, .int r]) (M' := N) rfl ?_
  refine v_sld C (hin 1 (by omega)) (show decode code 608 = .ok (.iaload, 1) by decide +kernel) ?_
  refine v_rn okL9 C 4 (pc' := 613) (L' := vLw (nI i)) (S' := [.int (nI i + 2), .ref 960, .int (xs (nI i + 1).toNatClampNeg), .ref 141, .int r]) (M' := N) rfl ?_
  refine v_sld C (hin 2 (by omega)) (show decode code 613 = .ok (.iaload, 1) by decide +kernel) ?_
  refine v_call ocL9 C rfl rfl (gOb_c rfl) rfl (SX9_firm ((xs (nI i + 1).toNatClampNeg)) ((xs (nI i + 2).toNatClampNeg)) N h2) (by decide) ?_
  refine v_eq okL9 C (t := 2300) rfl ?_
  exact kk K h3
def tL10 : List (Nat × gStp) := [(622, i_aload 1 623), (623, i_aload 0 624), (624, i_iload 3 625), (625, i_push (.int 1) 626), (626, i_ii (fun x y => x + y) 627), (631, i_aload 2 632), (632, i_aload 0 633), (633, i_iload 3 634), (634, i_push (.int 1) 635), (635, i_ii (fun x y => x + y) 636), (640, i_ic_eq 2300 643), (643, i_push (.int 0) 644)]
set_option maxRecDepth 100000 in
theorem okL10 : gOk YL tL10 := ok_c (sn_aload_n (show decode code 622 = .ok (.aload_n 1, 1) by decide +kernel) rfl) <|
  ok_c (sn_aload_n (show decode code 623 = .ok (.aload_n 0, 1) by decide +kernel) rfl) <|
  ok_c (sn_iload_n (show decode code 624 = .ok (.iload_n 3, 1) by decide +kernel) rfl) <|
  ok_c (sn_iconst (v := 1) (show decode code 625 = .ok (.iconst 1, 1) by decide +kernel) (by decide +kernel)) <|
  ok_c (sn_iadd (show decode code 626 = .ok (.iadd, 1) by decide +kernel)) <|
  ok_c (sn_aload_n (show decode code 631 = .ok (.aload_n 2, 1) by decide +kernel) rfl) <|
  ok_c (sn_aload_n (show decode code 632 = .ok (.aload_n 0, 1) by decide +kernel) rfl) <|
  ok_c (sn_iload_n (show decode code 633 = .ok (.iload_n 3, 1) by decide +kernel) rfl) <|
  ok_c (sn_iconst (v := 1) (show decode code 634 = .ok (.iconst 1, 1) by decide +kernel) (by decide +kernel)) <|
  ok_c (sn_iadd (show decode code 635 = .ok (.iadd, 1) by decide +kernel)) <|
  ok_c (sn_ic_eq (show decode code 640 = .ok (.if_icmp .eq 1660, 3) by decide +kernel) (by decide)) <|
  ok_c (sn_iconst (v := 0) (show decode code 643 = .ok (.iconst 0, 1) by decide +kernel) (by decide +kernel)) <|
  ok_n
def uL10 : gCT := [(628, YX8_firms, 2, some 8), (637, YX9_firms, 2, some 9)]
set_option maxRecDepth 100000 in
theorem ocL10 : gOkC YL uL10 := oc_c (gEdge_V cal_X8_firms ck_8 rfl (show decode code 628 = .ok (.invokevirtual 58, 3) by decide +kernel) wd_3_200 wd_3_201 wd_3_202) <|
  oc_c (gEdge_V cal_X9_firms ck_9 rfl (show decode code 637 = .ok (.invokevirtual 61, 3) by decide +kernel) wd_7_170 wd_7_171 wd_7_172) <|
  oc_n
set_option maxRecDepth 20000 in
theorem lc_10 (C : vCx p s m args c cells slots G b Ln xs) {i : Nat} (hin : ∀ k, k < 6 → vp_in (nI i + nI k) Ln) {M : gMem} (hI : INV M) (kk : ∀ M', INV M' → gV p l e s m args below meth c cells slots Q G 2300 (vLw (nI i)) [] M') : gV p l e s m args below meth c cells slots Q G 622 (vLw (nI i)) [] M := by
  obtain ⟨r, N, K, h1, h2, h3⟩ := S_firms ((xs (nI i + 1).toNatClampNeg)) M hI
  refine v_rn okL10 C 5 (pc' := 627) (L' := vLw (nI i)) (S' := [.int (nI i + 1), .ref 960, .ref 0]) (M' := M) rfl ?_
  refine v_sld C (hin 1 (by omega)) (show decode code 627 = .ok (.iaload, 1) by decide +kernel) ?_
  refine v_call ocL10 C rfl rfl (gOb_c rfl) rfl (SX8_firms ((xs (nI i + 1).toNatClampNeg)) M h1) (by decide) ?_
  refine v_rn okL10 C 5 (pc' := 636) (L' := vLw (nI i)) (S' := [.int (nI i + 1), .ref 960, .ref 141, .int r]) (M' := N) rfl ?_
  refine v_sld C (hin 1 (by omega)) (show decode code 636 = .ok (.iaload, 1) by decide +kernel) ?_
  refine v_call ocL10 C rfl rfl (gOb_c rfl) rfl (SX9_firms ((xs (nI i + 1).toNatClampNeg)) N h2) (by decide) ?_
  refine v_eq okL10 C (t := 2300) rfl ?_
  exact kk K h3
def tL11 : List (Nat × gStp) := [(645, i_aload 1 646), (646, i_aload 0 647), (647, i_iload 3 648), (648, i_push (.int 1) 649), (649, i_ii (fun x y => x + y) 650), (651, i_aload 0 652), (652, i_iload 3 653), (653, i_push (.int 2) 654), (654, i_ii (fun x y => x + y) 655), (659, i_aload 2 660), (660, i_aload 0 661), (661, i_iload 3 662), (662, i_push (.int 1) 663), (663, i_ii (fun x y => x + y) 664), (665, i_aload 0 666), (666, i_iload 3 667), (667, i_push (.int 2) 668), (668, i_ii (fun x y => x + y) 669), (673, i_ic_eq 2300 676), (676, i_push (.int 0) 677)]
set_option maxRecDepth 100000 in
theorem okL11 : gOk YL tL11 := ok_c (sn_aload_n (show decode code 645 = .ok (.aload_n 1, 1) by decide +kernel) rfl) <|
  ok_c (sn_aload_n (show decode code 646 = .ok (.aload_n 0, 1) by decide +kernel) rfl) <|
  ok_c (sn_iload_n (show decode code 647 = .ok (.iload_n 3, 1) by decide +kernel) rfl) <|
  ok_c (sn_iconst (v := 1) (show decode code 648 = .ok (.iconst 1, 1) by decide +kernel) (by decide +kernel)) <|
  ok_c (sn_iadd (show decode code 649 = .ok (.iadd, 1) by decide +kernel)) <|
  ok_c (sn_aload_n (show decode code 651 = .ok (.aload_n 0, 1) by decide +kernel) rfl) <|
  ok_c (sn_iload_n (show decode code 652 = .ok (.iload_n 3, 1) by decide +kernel) rfl) <|
  ok_c (sn_iconst (v := 2) (show decode code 653 = .ok (.iconst 2, 1) by decide +kernel) (by decide +kernel)) <|
  ok_c (sn_iadd (show decode code 654 = .ok (.iadd, 1) by decide +kernel)) <|
  ok_c (sn_aload_n (show decode code 659 = .ok (.aload_n 2, 1) by decide +kernel) rfl) <|
  ok_c (sn_aload_n (show decode code 660 = .ok (.aload_n 0, 1) by decide +kernel) rfl) <|
  ok_c (sn_iload_n (show decode code 661 = .ok (.iload_n 3, 1) by decide +kernel) rfl) <|
  ok_c (sn_iconst (v := 1) (show decode code 662 = .ok (.iconst 1, 1) by decide +kernel) (by decide +kernel)) <|
  ok_c (sn_iadd (show decode code 663 = .ok (.iadd, 1) by decide +kernel)) <|
  ok_c (sn_aload_n (show decode code 665 = .ok (.aload_n 0, 1) by decide +kernel) rfl) <|
  ok_c (sn_iload_n (show decode code 666 = .ok (.iload_n 3, 1) by decide +kernel) rfl) <|
  ok_c (sn_iconst (v := 2) (show decode code 667 = .ok (.iconst 2, 1) by decide +kernel) (by decide +kernel)) <|
  ok_c (sn_iadd (show decode code 668 = .ok (.iadd, 1) by decide +kernel)) <|
  ok_c (sn_ic_eq (show decode code 673 = .ok (.if_icmp .eq 1627, 3) by decide +kernel) (by decide)) <|
  ok_c (sn_iconst (v := 0) (show decode code 676 = .ok (.iconst 0, 1) by decide +kernel) (by decide +kernel)) <|
  ok_n
def uL11 : gCT := [(656, YX8_wide, 3, some 8), (670, YX9_wide, 3, some 9)]
set_option maxRecDepth 100000 in
theorem ocL11 : gOkC YL uL11 := oc_c (gEdge_V cal_X8_wide ck_8 rfl (show decode code 656 = .ok (.invokevirtual 62, 3) by decide +kernel) wd_3_208 wd_3_209 wd_3_210) <|
  oc_c (gEdge_V cal_X9_wide ck_9 rfl (show decode code 670 = .ok (.invokevirtual 65, 3) by decide +kernel) wd_7_182 wd_7_183 wd_7_184) <|
  oc_n
set_option maxRecDepth 20000 in
theorem lc_11 (C : vCx p s m args c cells slots G b Ln xs) {i : Nat} (hin : ∀ k, k < 6 → vp_in (nI i + nI k) Ln) {M : gMem} (hI : INV M) (kk : ∀ M', INV M' → gV p l e s m args below meth c cells slots Q G 2300 (vLw (nI i)) [] M') : gV p l e s m args below meth c cells slots Q G 645 (vLw (nI i)) [] M := by
  obtain ⟨r, N, K, h1, h2, h3⟩ := S_wide ((xs (nI i + 1).toNatClampNeg)) ((xs (nI i + 2).toNatClampNeg)) M hI
  refine v_rn okL11 C 5 (pc' := 650) (L' := vLw (nI i)) (S' := [.int (nI i + 1), .ref 960, .ref 0]) (M' := M) rfl ?_
  refine v_sld C (hin 1 (by omega)) (show decode code 650 = .ok (.iaload, 1) by decide +kernel) ?_
  refine v_rn okL11 C 4 (pc' := 655) (L' := vLw (nI i)) (S' := [.int (nI i + 2), .ref 960, .int (xs (nI i + 1).toNatClampNeg), .ref 0]) (M' := M) rfl ?_
  refine v_sld C (hin 2 (by omega)) (show decode code 655 = .ok (.iaload, 1) by decide +kernel) ?_
  refine v_call ocL11 C rfl rfl (gOb_c rfl) rfl (SX8_wide ((xs (nI i + 1).toNatClampNeg)) ((xs (nI i + 2).toNatClampNeg)) M h1) (by decide) ?_
  refine v_rn okL11 C 5 (pc' := 664) (L' := vLw (nI i)) (S' := [.int (nI i + 1), .ref 960, .ref 141, .int r]) (M' := N) rfl ?_
  refine v_sld C (hin 1 (by omega)) (show decode code 664 = .ok (.iaload, 1) by decide +kernel) ?_
  refine v_rn okL11 C 4 (pc' := 669) (L' := vLw (nI i)) (S' := [.int (nI i + 2), .ref 960, .int (xs (nI i + 1).toNatClampNeg), .ref 141, .int r]) (M' := N) rfl ?_
  refine v_sld C (hin 2 (by omega)) (show decode code 669 = .ok (.iaload, 1) by decide +kernel) ?_
  refine v_call ocL11 C rfl rfl (gOb_c rfl) rfl (SX9_wide ((xs (nI i + 1).toNatClampNeg)) ((xs (nI i + 2).toNatClampNeg)) N h2) (by decide) ?_
  refine v_eq okL11 C (t := 2300) rfl ?_
  exact kk K h3
def tL12 : List (Nat × gStp) := [(678, i_aload 1 679), (679, i_aload 0 680), (680, i_iload 3 681), (681, i_push (.int 1) 682), (682, i_ii (fun x y => x + y) 683), (684, i_aload 0 685), (685, i_iload 3 686), (686, i_push (.int 2) 687), (687, i_ii (fun x y => x + y) 688), (692, i_aload 2 693), (693, i_aload 0 694), (694, i_iload 3 695), (695, i_push (.int 1) 696), (696, i_ii (fun x y => x + y) 697), (698, i_aload 0 699), (699, i_iload 3 700), (700, i_push (.int 2) 701), (701, i_ii (fun x y => x + y) 702), (706, i_ic_eq 2300 709), (709, i_push (.int 0) 710)]
set_option maxRecDepth 100000 in
theorem okL12 : gOk YL tL12 := ok_c (sn_aload_n (show decode code 678 = .ok (.aload_n 1, 1) by decide +kernel) rfl) <|
  ok_c (sn_aload_n (show decode code 679 = .ok (.aload_n 0, 1) by decide +kernel) rfl) <|
  ok_c (sn_iload_n (show decode code 680 = .ok (.iload_n 3, 1) by decide +kernel) rfl) <|
  ok_c (sn_iconst (v := 1) (show decode code 681 = .ok (.iconst 1, 1) by decide +kernel) (by decide +kernel)) <|
  ok_c (sn_iadd (show decode code 682 = .ok (.iadd, 1) by decide +kernel)) <|
  ok_c (sn_aload_n (show decode code 684 = .ok (.aload_n 0, 1) by decide +kernel) rfl) <|
  ok_c (sn_iload_n (show decode code 685 = .ok (.iload_n 3, 1) by decide +kernel) rfl) <|
  ok_c (sn_iconst (v := 2) (show decode code 686 = .ok (.iconst 2, 1) by decide +kernel) (by decide +kernel)) <|
  ok_c (sn_iadd (show decode code 687 = .ok (.iadd, 1) by decide +kernel)) <|
  ok_c (sn_aload_n (show decode code 692 = .ok (.aload_n 2, 1) by decide +kernel) rfl) <|
  ok_c (sn_aload_n (show decode code 693 = .ok (.aload_n 0, 1) by decide +kernel) rfl) <|
  ok_c (sn_iload_n (show decode code 694 = .ok (.iload_n 3, 1) by decide +kernel) rfl) <|
  ok_c (sn_iconst (v := 1) (show decode code 695 = .ok (.iconst 1, 1) by decide +kernel) (by decide +kernel)) <|
  ok_c (sn_iadd (show decode code 696 = .ok (.iadd, 1) by decide +kernel)) <|
  ok_c (sn_aload_n (show decode code 698 = .ok (.aload_n 0, 1) by decide +kernel) rfl) <|
  ok_c (sn_iload_n (show decode code 699 = .ok (.iload_n 3, 1) by decide +kernel) rfl) <|
  ok_c (sn_iconst (v := 2) (show decode code 700 = .ok (.iconst 2, 1) by decide +kernel) (by decide +kernel)) <|
  ok_c (sn_iadd (show decode code 701 = .ok (.iadd, 1) by decide +kernel)) <|
  ok_c (sn_ic_eq (show decode code 706 = .ok (.if_icmp .eq 1594, 3) by decide +kernel) (by decide)) <|
  ok_c (sn_iconst (v := 0) (show decode code 709 = .ok (.iconst 0, 1) by decide +kernel) (by decide +kernel)) <|
  ok_n
def uL12 : gCT := [(689, YX8_passes, 3, some 8), (703, YX9_passes, 3, some 9)]
set_option maxRecDepth 100000 in
theorem ocL12 : gOkC YL uL12 := oc_c (gEdge_V cal_X8_passes ck_8 rfl (show decode code 689 = .ok (.invokevirtual 66, 3) by decide +kernel) wd_3_234 wd_3_235 wd_3_236) <|
  oc_c (gEdge_V cal_X9_passes ck_9 rfl (show decode code 703 = .ok (.invokevirtual 69, 3) by decide +kernel) wd_7_201 wd_7_202 wd_7_203) <|
  oc_n
set_option maxRecDepth 20000 in
theorem lc_12 (C : vCx p s m args c cells slots G b Ln xs) {i : Nat} (hin : ∀ k, k < 6 → vp_in (nI i + nI k) Ln) {M : gMem} (hI : INV M) (kk : ∀ M', INV M' → gV p l e s m args below meth c cells slots Q G 2300 (vLw (nI i)) [] M') : gV p l e s m args below meth c cells slots Q G 678 (vLw (nI i)) [] M := by
  obtain ⟨r, N, K, h1, h2, h3⟩ := S_passes ((xs (nI i + 1).toNatClampNeg)) ((xs (nI i + 2).toNatClampNeg)) M hI
  refine v_rn okL12 C 5 (pc' := 683) (L' := vLw (nI i)) (S' := [.int (nI i + 1), .ref 960, .ref 0]) (M' := M) rfl ?_
  refine v_sld C (hin 1 (by omega)) (show decode code 683 = .ok (.iaload, 1) by decide +kernel) ?_
  refine v_rn okL12 C 4 (pc' := 688) (L' := vLw (nI i)) (S' := [.int (nI i + 2), .ref 960, .int (xs (nI i + 1).toNatClampNeg), .ref 0]) (M' := M) rfl ?_
  refine v_sld C (hin 2 (by omega)) (show decode code 688 = .ok (.iaload, 1) by decide +kernel) ?_
  refine v_call ocL12 C rfl rfl (gOb_c rfl) rfl (SX8_passes ((xs (nI i + 1).toNatClampNeg)) ((xs (nI i + 2).toNatClampNeg)) M h1) (by decide) ?_
  refine v_rn okL12 C 5 (pc' := 697) (L' := vLw (nI i)) (S' := [.int (nI i + 1), .ref 960, .ref 141, .int r]) (M' := N) rfl ?_
  refine v_sld C (hin 1 (by omega)) (show decode code 697 = .ok (.iaload, 1) by decide +kernel) ?_
  refine v_rn okL12 C 4 (pc' := 702) (L' := vLw (nI i)) (S' := [.int (nI i + 2), .ref 960, .int (xs (nI i + 1).toNatClampNeg), .ref 141, .int r]) (M' := N) rfl ?_
  refine v_sld C (hin 2 (by omega)) (show decode code 702 = .ok (.iaload, 1) by decide +kernel) ?_
  refine v_call ocL12 C rfl rfl (gOb_c rfl) rfl (SX9_passes ((xs (nI i + 1).toNatClampNeg)) ((xs (nI i + 2).toNatClampNeg)) N h2) (by decide) ?_
  refine v_eq okL12 C (t := 2300) rfl ?_
  exact kk K h3
def tL13 : List (Nat × gStp) := [(711, i_aload 1 712), (712, i_aload 0 713), (713, i_iload 3 714), (714, i_push (.int 1) 715), (715, i_ii (fun x y => x + y) 716), (720, i_aload 2 721), (721, i_aload 0 722), (722, i_iload 3 723), (723, i_push (.int 1) 724), (724, i_ii (fun x y => x + y) 725), (729, i_ic_eq 2300 732), (732, i_push (.int 0) 733)]
set_option maxRecDepth 100000 in
theorem okL13 : gOk YL tL13 := ok_c (sn_aload_n (show decode code 711 = .ok (.aload_n 1, 1) by decide +kernel) rfl) <|
  ok_c (sn_aload_n (show decode code 712 = .ok (.aload_n 0, 1) by decide +kernel) rfl) <|
  ok_c (sn_iload_n (show decode code 713 = .ok (.iload_n 3, 1) by decide +kernel) rfl) <|
  ok_c (sn_iconst (v := 1) (show decode code 714 = .ok (.iconst 1, 1) by decide +kernel) (by decide +kernel)) <|
  ok_c (sn_iadd (show decode code 715 = .ok (.iadd, 1) by decide +kernel)) <|
  ok_c (sn_aload_n (show decode code 720 = .ok (.aload_n 2, 1) by decide +kernel) rfl) <|
  ok_c (sn_aload_n (show decode code 721 = .ok (.aload_n 0, 1) by decide +kernel) rfl) <|
  ok_c (sn_iload_n (show decode code 722 = .ok (.iload_n 3, 1) by decide +kernel) rfl) <|
  ok_c (sn_iconst (v := 1) (show decode code 723 = .ok (.iconst 1, 1) by decide +kernel) (by decide +kernel)) <|
  ok_c (sn_iadd (show decode code 724 = .ok (.iadd, 1) by decide +kernel)) <|
  ok_c (sn_ic_eq (show decode code 729 = .ok (.if_icmp .eq 1571, 3) by decide +kernel) (by decide)) <|
  ok_c (sn_iconst (v := 0) (show decode code 732 = .ok (.iconst 0, 1) by decide +kernel) (by decide +kernel)) <|
  ok_n
def uL13 : gCT := [(717, YX8_largest, 2, some 8), (726, YX9_largest, 2, some 9)]
set_option maxRecDepth 100000 in
theorem ocL13 : gOkC YL uL13 := oc_c (gEdge_V cal_X8_largest ck_8 rfl (show decode code 717 = .ok (.invokevirtual 70, 3) by decide +kernel) wd_4_3 wd_4_4 wd_4_5) <|
  oc_c (gEdge_V cal_X9_largest ck_9 rfl (show decode code 726 = .ok (.invokevirtual 73, 3) by decide +kernel) wd_7_209 wd_7_210 wd_7_211) <|
  oc_n
set_option maxRecDepth 20000 in
theorem lc_13 (C : vCx p s m args c cells slots G b Ln xs) {i : Nat} (hin : ∀ k, k < 6 → vp_in (nI i + nI k) Ln) {M : gMem} (hI : INV M) (kk : ∀ M', INV M' → gV p l e s m args below meth c cells slots Q G 2300 (vLw (nI i)) [] M') : gV p l e s m args below meth c cells slots Q G 711 (vLw (nI i)) [] M := by
  obtain ⟨r, N, K, h1, h2, h3⟩ := S_largest ((xs (nI i + 1).toNatClampNeg)) M hI
  refine v_rn okL13 C 5 (pc' := 716) (L' := vLw (nI i)) (S' := [.int (nI i + 1), .ref 960, .ref 0]) (M' := M) rfl ?_
  refine v_sld C (hin 1 (by omega)) (show decode code 716 = .ok (.iaload, 1) by decide +kernel) ?_
  refine v_call ocL13 C rfl rfl (gOb_c rfl) rfl (SX8_largest ((xs (nI i + 1).toNatClampNeg)) M h1) (by decide) ?_
  refine v_rn okL13 C 5 (pc' := 725) (L' := vLw (nI i)) (S' := [.int (nI i + 1), .ref 960, .ref 141, .int r]) (M' := N) rfl ?_
  refine v_sld C (hin 1 (by omega)) (show decode code 725 = .ok (.iaload, 1) by decide +kernel) ?_
  refine v_call ocL13 C rfl rfl (gOb_c rfl) rfl (SX9_largest ((xs (nI i + 1).toNatClampNeg)) N h2) (by decide) ?_
  refine v_eq okL13 C (t := 2300) rfl ?_
  exact kk K h3
def tL14 : List (Nat × gStp) := [(734, i_aload 1 735), (735, i_aload 0 736), (736, i_iload 3 737), (737, i_push (.int 1) 738), (738, i_ii (fun x y => x + y) 739), (740, i_aload 0 741), (741, i_iload 3 742), (742, i_push (.int 2) 743), (743, i_ii (fun x y => x + y) 744), (745, i_aload 0 746), (746, i_iload 3 747), (747, i_push (.int 3) 748), (748, i_ii (fun x y => x + y) 749), (753, i_aload 2 754), (754, i_aload 0 755), (755, i_iload 3 756), (756, i_push (.int 1) 757), (757, i_ii (fun x y => x + y) 758), (759, i_aload 0 760), (760, i_iload 3 761), (761, i_push (.int 2) 762), (762, i_ii (fun x y => x + y) 763), (764, i_aload 0 765), (765, i_iload 3 766), (766, i_push (.int 3) 767), (767, i_ii (fun x y => x + y) 768), (772, i_ic_eq 2300 775), (775, i_push (.int 0) 776)]
set_option maxRecDepth 100000 in
theorem okL14 : gOk YL tL14 := ok_c (sn_aload_n (show decode code 734 = .ok (.aload_n 1, 1) by decide +kernel) rfl) <|
  ok_c (sn_aload_n (show decode code 735 = .ok (.aload_n 0, 1) by decide +kernel) rfl) <|
  ok_c (sn_iload_n (show decode code 736 = .ok (.iload_n 3, 1) by decide +kernel) rfl) <|
  ok_c (sn_iconst (v := 1) (show decode code 737 = .ok (.iconst 1, 1) by decide +kernel) (by decide +kernel)) <|
  ok_c (sn_iadd (show decode code 738 = .ok (.iadd, 1) by decide +kernel)) <|
  ok_c (sn_aload_n (show decode code 740 = .ok (.aload_n 0, 1) by decide +kernel) rfl) <|
  ok_c (sn_iload_n (show decode code 741 = .ok (.iload_n 3, 1) by decide +kernel) rfl) <|
  ok_c (sn_iconst (v := 2) (show decode code 742 = .ok (.iconst 2, 1) by decide +kernel) (by decide +kernel)) <|
  ok_c (sn_iadd (show decode code 743 = .ok (.iadd, 1) by decide +kernel)) <|
  ok_c (sn_aload_n (show decode code 745 = .ok (.aload_n 0, 1) by decide +kernel) rfl) <|
  ok_c (sn_iload_n (show decode code 746 = .ok (.iload_n 3, 1) by decide +kernel) rfl) <|
  ok_c (sn_iconst (v := 3) (show decode code 747 = .ok (.iconst 3, 1) by decide +kernel) (by decide +kernel)) <|
  ok_c (sn_iadd (show decode code 748 = .ok (.iadd, 1) by decide +kernel)) <|
  ok_c (sn_aload_n (show decode code 753 = .ok (.aload_n 2, 1) by decide +kernel) rfl) <|
  ok_c (sn_aload_n (show decode code 754 = .ok (.aload_n 0, 1) by decide +kernel) rfl) <|
  ok_c (sn_iload_n (show decode code 755 = .ok (.iload_n 3, 1) by decide +kernel) rfl) <|
  ok_c (sn_iconst (v := 1) (show decode code 756 = .ok (.iconst 1, 1) by decide +kernel) (by decide +kernel)) <|
  ok_c (sn_iadd (show decode code 757 = .ok (.iadd, 1) by decide +kernel)) <|
  ok_c (sn_aload_n (show decode code 759 = .ok (.aload_n 0, 1) by decide +kernel) rfl) <|
  ok_c (sn_iload_n (show decode code 760 = .ok (.iload_n 3, 1) by decide +kernel) rfl) <|
  ok_c (sn_iconst (v := 2) (show decode code 761 = .ok (.iconst 2, 1) by decide +kernel) (by decide +kernel)) <|
  ok_c (sn_iadd (show decode code 762 = .ok (.iadd, 1) by decide +kernel)) <|
  ok_c (sn_aload_n (show decode code 764 = .ok (.aload_n 0, 1) by decide +kernel) rfl) <|
  ok_c (sn_iload_n (show decode code 765 = .ok (.iload_n 3, 1) by decide +kernel) rfl) <|
  ok_c (sn_iconst (v := 3) (show decode code 766 = .ok (.iconst 3, 1) by decide +kernel) (by decide +kernel)) <|
  ok_c (sn_iadd (show decode code 767 = .ok (.iadd, 1) by decide +kernel)) <|
  ok_c (sn_ic_eq (show decode code 772 = .ok (.if_icmp .eq 1528, 3) by decide +kernel) (by decide)) <|
  ok_c (sn_iconst (v := 0) (show decode code 775 = .ok (.iconst 0, 1) by decide +kernel) (by decide +kernel)) <|
  ok_n
def uL14 : gCT := [(750, YX8_hairs, 4, some 8), (769, YX9_hairs, 4, some 9)]
set_option maxRecDepth 100000 in
theorem ocL14 : gOkC YL uL14 := oc_c (gEdge_V cal_X8_hairs ck_8 rfl (show decode code 750 = .ok (.invokevirtual 74, 3) by decide +kernel) wd_4_9 wd_4_10 wd_4_11) <|
  oc_c (gEdge_V cal_X9_hairs ck_9 rfl (show decode code 769 = .ok (.invokevirtual 77, 3) by decide +kernel) wd_7_213 wd_7_214 wd_7_215) <|
  oc_n
set_option maxRecDepth 20000 in
theorem lc_14 (C : vCx p s m args c cells slots G b Ln xs) {i : Nat} (hin : ∀ k, k < 6 → vp_in (nI i + nI k) Ln) {M : gMem} (hI : INV M) (kk : ∀ M', INV M' → gV p l e s m args below meth c cells slots Q G 2300 (vLw (nI i)) [] M') : gV p l e s m args below meth c cells slots Q G 734 (vLw (nI i)) [] M := by
  obtain ⟨r, N, K, h1, h2, h3⟩ := S_hairs ((xs (nI i + 1).toNatClampNeg)) ((xs (nI i + 2).toNatClampNeg)) ((xs (nI i + 3).toNatClampNeg)) M hI
  refine v_rn okL14 C 5 (pc' := 739) (L' := vLw (nI i)) (S' := [.int (nI i + 1), .ref 960, .ref 0]) (M' := M) rfl ?_
  refine v_sld C (hin 1 (by omega)) (show decode code 739 = .ok (.iaload, 1) by decide +kernel) ?_
  refine v_rn okL14 C 4 (pc' := 744) (L' := vLw (nI i)) (S' := [.int (nI i + 2), .ref 960, .int (xs (nI i + 1).toNatClampNeg), .ref 0]) (M' := M) rfl ?_
  refine v_sld C (hin 2 (by omega)) (show decode code 744 = .ok (.iaload, 1) by decide +kernel) ?_
  refine v_rn okL14 C 4 (pc' := 749) (L' := vLw (nI i)) (S' := [.int (nI i + 3), .ref 960, .int (xs (nI i + 2).toNatClampNeg), .int (xs (nI i + 1).toNatClampNeg), .ref 0]) (M' := M) rfl ?_
  refine v_sld C (hin 3 (by omega)) (show decode code 749 = .ok (.iaload, 1) by decide +kernel) ?_
  refine v_call ocL14 C rfl rfl (gOb_c rfl) rfl (SX8_hairs ((xs (nI i + 1).toNatClampNeg)) ((xs (nI i + 2).toNatClampNeg)) ((xs (nI i + 3).toNatClampNeg)) M h1) (by decide) ?_
  refine v_rn okL14 C 5 (pc' := 758) (L' := vLw (nI i)) (S' := [.int (nI i + 1), .ref 960, .ref 141, .int r]) (M' := N) rfl ?_
  refine v_sld C (hin 1 (by omega)) (show decode code 758 = .ok (.iaload, 1) by decide +kernel) ?_
  refine v_rn okL14 C 4 (pc' := 763) (L' := vLw (nI i)) (S' := [.int (nI i + 2), .ref 960, .int (xs (nI i + 1).toNatClampNeg), .ref 141, .int r]) (M' := N) rfl ?_
  refine v_sld C (hin 2 (by omega)) (show decode code 763 = .ok (.iaload, 1) by decide +kernel) ?_
  refine v_rn okL14 C 4 (pc' := 768) (L' := vLw (nI i)) (S' := [.int (nI i + 3), .ref 960, .int (xs (nI i + 2).toNatClampNeg), .int (xs (nI i + 1).toNatClampNeg), .ref 141, .int r]) (M' := N) rfl ?_
  refine v_sld C (hin 3 (by omega)) (show decode code 768 = .ok (.iaload, 1) by decide +kernel) ?_
  refine v_call ocL14 C rfl rfl (gOb_c rfl) rfl (SX9_hairs ((xs (nI i + 1).toNatClampNeg)) ((xs (nI i + 2).toNatClampNeg)) ((xs (nI i + 3).toNatClampNeg)) N h2) (by decide) ?_
  refine v_eq okL14 C (t := 2300) rfl ?_
  exact kk K h3
def tL15 : List (Nat × gStp) := [(777, i_aload 1 778), (778, i_aload 0 779), (779, i_iload 3 780), (780, i_push (.int 1) 781), (781, i_ii (fun x y => x + y) 782), (786, i_aload 2 787), (787, i_aload 0 788), (788, i_iload 3 789), (789, i_push (.int 1) 790), (790, i_ii (fun x y => x + y) 791), (795, i_ic_eq 2300 798), (798, i_push (.int 0) 799)]
set_option maxRecDepth 100000 in
theorem okL15 : gOk YL tL15 := ok_c (sn_aload_n (show decode code 777 = .ok (.aload_n 1, 1) by decide +kernel) rfl) <|
  ok_c (sn_aload_n (show decode code 778 = .ok (.aload_n 0, 1) by decide +kernel) rfl) <|
  ok_c (sn_iload_n (show decode code 779 = .ok (.iload_n 3, 1) by decide +kernel) rfl) <|
  ok_c (sn_iconst (v := 1) (show decode code 780 = .ok (.iconst 1, 1) by decide +kernel) (by decide +kernel)) <|
  ok_c (sn_iadd (show decode code 781 = .ok (.iadd, 1) by decide +kernel)) <|
  ok_c (sn_aload_n (show decode code 786 = .ok (.aload_n 2, 1) by decide +kernel) rfl) <|
  ok_c (sn_aload_n (show decode code 787 = .ok (.aload_n 0, 1) by decide +kernel) rfl) <|
  ok_c (sn_iload_n (show decode code 788 = .ok (.iload_n 3, 1) by decide +kernel) rfl) <|
  ok_c (sn_iconst (v := 1) (show decode code 789 = .ok (.iconst 1, 1) by decide +kernel) (by decide +kernel)) <|
  ok_c (sn_iadd (show decode code 790 = .ok (.iadd, 1) by decide +kernel)) <|
  ok_c (sn_ic_eq (show decode code 795 = .ok (.if_icmp .eq 1505, 3) by decide +kernel) (by decide)) <|
  ok_c (sn_iconst (v := 0) (show decode code 798 = .ok (.iconst 0, 1) by decide +kernel) (by decide +kernel)) <|
  ok_n
def uL15 : gCT := [(783, YX8_colds, 2, some 8), (792, YX9_colds, 2, some 9)]
set_option maxRecDepth 100000 in
theorem ocL15 : gOkC YL uL15 := oc_c (gEdge_V cal_X8_colds ck_8 rfl (show decode code 783 = .ok (.invokevirtual 78, 3) by decide +kernel) wd_4_17 wd_4_18 wd_4_19) <|
  oc_c (gEdge_V cal_X9_colds ck_9 rfl (show decode code 792 = .ok (.invokevirtual 81, 3) by decide +kernel) wd_7_217 wd_7_218 wd_7_219) <|
  oc_n
set_option maxRecDepth 20000 in
theorem lc_15 (C : vCx p s m args c cells slots G b Ln xs) {i : Nat} (hin : ∀ k, k < 6 → vp_in (nI i + nI k) Ln) {M : gMem} (hI : INV M) (kk : ∀ M', INV M' → gV p l e s m args below meth c cells slots Q G 2300 (vLw (nI i)) [] M') : gV p l e s m args below meth c cells slots Q G 777 (vLw (nI i)) [] M := by
  obtain ⟨r, N, K, h1, h2, h3⟩ := S_colds ((xs (nI i + 1).toNatClampNeg)) M hI
  refine v_rn okL15 C 5 (pc' := 782) (L' := vLw (nI i)) (S' := [.int (nI i + 1), .ref 960, .ref 0]) (M' := M) rfl ?_
  refine v_sld C (hin 1 (by omega)) (show decode code 782 = .ok (.iaload, 1) by decide +kernel) ?_
  refine v_call ocL15 C rfl rfl (gOb_c rfl) rfl (SX8_colds ((xs (nI i + 1).toNatClampNeg)) M h1) (by decide) ?_
  refine v_rn okL15 C 5 (pc' := 791) (L' := vLw (nI i)) (S' := [.int (nI i + 1), .ref 960, .ref 141, .int r]) (M' := N) rfl ?_
  refine v_sld C (hin 1 (by omega)) (show decode code 791 = .ok (.iaload, 1) by decide +kernel) ?_
  refine v_call ocL15 C rfl rfl (gOb_c rfl) rfl (SX9_colds ((xs (nI i + 1).toNatClampNeg)) N h2) (by decide) ?_
  refine v_eq okL15 C (t := 2300) rfl ?_
  exact kk K h3
def tL16 : List (Nat × gStp) := [(800, i_aload 1 801), (801, i_aload 0 802), (802, i_iload 3 803), (803, i_push (.int 1) 804), (804, i_ii (fun x y => x + y) 805), (809, i_aload 2 810), (810, i_aload 0 811), (811, i_iload 3 812), (812, i_push (.int 1) 813), (813, i_ii (fun x y => x + y) 814), (818, i_ic_eq 2300 821), (821, i_push (.int 0) 822)]
set_option maxRecDepth 100000 in
theorem okL16 : gOk YL tL16 := ok_c (sn_aload_n (show decode code 800 = .ok (.aload_n 1, 1) by decide +kernel) rfl) <|
  ok_c (sn_aload_n (show decode code 801 = .ok (.aload_n 0, 1) by decide +kernel) rfl) <|
  ok_c (sn_iload_n (show decode code 802 = .ok (.iload_n 3, 1) by decide +kernel) rfl) <|
  ok_c (sn_iconst (v := 1) (show decode code 803 = .ok (.iconst 1, 1) by decide +kernel) (by decide +kernel)) <|
  ok_c (sn_iadd (show decode code 804 = .ok (.iadd, 1) by decide +kernel)) <|
  ok_c (sn_aload_n (show decode code 809 = .ok (.aload_n 2, 1) by decide +kernel) rfl) <|
  ok_c (sn_aload_n (show decode code 810 = .ok (.aload_n 0, 1) by decide +kernel) rfl) <|
  ok_c (sn_iload_n (show decode code 811 = .ok (.iload_n 3, 1) by decide +kernel) rfl) <|
  ok_c (sn_iconst (v := 1) (show decode code 812 = .ok (.iconst 1, 1) by decide +kernel) (by decide +kernel)) <|
  ok_c (sn_iadd (show decode code 813 = .ok (.iadd, 1) by decide +kernel)) <|
  ok_c (sn_ic_eq (show decode code 818 = .ok (.if_icmp .eq 1482, 3) by decide +kernel) (by decide)) <|
  ok_c (sn_iconst (v := 0) (show decode code 821 = .ok (.iconst 0, 1) by decide +kernel) (by decide +kernel)) <|
  ok_n
def uL16 : gCT := [(806, YX8_cold, 2, some 8), (815, YX9_cold, 2, some 9)]
set_option maxRecDepth 100000 in
theorem ocL16 : gOkC YL uL16 := oc_c (gEdge_V cal_X8_cold ck_8 rfl (show decode code 806 = .ok (.invokevirtual 82, 3) by decide +kernel) wd_4_21 wd_4_22 wd_4_23) <|
  oc_c (gEdge_V cal_X9_cold ck_9 rfl (show decode code 815 = .ok (.invokevirtual 85, 3) by decide +kernel) wd_7_221 wd_7_222 wd_7_223) <|
  oc_n
set_option maxRecDepth 20000 in
theorem lc_16 (C : vCx p s m args c cells slots G b Ln xs) {i : Nat} (hin : ∀ k, k < 6 → vp_in (nI i + nI k) Ln) {M : gMem} (hI : INV M) (kk : ∀ M', INV M' → gV p l e s m args below meth c cells slots Q G 2300 (vLw (nI i)) [] M') : gV p l e s m args below meth c cells slots Q G 800 (vLw (nI i)) [] M := by
  obtain ⟨r, N, K, h1, h2, h3⟩ := S_cold ((xs (nI i + 1).toNatClampNeg)) M hI
  refine v_rn okL16 C 5 (pc' := 805) (L' := vLw (nI i)) (S' := [.int (nI i + 1), .ref 960, .ref 0]) (M' := M) rfl ?_
  refine v_sld C (hin 1 (by omega)) (show decode code 805 = .ok (.iaload, 1) by decide +kernel) ?_
  refine v_call ocL16 C rfl rfl (gOb_c rfl) rfl (SX8_cold ((xs (nI i + 1).toNatClampNeg)) M h1) (by decide) ?_
  refine v_rn okL16 C 5 (pc' := 814) (L' := vLw (nI i)) (S' := [.int (nI i + 1), .ref 960, .ref 141, .int r]) (M' := N) rfl ?_
  refine v_sld C (hin 1 (by omega)) (show decode code 814 = .ok (.iaload, 1) by decide +kernel) ?_
  refine v_call ocL16 C rfl rfl (gOb_c rfl) rfl (SX9_cold ((xs (nI i + 1).toNatClampNeg)) N h2) (by decide) ?_
  refine v_eq okL16 C (t := 2300) rfl ?_
  exact kk K h3
def tL17 : List (Nat × gStp) := [(823, i_aload 1 824), (824, i_aload 0 825), (825, i_iload 3 826), (826, i_push (.int 1) 827), (827, i_ii (fun x y => x + y) 828), (829, i_aload 0 830), (830, i_iload 3 831), (831, i_push (.int 2) 832), (832, i_ii (fun x y => x + y) 833), (837, i_aload 2 838), (838, i_aload 0 839), (839, i_iload 3 840), (840, i_push (.int 1) 841), (841, i_ii (fun x y => x + y) 842), (843, i_aload 0 844), (844, i_iload 3 845), (845, i_push (.int 2) 846), (846, i_ii (fun x y => x + y) 847), (851, i_ic_eq 2300 854), (854, i_push (.int 0) 855)]
set_option maxRecDepth 100000 in
theorem okL17 : gOk YL tL17 := ok_c (sn_aload_n (show decode code 823 = .ok (.aload_n 1, 1) by decide +kernel) rfl) <|
  ok_c (sn_aload_n (show decode code 824 = .ok (.aload_n 0, 1) by decide +kernel) rfl) <|
  ok_c (sn_iload_n (show decode code 825 = .ok (.iload_n 3, 1) by decide +kernel) rfl) <|
  ok_c (sn_iconst (v := 1) (show decode code 826 = .ok (.iconst 1, 1) by decide +kernel) (by decide +kernel)) <|
  ok_c (sn_iadd (show decode code 827 = .ok (.iadd, 1) by decide +kernel)) <|
  ok_c (sn_aload_n (show decode code 829 = .ok (.aload_n 0, 1) by decide +kernel) rfl) <|
  ok_c (sn_iload_n (show decode code 830 = .ok (.iload_n 3, 1) by decide +kernel) rfl) <|
  ok_c (sn_iconst (v := 2) (show decode code 831 = .ok (.iconst 2, 1) by decide +kernel) (by decide +kernel)) <|
  ok_c (sn_iadd (show decode code 832 = .ok (.iadd, 1) by decide +kernel)) <|
  ok_c (sn_aload_n (show decode code 837 = .ok (.aload_n 2, 1) by decide +kernel) rfl) <|
  ok_c (sn_aload_n (show decode code 838 = .ok (.aload_n 0, 1) by decide +kernel) rfl) <|
  ok_c (sn_iload_n (show decode code 839 = .ok (.iload_n 3, 1) by decide +kernel) rfl) <|
  ok_c (sn_iconst (v := 1) (show decode code 840 = .ok (.iconst 1, 1) by decide +kernel) (by decide +kernel)) <|
  ok_c (sn_iadd (show decode code 841 = .ok (.iadd, 1) by decide +kernel)) <|
  ok_c (sn_aload_n (show decode code 843 = .ok (.aload_n 0, 1) by decide +kernel) rfl) <|
  ok_c (sn_iload_n (show decode code 844 = .ok (.iload_n 3, 1) by decide +kernel) rfl) <|
  ok_c (sn_iconst (v := 2) (show decode code 845 = .ok (.iconst 2, 1) by decide +kernel) (by decide +kernel)) <|
  ok_c (sn_iadd (show decode code 846 = .ok (.iadd, 1) by decide +kernel)) <|
  ok_c (sn_ic_eq (show decode code 851 = .ok (.if_icmp .eq 1449, 3) by decide +kernel) (by decide)) <|
  ok_c (sn_iconst (v := 0) (show decode code 854 = .ok (.iconst 0, 1) by decide +kernel) (by decide +kernel)) <|
  ok_n
def uL17 : gCT := [(834, YX8_worth, 3, some 8), (848, YX9_worth, 3, some 9)]
set_option maxRecDepth 100000 in
theorem ocL17 : gOkC YL uL17 := oc_c (gEdge_V cal_X8_worth ck_8 rfl (show decode code 834 = .ok (.invokevirtual 86, 3) by decide +kernel) wd_4_30 wd_4_31 wd_4_32) <|
  oc_c (gEdge_V cal_X9_worth ck_9 rfl (show decode code 848 = .ok (.invokevirtual 89, 3) by decide +kernel) wd_7_225 wd_7_226 wd_7_227) <|
  oc_n
set_option maxRecDepth 20000 in
theorem lc_17 (C : vCx p s m args c cells slots G b Ln xs) {i : Nat} (hin : ∀ k, k < 6 → vp_in (nI i + nI k) Ln) {M : gMem} (hI : INV M) (kk : ∀ M', INV M' → gV p l e s m args below meth c cells slots Q G 2300 (vLw (nI i)) [] M') : gV p l e s m args below meth c cells slots Q G 823 (vLw (nI i)) [] M := by
  obtain ⟨r, N, K, h1, h2, h3⟩ := S_worth ((xs (nI i + 1).toNatClampNeg)) ((xs (nI i + 2).toNatClampNeg)) M hI
  refine v_rn okL17 C 5 (pc' := 828) (L' := vLw (nI i)) (S' := [.int (nI i + 1), .ref 960, .ref 0]) (M' := M) rfl ?_
  refine v_sld C (hin 1 (by omega)) (show decode code 828 = .ok (.iaload, 1) by decide +kernel) ?_
  refine v_rn okL17 C 4 (pc' := 833) (L' := vLw (nI i)) (S' := [.int (nI i + 2), .ref 960, .int (xs (nI i + 1).toNatClampNeg), .ref 0]) (M' := M) rfl ?_
  refine v_sld C (hin 2 (by omega)) (show decode code 833 = .ok (.iaload, 1) by decide +kernel) ?_
  refine v_call ocL17 C rfl rfl (gOb_c rfl) rfl (SX8_worth ((xs (nI i + 1).toNatClampNeg)) ((xs (nI i + 2).toNatClampNeg)) M h1) (by decide) ?_
  refine v_rn okL17 C 5 (pc' := 842) (L' := vLw (nI i)) (S' := [.int (nI i + 1), .ref 960, .ref 141, .int r]) (M' := N) rfl ?_
  refine v_sld C (hin 1 (by omega)) (show decode code 842 = .ok (.iaload, 1) by decide +kernel) ?_
  refine v_rn okL17 C 4 (pc' := 847) (L' := vLw (nI i)) (S' := [.int (nI i + 2), .ref 960, .int (xs (nI i + 1).toNatClampNeg), .ref 141, .int r]) (M' := N) rfl ?_
  refine v_sld C (hin 2 (by omega)) (show decode code 847 = .ok (.iaload, 1) by decide +kernel) ?_
  refine v_call ocL17 C rfl rfl (gOb_c rfl) rfl (SX9_worth ((xs (nI i + 1).toNatClampNeg)) ((xs (nI i + 2).toNatClampNeg)) N h2) (by decide) ?_
  refine v_eq okL17 C (t := 2300) rfl ?_
  exact kk K h3
def tL18 : List (Nat × gStp) := [(856, i_aload 1 857), (857, i_aload 0 858), (858, i_iload 3 859), (859, i_push (.int 1) 860), (860, i_ii (fun x y => x + y) 861), (862, i_aload 0 863), (863, i_iload 3 864), (864, i_push (.int 2) 865), (865, i_ii (fun x y => x + y) 866), (870, i_aload 2 871), (871, i_aload 0 872), (872, i_iload 3 873), (873, i_push (.int 1) 874), (874, i_ii (fun x y => x + y) 875), (876, i_aload 0 877), (877, i_iload 3 878), (878, i_push (.int 2) 879), (879, i_ii (fun x y => x + y) 880), (884, i_ic_eq 2300 887), (887, i_push (.int 0) 888)]
set_option maxRecDepth 100000 in
theorem okL18 : gOk YL tL18 := ok_c (sn_aload_n (show decode code 856 = .ok (.aload_n 1, 1) by decide +kernel) rfl) <|
  ok_c (sn_aload_n (show decode code 857 = .ok (.aload_n 0, 1) by decide +kernel) rfl) <|
  ok_c (sn_iload_n (show decode code 858 = .ok (.iload_n 3, 1) by decide +kernel) rfl) <|
  ok_c (sn_iconst (v := 1) (show decode code 859 = .ok (.iconst 1, 1) by decide +kernel) (by decide +kernel)) <|
  ok_c (sn_iadd (show decode code 860 = .ok (.iadd, 1) by decide +kernel)) <|
  ok_c (sn_aload_n (show decode code 862 = .ok (.aload_n 0, 1) by decide +kernel) rfl) <|
  ok_c (sn_iload_n (show decode code 863 = .ok (.iload_n 3, 1) by decide +kernel) rfl) <|
  ok_c (sn_iconst (v := 2) (show decode code 864 = .ok (.iconst 2, 1) by decide +kernel) (by decide +kernel)) <|
  ok_c (sn_iadd (show decode code 865 = .ok (.iadd, 1) by decide +kernel)) <|
  ok_c (sn_aload_n (show decode code 870 = .ok (.aload_n 2, 1) by decide +kernel) rfl) <|
  ok_c (sn_aload_n (show decode code 871 = .ok (.aload_n 0, 1) by decide +kernel) rfl) <|
  ok_c (sn_iload_n (show decode code 872 = .ok (.iload_n 3, 1) by decide +kernel) rfl) <|
  ok_c (sn_iconst (v := 1) (show decode code 873 = .ok (.iconst 1, 1) by decide +kernel) (by decide +kernel)) <|
  ok_c (sn_iadd (show decode code 874 = .ok (.iadd, 1) by decide +kernel)) <|
  ok_c (sn_aload_n (show decode code 876 = .ok (.aload_n 0, 1) by decide +kernel) rfl) <|
  ok_c (sn_iload_n (show decode code 877 = .ok (.iload_n 3, 1) by decide +kernel) rfl) <|
  ok_c (sn_iconst (v := 2) (show decode code 878 = .ok (.iconst 2, 1) by decide +kernel) (by decide +kernel)) <|
  ok_c (sn_iadd (show decode code 879 = .ok (.iadd, 1) by decide +kernel)) <|
  ok_c (sn_ic_eq (show decode code 884 = .ok (.if_icmp .eq 1416, 3) by decide +kernel) (by decide)) <|
  ok_c (sn_iconst (v := 0) (show decode code 887 = .ok (.iconst 0, 1) by decide +kernel) (by decide +kernel)) <|
  ok_n
def uL18 : gCT := [(867, YX8_funds, 3, some 8), (881, YX9_funds, 3, some 9)]
set_option maxRecDepth 100000 in
theorem ocL18 : gOkC YL uL18 := oc_c (gEdge_V cal_X8_funds ck_8 rfl (show decode code 867 = .ok (.invokevirtual 90, 3) by decide +kernel) wd_4_34 wd_4_35 wd_4_36) <|
  oc_c (gEdge_V cal_X9_funds ck_9 rfl (show decode code 881 = .ok (.invokevirtual 93, 3) by decide +kernel) wd_7_229 wd_7_230 wd_7_231) <|
  oc_n
set_option maxRecDepth 20000 in
theorem lc_18 (C : vCx p s m args c cells slots G b Ln xs) {i : Nat} (hin : ∀ k, k < 6 → vp_in (nI i + nI k) Ln) {M : gMem} (hI : INV M) (kk : ∀ M', INV M' → gV p l e s m args below meth c cells slots Q G 2300 (vLw (nI i)) [] M') : gV p l e s m args below meth c cells slots Q G 856 (vLw (nI i)) [] M := by
  obtain ⟨r, N, K, h1, h2, h3⟩ := S_funds ((xs (nI i + 1).toNatClampNeg)) ((xs (nI i + 2).toNatClampNeg)) M hI
  refine v_rn okL18 C 5 (pc' := 861) (L' := vLw (nI i)) (S' := [.int (nI i + 1), .ref 960, .ref 0]) (M' := M) rfl ?_
  refine v_sld C (hin 1 (by omega)) (show decode code 861 = .ok (.iaload, 1) by decide +kernel) ?_
  refine v_rn okL18 C 4 (pc' := 866) (L' := vLw (nI i)) (S' := [.int (nI i + 2), .ref 960, .int (xs (nI i + 1).toNatClampNeg), .ref 0]) (M' := M) rfl ?_
  refine v_sld C (hin 2 (by omega)) (show decode code 866 = .ok (.iaload, 1) by decide +kernel) ?_
  refine v_call ocL18 C rfl rfl (gOb_c rfl) rfl (SX8_funds ((xs (nI i + 1).toNatClampNeg)) ((xs (nI i + 2).toNatClampNeg)) M h1) (by decide) ?_
  refine v_rn okL18 C 5 (pc' := 875) (L' := vLw (nI i)) (S' := [.int (nI i + 1), .ref 960, .ref 141, .int r]) (M' := N) rfl ?_
  refine v_sld C (hin 1 (by omega)) (show decode code 875 = .ok (.iaload, 1) by decide +kernel) ?_
  refine v_rn okL18 C 4 (pc' := 880) (L' := vLw (nI i)) (S' := [.int (nI i + 2), .ref 960, .int (xs (nI i + 1).toNatClampNeg), .ref 141, .int r]) (M' := N) rfl ?_
  refine v_sld C (hin 2 (by omega)) (show decode code 880 = .ok (.iaload, 1) by decide +kernel) ?_
  refine v_call ocL18 C rfl rfl (gOb_c rfl) rfl (SX9_funds ((xs (nI i + 1).toNatClampNeg)) ((xs (nI i + 2).toNatClampNeg)) N h2) (by decide) ?_
  refine v_eq okL18 C (t := 2300) rfl ?_
  exact kk K h3
def tL19 : List (Nat × gStp) := [(889, i_aload 1 890), (890, i_aload 0 891), (891, i_iload 3 892), (892, i_push (.int 1) 893), (893, i_ii (fun x y => x + y) 894), (898, i_aload 2 899), (899, i_aload 0 900), (900, i_iload 3 901), (901, i_push (.int 1) 902), (902, i_ii (fun x y => x + y) 903), (907, i_ic_eq 2300 910), (910, i_push (.int 0) 911)]
set_option maxRecDepth 100000 in
theorem okL19 : gOk YL tL19 := ok_c (sn_aload_n (show decode code 889 = .ok (.aload_n 1, 1) by decide +kernel) rfl) <|
  ok_c (sn_aload_n (show decode code 890 = .ok (.aload_n 0, 1) by decide +kernel) rfl) <|
  ok_c (sn_iload_n (show decode code 891 = .ok (.iload_n 3, 1) by decide +kernel) rfl) <|
  ok_c (sn_iconst (v := 1) (show decode code 892 = .ok (.iconst 1, 1) by decide +kernel) (by decide +kernel)) <|
  ok_c (sn_iadd (show decode code 893 = .ok (.iadd, 1) by decide +kernel)) <|
  ok_c (sn_aload_n (show decode code 898 = .ok (.aload_n 2, 1) by decide +kernel) rfl) <|
  ok_c (sn_aload_n (show decode code 899 = .ok (.aload_n 0, 1) by decide +kernel) rfl) <|
  ok_c (sn_iload_n (show decode code 900 = .ok (.iload_n 3, 1) by decide +kernel) rfl) <|
  ok_c (sn_iconst (v := 1) (show decode code 901 = .ok (.iconst 1, 1) by decide +kernel) (by decide +kernel)) <|
  ok_c (sn_iadd (show decode code 902 = .ok (.iadd, 1) by decide +kernel)) <|
  ok_c (sn_ic_eq (show decode code 907 = .ok (.if_icmp .eq 1393, 3) by decide +kernel) (by decide)) <|
  ok_c (sn_iconst (v := 0) (show decode code 910 = .ok (.iconst 0, 1) by decide +kernel) (by decide +kernel)) <|
  ok_n
def uL19 : gCT := [(895, YX8_out, 2, some 8), (904, YX9_out, 2, some 9)]
set_option maxRecDepth 100000 in
theorem ocL19 : gOkC YL uL19 := oc_c (gEdge_V cal_X8_out ck_8 rfl (show decode code 895 = .ok (.invokevirtual 94, 3) by decide +kernel) wd_4_39 wd_4_40 wd_4_41) <|
  oc_c (gEdge_V cal_X9_out ck_9 rfl (show decode code 904 = .ok (.invokevirtual 97, 3) by decide +kernel) wd_7_233 wd_7_234 wd_7_235) <|
  oc_n
set_option maxRecDepth 20000 in
theorem lc_19 (C : vCx p s m args c cells slots G b Ln xs) {i : Nat} (hin : ∀ k, k < 6 → vp_in (nI i + nI k) Ln) {M : gMem} (hI : INV M) (kk : ∀ M', INV M' → gV p l e s m args below meth c cells slots Q G 2300 (vLw (nI i)) [] M') : gV p l e s m args below meth c cells slots Q G 889 (vLw (nI i)) [] M := by
  obtain ⟨r, N, K, h1, h2, h3⟩ := S_out ((xs (nI i + 1).toNatClampNeg)) M hI
  refine v_rn okL19 C 5 (pc' := 894) (L' := vLw (nI i)) (S' := [.int (nI i + 1), .ref 960, .ref 0]) (M' := M) rfl ?_
  refine v_sld C (hin 1 (by omega)) (show decode code 894 = .ok (.iaload, 1) by decide +kernel) ?_
  refine v_call ocL19 C rfl rfl (gOb_c rfl) rfl (SX8_out ((xs (nI i + 1).toNatClampNeg)) M h1) (by decide) ?_
  refine v_rn okL19 C 5 (pc' := 903) (L' := vLw (nI i)) (S' := [.int (nI i + 1), .ref 960, .ref 141, .int r]) (M' := N) rfl ?_
  refine v_sld C (hin 1 (by omega)) (show decode code 903 = .ok (.iaload, 1) by decide +kernel) ?_
  refine v_call ocL19 C rfl rfl (gOb_c rfl) rfl (SX9_out ((xs (nI i + 1).toNatClampNeg)) N h2) (by decide) ?_
  refine v_eq okL19 C (t := 2300) rfl ?_
  exact kk K h3
def tL20 : List (Nat × gStp) := [(912, i_aload 1 913), (913, i_aload 0 914), (914, i_iload 3 915), (915, i_push (.int 1) 916), (916, i_ii (fun x y => x + y) 917), (921, i_aload 2 922), (922, i_aload 0 923), (923, i_iload 3 924), (924, i_push (.int 1) 925), (925, i_ii (fun x y => x + y) 926), (930, i_ic_eq 2300 933), (933, i_push (.int 0) 934)]
set_option maxRecDepth 100000 in
theorem okL20 : gOk YL tL20 := ok_c (sn_aload_n (show decode code 912 = .ok (.aload_n 1, 1) by decide +kernel) rfl) <|
  ok_c (sn_aload_n (show decode code 913 = .ok (.aload_n 0, 1) by decide +kernel) rfl) <|
  ok_c (sn_iload_n (show decode code 914 = .ok (.iload_n 3, 1) by decide +kernel) rfl) <|
  ok_c (sn_iconst (v := 1) (show decode code 915 = .ok (.iconst 1, 1) by decide +kernel) (by decide +kernel)) <|
  ok_c (sn_iadd (show decode code 916 = .ok (.iadd, 1) by decide +kernel)) <|
  ok_c (sn_aload_n (show decode code 921 = .ok (.aload_n 2, 1) by decide +kernel) rfl) <|
  ok_c (sn_aload_n (show decode code 922 = .ok (.aload_n 0, 1) by decide +kernel) rfl) <|
  ok_c (sn_iload_n (show decode code 923 = .ok (.iload_n 3, 1) by decide +kernel) rfl) <|
  ok_c (sn_iconst (v := 1) (show decode code 924 = .ok (.iconst 1, 1) by decide +kernel) (by decide +kernel)) <|
  ok_c (sn_iadd (show decode code 925 = .ok (.iadd, 1) by decide +kernel)) <|
  ok_c (sn_ic_eq (show decode code 930 = .ok (.if_icmp .eq 1370, 3) by decide +kernel) (by decide)) <|
  ok_c (sn_iconst (v := 0) (show decode code 933 = .ok (.iconst 0, 1) by decide +kernel) (by decide +kernel)) <|
  ok_n
def uL20 : gCT := [(918, YX8_fails, 2, some 8), (927, YX9_fails, 2, some 9)]
set_option maxRecDepth 100000 in
theorem ocL20 : gOkC YL uL20 := oc_c (gEdge_V cal_X8_fails ck_8 rfl (show decode code 918 = .ok (.invokevirtual 98, 3) by decide +kernel) wd_4_43 wd_4_44 wd_4_45) <|
  oc_c (gEdge_V cal_X9_fails ck_9 rfl (show decode code 927 = .ok (.invokevirtual 101, 3) by decide +kernel) wd_8_1 wd_8_2 wd_8_3) <|
  oc_n
set_option maxRecDepth 20000 in
theorem lc_20 (C : vCx p s m args c cells slots G b Ln xs) {i : Nat} (hin : ∀ k, k < 6 → vp_in (nI i + nI k) Ln) {M : gMem} (hI : INV M) (kk : ∀ M', INV M' → gV p l e s m args below meth c cells slots Q G 2300 (vLw (nI i)) [] M') : gV p l e s m args below meth c cells slots Q G 912 (vLw (nI i)) [] M := by
  obtain ⟨r, N, K, h1, h2, h3⟩ := S_fails ((xs (nI i + 1).toNatClampNeg)) M hI
  refine v_rn okL20 C 5 (pc' := 917) (L' := vLw (nI i)) (S' := [.int (nI i + 1), .ref 960, .ref 0]) (M' := M) rfl ?_
  refine v_sld C (hin 1 (by omega)) (show decode code 917 = .ok (.iaload, 1) by decide +kernel) ?_
  refine v_call ocL20 C rfl rfl (gOb_c rfl) rfl (SX8_fails ((xs (nI i + 1).toNatClampNeg)) M h1) (by decide) ?_
  refine v_rn okL20 C 5 (pc' := 926) (L' := vLw (nI i)) (S' := [.int (nI i + 1), .ref 960, .ref 141, .int r]) (M' := N) rfl ?_
  refine v_sld C (hin 1 (by omega)) (show decode code 926 = .ok (.iaload, 1) by decide +kernel) ?_
  refine v_call ocL20 C rfl rfl (gOb_c rfl) rfl (SX9_fails ((xs (nI i + 1).toNatClampNeg)) N h2) (by decide) ?_
  refine v_eq okL20 C (t := 2300) rfl ?_
  exact kk K h3
def tL21 : List (Nat × gStp) := [(935, i_aload 1 936), (936, i_aload 0 937), (937, i_iload 3 938), (938, i_push (.int 1) 939), (939, i_ii (fun x y => x + y) 940), (944, i_aload 2 945), (945, i_aload 0 946), (946, i_iload 3 947), (947, i_push (.int 1) 948), (948, i_ii (fun x y => x + y) 949), (953, i_ic_eq 2300 956), (956, i_push (.int 0) 957)]
set_option maxRecDepth 100000 in
theorem okL21 : gOk YL tL21 := ok_c (sn_aload_n (show decode code 935 = .ok (.aload_n 1, 1) by decide +kernel) rfl) <|
  ok_c (sn_aload_n (show decode code 936 = .ok (.aload_n 0, 1) by decide +kernel) rfl) <|
  ok_c (sn_iload_n (show decode code 937 = .ok (.iload_n 3, 1) by decide +kernel) rfl) <|
  ok_c (sn_iconst (v := 1) (show decode code 938 = .ok (.iconst 1, 1) by decide +kernel) (by decide +kernel)) <|
  ok_c (sn_iadd (show decode code 939 = .ok (.iadd, 1) by decide +kernel)) <|
  ok_c (sn_aload_n (show decode code 944 = .ok (.aload_n 2, 1) by decide +kernel) rfl) <|
  ok_c (sn_aload_n (show decode code 945 = .ok (.aload_n 0, 1) by decide +kernel) rfl) <|
  ok_c (sn_iload_n (show decode code 946 = .ok (.iload_n 3, 1) by decide +kernel) rfl) <|
  ok_c (sn_iconst (v := 1) (show decode code 947 = .ok (.iconst 1, 1) by decide +kernel) (by decide +kernel)) <|
  ok_c (sn_iadd (show decode code 948 = .ok (.iadd, 1) by decide +kernel)) <|
  ok_c (sn_ic_eq (show decode code 953 = .ok (.if_icmp .eq 1347, 3) by decide +kernel) (by decide)) <|
  ok_c (sn_iconst (v := 0) (show decode code 956 = .ok (.iconst 0, 1) by decide +kernel) (by decide +kernel)) <|
  ok_n
def uL21 : gCT := [(941, YX8_richest, 2, some 8), (950, YX9_richest, 2, some 9)]
set_option maxRecDepth 100000 in
theorem ocL21 : gOkC YL uL21 := oc_c (gEdge_V cal_X8_richest ck_8 rfl (show decode code 941 = .ok (.invokevirtual 102, 3) by decide +kernel) wd_4_47 wd_4_48 wd_4_49) <|
  oc_c (gEdge_V cal_X9_richest ck_9 rfl (show decode code 950 = .ok (.invokevirtual 105, 3) by decide +kernel) wd_8_5 wd_8_6 wd_8_7) <|
  oc_n
set_option maxRecDepth 20000 in
theorem lc_21 (C : vCx p s m args c cells slots G b Ln xs) {i : Nat} (hin : ∀ k, k < 6 → vp_in (nI i + nI k) Ln) {M : gMem} (hI : INV M) (kk : ∀ M', INV M' → gV p l e s m args below meth c cells slots Q G 2300 (vLw (nI i)) [] M') : gV p l e s m args below meth c cells slots Q G 935 (vLw (nI i)) [] M := by
  obtain ⟨r, N, K, h1, h2, h3⟩ := S_richest ((xs (nI i + 1).toNatClampNeg)) M hI
  refine v_rn okL21 C 5 (pc' := 940) (L' := vLw (nI i)) (S' := [.int (nI i + 1), .ref 960, .ref 0]) (M' := M) rfl ?_
  refine v_sld C (hin 1 (by omega)) (show decode code 940 = .ok (.iaload, 1) by decide +kernel) ?_
  refine v_call ocL21 C rfl rfl (gOb_c rfl) rfl (SX8_richest ((xs (nI i + 1).toNatClampNeg)) M h1) (by decide) ?_
  refine v_rn okL21 C 5 (pc' := 949) (L' := vLw (nI i)) (S' := [.int (nI i + 1), .ref 960, .ref 141, .int r]) (M' := N) rfl ?_
  refine v_sld C (hin 1 (by omega)) (show decode code 949 = .ok (.iaload, 1) by decide +kernel) ?_
  refine v_call ocL21 C rfl rfl (gOb_c rfl) rfl (SX9_richest ((xs (nI i + 1).toNatClampNeg)) N h2) (by decide) ?_
  refine v_eq okL21 C (t := 2300) rfl ?_
  exact kk K h3
end LCS
