/-! The law: its cases. -/
section LCS
variable {p : Program} {l : Launch} {e : Env} {s : State} {m : MethodId} {args : Array Value} {below : List Frame} {meth : Method} {c : Code} {cells slots : Nat} {Q : State → Prop} {G : gG} {b Ln : Nat} {xs : Nat → Int32}
def tL22 : List (Nat × gStp) := [(958, i_aload 1 959), (959, i_aload 0 960), (960, i_iload 3 961), (961, i_push (.int 1) 962), (962, i_ii (fun x y => x + y) 963), (967, i_aload 2 968), (968, i_aload 0 969), (969, i_iload 3 970), (970, i_push (.int 1) 971), (971, i_ii (fun x y => x + y) 972), (976, i_ic_eq 2300 979), (979, i_push (.int 0) 980)]
set_option maxRecDepth 100000 in
theorem okL22 : gOk YL tL22 := ok_c (sn_aload_n (show decode code 958 = .ok (.aload_n 1, 1) by decide +kernel) rfl) <|
  ok_c (sn_aload_n (show decode code 959 = .ok (.aload_n 0, 1) by decide +kernel) rfl) <|
  ok_c (sn_iload_n (show decode code 960 = .ok (.iload_n 3, 1) by decide +kernel) rfl) <|
  ok_c (sn_iconst (v := 1) (show decode code 961 = .ok (.iconst 1, 1) by decide +kernel) (by decide +kernel)) <|
  ok_c (sn_iadd (show decode code 962 = .ok (.iadd, 1) by decide +kernel)) <|
  ok_c (sn_aload_n (show decode code 967 = .ok (.aload_n 2, 1) by decide +kernel) rfl) <|
  ok_c (sn_aload_n (show decode code 968 = .ok (.aload_n 0, 1) by decide +kernel) rfl) <|
  ok_c (sn_iload_n (show decode code 969 = .ok (.iload_n 3, 1) by decide +kernel) rfl) <|
  ok_c (sn_iconst (v := 1) (show decode code 970 = .ok (.iconst 1, 1) by decide +kernel) (by decide +kernel)) <|
  ok_c (sn_iadd (show decode code 971 = .ok (.iadd, 1) by decide +kernel)) <|
  ok_c (sn_ic_eq (show decode code 976 = .ok (.if_icmp .eq 1324, 3) by decide +kernel) (by decide)) <|
  ok_c (sn_iconst (v := 0) (show decode code 979 = .ok (.iconst 0, 1) by decide +kernel) (by decide +kernel)) <|
  ok_n
def uL22 : gCT := [(964, YX8_parts, 2, some 8), (973, YX9_parts, 2, some 9)]
set_option maxRecDepth 100000 in
theorem ocL22 : gOkC YL uL22 := oc_c (gEdge_V cal_X8_parts ck_8 rfl (show decode code 964 = .ok (.invokevirtual 106, 3) by decide +kernel) wd_4_51 wd_4_52 wd_4_53) <|
  oc_c (gEdge_V cal_X9_parts ck_9 rfl (show decode code 973 = .ok (.invokevirtual 109, 3) by decide +kernel) wd_8_9 wd_8_10 wd_8_11) <|
  oc_n
set_option maxRecDepth 20000 in
theorem lc_22 (C : vCx p s m args c cells slots G b Ln xs) {i : Nat} (hin : ∀ k, k < 6 → vp_in (nI i + nI k) Ln) {M : gMem} (hI : INV M) (kk : ∀ M', INV M' → gV p l e s m args below meth c cells slots Q G 2300 (vLw (nI i)) [] M') : gV p l e s m args below meth c cells slots Q G 958 (vLw (nI i)) [] M := by
  obtain ⟨r, N, K, h1, h2, h3⟩ := S_parts ((xs (nI i + 1).toNatClampNeg)) M hI
  refine v_rn okL22 C 5 (pc' := 963) (L' := vLw (nI i)) (S' := [.int (nI i + 1), .ref 960, .ref 0]) (M' := M) rfl ?_
  refine v_sld C (hin 1 (by omega)) (show decode code 963 = .ok (.iaload, 1) by decide +kernel) ?_
  refine v_call ocL22 C rfl rfl (gOb_c rfl) rfl (SX8_parts ((xs (nI i + 1).toNatClampNeg)) M h1) (by decide) ?_
  refine v_rn okL22 C 5 (pc' := 972) (L' := vLw (nI i)) (S' := [.int (nI i + 1), .ref 960, .ref 141, .int r]) (M' := N) rfl ?_
  refine v_sld C (hin 1 (by omega)) (show decode code 972 = .ok (.iaload, 1) by decide +kernel) ?_
  refine v_call ocL22 C rfl rfl (gOb_c rfl) rfl (SX9_parts ((xs (nI i + 1).toNatClampNeg)) N h2) (by decide) ?_
  refine v_eq okL22 C (t := 2300) rfl ?_
  exact kk K h3
def tL23 : List (Nat × gStp) := [(981, i_aload 1 982), (985, i_aload 2 986), (989, i_ic_eq 2300 992), (992, i_push (.int 0) 993)]
set_option maxRecDepth 100000 in
theorem okL23 : gOk YL tL23 := ok_c (sn_aload_n (show decode code 981 = .ok (.aload_n 1, 1) by decide +kernel) rfl) <|
  ok_c (sn_aload_n (show decode code 985 = .ok (.aload_n 2, 1) by decide +kernel) rfl) <|
  ok_c (sn_ic_eq (show decode code 989 = .ok (.if_icmp .eq 1311, 3) by decide +kernel) (by decide)) <|
  ok_c (sn_iconst (v := 0) (show decode code 992 = .ok (.iconst 0, 1) by decide +kernel) (by decide +kernel)) <|
  ok_n
def uL23 : gCT := [(982, YX8_merger, 1, some 8), (986, YX9_merger, 1, some 9)]
set_option maxRecDepth 100000 in
theorem ocL23 : gOkC YL uL23 := oc_c (gEdge_V cal_X8_merger ck_8 rfl (show decode code 982 = .ok (.invokevirtual 110, 3) by decide +kernel) wd_4_55 wd_4_56 wd_4_57) <|
  oc_c (gEdge_V cal_X9_merger ck_9 rfl (show decode code 986 = .ok (.invokevirtual 113, 3) by decide +kernel) wd_8_13 wd_8_14 wd_8_15) <|
  oc_n
set_option maxRecDepth 20000 in
theorem lc_23 (C : vCx p s m args c cells slots G b Ln xs) {i : Nat} (hin : ∀ k, k < 6 → vp_in (nI i + nI k) Ln) {M : gMem} (hI : INV M) (kk : ∀ M', INV M' → gV p l e s m args below meth c cells slots Q G 2300 (vLw (nI i)) [] M') : gV p l e s m args below meth c cells slots Q G 981 (vLw (nI i)) [] M := by
  obtain ⟨r, N, K, h1, h2, h3⟩ := S_merger M hI
  refine v_rn okL23 C 1 (pc' := 982) (L' := vLw (nI i)) (S' := [.ref 0]) (M' := M) rfl ?_
  refine v_call ocL23 C rfl rfl (gOb_c rfl) rfl (SX8_merger M h1) (by decide) ?_
  refine v_rn okL23 C 1 (pc' := 986) (L' := vLw (nI i)) (S' := [.ref 141, .int r]) (M' := N) rfl ?_
  refine v_call ocL23 C rfl rfl (gOb_c rfl) rfl (SX9_merger N h2) (by decide) ?_
  refine v_eq okL23 C (t := 2300) rfl ?_
  exact kk K h3
def tL24 : List (Nat × gStp) := [(994, i_aload 1 995), (995, i_aload 0 996), (996, i_iload 3 997), (997, i_push (.int 1) 998), (998, i_ii (fun x y => x + y) 999), (1000, i_aload 0 1001), (1001, i_iload 3 1002), (1002, i_push (.int 2) 1003), (1003, i_ii (fun x y => x + y) 1004), (1008, i_aload 2 1009), (1009, i_aload 0 1010), (1010, i_iload 3 1011), (1011, i_push (.int 1) 1012), (1012, i_ii (fun x y => x + y) 1013), (1014, i_aload 0 1015), (1015, i_iload 3 1016), (1016, i_push (.int 2) 1017), (1017, i_ii (fun x y => x + y) 1018), (1022, i_ic_eq 2300 1025), (1025, i_push (.int 0) 1026)]
set_option maxRecDepth 100000 in
theorem okL24 : gOk YL tL24 := ok_c (sn_aload_n (show decode code 994 = .ok (.aload_n 1, 1) by decide +kernel) rfl) <|
  ok_c (sn_aload_n (show decode code 995 = .ok (.aload_n 0, 1) by decide +kernel) rfl) <|
  ok_c (sn_iload_n (show decode code 996 = .ok (.iload_n 3, 1) by decide +kernel) rfl) <|
  ok_c (sn_iconst (v := 1) (show decode code 997 = .ok (.iconst 1, 1) by decide +kernel) (by decide +kernel)) <|
  ok_c (sn_iadd (show decode code 998 = .ok (.iadd, 1) by decide +kernel)) <|
  ok_c (sn_aload_n (show decode code 1000 = .ok (.aload_n 0, 1) by decide +kernel) rfl) <|
  ok_c (sn_iload_n (show decode code 1001 = .ok (.iload_n 3, 1) by decide +kernel) rfl) <|
  ok_c (sn_iconst (v := 2) (show decode code 1002 = .ok (.iconst 2, 1) by decide +kernel) (by decide +kernel)) <|
  ok_c (sn_iadd (show decode code 1003 = .ok (.iadd, 1) by decide +kernel)) <|
  ok_c (sn_aload_n (show decode code 1008 = .ok (.aload_n 2, 1) by decide +kernel) rfl) <|
  ok_c (sn_aload_n (show decode code 1009 = .ok (.aload_n 0, 1) by decide +kernel) rfl) <|
  ok_c (sn_iload_n (show decode code 1010 = .ok (.iload_n 3, 1) by decide +kernel) rfl) <|
  ok_c (sn_iconst (v := 1) (show decode code 1011 = .ok (.iconst 1, 1) by decide +kernel) (by decide +kernel)) <|
  ok_c (sn_iadd (show decode code 1012 = .ok (.iadd, 1) by decide +kernel)) <|
  ok_c (sn_aload_n (show decode code 1014 = .ok (.aload_n 0, 1) by decide +kernel) rfl) <|
  ok_c (sn_iload_n (show decode code 1015 = .ok (.iload_n 3, 1) by decide +kernel) rfl) <|
  ok_c (sn_iconst (v := 2) (show decode code 1016 = .ok (.iconst 2, 1) by decide +kernel) (by decide +kernel)) <|
  ok_c (sn_iadd (show decode code 1017 = .ok (.iadd, 1) by decide +kernel)) <|
  ok_c (sn_ic_eq (show decode code 1022 = .ok (.if_icmp .eq 1278, 3) by decide +kernel) (by decide)) <|
  ok_c (sn_iconst (v := 0) (show decode code 1025 = .ok (.iconst 0, 1) by decide +kernel) (by decide +kernel)) <|
  ok_n
def uL24 : gCT := [(1005, YX8_apart, 3, some 8), (1019, YX9_apart, 3, some 9)]
set_option maxRecDepth 100000 in
theorem ocL24 : gOkC YL uL24 := oc_c (gEdge_V cal_X8_apart ck_8 rfl (show decode code 1005 = .ok (.invokevirtual 114, 3) by decide +kernel) wd_4_64 wd_4_65 wd_4_66) <|
  oc_c (gEdge_V cal_X9_apart ck_9 rfl (show decode code 1019 = .ok (.invokevirtual 117, 3) by decide +kernel) wd_8_21 wd_8_22 wd_8_23) <|
  oc_n
set_option maxRecDepth 20000 in
theorem lc_24 (C : vCx p s m args c cells slots G b Ln xs) {i : Nat} (hin : ∀ k, k < 6 → vp_in (nI i + nI k) Ln) {M : gMem} (hI : INV M) (kk : ∀ M', INV M' → gV p l e s m args below meth c cells slots Q G 2300 (vLw (nI i)) [] M') : gV p l e s m args below meth c cells slots Q G 994 (vLw (nI i)) [] M := by
  obtain ⟨r, N, K, h1, h2, h3⟩ := S_apart ((xs (nI i + 1).toNatClampNeg)) ((xs (nI i + 2).toNatClampNeg)) M hI
  refine v_rn okL24 C 5 (pc' := 999) (L' := vLw (nI i)) (S' := [.int (nI i + 1), .ref 960, .ref 0]) (M' := M) rfl ?_
  refine v_sld C (hin 1 (by omega)) (show decode code 999 = .ok (.iaload, 1) by decide +kernel) ?_
  refine v_rn okL24 C 4 (pc' := 1004) (L' := vLw (nI i)) (S' := [.int (nI i + 2), .ref 960, .int (xs (nI i + 1).toNatClampNeg), .ref 0]) (M' := M) rfl ?_
  refine v_sld C (hin 2 (by omega)) (show decode code 1004 = .ok (.iaload, 1) by decide +kernel) ?_
  refine v_call ocL24 C rfl rfl (gOb_c rfl) rfl (SX8_apart ((xs (nI i + 1).toNatClampNeg)) ((xs (nI i + 2).toNatClampNeg)) M h1) (by decide) ?_
  refine v_rn okL24 C 5 (pc' := 1013) (L' := vLw (nI i)) (S' := [.int (nI i + 1), .ref 960, .ref 141, .int r]) (M' := N) rfl ?_
  refine v_sld C (hin 1 (by omega)) (show decode code 1013 = .ok (.iaload, 1) by decide +kernel) ?_
  refine v_rn okL24 C 4 (pc' := 1018) (L' := vLw (nI i)) (S' := [.int (nI i + 2), .ref 960, .int (xs (nI i + 1).toNatClampNeg), .ref 141, .int r]) (M' := N) rfl ?_
  refine v_sld C (hin 2 (by omega)) (show decode code 1018 = .ok (.iaload, 1) by decide +kernel) ?_
  refine v_call ocL24 C rfl rfl (gOb_c rfl) rfl (SX9_apart ((xs (nI i + 1).toNatClampNeg)) ((xs (nI i + 2).toNatClampNeg)) N h2) (by decide) ?_
  refine v_eq okL24 C (t := 2300) rfl ?_
  exact kk K h3
def tL25 : List (Nat × gStp) := [(1027, i_aload 1 1028), (1028, i_aload 0 1029), (1029, i_iload 3 1030), (1030, i_push (.int 1) 1031), (1031, i_ii (fun x y => x + y) 1032), (1036, i_aload 2 1037), (1037, i_aload 0 1038), (1038, i_iload 3 1039), (1039, i_push (.int 1) 1040), (1040, i_ii (fun x y => x + y) 1041), (1045, i_ic_eq 2300 1048), (1048, i_push (.int 0) 1049)]
set_option maxRecDepth 100000 in
theorem okL25 : gOk YL tL25 := ok_c (sn_aload_n (show decode code 1027 = .ok (.aload_n 1, 1) by decide +kernel) rfl) <|
  ok_c (sn_aload_n (show decode code 1028 = .ok (.aload_n 0, 1) by decide +kernel) rfl) <|
  ok_c (sn_iload_n (show decode code 1029 = .ok (.iload_n 3, 1) by decide +kernel) rfl) <|
  ok_c (sn_iconst (v := 1) (show decode code 1030 = .ok (.iconst 1, 1) by decide +kernel) (by decide +kernel)) <|
  ok_c (sn_iadd (show decode code 1031 = .ok (.iadd, 1) by decide +kernel)) <|
  ok_c (sn_aload_n (show decode code 1036 = .ok (.aload_n 2, 1) by decide +kernel) rfl) <|
  ok_c (sn_aload_n (show decode code 1037 = .ok (.aload_n 0, 1) by decide +kernel) rfl) <|
  ok_c (sn_iload_n (show decode code 1038 = .ok (.iload_n 3, 1) by decide +kernel) rfl) <|
  ok_c (sn_iconst (v := 1) (show decode code 1039 = .ok (.iconst 1, 1) by decide +kernel) (by decide +kernel)) <|
  ok_c (sn_iadd (show decode code 1040 = .ok (.iadd, 1) by decide +kernel)) <|
  ok_c (sn_ic_eq (show decode code 1045 = .ok (.if_icmp .eq 1255, 3) by decide +kernel) (by decide)) <|
  ok_c (sn_iconst (v := 0) (show decode code 1048 = .ok (.iconst 0, 1) by decide +kernel) (by decide +kernel)) <|
  ok_n
def uL25 : gCT := [(1033, YX8_singles, 2, some 8), (1042, YX9_singles, 2, some 9)]
set_option maxRecDepth 100000 in
theorem ocL25 : gOkC YL uL25 := oc_c (gEdge_V cal_X8_singles ck_8 rfl (show decode code 1033 = .ok (.invokevirtual 118, 3) by decide +kernel) wd_4_68 wd_4_69 wd_4_70) <|
  oc_c (gEdge_V cal_X9_singles ck_9 rfl (show decode code 1042 = .ok (.invokevirtual 121, 3) by decide +kernel) wd_8_25 wd_8_26 wd_8_27) <|
  oc_n
set_option maxRecDepth 20000 in
theorem lc_25 (C : vCx p s m args c cells slots G b Ln xs) {i : Nat} (hin : ∀ k, k < 6 → vp_in (nI i + nI k) Ln) {M : gMem} (hI : INV M) (kk : ∀ M', INV M' → gV p l e s m args below meth c cells slots Q G 2300 (vLw (nI i)) [] M') : gV p l e s m args below meth c cells slots Q G 1027 (vLw (nI i)) [] M := by
  obtain ⟨r, N, K, h1, h2, h3⟩ := S_singles ((xs (nI i + 1).toNatClampNeg)) M hI
  refine v_rn okL25 C 5 (pc' := 1032) (L' := vLw (nI i)) (S' := [.int (nI i + 1), .ref 960, .ref 0]) (M' := M) rfl ?_
  refine v_sld C (hin 1 (by omega)) (show decode code 1032 = .ok (.iaload, 1) by decide +kernel) ?_
  refine v_call ocL25 C rfl rfl (gOb_c rfl) rfl (SX8_singles ((xs (nI i + 1).toNatClampNeg)) M h1) (by decide) ?_
  refine v_rn okL25 C 5 (pc' := 1041) (L' := vLw (nI i)) (S' := [.int (nI i + 1), .ref 960, .ref 141, .int r]) (M' := N) rfl ?_
  refine v_sld C (hin 1 (by omega)) (show decode code 1041 = .ok (.iaload, 1) by decide +kernel) ?_
  refine v_call ocL25 C rfl rfl (gOb_c rfl) rfl (SX9_singles ((xs (nI i + 1).toNatClampNeg)) N h2) (by decide) ?_
  refine v_eq okL25 C (t := 2300) rfl ?_
  exact kk K h3
def tL26 : List (Nat × gStp) := [(1050, i_aload 1 1051), (1051, i_aload 0 1052), (1052, i_iload 3 1053), (1053, i_push (.int 1) 1054), (1054, i_ii (fun x y => x + y) 1055), (1059, i_aload 2 1060), (1060, i_aload 0 1061), (1061, i_iload 3 1062), (1062, i_push (.int 1) 1063), (1063, i_ii (fun x y => x + y) 1064), (1068, i_ic_eq 2300 1071), (1071, i_push (.int 0) 1072)]
set_option maxRecDepth 100000 in
theorem okL26 : gOk YL tL26 := ok_c (sn_aload_n (show decode code 1050 = .ok (.aload_n 1, 1) by decide +kernel) rfl) <|
  ok_c (sn_aload_n (show decode code 1051 = .ok (.aload_n 0, 1) by decide +kernel) rfl) <|
  ok_c (sn_iload_n (show decode code 1052 = .ok (.iload_n 3, 1) by decide +kernel) rfl) <|
  ok_c (sn_iconst (v := 1) (show decode code 1053 = .ok (.iconst 1, 1) by decide +kernel) (by decide +kernel)) <|
  ok_c (sn_iadd (show decode code 1054 = .ok (.iadd, 1) by decide +kernel)) <|
  ok_c (sn_aload_n (show decode code 1059 = .ok (.aload_n 2, 1) by decide +kernel) rfl) <|
  ok_c (sn_aload_n (show decode code 1060 = .ok (.aload_n 0, 1) by decide +kernel) rfl) <|
  ok_c (sn_iload_n (show decode code 1061 = .ok (.iload_n 3, 1) by decide +kernel) rfl) <|
  ok_c (sn_iconst (v := 1) (show decode code 1062 = .ok (.iconst 1, 1) by decide +kernel) (by decide +kernel)) <|
  ok_c (sn_iadd (show decode code 1063 = .ok (.iadd, 1) by decide +kernel)) <|
  ok_c (sn_ic_eq (show decode code 1068 = .ok (.if_icmp .eq 1232, 3) by decide +kernel) (by decide)) <|
  ok_c (sn_iconst (v := 0) (show decode code 1071 = .ok (.iconst 0, 1) by decide +kernel) (by decide +kernel)) <|
  ok_n
def uL26 : gCT := [(1056, YX8_total, 2, some 8), (1065, YX9_total, 2, some 9)]
set_option maxRecDepth 100000 in
theorem ocL26 : gOkC YL uL26 := oc_c (gEdge_V cal_X8_total ck_8 rfl (show decode code 1056 = .ok (.invokevirtual 122, 3) by decide +kernel) wd_4_72 wd_4_73 wd_4_74) <|
  oc_c (gEdge_V cal_X9_total ck_9 rfl (show decode code 1065 = .ok (.invokevirtual 125, 3) by decide +kernel) wd_8_29 wd_8_30 wd_8_31) <|
  oc_n
set_option maxRecDepth 20000 in
theorem lc_26 (C : vCx p s m args c cells slots G b Ln xs) {i : Nat} (hin : ∀ k, k < 6 → vp_in (nI i + nI k) Ln) {M : gMem} (hI : INV M) (kk : ∀ M', INV M' → gV p l e s m args below meth c cells slots Q G 2300 (vLw (nI i)) [] M') : gV p l e s m args below meth c cells slots Q G 1050 (vLw (nI i)) [] M := by
  obtain ⟨r, N, K, h1, h2, h3⟩ := S_total ((xs (nI i + 1).toNatClampNeg)) M hI
  refine v_rn okL26 C 5 (pc' := 1055) (L' := vLw (nI i)) (S' := [.int (nI i + 1), .ref 960, .ref 0]) (M' := M) rfl ?_
  refine v_sld C (hin 1 (by omega)) (show decode code 1055 = .ok (.iaload, 1) by decide +kernel) ?_
  refine v_call ocL26 C rfl rfl (gOb_c rfl) rfl (SX8_total ((xs (nI i + 1).toNatClampNeg)) M h1) (by decide) ?_
  refine v_rn okL26 C 5 (pc' := 1064) (L' := vLw (nI i)) (S' := [.int (nI i + 1), .ref 960, .ref 141, .int r]) (M' := N) rfl ?_
  refine v_sld C (hin 1 (by omega)) (show decode code 1064 = .ok (.iaload, 1) by decide +kernel) ?_
  refine v_call ocL26 C rfl rfl (gOb_c rfl) rfl (SX9_total ((xs (nI i + 1).toNatClampNeg)) N h2) (by decide) ?_
  refine v_eq okL26 C (t := 2300) rfl ?_
  exact kk K h3
def tL27 : List (Nat × gStp) := [(1073, i_aload 1 1074), (1074, i_aload 0 1075), (1075, i_iload 3 1076), (1076, i_push (.int 1) 1077), (1077, i_ii (fun x y => x + y) 1078), (1082, i_aload 2 1083), (1083, i_aload 0 1084), (1084, i_iload 3 1085), (1085, i_push (.int 1) 1086), (1086, i_ii (fun x y => x + y) 1087), (1091, i_ic_eq 2300 1094), (1094, i_push (.int 0) 1095)]
set_option maxRecDepth 100000 in
theorem okL27 : gOk YL tL27 := ok_c (sn_aload_n (show decode code 1073 = .ok (.aload_n 1, 1) by decide +kernel) rfl) <|
  ok_c (sn_aload_n (show decode code 1074 = .ok (.aload_n 0, 1) by decide +kernel) rfl) <|
  ok_c (sn_iload_n (show decode code 1075 = .ok (.iload_n 3, 1) by decide +kernel) rfl) <|
  ok_c (sn_iconst (v := 1) (show decode code 1076 = .ok (.iconst 1, 1) by decide +kernel) (by decide +kernel)) <|
  ok_c (sn_iadd (show decode code 1077 = .ok (.iadd, 1) by decide +kernel)) <|
  ok_c (sn_aload_n (show decode code 1082 = .ok (.aload_n 2, 1) by decide +kernel) rfl) <|
  ok_c (sn_aload_n (show decode code 1083 = .ok (.aload_n 0, 1) by decide +kernel) rfl) <|
  ok_c (sn_iload_n (show decode code 1084 = .ok (.iload_n 3, 1) by decide +kernel) rfl) <|
  ok_c (sn_iconst (v := 1) (show decode code 1085 = .ok (.iconst 1, 1) by decide +kernel) (by decide +kernel)) <|
  ok_c (sn_iadd (show decode code 1086 = .ok (.iadd, 1) by decide +kernel)) <|
  ok_c (sn_ic_eq (show decode code 1091 = .ok (.if_icmp .eq 1209, 3) by decide +kernel) (by decide)) <|
  ok_c (sn_iconst (v := 0) (show decode code 1094 = .ok (.iconst 0, 1) by decide +kernel) (by decide +kernel)) <|
  ok_n
def uL27 : gCT := [(1079, YX8_best, 2, some 8), (1088, YX9_best, 2, some 9)]
set_option maxRecDepth 100000 in
theorem ocL27 : gOkC YL uL27 := oc_c (gEdge_V cal_X8_best ck_8 rfl (show decode code 1079 = .ok (.invokevirtual 126, 3) by decide +kernel) wd_4_76 wd_4_77 wd_4_78) <|
  oc_c (gEdge_V cal_X9_best ck_9 rfl (show decode code 1088 = .ok (.invokevirtual 129, 3) by decide +kernel) wd_8_33 wd_8_34 wd_8_35) <|
  oc_n
set_option maxRecDepth 20000 in
theorem lc_27 (C : vCx p s m args c cells slots G b Ln xs) {i : Nat} (hin : ∀ k, k < 6 → vp_in (nI i + nI k) Ln) {M : gMem} (hI : INV M) (kk : ∀ M', INV M' → gV p l e s m args below meth c cells slots Q G 2300 (vLw (nI i)) [] M') : gV p l e s m args below meth c cells slots Q G 1073 (vLw (nI i)) [] M := by
  obtain ⟨r, K, h1, h2, h3⟩ := S_best ((xs (nI i + 1).toNatClampNeg)) M hI
  refine v_rn okL27 C 5 (pc' := 1078) (L' := vLw (nI i)) (S' := [.int (nI i + 1), .ref 960, .ref 0]) (M' := M) rfl ?_
  refine v_sld C (hin 1 (by omega)) (show decode code 1078 = .ok (.iaload, 1) by decide +kernel) ?_
  refine v_call ocL27 C rfl rfl (gOb_c rfl) rfl (SX8_best ((xs (nI i + 1).toNatClampNeg)) M h1) (by decide) ?_
  refine v_rn okL27 C 5 (pc' := 1087) (L' := vLw (nI i)) (S' := [.int (nI i + 1), .ref 960, .ref 141, .int r]) (M' := M) rfl ?_
  refine v_sld C (hin 1 (by omega)) (show decode code 1087 = .ok (.iaload, 1) by decide +kernel) ?_
  refine v_call ocL27 C rfl rfl (gOb_c rfl) rfl (SX9_best ((xs (nI i + 1).toNatClampNeg)) M h2) (by decide) ?_
  refine v_eq okL27 C (t := 2300) rfl ?_
  exact kk K h3
def tL28 : List (Nat × gStp) := [(1096, i_aload 1 1097), (1097, i_aload 0 1098), (1098, i_iload 3 1099), (1099, i_push (.int 1) 1100), (1100, i_ii (fun x y => x + y) 1101), (1105, i_aload 2 1106), (1106, i_aload 0 1107), (1107, i_iload 3 1108), (1108, i_push (.int 1) 1109), (1109, i_ii (fun x y => x + y) 1110), (1114, i_ic_eq 2300 1117), (1117, i_push (.int 0) 1118)]
set_option maxRecDepth 100000 in
theorem okL28 : gOk YL tL28 := ok_c (sn_aload_n (show decode code 1096 = .ok (.aload_n 1, 1) by decide +kernel) rfl) <|
  ok_c (sn_aload_n (show decode code 1097 = .ok (.aload_n 0, 1) by decide +kernel) rfl) <|
  ok_c (sn_iload_n (show decode code 1098 = .ok (.iload_n 3, 1) by decide +kernel) rfl) <|
  ok_c (sn_iconst (v := 1) (show decode code 1099 = .ok (.iconst 1, 1) by decide +kernel) (by decide +kernel)) <|
  ok_c (sn_iadd (show decode code 1100 = .ok (.iadd, 1) by decide +kernel)) <|
  ok_c (sn_aload_n (show decode code 1105 = .ok (.aload_n 2, 1) by decide +kernel) rfl) <|
  ok_c (sn_aload_n (show decode code 1106 = .ok (.aload_n 0, 1) by decide +kernel) rfl) <|
  ok_c (sn_iload_n (show decode code 1107 = .ok (.iload_n 3, 1) by decide +kernel) rfl) <|
  ok_c (sn_iconst (v := 1) (show decode code 1108 = .ok (.iconst 1, 1) by decide +kernel) (by decide +kernel)) <|
  ok_c (sn_iadd (show decode code 1109 = .ok (.iadd, 1) by decide +kernel)) <|
  ok_c (sn_ic_eq (show decode code 1114 = .ok (.if_icmp .eq 1186, 3) by decide +kernel) (by decide)) <|
  ok_c (sn_iconst (v := 0) (show decode code 1117 = .ok (.iconst 0, 1) by decide +kernel) (by decide +kernel)) <|
  ok_n
def uL28 : gCT := [(1102, YX8_bests, 2, some 8), (1111, YX9_bests, 2, some 9)]
set_option maxRecDepth 100000 in
theorem ocL28 : gOkC YL uL28 := oc_c (gEdge_V cal_X8_bests ck_8 rfl (show decode code 1102 = .ok (.invokevirtual 130, 3) by decide +kernel) wd_4_96 wd_4_97 wd_4_98) <|
  oc_c (gEdge_V cal_X9_bests ck_9 rfl (show decode code 1111 = .ok (.invokevirtual 133, 3) by decide +kernel) wd_8_49 wd_8_50 wd_8_51) <|
  oc_n
set_option maxRecDepth 20000 in
theorem lc_28 (C : vCx p s m args c cells slots G b Ln xs) {i : Nat} (hin : ∀ k, k < 6 → vp_in (nI i + nI k) Ln) {M : gMem} (hI : INV M) (kk : ∀ M', INV M' → gV p l e s m args below meth c cells slots Q G 2300 (vLw (nI i)) [] M') : gV p l e s m args below meth c cells slots Q G 1096 (vLw (nI i)) [] M := by
  obtain ⟨r, K, h1, h2, h3⟩ := S_bests ((xs (nI i + 1).toNatClampNeg)) M hI
  refine v_rn okL28 C 5 (pc' := 1101) (L' := vLw (nI i)) (S' := [.int (nI i + 1), .ref 960, .ref 0]) (M' := M) rfl ?_
  refine v_sld C (hin 1 (by omega)) (show decode code 1101 = .ok (.iaload, 1) by decide +kernel) ?_
  refine v_call ocL28 C rfl rfl (gOb_c rfl) rfl (SX8_bests ((xs (nI i + 1).toNatClampNeg)) M h1) (by decide) ?_
  refine v_rn okL28 C 5 (pc' := 1110) (L' := vLw (nI i)) (S' := [.int (nI i + 1), .ref 960, .ref 141, .int r]) (M' := M) rfl ?_
  refine v_sld C (hin 1 (by omega)) (show decode code 1110 = .ok (.iaload, 1) by decide +kernel) ?_
  refine v_call ocL28 C rfl rfl (gOb_c rfl) rfl (SX9_bests ((xs (nI i + 1).toNatClampNeg)) M h2) (by decide) ?_
  refine v_eq okL28 C (t := 2300) rfl ?_
  exact kk K h3
def tL29 : List (Nat × gStp) := [(1119, i_aload 1 1120), (1120, i_aload 0 1121), (1121, i_iload 3 1122), (1122, i_push (.int 1) 1123), (1123, i_ii (fun x y => x + y) 1124), (1128, i_aload 2 1129), (1129, i_aload 0 1130), (1130, i_iload 3 1131), (1131, i_push (.int 1) 1132), (1132, i_ii (fun x y => x + y) 1133), (1137, i_ic_eq 2300 1140), (1140, i_push (.int 0) 1141)]
set_option maxRecDepth 100000 in
theorem okL29 : gOk YL tL29 := ok_c (sn_aload_n (show decode code 1119 = .ok (.aload_n 1, 1) by decide +kernel) rfl) <|
  ok_c (sn_aload_n (show decode code 1120 = .ok (.aload_n 0, 1) by decide +kernel) rfl) <|
  ok_c (sn_iload_n (show decode code 1121 = .ok (.iload_n 3, 1) by decide +kernel) rfl) <|
  ok_c (sn_iconst (v := 1) (show decode code 1122 = .ok (.iconst 1, 1) by decide +kernel) (by decide +kernel)) <|
  ok_c (sn_iadd (show decode code 1123 = .ok (.iadd, 1) by decide +kernel)) <|
  ok_c (sn_aload_n (show decode code 1128 = .ok (.aload_n 2, 1) by decide +kernel) rfl) <|
  ok_c (sn_aload_n (show decode code 1129 = .ok (.aload_n 0, 1) by decide +kernel) rfl) <|
  ok_c (sn_iload_n (show decode code 1130 = .ok (.iload_n 3, 1) by decide +kernel) rfl) <|
  ok_c (sn_iconst (v := 1) (show decode code 1131 = .ok (.iconst 1, 1) by decide +kernel) (by decide +kernel)) <|
  ok_c (sn_iadd (show decode code 1132 = .ok (.iadd, 1) by decide +kernel)) <|
  ok_c (sn_ic_eq (show decode code 1137 = .ok (.if_icmp .eq 1163, 3) by decide +kernel) (by decide)) <|
  ok_c (sn_iconst (v := 0) (show decode code 1140 = .ok (.iconst 0, 1) by decide +kernel) (by decide +kernel)) <|
  ok_n
def uL29 : gCT := [(1125, YX8_sets, 2, some 8), (1134, YX9_sets, 2, some 9)]
set_option maxRecDepth 100000 in
theorem ocL29 : gOkC YL uL29 := oc_c (gEdge_V cal_X8_sets ck_8 rfl (show decode code 1125 = .ok (.invokevirtual 134, 3) by decide +kernel) wd_4_100 wd_4_101 wd_4_102) <|
  oc_c (gEdge_V cal_X9_sets ck_9 rfl (show decode code 1134 = .ok (.invokevirtual 137, 3) by decide +kernel) wd_8_53 wd_8_54 wd_8_55) <|
  oc_n
set_option maxRecDepth 20000 in
theorem lc_29 (C : vCx p s m args c cells slots G b Ln xs) {i : Nat} (hin : ∀ k, k < 6 → vp_in (nI i + nI k) Ln) {M : gMem} (hI : INV M) (kk : ∀ M', INV M' → gV p l e s m args below meth c cells slots Q G 2300 (vLw (nI i)) [] M') : gV p l e s m args below meth c cells slots Q G 1119 (vLw (nI i)) [] M := by
  obtain ⟨r, N, K, h1, h2, h3⟩ := S_sets ((xs (nI i + 1).toNatClampNeg)) M hI
  refine v_rn okL29 C 5 (pc' := 1124) (L' := vLw (nI i)) (S' := [.int (nI i + 1), .ref 960, .ref 0]) (M' := M) rfl ?_
  refine v_sld C (hin 1 (by omega)) (show decode code 1124 = .ok (.iaload, 1) by decide +kernel) ?_
  refine v_call ocL29 C rfl rfl (gOb_c rfl) rfl (SX8_sets ((xs (nI i + 1).toNatClampNeg)) M h1) (by decide) ?_
  refine v_rn okL29 C 5 (pc' := 1133) (L' := vLw (nI i)) (S' := [.int (nI i + 1), .ref 960, .ref 141, .int r]) (M' := N) rfl ?_
  refine v_sld C (hin 1 (by omega)) (show decode code 1133 = .ok (.iaload, 1) by decide +kernel) ?_
  refine v_call ocL29 C rfl rfl (gOb_c rfl) rfl (SX9_sets ((xs (nI i + 1).toNatClampNeg)) N h2) (by decide) ?_
  refine v_eq okL29 C (t := 2300) rfl ?_
  exact kk K h3
def tL30 : List (Nat × gStp) := [(1142, i_aload 1 1143), (1143, i_aload 0 1144), (1144, i_iload 3 1145), (1145, i_push (.int 1) 1146), (1146, i_ii (fun x y => x + y) 1147), (1151, i_aload 2 1152), (1152, i_aload 0 1153), (1153, i_iload 3 1154), (1154, i_push (.int 1) 1155), (1155, i_ii (fun x y => x + y) 1156), (1160, i_ic_eq 2300 1163), (1163, i_push (.int 0) 1164)]
set_option maxRecDepth 100000 in
theorem okL30 : gOk YL tL30 := ok_c (sn_aload_n (show decode code 1142 = .ok (.aload_n 1, 1) by decide +kernel) rfl) <|
  ok_c (sn_aload_n (show decode code 1143 = .ok (.aload_n 0, 1) by decide +kernel) rfl) <|
  ok_c (sn_iload_n (show decode code 1144 = .ok (.iload_n 3, 1) by decide +kernel) rfl) <|
  ok_c (sn_iconst (v := 1) (show decode code 1145 = .ok (.iconst 1, 1) by decide +kernel) (by decide +kernel)) <|
  ok_c (sn_iadd (show decode code 1146 = .ok (.iadd, 1) by decide +kernel)) <|
  ok_c (sn_aload_n (show decode code 1151 = .ok (.aload_n 2, 1) by decide +kernel) rfl) <|
  ok_c (sn_aload_n (show decode code 1152 = .ok (.aload_n 0, 1) by decide +kernel) rfl) <|
  ok_c (sn_iload_n (show decode code 1153 = .ok (.iload_n 3, 1) by decide +kernel) rfl) <|
  ok_c (sn_iconst (v := 1) (show decode code 1154 = .ok (.iconst 1, 1) by decide +kernel) (by decide +kernel)) <|
  ok_c (sn_iadd (show decode code 1155 = .ok (.iadd, 1) by decide +kernel)) <|
  ok_c (sn_ic_eq (show decode code 1160 = .ok (.if_icmp .eq 1140, 3) by decide +kernel) (by decide)) <|
  ok_c (sn_iconst (v := 0) (show decode code 1163 = .ok (.iconst 0, 1) by decide +kernel) (by decide +kernel)) <|
  ok_n
def uL30 : gCT := [(1148, YX8_ways, 2, some 8), (1157, YX9_ways, 2, some 9)]
set_option maxRecDepth 100000 in
theorem ocL30 : gOkC YL uL30 := oc_c (gEdge_V cal_X8_ways ck_8 rfl (show decode code 1148 = .ok (.invokevirtual 138, 3) by decide +kernel) wd_4_112 wd_4_113 wd_4_114) <|
  oc_c (gEdge_V cal_X9_ways ck_9 rfl (show decode code 1157 = .ok (.invokevirtual 141, 3) by decide +kernel) wd_8_61 wd_8_62 wd_8_63) <|
  oc_n
set_option maxRecDepth 20000 in
theorem lc_30 (C : vCx p s m args c cells slots G b Ln xs) {i : Nat} (hin : ∀ k, k < 6 → vp_in (nI i + nI k) Ln) {M : gMem} (hI : INV M) (kk : ∀ M', INV M' → gV p l e s m args below meth c cells slots Q G 2300 (vLw (nI i)) [] M') : gV p l e s m args below meth c cells slots Q G 1142 (vLw (nI i)) [] M := by
  obtain ⟨r, N, K, h1, h2, h3⟩ := S_ways ((xs (nI i + 1).toNatClampNeg)) M hI
  refine v_rn okL30 C 5 (pc' := 1147) (L' := vLw (nI i)) (S' := [.int (nI i + 1), .ref 960, .ref 0]) (M' := M) rfl ?_
  refine v_sld C (hin 1 (by omega)) (show decode code 1147 = .ok (.iaload, 1) by decide +kernel) ?_
  refine v_call ocL30 C rfl rfl (gOb_c rfl) rfl (SX8_ways ((xs (nI i + 1).toNatClampNeg)) M h1) (by decide) ?_
  refine v_rn okL30 C 5 (pc' := 1156) (L' := vLw (nI i)) (S' := [.int (nI i + 1), .ref 960, .ref 141, .int r]) (M' := N) rfl ?_
  refine v_sld C (hin 1 (by omega)) (show decode code 1156 = .ok (.iaload, 1) by decide +kernel) ?_
  refine v_call ocL30 C rfl rfl (gOb_c rfl) rfl (SX9_ways ((xs (nI i + 1).toNatClampNeg)) N h2) (by decide) ?_
  refine v_eq okL30 C (t := 2300) rfl ?_
  exact kk K h3
def tL31 : List (Nat × gStp) := [(1165, i_aload 1 1166), (1166, i_aload 0 1167), (1167, i_iload 3 1168), (1168, i_push (.int 1) 1169), (1169, i_ii (fun x y => x + y) 1170), (1171, i_aload 0 1172), (1172, i_iload 3 1173), (1173, i_push (.int 2) 1174), (1174, i_ii (fun x y => x + y) 1175), (1176, i_aload 0 1177), (1177, i_iload 3 1178), (1178, i_push (.int 3) 1179), (1179, i_ii (fun x y => x + y) 1180), (1184, i_aload 2 1185), (1185, i_aload 0 1186), (1186, i_iload 3 1187), (1187, i_push (.int 1) 1188), (1188, i_ii (fun x y => x + y) 1189), (1190, i_aload 0 1191), (1191, i_iload 3 1192), (1192, i_push (.int 2) 1193), (1193, i_ii (fun x y => x + y) 1194), (1195, i_aload 0 1196), (1196, i_iload 3 1197), (1197, i_push (.int 3) 1198), (1198, i_ii (fun x y => x + y) 1199), (1203, i_ic_eq 2300 1206), (1206, i_push (.int 0) 1207)]
set_option maxRecDepth 100000 in
theorem okL31 : gOk YL tL31 := ok_c (sn_aload_n (show decode code 1165 = .ok (.aload_n 1, 1) by decide +kernel) rfl) <|
  ok_c (sn_aload_n (show decode code 1166 = .ok (.aload_n 0, 1) by decide +kernel) rfl) <|
  ok_c (sn_iload_n (show decode code 1167 = .ok (.iload_n 3, 1) by decide +kernel) rfl) <|
  ok_c (sn_iconst (v := 1) (show decode code 1168 = .ok (.iconst 1, 1) by decide +kernel) (by decide +kernel)) <|
  ok_c (sn_iadd (show decode code 1169 = .ok (.iadd, 1) by decide +kernel)) <|
  ok_c (sn_aload_n (show decode code 1171 = .ok (.aload_n 0, 1) by decide +kernel) rfl) <|
  ok_c (sn_iload_n (show decode code 1172 = .ok (.iload_n 3, 1) by decide +kernel) rfl) <|
  ok_c (sn_iconst (v := 2) (show decode code 1173 = .ok (.iconst 2, 1) by decide +kernel) (by decide +kernel)) <|
  ok_c (sn_iadd (show decode code 1174 = .ok (.iadd, 1) by decide +kernel)) <|
  ok_c (sn_aload_n (show decode code 1176 = .ok (.aload_n 0, 1) by decide +kernel) rfl) <|
  ok_c (sn_iload_n (show decode code 1177 = .ok (.iload_n 3, 1) by decide +kernel) rfl) <|
  ok_c (sn_iconst (v := 3) (show decode code 1178 = .ok (.iconst 3, 1) by decide +kernel) (by decide +kernel)) <|
  ok_c (sn_iadd (show decode code 1179 = .ok (.iadd, 1) by decide +kernel)) <|
  ok_c (sn_aload_n (show decode code 1184 = .ok (.aload_n 2, 1) by decide +kernel) rfl) <|
  ok_c (sn_aload_n (show decode code 1185 = .ok (.aload_n 0, 1) by decide +kernel) rfl) <|
  ok_c (sn_iload_n (show decode code 1186 = .ok (.iload_n 3, 1) by decide +kernel) rfl) <|
  ok_c (sn_iconst (v := 1) (show decode code 1187 = .ok (.iconst 1, 1) by decide +kernel) (by decide +kernel)) <|
  ok_c (sn_iadd (show decode code 1188 = .ok (.iadd, 1) by decide +kernel)) <|
  ok_c (sn_aload_n (show decode code 1190 = .ok (.aload_n 0, 1) by decide +kernel) rfl) <|
  ok_c (sn_iload_n (show decode code 1191 = .ok (.iload_n 3, 1) by decide +kernel) rfl) <|
  ok_c (sn_iconst (v := 2) (show decode code 1192 = .ok (.iconst 2, 1) by decide +kernel) (by decide +kernel)) <|
  ok_c (sn_iadd (show decode code 1193 = .ok (.iadd, 1) by decide +kernel)) <|
  ok_c (sn_aload_n (show decode code 1195 = .ok (.aload_n 0, 1) by decide +kernel) rfl) <|
  ok_c (sn_iload_n (show decode code 1196 = .ok (.iload_n 3, 1) by decide +kernel) rfl) <|
  ok_c (sn_iconst (v := 3) (show decode code 1197 = .ok (.iconst 3, 1) by decide +kernel) (by decide +kernel)) <|
  ok_c (sn_iadd (show decode code 1198 = .ok (.iadd, 1) by decide +kernel)) <|
  ok_c (sn_ic_eq (show decode code 1203 = .ok (.if_icmp .eq 1097, 3) by decide +kernel) (by decide)) <|
  ok_c (sn_iconst (v := 0) (show decode code 1206 = .ok (.iconst 0, 1) by decide +kernel) (by decide +kernel)) <|
  ok_n
def uL31 : gCT := [(1181, YX8_share, 4, some 8), (1200, YX9_share, 4, some 9)]
set_option maxRecDepth 100000 in
theorem ocL31 : gOkC YL uL31 := oc_c (gEdge_V cal_X8_share ck_8 rfl (show decode code 1181 = .ok (.invokevirtual 142, 3) by decide +kernel) wd_4_116 wd_4_117 wd_4_118) <|
  oc_c (gEdge_V cal_X9_share ck_9 rfl (show decode code 1200 = .ok (.invokevirtual 145, 3) by decide +kernel) wd_8_65 wd_8_66 wd_8_67) <|
  oc_n
set_option maxRecDepth 20000 in
theorem lc_31 (C : vCx p s m args c cells slots G b Ln xs) {i : Nat} (hin : ∀ k, k < 6 → vp_in (nI i + nI k) Ln) {M : gMem} (hI : INV M) (kk : ∀ M', INV M' → gV p l e s m args below meth c cells slots Q G 2300 (vLw (nI i)) [] M') : gV p l e s m args below meth c cells slots Q G 1165 (vLw (nI i)) [] M := by
  obtain ⟨r, K, h1, h2, h3⟩ := S_share ((xs (nI i + 1).toNatClampNeg)) ((xs (nI i + 2).toNatClampNeg)) ((xs (nI i + 3).toNatClampNeg)) M hI
  refine v_rn okL31 C 5 (pc' := 1170) (L' := vLw (nI i)) (S' := [.int (nI i + 1), .ref 960, .ref 0]) (M' := M) rfl ?_
  refine v_sld C (hin 1 (by omega)) (show decode code 1170 = .ok (.iaload, 1) by decide +kernel) ?_
  refine v_rn okL31 C 4 (pc' := 1175) (L' := vLw (nI i)) (S' := [.int (nI i + 2), .ref 960, .int (xs (nI i + 1).toNatClampNeg), .ref 0]) (M' := M) rfl ?_
  refine v_sld C (hin 2 (by omega)) (show decode code 1175 = .ok (.iaload, 1) by decide +kernel) ?_
  refine v_rn okL31 C 4 (pc' := 1180) (L' := vLw (nI i)) (S' := [.int (nI i + 3), .ref 960, .int (xs (nI i + 2).toNatClampNeg), .int (xs (nI i + 1).toNatClampNeg), .ref 0]) (M' := M) rfl ?_
  refine v_sld C (hin 3 (by omega)) (show decode code 1180 = .ok (.iaload, 1) by decide +kernel) ?_
  refine v_call ocL31 C rfl rfl (gOb_c rfl) rfl (SX8_share ((xs (nI i + 1).toNatClampNeg)) ((xs (nI i + 2).toNatClampNeg)) ((xs (nI i + 3).toNatClampNeg)) M h1) (by decide) ?_
  refine v_rn okL31 C 5 (pc' := 1189) (L' := vLw (nI i)) (S' := [.int (nI i + 1), .ref 960, .ref 141, .int r]) (M' := M) rfl ?_
  refine v_sld C (hin 1 (by omega)) (show decode code 1189 = .ok (.iaload, 1) by decide +kernel) ?_
  refine v_rn okL31 C 4 (pc' := 1194) (L' := vLw (nI i)) (S' := [.int (nI i + 2), .ref 960, .int (xs (nI i + 1).toNatClampNeg), .ref 141, .int r]) (M' := M) rfl ?_
  refine v_sld C (hin 2 (by omega)) (show decode code 1194 = .ok (.iaload, 1) by decide +kernel) ?_
  refine v_rn okL31 C 4 (pc' := 1199) (L' := vLw (nI i)) (S' := [.int (nI i + 3), .ref 960, .int (xs (nI i + 2).toNatClampNeg), .int (xs (nI i + 1).toNatClampNeg), .ref 141, .int r]) (M' := M) rfl ?_
  refine v_sld C (hin 3 (by omega)) (show decode code 1199 = .ok (.iaload, 1) by decide +kernel) ?_
  refine v_call ocL31 C rfl rfl (gOb_c rfl) rfl (SX9_share ((xs (nI i + 1).toNatClampNeg)) ((xs (nI i + 2).toNatClampNeg)) ((xs (nI i + 3).toNatClampNeg)) M h2) (by decide) ?_
  refine v_eq okL31 C (t := 2300) rfl ?_
  exact kk K h3
def tL32 : List (Nat × gStp) := [(1208, i_aload 1 1209), (1209, i_aload 0 1210), (1210, i_iload 3 1211), (1211, i_push (.int 1) 1212), (1212, i_ii (fun x y => x + y) 1213), (1214, i_aload 0 1215), (1215, i_iload 3 1216), (1216, i_push (.int 2) 1217), (1217, i_ii (fun x y => x + y) 1218), (1222, i_aload 2 1223), (1223, i_aload 0 1224), (1224, i_iload 3 1225), (1225, i_push (.int 1) 1226), (1226, i_ii (fun x y => x + y) 1227), (1228, i_aload 0 1229), (1229, i_iload 3 1230), (1230, i_push (.int 2) 1231), (1231, i_ii (fun x y => x + y) 1232), (1236, i_ic_eq 2300 1239), (1239, i_push (.int 0) 1240)]
set_option maxRecDepth 100000 in
theorem okL32 : gOk YL tL32 := ok_c (sn_aload_n (show decode code 1208 = .ok (.aload_n 1, 1) by decide +kernel) rfl) <|
  ok_c (sn_aload_n (show decode code 1209 = .ok (.aload_n 0, 1) by decide +kernel) rfl) <|
  ok_c (sn_iload_n (show decode code 1210 = .ok (.iload_n 3, 1) by decide +kernel) rfl) <|
  ok_c (sn_iconst (v := 1) (show decode code 1211 = .ok (.iconst 1, 1) by decide +kernel) (by decide +kernel)) <|
  ok_c (sn_iadd (show decode code 1212 = .ok (.iadd, 1) by decide +kernel)) <|
  ok_c (sn_aload_n (show decode code 1214 = .ok (.aload_n 0, 1) by decide +kernel) rfl) <|
  ok_c (sn_iload_n (show decode code 1215 = .ok (.iload_n 3, 1) by decide +kernel) rfl) <|
  ok_c (sn_iconst (v := 2) (show decode code 1216 = .ok (.iconst 2, 1) by decide +kernel) (by decide +kernel)) <|
  ok_c (sn_iadd (show decode code 1217 = .ok (.iadd, 1) by decide +kernel)) <|
  ok_c (sn_aload_n (show decode code 1222 = .ok (.aload_n 2, 1) by decide +kernel) rfl) <|
  ok_c (sn_aload_n (show decode code 1223 = .ok (.aload_n 0, 1) by decide +kernel) rfl) <|
  ok_c (sn_iload_n (show decode code 1224 = .ok (.iload_n 3, 1) by decide +kernel) rfl) <|
  ok_c (sn_iconst (v := 1) (show decode code 1225 = .ok (.iconst 1, 1) by decide +kernel) (by decide +kernel)) <|
  ok_c (sn_iadd (show decode code 1226 = .ok (.iadd, 1) by decide +kernel)) <|
  ok_c (sn_aload_n (show decode code 1228 = .ok (.aload_n 0, 1) by decide +kernel) rfl) <|
  ok_c (sn_iload_n (show decode code 1229 = .ok (.iload_n 3, 1) by decide +kernel) rfl) <|
  ok_c (sn_iconst (v := 2) (show decode code 1230 = .ok (.iconst 2, 1) by decide +kernel) (by decide +kernel)) <|
  ok_c (sn_iadd (show decode code 1231 = .ok (.iadd, 1) by decide +kernel)) <|
  ok_c (sn_ic_eq (show decode code 1236 = .ok (.if_icmp .eq 1064, 3) by decide +kernel) (by decide)) <|
  ok_c (sn_iconst (v := 0) (show decode code 1239 = .ok (.iconst 0, 1) by decide +kernel) (by decide +kernel)) <|
  ok_n
def uL32 : gCT := [(1219, YX8_fair, 3, some 8), (1233, YX9_fair, 3, some 9)]
set_option maxRecDepth 100000 in
theorem ocL32 : gOkC YL uL32 := oc_c (gEdge_V cal_X8_fair ck_8 rfl (show decode code 1219 = .ok (.invokevirtual 146, 3) by decide +kernel) wd_4_140 wd_4_141 wd_4_142) <|
  oc_c (gEdge_V cal_X9_fair ck_9 rfl (show decode code 1233 = .ok (.invokevirtual 149, 3) by decide +kernel) wd_8_85 wd_8_86 wd_8_87) <|
  oc_n
set_option maxRecDepth 20000 in
theorem lc_32 (C : vCx p s m args c cells slots G b Ln xs) {i : Nat} (hin : ∀ k, k < 6 → vp_in (nI i + nI k) Ln) {M : gMem} (hI : INV M) (kk : ∀ M', INV M' → gV p l e s m args below meth c cells slots Q G 2300 (vLw (nI i)) [] M') : gV p l e s m args below meth c cells slots Q G 1208 (vLw (nI i)) [] M := by
  obtain ⟨r, K, h1, h2, h3⟩ := S_fair ((xs (nI i + 1).toNatClampNeg)) ((xs (nI i + 2).toNatClampNeg)) M hI
  refine v_rn okL32 C 5 (pc' := 1213) (L' := vLw (nI i)) (S' := [.int (nI i + 1), .ref 960, .ref 0]) (M' := M) rfl ?_
  refine v_sld C (hin 1 (by omega)) (show decode code 1213 = .ok (.iaload, 1) by decide +kernel) ?_
  refine v_rn okL32 C 4 (pc' := 1218) (L' := vLw (nI i)) (S' := [.int (nI i + 2), .ref 960, .int (xs (nI i + 1).toNatClampNeg), .ref 0]) (M' := M) rfl ?_
  refine v_sld C (hin 2 (by omega)) (show decode code 1218 = .ok (.iaload, 1) by decide +kernel) ?_
  refine v_call ocL32 C rfl rfl (gOb_c rfl) rfl (SX8_fair ((xs (nI i + 1).toNatClampNeg)) ((xs (nI i + 2).toNatClampNeg)) M h1) (by decide) ?_
  refine v_rn okL32 C 5 (pc' := 1227) (L' := vLw (nI i)) (S' := [.int (nI i + 1), .ref 960, .ref 141, .int r]) (M' := M) rfl ?_
  refine v_sld C (hin 1 (by omega)) (show decode code 1227 = .ok (.iaload, 1) by decide +kernel) ?_
  refine v_rn okL32 C 4 (pc' := 1232) (L' := vLw (nI i)) (S' := [.int (nI i + 2), .ref 960, .int (xs (nI i + 1).toNatClampNeg), .ref 141, .int r]) (M' := M) rfl ?_
  refine v_sld C (hin 2 (by omega)) (show decode code 1232 = .ok (.iaload, 1) by decide +kernel) ?_
  refine v_call ocL32 C rfl rfl (gOb_c rfl) rfl (SX9_fair ((xs (nI i + 1).toNatClampNeg)) ((xs (nI i + 2).toNatClampNeg)) M h2) (by decide) ?_
  refine v_eq okL32 C (t := 2300) rfl ?_
  exact kk K h3
def tL33 : List (Nat × gStp) := [(1241, i_aload 1 1242), (1242, i_aload 0 1243), (1243, i_iload 3 1244), (1244, i_push (.int 1) 1245), (1245, i_ii (fun x y => x + y) 1246), (1247, i_aload 0 1248), (1248, i_iload 3 1249), (1249, i_push (.int 2) 1250), (1250, i_ii (fun x y => x + y) 1251), (1255, i_aload 2 1256), (1256, i_aload 0 1257), (1257, i_iload 3 1258), (1258, i_push (.int 1) 1259), (1259, i_ii (fun x y => x + y) 1260), (1261, i_aload 0 1262), (1262, i_iload 3 1263), (1263, i_push (.int 2) 1264), (1264, i_ii (fun x y => x + y) 1265), (1269, i_ic_eq 2300 1272), (1272, i_push (.int 0) 1273)]
set_option maxRecDepth 100000 in
theorem okL33 : gOk YL tL33 := ok_c (sn_aload_n (show decode code 1241 = .ok (.aload_n 1, 1) by decide +kernel) rfl) <|
  ok_c (sn_aload_n (show decode code 1242 = .ok (.aload_n 0, 1) by decide +kernel) rfl) <|
  ok_c (sn_iload_n (show decode code 1243 = .ok (.iload_n 3, 1) by decide +kernel) rfl) <|
  ok_c (sn_iconst (v := 1) (show decode code 1244 = .ok (.iconst 1, 1) by decide +kernel) (by decide +kernel)) <|
  ok_c (sn_iadd (show decode code 1245 = .ok (.iadd, 1) by decide +kernel)) <|
  ok_c (sn_aload_n (show decode code 1247 = .ok (.aload_n 0, 1) by decide +kernel) rfl) <|
  ok_c (sn_iload_n (show decode code 1248 = .ok (.iload_n 3, 1) by decide +kernel) rfl) <|
  ok_c (sn_iconst (v := 2) (show decode code 1249 = .ok (.iconst 2, 1) by decide +kernel) (by decide +kernel)) <|
  ok_c (sn_iadd (show decode code 1250 = .ok (.iadd, 1) by decide +kernel)) <|
  ok_c (sn_aload_n (show decode code 1255 = .ok (.aload_n 2, 1) by decide +kernel) rfl) <|
  ok_c (sn_aload_n (show decode code 1256 = .ok (.aload_n 0, 1) by decide +kernel) rfl) <|
  ok_c (sn_iload_n (show decode code 1257 = .ok (.iload_n 3, 1) by decide +kernel) rfl) <|
  ok_c (sn_iconst (v := 1) (show decode code 1258 = .ok (.iconst 1, 1) by decide +kernel) (by decide +kernel)) <|
  ok_c (sn_iadd (show decode code 1259 = .ok (.iadd, 1) by decide +kernel)) <|
  ok_c (sn_aload_n (show decode code 1261 = .ok (.aload_n 0, 1) by decide +kernel) rfl) <|
  ok_c (sn_iload_n (show decode code 1262 = .ok (.iload_n 3, 1) by decide +kernel) rfl) <|
  ok_c (sn_iconst (v := 2) (show decode code 1263 = .ok (.iconst 2, 1) by decide +kernel) (by decide +kernel)) <|
  ok_c (sn_iadd (show decode code 1264 = .ok (.iadd, 1) by decide +kernel)) <|
  ok_c (sn_ic_eq (show decode code 1269 = .ok (.if_icmp .eq 1031, 3) by decide +kernel) (by decide)) <|
  ok_c (sn_iconst (v := 0) (show decode code 1272 = .ok (.iconst 0, 1) by decide +kernel) (by decide +kernel)) <|
  ok_n
def uL33 : gCT := [(1252, YX8_leave, 3, some 8), (1266, YX9_leave, 3, some 9)]
set_option maxRecDepth 100000 in
theorem ocL33 : gOkC YL uL33 := oc_c (gEdge_V cal_X8_leave ck_8 rfl (show decode code 1252 = .ok (.invokevirtual 150, 3) by decide +kernel) wd_4_170 wd_4_171 wd_4_172) <|
  oc_c (gEdge_V cal_X9_leave ck_9 rfl (show decode code 1266 = .ok (.invokevirtual 153, 3) by decide +kernel) wd_8_110 wd_8_111 wd_8_112) <|
  oc_n
set_option maxRecDepth 20000 in
theorem lc_33 (C : vCx p s m args c cells slots G b Ln xs) {i : Nat} (hin : ∀ k, k < 6 → vp_in (nI i + nI k) Ln) {M : gMem} (hI : INV M) (kk : ∀ M', INV M' → gV p l e s m args below meth c cells slots Q G 2300 (vLw (nI i)) [] M') : gV p l e s m args below meth c cells slots Q G 1241 (vLw (nI i)) [] M := by
  obtain ⟨r, K, h1, h2, h3⟩ := S_leave ((xs (nI i + 1).toNatClampNeg)) ((xs (nI i + 2).toNatClampNeg)) M hI
  refine v_rn okL33 C 5 (pc' := 1246) (L' := vLw (nI i)) (S' := [.int (nI i + 1), .ref 960, .ref 0]) (M' := M) rfl ?_
  refine v_sld C (hin 1 (by omega)) (show decode code 1246 = .ok (.iaload, 1) by decide +kernel) ?_
  refine v_rn okL33 C 4 (pc' := 1251) (L' := vLw (nI i)) (S' := [.int (nI i + 2), .ref 960, .int (xs (nI i + 1).toNatClampNeg), .ref 0]) (M' := M) rfl ?_
  refine v_sld C (hin 2 (by omega)) (show decode code 1251 = .ok (.iaload, 1) by decide +kernel) ?_
  refine v_call ocL33 C rfl rfl (gOb_c rfl) rfl (SX8_leave ((xs (nI i + 1).toNatClampNeg)) ((xs (nI i + 2).toNatClampNeg)) M h1) (by decide) ?_
  refine v_rn okL33 C 5 (pc' := 1260) (L' := vLw (nI i)) (S' := [.int (nI i + 1), .ref 960, .ref 141, .int r]) (M' := M) rfl ?_
  refine v_sld C (hin 1 (by omega)) (show decode code 1260 = .ok (.iaload, 1) by decide +kernel) ?_
  refine v_rn okL33 C 4 (pc' := 1265) (L' := vLw (nI i)) (S' := [.int (nI i + 2), .ref 960, .int (xs (nI i + 1).toNatClampNeg), .ref 141, .int r]) (M' := M) rfl ?_
  refine v_sld C (hin 2 (by omega)) (show decode code 1265 = .ok (.iaload, 1) by decide +kernel) ?_
  refine v_call ocL33 C rfl rfl (gOb_c rfl) rfl (SX9_leave ((xs (nI i + 1).toNatClampNeg)) ((xs (nI i + 2).toNatClampNeg)) M h2) (by decide) ?_
  refine v_eq okL33 C (t := 2300) rfl ?_
  exact kk K h3
def tL34 : List (Nat × gStp) := [(1274, i_aload 1 1275), (1275, i_aload 0 1276), (1276, i_iload 3 1277), (1277, i_push (.int 1) 1278), (1278, i_ii (fun x y => x + y) 1279), (1280, i_aload 0 1281), (1281, i_iload 3 1282), (1282, i_push (.int 2) 1283), (1283, i_ii (fun x y => x + y) 1284), (1288, i_aload 2 1289), (1289, i_aload 0 1290), (1290, i_iload 3 1291), (1291, i_push (.int 1) 1292), (1292, i_ii (fun x y => x + y) 1293), (1294, i_aload 0 1295), (1295, i_iload 3 1296), (1296, i_push (.int 2) 1297), (1297, i_ii (fun x y => x + y) 1298), (1302, i_ic_eq 2300 1305), (1305, i_push (.int 0) 1306)]
set_option maxRecDepth 100000 in
theorem okL34 : gOk YL tL34 := ok_c (sn_aload_n (show decode code 1274 = .ok (.aload_n 1, 1) by decide +kernel) rfl) <|
  ok_c (sn_aload_n (show decode code 1275 = .ok (.aload_n 0, 1) by decide +kernel) rfl) <|
  ok_c (sn_iload_n (show decode code 1276 = .ok (.iload_n 3, 1) by decide +kernel) rfl) <|
  ok_c (sn_iconst (v := 1) (show decode code 1277 = .ok (.iconst 1, 1) by decide +kernel) (by decide +kernel)) <|
  ok_c (sn_iadd (show decode code 1278 = .ok (.iadd, 1) by decide +kernel)) <|
  ok_c (sn_aload_n (show decode code 1280 = .ok (.aload_n 0, 1) by decide +kernel) rfl) <|
  ok_c (sn_iload_n (show decode code 1281 = .ok (.iload_n 3, 1) by decide +kernel) rfl) <|
  ok_c (sn_iconst (v := 2) (show decode code 1282 = .ok (.iconst 2, 1) by decide +kernel) (by decide +kernel)) <|
  ok_c (sn_iadd (show decode code 1283 = .ok (.iadd, 1) by decide +kernel)) <|
  ok_c (sn_aload_n (show decode code 1288 = .ok (.aload_n 2, 1) by decide +kernel) rfl) <|
  ok_c (sn_aload_n (show decode code 1289 = .ok (.aload_n 0, 1) by decide +kernel) rfl) <|
  ok_c (sn_iload_n (show decode code 1290 = .ok (.iload_n 3, 1) by decide +kernel) rfl) <|
  ok_c (sn_iconst (v := 1) (show decode code 1291 = .ok (.iconst 1, 1) by decide +kernel) (by decide +kernel)) <|
  ok_c (sn_iadd (show decode code 1292 = .ok (.iadd, 1) by decide +kernel)) <|
  ok_c (sn_aload_n (show decode code 1294 = .ok (.aload_n 0, 1) by decide +kernel) rfl) <|
  ok_c (sn_iload_n (show decode code 1295 = .ok (.iload_n 3, 1) by decide +kernel) rfl) <|
  ok_c (sn_iconst (v := 2) (show decode code 1296 = .ok (.iconst 2, 1) by decide +kernel) (by decide +kernel)) <|
  ok_c (sn_iadd (show decode code 1297 = .ok (.iadd, 1) by decide +kernel)) <|
  ok_c (sn_ic_eq (show decode code 1302 = .ok (.if_icmp .eq 998, 3) by decide +kernel) (by decide)) <|
  ok_c (sn_iconst (v := 0) (show decode code 1305 = .ok (.iconst 0, 1) by decide +kernel) (by decide +kernel)) <|
  ok_n
def uL34 : gCT := [(1285, YX8_snips, 3, some 8), (1299, YX9_snips, 3, some 9)]
set_option maxRecDepth 100000 in
theorem ocL34 : gOkC YL uL34 := oc_c (gEdge_V cal_X8_snips ck_8 rfl (show decode code 1285 = .ok (.invokevirtual 154, 3) by decide +kernel) wd_4_174 wd_4_175 wd_4_176) <|
  oc_c (gEdge_V cal_X9_snips ck_9 rfl (show decode code 1299 = .ok (.invokevirtual 157, 3) by decide +kernel) wd_8_114 wd_8_115 wd_8_116) <|
  oc_n
set_option maxRecDepth 20000 in
theorem lc_34 (C : vCx p s m args c cells slots G b Ln xs) {i : Nat} (hin : ∀ k, k < 6 → vp_in (nI i + nI k) Ln) {M : gMem} (hI : INV M) (kk : ∀ M', INV M' → gV p l e s m args below meth c cells slots Q G 2300 (vLw (nI i)) [] M') : gV p l e s m args below meth c cells slots Q G 1274 (vLw (nI i)) [] M := by
  obtain ⟨r, N, K, h1, h2, h3⟩ := S_snips ((xs (nI i + 1).toNatClampNeg)) ((xs (nI i + 2).toNatClampNeg)) M hI
  refine v_rn okL34 C 5 (pc' := 1279) (L' := vLw (nI i)) (S' := [.int (nI i + 1), .ref 960, .ref 0]) (M' := M) rfl ?_
  refine v_sld C (hin 1 (by omega)) (show decode code 1279 = .ok (.iaload, 1) by decide +kernel) ?_
  refine v_rn okL34 C 4 (pc' := 1284) (L' := vLw (nI i)) (S' := [.int (nI i + 2), .ref 960, .int (xs (nI i + 1).toNatClampNeg), .ref 0]) (M' := M) rfl ?_
  refine v_sld C (hin 2 (by omega)) (show decode code 1284 = .ok (.iaload, 1) by decide +kernel) ?_
  refine v_call ocL34 C rfl rfl (gOb_c rfl) rfl (SX8_snips ((xs (nI i + 1).toNatClampNeg)) ((xs (nI i + 2).toNatClampNeg)) M h1) (by decide) ?_
  refine v_rn okL34 C 5 (pc' := 1293) (L' := vLw (nI i)) (S' := [.int (nI i + 1), .ref 960, .ref 141, .int r]) (M' := N) rfl ?_
  refine v_sld C (hin 1 (by omega)) (show decode code 1293 = .ok (.iaload, 1) by decide +kernel) ?_
  refine v_rn okL34 C 4 (pc' := 1298) (L' := vLw (nI i)) (S' := [.int (nI i + 2), .ref 960, .int (xs (nI i + 1).toNatClampNeg), .ref 141, .int r]) (M' := N) rfl ?_
  refine v_sld C (hin 2 (by omega)) (show decode code 1298 = .ok (.iaload, 1) by decide +kernel) ?_
  refine v_call ocL34 C rfl rfl (gOb_c rfl) rfl (SX9_snips ((xs (nI i + 1).toNatClampNeg)) ((xs (nI i + 2).toNatClampNeg)) N h2) (by decide) ?_
  refine v_eq okL34 C (t := 2300) rfl ?_
  exact kk K h3
def tL35 : List (Nat × gStp) := [(1307, i_aload 1 1308), (1308, i_aload 0 1309), (1309, i_iload 3 1310), (1310, i_push (.int 1) 1311), (1311, i_ii (fun x y => x + y) 1312), (1313, i_aload 0 1314), (1314, i_iload 3 1315), (1315, i_push (.int 2) 1316), (1316, i_ii (fun x y => x + y) 1317), (1321, i_aload 2 1322), (1322, i_aload 0 1323), (1323, i_iload 3 1324), (1324, i_push (.int 1) 1325), (1325, i_ii (fun x y => x + y) 1326), (1327, i_aload 0 1328), (1328, i_iload 3 1329), (1329, i_push (.int 2) 1330), (1330, i_ii (fun x y => x + y) 1331), (1335, i_ic_eq 2300 1338), (1338, i_push (.int 0) 1339)]
set_option maxRecDepth 100000 in
theorem okL35 : gOk YL tL35 := ok_c (sn_aload_n (show decode code 1307 = .ok (.aload_n 1, 1) by decide +kernel) rfl) <|
  ok_c (sn_aload_n (show decode code 1308 = .ok (.aload_n 0, 1) by decide +kernel) rfl) <|
  ok_c (sn_iload_n (show decode code 1309 = .ok (.iload_n 3, 1) by decide +kernel) rfl) <|
  ok_c (sn_iconst (v := 1) (show decode code 1310 = .ok (.iconst 1, 1) by decide +kernel) (by decide +kernel)) <|
  ok_c (sn_iadd (show decode code 1311 = .ok (.iadd, 1) by decide +kernel)) <|
  ok_c (sn_aload_n (show decode code 1313 = .ok (.aload_n 0, 1) by decide +kernel) rfl) <|
  ok_c (sn_iload_n (show decode code 1314 = .ok (.iload_n 3, 1) by decide +kernel) rfl) <|
  ok_c (sn_iconst (v := 2) (show decode code 1315 = .ok (.iconst 2, 1) by decide +kernel) (by decide +kernel)) <|
  ok_c (sn_iadd (show decode code 1316 = .ok (.iadd, 1) by decide +kernel)) <|
  ok_c (sn_aload_n (show decode code 1321 = .ok (.aload_n 2, 1) by decide +kernel) rfl) <|
  ok_c (sn_aload_n (show decode code 1322 = .ok (.aload_n 0, 1) by decide +kernel) rfl) <|
  ok_c (sn_iload_n (show decode code 1323 = .ok (.iload_n 3, 1) by decide +kernel) rfl) <|
  ok_c (sn_iconst (v := 1) (show decode code 1324 = .ok (.iconst 1, 1) by decide +kernel) (by decide +kernel)) <|
  ok_c (sn_iadd (show decode code 1325 = .ok (.iadd, 1) by decide +kernel)) <|
  ok_c (sn_aload_n (show decode code 1327 = .ok (.aload_n 0, 1) by decide +kernel) rfl) <|
  ok_c (sn_iload_n (show decode code 1328 = .ok (.iload_n 3, 1) by decide +kernel) rfl) <|
  ok_c (sn_iconst (v := 2) (show decode code 1329 = .ok (.iconst 2, 1) by decide +kernel) (by decide +kernel)) <|
  ok_c (sn_iadd (show decode code 1330 = .ok (.iadd, 1) by decide +kernel)) <|
  ok_c (sn_ic_eq (show decode code 1335 = .ok (.if_icmp .eq 965, 3) by decide +kernel) (by decide)) <|
  ok_c (sn_iconst (v := 0) (show decode code 1338 = .ok (.iconst 0, 1) by decide +kernel) (by decide +kernel)) <|
  ok_n
def uL35 : gCT := [(1318, YX8_snipped, 3, some 8), (1332, YX9_snipped, 3, some 9)]
set_option maxRecDepth 100000 in
theorem ocL35 : gOkC YL uL35 := oc_c (gEdge_V cal_X8_snipped ck_8 rfl (show decode code 1318 = .ok (.invokevirtual 158, 3) by decide +kernel) wd_4_186 wd_4_187 wd_4_188) <|
  oc_c (gEdge_V cal_X9_snipped ck_9 rfl (show decode code 1332 = .ok (.invokevirtual 161, 3) by decide +kernel) wd_8_122 wd_8_123 wd_8_124) <|
  oc_n
set_option maxRecDepth 20000 in
theorem lc_35 (C : vCx p s m args c cells slots G b Ln xs) {i : Nat} (hin : ∀ k, k < 6 → vp_in (nI i + nI k) Ln) {M : gMem} (hI : INV M) (kk : ∀ M', INV M' → gV p l e s m args below meth c cells slots Q G 2300 (vLw (nI i)) [] M') : gV p l e s m args below meth c cells slots Q G 1307 (vLw (nI i)) [] M := by
  obtain ⟨r, N, K, h1, h2, h3⟩ := S_snipped ((xs (nI i + 1).toNatClampNeg)) ((xs (nI i + 2).toNatClampNeg)) M hI
  refine v_rn okL35 C 5 (pc' := 1312) (L' := vLw (nI i)) (S' := [.int (nI i + 1), .ref 960, .ref 0]) (M' := M) rfl ?_
  refine v_sld C (hin 1 (by omega)) (show decode code 1312 = .ok (.iaload, 1) by decide +kernel) ?_
  refine v_rn okL35 C 4 (pc' := 1317) (L' := vLw (nI i)) (S' := [.int (nI i + 2), .ref 960, .int (xs (nI i + 1).toNatClampNeg), .ref 0]) (M' := M) rfl ?_
  refine v_sld C (hin 2 (by omega)) (show decode code 1317 = .ok (.iaload, 1) by decide +kernel) ?_
  refine v_call ocL35 C rfl rfl (gOb_c rfl) rfl (SX8_snipped ((xs (nI i + 1).toNatClampNeg)) ((xs (nI i + 2).toNatClampNeg)) M h1) (by decide) ?_
  refine v_rn okL35 C 5 (pc' := 1326) (L' := vLw (nI i)) (S' := [.int (nI i + 1), .ref 960, .ref 141, .int r]) (M' := N) rfl ?_
  refine v_sld C (hin 1 (by omega)) (show decode code 1326 = .ok (.iaload, 1) by decide +kernel) ?_
  refine v_rn okL35 C 4 (pc' := 1331) (L' := vLw (nI i)) (S' := [.int (nI i + 2), .ref 960, .int (xs (nI i + 1).toNatClampNeg), .ref 141, .int r]) (M' := N) rfl ?_
  refine v_sld C (hin 2 (by omega)) (show decode code 1331 = .ok (.iaload, 1) by decide +kernel) ?_
  refine v_call ocL35 C rfl rfl (gOb_c rfl) rfl (SX9_snipped ((xs (nI i + 1).toNatClampNeg)) ((xs (nI i + 2).toNatClampNeg)) N h2) (by decide) ?_
  refine v_eq okL35 C (t := 2300) rfl ?_
  exact kk K h3
def tL36 : List (Nat × gStp) := [(1340, i_aload 1 1341), (1341, i_aload 0 1342), (1342, i_iload 3 1343), (1343, i_push (.int 1) 1344), (1344, i_ii (fun x y => x + y) 1345), (1346, i_aload 0 1347), (1347, i_iload 3 1348), (1348, i_push (.int 2) 1349), (1349, i_ii (fun x y => x + y) 1350), (1354, i_aload 2 1355), (1355, i_aload 0 1356), (1356, i_iload 3 1357), (1357, i_push (.int 1) 1358), (1358, i_ii (fun x y => x + y) 1359), (1360, i_aload 0 1361), (1361, i_iload 3 1362), (1362, i_push (.int 2) 1363), (1363, i_ii (fun x y => x + y) 1364), (1368, i_ic_eq 2300 1371), (1371, i_push (.int 0) 1372)]
set_option maxRecDepth 100000 in
theorem okL36 : gOk YL tL36 := ok_c (sn_aload_n (show decode code 1340 = .ok (.aload_n 1, 1) by decide +kernel) rfl) <|
  ok_c (sn_aload_n (show decode code 1341 = .ok (.aload_n 0, 1) by decide +kernel) rfl) <|
  ok_c (sn_iload_n (show decode code 1342 = .ok (.iload_n 3, 1) by decide +kernel) rfl) <|
  ok_c (sn_iconst (v := 1) (show decode code 1343 = .ok (.iconst 1, 1) by decide +kernel) (by decide +kernel)) <|
  ok_c (sn_iadd (show decode code 1344 = .ok (.iadd, 1) by decide +kernel)) <|
  ok_c (sn_aload_n (show decode code 1346 = .ok (.aload_n 0, 1) by decide +kernel) rfl) <|
  ok_c (sn_iload_n (show decode code 1347 = .ok (.iload_n 3, 1) by decide +kernel) rfl) <|
  ok_c (sn_iconst (v := 2) (show decode code 1348 = .ok (.iconst 2, 1) by decide +kernel) (by decide +kernel)) <|
  ok_c (sn_iadd (show decode code 1349 = .ok (.iadd, 1) by decide +kernel)) <|
  ok_c (sn_aload_n (show decode code 1354 = .ok (.aload_n 2, 1) by decide +kernel) rfl) <|
  ok_c (sn_aload_n (show decode code 1355 = .ok (.aload_n 0, 1) by decide +kernel) rfl) <|
  ok_c (sn_iload_n (show decode code 1356 = .ok (.iload_n 3, 1) by decide +kernel) rfl) <|
  ok_c (sn_iconst (v := 1) (show decode code 1357 = .ok (.iconst 1, 1) by decide +kernel) (by decide +kernel)) <|
  ok_c (sn_iadd (show decode code 1358 = .ok (.iadd, 1) by decide +kernel)) <|
  ok_c (sn_aload_n (show decode code 1360 = .ok (.aload_n 0, 1) by decide +kernel) rfl) <|
  ok_c (sn_iload_n (show decode code 1361 = .ok (.iload_n 3, 1) by decide +kernel) rfl) <|
  ok_c (sn_iconst (v := 2) (show decode code 1362 = .ok (.iconst 2, 1) by decide +kernel) (by decide +kernel)) <|
  ok_c (sn_iadd (show decode code 1363 = .ok (.iadd, 1) by decide +kernel)) <|
  ok_c (sn_ic_eq (show decode code 1368 = .ok (.if_icmp .eq 932, 3) by decide +kernel) (by decide)) <|
  ok_c (sn_iconst (v := 0) (show decode code 1371 = .ok (.iconst 0, 1) by decide +kernel) (by decide +kernel)) <|
  ok_n
def uL36 : gCT := [(1351, YX8_wax, 3, some 8), (1365, YX9_wax, 3, some 9)]
set_option maxRecDepth 100000 in
theorem ocL36 : gOkC YL uL36 := oc_c (gEdge_V cal_X8_wax ck_8 rfl (show decode code 1351 = .ok (.invokevirtual 162, 3) by decide +kernel) wd_4_190 wd_4_191 wd_4_192) <|
  oc_c (gEdge_V cal_X9_wax ck_9 rfl (show decode code 1365 = .ok (.invokevirtual 165, 3) by decide +kernel) wd_8_126 wd_8_127 wd_8_128) <|
  oc_n
set_option maxRecDepth 20000 in
theorem lc_36 (C : vCx p s m args c cells slots G b Ln xs) {i : Nat} (hin : ∀ k, k < 6 → vp_in (nI i + nI k) Ln) {M : gMem} (hI : INV M) (kk : ∀ M', INV M' → gV p l e s m args below meth c cells slots Q G 2300 (vLw (nI i)) [] M') : gV p l e s m args below meth c cells slots Q G 1340 (vLw (nI i)) [] M := by
  obtain ⟨r, N, K, h1, h2, h3⟩ := S_wax ((xs (nI i + 1).toNatClampNeg)) ((xs (nI i + 2).toNatClampNeg)) M hI
  refine v_rn okL36 C 5 (pc' := 1345) (L' := vLw (nI i)) (S' := [.int (nI i + 1), .ref 960, .ref 0]) (M' := M) rfl ?_
  refine v_sld C (hin 1 (by omega)) (show decode code 1345 = .ok (.iaload, 1) by decide +kernel) ?_
  refine v_rn okL36 C 4 (pc' := 1350) (L' := vLw (nI i)) (S' := [.int (nI i + 2), .ref 960, .int (xs (nI i + 1).toNatClampNeg), .ref 0]) (M' := M) rfl ?_
  refine v_sld C (hin 2 (by omega)) (show decode code 1350 = .ok (.iaload, 1) by decide +kernel) ?_
  refine v_call ocL36 C rfl rfl (gOb_c rfl) rfl (SX8_wax ((xs (nI i + 1).toNatClampNeg)) ((xs (nI i + 2).toNatClampNeg)) M h1) (by decide) ?_
  refine v_rn okL36 C 5 (pc' := 1359) (L' := vLw (nI i)) (S' := [.int (nI i + 1), .ref 960, .ref 141, .int r]) (M' := N) rfl ?_
  refine v_sld C (hin 1 (by omega)) (show decode code 1359 = .ok (.iaload, 1) by decide +kernel) ?_
  refine v_rn okL36 C 4 (pc' := 1364) (L' := vLw (nI i)) (S' := [.int (nI i + 2), .ref 960, .int (xs (nI i + 1).toNatClampNeg), .ref 141, .int r]) (M' := N) rfl ?_
  refine v_sld C (hin 2 (by omega)) (show decode code 1364 = .ok (.iaload, 1) by decide +kernel) ?_
  refine v_call ocL36 C rfl rfl (gOb_c rfl) rfl (SX9_wax ((xs (nI i + 1).toNatClampNeg)) ((xs (nI i + 2).toNatClampNeg)) N h2) (by decide) ?_
  refine v_eq okL36 C (t := 2300) rfl ?_
  exact kk K h3
def tL37 : List (Nat × gStp) := [(1373, i_aload 1 1374), (1374, i_aload 0 1375), (1375, i_iload 3 1376), (1376, i_push (.int 1) 1377), (1377, i_ii (fun x y => x + y) 1378), (1382, i_aload 2 1383), (1383, i_aload 0 1384), (1384, i_iload 3 1385), (1385, i_push (.int 1) 1386), (1386, i_ii (fun x y => x + y) 1387), (1391, i_ic_eq 2300 1394), (1394, i_push (.int 0) 1395)]
set_option maxRecDepth 100000 in
theorem okL37 : gOk YL tL37 := ok_c (sn_aload_n (show decode code 1373 = .ok (.aload_n 1, 1) by decide +kernel) rfl) <|
  ok_c (sn_aload_n (show decode code 1374 = .ok (.aload_n 0, 1) by decide +kernel) rfl) <|
  ok_c (sn_iload_n (show decode code 1375 = .ok (.iload_n 3, 1) by decide +kernel) rfl) <|
  ok_c (sn_iconst (v := 1) (show decode code 1376 = .ok (.iconst 1, 1) by decide +kernel) (by decide +kernel)) <|
  ok_c (sn_iadd (show decode code 1377 = .ok (.iadd, 1) by decide +kernel)) <|
  ok_c (sn_aload_n (show decode code 1382 = .ok (.aload_n 2, 1) by decide +kernel) rfl) <|
  ok_c (sn_aload_n (show decode code 1383 = .ok (.aload_n 0, 1) by decide +kernel) rfl) <|
  ok_c (sn_iload_n (show decode code 1384 = .ok (.iload_n 3, 1) by decide +kernel) rfl) <|
  ok_c (sn_iconst (v := 1) (show decode code 1385 = .ok (.iconst 1, 1) by decide +kernel) (by decide +kernel)) <|
  ok_c (sn_iadd (show decode code 1386 = .ok (.iadd, 1) by decide +kernel)) <|
  ok_c (sn_ic_eq (show decode code 1391 = .ok (.if_icmp .eq 909, 3) by decide +kernel) (by decide)) <|
  ok_c (sn_iconst (v := 0) (show decode code 1394 = .ok (.iconst 0, 1) by decide +kernel) (by decide +kernel)) <|
  ok_n
def uL37 : gCT := [(1379, YX8_guards, 2, some 8), (1388, YX9_guards, 2, some 9)]
set_option maxRecDepth 100000 in
theorem ocL37 : gOkC YL uL37 := oc_c (gEdge_V cal_X8_guards ck_8 rfl (show decode code 1379 = .ok (.invokevirtual 166, 3) by decide +kernel) wd_4_198 wd_4_199 wd_4_200) <|
  oc_c (gEdge_V cal_X9_guards ck_9 rfl (show decode code 1388 = .ok (.invokevirtual 169, 3) by decide +kernel) wd_8_130 wd_8_131 wd_8_132) <|
  oc_n
set_option maxRecDepth 20000 in
theorem lc_37 (C : vCx p s m args c cells slots G b Ln xs) {i : Nat} (hin : ∀ k, k < 6 → vp_in (nI i + nI k) Ln) {M : gMem} (hI : INV M) (kk : ∀ M', INV M' → gV p l e s m args below meth c cells slots Q G 2300 (vLw (nI i)) [] M') : gV p l e s m args below meth c cells slots Q G 1373 (vLw (nI i)) [] M := by
  obtain ⟨r, N, K, h1, h2, h3⟩ := S_guards ((xs (nI i + 1).toNatClampNeg)) M hI
  refine v_rn okL37 C 5 (pc' := 1378) (L' := vLw (nI i)) (S' := [.int (nI i + 1), .ref 960, .ref 0]) (M' := M) rfl ?_
  refine v_sld C (hin 1 (by omega)) (show decode code 1378 = .ok (.iaload, 1) by decide +kernel) ?_
  refine v_call ocL37 C rfl rfl (gOb_c rfl) rfl (SX8_guards ((xs (nI i + 1).toNatClampNeg)) M h1) (by decide) ?_
  refine v_rn okL37 C 5 (pc' := 1387) (L' := vLw (nI i)) (S' := [.int (nI i + 1), .ref 960, .ref 141, .int r]) (M' := N) rfl ?_
  refine v_sld C (hin 1 (by omega)) (show decode code 1387 = .ok (.iaload, 1) by decide +kernel) ?_
  refine v_call ocL37 C rfl rfl (gOb_c rfl) rfl (SX9_guards ((xs (nI i + 1).toNatClampNeg)) N h2) (by decide) ?_
  refine v_eq okL37 C (t := 2300) rfl ?_
  exact kk K h3
def tL38 : List (Nat × gStp) := [(1396, i_aload 1 1397), (1397, i_aload 0 1398), (1398, i_iload 3 1399), (1399, i_push (.int 1) 1400), (1400, i_ii (fun x y => x + y) 1401), (1405, i_aload 2 1406), (1406, i_aload 0 1407), (1407, i_iload 3 1408), (1408, i_push (.int 1) 1409), (1409, i_ii (fun x y => x + y) 1410), (1414, i_ic_eq 2300 1417), (1417, i_push (.int 0) 1418)]
set_option maxRecDepth 100000 in
theorem okL38 : gOk YL tL38 := ok_c (sn_aload_n (show decode code 1396 = .ok (.aload_n 1, 1) by decide +kernel) rfl) <|
  ok_c (sn_aload_n (show decode code 1397 = .ok (.aload_n 0, 1) by decide +kernel) rfl) <|
  ok_c (sn_iload_n (show decode code 1398 = .ok (.iload_n 3, 1) by decide +kernel) rfl) <|
  ok_c (sn_iconst (v := 1) (show decode code 1399 = .ok (.iconst 1, 1) by decide +kernel) (by decide +kernel)) <|
  ok_c (sn_iadd (show decode code 1400 = .ok (.iadd, 1) by decide +kernel)) <|
  ok_c (sn_aload_n (show decode code 1405 = .ok (.aload_n 2, 1) by decide +kernel) rfl) <|
  ok_c (sn_aload_n (show decode code 1406 = .ok (.aload_n 0, 1) by decide +kernel) rfl) <|
  ok_c (sn_iload_n (show decode code 1407 = .ok (.iload_n 3, 1) by decide +kernel) rfl) <|
  ok_c (sn_iconst (v := 1) (show decode code 1408 = .ok (.iconst 1, 1) by decide +kernel) (by decide +kernel)) <|
  ok_c (sn_iadd (show decode code 1409 = .ok (.iadd, 1) by decide +kernel)) <|
  ok_c (sn_ic_eq (show decode code 1414 = .ok (.if_icmp .eq 886, 3) by decide +kernel) (by decide)) <|
  ok_c (sn_iconst (v := 0) (show decode code 1417 = .ok (.iconst 0, 1) by decide +kernel) (by decide +kernel)) <|
  ok_n
def uL38 : gCT := [(1402, YX8_guarded, 2, some 8), (1411, YX9_guarded, 2, some 9)]
set_option maxRecDepth 100000 in
theorem ocL38 : gOkC YL uL38 := oc_c (gEdge_V cal_X8_guarded ck_8 rfl (show decode code 1402 = .ok (.invokevirtual 170, 3) by decide +kernel) wd_4_210 wd_4_211 wd_4_212) <|
  oc_c (gEdge_V cal_X9_guarded ck_9 rfl (show decode code 1411 = .ok (.invokevirtual 173, 3) by decide +kernel) wd_8_138 wd_8_139 wd_8_140) <|
  oc_n
set_option maxRecDepth 20000 in
theorem lc_38 (C : vCx p s m args c cells slots G b Ln xs) {i : Nat} (hin : ∀ k, k < 6 → vp_in (nI i + nI k) Ln) {M : gMem} (hI : INV M) (kk : ∀ M', INV M' → gV p l e s m args below meth c cells slots Q G 2300 (vLw (nI i)) [] M') : gV p l e s m args below meth c cells slots Q G 1396 (vLw (nI i)) [] M := by
  obtain ⟨r, N, K, h1, h2, h3⟩ := S_guarded ((xs (nI i + 1).toNatClampNeg)) M hI
  refine v_rn okL38 C 5 (pc' := 1401) (L' := vLw (nI i)) (S' := [.int (nI i + 1), .ref 960, .ref 0]) (M' := M) rfl ?_
  refine v_sld C (hin 1 (by omega)) (show decode code 1401 = .ok (.iaload, 1) by decide +kernel) ?_
  refine v_call ocL38 C rfl rfl (gOb_c rfl) rfl (SX8_guarded ((xs (nI i + 1).toNatClampNeg)) M h1) (by decide) ?_
  refine v_rn okL38 C 5 (pc' := 1410) (L' := vLw (nI i)) (S' := [.int (nI i + 1), .ref 960, .ref 141, .int r]) (M' := N) rfl ?_
  refine v_sld C (hin 1 (by omega)) (show decode code 1410 = .ok (.iaload, 1) by decide +kernel) ?_
  refine v_call ocL38 C rfl rfl (gOb_c rfl) rfl (SX9_guarded ((xs (nI i + 1).toNatClampNeg)) N h2) (by decide) ?_
  refine v_eq okL38 C (t := 2300) rfl ?_
  exact kk K h3
def tL39 : List (Nat × gStp) := [(1419, i_aload 1 1420), (1423, i_aload 2 1424), (1427, i_ic_eq 2300 1430), (1430, i_push (.int 0) 1431)]
set_option maxRecDepth 100000 in
theorem okL39 : gOk YL tL39 := ok_c (sn_aload_n (show decode code 1419 = .ok (.aload_n 1, 1) by decide +kernel) rfl) <|
  ok_c (sn_aload_n (show decode code 1423 = .ok (.aload_n 2, 1) by decide +kernel) rfl) <|
  ok_c (sn_ic_eq (show decode code 1427 = .ok (.if_icmp .eq 873, 3) by decide +kernel) (by decide)) <|
  ok_c (sn_iconst (v := 0) (show decode code 1430 = .ok (.iconst 0, 1) by decide +kernel) (by decide +kernel)) <|
  ok_n
def uL39 : gCT := [(1420, YX8_sneezer, 1, some 8), (1424, YX9_sneezer, 1, some 9)]
set_option maxRecDepth 100000 in
theorem ocL39 : gOkC YL uL39 := oc_c (gEdge_V cal_X8_sneezer ck_8 rfl (show decode code 1420 = .ok (.invokevirtual 174, 3) by decide +kernel) wd_4_214 wd_4_215 wd_4_216) <|
  oc_c (gEdge_V cal_X9_sneezer ck_9 rfl (show decode code 1424 = .ok (.invokevirtual 177, 3) by decide +kernel) wd_8_142 wd_8_143 wd_8_144) <|
  oc_n
set_option maxRecDepth 20000 in
theorem lc_39 (C : vCx p s m args c cells slots G b Ln xs) {i : Nat} (hin : ∀ k, k < 6 → vp_in (nI i + nI k) Ln) {M : gMem} (hI : INV M) (kk : ∀ M', INV M' → gV p l e s m args below meth c cells slots Q G 2300 (vLw (nI i)) [] M') : gV p l e s m args below meth c cells slots Q G 1419 (vLw (nI i)) [] M := by
  obtain ⟨r, N, K, h1, h2, h3⟩ := S_sneezer M hI
  refine v_rn okL39 C 1 (pc' := 1420) (L' := vLw (nI i)) (S' := [.ref 0]) (M' := M) rfl ?_
  refine v_call ocL39 C rfl rfl (gOb_c rfl) rfl (SX8_sneezer M h1) (by decide) ?_
  refine v_rn okL39 C 1 (pc' := 1424) (L' := vLw (nI i)) (S' := [.ref 141, .int r]) (M' := N) rfl ?_
  refine v_call ocL39 C rfl rfl (gOb_c rfl) rfl (SX9_sneezer N h2) (by decide) ?_
  refine v_eq okL39 C (t := 2300) rfl ?_
  exact kk K h3
def tL40 : List (Nat × gStp) := [(1432, i_aload 1 1433), (1433, i_aload 0 1434), (1434, i_iload 3 1435), (1435, i_push (.int 1) 1436), (1436, i_ii (fun x y => x + y) 1437), (1441, i_aload 2 1442), (1442, i_aload 0 1443), (1443, i_iload 3 1444), (1444, i_push (.int 1) 1445), (1445, i_ii (fun x y => x + y) 1446), (1450, i_ic_eq 2300 1453), (1453, i_push (.int 0) 1454)]
set_option maxRecDepth 100000 in
theorem okL40 : gOk YL tL40 := ok_c (sn_aload_n (show decode code 1432 = .ok (.aload_n 1, 1) by decide +kernel) rfl) <|
  ok_c (sn_aload_n (show decode code 1433 = .ok (.aload_n 0, 1) by decide +kernel) rfl) <|
  ok_c (sn_iload_n (show decode code 1434 = .ok (.iload_n 3, 1) by decide +kernel) rfl) <|
  ok_c (sn_iconst (v := 1) (show decode code 1435 = .ok (.iconst 1, 1) by decide +kernel) (by decide +kernel)) <|
  ok_c (sn_iadd (show decode code 1436 = .ok (.iadd, 1) by decide +kernel)) <|
  ok_c (sn_aload_n (show decode code 1441 = .ok (.aload_n 2, 1) by decide +kernel) rfl) <|
  ok_c (sn_aload_n (show decode code 1442 = .ok (.aload_n 0, 1) by decide +kernel) rfl) <|
  ok_c (sn_iload_n (show decode code 1443 = .ok (.iload_n 3, 1) by decide +kernel) rfl) <|
  ok_c (sn_iconst (v := 1) (show decode code 1444 = .ok (.iconst 1, 1) by decide +kernel) (by decide +kernel)) <|
  ok_c (sn_iadd (show decode code 1445 = .ok (.iadd, 1) by decide +kernel)) <|
  ok_c (sn_ic_eq (show decode code 1450 = .ok (.if_icmp .eq 850, 3) by decide +kernel) (by decide)) <|
  ok_c (sn_iconst (v := 0) (show decode code 1453 = .ok (.iconst 0, 1) by decide +kernel) (by decide +kernel)) <|
  ok_n
def uL40 : gCT := [(1438, YX8_trues, 2, some 8), (1447, YX9_trues, 2, some 9)]
set_option maxRecDepth 100000 in
theorem ocL40 : gOkC YL uL40 := oc_c (gEdge_V cal_X8_trues ck_8 rfl (show decode code 1438 = .ok (.invokevirtual 178, 3) by decide +kernel) wd_4_218 wd_4_219 wd_4_220) <|
  oc_c (gEdge_V cal_X9_trues ck_9 rfl (show decode code 1447 = .ok (.invokevirtual 181, 3) by decide +kernel) wd_8_150 wd_8_151 wd_8_152) <|
  oc_n
set_option maxRecDepth 20000 in
theorem lc_40 (C : vCx p s m args c cells slots G b Ln xs) {i : Nat} (hin : ∀ k, k < 6 → vp_in (nI i + nI k) Ln) {M : gMem} (hI : INV M) (kk : ∀ M', INV M' → gV p l e s m args below meth c cells slots Q G 2300 (vLw (nI i)) [] M') : gV p l e s m args below meth c cells slots Q G 1432 (vLw (nI i)) [] M := by
  obtain ⟨r, N, K, h1, h2, h3⟩ := S_trues ((xs (nI i + 1).toNatClampNeg)) M hI
  refine v_rn okL40 C 5 (pc' := 1437) (L' := vLw (nI i)) (S' := [.int (nI i + 1), .ref 960, .ref 0]) (M' := M) rfl ?_
  refine v_sld C (hin 1 (by omega)) (show decode code 1437 = .ok (.iaload, 1) by decide +kernel) ?_
  refine v_call ocL40 C rfl rfl (gOb_c rfl) rfl (SX8_trues ((xs (nI i + 1).toNatClampNeg)) M h1) (by decide) ?_
  refine v_rn okL40 C 5 (pc' := 1446) (L' := vLw (nI i)) (S' := [.int (nI i + 1), .ref 960, .ref 141, .int r]) (M' := N) rfl ?_
  refine v_sld C (hin 1 (by omega)) (show decode code 1446 = .ok (.iaload, 1) by decide +kernel) ?_
  refine v_call ocL40 C rfl rfl (gOb_c rfl) rfl (SX9_trues ((xs (nI i + 1).toNatClampNeg)) N h2) (by decide) ?_
  refine v_eq okL40 C (t := 2300) rfl ?_
  exact kk K h3
def tL41 : List (Nat × gStp) := [(1455, i_aload 1 1456), (1456, i_aload 0 1457), (1457, i_iload 3 1458), (1458, i_push (.int 1) 1459), (1459, i_ii (fun x y => x + y) 1460), (1464, i_aload 2 1465), (1465, i_aload 0 1466), (1466, i_iload 3 1467), (1467, i_push (.int 1) 1468), (1468, i_ii (fun x y => x + y) 1469), (1473, i_ic_eq 2300 1476), (1476, i_push (.int 0) 1477)]
set_option maxRecDepth 100000 in
theorem okL41 : gOk YL tL41 := ok_c (sn_aload_n (show decode code 1455 = .ok (.aload_n 1, 1) by decide +kernel) rfl) <|
  ok_c (sn_aload_n (show decode code 1456 = .ok (.aload_n 0, 1) by decide +kernel) rfl) <|
  ok_c (sn_iload_n (show decode code 1457 = .ok (.iload_n 3, 1) by decide +kernel) rfl) <|
  ok_c (sn_iconst (v := 1) (show decode code 1458 = .ok (.iconst 1, 1) by decide +kernel) (by decide +kernel)) <|
  ok_c (sn_iadd (show decode code 1459 = .ok (.iadd, 1) by decide +kernel)) <|
  ok_c (sn_aload_n (show decode code 1464 = .ok (.aload_n 2, 1) by decide +kernel) rfl) <|
  ok_c (sn_aload_n (show decode code 1465 = .ok (.aload_n 0, 1) by decide +kernel) rfl) <|
  ok_c (sn_iload_n (show decode code 1466 = .ok (.iload_n 3, 1) by decide +kernel) rfl) <|
  ok_c (sn_iconst (v := 1) (show decode code 1467 = .ok (.iconst 1, 1) by decide +kernel) (by decide +kernel)) <|
  ok_c (sn_iadd (show decode code 1468 = .ok (.iadd, 1) by decide +kernel)) <|
  ok_c (sn_ic_eq (show decode code 1473 = .ok (.if_icmp .eq 827, 3) by decide +kernel) (by decide)) <|
  ok_c (sn_iconst (v := 0) (show decode code 1476 = .ok (.iconst 0, 1) by decide +kernel) (by decide +kernel)) <|
  ok_n
def uL41 : gCT := [(1461, YX8_surely, 2, some 8), (1470, YX9_surely, 2, some 9)]
set_option maxRecDepth 100000 in
theorem ocL41 : gOkC YL uL41 := oc_c (gEdge_V cal_X8_surely ck_8 rfl (show decode code 1461 = .ok (.invokevirtual 182, 3) by decide +kernel) wd_5_14 wd_5_15 wd_5_16) <|
  oc_c (gEdge_V cal_X9_surely ck_9 rfl (show decode code 1470 = .ok (.invokevirtual 185, 3) by decide +kernel) wd_8_170 wd_8_171 wd_8_172) <|
  oc_n
set_option maxRecDepth 20000 in
theorem lc_41 (C : vCx p s m args c cells slots G b Ln xs) {i : Nat} (hin : ∀ k, k < 6 → vp_in (nI i + nI k) Ln) {M : gMem} (hI : INV M) (kk : ∀ M', INV M' → gV p l e s m args below meth c cells slots Q G 2300 (vLw (nI i)) [] M') : gV p l e s m args below meth c cells slots Q G 1455 (vLw (nI i)) [] M := by
  obtain ⟨r, N, K, h1, h2, h3⟩ := S_surely ((xs (nI i + 1).toNatClampNeg)) M hI
  refine v_rn okL41 C 5 (pc' := 1460) (L' := vLw (nI i)) (S' := [.int (nI i + 1), .ref 960, .ref 0]) (M' := M) rfl ?_
  refine v_sld C (hin 1 (by omega)) (show decode code 1460 = .ok (.iaload, 1) by decide +kernel) ?_
  refine v_call ocL41 C rfl rfl (gOb_c rfl) rfl (SX8_surely ((xs (nI i + 1).toNatClampNeg)) M h1) (by decide) ?_
  refine v_rn okL41 C 5 (pc' := 1469) (L' := vLw (nI i)) (S' := [.int (nI i + 1), .ref 960, .ref 141, .int r]) (M' := N) rfl ?_
  refine v_sld C (hin 1 (by omega)) (show decode code 1469 = .ok (.iaload, 1) by decide +kernel) ?_
  refine v_call ocL41 C rfl rfl (gOb_c rfl) rfl (SX9_surely ((xs (nI i + 1).toNatClampNeg)) N h2) (by decide) ?_
  refine v_eq okL41 C (t := 2300) rfl ?_
  exact kk K h3
def tL42 : List (Nat × gStp) := [(1478, i_aload 1 1479), (1479, i_aload 0 1480), (1480, i_iload 3 1481), (1481, i_push (.int 1) 1482), (1482, i_ii (fun x y => x + y) 1483), (1487, i_aload 2 1488), (1488, i_aload 0 1489), (1489, i_iload 3 1490), (1490, i_push (.int 1) 1491), (1491, i_ii (fun x y => x + y) 1492), (1496, i_ic_eq 2300 1499), (1499, i_push (.int 0) 1500)]
set_option maxRecDepth 100000 in
theorem okL42 : gOk YL tL42 := ok_c (sn_aload_n (show decode code 1478 = .ok (.aload_n 1, 1) by decide +kernel) rfl) <|
  ok_c (sn_aload_n (show decode code 1479 = .ok (.aload_n 0, 1) by decide +kernel) rfl) <|
  ok_c (sn_iload_n (show decode code 1480 = .ok (.iload_n 3, 1) by decide +kernel) rfl) <|
  ok_c (sn_iconst (v := 1) (show decode code 1481 = .ok (.iconst 1, 1) by decide +kernel) (by decide +kernel)) <|
  ok_c (sn_iadd (show decode code 1482 = .ok (.iadd, 1) by decide +kernel)) <|
  ok_c (sn_aload_n (show decode code 1487 = .ok (.aload_n 2, 1) by decide +kernel) rfl) <|
  ok_c (sn_aload_n (show decode code 1488 = .ok (.aload_n 0, 1) by decide +kernel) rfl) <|
  ok_c (sn_iload_n (show decode code 1489 = .ok (.iload_n 3, 1) by decide +kernel) rfl) <|
  ok_c (sn_iconst (v := 1) (show decode code 1490 = .ok (.iconst 1, 1) by decide +kernel) (by decide +kernel)) <|
  ok_c (sn_iadd (show decode code 1491 = .ok (.iadd, 1) by decide +kernel)) <|
  ok_c (sn_ic_eq (show decode code 1496 = .ok (.if_icmp .eq 804, 3) by decide +kernel) (by decide)) <|
  ok_c (sn_iconst (v := 0) (show decode code 1499 = .ok (.iconst 0, 1) by decide +kernel) (by decide +kernel)) <|
  ok_n
def uL42 : gCT := [(1484, YX8_never, 2, some 8), (1493, YX9_never, 2, some 9)]
set_option maxRecDepth 100000 in
theorem ocL42 : gOkC YL uL42 := oc_c (gEdge_V cal_X8_never ck_8 rfl (show decode code 1484 = .ok (.invokevirtual 186, 3) by decide +kernel) wd_5_18 wd_5_19 wd_5_20) <|
  oc_c (gEdge_V cal_X9_never ck_9 rfl (show decode code 1493 = .ok (.invokevirtual 189, 3) by decide +kernel) wd_8_174 wd_8_175 wd_8_176) <|
  oc_n
set_option maxRecDepth 20000 in
theorem lc_42 (C : vCx p s m args c cells slots G b Ln xs) {i : Nat} (hin : ∀ k, k < 6 → vp_in (nI i + nI k) Ln) {M : gMem} (hI : INV M) (kk : ∀ M', INV M' → gV p l e s m args below meth c cells slots Q G 2300 (vLw (nI i)) [] M') : gV p l e s m args below meth c cells slots Q G 1478 (vLw (nI i)) [] M := by
  obtain ⟨r, N, K, h1, h2, h3⟩ := S_never ((xs (nI i + 1).toNatClampNeg)) M hI
  refine v_rn okL42 C 5 (pc' := 1483) (L' := vLw (nI i)) (S' := [.int (nI i + 1), .ref 960, .ref 0]) (M' := M) rfl ?_
  refine v_sld C (hin 1 (by omega)) (show decode code 1483 = .ok (.iaload, 1) by decide +kernel) ?_
  refine v_call ocL42 C rfl rfl (gOb_c rfl) rfl (SX8_never ((xs (nI i + 1).toNatClampNeg)) M h1) (by decide) ?_
  refine v_rn okL42 C 5 (pc' := 1492) (L' := vLw (nI i)) (S' := [.int (nI i + 1), .ref 960, .ref 141, .int r]) (M' := N) rfl ?_
  refine v_sld C (hin 1 (by omega)) (show decode code 1492 = .ok (.iaload, 1) by decide +kernel) ?_
  refine v_call ocL42 C rfl rfl (gOb_c rfl) rfl (SX9_never ((xs (nI i + 1).toNatClampNeg)) N h2) (by decide) ?_
  refine v_eq okL42 C (t := 2300) rfl ?_
  exact kk K h3
def tL43 : List (Nat × gStp) := [(1501, i_aload 1 1502), (1502, i_aload 0 1503), (1503, i_iload 3 1504), (1504, i_push (.int 1) 1505), (1505, i_ii (fun x y => x + y) 1506), (1510, i_aload 2 1511), (1511, i_aload 0 1512), (1512, i_iload 3 1513), (1513, i_push (.int 1) 1514), (1514, i_ii (fun x y => x + y) 1515), (1519, i_ic_eq 2300 1522), (1522, i_push (.int 0) 1523)]
set_option maxRecDepth 100000 in
theorem okL43 : gOk YL tL43 := ok_c (sn_aload_n (show decode code 1501 = .ok (.aload_n 1, 1) by decide +kernel) rfl) <|
  ok_c (sn_aload_n (show decode code 1502 = .ok (.aload_n 0, 1) by decide +kernel) rfl) <|
  ok_c (sn_iload_n (show decode code 1503 = .ok (.iload_n 3, 1) by decide +kernel) rfl) <|
  ok_c (sn_iconst (v := 1) (show decode code 1504 = .ok (.iconst 1, 1) by decide +kernel) (by decide +kernel)) <|
  ok_c (sn_iadd (show decode code 1505 = .ok (.iadd, 1) by decide +kernel)) <|
  ok_c (sn_aload_n (show decode code 1510 = .ok (.aload_n 2, 1) by decide +kernel) rfl) <|
  ok_c (sn_aload_n (show decode code 1511 = .ok (.aload_n 0, 1) by decide +kernel) rfl) <|
  ok_c (sn_iload_n (show decode code 1512 = .ok (.iload_n 3, 1) by decide +kernel) rfl) <|
  ok_c (sn_iconst (v := 1) (show decode code 1513 = .ok (.iconst 1, 1) by decide +kernel) (by decide +kernel)) <|
  ok_c (sn_iadd (show decode code 1514 = .ok (.iadd, 1) by decide +kernel)) <|
  ok_c (sn_ic_eq (show decode code 1519 = .ok (.if_icmp .eq 781, 3) by decide +kernel) (by decide)) <|
  ok_c (sn_iconst (v := 0) (show decode code 1522 = .ok (.iconst 0, 1) by decide +kernel) (by decide +kernel)) <|
  ok_n
def uL43 : gCT := [(1507, YX8_ask, 2, some 8), (1516, YX9_ask, 2, some 9)]
set_option maxRecDepth 100000 in
theorem ocL43 : gOkC YL uL43 := oc_c (gEdge_V cal_X8_ask ck_8 rfl (show decode code 1507 = .ok (.invokevirtual 190, 3) by decide +kernel) wd_5_22 wd_5_23 wd_5_24) <|
  oc_c (gEdge_V cal_X9_ask ck_9 rfl (show decode code 1516 = .ok (.invokevirtual 193, 3) by decide +kernel) wd_8_178 wd_8_179 wd_8_180) <|
  oc_n
set_option maxRecDepth 20000 in
theorem lc_43 (C : vCx p s m args c cells slots G b Ln xs) {i : Nat} (hin : ∀ k, k < 6 → vp_in (nI i + nI k) Ln) {M : gMem} (hI : INV M) (kk : ∀ M', INV M' → gV p l e s m args below meth c cells slots Q G 2300 (vLw (nI i)) [] M') : gV p l e s m args below meth c cells slots Q G 1501 (vLw (nI i)) [] M := by
  obtain ⟨r, N, K, h1, h2, h3⟩ := S_ask ((xs (nI i + 1).toNatClampNeg)) M hI
  refine v_rn okL43 C 5 (pc' := 1506) (L' := vLw (nI i)) (S' := [.int (nI i + 1), .ref 960, .ref 0]) (M' := M) rfl ?_
  refine v_sld C (hin 1 (by omega)) (show decode code 1506 = .ok (.iaload, 1) by decide +kernel) ?_
  refine v_call ocL43 C rfl rfl (gOb_c rfl) rfl (SX8_ask ((xs (nI i + 1).toNatClampNeg)) M h1) (by decide) ?_
  refine v_rn okL43 C 5 (pc' := 1515) (L' := vLw (nI i)) (S' := [.int (nI i + 1), .ref 960, .ref 141, .int r]) (M' := N) rfl ?_
  refine v_sld C (hin 1 (by omega)) (show decode code 1515 = .ok (.iaload, 1) by decide +kernel) ?_
  refine v_call ocL43 C rfl rfl (gOb_c rfl) rfl (SX9_ask ((xs (nI i + 1).toNatClampNeg)) N h2) (by decide) ?_
  refine v_eq okL43 C (t := 2300) rfl ?_
  exact kk K h3
end LCS
