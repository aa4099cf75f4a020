/-! The law: its cases. -/
section LCS
variable {p : Program} {l : Launch} {e : Env} {s : State} {m : MethodId} {args : Array Value} {below : List Frame} {meth : Method} {c : Code} {cells slots : Nat} {Q : State → Prop} {G : gG} {b Ln : Nat} {xs : Nat → Int32}
def tL44 : List (Nat × gStp) := [(1524, i_aload 1 1525), (1525, i_aload 0 1526), (1526, i_iload 3 1527), (1527, i_push (.int 1) 1528), (1528, i_ii (fun x y => x + y) 1529), (1533, i_aload 2 1534), (1534, i_aload 0 1535), (1535, i_iload 3 1536), (1536, i_push (.int 1) 1537), (1537, i_ii (fun x y => x + y) 1538), (1542, i_ic_eq 2300 1545), (1545, i_push (.int 0) 1546)]
set_option maxRecDepth 100000 in
theorem okL44 : gOk YL tL44 := ok_c (sn_aload_n (show decode code 1524 = .ok (.aload_n 1, 1) by decide +kernel) rfl) <|
  ok_c (sn_aload_n (show decode code 1525 = .ok (.aload_n 0, 1) by decide +kernel) rfl) <|
  ok_c (sn_iload_n (show decode code 1526 = .ok (.iload_n 3, 1) by decide +kernel) rfl) <|
  ok_c (sn_iconst (v := 1) (show decode code 1527 = .ok (.iconst 1, 1) by decide +kernel) (by decide +kernel)) <|
  ok_c (sn_iadd (show decode code 1528 = .ok (.iadd, 1) by decide +kernel)) <|
  ok_c (sn_aload_n (show decode code 1533 = .ok (.aload_n 2, 1) by decide +kernel) rfl) <|
  ok_c (sn_aload_n (show decode code 1534 = .ok (.aload_n 0, 1) by decide +kernel) rfl) <|
  ok_c (sn_iload_n (show decode code 1535 = .ok (.iload_n 3, 1) by decide +kernel) rfl) <|
  ok_c (sn_iconst (v := 1) (show decode code 1536 = .ok (.iconst 1, 1) by decide +kernel) (by decide +kernel)) <|
  ok_c (sn_iadd (show decode code 1537 = .ok (.iadd, 1) by decide +kernel)) <|
  ok_c (sn_ic_eq (show decode code 1542 = .ok (.if_icmp .eq 758, 3) by decide +kernel) (by decide)) <|
  ok_c (sn_iconst (v := 0) (show decode code 1545 = .ok (.iconst 0, 1) by decide +kernel) (by decide +kernel)) <|
  ok_n
def uL44 : gCT := [(1530, YX8_leaves, 2, some 8), (1539, YX9_leaves, 2, some 9)]
set_option maxRecDepth 100000 in
theorem ocL44 : gOkC YL uL44 := oc_c (gEdge_V cal_X8_leaves ck_8 rfl (show decode code 1530 = .ok (.invokevirtual 194, 3) by decide +kernel) wd_5_35 wd_5_36 wd_5_37) <|
  oc_c (gEdge_V cal_X9_leaves ck_9 rfl (show decode code 1539 = .ok (.invokevirtual 197, 3) by decide +kernel) wd_8_182 wd_8_183 wd_8_184) <|
  oc_n
set_option maxRecDepth 20000 in
theorem lc_44 (C : vCx p s m args c cells slots G b Ln xs) {i : Nat} (hin : ∀ k, k < 6 → vp_in (nI i + nI k) Ln) {M : gMem} (hI : INV M) (kk : ∀ M', INV M' → gV p l e s m args below meth c cells slots Q G 2300 (vLw (nI i)) [] M') : gV p l e s m args below meth c cells slots Q G 1524 (vLw (nI i)) [] M := by
  obtain ⟨r, N, K, h1, h2, h3⟩ := S_leaves ((xs (nI i + 1).toNatClampNeg)) M hI
  refine v_rn okL44 C 5 (pc' := 1529) (L' := vLw (nI i)) (S' := [.int (nI i + 1), .ref 960, .ref 0]) (M' := M) rfl ?_
  refine v_sld C (hin 1 (by omega)) (show decode code 1529 = .ok (.iaload, 1) by decide +kernel) ?_
  refine v_call ocL44 C rfl rfl (gOb_c rfl) rfl (SX8_leaves ((xs (nI i + 1).toNatClampNeg)) M h1) (by decide) ?_
  refine v_rn okL44 C 5 (pc' := 1538) (L' := vLw (nI i)) (S' := [.int (nI i + 1), .ref 960, .ref 141, .int r]) (M' := N) rfl ?_
  refine v_sld C (hin 1 (by omega)) (show decode code 1538 = .ok (.iaload, 1) by decide +kernel) ?_
  refine v_call ocL44 C rfl rfl (gOb_c rfl) rfl (SX9_leaves ((xs (nI i + 1).toNatClampNeg)) N h2) (by decide) ?_
  refine v_eq okL44 C (t := 2300) rfl ?_
  exact kk K h3
def tL45 : List (Nat × gStp) := [(1547, i_aload 1 1548), (1548, i_aload 0 1549), (1549, i_iload 3 1550), (1550, i_push (.int 1) 1551), (1551, i_ii (fun x y => x + y) 1552), (1556, i_aload 2 1557), (1557, i_aload 0 1558), (1558, i_iload 3 1559), (1559, i_push (.int 1) 1560), (1560, i_ii (fun x y => x + y) 1561), (1565, i_ic_eq 2300 1568), (1568, i_push (.int 0) 1569)]
set_option maxRecDepth 100000 in
theorem okL45 : gOk YL tL45 := ok_c (sn_aload_n (show decode code 1547 = .ok (.aload_n 1, 1) by decide +kernel) rfl) <|
  ok_c (sn_aload_n (show decode code 1548 = .ok (.aload_n 0, 1) by decide +kernel) rfl) <|
  ok_c (sn_iload_n (show decode code 1549 = .ok (.iload_n 3, 1) by decide +kernel) rfl) <|
  ok_c (sn_iconst (v := 1) (show decode code 1550 = .ok (.iconst 1, 1) by decide +kernel) (by decide +kernel)) <|
  ok_c (sn_iadd (show decode code 1551 = .ok (.iadd, 1) by decide +kernel)) <|
  ok_c (sn_aload_n (show decode code 1556 = .ok (.aload_n 2, 1) by decide +kernel) rfl) <|
  ok_c (sn_aload_n (show decode code 1557 = .ok (.aload_n 0, 1) by decide +kernel) rfl) <|
  ok_c (sn_iload_n (show decode code 1558 = .ok (.iload_n 3, 1) by decide +kernel) rfl) <|
  ok_c (sn_iconst (v := 1) (show decode code 1559 = .ok (.iconst 1, 1) by decide +kernel) (by decide +kernel)) <|
  ok_c (sn_iadd (show decode code 1560 = .ok (.iadd, 1) by decide +kernel)) <|
  ok_c (sn_ic_eq (show decode code 1565 = .ok (.if_icmp .eq 735, 3) by decide +kernel) (by decide)) <|
  ok_c (sn_iconst (v := 0) (show decode code 1568 = .ok (.iconst 0, 1) by decide +kernel) (by decide +kernel)) <|
  ok_n
def uL45 : gCT := [(1553, YX8_laws, 2, some 8), (1562, YX9_laws, 2, some 9)]
set_option maxRecDepth 100000 in
theorem ocL45 : gOkC YL uL45 := oc_c (gEdge_V cal_X8_laws ck_8 rfl (show decode code 1553 = .ok (.invokevirtual 198, 3) by decide +kernel) wd_5_40 wd_5_41 wd_5_42) <|
  oc_c (gEdge_V cal_X9_laws ck_9 rfl (show decode code 1562 = .ok (.invokevirtual 201, 3) by decide +kernel) wd_8_186 wd_8_187 wd_8_188) <|
  oc_n
set_option maxRecDepth 20000 in
theorem lc_45 (C : vCx p s m args c cells slots G b Ln xs) {i : Nat} (hin : ∀ k, k < 6 → vp_in (nI i + nI k) Ln) {M : gMem} (hI : INV M) (kk : ∀ M', INV M' → gV p l e s m args below meth c cells slots Q G 2300 (vLw (nI i)) [] M') : gV p l e s m args below meth c cells slots Q G 1547 (vLw (nI i)) [] M := by
  obtain ⟨r, N, K, h1, h2, h3⟩ := S_laws ((xs (nI i + 1).toNatClampNeg)) M hI
  refine v_rn okL45 C 5 (pc' := 1552) (L' := vLw (nI i)) (S' := [.int (nI i + 1), .ref 960, .ref 0]) (M' := M) rfl ?_
  refine v_sld C (hin 1 (by omega)) (show decode code 1552 = .ok (.iaload, 1) by decide +kernel) ?_
  refine v_call ocL45 C rfl rfl (gOb_c rfl) rfl (SX8_laws ((xs (nI i + 1).toNatClampNeg)) M h1) (by decide) ?_
  refine v_rn okL45 C 5 (pc' := 1561) (L' := vLw (nI i)) (S' := [.int (nI i + 1), .ref 960, .ref 141, .int r]) (M' := N) rfl ?_
  refine v_sld C (hin 1 (by omega)) (show decode code 1561 = .ok (.iaload, 1) by decide +kernel) ?_
  refine v_call ocL45 C rfl rfl (gOb_c rfl) rfl (SX9_laws ((xs (nI i + 1).toNatClampNeg)) N h2) (by decide) ?_
  refine v_eq okL45 C (t := 2300) rfl ?_
  exact kk K h3
def tL46 : List (Nat × gStp) := [(1570, i_aload 1 1571), (1571, i_aload 0 1572), (1572, i_iload 3 1573), (1573, i_push (.int 1) 1574), (1574, i_ii (fun x y => x + y) 1575), (1576, i_aload 0 1577), (1577, i_iload 3 1578), (1578, i_push (.int 2) 1579), (1579, i_ii (fun x y => x + y) 1580), (1584, i_aload 2 1585), (1585, i_aload 0 1586), (1586, i_iload 3 1587), (1587, i_push (.int 1) 1588), (1588, i_ii (fun x y => x + y) 1589), (1590, i_aload 0 1591), (1591, i_iload 3 1592), (1592, i_push (.int 2) 1593), (1593, i_ii (fun x y => x + y) 1594), (1598, i_ic_eq 2300 1601), (1601, i_push (.int 0) 1602)]
set_option maxRecDepth 100000 in
theorem okL46 : gOk YL tL46 := ok_c (sn_aload_n (show decode code 1570 = .ok (.aload_n 1, 1) by decide +kernel) rfl) <|
  ok_c (sn_aload_n (show decode code 1571 = .ok (.aload_n 0, 1) by decide +kernel) rfl) <|
  ok_c (sn_iload_n (show decode code 1572 = .ok (.iload_n 3, 1) by decide +kernel) rfl) <|
  ok_c (sn_iconst (v := 1) (show decode code 1573 = .ok (.iconst 1, 1) by decide +kernel) (by decide +kernel)) <|
  ok_c (sn_iadd (show decode code 1574 = .ok (.iadd, 1) by decide +kernel)) <|
  ok_c (sn_aload_n (show decode code 1576 = .ok (.aload_n 0, 1) by decide +kernel) rfl) <|
  ok_c (sn_iload_n (show decode code 1577 = .ok (.iload_n 3, 1) by decide +kernel) rfl) <|
  ok_c (sn_iconst (v := 2) (show decode code 1578 = .ok (.iconst 2, 1) by decide +kernel) (by decide +kernel)) <|
  ok_c (sn_iadd (show decode code 1579 = .ok (.iadd, 1) by decide +kernel)) <|
  ok_c (sn_aload_n (show decode code 1584 = .ok (.aload_n 2, 1) by decide +kernel) rfl) <|
  ok_c (sn_aload_n (show decode code 1585 = .ok (.aload_n 0, 1) by decide +kernel) rfl) <|
  ok_c (sn_iload_n (show decode code 1586 = .ok (.iload_n 3, 1) by decide +kernel) rfl) <|
  ok_c (sn_iconst (v := 1) (show decode code 1587 = .ok (.iconst 1, 1) by decide +kernel) (by decide +kernel)) <|
  ok_c (sn_iadd (show decode code 1588 = .ok (.iadd, 1) by decide +kernel)) <|
  ok_c (sn_aload_n (show decode code 1590 = .ok (.aload_n 0, 1) by decide +kernel) rfl) <|
  ok_c (sn_iload_n (show decode code 1591 = .ok (.iload_n 3, 1) by decide +kernel) rfl) <|
  ok_c (sn_iconst (v := 2) (show decode code 1592 = .ok (.iconst 2, 1) by decide +kernel) (by decide +kernel)) <|
  ok_c (sn_iadd (show decode code 1593 = .ok (.iadd, 1) by decide +kernel)) <|
  ok_c (sn_ic_eq (show decode code 1598 = .ok (.if_icmp .eq 702, 3) by decide +kernel) (by decide)) <|
  ok_c (sn_iconst (v := 0) (show decode code 1601 = .ok (.iconst 0, 1) by decide +kernel) (by decide +kernel)) <|
  ok_n
def uL46 : gCT := [(1581, YX8_by, 3, some 8), (1595, YX9_by, 3, some 9)]
set_option maxRecDepth 100000 in
theorem ocL46 : gOkC YL uL46 := oc_c (gEdge_V cal_X8_by ck_8 rfl (show decode code 1581 = .ok (.invokevirtual 202, 3) by decide +kernel) wd_5_45 wd_5_46 wd_5_47) <|
  oc_c (gEdge_V cal_X9_by ck_9 rfl (show decode code 1595 = .ok (.invokevirtual 205, 3) by decide +kernel) wd_8_190 wd_8_191 wd_8_192) <|
  oc_n
set_option maxRecDepth 20000 in
theorem lc_46 (C : vCx p s m args c cells slots G b Ln xs) {i : Nat} (hin : ∀ k, k < 6 → vp_in (nI i + nI k) Ln) {M : gMem} (hI : INV M) (kk : ∀ M', INV M' → gV p l e s m args below meth c cells slots Q G 2300 (vLw (nI i)) [] M') : gV p l e s m args below meth c cells slots Q G 1570 (vLw (nI i)) [] M := by
  obtain ⟨r, N, K, h1, h2, h3⟩ := S_by ((xs (nI i + 1).toNatClampNeg)) ((xs (nI i + 2).toNatClampNeg)) M hI
  refine v_rn okL46 C 5 (pc' := 1575) (L' := vLw (nI i)) (S' := [.int (nI i + 1), .ref 960, .ref 0]) (M' := M) rfl ?_
  refine v_sld C (hin 1 (by omega)) (show decode code 1575 = .ok (.iaload, 1) by decide +kernel) ?_
  refine v_rn okL46 C 4 (pc' := 1580) (L' := vLw (nI i)) (S' := [.int (nI i + 2), .ref 960, .int (xs (nI i + 1).toNatClampNeg), .ref 0]) (M' := M) rfl ?_
  refine v_sld C (hin 2 (by omega)) (show decode code 1580 = .ok (.iaload, 1) by decide +kernel) ?_
  refine v_call ocL46 C rfl rfl (gOb_c rfl) rfl (SX8_by ((xs (nI i + 1).toNatClampNeg)) ((xs (nI i + 2).toNatClampNeg)) M h1) (by decide) ?_
  refine v_rn okL46 C 5 (pc' := 1589) (L' := vLw (nI i)) (S' := [.int (nI i + 1), .ref 960, .ref 141, .int r]) (M' := N) rfl ?_
  refine v_sld C (hin 1 (by omega)) (show decode code 1589 = .ok (.iaload, 1) by decide +kernel) ?_
  refine v_rn okL46 C 4 (pc' := 1594) (L' := vLw (nI i)) (S' := [.int (nI i + 2), .ref 960, .int (xs (nI i + 1).toNatClampNeg), .ref 141, .int r]) (M' := N) rfl ?_
  refine v_sld C (hin 2 (by omega)) (show decode code 1594 = .ok (.iaload, 1) by decide +kernel) ?_
  refine v_call ocL46 C rfl rfl (gOb_c rfl) rfl (SX9_by ((xs (nI i + 1).toNatClampNeg)) ((xs (nI i + 2).toNatClampNeg)) N h2) (by decide) ?_
  refine v_eq okL46 C (t := 2300) rfl ?_
  exact kk K h3
def tL47 : List (Nat × gStp) := [(1603, i_aload 1 1604), (1604, i_aload 0 1605), (1605, i_iload 3 1606), (1606, i_push (.int 1) 1607), (1607, i_ii (fun x y => x + y) 1608), (1609, i_aload 0 1610), (1610, i_iload 3 1611), (1611, i_push (.int 2) 1612), (1612, i_ii (fun x y => x + y) 1613), (1617, i_aload 2 1618), (1618, i_aload 0 1619), (1619, i_iload 3 1620), (1620, i_push (.int 1) 1621), (1621, i_ii (fun x y => x + y) 1622), (1623, i_aload 0 1624), (1624, i_iload 3 1625), (1625, i_push (.int 2) 1626), (1626, i_ii (fun x y => x + y) 1627), (1631, i_ic_eq 2300 1634), (1634, i_push (.int 0) 1635)]
set_option maxRecDepth 100000 in
theorem okL47 : gOk YL tL47 := ok_c (sn_aload_n (show decode code 1603 = .ok (.aload_n 1, 1) by decide +kernel) rfl) <|
  ok_c (sn_aload_n (show decode code 1604 = .ok (.aload_n 0, 1) by decide +kernel) rfl) <|
  ok_c (sn_iload_n (show decode code 1605 = .ok (.iload_n 3, 1) by decide +kernel) rfl) <|
  ok_c (sn_iconst (v := 1) (show decode code 1606 = .ok (.iconst 1, 1) by decide +kernel) (by decide +kernel)) <|
  ok_c (sn_iadd (show decode code 1607 = .ok (.iadd, 1) by decide +kernel)) <|
  ok_c (sn_aload_n (show decode code 1609 = .ok (.aload_n 0, 1) by decide +kernel) rfl) <|
  ok_c (sn_iload_n (show decode code 1610 = .ok (.iload_n 3, 1) by decide +kernel) rfl) <|
  ok_c (sn_iconst (v := 2) (show decode code 1611 = .ok (.iconst 2, 1) by decide +kernel) (by decide +kernel)) <|
  ok_c (sn_iadd (show decode code 1612 = .ok (.iadd, 1) by decide +kernel)) <|
  ok_c (sn_aload_n (show decode code 1617 = .ok (.aload_n 2, 1) by decide +kernel) rfl) <|
  ok_c (sn_aload_n (show decode code 1618 = .ok (.aload_n 0, 1) by decide +kernel) rfl) <|
  ok_c (sn_iload_n (show decode code 1619 = .ok (.iload_n 3, 1) by decide +kernel) rfl) <|
  ok_c (sn_iconst (v := 1) (show decode code 1620 = .ok (.iconst 1, 1) by decide +kernel) (by decide +kernel)) <|
  ok_c (sn_iadd (show decode code 1621 = .ok (.iadd, 1) by decide +kernel)) <|
  ok_c (sn_aload_n (show decode code 1623 = .ok (.aload_n 0, 1) by decide +kernel) rfl) <|
  ok_c (sn_iload_n (show decode code 1624 = .ok (.iload_n 3, 1) by decide +kernel) rfl) <|
  ok_c (sn_iconst (v := 2) (show decode code 1625 = .ok (.iconst 2, 1) by decide +kernel) (by decide +kernel)) <|
  ok_c (sn_iadd (show decode code 1626 = .ok (.iadd, 1) by decide +kernel)) <|
  ok_c (sn_ic_eq (show decode code 1631 = .ok (.if_icmp .eq 669, 3) by decide +kernel) (by decide)) <|
  ok_c (sn_iconst (v := 0) (show decode code 1634 = .ok (.iconst 0, 1) by decide +kernel) (by decide +kernel)) <|
  ok_n
def uL47 : gCT := [(1614, YX8_rests, 3, some 8), (1628, YX9_rests, 3, some 9)]
set_option maxRecDepth 100000 in
theorem ocL47 : gOkC YL uL47 := oc_c (gEdge_V cal_X8_rests ck_8 rfl (show decode code 1614 = .ok (.invokevirtual 206, 3) by decide +kernel) wd_5_50 wd_5_51 wd_5_52) <|
  oc_c (gEdge_V cal_X9_rests ck_9 rfl (show decode code 1628 = .ok (.invokevirtual 209, 3) by decide +kernel) wd_8_194 wd_8_195 wd_8_196) <|
  oc_n
set_option maxRecDepth 20000 in
theorem lc_47 (C : vCx p s m args c cells slots G b Ln xs) {i : Nat} (hin : ∀ k, k < 6 → vp_in (nI i + nI k) Ln) {M : gMem} (hI : INV M) (kk : ∀ M', INV M' → gV p l e s m args below meth c cells slots Q G 2300 (vLw (nI i)) [] M') : gV p l e s m args below meth c cells slots Q G 1603 (vLw (nI i)) [] M := by
  obtain ⟨r, N, K, h1, h2, h3⟩ := S_rests ((xs (nI i + 1).toNatClampNeg)) ((xs (nI i + 2).toNatClampNeg)) M hI
  refine v_rn okL47 C 5 (pc' := 1608) (L' := vLw (nI i)) (S' := [.int (nI i + 1), .ref 960, .ref 0]) (M' := M) rfl ?_
  refine v_sld C (hin 1 (by omega)) (show decode code 1608 = .ok (.iaload, 1) by decide +kernel) ?_
  refine v_rn okL47 C 4 (pc' := 1613) (L' := vLw (nI i)) (S' := [.int (nI i + 2), .ref 960, .int (xs (nI i + 1).toNatClampNeg), .ref 0]) (M' := M) rfl ?_
  refine v_sld C (hin 2 (by omega)) (show decode code 1613 = .ok (.iaload, 1) by decide +kernel) ?_
  refine v_call ocL47 C rfl rfl (gOb_c rfl) rfl (SX8_rests ((xs (nI i + 1).toNatClampNeg)) ((xs (nI i + 2).toNatClampNeg)) M h1) (by decide) ?_
  refine v_rn okL47 C 5 (pc' := 1622) (L' := vLw (nI i)) (S' := [.int (nI i + 1), .ref 960, .ref 141, .int r]) (M' := N) rfl ?_
  refine v_sld C (hin 1 (by omega)) (show decode code 1622 = .ok (.iaload, 1) by decide +kernel) ?_
  refine v_rn okL47 C 4 (pc' := 1627) (L' := vLw (nI i)) (S' := [.int (nI i + 2), .ref 960, .int (xs (nI i + 1).toNatClampNeg), .ref 141, .int r]) (M' := N) rfl ?_
  refine v_sld C (hin 2 (by omega)) (show decode code 1627 = .ok (.iaload, 1) by decide +kernel) ?_
  refine v_call ocL47 C rfl rfl (gOb_c rfl) rfl (SX9_rests ((xs (nI i + 1).toNatClampNeg)) ((xs (nI i + 2).toNatClampNeg)) N h2) (by decide) ?_
  refine v_eq okL47 C (t := 2300) rfl ?_
  exact kk K h3
def tL48 : List (Nat × gStp) := [(1636, i_aload 1 1637), (1637, i_aload 0 1638), (1638, i_iload 3 1639), (1639, i_push (.int 1) 1640), (1640, i_ii (fun x y => x + y) 1641), (1642, i_aload 0 1643), (1643, i_iload 3 1644), (1644, i_push (.int 2) 1645), (1645, i_ii (fun x y => x + y) 1646), (1647, i_aload 0 1648), (1648, i_iload 3 1649), (1649, i_push (.int 3) 1650), (1650, i_ii (fun x y => x + y) 1651), (1652, i_aload 0 1653), (1653, i_iload 3 1654), (1654, i_push (.int 4) 1655), (1655, i_ii (fun x y => x + y) 1656), (1660, i_aload 2 1661), (1661, i_aload 0 1662), (1662, i_iload 3 1663), (1663, i_push (.int 1) 1664), (1664, i_ii (fun x y => x + y) 1665), (1666, i_aload 0 1667), (1667, i_iload 3 1668), (1668, i_push (.int 2) 1669), (1669, i_ii (fun x y => x + y) 1670), (1671, i_aload 0 1672), (1672, i_iload 3 1673), (1673, i_push (.int 3) 1674), (1674, i_ii (fun x y => x + y) 1675), (1676, i_aload 0 1677), (1677, i_iload 3 1678), (1678, i_push (.int 4) 1679), (1679, i_ii (fun x y => x + y) 1680), (1684, i_ic_eq 2300 1687), (1687, i_push (.int 0) 1688)]
set_option maxRecDepth 100000 in
theorem okL48 : gOk YL tL48 := ok_c (sn_aload_n (show decode code 1636 = .ok (.aload_n 1, 1) by decide +kernel) rfl) <|
  ok_c (sn_aload_n (show decode code 1637 = .ok (.aload_n 0, 1) by decide +kernel) rfl) <|
  ok_c (sn_iload_n (show decode code 1638 = .ok (.iload_n 3, 1) by decide +kernel) rfl) <|
  ok_c (sn_iconst (v := 1) (show decode code 1639 = .ok (.iconst 1, 1) by decide +kernel) (by decide +kernel)) <|
  ok_c (sn_iadd (show decode code 1640 = .ok (.iadd, 1) by decide +kernel)) <|
  ok_c (sn_aload_n (show decode code 1642 = .ok (.aload_n 0, 1) by decide +kernel) rfl) <|
  ok_c (sn_iload_n (show decode code 1643 = .ok (.iload_n 3, 1) by decide +kernel) rfl) <|
  ok_c (sn_iconst (v := 2) (show decode code 1644 = .ok (.iconst 2, 1) by decide +kernel) (by decide +kernel)) <|
  ok_c (sn_iadd (show decode code 1645 = .ok (.iadd, 1) by decide +kernel)) <|
  ok_c (sn_aload_n (show decode code 1647 = .ok (.aload_n 0, 1) by decide +kernel) rfl) <|
  ok_c (sn_iload_n (show decode code 1648 = .ok (.iload_n 3, 1) by decide +kernel) rfl) <|
  ok_c (sn_iconst (v := 3) (show decode code 1649 = .ok (.iconst 3, 1) by decide +kernel) (by decide +kernel)) <|
  ok_c (sn_iadd (show decode code 1650 = .ok (.iadd, 1) by decide +kernel)) <|
  ok_c (sn_aload_n (show decode code 1652 = .ok (.aload_n 0, 1) by decide +kernel) rfl) <|
  ok_c (sn_iload_n (show decode code 1653 = .ok (.iload_n 3, 1) by decide +kernel) rfl) <|
  ok_c (sn_iconst (v := 4) (show decode code 1654 = .ok (.iconst 4, 1) by decide +kernel) (by decide +kernel)) <|
  ok_c (sn_iadd (show decode code 1655 = .ok (.iadd, 1) by decide +kernel)) <|
  ok_c (sn_aload_n (show decode code 1660 = .ok (.aload_n 2, 1) by decide +kernel) rfl) <|
  ok_c (sn_aload_n (show decode code 1661 = .ok (.aload_n 0, 1) by decide +kernel) rfl) <|
  ok_c (sn_iload_n (show decode code 1662 = .ok (.iload_n 3, 1) by decide +kernel) rfl) <|
  ok_c (sn_iconst (v := 1) (show decode code 1663 = .ok (.iconst 1, 1) by decide +kernel) (by decide +kernel)) <|
  ok_c (sn_iadd (show decode code 1664 = .ok (.iadd, 1) by decide +kernel)) <|
  ok_c (sn_aload_n (show decode code 1666 = .ok (.aload_n 0, 1) by decide +kernel) rfl) <|
  ok_c (sn_iload_n (show decode code 1667 = .ok (.iload_n 3, 1) by decide +kernel) rfl) <|
  ok_c (sn_iconst (v := 2) (show decode code 1668 = .ok (.iconst 2, 1) by decide +kernel) (by decide +kernel)) <|
  ok_c (sn_iadd (show decode code 1669 = .ok (.iadd, 1) by decide +kernel)) <|
  ok_c (sn_aload_n (show decode code 1671 = .ok (.aload_n 0, 1) by decide +kernel) rfl) <|
  ok_c (sn_iload_n (show decode code 1672 = .ok (.iload_n 3, 1) by decide +kernel) rfl) <|
  ok_c (sn_iconst (v := 3) (show decode code 1673 = .ok (.iconst 3, 1) by decide +kernel) (by decide +kernel)) <|
  ok_c (sn_iadd (show decode code 1674 = .ok (.iadd, 1) by decide +kernel)) <|
  ok_c (sn_aload_n (show decode code 1676 = .ok (.aload_n 0, 1) by decide +kernel) rfl) <|
  ok_c (sn_iload_n (show decode code 1677 = .ok (.iload_n 3, 1) by decide +kernel) rfl) <|
  ok_c (sn_iconst (v := 4) (show decode code 1678 = .ok (.iconst 4, 1) by decide +kernel) (by decide +kernel)) <|
  ok_c (sn_iadd (show decode code 1679 = .ok (.iadd, 1) by decide +kernel)) <|
  ok_c (sn_ic_eq (show decode code 1684 = .ok (.if_icmp .eq 616, 3) by decide +kernel) (by decide)) <|
  ok_c (sn_iconst (v := 0) (show decode code 1687 = .ok (.iconst 0, 1) by decide +kernel) (by decide +kernel)) <|
  ok_n
def uL48 : gCT := [(1657, YX8_gets, 5, some 8), (1681, YX9_gets, 5, some 9)]
set_option maxRecDepth 100000 in
theorem ocL48 : gOkC YL uL48 := oc_c (gEdge_V cal_X8_gets ck_8 rfl (show decode code 1657 = .ok (.invokevirtual 210, 3) by decide +kernel) wd_5_62 wd_5_63 wd_5_64) <|
  oc_c (gEdge_V cal_X9_gets ck_9 rfl (show decode code 1681 = .ok (.invokevirtual 214, 3) by decide +kernel) wd_8_202 wd_8_203 wd_8_204) <|
  oc_n
set_option maxRecDepth 20000 in
theorem lc_48 (C : vCx p s m args c cells slots G b Ln xs) {i : Nat} (hin : ∀ k, k < 6 → vp_in (nI i + nI k) Ln) {M : gMem} (hI : INV M) (kk : ∀ M', INV M' → gV p l e s m args below meth c cells slots Q G 2300 (vLw (nI i)) [] M') : gV p l e s m args below meth c cells slots Q G 1636 (vLw (nI i)) [] M := by
  obtain ⟨r, N, K, h1, h2, h3⟩ := S_gets ((xs (nI i + 1).toNatClampNeg)) ((xs (nI i + 2).toNatClampNeg)) ((xs (nI i + 3).toNatClampNeg)) ((xs (nI i + 4).toNatClampNeg)) M hI
  refine v_rn okL48 C 5 (pc' := 1641) (L' := vLw (nI i)) (S' := [.int (nI i + 1), .ref 960, .ref 0]) (M' := M) rfl ?_
  refine v_sld C (hin 1 (by omega)) (show decode code 1641 = .ok (.iaload, 1) by decide +kernel) ?_
  refine v_rn okL48 C 4 (pc' := 1646) (L' := vLw (nI i)) (S' := [.int (nI i + 2), .ref 960, .int (xs (nI i + 1).toNatClampNeg), .ref 0]) (M' := M) rfl ?_
  refine v_sld C (hin 2 (by omega)) (show decode code 1646 = .ok (.iaload, 1) by decide +kernel) ?_
  refine v_rn okL48 C 4 (pc' := 1651) (L' := vLw (nI i)) (S' := [.int (nI i + 3), .ref 960, .int (xs (nI i + 2).toNatClampNeg), .int (xs (nI i + 1).toNatClampNeg), .ref 0]) (M' := M) rfl ?_
  refine v_sld C (hin 3 (by omega)) (show decode code 1651 = .ok (.iaload, 1) by decide +kernel) ?_
  refine v_rn okL48 C 4 (pc' := 1656) (L' := vLw (nI i)) (S' := [.int (nI i + 4), .ref 960, .int (xs (nI i + 3).toNatClampNeg), .int (xs (nI i + 2).toNatClampNeg), .int (xs (nI i + 1).toNatClampNeg), .ref 0]) (M' := M) rfl ?_
  refine v_sld C (hin 4 (by omega)) (show decode code 1656 = .ok (.iaload, 1) by decide +kernel) ?_
  refine v_call ocL48 C rfl rfl (gOb_c rfl) rfl (SX8_gets ((xs (nI i + 1).toNatClampNeg)) ((xs (nI i + 2).toNatClampNeg)) ((xs (nI i + 3).toNatClampNeg)) ((xs (nI i + 4).toNatClampNeg)) M h1) (by decide) ?_
  refine v_rn okL48 C 5 (pc' := 1665) (L' := vLw (nI i)) (S' := [.int (nI i + 1), .ref 960, .ref 141, .int r]) (M' := N) rfl ?_
  refine v_sld C (hin 1 (by omega)) (show decode code 1665 = .ok (.iaload, 1) by decide +kernel) ?_
  refine v_rn okL48 C 4 (pc' := 1670) (L' := vLw (nI i)) (S' := [.int (nI i + 2), .ref 960, .int (xs (nI i + 1).toNatClampNeg), .ref 141, .int r]) (M' := N) rfl ?_
  refine v_sld C (hin 2 (by omega)) (show decode code 1670 = .ok (.iaload, 1) by decide +kernel) ?_
  refine v_rn okL48 C 4 (pc' := 1675) (L' := vLw (nI i)) (S' := [.int (nI i + 3), .ref 960, .int (xs (nI i + 2).toNatClampNeg), .int (xs (nI i + 1).toNatClampNeg), .ref 141, .int r]) (M' := N) rfl ?_
  refine v_sld C (hin 3 (by omega)) (show decode code 1675 = .ok (.iaload, 1) by decide +kernel) ?_
  refine v_rn okL48 C 4 (pc' := 1680) (L' := vLw (nI i)) (S' := [.int (nI i + 4), .ref 960, .int (xs (nI i + 3).toNatClampNeg), .int (xs (nI i + 2).toNatClampNeg), .int (xs (nI i + 1).toNatClampNeg), .ref 141, .int r]) (M' := N) rfl ?_
  refine v_sld C (hin 4 (by omega)) (show decode code 1680 = .ok (.iaload, 1) by decide +kernel) ?_
  refine v_call ocL48 C rfl rfl (gOb_c rfl) rfl (SX9_gets ((xs (nI i + 1).toNatClampNeg)) ((xs (nI i + 2).toNatClampNeg)) ((xs (nI i + 3).toNatClampNeg)) ((xs (nI i + 4).toNatClampNeg)) N h2) (by decide) ?_
  refine v_eq okL48 C (t := 2300) rfl ?_
  exact kk K h3
def tL49 : List (Nat × gStp) := [(1689, i_aload 1 1690), (1690, i_aload 0 1691), (1691, i_iload 3 1692), (1692, i_push (.int 1) 1693), (1693, i_ii (fun x y => x + y) 1694), (1695, i_aload 0 1696), (1696, i_iload 3 1697), (1697, i_push (.int 2) 1698), (1698, i_ii (fun x y => x + y) 1699), (1703, i_aload 2 1704), (1704, i_aload 0 1705), (1705, i_iload 3 1706), (1706, i_push (.int 1) 1707), (1707, i_ii (fun x y => x + y) 1708), (1709, i_aload 0 1710), (1710, i_iload 3 1711), (1711, i_push (.int 2) 1712), (1712, i_ii (fun x y => x + y) 1713), (1717, i_ic_eq 2300 1720), (1720, i_push (.int 0) 1721)]
set_option maxRecDepth 100000 in
theorem okL49 : gOk YL tL49 := ok_c (sn_aload_n (show decode code 1689 = .ok (.aload_n 1, 1) by decide +kernel) rfl) <|
  ok_c (sn_aload_n (show decode code 1690 = .ok (.aload_n 0, 1) by decide +kernel) rfl) <|
  ok_c (sn_iload_n (show decode code 1691 = .ok (.iload_n 3, 1) by decide +kernel) rfl) <|
  ok_c (sn_iconst (v := 1) (show decode code 1692 = .ok (.iconst 1, 1) by decide +kernel) (by decide +kernel)) <|
  ok_c (sn_iadd (show decode code 1693 = .ok (.iadd, 1) by decide +kernel)) <|
  ok_c (sn_aload_n (show decode code 1695 = .ok (.aload_n 0, 1) by decide +kernel) rfl) <|
  ok_c (sn_iload_n (show decode code 1696 = .ok (.iload_n 3, 1) by decide +kernel) rfl) <|
  ok_c (sn_iconst (v := 2) (show decode code 1697 = .ok (.iconst 2, 1) by decide +kernel) (by decide +kernel)) <|
  ok_c (sn_iadd (show decode code 1698 = .ok (.iadd, 1) by decide +kernel)) <|
  ok_c (sn_aload_n (show decode code 1703 = .ok (.aload_n 2, 1) by decide +kernel) rfl) <|
  ok_c (sn_aload_n (show decode code 1704 = .ok (.aload_n 0, 1) by decide +kernel) rfl) <|
  ok_c (sn_iload_n (show decode code 1705 = .ok (.iload_n 3, 1) by decide +kernel) rfl) <|
  ok_c (sn_iconst (v := 1) (show decode code 1706 = .ok (.iconst 1, 1) by decide +kernel) (by decide +kernel)) <|
  ok_c (sn_iadd (show decode code 1707 = .ok (.iadd, 1) by decide +kernel)) <|
  ok_c (sn_aload_n (show decode code 1709 = .ok (.aload_n 0, 1) by decide +kernel) rfl) <|
  ok_c (sn_iload_n (show decode code 1710 = .ok (.iload_n 3, 1) by decide +kernel) rfl) <|
  ok_c (sn_iconst (v := 2) (show decode code 1711 = .ok (.iconst 2, 1) by decide +kernel) (by decide +kernel)) <|
  ok_c (sn_iadd (show decode code 1712 = .ok (.iadd, 1) by decide +kernel)) <|
  ok_c (sn_ic_eq (show decode code 1717 = .ok (.if_icmp .eq 583, 3) by decide +kernel) (by decide)) <|
  ok_c (sn_iconst (v := 0) (show decode code 1720 = .ok (.iconst 0, 1) by decide +kernel) (by decide +kernel)) <|
  ok_n
def uL49 : gCT := [(1700, YX8_when, 3, some 8), (1714, YX9_when, 3, some 9)]
set_option maxRecDepth 100000 in
theorem ocL49 : gOkC YL uL49 := oc_c (gEdge_V cal_X8_when ck_8 rfl (show decode code 1700 = .ok (.invokevirtual 215, 3) by decide +kernel) wd_5_66 wd_5_67 wd_5_68) <|
  oc_c (gEdge_V cal_X9_when ck_9 rfl (show decode code 1714 = .ok (.invokevirtual 218, 3) by decide +kernel) wd_8_206 wd_8_207 wd_8_208) <|
  oc_n
set_option maxRecDepth 20000 in
theorem lc_49 (C : vCx p s m args c cells slots G b Ln xs) {i : Nat} (hin : ∀ k, k < 6 → vp_in (nI i + nI k) Ln) {M : gMem} (hI : INV M) (kk : ∀ M', INV M' → gV p l e s m args below meth c cells slots Q G 2300 (vLw (nI i)) [] M') : gV p l e s m args below meth c cells slots Q G 1689 (vLw (nI i)) [] M := by
  obtain ⟨r, N, K, h1, h2, h3⟩ := S_when ((xs (nI i + 1).toNatClampNeg)) ((xs (nI i + 2).toNatClampNeg)) M hI
  refine v_rn okL49 C 5 (pc' := 1694) (L' := vLw (nI i)) (S' := [.int (nI i + 1), .ref 960, .ref 0]) (M' := M) rfl ?_
  refine v_sld C (hin 1 (by omega)) (show decode code 1694 = .ok (.iaload, 1) by decide +kernel) ?_
  refine v_rn okL49 C 4 (pc' := 1699) (L' := vLw (nI i)) (S' := [.int (nI i + 2), .ref 960, .int (xs (nI i + 1).toNatClampNeg), .ref 0]) (M' := M) rfl ?_
  refine v_sld C (hin 2 (by omega)) (show decode code 1699 = .ok (.iaload, 1) by decide +kernel) ?_
  refine v_call ocL49 C rfl rfl (gOb_c rfl) rfl (SX8_when ((xs (nI i + 1).toNatClampNeg)) ((xs (nI i + 2).toNatClampNeg)) M h1) (by decide) ?_
  refine v_rn okL49 C 5 (pc' := 1708) (L' := vLw (nI i)) (S' := [.int (nI i + 1), .ref 960, .ref 141, .int r]) (M' := N) rfl ?_
  refine v_sld C (hin 1 (by omega)) (show decode code 1708 = .ok (.iaload, 1) by decide +kernel) ?_
  refine v_rn okL49 C 4 (pc' := 1713) (L' := vLw (nI i)) (S' := [.int (nI i + 2), .ref 960, .int (xs (nI i + 1).toNatClampNeg), .ref 141, .int r]) (M' := N) rfl ?_
  refine v_sld C (hin 2 (by omega)) (show decode code 1713 = .ok (.iaload, 1) by decide +kernel) ?_
  refine v_call ocL49 C rfl rfl (gOb_c rfl) rfl (SX9_when ((xs (nI i + 1).toNatClampNeg)) ((xs (nI i + 2).toNatClampNeg)) N h2) (by decide) ?_
  refine v_eq okL49 C (t := 2300) rfl ?_
  exact kk K h3
def tL50 : List (Nat × gStp) := [(1722, i_aload 1 1723), (1723, i_aload 0 1724), (1724, i_iload 3 1725), (1725, i_push (.int 1) 1726), (1726, i_ii (fun x y => x + y) 1727), (1728, i_aload 0 1729), (1729, i_iload 3 1730), (1730, i_push (.int 2) 1731), (1731, i_ii (fun x y => x + y) 1732), (1733, i_aload 0 1734), (1734, i_iload 3 1735), (1735, i_push (.int 3) 1736), (1736, i_ii (fun x y => x + y) 1737), (1741, i_aload 2 1742), (1742, i_aload 0 1743), (1743, i_iload 3 1744), (1744, i_push (.int 1) 1745), (1745, i_ii (fun x y => x + y) 1746), (1747, i_aload 0 1748), (1748, i_iload 3 1749), (1749, i_push (.int 2) 1750), (1750, i_ii (fun x y => x + y) 1751), (1752, i_aload 0 1753), (1753, i_iload 3 1754), (1754, i_push (.int 3) 1755), (1755, i_ii (fun x y => x + y) 1756), (1760, i_ic_eq 2300 1763), (1763, i_push (.int 0) 1764)]
set_option maxRecDepth 100000 in
theorem okL50 : gOk YL tL50 := ok_c (sn_aload_n (show decode code 1722 = .ok (.aload_n 1, 1) by decide +kernel) rfl) <|
  ok_c (sn_aload_n (show decode code 1723 = .ok (.aload_n 0, 1) by decide +kernel) rfl) <|
  ok_c (sn_iload_n (show decode code 1724 = .ok (.iload_n 3, 1) by decide +kernel) rfl) <|
  ok_c (sn_iconst (v := 1) (show decode code 1725 = .ok (.iconst 1, 1) by decide +kernel) (by decide +kernel)) <|
  ok_c (sn_iadd (show decode code 1726 = .ok (.iadd, 1) by decide +kernel)) <|
  ok_c (sn_aload_n (show decode code 1728 = .ok (.aload_n 0, 1) by decide +kernel) rfl) <|
  ok_c (sn_iload_n (show decode code 1729 = .ok (.iload_n 3, 1) by decide +kernel) rfl) <|
  ok_c (sn_iconst (v := 2) (show decode code 1730 = .ok (.iconst 2, 1) by decide +kernel) (by decide +kernel)) <|
  ok_c (sn_iadd (show decode code 1731 = .ok (.iadd, 1) by decide +kernel)) <|
  ok_c (sn_aload_n (show decode code 1733 = .ok (.aload_n 0, 1) by decide +kernel) rfl) <|
  ok_c (sn_iload_n (show decode code 1734 = .ok (.iload_n 3, 1) by decide +kernel) rfl) <|
  ok_c (sn_iconst (v := 3) (show decode code 1735 = .ok (.iconst 3, 1) by decide +kernel) (by decide +kernel)) <|
  ok_c (sn_iadd (show decode code 1736 = .ok (.iadd, 1) by decide +kernel)) <|
  ok_c (sn_aload_n (show decode code 1741 = .ok (.aload_n 2, 1) by decide +kernel) rfl) <|
  ok_c (sn_aload_n (show decode code 1742 = .ok (.aload_n 0, 1) by decide +kernel) rfl) <|
  ok_c (sn_iload_n (show decode code 1743 = .ok (.iload_n 3, 1) by decide +kernel) rfl) <|
  ok_c (sn_iconst (v := 1) (show decode code 1744 = .ok (.iconst 1, 1) by decide +kernel) (by decide +kernel)) <|
  ok_c (sn_iadd (show decode code 1745 = .ok (.iadd, 1) by decide +kernel)) <|
  ok_c (sn_aload_n (show decode code 1747 = .ok (.aload_n 0, 1) by decide +kernel) rfl) <|
  ok_c (sn_iload_n (show decode code 1748 = .ok (.iload_n 3, 1) by decide +kernel) rfl) <|
  ok_c (sn_iconst (v := 2) (show decode code 1749 = .ok (.iconst 2, 1) by decide +kernel) (by decide +kernel)) <|
  ok_c (sn_iadd (show decode code 1750 = .ok (.iadd, 1) by decide +kernel)) <|
  ok_c (sn_aload_n (show decode code 1752 = .ok (.aload_n 0, 1) by decide +kernel) rfl) <|
  ok_c (sn_iload_n (show decode code 1753 = .ok (.iload_n 3, 1) by decide +kernel) rfl) <|
  ok_c (sn_iconst (v := 3) (show decode code 1754 = .ok (.iconst 3, 1) by decide +kernel) (by decide +kernel)) <|
  ok_c (sn_iadd (show decode code 1755 = .ok (.iadd, 1) by decide +kernel)) <|
  ok_c (sn_ic_eq (show decode code 1760 = .ok (.if_icmp .eq 540, 3) by decide +kernel) (by decide)) <|
  ok_c (sn_iconst (v := 0) (show decode code 1763 = .ok (.iconst 0, 1) by decide +kernel) (by decide +kernel)) <|
  ok_n
def uL50 : gCT := [(1738, YX8_chance, 4, some 8), (1757, YX9_chance, 4, some 9)]
set_option maxRecDepth 100000 in
theorem ocL50 : gOkC YL uL50 := oc_c (gEdge_V cal_X8_chance ck_8 rfl (show decode code 1738 = .ok (.invokevirtual 219, 3) by decide +kernel) wd_5_83 wd_5_84 wd_5_85) <|
  oc_c (gEdge_V cal_X9_chance ck_9 rfl (show decode code 1757 = .ok (.invokevirtual 222, 3) by decide +kernel) wd_8_214 wd_8_215 wd_8_216) <|
  oc_n
set_option maxRecDepth 20000 in
theorem lc_50 (C : vCx p s m args c cells slots G b Ln xs) {i : Nat} (hin : ∀ k, k < 6 → vp_in (nI i + nI k) Ln) {M : gMem} (hI : INV M) (kk : ∀ M', INV M' → gV p l e s m args below meth c cells slots Q G 2300 (vLw (nI i)) [] M') : gV p l e s m args below meth c cells slots Q G 1722 (vLw (nI i)) [] M := by
  obtain ⟨r, N, K, h1, h2, h3⟩ := S_chance ((xs (nI i + 1).toNatClampNeg)) ((xs (nI i + 2).toNatClampNeg)) ((xs (nI i + 3).toNatClampNeg)) M hI
  refine v_rn okL50 C 5 (pc' := 1727) (L' := vLw (nI i)) (S' := [.int (nI i + 1), .ref 960, .ref 0]) (M' := M) rfl ?_
  refine v_sld C (hin 1 (by omega)) (show decode code 1727 = .ok (.iaload, 1) by decide +kernel) ?_
  refine v_rn okL50 C 4 (pc' := 1732) (L' := vLw (nI i)) (S' := [.int (nI i + 2), .ref 960, .int (xs (nI i + 1).toNatClampNeg), .ref 0]) (M' := M) rfl ?_
  refine v_sld C (hin 2 (by omega)) (show decode code 1732 = .ok (.iaload, 1) by decide +kernel) ?_
  refine v_rn okL50 C 4 (pc' := 1737) (L' := vLw (nI i)) (S' := [.int (nI i + 3), .ref 960, .int (xs (nI i + 2).toNatClampNeg), .int (xs (nI i + 1).toNatClampNeg), .ref 0]) (M' := M) rfl ?_
  refine v_sld C (hin 3 (by omega)) (show decode code 1737 = .ok (.iaload, 1) by decide +kernel) ?_
  refine v_call ocL50 C rfl rfl (gOb_c rfl) rfl (SX8_chance ((xs (nI i + 1).toNatClampNeg)) ((xs (nI i + 2).toNatClampNeg)) ((xs (nI i + 3).toNatClampNeg)) M h1) (by decide) ?_
  refine v_rn okL50 C 5 (pc' := 1746) (L' := vLw (nI i)) (S' := [.int (nI i + 1), .ref 960, .ref 141, .int r]) (M' := N) rfl ?_
  refine v_sld C (hin 1 (by omega)) (show decode code 1746 = .ok (.iaload, 1) by decide +kernel) ?_
  refine v_rn okL50 C 4 (pc' := 1751) (L' := vLw (nI i)) (S' := [.int (nI i + 2), .ref 960, .int (xs (nI i + 1).toNatClampNeg), .ref 141, .int r]) (M' := N) rfl ?_
  refine v_sld C (hin 2 (by omega)) (show decode code 1751 = .ok (.iaload, 1) by decide +kernel) ?_
  refine v_rn okL50 C 4 (pc' := 1756) (L' := vLw (nI i)) (S' := [.int (nI i + 3), .ref 960, .int (xs (nI i + 2).toNatClampNeg), .int (xs (nI i + 1).toNatClampNeg), .ref 141, .int r]) (M' := N) rfl ?_
  refine v_sld C (hin 3 (by omega)) (show decode code 1756 = .ok (.iaload, 1) by decide +kernel) ?_
  refine v_call ocL50 C rfl rfl (gOb_c rfl) rfl (SX9_chance ((xs (nI i + 1).toNatClampNeg)) ((xs (nI i + 2).toNatClampNeg)) ((xs (nI i + 3).toNatClampNeg)) N h2) (by decide) ?_
  refine v_eq okL50 C (t := 2300) rfl ?_
  exact kk K h3
def tL51 : List (Nat × gStp) := [(1765, i_aload 1 1766), (1766, i_aload 0 1767), (1767, i_iload 3 1768), (1768, i_push (.int 1) 1769), (1769, i_ii (fun x y => x + y) 1770), (1771, i_aload 0 1772), (1772, i_iload 3 1773), (1773, i_push (.int 2) 1774), (1774, i_ii (fun x y => x + y) 1775), (1776, i_aload 0 1777), (1777, i_iload 3 1778), (1778, i_push (.int 3) 1779), (1779, i_ii (fun x y => x + y) 1780), (1784, i_aload 2 1785), (1785, i_aload 0 1786), (1786, i_iload 3 1787), (1787, i_push (.int 1) 1788), (1788, i_ii (fun x y => x + y) 1789), (1790, i_aload 0 1791), (1791, i_iload 3 1792), (1792, i_push (.int 2) 1793), (1793, i_ii (fun x y => x + y) 1794), (1795, i_aload 0 1796), (1796, i_iload 3 1797), (1797, i_push (.int 3) 1798), (1798, i_ii (fun x y => x + y) 1799), (1803, i_ic_eq 2300 1806), (1806, i_push (.int 0) 1807)]
set_option maxRecDepth 100000 in
theorem okL51 : gOk YL tL51 := ok_c (sn_aload_n (show decode code 1765 = .ok (.aload_n 1, 1) by decide +kernel) rfl) <|
  ok_c (sn_aload_n (show decode code 1766 = .ok (.aload_n 0, 1) by decide +kernel) rfl) <|
  ok_c (sn_iload_n (show decode code 1767 = .ok (.iload_n 3, 1) by decide +kernel) rfl) <|
  ok_c (sn_iconst (v := 1) (show decode code 1768 = .ok (.iconst 1, 1) by decide +kernel) (by decide +kernel)) <|
  ok_c (sn_iadd (show decode code 1769 = .ok (.iadd, 1) by decide +kernel)) <|
  ok_c (sn_aload_n (show decode code 1771 = .ok (.aload_n 0, 1) by decide +kernel) rfl) <|
  ok_c (sn_iload_n (show decode code 1772 = .ok (.iload_n 3, 1) by decide +kernel) rfl) <|
  ok_c (sn_iconst (v := 2) (show decode code 1773 = .ok (.iconst 2, 1) by decide +kernel) (by decide +kernel)) <|
  ok_c (sn_iadd (show decode code 1774 = .ok (.iadd, 1) by decide +kernel)) <|
  ok_c (sn_aload_n (show decode code 1776 = .ok (.aload_n 0, 1) by decide +kernel) rfl) <|
  ok_c (sn_iload_n (show decode code 1777 = .ok (.iload_n 3, 1) by decide +kernel) rfl) <|
  ok_c (sn_iconst (v := 3) (show decode code 1778 = .ok (.iconst 3, 1) by decide +kernel) (by decide +kernel)) <|
  ok_c (sn_iadd (show decode code 1779 = .ok (.iadd, 1) by decide +kernel)) <|
  ok_c (sn_aload_n (show decode code 1784 = .ok (.aload_n 2, 1) by decide +kernel) rfl) <|
  ok_c (sn_aload_n (show decode code 1785 = .ok (.aload_n 0, 1) by decide +kernel) rfl) <|
  ok_c (sn_iload_n (show decode code 1786 = .ok (.iload_n 3, 1) by decide +kernel) rfl) <|
  ok_c (sn_iconst (v := 1) (show decode code 1787 = .ok (.iconst 1, 1) by decide +kernel) (by decide +kernel)) <|
  ok_c (sn_iadd (show decode code 1788 = .ok (.iadd, 1) by decide +kernel)) <|
  ok_c (sn_aload_n (show decode code 1790 = .ok (.aload_n 0, 1) by decide +kernel) rfl) <|
  ok_c (sn_iload_n (show decode code 1791 = .ok (.iload_n 3, 1) by decide +kernel) rfl) <|
  ok_c (sn_iconst (v := 2) (show decode code 1792 = .ok (.iconst 2, 1) by decide +kernel) (by decide +kernel)) <|
  ok_c (sn_iadd (show decode code 1793 = .ok (.iadd, 1) by decide +kernel)) <|
  ok_c (sn_aload_n (show decode code 1795 = .ok (.aload_n 0, 1) by decide +kernel) rfl) <|
  ok_c (sn_iload_n (show decode code 1796 = .ok (.iload_n 3, 1) by decide +kernel) rfl) <|
  ok_c (sn_iconst (v := 3) (show decode code 1797 = .ok (.iconst 3, 1) by decide +kernel) (by decide +kernel)) <|
  ok_c (sn_iadd (show decode code 1798 = .ok (.iadd, 1) by decide +kernel)) <|
  ok_c (sn_ic_eq (show decode code 1803 = .ok (.if_icmp .eq 497, 3) by decide +kernel) (by decide)) <|
  ok_c (sn_iconst (v := 0) (show decode code 1806 = .ok (.iconst 0, 1) by decide +kernel) (by decide +kernel)) <|
  ok_n
def uL51 : gCT := [(1781, YX8_through, 4, some 8), (1800, YX9_through, 4, some 9)]
set_option maxRecDepth 100000 in
theorem ocL51 : gOkC YL uL51 := oc_c (gEdge_V cal_X8_through ck_8 rfl (show decode code 1781 = .ok (.invokevirtual 223, 3) by decide +kernel) wd_5_99 wd_5_100 wd_5_101) <|
  oc_c (gEdge_V cal_X9_through ck_9 rfl (show decode code 1800 = .ok (.invokevirtual 226, 3) by decide +kernel) wd_8_226 wd_8_227 wd_8_228) <|
  oc_n
set_option maxRecDepth 20000 in
theorem lc_51 (C : vCx p s m args c cells slots G b Ln xs) {i : Nat} (hin : ∀ k, k < 6 → vp_in (nI i + nI k) Ln) {M : gMem} (hI : INV M) (kk : ∀ M', INV M' → gV p l e s m args below meth c cells slots Q G 2300 (vLw (nI i)) [] M') : gV p l e s m args below meth c cells slots Q G 1765 (vLw (nI i)) [] M := by
  obtain ⟨r, N, K, h1, h2, h3⟩ := S_through ((xs (nI i + 1).toNatClampNeg)) ((xs (nI i + 2).toNatClampNeg)) ((xs (nI i + 3).toNatClampNeg)) M hI
  refine v_rn okL51 C 5 (pc' := 1770) (L' := vLw (nI i)) (S' := [.int (nI i + 1), .ref 960, .ref 0]) (M' := M) rfl ?_
  refine v_sld C (hin 1 (by omega)) (show decode code 1770 = .ok (.iaload, 1) by decide +kernel) ?_
  refine v_rn okL51 C 4 (pc' := 1775) (L' := vLw (nI i)) (S' := [.int (nI i + 2), .ref 960, .int (xs (nI i + 1).toNatClampNeg), .ref 0]) (M' := M) rfl ?_
  refine v_sld C (hin 2 (by omega)) (show decode code 1775 = .ok (.iaload, 1) by decide +kernel) ?_
  refine v_rn okL51 C 4 (pc' := 1780) (L' := vLw (nI i)) (S' := [.int (nI i + 3), .ref 960, .int (xs (nI i + 2).toNatClampNeg), .int (xs (nI i + 1).toNatClampNeg), .ref 0]) (M' := M) rfl ?_
  refine v_sld C (hin 3 (by omega)) (show decode code 1780 = .ok (.iaload, 1) by decide +kernel) ?_
  refine v_call ocL51 C rfl rfl (gOb_c rfl) rfl (SX8_through ((xs (nI i + 1).toNatClampNeg)) ((xs (nI i + 2).toNatClampNeg)) ((xs (nI i + 3).toNatClampNeg)) M h1) (by decide) ?_
  refine v_rn okL51 C 5 (pc' := 1789) (L' := vLw (nI i)) (S' := [.int (nI i + 1), .ref 960, .ref 141, .int r]) (M' := N) rfl ?_
  refine v_sld C (hin 1 (by omega)) (show decode code 1789 = .ok (.iaload, 1) by decide +kernel) ?_
  refine v_rn okL51 C 4 (pc' := 1794) (L' := vLw (nI i)) (S' := [.int (nI i + 2), .ref 960, .int (xs (nI i + 1).toNatClampNeg), .ref 141, .int r]) (M' := N) rfl ?_
  refine v_sld C (hin 2 (by omega)) (show decode code 1794 = .ok (.iaload, 1) by decide +kernel) ?_
  refine v_rn okL51 C 4 (pc' := 1799) (L' := vLw (nI i)) (S' := [.int (nI i + 3), .ref 960, .int (xs (nI i + 2).toNatClampNeg), .int (xs (nI i + 1).toNatClampNeg), .ref 141, .int r]) (M' := N) rfl ?_
  refine v_sld C (hin 3 (by omega)) (show decode code 1799 = .ok (.iaload, 1) by decide +kernel) ?_
  refine v_call ocL51 C rfl rfl (gOb_c rfl) rfl (SX9_through ((xs (nI i + 1).toNatClampNeg)) ((xs (nI i + 2).toNatClampNeg)) ((xs (nI i + 3).toNatClampNeg)) N h2) (by decide) ?_
  refine v_eq okL51 C (t := 2300) rfl ?_
  exact kk K h3
def tL52 : List (Nat × gStp) := [(1808, i_aload 1 1809), (1809, i_aload 0 1810), (1810, i_iload 3 1811), (1811, i_push (.int 1) 1812), (1812, i_ii (fun x y => x + y) 1813), (1817, i_aload 2 1818), (1818, i_aload 0 1819), (1819, i_iload 3 1820), (1820, i_push (.int 1) 1821), (1821, i_ii (fun x y => x + y) 1822), (1826, i_ic_eq 2300 1829), (1829, i_push (.int 0) 1830)]
set_option maxRecDepth 100000 in
theorem okL52 : gOk YL tL52 := ok_c (sn_aload_n (show decode code 1808 = .ok (.aload_n 1, 1) by decide +kernel) rfl) <|
  ok_c (sn_aload_n (show decode code 1809 = .ok (.aload_n 0, 1) by decide +kernel) rfl) <|
  ok_c (sn_iload_n (show decode code 1810 = .ok (.iload_n 3, 1) by decide +kernel) rfl) <|
  ok_c (sn_iconst (v := 1) (show decode code 1811 = .ok (.iconst 1, 1) by decide +kernel) (by decide +kernel)) <|
  ok_c (sn_iadd (show decode code 1812 = .ok (.iadd, 1) by decide +kernel)) <|
  ok_c (sn_aload_n (show decode code 1817 = .ok (.aload_n 2, 1) by decide +kernel) rfl) <|
  ok_c (sn_aload_n (show decode code 1818 = .ok (.aload_n 0, 1) by decide +kernel) rfl) <|
  ok_c (sn_iload_n (show decode code 1819 = .ok (.iload_n 3, 1) by decide +kernel) rfl) <|
  ok_c (sn_iconst (v := 1) (show decode code 1820 = .ok (.iconst 1, 1) by decide +kernel) (by decide +kernel)) <|
  ok_c (sn_iadd (show decode code 1821 = .ok (.iadd, 1) by decide +kernel)) <|
  ok_c (sn_ic_eq (show decode code 1826 = .ok (.if_icmp .eq 474, 3) by decide +kernel) (by decide)) <|
  ok_c (sn_iconst (v := 0) (show decode code 1829 = .ok (.iconst 0, 1) by decide +kernel) (by decide +kernel)) <|
  ok_n
def uL52 : gCT := [(1814, YX8_mean, 2, some 8), (1823, YX9_mean, 2, some 9)]
set_option maxRecDepth 100000 in
theorem ocL52 : gOkC YL uL52 := oc_c (gEdge_V cal_X8_mean ck_8 rfl (show decode code 1814 = .ok (.invokevirtual 227, 3) by decide +kernel) wd_5_103 wd_5_104 wd_5_105) <|
  oc_c (gEdge_V cal_X9_mean ck_9 rfl (show decode code 1823 = .ok (.invokevirtual 230, 3) by decide +kernel) wd_8_230 wd_8_231 wd_8_232) <|
  oc_n
set_option maxRecDepth 20000 in
theorem lc_52 (C : vCx p s m args c cells slots G b Ln xs) {i : Nat} (hin : ∀ k, k < 6 → vp_in (nI i + nI k) Ln) {M : gMem} (hI : INV M) (kk : ∀ M', INV M' → gV p l e s m args below meth c cells slots Q G 2300 (vLw (nI i)) [] M') : gV p l e s m args below meth c cells slots Q G 1808 (vLw (nI i)) [] M := by
  obtain ⟨r, N, K, h1, h2, h3⟩ := S_mean ((xs (nI i + 1).toNatClampNeg)) M hI
  refine v_rn okL52 C 5 (pc' := 1813) (L' := vLw (nI i)) (S' := [.int (nI i + 1), .ref 960, .ref 0]) (M' := M) rfl ?_
  refine v_sld C (hin 1 (by omega)) (show decode code 1813 = .ok (.iaload, 1) by decide +kernel) ?_
  refine v_call ocL52 C rfl rfl (gOb_c rfl) rfl (SX8_mean ((xs (nI i + 1).toNatClampNeg)) M h1) (by decide) ?_
  refine v_rn okL52 C 5 (pc' := 1822) (L' := vLw (nI i)) (S' := [.int (nI i + 1), .ref 960, .ref 141, .int r]) (M' := N) rfl ?_
  refine v_sld C (hin 1 (by omega)) (show decode code 1822 = .ok (.iaload, 1) by decide +kernel) ?_
  refine v_call ocL52 C rfl rfl (gOb_c rfl) rfl (SX9_mean ((xs (nI i + 1).toNatClampNeg)) N h2) (by decide) ?_
  refine v_eq okL52 C (t := 2300) rfl ?_
  exact kk K h3
def tL53 : List (Nat × gStp) := [(1831, i_aload 1 1832), (1832, i_aload 0 1833), (1833, i_iload 3 1834), (1834, i_push (.int 1) 1835), (1835, i_ii (fun x y => x + y) 1836), (1837, i_aload 0 1838), (1838, i_iload 3 1839), (1839, i_push (.int 2) 1840), (1840, i_ii (fun x y => x + y) 1841), (1842, i_aload 0 1843), (1843, i_iload 3 1844), (1844, i_push (.int 3) 1845), (1845, i_ii (fun x y => x + y) 1846), (1847, i_aload 0 1848), (1848, i_iload 3 1849), (1849, i_push (.int 4) 1850), (1850, i_ii (fun x y => x + y) 1851), (1855, i_aload 2 1856), (1856, i_aload 0 1857), (1857, i_iload 3 1858), (1858, i_push (.int 1) 1859), (1859, i_ii (fun x y => x + y) 1860), (1861, i_aload 0 1862), (1862, i_iload 3 1863), (1863, i_push (.int 2) 1864), (1864, i_ii (fun x y => x + y) 1865), (1866, i_aload 0 1867), (1867, i_iload 3 1868), (1868, i_push (.int 3) 1869), (1869, i_ii (fun x y => x + y) 1870), (1871, i_aload 0 1872), (1872, i_iload 3 1873), (1873, i_push (.int 4) 1874), (1874, i_ii (fun x y => x + y) 1875), (1879, i_ic_eq 2300 1882), (1882, i_push (.int 0) 1883)]
set_option maxRecDepth 100000 in
theorem okL53 : gOk YL tL53 := ok_c (sn_aload_n (show decode code 1831 = .ok (.aload_n 1, 1) by decide +kernel) rfl) <|
  ok_c (sn_aload_n (show decode code 1832 = .ok (.aload_n 0, 1) by decide +kernel) rfl) <|
  ok_c (sn_iload_n (show decode code 1833 = .ok (.iload_n 3, 1) by decide +kernel) rfl) <|
  ok_c (sn_iconst (v := 1) (show decode code 1834 = .ok (.iconst 1, 1) by decide +kernel) (by decide +kernel)) <|
  ok_c (sn_iadd (show decode code 1835 = .ok (.iadd, 1) by decide +kernel)) <|
  ok_c (sn_aload_n (show decode code 1837 = .ok (.aload_n 0, 1) by decide +kernel) rfl) <|
  ok_c (sn_iload_n (show decode code 1838 = .ok (.iload_n 3, 1) by decide +kernel) rfl) <|
  ok_c (sn_iconst (v := 2) (show decode code 1839 = .ok (.iconst 2, 1) by decide +kernel) (by decide +kernel)) <|
  ok_c (sn_iadd (show decode code 1840 = .ok (.iadd, 1) by decide +kernel)) <|
  ok_c (sn_aload_n (show decode code 1842 = .ok (.aload_n 0, 1) by decide +kernel) rfl) <|
  ok_c (sn_iload_n (show decode code 1843 = .ok (.iload_n 3, 1) by decide +kernel) rfl) <|
  ok_c (sn_iconst (v := 3) (show decode code 1844 = .ok (.iconst 3, 1) by decide +kernel) (by decide +kernel)) <|
  ok_c (sn_iadd (show decode code 1845 = .ok (.iadd, 1) by decide +kernel)) <|
  ok_c (sn_aload_n (show decode code 1847 = .ok (.aload_n 0, 1) by decide +kernel) rfl) <|
  ok_c (sn_iload_n (show decode code 1848 = .ok (.iload_n 3, 1) by decide +kernel) rfl) <|
  ok_c (sn_iconst (v := 4) (show decode code 1849 = .ok (.iconst 4, 1) by decide +kernel) (by decide +kernel)) <|
  ok_c (sn_iadd (show decode code 1850 = .ok (.iadd, 1) by decide +kernel)) <|
  ok_c (sn_aload_n (show decode code 1855 = .ok (.aload_n 2, 1) by decide +kernel) rfl) <|
  ok_c (sn_aload_n (show decode code 1856 = .ok (.aload_n 0, 1) by decide +kernel) rfl) <|
  ok_c (sn_iload_n (show decode code 1857 = .ok (.iload_n 3, 1) by decide +kernel) rfl) <|
  ok_c (sn_iconst (v := 1) (show decode code 1858 = .ok (.iconst 1, 1) by decide +kernel) (by decide +kernel)) <|
  ok_c (sn_iadd (show decode code 1859 = .ok (.iadd, 1) by decide +kernel)) <|
  ok_c (sn_aload_n (show decode code 1861 = .ok (.aload_n 0, 1) by decide +kernel) rfl) <|
  ok_c (sn_iload_n (show decode code 1862 = .ok (.iload_n 3, 1) by decide +kernel) rfl) <|
  ok_c (sn_iconst (v := 2) (show decode code 1863 = .ok (.iconst 2, 1) by decide +kernel) (by decide +kernel)) <|
  ok_c (sn_iadd (show decode code 1864 = .ok (.iadd, 1) by decide +kernel)) <|
  ok_c (sn_aload_n (show decode code 1866 = .ok (.aload_n 0, 1) by decide +kernel) rfl) <|
  ok_c (sn_iload_n (show decode code 1867 = .ok (.iload_n 3, 1) by decide +kernel) rfl) <|
  ok_c (sn_iconst (v := 3) (show decode code 1868 = .ok (.iconst 3, 1) by decide +kernel) (by decide +kernel)) <|
  ok_c (sn_iadd (show decode code 1869 = .ok (.iadd, 1) by decide +kernel)) <|
  ok_c (sn_aload_n (show decode code 1871 = .ok (.aload_n 0, 1) by decide +kernel) rfl) <|
  ok_c (sn_iload_n (show decode code 1872 = .ok (.iload_n 3, 1) by decide +kernel) rfl) <|
  ok_c (sn_iconst (v := 4) (show decode code 1873 = .ok (.iconst 4, 1) by decide +kernel) (by decide +kernel)) <|
  ok_c (sn_iadd (show decode code 1874 = .ok (.iadd, 1) by decide +kernel)) <|
  ok_c (sn_ic_eq (show decode code 1879 = .ok (.if_icmp .eq 421, 3) by decide +kernel) (by decide)) <|
  ok_c (sn_iconst (v := 0) (show decode code 1882 = .ok (.iconst 0, 1) by decide +kernel) (by decide +kernel)) <|
  ok_n
def uL53 : gCT := [(1852, YX8_weld, 5, some 8), (1876, YX9_weld, 5, some 9)]
set_option maxRecDepth 100000 in
theorem ocL53 : gOkC YL uL53 := oc_c (gEdge_V cal_X8_weld ck_8 rfl (show decode code 1852 = .ok (.invokevirtual 231, 3) by decide +kernel) wd_5_107 wd_5_108 wd_5_109) <|
  oc_c (gEdge_V cal_X9_weld ck_9 rfl (show decode code 1876 = .ok (.invokevirtual 234, 3) by decide +kernel) wd_9_16 wd_9_17 wd_9_18) <|
  oc_n
set_option maxRecDepth 20000 in
theorem lc_53 (C : vCx p s m args c cells slots G b Ln xs) {i : Nat} (hin : ∀ k, k < 6 → vp_in (nI i + nI k) Ln) {M : gMem} (hI : INV M) (kk : ∀ M', INV M' → gV p l e s m args below meth c cells slots Q G 2300 (vLw (nI i)) [] M') : gV p l e s m args below meth c cells slots Q G 1831 (vLw (nI i)) [] M := by
  obtain ⟨r, N, K, h1, h2, h3⟩ := S_weld ((xs (nI i + 1).toNatClampNeg)) ((xs (nI i + 2).toNatClampNeg)) ((xs (nI i + 3).toNatClampNeg)) ((xs (nI i + 4).toNatClampNeg)) M hI
  refine v_rn okL53 C 5 (pc' := 1836) (L' := vLw (nI i)) (S' := [.int (nI i + 1), .ref 960, .ref 0]) (M' := M) rfl ?_
  refine v_sld C (hin 1 (by omega)) (show decode code 1836 = .ok (.iaload, 1) by decide +kernel) ?_
  refine v_rn okL53 C 4 (pc' := 1841) (L' := vLw (nI i)) (S' := [.int (nI i + 2), .ref 960, .int (xs (nI i + 1).toNatClampNeg), .ref 0]) (M' := M) rfl ?_
  refine v_sld C (hin 2 (by omega)) (show decode code 1841 = .ok (.iaload, 1) by decide +kernel) ?_
  refine v_rn okL53 C 4 (pc' := 1846) (L' := vLw (nI i)) (S' := [.int (nI i + 3), .ref 960, .int (xs (nI i + 2).toNatClampNeg), .int (xs (nI i + 1).toNatClampNeg), .ref 0]) (M' := M) rfl ?_
  refine v_sld C (hin 3 (by omega)) (show decode code 1846 = .ok (.iaload, 1) by decide +kernel) ?_
  refine v_rn okL53 C 4 (pc' := 1851) (L' := vLw (nI i)) (S' := [.int (nI i + 4), .ref 960, .int (xs (nI i + 3).toNatClampNeg), .int (xs (nI i + 2).toNatClampNeg), .int (xs (nI i + 1).toNatClampNeg), .ref 0]) (M' := M) rfl ?_
  refine v_sld C (hin 4 (by omega)) (show decode code 1851 = .ok (.iaload, 1) by decide +kernel) ?_
  refine v_call ocL53 C rfl rfl (gOb_c rfl) rfl (SX8_weld ((xs (nI i + 1).toNatClampNeg)) ((xs (nI i + 2).toNatClampNeg)) ((xs (nI i + 3).toNatClampNeg)) ((xs (nI i + 4).toNatClampNeg)) M h1) (by decide) ?_
  refine v_rn okL53 C 5 (pc' := 1860) (L' := vLw (nI i)) (S' := [.int (nI i + 1), .ref 960, .ref 141, .int r]) (M' := N) rfl ?_
  refine v_sld C (hin 1 (by omega)) (show decode code 1860 = .ok (.iaload, 1) by decide +kernel) ?_
  refine v_rn okL53 C 4 (pc' := 1865) (L' := vLw (nI i)) (S' := [.int (nI i + 2), .ref 960, .int (xs (nI i + 1).toNatClampNeg), .ref 141, .int r]) (M' := N) rfl ?_
  refine v_sld C (hin 2 (by omega)) (show decode code 1865 = .ok (.iaload, 1) by decide +kernel) ?_
  refine v_rn okL53 C 4 (pc' := 1870) (L' := vLw (nI i)) (S' := [.int (nI i + 3), .ref 960, .int (xs (nI i + 2).toNatClampNeg), .int (xs (nI i + 1).toNatClampNeg), .ref 141, .int r]) (M' := N) rfl ?_
  refine v_sld C (hin 3 (by omega)) (show decode code 1870 = .ok (.iaload, 1) by decide +kernel) ?_
  refine v_rn okL53 C 4 (pc' := 1875) (L' := vLw (nI i)) (S' := [.int (nI i + 4), .ref 960, .int (xs (nI i + 3).toNatClampNeg), .int (xs (nI i + 2).toNatClampNeg), .int (xs (nI i + 1).toNatClampNeg), .ref 141, .int r]) (M' := N) rfl ?_
  refine v_sld C (hin 4 (by omega)) (show decode code 1875 = .ok (.iaload, 1) by decide +kernel) ?_
  refine v_call ocL53 C rfl rfl (gOb_c rfl) rfl (SX9_weld ((xs (nI i + 1).toNatClampNeg)) ((xs (nI i + 2).toNatClampNeg)) ((xs (nI i + 3).toNatClampNeg)) ((xs (nI i + 4).toNatClampNeg)) N h2) (by decide) ?_
  refine v_eq okL53 C (t := 2300) rfl ?_
  exact kk K h3
def tL54 : List (Nat × gStp) := [(1884, i_aload 1 1885), (1885, i_aload 0 1886), (1886, i_iload 3 1887), (1887, i_push (.int 1) 1888), (1888, i_ii (fun x y => x + y) 1889), (1890, i_aload 0 1891), (1891, i_iload 3 1892), (1892, i_push (.int 2) 1893), (1893, i_ii (fun x y => x + y) 1894), (1895, i_aload 0 1896), (1896, i_iload 3 1897), (1897, i_push (.int 3) 1898), (1898, i_ii (fun x y => x + y) 1899), (1903, i_aload 2 1904), (1904, i_aload 0 1905), (1905, i_iload 3 1906), (1906, i_push (.int 1) 1907), (1907, i_ii (fun x y => x + y) 1908), (1909, i_aload 0 1910), (1910, i_iload 3 1911), (1911, i_push (.int 2) 1912), (1912, i_ii (fun x y => x + y) 1913), (1914, i_aload 0 1915), (1915, i_iload 3 1916), (1916, i_push (.int 3) 1917), (1917, i_ii (fun x y => x + y) 1918), (1922, i_ic_eq 2300 1925), (1925, i_push (.int 0) 1926)]
set_option maxRecDepth 100000 in
theorem okL54 : gOk YL tL54 := ok_c (sn_aload_n (show decode code 1884 = .ok (.aload_n 1, 1) by decide +kernel) rfl) <|
  ok_c (sn_aload_n (show decode code 1885 = .ok (.aload_n 0, 1) by decide +kernel) rfl) <|
  ok_c (sn_iload_n (show decode code 1886 = .ok (.iload_n 3, 1) by decide +kernel) rfl) <|
  ok_c (sn_iconst (v := 1) (show decode code 1887 = .ok (.iconst 1, 1) by decide +kernel) (by decide +kernel)) <|
  ok_c (sn_iadd (show decode code 1888 = .ok (.iadd, 1) by decide +kernel)) <|
  ok_c (sn_aload_n (show decode code 1890 = .ok (.aload_n 0, 1) by decide +kernel) rfl) <|
  ok_c (sn_iload_n (show decode code 1891 = .ok (.iload_n 3, 1) by decide +kernel) rfl) <|
  ok_c (sn_iconst (v := 2) (show decode code 1892 = .ok (.iconst 2, 1) by decide +kernel) (by decide +kernel)) <|
  ok_c (sn_iadd (show decode code 1893 = .ok (.iadd, 1) by decide +kernel)) <|
  ok_c (sn_aload_n (show decode code 1895 = .ok (.aload_n 0, 1) by decide +kernel) rfl) <|
  ok_c (sn_iload_n (show decode code 1896 = .ok (.iload_n 3, 1) by decide +kernel) rfl) <|
  ok_c (sn_iconst (v := 3) (show decode code 1897 = .ok (.iconst 3, 1) by decide +kernel) (by decide +kernel)) <|
  ok_c (sn_iadd (show decode code 1898 = .ok (.iadd, 1) by decide +kernel)) <|
  ok_c (sn_aload_n (show decode code 1903 = .ok (.aload_n 2, 1) by decide +kernel) rfl) <|
  ok_c (sn_aload_n (show decode code 1904 = .ok (.aload_n 0, 1) by decide +kernel) rfl) <|
  ok_c (sn_iload_n (show decode code 1905 = .ok (.iload_n 3, 1) by decide +kernel) rfl) <|
  ok_c (sn_iconst (v := 1) (show decode code 1906 = .ok (.iconst 1, 1) by decide +kernel) (by decide +kernel)) <|
  ok_c (sn_iadd (show decode code 1907 = .ok (.iadd, 1) by decide +kernel)) <|
  ok_c (sn_aload_n (show decode code 1909 = .ok (.aload_n 0, 1) by decide +kernel) rfl) <|
  ok_c (sn_iload_n (show decode code 1910 = .ok (.iload_n 3, 1) by decide +kernel) rfl) <|
  ok_c (sn_iconst (v := 2) (show decode code 1911 = .ok (.iconst 2, 1) by decide +kernel) (by decide +kernel)) <|
  ok_c (sn_iadd (show decode code 1912 = .ok (.iadd, 1) by decide +kernel)) <|
  ok_c (sn_aload_n (show decode code 1914 = .ok (.aload_n 0, 1) by decide +kernel) rfl) <|
  ok_c (sn_iload_n (show decode code 1915 = .ok (.iload_n 3, 1) by decide +kernel) rfl) <|
  ok_c (sn_iconst (v := 3) (show decode code 1916 = .ok (.iconst 3, 1) by decide +kernel) (by decide +kernel)) <|
  ok_c (sn_iadd (show decode code 1917 = .ok (.iadd, 1) by decide +kernel)) <|
  ok_c (sn_ic_eq (show decode code 1922 = .ok (.if_icmp .eq 378, 3) by decide +kernel) (by decide)) <|
  ok_c (sn_iconst (v := 0) (show decode code 1925 = .ok (.iconst 0, 1) by decide +kernel) (by decide +kernel)) <|
  ok_n
def uL54 : gCT := [(1900, YX8_snip, 4, some 8), (1919, YX9_snip, 4, some 9)]
set_option maxRecDepth 100000 in
theorem ocL54 : gOkC YL uL54 := oc_c (gEdge_V cal_X8_snip ck_8 rfl (show decode code 1900 = .ok (.invokevirtual 235, 3) by decide +kernel) wd_5_111 wd_5_112 wd_5_113) <|
  oc_c (gEdge_V cal_X9_snip ck_9 rfl (show decode code 1919 = .ok (.invokevirtual 238, 3) by decide +kernel) wd_9_25 wd_9_26 wd_9_27) <|
  oc_n
set_option maxRecDepth 20000 in
theorem lc_54 (C : vCx p s m args c cells slots G b Ln xs) {i : Nat} (hin : ∀ k, k < 6 → vp_in (nI i + nI k) Ln) {M : gMem} (hI : INV M) (kk : ∀ M', INV M' → gV p l e s m args below meth c cells slots Q G 2300 (vLw (nI i)) [] M') : gV p l e s m args below meth c cells slots Q G 1884 (vLw (nI i)) [] M := by
  obtain ⟨r, N, K, h1, h2, h3⟩ := S_snip ((xs (nI i + 1).toNatClampNeg)) ((xs (nI i + 2).toNatClampNeg)) ((xs (nI i + 3).toNatClampNeg)) M hI
  refine v_rn okL54 C 5 (pc' := 1889) (L' := vLw (nI i)) (S' := [.int (nI i + 1), .ref 960, .ref 0]) (M' := M) rfl ?_
  refine v_sld C (hin 1 (by omega)) (show decode code 1889 = .ok (.iaload, 1) by decide +kernel) ?_
  refine v_rn okL54 C 4 (pc' := 1894) (L' := vLw (nI i)) (S' := [.int (nI i + 2), .ref 960, .int (xs (nI i + 1).toNatClampNeg), .ref 0]) (M' := M) rfl ?_
  refine v_sld C (hin 2 (by omega)) (show decode code 1894 = .ok (.iaload, 1) by decide +kernel) ?_
  refine v_rn okL54 C 4 (pc' := 1899) (L' := vLw (nI i)) (S' := [.int (nI i + 3), .ref 960, .int (xs (nI i + 2).toNatClampNeg), .int (xs (nI i + 1).toNatClampNeg), .ref 0]) (M' := M) rfl ?_
  refine v_sld C (hin 3 (by omega)) (show decode code 1899 = .ok (.iaload, 1) by decide +kernel) ?_
  refine v_call ocL54 C rfl rfl (gOb_c rfl) rfl (SX8_snip ((xs (nI i + 1).toNatClampNeg)) ((xs (nI i + 2).toNatClampNeg)) ((xs (nI i + 3).toNatClampNeg)) M h1) (by decide) ?_
  refine v_rn okL54 C 5 (pc' := 1908) (L' := vLw (nI i)) (S' := [.int (nI i + 1), .ref 960, .ref 141, .int r]) (M' := N) rfl ?_
  refine v_sld C (hin 1 (by omega)) (show decode code 1908 = .ok (.iaload, 1) by decide +kernel) ?_
  refine v_rn okL54 C 4 (pc' := 1913) (L' := vLw (nI i)) (S' := [.int (nI i + 2), .ref 960, .int (xs (nI i + 1).toNatClampNeg), .ref 141, .int r]) (M' := N) rfl ?_
  refine v_sld C (hin 2 (by omega)) (show decode code 1913 = .ok (.iaload, 1) by decide +kernel) ?_
  refine v_rn okL54 C 4 (pc' := 1918) (L' := vLw (nI i)) (S' := [.int (nI i + 3), .ref 960, .int (xs (nI i + 2).toNatClampNeg), .int (xs (nI i + 1).toNatClampNeg), .ref 141, .int r]) (M' := N) rfl ?_
  refine v_sld C (hin 3 (by omega)) (show decode code 1918 = .ok (.iaload, 1) by decide +kernel) ?_
  refine v_call ocL54 C rfl rfl (gOb_c rfl) rfl (SX9_snip ((xs (nI i + 1).toNatClampNeg)) ((xs (nI i + 2).toNatClampNeg)) ((xs (nI i + 3).toNatClampNeg)) N h2) (by decide) ?_
  refine v_eq okL54 C (t := 2300) rfl ?_
  exact kk K h3
def tL55 : List (Nat × gStp) := [(1927, i_aload 1 1928), (1931, i_aload 2 1932), (1935, i_ic_eq 2300 1938), (1938, i_push (.int 0) 1939)]
set_option maxRecDepth 100000 in
theorem okL55 : gOk YL tL55 := ok_c (sn_aload_n (show decode code 1927 = .ok (.aload_n 1, 1) by decide +kernel) rfl) <|
  ok_c (sn_aload_n (show decode code 1931 = .ok (.aload_n 2, 1) by decide +kernel) rfl) <|
  ok_c (sn_ic_eq (show decode code 1935 = .ok (.if_icmp .eq 365, 3) by decide +kernel) (by decide)) <|
  ok_c (sn_iconst (v := 0) (show decode code 1938 = .ok (.iconst 0, 1) by decide +kernel) (by decide +kernel)) <|
  ok_n
def uL55 : gCT := [(1928, YX8_undo, 1, some 8), (1932, YX9_undo, 1, some 9)]
set_option maxRecDepth 100000 in
theorem ocL55 : gOkC YL uL55 := oc_c (gEdge_V cal_X8_undo ck_8 rfl (show decode code 1928 = .ok (.invokevirtual 239, 3) by decide +kernel) wd_5_115 wd_5_116 wd_5_117) <|
  oc_c (gEdge_V cal_X9_undo ck_9 rfl (show decode code 1932 = .ok (.invokevirtual 242, 3) by decide +kernel) wd_9_29 wd_9_30 wd_9_31) <|
  oc_n
set_option maxRecDepth 20000 in
theorem lc_55 (C : vCx p s m args c cells slots G b Ln xs) {i : Nat} (hin : ∀ k, k < 6 → vp_in (nI i + nI k) Ln) {M : gMem} (hI : INV M) (kk : ∀ M', INV M' → gV p l e s m args below meth c cells slots Q G 2300 (vLw (nI i)) [] M') : gV p l e s m args below meth c cells slots Q G 1927 (vLw (nI i)) [] M := by
  obtain ⟨r, N, K, h1, h2, h3⟩ := S_undo M hI
  refine v_rn okL55 C 1 (pc' := 1928) (L' := vLw (nI i)) (S' := [.ref 0]) (M' := M) rfl ?_
  refine v_call ocL55 C rfl rfl (gOb_c rfl) rfl (SX8_undo M h1) (by decide) ?_
  refine v_rn okL55 C 1 (pc' := 1932) (L' := vLw (nI i)) (S' := [.ref 141, .int r]) (M' := N) rfl ?_
  refine v_call ocL55 C rfl rfl (gOb_c rfl) rfl (SX9_undo N h2) (by decide) ?_
  refine v_eq okL55 C (t := 2300) rfl ?_
  exact kk K h3
def tL56 : List (Nat × gStp) := [(1940, i_aload 1 1941), (1944, i_aload 2 1945), (1948, i_ic_eq 2300 1951), (1951, i_push (.int 0) 1952)]
set_option maxRecDepth 100000 in
theorem okL56 : gOk YL tL56 := ok_c (sn_aload_n (show decode code 1940 = .ok (.aload_n 1, 1) by decide +kernel) rfl) <|
  ok_c (sn_aload_n (show decode code 1944 = .ok (.aload_n 2, 1) by decide +kernel) rfl) <|
  ok_c (sn_ic_eq (show decode code 1948 = .ok (.if_icmp .eq 352, 3) by decide +kernel) (by decide)) <|
  ok_c (sn_iconst (v := 0) (show decode code 1951 = .ok (.iconst 0, 1) by decide +kernel) (by decide +kernel)) <|
  ok_n
def uL56 : gCT := [(1941, YX8_anew, 1, some 8), (1945, YX9_anew, 1, some 9)]
set_option maxRecDepth 100000 in
theorem ocL56 : gOkC YL uL56 := oc_c (gEdge_V cal_X8_anew ck_8 rfl (show decode code 1941 = .ok (.invokevirtual 243, 3) by decide +kernel) wd_5_119 wd_5_120 wd_5_121) <|
  oc_c (gEdge_V cal_X9_anew ck_9 rfl (show decode code 1945 = .ok (.invokevirtual 246, 3) by decide +kernel) wd_9_33 wd_9_34 wd_9_35) <|
  oc_n
set_option maxRecDepth 20000 in
theorem lc_56 (C : vCx p s m args c cells slots G b Ln xs) {i : Nat} (hin : ∀ k, k < 6 → vp_in (nI i + nI k) Ln) {M : gMem} (hI : INV M) (kk : ∀ M', INV M' → gV p l e s m args below meth c cells slots Q G 2300 (vLw (nI i)) [] M') : gV p l e s m args below meth c cells slots Q G 1940 (vLw (nI i)) [] M := by
  obtain ⟨r, N, K, h1, h2, h3⟩ := S_anew M hI
  refine v_rn okL56 C 1 (pc' := 1941) (L' := vLw (nI i)) (S' := [.ref 0]) (M' := M) rfl ?_
  refine v_call ocL56 C rfl rfl (gOb_c rfl) rfl (SX8_anew M h1) (by decide) ?_
  refine v_rn okL56 C 1 (pc' := 1945) (L' := vLw (nI i)) (S' := [.ref 141, .int r]) (M' := N) rfl ?_
  refine v_call ocL56 C rfl rfl (gOb_c rfl) rfl (SX9_anew N h2) (by decide) ?_
  refine v_eq okL56 C (t := 2300) rfl ?_
  exact kk K h3
def tL57 : List (Nat × gStp) := [(1953, i_aload 1 1954), (1954, i_aload 0 1955), (1955, i_iload 3 1956), (1956, i_push (.int 1) 1957), (1957, i_ii (fun x y => x + y) 1958), (1959, i_aload 0 1960), (1960, i_iload 3 1961), (1961, i_push (.int 2) 1962), (1962, i_ii (fun x y => x + y) 1963), (1967, i_aload 2 1968), (1968, i_aload 0 1969), (1969, i_iload 3 1970), (1970, i_push (.int 1) 1971), (1971, i_ii (fun x y => x + y) 1972), (1973, i_aload 0 1974), (1974, i_iload 3 1975), (1975, i_push (.int 2) 1976), (1976, i_ii (fun x y => x + y) 1977), (1981, i_ic_eq 2300 1984), (1984, i_push (.int 0) 1985)]
set_option maxRecDepth 100000 in
theorem okL57 : gOk YL tL57 := ok_c (sn_aload_n (show decode code 1953 = .ok (.aload_n 1, 1) by decide +kernel) rfl) <|
  ok_c (sn_aload_n (show decode code 1954 = .ok (.aload_n 0, 1) by decide +kernel) rfl) <|
  ok_c (sn_iload_n (show decode code 1955 = .ok (.iload_n 3, 1) by decide +kernel) rfl) <|
  ok_c (sn_iconst (v := 1) (show decode code 1956 = .ok (.iconst 1, 1) by decide +kernel) (by decide +kernel)) <|
  ok_c (sn_iadd (show decode code 1957 = .ok (.iadd, 1) by decide +kernel)) <|
  ok_c (sn_aload_n (show decode code 1959 = .ok (.aload_n 0, 1) by decide +kernel) rfl) <|
  ok_c (sn_iload_n (show decode code 1960 = .ok (.iload_n 3, 1) by decide +kernel) rfl) <|
  ok_c (sn_iconst (v := 2) (show decode code 1961 = .ok (.iconst 2, 1) by decide +kernel) (by decide +kernel)) <|
  ok_c (sn_iadd (show decode code 1962 = .ok (.iadd, 1) by decide +kernel)) <|
  ok_c (sn_aload_n (show decode code 1967 = .ok (.aload_n 2, 1) by decide +kernel) rfl) <|
  ok_c (sn_aload_n (show decode code 1968 = .ok (.aload_n 0, 1) by decide +kernel) rfl) <|
  ok_c (sn_iload_n (show decode code 1969 = .ok (.iload_n 3, 1) by decide +kernel) rfl) <|
  ok_c (sn_iconst (v := 1) (show decode code 1970 = .ok (.iconst 1, 1) by decide +kernel) (by decide +kernel)) <|
  ok_c (sn_iadd (show decode code 1971 = .ok (.iadd, 1) by decide +kernel)) <|
  ok_c (sn_aload_n (show decode code 1973 = .ok (.aload_n 0, 1) by decide +kernel) rfl) <|
  ok_c (sn_iload_n (show decode code 1974 = .ok (.iload_n 3, 1) by decide +kernel) rfl) <|
  ok_c (sn_iconst (v := 2) (show decode code 1975 = .ok (.iconst 2, 1) by decide +kernel) (by decide +kernel)) <|
  ok_c (sn_iadd (show decode code 1976 = .ok (.iadd, 1) by decide +kernel)) <|
  ok_c (sn_ic_eq (show decode code 1981 = .ok (.if_icmp .eq 319, 3) by decide +kernel) (by decide)) <|
  ok_c (sn_iconst (v := 0) (show decode code 1984 = .ok (.iconst 0, 1) by decide +kernel) (by decide +kernel)) <|
  ok_n
def uL57 : gCT := [(1964, YX8_drawn, 3, some 8), (1978, YX9_drawn, 3, some 9)]
set_option maxRecDepth 100000 in
theorem ocL57 : gOkC YL uL57 := oc_c (gEdge_V cal_X8_drawn ck_8 rfl (show decode code 1964 = .ok (.invokevirtual 247, 3) by decide +kernel) wd_5_123 wd_5_124 wd_5_125) <|
  oc_c (gEdge_V cal_X9_drawn ck_9 rfl (show decode code 1978 = .ok (.invokevirtual 250, 3) by decide +kernel) wd_8_234 wd_8_235 wd_8_236) <|
  oc_n
set_option maxRecDepth 20000 in
theorem lc_57 (C : vCx p s m args c cells slots G b Ln xs) {i : Nat} (hin : ∀ k, k < 6 → vp_in (nI i + nI k) Ln) {M : gMem} (hI : INV M) (kk : ∀ M', INV M' → gV p l e s m args below meth c cells slots Q G 2300 (vLw (nI i)) [] M') : gV p l e s m args below meth c cells slots Q G 1953 (vLw (nI i)) [] M := by
  obtain ⟨r, N, K, h1, h2, h3⟩ := S_drawn ((xs (nI i + 1).toNatClampNeg)) ((xs (nI i + 2).toNatClampNeg)) M hI
  refine v_rn okL57 C 5 (pc' := 1958) (L' := vLw (nI i)) (S' := [.int (nI i + 1), .ref 960, .ref 0]) (M' := M) rfl ?_
  refine v_sld C (hin 1 (by omega)) (show decode code 1958 = .ok (.iaload, 1) by decide +kernel) ?_
  refine v_rn okL57 C 4 (pc' := 1963) (L' := vLw (nI i)) (S' := [.int (nI i + 2), .ref 960, .int (xs (nI i + 1).toNatClampNeg), .ref 0]) (M' := M) rfl ?_
  refine v_sld C (hin 2 (by omega)) (show decode code 1963 = .ok (.iaload, 1) by decide +kernel) ?_
  refine v_call ocL57 C rfl rfl (gOb_c rfl) rfl (SX8_drawn ((xs (nI i + 1).toNatClampNeg)) ((xs (nI i + 2).toNatClampNeg)) M h1) (by decide) ?_
  refine v_rn okL57 C 5 (pc' := 1972) (L' := vLw (nI i)) (S' := [.int (nI i + 1), .ref 960, .ref 141, .int r]) (M' := N) rfl ?_
  refine v_sld C (hin 1 (by omega)) (show decode code 1972 = .ok (.iaload, 1) by decide +kernel) ?_
  refine v_rn okL57 C 4 (pc' := 1977) (L' := vLw (nI i)) (S' := [.int (nI i + 2), .ref 960, .int (xs (nI i + 1).toNatClampNeg), .ref 141, .int r]) (M' := N) rfl ?_
  refine v_sld C (hin 2 (by omega)) (show decode code 1977 = .ok (.iaload, 1) by decide +kernel) ?_
  refine v_call ocL57 C rfl rfl (gOb_c rfl) rfl (SX9_drawn ((xs (nI i + 1).toNatClampNeg)) ((xs (nI i + 2).toNatClampNeg)) N h2) (by decide) ?_
  refine v_eq okL57 C (t := 2300) rfl ?_
  exact kk K h3
def tL58 : List (Nat × gStp) := [(1986, i_aload 1 1987), (1987, i_aload 0 1988), (1988, i_iload 3 1989), (1989, i_push (.int 1) 1990), (1990, i_ii (fun x y => x + y) 1991), (1992, i_aload 0 1993), (1993, i_iload 3 1994), (1994, i_push (.int 2) 1995), (1995, i_ii (fun x y => x + y) 1996), (1997, i_aload 0 1998), (1998, i_iload 3 1999), (1999, i_push (.int 3) 2000), (2000, i_ii (fun x y => x + y) 2001), (2005, i_aload 2 2006), (2006, i_aload 0 2007), (2007, i_iload 3 2008), (2008, i_push (.int 1) 2009), (2009, i_ii (fun x y => x + y) 2010), (2011, i_aload 0 2012), (2012, i_iload 3 2013), (2013, i_push (.int 2) 2014), (2014, i_ii (fun x y => x + y) 2015), (2016, i_aload 0 2017), (2017, i_iload 3 2018), (2018, i_push (.int 3) 2019), (2019, i_ii (fun x y => x + y) 2020), (2024, i_ic_eq 2300 2027), (2027, i_push (.int 0) 2028)]
set_option maxRecDepth 100000 in
theorem okL58 : gOk YL tL58 := ok_c (sn_aload_n (show decode code 1986 = .ok (.aload_n 1, 1) by decide +kernel) rfl) <|
  ok_c (sn_aload_n (show decode code 1987 = .ok (.aload_n 0, 1) by decide +kernel) rfl) <|
  ok_c (sn_iload_n (show decode code 1988 = .ok (.iload_n 3, 1) by decide +kernel) rfl) <|
  ok_c (sn_iconst (v := 1) (show decode code 1989 = .ok (.iconst 1, 1) by decide +kernel) (by decide +kernel)) <|
  ok_c (sn_iadd (show decode code 1990 = .ok (.iadd, 1) by decide +kernel)) <|
  ok_c (sn_aload_n (show decode code 1992 = .ok (.aload_n 0, 1) by decide +kernel) rfl) <|
  ok_c (sn_iload_n (show decode code 1993 = .ok (.iload_n 3, 1) by decide +kernel) rfl) <|
  ok_c (sn_iconst (v := 2) (show decode code 1994 = .ok (.iconst 2, 1) by decide +kernel) (by decide +kernel)) <|
  ok_c (sn_iadd (show decode code 1995 = .ok (.iadd, 1) by decide +kernel)) <|
  ok_c (sn_aload_n (show decode code 1997 = .ok (.aload_n 0, 1) by decide +kernel) rfl) <|
  ok_c (sn_iload_n (show decode code 1998 = .ok (.iload_n 3, 1) by decide +kernel) rfl) <|
  ok_c (sn_iconst (v := 3) (show decode code 1999 = .ok (.iconst 3, 1) by decide +kernel) (by decide +kernel)) <|
  ok_c (sn_iadd (show decode code 2000 = .ok (.iadd, 1) by decide +kernel)) <|
  ok_c (sn_aload_n (show decode code 2005 = .ok (.aload_n 2, 1) by decide +kernel) rfl) <|
  ok_c (sn_aload_n (show decode code 2006 = .ok (.aload_n 0, 1) by decide +kernel) rfl) <|
  ok_c (sn_iload_n (show decode code 2007 = .ok (.iload_n 3, 1) by decide +kernel) rfl) <|
  ok_c (sn_iconst (v := 1) (show decode code 2008 = .ok (.iconst 1, 1) by decide +kernel) (by decide +kernel)) <|
  ok_c (sn_iadd (show decode code 2009 = .ok (.iadd, 1) by decide +kernel)) <|
  ok_c (sn_aload_n (show decode code 2011 = .ok (.aload_n 0, 1) by decide +kernel) rfl) <|
  ok_c (sn_iload_n (show decode code 2012 = .ok (.iload_n 3, 1) by decide +kernel) rfl) <|
  ok_c (sn_iconst (v := 2) (show decode code 2013 = .ok (.iconst 2, 1) by decide +kernel) (by decide +kernel)) <|
  ok_c (sn_iadd (show decode code 2014 = .ok (.iadd, 1) by decide +kernel)) <|
  ok_c (sn_aload_n (show decode code 2016 = .ok (.aload_n 0, 1) by decide +kernel) rfl) <|
  ok_c (sn_iload_n (show decode code 2017 = .ok (.iload_n 3, 1) by decide +kernel) rfl) <|
  ok_c (sn_iconst (v := 3) (show decode code 2018 = .ok (.iconst 3, 1) by decide +kernel) (by decide +kernel)) <|
  ok_c (sn_iadd (show decode code 2019 = .ok (.iadd, 1) by decide +kernel)) <|
  ok_c (sn_ic_eq (show decode code 2024 = .ok (.if_icmp .eq 276, 3) by decide +kernel) (by decide)) <|
  ok_c (sn_iconst (v := 0) (show decode code 2027 = .ok (.iconst 0, 1) by decide +kernel) (by decide +kernel)) <|
  ok_n
def uL58 : gCT := [(2002, YX8_luck, 4, some 8), (2021, YX9_luck, 4, some 9)]
set_option maxRecDepth 100000 in
theorem ocL58 : gOkC YL uL58 := oc_c (gEdge_V cal_X8_luck ck_8 rfl (show decode code 2002 = .ok (.invokevirtual 251, 3) by decide +kernel) wd_5_144 wd_5_145 wd_5_146) <|
  oc_c (gEdge_V cal_X9_luck ck_9 rfl (show decode code 2021 = .ok (.invokevirtual 254, 3) by decide +kernel) wd_9_11 wd_9_12 wd_9_13) <|
  oc_n
set_option maxRecDepth 20000 in
theorem lc_58 (C : vCx p s m args c cells slots G b Ln xs) {i : Nat} (hin : ∀ k, k < 6 → vp_in (nI i + nI k) Ln) {M : gMem} (hI : INV M) (kk : ∀ M', INV M' → gV p l e s m args below meth c cells slots Q G 2300 (vLw (nI i)) [] M') : gV p l e s m args below meth c cells slots Q G 1986 (vLw (nI i)) [] M := by
  obtain ⟨r, N, K, h1, h2, h3⟩ := S_luck ((xs (nI i + 1).toNatClampNeg)) ((xs (nI i + 2).toNatClampNeg)) ((xs (nI i + 3).toNatClampNeg)) M hI
  refine v_rn okL58 C 5 (pc' := 1991) (L' := vLw (nI i)) (S' := [.int (nI i + 1), .ref 960, .ref 0]) (M' := M) rfl ?_
  refine v_sld C (hin 1 (by omega)) (show decode code 1991 = .ok (.iaload, 1) by decide +kernel) ?_
  refine v_rn okL58 C 4 (pc' := 1996) (L' := vLw (nI i)) (S' := [.int (nI i + 2), .ref 960, .int (xs (nI i + 1).toNatClampNeg), .ref 0]) (M' := M) rfl ?_
  refine v_sld C (hin 2 (by omega)) (show decode code 1996 = .ok (.iaload, 1) by decide +kernel) ?_
  refine v_rn okL58 C 4 (pc' := 2001) (L' := vLw (nI i)) (S' := [.int (nI i + 3), .ref 960, .int (xs (nI i + 2).toNatClampNeg), .int (xs (nI i + 1).toNatClampNeg), .ref 0]) (M' := M) rfl ?_
  refine v_sld C (hin 3 (by omega)) (show decode code 2001 = .ok (.iaload, 1) by decide +kernel) ?_
  refine v_call ocL58 C rfl rfl (gOb_c rfl) rfl (SX8_luck ((xs (nI i + 1).toNatClampNeg)) ((xs (nI i + 2).toNatClampNeg)) ((xs (nI i + 3).toNatClampNeg)) M h1) (by decide) ?_
  refine v_rn okL58 C 5 (pc' := 2010) (L' := vLw (nI i)) (S' := [.int (nI i + 1), .ref 960, .ref 141, .int r]) (M' := N) rfl ?_
  refine v_sld C (hin 1 (by omega)) (show decode code 2010 = .ok (.iaload, 1) by decide +kernel) ?_
  refine v_rn okL58 C 4 (pc' := 2015) (L' := vLw (nI i)) (S' := [.int (nI i + 2), .ref 960, .int (xs (nI i + 1).toNatClampNeg), .ref 141, .int r]) (M' := N) rfl ?_
  refine v_sld C (hin 2 (by omega)) (show decode code 2015 = .ok (.iaload, 1) by decide +kernel) ?_
  refine v_rn okL58 C 4 (pc' := 2020) (L' := vLw (nI i)) (S' := [.int (nI i + 3), .ref 960, .int (xs (nI i + 2).toNatClampNeg), .int (xs (nI i + 1).toNatClampNeg), .ref 141, .int r]) (M' := N) rfl ?_
  refine v_sld C (hin 3 (by omega)) (show decode code 2020 = .ok (.iaload, 1) by decide +kernel) ?_
  refine v_call ocL58 C rfl rfl (gOb_c rfl) rfl (SX9_luck ((xs (nI i + 1).toNatClampNeg)) ((xs (nI i + 2).toNatClampNeg)) ((xs (nI i + 3).toNatClampNeg)) N h2) (by decide) ?_
  refine v_eq okL58 C (t := 2300) rfl ?_
  exact kk K h3
def tL59 : List (Nat × gStp) := [(2029, i_aload 1 2030), (2030, i_aload 0 2031), (2031, i_iload 3 2032), (2032, i_push (.int 1) 2033), (2033, i_ii (fun x y => x + y) 2034), (2038, i_aload 2 2039), (2039, i_aload 0 2040), (2040, i_iload 3 2041), (2041, i_push (.int 1) 2042), (2042, i_ii (fun x y => x + y) 2043), (2047, i_ic_eq 2300 2050), (2050, i_push (.int 0) 2051)]
set_option maxRecDepth 100000 in
theorem okL59 : gOk YL tL59 := ok_c (sn_aload_n (show decode code 2029 = .ok (.aload_n 1, 1) by decide +kernel) rfl) <|
  ok_c (sn_aload_n (show decode code 2030 = .ok (.aload_n 0, 1) by decide +kernel) rfl) <|
  ok_c (sn_iload_n (show decode code 2031 = .ok (.iload_n 3, 1) by decide +kernel) rfl) <|
  ok_c (sn_iconst (v := 1) (show decode code 2032 = .ok (.iconst 1, 1) by decide +kernel) (by decide +kernel)) <|
  ok_c (sn_iadd (show decode code 2033 = .ok (.iadd, 1) by decide +kernel)) <|
  ok_c (sn_aload_n (show decode code 2038 = .ok (.aload_n 2, 1) by decide +kernel) rfl) <|
  ok_c (sn_aload_n (show decode code 2039 = .ok (.aload_n 0, 1) by decide +kernel) rfl) <|
  ok_c (sn_iload_n (show decode code 2040 = .ok (.iload_n 3, 1) by decide +kernel) rfl) <|
  ok_c (sn_iconst (v := 1) (show decode code 2041 = .ok (.iconst 1, 1) by decide +kernel) (by decide +kernel)) <|
  ok_c (sn_iadd (show decode code 2042 = .ok (.iadd, 1) by decide +kernel)) <|
  ok_c (sn_ic_eq (show decode code 2047 = .ok (.if_icmp .eq 253, 3) by decide +kernel) (by decide)) <|
  ok_c (sn_iconst (v := 0) (show decode code 2050 = .ok (.iconst 0, 1) by decide +kernel) (by decide +kernel)) <|
  ok_n
def uL59 : gCT := [(2035, YX8_rate, 2, some 8), (2044, YX9_rate, 2, some 9)]
set_option maxRecDepth 100000 in
theorem ocL59 : gOkC YL uL59 := oc_c (gEdge_V cal_X8_rate ck_8 rfl (show decode code 2035 = .ok (.invokevirtual 255, 3) by decide +kernel) wd_5_148 wd_5_149 wd_5_150) <|
  oc_c (gEdge_V cal_X9_rate ck_9 rfl (show decode code 2044 = .ok (.invokevirtual 258, 3) by decide +kernel) wd_9_37 wd_9_38 wd_9_39) <|
  oc_n
set_option maxRecDepth 20000 in
theorem lc_59 (C : vCx p s m args c cells slots G b Ln xs) {i : Nat} (hin : ∀ k, k < 6 → vp_in (nI i + nI k) Ln) {M : gMem} (hI : INV M) (kk : ∀ M', INV M' → gV p l e s m args below meth c cells slots Q G 2300 (vLw (nI i)) [] M') : gV p l e s m args below meth c cells slots Q G 2029 (vLw (nI i)) [] M := by
  obtain ⟨r, N, K, h1, h2, h3⟩ := S_rate ((xs (nI i + 1).toNatClampNeg)) M hI
  refine v_rn okL59 C 5 (pc' := 2034) (L' := vLw (nI i)) (S' := [.int (nI i + 1), .ref 960, .ref 0]) (M' := M) rfl ?_
  refine v_sld C (hin 1 (by omega)) (show decode code 2034 = .ok (.iaload, 1) by decide +kernel) ?_
  refine v_call ocL59 C rfl rfl (gOb_c rfl) rfl (SX8_rate ((xs (nI i + 1).toNatClampNeg)) M h1) (by decide) ?_
  refine v_rn okL59 C 5 (pc' := 2043) (L' := vLw (nI i)) (S' := [.int (nI i + 1), .ref 960, .ref 141, .int r]) (M' := N) rfl ?_
  refine v_sld C (hin 1 (by omega)) (show decode code 2043 = .ok (.iaload, 1) by decide +kernel) ?_
  refine v_call ocL59 C rfl rfl (gOb_c rfl) rfl (SX9_rate ((xs (nI i + 1).toNatClampNeg)) N h2) (by decide) ?_
  refine v_eq okL59 C (t := 2300) rfl ?_
  exact kk K h3
def tL60 : List (Nat × gStp) := [(2052, i_aload 1 2053), (2053, i_aload 0 2054), (2054, i_iload 3 2055), (2055, i_push (.int 1) 2056), (2056, i_ii (fun x y => x + y) 2057), (2061, i_aload 2 2062), (2062, i_aload 0 2063), (2063, i_iload 3 2064), (2064, i_push (.int 1) 2065), (2065, i_ii (fun x y => x + y) 2066), (2070, i_ic_eq 2300 2073), (2073, i_push (.int 0) 2074)]
set_option maxRecDepth 100000 in
theorem okL60 : gOk YL tL60 := ok_c (sn_aload_n (show decode code 2052 = .ok (.aload_n 1, 1) by decide +kernel) rfl) <|
  ok_c (sn_aload_n (show decode code 2053 = .ok (.aload_n 0, 1) by decide +kernel) rfl) <|
  ok_c (sn_iload_n (show decode code 2054 = .ok (.iload_n 3, 1) by decide +kernel) rfl) <|
  ok_c (sn_iconst (v := 1) (show decode code 2055 = .ok (.iconst 1, 1) by decide +kernel) (by decide +kernel)) <|
  ok_c (sn_iadd (show decode code 2056 = .ok (.iadd, 1) by decide +kernel)) <|
  ok_c (sn_aload_n (show decode code 2061 = .ok (.aload_n 2, 1) by decide +kernel) rfl) <|
  ok_c (sn_aload_n (show decode code 2062 = .ok (.aload_n 0, 1) by decide +kernel) rfl) <|
  ok_c (sn_iload_n (show decode code 2063 = .ok (.iload_n 3, 1) by decide +kernel) rfl) <|
  ok_c (sn_iconst (v := 1) (show decode code 2064 = .ok (.iconst 1, 1) by decide +kernel) (by decide +kernel)) <|
  ok_c (sn_iadd (show decode code 2065 = .ok (.iadd, 1) by decide +kernel)) <|
  ok_c (sn_ic_eq (show decode code 2070 = .ok (.if_icmp .eq 230, 3) by decide +kernel) (by decide)) <|
  ok_c (sn_iconst (v := 0) (show decode code 2073 = .ok (.iconst 0, 1) by decide +kernel) (by decide +kernel)) <|
  ok_n
def uL60 : gCT := [(2058, YX8_count, 2, some 8), (2067, YX9_count, 2, some 9)]
set_option maxRecDepth 100000 in
theorem ocL60 : gOkC YL uL60 := oc_c (gEdge_V cal_X8_count ck_8 rfl (show decode code 2058 = .ok (.invokevirtual 259, 3) by decide +kernel) wd_5_152 wd_5_153 wd_5_154) <|
  oc_c (gEdge_V cal_X9_count ck_9 rfl (show decode code 2067 = .ok (.invokevirtual 262, 3) by decide +kernel) wd_9_41 wd_9_42 wd_9_43) <|
  oc_n
set_option maxRecDepth 20000 in
theorem lc_60 (C : vCx p s m args c cells slots G b Ln xs) {i : Nat} (hin : ∀ k, k < 6 → vp_in (nI i + nI k) Ln) {M : gMem} (hI : INV M) (kk : ∀ M', INV M' → gV p l e s m args below meth c cells slots Q G 2300 (vLw (nI i)) [] M') : gV p l e s m args below meth c cells slots Q G 2052 (vLw (nI i)) [] M := by
  obtain ⟨r, K, h1, h2, h3⟩ := S_count ((xs (nI i + 1).toNatClampNeg)) M hI
  refine v_rn okL60 C 5 (pc' := 2057) (L' := vLw (nI i)) (S' := [.int (nI i + 1), .ref 960, .ref 0]) (M' := M) rfl ?_
  refine v_sld C (hin 1 (by omega)) (show decode code 2057 = .ok (.iaload, 1) by decide +kernel) ?_
  refine v_call ocL60 C rfl rfl (gOb_c rfl) rfl (SX8_count ((xs (nI i + 1).toNatClampNeg)) M h1) (by decide) ?_
  refine v_rn okL60 C 5 (pc' := 2066) (L' := vLw (nI i)) (S' := [.int (nI i + 1), .ref 960, .ref 141, .int r]) (M' := M) rfl ?_
  refine v_sld C (hin 1 (by omega)) (show decode code 2066 = .ok (.iaload, 1) by decide +kernel) ?_
  refine v_call ocL60 C rfl rfl (gOb_c rfl) rfl (SX9_count ((xs (nI i + 1).toNatClampNeg)) M h2) (by decide) ?_
  refine v_eq okL60 C (t := 2300) rfl ?_
  exact kk K h3
def tL61 : List (Nat × gStp) := [(2075, i_aload 1 2076), (2076, i_aload 0 2077), (2077, i_iload 3 2078), (2078, i_push (.int 1) 2079), (2079, i_ii (fun x y => x + y) 2080), (2084, i_aload 2 2085), (2085, i_aload 0 2086), (2086, i_iload 3 2087), (2087, i_push (.int 1) 2088), (2088, i_ii (fun x y => x + y) 2089), (2093, i_ic_eq 2300 2096), (2096, i_push (.int 0) 2097)]
set_option maxRecDepth 100000 in
theorem okL61 : gOk YL tL61 := ok_c (sn_aload_n (show decode code 2075 = .ok (.aload_n 1, 1) by decide +kernel) rfl) <|
  ok_c (sn_aload_n (show decode code 2076 = .ok (.aload_n 0, 1) by decide +kernel) rfl) <|
  ok_c (sn_iload_n (show decode code 2077 = .ok (.iload_n 3, 1) by decide +kernel) rfl) <|
  ok_c (sn_iconst (v := 1) (show decode code 2078 = .ok (.iconst 1, 1) by decide +kernel) (by decide +kernel)) <|
  ok_c (sn_iadd (show decode code 2079 = .ok (.iadd, 1) by decide +kernel)) <|
  ok_c (sn_aload_n (show decode code 2084 = .ok (.aload_n 2, 1) by decide +kernel) rfl) <|
  ok_c (sn_aload_n (show decode code 2085 = .ok (.aload_n 0, 1) by decide +kernel) rfl) <|
  ok_c (sn_iload_n (show decode code 2086 = .ok (.iload_n 3, 1) by decide +kernel) rfl) <|
  ok_c (sn_iconst (v := 1) (show decode code 2087 = .ok (.iconst 1, 1) by decide +kernel) (by decide +kernel)) <|
  ok_c (sn_iadd (show decode code 2088 = .ok (.iadd, 1) by decide +kernel)) <|
  ok_c (sn_ic_eq (show decode code 2093 = .ok (.if_icmp .eq 207, 3) by decide +kernel) (by decide)) <|
  ok_c (sn_iconst (v := 0) (show decode code 2096 = .ok (.iconst 0, 1) by decide +kernel) (by decide +kernel)) <|
  ok_n
def uL61 : gCT := [(2081, YX8_image, 2, some 8), (2090, YX9_image, 2, some 9)]
set_option maxRecDepth 100000 in
theorem ocL61 : gOkC YL uL61 := oc_c (gEdge_V cal_X8_image ck_8 rfl (show decode code 2081 = .ok (.invokevirtual 263, 3) by decide +kernel) wd_5_160 wd_5_161 wd_5_162) <|
  oc_c (gEdge_V cal_X9_image ck_9 rfl (show decode code 2090 = .ok (.invokevirtual 266, 3) by decide +kernel) wd_9_46 wd_9_47 wd_9_48) <|
  oc_n
set_option maxRecDepth 20000 in
theorem lc_61 (C : vCx p s m args c cells slots G b Ln xs) {i : Nat} (hin : ∀ k, k < 6 → vp_in (nI i + nI k) Ln) {M : gMem} (hI : INV M) (kk : ∀ M', INV M' → gV p l e s m args below meth c cells slots Q G 2300 (vLw (nI i)) [] M') : gV p l e s m args below meth c cells slots Q G 2075 (vLw (nI i)) [] M := by
  obtain ⟨r, N, K, h1, h2, h3⟩ := S_image ((xs (nI i + 1).toNatClampNeg)) M hI
  refine v_rn okL61 C 5 (pc' := 2080) (L' := vLw (nI i)) (S' := [.int (nI i + 1), .ref 960, .ref 0]) (M' := M) rfl ?_
  refine v_sld C (hin 1 (by omega)) (show decode code 2080 = .ok (.iaload, 1) by decide +kernel) ?_
  refine v_call ocL61 C rfl rfl (gOb_c rfl) rfl (SX8_image ((xs (nI i + 1).toNatClampNeg)) M h1) (by decide) ?_
  refine v_rn okL61 C 5 (pc' := 2089) (L' := vLw (nI i)) (S' := [.int (nI i + 1), .ref 960, .ref 141, .int r]) (M' := N) rfl ?_
  refine v_sld C (hin 1 (by omega)) (show decode code 2089 = .ok (.iaload, 1) by decide +kernel) ?_
  refine v_call ocL61 C rfl rfl (gOb_c rfl) rfl (SX9_image ((xs (nI i + 1).toNatClampNeg)) N h2) (by decide) ?_
  refine v_eq okL61 C (t := 2300) rfl ?_
  exact kk K h3
def tL62 : List (Nat × gStp) := [(2098, i_aload 1 2099), (2099, i_aload 0 2100), (2100, i_iload 3 2101), (2101, i_push (.int 1) 2102), (2102, i_ii (fun x y => x + y) 2103), (2107, i_aload 2 2108), (2108, i_aload 0 2109), (2109, i_iload 3 2110), (2110, i_push (.int 1) 2111), (2111, i_ii (fun x y => x + y) 2112), (2116, i_ic_eq 2300 2119), (2119, i_push (.int 0) 2120)]
set_option maxRecDepth 100000 in
theorem okL62 : gOk YL tL62 := ok_c (sn_aload_n (show decode code 2098 = .ok (.aload_n 1, 1) by decide +kernel) rfl) <|
  ok_c (sn_aload_n (show decode code 2099 = .ok (.aload_n 0, 1) by decide +kernel) rfl) <|
  ok_c (sn_iload_n (show decode code 2100 = .ok (.iload_n 3, 1) by decide +kernel) rfl) <|
  ok_c (sn_iconst (v := 1) (show decode code 2101 = .ok (.iconst 1, 1) by decide +kernel) (by decide +kernel)) <|
  ok_c (sn_iadd (show decode code 2102 = .ok (.iadd, 1) by decide +kernel)) <|
  ok_c (sn_aload_n (show decode code 2107 = .ok (.aload_n 2, 1) by decide +kernel) rfl) <|
  ok_c (sn_aload_n (show decode code 2108 = .ok (.aload_n 0, 1) by decide +kernel) rfl) <|
  ok_c (sn_iload_n (show decode code 2109 = .ok (.iload_n 3, 1) by decide +kernel) rfl) <|
  ok_c (sn_iconst (v := 1) (show decode code 2110 = .ok (.iconst 1, 1) by decide +kernel) (by decide +kernel)) <|
  ok_c (sn_iadd (show decode code 2111 = .ok (.iadd, 1) by decide +kernel)) <|
  ok_c (sn_ic_eq (show decode code 2116 = .ok (.if_icmp .eq 184, 3) by decide +kernel) (by decide)) <|
  ok_c (sn_iconst (v := 0) (show decode code 2119 = .ok (.iconst 0, 1) by decide +kernel) (by decide +kernel)) <|
  ok_n
def uL62 : gCT := [(2104, YX8_back, 2, some 8), (2113, YX9_back, 2, some 9)]
set_option maxRecDepth 100000 in
theorem ocL62 : gOkC YL uL62 := oc_c (gEdge_V cal_X8_back ck_8 rfl (show decode code 2104 = .ok (.invokevirtual 267, 3) by decide +kernel) wd_5_180 wd_5_181 wd_5_182) <|
  oc_c (gEdge_V cal_X9_back ck_9 rfl (show decode code 2113 = .ok (.invokevirtual 270, 3) by decide +kernel) wd_9_50 wd_9_51 wd_9_52) <|
  oc_n
set_option maxRecDepth 20000 in
theorem lc_62 (C : vCx p s m args c cells slots G b Ln xs) {i : Nat} (hin : ∀ k, k < 6 → vp_in (nI i + nI k) Ln) {M : gMem} (hI : INV M) (kk : ∀ M', INV M' → gV p l e s m args below meth c cells slots Q G 2300 (vLw (nI i)) [] M') : gV p l e s m args below meth c cells slots Q G 2098 (vLw (nI i)) [] M := by
  obtain ⟨r, N, K, h1, h2, h3⟩ := S_back ((xs (nI i + 1).toNatClampNeg)) M hI
  refine v_rn okL62 C 5 (pc' := 2103) (L' := vLw (nI i)) (S' := [.int (nI i + 1), .ref 960, .ref 0]) (M' := M) rfl ?_
  refine v_sld C (hin 1 (by omega)) (show decode code 2103 = .ok (.iaload, 1) by decide +kernel) ?_
  refine v_call ocL62 C rfl rfl (gOb_c rfl) rfl (SX8_back ((xs (nI i + 1).toNatClampNeg)) M h1) (by decide) ?_
  refine v_rn okL62 C 5 (pc' := 2112) (L' := vLw (nI i)) (S' := [.int (nI i + 1), .ref 960, .ref 141, .int r]) (M' := N) rfl ?_
  refine v_sld C (hin 1 (by omega)) (show decode code 2112 = .ok (.iaload, 1) by decide +kernel) ?_
  refine v_call ocL62 C rfl rfl (gOb_c rfl) rfl (SX9_back ((xs (nI i + 1).toNatClampNeg)) N h2) (by decide) ?_
  refine v_eq okL62 C (t := 2300) rfl ?_
  exact kk K h3
def tL63 : List (Nat × gStp) := [(2121, i_aload 1 2122), (2122, i_aload 0 2123), (2123, i_iload 3 2124), (2124, i_push (.int 1) 2125), (2125, i_ii (fun x y => x + y) 2126), (2127, i_aload 0 2128), (2128, i_iload 3 2129), (2129, i_push (.int 2) 2130), (2130, i_ii (fun x y => x + y) 2131), (2132, i_aload 0 2133), (2133, i_iload 3 2134), (2134, i_push (.int 3) 2135), (2135, i_ii (fun x y => x + y) 2136), (2140, i_aload 2 2141), (2141, i_aload 0 2142), (2142, i_iload 3 2143), (2143, i_push (.int 1) 2144), (2144, i_ii (fun x y => x + y) 2145), (2146, i_aload 0 2147), (2147, i_iload 3 2148), (2148, i_push (.int 2) 2149), (2149, i_ii (fun x y => x + y) 2150), (2151, i_aload 0 2152), (2152, i_iload 3 2153), (2153, i_push (.int 3) 2154), (2154, i_ii (fun x y => x + y) 2155), (2159, i_ic_eq 2300 2162), (2162, i_push (.int 0) 2163)]
set_option maxRecDepth 100000 in
theorem okL63 : gOk YL tL63 := ok_c (sn_aload_n (show decode code 2121 = .ok (.aload_n 1, 1) by decide +kernel) rfl) <|
  ok_c (sn_aload_n (show decode code 2122 = .ok (.aload_n 0, 1) by decide +kernel) rfl) <|
  ok_c (sn_iload_n (show decode code 2123 = .ok (.iload_n 3, 1) by decide +kernel) rfl) <|
  ok_c (sn_iconst (v := 1) (show decode code 2124 = .ok (.iconst 1, 1) by decide +kernel) (by decide +kernel)) <|
  ok_c (sn_iadd (show decode code 2125 = .ok (.iadd, 1) by decide +kernel)) <|
  ok_c (sn_aload_n (show decode code 2127 = .ok (.aload_n 0, 1) by decide +kernel) rfl) <|
  ok_c (sn_iload_n (show decode code 2128 = .ok (.iload_n 3, 1) by decide +kernel) rfl) <|
  ok_c (sn_iconst (v := 2) (show decode code 2129 = .ok (.iconst 2, 1) by decide +kernel) (by decide +kernel)) <|
  ok_c (sn_iadd (show decode code 2130 = .ok (.iadd, 1) by decide +kernel)) <|
  ok_c (sn_aload_n (show decode code 2132 = .ok (.aload_n 0, 1) by decide +kernel) rfl) <|
  ok_c (sn_iload_n (show decode code 2133 = .ok (.iload_n 3, 1) by decide +kernel) rfl) <|
  ok_c (sn_iconst (v := 3) (show decode code 2134 = .ok (.iconst 3, 1) by decide +kernel) (by decide +kernel)) <|
  ok_c (sn_iadd (show decode code 2135 = .ok (.iadd, 1) by decide +kernel)) <|
  ok_c (sn_aload_n (show decode code 2140 = .ok (.aload_n 2, 1) by decide +kernel) rfl) <|
  ok_c (sn_aload_n (show decode code 2141 = .ok (.aload_n 0, 1) by decide +kernel) rfl) <|
  ok_c (sn_iload_n (show decode code 2142 = .ok (.iload_n 3, 1) by decide +kernel) rfl) <|
  ok_c (sn_iconst (v := 1) (show decode code 2143 = .ok (.iconst 1, 1) by decide +kernel) (by decide +kernel)) <|
  ok_c (sn_iadd (show decode code 2144 = .ok (.iadd, 1) by decide +kernel)) <|
  ok_c (sn_aload_n (show decode code 2146 = .ok (.aload_n 0, 1) by decide +kernel) rfl) <|
  ok_c (sn_iload_n (show decode code 2147 = .ok (.iload_n 3, 1) by decide +kernel) rfl) <|
  ok_c (sn_iconst (v := 2) (show decode code 2148 = .ok (.iconst 2, 1) by decide +kernel) (by decide +kernel)) <|
  ok_c (sn_iadd (show decode code 2149 = .ok (.iadd, 1) by decide +kernel)) <|
  ok_c (sn_aload_n (show decode code 2151 = .ok (.aload_n 0, 1) by decide +kernel) rfl) <|
  ok_c (sn_iload_n (show decode code 2152 = .ok (.iload_n 3, 1) by decide +kernel) rfl) <|
  ok_c (sn_iconst (v := 3) (show decode code 2153 = .ok (.iconst 3, 1) by decide +kernel) (by decide +kernel)) <|
  ok_c (sn_iadd (show decode code 2154 = .ok (.iadd, 1) by decide +kernel)) <|
  ok_c (sn_ic_eq (show decode code 2159 = .ok (.if_icmp .eq 141, 3) by decide +kernel) (by decide)) <|
  ok_c (sn_iconst (v := 0) (show decode code 2162 = .ok (.iconst 0, 1) by decide +kernel) (by decide +kernel)) <|
  ok_n
def uL63 : gCT := [(2137, YX8_row, 4, some 8), (2156, YX9_row, 4, some 9)]
set_option maxRecDepth 100000 in
theorem ocL63 : gOkC YL uL63 := oc_c (gEdge_V cal_X8_row ck_8 rfl (show decode code 2137 = .ok (.invokevirtual 271, 3) by decide +kernel) wd_5_184 wd_5_185 wd_5_186) <|
  oc_c (gEdge_V cal_X9_row ck_9 rfl (show decode code 2156 = .ok (.invokevirtual 274, 3) by decide +kernel) wd_6_126 wd_6_127 wd_6_128) <|
  oc_n
set_option maxRecDepth 20000 in
theorem lc_63 (C : vCx p s m args c cells slots G b Ln xs) {i : Nat} (hin : ∀ k, k < 6 → vp_in (nI i + nI k) Ln) {M : gMem} (hI : INV M) (kk : ∀ M', INV M' → gV p l e s m args below meth c cells slots Q G 2300 (vLw (nI i)) [] M') : gV p l e s m args below meth c cells slots Q G 2121 (vLw (nI i)) [] M := by
  obtain ⟨r, N, K, h1, h2, h3⟩ := S_row ((xs (nI i + 1).toNatClampNeg)) ((xs (nI i + 2).toNatClampNeg)) ((xs (nI i + 3).toNatClampNeg)) M hI
  refine v_rn okL63 C 5 (pc' := 2126) (L' := vLw (nI i)) (S' := [.int (nI i + 1), .ref 960, .ref 0]) (M' := M) rfl ?_
  refine v_sld C (hin 1 (by omega)) (show decode code 2126 = .ok (.iaload, 1) by decide +kernel) ?_
  refine v_rn okL63 C 4 (pc' := 2131) (L' := vLw (nI i)) (S' := [.int (nI i + 2), .ref 960, .int (xs (nI i + 1).toNatClampNeg), .ref 0]) (M' := M) rfl ?_
  refine v_sld C (hin 2 (by omega)) (show decode code 2131 = .ok (.iaload, 1) by decide +kernel) ?_
  refine v_rn okL63 C 4 (pc' := 2136) (L' := vLw (nI i)) (S' := [.int (nI i + 3), .ref 960, .int (xs (nI i + 2).toNatClampNeg), .int (xs (nI i + 1).toNatClampNeg), .ref 0]) (M' := M) rfl ?_
  refine v_sld C (hin 3 (by omega)) (show decode code 2136 = .ok (.iaload, 1) by decide +kernel) ?_
  refine v_call ocL63 C rfl rfl (gOb_c rfl) rfl (SX8_row ((xs (nI i + 1).toNatClampNeg)) ((xs (nI i + 2).toNatClampNeg)) ((xs (nI i + 3).toNatClampNeg)) M h1) (by decide) ?_
  refine v_rn okL63 C 5 (pc' := 2145) (L' := vLw (nI i)) (S' := [.int (nI i + 1), .ref 960, .ref 141, .int r]) (M' := N) rfl ?_
  refine v_sld C (hin 1 (by omega)) (show decode code 2145 = .ok (.iaload, 1) by decide +kernel) ?_
  refine v_rn okL63 C 4 (pc' := 2150) (L' := vLw (nI i)) (S' := [.int (nI i + 2), .ref 960, .int (xs (nI i + 1).toNatClampNeg), .ref 141, .int r]) (M' := N) rfl ?_
  refine v_sld C (hin 2 (by omega)) (show decode code 2150 = .ok (.iaload, 1) by decide +kernel) ?_
  refine v_rn okL63 C 4 (pc' := 2155) (L' := vLw (nI i)) (S' := [.int (nI i + 3), .ref 960, .int (xs (nI i + 2).toNatClampNeg), .int (xs (nI i + 1).toNatClampNeg), .ref 141, .int r]) (M' := N) rfl ?_
  refine v_sld C (hin 3 (by omega)) (show decode code 2155 = .ok (.iaload, 1) by decide +kernel) ?_
  refine v_call ocL63 C rfl rfl (gOb_c rfl) rfl (SX9_row ((xs (nI i + 1).toNatClampNeg)) ((xs (nI i + 2).toNatClampNeg)) ((xs (nI i + 3).toNatClampNeg)) N h2) (by decide) ?_
  refine v_eq okL63 C (t := 2300) rfl ?_
  exact kk K h3
def tL64 : List (Nat × gStp) := [(2164, i_aload 1 2165), (2165, i_aload 0 2166), (2166, i_iload 3 2167), (2167, i_push (.int 1) 2168), (2168, i_ii (fun x y => x + y) 2169), (2170, i_aload 0 2171), (2171, i_iload 3 2172), (2172, i_push (.int 2) 2173), (2173, i_ii (fun x y => x + y) 2174), (2175, i_aload 0 2176), (2176, i_iload 3 2177), (2177, i_push (.int 3) 2178), (2178, i_ii (fun x y => x + y) 2179), (2180, i_i2l 2181), (2181, i_push (.int 32) 2183), (2183, i_li (fun x y => x <<< (y.toInt64 &&& 63)) 2184), (2184, i_aload 0 2185), (2185, i_iload 3 2186), (2186, i_push (.int 4) 2187), (2187, i_ii (fun x y => x + y) 2188), (2189, i_i2l 2190), (2190, i_push (.long 4294967295) 2193), (2193, i_ll (fun x y => x &&& y) 2194), (2194, i_ll (fun x y => x ||| y) 2195), (2198, i_aload 2 2199), (2199, i_aload 0 2200), (2200, i_iload 3 2201), (2201, i_push (.int 1) 2202), (2202, i_ii (fun x y => x + y) 2203), (2204, i_aload 0 2205), (2205, i_iload 3 2206), (2206, i_push (.int 2) 2207), (2207, i_ii (fun x y => x + y) 2208), (2209, i_aload 0 2210), (2210, i_iload 3 2211), (2211, i_push (.int 3) 2212), (2212, i_ii (fun x y => x + y) 2213), (2214, i_i2l 2215), (2215, i_push (.int 32) 2217), (2217, i_li (fun x y => x <<< (y.toInt64 &&& 63)) 2218), (2218, i_aload 0 2219), (2219, i_iload 3 2220), (2220, i_push (.int 4) 2221), (2221, i_ii (fun x y => x + y) 2222), (2223, i_i2l 2224), (2224, i_push (.long 4294967295) 2227), (2227, i_ll (fun x y => x &&& y) 2228), (2228, i_ll (fun x y => x ||| y) 2229), (2232, i_ic_eq 2300 2235), (2235, i_push (.int 0) 2236)]
set_option maxRecDepth 100000 in
theorem okL64 : gOk YL tL64 := ok_c (sn_aload_n (show decode code 2164 = .ok (.aload_n 1, 1) by decide +kernel) rfl) <|
  ok_c (sn_aload_n (show decode code 2165 = .ok (.aload_n 0, 1) by decide +kernel) rfl) <|
  ok_c (sn_iload_n (show decode code 2166 = .ok (.iload_n 3, 1) by decide +kernel) rfl) <|
  ok_c (sn_iconst (v := 1) (show decode code 2167 = .ok (.iconst 1, 1) by decide +kernel) (by decide +kernel)) <|
  ok_c (sn_iadd (show decode code 2168 = .ok (.iadd, 1) by decide +kernel)) <|
  ok_c (sn_aload_n (show decode code 2170 = .ok (.aload_n 0, 1) by decide +kernel) rfl) <|
  ok_c (sn_iload_n (show decode code 2171 = .ok (.iload_n 3, 1) by decide +kernel) rfl) <|
  ok_c (sn_iconst (v := 2) (show decode code 2172 = .ok (.iconst 2, 1) by decide +kernel) (by decide +kernel)) <|
  ok_c (sn_iadd (show decode code 2173 = .ok (.iadd, 1) by decide +kernel)) <|
  ok_c (sn_aload_n (show decode code 2175 = .ok (.aload_n 0, 1) by decide +kernel) rfl) <|
  ok_c (sn_iload_n (show decode code 2176 = .ok (.iload_n 3, 1) by decide +kernel) rfl) <|
  ok_c (sn_iconst (v := 3) (show decode code 2177 = .ok (.iconst 3, 1) by decide +kernel) (by decide +kernel)) <|
  ok_c (sn_iadd (show decode code 2178 = .ok (.iadd, 1) by decide +kernel)) <|
  ok_c (sn_i2l (show decode code 2180 = .ok (.i2l, 1) by decide +kernel)) <|
  ok_c (sn_bipush (v := 32) (show decode code 2181 = .ok (.bipush 32, 2) by decide +kernel) (by decide +kernel)) <|
  ok_c (sn_lshl (show decode code 2183 = .ok (.lshl, 1) by decide +kernel)) <|
  ok_c (sn_aload_n (show decode code 2184 = .ok (.aload_n 0, 1) by decide +kernel) rfl) <|
  ok_c (sn_iload_n (show decode code 2185 = .ok (.iload_n 3, 1) by decide +kernel) rfl) <|
  ok_c (sn_iconst (v := 4) (show decode code 2186 = .ok (.iconst 4, 1) by decide +kernel) (by decide +kernel)) <|
  ok_c (sn_iadd (show decode code 2187 = .ok (.iadd, 1) by decide +kernel)) <|
  ok_c (sn_i2l (show decode code 2189 = .ok (.i2l, 1) by decide +kernel)) <|
  ok_c (sn_ldc2 (show decode code 2190 = .ok (.ldc2_w 275, 3) by decide +kernel) wd_9_54) <|
  ok_c (sn_land (show decode code 2193 = .ok (.land, 1) by decide +kernel)) <|
  ok_c (sn_lor (show decode code 2194 = .ok (.lor, 1) by decide +kernel)) <|
  ok_c (sn_aload_n (show decode code 2198 = .ok (.aload_n 2, 1) by decide +kernel) rfl) <|
  ok_c (sn_aload_n (show decode code 2199 = .ok (.aload_n 0, 1) by decide +kernel) rfl) <|
  ok_c (sn_iload_n (show decode code 2200 = .ok (.iload_n 3, 1) by decide +kernel) rfl) <|
  ok_c (sn_iconst (v := 1) (show decode code 2201 = .ok (.iconst 1, 1) by decide +kernel) (by decide +kernel)) <|
  ok_c (sn_iadd (show decode code 2202 = .ok (.iadd, 1) by decide +kernel)) <|
  ok_c (sn_aload_n (show decode code 2204 = .ok (.aload_n 0, 1) by decide +kernel) rfl) <|
  ok_c (sn_iload_n (show decode code 2205 = .ok (.iload_n 3, 1) by decide +kernel) rfl) <|
  ok_c (sn_iconst (v := 2) (show decode code 2206 = .ok (.iconst 2, 1) by decide +kernel) (by decide +kernel)) <|
  ok_c (sn_iadd (show decode code 2207 = .ok (.iadd, 1) by decide +kernel)) <|
  ok_c (sn_aload_n (show decode code 2209 = .ok (.aload_n 0, 1) by decide +kernel) rfl) <|
  ok_c (sn_iload_n (show decode code 2210 = .ok (.iload_n 3, 1) by decide +kernel) rfl) <|
  ok_c (sn_iconst (v := 3) (show decode code 2211 = .ok (.iconst 3, 1) by decide +kernel) (by decide +kernel)) <|
  ok_c (sn_iadd (show decode code 2212 = .ok (.iadd, 1) by decide +kernel)) <|
  ok_c (sn_i2l (show decode code 2214 = .ok (.i2l, 1) by decide +kernel)) <|
  ok_c (sn_bipush (v := 32) (show decode code 2215 = .ok (.bipush 32, 2) by decide +kernel) (by decide +kernel)) <|
  ok_c (sn_lshl (show decode code 2217 = .ok (.lshl, 1) by decide +kernel)) <|
  ok_c (sn_aload_n (show decode code 2218 = .ok (.aload_n 0, 1) by decide +kernel) rfl) <|
  ok_c (sn_iload_n (show decode code 2219 = .ok (.iload_n 3, 1) by decide +kernel) rfl) <|
  ok_c (sn_iconst (v := 4) (show decode code 2220 = .ok (.iconst 4, 1) by decide +kernel) (by decide +kernel)) <|
  ok_c (sn_iadd (show decode code 2221 = .ok (.iadd, 1) by decide +kernel)) <|
  ok_c (sn_i2l (show decode code 2223 = .ok (.i2l, 1) by decide +kernel)) <|
  ok_c (sn_ldc2 (show decode code 2224 = .ok (.ldc2_w 275, 3) by decide +kernel) wd_9_54) <|
  ok_c (sn_land (show decode code 2227 = .ok (.land, 1) by decide +kernel)) <|
  ok_c (sn_lor (show decode code 2228 = .ok (.lor, 1) by decide +kernel)) <|
  ok_c (sn_ic_eq (show decode code 2232 = .ok (.if_icmp .eq 68, 3) by decide +kernel) (by decide)) <|
  ok_c (sn_iconst (v := 0) (show decode code 2235 = .ok (.iconst 0, 1) by decide +kernel) (by decide +kernel)) <|
  ok_n
def uL64 : gCT := [(2195, YX8_write, 4, some 8), (2229, YX9_write, 4, some 9)]
set_option maxRecDepth 100000 in
theorem ocL64 : gOkC YL uL64 := oc_c (gEdge_V cal_X8_write ck_8 rfl (show decode code 2195 = .ok (.invokevirtual 277, 3) by decide +kernel) wd_5_194 wd_5_195 wd_5_196) <|
  oc_c (gEdge_V cal_X9_write ck_9 rfl (show decode code 2229 = .ok (.invokevirtual 281, 3) by decide +kernel) wd_6_137 wd_6_138 wd_6_139) <|
  oc_n
set_option maxRecDepth 20000 in
theorem lc_64 (C : vCx p s m args c cells slots G b Ln xs) {i : Nat} (hin : ∀ k, k < 6 → vp_in (nI i + nI k) Ln) {M : gMem} (hI : INV M) (kk : ∀ M', INV M' → gV p l e s m args below meth c cells slots Q G 2300 (vLw (nI i)) [] M') : gV p l e s m args below meth c cells slots Q G 2164 (vLw (nI i)) [] M := by
  obtain ⟨r, N, K, h1, h2, h3⟩ := S_write ((xs (nI i + 1).toNatClampNeg)) ((xs (nI i + 2).toNatClampNeg)) (((((xs (nI i + 3).toNatClampNeg)).toInt64 <<< ((32 : Int32).toInt64 &&& 63)) ||| (((xs (nI i + 4).toNatClampNeg)).toInt64 &&& 4294967295))) M hI
  refine v_rn okL64 C 5 (pc' := 2169) (L' := vLw (nI i)) (S' := [.int (nI i + 1), .ref 960, .ref 0]) (M' := M) rfl ?_
  refine v_sld C (hin 1 (by omega)) (show decode code 2169 = .ok (.iaload, 1) by decide +kernel) ?_
  refine v_rn okL64 C 4 (pc' := 2174) (L' := vLw (nI i)) (S' := [.int (nI i + 2), .ref 960, .int (xs (nI i + 1).toNatClampNeg), .ref 0]) (M' := M) rfl ?_
  refine v_sld C (hin 2 (by omega)) (show decode code 2174 = .ok (.iaload, 1) by decide +kernel) ?_
  refine v_rn okL64 C 4 (pc' := 2179) (L' := vLw (nI i)) (S' := [.int (nI i + 3), .ref 960, .int (xs (nI i + 2).toNatClampNeg), .int (xs (nI i + 1).toNatClampNeg), .ref 0]) (M' := M) rfl ?_
  refine v_sld C (hin 3 (by omega)) (show decode code 2179 = .ok (.iaload, 1) by decide +kernel) ?_
  refine v_rn okL64 C 7 (pc' := 2188) (L' := vLw (nI i)) (S' := [.int (nI i + 4), .ref 960, .long (((xs (nI i + 3).toNatClampNeg)).toInt64 <<< ((32 : Int32).toInt64 &&& 63)), .int (xs (nI i + 2).toNatClampNeg), .int (xs (nI i + 1).toNatClampNeg), .ref 0]) (M' := M) rfl ?_
  refine v_sld C (hin 4 (by omega)) (show decode code 2188 = .ok (.iaload, 1) by decide +kernel) ?_
  refine v_rn okL64 C 4 (pc' := 2195) (L' := vLw (nI i)) (S' := [.long ((((xs (nI i + 3).toNatClampNeg)).toInt64 <<< ((32 : Int32).toInt64 &&& 63)) ||| (((xs (nI i + 4).toNatClampNeg)).toInt64 &&& 4294967295)), .int (xs (nI i + 2).toNatClampNeg), .int (xs (nI i + 1).toNatClampNeg), .ref 0]) (M' := M) rfl ?_
  refine v_call ocL64 C rfl rfl (gOb_c rfl) rfl (SX8_write ((xs (nI i + 1).toNatClampNeg)) ((xs (nI i + 2).toNatClampNeg)) (((((xs (nI i + 3).toNatClampNeg)).toInt64 <<< ((32 : Int32).toInt64 &&& 63)) ||| (((xs (nI i + 4).toNatClampNeg)).toInt64 &&& 4294967295))) M h1) (by decide) ?_
  refine v_rn okL64 C 5 (pc' := 2203) (L' := vLw (nI i)) (S' := [.int (nI i + 1), .ref 960, .ref 141, .int r]) (M' := N) rfl ?_
  refine v_sld C (hin 1 (by omega)) (show decode code 2203 = .ok (.iaload, 1) by decide +kernel) ?_
  refine v_rn okL64 C 4 (pc' := 2208) (L' := vLw (nI i)) (S' := [.int (nI i + 2), .ref 960, .int (xs (nI i + 1).toNatClampNeg), .ref 141, .int r]) (M' := N) rfl ?_
  refine v_sld C (hin 2 (by omega)) (show decode code 2208 = .ok (.iaload, 1) by decide +kernel) ?_
  refine v_rn okL64 C 4 (pc' := 2213) (L' := vLw (nI i)) (S' := [.int (nI i + 3), .ref 960, .int (xs (nI i + 2).toNatClampNeg), .int (xs (nI i + 1).toNatClampNeg), .ref 141, .int r]) (M' := N) rfl ?_
  refine v_sld C (hin 3 (by omega)) (show decode code 2213 = .ok (.iaload, 1) by decide +kernel) ?_
  refine v_rn okL64 C 7 (pc' := 2222) (L' := vLw (nI i)) (S' := [.int (nI i + 4), .ref 960, .long (((xs (nI i + 3).toNatClampNeg)).toInt64 <<< ((32 : Int32).toInt64 &&& 63)), .int (xs (nI i + 2).toNatClampNeg), .int (xs (nI i + 1).toNatClampNeg), .ref 141, .int r]) (M' := N) rfl ?_
  refine v_sld C (hin 4 (by omega)) (show decode code 2222 = .ok (.iaload, 1) by decide +kernel) ?_
  refine v_rn okL64 C 4 (pc' := 2229) (L' := vLw (nI i)) (S' := [.long ((((xs (nI i + 3).toNatClampNeg)).toInt64 <<< ((32 : Int32).toInt64 &&& 63)) ||| (((xs (nI i + 4).toNatClampNeg)).toInt64 &&& 4294967295)), .int (xs (nI i + 2).toNatClampNeg), .int (xs (nI i + 1).toNatClampNeg), .ref 141, .int r]) (M' := N) rfl ?_
  refine v_call ocL64 C rfl rfl (gOb_c rfl) rfl (SX9_write ((xs (nI i + 1).toNatClampNeg)) ((xs (nI i + 2).toNatClampNeg)) (((((xs (nI i + 3).toNatClampNeg)).toInt64 <<< ((32 : Int32).toInt64 &&& 63)) ||| (((xs (nI i + 4).toNatClampNeg)).toInt64 &&& 4294967295))) N h2) (by decide) ?_
  refine v_eq okL64 C (t := 2300) rfl ?_
  exact kk K h3
def tL65 : List (Nat × gStp) := [(2237, i_aload 1 2238), (2238, i_aload 0 2239), (2239, i_iload 3 2240), (2240, i_push (.int 1) 2241), (2241, i_ii (fun x y => x + y) 2242), (2243, i_aload 0 2244), (2244, i_iload 3 2245), (2245, i_push (.int 2) 2246), (2246, i_ii (fun x y => x + y) 2247), (2248, i_aload 0 2249), (2249, i_iload 3 2250), (2250, i_push (.int 3) 2251), (2251, i_ii (fun x y => x + y) 2252), (2253, i_aload 0 2254), (2254, i_iload 3 2255), (2255, i_push (.int 4) 2256), (2256, i_ii (fun x y => x + y) 2257), (2258, i_aload 0 2259), (2259, i_iload 3 2260), (2260, i_push (.int 5) 2261), (2261, i_ii (fun x y => x + y) 2262), (2266, i_aload 2 2267), (2267, i_aload 0 2268), (2268, i_iload 3 2269), (2269, i_push (.int 1) 2270), (2270, i_ii (fun x y => x + y) 2271), (2272, i_aload 0 2273), (2273, i_iload 3 2274), (2274, i_push (.int 2) 2275), (2275, i_ii (fun x y => x + y) 2276), (2277, i_aload 0 2278), (2278, i_iload 3 2279), (2279, i_push (.int 3) 2280), (2280, i_ii (fun x y => x + y) 2281), (2282, i_aload 0 2283), (2283, i_iload 3 2284), (2284, i_push (.int 4) 2285), (2285, i_ii (fun x y => x + y) 2286), (2287, i_aload 0 2288), (2288, i_iload 3 2289), (2289, i_push (.int 5) 2290), (2290, i_ii (fun x y => x + y) 2291), (2295, i_ic_eq 2300 2298), (2298, i_push (.int 0) 2299)]
set_option maxRecDepth 100000 in
theorem okL65 : gOk YL tL65 := ok_c (sn_aload_n (show decode code 2237 = .ok (.aload_n 1, 1) by decide +kernel) rfl) <|
  ok_c (sn_aload_n (show decode code 2238 = .ok (.aload_n 0, 1) by decide +kernel) rfl) <|
  ok_c (sn_iload_n (show decode code 2239 = .ok (.iload_n 3, 1) by decide +kernel) rfl) <|
  ok_c (sn_iconst (v := 1) (show decode code 2240 = .ok (.iconst 1, 1) by decide +kernel) (by decide +kernel)) <|
  ok_c (sn_iadd (show decode code 2241 = .ok (.iadd, 1) by decide +kernel)) <|
  ok_c (sn_aload_n (show decode code 2243 = .ok (.aload_n 0, 1) by decide +kernel) rfl) <|
  ok_c (sn_iload_n (show decode code 2244 = .ok (.iload_n 3, 1) by decide +kernel) rfl) <|
  ok_c (sn_iconst (v := 2) (show decode code 2245 = .ok (.iconst 2, 1) by decide +kernel) (by decide +kernel)) <|
  ok_c (sn_iadd (show decode code 2246 = .ok (.iadd, 1) by decide +kernel)) <|
  ok_c (sn_aload_n (show decode code 2248 = .ok (.aload_n 0, 1) by decide +kernel) rfl) <|
  ok_c (sn_iload_n (show decode code 2249 = .ok (.iload_n 3, 1) by decide +kernel) rfl) <|
  ok_c (sn_iconst (v := 3) (show decode code 2250 = .ok (.iconst 3, 1) by decide +kernel) (by decide +kernel)) <|
  ok_c (sn_iadd (show decode code 2251 = .ok (.iadd, 1) by decide +kernel)) <|
  ok_c (sn_aload_n (show decode code 2253 = .ok (.aload_n 0, 1) by decide +kernel) rfl) <|
  ok_c (sn_iload_n (show decode code 2254 = .ok (.iload_n 3, 1) by decide +kernel) rfl) <|
  ok_c (sn_iconst (v := 4) (show decode code 2255 = .ok (.iconst 4, 1) by decide +kernel) (by decide +kernel)) <|
  ok_c (sn_iadd (show decode code 2256 = .ok (.iadd, 1) by decide +kernel)) <|
  ok_c (sn_aload_n (show decode code 2258 = .ok (.aload_n 0, 1) by decide +kernel) rfl) <|
  ok_c (sn_iload_n (show decode code 2259 = .ok (.iload_n 3, 1) by decide +kernel) rfl) <|
  ok_c (sn_iconst (v := 5) (show decode code 2260 = .ok (.iconst 5, 1) by decide +kernel) (by decide +kernel)) <|
  ok_c (sn_iadd (show decode code 2261 = .ok (.iadd, 1) by decide +kernel)) <|
  ok_c (sn_aload_n (show decode code 2266 = .ok (.aload_n 2, 1) by decide +kernel) rfl) <|
  ok_c (sn_aload_n (show decode code 2267 = .ok (.aload_n 0, 1) by decide +kernel) rfl) <|
  ok_c (sn_iload_n (show decode code 2268 = .ok (.iload_n 3, 1) by decide +kernel) rfl) <|
  ok_c (sn_iconst (v := 1) (show decode code 2269 = .ok (.iconst 1, 1) by decide +kernel) (by decide +kernel)) <|
  ok_c (sn_iadd (show decode code 2270 = .ok (.iadd, 1) by decide +kernel)) <|
  ok_c (sn_aload_n (show decode code 2272 = .ok (.aload_n 0, 1) by decide +kernel) rfl) <|
  ok_c (sn_iload_n (show decode code 2273 = .ok (.iload_n 3, 1) by decide +kernel) rfl) <|
  ok_c (sn_iconst (v := 2) (show decode code 2274 = .ok (.iconst 2, 1) by decide +kernel) (by decide +kernel)) <|
  ok_c (sn_iadd (show decode code 2275 = .ok (.iadd, 1) by decide +kernel)) <|
  ok_c (sn_aload_n (show decode code 2277 = .ok (.aload_n 0, 1) by decide +kernel) rfl) <|
  ok_c (sn_iload_n (show decode code 2278 = .ok (.iload_n 3, 1) by decide +kernel) rfl) <|
  ok_c (sn_iconst (v := 3) (show decode code 2279 = .ok (.iconst 3, 1) by decide +kernel) (by decide +kernel)) <|
  ok_c (sn_iadd (show decode code 2280 = .ok (.iadd, 1) by decide +kernel)) <|
  ok_c (sn_aload_n (show decode code 2282 = .ok (.aload_n 0, 1) by decide +kernel) rfl) <|
  ok_c (sn_iload_n (show decode code 2283 = .ok (.iload_n 3, 1) by decide +kernel) rfl) <|
  ok_c (sn_iconst (v := 4) (show decode code 2284 = .ok (.iconst 4, 1) by decide +kernel) (by decide +kernel)) <|
  ok_c (sn_iadd (show decode code 2285 = .ok (.iadd, 1) by decide +kernel)) <|
  ok_c (sn_aload_n (show decode code 2287 = .ok (.aload_n 0, 1) by decide +kernel) rfl) <|
  ok_c (sn_iload_n (show decode code 2288 = .ok (.iload_n 3, 1) by decide +kernel) rfl) <|
  ok_c (sn_iconst (v := 5) (show decode code 2289 = .ok (.iconst 5, 1) by decide +kernel) (by decide +kernel)) <|
  ok_c (sn_iadd (show decode code 2290 = .ok (.iadd, 1) by decide +kernel)) <|
  ok_c (sn_ic_eq (show decode code 2295 = .ok (.if_icmp .eq 5, 3) by decide +kernel) (by decide)) <|
  ok_c (sn_iconst (v := 0) (show decode code 2298 = .ok (.iconst 0, 1) by decide +kernel) (by decide +kernel)) <|
  ok_n
def uL65 : gCT := [(2263, YX8_paste, 6, some 8), (2292, YX9_paste, 6, some 9)]
set_option maxRecDepth 100000 in
theorem ocL65 : gOkC YL uL65 := oc_c (gEdge_V cal_X8_paste ck_8 rfl (show decode code 2263 = .ok (.invokevirtual 282, 3) by decide +kernel) wd_5_202 wd_5_203 wd_5_204) <|
  oc_c (gEdge_V cal_X9_paste ck_9 rfl (show decode code 2292 = .ok (.invokevirtual 285, 3) by decide +kernel) wd_6_144 wd_6_145 wd_6_146) <|
  oc_n
set_option maxRecDepth 20000 in
theorem lc_65 (C : vCx p s m args c cells slots G b Ln xs) {i : Nat} (hin : ∀ k, k < 6 → vp_in (nI i + nI k) Ln) {M : gMem} (hI : INV M) (kk : ∀ M', INV M' → gV p l e s m args below meth c cells slots Q G 2300 (vLw (nI i)) [] M') : gV p l e s m args below meth c cells slots Q G 2237 (vLw (nI i)) [] M := by
  obtain ⟨r, N, K, h1, h2, h3⟩ := S_paste ((xs (nI i + 1).toNatClampNeg)) ((xs (nI i + 2).toNatClampNeg)) ((xs (nI i + 3).toNatClampNeg)) ((xs (nI i + 4).toNatClampNeg)) ((xs (nI i + 5).toNatClampNeg)) M hI
  refine v_rn okL65 C 5 (pc' := 2242) (L' := vLw (nI i)) (S' := [.int (nI i + 1), .ref 960, .ref 0]) (M' := M) rfl ?_
  refine v_sld C (hin 1 (by omega)) (show decode code 2242 = .ok (.iaload, 1) by decide +kernel) ?_
  refine v_rn okL65 C 4 (pc' := 2247) (L' := vLw (nI i)) (S' := [.int (nI i + 2), .ref 960, .int (xs (nI i + 1).toNatClampNeg), .ref 0]) (M' := M) rfl ?_
  refine v_sld C (hin 2 (by omega)) (show decode code 2247 = .ok (.iaload, 1) by decide +kernel) ?_
  refine v_rn okL65 C 4 (pc' := 2252) (L' := vLw (nI i)) (S' := [.int (nI i + 3), .ref 960, .int (xs (nI i + 2).toNatClampNeg), .int (xs (nI i + 1).toNatClampNeg), .ref 0]) (M' := M) rfl ?_
  refine v_sld C (hin 3 (by omega)) (show decode code 2252 = .ok (.iaload, 1) by decide +kernel) ?_
  refine v_rn okL65 C 4 (pc' := 2257) (L' := vLw (nI i)) (S' := [.int (nI i + 4), .ref 960, .int (xs (nI i + 3).toNatClampNeg), .int (xs (nI i + 2).toNatClampNeg), .int (xs (nI i + 1).toNatClampNeg), .ref 0]) (M' := M) rfl ?_
  refine v_sld C (hin 4 (by omega)) (show decode code 2257 = .ok (.iaload, 1) by decide +kernel) ?_
  refine v_rn okL65 C 4 (pc' := 2262) (L' := vLw (nI i)) (S' := [.int (nI i + 5), .ref 960, .int (xs (nI i + 4).toNatClampNeg), .int (xs (nI i + 3).toNatClampNeg), .int (xs (nI i + 2).toNatClampNeg), .int (xs (nI i + 1).toNatClampNeg), .ref 0]) (M' := M) rfl ?_
  refine v_sld C (hin 5 (by omega)) (show decode code 2262 = .ok (.iaload, 1) by decide +kernel) ?_
  refine v_call ocL65 C rfl rfl (gOb_c rfl) rfl (SX8_paste ((xs (nI i + 1).toNatClampNeg)) ((xs (nI i + 2).toNatClampNeg)) ((xs (nI i + 3).toNatClampNeg)) ((xs (nI i + 4).toNatClampNeg)) ((xs (nI i + 5).toNatClampNeg)) M h1) (by decide) ?_
  refine v_rn okL65 C 5 (pc' := 2271) (L' := vLw (nI i)) (S' := [.int (nI i + 1), .ref 960, .ref 141, .int r]) (M' := N) rfl ?_
  refine v_sld C (hin 1 (by omega)) (show decode code 2271 = .ok (.iaload, 1) by decide +kernel) ?_
  refine v_rn okL65 C 4 (pc' := 2276) (L' := vLw (nI i)) (S' := [.int (nI i + 2), .ref 960, .int (xs (nI i + 1).toNatClampNeg), .ref 141, .int r]) (M' := N) rfl ?_
  refine v_sld C (hin 2 (by omega)) (show decode code 2276 = .ok (.iaload, 1) by decide +kernel) ?_
  refine v_rn okL65 C 4 (pc' := 2281) (L' := vLw (nI i)) (S' := [.int (nI i + 3), .ref 960, .int (xs (nI i + 2).toNatClampNeg), .int (xs (nI i + 1).toNatClampNeg), .ref 141, .int r]) (M' := N) rfl ?_
  refine v_sld C (hin 3 (by omega)) (show decode code 2281 = .ok (.iaload, 1) by decide +kernel) ?_
  refine v_rn okL65 C 4 (pc' := 2286) (L' := vLw (nI i)) (S' := [.int (nI i + 4), .ref 960, .int (xs (nI i + 3).toNatClampNeg), .int (xs (nI i + 2).toNatClampNeg), .int (xs (nI i + 1).toNatClampNeg), .ref 141, .int r]) (M' := N) rfl ?_
  refine v_sld C (hin 4 (by omega)) (show decode code 2286 = .ok (.iaload, 1) by decide +kernel) ?_
  refine v_rn okL65 C 4 (pc' := 2291) (L' := vLw (nI i)) (S' := [.int (nI i + 5), .ref 960, .int (xs (nI i + 4).toNatClampNeg), .int (xs (nI i + 3).toNatClampNeg), .int (xs (nI i + 2).toNatClampNeg), .int (xs (nI i + 1).toNatClampNeg), .ref 141, .int r]) (M' := N) rfl ?_
  refine v_sld C (hin 5 (by omega)) (show decode code 2291 = .ok (.iaload, 1) by decide +kernel) ?_
  refine v_call ocL65 C rfl rfl (gOb_c rfl) rfl (SX9_paste ((xs (nI i + 1).toNatClampNeg)) ((xs (nI i + 2).toNatClampNeg)) ((xs (nI i + 3).toNatClampNeg)) ((xs (nI i + 4).toNatClampNeg)) ((xs (nI i + 5).toNatClampNeg)) N h2) (by decide) ?_
  refine v_eq okL65 C (t := 2300) rfl ?_
  exact kk K h3
end LCS
