/-! The law, over the small machine. -/
def YL : gY := (x, code, 4, ret)
def vTs : List (Int32 × Nat) := [(0, 312), (1, 375), (2, 398), (3, 411), (4, 434), (5, 467), (6, 500), (7, 523), (8, 546), (9, 589), (10, 622), (11, 645), (12, 678), (13, 711), (14, 734), (15, 777), (16, 800), (17, 823), (18, 856), (19, 889), (20, 912), (21, 935), (22, 958), (23, 981), (24, 994), (25, 1027), (26, 1050), (27, 1073), (28, 1096), (29, 1119), (30, 1142), (31, 1165), (32, 1208), (33, 1241), (34, 1274), (35, 1307), (36, 1340), (37, 1373), (38, 1396), (39, 1419), (40, 1432), (41, 1455), (42, 1478), (43, 1501), (44, 1524), (45, 1547), (46, 1570), (47, 1603), (48, 1636), (49, 1689), (50, 1722), (51, 1765), (52, 1808), (53, 1831), (54, 1884), (55, 1927), (56, 1940), (57, 1953), (58, 1986), (59, 2029), (60, 2052), (61, 2075), (62, 2098), (63, 2121), (64, 2164), (65, 2237)]
def vCx (p : Program) (s : State) (m : MethodId) (args : Array Value) (c : Code) (cells slots : Nat) (G : gG) (b Ln : Nat) (xs : Nat → Int32) : Prop := gCx "WaxedPartnersLaw" code 4 p room_1 s m args c cells slots G ∧ va_X b Ln xs s s.heap ∧ b < s.heap.size ∧ ¬ gA G b ∧ G.2.2 960 = b
def gV (p : Program) (l : Launch) (e : Env) (s : State) (m : MethodId) (args : Array Value) (below : List Frame) (meth : Method) (c : Code) (cells slots : Nat) (Q : State → Prop) (G : gG) (pc : Nat) (L : gLoc) (S : List Value) (M : gMem) : Prop := gW 4 p l e room_1 s m args below meth c cells slots Q G pc L S M
def vLw (i : Int32) : gLoc := [some (.ref 960), some (.ref 0), some (.ref 141), some (.int i)]
section GVS
variable {p : Program} {l : Launch} {e : Env} {s : State} {m : MethodId} {args : Array Value} {below : List Frame} {meth : Method} {c : Code} {cells slots : Nat} {Q : State → Prop} {G : gG} {b Ln : Nat} {xs : Nat → Int32}
variable {pc : Nat} {L : gLoc} {S : List Value} {M : gMem} {tbl : List (Nat × gStp)} {ct : gCT}
theorem v_st {pc' : Nat} {L' : gLoc} {S' : List Value} {M' : gMem} (ok : gOk YL tbl) (C : vCx p s m args c cells slots G b Ln xs) (h : gAt tbl pc L S M = some (pc', L', S', M')) (k : gV p l e s m args below meth c cells slots Q G pc' L' S' M') : gV p l e s m args below meth c cells slots Q G pc L S M :=
  gAt_ok ok pc p l e room_1 s m args below meth c cells slots Q G C.1 L S M pc' L' S' M' h k
theorem v_rn {pc' : Nat} {L' : gLoc} {S' : List Value} {M' : gMem} (ok : gOk YL tbl) (C : vCx p s m args c cells slots G b Ln xs) (k : Nat) (h : gRN tbl k pc L S M = some (pc', L', S', M')) (g : gV p l e s m args below meth c cells slots Q G pc' L' S' M') : gV p l e s m args below meth c cells slots Q G pc L S M := by
  induction k generalizing pc L S M with
  | zero => cases h; exact g
  | succ k ih =>
    unfold gRN at h
    generalize hx : gAt tbl pc L S M = x at h
    match x, h with
    | some (p1, L1, S1, M1), h => exact v_st ok C hx (ih h)
    | none, h => cases h
theorem v_sld {j : Int32} (C : vCx p s m args c cells slots G b Ln xs) (hin : vp_in j Ln) (d : decode code pc = .ok (.iaload, 1)) (k : gV p l e s m args below meth c cells slots Q G (pc + 1) L (.int (xs j.toNatClampNeg) :: S) M) : gV p l e s m args below meth c cells slots Q G pc L (.int j :: .ref 960 :: S) M := by
  intro H locs ls hP hS hl
  have hk := k H locs ls hP hS hl
  show W p l e room_1 s m args below meth c H locs cells slots Q (F0 m pc ls (.int j :: .ref (G.2.2 960) :: S.map (gRl G)))
  rw [C.2.2.2.2]
  exact va_sld C.1.1 C.1.2.1 C.2.1 C.2.2.1 C.2.2.2.1 hS hin d hk
theorem v_slen (C : vCx p s m args c cells slots G b Ln xs) (d : decode code pc = .ok (.arraylength, 1)) (k : gV p l e s m args below meth c cells slots Q G (pc + 1) L (.int (Int32.ofNat Ln) :: S) M) : gV p l e s m args below meth c cells slots Q G pc L (.ref 960 :: S) M := by
  intro H locs ls hP hS hl
  have hk := k H locs ls hP hS hl
  show W p l e room_1 s m args below meth c H locs cells slots Q (F0 m pc ls (.ref (G.2.2 960) :: S.map (gRl G)))
  rw [C.2.2.2.2]
  exact va_slen C.1.1 C.1.2.1 C.2.1 C.2.2.1 C.2.2.2.1 hS d hk
theorem v_call {Y' : gY} {n : Nat} {k : Option Nat} {vs rest : List Value} {dc : Nat} {r : Option Value} {M' : gMem} (ok : gOkC YL ct) (C : vCx p s m args c cells slots G b Ln xs) (h : gCAt ct pc = some (Y', n, k)) (ht : gTk n [] S = some (vs, rest)) (hk : gRcv k vs = true) (hs : Nat.ble (rest.map fun v => v.category).sum 8 = true) (hr : gRun G Y' dc vs M (fun r' N' => r' = r ∧ N' = M')) (hd : dc ≤ 1000)
    (kk : gV p l e s m args below meth c cells slots Q G (pc + 3) L (r.toList ++ rest) M') : gV p l e s m args below meth c cells slots Q G pc L S M := by
  obtain ⟨ws, h1, h2, h3⟩ := gTk_eq ht
  rw [List.append_nil] at h1
  subst h1
  subst h2
  exact ok _ (gCAt_mem h) p l e room_1 s m args below meth c cells slots Q G C.1 L rest M vs _ dc (by show dc + 2 ≤ 2048; omega) (by show 64 * (dc + 2) ≤ 84000; omega) hk h3 hs hr (fun r' N' hz => by obtain ⟨rfl, rfl⟩ := hz; exact kk)
theorem v_eq {t t2 : Nat} {r : Int32} (ok : gOk YL tbl) (C : vCx p s m args c cells slots G b Ln xs) (h : gAt tbl pc L (.int r :: .int r :: S) M = if r = r then some (t, L, S, M) else some (t2, L, S, M)) (k : gV p l e s m args below meth c cells slots Q G t L S M) : gV p l e s m args below meth c cells slots Q G pc L (.int r :: .int r :: S) M :=
  v_st ok C (h.trans (if_pos rfl)) k
end GVS
theorem wd_2_149 : Cond.methodLink "WaxedPartnersLaw" 13 ⟨"WaxedPartners", "feed", "(IIIII)I"⟩ ∈ gT := gT_in (tb_2 _ (List.mem_of_getElem? (i := 149) (by decide +kernel))) rfl
theorem wd_2_150 : Cond.instanceMethod ⟨"WaxedPartners", "feed", "(IIIII)I"⟩ ∈ gT := gT_in (tb_2 _ (List.mem_of_getElem? (i := 150) (by decide +kernel))) rfl
theorem wd_2_151 : Cond.selects "WaxedPartners" ⟨"WaxedPartners", "feed", "(IIIII)I"⟩ ⟨"WaxedPartners", "feed", "(IIIII)I"⟩ ∈ gT := gT_in (tb_2 _ (List.mem_of_getElem? (i := 151) (by decide +kernel))) rfl
theorem wd_6_148 : Cond.methodLink "WaxedPartnersLaw" 17 ⟨"WaxedPartnersModel", "feed", "(IIIII)I"⟩ ∈ gT := gT_in (tb_6 _ (List.mem_of_getElem? (i := 148) (by decide +kernel))) rfl
theorem wd_6_149 : Cond.instanceMethod ⟨"WaxedPartnersModel", "feed", "(IIIII)I"⟩ ∈ gT := gT_in (tb_6 _ (List.mem_of_getElem? (i := 149) (by decide +kernel))) rfl
theorem wd_6_150 : Cond.selects "WaxedPartnersModel" ⟨"WaxedPartnersModel", "feed", "(IIIII)I"⟩ ⟨"WaxedPartnersModel", "feed", "(IIIII)I"⟩ ∈ gT := gT_in (tb_6 _ (List.mem_of_getElem? (i := 150) (by decide +kernel))) rfl
theorem wd_2_157 : Cond.methodLink "WaxedPartnersLaw" 18 ⟨"WaxedPartners", "end", "(I)I"⟩ ∈ gT := gT_in (tb_2 _ (List.mem_of_getElem? (i := 157) (by decide +kernel))) rfl
theorem wd_2_158 : Cond.instanceMethod ⟨"WaxedPartners", "end", "(I)I"⟩ ∈ gT := gT_in (tb_2 _ (List.mem_of_getElem? (i := 158) (by decide +kernel))) rfl
theorem wd_2_159 : Cond.selects "WaxedPartners" ⟨"WaxedPartners", "end", "(I)I"⟩ ⟨"WaxedPartners", "end", "(I)I"⟩ ∈ gT := gT_in (tb_2 _ (List.mem_of_getElem? (i := 159) (by decide +kernel))) rfl
theorem wd_6_156 : Cond.methodLink "WaxedPartnersLaw" 22 ⟨"WaxedPartnersModel", "end", "(I)I"⟩ ∈ gT := gT_in (tb_6 _ (List.mem_of_getElem? (i := 156) (by decide +kernel))) rfl
theorem wd_6_157 : Cond.instanceMethod ⟨"WaxedPartnersModel", "end", "(I)I"⟩ ∈ gT := gT_in (tb_6 _ (List.mem_of_getElem? (i := 157) (by decide +kernel))) rfl
theorem wd_6_158 : Cond.selects "WaxedPartnersModel" ⟨"WaxedPartnersModel", "end", "(I)I"⟩ ⟨"WaxedPartnersModel", "end", "(I)I"⟩ ∈ gT := gT_in (tb_6 _ (List.mem_of_getElem? (i := 158) (by decide +kernel))) rfl
theorem wd_2_161 : Cond.methodLink "WaxedPartnersLaw" 23 ⟨"WaxedPartners", "city", "()I"⟩ ∈ gT := gT_in (tb_2 _ (List.mem_of_getElem? (i := 161) (by decide +kernel))) rfl
theorem wd_2_162 : Cond.instanceMethod ⟨"WaxedPartners", "city", "()I"⟩ ∈ gT := gT_in (tb_2 _ (List.mem_of_getElem? (i := 162) (by decide +kernel))) rfl
theorem wd_2_163 : Cond.selects "WaxedPartners" ⟨"WaxedPartners", "city", "()I"⟩ ⟨"WaxedPartners", "city", "()I"⟩ ∈ gT := gT_in (tb_2 _ (List.mem_of_getElem? (i := 163) (by decide +kernel))) rfl
theorem wd_6_164 : Cond.methodLink "WaxedPartnersLaw" 27 ⟨"WaxedPartnersModel", "city", "()I"⟩ ∈ gT := gT_in (tb_6 _ (List.mem_of_getElem? (i := 164) (by decide +kernel))) rfl
theorem wd_6_165 : Cond.instanceMethod ⟨"WaxedPartnersModel", "city", "()I"⟩ ∈ gT := gT_in (tb_6 _ (List.mem_of_getElem? (i := 165) (by decide +kernel))) rfl
theorem wd_6_166 : Cond.selects "WaxedPartnersModel" ⟨"WaxedPartnersModel", "city", "()I"⟩ ⟨"WaxedPartnersModel", "city", "()I"⟩ ∈ gT := gT_in (tb_6 _ (List.mem_of_getElem? (i := 166) (by decide +kernel))) rfl
theorem wd_3_66 : Cond.methodLink "WaxedPartnersLaw" 28 ⟨"WaxedPartners", "fault", "(I)I"⟩ ∈ gT := gT_in (tb_3 _ (List.mem_of_getElem? (i := 66) (by decide +kernel))) rfl
theorem wd_3_67 : Cond.instanceMethod ⟨"WaxedPartners", "fault", "(I)I"⟩ ∈ gT := gT_in (tb_3 _ (List.mem_of_getElem? (i := 67) (by decide +kernel))) rfl
theorem wd_3_68 : Cond.selects "WaxedPartners" ⟨"WaxedPartners", "fault", "(I)I"⟩ ⟨"WaxedPartners", "fault", "(I)I"⟩ ∈ gT := gT_in (tb_3 _ (List.mem_of_getElem? (i := 68) (by decide +kernel))) rfl
theorem wd_6_160 : Cond.methodLink "WaxedPartnersLaw" 31 ⟨"WaxedPartnersModel", "fault", "(I)I"⟩ ∈ gT := gT_in (tb_6 _ (List.mem_of_getElem? (i := 160) (by decide +kernel))) rfl
theorem wd_6_161 : Cond.instanceMethod ⟨"WaxedPartnersModel", "fault", "(I)I"⟩ ∈ gT := gT_in (tb_6 _ (List.mem_of_getElem? (i := 161) (by decide +kernel))) rfl
theorem wd_6_162 : Cond.selects "WaxedPartnersModel" ⟨"WaxedPartnersModel", "fault", "(I)I"⟩ ⟨"WaxedPartnersModel", "fault", "(I)I"⟩ ∈ gT := gT_in (tb_6 _ (List.mem_of_getElem? (i := 162) (by decide +kernel))) rfl
theorem wd_3_70 : Cond.methodLink "WaxedPartnersLaw" 32 ⟨"WaxedPartners", "partner", "(II)I"⟩ ∈ gT := gT_in (tb_3 _ (List.mem_of_getElem? (i := 70) (by decide +kernel))) rfl
theorem wd_3_71 : Cond.instanceMethod ⟨"WaxedPartners", "partner", "(II)I"⟩ ∈ gT := gT_in (tb_3 _ (List.mem_of_getElem? (i := 71) (by decide +kernel))) rfl
theorem wd_3_72 : Cond.selects "WaxedPartners" ⟨"WaxedPartners", "partner", "(II)I"⟩ ⟨"WaxedPartners", "partner", "(II)I"⟩ ∈ gT := gT_in (tb_3 _ (List.mem_of_getElem? (i := 72) (by decide +kernel))) rfl
theorem wd_7_42 : Cond.methodLink "WaxedPartnersLaw" 36 ⟨"WaxedPartnersModel", "partner", "(II)I"⟩ ∈ gT := gT_in (tb_7 _ (List.mem_of_getElem? (i := 42) (by decide +kernel))) rfl
theorem wd_7_43 : Cond.instanceMethod ⟨"WaxedPartnersModel", "partner", "(II)I"⟩ ∈ gT := gT_in (tb_7 _ (List.mem_of_getElem? (i := 43) (by decide +kernel))) rfl
theorem wd_7_44 : Cond.selects "WaxedPartnersModel" ⟨"WaxedPartnersModel", "partner", "(II)I"⟩ ⟨"WaxedPartnersModel", "partner", "(II)I"⟩ ∈ gT := gT_in (tb_7 _ (List.mem_of_getElem? (i := 44) (by decide +kernel))) rfl
theorem wd_3_78 : Cond.methodLink "WaxedPartnersLaw" 37 ⟨"WaxedPartners", "join", "(II)I"⟩ ∈ gT := gT_in (tb_3 _ (List.mem_of_getElem? (i := 78) (by decide +kernel))) rfl
theorem wd_3_79 : Cond.instanceMethod ⟨"WaxedPartners", "join", "(II)I"⟩ ∈ gT := gT_in (tb_3 _ (List.mem_of_getElem? (i := 79) (by decide +kernel))) rfl
theorem wd_3_80 : Cond.selects "WaxedPartners" ⟨"WaxedPartners", "join", "(II)I"⟩ ⟨"WaxedPartners", "join", "(II)I"⟩ ∈ gT := gT_in (tb_3 _ (List.mem_of_getElem? (i := 80) (by decide +kernel))) rfl
theorem wd_7_55 : Cond.methodLink "WaxedPartnersLaw" 40 ⟨"WaxedPartnersModel", "join", "(II)I"⟩ ∈ gT := gT_in (tb_7 _ (List.mem_of_getElem? (i := 55) (by decide +kernel))) rfl
theorem wd_7_56 : Cond.instanceMethod ⟨"WaxedPartnersModel", "join", "(II)I"⟩ ∈ gT := gT_in (tb_7 _ (List.mem_of_getElem? (i := 56) (by decide +kernel))) rfl
theorem wd_7_57 : Cond.selects "WaxedPartnersModel" ⟨"WaxedPartnersModel", "join", "(II)I"⟩ ⟨"WaxedPartnersModel", "join", "(II)I"⟩ ∈ gT := gT_in (tb_7 _ (List.mem_of_getElem? (i := 57) (by decide +kernel))) rfl
theorem wd_3_86 : Cond.methodLink "WaxedPartnersLaw" 41 ⟨"WaxedPartners", "door", "(I)I"⟩ ∈ gT := gT_in (tb_3 _ (List.mem_of_getElem? (i := 86) (by decide +kernel))) rfl
theorem wd_3_87 : Cond.instanceMethod ⟨"WaxedPartners", "door", "(I)I"⟩ ∈ gT := gT_in (tb_3 _ (List.mem_of_getElem? (i := 87) (by decide +kernel))) rfl
theorem wd_3_88 : Cond.selects "WaxedPartners" ⟨"WaxedPartners", "door", "(I)I"⟩ ⟨"WaxedPartners", "door", "(I)I"⟩ ∈ gT := gT_in (tb_3 _ (List.mem_of_getElem? (i := 88) (by decide +kernel))) rfl
theorem wd_7_67 : Cond.methodLink "WaxedPartnersLaw" 44 ⟨"WaxedPartnersModel", "door", "(I)I"⟩ ∈ gT := gT_in (tb_7 _ (List.mem_of_getElem? (i := 67) (by decide +kernel))) rfl
theorem wd_7_68 : Cond.instanceMethod ⟨"WaxedPartnersModel", "door", "(I)I"⟩ ∈ gT := gT_in (tb_7 _ (List.mem_of_getElem? (i := 68) (by decide +kernel))) rfl
theorem wd_7_69 : Cond.selects "WaxedPartnersModel" ⟨"WaxedPartnersModel", "door", "(I)I"⟩ ⟨"WaxedPartnersModel", "door", "(I)I"⟩ ∈ gT := gT_in (tb_7 _ (List.mem_of_getElem? (i := 69) (by decide +kernel))) rfl
theorem wd_3_94 : Cond.methodLink "WaxedPartnersLaw" 45 ⟨"WaxedPartners", "holds", "(I)I"⟩ ∈ gT := gT_in (tb_3 _ (List.mem_of_getElem? (i := 94) (by decide +kernel))) rfl
theorem wd_3_95 : Cond.instanceMethod ⟨"WaxedPartners", "holds", "(I)I"⟩ ∈ gT := gT_in (tb_3 _ (List.mem_of_getElem? (i := 95) (by decide +kernel))) rfl
theorem wd_3_96 : Cond.selects "WaxedPartners" ⟨"WaxedPartners", "holds", "(I)I"⟩ ⟨"WaxedPartners", "holds", "(I)I"⟩ ∈ gT := gT_in (tb_3 _ (List.mem_of_getElem? (i := 96) (by decide +kernel))) rfl
theorem wd_7_75 : Cond.methodLink "WaxedPartnersLaw" 48 ⟨"WaxedPartnersModel", "holds", "(I)I"⟩ ∈ gT := gT_in (tb_7 _ (List.mem_of_getElem? (i := 75) (by decide +kernel))) rfl
theorem wd_7_76 : Cond.instanceMethod ⟨"WaxedPartnersModel", "holds", "(I)I"⟩ ∈ gT := gT_in (tb_7 _ (List.mem_of_getElem? (i := 76) (by decide +kernel))) rfl
theorem wd_7_77 : Cond.selects "WaxedPartnersModel" ⟨"WaxedPartnersModel", "holds", "(I)I"⟩ ⟨"WaxedPartnersModel", "holds", "(I)I"⟩ ∈ gT := gT_in (tb_7 _ (List.mem_of_getElem? (i := 77) (by decide +kernel))) rfl
theorem wd_3_183 : Cond.methodLink "WaxedPartnersLaw" 49 ⟨"WaxedPartners", "tied", "(III)I"⟩ ∈ gT := gT_in (tb_3 _ (List.mem_of_getElem? (i := 183) (by decide +kernel))) rfl
theorem wd_3_184 : Cond.instanceMethod ⟨"WaxedPartners", "tied", "(III)I"⟩ ∈ gT := gT_in (tb_3 _ (List.mem_of_getElem? (i := 184) (by decide +kernel))) rfl
theorem wd_3_185 : Cond.selects "WaxedPartners" ⟨"WaxedPartners", "tied", "(III)I"⟩ ⟨"WaxedPartners", "tied", "(III)I"⟩ ∈ gT := gT_in (tb_3 _ (List.mem_of_getElem? (i := 185) (by decide +kernel))) rfl
theorem wd_7_154 : Cond.methodLink "WaxedPartnersLaw" 53 ⟨"WaxedPartnersModel", "tied", "(III)I"⟩ ∈ gT := gT_in (tb_7 _ (List.mem_of_getElem? (i := 154) (by decide +kernel))) rfl
theorem wd_7_155 : Cond.instanceMethod ⟨"WaxedPartnersModel", "tied", "(III)I"⟩ ∈ gT := gT_in (tb_7 _ (List.mem_of_getElem? (i := 155) (by decide +kernel))) rfl
theorem wd_7_156 : Cond.selects "WaxedPartnersModel" ⟨"WaxedPartnersModel", "tied", "(III)I"⟩ ⟨"WaxedPartnersModel", "tied", "(III)I"⟩ ∈ gT := gT_in (tb_7 _ (List.mem_of_getElem? (i := 156) (by decide +kernel))) rfl
theorem wd_3_196 : Cond.methodLink "WaxedPartnersLaw" 54 ⟨"WaxedPartners", "firm", "(II)I"⟩ ∈ gT := gT_in (tb_3 _ (List.mem_of_getElem? (i := 196) (by decide +kernel))) rfl
theorem wd_3_197 : Cond.instanceMethod ⟨"WaxedPartners", "firm", "(II)I"⟩ ∈ gT := gT_in (tb_3 _ (List.mem_of_getElem? (i := 197) (by decide +kernel))) rfl
theorem wd_3_198 : Cond.selects "WaxedPartners" ⟨"WaxedPartners", "firm", "(II)I"⟩ ⟨"WaxedPartners", "firm", "(II)I"⟩ ∈ gT := gT_in (tb_3 _ (List.mem_of_getElem? (i := 198) (by decide +kernel))) rfl
theorem wd_7_162 : Cond.methodLink "WaxedPartnersLaw" 57 ⟨"WaxedPartnersModel", "firm", "(II)I"⟩ ∈ gT := gT_in (tb_7 _ (List.mem_of_getElem? (i := 162) (by decide +kernel))) rfl
theorem wd_7_163 : Cond.instanceMethod ⟨"WaxedPartnersModel", "firm", "(II)I"⟩ ∈ gT := gT_in (tb_7 _ (List.mem_of_getElem? (i := 163) (by decide +kernel))) rfl
theorem wd_7_164 : Cond.selects "WaxedPartnersModel" ⟨"WaxedPartnersModel", "firm", "(II)I"⟩ ⟨"WaxedPartnersModel", "firm", "(II)I"⟩ ∈ gT := gT_in (tb_7 _ (List.mem_of_getElem? (i := 164) (by decide +kernel))) rfl
theorem wd_3_200 : Cond.methodLink "WaxedPartnersLaw" 58 ⟨"WaxedPartners", "firms", "(I)I"⟩ ∈ gT := gT_in (tb_3 _ (List.mem_of_getElem? (i := 200) (by decide +kernel))) rfl
theorem wd_3_201 : Cond.instanceMethod ⟨"WaxedPartners", "firms", "(I)I"⟩ ∈ gT := gT_in (tb_3 _ (List.mem_of_getElem? (i := 201) (by decide +kernel))) rfl
theorem wd_3_202 : Cond.selects "WaxedPartners" ⟨"WaxedPartners", "firms", "(I)I"⟩ ⟨"WaxedPartners", "firms", "(I)I"⟩ ∈ gT := gT_in (tb_3 _ (List.mem_of_getElem? (i := 202) (by decide +kernel))) rfl
theorem wd_7_170 : Cond.methodLink "WaxedPartnersLaw" 61 ⟨"WaxedPartnersModel", "firms", "(I)I"⟩ ∈ gT := gT_in (tb_7 _ (List.mem_of_getElem? (i := 170) (by decide +kernel))) rfl
theorem wd_7_171 : Cond.instanceMethod ⟨"WaxedPartnersModel", "firms", "(I)I"⟩ ∈ gT := gT_in (tb_7 _ (List.mem_of_getElem? (i := 171) (by decide +kernel))) rfl
theorem wd_7_172 : Cond.selects "WaxedPartnersModel" ⟨"WaxedPartnersModel", "firms", "(I)I"⟩ ⟨"WaxedPartnersModel", "firms", "(I)I"⟩ ∈ gT := gT_in (tb_7 _ (List.mem_of_getElem? (i := 172) (by decide +kernel))) rfl
theorem wd_3_208 : Cond.methodLink "WaxedPartnersLaw" 62 ⟨"WaxedPartners", "wide", "(II)I"⟩ ∈ gT := gT_in (tb_3 _ (List.mem_of_getElem? (i := 208) (by decide +kernel))) rfl
theorem wd_3_209 : Cond.instanceMethod ⟨"WaxedPartners", "wide", "(II)I"⟩ ∈ gT := gT_in (tb_3 _ (List.mem_of_getElem? (i := 209) (by decide +kernel))) rfl
theorem wd_3_210 : Cond.selects "WaxedPartners" ⟨"WaxedPartners", "wide", "(II)I"⟩ ⟨"WaxedPartners", "wide", "(II)I"⟩ ∈ gT := gT_in (tb_3 _ (List.mem_of_getElem? (i := 210) (by decide +kernel))) rfl
theorem wd_7_182 : Cond.methodLink "WaxedPartnersLaw" 65 ⟨"WaxedPartnersModel", "wide", "(II)I"⟩ ∈ gT := gT_in (tb_7 _ (List.mem_of_getElem? (i := 182) (by decide +kernel))) rfl
theorem wd_7_183 : Cond.instanceMethod ⟨"WaxedPartnersModel", "wide", "(II)I"⟩ ∈ gT := gT_in (tb_7 _ (List.mem_of_getElem? (i := 183) (by decide +kernel))) rfl
theorem wd_7_184 : Cond.selects "WaxedPartnersModel" ⟨"WaxedPartnersModel", "wide", "(II)I"⟩ ⟨"WaxedPartnersModel", "wide", "(II)I"⟩ ∈ gT := gT_in (tb_7 _ (List.mem_of_getElem? (i := 184) (by decide +kernel))) rfl
theorem wd_3_234 : Cond.methodLink "WaxedPartnersLaw" 66 ⟨"WaxedPartners", "passes", "(II)I"⟩ ∈ gT := gT_in (tb_3 _ (List.mem_of_getElem? (i := 234) (by decide +kernel))) rfl
theorem wd_3_235 : Cond.instanceMethod ⟨"WaxedPartners", "passes", "(II)I"⟩ ∈ gT := gT_in (tb_3 _ (List.mem_of_getElem? (i := 235) (by decide +kernel))) rfl
theorem wd_3_236 : Cond.selects "WaxedPartners" ⟨"WaxedPartners", "passes", "(II)I"⟩ ⟨"WaxedPartners", "passes", "(II)I"⟩ ∈ gT := gT_in (tb_3 _ (List.mem_of_getElem? (i := 236) (by decide +kernel))) rfl
theorem wd_7_201 : Cond.methodLink "WaxedPartnersLaw" 69 ⟨"WaxedPartnersModel", "passes", "(II)I"⟩ ∈ gT := gT_in (tb_7 _ (List.mem_of_getElem? (i := 201) (by decide +kernel))) rfl
theorem wd_7_202 : Cond.instanceMethod ⟨"WaxedPartnersModel", "passes", "(II)I"⟩ ∈ gT := gT_in (tb_7 _ (List.mem_of_getElem? (i := 202) (by decide +kernel))) rfl
theorem wd_7_203 : Cond.selects "WaxedPartnersModel" ⟨"WaxedPartnersModel", "passes", "(II)I"⟩ ⟨"WaxedPartnersModel", "passes", "(II)I"⟩ ∈ gT := gT_in (tb_7 _ (List.mem_of_getElem? (i := 203) (by decide +kernel))) rfl
theorem wd_4_3 : Cond.methodLink "WaxedPartnersLaw" 70 ⟨"WaxedPartners", "largest", "(I)I"⟩ ∈ gT := gT_in (tb_4 _ (List.mem_of_getElem? (i := 3) (by decide +kernel))) rfl
theorem wd_4_4 : Cond.instanceMethod ⟨"WaxedPartners", "largest", "(I)I"⟩ ∈ gT := gT_in (tb_4 _ (List.mem_of_getElem? (i := 4) (by decide +kernel))) rfl
theorem wd_4_5 : Cond.selects "WaxedPartners" ⟨"WaxedPartners", "largest", "(I)I"⟩ ⟨"WaxedPartners", "largest", "(I)I"⟩ ∈ gT := gT_in (tb_4 _ (List.mem_of_getElem? (i := 5) (by decide +kernel))) rfl
theorem wd_7_209 : Cond.methodLink "WaxedPartnersLaw" 73 ⟨"WaxedPartnersModel", "largest", "(I)I"⟩ ∈ gT := gT_in (tb_7 _ (List.mem_of_getElem? (i := 209) (by decide +kernel))) rfl
theorem wd_7_210 : Cond.instanceMethod ⟨"WaxedPartnersModel", "largest", "(I)I"⟩ ∈ gT := gT_in (tb_7 _ (List.mem_of_getElem? (i := 210) (by decide +kernel))) rfl
theorem wd_7_211 : Cond.selects "WaxedPartnersModel" ⟨"WaxedPartnersModel", "largest", "(I)I"⟩ ⟨"WaxedPartnersModel", "largest", "(I)I"⟩ ∈ gT := gT_in (tb_7 _ (List.mem_of_getElem? (i := 211) (by decide +kernel))) rfl
theorem wd_4_9 : Cond.methodLink "WaxedPartnersLaw" 74 ⟨"WaxedPartners", "hairs", "(III)I"⟩ ∈ gT := gT_in (tb_4 _ (List.mem_of_getElem? (i := 9) (by decide +kernel))) rfl
theorem wd_4_10 : Cond.instanceMethod ⟨"WaxedPartners", "hairs", "(III)I"⟩ ∈ gT := gT_in (tb_4 _ (List.mem_of_getElem? (i := 10) (by decide +kernel))) rfl
theorem wd_4_11 : Cond.selects "WaxedPartners" ⟨"WaxedPartners", "hairs", "(III)I"⟩ ⟨"WaxedPartners", "hairs", "(III)I"⟩ ∈ gT := gT_in (tb_4 _ (List.mem_of_getElem? (i := 11) (by decide +kernel))) rfl
theorem wd_7_213 : Cond.methodLink "WaxedPartnersLaw" 77 ⟨"WaxedPartnersModel", "hairs", "(III)I"⟩ ∈ gT := gT_in (tb_7 _ (List.mem_of_getElem? (i := 213) (by decide +kernel))) rfl
theorem wd_7_214 : Cond.instanceMethod ⟨"WaxedPartnersModel", "hairs", "(III)I"⟩ ∈ gT := gT_in (tb_7 _ (List.mem_of_getElem? (i := 214) (by decide +kernel))) rfl
theorem wd_7_215 : Cond.selects "WaxedPartnersModel" ⟨"WaxedPartnersModel", "hairs", "(III)I"⟩ ⟨"WaxedPartnersModel", "hairs", "(III)I"⟩ ∈ gT := gT_in (tb_7 _ (List.mem_of_getElem? (i := 215) (by decide +kernel))) rfl
theorem wd_4_17 : Cond.methodLink "WaxedPartnersLaw" 78 ⟨"WaxedPartners", "colds", "(I)I"⟩ ∈ gT := gT_in (tb_4 _ (List.mem_of_getElem? (i := 17) (by decide +kernel))) rfl
theorem wd_4_18 : Cond.instanceMethod ⟨"WaxedPartners", "colds", "(I)I"⟩ ∈ gT := gT_in (tb_4 _ (List.mem_of_getElem? (i := 18) (by decide +kernel))) rfl
theorem wd_4_19 : Cond.selects "WaxedPartners" ⟨"WaxedPartners", "colds", "(I)I"⟩ ⟨"WaxedPartners", "colds", "(I)I"⟩ ∈ gT := gT_in (tb_4 _ (List.mem_of_getElem? (i := 19) (by decide +kernel))) rfl
theorem wd_7_217 : Cond.methodLink "WaxedPartnersLaw" 81 ⟨"WaxedPartnersModel", "colds", "(I)I"⟩ ∈ gT := gT_in (tb_7 _ (List.mem_of_getElem? (i := 217) (by decide +kernel))) rfl
theorem wd_7_218 : Cond.instanceMethod ⟨"WaxedPartnersModel", "colds", "(I)I"⟩ ∈ gT := gT_in (tb_7 _ (List.mem_of_getElem? (i := 218) (by decide +kernel))) rfl
theorem wd_7_219 : Cond.selects "WaxedPartnersModel" ⟨"WaxedPartnersModel", "colds", "(I)I"⟩ ⟨"WaxedPartnersModel", "colds", "(I)I"⟩ ∈ gT := gT_in (tb_7 _ (List.mem_of_getElem? (i := 219) (by decide +kernel))) rfl
theorem wd_4_21 : Cond.methodLink "WaxedPartnersLaw" 82 ⟨"WaxedPartners", "cold", "(I)I"⟩ ∈ gT := gT_in (tb_4 _ (List.mem_of_getElem? (i := 21) (by decide +kernel))) rfl
theorem wd_4_22 : Cond.instanceMethod ⟨"WaxedPartners", "cold", "(I)I"⟩ ∈ gT := gT_in (tb_4 _ (List.mem_of_getElem? (i := 22) (by decide +kernel))) rfl
theorem wd_4_23 : Cond.selects "WaxedPartners" ⟨"WaxedPartners", "cold", "(I)I"⟩ ⟨"WaxedPartners", "cold", "(I)I"⟩ ∈ gT := gT_in (tb_4 _ (List.mem_of_getElem? (i := 23) (by decide +kernel))) rfl
theorem wd_7_221 : Cond.methodLink "WaxedPartnersLaw" 85 ⟨"WaxedPartnersModel", "cold", "(I)I"⟩ ∈ gT := gT_in (tb_7 _ (List.mem_of_getElem? (i := 221) (by decide +kernel))) rfl
theorem wd_7_222 : Cond.instanceMethod ⟨"WaxedPartnersModel", "cold", "(I)I"⟩ ∈ gT := gT_in (tb_7 _ (List.mem_of_getElem? (i := 222) (by decide +kernel))) rfl
theorem wd_7_223 : Cond.selects "WaxedPartnersModel" ⟨"WaxedPartnersModel", "cold", "(I)I"⟩ ⟨"WaxedPartnersModel", "cold", "(I)I"⟩ ∈ gT := gT_in (tb_7 _ (List.mem_of_getElem? (i := 223) (by decide +kernel))) rfl
theorem wd_4_30 : Cond.methodLink "WaxedPartnersLaw" 86 ⟨"WaxedPartners", "worth", "(II)I"⟩ ∈ gT := gT_in (tb_4 _ (List.mem_of_getElem? (i := 30) (by decide +kernel))) rfl
theorem wd_4_31 : Cond.instanceMethod ⟨"WaxedPartners", "worth", "(II)I"⟩ ∈ gT := gT_in (tb_4 _ (List.mem_of_getElem? (i := 31) (by decide +kernel))) rfl
theorem wd_4_32 : Cond.selects "WaxedPartners" ⟨"WaxedPartners", "worth", "(II)I"⟩ ⟨"WaxedPartners", "worth", "(II)I"⟩ ∈ gT := gT_in (tb_4 _ (List.mem_of_getElem? (i := 32) (by decide +kernel))) rfl
theorem wd_7_225 : Cond.methodLink "WaxedPartnersLaw" 89 ⟨"WaxedPartnersModel", "worth", "(II)I"⟩ ∈ gT := gT_in (tb_7 _ (List.mem_of_getElem? (i := 225) (by decide +kernel))) rfl
theorem wd_7_226 : Cond.instanceMethod ⟨"WaxedPartnersModel", "worth", "(II)I"⟩ ∈ gT := gT_in (tb_7 _ (List.mem_of_getElem? (i := 226) (by decide +kernel))) rfl
theorem wd_7_227 : Cond.selects "WaxedPartnersModel" ⟨"WaxedPartnersModel", "worth", "(II)I"⟩ ⟨"WaxedPartnersModel", "worth", "(II)I"⟩ ∈ gT := gT_in (tb_7 _ (List.mem_of_getElem? (i := 227) (by decide +kernel))) rfl
theorem wd_4_34 : Cond.methodLink "WaxedPartnersLaw" 90 ⟨"WaxedPartners", "funds", "(II)I"⟩ ∈ gT := gT_in (tb_4 _ (List.mem_of_getElem? (i := 34) (by decide +kernel))) rfl
theorem wd_4_35 : Cond.instanceMethod ⟨"WaxedPartners", "funds", "(II)I"⟩ ∈ gT := gT_in (tb_4 _ (List.mem_of_getElem? (i := 35) (by decide +kernel))) rfl
theorem wd_4_36 : Cond.selects "WaxedPartners" ⟨"WaxedPartners", "funds", "(II)I"⟩ ⟨"WaxedPartners", "funds", "(II)I"⟩ ∈ gT := gT_in (tb_4 _ (List.mem_of_getElem? (i := 36) (by decide +kernel))) rfl
theorem wd_7_229 : Cond.methodLink "WaxedPartnersLaw" 93 ⟨"WaxedPartnersModel", "funds", "(II)I"⟩ ∈ gT := gT_in (tb_7 _ (List.mem_of_getElem? (i := 229) (by decide +kernel))) rfl
theorem wd_7_230 : Cond.instanceMethod ⟨"WaxedPartnersModel", "funds", "(II)I"⟩ ∈ gT := gT_in (tb_7 _ (List.mem_of_getElem? (i := 230) (by decide +kernel))) rfl
theorem wd_7_231 : Cond.selects "WaxedPartnersModel" ⟨"WaxedPartnersModel", "funds", "(II)I"⟩ ⟨"WaxedPartnersModel", "funds", "(II)I"⟩ ∈ gT := gT_in (tb_7 _ (List.mem_of_getElem? (i := 231) (by decide +kernel))) rfl
theorem wd_4_39 : Cond.methodLink "WaxedPartnersLaw" 94 ⟨"WaxedPartners", "out", "(I)I"⟩ ∈ gT := gT_in (tb_4 _ (List.mem_of_getElem? (i := 39) (by decide +kernel))) rfl
theorem wd_4_40 : Cond.instanceMethod ⟨"WaxedPartners", "out", "(I)I"⟩ ∈ gT := gT_in (tb_4 _ (List.mem_of_getElem? (i := 40) (by decide +kernel))) rfl
theorem wd_4_41 : Cond.selects "WaxedPartners" ⟨"WaxedPartners", "out", "(I)I"⟩ ⟨"WaxedPartners", "out", "(I)I"⟩ ∈ gT := gT_in (tb_4 _ (List.mem_of_getElem? (i := 41) (by decide +kernel))) rfl
theorem wd_7_233 : Cond.methodLink "WaxedPartnersLaw" 97 ⟨"WaxedPartnersModel", "out", "(I)I"⟩ ∈ gT := gT_in (tb_7 _ (List.mem_of_getElem? (i := 233) (by decide +kernel))) rfl
theorem wd_7_234 : Cond.instanceMethod ⟨"WaxedPartnersModel", "out", "(I)I"⟩ ∈ gT := gT_in (tb_7 _ (List.mem_of_getElem? (i := 234) (by decide +kernel))) rfl
theorem wd_7_235 : Cond.selects "WaxedPartnersModel" ⟨"WaxedPartnersModel", "out", "(I)I"⟩ ⟨"WaxedPartnersModel", "out", "(I)I"⟩ ∈ gT := gT_in (tb_7 _ (List.mem_of_getElem? (i := 235) (by decide +kernel))) rfl
theorem wd_4_43 : Cond.methodLink "WaxedPartnersLaw" 98 ⟨"WaxedPartners", "fails", "(I)I"⟩ ∈ gT := gT_in (tb_4 _ (List.mem_of_getElem? (i := 43) (by decide +kernel))) rfl
theorem wd_4_44 : Cond.instanceMethod ⟨"WaxedPartners", "fails", "(I)I"⟩ ∈ gT := gT_in (tb_4 _ (List.mem_of_getElem? (i := 44) (by decide +kernel))) rfl
theorem wd_4_45 : Cond.selects "WaxedPartners" ⟨"WaxedPartners", "fails", "(I)I"⟩ ⟨"WaxedPartners", "fails", "(I)I"⟩ ∈ gT := gT_in (tb_4 _ (List.mem_of_getElem? (i := 45) (by decide +kernel))) rfl
theorem wd_8_1 : Cond.methodLink "WaxedPartnersLaw" 101 ⟨"WaxedPartnersModel", "fails", "(I)I"⟩ ∈ gT := gT_in (tb_8 _ (List.mem_of_getElem? (i := 1) (by decide +kernel))) rfl
theorem wd_8_2 : Cond.instanceMethod ⟨"WaxedPartnersModel", "fails", "(I)I"⟩ ∈ gT := gT_in (tb_8 _ (List.mem_of_getElem? (i := 2) (by decide +kernel))) rfl
theorem wd_8_3 : Cond.selects "WaxedPartnersModel" ⟨"WaxedPartnersModel", "fails", "(I)I"⟩ ⟨"WaxedPartnersModel", "fails", "(I)I"⟩ ∈ gT := gT_in (tb_8 _ (List.mem_of_getElem? (i := 3) (by decide +kernel))) rfl
theorem wd_4_47 : Cond.methodLink "WaxedPartnersLaw" 102 ⟨"WaxedPartners", "richest", "(I)I"⟩ ∈ gT := gT_in (tb_4 _ (List.mem_of_getElem? (i := 47) (by decide +kernel))) rfl
theorem wd_4_48 : Cond.instanceMethod ⟨"WaxedPartners", "richest", "(I)I"⟩ ∈ gT := gT_in (tb_4 _ (List.mem_of_getElem? (i := 48) (by decide +kernel))) rfl
theorem wd_4_49 : Cond.selects "WaxedPartners" ⟨"WaxedPartners", "richest", "(I)I"⟩ ⟨"WaxedPartners", "richest", "(I)I"⟩ ∈ gT := gT_in (tb_4 _ (List.mem_of_getElem? (i := 49) (by decide +kernel))) rfl
theorem wd_8_5 : Cond.methodLink "WaxedPartnersLaw" 105 ⟨"WaxedPartnersModel", "richest", "(I)I"⟩ ∈ gT := gT_in (tb_8 _ (List.mem_of_getElem? (i := 5) (by decide +kernel))) rfl
theorem wd_8_6 : Cond.instanceMethod ⟨"WaxedPartnersModel", "richest", "(I)I"⟩ ∈ gT := gT_in (tb_8 _ (List.mem_of_getElem? (i := 6) (by decide +kernel))) rfl
theorem wd_8_7 : Cond.selects "WaxedPartnersModel" ⟨"WaxedPartnersModel", "richest", "(I)I"⟩ ⟨"WaxedPartnersModel", "richest", "(I)I"⟩ ∈ gT := gT_in (tb_8 _ (List.mem_of_getElem? (i := 7) (by decide +kernel))) rfl
theorem wd_4_51 : Cond.methodLink "WaxedPartnersLaw" 106 ⟨"WaxedPartners", "parts", "(I)I"⟩ ∈ gT := gT_in (tb_4 _ (List.mem_of_getElem? (i := 51) (by decide +kernel))) rfl
theorem wd_4_52 : Cond.instanceMethod ⟨"WaxedPartners", "parts", "(I)I"⟩ ∈ gT := gT_in (tb_4 _ (List.mem_of_getElem? (i := 52) (by decide +kernel))) rfl
theorem wd_4_53 : Cond.selects "WaxedPartners" ⟨"WaxedPartners", "parts", "(I)I"⟩ ⟨"WaxedPartners", "parts", "(I)I"⟩ ∈ gT := gT_in (tb_4 _ (List.mem_of_getElem? (i := 53) (by decide +kernel))) rfl
theorem wd_8_9 : Cond.methodLink "WaxedPartnersLaw" 109 ⟨"WaxedPartnersModel", "parts", "(I)I"⟩ ∈ gT := gT_in (tb_8 _ (List.mem_of_getElem? (i := 9) (by decide +kernel))) rfl
theorem wd_8_10 : Cond.instanceMethod ⟨"WaxedPartnersModel", "parts", "(I)I"⟩ ∈ gT := gT_in (tb_8 _ (List.mem_of_getElem? (i := 10) (by decide +kernel))) rfl
theorem wd_8_11 : Cond.selects "WaxedPartnersModel" ⟨"WaxedPartnersModel", "parts", "(I)I"⟩ ⟨"WaxedPartnersModel", "parts", "(I)I"⟩ ∈ gT := gT_in (tb_8 _ (List.mem_of_getElem? (i := 11) (by decide +kernel))) rfl
theorem wd_4_55 : Cond.methodLink "WaxedPartnersLaw" 110 ⟨"WaxedPartners", "merger", "()I"⟩ ∈ gT := gT_in (tb_4 _ (List.mem_of_getElem? (i := 55) (by decide +kernel))) rfl
theorem wd_4_56 : Cond.instanceMethod ⟨"WaxedPartners", "merger", "()I"⟩ ∈ gT := gT_in (tb_4 _ (List.mem_of_getElem? (i := 56) (by decide +kernel))) rfl
theorem wd_4_57 : Cond.selects "WaxedPartners" ⟨"WaxedPartners", "merger", "()I"⟩ ⟨"WaxedPartners", "merger", "()I"⟩ ∈ gT := gT_in (tb_4 _ (List.mem_of_getElem? (i := 57) (by decide +kernel))) rfl
theorem wd_8_13 : Cond.methodLink "WaxedPartnersLaw" 113 ⟨"WaxedPartnersModel", "merger", "()I"⟩ ∈ gT := gT_in (tb_8 _ (List.mem_of_getElem? (i := 13) (by decide +kernel))) rfl
theorem wd_8_14 : Cond.instanceMethod ⟨"WaxedPartnersModel", "merger", "()I"⟩ ∈ gT := gT_in (tb_8 _ (List.mem_of_getElem? (i := 14) (by decide +kernel))) rfl
theorem wd_8_15 : Cond.selects "WaxedPartnersModel" ⟨"WaxedPartnersModel", "merger", "()I"⟩ ⟨"WaxedPartnersModel", "merger", "()I"⟩ ∈ gT := gT_in (tb_8 _ (List.mem_of_getElem? (i := 15) (by decide +kernel))) rfl
theorem wd_4_64 : Cond.methodLink "WaxedPartnersLaw" 114 ⟨"WaxedPartners", "apart", "(II)I"⟩ ∈ gT := gT_in (tb_4 _ (List.mem_of_getElem? (i := 64) (by decide +kernel))) rfl
theorem wd_4_65 : Cond.instanceMethod ⟨"WaxedPartners", "apart", "(II)I"⟩ ∈ gT := gT_in (tb_4 _ (List.mem_of_getElem? (i := 65) (by decide +kernel))) rfl
theorem wd_4_66 : Cond.selects "WaxedPartners" ⟨"WaxedPartners", "apart", "(II)I"⟩ ⟨"WaxedPartners", "apart", "(II)I"⟩ ∈ gT := gT_in (tb_4 _ (List.mem_of_getElem? (i := 66) (by decide +kernel))) rfl
theorem wd_8_21 : Cond.methodLink "WaxedPartnersLaw" 117 ⟨"WaxedPartnersModel", "apart", "(II)I"⟩ ∈ gT := gT_in (tb_8 _ (List.mem_of_getElem? (i := 21) (by decide +kernel))) rfl
theorem wd_8_22 : Cond.instanceMethod ⟨"WaxedPartnersModel", "apart", "(II)I"⟩ ∈ gT := gT_in (tb_8 _ (List.mem_of_getElem? (i := 22) (by decide +kernel))) rfl
theorem wd_8_23 : Cond.selects "WaxedPartnersModel" ⟨"WaxedPartnersModel", "apart", "(II)I"⟩ ⟨"WaxedPartnersModel", "apart", "(II)I"⟩ ∈ gT := gT_in (tb_8 _ (List.mem_of_getElem? (i := 23) (by decide +kernel))) rfl
theorem wd_4_68 : Cond.methodLink "WaxedPartnersLaw" 118 ⟨"WaxedPartners", "singles", "(I)I"⟩ ∈ gT := gT_in (tb_4 _ (List.mem_of_getElem? (i := 68) (by decide +kernel))) rfl
theorem wd_4_69 : Cond.instanceMethod ⟨"WaxedPartners", "singles", "(I)I"⟩ ∈ gT := gT_in (tb_4 _ (List.mem_of_getElem? (i := 69) (by decide +kernel))) rfl
theorem wd_4_70 : Cond.selects "WaxedPartners" ⟨"WaxedPartners", "singles", "(I)I"⟩ ⟨"WaxedPartners", "singles", "(I)I"⟩ ∈ gT := gT_in (tb_4 _ (List.mem_of_getElem? (i := 70) (by decide +kernel))) rfl
theorem wd_8_25 : Cond.methodLink "WaxedPartnersLaw" 121 ⟨"WaxedPartnersModel", "singles", "(I)I"⟩ ∈ gT := gT_in (tb_8 _ (List.mem_of_getElem? (i := 25) (by decide +kernel))) rfl
theorem wd_8_26 : Cond.instanceMethod ⟨"WaxedPartnersModel", "singles", "(I)I"⟩ ∈ gT := gT_in (tb_8 _ (List.mem_of_getElem? (i := 26) (by decide +kernel))) rfl
theorem wd_8_27 : Cond.selects "WaxedPartnersModel" ⟨"WaxedPartnersModel", "singles", "(I)I"⟩ ⟨"WaxedPartnersModel", "singles", "(I)I"⟩ ∈ gT := gT_in (tb_8 _ (List.mem_of_getElem? (i := 27) (by decide +kernel))) rfl
theorem wd_4_72 : Cond.methodLink "WaxedPartnersLaw" 122 ⟨"WaxedPartners", "total", "(I)I"⟩ ∈ gT := gT_in (tb_4 _ (List.mem_of_getElem? (i := 72) (by decide +kernel))) rfl
theorem wd_4_73 : Cond.instanceMethod ⟨"WaxedPartners", "total", "(I)I"⟩ ∈ gT := gT_in (tb_4 _ (List.mem_of_getElem? (i := 73) (by decide +kernel))) rfl
theorem wd_4_74 : Cond.selects "WaxedPartners" ⟨"WaxedPartners", "total", "(I)I"⟩ ⟨"WaxedPartners", "total", "(I)I"⟩ ∈ gT := gT_in (tb_4 _ (List.mem_of_getElem? (i := 74) (by decide +kernel))) rfl
theorem wd_8_29 : Cond.methodLink "WaxedPartnersLaw" 125 ⟨"WaxedPartnersModel", "total", "(I)I"⟩ ∈ gT := gT_in (tb_8 _ (List.mem_of_getElem? (i := 29) (by decide +kernel))) rfl
theorem wd_8_30 : Cond.instanceMethod ⟨"WaxedPartnersModel", "total", "(I)I"⟩ ∈ gT := gT_in (tb_8 _ (List.mem_of_getElem? (i := 30) (by decide +kernel))) rfl
theorem wd_8_31 : Cond.selects "WaxedPartnersModel" ⟨"WaxedPartnersModel", "total", "(I)I"⟩ ⟨"WaxedPartnersModel", "total", "(I)I"⟩ ∈ gT := gT_in (tb_8 _ (List.mem_of_getElem? (i := 31) (by decide +kernel))) rfl
theorem wd_4_76 : Cond.methodLink "WaxedPartnersLaw" 126 ⟨"WaxedPartners", "best", "(I)I"⟩ ∈ gT := gT_in (tb_4 _ (List.mem_of_getElem? (i := 76) (by decide +kernel))) rfl
theorem wd_4_77 : Cond.instanceMethod ⟨"WaxedPartners", "best", "(I)I"⟩ ∈ gT := gT_in (tb_4 _ (List.mem_of_getElem? (i := 77) (by decide +kernel))) rfl
theorem wd_4_78 : Cond.selects "WaxedPartners" ⟨"WaxedPartners", "best", "(I)I"⟩ ⟨"WaxedPartners", "best", "(I)I"⟩ ∈ gT := gT_in (tb_4 _ (List.mem_of_getElem? (i := 78) (by decide +kernel))) rfl
theorem wd_8_33 : Cond.methodLink "WaxedPartnersLaw" 129 ⟨"WaxedPartnersModel", "best", "(I)I"⟩ ∈ gT := gT_in (tb_8 _ (List.mem_of_getElem? (i := 33) (by decide +kernel))) rfl
theorem wd_8_34 : Cond.instanceMethod ⟨"WaxedPartnersModel", "best", "(I)I"⟩ ∈ gT := gT_in (tb_8 _ (List.mem_of_getElem? (i := 34) (by decide +kernel))) rfl
theorem wd_8_35 : Cond.selects "WaxedPartnersModel" ⟨"WaxedPartnersModel", "best", "(I)I"⟩ ⟨"WaxedPartnersModel", "best", "(I)I"⟩ ∈ gT := gT_in (tb_8 _ (List.mem_of_getElem? (i := 35) (by decide +kernel))) rfl
theorem wd_4_96 : Cond.methodLink "WaxedPartnersLaw" 130 ⟨"WaxedPartners", "bests", "(I)I"⟩ ∈ gT := gT_in (tb_4 _ (List.mem_of_getElem? (i := 96) (by decide +kernel))) rfl
theorem wd_4_97 : Cond.instanceMethod ⟨"WaxedPartners", "bests", "(I)I"⟩ ∈ gT := gT_in (tb_4 _ (List.mem_of_getElem? (i := 97) (by decide +kernel))) rfl
theorem wd_4_98 : Cond.selects "WaxedPartners" ⟨"WaxedPartners", "bests", "(I)I"⟩ ⟨"WaxedPartners", "bests", "(I)I"⟩ ∈ gT := gT_in (tb_4 _ (List.mem_of_getElem? (i := 98) (by decide +kernel))) rfl
theorem wd_8_49 : Cond.methodLink "WaxedPartnersLaw" 133 ⟨"WaxedPartnersModel", "bests", "(I)I"⟩ ∈ gT := gT_in (tb_8 _ (List.mem_of_getElem? (i := 49) (by decide +kernel))) rfl
theorem wd_8_50 : Cond.instanceMethod ⟨"WaxedPartnersModel", "bests", "(I)I"⟩ ∈ gT := gT_in (tb_8 _ (List.mem_of_getElem? (i := 50) (by decide +kernel))) rfl
theorem wd_8_51 : Cond.selects "WaxedPartnersModel" ⟨"WaxedPartnersModel", "bests", "(I)I"⟩ ⟨"WaxedPartnersModel", "bests", "(I)I"⟩ ∈ gT := gT_in (tb_8 _ (List.mem_of_getElem? (i := 51) (by decide +kernel))) rfl
theorem wd_4_100 : Cond.methodLink "WaxedPartnersLaw" 134 ⟨"WaxedPartners", "sets", "(I)I"⟩ ∈ gT := gT_in (tb_4 _ (List.mem_of_getElem? (i := 100) (by decide +kernel))) rfl
theorem wd_4_101 : Cond.instanceMethod ⟨"WaxedPartners", "sets", "(I)I"⟩ ∈ gT := gT_in (tb_4 _ (List.mem_of_getElem? (i := 101) (by decide +kernel))) rfl
theorem wd_4_102 : Cond.selects "WaxedPartners" ⟨"WaxedPartners", "sets", "(I)I"⟩ ⟨"WaxedPartners", "sets", "(I)I"⟩ ∈ gT := gT_in (tb_4 _ (List.mem_of_getElem? (i := 102) (by decide +kernel))) rfl
theorem wd_8_53 : Cond.methodLink "WaxedPartnersLaw" 137 ⟨"WaxedPartnersModel", "sets", "(I)I"⟩ ∈ gT := gT_in (tb_8 _ (List.mem_of_getElem? (i := 53) (by decide +kernel))) rfl
theorem wd_8_54 : Cond.instanceMethod ⟨"WaxedPartnersModel", "sets", "(I)I"⟩ ∈ gT := gT_in (tb_8 _ (List.mem_of_getElem? (i := 54) (by decide +kernel))) rfl
theorem wd_8_55 : Cond.selects "WaxedPartnersModel" ⟨"WaxedPartnersModel", "sets", "(I)I"⟩ ⟨"WaxedPartnersModel", "sets", "(I)I"⟩ ∈ gT := gT_in (tb_8 _ (List.mem_of_getElem? (i := 55) (by decide +kernel))) rfl
theorem wd_4_112 : Cond.methodLink "WaxedPartnersLaw" 138 ⟨"WaxedPartners", "ways", "(I)I"⟩ ∈ gT := gT_in (tb_4 _ (List.mem_of_getElem? (i := 112) (by decide +kernel))) rfl
theorem wd_4_113 : Cond.instanceMethod ⟨"WaxedPartners", "ways", "(I)I"⟩ ∈ gT := gT_in (tb_4 _ (List.mem_of_getElem? (i := 113) (by decide +kernel))) rfl
theorem wd_4_114 : Cond.selects "WaxedPartners" ⟨"WaxedPartners", "ways", "(I)I"⟩ ⟨"WaxedPartners", "ways", "(I)I"⟩ ∈ gT := gT_in (tb_4 _ (List.mem_of_getElem? (i := 114) (by decide +kernel))) rfl
theorem wd_8_61 : Cond.methodLink "WaxedPartnersLaw" 141 ⟨"WaxedPartnersModel", "ways", "(I)I"⟩ ∈ gT := gT_in (tb_8 _ (List.mem_of_getElem? (i := 61) (by decide +kernel))) rfl
theorem wd_8_62 : Cond.instanceMethod ⟨"WaxedPartnersModel", "ways", "(I)I"⟩ ∈ gT := gT_in (tb_8 _ (List.mem_of_getElem? (i := 62) (by decide +kernel))) rfl
theorem wd_8_63 : Cond.selects "WaxedPartnersModel" ⟨"WaxedPartnersModel", "ways", "(I)I"⟩ ⟨"WaxedPartnersModel", "ways", "(I)I"⟩ ∈ gT := gT_in (tb_8 _ (List.mem_of_getElem? (i := 63) (by decide +kernel))) rfl
theorem wd_4_116 : Cond.methodLink "WaxedPartnersLaw" 142 ⟨"WaxedPartners", "share", "(III)I"⟩ ∈ gT := gT_in (tb_4 _ (List.mem_of_getElem? (i := 116) (by decide +kernel))) rfl
theorem wd_4_117 : Cond.instanceMethod ⟨"WaxedPartners", "share", "(III)I"⟩ ∈ gT := gT_in (tb_4 _ (List.mem_of_getElem? (i := 117) (by decide +kernel))) rfl
theorem wd_4_118 : Cond.selects "WaxedPartners" ⟨"WaxedPartners", "share", "(III)I"⟩ ⟨"WaxedPartners", "share", "(III)I"⟩ ∈ gT := gT_in (tb_4 _ (List.mem_of_getElem? (i := 118) (by decide +kernel))) rfl
theorem wd_8_65 : Cond.methodLink "WaxedPartnersLaw" 145 ⟨"WaxedPartnersModel", "share", "(III)I"⟩ ∈ gT := gT_in (tb_8 _ (List.mem_of_getElem? (i := 65) (by decide +kernel))) rfl
theorem wd_8_66 : Cond.instanceMethod ⟨"WaxedPartnersModel", "share", "(III)I"⟩ ∈ gT := gT_in (tb_8 _ (List.mem_of_getElem? (i := 66) (by decide +kernel))) rfl
theorem wd_8_67 : Cond.selects "WaxedPartnersModel" ⟨"WaxedPartnersModel", "share", "(III)I"⟩ ⟨"WaxedPartnersModel", "share", "(III)I"⟩ ∈ gT := gT_in (tb_8 _ (List.mem_of_getElem? (i := 67) (by decide +kernel))) rfl
theorem wd_4_140 : Cond.methodLink "WaxedPartnersLaw" 146 ⟨"WaxedPartners", "fair", "(II)I"⟩ ∈ gT := gT_in (tb_4 _ (List.mem_of_getElem? (i := 140) (by decide +kernel))) rfl
theorem wd_4_141 : Cond.instanceMethod ⟨"WaxedPartners", "fair", "(II)I"⟩ ∈ gT := gT_in (tb_4 _ (List.mem_of_getElem? (i := 141) (by decide +kernel))) rfl
theorem wd_4_142 : Cond.selects "WaxedPartners" ⟨"WaxedPartners", "fair", "(II)I"⟩ ⟨"WaxedPartners", "fair", "(II)I"⟩ ∈ gT := gT_in (tb_4 _ (List.mem_of_getElem? (i := 142) (by decide +kernel))) rfl
theorem wd_8_85 : Cond.methodLink "WaxedPartnersLaw" 149 ⟨"WaxedPartnersModel", "fair", "(II)I"⟩ ∈ gT := gT_in (tb_8 _ (List.mem_of_getElem? (i := 85) (by decide +kernel))) rfl
theorem wd_8_86 : Cond.instanceMethod ⟨"WaxedPartnersModel", "fair", "(II)I"⟩ ∈ gT := gT_in (tb_8 _ (List.mem_of_getElem? (i := 86) (by decide +kernel))) rfl
theorem wd_8_87 : Cond.selects "WaxedPartnersModel" ⟨"WaxedPartnersModel", "fair", "(II)I"⟩ ⟨"WaxedPartnersModel", "fair", "(II)I"⟩ ∈ gT := gT_in (tb_8 _ (List.mem_of_getElem? (i := 87) (by decide +kernel))) rfl
theorem wd_4_170 : Cond.methodLink "WaxedPartnersLaw" 150 ⟨"WaxedPartners", "leave", "(II)I"⟩ ∈ gT := gT_in (tb_4 _ (List.mem_of_getElem? (i := 170) (by decide +kernel))) rfl
theorem wd_4_171 : Cond.instanceMethod ⟨"WaxedPartners", "leave", "(II)I"⟩ ∈ gT := gT_in (tb_4 _ (List.mem_of_getElem? (i := 171) (by decide +kernel))) rfl
theorem wd_4_172 : Cond.selects "WaxedPartners" ⟨"WaxedPartners", "leave", "(II)I"⟩ ⟨"WaxedPartners", "leave", "(II)I"⟩ ∈ gT := gT_in (tb_4 _ (List.mem_of_getElem? (i := 172) (by decide +kernel))) rfl
theorem wd_8_110 : Cond.methodLink "WaxedPartnersLaw" 153 ⟨"WaxedPartnersModel", "leave", "(II)I"⟩ ∈ gT := gT_in (tb_8 _ (List.mem_of_getElem? (i := 110) (by decide +kernel))) rfl
theorem wd_8_111 : Cond.instanceMethod ⟨"WaxedPartnersModel", "leave", "(II)I"⟩ ∈ gT := gT_in (tb_8 _ (List.mem_of_getElem? (i := 111) (by decide +kernel))) rfl
theorem wd_8_112 : Cond.selects "WaxedPartnersModel" ⟨"WaxedPartnersModel", "leave", "(II)I"⟩ ⟨"WaxedPartnersModel", "leave", "(II)I"⟩ ∈ gT := gT_in (tb_8 _ (List.mem_of_getElem? (i := 112) (by decide +kernel))) rfl
theorem wd_4_174 : Cond.methodLink "WaxedPartnersLaw" 154 ⟨"WaxedPartners", "snips", "(II)I"⟩ ∈ gT := gT_in (tb_4 _ (List.mem_of_getElem? (i := 174) (by decide +kernel))) rfl
theorem wd_4_175 : Cond.instanceMethod ⟨"WaxedPartners", "snips", "(II)I"⟩ ∈ gT := gT_in (tb_4 _ (List.mem_of_getElem? (i := 175) (by decide +kernel))) rfl
theorem wd_4_176 : Cond.selects "WaxedPartners" ⟨"WaxedPartners", "snips", "(II)I"⟩ ⟨"WaxedPartners", "snips", "(II)I"⟩ ∈ gT := gT_in (tb_4 _ (List.mem_of_getElem? (i := 176) (by decide +kernel))) rfl
theorem wd_8_114 : Cond.methodLink "WaxedPartnersLaw" 157 ⟨"WaxedPartnersModel", "snips", "(II)I"⟩ ∈ gT := gT_in (tb_8 _ (List.mem_of_getElem? (i := 114) (by decide +kernel))) rfl
theorem wd_8_115 : Cond.instanceMethod ⟨"WaxedPartnersModel", "snips", "(II)I"⟩ ∈ gT := gT_in (tb_8 _ (List.mem_of_getElem? (i := 115) (by decide +kernel))) rfl
theorem wd_8_116 : Cond.selects "WaxedPartnersModel" ⟨"WaxedPartnersModel", "snips", "(II)I"⟩ ⟨"WaxedPartnersModel", "snips", "(II)I"⟩ ∈ gT := gT_in (tb_8 _ (List.mem_of_getElem? (i := 116) (by decide +kernel))) rfl
theorem wd_4_186 : Cond.methodLink "WaxedPartnersLaw" 158 ⟨"WaxedPartners", "snipped", "(II)I"⟩ ∈ gT := gT_in (tb_4 _ (List.mem_of_getElem? (i := 186) (by decide +kernel))) rfl
theorem wd_4_187 : Cond.instanceMethod ⟨"WaxedPartners", "snipped", "(II)I"⟩ ∈ gT := gT_in (tb_4 _ (List.mem_of_getElem? (i := 187) (by decide +kernel))) rfl
theorem wd_4_188 : Cond.selects "WaxedPartners" ⟨"WaxedPartners", "snipped", "(II)I"⟩ ⟨"WaxedPartners", "snipped", "(II)I"⟩ ∈ gT := gT_in (tb_4 _ (List.mem_of_getElem? (i := 188) (by decide +kernel))) rfl
theorem wd_8_122 : Cond.methodLink "WaxedPartnersLaw" 161 ⟨"WaxedPartnersModel", "snipped", "(II)I"⟩ ∈ gT := gT_in (tb_8 _ (List.mem_of_getElem? (i := 122) (by decide +kernel))) rfl
theorem wd_8_123 : Cond.instanceMethod ⟨"WaxedPartnersModel", "snipped", "(II)I"⟩ ∈ gT := gT_in (tb_8 _ (List.mem_of_getElem? (i := 123) (by decide +kernel))) rfl
theorem wd_8_124 : Cond.selects "WaxedPartnersModel" ⟨"WaxedPartnersModel", "snipped", "(II)I"⟩ ⟨"WaxedPartnersModel", "snipped", "(II)I"⟩ ∈ gT := gT_in (tb_8 _ (List.mem_of_getElem? (i := 124) (by decide +kernel))) rfl
theorem wd_4_190 : Cond.methodLink "WaxedPartnersLaw" 162 ⟨"WaxedPartners", "wax", "(II)I"⟩ ∈ gT := gT_in (tb_4 _ (List.mem_of_getElem? (i := 190) (by decide +kernel))) rfl
theorem wd_4_191 : Cond.instanceMethod ⟨"WaxedPartners", "wax", "(II)I"⟩ ∈ gT := gT_in (tb_4 _ (List.mem_of_getElem? (i := 191) (by decide +kernel))) rfl
theorem wd_4_192 : Cond.selects "WaxedPartners" ⟨"WaxedPartners", "wax", "(II)I"⟩ ⟨"WaxedPartners", "wax", "(II)I"⟩ ∈ gT := gT_in (tb_4 _ (List.mem_of_getElem? (i := 192) (by decide +kernel))) rfl
theorem wd_8_126 : Cond.methodLink "WaxedPartnersLaw" 165 ⟨"WaxedPartnersModel", "wax", "(II)I"⟩ ∈ gT := gT_in (tb_8 _ (List.mem_of_getElem? (i := 126) (by decide +kernel))) rfl
theorem wd_8_127 : Cond.instanceMethod ⟨"WaxedPartnersModel", "wax", "(II)I"⟩ ∈ gT := gT_in (tb_8 _ (List.mem_of_getElem? (i := 127) (by decide +kernel))) rfl
theorem wd_8_128 : Cond.selects "WaxedPartnersModel" ⟨"WaxedPartnersModel", "wax", "(II)I"⟩ ⟨"WaxedPartnersModel", "wax", "(II)I"⟩ ∈ gT := gT_in (tb_8 _ (List.mem_of_getElem? (i := 128) (by decide +kernel))) rfl
theorem wd_4_198 : Cond.methodLink "WaxedPartnersLaw" 166 ⟨"WaxedPartners", "guards", "(I)I"⟩ ∈ gT := gT_in (tb_4 _ (List.mem_of_getElem? (i := 198) (by decide +kernel))) rfl
theorem wd_4_199 : Cond.instanceMethod ⟨"WaxedPartners", "guards", "(I)I"⟩ ∈ gT := gT_in (tb_4 _ (List.mem_of_getElem? (i := 199) (by decide +kernel))) rfl
theorem wd_4_200 : Cond.selects "WaxedPartners" ⟨"WaxedPartners", "guards", "(I)I"⟩ ⟨"WaxedPartners", "guards", "(I)I"⟩ ∈ gT := gT_in (tb_4 _ (List.mem_of_getElem? (i := 200) (by decide +kernel))) rfl
theorem wd_8_130 : Cond.methodLink "WaxedPartnersLaw" 169 ⟨"WaxedPartnersModel", "guards", "(I)I"⟩ ∈ gT := gT_in (tb_8 _ (List.mem_of_getElem? (i := 130) (by decide +kernel))) rfl
theorem wd_8_131 : Cond.instanceMethod ⟨"WaxedPartnersModel", "guards", "(I)I"⟩ ∈ gT := gT_in (tb_8 _ (List.mem_of_getElem? (i := 131) (by decide +kernel))) rfl
theorem wd_8_132 : Cond.selects "WaxedPartnersModel" ⟨"WaxedPartnersModel", "guards", "(I)I"⟩ ⟨"WaxedPartnersModel", "guards", "(I)I"⟩ ∈ gT := gT_in (tb_8 _ (List.mem_of_getElem? (i := 132) (by decide +kernel))) rfl
theorem wd_4_210 : Cond.methodLink "WaxedPartnersLaw" 170 ⟨"WaxedPartners", "guarded", "(I)I"⟩ ∈ gT := gT_in (tb_4 _ (List.mem_of_getElem? (i := 210) (by decide +kernel))) rfl
theorem wd_4_211 : Cond.instanceMethod ⟨"WaxedPartners", "guarded", "(I)I"⟩ ∈ gT := gT_in (tb_4 _ (List.mem_of_getElem? (i := 211) (by decide +kernel))) rfl
theorem wd_4_212 : Cond.selects "WaxedPartners" ⟨"WaxedPartners", "guarded", "(I)I"⟩ ⟨"WaxedPartners", "guarded", "(I)I"⟩ ∈ gT := gT_in (tb_4 _ (List.mem_of_getElem? (i := 212) (by decide +kernel))) rfl
theorem wd_8_138 : Cond.methodLink "WaxedPartnersLaw" 173 ⟨"WaxedPartnersModel", "guarded", "(I)I"⟩ ∈ gT := gT_in (tb_8 _ (List.mem_of_getElem? (i := 138) (by decide +kernel))) rfl
theorem wd_8_139 : Cond.instanceMethod ⟨"WaxedPartnersModel", "guarded", "(I)I"⟩ ∈ gT := gT_in (tb_8 _ (List.mem_of_getElem? (i := 139) (by decide +kernel))) rfl
theorem wd_8_140 : Cond.selects "WaxedPartnersModel" ⟨"WaxedPartnersModel", "guarded", "(I)I"⟩ ⟨"WaxedPartnersModel", "guarded", "(I)I"⟩ ∈ gT := gT_in (tb_8 _ (List.mem_of_getElem? (i := 140) (by decide +kernel))) rfl
theorem wd_4_214 : Cond.methodLink "WaxedPartnersLaw" 174 ⟨"WaxedPartners", "sneezer", "()I"⟩ ∈ gT := gT_in (tb_4 _ (List.mem_of_getElem? (i := 214) (by decide +kernel))) rfl
theorem wd_4_215 : Cond.instanceMethod ⟨"WaxedPartners", "sneezer", "()I"⟩ ∈ gT := gT_in (tb_4 _ (List.mem_of_getElem? (i := 215) (by decide +kernel))) rfl
theorem wd_4_216 : Cond.selects "WaxedPartners" ⟨"WaxedPartners", "sneezer", "()I"⟩ ⟨"WaxedPartners", "sneezer", "()I"⟩ ∈ gT := gT_in (tb_4 _ (List.mem_of_getElem? (i := 216) (by decide +kernel))) rfl
theorem wd_8_142 : Cond.methodLink "WaxedPartnersLaw" 177 ⟨"WaxedPartnersModel", "sneezer", "()I"⟩ ∈ gT := gT_in (tb_8 _ (List.mem_of_getElem? (i := 142) (by decide +kernel))) rfl
theorem wd_8_143 : Cond.instanceMethod ⟨"WaxedPartnersModel", "sneezer", "()I"⟩ ∈ gT := gT_in (tb_8 _ (List.mem_of_getElem? (i := 143) (by decide +kernel))) rfl
theorem wd_8_144 : Cond.selects "WaxedPartnersModel" ⟨"WaxedPartnersModel", "sneezer", "()I"⟩ ⟨"WaxedPartnersModel", "sneezer", "()I"⟩ ∈ gT := gT_in (tb_8 _ (List.mem_of_getElem? (i := 144) (by decide +kernel))) rfl
theorem wd_4_218 : Cond.methodLink "WaxedPartnersLaw" 178 ⟨"WaxedPartners", "trues", "(I)I"⟩ ∈ gT := gT_in (tb_4 _ (List.mem_of_getElem? (i := 218) (by decide +kernel))) rfl
theorem wd_4_219 : Cond.instanceMethod ⟨"WaxedPartners", "trues", "(I)I"⟩ ∈ gT := gT_in (tb_4 _ (List.mem_of_getElem? (i := 219) (by decide +kernel))) rfl
theorem wd_4_220 : Cond.selects "WaxedPartners" ⟨"WaxedPartners", "trues", "(I)I"⟩ ⟨"WaxedPartners", "trues", "(I)I"⟩ ∈ gT := gT_in (tb_4 _ (List.mem_of_getElem? (i := 220) (by decide +kernel))) rfl
theorem wd_8_150 : Cond.methodLink "WaxedPartnersLaw" 181 ⟨"WaxedPartnersModel", "trues", "(I)I"⟩ ∈ gT := gT_in (tb_8 _ (List.mem_of_getElem? (i := 150) (by decide +kernel))) rfl
theorem wd_8_151 : Cond.instanceMethod ⟨"WaxedPartnersModel", "trues", "(I)I"⟩ ∈ gT := gT_in (tb_8 _ (List.mem_of_getElem? (i := 151) (by decide +kernel))) rfl
theorem wd_8_152 : Cond.selects "WaxedPartnersModel" ⟨"WaxedPartnersModel", "trues", "(I)I"⟩ ⟨"WaxedPartnersModel", "trues", "(I)I"⟩ ∈ gT := gT_in (tb_8 _ (List.mem_of_getElem? (i := 152) (by decide +kernel))) rfl
theorem wd_5_14 : Cond.methodLink "WaxedPartnersLaw" 182 ⟨"WaxedPartners", "surely", "(I)I"⟩ ∈ gT := gT_in (tb_5 _ (List.mem_of_getElem? (i := 14) (by decide +kernel))) rfl
theorem wd_5_15 : Cond.instanceMethod ⟨"WaxedPartners", "surely", "(I)I"⟩ ∈ gT := gT_in (tb_5 _ (List.mem_of_getElem? (i := 15) (by decide +kernel))) rfl
theorem wd_5_16 : Cond.selects "WaxedPartners" ⟨"WaxedPartners", "surely", "(I)I"⟩ ⟨"WaxedPartners", "surely", "(I)I"⟩ ∈ gT := gT_in (tb_5 _ (List.mem_of_getElem? (i := 16) (by decide +kernel))) rfl
theorem wd_8_170 : Cond.methodLink "WaxedPartnersLaw" 185 ⟨"WaxedPartnersModel", "surely", "(I)I"⟩ ∈ gT := gT_in (tb_8 _ (List.mem_of_getElem? (i := 170) (by decide +kernel))) rfl
theorem wd_8_171 : Cond.instanceMethod ⟨"WaxedPartnersModel", "surely", "(I)I"⟩ ∈ gT := gT_in (tb_8 _ (List.mem_of_getElem? (i := 171) (by decide +kernel))) rfl
theorem wd_8_172 : Cond.selects "WaxedPartnersModel" ⟨"WaxedPartnersModel", "surely", "(I)I"⟩ ⟨"WaxedPartnersModel", "surely", "(I)I"⟩ ∈ gT := gT_in (tb_8 _ (List.mem_of_getElem? (i := 172) (by decide +kernel))) rfl
theorem wd_5_18 : Cond.methodLink "WaxedPartnersLaw" 186 ⟨"WaxedPartners", "never", "(I)I"⟩ ∈ gT := gT_in (tb_5 _ (List.mem_of_getElem? (i := 18) (by decide +kernel))) rfl
theorem wd_5_19 : Cond.instanceMethod ⟨"WaxedPartners", "never", "(I)I"⟩ ∈ gT := gT_in (tb_5 _ (List.mem_of_getElem? (i := 19) (by decide +kernel))) rfl
theorem wd_5_20 : Cond.selects "WaxedPartners" ⟨"WaxedPartners", "never", "(I)I"⟩ ⟨"WaxedPartners", "never", "(I)I"⟩ ∈ gT := gT_in (tb_5 _ (List.mem_of_getElem? (i := 20) (by decide +kernel))) rfl
theorem wd_8_174 : Cond.methodLink "WaxedPartnersLaw" 189 ⟨"WaxedPartnersModel", "never", "(I)I"⟩ ∈ gT := gT_in (tb_8 _ (List.mem_of_getElem? (i := 174) (by decide +kernel))) rfl
theorem wd_8_175 : Cond.instanceMethod ⟨"WaxedPartnersModel", "never", "(I)I"⟩ ∈ gT := gT_in (tb_8 _ (List.mem_of_getElem? (i := 175) (by decide +kernel))) rfl
theorem wd_8_176 : Cond.selects "WaxedPartnersModel" ⟨"WaxedPartnersModel", "never", "(I)I"⟩ ⟨"WaxedPartnersModel", "never", "(I)I"⟩ ∈ gT := gT_in (tb_8 _ (List.mem_of_getElem? (i := 176) (by decide +kernel))) rfl
theorem wd_5_22 : Cond.methodLink "WaxedPartnersLaw" 190 ⟨"WaxedPartners", "ask", "(I)I"⟩ ∈ gT := gT_in (tb_5 _ (List.mem_of_getElem? (i := 22) (by decide +kernel))) rfl
theorem wd_5_23 : Cond.instanceMethod ⟨"WaxedPartners", "ask", "(I)I"⟩ ∈ gT := gT_in (tb_5 _ (List.mem_of_getElem? (i := 23) (by decide +kernel))) rfl
theorem wd_5_24 : Cond.selects "WaxedPartners" ⟨"WaxedPartners", "ask", "(I)I"⟩ ⟨"WaxedPartners", "ask", "(I)I"⟩ ∈ gT := gT_in (tb_5 _ (List.mem_of_getElem? (i := 24) (by decide +kernel))) rfl
theorem wd_8_178 : Cond.methodLink "WaxedPartnersLaw" 193 ⟨"WaxedPartnersModel", "ask", "(I)I"⟩ ∈ gT := gT_in (tb_8 _ (List.mem_of_getElem? (i := 178) (by decide +kernel))) rfl
theorem wd_8_179 : Cond.instanceMethod ⟨"WaxedPartnersModel", "ask", "(I)I"⟩ ∈ gT := gT_in (tb_8 _ (List.mem_of_getElem? (i := 179) (by decide +kernel))) rfl
theorem wd_8_180 : Cond.selects "WaxedPartnersModel" ⟨"WaxedPartnersModel", "ask", "(I)I"⟩ ⟨"WaxedPartnersModel", "ask", "(I)I"⟩ ∈ gT := gT_in (tb_8 _ (List.mem_of_getElem? (i := 180) (by decide +kernel))) rfl
theorem wd_5_35 : Cond.methodLink "WaxedPartnersLaw" 194 ⟨"WaxedPartners", "leaves", "(I)I"⟩ ∈ gT := gT_in (tb_5 _ (List.mem_of_getElem? (i := 35) (by decide +kernel))) rfl
theorem wd_5_36 : Cond.instanceMethod ⟨"WaxedPartners", "leaves", "(I)I"⟩ ∈ gT := gT_in (tb_5 _ (List.mem_of_getElem? (i := 36) (by decide +kernel))) rfl
theorem wd_5_37 : Cond.selects "WaxedPartners" ⟨"WaxedPartners", "leaves", "(I)I"⟩ ⟨"WaxedPartners", "leaves", "(I)I"⟩ ∈ gT := gT_in (tb_5 _ (List.mem_of_getElem? (i := 37) (by decide +kernel))) rfl
theorem wd_8_182 : Cond.methodLink "WaxedPartnersLaw" 197 ⟨"WaxedPartnersModel", "leaves", "(I)I"⟩ ∈ gT := gT_in (tb_8 _ (List.mem_of_getElem? (i := 182) (by decide +kernel))) rfl
theorem wd_8_183 : Cond.instanceMethod ⟨"WaxedPartnersModel", "leaves", "(I)I"⟩ ∈ gT := gT_in (tb_8 _ (List.mem_of_getElem? (i := 183) (by decide +kernel))) rfl
theorem wd_8_184 : Cond.selects "WaxedPartnersModel" ⟨"WaxedPartnersModel", "leaves", "(I)I"⟩ ⟨"WaxedPartnersModel", "leaves", "(I)I"⟩ ∈ gT := gT_in (tb_8 _ (List.mem_of_getElem? (i := 184) (by decide +kernel))) rfl
theorem wd_5_40 : Cond.methodLink "WaxedPartnersLaw" 198 ⟨"WaxedPartners", "laws", "(I)I"⟩ ∈ gT := gT_in (tb_5 _ (List.mem_of_getElem? (i := 40) (by decide +kernel))) rfl
theorem wd_5_41 : Cond.instanceMethod ⟨"WaxedPartners", "laws", "(I)I"⟩ ∈ gT := gT_in (tb_5 _ (List.mem_of_getElem? (i := 41) (by decide +kernel))) rfl
theorem wd_5_42 : Cond.selects "WaxedPartners" ⟨"WaxedPartners", "laws", "(I)I"⟩ ⟨"WaxedPartners", "laws", "(I)I"⟩ ∈ gT := gT_in (tb_5 _ (List.mem_of_getElem? (i := 42) (by decide +kernel))) rfl
theorem wd_8_186 : Cond.methodLink "WaxedPartnersLaw" 201 ⟨"WaxedPartnersModel", "laws", "(I)I"⟩ ∈ gT := gT_in (tb_8 _ (List.mem_of_getElem? (i := 186) (by decide +kernel))) rfl
theorem wd_8_187 : Cond.instanceMethod ⟨"WaxedPartnersModel", "laws", "(I)I"⟩ ∈ gT := gT_in (tb_8 _ (List.mem_of_getElem? (i := 187) (by decide +kernel))) rfl
theorem wd_8_188 : Cond.selects "WaxedPartnersModel" ⟨"WaxedPartnersModel", "laws", "(I)I"⟩ ⟨"WaxedPartnersModel", "laws", "(I)I"⟩ ∈ gT := gT_in (tb_8 _ (List.mem_of_getElem? (i := 188) (by decide +kernel))) rfl
theorem wd_5_45 : Cond.methodLink "WaxedPartnersLaw" 202 ⟨"WaxedPartners", "by", "(II)I"⟩ ∈ gT := gT_in (tb_5 _ (List.mem_of_getElem? (i := 45) (by decide +kernel))) rfl
theorem wd_5_46 : Cond.instanceMethod ⟨"WaxedPartners", "by", "(II)I"⟩ ∈ gT := gT_in (tb_5 _ (List.mem_of_getElem? (i := 46) (by decide +kernel))) rfl
theorem wd_5_47 : Cond.selects "WaxedPartners" ⟨"WaxedPartners", "by", "(II)I"⟩ ⟨"WaxedPartners", "by", "(II)I"⟩ ∈ gT := gT_in (tb_5 _ (List.mem_of_getElem? (i := 47) (by decide +kernel))) rfl
theorem wd_8_190 : Cond.methodLink "WaxedPartnersLaw" 205 ⟨"WaxedPartnersModel", "by", "(II)I"⟩ ∈ gT := gT_in (tb_8 _ (List.mem_of_getElem? (i := 190) (by decide +kernel))) rfl
theorem wd_8_191 : Cond.instanceMethod ⟨"WaxedPartnersModel", "by", "(II)I"⟩ ∈ gT := gT_in (tb_8 _ (List.mem_of_getElem? (i := 191) (by decide +kernel))) rfl
theorem wd_8_192 : Cond.selects "WaxedPartnersModel" ⟨"WaxedPartnersModel", "by", "(II)I"⟩ ⟨"WaxedPartnersModel", "by", "(II)I"⟩ ∈ gT := gT_in (tb_8 _ (List.mem_of_getElem? (i := 192) (by decide +kernel))) rfl
theorem wd_5_50 : Cond.methodLink "WaxedPartnersLaw" 206 ⟨"WaxedPartners", "rests", "(II)I"⟩ ∈ gT := gT_in (tb_5 _ (List.mem_of_getElem? (i := 50) (by decide +kernel))) rfl
theorem wd_5_51 : Cond.instanceMethod ⟨"WaxedPartners", "rests", "(II)I"⟩ ∈ gT := gT_in (tb_5 _ (List.mem_of_getElem? (i := 51) (by decide +kernel))) rfl
theorem wd_5_52 : Cond.selects "WaxedPartners" ⟨"WaxedPartners", "rests", "(II)I"⟩ ⟨"WaxedPartners", "rests", "(II)I"⟩ ∈ gT := gT_in (tb_5 _ (List.mem_of_getElem? (i := 52) (by decide +kernel))) rfl
theorem wd_8_194 : Cond.methodLink "WaxedPartnersLaw" 209 ⟨"WaxedPartnersModel", "rests", "(II)I"⟩ ∈ gT := gT_in (tb_8 _ (List.mem_of_getElem? (i := 194) (by decide +kernel))) rfl
theorem wd_8_195 : Cond.instanceMethod ⟨"WaxedPartnersModel", "rests", "(II)I"⟩ ∈ gT := gT_in (tb_8 _ (List.mem_of_getElem? (i := 195) (by decide +kernel))) rfl
theorem wd_8_196 : Cond.selects "WaxedPartnersModel" ⟨"WaxedPartnersModel", "rests", "(II)I"⟩ ⟨"WaxedPartnersModel", "rests", "(II)I"⟩ ∈ gT := gT_in (tb_8 _ (List.mem_of_getElem? (i := 196) (by decide +kernel))) rfl
theorem wd_5_62 : Cond.methodLink "WaxedPartnersLaw" 210 ⟨"WaxedPartners", "gets", "(IIII)I"⟩ ∈ gT := gT_in (tb_5 _ (List.mem_of_getElem? (i := 62) (by decide +kernel))) rfl
theorem wd_5_63 : Cond.instanceMethod ⟨"WaxedPartners", "gets", "(IIII)I"⟩ ∈ gT := gT_in (tb_5 _ (List.mem_of_getElem? (i := 63) (by decide +kernel))) rfl
theorem wd_5_64 : Cond.selects "WaxedPartners" ⟨"WaxedPartners", "gets", "(IIII)I"⟩ ⟨"WaxedPartners", "gets", "(IIII)I"⟩ ∈ gT := gT_in (tb_5 _ (List.mem_of_getElem? (i := 64) (by decide +kernel))) rfl
theorem wd_8_202 : Cond.methodLink "WaxedPartnersLaw" 214 ⟨"WaxedPartnersModel", "gets", "(IIII)I"⟩ ∈ gT := gT_in (tb_8 _ (List.mem_of_getElem? (i := 202) (by decide +kernel))) rfl
theorem wd_8_203 : Cond.instanceMethod ⟨"WaxedPartnersModel", "gets", "(IIII)I"⟩ ∈ gT := gT_in (tb_8 _ (List.mem_of_getElem? (i := 203) (by decide +kernel))) rfl
theorem wd_8_204 : Cond.selects "WaxedPartnersModel" ⟨"WaxedPartnersModel", "gets", "(IIII)I"⟩ ⟨"WaxedPartnersModel", "gets", "(IIII)I"⟩ ∈ gT := gT_in (tb_8 _ (List.mem_of_getElem? (i := 204) (by decide +kernel))) rfl
theorem wd_5_66 : Cond.methodLink "WaxedPartnersLaw" 215 ⟨"WaxedPartners", "when", "(II)I"⟩ ∈ gT := gT_in (tb_5 _ (List.mem_of_getElem? (i := 66) (by decide +kernel))) rfl
theorem wd_5_67 : Cond.instanceMethod ⟨"WaxedPartners", "when", "(II)I"⟩ ∈ gT := gT_in (tb_5 _ (List.mem_of_getElem? (i := 67) (by decide +kernel))) rfl
theorem wd_5_68 : Cond.selects "WaxedPartners" ⟨"WaxedPartners", "when", "(II)I"⟩ ⟨"WaxedPartners", "when", "(II)I"⟩ ∈ gT := gT_in (tb_5 _ (List.mem_of_getElem? (i := 68) (by decide +kernel))) rfl
theorem wd_8_206 : Cond.methodLink "WaxedPartnersLaw" 218 ⟨"WaxedPartnersModel", "when", "(II)I"⟩ ∈ gT := gT_in (tb_8 _ (List.mem_of_getElem? (i := 206) (by decide +kernel))) rfl
theorem wd_8_207 : Cond.instanceMethod ⟨"WaxedPartnersModel", "when", "(II)I"⟩ ∈ gT := gT_in (tb_8 _ (List.mem_of_getElem? (i := 207) (by decide +kernel))) rfl
theorem wd_8_208 : Cond.selects "WaxedPartnersModel" ⟨"WaxedPartnersModel", "when", "(II)I"⟩ ⟨"WaxedPartnersModel", "when", "(II)I"⟩ ∈ gT := gT_in (tb_8 _ (List.mem_of_getElem? (i := 208) (by decide +kernel))) rfl
theorem wd_5_83 : Cond.methodLink "WaxedPartnersLaw" 219 ⟨"WaxedPartners", "chance", "(III)I"⟩ ∈ gT := gT_in (tb_5 _ (List.mem_of_getElem? (i := 83) (by decide +kernel))) rfl
theorem wd_5_84 : Cond.instanceMethod ⟨"WaxedPartners", "chance", "(III)I"⟩ ∈ gT := gT_in (tb_5 _ (List.mem_of_getElem? (i := 84) (by decide +kernel))) rfl
theorem wd_5_85 : Cond.selects "WaxedPartners" ⟨"WaxedPartners", "chance", "(III)I"⟩ ⟨"WaxedPartners", "chance", "(III)I"⟩ ∈ gT := gT_in (tb_5 _ (List.mem_of_getElem? (i := 85) (by decide +kernel))) rfl
theorem wd_8_214 : Cond.methodLink "WaxedPartnersLaw" 222 ⟨"WaxedPartnersModel", "chance", "(III)I"⟩ ∈ gT := gT_in (tb_8 _ (List.mem_of_getElem? (i := 214) (by decide +kernel))) rfl
theorem wd_8_215 : Cond.instanceMethod ⟨"WaxedPartnersModel", "chance", "(III)I"⟩ ∈ gT := gT_in (tb_8 _ (List.mem_of_getElem? (i := 215) (by decide +kernel))) rfl
theorem wd_8_216 : Cond.selects "WaxedPartnersModel" ⟨"WaxedPartnersModel", "chance", "(III)I"⟩ ⟨"WaxedPartnersModel", "chance", "(III)I"⟩ ∈ gT := gT_in (tb_8 _ (List.mem_of_getElem? (i := 216) (by decide +kernel))) rfl
theorem wd_5_99 : Cond.methodLink "WaxedPartnersLaw" 223 ⟨"WaxedPartners", "through", "(III)I"⟩ ∈ gT := gT_in (tb_5 _ (List.mem_of_getElem? (i := 99) (by decide +kernel))) rfl
theorem wd_5_100 : Cond.instanceMethod ⟨"WaxedPartners", "through", "(III)I"⟩ ∈ gT := gT_in (tb_5 _ (List.mem_of_getElem? (i := 100) (by decide +kernel))) rfl
theorem wd_5_101 : Cond.selects "WaxedPartners" ⟨"WaxedPartners", "through", "(III)I"⟩ ⟨"WaxedPartners", "through", "(III)I"⟩ ∈ gT := gT_in (tb_5 _ (List.mem_of_getElem? (i := 101) (by decide +kernel))) rfl
theorem wd_8_226 : Cond.methodLink "WaxedPartnersLaw" 226 ⟨"WaxedPartnersModel", "through", "(III)I"⟩ ∈ gT := gT_in (tb_8 _ (List.mem_of_getElem? (i := 226) (by decide +kernel))) rfl
theorem wd_8_227 : Cond.instanceMethod ⟨"WaxedPartnersModel", "through", "(III)I"⟩ ∈ gT := gT_in (tb_8 _ (List.mem_of_getElem? (i := 227) (by decide +kernel))) rfl
theorem wd_8_228 : Cond.selects "WaxedPartnersModel" ⟨"WaxedPartnersModel", "through", "(III)I"⟩ ⟨"WaxedPartnersModel", "through", "(III)I"⟩ ∈ gT := gT_in (tb_8 _ (List.mem_of_getElem? (i := 228) (by decide +kernel))) rfl
theorem wd_5_103 : Cond.methodLink "WaxedPartnersLaw" 227 ⟨"WaxedPartners", "mean", "(I)I"⟩ ∈ gT := gT_in (tb_5 _ (List.mem_of_getElem? (i := 103) (by decide +kernel))) rfl
theorem wd_5_104 : Cond.instanceMethod ⟨"WaxedPartners", "mean", "(I)I"⟩ ∈ gT := gT_in (tb_5 _ (List.mem_of_getElem? (i := 104) (by decide +kernel))) rfl
theorem wd_5_105 : Cond.selects "WaxedPartners" ⟨"WaxedPartners", "mean", "(I)I"⟩ ⟨"WaxedPartners", "mean", "(I)I"⟩ ∈ gT := gT_in (tb_5 _ (List.mem_of_getElem? (i := 105) (by decide +kernel))) rfl
theorem wd_8_230 : Cond.methodLink "WaxedPartnersLaw" 230 ⟨"WaxedPartnersModel", "mean", "(I)I"⟩ ∈ gT := gT_in (tb_8 _ (List.mem_of_getElem? (i := 230) (by decide +kernel))) rfl
theorem wd_8_231 : Cond.instanceMethod ⟨"WaxedPartnersModel", "mean", "(I)I"⟩ ∈ gT := gT_in (tb_8 _ (List.mem_of_getElem? (i := 231) (by decide +kernel))) rfl
theorem wd_8_232 : Cond.selects "WaxedPartnersModel" ⟨"WaxedPartnersModel", "mean", "(I)I"⟩ ⟨"WaxedPartnersModel", "mean", "(I)I"⟩ ∈ gT := gT_in (tb_8 _ (List.mem_of_getElem? (i := 232) (by decide +kernel))) rfl
theorem wd_5_107 : Cond.methodLink "WaxedPartnersLaw" 231 ⟨"WaxedPartners", "weld", "(IIII)I"⟩ ∈ gT := gT_in (tb_5 _ (List.mem_of_getElem? (i := 107) (by decide +kernel))) rfl
theorem wd_5_108 : Cond.instanceMethod ⟨"WaxedPartners", "weld", "(IIII)I"⟩ ∈ gT := gT_in (tb_5 _ (List.mem_of_getElem? (i := 108) (by decide +kernel))) rfl
theorem wd_5_109 : Cond.selects "WaxedPartners" ⟨"WaxedPartners", "weld", "(IIII)I"⟩ ⟨"WaxedPartners", "weld", "(IIII)I"⟩ ∈ gT := gT_in (tb_5 _ (List.mem_of_getElem? (i := 109) (by decide +kernel))) rfl
theorem wd_9_16 : Cond.methodLink "WaxedPartnersLaw" 234 ⟨"WaxedPartnersModel", "weld", "(IIII)I"⟩ ∈ gT := gT_in (tb_9 _ (List.mem_of_getElem? (i := 16) (by decide +kernel))) rfl
theorem wd_9_17 : Cond.instanceMethod ⟨"WaxedPartnersModel", "weld", "(IIII)I"⟩ ∈ gT := gT_in (tb_9 _ (List.mem_of_getElem? (i := 17) (by decide +kernel))) rfl
theorem wd_9_18 : Cond.selects "WaxedPartnersModel" ⟨"WaxedPartnersModel", "weld", "(IIII)I"⟩ ⟨"WaxedPartnersModel", "weld", "(IIII)I"⟩ ∈ gT := gT_in (tb_9 _ (List.mem_of_getElem? (i := 18) (by decide +kernel))) rfl
theorem wd_5_111 : Cond.methodLink "WaxedPartnersLaw" 235 ⟨"WaxedPartners", "snip", "(III)I"⟩ ∈ gT := gT_in (tb_5 _ (List.mem_of_getElem? (i := 111) (by decide +kernel))) rfl
theorem wd_5_112 : Cond.instanceMethod ⟨"WaxedPartners", "snip", "(III)I"⟩ ∈ gT := gT_in (tb_5 _ (List.mem_of_getElem? (i := 112) (by decide +kernel))) rfl
theorem wd_5_113 : Cond.selects "WaxedPartners" ⟨"WaxedPartners", "snip", "(III)I"⟩ ⟨"WaxedPartners", "snip", "(III)I"⟩ ∈ gT := gT_in (tb_5 _ (List.mem_of_getElem? (i := 113) (by decide +kernel))) rfl
theorem wd_9_25 : Cond.methodLink "WaxedPartnersLaw" 238 ⟨"WaxedPartnersModel", "snip", "(III)I"⟩ ∈ gT := gT_in (tb_9 _ (List.mem_of_getElem? (i := 25) (by decide +kernel))) rfl
theorem wd_9_26 : Cond.instanceMethod ⟨"WaxedPartnersModel", "snip", "(III)I"⟩ ∈ gT := gT_in (tb_9 _ (List.mem_of_getElem? (i := 26) (by decide +kernel))) rfl
theorem wd_9_27 : Cond.selects "WaxedPartnersModel" ⟨"WaxedPartnersModel", "snip", "(III)I"⟩ ⟨"WaxedPartnersModel", "snip", "(III)I"⟩ ∈ gT := gT_in (tb_9 _ (List.mem_of_getElem? (i := 27) (by decide +kernel))) rfl
theorem wd_5_115 : Cond.methodLink "WaxedPartnersLaw" 239 ⟨"WaxedPartners", "undo", "()I"⟩ ∈ gT := gT_in (tb_5 _ (List.mem_of_getElem? (i := 115) (by decide +kernel))) rfl
theorem wd_5_116 : Cond.instanceMethod ⟨"WaxedPartners", "undo", "()I"⟩ ∈ gT := gT_in (tb_5 _ (List.mem_of_getElem? (i := 116) (by decide +kernel))) rfl
theorem wd_5_117 : Cond.selects "WaxedPartners" ⟨"WaxedPartners", "undo", "()I"⟩ ⟨"WaxedPartners", "undo", "()I"⟩ ∈ gT := gT_in (tb_5 _ (List.mem_of_getElem? (i := 117) (by decide +kernel))) rfl
theorem wd_9_29 : Cond.methodLink "WaxedPartnersLaw" 242 ⟨"WaxedPartnersModel", "undo", "()I"⟩ ∈ gT := gT_in (tb_9 _ (List.mem_of_getElem? (i := 29) (by decide +kernel))) rfl
theorem wd_9_30 : Cond.instanceMethod ⟨"WaxedPartnersModel", "undo", "()I"⟩ ∈ gT := gT_in (tb_9 _ (List.mem_of_getElem? (i := 30) (by decide +kernel))) rfl
theorem wd_9_31 : Cond.selects "WaxedPartnersModel" ⟨"WaxedPartnersModel", "undo", "()I"⟩ ⟨"WaxedPartnersModel", "undo", "()I"⟩ ∈ gT := gT_in (tb_9 _ (List.mem_of_getElem? (i := 31) (by decide +kernel))) rfl
theorem wd_5_119 : Cond.methodLink "WaxedPartnersLaw" 243 ⟨"WaxedPartners", "anew", "()I"⟩ ∈ gT := gT_in (tb_5 _ (List.mem_of_getElem? (i := 119) (by decide +kernel))) rfl
theorem wd_5_120 : Cond.instanceMethod ⟨"WaxedPartners", "anew", "()I"⟩ ∈ gT := gT_in (tb_5 _ (List.mem_of_getElem? (i := 120) (by decide +kernel))) rfl
theorem wd_5_121 : Cond.selects "WaxedPartners" ⟨"WaxedPartners", "anew", "()I"⟩ ⟨"WaxedPartners", "anew", "()I"⟩ ∈ gT := gT_in (tb_5 _ (List.mem_of_getElem? (i := 121) (by decide +kernel))) rfl
theorem wd_9_33 : Cond.methodLink "WaxedPartnersLaw" 246 ⟨"WaxedPartnersModel", "anew", "()I"⟩ ∈ gT := gT_in (tb_9 _ (List.mem_of_getElem? (i := 33) (by decide +kernel))) rfl
theorem wd_9_34 : Cond.instanceMethod ⟨"WaxedPartnersModel", "anew", "()I"⟩ ∈ gT := gT_in (tb_9 _ (List.mem_of_getElem? (i := 34) (by decide +kernel))) rfl
theorem wd_9_35 : Cond.selects "WaxedPartnersModel" ⟨"WaxedPartnersModel", "anew", "()I"⟩ ⟨"WaxedPartnersModel", "anew", "()I"⟩ ∈ gT := gT_in (tb_9 _ (List.mem_of_getElem? (i := 35) (by decide +kernel))) rfl
theorem wd_5_123 : Cond.methodLink "WaxedPartnersLaw" 247 ⟨"WaxedPartners", "drawn", "(II)I"⟩ ∈ gT := gT_in (tb_5 _ (List.mem_of_getElem? (i := 123) (by decide +kernel))) rfl
theorem wd_5_124 : Cond.instanceMethod ⟨"WaxedPartners", "drawn", "(II)I"⟩ ∈ gT := gT_in (tb_5 _ (List.mem_of_getElem? (i := 124) (by decide +kernel))) rfl
theorem wd_5_125 : Cond.selects "WaxedPartners" ⟨"WaxedPartners", "drawn", "(II)I"⟩ ⟨"WaxedPartners", "drawn", "(II)I"⟩ ∈ gT := gT_in (tb_5 _ (List.mem_of_getElem? (i := 125) (by decide +kernel))) rfl
theorem wd_8_234 : Cond.methodLink "WaxedPartnersLaw" 250 ⟨"WaxedPartnersModel", "drawn", "(II)I"⟩ ∈ gT := gT_in (tb_8 _ (List.mem_of_getElem? (i := 234) (by decide +kernel))) rfl
theorem wd_8_235 : Cond.instanceMethod ⟨"WaxedPartnersModel", "drawn", "(II)I"⟩ ∈ gT := gT_in (tb_8 _ (List.mem_of_getElem? (i := 235) (by decide +kernel))) rfl
theorem wd_8_236 : Cond.selects "WaxedPartnersModel" ⟨"WaxedPartnersModel", "drawn", "(II)I"⟩ ⟨"WaxedPartnersModel", "drawn", "(II)I"⟩ ∈ gT := gT_in (tb_8 _ (List.mem_of_getElem? (i := 236) (by decide +kernel))) rfl
theorem wd_5_144 : Cond.methodLink "WaxedPartnersLaw" 251 ⟨"WaxedPartners", "luck", "(III)I"⟩ ∈ gT := gT_in (tb_5 _ (List.mem_of_getElem? (i := 144) (by decide +kernel))) rfl
theorem wd_5_145 : Cond.instanceMethod ⟨"WaxedPartners", "luck", "(III)I"⟩ ∈ gT := gT_in (tb_5 _ (List.mem_of_getElem? (i := 145) (by decide +kernel))) rfl
theorem wd_5_146 : Cond.selects "WaxedPartners" ⟨"WaxedPartners", "luck", "(III)I"⟩ ⟨"WaxedPartners", "luck", "(III)I"⟩ ∈ gT := gT_in (tb_5 _ (List.mem_of_getElem? (i := 146) (by decide +kernel))) rfl
theorem wd_9_11 : Cond.methodLink "WaxedPartnersLaw" 254 ⟨"WaxedPartnersModel", "luck", "(III)I"⟩ ∈ gT := gT_in (tb_9 _ (List.mem_of_getElem? (i := 11) (by decide +kernel))) rfl
theorem wd_9_12 : Cond.instanceMethod ⟨"WaxedPartnersModel", "luck", "(III)I"⟩ ∈ gT := gT_in (tb_9 _ (List.mem_of_getElem? (i := 12) (by decide +kernel))) rfl
theorem wd_9_13 : Cond.selects "WaxedPartnersModel" ⟨"WaxedPartnersModel", "luck", "(III)I"⟩ ⟨"WaxedPartnersModel", "luck", "(III)I"⟩ ∈ gT := gT_in (tb_9 _ (List.mem_of_getElem? (i := 13) (by decide +kernel))) rfl
theorem wd_5_148 : Cond.methodLink "WaxedPartnersLaw" 255 ⟨"WaxedPartners", "rate", "(I)I"⟩ ∈ gT := gT_in (tb_5 _ (List.mem_of_getElem? (i := 148) (by decide +kernel))) rfl
theorem wd_5_149 : Cond.instanceMethod ⟨"WaxedPartners", "rate", "(I)I"⟩ ∈ gT := gT_in (tb_5 _ (List.mem_of_getElem? (i := 149) (by decide +kernel))) rfl
theorem wd_5_150 : Cond.selects "WaxedPartners" ⟨"WaxedPartners", "rate", "(I)I"⟩ ⟨"WaxedPartners", "rate", "(I)I"⟩ ∈ gT := gT_in (tb_5 _ (List.mem_of_getElem? (i := 150) (by decide +kernel))) rfl
theorem wd_9_37 : Cond.methodLink "WaxedPartnersLaw" 258 ⟨"WaxedPartnersModel", "rate", "(I)I"⟩ ∈ gT := gT_in (tb_9 _ (List.mem_of_getElem? (i := 37) (by decide +kernel))) rfl
theorem wd_9_38 : Cond.instanceMethod ⟨"WaxedPartnersModel", "rate", "(I)I"⟩ ∈ gT := gT_in (tb_9 _ (List.mem_of_getElem? (i := 38) (by decide +kernel))) rfl
theorem wd_9_39 : Cond.selects "WaxedPartnersModel" ⟨"WaxedPartnersModel", "rate", "(I)I"⟩ ⟨"WaxedPartnersModel", "rate", "(I)I"⟩ ∈ gT := gT_in (tb_9 _ (List.mem_of_getElem? (i := 39) (by decide +kernel))) rfl
theorem wd_5_152 : Cond.methodLink "WaxedPartnersLaw" 259 ⟨"WaxedPartners", "count", "(I)I"⟩ ∈ gT := gT_in (tb_5 _ (List.mem_of_getElem? (i := 152) (by decide +kernel))) rfl
theorem wd_5_153 : Cond.instanceMethod ⟨"WaxedPartners", "count", "(I)I"⟩ ∈ gT := gT_in (tb_5 _ (List.mem_of_getElem? (i := 153) (by decide +kernel))) rfl
theorem wd_5_154 : Cond.selects "WaxedPartners" ⟨"WaxedPartners", "count", "(I)I"⟩ ⟨"WaxedPartners", "count", "(I)I"⟩ ∈ gT := gT_in (tb_5 _ (List.mem_of_getElem? (i := 154) (by decide +kernel))) rfl
theorem wd_9_41 : Cond.methodLink "WaxedPartnersLaw" 262 ⟨"WaxedPartnersModel", "count", "(I)I"⟩ ∈ gT := gT_in (tb_9 _ (List.mem_of_getElem? (i := 41) (by decide +kernel))) rfl
theorem wd_9_42 : Cond.instanceMethod ⟨"WaxedPartnersModel", "count", "(I)I"⟩ ∈ gT := gT_in (tb_9 _ (List.mem_of_getElem? (i := 42) (by decide +kernel))) rfl
theorem wd_9_43 : Cond.selects "WaxedPartnersModel" ⟨"WaxedPartnersModel", "count", "(I)I"⟩ ⟨"WaxedPartnersModel", "count", "(I)I"⟩ ∈ gT := gT_in (tb_9 _ (List.mem_of_getElem? (i := 43) (by decide +kernel))) rfl
theorem wd_5_160 : Cond.methodLink "WaxedPartnersLaw" 263 ⟨"WaxedPartners", "image", "(I)I"⟩ ∈ gT := gT_in (tb_5 _ (List.mem_of_getElem? (i := 160) (by decide +kernel))) rfl
theorem wd_5_161 : Cond.instanceMethod ⟨"WaxedPartners", "image", "(I)I"⟩ ∈ gT := gT_in (tb_5 _ (List.mem_of_getElem? (i := 161) (by decide +kernel))) rfl
theorem wd_5_162 : Cond.selects "WaxedPartners" ⟨"WaxedPartners", "image", "(I)I"⟩ ⟨"WaxedPartners", "image", "(I)I"⟩ ∈ gT := gT_in (tb_5 _ (List.mem_of_getElem? (i := 162) (by decide +kernel))) rfl
theorem wd_9_46 : Cond.methodLink "WaxedPartnersLaw" 266 ⟨"WaxedPartnersModel", "image", "(I)I"⟩ ∈ gT := gT_in (tb_9 _ (List.mem_of_getElem? (i := 46) (by decide +kernel))) rfl
theorem wd_9_47 : Cond.instanceMethod ⟨"WaxedPartnersModel", "image", "(I)I"⟩ ∈ gT := gT_in (tb_9 _ (List.mem_of_getElem? (i := 47) (by decide +kernel))) rfl
theorem wd_9_48 : Cond.selects "WaxedPartnersModel" ⟨"WaxedPartnersModel", "image", "(I)I"⟩ ⟨"WaxedPartnersModel", "image", "(I)I"⟩ ∈ gT := gT_in (tb_9 _ (List.mem_of_getElem? (i := 48) (by decide +kernel))) rfl
theorem wd_5_180 : Cond.methodLink "WaxedPartnersLaw" 267 ⟨"WaxedPartners", "back", "(I)I"⟩ ∈ gT := gT_in (tb_5 _ (List.mem_of_getElem? (i := 180) (by decide +kernel))) rfl
theorem wd_5_181 : Cond.instanceMethod ⟨"WaxedPartners", "back", "(I)I"⟩ ∈ gT := gT_in (tb_5 _ (List.mem_of_getElem? (i := 181) (by decide +kernel))) rfl
theorem wd_5_182 : Cond.selects "WaxedPartners" ⟨"WaxedPartners", "back", "(I)I"⟩ ⟨"WaxedPartners", "back", "(I)I"⟩ ∈ gT := gT_in (tb_5 _ (List.mem_of_getElem? (i := 182) (by decide +kernel))) rfl
theorem wd_9_50 : Cond.methodLink "WaxedPartnersLaw" 270 ⟨"WaxedPartnersModel", "back", "(I)I"⟩ ∈ gT := gT_in (tb_9 _ (List.mem_of_getElem? (i := 50) (by decide +kernel))) rfl
theorem wd_9_51 : Cond.instanceMethod ⟨"WaxedPartnersModel", "back", "(I)I"⟩ ∈ gT := gT_in (tb_9 _ (List.mem_of_getElem? (i := 51) (by decide +kernel))) rfl
theorem wd_9_52 : Cond.selects "WaxedPartnersModel" ⟨"WaxedPartnersModel", "back", "(I)I"⟩ ⟨"WaxedPartnersModel", "back", "(I)I"⟩ ∈ gT := gT_in (tb_9 _ (List.mem_of_getElem? (i := 52) (by decide +kernel))) rfl
theorem wd_5_184 : Cond.methodLink "WaxedPartnersLaw" 271 ⟨"WaxedPartners", "row", "(III)I"⟩ ∈ gT := gT_in (tb_5 _ (List.mem_of_getElem? (i := 184) (by decide +kernel))) rfl
theorem wd_5_185 : Cond.instanceMethod ⟨"WaxedPartners", "row", "(III)I"⟩ ∈ gT := gT_in (tb_5 _ (List.mem_of_getElem? (i := 185) (by decide +kernel))) rfl
theorem wd_5_186 : Cond.selects "WaxedPartners" ⟨"WaxedPartners", "row", "(III)I"⟩ ⟨"WaxedPartners", "row", "(III)I"⟩ ∈ gT := gT_in (tb_5 _ (List.mem_of_getElem? (i := 186) (by decide +kernel))) rfl
theorem wd_6_126 : Cond.methodLink "WaxedPartnersLaw" 274 ⟨"WaxedPartnersModel", "row", "(III)I"⟩ ∈ gT := gT_in (tb_6 _ (List.mem_of_getElem? (i := 126) (by decide +kernel))) rfl
theorem wd_6_127 : Cond.instanceMethod ⟨"WaxedPartnersModel", "row", "(III)I"⟩ ∈ gT := gT_in (tb_6 _ (List.mem_of_getElem? (i := 127) (by decide +kernel))) rfl
theorem wd_6_128 : Cond.selects "WaxedPartnersModel" ⟨"WaxedPartnersModel", "row", "(III)I"⟩ ⟨"WaxedPartnersModel", "row", "(III)I"⟩ ∈ gT := gT_in (tb_6 _ (List.mem_of_getElem? (i := 128) (by decide +kernel))) rfl
theorem wd_9_54 : Cond.constantLong "WaxedPartnersLaw" 275 (4294967295 : Int64) ∈ gT := gT_in (tb_9 _ (List.mem_of_getElem? (i := 54) (by decide +kernel))) rfl
theorem wd_5_194 : Cond.methodLink "WaxedPartnersLaw" 277 ⟨"WaxedPartners", "write", "(IIJ)I"⟩ ∈ gT := gT_in (tb_5 _ (List.mem_of_getElem? (i := 194) (by decide +kernel))) rfl
theorem wd_5_195 : Cond.instanceMethod ⟨"WaxedPartners", "write", "(IIJ)I"⟩ ∈ gT := gT_in (tb_5 _ (List.mem_of_getElem? (i := 195) (by decide +kernel))) rfl
theorem wd_5_196 : Cond.selects "WaxedPartners" ⟨"WaxedPartners", "write", "(IIJ)I"⟩ ⟨"WaxedPartners", "write", "(IIJ)I"⟩ ∈ gT := gT_in (tb_5 _ (List.mem_of_getElem? (i := 196) (by decide +kernel))) rfl
theorem wd_6_137 : Cond.methodLink "WaxedPartnersLaw" 281 ⟨"WaxedPartnersModel", "write", "(IIJ)I"⟩ ∈ gT := gT_in (tb_6 _ (List.mem_of_getElem? (i := 137) (by decide +kernel))) rfl
theorem wd_6_138 : Cond.instanceMethod ⟨"WaxedPartnersModel", "write", "(IIJ)I"⟩ ∈ gT := gT_in (tb_6 _ (List.mem_of_getElem? (i := 138) (by decide +kernel))) rfl
theorem wd_6_139 : Cond.selects "WaxedPartnersModel" ⟨"WaxedPartnersModel", "write", "(IIJ)I"⟩ ⟨"WaxedPartnersModel", "write", "(IIJ)I"⟩ ∈ gT := gT_in (tb_6 _ (List.mem_of_getElem? (i := 139) (by decide +kernel))) rfl
theorem wd_5_202 : Cond.methodLink "WaxedPartnersLaw" 282 ⟨"WaxedPartners", "paste", "(IIIII)I"⟩ ∈ gT := gT_in (tb_5 _ (List.mem_of_getElem? (i := 202) (by decide +kernel))) rfl
theorem wd_5_203 : Cond.instanceMethod ⟨"WaxedPartners", "paste", "(IIIII)I"⟩ ∈ gT := gT_in (tb_5 _ (List.mem_of_getElem? (i := 203) (by decide +kernel))) rfl
theorem wd_5_204 : Cond.selects "WaxedPartners" ⟨"WaxedPartners", "paste", "(IIIII)I"⟩ ⟨"WaxedPartners", "paste", "(IIIII)I"⟩ ∈ gT := gT_in (tb_5 _ (List.mem_of_getElem? (i := 204) (by decide +kernel))) rfl
theorem wd_6_144 : Cond.methodLink "WaxedPartnersLaw" 285 ⟨"WaxedPartnersModel", "paste", "(IIIII)I"⟩ ∈ gT := gT_in (tb_6 _ (List.mem_of_getElem? (i := 144) (by decide +kernel))) rfl
theorem wd_6_145 : Cond.instanceMethod ⟨"WaxedPartnersModel", "paste", "(IIIII)I"⟩ ∈ gT := gT_in (tb_6 _ (List.mem_of_getElem? (i := 145) (by decide +kernel))) rfl
theorem wd_6_146 : Cond.selects "WaxedPartnersModel" ⟨"WaxedPartnersModel", "paste", "(IIIII)I"⟩ ⟨"WaxedPartnersModel", "paste", "(IIIII)I"⟩ ∈ gT := gT_in (tb_6 _ (List.mem_of_getElem? (i := 146) (by decide +kernel))) rfl
def tLH : List (Nat × gStp) := [(18, i_iload 3 19), (19, i_aload 0 20), (21, i_push (.int 6) 23), (23, i_ii (fun x y => x - y) 24), (24, i_ic_gt 2306 27), (27, i_aload 0 28), (28, i_iload 3 29), (30, i_push (.int 127) 32), (32, i_ii (fun x y => x &&& y) 33), (33, i_sw vTs 2300), (2300, i_iinc 3 6 2303), (2303, i_goto 18), (2306, i_push (.int 1) 2307)]
set_option maxRecDepth 100000 in
theorem okLH : gOk YL tLH := ok_c (sn_iload_n (show decode code 18 = .ok (.iload_n 3, 1) by decide +kernel) rfl) <|
  ok_c (sn_aload_n (show decode code 19 = .ok (.aload_n 0, 1) by decide +kernel) rfl) <|
  ok_c (sn_bipush (v := 6) (show decode code 21 = .ok (.bipush 6, 2) by decide +kernel) (by decide +kernel)) <|
  ok_c (sn_isub (show decode code 23 = .ok (.isub, 1) by decide +kernel)) <|
  ok_c (sn_ic_gt (show decode code 24 = .ok (.if_icmp .gt 2282, 3) by decide +kernel) (by decide)) <|
  ok_c (sn_aload_n (show decode code 27 = .ok (.aload_n 0, 1) by decide +kernel) rfl) <|
  ok_c (sn_iload_n (show decode code 28 = .ok (.iload_n 3, 1) by decide +kernel) rfl) <|
  ok_c (sn_bipush (v := 127) (show decode code 30 = .ok (.bipush 127, 2) by decide +kernel) (by decide +kernel)) <|
  ok_c (sn_iand (show decode code 32 = .ok (.iand, 1) by decide +kernel)) <|
  ok_c (sn_tsw (show decode code 33 = .ok (.tableswitch 2267 0 65 #[279, 342, 365, 378, 401, 434, 467, 490, 513, 556, 589, 612, 645, 678, 701, 744, 767, 790, 823, 856, 879, 902, 925, 948, 961, 994, 1017, 1040, 1063, 1086, 1109, 1132, 1175, 1208, 1241, 1274, 1307, 1340, 1363, 1386, 1399, 1422, 1445, 1468, 1491, 1514, 1537, 1570, 1603, 1656, 1689, 1732, 1775, 1798, 1851, 1894, 1907, 1920, 1953, 1996, 2019, 2042, 2065, 2088, 2131, 2204], 279) by decide +kernel) (by decide +kernel) (by decide)) <|
  ok_c (sn_iinc (show decode code 2300 = .ok (.iinc 3 6, 3) by decide +kernel) (by decide) (by decide +kernel)) <|
  ok_c (sn_goto (show decode code 2303 = .ok (.goto (-2285), 3) by decide +kernel) (by decide)) <|
  ok_c (sn_iconst (v := 1) (show decode code 2306 = .ok (.iconst 1, 1) by decide +kernel) (by decide +kernel)) <|
  ok_n
