/-! exact functions of methods, and that the machine goes as they say: by program -/
def fX0_add_63 (s0 : Nat) (s1 : Nat) (M : gMem) : Option (gMem) :=
  some (gSI M s1 4 ((M.1 s0 4) + (1 : Int32)))
set_option maxRecDepth 100000 in
theorem CX0_add_63 {G : gG} {d : Nat} {Z : Option Value → gMem → Prop} (hd : 0 ≤ d) (s0 : Nat) (s1 : Nat) (M : gMem) (o_s0 : gOb 0 s0 = true) (o_s1 : gOb 0 s1 = true) (P : gMem → Prop) (k0 : ∀ (N : gMem), P N → Z none N) (h : gOKq (fX0_add_63 s0 s1 M) P) : gGo G YX0_add d Z 63 [none, none, none, none, none] [.ref s0, .ref s1] M := by
  unfold fX0_add_63 at h
  refine go_ck okX0_add rfl o_s0 ?_
  refine go_rn 2 (pc' := 68) (L' := [none, none, none, none, none]) (S' := [.int ((M.1 s0 4) + (1 : Int32)), .ref s1]) (M' := M) okX0_add rfl ?_
  refine go_ck okX0_add rfl o_s1 ?_
  exact go_vret (reX0_add _ (by decide)) rfl (k0 (gSI M s1 4 ((M.1 s0 4) + (1 : Int32))) h)
def fX0_add_55 (x0 : Nat) (x4 : Int32) (s0 : Nat) (s1 : Nat) (M : gMem) : Option (gMem) :=
  if gIx 1 s1 (M.1 s0 4) = true then fX0_add_63 x0 x0 (gSI M s1 (Int32.toNatClampNeg (M.1 s0 4)) x4) else none
set_option maxRecDepth 100000 in
theorem CX0_add_55 {G : gG} {d : Nat} {Z : Option Value → gMem → Prop} (hd : 0 ≤ d) (x0 : Nat) (x4 : Int32) (s0 : Nat) (s1 : Nat) (M : gMem) (o_x0 : gOb 0 x0 = true) (o_s0 : gOb 0 s0 = true) (P : gMem → Prop) (k0 : ∀ (N : gMem), P N → Z none N) (h : gOKq (fX0_add_55 x0 x4 s0 s1 M) P) : gGo G YX0_add d Z 55 [some (.ref x0), none, none, none, some (.int x4)] [.ref s0, .ref s1] M := by
  unfold fX0_add_55 at h
  refine go_ck okX0_add rfl o_s0 ?_
  refine go_rn 1 (pc' := 60) (L' := [some (.ref x0), none, none, none, some (.int x4)]) (S' := [.int x4, .int (M.1 s0 4), .ref s1]) (M' := M) okX0_add rfl ?_
  obtain ⟨c1, h⟩ := gq_if h
  refine go_ck okX0_add rfl c1 ?_
  refine go_rn 2 (pc' := 63) (L' := [some (.ref x0), none, none, none, some (.int x4)]) (S' := [.ref x0, .ref x0]) (M' := (gSI M s1 (Int32.toNatClampNeg (M.1 s0 4)) x4)) okX0_add rfl ?_
  exact go_wk (CX0_add_63 hd x0 x0 (gSI M s1 (Int32.toNatClampNeg (M.1 s0 4)) x4) o_x0 o_x0 P k0 h) True.intro
def fX0_add_45 (x0 : Nat) (x3 : Int32) (x4 : Int32) (s0 : Nat) (s1 : Nat) (M : gMem) : Option (gMem) :=
  if gIx 1 s1 (M.1 s0 4) = true then fX0_add_55 x0 x4 x0 (x0 + 4) (gSI M s1 (Int32.toNatClampNeg (M.1 s0 4)) x3) else none
set_option maxRecDepth 100000 in
theorem CX0_add_45 {G : gG} {d : Nat} {Z : Option Value → gMem → Prop} (hd : 0 ≤ d) (x0 : Nat) (x3 : Int32) (x4 : Int32) (s0 : Nat) (s1 : Nat) (M : gMem) (o_x0 : gOb 0 x0 = true) (o_s0 : gOb 0 s0 = true) (P : gMem → Prop) (k0 : ∀ (N : gMem), P N → Z none N) (h : gOKq (fX0_add_45 x0 x3 x4 s0 s1 M) P) : gGo G YX0_add d Z 45 [some (.ref x0), none, none, some (.int x3), some (.int x4)] [.ref s0, .ref s1] M := by
  unfold fX0_add_45 at h
  refine go_ck okX0_add rfl o_s0 ?_
  refine go_rn 1 (pc' := 49) (L' := [some (.ref x0), none, none, some (.int x3), some (.int x4)]) (S' := [.int x3, .int (M.1 s0 4), .ref s1]) (M' := M) okX0_add rfl ?_
  obtain ⟨c1, h⟩ := gq_if h
  refine go_ck okX0_add rfl c1 ?_
  refine go_rn 1 (pc' := 51) (L' := [some (.ref x0), none, none, some (.int x3), some (.int x4)]) (S' := [.ref x0]) (M' := (gSI M s1 (Int32.toNatClampNeg (M.1 s0 4)) x3)) okX0_add rfl ?_
  refine go_ck okX0_add rfl o_x0 ?_
  refine go_rn 1 (pc' := 55) (L' := [some (.ref x0), none, none, some (.int x3), some (.int x4)]) (S' := [.ref x0, .ref (x0 + 4)]) (M' := (gSI M s1 (Int32.toNatClampNeg (M.1 s0 4)) x3)) okX0_add rfl ?_
  exact go_wk (CX0_add_55 hd x0 x4 x0 (x0 + 4) (gSI M s1 (Int32.toNatClampNeg (M.1 s0 4)) x3) o_x0 o_x0 P k0 h) ⟨rfl, rfl, True.intro⟩
def fX0_add_35 (x0 : Nat) (x2 : Int32) (x3 : Int32) (x4 : Int32) (s0 : Nat) (s1 : Nat) (M : gMem) : Option (gMem) :=
  if gIx 1 s1 (M.1 s0 4) = true then fX0_add_45 x0 x3 x4 x0 (x0 + 3) (gSI M s1 (Int32.toNatClampNeg (M.1 s0 4)) x2) else none
set_option maxRecDepth 100000 in
theorem CX0_add_35 {G : gG} {d : Nat} {Z : Option Value → gMem → Prop} (hd : 0 ≤ d) (x0 : Nat) (x2 : Int32) (x3 : Int32) (x4 : Int32) (s0 : Nat) (s1 : Nat) (M : gMem) (o_x0 : gOb 0 x0 = true) (o_s0 : gOb 0 s0 = true) (P : gMem → Prop) (k0 : ∀ (N : gMem), P N → Z none N) (h : gOKq (fX0_add_35 x0 x2 x3 x4 s0 s1 M) P) : gGo G YX0_add d Z 35 [some (.ref x0), none, some (.int x2), some (.int x3), some (.int x4)] [.ref s0, .ref s1] M := by
  unfold fX0_add_35 at h
  refine go_ck okX0_add rfl o_s0 ?_
  refine go_rn 1 (pc' := 39) (L' := [some (.ref x0), none, some (.int x2), some (.int x3), some (.int x4)]) (S' := [.int x2, .int (M.1 s0 4), .ref s1]) (M' := M) okX0_add rfl ?_
  obtain ⟨c1, h⟩ := gq_if h
  refine go_ck okX0_add rfl c1 ?_
  refine go_rn 1 (pc' := 41) (L' := [some (.ref x0), none, some (.int x2), some (.int x3), some (.int x4)]) (S' := [.ref x0]) (M' := (gSI M s1 (Int32.toNatClampNeg (M.1 s0 4)) x2)) okX0_add rfl ?_
  refine go_ck okX0_add rfl o_x0 ?_
  refine go_rn 1 (pc' := 45) (L' := [some (.ref x0), none, some (.int x2), some (.int x3), some (.int x4)]) (S' := [.ref x0, .ref (x0 + 3)]) (M' := (gSI M s1 (Int32.toNatClampNeg (M.1 s0 4)) x2)) okX0_add rfl ?_
  exact go_wk (CX0_add_45 hd x0 x3 x4 x0 (x0 + 3) (gSI M s1 (Int32.toNatClampNeg (M.1 s0 4)) x2) o_x0 o_x0 P k0 h) ⟨rfl, rfl, rfl, True.intro⟩
def fX0_add_0 (x0 : Nat) (x1 : Int32) (x2 : Int32) (x3 : Int32) (x4 : Int32) (M : gMem) : Option (gMem) :=
  if (M.1 x0 4) < 0 then some M else if gAl (x0 + 4) = true then if (M.1 x0 4) < (nI (gSh (x0 + 4)).2) then if gIx 1 (x0 + 1) (M.1 x0 4) = true then fX0_add_35 x0 x2 x3 x4 x0 (x0 + 2) (gSI M (x0 + 1) (Int32.toNatClampNeg (M.1 x0 4)) x1) else none else some M else none
set_option maxRecDepth 100000 in
theorem CX0_add_0 {G : gG} {d : Nat} {Z : Option Value → gMem → Prop} (hd : 0 ≤ d) (x0 : Nat) (x1 : Int32) (x2 : Int32) (x3 : Int32) (x4 : Int32) (M : gMem) (o_x0 : gOb 0 x0 = true) (P : gMem → Prop) (k0 : ∀ (N : gMem), P N → Z none N) (h : gOKq (fX0_add_0 x0 x1 x2 x3 x4 M) P) : gGo G YX0_add d Z 0 [some (.ref x0), some (.int x1), some (.int x2), some (.int x3), some (.int x4)] [] M := by
  unfold fX0_add_0 at h
  refine go_rn 1 (pc' := 1) (L' := [some (.ref x0), some (.int x1), some (.int x2), some (.int x3), some (.int x4)]) (S' := [.ref x0]) (M' := M) okX0_add rfl ?_
  refine go_ck okX0_add rfl o_x0 ?_
  refine go_br okX0_add rfl (fun hp => ?_) (fun hp => ?_)
  · have h := gq_pos hp h
    exact go_vret (reX0_add _ (by decide)) rfl (k0 M h)
  · have h := gq_neg hp h
    refine go_rn 1 (pc' := 8) (L' := [some (.ref x0), some (.int x1), some (.int x2), some (.int x3), some (.int x4)]) (S' := [.ref x0]) (M' := M) okX0_add rfl ?_
    refine go_ck okX0_add rfl o_x0 ?_
    refine go_rn 1 (pc' := 12) (L' := [some (.ref x0), some (.int x1), some (.int x2), some (.int x3), some (.int x4)]) (S' := [.ref x0, .int (M.1 x0 4)]) (M' := M) okX0_add rfl ?_
    refine go_ck okX0_add rfl o_x0 ?_
    obtain ⟨c1, h⟩ := gq_if h
    refine go_ck okX0_add rfl c1 ?_
    refine go_br okX0_add rfl (fun hp => ?_) (fun hp => ?_)
    · have h := gq_pos hp h
      refine go_rn 1 (pc' := 21) (L' := [some (.ref x0), some (.int x1), some (.int x2), some (.int x3), some (.int x4)]) (S' := [.ref x0]) (M' := M) okX0_add rfl ?_
      refine go_ck okX0_add rfl o_x0 ?_
      refine go_rn 1 (pc' := 25) (L' := [some (.ref x0), some (.int x1), some (.int x2), some (.int x3), some (.int x4)]) (S' := [.ref x0, .ref (x0 + 1)]) (M' := M) okX0_add rfl ?_
      refine go_ck okX0_add rfl o_x0 ?_
      refine go_rn 1 (pc' := 29) (L' := [some (.ref x0), some (.int x1), some (.int x2), some (.int x3), some (.int x4)]) (S' := [.int x1, .int (M.1 x0 4), .ref (x0 + 1)]) (M' := M) okX0_add rfl ?_
      obtain ⟨c2, h⟩ := gq_if h
      refine go_ck okX0_add rfl c2 ?_
      refine go_rn 1 (pc' := 31) (L' := [some (.ref x0), some (.int x1), some (.int x2), some (.int x3), some (.int x4)]) (S' := [.ref x0]) (M' := (gSI M (x0 + 1) (Int32.toNatClampNeg (M.1 x0 4)) x1)) okX0_add rfl ?_
      refine go_ck okX0_add rfl o_x0 ?_
      refine go_rn 1 (pc' := 35) (L' := [some (.ref x0), some (.int x1), some (.int x2), some (.int x3), some (.int x4)]) (S' := [.ref x0, .ref (x0 + 2)]) (M' := (gSI M (x0 + 1) (Int32.toNatClampNeg (M.1 x0 4)) x1)) okX0_add rfl ?_
      exact go_wk (CX0_add_35 hd x0 x2 x3 x4 x0 (x0 + 2) (gSI M (x0 + 1) (Int32.toNatClampNeg (M.1 x0 4)) x1) o_x0 o_x0 P k0 h) ⟨rfl, rfl, rfl, rfl, True.intro⟩
    · have h := gq_neg hp h
      exact go_vret (reX0_add _ (by decide)) rfl (k0 M h)
def fX0_add (a0 : Nat) (a1 : Int32) (a2 : Int32) (a3 : Int32) (a4 : Int32) (M : gMem) : Option (gMem) := fX0_add_0 a0 a1 a2 a3 a4 M
theorem SX0_add {G : gG} (a0 : Nat) (a1 : Int32) (a2 : Int32) (a3 : Int32) (a4 : Int32) (M : gMem) (o_a0 : gOb 0 a0 = true) {N : gMem} (h : fX0_add a0 a1 a2 a3 a4 M = some N) : gRun G YX0_add 0 [.ref a0, .int a1, .int a2, .int a3, .int a4] M (fun r' N' => r' = none ∧ N' = N) := gRun_in (by decide +kernel) rfl (fun d hd => go_wk (CX0_add_0 hd a0 a1 a2 a3 a4 M o_a0 (fun p => p = N) (fun N hh => ⟨rfl, hh⟩) (gq_of h)) ⟨rfl, rfl, rfl, rfl, rfl, True.intro⟩)
def fX0_takeBack_0 (x0 : Nat) (M : gMem) : Option (gMem) :=
  some (gSI M x0 4 (gMx (0 : Int32) ((M.1 x0 4) - (1 : Int32))))
set_option maxRecDepth 100000 in
theorem CX0_takeBack_0 {G : gG} {d : Nat} {Z : Option Value → gMem → Prop} (hd : 0 ≤ d) (x0 : Nat) (M : gMem) (o_x0 : gOb 0 x0 = true) (P : gMem → Prop) (k0 : ∀ (N : gMem), P N → Z none N) (h : gOKq (fX0_takeBack_0 x0 M) P) : gGo G YX0_takeBack d Z 0 [some (.ref x0)] [] M := by
  unfold fX0_takeBack_0 at h
  refine go_rn 3 (pc' := 3) (L' := [some (.ref x0)]) (S' := [.ref x0, .int (0 : Int32), .ref x0]) (M' := M) okX0_takeBack rfl ?_
  refine go_ck okX0_takeBack rfl o_x0 ?_
  refine go_rn 3 (pc' := 11) (L' := [some (.ref x0)]) (S' := [.int (gMx (0 : Int32) ((M.1 x0 4) - (1 : Int32))), .ref x0]) (M' := M) okX0_takeBack rfl ?_
  refine go_ck okX0_takeBack rfl o_x0 ?_
  exact go_vret (reX0_takeBack _ (by decide)) rfl (k0 (gSI M x0 4 (gMx (0 : Int32) ((M.1 x0 4) - (1 : Int32)))) h)
def fX0_takeBack (a0 : Nat) (M : gMem) : Option (gMem) := fX0_takeBack_0 a0 M
theorem SX0_takeBack {G : gG} (a0 : Nat) (M : gMem) (o_a0 : gOb 0 a0 = true) {N : gMem} (h : fX0_takeBack a0 M = some N) : gRun G YX0_takeBack 0 [.ref a0] M (fun r' N' => r' = none ∧ N' = N) := gRun_in (by decide +kernel) rfl (fun d hd => go_wk (CX0_takeBack_0 hd a0 M o_a0 (fun p => p = N) (fun N hh => ⟨rfl, hh⟩) (gq_of h)) ⟨rfl, True.intro⟩)
def fX0_isOf_20 (x0 : Nat) (x1 : Int32) (x2 : Int32) (x3 : Int32) (M : gMem) : Option (Int32) :=
  if gIx 1 (x0 + 1) x1 = true then if (M.1 (x0 + 1) (Int32.toNatClampNeg x1)) = x3 then if gIx 1 (x0 + 2) x1 = true then if (M.1 (x0 + 2) (Int32.toNatClampNeg x1)) = x2 then some (1 : Int32) else some (0 : Int32) else none else some (0 : Int32) else none
set_option maxRecDepth 100000 in
theorem CX0_isOf_20 {G : gG} {d : Nat} {Z : Option Value → gMem → Prop} (hd : 0 ≤ d) (x0 : Nat) (x1 : Int32) (x2 : Int32) (x3 : Int32) (M : gMem) (o_x0 : gOb 0 x0 = true) (P : Int32 → Prop) (k0 : ∀ (r : Int32), P r → Z (some (.int r)) M) (h : gOKq (fX0_isOf_20 x0 x1 x2 x3 M) P) : gGo G YX0_isOf d Z 20 [some (.ref x0), some (.int x1), some (.int x2), some (.int x3)] [] M := by
  unfold fX0_isOf_20 at h
  refine go_rn 1 (pc' := 21) (L' := [some (.ref x0), some (.int x1), some (.int x2), some (.int x3)]) (S' := [.ref x0]) (M' := M) okX0_isOf rfl ?_
  refine go_ck okX0_isOf rfl o_x0 ?_
  refine go_rn 1 (pc' := 25) (L' := [some (.ref x0), some (.int x1), some (.int x2), some (.int x3)]) (S' := [.int x1, .ref (x0 + 1)]) (M' := M) okX0_isOf rfl ?_
  obtain ⟨c1, h⟩ := gq_if h
  refine go_ck okX0_isOf rfl c1 ?_
  refine go_rn 1 (pc' := 27) (L' := [some (.ref x0), some (.int x1), some (.int x2), some (.int x3)]) (S' := [.int x3, .int (M.1 (x0 + 1) (Int32.toNatClampNeg x1))]) (M' := M) okX0_isOf rfl ?_
  refine go_br okX0_isOf rfl (fun hp => ?_) (fun hp => ?_)
  · have h := gq_pos hp h
    refine go_rn 1 (pc' := 31) (L' := [some (.ref x0), some (.int x1), some (.int x2), some (.int x3)]) (S' := [.ref x0]) (M' := M) okX0_isOf rfl ?_
    refine go_ck okX0_isOf rfl o_x0 ?_
    refine go_rn 1 (pc' := 35) (L' := [some (.ref x0), some (.int x1), some (.int x2), some (.int x3)]) (S' := [.int x1, .ref (x0 + 2)]) (M' := M) okX0_isOf rfl ?_
    obtain ⟨c2, h⟩ := gq_if h
    refine go_ck okX0_isOf rfl c2 ?_
    refine go_rn 1 (pc' := 37) (L' := [some (.ref x0), some (.int x1), some (.int x2), some (.int x3)]) (S' := [.int x2, .int (M.1 (x0 + 2) (Int32.toNatClampNeg x1))]) (M' := M) okX0_isOf rfl ?_
    refine go_br okX0_isOf rfl (fun hp => ?_) (fun hp => ?_)
    · have h := gq_pos hp h
      refine go_rn 2 (pc' := 45) (L' := [some (.ref x0), some (.int x1), some (.int x2), some (.int x3)]) (S' := [.int (1 : Int32)]) (M' := M) okX0_isOf rfl ?_
      exact go_zret (reX0_isOf _ (by decide)) rfl (Or.inr rfl) (k0 (1 : Int32) h)
    · have h := gq_neg hp h
      refine go_rn 1 (pc' := 45) (L' := [some (.ref x0), some (.int x1), some (.int x2), some (.int x3)]) (S' := [.int (0 : Int32)]) (M' := M) okX0_isOf rfl ?_
      exact go_zret (reX0_isOf _ (by decide)) rfl (Or.inl rfl) (k0 (0 : Int32) h)
  · have h := gq_neg hp h
    refine go_rn 1 (pc' := 45) (L' := [some (.ref x0), some (.int x1), some (.int x2), some (.int x3)]) (S' := [.int (0 : Int32)]) (M' := M) okX0_isOf rfl ?_
    exact go_zret (reX0_isOf _ (by decide)) rfl (Or.inl rfl) (k0 (0 : Int32) h)
def fX0_isOf_0 (x0 : Nat) (x1 : Int32) (x2 : Int32) (x3 : Int32) (M : gMem) : Option (Int32) :=
  if gIx 1 (x0 + 1) x1 = true then if (M.1 (x0 + 1) (Int32.toNatClampNeg x1)) = x2 then if gIx 1 (x0 + 2) x1 = true then if (M.1 (x0 + 2) (Int32.toNatClampNeg x1)) = x3 then some (1 : Int32) else fX0_isOf_20 x0 x1 x2 x3 M else none else fX0_isOf_20 x0 x1 x2 x3 M else none
set_option maxRecDepth 100000 in
theorem CX0_isOf_0 {G : gG} {d : Nat} {Z : Option Value → gMem → Prop} (hd : 0 ≤ d) (x0 : Nat) (x1 : Int32) (x2 : Int32) (x3 : Int32) (M : gMem) (o_x0 : gOb 0 x0 = true) (P : Int32 → Prop) (k0 : ∀ (r : Int32), P r → Z (some (.int r)) M) (h : gOKq (fX0_isOf_0 x0 x1 x2 x3 M) P) : gGo G YX0_isOf d Z 0 [some (.ref x0), some (.int x1), some (.int x2), some (.int x3)] [] M := by
  unfold fX0_isOf_0 at h
  refine go_rn 1 (pc' := 1) (L' := [some (.ref x0), some (.int x1), some (.int x2), some (.int x3)]) (S' := [.ref x0]) (M' := M) okX0_isOf rfl ?_
  refine go_ck okX0_isOf rfl o_x0 ?_
  refine go_rn 1 (pc' := 5) (L' := [some (.ref x0), some (.int x1), some (.int x2), some (.int x3)]) (S' := [.int x1, .ref (x0 + 1)]) (M' := M) okX0_isOf rfl ?_
  obtain ⟨c1, h⟩ := gq_if h
  refine go_ck okX0_isOf rfl c1 ?_
  refine go_rn 1 (pc' := 7) (L' := [some (.ref x0), some (.int x1), some (.int x2), some (.int x3)]) (S' := [.int x2, .int (M.1 (x0 + 1) (Int32.toNatClampNeg x1))]) (M' := M) okX0_isOf rfl ?_
  refine go_br okX0_isOf rfl (fun hp => ?_) (fun hp => ?_)
  · have h := gq_pos hp h
    refine go_rn 1 (pc' := 11) (L' := [some (.ref x0), some (.int x1), some (.int x2), some (.int x3)]) (S' := [.ref x0]) (M' := M) okX0_isOf rfl ?_
    refine go_ck okX0_isOf rfl o_x0 ?_
    refine go_rn 1 (pc' := 15) (L' := [some (.ref x0), some (.int x1), some (.int x2), some (.int x3)]) (S' := [.int x1, .ref (x0 + 2)]) (M' := M) okX0_isOf rfl ?_
    obtain ⟨c2, h⟩ := gq_if h
    refine go_ck okX0_isOf rfl c2 ?_
    refine go_rn 1 (pc' := 17) (L' := [some (.ref x0), some (.int x1), some (.int x2), some (.int x3)]) (S' := [.int x3, .int (M.1 (x0 + 2) (Int32.toNatClampNeg x1))]) (M' := M) okX0_isOf rfl ?_
    refine go_br okX0_isOf rfl (fun hp => ?_) (fun hp => ?_)
    · have h := gq_pos hp h
      refine go_rn 2 (pc' := 45) (L' := [some (.ref x0), some (.int x1), some (.int x2), some (.int x3)]) (S' := [.int (1 : Int32)]) (M' := M) okX0_isOf rfl ?_
      exact go_zret (reX0_isOf _ (by decide)) rfl (Or.inr rfl) (k0 (1 : Int32) h)
    · have h := gq_neg hp h
      exact go_wk (CX0_isOf_20 hd x0 x1 x2 x3 M o_x0 P k0 h) ⟨rfl, rfl, rfl, rfl, True.intro⟩
  · have h := gq_neg hp h
    exact go_wk (CX0_isOf_20 hd x0 x1 x2 x3 M o_x0 P k0 h) ⟨rfl, rfl, rfl, rfl, True.intro⟩
def fX0_isOf (a0 : Nat) (a1 : Int32) (a2 : Int32) (a3 : Int32) (M : gMem) : Option (Int32) := fX0_isOf_0 a0 a1 a2 a3 M
theorem SX0_isOf {G : gG} (a0 : Nat) (a1 : Int32) (a2 : Int32) (a3 : Int32) (M : gMem) (o_a0 : gOb 0 a0 = true) {r : Int32} (h : fX0_isOf a0 a1 a2 a3 M = some r) : gRun G YX0_isOf 0 [.ref a0, .int a1, .int a2, .int a3] M (fun r' N' => r' = some (.int r) ∧ N' = M) := gRun_in (by decide +kernel) rfl (fun d hd => go_wk (CX0_isOf_0 hd a0 a1 a2 a3 M o_a0 (fun p => p = r) (fun r hh => ⟨congrArg (fun z => some (Value.int z)) hh, rfl⟩) (gq_of h)) ⟨rfl, rfl, rfl, rfl, True.intro⟩)
def fX0_cutOf_51 (x0 : Nat) (x1 : Int32) (x2 : Int32) (x3 : Int32) (x4 : Int32) (x5 : Int32) (x6 : Int32) (s0 : Int32) (M : gMem) : Option (Sum (Int32 × Int32) (Int32)) :=
  if gIx 1 (x0 + 4) x6 = true then if (M.1 (x0 + 4) (Int32.toNatClampNeg x6)) = 0 then if s0 = 0 then some (.inl (x5, (x6 + 1))) else gB0 (fX0_isOf x0 x6 x1 x2 M) (fun r2 => if r2 = 0 then some (.inl (x5, (x6 + 1))) else if gIx 1 (x0 + 3) x6 = true then some (.inl ((gMn x5 (M.1 (x0 + 3) (Int32.toNatClampNeg x6))), (x6 + 1))) else none) else some (.inl (x5, (x6 + 1))) else none
set_option maxRecDepth 100000 in
theorem CX0_cutOf_51 {G : gG} {d : Nat} {Z : Option Value → gMem → Prop} (hd : 1 ≤ d) (x0 : Nat) (x1 : Int32) (x2 : Int32) (x3 : Int32) (x4 : Int32) (x5 : Int32) (x6 : Int32) (s0 : Int32) (M : gMem) (o_x0 : gOb 0 x0 = true) (P : Sum (Int32 × Int32) (Int32) → Prop) (k0 : ∀ (r : Int32), P (.inr r) → Z (some (.int r)) M) (k1 : ∀ (x5 : Int32) (x6 : Int32), P (.inl (x5, x6)) → gGo G YX0_cutOf d Z 8 [some (.ref x0), some (.int x1), some (.int x2), some (.int x3), some (.int x4), some (.int x5), some (.int x6), none] [] M) (h : gOKq (fX0_cutOf_51 x0 x1 x2 x3 x4 x5 x6 s0 M) P) : gGo G YX0_cutOf d Z 51 [some (.ref x0), some (.int x1), some (.int x2), some (.int x3), some (.int x4), some (.int x5), some (.int x6), none] [.int s0] M := by
  unfold fX0_cutOf_51 at h
  refine go_rn 2 (pc' := 54) (L' := [some (.ref x0), some (.int x1), some (.int x2), some (.int x3), some (.int x4), some (.int x5), some (.int x6), some (.int s0)]) (S' := [.ref x0]) (M' := M) okX0_cutOf rfl ?_
  refine go_ck okX0_cutOf rfl o_x0 ?_
  refine go_rn 1 (pc' := 59) (L' := [some (.ref x0), some (.int x1), some (.int x2), some (.int x3), some (.int x4), some (.int x5), some (.int x6), some (.int s0)]) (S' := [.int x6, .ref (x0 + 4)]) (M' := M) okX0_cutOf rfl ?_
  obtain ⟨c1, h⟩ := gq_if h
  refine go_ck okX0_cutOf rfl c1 ?_
  refine go_br okX0_cutOf rfl (fun hp => ?_) (fun hp => ?_)
  · have h := gq_pos hp h
    refine go_rn 1 (pc' := 65) (L' := [some (.ref x0), some (.int x1), some (.int x2), some (.int x3), some (.int x4), some (.int x5), some (.int x6), some (.int s0)]) (S' := [.int s0]) (M' := M) okX0_cutOf rfl ?_
    refine go_br okX0_cutOf rfl (fun hp => ?_) (fun hp => ?_)
    · have h := gq_pos hp h
      refine go_rn 2 (pc' := 8) (L' := [some (.ref x0), some (.int x1), some (.int x2), some (.int x3), some (.int x4), some (.int x5), some (.int (x6 + 1)), some (.int s0)]) (S' := []) (M' := M) okX0_cutOf rfl ?_
      exact go_wk (k1 (x5) ((x6 + 1)) h) ⟨rfl, rfl, rfl, rfl, rfl, rfl, rfl, True.intro⟩
    · have h := gq_neg hp h
      refine go_rn 4 (pc' := 73) (L' := [some (.ref x0), some (.int x1), some (.int x2), some (.int x3), some (.int x4), some (.int x5), some (.int x6), some (.int s0)]) (S' := [.int x2, .int x1, .int x6, .ref x0]) (M' := M) okX0_cutOf rfl ?_
      obtain ⟨r2, e3, h⟩ := gB0_ok h
      refine go_call1 ocX0_cutOf rfl rfl o_x0 rfl (SX0_isOf x0 x6 x1 x2 M o_x0 e3) (Nat.lt_of_lt_of_le (by decide) hd) ?_
      refine go_br okX0_cutOf rfl (fun hp => ?_) (fun hp => ?_)
      · have h := gq_pos hp h
        refine go_rn 2 (pc' := 8) (L' := [some (.ref x0), some (.int x1), some (.int x2), some (.int x3), some (.int x4), some (.int x5), some (.int (x6 + 1)), some (.int s0)]) (S' := []) (M' := M) okX0_cutOf rfl ?_
        exact go_wk (k1 (x5) ((x6 + 1)) h) ⟨rfl, rfl, rfl, rfl, rfl, rfl, rfl, True.intro⟩
      · have h := gq_neg hp h
        refine go_rn 2 (pc' := 82) (L' := [some (.ref x0), some (.int x1), some (.int x2), some (.int x3), some (.int x4), some (.int x5), some (.int x6), some (.int s0)]) (S' := [.ref x0, .int x5]) (M' := M) okX0_cutOf rfl ?_
        refine go_ck okX0_cutOf rfl o_x0 ?_
        refine go_rn 1 (pc' := 87) (L' := [some (.ref x0), some (.int x1), some (.int x2), some (.int x3), some (.int x4), some (.int x5), some (.int x6), some (.int s0)]) (S' := [.int x6, .ref (x0 + 3), .int x5]) (M' := M) okX0_cutOf rfl ?_
        obtain ⟨c4, h⟩ := gq_if h
        refine go_ck okX0_cutOf rfl c4 ?_
        refine go_rn 4 (pc' := 8) (L' := [some (.ref x0), some (.int x1), some (.int x2), some (.int x3), some (.int x4), some (.int (gMn x5 (M.1 (x0 + 3) (Int32.toNatClampNeg x6)))), some (.int (x6 + 1)), some (.int s0)]) (S' := []) (M' := M) okX0_cutOf rfl ?_
        exact go_wk (k1 ((gMn x5 (M.1 (x0 + 3) (Int32.toNatClampNeg x6)))) ((x6 + 1)) h) ⟨rfl, rfl, rfl, rfl, rfl, rfl, rfl, True.intro⟩
  · have h := gq_neg hp h
    refine go_rn 2 (pc' := 8) (L' := [some (.ref x0), some (.int x1), some (.int x2), some (.int x3), some (.int x4), some (.int x5), some (.int (x6 + 1)), some (.int s0)]) (S' := []) (M' := M) okX0_cutOf rfl ?_
    exact go_wk (k1 (x5) ((x6 + 1)) h) ⟨rfl, rfl, rfl, rfl, rfl, rfl, rfl, True.intro⟩
def fX0_cutOf_46 (x0 : Nat) (x1 : Int32) (x2 : Int32) (x3 : Int32) (x4 : Int32) (x5 : Int32) (x6 : Int32) (M : gMem) : Option (Sum (Int32 × Int32) (Int32)) :=
  fX0_cutOf_51 x0 x1 x2 x3 x4 x5 x6 (1 : Int32) M
set_option maxRecDepth 100000 in
theorem CX0_cutOf_46 {G : gG} {d : Nat} {Z : Option Value → gMem → Prop} (hd : 1 ≤ d) (x0 : Nat) (x1 : Int32) (x2 : Int32) (x3 : Int32) (x4 : Int32) (x5 : Int32) (x6 : Int32) (M : gMem) (o_x0 : gOb 0 x0 = true) (P : Sum (Int32 × Int32) (Int32) → Prop) (k0 : ∀ (r : Int32), P (.inr r) → Z (some (.int r)) M) (k1 : ∀ (x5 : Int32) (x6 : Int32), P (.inl (x5, x6)) → gGo G YX0_cutOf d Z 8 [some (.ref x0), some (.int x1), some (.int x2), some (.int x3), some (.int x4), some (.int x5), some (.int x6), none] [] M) (h : gOKq (fX0_cutOf_46 x0 x1 x2 x3 x4 x5 x6 M) P) : gGo G YX0_cutOf d Z 46 [some (.ref x0), some (.int x1), some (.int x2), some (.int x3), some (.int x4), some (.int x5), some (.int x6), none] [] M := by
  unfold fX0_cutOf_46 at h
  refine go_rn 2 (pc' := 51) (L' := [some (.ref x0), some (.int x1), some (.int x2), some (.int x3), some (.int x4), some (.int x5), some (.int x6), none]) (S' := [.int (1 : Int32)]) (M' := M) okX0_cutOf rfl ?_
  exact go_wk (CX0_cutOf_51 hd x0 x1 x2 x3 x4 x5 x6 (1 : Int32) M o_x0 P k0 k1 h) ⟨rfl, rfl, rfl, rfl, rfl, rfl, rfl, True.intro⟩
def fX0_cutOf_50 (x0 : Nat) (x1 : Int32) (x2 : Int32) (x3 : Int32) (x4 : Int32) (x5 : Int32) (x6 : Int32) (M : gMem) : Option (Sum (Int32 × Int32) (Int32)) :=
  fX0_cutOf_51 x0 x1 x2 x3 x4 x5 x6 (0 : Int32) M
set_option maxRecDepth 100000 in
theorem CX0_cutOf_50 {G : gG} {d : Nat} {Z : Option Value → gMem → Prop} (hd : 1 ≤ d) (x0 : Nat) (x1 : Int32) (x2 : Int32) (x3 : Int32) (x4 : Int32) (x5 : Int32) (x6 : Int32) (M : gMem) (o_x0 : gOb 0 x0 = true) (P : Sum (Int32 × Int32) (Int32) → Prop) (k0 : ∀ (r : Int32), P (.inr r) → Z (some (.int r)) M) (k1 : ∀ (x5 : Int32) (x6 : Int32), P (.inl (x5, x6)) → gGo G YX0_cutOf d Z 8 [some (.ref x0), some (.int x1), some (.int x2), some (.int x3), some (.int x4), some (.int x5), some (.int x6), none] [] M) (h : gOKq (fX0_cutOf_50 x0 x1 x2 x3 x4 x5 x6 M) P) : gGo G YX0_cutOf d Z 50 [some (.ref x0), some (.int x1), some (.int x2), some (.int x3), some (.int x4), some (.int x5), some (.int x6), none] [] M := by
  unfold fX0_cutOf_50 at h
  refine go_rn 1 (pc' := 51) (L' := [some (.ref x0), some (.int x1), some (.int x2), some (.int x3), some (.int x4), some (.int x5), some (.int x6), none]) (S' := [.int (0 : Int32)]) (M' := M) okX0_cutOf rfl ?_
  exact go_wk (CX0_cutOf_51 hd x0 x1 x2 x3 x4 x5 x6 (0 : Int32) M o_x0 P k0 k1 h) ⟨rfl, rfl, rfl, rfl, rfl, rfl, rfl, True.intro⟩
def fX0_cutOf_8 (x0 : Nat) (x1 : Int32) (x2 : Int32) (x3 : Int32) (x4 : Int32) (x5 : Int32) (x6 : Int32) (M : gMem) : Option (Sum (Int32 × Int32) (Int32)) :=
  if (M.1 x0 4) ≤ x6 then some (.inr x5) else if gIx 1 (x0 + 3) x6 = true then if x3 < (M.1 (x0 + 3) (Int32.toNatClampNeg x6)) then fX0_cutOf_46 x0 x1 x2 x3 x4 x5 x6 M else if gIx 1 (x0 + 3) x6 = true then if (M.1 (x0 + 3) (Int32.toNatClampNeg x6)) = x3 then if x6 ≤ x4 then fX0_cutOf_50 x0 x1 x2 x3 x4 x5 x6 M else fX0_cutOf_46 x0 x1 x2 x3 x4 x5 x6 M else fX0_cutOf_50 x0 x1 x2 x3 x4 x5 x6 M else none else none
set_option maxRecDepth 100000 in
theorem CX0_cutOf_8 {G : gG} {d : Nat} {Z : Option Value → gMem → Prop} (hd : 1 ≤ d) (x0 : Nat) (x1 : Int32) (x2 : Int32) (x3 : Int32) (x4 : Int32) (x5 : Int32) (x6 : Int32) (M : gMem) (o_x0 : gOb 0 x0 = true) (P : Sum (Int32 × Int32) (Int32) → Prop) (k0 : ∀ (r : Int32), P (.inr r) → Z (some (.int r)) M) (k1 : ∀ (x5 : Int32) (x6 : Int32), P (.inl (x5, x6)) → gGo G YX0_cutOf d Z 8 [some (.ref x0), some (.int x1), some (.int x2), some (.int x3), some (.int x4), some (.int x5), some (.int x6), none] [] M) (h : gOKq (fX0_cutOf_8 x0 x1 x2 x3 x4 x5 x6 M) P) : gGo G YX0_cutOf d Z 8 [some (.ref x0), some (.int x1), some (.int x2), some (.int x3), some (.int x4), some (.int x5), some (.int x6), none] [] M := by
  unfold fX0_cutOf_8 at h
  refine go_rn 2 (pc' := 11) (L' := [some (.ref x0), some (.int x1), some (.int x2), some (.int x3), some (.int x4), some (.int x5), some (.int x6), none]) (S' := [.ref x0, .int x6]) (M' := M) okX0_cutOf rfl ?_
  refine go_ck okX0_cutOf rfl o_x0 ?_
  refine go_br okX0_cutOf rfl (fun hp => ?_) (fun hp => ?_)
  · have h := gq_pos hp h
    refine go_rn 1 (pc' := 101) (L' := [some (.ref x0), some (.int x1), some (.int x2), some (.int x3), some (.int x4), some (.int x5), some (.int x6), none]) (S' := [.int x5]) (M' := M) okX0_cutOf rfl ?_
    exact go_iret (reX0_cutOf _ (by decide)) rfl (k0 x5 h)
  · have h := gq_neg hp h
    refine go_rn 1 (pc' := 18) (L' := [some (.ref x0), some (.int x1), some (.int x2), some (.int x3), some (.int x4), some (.int x5), some (.int x6), none]) (S' := [.ref x0]) (M' := M) okX0_cutOf rfl ?_
    refine go_ck okX0_cutOf rfl o_x0 ?_
    refine go_rn 1 (pc' := 23) (L' := [some (.ref x0), some (.int x1), some (.int x2), some (.int x3), some (.int x4), some (.int x5), some (.int x6), none]) (S' := [.int x6, .ref (x0 + 3)]) (M' := M) okX0_cutOf rfl ?_
    obtain ⟨c1, h⟩ := gq_if h
    refine go_ck okX0_cutOf rfl c1 ?_
    refine go_rn 1 (pc' := 25) (L' := [some (.ref x0), some (.int x1), some (.int x2), some (.int x3), some (.int x4), some (.int x5), some (.int x6), none]) (S' := [.int x3, .int (M.1 (x0 + 3) (Int32.toNatClampNeg x6))]) (M' := M) okX0_cutOf rfl ?_
    refine go_br okX0_cutOf rfl (fun hp => ?_) (fun hp => ?_)
    · have h := gq_pos hp h
      exact go_wk (CX0_cutOf_46 hd x0 x1 x2 x3 x4 x5 x6 M o_x0 P k0 k1 h) ⟨rfl, rfl, rfl, rfl, rfl, rfl, rfl, True.intro⟩
    · have h := gq_neg hp h
      refine go_rn 1 (pc' := 29) (L' := [some (.ref x0), some (.int x1), some (.int x2), some (.int x3), some (.int x4), some (.int x5), some (.int x6), none]) (S' := [.ref x0]) (M' := M) okX0_cutOf rfl ?_
      refine go_ck okX0_cutOf rfl o_x0 ?_
      refine go_rn 1 (pc' := 34) (L' := [some (.ref x0), some (.int x1), some (.int x2), some (.int x3), some (.int x4), some (.int x5), some (.int x6), none]) (S' := [.int x6, .ref (x0 + 3)]) (M' := M) okX0_cutOf rfl ?_
      obtain ⟨c2, h⟩ := gq_if h
      refine go_ck okX0_cutOf rfl c2 ?_
      refine go_rn 1 (pc' := 36) (L' := [some (.ref x0), some (.int x1), some (.int x2), some (.int x3), some (.int x4), some (.int x5), some (.int x6), none]) (S' := [.int x3, .int (M.1 (x0 + 3) (Int32.toNatClampNeg x6))]) (M' := M) okX0_cutOf rfl ?_
      refine go_br okX0_cutOf rfl (fun hp => ?_) (fun hp => ?_)
      · have h := gq_pos hp h
        refine go_rn 2 (pc' := 43) (L' := [some (.ref x0), some (.int x1), some (.int x2), some (.int x3), some (.int x4), some (.int x5), some (.int x6), none]) (S' := [.int x4, .int x6]) (M' := M) okX0_cutOf rfl ?_
        refine go_br okX0_cutOf rfl (fun hp => ?_) (fun hp => ?_)
        · have h := gq_pos hp h
          exact go_wk (CX0_cutOf_50 hd x0 x1 x2 x3 x4 x5 x6 M o_x0 P k0 k1 h) ⟨rfl, rfl, rfl, rfl, rfl, rfl, rfl, True.intro⟩
        · have h := gq_neg hp h
          exact go_wk (CX0_cutOf_46 hd x0 x1 x2 x3 x4 x5 x6 M o_x0 P k0 k1 h) ⟨rfl, rfl, rfl, rfl, rfl, rfl, rfl, True.intro⟩
      · have h := gq_neg hp h
        exact go_wk (CX0_cutOf_50 hd x0 x1 x2 x3 x4 x5 x6 M o_x0 P k0 k1 h) ⟨rfl, rfl, rfl, rfl, rfl, rfl, rfl, True.intro⟩
def fX0_cutOf_8h (x0 : Nat) (x1 : Int32) (x2 : Int32) (x3 : Int32) (x4 : Int32) (x5 : Int32) (x6 : Int32) (M : gMem) : Option (Int32) :=
  gLp (fun s : Int32 × Int32 => fX0_cutOf_8 x0 x1 x2 x3 x4 (s.1) (s.2) M) gFu (x5, x6)
set_option maxRecDepth 100000 in
theorem CX0_cutOf_8h {G : gG} {d : Nat} {Z : Option Value → gMem → Prop} (hd : 1 ≤ d) (x0 : Nat) (x1 : Int32) (x2 : Int32) (x3 : Int32) (x4 : Int32) (x5 : Int32) (x6 : Int32) (M : gMem) (o_x0 : gOb 0 x0 = true) (P : Int32 → Prop) (k0 : ∀ (r : Int32), P r → Z (some (.int r)) M) (h : gOKq (fX0_cutOf_8h x0 x1 x2 x3 x4 x5 x6 M) P) : gGo G YX0_cutOf d Z 8 [some (.ref x0), some (.int x1), some (.int x2), some (.int x3), some (.int x4), some (.int x5), some (.int x6), none] [] M :=
  gLp_go (K := fun s : Int32 × Int32 => gGo G YX0_cutOf d Z 8 [some (.ref x0), some (.int x1), some (.int x2), some (.int x3), some (.int x4), some (.int s.1), some (.int s.2), none] [] M) (P := P) (fun s hs => CX0_cutOf_8 hd (x0) (x1) (x2) (x3) (x4) (s.1) (s.2) M o_x0 (Sum.elim (fun s : Int32 × Int32 => gGo G YX0_cutOf d Z 8 [some (.ref x0), some (.int x1), some (.int x2), some (.int x3), some (.int x4), some (.int s.1), some (.int s.2), none] [] M) P) k0 (fun x5 x6 hh => hh) hs) gFu (x5, x6) h
def fX0_cutOf_0 (x0 : Nat) (x1 : Int32) (x2 : Int32) (x3 : Int32) (x4 : Int32) (M : gMem) : Option (Int32) :=
  fX0_cutOf_8h x0 x1 x2 x3 x4 (1000 : Int32) (0 : Int32) M
set_option maxRecDepth 100000 in
theorem CX0_cutOf_0 {G : gG} {d : Nat} {Z : Option Value → gMem → Prop} (hd : 1 ≤ d) (x0 : Nat) (x1 : Int32) (x2 : Int32) (x3 : Int32) (x4 : Int32) (M : gMem) (o_x0 : gOb 0 x0 = true) (P : Int32 → Prop) (k0 : ∀ (r : Int32), P r → Z (some (.int r)) M) (h : gOKq (fX0_cutOf_0 x0 x1 x2 x3 x4 M) P) : gGo G YX0_cutOf d Z 0 [some (.ref x0), some (.int x1), some (.int x2), some (.int x3), some (.int x4), none, none, none] [] M := by
  unfold fX0_cutOf_0 at h
  refine go_rn 4 (pc' := 8) (L' := [some (.ref x0), some (.int x1), some (.int x2), some (.int x3), some (.int x4), some (.int (1000 : Int32)), some (.int (0 : Int32)), none]) (S' := []) (M' := M) okX0_cutOf rfl ?_
  exact go_wk (CX0_cutOf_8h hd x0 x1 x2 x3 x4 (1000 : Int32) (0 : Int32) M o_x0 P k0 h) ⟨rfl, rfl, rfl, rfl, rfl, rfl, rfl, True.intro⟩
def fX0_cutOf (a0 : Nat) (a1 : Int32) (a2 : Int32) (a3 : Int32) (a4 : Int32) (M : gMem) : Option (Int32) := fX0_cutOf_0 a0 a1 a2 a3 a4 M
theorem SX0_cutOf {G : gG} (a0 : Nat) (a1 : Int32) (a2 : Int32) (a3 : Int32) (a4 : Int32) (M : gMem) (o_a0 : gOb 0 a0 = true) {r : Int32} (h : fX0_cutOf a0 a1 a2 a3 a4 M = some r) : gRun G YX0_cutOf 1 [.ref a0, .int a1, .int a2, .int a3, .int a4] M (fun r' N' => r' = some (.int r) ∧ N' = M) := gRun_in (by decide +kernel) rfl (fun d hd => go_wk (CX0_cutOf_0 hd a0 a1 a2 a3 a4 M o_a0 (fun p => p = r) (fun r hh => ⟨congrArg (fun z => some (Value.int z)) hh, rfl⟩) (gq_of h)) ⟨rfl, rfl, rfl, rfl, rfl, True.intro⟩)
def fX7_copy_0 (x0 : Nat) (x1 : Nat) (M : gMem) : Option (gMem) :=
  if gAl x0 = true then if gAl x1 = true then if gAr 1 x0 = true ∧ gAr 1 x1 = true ∧ 0 ≤ Int32.toInt (gMn (nI (gSh x0).2) (nI (gSh x1).2)) ∧ 0 ≤ Int32.toInt (0 : Int32) ∧ 0 ≤ Int32.toInt (0 : Int32) ∧ Int32.toInt (0 : Int32) + Int32.toInt (gMn (nI (gSh x0).2) (nI (gSh x1).2)) ≤ ((gSh x0).2 : Int) ∧ Int32.toInt (0 : Int32) + Int32.toInt (gMn (nI (gSh x0).2) (nI (gSh x1).2)) ≤ ((gSh x1).2 : Int) then some (gCI M x1 (va_cpy (M.1 x0) (M.1 x1) (Int32.toNatClampNeg (0 : Int32)) (Int32.toNatClampNeg (0 : Int32)) (Int32.toNatClampNeg (gMn (nI (gSh x0).2) (nI (gSh x1).2))))) else none else none else none
set_option maxRecDepth 100000 in
theorem CX7_copy_0 {G : gG} {d : Nat} {Z : Option Value → gMem → Prop} (hd : 0 ≤ d) (x0 : Nat) (x1 : Nat) (M : gMem) (P : gMem → Prop) (k0 : ∀ (N : gMem), P N → Z none N) (h : gOKq (fX7_copy_0 x0 x1 M) P) : gGo G YX7_copy d Z 0 [some (.ref x0), some (.ref x1)] [] M := by
  unfold fX7_copy_0 at h
  refine go_rn 5 (pc' := 5) (L' := [some (.ref x0), some (.ref x1)]) (S' := [.ref x0, .int (0 : Int32), .ref x1, .int (0 : Int32), .ref x0]) (M' := M) okX7_copy rfl ?_
  obtain ⟨c1, h⟩ := gq_if h
  refine go_ck okX7_copy rfl c1 ?_
  refine go_rn 1 (pc' := 7) (L' := [some (.ref x0), some (.ref x1)]) (S' := [.ref x1, .int (nI (gSh x0).2), .int (0 : Int32), .ref x1, .int (0 : Int32), .ref x0]) (M' := M) okX7_copy rfl ?_
  obtain ⟨c2, h⟩ := gq_if h
  refine go_ck okX7_copy rfl c2 ?_
  refine go_rn 1 (pc' := 11) (L' := [some (.ref x0), some (.ref x1)]) (S' := [.int (gMn (nI (gSh x0).2) (nI (gSh x1).2)), .int (0 : Int32), .ref x1, .int (0 : Int32), .ref x0]) (M' := M) okX7_copy rfl ?_
  obtain ⟨c3, h⟩ := gq_if h
  refine go_ck okX7_copy rfl ⟨rfl, c3⟩ ?_
  exact go_vret (reX7_copy _ (by decide)) rfl (k0 (gCI M x1 (va_cpy (M.1 x0) (M.1 x1) (Int32.toNatClampNeg (0 : Int32)) (Int32.toNatClampNeg (0 : Int32)) (Int32.toNatClampNeg (gMn (nI (gSh x0).2) (nI (gSh x1).2))))) h)
def fX7_copy (a0 : Nat) (a1 : Nat) (M : gMem) : Option (gMem) := fX7_copy_0 a0 a1 M
theorem SX7_copy {G : gG} (a0 : Nat) (a1 : Nat) (M : gMem) {N : gMem} (h : fX7_copy a0 a1 M = some N) : gRun G YX7_copy 0 [.ref a0, .ref a1] M (fun r' N' => r' = none ∧ N' = N) := gRun_in (by decide +kernel) rfl (fun d hd => go_wk (CX7_copy_0 hd a0 a1 M (fun p => p = N) (fun N hh => ⟨rfl, hh⟩) (gq_of h)) ⟨rfl, rfl, True.intro⟩)
def fX0_copyFrom_16 (x0 : Nat) (x1 : Nat) (s0 : Nat) (s1 : Nat) (M : gMem) : Option (gMem) :=
  gB0 (fX7_copy s1 s0 M) (fun M1 => gB0 (fX7_copy (x1 + 2) (x0 + 2) M1) (fun M3 => gB0 (fX7_copy (x1 + 3) (x0 + 3) M3) (fun M5 => gB0 (fX7_copy (x1 + 4) (x0 + 4) M5) (fun M7 => some M7))))
set_option maxRecDepth 100000 in
theorem CX0_copyFrom_16 {G : gG} {d : Nat} {Z : Option Value → gMem → Prop} (hd : 1 ≤ d) (x0 : Nat) (x1 : Nat) (s0 : Nat) (s1 : Nat) (M : gMem) (o_x0 : gOb 0 x0 = true) (o_x1 : gOb 0 x1 = true) (P : gMem → Prop) (k0 : ∀ (N : gMem), P N → Z none N) (h : gOKq (fX0_copyFrom_16 x0 x1 s0 s1 M) P) : gGo G YX0_copyFrom d Z 16 [some (.ref x0), some (.ref x1)] [.ref s0, .ref s1] M := by
  unfold fX0_copyFrom_16 at h
  obtain ⟨M1, e2, h⟩ := gB0_ok h
  refine go_call1 ocX0_copyFrom rfl rfl rfl rfl (SX7_copy s1 s0 M e2) (Nat.lt_of_lt_of_le (by decide) hd) ?_
  refine go_rn 1 (pc' := 20) (L' := [some (.ref x0), some (.ref x1)]) (S' := [.ref x1]) (M' := M1) okX0_copyFrom rfl ?_
  refine go_ck okX0_copyFrom rfl o_x1 ?_
  refine go_rn 1 (pc' := 24) (L' := [some (.ref x0), some (.ref x1)]) (S' := [.ref x0, .ref (x1 + 2)]) (M' := M1) okX0_copyFrom rfl ?_
  refine go_ck okX0_copyFrom rfl o_x0 ?_
  obtain ⟨M3, e4, h⟩ := gB0_ok h
  refine go_call1 ocX0_copyFrom rfl rfl rfl rfl (SX7_copy (x1 + 2) (x0 + 2) M1 e4) (Nat.lt_of_lt_of_le (by decide) hd) ?_
  refine go_rn 1 (pc' := 31) (L' := [some (.ref x0), some (.ref x1)]) (S' := [.ref x1]) (M' := M3) okX0_copyFrom rfl ?_
  refine go_ck okX0_copyFrom rfl o_x1 ?_
  refine go_rn 1 (pc' := 35) (L' := [some (.ref x0), some (.ref x1)]) (S' := [.ref x0, .ref (x1 + 3)]) (M' := M3) okX0_copyFrom rfl ?_
  refine go_ck okX0_copyFrom rfl o_x0 ?_
  obtain ⟨M5, e6, h⟩ := gB0_ok h
  refine go_call1 ocX0_copyFrom rfl rfl rfl rfl (SX7_copy (x1 + 3) (x0 + 3) M3 e6) (Nat.lt_of_lt_of_le (by decide) hd) ?_
  refine go_rn 1 (pc' := 42) (L' := [some (.ref x0), some (.ref x1)]) (S' := [.ref x1]) (M' := M5) okX0_copyFrom rfl ?_
  refine go_ck okX0_copyFrom rfl o_x1 ?_
  refine go_rn 1 (pc' := 46) (L' := [some (.ref x0), some (.ref x1)]) (S' := [.ref x0, .ref (x1 + 4)]) (M' := M5) okX0_copyFrom rfl ?_
  refine go_ck okX0_copyFrom rfl o_x0 ?_
  obtain ⟨M7, e8, h⟩ := gB0_ok h
  refine go_call1 ocX0_copyFrom rfl rfl rfl rfl (SX7_copy (x1 + 4) (x0 + 4) M5 e8) (Nat.lt_of_lt_of_le (by decide) hd) ?_
  exact go_vret (reX0_copyFrom _ (by decide)) rfl (k0 M7 h)
def fX0_copyFrom_0 (x0 : Nat) (x1 : Nat) (M : gMem) : Option (gMem) :=
  fX0_copyFrom_16 x0 x1 (x0 + 1) (x1 + 1) (gSI M x0 4 (M.1 x1 4))
set_option maxRecDepth 100000 in
theorem CX0_copyFrom_0 {G : gG} {d : Nat} {Z : Option Value → gMem → Prop} (hd : 1 ≤ d) (x0 : Nat) (x1 : Nat) (M : gMem) (o_x0 : gOb 0 x0 = true) (o_x1 : gOb 0 x1 = true) (P : gMem → Prop) (k0 : ∀ (N : gMem), P N → Z none N) (h : gOKq (fX0_copyFrom_0 x0 x1 M) P) : gGo G YX0_copyFrom d Z 0 [some (.ref x0), some (.ref x1)] [] M := by
  unfold fX0_copyFrom_0 at h
  refine go_rn 2 (pc' := 2) (L' := [some (.ref x0), some (.ref x1)]) (S' := [.ref x1, .ref x0]) (M' := M) okX0_copyFrom rfl ?_
  refine go_ck okX0_copyFrom rfl o_x1 ?_
  refine go_ck okX0_copyFrom rfl o_x0 ?_
  refine go_rn 1 (pc' := 9) (L' := [some (.ref x0), some (.ref x1)]) (S' := [.ref x1]) (M' := (gSI M x0 4 (M.1 x1 4))) okX0_copyFrom rfl ?_
  refine go_ck okX0_copyFrom rfl o_x1 ?_
  refine go_rn 1 (pc' := 13) (L' := [some (.ref x0), some (.ref x1)]) (S' := [.ref x0, .ref (x1 + 1)]) (M' := (gSI M x0 4 (M.1 x1 4))) okX0_copyFrom rfl ?_
  refine go_ck okX0_copyFrom rfl o_x0 ?_
  exact go_wk (CX0_copyFrom_16 hd x0 x1 (x0 + 1) (x1 + 1) (gSI M x0 4 (M.1 x1 4)) o_x0 o_x1 P k0 h) ⟨rfl, rfl, True.intro⟩
def fX0_copyFrom (a0 : Nat) (a1 : Nat) (M : gMem) : Option (gMem) := fX0_copyFrom_0 a0 a1 M
theorem SX0_copyFrom {G : gG} (a0 : Nat) (a1 : Nat) (M : gMem) (o_a0 : gOb 0 a0 = true) (o_a1 : gOb 0 a1 = true) {N : gMem} (h : fX0_copyFrom a0 a1 M = some N) : gRun G YX0_copyFrom 1 [.ref a0, .ref a1] M (fun r' N' => r' = none ∧ N' = N) := gRun_in (by decide +kernel) rfl (fun d hd => go_wk (CX0_copyFrom_0 hd a0 a1 M o_a0 o_a1 (fun p => p = N) (fun N hh => ⟨rfl, hh⟩) (gq_of h)) ⟨rfl, rfl, True.intro⟩)
def fX8_has_0 (x0 : Int32) (x1 : Int32) (M : gMem) : Option (Int32) :=
  if ((x0 >>> (x1 &&& 31)) &&& (1 : Int32)) = 0 then some (0 : Int32) else some (1 : Int32)
set_option maxRecDepth 100000 in
theorem CX8_has_0 {G : gG} {d : Nat} {Z : Option Value → gMem → Prop} (hd : 0 ≤ d) (x0 : Int32) (x1 : Int32) (M : gMem) (P : Int32 → Prop) (k0 : ∀ (r : Int32), P r → Z (some (.int r)) M) (h : gOKq (fX8_has_0 x0 x1 M) P) : gGo G YX8_has d Z 0 [some (.int x0), some (.int x1)] [] M := by
  unfold fX8_has_0 at h
  refine go_rn 5 (pc' := 5) (L' := [some (.int x0), some (.int x1)]) (S' := [.int ((x0 >>> (x1 &&& 31)) &&& (1 : Int32))]) (M' := M) okX8_has rfl ?_
  refine go_br okX8_has rfl (fun hp => ?_) (fun hp => ?_)
  · have h := gq_pos hp h
    refine go_rn 1 (pc' := 13) (L' := [some (.int x0), some (.int x1)]) (S' := [.int (0 : Int32)]) (M' := M) okX8_has rfl ?_
    exact go_zret (reX8_has _ (by decide)) rfl (Or.inl rfl) (k0 (0 : Int32) h)
  · have h := gq_neg hp h
    refine go_rn 2 (pc' := 13) (L' := [some (.int x0), some (.int x1)]) (S' := [.int (1 : Int32)]) (M' := M) okX8_has rfl ?_
    exact go_zret (reX8_has _ (by decide)) rfl (Or.inr rfl) (k0 (1 : Int32) h)
def fX8_has (a0 : Int32) (a1 : Int32) (M : gMem) : Option (Int32) := fX8_has_0 a0 a1 M
theorem SX8_has {G : gG} (a0 : Int32) (a1 : Int32) (M : gMem) {r : Int32} (h : fX8_has a0 a1 M = some r) : gRun G YX8_has 0 [.int a0, .int a1] M (fun r' N' => r' = some (.int r) ∧ N' = M) := gRun_in (by decide +kernel) rfl (fun d hd => go_wk (CX8_has_0 hd a0 a1 M (fun p => p = r) (fun r hh => ⟨congrArg (fun z => some (Value.int z)) hh, rfl⟩) (gq_of h)) ⟨rfl, rfl, True.intro⟩)
def fX7_widthOf_9 (x0 : Nat) (x1 : Int32) (x2 : Int32) (x3 : Int32) (x4 : Int32) (x5 : Int32) (x6 : Int32) (M : gMem) : Option (Sum (Int32 × Int32 × Int32) (Int32)) :=
  if (M.1 x0 5) ≤ x6 then if x2 = 0 then some (.inr x4) else if x2 = 1 then some (.inr x5) else if x2 = 2 then gB0 (fJ6_bitCount_0f7a4 x1 M) (fun r1 => some (.inr ((2 : Int32) * r1))) else some (.inr (gMx (1 : Int32) (x4 - x3))) else gB0 (fX8_has x1 x6 M) (fun r3 => if r3 = 0 then some (.inl (x4, x5, (x6 + 1))) else if gIx 1 (x0 + 1) x6 = true then if gIx 1 (x0 + 1) x6 = true then some (.inl ((x4 + (M.1 (x0 + 1) (Int32.toNatClampNeg x6))), (gMx x5 (M.1 (x0 + 1) (Int32.toNatClampNeg x6))), (x6 + 1))) else none else none)
set_option maxRecDepth 100000 in
theorem CX7_widthOf_9 {G : gG} {d : Nat} {Z : Option Value → gMem → Prop} (hd : 1 ≤ d) (x0 : Nat) (x1 : Int32) (x2 : Int32) (x3 : Int32) (x4 : Int32) (x5 : Int32) (x6 : Int32) (M : gMem) (o_x0 : gOb 7 x0 = true) (P : Sum (Int32 × Int32 × Int32) (Int32) → Prop) (k0 : ∀ (r : Int32), P (.inr r) → Z (some (.int r)) M) (k1 : ∀ (x4 : Int32) (x5 : Int32) (x6 : Int32), P (.inl (x4, x5, x6)) → gGo G YX7_widthOf d Z 9 [some (.ref x0), some (.int x1), some (.int x2), some (.int x3), some (.int x4), some (.int x5), some (.int x6)] [] M) (h : gOKq (fX7_widthOf_9 x0 x1 x2 x3 x4 x5 x6 M) P) : gGo G YX7_widthOf d Z 9 [some (.ref x0), some (.int x1), some (.int x2), some (.int x3), some (.int x4), some (.int x5), some (.int x6)] [] M := by
  unfold fX7_widthOf_9 at h
  refine go_rn 2 (pc' := 12) (L' := [some (.ref x0), some (.int x1), some (.int x2), some (.int x3), some (.int x4), some (.int x5), some (.int x6)]) (S' := [.ref x0, .int x6]) (M' := M) okX7_widthOf rfl ?_
  refine go_ck okX7_widthOf rfl o_x0 ?_
  refine go_br okX7_widthOf rfl (fun hp => ?_) (fun hp => ?_)
  · have h := gq_pos hp h
    refine go_rn 1 (pc' := 60) (L' := [some (.ref x0), some (.int x1), some (.int x2), some (.int x3), some (.int x4), some (.int x5), some (.int x6)]) (S' := [.int x2]) (M' := M) okX7_widthOf rfl ?_
    refine go_sw okX7_widthOf rfl ⟨fun hp => ?_, fun hn0 => ⟨fun hp => ?_, fun hn1 => ⟨fun hp => ?_, fun hn2 => ?_⟩⟩⟩
    · have h := gq_pos hp h
      refine go_rn 1 (pc' := 90) (L' := [some (.ref x0), some (.int x1), some (.int x2), some (.int x3), some (.int x4), some (.int x5), some (.int x6)]) (S' := [.int x4]) (M' := M) okX7_widthOf rfl ?_
      exact go_iret (reX7_widthOf _ (by decide)) rfl (k0 x4 h)
    · have h := gq_neg hn0 h
      have h := gq_pos hp h
      refine go_rn 1 (pc' := 93) (L' := [some (.ref x0), some (.int x1), some (.int x2), some (.int x3), some (.int x4), some (.int x5), some (.int x6)]) (S' := [.int x5]) (M' := M) okX7_widthOf rfl ?_
      exact go_iret (reX7_widthOf _ (by decide)) rfl (k0 x5 h)
    · have h := gq_neg hn0 h
      have h := gq_neg hn1 h
      have h := gq_pos hp h
      refine go_rn 2 (pc' := 96) (L' := [some (.ref x0), some (.int x1), some (.int x2), some (.int x3), some (.int x4), some (.int x5), some (.int x6)]) (S' := [.int x1, .int (2 : Int32)]) (M' := M) okX7_widthOf rfl ?_
      obtain ⟨r1, e2, h⟩ := gB0_ok h
      refine go_call1 ocX7_widthOf rfl rfl rfl rfl (SJ6_bitCount_0f7a4 x1 M e2) (Nat.lt_of_lt_of_le (by decide) hd) ?_
      refine go_rn 1 (pc' := 100) (L' := [some (.ref x0), some (.int x1), some (.int x2), some (.int x3), some (.int x4), some (.int x5), some (.int x6)]) (S' := [.int ((2 : Int32) * r1)]) (M' := M) okX7_widthOf rfl ?_
      exact go_iret (reX7_widthOf _ (by decide)) rfl (k0 ((2 : Int32) * r1) h)
    · have h := gq_neg hn0 h
      have h := gq_neg hn1 h
      have h := gq_neg hn2 h
      refine go_rn 5 (pc' := 109) (L' := [some (.ref x0), some (.int x1), some (.int x2), some (.int x3), some (.int x4), some (.int x5), some (.int x6)]) (S' := [.int (gMx (1 : Int32) (x4 - x3))]) (M' := M) okX7_widthOf rfl ?_
      exact go_iret (reX7_widthOf _ (by decide)) rfl (k0 (gMx (1 : Int32) (x4 - x3)) h)
  · have h := gq_neg hp h
    refine go_rn 2 (pc' := 21) (L' := [some (.ref x0), some (.int x1), some (.int x2), some (.int x3), some (.int x4), some (.int x5), some (.int x6)]) (S' := [.int x6, .int x1]) (M' := M) okX7_widthOf rfl ?_
    obtain ⟨r3, e4, h⟩ := gB0_ok h
    refine go_call1 ocX7_widthOf rfl rfl rfl rfl (SX8_has x1 x6 M e4) (Nat.lt_of_lt_of_le (by decide) hd) ?_
    refine go_br okX7_widthOf rfl (fun hp => ?_) (fun hp => ?_)
    · have h := gq_pos hp h
      refine go_rn 2 (pc' := 9) (L' := [some (.ref x0), some (.int x1), some (.int x2), some (.int x3), some (.int x4), some (.int x5), some (.int (x6 + 1))]) (S' := []) (M' := M) okX7_widthOf rfl ?_
      exact go_wk (k1 (x4) (x5) ((x6 + 1)) h) ⟨rfl, rfl, rfl, rfl, rfl, rfl, rfl, True.intro⟩
    · have h := gq_neg hp h
      refine go_rn 2 (pc' := 30) (L' := [some (.ref x0), some (.int x1), some (.int x2), some (.int x3), some (.int x4), some (.int x5), some (.int x6)]) (S' := [.ref x0, .int x4]) (M' := M) okX7_widthOf rfl ?_
      refine go_ck okX7_widthOf rfl o_x0 ?_
      refine go_rn 1 (pc' := 35) (L' := [some (.ref x0), some (.int x1), some (.int x2), some (.int x3), some (.int x4), some (.int x5), some (.int x6)]) (S' := [.int x6, .ref (x0 + 1), .int x4]) (M' := M) okX7_widthOf rfl ?_
      obtain ⟨c5, h⟩ := gq_if h
      refine go_ck okX7_widthOf rfl c5 ?_
      refine go_rn 4 (pc' := 42) (L' := [some (.ref x0), some (.int x1), some (.int x2), some (.int x3), some (.int (x4 + (M.1 (x0 + 1) (Int32.toNatClampNeg x6)))), some (.int x5), some (.int x6)]) (S' := [.ref x0, .int x5]) (M' := M) okX7_widthOf rfl ?_
      refine go_ck okX7_widthOf rfl o_x0 ?_
      refine go_rn 1 (pc' := 47) (L' := [some (.ref x0), some (.int x1), some (.int x2), some (.int x3), some (.int (x4 + (M.1 (x0 + 1) (Int32.toNatClampNeg x6)))), some (.int x5), some (.int x6)]) (S' := [.int x6, .ref (x0 + 1), .int x5]) (M' := M) okX7_widthOf rfl ?_
      obtain ⟨c6, h⟩ := gq_if h
      refine go_ck okX7_widthOf rfl c6 ?_
      refine go_rn 4 (pc' := 9) (L' := [some (.ref x0), some (.int x1), some (.int x2), some (.int x3), some (.int (x4 + (M.1 (x0 + 1) (Int32.toNatClampNeg x6)))), some (.int (gMx x5 (M.1 (x0 + 1) (Int32.toNatClampNeg x6)))), some (.int (x6 + 1))]) (S' := []) (M' := M) okX7_widthOf rfl ?_
      exact go_wk (k1 ((x4 + (M.1 (x0 + 1) (Int32.toNatClampNeg x6)))) ((gMx x5 (M.1 (x0 + 1) (Int32.toNatClampNeg x6)))) ((x6 + 1)) h) ⟨rfl, rfl, rfl, rfl, rfl, rfl, rfl, True.intro⟩
def fX7_widthOf_9h (x0 : Nat) (x1 : Int32) (x2 : Int32) (x3 : Int32) (x4 : Int32) (x5 : Int32) (x6 : Int32) (M : gMem) : Option (Int32) :=
  gLp (fun s : Int32 × Int32 × Int32 => fX7_widthOf_9 x0 x1 x2 x3 (s.1) (s.2.1) (s.2.2) M) gFu (x4, x5, x6)
set_option maxRecDepth 100000 in
theorem CX7_widthOf_9h {G : gG} {d : Nat} {Z : Option Value → gMem → Prop} (hd : 1 ≤ d) (x0 : Nat) (x1 : Int32) (x2 : Int32) (x3 : Int32) (x4 : Int32) (x5 : Int32) (x6 : Int32) (M : gMem) (o_x0 : gOb 7 x0 = true) (P : Int32 → Prop) (k0 : ∀ (r : Int32), P r → Z (some (.int r)) M) (h : gOKq (fX7_widthOf_9h x0 x1 x2 x3 x4 x5 x6 M) P) : gGo G YX7_widthOf d Z 9 [some (.ref x0), some (.int x1), some (.int x2), some (.int x3), some (.int x4), some (.int x5), some (.int x6)] [] M :=
  gLp_go (K := fun s : Int32 × Int32 × Int32 => gGo G YX7_widthOf d Z 9 [some (.ref x0), some (.int x1), some (.int x2), some (.int x3), some (.int s.1), some (.int s.2.1), some (.int s.2.2)] [] M) (P := P) (fun s hs => CX7_widthOf_9 hd (x0) (x1) (x2) (x3) (s.1) (s.2.1) (s.2.2) M o_x0 (Sum.elim (fun s : Int32 × Int32 × Int32 => gGo G YX7_widthOf d Z 9 [some (.ref x0), some (.int x1), some (.int x2), some (.int x3), some (.int s.1), some (.int s.2.1), some (.int s.2.2)] [] M) P) k0 (fun x4 x5 x6 hh => hh) hs) gFu (x4, x5, x6) h
def fX7_widthOf_0 (x0 : Nat) (x1 : Int32) (x2 : Int32) (x3 : Int32) (M : gMem) : Option (Int32) :=
  fX7_widthOf_9h x0 x1 x2 x3 (0 : Int32) (0 : Int32) (0 : Int32) M
set_option maxRecDepth 100000 in
theorem CX7_widthOf_0 {G : gG} {d : Nat} {Z : Option Value → gMem → Prop} (hd : 1 ≤ d) (x0 : Nat) (x1 : Int32) (x2 : Int32) (x3 : Int32) (M : gMem) (o_x0 : gOb 7 x0 = true) (P : Int32 → Prop) (k0 : ∀ (r : Int32), P r → Z (some (.int r)) M) (h : gOKq (fX7_widthOf_0 x0 x1 x2 x3 M) P) : gGo G YX7_widthOf d Z 0 [some (.ref x0), some (.int x1), some (.int x2), some (.int x3), none, none, none] [] M := by
  unfold fX7_widthOf_0 at h
  refine go_rn 6 (pc' := 9) (L' := [some (.ref x0), some (.int x1), some (.int x2), some (.int x3), some (.int (0 : Int32)), some (.int (0 : Int32)), some (.int (0 : Int32))]) (S' := []) (M' := M) okX7_widthOf rfl ?_
  exact go_wk (CX7_widthOf_9h hd x0 x1 x2 x3 (0 : Int32) (0 : Int32) (0 : Int32) M o_x0 P k0 h) ⟨rfl, rfl, rfl, rfl, rfl, rfl, rfl, True.intro⟩
def fX7_widthOf (a0 : Nat) (a1 : Int32) (a2 : Int32) (a3 : Int32) (M : gMem) : Option (Int32) := fX7_widthOf_0 a0 a1 a2 a3 M
theorem SX7_widthOf {G : gG} (a0 : Nat) (a1 : Int32) (a2 : Int32) (a3 : Int32) (M : gMem) (o_a0 : gOb 7 a0 = true) {r : Int32} (h : fX7_widthOf a0 a1 a2 a3 M = some r) : gRun G YX7_widthOf 1 [.ref a0, .int a1, .int a2, .int a3] M (fun r' N' => r' = some (.int r) ∧ N' = M) := gRun_in (by decide +kernel) rfl (fun d hd => go_wk (CX7_widthOf_0 hd a0 a1 a2 a3 M o_a0 (fun p => p = r) (fun r hh => ⟨congrArg (fun z => some (Value.int z)) hh, rfl⟩) (gq_of h)) ⟨rfl, rfl, rfl, rfl, True.intro⟩)
def fX1_fits_0 (x0 : Nat) (x1 : Int32) (x2 : Int32) (M : gMem) : Option (Int32) :=
  if x1 = 0 then some (1 : Int32) else gB0 (fJ6_bitCount_0f7a4 x1 M) (fun r1 => gB0 (fX7_widthOf x0 x1 (M.1 x0 2) (r1 - (1 : Int32)) M) (fun r3 => if gIx 1 (x0 + 7) x2 = true then if (M.1 (x0 + 7) (Int32.toNatClampNeg x2)) < r3 then some (0 : Int32) else some (1 : Int32) else none))
set_option maxRecDepth 100000 in
theorem CX1_fits_0 {G : gG} {d : Nat} {Z : Option Value → gMem → Prop} (hd : 2 ≤ d) (x0 : Nat) (x1 : Int32) (x2 : Int32) (M : gMem) (o_x0 : gOb 7 x0 = true) (P : Int32 → Prop) (k0 : ∀ (r : Int32), P r → Z (some (.int r)) M) (h : gOKq (fX1_fits_0 x0 x1 x2 M) P) : gGo G YX1_fits d Z 0 [some (.ref x0), some (.int x1), some (.int x2)] [] M := by
  unfold fX1_fits_0 at h
  refine go_rn 1 (pc' := 1) (L' := [some (.ref x0), some (.int x1), some (.int x2)]) (S' := [.int x1]) (M' := M) okX1_fits rfl ?_
  refine go_br okX1_fits rfl (fun hp => ?_) (fun hp => ?_)
  · have h := gq_pos hp h
    refine go_rn 1 (pc' := 5) (L' := [some (.ref x0), some (.int x1), some (.int x2)]) (S' := [.int (1 : Int32)]) (M' := M) okX1_fits rfl ?_
    exact go_zret (reX1_fits _ (by decide)) rfl (Or.inr rfl) (k0 (1 : Int32) h)
  · have h := gq_neg hp h
    refine go_rn 3 (pc' := 9) (L' := [some (.ref x0), some (.int x1), some (.int x2)]) (S' := [.ref x0, .int x1, .ref x0]) (M' := M) okX1_fits rfl ?_
    refine go_ck okX1_fits rfl o_x0 ?_
    refine go_rn 1 (pc' := 13) (L' := [some (.ref x0), some (.int x1), some (.int x2)]) (S' := [.int x1, .int (M.1 x0 2), .int x1, .ref x0]) (M' := M) okX1_fits rfl ?_
    obtain ⟨r1, e2, h⟩ := gB0_ok h
    refine go_call1 ocX1_fits rfl rfl rfl rfl (SJ6_bitCount_0f7a4 x1 M e2) (Nat.lt_of_lt_of_le (by decide) hd) ?_
    refine go_rn 2 (pc' := 18) (L' := [some (.ref x0), some (.int x1), some (.int x2)]) (S' := [.int (r1 - (1 : Int32)), .int (M.1 x0 2), .int x1, .ref x0]) (M' := M) okX1_fits rfl ?_
    obtain ⟨r3, e4, h⟩ := gB0_ok h
    refine go_call1 ocX1_fits rfl rfl o_x0 rfl (SX7_widthOf x0 x1 (M.1 x0 2) (r1 - (1 : Int32)) M o_x0 e4) (Nat.lt_of_lt_of_le (by decide) hd) ?_
    refine go_rn 1 (pc' := 22) (L' := [some (.ref x0), some (.int x1), some (.int x2)]) (S' := [.ref x0, .int r3]) (M' := M) okX1_fits rfl ?_
    refine go_ck okX1_fits rfl o_x0 ?_
    refine go_rn 1 (pc' := 26) (L' := [some (.ref x0), some (.int x1), some (.int x2)]) (S' := [.int x2, .ref (x0 + 7), .int r3]) (M' := M) okX1_fits rfl ?_
    obtain ⟨c5, h⟩ := gq_if h
    refine go_ck okX1_fits rfl c5 ?_
    refine go_br okX1_fits rfl (fun hp => ?_) (fun hp => ?_)
    · have h := gq_pos hp h
      refine go_rn 1 (pc' := 35) (L' := [some (.ref x0), some (.int x1), some (.int x2)]) (S' := [.int (0 : Int32)]) (M' := M) okX1_fits rfl ?_
      exact go_zret (reX1_fits _ (by decide)) rfl (Or.inl rfl) (k0 (0 : Int32) h)
    · have h := gq_neg hp h
      refine go_rn 2 (pc' := 35) (L' := [some (.ref x0), some (.int x1), some (.int x2)]) (S' := [.int (1 : Int32)]) (M' := M) okX1_fits rfl ?_
      exact go_zret (reX1_fits _ (by decide)) rfl (Or.inr rfl) (k0 (1 : Int32) h)
def fX1_fits (a0 : Nat) (a1 : Int32) (a2 : Int32) (M : gMem) : Option (Int32) := fX1_fits_0 a0 a1 a2 M
theorem SX1_fits {G : gG} (a0 : Nat) (a1 : Int32) (a2 : Int32) (M : gMem) (o_a0 : gOb 7 a0 = true) {r : Int32} (h : fX1_fits a0 a1 a2 M = some r) : gRun G YX1_fits 2 [.ref a0, .int a1, .int a2] M (fun r' N' => r' = some (.int r) ∧ N' = M) := gRun_in (by decide +kernel) rfl (fun d hd => go_wk (CX1_fits_0 hd a0 a1 a2 M o_a0 (fun p => p = r) (fun r hh => ⟨congrArg (fun z => some (Value.int z)) hh, rfl⟩) (gq_of h)) ⟨rfl, rfl, rfl, True.intro⟩)
def fX7_toldWorth_4 (x0 : Nat) (x1 : Int32) (x2 : Int32) (x3 : Int32) (M : gMem) : Option (Sum (Int32 × Int32) (Int32)) :=
  if (M.1 x0 5) ≤ x3 then some (.inr x2) else gB0 (fX8_has x1 x3 M) (fun r1 => if r1 = 0 then some (.inl (x2, (x3 + 1))) else if gIx 1 (x0 + 2) x3 = true then some (.inl ((x2 + (M.1 (x0 + 2) (Int32.toNatClampNeg x3))), (x3 + 1))) else none)
set_option maxRecDepth 100000 in
theorem CX7_toldWorth_4 {G : gG} {d : Nat} {Z : Option Value → gMem → Prop} (hd : 1 ≤ d) (x0 : Nat) (x1 : Int32) (x2 : Int32) (x3 : Int32) (M : gMem) (o_x0 : gOb 7 x0 = true) (P : Sum (Int32 × Int32) (Int32) → Prop) (k0 : ∀ (r : Int32), P (.inr r) → Z (some (.int r)) M) (k1 : ∀ (x2 : Int32) (x3 : Int32), P (.inl (x2, x3)) → gGo G YX7_toldWorth d Z 4 [some (.ref x0), some (.int x1), some (.int x2), some (.int x3)] [] M) (h : gOKq (fX7_toldWorth_4 x0 x1 x2 x3 M) P) : gGo G YX7_toldWorth d Z 4 [some (.ref x0), some (.int x1), some (.int x2), some (.int x3)] [] M := by
  unfold fX7_toldWorth_4 at h
  refine go_rn 2 (pc' := 6) (L' := [some (.ref x0), some (.int x1), some (.int x2), some (.int x3)]) (S' := [.ref x0, .int x3]) (M' := M) okX7_toldWorth rfl ?_
  refine go_ck okX7_toldWorth rfl o_x0 ?_
  refine go_br okX7_toldWorth rfl (fun hp => ?_) (fun hp => ?_)
  · have h := gq_pos hp h
    refine go_rn 1 (pc' := 36) (L' := [some (.ref x0), some (.int x1), some (.int x2), some (.int x3)]) (S' := [.int x2]) (M' := M) okX7_toldWorth rfl ?_
    exact go_iret (reX7_toldWorth _ (by decide)) rfl (k0 x2 h)
  · have h := gq_neg hp h
    refine go_rn 2 (pc' := 14) (L' := [some (.ref x0), some (.int x1), some (.int x2), some (.int x3)]) (S' := [.int x3, .int x1]) (M' := M) okX7_toldWorth rfl ?_
    obtain ⟨r1, e2, h⟩ := gB0_ok h
    refine go_call1 ocX7_toldWorth rfl rfl rfl rfl (SX8_has x1 x3 M e2) (Nat.lt_of_lt_of_le (by decide) hd) ?_
    refine go_br okX7_toldWorth rfl (fun hp => ?_) (fun hp => ?_)
    · have h := gq_pos hp h
      refine go_rn 2 (pc' := 4) (L' := [some (.ref x0), some (.int x1), some (.int x2), some (.int (x3 + 1))]) (S' := []) (M' := M) okX7_toldWorth rfl ?_
      exact go_wk (k1 (x2) ((x3 + 1)) h) ⟨rfl, rfl, rfl, rfl, True.intro⟩
    · have h := gq_neg hp h
      refine go_rn 2 (pc' := 22) (L' := [some (.ref x0), some (.int x1), some (.int x2), some (.int x3)]) (S' := [.ref x0, .int x2]) (M' := M) okX7_toldWorth rfl ?_
      refine go_ck okX7_toldWorth rfl o_x0 ?_
      refine go_rn 1 (pc' := 26) (L' := [some (.ref x0), some (.int x1), some (.int x2), some (.int x3)]) (S' := [.int x3, .ref (x0 + 2), .int x2]) (M' := M) okX7_toldWorth rfl ?_
      obtain ⟨c3, h⟩ := gq_if h
      refine go_ck okX7_toldWorth rfl c3 ?_
      refine go_rn 4 (pc' := 4) (L' := [some (.ref x0), some (.int x1), some (.int (x2 + (M.1 (x0 + 2) (Int32.toNatClampNeg x3)))), some (.int (x3 + 1))]) (S' := []) (M' := M) okX7_toldWorth rfl ?_
      exact go_wk (k1 ((x2 + (M.1 (x0 + 2) (Int32.toNatClampNeg x3)))) ((x3 + 1)) h) ⟨rfl, rfl, rfl, rfl, True.intro⟩
def fX7_toldWorth_4h (x0 : Nat) (x1 : Int32) (x2 : Int32) (x3 : Int32) (M : gMem) : Option (Int32) :=
  gLp (fun s : Int32 × Int32 => fX7_toldWorth_4 x0 x1 (s.1) (s.2) M) gFu (x2, x3)
set_option maxRecDepth 100000 in
theorem CX7_toldWorth_4h {G : gG} {d : Nat} {Z : Option Value → gMem → Prop} (hd : 1 ≤ d) (x0 : Nat) (x1 : Int32) (x2 : Int32) (x3 : Int32) (M : gMem) (o_x0 : gOb 7 x0 = true) (P : Int32 → Prop) (k0 : ∀ (r : Int32), P r → Z (some (.int r)) M) (h : gOKq (fX7_toldWorth_4h x0 x1 x2 x3 M) P) : gGo G YX7_toldWorth d Z 4 [some (.ref x0), some (.int x1), some (.int x2), some (.int x3)] [] M :=
  gLp_go (K := fun s : Int32 × Int32 => gGo G YX7_toldWorth d Z 4 [some (.ref x0), some (.int x1), some (.int s.1), some (.int s.2)] [] M) (P := P) (fun s hs => CX7_toldWorth_4 hd (x0) (x1) (s.1) (s.2) M o_x0 (Sum.elim (fun s : Int32 × Int32 => gGo G YX7_toldWorth d Z 4 [some (.ref x0), some (.int x1), some (.int s.1), some (.int s.2)] [] M) P) k0 (fun x2 x3 hh => hh) hs) gFu (x2, x3) h
def fX7_toldWorth_0 (x0 : Nat) (x1 : Int32) (M : gMem) : Option (Int32) :=
  fX7_toldWorth_4h x0 x1 (0 : Int32) (0 : Int32) M
set_option maxRecDepth 100000 in
theorem CX7_toldWorth_0 {G : gG} {d : Nat} {Z : Option Value → gMem → Prop} (hd : 1 ≤ d) (x0 : Nat) (x1 : Int32) (M : gMem) (o_x0 : gOb 7 x0 = true) (P : Int32 → Prop) (k0 : ∀ (r : Int32), P r → Z (some (.int r)) M) (h : gOKq (fX7_toldWorth_0 x0 x1 M) P) : gGo G YX7_toldWorth d Z 0 [some (.ref x0), some (.int x1), none, none] [] M := by
  unfold fX7_toldWorth_0 at h
  refine go_rn 4 (pc' := 4) (L' := [some (.ref x0), some (.int x1), some (.int (0 : Int32)), some (.int (0 : Int32))]) (S' := []) (M' := M) okX7_toldWorth rfl ?_
  exact go_wk (CX7_toldWorth_4h hd x0 x1 (0 : Int32) (0 : Int32) M o_x0 P k0 h) ⟨rfl, rfl, rfl, rfl, True.intro⟩
def fX7_toldWorth (a0 : Nat) (a1 : Int32) (M : gMem) : Option (Int32) := fX7_toldWorth_0 a0 a1 M
theorem SX7_toldWorth {G : gG} (a0 : Nat) (a1 : Int32) (M : gMem) (o_a0 : gOb 7 a0 = true) {r : Int32} (h : fX7_toldWorth a0 a1 M = some r) : gRun G YX7_toldWorth 1 [.ref a0, .int a1] M (fun r' N' => r' = some (.int r) ∧ N' = M) := gRun_in (by decide +kernel) rfl (fun d hd => go_wk (CX7_toldWorth_0 hd a0 a1 M o_a0 (fun p => p = r) (fun r hh => ⟨congrArg (fun z => some (Value.int z)) hh, rfl⟩) (gq_of h)) ⟨rfl, rfl, True.intro⟩)
def fX1_setWorth_0 (x0 : Nat) (x1 : Int32) (x2 : Int32) (M : gMem) : Option (Int32) :=
  gB0 (fX1_fits x0 x1 x2 M) (fun r1 => if r1 = 0 then some (0 : Int32) else gB0 (fX7_toldWorth x0 x1 M) (fun r3 => some r3))
set_option maxRecDepth 100000 in
theorem CX1_setWorth_0 {G : gG} {d : Nat} {Z : Option Value → gMem → Prop} (hd : 3 ≤ d) (x0 : Nat) (x1 : Int32) (x2 : Int32) (M : gMem) (o_x0 : gOb 7 x0 = true) (P : Int32 → Prop) (k0 : ∀ (r : Int32), P r → Z (some (.int r)) M) (h : gOKq (fX1_setWorth_0 x0 x1 x2 M) P) : gGo G YX1_setWorth d Z 0 [some (.ref x0), some (.int x1), some (.int x2)] [] M := by
  unfold fX1_setWorth_0 at h
  refine go_rn 3 (pc' := 3) (L' := [some (.ref x0), some (.int x1), some (.int x2)]) (S' := [.int x2, .int x1, .ref x0]) (M' := M) okX1_setWorth rfl ?_
  obtain ⟨r1, e2, h⟩ := gB0_ok h
  refine go_call1 ocX1_setWorth rfl rfl rfl rfl (SX1_fits x0 x1 x2 M o_x0 e2) (Nat.lt_of_lt_of_le (by decide) hd) ?_
  refine go_br okX1_setWorth rfl (fun hp => ?_) (fun hp => ?_)
  · have h := gq_pos hp h
    refine go_rn 1 (pc' := 18) (L' := [some (.ref x0), some (.int x1), some (.int x2)]) (S' := [.int (0 : Int32)]) (M' := M) okX1_setWorth rfl ?_
    exact go_iret (reX1_setWorth _ (by decide)) rfl (k0 (0 : Int32) h)
  · have h := gq_neg hp h
    refine go_rn 2 (pc' := 11) (L' := [some (.ref x0), some (.int x1), some (.int x2)]) (S' := [.int x1, .ref x0]) (M' := M) okX1_setWorth rfl ?_
    obtain ⟨r3, e4, h⟩ := gB0_ok h
    refine go_call1 ocX1_setWorth rfl rfl o_x0 rfl (SX7_toldWorth x0 x1 M o_x0 e4) (Nat.lt_of_lt_of_le (by decide) hd) ?_
    refine go_rn 1 (pc' := 18) (L' := [some (.ref x0), some (.int x1), some (.int x2)]) (S' := [.int r3]) (M' := M) okX1_setWorth rfl ?_
    exact go_iret (reX1_setWorth _ (by decide)) rfl (k0 r3 h)
def fX1_setWorth (a0 : Nat) (a1 : Int32) (a2 : Int32) (M : gMem) : Option (Int32) := fX1_setWorth_0 a0 a1 a2 M
theorem SX1_setWorth {G : gG} (a0 : Nat) (a1 : Int32) (a2 : Int32) (M : gMem) (o_a0 : gOb 7 a0 = true) {r : Int32} (h : fX1_setWorth a0 a1 a2 M = some r) : gRun G YX1_setWorth 3 [.ref a0, .int a1, .int a2] M (fun r' N' => r' = some (.int r) ∧ N' = M) := gRun_in (by decide +kernel) rfl (fun d hd => go_wk (CX1_setWorth_0 hd a0 a1 a2 M o_a0 (fun p => p = r) (fun r hh => ⟨congrArg (fun z => some (Value.int z)) hh, rfl⟩) (gq_of h)) ⟨rfl, rfl, rfl, True.intro⟩)
def fX1_bestSet_7 (x0 : Nat) (x1 : Int32) (x2 : Int32) (x3 : Int32) (x4 : Int32) (M : gMem) : Option (Sum (Int32 × Int32 × Int32) (Int32)) :=
  if ((1 : Int32) <<< ((M.1 x0 5) &&& 31)) ≤ x4 then some (.inr x2) else gB0 (fX1_setWorth x0 x4 x1 M) (fun r1 => if r1 ≤ x3 then some (.inl (x2, x3, (x4 + 1))) else some (.inl (x4, r1, (x4 + 1))))
set_option maxRecDepth 100000 in
theorem CX1_bestSet_7 {G : gG} {d : Nat} {Z : Option Value → gMem → Prop} (hd : 4 ≤ d) (x0 : Nat) (x1 : Int32) (x2 : Int32) (x3 : Int32) (x4 : Int32) (M : gMem) (o_x0 : gOb 7 x0 = true) (P : Sum (Int32 × Int32 × Int32) (Int32) → Prop) (k0 : ∀ (r : Int32), P (.inr r) → Z (some (.int r)) M) (k1 : ∀ (x2 : Int32) (x3 : Int32) (x4 : Int32), P (.inl (x2, x3, x4)) → gGo G YX1_bestSet d Z 7 [some (.ref x0), some (.int x1), some (.int x2), some (.int x3), some (.int x4), none] [] M) (h : gOKq (fX1_bestSet_7 x0 x1 x2 x3 x4 M) P) : gGo G YX1_bestSet d Z 7 [some (.ref x0), some (.int x1), some (.int x2), some (.int x3), some (.int x4), none] [] M := by
  unfold fX1_bestSet_7 at h
  refine go_rn 3 (pc' := 11) (L' := [some (.ref x0), some (.int x1), some (.int x2), some (.int x3), some (.int x4), none]) (S' := [.ref x0, .int (1 : Int32), .int x4]) (M' := M) okX1_bestSet rfl ?_
  refine go_ck okX1_bestSet rfl o_x0 ?_
  refine go_rn 1 (pc' := 15) (L' := [some (.ref x0), some (.int x1), some (.int x2), some (.int x3), some (.int x4), none]) (S' := [.int ((1 : Int32) <<< ((M.1 x0 5) &&& 31)), .int x4]) (M' := M) okX1_bestSet rfl ?_
  refine go_br okX1_bestSet rfl (fun hp => ?_) (fun hp => ?_)
  · have h := gq_pos hp h
    refine go_rn 1 (pc' := 46) (L' := [some (.ref x0), some (.int x1), some (.int x2), some (.int x3), some (.int x4), none]) (S' := [.int x2]) (M' := M) okX1_bestSet rfl ?_
    exact go_iret (reX1_bestSet _ (by decide)) rfl (k0 x2 h)
  · have h := gq_neg hp h
    refine go_rn 3 (pc' := 22) (L' := [some (.ref x0), some (.int x1), some (.int x2), some (.int x3), some (.int x4), none]) (S' := [.int x1, .int x4, .ref x0]) (M' := M) okX1_bestSet rfl ?_
    obtain ⟨r1, e2, h⟩ := gB0_ok h
    refine go_call1 ocX1_bestSet rfl rfl rfl rfl (SX1_setWorth x0 x4 x1 M o_x0 e2) (Nat.lt_of_lt_of_le (by decide) hd) ?_
    refine go_rn 3 (pc' := 30) (L' := [some (.ref x0), some (.int x1), some (.int x2), some (.int x3), some (.int x4), some (.int r1)]) (S' := [.int x3, .int r1]) (M' := M) okX1_bestSet rfl ?_
    refine go_br okX1_bestSet rfl (fun hp => ?_) (fun hp => ?_)
    · have h := gq_pos hp h
      refine go_rn 2 (pc' := 7) (L' := [some (.ref x0), some (.int x1), some (.int x2), some (.int x3), some (.int (x4 + 1)), some (.int r1)]) (S' := []) (M' := M) okX1_bestSet rfl ?_
      exact go_wk (k1 (x2) (x3) ((x4 + 1)) h) ⟨rfl, rfl, rfl, rfl, rfl, True.intro⟩
    · have h := gq_neg hp h
      refine go_rn 6 (pc' := 7) (L' := [some (.ref x0), some (.int x1), some (.int x4), some (.int r1), some (.int (x4 + 1)), some (.int r1)]) (S' := []) (M' := M) okX1_bestSet rfl ?_
      exact go_wk (k1 (x4) (r1) ((x4 + 1)) h) ⟨rfl, rfl, rfl, rfl, rfl, True.intro⟩
def fX1_bestSet_7h (x0 : Nat) (x1 : Int32) (x2 : Int32) (x3 : Int32) (x4 : Int32) (M : gMem) : Option (Int32) :=
  gLp (fun s : Int32 × Int32 × Int32 => fX1_bestSet_7 x0 x1 (s.1) (s.2.1) (s.2.2) M) gFu (x2, x3, x4)
set_option maxRecDepth 100000 in
theorem CX1_bestSet_7h {G : gG} {d : Nat} {Z : Option Value → gMem → Prop} (hd : 4 ≤ d) (x0 : Nat) (x1 : Int32) (x2 : Int32) (x3 : Int32) (x4 : Int32) (M : gMem) (o_x0 : gOb 7 x0 = true) (P : Int32 → Prop) (k0 : ∀ (r : Int32), P r → Z (some (.int r)) M) (h : gOKq (fX1_bestSet_7h x0 x1 x2 x3 x4 M) P) : gGo G YX1_bestSet d Z 7 [some (.ref x0), some (.int x1), some (.int x2), some (.int x3), some (.int x4), none] [] M :=
  gLp_go (K := fun s : Int32 × Int32 × Int32 => gGo G YX1_bestSet d Z 7 [some (.ref x0), some (.int x1), some (.int s.1), some (.int s.2.1), some (.int s.2.2), none] [] M) (P := P) (fun s hs => CX1_bestSet_7 hd (x0) (x1) (s.1) (s.2.1) (s.2.2) M o_x0 (Sum.elim (fun s : Int32 × Int32 × Int32 => gGo G YX1_bestSet d Z 7 [some (.ref x0), some (.int x1), some (.int s.1), some (.int s.2.1), some (.int s.2.2), none] [] M) P) k0 (fun x2 x3 x4 hh => hh) hs) gFu (x2, x3, x4) h
def fX1_bestSet_0 (x0 : Nat) (x1 : Int32) (M : gMem) : Option (Int32) :=
  fX1_bestSet_7h x0 x1 (0 : Int32) (0 : Int32) (0 : Int32) M
set_option maxRecDepth 100000 in
theorem CX1_bestSet_0 {G : gG} {d : Nat} {Z : Option Value → gMem → Prop} (hd : 4 ≤ d) (x0 : Nat) (x1 : Int32) (M : gMem) (o_x0 : gOb 7 x0 = true) (P : Int32 → Prop) (k0 : ∀ (r : Int32), P r → Z (some (.int r)) M) (h : gOKq (fX1_bestSet_0 x0 x1 M) P) : gGo G YX1_bestSet d Z 0 [some (.ref x0), some (.int x1), none, none, none, none] [] M := by
  unfold fX1_bestSet_0 at h
  refine go_rn 6 (pc' := 7) (L' := [some (.ref x0), some (.int x1), some (.int (0 : Int32)), some (.int (0 : Int32)), some (.int (0 : Int32)), none]) (S' := []) (M' := M) okX1_bestSet rfl ?_
  exact go_wk (CX1_bestSet_7h hd x0 x1 (0 : Int32) (0 : Int32) (0 : Int32) M o_x0 P k0 h) ⟨rfl, rfl, rfl, rfl, rfl, True.intro⟩
def fX1_bestSet (a0 : Nat) (a1 : Int32) (M : gMem) : Option (Int32) := fX1_bestSet_0 a0 a1 M
theorem SX1_bestSet {G : gG} (a0 : Nat) (a1 : Int32) (M : gMem) (o_a0 : gOb 7 a0 = true) {r : Int32} (h : fX1_bestSet a0 a1 M = some r) : gRun G YX1_bestSet 4 [.ref a0, .int a1] M (fun r' N' => r' = some (.int r) ∧ N' = M) := gRun_in (by decide +kernel) rfl (fun d hd => go_wk (CX1_bestSet_0 hd a0 a1 M o_a0 (fun p => p = r) (fun r hh => ⟨congrArg (fun z => some (Value.int z)) hh, rfl⟩) (gq_of h)) ⟨rfl, rfl, True.intro⟩)
def fX1_addParting_54 (x1 : Int32) (x2 : Int32) (x3 : Int32) (M : gMem) : Option (gMem) :=
  if gIx 1 62 x1 = true then if x3 = (M.1 62 (Int32.toNatClampNeg x1)) then if gIx 1 63 x1 = true then if gIx 1 63 x2 = true then if gIx 1 63 x1 = true then some (gSI M 63 (Int32.toNatClampNeg x1) ((M.1 63 (Int32.toNatClampNeg x1)) + (M.1 63 (Int32.toNatClampNeg x2)))) else none else none else none else some M else none
set_option maxRecDepth 100000 in
theorem CX1_addParting_54 {G : gG} {d : Nat} {Z : Option Value → gMem → Prop} (hd : 0 ≤ d) (x1 : Int32) (x2 : Int32) (x3 : Int32) (M : gMem) (P : gMem → Prop) (k0 : ∀ (N : gMem), P N → Z none N) (h : gOKq (fX1_addParting_54 x1 x2 x3 M) P) : gGo G YX1_addParting d Z 54 [some (.ref 61), some (.int x1), some (.int x2), some (.int x3)] [] M := by
  unfold fX1_addParting_54 at h
  refine go_rn 2 (pc' := 56) (L' := [some (.ref 61), some (.int x1), some (.int x2), some (.int x3)]) (S' := [.ref 61, .int x3]) (M' := M) okX1_addParting rfl ?_
  refine go_ck okX1_addParting rfl (gOb_c rfl) ?_
  refine go_rn 1 (pc' := 60) (L' := [some (.ref 61), some (.int x1), some (.int x2), some (.int x3)]) (S' := [.int x1, .ref 62, .int x3]) (M' := M) okX1_addParting rfl ?_
  obtain ⟨c1, h⟩ := gq_if h
  refine go_ck okX1_addParting rfl c1 ?_
  refine go_br okX1_addParting rfl (fun hp => ?_) (fun hp => ?_)
  · have h := gq_pos hp h
    refine go_rn 1 (pc' := 65) (L' := [some (.ref 61), some (.int x1), some (.int x2), some (.int x3)]) (S' := [.ref 61]) (M' := M) okX1_addParting rfl ?_
    refine go_ck okX1_addParting rfl (gOb_c rfl) ?_
    refine go_rn 2 (pc' := 70) (L' := [some (.ref 61), some (.int x1), some (.int x2), some (.int x3)]) (S' := [.int x1, .ref 63, .int x1, .ref 63]) (M' := M) okX1_addParting rfl ?_
    obtain ⟨c2, h⟩ := gq_if h
    refine go_ck okX1_addParting rfl c2 ?_
    refine go_rn 1 (pc' := 72) (L' := [some (.ref 61), some (.int x1), some (.int x2), some (.int x3)]) (S' := [.ref 61, .int (M.1 63 (Int32.toNatClampNeg x1)), .int x1, .ref 63]) (M' := M) okX1_addParting rfl ?_
    refine go_ck okX1_addParting rfl (gOb_c rfl) ?_
    refine go_rn 1 (pc' := 76) (L' := [some (.ref 61), some (.int x1), some (.int x2), some (.int x3)]) (S' := [.int x2, .ref 63, .int (M.1 63 (Int32.toNatClampNeg x1)), .int x1, .ref 63]) (M' := M) okX1_addParting rfl ?_
    obtain ⟨c3, h⟩ := gq_if h
    refine go_ck okX1_addParting rfl c3 ?_
    refine go_rn 1 (pc' := 78) (L' := [some (.ref 61), some (.int x1), some (.int x2), some (.int x3)]) (S' := [.int ((M.1 63 (Int32.toNatClampNeg x1)) + (M.1 63 (Int32.toNatClampNeg x2))), .int x1, .ref 63]) (M' := M) okX1_addParting rfl ?_
    obtain ⟨c4, h⟩ := gq_if h
    refine go_ck okX1_addParting rfl c4 ?_
    exact go_vret (reX1_addParting _ (by decide)) rfl (k0 (gSI M 63 (Int32.toNatClampNeg x1) ((M.1 63 (Int32.toNatClampNeg x1)) + (M.1 63 (Int32.toNatClampNeg x2)))) h)
  · have h := gq_neg hp h
    exact go_vret (reX1_addParting _ (by decide)) rfl (k0 M h)
def fX1_addParting_53 (x1 : Int32) (x2 : Int32) (x3 : Int32) (s0 : Int32) (s1 : Int32) (M : gMem) : Option (gMem) :=
  if gIx 1 63 s1 = true then fX1_addParting_54 x1 x2 x3 (gSI M 63 (Int32.toNatClampNeg s1) s0) else none
set_option maxRecDepth 100000 in
theorem CX1_addParting_53 {G : gG} {d : Nat} {Z : Option Value → gMem → Prop} (hd : 0 ≤ d) (x1 : Int32) (x2 : Int32) (x3 : Int32) (s0 : Int32) (s1 : Int32) (M : gMem) (P : gMem → Prop) (k0 : ∀ (N : gMem), P N → Z none N) (h : gOKq (fX1_addParting_53 x1 x2 x3 s0 s1 M) P) : gGo G YX1_addParting d Z 53 [some (.ref 61), some (.int x1), some (.int x2), some (.int x3)] [.int s0, .int s1, .ref 63] M := by
  unfold fX1_addParting_53 at h
  obtain ⟨c1, h⟩ := gq_if h
  refine go_ck okX1_addParting rfl c1 ?_
  exact go_wk (CX1_addParting_54 hd x1 x2 x3 (gSI M 63 (Int32.toNatClampNeg s1) s0) P k0 h) ⟨rfl, rfl, rfl, rfl, True.intro⟩
def fX1_addParting_40 (x1 : Int32) (x2 : Int32) (x3 : Int32) (M : gMem) : Option (gMem) :=
  if gIx 1 62 x1 = true then fX1_addParting_53 x1 x2 x3 (0 : Int32) x1 (gSI M 62 (Int32.toNatClampNeg x1) x3) else none
set_option maxRecDepth 100000 in
theorem CX1_addParting_40 {G : gG} {d : Nat} {Z : Option Value → gMem → Prop} (hd : 0 ≤ d) (x1 : Int32) (x2 : Int32) (x3 : Int32) (M : gMem) (P : gMem → Prop) (k0 : ∀ (N : gMem), P N → Z none N) (h : gOKq (fX1_addParting_40 x1 x2 x3 M) P) : gGo G YX1_addParting d Z 40 [some (.ref 61), some (.int x1), some (.int x2), some (.int x3)] [] M := by
  unfold fX1_addParting_40 at h
  refine go_rn 1 (pc' := 41) (L' := [some (.ref 61), some (.int x1), some (.int x2), some (.int x3)]) (S' := [.ref 61]) (M' := M) okX1_addParting rfl ?_
  refine go_ck okX1_addParting rfl (gOb_c rfl) ?_
  refine go_rn 2 (pc' := 46) (L' := [some (.ref 61), some (.int x1), some (.int x2), some (.int x3)]) (S' := [.int x3, .int x1, .ref 62]) (M' := M) okX1_addParting rfl ?_
  obtain ⟨c1, h⟩ := gq_if h
  refine go_ck okX1_addParting rfl c1 ?_
  refine go_rn 1 (pc' := 48) (L' := [some (.ref 61), some (.int x1), some (.int x2), some (.int x3)]) (S' := [.ref 61]) (M' := (gSI M 62 (Int32.toNatClampNeg x1) x3)) okX1_addParting rfl ?_
  refine go_ck okX1_addParting rfl (gOb_c rfl) ?_
  refine go_rn 2 (pc' := 53) (L' := [some (.ref 61), some (.int x1), some (.int x2), some (.int x3)]) (S' := [.int (0 : Int32), .int x1, .ref 63]) (M' := (gSI M 62 (Int32.toNatClampNeg x1) x3)) okX1_addParting rfl ?_
  exact go_wk (CX1_addParting_53 hd x1 x2 x3 (0 : Int32) x1 (gSI M 62 (Int32.toNatClampNeg x1) x3) P k0 h) ⟨rfl, rfl, rfl, rfl, True.intro⟩
def fX1_addParting_0 (x1 : Int32) (x2 : Int32) (M : gMem) : Option (gMem) :=
  if gIx 1 62 x2 = true then if (M.1 62 (Int32.toNatClampNeg x2)) = (-1 : Int32) then some M else if gIx 1 62 x2 = true then if gIx 1 62 x1 = true then if (M.1 62 (Int32.toNatClampNeg x1)) = (-1 : Int32) then fX1_addParting_40 x1 x2 ((M.1 62 (Int32.toNatClampNeg x2)) + (1 : Int32)) M else if gIx 1 62 x1 = true then if (M.1 62 (Int32.toNatClampNeg x1)) ≤ ((M.1 62 (Int32.toNatClampNeg x2)) + (1 : Int32)) then fX1_addParting_54 x1 x2 ((M.1 62 (Int32.toNatClampNeg x2)) + (1 : Int32)) M else fX1_addParting_40 x1 x2 ((M.1 62 (Int32.toNatClampNeg x2)) + (1 : Int32)) M else none else none else none else none
set_option maxRecDepth 100000 in
theorem CX1_addParting_0 {G : gG} {d : Nat} {Z : Option Value → gMem → Prop} (hd : 0 ≤ d) (x1 : Int32) (x2 : Int32) (M : gMem) (P : gMem → Prop) (k0 : ∀ (N : gMem), P N → Z none N) (h : gOKq (fX1_addParting_0 x1 x2 M) P) : gGo G YX1_addParting d Z 0 [some (.ref 61), some (.int x1), some (.int x2), none] [] M := by
  unfold fX1_addParting_0 at h
  refine go_rn 1 (pc' := 1) (L' := [some (.ref 61), some (.int x1), some (.int x2), none]) (S' := [.ref 61]) (M' := M) okX1_addParting rfl ?_
  refine go_ck okX1_addParting rfl (gOb_c rfl) ?_
  refine go_rn 1 (pc' := 5) (L' := [some (.ref 61), some (.int x1), some (.int x2), none]) (S' := [.int x2, .ref 62]) (M' := M) okX1_addParting rfl ?_
  obtain ⟨c1, h⟩ := gq_if h
  refine go_ck okX1_addParting rfl c1 ?_
  refine go_rn 1 (pc' := 7) (L' := [some (.ref 61), some (.int x1), some (.int x2), none]) (S' := [.int (-1 : Int32), .int (M.1 62 (Int32.toNatClampNeg x2))]) (M' := M) okX1_addParting rfl ?_
  refine go_br okX1_addParting rfl (fun hp => ?_) (fun hp => ?_)
  · have h := gq_pos hp h
    exact go_vret (reX1_addParting _ (by decide)) rfl (k0 M h)
  · have h := gq_neg hp h
    refine go_rn 1 (pc' := 12) (L' := [some (.ref 61), some (.int x1), some (.int x2), none]) (S' := [.ref 61]) (M' := M) okX1_addParting rfl ?_
    refine go_ck okX1_addParting rfl (gOb_c rfl) ?_
    refine go_rn 1 (pc' := 16) (L' := [some (.ref 61), some (.int x1), some (.int x2), none]) (S' := [.int x2, .ref 62]) (M' := M) okX1_addParting rfl ?_
    obtain ⟨c2, h⟩ := gq_if h
    refine go_ck okX1_addParting rfl c2 ?_
    refine go_rn 4 (pc' := 21) (L' := [some (.ref 61), some (.int x1), some (.int x2), some (.int ((M.1 62 (Int32.toNatClampNeg x2)) + (1 : Int32)))]) (S' := [.ref 61]) (M' := M) okX1_addParting rfl ?_
    refine go_ck okX1_addParting rfl (gOb_c rfl) ?_
    refine go_rn 1 (pc' := 25) (L' := [some (.ref 61), some (.int x1), some (.int x2), some (.int ((M.1 62 (Int32.toNatClampNeg x2)) + (1 : Int32)))]) (S' := [.int x1, .ref 62]) (M' := M) okX1_addParting rfl ?_
    obtain ⟨c3, h⟩ := gq_if h
    refine go_ck okX1_addParting rfl c3 ?_
    refine go_rn 1 (pc' := 27) (L' := [some (.ref 61), some (.int x1), some (.int x2), some (.int ((M.1 62 (Int32.toNatClampNeg x2)) + (1 : Int32)))]) (S' := [.int (-1 : Int32), .int (M.1 62 (Int32.toNatClampNeg x1))]) (M' := M) okX1_addParting rfl ?_
    refine go_br okX1_addParting rfl (fun hp => ?_) (fun hp => ?_)
    · have h := gq_pos hp h
      exact go_wk (CX1_addParting_40 hd x1 x2 ((M.1 62 (Int32.toNatClampNeg x2)) + (1 : Int32)) M P k0 h) ⟨rfl, rfl, rfl, rfl, True.intro⟩
    · have h := gq_neg hp h
      refine go_rn 2 (pc' := 32) (L' := [some (.ref 61), some (.int x1), some (.int x2), some (.int ((M.1 62 (Int32.toNatClampNeg x2)) + (1 : Int32)))]) (S' := [.ref 61, .int ((M.1 62 (Int32.toNatClampNeg x2)) + (1 : Int32))]) (M' := M) okX1_addParting rfl ?_
      refine go_ck okX1_addParting rfl (gOb_c rfl) ?_
      refine go_rn 1 (pc' := 36) (L' := [some (.ref 61), some (.int x1), some (.int x2), some (.int ((M.1 62 (Int32.toNatClampNeg x2)) + (1 : Int32)))]) (S' := [.int x1, .ref 62, .int ((M.1 62 (Int32.toNatClampNeg x2)) + (1 : Int32))]) (M' := M) okX1_addParting rfl ?_
      obtain ⟨c4, h⟩ := gq_if h
      refine go_ck okX1_addParting rfl c4 ?_
      refine go_br okX1_addParting rfl (fun hp => ?_) (fun hp => ?_)
      · have h := gq_pos hp h
        exact go_wk (CX1_addParting_54 hd x1 x2 ((M.1 62 (Int32.toNatClampNeg x2)) + (1 : Int32)) M P k0 h) ⟨rfl, rfl, rfl, rfl, True.intro⟩
      · have h := gq_neg hp h
        exact go_wk (CX1_addParting_40 hd x1 x2 ((M.1 62 (Int32.toNatClampNeg x2)) + (1 : Int32)) M P k0 h) ⟨rfl, rfl, rfl, rfl, True.intro⟩
def fX1_addParting (a1 : Int32) (a2 : Int32) (M : gMem) : Option (gMem) := fX1_addParting_0 a1 a2 M
theorem SX1_addParting {G : gG} (a1 : Int32) (a2 : Int32) (M : gMem) {N : gMem} (h : fX1_addParting a1 a2 M = some N) : gRun G YX1_addParting 0 [.ref 61, .int a1, .int a2] M (fun r' N' => r' = none ∧ N' = N) := gRun_in (by decide +kernel) rfl (fun d hd => go_wk (CX1_addParting_0 hd a1 a2 M (fun p => p = N) (fun N hh => ⟨rfl, hh⟩) (gq_of h)) ⟨rfl, rfl, rfl, True.intro⟩)
def fX1_part_77 (x1 : Nat) (x2 : Int32) (x3 : Int32) (x4 : Int32) (x5 : Int32) (s0 : Int32) (M : gMem) : Option (Sum (Int32 × gMem) (Sum (Int32 × gMem) (gMem))) :=
  if s0 = 0 then some (.inl ((x5 + 1), M)) else gB0 (fX1_fits x1 x5 x2 M) (fun r1 => if r1 = 0 then some (.inl ((x5 + 1), M)) else gB0 (fX1_addParting x3 (x3 &&& (x5 ^^^ (-1 : Int32))) M) (fun M3 => some (.inl ((x5 + 1), M3))))
set_option maxRecDepth 100000 in
theorem CX1_part_77 {G : gG} {d : Nat} {Z : Option Value → gMem → Prop} (hd : 3 ≤ d) (x1 : Nat) (x2 : Int32) (x3 : Int32) (x4 : Int32) (x5 : Int32) (s0 : Int32) (M : gMem) (o_x1 : gOb 7 x1 = true) (P : Sum (Int32 × gMem) (Sum (Int32 × gMem) (gMem)) → Prop) (k0 : ∀ (N : gMem), P (.inr (.inr N)) → Z none N) (k1 : ∀ (x3 : Int32) (M : gMem), P (.inr (.inl (x3, M))) → gGo G YX1_part d Z 16 [some (.ref 61), some (.ref x1), some (.int x2), some (.int x3), none, none, none] [] M) (k2 : ∀ (x5 : Int32) (M : gMem), P (.inl (x5, M)) → gGo G YX1_part d Z 49 [some (.ref 61), some (.ref x1), some (.int x2), some (.int x3), some (.int x4), some (.int x5), none] [] M) (h : gOKq (fX1_part_77 x1 x2 x3 x4 x5 s0 M) P) : gGo G YX1_part d Z 77 [some (.ref 61), some (.ref x1), some (.int x2), some (.int x3), some (.int x4), some (.int x5), none] [.int s0] M := by
  unfold fX1_part_77 at h
  refine go_rn 2 (pc' := 81) (L' := [some (.ref 61), some (.ref x1), some (.int x2), some (.int x3), some (.int x4), some (.int x5), some (.int s0)]) (S' := [.int s0]) (M' := M) okX1_part rfl ?_
  refine go_br okX1_part rfl (fun hp => ?_) (fun hp => ?_)
  · have h := gq_pos hp h
    refine go_rn 2 (pc' := 49) (L' := [some (.ref 61), some (.ref x1), some (.int x2), some (.int x3), some (.int x4), some (.int (x5 + 1)), some (.int s0)]) (S' := []) (M' := M) okX1_part rfl ?_
    exact go_wk (k2 ((x5 + 1)) M h) ⟨rfl, rfl, rfl, rfl, rfl, rfl, True.intro⟩
  · have h := gq_neg hp h
    refine go_rn 3 (pc' := 88) (L' := [some (.ref 61), some (.ref x1), some (.int x2), some (.int x3), some (.int x4), some (.int x5), some (.int s0)]) (S' := [.int x2, .int x5, .ref x1]) (M' := M) okX1_part rfl ?_
    obtain ⟨r1, e2, h⟩ := gB0_ok h
    refine go_call1 ocX1_part rfl rfl rfl rfl (SX1_fits x1 x5 x2 M o_x1 e2) (Nat.lt_of_lt_of_le (by decide) hd) ?_
    refine go_br okX1_part rfl (fun hp => ?_) (fun hp => ?_)
    · have h := gq_pos hp h
      refine go_rn 2 (pc' := 49) (L' := [some (.ref 61), some (.ref x1), some (.int x2), some (.int x3), some (.int x4), some (.int (x5 + 1)), some (.int s0)]) (S' := []) (M' := M) okX1_part rfl ?_
      exact go_wk (k2 ((x5 + 1)) M h) ⟨rfl, rfl, rfl, rfl, rfl, rfl, True.intro⟩
    · have h := gq_neg hp h
      refine go_rn 7 (pc' := 102) (L' := [some (.ref 61), some (.ref x1), some (.int x2), some (.int x3), some (.int x4), some (.int x5), some (.int s0)]) (S' := [.int (x3 &&& (x5 ^^^ (-1 : Int32))), .int x3, .ref 61]) (M' := M) okX1_part rfl ?_
      obtain ⟨M3, e4, h⟩ := gB0_ok h
      refine go_call1 ocX1_part rfl rfl (gOb_c rfl) rfl (SX1_addParting x3 (x3 &&& (x5 ^^^ (-1 : Int32))) M e4) (Nat.lt_of_lt_of_le (by decide) hd) ?_
      refine go_rn 2 (pc' := 49) (L' := [some (.ref 61), some (.ref x1), some (.int x2), some (.int x3), some (.int x4), some (.int (x5 + 1)), some (.int s0)]) (S' := []) (M' := M3) okX1_part rfl ?_
      exact go_wk (k2 ((x5 + 1)) M3 h) ⟨rfl, rfl, rfl, rfl, rfl, rfl, True.intro⟩
def fX1_part_76 (x1 : Nat) (x2 : Int32) (x3 : Int32) (x4 : Int32) (x5 : Int32) (M : gMem) : Option (Sum (Int32 × gMem) (Sum (Int32 × gMem) (gMem))) :=
  fX1_part_77 x1 x2 x3 x4 x5 (0 : Int32) M
set_option maxRecDepth 100000 in
theorem CX1_part_76 {G : gG} {d : Nat} {Z : Option Value → gMem → Prop} (hd : 3 ≤ d) (x1 : Nat) (x2 : Int32) (x3 : Int32) (x4 : Int32) (x5 : Int32) (M : gMem) (o_x1 : gOb 7 x1 = true) (P : Sum (Int32 × gMem) (Sum (Int32 × gMem) (gMem)) → Prop) (k0 : ∀ (N : gMem), P (.inr (.inr N)) → Z none N) (k1 : ∀ (x3 : Int32) (M : gMem), P (.inr (.inl (x3, M))) → gGo G YX1_part d Z 16 [some (.ref 61), some (.ref x1), some (.int x2), some (.int x3), none, none, none] [] M) (k2 : ∀ (x5 : Int32) (M : gMem), P (.inl (x5, M)) → gGo G YX1_part d Z 49 [some (.ref 61), some (.ref x1), some (.int x2), some (.int x3), some (.int x4), some (.int x5), none] [] M) (h : gOKq (fX1_part_76 x1 x2 x3 x4 x5 M) P) : gGo G YX1_part d Z 76 [some (.ref 61), some (.ref x1), some (.int x2), some (.int x3), some (.int x4), some (.int x5), none] [] M := by
  unfold fX1_part_76 at h
  refine go_rn 1 (pc' := 77) (L' := [some (.ref 61), some (.ref x1), some (.int x2), some (.int x3), some (.int x4), some (.int x5), none]) (S' := [.int (0 : Int32)]) (M' := M) okX1_part rfl ?_
  exact go_wk (CX1_part_77 hd x1 x2 x3 x4 x5 (0 : Int32) M o_x1 P k0 k1 k2 h) ⟨rfl, rfl, rfl, rfl, rfl, rfl, True.intro⟩
def fX1_part_49 (x1 : Nat) (x2 : Int32) (x3 : Int32) (x4 : Int32) (x5 : Int32) (M : gMem) : Option (Sum (Int32 × gMem) (Sum (Int32 × gMem) (gMem))) :=
  if x3 < x5 then some (.inr (.inl ((x3 + 1), M))) else if (x5 &&& x4) = 0 then fX1_part_76 x1 x2 x3 x4 x5 M else if (x5 &&& (x3 ^^^ (-1 : Int32))) = 0 then fX1_part_77 x1 x2 x3 x4 x5 (1 : Int32) M else fX1_part_76 x1 x2 x3 x4 x5 M
set_option maxRecDepth 100000 in
theorem CX1_part_49 {G : gG} {d : Nat} {Z : Option Value → gMem → Prop} (hd : 3 ≤ d) (x1 : Nat) (x2 : Int32) (x3 : Int32) (x4 : Int32) (x5 : Int32) (M : gMem) (o_x1 : gOb 7 x1 = true) (P : Sum (Int32 × gMem) (Sum (Int32 × gMem) (gMem)) → Prop) (k0 : ∀ (N : gMem), P (.inr (.inr N)) → Z none N) (k1 : ∀ (x3 : Int32) (M : gMem), P (.inr (.inl (x3, M))) → gGo G YX1_part d Z 16 [some (.ref 61), some (.ref x1), some (.int x2), some (.int x3), none, none, none] [] M) (k2 : ∀ (x5 : Int32) (M : gMem), P (.inl (x5, M)) → gGo G YX1_part d Z 49 [some (.ref 61), some (.ref x1), some (.int x2), some (.int x3), some (.int x4), some (.int x5), none] [] M) (h : gOKq (fX1_part_49 x1 x2 x3 x4 x5 M) P) : gGo G YX1_part d Z 49 [some (.ref 61), some (.ref x1), some (.int x2), some (.int x3), some (.int x4), some (.int x5), none] [] M := by
  unfold fX1_part_49 at h
  refine go_rn 2 (pc' := 52) (L' := [some (.ref 61), some (.ref x1), some (.int x2), some (.int x3), some (.int x4), some (.int x5), none]) (S' := [.int x3, .int x5]) (M' := M) okX1_part rfl ?_
  refine go_br okX1_part rfl (fun hp => ?_) (fun hp => ?_)
  · have h := gq_pos hp h
    refine go_rn 2 (pc' := 16) (L' := [some (.ref 61), some (.ref x1), some (.int x2), some (.int (x3 + 1)), some (.int x4), some (.int x5), none]) (S' := []) (M' := M) okX1_part rfl ?_
    exact go_wk (k1 ((x3 + 1)) M h) ⟨rfl, rfl, rfl, rfl, True.intro⟩
  · have h := gq_neg hp h
    refine go_rn 3 (pc' := 60) (L' := [some (.ref 61), some (.ref x1), some (.int x2), some (.int x3), some (.int x4), some (.int x5), none]) (S' := [.int (x5 &&& x4)]) (M' := M) okX1_part rfl ?_
    refine go_br okX1_part rfl (fun hp => ?_) (fun hp => ?_)
    · have h := gq_pos hp h
      exact go_wk (CX1_part_76 hd x1 x2 x3 x4 x5 M o_x1 P k0 k1 k2 h) ⟨rfl, rfl, rfl, rfl, rfl, rfl, True.intro⟩
    · have h := gq_neg hp h
      refine go_rn 5 (pc' := 69) (L' := [some (.ref 61), some (.ref x1), some (.int x2), some (.int x3), some (.int x4), some (.int x5), none]) (S' := [.int (x5 &&& (x3 ^^^ (-1 : Int32)))]) (M' := M) okX1_part rfl ?_
      refine go_br okX1_part rfl (fun hp => ?_) (fun hp => ?_)
      · have h := gq_pos hp h
        refine go_rn 2 (pc' := 77) (L' := [some (.ref 61), some (.ref x1), some (.int x2), some (.int x3), some (.int x4), some (.int x5), none]) (S' := [.int (1 : Int32)]) (M' := M) okX1_part rfl ?_
        exact go_wk (CX1_part_77 hd x1 x2 x3 x4 x5 (1 : Int32) M o_x1 P k0 k1 k2 h) ⟨rfl, rfl, rfl, rfl, rfl, rfl, True.intro⟩
      · have h := gq_neg hp h
        exact go_wk (CX1_part_76 hd x1 x2 x3 x4 x5 M o_x1 P k0 k1 k2 h) ⟨rfl, rfl, rfl, rfl, rfl, rfl, True.intro⟩
def fX1_part_49h (x1 : Nat) (x2 : Int32) (x3 : Int32) (x4 : Int32) (x5 : Int32) (M : gMem) : Option (Sum (Int32 × gMem) (gMem)) :=
  gLp (fun s : Int32 × gMem => fX1_part_49 x1 x2 x3 x4 (s.1) s.2) gFu (x5, M)
set_option maxRecDepth 100000 in
theorem CX1_part_49h {G : gG} {d : Nat} {Z : Option Value → gMem → Prop} (hd : 3 ≤ d) (x1 : Nat) (x2 : Int32) (x3 : Int32) (x4 : Int32) (x5 : Int32) (M : gMem) (o_x1 : gOb 7 x1 = true) (P : Sum (Int32 × gMem) (gMem) → Prop) (k0 : ∀ (N : gMem), P (.inr N) → Z none N) (k1 : ∀ (x3 : Int32) (M : gMem), P (.inl (x3, M)) → gGo G YX1_part d Z 16 [some (.ref 61), some (.ref x1), some (.int x2), some (.int x3), none, none, none] [] M) (h : gOKq (fX1_part_49h x1 x2 x3 x4 x5 M) P) : gGo G YX1_part d Z 49 [some (.ref 61), some (.ref x1), some (.int x2), some (.int x3), some (.int x4), some (.int x5), none] [] M :=
  gLp_go (K := fun s : Int32 × gMem => gGo G YX1_part d Z 49 [some (.ref 61), some (.ref x1), some (.int x2), some (.int x3), some (.int x4), some (.int s.1), none] [] s.2) (P := P) (fun s hs => CX1_part_49 hd (x1) (x2) (x3) (x4) (s.1) (s.2) o_x1 (Sum.elim (fun s : Int32 × gMem => gGo G YX1_part d Z 49 [some (.ref 61), some (.ref x1), some (.int x2), some (.int x3), some (.int x4), some (.int s.1), none] [] s.2) P) k0 k1 (fun x5 M hh => hh) hs) gFu (x5, M) h
def fX1_part_39 (x1 : Nat) (x2 : Int32) (x3 : Int32) (s0 : Int32) (s1 : Int32) (M : gMem) : Option (Sum (Int32 × gMem) (gMem)) :=
  if gIx 1 63 s1 = true then fX1_part_49h x1 x2 x3 (x3 &&& (-x3)) (1 : Int32) (gSI M 63 (Int32.toNatClampNeg s1) s0) else none
set_option maxRecDepth 100000 in
theorem CX1_part_39 {G : gG} {d : Nat} {Z : Option Value → gMem → Prop} (hd : 3 ≤ d) (x1 : Nat) (x2 : Int32) (x3 : Int32) (s0 : Int32) (s1 : Int32) (M : gMem) (o_x1 : gOb 7 x1 = true) (P : Sum (Int32 × gMem) (gMem) → Prop) (k0 : ∀ (N : gMem), P (.inr N) → Z none N) (k1 : ∀ (x3 : Int32) (M : gMem), P (.inl (x3, M)) → gGo G YX1_part d Z 16 [some (.ref 61), some (.ref x1), some (.int x2), some (.int x3), none, none, none] [] M) (h : gOKq (fX1_part_39 x1 x2 x3 s0 s1 M) P) : gGo G YX1_part d Z 39 [some (.ref 61), some (.ref x1), some (.int x2), some (.int x3), none, none, none] [.int s0, .int s1, .ref 63] M := by
  unfold fX1_part_39 at h
  obtain ⟨c1, h⟩ := gq_if h
  refine go_ck okX1_part rfl c1 ?_
  refine go_rn 7 (pc' := 49) (L' := [some (.ref 61), some (.ref x1), some (.int x2), some (.int x3), some (.int (x3 &&& (-x3))), some (.int (1 : Int32)), none]) (S' := []) (M' := (gSI M 63 (Int32.toNatClampNeg s1) s0)) okX1_part rfl ?_
  exact go_wk (CX1_part_49h hd x1 x2 x3 (x3 &&& (-x3)) (1 : Int32) (gSI M 63 (Int32.toNatClampNeg s1) s0) o_x1 P k0 k1 h) ⟨rfl, rfl, rfl, rfl, rfl, rfl, True.intro⟩
def fX1_part_16 (x1 : Nat) (x2 : Int32) (x3 : Int32) (M : gMem) : Option (Sum (Int32 × gMem) (gMem)) :=
  if ((1 : Int32) <<< ((M.1 x1 5) &&& 31)) ≤ x3 then some (.inr M) else if gIx 1 62 x3 = true then fX1_part_39 x1 x2 x3 (0 : Int32) x3 (gSI M 62 (Int32.toNatClampNeg x3) (-1 : Int32)) else none
set_option maxRecDepth 100000 in
theorem CX1_part_16 {G : gG} {d : Nat} {Z : Option Value → gMem → Prop} (hd : 3 ≤ d) (x1 : Nat) (x2 : Int32) (x3 : Int32) (M : gMem) (o_x1 : gOb 7 x1 = true) (P : Sum (Int32 × gMem) (gMem) → Prop) (k0 : ∀ (N : gMem), P (.inr N) → Z none N) (k1 : ∀ (x3 : Int32) (M : gMem), P (.inl (x3, M)) → gGo G YX1_part d Z 16 [some (.ref 61), some (.ref x1), some (.int x2), some (.int x3), none, none, none] [] M) (h : gOKq (fX1_part_16 x1 x2 x3 M) P) : gGo G YX1_part d Z 16 [some (.ref 61), some (.ref x1), some (.int x2), some (.int x3), none, none, none] [] M := by
  unfold fX1_part_16 at h
  refine go_rn 3 (pc' := 19) (L' := [some (.ref 61), some (.ref x1), some (.int x2), some (.int x3), none, none, none]) (S' := [.ref x1, .int (1 : Int32), .int x3]) (M' := M) okX1_part rfl ?_
  refine go_ck okX1_part rfl o_x1 ?_
  refine go_rn 1 (pc' := 23) (L' := [some (.ref 61), some (.ref x1), some (.int x2), some (.int x3), none, none, none]) (S' := [.int ((1 : Int32) <<< ((M.1 x1 5) &&& 31)), .int x3]) (M' := M) okX1_part rfl ?_
  refine go_br okX1_part rfl (fun hp => ?_) (fun hp => ?_)
  · have h := gq_pos hp h
    exact go_vret (reX1_part _ (by decide)) rfl (k0 M h)
  · have h := gq_neg hp h
    refine go_rn 1 (pc' := 27) (L' := [some (.ref 61), some (.ref x1), some (.int x2), some (.int x3), none, none, none]) (S' := [.ref 61]) (M' := M) okX1_part rfl ?_
    refine go_ck okX1_part rfl (gOb_c rfl) ?_
    refine go_rn 2 (pc' := 32) (L' := [some (.ref 61), some (.ref x1), some (.int x2), some (.int x3), none, none, none]) (S' := [.int (-1 : Int32), .int x3, .ref 62]) (M' := M) okX1_part rfl ?_
    obtain ⟨c1, h⟩ := gq_if h
    refine go_ck okX1_part rfl c1 ?_
    refine go_rn 1 (pc' := 34) (L' := [some (.ref 61), some (.ref x1), some (.int x2), some (.int x3), none, none, none]) (S' := [.ref 61]) (M' := (gSI M 62 (Int32.toNatClampNeg x3) (-1 : Int32))) okX1_part rfl ?_
    refine go_ck okX1_part rfl (gOb_c rfl) ?_
    refine go_rn 2 (pc' := 39) (L' := [some (.ref 61), some (.ref x1), some (.int x2), some (.int x3), none, none, none]) (S' := [.int (0 : Int32), .int x3, .ref 63]) (M' := (gSI M 62 (Int32.toNatClampNeg x3) (-1 : Int32))) okX1_part rfl ?_
    exact go_wk (CX1_part_39 hd x1 x2 x3 (0 : Int32) x3 (gSI M 62 (Int32.toNatClampNeg x3) (-1 : Int32)) o_x1 P k0 k1 h) ⟨rfl, rfl, rfl, rfl, True.intro⟩
def fX1_part_16h (x1 : Nat) (x2 : Int32) (x3 : Int32) (M : gMem) : Option (gMem) :=
  gLp (fun s : Int32 × gMem => fX1_part_16 x1 x2 (s.1) s.2) gFu (x3, M)
set_option maxRecDepth 100000 in
theorem CX1_part_16h {G : gG} {d : Nat} {Z : Option Value → gMem → Prop} (hd : 3 ≤ d) (x1 : Nat) (x2 : Int32) (x3 : Int32) (M : gMem) (o_x1 : gOb 7 x1 = true) (P : gMem → Prop) (k0 : ∀ (N : gMem), P N → Z none N) (h : gOKq (fX1_part_16h x1 x2 x3 M) P) : gGo G YX1_part d Z 16 [some (.ref 61), some (.ref x1), some (.int x2), some (.int x3), none, none, none] [] M :=
  gLp_go (K := fun s : Int32 × gMem => gGo G YX1_part d Z 16 [some (.ref 61), some (.ref x1), some (.int x2), some (.int s.1), none, none, none] [] s.2) (P := P) (fun s hs => CX1_part_16 hd (x1) (x2) (s.1) (s.2) o_x1 (Sum.elim (fun s : Int32 × gMem => gGo G YX1_part d Z 16 [some (.ref 61), some (.ref x1), some (.int x2), some (.int s.1), none, none, none] [] s.2) P) k0 (fun x3 M hh => hh) hs) gFu (x3, M) h
def fX1_part_13 (x1 : Nat) (x2 : Int32) (s0 : Int32) (s1 : Int32) (M : gMem) : Option (gMem) :=
  if gIx 1 63 s1 = true then fX1_part_16h x1 x2 (1 : Int32) (gSI M 63 (Int32.toNatClampNeg s1) s0) else none
set_option maxRecDepth 100000 in
theorem CX1_part_13 {G : gG} {d : Nat} {Z : Option Value → gMem → Prop} (hd : 3 ≤ d) (x1 : Nat) (x2 : Int32) (s0 : Int32) (s1 : Int32) (M : gMem) (o_x1 : gOb 7 x1 = true) (P : gMem → Prop) (k0 : ∀ (N : gMem), P N → Z none N) (h : gOKq (fX1_part_13 x1 x2 s0 s1 M) P) : gGo G YX1_part d Z 13 [some (.ref 61), some (.ref x1), some (.int x2), none, none, none, none] [.int s0, .int s1, .ref 63] M := by
  unfold fX1_part_13 at h
  obtain ⟨c1, h⟩ := gq_if h
  refine go_ck okX1_part rfl c1 ?_
  refine go_rn 2 (pc' := 16) (L' := [some (.ref 61), some (.ref x1), some (.int x2), some (.int (1 : Int32)), none, none, none]) (S' := []) (M' := (gSI M 63 (Int32.toNatClampNeg s1) s0)) okX1_part rfl ?_
  exact go_wk (CX1_part_16h hd x1 x2 (1 : Int32) (gSI M 63 (Int32.toNatClampNeg s1) s0) o_x1 P k0 h) ⟨rfl, rfl, rfl, rfl, True.intro⟩
def fX1_part_0 (x1 : Nat) (x2 : Int32) (M : gMem) : Option (gMem) :=
  if gIx 1 62 (0 : Int32) = true then fX1_part_13 x1 x2 (1 : Int32) (0 : Int32) (gSI M 62 (Int32.toNatClampNeg (0 : Int32)) (0 : Int32)) else none
set_option maxRecDepth 100000 in
theorem CX1_part_0 {G : gG} {d : Nat} {Z : Option Value → gMem → Prop} (hd : 3 ≤ d) (x1 : Nat) (x2 : Int32) (M : gMem) (o_x1 : gOb 7 x1 = true) (P : gMem → Prop) (k0 : ∀ (N : gMem), P N → Z none N) (h : gOKq (fX1_part_0 x1 x2 M) P) : gGo G YX1_part d Z 0 [some (.ref 61), some (.ref x1), some (.int x2), none, none, none, none] [] M := by
  unfold fX1_part_0 at h
  refine go_rn 1 (pc' := 1) (L' := [some (.ref 61), some (.ref x1), some (.int x2), none, none, none, none]) (S' := [.ref 61]) (M' := M) okX1_part rfl ?_
  refine go_ck okX1_part rfl (gOb_c rfl) ?_
  refine go_rn 2 (pc' := 6) (L' := [some (.ref 61), some (.ref x1), some (.int x2), none, none, none, none]) (S' := [.int (0 : Int32), .int (0 : Int32), .ref 62]) (M' := M) okX1_part rfl ?_
  obtain ⟨c1, h⟩ := gq_if h
  refine go_ck okX1_part rfl c1 ?_
  refine go_rn 1 (pc' := 8) (L' := [some (.ref 61), some (.ref x1), some (.int x2), none, none, none, none]) (S' := [.ref 61]) (M' := (gSI M 62 (Int32.toNatClampNeg (0 : Int32)) (0 : Int32))) okX1_part rfl ?_
  refine go_ck okX1_part rfl (gOb_c rfl) ?_
  refine go_rn 2 (pc' := 13) (L' := [some (.ref 61), some (.ref x1), some (.int x2), none, none, none, none]) (S' := [.int (1 : Int32), .int (0 : Int32), .ref 63]) (M' := (gSI M 62 (Int32.toNatClampNeg (0 : Int32)) (0 : Int32))) okX1_part rfl ?_
  exact go_wk (CX1_part_13 hd x1 x2 (1 : Int32) (0 : Int32) (gSI M 62 (Int32.toNatClampNeg (0 : Int32)) (0 : Int32)) o_x1 P k0 h) ⟨rfl, rfl, rfl, True.intro⟩
def fX1_part (a1 : Nat) (a2 : Int32) (M : gMem) : Option (gMem) := fX1_part_0 a1 a2 M
theorem SX1_part {G : gG} (a1 : Nat) (a2 : Int32) (M : gMem) (o_a1 : gOb 7 a1 = true) {N : gMem} (h : fX1_part a1 a2 M = some N) : gRun G YX1_part 3 [.ref 61, .ref a1, .int a2] M (fun r' N' => r' = none ∧ N' = N) := gRun_in (by decide +kernel) rfl (fun d hd => go_wk (CX1_part_0 hd a1 a2 M o_a1 (fun p => p = N) (fun N hh => ⟨rfl, hh⟩) (gq_of h)) ⟨rfl, rfl, rfl, True.intro⟩)
def fX1_gainOverOrders_5 (x0 : Nat) (x1 : Int32) (x2 : Int32) (x3 : Int64) (x5 : Int32) (M : gMem) : Option (Sum (Int64 × Int32) (Int64)) :=
  if ((1 : Int32) <<< ((M.1 x0 5) &&& 31)) ≤ x5 then some (.inr x3) else gB0 (fX8_has x5 x1 M) (fun r1 => if r1 = 0 then gB0 (fX1_setWorth x0 (x5 ||| ((1 : Int32) <<< (x1 &&& 31))) x2 M) (fun r3 => gB0 (fX1_setWorth x0 x5 x2 M) (fun r5 => gB0 (fJ6_bitCount_0f7a4 x5 M) (fun r7 => if 0 ≤ Int32.toInt r7 ∧ Int32.toInt r7 < 7 then if 0 ≤ Int32.toInt (gMx (0 : Int32) (((M.1 x0 5) - (1 : Int32)) - r7)) ∧ Int32.toInt (gMx (0 : Int32) (((M.1 x0 5) - (1 : Int32)) - r7)) < 7 then some (.inl ((x3 + (((Int32.toInt64 (r3 - r5)) * (Int32.toInt64 (gFac (Int32.toNatClampNeg r7)))) * (Int32.toInt64 (gFac (Int32.toNatClampNeg (gMx (0 : Int32) (((M.1 x0 5) - (1 : Int32)) - r7))))))), (x5 + 1))) else none else none))) else some (.inl (x3, (x5 + 1))))
set_option maxRecDepth 100000 in
theorem CX1_gainOverOrders_5 {G : gG} {d : Nat} {Z : Option Value → gMem → Prop} (hd : 4 ≤ d) (x0 : Nat) (x1 : Int32) (x2 : Int32) (x3 : Int64) (x5 : Int32) (M : gMem) (o_x0 : gOb 7 x0 = true) (P : Sum (Int64 × Int32) (Int64) → Prop) (k0 : ∀ (r : Int64), P (.inr r) → Z (some (.long r)) M) (k1 : ∀ (x3 : Int64) (x5 : Int32), P (.inl (x3, x5)) → gGo G YX1_gainOverOrders d Z 5 [some (.ref x0), some (.int x1), some (.int x2), some (.long x3), none, some (.int x5), none, none, none] [] M) (h : gOKq (fX1_gainOverOrders_5 x0 x1 x2 x3 x5 M) P) : gGo G YX1_gainOverOrders d Z 5 [some (.ref x0), some (.int x1), some (.int x2), some (.long x3), none, some (.int x5), none, none, none] [] M := by
  unfold fX1_gainOverOrders_5 at h
  refine go_rn 3 (pc' := 9) (L' := [some (.ref x0), some (.int x1), some (.int x2), some (.long x3), none, some (.int x5), none, none, none]) (S' := [.ref x0, .int (1 : Int32), .int x5]) (M' := M) okX1_gainOverOrders rfl ?_
  refine go_ck okX1_gainOverOrders rfl o_x0 ?_
  refine go_rn 1 (pc' := 13) (L' := [some (.ref x0), some (.int x1), some (.int x2), some (.long x3), none, some (.int x5), none, none, none]) (S' := [.int ((1 : Int32) <<< ((M.1 x0 5) &&& 31)), .int x5]) (M' := M) okX1_gainOverOrders rfl ?_
  refine go_br okX1_gainOverOrders rfl (fun hp => ?_) (fun hp => ?_)
  · have h := gq_pos hp h
    refine go_rn 1 (pc' := 97) (L' := [some (.ref x0), some (.int x1), some (.int x2), some (.long x3), none, some (.int x5), none, none, none]) (S' := [.long x3]) (M' := M) okX1_gainOverOrders rfl ?_
    exact go_lret (reX1_gainOverOrders _ (by decide)) rfl (k0 x3 h)
  · have h := gq_neg hp h
    refine go_rn 2 (pc' := 19) (L' := [some (.ref x0), some (.int x1), some (.int x2), some (.long x3), none, some (.int x5), none, none, none]) (S' := [.int x1, .int x5]) (M' := M) okX1_gainOverOrders rfl ?_
    obtain ⟨r1, e2, h⟩ := gB0_ok h
    refine go_call1 ocX1_gainOverOrders rfl rfl rfl rfl (SX8_has x5 x1 M e2) (Nat.lt_of_lt_of_le (by decide) hd) ?_
    refine go_br okX1_gainOverOrders rfl (fun hp => ?_) (fun hp => ?_)
    · have h := gq_pos hp h
      refine go_rn 7 (pc' := 33) (L' := [some (.ref x0), some (.int x1), some (.int x2), some (.long x3), none, some (.int x5), none, none, none]) (S' := [.int x2, .int (x5 ||| ((1 : Int32) <<< (x1 &&& 31))), .ref x0]) (M' := M) okX1_gainOverOrders rfl ?_
      obtain ⟨r3, e4, h⟩ := gB0_ok h
      refine go_call1 ocX1_gainOverOrders rfl rfl rfl rfl (SX1_setWorth x0 (x5 ||| ((1 : Int32) <<< (x1 &&& 31))) x2 M o_x0 e4) (Nat.lt_of_lt_of_le (by decide) hd) ?_
      refine go_rn 3 (pc' := 40) (L' := [some (.ref x0), some (.int x1), some (.int x2), some (.long x3), none, some (.int x5), none, none, none]) (S' := [.int x2, .int x5, .ref x0, .int r3]) (M' := M) okX1_gainOverOrders rfl ?_
      obtain ⟨r5, e6, h⟩ := gB0_ok h
      refine go_call1 ocX1_gainOverOrders rfl rfl rfl rfl (SX1_setWorth x0 x5 x2 M o_x0 e6) (Nat.lt_of_lt_of_le (by decide) hd) ?_
      refine go_rn 3 (pc' := 48) (L' := [some (.ref x0), some (.int x1), some (.int x2), some (.long x3), none, some (.int x5), some (.int (r3 - r5)), none, none]) (S' := [.int x5]) (M' := M) okX1_gainOverOrders rfl ?_
      obtain ⟨r7, e8, h⟩ := gB0_ok h
      refine go_call1 ocX1_gainOverOrders rfl rfl rfl rfl (SJ6_bitCount_0f7a4 x5 M e8) (Nat.lt_of_lt_of_le (by decide) hd) ?_
      refine go_rn 3 (pc' := 55) (L' := [some (.ref x0), some (.int x1), some (.int x2), some (.long x3), none, some (.int x5), some (.int (r3 - r5)), some (.int r7), none]) (S' := [.ref x0, .int (0 : Int32)]) (M' := M) okX1_gainOverOrders rfl ?_
      refine go_ck okX1_gainOverOrders rfl o_x0 ?_
      refine go_rn 11 (pc' := 77) (L' := [some (.ref x0), some (.int x1), some (.int x2), some (.long x3), none, some (.int x5), some (.int (r3 - r5)), some (.int r7), some (.int (gMx (0 : Int32) (((M.1 x0 5) - (1 : Int32)) - r7)))]) (S' := [.int r7, .ref 900, .long (Int32.toInt64 (r3 - r5)), .long x3]) (M' := M) okX1_gainOverOrders rfl ?_
      obtain ⟨c9, h⟩ := gq_if h
      refine go_ck okX1_gainOverOrders rfl ⟨rfl, c9⟩ ?_
      refine go_rn 4 (pc' := 85) (L' := [some (.ref x0), some (.int x1), some (.int x2), some (.long x3), none, some (.int x5), some (.int (r3 - r5)), some (.int r7), some (.int (gMx (0 : Int32) (((M.1 x0 5) - (1 : Int32)) - r7)))]) (S' := [.int (gMx (0 : Int32) (((M.1 x0 5) - (1 : Int32)) - r7)), .ref 900, .long ((Int32.toInt64 (r3 - r5)) * (Int32.toInt64 (gFac (Int32.toNatClampNeg r7)))), .long x3]) (M' := M) okX1_gainOverOrders rfl ?_
      obtain ⟨c10, h⟩ := gq_if h
      refine go_ck okX1_gainOverOrders rfl ⟨rfl, c10⟩ ?_
      refine go_rn 6 (pc' := 5) (L' := [some (.ref x0), some (.int x1), some (.int x2), some (.long (x3 + (((Int32.toInt64 (r3 - r5)) * (Int32.toInt64 (gFac (Int32.toNatClampNeg r7)))) * (Int32.toInt64 (gFac (Int32.toNatClampNeg (gMx (0 : Int32) (((M.1 x0 5) - (1 : Int32)) - r7)))))))), none, some (.int (x5 + 1)), some (.int (r3 - r5)), some (.int r7), some (.int (gMx (0 : Int32) (((M.1 x0 5) - (1 : Int32)) - r7)))]) (S' := []) (M' := M) okX1_gainOverOrders rfl ?_
      exact go_wk (k1 ((x3 + (((Int32.toInt64 (r3 - r5)) * (Int32.toInt64 (gFac (Int32.toNatClampNeg r7)))) * (Int32.toInt64 (gFac (Int32.toNatClampNeg (gMx (0 : Int32) (((M.1 x0 5) - (1 : Int32)) - r7)))))))) ((x5 + 1)) h) ⟨rfl, rfl, rfl, rfl, rfl, True.intro⟩
    · have h := gq_neg hp h
      refine go_rn 2 (pc' := 5) (L' := [some (.ref x0), some (.int x1), some (.int x2), some (.long x3), none, some (.int (x5 + 1)), none, none, none]) (S' := []) (M' := M) okX1_gainOverOrders rfl ?_
      exact go_wk (k1 (x3) ((x5 + 1)) h) ⟨rfl, rfl, rfl, rfl, rfl, True.intro⟩
def fX1_gainOverOrders_5h (x0 : Nat) (x1 : Int32) (x2 : Int32) (x3 : Int64) (x5 : Int32) (M : gMem) : Option (Int64) :=
  gLp (fun s : Int64 × Int32 => fX1_gainOverOrders_5 x0 x1 x2 (s.1) (s.2) M) gFu (x3, x5)
set_option maxRecDepth 100000 in
theorem CX1_gainOverOrders_5h {G : gG} {d : Nat} {Z : Option Value → gMem → Prop} (hd : 4 ≤ d) (x0 : Nat) (x1 : Int32) (x2 : Int32) (x3 : Int64) (x5 : Int32) (M : gMem) (o_x0 : gOb 7 x0 = true) (P : Int64 → Prop) (k0 : ∀ (r : Int64), P r → Z (some (.long r)) M) (h : gOKq (fX1_gainOverOrders_5h x0 x1 x2 x3 x5 M) P) : gGo G YX1_gainOverOrders d Z 5 [some (.ref x0), some (.int x1), some (.int x2), some (.long x3), none, some (.int x5), none, none, none] [] M :=
  gLp_go (K := fun s : Int64 × Int32 => gGo G YX1_gainOverOrders d Z 5 [some (.ref x0), some (.int x1), some (.int x2), some (.long s.1), none, some (.int s.2), none, none, none] [] M) (P := P) (fun s hs => CX1_gainOverOrders_5 hd (x0) (x1) (x2) (s.1) (s.2) M o_x0 (Sum.elim (fun s : Int64 × Int32 => gGo G YX1_gainOverOrders d Z 5 [some (.ref x0), some (.int x1), some (.int x2), some (.long s.1), none, some (.int s.2), none, none, none] [] M) P) k0 (fun x3 x5 hh => hh) hs) gFu (x3, x5) h
def fX1_gainOverOrders_0 (x0 : Nat) (x1 : Int32) (x2 : Int32) (M : gMem) : Option (Int64) :=
  fX1_gainOverOrders_5h x0 x1 x2 (0 : Int64) (0 : Int32) M
set_option maxRecDepth 100000 in
theorem CX1_gainOverOrders_0 {G : gG} {d : Nat} {Z : Option Value → gMem → Prop} (hd : 4 ≤ d) (x0 : Nat) (x1 : Int32) (x2 : Int32) (M : gMem) (o_x0 : gOb 7 x0 = true) (P : Int64 → Prop) (k0 : ∀ (r : Int64), P r → Z (some (.long r)) M) (h : gOKq (fX1_gainOverOrders_0 x0 x1 x2 M) P) : gGo G YX1_gainOverOrders d Z 0 [some (.ref x0), some (.int x1), some (.int x2), none, none, none, none, none, none] [] M := by
  unfold fX1_gainOverOrders_0 at h
  refine go_rn 4 (pc' := 5) (L' := [some (.ref x0), some (.int x1), some (.int x2), some (.long (0 : Int64)), none, some (.int (0 : Int32)), none, none, none]) (S' := []) (M' := M) okX1_gainOverOrders rfl ?_
  exact go_wk (CX1_gainOverOrders_5h hd x0 x1 x2 (0 : Int64) (0 : Int32) M o_x0 P k0 h) ⟨rfl, rfl, rfl, rfl, rfl, True.intro⟩
def fX1_gainOverOrders (a0 : Nat) (a1 : Int32) (a2 : Int32) (M : gMem) : Option (Int64) := fX1_gainOverOrders_0 a0 a1 a2 M
theorem SX1_gainOverOrders {G : gG} (a0 : Nat) (a1 : Int32) (a2 : Int32) (M : gMem) (o_a0 : gOb 7 a0 = true) {r : Int64} (h : fX1_gainOverOrders a0 a1 a2 M = some r) : gRun G YX1_gainOverOrders 4 [.ref a0, .int a1, .int a2] M (fun r' N' => r' = some (.long r) ∧ N' = M) := gRun_in (by decide +kernel) rfl (fun d hd => go_wk (CX1_gainOverOrders_0 hd a0 a1 a2 M o_a0 (fun p => p = r) (fun r hh => ⟨congrArg (fun z => some (Value.long z)) hh, rfl⟩) (gq_of h)) ⟨rfl, rfl, rfl, True.intro⟩)
def fX4_compareTogether_68 (x2 : Int32) (x3 : Int64) (x5 : Int64) (M : gMem) : Option (Int32) :=
  if (lg_cmp (x3 + (x5 >>> ((32 : Int32).toInt64 &&& 63))) (0 : Int64)) = 0 then gB0 (fJ13_compare_74951 (x5 &&& (4294967295 : Int64)) (Int32.toInt64 x2) M) (fun r1 => some r1) else gB0 (fJ13_compare_74951 (x3 + (x5 >>> ((32 : Int32).toInt64 &&& 63))) (0 : Int64) M) (fun r3 => some r3)
set_option maxRecDepth 100000 in
theorem CX4_compareTogether_68 {G : gG} {d : Nat} {Z : Option Value → gMem → Prop} (hd : 1 ≤ d) (x2 : Int32) (x3 : Int64) (x5 : Int64) (M : gMem) (P : Int32 → Prop) (k0 : ∀ (r : Int32), P r → Z (some (.int r)) M) (h : gOKq (fX4_compareTogether_68 x2 x3 x5 M) P) : gGo G YX4_compareTogether d Z 68 [none, none, some (.int x2), some (.long x3), none, some (.long x5), none, none] [] M := by
  unfold fX4_compareTogether_68 at h
  refine go_rn 13 (pc' := 87) (L' := [none, none, some (.int x2), some (.long (x3 + (x5 >>> ((32 : Int32).toInt64 &&& 63)))), none, some (.long (x5 &&& (4294967295 : Int64))), none, none]) (S' := [.int (lg_cmp (x3 + (x5 >>> ((32 : Int32).toInt64 &&& 63))) (0 : Int64))]) (M' := M) okX4_compareTogether rfl ?_
  refine go_br okX4_compareTogether rfl (fun hp => ?_) (fun hp => ?_)
  · have h := gq_pos hp h
    refine go_rn 3 (pc' := 102) (L' := [none, none, some (.int x2), some (.long (x3 + (x5 >>> ((32 : Int32).toInt64 &&& 63)))), none, some (.long (x5 &&& (4294967295 : Int64))), none, none]) (S' := [.long (Int32.toInt64 x2), .long (x5 &&& (4294967295 : Int64))]) (M' := M) okX4_compareTogether rfl ?_
    obtain ⟨r1, e2, h⟩ := gB0_ok h
    refine go_call1 ocX4_compareTogether rfl rfl rfl rfl (SJ13_compare_74951 (x5 &&& (4294967295 : Int64)) (Int32.toInt64 x2) M e2) (Nat.lt_of_lt_of_le (by decide) hd) ?_
    exact go_iret (reX4_compareTogether _ (by decide)) rfl (k0 r1 h)
  · have h := gq_neg hp h
    refine go_rn 2 (pc' := 92) (L' := [none, none, some (.int x2), some (.long (x3 + (x5 >>> ((32 : Int32).toInt64 &&& 63)))), none, some (.long (x5 &&& (4294967295 : Int64))), none, none]) (S' := [.long (0 : Int64), .long (x3 + (x5 >>> ((32 : Int32).toInt64 &&& 63)))]) (M' := M) okX4_compareTogether rfl ?_
    obtain ⟨r3, e4, h⟩ := gB0_ok h
    refine go_call1 ocX4_compareTogether rfl rfl rfl rfl (SJ13_compare_74951 (x3 + (x5 >>> ((32 : Int32).toInt64 &&& 63))) (0 : Int64) M e4) (Nat.lt_of_lt_of_le (by decide) hd) ?_
    refine go_rn 1 (pc' := 105) (L' := [none, none, some (.int x2), some (.long (x3 + (x5 >>> ((32 : Int32).toInt64 &&& 63)))), none, some (.long (x5 &&& (4294967295 : Int64))), none, none]) (S' := [.int r3]) (M' := M) okX4_compareTogether rfl ?_
    exact go_iret (reX4_compareTogether _ (by decide)) rfl (k0 r3 h)
def fX4_compareTogether_8 (x0 : Nat) (x1 : Int32) (x2 : Int32) (x3 : Int64) (x5 : Int64) (x7 : Int32) (M : gMem) : Option (Sum (Int64 × Int64 × Int32) (Int32)) :=
  if (M.1 x0 2) ≤ x7 then gEx (fX4_compareTogether_68 x2 x3 x5 M) else if (6 : Int32) ≤ x7 then gEx (fX4_compareTogether_68 x2 x3 x5 M) else gB0 (fX8_has x1 x7 M) (fun r1 => if r1 = 0 then some (.inl (x3, x5, (x7 + 1))) else if gIx 4 (x0 + 1) x7 = true then if gIx 4 (x0 + 1) x7 = true then some (.inl ((x3 + ((M.2.1 (x0 + 1) (Int32.toNatClampNeg x7)) >>> ((32 : Int32).toInt64 &&& 63))), (x5 + ((M.2.1 (x0 + 1) (Int32.toNatClampNeg x7)) &&& (4294967295 : Int64))), (x7 + 1))) else none else none)
set_option maxRecDepth 100000 in
theorem CX4_compareTogether_8 {G : gG} {d : Nat} {Z : Option Value → gMem → Prop} (hd : 1 ≤ d) (x0 : Nat) (x1 : Int32) (x2 : Int32) (x3 : Int64) (x5 : Int64) (x7 : Int32) (M : gMem) (o_x0 : gOb 4 x0 = true) (P : Sum (Int64 × Int64 × Int32) (Int32) → Prop) (k0 : ∀ (r : Int32), P (.inr r) → Z (some (.int r)) M) (k1 : ∀ (x3 : Int64) (x5 : Int64) (x7 : Int32), P (.inl (x3, x5, x7)) → gGo G YX4_compareTogether d Z 8 [some (.ref x0), some (.int x1), some (.int x2), some (.long x3), none, some (.long x5), none, some (.int x7)] [] M) (h : gOKq (fX4_compareTogether_8 x0 x1 x2 x3 x5 x7 M) P) : gGo G YX4_compareTogether d Z 8 [some (.ref x0), some (.int x1), some (.int x2), some (.long x3), none, some (.long x5), none, some (.int x7)] [] M := by
  unfold fX4_compareTogether_8 at h
  refine go_rn 2 (pc' := 11) (L' := [some (.ref x0), some (.int x1), some (.int x2), some (.long x3), none, some (.long x5), none, some (.int x7)]) (S' := [.ref x0, .int x7]) (M' := M) okX4_compareTogether rfl ?_
  refine go_ck okX4_compareTogether rfl o_x0 ?_
  refine go_br okX4_compareTogether rfl (fun hp => ?_) (fun hp => ?_)
  · have h := gq_pos hp h
    exact go_wk (CX4_compareTogether_68 hd x2 x3 x5 M (fun q => P (.inr q)) k0 (gEx_ok h)) ⟨rfl, rfl, rfl, True.intro⟩
  · have h := gq_neg hp h
    refine go_rn 2 (pc' := 21) (L' := [some (.ref x0), some (.int x1), some (.int x2), some (.long x3), none, some (.long x5), none, some (.int x7)]) (S' := [.int (6 : Int32), .int x7]) (M' := M) okX4_compareTogether rfl ?_
    refine go_br okX4_compareTogether rfl (fun hp => ?_) (fun hp => ?_)
    · have h := gq_pos hp h
      exact go_wk (CX4_compareTogether_68 hd x2 x3 x5 M (fun q => P (.inr q)) k0 (gEx_ok h)) ⟨rfl, rfl, rfl, True.intro⟩
    · have h := gq_neg hp h
      refine go_rn 2 (pc' := 27) (L' := [some (.ref x0), some (.int x1), some (.int x2), some (.long x3), none, some (.long x5), none, some (.int x7)]) (S' := [.int x7, .int x1]) (M' := M) okX4_compareTogether rfl ?_
      obtain ⟨r1, e2, h⟩ := gB0_ok h
      refine go_call1 ocX4_compareTogether rfl rfl rfl rfl (SX8_has x1 x7 M e2) (Nat.lt_of_lt_of_le (by decide) hd) ?_
      refine go_br okX4_compareTogether rfl (fun hp => ?_) (fun hp => ?_)
      · have h := gq_pos hp h
        refine go_rn 2 (pc' := 8) (L' := [some (.ref x0), some (.int x1), some (.int x2), some (.long x3), none, some (.long x5), none, some (.int (x7 + 1))]) (S' := []) (M' := M) okX4_compareTogether rfl ?_
        exact go_wk (k1 (x3) (x5) ((x7 + 1)) h) ⟨rfl, rfl, rfl, rfl, rfl, rfl, True.intro⟩
      · have h := gq_neg hp h
        refine go_rn 2 (pc' := 35) (L' := [some (.ref x0), some (.int x1), some (.int x2), some (.long x3), none, some (.long x5), none, some (.int x7)]) (S' := [.ref x0, .long x3]) (M' := M) okX4_compareTogether rfl ?_
        refine go_ck okX4_compareTogether rfl o_x0 ?_
        refine go_rn 1 (pc' := 40) (L' := [some (.ref x0), some (.int x1), some (.int x2), some (.long x3), none, some (.long x5), none, some (.int x7)]) (S' := [.int x7, .ref (x0 + 1), .long x3]) (M' := M) okX4_compareTogether rfl ?_
        obtain ⟨c3, h⟩ := gq_if h
        refine go_ck okX4_compareTogether rfl c3 ?_
        refine go_rn 6 (pc' := 49) (L' := [some (.ref x0), some (.int x1), some (.int x2), some (.long (x3 + ((M.2.1 (x0 + 1) (Int32.toNatClampNeg x7)) >>> ((32 : Int32).toInt64 &&& 63)))), none, some (.long x5), none, some (.int x7)]) (S' := [.ref x0, .long x5]) (M' := M) okX4_compareTogether rfl ?_
        refine go_ck okX4_compareTogether rfl o_x0 ?_
        refine go_rn 1 (pc' := 54) (L' := [some (.ref x0), some (.int x1), some (.int x2), some (.long (x3 + ((M.2.1 (x0 + 1) (Int32.toNatClampNeg x7)) >>> ((32 : Int32).toInt64 &&& 63)))), none, some (.long x5), none, some (.int x7)]) (S' := [.int x7, .ref (x0 + 1), .long x5]) (M' := M) okX4_compareTogether rfl ?_
        obtain ⟨c4, h⟩ := gq_if h
        refine go_ck okX4_compareTogether rfl c4 ?_
        refine go_rn 6 (pc' := 8) (L' := [some (.ref x0), some (.int x1), some (.int x2), some (.long (x3 + ((M.2.1 (x0 + 1) (Int32.toNatClampNeg x7)) >>> ((32 : Int32).toInt64 &&& 63)))), none, some (.long (x5 + ((M.2.1 (x0 + 1) (Int32.toNatClampNeg x7)) &&& (4294967295 : Int64)))), none, some (.int (x7 + 1))]) (S' := []) (M' := M) okX4_compareTogether rfl ?_
        exact go_wk (k1 ((x3 + ((M.2.1 (x0 + 1) (Int32.toNatClampNeg x7)) >>> ((32 : Int32).toInt64 &&& 63)))) ((x5 + ((M.2.1 (x0 + 1) (Int32.toNatClampNeg x7)) &&& (4294967295 : Int64)))) ((x7 + 1)) h) ⟨rfl, rfl, rfl, rfl, rfl, rfl, True.intro⟩
def fX4_compareTogether_8h (x0 : Nat) (x1 : Int32) (x2 : Int32) (x3 : Int64) (x5 : Int64) (x7 : Int32) (M : gMem) : Option (Int32) :=
  gLp (fun s : Int64 × Int64 × Int32 => fX4_compareTogether_8 x0 x1 x2 (s.1) (s.2.1) (s.2.2) M) gFu (x3, x5, x7)
set_option maxRecDepth 100000 in
theorem CX4_compareTogether_8h {G : gG} {d : Nat} {Z : Option Value → gMem → Prop} (hd : 1 ≤ d) (x0 : Nat) (x1 : Int32) (x2 : Int32) (x3 : Int64) (x5 : Int64) (x7 : Int32) (M : gMem) (o_x0 : gOb 4 x0 = true) (P : Int32 → Prop) (k0 : ∀ (r : Int32), P r → Z (some (.int r)) M) (h : gOKq (fX4_compareTogether_8h x0 x1 x2 x3 x5 x7 M) P) : gGo G YX4_compareTogether d Z 8 [some (.ref x0), some (.int x1), some (.int x2), some (.long x3), none, some (.long x5), none, some (.int x7)] [] M :=
  gLp_go (K := fun s : Int64 × Int64 × Int32 => gGo G YX4_compareTogether d Z 8 [some (.ref x0), some (.int x1), some (.int x2), some (.long s.1), none, some (.long s.2.1), none, some (.int s.2.2)] [] M) (P := P) (fun s hs => CX4_compareTogether_8 hd (x0) (x1) (x2) (s.1) (s.2.1) (s.2.2) M o_x0 (Sum.elim (fun s : Int64 × Int64 × Int32 => gGo G YX4_compareTogether d Z 8 [some (.ref x0), some (.int x1), some (.int x2), some (.long s.1), none, some (.long s.2.1), none, some (.int s.2.2)] [] M) P) k0 (fun x3 x5 x7 hh => hh) hs) gFu (x3, x5, x7) h
def fX4_compareTogether_0 (x0 : Nat) (x1 : Int32) (x2 : Int32) (M : gMem) : Option (Int32) :=
  fX4_compareTogether_8h x0 x1 x2 (0 : Int64) (0 : Int64) (0 : Int32) M
set_option maxRecDepth 100000 in
theorem CX4_compareTogether_0 {G : gG} {d : Nat} {Z : Option Value → gMem → Prop} (hd : 1 ≤ d) (x0 : Nat) (x1 : Int32) (x2 : Int32) (M : gMem) (o_x0 : gOb 4 x0 = true) (P : Int32 → Prop) (k0 : ∀ (r : Int32), P r → Z (some (.int r)) M) (h : gOKq (fX4_compareTogether_0 x0 x1 x2 M) P) : gGo G YX4_compareTogether d Z 0 [some (.ref x0), some (.int x1), some (.int x2), none, none, none, none, none] [] M := by
  unfold fX4_compareTogether_0 at h
  refine go_rn 6 (pc' := 8) (L' := [some (.ref x0), some (.int x1), some (.int x2), some (.long (0 : Int64)), none, some (.long (0 : Int64)), none, some (.int (0 : Int32))]) (S' := []) (M' := M) okX4_compareTogether rfl ?_
  exact go_wk (CX4_compareTogether_8h hd x0 x1 x2 (0 : Int64) (0 : Int64) (0 : Int32) M o_x0 P k0 h) ⟨rfl, rfl, rfl, rfl, rfl, rfl, True.intro⟩
def fX4_compareTogether (a0 : Nat) (a1 : Int32) (a2 : Int32) (M : gMem) : Option (Int32) := fX4_compareTogether_0 a0 a1 a2 M
theorem SX4_compareTogether {G : gG} (a0 : Nat) (a1 : Int32) (a2 : Int32) (M : gMem) (o_a0 : gOb 4 a0 = true) {r : Int32} (h : fX4_compareTogether a0 a1 a2 M = some r) : gRun G YX4_compareTogether 1 [.ref a0, .int a1, .int a2] M (fun r' N' => r' = some (.int r) ∧ N' = M) := gRun_in (by decide +kernel) rfl (fun d hd => go_wk (CX4_compareTogether_0 hd a0 a1 a2 M o_a0 (fun p => p = r) (fun r hh => ⟨congrArg (fun z => some (Value.int z)) hh, rfl⟩) (gq_of h)) ⟨rfl, rfl, rfl, True.intro⟩)
def fX1_firstLeaver_2 (x0 : Nat) (x1 : Int32) (x2 : Nat) (x3 : Int32) (M : gMem) : Option (Sum (Int32) (Int32)) :=
  if ((1 : Int32) <<< ((M.1 x0 5) &&& 31)) ≤ x3 then some (.inr (-1 : Int32)) else gB0 (fX1_setWorth x0 x3 x1 M) (fun r1 => gB0 (fX4_compareTogether x2 x3 r1 M) (fun r3 => if 0 ≤ r3 then some (.inl ((x3 + 1))) else some (.inr x3)))
set_option maxRecDepth 100000 in
theorem CX1_firstLeaver_2 {G : gG} {d : Nat} {Z : Option Value → gMem → Prop} (hd : 4 ≤ d) (x0 : Nat) (x1 : Int32) (x2 : Nat) (x3 : Int32) (M : gMem) (o_x0 : gOb 7 x0 = true) (o_x2 : gOb 4 x2 = true) (P : Sum (Int32) (Int32) → Prop) (k0 : ∀ (r : Int32), P (.inr r) → Z (some (.int r)) M) (k1 : ∀ (x3 : Int32), P (.inl (x3)) → gGo G YX1_firstLeaver d Z 2 [some (.ref x0), some (.int x1), some (.ref x2), some (.int x3)] [] M) (h : gOKq (fX1_firstLeaver_2 x0 x1 x2 x3 M) P) : gGo G YX1_firstLeaver d Z 2 [some (.ref x0), some (.int x1), some (.ref x2), some (.int x3)] [] M := by
  unfold fX1_firstLeaver_2 at h
  refine go_rn 3 (pc' := 5) (L' := [some (.ref x0), some (.int x1), some (.ref x2), some (.int x3)]) (S' := [.ref x0, .int (1 : Int32), .int x3]) (M' := M) okX1_firstLeaver rfl ?_
  refine go_ck okX1_firstLeaver rfl o_x0 ?_
  refine go_rn 1 (pc' := 9) (L' := [some (.ref x0), some (.int x1), some (.ref x2), some (.int x3)]) (S' := [.int ((1 : Int32) <<< ((M.1 x0 5) &&& 31)), .int x3]) (M' := M) okX1_firstLeaver rfl ?_
  refine go_br okX1_firstLeaver rfl (fun hp => ?_) (fun hp => ?_)
  · have h := gq_pos hp h
    refine go_rn 1 (pc' := 35) (L' := [some (.ref x0), some (.int x1), some (.ref x2), some (.int x3)]) (S' := [.int (-1 : Int32)]) (M' := M) okX1_firstLeaver rfl ?_
    exact go_iret (reX1_firstLeaver _ (by decide)) rfl (k0 (-1 : Int32) h)
  · have h := gq_neg hp h
    refine go_rn 5 (pc' := 17) (L' := [some (.ref x0), some (.int x1), some (.ref x2), some (.int x3)]) (S' := [.int x1, .int x3, .ref x0, .int x3, .ref x2]) (M' := M) okX1_firstLeaver rfl ?_
    obtain ⟨r1, e2, h⟩ := gB0_ok h
    refine go_call1 ocX1_firstLeaver rfl rfl rfl rfl (SX1_setWorth x0 x3 x1 M o_x0 e2) (Nat.lt_of_lt_of_le (by decide) hd) ?_
    obtain ⟨r3, e4, h⟩ := gB0_ok h
    refine go_call1 ocX1_firstLeaver rfl rfl o_x2 rfl (SX4_compareTogether x2 x3 r1 M o_x2 e4) (Nat.lt_of_lt_of_le (by decide) hd) ?_
    refine go_br okX1_firstLeaver rfl (fun hp => ?_) (fun hp => ?_)
    · have h := gq_pos hp h
      refine go_rn 2 (pc' := 2) (L' := [some (.ref x0), some (.int x1), some (.ref x2), some (.int (x3 + 1))]) (S' := []) (M' := M) okX1_firstLeaver rfl ?_
      exact go_wk (k1 ((x3 + 1)) h) ⟨rfl, rfl, rfl, rfl, True.intro⟩
    · have h := gq_neg hp h
      refine go_rn 1 (pc' := 27) (L' := [some (.ref x0), some (.int x1), some (.ref x2), some (.int x3)]) (S' := [.int x3]) (M' := M) okX1_firstLeaver rfl ?_
      exact go_iret (reX1_firstLeaver _ (by decide)) rfl (k0 x3 h)
def fX1_firstLeaver_2h (x0 : Nat) (x1 : Int32) (x2 : Nat) (x3 : Int32) (M : gMem) : Option (Int32) :=
  gLp (fun s : Int32 => fX1_firstLeaver_2 x0 x1 x2 s M) gFu (x3)
set_option maxRecDepth 100000 in
theorem CX1_firstLeaver_2h {G : gG} {d : Nat} {Z : Option Value → gMem → Prop} (hd : 4 ≤ d) (x0 : Nat) (x1 : Int32) (x2 : Nat) (x3 : Int32) (M : gMem) (o_x0 : gOb 7 x0 = true) (o_x2 : gOb 4 x2 = true) (P : Int32 → Prop) (k0 : ∀ (r : Int32), P r → Z (some (.int r)) M) (h : gOKq (fX1_firstLeaver_2h x0 x1 x2 x3 M) P) : gGo G YX1_firstLeaver d Z 2 [some (.ref x0), some (.int x1), some (.ref x2), some (.int x3)] [] M :=
  gLp_go (K := fun s : Int32 => gGo G YX1_firstLeaver d Z 2 [some (.ref x0), some (.int x1), some (.ref x2), some (.int s)] [] M) (P := P) (fun s hs => CX1_firstLeaver_2 hd (x0) (x1) (x2) (s) M o_x0 o_x2 (Sum.elim (fun s : Int32 => gGo G YX1_firstLeaver d Z 2 [some (.ref x0), some (.int x1), some (.ref x2), some (.int s)] [] M) P) k0 (fun x3 hh => hh) hs) gFu (x3) h
def fX1_firstLeaver_0 (x0 : Nat) (x1 : Int32) (x2 : Nat) (M : gMem) : Option (Int32) :=
  fX1_firstLeaver_2h x0 x1 x2 (0 : Int32) M
set_option maxRecDepth 100000 in
theorem CX1_firstLeaver_0 {G : gG} {d : Nat} {Z : Option Value → gMem → Prop} (hd : 4 ≤ d) (x0 : Nat) (x1 : Int32) (x2 : Nat) (M : gMem) (o_x0 : gOb 7 x0 = true) (o_x2 : gOb 4 x2 = true) (P : Int32 → Prop) (k0 : ∀ (r : Int32), P r → Z (some (.int r)) M) (h : gOKq (fX1_firstLeaver_0 x0 x1 x2 M) P) : gGo G YX1_firstLeaver d Z 0 [some (.ref x0), some (.int x1), some (.ref x2), none] [] M := by
  unfold fX1_firstLeaver_0 at h
  refine go_rn 2 (pc' := 2) (L' := [some (.ref x0), some (.int x1), some (.ref x2), some (.int (0 : Int32))]) (S' := []) (M' := M) okX1_firstLeaver rfl ?_
  exact go_wk (CX1_firstLeaver_2h hd x0 x1 x2 (0 : Int32) M o_x0 o_x2 P k0 h) ⟨rfl, rfl, rfl, rfl, True.intro⟩
def fX1_firstLeaver (a0 : Nat) (a1 : Int32) (a2 : Nat) (M : gMem) : Option (Int32) := fX1_firstLeaver_0 a0 a1 a2 M
theorem SX1_firstLeaver {G : gG} (a0 : Nat) (a1 : Int32) (a2 : Nat) (M : gMem) (o_a0 : gOb 7 a0 = true) (o_a2 : gOb 4 a2 = true) {r : Int32} (h : fX1_firstLeaver a0 a1 a2 M = some r) : gRun G YX1_firstLeaver 4 [.ref a0, .int a1, .ref a2] M (fun r' N' => r' = some (.int r) ∧ N' = M) := gRun_in (by decide +kernel) rfl (fun d hd => go_wk (CX1_firstLeaver_0 hd a0 a1 a2 M o_a0 o_a2 (fun p => p = r) (fun r hh => ⟨congrArg (fun z => some (Value.int z)) hh, rfl⟩) (gq_of h)) ⟨rfl, rfl, rfl, True.intro⟩)
def fX2_supposeNothing_22 (s0 : Int32) (M : gMem) : Option (gMem) :=
  some (gSI M 14 4 s0)
set_option maxRecDepth 100000 in
theorem CX2_supposeNothing_22 {G : gG} {d : Nat} {Z : Option Value → gMem → Prop} (hd : 0 ≤ d) (s0 : Int32) (M : gMem) (P : gMem → Prop) (k0 : ∀ (N : gMem), P N → Z none N) (h : gOKq (fX2_supposeNothing_22 s0 M) P) : gGo G YX2_supposeNothing d Z 22 [none] [.int s0, .ref 14] M := by
  unfold fX2_supposeNothing_22 at h
  refine go_ck okX2_supposeNothing rfl (gOb_c rfl) ?_
  exact go_vret (reX2_supposeNothing _ (by decide)) rfl (k0 (gSI M 14 4 s0) h)
def fX2_supposeNothing_17 (s0 : Int32) (M : gMem) : Option (gMem) :=
  fX2_supposeNothing_22 (0 : Int32) (gSI M 14 3 s0)
set_option maxRecDepth 100000 in
theorem CX2_supposeNothing_17 {G : gG} {d : Nat} {Z : Option Value → gMem → Prop} (hd : 0 ≤ d) (s0 : Int32) (M : gMem) (P : gMem → Prop) (k0 : ∀ (N : gMem), P N → Z none N) (h : gOKq (fX2_supposeNothing_17 s0 M) P) : gGo G YX2_supposeNothing d Z 17 [some (.ref 14)] [.int s0, .ref 14] M := by
  unfold fX2_supposeNothing_17 at h
  refine go_ck okX2_supposeNothing rfl (gOb_c rfl) ?_
  refine go_rn 2 (pc' := 22) (L' := [some (.ref 14)]) (S' := [.int (0 : Int32), .ref 14]) (M' := (gSI M 14 3 s0)) okX2_supposeNothing rfl ?_
  exact go_wk (CX2_supposeNothing_22 hd (0 : Int32) (gSI M 14 3 s0) P k0 h) True.intro
def fX2_supposeNothing_12 (s0 : Int32) (M : gMem) : Option (gMem) :=
  fX2_supposeNothing_17 (0 : Int32) (gSI M 14 2 s0)
set_option maxRecDepth 100000 in
theorem CX2_supposeNothing_12 {G : gG} {d : Nat} {Z : Option Value → gMem → Prop} (hd : 0 ≤ d) (s0 : Int32) (M : gMem) (P : gMem → Prop) (k0 : ∀ (N : gMem), P N → Z none N) (h : gOKq (fX2_supposeNothing_12 s0 M) P) : gGo G YX2_supposeNothing d Z 12 [some (.ref 14)] [.int s0, .ref 14] M := by
  unfold fX2_supposeNothing_12 at h
  refine go_ck okX2_supposeNothing rfl (gOb_c rfl) ?_
  refine go_rn 2 (pc' := 17) (L' := [some (.ref 14)]) (S' := [.int (0 : Int32), .ref 14]) (M' := (gSI M 14 2 s0)) okX2_supposeNothing rfl ?_
  exact go_wk (CX2_supposeNothing_17 hd (0 : Int32) (gSI M 14 2 s0) P k0 h) ⟨rfl, True.intro⟩
def fX2_supposeNothing_7 (s0 : Int32) (M : gMem) : Option (gMem) :=
  if s0 = 0 ∨ s0 = 1 then fX2_supposeNothing_12 (0 : Int32) (gSI M 14 1 s0) else none
set_option maxRecDepth 100000 in
theorem CX2_supposeNothing_7 {G : gG} {d : Nat} {Z : Option Value → gMem → Prop} (hd : 0 ≤ d) (s0 : Int32) (M : gMem) (P : gMem → Prop) (k0 : ∀ (N : gMem), P N → Z none N) (h : gOKq (fX2_supposeNothing_7 s0 M) P) : gGo G YX2_supposeNothing d Z 7 [some (.ref 14)] [.int s0, .ref 14] M := by
  unfold fX2_supposeNothing_7 at h
  obtain ⟨hz, h⟩ := gq_if h
  refine go_cc okX2_supposeNothing rfl (gOb_c rfl) hz ?_
  refine go_rn 2 (pc' := 12) (L' := [some (.ref 14)]) (S' := [.int (0 : Int32), .ref 14]) (M' := (gSI M 14 1 s0)) okX2_supposeNothing rfl ?_
  exact go_wk (CX2_supposeNothing_12 hd (0 : Int32) (gSI M 14 1 s0) P k0 h) ⟨rfl, True.intro⟩
def fX2_supposeNothing_0 (M : gMem) : Option (gMem) :=
  fX2_supposeNothing_7 (0 : Int32) (gSI M 14 0 (0 : Int32))
set_option maxRecDepth 100000 in
theorem CX2_supposeNothing_0 {G : gG} {d : Nat} {Z : Option Value → gMem → Prop} (hd : 0 ≤ d) (M : gMem) (P : gMem → Prop) (k0 : ∀ (N : gMem), P N → Z none N) (h : gOKq (fX2_supposeNothing_0 M) P) : gGo G YX2_supposeNothing d Z 0 [some (.ref 14)] [] M := by
  unfold fX2_supposeNothing_0 at h
  refine go_rn 2 (pc' := 2) (L' := [some (.ref 14)]) (S' := [.int (0 : Int32), .ref 14]) (M' := M) okX2_supposeNothing rfl ?_
  refine go_ck okX2_supposeNothing rfl (gOb_c rfl) ?_
  refine go_rn 2 (pc' := 7) (L' := [some (.ref 14)]) (S' := [.int (0 : Int32), .ref 14]) (M' := (gSI M 14 0 (0 : Int32))) okX2_supposeNothing rfl ?_
  exact go_wk (CX2_supposeNothing_7 hd (0 : Int32) (gSI M 14 0 (0 : Int32)) P k0 h) ⟨rfl, True.intro⟩
def fX2_supposeNothing (M : gMem) : Option (gMem) := fX2_supposeNothing_0 M
theorem SX2_supposeNothing {G : gG} (M : gMem) {N : gMem} (h : fX2_supposeNothing M = some N) : gRun G YX2_supposeNothing 0 [.ref 14] M (fun r' N' => r' = none ∧ N' = N) := gRun_in (by decide +kernel) rfl (fun d hd => go_wk (CX2_supposeNothing_0 hd M (fun p => p = N) (fun N hh => ⟨rfl, hh⟩) (gq_of h)) ⟨rfl, True.intro⟩)
def fX2_tiedTo_4 (x0 : Nat) (x1 : Int32) (x2 : Int32) (x3 : Int32) (M : gMem) : Option (Sum (Int32 × Int32) (Int32)) :=
  if gAl x0 = true then if (nI (gSh x0).2) ≤ x3 then some (.inr x2) else gB0 (fX8_has x1 x3 M) (fun r2 => if r2 = 0 then some (.inl (x2, (x3 + 1))) else if gIx 1 x0 x3 = true then some (.inl ((x2 ||| (M.1 x0 (Int32.toNatClampNeg x3))), (x3 + 1))) else none) else none
set_option maxRecDepth 100000 in
theorem CX2_tiedTo_4 {G : gG} {d : Nat} {Z : Option Value → gMem → Prop} (hd : 1 ≤ d) (x0 : Nat) (x1 : Int32) (x2 : Int32) (x3 : Int32) (M : gMem) (P : Sum (Int32 × Int32) (Int32) → Prop) (k0 : ∀ (r : Int32), P (.inr r) → Z (some (.int r)) M) (k1 : ∀ (x2 : Int32) (x3 : Int32), P (.inl (x2, x3)) → gGo G YX2_tiedTo d Z 4 [some (.ref x0), some (.int x1), some (.int x2), some (.int x3)] [] M) (h : gOKq (fX2_tiedTo_4 x0 x1 x2 x3 M) P) : gGo G YX2_tiedTo d Z 4 [some (.ref x0), some (.int x1), some (.int x2), some (.int x3)] [] M := by
  unfold fX2_tiedTo_4 at h
  refine go_rn 2 (pc' := 6) (L' := [some (.ref x0), some (.int x1), some (.int x2), some (.int x3)]) (S' := [.ref x0, .int x3]) (M' := M) okX2_tiedTo rfl ?_
  obtain ⟨c1, h⟩ := gq_if h
  refine go_ck okX2_tiedTo rfl c1 ?_
  refine go_br okX2_tiedTo rfl (fun hp => ?_) (fun hp => ?_)
  · have h := gq_pos hp h
    refine go_rn 1 (pc' := 31) (L' := [some (.ref x0), some (.int x1), some (.int x2), some (.int x3)]) (S' := [.int x2]) (M' := M) okX2_tiedTo rfl ?_
    exact go_iret (reX2_tiedTo _ (by decide)) rfl (k0 x2 h)
  · have h := gq_neg hp h
    refine go_rn 2 (pc' := 12) (L' := [some (.ref x0), some (.int x1), some (.int x2), some (.int x3)]) (S' := [.int x3, .int x1]) (M' := M) okX2_tiedTo rfl ?_
    obtain ⟨r2, e3, h⟩ := gB0_ok h
    refine go_call1 ocX2_tiedTo rfl rfl rfl rfl (SX8_has x1 x3 M e3) (Nat.lt_of_lt_of_le (by decide) hd) ?_
    refine go_br okX2_tiedTo rfl (fun hp => ?_) (fun hp => ?_)
    · have h := gq_pos hp h
      refine go_rn 2 (pc' := 4) (L' := [some (.ref x0), some (.int x1), some (.int x2), some (.int (x3 + 1))]) (S' := []) (M' := M) okX2_tiedTo rfl ?_
      exact go_wk (k1 (x2) ((x3 + 1)) h) ⟨rfl, rfl, rfl, rfl, True.intro⟩
    · have h := gq_neg hp h
      refine go_rn 3 (pc' := 21) (L' := [some (.ref x0), some (.int x1), some (.int x2), some (.int x3)]) (S' := [.int x3, .ref x0, .int x2]) (M' := M) okX2_tiedTo rfl ?_
      obtain ⟨c4, h⟩ := gq_if h
      refine go_ck okX2_tiedTo rfl c4 ?_
      refine go_rn 4 (pc' := 4) (L' := [some (.ref x0), some (.int x1), some (.int (x2 ||| (M.1 x0 (Int32.toNatClampNeg x3)))), some (.int (x3 + 1))]) (S' := []) (M' := M) okX2_tiedTo rfl ?_
      exact go_wk (k1 ((x2 ||| (M.1 x0 (Int32.toNatClampNeg x3)))) ((x3 + 1)) h) ⟨rfl, rfl, rfl, rfl, True.intro⟩
def fX2_tiedTo_4h (x0 : Nat) (x1 : Int32) (x2 : Int32) (x3 : Int32) (M : gMem) : Option (Int32) :=
  gLp (fun s : Int32 × Int32 => fX2_tiedTo_4 x0 x1 (s.1) (s.2) M) gFu (x2, x3)
set_option maxRecDepth 100000 in
theorem CX2_tiedTo_4h {G : gG} {d : Nat} {Z : Option Value → gMem → Prop} (hd : 1 ≤ d) (x0 : Nat) (x1 : Int32) (x2 : Int32) (x3 : Int32) (M : gMem) (P : Int32 → Prop) (k0 : ∀ (r : Int32), P r → Z (some (.int r)) M) (h : gOKq (fX2_tiedTo_4h x0 x1 x2 x3 M) P) : gGo G YX2_tiedTo d Z 4 [some (.ref x0), some (.int x1), some (.int x2), some (.int x3)] [] M :=
  gLp_go (K := fun s : Int32 × Int32 => gGo G YX2_tiedTo d Z 4 [some (.ref x0), some (.int x1), some (.int s.1), some (.int s.2)] [] M) (P := P) (fun s hs => CX2_tiedTo_4 hd (x0) (x1) (s.1) (s.2) M (Sum.elim (fun s : Int32 × Int32 => gGo G YX2_tiedTo d Z 4 [some (.ref x0), some (.int x1), some (.int s.1), some (.int s.2)] [] M) P) k0 (fun x2 x3 hh => hh) hs) gFu (x2, x3) h
def fX2_tiedTo_0 (x0 : Nat) (x1 : Int32) (M : gMem) : Option (Int32) :=
  fX2_tiedTo_4h x0 x1 (0 : Int32) (0 : Int32) M
set_option maxRecDepth 100000 in
theorem CX2_tiedTo_0 {G : gG} {d : Nat} {Z : Option Value → gMem → Prop} (hd : 1 ≤ d) (x0 : Nat) (x1 : Int32) (M : gMem) (P : Int32 → Prop) (k0 : ∀ (r : Int32), P r → Z (some (.int r)) M) (h : gOKq (fX2_tiedTo_0 x0 x1 M) P) : gGo G YX2_tiedTo d Z 0 [some (.ref x0), some (.int x1), none, none] [] M := by
  unfold fX2_tiedTo_0 at h
  refine go_rn 4 (pc' := 4) (L' := [some (.ref x0), some (.int x1), some (.int (0 : Int32)), some (.int (0 : Int32))]) (S' := []) (M' := M) okX2_tiedTo rfl ?_
  exact go_wk (CX2_tiedTo_4h hd x0 x1 (0 : Int32) (0 : Int32) M P k0 h) ⟨rfl, rfl, rfl, rfl, True.intro⟩
def fX2_tiedTo (a0 : Nat) (a1 : Int32) (M : gMem) : Option (Int32) := fX2_tiedTo_0 a0 a1 M
theorem SX2_tiedTo {G : gG} (a0 : Nat) (a1 : Int32) (M : gMem) {r : Int32} (h : fX2_tiedTo a0 a1 M = some r) : gRun G YX2_tiedTo 1 [.ref a0, .int a1] M (fun r' N' => r' = some (.int r) ∧ N' = M) := gRun_in (by decide +kernel) rfl (fun d hd => go_wk (CX2_tiedTo_0 hd a0 a1 M (fun p => p = r) (fun r hh => ⟨congrArg (fun z => some (Value.int z)) hh, rfl⟩) (gq_of h)) ⟨rfl, rfl, True.intro⟩)
def fX2_catching_34 (x1 : Nat) (x2 : Int32) (x3 : Int32) (x4 : Int32) (M : gMem) : Option (Sum (Int32 × Int32) (Int32)) :=
  if (M.1 x1 8) ≤ x4 then some (.inr x3) else if gIx 1 (x1 + 9) x4 = true then if (M.1 (x1 + 9) (Int32.toNatClampNeg x4)) = x2 then if gIx 1 (x1 + 8) x4 = true then some (.inl ((x3 ||| ((1 : Int32) <<< ((M.1 (x1 + 8) (Int32.toNatClampNeg x4)) &&& 31))), (x4 + 1))) else none else some (.inl (x3, (x4 + 1))) else none
set_option maxRecDepth 100000 in
theorem CX2_catching_34 {G : gG} {d : Nat} {Z : Option Value → gMem → Prop} (hd : 2 ≤ d) (x1 : Nat) (x2 : Int32) (x3 : Int32) (x4 : Int32) (M : gMem) (o_x1 : gOb 7 x1 = true) (P : Sum (Int32 × Int32) (Int32) → Prop) (k0 : ∀ (r : Int32), P (.inr r) → Z (some (.int r)) M) (k1 : ∀ (x3 : Int32) (x4 : Int32), P (.inl (x3, x4)) → gGo G YX2_catching d Z 34 [none, some (.ref x1), some (.int x2), some (.int x3), some (.int x4)] [] M) (h : gOKq (fX2_catching_34 x1 x2 x3 x4 M) P) : gGo G YX2_catching d Z 34 [none, some (.ref x1), some (.int x2), some (.int x3), some (.int x4)] [] M := by
  unfold fX2_catching_34 at h
  refine go_rn 2 (pc' := 37) (L' := [none, some (.ref x1), some (.int x2), some (.int x3), some (.int x4)]) (S' := [.ref x1, .int x4]) (M' := M) okX2_catching rfl ?_
  refine go_ck okX2_catching rfl o_x1 ?_
  refine go_br okX2_catching rfl (fun hp => ?_) (fun hp => ?_)
  · have h := gq_pos hp h
    refine go_rn 1 (pc' := 73) (L' := [none, some (.ref x1), some (.int x2), some (.int x3), some (.int x4)]) (S' := [.int x3]) (M' := M) okX2_catching rfl ?_
    exact go_iret (reX2_catching _ (by decide)) rfl (k0 x3 h)
  · have h := gq_neg hp h
    refine go_rn 1 (pc' := 44) (L' := [none, some (.ref x1), some (.int x2), some (.int x3), some (.int x4)]) (S' := [.ref x1]) (M' := M) okX2_catching rfl ?_
    refine go_ck okX2_catching rfl o_x1 ?_
    refine go_rn 1 (pc' := 49) (L' := [none, some (.ref x1), some (.int x2), some (.int x3), some (.int x4)]) (S' := [.int x4, .ref (x1 + 9)]) (M' := M) okX2_catching rfl ?_
    obtain ⟨c1, h⟩ := gq_if h
    refine go_ck okX2_catching rfl c1 ?_
    refine go_rn 1 (pc' := 51) (L' := [none, some (.ref x1), some (.int x2), some (.int x3), some (.int x4)]) (S' := [.int x2, .int (M.1 (x1 + 9) (Int32.toNatClampNeg x4))]) (M' := M) okX2_catching rfl ?_
    refine go_br okX2_catching rfl (fun hp => ?_) (fun hp => ?_)
    · have h := gq_pos hp h
      refine go_rn 3 (pc' := 57) (L' := [none, some (.ref x1), some (.int x2), some (.int x3), some (.int x4)]) (S' := [.ref x1, .int (1 : Int32), .int x3]) (M' := M) okX2_catching rfl ?_
      refine go_ck okX2_catching rfl o_x1 ?_
      refine go_rn 1 (pc' := 62) (L' := [none, some (.ref x1), some (.int x2), some (.int x3), some (.int x4)]) (S' := [.int x4, .ref (x1 + 8), .int (1 : Int32), .int x3]) (M' := M) okX2_catching rfl ?_
      obtain ⟨c2, h⟩ := gq_if h
      refine go_ck okX2_catching rfl c2 ?_
      refine go_rn 5 (pc' := 34) (L' := [none, some (.ref x1), some (.int x2), some (.int (x3 ||| ((1 : Int32) <<< ((M.1 (x1 + 8) (Int32.toNatClampNeg x4)) &&& 31)))), some (.int (x4 + 1))]) (S' := []) (M' := M) okX2_catching rfl ?_
      exact go_wk (k1 ((x3 ||| ((1 : Int32) <<< ((M.1 (x1 + 8) (Int32.toNatClampNeg x4)) &&& 31)))) ((x4 + 1)) h) ⟨rfl, rfl, rfl, rfl, True.intro⟩
    · have h := gq_neg hp h
      refine go_rn 2 (pc' := 34) (L' := [none, some (.ref x1), some (.int x2), some (.int x3), some (.int (x4 + 1))]) (S' := []) (M' := M) okX2_catching rfl ?_
      exact go_wk (k1 (x3) ((x4 + 1)) h) ⟨rfl, rfl, rfl, rfl, True.intro⟩
def fX2_catching_34h (x1 : Nat) (x2 : Int32) (x3 : Int32) (x4 : Int32) (M : gMem) : Option (Int32) :=
  gLp (fun s : Int32 × Int32 => fX2_catching_34 x1 x2 (s.1) (s.2) M) gFu (x3, x4)
set_option maxRecDepth 100000 in
theorem CX2_catching_34h {G : gG} {d : Nat} {Z : Option Value → gMem → Prop} (hd : 2 ≤ d) (x1 : Nat) (x2 : Int32) (x3 : Int32) (x4 : Int32) (M : gMem) (o_x1 : gOb 7 x1 = true) (P : Int32 → Prop) (k0 : ∀ (r : Int32), P r → Z (some (.int r)) M) (h : gOKq (fX2_catching_34h x1 x2 x3 x4 M) P) : gGo G YX2_catching d Z 34 [none, some (.ref x1), some (.int x2), some (.int x3), some (.int x4)] [] M :=
  gLp_go (K := fun s : Int32 × Int32 => gGo G YX2_catching d Z 34 [none, some (.ref x1), some (.int x2), some (.int s.1), some (.int s.2)] [] M) (P := P) (fun s hs => CX2_catching_34 hd (x1) (x2) (s.1) (s.2) M o_x1 (Sum.elim (fun s : Int32 × Int32 => gGo G YX2_catching d Z 34 [none, some (.ref x1), some (.int x2), some (.int s.1), some (.int s.2)] [] M) P) k0 (fun x3 x4 hh => hh) hs) gFu (x3, x4) h
def fX2_catching_30 (x1 : Nat) (x2 : Int32) (s0 : Int32) (M : gMem) : Option (Int32) :=
  fX2_catching_34h x1 x2 s0 (0 : Int32) M
set_option maxRecDepth 100000 in
theorem CX2_catching_30 {G : gG} {d : Nat} {Z : Option Value → gMem → Prop} (hd : 2 ≤ d) (x1 : Nat) (x2 : Int32) (s0 : Int32) (M : gMem) (o_x1 : gOb 7 x1 = true) (P : Int32 → Prop) (k0 : ∀ (r : Int32), P r → Z (some (.int r)) M) (h : gOKq (fX2_catching_30 x1 x2 s0 M) P) : gGo G YX2_catching d Z 30 [none, some (.ref x1), some (.int x2), none, none] [.int s0] M := by
  unfold fX2_catching_30 at h
  refine go_rn 3 (pc' := 34) (L' := [none, some (.ref x1), some (.int x2), some (.int s0), some (.int (0 : Int32))]) (S' := []) (M' := M) okX2_catching rfl ?_
  exact go_wk (CX2_catching_34h hd x1 x2 s0 (0 : Int32) M o_x1 P k0 h) ⟨rfl, rfl, rfl, rfl, True.intro⟩
def fX2_catching_0 (x1 : Nat) (x2 : Int32) (M : gMem) : Option (Int32) :=
  if x2 = 0 then fX2_catching_30 x1 x2 (M.1 14 3) M else if gIx 7 35 (x2 - (1 : Int32)) = true then if gIx 1 21 (x2 - (1 : Int32)) = true then gB0 (fX2_tiedTo (gRa 35 (Int32.toNatClampNeg (x2 - (1 : Int32)))) (M.1 21 (Int32.toNatClampNeg (x2 - (1 : Int32)))) M) (fun r3 => fX2_catching_30 x1 x2 r3 M) else none else none
set_option maxRecDepth 100000 in
theorem CX2_catching_0 {G : gG} {d : Nat} {Z : Option Value → gMem → Prop} (hd : 2 ≤ d) (x1 : Nat) (x2 : Int32) (M : gMem) (o_x1 : gOb 7 x1 = true) (P : Int32 → Prop) (k0 : ∀ (r : Int32), P r → Z (some (.int r)) M) (h : gOKq (fX2_catching_0 x1 x2 M) P) : gGo G YX2_catching d Z 0 [some (.ref 14), some (.ref x1), some (.int x2), none, none] [] M := by
  unfold fX2_catching_0 at h
  refine go_rn 1 (pc' := 1) (L' := [some (.ref 14), some (.ref x1), some (.int x2), none, none]) (S' := [.int x2]) (M' := M) okX2_catching rfl ?_
  refine go_br okX2_catching rfl (fun hp => ?_) (fun hp => ?_)
  · have h := gq_pos hp h
    refine go_rn 1 (pc' := 5) (L' := [some (.ref 14), some (.ref x1), some (.int x2), none, none]) (S' := [.ref 14]) (M' := M) okX2_catching rfl ?_
    refine go_ck okX2_catching rfl (gOb_c rfl) ?_
    refine go_rn 1 (pc' := 30) (L' := [some (.ref 14), some (.ref x1), some (.int x2), none, none]) (S' := [.int (M.1 14 3)]) (M' := M) okX2_catching rfl ?_
    exact go_wk (CX2_catching_30 hd x1 x2 (M.1 14 3) M o_x1 P k0 h) ⟨rfl, rfl, True.intro⟩
  · have h := gq_neg hp h
    refine go_rn 1 (pc' := 12) (L' := [some (.ref 14), some (.ref x1), some (.int x2), none, none]) (S' := [.ref 14]) (M' := M) okX2_catching rfl ?_
    refine go_ck okX2_catching rfl (gOb_c rfl) ?_
    refine go_rn 3 (pc' := 18) (L' := [some (.ref 14), some (.ref x1), some (.int x2), none, none]) (S' := [.int (x2 - (1 : Int32)), .ref 35]) (M' := M) okX2_catching rfl ?_
    obtain ⟨c1, h⟩ := gq_if h
    refine go_ck okX2_catching rfl c1 ?_
    refine go_rn 1 (pc' := 20) (L' := [some (.ref 14), some (.ref x1), some (.int x2), none, none]) (S' := [.ref 14, .ref (gRa 35 (Int32.toNatClampNeg (x2 - (1 : Int32))))]) (M' := M) okX2_catching rfl ?_
    refine go_ck okX2_catching rfl (gOb_c rfl) ?_
    refine go_rn 3 (pc' := 26) (L' := [some (.ref 14), some (.ref x1), some (.int x2), none, none]) (S' := [.int (x2 - (1 : Int32)), .ref 21, .ref (gRa 35 (Int32.toNatClampNeg (x2 - (1 : Int32))))]) (M' := M) okX2_catching rfl ?_
    obtain ⟨c2, h⟩ := gq_if h
    refine go_ck okX2_catching rfl c2 ?_
    obtain ⟨r3, e4, h⟩ := gB0_ok h
    refine go_call1 ocX2_catching rfl rfl rfl rfl (SX2_tiedTo (gRa 35 (Int32.toNatClampNeg (x2 - (1 : Int32)))) (M.1 21 (Int32.toNatClampNeg (x2 - (1 : Int32)))) M e4) (Nat.lt_of_lt_of_le (by decide) hd) ?_
    exact go_wk (CX2_catching_30 hd x1 x2 r3 M o_x1 P k0 h) ⟨rfl, rfl, True.intro⟩
def fX2_catching (a1 : Nat) (a2 : Int32) (M : gMem) : Option (Int32) := fX2_catching_0 a1 a2 M
theorem SX2_catching {G : gG} (a1 : Nat) (a2 : Int32) (M : gMem) (o_a1 : gOb 7 a1 = true) {r : Int32} (h : fX2_catching a1 a2 M = some r) : gRun G YX2_catching 2 [.ref 14, .ref a1, .int a2] M (fun r' N' => r' = some (.int r) ∧ N' = M) := gRun_in (by decide +kernel) rfl (fun d hd => go_wk (CX2_catching_0 hd a1 a2 M o_a1 (fun p => p = r) (fun r hh => ⟨congrArg (fun z => some (Value.int z)) hh, rfl⟩) (gq_of h)) ⟨rfl, rfl, rfl, True.intro⟩)
def fX8_allOf_0 (x0 : Int32) (M : gMem) : Option (Int32) :=
  some (((1 : Int32) <<< (x0 &&& 31)) - (1 : Int32))
set_option maxRecDepth 100000 in
theorem CX8_allOf_0 {G : gG} {d : Nat} {Z : Option Value → gMem → Prop} (hd : 0 ≤ d) (x0 : Int32) (M : gMem) (P : Int32 → Prop) (k0 : ∀ (r : Int32), P r → Z (some (.int r)) M) (h : gOKq (fX8_allOf_0 x0 M) P) : gGo G YX8_allOf d Z 0 [some (.int x0)] [] M := by
  unfold fX8_allOf_0 at h
  refine go_rn 5 (pc' := 5) (L' := [some (.int x0)]) (S' := [.int (((1 : Int32) <<< (x0 &&& 31)) - (1 : Int32))]) (M' := M) okX8_allOf rfl ?_
  exact go_iret (reX8_allOf _ (by decide)) rfl (k0 (((1 : Int32) <<< (x0 &&& 31)) - (1 : Int32)) h)
def fX8_allOf (a0 : Int32) (M : gMem) : Option (Int32) := fX8_allOf_0 a0 M
theorem SX8_allOf {G : gG} (a0 : Int32) (M : gMem) {r : Int32} (h : fX8_allOf a0 M = some r) : gRun G YX8_allOf 0 [.int a0] M (fun r' N' => r' = some (.int r) ∧ N' = M) := gRun_in (by decide +kernel) rfl (fun d hd => go_wk (CX8_allOf_0 hd a0 M (fun p => p = r) (fun r hh => ⟨congrArg (fun z => some (Value.int z)) hh, rfl⟩) (gq_of h)) ⟨rfl, True.intro⟩)
def fX2_isFirstOfFirm_0 (x1 : Int32) (x2 : Int32) (M : gMem) : Option (Int32) :=
  if gIx 7 48 x2 = true then if gIx 1 (gRa 48 (Int32.toNatClampNeg x2)) x1 = true then if (M.1 (gRa 48 (Int32.toNatClampNeg x2)) (Int32.toNatClampNeg x1)) = 0 then some (0 : Int32) else gB0 (fX8_allOf x1 M) (fun r3 => if ((M.1 (gRa 48 (Int32.toNatClampNeg x2)) (Int32.toNatClampNeg x1)) &&& r3) = 0 then some (1 : Int32) else some (0 : Int32)) else none else none
set_option maxRecDepth 100000 in
theorem CX2_isFirstOfFirm_0 {G : gG} {d : Nat} {Z : Option Value → gMem → Prop} (hd : 1 ≤ d) (x1 : Int32) (x2 : Int32) (M : gMem) (P : Int32 → Prop) (k0 : ∀ (r : Int32), P r → Z (some (.int r)) M) (h : gOKq (fX2_isFirstOfFirm_0 x1 x2 M) P) : gGo G YX2_isFirstOfFirm d Z 0 [some (.ref 14), some (.int x1), some (.int x2), none] [] M := by
  unfold fX2_isFirstOfFirm_0 at h
  refine go_rn 1 (pc' := 1) (L' := [some (.ref 14), some (.int x1), some (.int x2), none]) (S' := [.ref 14]) (M' := M) okX2_isFirstOfFirm rfl ?_
  refine go_ck okX2_isFirstOfFirm rfl (gOb_c rfl) ?_
  refine go_rn 1 (pc' := 5) (L' := [some (.ref 14), some (.int x1), some (.int x2), none]) (S' := [.int x2, .ref 48]) (M' := M) okX2_isFirstOfFirm rfl ?_
  obtain ⟨c1, h⟩ := gq_if h
  refine go_ck okX2_isFirstOfFirm rfl c1 ?_
  refine go_rn 1 (pc' := 7) (L' := [some (.ref 14), some (.int x1), some (.int x2), none]) (S' := [.int x1, .ref (gRa 48 (Int32.toNatClampNeg x2))]) (M' := M) okX2_isFirstOfFirm rfl ?_
  obtain ⟨c2, h⟩ := gq_if h
  refine go_ck okX2_isFirstOfFirm rfl c2 ?_
  refine go_rn 2 (pc' := 10) (L' := [some (.ref 14), some (.int x1), some (.int x2), some (.int (M.1 (gRa 48 (Int32.toNatClampNeg x2)) (Int32.toNatClampNeg x1)))]) (S' := [.int (M.1 (gRa 48 (Int32.toNatClampNeg x2)) (Int32.toNatClampNeg x1))]) (M' := M) okX2_isFirstOfFirm rfl ?_
  refine go_br okX2_isFirstOfFirm rfl (fun hp => ?_) (fun hp => ?_)
  · have h := gq_pos hp h
    refine go_rn 1 (pc' := 27) (L' := [some (.ref 14), some (.int x1), some (.int x2), some (.int (M.1 (gRa 48 (Int32.toNatClampNeg x2)) (Int32.toNatClampNeg x1)))]) (S' := [.int (0 : Int32)]) (M' := M) okX2_isFirstOfFirm rfl ?_
    exact go_zret (reX2_isFirstOfFirm _ (by decide)) rfl (Or.inl rfl) (k0 (0 : Int32) h)
  · have h := gq_neg hp h
    refine go_rn 2 (pc' := 15) (L' := [some (.ref 14), some (.int x1), some (.int x2), some (.int (M.1 (gRa 48 (Int32.toNatClampNeg x2)) (Int32.toNatClampNeg x1)))]) (S' := [.int x1, .int (M.1 (gRa 48 (Int32.toNatClampNeg x2)) (Int32.toNatClampNeg x1))]) (M' := M) okX2_isFirstOfFirm rfl ?_
    obtain ⟨r3, e4, h⟩ := gB0_ok h
    refine go_call1 ocX2_isFirstOfFirm rfl rfl rfl rfl (SX8_allOf x1 M e4) (Nat.lt_of_lt_of_le (by decide) hd) ?_
    refine go_rn 1 (pc' := 19) (L' := [some (.ref 14), some (.int x1), some (.int x2), some (.int (M.1 (gRa 48 (Int32.toNatClampNeg x2)) (Int32.toNatClampNeg x1)))]) (S' := [.int ((M.1 (gRa 48 (Int32.toNatClampNeg x2)) (Int32.toNatClampNeg x1)) &&& r3)]) (M' := M) okX2_isFirstOfFirm rfl ?_
    refine go_br okX2_isFirstOfFirm rfl (fun hp => ?_) (fun hp => ?_)
    · have h := gq_pos hp h
      refine go_rn 2 (pc' := 27) (L' := [some (.ref 14), some (.int x1), some (.int x2), some (.int (M.1 (gRa 48 (Int32.toNatClampNeg x2)) (Int32.toNatClampNeg x1)))]) (S' := [.int (1 : Int32)]) (M' := M) okX2_isFirstOfFirm rfl ?_
      exact go_zret (reX2_isFirstOfFirm _ (by decide)) rfl (Or.inr rfl) (k0 (1 : Int32) h)
    · have h := gq_neg hp h
      refine go_rn 1 (pc' := 27) (L' := [some (.ref 14), some (.int x1), some (.int x2), some (.int (M.1 (gRa 48 (Int32.toNatClampNeg x2)) (Int32.toNatClampNeg x1)))]) (S' := [.int (0 : Int32)]) (M' := M) okX2_isFirstOfFirm rfl ?_
      exact go_zret (reX2_isFirstOfFirm _ (by decide)) rfl (Or.inl rfl) (k0 (0 : Int32) h)
def fX2_isFirstOfFirm (a1 : Int32) (a2 : Int32) (M : gMem) : Option (Int32) := fX2_isFirstOfFirm_0 a1 a2 M
theorem SX2_isFirstOfFirm {G : gG} (a1 : Int32) (a2 : Int32) (M : gMem) {r : Int32} (h : fX2_isFirstOfFirm a1 a2 M = some r) : gRun G YX2_isFirstOfFirm 1 [.ref 14, .int a1, .int a2] M (fun r' N' => r' = some (.int r) ∧ N' = M) := gRun_in (by decide +kernel) rfl (fun d hd => go_wk (CX2_isFirstOfFirm_0 hd a1 a2 M (fun p => p = r) (fun r hh => ⟨congrArg (fun z => some (Value.int z)) hh, rfl⟩) (gq_of h)) ⟨rfl, rfl, rfl, True.intro⟩)
def fX2_worthOf_5 (x1 : Int32) (x2 : Int32) (x3 : Int32) (x4 : Int32) (M : gMem) : Option (Sum (Int32 × Int32) (Int32)) :=
  if (6 : Int32) ≤ x4 then some (.inr x3) else gB0 (fX8_has x1 x4 M) (fun r1 => if r1 = 0 then some (.inl (x3, (x4 + 1))) else if gIx 7 22 x2 = true then if gIx 1 (gRa 22 (Int32.toNatClampNeg x2)) x4 = true then some (.inl ((x3 + (M.1 (gRa 22 (Int32.toNatClampNeg x2)) (Int32.toNatClampNeg x4))), (x4 + 1))) else none else none)
set_option maxRecDepth 100000 in
theorem CX2_worthOf_5 {G : gG} {d : Nat} {Z : Option Value → gMem → Prop} (hd : 1 ≤ d) (x1 : Int32) (x2 : Int32) (x3 : Int32) (x4 : Int32) (M : gMem) (P : Sum (Int32 × Int32) (Int32) → Prop) (k0 : ∀ (r : Int32), P (.inr r) → Z (some (.int r)) M) (k1 : ∀ (x3 : Int32) (x4 : Int32), P (.inl (x3, x4)) → gGo G YX2_worthOf d Z 5 [some (.ref 14), some (.int x1), some (.int x2), some (.int x3), some (.int x4)] [] M) (h : gOKq (fX2_worthOf_5 x1 x2 x3 x4 M) P) : gGo G YX2_worthOf d Z 5 [some (.ref 14), some (.int x1), some (.int x2), some (.int x3), some (.int x4)] [] M := by
  unfold fX2_worthOf_5 at h
  refine go_rn 2 (pc' := 9) (L' := [some (.ref 14), some (.int x1), some (.int x2), some (.int x3), some (.int x4)]) (S' := [.int (6 : Int32), .int x4]) (M' := M) okX2_worthOf rfl ?_
  refine go_br okX2_worthOf rfl (fun hp => ?_) (fun hp => ?_)
  · have h := gq_pos hp h
    refine go_rn 1 (pc' := 40) (L' := [some (.ref 14), some (.int x1), some (.int x2), some (.int x3), some (.int x4)]) (S' := [.int x3]) (M' := M) okX2_worthOf rfl ?_
    exact go_iret (reX2_worthOf _ (by decide)) rfl (k0 x3 h)
  · have h := gq_neg hp h
    refine go_rn 2 (pc' := 15) (L' := [some (.ref 14), some (.int x1), some (.int x2), some (.int x3), some (.int x4)]) (S' := [.int x4, .int x1]) (M' := M) okX2_worthOf rfl ?_
    obtain ⟨r1, e2, h⟩ := gB0_ok h
    refine go_call1 ocX2_worthOf rfl rfl rfl rfl (SX8_has x1 x4 M e2) (Nat.lt_of_lt_of_le (by decide) hd) ?_
    refine go_br okX2_worthOf rfl (fun hp => ?_) (fun hp => ?_)
    · have h := gq_pos hp h
      refine go_rn 2 (pc' := 5) (L' := [some (.ref 14), some (.int x1), some (.int x2), some (.int x3), some (.int (x4 + 1))]) (S' := []) (M' := M) okX2_worthOf rfl ?_
      exact go_wk (k1 (x3) ((x4 + 1)) h) ⟨rfl, rfl, rfl, rfl, rfl, True.intro⟩
    · have h := gq_neg hp h
      refine go_rn 2 (pc' := 23) (L' := [some (.ref 14), some (.int x1), some (.int x2), some (.int x3), some (.int x4)]) (S' := [.ref 14, .int x3]) (M' := M) okX2_worthOf rfl ?_
      refine go_ck okX2_worthOf rfl (gOb_c rfl) ?_
      refine go_rn 1 (pc' := 27) (L' := [some (.ref 14), some (.int x1), some (.int x2), some (.int x3), some (.int x4)]) (S' := [.int x2, .ref 22, .int x3]) (M' := M) okX2_worthOf rfl ?_
      obtain ⟨c3, h⟩ := gq_if h
      refine go_ck okX2_worthOf rfl c3 ?_
      refine go_rn 1 (pc' := 30) (L' := [some (.ref 14), some (.int x1), some (.int x2), some (.int x3), some (.int x4)]) (S' := [.int x4, .ref (gRa 22 (Int32.toNatClampNeg x2)), .int x3]) (M' := M) okX2_worthOf rfl ?_
      obtain ⟨c4, h⟩ := gq_if h
      refine go_ck okX2_worthOf rfl c4 ?_
      refine go_rn 4 (pc' := 5) (L' := [some (.ref 14), some (.int x1), some (.int x2), some (.int (x3 + (M.1 (gRa 22 (Int32.toNatClampNeg x2)) (Int32.toNatClampNeg x4)))), some (.int (x4 + 1))]) (S' := []) (M' := M) okX2_worthOf rfl ?_
      exact go_wk (k1 ((x3 + (M.1 (gRa 22 (Int32.toNatClampNeg x2)) (Int32.toNatClampNeg x4)))) ((x4 + 1)) h) ⟨rfl, rfl, rfl, rfl, rfl, True.intro⟩
def fX2_worthOf_5h (x1 : Int32) (x2 : Int32) (x3 : Int32) (x4 : Int32) (M : gMem) : Option (Int32) :=
  gLp (fun s : Int32 × Int32 => fX2_worthOf_5 x1 x2 (s.1) (s.2) M) gFu (x3, x4)
set_option maxRecDepth 100000 in
theorem CX2_worthOf_5h {G : gG} {d : Nat} {Z : Option Value → gMem → Prop} (hd : 1 ≤ d) (x1 : Int32) (x2 : Int32) (x3 : Int32) (x4 : Int32) (M : gMem) (P : Int32 → Prop) (k0 : ∀ (r : Int32), P r → Z (some (.int r)) M) (h : gOKq (fX2_worthOf_5h x1 x2 x3 x4 M) P) : gGo G YX2_worthOf d Z 5 [some (.ref 14), some (.int x1), some (.int x2), some (.int x3), some (.int x4)] [] M :=
  gLp_go (K := fun s : Int32 × Int32 => gGo G YX2_worthOf d Z 5 [some (.ref 14), some (.int x1), some (.int x2), some (.int s.1), some (.int s.2)] [] M) (P := P) (fun s hs => CX2_worthOf_5 hd (x1) (x2) (s.1) (s.2) M (Sum.elim (fun s : Int32 × Int32 => gGo G YX2_worthOf d Z 5 [some (.ref 14), some (.int x1), some (.int x2), some (.int s.1), some (.int s.2)] [] M) P) k0 (fun x3 x4 hh => hh) hs) gFu (x3, x4) h
def fX2_worthOf_0 (x1 : Int32) (x2 : Int32) (M : gMem) : Option (Int32) :=
  fX2_worthOf_5h x1 x2 (0 : Int32) (0 : Int32) M
set_option maxRecDepth 100000 in
theorem CX2_worthOf_0 {G : gG} {d : Nat} {Z : Option Value → gMem → Prop} (hd : 1 ≤ d) (x1 : Int32) (x2 : Int32) (M : gMem) (P : Int32 → Prop) (k0 : ∀ (r : Int32), P r → Z (some (.int r)) M) (h : gOKq (fX2_worthOf_0 x1 x2 M) P) : gGo G YX2_worthOf d Z 0 [some (.ref 14), some (.int x1), some (.int x2), none, none] [] M := by
  unfold fX2_worthOf_0 at h
  refine go_rn 4 (pc' := 5) (L' := [some (.ref 14), some (.int x1), some (.int x2), some (.int (0 : Int32)), some (.int (0 : Int32))]) (S' := []) (M' := M) okX2_worthOf rfl ?_
  exact go_wk (CX2_worthOf_5h hd x1 x2 (0 : Int32) (0 : Int32) M P k0 h) ⟨rfl, rfl, rfl, rfl, rfl, True.intro⟩
def fX2_worthOf (a1 : Int32) (a2 : Int32) (M : gMem) : Option (Int32) := fX2_worthOf_0 a1 a2 M
theorem SX2_worthOf {G : gG} (a1 : Int32) (a2 : Int32) (M : gMem) {r : Int32} (h : fX2_worthOf a1 a2 M = some r) : gRun G YX2_worthOf 1 [.ref 14, .int a1, .int a2] M (fun r' N' => r' = some (.int r) ∧ N' = M) := gRun_in (by decide +kernel) rfl (fun d hd => go_wk (CX2_worthOf_0 hd a1 a2 M (fun p => p = r) (fun r hh => ⟨congrArg (fun z => some (Value.int z)) hh, rfl⟩) (gq_of h)) ⟨rfl, rfl, rfl, True.intro⟩)
def fX2_failingIn_5 (x1 : Nat) (x2 : Int32) (x3 : Int32) (x4 : Int32) (M : gMem) : Option (Sum (Int32 × Int32) (Int32)) :=
  if (M.1 x1 5) ≤ x4 then some (.inr x3) else if gIx 7 48 x2 = true then if gIx 1 (gRa 48 (Int32.toNatClampNeg x2)) x4 = true then gB0 (fX2_isFirstOfFirm x4 x2 M) (fun r3 => if r3 = 0 then some (.inl (x3, (x4 + 1))) else gB0 (fX2_worthOf (M.1 (gRa 48 (Int32.toNatClampNeg x2)) (Int32.toNatClampNeg x4)) x2 M) (fun r5 => if 0 ≤ r5 then some (.inl (x3, (x4 + 1))) else some (.inl ((x3 ||| (M.1 (gRa 48 (Int32.toNatClampNeg x2)) (Int32.toNatClampNeg x4))), (x4 + 1))))) else none else none
set_option maxRecDepth 100000 in
theorem CX2_failingIn_5 {G : gG} {d : Nat} {Z : Option Value → gMem → Prop} (hd : 2 ≤ d) (x1 : Nat) (x2 : Int32) (x3 : Int32) (x4 : Int32) (M : gMem) (o_x1 : gOb 7 x1 = true) (P : Sum (Int32 × Int32) (Int32) → Prop) (k0 : ∀ (r : Int32), P (.inr r) → Z (some (.int r)) M) (k1 : ∀ (x3 : Int32) (x4 : Int32), P (.inl (x3, x4)) → gGo G YX2_failingIn d Z 5 [some (.ref 14), some (.ref x1), some (.int x2), some (.int x3), some (.int x4), none] [] M) (h : gOKq (fX2_failingIn_5 x1 x2 x3 x4 M) P) : gGo G YX2_failingIn d Z 5 [some (.ref 14), some (.ref x1), some (.int x2), some (.int x3), some (.int x4), none] [] M := by
  unfold fX2_failingIn_5 at h
  refine go_rn 2 (pc' := 8) (L' := [some (.ref 14), some (.ref x1), some (.int x2), some (.int x3), some (.int x4), none]) (S' := [.ref x1, .int x4]) (M' := M) okX2_failingIn rfl ?_
  refine go_ck okX2_failingIn rfl o_x1 ?_
  refine go_br okX2_failingIn rfl (fun hp => ?_) (fun hp => ?_)
  · have h := gq_pos hp h
    refine go_rn 1 (pc' := 57) (L' := [some (.ref 14), some (.ref x1), some (.int x2), some (.int x3), some (.int x4), none]) (S' := [.int x3]) (M' := M) okX2_failingIn rfl ?_
    exact go_iret (reX2_failingIn _ (by decide)) rfl (k0 x3 h)
  · have h := gq_neg hp h
    refine go_rn 1 (pc' := 15) (L' := [some (.ref 14), some (.ref x1), some (.int x2), some (.int x3), some (.int x4), none]) (S' := [.ref 14]) (M' := M) okX2_failingIn rfl ?_
    refine go_ck okX2_failingIn rfl (gOb_c rfl) ?_
    refine go_rn 1 (pc' := 19) (L' := [some (.ref 14), some (.ref x1), some (.int x2), some (.int x3), some (.int x4), none]) (S' := [.int x2, .ref 48]) (M' := M) okX2_failingIn rfl ?_
    obtain ⟨c1, h⟩ := gq_if h
    refine go_ck okX2_failingIn rfl c1 ?_
    refine go_rn 1 (pc' := 22) (L' := [some (.ref 14), some (.ref x1), some (.int x2), some (.int x3), some (.int x4), none]) (S' := [.int x4, .ref (gRa 48 (Int32.toNatClampNeg x2))]) (M' := M) okX2_failingIn rfl ?_
    obtain ⟨c2, h⟩ := gq_if h
    refine go_ck okX2_failingIn rfl c2 ?_
    refine go_rn 4 (pc' := 29) (L' := [some (.ref 14), some (.ref x1), some (.int x2), some (.int x3), some (.int x4), some (.int (M.1 (gRa 48 (Int32.toNatClampNeg x2)) (Int32.toNatClampNeg x4)))]) (S' := [.int x2, .int x4, .ref 14]) (M' := M) okX2_failingIn rfl ?_
    obtain ⟨r3, e4, h⟩ := gB0_ok h
    refine go_call1 ocX2_failingIn rfl rfl (gOb_c rfl) rfl (SX2_isFirstOfFirm x4 x2 M e4) (Nat.lt_of_lt_of_le (by decide) hd) ?_
    refine go_br okX2_failingIn rfl (fun hp => ?_) (fun hp => ?_)
    · have h := gq_pos hp h
      refine go_rn 2 (pc' := 5) (L' := [some (.ref 14), some (.ref x1), some (.int x2), some (.int x3), some (.int (x4 + 1)), some (.int (M.1 (gRa 48 (Int32.toNatClampNeg x2)) (Int32.toNatClampNeg x4)))]) (S' := []) (M' := M) okX2_failingIn rfl ?_
      exact go_wk (k1 (x3) ((x4 + 1)) h) ⟨rfl, rfl, rfl, rfl, rfl, True.intro⟩
    · have h := gq_neg hp h
      refine go_rn 3 (pc' := 39) (L' := [some (.ref 14), some (.ref x1), some (.int x2), some (.int x3), some (.int x4), some (.int (M.1 (gRa 48 (Int32.toNatClampNeg x2)) (Int32.toNatClampNeg x4)))]) (S' := [.int x2, .int (M.1 (gRa 48 (Int32.toNatClampNeg x2)) (Int32.toNatClampNeg x4)), .ref 14]) (M' := M) okX2_failingIn rfl ?_
      obtain ⟨r5, e6, h⟩ := gB0_ok h
      refine go_call1 ocX2_failingIn rfl rfl (gOb_c rfl) rfl (SX2_worthOf (M.1 (gRa 48 (Int32.toNatClampNeg x2)) (Int32.toNatClampNeg x4)) x2 M e6) (Nat.lt_of_lt_of_le (by decide) hd) ?_
      refine go_br okX2_failingIn rfl (fun hp => ?_) (fun hp => ?_)
      · have h := gq_pos hp h
        refine go_rn 2 (pc' := 5) (L' := [some (.ref 14), some (.ref x1), some (.int x2), some (.int x3), some (.int (x4 + 1)), some (.int (M.1 (gRa 48 (Int32.toNatClampNeg x2)) (Int32.toNatClampNeg x4)))]) (S' := []) (M' := M) okX2_failingIn rfl ?_
        exact go_wk (k1 (x3) ((x4 + 1)) h) ⟨rfl, rfl, rfl, rfl, rfl, True.intro⟩
      · have h := gq_neg hp h
        refine go_rn 6 (pc' := 5) (L' := [some (.ref 14), some (.ref x1), some (.int x2), some (.int (x3 ||| (M.1 (gRa 48 (Int32.toNatClampNeg x2)) (Int32.toNatClampNeg x4)))), some (.int (x4 + 1)), some (.int (M.1 (gRa 48 (Int32.toNatClampNeg x2)) (Int32.toNatClampNeg x4)))]) (S' := []) (M' := M) okX2_failingIn rfl ?_
        exact go_wk (k1 ((x3 ||| (M.1 (gRa 48 (Int32.toNatClampNeg x2)) (Int32.toNatClampNeg x4)))) ((x4 + 1)) h) ⟨rfl, rfl, rfl, rfl, rfl, True.intro⟩
def fX2_failingIn_5h (x1 : Nat) (x2 : Int32) (x3 : Int32) (x4 : Int32) (M : gMem) : Option (Int32) :=
  gLp (fun s : Int32 × Int32 => fX2_failingIn_5 x1 x2 (s.1) (s.2) M) gFu (x3, x4)
set_option maxRecDepth 100000 in
theorem CX2_failingIn_5h {G : gG} {d : Nat} {Z : Option Value → gMem → Prop} (hd : 2 ≤ d) (x1 : Nat) (x2 : Int32) (x3 : Int32) (x4 : Int32) (M : gMem) (o_x1 : gOb 7 x1 = true) (P : Int32 → Prop) (k0 : ∀ (r : Int32), P r → Z (some (.int r)) M) (h : gOKq (fX2_failingIn_5h x1 x2 x3 x4 M) P) : gGo G YX2_failingIn d Z 5 [some (.ref 14), some (.ref x1), some (.int x2), some (.int x3), some (.int x4), none] [] M :=
  gLp_go (K := fun s : Int32 × Int32 => gGo G YX2_failingIn d Z 5 [some (.ref 14), some (.ref x1), some (.int x2), some (.int s.1), some (.int s.2), none] [] M) (P := P) (fun s hs => CX2_failingIn_5 hd (x1) (x2) (s.1) (s.2) M o_x1 (Sum.elim (fun s : Int32 × Int32 => gGo G YX2_failingIn d Z 5 [some (.ref 14), some (.ref x1), some (.int x2), some (.int s.1), some (.int s.2), none] [] M) P) k0 (fun x3 x4 hh => hh) hs) gFu (x3, x4) h
def fX2_failingIn_0 (x1 : Nat) (x2 : Int32) (M : gMem) : Option (Int32) :=
  fX2_failingIn_5h x1 x2 (0 : Int32) (0 : Int32) M
set_option maxRecDepth 100000 in
theorem CX2_failingIn_0 {G : gG} {d : Nat} {Z : Option Value → gMem → Prop} (hd : 2 ≤ d) (x1 : Nat) (x2 : Int32) (M : gMem) (o_x1 : gOb 7 x1 = true) (P : Int32 → Prop) (k0 : ∀ (r : Int32), P r → Z (some (.int r)) M) (h : gOKq (fX2_failingIn_0 x1 x2 M) P) : gGo G YX2_failingIn d Z 0 [some (.ref 14), some (.ref x1), some (.int x2), none, none, none] [] M := by
  unfold fX2_failingIn_0 at h
  refine go_rn 4 (pc' := 5) (L' := [some (.ref 14), some (.ref x1), some (.int x2), some (.int (0 : Int32)), some (.int (0 : Int32)), none]) (S' := []) (M' := M) okX2_failingIn rfl ?_
  exact go_wk (CX2_failingIn_5h hd x1 x2 (0 : Int32) (0 : Int32) M o_x1 P k0 h) ⟨rfl, rfl, rfl, rfl, rfl, True.intro⟩
def fX2_failingIn (a1 : Nat) (a2 : Int32) (M : gMem) : Option (Int32) := fX2_failingIn_0 a1 a2 M
theorem SX2_failingIn {G : gG} (a1 : Nat) (a2 : Int32) (M : gMem) (o_a1 : gOb 7 a1 = true) {r : Int32} (h : fX2_failingIn a1 a2 M = some r) : gRun G YX2_failingIn 2 [.ref 14, .ref a1, .int a2] M (fun r' N' => r' = some (.int r) ∧ N' = M) := gRun_in (by decide +kernel) rfl (fun d hd => go_wk (CX2_failingIn_0 hd a1 a2 M o_a1 (fun p => p = r) (fun r hh => ⟨congrArg (fun z => some (Value.int z)) hh, rfl⟩) (gq_of h)) ⟨rfl, rfl, rfl, True.intro⟩)
def fX2_gather_110 (M : gMem) : Option (gMem) :=
  some (gSI M 14 5 ((M.1 14 5) + (1 : Int32)))
set_option maxRecDepth 100000 in
theorem CX2_gather_110 {G : gG} {d : Nat} {Z : Option Value → gMem → Prop} (hd : 2 ≤ d) (M : gMem) (P : gMem → Prop) (k0 : ∀ (N : gMem), P N → Z none N) (h : gOKq (fX2_gather_110 M) P) : gGo G YX2_gather d Z 110 [none, none, none, none, none, none, none, none] [.ref 14, .ref 14] M := by
  unfold fX2_gather_110 at h
  refine go_ck okX2_gather rfl (gOb_c rfl) ?_
  refine go_rn 2 (pc' := 115) (L' := [none, none, none, none, none, none, none, none]) (S' := [.int ((M.1 14 5) + (1 : Int32)), .ref 14]) (M' := M) okX2_gather rfl ?_
  refine go_ck okX2_gather rfl (gOb_c rfl) ?_
  exact go_vret (reX2_gather _ (by decide)) rfl (k0 (gSI M 14 5 ((M.1 14 5) + (1 : Int32))) h)
def fX2_gather_102 (x7 : Int32) (M : gMem) : Option (gMem) :=
  if gIx 1 18 (M.1 14 5) = true then fX2_gather_110 (gSI M 18 (Int32.toNatClampNeg (M.1 14 5)) x7) else none
set_option maxRecDepth 100000 in
theorem CX2_gather_102 {G : gG} {d : Nat} {Z : Option Value → gMem → Prop} (hd : 2 ≤ d) (x7 : Int32) (M : gMem) (P : gMem → Prop) (k0 : ∀ (N : gMem), P N → Z none N) (h : gOKq (fX2_gather_102 x7 M) P) : gGo G YX2_gather d Z 102 [some (.ref 14), none, none, none, none, none, none, some (.int x7)] [.ref 14, .ref 18] M := by
  unfold fX2_gather_102 at h
  refine go_ck okX2_gather rfl (gOb_c rfl) ?_
  refine go_rn 1 (pc' := 107) (L' := [some (.ref 14), none, none, none, none, none, none, some (.int x7)]) (S' := [.int x7, .int (M.1 14 5), .ref 18]) (M' := M) okX2_gather rfl ?_
  obtain ⟨c1, h⟩ := gq_if h
  refine go_ck okX2_gather rfl c1 ?_
  refine go_rn 2 (pc' := 110) (L' := [some (.ref 14), none, none, none, none, none, none, some (.int x7)]) (S' := [.ref 14, .ref 14]) (M' := (gSI M 18 (Int32.toNatClampNeg (M.1 14 5)) x7)) okX2_gather rfl ?_
  exact go_wk (CX2_gather_110 hd (gSI M 18 (Int32.toNatClampNeg (M.1 14 5)) x7) P k0 h) True.intro
def fX2_gather_91 (x4 : Int32) (x7 : Int32) (M : gMem) : Option (gMem) :=
  if gIx 1 17 (M.1 14 5) = true then fX2_gather_102 x7 (gSI M 17 (Int32.toNatClampNeg (M.1 14 5)) x4) else none
set_option maxRecDepth 100000 in
theorem CX2_gather_91 {G : gG} {d : Nat} {Z : Option Value → gMem → Prop} (hd : 2 ≤ d) (x4 : Int32) (x7 : Int32) (M : gMem) (P : gMem → Prop) (k0 : ∀ (N : gMem), P N → Z none N) (h : gOKq (fX2_gather_91 x4 x7 M) P) : gGo G YX2_gather d Z 91 [some (.ref 14), none, none, none, some (.int x4), none, none, some (.int x7)] [.ref 14, .ref 17] M := by
  unfold fX2_gather_91 at h
  refine go_ck okX2_gather rfl (gOb_c rfl) ?_
  refine go_rn 1 (pc' := 96) (L' := [some (.ref 14), none, none, none, some (.int x4), none, none, some (.int x7)]) (S' := [.int x4, .int (M.1 14 5), .ref 17]) (M' := M) okX2_gather rfl ?_
  obtain ⟨c1, h⟩ := gq_if h
  refine go_ck okX2_gather rfl c1 ?_
  refine go_rn 1 (pc' := 98) (L' := [some (.ref 14), none, none, none, some (.int x4), none, none, some (.int x7)]) (S' := [.ref 14]) (M' := (gSI M 17 (Int32.toNatClampNeg (M.1 14 5)) x4)) okX2_gather rfl ?_
  refine go_ck okX2_gather rfl (gOb_c rfl) ?_
  refine go_rn 1 (pc' := 102) (L' := [some (.ref 14), none, none, none, some (.int x4), none, none, some (.int x7)]) (S' := [.ref 14, .ref 18]) (M' := (gSI M 17 (Int32.toNatClampNeg (M.1 14 5)) x4)) okX2_gather rfl ?_
  exact go_wk (CX2_gather_102 hd x7 (gSI M 17 (Int32.toNatClampNeg (M.1 14 5)) x4) P k0 h) ⟨rfl, rfl, True.intro⟩
def fX2_gather_81 (x3 : Int32) (x4 : Int32) (x7 : Int32) (M : gMem) : Option (gMem) :=
  if gIx 1 16 (M.1 14 5) = true then fX2_gather_91 x4 x7 (gSI M 16 (Int32.toNatClampNeg (M.1 14 5)) x3) else none
set_option maxRecDepth 100000 in
theorem CX2_gather_81 {G : gG} {d : Nat} {Z : Option Value → gMem → Prop} (hd : 2 ≤ d) (x3 : Int32) (x4 : Int32) (x7 : Int32) (M : gMem) (P : gMem → Prop) (k0 : ∀ (N : gMem), P N → Z none N) (h : gOKq (fX2_gather_81 x3 x4 x7 M) P) : gGo G YX2_gather d Z 81 [some (.ref 14), none, none, some (.int x3), some (.int x4), none, none, some (.int x7)] [.ref 14, .ref 16] M := by
  unfold fX2_gather_81 at h
  refine go_ck okX2_gather rfl (gOb_c rfl) ?_
  refine go_rn 1 (pc' := 85) (L' := [some (.ref 14), none, none, some (.int x3), some (.int x4), none, none, some (.int x7)]) (S' := [.int x3, .int (M.1 14 5), .ref 16]) (M' := M) okX2_gather rfl ?_
  obtain ⟨c1, h⟩ := gq_if h
  refine go_ck okX2_gather rfl c1 ?_
  refine go_rn 1 (pc' := 87) (L' := [some (.ref 14), none, none, some (.int x3), some (.int x4), none, none, some (.int x7)]) (S' := [.ref 14]) (M' := (gSI M 16 (Int32.toNatClampNeg (M.1 14 5)) x3)) okX2_gather rfl ?_
  refine go_ck okX2_gather rfl (gOb_c rfl) ?_
  refine go_rn 1 (pc' := 91) (L' := [some (.ref 14), none, none, some (.int x3), some (.int x4), none, none, some (.int x7)]) (S' := [.ref 14, .ref 17]) (M' := (gSI M 16 (Int32.toNatClampNeg (M.1 14 5)) x3)) okX2_gather rfl ?_
  exact go_wk (CX2_gather_91 hd x4 x7 (gSI M 16 (Int32.toNatClampNeg (M.1 14 5)) x3) P k0 h) ⟨rfl, rfl, rfl, True.intro⟩
def fX2_gather_66 (x2 : Int32) (x3 : Int32) (x4 : Int32) (x7 : Int32) (M : gMem) : Option (gMem) :=
  if gIx 1 15 (M.1 14 5) = true then fX2_gather_81 x3 x4 x7 (gSI M 15 (Int32.toNatClampNeg (M.1 14 5)) x2) else none
set_option maxRecDepth 100000 in
theorem CX2_gather_66 {G : gG} {d : Nat} {Z : Option Value → gMem → Prop} (hd : 2 ≤ d) (x2 : Int32) (x3 : Int32) (x4 : Int32) (x7 : Int32) (M : gMem) (P : gMem → Prop) (k0 : ∀ (N : gMem), P N → Z none N) (h : gOKq (fX2_gather_66 x2 x3 x4 x7 M) P) : gGo G YX2_gather d Z 66 [some (.ref 14), none, some (.int x2), some (.int x3), some (.int x4), none, none, some (.int x7)] [] M := by
  unfold fX2_gather_66 at h
  refine go_rn 1 (pc' := 67) (L' := [some (.ref 14), none, some (.int x2), some (.int x3), some (.int x4), none, none, some (.int x7)]) (S' := [.ref 14]) (M' := M) okX2_gather rfl ?_
  refine go_ck okX2_gather rfl (gOb_c rfl) ?_
  refine go_rn 1 (pc' := 71) (L' := [some (.ref 14), none, some (.int x2), some (.int x3), some (.int x4), none, none, some (.int x7)]) (S' := [.ref 14, .ref 15]) (M' := M) okX2_gather rfl ?_
  refine go_ck okX2_gather rfl (gOb_c rfl) ?_
  refine go_rn 1 (pc' := 75) (L' := [some (.ref 14), none, some (.int x2), some (.int x3), some (.int x4), none, none, some (.int x7)]) (S' := [.int x2, .int (M.1 14 5), .ref 15]) (M' := M) okX2_gather rfl ?_
  obtain ⟨c1, h⟩ := gq_if h
  refine go_ck okX2_gather rfl c1 ?_
  refine go_rn 1 (pc' := 77) (L' := [some (.ref 14), none, some (.int x2), some (.int x3), some (.int x4), none, none, some (.int x7)]) (S' := [.ref 14]) (M' := (gSI M 15 (Int32.toNatClampNeg (M.1 14 5)) x2)) okX2_gather rfl ?_
  refine go_ck okX2_gather rfl (gOb_c rfl) ?_
  refine go_rn 1 (pc' := 81) (L' := [some (.ref 14), none, some (.int x2), some (.int x3), some (.int x4), none, none, some (.int x7)]) (S' := [.ref 14, .ref 16]) (M' := (gSI M 15 (Int32.toNatClampNeg (M.1 14 5)) x2)) okX2_gather rfl ?_
  exact go_wk (CX2_gather_81 hd x3 x4 x7 (gSI M 15 (Int32.toNatClampNeg (M.1 14 5)) x2) P k0 h) ⟨rfl, rfl, rfl, rfl, True.intro⟩
def fX2_gather_63 (x2 : Int32) (x3 : Int32) (x4 : Int32) (M : gMem) : Option (gMem) :=
  fX2_gather_66 x2 x3 x4 (0 : Int32) M
set_option maxRecDepth 100000 in
theorem CX2_gather_63 {G : gG} {d : Nat} {Z : Option Value → gMem → Prop} (hd : 2 ≤ d) (x2 : Int32) (x3 : Int32) (x4 : Int32) (M : gMem) (P : gMem → Prop) (k0 : ∀ (N : gMem), P N → Z none N) (h : gOKq (fX2_gather_63 x2 x3 x4 M) P) : gGo G YX2_gather d Z 63 [some (.ref 14), none, some (.int x2), some (.int x3), some (.int x4), none, none, none] [] M := by
  unfold fX2_gather_63 at h
  refine go_rn 2 (pc' := 66) (L' := [some (.ref 14), none, some (.int x2), some (.int x3), some (.int x4), none, none, some (.int (0 : Int32))]) (S' := []) (M' := M) okX2_gather rfl ?_
  exact go_wk (CX2_gather_66 hd x2 x3 x4 (0 : Int32) M P k0 h) ⟨rfl, rfl, rfl, rfl, rfl, True.intro⟩
def fX2_gather_41 (x2 : Int32) (x3 : Int32) (x4 : Int32) (x7 : Int32) (M : gMem) : Option (gMem) :=
  gB0 (fX8_has (M.1 14 4) x2 M) (fun r1 => if r1 = 0 then gB0 (fX8_has (M.1 14 4) x3 M) (fun r3 => if r3 = 0 then fX2_gather_66 x2 x3 x4 x7 M else fX2_gather_63 x2 x3 x4 M) else fX2_gather_63 x2 x3 x4 M)
set_option maxRecDepth 100000 in
theorem CX2_gather_41 {G : gG} {d : Nat} {Z : Option Value → gMem → Prop} (hd : 2 ≤ d) (x2 : Int32) (x3 : Int32) (x4 : Int32) (x7 : Int32) (M : gMem) (P : gMem → Prop) (k0 : ∀ (N : gMem), P N → Z none N) (h : gOKq (fX2_gather_41 x2 x3 x4 x7 M) P) : gGo G YX2_gather d Z 41 [some (.ref 14), none, some (.int x2), some (.int x3), some (.int x4), none, none, some (.int x7)] [] M := by
  unfold fX2_gather_41 at h
  refine go_rn 1 (pc' := 42) (L' := [some (.ref 14), none, some (.int x2), some (.int x3), some (.int x4), none, none, some (.int x7)]) (S' := [.ref 14]) (M' := M) okX2_gather rfl ?_
  refine go_ck okX2_gather rfl (gOb_c rfl) ?_
  refine go_rn 1 (pc' := 46) (L' := [some (.ref 14), none, some (.int x2), some (.int x3), some (.int x4), none, none, some (.int x7)]) (S' := [.int x2, .int (M.1 14 4)]) (M' := M) okX2_gather rfl ?_
  obtain ⟨r1, e2, h⟩ := gB0_ok h
  refine go_call1 ocX2_gather rfl rfl rfl rfl (SX8_has (M.1 14 4) x2 M e2) (Nat.lt_of_lt_of_le (by decide) hd) ?_
  refine go_br okX2_gather rfl (fun hp => ?_) (fun hp => ?_)
  · have h := gq_pos hp h
    refine go_rn 1 (pc' := 53) (L' := [some (.ref 14), none, some (.int x2), some (.int x3), some (.int x4), none, none, some (.int x7)]) (S' := [.ref 14]) (M' := M) okX2_gather rfl ?_
    refine go_ck okX2_gather rfl (gOb_c rfl) ?_
    refine go_rn 1 (pc' := 57) (L' := [some (.ref 14), none, some (.int x2), some (.int x3), some (.int x4), none, none, some (.int x7)]) (S' := [.int x3, .int (M.1 14 4)]) (M' := M) okX2_gather rfl ?_
    obtain ⟨r3, e4, h⟩ := gB0_ok h
    refine go_call1 ocX2_gather rfl rfl rfl rfl (SX8_has (M.1 14 4) x3 M e4) (Nat.lt_of_lt_of_le (by decide) hd) ?_
    refine go_br okX2_gather rfl (fun hp => ?_) (fun hp => ?_)
    · have h := gq_pos hp h
      exact go_wk (CX2_gather_66 hd x2 x3 x4 x7 M P k0 h) ⟨rfl, rfl, rfl, rfl, rfl, True.intro⟩
    · have h := gq_neg hp h
      exact go_wk (CX2_gather_63 hd x2 x3 x4 M P k0 h) ⟨rfl, rfl, rfl, rfl, True.intro⟩
  · have h := gq_neg hp h
    exact go_wk (CX2_gather_63 hd x2 x3 x4 M P k0 h) ⟨rfl, rfl, rfl, rfl, True.intro⟩
def fX2_gather_0 (x1 : Nat) (x2 : Int32) (x3 : Int32) (x4 : Int32) (x5 : Int32) (x6 : Int32) (M : gMem) : Option (gMem) :=
  if (M.1 14 5) < (38 : Int32) then if (M.1 14 1) = 0 then gB0 (fX0_cutOf (x1 + 10) x2 x3 x4 x6 M) (fun r1 => fX2_gather_41 x2 x3 x4 (gMn x5 r1) M) else fX2_gather_41 x2 x3 x4 x5 M else some M
set_option maxRecDepth 100000 in
theorem CX2_gather_0 {G : gG} {d : Nat} {Z : Option Value → gMem → Prop} (hd : 2 ≤ d) (x1 : Nat) (x2 : Int32) (x3 : Int32) (x4 : Int32) (x5 : Int32) (x6 : Int32) (M : gMem) (o_x1 : gOb 7 x1 = true) (P : gMem → Prop) (k0 : ∀ (N : gMem), P N → Z none N) (h : gOKq (fX2_gather_0 x1 x2 x3 x4 x5 x6 M) P) : gGo G YX2_gather d Z 0 [some (.ref 14), some (.ref x1), some (.int x2), some (.int x3), some (.int x4), some (.int x5), some (.int x6), none] [] M := by
  unfold fX2_gather_0 at h
  refine go_rn 1 (pc' := 1) (L' := [some (.ref 14), some (.ref x1), some (.int x2), some (.int x3), some (.int x4), some (.int x5), some (.int x6), none]) (S' := [.ref 14]) (M' := M) okX2_gather rfl ?_
  refine go_ck okX2_gather rfl (gOb_c rfl) ?_
  refine go_rn 1 (pc' := 6) (L' := [some (.ref 14), some (.ref x1), some (.int x2), some (.int x3), some (.int x4), some (.int x5), some (.int x6), none]) (S' := [.int (38 : Int32), .int (M.1 14 5)]) (M' := M) okX2_gather rfl ?_
  refine go_br okX2_gather rfl (fun hp => ?_) (fun hp => ?_)
  · have h := gq_pos hp h
    refine go_rn 3 (pc' := 15) (L' := [some (.ref 14), some (.ref x1), some (.int x2), some (.int x3), some (.int x4), some (.int x5), some (.int x6), some (.int x5)]) (S' := [.ref 14]) (M' := M) okX2_gather rfl ?_
    refine go_ck okX2_gather rfl (gOb_c rfl) ?_
    refine go_br okX2_gather rfl (fun hp => ?_) (fun hp => ?_)
    · have h := gq_pos hp h
      refine go_rn 2 (pc' := 24) (L' := [some (.ref 14), some (.ref x1), some (.int x2), some (.int x3), some (.int x4), some (.int x5), some (.int x6), some (.int x5)]) (S' := [.ref x1, .int x5]) (M' := M) okX2_gather rfl ?_
      refine go_ck okX2_gather rfl o_x1 ?_
      refine go_rn 4 (pc' := 33) (L' := [some (.ref 14), some (.ref x1), some (.int x2), some (.int x3), some (.int x4), some (.int x5), some (.int x6), some (.int x5)]) (S' := [.int x6, .int x4, .int x3, .int x2, .ref (x1 + 10), .int x5]) (M' := M) okX2_gather rfl ?_
      obtain ⟨r1, e2, h⟩ := gB0_ok h
      refine go_call1 ocX2_gather rfl rfl (gTa o_x1) rfl (SX0_cutOf (x1 + 10) x2 x3 x4 x6 M (gTa o_x1) e2) (Nat.lt_of_lt_of_le (by decide) hd) ?_
      refine go_rn 2 (pc' := 41) (L' := [some (.ref 14), some (.ref x1), some (.int x2), some (.int x3), some (.int x4), some (.int x5), some (.int x6), some (.int (gMn x5 r1))]) (S' := []) (M' := M) okX2_gather rfl ?_
      exact go_wk (CX2_gather_41 hd x2 x3 x4 (gMn x5 r1) M P k0 h) ⟨rfl, rfl, rfl, rfl, rfl, True.intro⟩
    · have h := gq_neg hp h
      exact go_wk (CX2_gather_41 hd x2 x3 x4 x5 M P k0 h) ⟨rfl, rfl, rfl, rfl, rfl, True.intro⟩
  · have h := gq_neg hp h
    exact go_vret (reX2_gather _ (by decide)) rfl (k0 M h)
def fX2_gather (a1 : Nat) (a2 : Int32) (a3 : Int32) (a4 : Int32) (a5 : Int32) (a6 : Int32) (M : gMem) : Option (gMem) := fX2_gather_0 a1 a2 a3 a4 a5 a6 M
theorem SX2_gather {G : gG} (a1 : Nat) (a2 : Int32) (a3 : Int32) (a4 : Int32) (a5 : Int32) (a6 : Int32) (M : gMem) (o_a1 : gOb 7 a1 = true) {N : gMem} (h : fX2_gather a1 a2 a3 a4 a5 a6 M = some N) : gRun G YX2_gather 2 [.ref 14, .ref a1, .int a2, .int a3, .int a4, .int a5, .int a6] M (fun r' N' => r' = none ∧ N' = N) := gRun_in (by decide +kernel) rfl (fun d hd => go_wk (CX2_gather_0 hd a1 a2 a3 a4 a5 a6 M o_a1 (fun p => p = N) (fun N hh => ⟨rfl, hh⟩) (gq_of h)) ⟨rfl, rfl, rfl, rfl, rfl, rfl, rfl, True.intro⟩)
def fX2_gatherJoins_78 (x1 : Nat) (x2 : Nat) (x3 : Int32) (M : gMem) : Option (Sum (Int32 × gMem) (gMem)) :=
  if (M.1 x2 4) ≤ x3 then some (.inr M) else if gIx 1 (x2 + 4) x3 = true then if (M.1 (x2 + 4) (Int32.toNatClampNeg x3)) = 0 then some (.inl ((x3 + 1), M)) else if gIx 1 (x2 + 3) x3 = true then if gIx 1 (x2 + 4) x3 = true then if gIx 1 (x2 + 1) x3 = true then if gIx 1 (x2 + 2) x3 = true then if gIx 1 (x2 + 3) x3 = true then gB0 (fX2_gather x1 (M.1 (x2 + 1) (Int32.toNatClampNeg x3)) (M.1 (x2 + 2) (Int32.toNatClampNeg x3)) (M.1 (x2 + 3) (Int32.toNatClampNeg x3)) ((M.1 (x2 + 3) (Int32.toNatClampNeg x3)) + (M.1 (x2 + 4) (Int32.toNatClampNeg x3))) x3 M) (fun M7 => some (.inl ((x3 + 1), M7))) else none else none else none else none else none else none
set_option maxRecDepth 100000 in
theorem CX2_gatherJoins_78 {G : gG} {d : Nat} {Z : Option Value → gMem → Prop} (hd : 3 ≤ d) (x1 : Nat) (x2 : Nat) (x3 : Int32) (M : gMem) (o_x1 : gOb 7 x1 = true) (o_x2 : gOb 0 x2 = true) (P : Sum (Int32 × gMem) (gMem) → Prop) (k0 : ∀ (N : gMem), P (.inr N) → Z none N) (k1 : ∀ (x3 : Int32) (M : gMem), P (.inl (x3, M)) → gGo G YX2_gatherJoins d Z 78 [some (.ref 14), some (.ref x1), some (.ref x2), some (.int x3), none] [] M) (h : gOKq (fX2_gatherJoins_78 x1 x2 x3 M) P) : gGo G YX2_gatherJoins d Z 78 [some (.ref 14), some (.ref x1), some (.ref x2), some (.int x3), none] [] M := by
  unfold fX2_gatherJoins_78 at h
  refine go_rn 2 (pc' := 80) (L' := [some (.ref 14), some (.ref x1), some (.ref x2), some (.int x3), none]) (S' := [.ref x2, .int x3]) (M' := M) okX2_gatherJoins rfl ?_
  refine go_ck okX2_gatherJoins rfl o_x2 ?_
  refine go_br okX2_gatherJoins rfl (fun hp => ?_) (fun hp => ?_)
  · have h := gq_pos hp h
    exact go_vret (reX2_gatherJoins _ (by decide)) rfl (k0 M h)
  · have h := gq_neg hp h
    refine go_rn 1 (pc' := 87) (L' := [some (.ref 14), some (.ref x1), some (.ref x2), some (.int x3), none]) (S' := [.ref x2]) (M' := M) okX2_gatherJoins rfl ?_
    refine go_ck okX2_gatherJoins rfl o_x2 ?_
    refine go_rn 1 (pc' := 91) (L' := [some (.ref 14), some (.ref x1), some (.ref x2), some (.int x3), none]) (S' := [.int x3, .ref (x2 + 4)]) (M' := M) okX2_gatherJoins rfl ?_
    obtain ⟨c1, h⟩ := gq_if h
    refine go_ck okX2_gatherJoins rfl c1 ?_
    refine go_br okX2_gatherJoins rfl (fun hp => ?_) (fun hp => ?_)
    · have h := gq_pos hp h
      refine go_rn 2 (pc' := 78) (L' := [some (.ref 14), some (.ref x1), some (.ref x2), some (.int (x3 + 1)), none]) (S' := []) (M' := M) okX2_gatherJoins rfl ?_
      exact go_wk (k1 ((x3 + 1)) M h) ⟨rfl, rfl, rfl, rfl, True.intro⟩
    · have h := gq_neg hp h
      refine go_rn 1 (pc' := 96) (L' := [some (.ref 14), some (.ref x1), some (.ref x2), some (.int x3), none]) (S' := [.ref x2]) (M' := M) okX2_gatherJoins rfl ?_
      refine go_ck okX2_gatherJoins rfl o_x2 ?_
      refine go_rn 1 (pc' := 100) (L' := [some (.ref 14), some (.ref x1), some (.ref x2), some (.int x3), none]) (S' := [.int x3, .ref (x2 + 3)]) (M' := M) okX2_gatherJoins rfl ?_
      obtain ⟨c2, h⟩ := gq_if h
      refine go_ck okX2_gatherJoins rfl c2 ?_
      refine go_rn 1 (pc' := 102) (L' := [some (.ref 14), some (.ref x1), some (.ref x2), some (.int x3), none]) (S' := [.ref x2, .int (M.1 (x2 + 3) (Int32.toNatClampNeg x3))]) (M' := M) okX2_gatherJoins rfl ?_
      refine go_ck okX2_gatherJoins rfl o_x2 ?_
      refine go_rn 1 (pc' := 106) (L' := [some (.ref 14), some (.ref x1), some (.ref x2), some (.int x3), none]) (S' := [.int x3, .ref (x2 + 4), .int (M.1 (x2 + 3) (Int32.toNatClampNeg x3))]) (M' := M) okX2_gatherJoins rfl ?_
      obtain ⟨c3, h⟩ := gq_if h
      refine go_ck okX2_gatherJoins rfl c3 ?_
      refine go_rn 5 (pc' := 113) (L' := [some (.ref 14), some (.ref x1), some (.ref x2), some (.int x3), some (.int ((M.1 (x2 + 3) (Int32.toNatClampNeg x3)) + (M.1 (x2 + 4) (Int32.toNatClampNeg x3))))]) (S' := [.ref x2, .ref x1, .ref 14]) (M' := M) okX2_gatherJoins rfl ?_
      refine go_ck okX2_gatherJoins rfl o_x2 ?_
      refine go_rn 1 (pc' := 117) (L' := [some (.ref 14), some (.ref x1), some (.ref x2), some (.int x3), some (.int ((M.1 (x2 + 3) (Int32.toNatClampNeg x3)) + (M.1 (x2 + 4) (Int32.toNatClampNeg x3))))]) (S' := [.int x3, .ref (x2 + 1), .ref x1, .ref 14]) (M' := M) okX2_gatherJoins rfl ?_
      obtain ⟨c4, h⟩ := gq_if h
      refine go_ck okX2_gatherJoins rfl c4 ?_
      refine go_rn 1 (pc' := 119) (L' := [some (.ref 14), some (.ref x1), some (.ref x2), some (.int x3), some (.int ((M.1 (x2 + 3) (Int32.toNatClampNeg x3)) + (M.1 (x2 + 4) (Int32.toNatClampNeg x3))))]) (S' := [.ref x2, .int (M.1 (x2 + 1) (Int32.toNatClampNeg x3)), .ref x1, .ref 14]) (M' := M) okX2_gatherJoins rfl ?_
      refine go_ck okX2_gatherJoins rfl o_x2 ?_
      refine go_rn 1 (pc' := 123) (L' := [some (.ref 14), some (.ref x1), some (.ref x2), some (.int x3), some (.int ((M.1 (x2 + 3) (Int32.toNatClampNeg x3)) + (M.1 (x2 + 4) (Int32.toNatClampNeg x3))))]) (S' := [.int x3, .ref (x2 + 2), .int (M.1 (x2 + 1) (Int32.toNatClampNeg x3)), .ref x1, .ref 14]) (M' := M) okX2_gatherJoins rfl ?_
      obtain ⟨c5, h⟩ := gq_if h
      refine go_ck okX2_gatherJoins rfl c5 ?_
      refine go_rn 1 (pc' := 125) (L' := [some (.ref 14), some (.ref x1), some (.ref x2), some (.int x3), some (.int ((M.1 (x2 + 3) (Int32.toNatClampNeg x3)) + (M.1 (x2 + 4) (Int32.toNatClampNeg x3))))]) (S' := [.ref x2, .int (M.1 (x2 + 2) (Int32.toNatClampNeg x3)), .int (M.1 (x2 + 1) (Int32.toNatClampNeg x3)), .ref x1, .ref 14]) (M' := M) okX2_gatherJoins rfl ?_
      refine go_ck okX2_gatherJoins rfl o_x2 ?_
      refine go_rn 1 (pc' := 129) (L' := [some (.ref 14), some (.ref x1), some (.ref x2), some (.int x3), some (.int ((M.1 (x2 + 3) (Int32.toNatClampNeg x3)) + (M.1 (x2 + 4) (Int32.toNatClampNeg x3))))]) (S' := [.int x3, .ref (x2 + 3), .int (M.1 (x2 + 2) (Int32.toNatClampNeg x3)), .int (M.1 (x2 + 1) (Int32.toNatClampNeg x3)), .ref x1, .ref 14]) (M' := M) okX2_gatherJoins rfl ?_
      obtain ⟨c6, h⟩ := gq_if h
      refine go_ck okX2_gatherJoins rfl c6 ?_
      refine go_rn 2 (pc' := 133) (L' := [some (.ref 14), some (.ref x1), some (.ref x2), some (.int x3), some (.int ((M.1 (x2 + 3) (Int32.toNatClampNeg x3)) + (M.1 (x2 + 4) (Int32.toNatClampNeg x3))))]) (S' := [.int x3, .int ((M.1 (x2 + 3) (Int32.toNatClampNeg x3)) + (M.1 (x2 + 4) (Int32.toNatClampNeg x3))), .int (M.1 (x2 + 3) (Int32.toNatClampNeg x3)), .int (M.1 (x2 + 2) (Int32.toNatClampNeg x3)), .int (M.1 (x2 + 1) (Int32.toNatClampNeg x3)), .ref x1, .ref 14]) (M' := M) okX2_gatherJoins rfl ?_
      obtain ⟨M7, e8, h⟩ := gB0_ok h
      refine go_call1 ocX2_gatherJoins rfl rfl (gOb_c rfl) rfl (SX2_gather x1 (M.1 (x2 + 1) (Int32.toNatClampNeg x3)) (M.1 (x2 + 2) (Int32.toNatClampNeg x3)) (M.1 (x2 + 3) (Int32.toNatClampNeg x3)) ((M.1 (x2 + 3) (Int32.toNatClampNeg x3)) + (M.1 (x2 + 4) (Int32.toNatClampNeg x3))) x3 M o_x1 e8) (Nat.lt_of_lt_of_le (by decide) hd) ?_
      refine go_rn 2 (pc' := 78) (L' := [some (.ref 14), some (.ref x1), some (.ref x2), some (.int (x3 + 1)), some (.int ((M.1 (x2 + 3) (Int32.toNatClampNeg x3)) + (M.1 (x2 + 4) (Int32.toNatClampNeg x3))))]) (S' := []) (M' := M7) okX2_gatherJoins rfl ?_
      exact go_wk (k1 ((x3 + 1)) M7 h) ⟨rfl, rfl, rfl, rfl, True.intro⟩
def fX2_gatherJoins_78h (x1 : Nat) (x2 : Nat) (x3 : Int32) (M : gMem) : Option (gMem) :=
  gLp (fun s : Int32 × gMem => fX2_gatherJoins_78 x1 x2 (s.1) s.2) gFu (x3, M)
set_option maxRecDepth 100000 in
theorem CX2_gatherJoins_78h {G : gG} {d : Nat} {Z : Option Value → gMem → Prop} (hd : 3 ≤ d) (x1 : Nat) (x2 : Nat) (x3 : Int32) (M : gMem) (o_x1 : gOb 7 x1 = true) (o_x2 : gOb 0 x2 = true) (P : gMem → Prop) (k0 : ∀ (N : gMem), P N → Z none N) (h : gOKq (fX2_gatherJoins_78h x1 x2 x3 M) P) : gGo G YX2_gatherJoins d Z 78 [some (.ref 14), some (.ref x1), some (.ref x2), some (.int x3), none] [] M :=
  gLp_go (K := fun s : Int32 × gMem => gGo G YX2_gatherJoins d Z 78 [some (.ref 14), some (.ref x1), some (.ref x2), some (.int s.1), none] [] s.2) (P := P) (fun s hs => CX2_gatherJoins_78 hd (x1) (x2) (s.1) (s.2) o_x1 o_x2 (Sum.elim (fun s : Int32 × gMem => gGo G YX2_gatherJoins d Z 78 [some (.ref 14), some (.ref x1), some (.ref x2), some (.int s.1), none] [] s.2) P) k0 (fun x3 M hh => hh) hs) gFu (x3, M) h
def fX2_gatherJoins_36 (x1 : Nat) (x2 : Int32) (s0 : Int32) (M : gMem) : Option (Sum (Int32 × gMem) (gMem)) :=
  if gIx 1 (x1 + 4) x2 = true then if gIx 1 (x1 + 5) x2 = true then gB0 (fX2_gather x1 (M.1 (x1 + 4) (Int32.toNatClampNeg x2)) (M.1 (x1 + 5) (Int32.toNatClampNeg x2)) (0 : Int32) s0 (-1 : Int32) M) (fun M3 => some (.inl ((x2 + 1), M3))) else none else none
set_option maxRecDepth 100000 in
theorem CX2_gatherJoins_36 {G : gG} {d : Nat} {Z : Option Value → gMem → Prop} (hd : 3 ≤ d) (x1 : Nat) (x2 : Int32) (s0 : Int32) (M : gMem) (o_x1 : gOb 7 x1 = true) (P : Sum (Int32 × gMem) (gMem) → Prop) (k0 : ∀ (N : gMem), P (.inr N) → Z none N) (k1 : ∀ (x2 : Int32) (M : gMem), P (.inl (x2, M)) → gGo G YX2_gatherJoins d Z 7 [some (.ref 14), some (.ref x1), some (.int x2), none, none] [] M) (h : gOKq (fX2_gatherJoins_36 x1 x2 s0 M) P) : gGo G YX2_gatherJoins d Z 36 [some (.ref 14), some (.ref x1), some (.int x2), none, none] [.int s0] M := by
  unfold fX2_gatherJoins_36 at h
  refine go_rn 4 (pc' := 40) (L' := [some (.ref 14), some (.ref x1), some (.int x2), some (.int s0), none]) (S' := [.ref x1, .ref x1, .ref 14]) (M' := M) okX2_gatherJoins rfl ?_
  refine go_ck okX2_gatherJoins rfl o_x1 ?_
  refine go_rn 1 (pc' := 44) (L' := [some (.ref 14), some (.ref x1), some (.int x2), some (.int s0), none]) (S' := [.int x2, .ref (x1 + 4), .ref x1, .ref 14]) (M' := M) okX2_gatherJoins rfl ?_
  obtain ⟨c1, h⟩ := gq_if h
  refine go_ck okX2_gatherJoins rfl c1 ?_
  refine go_rn 1 (pc' := 46) (L' := [some (.ref 14), some (.ref x1), some (.int x2), some (.int s0), none]) (S' := [.ref x1, .int (M.1 (x1 + 4) (Int32.toNatClampNeg x2)), .ref x1, .ref 14]) (M' := M) okX2_gatherJoins rfl ?_
  refine go_ck okX2_gatherJoins rfl o_x1 ?_
  refine go_rn 1 (pc' := 50) (L' := [some (.ref 14), some (.ref x1), some (.int x2), some (.int s0), none]) (S' := [.int x2, .ref (x1 + 5), .int (M.1 (x1 + 4) (Int32.toNatClampNeg x2)), .ref x1, .ref 14]) (M' := M) okX2_gatherJoins rfl ?_
  obtain ⟨c2, h⟩ := gq_if h
  refine go_ck okX2_gatherJoins rfl c2 ?_
  refine go_rn 3 (pc' := 54) (L' := [some (.ref 14), some (.ref x1), some (.int x2), some (.int s0), none]) (S' := [.int (-1 : Int32), .int s0, .int (0 : Int32), .int (M.1 (x1 + 5) (Int32.toNatClampNeg x2)), .int (M.1 (x1 + 4) (Int32.toNatClampNeg x2)), .ref x1, .ref 14]) (M' := M) okX2_gatherJoins rfl ?_
  obtain ⟨M3, e4, h⟩ := gB0_ok h
  refine go_call1 ocX2_gatherJoins rfl rfl (gOb_c rfl) rfl (SX2_gather x1 (M.1 (x1 + 4) (Int32.toNatClampNeg x2)) (M.1 (x1 + 5) (Int32.toNatClampNeg x2)) (0 : Int32) s0 (-1 : Int32) M o_x1 e4) (Nat.lt_of_lt_of_le (by decide) hd) ?_
  refine go_rn 2 (pc' := 7) (L' := [some (.ref 14), some (.ref x1), some (.int (x2 + 1)), some (.int s0), none]) (S' := []) (M' := M3) okX2_gatherJoins rfl ?_
  exact go_wk (k1 ((x2 + 1)) M3 h) ⟨rfl, rfl, rfl, True.intro⟩
def fX2_gatherJoins_7 (x1 : Nat) (x2 : Int32) (M : gMem) : Option (Sum (Int32 × gMem) (gMem)) :=
  if (M.1 x1 6) ≤ x2 then if (M.1 14 1) = 0 then gEx (fX2_gatherJoins_78h x1 (x1 + 10) (0 : Int32) M) else some (.inr M) else gB0 (fX8_has (M.1 14 0) x2 M) (fun r1 => if r1 = 0 then if gIx 1 (x1 + 6) x2 = true then fX2_gatherJoins_36 x1 x2 (M.1 (x1 + 6) (Int32.toNatClampNeg x2)) M else none else fX2_gatherJoins_36 x1 x2 (0 : Int32) M)
set_option maxRecDepth 100000 in
theorem CX2_gatherJoins_7 {G : gG} {d : Nat} {Z : Option Value → gMem → Prop} (hd : 3 ≤ d) (x1 : Nat) (x2 : Int32) (M : gMem) (o_x1 : gOb 7 x1 = true) (P : Sum (Int32 × gMem) (gMem) → Prop) (k0 : ∀ (N : gMem), P (.inr N) → Z none N) (k1 : ∀ (x2 : Int32) (M : gMem), P (.inl (x2, M)) → gGo G YX2_gatherJoins d Z 7 [some (.ref 14), some (.ref x1), some (.int x2), none, none] [] M) (h : gOKq (fX2_gatherJoins_7 x1 x2 M) P) : gGo G YX2_gatherJoins d Z 7 [some (.ref 14), some (.ref x1), some (.int x2), none, none] [] M := by
  unfold fX2_gatherJoins_7 at h
  refine go_rn 2 (pc' := 9) (L' := [some (.ref 14), some (.ref x1), some (.int x2), none, none]) (S' := [.ref x1, .int x2]) (M' := M) okX2_gatherJoins rfl ?_
  refine go_ck okX2_gatherJoins rfl o_x1 ?_
  refine go_br okX2_gatherJoins rfl (fun hp => ?_) (fun hp => ?_)
  · have h := gq_pos hp h
    refine go_rn 1 (pc' := 64) (L' := [some (.ref 14), some (.ref x1), some (.int x2), none, none]) (S' := [.ref 14]) (M' := M) okX2_gatherJoins rfl ?_
    refine go_ck okX2_gatherJoins rfl (gOb_c rfl) ?_
    refine go_br okX2_gatherJoins rfl (fun hp => ?_) (fun hp => ?_)
    · have h := gq_pos hp h
      refine go_rn 1 (pc' := 72) (L' := [some (.ref 14), some (.ref x1), some (.int x2), none, none]) (S' := [.ref x1]) (M' := M) okX2_gatherJoins rfl ?_
      refine go_ck okX2_gatherJoins rfl o_x1 ?_
      refine go_rn 3 (pc' := 78) (L' := [some (.ref 14), some (.ref x1), some (.ref (x1 + 10)), some (.int (0 : Int32)), none]) (S' := []) (M' := M) okX2_gatherJoins rfl ?_
      exact go_wk (CX2_gatherJoins_78h hd x1 (x1 + 10) (0 : Int32) M o_x1 (gTa o_x1) (fun q => P (.inr q)) k0 (gEx_ok h)) ⟨rfl, rfl, rfl, rfl, True.intro⟩
    · have h := gq_neg hp h
      exact go_vret (reX2_gatherJoins _ (by decide)) rfl (k0 M h)
  · have h := gq_neg hp h
    refine go_rn 1 (pc' := 16) (L' := [some (.ref 14), some (.ref x1), some (.int x2), none, none]) (S' := [.ref 14]) (M' := M) okX2_gatherJoins rfl ?_
    refine go_ck okX2_gatherJoins rfl (gOb_c rfl) ?_
    refine go_rn 1 (pc' := 20) (L' := [some (.ref 14), some (.ref x1), some (.int x2), none, none]) (S' := [.int x2, .int (M.1 14 0)]) (M' := M) okX2_gatherJoins rfl ?_
    obtain ⟨r1, e2, h⟩ := gB0_ok h
    refine go_call1 ocX2_gatherJoins rfl rfl rfl rfl (SX8_has (M.1 14 0) x2 M e2) (Nat.lt_of_lt_of_le (by decide) hd) ?_
    refine go_br okX2_gatherJoins rfl (fun hp => ?_) (fun hp => ?_)
    · have h := gq_pos hp h
      refine go_rn 1 (pc' := 31) (L' := [some (.ref 14), some (.ref x1), some (.int x2), none, none]) (S' := [.ref x1]) (M' := M) okX2_gatherJoins rfl ?_
      refine go_ck okX2_gatherJoins rfl o_x1 ?_
      refine go_rn 1 (pc' := 35) (L' := [some (.ref 14), some (.ref x1), some (.int x2), none, none]) (S' := [.int x2, .ref (x1 + 6)]) (M' := M) okX2_gatherJoins rfl ?_
      obtain ⟨c3, h⟩ := gq_if h
      refine go_ck okX2_gatherJoins rfl c3 ?_
      exact go_wk (CX2_gatherJoins_36 hd x1 x2 (M.1 (x1 + 6) (Int32.toNatClampNeg x2)) M o_x1 P k0 k1 h) ⟨rfl, rfl, rfl, True.intro⟩
    · have h := gq_neg hp h
      refine go_rn 2 (pc' := 36) (L' := [some (.ref 14), some (.ref x1), some (.int x2), none, none]) (S' := [.int (0 : Int32)]) (M' := M) okX2_gatherJoins rfl ?_
      exact go_wk (CX2_gatherJoins_36 hd x1 x2 (0 : Int32) M o_x1 P k0 k1 h) ⟨rfl, rfl, rfl, True.intro⟩
def fX2_gatherJoins_7h (x1 : Nat) (x2 : Int32) (M : gMem) : Option (gMem) :=
  gLp (fun s : Int32 × gMem => fX2_gatherJoins_7 x1 (s.1) s.2) gFu (x2, M)
set_option maxRecDepth 100000 in
theorem CX2_gatherJoins_7h {G : gG} {d : Nat} {Z : Option Value → gMem → Prop} (hd : 3 ≤ d) (x1 : Nat) (x2 : Int32) (M : gMem) (o_x1 : gOb 7 x1 = true) (P : gMem → Prop) (k0 : ∀ (N : gMem), P N → Z none N) (h : gOKq (fX2_gatherJoins_7h x1 x2 M) P) : gGo G YX2_gatherJoins d Z 7 [some (.ref 14), some (.ref x1), some (.int x2), none, none] [] M :=
  gLp_go (K := fun s : Int32 × gMem => gGo G YX2_gatherJoins d Z 7 [some (.ref 14), some (.ref x1), some (.int s.1), none, none] [] s.2) (P := P) (fun s hs => CX2_gatherJoins_7 hd (x1) (s.1) (s.2) o_x1 (Sum.elim (fun s : Int32 × gMem => gGo G YX2_gatherJoins d Z 7 [some (.ref 14), some (.ref x1), some (.int s.1), none, none] [] s.2) P) k0 (fun x2 M hh => hh) hs) gFu (x2, M) h
def fX2_gatherJoins_0 (x1 : Nat) (M : gMem) : Option (gMem) :=
  fX2_gatherJoins_7h x1 (0 : Int32) (gSI M 14 5 (0 : Int32))
set_option maxRecDepth 100000 in
theorem CX2_gatherJoins_0 {G : gG} {d : Nat} {Z : Option Value → gMem → Prop} (hd : 3 ≤ d) (x1 : Nat) (M : gMem) (o_x1 : gOb 7 x1 = true) (P : gMem → Prop) (k0 : ∀ (N : gMem), P N → Z none N) (h : gOKq (fX2_gatherJoins_0 x1 M) P) : gGo G YX2_gatherJoins d Z 0 [some (.ref 14), some (.ref x1), none, none, none] [] M := by
  unfold fX2_gatherJoins_0 at h
  refine go_rn 2 (pc' := 2) (L' := [some (.ref 14), some (.ref x1), none, none, none]) (S' := [.int (0 : Int32), .ref 14]) (M' := M) okX2_gatherJoins rfl ?_
  refine go_ck okX2_gatherJoins rfl (gOb_c rfl) ?_
  refine go_rn 2 (pc' := 7) (L' := [some (.ref 14), some (.ref x1), some (.int (0 : Int32)), none, none]) (S' := []) (M' := (gSI M 14 5 (0 : Int32))) okX2_gatherJoins rfl ?_
  exact go_wk (CX2_gatherJoins_7h hd x1 (0 : Int32) (gSI M 14 5 (0 : Int32)) o_x1 P k0 h) ⟨rfl, rfl, rfl, True.intro⟩
def fX2_gatherJoins (a1 : Nat) (M : gMem) : Option (gMem) := fX2_gatherJoins_0 a1 M
theorem SX2_gatherJoins {G : gG} (a1 : Nat) (M : gMem) (o_a1 : gOb 7 a1 = true) {N : gMem} (h : fX2_gatherJoins a1 M = some N) : gRun G YX2_gatherJoins 3 [.ref 14, .ref a1] M (fun r' N' => r' = none ∧ N' = N) := gRun_in (by decide +kernel) rfl (fun d hd => go_wk (CX2_gatherJoins_0 hd a1 M o_a1 (fun p => p = N) (fun N hh => ⟨rfl, hh⟩) (gq_of h)) ⟨rfl, rfl, True.intro⟩)
def fX2_giveFirm_2 (x0 : Nat) (x1 : Int32) (x2 : Int32) (M : gMem) : Option (Sum (Int32 × gMem) (gMem)) :=
  if gAl x0 = true then if (nI (gSh x0).2) ≤ x2 then some (.inr M) else gB0 (fX8_has x1 x2 M) (fun r2 => if r2 = 0 then some (.inl ((x2 + 1), M)) else if gIx 1 x0 x2 = true then some (.inl ((x2 + 1), (gSI M x0 (Int32.toNatClampNeg x2) x1))) else none) else none
set_option maxRecDepth 100000 in
theorem CX2_giveFirm_2 {G : gG} {d : Nat} {Z : Option Value → gMem → Prop} (hd : 1 ≤ d) (x0 : Nat) (x1 : Int32) (x2 : Int32) (M : gMem) (P : Sum (Int32 × gMem) (gMem) → Prop) (k0 : ∀ (N : gMem), P (.inr N) → Z none N) (k1 : ∀ (x2 : Int32) (M : gMem), P (.inl (x2, M)) → gGo G YX2_giveFirm d Z 2 [some (.ref x0), some (.int x1), some (.int x2)] [] M) (h : gOKq (fX2_giveFirm_2 x0 x1 x2 M) P) : gGo G YX2_giveFirm d Z 2 [some (.ref x0), some (.int x1), some (.int x2)] [] M := by
  unfold fX2_giveFirm_2 at h
  refine go_rn 2 (pc' := 4) (L' := [some (.ref x0), some (.int x1), some (.int x2)]) (S' := [.ref x0, .int x2]) (M' := M) okX2_giveFirm rfl ?_
  obtain ⟨c1, h⟩ := gq_if h
  refine go_ck okX2_giveFirm rfl c1 ?_
  refine go_br okX2_giveFirm rfl (fun hp => ?_) (fun hp => ?_)
  · have h := gq_pos hp h
    exact go_vret (reX2_giveFirm _ (by decide)) rfl (k0 M h)
  · have h := gq_neg hp h
    refine go_rn 2 (pc' := 10) (L' := [some (.ref x0), some (.int x1), some (.int x2)]) (S' := [.int x2, .int x1]) (M' := M) okX2_giveFirm rfl ?_
    obtain ⟨r2, e3, h⟩ := gB0_ok h
    refine go_call1 ocX2_giveFirm rfl rfl rfl rfl (SX8_has x1 x2 M e3) (Nat.lt_of_lt_of_le (by decide) hd) ?_
    refine go_br okX2_giveFirm rfl (fun hp => ?_) (fun hp => ?_)
    · have h := gq_pos hp h
      refine go_rn 2 (pc' := 2) (L' := [some (.ref x0), some (.int x1), some (.int (x2 + 1))]) (S' := []) (M' := M) okX2_giveFirm rfl ?_
      exact go_wk (k1 ((x2 + 1)) M h) ⟨rfl, rfl, rfl, True.intro⟩
    · have h := gq_neg hp h
      refine go_rn 3 (pc' := 19) (L' := [some (.ref x0), some (.int x1), some (.int x2)]) (S' := [.int x1, .int x2, .ref x0]) (M' := M) okX2_giveFirm rfl ?_
      obtain ⟨c4, h⟩ := gq_if h
      refine go_ck okX2_giveFirm rfl c4 ?_
      refine go_rn 2 (pc' := 2) (L' := [some (.ref x0), some (.int x1), some (.int (x2 + 1))]) (S' := []) (M' := (gSI M x0 (Int32.toNatClampNeg x2) x1)) okX2_giveFirm rfl ?_
      exact go_wk (k1 ((x2 + 1)) (gSI M x0 (Int32.toNatClampNeg x2) x1) h) ⟨rfl, rfl, rfl, True.intro⟩
def fX2_giveFirm_2h (x0 : Nat) (x1 : Int32) (x2 : Int32) (M : gMem) : Option (gMem) :=
  gLp (fun s : Int32 × gMem => fX2_giveFirm_2 x0 x1 (s.1) s.2) gFu (x2, M)
set_option maxRecDepth 100000 in
theorem CX2_giveFirm_2h {G : gG} {d : Nat} {Z : Option Value → gMem → Prop} (hd : 1 ≤ d) (x0 : Nat) (x1 : Int32) (x2 : Int32) (M : gMem) (P : gMem → Prop) (k0 : ∀ (N : gMem), P N → Z none N) (h : gOKq (fX2_giveFirm_2h x0 x1 x2 M) P) : gGo G YX2_giveFirm d Z 2 [some (.ref x0), some (.int x1), some (.int x2)] [] M :=
  gLp_go (K := fun s : Int32 × gMem => gGo G YX2_giveFirm d Z 2 [some (.ref x0), some (.int x1), some (.int s.1)] [] s.2) (P := P) (fun s hs => CX2_giveFirm_2 hd (x0) (x1) (s.1) (s.2) (Sum.elim (fun s : Int32 × gMem => gGo G YX2_giveFirm d Z 2 [some (.ref x0), some (.int x1), some (.int s.1)] [] s.2) P) k0 (fun x2 M hh => hh) hs) gFu (x2, M) h
def fX2_giveFirm_0 (x0 : Nat) (x1 : Int32) (M : gMem) : Option (gMem) :=
  fX2_giveFirm_2h x0 x1 (0 : Int32) M
set_option maxRecDepth 100000 in
theorem CX2_giveFirm_0 {G : gG} {d : Nat} {Z : Option Value → gMem → Prop} (hd : 1 ≤ d) (x0 : Nat) (x1 : Int32) (M : gMem) (P : gMem → Prop) (k0 : ∀ (N : gMem), P N → Z none N) (h : gOKq (fX2_giveFirm_0 x0 x1 M) P) : gGo G YX2_giveFirm d Z 0 [some (.ref x0), some (.int x1), none] [] M := by
  unfold fX2_giveFirm_0 at h
  refine go_rn 2 (pc' := 2) (L' := [some (.ref x0), some (.int x1), some (.int (0 : Int32))]) (S' := []) (M' := M) okX2_giveFirm rfl ?_
  exact go_wk (CX2_giveFirm_2h hd x0 x1 (0 : Int32) M P k0 h) ⟨rfl, rfl, rfl, True.intro⟩
def fX2_giveFirm (a0 : Nat) (a1 : Int32) (M : gMem) : Option (gMem) := fX2_giveFirm_0 a0 a1 M
theorem SX2_giveFirm {G : gG} (a0 : Nat) (a1 : Int32) (M : gMem) {N : gMem} (h : fX2_giveFirm a0 a1 M = some N) : gRun G YX2_giveFirm 1 [.ref a0, .int a1] M (fun r' N' => r' = none ∧ N' = N) := gRun_in (by decide +kernel) rfl (fun d hd => go_wk (CX2_giveFirm_0 hd a0 a1 M (fun p => p = N) (fun N hh => ⟨rfl, hh⟩) (gq_of h)) ⟨rfl, rfl, True.intro⟩)
def fX2_holdsIn_25 (x1 : Int32) (x3 : Int32) (s0 : Int32) (M : gMem) : Option (Int32) :=
  if s0 = 0 then some (0 : Int32) else if gIx 1 15 x1 = true then gB0 (fX8_has x3 (M.1 15 (Int32.toNatClampNeg x1)) M) (fun r2 => if r2 = 0 then if gIx 1 16 x1 = true then gB0 (fX8_has x3 (M.1 16 (Int32.toNatClampNeg x1)) M) (fun r5 => if r5 = 0 then some (1 : Int32) else some (0 : Int32)) else none else some (0 : Int32)) else none
set_option maxRecDepth 100000 in
theorem CX2_holdsIn_25 {G : gG} {d : Nat} {Z : Option Value → gMem → Prop} (hd : 1 ≤ d) (x1 : Int32) (x3 : Int32) (s0 : Int32) (M : gMem) (P : Int32 → Prop) (k0 : ∀ (r : Int32), P r → Z (some (.int r)) M) (h : gOKq (fX2_holdsIn_25 x1 x3 s0 M) P) : gGo G YX2_holdsIn d Z 25 [some (.ref 14), some (.int x1), none, some (.int x3), none] [.int s0] M := by
  unfold fX2_holdsIn_25 at h
  refine go_rn 2 (pc' := 29) (L' := [some (.ref 14), some (.int x1), none, some (.int x3), some (.int s0)]) (S' := [.int s0]) (M' := M) okX2_holdsIn rfl ?_
  refine go_br okX2_holdsIn rfl (fun hp => ?_) (fun hp => ?_)
  · have h := gq_pos hp h
    refine go_rn 1 (pc' := 63) (L' := [some (.ref 14), some (.int x1), none, some (.int x3), some (.int s0)]) (S' := [.int (0 : Int32)]) (M' := M) okX2_holdsIn rfl ?_
    exact go_zret (reX2_holdsIn _ (by decide)) rfl (Or.inl rfl) (k0 (0 : Int32) h)
  · have h := gq_neg hp h
    refine go_rn 2 (pc' := 34) (L' := [some (.ref 14), some (.int x1), none, some (.int x3), some (.int s0)]) (S' := [.ref 14, .int x3]) (M' := M) okX2_holdsIn rfl ?_
    refine go_ck okX2_holdsIn rfl (gOb_c rfl) ?_
    refine go_rn 1 (pc' := 38) (L' := [some (.ref 14), some (.int x1), none, some (.int x3), some (.int s0)]) (S' := [.int x1, .ref 15, .int x3]) (M' := M) okX2_holdsIn rfl ?_
    obtain ⟨c1, h⟩ := gq_if h
    refine go_ck okX2_holdsIn rfl c1 ?_
    obtain ⟨r2, e3, h⟩ := gB0_ok h
    refine go_call1 ocX2_holdsIn rfl rfl rfl rfl (SX8_has x3 (M.1 15 (Int32.toNatClampNeg x1)) M e3) (Nat.lt_of_lt_of_le (by decide) hd) ?_
    refine go_br okX2_holdsIn rfl (fun hp => ?_) (fun hp => ?_)
    · have h := gq_pos hp h
      refine go_rn 2 (pc' := 47) (L' := [some (.ref 14), some (.int x1), none, some (.int x3), some (.int s0)]) (S' := [.ref 14, .int x3]) (M' := M) okX2_holdsIn rfl ?_
      refine go_ck okX2_holdsIn rfl (gOb_c rfl) ?_
      refine go_rn 1 (pc' := 51) (L' := [some (.ref 14), some (.int x1), none, some (.int x3), some (.int s0)]) (S' := [.int x1, .ref 16, .int x3]) (M' := M) okX2_holdsIn rfl ?_
      obtain ⟨c4, h⟩ := gq_if h
      refine go_ck okX2_holdsIn rfl c4 ?_
      obtain ⟨r5, e6, h⟩ := gB0_ok h
      refine go_call1 ocX2_holdsIn rfl rfl rfl rfl (SX8_has x3 (M.1 16 (Int32.toNatClampNeg x1)) M e6) (Nat.lt_of_lt_of_le (by decide) hd) ?_
      refine go_br okX2_holdsIn rfl (fun hp => ?_) (fun hp => ?_)
      · have h := gq_pos hp h
        refine go_rn 2 (pc' := 63) (L' := [some (.ref 14), some (.int x1), none, some (.int x3), some (.int s0)]) (S' := [.int (1 : Int32)]) (M' := M) okX2_holdsIn rfl ?_
        exact go_zret (reX2_holdsIn _ (by decide)) rfl (Or.inr rfl) (k0 (1 : Int32) h)
      · have h := gq_neg hp h
        refine go_rn 1 (pc' := 63) (L' := [some (.ref 14), some (.int x1), none, some (.int x3), some (.int s0)]) (S' := [.int (0 : Int32)]) (M' := M) okX2_holdsIn rfl ?_
        exact go_zret (reX2_holdsIn _ (by decide)) rfl (Or.inl rfl) (k0 (0 : Int32) h)
    · have h := gq_neg hp h
      refine go_rn 1 (pc' := 63) (L' := [some (.ref 14), some (.int x1), none, some (.int x3), some (.int s0)]) (S' := [.int (0 : Int32)]) (M' := M) okX2_holdsIn rfl ?_
      exact go_zret (reX2_holdsIn _ (by decide)) rfl (Or.inl rfl) (k0 (0 : Int32) h)
def fX2_holdsIn_24 (x1 : Int32) (x3 : Int32) (M : gMem) : Option (Int32) :=
  fX2_holdsIn_25 x1 x3 (0 : Int32) M
set_option maxRecDepth 100000 in
theorem CX2_holdsIn_24 {G : gG} {d : Nat} {Z : Option Value → gMem → Prop} (hd : 1 ≤ d) (x1 : Int32) (x3 : Int32) (M : gMem) (P : Int32 → Prop) (k0 : ∀ (r : Int32), P r → Z (some (.int r)) M) (h : gOKq (fX2_holdsIn_24 x1 x3 M) P) : gGo G YX2_holdsIn d Z 24 [some (.ref 14), some (.int x1), none, some (.int x3), none] [] M := by
  unfold fX2_holdsIn_24 at h
  refine go_rn 1 (pc' := 25) (L' := [some (.ref 14), some (.int x1), none, some (.int x3), none]) (S' := [.int (0 : Int32)]) (M' := M) okX2_holdsIn rfl ?_
  exact go_wk (CX2_holdsIn_25 hd x1 x3 (0 : Int32) M P k0 h) ⟨rfl, rfl, rfl, True.intro⟩
def fX2_holdsIn_0 (x1 : Int32) (x2 : Int32) (x3 : Int32) (M : gMem) : Option (Int32) :=
  if gIx 1 17 x1 = true then if x2 < (M.1 17 (Int32.toNatClampNeg x1)) then fX2_holdsIn_24 x1 x3 M else if gIx 1 18 x1 = true then if (M.1 18 (Int32.toNatClampNeg x1)) ≤ x2 then fX2_holdsIn_24 x1 x3 M else fX2_holdsIn_25 x1 x3 (1 : Int32) M else none else none
set_option maxRecDepth 100000 in
theorem CX2_holdsIn_0 {G : gG} {d : Nat} {Z : Option Value → gMem → Prop} (hd : 1 ≤ d) (x1 : Int32) (x2 : Int32) (x3 : Int32) (M : gMem) (P : Int32 → Prop) (k0 : ∀ (r : Int32), P r → Z (some (.int r)) M) (h : gOKq (fX2_holdsIn_0 x1 x2 x3 M) P) : gGo G YX2_holdsIn d Z 0 [some (.ref 14), some (.int x1), some (.int x2), some (.int x3), none] [] M := by
  unfold fX2_holdsIn_0 at h
  refine go_rn 1 (pc' := 1) (L' := [some (.ref 14), some (.int x1), some (.int x2), some (.int x3), none]) (S' := [.ref 14]) (M' := M) okX2_holdsIn rfl ?_
  refine go_ck okX2_holdsIn rfl (gOb_c rfl) ?_
  refine go_rn 1 (pc' := 5) (L' := [some (.ref 14), some (.int x1), some (.int x2), some (.int x3), none]) (S' := [.int x1, .ref 17]) (M' := M) okX2_holdsIn rfl ?_
  obtain ⟨c1, h⟩ := gq_if h
  refine go_ck okX2_holdsIn rfl c1 ?_
  refine go_rn 1 (pc' := 7) (L' := [some (.ref 14), some (.int x1), some (.int x2), some (.int x3), none]) (S' := [.int x2, .int (M.1 17 (Int32.toNatClampNeg x1))]) (M' := M) okX2_holdsIn rfl ?_
  refine go_br okX2_holdsIn rfl (fun hp => ?_) (fun hp => ?_)
  · have h := gq_pos hp h
    exact go_wk (CX2_holdsIn_24 hd x1 x3 M P k0 h) ⟨rfl, rfl, rfl, True.intro⟩
  · have h := gq_neg hp h
    refine go_rn 2 (pc' := 12) (L' := [some (.ref 14), some (.int x1), some (.int x2), some (.int x3), none]) (S' := [.ref 14, .int x2]) (M' := M) okX2_holdsIn rfl ?_
    refine go_ck okX2_holdsIn rfl (gOb_c rfl) ?_
    refine go_rn 1 (pc' := 16) (L' := [some (.ref 14), some (.int x1), some (.int x2), some (.int x3), none]) (S' := [.int x1, .ref 18, .int x2]) (M' := M) okX2_holdsIn rfl ?_
    obtain ⟨c2, h⟩ := gq_if h
    refine go_ck okX2_holdsIn rfl c2 ?_
    refine go_br okX2_holdsIn rfl (fun hp => ?_) (fun hp => ?_)
    · have h := gq_pos hp h
      exact go_wk (CX2_holdsIn_24 hd x1 x3 M P k0 h) ⟨rfl, rfl, rfl, True.intro⟩
    · have h := gq_neg hp h
      refine go_rn 2 (pc' := 25) (L' := [some (.ref 14), some (.int x1), some (.int x2), some (.int x3), none]) (S' := [.int (1 : Int32)]) (M' := M) okX2_holdsIn rfl ?_
      exact go_wk (CX2_holdsIn_25 hd x1 x3 (1 : Int32) M P k0 h) ⟨rfl, rfl, rfl, True.intro⟩
def fX2_holdsIn (a1 : Int32) (a2 : Int32) (a3 : Int32) (M : gMem) : Option (Int32) := fX2_holdsIn_0 a1 a2 a3 M
theorem SX2_holdsIn {G : gG} (a1 : Int32) (a2 : Int32) (a3 : Int32) (M : gMem) {r : Int32} (h : fX2_holdsIn a1 a2 a3 M = some r) : gRun G YX2_holdsIn 1 [.ref 14, .int a1, .int a2, .int a3] M (fun r' N' => r' = some (.int r) ∧ N' = M) := gRun_in (by decide +kernel) rfl (fun d hd => go_wk (CX2_holdsIn_0 hd a1 a2 a3 M (fun p => p = r) (fun r hh => ⟨congrArg (fun z => some (Value.int z)) hh, rfl⟩) (gq_of h)) ⟨rfl, rfl, rfl, rfl, True.intro⟩)
def fX2_reach_4 (x0 : Nat) (x2 : Int32) (x3 : Int32) (M : gMem) : Option (Sum (Int32 × Int32) (Int32)) :=
  if (6 : Int32) ≤ x3 then some (.inr x2) else gB0 (fX2_tiedTo x0 x2 M) (fun r1 => if (x2 ||| r1) = x2 then some (.inr x2) else some (.inl ((x2 ||| r1), (x3 + 1))))
set_option maxRecDepth 100000 in
theorem CX2_reach_4 {G : gG} {d : Nat} {Z : Option Value → gMem → Prop} (hd : 2 ≤ d) (x0 : Nat) (x2 : Int32) (x3 : Int32) (M : gMem) (P : Sum (Int32 × Int32) (Int32) → Prop) (k0 : ∀ (r : Int32), P (.inr r) → Z (some (.int r)) M) (k1 : ∀ (x2 : Int32) (x3 : Int32), P (.inl (x2, x3)) → gGo G YX2_reach d Z 4 [some (.ref x0), none, some (.int x2), some (.int x3), none] [] M) (h : gOKq (fX2_reach_4 x0 x2 x3 M) P) : gGo G YX2_reach d Z 4 [some (.ref x0), none, some (.int x2), some (.int x3), none] [] M := by
  unfold fX2_reach_4 at h
  refine go_rn 2 (pc' := 7) (L' := [some (.ref x0), none, some (.int x2), some (.int x3), none]) (S' := [.int (6 : Int32), .int x3]) (M' := M) okX2_reach rfl ?_
  refine go_br okX2_reach rfl (fun hp => ?_) (fun hp => ?_)
  · have h := gq_pos hp h
    refine go_rn 1 (pc' := 37) (L' := [some (.ref x0), none, some (.int x2), some (.int x3), none]) (S' := [.int x2]) (M' := M) okX2_reach rfl ?_
    exact go_iret (reX2_reach _ (by decide)) rfl (k0 x2 h)
  · have h := gq_neg hp h
    refine go_rn 3 (pc' := 13) (L' := [some (.ref x0), none, some (.int x2), some (.int x3), none]) (S' := [.int x2, .ref x0, .int x2]) (M' := M) okX2_reach rfl ?_
    obtain ⟨r1, e2, h⟩ := gB0_ok h
    refine go_call1 ocX2_reach rfl rfl rfl rfl (SX2_tiedTo x0 x2 M e2) (Nat.lt_of_lt_of_le (by decide) hd) ?_
    refine go_rn 4 (pc' := 22) (L' := [some (.ref x0), none, some (.int x2), some (.int x3), some (.int (x2 ||| r1))]) (S' := [.int x2, .int (x2 ||| r1)]) (M' := M) okX2_reach rfl ?_
    refine go_br okX2_reach rfl (fun hp => ?_) (fun hp => ?_)
    · have h := gq_pos hp h
      refine go_rn 1 (pc' := 26) (L' := [some (.ref x0), none, some (.int x2), some (.int x3), some (.int (x2 ||| r1))]) (S' := [.int x2]) (M' := M) okX2_reach rfl ?_
      exact go_iret (reX2_reach _ (by decide)) rfl (k0 x2 h)
    · have h := gq_neg hp h
      refine go_rn 4 (pc' := 4) (L' := [some (.ref x0), none, some (.int (x2 ||| r1)), some (.int (x3 + 1)), some (.int (x2 ||| r1))]) (S' := []) (M' := M) okX2_reach rfl ?_
      exact go_wk (k1 ((x2 ||| r1)) ((x3 + 1)) h) ⟨rfl, rfl, rfl, True.intro⟩
def fX2_reach_4h (x0 : Nat) (x2 : Int32) (x3 : Int32) (M : gMem) : Option (Int32) :=
  gLp (fun s : Int32 × Int32 => fX2_reach_4 x0 (s.1) (s.2) M) gFu (x2, x3)
set_option maxRecDepth 100000 in
theorem CX2_reach_4h {G : gG} {d : Nat} {Z : Option Value → gMem → Prop} (hd : 2 ≤ d) (x0 : Nat) (x2 : Int32) (x3 : Int32) (M : gMem) (P : Int32 → Prop) (k0 : ∀ (r : Int32), P r → Z (some (.int r)) M) (h : gOKq (fX2_reach_4h x0 x2 x3 M) P) : gGo G YX2_reach d Z 4 [some (.ref x0), none, some (.int x2), some (.int x3), none] [] M :=
  gLp_go (K := fun s : Int32 × Int32 => gGo G YX2_reach d Z 4 [some (.ref x0), none, some (.int s.1), some (.int s.2), none] [] M) (P := P) (fun s hs => CX2_reach_4 hd (x0) (s.1) (s.2) M (Sum.elim (fun s : Int32 × Int32 => gGo G YX2_reach d Z 4 [some (.ref x0), none, some (.int s.1), some (.int s.2), none] [] M) P) k0 (fun x2 x3 hh => hh) hs) gFu (x2, x3) h
def fX2_reach_0 (x0 : Nat) (x1 : Int32) (M : gMem) : Option (Int32) :=
  fX2_reach_4h x0 x1 (0 : Int32) M
set_option maxRecDepth 100000 in
theorem CX2_reach_0 {G : gG} {d : Nat} {Z : Option Value → gMem → Prop} (hd : 2 ≤ d) (x0 : Nat) (x1 : Int32) (M : gMem) (P : Int32 → Prop) (k0 : ∀ (r : Int32), P r → Z (some (.int r)) M) (h : gOKq (fX2_reach_0 x0 x1 M) P) : gGo G YX2_reach d Z 0 [some (.ref x0), some (.int x1), none, none, none] [] M := by
  unfold fX2_reach_0 at h
  refine go_rn 4 (pc' := 4) (L' := [some (.ref x0), some (.int x1), some (.int x1), some (.int (0 : Int32)), none]) (S' := []) (M' := M) okX2_reach rfl ?_
  exact go_wk (CX2_reach_4h hd x0 x1 (0 : Int32) M P k0 h) ⟨rfl, rfl, rfl, True.intro⟩
def fX2_reach (a0 : Nat) (a1 : Int32) (M : gMem) : Option (Int32) := fX2_reach_0 a0 a1 M
theorem SX2_reach {G : gG} (a0 : Nat) (a1 : Int32) (M : gMem) {r : Int32} (h : fX2_reach a0 a1 M = some r) : gRun G YX2_reach 2 [.ref a0, .int a1] M (fun r' N' => r' = some (.int r) ∧ N' = M) := gRun_in (by decide +kernel) rfl (fun d hd => go_wk (CX2_reach_0 hd a0 a1 M (fun p => p = r) (fun r hh => ⟨congrArg (fun z => some (Value.int z)) hh, rfl⟩) (gq_of h)) ⟨rfl, rfl, True.intro⟩)
def fX2_joinUp_120 (x1 : Nat) (x3 : Int32) (x4 : Nat) (x5 : Nat) (x6 : Int32) (M : gMem) : Option (Sum (Int32 × gMem) (gMem)) :=
  if (M.1 x1 5) ≤ x6 then some (.inr M) else gB0 (fX8_has x3 x6 M) (fun r1 => if r1 = 0 then if gIx 1 x5 x6 = true then if (M.1 x5 (Int32.toNatClampNeg x6)) = 0 then gB0 (fX2_reach x4 ((1 : Int32) <<< (x6 &&& 31)) M) (fun r4 => gB0 (fX2_giveFirm x5 r4 M) (fun M6 => some (.inl ((x6 + 1), M6)))) else some (.inl ((x6 + 1), M)) else none else some (.inl ((x6 + 1), M)))
set_option maxRecDepth 100000 in
theorem CX2_joinUp_120 {G : gG} {d : Nat} {Z : Option Value → gMem → Prop} (hd : 3 ≤ d) (x1 : Nat) (x3 : Int32) (x4 : Nat) (x5 : Nat) (x6 : Int32) (M : gMem) (o_x1 : gOb 7 x1 = true) (P : Sum (Int32 × gMem) (gMem) → Prop) (k0 : ∀ (N : gMem), P (.inr N) → Z none N) (k1 : ∀ (x6 : Int32) (M : gMem), P (.inl (x6, M)) → gGo G YX2_joinUp d Z 120 [none, some (.ref x1), none, some (.int x3), some (.ref x4), some (.ref x5), some (.int x6)] [] M) (h : gOKq (fX2_joinUp_120 x1 x3 x4 x5 x6 M) P) : gGo G YX2_joinUp d Z 120 [none, some (.ref x1), none, some (.int x3), some (.ref x4), some (.ref x5), some (.int x6)] [] M := by
  unfold fX2_joinUp_120 at h
  refine go_rn 2 (pc' := 123) (L' := [none, some (.ref x1), none, some (.int x3), some (.ref x4), some (.ref x5), some (.int x6)]) (S' := [.ref x1, .int x6]) (M' := M) okX2_joinUp rfl ?_
  refine go_ck okX2_joinUp rfl o_x1 ?_
  refine go_br okX2_joinUp rfl (fun hp => ?_) (fun hp => ?_)
  · have h := gq_pos hp h
    exact go_vret (reX2_joinUp _ (by decide)) rfl (k0 M h)
  · have h := gq_neg hp h
    refine go_rn 2 (pc' := 132) (L' := [none, some (.ref x1), none, some (.int x3), some (.ref x4), some (.ref x5), some (.int x6)]) (S' := [.int x6, .int x3]) (M' := M) okX2_joinUp rfl ?_
    obtain ⟨r1, e2, h⟩ := gB0_ok h
    refine go_call1 ocX2_joinUp rfl rfl rfl rfl (SX8_has x3 x6 M e2) (Nat.lt_of_lt_of_le (by decide) hd) ?_
    refine go_br okX2_joinUp rfl (fun hp => ?_) (fun hp => ?_)
    · have h := gq_pos hp h
      refine go_rn 2 (pc' := 142) (L' := [none, some (.ref x1), none, some (.int x3), some (.ref x4), some (.ref x5), some (.int x6)]) (S' := [.int x6, .ref x5]) (M' := M) okX2_joinUp rfl ?_
      obtain ⟨c3, h⟩ := gq_if h
      refine go_ck okX2_joinUp rfl c3 ?_
      refine go_br okX2_joinUp rfl (fun hp => ?_) (fun hp => ?_)
      · have h := gq_pos hp h
        refine go_rn 5 (pc' := 154) (L' := [none, some (.ref x1), none, some (.int x3), some (.ref x4), some (.ref x5), some (.int x6)]) (S' := [.int ((1 : Int32) <<< (x6 &&& 31)), .ref x4, .ref x5]) (M' := M) okX2_joinUp rfl ?_
        obtain ⟨r4, e5, h⟩ := gB0_ok h
        refine go_call1 ocX2_joinUp rfl rfl rfl rfl (SX2_reach x4 ((1 : Int32) <<< (x6 &&& 31)) M e5) (Nat.lt_of_lt_of_le (by decide) hd) ?_
        obtain ⟨M6, e7, h⟩ := gB0_ok h
        refine go_call1 ocX2_joinUp rfl rfl rfl rfl (SX2_giveFirm x5 r4 M e7) (Nat.lt_of_lt_of_le (by decide) hd) ?_
        refine go_rn 2 (pc' := 120) (L' := [none, some (.ref x1), none, some (.int x3), some (.ref x4), some (.ref x5), some (.int (x6 + 1))]) (S' := []) (M' := M6) okX2_joinUp rfl ?_
        exact go_wk (k1 ((x6 + 1)) M6 h) ⟨rfl, rfl, rfl, rfl, rfl, True.intro⟩
      · have h := gq_neg hp h
        refine go_rn 2 (pc' := 120) (L' := [none, some (.ref x1), none, some (.int x3), some (.ref x4), some (.ref x5), some (.int (x6 + 1))]) (S' := []) (M' := M) okX2_joinUp rfl ?_
        exact go_wk (k1 ((x6 + 1)) M h) ⟨rfl, rfl, rfl, rfl, rfl, True.intro⟩
    · have h := gq_neg hp h
      refine go_rn 2 (pc' := 120) (L' := [none, some (.ref x1), none, some (.int x3), some (.ref x4), some (.ref x5), some (.int (x6 + 1))]) (S' := []) (M' := M) okX2_joinUp rfl ?_
      exact go_wk (k1 ((x6 + 1)) M h) ⟨rfl, rfl, rfl, rfl, rfl, True.intro⟩
def fX2_joinUp_120h (x1 : Nat) (x3 : Int32) (x4 : Nat) (x5 : Nat) (x6 : Int32) (M : gMem) : Option (gMem) :=
  gLp (fun s : Int32 × gMem => fX2_joinUp_120 x1 x3 x4 x5 (s.1) s.2) gFu (x6, M)
set_option maxRecDepth 100000 in
theorem CX2_joinUp_120h {G : gG} {d : Nat} {Z : Option Value → gMem → Prop} (hd : 3 ≤ d) (x1 : Nat) (x3 : Int32) (x4 : Nat) (x5 : Nat) (x6 : Int32) (M : gMem) (o_x1 : gOb 7 x1 = true) (P : gMem → Prop) (k0 : ∀ (N : gMem), P N → Z none N) (h : gOKq (fX2_joinUp_120h x1 x3 x4 x5 x6 M) P) : gGo G YX2_joinUp d Z 120 [none, some (.ref x1), none, some (.int x3), some (.ref x4), some (.ref x5), some (.int x6)] [] M :=
  gLp_go (K := fun s : Int32 × gMem => gGo G YX2_joinUp d Z 120 [none, some (.ref x1), none, some (.int x3), some (.ref x4), some (.ref x5), some (.int s.1)] [] s.2) (P := P) (fun s hs => CX2_joinUp_120 hd (x1) (x3) (x4) (x5) (s.1) (s.2) o_x1 (Sum.elim (fun s : Int32 × gMem => gGo G YX2_joinUp d Z 120 [none, some (.ref x1), none, some (.int x3), some (.ref x4), some (.ref x5), some (.int s.1)] [] s.2) P) k0 (fun x6 M hh => hh) hs) gFu (x6, M) h
def fX2_joinUp_97 (x1 : Nat) (x2 : Int32) (x3 : Int32) (x4 : Nat) (x5 : Nat) (x6 : Int32) (s0 : Int32) (s2 : Nat) (M : gMem) : Option (Sum (Int32 × gMem) (gMem)) :=
  if gIx 1 16 s0 = true then if gIx 1 s2 (M.1 16 (Int32.toNatClampNeg s0)) = true then if gIx 1 15 x6 = true then if gIx 1 s2 (M.1 16 (Int32.toNatClampNeg s0)) = true then some (.inl ((x6 + 1), (gSI M s2 (Int32.toNatClampNeg (M.1 16 (Int32.toNatClampNeg s0))) ((M.1 s2 (Int32.toNatClampNeg (M.1 16 (Int32.toNatClampNeg s0)))) ||| ((1 : Int32) <<< ((M.1 15 (Int32.toNatClampNeg x6)) &&& 31)))))) else none else none else none else none
set_option maxRecDepth 100000 in
theorem CX2_joinUp_97 {G : gG} {d : Nat} {Z : Option Value → gMem → Prop} (hd : 3 ≤ d) (x1 : Nat) (x2 : Int32) (x3 : Int32) (x4 : Nat) (x5 : Nat) (x6 : Int32) (s0 : Int32) (s2 : Nat) (M : gMem) (o_x1 : gOb 7 x1 = true) (P : Sum (Int32 × gMem) (gMem) → Prop) (k0 : ∀ (N : gMem), P (.inr N) → Z none N) (k1 : ∀ (x6 : Int32) (M : gMem), P (.inl (x6, M)) → gGo G YX2_joinUp d Z 47 [some (.ref 14), some (.ref x1), some (.int x2), some (.int x3), some (.ref x4), some (.ref x5), some (.int x6)] [] M) (h : gOKq (fX2_joinUp_97 x1 x2 x3 x4 x5 x6 s0 s2 M) P) : gGo G YX2_joinUp d Z 97 [some (.ref 14), some (.ref x1), some (.int x2), some (.int x3), some (.ref x4), some (.ref x5), some (.int x6)] [.int s0, .ref 16, .ref s2] M := by
  unfold fX2_joinUp_97 at h
  obtain ⟨c1, h⟩ := gq_if h
  refine go_ck okX2_joinUp rfl c1 ?_
  refine go_rn 1 (pc' := 99) (L' := [some (.ref 14), some (.ref x1), some (.int x2), some (.int x3), some (.ref x4), some (.ref x5), some (.int x6)]) (S' := [.int (M.1 16 (Int32.toNatClampNeg s0)), .ref s2, .int (M.1 16 (Int32.toNatClampNeg s0)), .ref s2]) (M' := M) okX2_joinUp rfl ?_
  obtain ⟨c2, h⟩ := gq_if h
  refine go_ck okX2_joinUp rfl c2 ?_
  refine go_rn 2 (pc' := 102) (L' := [some (.ref 14), some (.ref x1), some (.int x2), some (.int x3), some (.ref x4), some (.ref x5), some (.int x6)]) (S' := [.ref 14, .int (1 : Int32), .int (M.1 s2 (Int32.toNatClampNeg (M.1 16 (Int32.toNatClampNeg s0)))), .int (M.1 16 (Int32.toNatClampNeg s0)), .ref s2]) (M' := M) okX2_joinUp rfl ?_
  refine go_ck okX2_joinUp rfl (gOb_c rfl) ?_
  refine go_rn 1 (pc' := 107) (L' := [some (.ref 14), some (.ref x1), some (.int x2), some (.int x3), some (.ref x4), some (.ref x5), some (.int x6)]) (S' := [.int x6, .ref 15, .int (1 : Int32), .int (M.1 s2 (Int32.toNatClampNeg (M.1 16 (Int32.toNatClampNeg s0)))), .int (M.1 16 (Int32.toNatClampNeg s0)), .ref s2]) (M' := M) okX2_joinUp rfl ?_
  obtain ⟨c3, h⟩ := gq_if h
  refine go_ck okX2_joinUp rfl c3 ?_
  refine go_rn 2 (pc' := 110) (L' := [some (.ref 14), some (.ref x1), some (.int x2), some (.int x3), some (.ref x4), some (.ref x5), some (.int x6)]) (S' := [.int ((M.1 s2 (Int32.toNatClampNeg (M.1 16 (Int32.toNatClampNeg s0)))) ||| ((1 : Int32) <<< ((M.1 15 (Int32.toNatClampNeg x6)) &&& 31))), .int (M.1 16 (Int32.toNatClampNeg s0)), .ref s2]) (M' := M) okX2_joinUp rfl ?_
  obtain ⟨c4, h⟩ := gq_if h
  refine go_ck okX2_joinUp rfl c4 ?_
  refine go_rn 2 (pc' := 47) (L' := [some (.ref 14), some (.ref x1), some (.int x2), some (.int x3), some (.ref x4), some (.ref x5), some (.int (x6 + 1))]) (S' := []) (M' := (gSI M s2 (Int32.toNatClampNeg (M.1 16 (Int32.toNatClampNeg s0))) ((M.1 s2 (Int32.toNatClampNeg (M.1 16 (Int32.toNatClampNeg s0)))) ||| ((1 : Int32) <<< ((M.1 15 (Int32.toNatClampNeg x6)) &&& 31))))) okX2_joinUp rfl ?_
  exact go_wk (k1 ((x6 + 1)) (gSI M s2 (Int32.toNatClampNeg (M.1 16 (Int32.toNatClampNeg s0))) ((M.1 s2 (Int32.toNatClampNeg (M.1 16 (Int32.toNatClampNeg s0)))) ||| ((1 : Int32) <<< ((M.1 15 (Int32.toNatClampNeg x6)) &&& 31)))) h) ⟨rfl, rfl, rfl, rfl, rfl, rfl, rfl, True.intro⟩
def fX2_joinUp_47 (x1 : Nat) (x2 : Int32) (x3 : Int32) (x4 : Nat) (x5 : Nat) (x6 : Int32) (M : gMem) : Option (Sum (Int32 × gMem) (gMem)) :=
  if (M.1 14 5) ≤ x6 then gEx (fX2_joinUp_120h x1 x3 x4 x5 (0 : Int32) M) else gB0 (fX2_holdsIn x6 x2 x3 M) (fun r1 => if r1 = 0 then some (.inl ((x6 + 1), M)) else if gIx 1 15 x6 = true then if gIx 1 x4 (M.1 15 (Int32.toNatClampNeg x6)) = true then if gIx 1 16 x6 = true then if gIx 1 x4 (M.1 15 (Int32.toNatClampNeg x6)) = true then fX2_joinUp_97 x1 x2 x3 x4 x5 x6 x6 x4 (gSI M x4 (Int32.toNatClampNeg (M.1 15 (Int32.toNatClampNeg x6))) ((M.1 x4 (Int32.toNatClampNeg (M.1 15 (Int32.toNatClampNeg x6)))) ||| ((1 : Int32) <<< ((M.1 16 (Int32.toNatClampNeg x6)) &&& 31)))) else none else none else none else none)
set_option maxRecDepth 100000 in
theorem CX2_joinUp_47 {G : gG} {d : Nat} {Z : Option Value → gMem → Prop} (hd : 3 ≤ d) (x1 : Nat) (x2 : Int32) (x3 : Int32) (x4 : Nat) (x5 : Nat) (x6 : Int32) (M : gMem) (o_x1 : gOb 7 x1 = true) (P : Sum (Int32 × gMem) (gMem) → Prop) (k0 : ∀ (N : gMem), P (.inr N) → Z none N) (k1 : ∀ (x6 : Int32) (M : gMem), P (.inl (x6, M)) → gGo G YX2_joinUp d Z 47 [some (.ref 14), some (.ref x1), some (.int x2), some (.int x3), some (.ref x4), some (.ref x5), some (.int x6)] [] M) (h : gOKq (fX2_joinUp_47 x1 x2 x3 x4 x5 x6 M) P) : gGo G YX2_joinUp d Z 47 [some (.ref 14), some (.ref x1), some (.int x2), some (.int x3), some (.ref x4), some (.ref x5), some (.int x6)] [] M := by
  unfold fX2_joinUp_47 at h
  refine go_rn 2 (pc' := 50) (L' := [some (.ref 14), some (.ref x1), some (.int x2), some (.int x3), some (.ref x4), some (.ref x5), some (.int x6)]) (S' := [.ref 14, .int x6]) (M' := M) okX2_joinUp rfl ?_
  refine go_ck okX2_joinUp rfl (gOb_c rfl) ?_
  refine go_br okX2_joinUp rfl (fun hp => ?_) (fun hp => ?_)
  · have h := gq_pos hp h
    refine go_rn 2 (pc' := 120) (L' := [some (.ref 14), some (.ref x1), some (.int x2), some (.int x3), some (.ref x4), some (.ref x5), some (.int (0 : Int32))]) (S' := []) (M' := M) okX2_joinUp rfl ?_
    exact go_wk (CX2_joinUp_120h hd x1 x3 x4 x5 (0 : Int32) M o_x1 (fun q => P (.inr q)) k0 (gEx_ok h)) ⟨rfl, rfl, rfl, rfl, rfl, True.intro⟩
  · have h := gq_neg hp h
    refine go_rn 4 (pc' := 61) (L' := [some (.ref 14), some (.ref x1), some (.int x2), some (.int x3), some (.ref x4), some (.ref x5), some (.int x6)]) (S' := [.int x3, .int x2, .int x6, .ref 14]) (M' := M) okX2_joinUp rfl ?_
    obtain ⟨r1, e2, h⟩ := gB0_ok h
    refine go_call1 ocX2_joinUp rfl rfl (gOb_c rfl) rfl (SX2_holdsIn x6 x2 x3 M e2) (Nat.lt_of_lt_of_le (by decide) hd) ?_
    refine go_br okX2_joinUp rfl (fun hp => ?_) (fun hp => ?_)
    · have h := gq_pos hp h
      refine go_rn 2 (pc' := 47) (L' := [some (.ref 14), some (.ref x1), some (.int x2), some (.int x3), some (.ref x4), some (.ref x5), some (.int (x6 + 1))]) (S' := []) (M' := M) okX2_joinUp rfl ?_
      exact go_wk (k1 ((x6 + 1)) M h) ⟨rfl, rfl, rfl, rfl, rfl, rfl, rfl, True.intro⟩
    · have h := gq_neg hp h
      refine go_rn 2 (pc' := 70) (L' := [some (.ref 14), some (.ref x1), some (.int x2), some (.int x3), some (.ref x4), some (.ref x5), some (.int x6)]) (S' := [.ref 14, .ref x4]) (M' := M) okX2_joinUp rfl ?_
      refine go_ck okX2_joinUp rfl (gOb_c rfl) ?_
      refine go_rn 1 (pc' := 75) (L' := [some (.ref 14), some (.ref x1), some (.int x2), some (.int x3), some (.ref x4), some (.ref x5), some (.int x6)]) (S' := [.int x6, .ref 15, .ref x4]) (M' := M) okX2_joinUp rfl ?_
      obtain ⟨c3, h⟩ := gq_if h
      refine go_ck okX2_joinUp rfl c3 ?_
      refine go_rn 1 (pc' := 77) (L' := [some (.ref 14), some (.ref x1), some (.int x2), some (.int x3), some (.ref x4), some (.ref x5), some (.int x6)]) (S' := [.int (M.1 15 (Int32.toNatClampNeg x6)), .ref x4, .int (M.1 15 (Int32.toNatClampNeg x6)), .ref x4]) (M' := M) okX2_joinUp rfl ?_
      obtain ⟨c4, h⟩ := gq_if h
      refine go_ck okX2_joinUp rfl c4 ?_
      refine go_rn 2 (pc' := 80) (L' := [some (.ref 14), some (.ref x1), some (.int x2), some (.int x3), some (.ref x4), some (.ref x5), some (.int x6)]) (S' := [.ref 14, .int (1 : Int32), .int (M.1 x4 (Int32.toNatClampNeg (M.1 15 (Int32.toNatClampNeg x6)))), .int (M.1 15 (Int32.toNatClampNeg x6)), .ref x4]) (M' := M) okX2_joinUp rfl ?_
      refine go_ck okX2_joinUp rfl (gOb_c rfl) ?_
      refine go_rn 1 (pc' := 85) (L' := [some (.ref 14), some (.ref x1), some (.int x2), some (.int x3), some (.ref x4), some (.ref x5), some (.int x6)]) (S' := [.int x6, .ref 16, .int (1 : Int32), .int (M.1 x4 (Int32.toNatClampNeg (M.1 15 (Int32.toNatClampNeg x6)))), .int (M.1 15 (Int32.toNatClampNeg x6)), .ref x4]) (M' := M) okX2_joinUp rfl ?_
      obtain ⟨c5, h⟩ := gq_if h
      refine go_ck okX2_joinUp rfl c5 ?_
      refine go_rn 2 (pc' := 88) (L' := [some (.ref 14), some (.ref x1), some (.int x2), some (.int x3), some (.ref x4), some (.ref x5), some (.int x6)]) (S' := [.int ((M.1 x4 (Int32.toNatClampNeg (M.1 15 (Int32.toNatClampNeg x6)))) ||| ((1 : Int32) <<< ((M.1 16 (Int32.toNatClampNeg x6)) &&& 31))), .int (M.1 15 (Int32.toNatClampNeg x6)), .ref x4]) (M' := M) okX2_joinUp rfl ?_
      obtain ⟨c6, h⟩ := gq_if h
      refine go_ck okX2_joinUp rfl c6 ?_
      refine go_rn 2 (pc' := 92) (L' := [some (.ref 14), some (.ref x1), some (.int x2), some (.int x3), some (.ref x4), some (.ref x5), some (.int x6)]) (S' := [.ref 14, .ref x4]) (M' := (gSI M x4 (Int32.toNatClampNeg (M.1 15 (Int32.toNatClampNeg x6))) ((M.1 x4 (Int32.toNatClampNeg (M.1 15 (Int32.toNatClampNeg x6)))) ||| ((1 : Int32) <<< ((M.1 16 (Int32.toNatClampNeg x6)) &&& 31))))) okX2_joinUp rfl ?_
      refine go_ck okX2_joinUp rfl (gOb_c rfl) ?_
      refine go_rn 1 (pc' := 97) (L' := [some (.ref 14), some (.ref x1), some (.int x2), some (.int x3), some (.ref x4), some (.ref x5), some (.int x6)]) (S' := [.int x6, .ref 16, .ref x4]) (M' := (gSI M x4 (Int32.toNatClampNeg (M.1 15 (Int32.toNatClampNeg x6))) ((M.1 x4 (Int32.toNatClampNeg (M.1 15 (Int32.toNatClampNeg x6)))) ||| ((1 : Int32) <<< ((M.1 16 (Int32.toNatClampNeg x6)) &&& 31))))) okX2_joinUp rfl ?_
      exact go_wk (CX2_joinUp_97 hd x1 x2 x3 x4 x5 x6 x6 x4 (gSI M x4 (Int32.toNatClampNeg (M.1 15 (Int32.toNatClampNeg x6))) ((M.1 x4 (Int32.toNatClampNeg (M.1 15 (Int32.toNatClampNeg x6)))) ||| ((1 : Int32) <<< ((M.1 16 (Int32.toNatClampNeg x6)) &&& 31)))) o_x1 P k0 k1 h) ⟨rfl, rfl, rfl, rfl, rfl, rfl, rfl, True.intro⟩
def fX2_joinUp_47h (x1 : Nat) (x2 : Int32) (x3 : Int32) (x4 : Nat) (x5 : Nat) (x6 : Int32) (M : gMem) : Option (gMem) :=
  gLp (fun s : Int32 × gMem => fX2_joinUp_47 x1 x2 x3 x4 x5 (s.1) s.2) gFu (x6, M)
set_option maxRecDepth 100000 in
theorem CX2_joinUp_47h {G : gG} {d : Nat} {Z : Option Value → gMem → Prop} (hd : 3 ≤ d) (x1 : Nat) (x2 : Int32) (x3 : Int32) (x4 : Nat) (x5 : Nat) (x6 : Int32) (M : gMem) (o_x1 : gOb 7 x1 = true) (P : gMem → Prop) (k0 : ∀ (N : gMem), P N → Z none N) (h : gOKq (fX2_joinUp_47h x1 x2 x3 x4 x5 x6 M) P) : gGo G YX2_joinUp d Z 47 [some (.ref 14), some (.ref x1), some (.int x2), some (.int x3), some (.ref x4), some (.ref x5), some (.int x6)] [] M :=
  gLp_go (K := fun s : Int32 × gMem => gGo G YX2_joinUp d Z 47 [some (.ref 14), some (.ref x1), some (.int x2), some (.int x3), some (.ref x4), some (.ref x5), some (.int s.1)] [] s.2) (P := P) (fun s hs => CX2_joinUp_47 hd (x1) (x2) (x3) (x4) (x5) (s.1) (s.2) o_x1 (Sum.elim (fun s : Int32 × gMem => gGo G YX2_joinUp d Z 47 [some (.ref 14), some (.ref x1), some (.int x2), some (.int x3), some (.ref x4), some (.ref x5), some (.int s.1)] [] s.2) P) k0 (fun x6 M hh => hh) hs) gFu (x6, M) h
def fX2_joinUp_37 (x1 : Nat) (x2 : Int32) (x3 : Int32) (x4 : Nat) (x5 : Nat) (x6 : Int32) (s0 : Int32) (s1 : Int32) (s2 : Nat) (M : gMem) : Option (Sum (Int32 × gMem) (gMem)) :=
  if gIx 1 s2 s1 = true then some (.inl ((x6 + 1), (gSI M s2 (Int32.toNatClampNeg s1) s0))) else none
set_option maxRecDepth 100000 in
theorem CX2_joinUp_37 {G : gG} {d : Nat} {Z : Option Value → gMem → Prop} (hd : 3 ≤ d) (x1 : Nat) (x2 : Int32) (x3 : Int32) (x4 : Nat) (x5 : Nat) (x6 : Int32) (s0 : Int32) (s1 : Int32) (s2 : Nat) (M : gMem) (o_x1 : gOb 7 x1 = true) (P : Sum (Int32 × gMem) (gMem) → Prop) (k0 : ∀ (N : gMem), P (.inr N) → Z none N) (k1 : ∀ (x6 : Int32) (M : gMem), P (.inl (x6, M)) → gGo G YX2_joinUp d Z 19 [some (.ref 14), some (.ref x1), some (.int x2), some (.int x3), some (.ref x4), some (.ref x5), some (.int x6)] [] M) (h : gOKq (fX2_joinUp_37 x1 x2 x3 x4 x5 x6 s0 s1 s2 M) P) : gGo G YX2_joinUp d Z 37 [some (.ref 14), some (.ref x1), some (.int x2), some (.int x3), some (.ref x4), some (.ref x5), some (.int x6)] [.int s0, .int s1, .ref s2] M := by
  unfold fX2_joinUp_37 at h
  obtain ⟨c1, h⟩ := gq_if h
  refine go_ck okX2_joinUp rfl c1 ?_
  refine go_rn 2 (pc' := 19) (L' := [some (.ref 14), some (.ref x1), some (.int x2), some (.int x3), some (.ref x4), some (.ref x5), some (.int (x6 + 1))]) (S' := []) (M' := (gSI M s2 (Int32.toNatClampNeg s1) s0)) okX2_joinUp rfl ?_
  exact go_wk (k1 ((x6 + 1)) (gSI M s2 (Int32.toNatClampNeg s1) s0) h) ⟨rfl, rfl, rfl, rfl, rfl, rfl, rfl, True.intro⟩
def fX2_joinUp_19 (x1 : Nat) (x2 : Int32) (x3 : Int32) (x4 : Nat) (x5 : Nat) (x6 : Int32) (M : gMem) : Option (Sum (Int32 × gMem) (gMem)) :=
  if (6 : Int32) ≤ x6 then gEx (fX2_joinUp_47h x1 x2 x3 x4 x5 (0 : Int32) M) else if gIx 1 x4 x6 = true then fX2_joinUp_37 x1 x2 x3 x4 x5 x6 (0 : Int32) x6 x5 (gSI M x4 (Int32.toNatClampNeg x6) (0 : Int32)) else none
set_option maxRecDepth 100000 in
theorem CX2_joinUp_19 {G : gG} {d : Nat} {Z : Option Value → gMem → Prop} (hd : 3 ≤ d) (x1 : Nat) (x2 : Int32) (x3 : Int32) (x4 : Nat) (x5 : Nat) (x6 : Int32) (M : gMem) (o_x1 : gOb 7 x1 = true) (P : Sum (Int32 × gMem) (gMem) → Prop) (k0 : ∀ (N : gMem), P (.inr N) → Z none N) (k1 : ∀ (x6 : Int32) (M : gMem), P (.inl (x6, M)) → gGo G YX2_joinUp d Z 19 [some (.ref 14), some (.ref x1), some (.int x2), some (.int x3), some (.ref x4), some (.ref x5), some (.int x6)] [] M) (h : gOKq (fX2_joinUp_19 x1 x2 x3 x4 x5 x6 M) P) : gGo G YX2_joinUp d Z 19 [some (.ref 14), some (.ref x1), some (.int x2), some (.int x3), some (.ref x4), some (.ref x5), some (.int x6)] [] M := by
  unfold fX2_joinUp_19 at h
  refine go_rn 2 (pc' := 23) (L' := [some (.ref 14), some (.ref x1), some (.int x2), some (.int x3), some (.ref x4), some (.ref x5), some (.int x6)]) (S' := [.int (6 : Int32), .int x6]) (M' := M) okX2_joinUp rfl ?_
  refine go_br okX2_joinUp rfl (fun hp => ?_) (fun hp => ?_)
  · have h := gq_pos hp h
    refine go_rn 2 (pc' := 47) (L' := [some (.ref 14), some (.ref x1), some (.int x2), some (.int x3), some (.ref x4), some (.ref x5), some (.int (0 : Int32))]) (S' := []) (M' := M) okX2_joinUp rfl ?_
    exact go_wk (CX2_joinUp_47h hd x1 x2 x3 x4 x5 (0 : Int32) M o_x1 (fun q => P (.inr q)) k0 (gEx_ok h)) ⟨rfl, rfl, rfl, rfl, rfl, rfl, rfl, True.intro⟩
  · have h := gq_neg hp h
    refine go_rn 3 (pc' := 31) (L' := [some (.ref 14), some (.ref x1), some (.int x2), some (.int x3), some (.ref x4), some (.ref x5), some (.int x6)]) (S' := [.int (0 : Int32), .int x6, .ref x4]) (M' := M) okX2_joinUp rfl ?_
    obtain ⟨c1, h⟩ := gq_if h
    refine go_ck okX2_joinUp rfl c1 ?_
    refine go_rn 3 (pc' := 37) (L' := [some (.ref 14), some (.ref x1), some (.int x2), some (.int x3), some (.ref x4), some (.ref x5), some (.int x6)]) (S' := [.int (0 : Int32), .int x6, .ref x5]) (M' := (gSI M x4 (Int32.toNatClampNeg x6) (0 : Int32))) okX2_joinUp rfl ?_
    exact go_wk (CX2_joinUp_37 hd x1 x2 x3 x4 x5 x6 (0 : Int32) x6 x5 (gSI M x4 (Int32.toNatClampNeg x6) (0 : Int32)) o_x1 P k0 k1 h) ⟨rfl, rfl, rfl, rfl, rfl, rfl, rfl, True.intro⟩
def fX2_joinUp_19h (x1 : Nat) (x2 : Int32) (x3 : Int32) (x4 : Nat) (x5 : Nat) (x6 : Int32) (M : gMem) : Option (gMem) :=
  gLp (fun s : Int32 × gMem => fX2_joinUp_19 x1 x2 x3 x4 x5 (s.1) s.2) gFu (x6, M)
set_option maxRecDepth 100000 in
theorem CX2_joinUp_19h {G : gG} {d : Nat} {Z : Option Value → gMem → Prop} (hd : 3 ≤ d) (x1 : Nat) (x2 : Int32) (x3 : Int32) (x4 : Nat) (x5 : Nat) (x6 : Int32) (M : gMem) (o_x1 : gOb 7 x1 = true) (P : gMem → Prop) (k0 : ∀ (N : gMem), P N → Z none N) (h : gOKq (fX2_joinUp_19h x1 x2 x3 x4 x5 x6 M) P) : gGo G YX2_joinUp d Z 19 [some (.ref 14), some (.ref x1), some (.int x2), some (.int x3), some (.ref x4), some (.ref x5), some (.int x6)] [] M :=
  gLp_go (K := fun s : Int32 × gMem => gGo G YX2_joinUp d Z 19 [some (.ref 14), some (.ref x1), some (.int x2), some (.int x3), some (.ref x4), some (.ref x5), some (.int s.1)] [] s.2) (P := P) (fun s hs => CX2_joinUp_19 hd (x1) (x2) (x3) (x4) (x5) (s.1) (s.2) o_x1 (Sum.elim (fun s : Int32 × gMem => gGo G YX2_joinUp d Z 19 [some (.ref 14), some (.ref x1), some (.int x2), some (.int x3), some (.ref x4), some (.ref x5), some (.int s.1)] [] s.2) P) k0 (fun x6 M hh => hh) hs) gFu (x6, M) h
def fX2_joinUp_0 (x1 : Nat) (x2 : Int32) (x3 : Int32) (M : gMem) : Option (gMem) :=
  if gIx 7 35 x2 = true then if gIx 7 48 x2 = true then fX2_joinUp_19h x1 x2 x3 (gRa 35 (Int32.toNatClampNeg x2)) (gRa 48 (Int32.toNatClampNeg x2)) (0 : Int32) M else none else none
set_option maxRecDepth 100000 in
theorem CX2_joinUp_0 {G : gG} {d : Nat} {Z : Option Value → gMem → Prop} (hd : 3 ≤ d) (x1 : Nat) (x2 : Int32) (x3 : Int32) (M : gMem) (o_x1 : gOb 7 x1 = true) (P : gMem → Prop) (k0 : ∀ (N : gMem), P N → Z none N) (h : gOKq (fX2_joinUp_0 x1 x2 x3 M) P) : gGo G YX2_joinUp d Z 0 [some (.ref 14), some (.ref x1), some (.int x2), some (.int x3), none, none, none] [] M := by
  unfold fX2_joinUp_0 at h
  refine go_rn 1 (pc' := 1) (L' := [some (.ref 14), some (.ref x1), some (.int x2), some (.int x3), none, none, none]) (S' := [.ref 14]) (M' := M) okX2_joinUp rfl ?_
  refine go_ck okX2_joinUp rfl (gOb_c rfl) ?_
  refine go_rn 1 (pc' := 5) (L' := [some (.ref 14), some (.ref x1), some (.int x2), some (.int x3), none, none, none]) (S' := [.int x2, .ref 35]) (M' := M) okX2_joinUp rfl ?_
  obtain ⟨c1, h⟩ := gq_if h
  refine go_ck okX2_joinUp rfl c1 ?_
  refine go_rn 2 (pc' := 9) (L' := [some (.ref 14), some (.ref x1), some (.int x2), some (.int x3), some (.ref (gRa 35 (Int32.toNatClampNeg x2))), none, none]) (S' := [.ref 14]) (M' := M) okX2_joinUp rfl ?_
  refine go_ck okX2_joinUp rfl (gOb_c rfl) ?_
  refine go_rn 1 (pc' := 13) (L' := [some (.ref 14), some (.ref x1), some (.int x2), some (.int x3), some (.ref (gRa 35 (Int32.toNatClampNeg x2))), none, none]) (S' := [.int x2, .ref 48]) (M' := M) okX2_joinUp rfl ?_
  obtain ⟨c2, h⟩ := gq_if h
  refine go_ck okX2_joinUp rfl c2 ?_
  refine go_rn 3 (pc' := 19) (L' := [some (.ref 14), some (.ref x1), some (.int x2), some (.int x3), some (.ref (gRa 35 (Int32.toNatClampNeg x2))), some (.ref (gRa 48 (Int32.toNatClampNeg x2))), some (.int (0 : Int32))]) (S' := []) (M' := M) okX2_joinUp rfl ?_
  exact go_wk (CX2_joinUp_19h hd x1 x2 x3 (gRa 35 (Int32.toNatClampNeg x2)) (gRa 48 (Int32.toNatClampNeg x2)) (0 : Int32) M o_x1 P k0 h) ⟨rfl, rfl, rfl, rfl, rfl, rfl, rfl, True.intro⟩
def fX2_joinUp (a1 : Nat) (a2 : Int32) (a3 : Int32) (M : gMem) : Option (gMem) := fX2_joinUp_0 a1 a2 a3 M
theorem SX2_joinUp {G : gG} (a1 : Nat) (a2 : Int32) (a3 : Int32) (M : gMem) (o_a1 : gOb 7 a1 = true) {N : gMem} (h : fX2_joinUp a1 a2 a3 M = some N) : gRun G YX2_joinUp 3 [.ref 14, .ref a1, .int a2, .int a3] M (fun r' N' => r' = none ∧ N' = N) := gRun_in (by decide +kernel) rfl (fun d hd => go_wk (CX2_joinUp_0 hd a1 a2 a3 M o_a1 (fun p => p = N) (fun N hh => ⟨rfl, hh⟩) (gq_of h)) ⟨rfl, rfl, rfl, rfl, True.intro⟩)
def fX2_change_0 (x1 : Nat) (x2 : Int32) (x3 : Int32) (M : gMem) : Option (Int32) :=
  if gIx 1 20 x2 = true then gB0 (fX8_has (M.1 20 (Int32.toNatClampNeg x2)) x3 M) (fun r2 => if r2 = 0 then if gIx 1 (x1 + 3) x3 = true then if gIx 1 21 x2 = true then gB0 (fX8_has (M.1 21 (Int32.toNatClampNeg x2)) x3 M) (fun r6 => if r6 = 0 then some ((M.1 (x1 + 3) (Int32.toNatClampNeg x3)) - (0 : Int32)) else some ((M.1 (x1 + 3) (Int32.toNatClampNeg x3)) - (M.1 x1 3))) else none else none else some (0 : Int32)) else none
set_option maxRecDepth 100000 in
theorem CX2_change_0 {G : gG} {d : Nat} {Z : Option Value → gMem → Prop} (hd : 1 ≤ d) (x1 : Nat) (x2 : Int32) (x3 : Int32) (M : gMem) (o_x1 : gOb 7 x1 = true) (P : Int32 → Prop) (k0 : ∀ (r : Int32), P r → Z (some (.int r)) M) (h : gOKq (fX2_change_0 x1 x2 x3 M) P) : gGo G YX2_change d Z 0 [some (.ref 14), some (.ref x1), some (.int x2), some (.int x3)] [] M := by
  unfold fX2_change_0 at h
  refine go_rn 1 (pc' := 1) (L' := [some (.ref 14), some (.ref x1), some (.int x2), some (.int x3)]) (S' := [.ref 14]) (M' := M) okX2_change rfl ?_
  refine go_ck okX2_change rfl (gOb_c rfl) ?_
  refine go_rn 1 (pc' := 5) (L' := [some (.ref 14), some (.ref x1), some (.int x2), some (.int x3)]) (S' := [.int x2, .ref 20]) (M' := M) okX2_change rfl ?_
  obtain ⟨c1, h⟩ := gq_if h
  refine go_ck okX2_change rfl c1 ?_
  refine go_rn 1 (pc' := 7) (L' := [some (.ref 14), some (.ref x1), some (.int x2), some (.int x3)]) (S' := [.int x3, .int (M.1 20 (Int32.toNatClampNeg x2))]) (M' := M) okX2_change rfl ?_
  obtain ⟨r2, e3, h⟩ := gB0_ok h
  refine go_call1 ocX2_change rfl rfl rfl rfl (SX8_has (M.1 20 (Int32.toNatClampNeg x2)) x3 M e3) (Nat.lt_of_lt_of_le (by decide) hd) ?_
  refine go_br okX2_change rfl (fun hp => ?_) (fun hp => ?_)
  · have h := gq_pos hp h
    refine go_rn 1 (pc' := 16) (L' := [some (.ref 14), some (.ref x1), some (.int x2), some (.int x3)]) (S' := [.ref x1]) (M' := M) okX2_change rfl ?_
    refine go_ck okX2_change rfl o_x1 ?_
    refine go_rn 1 (pc' := 20) (L' := [some (.ref 14), some (.ref x1), some (.int x2), some (.int x3)]) (S' := [.int x3, .ref (x1 + 3)]) (M' := M) okX2_change rfl ?_
    obtain ⟨c4, h⟩ := gq_if h
    refine go_ck okX2_change rfl c4 ?_
    refine go_rn 1 (pc' := 22) (L' := [some (.ref 14), some (.ref x1), some (.int x2), some (.int x3)]) (S' := [.ref 14, .int (M.1 (x1 + 3) (Int32.toNatClampNeg x3))]) (M' := M) okX2_change rfl ?_
    refine go_ck okX2_change rfl (gOb_c rfl) ?_
    refine go_rn 1 (pc' := 26) (L' := [some (.ref 14), some (.ref x1), some (.int x2), some (.int x3)]) (S' := [.int x2, .ref 21, .int (M.1 (x1 + 3) (Int32.toNatClampNeg x3))]) (M' := M) okX2_change rfl ?_
    obtain ⟨c5, h⟩ := gq_if h
    refine go_ck okX2_change rfl c5 ?_
    refine go_rn 1 (pc' := 28) (L' := [some (.ref 14), some (.ref x1), some (.int x2), some (.int x3)]) (S' := [.int x3, .int (M.1 21 (Int32.toNatClampNeg x2)), .int (M.1 (x1 + 3) (Int32.toNatClampNeg x3))]) (M' := M) okX2_change rfl ?_
    obtain ⟨r6, e7, h⟩ := gB0_ok h
    refine go_call1 ocX2_change rfl rfl rfl rfl (SX8_has (M.1 21 (Int32.toNatClampNeg x2)) x3 M e7) (Nat.lt_of_lt_of_le (by decide) hd) ?_
    refine go_br okX2_change rfl (fun hp => ?_) (fun hp => ?_)
    · have h := gq_pos hp h
      refine go_rn 2 (pc' := 43) (L' := [some (.ref 14), some (.ref x1), some (.int x2), some (.int x3)]) (S' := [.int ((M.1 (x1 + 3) (Int32.toNatClampNeg x3)) - (0 : Int32))]) (M' := M) okX2_change rfl ?_
      exact go_iret (reX2_change _ (by decide)) rfl (k0 ((M.1 (x1 + 3) (Int32.toNatClampNeg x3)) - (0 : Int32)) h)
    · have h := gq_neg hp h
      refine go_rn 1 (pc' := 35) (L' := [some (.ref 14), some (.ref x1), some (.int x2), some (.int x3)]) (S' := [.ref x1, .int (M.1 (x1 + 3) (Int32.toNatClampNeg x3))]) (M' := M) okX2_change rfl ?_
      refine go_ck okX2_change rfl o_x1 ?_
      refine go_rn 2 (pc' := 43) (L' := [some (.ref 14), some (.ref x1), some (.int x2), some (.int x3)]) (S' := [.int ((M.1 (x1 + 3) (Int32.toNatClampNeg x3)) - (M.1 x1 3))]) (M' := M) okX2_change rfl ?_
      exact go_iret (reX2_change _ (by decide)) rfl (k0 ((M.1 (x1 + 3) (Int32.toNatClampNeg x3)) - (M.1 x1 3)) h)
  · have h := gq_neg hp h
    refine go_rn 1 (pc' := 14) (L' := [some (.ref 14), some (.ref x1), some (.int x2), some (.int x3)]) (S' := [.int (0 : Int32)]) (M' := M) okX2_change rfl ?_
    exact go_iret (reX2_change _ (by decide)) rfl (k0 (0 : Int32) h)
def fX2_change (a1 : Nat) (a2 : Int32) (a3 : Int32) (M : gMem) : Option (Int32) := fX2_change_0 a1 a2 a3 M
theorem SX2_change {G : gG} (a1 : Nat) (a2 : Int32) (a3 : Int32) (M : gMem) (o_a1 : gOb 7 a1 = true) {r : Int32} (h : fX2_change a1 a2 a3 M = some r) : gRun G YX2_change 1 [.ref 14, .ref a1, .int a2, .int a3] M (fun r' N' => r' = some (.int r) ∧ N' = M) := gRun_in (by decide +kernel) rfl (fun d hd => go_wk (CX2_change_0 hd a1 a2 a3 M o_a1 (fun p => p = r) (fun r hh => ⟨congrArg (fun z => some (Value.int z)) hh, rfl⟩) (gq_of h)) ⟨rfl, rfl, rfl, rfl, True.intro⟩)
def fX2_tellWorths_2 (x1 : Nat) (x2 : Int32) (x3 : Int32) (M : gMem) : Option (Sum (Int32 × gMem) (gMem)) :=
  if (M.1 x1 5) ≤ x3 then some (.inr M) else if x2 = 0 then if gIx 7 22 x2 = true then if gIx 1 (x1 + 2) x3 = true then if gIx 1 (gRa 22 (Int32.toNatClampNeg x2)) x3 = true then some (.inl ((x3 + 1), (gSI M (gRa 22 (Int32.toNatClampNeg x2)) (Int32.toNatClampNeg x3) (M.1 (x1 + 2) (Int32.toNatClampNeg x3))))) else none else none else none else if gIx 7 22 x2 = true then if gIx 7 22 (x2 - (1 : Int32)) = true then if gIx 1 (gRa 22 (Int32.toNatClampNeg (x2 - (1 : Int32)))) x3 = true then gB0 (fX2_change x1 (x2 - (1 : Int32)) x3 M) (fun r7 => if gIx 1 (gRa 22 (Int32.toNatClampNeg x2)) x3 = true then some (.inl ((x3 + 1), (gSI M (gRa 22 (Int32.toNatClampNeg x2)) (Int32.toNatClampNeg x3) ((M.1 (gRa 22 (Int32.toNatClampNeg (x2 - (1 : Int32)))) (Int32.toNatClampNeg x3)) + r7)))) else none) else none else none else none
set_option maxRecDepth 100000 in
theorem CX2_tellWorths_2 {G : gG} {d : Nat} {Z : Option Value → gMem → Prop} (hd : 2 ≤ d) (x1 : Nat) (x2 : Int32) (x3 : Int32) (M : gMem) (o_x1 : gOb 7 x1 = true) (P : Sum (Int32 × gMem) (gMem) → Prop) (k0 : ∀ (N : gMem), P (.inr N) → Z none N) (k1 : ∀ (x3 : Int32) (M : gMem), P (.inl (x3, M)) → gGo G YX2_tellWorths d Z 2 [some (.ref 14), some (.ref x1), some (.int x2), some (.int x3)] [] M) (h : gOKq (fX2_tellWorths_2 x1 x2 x3 M) P) : gGo G YX2_tellWorths d Z 2 [some (.ref 14), some (.ref x1), some (.int x2), some (.int x3)] [] M := by
  unfold fX2_tellWorths_2 at h
  refine go_rn 2 (pc' := 4) (L' := [some (.ref 14), some (.ref x1), some (.int x2), some (.int x3)]) (S' := [.ref x1, .int x3]) (M' := M) okX2_tellWorths rfl ?_
  refine go_ck okX2_tellWorths rfl o_x1 ?_
  refine go_br okX2_tellWorths rfl (fun hp => ?_) (fun hp => ?_)
  · have h := gq_pos hp h
    exact go_vret (reX2_tellWorths _ (by decide)) rfl (k0 M h)
  · have h := gq_neg hp h
    refine go_rn 1 (pc' := 11) (L' := [some (.ref 14), some (.ref x1), some (.int x2), some (.int x3)]) (S' := [.int x2]) (M' := M) okX2_tellWorths rfl ?_
    refine go_br okX2_tellWorths rfl (fun hp => ?_) (fun hp => ?_)
    · have h := gq_pos hp h
      refine go_rn 1 (pc' := 15) (L' := [some (.ref 14), some (.ref x1), some (.int x2), some (.int x3)]) (S' := [.ref 14]) (M' := M) okX2_tellWorths rfl ?_
      refine go_ck okX2_tellWorths rfl (gOb_c rfl) ?_
      refine go_rn 1 (pc' := 19) (L' := [some (.ref 14), some (.ref x1), some (.int x2), some (.int x3)]) (S' := [.int x2, .ref 22]) (M' := M) okX2_tellWorths rfl ?_
      obtain ⟨c1, h⟩ := gq_if h
      refine go_ck okX2_tellWorths rfl c1 ?_
      refine go_rn 2 (pc' := 22) (L' := [some (.ref 14), some (.ref x1), some (.int x2), some (.int x3)]) (S' := [.ref x1, .int x3, .ref (gRa 22 (Int32.toNatClampNeg x2))]) (M' := M) okX2_tellWorths rfl ?_
      refine go_ck okX2_tellWorths rfl o_x1 ?_
      refine go_rn 1 (pc' := 26) (L' := [some (.ref 14), some (.ref x1), some (.int x2), some (.int x3)]) (S' := [.int x3, .ref (x1 + 2), .int x3, .ref (gRa 22 (Int32.toNatClampNeg x2))]) (M' := M) okX2_tellWorths rfl ?_
      obtain ⟨c2, h⟩ := gq_if h
      refine go_ck okX2_tellWorths rfl c2 ?_
      obtain ⟨c3, h⟩ := gq_if h
      refine go_ck okX2_tellWorths rfl c3 ?_
      refine go_rn 3 (pc' := 2) (L' := [some (.ref 14), some (.ref x1), some (.int x2), some (.int (x3 + 1))]) (S' := []) (M' := (gSI M (gRa 22 (Int32.toNatClampNeg x2)) (Int32.toNatClampNeg x3) (M.1 (x1 + 2) (Int32.toNatClampNeg x3)))) okX2_tellWorths rfl ?_
      exact go_wk (k1 ((x3 + 1)) (gSI M (gRa 22 (Int32.toNatClampNeg x2)) (Int32.toNatClampNeg x3) (M.1 (x1 + 2) (Int32.toNatClampNeg x3))) h) ⟨rfl, rfl, rfl, rfl, True.intro⟩
    · have h := gq_neg hp h
      refine go_rn 1 (pc' := 32) (L' := [some (.ref 14), some (.ref x1), some (.int x2), some (.int x3)]) (S' := [.ref 14]) (M' := M) okX2_tellWorths rfl ?_
      refine go_ck okX2_tellWorths rfl (gOb_c rfl) ?_
      refine go_rn 1 (pc' := 36) (L' := [some (.ref 14), some (.ref x1), some (.int x2), some (.int x3)]) (S' := [.int x2, .ref 22]) (M' := M) okX2_tellWorths rfl ?_
      obtain ⟨c4, h⟩ := gq_if h
      refine go_ck okX2_tellWorths rfl c4 ?_
      refine go_rn 2 (pc' := 39) (L' := [some (.ref 14), some (.ref x1), some (.int x2), some (.int x3)]) (S' := [.ref 14, .int x3, .ref (gRa 22 (Int32.toNatClampNeg x2))]) (M' := M) okX2_tellWorths rfl ?_
      refine go_ck okX2_tellWorths rfl (gOb_c rfl) ?_
      refine go_rn 3 (pc' := 45) (L' := [some (.ref 14), some (.ref x1), some (.int x2), some (.int x3)]) (S' := [.int (x2 - (1 : Int32)), .ref 22, .int x3, .ref (gRa 22 (Int32.toNatClampNeg x2))]) (M' := M) okX2_tellWorths rfl ?_
      obtain ⟨c5, h⟩ := gq_if h
      refine go_ck okX2_tellWorths rfl c5 ?_
      refine go_rn 1 (pc' := 47) (L' := [some (.ref 14), some (.ref x1), some (.int x2), some (.int x3)]) (S' := [.int x3, .ref (gRa 22 (Int32.toNatClampNeg (x2 - (1 : Int32)))), .int x3, .ref (gRa 22 (Int32.toNatClampNeg x2))]) (M' := M) okX2_tellWorths rfl ?_
      obtain ⟨c6, h⟩ := gq_if h
      refine go_ck okX2_tellWorths rfl c6 ?_
      refine go_rn 6 (pc' := 54) (L' := [some (.ref 14), some (.ref x1), some (.int x2), some (.int x3)]) (S' := [.int x3, .int (x2 - (1 : Int32)), .ref x1, .ref 14, .int (M.1 (gRa 22 (Int32.toNatClampNeg (x2 - (1 : Int32)))) (Int32.toNatClampNeg x3)), .int x3, .ref (gRa 22 (Int32.toNatClampNeg x2))]) (M' := M) okX2_tellWorths rfl ?_
      obtain ⟨r7, e8, h⟩ := gB0_ok h
      refine go_call1 ocX2_tellWorths rfl rfl (gOb_c rfl) rfl (SX2_change x1 (x2 - (1 : Int32)) x3 M o_x1 e8) (Nat.lt_of_lt_of_le (by decide) hd) ?_
      refine go_rn 1 (pc' := 58) (L' := [some (.ref 14), some (.ref x1), some (.int x2), some (.int x3)]) (S' := [.int ((M.1 (gRa 22 (Int32.toNatClampNeg (x2 - (1 : Int32)))) (Int32.toNatClampNeg x3)) + r7), .int x3, .ref (gRa 22 (Int32.toNatClampNeg x2))]) (M' := M) okX2_tellWorths rfl ?_
      obtain ⟨c9, h⟩ := gq_if h
      refine go_ck okX2_tellWorths rfl c9 ?_
      refine go_rn 2 (pc' := 2) (L' := [some (.ref 14), some (.ref x1), some (.int x2), some (.int (x3 + 1))]) (S' := []) (M' := (gSI M (gRa 22 (Int32.toNatClampNeg x2)) (Int32.toNatClampNeg x3) ((M.1 (gRa 22 (Int32.toNatClampNeg (x2 - (1 : Int32)))) (Int32.toNatClampNeg x3)) + r7))) okX2_tellWorths rfl ?_
      exact go_wk (k1 ((x3 + 1)) (gSI M (gRa 22 (Int32.toNatClampNeg x2)) (Int32.toNatClampNeg x3) ((M.1 (gRa 22 (Int32.toNatClampNeg (x2 - (1 : Int32)))) (Int32.toNatClampNeg x3)) + r7)) h) ⟨rfl, rfl, rfl, rfl, True.intro⟩
def fX2_tellWorths_2h (x1 : Nat) (x2 : Int32) (x3 : Int32) (M : gMem) : Option (gMem) :=
  gLp (fun s : Int32 × gMem => fX2_tellWorths_2 x1 x2 (s.1) s.2) gFu (x3, M)
set_option maxRecDepth 100000 in
theorem CX2_tellWorths_2h {G : gG} {d : Nat} {Z : Option Value → gMem → Prop} (hd : 2 ≤ d) (x1 : Nat) (x2 : Int32) (x3 : Int32) (M : gMem) (o_x1 : gOb 7 x1 = true) (P : gMem → Prop) (k0 : ∀ (N : gMem), P N → Z none N) (h : gOKq (fX2_tellWorths_2h x1 x2 x3 M) P) : gGo G YX2_tellWorths d Z 2 [some (.ref 14), some (.ref x1), some (.int x2), some (.int x3)] [] M :=
  gLp_go (K := fun s : Int32 × gMem => gGo G YX2_tellWorths d Z 2 [some (.ref 14), some (.ref x1), some (.int x2), some (.int s.1)] [] s.2) (P := P) (fun s hs => CX2_tellWorths_2 hd (x1) (x2) (s.1) (s.2) o_x1 (Sum.elim (fun s : Int32 × gMem => gGo G YX2_tellWorths d Z 2 [some (.ref 14), some (.ref x1), some (.int x2), some (.int s.1)] [] s.2) P) k0 (fun x3 M hh => hh) hs) gFu (x3, M) h
def fX2_tellWorths_0 (x1 : Nat) (x2 : Int32) (M : gMem) : Option (gMem) :=
  fX2_tellWorths_2h x1 x2 (0 : Int32) M
set_option maxRecDepth 100000 in
theorem CX2_tellWorths_0 {G : gG} {d : Nat} {Z : Option Value → gMem → Prop} (hd : 2 ≤ d) (x1 : Nat) (x2 : Int32) (M : gMem) (o_x1 : gOb 7 x1 = true) (P : gMem → Prop) (k0 : ∀ (N : gMem), P N → Z none N) (h : gOKq (fX2_tellWorths_0 x1 x2 M) P) : gGo G YX2_tellWorths d Z 0 [some (.ref 14), some (.ref x1), some (.int x2), none] [] M := by
  unfold fX2_tellWorths_0 at h
  refine go_rn 2 (pc' := 2) (L' := [some (.ref 14), some (.ref x1), some (.int x2), some (.int (0 : Int32))]) (S' := []) (M' := M) okX2_tellWorths rfl ?_
  exact go_wk (CX2_tellWorths_2h hd x1 x2 (0 : Int32) M o_x1 P k0 h) ⟨rfl, rfl, rfl, rfl, True.intro⟩
def fX2_tellWorths (a1 : Nat) (a2 : Int32) (M : gMem) : Option (gMem) := fX2_tellWorths_0 a1 a2 M
theorem SX2_tellWorths {G : gG} (a1 : Nat) (a2 : Int32) (M : gMem) (o_a1 : gOb 7 a1 = true) {N : gMem} (h : fX2_tellWorths a1 a2 M = some N) : gRun G YX2_tellWorths 2 [.ref 14, .ref a1, .int a2] M (fun r' N' => r' = none ∧ N' = N) := gRun_in (by decide +kernel) rfl (fun d hd => go_wk (CX2_tellWorths_0 hd a1 a2 M o_a1 (fun p => p = N) (fun N hh => ⟨rfl, hh⟩) (gq_of h)) ⟨rfl, rfl, rfl, True.intro⟩)
def fX2_toldHeld_6 (x1 : Nat) (x2 : Int32) (x3 : Int32) (x4 : Int32) (x5 : Int32) (M : gMem) : Option (Sum (Int32 × Int32) (Int32)) :=
  if (M.1 x1 6) ≤ x5 then some (.inr x4) else gB0 (fX2_holdsIn x5 x2 x3 M) (fun r1 => if r1 = 0 then some (.inl (x4, (x5 + 1))) else some (.inl ((x4 ||| ((1 : Int32) <<< (x5 &&& 31))), (x5 + 1))))
set_option maxRecDepth 100000 in
theorem CX2_toldHeld_6 {G : gG} {d : Nat} {Z : Option Value → gMem → Prop} (hd : 2 ≤ d) (x1 : Nat) (x2 : Int32) (x3 : Int32) (x4 : Int32) (x5 : Int32) (M : gMem) (o_x1 : gOb 7 x1 = true) (P : Sum (Int32 × Int32) (Int32) → Prop) (k0 : ∀ (r : Int32), P (.inr r) → Z (some (.int r)) M) (k1 : ∀ (x4 : Int32) (x5 : Int32), P (.inl (x4, x5)) → gGo G YX2_toldHeld d Z 6 [some (.ref 14), some (.ref x1), some (.int x2), some (.int x3), some (.int x4), some (.int x5)] [] M) (h : gOKq (fX2_toldHeld_6 x1 x2 x3 x4 x5 M) P) : gGo G YX2_toldHeld d Z 6 [some (.ref 14), some (.ref x1), some (.int x2), some (.int x3), some (.int x4), some (.int x5)] [] M := by
  unfold fX2_toldHeld_6 at h
  refine go_rn 2 (pc' := 9) (L' := [some (.ref 14), some (.ref x1), some (.int x2), some (.int x3), some (.int x4), some (.int x5)]) (S' := [.ref x1, .int x5]) (M' := M) okX2_toldHeld rfl ?_
  refine go_ck okX2_toldHeld rfl o_x1 ?_
  refine go_br okX2_toldHeld rfl (fun hp => ?_) (fun hp => ?_)
  · have h := gq_pos hp h
    refine go_rn 1 (pc' := 43) (L' := [some (.ref 14), some (.ref x1), some (.int x2), some (.int x3), some (.int x4), some (.int x5)]) (S' := [.int x4]) (M' := M) okX2_toldHeld rfl ?_
    exact go_iret (reX2_toldHeld _ (by decide)) rfl (k0 x4 h)
  · have h := gq_neg hp h
    refine go_rn 4 (pc' := 20) (L' := [some (.ref 14), some (.ref x1), some (.int x2), some (.int x3), some (.int x4), some (.int x5)]) (S' := [.int x3, .int x2, .int x5, .ref 14]) (M' := M) okX2_toldHeld rfl ?_
    obtain ⟨r1, e2, h⟩ := gB0_ok h
    refine go_call1 ocX2_toldHeld rfl rfl (gOb_c rfl) rfl (SX2_holdsIn x5 x2 x3 M e2) (Nat.lt_of_lt_of_le (by decide) hd) ?_
    refine go_br okX2_toldHeld rfl (fun hp => ?_) (fun hp => ?_)
    · have h := gq_pos hp h
      refine go_rn 2 (pc' := 6) (L' := [some (.ref 14), some (.ref x1), some (.int x2), some (.int x3), some (.int x4), some (.int (x5 + 1))]) (S' := []) (M' := M) okX2_toldHeld rfl ?_
      exact go_wk (k1 (x4) ((x5 + 1)) h) ⟨rfl, rfl, rfl, rfl, rfl, rfl, True.intro⟩
    · have h := gq_neg hp h
      refine go_rn 8 (pc' := 6) (L' := [some (.ref 14), some (.ref x1), some (.int x2), some (.int x3), some (.int (x4 ||| ((1 : Int32) <<< (x5 &&& 31)))), some (.int (x5 + 1))]) (S' := []) (M' := M) okX2_toldHeld rfl ?_
      exact go_wk (k1 ((x4 ||| ((1 : Int32) <<< (x5 &&& 31)))) ((x5 + 1)) h) ⟨rfl, rfl, rfl, rfl, rfl, rfl, True.intro⟩
def fX2_toldHeld_6h (x1 : Nat) (x2 : Int32) (x3 : Int32) (x4 : Int32) (x5 : Int32) (M : gMem) : Option (Int32) :=
  gLp (fun s : Int32 × Int32 => fX2_toldHeld_6 x1 x2 x3 (s.1) (s.2) M) gFu (x4, x5)
set_option maxRecDepth 100000 in
theorem CX2_toldHeld_6h {G : gG} {d : Nat} {Z : Option Value → gMem → Prop} (hd : 2 ≤ d) (x1 : Nat) (x2 : Int32) (x3 : Int32) (x4 : Int32) (x5 : Int32) (M : gMem) (o_x1 : gOb 7 x1 = true) (P : Int32 → Prop) (k0 : ∀ (r : Int32), P r → Z (some (.int r)) M) (h : gOKq (fX2_toldHeld_6h x1 x2 x3 x4 x5 M) P) : gGo G YX2_toldHeld d Z 6 [some (.ref 14), some (.ref x1), some (.int x2), some (.int x3), some (.int x4), some (.int x5)] [] M :=
  gLp_go (K := fun s : Int32 × Int32 => gGo G YX2_toldHeld d Z 6 [some (.ref 14), some (.ref x1), some (.int x2), some (.int x3), some (.int s.1), some (.int s.2)] [] M) (P := P) (fun s hs => CX2_toldHeld_6 hd (x1) (x2) (x3) (s.1) (s.2) M o_x1 (Sum.elim (fun s : Int32 × Int32 => gGo G YX2_toldHeld d Z 6 [some (.ref 14), some (.ref x1), some (.int x2), some (.int x3), some (.int s.1), some (.int s.2)] [] M) P) k0 (fun x4 x5 hh => hh) hs) gFu (x4, x5) h
def fX2_toldHeld_0 (x1 : Nat) (x2 : Int32) (x3 : Int32) (M : gMem) : Option (Int32) :=
  fX2_toldHeld_6h x1 x2 x3 (0 : Int32) (0 : Int32) M
set_option maxRecDepth 100000 in
theorem CX2_toldHeld_0 {G : gG} {d : Nat} {Z : Option Value → gMem → Prop} (hd : 2 ≤ d) (x1 : Nat) (x2 : Int32) (x3 : Int32) (M : gMem) (o_x1 : gOb 7 x1 = true) (P : Int32 → Prop) (k0 : ∀ (r : Int32), P r → Z (some (.int r)) M) (h : gOKq (fX2_toldHeld_0 x1 x2 x3 M) P) : gGo G YX2_toldHeld d Z 0 [some (.ref 14), some (.ref x1), some (.int x2), some (.int x3), none, none] [] M := by
  unfold fX2_toldHeld_0 at h
  refine go_rn 4 (pc' := 6) (L' := [some (.ref 14), some (.ref x1), some (.int x2), some (.int x3), some (.int (0 : Int32)), some (.int (0 : Int32))]) (S' := []) (M' := M) okX2_toldHeld rfl ?_
  exact go_wk (CX2_toldHeld_6h hd x1 x2 x3 (0 : Int32) (0 : Int32) M o_x1 P k0 h) ⟨rfl, rfl, rfl, rfl, rfl, rfl, True.intro⟩
def fX2_toldHeld (a1 : Nat) (a2 : Int32) (a3 : Int32) (M : gMem) : Option (Int32) := fX2_toldHeld_0 a1 a2 a3 M
theorem SX2_toldHeld {G : gG} (a1 : Nat) (a2 : Int32) (a3 : Int32) (M : gMem) (o_a1 : gOb 7 a1 = true) {r : Int32} (h : fX2_toldHeld a1 a2 a3 M = some r) : gRun G YX2_toldHeld 2 [.ref 14, .ref a1, .int a2, .int a3] M (fun r' N' => r' = some (.int r) ∧ N' = M) := gRun_in (by decide +kernel) rfl (fun d hd => go_wk (CX2_toldHeld_0 hd a1 a2 a3 M o_a1 (fun p => p = r) (fun r hh => ⟨congrArg (fun z => some (Value.int z)) hh, rfl⟩) (gq_of h)) ⟨rfl, rfl, rfl, rfl, True.intro⟩)
