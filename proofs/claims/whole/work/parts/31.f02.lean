/-! exact functions of methods, and that the machine goes as they say: by program -/
def fX7_clear_50 (s0 : Int32) (s1 : Nat) (M : gMem) : Option (gMem) :=
  some (gSI M s1 4 s0)
set_option maxRecDepth 100000 in
theorem CX7_clear_50 {G : gG} {d : Nat} {Z : Option Value → gMem → Prop} (hd : 0 ≤ d) (s0 : Int32) (s1 : Nat) (M : gMem) (o_s1 : gOb 0 s1 = true) (P : gMem → Prop) (k0 : ∀ (N : gMem), P N → Z none N) (h : gOKq (fX7_clear_50 s0 s1 M) P) : gGo G YX7_clear d Z 50 [none] [.int s0, .ref s1] M := by
  unfold fX7_clear_50 at h
  refine go_ck okX7_clear rfl o_s1 ?_
  exact go_vret (reX7_clear _ (by decide)) rfl (k0 (gSI M s1 4 s0) h)
def fX7_clear_42 (x0 : Nat) (s0 : Int32) (s1 : Nat) (M : gMem) : Option (gMem) :=
  fX7_clear_50 (0 : Int32) (x0 + 10) (gSI M s1 8 s0)
set_option maxRecDepth 100000 in
theorem CX7_clear_42 {G : gG} {d : Nat} {Z : Option Value → gMem → Prop} (hd : 0 ≤ d) (x0 : Nat) (s0 : Int32) (s1 : Nat) (M : gMem) (o_x0 : gOb 7 x0 = true) (o_s1 : gOb 7 s1 = true) (P : gMem → Prop) (k0 : ∀ (N : gMem), P N → Z none N) (h : gOKq (fX7_clear_42 x0 s0 s1 M) P) : gGo G YX7_clear d Z 42 [some (.ref x0)] [.int s0, .ref s1] M := by
  unfold fX7_clear_42 at h
  refine go_ck okX7_clear rfl o_s1 ?_
  refine go_rn 1 (pc' := 46) (L' := [some (.ref x0)]) (S' := [.ref x0]) (M' := (gSI M s1 8 s0)) okX7_clear rfl ?_
  refine go_ck okX7_clear rfl o_x0 ?_
  refine go_rn 1 (pc' := 50) (L' := [some (.ref x0)]) (S' := [.int (0 : Int32), .ref (x0 + 10)]) (M' := (gSI M s1 8 s0)) okX7_clear rfl ?_
  exact go_wk (CX7_clear_50 hd (0 : Int32) (x0 + 10) (gSI M s1 8 s0) (gTa o_x0) P k0 h) True.intro
def fX7_clear_37 (x0 : Nat) (s0 : Int32) (s1 : Nat) (M : gMem) : Option (gMem) :=
  fX7_clear_42 x0 (0 : Int32) x0 (gSI M s1 7 s0)
set_option maxRecDepth 100000 in
theorem CX7_clear_37 {G : gG} {d : Nat} {Z : Option Value → gMem → Prop} (hd : 0 ≤ d) (x0 : Nat) (s0 : Int32) (s1 : Nat) (M : gMem) (o_x0 : gOb 7 x0 = true) (o_s1 : gOb 7 s1 = true) (P : gMem → Prop) (k0 : ∀ (N : gMem), P N → Z none N) (h : gOKq (fX7_clear_37 x0 s0 s1 M) P) : gGo G YX7_clear d Z 37 [some (.ref x0)] [.int s0, .ref s1] M := by
  unfold fX7_clear_37 at h
  refine go_ck okX7_clear rfl o_s1 ?_
  refine go_rn 2 (pc' := 42) (L' := [some (.ref x0)]) (S' := [.int (0 : Int32), .ref x0]) (M' := (gSI M s1 7 s0)) okX7_clear rfl ?_
  exact go_wk (CX7_clear_42 hd x0 (0 : Int32) x0 (gSI M s1 7 s0) o_x0 o_x0 P k0 h) ⟨rfl, True.intro⟩
def fX7_clear_32 (x0 : Nat) (s0 : Int32) (s1 : Nat) (M : gMem) : Option (gMem) :=
  fX7_clear_37 x0 (0 : Int32) x0 (gSI M s1 6 s0)
set_option maxRecDepth 100000 in
theorem CX7_clear_32 {G : gG} {d : Nat} {Z : Option Value → gMem → Prop} (hd : 0 ≤ d) (x0 : Nat) (s0 : Int32) (s1 : Nat) (M : gMem) (o_x0 : gOb 7 x0 = true) (o_s1 : gOb 7 s1 = true) (P : gMem → Prop) (k0 : ∀ (N : gMem), P N → Z none N) (h : gOKq (fX7_clear_32 x0 s0 s1 M) P) : gGo G YX7_clear d Z 32 [some (.ref x0)] [.int s0, .ref s1] M := by
  unfold fX7_clear_32 at h
  refine go_ck okX7_clear rfl o_s1 ?_
  refine go_rn 2 (pc' := 37) (L' := [some (.ref x0)]) (S' := [.int (0 : Int32), .ref x0]) (M' := (gSI M s1 6 s0)) okX7_clear rfl ?_
  exact go_wk (CX7_clear_37 hd x0 (0 : Int32) x0 (gSI M s1 6 s0) o_x0 o_x0 P k0 h) ⟨rfl, True.intro⟩
def fX7_clear_27 (x0 : Nat) (s0 : Int32) (s1 : Nat) (M : gMem) : Option (gMem) :=
  fX7_clear_32 x0 (0 : Int32) x0 (gSI M s1 5 s0)
set_option maxRecDepth 100000 in
theorem CX7_clear_27 {G : gG} {d : Nat} {Z : Option Value → gMem → Prop} (hd : 0 ≤ d) (x0 : Nat) (s0 : Int32) (s1 : Nat) (M : gMem) (o_x0 : gOb 7 x0 = true) (o_s1 : gOb 7 s1 = true) (P : gMem → Prop) (k0 : ∀ (N : gMem), P N → Z none N) (h : gOKq (fX7_clear_27 x0 s0 s1 M) P) : gGo G YX7_clear d Z 27 [some (.ref x0)] [.int s0, .ref s1] M := by
  unfold fX7_clear_27 at h
  refine go_ck okX7_clear rfl o_s1 ?_
  refine go_rn 2 (pc' := 32) (L' := [some (.ref x0)]) (S' := [.int (0 : Int32), .ref x0]) (M' := (gSI M s1 5 s0)) okX7_clear rfl ?_
  exact go_wk (CX7_clear_32 hd x0 (0 : Int32) x0 (gSI M s1 5 s0) o_x0 o_x0 P k0 h) ⟨rfl, True.intro⟩
def fX7_clear_22 (x0 : Nat) (s0 : Int32) (s1 : Nat) (M : gMem) : Option (gMem) :=
  fX7_clear_27 x0 (0 : Int32) x0 (gSI M s1 4 s0)
set_option maxRecDepth 100000 in
theorem CX7_clear_22 {G : gG} {d : Nat} {Z : Option Value → gMem → Prop} (hd : 0 ≤ d) (x0 : Nat) (s0 : Int32) (s1 : Nat) (M : gMem) (o_x0 : gOb 7 x0 = true) (o_s1 : gOb 7 s1 = true) (P : gMem → Prop) (k0 : ∀ (N : gMem), P N → Z none N) (h : gOKq (fX7_clear_22 x0 s0 s1 M) P) : gGo G YX7_clear d Z 22 [some (.ref x0)] [.int s0, .ref s1] M := by
  unfold fX7_clear_22 at h
  refine go_ck okX7_clear rfl o_s1 ?_
  refine go_rn 2 (pc' := 27) (L' := [some (.ref x0)]) (S' := [.int (0 : Int32), .ref x0]) (M' := (gSI M s1 4 s0)) okX7_clear rfl ?_
  exact go_wk (CX7_clear_27 hd x0 (0 : Int32) x0 (gSI M s1 4 s0) o_x0 o_x0 P k0 h) ⟨rfl, True.intro⟩
def fX7_clear_17 (x0 : Nat) (s0 : Int32) (s1 : Nat) (M : gMem) : Option (gMem) :=
  fX7_clear_22 x0 (0 : Int32) x0 (gSI M s1 3 s0)
set_option maxRecDepth 100000 in
theorem CX7_clear_17 {G : gG} {d : Nat} {Z : Option Value → gMem → Prop} (hd : 0 ≤ d) (x0 : Nat) (s0 : Int32) (s1 : Nat) (M : gMem) (o_x0 : gOb 7 x0 = true) (o_s1 : gOb 7 s1 = true) (P : gMem → Prop) (k0 : ∀ (N : gMem), P N → Z none N) (h : gOKq (fX7_clear_17 x0 s0 s1 M) P) : gGo G YX7_clear d Z 17 [some (.ref x0)] [.int s0, .ref s1] M := by
  unfold fX7_clear_17 at h
  refine go_ck okX7_clear rfl o_s1 ?_
  refine go_rn 2 (pc' := 22) (L' := [some (.ref x0)]) (S' := [.int (0 : Int32), .ref x0]) (M' := (gSI M s1 3 s0)) okX7_clear rfl ?_
  exact go_wk (CX7_clear_22 hd x0 (0 : Int32) x0 (gSI M s1 3 s0) o_x0 o_x0 P k0 h) ⟨rfl, True.intro⟩
def fX7_clear_12 (x0 : Nat) (s0 : Int32) (s1 : Nat) (M : gMem) : Option (gMem) :=
  fX7_clear_17 x0 (0 : Int32) x0 (gSI M s1 2 s0)
set_option maxRecDepth 100000 in
theorem CX7_clear_12 {G : gG} {d : Nat} {Z : Option Value → gMem → Prop} (hd : 0 ≤ d) (x0 : Nat) (s0 : Int32) (s1 : Nat) (M : gMem) (o_x0 : gOb 7 x0 = true) (o_s1 : gOb 7 s1 = true) (P : gMem → Prop) (k0 : ∀ (N : gMem), P N → Z none N) (h : gOKq (fX7_clear_12 x0 s0 s1 M) P) : gGo G YX7_clear d Z 12 [some (.ref x0)] [.int s0, .ref s1] M := by
  unfold fX7_clear_12 at h
  refine go_ck okX7_clear rfl o_s1 ?_
  refine go_rn 2 (pc' := 17) (L' := [some (.ref x0)]) (S' := [.int (0 : Int32), .ref x0]) (M' := (gSI M s1 2 s0)) okX7_clear rfl ?_
  exact go_wk (CX7_clear_17 hd x0 (0 : Int32) x0 (gSI M s1 2 s0) o_x0 o_x0 P k0 h) ⟨rfl, True.intro⟩
def fX7_clear_7 (x0 : Nat) (s0 : Int32) (s1 : Nat) (M : gMem) : Option (gMem) :=
  fX7_clear_12 x0 (0 : Int32) x0 (gSI M s1 1 s0)
set_option maxRecDepth 100000 in
theorem CX7_clear_7 {G : gG} {d : Nat} {Z : Option Value → gMem → Prop} (hd : 0 ≤ d) (x0 : Nat) (s0 : Int32) (s1 : Nat) (M : gMem) (o_x0 : gOb 7 x0 = true) (o_s1 : gOb 7 s1 = true) (P : gMem → Prop) (k0 : ∀ (N : gMem), P N → Z none N) (h : gOKq (fX7_clear_7 x0 s0 s1 M) P) : gGo G YX7_clear d Z 7 [some (.ref x0)] [.int s0, .ref s1] M := by
  unfold fX7_clear_7 at h
  refine go_ck okX7_clear rfl o_s1 ?_
  refine go_rn 2 (pc' := 12) (L' := [some (.ref x0)]) (S' := [.int (0 : Int32), .ref x0]) (M' := (gSI M s1 1 s0)) okX7_clear rfl ?_
  exact go_wk (CX7_clear_12 hd x0 (0 : Int32) x0 (gSI M s1 1 s0) o_x0 o_x0 P k0 h) ⟨rfl, True.intro⟩
def fX7_clear_0 (x0 : Nat) (M : gMem) : Option (gMem) :=
  fX7_clear_7 x0 (0 : Int32) x0 (gSI M x0 0 (0 : Int32))
set_option maxRecDepth 100000 in
theorem CX7_clear_0 {G : gG} {d : Nat} {Z : Option Value → gMem → Prop} (hd : 0 ≤ d) (x0 : Nat) (M : gMem) (o_x0 : gOb 7 x0 = true) (P : gMem → Prop) (k0 : ∀ (N : gMem), P N → Z none N) (h : gOKq (fX7_clear_0 x0 M) P) : gGo G YX7_clear d Z 0 [some (.ref x0)] [] M := by
  unfold fX7_clear_0 at h
  refine go_rn 2 (pc' := 2) (L' := [some (.ref x0)]) (S' := [.int (0 : Int32), .ref x0]) (M' := M) okX7_clear rfl ?_
  refine go_ck okX7_clear rfl o_x0 ?_
  refine go_rn 2 (pc' := 7) (L' := [some (.ref x0)]) (S' := [.int (0 : Int32), .ref x0]) (M' := (gSI M x0 0 (0 : Int32))) okX7_clear rfl ?_
  exact go_wk (CX7_clear_7 hd x0 (0 : Int32) x0 (gSI M x0 0 (0 : Int32)) o_x0 o_x0 P k0 h) ⟨rfl, True.intro⟩
def fX7_clear (a0 : Nat) (M : gMem) : Option (gMem) := fX7_clear_0 a0 M
theorem SX7_clear {G : gG} (a0 : Nat) (M : gMem) (o_a0 : gOb 7 a0 = true) {N : gMem} (h : fX7_clear a0 M = some N) : gRun G YX7_clear 0 [.ref a0] M (fun r' N' => r' = none ∧ N' = N) := gRun_in (by decide +kernel) rfl (fun d hd => go_wk (CX7_clear_0 hd a0 M o_a0 (fun p => p = N) (fun N hh => ⟨rfl, hh⟩) (gq_of h)) ⟨rfl, True.intro⟩)
def fX5_readTape_59 (M : gMem) : Option (Int32 × gMem) :=
  if (M.1 1 2) = 0 then some ((1 : Int32), M) else some ((0 : Int32), M)
set_option maxRecDepth 100000 in
theorem CX5_readTape_59 {G : gG} {d : Nat} {Z : Option Value → gMem → Prop} (hd : 8 ≤ d) (M : gMem) (P : Int32 × gMem → Prop) (k0 : ∀ (r : Int32) (N : gMem), P (r, N) → Z (some (.int r)) N) (h : gOKq (fX5_readTape_59 M) P) : gGo G YX5_readTape d Z 59 [some (.ref 1), none] [] M := by
  unfold fX5_readTape_59 at h
  refine go_rn 1 (pc' := 60) (L' := [some (.ref 1), none]) (S' := [.ref 1]) (M' := M) okX5_readTape rfl ?_
  refine go_ck okX5_readTape rfl (gOb_c rfl) ?_
  refine go_br okX5_readTape rfl (fun hp => ?_) (fun hp => ?_)
  · have h := gq_pos hp h
    refine go_rn 2 (pc' := 71) (L' := [some (.ref 1), none]) (S' := [.int (1 : Int32)]) (M' := M) okX5_readTape rfl ?_
    exact go_zret (reX5_readTape _ (by decide)) rfl (Or.inr rfl) (k0 (1 : Int32) M h)
  · have h := gq_neg hp h
    refine go_rn 1 (pc' := 71) (L' := [some (.ref 1), none]) (S' := [.int (0 : Int32)]) (M' := M) okX5_readTape rfl ?_
    exact go_zret (reX5_readTape _ (by decide)) rfl (Or.inl rfl) (k0 (0 : Int32) M h)
def fX5_readTape_28 (x1 : Int32) (M : gMem) : Option (Sum (Int32 × gMem) (Int32 × gMem)) :=
  if (800 : Int32) ≤ x1 then gEx (fX5_readTape_59 M) else if (M.1 1 4) = 0 then gEx (fX5_readTape_59 M) else if (M.1 1 2) = 0 then gB0 (fX5_readLine M) (fun M1 => some (.inl ((x1 + 1), M1))) else gEx (fX5_readTape_59 M)
set_option maxRecDepth 100000 in
theorem CX5_readTape_28 {G : gG} {d : Nat} {Z : Option Value → gMem → Prop} (hd : 8 ≤ d) (x1 : Int32) (M : gMem) (P : Sum (Int32 × gMem) (Int32 × gMem) → Prop) (k0 : ∀ (r : Int32) (N : gMem), P (.inr (r, N)) → Z (some (.int r)) N) (k1 : ∀ (x1 : Int32) (M : gMem), P (.inl (x1, M)) → gGo G YX5_readTape d Z 28 [some (.ref 1), some (.int x1)] [] M) (h : gOKq (fX5_readTape_28 x1 M) P) : gGo G YX5_readTape d Z 28 [some (.ref 1), some (.int x1)] [] M := by
  unfold fX5_readTape_28 at h
  refine go_rn 2 (pc' := 32) (L' := [some (.ref 1), some (.int x1)]) (S' := [.int (800 : Int32), .int x1]) (M' := M) okX5_readTape rfl ?_
  refine go_br okX5_readTape rfl (fun hp => ?_) (fun hp => ?_)
  · have h := gq_pos hp h
    exact go_wk (CX5_readTape_59 hd M (fun q => P (.inr q)) k0 (gEx_ok h)) ⟨rfl, True.intro⟩
  · have h := gq_neg hp h
    refine go_rn 1 (pc' := 36) (L' := [some (.ref 1), some (.int x1)]) (S' := [.ref 1]) (M' := M) okX5_readTape rfl ?_
    refine go_ck okX5_readTape rfl (gOb_c rfl) ?_
    refine go_br okX5_readTape rfl (fun hp => ?_) (fun hp => ?_)
    · have h := gq_pos hp h
      exact go_wk (CX5_readTape_59 hd M (fun q => P (.inr q)) k0 (gEx_ok h)) ⟨rfl, True.intro⟩
    · have h := gq_neg hp h
      refine go_rn 1 (pc' := 43) (L' := [some (.ref 1), some (.int x1)]) (S' := [.ref 1]) (M' := M) okX5_readTape rfl ?_
      refine go_ck okX5_readTape rfl (gOb_c rfl) ?_
      refine go_br okX5_readTape rfl (fun hp => ?_) (fun hp => ?_)
      · have h := gq_pos hp h
        refine go_rn 1 (pc' := 50) (L' := [some (.ref 1), some (.int x1)]) (S' := [.ref 1]) (M' := M) okX5_readTape rfl ?_
        obtain ⟨M1, e2, h⟩ := gB0_ok h
        refine go_call1 ocX5_readTape rfl rfl (gOb_c rfl) rfl (SX5_readLine M e2) (Nat.lt_of_lt_of_le (by decide) hd) ?_
        refine go_rn 2 (pc' := 28) (L' := [some (.ref 1), some (.int (x1 + 1))]) (S' := []) (M' := M1) okX5_readTape rfl ?_
        exact go_wk (k1 ((x1 + 1)) M1 h) ⟨rfl, rfl, True.intro⟩
      · have h := gq_neg hp h
        exact go_wk (CX5_readTape_59 hd M (fun q => P (.inr q)) k0 (gEx_ok h)) ⟨rfl, True.intro⟩
def fX5_readTape_28h (x1 : Int32) (M : gMem) : Option (Int32 × gMem) :=
  gLp (fun s : Int32 × gMem => fX5_readTape_28 (s.1) s.2) gFu (x1, M)
set_option maxRecDepth 100000 in
theorem CX5_readTape_28h {G : gG} {d : Nat} {Z : Option Value → gMem → Prop} (hd : 8 ≤ d) (x1 : Int32) (M : gMem) (P : Int32 × gMem → Prop) (k0 : ∀ (r : Int32) (N : gMem), P (r, N) → Z (some (.int r)) N) (h : gOKq (fX5_readTape_28h x1 M) P) : gGo G YX5_readTape d Z 28 [some (.ref 1), some (.int x1)] [] M :=
  gLp_go (K := fun s : Int32 × gMem => gGo G YX5_readTape d Z 28 [some (.ref 1), some (.int s.1)] [] s.2) (P := P) (fun s hs => CX5_readTape_28 hd (s.1) (s.2) (Sum.elim (fun s : Int32 × gMem => gGo G YX5_readTape d Z 28 [some (.ref 1), some (.int s.1)] [] s.2) P) k0 (fun x1 M hh => hh) hs) gFu (x1, M) h
def fX5_readTape_23 (M : gMem) : Option (Int32 × gMem) :=
  gB0 (fX5_advance M) (fun M1 => fX5_readTape_28h (0 : Int32) M1)
set_option maxRecDepth 100000 in
theorem CX5_readTape_23 {G : gG} {d : Nat} {Z : Option Value → gMem → Prop} (hd : 8 ≤ d) (M : gMem) (P : Int32 × gMem → Prop) (k0 : ∀ (r : Int32) (N : gMem), P (r, N) → Z (some (.int r)) N) (h : gOKq (fX5_readTape_23 M) P) : gGo G YX5_readTape d Z 23 [some (.ref 1), none] [.ref 1] M := by
  unfold fX5_readTape_23 at h
  obtain ⟨M1, e2, h⟩ := gB0_ok h
  refine go_call1 ocX5_readTape rfl rfl (gOb_c rfl) rfl (SX5_advance M e2) (Nat.lt_of_lt_of_le (by decide) hd) ?_
  refine go_rn 2 (pc' := 28) (L' := [some (.ref 1), some (.int (0 : Int32))]) (S' := []) (M' := M1) okX5_readTape rfl ?_
  exact go_wk (CX5_readTape_28h hd (0 : Int32) M1 P k0 h) ⟨rfl, rfl, True.intro⟩
def fX5_readTape_19 (s0 : Int32) (M : gMem) : Option (Int32 × gMem) :=
  fX5_readTape_23 (gSI M 1 6 s0)
set_option maxRecDepth 100000 in
theorem CX5_readTape_19 {G : gG} {d : Nat} {Z : Option Value → gMem → Prop} (hd : 8 ≤ d) (s0 : Int32) (M : gMem) (P : Int32 × gMem → Prop) (k0 : ∀ (r : Int32) (N : gMem), P (r, N) → Z (some (.int r)) N) (h : gOKq (fX5_readTape_19 s0 M) P) : gGo G YX5_readTape d Z 19 [some (.ref 1), none] [.int s0, .ref 1] M := by
  unfold fX5_readTape_19 at h
  refine go_ck okX5_readTape rfl (gOb_c rfl) ?_
  refine go_rn 1 (pc' := 23) (L' := [some (.ref 1), none]) (S' := [.ref 1]) (M' := (gSI M 1 6 s0)) okX5_readTape rfl ?_
  exact go_wk (CX5_readTape_23 hd (gSI M 1 6 s0) P k0 h) ⟨rfl, True.intro⟩
def fX5_readTape_14 (s0 : Int32) (M : gMem) : Option (Int32 × gMem) :=
  fX5_readTape_19 (0 : Int32) (gSI M 1 3 s0)
set_option maxRecDepth 100000 in
theorem CX5_readTape_14 {G : gG} {d : Nat} {Z : Option Value → gMem → Prop} (hd : 8 ≤ d) (s0 : Int32) (M : gMem) (P : Int32 × gMem → Prop) (k0 : ∀ (r : Int32) (N : gMem), P (r, N) → Z (some (.int r)) N) (h : gOKq (fX5_readTape_14 s0 M) P) : gGo G YX5_readTape d Z 14 [some (.ref 1), none] [.int s0, .ref 1] M := by
  unfold fX5_readTape_14 at h
  refine go_ck okX5_readTape rfl (gOb_c rfl) ?_
  refine go_rn 2 (pc' := 19) (L' := [some (.ref 1), none]) (S' := [.int (0 : Int32), .ref 1]) (M' := (gSI M 1 3 s0)) okX5_readTape rfl ?_
  exact go_wk (CX5_readTape_19 hd (0 : Int32) (gSI M 1 3 s0) P k0 h) ⟨rfl, True.intro⟩
def fX5_readTape_0 (M : gMem) : Option (Int32 × gMem) :=
  if gOb 7 (M.2.2 1) = true then gB0 (fX7_clear (M.2.2 1) M) (fun M2 => fX5_readTape_14 (-1 : Int32) (gSI M2 1 2 (0 : Int32))) else none
set_option maxRecDepth 100000 in
theorem CX5_readTape_0 {G : gG} {d : Nat} {Z : Option Value → gMem → Prop} (hd : 8 ≤ d) (M : gMem) (P : Int32 × gMem → Prop) (k0 : ∀ (r : Int32) (N : gMem), P (r, N) → Z (some (.int r)) N) (h : gOKq (fX5_readTape_0 M) P) : gGo G YX5_readTape d Z 0 [some (.ref 1), none] [] M := by
  unfold fX5_readTape_0 at h
  refine go_rn 1 (pc' := 1) (L' := [some (.ref 1), none]) (S' := [.ref 1]) (M' := M) okX5_readTape rfl ?_
  refine go_ck okX5_readTape rfl (gOb_c rfl) ?_
  obtain ⟨c1, h⟩ := gq_if h
  obtain ⟨M2, e3, h⟩ := gB0_ok h
  refine go_call1 ocX5_readTape rfl rfl c1 rfl (SX7_clear (M.2.2 1) M c1 e3) (Nat.lt_of_lt_of_le (by decide) hd) ?_
  refine go_rn 2 (pc' := 9) (L' := [some (.ref 1), none]) (S' := [.int (0 : Int32), .ref 1]) (M' := M2) okX5_readTape rfl ?_
  refine go_ck okX5_readTape rfl (gOb_c rfl) ?_
  refine go_rn 2 (pc' := 14) (L' := [some (.ref 1), none]) (S' := [.int (-1 : Int32), .ref 1]) (M' := (gSI M2 1 2 (0 : Int32))) okX5_readTape rfl ?_
  exact go_wk (CX5_readTape_14 hd (-1 : Int32) (gSI M2 1 2 (0 : Int32)) P k0 h) ⟨rfl, True.intro⟩
def fX5_readTape (M : gMem) : Option (Int32 × gMem) := fX5_readTape_0 M
theorem SX5_readTape {G : gG} (M : gMem) {r : Int32} {N : gMem} (h : fX5_readTape M = some (r, N)) : gRun G YX5_readTape 8 [.ref 1] M (fun r' N' => r' = some (.int r) ∧ N' = N) := gRun_in (by decide +kernel) rfl (fun d hd => go_wk (CX5_readTape_0 hd M (fun p => p = (r, N)) (fun r N hh => by cases hh; exact ⟨rfl, rfl⟩) (gq_of h)) ⟨rfl, True.intro⟩)
def fX6_put_41 (x1 : Int32) (x2 : Int32) (M : gMem) : Option (Sum (Int32 × gMem) (gMem)) :=
  some (.inl ((x2 + (-8)), (gSI M 2 1 ((M.1 2 1) + (1 : Int32)))))
set_option maxRecDepth 100000 in
theorem CX6_put_41 {G : gG} {d : Nat} {Z : Option Value → gMem → Prop} (hd : 0 ≤ d) (x1 : Int32) (x2 : Int32) (M : gMem) (P : Sum (Int32 × gMem) (gMem) → Prop) (k0 : ∀ (N : gMem), P (.inr N) → Z none N) (k1 : ∀ (x2 : Int32) (M : gMem), P (.inl (x2, M)) → gGo G YX6_put d Z 3 [some (.ref 2), some (.int x1), some (.int x2)] [] M) (h : gOKq (fX6_put_41 x1 x2 M) P) : gGo G YX6_put d Z 41 [some (.ref 2), some (.int x1), some (.int x2)] [.ref 2, .ref 2] M := by
  unfold fX6_put_41 at h
  refine go_ck okX6_put rfl (gOb_c rfl) ?_
  refine go_rn 2 (pc' := 46) (L' := [some (.ref 2), some (.int x1), some (.int x2)]) (S' := [.int ((M.1 2 1) + (1 : Int32)), .ref 2]) (M' := M) okX6_put rfl ?_
  refine go_ck okX6_put rfl (gOb_c rfl) ?_
  refine go_rn 2 (pc' := 3) (L' := [some (.ref 2), some (.int x1), some (.int (x2 + (-8)))]) (S' := []) (M' := (gSI M 2 1 ((M.1 2 1) + (1 : Int32)))) okX6_put rfl ?_
  exact go_wk (k1 ((x2 + (-8))) (gSI M 2 1 ((M.1 2 1) + (1 : Int32))) h) ⟨rfl, rfl, rfl, True.intro⟩
def fX6_put_3 (x1 : Int32) (x2 : Int32) (M : gMem) : Option (Sum (Int32 × gMem) (gMem)) :=
  if x2 < 0 then some (.inr M) else if (M.1 2 1) < 0 then some (.inl ((x2 + (-8)), M)) else if (nI (gSh 3).2) ≤ (M.1 2 1) then some (.inl ((x2 + (-8)), M)) else if gIx 2 3 (M.1 2 1) = true then fX6_put_41 x1 x2 (gSI M 3 (Int32.toNatClampNeg (M.1 2 1)) (vp_nar .byte ((x1 >>> (x2 &&& 31)).toInt8.toInt32))) else none
set_option maxRecDepth 100000 in
theorem CX6_put_3 {G : gG} {d : Nat} {Z : Option Value → gMem → Prop} (hd : 0 ≤ d) (x1 : Int32) (x2 : Int32) (M : gMem) (P : Sum (Int32 × gMem) (gMem) → Prop) (k0 : ∀ (N : gMem), P (.inr N) → Z none N) (k1 : ∀ (x2 : Int32) (M : gMem), P (.inl (x2, M)) → gGo G YX6_put d Z 3 [some (.ref 2), some (.int x1), some (.int x2)] [] M) (h : gOKq (fX6_put_3 x1 x2 M) P) : gGo G YX6_put d Z 3 [some (.ref 2), some (.int x1), some (.int x2)] [] M := by
  unfold fX6_put_3 at h
  refine go_rn 1 (pc' := 4) (L' := [some (.ref 2), some (.int x1), some (.int x2)]) (S' := [.int x2]) (M' := M) okX6_put rfl ?_
  refine go_br okX6_put rfl (fun hp => ?_) (fun hp => ?_)
  · have h := gq_pos hp h
    exact go_vret (reX6_put _ (by decide)) rfl (k0 M h)
  · have h := gq_neg hp h
    refine go_rn 1 (pc' := 8) (L' := [some (.ref 2), some (.int x1), some (.int x2)]) (S' := [.ref 2]) (M' := M) okX6_put rfl ?_
    refine go_ck okX6_put rfl (gOb_c rfl) ?_
    refine go_br okX6_put rfl (fun hp => ?_) (fun hp => ?_)
    · have h := gq_pos hp h
      refine go_rn 2 (pc' := 3) (L' := [some (.ref 2), some (.int x1), some (.int (x2 + (-8)))]) (S' := []) (M' := M) okX6_put rfl ?_
      exact go_wk (k1 ((x2 + (-8))) M h) ⟨rfl, rfl, rfl, True.intro⟩
    · have h := gq_neg hp h
      refine go_rn 1 (pc' := 15) (L' := [some (.ref 2), some (.int x1), some (.int x2)]) (S' := [.ref 2]) (M' := M) okX6_put rfl ?_
      refine go_ck okX6_put rfl (gOb_c rfl) ?_
      refine go_rn 1 (pc' := 19) (L' := [some (.ref 2), some (.int x1), some (.int x2)]) (S' := [.ref 2, .int (M.1 2 1)]) (M' := M) okX6_put rfl ?_
      refine go_ck okX6_put rfl (gOb_c rfl) ?_
      refine go_ck okX6_put rfl (gAl_c rfl) ?_
      refine go_br okX6_put rfl (fun hp => ?_) (fun hp => ?_)
      · have h := gq_pos hp h
        refine go_rn 2 (pc' := 3) (L' := [some (.ref 2), some (.int x1), some (.int (x2 + (-8)))]) (S' := []) (M' := M) okX6_put rfl ?_
        exact go_wk (k1 ((x2 + (-8))) M h) ⟨rfl, rfl, rfl, True.intro⟩
      · have h := gq_neg hp h
        refine go_rn 1 (pc' := 27) (L' := [some (.ref 2), some (.int x1), some (.int x2)]) (S' := [.ref 2]) (M' := M) okX6_put rfl ?_
        refine go_ck okX6_put rfl (gOb_c rfl) ?_
        refine go_rn 1 (pc' := 31) (L' := [some (.ref 2), some (.int x1), some (.int x2)]) (S' := [.ref 2, .ref 3]) (M' := M) okX6_put rfl ?_
        refine go_ck okX6_put rfl (gOb_c rfl) ?_
        refine go_rn 4 (pc' := 38) (L' := [some (.ref 2), some (.int x1), some (.int x2)]) (S' := [.int ((x1 >>> (x2 &&& 31)).toInt8.toInt32), .int (M.1 2 1), .ref 3]) (M' := M) okX6_put rfl ?_
        obtain ⟨c1, h⟩ := gq_if h
        refine go_ck okX6_put rfl c1 ?_
        refine go_rn 2 (pc' := 41) (L' := [some (.ref 2), some (.int x1), some (.int x2)]) (S' := [.ref 2, .ref 2]) (M' := (gSI M 3 (Int32.toNatClampNeg (M.1 2 1)) (vp_nar .byte ((x1 >>> (x2 &&& 31)).toInt8.toInt32)))) okX6_put rfl ?_
        exact go_wk (CX6_put_41 hd x1 x2 (gSI M 3 (Int32.toNatClampNeg (M.1 2 1)) (vp_nar .byte ((x1 >>> (x2 &&& 31)).toInt8.toInt32))) P k0 k1 h) ⟨rfl, rfl, rfl, True.intro⟩
def fX6_put_3h (x1 : Int32) (x2 : Int32) (M : gMem) : Option (gMem) :=
  gLp (fun s : Int32 × gMem => fX6_put_3 x1 (s.1) s.2) gFu (x2, M)
set_option maxRecDepth 100000 in
theorem CX6_put_3h {G : gG} {d : Nat} {Z : Option Value → gMem → Prop} (hd : 0 ≤ d) (x1 : Int32) (x2 : Int32) (M : gMem) (P : gMem → Prop) (k0 : ∀ (N : gMem), P N → Z none N) (h : gOKq (fX6_put_3h x1 x2 M) P) : gGo G YX6_put d Z 3 [some (.ref 2), some (.int x1), some (.int x2)] [] M :=
  gLp_go (K := fun s : Int32 × gMem => gGo G YX6_put d Z 3 [some (.ref 2), some (.int x1), some (.int s.1)] [] s.2) (P := P) (fun s hs => CX6_put_3 hd (x1) (s.1) (s.2) (Sum.elim (fun s : Int32 × gMem => gGo G YX6_put d Z 3 [some (.ref 2), some (.int x1), some (.int s.1)] [] s.2) P) k0 (fun x2 M hh => hh) hs) gFu (x2, M) h
def fX6_put_0 (x1 : Int32) (M : gMem) : Option (gMem) :=
  fX6_put_3h x1 (24 : Int32) M
set_option maxRecDepth 100000 in
theorem CX6_put_0 {G : gG} {d : Nat} {Z : Option Value → gMem → Prop} (hd : 0 ≤ d) (x1 : Int32) (M : gMem) (P : gMem → Prop) (k0 : ∀ (N : gMem), P N → Z none N) (h : gOKq (fX6_put_0 x1 M) P) : gGo G YX6_put d Z 0 [some (.ref 2), some (.int x1), none] [] M := by
  unfold fX6_put_0 at h
  refine go_rn 2 (pc' := 3) (L' := [some (.ref 2), some (.int x1), some (.int (24 : Int32))]) (S' := []) (M' := M) okX6_put rfl ?_
  exact go_wk (CX6_put_3h hd x1 (24 : Int32) M P k0 h) ⟨rfl, rfl, rfl, True.intro⟩
def fX6_put (a1 : Int32) (M : gMem) : Option (gMem) := fX6_put_0 a1 M
theorem SX6_put {G : gG} (a1 : Int32) (M : gMem) {N : gMem} (h : fX6_put a1 M = some N) : gRun G YX6_put 0 [.ref 2, .int a1] M (fun r' N' => r' = none ∧ N' = N) := gRun_in (by decide +kernel) rfl (fun d hd => go_wk (CX6_put_0 hd a1 M (fun p => p = N) (fun N hh => ⟨rfl, hh⟩) (gq_of h)) ⟨rfl, rfl, True.intro⟩)
def fX7_copyFrom_80 (x0 : Nat) (x1 : Nat) (s0 : Nat) (s1 : Nat) (M : gMem) : Option (gMem) :=
  gB0 (fX7_copy s1 s0 M) (fun M1 => gB0 (fX7_copy (x1 + 2) (x0 + 2) M1) (fun M3 => gB0 (fX7_copy (x1 + 3) (x0 + 3) M3) (fun M5 => gB0 (fX7_copy (x1 + 4) (x0 + 4) M5) (fun M7 => gB0 (fX7_copy (x1 + 5) (x0 + 5) M7) (fun M9 => gB0 (fX7_copy (x1 + 6) (x0 + 6) M9) (fun M11 => gB0 (fX7_copy (x1 + 7) (x0 + 7) M11) (fun M13 => gB0 (fX7_copy (x1 + 8) (x0 + 8) M13) (fun M15 => gB0 (fX7_copy (x1 + 9) (x0 + 9) M15) (fun M17 => gB0 (fX0_copyFrom (x0 + 10) (x1 + 10) M17) (fun M19 => some M19))))))))))
set_option maxRecDepth 100000 in
theorem CX7_copyFrom_80 {G : gG} {d : Nat} {Z : Option Value → gMem → Prop} (hd : 2 ≤ d) (x0 : Nat) (x1 : Nat) (s0 : Nat) (s1 : Nat) (M : gMem) (o_x0 : gOb 7 x0 = true) (o_x1 : gOb 7 x1 = true) (P : gMem → Prop) (k0 : ∀ (N : gMem), P N → Z none N) (h : gOKq (fX7_copyFrom_80 x0 x1 s0 s1 M) P) : gGo G YX7_copyFrom d Z 80 [some (.ref x0), some (.ref x1)] [.ref s0, .ref s1] M := by
  unfold fX7_copyFrom_80 at h
  obtain ⟨M1, e2, h⟩ := gB0_ok h
  refine go_call1 ocX7_copyFrom rfl rfl rfl rfl (SX7_copy s1 s0 M e2) (Nat.lt_of_lt_of_le (by decide) hd) ?_
  refine go_rn 1 (pc' := 84) (L' := [some (.ref x0), some (.ref x1)]) (S' := [.ref x1]) (M' := M1) okX7_copyFrom rfl ?_
  refine go_ck okX7_copyFrom rfl o_x1 ?_
  refine go_rn 1 (pc' := 88) (L' := [some (.ref x0), some (.ref x1)]) (S' := [.ref x0, .ref (x1 + 2)]) (M' := M1) okX7_copyFrom rfl ?_
  refine go_ck okX7_copyFrom rfl o_x0 ?_
  obtain ⟨M3, e4, h⟩ := gB0_ok h
  refine go_call1 ocX7_copyFrom rfl rfl rfl rfl (SX7_copy (x1 + 2) (x0 + 2) M1 e4) (Nat.lt_of_lt_of_le (by decide) hd) ?_
  refine go_rn 1 (pc' := 95) (L' := [some (.ref x0), some (.ref x1)]) (S' := [.ref x1]) (M' := M3) okX7_copyFrom rfl ?_
  refine go_ck okX7_copyFrom rfl o_x1 ?_
  refine go_rn 1 (pc' := 99) (L' := [some (.ref x0), some (.ref x1)]) (S' := [.ref x0, .ref (x1 + 3)]) (M' := M3) okX7_copyFrom rfl ?_
  refine go_ck okX7_copyFrom rfl o_x0 ?_
  obtain ⟨M5, e6, h⟩ := gB0_ok h
  refine go_call1 ocX7_copyFrom rfl rfl rfl rfl (SX7_copy (x1 + 3) (x0 + 3) M3 e6) (Nat.lt_of_lt_of_le (by decide) hd) ?_
  refine go_rn 1 (pc' := 106) (L' := [some (.ref x0), some (.ref x1)]) (S' := [.ref x1]) (M' := M5) okX7_copyFrom rfl ?_
  refine go_ck okX7_copyFrom rfl o_x1 ?_
  refine go_rn 1 (pc' := 110) (L' := [some (.ref x0), some (.ref x1)]) (S' := [.ref x0, .ref (x1 + 4)]) (M' := M5) okX7_copyFrom rfl ?_
  refine go_ck okX7_copyFrom rfl o_x0 ?_
  obtain ⟨M7, e8, h⟩ := gB0_ok h
  refine go_call1 ocX7_copyFrom rfl rfl rfl rfl (SX7_copy (x1 + 4) (x0 + 4) M5 e8) (Nat.lt_of_lt_of_le (by decide) hd) ?_
  refine go_rn 1 (pc' := 117) (L' := [some (.ref x0), some (.ref x1)]) (S' := [.ref x1]) (M' := M7) okX7_copyFrom rfl ?_
  refine go_ck okX7_copyFrom rfl o_x1 ?_
  refine go_rn 1 (pc' := 121) (L' := [some (.ref x0), some (.ref x1)]) (S' := [.ref x0, .ref (x1 + 5)]) (M' := M7) okX7_copyFrom rfl ?_
  refine go_ck okX7_copyFrom rfl o_x0 ?_
  obtain ⟨M9, e10, h⟩ := gB0_ok h
  refine go_call1 ocX7_copyFrom rfl rfl rfl rfl (SX7_copy (x1 + 5) (x0 + 5) M7 e10) (Nat.lt_of_lt_of_le (by decide) hd) ?_
  refine go_rn 1 (pc' := 128) (L' := [some (.ref x0), some (.ref x1)]) (S' := [.ref x1]) (M' := M9) okX7_copyFrom rfl ?_
  refine go_ck okX7_copyFrom rfl o_x1 ?_
  refine go_rn 1 (pc' := 132) (L' := [some (.ref x0), some (.ref x1)]) (S' := [.ref x0, .ref (x1 + 6)]) (M' := M9) okX7_copyFrom rfl ?_
  refine go_ck okX7_copyFrom rfl o_x0 ?_
  obtain ⟨M11, e12, h⟩ := gB0_ok h
  refine go_call1 ocX7_copyFrom rfl rfl rfl rfl (SX7_copy (x1 + 6) (x0 + 6) M9 e12) (Nat.lt_of_lt_of_le (by decide) hd) ?_
  refine go_rn 1 (pc' := 139) (L' := [some (.ref x0), some (.ref x1)]) (S' := [.ref x1]) (M' := M11) okX7_copyFrom rfl ?_
  refine go_ck okX7_copyFrom rfl o_x1 ?_
  refine go_rn 1 (pc' := 143) (L' := [some (.ref x0), some (.ref x1)]) (S' := [.ref x0, .ref (x1 + 7)]) (M' := M11) okX7_copyFrom rfl ?_
  refine go_ck okX7_copyFrom rfl o_x0 ?_
  obtain ⟨M13, e14, h⟩ := gB0_ok h
  refine go_call1 ocX7_copyFrom rfl rfl rfl rfl (SX7_copy (x1 + 7) (x0 + 7) M11 e14) (Nat.lt_of_lt_of_le (by decide) hd) ?_
  refine go_rn 1 (pc' := 150) (L' := [some (.ref x0), some (.ref x1)]) (S' := [.ref x1]) (M' := M13) okX7_copyFrom rfl ?_
  refine go_ck okX7_copyFrom rfl o_x1 ?_
  refine go_rn 1 (pc' := 154) (L' := [some (.ref x0), some (.ref x1)]) (S' := [.ref x0, .ref (x1 + 8)]) (M' := M13) okX7_copyFrom rfl ?_
  refine go_ck okX7_copyFrom rfl o_x0 ?_
  obtain ⟨M15, e16, h⟩ := gB0_ok h
  refine go_call1 ocX7_copyFrom rfl rfl rfl rfl (SX7_copy (x1 + 8) (x0 + 8) M13 e16) (Nat.lt_of_lt_of_le (by decide) hd) ?_
  refine go_rn 1 (pc' := 161) (L' := [some (.ref x0), some (.ref x1)]) (S' := [.ref x1]) (M' := M15) okX7_copyFrom rfl ?_
  refine go_ck okX7_copyFrom rfl o_x1 ?_
  refine go_rn 1 (pc' := 165) (L' := [some (.ref x0), some (.ref x1)]) (S' := [.ref x0, .ref (x1 + 9)]) (M' := M15) okX7_copyFrom rfl ?_
  refine go_ck okX7_copyFrom rfl o_x0 ?_
  obtain ⟨M17, e18, h⟩ := gB0_ok h
  refine go_call1 ocX7_copyFrom rfl rfl rfl rfl (SX7_copy (x1 + 9) (x0 + 9) M15 e18) (Nat.lt_of_lt_of_le (by decide) hd) ?_
  refine go_rn 1 (pc' := 172) (L' := [some (.ref x0), some (.ref x1)]) (S' := [.ref x0]) (M' := M17) okX7_copyFrom rfl ?_
  refine go_ck okX7_copyFrom rfl o_x0 ?_
  refine go_rn 1 (pc' := 176) (L' := [some (.ref x0), some (.ref x1)]) (S' := [.ref x1, .ref (x0 + 10)]) (M' := M17) okX7_copyFrom rfl ?_
  refine go_ck okX7_copyFrom rfl o_x1 ?_
  obtain ⟨M19, e20, h⟩ := gB0_ok h
  refine go_call1 ocX7_copyFrom rfl rfl (gTa o_x0) rfl (SX0_copyFrom (x0 + 10) (x1 + 10) M17 (gTa o_x0) (gTa o_x1) e20) (Nat.lt_of_lt_of_le (by decide) hd) ?_
  exact go_vret (reX7_copyFrom _ (by decide)) rfl (k0 M19 h)
def fX7_copyFrom_66 (x0 : Nat) (x1 : Nat) (s0 : Nat) (s1 : Nat) (M : gMem) : Option (gMem) :=
  fX7_copyFrom_80 x0 x1 (x0 + 1) (x1 + 1) (gSI M s1 8 (M.1 s0 8))
set_option maxRecDepth 100000 in
theorem CX7_copyFrom_66 {G : gG} {d : Nat} {Z : Option Value → gMem → Prop} (hd : 2 ≤ d) (x0 : Nat) (x1 : Nat) (s0 : Nat) (s1 : Nat) (M : gMem) (o_x0 : gOb 7 x0 = true) (o_x1 : gOb 7 x1 = true) (o_s0 : gOb 7 s0 = true) (o_s1 : gOb 7 s1 = true) (P : gMem → Prop) (k0 : ∀ (N : gMem), P N → Z none N) (h : gOKq (fX7_copyFrom_66 x0 x1 s0 s1 M) P) : gGo G YX7_copyFrom d Z 66 [some (.ref x0), some (.ref x1)] [.ref s0, .ref s1] M := by
  unfold fX7_copyFrom_66 at h
  refine go_ck okX7_copyFrom rfl o_s0 ?_
  refine go_ck okX7_copyFrom rfl o_s1 ?_
  refine go_rn 1 (pc' := 73) (L' := [some (.ref x0), some (.ref x1)]) (S' := [.ref x1]) (M' := (gSI M s1 8 (M.1 s0 8))) okX7_copyFrom rfl ?_
  refine go_ck okX7_copyFrom rfl o_x1 ?_
  refine go_rn 1 (pc' := 77) (L' := [some (.ref x0), some (.ref x1)]) (S' := [.ref x0, .ref (x1 + 1)]) (M' := (gSI M s1 8 (M.1 s0 8))) okX7_copyFrom rfl ?_
  refine go_ck okX7_copyFrom rfl o_x0 ?_
  exact go_wk (CX7_copyFrom_80 hd x0 x1 (x0 + 1) (x1 + 1) (gSI M s1 8 (M.1 s0 8)) o_x0 o_x1 P k0 h) ⟨rfl, rfl, True.intro⟩
def fX7_copyFrom_58 (x0 : Nat) (x1 : Nat) (s0 : Nat) (s1 : Nat) (M : gMem) : Option (gMem) :=
  fX7_copyFrom_66 x0 x1 x1 x0 (gSI M s1 7 (M.1 s0 7))
set_option maxRecDepth 100000 in
theorem CX7_copyFrom_58 {G : gG} {d : Nat} {Z : Option Value → gMem → Prop} (hd : 2 ≤ d) (x0 : Nat) (x1 : Nat) (s0 : Nat) (s1 : Nat) (M : gMem) (o_x0 : gOb 7 x0 = true) (o_x1 : gOb 7 x1 = true) (o_s0 : gOb 7 s0 = true) (o_s1 : gOb 7 s1 = true) (P : gMem → Prop) (k0 : ∀ (N : gMem), P N → Z none N) (h : gOKq (fX7_copyFrom_58 x0 x1 s0 s1 M) P) : gGo G YX7_copyFrom d Z 58 [some (.ref x0), some (.ref x1)] [.ref s0, .ref s1] M := by
  unfold fX7_copyFrom_58 at h
  refine go_ck okX7_copyFrom rfl o_s0 ?_
  refine go_ck okX7_copyFrom rfl o_s1 ?_
  refine go_rn 2 (pc' := 66) (L' := [some (.ref x0), some (.ref x1)]) (S' := [.ref x1, .ref x0]) (M' := (gSI M s1 7 (M.1 s0 7))) okX7_copyFrom rfl ?_
  exact go_wk (CX7_copyFrom_66 hd x0 x1 x1 x0 (gSI M s1 7 (M.1 s0 7)) o_x0 o_x1 o_x1 o_x0 P k0 h) ⟨rfl, rfl, True.intro⟩
def fX7_copyFrom_50 (x0 : Nat) (x1 : Nat) (s0 : Nat) (s1 : Nat) (M : gMem) : Option (gMem) :=
  fX7_copyFrom_58 x0 x1 x1 x0 (gSI M s1 6 (M.1 s0 6))
set_option maxRecDepth 100000 in
theorem CX7_copyFrom_50 {G : gG} {d : Nat} {Z : Option Value → gMem → Prop} (hd : 2 ≤ d) (x0 : Nat) (x1 : Nat) (s0 : Nat) (s1 : Nat) (M : gMem) (o_x0 : gOb 7 x0 = true) (o_x1 : gOb 7 x1 = true) (o_s0 : gOb 7 s0 = true) (o_s1 : gOb 7 s1 = true) (P : gMem → Prop) (k0 : ∀ (N : gMem), P N → Z none N) (h : gOKq (fX7_copyFrom_50 x0 x1 s0 s1 M) P) : gGo G YX7_copyFrom d Z 50 [some (.ref x0), some (.ref x1)] [.ref s0, .ref s1] M := by
  unfold fX7_copyFrom_50 at h
  refine go_ck okX7_copyFrom rfl o_s0 ?_
  refine go_ck okX7_copyFrom rfl o_s1 ?_
  refine go_rn 2 (pc' := 58) (L' := [some (.ref x0), some (.ref x1)]) (S' := [.ref x1, .ref x0]) (M' := (gSI M s1 6 (M.1 s0 6))) okX7_copyFrom rfl ?_
  exact go_wk (CX7_copyFrom_58 hd x0 x1 x1 x0 (gSI M s1 6 (M.1 s0 6)) o_x0 o_x1 o_x1 o_x0 P k0 h) ⟨rfl, rfl, True.intro⟩
def fX7_copyFrom_42 (x0 : Nat) (x1 : Nat) (s0 : Nat) (s1 : Nat) (M : gMem) : Option (gMem) :=
  fX7_copyFrom_50 x0 x1 x1 x0 (gSI M s1 5 (M.1 s0 5))
set_option maxRecDepth 100000 in
theorem CX7_copyFrom_42 {G : gG} {d : Nat} {Z : Option Value → gMem → Prop} (hd : 2 ≤ d) (x0 : Nat) (x1 : Nat) (s0 : Nat) (s1 : Nat) (M : gMem) (o_x0 : gOb 7 x0 = true) (o_x1 : gOb 7 x1 = true) (o_s0 : gOb 7 s0 = true) (o_s1 : gOb 7 s1 = true) (P : gMem → Prop) (k0 : ∀ (N : gMem), P N → Z none N) (h : gOKq (fX7_copyFrom_42 x0 x1 s0 s1 M) P) : gGo G YX7_copyFrom d Z 42 [some (.ref x0), some (.ref x1)] [.ref s0, .ref s1] M := by
  unfold fX7_copyFrom_42 at h
  refine go_ck okX7_copyFrom rfl o_s0 ?_
  refine go_ck okX7_copyFrom rfl o_s1 ?_
  refine go_rn 2 (pc' := 50) (L' := [some (.ref x0), some (.ref x1)]) (S' := [.ref x1, .ref x0]) (M' := (gSI M s1 5 (M.1 s0 5))) okX7_copyFrom rfl ?_
  exact go_wk (CX7_copyFrom_50 hd x0 x1 x1 x0 (gSI M s1 5 (M.1 s0 5)) o_x0 o_x1 o_x1 o_x0 P k0 h) ⟨rfl, rfl, True.intro⟩
def fX7_copyFrom_34 (x0 : Nat) (x1 : Nat) (s0 : Nat) (s1 : Nat) (M : gMem) : Option (gMem) :=
  fX7_copyFrom_42 x0 x1 x1 x0 (gSI M s1 4 (M.1 s0 4))
set_option maxRecDepth 100000 in
theorem CX7_copyFrom_34 {G : gG} {d : Nat} {Z : Option Value → gMem → Prop} (hd : 2 ≤ d) (x0 : Nat) (x1 : Nat) (s0 : Nat) (s1 : Nat) (M : gMem) (o_x0 : gOb 7 x0 = true) (o_x1 : gOb 7 x1 = true) (o_s0 : gOb 7 s0 = true) (o_s1 : gOb 7 s1 = true) (P : gMem → Prop) (k0 : ∀ (N : gMem), P N → Z none N) (h : gOKq (fX7_copyFrom_34 x0 x1 s0 s1 M) P) : gGo G YX7_copyFrom d Z 34 [some (.ref x0), some (.ref x1)] [.ref s0, .ref s1] M := by
  unfold fX7_copyFrom_34 at h
  refine go_ck okX7_copyFrom rfl o_s0 ?_
  refine go_ck okX7_copyFrom rfl o_s1 ?_
  refine go_rn 2 (pc' := 42) (L' := [some (.ref x0), some (.ref x1)]) (S' := [.ref x1, .ref x0]) (M' := (gSI M s1 4 (M.1 s0 4))) okX7_copyFrom rfl ?_
  exact go_wk (CX7_copyFrom_42 hd x0 x1 x1 x0 (gSI M s1 4 (M.1 s0 4)) o_x0 o_x1 o_x1 o_x0 P k0 h) ⟨rfl, rfl, True.intro⟩
def fX7_copyFrom_26 (x0 : Nat) (x1 : Nat) (s0 : Nat) (s1 : Nat) (M : gMem) : Option (gMem) :=
  fX7_copyFrom_34 x0 x1 x1 x0 (gSI M s1 3 (M.1 s0 3))
set_option maxRecDepth 100000 in
theorem CX7_copyFrom_26 {G : gG} {d : Nat} {Z : Option Value → gMem → Prop} (hd : 2 ≤ d) (x0 : Nat) (x1 : Nat) (s0 : Nat) (s1 : Nat) (M : gMem) (o_x0 : gOb 7 x0 = true) (o_x1 : gOb 7 x1 = true) (o_s0 : gOb 7 s0 = true) (o_s1 : gOb 7 s1 = true) (P : gMem → Prop) (k0 : ∀ (N : gMem), P N → Z none N) (h : gOKq (fX7_copyFrom_26 x0 x1 s0 s1 M) P) : gGo G YX7_copyFrom d Z 26 [some (.ref x0), some (.ref x1)] [.ref s0, .ref s1] M := by
  unfold fX7_copyFrom_26 at h
  refine go_ck okX7_copyFrom rfl o_s0 ?_
  refine go_ck okX7_copyFrom rfl o_s1 ?_
  refine go_rn 2 (pc' := 34) (L' := [some (.ref x0), some (.ref x1)]) (S' := [.ref x1, .ref x0]) (M' := (gSI M s1 3 (M.1 s0 3))) okX7_copyFrom rfl ?_
  exact go_wk (CX7_copyFrom_34 hd x0 x1 x1 x0 (gSI M s1 3 (M.1 s0 3)) o_x0 o_x1 o_x1 o_x0 P k0 h) ⟨rfl, rfl, True.intro⟩
def fX7_copyFrom_18 (x0 : Nat) (x1 : Nat) (s0 : Nat) (s1 : Nat) (M : gMem) : Option (gMem) :=
  fX7_copyFrom_26 x0 x1 x1 x0 (gSI M s1 2 (M.1 s0 2))
set_option maxRecDepth 100000 in
theorem CX7_copyFrom_18 {G : gG} {d : Nat} {Z : Option Value → gMem → Prop} (hd : 2 ≤ d) (x0 : Nat) (x1 : Nat) (s0 : Nat) (s1 : Nat) (M : gMem) (o_x0 : gOb 7 x0 = true) (o_x1 : gOb 7 x1 = true) (o_s0 : gOb 7 s0 = true) (o_s1 : gOb 7 s1 = true) (P : gMem → Prop) (k0 : ∀ (N : gMem), P N → Z none N) (h : gOKq (fX7_copyFrom_18 x0 x1 s0 s1 M) P) : gGo G YX7_copyFrom d Z 18 [some (.ref x0), some (.ref x1)] [.ref s0, .ref s1] M := by
  unfold fX7_copyFrom_18 at h
  refine go_ck okX7_copyFrom rfl o_s0 ?_
  refine go_ck okX7_copyFrom rfl o_s1 ?_
  refine go_rn 2 (pc' := 26) (L' := [some (.ref x0), some (.ref x1)]) (S' := [.ref x1, .ref x0]) (M' := (gSI M s1 2 (M.1 s0 2))) okX7_copyFrom rfl ?_
  exact go_wk (CX7_copyFrom_26 hd x0 x1 x1 x0 (gSI M s1 2 (M.1 s0 2)) o_x0 o_x1 o_x1 o_x0 P k0 h) ⟨rfl, rfl, True.intro⟩
def fX7_copyFrom_10 (x0 : Nat) (x1 : Nat) (s0 : Nat) (s1 : Nat) (M : gMem) : Option (gMem) :=
  fX7_copyFrom_18 x0 x1 x1 x0 (gSI M s1 1 (M.1 s0 1))
set_option maxRecDepth 100000 in
theorem CX7_copyFrom_10 {G : gG} {d : Nat} {Z : Option Value → gMem → Prop} (hd : 2 ≤ d) (x0 : Nat) (x1 : Nat) (s0 : Nat) (s1 : Nat) (M : gMem) (o_x0 : gOb 7 x0 = true) (o_x1 : gOb 7 x1 = true) (o_s0 : gOb 7 s0 = true) (o_s1 : gOb 7 s1 = true) (P : gMem → Prop) (k0 : ∀ (N : gMem), P N → Z none N) (h : gOKq (fX7_copyFrom_10 x0 x1 s0 s1 M) P) : gGo G YX7_copyFrom d Z 10 [some (.ref x0), some (.ref x1)] [.ref s0, .ref s1] M := by
  unfold fX7_copyFrom_10 at h
  refine go_ck okX7_copyFrom rfl o_s0 ?_
  refine go_ck okX7_copyFrom rfl o_s1 ?_
  refine go_rn 2 (pc' := 18) (L' := [some (.ref x0), some (.ref x1)]) (S' := [.ref x1, .ref x0]) (M' := (gSI M s1 1 (M.1 s0 1))) okX7_copyFrom rfl ?_
  exact go_wk (CX7_copyFrom_18 hd x0 x1 x1 x0 (gSI M s1 1 (M.1 s0 1)) o_x0 o_x1 o_x1 o_x0 P k0 h) ⟨rfl, rfl, True.intro⟩
def fX7_copyFrom_0 (x0 : Nat) (x1 : Nat) (M : gMem) : Option (gMem) :=
  fX7_copyFrom_10 x0 x1 x1 x0 (gSI M x0 0 (M.1 x1 0))
set_option maxRecDepth 100000 in
theorem CX7_copyFrom_0 {G : gG} {d : Nat} {Z : Option Value → gMem → Prop} (hd : 2 ≤ d) (x0 : Nat) (x1 : Nat) (M : gMem) (o_x0 : gOb 7 x0 = true) (o_x1 : gOb 7 x1 = true) (P : gMem → Prop) (k0 : ∀ (N : gMem), P N → Z none N) (h : gOKq (fX7_copyFrom_0 x0 x1 M) P) : gGo G YX7_copyFrom d Z 0 [some (.ref x0), some (.ref x1)] [] M := by
  unfold fX7_copyFrom_0 at h
  refine go_rn 2 (pc' := 2) (L' := [some (.ref x0), some (.ref x1)]) (S' := [.ref x1, .ref x0]) (M' := M) okX7_copyFrom rfl ?_
  refine go_ck okX7_copyFrom rfl o_x1 ?_
  refine go_ck okX7_copyFrom rfl o_x0 ?_
  refine go_rn 2 (pc' := 10) (L' := [some (.ref x0), some (.ref x1)]) (S' := [.ref x1, .ref x0]) (M' := (gSI M x0 0 (M.1 x1 0))) okX7_copyFrom rfl ?_
  exact go_wk (CX7_copyFrom_10 hd x0 x1 x1 x0 (gSI M x0 0 (M.1 x1 0)) o_x0 o_x1 o_x1 o_x0 P k0 h) ⟨rfl, rfl, True.intro⟩
def fX7_copyFrom (a0 : Nat) (a1 : Nat) (M : gMem) : Option (gMem) := fX7_copyFrom_0 a0 a1 M
theorem SX7_copyFrom {G : gG} (a0 : Nat) (a1 : Nat) (M : gMem) (o_a0 : gOb 7 a0 = true) (o_a1 : gOb 7 a1 = true) {N : gMem} (h : fX7_copyFrom a0 a1 M = some N) : gRun G YX7_copyFrom 2 [.ref a0, .ref a1] M (fun r' N' => r' = none ∧ N' = N) := gRun_in (by decide +kernel) rfl (fun d hd => go_wk (CX7_copyFrom_0 hd a0 a1 M o_a0 o_a1 (fun p => p = N) (fun N hh => ⟨rfl, hh⟩) (gq_of h)) ⟨rfl, rfl, True.intro⟩)
def fX7_isTold_0 (x0 : Nat) (M : gMem) : Option (Int32) :=
  if (M.1 x0 0) ≤ 0 then some (0 : Int32) else some (1 : Int32)
set_option maxRecDepth 100000 in
theorem CX7_isTold_0 {G : gG} {d : Nat} {Z : Option Value → gMem → Prop} (hd : 0 ≤ d) (x0 : Nat) (M : gMem) (o_x0 : gOb 7 x0 = true) (P : Int32 → Prop) (k0 : ∀ (r : Int32), P r → Z (some (.int r)) M) (h : gOKq (fX7_isTold_0 x0 M) P) : gGo G YX7_isTold d Z 0 [some (.ref x0)] [] M := by
  unfold fX7_isTold_0 at h
  refine go_rn 1 (pc' := 1) (L' := [some (.ref x0)]) (S' := [.ref x0]) (M' := M) okX7_isTold rfl ?_
  refine go_ck okX7_isTold rfl o_x0 ?_
  refine go_br okX7_isTold rfl (fun hp => ?_) (fun hp => ?_)
  · have h := gq_pos hp h
    refine go_rn 1 (pc' := 12) (L' := [some (.ref x0)]) (S' := [.int (0 : Int32)]) (M' := M) okX7_isTold rfl ?_
    exact go_zret (reX7_isTold _ (by decide)) rfl (Or.inl rfl) (k0 (0 : Int32) h)
  · have h := gq_neg hp h
    refine go_rn 2 (pc' := 12) (L' := [some (.ref x0)]) (S' := [.int (1 : Int32)]) (M' := M) okX7_isTold rfl ?_
    exact go_zret (reX7_isTold _ (by decide)) rfl (Or.inr rfl) (k0 (1 : Int32) h)
def fX7_isTold (a0 : Nat) (M : gMem) : Option (Int32) := fX7_isTold_0 a0 M
theorem SX7_isTold {G : gG} (a0 : Nat) (M : gMem) (o_a0 : gOb 7 a0 = true) {r : Int32} (h : fX7_isTold a0 M = some r) : gRun G YX7_isTold 0 [.ref a0] M (fun r' N' => r' = some (.int r) ∧ N' = M) := gRun_in (by decide +kernel) rfl (fun d hd => go_wk (CX7_isTold_0 hd a0 M o_a0 (fun p => p = r) (fun r hh => ⟨congrArg (fun z => some (Value.int z)) hh, rfl⟩) (gq_of h)) ⟨rfl, True.intro⟩)
def fX7_hasYear_0 (x0 : Nat) (x1 : Int32) (M : gMem) : Option (Int32) :=
  if x1 < 0 then some (0 : Int32) else if (M.1 x0 1) ≤ x1 then some (0 : Int32) else some (1 : Int32)
set_option maxRecDepth 100000 in
theorem CX7_hasYear_0 {G : gG} {d : Nat} {Z : Option Value → gMem → Prop} (hd : 0 ≤ d) (x0 : Nat) (x1 : Int32) (M : gMem) (o_x0 : gOb 7 x0 = true) (P : Int32 → Prop) (k0 : ∀ (r : Int32), P r → Z (some (.int r)) M) (h : gOKq (fX7_hasYear_0 x0 x1 M) P) : gGo G YX7_hasYear d Z 0 [some (.ref x0), some (.int x1)] [] M := by
  unfold fX7_hasYear_0 at h
  refine go_rn 1 (pc' := 1) (L' := [some (.ref x0), some (.int x1)]) (S' := [.int x1]) (M' := M) okX7_hasYear rfl ?_
  refine go_br okX7_hasYear rfl (fun hp => ?_) (fun hp => ?_)
  · have h := gq_pos hp h
    refine go_rn 1 (pc' := 17) (L' := [some (.ref x0), some (.int x1)]) (S' := [.int (0 : Int32)]) (M' := M) okX7_hasYear rfl ?_
    exact go_zret (reX7_hasYear _ (by decide)) rfl (Or.inl rfl) (k0 (0 : Int32) h)
  · have h := gq_neg hp h
    refine go_rn 2 (pc' := 6) (L' := [some (.ref x0), some (.int x1)]) (S' := [.ref x0, .int x1]) (M' := M) okX7_hasYear rfl ?_
    refine go_ck okX7_hasYear rfl o_x0 ?_
    refine go_br okX7_hasYear rfl (fun hp => ?_) (fun hp => ?_)
    · have h := gq_pos hp h
      refine go_rn 1 (pc' := 17) (L' := [some (.ref x0), some (.int x1)]) (S' := [.int (0 : Int32)]) (M' := M) okX7_hasYear rfl ?_
      exact go_zret (reX7_hasYear _ (by decide)) rfl (Or.inl rfl) (k0 (0 : Int32) h)
    · have h := gq_neg hp h
      refine go_rn 2 (pc' := 17) (L' := [some (.ref x0), some (.int x1)]) (S' := [.int (1 : Int32)]) (M' := M) okX7_hasYear rfl ?_
      exact go_zret (reX7_hasYear _ (by decide)) rfl (Or.inr rfl) (k0 (1 : Int32) h)
def fX7_hasYear (a0 : Nat) (a1 : Int32) (M : gMem) : Option (Int32) := fX7_hasYear_0 a0 a1 M
theorem SX7_hasYear {G : gG} (a0 : Nat) (a1 : Int32) (M : gMem) (o_a0 : gOb 7 a0 = true) {r : Int32} (h : fX7_hasYear a0 a1 M = some r) : gRun G YX7_hasYear 0 [.ref a0, .int a1] M (fun r' N' => r' = some (.int r) ∧ N' = M) := gRun_in (by decide +kernel) rfl (fun d hd => go_wk (CX7_hasYear_0 hd a0 a1 M o_a0 (fun p => p = r) (fun r hh => ⟨congrArg (fun z => some (Value.int z)) hh, rfl⟩) (gq_of h)) ⟨rfl, rfl, True.intro⟩)
def fX7_hasPair_0 (x0 : Nat) (x1 : Int32) (x2 : Int32) (M : gMem) : Option (Int32) :=
  gB0 (fX7_hasPartner x0 x1 M) (fun r1 => if r1 = 0 then some (0 : Int32) else gB0 (fX7_hasPartner x0 x2 M) (fun r3 => if r3 = 0 then some (0 : Int32) else if x1 = x2 then some (0 : Int32) else some (1 : Int32)))
set_option maxRecDepth 100000 in
theorem CX7_hasPair_0 {G : gG} {d : Nat} {Z : Option Value → gMem → Prop} (hd : 1 ≤ d) (x0 : Nat) (x1 : Int32) (x2 : Int32) (M : gMem) (o_x0 : gOb 7 x0 = true) (P : Int32 → Prop) (k0 : ∀ (r : Int32), P r → Z (some (.int r)) M) (h : gOKq (fX7_hasPair_0 x0 x1 x2 M) P) : gGo G YX7_hasPair d Z 0 [some (.ref x0), some (.int x1), some (.int x2)] [] M := by
  unfold fX7_hasPair_0 at h
  refine go_rn 2 (pc' := 2) (L' := [some (.ref x0), some (.int x1), some (.int x2)]) (S' := [.int x1, .ref x0]) (M' := M) okX7_hasPair rfl ?_
  obtain ⟨r1, e2, h⟩ := gB0_ok h
  refine go_call1 ocX7_hasPair rfl rfl o_x0 rfl (SX7_hasPartner x0 x1 M o_x0 e2) (Nat.lt_of_lt_of_le (by decide) hd) ?_
  refine go_br okX7_hasPair rfl (fun hp => ?_) (fun hp => ?_)
  · have h := gq_pos hp h
    refine go_rn 1 (pc' := 26) (L' := [some (.ref x0), some (.int x1), some (.int x2)]) (S' := [.int (0 : Int32)]) (M' := M) okX7_hasPair rfl ?_
    exact go_zret (reX7_hasPair _ (by decide)) rfl (Or.inl rfl) (k0 (0 : Int32) h)
  · have h := gq_neg hp h
    refine go_rn 2 (pc' := 10) (L' := [some (.ref x0), some (.int x1), some (.int x2)]) (S' := [.int x2, .ref x0]) (M' := M) okX7_hasPair rfl ?_
    obtain ⟨r3, e4, h⟩ := gB0_ok h
    refine go_call1 ocX7_hasPair rfl rfl o_x0 rfl (SX7_hasPartner x0 x2 M o_x0 e4) (Nat.lt_of_lt_of_le (by decide) hd) ?_
    refine go_br okX7_hasPair rfl (fun hp => ?_) (fun hp => ?_)
    · have h := gq_pos hp h
      refine go_rn 1 (pc' := 26) (L' := [some (.ref x0), some (.int x1), some (.int x2)]) (S' := [.int (0 : Int32)]) (M' := M) okX7_hasPair rfl ?_
      exact go_zret (reX7_hasPair _ (by decide)) rfl (Or.inl rfl) (k0 (0 : Int32) h)
    · have h := gq_neg hp h
      refine go_rn 2 (pc' := 18) (L' := [some (.ref x0), some (.int x1), some (.int x2)]) (S' := [.int x2, .int x1]) (M' := M) okX7_hasPair rfl ?_
      refine go_br okX7_hasPair rfl (fun hp => ?_) (fun hp => ?_)
      · have h := gq_pos hp h
        refine go_rn 1 (pc' := 26) (L' := [some (.ref x0), some (.int x1), some (.int x2)]) (S' := [.int (0 : Int32)]) (M' := M) okX7_hasPair rfl ?_
        exact go_zret (reX7_hasPair _ (by decide)) rfl (Or.inl rfl) (k0 (0 : Int32) h)
      · have h := gq_neg hp h
        refine go_rn 2 (pc' := 26) (L' := [some (.ref x0), some (.int x1), some (.int x2)]) (S' := [.int (1 : Int32)]) (M' := M) okX7_hasPair rfl ?_
        exact go_zret (reX7_hasPair _ (by decide)) rfl (Or.inr rfl) (k0 (1 : Int32) h)
def fX7_hasPair (a0 : Nat) (a1 : Int32) (a2 : Int32) (M : gMem) : Option (Int32) := fX7_hasPair_0 a0 a1 a2 M
theorem SX7_hasPair {G : gG} (a0 : Nat) (a1 : Int32) (a2 : Int32) (M : gMem) (o_a0 : gOb 7 a0 = true) {r : Int32} (h : fX7_hasPair a0 a1 a2 M = some r) : gRun G YX7_hasPair 1 [.ref a0, .int a1, .int a2] M (fun r' N' => r' = some (.int r) ∧ N' = M) := gRun_in (by decide +kernel) rfl (fun d hd => go_wk (CX7_hasPair_0 hd a0 a1 a2 M o_a0 (fun p => p = r) (fun r hh => ⟨congrArg (fun z => some (Value.int z)) hh, rfl⟩) (gq_of h)) ⟨rfl, rfl, rfl, True.intro⟩)
def fX7_hasJoin_0 (x0 : Nat) (x1 : Int32) (M : gMem) : Option (Int32) :=
  if x1 < 0 then some (0 : Int32) else if (M.1 x0 6) ≤ x1 then some (0 : Int32) else some (1 : Int32)
set_option maxRecDepth 100000 in
theorem CX7_hasJoin_0 {G : gG} {d : Nat} {Z : Option Value → gMem → Prop} (hd : 0 ≤ d) (x0 : Nat) (x1 : Int32) (M : gMem) (o_x0 : gOb 7 x0 = true) (P : Int32 → Prop) (k0 : ∀ (r : Int32), P r → Z (some (.int r)) M) (h : gOKq (fX7_hasJoin_0 x0 x1 M) P) : gGo G YX7_hasJoin d Z 0 [some (.ref x0), some (.int x1)] [] M := by
  unfold fX7_hasJoin_0 at h
  refine go_rn 1 (pc' := 1) (L' := [some (.ref x0), some (.int x1)]) (S' := [.int x1]) (M' := M) okX7_hasJoin rfl ?_
  refine go_br okX7_hasJoin rfl (fun hp => ?_) (fun hp => ?_)
  · have h := gq_pos hp h
    refine go_rn 1 (pc' := 17) (L' := [some (.ref x0), some (.int x1)]) (S' := [.int (0 : Int32)]) (M' := M) okX7_hasJoin rfl ?_
    exact go_zret (reX7_hasJoin _ (by decide)) rfl (Or.inl rfl) (k0 (0 : Int32) h)
  · have h := gq_neg hp h
    refine go_rn 2 (pc' := 6) (L' := [some (.ref x0), some (.int x1)]) (S' := [.ref x0, .int x1]) (M' := M) okX7_hasJoin rfl ?_
    refine go_ck okX7_hasJoin rfl o_x0 ?_
    refine go_br okX7_hasJoin rfl (fun hp => ?_) (fun hp => ?_)
    · have h := gq_pos hp h
      refine go_rn 1 (pc' := 17) (L' := [some (.ref x0), some (.int x1)]) (S' := [.int (0 : Int32)]) (M' := M) okX7_hasJoin rfl ?_
      exact go_zret (reX7_hasJoin _ (by decide)) rfl (Or.inl rfl) (k0 (0 : Int32) h)
    · have h := gq_neg hp h
      refine go_rn 2 (pc' := 17) (L' := [some (.ref x0), some (.int x1)]) (S' := [.int (1 : Int32)]) (M' := M) okX7_hasJoin rfl ?_
      exact go_zret (reX7_hasJoin _ (by decide)) rfl (Or.inr rfl) (k0 (1 : Int32) h)
def fX7_hasJoin (a0 : Nat) (a1 : Int32) (M : gMem) : Option (Int32) := fX7_hasJoin_0 a0 a1 M
theorem SX7_hasJoin {G : gG} (a0 : Nat) (a1 : Int32) (M : gMem) (o_a0 : gOb 7 a0 = true) {r : Int32} (h : fX7_hasJoin a0 a1 M = some r) : gRun G YX7_hasJoin 0 [.ref a0, .int a1] M (fun r' N' => r' = some (.int r) ∧ N' = M) := gRun_in (by decide +kernel) rfl (fun d hd => go_wk (CX7_hasJoin_0 hd a0 a1 M o_a0 (fun p => p = r) (fun r hh => ⟨congrArg (fun z => some (Value.int z)) hh, rfl⟩) (gq_of h)) ⟨rfl, rfl, True.intro⟩)
def fX7_waxOf_4 (x0 : Nat) (x1 : Int32) (x2 : Int32) (x3 : Int32) (M : gMem) : Option (Sum (Int32 × Int32) (Int32)) :=
  if (M.1 x0 6) ≤ x3 then some (.inr x2) else gB0 (fX8_has x1 x3 M) (fun r1 => if r1 = 0 then some (.inl (x2, (x3 + 1))) else if gIx 1 (x0 + 6) x3 = true then some (.inl ((x2 + (M.1 (x0 + 6) (Int32.toNatClampNeg x3))), (x3 + 1))) else none)
set_option maxRecDepth 100000 in
theorem CX7_waxOf_4 {G : gG} {d : Nat} {Z : Option Value → gMem → Prop} (hd : 1 ≤ d) (x0 : Nat) (x1 : Int32) (x2 : Int32) (x3 : Int32) (M : gMem) (o_x0 : gOb 7 x0 = true) (P : Sum (Int32 × Int32) (Int32) → Prop) (k0 : ∀ (r : Int32), P (.inr r) → Z (some (.int r)) M) (k1 : ∀ (x2 : Int32) (x3 : Int32), P (.inl (x2, x3)) → gGo G YX7_waxOf d Z 4 [some (.ref x0), some (.int x1), some (.int x2), some (.int x3)] [] M) (h : gOKq (fX7_waxOf_4 x0 x1 x2 x3 M) P) : gGo G YX7_waxOf d Z 4 [some (.ref x0), some (.int x1), some (.int x2), some (.int x3)] [] M := by
  unfold fX7_waxOf_4 at h
  refine go_rn 2 (pc' := 6) (L' := [some (.ref x0), some (.int x1), some (.int x2), some (.int x3)]) (S' := [.ref x0, .int x3]) (M' := M) okX7_waxOf rfl ?_
  refine go_ck okX7_waxOf rfl o_x0 ?_
  refine go_br okX7_waxOf rfl (fun hp => ?_) (fun hp => ?_)
  · have h := gq_pos hp h
    refine go_rn 1 (pc' := 36) (L' := [some (.ref x0), some (.int x1), some (.int x2), some (.int x3)]) (S' := [.int x2]) (M' := M) okX7_waxOf rfl ?_
    exact go_iret (reX7_waxOf _ (by decide)) rfl (k0 x2 h)
  · have h := gq_neg hp h
    refine go_rn 2 (pc' := 14) (L' := [some (.ref x0), some (.int x1), some (.int x2), some (.int x3)]) (S' := [.int x3, .int x1]) (M' := M) okX7_waxOf rfl ?_
    obtain ⟨r1, e2, h⟩ := gB0_ok h
    refine go_call1 ocX7_waxOf rfl rfl rfl rfl (SX8_has x1 x3 M e2) (Nat.lt_of_lt_of_le (by decide) hd) ?_
    refine go_br okX7_waxOf rfl (fun hp => ?_) (fun hp => ?_)
    · have h := gq_pos hp h
      refine go_rn 2 (pc' := 4) (L' := [some (.ref x0), some (.int x1), some (.int x2), some (.int (x3 + 1))]) (S' := []) (M' := M) okX7_waxOf rfl ?_
      exact go_wk (k1 (x2) ((x3 + 1)) h) ⟨rfl, rfl, rfl, rfl, True.intro⟩
    · have h := gq_neg hp h
      refine go_rn 2 (pc' := 22) (L' := [some (.ref x0), some (.int x1), some (.int x2), some (.int x3)]) (S' := [.ref x0, .int x2]) (M' := M) okX7_waxOf rfl ?_
      refine go_ck okX7_waxOf rfl o_x0 ?_
      refine go_rn 1 (pc' := 26) (L' := [some (.ref x0), some (.int x1), some (.int x2), some (.int x3)]) (S' := [.int x3, .ref (x0 + 6), .int x2]) (M' := M) okX7_waxOf rfl ?_
      obtain ⟨c3, h⟩ := gq_if h
      refine go_ck okX7_waxOf rfl c3 ?_
      refine go_rn 4 (pc' := 4) (L' := [some (.ref x0), some (.int x1), some (.int (x2 + (M.1 (x0 + 6) (Int32.toNatClampNeg x3)))), some (.int (x3 + 1))]) (S' := []) (M' := M) okX7_waxOf rfl ?_
      exact go_wk (k1 ((x2 + (M.1 (x0 + 6) (Int32.toNatClampNeg x3)))) ((x3 + 1)) h) ⟨rfl, rfl, rfl, rfl, True.intro⟩
def fX7_waxOf_4h (x0 : Nat) (x1 : Int32) (x2 : Int32) (x3 : Int32) (M : gMem) : Option (Int32) :=
  gLp (fun s : Int32 × Int32 => fX7_waxOf_4 x0 x1 (s.1) (s.2) M) gFu (x2, x3)
set_option maxRecDepth 100000 in
theorem CX7_waxOf_4h {G : gG} {d : Nat} {Z : Option Value → gMem → Prop} (hd : 1 ≤ d) (x0 : Nat) (x1 : Int32) (x2 : Int32) (x3 : Int32) (M : gMem) (o_x0 : gOb 7 x0 = true) (P : Int32 → Prop) (k0 : ∀ (r : Int32), P r → Z (some (.int r)) M) (h : gOKq (fX7_waxOf_4h x0 x1 x2 x3 M) P) : gGo G YX7_waxOf d Z 4 [some (.ref x0), some (.int x1), some (.int x2), some (.int x3)] [] M :=
  gLp_go (K := fun s : Int32 × Int32 => gGo G YX7_waxOf d Z 4 [some (.ref x0), some (.int x1), some (.int s.1), some (.int s.2)] [] M) (P := P) (fun s hs => CX7_waxOf_4 hd (x0) (x1) (s.1) (s.2) M o_x0 (Sum.elim (fun s : Int32 × Int32 => gGo G YX7_waxOf d Z 4 [some (.ref x0), some (.int x1), some (.int s.1), some (.int s.2)] [] M) P) k0 (fun x2 x3 hh => hh) hs) gFu (x2, x3) h
def fX7_waxOf_0 (x0 : Nat) (x1 : Int32) (M : gMem) : Option (Int32) :=
  fX7_waxOf_4h x0 x1 (0 : Int32) (0 : Int32) M
set_option maxRecDepth 100000 in
theorem CX7_waxOf_0 {G : gG} {d : Nat} {Z : Option Value → gMem → Prop} (hd : 1 ≤ d) (x0 : Nat) (x1 : Int32) (M : gMem) (o_x0 : gOb 7 x0 = true) (P : Int32 → Prop) (k0 : ∀ (r : Int32), P r → Z (some (.int r)) M) (h : gOKq (fX7_waxOf_0 x0 x1 M) P) : gGo G YX7_waxOf d Z 0 [some (.ref x0), some (.int x1), none, none] [] M := by
  unfold fX7_waxOf_0 at h
  refine go_rn 4 (pc' := 4) (L' := [some (.ref x0), some (.int x1), some (.int (0 : Int32)), some (.int (0 : Int32))]) (S' := []) (M' := M) okX7_waxOf rfl ?_
  exact go_wk (CX7_waxOf_4h hd x0 x1 (0 : Int32) (0 : Int32) M o_x0 P k0 h) ⟨rfl, rfl, rfl, rfl, True.intro⟩
def fX7_waxOf (a0 : Nat) (a1 : Int32) (M : gMem) : Option (Int32) := fX7_waxOf_0 a0 a1 M
theorem SX7_waxOf {G : gG} (a0 : Nat) (a1 : Int32) (M : gMem) (o_a0 : gOb 7 a0 = true) {r : Int32} (h : fX7_waxOf a0 a1 M = some r) : gRun G YX7_waxOf 1 [.ref a0, .int a1] M (fun r' N' => r' = some (.int r) ∧ N' = M) := gRun_in (by decide +kernel) rfl (fun d hd => go_wk (CX7_waxOf_0 hd a0 a1 M o_a0 (fun p => p = r) (fun r hh => ⟨congrArg (fun z => some (Value.int z)) hh, rfl⟩) (gq_of h)) ⟨rfl, rfl, True.intro⟩)
def fX8_feed_0 (x1 : Int32) (x2 : Int32) (x3 : Int32) (x4 : Int32) (x5 : Int32) (M : gMem) : Option (Int32 × gMem) :=
  if (M.1 2 1) ≤ (780 : Int32) then gB0 (fX6_put x1 M) (fun M1 => gB0 (fX6_put x2 M1) (fun M3 => gB0 (fX6_put x3 M3) (fun M5 => gB0 (fX6_put x4 M5) (fun M7 => gB0 (fX6_put x5 M7) (fun M9 => some ((M9.1 2 1), M9)))))) else some ((-1 : Int32), M)
set_option maxRecDepth 100000 in
theorem CX8_feed_0 {G : gG} {d : Nat} {Z : Option Value → gMem → Prop} (hd : 1 ≤ d) (x1 : Int32) (x2 : Int32) (x3 : Int32) (x4 : Int32) (x5 : Int32) (M : gMem) (P : Int32 × gMem → Prop) (k0 : ∀ (r : Int32) (N : gMem), P (r, N) → Z (some (.int r)) N) (h : gOKq (fX8_feed_0 x1 x2 x3 x4 x5 M) P) : gGo G YX8_feed d Z 0 [some (.ref 0), some (.int x1), some (.int x2), some (.int x3), some (.int x4), some (.int x5), none] [] M := by
  unfold fX8_feed_0 at h
  refine go_rn 1 (pc' := 1) (L' := [some (.ref 0), some (.int x1), some (.int x2), some (.int x3), some (.int x4), some (.int x5), none]) (S' := [.ref 0]) (M' := M) okX8_feed rfl ?_
  refine go_ck okX8_feed rfl (gOb_c rfl) ?_
  refine go_ck okX8_feed rfl (gOb_c rfl) ?_
  refine go_rn 2 (pc' := 11) (L' := [some (.ref 0), some (.int x1), some (.int x2), some (.int x3), some (.int x4), some (.int x5), some (.ref 2)]) (S' := [.ref 2]) (M' := M) okX8_feed rfl ?_
  refine go_ck okX8_feed rfl (gOb_c rfl) ?_
  refine go_rn 1 (pc' := 17) (L' := [some (.ref 0), some (.int x1), some (.int x2), some (.int x3), some (.int x4), some (.int x5), some (.ref 2)]) (S' := [.int (780 : Int32), .int (M.1 2 1)]) (M' := M) okX8_feed rfl ?_
  refine go_br okX8_feed rfl (fun hp => ?_) (fun hp => ?_)
  · have h := gq_pos hp h
    refine go_rn 2 (pc' := 25) (L' := [some (.ref 0), some (.int x1), some (.int x2), some (.int x3), some (.int x4), some (.int x5), some (.ref 2)]) (S' := [.int x1, .ref 2]) (M' := M) okX8_feed rfl ?_
    obtain ⟨M1, e2, h⟩ := gB0_ok h
    refine go_call1 ocX8_feed rfl rfl (gOb_c rfl) rfl (SX6_put x1 M e2) (Nat.lt_of_lt_of_le (by decide) hd) ?_
    refine go_rn 2 (pc' := 31) (L' := [some (.ref 0), some (.int x1), some (.int x2), some (.int x3), some (.int x4), some (.int x5), some (.ref 2)]) (S' := [.int x2, .ref 2]) (M' := M1) okX8_feed rfl ?_
    obtain ⟨M3, e4, h⟩ := gB0_ok h
    refine go_call1 ocX8_feed rfl rfl (gOb_c rfl) rfl (SX6_put x2 M1 e4) (Nat.lt_of_lt_of_le (by decide) hd) ?_
    refine go_rn 2 (pc' := 37) (L' := [some (.ref 0), some (.int x1), some (.int x2), some (.int x3), some (.int x4), some (.int x5), some (.ref 2)]) (S' := [.int x3, .ref 2]) (M' := M3) okX8_feed rfl ?_
    obtain ⟨M5, e6, h⟩ := gB0_ok h
    refine go_call1 ocX8_feed rfl rfl (gOb_c rfl) rfl (SX6_put x3 M3 e6) (Nat.lt_of_lt_of_le (by decide) hd) ?_
    refine go_rn 2 (pc' := 44) (L' := [some (.ref 0), some (.int x1), some (.int x2), some (.int x3), some (.int x4), some (.int x5), some (.ref 2)]) (S' := [.int x4, .ref 2]) (M' := M5) okX8_feed rfl ?_
    obtain ⟨M7, e8, h⟩ := gB0_ok h
    refine go_call1 ocX8_feed rfl rfl (gOb_c rfl) rfl (SX6_put x4 M5 e8) (Nat.lt_of_lt_of_le (by decide) hd) ?_
    refine go_rn 2 (pc' := 51) (L' := [some (.ref 0), some (.int x1), some (.int x2), some (.int x3), some (.int x4), some (.int x5), some (.ref 2)]) (S' := [.int x5, .ref 2]) (M' := M7) okX8_feed rfl ?_
    obtain ⟨M9, e10, h⟩ := gB0_ok h
    refine go_call1 ocX8_feed rfl rfl (gOb_c rfl) rfl (SX6_put x5 M7 e10) (Nat.lt_of_lt_of_le (by decide) hd) ?_
    refine go_rn 1 (pc' := 56) (L' := [some (.ref 0), some (.int x1), some (.int x2), some (.int x3), some (.int x4), some (.int x5), some (.ref 2)]) (S' := [.ref 2]) (M' := M9) okX8_feed rfl ?_
    refine go_ck okX8_feed rfl (gOb_c rfl) ?_
    exact go_iret (reX8_feed _ (by decide)) rfl (k0 (M9.1 2 1) M9 h)
  · have h := gq_neg hp h
    refine go_rn 1 (pc' := 21) (L' := [some (.ref 0), some (.int x1), some (.int x2), some (.int x3), some (.int x4), some (.int x5), some (.ref 2)]) (S' := [.int (-1 : Int32)]) (M' := M) okX8_feed rfl ?_
    exact go_iret (reX8_feed _ (by decide)) rfl (k0 (-1 : Int32) M h)
def fX8_feed (a1 : Int32) (a2 : Int32) (a3 : Int32) (a4 : Int32) (a5 : Int32) (M : gMem) : Option (Int32 × gMem) := fX8_feed_0 a1 a2 a3 a4 a5 M
theorem SX8_feed {G : gG} (a1 : Int32) (a2 : Int32) (a3 : Int32) (a4 : Int32) (a5 : Int32) (M : gMem) {r : Int32} {N : gMem} (h : fX8_feed a1 a2 a3 a4 a5 M = some (r, N)) : gRun G YX8_feed 1 [.ref 0, .int a1, .int a2, .int a3, .int a4, .int a5] M (fun r' N' => r' = some (.int r) ∧ N' = N) := gRun_in (by decide +kernel) rfl (fun d hd => go_wk (CX8_feed_0 hd a1 a2 a3 a4 a5 M (fun p => p = (r, N)) (fun r N hh => by cases hh; exact ⟨rfl, rfl⟩) (gq_of h)) ⟨rfl, rfl, rfl, rfl, rfl, rfl, True.intro⟩)
def fX8_end_0 (x1 : Int32) (M : gMem) : Option (Int32 × gMem) :=
  if x1 < 0 then some ((-1 : Int32), M) else if x1 ≤ (M.1 2 1) then some (x1, (gSI M 2 1 x1)) else some ((-1 : Int32), M)
set_option maxRecDepth 100000 in
theorem CX8_end_0 {G : gG} {d : Nat} {Z : Option Value → gMem → Prop} (hd : 0 ≤ d) (x1 : Int32) (M : gMem) (P : Int32 × gMem → Prop) (k0 : ∀ (r : Int32) (N : gMem), P (r, N) → Z (some (.int r)) N) (h : gOKq (fX8_end_0 x1 M) P) : gGo G YX8_end d Z 0 [some (.ref 0), some (.int x1)] [] M := by
  unfold fX8_end_0 at h
  refine go_rn 1 (pc' := 1) (L' := [some (.ref 0), some (.int x1)]) (S' := [.int x1]) (M' := M) okX8_end rfl ?_
  refine go_br okX8_end rfl (fun hp => ?_) (fun hp => ?_)
  · have h := gq_pos hp h
    refine go_rn 1 (pc' := 19) (L' := [some (.ref 0), some (.int x1)]) (S' := [.int (-1 : Int32)]) (M' := M) okX8_end rfl ?_
    exact go_iret (reX8_end _ (by decide)) rfl (k0 (-1 : Int32) M h)
  · have h := gq_neg hp h
    refine go_rn 2 (pc' := 6) (L' := [some (.ref 0), some (.int x1)]) (S' := [.ref 0, .int x1]) (M' := M) okX8_end rfl ?_
    refine go_ck okX8_end rfl (gOb_c rfl) ?_
    refine go_ck okX8_end rfl (gOb_c rfl) ?_
    refine go_ck okX8_end rfl (gOb_c rfl) ?_
    refine go_br okX8_end rfl (fun hp => ?_) (fun hp => ?_)
    · have h := gq_pos hp h
      refine go_rn 1 (pc' := 21) (L' := [some (.ref 0), some (.int x1)]) (S' := [.ref 0]) (M' := M) okX8_end rfl ?_
      refine go_ck okX8_end rfl (gOb_c rfl) ?_
      refine go_ck okX8_end rfl (gOb_c rfl) ?_
      refine go_rn 1 (pc' := 28) (L' := [some (.ref 0), some (.int x1)]) (S' := [.int x1, .ref 2]) (M' := M) okX8_end rfl ?_
      refine go_ck okX8_end rfl (gOb_c rfl) ?_
      refine go_rn 1 (pc' := 32) (L' := [some (.ref 0), some (.int x1)]) (S' := [.int x1]) (M' := (gSI M 2 1 x1)) okX8_end rfl ?_
      exact go_iret (reX8_end _ (by decide)) rfl (k0 x1 (gSI M 2 1 x1) h)
    · have h := gq_neg hp h
      refine go_rn 1 (pc' := 19) (L' := [some (.ref 0), some (.int x1)]) (S' := [.int (-1 : Int32)]) (M' := M) okX8_end rfl ?_
      exact go_iret (reX8_end _ (by decide)) rfl (k0 (-1 : Int32) M h)
def fX8_end (a1 : Int32) (M : gMem) : Option (Int32 × gMem) := fX8_end_0 a1 M
theorem SX8_end {G : gG} (a1 : Int32) (M : gMem) {r : Int32} {N : gMem} (h : fX8_end a1 M = some (r, N)) : gRun G YX8_end 0 [.ref 0, .int a1] M (fun r' N' => r' = some (.int r) ∧ N' = N) := gRun_in (by decide +kernel) rfl (fun d hd => go_wk (CX8_end_0 hd a1 M (fun p => p = (r, N)) (fun r N hh => by cases hh; exact ⟨rfl, rfl⟩) (gq_of h)) ⟨rfl, rfl, True.intro⟩)
def fX8_city_51 (M : gMem) : Option (Int32 × gMem) :=
  if gOb 7 (M.2.2 0) = true then some ((M.1 (M.2.2 0) 0), M) else none
set_option maxRecDepth 100000 in
theorem CX8_city_51 {G : gG} {d : Nat} {Z : Option Value → gMem → Prop} (hd : 9 ≤ d) (M : gMem) (P : Int32 × gMem → Prop) (k0 : ∀ (r : Int32) (N : gMem), P (r, N) → Z (some (.int r)) N) (h : gOKq (fX8_city_51 M) P) : gGo G YX8_city d Z 51 [none, none, none] [.ref 0] M := by
  unfold fX8_city_51 at h
  refine go_ck okX8_city rfl (gOb_c rfl) ?_
  obtain ⟨c1, h⟩ := gq_if h
  refine go_ck okX8_city rfl c1 ?_
  exact go_iret (reX8_city _ (by decide)) rfl (k0 (M.1 (M.2.2 0) 0) M h)
def fX8_city_47 (s0 : Nat) (M : gMem) : Option (Int32 × gMem) :=
  fX8_city_51 (gST M 1 s0)
set_option maxRecDepth 100000 in
theorem CX8_city_47 {G : gG} {d : Nat} {Z : Option Value → gMem → Prop} (hd : 9 ≤ d) (s0 : Nat) (M : gMem) (o_s0 : gOb 7 s0 = true) (P : Int32 × gMem → Prop) (k0 : ∀ (r : Int32) (N : gMem), P (r, N) → Z (some (.int r)) N) (h : gOKq (fX8_city_47 s0 M) P) : gGo G YX8_city d Z 47 [some (.ref 0), none, none] [.ref s0, .ref 1] M := by
  unfold fX8_city_47 at h
  refine go_cc okX8_city rfl (gOb_c rfl) o_s0 ?_
  refine go_rn 1 (pc' := 51) (L' := [some (.ref 0), none, none]) (S' := [.ref 0]) (M' := (gST M 1 s0)) okX8_city rfl ?_
  exact go_wk (CX8_city_51 hd (gST M 1 s0) P k0 h) True.intro
def fX8_city_27 (M : gMem) : Option (Int32 × gMem) :=
  if gOb 7 (M.2.2 0) = true then if gOb 7 (M.2.2 1) = true then fX8_city_47 (M.2.2 0) (gST M 0 (M.2.2 1)) else none else none
set_option maxRecDepth 100000 in
theorem CX8_city_27 {G : gG} {d : Nat} {Z : Option Value → gMem → Prop} (hd : 9 ≤ d) (M : gMem) (P : Int32 × gMem → Prop) (k0 : ∀ (r : Int32) (N : gMem), P (r, N) → Z (some (.int r)) N) (h : gOKq (fX8_city_27 M) P) : gGo G YX8_city d Z 27 [some (.ref 0), none, none] [.ref 0] M := by
  unfold fX8_city_27 at h
  refine go_ck okX8_city rfl (gOb_c rfl) ?_
  obtain ⟨c1, h⟩ := gq_if h
  refine go_rn 3 (pc' := 33) (L' := [some (.ref 0), none, some (.ref (M.2.2 0))]) (S' := [.ref 0, .ref 0]) (M' := M) okX8_city rfl ?_
  refine go_ck okX8_city rfl (gOb_c rfl) ?_
  refine go_ck okX8_city rfl (gOb_c rfl) ?_
  obtain ⟨c2, h⟩ := gq_if h
  refine go_cc okX8_city rfl (gOb_c rfl) c2 ?_
  refine go_rn 1 (pc' := 43) (L' := [some (.ref 0), none, some (.ref (M.2.2 0))]) (S' := [.ref 0]) (M' := (gST M 0 (M.2.2 1))) okX8_city rfl ?_
  refine go_ck okX8_city rfl (gOb_c rfl) ?_
  refine go_rn 1 (pc' := 47) (L' := [some (.ref 0), none, some (.ref (M.2.2 0))]) (S' := [.ref (M.2.2 0), .ref 1]) (M' := (gST M 0 (M.2.2 1))) okX8_city rfl ?_
  exact go_wk (CX8_city_47 hd (M.2.2 0) (gST M 0 (M.2.2 1)) c1 P k0 h) ⟨rfl, True.intro⟩
def fX8_city_0 (M : gMem) : Option (Int32 × gMem) :=
  gBp (fX5_readTape M) (fun r1 M2 => if r1 = 0 then some ((-4 : Int32), (gSI M2 2 1 (0 : Int32))) else fX8_city_27 (gSI M2 2 1 (0 : Int32)))
set_option maxRecDepth 100000 in
theorem CX8_city_0 {G : gG} {d : Nat} {Z : Option Value → gMem → Prop} (hd : 9 ≤ d) (M : gMem) (P : Int32 × gMem → Prop) (k0 : ∀ (r : Int32) (N : gMem), P (r, N) → Z (some (.int r)) N) (h : gOKq (fX8_city_0 M) P) : gGo G YX8_city d Z 0 [some (.ref 0), none, none] [] M := by
  unfold fX8_city_0 at h
  refine go_rn 1 (pc' := 1) (L' := [some (.ref 0), none, none]) (S' := [.ref 0]) (M' := M) okX8_city rfl ?_
  refine go_ck okX8_city rfl (gOb_c rfl) ?_
  obtain ⟨r1, M2, e3, h⟩ := gBp_ok h
  refine go_call1 ocX8_city rfl rfl (gOb_c rfl) rfl (SX5_readTape M e3) (Nat.lt_of_lt_of_le (by decide) hd) ?_
  refine go_rn 2 (pc' := 9) (L' := [some (.ref 0), some (.int r1), none]) (S' := [.ref 0]) (M' := M2) okX8_city rfl ?_
  refine go_ck okX8_city rfl (gOb_c rfl) ?_
  refine go_ck okX8_city rfl (gOb_c rfl) ?_
  refine go_rn 1 (pc' := 16) (L' := [some (.ref 0), some (.int r1), none]) (S' := [.int (0 : Int32), .ref 2]) (M' := M2) okX8_city rfl ?_
  refine go_ck okX8_city rfl (gOb_c rfl) ?_
  refine go_rn 1 (pc' := 20) (L' := [some (.ref 0), some (.int r1), none]) (S' := [.int r1]) (M' := (gSI M2 2 1 (0 : Int32))) okX8_city rfl ?_
  refine go_br okX8_city rfl (fun hp => ?_) (fun hp => ?_)
  · have h := gq_pos hp h
    refine go_rn 1 (pc' := 25) (L' := [some (.ref 0), some (.int r1), none]) (S' := [.int (-4 : Int32)]) (M' := (gSI M2 2 1 (0 : Int32))) okX8_city rfl ?_
    exact go_iret (reX8_city _ (by decide)) rfl (k0 (-4 : Int32) (gSI M2 2 1 (0 : Int32)) h)
  · have h := gq_neg hp h
    refine go_rn 1 (pc' := 27) (L' := [some (.ref 0), some (.int r1), none]) (S' := [.ref 0]) (M' := (gSI M2 2 1 (0 : Int32))) okX8_city rfl ?_
    exact go_wk (CX8_city_27 hd (gSI M2 2 1 (0 : Int32)) P k0 h) ⟨rfl, True.intro⟩
def fX8_city (M : gMem) : Option (Int32 × gMem) := fX8_city_0 M
theorem SX8_city {G : gG} (M : gMem) {r : Int32} {N : gMem} (h : fX8_city M = some (r, N)) : gRun G YX8_city 9 [.ref 0] M (fun r' N' => r' = some (.int r) ∧ N' = N) := gRun_in (by decide +kernel) rfl (fun d hd => go_wk (CX8_city_0 hd M (fun p => p = (r, N)) (fun r N hh => by cases hh; exact ⟨rfl, rfl⟩) (gq_of h)) ⟨rfl, True.intro⟩)
def fX8_fault_0 (x1 : Int32) (M : gMem) : Option (Int32) :=
  if x1 = 0 then some (M.1 1 2) else if x1 = 1 then some (M.1 1 3) else some (-1 : Int32)
set_option maxRecDepth 100000 in
theorem CX8_fault_0 {G : gG} {d : Nat} {Z : Option Value → gMem → Prop} (hd : 0 ≤ d) (x1 : Int32) (M : gMem) (P : Int32 → Prop) (k0 : ∀ (r : Int32), P r → Z (some (.int r)) M) (h : gOKq (fX8_fault_0 x1 M) P) : gGo G YX8_fault d Z 0 [some (.ref 0), some (.int x1)] [] M := by
  unfold fX8_fault_0 at h
  refine go_rn 1 (pc' := 1) (L' := [some (.ref 0), some (.int x1)]) (S' := [.int x1]) (M' := M) okX8_fault rfl ?_
  refine go_sw okX8_fault rfl ⟨fun hp => ?_, fun hn0 => ⟨fun hp => ?_, fun hn1 => ?_⟩⟩
  · have h := gq_pos hp h
    refine go_rn 1 (pc' := 29) (L' := [some (.ref 0), some (.int x1)]) (S' := [.ref 0]) (M' := M) okX8_fault rfl ?_
    refine go_ck okX8_fault rfl (gOb_c rfl) ?_
    refine go_ck okX8_fault rfl (gOb_c rfl) ?_
    exact go_iret (reX8_fault _ (by decide)) rfl (k0 (M.1 1 2) h)
  · have h := gq_neg hn0 h
    have h := gq_pos hp h
    refine go_rn 1 (pc' := 37) (L' := [some (.ref 0), some (.int x1)]) (S' := [.ref 0]) (M' := M) okX8_fault rfl ?_
    refine go_ck okX8_fault rfl (gOb_c rfl) ?_
    refine go_ck okX8_fault rfl (gOb_c rfl) ?_
    exact go_iret (reX8_fault _ (by decide)) rfl (k0 (M.1 1 3) h)
  · have h := gq_neg hn0 h
    have h := gq_neg hn1 h
    refine go_rn 1 (pc' := 45) (L' := [some (.ref 0), some (.int x1)]) (S' := [.int (-1 : Int32)]) (M' := M) okX8_fault rfl ?_
    exact go_iret (reX8_fault _ (by decide)) rfl (k0 (-1 : Int32) h)
def fX8_fault (a1 : Int32) (M : gMem) : Option (Int32) := fX8_fault_0 a1 M
theorem SX8_fault {G : gG} (a1 : Int32) (M : gMem) {r : Int32} (h : fX8_fault a1 M = some r) : gRun G YX8_fault 0 [.ref 0, .int a1] M (fun r' N' => r' = some (.int r) ∧ N' = M) := gRun_in (by decide +kernel) rfl (fun d hd => go_wk (CX8_fault_0 hd a1 M (fun p => p = r) (fun r hh => ⟨congrArg (fun z => some (Value.int z)) hh, rfl⟩) (gq_of h)) ⟨rfl, rfl, True.intro⟩)
def fX8_partner_0 (x1 : Int32) (x2 : Int32) (M : gMem) : Option (Int32) :=
  if gOb 7 (M.2.2 0) = true then gB0 (fX7_hasPartner (M.2.2 0) x1 M) (fun r2 => if r2 = 0 then some (-2 : Int32) else if x2 = 0 then if gOb 7 (M.2.2 0) = true then if gIx 1 ((M.2.2 0) + 1) x1 = true then some (M.1 ((M.2.2 0) + 1) (Int32.toNatClampNeg x1)) else none else none else if x2 = 1 then if gOb 7 (M.2.2 0) = true then if gIx 1 ((M.2.2 0) + 2) x1 = true then some (M.1 ((M.2.2 0) + 2) (Int32.toNatClampNeg x1)) else none else none else if x2 = 2 then if gOb 7 (M.2.2 0) = true then if gIx 1 ((M.2.2 0) + 3) x1 = true then some (M.1 ((M.2.2 0) + 3) (Int32.toNatClampNeg x1)) else none else none else some (-2 : Int32)) else none
set_option maxRecDepth 100000 in
theorem CX8_partner_0 {G : gG} {d : Nat} {Z : Option Value → gMem → Prop} (hd : 1 ≤ d) (x1 : Int32) (x2 : Int32) (M : gMem) (P : Int32 → Prop) (k0 : ∀ (r : Int32), P r → Z (some (.int r)) M) (h : gOKq (fX8_partner_0 x1 x2 M) P) : gGo G YX8_partner d Z 0 [some (.ref 0), some (.int x1), some (.int x2)] [] M := by
  unfold fX8_partner_0 at h
  refine go_rn 1 (pc' := 1) (L' := [some (.ref 0), some (.int x1), some (.int x2)]) (S' := [.ref 0]) (M' := M) okX8_partner rfl ?_
  refine go_ck okX8_partner rfl (gOb_c rfl) ?_
  obtain ⟨c1, h⟩ := gq_if h
  refine go_rn 1 (pc' := 5) (L' := [some (.ref 0), some (.int x1), some (.int x2)]) (S' := [.int x1, .ref (M.2.2 0)]) (M' := M) okX8_partner rfl ?_
  obtain ⟨r2, e3, h⟩ := gB0_ok h
  refine go_call1 ocX8_partner rfl rfl c1 rfl (SX7_hasPartner (M.2.2 0) x1 M c1 e3) (Nat.lt_of_lt_of_le (by decide) hd) ?_
  refine go_br okX8_partner rfl (fun hp => ?_) (fun hp => ?_)
  · have h := gq_pos hp h
    refine go_rn 1 (pc' := 13) (L' := [some (.ref 0), some (.int x1), some (.int x2)]) (S' := [.int (-2 : Int32)]) (M' := M) okX8_partner rfl ?_
    exact go_iret (reX8_partner _ (by decide)) rfl (k0 (-2 : Int32) h)
  · have h := gq_neg hp h
    refine go_rn 1 (pc' := 15) (L' := [some (.ref 0), some (.int x1), some (.int x2)]) (S' := [.int x2]) (M' := M) okX8_partner rfl ?_
    refine go_sw okX8_partner rfl ⟨fun hp => ?_, fun hn0 => ⟨fun hp => ?_, fun hn1 => ⟨fun hp => ?_, fun hn2 => ?_⟩⟩⟩
    · have h := gq_pos hp h
      refine go_rn 1 (pc' := 41) (L' := [some (.ref 0), some (.int x1), some (.int x2)]) (S' := [.ref 0]) (M' := M) okX8_partner rfl ?_
      refine go_ck okX8_partner rfl (gOb_c rfl) ?_
      obtain ⟨c4, h⟩ := gq_if h
      refine go_ck okX8_partner rfl c4 ?_
      refine go_rn 1 (pc' := 48) (L' := [some (.ref 0), some (.int x1), some (.int x2)]) (S' := [.int x1, .ref ((M.2.2 0) + 1)]) (M' := M) okX8_partner rfl ?_
      obtain ⟨c5, h⟩ := gq_if h
      refine go_ck okX8_partner rfl c5 ?_
      exact go_iret (reX8_partner _ (by decide)) rfl (k0 (M.1 ((M.2.2 0) + 1) (Int32.toNatClampNeg x1)) h)
    · have h := gq_neg hn0 h
      have h := gq_pos hp h
      refine go_rn 1 (pc' := 51) (L' := [some (.ref 0), some (.int x1), some (.int x2)]) (S' := [.ref 0]) (M' := M) okX8_partner rfl ?_
      refine go_ck okX8_partner rfl (gOb_c rfl) ?_
      obtain ⟨c6, h⟩ := gq_if h
      refine go_ck okX8_partner rfl c6 ?_
      refine go_rn 1 (pc' := 58) (L' := [some (.ref 0), some (.int x1), some (.int x2)]) (S' := [.int x1, .ref ((M.2.2 0) + 2)]) (M' := M) okX8_partner rfl ?_
      obtain ⟨c7, h⟩ := gq_if h
      refine go_ck okX8_partner rfl c7 ?_
      exact go_iret (reX8_partner _ (by decide)) rfl (k0 (M.1 ((M.2.2 0) + 2) (Int32.toNatClampNeg x1)) h)
    · have h := gq_neg hn0 h
      have h := gq_neg hn1 h
      have h := gq_pos hp h
      refine go_rn 1 (pc' := 61) (L' := [some (.ref 0), some (.int x1), some (.int x2)]) (S' := [.ref 0]) (M' := M) okX8_partner rfl ?_
      refine go_ck okX8_partner rfl (gOb_c rfl) ?_
      obtain ⟨c8, h⟩ := gq_if h
      refine go_ck okX8_partner rfl c8 ?_
      refine go_rn 1 (pc' := 68) (L' := [some (.ref 0), some (.int x1), some (.int x2)]) (S' := [.int x1, .ref ((M.2.2 0) + 3)]) (M' := M) okX8_partner rfl ?_
      obtain ⟨c9, h⟩ := gq_if h
      refine go_ck okX8_partner rfl c9 ?_
      exact go_iret (reX8_partner _ (by decide)) rfl (k0 (M.1 ((M.2.2 0) + 3) (Int32.toNatClampNeg x1)) h)
    · have h := gq_neg hn0 h
      have h := gq_neg hn1 h
      have h := gq_neg hn2 h
      refine go_rn 1 (pc' := 72) (L' := [some (.ref 0), some (.int x1), some (.int x2)]) (S' := [.int (-2 : Int32)]) (M' := M) okX8_partner rfl ?_
      exact go_iret (reX8_partner _ (by decide)) rfl (k0 (-2 : Int32) h)
def fX8_partner (a1 : Int32) (a2 : Int32) (M : gMem) : Option (Int32) := fX8_partner_0 a1 a2 M
theorem SX8_partner {G : gG} (a1 : Int32) (a2 : Int32) (M : gMem) {r : Int32} (h : fX8_partner a1 a2 M = some r) : gRun G YX8_partner 1 [.ref 0, .int a1, .int a2] M (fun r' N' => r' = some (.int r) ∧ N' = M) := gRun_in (by decide +kernel) rfl (fun d hd => go_wk (CX8_partner_0 hd a1 a2 M (fun p => p = r) (fun r hh => ⟨congrArg (fun z => some (Value.int z)) hh, rfl⟩) (gq_of h)) ⟨rfl, rfl, rfl, True.intro⟩)
def fX8_join_0 (x1 : Int32) (x2 : Int32) (M : gMem) : Option (Int32) :=
  if gOb 7 (M.2.2 0) = true then gB0 (fX7_hasJoin (M.2.2 0) x1 M) (fun r2 => if r2 = 0 then some (-2 : Int32) else if x2 = 0 then if gOb 7 (M.2.2 0) = true then if gIx 1 ((M.2.2 0) + 4) x1 = true then some (M.1 ((M.2.2 0) + 4) (Int32.toNatClampNeg x1)) else none else none else if x2 = 1 then if gOb 7 (M.2.2 0) = true then if gIx 1 ((M.2.2 0) + 5) x1 = true then some (M.1 ((M.2.2 0) + 5) (Int32.toNatClampNeg x1)) else none else none else if x2 = 2 then if gOb 7 (M.2.2 0) = true then if gIx 1 ((M.2.2 0) + 6) x1 = true then some (M.1 ((M.2.2 0) + 6) (Int32.toNatClampNeg x1)) else none else none else some (-2 : Int32)) else none
set_option maxRecDepth 100000 in
theorem CX8_join_0 {G : gG} {d : Nat} {Z : Option Value → gMem → Prop} (hd : 1 ≤ d) (x1 : Int32) (x2 : Int32) (M : gMem) (P : Int32 → Prop) (k0 : ∀ (r : Int32), P r → Z (some (.int r)) M) (h : gOKq (fX8_join_0 x1 x2 M) P) : gGo G YX8_join d Z 0 [some (.ref 0), some (.int x1), some (.int x2)] [] M := by
  unfold fX8_join_0 at h
  refine go_rn 1 (pc' := 1) (L' := [some (.ref 0), some (.int x1), some (.int x2)]) (S' := [.ref 0]) (M' := M) okX8_join rfl ?_
  refine go_ck okX8_join rfl (gOb_c rfl) ?_
  obtain ⟨c1, h⟩ := gq_if h
  refine go_rn 1 (pc' := 5) (L' := [some (.ref 0), some (.int x1), some (.int x2)]) (S' := [.int x1, .ref (M.2.2 0)]) (M' := M) okX8_join rfl ?_
  obtain ⟨r2, e3, h⟩ := gB0_ok h
  refine go_call1 ocX8_join rfl rfl c1 rfl (SX7_hasJoin (M.2.2 0) x1 M c1 e3) (Nat.lt_of_lt_of_le (by decide) hd) ?_
  refine go_br okX8_join rfl (fun hp => ?_) (fun hp => ?_)
  · have h := gq_pos hp h
    refine go_rn 1 (pc' := 13) (L' := [some (.ref 0), some (.int x1), some (.int x2)]) (S' := [.int (-2 : Int32)]) (M' := M) okX8_join rfl ?_
    exact go_iret (reX8_join _ (by decide)) rfl (k0 (-2 : Int32) h)
  · have h := gq_neg hp h
    refine go_rn 1 (pc' := 15) (L' := [some (.ref 0), some (.int x1), some (.int x2)]) (S' := [.int x2]) (M' := M) okX8_join rfl ?_
    refine go_sw okX8_join rfl ⟨fun hp => ?_, fun hn0 => ⟨fun hp => ?_, fun hn1 => ⟨fun hp => ?_, fun hn2 => ?_⟩⟩⟩
    · have h := gq_pos hp h
      refine go_rn 1 (pc' := 41) (L' := [some (.ref 0), some (.int x1), some (.int x2)]) (S' := [.ref 0]) (M' := M) okX8_join rfl ?_
      refine go_ck okX8_join rfl (gOb_c rfl) ?_
      obtain ⟨c4, h⟩ := gq_if h
      refine go_ck okX8_join rfl c4 ?_
      refine go_rn 1 (pc' := 48) (L' := [some (.ref 0), some (.int x1), some (.int x2)]) (S' := [.int x1, .ref ((M.2.2 0) + 4)]) (M' := M) okX8_join rfl ?_
      obtain ⟨c5, h⟩ := gq_if h
      refine go_ck okX8_join rfl c5 ?_
      exact go_iret (reX8_join _ (by decide)) rfl (k0 (M.1 ((M.2.2 0) + 4) (Int32.toNatClampNeg x1)) h)
    · have h := gq_neg hn0 h
      have h := gq_pos hp h
      refine go_rn 1 (pc' := 51) (L' := [some (.ref 0), some (.int x1), some (.int x2)]) (S' := [.ref 0]) (M' := M) okX8_join rfl ?_
      refine go_ck okX8_join rfl (gOb_c rfl) ?_
      obtain ⟨c6, h⟩ := gq_if h
      refine go_ck okX8_join rfl c6 ?_
      refine go_rn 1 (pc' := 58) (L' := [some (.ref 0), some (.int x1), some (.int x2)]) (S' := [.int x1, .ref ((M.2.2 0) + 5)]) (M' := M) okX8_join rfl ?_
      obtain ⟨c7, h⟩ := gq_if h
      refine go_ck okX8_join rfl c7 ?_
      exact go_iret (reX8_join _ (by decide)) rfl (k0 (M.1 ((M.2.2 0) + 5) (Int32.toNatClampNeg x1)) h)
    · have h := gq_neg hn0 h
      have h := gq_neg hn1 h
      have h := gq_pos hp h
      refine go_rn 1 (pc' := 61) (L' := [some (.ref 0), some (.int x1), some (.int x2)]) (S' := [.ref 0]) (M' := M) okX8_join rfl ?_
      refine go_ck okX8_join rfl (gOb_c rfl) ?_
      obtain ⟨c8, h⟩ := gq_if h
      refine go_ck okX8_join rfl c8 ?_
      refine go_rn 1 (pc' := 68) (L' := [some (.ref 0), some (.int x1), some (.int x2)]) (S' := [.int x1, .ref ((M.2.2 0) + 6)]) (M' := M) okX8_join rfl ?_
      obtain ⟨c9, h⟩ := gq_if h
      refine go_ck okX8_join rfl c9 ?_
      exact go_iret (reX8_join _ (by decide)) rfl (k0 (M.1 ((M.2.2 0) + 6) (Int32.toNatClampNeg x1)) h)
    · have h := gq_neg hn0 h
      have h := gq_neg hn1 h
      have h := gq_neg hn2 h
      refine go_rn 1 (pc' := 72) (L' := [some (.ref 0), some (.int x1), some (.int x2)]) (S' := [.int (-2 : Int32)]) (M' := M) okX8_join rfl ?_
      exact go_iret (reX8_join _ (by decide)) rfl (k0 (-2 : Int32) h)
def fX8_join (a1 : Int32) (a2 : Int32) (M : gMem) : Option (Int32) := fX8_join_0 a1 a2 M
theorem SX8_join {G : gG} (a1 : Int32) (a2 : Int32) (M : gMem) {r : Int32} (h : fX8_join a1 a2 M = some r) : gRun G YX8_join 1 [.ref 0, .int a1, .int a2] M (fun r' N' => r' = some (.int r) ∧ N' = M) := gRun_in (by decide +kernel) rfl (fun d hd => go_wk (CX8_join_0 hd a1 a2 M (fun p => p = r) (fun r hh => ⟨congrArg (fun z => some (Value.int z)) hh, rfl⟩) (gq_of h)) ⟨rfl, rfl, rfl, True.intro⟩)
def fX8_door_0 (x1 : Int32) (M : gMem) : Option (Int32) :=
  if gOb 7 (M.2.2 0) = true then gB0 (fX7_hasDoor (M.2.2 0) x1 M) (fun r2 => if r2 = 0 then some (-2 : Int32) else if gOb 7 (M.2.2 0) = true then if gIx 1 ((M.2.2 0) + 7) x1 = true then some (M.1 ((M.2.2 0) + 7) (Int32.toNatClampNeg x1)) else none else none) else none
set_option maxRecDepth 100000 in
theorem CX8_door_0 {G : gG} {d : Nat} {Z : Option Value → gMem → Prop} (hd : 1 ≤ d) (x1 : Int32) (M : gMem) (P : Int32 → Prop) (k0 : ∀ (r : Int32), P r → Z (some (.int r)) M) (h : gOKq (fX8_door_0 x1 M) P) : gGo G YX8_door d Z 0 [some (.ref 0), some (.int x1)] [] M := by
  unfold fX8_door_0 at h
  refine go_rn 1 (pc' := 1) (L' := [some (.ref 0), some (.int x1)]) (S' := [.ref 0]) (M' := M) okX8_door rfl ?_
  refine go_ck okX8_door rfl (gOb_c rfl) ?_
  obtain ⟨c1, h⟩ := gq_if h
  refine go_rn 1 (pc' := 5) (L' := [some (.ref 0), some (.int x1)]) (S' := [.int x1, .ref (M.2.2 0)]) (M' := M) okX8_door rfl ?_
  obtain ⟨r2, e3, h⟩ := gB0_ok h
  refine go_call1 ocX8_door rfl rfl c1 rfl (SX7_hasDoor (M.2.2 0) x1 M c1 e3) (Nat.lt_of_lt_of_le (by decide) hd) ?_
  refine go_br okX8_door rfl (fun hp => ?_) (fun hp => ?_)
  · have h := gq_pos hp h
    refine go_rn 1 (pc' := 25) (L' := [some (.ref 0), some (.int x1)]) (S' := [.int (-2 : Int32)]) (M' := M) okX8_door rfl ?_
    exact go_iret (reX8_door _ (by decide)) rfl (k0 (-2 : Int32) h)
  · have h := gq_neg hp h
    refine go_rn 1 (pc' := 12) (L' := [some (.ref 0), some (.int x1)]) (S' := [.ref 0]) (M' := M) okX8_door rfl ?_
    refine go_ck okX8_door rfl (gOb_c rfl) ?_
    obtain ⟨c4, h⟩ := gq_if h
    refine go_ck okX8_door rfl c4 ?_
    refine go_rn 1 (pc' := 19) (L' := [some (.ref 0), some (.int x1)]) (S' := [.int x1, .ref ((M.2.2 0) + 7)]) (M' := M) okX8_door rfl ?_
    obtain ⟨c5, h⟩ := gq_if h
    refine go_ck okX8_door rfl c5 ?_
    refine go_rn 1 (pc' := 25) (L' := [some (.ref 0), some (.int x1)]) (S' := [.int (M.1 ((M.2.2 0) + 7) (Int32.toNatClampNeg x1))]) (M' := M) okX8_door rfl ?_
    exact go_iret (reX8_door _ (by decide)) rfl (k0 (M.1 ((M.2.2 0) + 7) (Int32.toNatClampNeg x1)) h)
def fX8_door (a1 : Int32) (M : gMem) : Option (Int32) := fX8_door_0 a1 M
theorem SX8_door {G : gG} (a1 : Int32) (M : gMem) {r : Int32} (h : fX8_door a1 M = some r) : gRun G YX8_door 1 [.ref 0, .int a1] M (fun r' N' => r' = some (.int r) ∧ N' = M) := gRun_in (by decide +kernel) rfl (fun d hd => go_wk (CX8_door_0 hd a1 M (fun p => p = r) (fun r hh => ⟨congrArg (fun z => some (Value.int z)) hh, rfl⟩) (gq_of h)) ⟨rfl, rfl, True.intro⟩)
def fX8_liveAsNow_0 (M : gMem) : Option (gMem) :=
  gB0 (fX2_supposeNothing M) (fun M1 => if gOb 7 (M1.2.2 0) = true then if gOb 7 (M1.2.2 0) = true then gB0 (fX2_live (M1.2.2 0) (M1.1 (M1.2.2 0) 1) M1) (fun M5 => some M5) else none else none)
set_option maxRecDepth 100000 in
theorem CX8_liveAsNow_0 {G : gG} {d : Nat} {Z : Option Value → gMem → Prop} (hd : 5 ≤ d) (M : gMem) (P : gMem → Prop) (k0 : ∀ (N : gMem), P N → Z none N) (h : gOKq (fX8_liveAsNow_0 M) P) : gGo G YX8_liveAsNow d Z 0 [some (.ref 0)] [] M := by
  unfold fX8_liveAsNow_0 at h
  refine go_rn 1 (pc' := 1) (L' := [some (.ref 0)]) (S' := [.ref 0]) (M' := M) okX8_liveAsNow rfl ?_
  refine go_ck okX8_liveAsNow rfl (gOb_c rfl) ?_
  obtain ⟨M1, e2, h⟩ := gB0_ok h
  refine go_call1 ocX8_liveAsNow rfl rfl (gOb_c rfl) rfl (SX2_supposeNothing M e2) (Nat.lt_of_lt_of_le (by decide) hd) ?_
  refine go_rn 1 (pc' := 8) (L' := [some (.ref 0)]) (S' := [.ref 0]) (M' := M1) okX8_liveAsNow rfl ?_
  refine go_ck okX8_liveAsNow rfl (gOb_c rfl) ?_
  refine go_rn 1 (pc' := 12) (L' := [some (.ref 0)]) (S' := [.ref 0, .ref 14]) (M' := M1) okX8_liveAsNow rfl ?_
  refine go_ck okX8_liveAsNow rfl (gOb_c rfl) ?_
  obtain ⟨c3, h⟩ := gq_if h
  refine go_rn 1 (pc' := 16) (L' := [some (.ref 0)]) (S' := [.ref 0, .ref (M1.2.2 0), .ref 14]) (M' := M1) okX8_liveAsNow rfl ?_
  refine go_ck okX8_liveAsNow rfl (gOb_c rfl) ?_
  obtain ⟨c4, h⟩ := gq_if h
  refine go_ck okX8_liveAsNow rfl c4 ?_
  obtain ⟨M5, e6, h⟩ := gB0_ok h
  refine go_call1 ocX8_liveAsNow rfl rfl (gOb_c rfl) rfl (SX2_live (M1.2.2 0) (M1.1 (M1.2.2 0) 1) M1 c3 e6) (Nat.lt_of_lt_of_le (by decide) hd) ?_
  exact go_vret (reX8_liveAsNow _ (by decide)) rfl (k0 M5 h)
def fX8_liveAsNow (M : gMem) : Option (gMem) := fX8_liveAsNow_0 M
theorem SX8_liveAsNow {G : gG} (M : gMem) {N : gMem} (h : fX8_liveAsNow M = some N) : gRun G YX8_liveAsNow 5 [.ref 0] M (fun r' N' => r' = none ∧ N' = N) := gRun_in (by decide +kernel) rfl (fun d hd => go_wk (CX8_liveAsNow_0 hd M (fun p => p = N) (fun N hh => ⟨rfl, hh⟩) (gq_of h)) ⟨rfl, True.intro⟩)
def fX8_holds_0 (x1 : Int32) (M : gMem) : Option (Int32 × gMem) :=
  if gOb 7 (M.2.2 0) = true then gB0 (fX7_hasYear (M.2.2 0) x1 M) (fun r2 => if r2 = 0 then some ((-2 : Int32), M) else gB0 (fX8_liveAsNow M) (fun M4 => if gIx 1 19 x1 = true then some ((M4.1 19 (Int32.toNatClampNeg x1)), M4) else none)) else none
set_option maxRecDepth 100000 in
theorem CX8_holds_0 {G : gG} {d : Nat} {Z : Option Value → gMem → Prop} (hd : 6 ≤ d) (x1 : Int32) (M : gMem) (P : Int32 × gMem → Prop) (k0 : ∀ (r : Int32) (N : gMem), P (r, N) → Z (some (.int r)) N) (h : gOKq (fX8_holds_0 x1 M) P) : gGo G YX8_holds d Z 0 [some (.ref 0), some (.int x1)] [] M := by
  unfold fX8_holds_0 at h
  refine go_rn 1 (pc' := 1) (L' := [some (.ref 0), some (.int x1)]) (S' := [.ref 0]) (M' := M) okX8_holds rfl ?_
  refine go_ck okX8_holds rfl (gOb_c rfl) ?_
  obtain ⟨c1, h⟩ := gq_if h
  refine go_rn 1 (pc' := 5) (L' := [some (.ref 0), some (.int x1)]) (S' := [.int x1, .ref (M.2.2 0)]) (M' := M) okX8_holds rfl ?_
  obtain ⟨r2, e3, h⟩ := gB0_ok h
  refine go_call1 ocX8_holds rfl rfl c1 rfl (SX7_hasYear (M.2.2 0) x1 M c1 e3) (Nat.lt_of_lt_of_le (by decide) hd) ?_
  refine go_br okX8_holds rfl (fun hp => ?_) (fun hp => ?_)
  · have h := gq_pos hp h
    refine go_rn 1 (pc' := 13) (L' := [some (.ref 0), some (.int x1)]) (S' := [.int (-2 : Int32)]) (M' := M) okX8_holds rfl ?_
    exact go_iret (reX8_holds _ (by decide)) rfl (k0 (-2 : Int32) M h)
  · have h := gq_neg hp h
    refine go_rn 1 (pc' := 15) (L' := [some (.ref 0), some (.int x1)]) (S' := [.ref 0]) (M' := M) okX8_holds rfl ?_
    obtain ⟨M4, e5, h⟩ := gB0_ok h
    refine go_call1 ocX8_holds rfl rfl (gOb_c rfl) rfl (SX8_liveAsNow M e5) (Nat.lt_of_lt_of_le (by decide) hd) ?_
    refine go_rn 1 (pc' := 19) (L' := [some (.ref 0), some (.int x1)]) (S' := [.ref 0]) (M' := M4) okX8_holds rfl ?_
    refine go_ck okX8_holds rfl (gOb_c rfl) ?_
    refine go_ck okX8_holds rfl (gOb_c rfl) ?_
    refine go_rn 1 (pc' := 26) (L' := [some (.ref 0), some (.int x1)]) (S' := [.int x1, .ref 19]) (M' := M4) okX8_holds rfl ?_
    obtain ⟨c6, h⟩ := gq_if h
    refine go_ck okX8_holds rfl c6 ?_
    exact go_iret (reX8_holds _ (by decide)) rfl (k0 (M4.1 19 (Int32.toNatClampNeg x1)) M4 h)
def fX8_holds (a1 : Int32) (M : gMem) : Option (Int32 × gMem) := fX8_holds_0 a1 M
theorem SX8_holds {G : gG} (a1 : Int32) (M : gMem) {r : Int32} {N : gMem} (h : fX8_holds a1 M = some (r, N)) : gRun G YX8_holds 6 [.ref 0, .int a1] M (fun r' N' => r' = some (.int r) ∧ N' = N) := gRun_in (by decide +kernel) rfl (fun d hd => go_wk (CX8_holds_0 hd a1 M (fun p => p = (r, N)) (fun r N hh => by cases hh; exact ⟨rfl, rfl⟩) (gq_of h)) ⟨rfl, rfl, True.intro⟩)
def fX8_tied_0 (x1 : Int32) (x2 : Int32) (x3 : Int32) (M : gMem) : Option (Int32 × gMem) :=
  if gOb 7 (M.2.2 0) = true then gB0 (fX7_hasPair (M.2.2 0) x1 x2 M) (fun r2 => if r2 = 0 then some ((-2 : Int32), M) else if gOb 7 (M.2.2 0) = true then gB0 (fX7_hasYear (M.2.2 0) x3 M) (fun r5 => if r5 = 0 then some ((-2 : Int32), M) else gB0 (fX8_liveAsNow M) (fun M7 => gB0 (fX2_areTied x1 x2 x3 M7) (fun r9 => if r9 = 0 then some ((0 : Int32), M7) else some ((1 : Int32), M7)))) else none) else none
set_option maxRecDepth 100000 in
theorem CX8_tied_0 {G : gG} {d : Nat} {Z : Option Value → gMem → Prop} (hd : 6 ≤ d) (x1 : Int32) (x2 : Int32) (x3 : Int32) (M : gMem) (P : Int32 × gMem → Prop) (k0 : ∀ (r : Int32) (N : gMem), P (r, N) → Z (some (.int r)) N) (h : gOKq (fX8_tied_0 x1 x2 x3 M) P) : gGo G YX8_tied d Z 0 [some (.ref 0), some (.int x1), some (.int x2), some (.int x3)] [] M := by
  unfold fX8_tied_0 at h
  refine go_rn 1 (pc' := 1) (L' := [some (.ref 0), some (.int x1), some (.int x2), some (.int x3)]) (S' := [.ref 0]) (M' := M) okX8_tied rfl ?_
  refine go_ck okX8_tied rfl (gOb_c rfl) ?_
  obtain ⟨c1, h⟩ := gq_if h
  refine go_rn 2 (pc' := 6) (L' := [some (.ref 0), some (.int x1), some (.int x2), some (.int x3)]) (S' := [.int x2, .int x1, .ref (M.2.2 0)]) (M' := M) okX8_tied rfl ?_
  obtain ⟨r2, e3, h⟩ := gB0_ok h
  refine go_call1 ocX8_tied rfl rfl c1 rfl (SX7_hasPair (M.2.2 0) x1 x2 M c1 e3) (Nat.lt_of_lt_of_le (by decide) hd) ?_
  refine go_br okX8_tied rfl (fun hp => ?_) (fun hp => ?_)
  · have h := gq_pos hp h
    refine go_rn 1 (pc' := 25) (L' := [some (.ref 0), some (.int x1), some (.int x2), some (.int x3)]) (S' := [.int (-2 : Int32)]) (M' := M) okX8_tied rfl ?_
    exact go_iret (reX8_tied _ (by decide)) rfl (k0 (-2 : Int32) M h)
  · have h := gq_neg hp h
    refine go_rn 1 (pc' := 13) (L' := [some (.ref 0), some (.int x1), some (.int x2), some (.int x3)]) (S' := [.ref 0]) (M' := M) okX8_tied rfl ?_
    refine go_ck okX8_tied rfl (gOb_c rfl) ?_
    obtain ⟨c4, h⟩ := gq_if h
    refine go_rn 1 (pc' := 17) (L' := [some (.ref 0), some (.int x1), some (.int x2), some (.int x3)]) (S' := [.int x3, .ref (M.2.2 0)]) (M' := M) okX8_tied rfl ?_
    obtain ⟨r5, e6, h⟩ := gB0_ok h
    refine go_call1 ocX8_tied rfl rfl c4 rfl (SX7_hasYear (M.2.2 0) x3 M c4 e6) (Nat.lt_of_lt_of_le (by decide) hd) ?_
    refine go_br okX8_tied rfl (fun hp => ?_) (fun hp => ?_)
    · have h := gq_pos hp h
      refine go_rn 1 (pc' := 25) (L' := [some (.ref 0), some (.int x1), some (.int x2), some (.int x3)]) (S' := [.int (-2 : Int32)]) (M' := M) okX8_tied rfl ?_
      exact go_iret (reX8_tied _ (by decide)) rfl (k0 (-2 : Int32) M h)
    · have h := gq_neg hp h
      refine go_rn 1 (pc' := 27) (L' := [some (.ref 0), some (.int x1), some (.int x2), some (.int x3)]) (S' := [.ref 0]) (M' := M) okX8_tied rfl ?_
      obtain ⟨M7, e8, h⟩ := gB0_ok h
      refine go_call1 ocX8_tied rfl rfl (gOb_c rfl) rfl (SX8_liveAsNow M e8) (Nat.lt_of_lt_of_le (by decide) hd) ?_
      refine go_rn 1 (pc' := 31) (L' := [some (.ref 0), some (.int x1), some (.int x2), some (.int x3)]) (S' := [.ref 0]) (M' := M7) okX8_tied rfl ?_
      refine go_ck okX8_tied rfl (gOb_c rfl) ?_
      refine go_rn 3 (pc' := 37) (L' := [some (.ref 0), some (.int x1), some (.int x2), some (.int x3)]) (S' := [.int x3, .int x2, .int x1, .ref 14]) (M' := M7) okX8_tied rfl ?_
      obtain ⟨r9, e10, h⟩ := gB0_ok h
      refine go_call1 ocX8_tied rfl rfl (gOb_c rfl) rfl (SX2_areTied x1 x2 x3 M7 e10) (Nat.lt_of_lt_of_le (by decide) hd) ?_
      refine go_br okX8_tied rfl (fun hp => ?_) (fun hp => ?_)
      · have h := gq_pos hp h
        refine go_rn 1 (pc' := 48) (L' := [some (.ref 0), some (.int x1), some (.int x2), some (.int x3)]) (S' := [.int (0 : Int32)]) (M' := M7) okX8_tied rfl ?_
        exact go_iret (reX8_tied _ (by decide)) rfl (k0 (0 : Int32) M7 h)
      · have h := gq_neg hp h
        refine go_rn 2 (pc' := 48) (L' := [some (.ref 0), some (.int x1), some (.int x2), some (.int x3)]) (S' := [.int (1 : Int32)]) (M' := M7) okX8_tied rfl ?_
        exact go_iret (reX8_tied _ (by decide)) rfl (k0 (1 : Int32) M7 h)
def fX8_tied (a1 : Int32) (a2 : Int32) (a3 : Int32) (M : gMem) : Option (Int32 × gMem) := fX8_tied_0 a1 a2 a3 M
theorem SX8_tied {G : gG} (a1 : Int32) (a2 : Int32) (a3 : Int32) (M : gMem) {r : Int32} {N : gMem} (h : fX8_tied a1 a2 a3 M = some (r, N)) : gRun G YX8_tied 6 [.ref 0, .int a1, .int a2, .int a3] M (fun r' N' => r' = some (.int r) ∧ N' = N) := gRun_in (by decide +kernel) rfl (fun d hd => go_wk (CX8_tied_0 hd a1 a2 a3 M (fun p => p = (r, N)) (fun r N hh => by cases hh; exact ⟨rfl, rfl⟩) (gq_of h)) ⟨rfl, rfl, rfl, rfl, True.intro⟩)
def fX8_firm_0 (x1 : Int32) (x2 : Int32) (M : gMem) : Option (Int32 × gMem) :=
  if gOb 7 (M.2.2 0) = true then gB0 (fX7_hasPartner (M.2.2 0) x1 M) (fun r2 => if r2 = 0 then some ((-2 : Int32), M) else if gOb 7 (M.2.2 0) = true then gB0 (fX7_hasYear (M.2.2 0) x2 M) (fun r5 => if r5 = 0 then some ((-2 : Int32), M) else gB0 (fX8_liveAsNow M) (fun M7 => if gIx 7 48 x2 = true then if gIx 1 (gRa 48 (Int32.toNatClampNeg x2)) x1 = true then some ((M7.1 (gRa 48 (Int32.toNatClampNeg x2)) (Int32.toNatClampNeg x1)), M7) else none else none)) else none) else none
set_option maxRecDepth 100000 in
theorem CX8_firm_0 {G : gG} {d : Nat} {Z : Option Value → gMem → Prop} (hd : 6 ≤ d) (x1 : Int32) (x2 : Int32) (M : gMem) (P : Int32 × gMem → Prop) (k0 : ∀ (r : Int32) (N : gMem), P (r, N) → Z (some (.int r)) N) (h : gOKq (fX8_firm_0 x1 x2 M) P) : gGo G YX8_firm d Z 0 [some (.ref 0), some (.int x1), some (.int x2)] [] M := by
  unfold fX8_firm_0 at h
  refine go_rn 1 (pc' := 1) (L' := [some (.ref 0), some (.int x1), some (.int x2)]) (S' := [.ref 0]) (M' := M) okX8_firm rfl ?_
  refine go_ck okX8_firm rfl (gOb_c rfl) ?_
  obtain ⟨c1, h⟩ := gq_if h
  refine go_rn 1 (pc' := 5) (L' := [some (.ref 0), some (.int x1), some (.int x2)]) (S' := [.int x1, .ref (M.2.2 0)]) (M' := M) okX8_firm rfl ?_
  obtain ⟨r2, e3, h⟩ := gB0_ok h
  refine go_call1 ocX8_firm rfl rfl c1 rfl (SX7_hasPartner (M.2.2 0) x1 M c1 e3) (Nat.lt_of_lt_of_le (by decide) hd) ?_
  refine go_br okX8_firm rfl (fun hp => ?_) (fun hp => ?_)
  · have h := gq_pos hp h
    refine go_rn 1 (pc' := 24) (L' := [some (.ref 0), some (.int x1), some (.int x2)]) (S' := [.int (-2 : Int32)]) (M' := M) okX8_firm rfl ?_
    exact go_iret (reX8_firm _ (by decide)) rfl (k0 (-2 : Int32) M h)
  · have h := gq_neg hp h
    refine go_rn 1 (pc' := 12) (L' := [some (.ref 0), some (.int x1), some (.int x2)]) (S' := [.ref 0]) (M' := M) okX8_firm rfl ?_
    refine go_ck okX8_firm rfl (gOb_c rfl) ?_
    obtain ⟨c4, h⟩ := gq_if h
    refine go_rn 1 (pc' := 16) (L' := [some (.ref 0), some (.int x1), some (.int x2)]) (S' := [.int x2, .ref (M.2.2 0)]) (M' := M) okX8_firm rfl ?_
    obtain ⟨r5, e6, h⟩ := gB0_ok h
    refine go_call1 ocX8_firm rfl rfl c4 rfl (SX7_hasYear (M.2.2 0) x2 M c4 e6) (Nat.lt_of_lt_of_le (by decide) hd) ?_
    refine go_br okX8_firm rfl (fun hp => ?_) (fun hp => ?_)
    · have h := gq_pos hp h
      refine go_rn 1 (pc' := 24) (L' := [some (.ref 0), some (.int x1), some (.int x2)]) (S' := [.int (-2 : Int32)]) (M' := M) okX8_firm rfl ?_
      exact go_iret (reX8_firm _ (by decide)) rfl (k0 (-2 : Int32) M h)
    · have h := gq_neg hp h
      refine go_rn 1 (pc' := 26) (L' := [some (.ref 0), some (.int x1), some (.int x2)]) (S' := [.ref 0]) (M' := M) okX8_firm rfl ?_
      obtain ⟨M7, e8, h⟩ := gB0_ok h
      refine go_call1 ocX8_firm rfl rfl (gOb_c rfl) rfl (SX8_liveAsNow M e8) (Nat.lt_of_lt_of_le (by decide) hd) ?_
      refine go_rn 1 (pc' := 30) (L' := [some (.ref 0), some (.int x1), some (.int x2)]) (S' := [.ref 0]) (M' := M7) okX8_firm rfl ?_
      refine go_ck okX8_firm rfl (gOb_c rfl) ?_
      refine go_ck okX8_firm rfl (gOb_c rfl) ?_
      refine go_rn 1 (pc' := 37) (L' := [some (.ref 0), some (.int x1), some (.int x2)]) (S' := [.int x2, .ref 48]) (M' := M7) okX8_firm rfl ?_
      obtain ⟨c9, h⟩ := gq_if h
      refine go_ck okX8_firm rfl c9 ?_
      refine go_rn 1 (pc' := 39) (L' := [some (.ref 0), some (.int x1), some (.int x2)]) (S' := [.int x1, .ref (gRa 48 (Int32.toNatClampNeg x2))]) (M' := M7) okX8_firm rfl ?_
      obtain ⟨c10, h⟩ := gq_if h
      refine go_ck okX8_firm rfl c10 ?_
      exact go_iret (reX8_firm _ (by decide)) rfl (k0 (M7.1 (gRa 48 (Int32.toNatClampNeg x2)) (Int32.toNatClampNeg x1)) M7 h)
def fX8_firm (a1 : Int32) (a2 : Int32) (M : gMem) : Option (Int32 × gMem) := fX8_firm_0 a1 a2 M
theorem SX8_firm {G : gG} (a1 : Int32) (a2 : Int32) (M : gMem) {r : Int32} {N : gMem} (h : fX8_firm a1 a2 M = some (r, N)) : gRun G YX8_firm 6 [.ref 0, .int a1, .int a2] M (fun r' N' => r' = some (.int r) ∧ N' = N) := gRun_in (by decide +kernel) rfl (fun d hd => go_wk (CX8_firm_0 hd a1 a2 M (fun p => p = (r, N)) (fun r N hh => by cases hh; exact ⟨rfl, rfl⟩) (gq_of h)) ⟨rfl, rfl, rfl, True.intro⟩)
def fX8_firms_0 (x1 : Int32) (M : gMem) : Option (Int32 × gMem) :=
  if gOb 7 (M.2.2 0) = true then gB0 (fX7_hasYear (M.2.2 0) x1 M) (fun r2 => if r2 = 0 then some ((-2 : Int32), M) else gB0 (fX8_liveAsNow M) (fun M4 => if gOb 7 (M4.2.2 0) = true then gB0 (fX2_firmCount (M4.2.2 0) x1 M4) (fun r7 => some (r7, M4)) else none)) else none
set_option maxRecDepth 100000 in
theorem CX8_firms_0 {G : gG} {d : Nat} {Z : Option Value → gMem → Prop} (hd : 6 ≤ d) (x1 : Int32) (M : gMem) (P : Int32 × gMem → Prop) (k0 : ∀ (r : Int32) (N : gMem), P (r, N) → Z (some (.int r)) N) (h : gOKq (fX8_firms_0 x1 M) P) : gGo G YX8_firms d Z 0 [some (.ref 0), some (.int x1)] [] M := by
  unfold fX8_firms_0 at h
  refine go_rn 1 (pc' := 1) (L' := [some (.ref 0), some (.int x1)]) (S' := [.ref 0]) (M' := M) okX8_firms rfl ?_
  refine go_ck okX8_firms rfl (gOb_c rfl) ?_
  obtain ⟨c1, h⟩ := gq_if h
  refine go_rn 1 (pc' := 5) (L' := [some (.ref 0), some (.int x1)]) (S' := [.int x1, .ref (M.2.2 0)]) (M' := M) okX8_firms rfl ?_
  obtain ⟨r2, e3, h⟩ := gB0_ok h
  refine go_call1 ocX8_firms rfl rfl c1 rfl (SX7_hasYear (M.2.2 0) x1 M c1 e3) (Nat.lt_of_lt_of_le (by decide) hd) ?_
  refine go_br okX8_firms rfl (fun hp => ?_) (fun hp => ?_)
  · have h := gq_pos hp h
    refine go_rn 1 (pc' := 13) (L' := [some (.ref 0), some (.int x1)]) (S' := [.int (-2 : Int32)]) (M' := M) okX8_firms rfl ?_
    exact go_iret (reX8_firms _ (by decide)) rfl (k0 (-2 : Int32) M h)
  · have h := gq_neg hp h
    refine go_rn 1 (pc' := 15) (L' := [some (.ref 0), some (.int x1)]) (S' := [.ref 0]) (M' := M) okX8_firms rfl ?_
    obtain ⟨M4, e5, h⟩ := gB0_ok h
    refine go_call1 ocX8_firms rfl rfl (gOb_c rfl) rfl (SX8_liveAsNow M e5) (Nat.lt_of_lt_of_le (by decide) hd) ?_
    refine go_rn 1 (pc' := 19) (L' := [some (.ref 0), some (.int x1)]) (S' := [.ref 0]) (M' := M4) okX8_firms rfl ?_
    refine go_ck okX8_firms rfl (gOb_c rfl) ?_
    refine go_rn 1 (pc' := 23) (L' := [some (.ref 0), some (.int x1)]) (S' := [.ref 0, .ref 14]) (M' := M4) okX8_firms rfl ?_
    refine go_ck okX8_firms rfl (gOb_c rfl) ?_
    obtain ⟨c6, h⟩ := gq_if h
    refine go_rn 1 (pc' := 27) (L' := [some (.ref 0), some (.int x1)]) (S' := [.int x1, .ref (M4.2.2 0), .ref 14]) (M' := M4) okX8_firms rfl ?_
    obtain ⟨r7, e8, h⟩ := gB0_ok h
    refine go_call1 ocX8_firms rfl rfl (gOb_c rfl) rfl (SX2_firmCount (M4.2.2 0) x1 M4 c6 e8) (Nat.lt_of_lt_of_le (by decide) hd) ?_
    exact go_iret (reX8_firms _ (by decide)) rfl (k0 r7 M4 h)
def fX8_firms (a1 : Int32) (M : gMem) : Option (Int32 × gMem) := fX8_firms_0 a1 M
theorem SX8_firms {G : gG} (a1 : Int32) (M : gMem) {r : Int32} {N : gMem} (h : fX8_firms a1 M = some (r, N)) : gRun G YX8_firms 6 [.ref 0, .int a1] M (fun r' N' => r' = some (.int r) ∧ N' = N) := gRun_in (by decide +kernel) rfl (fun d hd => go_wk (CX8_firms_0 hd a1 M (fun p => p = (r, N)) (fun r N hh => by cases hh; exact ⟨rfl, rfl⟩) (gq_of h)) ⟨rfl, rfl, True.intro⟩)
def fX8_wide_0 (x1 : Int32) (x2 : Int32) (M : gMem) : Option (Int32 × gMem) :=
  if gOb 7 (M.2.2 0) = true then gB0 (fX7_hasPartner (M.2.2 0) x1 M) (fun r2 => if r2 = 0 then some ((-2 : Int32), M) else if gOb 7 (M.2.2 0) = true then gB0 (fX7_hasYear (M.2.2 0) x2 M) (fun r5 => if r5 = 0 then some ((-2 : Int32), M) else gB0 (fX8_liveAsNow M) (fun M7 => if gOb 7 (M7.2.2 0) = true then if gOb 7 (M7.2.2 0) = true then gB0 (fX2_firmWidth (M7.2.2 0) x2 x1 (M7.1 (M7.2.2 0) 2) M7) (fun r11 => some (r11, M7)) else none else none)) else none) else none
set_option maxRecDepth 100000 in
theorem CX8_wide_0 {G : gG} {d : Nat} {Z : Option Value → gMem → Prop} (hd : 6 ≤ d) (x1 : Int32) (x2 : Int32) (M : gMem) (P : Int32 × gMem → Prop) (k0 : ∀ (r : Int32) (N : gMem), P (r, N) → Z (some (.int r)) N) (h : gOKq (fX8_wide_0 x1 x2 M) P) : gGo G YX8_wide d Z 0 [some (.ref 0), some (.int x1), some (.int x2)] [] M := by
  unfold fX8_wide_0 at h
  refine go_rn 1 (pc' := 1) (L' := [some (.ref 0), some (.int x1), some (.int x2)]) (S' := [.ref 0]) (M' := M) okX8_wide rfl ?_
  refine go_ck okX8_wide rfl (gOb_c rfl) ?_
  obtain ⟨c1, h⟩ := gq_if h
  refine go_rn 1 (pc' := 5) (L' := [some (.ref 0), some (.int x1), some (.int x2)]) (S' := [.int x1, .ref (M.2.2 0)]) (M' := M) okX8_wide rfl ?_
  obtain ⟨r2, e3, h⟩ := gB0_ok h
  refine go_call1 ocX8_wide rfl rfl c1 rfl (SX7_hasPartner (M.2.2 0) x1 M c1 e3) (Nat.lt_of_lt_of_le (by decide) hd) ?_
  refine go_br okX8_wide rfl (fun hp => ?_) (fun hp => ?_)
  · have h := gq_pos hp h
    refine go_rn 1 (pc' := 24) (L' := [some (.ref 0), some (.int x1), some (.int x2)]) (S' := [.int (-2 : Int32)]) (M' := M) okX8_wide rfl ?_
    exact go_iret (reX8_wide _ (by decide)) rfl (k0 (-2 : Int32) M h)
  · have h := gq_neg hp h
    refine go_rn 1 (pc' := 12) (L' := [some (.ref 0), some (.int x1), some (.int x2)]) (S' := [.ref 0]) (M' := M) okX8_wide rfl ?_
    refine go_ck okX8_wide rfl (gOb_c rfl) ?_
    obtain ⟨c4, h⟩ := gq_if h
    refine go_rn 1 (pc' := 16) (L' := [some (.ref 0), some (.int x1), some (.int x2)]) (S' := [.int x2, .ref (M.2.2 0)]) (M' := M) okX8_wide rfl ?_
    obtain ⟨r5, e6, h⟩ := gB0_ok h
    refine go_call1 ocX8_wide rfl rfl c4 rfl (SX7_hasYear (M.2.2 0) x2 M c4 e6) (Nat.lt_of_lt_of_le (by decide) hd) ?_
    refine go_br okX8_wide rfl (fun hp => ?_) (fun hp => ?_)
    · have h := gq_pos hp h
      refine go_rn 1 (pc' := 24) (L' := [some (.ref 0), some (.int x1), some (.int x2)]) (S' := [.int (-2 : Int32)]) (M' := M) okX8_wide rfl ?_
      exact go_iret (reX8_wide _ (by decide)) rfl (k0 (-2 : Int32) M h)
    · have h := gq_neg hp h
      refine go_rn 1 (pc' := 26) (L' := [some (.ref 0), some (.int x1), some (.int x2)]) (S' := [.ref 0]) (M' := M) okX8_wide rfl ?_
      obtain ⟨M7, e8, h⟩ := gB0_ok h
      refine go_call1 ocX8_wide rfl rfl (gOb_c rfl) rfl (SX8_liveAsNow M e8) (Nat.lt_of_lt_of_le (by decide) hd) ?_
      refine go_rn 1 (pc' := 30) (L' := [some (.ref 0), some (.int x1), some (.int x2)]) (S' := [.ref 0]) (M' := M7) okX8_wide rfl ?_
      refine go_ck okX8_wide rfl (gOb_c rfl) ?_
      refine go_rn 1 (pc' := 34) (L' := [some (.ref 0), some (.int x1), some (.int x2)]) (S' := [.ref 0, .ref 14]) (M' := M7) okX8_wide rfl ?_
      refine go_ck okX8_wide rfl (gOb_c rfl) ?_
      obtain ⟨c9, h⟩ := gq_if h
      refine go_rn 3 (pc' := 40) (L' := [some (.ref 0), some (.int x1), some (.int x2)]) (S' := [.ref 0, .int x1, .int x2, .ref (M7.2.2 0), .ref 14]) (M' := M7) okX8_wide rfl ?_
      refine go_ck okX8_wide rfl (gOb_c rfl) ?_
      obtain ⟨c10, h⟩ := gq_if h
      refine go_ck okX8_wide rfl c10 ?_
      obtain ⟨r11, e12, h⟩ := gB0_ok h
      refine go_call1 ocX8_wide rfl rfl (gOb_c rfl) rfl (SX2_firmWidth (M7.2.2 0) x2 x1 (M7.1 (M7.2.2 0) 2) M7 c9 e12) (Nat.lt_of_lt_of_le (by decide) hd) ?_
      exact go_iret (reX8_wide _ (by decide)) rfl (k0 r11 M7 h)
def fX8_wide (a1 : Int32) (a2 : Int32) (M : gMem) : Option (Int32 × gMem) := fX8_wide_0 a1 a2 M
theorem SX8_wide {G : gG} (a1 : Int32) (a2 : Int32) (M : gMem) {r : Int32} {N : gMem} (h : fX8_wide a1 a2 M = some (r, N)) : gRun G YX8_wide 6 [.ref 0, .int a1, .int a2] M (fun r' N' => r' = some (.int r) ∧ N' = N) := gRun_in (by decide +kernel) rfl (fun d hd => go_wk (CX8_wide_0 hd a1 a2 M (fun p => p = (r, N)) (fun r N hh => by cases hh; exact ⟨rfl, rfl⟩) (gq_of h)) ⟨rfl, rfl, rfl, True.intro⟩)
def fX8_passes_0 (x1 : Int32) (x2 : Int32) (M : gMem) : Option (Int32 × gMem) :=
  if gOb 7 (M.2.2 0) = true then gB0 (fX7_hasPartner (M.2.2 0) x1 M) (fun r2 => if r2 = 0 then some ((-2 : Int32), M) else if gOb 7 (M.2.2 0) = true then gB0 (fX7_hasYear (M.2.2 0) x2 M) (fun r5 => if r5 = 0 then some ((-2 : Int32), M) else gB0 (fX8_liveAsNow M) (fun M7 => if gOb 7 (M7.2.2 0) = true then if gOb 7 (M7.2.2 0) = true then gB0 (fX2_doorsOf (M7.2.2 0) x2 x1 (M7.1 (M7.2.2 0) 2) M7) (fun r11 => some (r11, M7)) else none else none)) else none) else none
set_option maxRecDepth 100000 in
theorem CX8_passes_0 {G : gG} {d : Nat} {Z : Option Value → gMem → Prop} (hd : 6 ≤ d) (x1 : Int32) (x2 : Int32) (M : gMem) (P : Int32 × gMem → Prop) (k0 : ∀ (r : Int32) (N : gMem), P (r, N) → Z (some (.int r)) N) (h : gOKq (fX8_passes_0 x1 x2 M) P) : gGo G YX8_passes d Z 0 [some (.ref 0), some (.int x1), some (.int x2)] [] M := by
  unfold fX8_passes_0 at h
  refine go_rn 1 (pc' := 1) (L' := [some (.ref 0), some (.int x1), some (.int x2)]) (S' := [.ref 0]) (M' := M) okX8_passes rfl ?_
  refine go_ck okX8_passes rfl (gOb_c rfl) ?_
  obtain ⟨c1, h⟩ := gq_if h
  refine go_rn 1 (pc' := 5) (L' := [some (.ref 0), some (.int x1), some (.int x2)]) (S' := [.int x1, .ref (M.2.2 0)]) (M' := M) okX8_passes rfl ?_
  obtain ⟨r2, e3, h⟩ := gB0_ok h
  refine go_call1 ocX8_passes rfl rfl c1 rfl (SX7_hasPartner (M.2.2 0) x1 M c1 e3) (Nat.lt_of_lt_of_le (by decide) hd) ?_
  refine go_br okX8_passes rfl (fun hp => ?_) (fun hp => ?_)
  · have h := gq_pos hp h
    refine go_rn 1 (pc' := 24) (L' := [some (.ref 0), some (.int x1), some (.int x2)]) (S' := [.int (-2 : Int32)]) (M' := M) okX8_passes rfl ?_
    exact go_iret (reX8_passes _ (by decide)) rfl (k0 (-2 : Int32) M h)
  · have h := gq_neg hp h
    refine go_rn 1 (pc' := 12) (L' := [some (.ref 0), some (.int x1), some (.int x2)]) (S' := [.ref 0]) (M' := M) okX8_passes rfl ?_
    refine go_ck okX8_passes rfl (gOb_c rfl) ?_
    obtain ⟨c4, h⟩ := gq_if h
    refine go_rn 1 (pc' := 16) (L' := [some (.ref 0), some (.int x1), some (.int x2)]) (S' := [.int x2, .ref (M.2.2 0)]) (M' := M) okX8_passes rfl ?_
    obtain ⟨r5, e6, h⟩ := gB0_ok h
    refine go_call1 ocX8_passes rfl rfl c4 rfl (SX7_hasYear (M.2.2 0) x2 M c4 e6) (Nat.lt_of_lt_of_le (by decide) hd) ?_
    refine go_br okX8_passes rfl (fun hp => ?_) (fun hp => ?_)
    · have h := gq_pos hp h
      refine go_rn 1 (pc' := 24) (L' := [some (.ref 0), some (.int x1), some (.int x2)]) (S' := [.int (-2 : Int32)]) (M' := M) okX8_passes rfl ?_
      exact go_iret (reX8_passes _ (by decide)) rfl (k0 (-2 : Int32) M h)
    · have h := gq_neg hp h
      refine go_rn 1 (pc' := 26) (L' := [some (.ref 0), some (.int x1), some (.int x2)]) (S' := [.ref 0]) (M' := M) okX8_passes rfl ?_
      obtain ⟨M7, e8, h⟩ := gB0_ok h
      refine go_call1 ocX8_passes rfl rfl (gOb_c rfl) rfl (SX8_liveAsNow M e8) (Nat.lt_of_lt_of_le (by decide) hd) ?_
      refine go_rn 1 (pc' := 30) (L' := [some (.ref 0), some (.int x1), some (.int x2)]) (S' := [.ref 0]) (M' := M7) okX8_passes rfl ?_
      refine go_ck okX8_passes rfl (gOb_c rfl) ?_
      refine go_rn 1 (pc' := 34) (L' := [some (.ref 0), some (.int x1), some (.int x2)]) (S' := [.ref 0, .ref 14]) (M' := M7) okX8_passes rfl ?_
      refine go_ck okX8_passes rfl (gOb_c rfl) ?_
      obtain ⟨c9, h⟩ := gq_if h
      refine go_rn 3 (pc' := 40) (L' := [some (.ref 0), some (.int x1), some (.int x2)]) (S' := [.ref 0, .int x1, .int x2, .ref (M7.2.2 0), .ref 14]) (M' := M7) okX8_passes rfl ?_
      refine go_ck okX8_passes rfl (gOb_c rfl) ?_
      obtain ⟨c10, h⟩ := gq_if h
      refine go_ck okX8_passes rfl c10 ?_
      obtain ⟨r11, e12, h⟩ := gB0_ok h
      refine go_call1 ocX8_passes rfl rfl (gOb_c rfl) rfl (SX2_doorsOf (M7.2.2 0) x2 x1 (M7.1 (M7.2.2 0) 2) M7 c9 e12) (Nat.lt_of_lt_of_le (by decide) hd) ?_
      exact go_iret (reX8_passes _ (by decide)) rfl (k0 r11 M7 h)
def fX8_passes (a1 : Int32) (a2 : Int32) (M : gMem) : Option (Int32 × gMem) := fX8_passes_0 a1 a2 M
theorem SX8_passes {G : gG} (a1 : Int32) (a2 : Int32) (M : gMem) {r : Int32} {N : gMem} (h : fX8_passes a1 a2 M = some (r, N)) : gRun G YX8_passes 6 [.ref 0, .int a1, .int a2] M (fun r' N' => r' = some (.int r) ∧ N' = N) := gRun_in (by decide +kernel) rfl (fun d hd => go_wk (CX8_passes_0 hd a1 a2 M (fun p => p = (r, N)) (fun r N hh => by cases hh; exact ⟨rfl, rfl⟩) (gq_of h)) ⟨rfl, rfl, rfl, True.intro⟩)
def fX8_largest_22 (x1 : Int32) (x2 : Int32) (x3 : Int32) (M : gMem) : Option (Sum (Int32 × Int32) (Int32 × gMem)) :=
  if gOb 7 (M.2.2 0) = true then if (M.1 (M.2.2 0) 5) ≤ x3 then some (.inr (x2, M)) else if gIx 7 48 x1 = true then if gIx 1 (gRa 48 (Int32.toNatClampNeg x1)) x3 = true then gB0 (fJ6_bitCount_0f7a4 (M.1 (gRa 48 (Int32.toNatClampNeg x1)) (Int32.toNatClampNeg x3)) M) (fun r4 => some (.inl ((gMx x2 r4), (x3 + 1)))) else none else none else none
set_option maxRecDepth 100000 in
theorem CX8_largest_22 {G : gG} {d : Nat} {Z : Option Value → gMem → Prop} (hd : 6 ≤ d) (x1 : Int32) (x2 : Int32) (x3 : Int32) (M : gMem) (P : Sum (Int32 × Int32) (Int32 × gMem) → Prop) (k0 : ∀ (r : Int32) (N : gMem), P (.inr (r, N)) → Z (some (.int r)) N) (k1 : ∀ (x2 : Int32) (x3 : Int32), P (.inl (x2, x3)) → gGo G YX8_largest d Z 22 [some (.ref 0), some (.int x1), some (.int x2), some (.int x3)] [] M) (h : gOKq (fX8_largest_22 x1 x2 x3 M) P) : gGo G YX8_largest d Z 22 [some (.ref 0), some (.int x1), some (.int x2), some (.int x3)] [] M := by
  unfold fX8_largest_22 at h
  refine go_rn 2 (pc' := 24) (L' := [some (.ref 0), some (.int x1), some (.int x2), some (.int x3)]) (S' := [.ref 0, .int x3]) (M' := M) okX8_largest rfl ?_
  refine go_ck okX8_largest rfl (gOb_c rfl) ?_
  obtain ⟨c1, h⟩ := gq_if h
  refine go_ck okX8_largest rfl c1 ?_
  refine go_br okX8_largest rfl (fun hp => ?_) (fun hp => ?_)
  · have h := gq_pos hp h
    refine go_rn 1 (pc' := 59) (L' := [some (.ref 0), some (.int x1), some (.int x2), some (.int x3)]) (S' := [.int x2]) (M' := M) okX8_largest rfl ?_
    exact go_iret (reX8_largest _ (by decide)) rfl (k0 x2 M h)
  · have h := gq_neg hp h
    refine go_rn 2 (pc' := 35) (L' := [some (.ref 0), some (.int x1), some (.int x2), some (.int x3)]) (S' := [.ref 0, .int x2]) (M' := M) okX8_largest rfl ?_
    refine go_ck okX8_largest rfl (gOb_c rfl) ?_
    refine go_ck okX8_largest rfl (gOb_c rfl) ?_
    refine go_rn 1 (pc' := 42) (L' := [some (.ref 0), some (.int x1), some (.int x2), some (.int x3)]) (S' := [.int x1, .ref 48, .int x2]) (M' := M) okX8_largest rfl ?_
    obtain ⟨c2, h⟩ := gq_if h
    refine go_ck okX8_largest rfl c2 ?_
    refine go_rn 1 (pc' := 44) (L' := [some (.ref 0), some (.int x1), some (.int x2), some (.int x3)]) (S' := [.int x3, .ref (gRa 48 (Int32.toNatClampNeg x1)), .int x2]) (M' := M) okX8_largest rfl ?_
    obtain ⟨c3, h⟩ := gq_if h
    refine go_ck okX8_largest rfl c3 ?_
    obtain ⟨r4, e5, h⟩ := gB0_ok h
    refine go_call1 ocX8_largest rfl rfl rfl rfl (SJ6_bitCount_0f7a4 (M.1 (gRa 48 (Int32.toNatClampNeg x1)) (Int32.toNatClampNeg x3)) M e5) (Nat.lt_of_lt_of_le (by decide) hd) ?_
    refine go_rn 4 (pc' := 22) (L' := [some (.ref 0), some (.int x1), some (.int (gMx x2 r4)), some (.int (x3 + 1))]) (S' := []) (M' := M) okX8_largest rfl ?_
    exact go_wk (k1 ((gMx x2 r4)) ((x3 + 1)) h) ⟨rfl, rfl, rfl, rfl, True.intro⟩
def fX8_largest_22h (x1 : Int32) (x2 : Int32) (x3 : Int32) (M : gMem) : Option (Int32 × gMem) :=
  gLp (fun s : Int32 × Int32 => fX8_largest_22 x1 (s.1) (s.2) M) gFu (x2, x3)
set_option maxRecDepth 100000 in
theorem CX8_largest_22h {G : gG} {d : Nat} {Z : Option Value → gMem → Prop} (hd : 6 ≤ d) (x1 : Int32) (x2 : Int32) (x3 : Int32) (M : gMem) (P : Int32 × gMem → Prop) (k0 : ∀ (r : Int32) (N : gMem), P (r, N) → Z (some (.int r)) N) (h : gOKq (fX8_largest_22h x1 x2 x3 M) P) : gGo G YX8_largest d Z 22 [some (.ref 0), some (.int x1), some (.int x2), some (.int x3)] [] M :=
  gLp_go (K := fun s : Int32 × Int32 => gGo G YX8_largest d Z 22 [some (.ref 0), some (.int x1), some (.int s.1), some (.int s.2)] [] M) (P := P) (fun s hs => CX8_largest_22 hd (x1) (s.1) (s.2) M (Sum.elim (fun s : Int32 × Int32 => gGo G YX8_largest d Z 22 [some (.ref 0), some (.int x1), some (.int s.1), some (.int s.2)] [] M) P) k0 (fun x2 x3 hh => hh) hs) gFu (x2, x3) h
def fX8_largest_0 (x1 : Int32) (M : gMem) : Option (Int32 × gMem) :=
  if gOb 7 (M.2.2 0) = true then gB0 (fX7_hasYear (M.2.2 0) x1 M) (fun r2 => if r2 = 0 then some ((-2 : Int32), M) else gB0 (fX8_liveAsNow M) (fun M4 => fX8_largest_22h x1 (0 : Int32) (0 : Int32) M4)) else none
set_option maxRecDepth 100000 in
theorem CX8_largest_0 {G : gG} {d : Nat} {Z : Option Value → gMem → Prop} (hd : 6 ≤ d) (x1 : Int32) (M : gMem) (P : Int32 × gMem → Prop) (k0 : ∀ (r : Int32) (N : gMem), P (r, N) → Z (some (.int r)) N) (h : gOKq (fX8_largest_0 x1 M) P) : gGo G YX8_largest d Z 0 [some (.ref 0), some (.int x1), none, none] [] M := by
  unfold fX8_largest_0 at h
  refine go_rn 1 (pc' := 1) (L' := [some (.ref 0), some (.int x1), none, none]) (S' := [.ref 0]) (M' := M) okX8_largest rfl ?_
  refine go_ck okX8_largest rfl (gOb_c rfl) ?_
  obtain ⟨c1, h⟩ := gq_if h
  refine go_rn 1 (pc' := 5) (L' := [some (.ref 0), some (.int x1), none, none]) (S' := [.int x1, .ref (M.2.2 0)]) (M' := M) okX8_largest rfl ?_
  obtain ⟨r2, e3, h⟩ := gB0_ok h
  refine go_call1 ocX8_largest rfl rfl c1 rfl (SX7_hasYear (M.2.2 0) x1 M c1 e3) (Nat.lt_of_lt_of_le (by decide) hd) ?_
  refine go_br okX8_largest rfl (fun hp => ?_) (fun hp => ?_)
  · have h := gq_pos hp h
    refine go_rn 1 (pc' := 13) (L' := [some (.ref 0), some (.int x1), none, none]) (S' := [.int (-2 : Int32)]) (M' := M) okX8_largest rfl ?_
    exact go_iret (reX8_largest _ (by decide)) rfl (k0 (-2 : Int32) M h)
  · have h := gq_neg hp h
    refine go_rn 1 (pc' := 15) (L' := [some (.ref 0), some (.int x1), none, none]) (S' := [.ref 0]) (M' := M) okX8_largest rfl ?_
    obtain ⟨M4, e5, h⟩ := gB0_ok h
    refine go_call1 ocX8_largest rfl rfl (gOb_c rfl) rfl (SX8_liveAsNow M e5) (Nat.lt_of_lt_of_le (by decide) hd) ?_
    refine go_rn 4 (pc' := 22) (L' := [some (.ref 0), some (.int x1), some (.int (0 : Int32)), some (.int (0 : Int32))]) (S' := []) (M' := M4) okX8_largest rfl ?_
    exact go_wk (CX8_largest_22h hd x1 (0 : Int32) (0 : Int32) M4 P k0 h) ⟨rfl, rfl, rfl, rfl, True.intro⟩
def fX8_largest (a1 : Int32) (M : gMem) : Option (Int32 × gMem) := fX8_largest_0 a1 M
theorem SX8_largest {G : gG} (a1 : Int32) (M : gMem) {r : Int32} {N : gMem} (h : fX8_largest a1 M = some (r, N)) : gRun G YX8_largest 6 [.ref 0, .int a1] M (fun r' N' => r' = some (.int r) ∧ N' = N) := gRun_in (by decide +kernel) rfl (fun d hd => go_wk (CX8_largest_0 hd a1 M (fun p => p = (r, N)) (fun r N hh => by cases hh; exact ⟨rfl, rfl⟩) (gq_of h)) ⟨rfl, rfl, True.intro⟩)
def fX8_hairs_0 (x1 : Int32) (x2 : Int32) (x3 : Int32) (M : gMem) : Option (Int32 × gMem) :=
  if gOb 7 (M.2.2 0) = true then gB0 (fX7_hasPartner (M.2.2 0) x1 M) (fun r2 => if r2 = 0 then some ((-2 : Int32), M) else if gOb 7 (M.2.2 0) = true then gB0 (fX7_hasPartner (M.2.2 0) x2 M) (fun r5 => if r5 = 0 then some ((-2 : Int32), M) else if gOb 7 (M.2.2 0) = true then gB0 (fX7_hasYear (M.2.2 0) x3 M) (fun r8 => if r8 = 0 then some ((-2 : Int32), M) else gB0 (fX8_liveAsNow M) (fun M10 => gB0 (fX2_distance x1 x2 x3 M10) (fun r12 => some (r12, M10)))) else none) else none) else none
set_option maxRecDepth 100000 in
theorem CX8_hairs_0 {G : gG} {d : Nat} {Z : Option Value → gMem → Prop} (hd : 6 ≤ d) (x1 : Int32) (x2 : Int32) (x3 : Int32) (M : gMem) (P : Int32 × gMem → Prop) (k0 : ∀ (r : Int32) (N : gMem), P (r, N) → Z (some (.int r)) N) (h : gOKq (fX8_hairs_0 x1 x2 x3 M) P) : gGo G YX8_hairs d Z 0 [some (.ref 0), some (.int x1), some (.int x2), some (.int x3)] [] M := by
  unfold fX8_hairs_0 at h
  refine go_rn 1 (pc' := 1) (L' := [some (.ref 0), some (.int x1), some (.int x2), some (.int x3)]) (S' := [.ref 0]) (M' := M) okX8_hairs rfl ?_
  refine go_ck okX8_hairs rfl (gOb_c rfl) ?_
  obtain ⟨c1, h⟩ := gq_if h
  refine go_rn 1 (pc' := 5) (L' := [some (.ref 0), some (.int x1), some (.int x2), some (.int x3)]) (S' := [.int x1, .ref (M.2.2 0)]) (M' := M) okX8_hairs rfl ?_
  obtain ⟨r2, e3, h⟩ := gB0_ok h
  refine go_call1 ocX8_hairs rfl rfl c1 rfl (SX7_hasPartner (M.2.2 0) x1 M c1 e3) (Nat.lt_of_lt_of_le (by decide) hd) ?_
  refine go_br okX8_hairs rfl (fun hp => ?_) (fun hp => ?_)
  · have h := gq_pos hp h
    refine go_rn 1 (pc' := 35) (L' := [some (.ref 0), some (.int x1), some (.int x2), some (.int x3)]) (S' := [.int (-2 : Int32)]) (M' := M) okX8_hairs rfl ?_
    exact go_iret (reX8_hairs _ (by decide)) rfl (k0 (-2 : Int32) M h)
  · have h := gq_neg hp h
    refine go_rn 1 (pc' := 12) (L' := [some (.ref 0), some (.int x1), some (.int x2), some (.int x3)]) (S' := [.ref 0]) (M' := M) okX8_hairs rfl ?_
    refine go_ck okX8_hairs rfl (gOb_c rfl) ?_
    obtain ⟨c4, h⟩ := gq_if h
    refine go_rn 1 (pc' := 16) (L' := [some (.ref 0), some (.int x1), some (.int x2), some (.int x3)]) (S' := [.int x2, .ref (M.2.2 0)]) (M' := M) okX8_hairs rfl ?_
    obtain ⟨r5, e6, h⟩ := gB0_ok h
    refine go_call1 ocX8_hairs rfl rfl c4 rfl (SX7_hasPartner (M.2.2 0) x2 M c4 e6) (Nat.lt_of_lt_of_le (by decide) hd) ?_
    refine go_br okX8_hairs rfl (fun hp => ?_) (fun hp => ?_)
    · have h := gq_pos hp h
      refine go_rn 1 (pc' := 35) (L' := [some (.ref 0), some (.int x1), some (.int x2), some (.int x3)]) (S' := [.int (-2 : Int32)]) (M' := M) okX8_hairs rfl ?_
      exact go_iret (reX8_hairs _ (by decide)) rfl (k0 (-2 : Int32) M h)
    · have h := gq_neg hp h
      refine go_rn 1 (pc' := 23) (L' := [some (.ref 0), some (.int x1), some (.int x2), some (.int x3)]) (S' := [.ref 0]) (M' := M) okX8_hairs rfl ?_
      refine go_ck okX8_hairs rfl (gOb_c rfl) ?_
      obtain ⟨c7, h⟩ := gq_if h
      refine go_rn 1 (pc' := 27) (L' := [some (.ref 0), some (.int x1), some (.int x2), some (.int x3)]) (S' := [.int x3, .ref (M.2.2 0)]) (M' := M) okX8_hairs rfl ?_
      obtain ⟨r8, e9, h⟩ := gB0_ok h
      refine go_call1 ocX8_hairs rfl rfl c7 rfl (SX7_hasYear (M.2.2 0) x3 M c7 e9) (Nat.lt_of_lt_of_le (by decide) hd) ?_
      refine go_br okX8_hairs rfl (fun hp => ?_) (fun hp => ?_)
      · have h := gq_pos hp h
        refine go_rn 1 (pc' := 35) (L' := [some (.ref 0), some (.int x1), some (.int x2), some (.int x3)]) (S' := [.int (-2 : Int32)]) (M' := M) okX8_hairs rfl ?_
        exact go_iret (reX8_hairs _ (by decide)) rfl (k0 (-2 : Int32) M h)
      · have h := gq_neg hp h
        refine go_rn 1 (pc' := 37) (L' := [some (.ref 0), some (.int x1), some (.int x2), some (.int x3)]) (S' := [.ref 0]) (M' := M) okX8_hairs rfl ?_
        obtain ⟨M10, e11, h⟩ := gB0_ok h
        refine go_call1 ocX8_hairs rfl rfl (gOb_c rfl) rfl (SX8_liveAsNow M e11) (Nat.lt_of_lt_of_le (by decide) hd) ?_
        refine go_rn 1 (pc' := 41) (L' := [some (.ref 0), some (.int x1), some (.int x2), some (.int x3)]) (S' := [.ref 0]) (M' := M10) okX8_hairs rfl ?_
        refine go_ck okX8_hairs rfl (gOb_c rfl) ?_
        refine go_rn 3 (pc' := 47) (L' := [some (.ref 0), some (.int x1), some (.int x2), some (.int x3)]) (S' := [.int x3, .int x2, .int x1, .ref 14]) (M' := M10) okX8_hairs rfl ?_
        obtain ⟨r12, e13, h⟩ := gB0_ok h
        refine go_call1 ocX8_hairs rfl rfl (gOb_c rfl) rfl (SX2_distance x1 x2 x3 M10 e13) (Nat.lt_of_lt_of_le (by decide) hd) ?_
        exact go_iret (reX8_hairs _ (by decide)) rfl (k0 r12 M10 h)
def fX8_hairs (a1 : Int32) (a2 : Int32) (a3 : Int32) (M : gMem) : Option (Int32 × gMem) := fX8_hairs_0 a1 a2 a3 M
theorem SX8_hairs {G : gG} (a1 : Int32) (a2 : Int32) (a3 : Int32) (M : gMem) {r : Int32} {N : gMem} (h : fX8_hairs a1 a2 a3 M = some (r, N)) : gRun G YX8_hairs 6 [.ref 0, .int a1, .int a2, .int a3] M (fun r' N' => r' = some (.int r) ∧ N' = N) := gRun_in (by decide +kernel) rfl (fun d hd => go_wk (CX8_hairs_0 hd a1 a2 a3 M (fun p => p = (r, N)) (fun r N hh => by cases hh; exact ⟨rfl, rfl⟩) (gq_of h)) ⟨rfl, rfl, rfl, rfl, True.intro⟩)
def fX8_colds_0 (x1 : Int32) (M : gMem) : Option (Int32 × gMem) :=
  if gOb 7 (M.2.2 0) = true then gB0 (fX7_hasYear (M.2.2 0) x1 M) (fun r2 => if r2 = 0 then some ((-2 : Int32), M) else gB0 (fX8_liveAsNow M) (fun M4 => if gIx 1 21 x1 = true then some ((M4.1 21 (Int32.toNatClampNeg x1)), M4) else none)) else none
set_option maxRecDepth 100000 in
theorem CX8_colds_0 {G : gG} {d : Nat} {Z : Option Value → gMem → Prop} (hd : 6 ≤ d) (x1 : Int32) (M : gMem) (P : Int32 × gMem → Prop) (k0 : ∀ (r : Int32) (N : gMem), P (r, N) → Z (some (.int r)) N) (h : gOKq (fX8_colds_0 x1 M) P) : gGo G YX8_colds d Z 0 [some (.ref 0), some (.int x1)] [] M := by
  unfold fX8_colds_0 at h
  refine go_rn 1 (pc' := 1) (L' := [some (.ref 0), some (.int x1)]) (S' := [.ref 0]) (M' := M) okX8_colds rfl ?_
  refine go_ck okX8_colds rfl (gOb_c rfl) ?_
  obtain ⟨c1, h⟩ := gq_if h
  refine go_rn 1 (pc' := 5) (L' := [some (.ref 0), some (.int x1)]) (S' := [.int x1, .ref (M.2.2 0)]) (M' := M) okX8_colds rfl ?_
  obtain ⟨r2, e3, h⟩ := gB0_ok h
  refine go_call1 ocX8_colds rfl rfl c1 rfl (SX7_hasYear (M.2.2 0) x1 M c1 e3) (Nat.lt_of_lt_of_le (by decide) hd) ?_
  refine go_br okX8_colds rfl (fun hp => ?_) (fun hp => ?_)
  · have h := gq_pos hp h
    refine go_rn 1 (pc' := 13) (L' := [some (.ref 0), some (.int x1)]) (S' := [.int (-2 : Int32)]) (M' := M) okX8_colds rfl ?_
    exact go_iret (reX8_colds _ (by decide)) rfl (k0 (-2 : Int32) M h)
  · have h := gq_neg hp h
    refine go_rn 1 (pc' := 15) (L' := [some (.ref 0), some (.int x1)]) (S' := [.ref 0]) (M' := M) okX8_colds rfl ?_
    obtain ⟨M4, e5, h⟩ := gB0_ok h
    refine go_call1 ocX8_colds rfl rfl (gOb_c rfl) rfl (SX8_liveAsNow M e5) (Nat.lt_of_lt_of_le (by decide) hd) ?_
    refine go_rn 1 (pc' := 19) (L' := [some (.ref 0), some (.int x1)]) (S' := [.ref 0]) (M' := M4) okX8_colds rfl ?_
    refine go_ck okX8_colds rfl (gOb_c rfl) ?_
    refine go_ck okX8_colds rfl (gOb_c rfl) ?_
    refine go_rn 1 (pc' := 26) (L' := [some (.ref 0), some (.int x1)]) (S' := [.int x1, .ref 21]) (M' := M4) okX8_colds rfl ?_
    obtain ⟨c6, h⟩ := gq_if h
    refine go_ck okX8_colds rfl c6 ?_
    exact go_iret (reX8_colds _ (by decide)) rfl (k0 (M4.1 21 (Int32.toNatClampNeg x1)) M4 h)
def fX8_colds (a1 : Int32) (M : gMem) : Option (Int32 × gMem) := fX8_colds_0 a1 M
theorem SX8_colds {G : gG} (a1 : Int32) (M : gMem) {r : Int32} {N : gMem} (h : fX8_colds a1 M = some (r, N)) : gRun G YX8_colds 6 [.ref 0, .int a1] M (fun r' N' => r' = some (.int r) ∧ N' = N) := gRun_in (by decide +kernel) rfl (fun d hd => go_wk (CX8_colds_0 hd a1 M (fun p => p = (r, N)) (fun r N hh => by cases hh; exact ⟨rfl, rfl⟩) (gq_of h)) ⟨rfl, rfl, True.intro⟩)
def fX8_firstYearWith_2 (x1 : Nat) (x2 : Int32) (x3 : Int32) (M : gMem) : Option (Sum (Int32) (Int32)) :=
  if gOb 7 (M.2.2 0) = true then if (M.1 (M.2.2 0) 1) ≤ x3 then some (.inr (-1 : Int32)) else if gAl x1 = true then if (nI (gSh x1).2) ≤ x3 then some (.inr (-1 : Int32)) else if gIx 1 x1 x3 = true then gB0 (fX8_has (M.1 x1 (Int32.toNatClampNeg x3)) x2 M) (fun r4 => if r4 = 0 then some (.inl ((x3 + 1))) else some (.inr x3)) else none else none else none
set_option maxRecDepth 100000 in
theorem CX8_firstYearWith_2 {G : gG} {d : Nat} {Z : Option Value → gMem → Prop} (hd : 1 ≤ d) (x1 : Nat) (x2 : Int32) (x3 : Int32) (M : gMem) (P : Sum (Int32) (Int32) → Prop) (k0 : ∀ (r : Int32), P (.inr r) → Z (some (.int r)) M) (k1 : ∀ (x3 : Int32), P (.inl (x3)) → gGo G YX8_firstYearWith d Z 2 [some (.ref 0), some (.ref x1), some (.int x2), some (.int x3)] [] M) (h : gOKq (fX8_firstYearWith_2 x1 x2 x3 M) P) : gGo G YX8_firstYearWith d Z 2 [some (.ref 0), some (.ref x1), some (.int x2), some (.int x3)] [] M := by
  unfold fX8_firstYearWith_2 at h
  refine go_rn 2 (pc' := 4) (L' := [some (.ref 0), some (.ref x1), some (.int x2), some (.int x3)]) (S' := [.ref 0, .int x3]) (M' := M) okX8_firstYearWith rfl ?_
  refine go_ck okX8_firstYearWith rfl (gOb_c rfl) ?_
  obtain ⟨c1, h⟩ := gq_if h
  refine go_ck okX8_firstYearWith rfl c1 ?_
  refine go_br okX8_firstYearWith rfl (fun hp => ?_) (fun hp => ?_)
  · have h := gq_pos hp h
    refine go_rn 1 (pc' := 38) (L' := [some (.ref 0), some (.ref x1), some (.int x2), some (.int x3)]) (S' := [.int (-1 : Int32)]) (M' := M) okX8_firstYearWith rfl ?_
    exact go_iret (reX8_firstYearWith _ (by decide)) rfl (k0 (-1 : Int32) h)
  · have h := gq_neg hp h
    refine go_rn 2 (pc' := 15) (L' := [some (.ref 0), some (.ref x1), some (.int x2), some (.int x3)]) (S' := [.ref x1, .int x3]) (M' := M) okX8_firstYearWith rfl ?_
    obtain ⟨c2, h⟩ := gq_if h
    refine go_ck okX8_firstYearWith rfl c2 ?_
    refine go_br okX8_firstYearWith rfl (fun hp => ?_) (fun hp => ?_)
    · have h := gq_pos hp h
      refine go_rn 1 (pc' := 38) (L' := [some (.ref 0), some (.ref x1), some (.int x2), some (.int x3)]) (S' := [.int (-1 : Int32)]) (M' := M) okX8_firstYearWith rfl ?_
      exact go_iret (reX8_firstYearWith _ (by decide)) rfl (k0 (-1 : Int32) h)
    · have h := gq_neg hp h
      refine go_rn 2 (pc' := 21) (L' := [some (.ref 0), some (.ref x1), some (.int x2), some (.int x3)]) (S' := [.int x3, .ref x1]) (M' := M) okX8_firstYearWith rfl ?_
      obtain ⟨c3, h⟩ := gq_if h
      refine go_ck okX8_firstYearWith rfl c3 ?_
      refine go_rn 1 (pc' := 23) (L' := [some (.ref 0), some (.ref x1), some (.int x2), some (.int x3)]) (S' := [.int x2, .int (M.1 x1 (Int32.toNatClampNeg x3))]) (M' := M) okX8_firstYearWith rfl ?_
      obtain ⟨r4, e5, h⟩ := gB0_ok h
      refine go_call1 ocX8_firstYearWith rfl rfl rfl rfl (SX8_has (M.1 x1 (Int32.toNatClampNeg x3)) x2 M e5) (Nat.lt_of_lt_of_le (by decide) hd) ?_
      refine go_br okX8_firstYearWith rfl (fun hp => ?_) (fun hp => ?_)
      · have h := gq_pos hp h
        refine go_rn 2 (pc' := 2) (L' := [some (.ref 0), some (.ref x1), some (.int x2), some (.int (x3 + 1))]) (S' := []) (M' := M) okX8_firstYearWith rfl ?_
        exact go_wk (k1 ((x3 + 1)) h) ⟨rfl, rfl, rfl, rfl, True.intro⟩
      · have h := gq_neg hp h
        refine go_rn 1 (pc' := 30) (L' := [some (.ref 0), some (.ref x1), some (.int x2), some (.int x3)]) (S' := [.int x3]) (M' := M) okX8_firstYearWith rfl ?_
        exact go_iret (reX8_firstYearWith _ (by decide)) rfl (k0 x3 h)
def fX8_firstYearWith_2h (x1 : Nat) (x2 : Int32) (x3 : Int32) (M : gMem) : Option (Int32) :=
  gLp (fun s : Int32 => fX8_firstYearWith_2 x1 x2 s M) gFu (x3)
set_option maxRecDepth 100000 in
theorem CX8_firstYearWith_2h {G : gG} {d : Nat} {Z : Option Value → gMem → Prop} (hd : 1 ≤ d) (x1 : Nat) (x2 : Int32) (x3 : Int32) (M : gMem) (P : Int32 → Prop) (k0 : ∀ (r : Int32), P r → Z (some (.int r)) M) (h : gOKq (fX8_firstYearWith_2h x1 x2 x3 M) P) : gGo G YX8_firstYearWith d Z 2 [some (.ref 0), some (.ref x1), some (.int x2), some (.int x3)] [] M :=
  gLp_go (K := fun s : Int32 => gGo G YX8_firstYearWith d Z 2 [some (.ref 0), some (.ref x1), some (.int x2), some (.int s)] [] M) (P := P) (fun s hs => CX8_firstYearWith_2 hd (x1) (x2) (s) M (Sum.elim (fun s : Int32 => gGo G YX8_firstYearWith d Z 2 [some (.ref 0), some (.ref x1), some (.int x2), some (.int s)] [] M) P) k0 (fun x3 hh => hh) hs) gFu (x3) h
def fX8_firstYearWith_0 (x1 : Nat) (x2 : Int32) (M : gMem) : Option (Int32) :=
  fX8_firstYearWith_2h x1 x2 (0 : Int32) M
set_option maxRecDepth 100000 in
theorem CX8_firstYearWith_0 {G : gG} {d : Nat} {Z : Option Value → gMem → Prop} (hd : 1 ≤ d) (x1 : Nat) (x2 : Int32) (M : gMem) (P : Int32 → Prop) (k0 : ∀ (r : Int32), P r → Z (some (.int r)) M) (h : gOKq (fX8_firstYearWith_0 x1 x2 M) P) : gGo G YX8_firstYearWith d Z 0 [some (.ref 0), some (.ref x1), some (.int x2), none] [] M := by
  unfold fX8_firstYearWith_0 at h
  refine go_rn 2 (pc' := 2) (L' := [some (.ref 0), some (.ref x1), some (.int x2), some (.int (0 : Int32))]) (S' := []) (M' := M) okX8_firstYearWith rfl ?_
  exact go_wk (CX8_firstYearWith_2h hd x1 x2 (0 : Int32) M P k0 h) ⟨rfl, rfl, rfl, rfl, True.intro⟩
def fX8_firstYearWith (a1 : Nat) (a2 : Int32) (M : gMem) : Option (Int32) := fX8_firstYearWith_0 a1 a2 M
theorem SX8_firstYearWith {G : gG} (a1 : Nat) (a2 : Int32) (M : gMem) {r : Int32} (h : fX8_firstYearWith a1 a2 M = some r) : gRun G YX8_firstYearWith 1 [.ref 0, .ref a1, .int a2] M (fun r' N' => r' = some (.int r) ∧ N' = M) := gRun_in (by decide +kernel) rfl (fun d hd => go_wk (CX8_firstYearWith_0 hd a1 a2 M (fun p => p = r) (fun r hh => ⟨congrArg (fun z => some (Value.int z)) hh, rfl⟩) (gq_of h)) ⟨rfl, rfl, rfl, True.intro⟩)
def fX8_cold_0 (x1 : Int32) (M : gMem) : Option (Int32 × gMem) :=
  if gOb 7 (M.2.2 0) = true then gB0 (fX7_hasPartner (M.2.2 0) x1 M) (fun r2 => if r2 = 0 then some ((-2 : Int32), M) else gB0 (fX8_liveAsNow M) (fun M4 => gB0 (fX8_firstYearWith 21 x1 M4) (fun r6 => some (r6, M4)))) else none
set_option maxRecDepth 100000 in
theorem CX8_cold_0 {G : gG} {d : Nat} {Z : Option Value → gMem → Prop} (hd : 6 ≤ d) (x1 : Int32) (M : gMem) (P : Int32 × gMem → Prop) (k0 : ∀ (r : Int32) (N : gMem), P (r, N) → Z (some (.int r)) N) (h : gOKq (fX8_cold_0 x1 M) P) : gGo G YX8_cold d Z 0 [some (.ref 0), some (.int x1)] [] M := by
  unfold fX8_cold_0 at h
  refine go_rn 1 (pc' := 1) (L' := [some (.ref 0), some (.int x1)]) (S' := [.ref 0]) (M' := M) okX8_cold rfl ?_
  refine go_ck okX8_cold rfl (gOb_c rfl) ?_
  obtain ⟨c1, h⟩ := gq_if h
  refine go_rn 1 (pc' := 5) (L' := [some (.ref 0), some (.int x1)]) (S' := [.int x1, .ref (M.2.2 0)]) (M' := M) okX8_cold rfl ?_
  obtain ⟨r2, e3, h⟩ := gB0_ok h
  refine go_call1 ocX8_cold rfl rfl c1 rfl (SX7_hasPartner (M.2.2 0) x1 M c1 e3) (Nat.lt_of_lt_of_le (by decide) hd) ?_
  refine go_br okX8_cold rfl (fun hp => ?_) (fun hp => ?_)
  · have h := gq_pos hp h
    refine go_rn 1 (pc' := 13) (L' := [some (.ref 0), some (.int x1)]) (S' := [.int (-2 : Int32)]) (M' := M) okX8_cold rfl ?_
    exact go_iret (reX8_cold _ (by decide)) rfl (k0 (-2 : Int32) M h)
  · have h := gq_neg hp h
    refine go_rn 1 (pc' := 15) (L' := [some (.ref 0), some (.int x1)]) (S' := [.ref 0]) (M' := M) okX8_cold rfl ?_
    obtain ⟨M4, e5, h⟩ := gB0_ok h
    refine go_call1 ocX8_cold rfl rfl (gOb_c rfl) rfl (SX8_liveAsNow M e5) (Nat.lt_of_lt_of_le (by decide) hd) ?_
    refine go_rn 2 (pc' := 20) (L' := [some (.ref 0), some (.int x1)]) (S' := [.ref 0, .ref 0]) (M' := M4) okX8_cold rfl ?_
    refine go_ck okX8_cold rfl (gOb_c rfl) ?_
    refine go_ck okX8_cold rfl (gOb_c rfl) ?_
    refine go_rn 1 (pc' := 27) (L' := [some (.ref 0), some (.int x1)]) (S' := [.int x1, .ref 21, .ref 0]) (M' := M4) okX8_cold rfl ?_
    obtain ⟨r6, e7, h⟩ := gB0_ok h
    refine go_call1 ocX8_cold rfl rfl (gOb_c rfl) rfl (SX8_firstYearWith 21 x1 M4 e7) (Nat.lt_of_lt_of_le (by decide) hd) ?_
    exact go_iret (reX8_cold _ (by decide)) rfl (k0 r6 M4 h)
def fX8_cold (a1 : Int32) (M : gMem) : Option (Int32 × gMem) := fX8_cold_0 a1 M
theorem SX8_cold {G : gG} (a1 : Int32) (M : gMem) {r : Int32} {N : gMem} (h : fX8_cold a1 M = some (r, N)) : gRun G YX8_cold 6 [.ref 0, .int a1] M (fun r' N' => r' = some (.int r) ∧ N' = N) := gRun_in (by decide +kernel) rfl (fun d hd => go_wk (CX8_cold_0 hd a1 M (fun p => p = (r, N)) (fun r N hh => by cases hh; exact ⟨rfl, rfl⟩) (gq_of h)) ⟨rfl, rfl, True.intro⟩)
def fX8_worth_0 (x1 : Int32) (x2 : Int32) (M : gMem) : Option (Int32 × gMem) :=
  if gOb 7 (M.2.2 0) = true then gB0 (fX7_hasPartner (M.2.2 0) x1 M) (fun r2 => if r2 = 0 then some ((-10000 : Int32), M) else if gOb 7 (M.2.2 0) = true then gB0 (fX7_hasYear (M.2.2 0) x2 M) (fun r5 => if r5 = 0 then some ((-10000 : Int32), M) else gB0 (fX8_liveAsNow M) (fun M7 => if gIx 7 22 x2 = true then if gIx 1 (gRa 22 (Int32.toNatClampNeg x2)) x1 = true then some ((M7.1 (gRa 22 (Int32.toNatClampNeg x2)) (Int32.toNatClampNeg x1)), M7) else none else none)) else none) else none
set_option maxRecDepth 100000 in
theorem CX8_worth_0 {G : gG} {d : Nat} {Z : Option Value → gMem → Prop} (hd : 6 ≤ d) (x1 : Int32) (x2 : Int32) (M : gMem) (P : Int32 × gMem → Prop) (k0 : ∀ (r : Int32) (N : gMem), P (r, N) → Z (some (.int r)) N) (h : gOKq (fX8_worth_0 x1 x2 M) P) : gGo G YX8_worth d Z 0 [some (.ref 0), some (.int x1), some (.int x2)] [] M := by
  unfold fX8_worth_0 at h
  refine go_rn 1 (pc' := 1) (L' := [some (.ref 0), some (.int x1), some (.int x2)]) (S' := [.ref 0]) (M' := M) okX8_worth rfl ?_
  refine go_ck okX8_worth rfl (gOb_c rfl) ?_
  obtain ⟨c1, h⟩ := gq_if h
  refine go_rn 1 (pc' := 5) (L' := [some (.ref 0), some (.int x1), some (.int x2)]) (S' := [.int x1, .ref (M.2.2 0)]) (M' := M) okX8_worth rfl ?_
  obtain ⟨r2, e3, h⟩ := gB0_ok h
  refine go_call1 ocX8_worth rfl rfl c1 rfl (SX7_hasPartner (M.2.2 0) x1 M c1 e3) (Nat.lt_of_lt_of_le (by decide) hd) ?_
  refine go_br okX8_worth rfl (fun hp => ?_) (fun hp => ?_)
  · have h := gq_pos hp h
    refine go_rn 1 (pc' := 25) (L' := [some (.ref 0), some (.int x1), some (.int x2)]) (S' := [.int (-10000 : Int32)]) (M' := M) okX8_worth rfl ?_
    exact go_iret (reX8_worth _ (by decide)) rfl (k0 (-10000 : Int32) M h)
  · have h := gq_neg hp h
    refine go_rn 1 (pc' := 12) (L' := [some (.ref 0), some (.int x1), some (.int x2)]) (S' := [.ref 0]) (M' := M) okX8_worth rfl ?_
    refine go_ck okX8_worth rfl (gOb_c rfl) ?_
    obtain ⟨c4, h⟩ := gq_if h
    refine go_rn 1 (pc' := 16) (L' := [some (.ref 0), some (.int x1), some (.int x2)]) (S' := [.int x2, .ref (M.2.2 0)]) (M' := M) okX8_worth rfl ?_
    obtain ⟨r5, e6, h⟩ := gB0_ok h
    refine go_call1 ocX8_worth rfl rfl c4 rfl (SX7_hasYear (M.2.2 0) x2 M c4 e6) (Nat.lt_of_lt_of_le (by decide) hd) ?_
    refine go_br okX8_worth rfl (fun hp => ?_) (fun hp => ?_)
    · have h := gq_pos hp h
      refine go_rn 1 (pc' := 25) (L' := [some (.ref 0), some (.int x1), some (.int x2)]) (S' := [.int (-10000 : Int32)]) (M' := M) okX8_worth rfl ?_
      exact go_iret (reX8_worth _ (by decide)) rfl (k0 (-10000 : Int32) M h)
    · have h := gq_neg hp h
      refine go_rn 1 (pc' := 27) (L' := [some (.ref 0), some (.int x1), some (.int x2)]) (S' := [.ref 0]) (M' := M) okX8_worth rfl ?_
      obtain ⟨M7, e8, h⟩ := gB0_ok h
      refine go_call1 ocX8_worth rfl rfl (gOb_c rfl) rfl (SX8_liveAsNow M e8) (Nat.lt_of_lt_of_le (by decide) hd) ?_
      refine go_rn 1 (pc' := 31) (L' := [some (.ref 0), some (.int x1), some (.int x2)]) (S' := [.ref 0]) (M' := M7) okX8_worth rfl ?_
      refine go_ck okX8_worth rfl (gOb_c rfl) ?_
      refine go_ck okX8_worth rfl (gOb_c rfl) ?_
      refine go_rn 1 (pc' := 38) (L' := [some (.ref 0), some (.int x1), some (.int x2)]) (S' := [.int x2, .ref 22]) (M' := M7) okX8_worth rfl ?_
      obtain ⟨c9, h⟩ := gq_if h
      refine go_ck okX8_worth rfl c9 ?_
      refine go_rn 1 (pc' := 40) (L' := [some (.ref 0), some (.int x1), some (.int x2)]) (S' := [.int x1, .ref (gRa 22 (Int32.toNatClampNeg x2))]) (M' := M7) okX8_worth rfl ?_
      obtain ⟨c10, h⟩ := gq_if h
      refine go_ck okX8_worth rfl c10 ?_
      exact go_iret (reX8_worth _ (by decide)) rfl (k0 (M7.1 (gRa 22 (Int32.toNatClampNeg x2)) (Int32.toNatClampNeg x1)) M7 h)
def fX8_worth (a1 : Int32) (a2 : Int32) (M : gMem) : Option (Int32 × gMem) := fX8_worth_0 a1 a2 M
theorem SX8_worth {G : gG} (a1 : Int32) (a2 : Int32) (M : gMem) {r : Int32} {N : gMem} (h : fX8_worth a1 a2 M = some (r, N)) : gRun G YX8_worth 6 [.ref 0, .int a1, .int a2] M (fun r' N' => r' = some (.int r) ∧ N' = N) := gRun_in (by decide +kernel) rfl (fun d hd => go_wk (CX8_worth_0 hd a1 a2 M (fun p => p = (r, N)) (fun r N hh => by cases hh; exact ⟨rfl, rfl⟩) (gq_of h)) ⟨rfl, rfl, rfl, True.intro⟩)
def fX8_funds_0 (x1 : Int32) (x2 : Int32) (M : gMem) : Option (Int32 × gMem) :=
  if gOb 7 (M.2.2 0) = true then gB0 (fX7_hasPartner (M.2.2 0) x1 M) (fun r2 => if r2 = 0 then some ((-10000 : Int32), M) else if gOb 7 (M.2.2 0) = true then gB0 (fX7_hasYear (M.2.2 0) x2 M) (fun r5 => if r5 = 0 then some ((-10000 : Int32), M) else gB0 (fX8_liveAsNow M) (fun M7 => if gIx 7 48 x2 = true then if gIx 1 (gRa 48 (Int32.toNatClampNeg x2)) x1 = true then if (M7.1 (gRa 48 (Int32.toNatClampNeg x2)) (Int32.toNatClampNeg x1)) = 0 then some ((-10000 : Int32), M7) else gB0 (fX2_worthOf (M7.1 (gRa 48 (Int32.toNatClampNeg x2)) (Int32.toNatClampNeg x1)) x2 M7) (fun r11 => some (r11, M7)) else none else none)) else none) else none
set_option maxRecDepth 100000 in
theorem CX8_funds_0 {G : gG} {d : Nat} {Z : Option Value → gMem → Prop} (hd : 6 ≤ d) (x1 : Int32) (x2 : Int32) (M : gMem) (P : Int32 × gMem → Prop) (k0 : ∀ (r : Int32) (N : gMem), P (r, N) → Z (some (.int r)) N) (h : gOKq (fX8_funds_0 x1 x2 M) P) : gGo G YX8_funds d Z 0 [some (.ref 0), some (.int x1), some (.int x2), none] [] M := by
  unfold fX8_funds_0 at h
  refine go_rn 1 (pc' := 1) (L' := [some (.ref 0), some (.int x1), some (.int x2), none]) (S' := [.ref 0]) (M' := M) okX8_funds rfl ?_
  refine go_ck okX8_funds rfl (gOb_c rfl) ?_
  obtain ⟨c1, h⟩ := gq_if h
  refine go_rn 1 (pc' := 5) (L' := [some (.ref 0), some (.int x1), some (.int x2), none]) (S' := [.int x1, .ref (M.2.2 0)]) (M' := M) okX8_funds rfl ?_
  obtain ⟨r2, e3, h⟩ := gB0_ok h
  refine go_call1 ocX8_funds rfl rfl c1 rfl (SX7_hasPartner (M.2.2 0) x1 M c1 e3) (Nat.lt_of_lt_of_le (by decide) hd) ?_
  refine go_br okX8_funds rfl (fun hp => ?_) (fun hp => ?_)
  · have h := gq_pos hp h
    refine go_rn 1 (pc' := 25) (L' := [some (.ref 0), some (.int x1), some (.int x2), none]) (S' := [.int (-10000 : Int32)]) (M' := M) okX8_funds rfl ?_
    exact go_iret (reX8_funds _ (by decide)) rfl (k0 (-10000 : Int32) M h)
  · have h := gq_neg hp h
    refine go_rn 1 (pc' := 12) (L' := [some (.ref 0), some (.int x1), some (.int x2), none]) (S' := [.ref 0]) (M' := M) okX8_funds rfl ?_
    refine go_ck okX8_funds rfl (gOb_c rfl) ?_
    obtain ⟨c4, h⟩ := gq_if h
    refine go_rn 1 (pc' := 16) (L' := [some (.ref 0), some (.int x1), some (.int x2), none]) (S' := [.int x2, .ref (M.2.2 0)]) (M' := M) okX8_funds rfl ?_
    obtain ⟨r5, e6, h⟩ := gB0_ok h
    refine go_call1 ocX8_funds rfl rfl c4 rfl (SX7_hasYear (M.2.2 0) x2 M c4 e6) (Nat.lt_of_lt_of_le (by decide) hd) ?_
    refine go_br okX8_funds rfl (fun hp => ?_) (fun hp => ?_)
    · have h := gq_pos hp h
      refine go_rn 1 (pc' := 25) (L' := [some (.ref 0), some (.int x1), some (.int x2), none]) (S' := [.int (-10000 : Int32)]) (M' := M) okX8_funds rfl ?_
      exact go_iret (reX8_funds _ (by decide)) rfl (k0 (-10000 : Int32) M h)
    · have h := gq_neg hp h
      refine go_rn 1 (pc' := 27) (L' := [some (.ref 0), some (.int x1), some (.int x2), none]) (S' := [.ref 0]) (M' := M) okX8_funds rfl ?_
      obtain ⟨M7, e8, h⟩ := gB0_ok h
      refine go_call1 ocX8_funds rfl rfl (gOb_c rfl) rfl (SX8_liveAsNow M e8) (Nat.lt_of_lt_of_le (by decide) hd) ?_
      refine go_rn 1 (pc' := 31) (L' := [some (.ref 0), some (.int x1), some (.int x2), none]) (S' := [.ref 0]) (M' := M7) okX8_funds rfl ?_
      refine go_ck okX8_funds rfl (gOb_c rfl) ?_
      refine go_ck okX8_funds rfl (gOb_c rfl) ?_
      refine go_rn 1 (pc' := 38) (L' := [some (.ref 0), some (.int x1), some (.int x2), none]) (S' := [.int x2, .ref 48]) (M' := M7) okX8_funds rfl ?_
      obtain ⟨c9, h⟩ := gq_if h
      refine go_ck okX8_funds rfl c9 ?_
      refine go_rn 1 (pc' := 40) (L' := [some (.ref 0), some (.int x1), some (.int x2), none]) (S' := [.int x1, .ref (gRa 48 (Int32.toNatClampNeg x2))]) (M' := M7) okX8_funds rfl ?_
      obtain ⟨c10, h⟩ := gq_if h
      refine go_ck okX8_funds rfl c10 ?_
      refine go_rn 2 (pc' := 43) (L' := [some (.ref 0), some (.int x1), some (.int x2), some (.int (M7.1 (gRa 48 (Int32.toNatClampNeg x2)) (Int32.toNatClampNeg x1)))]) (S' := [.int (M7.1 (gRa 48 (Int32.toNatClampNeg x2)) (Int32.toNatClampNeg x1))]) (M' := M7) okX8_funds rfl ?_
      refine go_br okX8_funds rfl (fun hp => ?_) (fun hp => ?_)
      · have h := gq_pos hp h
        refine go_rn 2 (pc' := 61) (L' := [some (.ref 0), some (.int x1), some (.int x2), some (.int (M7.1 (gRa 48 (Int32.toNatClampNeg x2)) (Int32.toNatClampNeg x1)))]) (S' := [.int (-10000 : Int32)]) (M' := M7) okX8_funds rfl ?_
        exact go_iret (reX8_funds _ (by decide)) rfl (k0 (-10000 : Int32) M7 h)
      · have h := gq_neg hp h
        refine go_rn 1 (pc' := 53) (L' := [some (.ref 0), some (.int x1), some (.int x2), some (.int (M7.1 (gRa 48 (Int32.toNatClampNeg x2)) (Int32.toNatClampNeg x1)))]) (S' := [.ref 0]) (M' := M7) okX8_funds rfl ?_
        refine go_ck okX8_funds rfl (gOb_c rfl) ?_
        refine go_rn 2 (pc' := 58) (L' := [some (.ref 0), some (.int x1), some (.int x2), some (.int (M7.1 (gRa 48 (Int32.toNatClampNeg x2)) (Int32.toNatClampNeg x1)))]) (S' := [.int x2, .int (M7.1 (gRa 48 (Int32.toNatClampNeg x2)) (Int32.toNatClampNeg x1)), .ref 14]) (M' := M7) okX8_funds rfl ?_
        obtain ⟨r11, e12, h⟩ := gB0_ok h
        refine go_call1 ocX8_funds rfl rfl (gOb_c rfl) rfl (SX2_worthOf (M7.1 (gRa 48 (Int32.toNatClampNeg x2)) (Int32.toNatClampNeg x1)) x2 M7 e12) (Nat.lt_of_lt_of_le (by decide) hd) ?_
        exact go_iret (reX8_funds _ (by decide)) rfl (k0 r11 M7 h)
def fX8_funds (a1 : Int32) (a2 : Int32) (M : gMem) : Option (Int32 × gMem) := fX8_funds_0 a1 a2 M
theorem SX8_funds {G : gG} (a1 : Int32) (a2 : Int32) (M : gMem) {r : Int32} {N : gMem} (h : fX8_funds a1 a2 M = some (r, N)) : gRun G YX8_funds 6 [.ref 0, .int a1, .int a2] M (fun r' N' => r' = some (.int r) ∧ N' = N) := gRun_in (by decide +kernel) rfl (fun d hd => go_wk (CX8_funds_0 hd a1 a2 M (fun p => p = (r, N)) (fun r N hh => by cases hh; exact ⟨rfl, rfl⟩) (gq_of h)) ⟨rfl, rfl, rfl, True.intro⟩)
def fX8_out_0 (x1 : Int32) (M : gMem) : Option (Int32 × gMem) :=
  if gOb 7 (M.2.2 0) = true then gB0 (fX7_hasYear (M.2.2 0) x1 M) (fun r2 => if r2 = 0 then some ((-2 : Int32), M) else gB0 (fX8_liveAsNow M) (fun M4 => if gIx 1 20 x1 = true then some ((M4.1 20 (Int32.toNatClampNeg x1)), M4) else none)) else none
set_option maxRecDepth 100000 in
theorem CX8_out_0 {G : gG} {d : Nat} {Z : Option Value → gMem → Prop} (hd : 6 ≤ d) (x1 : Int32) (M : gMem) (P : Int32 × gMem → Prop) (k0 : ∀ (r : Int32) (N : gMem), P (r, N) → Z (some (.int r)) N) (h : gOKq (fX8_out_0 x1 M) P) : gGo G YX8_out d Z 0 [some (.ref 0), some (.int x1)] [] M := by
  unfold fX8_out_0 at h
  refine go_rn 1 (pc' := 1) (L' := [some (.ref 0), some (.int x1)]) (S' := [.ref 0]) (M' := M) okX8_out rfl ?_
  refine go_ck okX8_out rfl (gOb_c rfl) ?_
  obtain ⟨c1, h⟩ := gq_if h
  refine go_rn 1 (pc' := 5) (L' := [some (.ref 0), some (.int x1)]) (S' := [.int x1, .ref (M.2.2 0)]) (M' := M) okX8_out rfl ?_
  obtain ⟨r2, e3, h⟩ := gB0_ok h
  refine go_call1 ocX8_out rfl rfl c1 rfl (SX7_hasYear (M.2.2 0) x1 M c1 e3) (Nat.lt_of_lt_of_le (by decide) hd) ?_
  refine go_br okX8_out rfl (fun hp => ?_) (fun hp => ?_)
  · have h := gq_pos hp h
    refine go_rn 1 (pc' := 13) (L' := [some (.ref 0), some (.int x1)]) (S' := [.int (-2 : Int32)]) (M' := M) okX8_out rfl ?_
    exact go_iret (reX8_out _ (by decide)) rfl (k0 (-2 : Int32) M h)
  · have h := gq_neg hp h
    refine go_rn 1 (pc' := 15) (L' := [some (.ref 0), some (.int x1)]) (S' := [.ref 0]) (M' := M) okX8_out rfl ?_
    obtain ⟨M4, e5, h⟩ := gB0_ok h
    refine go_call1 ocX8_out rfl rfl (gOb_c rfl) rfl (SX8_liveAsNow M e5) (Nat.lt_of_lt_of_le (by decide) hd) ?_
    refine go_rn 1 (pc' := 19) (L' := [some (.ref 0), some (.int x1)]) (S' := [.ref 0]) (M' := M4) okX8_out rfl ?_
    refine go_ck okX8_out rfl (gOb_c rfl) ?_
    refine go_ck okX8_out rfl (gOb_c rfl) ?_
    refine go_rn 1 (pc' := 26) (L' := [some (.ref 0), some (.int x1)]) (S' := [.int x1, .ref 20]) (M' := M4) okX8_out rfl ?_
    obtain ⟨c6, h⟩ := gq_if h
    refine go_ck okX8_out rfl c6 ?_
    exact go_iret (reX8_out _ (by decide)) rfl (k0 (M4.1 20 (Int32.toNatClampNeg x1)) M4 h)
def fX8_out (a1 : Int32) (M : gMem) : Option (Int32 × gMem) := fX8_out_0 a1 M
theorem SX8_out {G : gG} (a1 : Int32) (M : gMem) {r : Int32} {N : gMem} (h : fX8_out a1 M = some (r, N)) : gRun G YX8_out 6 [.ref 0, .int a1] M (fun r' N' => r' = some (.int r) ∧ N' = N) := gRun_in (by decide +kernel) rfl (fun d hd => go_wk (CX8_out_0 hd a1 M (fun p => p = (r, N)) (fun r N hh => by cases hh; exact ⟨rfl, rfl⟩) (gq_of h)) ⟨rfl, rfl, True.intro⟩)
def fX8_fails_0 (x1 : Int32) (M : gMem) : Option (Int32 × gMem) :=
  if gOb 7 (M.2.2 0) = true then gB0 (fX7_hasPartner (M.2.2 0) x1 M) (fun r2 => if r2 = 0 then some ((-2 : Int32), M) else gB0 (fX8_liveAsNow M) (fun M4 => gB0 (fX8_firstYearWith 20 x1 M4) (fun r6 => some (r6, M4)))) else none
set_option maxRecDepth 100000 in
theorem CX8_fails_0 {G : gG} {d : Nat} {Z : Option Value → gMem → Prop} (hd : 6 ≤ d) (x1 : Int32) (M : gMem) (P : Int32 × gMem → Prop) (k0 : ∀ (r : Int32) (N : gMem), P (r, N) → Z (some (.int r)) N) (h : gOKq (fX8_fails_0 x1 M) P) : gGo G YX8_fails d Z 0 [some (.ref 0), some (.int x1)] [] M := by
  unfold fX8_fails_0 at h
  refine go_rn 1 (pc' := 1) (L' := [some (.ref 0), some (.int x1)]) (S' := [.ref 0]) (M' := M) okX8_fails rfl ?_
  refine go_ck okX8_fails rfl (gOb_c rfl) ?_
  obtain ⟨c1, h⟩ := gq_if h
  refine go_rn 1 (pc' := 5) (L' := [some (.ref 0), some (.int x1)]) (S' := [.int x1, .ref (M.2.2 0)]) (M' := M) okX8_fails rfl ?_
  obtain ⟨r2, e3, h⟩ := gB0_ok h
  refine go_call1 ocX8_fails rfl rfl c1 rfl (SX7_hasPartner (M.2.2 0) x1 M c1 e3) (Nat.lt_of_lt_of_le (by decide) hd) ?_
  refine go_br okX8_fails rfl (fun hp => ?_) (fun hp => ?_)
  · have h := gq_pos hp h
    refine go_rn 1 (pc' := 13) (L' := [some (.ref 0), some (.int x1)]) (S' := [.int (-2 : Int32)]) (M' := M) okX8_fails rfl ?_
    exact go_iret (reX8_fails _ (by decide)) rfl (k0 (-2 : Int32) M h)
  · have h := gq_neg hp h
    refine go_rn 1 (pc' := 15) (L' := [some (.ref 0), some (.int x1)]) (S' := [.ref 0]) (M' := M) okX8_fails rfl ?_
    obtain ⟨M4, e5, h⟩ := gB0_ok h
    refine go_call1 ocX8_fails rfl rfl (gOb_c rfl) rfl (SX8_liveAsNow M e5) (Nat.lt_of_lt_of_le (by decide) hd) ?_
    refine go_rn 2 (pc' := 20) (L' := [some (.ref 0), some (.int x1)]) (S' := [.ref 0, .ref 0]) (M' := M4) okX8_fails rfl ?_
    refine go_ck okX8_fails rfl (gOb_c rfl) ?_
    refine go_ck okX8_fails rfl (gOb_c rfl) ?_
    refine go_rn 1 (pc' := 27) (L' := [some (.ref 0), some (.int x1)]) (S' := [.int x1, .ref 20, .ref 0]) (M' := M4) okX8_fails rfl ?_
    obtain ⟨r6, e7, h⟩ := gB0_ok h
    refine go_call1 ocX8_fails rfl rfl (gOb_c rfl) rfl (SX8_firstYearWith 20 x1 M4 e7) (Nat.lt_of_lt_of_le (by decide) hd) ?_
    exact go_iret (reX8_fails _ (by decide)) rfl (k0 r6 M4 h)
def fX8_fails (a1 : Int32) (M : gMem) : Option (Int32 × gMem) := fX8_fails_0 a1 M
theorem SX8_fails {G : gG} (a1 : Int32) (M : gMem) {r : Int32} {N : gMem} (h : fX8_fails a1 M = some (r, N)) : gRun G YX8_fails 6 [.ref 0, .int a1] M (fun r' N' => r' = some (.int r) ∧ N' = N) := gRun_in (by decide +kernel) rfl (fun d hd => go_wk (CX8_fails_0 hd a1 M (fun p => p = (r, N)) (fun r N hh => by cases hh; exact ⟨rfl, rfl⟩) (gq_of h)) ⟨rfl, rfl, True.intro⟩)
def fX8_richest_79 (x1 : Int32) (x4 : Int32) (x6 : Int32) (M : gMem) : Option (Sum (Int32 × Int32 × Int32) (Int32 × gMem)) :=
  some (.inl (x4, x6, (x4 + 1)))
set_option maxRecDepth 100000 in
theorem CX8_richest_79 {G : gG} {d : Nat} {Z : Option Value → gMem → Prop} (hd : 6 ≤ d) (x1 : Int32) (x4 : Int32) (x6 : Int32) (M : gMem) (P : Sum (Int32 × Int32 × Int32) (Int32 × gMem) → Prop) (k0 : ∀ (r : Int32) (N : gMem), P (.inr (r, N)) → Z (some (.int r)) N) (k1 : ∀ (x2 : Int32) (x3 : Int32) (x4 : Int32), P (.inl (x2, x3, x4)) → gGo G YX8_richest d Z 25 [some (.ref 0), some (.int x1), some (.int x2), some (.int x3), some (.int x4), none, none] [] M) (h : gOKq (fX8_richest_79 x1 x4 x6 M) P) : gGo G YX8_richest d Z 79 [some (.ref 0), some (.int x1), none, none, some (.int x4), none, some (.int x6)] [] M := by
  unfold fX8_richest_79 at h
  refine go_rn 6 (pc' := 25) (L' := [some (.ref 0), some (.int x1), some (.int x4), some (.int x6), some (.int (x4 + 1)), none, some (.int x6)]) (S' := []) (M' := M) okX8_richest rfl ?_
  exact go_wk (k1 (x4) (x6) ((x4 + 1)) h) ⟨rfl, rfl, rfl, rfl, rfl, True.intro⟩
def fX8_richest_25 (x1 : Int32) (x2 : Int32) (x3 : Int32) (x4 : Int32) (M : gMem) : Option (Sum (Int32 × Int32 × Int32) (Int32 × gMem)) :=
  if gOb 7 (M.2.2 0) = true then if (M.1 (M.2.2 0) 5) ≤ x4 then some (.inr (x2, M)) else if gIx 7 48 x1 = true then if gIx 1 (gRa 48 (Int32.toNatClampNeg x1)) x4 = true then gB0 (fX2_worthOf (M.1 (gRa 48 (Int32.toNatClampNeg x1)) (Int32.toNatClampNeg x4)) x1 M) (fun r4 => if (M.1 (gRa 48 (Int32.toNatClampNeg x1)) (Int32.toNatClampNeg x4)) = 0 then some (.inl (x2, x3, (x4 + 1))) else if x2 = (-1 : Int32) then fX8_richest_79 x1 x4 r4 M else if r4 ≤ x3 then some (.inl (x2, x3, (x4 + 1))) else fX8_richest_79 x1 x4 r4 M) else none else none else none
set_option maxRecDepth 100000 in
theorem CX8_richest_25 {G : gG} {d : Nat} {Z : Option Value → gMem → Prop} (hd : 6 ≤ d) (x1 : Int32) (x2 : Int32) (x3 : Int32) (x4 : Int32) (M : gMem) (P : Sum (Int32 × Int32 × Int32) (Int32 × gMem) → Prop) (k0 : ∀ (r : Int32) (N : gMem), P (.inr (r, N)) → Z (some (.int r)) N) (k1 : ∀ (x2 : Int32) (x3 : Int32) (x4 : Int32), P (.inl (x2, x3, x4)) → gGo G YX8_richest d Z 25 [some (.ref 0), some (.int x1), some (.int x2), some (.int x3), some (.int x4), none, none] [] M) (h : gOKq (fX8_richest_25 x1 x2 x3 x4 M) P) : gGo G YX8_richest d Z 25 [some (.ref 0), some (.int x1), some (.int x2), some (.int x3), some (.int x4), none, none] [] M := by
  unfold fX8_richest_25 at h
  refine go_rn 2 (pc' := 28) (L' := [some (.ref 0), some (.int x1), some (.int x2), some (.int x3), some (.int x4), none, none]) (S' := [.ref 0, .int x4]) (M' := M) okX8_richest rfl ?_
  refine go_ck okX8_richest rfl (gOb_c rfl) ?_
  obtain ⟨c1, h⟩ := gq_if h
  refine go_ck okX8_richest rfl c1 ?_
  refine go_br okX8_richest rfl (fun hp => ?_) (fun hp => ?_)
  · have h := gq_pos hp h
    refine go_rn 1 (pc' := 92) (L' := [some (.ref 0), some (.int x1), some (.int x2), some (.int x3), some (.int x4), none, none]) (S' := [.int x2]) (M' := M) okX8_richest rfl ?_
    exact go_iret (reX8_richest _ (by decide)) rfl (k0 x2 M h)
  · have h := gq_neg hp h
    refine go_rn 1 (pc' := 38) (L' := [some (.ref 0), some (.int x1), some (.int x2), some (.int x3), some (.int x4), none, none]) (S' := [.ref 0]) (M' := M) okX8_richest rfl ?_
    refine go_ck okX8_richest rfl (gOb_c rfl) ?_
    refine go_ck okX8_richest rfl (gOb_c rfl) ?_
    refine go_rn 1 (pc' := 45) (L' := [some (.ref 0), some (.int x1), some (.int x2), some (.int x3), some (.int x4), none, none]) (S' := [.int x1, .ref 48]) (M' := M) okX8_richest rfl ?_
    obtain ⟨c2, h⟩ := gq_if h
    refine go_ck okX8_richest rfl c2 ?_
    refine go_rn 1 (pc' := 48) (L' := [some (.ref 0), some (.int x1), some (.int x2), some (.int x3), some (.int x4), none, none]) (S' := [.int x4, .ref (gRa 48 (Int32.toNatClampNeg x1))]) (M' := M) okX8_richest rfl ?_
    obtain ⟨c3, h⟩ := gq_if h
    refine go_ck okX8_richest rfl c3 ?_
    refine go_rn 2 (pc' := 52) (L' := [some (.ref 0), some (.int x1), some (.int x2), some (.int x3), some (.int x4), some (.int (M.1 (gRa 48 (Int32.toNatClampNeg x1)) (Int32.toNatClampNeg x4))), none]) (S' := [.ref 0]) (M' := M) okX8_richest rfl ?_
    refine go_ck okX8_richest rfl (gOb_c rfl) ?_
    refine go_rn 2 (pc' := 58) (L' := [some (.ref 0), some (.int x1), some (.int x2), some (.int x3), some (.int x4), some (.int (M.1 (gRa 48 (Int32.toNatClampNeg x1)) (Int32.toNatClampNeg x4))), none]) (S' := [.int x1, .int (M.1 (gRa 48 (Int32.toNatClampNeg x1)) (Int32.toNatClampNeg x4)), .ref 14]) (M' := M) okX8_richest rfl ?_
    obtain ⟨r4, e5, h⟩ := gB0_ok h
    refine go_call1 ocX8_richest rfl rfl (gOb_c rfl) rfl (SX2_worthOf (M.1 (gRa 48 (Int32.toNatClampNeg x1)) (Int32.toNatClampNeg x4)) x1 M e5) (Nat.lt_of_lt_of_le (by decide) hd) ?_
    refine go_rn 2 (pc' := 65) (L' := [some (.ref 0), some (.int x1), some (.int x2), some (.int x3), some (.int x4), some (.int (M.1 (gRa 48 (Int32.toNatClampNeg x1)) (Int32.toNatClampNeg x4))), some (.int r4)]) (S' := [.int (M.1 (gRa 48 (Int32.toNatClampNeg x1)) (Int32.toNatClampNeg x4))]) (M' := M) okX8_richest rfl ?_
    refine go_br okX8_richest rfl (fun hp => ?_) (fun hp => ?_)
    · have h := gq_pos hp h
      refine go_rn 2 (pc' := 25) (L' := [some (.ref 0), some (.int x1), some (.int x2), some (.int x3), some (.int (x4 + 1)), some (.int (M.1 (gRa 48 (Int32.toNatClampNeg x1)) (Int32.toNatClampNeg x4))), some (.int r4)]) (S' := []) (M' := M) okX8_richest rfl ?_
      exact go_wk (k1 (x2) (x3) ((x4 + 1)) h) ⟨rfl, rfl, rfl, rfl, rfl, True.intro⟩
    · have h := gq_neg hp h
      refine go_rn 2 (pc' := 70) (L' := [some (.ref 0), some (.int x1), some (.int x2), some (.int x3), some (.int x4), some (.int (M.1 (gRa 48 (Int32.toNatClampNeg x1)) (Int32.toNatClampNeg x4))), some (.int r4)]) (S' := [.int (-1 : Int32), .int x2]) (M' := M) okX8_richest rfl ?_
      refine go_br okX8_richest rfl (fun hp => ?_) (fun hp => ?_)
      · have h := gq_pos hp h
        exact go_wk (CX8_richest_79 hd x1 x4 r4 M P k0 k1 h) ⟨rfl, rfl, rfl, rfl, True.intro⟩
      · have h := gq_neg hp h
        refine go_rn 2 (pc' := 76) (L' := [some (.ref 0), some (.int x1), some (.int x2), some (.int x3), some (.int x4), some (.int (M.1 (gRa 48 (Int32.toNatClampNeg x1)) (Int32.toNatClampNeg x4))), some (.int r4)]) (S' := [.int x3, .int r4]) (M' := M) okX8_richest rfl ?_
        refine go_br okX8_richest rfl (fun hp => ?_) (fun hp => ?_)
        · have h := gq_pos hp h
          refine go_rn 2 (pc' := 25) (L' := [some (.ref 0), some (.int x1), some (.int x2), some (.int x3), some (.int (x4 + 1)), some (.int (M.1 (gRa 48 (Int32.toNatClampNeg x1)) (Int32.toNatClampNeg x4))), some (.int r4)]) (S' := []) (M' := M) okX8_richest rfl ?_
          exact go_wk (k1 (x2) (x3) ((x4 + 1)) h) ⟨rfl, rfl, rfl, rfl, rfl, True.intro⟩
        · have h := gq_neg hp h
          exact go_wk (CX8_richest_79 hd x1 x4 r4 M P k0 k1 h) ⟨rfl, rfl, rfl, rfl, True.intro⟩
def fX8_richest_25h (x1 : Int32) (x2 : Int32) (x3 : Int32) (x4 : Int32) (M : gMem) : Option (Int32 × gMem) :=
  gLp (fun s : Int32 × Int32 × Int32 => fX8_richest_25 x1 (s.1) (s.2.1) (s.2.2) M) gFu (x2, x3, x4)
set_option maxRecDepth 100000 in
theorem CX8_richest_25h {G : gG} {d : Nat} {Z : Option Value → gMem → Prop} (hd : 6 ≤ d) (x1 : Int32) (x2 : Int32) (x3 : Int32) (x4 : Int32) (M : gMem) (P : Int32 × gMem → Prop) (k0 : ∀ (r : Int32) (N : gMem), P (r, N) → Z (some (.int r)) N) (h : gOKq (fX8_richest_25h x1 x2 x3 x4 M) P) : gGo G YX8_richest d Z 25 [some (.ref 0), some (.int x1), some (.int x2), some (.int x3), some (.int x4), none, none] [] M :=
  gLp_go (K := fun s : Int32 × Int32 × Int32 => gGo G YX8_richest d Z 25 [some (.ref 0), some (.int x1), some (.int s.1), some (.int s.2.1), some (.int s.2.2), none, none] [] M) (P := P) (fun s hs => CX8_richest_25 hd (x1) (s.1) (s.2.1) (s.2.2) M (Sum.elim (fun s : Int32 × Int32 × Int32 => gGo G YX8_richest d Z 25 [some (.ref 0), some (.int x1), some (.int s.1), some (.int s.2.1), some (.int s.2.2), none, none] [] M) P) k0 (fun x2 x3 x4 hh => hh) hs) gFu (x2, x3, x4) h
def fX8_richest_0 (x1 : Int32) (M : gMem) : Option (Int32 × gMem) :=
  if gOb 7 (M.2.2 0) = true then gB0 (fX7_hasYear (M.2.2 0) x1 M) (fun r2 => if r2 = 0 then some ((-2 : Int32), M) else gB0 (fX8_liveAsNow M) (fun M4 => fX8_richest_25h x1 (-1 : Int32) (0 : Int32) (0 : Int32) M4)) else none
set_option maxRecDepth 100000 in
theorem CX8_richest_0 {G : gG} {d : Nat} {Z : Option Value → gMem → Prop} (hd : 6 ≤ d) (x1 : Int32) (M : gMem) (P : Int32 × gMem → Prop) (k0 : ∀ (r : Int32) (N : gMem), P (r, N) → Z (some (.int r)) N) (h : gOKq (fX8_richest_0 x1 M) P) : gGo G YX8_richest d Z 0 [some (.ref 0), some (.int x1), none, none, none, none, none] [] M := by
  unfold fX8_richest_0 at h
  refine go_rn 1 (pc' := 1) (L' := [some (.ref 0), some (.int x1), none, none, none, none, none]) (S' := [.ref 0]) (M' := M) okX8_richest rfl ?_
  refine go_ck okX8_richest rfl (gOb_c rfl) ?_
  obtain ⟨c1, h⟩ := gq_if h
  refine go_rn 1 (pc' := 5) (L' := [some (.ref 0), some (.int x1), none, none, none, none, none]) (S' := [.int x1, .ref (M.2.2 0)]) (M' := M) okX8_richest rfl ?_
  obtain ⟨r2, e3, h⟩ := gB0_ok h
  refine go_call1 ocX8_richest rfl rfl c1 rfl (SX7_hasYear (M.2.2 0) x1 M c1 e3) (Nat.lt_of_lt_of_le (by decide) hd) ?_
  refine go_br okX8_richest rfl (fun hp => ?_) (fun hp => ?_)
  · have h := gq_pos hp h
    refine go_rn 1 (pc' := 13) (L' := [some (.ref 0), some (.int x1), none, none, none, none, none]) (S' := [.int (-2 : Int32)]) (M' := M) okX8_richest rfl ?_
    exact go_iret (reX8_richest _ (by decide)) rfl (k0 (-2 : Int32) M h)
  · have h := gq_neg hp h
    refine go_rn 1 (pc' := 15) (L' := [some (.ref 0), some (.int x1), none, none, none, none, none]) (S' := [.ref 0]) (M' := M) okX8_richest rfl ?_
    obtain ⟨M4, e5, h⟩ := gB0_ok h
    refine go_call1 ocX8_richest rfl rfl (gOb_c rfl) rfl (SX8_liveAsNow M e5) (Nat.lt_of_lt_of_le (by decide) hd) ?_
    refine go_rn 6 (pc' := 25) (L' := [some (.ref 0), some (.int x1), some (.int (-1 : Int32)), some (.int (0 : Int32)), some (.int (0 : Int32)), none, none]) (S' := []) (M' := M4) okX8_richest rfl ?_
    exact go_wk (CX8_richest_25h hd x1 (-1 : Int32) (0 : Int32) (0 : Int32) M4 P k0 h) ⟨rfl, rfl, rfl, rfl, rfl, True.intro⟩
def fX8_richest (a1 : Int32) (M : gMem) : Option (Int32 × gMem) := fX8_richest_0 a1 M
theorem SX8_richest {G : gG} (a1 : Int32) (M : gMem) {r : Int32} {N : gMem} (h : fX8_richest a1 M = some (r, N)) : gRun G YX8_richest 6 [.ref 0, .int a1] M (fun r' N' => r' = some (.int r) ∧ N' = N) := gRun_in (by decide +kernel) rfl (fun d hd => go_wk (CX8_richest_0 hd a1 M (fun p => p = (r, N)) (fun r N hh => by cases hh; exact ⟨rfl, rfl⟩) (gq_of h)) ⟨rfl, rfl, True.intro⟩)
def fX8_parts_20 (x1 : Int32) (x2 : Int32) (M : gMem) : Option (Sum (Int32) (Int32 × gMem)) :=
  if gOb 7 (M.2.2 0) = true then if (M.1 (M.2.2 0) 1) ≤ x2 then some (.inr ((-1 : Int32), M)) else if gIx 1 19 x2 = true then gB0 (fX8_has (M.1 19 (Int32.toNatClampNeg x2)) x1 M) (fun r3 => if r3 = 0 then some (.inr (x2, M)) else some (.inl ((x2 + 1)))) else none else none
set_option maxRecDepth 100000 in
theorem CX8_parts_20 {G : gG} {d : Nat} {Z : Option Value → gMem → Prop} (hd : 6 ≤ d) (x1 : Int32) (x2 : Int32) (M : gMem) (P : Sum (Int32) (Int32 × gMem) → Prop) (k0 : ∀ (r : Int32) (N : gMem), P (.inr (r, N)) → Z (some (.int r)) N) (k1 : ∀ (x2 : Int32), P (.inl (x2)) → gGo G YX8_parts d Z 20 [some (.ref 0), some (.int x1), some (.int x2)] [] M) (h : gOKq (fX8_parts_20 x1 x2 M) P) : gGo G YX8_parts d Z 20 [some (.ref 0), some (.int x1), some (.int x2)] [] M := by
  unfold fX8_parts_20 at h
  refine go_rn 2 (pc' := 22) (L' := [some (.ref 0), some (.int x1), some (.int x2)]) (S' := [.ref 0, .int x2]) (M' := M) okX8_parts rfl ?_
  refine go_ck okX8_parts rfl (gOb_c rfl) ?_
  obtain ⟨c1, h⟩ := gq_if h
  refine go_ck okX8_parts rfl c1 ?_
  refine go_br okX8_parts rfl (fun hp => ?_) (fun hp => ?_)
  · have h := gq_pos hp h
    refine go_rn 1 (pc' := 56) (L' := [some (.ref 0), some (.int x1), some (.int x2)]) (S' := [.int (-1 : Int32)]) (M' := M) okX8_parts rfl ?_
    exact go_iret (reX8_parts _ (by decide)) rfl (k0 (-1 : Int32) M h)
  · have h := gq_neg hp h
    refine go_rn 1 (pc' := 32) (L' := [some (.ref 0), some (.int x1), some (.int x2)]) (S' := [.ref 0]) (M' := M) okX8_parts rfl ?_
    refine go_ck okX8_parts rfl (gOb_c rfl) ?_
    refine go_ck okX8_parts rfl (gOb_c rfl) ?_
    refine go_rn 1 (pc' := 39) (L' := [some (.ref 0), some (.int x1), some (.int x2)]) (S' := [.int x2, .ref 19]) (M' := M) okX8_parts rfl ?_
    obtain ⟨c2, h⟩ := gq_if h
    refine go_ck okX8_parts rfl c2 ?_
    refine go_rn 1 (pc' := 41) (L' := [some (.ref 0), some (.int x1), some (.int x2)]) (S' := [.int x1, .int (M.1 19 (Int32.toNatClampNeg x2))]) (M' := M) okX8_parts rfl ?_
    obtain ⟨r3, e4, h⟩ := gB0_ok h
    refine go_call1 ocX8_parts rfl rfl rfl rfl (SX8_has (M.1 19 (Int32.toNatClampNeg x2)) x1 M e4) (Nat.lt_of_lt_of_le (by decide) hd) ?_
    refine go_br okX8_parts rfl (fun hp => ?_) (fun hp => ?_)
    · have h := gq_pos hp h
      refine go_rn 1 (pc' := 48) (L' := [some (.ref 0), some (.int x1), some (.int x2)]) (S' := [.int x2]) (M' := M) okX8_parts rfl ?_
      exact go_iret (reX8_parts _ (by decide)) rfl (k0 x2 M h)
    · have h := gq_neg hp h
      refine go_rn 2 (pc' := 20) (L' := [some (.ref 0), some (.int x1), some (.int (x2 + 1))]) (S' := []) (M' := M) okX8_parts rfl ?_
      exact go_wk (k1 ((x2 + 1)) h) ⟨rfl, rfl, rfl, True.intro⟩
def fX8_parts_20h (x1 : Int32) (x2 : Int32) (M : gMem) : Option (Int32 × gMem) :=
  gLp (fun s : Int32 => fX8_parts_20 x1 s M) gFu (x2)
set_option maxRecDepth 100000 in
theorem CX8_parts_20h {G : gG} {d : Nat} {Z : Option Value → gMem → Prop} (hd : 6 ≤ d) (x1 : Int32) (x2 : Int32) (M : gMem) (P : Int32 × gMem → Prop) (k0 : ∀ (r : Int32) (N : gMem), P (r, N) → Z (some (.int r)) N) (h : gOKq (fX8_parts_20h x1 x2 M) P) : gGo G YX8_parts d Z 20 [some (.ref 0), some (.int x1), some (.int x2)] [] M :=
  gLp_go (K := fun s : Int32 => gGo G YX8_parts d Z 20 [some (.ref 0), some (.int x1), some (.int s)] [] M) (P := P) (fun s hs => CX8_parts_20 hd (x1) (s) M (Sum.elim (fun s : Int32 => gGo G YX8_parts d Z 20 [some (.ref 0), some (.int x1), some (.int s)] [] M) P) k0 (fun x2 hh => hh) hs) gFu (x2) h
def fX8_parts_0 (x1 : Int32) (M : gMem) : Option (Int32 × gMem) :=
  if gOb 7 (M.2.2 0) = true then gB0 (fX7_hasJoin (M.2.2 0) x1 M) (fun r2 => if r2 = 0 then some ((-2 : Int32), M) else gB0 (fX8_liveAsNow M) (fun M4 => fX8_parts_20h x1 (0 : Int32) M4)) else none
set_option maxRecDepth 100000 in
theorem CX8_parts_0 {G : gG} {d : Nat} {Z : Option Value → gMem → Prop} (hd : 6 ≤ d) (x1 : Int32) (M : gMem) (P : Int32 × gMem → Prop) (k0 : ∀ (r : Int32) (N : gMem), P (r, N) → Z (some (.int r)) N) (h : gOKq (fX8_parts_0 x1 M) P) : gGo G YX8_parts d Z 0 [some (.ref 0), some (.int x1), none] [] M := by
  unfold fX8_parts_0 at h
  refine go_rn 1 (pc' := 1) (L' := [some (.ref 0), some (.int x1), none]) (S' := [.ref 0]) (M' := M) okX8_parts rfl ?_
  refine go_ck okX8_parts rfl (gOb_c rfl) ?_
  obtain ⟨c1, h⟩ := gq_if h
  refine go_rn 1 (pc' := 5) (L' := [some (.ref 0), some (.int x1), none]) (S' := [.int x1, .ref (M.2.2 0)]) (M' := M) okX8_parts rfl ?_
  obtain ⟨r2, e3, h⟩ := gB0_ok h
  refine go_call1 ocX8_parts rfl rfl c1 rfl (SX7_hasJoin (M.2.2 0) x1 M c1 e3) (Nat.lt_of_lt_of_le (by decide) hd) ?_
  refine go_br okX8_parts rfl (fun hp => ?_) (fun hp => ?_)
  · have h := gq_pos hp h
    refine go_rn 1 (pc' := 13) (L' := [some (.ref 0), some (.int x1), none]) (S' := [.int (-2 : Int32)]) (M' := M) okX8_parts rfl ?_
    exact go_iret (reX8_parts _ (by decide)) rfl (k0 (-2 : Int32) M h)
  · have h := gq_neg hp h
    refine go_rn 1 (pc' := 15) (L' := [some (.ref 0), some (.int x1), none]) (S' := [.ref 0]) (M' := M) okX8_parts rfl ?_
    obtain ⟨M4, e5, h⟩ := gB0_ok h
    refine go_call1 ocX8_parts rfl rfl (gOb_c rfl) rfl (SX8_liveAsNow M e5) (Nat.lt_of_lt_of_le (by decide) hd) ?_
    refine go_rn 2 (pc' := 20) (L' := [some (.ref 0), some (.int x1), some (.int (0 : Int32))]) (S' := []) (M' := M4) okX8_parts rfl ?_
    exact go_wk (CX8_parts_20h hd x1 (0 : Int32) M4 P k0 h) ⟨rfl, rfl, rfl, True.intro⟩
def fX8_parts (a1 : Int32) (M : gMem) : Option (Int32 × gMem) := fX8_parts_0 a1 M
theorem SX8_parts {G : gG} (a1 : Int32) (M : gMem) {r : Int32} {N : gMem} (h : fX8_parts a1 M = some (r, N)) : gRun G YX8_parts 6 [.ref 0, .int a1] M (fun r' N' => r' = some (.int r) ∧ N' = N) := gRun_in (by decide +kernel) rfl (fun d hd => go_wk (CX8_parts_0 hd a1 M (fun p => p = (r, N)) (fun r N hh => by cases hh; exact ⟨rfl, rfl⟩) (gq_of h)) ⟨rfl, rfl, True.intro⟩)
def fX8_merger_31 (x1 : Int32) (M : gMem) : Option (Sum (Int32) (Int32 × gMem)) :=
  if gOb 7 (M.2.2 0) = true then if (M.1 (M.2.2 0) 1) ≤ x1 then some (.inr ((-1 : Int32), M)) else if gIx 7 48 x1 = true then if gIx 1 (gRa 48 (Int32.toNatClampNeg x1)) (0 : Int32) = true then if gOb 7 (M.2.2 0) = true then gB0 (fX8_allOf (M.1 (M.2.2 0) 5) M) (fun r5 => if (M.1 (gRa 48 (Int32.toNatClampNeg x1)) (Int32.toNatClampNeg (0 : Int32))) = r5 then some (.inr (x1, M)) else some (.inl ((x1 + 1)))) else none else none else none else none
set_option maxRecDepth 100000 in
theorem CX8_merger_31 {G : gG} {d : Nat} {Z : Option Value → gMem → Prop} (hd : 6 ≤ d) (x1 : Int32) (M : gMem) (P : Sum (Int32) (Int32 × gMem) → Prop) (k0 : ∀ (r : Int32) (N : gMem), P (.inr (r, N)) → Z (some (.int r)) N) (k1 : ∀ (x1 : Int32), P (.inl (x1)) → gGo G YX8_merger d Z 31 [some (.ref 0), some (.int x1)] [] M) (h : gOKq (fX8_merger_31 x1 M) P) : gGo G YX8_merger d Z 31 [some (.ref 0), some (.int x1)] [] M := by
  unfold fX8_merger_31 at h
  refine go_rn 2 (pc' := 33) (L' := [some (.ref 0), some (.int x1)]) (S' := [.ref 0, .int x1]) (M' := M) okX8_merger rfl ?_
  refine go_ck okX8_merger rfl (gOb_c rfl) ?_
  obtain ⟨c1, h⟩ := gq_if h
  refine go_ck okX8_merger rfl c1 ?_
  refine go_br okX8_merger rfl (fun hp => ?_) (fun hp => ?_)
  · have h := gq_pos hp h
    refine go_rn 1 (pc' := 75) (L' := [some (.ref 0), some (.int x1)]) (S' := [.int (-1 : Int32)]) (M' := M) okX8_merger rfl ?_
    exact go_iret (reX8_merger _ (by decide)) rfl (k0 (-1 : Int32) M h)
  · have h := gq_neg hp h
    refine go_rn 1 (pc' := 43) (L' := [some (.ref 0), some (.int x1)]) (S' := [.ref 0]) (M' := M) okX8_merger rfl ?_
    refine go_ck okX8_merger rfl (gOb_c rfl) ?_
    refine go_ck okX8_merger rfl (gOb_c rfl) ?_
    refine go_rn 1 (pc' := 50) (L' := [some (.ref 0), some (.int x1)]) (S' := [.int x1, .ref 48]) (M' := M) okX8_merger rfl ?_
    obtain ⟨c2, h⟩ := gq_if h
    refine go_ck okX8_merger rfl c2 ?_
    refine go_rn 1 (pc' := 52) (L' := [some (.ref 0), some (.int x1)]) (S' := [.int (0 : Int32), .ref (gRa 48 (Int32.toNatClampNeg x1))]) (M' := M) okX8_merger rfl ?_
    obtain ⟨c3, h⟩ := gq_if h
    refine go_ck okX8_merger rfl c3 ?_
    refine go_rn 1 (pc' := 54) (L' := [some (.ref 0), some (.int x1)]) (S' := [.ref 0, .int (M.1 (gRa 48 (Int32.toNatClampNeg x1)) (Int32.toNatClampNeg (0 : Int32)))]) (M' := M) okX8_merger rfl ?_
    refine go_ck okX8_merger rfl (gOb_c rfl) ?_
    obtain ⟨c4, h⟩ := gq_if h
    refine go_ck okX8_merger rfl c4 ?_
    obtain ⟨r5, e6, h⟩ := gB0_ok h
    refine go_call1 ocX8_merger rfl rfl rfl rfl (SX8_allOf (M.1 (M.2.2 0) 5) M e6) (Nat.lt_of_lt_of_le (by decide) hd) ?_
    refine go_br okX8_merger rfl (fun hp => ?_) (fun hp => ?_)
    · have h := gq_pos hp h
      refine go_rn 1 (pc' := 67) (L' := [some (.ref 0), some (.int x1)]) (S' := [.int x1]) (M' := M) okX8_merger rfl ?_
      exact go_iret (reX8_merger _ (by decide)) rfl (k0 x1 M h)
    · have h := gq_neg hp h
      refine go_rn 2 (pc' := 31) (L' := [some (.ref 0), some (.int (x1 + 1))]) (S' := []) (M' := M) okX8_merger rfl ?_
      exact go_wk (k1 ((x1 + 1)) h) ⟨rfl, rfl, True.intro⟩
def fX8_merger_31h (x1 : Int32) (M : gMem) : Option (Int32 × gMem) :=
  gLp (fun s : Int32 => fX8_merger_31 s M) gFu (x1)
set_option maxRecDepth 100000 in
theorem CX8_merger_31h {G : gG} {d : Nat} {Z : Option Value → gMem → Prop} (hd : 6 ≤ d) (x1 : Int32) (M : gMem) (P : Int32 × gMem → Prop) (k0 : ∀ (r : Int32) (N : gMem), P (r, N) → Z (some (.int r)) N) (h : gOKq (fX8_merger_31h x1 M) P) : gGo G YX8_merger d Z 31 [some (.ref 0), some (.int x1)] [] M :=
  gLp_go (K := fun s : Int32 => gGo G YX8_merger d Z 31 [some (.ref 0), some (.int s)] [] M) (P := P) (fun s hs => CX8_merger_31 hd (s) M (Sum.elim (fun s : Int32 => gGo G YX8_merger d Z 31 [some (.ref 0), some (.int s)] [] M) P) k0 (fun x1 hh => hh) hs) gFu (x1) h
def fX8_merger_0 (M : gMem) : Option (Int32 × gMem) :=
  if gOb 7 (M.2.2 0) = true then gB0 (fX7_isTold (M.2.2 0) M) (fun r2 => if r2 = 0 then some ((-2 : Int32), M) else if gOb 7 (M.2.2 0) = true then if (M.1 (M.2.2 0) 5) = 0 then some ((-1 : Int32), M) else gB0 (fX8_liveAsNow M) (fun M5 => fX8_merger_31h (0 : Int32) M5) else none) else none
set_option maxRecDepth 100000 in
theorem CX8_merger_0 {G : gG} {d : Nat} {Z : Option Value → gMem → Prop} (hd : 6 ≤ d) (M : gMem) (P : Int32 × gMem → Prop) (k0 : ∀ (r : Int32) (N : gMem), P (r, N) → Z (some (.int r)) N) (h : gOKq (fX8_merger_0 M) P) : gGo G YX8_merger d Z 0 [some (.ref 0), none] [] M := by
  unfold fX8_merger_0 at h
  refine go_rn 1 (pc' := 1) (L' := [some (.ref 0), none]) (S' := [.ref 0]) (M' := M) okX8_merger rfl ?_
  refine go_ck okX8_merger rfl (gOb_c rfl) ?_
  obtain ⟨c1, h⟩ := gq_if h
  obtain ⟨r2, e3, h⟩ := gB0_ok h
  refine go_call1 ocX8_merger rfl rfl c1 rfl (SX7_isTold (M.2.2 0) M c1 e3) (Nat.lt_of_lt_of_le (by decide) hd) ?_
  refine go_br okX8_merger rfl (fun hp => ?_) (fun hp => ?_)
  · have h := gq_pos hp h
    refine go_rn 1 (pc' := 12) (L' := [some (.ref 0), none]) (S' := [.int (-2 : Int32)]) (M' := M) okX8_merger rfl ?_
    exact go_iret (reX8_merger _ (by decide)) rfl (k0 (-2 : Int32) M h)
  · have h := gq_neg hp h
    refine go_rn 1 (pc' := 14) (L' := [some (.ref 0), none]) (S' := [.ref 0]) (M' := M) okX8_merger rfl ?_
    refine go_ck okX8_merger rfl (gOb_c rfl) ?_
    obtain ⟨c4, h⟩ := gq_if h
    refine go_ck okX8_merger rfl c4 ?_
    refine go_br okX8_merger rfl (fun hp => ?_) (fun hp => ?_)
    · have h := gq_pos hp h
      refine go_rn 1 (pc' := 24) (L' := [some (.ref 0), none]) (S' := [.int (-1 : Int32)]) (M' := M) okX8_merger rfl ?_
      exact go_iret (reX8_merger _ (by decide)) rfl (k0 (-1 : Int32) M h)
    · have h := gq_neg hp h
      refine go_rn 1 (pc' := 26) (L' := [some (.ref 0), none]) (S' := [.ref 0]) (M' := M) okX8_merger rfl ?_
      obtain ⟨M5, e6, h⟩ := gB0_ok h
      refine go_call1 ocX8_merger rfl rfl (gOb_c rfl) rfl (SX8_liveAsNow M e6) (Nat.lt_of_lt_of_le (by decide) hd) ?_
      refine go_rn 2 (pc' := 31) (L' := [some (.ref 0), some (.int (0 : Int32))]) (S' := []) (M' := M5) okX8_merger rfl ?_
      exact go_wk (CX8_merger_31h hd (0 : Int32) M5 P k0 h) ⟨rfl, rfl, True.intro⟩
def fX8_merger (M : gMem) : Option (Int32 × gMem) := fX8_merger_0 M
theorem SX8_merger {G : gG} (M : gMem) {r : Int32} {N : gMem} (h : fX8_merger M = some (r, N)) : gRun G YX8_merger 6 [.ref 0] M (fun r' N' => r' = some (.int r) ∧ N' = N) := gRun_in (by decide +kernel) rfl (fun d hd => go_wk (CX8_merger_0 hd M (fun p => p = (r, N)) (fun r N hh => by cases hh; exact ⟨rfl, rfl⟩) (gq_of h)) ⟨rfl, True.intro⟩)
def fX8_apart_21 (x1 : Int32) (x2 : Int32) (x3 : Int32) (M : gMem) : Option (Sum (Int32) (Int32 × gMem)) :=
  if gOb 7 (M.2.2 0) = true then if (M.1 (M.2.2 0) 1) ≤ x3 then some (.inr ((-1 : Int32), M)) else if gIx 7 48 x3 = true then if gIx 1 (gRa 48 (Int32.toNatClampNeg x3)) x1 = true then gB0 (fX8_has (M.1 (gRa 48 (Int32.toNatClampNeg x3)) (Int32.toNatClampNeg x1)) x2 M) (fun r4 => if r4 = 0 then some (.inr (x3, M)) else some (.inl ((x3 + 1)))) else none else none else none
set_option maxRecDepth 100000 in
theorem CX8_apart_21 {G : gG} {d : Nat} {Z : Option Value → gMem → Prop} (hd : 6 ≤ d) (x1 : Int32) (x2 : Int32) (x3 : Int32) (M : gMem) (P : Sum (Int32) (Int32 × gMem) → Prop) (k0 : ∀ (r : Int32) (N : gMem), P (.inr (r, N)) → Z (some (.int r)) N) (k1 : ∀ (x3 : Int32), P (.inl (x3)) → gGo G YX8_apart d Z 21 [some (.ref 0), some (.int x1), some (.int x2), some (.int x3)] [] M) (h : gOKq (fX8_apart_21 x1 x2 x3 M) P) : gGo G YX8_apart d Z 21 [some (.ref 0), some (.int x1), some (.int x2), some (.int x3)] [] M := by
  unfold fX8_apart_21 at h
  refine go_rn 2 (pc' := 23) (L' := [some (.ref 0), some (.int x1), some (.int x2), some (.int x3)]) (S' := [.ref 0, .int x3]) (M' := M) okX8_apart rfl ?_
  refine go_ck okX8_apart rfl (gOb_c rfl) ?_
  obtain ⟨c1, h⟩ := gq_if h
  refine go_ck okX8_apart rfl c1 ?_
  refine go_br okX8_apart rfl (fun hp => ?_) (fun hp => ?_)
  · have h := gq_pos hp h
    refine go_rn 1 (pc' := 59) (L' := [some (.ref 0), some (.int x1), some (.int x2), some (.int x3)]) (S' := [.int (-1 : Int32)]) (M' := M) okX8_apart rfl ?_
    exact go_iret (reX8_apart _ (by decide)) rfl (k0 (-1 : Int32) M h)
  · have h := gq_neg hp h
    refine go_rn 1 (pc' := 33) (L' := [some (.ref 0), some (.int x1), some (.int x2), some (.int x3)]) (S' := [.ref 0]) (M' := M) okX8_apart rfl ?_
    refine go_ck okX8_apart rfl (gOb_c rfl) ?_
    refine go_ck okX8_apart rfl (gOb_c rfl) ?_
    refine go_rn 1 (pc' := 40) (L' := [some (.ref 0), some (.int x1), some (.int x2), some (.int x3)]) (S' := [.int x3, .ref 48]) (M' := M) okX8_apart rfl ?_
    obtain ⟨c2, h⟩ := gq_if h
    refine go_ck okX8_apart rfl c2 ?_
    refine go_rn 1 (pc' := 42) (L' := [some (.ref 0), some (.int x1), some (.int x2), some (.int x3)]) (S' := [.int x1, .ref (gRa 48 (Int32.toNatClampNeg x3))]) (M' := M) okX8_apart rfl ?_
    obtain ⟨c3, h⟩ := gq_if h
    refine go_ck okX8_apart rfl c3 ?_
    refine go_rn 1 (pc' := 44) (L' := [some (.ref 0), some (.int x1), some (.int x2), some (.int x3)]) (S' := [.int x2, .int (M.1 (gRa 48 (Int32.toNatClampNeg x3)) (Int32.toNatClampNeg x1))]) (M' := M) okX8_apart rfl ?_
    obtain ⟨r4, e5, h⟩ := gB0_ok h
    refine go_call1 ocX8_apart rfl rfl rfl rfl (SX8_has (M.1 (gRa 48 (Int32.toNatClampNeg x3)) (Int32.toNatClampNeg x1)) x2 M e5) (Nat.lt_of_lt_of_le (by decide) hd) ?_
    refine go_br okX8_apart rfl (fun hp => ?_) (fun hp => ?_)
    · have h := gq_pos hp h
      refine go_rn 1 (pc' := 51) (L' := [some (.ref 0), some (.int x1), some (.int x2), some (.int x3)]) (S' := [.int x3]) (M' := M) okX8_apart rfl ?_
      exact go_iret (reX8_apart _ (by decide)) rfl (k0 x3 M h)
    · have h := gq_neg hp h
      refine go_rn 2 (pc' := 21) (L' := [some (.ref 0), some (.int x1), some (.int x2), some (.int (x3 + 1))]) (S' := []) (M' := M) okX8_apart rfl ?_
      exact go_wk (k1 ((x3 + 1)) h) ⟨rfl, rfl, rfl, rfl, True.intro⟩
def fX8_apart_21h (x1 : Int32) (x2 : Int32) (x3 : Int32) (M : gMem) : Option (Int32 × gMem) :=
  gLp (fun s : Int32 => fX8_apart_21 x1 x2 s M) gFu (x3)
set_option maxRecDepth 100000 in
theorem CX8_apart_21h {G : gG} {d : Nat} {Z : Option Value → gMem → Prop} (hd : 6 ≤ d) (x1 : Int32) (x2 : Int32) (x3 : Int32) (M : gMem) (P : Int32 × gMem → Prop) (k0 : ∀ (r : Int32) (N : gMem), P (r, N) → Z (some (.int r)) N) (h : gOKq (fX8_apart_21h x1 x2 x3 M) P) : gGo G YX8_apart d Z 21 [some (.ref 0), some (.int x1), some (.int x2), some (.int x3)] [] M :=
  gLp_go (K := fun s : Int32 => gGo G YX8_apart d Z 21 [some (.ref 0), some (.int x1), some (.int x2), some (.int s)] [] M) (P := P) (fun s hs => CX8_apart_21 hd (x1) (x2) (s) M (Sum.elim (fun s : Int32 => gGo G YX8_apart d Z 21 [some (.ref 0), some (.int x1), some (.int x2), some (.int s)] [] M) P) k0 (fun x3 hh => hh) hs) gFu (x3) h
def fX8_apart_0 (x1 : Int32) (x2 : Int32) (M : gMem) : Option (Int32 × gMem) :=
  if gOb 7 (M.2.2 0) = true then gB0 (fX7_hasPair (M.2.2 0) x1 x2 M) (fun r2 => if r2 = 0 then some ((-2 : Int32), M) else gB0 (fX8_liveAsNow M) (fun M4 => fX8_apart_21h x1 x2 (0 : Int32) M4)) else none
set_option maxRecDepth 100000 in
theorem CX8_apart_0 {G : gG} {d : Nat} {Z : Option Value → gMem → Prop} (hd : 6 ≤ d) (x1 : Int32) (x2 : Int32) (M : gMem) (P : Int32 × gMem → Prop) (k0 : ∀ (r : Int32) (N : gMem), P (r, N) → Z (some (.int r)) N) (h : gOKq (fX8_apart_0 x1 x2 M) P) : gGo G YX8_apart d Z 0 [some (.ref 0), some (.int x1), some (.int x2), none] [] M := by
  unfold fX8_apart_0 at h
  refine go_rn 1 (pc' := 1) (L' := [some (.ref 0), some (.int x1), some (.int x2), none]) (S' := [.ref 0]) (M' := M) okX8_apart rfl ?_
  refine go_ck okX8_apart rfl (gOb_c rfl) ?_
  obtain ⟨c1, h⟩ := gq_if h
  refine go_rn 2 (pc' := 6) (L' := [some (.ref 0), some (.int x1), some (.int x2), none]) (S' := [.int x2, .int x1, .ref (M.2.2 0)]) (M' := M) okX8_apart rfl ?_
  obtain ⟨r2, e3, h⟩ := gB0_ok h
  refine go_call1 ocX8_apart rfl rfl c1 rfl (SX7_hasPair (M.2.2 0) x1 x2 M c1 e3) (Nat.lt_of_lt_of_le (by decide) hd) ?_
  refine go_br okX8_apart rfl (fun hp => ?_) (fun hp => ?_)
  · have h := gq_pos hp h
    refine go_rn 1 (pc' := 14) (L' := [some (.ref 0), some (.int x1), some (.int x2), none]) (S' := [.int (-2 : Int32)]) (M' := M) okX8_apart rfl ?_
    exact go_iret (reX8_apart _ (by decide)) rfl (k0 (-2 : Int32) M h)
  · have h := gq_neg hp h
    refine go_rn 1 (pc' := 16) (L' := [some (.ref 0), some (.int x1), some (.int x2), none]) (S' := [.ref 0]) (M' := M) okX8_apart rfl ?_
    obtain ⟨M4, e5, h⟩ := gB0_ok h
    refine go_call1 ocX8_apart rfl rfl (gOb_c rfl) rfl (SX8_liveAsNow M e5) (Nat.lt_of_lt_of_le (by decide) hd) ?_
    refine go_rn 2 (pc' := 21) (L' := [some (.ref 0), some (.int x1), some (.int x2), some (.int (0 : Int32))]) (S' := []) (M' := M4) okX8_apart rfl ?_
    exact go_wk (CX8_apart_21h hd x1 x2 (0 : Int32) M4 P k0 h) ⟨rfl, rfl, rfl, rfl, True.intro⟩
def fX8_apart (a1 : Int32) (a2 : Int32) (M : gMem) : Option (Int32 × gMem) := fX8_apart_0 a1 a2 M
theorem SX8_apart {G : gG} (a1 : Int32) (a2 : Int32) (M : gMem) {r : Int32} {N : gMem} (h : fX8_apart a1 a2 M = some (r, N)) : gRun G YX8_apart 6 [.ref 0, .int a1, .int a2] M (fun r' N' => r' = some (.int r) ∧ N' = N) := gRun_in (by decide +kernel) rfl (fun d hd => go_wk (CX8_apart_0 hd a1 a2 M (fun p => p = (r, N)) (fun r N hh => by cases hh; exact ⟨rfl, rfl⟩) (gq_of h)) ⟨rfl, rfl, rfl, True.intro⟩)
def fX8_singles_22 (x1 : Int32) (x2 : Int32) (x3 : Int32) (M : gMem) : Option (Sum (Int32 × Int32) (Int32 × gMem)) :=
  if gOb 7 (M.2.2 0) = true then if (M.1 (M.2.2 0) 5) ≤ x3 then some (.inr (x2, M)) else if gIx 7 48 x1 = true then if gIx 1 (gRa 48 (Int32.toNatClampNeg x1)) x3 = true then if (M.1 (gRa 48 (Int32.toNatClampNeg x1)) (Int32.toNatClampNeg x3)) = ((1 : Int32) <<< (x3 &&& 31)) then some (.inl ((x2 ||| ((1 : Int32) <<< (x3 &&& 31))), (x3 + 1))) else some (.inl (x2, (x3 + 1))) else none else none else none
set_option maxRecDepth 100000 in
theorem CX8_singles_22 {G : gG} {d : Nat} {Z : Option Value → gMem → Prop} (hd : 6 ≤ d) (x1 : Int32) (x2 : Int32) (x3 : Int32) (M : gMem) (P : Sum (Int32 × Int32) (Int32 × gMem) → Prop) (k0 : ∀ (r : Int32) (N : gMem), P (.inr (r, N)) → Z (some (.int r)) N) (k1 : ∀ (x2 : Int32) (x3 : Int32), P (.inl (x2, x3)) → gGo G YX8_singles d Z 22 [some (.ref 0), some (.int x1), some (.int x2), some (.int x3)] [] M) (h : gOKq (fX8_singles_22 x1 x2 x3 M) P) : gGo G YX8_singles d Z 22 [some (.ref 0), some (.int x1), some (.int x2), some (.int x3)] [] M := by
  unfold fX8_singles_22 at h
  refine go_rn 2 (pc' := 24) (L' := [some (.ref 0), some (.int x1), some (.int x2), some (.int x3)]) (S' := [.ref 0, .int x3]) (M' := M) okX8_singles rfl ?_
  refine go_ck okX8_singles rfl (gOb_c rfl) ?_
  obtain ⟨c1, h⟩ := gq_if h
  refine go_ck okX8_singles rfl c1 ?_
  refine go_br okX8_singles rfl (fun hp => ?_) (fun hp => ?_)
  · have h := gq_pos hp h
    refine go_rn 1 (pc' := 63) (L' := [some (.ref 0), some (.int x1), some (.int x2), some (.int x3)]) (S' := [.int x2]) (M' := M) okX8_singles rfl ?_
    exact go_iret (reX8_singles _ (by decide)) rfl (k0 x2 M h)
  · have h := gq_neg hp h
    refine go_rn 1 (pc' := 34) (L' := [some (.ref 0), some (.int x1), some (.int x2), some (.int x3)]) (S' := [.ref 0]) (M' := M) okX8_singles rfl ?_
    refine go_ck okX8_singles rfl (gOb_c rfl) ?_
    refine go_ck okX8_singles rfl (gOb_c rfl) ?_
    refine go_rn 1 (pc' := 41) (L' := [some (.ref 0), some (.int x1), some (.int x2), some (.int x3)]) (S' := [.int x1, .ref 48]) (M' := M) okX8_singles rfl ?_
    obtain ⟨c2, h⟩ := gq_if h
    refine go_ck okX8_singles rfl c2 ?_
    refine go_rn 1 (pc' := 43) (L' := [some (.ref 0), some (.int x1), some (.int x2), some (.int x3)]) (S' := [.int x3, .ref (gRa 48 (Int32.toNatClampNeg x1))]) (M' := M) okX8_singles rfl ?_
    obtain ⟨c3, h⟩ := gq_if h
    refine go_ck okX8_singles rfl c3 ?_
    refine go_rn 3 (pc' := 47) (L' := [some (.ref 0), some (.int x1), some (.int x2), some (.int x3)]) (S' := [.int ((1 : Int32) <<< (x3 &&& 31)), .int (M.1 (gRa 48 (Int32.toNatClampNeg x1)) (Int32.toNatClampNeg x3))]) (M' := M) okX8_singles rfl ?_
    refine go_br okX8_singles rfl (fun hp => ?_) (fun hp => ?_)
    · have h := gq_pos hp h
      refine go_rn 8 (pc' := 22) (L' := [some (.ref 0), some (.int x1), some (.int (x2 ||| ((1 : Int32) <<< (x3 &&& 31)))), some (.int (x3 + 1))]) (S' := []) (M' := M) okX8_singles rfl ?_
      exact go_wk (k1 ((x2 ||| ((1 : Int32) <<< (x3 &&& 31)))) ((x3 + 1)) h) ⟨rfl, rfl, rfl, rfl, True.intro⟩
    · have h := gq_neg hp h
      refine go_rn 2 (pc' := 22) (L' := [some (.ref 0), some (.int x1), some (.int x2), some (.int (x3 + 1))]) (S' := []) (M' := M) okX8_singles rfl ?_
      exact go_wk (k1 (x2) ((x3 + 1)) h) ⟨rfl, rfl, rfl, rfl, True.intro⟩
def fX8_singles_22h (x1 : Int32) (x2 : Int32) (x3 : Int32) (M : gMem) : Option (Int32 × gMem) :=
  gLp (fun s : Int32 × Int32 => fX8_singles_22 x1 (s.1) (s.2) M) gFu (x2, x3)
set_option maxRecDepth 100000 in
theorem CX8_singles_22h {G : gG} {d : Nat} {Z : Option Value → gMem → Prop} (hd : 6 ≤ d) (x1 : Int32) (x2 : Int32) (x3 : Int32) (M : gMem) (P : Int32 × gMem → Prop) (k0 : ∀ (r : Int32) (N : gMem), P (r, N) → Z (some (.int r)) N) (h : gOKq (fX8_singles_22h x1 x2 x3 M) P) : gGo G YX8_singles d Z 22 [some (.ref 0), some (.int x1), some (.int x2), some (.int x3)] [] M :=
  gLp_go (K := fun s : Int32 × Int32 => gGo G YX8_singles d Z 22 [some (.ref 0), some (.int x1), some (.int s.1), some (.int s.2)] [] M) (P := P) (fun s hs => CX8_singles_22 hd (x1) (s.1) (s.2) M (Sum.elim (fun s : Int32 × Int32 => gGo G YX8_singles d Z 22 [some (.ref 0), some (.int x1), some (.int s.1), some (.int s.2)] [] M) P) k0 (fun x2 x3 hh => hh) hs) gFu (x2, x3) h
def fX8_singles_0 (x1 : Int32) (M : gMem) : Option (Int32 × gMem) :=
  if gOb 7 (M.2.2 0) = true then gB0 (fX7_hasYear (M.2.2 0) x1 M) (fun r2 => if r2 = 0 then some ((-2 : Int32), M) else gB0 (fX8_liveAsNow M) (fun M4 => fX8_singles_22h x1 (0 : Int32) (0 : Int32) M4)) else none
set_option maxRecDepth 100000 in
theorem CX8_singles_0 {G : gG} {d : Nat} {Z : Option Value → gMem → Prop} (hd : 6 ≤ d) (x1 : Int32) (M : gMem) (P : Int32 × gMem → Prop) (k0 : ∀ (r : Int32) (N : gMem), P (r, N) → Z (some (.int r)) N) (h : gOKq (fX8_singles_0 x1 M) P) : gGo G YX8_singles d Z 0 [some (.ref 0), some (.int x1), none, none] [] M := by
  unfold fX8_singles_0 at h
  refine go_rn 1 (pc' := 1) (L' := [some (.ref 0), some (.int x1), none, none]) (S' := [.ref 0]) (M' := M) okX8_singles rfl ?_
  refine go_ck okX8_singles rfl (gOb_c rfl) ?_
  obtain ⟨c1, h⟩ := gq_if h
  refine go_rn 1 (pc' := 5) (L' := [some (.ref 0), some (.int x1), none, none]) (S' := [.int x1, .ref (M.2.2 0)]) (M' := M) okX8_singles rfl ?_
  obtain ⟨r2, e3, h⟩ := gB0_ok h
  refine go_call1 ocX8_singles rfl rfl c1 rfl (SX7_hasYear (M.2.2 0) x1 M c1 e3) (Nat.lt_of_lt_of_le (by decide) hd) ?_
  refine go_br okX8_singles rfl (fun hp => ?_) (fun hp => ?_)
  · have h := gq_pos hp h
    refine go_rn 1 (pc' := 13) (L' := [some (.ref 0), some (.int x1), none, none]) (S' := [.int (-2 : Int32)]) (M' := M) okX8_singles rfl ?_
    exact go_iret (reX8_singles _ (by decide)) rfl (k0 (-2 : Int32) M h)
  · have h := gq_neg hp h
    refine go_rn 1 (pc' := 15) (L' := [some (.ref 0), some (.int x1), none, none]) (S' := [.ref 0]) (M' := M) okX8_singles rfl ?_
    obtain ⟨M4, e5, h⟩ := gB0_ok h
    refine go_call1 ocX8_singles rfl rfl (gOb_c rfl) rfl (SX8_liveAsNow M e5) (Nat.lt_of_lt_of_le (by decide) hd) ?_
    refine go_rn 4 (pc' := 22) (L' := [some (.ref 0), some (.int x1), some (.int (0 : Int32)), some (.int (0 : Int32))]) (S' := []) (M' := M4) okX8_singles rfl ?_
    exact go_wk (CX8_singles_22h hd x1 (0 : Int32) (0 : Int32) M4 P k0 h) ⟨rfl, rfl, rfl, rfl, True.intro⟩
def fX8_singles (a1 : Int32) (M : gMem) : Option (Int32 × gMem) := fX8_singles_0 a1 M
theorem SX8_singles {G : gG} (a1 : Int32) (M : gMem) {r : Int32} {N : gMem} (h : fX8_singles a1 M = some (r, N)) : gRun G YX8_singles 6 [.ref 0, .int a1] M (fun r' N' => r' = some (.int r) ∧ N' = N) := gRun_in (by decide +kernel) rfl (fun d hd => go_wk (CX8_singles_0 hd a1 M (fun p => p = (r, N)) (fun r N hh => by cases hh; exact ⟨rfl, rfl⟩) (gq_of h)) ⟨rfl, rfl, True.intro⟩)
def fX8_total_0 (x1 : Int32) (M : gMem) : Option (Int32 × gMem) :=
  if gOb 7 (M.2.2 0) = true then gB0 (fX7_hasYear (M.2.2 0) x1 M) (fun r2 => if r2 = 0 then some ((-10000 : Int32), M) else gB0 (fX8_liveAsNow M) (fun M4 => if gOb 7 (M4.2.2 0) = true then gB0 (fX8_allOf (M4.1 (M4.2.2 0) 5) M4) (fun r7 => if gIx 1 20 x1 = true then gB0 (fX2_worthOf (r7 &&& ((M4.1 20 (Int32.toNatClampNeg x1)) ^^^ (-1 : Int32))) x1 M4) (fun r10 => some (r10, M4)) else none) else none)) else none
set_option maxRecDepth 100000 in
theorem CX8_total_0 {G : gG} {d : Nat} {Z : Option Value → gMem → Prop} (hd : 6 ≤ d) (x1 : Int32) (M : gMem) (P : Int32 × gMem → Prop) (k0 : ∀ (r : Int32) (N : gMem), P (r, N) → Z (some (.int r)) N) (h : gOKq (fX8_total_0 x1 M) P) : gGo G YX8_total d Z 0 [some (.ref 0), some (.int x1)] [] M := by
  unfold fX8_total_0 at h
  refine go_rn 1 (pc' := 1) (L' := [some (.ref 0), some (.int x1)]) (S' := [.ref 0]) (M' := M) okX8_total rfl ?_
  refine go_ck okX8_total rfl (gOb_c rfl) ?_
  obtain ⟨c1, h⟩ := gq_if h
  refine go_rn 1 (pc' := 5) (L' := [some (.ref 0), some (.int x1)]) (S' := [.int x1, .ref (M.2.2 0)]) (M' := M) okX8_total rfl ?_
  obtain ⟨r2, e3, h⟩ := gB0_ok h
  refine go_call1 ocX8_total rfl rfl c1 rfl (SX7_hasYear (M.2.2 0) x1 M c1 e3) (Nat.lt_of_lt_of_le (by decide) hd) ?_
  refine go_br okX8_total rfl (fun hp => ?_) (fun hp => ?_)
  · have h := gq_pos hp h
    refine go_rn 1 (pc' := 14) (L' := [some (.ref 0), some (.int x1)]) (S' := [.int (-10000 : Int32)]) (M' := M) okX8_total rfl ?_
    exact go_iret (reX8_total _ (by decide)) rfl (k0 (-10000 : Int32) M h)
  · have h := gq_neg hp h
    refine go_rn 1 (pc' := 16) (L' := [some (.ref 0), some (.int x1)]) (S' := [.ref 0]) (M' := M) okX8_total rfl ?_
    obtain ⟨M4, e5, h⟩ := gB0_ok h
    refine go_call1 ocX8_total rfl rfl (gOb_c rfl) rfl (SX8_liveAsNow M e5) (Nat.lt_of_lt_of_le (by decide) hd) ?_
    refine go_rn 1 (pc' := 20) (L' := [some (.ref 0), some (.int x1)]) (S' := [.ref 0]) (M' := M4) okX8_total rfl ?_
    refine go_ck okX8_total rfl (gOb_c rfl) ?_
    refine go_rn 1 (pc' := 24) (L' := [some (.ref 0), some (.int x1)]) (S' := [.ref 0, .ref 14]) (M' := M4) okX8_total rfl ?_
    refine go_ck okX8_total rfl (gOb_c rfl) ?_
    obtain ⟨c6, h⟩ := gq_if h
    refine go_ck okX8_total rfl c6 ?_
    obtain ⟨r7, e8, h⟩ := gB0_ok h
    refine go_call1 ocX8_total rfl rfl rfl rfl (SX8_allOf (M4.1 (M4.2.2 0) 5) M4 e8) (Nat.lt_of_lt_of_le (by decide) hd) ?_
    refine go_rn 1 (pc' := 34) (L' := [some (.ref 0), some (.int x1)]) (S' := [.ref 0, .int r7, .ref 14]) (M' := M4) okX8_total rfl ?_
    refine go_ck okX8_total rfl (gOb_c rfl) ?_
    refine go_ck okX8_total rfl (gOb_c rfl) ?_
    refine go_rn 1 (pc' := 41) (L' := [some (.ref 0), some (.int x1)]) (S' := [.int x1, .ref 20, .int r7, .ref 14]) (M' := M4) okX8_total rfl ?_
    obtain ⟨c9, h⟩ := gq_if h
    refine go_ck okX8_total rfl c9 ?_
    refine go_rn 4 (pc' := 46) (L' := [some (.ref 0), some (.int x1)]) (S' := [.int x1, .int (r7 &&& ((M4.1 20 (Int32.toNatClampNeg x1)) ^^^ (-1 : Int32))), .ref 14]) (M' := M4) okX8_total rfl ?_
    obtain ⟨r10, e11, h⟩ := gB0_ok h
    refine go_call1 ocX8_total rfl rfl (gOb_c rfl) rfl (SX2_worthOf (r7 &&& ((M4.1 20 (Int32.toNatClampNeg x1)) ^^^ (-1 : Int32))) x1 M4 e11) (Nat.lt_of_lt_of_le (by decide) hd) ?_
    exact go_iret (reX8_total _ (by decide)) rfl (k0 r10 M4 h)
def fX8_total (a1 : Int32) (M : gMem) : Option (Int32 × gMem) := fX8_total_0 a1 M
theorem SX8_total {G : gG} (a1 : Int32) (M : gMem) {r : Int32} {N : gMem} (h : fX8_total a1 M = some (r, N)) : gRun G YX8_total 6 [.ref 0, .int a1] M (fun r' N' => r' = some (.int r) ∧ N' = N) := gRun_in (by decide +kernel) rfl (fun d hd => go_wk (CX8_total_0 hd a1 M (fun p => p = (r, N)) (fun r N hh => by cases hh; exact ⟨rfl, rfl⟩) (gq_of h)) ⟨rfl, rfl, True.intro⟩)
def fX8_best_0 (x1 : Int32) (M : gMem) : Option (Int32) :=
  if gOb 7 (M.2.2 0) = true then gB0 (fX7_hasDoor (M.2.2 0) x1 M) (fun r2 => if r2 = 0 then some (-2 : Int32) else if gOb 7 (M.2.2 0) = true then if gOb 7 (M.2.2 0) = true then gB0 (fX1_bestSet (M.2.2 0) x1 M) (fun r6 => gB0 (fX7_toldWorth (M.2.2 0) r6 M) (fun r8 => some r8)) else none else none) else none
set_option maxRecDepth 100000 in
theorem CX8_best_0 {G : gG} {d : Nat} {Z : Option Value → gMem → Prop} (hd : 5 ≤ d) (x1 : Int32) (M : gMem) (P : Int32 → Prop) (k0 : ∀ (r : Int32), P r → Z (some (.int r)) M) (h : gOKq (fX8_best_0 x1 M) P) : gGo G YX8_best d Z 0 [some (.ref 0), some (.int x1)] [] M := by
  unfold fX8_best_0 at h
  refine go_rn 1 (pc' := 1) (L' := [some (.ref 0), some (.int x1)]) (S' := [.ref 0]) (M' := M) okX8_best rfl ?_
  refine go_ck okX8_best rfl (gOb_c rfl) ?_
  obtain ⟨c1, h⟩ := gq_if h
  refine go_rn 1 (pc' := 5) (L' := [some (.ref 0), some (.int x1)]) (S' := [.int x1, .ref (M.2.2 0)]) (M' := M) okX8_best rfl ?_
  obtain ⟨r2, e3, h⟩ := gB0_ok h
  refine go_call1 ocX8_best rfl rfl c1 rfl (SX7_hasDoor (M.2.2 0) x1 M c1 e3) (Nat.lt_of_lt_of_le (by decide) hd) ?_
  refine go_br okX8_best rfl (fun hp => ?_) (fun hp => ?_)
  · have h := gq_pos hp h
    refine go_rn 1 (pc' := 13) (L' := [some (.ref 0), some (.int x1)]) (S' := [.int (-2 : Int32)]) (M' := M) okX8_best rfl ?_
    exact go_iret (reX8_best _ (by decide)) rfl (k0 (-2 : Int32) h)
  · have h := gq_neg hp h
    refine go_rn 1 (pc' := 15) (L' := [some (.ref 0), some (.int x1)]) (S' := [.ref 0]) (M' := M) okX8_best rfl ?_
    refine go_ck okX8_best rfl (gOb_c rfl) ?_
    obtain ⟨c4, h⟩ := gq_if h
    refine go_rn 1 (pc' := 19) (L' := [some (.ref 0), some (.int x1)]) (S' := [.ref 0, .ref (M.2.2 0)]) (M' := M) okX8_best rfl ?_
    refine go_ck okX8_best rfl (gOb_c rfl) ?_
    obtain ⟨c5, h⟩ := gq_if h
    refine go_rn 1 (pc' := 23) (L' := [some (.ref 0), some (.int x1)]) (S' := [.int x1, .ref (M.2.2 0), .ref (M.2.2 0)]) (M' := M) okX8_best rfl ?_
    obtain ⟨r6, e7, h⟩ := gB0_ok h
    refine go_call1 ocX8_best rfl rfl rfl rfl (SX1_bestSet (M.2.2 0) x1 M c5 e7) (Nat.lt_of_lt_of_le (by decide) hd) ?_
    obtain ⟨r8, e9, h⟩ := gB0_ok h
    refine go_call1 ocX8_best rfl rfl c4 rfl (SX7_toldWorth (M.2.2 0) r6 M c4 e9) (Nat.lt_of_lt_of_le (by decide) hd) ?_
    exact go_iret (reX8_best _ (by decide)) rfl (k0 r8 h)
def fX8_best (a1 : Int32) (M : gMem) : Option (Int32) := fX8_best_0 a1 M
theorem SX8_best {G : gG} (a1 : Int32) (M : gMem) {r : Int32} (h : fX8_best a1 M = some r) : gRun G YX8_best 5 [.ref 0, .int a1] M (fun r' N' => r' = some (.int r) ∧ N' = M) := gRun_in (by decide +kernel) rfl (fun d hd => go_wk (CX8_best_0 hd a1 M (fun p => p = r) (fun r hh => ⟨congrArg (fun z => some (Value.int z)) hh, rfl⟩) (gq_of h)) ⟨rfl, rfl, True.intro⟩)
def fX8_bests_0 (x1 : Int32) (M : gMem) : Option (Int32) :=
  if gOb 7 (M.2.2 0) = true then gB0 (fX7_hasDoor (M.2.2 0) x1 M) (fun r2 => if r2 = 0 then some (-2 : Int32) else if gOb 7 (M.2.2 0) = true then gB0 (fX1_bestSet (M.2.2 0) x1 M) (fun r5 => some r5) else none) else none
set_option maxRecDepth 100000 in
theorem CX8_bests_0 {G : gG} {d : Nat} {Z : Option Value → gMem → Prop} (hd : 5 ≤ d) (x1 : Int32) (M : gMem) (P : Int32 → Prop) (k0 : ∀ (r : Int32), P r → Z (some (.int r)) M) (h : gOKq (fX8_bests_0 x1 M) P) : gGo G YX8_bests d Z 0 [some (.ref 0), some (.int x1)] [] M := by
  unfold fX8_bests_0 at h
  refine go_rn 1 (pc' := 1) (L' := [some (.ref 0), some (.int x1)]) (S' := [.ref 0]) (M' := M) okX8_bests rfl ?_
  refine go_ck okX8_bests rfl (gOb_c rfl) ?_
  obtain ⟨c1, h⟩ := gq_if h
  refine go_rn 1 (pc' := 5) (L' := [some (.ref 0), some (.int x1)]) (S' := [.int x1, .ref (M.2.2 0)]) (M' := M) okX8_bests rfl ?_
  obtain ⟨r2, e3, h⟩ := gB0_ok h
  refine go_call1 ocX8_bests rfl rfl c1 rfl (SX7_hasDoor (M.2.2 0) x1 M c1 e3) (Nat.lt_of_lt_of_le (by decide) hd) ?_
  refine go_br okX8_bests rfl (fun hp => ?_) (fun hp => ?_)
  · have h := gq_pos hp h
    refine go_rn 1 (pc' := 13) (L' := [some (.ref 0), some (.int x1)]) (S' := [.int (-2 : Int32)]) (M' := M) okX8_bests rfl ?_
    exact go_iret (reX8_bests _ (by decide)) rfl (k0 (-2 : Int32) h)
  · have h := gq_neg hp h
    refine go_rn 1 (pc' := 15) (L' := [some (.ref 0), some (.int x1)]) (S' := [.ref 0]) (M' := M) okX8_bests rfl ?_
    refine go_ck okX8_bests rfl (gOb_c rfl) ?_
    obtain ⟨c4, h⟩ := gq_if h
    refine go_rn 1 (pc' := 19) (L' := [some (.ref 0), some (.int x1)]) (S' := [.int x1, .ref (M.2.2 0)]) (M' := M) okX8_bests rfl ?_
    obtain ⟨r5, e6, h⟩ := gB0_ok h
    refine go_call1 ocX8_bests rfl rfl rfl rfl (SX1_bestSet (M.2.2 0) x1 M c4 e6) (Nat.lt_of_lt_of_le (by decide) hd) ?_
    exact go_iret (reX8_bests _ (by decide)) rfl (k0 r5 h)
def fX8_bests (a1 : Int32) (M : gMem) : Option (Int32) := fX8_bests_0 a1 M
theorem SX8_bests {G : gG} (a1 : Int32) (M : gMem) {r : Int32} (h : fX8_bests a1 M = some r) : gRun G YX8_bests 5 [.ref 0, .int a1] M (fun r' N' => r' = some (.int r) ∧ N' = M) := gRun_in (by decide +kernel) rfl (fun d hd => go_wk (CX8_bests_0 hd a1 M (fun p => p = r) (fun r hh => ⟨congrArg (fun z => some (Value.int z)) hh, rfl⟩) (gq_of h)) ⟨rfl, rfl, True.intro⟩)
def fX8_sets_0 (x1 : Int32) (M : gMem) : Option (Int32 × gMem) :=
  if gOb 7 (M.2.2 0) = true then gB0 (fX7_hasDoor (M.2.2 0) x1 M) (fun r2 => if r2 = 0 then some ((-2 : Int32), M) else if gOb 7 (M.2.2 0) = true then gB0 (fX1_part (M.2.2 0) x1 M) (fun M5 => if gOb 7 (M5.2.2 0) = true then gB0 (fX8_allOf (M5.1 (M5.2.2 0) 5) M5) (fun r8 => if gIx 1 62 r8 = true then some ((M5.1 62 (Int32.toNatClampNeg r8)), M5) else none) else none) else none) else none
set_option maxRecDepth 100000 in
theorem CX8_sets_0 {G : gG} {d : Nat} {Z : Option Value → gMem → Prop} (hd : 4 ≤ d) (x1 : Int32) (M : gMem) (P : Int32 × gMem → Prop) (k0 : ∀ (r : Int32) (N : gMem), P (r, N) → Z (some (.int r)) N) (h : gOKq (fX8_sets_0 x1 M) P) : gGo G YX8_sets d Z 0 [some (.ref 0), some (.int x1)] [] M := by
  unfold fX8_sets_0 at h
  refine go_rn 1 (pc' := 1) (L' := [some (.ref 0), some (.int x1)]) (S' := [.ref 0]) (M' := M) okX8_sets rfl ?_
  refine go_ck okX8_sets rfl (gOb_c rfl) ?_
  obtain ⟨c1, h⟩ := gq_if h
  refine go_rn 1 (pc' := 5) (L' := [some (.ref 0), some (.int x1)]) (S' := [.int x1, .ref (M.2.2 0)]) (M' := M) okX8_sets rfl ?_
  obtain ⟨r2, e3, h⟩ := gB0_ok h
  refine go_call1 ocX8_sets rfl rfl c1 rfl (SX7_hasDoor (M.2.2 0) x1 M c1 e3) (Nat.lt_of_lt_of_le (by decide) hd) ?_
  refine go_br okX8_sets rfl (fun hp => ?_) (fun hp => ?_)
  · have h := gq_pos hp h
    refine go_rn 1 (pc' := 13) (L' := [some (.ref 0), some (.int x1)]) (S' := [.int (-2 : Int32)]) (M' := M) okX8_sets rfl ?_
    exact go_iret (reX8_sets _ (by decide)) rfl (k0 (-2 : Int32) M h)
  · have h := gq_neg hp h
    refine go_rn 1 (pc' := 15) (L' := [some (.ref 0), some (.int x1)]) (S' := [.ref 0]) (M' := M) okX8_sets rfl ?_
    refine go_ck okX8_sets rfl (gOb_c rfl) ?_
    refine go_rn 1 (pc' := 19) (L' := [some (.ref 0), some (.int x1)]) (S' := [.ref 0, .ref 61]) (M' := M) okX8_sets rfl ?_
    refine go_ck okX8_sets rfl (gOb_c rfl) ?_
    obtain ⟨c4, h⟩ := gq_if h
    refine go_rn 1 (pc' := 23) (L' := [some (.ref 0), some (.int x1)]) (S' := [.int x1, .ref (M.2.2 0), .ref 61]) (M' := M) okX8_sets rfl ?_
    obtain ⟨M5, e6, h⟩ := gB0_ok h
    refine go_call1 ocX8_sets rfl rfl (gOb_c rfl) rfl (SX1_part (M.2.2 0) x1 M c4 e6) (Nat.lt_of_lt_of_le (by decide) hd) ?_
    refine go_rn 1 (pc' := 27) (L' := [some (.ref 0), some (.int x1)]) (S' := [.ref 0]) (M' := M5) okX8_sets rfl ?_
    refine go_ck okX8_sets rfl (gOb_c rfl) ?_
    refine go_ck okX8_sets rfl (gOb_c rfl) ?_
    refine go_rn 1 (pc' := 34) (L' := [some (.ref 0), some (.int x1)]) (S' := [.ref 0, .ref 62]) (M' := M5) okX8_sets rfl ?_
    refine go_ck okX8_sets rfl (gOb_c rfl) ?_
    obtain ⟨c7, h⟩ := gq_if h
    refine go_ck okX8_sets rfl c7 ?_
    obtain ⟨r8, e9, h⟩ := gB0_ok h
    refine go_call1 ocX8_sets rfl rfl rfl rfl (SX8_allOf (M5.1 (M5.2.2 0) 5) M5 e9) (Nat.lt_of_lt_of_le (by decide) hd) ?_
    obtain ⟨c10, h⟩ := gq_if h
    refine go_ck okX8_sets rfl c10 ?_
    exact go_iret (reX8_sets _ (by decide)) rfl (k0 (M5.1 62 (Int32.toNatClampNeg r8)) M5 h)
def fX8_sets (a1 : Int32) (M : gMem) : Option (Int32 × gMem) := fX8_sets_0 a1 M
theorem SX8_sets {G : gG} (a1 : Int32) (M : gMem) {r : Int32} {N : gMem} (h : fX8_sets a1 M = some (r, N)) : gRun G YX8_sets 4 [.ref 0, .int a1] M (fun r' N' => r' = some (.int r) ∧ N' = N) := gRun_in (by decide +kernel) rfl (fun d hd => go_wk (CX8_sets_0 hd a1 M (fun p => p = (r, N)) (fun r N hh => by cases hh; exact ⟨rfl, rfl⟩) (gq_of h)) ⟨rfl, rfl, True.intro⟩)
def fX8_ways_0 (x1 : Int32) (M : gMem) : Option (Int32 × gMem) :=
  if gOb 7 (M.2.2 0) = true then gB0 (fX7_hasDoor (M.2.2 0) x1 M) (fun r2 => if r2 = 0 then some ((-2 : Int32), M) else if gOb 7 (M.2.2 0) = true then gB0 (fX1_part (M.2.2 0) x1 M) (fun M5 => if gOb 7 (M5.2.2 0) = true then gB0 (fX8_allOf (M5.1 (M5.2.2 0) 5) M5) (fun r8 => if gIx 1 62 r8 = true then if (M5.1 62 (Int32.toNatClampNeg r8)) = (-1 : Int32) then some ((-1 : Int32), M5) else if gIx 1 63 r8 = true then some ((M5.1 63 (Int32.toNatClampNeg r8)), M5) else none else none) else none) else none) else none
set_option maxRecDepth 100000 in
theorem CX8_ways_0 {G : gG} {d : Nat} {Z : Option Value → gMem → Prop} (hd : 4 ≤ d) (x1 : Int32) (M : gMem) (P : Int32 × gMem → Prop) (k0 : ∀ (r : Int32) (N : gMem), P (r, N) → Z (some (.int r)) N) (h : gOKq (fX8_ways_0 x1 M) P) : gGo G YX8_ways d Z 0 [some (.ref 0), some (.int x1), none] [] M := by
  unfold fX8_ways_0 at h
  refine go_rn 1 (pc' := 1) (L' := [some (.ref 0), some (.int x1), none]) (S' := [.ref 0]) (M' := M) okX8_ways rfl ?_
  refine go_ck okX8_ways rfl (gOb_c rfl) ?_
  obtain ⟨c1, h⟩ := gq_if h
  refine go_rn 1 (pc' := 5) (L' := [some (.ref 0), some (.int x1), none]) (S' := [.int x1, .ref (M.2.2 0)]) (M' := M) okX8_ways rfl ?_
  obtain ⟨r2, e3, h⟩ := gB0_ok h
  refine go_call1 ocX8_ways rfl rfl c1 rfl (SX7_hasDoor (M.2.2 0) x1 M c1 e3) (Nat.lt_of_lt_of_le (by decide) hd) ?_
  refine go_br okX8_ways rfl (fun hp => ?_) (fun hp => ?_)
  · have h := gq_pos hp h
    refine go_rn 1 (pc' := 13) (L' := [some (.ref 0), some (.int x1), none]) (S' := [.int (-2 : Int32)]) (M' := M) okX8_ways rfl ?_
    exact go_iret (reX8_ways _ (by decide)) rfl (k0 (-2 : Int32) M h)
  · have h := gq_neg hp h
    refine go_rn 1 (pc' := 15) (L' := [some (.ref 0), some (.int x1), none]) (S' := [.ref 0]) (M' := M) okX8_ways rfl ?_
    refine go_ck okX8_ways rfl (gOb_c rfl) ?_
    refine go_rn 1 (pc' := 19) (L' := [some (.ref 0), some (.int x1), none]) (S' := [.ref 0, .ref 61]) (M' := M) okX8_ways rfl ?_
    refine go_ck okX8_ways rfl (gOb_c rfl) ?_
    obtain ⟨c4, h⟩ := gq_if h
    refine go_rn 1 (pc' := 23) (L' := [some (.ref 0), some (.int x1), none]) (S' := [.int x1, .ref (M.2.2 0), .ref 61]) (M' := M) okX8_ways rfl ?_
    obtain ⟨M5, e6, h⟩ := gB0_ok h
    refine go_call1 ocX8_ways rfl rfl (gOb_c rfl) rfl (SX1_part (M.2.2 0) x1 M c4 e6) (Nat.lt_of_lt_of_le (by decide) hd) ?_
    refine go_rn 1 (pc' := 27) (L' := [some (.ref 0), some (.int x1), none]) (S' := [.ref 0]) (M' := M5) okX8_ways rfl ?_
    refine go_ck okX8_ways rfl (gOb_c rfl) ?_
    obtain ⟨c7, h⟩ := gq_if h
    refine go_ck okX8_ways rfl c7 ?_
    obtain ⟨r8, e9, h⟩ := gB0_ok h
    refine go_call1 ocX8_ways rfl rfl rfl rfl (SX8_allOf (M5.1 (M5.2.2 0) 5) M5 e9) (Nat.lt_of_lt_of_le (by decide) hd) ?_
    refine go_rn 2 (pc' := 38) (L' := [some (.ref 0), some (.int x1), some (.int r8)]) (S' := [.ref 0]) (M' := M5) okX8_ways rfl ?_
    refine go_ck okX8_ways rfl (gOb_c rfl) ?_
    refine go_ck okX8_ways rfl (gOb_c rfl) ?_
    refine go_rn 1 (pc' := 45) (L' := [some (.ref 0), some (.int x1), some (.int r8)]) (S' := [.int r8, .ref 62]) (M' := M5) okX8_ways rfl ?_
    obtain ⟨c10, h⟩ := gq_if h
    refine go_ck okX8_ways rfl c10 ?_
    refine go_rn 1 (pc' := 47) (L' := [some (.ref 0), some (.int x1), some (.int r8)]) (S' := [.int (-1 : Int32), .int (M5.1 62 (Int32.toNatClampNeg r8))]) (M' := M5) okX8_ways rfl ?_
    refine go_br okX8_ways rfl (fun hp => ?_) (fun hp => ?_)
    · have h := gq_pos hp h
      refine go_rn 2 (pc' := 63) (L' := [some (.ref 0), some (.int x1), some (.int r8)]) (S' := [.int (-1 : Int32)]) (M' := M5) okX8_ways rfl ?_
      exact go_iret (reX8_ways _ (by decide)) rfl (k0 (-1 : Int32) M5 h)
    · have h := gq_neg hp h
      refine go_rn 1 (pc' := 55) (L' := [some (.ref 0), some (.int x1), some (.int r8)]) (S' := [.ref 0]) (M' := M5) okX8_ways rfl ?_
      refine go_ck okX8_ways rfl (gOb_c rfl) ?_
      refine go_ck okX8_ways rfl (gOb_c rfl) ?_
      refine go_rn 1 (pc' := 62) (L' := [some (.ref 0), some (.int x1), some (.int r8)]) (S' := [.int r8, .ref 63]) (M' := M5) okX8_ways rfl ?_
      obtain ⟨c11, h⟩ := gq_if h
      refine go_ck okX8_ways rfl c11 ?_
      exact go_iret (reX8_ways _ (by decide)) rfl (k0 (M5.1 63 (Int32.toNatClampNeg r8)) M5 h)
def fX8_ways (a1 : Int32) (M : gMem) : Option (Int32 × gMem) := fX8_ways_0 a1 M
theorem SX8_ways {G : gG} (a1 : Int32) (M : gMem) {r : Int32} {N : gMem} (h : fX8_ways a1 M = some (r, N)) : gRun G YX8_ways 4 [.ref 0, .int a1] M (fun r' N' => r' = some (.int r) ∧ N' = N) := gRun_in (by decide +kernel) rfl (fun d hd => go_wk (CX8_ways_0 hd a1 M (fun p => p = (r, N)) (fun r N hh => by cases hh; exact ⟨rfl, rfl⟩) (gq_of h)) ⟨rfl, rfl, True.intro⟩)
def fX8_isEither_0 (x0 : Int32) (M : gMem) : Option (Int32) :=
  if x0 = 0 then some (1 : Int32) else if x0 = (1 : Int32) then some (1 : Int32) else some (0 : Int32)
set_option maxRecDepth 100000 in
theorem CX8_isEither_0 {G : gG} {d : Nat} {Z : Option Value → gMem → Prop} (hd : 0 ≤ d) (x0 : Int32) (M : gMem) (P : Int32 → Prop) (k0 : ∀ (r : Int32), P r → Z (some (.int r)) M) (h : gOKq (fX8_isEither_0 x0 M) P) : gGo G YX8_isEither d Z 0 [some (.int x0)] [] M := by
  unfold fX8_isEither_0 at h
  refine go_rn 1 (pc' := 1) (L' := [some (.int x0)]) (S' := [.int x0]) (M' := M) okX8_isEither rfl ?_
  refine go_br okX8_isEither rfl (fun hp => ?_) (fun hp => ?_)
  · have h := gq_pos hp h
    refine go_rn 2 (pc' := 14) (L' := [some (.int x0)]) (S' := [.int (1 : Int32)]) (M' := M) okX8_isEither rfl ?_
    exact go_zret (reX8_isEither _ (by decide)) rfl (Or.inr rfl) (k0 (1 : Int32) h)
  · have h := gq_neg hp h
    refine go_rn 2 (pc' := 6) (L' := [some (.int x0)]) (S' := [.int (1 : Int32), .int x0]) (M' := M) okX8_isEither rfl ?_
    refine go_br okX8_isEither rfl (fun hp => ?_) (fun hp => ?_)
    · have h := gq_pos hp h
      refine go_rn 2 (pc' := 14) (L' := [some (.int x0)]) (S' := [.int (1 : Int32)]) (M' := M) okX8_isEither rfl ?_
      exact go_zret (reX8_isEither _ (by decide)) rfl (Or.inr rfl) (k0 (1 : Int32) h)
    · have h := gq_neg hp h
      refine go_rn 1 (pc' := 14) (L' := [some (.int x0)]) (S' := [.int (0 : Int32)]) (M' := M) okX8_isEither rfl ?_
      exact go_zret (reX8_isEither _ (by decide)) rfl (Or.inl rfl) (k0 (0 : Int32) h)
def fX8_isEither (a0 : Int32) (M : gMem) : Option (Int32) := fX8_isEither_0 a0 M
theorem SX8_isEither {G : gG} (a0 : Int32) (M : gMem) {r : Int32} (h : fX8_isEither a0 M = some r) : gRun G YX8_isEither 0 [.int a0] M (fun r' N' => r' = some (.int r) ∧ N' = M) := gRun_in (by decide +kernel) rfl (fun d hd => go_wk (CX8_isEither_0 hd a0 M (fun p => p = r) (fun r hh => ⟨congrArg (fun z => some (Value.int z)) hh, rfl⟩) (gq_of h)) ⟨rfl, True.intro⟩)
def fX8_commonDivisor_9 (x4 : Int64) (x6 : Int64) (x8 : Int32) (M : gMem) : Option (Sum (Int64 × Int64 × Int32) (Int64)) :=
  if (1000 : Int32) ≤ x8 then some (.inr x4) else if (lg_cmp x6 (0 : Int64)) = 0 then some (.inr x4) else if x6 = 0 then none else some (.inl (x6, (x4 - x4 / x6 * x6), (x8 + 1)))
set_option maxRecDepth 100000 in
theorem CX8_commonDivisor_9 {G : gG} {d : Nat} {Z : Option Value → gMem → Prop} (hd : 0 ≤ d) (x4 : Int64) (x6 : Int64) (x8 : Int32) (M : gMem) (P : Sum (Int64 × Int64 × Int32) (Int64) → Prop) (k0 : ∀ (r : Int64), P (.inr r) → Z (some (.long r)) M) (k1 : ∀ (x4 : Int64) (x6 : Int64) (x8 : Int32), P (.inl (x4, x6, x8)) → gGo G YX8_commonDivisor d Z 9 [none, none, none, none, some (.long x4), none, some (.long x6), none, some (.int x8), none, none] [] M) (h : gOKq (fX8_commonDivisor_9 x4 x6 x8 M) P) : gGo G YX8_commonDivisor d Z 9 [none, none, none, none, some (.long x4), none, some (.long x6), none, some (.int x8), none, none] [] M := by
  unfold fX8_commonDivisor_9 at h
  refine go_rn 2 (pc' := 14) (L' := [none, none, none, none, some (.long x4), none, some (.long x6), none, some (.int x8), none, none]) (S' := [.int (1000 : Int32), .int x8]) (M' := M) okX8_commonDivisor rfl ?_
  refine go_br okX8_commonDivisor rfl (fun hp => ?_) (fun hp => ?_)
  · have h := gq_pos hp h
    refine go_rn 1 (pc' := 47) (L' := [none, none, none, none, some (.long x4), none, some (.long x6), none, some (.int x8), none, none]) (S' := [.long x4]) (M' := M) okX8_commonDivisor rfl ?_
    exact go_lret (reX8_commonDivisor _ (by decide)) rfl (k0 x4 h)
  · have h := gq_neg hp h
    refine go_rn 3 (pc' := 21) (L' := [none, none, none, none, some (.long x4), none, some (.long x6), none, some (.int x8), none, none]) (S' := [.int (lg_cmp x6 (0 : Int64))]) (M' := M) okX8_commonDivisor rfl ?_
    refine go_br okX8_commonDivisor rfl (fun hp => ?_) (fun hp => ?_)
    · have h := gq_pos hp h
      refine go_rn 1 (pc' := 47) (L' := [none, none, none, none, some (.long x4), none, some (.long x6), none, some (.int x8), none, none]) (S' := [.long x4]) (M' := M) okX8_commonDivisor rfl ?_
      exact go_lret (reX8_commonDivisor _ (by decide)) rfl (k0 x4 h)
    · have h := gq_neg hp h
      refine go_rn 2 (pc' := 28) (L' := [none, none, none, none, some (.long x4), none, some (.long x6), none, some (.int x8), none, none]) (S' := [.long x6, .long x4]) (M' := M) okX8_commonDivisor rfl ?_
      obtain ⟨hn, h⟩ := gq_no h
      refine go_nk okX8_commonDivisor rfl hn ?_
      refine go_rn 7 (pc' := 9) (L' := [none, none, none, none, some (.long x6), none, some (.long (x4 - x4 / x6 * x6)), none, some (.int (x8 + 1)), some (.long (x4 - x4 / x6 * x6)), none]) (S' := []) (M' := M) okX8_commonDivisor rfl ?_
      exact go_wk (k1 (x6) ((x4 - x4 / x6 * x6)) ((x8 + 1)) h) ⟨rfl, rfl, rfl, True.intro⟩
def fX8_commonDivisor_9h (x4 : Int64) (x6 : Int64) (x8 : Int32) (M : gMem) : Option (Int64) :=
  gLp (fun s : Int64 × Int64 × Int32 => fX8_commonDivisor_9 (s.1) (s.2.1) (s.2.2) M) gFu (x4, x6, x8)
set_option maxRecDepth 100000 in
theorem CX8_commonDivisor_9h {G : gG} {d : Nat} {Z : Option Value → gMem → Prop} (hd : 0 ≤ d) (x4 : Int64) (x6 : Int64) (x8 : Int32) (M : gMem) (P : Int64 → Prop) (k0 : ∀ (r : Int64), P r → Z (some (.long r)) M) (h : gOKq (fX8_commonDivisor_9h x4 x6 x8 M) P) : gGo G YX8_commonDivisor d Z 9 [none, none, none, none, some (.long x4), none, some (.long x6), none, some (.int x8), none, none] [] M :=
  gLp_go (K := fun s : Int64 × Int64 × Int32 => gGo G YX8_commonDivisor d Z 9 [none, none, none, none, some (.long s.1), none, some (.long s.2.1), none, some (.int s.2.2), none, none] [] M) (P := P) (fun s hs => CX8_commonDivisor_9 hd (s.1) (s.2.1) (s.2.2) M (Sum.elim (fun s : Int64 × Int64 × Int32 => gGo G YX8_commonDivisor d Z 9 [none, none, none, none, some (.long s.1), none, some (.long s.2.1), none, some (.int s.2.2), none, none] [] M) P) k0 (fun x4 x6 x8 hh => hh) hs) gFu (x4, x6, x8) h
def fX8_commonDivisor_0 (x0 : Int64) (x2 : Int64) (M : gMem) : Option (Int64) :=
  fX8_commonDivisor_9h x0 x2 (0 : Int32) M
set_option maxRecDepth 100000 in
theorem CX8_commonDivisor_0 {G : gG} {d : Nat} {Z : Option Value → gMem → Prop} (hd : 0 ≤ d) (x0 : Int64) (x2 : Int64) (M : gMem) (P : Int64 → Prop) (k0 : ∀ (r : Int64), P r → Z (some (.long r)) M) (h : gOKq (fX8_commonDivisor_0 x0 x2 M) P) : gGo G YX8_commonDivisor d Z 0 [some (.long x0), none, some (.long x2), none, none, none, none, none, none, none, none] [] M := by
  unfold fX8_commonDivisor_0 at h
  refine go_rn 6 (pc' := 9) (L' := [some (.long x0), none, some (.long x2), none, some (.long x0), none, some (.long x2), none, some (.int (0 : Int32)), none, none]) (S' := []) (M' := M) okX8_commonDivisor rfl ?_
  exact go_wk (CX8_commonDivisor_9h hd x0 x2 (0 : Int32) M P k0 h) ⟨rfl, rfl, rfl, True.intro⟩
def fX8_commonDivisor (a0 : Int64) (a1 : Int64) (M : gMem) : Option (Int64) := fX8_commonDivisor_0 a0 a1 M
theorem SX8_commonDivisor {G : gG} (a0 : Int64) (a1 : Int64) (M : gMem) {r : Int64} (h : fX8_commonDivisor a0 a1 M = some r) : gRun G YX8_commonDivisor 0 [.long a0, .long a1] M (fun r' N' => r' = some (.long r) ∧ N' = M) := gRun_in (by decide +kernel) rfl (fun d hd => go_wk (CX8_commonDivisor_0 hd a0 a1 M (fun p => p = r) (fun r hh => ⟨congrArg (fun z => some (Value.long z)) hh, rfl⟩) (gq_of h)) ⟨rfl, rfl, True.intro⟩)
def fX8_lowest_0 (x0 : Int64) (x2 : Int64) (x4 : Int32) (M : gMem) : Option (Int32) :=
  gB0 (fX8_commonDivisor (if 0 < x0 then x0 else -x0) x2 M) (fun r1 => if (lg_cmp r1 (0 : Int64)) = 0 then if x4 = 0 then some (0 : Int32) else some (1 : Int32) else if x4 = 0 then if r1 = 0 then none else some (Int64.toInt32 (x0 / r1)) else if r1 = 0 then none else some (Int64.toInt32 (x2 / r1)))
set_option maxRecDepth 100000 in
theorem CX8_lowest_0 {G : gG} {d : Nat} {Z : Option Value → gMem → Prop} (hd : 1 ≤ d) (x0 : Int64) (x2 : Int64) (x4 : Int32) (M : gMem) (P : Int32 → Prop) (k0 : ∀ (r : Int32), P r → Z (some (.int r)) M) (h : gOKq (fX8_lowest_0 x0 x2 x4 M) P) : gGo G YX8_lowest d Z 0 [some (.long x0), none, some (.long x2), none, some (.int x4), none, none] [] M := by
  unfold fX8_lowest_0 at h
  refine go_rn 3 (pc' := 5) (L' := [some (.long x0), none, some (.long x2), none, some (.int x4), none, none]) (S' := [.long x2, .long (if 0 < x0 then x0 else -x0)]) (M' := M) okX8_lowest rfl ?_
  obtain ⟨r1, e2, h⟩ := gB0_ok h
  refine go_call1 ocX8_lowest rfl rfl rfl rfl (SX8_commonDivisor (if 0 < x0 then x0 else -x0) x2 M e2) (Nat.lt_of_lt_of_le (by decide) hd) ?_
  refine go_rn 4 (pc' := 14) (L' := [some (.long x0), none, some (.long x2), none, some (.int x4), some (.long r1), none]) (S' := [.int (lg_cmp r1 (0 : Int64))]) (M' := M) okX8_lowest rfl ?_
  refine go_br okX8_lowest rfl (fun hp => ?_) (fun hp => ?_)
  · have h := gq_pos hp h
    refine go_rn 1 (pc' := 19) (L' := [some (.long x0), none, some (.long x2), none, some (.int x4), some (.long r1), none]) (S' := [.int x4]) (M' := M) okX8_lowest rfl ?_
    refine go_br okX8_lowest rfl (fun hp => ?_) (fun hp => ?_)
    · have h := gq_pos hp h
      refine go_rn 2 (pc' := 27) (L' := [some (.long x0), none, some (.long x2), none, some (.int x4), some (.long r1), none]) (S' := [.int (0 : Int32)]) (M' := M) okX8_lowest rfl ?_
      exact go_iret (reX8_lowest _ (by decide)) rfl (k0 (0 : Int32) h)
    · have h := gq_neg hp h
      refine go_rn 1 (pc' := 27) (L' := [some (.long x0), none, some (.long x2), none, some (.int x4), some (.long r1), none]) (S' := [.int (1 : Int32)]) (M' := M) okX8_lowest rfl ?_
      exact go_iret (reX8_lowest _ (by decide)) rfl (k0 (1 : Int32) h)
  · have h := gq_neg hp h
    refine go_rn 1 (pc' := 30) (L' := [some (.long x0), none, some (.long x2), none, some (.int x4), some (.long r1), none]) (S' := [.int x4]) (M' := M) okX8_lowest rfl ?_
    refine go_br okX8_lowest rfl (fun hp => ?_) (fun hp => ?_)
    · have h := gq_pos hp h
      refine go_rn 3 (pc' := 40) (L' := [some (.long x0), none, some (.long x2), none, some (.int x4), some (.long r1), none]) (S' := [.long r1, .long x0]) (M' := M) okX8_lowest rfl ?_
      obtain ⟨hn, h⟩ := gq_no h
      refine go_nk okX8_lowest rfl hn ?_
      refine go_rn 1 (pc' := 42) (L' := [some (.long x0), none, some (.long x2), none, some (.int x4), some (.long r1), none]) (S' := [.int (Int64.toInt32 (x0 / r1))]) (M' := M) okX8_lowest rfl ?_
      exact go_iret (reX8_lowest _ (by decide)) rfl (k0 (Int64.toInt32 (x0 / r1)) h)
    · have h := gq_neg hp h
      refine go_rn 2 (pc' := 40) (L' := [some (.long x0), none, some (.long x2), none, some (.int x4), some (.long r1), none]) (S' := [.long r1, .long x2]) (M' := M) okX8_lowest rfl ?_
      obtain ⟨hn, h⟩ := gq_no h
      refine go_nk okX8_lowest rfl hn ?_
      refine go_rn 1 (pc' := 42) (L' := [some (.long x0), none, some (.long x2), none, some (.int x4), some (.long r1), none]) (S' := [.int (Int64.toInt32 (x2 / r1))]) (M' := M) okX8_lowest rfl ?_
      exact go_iret (reX8_lowest _ (by decide)) rfl (k0 (Int64.toInt32 (x2 / r1)) h)
def fX8_lowest (a0 : Int64) (a1 : Int64) (a2 : Int32) (M : gMem) : Option (Int32) := fX8_lowest_0 a0 a1 a2 M
theorem SX8_lowest {G : gG} (a0 : Int64) (a1 : Int64) (a2 : Int32) (M : gMem) {r : Int32} (h : fX8_lowest a0 a1 a2 M = some r) : gRun G YX8_lowest 1 [.long a0, .long a1, .int a2] M (fun r' N' => r' = some (.int r) ∧ N' = M) := gRun_in (by decide +kernel) rfl (fun d hd => go_wk (CX8_lowest_0 hd a0 a1 a2 M (fun p => p = r) (fun r hh => ⟨congrArg (fun z => some (Value.int z)) hh, rfl⟩) (gq_of h)) ⟨rfl, rfl, rfl, True.intro⟩)
def fX8_share_0 (x1 : Int32) (x2 : Int32) (x3 : Int32) (M : gMem) : Option (Int32) :=
  if gOb 7 (M.2.2 0) = true then gB0 (fX7_hasPartner (M.2.2 0) x1 M) (fun r2 => if r2 = 0 then some (-2 : Int32) else if gOb 7 (M.2.2 0) = true then gB0 (fX7_hasDoor (M.2.2 0) x2 M) (fun r5 => if r5 = 0 then some (-2 : Int32) else gB0 (fX8_isEither x3 M) (fun r7 => if r7 = 0 then some (-2 : Int32) else if gOb 7 (M.2.2 0) = true then if 0 ≤ Int32.toInt (M.1 (M.2.2 0) 5) ∧ Int32.toInt (M.1 (M.2.2 0) 5) < 7 then if gOb 7 (M.2.2 0) = true then gB0 (fX1_gainOverOrders (M.2.2 0) x1 x2 M) (fun r12 => gB0 (fX8_lowest r12 (Int32.toInt64 (gFac (Int32.toNatClampNeg (M.1 (M.2.2 0) 5)))) x3 M) (fun r14 => some r14)) else none else none else none)) else none) else none
set_option maxRecDepth 100000 in
theorem CX8_share_0 {G : gG} {d : Nat} {Z : Option Value → gMem → Prop} (hd : 5 ≤ d) (x1 : Int32) (x2 : Int32) (x3 : Int32) (M : gMem) (P : Int32 → Prop) (k0 : ∀ (r : Int32), P r → Z (some (.int r)) M) (h : gOKq (fX8_share_0 x1 x2 x3 M) P) : gGo G YX8_share d Z 0 [some (.ref 0), some (.int x1), some (.int x2), some (.int x3), none] [] M := by
  unfold fX8_share_0 at h
  refine go_rn 1 (pc' := 1) (L' := [some (.ref 0), some (.int x1), some (.int x2), some (.int x3), none]) (S' := [.ref 0]) (M' := M) okX8_share rfl ?_
  refine go_ck okX8_share rfl (gOb_c rfl) ?_
  obtain ⟨c1, h⟩ := gq_if h
  refine go_rn 1 (pc' := 5) (L' := [some (.ref 0), some (.int x1), some (.int x2), some (.int x3), none]) (S' := [.int x1, .ref (M.2.2 0)]) (M' := M) okX8_share rfl ?_
  obtain ⟨r2, e3, h⟩ := gB0_ok h
  refine go_call1 ocX8_share rfl rfl c1 rfl (SX7_hasPartner (M.2.2 0) x1 M c1 e3) (Nat.lt_of_lt_of_le (by decide) hd) ?_
  refine go_br okX8_share rfl (fun hp => ?_) (fun hp => ?_)
  · have h := gq_pos hp h
    refine go_rn 1 (pc' := 31) (L' := [some (.ref 0), some (.int x1), some (.int x2), some (.int x3), none]) (S' := [.int (-2 : Int32)]) (M' := M) okX8_share rfl ?_
    exact go_iret (reX8_share _ (by decide)) rfl (k0 (-2 : Int32) h)
  · have h := gq_neg hp h
    refine go_rn 1 (pc' := 12) (L' := [some (.ref 0), some (.int x1), some (.int x2), some (.int x3), none]) (S' := [.ref 0]) (M' := M) okX8_share rfl ?_
    refine go_ck okX8_share rfl (gOb_c rfl) ?_
    obtain ⟨c4, h⟩ := gq_if h
    refine go_rn 1 (pc' := 16) (L' := [some (.ref 0), some (.int x1), some (.int x2), some (.int x3), none]) (S' := [.int x2, .ref (M.2.2 0)]) (M' := M) okX8_share rfl ?_
    obtain ⟨r5, e6, h⟩ := gB0_ok h
    refine go_call1 ocX8_share rfl rfl c4 rfl (SX7_hasDoor (M.2.2 0) x2 M c4 e6) (Nat.lt_of_lt_of_le (by decide) hd) ?_
    refine go_br okX8_share rfl (fun hp => ?_) (fun hp => ?_)
    · have h := gq_pos hp h
      refine go_rn 1 (pc' := 31) (L' := [some (.ref 0), some (.int x1), some (.int x2), some (.int x3), none]) (S' := [.int (-2 : Int32)]) (M' := M) okX8_share rfl ?_
      exact go_iret (reX8_share _ (by decide)) rfl (k0 (-2 : Int32) h)
    · have h := gq_neg hp h
      refine go_rn 1 (pc' := 23) (L' := [some (.ref 0), some (.int x1), some (.int x2), some (.int x3), none]) (S' := [.int x3]) (M' := M) okX8_share rfl ?_
      obtain ⟨r7, e8, h⟩ := gB0_ok h
      refine go_call1 ocX8_share rfl rfl rfl rfl (SX8_isEither x3 M e8) (Nat.lt_of_lt_of_le (by decide) hd) ?_
      refine go_br okX8_share rfl (fun hp => ?_) (fun hp => ?_)
      · have h := gq_pos hp h
        refine go_rn 1 (pc' := 31) (L' := [some (.ref 0), some (.int x1), some (.int x2), some (.int x3), none]) (S' := [.int (-2 : Int32)]) (M' := M) okX8_share rfl ?_
        exact go_iret (reX8_share _ (by decide)) rfl (k0 (-2 : Int32) h)
      · have h := gq_neg hp h
        refine go_rn 2 (pc' := 36) (L' := [some (.ref 0), some (.int x1), some (.int x2), some (.int x3), none]) (S' := [.ref 0, .ref 900]) (M' := M) okX8_share rfl ?_
        refine go_ck okX8_share rfl (gOb_c rfl) ?_
        obtain ⟨c9, h⟩ := gq_if h
        refine go_ck okX8_share rfl c9 ?_
        obtain ⟨c10, h⟩ := gq_if h
        refine go_ck okX8_share rfl ⟨rfl, c10⟩ ?_
        refine go_rn 2 (pc' := 46) (L' := [some (.ref 0), some (.int x1), some (.int x2), some (.int x3), some (.int (gFac (Int32.toNatClampNeg (M.1 (M.2.2 0) 5))))]) (S' := [.ref 0]) (M' := M) okX8_share rfl ?_
        refine go_ck okX8_share rfl (gOb_c rfl) ?_
        obtain ⟨c11, h⟩ := gq_if h
        refine go_rn 2 (pc' := 51) (L' := [some (.ref 0), some (.int x1), some (.int x2), some (.int x3), some (.int (gFac (Int32.toNatClampNeg (M.1 (M.2.2 0) 5))))]) (S' := [.int x2, .int x1, .ref (M.2.2 0)]) (M' := M) okX8_share rfl ?_
        obtain ⟨r12, e13, h⟩ := gB0_ok h
        refine go_call1 ocX8_share rfl rfl rfl rfl (SX1_gainOverOrders (M.2.2 0) x1 x2 M c11 e13) (Nat.lt_of_lt_of_le (by decide) hd) ?_
        refine go_rn 3 (pc' := 58) (L' := [some (.ref 0), some (.int x1), some (.int x2), some (.int x3), some (.int (gFac (Int32.toNatClampNeg (M.1 (M.2.2 0) 5))))]) (S' := [.int x3, .long (Int32.toInt64 (gFac (Int32.toNatClampNeg (M.1 (M.2.2 0) 5)))), .long r12]) (M' := M) okX8_share rfl ?_
        obtain ⟨r14, e15, h⟩ := gB0_ok h
        refine go_call1 ocX8_share rfl rfl rfl rfl (SX8_lowest r12 (Int32.toInt64 (gFac (Int32.toNatClampNeg (M.1 (M.2.2 0) 5)))) x3 M e15) (Nat.lt_of_lt_of_le (by decide) hd) ?_
        exact go_iret (reX8_share _ (by decide)) rfl (k0 r14 h)
def fX8_share (a1 : Int32) (a2 : Int32) (a3 : Int32) (M : gMem) : Option (Int32) := fX8_share_0 a1 a2 a3 M
theorem SX8_share {G : gG} (a1 : Int32) (a2 : Int32) (a3 : Int32) (M : gMem) {r : Int32} (h : fX8_share a1 a2 a3 M = some r) : gRun G YX8_share 5 [.ref 0, .int a1, .int a2, .int a3] M (fun r' N' => r' = some (.int r) ∧ N' = M) := gRun_in (by decide +kernel) rfl (fun d hd => go_wk (CX8_share_0 hd a1 a2 a3 M (fun p => p = r) (fun r hh => ⟨congrArg (fun z => some (Value.int z)) hh, rfl⟩) (gq_of h)) ⟨rfl, rfl, rfl, rfl, True.intro⟩)
def fX8_refusalOfGifts_0 (x2 : Int32) (M : gMem) : Option (Int32) :=
  some (-2 : Int32)
set_option maxRecDepth 100000 in
theorem CX8_refusalOfGifts_0 {G : gG} {d : Nat} {Z : Option Value → gMem → Prop} (hd : 1 ≤ d) (x2 : Int32) (M : gMem) (P : Int32 → Prop) (k0 : ∀ (r : Int32), P r → Z (some (.int r)) M) (h : gOKq (fX8_refusalOfGifts_0 x2 M) P) : gGo G YX8_refusalOfGifts d Z 0 [some (.ref 0), some (.null), some (.int x2)] [] M := by
  unfold fX8_refusalOfGifts_0 at h
  refine go_rn 3 (pc' := 17) (L' := [some (.ref 0), some (.null), some (.int x2)]) (S' := [.int (-2 : Int32)]) (M' := M) okX8_refusalOfGifts rfl ?_
  exact go_iret (reX8_refusalOfGifts _ (by decide)) rfl (k0 (-2 : Int32) h)
def fX8_refusalOfGifts_0a (x1 : Nat) (x2 : Int32) (M : gMem) : Option (Int32) :=
  if gOb 7 (M.2.2 0) = true then gB0 (fX7_hasDoor (M.2.2 0) x2 M) (fun r2 => if r2 = 0 then some (-2 : Int32) else gB0 (fX4_isThere x1 M) (fun r4 => if r4 = 0 then some (-6 : Int32) else if gOb 7 (M.2.2 0) = true then if (M.1 x1 2) = (M.1 (M.2.2 0) 5) then some (0 : Int32) else some (-2 : Int32) else none)) else none
set_option maxRecDepth 100000 in
theorem CX8_refusalOfGifts_0a {G : gG} {d : Nat} {Z : Option Value → gMem → Prop} (hd : 1 ≤ d) (x1 : Nat) (x2 : Int32) (M : gMem) (o_x1 : gOb 4 x1 = true) (P : Int32 → Prop) (k0 : ∀ (r : Int32), P r → Z (some (.int r)) M) (h : gOKq (fX8_refusalOfGifts_0a x1 x2 M) P) : gGo G YX8_refusalOfGifts d Z 0 [some (.ref 0), some (.ref x1), some (.int x2)] [] M := by
  unfold fX8_refusalOfGifts_0a at h
  refine go_rn 3 (pc' := 5) (L' := [some (.ref 0), some (.ref x1), some (.int x2)]) (S' := [.ref 0]) (M' := M) okX8_refusalOfGifts rfl ?_
  refine go_ck okX8_refusalOfGifts rfl (gOb_c rfl) ?_
  obtain ⟨c1, h⟩ := gq_if h
  refine go_rn 1 (pc' := 9) (L' := [some (.ref 0), some (.ref x1), some (.int x2)]) (S' := [.int x2, .ref (M.2.2 0)]) (M' := M) okX8_refusalOfGifts rfl ?_
  obtain ⟨r2, e3, h⟩ := gB0_ok h
  refine go_call1 ocX8_refusalOfGifts rfl rfl c1 rfl (SX7_hasDoor (M.2.2 0) x2 M c1 e3) (Nat.lt_of_lt_of_le (by decide) hd) ?_
  refine go_br okX8_refusalOfGifts rfl (fun hp => ?_) (fun hp => ?_)
  · have h := gq_pos hp h
    refine go_rn 1 (pc' := 17) (L' := [some (.ref 0), some (.ref x1), some (.int x2)]) (S' := [.int (-2 : Int32)]) (M' := M) okX8_refusalOfGifts rfl ?_
    exact go_iret (reX8_refusalOfGifts _ (by decide)) rfl (k0 (-2 : Int32) h)
  · have h := gq_neg hp h
    refine go_rn 1 (pc' := 19) (L' := [some (.ref 0), some (.ref x1), some (.int x2)]) (S' := [.ref x1]) (M' := M) okX8_refusalOfGifts rfl ?_
    obtain ⟨r4, e5, h⟩ := gB0_ok h
    refine go_call1 ocX8_refusalOfGifts rfl rfl o_x1 rfl (SX4_isThere x1 M o_x1 e5) (Nat.lt_of_lt_of_le (by decide) hd) ?_
    refine go_br okX8_refusalOfGifts rfl (fun hp => ?_) (fun hp => ?_)
    · have h := gq_pos hp h
      refine go_rn 1 (pc' := 27) (L' := [some (.ref 0), some (.ref x1), some (.int x2)]) (S' := [.int (-6 : Int32)]) (M' := M) okX8_refusalOfGifts rfl ?_
      exact go_iret (reX8_refusalOfGifts _ (by decide)) rfl (k0 (-6 : Int32) h)
    · have h := gq_neg hp h
      refine go_rn 1 (pc' := 29) (L' := [some (.ref 0), some (.ref x1), some (.int x2)]) (S' := [.ref x1]) (M' := M) okX8_refusalOfGifts rfl ?_
      refine go_ck okX8_refusalOfGifts rfl o_x1 ?_
      refine go_rn 1 (pc' := 33) (L' := [some (.ref 0), some (.ref x1), some (.int x2)]) (S' := [.ref 0, .int (M.1 x1 2)]) (M' := M) okX8_refusalOfGifts rfl ?_
      refine go_ck okX8_refusalOfGifts rfl (gOb_c rfl) ?_
      obtain ⟨c6, h⟩ := gq_if h
      refine go_ck okX8_refusalOfGifts rfl c6 ?_
      refine go_br okX8_refusalOfGifts rfl (fun hp => ?_) (fun hp => ?_)
      · have h := gq_pos hp h
        refine go_rn 2 (pc' := 48) (L' := [some (.ref 0), some (.ref x1), some (.int x2)]) (S' := [.int (0 : Int32)]) (M' := M) okX8_refusalOfGifts rfl ?_
        exact go_iret (reX8_refusalOfGifts _ (by decide)) rfl (k0 (0 : Int32) h)
      · have h := gq_neg hp h
        refine go_rn 1 (pc' := 48) (L' := [some (.ref 0), some (.ref x1), some (.int x2)]) (S' := [.int (-2 : Int32)]) (M' := M) okX8_refusalOfGifts rfl ?_
        exact go_iret (reX8_refusalOfGifts _ (by decide)) rfl (k0 (-2 : Int32) h)
def fX8_refusalOfGifts (a1 : Value) (a2 : Int32) (M : gMem) : Option (Int32) := gNl a1 (fX8_refusalOfGifts_0 a2 M) (fun a1 => if gOb 4 a1 = true then fX8_refusalOfGifts_0a a1 a2 M else none)
theorem SX8_refusalOfGifts {G : gG} (a1 : Value) (a2 : Int32) (M : gMem) {r : Int32} (h : fX8_refusalOfGifts a1 a2 M = some r) : gRun G YX8_refusalOfGifts 1 [.ref 0, a1, .int a2] M (fun r' N' => r' = some (.int r) ∧ N' = M) := by
  unfold fX8_refusalOfGifts at h
  rcases gq_nl (gq_of h) with ⟨hv, hh⟩ | ⟨o, hv, hh⟩
  · subst hv
    exact gRun_in (by decide +kernel) rfl (fun d hd => go_wk (CX8_refusalOfGifts_0 hd a2 M (fun p => p = r) (fun r hh => ⟨congrArg (fun z => some (Value.int z)) hh, rfl⟩) hh) ⟨rfl, rfl, rfl, True.intro⟩)
  · subst hv
    obtain ⟨o_a1, hh⟩ := gq_if hh
    exact gRun_in (by decide +kernel) rfl (fun d hd => go_wk (CX8_refusalOfGifts_0a hd o a2 M o_a1 (fun p => p = r) (fun r hh => ⟨congrArg (fun z => some (Value.int z)) hh, rfl⟩) hh) ⟨rfl, rfl, rfl, True.intro⟩)
def fX8_slotAt_0 (x1 : Int32) (M : gMem) : Option (Value) :=
  if x1 < 0 then some (Value.null) else if (nI (gSh 4).2) ≤ x1 then some (Value.null) else if gIx 5 4 x1 = true then if gOb 4 (gRa 4 (Int32.toNatClampNeg x1)) = true then some (Value.ref (gRa 4 (Int32.toNatClampNeg x1))) else none else none
set_option maxRecDepth 100000 in
theorem CX8_slotAt_0 {G : gG} {d : Nat} {Z : Option Value → gMem → Prop} (hd : 0 ≤ d) (x1 : Int32) (M : gMem) (P : Value → Prop) (k0 : ∀ (r : Value), P r → Z (some r) M) (h : gOKq (fX8_slotAt_0 x1 M) P) : gGo G YX8_slotAt d Z 0 [some (.ref 0), some (.int x1)] [] M := by
  unfold fX8_slotAt_0 at h
  refine go_rn 1 (pc' := 1) (L' := [some (.ref 0), some (.int x1)]) (S' := [.int x1]) (M' := M) okX8_slotAt rfl ?_
  refine go_br okX8_slotAt rfl (fun hp => ?_) (fun hp => ?_)
  · have h := gq_pos hp h
    refine go_rn 1 (pc' := 23) (L' := [some (.ref 0), some (.int x1)]) (S' := [.null]) (M' := M) okX8_slotAt rfl ?_
    exact go_aret (reX8_slotAt _ (by decide)) rfl (Or.inl rfl) (k0 (Value.null) h)
  · have h := gq_neg hp h
    refine go_rn 2 (pc' := 6) (L' := [some (.ref 0), some (.int x1)]) (S' := [.ref 0, .int x1]) (M' := M) okX8_slotAt rfl ?_
    refine go_ck okX8_slotAt rfl (gOb_c rfl) ?_
    refine go_ck okX8_slotAt rfl (gAl_c rfl) ?_
    refine go_br okX8_slotAt rfl (fun hp => ?_) (fun hp => ?_)
    · have h := gq_pos hp h
      refine go_rn 1 (pc' := 23) (L' := [some (.ref 0), some (.int x1)]) (S' := [.null]) (M' := M) okX8_slotAt rfl ?_
      exact go_aret (reX8_slotAt _ (by decide)) rfl (Or.inl rfl) (k0 (Value.null) h)
    · have h := gq_neg hp h
      refine go_rn 1 (pc' := 14) (L' := [some (.ref 0), some (.int x1)]) (S' := [.ref 0]) (M' := M) okX8_slotAt rfl ?_
      refine go_ck okX8_slotAt rfl (gOb_c rfl) ?_
      refine go_rn 1 (pc' := 18) (L' := [some (.ref 0), some (.int x1)]) (S' := [.int x1, .ref 4]) (M' := M) okX8_slotAt rfl ?_
      obtain ⟨c1, h⟩ := gq_if h
      refine go_ck okX8_slotAt rfl c1 ?_
      obtain ⟨c2, h⟩ := gq_if h
      refine go_rn 1 (pc' := 23) (L' := [some (.ref 0), some (.int x1)]) (S' := [.ref (gRa 4 (Int32.toNatClampNeg x1))]) (M' := M) okX8_slotAt rfl ?_
      exact go_aret (reX8_slotAt _ (by decide)) rfl (Or.inr ⟨_, rfl⟩) (k0 (Value.ref (gRa 4 (Int32.toNatClampNeg x1))) h)
def fX8_slotAt (a1 : Int32) (M : gMem) : Option (Value) := fX8_slotAt_0 a1 M
theorem SX8_slotAt {G : gG} (a1 : Int32) (M : gMem) {r : Value} (h : fX8_slotAt a1 M = some r) : gRun G YX8_slotAt 0 [.ref 0, .int a1] M (fun r' N' => r' = some r ∧ N' = M) := gRun_in (by decide +kernel) rfl (fun d hd => go_wk (CX8_slotAt_0 hd a1 M (fun p => p = r) (fun r hh => ⟨congrArg (fun z => some (z)) hh, rfl⟩) (gq_of h)) ⟨rfl, rfl, True.intro⟩)
def fX8_fair_62 (x2 : Int32) (x3 : Nat) (s0 : Int32) (M : gMem) : Option (Int32) :=
  if s0 = 0 then some (0 : Int32) else if gOb 7 (M.2.2 0) = true then gB0 (fX1_firstLeaver (M.2.2 0) x2 x3 M) (fun r2 => if r2 = (-1 : Int32) then some (1 : Int32) else some (0 : Int32)) else none
set_option maxRecDepth 100000 in
theorem CX8_fair_62 {G : gG} {d : Nat} {Z : Option Value → gMem → Prop} (hd : 5 ≤ d) (x2 : Int32) (x3 : Nat) (s0 : Int32) (M : gMem) (o_x3 : gOb 4 x3 = true) (P : Int32 → Prop) (k0 : ∀ (r : Int32), P r → Z (some (.int r)) M) (h : gOKq (fX8_fair_62 x2 x3 s0 M) P) : gGo G YX8_fair d Z 62 [some (.ref 0), none, some (.int x2), some (.ref x3), none, none, none] [.int s0] M := by
  unfold fX8_fair_62 at h
  refine go_rn 2 (pc' := 66) (L' := [some (.ref 0), none, some (.int x2), some (.ref x3), none, none, some (.int s0)]) (S' := [.int s0]) (M' := M) okX8_fair rfl ?_
  refine go_br okX8_fair rfl (fun hp => ?_) (fun hp => ?_)
  · have h := gq_pos hp h
    refine go_rn 1 (pc' := 87) (L' := [some (.ref 0), none, some (.int x2), some (.ref x3), none, none, some (.int s0)]) (S' := [.int (0 : Int32)]) (M' := M) okX8_fair rfl ?_
    exact go_iret (reX8_fair _ (by decide)) rfl (k0 (0 : Int32) h)
  · have h := gq_neg hp h
    refine go_rn 1 (pc' := 70) (L' := [some (.ref 0), none, some (.int x2), some (.ref x3), none, none, some (.int s0)]) (S' := [.ref 0]) (M' := M) okX8_fair rfl ?_
    refine go_ck okX8_fair rfl (gOb_c rfl) ?_
    obtain ⟨c1, h⟩ := gq_if h
    refine go_rn 2 (pc' := 75) (L' := [some (.ref 0), none, some (.int x2), some (.ref x3), none, none, some (.int s0)]) (S' := [.ref x3, .int x2, .ref (M.2.2 0)]) (M' := M) okX8_fair rfl ?_
    obtain ⟨r2, e3, h⟩ := gB0_ok h
    refine go_call1 ocX8_fair rfl rfl rfl rfl (SX1_firstLeaver (M.2.2 0) x2 x3 M c1 o_x3 e3) (Nat.lt_of_lt_of_le (by decide) hd) ?_
    refine go_rn 1 (pc' := 79) (L' := [some (.ref 0), none, some (.int x2), some (.ref x3), none, none, some (.int s0)]) (S' := [.int (-1 : Int32), .int r2]) (M' := M) okX8_fair rfl ?_
    refine go_br okX8_fair rfl (fun hp => ?_) (fun hp => ?_)
    · have h := gq_pos hp h
      refine go_rn 2 (pc' := 87) (L' := [some (.ref 0), none, some (.int x2), some (.ref x3), none, none, some (.int s0)]) (S' := [.int (1 : Int32)]) (M' := M) okX8_fair rfl ?_
      exact go_iret (reX8_fair _ (by decide)) rfl (k0 (1 : Int32) h)
    · have h := gq_neg hp h
      refine go_rn 1 (pc' := 87) (L' := [some (.ref 0), none, some (.int x2), some (.ref x3), none, none, some (.int s0)]) (S' := [.int (0 : Int32)]) (M' := M) okX8_fair rfl ?_
      exact go_iret (reX8_fair _ (by decide)) rfl (k0 (0 : Int32) h)
def fX8_fair_0 (x1 : Int32) (x2 : Int32) (M : gMem) : Option (Int32) :=
  gB0 (fX8_slotAt x1 M) (fun r1 => gNl r1 (gB0 (fX8_refusalOfGifts (Value.null) x2 M) (fun r3 => some r3)) (fun o5 => if gOb 4 o5 = true then gB0 (fX8_refusalOfGifts (Value.ref o5) x2 M) (fun r7 => if r7 = 0 then if gOb 7 (M.2.2 0) = true then gB0 (fX8_allOf (M.1 (M.2.2 0) 5) M) (fun r10 => if gOb 7 (M.2.2 0) = true then gB0 (fX1_setWorth (M.2.2 0) r10 x2 M) (fun r13 => gB0 (fX4_compareTogether o5 r10 r13 M) (fun r15 => if r15 = 0 then fX8_fair_62 x2 o5 (1 : Int32) M else fX8_fair_62 x2 o5 (0 : Int32) M)) else none) else none else some r7) else none))
set_option maxRecDepth 100000 in
theorem CX8_fair_0 {G : gG} {d : Nat} {Z : Option Value → gMem → Prop} (hd : 5 ≤ d) (x1 : Int32) (x2 : Int32) (M : gMem) (P : Int32 → Prop) (k0 : ∀ (r : Int32), P r → Z (some (.int r)) M) (h : gOKq (fX8_fair_0 x1 x2 M) P) : gGo G YX8_fair d Z 0 [some (.ref 0), some (.int x1), some (.int x2), none, none, none, none] [] M := by
  unfold fX8_fair_0 at h
  refine go_rn 2 (pc' := 2) (L' := [some (.ref 0), some (.int x1), some (.int x2), none, none, none, none]) (S' := [.int x1, .ref 0]) (M' := M) okX8_fair rfl ?_
  obtain ⟨r1, e2, h⟩ := gB0_ok h
  refine go_call1 ocX8_fair rfl rfl (gOb_c rfl) rfl (SX8_slotAt x1 M e2) (Nat.lt_of_lt_of_le (by decide) hd) ?_
  rcases gq_nl h with ⟨hv, hh⟩ | ⟨o5, hv, hh⟩
  · subst hv
    have h := hh
    refine go_rn 4 (pc' := 9) (L' := [some (.ref 0), some (.int x1), some (.int x2), some (.null), none, none, none]) (S' := [.int x2, .null, .ref 0]) (M' := M) okX8_fair rfl ?_
    obtain ⟨r3, e4, h⟩ := gB0_ok h
    refine go_call1 ocX8_fair rfl rfl (gOb_c rfl) rfl (SX8_refusalOfGifts (Value.null) x2 M e4) (Nat.lt_of_lt_of_le (by decide) hd) ?_
    refine go_rn 4 (pc' := 25) (L' := [some (.ref 0), some (.int x1), some (.int x2), some (.null), some (.int r3), none, none]) (S' := [.int r3]) (M' := M) okX8_fair rfl ?_
    exact go_iret (reX8_fair _ (by decide)) rfl (k0 r3 h)
  · subst hv
    obtain ⟨c6, h⟩ := gq_if hh
    refine go_rn 4 (pc' := 9) (L' := [some (.ref 0), some (.int x1), some (.int x2), some (.ref o5), none, none, none]) (S' := [.int x2, .ref o5, .ref 0]) (M' := M) okX8_fair rfl ?_
    obtain ⟨r7, e8, h⟩ := gB0_ok h
    refine go_call1 ocX8_fair rfl rfl (gOb_c rfl) rfl (SX8_refusalOfGifts (Value.ref o5) x2 M e8) (Nat.lt_of_lt_of_le (by decide) hd) ?_
    refine go_rn 4 (pc' := 20) (L' := [some (.ref 0), some (.int x1), some (.int x2), some (.ref o5), some (.int r7), none, none]) (S' := [.int r7]) (M' := M) okX8_fair rfl ?_
    refine go_br okX8_fair rfl (fun hp => ?_) (fun hp => ?_)
    · have h := gq_pos hp h
      refine go_rn 1 (pc' := 27) (L' := [some (.ref 0), some (.int x1), some (.int x2), some (.ref o5), some (.int r7), none, none]) (S' := [.ref 0]) (M' := M) okX8_fair rfl ?_
      refine go_ck okX8_fair rfl (gOb_c rfl) ?_
      obtain ⟨c9, h⟩ := gq_if h
      refine go_ck okX8_fair rfl c9 ?_
      obtain ⟨r10, e11, h⟩ := gB0_ok h
      refine go_call1 ocX8_fair rfl rfl rfl rfl (SX8_allOf (M.1 (M.2.2 0) 5) M e11) (Nat.lt_of_lt_of_le (by decide) hd) ?_
      refine go_rn 4 (pc' := 42) (L' := [some (.ref 0), some (.int x1), some (.int x2), some (.ref o5), some (.int r7), some (.int r10), none]) (S' := [.ref 0, .int r10, .ref o5]) (M' := M) okX8_fair rfl ?_
      refine go_ck okX8_fair rfl (gOb_c rfl) ?_
      obtain ⟨c12, h⟩ := gq_if h
      refine go_rn 2 (pc' := 48) (L' := [some (.ref 0), some (.int x1), some (.int x2), some (.ref o5), some (.int r7), some (.int r10), none]) (S' := [.int x2, .int r10, .ref (M.2.2 0), .int r10, .ref o5]) (M' := M) okX8_fair rfl ?_
      obtain ⟨r13, e14, h⟩ := gB0_ok h
      refine go_call1 ocX8_fair rfl rfl rfl rfl (SX1_setWorth (M.2.2 0) r10 x2 M c12 e14) (Nat.lt_of_lt_of_le (by decide) hd) ?_
      obtain ⟨r15, e16, h⟩ := gB0_ok h
      refine go_call1 ocX8_fair rfl rfl c6 rfl (SX4_compareTogether o5 r10 r13 M c6 e16) (Nat.lt_of_lt_of_le (by decide) hd) ?_
      refine go_br okX8_fair rfl (fun hp => ?_) (fun hp => ?_)
      · have h := gq_pos hp h
        refine go_rn 2 (pc' := 62) (L' := [some (.ref 0), some (.int x1), some (.int x2), some (.ref o5), some (.int r7), some (.int r10), none]) (S' := [.int (1 : Int32)]) (M' := M) okX8_fair rfl ?_
        exact go_wk (CX8_fair_62 hd x2 o5 (1 : Int32) M c6 P k0 h) ⟨rfl, rfl, rfl, True.intro⟩
      · have h := gq_neg hp h
        refine go_rn 1 (pc' := 62) (L' := [some (.ref 0), some (.int x1), some (.int x2), some (.ref o5), some (.int r7), some (.int r10), none]) (S' := [.int (0 : Int32)]) (M' := M) okX8_fair rfl ?_
        exact go_wk (CX8_fair_62 hd x2 o5 (0 : Int32) M c6 P k0 h) ⟨rfl, rfl, rfl, True.intro⟩
    · have h := gq_neg hp h
      refine go_rn 1 (pc' := 25) (L' := [some (.ref 0), some (.int x1), some (.int x2), some (.ref o5), some (.int r7), none, none]) (S' := [.int r7]) (M' := M) okX8_fair rfl ?_
      exact go_iret (reX8_fair _ (by decide)) rfl (k0 r7 h)
def fX8_fair (a1 : Int32) (a2 : Int32) (M : gMem) : Option (Int32) := fX8_fair_0 a1 a2 M
theorem SX8_fair {G : gG} (a1 : Int32) (a2 : Int32) (M : gMem) {r : Int32} (h : fX8_fair a1 a2 M = some r) : gRun G YX8_fair 5 [.ref 0, .int a1, .int a2] M (fun r' N' => r' = some (.int r) ∧ N' = M) := gRun_in (by decide +kernel) rfl (fun d hd => go_wk (CX8_fair_0 hd a1 a2 M (fun p => p = r) (fun r hh => ⟨congrArg (fun z => some (Value.int z)) hh, rfl⟩) (gq_of h)) ⟨rfl, rfl, rfl, True.intro⟩)
def fX8_leave_0 (x1 : Int32) (x2 : Int32) (M : gMem) : Option (Int32) :=
  gB0 (fX8_slotAt x1 M) (fun r1 => gNl r1 (gB0 (fX8_refusalOfGifts (Value.null) x2 M) (fun r3 => some r3)) (fun o5 => if gOb 4 o5 = true then gB0 (fX8_refusalOfGifts (Value.ref o5) x2 M) (fun r7 => if r7 = 0 then if gOb 7 (M.2.2 0) = true then gB0 (fX1_firstLeaver (M.2.2 0) x2 o5 M) (fun r10 => some r10) else none else some r7) else none))
set_option maxRecDepth 100000 in
theorem CX8_leave_0 {G : gG} {d : Nat} {Z : Option Value → gMem → Prop} (hd : 5 ≤ d) (x1 : Int32) (x2 : Int32) (M : gMem) (P : Int32 → Prop) (k0 : ∀ (r : Int32), P r → Z (some (.int r)) M) (h : gOKq (fX8_leave_0 x1 x2 M) P) : gGo G YX8_leave d Z 0 [some (.ref 0), some (.int x1), some (.int x2), none, none] [] M := by
  unfold fX8_leave_0 at h
  refine go_rn 2 (pc' := 2) (L' := [some (.ref 0), some (.int x1), some (.int x2), none, none]) (S' := [.int x1, .ref 0]) (M' := M) okX8_leave rfl ?_
  obtain ⟨r1, e2, h⟩ := gB0_ok h
  refine go_call1 ocX8_leave rfl rfl (gOb_c rfl) rfl (SX8_slotAt x1 M e2) (Nat.lt_of_lt_of_le (by decide) hd) ?_
  rcases gq_nl h with ⟨hv, hh⟩ | ⟨o5, hv, hh⟩
  · subst hv
    have h := hh
    refine go_rn 4 (pc' := 9) (L' := [some (.ref 0), some (.int x1), some (.int x2), some (.null), none]) (S' := [.int x2, .null, .ref 0]) (M' := M) okX8_leave rfl ?_
    obtain ⟨r3, e4, h⟩ := gB0_ok h
    refine go_call1 ocX8_leave rfl rfl (gOb_c rfl) rfl (SX8_refusalOfGifts (Value.null) x2 M e4) (Nat.lt_of_lt_of_le (by decide) hd) ?_
    refine go_rn 4 (pc' := 25) (L' := [some (.ref 0), some (.int x1), some (.int x2), some (.null), some (.int r3)]) (S' := [.int r3]) (M' := M) okX8_leave rfl ?_
    exact go_iret (reX8_leave _ (by decide)) rfl (k0 r3 h)
  · subst hv
    obtain ⟨c6, h⟩ := gq_if hh
    refine go_rn 4 (pc' := 9) (L' := [some (.ref 0), some (.int x1), some (.int x2), some (.ref o5), none]) (S' := [.int x2, .ref o5, .ref 0]) (M' := M) okX8_leave rfl ?_
    obtain ⟨r7, e8, h⟩ := gB0_ok h
    refine go_call1 ocX8_leave rfl rfl (gOb_c rfl) rfl (SX8_refusalOfGifts (Value.ref o5) x2 M e8) (Nat.lt_of_lt_of_le (by decide) hd) ?_
    refine go_rn 4 (pc' := 20) (L' := [some (.ref 0), some (.int x1), some (.int x2), some (.ref o5), some (.int r7)]) (S' := [.int r7]) (M' := M) okX8_leave rfl ?_
    refine go_br okX8_leave rfl (fun hp => ?_) (fun hp => ?_)
    · have h := gq_pos hp h
      refine go_rn 1 (pc' := 27) (L' := [some (.ref 0), some (.int x1), some (.int x2), some (.ref o5), some (.int r7)]) (S' := [.ref 0]) (M' := M) okX8_leave rfl ?_
      refine go_ck okX8_leave rfl (gOb_c rfl) ?_
      obtain ⟨c9, h⟩ := gq_if h
      refine go_rn 2 (pc' := 32) (L' := [some (.ref 0), some (.int x1), some (.int x2), some (.ref o5), some (.int r7)]) (S' := [.ref o5, .int x2, .ref (M.2.2 0)]) (M' := M) okX8_leave rfl ?_
      obtain ⟨r10, e11, h⟩ := gB0_ok h
      refine go_call1 ocX8_leave rfl rfl rfl rfl (SX1_firstLeaver (M.2.2 0) x2 o5 M c9 c6 e11) (Nat.lt_of_lt_of_le (by decide) hd) ?_
      exact go_iret (reX8_leave _ (by decide)) rfl (k0 r10 h)
    · have h := gq_neg hp h
      refine go_rn 1 (pc' := 25) (L' := [some (.ref 0), some (.int x1), some (.int x2), some (.ref o5), some (.int r7)]) (S' := [.int r7]) (M' := M) okX8_leave rfl ?_
      exact go_iret (reX8_leave _ (by decide)) rfl (k0 r7 h)
def fX8_leave (a1 : Int32) (a2 : Int32) (M : gMem) : Option (Int32) := fX8_leave_0 a1 a2 M
theorem SX8_leave {G : gG} (a1 : Int32) (a2 : Int32) (M : gMem) {r : Int32} (h : fX8_leave a1 a2 M = some r) : gRun G YX8_leave 5 [.ref 0, .int a1, .int a2] M (fun r' N' => r' = some (.int r) ∧ N' = M) := gRun_in (by decide +kernel) rfl (fun d hd => go_wk (CX8_leave_0 hd a1 a2 M (fun p => p = r) (fun r hh => ⟨congrArg (fun z => some (Value.int z)) hh, rfl⟩) (gq_of h)) ⟨rfl, rfl, rfl, True.intro⟩)
def fX8_cutsApart_20 (x2 : Int32) (x3 : Int32) (M : gMem) : Option (Int32 × gMem) :=
  if gOb 7 (M.2.2 0) = true then gB0 (fX2_live (M.2.2 0) (1 : Int32) M) (fun M2 => if gIx 7 48 (0 : Int32) = true then if gIx 1 (gRa 48 (Int32.toNatClampNeg (0 : Int32))) x2 = true then gB0 (fX8_has (M2.1 (gRa 48 (Int32.toNatClampNeg (0 : Int32))) (Int32.toNatClampNeg x2)) x3 M2) (fun r6 => if r6 = 0 then some ((1 : Int32), M2) else some ((0 : Int32), M2)) else none else none) else none
set_option maxRecDepth 100000 in
theorem CX8_cutsApart_20 {G : gG} {d : Nat} {Z : Option Value → gMem → Prop} (hd : 5 ≤ d) (x2 : Int32) (x3 : Int32) (M : gMem) (P : Int32 × gMem → Prop) (k0 : ∀ (r : Int32) (N : gMem), P (r, N) → Z (some (.int r)) N) (h : gOKq (fX8_cutsApart_20 x2 x3 M) P) : gGo G YX8_cutsApart d Z 20 [some (.ref 0), none, some (.int x2), some (.int x3)] [.ref 0, .ref 14] M := by
  unfold fX8_cutsApart_20 at h
  refine go_ck okX8_cutsApart rfl (gOb_c rfl) ?_
  obtain ⟨c1, h⟩ := gq_if h
  refine go_rn 1 (pc' := 24) (L' := [some (.ref 0), none, some (.int x2), some (.int x3)]) (S' := [.int (1 : Int32), .ref (M.2.2 0), .ref 14]) (M' := M) okX8_cutsApart rfl ?_
  obtain ⟨M2, e3, h⟩ := gB0_ok h
  refine go_call1 ocX8_cutsApart rfl rfl (gOb_c rfl) rfl (SX2_live (M.2.2 0) (1 : Int32) M c1 e3) (Nat.lt_of_lt_of_le (by decide) hd) ?_
  refine go_rn 1 (pc' := 28) (L' := [some (.ref 0), none, some (.int x2), some (.int x3)]) (S' := [.ref 0]) (M' := M2) okX8_cutsApart rfl ?_
  refine go_ck okX8_cutsApart rfl (gOb_c rfl) ?_
  refine go_ck okX8_cutsApart rfl (gOb_c rfl) ?_
  refine go_rn 1 (pc' := 35) (L' := [some (.ref 0), none, some (.int x2), some (.int x3)]) (S' := [.int (0 : Int32), .ref 48]) (M' := M2) okX8_cutsApart rfl ?_
  obtain ⟨c4, h⟩ := gq_if h
  refine go_ck okX8_cutsApart rfl c4 ?_
  refine go_rn 1 (pc' := 37) (L' := [some (.ref 0), none, some (.int x2), some (.int x3)]) (S' := [.int x2, .ref (gRa 48 (Int32.toNatClampNeg (0 : Int32)))]) (M' := M2) okX8_cutsApart rfl ?_
  obtain ⟨c5, h⟩ := gq_if h
  refine go_ck okX8_cutsApart rfl c5 ?_
  refine go_rn 1 (pc' := 39) (L' := [some (.ref 0), none, some (.int x2), some (.int x3)]) (S' := [.int x3, .int (M2.1 (gRa 48 (Int32.toNatClampNeg (0 : Int32))) (Int32.toNatClampNeg x2))]) (M' := M2) okX8_cutsApart rfl ?_
  obtain ⟨r6, e7, h⟩ := gB0_ok h
  refine go_call1 ocX8_cutsApart rfl rfl rfl rfl (SX8_has (M2.1 (gRa 48 (Int32.toNatClampNeg (0 : Int32))) (Int32.toNatClampNeg x2)) x3 M2 e7) (Nat.lt_of_lt_of_le (by decide) hd) ?_
  refine go_br okX8_cutsApart rfl (fun hp => ?_) (fun hp => ?_)
  · have h := gq_pos hp h
    refine go_rn 2 (pc' := 50) (L' := [some (.ref 0), none, some (.int x2), some (.int x3)]) (S' := [.int (1 : Int32)]) (M' := M2) okX8_cutsApart rfl ?_
    exact go_zret (reX8_cutsApart _ (by decide)) rfl (Or.inr rfl) (k0 (1 : Int32) M2 h)
  · have h := gq_neg hp h
    refine go_rn 1 (pc' := 50) (L' := [some (.ref 0), none, some (.int x2), some (.int x3)]) (S' := [.int (0 : Int32)]) (M' := M2) okX8_cutsApart rfl ?_
    exact go_zret (reX8_cutsApart _ (by decide)) rfl (Or.inl rfl) (k0 (0 : Int32) M2 h)
def fX8_cutsApart_0 (x1 : Int32) (x2 : Int32) (x3 : Int32) (M : gMem) : Option (Int32 × gMem) :=
  gB0 (fX2_supposeNothing M) (fun M1 => fX8_cutsApart_20 x2 x3 (gSI M1 14 0 x1))
set_option maxRecDepth 100000 in
theorem CX8_cutsApart_0 {G : gG} {d : Nat} {Z : Option Value → gMem → Prop} (hd : 5 ≤ d) (x1 : Int32) (x2 : Int32) (x3 : Int32) (M : gMem) (P : Int32 × gMem → Prop) (k0 : ∀ (r : Int32) (N : gMem), P (r, N) → Z (some (.int r)) N) (h : gOKq (fX8_cutsApart_0 x1 x2 x3 M) P) : gGo G YX8_cutsApart d Z 0 [some (.ref 0), some (.int x1), some (.int x2), some (.int x3)] [] M := by
  unfold fX8_cutsApart_0 at h
  refine go_rn 1 (pc' := 1) (L' := [some (.ref 0), some (.int x1), some (.int x2), some (.int x3)]) (S' := [.ref 0]) (M' := M) okX8_cutsApart rfl ?_
  refine go_ck okX8_cutsApart rfl (gOb_c rfl) ?_
  obtain ⟨M1, e2, h⟩ := gB0_ok h
  refine go_call1 ocX8_cutsApart rfl rfl (gOb_c rfl) rfl (SX2_supposeNothing M e2) (Nat.lt_of_lt_of_le (by decide) hd) ?_
  refine go_rn 1 (pc' := 8) (L' := [some (.ref 0), some (.int x1), some (.int x2), some (.int x3)]) (S' := [.ref 0]) (M' := M1) okX8_cutsApart rfl ?_
  refine go_ck okX8_cutsApart rfl (gOb_c rfl) ?_
  refine go_rn 1 (pc' := 12) (L' := [some (.ref 0), some (.int x1), some (.int x2), some (.int x3)]) (S' := [.int x1, .ref 14]) (M' := M1) okX8_cutsApart rfl ?_
  refine go_ck okX8_cutsApart rfl (gOb_c rfl) ?_
  refine go_rn 1 (pc' := 16) (L' := [some (.ref 0), some (.int x1), some (.int x2), some (.int x3)]) (S' := [.ref 0]) (M' := (gSI M1 14 0 x1)) okX8_cutsApart rfl ?_
  refine go_ck okX8_cutsApart rfl (gOb_c rfl) ?_
  refine go_rn 1 (pc' := 20) (L' := [some (.ref 0), some (.int x1), some (.int x2), some (.int x3)]) (S' := [.ref 0, .ref 14]) (M' := (gSI M1 14 0 x1)) okX8_cutsApart rfl ?_
  exact go_wk (CX8_cutsApart_20 hd x2 x3 (gSI M1 14 0 x1) P k0 h) ⟨rfl, rfl, rfl, True.intro⟩
def fX8_cutsApart (a1 : Int32) (a2 : Int32) (a3 : Int32) (M : gMem) : Option (Int32 × gMem) := fX8_cutsApart_0 a1 a2 a3 M
theorem SX8_cutsApart {G : gG} (a1 : Int32) (a2 : Int32) (a3 : Int32) (M : gMem) {r : Int32} {N : gMem} (h : fX8_cutsApart a1 a2 a3 M = some (r, N)) : gRun G YX8_cutsApart 5 [.ref 0, .int a1, .int a2, .int a3] M (fun r' N' => r' = some (.int r) ∧ N' = N) := gRun_in (by decide +kernel) rfl (fun d hd => go_wk (CX8_cutsApart_0 hd a1 a2 a3 M (fun p => p = (r, N)) (fun r N hh => by cases hh; exact ⟨rfl, rfl⟩) (gq_of h)) ⟨rfl, rfl, rfl, rfl, True.intro⟩)
