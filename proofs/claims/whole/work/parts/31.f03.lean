/-! exact functions of methods, and that the machine goes as they say: by program -/
def fX8_fewestCut_41 (x1 : Int32) (x2 : Int32) (x3 : Int32) (x4 : Int32) (s0 : Int32) (M : gMem) : Option (Sum (Int32 × Int32 × gMem) (Int32 × gMem)) :=
  if s0 = 0 then some (.inl (x3, (x4 + 1), M)) else gBp (fX8_cutsApart x4 x1 x2 M) (fun r1 M2 => if r1 = 0 then some (.inl (x3, (x4 + 1), M2)) else some (.inl (x4, (x4 + 1), M2)))
set_option maxRecDepth 100000 in
theorem CX8_fewestCut_41 {G : gG} {d : Nat} {Z : Option Value → gMem → Prop} (hd : 6 ≤ d) (x1 : Int32) (x2 : Int32) (x3 : Int32) (x4 : Int32) (s0 : Int32) (M : gMem) (P : Sum (Int32 × Int32 × gMem) (Int32 × gMem) → Prop) (k0 : ∀ (r : Int32) (N : gMem), P (.inr (r, N)) → Z (some (.int r)) N) (k1 : ∀ (x3 : Int32) (x4 : Int32) (M : gMem), P (.inl (x3, x4, M)) → gGo G YX8_fewestCut d Z 5 [some (.ref 0), some (.int x1), some (.int x2), some (.int x3), some (.int x4), none] [] M) (h : gOKq (fX8_fewestCut_41 x1 x2 x3 x4 s0 M) P) : gGo G YX8_fewestCut d Z 41 [some (.ref 0), some (.int x1), some (.int x2), some (.int x3), some (.int x4), none] [.int s0] M := by
  unfold fX8_fewestCut_41 at h
  refine go_rn 2 (pc' := 45) (L' := [some (.ref 0), some (.int x1), some (.int x2), some (.int x3), some (.int x4), some (.int s0)]) (S' := [.int s0]) (M' := M) okX8_fewestCut rfl ?_
  refine go_br okX8_fewestCut rfl (fun hp => ?_) (fun hp => ?_)
  · have h := gq_pos hp h
    refine go_rn 2 (pc' := 5) (L' := [some (.ref 0), some (.int x1), some (.int x2), some (.int x3), some (.int (x4 + 1)), some (.int s0)]) (S' := []) (M' := M) okX8_fewestCut rfl ?_
    exact go_wk (k1 (x3) ((x4 + 1)) M h) ⟨rfl, rfl, rfl, rfl, rfl, True.intro⟩
  · have h := gq_neg hp h
    refine go_rn 4 (pc' := 53) (L' := [some (.ref 0), some (.int x1), some (.int x2), some (.int x3), some (.int x4), some (.int s0)]) (S' := [.int x2, .int x1, .int x4, .ref 0]) (M' := M) okX8_fewestCut rfl ?_
    obtain ⟨r1, M2, e3, h⟩ := gBp_ok h
    refine go_call1 ocX8_fewestCut rfl rfl (gOb_c rfl) rfl (SX8_cutsApart x4 x1 x2 M e3) (Nat.lt_of_lt_of_le (by decide) hd) ?_
    refine go_br okX8_fewestCut rfl (fun hp => ?_) (fun hp => ?_)
    · have h := gq_pos hp h
      refine go_rn 2 (pc' := 5) (L' := [some (.ref 0), some (.int x1), some (.int x2), some (.int x3), some (.int (x4 + 1)), some (.int s0)]) (S' := []) (M' := M2) okX8_fewestCut rfl ?_
      exact go_wk (k1 (x3) ((x4 + 1)) M2 h) ⟨rfl, rfl, rfl, rfl, rfl, True.intro⟩
    · have h := gq_neg hp h
      refine go_rn 4 (pc' := 5) (L' := [some (.ref 0), some (.int x1), some (.int x2), some (.int x4), some (.int (x4 + 1)), some (.int s0)]) (S' := []) (M' := M2) okX8_fewestCut rfl ?_
      exact go_wk (k1 (x4) ((x4 + 1)) M2 h) ⟨rfl, rfl, rfl, rfl, rfl, True.intro⟩
def fX8_fewestCut_36 (x1 : Int32) (x2 : Int32) (x3 : Int32) (x4 : Int32) (M : gMem) : Option (Sum (Int32 × Int32 × gMem) (Int32 × gMem)) :=
  fX8_fewestCut_41 x1 x2 x3 x4 (1 : Int32) M
set_option maxRecDepth 100000 in
theorem CX8_fewestCut_36 {G : gG} {d : Nat} {Z : Option Value → gMem → Prop} (hd : 6 ≤ d) (x1 : Int32) (x2 : Int32) (x3 : Int32) (x4 : Int32) (M : gMem) (P : Sum (Int32 × Int32 × gMem) (Int32 × gMem) → Prop) (k0 : ∀ (r : Int32) (N : gMem), P (.inr (r, N)) → Z (some (.int r)) N) (k1 : ∀ (x3 : Int32) (x4 : Int32) (M : gMem), P (.inl (x3, x4, M)) → gGo G YX8_fewestCut d Z 5 [some (.ref 0), some (.int x1), some (.int x2), some (.int x3), some (.int x4), none] [] M) (h : gOKq (fX8_fewestCut_36 x1 x2 x3 x4 M) P) : gGo G YX8_fewestCut d Z 36 [some (.ref 0), some (.int x1), some (.int x2), some (.int x3), some (.int x4), none] [] M := by
  unfold fX8_fewestCut_36 at h
  refine go_rn 2 (pc' := 41) (L' := [some (.ref 0), some (.int x1), some (.int x2), some (.int x3), some (.int x4), none]) (S' := [.int (1 : Int32)]) (M' := M) okX8_fewestCut rfl ?_
  exact go_wk (CX8_fewestCut_41 hd x1 x2 x3 x4 (1 : Int32) M P k0 k1 h) ⟨rfl, rfl, rfl, rfl, rfl, True.intro⟩
def fX8_fewestCut_5 (x1 : Int32) (x2 : Int32) (x3 : Int32) (x4 : Int32) (M : gMem) : Option (Sum (Int32 × Int32 × gMem) (Int32 × gMem)) :=
  if gOb 7 (M.2.2 0) = true then if ((1 : Int32) <<< ((M.1 (M.2.2 0) 6) &&& 31)) ≤ x4 then some (.inr (x3, M)) else if x3 = (-1 : Int32) then fX8_fewestCut_36 x1 x2 x3 x4 M else gB0 (fJ6_bitCount_0f7a4 x4 M) (fun r2 => gB0 (fJ6_bitCount_0f7a4 x3 M) (fun r4 => if r4 ≤ r2 then fX8_fewestCut_41 x1 x2 x3 x4 (0 : Int32) M else fX8_fewestCut_36 x1 x2 x3 x4 M)) else none
set_option maxRecDepth 100000 in
theorem CX8_fewestCut_5 {G : gG} {d : Nat} {Z : Option Value → gMem → Prop} (hd : 6 ≤ d) (x1 : Int32) (x2 : Int32) (x3 : Int32) (x4 : Int32) (M : gMem) (P : Sum (Int32 × Int32 × gMem) (Int32 × gMem) → Prop) (k0 : ∀ (r : Int32) (N : gMem), P (.inr (r, N)) → Z (some (.int r)) N) (k1 : ∀ (x3 : Int32) (x4 : Int32) (M : gMem), P (.inl (x3, x4, M)) → gGo G YX8_fewestCut d Z 5 [some (.ref 0), some (.int x1), some (.int x2), some (.int x3), some (.int x4), none] [] M) (h : gOKq (fX8_fewestCut_5 x1 x2 x3 x4 M) P) : gGo G YX8_fewestCut d Z 5 [some (.ref 0), some (.int x1), some (.int x2), some (.int x3), some (.int x4), none] [] M := by
  unfold fX8_fewestCut_5 at h
  refine go_rn 3 (pc' := 9) (L' := [some (.ref 0), some (.int x1), some (.int x2), some (.int x3), some (.int x4), none]) (S' := [.ref 0, .int (1 : Int32), .int x4]) (M' := M) okX8_fewestCut rfl ?_
  refine go_ck okX8_fewestCut rfl (gOb_c rfl) ?_
  obtain ⟨c1, h⟩ := gq_if h
  refine go_ck okX8_fewestCut rfl c1 ?_
  refine go_rn 1 (pc' := 16) (L' := [some (.ref 0), some (.int x1), some (.int x2), some (.int x3), some (.int x4), none]) (S' := [.int ((1 : Int32) <<< ((M.1 (M.2.2 0) 6) &&& 31)), .int x4]) (M' := M) okX8_fewestCut rfl ?_
  refine go_br okX8_fewestCut rfl (fun hp => ?_) (fun hp => ?_)
  · have h := gq_pos hp h
    refine go_rn 1 (pc' := 69) (L' := [some (.ref 0), some (.int x1), some (.int x2), some (.int x3), some (.int x4), none]) (S' := [.int x3]) (M' := M) okX8_fewestCut rfl ?_
    exact go_iret (reX8_fewestCut _ (by decide)) rfl (k0 x3 M h)
  · have h := gq_neg hp h
    refine go_rn 2 (pc' := 21) (L' := [some (.ref 0), some (.int x1), some (.int x2), some (.int x3), some (.int x4), none]) (S' := [.int (-1 : Int32), .int x3]) (M' := M) okX8_fewestCut rfl ?_
    refine go_br okX8_fewestCut rfl (fun hp => ?_) (fun hp => ?_)
    · have h := gq_pos hp h
      exact go_wk (CX8_fewestCut_36 hd x1 x2 x3 x4 M P k0 k1 h) ⟨rfl, rfl, rfl, rfl, rfl, True.intro⟩
    · have h := gq_neg hp h
      refine go_rn 1 (pc' := 26) (L' := [some (.ref 0), some (.int x1), some (.int x2), some (.int x3), some (.int x4), none]) (S' := [.int x4]) (M' := M) okX8_fewestCut rfl ?_
      obtain ⟨r2, e3, h⟩ := gB0_ok h
      refine go_call1 ocX8_fewestCut rfl rfl rfl rfl (SJ6_bitCount_0f7a4 x4 M e3) (Nat.lt_of_lt_of_le (by decide) hd) ?_
      refine go_rn 1 (pc' := 30) (L' := [some (.ref 0), some (.int x1), some (.int x2), some (.int x3), some (.int x4), none]) (S' := [.int x3, .int r2]) (M' := M) okX8_fewestCut rfl ?_
      obtain ⟨r4, e5, h⟩ := gB0_ok h
      refine go_call1 ocX8_fewestCut rfl rfl rfl rfl (SJ6_bitCount_0f7a4 x3 M e5) (Nat.lt_of_lt_of_le (by decide) hd) ?_
      refine go_br okX8_fewestCut rfl (fun hp => ?_) (fun hp => ?_)
      · have h := gq_pos hp h
        refine go_rn 1 (pc' := 41) (L' := [some (.ref 0), some (.int x1), some (.int x2), some (.int x3), some (.int x4), none]) (S' := [.int (0 : Int32)]) (M' := M) okX8_fewestCut rfl ?_
        exact go_wk (CX8_fewestCut_41 hd x1 x2 x3 x4 (0 : Int32) M P k0 k1 h) ⟨rfl, rfl, rfl, rfl, rfl, True.intro⟩
      · have h := gq_neg hp h
        exact go_wk (CX8_fewestCut_36 hd x1 x2 x3 x4 M P k0 k1 h) ⟨rfl, rfl, rfl, rfl, rfl, True.intro⟩
def fX8_fewestCut_5h (x1 : Int32) (x2 : Int32) (x3 : Int32) (x4 : Int32) (M : gMem) : Option (Int32 × gMem) :=
  gLp (fun s : Int32 × Int32 × gMem => fX8_fewestCut_5 x1 x2 (s.1) (s.2.1) s.2.2) gFu (x3, x4, M)
set_option maxRecDepth 100000 in
theorem CX8_fewestCut_5h {G : gG} {d : Nat} {Z : Option Value → gMem → Prop} (hd : 6 ≤ d) (x1 : Int32) (x2 : Int32) (x3 : Int32) (x4 : Int32) (M : gMem) (P : Int32 × gMem → Prop) (k0 : ∀ (r : Int32) (N : gMem), P (r, N) → Z (some (.int r)) N) (h : gOKq (fX8_fewestCut_5h x1 x2 x3 x4 M) P) : gGo G YX8_fewestCut d Z 5 [some (.ref 0), some (.int x1), some (.int x2), some (.int x3), some (.int x4), none] [] M :=
  gLp_go (K := fun s : Int32 × Int32 × gMem => gGo G YX8_fewestCut d Z 5 [some (.ref 0), some (.int x1), some (.int x2), some (.int s.1), some (.int s.2.1), none] [] s.2.2) (P := P) (fun s hs => CX8_fewestCut_5 hd (x1) (x2) (s.1) (s.2.1) (s.2.2) (Sum.elim (fun s : Int32 × Int32 × gMem => gGo G YX8_fewestCut d Z 5 [some (.ref 0), some (.int x1), some (.int x2), some (.int s.1), some (.int s.2.1), none] [] s.2.2) P) k0 (fun x3 x4 M hh => hh) hs) gFu (x3, x4, M) h
def fX8_fewestCut_0 (x1 : Int32) (x2 : Int32) (M : gMem) : Option (Int32 × gMem) :=
  fX8_fewestCut_5h x1 x2 (-1 : Int32) (0 : Int32) M
set_option maxRecDepth 100000 in
theorem CX8_fewestCut_0 {G : gG} {d : Nat} {Z : Option Value → gMem → Prop} (hd : 6 ≤ d) (x1 : Int32) (x2 : Int32) (M : gMem) (P : Int32 × gMem → Prop) (k0 : ∀ (r : Int32) (N : gMem), P (r, N) → Z (some (.int r)) N) (h : gOKq (fX8_fewestCut_0 x1 x2 M) P) : gGo G YX8_fewestCut d Z 0 [some (.ref 0), some (.int x1), some (.int x2), none, none, none] [] M := by
  unfold fX8_fewestCut_0 at h
  refine go_rn 4 (pc' := 5) (L' := [some (.ref 0), some (.int x1), some (.int x2), some (.int (-1 : Int32)), some (.int (0 : Int32)), none]) (S' := []) (M' := M) okX8_fewestCut rfl ?_
  exact go_wk (CX8_fewestCut_5h hd x1 x2 (-1 : Int32) (0 : Int32) M P k0 h) ⟨rfl, rfl, rfl, rfl, rfl, True.intro⟩
def fX8_fewestCut (a1 : Int32) (a2 : Int32) (M : gMem) : Option (Int32 × gMem) := fX8_fewestCut_0 a1 a2 M
theorem SX8_fewestCut {G : gG} (a1 : Int32) (a2 : Int32) (M : gMem) {r : Int32} {N : gMem} (h : fX8_fewestCut a1 a2 M = some (r, N)) : gRun G YX8_fewestCut 6 [.ref 0, .int a1, .int a2] M (fun r' N' => r' = some (.int r) ∧ N' = N) := gRun_in (by decide +kernel) rfl (fun d hd => go_wk (CX8_fewestCut_0 hd a1 a2 M (fun p => p = (r, N)) (fun r N hh => by cases hh; exact ⟨rfl, rfl⟩) (gq_of h)) ⟨rfl, rfl, rfl, True.intro⟩)
def fX8_snips_0 (x1 : Int32) (x2 : Int32) (M : gMem) : Option (Int32 × gMem) :=
  if gOb 7 (M.2.2 0) = true then gB0 (fX7_hasPair (M.2.2 0) x1 x2 M) (fun r2 => if r2 = 0 then some ((-2 : Int32), M) else gBp (fX8_fewestCut x1 x2 M) (fun r4 M5 => if r4 = (-1 : Int32) then some ((-1 : Int32), M5) else gB0 (fJ6_bitCount_0f7a4 r4 M5) (fun r7 => some (r7, M5)))) else none
set_option maxRecDepth 100000 in
theorem CX8_snips_0 {G : gG} {d : Nat} {Z : Option Value → gMem → Prop} (hd : 7 ≤ d) (x1 : Int32) (x2 : Int32) (M : gMem) (P : Int32 × gMem → Prop) (k0 : ∀ (r : Int32) (N : gMem), P (r, N) → Z (some (.int r)) N) (h : gOKq (fX8_snips_0 x1 x2 M) P) : gGo G YX8_snips d Z 0 [some (.ref 0), some (.int x1), some (.int x2), none] [] M := by
  unfold fX8_snips_0 at h
  refine go_rn 1 (pc' := 1) (L' := [some (.ref 0), some (.int x1), some (.int x2), none]) (S' := [.ref 0]) (M' := M) okX8_snips rfl ?_
  refine go_ck okX8_snips rfl (gOb_c rfl) ?_
  obtain ⟨c1, h⟩ := gq_if h
  refine go_rn 2 (pc' := 6) (L' := [some (.ref 0), some (.int x1), some (.int x2), none]) (S' := [.int x2, .int x1, .ref (M.2.2 0)]) (M' := M) okX8_snips rfl ?_
  obtain ⟨r2, e3, h⟩ := gB0_ok h
  refine go_call1 ocX8_snips rfl rfl c1 rfl (SX7_hasPair (M.2.2 0) x1 x2 M c1 e3) (Nat.lt_of_lt_of_le (by decide) hd) ?_
  refine go_br okX8_snips rfl (fun hp => ?_) (fun hp => ?_)
  · have h := gq_pos hp h
    refine go_rn 1 (pc' := 14) (L' := [some (.ref 0), some (.int x1), some (.int x2), none]) (S' := [.int (-2 : Int32)]) (M' := M) okX8_snips rfl ?_
    exact go_iret (reX8_snips _ (by decide)) rfl (k0 (-2 : Int32) M h)
  · have h := gq_neg hp h
    refine go_rn 3 (pc' := 18) (L' := [some (.ref 0), some (.int x1), some (.int x2), none]) (S' := [.int x2, .int x1, .ref 0]) (M' := M) okX8_snips rfl ?_
    obtain ⟨r4, M5, e6, h⟩ := gBp_ok h
    refine go_call1 ocX8_snips rfl rfl (gOb_c rfl) rfl (SX8_fewestCut x1 x2 M e6) (Nat.lt_of_lt_of_le (by decide) hd) ?_
    refine go_rn 3 (pc' := 24) (L' := [some (.ref 0), some (.int x1), some (.int x2), some (.int r4)]) (S' := [.int (-1 : Int32), .int r4]) (M' := M5) okX8_snips rfl ?_
    refine go_br okX8_snips rfl (fun hp => ?_) (fun hp => ?_)
    · have h := gq_pos hp h
      refine go_rn 2 (pc' := 35) (L' := [some (.ref 0), some (.int x1), some (.int x2), some (.int r4)]) (S' := [.int (-1 : Int32)]) (M' := M5) okX8_snips rfl ?_
      exact go_iret (reX8_snips _ (by decide)) rfl (k0 (-1 : Int32) M5 h)
    · have h := gq_neg hp h
      refine go_rn 1 (pc' := 32) (L' := [some (.ref 0), some (.int x1), some (.int x2), some (.int r4)]) (S' := [.int r4]) (M' := M5) okX8_snips rfl ?_
      obtain ⟨r7, e8, h⟩ := gB0_ok h
      refine go_call1 ocX8_snips rfl rfl rfl rfl (SJ6_bitCount_0f7a4 r4 M5 e8) (Nat.lt_of_lt_of_le (by decide) hd) ?_
      exact go_iret (reX8_snips _ (by decide)) rfl (k0 r7 M5 h)
def fX8_snips (a1 : Int32) (a2 : Int32) (M : gMem) : Option (Int32 × gMem) := fX8_snips_0 a1 a2 M
theorem SX8_snips {G : gG} (a1 : Int32) (a2 : Int32) (M : gMem) {r : Int32} {N : gMem} (h : fX8_snips a1 a2 M = some (r, N)) : gRun G YX8_snips 7 [.ref 0, .int a1, .int a2] M (fun r' N' => r' = some (.int r) ∧ N' = N) := gRun_in (by decide +kernel) rfl (fun d hd => go_wk (CX8_snips_0 hd a1 a2 M (fun p => p = (r, N)) (fun r N hh => by cases hh; exact ⟨rfl, rfl⟩) (gq_of h)) ⟨rfl, rfl, rfl, True.intro⟩)
def fX8_snipped_0 (x1 : Int32) (x2 : Int32) (M : gMem) : Option (Int32 × gMem) :=
  if gOb 7 (M.2.2 0) = true then gB0 (fX7_hasPair (M.2.2 0) x1 x2 M) (fun r2 => if r2 = 0 then some ((-2 : Int32), M) else gBp (fX8_fewestCut x1 x2 M) (fun r4 M5 => some (r4, M5))) else none
set_option maxRecDepth 100000 in
theorem CX8_snipped_0 {G : gG} {d : Nat} {Z : Option Value → gMem → Prop} (hd : 7 ≤ d) (x1 : Int32) (x2 : Int32) (M : gMem) (P : Int32 × gMem → Prop) (k0 : ∀ (r : Int32) (N : gMem), P (r, N) → Z (some (.int r)) N) (h : gOKq (fX8_snipped_0 x1 x2 M) P) : gGo G YX8_snipped d Z 0 [some (.ref 0), some (.int x1), some (.int x2)] [] M := by
  unfold fX8_snipped_0 at h
  refine go_rn 1 (pc' := 1) (L' := [some (.ref 0), some (.int x1), some (.int x2)]) (S' := [.ref 0]) (M' := M) okX8_snipped rfl ?_
  refine go_ck okX8_snipped rfl (gOb_c rfl) ?_
  obtain ⟨c1, h⟩ := gq_if h
  refine go_rn 2 (pc' := 6) (L' := [some (.ref 0), some (.int x1), some (.int x2)]) (S' := [.int x2, .int x1, .ref (M.2.2 0)]) (M' := M) okX8_snipped rfl ?_
  obtain ⟨r2, e3, h⟩ := gB0_ok h
  refine go_call1 ocX8_snipped rfl rfl c1 rfl (SX7_hasPair (M.2.2 0) x1 x2 M c1 e3) (Nat.lt_of_lt_of_le (by decide) hd) ?_
  refine go_br okX8_snipped rfl (fun hp => ?_) (fun hp => ?_)
  · have h := gq_pos hp h
    refine go_rn 1 (pc' := 14) (L' := [some (.ref 0), some (.int x1), some (.int x2)]) (S' := [.int (-2 : Int32)]) (M' := M) okX8_snipped rfl ?_
    exact go_iret (reX8_snipped _ (by decide)) rfl (k0 (-2 : Int32) M h)
  · have h := gq_neg hp h
    refine go_rn 3 (pc' := 18) (L' := [some (.ref 0), some (.int x1), some (.int x2)]) (S' := [.int x2, .int x1, .ref 0]) (M' := M) okX8_snipped rfl ?_
    obtain ⟨r4, M5, e6, h⟩ := gBp_ok h
    refine go_call1 ocX8_snipped rfl rfl (gOb_c rfl) rfl (SX8_fewestCut x1 x2 M e6) (Nat.lt_of_lt_of_le (by decide) hd) ?_
    exact go_iret (reX8_snipped _ (by decide)) rfl (k0 r4 M5 h)
def fX8_snipped (a1 : Int32) (a2 : Int32) (M : gMem) : Option (Int32 × gMem) := fX8_snipped_0 a1 a2 M
theorem SX8_snipped {G : gG} (a1 : Int32) (a2 : Int32) (M : gMem) {r : Int32} {N : gMem} (h : fX8_snipped a1 a2 M = some (r, N)) : gRun G YX8_snipped 7 [.ref 0, .int a1, .int a2] M (fun r' N' => r' = some (.int r) ∧ N' = N) := gRun_in (by decide +kernel) rfl (fun d hd => go_wk (CX8_snipped_0 hd a1 a2 M (fun p => p = (r, N)) (fun r N hh => by cases hh; exact ⟨rfl, rfl⟩) (gq_of h)) ⟨rfl, rfl, rfl, True.intro⟩)
def fX8_wax_56 (x1 : Int32) (x2 : Int32) (x3 : Int32) (x4 : Int32) (x5 : Int32) (M : gMem) : Option (Sum (Int32 × Int32 × gMem) (Int32 × gMem)) :=
  gBp (fX8_cutsApart x4 x1 x2 M) (fun r1 M2 => if r1 = 0 then some (.inl (x3, (x4 + 1), M2)) else some (.inl (x5, (x4 + 1), M2)))
set_option maxRecDepth 100000 in
theorem CX8_wax_56 {G : gG} {d : Nat} {Z : Option Value → gMem → Prop} (hd : 6 ≤ d) (x1 : Int32) (x2 : Int32) (x3 : Int32) (x4 : Int32) (x5 : Int32) (M : gMem) (P : Sum (Int32 × Int32 × gMem) (Int32 × gMem) → Prop) (k0 : ∀ (r : Int32) (N : gMem), P (.inr (r, N)) → Z (some (.int r)) N) (k1 : ∀ (x3 : Int32) (x4 : Int32) (M : gMem), P (.inl (x3, x4, M)) → gGo G YX8_wax d Z 20 [some (.ref 0), some (.int x1), some (.int x2), some (.int x3), some (.int x4), none] [] M) (h : gOKq (fX8_wax_56 x1 x2 x3 x4 x5 M) P) : gGo G YX8_wax d Z 56 [some (.ref 0), some (.int x1), some (.int x2), some (.int x3), some (.int x4), some (.int x5)] [] M := by
  unfold fX8_wax_56 at h
  refine go_rn 4 (pc' := 61) (L' := [some (.ref 0), some (.int x1), some (.int x2), some (.int x3), some (.int x4), some (.int x5)]) (S' := [.int x2, .int x1, .int x4, .ref 0]) (M' := M) okX8_wax rfl ?_
  obtain ⟨r1, M2, e3, h⟩ := gBp_ok h
  refine go_call1 ocX8_wax rfl rfl (gOb_c rfl) rfl (SX8_cutsApart x4 x1 x2 M e3) (Nat.lt_of_lt_of_le (by decide) hd) ?_
  refine go_br okX8_wax rfl (fun hp => ?_) (fun hp => ?_)
  · have h := gq_pos hp h
    refine go_rn 2 (pc' := 20) (L' := [some (.ref 0), some (.int x1), some (.int x2), some (.int x3), some (.int (x4 + 1)), some (.int x5)]) (S' := []) (M' := M2) okX8_wax rfl ?_
    exact go_wk (k1 (x3) ((x4 + 1)) M2 h) ⟨rfl, rfl, rfl, rfl, rfl, True.intro⟩
  · have h := gq_neg hp h
    refine go_rn 4 (pc' := 20) (L' := [some (.ref 0), some (.int x1), some (.int x2), some (.int x5), some (.int (x4 + 1)), some (.int x5)]) (S' := []) (M' := M2) okX8_wax rfl ?_
    exact go_wk (k1 (x5) ((x4 + 1)) M2 h) ⟨rfl, rfl, rfl, rfl, rfl, True.intro⟩
def fX8_wax_20 (x1 : Int32) (x2 : Int32) (x3 : Int32) (x4 : Int32) (M : gMem) : Option (Sum (Int32 × Int32 × gMem) (Int32 × gMem)) :=
  if gOb 7 (M.2.2 0) = true then if ((1 : Int32) <<< ((M.1 (M.2.2 0) 6) &&& 31)) ≤ x4 then some (.inr (x3, M)) else if gOb 7 (M.2.2 0) = true then gB0 (fX7_waxOf (M.2.2 0) x4 M) (fun r3 => if x3 = (-1 : Int32) then fX8_wax_56 x1 x2 x3 x4 r3 M else if x3 ≤ r3 then some (.inl (x3, (x4 + 1), M)) else fX8_wax_56 x1 x2 x3 x4 r3 M) else none else none
set_option maxRecDepth 100000 in
theorem CX8_wax_20 {G : gG} {d : Nat} {Z : Option Value → gMem → Prop} (hd : 6 ≤ d) (x1 : Int32) (x2 : Int32) (x3 : Int32) (x4 : Int32) (M : gMem) (P : Sum (Int32 × Int32 × gMem) (Int32 × gMem) → Prop) (k0 : ∀ (r : Int32) (N : gMem), P (.inr (r, N)) → Z (some (.int r)) N) (k1 : ∀ (x3 : Int32) (x4 : Int32) (M : gMem), P (.inl (x3, x4, M)) → gGo G YX8_wax d Z 20 [some (.ref 0), some (.int x1), some (.int x2), some (.int x3), some (.int x4), none] [] M) (h : gOKq (fX8_wax_20 x1 x2 x3 x4 M) P) : gGo G YX8_wax d Z 20 [some (.ref 0), some (.int x1), some (.int x2), some (.int x3), some (.int x4), none] [] M := by
  unfold fX8_wax_20 at h
  refine go_rn 3 (pc' := 24) (L' := [some (.ref 0), some (.int x1), some (.int x2), some (.int x3), some (.int x4), none]) (S' := [.ref 0, .int (1 : Int32), .int x4]) (M' := M) okX8_wax rfl ?_
  refine go_ck okX8_wax rfl (gOb_c rfl) ?_
  obtain ⟨c1, h⟩ := gq_if h
  refine go_ck okX8_wax rfl c1 ?_
  refine go_rn 1 (pc' := 31) (L' := [some (.ref 0), some (.int x1), some (.int x2), some (.int x3), some (.int x4), none]) (S' := [.int ((1 : Int32) <<< ((M.1 (M.2.2 0) 6) &&& 31)), .int x4]) (M' := M) okX8_wax rfl ?_
  refine go_br okX8_wax rfl (fun hp => ?_) (fun hp => ?_)
  · have h := gq_pos hp h
    refine go_rn 1 (pc' := 77) (L' := [some (.ref 0), some (.int x1), some (.int x2), some (.int x3), some (.int x4), none]) (S' := [.int x3]) (M' := M) okX8_wax rfl ?_
    exact go_iret (reX8_wax _ (by decide)) rfl (k0 x3 M h)
  · have h := gq_neg hp h
    refine go_rn 1 (pc' := 35) (L' := [some (.ref 0), some (.int x1), some (.int x2), some (.int x3), some (.int x4), none]) (S' := [.ref 0]) (M' := M) okX8_wax rfl ?_
    refine go_ck okX8_wax rfl (gOb_c rfl) ?_
    obtain ⟨c2, h⟩ := gq_if h
    refine go_rn 1 (pc' := 40) (L' := [some (.ref 0), some (.int x1), some (.int x2), some (.int x3), some (.int x4), none]) (S' := [.int x4, .ref (M.2.2 0)]) (M' := M) okX8_wax rfl ?_
    obtain ⟨r3, e4, h⟩ := gB0_ok h
    refine go_call1 ocX8_wax rfl rfl c2 rfl (SX7_waxOf (M.2.2 0) x4 M c2 e4) (Nat.lt_of_lt_of_le (by decide) hd) ?_
    refine go_rn 3 (pc' := 47) (L' := [some (.ref 0), some (.int x1), some (.int x2), some (.int x3), some (.int x4), some (.int r3)]) (S' := [.int (-1 : Int32), .int x3]) (M' := M) okX8_wax rfl ?_
    refine go_br okX8_wax rfl (fun hp => ?_) (fun hp => ?_)
    · have h := gq_pos hp h
      exact go_wk (CX8_wax_56 hd x1 x2 x3 x4 r3 M P k0 k1 h) ⟨rfl, rfl, rfl, rfl, rfl, rfl, True.intro⟩
    · have h := gq_neg hp h
      refine go_rn 2 (pc' := 53) (L' := [some (.ref 0), some (.int x1), some (.int x2), some (.int x3), some (.int x4), some (.int r3)]) (S' := [.int x3, .int r3]) (M' := M) okX8_wax rfl ?_
      refine go_br okX8_wax rfl (fun hp => ?_) (fun hp => ?_)
      · have h := gq_pos hp h
        refine go_rn 2 (pc' := 20) (L' := [some (.ref 0), some (.int x1), some (.int x2), some (.int x3), some (.int (x4 + 1)), some (.int r3)]) (S' := []) (M' := M) okX8_wax rfl ?_
        exact go_wk (k1 (x3) ((x4 + 1)) M h) ⟨rfl, rfl, rfl, rfl, rfl, True.intro⟩
      · have h := gq_neg hp h
        exact go_wk (CX8_wax_56 hd x1 x2 x3 x4 r3 M P k0 k1 h) ⟨rfl, rfl, rfl, rfl, rfl, rfl, True.intro⟩
def fX8_wax_20h (x1 : Int32) (x2 : Int32) (x3 : Int32) (x4 : Int32) (M : gMem) : Option (Int32 × gMem) :=
  gLp (fun s : Int32 × Int32 × gMem => fX8_wax_20 x1 x2 (s.1) (s.2.1) s.2.2) gFu (x3, x4, M)
set_option maxRecDepth 100000 in
theorem CX8_wax_20h {G : gG} {d : Nat} {Z : Option Value → gMem → Prop} (hd : 6 ≤ d) (x1 : Int32) (x2 : Int32) (x3 : Int32) (x4 : Int32) (M : gMem) (P : Int32 × gMem → Prop) (k0 : ∀ (r : Int32) (N : gMem), P (r, N) → Z (some (.int r)) N) (h : gOKq (fX8_wax_20h x1 x2 x3 x4 M) P) : gGo G YX8_wax d Z 20 [some (.ref 0), some (.int x1), some (.int x2), some (.int x3), some (.int x4), none] [] M :=
  gLp_go (K := fun s : Int32 × Int32 × gMem => gGo G YX8_wax d Z 20 [some (.ref 0), some (.int x1), some (.int x2), some (.int s.1), some (.int s.2.1), none] [] s.2.2) (P := P) (fun s hs => CX8_wax_20 hd (x1) (x2) (s.1) (s.2.1) (s.2.2) (Sum.elim (fun s : Int32 × Int32 × gMem => gGo G YX8_wax d Z 20 [some (.ref 0), some (.int x1), some (.int x2), some (.int s.1), some (.int s.2.1), none] [] s.2.2) P) k0 (fun x3 x4 M hh => hh) hs) gFu (x3, x4, M) h
def fX8_wax_0 (x1 : Int32) (x2 : Int32) (M : gMem) : Option (Int32 × gMem) :=
  if gOb 7 (M.2.2 0) = true then gB0 (fX7_hasPair (M.2.2 0) x1 x2 M) (fun r2 => if r2 = 0 then some ((-2 : Int32), M) else fX8_wax_20h x1 x2 (-1 : Int32) (0 : Int32) M) else none
set_option maxRecDepth 100000 in
theorem CX8_wax_0 {G : gG} {d : Nat} {Z : Option Value → gMem → Prop} (hd : 6 ≤ d) (x1 : Int32) (x2 : Int32) (M : gMem) (P : Int32 × gMem → Prop) (k0 : ∀ (r : Int32) (N : gMem), P (r, N) → Z (some (.int r)) N) (h : gOKq (fX8_wax_0 x1 x2 M) P) : gGo G YX8_wax d Z 0 [some (.ref 0), some (.int x1), some (.int x2), none, none, none] [] M := by
  unfold fX8_wax_0 at h
  refine go_rn 1 (pc' := 1) (L' := [some (.ref 0), some (.int x1), some (.int x2), none, none, none]) (S' := [.ref 0]) (M' := M) okX8_wax rfl ?_
  refine go_ck okX8_wax rfl (gOb_c rfl) ?_
  obtain ⟨c1, h⟩ := gq_if h
  refine go_rn 2 (pc' := 6) (L' := [some (.ref 0), some (.int x1), some (.int x2), none, none, none]) (S' := [.int x2, .int x1, .ref (M.2.2 0)]) (M' := M) okX8_wax rfl ?_
  obtain ⟨r2, e3, h⟩ := gB0_ok h
  refine go_call1 ocX8_wax rfl rfl c1 rfl (SX7_hasPair (M.2.2 0) x1 x2 M c1 e3) (Nat.lt_of_lt_of_le (by decide) hd) ?_
  refine go_br okX8_wax rfl (fun hp => ?_) (fun hp => ?_)
  · have h := gq_pos hp h
    refine go_rn 1 (pc' := 14) (L' := [some (.ref 0), some (.int x1), some (.int x2), none, none, none]) (S' := [.int (-2 : Int32)]) (M' := M) okX8_wax rfl ?_
    exact go_iret (reX8_wax _ (by decide)) rfl (k0 (-2 : Int32) M h)
  · have h := gq_neg hp h
    refine go_rn 4 (pc' := 20) (L' := [some (.ref 0), some (.int x1), some (.int x2), some (.int (-1 : Int32)), some (.int (0 : Int32)), none]) (S' := []) (M' := M) okX8_wax rfl ?_
    exact go_wk (CX8_wax_20h hd x1 x2 (-1 : Int32) (0 : Int32) M P k0 h) ⟨rfl, rfl, rfl, rfl, rfl, True.intro⟩
def fX8_wax (a1 : Int32) (a2 : Int32) (M : gMem) : Option (Int32 × gMem) := fX8_wax_0 a1 a2 M
theorem SX8_wax {G : gG} (a1 : Int32) (a2 : Int32) (M : gMem) {r : Int32} {N : gMem} (h : fX8_wax a1 a2 M = some (r, N)) : gRun G YX8_wax 6 [.ref 0, .int a1, .int a2] M (fun r' N' => r' = some (.int r) ∧ N' = N) := gRun_in (by decide +kernel) rfl (fun d hd => go_wk (CX8_wax_0 hd a1 a2 M (fun p => p = (r, N)) (fun r N hh => by cases hh; exact ⟨rfl, rfl⟩) (gq_of h)) ⟨rfl, rfl, rfl, True.intro⟩)
def fX8_staysWell_20 (x1 : Int32) (M : gMem) : Option (Int32 × gMem) :=
  if gOb 7 (M.2.2 0) = true then if gOb 7 (M.2.2 0) = true then gB0 (fX2_live (M.2.2 0) (M.1 (M.2.2 0) 1) M) (fun M3 => gB0 (fX8_has (M3.1 14 16) x1 M3) (fun r5 => if r5 = 0 then some ((1 : Int32), M3) else some ((0 : Int32), M3))) else none else none
set_option maxRecDepth 100000 in
theorem CX8_staysWell_20 {G : gG} {d : Nat} {Z : Option Value → gMem → Prop} (hd : 5 ≤ d) (x1 : Int32) (M : gMem) (P : Int32 × gMem → Prop) (k0 : ∀ (r : Int32) (N : gMem), P (r, N) → Z (some (.int r)) N) (h : gOKq (fX8_staysWell_20 x1 M) P) : gGo G YX8_staysWell d Z 20 [some (.ref 0), some (.int x1), none] [.ref 0, .ref 14] M := by
  unfold fX8_staysWell_20 at h
  refine go_ck okX8_staysWell rfl (gOb_c rfl) ?_
  obtain ⟨c1, h⟩ := gq_if h
  refine go_rn 1 (pc' := 24) (L' := [some (.ref 0), some (.int x1), none]) (S' := [.ref 0, .ref (M.2.2 0), .ref 14]) (M' := M) okX8_staysWell rfl ?_
  refine go_ck okX8_staysWell rfl (gOb_c rfl) ?_
  obtain ⟨c2, h⟩ := gq_if h
  refine go_ck okX8_staysWell rfl c2 ?_
  obtain ⟨M3, e4, h⟩ := gB0_ok h
  refine go_call1 ocX8_staysWell rfl rfl (gOb_c rfl) rfl (SX2_live (M.2.2 0) (M.1 (M.2.2 0) 1) M c1 e4) (Nat.lt_of_lt_of_le (by decide) hd) ?_
  refine go_rn 1 (pc' := 34) (L' := [some (.ref 0), some (.int x1), none]) (S' := [.ref 0]) (M' := M3) okX8_staysWell rfl ?_
  refine go_ck okX8_staysWell rfl (gOb_c rfl) ?_
  refine go_ck okX8_staysWell rfl (gOb_c rfl) ?_
  refine go_rn 1 (pc' := 41) (L' := [some (.ref 0), some (.int x1), none]) (S' := [.int x1, .int (M3.1 14 16)]) (M' := M3) okX8_staysWell rfl ?_
  obtain ⟨r5, e6, h⟩ := gB0_ok h
  refine go_call1 ocX8_staysWell rfl rfl rfl rfl (SX8_has (M3.1 14 16) x1 M3 e6) (Nat.lt_of_lt_of_le (by decide) hd) ?_
  refine go_br okX8_staysWell rfl (fun hp => ?_) (fun hp => ?_)
  · have h := gq_pos hp h
    refine go_rn 2 (pc' := 52) (L' := [some (.ref 0), some (.int x1), none]) (S' := [.int (1 : Int32)]) (M' := M3) okX8_staysWell rfl ?_
    exact go_zret (reX8_staysWell _ (by decide)) rfl (Or.inr rfl) (k0 (1 : Int32) M3 h)
  · have h := gq_neg hp h
    refine go_rn 1 (pc' := 52) (L' := [some (.ref 0), some (.int x1), none]) (S' := [.int (0 : Int32)]) (M' := M3) okX8_staysWell rfl ?_
    exact go_zret (reX8_staysWell _ (by decide)) rfl (Or.inl rfl) (k0 (0 : Int32) M3 h)
def fX8_staysWell_0 (x1 : Int32) (x2 : Int32) (M : gMem) : Option (Int32 × gMem) :=
  gB0 (fX2_supposeNothing M) (fun M1 => fX8_staysWell_20 x1 (gSI M1 14 2 x2))
set_option maxRecDepth 100000 in
theorem CX8_staysWell_0 {G : gG} {d : Nat} {Z : Option Value → gMem → Prop} (hd : 5 ≤ d) (x1 : Int32) (x2 : Int32) (M : gMem) (P : Int32 × gMem → Prop) (k0 : ∀ (r : Int32) (N : gMem), P (r, N) → Z (some (.int r)) N) (h : gOKq (fX8_staysWell_0 x1 x2 M) P) : gGo G YX8_staysWell d Z 0 [some (.ref 0), some (.int x1), some (.int x2)] [] M := by
  unfold fX8_staysWell_0 at h
  refine go_rn 1 (pc' := 1) (L' := [some (.ref 0), some (.int x1), some (.int x2)]) (S' := [.ref 0]) (M' := M) okX8_staysWell rfl ?_
  refine go_ck okX8_staysWell rfl (gOb_c rfl) ?_
  obtain ⟨M1, e2, h⟩ := gB0_ok h
  refine go_call1 ocX8_staysWell rfl rfl (gOb_c rfl) rfl (SX2_supposeNothing M e2) (Nat.lt_of_lt_of_le (by decide) hd) ?_
  refine go_rn 1 (pc' := 8) (L' := [some (.ref 0), some (.int x1), some (.int x2)]) (S' := [.ref 0]) (M' := M1) okX8_staysWell rfl ?_
  refine go_ck okX8_staysWell rfl (gOb_c rfl) ?_
  refine go_rn 1 (pc' := 12) (L' := [some (.ref 0), some (.int x1), some (.int x2)]) (S' := [.int x2, .ref 14]) (M' := M1) okX8_staysWell rfl ?_
  refine go_ck okX8_staysWell rfl (gOb_c rfl) ?_
  refine go_rn 1 (pc' := 16) (L' := [some (.ref 0), some (.int x1), some (.int x2)]) (S' := [.ref 0]) (M' := (gSI M1 14 2 x2)) okX8_staysWell rfl ?_
  refine go_ck okX8_staysWell rfl (gOb_c rfl) ?_
  refine go_rn 1 (pc' := 20) (L' := [some (.ref 0), some (.int x1), some (.int x2)]) (S' := [.ref 0, .ref 14]) (M' := (gSI M1 14 2 x2)) okX8_staysWell rfl ?_
  exact go_wk (CX8_staysWell_20 hd x1 (gSI M1 14 2 x2) P k0 h) ⟨rfl, rfl, True.intro⟩
def fX8_staysWell (a1 : Int32) (a2 : Int32) (M : gMem) : Option (Int32 × gMem) := fX8_staysWell_0 a1 a2 M
theorem SX8_staysWell {G : gG} (a1 : Int32) (a2 : Int32) (M : gMem) {r : Int32} {N : gMem} (h : fX8_staysWell a1 a2 M = some (r, N)) : gRun G YX8_staysWell 5 [.ref 0, .int a1, .int a2] M (fun r' N' => r' = some (.int r) ∧ N' = N) := gRun_in (by decide +kernel) rfl (fun d hd => go_wk (CX8_staysWell_0 hd a1 a2 M (fun p => p = (r, N)) (fun r N hh => by cases hh; exact ⟨rfl, rfl⟩) (gq_of h)) ⟨rfl, rfl, rfl, True.intro⟩)
def fX8_fewestGuards_38 (x1 : Int32) (x2 : Int32) (x3 : Int32) (s0 : Int32) (M : gMem) : Option (Sum (Int32 × Int32 × gMem) (Int32 × gMem)) :=
  if s0 = 0 then some (.inl (x2, (x3 + 1), M)) else gB0 (fX8_has x3 x1 M) (fun r1 => if r1 = 0 then gBp (fX8_staysWell x1 x3 M) (fun r3 M4 => if r3 = 0 then some (.inl (x2, (x3 + 1), M4)) else some (.inl (x3, (x3 + 1), M4))) else some (.inl (x2, (x3 + 1), M)))
set_option maxRecDepth 100000 in
theorem CX8_fewestGuards_38 {G : gG} {d : Nat} {Z : Option Value → gMem → Prop} (hd : 6 ≤ d) (x1 : Int32) (x2 : Int32) (x3 : Int32) (s0 : Int32) (M : gMem) (P : Sum (Int32 × Int32 × gMem) (Int32 × gMem) → Prop) (k0 : ∀ (r : Int32) (N : gMem), P (.inr (r, N)) → Z (some (.int r)) N) (k1 : ∀ (x2 : Int32) (x3 : Int32) (M : gMem), P (.inl (x2, x3, M)) → gGo G YX8_fewestGuards d Z 4 [some (.ref 0), some (.int x1), some (.int x2), some (.int x3), none] [] M) (h : gOKq (fX8_fewestGuards_38 x1 x2 x3 s0 M) P) : gGo G YX8_fewestGuards d Z 38 [some (.ref 0), some (.int x1), some (.int x2), some (.int x3), none] [.int s0] M := by
  unfold fX8_fewestGuards_38 at h
  refine go_rn 2 (pc' := 42) (L' := [some (.ref 0), some (.int x1), some (.int x2), some (.int x3), some (.int s0)]) (S' := [.int s0]) (M' := M) okX8_fewestGuards rfl ?_
  refine go_br okX8_fewestGuards rfl (fun hp => ?_) (fun hp => ?_)
  · have h := gq_pos hp h
    refine go_rn 2 (pc' := 4) (L' := [some (.ref 0), some (.int x1), some (.int x2), some (.int (x3 + 1)), some (.int s0)]) (S' := []) (M' := M) okX8_fewestGuards rfl ?_
    exact go_wk (k1 (x2) ((x3 + 1)) M h) ⟨rfl, rfl, rfl, rfl, True.intro⟩
  · have h := gq_neg hp h
    refine go_rn 2 (pc' := 47) (L' := [some (.ref 0), some (.int x1), some (.int x2), some (.int x3), some (.int s0)]) (S' := [.int x1, .int x3]) (M' := M) okX8_fewestGuards rfl ?_
    obtain ⟨r1, e2, h⟩ := gB0_ok h
    refine go_call1 ocX8_fewestGuards rfl rfl rfl rfl (SX8_has x3 x1 M e2) (Nat.lt_of_lt_of_le (by decide) hd) ?_
    refine go_br okX8_fewestGuards rfl (fun hp => ?_) (fun hp => ?_)
    · have h := gq_pos hp h
      refine go_rn 3 (pc' := 56) (L' := [some (.ref 0), some (.int x1), some (.int x2), some (.int x3), some (.int s0)]) (S' := [.int x3, .int x1, .ref 0]) (M' := M) okX8_fewestGuards rfl ?_
      obtain ⟨r3, M4, e5, h⟩ := gBp_ok h
      refine go_call1 ocX8_fewestGuards rfl rfl (gOb_c rfl) rfl (SX8_staysWell x1 x3 M e5) (Nat.lt_of_lt_of_le (by decide) hd) ?_
      refine go_br okX8_fewestGuards rfl (fun hp => ?_) (fun hp => ?_)
      · have h := gq_pos hp h
        refine go_rn 2 (pc' := 4) (L' := [some (.ref 0), some (.int x1), some (.int x2), some (.int (x3 + 1)), some (.int s0)]) (S' := []) (M' := M4) okX8_fewestGuards rfl ?_
        exact go_wk (k1 (x2) ((x3 + 1)) M4 h) ⟨rfl, rfl, rfl, rfl, True.intro⟩
      · have h := gq_neg hp h
        refine go_rn 4 (pc' := 4) (L' := [some (.ref 0), some (.int x1), some (.int x3), some (.int (x3 + 1)), some (.int s0)]) (S' := []) (M' := M4) okX8_fewestGuards rfl ?_
        exact go_wk (k1 (x3) ((x3 + 1)) M4 h) ⟨rfl, rfl, rfl, rfl, True.intro⟩
    · have h := gq_neg hp h
      refine go_rn 2 (pc' := 4) (L' := [some (.ref 0), some (.int x1), some (.int x2), some (.int (x3 + 1)), some (.int s0)]) (S' := []) (M' := M) okX8_fewestGuards rfl ?_
      exact go_wk (k1 (x2) ((x3 + 1)) M h) ⟨rfl, rfl, rfl, rfl, True.intro⟩
def fX8_fewestGuards_33 (x1 : Int32) (x2 : Int32) (x3 : Int32) (M : gMem) : Option (Sum (Int32 × Int32 × gMem) (Int32 × gMem)) :=
  fX8_fewestGuards_38 x1 x2 x3 (1 : Int32) M
set_option maxRecDepth 100000 in
theorem CX8_fewestGuards_33 {G : gG} {d : Nat} {Z : Option Value → gMem → Prop} (hd : 6 ≤ d) (x1 : Int32) (x2 : Int32) (x3 : Int32) (M : gMem) (P : Sum (Int32 × Int32 × gMem) (Int32 × gMem) → Prop) (k0 : ∀ (r : Int32) (N : gMem), P (.inr (r, N)) → Z (some (.int r)) N) (k1 : ∀ (x2 : Int32) (x3 : Int32) (M : gMem), P (.inl (x2, x3, M)) → gGo G YX8_fewestGuards d Z 4 [some (.ref 0), some (.int x1), some (.int x2), some (.int x3), none] [] M) (h : gOKq (fX8_fewestGuards_33 x1 x2 x3 M) P) : gGo G YX8_fewestGuards d Z 33 [some (.ref 0), some (.int x1), some (.int x2), some (.int x3), none] [] M := by
  unfold fX8_fewestGuards_33 at h
  refine go_rn 2 (pc' := 38) (L' := [some (.ref 0), some (.int x1), some (.int x2), some (.int x3), none]) (S' := [.int (1 : Int32)]) (M' := M) okX8_fewestGuards rfl ?_
  exact go_wk (CX8_fewestGuards_38 hd x1 x2 x3 (1 : Int32) M P k0 k1 h) ⟨rfl, rfl, rfl, rfl, True.intro⟩
def fX8_fewestGuards_4 (x1 : Int32) (x2 : Int32) (x3 : Int32) (M : gMem) : Option (Sum (Int32 × Int32 × gMem) (Int32 × gMem)) :=
  if gOb 7 (M.2.2 0) = true then if ((1 : Int32) <<< ((M.1 (M.2.2 0) 5) &&& 31)) ≤ x3 then some (.inr (x2, M)) else if x2 = (-1 : Int32) then fX8_fewestGuards_33 x1 x2 x3 M else gB0 (fJ6_bitCount_0f7a4 x3 M) (fun r2 => gB0 (fJ6_bitCount_0f7a4 x2 M) (fun r4 => if r4 ≤ r2 then fX8_fewestGuards_38 x1 x2 x3 (0 : Int32) M else fX8_fewestGuards_33 x1 x2 x3 M)) else none
set_option maxRecDepth 100000 in
theorem CX8_fewestGuards_4 {G : gG} {d : Nat} {Z : Option Value → gMem → Prop} (hd : 6 ≤ d) (x1 : Int32) (x2 : Int32) (x3 : Int32) (M : gMem) (P : Sum (Int32 × Int32 × gMem) (Int32 × gMem) → Prop) (k0 : ∀ (r : Int32) (N : gMem), P (.inr (r, N)) → Z (some (.int r)) N) (k1 : ∀ (x2 : Int32) (x3 : Int32) (M : gMem), P (.inl (x2, x3, M)) → gGo G YX8_fewestGuards d Z 4 [some (.ref 0), some (.int x1), some (.int x2), some (.int x3), none] [] M) (h : gOKq (fX8_fewestGuards_4 x1 x2 x3 M) P) : gGo G YX8_fewestGuards d Z 4 [some (.ref 0), some (.int x1), some (.int x2), some (.int x3), none] [] M := by
  unfold fX8_fewestGuards_4 at h
  refine go_rn 3 (pc' := 7) (L' := [some (.ref 0), some (.int x1), some (.int x2), some (.int x3), none]) (S' := [.ref 0, .int (1 : Int32), .int x3]) (M' := M) okX8_fewestGuards rfl ?_
  refine go_ck okX8_fewestGuards rfl (gOb_c rfl) ?_
  obtain ⟨c1, h⟩ := gq_if h
  refine go_ck okX8_fewestGuards rfl c1 ?_
  refine go_rn 1 (pc' := 14) (L' := [some (.ref 0), some (.int x1), some (.int x2), some (.int x3), none]) (S' := [.int ((1 : Int32) <<< ((M.1 (M.2.2 0) 5) &&& 31)), .int x3]) (M' := M) okX8_fewestGuards rfl ?_
  refine go_br okX8_fewestGuards rfl (fun hp => ?_) (fun hp => ?_)
  · have h := gq_pos hp h
    refine go_rn 1 (pc' := 71) (L' := [some (.ref 0), some (.int x1), some (.int x2), some (.int x3), none]) (S' := [.int x2]) (M' := M) okX8_fewestGuards rfl ?_
    exact go_iret (reX8_fewestGuards _ (by decide)) rfl (k0 x2 M h)
  · have h := gq_neg hp h
    refine go_rn 2 (pc' := 19) (L' := [some (.ref 0), some (.int x1), some (.int x2), some (.int x3), none]) (S' := [.int (-1 : Int32), .int x2]) (M' := M) okX8_fewestGuards rfl ?_
    refine go_br okX8_fewestGuards rfl (fun hp => ?_) (fun hp => ?_)
    · have h := gq_pos hp h
      exact go_wk (CX8_fewestGuards_33 hd x1 x2 x3 M P k0 k1 h) ⟨rfl, rfl, rfl, rfl, True.intro⟩
    · have h := gq_neg hp h
      refine go_rn 1 (pc' := 23) (L' := [some (.ref 0), some (.int x1), some (.int x2), some (.int x3), none]) (S' := [.int x3]) (M' := M) okX8_fewestGuards rfl ?_
      obtain ⟨r2, e3, h⟩ := gB0_ok h
      refine go_call1 ocX8_fewestGuards rfl rfl rfl rfl (SJ6_bitCount_0f7a4 x3 M e3) (Nat.lt_of_lt_of_le (by decide) hd) ?_
      refine go_rn 1 (pc' := 27) (L' := [some (.ref 0), some (.int x1), some (.int x2), some (.int x3), none]) (S' := [.int x2, .int r2]) (M' := M) okX8_fewestGuards rfl ?_
      obtain ⟨r4, e5, h⟩ := gB0_ok h
      refine go_call1 ocX8_fewestGuards rfl rfl rfl rfl (SJ6_bitCount_0f7a4 x2 M e5) (Nat.lt_of_lt_of_le (by decide) hd) ?_
      refine go_br okX8_fewestGuards rfl (fun hp => ?_) (fun hp => ?_)
      · have h := gq_pos hp h
        refine go_rn 1 (pc' := 38) (L' := [some (.ref 0), some (.int x1), some (.int x2), some (.int x3), none]) (S' := [.int (0 : Int32)]) (M' := M) okX8_fewestGuards rfl ?_
        exact go_wk (CX8_fewestGuards_38 hd x1 x2 x3 (0 : Int32) M P k0 k1 h) ⟨rfl, rfl, rfl, rfl, True.intro⟩
      · have h := gq_neg hp h
        exact go_wk (CX8_fewestGuards_33 hd x1 x2 x3 M P k0 k1 h) ⟨rfl, rfl, rfl, rfl, True.intro⟩
def fX8_fewestGuards_4h (x1 : Int32) (x2 : Int32) (x3 : Int32) (M : gMem) : Option (Int32 × gMem) :=
  gLp (fun s : Int32 × Int32 × gMem => fX8_fewestGuards_4 x1 (s.1) (s.2.1) s.2.2) gFu (x2, x3, M)
set_option maxRecDepth 100000 in
theorem CX8_fewestGuards_4h {G : gG} {d : Nat} {Z : Option Value → gMem → Prop} (hd : 6 ≤ d) (x1 : Int32) (x2 : Int32) (x3 : Int32) (M : gMem) (P : Int32 × gMem → Prop) (k0 : ∀ (r : Int32) (N : gMem), P (r, N) → Z (some (.int r)) N) (h : gOKq (fX8_fewestGuards_4h x1 x2 x3 M) P) : gGo G YX8_fewestGuards d Z 4 [some (.ref 0), some (.int x1), some (.int x2), some (.int x3), none] [] M :=
  gLp_go (K := fun s : Int32 × Int32 × gMem => gGo G YX8_fewestGuards d Z 4 [some (.ref 0), some (.int x1), some (.int s.1), some (.int s.2.1), none] [] s.2.2) (P := P) (fun s hs => CX8_fewestGuards_4 hd (x1) (s.1) (s.2.1) (s.2.2) (Sum.elim (fun s : Int32 × Int32 × gMem => gGo G YX8_fewestGuards d Z 4 [some (.ref 0), some (.int x1), some (.int s.1), some (.int s.2.1), none] [] s.2.2) P) k0 (fun x2 x3 M hh => hh) hs) gFu (x2, x3, M) h
def fX8_fewestGuards_0 (x1 : Int32) (M : gMem) : Option (Int32 × gMem) :=
  fX8_fewestGuards_4h x1 (-1 : Int32) (0 : Int32) M
set_option maxRecDepth 100000 in
theorem CX8_fewestGuards_0 {G : gG} {d : Nat} {Z : Option Value → gMem → Prop} (hd : 6 ≤ d) (x1 : Int32) (M : gMem) (P : Int32 × gMem → Prop) (k0 : ∀ (r : Int32) (N : gMem), P (r, N) → Z (some (.int r)) N) (h : gOKq (fX8_fewestGuards_0 x1 M) P) : gGo G YX8_fewestGuards d Z 0 [some (.ref 0), some (.int x1), none, none, none] [] M := by
  unfold fX8_fewestGuards_0 at h
  refine go_rn 4 (pc' := 4) (L' := [some (.ref 0), some (.int x1), some (.int (-1 : Int32)), some (.int (0 : Int32)), none]) (S' := []) (M' := M) okX8_fewestGuards rfl ?_
  exact go_wk (CX8_fewestGuards_4h hd x1 (-1 : Int32) (0 : Int32) M P k0 h) ⟨rfl, rfl, rfl, rfl, True.intro⟩
def fX8_fewestGuards (a1 : Int32) (M : gMem) : Option (Int32 × gMem) := fX8_fewestGuards_0 a1 M
theorem SX8_fewestGuards {G : gG} (a1 : Int32) (M : gMem) {r : Int32} {N : gMem} (h : fX8_fewestGuards a1 M = some (r, N)) : gRun G YX8_fewestGuards 6 [.ref 0, .int a1] M (fun r' N' => r' = some (.int r) ∧ N' = N) := gRun_in (by decide +kernel) rfl (fun d hd => go_wk (CX8_fewestGuards_0 hd a1 M (fun p => p = (r, N)) (fun r N hh => by cases hh; exact ⟨rfl, rfl⟩) (gq_of h)) ⟨rfl, rfl, True.intro⟩)
def fX8_guards_0 (x1 : Int32) (M : gMem) : Option (Int32 × gMem) :=
  if gOb 7 (M.2.2 0) = true then gB0 (fX7_hasPartner (M.2.2 0) x1 M) (fun r2 => if r2 = 0 then some ((-2 : Int32), M) else gBp (fX8_fewestGuards x1 M) (fun r4 M5 => if r4 = (-1 : Int32) then some ((-1 : Int32), M5) else gB0 (fJ6_bitCount_0f7a4 r4 M5) (fun r7 => some (r7, M5)))) else none
set_option maxRecDepth 100000 in
theorem CX8_guards_0 {G : gG} {d : Nat} {Z : Option Value → gMem → Prop} (hd : 7 ≤ d) (x1 : Int32) (M : gMem) (P : Int32 × gMem → Prop) (k0 : ∀ (r : Int32) (N : gMem), P (r, N) → Z (some (.int r)) N) (h : gOKq (fX8_guards_0 x1 M) P) : gGo G YX8_guards d Z 0 [some (.ref 0), some (.int x1), none] [] M := by
  unfold fX8_guards_0 at h
  refine go_rn 1 (pc' := 1) (L' := [some (.ref 0), some (.int x1), none]) (S' := [.ref 0]) (M' := M) okX8_guards rfl ?_
  refine go_ck okX8_guards rfl (gOb_c rfl) ?_
  obtain ⟨c1, h⟩ := gq_if h
  refine go_rn 1 (pc' := 5) (L' := [some (.ref 0), some (.int x1), none]) (S' := [.int x1, .ref (M.2.2 0)]) (M' := M) okX8_guards rfl ?_
  obtain ⟨r2, e3, h⟩ := gB0_ok h
  refine go_call1 ocX8_guards rfl rfl c1 rfl (SX7_hasPartner (M.2.2 0) x1 M c1 e3) (Nat.lt_of_lt_of_le (by decide) hd) ?_
  refine go_br okX8_guards rfl (fun hp => ?_) (fun hp => ?_)
  · have h := gq_pos hp h
    refine go_rn 1 (pc' := 13) (L' := [some (.ref 0), some (.int x1), none]) (S' := [.int (-2 : Int32)]) (M' := M) okX8_guards rfl ?_
    exact go_iret (reX8_guards _ (by decide)) rfl (k0 (-2 : Int32) M h)
  · have h := gq_neg hp h
    refine go_rn 2 (pc' := 16) (L' := [some (.ref 0), some (.int x1), none]) (S' := [.int x1, .ref 0]) (M' := M) okX8_guards rfl ?_
    obtain ⟨r4, M5, e6, h⟩ := gBp_ok h
    refine go_call1 ocX8_guards rfl rfl (gOb_c rfl) rfl (SX8_fewestGuards x1 M e6) (Nat.lt_of_lt_of_le (by decide) hd) ?_
    refine go_rn 3 (pc' := 22) (L' := [some (.ref 0), some (.int x1), some (.int r4)]) (S' := [.int (-1 : Int32), .int r4]) (M' := M5) okX8_guards rfl ?_
    refine go_br okX8_guards rfl (fun hp => ?_) (fun hp => ?_)
    · have h := gq_pos hp h
      refine go_rn 2 (pc' := 33) (L' := [some (.ref 0), some (.int x1), some (.int r4)]) (S' := [.int (-1 : Int32)]) (M' := M5) okX8_guards rfl ?_
      exact go_iret (reX8_guards _ (by decide)) rfl (k0 (-1 : Int32) M5 h)
    · have h := gq_neg hp h
      refine go_rn 1 (pc' := 30) (L' := [some (.ref 0), some (.int x1), some (.int r4)]) (S' := [.int r4]) (M' := M5) okX8_guards rfl ?_
      obtain ⟨r7, e8, h⟩ := gB0_ok h
      refine go_call1 ocX8_guards rfl rfl rfl rfl (SJ6_bitCount_0f7a4 r4 M5 e8) (Nat.lt_of_lt_of_le (by decide) hd) ?_
      exact go_iret (reX8_guards _ (by decide)) rfl (k0 r7 M5 h)
def fX8_guards (a1 : Int32) (M : gMem) : Option (Int32 × gMem) := fX8_guards_0 a1 M
theorem SX8_guards {G : gG} (a1 : Int32) (M : gMem) {r : Int32} {N : gMem} (h : fX8_guards a1 M = some (r, N)) : gRun G YX8_guards 7 [.ref 0, .int a1] M (fun r' N' => r' = some (.int r) ∧ N' = N) := gRun_in (by decide +kernel) rfl (fun d hd => go_wk (CX8_guards_0 hd a1 M (fun p => p = (r, N)) (fun r N hh => by cases hh; exact ⟨rfl, rfl⟩) (gq_of h)) ⟨rfl, rfl, True.intro⟩)
def fX8_guarded_0 (x1 : Int32) (M : gMem) : Option (Int32 × gMem) :=
  if gOb 7 (M.2.2 0) = true then gB0 (fX7_hasPartner (M.2.2 0) x1 M) (fun r2 => if r2 = 0 then some ((-2 : Int32), M) else gBp (fX8_fewestGuards x1 M) (fun r4 M5 => some (r4, M5))) else none
set_option maxRecDepth 100000 in
theorem CX8_guarded_0 {G : gG} {d : Nat} {Z : Option Value → gMem → Prop} (hd : 7 ≤ d) (x1 : Int32) (M : gMem) (P : Int32 × gMem → Prop) (k0 : ∀ (r : Int32) (N : gMem), P (r, N) → Z (some (.int r)) N) (h : gOKq (fX8_guarded_0 x1 M) P) : gGo G YX8_guarded d Z 0 [some (.ref 0), some (.int x1)] [] M := by
  unfold fX8_guarded_0 at h
  refine go_rn 1 (pc' := 1) (L' := [some (.ref 0), some (.int x1)]) (S' := [.ref 0]) (M' := M) okX8_guarded rfl ?_
  refine go_ck okX8_guarded rfl (gOb_c rfl) ?_
  obtain ⟨c1, h⟩ := gq_if h
  refine go_rn 1 (pc' := 5) (L' := [some (.ref 0), some (.int x1)]) (S' := [.int x1, .ref (M.2.2 0)]) (M' := M) okX8_guarded rfl ?_
  obtain ⟨r2, e3, h⟩ := gB0_ok h
  refine go_call1 ocX8_guarded rfl rfl c1 rfl (SX7_hasPartner (M.2.2 0) x1 M c1 e3) (Nat.lt_of_lt_of_le (by decide) hd) ?_
  refine go_br okX8_guarded rfl (fun hp => ?_) (fun hp => ?_)
  · have h := gq_pos hp h
    refine go_rn 1 (pc' := 13) (L' := [some (.ref 0), some (.int x1)]) (S' := [.int (-2 : Int32)]) (M' := M) okX8_guarded rfl ?_
    exact go_iret (reX8_guarded _ (by decide)) rfl (k0 (-2 : Int32) M h)
  · have h := gq_neg hp h
    refine go_rn 2 (pc' := 16) (L' := [some (.ref 0), some (.int x1)]) (S' := [.int x1, .ref 0]) (M' := M) okX8_guarded rfl ?_
    obtain ⟨r4, M5, e6, h⟩ := gBp_ok h
    refine go_call1 ocX8_guarded rfl rfl (gOb_c rfl) rfl (SX8_fewestGuards x1 M e6) (Nat.lt_of_lt_of_le (by decide) hd) ?_
    exact go_iret (reX8_guarded _ (by decide)) rfl (k0 r4 M5 h)
def fX8_guarded (a1 : Int32) (M : gMem) : Option (Int32 × gMem) := fX8_guarded_0 a1 M
theorem SX8_guarded {G : gG} (a1 : Int32) (M : gMem) {r : Int32} {N : gMem} (h : fX8_guarded a1 M = some (r, N)) : gRun G YX8_guarded 7 [.ref 0, .int a1] M (fun r' N' => r' = some (.int r) ∧ N' = N) := gRun_in (by decide +kernel) rfl (fun d hd => go_wk (CX8_guarded_0 hd a1 M (fun p => p = (r, N)) (fun r N hh => by cases hh; exact ⟨rfl, rfl⟩) (gq_of h)) ⟨rfl, rfl, True.intro⟩)
def fX8_sneezer_88 (x3 : Int32) (x4 : Int32) (M : gMem) : Option (Sum (Int32 × Int32 × Int32 × gMem) (Int32 × gMem)) :=
  some (.inl (x3, x4, (x3 + 1), M))
set_option maxRecDepth 100000 in
theorem CX8_sneezer_88 {G : gG} {d : Nat} {Z : Option Value → gMem → Prop} (hd : 5 ≤ d) (x3 : Int32) (x4 : Int32) (M : gMem) (P : Sum (Int32 × Int32 × Int32 × gMem) (Int32 × gMem) → Prop) (k0 : ∀ (r : Int32) (N : gMem), P (.inr (r, N)) → Z (some (.int r)) N) (k1 : ∀ (x1 : Int32) (x2 : Int32) (x3 : Int32) (M : gMem), P (.inl (x1, x2, x3, M)) → gGo G YX8_sneezer d Z 19 [some (.ref 0), some (.int x1), some (.int x2), some (.int x3), none] [] M) (h : gOKq (fX8_sneezer_88 x3 x4 M) P) : gGo G YX8_sneezer d Z 88 [some (.ref 0), none, none, some (.int x3), some (.int x4)] [] M := by
  unfold fX8_sneezer_88 at h
  refine go_rn 6 (pc' := 19) (L' := [some (.ref 0), some (.int x3), some (.int x4), some (.int (x3 + 1)), some (.int x4)]) (S' := []) (M' := M) okX8_sneezer rfl ?_
  exact go_wk (k1 (x3) (x4) ((x3 + 1)) M h) ⟨rfl, rfl, rfl, rfl, True.intro⟩
def fX8_sneezer_52 (x1 : Int32) (x2 : Int32) (x3 : Int32) (M : gMem) : Option (Sum (Int32 × Int32 × Int32 × gMem) (Int32 × gMem)) :=
  if gOb 7 (M.2.2 0) = true then if gOb 7 (M.2.2 0) = true then gB0 (fX2_live (M.2.2 0) (M.1 (M.2.2 0) 1) M) (fun M3 => gB0 (fJ6_bitCount_0f7a4 (M3.1 14 16) M3) (fun r5 => if x1 = (-1 : Int32) then fX8_sneezer_88 x3 r5 M3 else if r5 ≤ x2 then some (.inl (x1, x2, (x3 + 1), M3)) else fX8_sneezer_88 x3 r5 M3)) else none else none
set_option maxRecDepth 100000 in
theorem CX8_sneezer_52 {G : gG} {d : Nat} {Z : Option Value → gMem → Prop} (hd : 5 ≤ d) (x1 : Int32) (x2 : Int32) (x3 : Int32) (M : gMem) (P : Sum (Int32 × Int32 × Int32 × gMem) (Int32 × gMem) → Prop) (k0 : ∀ (r : Int32) (N : gMem), P (.inr (r, N)) → Z (some (.int r)) N) (k1 : ∀ (x1 : Int32) (x2 : Int32) (x3 : Int32) (M : gMem), P (.inl (x1, x2, x3, M)) → gGo G YX8_sneezer d Z 19 [some (.ref 0), some (.int x1), some (.int x2), some (.int x3), none] [] M) (h : gOKq (fX8_sneezer_52 x1 x2 x3 M) P) : gGo G YX8_sneezer d Z 52 [some (.ref 0), some (.int x1), some (.int x2), some (.int x3), none] [.ref 0, .ref 14] M := by
  unfold fX8_sneezer_52 at h
  refine go_ck okX8_sneezer rfl (gOb_c rfl) ?_
  obtain ⟨c1, h⟩ := gq_if h
  refine go_rn 1 (pc' := 56) (L' := [some (.ref 0), some (.int x1), some (.int x2), some (.int x3), none]) (S' := [.ref 0, .ref (M.2.2 0), .ref 14]) (M' := M) okX8_sneezer rfl ?_
  refine go_ck okX8_sneezer rfl (gOb_c rfl) ?_
  obtain ⟨c2, h⟩ := gq_if h
  refine go_ck okX8_sneezer rfl c2 ?_
  obtain ⟨M3, e4, h⟩ := gB0_ok h
  refine go_call1 ocX8_sneezer rfl rfl (gOb_c rfl) rfl (SX2_live (M.2.2 0) (M.1 (M.2.2 0) 1) M c1 e4) (Nat.lt_of_lt_of_le (by decide) hd) ?_
  refine go_rn 1 (pc' := 66) (L' := [some (.ref 0), some (.int x1), some (.int x2), some (.int x3), none]) (S' := [.ref 0]) (M' := M3) okX8_sneezer rfl ?_
  refine go_ck okX8_sneezer rfl (gOb_c rfl) ?_
  refine go_ck okX8_sneezer rfl (gOb_c rfl) ?_
  obtain ⟨r5, e6, h⟩ := gB0_ok h
  refine go_call1 ocX8_sneezer rfl rfl rfl rfl (SJ6_bitCount_0f7a4 (M3.1 14 16) M3 e6) (Nat.lt_of_lt_of_le (by decide) hd) ?_
  refine go_rn 3 (pc' := 79) (L' := [some (.ref 0), some (.int x1), some (.int x2), some (.int x3), some (.int r5)]) (S' := [.int (-1 : Int32), .int x1]) (M' := M3) okX8_sneezer rfl ?_
  refine go_br okX8_sneezer rfl (fun hp => ?_) (fun hp => ?_)
  · have h := gq_pos hp h
    exact go_wk (CX8_sneezer_88 hd x3 r5 M3 P k0 k1 h) ⟨rfl, rfl, rfl, True.intro⟩
  · have h := gq_neg hp h
    refine go_rn 2 (pc' := 85) (L' := [some (.ref 0), some (.int x1), some (.int x2), some (.int x3), some (.int r5)]) (S' := [.int x2, .int r5]) (M' := M3) okX8_sneezer rfl ?_
    refine go_br okX8_sneezer rfl (fun hp => ?_) (fun hp => ?_)
    · have h := gq_pos hp h
      refine go_rn 2 (pc' := 19) (L' := [some (.ref 0), some (.int x1), some (.int x2), some (.int (x3 + 1)), some (.int r5)]) (S' := []) (M' := M3) okX8_sneezer rfl ?_
      exact go_wk (k1 (x1) (x2) ((x3 + 1)) M3 h) ⟨rfl, rfl, rfl, rfl, True.intro⟩
    · have h := gq_neg hp h
      exact go_wk (CX8_sneezer_88 hd x3 r5 M3 P k0 k1 h) ⟨rfl, rfl, rfl, True.intro⟩
def fX8_sneezer_19 (x1 : Int32) (x2 : Int32) (x3 : Int32) (M : gMem) : Option (Sum (Int32 × Int32 × Int32 × gMem) (Int32 × gMem)) :=
  if gOb 7 (M.2.2 0) = true then if (M.1 (M.2.2 0) 5) ≤ x3 then some (.inr (x1, M)) else gB0 (fX2_supposeNothing M) (fun M2 => fX8_sneezer_52 x1 x2 x3 (gSI M2 14 3 ((1 : Int32) <<< (x3 &&& 31)))) else none
set_option maxRecDepth 100000 in
theorem CX8_sneezer_19 {G : gG} {d : Nat} {Z : Option Value → gMem → Prop} (hd : 5 ≤ d) (x1 : Int32) (x2 : Int32) (x3 : Int32) (M : gMem) (P : Sum (Int32 × Int32 × Int32 × gMem) (Int32 × gMem) → Prop) (k0 : ∀ (r : Int32) (N : gMem), P (.inr (r, N)) → Z (some (.int r)) N) (k1 : ∀ (x1 : Int32) (x2 : Int32) (x3 : Int32) (M : gMem), P (.inl (x1, x2, x3, M)) → gGo G YX8_sneezer d Z 19 [some (.ref 0), some (.int x1), some (.int x2), some (.int x3), none] [] M) (h : gOKq (fX8_sneezer_19 x1 x2 x3 M) P) : gGo G YX8_sneezer d Z 19 [some (.ref 0), some (.int x1), some (.int x2), some (.int x3), none] [] M := by
  unfold fX8_sneezer_19 at h
  refine go_rn 2 (pc' := 21) (L' := [some (.ref 0), some (.int x1), some (.int x2), some (.int x3), none]) (S' := [.ref 0, .int x3]) (M' := M) okX8_sneezer rfl ?_
  refine go_ck okX8_sneezer rfl (gOb_c rfl) ?_
  obtain ⟨c1, h⟩ := gq_if h
  refine go_ck okX8_sneezer rfl c1 ?_
  refine go_br okX8_sneezer rfl (fun hp => ?_) (fun hp => ?_)
  · have h := gq_pos hp h
    refine go_rn 1 (pc' := 100) (L' := [some (.ref 0), some (.int x1), some (.int x2), some (.int x3), none]) (S' := [.int x1]) (M' := M) okX8_sneezer rfl ?_
    exact go_iret (reX8_sneezer _ (by decide)) rfl (k0 x1 M h)
  · have h := gq_neg hp h
    refine go_rn 1 (pc' := 31) (L' := [some (.ref 0), some (.int x1), some (.int x2), some (.int x3), none]) (S' := [.ref 0]) (M' := M) okX8_sneezer rfl ?_
    refine go_ck okX8_sneezer rfl (gOb_c rfl) ?_
    obtain ⟨M2, e3, h⟩ := gB0_ok h
    refine go_call1 ocX8_sneezer rfl rfl (gOb_c rfl) rfl (SX2_supposeNothing M e3) (Nat.lt_of_lt_of_le (by decide) hd) ?_
    refine go_rn 1 (pc' := 38) (L' := [some (.ref 0), some (.int x1), some (.int x2), some (.int x3), none]) (S' := [.ref 0]) (M' := M2) okX8_sneezer rfl ?_
    refine go_ck okX8_sneezer rfl (gOb_c rfl) ?_
    refine go_rn 3 (pc' := 44) (L' := [some (.ref 0), some (.int x1), some (.int x2), some (.int x3), none]) (S' := [.int ((1 : Int32) <<< (x3 &&& 31)), .ref 14]) (M' := M2) okX8_sneezer rfl ?_
    refine go_ck okX8_sneezer rfl (gOb_c rfl) ?_
    refine go_rn 1 (pc' := 48) (L' := [some (.ref 0), some (.int x1), some (.int x2), some (.int x3), none]) (S' := [.ref 0]) (M' := (gSI M2 14 3 ((1 : Int32) <<< (x3 &&& 31)))) okX8_sneezer rfl ?_
    refine go_ck okX8_sneezer rfl (gOb_c rfl) ?_
    refine go_rn 1 (pc' := 52) (L' := [some (.ref 0), some (.int x1), some (.int x2), some (.int x3), none]) (S' := [.ref 0, .ref 14]) (M' := (gSI M2 14 3 ((1 : Int32) <<< (x3 &&& 31)))) okX8_sneezer rfl ?_
    exact go_wk (CX8_sneezer_52 hd x1 x2 x3 (gSI M2 14 3 ((1 : Int32) <<< (x3 &&& 31))) P k0 k1 h) ⟨rfl, rfl, rfl, rfl, True.intro⟩
def fX8_sneezer_19h (x1 : Int32) (x2 : Int32) (x3 : Int32) (M : gMem) : Option (Int32 × gMem) :=
  gLp (fun s : Int32 × Int32 × Int32 × gMem => fX8_sneezer_19 (s.1) (s.2.1) (s.2.2.1) s.2.2.2) gFu (x1, x2, x3, M)
set_option maxRecDepth 100000 in
theorem CX8_sneezer_19h {G : gG} {d : Nat} {Z : Option Value → gMem → Prop} (hd : 5 ≤ d) (x1 : Int32) (x2 : Int32) (x3 : Int32) (M : gMem) (P : Int32 × gMem → Prop) (k0 : ∀ (r : Int32) (N : gMem), P (r, N) → Z (some (.int r)) N) (h : gOKq (fX8_sneezer_19h x1 x2 x3 M) P) : gGo G YX8_sneezer d Z 19 [some (.ref 0), some (.int x1), some (.int x2), some (.int x3), none] [] M :=
  gLp_go (K := fun s : Int32 × Int32 × Int32 × gMem => gGo G YX8_sneezer d Z 19 [some (.ref 0), some (.int s.1), some (.int s.2.1), some (.int s.2.2.1), none] [] s.2.2.2) (P := P) (fun s hs => CX8_sneezer_19 hd (s.1) (s.2.1) (s.2.2.1) (s.2.2.2) (Sum.elim (fun s : Int32 × Int32 × Int32 × gMem => gGo G YX8_sneezer d Z 19 [some (.ref 0), some (.int s.1), some (.int s.2.1), some (.int s.2.2.1), none] [] s.2.2.2) P) k0 (fun x1 x2 x3 M hh => hh) hs) gFu (x1, x2, x3, M) h
def fX8_sneezer_0 (M : gMem) : Option (Int32 × gMem) :=
  if gOb 7 (M.2.2 0) = true then gB0 (fX7_isTold (M.2.2 0) M) (fun r2 => if r2 = 0 then some ((-2 : Int32), M) else fX8_sneezer_19h (-1 : Int32) (0 : Int32) (0 : Int32) M) else none
set_option maxRecDepth 100000 in
theorem CX8_sneezer_0 {G : gG} {d : Nat} {Z : Option Value → gMem → Prop} (hd : 5 ≤ d) (M : gMem) (P : Int32 × gMem → Prop) (k0 : ∀ (r : Int32) (N : gMem), P (r, N) → Z (some (.int r)) N) (h : gOKq (fX8_sneezer_0 M) P) : gGo G YX8_sneezer d Z 0 [some (.ref 0), none, none, none, none] [] M := by
  unfold fX8_sneezer_0 at h
  refine go_rn 1 (pc' := 1) (L' := [some (.ref 0), none, none, none, none]) (S' := [.ref 0]) (M' := M) okX8_sneezer rfl ?_
  refine go_ck okX8_sneezer rfl (gOb_c rfl) ?_
  obtain ⟨c1, h⟩ := gq_if h
  obtain ⟨r2, e3, h⟩ := gB0_ok h
  refine go_call1 ocX8_sneezer rfl rfl c1 rfl (SX7_isTold (M.2.2 0) M c1 e3) (Nat.lt_of_lt_of_le (by decide) hd) ?_
  refine go_br okX8_sneezer rfl (fun hp => ?_) (fun hp => ?_)
  · have h := gq_pos hp h
    refine go_rn 1 (pc' := 12) (L' := [some (.ref 0), none, none, none, none]) (S' := [.int (-2 : Int32)]) (M' := M) okX8_sneezer rfl ?_
    exact go_iret (reX8_sneezer _ (by decide)) rfl (k0 (-2 : Int32) M h)
  · have h := gq_neg hp h
    refine go_rn 6 (pc' := 19) (L' := [some (.ref 0), some (.int (-1 : Int32)), some (.int (0 : Int32)), some (.int (0 : Int32)), none]) (S' := []) (M' := M) okX8_sneezer rfl ?_
    exact go_wk (CX8_sneezer_19h hd (-1 : Int32) (0 : Int32) (0 : Int32) M P k0 h) ⟨rfl, rfl, rfl, rfl, True.intro⟩
def fX8_sneezer (M : gMem) : Option (Int32 × gMem) := fX8_sneezer_0 M
theorem SX8_sneezer {G : gG} (M : gMem) {r : Int32} {N : gMem} (h : fX8_sneezer M = some (r, N)) : gRun G YX8_sneezer 5 [.ref 0] M (fun r' N' => r' = some (.int r) ∧ N' = N) := gRun_in (by decide +kernel) rfl (fun d hd => go_wk (CX8_sneezer_0 hd M (fun p => p = (r, N)) (fun r N hh => by cases hh; exact ⟨rfl, rfl⟩) (gq_of h)) ⟨rfl, True.intro⟩)
def fX8_refusalOfSightings_0 (M : gMem) : Option (Int32) :=
  some (-2 : Int32)
set_option maxRecDepth 100000 in
theorem CX8_refusalOfSightings_0 {G : gG} {d : Nat} {Z : Option Value → gMem → Prop} (hd : 2 ≤ d) (M : gMem) (P : Int32 → Prop) (k0 : ∀ (r : Int32), P r → Z (some (.int r)) M) (h : gOKq (fX8_refusalOfSightings_0 M) P) : gGo G YX8_refusalOfSightings d Z 0 [some (.ref 0), some (.null)] [] M := by
  unfold fX8_refusalOfSightings_0 at h
  refine go_rn 3 (pc' := 16) (L' := [some (.ref 0), some (.null)]) (S' := [.int (-2 : Int32)]) (M' := M) okX8_refusalOfSightings rfl ?_
  exact go_iret (reX8_refusalOfSightings _ (by decide)) rfl (k0 (-2 : Int32) h)
def fX8_refusalOfSightings_0a (x1 : Nat) (M : gMem) : Option (Int32) :=
  if gOb 7 (M.2.2 0) = true then gB0 (fX7_isTold (M.2.2 0) M) (fun r2 => if r2 = 0 then some (-2 : Int32) else gB0 (fX4_isThere x1 M) (fun r4 => if r4 = 0 then some (-6 : Int32) else if gOb 7 (M.2.2 0) = true then gB0 (fX3_canRead (M.2.2 0) x1 M) (fun r7 => if r7 = 0 then some (-2 : Int32) else some (0 : Int32)) else none)) else none
set_option maxRecDepth 100000 in
theorem CX8_refusalOfSightings_0a {G : gG} {d : Nat} {Z : Option Value → gMem → Prop} (hd : 2 ≤ d) (x1 : Nat) (M : gMem) (o_x1 : gOb 4 x1 = true) (P : Int32 → Prop) (k0 : ∀ (r : Int32), P r → Z (some (.int r)) M) (h : gOKq (fX8_refusalOfSightings_0a x1 M) P) : gGo G YX8_refusalOfSightings d Z 0 [some (.ref 0), some (.ref x1)] [] M := by
  unfold fX8_refusalOfSightings_0a at h
  refine go_rn 3 (pc' := 5) (L' := [some (.ref 0), some (.ref x1)]) (S' := [.ref 0]) (M' := M) okX8_refusalOfSightings rfl ?_
  refine go_ck okX8_refusalOfSightings rfl (gOb_c rfl) ?_
  obtain ⟨c1, h⟩ := gq_if h
  obtain ⟨r2, e3, h⟩ := gB0_ok h
  refine go_call1 ocX8_refusalOfSightings rfl rfl c1 rfl (SX7_isTold (M.2.2 0) M c1 e3) (Nat.lt_of_lt_of_le (by decide) hd) ?_
  refine go_br okX8_refusalOfSightings rfl (fun hp => ?_) (fun hp => ?_)
  · have h := gq_pos hp h
    refine go_rn 1 (pc' := 16) (L' := [some (.ref 0), some (.ref x1)]) (S' := [.int (-2 : Int32)]) (M' := M) okX8_refusalOfSightings rfl ?_
    exact go_iret (reX8_refusalOfSightings _ (by decide)) rfl (k0 (-2 : Int32) h)
  · have h := gq_neg hp h
    refine go_rn 1 (pc' := 18) (L' := [some (.ref 0), some (.ref x1)]) (S' := [.ref x1]) (M' := M) okX8_refusalOfSightings rfl ?_
    obtain ⟨r4, e5, h⟩ := gB0_ok h
    refine go_call1 ocX8_refusalOfSightings rfl rfl o_x1 rfl (SX4_isThere x1 M o_x1 e5) (Nat.lt_of_lt_of_le (by decide) hd) ?_
    refine go_br okX8_refusalOfSightings rfl (fun hp => ?_) (fun hp => ?_)
    · have h := gq_pos hp h
      refine go_rn 1 (pc' := 26) (L' := [some (.ref 0), some (.ref x1)]) (S' := [.int (-6 : Int32)]) (M' := M) okX8_refusalOfSightings rfl ?_
      exact go_iret (reX8_refusalOfSightings _ (by decide)) rfl (k0 (-6 : Int32) h)
    · have h := gq_neg hp h
      refine go_rn 1 (pc' := 28) (L' := [some (.ref 0), some (.ref x1)]) (S' := [.ref 0]) (M' := M) okX8_refusalOfSightings rfl ?_
      refine go_ck okX8_refusalOfSightings rfl (gOb_c rfl) ?_
      obtain ⟨c6, h⟩ := gq_if h
      refine go_rn 1 (pc' := 32) (L' := [some (.ref 0), some (.ref x1)]) (S' := [.ref x1, .ref (M.2.2 0)]) (M' := M) okX8_refusalOfSightings rfl ?_
      obtain ⟨r7, e8, h⟩ := gB0_ok h
      refine go_call1 ocX8_refusalOfSightings rfl rfl rfl rfl (SX3_canRead (M.2.2 0) x1 M c6 o_x1 e8) (Nat.lt_of_lt_of_le (by decide) hd) ?_
      refine go_br okX8_refusalOfSightings rfl (fun hp => ?_) (fun hp => ?_)
      · have h := gq_pos hp h
        refine go_rn 1 (pc' := 44) (L' := [some (.ref 0), some (.ref x1)]) (S' := [.int (-2 : Int32)]) (M' := M) okX8_refusalOfSightings rfl ?_
        exact go_iret (reX8_refusalOfSightings _ (by decide)) rfl (k0 (-2 : Int32) h)
      · have h := gq_neg hp h
        refine go_rn 2 (pc' := 44) (L' := [some (.ref 0), some (.ref x1)]) (S' := [.int (0 : Int32)]) (M' := M) okX8_refusalOfSightings rfl ?_
        exact go_iret (reX8_refusalOfSightings _ (by decide)) rfl (k0 (0 : Int32) h)
def fX8_refusalOfSightings (a1 : Value) (M : gMem) : Option (Int32) := gNl a1 (fX8_refusalOfSightings_0 M) (fun a1 => if gOb 4 a1 = true then fX8_refusalOfSightings_0a a1 M else none)
theorem SX8_refusalOfSightings {G : gG} (a1 : Value) (M : gMem) {r : Int32} (h : fX8_refusalOfSightings a1 M = some r) : gRun G YX8_refusalOfSightings 2 [.ref 0, a1] M (fun r' N' => r' = some (.int r) ∧ N' = M) := by
  unfold fX8_refusalOfSightings at h
  rcases gq_nl (gq_of h) with ⟨hv, hh⟩ | ⟨o, hv, hh⟩
  · subst hv
    exact gRun_in (by decide +kernel) rfl (fun d hd => go_wk (CX8_refusalOfSightings_0 hd M (fun p => p = r) (fun r hh => ⟨congrArg (fun z => some (Value.int z)) hh, rfl⟩) hh) ⟨rfl, rfl, True.intro⟩)
  · subst hv
    obtain ⟨o_a1, hh⟩ := gq_if hh
    exact gRun_in (by decide +kernel) rfl (fun d hd => go_wk (CX8_refusalOfSightings_0a hd o M o_a1 (fun p => p = r) (fun r hh => ⟨congrArg (fun z => some (Value.int z)) hh, rfl⟩) hh) ⟨rfl, rfl, True.intro⟩)
def fX8_chew_0 (x1 : Int32) (M : gMem) : Option (Int32 × gMem) :=
  gB0 (fX8_slotAt x1 M) (fun r1 => gNl r1 (gB0 (fX8_refusalOfSightings (Value.null) M) (fun r3 => some (r3, M))) (fun o5 => if gOb 4 o5 = true then gB0 (fX8_refusalOfSightings (Value.ref o5) M) (fun r7 => if r7 = 0 then if gOb 7 (M.2.2 0) = true then gB0 (fX3_countSets (M.2.2 0) o5 M) (fun M10 => some (r7, M10)) else none else some (r7, M)) else none))
set_option maxRecDepth 100000 in
theorem CX8_chew_0 {G : gG} {d : Nat} {Z : Option Value → gMem → Prop} (hd : 6 ≤ d) (x1 : Int32) (M : gMem) (P : Int32 × gMem → Prop) (k0 : ∀ (r : Int32) (N : gMem), P (r, N) → Z (some (.int r)) N) (h : gOKq (fX8_chew_0 x1 M) P) : gGo G YX8_chew d Z 0 [some (.ref 0), some (.int x1), none, none] [] M := by
  unfold fX8_chew_0 at h
  refine go_rn 2 (pc' := 2) (L' := [some (.ref 0), some (.int x1), none, none]) (S' := [.int x1, .ref 0]) (M' := M) okX8_chew rfl ?_
  obtain ⟨r1, e2, h⟩ := gB0_ok h
  refine go_call1 ocX8_chew rfl rfl (gOb_c rfl) rfl (SX8_slotAt x1 M e2) (Nat.lt_of_lt_of_le (by decide) hd) ?_
  rcases gq_nl h with ⟨hv, hh⟩ | ⟨o5, hv, hh⟩
  · subst hv
    have h := hh
    refine go_rn 3 (pc' := 8) (L' := [some (.ref 0), some (.int x1), some (.null), none]) (S' := [.null, .ref 0]) (M' := M) okX8_chew rfl ?_
    obtain ⟨r3, e4, h⟩ := gB0_ok h
    refine go_call1 ocX8_chew rfl rfl (gOb_c rfl) rfl (SX8_refusalOfSightings (Value.null) M e4) (Nat.lt_of_lt_of_le (by decide) hd) ?_
    refine go_rn 4 (pc' := 37) (L' := [some (.ref 0), some (.int x1), some (.null), some (.int r3)]) (S' := [.int r3]) (M' := M) okX8_chew rfl ?_
    exact go_iret (reX8_chew _ (by decide)) rfl (k0 r3 M h)
  · subst hv
    obtain ⟨c6, h⟩ := gq_if hh
    refine go_rn 3 (pc' := 8) (L' := [some (.ref 0), some (.int x1), some (.ref o5), none]) (S' := [.ref o5, .ref 0]) (M' := M) okX8_chew rfl ?_
    obtain ⟨r7, e8, h⟩ := gB0_ok h
    refine go_call1 ocX8_chew rfl rfl (gOb_c rfl) rfl (SX8_refusalOfSightings (Value.ref o5) M e8) (Nat.lt_of_lt_of_le (by decide) hd) ?_
    refine go_rn 4 (pc' := 17) (L' := [some (.ref 0), some (.int x1), some (.ref o5), some (.int r7)]) (S' := [.int r7]) (M' := M) okX8_chew rfl ?_
    refine go_br okX8_chew rfl (fun hp => ?_) (fun hp => ?_)
    · have h := gq_pos hp h
      refine go_rn 1 (pc' := 21) (L' := [some (.ref 0), some (.int x1), some (.ref o5), some (.int r7)]) (S' := [.ref 0]) (M' := M) okX8_chew rfl ?_
      refine go_ck okX8_chew rfl (gOb_c rfl) ?_
      refine go_rn 1 (pc' := 25) (L' := [some (.ref 0), some (.int x1), some (.ref o5), some (.int r7)]) (S' := [.ref 0, .ref 64]) (M' := M) okX8_chew rfl ?_
      refine go_ck okX8_chew rfl (gOb_c rfl) ?_
      obtain ⟨c9, h⟩ := gq_if h
      refine go_rn 1 (pc' := 29) (L' := [some (.ref 0), some (.int x1), some (.ref o5), some (.int r7)]) (S' := [.ref 0, .ref (M.2.2 0), .ref 64]) (M' := M) okX8_chew rfl ?_
      refine go_ck okX8_chew rfl (gOb_c rfl) ?_
      refine go_rn 1 (pc' := 33) (L' := [some (.ref 0), some (.int x1), some (.ref o5), some (.int r7)]) (S' := [.ref o5, .ref 14, .ref (M.2.2 0), .ref 64]) (M' := M) okX8_chew rfl ?_
      obtain ⟨M10, e11, h⟩ := gB0_ok h
      refine go_call1 ocX8_chew rfl rfl (gOb_c rfl) rfl (SX3_countSets (M.2.2 0) o5 M c9 c6 e11) (Nat.lt_of_lt_of_le (by decide) hd) ?_
      refine go_rn 1 (pc' := 37) (L' := [some (.ref 0), some (.int x1), some (.ref o5), some (.int r7)]) (S' := [.int r7]) (M' := M10) okX8_chew rfl ?_
      exact go_iret (reX8_chew _ (by decide)) rfl (k0 r7 M10 h)
    · have h := gq_neg hp h
      refine go_rn 1 (pc' := 37) (L' := [some (.ref 0), some (.int x1), some (.ref o5), some (.int r7)]) (S' := [.int r7]) (M' := M) okX8_chew rfl ?_
      exact go_iret (reX8_chew _ (by decide)) rfl (k0 r7 M h)
def fX8_chew (a1 : Int32) (M : gMem) : Option (Int32 × gMem) := fX8_chew_0 a1 M
theorem SX8_chew {G : gG} (a1 : Int32) (M : gMem) {r : Int32} {N : gMem} (h : fX8_chew a1 M = some (r, N)) : gRun G YX8_chew 6 [.ref 0, .int a1] M (fun r' N' => r' = some (.int r) ∧ N' = N) := gRun_in (by decide +kernel) rfl (fun d hd => go_wk (CX8_chew_0 hd a1 M (fun p => p = (r, N)) (fun r N hh => by cases hh; exact ⟨rfl, rfl⟩) (gq_of h)) ⟨rfl, rfl, True.intro⟩)
def fX8_trues_0 (x1 : Int32) (M : gMem) : Option (Int32 × gMem) :=
  gBp (fX8_chew x1 M) (fun r1 M2 => if r1 = 0 then some ((M2.1 64 0), M2) else some (r1, M2))
set_option maxRecDepth 100000 in
theorem CX8_trues_0 {G : gG} {d : Nat} {Z : Option Value → gMem → Prop} (hd : 7 ≤ d) (x1 : Int32) (M : gMem) (P : Int32 × gMem → Prop) (k0 : ∀ (r : Int32) (N : gMem), P (r, N) → Z (some (.int r)) N) (h : gOKq (fX8_trues_0 x1 M) P) : gGo G YX8_trues d Z 0 [some (.ref 0), some (.int x1), none] [] M := by
  unfold fX8_trues_0 at h
  refine go_rn 2 (pc' := 2) (L' := [some (.ref 0), some (.int x1), none]) (S' := [.int x1, .ref 0]) (M' := M) okX8_trues rfl ?_
  obtain ⟨r1, M2, e3, h⟩ := gBp_ok h
  refine go_call1 ocX8_trues rfl rfl (gOb_c rfl) rfl (SX8_chew x1 M e3) (Nat.lt_of_lt_of_le (by decide) hd) ?_
  refine go_rn 2 (pc' := 7) (L' := [some (.ref 0), some (.int x1), some (.int r1)]) (S' := [.int r1]) (M' := M2) okX8_trues rfl ?_
  refine go_br okX8_trues rfl (fun hp => ?_) (fun hp => ?_)
  · have h := gq_pos hp h
    refine go_rn 1 (pc' := 15) (L' := [some (.ref 0), some (.int x1), some (.int r1)]) (S' := [.ref 0]) (M' := M2) okX8_trues rfl ?_
    refine go_ck okX8_trues rfl (gOb_c rfl) ?_
    refine go_ck okX8_trues rfl (gOb_c rfl) ?_
    exact go_iret (reX8_trues _ (by decide)) rfl (k0 (M2.1 64 0) M2 h)
  · have h := gq_neg hp h
    refine go_rn 2 (pc' := 21) (L' := [some (.ref 0), some (.int x1), some (.int r1)]) (S' := [.int r1]) (M' := M2) okX8_trues rfl ?_
    exact go_iret (reX8_trues _ (by decide)) rfl (k0 r1 M2 h)
def fX8_trues (a1 : Int32) (M : gMem) : Option (Int32 × gMem) := fX8_trues_0 a1 M
theorem SX8_trues {G : gG} (a1 : Int32) (M : gMem) {r : Int32} {N : gMem} (h : fX8_trues a1 M = some (r, N)) : gRun G YX8_trues 7 [.ref 0, .int a1] M (fun r' N' => r' = some (.int r) ∧ N' = N) := gRun_in (by decide +kernel) rfl (fun d hd => go_wk (CX8_trues_0 hd a1 M (fun p => p = (r, N)) (fun r N hh => by cases hh; exact ⟨rfl, rfl⟩) (gq_of h)) ⟨rfl, rfl, True.intro⟩)
def fX8_surely_0 (x1 : Int32) (M : gMem) : Option (Int32 × gMem) :=
  gBp (fX8_chew x1 M) (fun r1 M2 => if r1 = 0 then if (M2.1 64 0) = 0 then some ((-1 : Int32), M2) else some ((M2.1 64 1), M2) else some (r1, M2))
set_option maxRecDepth 100000 in
theorem CX8_surely_0 {G : gG} {d : Nat} {Z : Option Value → gMem → Prop} (hd : 7 ≤ d) (x1 : Int32) (M : gMem) (P : Int32 × gMem → Prop) (k0 : ∀ (r : Int32) (N : gMem), P (r, N) → Z (some (.int r)) N) (h : gOKq (fX8_surely_0 x1 M) P) : gGo G YX8_surely d Z 0 [some (.ref 0), some (.int x1), none] [] M := by
  unfold fX8_surely_0 at h
  refine go_rn 2 (pc' := 2) (L' := [some (.ref 0), some (.int x1), none]) (S' := [.int x1, .ref 0]) (M' := M) okX8_surely rfl ?_
  obtain ⟨r1, M2, e3, h⟩ := gBp_ok h
  refine go_call1 ocX8_surely rfl rfl (gOb_c rfl) rfl (SX8_chew x1 M e3) (Nat.lt_of_lt_of_le (by decide) hd) ?_
  refine go_rn 2 (pc' := 7) (L' := [some (.ref 0), some (.int x1), some (.int r1)]) (S' := [.int r1]) (M' := M2) okX8_surely rfl ?_
  refine go_br okX8_surely rfl (fun hp => ?_) (fun hp => ?_)
  · have h := gq_pos hp h
    refine go_rn 1 (pc' := 13) (L' := [some (.ref 0), some (.int x1), some (.int r1)]) (S' := [.ref 0]) (M' := M2) okX8_surely rfl ?_
    refine go_ck okX8_surely rfl (gOb_c rfl) ?_
    refine go_ck okX8_surely rfl (gOb_c rfl) ?_
    refine go_br okX8_surely rfl (fun hp => ?_) (fun hp => ?_)
    · have h := gq_pos hp h
      refine go_rn 2 (pc' := 33) (L' := [some (.ref 0), some (.int x1), some (.int r1)]) (S' := [.int (-1 : Int32)]) (M' := M2) okX8_surely rfl ?_
      exact go_iret (reX8_surely _ (by decide)) rfl (k0 (-1 : Int32) M2 h)
    · have h := gq_neg hp h
      refine go_rn 1 (pc' := 27) (L' := [some (.ref 0), some (.int x1), some (.int r1)]) (S' := [.ref 0]) (M' := M2) okX8_surely rfl ?_
      refine go_ck okX8_surely rfl (gOb_c rfl) ?_
      refine go_ck okX8_surely rfl (gOb_c rfl) ?_
      exact go_iret (reX8_surely _ (by decide)) rfl (k0 (M2.1 64 1) M2 h)
  · have h := gq_neg hp h
    refine go_rn 1 (pc' := 11) (L' := [some (.ref 0), some (.int x1), some (.int r1)]) (S' := [.int r1]) (M' := M2) okX8_surely rfl ?_
    exact go_iret (reX8_surely _ (by decide)) rfl (k0 r1 M2 h)
def fX8_surely (a1 : Int32) (M : gMem) : Option (Int32 × gMem) := fX8_surely_0 a1 M
theorem SX8_surely {G : gG} (a1 : Int32) (M : gMem) {r : Int32} {N : gMem} (h : fX8_surely a1 M = some (r, N)) : gRun G YX8_surely 7 [.ref 0, .int a1] M (fun r' N' => r' = some (.int r) ∧ N' = N) := gRun_in (by decide +kernel) rfl (fun d hd => go_wk (CX8_surely_0 hd a1 M (fun p => p = (r, N)) (fun r N hh => by cases hh; exact ⟨rfl, rfl⟩) (gq_of h)) ⟨rfl, rfl, True.intro⟩)
def fX8_never_0 (x1 : Int32) (M : gMem) : Option (Int32 × gMem) :=
  gBp (fX8_chew x1 M) (fun r1 M2 => if r1 = 0 then if (M2.1 64 0) = 0 then some ((-1 : Int32), M2) else if gOb 7 (M2.2.2 0) = true then gB0 (fX8_allOf (M2.1 (M2.2.2 0) 6) M2) (fun r5 => some ((r5 &&& ((M2.1 64 2) ^^^ (-1 : Int32))), M2)) else none else some (r1, M2))
set_option maxRecDepth 100000 in
theorem CX8_never_0 {G : gG} {d : Nat} {Z : Option Value → gMem → Prop} (hd : 7 ≤ d) (x1 : Int32) (M : gMem) (P : Int32 × gMem → Prop) (k0 : ∀ (r : Int32) (N : gMem), P (r, N) → Z (some (.int r)) N) (h : gOKq (fX8_never_0 x1 M) P) : gGo G YX8_never d Z 0 [some (.ref 0), some (.int x1), none] [] M := by
  unfold fX8_never_0 at h
  refine go_rn 2 (pc' := 2) (L' := [some (.ref 0), some (.int x1), none]) (S' := [.int x1, .ref 0]) (M' := M) okX8_never rfl ?_
  obtain ⟨r1, M2, e3, h⟩ := gBp_ok h
  refine go_call1 ocX8_never rfl rfl (gOb_c rfl) rfl (SX8_chew x1 M e3) (Nat.lt_of_lt_of_le (by decide) hd) ?_
  refine go_rn 2 (pc' := 7) (L' := [some (.ref 0), some (.int x1), some (.int r1)]) (S' := [.int r1]) (M' := M2) okX8_never rfl ?_
  refine go_br okX8_never rfl (fun hp => ?_) (fun hp => ?_)
  · have h := gq_pos hp h
    refine go_rn 1 (pc' := 13) (L' := [some (.ref 0), some (.int x1), some (.int r1)]) (S' := [.ref 0]) (M' := M2) okX8_never rfl ?_
    refine go_ck okX8_never rfl (gOb_c rfl) ?_
    refine go_ck okX8_never rfl (gOb_c rfl) ?_
    refine go_br okX8_never rfl (fun hp => ?_) (fun hp => ?_)
    · have h := gq_pos hp h
      refine go_rn 2 (pc' := 46) (L' := [some (.ref 0), some (.int x1), some (.int r1)]) (S' := [.int (-1 : Int32)]) (M' := M2) okX8_never rfl ?_
      exact go_iret (reX8_never _ (by decide)) rfl (k0 (-1 : Int32) M2 h)
    · have h := gq_neg hp h
      refine go_rn 1 (pc' := 27) (L' := [some (.ref 0), some (.int x1), some (.int r1)]) (S' := [.ref 0]) (M' := M2) okX8_never rfl ?_
      refine go_ck okX8_never rfl (gOb_c rfl) ?_
      obtain ⟨c4, h⟩ := gq_if h
      refine go_ck okX8_never rfl c4 ?_
      obtain ⟨r5, e6, h⟩ := gB0_ok h
      refine go_call1 ocX8_never rfl rfl rfl rfl (SX8_allOf (M2.1 (M2.2.2 0) 6) M2 e6) (Nat.lt_of_lt_of_le (by decide) hd) ?_
      refine go_rn 1 (pc' := 37) (L' := [some (.ref 0), some (.int x1), some (.int r1)]) (S' := [.ref 0, .int r5]) (M' := M2) okX8_never rfl ?_
      refine go_ck okX8_never rfl (gOb_c rfl) ?_
      refine go_ck okX8_never rfl (gOb_c rfl) ?_
      refine go_rn 3 (pc' := 46) (L' := [some (.ref 0), some (.int x1), some (.int r1)]) (S' := [.int (r5 &&& ((M2.1 64 2) ^^^ (-1 : Int32)))]) (M' := M2) okX8_never rfl ?_
      exact go_iret (reX8_never _ (by decide)) rfl (k0 (r5 &&& ((M2.1 64 2) ^^^ (-1 : Int32))) M2 h)
  · have h := gq_neg hp h
    refine go_rn 1 (pc' := 11) (L' := [some (.ref 0), some (.int x1), some (.int r1)]) (S' := [.int r1]) (M' := M2) okX8_never rfl ?_
    exact go_iret (reX8_never _ (by decide)) rfl (k0 r1 M2 h)
def fX8_never (a1 : Int32) (M : gMem) : Option (Int32 × gMem) := fX8_never_0 a1 M
theorem SX8_never {G : gG} (a1 : Int32) (M : gMem) {r : Int32} {N : gMem} (h : fX8_never a1 M = some (r, N)) : gRun G YX8_never 7 [.ref 0, .int a1] M (fun r' N' => r' = some (.int r) ∧ N' = N) := gRun_in (by decide +kernel) rfl (fun d hd => go_wk (CX8_never_0 hd a1 M (fun p => p = (r, N)) (fun r N hh => by cases hh; exact ⟨rfl, rfl⟩) (gq_of h)) ⟨rfl, rfl, True.intro⟩)
def fX8_ask_0 (x1 : Int32) (M : gMem) : Option (Int32 × gMem) :=
  gBp (fX8_chew x1 M) (fun r1 M2 => if r1 = 0 then if gOb 7 (M2.2.2 0) = true then gB0 (fX3_bestQuestion (M2.2.2 0) M2) (fun r5 => some (r5, M2)) else none else some (r1, M2))
set_option maxRecDepth 100000 in
theorem CX8_ask_0 {G : gG} {d : Nat} {Z : Option Value → gMem → Prop} (hd : 7 ≤ d) (x1 : Int32) (M : gMem) (P : Int32 × gMem → Prop) (k0 : ∀ (r : Int32) (N : gMem), P (r, N) → Z (some (.int r)) N) (h : gOKq (fX8_ask_0 x1 M) P) : gGo G YX8_ask d Z 0 [some (.ref 0), some (.int x1), none] [] M := by
  unfold fX8_ask_0 at h
  refine go_rn 2 (pc' := 2) (L' := [some (.ref 0), some (.int x1), none]) (S' := [.int x1, .ref 0]) (M' := M) okX8_ask rfl ?_
  obtain ⟨r1, M2, e3, h⟩ := gBp_ok h
  refine go_call1 ocX8_ask rfl rfl (gOb_c rfl) rfl (SX8_chew x1 M e3) (Nat.lt_of_lt_of_le (by decide) hd) ?_
  refine go_rn 2 (pc' := 7) (L' := [some (.ref 0), some (.int x1), some (.int r1)]) (S' := [.int r1]) (M' := M2) okX8_ask rfl ?_
  refine go_br okX8_ask rfl (fun hp => ?_) (fun hp => ?_)
  · have h := gq_pos hp h
    refine go_rn 1 (pc' := 15) (L' := [some (.ref 0), some (.int x1), some (.int r1)]) (S' := [.ref 0]) (M' := M2) okX8_ask rfl ?_
    refine go_ck okX8_ask rfl (gOb_c rfl) ?_
    refine go_rn 1 (pc' := 19) (L' := [some (.ref 0), some (.int x1), some (.int r1)]) (S' := [.ref 0, .ref 64]) (M' := M2) okX8_ask rfl ?_
    refine go_ck okX8_ask rfl (gOb_c rfl) ?_
    obtain ⟨c4, h⟩ := gq_if h
    obtain ⟨r5, e6, h⟩ := gB0_ok h
    refine go_call1 ocX8_ask rfl rfl (gOb_c rfl) rfl (SX3_bestQuestion (M2.2.2 0) M2 c4 e6) (Nat.lt_of_lt_of_le (by decide) hd) ?_
    exact go_iret (reX8_ask _ (by decide)) rfl (k0 r5 M2 h)
  · have h := gq_neg hp h
    refine go_rn 2 (pc' := 25) (L' := [some (.ref 0), some (.int x1), some (.int r1)]) (S' := [.int r1]) (M' := M2) okX8_ask rfl ?_
    exact go_iret (reX8_ask _ (by decide)) rfl (k0 r1 M2 h)
def fX8_ask (a1 : Int32) (M : gMem) : Option (Int32 × gMem) := fX8_ask_0 a1 M
theorem SX8_ask {G : gG} (a1 : Int32) (M : gMem) {r : Int32} {N : gMem} (h : fX8_ask a1 M = some (r, N)) : gRun G YX8_ask 7 [.ref 0, .int a1] M (fun r' N' => r' = some (.int r) ∧ N' = N) := gRun_in (by decide +kernel) rfl (fun d hd => go_wk (CX8_ask_0 hd a1 M (fun p => p = (r, N)) (fun r N hh => by cases hh; exact ⟨rfl, rfl⟩) (gq_of h)) ⟨rfl, rfl, True.intro⟩)
def fX8_leaves_0 (x1 : Int32) (M : gMem) : Option (Int32 × gMem) :=
  gBp (fX8_chew x1 M) (fun r1 M2 => if r1 = 0 then if gOb 7 (M2.2.2 0) = true then gB0 (fX3_bestQuestion (M2.2.2 0) M2) (fun r5 => gB0 (fX3_leftAtWorst r5 M2) (fun r7 => some (r7, M2))) else none else some (r1, M2))
set_option maxRecDepth 100000 in
theorem CX8_leaves_0 {G : gG} {d : Nat} {Z : Option Value → gMem → Prop} (hd : 7 ≤ d) (x1 : Int32) (M : gMem) (P : Int32 × gMem → Prop) (k0 : ∀ (r : Int32) (N : gMem), P (r, N) → Z (some (.int r)) N) (h : gOKq (fX8_leaves_0 x1 M) P) : gGo G YX8_leaves d Z 0 [some (.ref 0), some (.int x1), none] [] M := by
  unfold fX8_leaves_0 at h
  refine go_rn 2 (pc' := 2) (L' := [some (.ref 0), some (.int x1), none]) (S' := [.int x1, .ref 0]) (M' := M) okX8_leaves rfl ?_
  obtain ⟨r1, M2, e3, h⟩ := gBp_ok h
  refine go_call1 ocX8_leaves rfl rfl (gOb_c rfl) rfl (SX8_chew x1 M e3) (Nat.lt_of_lt_of_le (by decide) hd) ?_
  refine go_rn 2 (pc' := 7) (L' := [some (.ref 0), some (.int x1), some (.int r1)]) (S' := [.int r1]) (M' := M2) okX8_leaves rfl ?_
  refine go_br okX8_leaves rfl (fun hp => ?_) (fun hp => ?_)
  · have h := gq_pos hp h
    refine go_rn 1 (pc' := 15) (L' := [some (.ref 0), some (.int x1), some (.int r1)]) (S' := [.ref 0]) (M' := M2) okX8_leaves rfl ?_
    refine go_ck okX8_leaves rfl (gOb_c rfl) ?_
    refine go_rn 1 (pc' := 19) (L' := [some (.ref 0), some (.int x1), some (.int r1)]) (S' := [.ref 0, .ref 64]) (M' := M2) okX8_leaves rfl ?_
    refine go_ck okX8_leaves rfl (gOb_c rfl) ?_
    refine go_rn 1 (pc' := 23) (L' := [some (.ref 0), some (.int x1), some (.int r1)]) (S' := [.ref 0, .ref 64, .ref 64]) (M' := M2) okX8_leaves rfl ?_
    refine go_ck okX8_leaves rfl (gOb_c rfl) ?_
    obtain ⟨c4, h⟩ := gq_if h
    obtain ⟨r5, e6, h⟩ := gB0_ok h
    refine go_call1 ocX8_leaves rfl rfl (gOb_c rfl) rfl (SX3_bestQuestion (M2.2.2 0) M2 c4 e6) (Nat.lt_of_lt_of_le (by decide) hd) ?_
    obtain ⟨r7, e8, h⟩ := gB0_ok h
    refine go_call1 ocX8_leaves rfl rfl (gOb_c rfl) rfl (SX3_leftAtWorst r5 M2 e8) (Nat.lt_of_lt_of_le (by decide) hd) ?_
    exact go_iret (reX8_leaves _ (by decide)) rfl (k0 r7 M2 h)
  · have h := gq_neg hp h
    refine go_rn 2 (pc' := 32) (L' := [some (.ref 0), some (.int x1), some (.int r1)]) (S' := [.int r1]) (M' := M2) okX8_leaves rfl ?_
    exact go_iret (reX8_leaves _ (by decide)) rfl (k0 r1 M2 h)
def fX8_leaves (a1 : Int32) (M : gMem) : Option (Int32 × gMem) := fX8_leaves_0 a1 M
theorem SX8_leaves {G : gG} (a1 : Int32) (M : gMem) {r : Int32} {N : gMem} (h : fX8_leaves a1 M = some (r, N)) : gRun G YX8_leaves 7 [.ref 0, .int a1] M (fun r' N' => r' = some (.int r) ∧ N' = N) := gRun_in (by decide +kernel) rfl (fun d hd => go_wk (CX8_leaves_0 hd a1 M (fun p => p = (r, N)) (fun r N hh => by cases hh; exact ⟨rfl, rfl⟩) (gq_of h)) ⟨rfl, rfl, True.intro⟩)
def fX8_laws_55 (x2 : Nat) (x4 : Int32) (x5 : Int32) (M : gMem) : Option (Sum (Int32 × Int32) (Int32 × gMem)) :=
  if (4 : Int32) ≤ x5 then some (.inr (x4, M)) else if gOb 7 (M.2.2 0) = true then gB0 (fX3_agrees (M.2.2 0) x2 x5 M) (fun r2 => if r2 = 0 then some (.inl (x4, (x5 + 1))) else some (.inl ((x4 ||| ((1 : Int32) <<< (x5 &&& 31))), (x5 + 1)))) else none
set_option maxRecDepth 100000 in
theorem CX8_laws_55 {G : gG} {d : Nat} {Z : Option Value → gMem → Prop} (hd : 5 ≤ d) (x2 : Nat) (x4 : Int32) (x5 : Int32) (M : gMem) (o_x2 : gOb 4 x2 = true) (P : Sum (Int32 × Int32) (Int32 × gMem) → Prop) (k0 : ∀ (r : Int32) (N : gMem), P (.inr (r, N)) → Z (some (.int r)) N) (k1 : ∀ (x4 : Int32) (x5 : Int32), P (.inl (x4, x5)) → gGo G YX8_laws d Z 55 [some (.ref 0), none, some (.ref x2), none, some (.int x4), some (.int x5)] [] M) (h : gOKq (fX8_laws_55 x2 x4 x5 M) P) : gGo G YX8_laws d Z 55 [some (.ref 0), none, some (.ref x2), none, some (.int x4), some (.int x5)] [] M := by
  unfold fX8_laws_55 at h
  refine go_rn 2 (pc' := 58) (L' := [some (.ref 0), none, some (.ref x2), none, some (.int x4), some (.int x5)]) (S' := [.int (4 : Int32), .int x5]) (M' := M) okX8_laws rfl ?_
  refine go_br okX8_laws rfl (fun hp => ?_) (fun hp => ?_)
  · have h := gq_pos hp h
    refine go_rn 1 (pc' := 95) (L' := [some (.ref 0), none, some (.ref x2), none, some (.int x4), some (.int x5)]) (S' := [.int x4]) (M' := M) okX8_laws rfl ?_
    exact go_iret (reX8_laws _ (by decide)) rfl (k0 x4 M h)
  · have h := gq_neg hp h
    refine go_rn 1 (pc' := 62) (L' := [some (.ref 0), none, some (.ref x2), none, some (.int x4), some (.int x5)]) (S' := [.ref 0]) (M' := M) okX8_laws rfl ?_
    refine go_ck okX8_laws rfl (gOb_c rfl) ?_
    obtain ⟨c1, h⟩ := gq_if h
    refine go_rn 1 (pc' := 66) (L' := [some (.ref 0), none, some (.ref x2), none, some (.int x4), some (.int x5)]) (S' := [.ref 0, .ref (M.2.2 0)]) (M' := M) okX8_laws rfl ?_
    refine go_ck okX8_laws rfl (gOb_c rfl) ?_
    refine go_rn 2 (pc' := 72) (L' := [some (.ref 0), none, some (.ref x2), none, some (.int x4), some (.int x5)]) (S' := [.int x5, .ref x2, .ref 14, .ref (M.2.2 0)]) (M' := M) okX8_laws rfl ?_
    obtain ⟨r2, e3, h⟩ := gB0_ok h
    refine go_call1 ocX8_laws rfl rfl rfl rfl (SX3_agrees (M.2.2 0) x2 x5 M c1 o_x2 e3) (Nat.lt_of_lt_of_le (by decide) hd) ?_
    refine go_br okX8_laws rfl (fun hp => ?_) (fun hp => ?_)
    · have h := gq_pos hp h
      refine go_rn 2 (pc' := 55) (L' := [some (.ref 0), none, some (.ref x2), none, some (.int x4), some (.int (x5 + 1))]) (S' := []) (M' := M) okX8_laws rfl ?_
      exact go_wk (k1 (x4) ((x5 + 1)) h) ⟨rfl, rfl, rfl, rfl, True.intro⟩
    · have h := gq_neg hp h
      refine go_rn 8 (pc' := 55) (L' := [some (.ref 0), none, some (.ref x2), none, some (.int (x4 ||| ((1 : Int32) <<< (x5 &&& 31)))), some (.int (x5 + 1))]) (S' := []) (M' := M) okX8_laws rfl ?_
      exact go_wk (k1 ((x4 ||| ((1 : Int32) <<< (x5 &&& 31)))) ((x5 + 1)) h) ⟨rfl, rfl, rfl, rfl, True.intro⟩
def fX8_laws_55h (x2 : Nat) (x4 : Int32) (x5 : Int32) (M : gMem) : Option (Int32 × gMem) :=
  gLp (fun s : Int32 × Int32 => fX8_laws_55 x2 (s.1) (s.2) M) gFu (x4, x5)
set_option maxRecDepth 100000 in
theorem CX8_laws_55h {G : gG} {d : Nat} {Z : Option Value → gMem → Prop} (hd : 5 ≤ d) (x2 : Nat) (x4 : Int32) (x5 : Int32) (M : gMem) (o_x2 : gOb 4 x2 = true) (P : Int32 × gMem → Prop) (k0 : ∀ (r : Int32) (N : gMem), P (r, N) → Z (some (.int r)) N) (h : gOKq (fX8_laws_55h x2 x4 x5 M) P) : gGo G YX8_laws d Z 55 [some (.ref 0), none, some (.ref x2), none, some (.int x4), some (.int x5)] [] M :=
  gLp_go (K := fun s : Int32 × Int32 => gGo G YX8_laws d Z 55 [some (.ref 0), none, some (.ref x2), none, some (.int s.1), some (.int s.2)] [] M) (P := P) (fun s hs => CX8_laws_55 hd (x2) (s.1) (s.2) M o_x2 (Sum.elim (fun s : Int32 × Int32 => gGo G YX8_laws d Z 55 [some (.ref 0), none, some (.ref x2), none, some (.int s.1), some (.int s.2)] [] M) P) k0 (fun x4 x5 hh => hh) hs) gFu (x4, x5) h
def fX8_laws_42 (x2 : Nat) (M : gMem) : Option (Int32 × gMem) :=
  if gOb 7 (M.2.2 0) = true then gB0 (fX2_live (M.2.2 0) (1 : Int32) M) (fun M2 => fX8_laws_55h x2 (0 : Int32) (0 : Int32) M2) else none
set_option maxRecDepth 100000 in
theorem CX8_laws_42 {G : gG} {d : Nat} {Z : Option Value → gMem → Prop} (hd : 5 ≤ d) (x2 : Nat) (M : gMem) (o_x2 : gOb 4 x2 = true) (P : Int32 × gMem → Prop) (k0 : ∀ (r : Int32) (N : gMem), P (r, N) → Z (some (.int r)) N) (h : gOKq (fX8_laws_42 x2 M) P) : gGo G YX8_laws d Z 42 [some (.ref 0), none, some (.ref x2), none, none, none] [.ref 0, .ref 14] M := by
  unfold fX8_laws_42 at h
  refine go_ck okX8_laws rfl (gOb_c rfl) ?_
  obtain ⟨c1, h⟩ := gq_if h
  refine go_rn 1 (pc' := 46) (L' := [some (.ref 0), none, some (.ref x2), none, none, none]) (S' := [.int (1 : Int32), .ref (M.2.2 0), .ref 14]) (M' := M) okX8_laws rfl ?_
  obtain ⟨M2, e3, h⟩ := gB0_ok h
  refine go_call1 ocX8_laws rfl rfl (gOb_c rfl) rfl (SX2_live (M.2.2 0) (1 : Int32) M c1 e3) (Nat.lt_of_lt_of_le (by decide) hd) ?_
  refine go_rn 4 (pc' := 55) (L' := [some (.ref 0), none, some (.ref x2), none, some (.int (0 : Int32)), some (.int (0 : Int32))]) (S' := []) (M' := M2) okX8_laws rfl ?_
  exact go_wk (CX8_laws_55h hd x2 (0 : Int32) (0 : Int32) M2 o_x2 P k0 h) ⟨rfl, rfl, rfl, rfl, True.intro⟩
def fX8_laws_0 (x1 : Int32) (M : gMem) : Option (Int32 × gMem) :=
  gB0 (fX8_slotAt x1 M) (fun r1 => gNl r1 (gB0 (fX8_refusalOfSightings (Value.null) M) (fun r3 => some (r3, M))) (fun o5 => if gOb 4 o5 = true then gB0 (fX8_refusalOfSightings (Value.ref o5) M) (fun r7 => if r7 = 0 then gB0 (fX2_supposeNothing M) (fun M9 => fX8_laws_42 o5 (gSI M9 14 1 (1 : Int32))) else some (r7, M)) else none))
set_option maxRecDepth 100000 in
theorem CX8_laws_0 {G : gG} {d : Nat} {Z : Option Value → gMem → Prop} (hd : 5 ≤ d) (x1 : Int32) (M : gMem) (P : Int32 × gMem → Prop) (k0 : ∀ (r : Int32) (N : gMem), P (r, N) → Z (some (.int r)) N) (h : gOKq (fX8_laws_0 x1 M) P) : gGo G YX8_laws d Z 0 [some (.ref 0), some (.int x1), none, none, none, none] [] M := by
  unfold fX8_laws_0 at h
  refine go_rn 2 (pc' := 2) (L' := [some (.ref 0), some (.int x1), none, none, none, none]) (S' := [.int x1, .ref 0]) (M' := M) okX8_laws rfl ?_
  obtain ⟨r1, e2, h⟩ := gB0_ok h
  refine go_call1 ocX8_laws rfl rfl (gOb_c rfl) rfl (SX8_slotAt x1 M e2) (Nat.lt_of_lt_of_le (by decide) hd) ?_
  rcases gq_nl h with ⟨hv, hh⟩ | ⟨o5, hv, hh⟩
  · subst hv
    have h := hh
    refine go_rn 3 (pc' := 8) (L' := [some (.ref 0), some (.int x1), some (.null), none, none, none]) (S' := [.null, .ref 0]) (M' := M) okX8_laws rfl ?_
    obtain ⟨r3, e4, h⟩ := gB0_ok h
    refine go_call1 ocX8_laws rfl rfl (gOb_c rfl) rfl (SX8_refusalOfSightings (Value.null) M e4) (Nat.lt_of_lt_of_le (by decide) hd) ?_
    refine go_rn 4 (pc' := 21) (L' := [some (.ref 0), some (.int x1), some (.null), some (.int r3), none, none]) (S' := [.int r3]) (M' := M) okX8_laws rfl ?_
    exact go_iret (reX8_laws _ (by decide)) rfl (k0 r3 M h)
  · subst hv
    obtain ⟨c6, h⟩ := gq_if hh
    refine go_rn 3 (pc' := 8) (L' := [some (.ref 0), some (.int x1), some (.ref o5), none, none, none]) (S' := [.ref o5, .ref 0]) (M' := M) okX8_laws rfl ?_
    obtain ⟨r7, e8, h⟩ := gB0_ok h
    refine go_call1 ocX8_laws rfl rfl (gOb_c rfl) rfl (SX8_refusalOfSightings (Value.ref o5) M e8) (Nat.lt_of_lt_of_le (by decide) hd) ?_
    refine go_rn 4 (pc' := 17) (L' := [some (.ref 0), some (.int x1), some (.ref o5), some (.int r7), none, none]) (S' := [.int r7]) (M' := M) okX8_laws rfl ?_
    refine go_br okX8_laws rfl (fun hp => ?_) (fun hp => ?_)
    · have h := gq_pos hp h
      refine go_rn 1 (pc' := 23) (L' := [some (.ref 0), some (.int x1), some (.ref o5), some (.int r7), none, none]) (S' := [.ref 0]) (M' := M) okX8_laws rfl ?_
      refine go_ck okX8_laws rfl (gOb_c rfl) ?_
      obtain ⟨M9, e10, h⟩ := gB0_ok h
      refine go_call1 ocX8_laws rfl rfl (gOb_c rfl) rfl (SX2_supposeNothing M e10) (Nat.lt_of_lt_of_le (by decide) hd) ?_
      refine go_rn 1 (pc' := 30) (L' := [some (.ref 0), some (.int x1), some (.ref o5), some (.int r7), none, none]) (S' := [.ref 0]) (M' := M9) okX8_laws rfl ?_
      refine go_ck okX8_laws rfl (gOb_c rfl) ?_
      refine go_rn 1 (pc' := 34) (L' := [some (.ref 0), some (.int x1), some (.ref o5), some (.int r7), none, none]) (S' := [.int (1 : Int32), .ref 14]) (M' := M9) okX8_laws rfl ?_
      refine go_cc okX8_laws rfl (gOb_c rfl) (Or.inr rfl) ?_
      refine go_rn 1 (pc' := 38) (L' := [some (.ref 0), some (.int x1), some (.ref o5), some (.int r7), none, none]) (S' := [.ref 0]) (M' := (gSI M9 14 1 (1 : Int32))) okX8_laws rfl ?_
      refine go_ck okX8_laws rfl (gOb_c rfl) ?_
      refine go_rn 1 (pc' := 42) (L' := [some (.ref 0), some (.int x1), some (.ref o5), some (.int r7), none, none]) (S' := [.ref 0, .ref 14]) (M' := (gSI M9 14 1 (1 : Int32))) okX8_laws rfl ?_
      exact go_wk (CX8_laws_42 hd o5 (gSI M9 14 1 (1 : Int32)) c6 P k0 h) ⟨rfl, rfl, True.intro⟩
    · have h := gq_neg hp h
      refine go_rn 1 (pc' := 21) (L' := [some (.ref 0), some (.int x1), some (.ref o5), some (.int r7), none, none]) (S' := [.int r7]) (M' := M) okX8_laws rfl ?_
      exact go_iret (reX8_laws _ (by decide)) rfl (k0 r7 M h)
def fX8_laws (a1 : Int32) (M : gMem) : Option (Int32 × gMem) := fX8_laws_0 a1 M
theorem SX8_laws {G : gG} (a1 : Int32) (M : gMem) {r : Int32} {N : gMem} (h : fX8_laws a1 M = some (r, N)) : gRun G YX8_laws 5 [.ref 0, .int a1] M (fun r' N' => r' = some (.int r) ∧ N' = N) := gRun_in (by decide +kernel) rfl (fun d hd => go_wk (CX8_laws_0 hd a1 M (fun p => p = (r, N)) (fun r N hh => by cases hh; exact ⟨rfl, rfl⟩) (gq_of h)) ⟨rfl, rfl, True.intro⟩)
def fX8_by_32 (x1 : Int32) (x2 : Int32) (x3 : Int32) (x4 : Int32) (M : gMem) : Option (Sum (Int32 × Int32) (Int32 × gMem)) :=
  if gOb 7 (M.2.2 0) = true then if (M.1 (M.2.2 0) 5) ≤ x4 then some (.inr (x3, M)) else gB0 (fX2_isFirstOfFirm x4 (0 : Int32) M) (fun r2 => if r2 = 0 then some (.inl (x3, (x4 + 1))) else if gOb 7 (M.2.2 0) = true then gB0 (fX2_doorsOf (M.2.2 0) (0 : Int32) x4 x2 M) (fun r5 => gB0 (fX8_has r5 x1 M) (fun r7 => if r7 = 0 then some (.inl (x3, (x4 + 1))) else some (.inl ((x3 + 1), (x4 + 1))))) else none) else none
set_option maxRecDepth 100000 in
theorem CX8_by_32 {G : gG} {d : Nat} {Z : Option Value → gMem → Prop} (hd : 6 ≤ d) (x1 : Int32) (x2 : Int32) (x3 : Int32) (x4 : Int32) (M : gMem) (P : Sum (Int32 × Int32) (Int32 × gMem) → Prop) (k0 : ∀ (r : Int32) (N : gMem), P (.inr (r, N)) → Z (some (.int r)) N) (k1 : ∀ (x3 : Int32) (x4 : Int32), P (.inl (x3, x4)) → gGo G YX8_by d Z 32 [some (.ref 0), some (.int x1), some (.int x2), some (.int x3), some (.int x4)] [] M) (h : gOKq (fX8_by_32 x1 x2 x3 x4 M) P) : gGo G YX8_by d Z 32 [some (.ref 0), some (.int x1), some (.int x2), some (.int x3), some (.int x4)] [] M := by
  unfold fX8_by_32 at h
  refine go_rn 2 (pc' := 35) (L' := [some (.ref 0), some (.int x1), some (.int x2), some (.int x3), some (.int x4)]) (S' := [.ref 0, .int x4]) (M' := M) okX8_by rfl ?_
  refine go_ck okX8_by rfl (gOb_c rfl) ?_
  obtain ⟨c1, h⟩ := gq_if h
  refine go_ck okX8_by rfl c1 ?_
  refine go_br okX8_by rfl (fun hp => ?_) (fun hp => ?_)
  · have h := gq_pos hp h
    refine go_rn 1 (pc' := 89) (L' := [some (.ref 0), some (.int x1), some (.int x2), some (.int x3), some (.int x4)]) (S' := [.int x3]) (M' := M) okX8_by rfl ?_
    exact go_iret (reX8_by _ (by decide)) rfl (k0 x3 M h)
  · have h := gq_neg hp h
    refine go_rn 1 (pc' := 45) (L' := [some (.ref 0), some (.int x1), some (.int x2), some (.int x3), some (.int x4)]) (S' := [.ref 0]) (M' := M) okX8_by rfl ?_
    refine go_ck okX8_by rfl (gOb_c rfl) ?_
    refine go_rn 2 (pc' := 51) (L' := [some (.ref 0), some (.int x1), some (.int x2), some (.int x3), some (.int x4)]) (S' := [.int (0 : Int32), .int x4, .ref 14]) (M' := M) okX8_by rfl ?_
    obtain ⟨r2, e3, h⟩ := gB0_ok h
    refine go_call1 ocX8_by rfl rfl (gOb_c rfl) rfl (SX2_isFirstOfFirm x4 (0 : Int32) M e3) (Nat.lt_of_lt_of_le (by decide) hd) ?_
    refine go_br okX8_by rfl (fun hp => ?_) (fun hp => ?_)
    · have h := gq_pos hp h
      refine go_rn 2 (pc' := 32) (L' := [some (.ref 0), some (.int x1), some (.int x2), some (.int x3), some (.int (x4 + 1))]) (S' := []) (M' := M) okX8_by rfl ?_
      exact go_wk (k1 (x3) ((x4 + 1)) h) ⟨rfl, rfl, rfl, rfl, rfl, True.intro⟩
    · have h := gq_neg hp h
      refine go_rn 1 (pc' := 58) (L' := [some (.ref 0), some (.int x1), some (.int x2), some (.int x3), some (.int x4)]) (S' := [.ref 0]) (M' := M) okX8_by rfl ?_
      refine go_ck okX8_by rfl (gOb_c rfl) ?_
      refine go_rn 1 (pc' := 62) (L' := [some (.ref 0), some (.int x1), some (.int x2), some (.int x3), some (.int x4)]) (S' := [.ref 0, .ref 14]) (M' := M) okX8_by rfl ?_
      refine go_ck okX8_by rfl (gOb_c rfl) ?_
      obtain ⟨c4, h⟩ := gq_if h
      refine go_rn 3 (pc' := 69) (L' := [some (.ref 0), some (.int x1), some (.int x2), some (.int x3), some (.int x4)]) (S' := [.int x2, .int x4, .int (0 : Int32), .ref (M.2.2 0), .ref 14]) (M' := M) okX8_by rfl ?_
      obtain ⟨r5, e6, h⟩ := gB0_ok h
      refine go_call1 ocX8_by rfl rfl (gOb_c rfl) rfl (SX2_doorsOf (M.2.2 0) (0 : Int32) x4 x2 M c4 e6) (Nat.lt_of_lt_of_le (by decide) hd) ?_
      refine go_rn 1 (pc' := 73) (L' := [some (.ref 0), some (.int x1), some (.int x2), some (.int x3), some (.int x4)]) (S' := [.int x1, .int r5]) (M' := M) okX8_by rfl ?_
      obtain ⟨r7, e8, h⟩ := gB0_ok h
      refine go_call1 ocX8_by rfl rfl rfl rfl (SX8_has r5 x1 M e8) (Nat.lt_of_lt_of_le (by decide) hd) ?_
      refine go_br okX8_by rfl (fun hp => ?_) (fun hp => ?_)
      · have h := gq_pos hp h
        refine go_rn 2 (pc' := 32) (L' := [some (.ref 0), some (.int x1), some (.int x2), some (.int x3), some (.int (x4 + 1))]) (S' := []) (M' := M) okX8_by rfl ?_
        exact go_wk (k1 (x3) ((x4 + 1)) h) ⟨rfl, rfl, rfl, rfl, rfl, True.intro⟩
      · have h := gq_neg hp h
        refine go_rn 3 (pc' := 32) (L' := [some (.ref 0), some (.int x1), some (.int x2), some (.int (x3 + 1)), some (.int (x4 + 1))]) (S' := []) (M' := M) okX8_by rfl ?_
        exact go_wk (k1 ((x3 + 1)) ((x4 + 1)) h) ⟨rfl, rfl, rfl, rfl, rfl, True.intro⟩
def fX8_by_32h (x1 : Int32) (x2 : Int32) (x3 : Int32) (x4 : Int32) (M : gMem) : Option (Int32 × gMem) :=
  gLp (fun s : Int32 × Int32 => fX8_by_32 x1 x2 (s.1) (s.2) M) gFu (x3, x4)
set_option maxRecDepth 100000 in
theorem CX8_by_32h {G : gG} {d : Nat} {Z : Option Value → gMem → Prop} (hd : 6 ≤ d) (x1 : Int32) (x2 : Int32) (x3 : Int32) (x4 : Int32) (M : gMem) (P : Int32 × gMem → Prop) (k0 : ∀ (r : Int32) (N : gMem), P (r, N) → Z (some (.int r)) N) (h : gOKq (fX8_by_32h x1 x2 x3 x4 M) P) : gGo G YX8_by d Z 32 [some (.ref 0), some (.int x1), some (.int x2), some (.int x3), some (.int x4)] [] M :=
  gLp_go (K := fun s : Int32 × Int32 => gGo G YX8_by d Z 32 [some (.ref 0), some (.int x1), some (.int x2), some (.int s.1), some (.int s.2)] [] M) (P := P) (fun s hs => CX8_by_32 hd (x1) (x2) (s.1) (s.2) M (Sum.elim (fun s : Int32 × Int32 => gGo G YX8_by d Z 32 [some (.ref 0), some (.int x1), some (.int x2), some (.int s.1), some (.int s.2)] [] M) P) k0 (fun x3 x4 hh => hh) hs) gFu (x3, x4) h
def fX8_by_0 (x1 : Int32) (x2 : Int32) (M : gMem) : Option (Int32 × gMem) :=
  if gOb 7 (M.2.2 0) = true then gB0 (fX7_hasDoor (M.2.2 0) x1 M) (fun r2 => if r2 = 0 then some ((-2 : Int32), M) else if x2 < 0 then some ((-2 : Int32), M) else if x2 < (4 : Int32) then gB0 (fX8_liveAsNow M) (fun M4 => fX8_by_32h x1 x2 (0 : Int32) (0 : Int32) M4) else some ((-2 : Int32), M)) else none
set_option maxRecDepth 100000 in
theorem CX8_by_0 {G : gG} {d : Nat} {Z : Option Value → gMem → Prop} (hd : 6 ≤ d) (x1 : Int32) (x2 : Int32) (M : gMem) (P : Int32 × gMem → Prop) (k0 : ∀ (r : Int32) (N : gMem), P (r, N) → Z (some (.int r)) N) (h : gOKq (fX8_by_0 x1 x2 M) P) : gGo G YX8_by d Z 0 [some (.ref 0), some (.int x1), some (.int x2), none, none] [] M := by
  unfold fX8_by_0 at h
  refine go_rn 1 (pc' := 1) (L' := [some (.ref 0), some (.int x1), some (.int x2), none, none]) (S' := [.ref 0]) (M' := M) okX8_by rfl ?_
  refine go_ck okX8_by rfl (gOb_c rfl) ?_
  obtain ⟨c1, h⟩ := gq_if h
  refine go_rn 1 (pc' := 5) (L' := [some (.ref 0), some (.int x1), some (.int x2), none, none]) (S' := [.int x1, .ref (M.2.2 0)]) (M' := M) okX8_by rfl ?_
  obtain ⟨r2, e3, h⟩ := gB0_ok h
  refine go_call1 ocX8_by rfl rfl c1 rfl (SX7_hasDoor (M.2.2 0) x1 M c1 e3) (Nat.lt_of_lt_of_le (by decide) hd) ?_
  refine go_br okX8_by rfl (fun hp => ?_) (fun hp => ?_)
  · have h := gq_pos hp h
    refine go_rn 1 (pc' := 22) (L' := [some (.ref 0), some (.int x1), some (.int x2), none, none]) (S' := [.int (-2 : Int32)]) (M' := M) okX8_by rfl ?_
    exact go_iret (reX8_by _ (by decide)) rfl (k0 (-2 : Int32) M h)
  · have h := gq_neg hp h
    refine go_rn 1 (pc' := 12) (L' := [some (.ref 0), some (.int x1), some (.int x2), none, none]) (S' := [.int x2]) (M' := M) okX8_by rfl ?_
    refine go_br okX8_by rfl (fun hp => ?_) (fun hp => ?_)
    · have h := gq_pos hp h
      refine go_rn 1 (pc' := 22) (L' := [some (.ref 0), some (.int x1), some (.int x2), none, none]) (S' := [.int (-2 : Int32)]) (M' := M) okX8_by rfl ?_
      exact go_iret (reX8_by _ (by decide)) rfl (k0 (-2 : Int32) M h)
    · have h := gq_neg hp h
      refine go_rn 2 (pc' := 17) (L' := [some (.ref 0), some (.int x1), some (.int x2), none, none]) (S' := [.int (4 : Int32), .int x2]) (M' := M) okX8_by rfl ?_
      refine go_br okX8_by rfl (fun hp => ?_) (fun hp => ?_)
      · have h := gq_pos hp h
        refine go_rn 1 (pc' := 24) (L' := [some (.ref 0), some (.int x1), some (.int x2), none, none]) (S' := [.ref 0]) (M' := M) okX8_by rfl ?_
        obtain ⟨M4, e5, h⟩ := gB0_ok h
        refine go_call1 ocX8_by rfl rfl (gOb_c rfl) rfl (SX8_liveAsNow M e5) (Nat.lt_of_lt_of_le (by decide) hd) ?_
        refine go_rn 4 (pc' := 32) (L' := [some (.ref 0), some (.int x1), some (.int x2), some (.int (0 : Int32)), some (.int (0 : Int32))]) (S' := []) (M' := M4) okX8_by rfl ?_
        exact go_wk (CX8_by_32h hd x1 x2 (0 : Int32) (0 : Int32) M4 P k0 h) ⟨rfl, rfl, rfl, rfl, rfl, True.intro⟩
      · have h := gq_neg hp h
        refine go_rn 1 (pc' := 22) (L' := [some (.ref 0), some (.int x1), some (.int x2), none, none]) (S' := [.int (-2 : Int32)]) (M' := M) okX8_by rfl ?_
        exact go_iret (reX8_by _ (by decide)) rfl (k0 (-2 : Int32) M h)
def fX8_by (a1 : Int32) (a2 : Int32) (M : gMem) : Option (Int32 × gMem) := fX8_by_0 a1 a2 M
theorem SX8_by {G : gG} (a1 : Int32) (a2 : Int32) (M : gMem) {r : Int32} {N : gMem} (h : fX8_by a1 a2 M = some (r, N)) : gRun G YX8_by 6 [.ref 0, .int a1, .int a2] M (fun r' N' => r' = some (.int r) ∧ N' = N) := gRun_in (by decide +kernel) rfl (fun d hd => go_wk (CX8_by_0 hd a1 a2 M (fun p => p = (r, N)) (fun r N hh => by cases hh; exact ⟨rfl, rfl⟩) (gq_of h)) ⟨rfl, rfl, rfl, True.intro⟩)
def fX8_lastWorth_0 (x1 : Int32) (M : gMem) : Option (Int32) :=
  if gOb 7 (M.2.2 0) = true then if gOb 7 (M.2.2 0) = true then gB0 (fX7_hasYear (M.2.2 0) ((M.1 (M.2.2 0) 1) - (1 : Int32)) M) (fun r3 => if r3 = 0 then some (0 : Int32) else if gIx 7 22 ((M.1 (M.2.2 0) 1) - (1 : Int32)) = true then if gIx 1 (gRa 22 (Int32.toNatClampNeg ((M.1 (M.2.2 0) 1) - (1 : Int32)))) x1 = true then some (M.1 (gRa 22 (Int32.toNatClampNeg ((M.1 (M.2.2 0) 1) - (1 : Int32)))) (Int32.toNatClampNeg x1)) else none else none) else none else none
set_option maxRecDepth 100000 in
theorem CX8_lastWorth_0 {G : gG} {d : Nat} {Z : Option Value → gMem → Prop} (hd : 1 ≤ d) (x1 : Int32) (M : gMem) (P : Int32 → Prop) (k0 : ∀ (r : Int32), P r → Z (some (.int r)) M) (h : gOKq (fX8_lastWorth_0 x1 M) P) : gGo G YX8_lastWorth d Z 0 [some (.ref 0), some (.int x1), none] [] M := by
  unfold fX8_lastWorth_0 at h
  refine go_rn 1 (pc' := 1) (L' := [some (.ref 0), some (.int x1), none]) (S' := [.ref 0]) (M' := M) okX8_lastWorth rfl ?_
  refine go_ck okX8_lastWorth rfl (gOb_c rfl) ?_
  obtain ⟨c1, h⟩ := gq_if h
  refine go_ck okX8_lastWorth rfl c1 ?_
  refine go_rn 4 (pc' := 11) (L' := [some (.ref 0), some (.int x1), some (.int ((M.1 (M.2.2 0) 1) - (1 : Int32)))]) (S' := [.ref 0]) (M' := M) okX8_lastWorth rfl ?_
  refine go_ck okX8_lastWorth rfl (gOb_c rfl) ?_
  obtain ⟨c2, h⟩ := gq_if h
  refine go_rn 1 (pc' := 15) (L' := [some (.ref 0), some (.int x1), some (.int ((M.1 (M.2.2 0) 1) - (1 : Int32)))]) (S' := [.int ((M.1 (M.2.2 0) 1) - (1 : Int32)), .ref (M.2.2 0)]) (M' := M) okX8_lastWorth rfl ?_
  obtain ⟨r3, e4, h⟩ := gB0_ok h
  refine go_call1 ocX8_lastWorth rfl rfl c2 rfl (SX7_hasYear (M.2.2 0) ((M.1 (M.2.2 0) 1) - (1 : Int32)) M c2 e4) (Nat.lt_of_lt_of_le (by decide) hd) ?_
  refine go_br okX8_lastWorth rfl (fun hp => ?_) (fun hp => ?_)
  · have h := gq_pos hp h
    refine go_rn 1 (pc' := 36) (L' := [some (.ref 0), some (.int x1), some (.int ((M.1 (M.2.2 0) 1) - (1 : Int32)))]) (S' := [.int (0 : Int32)]) (M' := M) okX8_lastWorth rfl ?_
    exact go_iret (reX8_lastWorth _ (by decide)) rfl (k0 (0 : Int32) h)
  · have h := gq_neg hp h
    refine go_rn 1 (pc' := 22) (L' := [some (.ref 0), some (.int x1), some (.int ((M.1 (M.2.2 0) 1) - (1 : Int32)))]) (S' := [.ref 0]) (M' := M) okX8_lastWorth rfl ?_
    refine go_ck okX8_lastWorth rfl (gOb_c rfl) ?_
    refine go_ck okX8_lastWorth rfl (gOb_c rfl) ?_
    refine go_rn 1 (pc' := 29) (L' := [some (.ref 0), some (.int x1), some (.int ((M.1 (M.2.2 0) 1) - (1 : Int32)))]) (S' := [.int ((M.1 (M.2.2 0) 1) - (1 : Int32)), .ref 22]) (M' := M) okX8_lastWorth rfl ?_
    obtain ⟨c5, h⟩ := gq_if h
    refine go_ck okX8_lastWorth rfl c5 ?_
    refine go_rn 1 (pc' := 31) (L' := [some (.ref 0), some (.int x1), some (.int ((M.1 (M.2.2 0) 1) - (1 : Int32)))]) (S' := [.int x1, .ref (gRa 22 (Int32.toNatClampNeg ((M.1 (M.2.2 0) 1) - (1 : Int32))))]) (M' := M) okX8_lastWorth rfl ?_
    obtain ⟨c6, h⟩ := gq_if h
    refine go_ck okX8_lastWorth rfl c6 ?_
    refine go_rn 1 (pc' := 36) (L' := [some (.ref 0), some (.int x1), some (.int ((M.1 (M.2.2 0) 1) - (1 : Int32)))]) (S' := [.int (M.1 (gRa 22 (Int32.toNatClampNeg ((M.1 (M.2.2 0) 1) - (1 : Int32)))) (Int32.toNatClampNeg x1))]) (M' := M) okX8_lastWorth rfl ?_
    exact go_iret (reX8_lastWorth _ (by decide)) rfl (k0 (M.1 (gRa 22 (Int32.toNatClampNeg ((M.1 (M.2.2 0) 1) - (1 : Int32)))) (Int32.toNatClampNeg x1)) h)
def fX8_lastWorth (a1 : Int32) (M : gMem) : Option (Int32) := fX8_lastWorth_0 a1 M
theorem SX8_lastWorth {G : gG} (a1 : Int32) (M : gMem) {r : Int32} (h : fX8_lastWorth a1 M = some r) : gRun G YX8_lastWorth 1 [.ref 0, .int a1] M (fun r' N' => r' = some (.int r) ∧ N' = M) := gRun_in (by decide +kernel) rfl (fun d hd => go_wk (CX8_lastWorth_0 hd a1 M (fun p => p = r) (fun r hh => ⟨congrArg (fun z => some (Value.int z)) hh, rfl⟩) (gq_of h)) ⟨rfl, rfl, True.intro⟩)
def fX8_payOf_27 (x1 : Int32) (x3 : Int32) (M : gMem) : Option (Int32 × gMem) :=
  if gOb 7 (M.2.2 0) = true then if gOb 7 (M.2.2 0) = true then gB0 (fX2_live (M.2.2 0) (M.1 (M.2.2 0) 1) M) (fun M3 => gB0 (fX8_lastWorth x1 M3) (fun r5 => some ((r5 - ((3 : Int32) * x3)), M3))) else none else none
set_option maxRecDepth 100000 in
theorem CX8_payOf_27 {G : gG} {d : Nat} {Z : Option Value → gMem → Prop} (hd : 5 ≤ d) (x1 : Int32) (x3 : Int32) (M : gMem) (P : Int32 × gMem → Prop) (k0 : ∀ (r : Int32) (N : gMem), P (r, N) → Z (some (.int r)) N) (h : gOKq (fX8_payOf_27 x1 x3 M) P) : gGo G YX8_payOf d Z 27 [some (.ref 0), some (.int x1), none, some (.int x3), none] [.ref 0, .ref 14] M := by
  unfold fX8_payOf_27 at h
  refine go_ck okX8_payOf rfl (gOb_c rfl) ?_
  obtain ⟨c1, h⟩ := gq_if h
  refine go_rn 1 (pc' := 31) (L' := [some (.ref 0), some (.int x1), none, some (.int x3), none]) (S' := [.ref 0, .ref (M.2.2 0), .ref 14]) (M' := M) okX8_payOf rfl ?_
  refine go_ck okX8_payOf rfl (gOb_c rfl) ?_
  obtain ⟨c2, h⟩ := gq_if h
  refine go_ck okX8_payOf rfl c2 ?_
  obtain ⟨M3, e4, h⟩ := gB0_ok h
  refine go_call1 ocX8_payOf rfl rfl (gOb_c rfl) rfl (SX2_live (M.2.2 0) (M.1 (M.2.2 0) 1) M c1 e4) (Nat.lt_of_lt_of_le (by decide) hd) ?_
  refine go_rn 2 (pc' := 42) (L' := [some (.ref 0), some (.int x1), none, some (.int x3), none]) (S' := [.int x1, .ref 0]) (M' := M3) okX8_payOf rfl ?_
  obtain ⟨r5, e6, h⟩ := gB0_ok h
  refine go_call1 ocX8_payOf rfl rfl (gOb_c rfl) rfl (SX8_lastWorth x1 M3 e6) (Nat.lt_of_lt_of_le (by decide) hd) ?_
  refine go_rn 4 (pc' := 49) (L' := [some (.ref 0), some (.int x1), none, some (.int x3), none]) (S' := [.int (r5 - ((3 : Int32) * x3))]) (M' := M3) okX8_payOf rfl ?_
  exact go_iret (reX8_payOf _ (by decide)) rfl (k0 (r5 - ((3 : Int32) * x3)) M3 h)
def fX8_payOf_0 (x1 : Int32) (x2 : Int32) (x3 : Int32) (x4 : Int32) (M : gMem) : Option (Int32 × gMem) :=
  gB0 (fX2_supposeNothing M) (fun M1 => fX8_payOf_27 x1 x3 (gSI M1 14 4 ((x3 <<< (x1 &&& 31)) ||| (x4 <<< (x2 &&& 31)))))
set_option maxRecDepth 100000 in
theorem CX8_payOf_0 {G : gG} {d : Nat} {Z : Option Value → gMem → Prop} (hd : 5 ≤ d) (x1 : Int32) (x2 : Int32) (x3 : Int32) (x4 : Int32) (M : gMem) (P : Int32 × gMem → Prop) (k0 : ∀ (r : Int32) (N : gMem), P (r, N) → Z (some (.int r)) N) (h : gOKq (fX8_payOf_0 x1 x2 x3 x4 M) P) : gGo G YX8_payOf d Z 0 [some (.ref 0), some (.int x1), some (.int x2), some (.int x3), some (.int x4)] [] M := by
  unfold fX8_payOf_0 at h
  refine go_rn 1 (pc' := 1) (L' := [some (.ref 0), some (.int x1), some (.int x2), some (.int x3), some (.int x4)]) (S' := [.ref 0]) (M' := M) okX8_payOf rfl ?_
  refine go_ck okX8_payOf rfl (gOb_c rfl) ?_
  obtain ⟨M1, e2, h⟩ := gB0_ok h
  refine go_call1 ocX8_payOf rfl rfl (gOb_c rfl) rfl (SX2_supposeNothing M e2) (Nat.lt_of_lt_of_le (by decide) hd) ?_
  refine go_rn 1 (pc' := 8) (L' := [some (.ref 0), some (.int x1), some (.int x2), some (.int x3), some (.int x4)]) (S' := [.ref 0]) (M' := M1) okX8_payOf rfl ?_
  refine go_ck okX8_payOf rfl (gOb_c rfl) ?_
  refine go_rn 7 (pc' := 19) (L' := [some (.ref 0), some (.int x1), some (.int x2), some (.int x3), some (.int x4)]) (S' := [.int ((x3 <<< (x1 &&& 31)) ||| (x4 <<< (x2 &&& 31))), .ref 14]) (M' := M1) okX8_payOf rfl ?_
  refine go_ck okX8_payOf rfl (gOb_c rfl) ?_
  refine go_rn 1 (pc' := 23) (L' := [some (.ref 0), some (.int x1), some (.int x2), some (.int x3), some (.int x4)]) (S' := [.ref 0]) (M' := (gSI M1 14 4 ((x3 <<< (x1 &&& 31)) ||| (x4 <<< (x2 &&& 31))))) okX8_payOf rfl ?_
  refine go_ck okX8_payOf rfl (gOb_c rfl) ?_
  refine go_rn 1 (pc' := 27) (L' := [some (.ref 0), some (.int x1), some (.int x2), some (.int x3), some (.int x4)]) (S' := [.ref 0, .ref 14]) (M' := (gSI M1 14 4 ((x3 <<< (x1 &&& 31)) ||| (x4 <<< (x2 &&& 31))))) okX8_payOf rfl ?_
  exact go_wk (CX8_payOf_27 hd x1 x3 (gSI M1 14 4 ((x3 <<< (x1 &&& 31)) ||| (x4 <<< (x2 &&& 31)))) P k0 h) ⟨rfl, rfl, rfl, True.intro⟩
def fX8_payOf (a1 : Int32) (a2 : Int32) (a3 : Int32) (a4 : Int32) (M : gMem) : Option (Int32 × gMem) := fX8_payOf_0 a1 a2 a3 a4 M
theorem SX8_payOf {G : gG} (a1 : Int32) (a2 : Int32) (a3 : Int32) (a4 : Int32) (M : gMem) {r : Int32} {N : gMem} (h : fX8_payOf a1 a2 a3 a4 M = some (r, N)) : gRun G YX8_payOf 5 [.ref 0, .int a1, .int a2, .int a3, .int a4] M (fun r' N' => r' = some (.int r) ∧ N' = N) := gRun_in (by decide +kernel) rfl (fun d hd => go_wk (CX8_payOf_0 hd a1 a2 a3 a4 M (fun p => p = (r, N)) (fun r N hh => by cases hh; exact ⟨rfl, rfl⟩) (gq_of h)) ⟨rfl, rfl, rfl, rfl, rfl, True.intro⟩)
def fX8_rests_100 (x1 : Int32) (x2 : Int32) (x3 : Int32) (x4 : Int32) (x7 : Int32) (s0 : Int32) (M : gMem) : Option (Sum (Int32 × Int32 × gMem) (Int32 × gMem)) :=
  if x7 = 0 then some (.inl (x3, (x4 + 1), M)) else if s0 = 0 then some (.inl (x3, (x4 + 1), M)) else some (.inl ((x3 ||| ((1 : Int32) <<< (x4 &&& 31))), (x4 + 1), M))
set_option maxRecDepth 100000 in
theorem CX8_rests_100 {G : gG} {d : Nat} {Z : Option Value → gMem → Prop} (hd : 6 ≤ d) (x1 : Int32) (x2 : Int32) (x3 : Int32) (x4 : Int32) (x7 : Int32) (s0 : Int32) (M : gMem) (P : Sum (Int32 × Int32 × gMem) (Int32 × gMem) → Prop) (k0 : ∀ (r : Int32) (N : gMem), P (.inr (r, N)) → Z (some (.int r)) N) (k1 : ∀ (x3 : Int32) (x4 : Int32) (M : gMem), P (.inl (x3, x4, M)) → gGo G YX8_rests d Z 20 [some (.ref 0), some (.int x1), some (.int x2), some (.int x3), some (.int x4), none, none, none, none] [] M) (h : gOKq (fX8_rests_100 x1 x2 x3 x4 x7 s0 M) P) : gGo G YX8_rests d Z 100 [some (.ref 0), some (.int x1), some (.int x2), some (.int x3), some (.int x4), none, none, some (.int x7), none] [.int s0] M := by
  unfold fX8_rests_100 at h
  refine go_rn 2 (pc' := 104) (L' := [some (.ref 0), some (.int x1), some (.int x2), some (.int x3), some (.int x4), none, none, some (.int x7), some (.int s0)]) (S' := [.int x7]) (M' := M) okX8_rests rfl ?_
  refine go_br okX8_rests rfl (fun hp => ?_) (fun hp => ?_)
  · have h := gq_pos hp h
    refine go_rn 2 (pc' := 20) (L' := [some (.ref 0), some (.int x1), some (.int x2), some (.int x3), some (.int (x4 + 1)), none, none, some (.int x7), some (.int s0)]) (S' := []) (M' := M) okX8_rests rfl ?_
    exact go_wk (k1 (x3) ((x4 + 1)) M h) ⟨rfl, rfl, rfl, rfl, rfl, True.intro⟩
  · have h := gq_neg hp h
    refine go_rn 1 (pc' := 109) (L' := [some (.ref 0), some (.int x1), some (.int x2), some (.int x3), some (.int x4), none, none, some (.int x7), some (.int s0)]) (S' := [.int s0]) (M' := M) okX8_rests rfl ?_
    refine go_br okX8_rests rfl (fun hp => ?_) (fun hp => ?_)
    · have h := gq_pos hp h
      refine go_rn 2 (pc' := 20) (L' := [some (.ref 0), some (.int x1), some (.int x2), some (.int x3), some (.int (x4 + 1)), none, none, some (.int x7), some (.int s0)]) (S' := []) (M' := M) okX8_rests rfl ?_
      exact go_wk (k1 (x3) ((x4 + 1)) M h) ⟨rfl, rfl, rfl, rfl, rfl, True.intro⟩
    · have h := gq_neg hp h
      refine go_rn 8 (pc' := 20) (L' := [some (.ref 0), some (.int x1), some (.int x2), some (.int (x3 ||| ((1 : Int32) <<< (x4 &&& 31)))), some (.int (x4 + 1)), none, none, some (.int x7), some (.int s0)]) (S' := []) (M' := M) okX8_rests rfl ?_
      exact go_wk (k1 ((x3 ||| ((1 : Int32) <<< (x4 &&& 31)))) ((x4 + 1)) M h) ⟨rfl, rfl, rfl, rfl, rfl, True.intro⟩
def fX8_rests_68 (x1 : Int32) (x2 : Int32) (x3 : Int32) (x4 : Int32) (x5 : Int32) (x6 : Int32) (s0 : Int32) (M : gMem) : Option (Sum (Int32 × Int32 × gMem) (Int32 × gMem)) :=
  gBp (fX8_payOf x2 x1 x6 x5 M) (fun r1 M2 => gBp (fX8_payOf x2 x1 ((1 : Int32) - x6) x5 M2) (fun r4 M5 => if r1 < r4 then fX8_rests_100 x1 x2 x3 x4 s0 (0 : Int32) M5 else fX8_rests_100 x1 x2 x3 x4 s0 (1 : Int32) M5))
set_option maxRecDepth 100000 in
theorem CX8_rests_68 {G : gG} {d : Nat} {Z : Option Value → gMem → Prop} (hd : 6 ≤ d) (x1 : Int32) (x2 : Int32) (x3 : Int32) (x4 : Int32) (x5 : Int32) (x6 : Int32) (s0 : Int32) (M : gMem) (P : Sum (Int32 × Int32 × gMem) (Int32 × gMem) → Prop) (k0 : ∀ (r : Int32) (N : gMem), P (.inr (r, N)) → Z (some (.int r)) N) (k1 : ∀ (x3 : Int32) (x4 : Int32) (M : gMem), P (.inl (x3, x4, M)) → gGo G YX8_rests d Z 20 [some (.ref 0), some (.int x1), some (.int x2), some (.int x3), some (.int x4), none, none, none, none] [] M) (h : gOKq (fX8_rests_68 x1 x2 x3 x4 x5 x6 s0 M) P) : gGo G YX8_rests d Z 68 [some (.ref 0), some (.int x1), some (.int x2), some (.int x3), some (.int x4), some (.int x5), some (.int x6), none, none] [.int s0] M := by
  unfold fX8_rests_68 at h
  refine go_rn 6 (pc' := 77) (L' := [some (.ref 0), some (.int x1), some (.int x2), some (.int x3), some (.int x4), some (.int x5), some (.int x6), some (.int s0), none]) (S' := [.int x5, .int x6, .int x1, .int x2, .ref 0]) (M' := M) okX8_rests rfl ?_
  obtain ⟨r1, M2, e3, h⟩ := gBp_ok h
  refine go_call1 ocX8_rests rfl rfl (gOb_c rfl) rfl (SX8_payOf x2 x1 x6 x5 M e3) (Nat.lt_of_lt_of_le (by decide) hd) ?_
  refine go_rn 7 (pc' := 89) (L' := [some (.ref 0), some (.int x1), some (.int x2), some (.int x3), some (.int x4), some (.int x5), some (.int x6), some (.int s0), none]) (S' := [.int x5, .int ((1 : Int32) - x6), .int x1, .int x2, .ref 0, .int r1]) (M' := M2) okX8_rests rfl ?_
  obtain ⟨r4, M5, e6, h⟩ := gBp_ok h
  refine go_call1 ocX8_rests rfl rfl (gOb_c rfl) rfl (SX8_payOf x2 x1 ((1 : Int32) - x6) x5 M2 e6) (Nat.lt_of_lt_of_le (by decide) hd) ?_
  refine go_br okX8_rests rfl (fun hp => ?_) (fun hp => ?_)
  · have h := gq_pos hp h
    refine go_rn 1 (pc' := 100) (L' := [some (.ref 0), some (.int x1), some (.int x2), some (.int x3), some (.int x4), some (.int x5), some (.int x6), some (.int s0), none]) (S' := [.int (0 : Int32)]) (M' := M5) okX8_rests rfl ?_
    exact go_wk (CX8_rests_100 hd x1 x2 x3 x4 s0 (0 : Int32) M5 P k0 k1 h) ⟨rfl, rfl, rfl, rfl, rfl, rfl, True.intro⟩
  · have h := gq_neg hp h
    refine go_rn 2 (pc' := 100) (L' := [some (.ref 0), some (.int x1), some (.int x2), some (.int x3), some (.int x4), some (.int x5), some (.int x6), some (.int s0), none]) (S' := [.int (1 : Int32)]) (M' := M5) okX8_rests rfl ?_
    exact go_wk (CX8_rests_100 hd x1 x2 x3 x4 s0 (1 : Int32) M5 P k0 k1 h) ⟨rfl, rfl, rfl, rfl, rfl, rfl, True.intro⟩
def fX8_rests_20 (x1 : Int32) (x2 : Int32) (x3 : Int32) (x4 : Int32) (M : gMem) : Option (Sum (Int32 × Int32 × gMem) (Int32 × gMem)) :=
  if (4 : Int32) ≤ x4 then some (.inr (x3, M)) else gBp (fX8_payOf x1 x2 (x4 &&& (1 : Int32)) (x4 >>> ((1 : Int32) &&& 31)) M) (fun r1 M2 => gBp (fX8_payOf x1 x2 ((1 : Int32) - (x4 &&& (1 : Int32))) (x4 >>> ((1 : Int32) &&& 31)) M2) (fun r4 M5 => if r1 < r4 then fX8_rests_68 x1 x2 x3 x4 (x4 &&& (1 : Int32)) (x4 >>> ((1 : Int32) &&& 31)) (0 : Int32) M5 else fX8_rests_68 x1 x2 x3 x4 (x4 &&& (1 : Int32)) (x4 >>> ((1 : Int32) &&& 31)) (1 : Int32) M5))
set_option maxRecDepth 100000 in
theorem CX8_rests_20 {G : gG} {d : Nat} {Z : Option Value → gMem → Prop} (hd : 6 ≤ d) (x1 : Int32) (x2 : Int32) (x3 : Int32) (x4 : Int32) (M : gMem) (P : Sum (Int32 × Int32 × gMem) (Int32 × gMem) → Prop) (k0 : ∀ (r : Int32) (N : gMem), P (.inr (r, N)) → Z (some (.int r)) N) (k1 : ∀ (x3 : Int32) (x4 : Int32) (M : gMem), P (.inl (x3, x4, M)) → gGo G YX8_rests d Z 20 [some (.ref 0), some (.int x1), some (.int x2), some (.int x3), some (.int x4), none, none, none, none] [] M) (h : gOKq (fX8_rests_20 x1 x2 x3 x4 M) P) : gGo G YX8_rests d Z 20 [some (.ref 0), some (.int x1), some (.int x2), some (.int x3), some (.int x4), none, none, none, none] [] M := by
  unfold fX8_rests_20 at h
  refine go_rn 2 (pc' := 23) (L' := [some (.ref 0), some (.int x1), some (.int x2), some (.int x3), some (.int x4), none, none, none, none]) (S' := [.int (4 : Int32), .int x4]) (M' := M) okX8_rests rfl ?_
  refine go_br okX8_rests rfl (fun hp => ?_) (fun hp => ?_)
  · have h := gq_pos hp h
    refine go_rn 1 (pc' := 126) (L' := [some (.ref 0), some (.int x1), some (.int x2), some (.int x3), some (.int x4), none, none, none, none]) (S' := [.int x3]) (M' := M) okX8_rests rfl ?_
    exact go_iret (reX8_rests _ (by decide)) rfl (k0 x3 M h)
  · have h := gq_neg hp h
    refine go_rn 13 (pc' := 45) (L' := [some (.ref 0), some (.int x1), some (.int x2), some (.int x3), some (.int x4), some (.int (x4 &&& (1 : Int32))), some (.int (x4 >>> ((1 : Int32) &&& 31))), none, none]) (S' := [.int (x4 >>> ((1 : Int32) &&& 31)), .int (x4 &&& (1 : Int32)), .int x2, .int x1, .ref 0]) (M' := M) okX8_rests rfl ?_
    obtain ⟨r1, M2, e3, h⟩ := gBp_ok h
    refine go_call1 ocX8_rests rfl rfl (gOb_c rfl) rfl (SX8_payOf x1 x2 (x4 &&& (1 : Int32)) (x4 >>> ((1 : Int32) &&& 31)) M e3) (Nat.lt_of_lt_of_le (by decide) hd) ?_
    refine go_rn 7 (pc' := 57) (L' := [some (.ref 0), some (.int x1), some (.int x2), some (.int x3), some (.int x4), some (.int (x4 &&& (1 : Int32))), some (.int (x4 >>> ((1 : Int32) &&& 31))), none, none]) (S' := [.int (x4 >>> ((1 : Int32) &&& 31)), .int ((1 : Int32) - (x4 &&& (1 : Int32))), .int x2, .int x1, .ref 0, .int r1]) (M' := M2) okX8_rests rfl ?_
    obtain ⟨r4, M5, e6, h⟩ := gBp_ok h
    refine go_call1 ocX8_rests rfl rfl (gOb_c rfl) rfl (SX8_payOf x1 x2 ((1 : Int32) - (x4 &&& (1 : Int32))) (x4 >>> ((1 : Int32) &&& 31)) M2 e6) (Nat.lt_of_lt_of_le (by decide) hd) ?_
    refine go_br okX8_rests rfl (fun hp => ?_) (fun hp => ?_)
    · have h := gq_pos hp h
      refine go_rn 1 (pc' := 68) (L' := [some (.ref 0), some (.int x1), some (.int x2), some (.int x3), some (.int x4), some (.int (x4 &&& (1 : Int32))), some (.int (x4 >>> ((1 : Int32) &&& 31))), none, none]) (S' := [.int (0 : Int32)]) (M' := M5) okX8_rests rfl ?_
      exact go_wk (CX8_rests_68 hd x1 x2 x3 x4 (x4 &&& (1 : Int32)) (x4 >>> ((1 : Int32) &&& 31)) (0 : Int32) M5 P k0 k1 h) ⟨rfl, rfl, rfl, rfl, rfl, rfl, rfl, True.intro⟩
    · have h := gq_neg hp h
      refine go_rn 2 (pc' := 68) (L' := [some (.ref 0), some (.int x1), some (.int x2), some (.int x3), some (.int x4), some (.int (x4 &&& (1 : Int32))), some (.int (x4 >>> ((1 : Int32) &&& 31))), none, none]) (S' := [.int (1 : Int32)]) (M' := M5) okX8_rests rfl ?_
      exact go_wk (CX8_rests_68 hd x1 x2 x3 x4 (x4 &&& (1 : Int32)) (x4 >>> ((1 : Int32) &&& 31)) (1 : Int32) M5 P k0 k1 h) ⟨rfl, rfl, rfl, rfl, rfl, rfl, rfl, True.intro⟩
def fX8_rests_20h (x1 : Int32) (x2 : Int32) (x3 : Int32) (x4 : Int32) (M : gMem) : Option (Int32 × gMem) :=
  gLp (fun s : Int32 × Int32 × gMem => fX8_rests_20 x1 x2 (s.1) (s.2.1) s.2.2) gFu (x3, x4, M)
set_option maxRecDepth 100000 in
theorem CX8_rests_20h {G : gG} {d : Nat} {Z : Option Value → gMem → Prop} (hd : 6 ≤ d) (x1 : Int32) (x2 : Int32) (x3 : Int32) (x4 : Int32) (M : gMem) (P : Int32 × gMem → Prop) (k0 : ∀ (r : Int32) (N : gMem), P (r, N) → Z (some (.int r)) N) (h : gOKq (fX8_rests_20h x1 x2 x3 x4 M) P) : gGo G YX8_rests d Z 20 [some (.ref 0), some (.int x1), some (.int x2), some (.int x3), some (.int x4), none, none, none, none] [] M :=
  gLp_go (K := fun s : Int32 × Int32 × gMem => gGo G YX8_rests d Z 20 [some (.ref 0), some (.int x1), some (.int x2), some (.int s.1), some (.int s.2.1), none, none, none, none] [] s.2.2) (P := P) (fun s hs => CX8_rests_20 hd (x1) (x2) (s.1) (s.2.1) (s.2.2) (Sum.elim (fun s : Int32 × Int32 × gMem => gGo G YX8_rests d Z 20 [some (.ref 0), some (.int x1), some (.int x2), some (.int s.1), some (.int s.2.1), none, none, none, none] [] s.2.2) P) k0 (fun x3 x4 M hh => hh) hs) gFu (x3, x4, M) h
def fX8_rests_0 (x1 : Int32) (x2 : Int32) (M : gMem) : Option (Int32 × gMem) :=
  if gOb 7 (M.2.2 0) = true then gB0 (fX7_hasPair (M.2.2 0) x1 x2 M) (fun r2 => if r2 = 0 then some ((-2 : Int32), M) else fX8_rests_20h x1 x2 (0 : Int32) (0 : Int32) M) else none
set_option maxRecDepth 100000 in
theorem CX8_rests_0 {G : gG} {d : Nat} {Z : Option Value → gMem → Prop} (hd : 6 ≤ d) (x1 : Int32) (x2 : Int32) (M : gMem) (P : Int32 × gMem → Prop) (k0 : ∀ (r : Int32) (N : gMem), P (r, N) → Z (some (.int r)) N) (h : gOKq (fX8_rests_0 x1 x2 M) P) : gGo G YX8_rests d Z 0 [some (.ref 0), some (.int x1), some (.int x2), none, none, none, none, none, none] [] M := by
  unfold fX8_rests_0 at h
  refine go_rn 1 (pc' := 1) (L' := [some (.ref 0), some (.int x1), some (.int x2), none, none, none, none, none, none]) (S' := [.ref 0]) (M' := M) okX8_rests rfl ?_
  refine go_ck okX8_rests rfl (gOb_c rfl) ?_
  obtain ⟨c1, h⟩ := gq_if h
  refine go_rn 2 (pc' := 6) (L' := [some (.ref 0), some (.int x1), some (.int x2), none, none, none, none, none, none]) (S' := [.int x2, .int x1, .ref (M.2.2 0)]) (M' := M) okX8_rests rfl ?_
  obtain ⟨r2, e3, h⟩ := gB0_ok h
  refine go_call1 ocX8_rests rfl rfl c1 rfl (SX7_hasPair (M.2.2 0) x1 x2 M c1 e3) (Nat.lt_of_lt_of_le (by decide) hd) ?_
  refine go_br okX8_rests rfl (fun hp => ?_) (fun hp => ?_)
  · have h := gq_pos hp h
    refine go_rn 1 (pc' := 14) (L' := [some (.ref 0), some (.int x1), some (.int x2), none, none, none, none, none, none]) (S' := [.int (-2 : Int32)]) (M' := M) okX8_rests rfl ?_
    exact go_iret (reX8_rests _ (by decide)) rfl (k0 (-2 : Int32) M h)
  · have h := gq_neg hp h
    refine go_rn 4 (pc' := 20) (L' := [some (.ref 0), some (.int x1), some (.int x2), some (.int (0 : Int32)), some (.int (0 : Int32)), none, none, none, none]) (S' := []) (M' := M) okX8_rests rfl ?_
    exact go_wk (CX8_rests_20h hd x1 x2 (0 : Int32) (0 : Int32) M P k0 h) ⟨rfl, rfl, rfl, rfl, rfl, True.intro⟩
def fX8_rests (a1 : Int32) (a2 : Int32) (M : gMem) : Option (Int32 × gMem) := fX8_rests_0 a1 a2 M
theorem SX8_rests {G : gG} (a1 : Int32) (a2 : Int32) (M : gMem) {r : Int32} {N : gMem} (h : fX8_rests a1 a2 M = some (r, N)) : gRun G YX8_rests 6 [.ref 0, .int a1, .int a2] M (fun r' N' => r' = some (.int r) ∧ N' = N) := gRun_in (by decide +kernel) rfl (fun d hd => go_wk (CX8_rests_0 hd a1 a2 M (fun p => p = (r, N)) (fun r N hh => by cases hh; exact ⟨rfl, rfl⟩) (gq_of h)) ⟨rfl, rfl, rfl, True.intro⟩)
def fX8_gets_0 (x1 : Int32) (x2 : Int32) (x3 : Int32) (x4 : Int32) (M : gMem) : Option (Int32 × gMem) :=
  if gOb 7 (M.2.2 0) = true then gB0 (fX7_hasPair (M.2.2 0) x1 x2 M) (fun r2 => if r2 = 0 then some ((-10000 : Int32), M) else gB0 (fX8_isEither x3 M) (fun r4 => if r4 = 0 then some ((-10000 : Int32), M) else gB0 (fX8_isEither x4 M) (fun r6 => if r6 = 0 then some ((-10000 : Int32), M) else gBp (fX8_payOf x1 x2 x3 x4 M) (fun r8 M9 => some (r8, M9))))) else none
set_option maxRecDepth 100000 in
theorem CX8_gets_0 {G : gG} {d : Nat} {Z : Option Value → gMem → Prop} (hd : 6 ≤ d) (x1 : Int32) (x2 : Int32) (x3 : Int32) (x4 : Int32) (M : gMem) (P : Int32 × gMem → Prop) (k0 : ∀ (r : Int32) (N : gMem), P (r, N) → Z (some (.int r)) N) (h : gOKq (fX8_gets_0 x1 x2 x3 x4 M) P) : gGo G YX8_gets d Z 0 [some (.ref 0), some (.int x1), some (.int x2), some (.int x3), some (.int x4)] [] M := by
  unfold fX8_gets_0 at h
  refine go_rn 1 (pc' := 1) (L' := [some (.ref 0), some (.int x1), some (.int x2), some (.int x3), some (.int x4)]) (S' := [.ref 0]) (M' := M) okX8_gets rfl ?_
  refine go_ck okX8_gets rfl (gOb_c rfl) ?_
  obtain ⟨c1, h⟩ := gq_if h
  refine go_rn 2 (pc' := 6) (L' := [some (.ref 0), some (.int x1), some (.int x2), some (.int x3), some (.int x4)]) (S' := [.int x2, .int x1, .ref (M.2.2 0)]) (M' := M) okX8_gets rfl ?_
  obtain ⟨r2, e3, h⟩ := gB0_ok h
  refine go_call1 ocX8_gets rfl rfl c1 rfl (SX7_hasPair (M.2.2 0) x1 x2 M c1 e3) (Nat.lt_of_lt_of_le (by decide) hd) ?_
  refine go_br okX8_gets rfl (fun hp => ?_) (fun hp => ?_)
  · have h := gq_pos hp h
    refine go_rn 1 (pc' := 30) (L' := [some (.ref 0), some (.int x1), some (.int x2), some (.int x3), some (.int x4)]) (S' := [.int (-10000 : Int32)]) (M' := M) okX8_gets rfl ?_
    exact go_iret (reX8_gets _ (by decide)) rfl (k0 (-10000 : Int32) M h)
  · have h := gq_neg hp h
    refine go_rn 1 (pc' := 13) (L' := [some (.ref 0), some (.int x1), some (.int x2), some (.int x3), some (.int x4)]) (S' := [.int x3]) (M' := M) okX8_gets rfl ?_
    obtain ⟨r4, e5, h⟩ := gB0_ok h
    refine go_call1 ocX8_gets rfl rfl rfl rfl (SX8_isEither x3 M e5) (Nat.lt_of_lt_of_le (by decide) hd) ?_
    refine go_br okX8_gets rfl (fun hp => ?_) (fun hp => ?_)
    · have h := gq_pos hp h
      refine go_rn 1 (pc' := 30) (L' := [some (.ref 0), some (.int x1), some (.int x2), some (.int x3), some (.int x4)]) (S' := [.int (-10000 : Int32)]) (M' := M) okX8_gets rfl ?_
      exact go_iret (reX8_gets _ (by decide)) rfl (k0 (-10000 : Int32) M h)
    · have h := gq_neg hp h
      refine go_rn 1 (pc' := 21) (L' := [some (.ref 0), some (.int x1), some (.int x2), some (.int x3), some (.int x4)]) (S' := [.int x4]) (M' := M) okX8_gets rfl ?_
      obtain ⟨r6, e7, h⟩ := gB0_ok h
      refine go_call1 ocX8_gets rfl rfl rfl rfl (SX8_isEither x4 M e7) (Nat.lt_of_lt_of_le (by decide) hd) ?_
      refine go_br okX8_gets rfl (fun hp => ?_) (fun hp => ?_)
      · have h := gq_pos hp h
        refine go_rn 1 (pc' := 30) (L' := [some (.ref 0), some (.int x1), some (.int x2), some (.int x3), some (.int x4)]) (S' := [.int (-10000 : Int32)]) (M' := M) okX8_gets rfl ?_
        exact go_iret (reX8_gets _ (by decide)) rfl (k0 (-10000 : Int32) M h)
      · have h := gq_neg hp h
        refine go_rn 5 (pc' := 37) (L' := [some (.ref 0), some (.int x1), some (.int x2), some (.int x3), some (.int x4)]) (S' := [.int x4, .int x3, .int x2, .int x1, .ref 0]) (M' := M) okX8_gets rfl ?_
        obtain ⟨r8, M9, e10, h⟩ := gBp_ok h
        refine go_call1 ocX8_gets rfl rfl (gOb_c rfl) rfl (SX8_payOf x1 x2 x3 x4 M e10) (Nat.lt_of_lt_of_le (by decide) hd) ?_
        exact go_iret (reX8_gets _ (by decide)) rfl (k0 r8 M9 h)
def fX8_gets (a1 : Int32) (a2 : Int32) (a3 : Int32) (a4 : Int32) (M : gMem) : Option (Int32 × gMem) := fX8_gets_0 a1 a2 a3 a4 M
theorem SX8_gets {G : gG} (a1 : Int32) (a2 : Int32) (a3 : Int32) (a4 : Int32) (M : gMem) {r : Int32} {N : gMem} (h : fX8_gets a1 a2 a3 a4 M = some (r, N)) : gRun G YX8_gets 6 [.ref 0, .int a1, .int a2, .int a3, .int a4] M (fun r' N' => r' = some (.int r) ∧ N' = N) := gRun_in (by decide +kernel) rfl (fun d hd => go_wk (CX8_gets_0 hd a1 a2 a3 a4 M (fun p => p = (r, N)) (fun r N hh => by cases hh; exact ⟨rfl, rfl⟩) (gq_of h)) ⟨rfl, rfl, rfl, rfl, rfl, True.intro⟩)
def fX8_lastWorthOfBoth_0 (x1 : Int32) (x2 : Int32) (M : gMem) : Option (Int32 × gMem) :=
  gB0 (fX8_liveAsNow M) (fun M1 => gB0 (fX8_lastWorth x1 M1) (fun r3 => gB0 (fX8_lastWorth x2 M1) (fun r5 => some ((r3 + r5), M1))))
set_option maxRecDepth 100000 in
theorem CX8_lastWorthOfBoth_0 {G : gG} {d : Nat} {Z : Option Value → gMem → Prop} (hd : 6 ≤ d) (x1 : Int32) (x2 : Int32) (M : gMem) (P : Int32 × gMem → Prop) (k0 : ∀ (r : Int32) (N : gMem), P (r, N) → Z (some (.int r)) N) (h : gOKq (fX8_lastWorthOfBoth_0 x1 x2 M) P) : gGo G YX8_lastWorthOfBoth d Z 0 [some (.ref 0), some (.int x1), some (.int x2)] [] M := by
  unfold fX8_lastWorthOfBoth_0 at h
  refine go_rn 1 (pc' := 1) (L' := [some (.ref 0), some (.int x1), some (.int x2)]) (S' := [.ref 0]) (M' := M) okX8_lastWorthOfBoth rfl ?_
  obtain ⟨M1, e2, h⟩ := gB0_ok h
  refine go_call1 ocX8_lastWorthOfBoth rfl rfl (gOb_c rfl) rfl (SX8_liveAsNow M e2) (Nat.lt_of_lt_of_le (by decide) hd) ?_
  refine go_rn 2 (pc' := 6) (L' := [some (.ref 0), some (.int x1), some (.int x2)]) (S' := [.int x1, .ref 0]) (M' := M1) okX8_lastWorthOfBoth rfl ?_
  obtain ⟨r3, e4, h⟩ := gB0_ok h
  refine go_call1 ocX8_lastWorthOfBoth rfl rfl (gOb_c rfl) rfl (SX8_lastWorth x1 M1 e4) (Nat.lt_of_lt_of_le (by decide) hd) ?_
  refine go_rn 2 (pc' := 11) (L' := [some (.ref 0), some (.int x1), some (.int x2)]) (S' := [.int x2, .ref 0, .int r3]) (M' := M1) okX8_lastWorthOfBoth rfl ?_
  obtain ⟨r5, e6, h⟩ := gB0_ok h
  refine go_call1 ocX8_lastWorthOfBoth rfl rfl (gOb_c rfl) rfl (SX8_lastWorth x2 M1 e6) (Nat.lt_of_lt_of_le (by decide) hd) ?_
  refine go_rn 1 (pc' := 15) (L' := [some (.ref 0), some (.int x1), some (.int x2)]) (S' := [.int (r3 + r5)]) (M' := M1) okX8_lastWorthOfBoth rfl ?_
  exact go_iret (reX8_lastWorthOfBoth _ (by decide)) rfl (k0 (r3 + r5) M1 h)
def fX8_lastWorthOfBoth (a1 : Int32) (a2 : Int32) (M : gMem) : Option (Int32 × gMem) := fX8_lastWorthOfBoth_0 a1 a2 M
theorem SX8_lastWorthOfBoth {G : gG} (a1 : Int32) (a2 : Int32) (M : gMem) {r : Int32} {N : gMem} (h : fX8_lastWorthOfBoth a1 a2 M = some (r, N)) : gRun G YX8_lastWorthOfBoth 6 [.ref 0, .int a1, .int a2] M (fun r' N' => r' = some (.int r) ∧ N' = N) := gRun_in (by decide +kernel) rfl (fun d hd => go_wk (CX8_lastWorthOfBoth_0 hd a1 a2 M (fun p => p = (r, N)) (fun r N hh => by cases hh; exact ⟨rfl, rfl⟩) (gq_of h)) ⟨rfl, rfl, rfl, True.intro⟩)
def fX8_when_28 (x1 : Int32) (x2 : Int32) (x3 : Int32) (x4 : Int32) (x5 : Int32) (M : gMem) : Option (Sum (Int32 × Int32 × Int32 × gMem) (Int32 × gMem)) :=
  if gOb 7 (M.2.2 0) = true then if (M.1 (M.2.2 0) 1) ≤ x5 then some (.inr (x3, M)) else if gOb 7 (M.2.2 0) = true then gB0 (fX0_add ((M.2.2 0) + 10) x1 x2 x5 (9 : Int32) M) (fun M3 => gBp (fX8_lastWorthOfBoth x1 x2 M3) (fun r5 M6 => if gOb 7 (M6.2.2 0) = true then gB0 (fX0_takeBack ((M6.2.2 0) + 10) M6) (fun M9 => if r5 ≤ x4 then some (.inl (x3, x4, (x5 + 1), M9)) else some (.inl (x5, r5, (x5 + 1), M9))) else none)) else none else none
set_option maxRecDepth 100000 in
theorem CX8_when_28 {G : gG} {d : Nat} {Z : Option Value → gMem → Prop} (hd : 7 ≤ d) (x1 : Int32) (x2 : Int32) (x3 : Int32) (x4 : Int32) (x5 : Int32) (M : gMem) (P : Sum (Int32 × Int32 × Int32 × gMem) (Int32 × gMem) → Prop) (k0 : ∀ (r : Int32) (N : gMem), P (.inr (r, N)) → Z (some (.int r)) N) (k1 : ∀ (x3 : Int32) (x4 : Int32) (x5 : Int32) (M : gMem), P (.inl (x3, x4, x5, M)) → gGo G YX8_when d Z 28 [some (.ref 0), some (.int x1), some (.int x2), some (.int x3), some (.int x4), some (.int x5), none] [] M) (h : gOKq (fX8_when_28 x1 x2 x3 x4 x5 M) P) : gGo G YX8_when d Z 28 [some (.ref 0), some (.int x1), some (.int x2), some (.int x3), some (.int x4), some (.int x5), none] [] M := by
  unfold fX8_when_28 at h
  refine go_rn 2 (pc' := 31) (L' := [some (.ref 0), some (.int x1), some (.int x2), some (.int x3), some (.int x4), some (.int x5), none]) (S' := [.ref 0, .int x5]) (M' := M) okX8_when rfl ?_
  refine go_ck okX8_when rfl (gOb_c rfl) ?_
  obtain ⟨c1, h⟩ := gq_if h
  refine go_ck okX8_when rfl c1 ?_
  refine go_br okX8_when rfl (fun hp => ?_) (fun hp => ?_)
  · have h := gq_pos hp h
    refine go_rn 1 (pc' := 95) (L' := [some (.ref 0), some (.int x1), some (.int x2), some (.int x3), some (.int x4), some (.int x5), none]) (S' := [.int x3]) (M' := M) okX8_when rfl ?_
    exact go_iret (reX8_when _ (by decide)) rfl (k0 x3 M h)
  · have h := gq_neg hp h
    refine go_rn 1 (pc' := 41) (L' := [some (.ref 0), some (.int x1), some (.int x2), some (.int x3), some (.int x4), some (.int x5), none]) (S' := [.ref 0]) (M' := M) okX8_when rfl ?_
    refine go_ck okX8_when rfl (gOb_c rfl) ?_
    obtain ⟨c2, h⟩ := gq_if h
    refine go_ck okX8_when rfl c2 ?_
    refine go_rn 4 (pc' := 53) (L' := [some (.ref 0), some (.int x1), some (.int x2), some (.int x3), some (.int x4), some (.int x5), none]) (S' := [.int (9 : Int32), .int x5, .int x2, .int x1, .ref ((M.2.2 0) + 10)]) (M' := M) okX8_when rfl ?_
    obtain ⟨M3, e4, h⟩ := gB0_ok h
    refine go_call1 ocX8_when rfl rfl (gTa c2) rfl (SX0_add ((M.2.2 0) + 10) x1 x2 x5 (9 : Int32) M (gTa c2) e4) (Nat.lt_of_lt_of_le (by decide) hd) ?_
    refine go_rn 3 (pc' := 59) (L' := [some (.ref 0), some (.int x1), some (.int x2), some (.int x3), some (.int x4), some (.int x5), none]) (S' := [.int x2, .int x1, .ref 0]) (M' := M3) okX8_when rfl ?_
    obtain ⟨r5, M6, e7, h⟩ := gBp_ok h
    refine go_call1 ocX8_when rfl rfl (gOb_c rfl) rfl (SX8_lastWorthOfBoth x1 x2 M3 e7) (Nat.lt_of_lt_of_le (by decide) hd) ?_
    refine go_rn 2 (pc' := 65) (L' := [some (.ref 0), some (.int x1), some (.int x2), some (.int x3), some (.int x4), some (.int x5), some (.int r5)]) (S' := [.ref 0]) (M' := M6) okX8_when rfl ?_
    refine go_ck okX8_when rfl (gOb_c rfl) ?_
    obtain ⟨c8, h⟩ := gq_if h
    refine go_ck okX8_when rfl c8 ?_
    obtain ⟨M9, e10, h⟩ := gB0_ok h
    refine go_call1 ocX8_when rfl rfl (gTa c8) rfl (SX0_takeBack ((M6.2.2 0) + 10) M6 (gTa c8) e10) (Nat.lt_of_lt_of_le (by decide) hd) ?_
    refine go_rn 2 (pc' := 78) (L' := [some (.ref 0), some (.int x1), some (.int x2), some (.int x3), some (.int x4), some (.int x5), some (.int r5)]) (S' := [.int x4, .int r5]) (M' := M9) okX8_when rfl ?_
    refine go_br okX8_when rfl (fun hp => ?_) (fun hp => ?_)
    · have h := gq_pos hp h
      refine go_rn 2 (pc' := 28) (L' := [some (.ref 0), some (.int x1), some (.int x2), some (.int x3), some (.int x4), some (.int (x5 + 1)), some (.int r5)]) (S' := []) (M' := M9) okX8_when rfl ?_
      exact go_wk (k1 (x3) (x4) ((x5 + 1)) M9 h) ⟨rfl, rfl, rfl, rfl, rfl, rfl, True.intro⟩
    · have h := gq_neg hp h
      refine go_rn 6 (pc' := 28) (L' := [some (.ref 0), some (.int x1), some (.int x2), some (.int x5), some (.int r5), some (.int (x5 + 1)), some (.int r5)]) (S' := []) (M' := M9) okX8_when rfl ?_
      exact go_wk (k1 (x5) (r5) ((x5 + 1)) M9 h) ⟨rfl, rfl, rfl, rfl, rfl, rfl, True.intro⟩
def fX8_when_28h (x1 : Int32) (x2 : Int32) (x3 : Int32) (x4 : Int32) (x5 : Int32) (M : gMem) : Option (Int32 × gMem) :=
  gLp (fun s : Int32 × Int32 × Int32 × gMem => fX8_when_28 x1 x2 (s.1) (s.2.1) (s.2.2.1) s.2.2.2) gFu (x3, x4, x5, M)
set_option maxRecDepth 100000 in
theorem CX8_when_28h {G : gG} {d : Nat} {Z : Option Value → gMem → Prop} (hd : 7 ≤ d) (x1 : Int32) (x2 : Int32) (x3 : Int32) (x4 : Int32) (x5 : Int32) (M : gMem) (P : Int32 × gMem → Prop) (k0 : ∀ (r : Int32) (N : gMem), P (r, N) → Z (some (.int r)) N) (h : gOKq (fX8_when_28h x1 x2 x3 x4 x5 M) P) : gGo G YX8_when d Z 28 [some (.ref 0), some (.int x1), some (.int x2), some (.int x3), some (.int x4), some (.int x5), none] [] M :=
  gLp_go (K := fun s : Int32 × Int32 × Int32 × gMem => gGo G YX8_when d Z 28 [some (.ref 0), some (.int x1), some (.int x2), some (.int s.1), some (.int s.2.1), some (.int s.2.2.1), none] [] s.2.2.2) (P := P) (fun s hs => CX8_when_28 hd (x1) (x2) (s.1) (s.2.1) (s.2.2.1) (s.2.2.2) (Sum.elim (fun s : Int32 × Int32 × Int32 × gMem => gGo G YX8_when d Z 28 [some (.ref 0), some (.int x1), some (.int x2), some (.int s.1), some (.int s.2.1), some (.int s.2.2.1), none] [] s.2.2.2) P) k0 (fun x3 x4 x5 M hh => hh) hs) gFu (x3, x4, x5, M) h
def fX8_when_0 (x1 : Int32) (x2 : Int32) (M : gMem) : Option (Int32 × gMem) :=
  if gOb 7 (M.2.2 0) = true then gB0 (fX7_hasPair (M.2.2 0) x1 x2 M) (fun r2 => if r2 = 0 then some ((-2 : Int32), M) else gBp (fX8_lastWorthOfBoth x1 x2 M) (fun r4 M5 => fX8_when_28h x1 x2 (-1 : Int32) r4 (0 : Int32) M5)) else none
set_option maxRecDepth 100000 in
theorem CX8_when_0 {G : gG} {d : Nat} {Z : Option Value → gMem → Prop} (hd : 7 ≤ d) (x1 : Int32) (x2 : Int32) (M : gMem) (P : Int32 × gMem → Prop) (k0 : ∀ (r : Int32) (N : gMem), P (r, N) → Z (some (.int r)) N) (h : gOKq (fX8_when_0 x1 x2 M) P) : gGo G YX8_when d Z 0 [some (.ref 0), some (.int x1), some (.int x2), none, none, none, none] [] M := by
  unfold fX8_when_0 at h
  refine go_rn 1 (pc' := 1) (L' := [some (.ref 0), some (.int x1), some (.int x2), none, none, none, none]) (S' := [.ref 0]) (M' := M) okX8_when rfl ?_
  refine go_ck okX8_when rfl (gOb_c rfl) ?_
  obtain ⟨c1, h⟩ := gq_if h
  refine go_rn 2 (pc' := 6) (L' := [some (.ref 0), some (.int x1), some (.int x2), none, none, none, none]) (S' := [.int x2, .int x1, .ref (M.2.2 0)]) (M' := M) okX8_when rfl ?_
  obtain ⟨r2, e3, h⟩ := gB0_ok h
  refine go_call1 ocX8_when rfl rfl c1 rfl (SX7_hasPair (M.2.2 0) x1 x2 M c1 e3) (Nat.lt_of_lt_of_le (by decide) hd) ?_
  refine go_br okX8_when rfl (fun hp => ?_) (fun hp => ?_)
  · have h := gq_pos hp h
    refine go_rn 1 (pc' := 14) (L' := [some (.ref 0), some (.int x1), some (.int x2), none, none, none, none]) (S' := [.int (-2 : Int32)]) (M' := M) okX8_when rfl ?_
    exact go_iret (reX8_when _ (by decide)) rfl (k0 (-2 : Int32) M h)
  · have h := gq_neg hp h
    refine go_rn 5 (pc' := 20) (L' := [some (.ref 0), some (.int x1), some (.int x2), some (.int (-1 : Int32)), none, none, none]) (S' := [.int x2, .int x1, .ref 0]) (M' := M) okX8_when rfl ?_
    obtain ⟨r4, M5, e6, h⟩ := gBp_ok h
    refine go_call1 ocX8_when rfl rfl (gOb_c rfl) rfl (SX8_lastWorthOfBoth x1 x2 M e6) (Nat.lt_of_lt_of_le (by decide) hd) ?_
    refine go_rn 3 (pc' := 28) (L' := [some (.ref 0), some (.int x1), some (.int x2), some (.int (-1 : Int32)), some (.int r4), some (.int (0 : Int32)), none]) (S' := []) (M' := M5) okX8_when rfl ?_
    exact go_wk (CX8_when_28h hd x1 x2 (-1 : Int32) r4 (0 : Int32) M5 P k0 h) ⟨rfl, rfl, rfl, rfl, rfl, rfl, True.intro⟩
def fX8_when (a1 : Int32) (a2 : Int32) (M : gMem) : Option (Int32 × gMem) := fX8_when_0 a1 a2 M
theorem SX8_when {G : gG} (a1 : Int32) (a2 : Int32) (M : gMem) {r : Int32} {N : gMem} (h : fX8_when a1 a2 M = some (r, N)) : gRun G YX8_when 7 [.ref 0, .int a1, .int a2] M (fun r' N' => r' = some (.int r) ∧ N' = N) := gRun_in (by decide +kernel) rfl (fun d hd => go_wk (CX8_when_0 hd a1 a2 M (fun p => p = (r, N)) (fun r N hh => by cases hh; exact ⟨rfl, rfl⟩) (gq_of h)) ⟨rfl, rfl, rfl, True.intro⟩)
def fX8_casesOf_5 (x1 : Int32) (x2 : Int64) (x4 : Int32) (M : gMem) : Option (Sum (Int64 × Int32) (Int64)) :=
  if gOb 7 (M.2.2 0) = true then if (M.1 (M.2.2 0) 6) ≤ x4 then some (.inr x2) else gB0 (fX8_has x1 x4 M) (fun r2 => if r2 = 0 then if gOb 7 (M.2.2 0) = true then some (.inl ((x2 * (Int32.toInt64 ((10 : Int32) - (M.1 (M.2.2 0) 4)))), (x4 + 1))) else none else if gOb 7 (M.2.2 0) = true then some (.inl ((x2 * (Int32.toInt64 (M.1 (M.2.2 0) 4))), (x4 + 1))) else none) else none
set_option maxRecDepth 100000 in
theorem CX8_casesOf_5 {G : gG} {d : Nat} {Z : Option Value → gMem → Prop} (hd : 1 ≤ d) (x1 : Int32) (x2 : Int64) (x4 : Int32) (M : gMem) (P : Sum (Int64 × Int32) (Int64) → Prop) (k0 : ∀ (r : Int64), P (.inr r) → Z (some (.long r)) M) (k1 : ∀ (x2 : Int64) (x4 : Int32), P (.inl (x2, x4)) → gGo G YX8_casesOf d Z 5 [some (.ref 0), some (.int x1), some (.long x2), none, some (.int x4)] [] M) (h : gOKq (fX8_casesOf_5 x1 x2 x4 M) P) : gGo G YX8_casesOf d Z 5 [some (.ref 0), some (.int x1), some (.long x2), none, some (.int x4)] [] M := by
  unfold fX8_casesOf_5 at h
  refine go_rn 2 (pc' := 8) (L' := [some (.ref 0), some (.int x1), some (.long x2), none, some (.int x4)]) (S' := [.ref 0, .int x4]) (M' := M) okX8_casesOf rfl ?_
  refine go_ck okX8_casesOf rfl (gOb_c rfl) ?_
  obtain ⟨c1, h⟩ := gq_if h
  refine go_ck okX8_casesOf rfl c1 ?_
  refine go_br okX8_casesOf rfl (fun hp => ?_) (fun hp => ?_)
  · have h := gq_pos hp h
    refine go_rn 1 (pc' := 58) (L' := [some (.ref 0), some (.int x1), some (.long x2), none, some (.int x4)]) (S' := [.long x2]) (M' := M) okX8_casesOf rfl ?_
    exact go_lret (reX8_casesOf _ (by decide)) rfl (k0 x2 h)
  · have h := gq_neg hp h
    refine go_rn 3 (pc' := 21) (L' := [some (.ref 0), some (.int x1), some (.long x2), none, some (.int x4)]) (S' := [.int x4, .int x1, .long x2]) (M' := M) okX8_casesOf rfl ?_
    obtain ⟨r2, e3, h⟩ := gB0_ok h
    refine go_call1 ocX8_casesOf rfl rfl rfl rfl (SX8_has x1 x4 M e3) (Nat.lt_of_lt_of_le (by decide) hd) ?_
    refine go_br okX8_casesOf rfl (fun hp => ?_) (fun hp => ?_)
    · have h := gq_pos hp h
      refine go_rn 2 (pc' := 41) (L' := [some (.ref 0), some (.int x1), some (.long x2), none, some (.int x4)]) (S' := [.ref 0, .int (10 : Int32), .long x2]) (M' := M) okX8_casesOf rfl ?_
      refine go_ck okX8_casesOf rfl (gOb_c rfl) ?_
      obtain ⟨c4, h⟩ := gq_if h
      refine go_ck okX8_casesOf rfl c4 ?_
      refine go_rn 6 (pc' := 5) (L' := [some (.ref 0), some (.int x1), some (.long (x2 * (Int32.toInt64 ((10 : Int32) - (M.1 (M.2.2 0) 4))))), none, some (.int (x4 + 1))]) (S' := []) (M' := M) okX8_casesOf rfl ?_
      exact go_wk (k1 ((x2 * (Int32.toInt64 ((10 : Int32) - (M.1 (M.2.2 0) 4))))) ((x4 + 1)) h) ⟨rfl, rfl, rfl, rfl, True.intro⟩
    · have h := gq_neg hp h
      refine go_rn 1 (pc' := 28) (L' := [some (.ref 0), some (.int x1), some (.long x2), none, some (.int x4)]) (S' := [.ref 0, .long x2]) (M' := M) okX8_casesOf rfl ?_
      refine go_ck okX8_casesOf rfl (gOb_c rfl) ?_
      obtain ⟨c5, h⟩ := gq_if h
      refine go_ck okX8_casesOf rfl c5 ?_
      refine go_rn 6 (pc' := 5) (L' := [some (.ref 0), some (.int x1), some (.long (x2 * (Int32.toInt64 (M.1 (M.2.2 0) 4)))), none, some (.int (x4 + 1))]) (S' := []) (M' := M) okX8_casesOf rfl ?_
      exact go_wk (k1 ((x2 * (Int32.toInt64 (M.1 (M.2.2 0) 4)))) ((x4 + 1)) h) ⟨rfl, rfl, rfl, rfl, True.intro⟩
def fX8_casesOf_5h (x1 : Int32) (x2 : Int64) (x4 : Int32) (M : gMem) : Option (Int64) :=
  gLp (fun s : Int64 × Int32 => fX8_casesOf_5 x1 (s.1) (s.2) M) gFu (x2, x4)
set_option maxRecDepth 100000 in
theorem CX8_casesOf_5h {G : gG} {d : Nat} {Z : Option Value → gMem → Prop} (hd : 1 ≤ d) (x1 : Int32) (x2 : Int64) (x4 : Int32) (M : gMem) (P : Int64 → Prop) (k0 : ∀ (r : Int64), P r → Z (some (.long r)) M) (h : gOKq (fX8_casesOf_5h x1 x2 x4 M) P) : gGo G YX8_casesOf d Z 5 [some (.ref 0), some (.int x1), some (.long x2), none, some (.int x4)] [] M :=
  gLp_go (K := fun s : Int64 × Int32 => gGo G YX8_casesOf d Z 5 [some (.ref 0), some (.int x1), some (.long s.1), none, some (.int s.2)] [] M) (P := P) (fun s hs => CX8_casesOf_5 hd (x1) (s.1) (s.2) M (Sum.elim (fun s : Int64 × Int32 => gGo G YX8_casesOf d Z 5 [some (.ref 0), some (.int x1), some (.long s.1), none, some (.int s.2)] [] M) P) k0 (fun x2 x4 hh => hh) hs) gFu (x2, x4) h
def fX8_casesOf_0 (x1 : Int32) (M : gMem) : Option (Int64) :=
  fX8_casesOf_5h x1 (1 : Int64) (0 : Int32) M
set_option maxRecDepth 100000 in
theorem CX8_casesOf_0 {G : gG} {d : Nat} {Z : Option Value → gMem → Prop} (hd : 1 ≤ d) (x1 : Int32) (M : gMem) (P : Int64 → Prop) (k0 : ∀ (r : Int64), P r → Z (some (.long r)) M) (h : gOKq (fX8_casesOf_0 x1 M) P) : gGo G YX8_casesOf d Z 0 [some (.ref 0), some (.int x1), none, none, none] [] M := by
  unfold fX8_casesOf_0 at h
  refine go_rn 4 (pc' := 5) (L' := [some (.ref 0), some (.int x1), some (.long (1 : Int64)), none, some (.int (0 : Int32))]) (S' := []) (M' := M) okX8_casesOf rfl ?_
  exact go_wk (CX8_casesOf_5h hd x1 (1 : Int64) (0 : Int32) M P k0 h) ⟨rfl, rfl, rfl, rfl, True.intro⟩
def fX8_casesOf (a1 : Int32) (M : gMem) : Option (Int64) := fX8_casesOf_0 a1 M
theorem SX8_casesOf {G : gG} (a1 : Int32) (M : gMem) {r : Int64} (h : fX8_casesOf a1 M = some r) : gRun G YX8_casesOf 1 [.ref 0, .int a1] M (fun r' N' => r' = some (.long r) ∧ N' = M) := gRun_in (by decide +kernel) rfl (fun d hd => go_wk (CX8_casesOf_0 hd a1 M (fun p => p = r) (fun r hh => ⟨congrArg (fun z => some (Value.long z)) hh, rfl⟩) (gq_of h)) ⟨rfl, rfl, True.intro⟩)
def fX8_measure_0 (x1 : Int32) (x2 : Int32) (x3 : Int32) (M : gMem) : Option (Int32) :=
  if x1 = 0 then if gIx 7 48 (0 : Int32) = true then if gIx 1 (gRa 48 (Int32.toNatClampNeg (0 : Int32))) x2 = true then gB0 (fX8_has (M.1 (gRa 48 (Int32.toNatClampNeg (0 : Int32))) (Int32.toNatClampNeg x2)) x3 M) (fun r3 => if r3 = 0 then some (0 : Int32) else some (1 : Int32)) else none else none else if x1 = 1 then if gOb 7 (M.2.2 0) = true then if gOb 7 (M.2.2 0) = true then gB0 (fX2_doorsOf (M.2.2 0) (0 : Int32) x2 (M.1 (M.2.2 0) 2) M) (fun r7 => gB0 (fX8_has r7 x3 M) (fun r9 => if r9 = 0 then some (0 : Int32) else some (1 : Int32))) else none else none else if gOb 7 (M.2.2 0) = true then gB0 (fX2_firmCount (M.2.2 0) (0 : Int32) M) (fun r12 => some r12) else none
set_option maxRecDepth 100000 in
theorem CX8_measure_0 {G : gG} {d : Nat} {Z : Option Value → gMem → Prop} (hd : 4 ≤ d) (x1 : Int32) (x2 : Int32) (x3 : Int32) (M : gMem) (P : Int32 → Prop) (k0 : ∀ (r : Int32), P r → Z (some (.int r)) M) (h : gOKq (fX8_measure_0 x1 x2 x3 M) P) : gGo G YX8_measure d Z 0 [some (.ref 0), some (.int x1), some (.int x2), some (.int x3)] [] M := by
  unfold fX8_measure_0 at h
  refine go_rn 1 (pc' := 1) (L' := [some (.ref 0), some (.int x1), some (.int x2), some (.int x3)]) (S' := [.int x1]) (M' := M) okX8_measure rfl ?_
  refine go_sw okX8_measure rfl ⟨fun hp => ?_, fun hn0 => ⟨fun hp => ?_, fun hn1 => ?_⟩⟩
  · have h := gq_pos hp h
    refine go_rn 1 (pc' := 29) (L' := [some (.ref 0), some (.int x1), some (.int x2), some (.int x3)]) (S' := [.ref 0]) (M' := M) okX8_measure rfl ?_
    refine go_ck okX8_measure rfl (gOb_c rfl) ?_
    refine go_ck okX8_measure rfl (gOb_c rfl) ?_
    refine go_rn 1 (pc' := 36) (L' := [some (.ref 0), some (.int x1), some (.int x2), some (.int x3)]) (S' := [.int (0 : Int32), .ref 48]) (M' := M) okX8_measure rfl ?_
    obtain ⟨c1, h⟩ := gq_if h
    refine go_ck okX8_measure rfl c1 ?_
    refine go_rn 1 (pc' := 38) (L' := [some (.ref 0), some (.int x1), some (.int x2), some (.int x3)]) (S' := [.int x2, .ref (gRa 48 (Int32.toNatClampNeg (0 : Int32)))]) (M' := M) okX8_measure rfl ?_
    obtain ⟨c2, h⟩ := gq_if h
    refine go_ck okX8_measure rfl c2 ?_
    refine go_rn 1 (pc' := 40) (L' := [some (.ref 0), some (.int x1), some (.int x2), some (.int x3)]) (S' := [.int x3, .int (M.1 (gRa 48 (Int32.toNatClampNeg (0 : Int32))) (Int32.toNatClampNeg x2))]) (M' := M) okX8_measure rfl ?_
    obtain ⟨r3, e4, h⟩ := gB0_ok h
    refine go_call1 ocX8_measure rfl rfl rfl rfl (SX8_has (M.1 (gRa 48 (Int32.toNatClampNeg (0 : Int32))) (Int32.toNatClampNeg x2)) x3 M e4) (Nat.lt_of_lt_of_le (by decide) hd) ?_
    refine go_br okX8_measure rfl (fun hp => ?_) (fun hp => ?_)
    · have h := gq_pos hp h
      refine go_rn 1 (pc' := 51) (L' := [some (.ref 0), some (.int x1), some (.int x2), some (.int x3)]) (S' := [.int (0 : Int32)]) (M' := M) okX8_measure rfl ?_
      exact go_iret (reX8_measure _ (by decide)) rfl (k0 (0 : Int32) h)
    · have h := gq_neg hp h
      refine go_rn 2 (pc' := 51) (L' := [some (.ref 0), some (.int x1), some (.int x2), some (.int x3)]) (S' := [.int (1 : Int32)]) (M' := M) okX8_measure rfl ?_
      exact go_iret (reX8_measure _ (by decide)) rfl (k0 (1 : Int32) h)
  · have h := gq_neg hn0 h
    have h := gq_pos hp h
    refine go_rn 1 (pc' := 53) (L' := [some (.ref 0), some (.int x1), some (.int x2), some (.int x3)]) (S' := [.ref 0]) (M' := M) okX8_measure rfl ?_
    refine go_ck okX8_measure rfl (gOb_c rfl) ?_
    refine go_rn 1 (pc' := 57) (L' := [some (.ref 0), some (.int x1), some (.int x2), some (.int x3)]) (S' := [.ref 0, .ref 14]) (M' := M) okX8_measure rfl ?_
    refine go_ck okX8_measure rfl (gOb_c rfl) ?_
    obtain ⟨c5, h⟩ := gq_if h
    refine go_rn 3 (pc' := 63) (L' := [some (.ref 0), some (.int x1), some (.int x2), some (.int x3)]) (S' := [.ref 0, .int x2, .int (0 : Int32), .ref (M.2.2 0), .ref 14]) (M' := M) okX8_measure rfl ?_
    refine go_ck okX8_measure rfl (gOb_c rfl) ?_
    obtain ⟨c6, h⟩ := gq_if h
    refine go_ck okX8_measure rfl c6 ?_
    obtain ⟨r7, e8, h⟩ := gB0_ok h
    refine go_call1 ocX8_measure rfl rfl (gOb_c rfl) rfl (SX2_doorsOf (M.2.2 0) (0 : Int32) x2 (M.1 (M.2.2 0) 2) M c5 e8) (Nat.lt_of_lt_of_le (by decide) hd) ?_
    refine go_rn 1 (pc' := 73) (L' := [some (.ref 0), some (.int x1), some (.int x2), some (.int x3)]) (S' := [.int x3, .int r7]) (M' := M) okX8_measure rfl ?_
    obtain ⟨r9, e10, h⟩ := gB0_ok h
    refine go_call1 ocX8_measure rfl rfl rfl rfl (SX8_has r7 x3 M e10) (Nat.lt_of_lt_of_le (by decide) hd) ?_
    refine go_br okX8_measure rfl (fun hp => ?_) (fun hp => ?_)
    · have h := gq_pos hp h
      refine go_rn 1 (pc' := 84) (L' := [some (.ref 0), some (.int x1), some (.int x2), some (.int x3)]) (S' := [.int (0 : Int32)]) (M' := M) okX8_measure rfl ?_
      exact go_iret (reX8_measure _ (by decide)) rfl (k0 (0 : Int32) h)
    · have h := gq_neg hp h
      refine go_rn 2 (pc' := 84) (L' := [some (.ref 0), some (.int x1), some (.int x2), some (.int x3)]) (S' := [.int (1 : Int32)]) (M' := M) okX8_measure rfl ?_
      exact go_iret (reX8_measure _ (by decide)) rfl (k0 (1 : Int32) h)
  · have h := gq_neg hn0 h
    have h := gq_neg hn1 h
    refine go_rn 1 (pc' := 86) (L' := [some (.ref 0), some (.int x1), some (.int x2), some (.int x3)]) (S' := [.ref 0]) (M' := M) okX8_measure rfl ?_
    refine go_ck okX8_measure rfl (gOb_c rfl) ?_
    refine go_rn 1 (pc' := 90) (L' := [some (.ref 0), some (.int x1), some (.int x2), some (.int x3)]) (S' := [.ref 0, .ref 14]) (M' := M) okX8_measure rfl ?_
    refine go_ck okX8_measure rfl (gOb_c rfl) ?_
    obtain ⟨c11, h⟩ := gq_if h
    refine go_rn 1 (pc' := 94) (L' := [some (.ref 0), some (.int x1), some (.int x2), some (.int x3)]) (S' := [.int (0 : Int32), .ref (M.2.2 0), .ref 14]) (M' := M) okX8_measure rfl ?_
    obtain ⟨r12, e13, h⟩ := gB0_ok h
    refine go_call1 ocX8_measure rfl rfl (gOb_c rfl) rfl (SX2_firmCount (M.2.2 0) (0 : Int32) M c11 e13) (Nat.lt_of_lt_of_le (by decide) hd) ?_
    exact go_iret (reX8_measure _ (by decide)) rfl (k0 r12 h)
def fX8_measure (a1 : Int32) (a2 : Int32) (a3 : Int32) (M : gMem) : Option (Int32) := fX8_measure_0 a1 a2 a3 M
theorem SX8_measure {G : gG} (a1 : Int32) (a2 : Int32) (a3 : Int32) (M : gMem) {r : Int32} (h : fX8_measure a1 a2 a3 M = some r) : gRun G YX8_measure 4 [.ref 0, .int a1, .int a2, .int a3] M (fun r' N' => r' = some (.int r) ∧ N' = M) := gRun_in (by decide +kernel) rfl (fun d hd => go_wk (CX8_measure_0 hd a1 a2 a3 M (fun p => p = r) (fun r hh => ⟨congrArg (fun z => some (Value.int z)) hh, rfl⟩) (gq_of h)) ⟨rfl, rfl, rfl, rfl, True.intro⟩)
def fX8_meanOf_66 (x1 : Int32) (x2 : Int32) (x3 : Int32) (x4 : Int32) (x5 : Int64) (x7 : Int64) (x9 : Int32) (x10 : Int64) (M : gMem) : Option (Sum (Int64 × Int64 × Int32 × gMem) (Int32 × gMem)) :=
  if gOb 7 (M.2.2 0) = true then gB0 (fX2_live (M.2.2 0) (1 : Int32) M) (fun M2 => gB0 (fX8_measure x1 x2 x3 M2) (fun r4 => some (.inl ((x5 + (x10 * (Int32.toInt64 r4))), x7, (x9 + 1), M2)))) else none
set_option maxRecDepth 100000 in
theorem CX8_meanOf_66 {G : gG} {d : Nat} {Z : Option Value → gMem → Prop} (hd : 5 ≤ d) (x1 : Int32) (x2 : Int32) (x3 : Int32) (x4 : Int32) (x5 : Int64) (x7 : Int64) (x9 : Int32) (x10 : Int64) (M : gMem) (P : Sum (Int64 × Int64 × Int32 × gMem) (Int32 × gMem) → Prop) (k0 : ∀ (r : Int32) (N : gMem), P (.inr (r, N)) → Z (some (.int r)) N) (k1 : ∀ (x5 : Int64) (x7 : Int64) (x9 : Int32) (M : gMem), P (.inl (x5, x7, x9, M)) → gGo G YX8_meanOf d Z 9 [some (.ref 0), some (.int x1), some (.int x2), some (.int x3), some (.int x4), some (.long x5), none, some (.long x7), none, some (.int x9), none, none] [] M) (h : gOKq (fX8_meanOf_66 x1 x2 x3 x4 x5 x7 x9 x10 M) P) : gGo G YX8_meanOf d Z 66 [some (.ref 0), some (.int x1), some (.int x2), some (.int x3), some (.int x4), some (.long x5), none, some (.long x7), none, some (.int x9), some (.long x10), none] [.ref 0, .ref 14] M := by
  unfold fX8_meanOf_66 at h
  refine go_ck okX8_meanOf rfl (gOb_c rfl) ?_
  obtain ⟨c1, h⟩ := gq_if h
  refine go_rn 1 (pc' := 70) (L' := [some (.ref 0), some (.int x1), some (.int x2), some (.int x3), some (.int x4), some (.long x5), none, some (.long x7), none, some (.int x9), some (.long x10), none]) (S' := [.int (1 : Int32), .ref (M.2.2 0), .ref 14]) (M' := M) okX8_meanOf rfl ?_
  obtain ⟨M2, e3, h⟩ := gB0_ok h
  refine go_call1 ocX8_meanOf rfl rfl (gOb_c rfl) rfl (SX2_live (M.2.2 0) (1 : Int32) M c1 e3) (Nat.lt_of_lt_of_le (by decide) hd) ?_
  refine go_rn 6 (pc' := 81) (L' := [some (.ref 0), some (.int x1), some (.int x2), some (.int x3), some (.int x4), some (.long x5), none, some (.long x7), none, some (.int x9), some (.long x10), none]) (S' := [.int x3, .int x2, .int x1, .ref 0, .long x10, .long x5]) (M' := M2) okX8_meanOf rfl ?_
  obtain ⟨r4, e5, h⟩ := gB0_ok h
  refine go_call1 ocX8_meanOf rfl rfl (gOb_c rfl) rfl (SX8_measure x1 x2 x3 M2 e5) (Nat.lt_of_lt_of_le (by decide) hd) ?_
  refine go_rn 6 (pc' := 9) (L' := [some (.ref 0), some (.int x1), some (.int x2), some (.int x3), some (.int x4), some (.long (x5 + (x10 * (Int32.toInt64 r4)))), none, some (.long x7), none, some (.int (x9 + 1)), some (.long x10), none]) (S' := []) (M' := M2) okX8_meanOf rfl ?_
  exact go_wk (k1 ((x5 + (x10 * (Int32.toInt64 r4)))) (x7) ((x9 + 1)) M2 h) ⟨rfl, rfl, rfl, rfl, rfl, rfl, rfl, rfl, True.intro⟩
def fX8_meanOf_9 (x1 : Int32) (x2 : Int32) (x3 : Int32) (x4 : Int32) (x5 : Int64) (x7 : Int64) (x9 : Int32) (M : gMem) : Option (Sum (Int64 × Int64 × Int32 × gMem) (Int32 × gMem)) :=
  if gOb 7 (M.2.2 0) = true then if ((1 : Int32) <<< ((M.1 (M.2.2 0) 6) &&& 31)) ≤ x9 then gB0 (fX8_lowest x5 x7 x4 M) (fun r2 => some (.inr (r2, M))) else gB0 (fX8_casesOf x9 M) (fun r4 => if (lg_cmp r4 (0 : Int64)) ≤ 0 then some (.inl (x5, (x7 + r4), (x9 + 1), M)) else gB0 (fX2_supposeNothing M) (fun M6 => fX8_meanOf_66 x1 x2 x3 x4 x5 (x7 + r4) x9 r4 (gSI M6 14 0 x9))) else none
set_option maxRecDepth 100000 in
theorem CX8_meanOf_9 {G : gG} {d : Nat} {Z : Option Value → gMem → Prop} (hd : 5 ≤ d) (x1 : Int32) (x2 : Int32) (x3 : Int32) (x4 : Int32) (x5 : Int64) (x7 : Int64) (x9 : Int32) (M : gMem) (P : Sum (Int64 × Int64 × Int32 × gMem) (Int32 × gMem) → Prop) (k0 : ∀ (r : Int32) (N : gMem), P (.inr (r, N)) → Z (some (.int r)) N) (k1 : ∀ (x5 : Int64) (x7 : Int64) (x9 : Int32) (M : gMem), P (.inl (x5, x7, x9, M)) → gGo G YX8_meanOf d Z 9 [some (.ref 0), some (.int x1), some (.int x2), some (.int x3), some (.int x4), some (.long x5), none, some (.long x7), none, some (.int x9), none, none] [] M) (h : gOKq (fX8_meanOf_9 x1 x2 x3 x4 x5 x7 x9 M) P) : gGo G YX8_meanOf d Z 9 [some (.ref 0), some (.int x1), some (.int x2), some (.int x3), some (.int x4), some (.long x5), none, some (.long x7), none, some (.int x9), none, none] [] M := by
  unfold fX8_meanOf_9 at h
  refine go_rn 3 (pc' := 13) (L' := [some (.ref 0), some (.int x1), some (.int x2), some (.int x3), some (.int x4), some (.long x5), none, some (.long x7), none, some (.int x9), none, none]) (S' := [.ref 0, .int (1 : Int32), .int x9]) (M' := M) okX8_meanOf rfl ?_
  refine go_ck okX8_meanOf rfl (gOb_c rfl) ?_
  obtain ⟨c1, h⟩ := gq_if h
  refine go_ck okX8_meanOf rfl c1 ?_
  refine go_rn 1 (pc' := 20) (L' := [some (.ref 0), some (.int x1), some (.int x2), some (.int x3), some (.int x4), some (.long x5), none, some (.long x7), none, some (.int x9), none, none]) (S' := [.int ((1 : Int32) <<< ((M.1 (M.2.2 0) 6) &&& 31)), .int x9]) (M' := M) okX8_meanOf rfl ?_
  refine go_br okX8_meanOf rfl (fun hp => ?_) (fun hp => ?_)
  · have h := gq_pos hp h
    refine go_rn 3 (pc' := 101) (L' := [some (.ref 0), some (.int x1), some (.int x2), some (.int x3), some (.int x4), some (.long x5), none, some (.long x7), none, some (.int x9), none, none]) (S' := [.int x4, .long x7, .long x5]) (M' := M) okX8_meanOf rfl ?_
    obtain ⟨r2, e3, h⟩ := gB0_ok h
    refine go_call1 ocX8_meanOf rfl rfl rfl rfl (SX8_lowest x5 x7 x4 M e3) (Nat.lt_of_lt_of_le (by decide) hd) ?_
    exact go_iret (reX8_meanOf _ (by decide)) rfl (k0 r2 M h)
  · have h := gq_neg hp h
    refine go_rn 2 (pc' := 26) (L' := [some (.ref 0), some (.int x1), some (.int x2), some (.int x3), some (.int x4), some (.long x5), none, some (.long x7), none, some (.int x9), none, none]) (S' := [.int x9, .ref 0]) (M' := M) okX8_meanOf rfl ?_
    obtain ⟨r4, e5, h⟩ := gB0_ok h
    refine go_call1 ocX8_meanOf rfl rfl (gOb_c rfl) rfl (SX8_casesOf x9 M e5) (Nat.lt_of_lt_of_le (by decide) hd) ?_
    refine go_rn 8 (pc' := 42) (L' := [some (.ref 0), some (.int x1), some (.int x2), some (.int x3), some (.int x4), some (.long x5), none, some (.long (x7 + r4)), none, some (.int x9), some (.long r4), none]) (S' := [.int (lg_cmp r4 (0 : Int64))]) (M' := M) okX8_meanOf rfl ?_
    refine go_br okX8_meanOf rfl (fun hp => ?_) (fun hp => ?_)
    · have h := gq_pos hp h
      refine go_rn 2 (pc' := 9) (L' := [some (.ref 0), some (.int x1), some (.int x2), some (.int x3), some (.int x4), some (.long x5), none, some (.long (x7 + r4)), none, some (.int (x9 + 1)), some (.long r4), none]) (S' := []) (M' := M) okX8_meanOf rfl ?_
      exact go_wk (k1 (x5) ((x7 + r4)) ((x9 + 1)) M h) ⟨rfl, rfl, rfl, rfl, rfl, rfl, rfl, rfl, True.intro⟩
    · have h := gq_neg hp h
      refine go_rn 1 (pc' := 46) (L' := [some (.ref 0), some (.int x1), some (.int x2), some (.int x3), some (.int x4), some (.long x5), none, some (.long (x7 + r4)), none, some (.int x9), some (.long r4), none]) (S' := [.ref 0]) (M' := M) okX8_meanOf rfl ?_
      refine go_ck okX8_meanOf rfl (gOb_c rfl) ?_
      obtain ⟨M6, e7, h⟩ := gB0_ok h
      refine go_call1 ocX8_meanOf rfl rfl (gOb_c rfl) rfl (SX2_supposeNothing M e7) (Nat.lt_of_lt_of_le (by decide) hd) ?_
      refine go_rn 1 (pc' := 53) (L' := [some (.ref 0), some (.int x1), some (.int x2), some (.int x3), some (.int x4), some (.long x5), none, some (.long (x7 + r4)), none, some (.int x9), some (.long r4), none]) (S' := [.ref 0]) (M' := M6) okX8_meanOf rfl ?_
      refine go_ck okX8_meanOf rfl (gOb_c rfl) ?_
      refine go_rn 1 (pc' := 58) (L' := [some (.ref 0), some (.int x1), some (.int x2), some (.int x3), some (.int x4), some (.long x5), none, some (.long (x7 + r4)), none, some (.int x9), some (.long r4), none]) (S' := [.int x9, .ref 14]) (M' := M6) okX8_meanOf rfl ?_
      refine go_ck okX8_meanOf rfl (gOb_c rfl) ?_
      refine go_rn 1 (pc' := 62) (L' := [some (.ref 0), some (.int x1), some (.int x2), some (.int x3), some (.int x4), some (.long x5), none, some (.long (x7 + r4)), none, some (.int x9), some (.long r4), none]) (S' := [.ref 0]) (M' := (gSI M6 14 0 x9)) okX8_meanOf rfl ?_
      refine go_ck okX8_meanOf rfl (gOb_c rfl) ?_
      refine go_rn 1 (pc' := 66) (L' := [some (.ref 0), some (.int x1), some (.int x2), some (.int x3), some (.int x4), some (.long x5), none, some (.long (x7 + r4)), none, some (.int x9), some (.long r4), none]) (S' := [.ref 0, .ref 14]) (M' := (gSI M6 14 0 x9)) okX8_meanOf rfl ?_
      exact go_wk (CX8_meanOf_66 hd x1 x2 x3 x4 x5 (x7 + r4) x9 r4 (gSI M6 14 0 x9) P k0 k1 h) ⟨rfl, rfl, rfl, rfl, rfl, rfl, rfl, rfl, rfl, True.intro⟩
def fX8_meanOf_9h (x1 : Int32) (x2 : Int32) (x3 : Int32) (x4 : Int32) (x5 : Int64) (x7 : Int64) (x9 : Int32) (M : gMem) : Option (Int32 × gMem) :=
  gLp (fun s : Int64 × Int64 × Int32 × gMem => fX8_meanOf_9 x1 x2 x3 x4 (s.1) (s.2.1) (s.2.2.1) s.2.2.2) gFu (x5, x7, x9, M)
set_option maxRecDepth 100000 in
theorem CX8_meanOf_9h {G : gG} {d : Nat} {Z : Option Value → gMem → Prop} (hd : 5 ≤ d) (x1 : Int32) (x2 : Int32) (x3 : Int32) (x4 : Int32) (x5 : Int64) (x7 : Int64) (x9 : Int32) (M : gMem) (P : Int32 × gMem → Prop) (k0 : ∀ (r : Int32) (N : gMem), P (r, N) → Z (some (.int r)) N) (h : gOKq (fX8_meanOf_9h x1 x2 x3 x4 x5 x7 x9 M) P) : gGo G YX8_meanOf d Z 9 [some (.ref 0), some (.int x1), some (.int x2), some (.int x3), some (.int x4), some (.long x5), none, some (.long x7), none, some (.int x9), none, none] [] M :=
  gLp_go (K := fun s : Int64 × Int64 × Int32 × gMem => gGo G YX8_meanOf d Z 9 [some (.ref 0), some (.int x1), some (.int x2), some (.int x3), some (.int x4), some (.long s.1), none, some (.long s.2.1), none, some (.int s.2.2.1), none, none] [] s.2.2.2) (P := P) (fun s hs => CX8_meanOf_9 hd (x1) (x2) (x3) (x4) (s.1) (s.2.1) (s.2.2.1) (s.2.2.2) (Sum.elim (fun s : Int64 × Int64 × Int32 × gMem => gGo G YX8_meanOf d Z 9 [some (.ref 0), some (.int x1), some (.int x2), some (.int x3), some (.int x4), some (.long s.1), none, some (.long s.2.1), none, some (.int s.2.2.1), none, none] [] s.2.2.2) P) k0 (fun x5 x7 x9 M hh => hh) hs) gFu (x5, x7, x9, M) h
def fX8_meanOf_0 (x1 : Int32) (x2 : Int32) (x3 : Int32) (x4 : Int32) (M : gMem) : Option (Int32 × gMem) :=
  fX8_meanOf_9h x1 x2 x3 x4 (0 : Int64) (0 : Int64) (0 : Int32) M
set_option maxRecDepth 100000 in
theorem CX8_meanOf_0 {G : gG} {d : Nat} {Z : Option Value → gMem → Prop} (hd : 5 ≤ d) (x1 : Int32) (x2 : Int32) (x3 : Int32) (x4 : Int32) (M : gMem) (P : Int32 × gMem → Prop) (k0 : ∀ (r : Int32) (N : gMem), P (r, N) → Z (some (.int r)) N) (h : gOKq (fX8_meanOf_0 x1 x2 x3 x4 M) P) : gGo G YX8_meanOf d Z 0 [some (.ref 0), some (.int x1), some (.int x2), some (.int x3), some (.int x4), none, none, none, none, none, none, none] [] M := by
  unfold fX8_meanOf_0 at h
  refine go_rn 6 (pc' := 9) (L' := [some (.ref 0), some (.int x1), some (.int x2), some (.int x3), some (.int x4), some (.long (0 : Int64)), none, some (.long (0 : Int64)), none, some (.int (0 : Int32)), none, none]) (S' := []) (M' := M) okX8_meanOf rfl ?_
  exact go_wk (CX8_meanOf_9h hd x1 x2 x3 x4 (0 : Int64) (0 : Int64) (0 : Int32) M P k0 h) ⟨rfl, rfl, rfl, rfl, rfl, rfl, rfl, rfl, True.intro⟩
def fX8_meanOf (a1 : Int32) (a2 : Int32) (a3 : Int32) (a4 : Int32) (M : gMem) : Option (Int32 × gMem) := fX8_meanOf_0 a1 a2 a3 a4 M
theorem SX8_meanOf {G : gG} (a1 : Int32) (a2 : Int32) (a3 : Int32) (a4 : Int32) (M : gMem) {r : Int32} {N : gMem} (h : fX8_meanOf a1 a2 a3 a4 M = some (r, N)) : gRun G YX8_meanOf 5 [.ref 0, .int a1, .int a2, .int a3, .int a4] M (fun r' N' => r' = some (.int r) ∧ N' = N) := gRun_in (by decide +kernel) rfl (fun d hd => go_wk (CX8_meanOf_0 hd a1 a2 a3 a4 M (fun p => p = (r, N)) (fun r N hh => by cases hh; exact ⟨rfl, rfl⟩) (gq_of h)) ⟨rfl, rfl, rfl, rfl, rfl, True.intro⟩)
def fX8_chance_0 (x1 : Int32) (x2 : Int32) (x3 : Int32) (M : gMem) : Option (Int32 × gMem) :=
  if gOb 7 (M.2.2 0) = true then gB0 (fX7_hasPair (M.2.2 0) x1 x2 M) (fun r2 => if r2 = 0 then some ((-2 : Int32), M) else gB0 (fX8_isEither x3 M) (fun r4 => if r4 = 0 then some ((-2 : Int32), M) else gBp (fX8_meanOf (0 : Int32) x1 x2 x3 M) (fun r6 M7 => some (r6, M7)))) else none
set_option maxRecDepth 100000 in
theorem CX8_chance_0 {G : gG} {d : Nat} {Z : Option Value → gMem → Prop} (hd : 6 ≤ d) (x1 : Int32) (x2 : Int32) (x3 : Int32) (M : gMem) (P : Int32 × gMem → Prop) (k0 : ∀ (r : Int32) (N : gMem), P (r, N) → Z (some (.int r)) N) (h : gOKq (fX8_chance_0 x1 x2 x3 M) P) : gGo G YX8_chance d Z 0 [some (.ref 0), some (.int x1), some (.int x2), some (.int x3)] [] M := by
  unfold fX8_chance_0 at h
  refine go_rn 1 (pc' := 1) (L' := [some (.ref 0), some (.int x1), some (.int x2), some (.int x3)]) (S' := [.ref 0]) (M' := M) okX8_chance rfl ?_
  refine go_ck okX8_chance rfl (gOb_c rfl) ?_
  obtain ⟨c1, h⟩ := gq_if h
  refine go_rn 2 (pc' := 6) (L' := [some (.ref 0), some (.int x1), some (.int x2), some (.int x3)]) (S' := [.int x2, .int x1, .ref (M.2.2 0)]) (M' := M) okX8_chance rfl ?_
  obtain ⟨r2, e3, h⟩ := gB0_ok h
  refine go_call1 ocX8_chance rfl rfl c1 rfl (SX7_hasPair (M.2.2 0) x1 x2 M c1 e3) (Nat.lt_of_lt_of_le (by decide) hd) ?_
  refine go_br okX8_chance rfl (fun hp => ?_) (fun hp => ?_)
  · have h := gq_pos hp h
    refine go_rn 1 (pc' := 21) (L' := [some (.ref 0), some (.int x1), some (.int x2), some (.int x3)]) (S' := [.int (-2 : Int32)]) (M' := M) okX8_chance rfl ?_
    exact go_iret (reX8_chance _ (by decide)) rfl (k0 (-2 : Int32) M h)
  · have h := gq_neg hp h
    refine go_rn 1 (pc' := 13) (L' := [some (.ref 0), some (.int x1), some (.int x2), some (.int x3)]) (S' := [.int x3]) (M' := M) okX8_chance rfl ?_
    obtain ⟨r4, e5, h⟩ := gB0_ok h
    refine go_call1 ocX8_chance rfl rfl rfl rfl (SX8_isEither x3 M e5) (Nat.lt_of_lt_of_le (by decide) hd) ?_
    refine go_br okX8_chance rfl (fun hp => ?_) (fun hp => ?_)
    · have h := gq_pos hp h
      refine go_rn 1 (pc' := 21) (L' := [some (.ref 0), some (.int x1), some (.int x2), some (.int x3)]) (S' := [.int (-2 : Int32)]) (M' := M) okX8_chance rfl ?_
      exact go_iret (reX8_chance _ (by decide)) rfl (k0 (-2 : Int32) M h)
    · have h := gq_neg hp h
      refine go_rn 5 (pc' := 27) (L' := [some (.ref 0), some (.int x1), some (.int x2), some (.int x3)]) (S' := [.int x3, .int x2, .int x1, .int (0 : Int32), .ref 0]) (M' := M) okX8_chance rfl ?_
      obtain ⟨r6, M7, e8, h⟩ := gBp_ok h
      refine go_call1 ocX8_chance rfl rfl (gOb_c rfl) rfl (SX8_meanOf (0 : Int32) x1 x2 x3 M e8) (Nat.lt_of_lt_of_le (by decide) hd) ?_
      exact go_iret (reX8_chance _ (by decide)) rfl (k0 r6 M7 h)
def fX8_chance (a1 : Int32) (a2 : Int32) (a3 : Int32) (M : gMem) : Option (Int32 × gMem) := fX8_chance_0 a1 a2 a3 M
theorem SX8_chance {G : gG} (a1 : Int32) (a2 : Int32) (a3 : Int32) (M : gMem) {r : Int32} {N : gMem} (h : fX8_chance a1 a2 a3 M = some (r, N)) : gRun G YX8_chance 6 [.ref 0, .int a1, .int a2, .int a3] M (fun r' N' => r' = some (.int r) ∧ N' = N) := gRun_in (by decide +kernel) rfl (fun d hd => go_wk (CX8_chance_0 hd a1 a2 a3 M (fun p => p = (r, N)) (fun r N hh => by cases hh; exact ⟨rfl, rfl⟩) (gq_of h)) ⟨rfl, rfl, rfl, rfl, True.intro⟩)
def fX8_through_0 (x1 : Int32) (x2 : Int32) (x3 : Int32) (M : gMem) : Option (Int32 × gMem) :=
  if gOb 7 (M.2.2 0) = true then gB0 (fX7_hasPartner (M.2.2 0) x1 M) (fun r2 => if r2 = 0 then some ((-2 : Int32), M) else if gOb 7 (M.2.2 0) = true then gB0 (fX7_hasDoor (M.2.2 0) x2 M) (fun r5 => if r5 = 0 then some ((-2 : Int32), M) else gB0 (fX8_isEither x3 M) (fun r7 => if r7 = 0 then some ((-2 : Int32), M) else gBp (fX8_meanOf (1 : Int32) x1 x2 x3 M) (fun r9 M10 => some (r9, M10)))) else none) else none
set_option maxRecDepth 100000 in
theorem CX8_through_0 {G : gG} {d : Nat} {Z : Option Value → gMem → Prop} (hd : 6 ≤ d) (x1 : Int32) (x2 : Int32) (x3 : Int32) (M : gMem) (P : Int32 × gMem → Prop) (k0 : ∀ (r : Int32) (N : gMem), P (r, N) → Z (some (.int r)) N) (h : gOKq (fX8_through_0 x1 x2 x3 M) P) : gGo G YX8_through d Z 0 [some (.ref 0), some (.int x1), some (.int x2), some (.int x3)] [] M := by
  unfold fX8_through_0 at h
  refine go_rn 1 (pc' := 1) (L' := [some (.ref 0), some (.int x1), some (.int x2), some (.int x3)]) (S' := [.ref 0]) (M' := M) okX8_through rfl ?_
  refine go_ck okX8_through rfl (gOb_c rfl) ?_
  obtain ⟨c1, h⟩ := gq_if h
  refine go_rn 1 (pc' := 5) (L' := [some (.ref 0), some (.int x1), some (.int x2), some (.int x3)]) (S' := [.int x1, .ref (M.2.2 0)]) (M' := M) okX8_through rfl ?_
  obtain ⟨r2, e3, h⟩ := gB0_ok h
  refine go_call1 ocX8_through rfl rfl c1 rfl (SX7_hasPartner (M.2.2 0) x1 M c1 e3) (Nat.lt_of_lt_of_le (by decide) hd) ?_
  refine go_br okX8_through rfl (fun hp => ?_) (fun hp => ?_)
  · have h := gq_pos hp h
    refine go_rn 1 (pc' := 31) (L' := [some (.ref 0), some (.int x1), some (.int x2), some (.int x3)]) (S' := [.int (-2 : Int32)]) (M' := M) okX8_through rfl ?_
    exact go_iret (reX8_through _ (by decide)) rfl (k0 (-2 : Int32) M h)
  · have h := gq_neg hp h
    refine go_rn 1 (pc' := 12) (L' := [some (.ref 0), some (.int x1), some (.int x2), some (.int x3)]) (S' := [.ref 0]) (M' := M) okX8_through rfl ?_
    refine go_ck okX8_through rfl (gOb_c rfl) ?_
    obtain ⟨c4, h⟩ := gq_if h
    refine go_rn 1 (pc' := 16) (L' := [some (.ref 0), some (.int x1), some (.int x2), some (.int x3)]) (S' := [.int x2, .ref (M.2.2 0)]) (M' := M) okX8_through rfl ?_
    obtain ⟨r5, e6, h⟩ := gB0_ok h
    refine go_call1 ocX8_through rfl rfl c4 rfl (SX7_hasDoor (M.2.2 0) x2 M c4 e6) (Nat.lt_of_lt_of_le (by decide) hd) ?_
    refine go_br okX8_through rfl (fun hp => ?_) (fun hp => ?_)
    · have h := gq_pos hp h
      refine go_rn 1 (pc' := 31) (L' := [some (.ref 0), some (.int x1), some (.int x2), some (.int x3)]) (S' := [.int (-2 : Int32)]) (M' := M) okX8_through rfl ?_
      exact go_iret (reX8_through _ (by decide)) rfl (k0 (-2 : Int32) M h)
    · have h := gq_neg hp h
      refine go_rn 1 (pc' := 23) (L' := [some (.ref 0), some (.int x1), some (.int x2), some (.int x3)]) (S' := [.int x3]) (M' := M) okX8_through rfl ?_
      obtain ⟨r7, e8, h⟩ := gB0_ok h
      refine go_call1 ocX8_through rfl rfl rfl rfl (SX8_isEither x3 M e8) (Nat.lt_of_lt_of_le (by decide) hd) ?_
      refine go_br okX8_through rfl (fun hp => ?_) (fun hp => ?_)
      · have h := gq_pos hp h
        refine go_rn 1 (pc' := 31) (L' := [some (.ref 0), some (.int x1), some (.int x2), some (.int x3)]) (S' := [.int (-2 : Int32)]) (M' := M) okX8_through rfl ?_
        exact go_iret (reX8_through _ (by decide)) rfl (k0 (-2 : Int32) M h)
      · have h := gq_neg hp h
        refine go_rn 5 (pc' := 37) (L' := [some (.ref 0), some (.int x1), some (.int x2), some (.int x3)]) (S' := [.int x3, .int x2, .int x1, .int (1 : Int32), .ref 0]) (M' := M) okX8_through rfl ?_
        obtain ⟨r9, M10, e11, h⟩ := gBp_ok h
        refine go_call1 ocX8_through rfl rfl (gOb_c rfl) rfl (SX8_meanOf (1 : Int32) x1 x2 x3 M e11) (Nat.lt_of_lt_of_le (by decide) hd) ?_
        exact go_iret (reX8_through _ (by decide)) rfl (k0 r9 M10 h)
def fX8_through (a1 : Int32) (a2 : Int32) (a3 : Int32) (M : gMem) : Option (Int32 × gMem) := fX8_through_0 a1 a2 a3 M
theorem SX8_through {G : gG} (a1 : Int32) (a2 : Int32) (a3 : Int32) (M : gMem) {r : Int32} {N : gMem} (h : fX8_through a1 a2 a3 M = some (r, N)) : gRun G YX8_through 6 [.ref 0, .int a1, .int a2, .int a3] M (fun r' N' => r' = some (.int r) ∧ N' = N) := gRun_in (by decide +kernel) rfl (fun d hd => go_wk (CX8_through_0 hd a1 a2 a3 M (fun p => p = (r, N)) (fun r N hh => by cases hh; exact ⟨rfl, rfl⟩) (gq_of h)) ⟨rfl, rfl, rfl, rfl, True.intro⟩)
def fX8_mean_0 (x1 : Int32) (M : gMem) : Option (Int32 × gMem) :=
  if gOb 7 (M.2.2 0) = true then gB0 (fX7_isTold (M.2.2 0) M) (fun r2 => if r2 = 0 then some ((-2 : Int32), M) else gB0 (fX8_isEither x1 M) (fun r4 => if r4 = 0 then some ((-2 : Int32), M) else gBp (fX8_meanOf (2 : Int32) (0 : Int32) (0 : Int32) x1 M) (fun r6 M7 => some (r6, M7)))) else none
set_option maxRecDepth 100000 in
theorem CX8_mean_0 {G : gG} {d : Nat} {Z : Option Value → gMem → Prop} (hd : 6 ≤ d) (x1 : Int32) (M : gMem) (P : Int32 × gMem → Prop) (k0 : ∀ (r : Int32) (N : gMem), P (r, N) → Z (some (.int r)) N) (h : gOKq (fX8_mean_0 x1 M) P) : gGo G YX8_mean d Z 0 [some (.ref 0), some (.int x1)] [] M := by
  unfold fX8_mean_0 at h
  refine go_rn 1 (pc' := 1) (L' := [some (.ref 0), some (.int x1)]) (S' := [.ref 0]) (M' := M) okX8_mean rfl ?_
  refine go_ck okX8_mean rfl (gOb_c rfl) ?_
  obtain ⟨c1, h⟩ := gq_if h
  obtain ⟨r2, e3, h⟩ := gB0_ok h
  refine go_call1 ocX8_mean rfl rfl c1 rfl (SX7_isTold (M.2.2 0) M c1 e3) (Nat.lt_of_lt_of_le (by decide) hd) ?_
  refine go_br okX8_mean rfl (fun hp => ?_) (fun hp => ?_)
  · have h := gq_pos hp h
    refine go_rn 1 (pc' := 19) (L' := [some (.ref 0), some (.int x1)]) (S' := [.int (-2 : Int32)]) (M' := M) okX8_mean rfl ?_
    exact go_iret (reX8_mean _ (by decide)) rfl (k0 (-2 : Int32) M h)
  · have h := gq_neg hp h
    refine go_rn 1 (pc' := 11) (L' := [some (.ref 0), some (.int x1)]) (S' := [.int x1]) (M' := M) okX8_mean rfl ?_
    obtain ⟨r4, e5, h⟩ := gB0_ok h
    refine go_call1 ocX8_mean rfl rfl rfl rfl (SX8_isEither x1 M e5) (Nat.lt_of_lt_of_le (by decide) hd) ?_
    refine go_br okX8_mean rfl (fun hp => ?_) (fun hp => ?_)
    · have h := gq_pos hp h
      refine go_rn 1 (pc' := 19) (L' := [some (.ref 0), some (.int x1)]) (S' := [.int (-2 : Int32)]) (M' := M) okX8_mean rfl ?_
      exact go_iret (reX8_mean _ (by decide)) rfl (k0 (-2 : Int32) M h)
    · have h := gq_neg hp h
      refine go_rn 5 (pc' := 25) (L' := [some (.ref 0), some (.int x1)]) (S' := [.int x1, .int (0 : Int32), .int (0 : Int32), .int (2 : Int32), .ref 0]) (M' := M) okX8_mean rfl ?_
      obtain ⟨r6, M7, e8, h⟩ := gBp_ok h
      refine go_call1 ocX8_mean rfl rfl (gOb_c rfl) rfl (SX8_meanOf (2 : Int32) (0 : Int32) (0 : Int32) x1 M e8) (Nat.lt_of_lt_of_le (by decide) hd) ?_
      exact go_iret (reX8_mean _ (by decide)) rfl (k0 r6 M7 h)
def fX8_mean (a1 : Int32) (M : gMem) : Option (Int32 × gMem) := fX8_mean_0 a1 M
theorem SX8_mean {G : gG} (a1 : Int32) (M : gMem) {r : Int32} {N : gMem} (h : fX8_mean a1 M = some (r, N)) : gRun G YX8_mean 6 [.ref 0, .int a1] M (fun r' N' => r' = some (.int r) ∧ N' = N) := gRun_in (by decide +kernel) rfl (fun d hd => go_wk (CX8_mean_0 hd a1 M (fun p => p = (r, N)) (fun r N hh => by cases hh; exact ⟨rfl, rfl⟩) (gq_of h)) ⟨rfl, rfl, True.intro⟩)
def fX8_weld_18 (x1 : Int32) (x2 : Int32) (x3 : Int32) (x4 : Int32) (s0 : Int32) (M : gMem) : Option (Int32 × gMem) :=
  if gOb 7 (M.2.2 0) = true then gB0 (fX7_hasPair (M.2.2 0) x1 x2 M) (fun r2 => if r2 = 0 then some ((-2 : Int32), M) else if gOb 7 (M.2.2 0) = true then gB0 (fX7_hasYear (M.2.2 0) x3 M) (fun r5 => if r5 = 0 then some ((-2 : Int32), M) else if s0 = 0 then some ((-2 : Int32), M) else if gOb 7 (M.2.2 0) = true then if (M.1 ((M.2.2 0) + 10) 4) < (30 : Int32) then if gOb 7 (M.2.2 0) = true then gB0 (fX0_add ((M.2.2 0) + 10) x1 x2 x3 x4 M) (fun M9 => gB0 (fX8_liveAsNow M9) (fun M11 => gB0 (fX2_areTied x1 x2 x3 M11) (fun r13 => if r13 = 0 then some ((0 : Int32), M11) else some ((1 : Int32), M11)))) else none else some ((-5 : Int32), M) else none) else none) else none
set_option maxRecDepth 100000 in
theorem CX8_weld_18 {G : gG} {d : Nat} {Z : Option Value → gMem → Prop} (hd : 6 ≤ d) (x1 : Int32) (x2 : Int32) (x3 : Int32) (x4 : Int32) (s0 : Int32) (M : gMem) (P : Int32 × gMem → Prop) (k0 : ∀ (r : Int32) (N : gMem), P (r, N) → Z (some (.int r)) N) (h : gOKq (fX8_weld_18 x1 x2 x3 x4 s0 M) P) : gGo G YX8_weld d Z 18 [some (.ref 0), some (.int x1), some (.int x2), some (.int x3), some (.int x4), none] [.int s0] M := by
  unfold fX8_weld_18 at h
  refine go_rn 2 (pc' := 21) (L' := [some (.ref 0), some (.int x1), some (.int x2), some (.int x3), some (.int x4), some (.int s0)]) (S' := [.ref 0]) (M' := M) okX8_weld rfl ?_
  refine go_ck okX8_weld rfl (gOb_c rfl) ?_
  obtain ⟨c1, h⟩ := gq_if h
  refine go_rn 2 (pc' := 26) (L' := [some (.ref 0), some (.int x1), some (.int x2), some (.int x3), some (.int x4), some (.int s0)]) (S' := [.int x2, .int x1, .ref (M.2.2 0)]) (M' := M) okX8_weld rfl ?_
  obtain ⟨r2, e3, h⟩ := gB0_ok h
  refine go_call1 ocX8_weld rfl rfl c1 rfl (SX7_hasPair (M.2.2 0) x1 x2 M c1 e3) (Nat.lt_of_lt_of_le (by decide) hd) ?_
  refine go_br okX8_weld rfl (fun hp => ?_) (fun hp => ?_)
  · have h := gq_pos hp h
    refine go_rn 1 (pc' := 50) (L' := [some (.ref 0), some (.int x1), some (.int x2), some (.int x3), some (.int x4), some (.int s0)]) (S' := [.int (-2 : Int32)]) (M' := M) okX8_weld rfl ?_
    exact go_iret (reX8_weld _ (by decide)) rfl (k0 (-2 : Int32) M h)
  · have h := gq_neg hp h
    refine go_rn 1 (pc' := 33) (L' := [some (.ref 0), some (.int x1), some (.int x2), some (.int x3), some (.int x4), some (.int s0)]) (S' := [.ref 0]) (M' := M) okX8_weld rfl ?_
    refine go_ck okX8_weld rfl (gOb_c rfl) ?_
    obtain ⟨c4, h⟩ := gq_if h
    refine go_rn 1 (pc' := 37) (L' := [some (.ref 0), some (.int x1), some (.int x2), some (.int x3), some (.int x4), some (.int s0)]) (S' := [.int x3, .ref (M.2.2 0)]) (M' := M) okX8_weld rfl ?_
    obtain ⟨r5, e6, h⟩ := gB0_ok h
    refine go_call1 ocX8_weld rfl rfl c4 rfl (SX7_hasYear (M.2.2 0) x3 M c4 e6) (Nat.lt_of_lt_of_le (by decide) hd) ?_
    refine go_br okX8_weld rfl (fun hp => ?_) (fun hp => ?_)
    · have h := gq_pos hp h
      refine go_rn 1 (pc' := 50) (L' := [some (.ref 0), some (.int x1), some (.int x2), some (.int x3), some (.int x4), some (.int s0)]) (S' := [.int (-2 : Int32)]) (M' := M) okX8_weld rfl ?_
      exact go_iret (reX8_weld _ (by decide)) rfl (k0 (-2 : Int32) M h)
    · have h := gq_neg hp h
      refine go_rn 1 (pc' := 45) (L' := [some (.ref 0), some (.int x1), some (.int x2), some (.int x3), some (.int x4), some (.int s0)]) (S' := [.int s0]) (M' := M) okX8_weld rfl ?_
      refine go_br okX8_weld rfl (fun hp => ?_) (fun hp => ?_)
      · have h := gq_pos hp h
        refine go_rn 1 (pc' := 50) (L' := [some (.ref 0), some (.int x1), some (.int x2), some (.int x3), some (.int x4), some (.int s0)]) (S' := [.int (-2 : Int32)]) (M' := M) okX8_weld rfl ?_
        exact go_iret (reX8_weld _ (by decide)) rfl (k0 (-2 : Int32) M h)
      · have h := gq_neg hp h
        refine go_rn 1 (pc' := 52) (L' := [some (.ref 0), some (.int x1), some (.int x2), some (.int x3), some (.int x4), some (.int s0)]) (S' := [.ref 0]) (M' := M) okX8_weld rfl ?_
        refine go_ck okX8_weld rfl (gOb_c rfl) ?_
        obtain ⟨c7, h⟩ := gq_if h
        refine go_ck okX8_weld rfl c7 ?_
        refine go_ck okX8_weld rfl (gTa c7) ?_
        refine go_rn 1 (pc' := 63) (L' := [some (.ref 0), some (.int x1), some (.int x2), some (.int x3), some (.int x4), some (.int s0)]) (S' := [.int (30 : Int32), .int (M.1 ((M.2.2 0) + 10) 4)]) (M' := M) okX8_weld rfl ?_
        refine go_br okX8_weld rfl (fun hp => ?_) (fun hp => ?_)
        · have h := gq_pos hp h
          refine go_rn 1 (pc' := 70) (L' := [some (.ref 0), some (.int x1), some (.int x2), some (.int x3), some (.int x4), some (.int s0)]) (S' := [.ref 0]) (M' := M) okX8_weld rfl ?_
          refine go_ck okX8_weld rfl (gOb_c rfl) ?_
          obtain ⟨c8, h⟩ := gq_if h
          refine go_ck okX8_weld rfl c8 ?_
          refine go_rn 4 (pc' := 81) (L' := [some (.ref 0), some (.int x1), some (.int x2), some (.int x3), some (.int x4), some (.int s0)]) (S' := [.int x4, .int x3, .int x2, .int x1, .ref ((M.2.2 0) + 10)]) (M' := M) okX8_weld rfl ?_
          obtain ⟨M9, e10, h⟩ := gB0_ok h
          refine go_call1 ocX8_weld rfl rfl (gTa c8) rfl (SX0_add ((M.2.2 0) + 10) x1 x2 x3 x4 M (gTa c8) e10) (Nat.lt_of_lt_of_le (by decide) hd) ?_
          refine go_rn 1 (pc' := 85) (L' := [some (.ref 0), some (.int x1), some (.int x2), some (.int x3), some (.int x4), some (.int s0)]) (S' := [.ref 0]) (M' := M9) okX8_weld rfl ?_
          obtain ⟨M11, e12, h⟩ := gB0_ok h
          refine go_call1 ocX8_weld rfl rfl (gOb_c rfl) rfl (SX8_liveAsNow M9 e12) (Nat.lt_of_lt_of_le (by decide) hd) ?_
          refine go_rn 1 (pc' := 89) (L' := [some (.ref 0), some (.int x1), some (.int x2), some (.int x3), some (.int x4), some (.int s0)]) (S' := [.ref 0]) (M' := M11) okX8_weld rfl ?_
          refine go_ck okX8_weld rfl (gOb_c rfl) ?_
          refine go_rn 3 (pc' := 95) (L' := [some (.ref 0), some (.int x1), some (.int x2), some (.int x3), some (.int x4), some (.int s0)]) (S' := [.int x3, .int x2, .int x1, .ref 14]) (M' := M11) okX8_weld rfl ?_
          obtain ⟨r13, e14, h⟩ := gB0_ok h
          refine go_call1 ocX8_weld rfl rfl (gOb_c rfl) rfl (SX2_areTied x1 x2 x3 M11 e14) (Nat.lt_of_lt_of_le (by decide) hd) ?_
          refine go_br okX8_weld rfl (fun hp => ?_) (fun hp => ?_)
          · have h := gq_pos hp h
            refine go_rn 1 (pc' := 106) (L' := [some (.ref 0), some (.int x1), some (.int x2), some (.int x3), some (.int x4), some (.int s0)]) (S' := [.int (0 : Int32)]) (M' := M11) okX8_weld rfl ?_
            exact go_iret (reX8_weld _ (by decide)) rfl (k0 (0 : Int32) M11 h)
          · have h := gq_neg hp h
            refine go_rn 2 (pc' := 106) (L' := [some (.ref 0), some (.int x1), some (.int x2), some (.int x3), some (.int x4), some (.int s0)]) (S' := [.int (1 : Int32)]) (M' := M11) okX8_weld rfl ?_
            exact go_iret (reX8_weld _ (by decide)) rfl (k0 (1 : Int32) M11 h)
        · have h := gq_neg hp h
          refine go_rn 1 (pc' := 68) (L' := [some (.ref 0), some (.int x1), some (.int x2), some (.int x3), some (.int x4), some (.int s0)]) (S' := [.int (-5 : Int32)]) (M' := M) okX8_weld rfl ?_
          exact go_iret (reX8_weld _ (by decide)) rfl (k0 (-5 : Int32) M h)
def fX8_weld_17 (x1 : Int32) (x2 : Int32) (x3 : Int32) (x4 : Int32) (M : gMem) : Option (Int32 × gMem) :=
  fX8_weld_18 x1 x2 x3 x4 (0 : Int32) M
set_option maxRecDepth 100000 in
theorem CX8_weld_17 {G : gG} {d : Nat} {Z : Option Value → gMem → Prop} (hd : 6 ≤ d) (x1 : Int32) (x2 : Int32) (x3 : Int32) (x4 : Int32) (M : gMem) (P : Int32 × gMem → Prop) (k0 : ∀ (r : Int32) (N : gMem), P (r, N) → Z (some (.int r)) N) (h : gOKq (fX8_weld_17 x1 x2 x3 x4 M) P) : gGo G YX8_weld d Z 17 [some (.ref 0), some (.int x1), some (.int x2), some (.int x3), some (.int x4), none] [] M := by
  unfold fX8_weld_17 at h
  refine go_rn 1 (pc' := 18) (L' := [some (.ref 0), some (.int x1), some (.int x2), some (.int x3), some (.int x4), none]) (S' := [.int (0 : Int32)]) (M' := M) okX8_weld rfl ?_
  exact go_wk (CX8_weld_18 hd x1 x2 x3 x4 (0 : Int32) M P k0 h) ⟨rfl, rfl, rfl, rfl, rfl, True.intro⟩
def fX8_weld_0 (x1 : Int32) (x2 : Int32) (x3 : Int32) (x4 : Int32) (M : gMem) : Option (Int32 × gMem) :=
  if x4 < (1 : Int32) then fX8_weld_17 x1 x2 x3 x4 M else if (9 : Int32) < x4 then fX8_weld_17 x1 x2 x3 x4 M else fX8_weld_18 x1 x2 x3 x4 (1 : Int32) M
set_option maxRecDepth 100000 in
theorem CX8_weld_0 {G : gG} {d : Nat} {Z : Option Value → gMem → Prop} (hd : 6 ≤ d) (x1 : Int32) (x2 : Int32) (x3 : Int32) (x4 : Int32) (M : gMem) (P : Int32 × gMem → Prop) (k0 : ∀ (r : Int32) (N : gMem), P (r, N) → Z (some (.int r)) N) (h : gOKq (fX8_weld_0 x1 x2 x3 x4 M) P) : gGo G YX8_weld d Z 0 [some (.ref 0), some (.int x1), some (.int x2), some (.int x3), some (.int x4), none] [] M := by
  unfold fX8_weld_0 at h
  refine go_rn 2 (pc' := 3) (L' := [some (.ref 0), some (.int x1), some (.int x2), some (.int x3), some (.int x4), none]) (S' := [.int (1 : Int32), .int x4]) (M' := M) okX8_weld rfl ?_
  refine go_br okX8_weld rfl (fun hp => ?_) (fun hp => ?_)
  · have h := gq_pos hp h
    exact go_wk (CX8_weld_17 hd x1 x2 x3 x4 M P k0 h) ⟨rfl, rfl, rfl, rfl, rfl, True.intro⟩
  · have h := gq_neg hp h
    refine go_rn 2 (pc' := 10) (L' := [some (.ref 0), some (.int x1), some (.int x2), some (.int x3), some (.int x4), none]) (S' := [.int (9 : Int32), .int x4]) (M' := M) okX8_weld rfl ?_
    refine go_br okX8_weld rfl (fun hp => ?_) (fun hp => ?_)
    · have h := gq_pos hp h
      exact go_wk (CX8_weld_17 hd x1 x2 x3 x4 M P k0 h) ⟨rfl, rfl, rfl, rfl, rfl, True.intro⟩
    · have h := gq_neg hp h
      refine go_rn 2 (pc' := 18) (L' := [some (.ref 0), some (.int x1), some (.int x2), some (.int x3), some (.int x4), none]) (S' := [.int (1 : Int32)]) (M' := M) okX8_weld rfl ?_
      exact go_wk (CX8_weld_18 hd x1 x2 x3 x4 (1 : Int32) M P k0 h) ⟨rfl, rfl, rfl, rfl, rfl, True.intro⟩
def fX8_weld (a1 : Int32) (a2 : Int32) (a3 : Int32) (a4 : Int32) (M : gMem) : Option (Int32 × gMem) := fX8_weld_0 a1 a2 a3 a4 M
theorem SX8_weld {G : gG} (a1 : Int32) (a2 : Int32) (a3 : Int32) (a4 : Int32) (M : gMem) {r : Int32} {N : gMem} (h : fX8_weld a1 a2 a3 a4 M = some (r, N)) : gRun G YX8_weld 6 [.ref 0, .int a1, .int a2, .int a3, .int a4] M (fun r' N' => r' = some (.int r) ∧ N' = N) := gRun_in (by decide +kernel) rfl (fun d hd => go_wk (CX8_weld_0 hd a1 a2 a3 a4 M (fun p => p = (r, N)) (fun r N hh => by cases hh; exact ⟨rfl, rfl⟩) (gq_of h)) ⟨rfl, rfl, rfl, rfl, rfl, True.intro⟩)
def fX8_snip_0 (x1 : Int32) (x2 : Int32) (x3 : Int32) (M : gMem) : Option (Int32 × gMem) :=
  if gOb 7 (M.2.2 0) = true then gB0 (fX7_hasPair (M.2.2 0) x1 x2 M) (fun r2 => if r2 = 0 then some ((-2 : Int32), M) else if gOb 7 (M.2.2 0) = true then gB0 (fX7_hasYear (M.2.2 0) x3 M) (fun r5 => if r5 = 0 then some ((-2 : Int32), M) else if gOb 7 (M.2.2 0) = true then if (M.1 ((M.2.2 0) + 10) 4) < (30 : Int32) then gB0 (fX8_liveAsNow M) (fun M8 => if gOb 7 (M8.2.2 0) = true then gB0 (fX0_add ((M8.2.2 0) + 10) x1 x2 x3 (0 : Int32) M8) (fun M11 => gB0 (fX2_areTied x1 x2 x3 M11) (fun r13 => if r13 = 0 then some ((0 : Int32), M11) else some ((1 : Int32), M11))) else none) else some ((-5 : Int32), M) else none) else none) else none
set_option maxRecDepth 100000 in
theorem CX8_snip_0 {G : gG} {d : Nat} {Z : Option Value → gMem → Prop} (hd : 6 ≤ d) (x1 : Int32) (x2 : Int32) (x3 : Int32) (M : gMem) (P : Int32 × gMem → Prop) (k0 : ∀ (r : Int32) (N : gMem), P (r, N) → Z (some (.int r)) N) (h : gOKq (fX8_snip_0 x1 x2 x3 M) P) : gGo G YX8_snip d Z 0 [some (.ref 0), some (.int x1), some (.int x2), some (.int x3)] [] M := by
  unfold fX8_snip_0 at h
  refine go_rn 1 (pc' := 1) (L' := [some (.ref 0), some (.int x1), some (.int x2), some (.int x3)]) (S' := [.ref 0]) (M' := M) okX8_snip rfl ?_
  refine go_ck okX8_snip rfl (gOb_c rfl) ?_
  obtain ⟨c1, h⟩ := gq_if h
  refine go_rn 2 (pc' := 6) (L' := [some (.ref 0), some (.int x1), some (.int x2), some (.int x3)]) (S' := [.int x2, .int x1, .ref (M.2.2 0)]) (M' := M) okX8_snip rfl ?_
  obtain ⟨r2, e3, h⟩ := gB0_ok h
  refine go_call1 ocX8_snip rfl rfl c1 rfl (SX7_hasPair (M.2.2 0) x1 x2 M c1 e3) (Nat.lt_of_lt_of_le (by decide) hd) ?_
  refine go_br okX8_snip rfl (fun hp => ?_) (fun hp => ?_)
  · have h := gq_pos hp h
    refine go_rn 1 (pc' := 25) (L' := [some (.ref 0), some (.int x1), some (.int x2), some (.int x3)]) (S' := [.int (-2 : Int32)]) (M' := M) okX8_snip rfl ?_
    exact go_iret (reX8_snip _ (by decide)) rfl (k0 (-2 : Int32) M h)
  · have h := gq_neg hp h
    refine go_rn 1 (pc' := 13) (L' := [some (.ref 0), some (.int x1), some (.int x2), some (.int x3)]) (S' := [.ref 0]) (M' := M) okX8_snip rfl ?_
    refine go_ck okX8_snip rfl (gOb_c rfl) ?_
    obtain ⟨c4, h⟩ := gq_if h
    refine go_rn 1 (pc' := 17) (L' := [some (.ref 0), some (.int x1), some (.int x2), some (.int x3)]) (S' := [.int x3, .ref (M.2.2 0)]) (M' := M) okX8_snip rfl ?_
    obtain ⟨r5, e6, h⟩ := gB0_ok h
    refine go_call1 ocX8_snip rfl rfl c4 rfl (SX7_hasYear (M.2.2 0) x3 M c4 e6) (Nat.lt_of_lt_of_le (by decide) hd) ?_
    refine go_br okX8_snip rfl (fun hp => ?_) (fun hp => ?_)
    · have h := gq_pos hp h
      refine go_rn 1 (pc' := 25) (L' := [some (.ref 0), some (.int x1), some (.int x2), some (.int x3)]) (S' := [.int (-2 : Int32)]) (M' := M) okX8_snip rfl ?_
      exact go_iret (reX8_snip _ (by decide)) rfl (k0 (-2 : Int32) M h)
    · have h := gq_neg hp h
      refine go_rn 1 (pc' := 27) (L' := [some (.ref 0), some (.int x1), some (.int x2), some (.int x3)]) (S' := [.ref 0]) (M' := M) okX8_snip rfl ?_
      refine go_ck okX8_snip rfl (gOb_c rfl) ?_
      obtain ⟨c7, h⟩ := gq_if h
      refine go_ck okX8_snip rfl c7 ?_
      refine go_ck okX8_snip rfl (gTa c7) ?_
      refine go_rn 1 (pc' := 38) (L' := [some (.ref 0), some (.int x1), some (.int x2), some (.int x3)]) (S' := [.int (30 : Int32), .int (M.1 ((M.2.2 0) + 10) 4)]) (M' := M) okX8_snip rfl ?_
      refine go_br okX8_snip rfl (fun hp => ?_) (fun hp => ?_)
      · have h := gq_pos hp h
        refine go_rn 1 (pc' := 45) (L' := [some (.ref 0), some (.int x1), some (.int x2), some (.int x3)]) (S' := [.ref 0]) (M' := M) okX8_snip rfl ?_
        obtain ⟨M8, e9, h⟩ := gB0_ok h
        refine go_call1 ocX8_snip rfl rfl (gOb_c rfl) rfl (SX8_liveAsNow M e9) (Nat.lt_of_lt_of_le (by decide) hd) ?_
        refine go_rn 1 (pc' := 49) (L' := [some (.ref 0), some (.int x1), some (.int x2), some (.int x3)]) (S' := [.ref 0]) (M' := M8) okX8_snip rfl ?_
        refine go_ck okX8_snip rfl (gOb_c rfl) ?_
        obtain ⟨c10, h⟩ := gq_if h
        refine go_ck okX8_snip rfl c10 ?_
        refine go_rn 4 (pc' := 59) (L' := [some (.ref 0), some (.int x1), some (.int x2), some (.int x3)]) (S' := [.int (0 : Int32), .int x3, .int x2, .int x1, .ref ((M8.2.2 0) + 10)]) (M' := M8) okX8_snip rfl ?_
        obtain ⟨M11, e12, h⟩ := gB0_ok h
        refine go_call1 ocX8_snip rfl rfl (gTa c10) rfl (SX0_add ((M8.2.2 0) + 10) x1 x2 x3 (0 : Int32) M8 (gTa c10) e12) (Nat.lt_of_lt_of_le (by decide) hd) ?_
        refine go_rn 1 (pc' := 63) (L' := [some (.ref 0), some (.int x1), some (.int x2), some (.int x3)]) (S' := [.ref 0]) (M' := M11) okX8_snip rfl ?_
        refine go_ck okX8_snip rfl (gOb_c rfl) ?_
        refine go_rn 3 (pc' := 69) (L' := [some (.ref 0), some (.int x1), some (.int x2), some (.int x3)]) (S' := [.int x3, .int x2, .int x1, .ref 14]) (M' := M11) okX8_snip rfl ?_
        obtain ⟨r13, e14, h⟩ := gB0_ok h
        refine go_call1 ocX8_snip rfl rfl (gOb_c rfl) rfl (SX2_areTied x1 x2 x3 M11 e14) (Nat.lt_of_lt_of_le (by decide) hd) ?_
        refine go_br okX8_snip rfl (fun hp => ?_) (fun hp => ?_)
        · have h := gq_pos hp h
          refine go_rn 1 (pc' := 80) (L' := [some (.ref 0), some (.int x1), some (.int x2), some (.int x3)]) (S' := [.int (0 : Int32)]) (M' := M11) okX8_snip rfl ?_
          exact go_iret (reX8_snip _ (by decide)) rfl (k0 (0 : Int32) M11 h)
        · have h := gq_neg hp h
          refine go_rn 2 (pc' := 80) (L' := [some (.ref 0), some (.int x1), some (.int x2), some (.int x3)]) (S' := [.int (1 : Int32)]) (M' := M11) okX8_snip rfl ?_
          exact go_iret (reX8_snip _ (by decide)) rfl (k0 (1 : Int32) M11 h)
      · have h := gq_neg hp h
        refine go_rn 1 (pc' := 43) (L' := [some (.ref 0), some (.int x1), some (.int x2), some (.int x3)]) (S' := [.int (-5 : Int32)]) (M' := M) okX8_snip rfl ?_
        exact go_iret (reX8_snip _ (by decide)) rfl (k0 (-5 : Int32) M h)
def fX8_snip (a1 : Int32) (a2 : Int32) (a3 : Int32) (M : gMem) : Option (Int32 × gMem) := fX8_snip_0 a1 a2 a3 M
theorem SX8_snip {G : gG} (a1 : Int32) (a2 : Int32) (a3 : Int32) (M : gMem) {r : Int32} {N : gMem} (h : fX8_snip a1 a2 a3 M = some (r, N)) : gRun G YX8_snip 6 [.ref 0, .int a1, .int a2, .int a3] M (fun r' N' => r' = some (.int r) ∧ N' = N) := gRun_in (by decide +kernel) rfl (fun d hd => go_wk (CX8_snip_0 hd a1 a2 a3 M (fun p => p = (r, N)) (fun r N hh => by cases hh; exact ⟨rfl, rfl⟩) (gq_of h)) ⟨rfl, rfl, rfl, rfl, True.intro⟩)
def fX8_undo_0 (M : gMem) : Option (Int32 × gMem) :=
  if gOb 7 (M.2.2 0) = true then gB0 (fX7_isTold (M.2.2 0) M) (fun r2 => if r2 = 0 then some ((-2 : Int32), M) else if gOb 7 (M.2.2 0) = true then if (M.1 ((M.2.2 0) + 10) 4) = 0 then some ((-5 : Int32), M) else if gOb 7 (M.2.2 0) = true then gB0 (fX0_takeBack ((M.2.2 0) + 10) M) (fun M6 => if gOb 7 (M6.2.2 0) = true then some ((M6.1 ((M6.2.2 0) + 10) 4), M6) else none) else none else none) else none
set_option maxRecDepth 100000 in
theorem CX8_undo_0 {G : gG} {d : Nat} {Z : Option Value → gMem → Prop} (hd : 1 ≤ d) (M : gMem) (P : Int32 × gMem → Prop) (k0 : ∀ (r : Int32) (N : gMem), P (r, N) → Z (some (.int r)) N) (h : gOKq (fX8_undo_0 M) P) : gGo G YX8_undo d Z 0 [some (.ref 0)] [] M := by
  unfold fX8_undo_0 at h
  refine go_rn 1 (pc' := 1) (L' := [some (.ref 0)]) (S' := [.ref 0]) (M' := M) okX8_undo rfl ?_
  refine go_ck okX8_undo rfl (gOb_c rfl) ?_
  obtain ⟨c1, h⟩ := gq_if h
  obtain ⟨r2, e3, h⟩ := gB0_ok h
  refine go_call1 ocX8_undo rfl rfl c1 rfl (SX7_isTold (M.2.2 0) M c1 e3) (Nat.lt_of_lt_of_le (by decide) hd) ?_
  refine go_br okX8_undo rfl (fun hp => ?_) (fun hp => ?_)
  · have h := gq_pos hp h
    refine go_rn 1 (pc' := 12) (L' := [some (.ref 0)]) (S' := [.int (-2 : Int32)]) (M' := M) okX8_undo rfl ?_
    exact go_iret (reX8_undo _ (by decide)) rfl (k0 (-2 : Int32) M h)
  · have h := gq_neg hp h
    refine go_rn 1 (pc' := 14) (L' := [some (.ref 0)]) (S' := [.ref 0]) (M' := M) okX8_undo rfl ?_
    refine go_ck okX8_undo rfl (gOb_c rfl) ?_
    obtain ⟨c4, h⟩ := gq_if h
    refine go_ck okX8_undo rfl c4 ?_
    refine go_ck okX8_undo rfl (gTa c4) ?_
    refine go_br okX8_undo rfl (fun hp => ?_) (fun hp => ?_)
    · have h := gq_pos hp h
      refine go_rn 1 (pc' := 28) (L' := [some (.ref 0)]) (S' := [.int (-5 : Int32)]) (M' := M) okX8_undo rfl ?_
      exact go_iret (reX8_undo _ (by decide)) rfl (k0 (-5 : Int32) M h)
    · have h := gq_neg hp h
      refine go_rn 1 (pc' := 30) (L' := [some (.ref 0)]) (S' := [.ref 0]) (M' := M) okX8_undo rfl ?_
      refine go_ck okX8_undo rfl (gOb_c rfl) ?_
      obtain ⟨c5, h⟩ := gq_if h
      refine go_ck okX8_undo rfl c5 ?_
      obtain ⟨M6, e7, h⟩ := gB0_ok h
      refine go_call1 ocX8_undo rfl rfl (gTa c5) rfl (SX0_takeBack ((M.2.2 0) + 10) M (gTa c5) e7) (Nat.lt_of_lt_of_le (by decide) hd) ?_
      refine go_rn 1 (pc' := 40) (L' := [some (.ref 0)]) (S' := [.ref 0]) (M' := M6) okX8_undo rfl ?_
      refine go_ck okX8_undo rfl (gOb_c rfl) ?_
      obtain ⟨c8, h⟩ := gq_if h
      refine go_ck okX8_undo rfl c8 ?_
      refine go_ck okX8_undo rfl (gTa c8) ?_
      exact go_iret (reX8_undo _ (by decide)) rfl (k0 (M6.1 ((M6.2.2 0) + 10) 4) M6 h)
def fX8_undo (M : gMem) : Option (Int32 × gMem) := fX8_undo_0 M
theorem SX8_undo {G : gG} (M : gMem) {r : Int32} {N : gMem} (h : fX8_undo M = some (r, N)) : gRun G YX8_undo 1 [.ref 0] M (fun r' N' => r' = some (.int r) ∧ N' = N) := gRun_in (by decide +kernel) rfl (fun d hd => go_wk (CX8_undo_0 hd M (fun p => p = (r, N)) (fun r N hh => by cases hh; exact ⟨rfl, rfl⟩) (gq_of h)) ⟨rfl, True.intro⟩)
def fX8_anew_0 (M : gMem) : Option (Int32 × gMem) :=
  if gOb 7 (M.2.2 0) = true then gB0 (fX7_isTold (M.2.2 0) M) (fun r2 => if r2 = 0 then some ((-2 : Int32), M) else if gOb 7 (M.2.2 0) = true then if gOb 7 (M.2.2 0) = true then some ((M.1 ((M.2.2 0) + 10) 4), (gSI M ((M.2.2 0) + 10) 4 (0 : Int32))) else none else none) else none
set_option maxRecDepth 100000 in
theorem CX8_anew_0 {G : gG} {d : Nat} {Z : Option Value → gMem → Prop} (hd : 1 ≤ d) (M : gMem) (P : Int32 × gMem → Prop) (k0 : ∀ (r : Int32) (N : gMem), P (r, N) → Z (some (.int r)) N) (h : gOKq (fX8_anew_0 M) P) : gGo G YX8_anew d Z 0 [some (.ref 0), none] [] M := by
  unfold fX8_anew_0 at h
  refine go_rn 1 (pc' := 1) (L' := [some (.ref 0), none]) (S' := [.ref 0]) (M' := M) okX8_anew rfl ?_
  refine go_ck okX8_anew rfl (gOb_c rfl) ?_
  obtain ⟨c1, h⟩ := gq_if h
  obtain ⟨r2, e3, h⟩ := gB0_ok h
  refine go_call1 ocX8_anew rfl rfl c1 rfl (SX7_isTold (M.2.2 0) M c1 e3) (Nat.lt_of_lt_of_le (by decide) hd) ?_
  refine go_br okX8_anew rfl (fun hp => ?_) (fun hp => ?_)
  · have h := gq_pos hp h
    refine go_rn 1 (pc' := 12) (L' := [some (.ref 0), none]) (S' := [.int (-2 : Int32)]) (M' := M) okX8_anew rfl ?_
    exact go_iret (reX8_anew _ (by decide)) rfl (k0 (-2 : Int32) M h)
  · have h := gq_neg hp h
    refine go_rn 1 (pc' := 14) (L' := [some (.ref 0), none]) (S' := [.ref 0]) (M' := M) okX8_anew rfl ?_
    refine go_ck okX8_anew rfl (gOb_c rfl) ?_
    obtain ⟨c4, h⟩ := gq_if h
    refine go_ck okX8_anew rfl c4 ?_
    refine go_ck okX8_anew rfl (gTa c4) ?_
    refine go_rn 2 (pc' := 25) (L' := [some (.ref 0), some (.int (M.1 ((M.2.2 0) + 10) 4))]) (S' := [.ref 0]) (M' := M) okX8_anew rfl ?_
    refine go_ck okX8_anew rfl (gOb_c rfl) ?_
    obtain ⟨c5, h⟩ := gq_if h
    refine go_ck okX8_anew rfl c5 ?_
    refine go_rn 1 (pc' := 32) (L' := [some (.ref 0), some (.int (M.1 ((M.2.2 0) + 10) 4))]) (S' := [.int (0 : Int32), .ref ((M.2.2 0) + 10)]) (M' := M) okX8_anew rfl ?_
    refine go_ck okX8_anew rfl (gTa c5) ?_
    refine go_rn 1 (pc' := 36) (L' := [some (.ref 0), some (.int (M.1 ((M.2.2 0) + 10) 4))]) (S' := [.int (M.1 ((M.2.2 0) + 10) 4)]) (M' := (gSI M ((M.2.2 0) + 10) 4 (0 : Int32))) okX8_anew rfl ?_
    exact go_iret (reX8_anew _ (by decide)) rfl (k0 (M.1 ((M.2.2 0) + 10) 4) (gSI M ((M.2.2 0) + 10) 4 (0 : Int32)) h)
def fX8_anew (M : gMem) : Option (Int32 × gMem) := fX8_anew_0 M
theorem SX8_anew {G : gG} (M : gMem) {r : Int32} {N : gMem} (h : fX8_anew M = some (r, N)) : gRun G YX8_anew 1 [.ref 0] M (fun r' N' => r' = some (.int r) ∧ N' = N) := gRun_in (by decide +kernel) rfl (fun d hd => go_wk (CX8_anew_0 hd M (fun p => p = (r, N)) (fun r N hh => by cases hh; exact ⟨rfl, rfl⟩) (gq_of h)) ⟨rfl, True.intro⟩)
def fX8_drawFalseJoins_39 (x2 : Int32) (x3 : Int64) (x5 : Int32) (s0 : Int64) (M : gMem) : Option (Sum (Int32 × Int64 × Int32) (Int32)) :=
  if gOb 7 (M.2.2 0) = true then if 0 ≤ (lg_cmp (s0 - s0 / (10 : Int64) * (10 : Int64)) (Int32.toInt64 (M.1 (M.2.2 0) 4))) then some (.inl (x2, x3, (x5 + 1))) else some (.inl ((x2 ||| ((1 : Int32) <<< (x5 &&& 31))), x3, (x5 + 1))) else none
set_option maxRecDepth 100000 in
theorem CX8_drawFalseJoins_39 {G : gG} {d : Nat} {Z : Option Value → gMem → Prop} (hd : 0 ≤ d) (x2 : Int32) (x3 : Int64) (x5 : Int32) (s0 : Int64) (M : gMem) (P : Sum (Int32 × Int64 × Int32) (Int32) → Prop) (k0 : ∀ (r : Int32), P (.inr r) → Z (some (.int r)) M) (k1 : ∀ (x2 : Int32) (x3 : Int64) (x5 : Int32), P (.inl (x2, x3, x5)) → gGo G YX8_drawFalseJoins d Z 8 [some (.ref 0), none, some (.int x2), some (.long x3), none, some (.int x5)] [] M) (h : gOKq (fX8_drawFalseJoins_39 x2 x3 x5 s0 M) P) : gGo G YX8_drawFalseJoins d Z 39 [some (.ref 0), none, some (.int x2), some (.long x3), none, some (.int x5)] [.long s0] M := by
  unfold fX8_drawFalseJoins_39 at h
  refine go_rn 3 (pc' := 44) (L' := [some (.ref 0), none, some (.int x2), some (.long x3), none, some (.int x5)]) (S' := [.ref 0, .long (s0 - s0 / (10 : Int64) * (10 : Int64))]) (M' := M) okX8_drawFalseJoins rfl ?_
  refine go_ck okX8_drawFalseJoins rfl (gOb_c rfl) ?_
  obtain ⟨c1, h⟩ := gq_if h
  refine go_ck okX8_drawFalseJoins rfl c1 ?_
  refine go_rn 2 (pc' := 52) (L' := [some (.ref 0), none, some (.int x2), some (.long x3), none, some (.int x5)]) (S' := [.int (lg_cmp (s0 - s0 / (10 : Int64) * (10 : Int64)) (Int32.toInt64 (M.1 (M.2.2 0) 4)))]) (M' := M) okX8_drawFalseJoins rfl ?_
  refine go_br okX8_drawFalseJoins rfl (fun hp => ?_) (fun hp => ?_)
  · have h := gq_pos hp h
    refine go_rn 2 (pc' := 8) (L' := [some (.ref 0), none, some (.int x2), some (.long x3), none, some (.int (x5 + 1))]) (S' := []) (M' := M) okX8_drawFalseJoins rfl ?_
    exact go_wk (k1 (x2) (x3) ((x5 + 1)) h) ⟨rfl, rfl, rfl, rfl, True.intro⟩
  · have h := gq_neg hp h
    refine go_rn 8 (pc' := 8) (L' := [some (.ref 0), none, some (.int (x2 ||| ((1 : Int32) <<< (x5 &&& 31)))), some (.long x3), none, some (.int (x5 + 1))]) (S' := []) (M' := M) okX8_drawFalseJoins rfl ?_
    exact go_wk (k1 ((x2 ||| ((1 : Int32) <<< (x5 &&& 31)))) (x3) ((x5 + 1)) h) ⟨rfl, rfl, rfl, rfl, True.intro⟩
def fX8_drawFalseJoins_8 (x2 : Int32) (x3 : Int64) (x5 : Int32) (M : gMem) : Option (Sum (Int32 × Int64 × Int32) (Int32)) :=
  if gOb 7 (M.2.2 0) = true then if (M.1 (M.2.2 0) 6) ≤ x5 then some (.inr x2) else fX8_drawFalseJoins_39 x2 ((((1103515245 : Int64) * x3) + (12345 : Int64)) - (((1103515245 : Int64) * x3) + (12345 : Int64)) / (2147483648 : Int64) * (2147483648 : Int64)) x5 (((((1103515245 : Int64) * x3) + (12345 : Int64)) - (((1103515245 : Int64) * x3) + (12345 : Int64)) / (2147483648 : Int64) * (2147483648 : Int64)) / (65536 : Int64)) M else none
set_option maxRecDepth 100000 in
theorem CX8_drawFalseJoins_8 {G : gG} {d : Nat} {Z : Option Value → gMem → Prop} (hd : 0 ≤ d) (x2 : Int32) (x3 : Int64) (x5 : Int32) (M : gMem) (P : Sum (Int32 × Int64 × Int32) (Int32) → Prop) (k0 : ∀ (r : Int32), P (.inr r) → Z (some (.int r)) M) (k1 : ∀ (x2 : Int32) (x3 : Int64) (x5 : Int32), P (.inl (x2, x3, x5)) → gGo G YX8_drawFalseJoins d Z 8 [some (.ref 0), none, some (.int x2), some (.long x3), none, some (.int x5)] [] M) (h : gOKq (fX8_drawFalseJoins_8 x2 x3 x5 M) P) : gGo G YX8_drawFalseJoins d Z 8 [some (.ref 0), none, some (.int x2), some (.long x3), none, some (.int x5)] [] M := by
  unfold fX8_drawFalseJoins_8 at h
  refine go_rn 2 (pc' := 11) (L' := [some (.ref 0), none, some (.int x2), some (.long x3), none, some (.int x5)]) (S' := [.ref 0, .int x5]) (M' := M) okX8_drawFalseJoins rfl ?_
  refine go_ck okX8_drawFalseJoins rfl (gOb_c rfl) ?_
  obtain ⟨c1, h⟩ := gq_if h
  refine go_ck okX8_drawFalseJoins rfl c1 ?_
  refine go_br okX8_drawFalseJoins rfl (fun hp => ?_) (fun hp => ?_)
  · have h := gq_pos hp h
    refine go_rn 1 (pc' := 69) (L' := [some (.ref 0), none, some (.int x2), some (.long x3), none, some (.int x5)]) (S' := [.int x2]) (M' := M) okX8_drawFalseJoins rfl ?_
    exact go_iret (reX8_drawFalseJoins _ (by decide)) rfl (k0 x2 h)
  · have h := gq_neg hp h
    refine go_rn 11 (pc' := 39) (L' := [some (.ref 0), none, some (.int x2), some (.long ((((1103515245 : Int64) * x3) + (12345 : Int64)) - (((1103515245 : Int64) * x3) + (12345 : Int64)) / (2147483648 : Int64) * (2147483648 : Int64))), none, some (.int x5)]) (S' := [.long (((((1103515245 : Int64) * x3) + (12345 : Int64)) - (((1103515245 : Int64) * x3) + (12345 : Int64)) / (2147483648 : Int64) * (2147483648 : Int64)) / (65536 : Int64))]) (M' := M) okX8_drawFalseJoins rfl ?_
    exact go_wk (CX8_drawFalseJoins_39 hd x2 ((((1103515245 : Int64) * x3) + (12345 : Int64)) - (((1103515245 : Int64) * x3) + (12345 : Int64)) / (2147483648 : Int64) * (2147483648 : Int64)) x5 (((((1103515245 : Int64) * x3) + (12345 : Int64)) - (((1103515245 : Int64) * x3) + (12345 : Int64)) / (2147483648 : Int64) * (2147483648 : Int64)) / (65536 : Int64)) M P k0 k1 h) ⟨rfl, rfl, rfl, rfl, True.intro⟩
def fX8_drawFalseJoins_8h (x2 : Int32) (x3 : Int64) (x5 : Int32) (M : gMem) : Option (Int32) :=
  gLp (fun s : Int32 × Int64 × Int32 => fX8_drawFalseJoins_8 (s.1) (s.2.1) (s.2.2) M) gFu (x2, x3, x5)
set_option maxRecDepth 100000 in
theorem CX8_drawFalseJoins_8h {G : gG} {d : Nat} {Z : Option Value → gMem → Prop} (hd : 0 ≤ d) (x2 : Int32) (x3 : Int64) (x5 : Int32) (M : gMem) (P : Int32 → Prop) (k0 : ∀ (r : Int32), P r → Z (some (.int r)) M) (h : gOKq (fX8_drawFalseJoins_8h x2 x3 x5 M) P) : gGo G YX8_drawFalseJoins d Z 8 [some (.ref 0), none, some (.int x2), some (.long x3), none, some (.int x5)] [] M :=
  gLp_go (K := fun s : Int32 × Int64 × Int32 => gGo G YX8_drawFalseJoins d Z 8 [some (.ref 0), none, some (.int s.1), some (.long s.2.1), none, some (.int s.2.2)] [] M) (P := P) (fun s hs => CX8_drawFalseJoins_8 hd (s.1) (s.2.1) (s.2.2) M (Sum.elim (fun s : Int32 × Int64 × Int32 => gGo G YX8_drawFalseJoins d Z 8 [some (.ref 0), none, some (.int s.1), some (.long s.2.1), none, some (.int s.2.2)] [] M) P) k0 (fun x2 x3 x5 hh => hh) hs) gFu (x2, x3, x5) h
def fX8_drawFalseJoins_0 (x1 : Int32) (M : gMem) : Option (Int32) :=
  fX8_drawFalseJoins_8h (0 : Int32) (Int32.toInt64 x1) (0 : Int32) M
set_option maxRecDepth 100000 in
theorem CX8_drawFalseJoins_0 {G : gG} {d : Nat} {Z : Option Value → gMem → Prop} (hd : 0 ≤ d) (x1 : Int32) (M : gMem) (P : Int32 → Prop) (k0 : ∀ (r : Int32), P r → Z (some (.int r)) M) (h : gOKq (fX8_drawFalseJoins_0 x1 M) P) : gGo G YX8_drawFalseJoins d Z 0 [some (.ref 0), some (.int x1), none, none, none, none] [] M := by
  unfold fX8_drawFalseJoins_0 at h
  refine go_rn 7 (pc' := 8) (L' := [some (.ref 0), some (.int x1), some (.int (0 : Int32)), some (.long (Int32.toInt64 x1)), none, some (.int (0 : Int32))]) (S' := []) (M' := M) okX8_drawFalseJoins rfl ?_
  exact go_wk (CX8_drawFalseJoins_8h hd (0 : Int32) (Int32.toInt64 x1) (0 : Int32) M P k0 h) ⟨rfl, rfl, rfl, rfl, True.intro⟩
def fX8_drawFalseJoins (a1 : Int32) (M : gMem) : Option (Int32) := fX8_drawFalseJoins_0 a1 M
theorem SX8_drawFalseJoins {G : gG} (a1 : Int32) (M : gMem) {r : Int32} (h : fX8_drawFalseJoins a1 M = some r) : gRun G YX8_drawFalseJoins 0 [.ref 0, .int a1] M (fun r' N' => r' = some (.int r) ∧ N' = M) := gRun_in (by decide +kernel) rfl (fun d hd => go_wk (CX8_drawFalseJoins_0 hd a1 M (fun p => p = r) (fun r hh => ⟨congrArg (fun z => some (Value.int z)) hh, rfl⟩) (gq_of h)) ⟨rfl, rfl, True.intro⟩)
def fX8_isSeed_0 (x0 : Int32) (M : gMem) : Option (Int32) :=
  if x0 < 0 then some (0 : Int32) else if (2000000000 : Int32) < x0 then some (0 : Int32) else some (1 : Int32)
set_option maxRecDepth 100000 in
theorem CX8_isSeed_0 {G : gG} {d : Nat} {Z : Option Value → gMem → Prop} (hd : 0 ≤ d) (x0 : Int32) (M : gMem) (P : Int32 → Prop) (k0 : ∀ (r : Int32), P r → Z (some (.int r)) M) (h : gOKq (fX8_isSeed_0 x0 M) P) : gGo G YX8_isSeed d Z 0 [some (.int x0)] [] M := by
  unfold fX8_isSeed_0 at h
  refine go_rn 1 (pc' := 1) (L' := [some (.int x0)]) (S' := [.int x0]) (M' := M) okX8_isSeed rfl ?_
  refine go_br okX8_isSeed rfl (fun hp => ?_) (fun hp => ?_)
  · have h := gq_pos hp h
    refine go_rn 1 (pc' := 16) (L' := [some (.int x0)]) (S' := [.int (0 : Int32)]) (M' := M) okX8_isSeed rfl ?_
    exact go_zret (reX8_isSeed _ (by decide)) rfl (Or.inl rfl) (k0 (0 : Int32) h)
  · have h := gq_neg hp h
    refine go_rn 2 (pc' := 8) (L' := [some (.int x0)]) (S' := [.int (2000000000 : Int32), .int x0]) (M' := M) okX8_isSeed rfl ?_
    refine go_br okX8_isSeed rfl (fun hp => ?_) (fun hp => ?_)
    · have h := gq_pos hp h
      refine go_rn 1 (pc' := 16) (L' := [some (.int x0)]) (S' := [.int (0 : Int32)]) (M' := M) okX8_isSeed rfl ?_
      exact go_zret (reX8_isSeed _ (by decide)) rfl (Or.inl rfl) (k0 (0 : Int32) h)
    · have h := gq_neg hp h
      refine go_rn 2 (pc' := 16) (L' := [some (.int x0)]) (S' := [.int (1 : Int32)]) (M' := M) okX8_isSeed rfl ?_
      exact go_zret (reX8_isSeed _ (by decide)) rfl (Or.inr rfl) (k0 (1 : Int32) h)
def fX8_isSeed (a0 : Int32) (M : gMem) : Option (Int32) := fX8_isSeed_0 a0 M
theorem SX8_isSeed {G : gG} (a0 : Int32) (M : gMem) {r : Int32} (h : fX8_isSeed a0 M = some r) : gRun G YX8_isSeed 0 [.int a0] M (fun r' N' => r' = some (.int r) ∧ N' = M) := gRun_in (by decide +kernel) rfl (fun d hd => go_wk (CX8_isSeed_0 hd a0 M (fun p => p = r) (fun r hh => ⟨congrArg (fun z => some (Value.int z)) hh, rfl⟩) (gq_of h)) ⟨rfl, True.intro⟩)
def fX8_outAtLast_20 (M : gMem) : Option (Int32 × gMem) :=
  if gOb 7 (M.2.2 0) = true then if gOb 7 (M.2.2 0) = true then gB0 (fX2_live (M.2.2 0) (M.1 (M.2.2 0) 1) M) (fun M3 => if gOb 7 (M3.2.2 0) = true then if gOb 7 (M3.2.2 0) = true then gB0 (fX7_hasYear (M3.2.2 0) ((M3.1 (M3.2.2 0) 1) - (1 : Int32)) M3) (fun r7 => if r7 = 0 then some ((0 : Int32), M3) else if gIx 1 20 ((M3.1 (M3.2.2 0) 1) - (1 : Int32)) = true then some ((M3.1 20 (Int32.toNatClampNeg ((M3.1 (M3.2.2 0) 1) - (1 : Int32)))), M3) else none) else none else none) else none else none
set_option maxRecDepth 100000 in
theorem CX8_outAtLast_20 {G : gG} {d : Nat} {Z : Option Value → gMem → Prop} (hd : 5 ≤ d) (M : gMem) (P : Int32 × gMem → Prop) (k0 : ∀ (r : Int32) (N : gMem), P (r, N) → Z (some (.int r)) N) (h : gOKq (fX8_outAtLast_20 M) P) : gGo G YX8_outAtLast d Z 20 [some (.ref 0), none, none] [.ref 0, .ref 14] M := by
  unfold fX8_outAtLast_20 at h
  refine go_ck okX8_outAtLast rfl (gOb_c rfl) ?_
  obtain ⟨c1, h⟩ := gq_if h
  refine go_rn 1 (pc' := 24) (L' := [some (.ref 0), none, none]) (S' := [.ref 0, .ref (M.2.2 0), .ref 14]) (M' := M) okX8_outAtLast rfl ?_
  refine go_ck okX8_outAtLast rfl (gOb_c rfl) ?_
  obtain ⟨c2, h⟩ := gq_if h
  refine go_ck okX8_outAtLast rfl c2 ?_
  obtain ⟨M3, e4, h⟩ := gB0_ok h
  refine go_call1 ocX8_outAtLast rfl rfl (gOb_c rfl) rfl (SX2_live (M.2.2 0) (M.1 (M.2.2 0) 1) M c1 e4) (Nat.lt_of_lt_of_le (by decide) hd) ?_
  refine go_rn 1 (pc' := 34) (L' := [some (.ref 0), none, none]) (S' := [.ref 0]) (M' := M3) okX8_outAtLast rfl ?_
  refine go_ck okX8_outAtLast rfl (gOb_c rfl) ?_
  obtain ⟨c5, h⟩ := gq_if h
  refine go_ck okX8_outAtLast rfl c5 ?_
  refine go_rn 4 (pc' := 44) (L' := [some (.ref 0), none, some (.int ((M3.1 (M3.2.2 0) 1) - (1 : Int32)))]) (S' := [.ref 0]) (M' := M3) okX8_outAtLast rfl ?_
  refine go_ck okX8_outAtLast rfl (gOb_c rfl) ?_
  obtain ⟨c6, h⟩ := gq_if h
  refine go_rn 1 (pc' := 48) (L' := [some (.ref 0), none, some (.int ((M3.1 (M3.2.2 0) 1) - (1 : Int32)))]) (S' := [.int ((M3.1 (M3.2.2 0) 1) - (1 : Int32)), .ref (M3.2.2 0)]) (M' := M3) okX8_outAtLast rfl ?_
  obtain ⟨r7, e8, h⟩ := gB0_ok h
  refine go_call1 ocX8_outAtLast rfl rfl c6 rfl (SX7_hasYear (M3.2.2 0) ((M3.1 (M3.2.2 0) 1) - (1 : Int32)) M3 c6 e8) (Nat.lt_of_lt_of_le (by decide) hd) ?_
  refine go_br okX8_outAtLast rfl (fun hp => ?_) (fun hp => ?_)
  · have h := gq_pos hp h
    refine go_rn 1 (pc' := 67) (L' := [some (.ref 0), none, some (.int ((M3.1 (M3.2.2 0) 1) - (1 : Int32)))]) (S' := [.int (0 : Int32)]) (M' := M3) okX8_outAtLast rfl ?_
    exact go_iret (reX8_outAtLast _ (by decide)) rfl (k0 (0 : Int32) M3 h)
  · have h := gq_neg hp h
    refine go_rn 1 (pc' := 55) (L' := [some (.ref 0), none, some (.int ((M3.1 (M3.2.2 0) 1) - (1 : Int32)))]) (S' := [.ref 0]) (M' := M3) okX8_outAtLast rfl ?_
    refine go_ck okX8_outAtLast rfl (gOb_c rfl) ?_
    refine go_ck okX8_outAtLast rfl (gOb_c rfl) ?_
    refine go_rn 1 (pc' := 62) (L' := [some (.ref 0), none, some (.int ((M3.1 (M3.2.2 0) 1) - (1 : Int32)))]) (S' := [.int ((M3.1 (M3.2.2 0) 1) - (1 : Int32)), .ref 20]) (M' := M3) okX8_outAtLast rfl ?_
    obtain ⟨c9, h⟩ := gq_if h
    refine go_ck okX8_outAtLast rfl c9 ?_
    refine go_rn 1 (pc' := 67) (L' := [some (.ref 0), none, some (.int ((M3.1 (M3.2.2 0) 1) - (1 : Int32)))]) (S' := [.int (M3.1 20 (Int32.toNatClampNeg ((M3.1 (M3.2.2 0) 1) - (1 : Int32))))]) (M' := M3) okX8_outAtLast rfl ?_
    exact go_iret (reX8_outAtLast _ (by decide)) rfl (k0 (M3.1 20 (Int32.toNatClampNeg ((M3.1 (M3.2.2 0) 1) - (1 : Int32)))) M3 h)
def fX8_outAtLast_0 (x1 : Int32) (M : gMem) : Option (Int32 × gMem) :=
  gB0 (fX2_supposeNothing M) (fun M1 => fX8_outAtLast_20 (gSI M1 14 0 x1))
set_option maxRecDepth 100000 in
theorem CX8_outAtLast_0 {G : gG} {d : Nat} {Z : Option Value → gMem → Prop} (hd : 5 ≤ d) (x1 : Int32) (M : gMem) (P : Int32 × gMem → Prop) (k0 : ∀ (r : Int32) (N : gMem), P (r, N) → Z (some (.int r)) N) (h : gOKq (fX8_outAtLast_0 x1 M) P) : gGo G YX8_outAtLast d Z 0 [some (.ref 0), some (.int x1), none] [] M := by
  unfold fX8_outAtLast_0 at h
  refine go_rn 1 (pc' := 1) (L' := [some (.ref 0), some (.int x1), none]) (S' := [.ref 0]) (M' := M) okX8_outAtLast rfl ?_
  refine go_ck okX8_outAtLast rfl (gOb_c rfl) ?_
  obtain ⟨M1, e2, h⟩ := gB0_ok h
  refine go_call1 ocX8_outAtLast rfl rfl (gOb_c rfl) rfl (SX2_supposeNothing M e2) (Nat.lt_of_lt_of_le (by decide) hd) ?_
  refine go_rn 1 (pc' := 8) (L' := [some (.ref 0), some (.int x1), none]) (S' := [.ref 0]) (M' := M1) okX8_outAtLast rfl ?_
  refine go_ck okX8_outAtLast rfl (gOb_c rfl) ?_
  refine go_rn 1 (pc' := 12) (L' := [some (.ref 0), some (.int x1), none]) (S' := [.int x1, .ref 14]) (M' := M1) okX8_outAtLast rfl ?_
  refine go_ck okX8_outAtLast rfl (gOb_c rfl) ?_
  refine go_rn 1 (pc' := 16) (L' := [some (.ref 0), some (.int x1), none]) (S' := [.ref 0]) (M' := (gSI M1 14 0 x1)) okX8_outAtLast rfl ?_
  refine go_ck okX8_outAtLast rfl (gOb_c rfl) ?_
  refine go_rn 1 (pc' := 20) (L' := [some (.ref 0), some (.int x1), none]) (S' := [.ref 0, .ref 14]) (M' := (gSI M1 14 0 x1)) okX8_outAtLast rfl ?_
  exact go_wk (CX8_outAtLast_20 hd (gSI M1 14 0 x1) P k0 h) ⟨rfl, True.intro⟩
def fX8_outAtLast (a1 : Int32) (M : gMem) : Option (Int32 × gMem) := fX8_outAtLast_0 a1 M
theorem SX8_outAtLast {G : gG} (a1 : Int32) (M : gMem) {r : Int32} {N : gMem} (h : fX8_outAtLast a1 M = some (r, N)) : gRun G YX8_outAtLast 5 [.ref 0, .int a1] M (fun r' N' => r' = some (.int r) ∧ N' = N) := gRun_in (by decide +kernel) rfl (fun d hd => go_wk (CX8_outAtLast_0 hd a1 M (fun p => p = (r, N)) (fun r N hh => by cases hh; exact ⟨rfl, rfl⟩) (gq_of h)) ⟨rfl, rfl, True.intro⟩)
def fX8_drawn_0 (x1 : Int32) (x2 : Int32) (M : gMem) : Option (Int32 × gMem) :=
  if gOb 7 (M.2.2 0) = true then gB0 (fX7_isTold (M.2.2 0) M) (fun r2 => if r2 = 0 then some ((-2 : Int32), M) else gB0 (fX8_isSeed x1 M) (fun r4 => if r4 = 0 then some ((-2 : Int32), M) else gB0 (fX8_isEither x2 M) (fun r6 => if r6 = 0 then some ((-2 : Int32), M) else gB0 (fX8_drawFalseJoins x1 M) (fun r8 => if x2 = (1 : Int32) then some (r8, M) else gBp (fX8_outAtLast r8 M) (fun r10 M11 => some (r10, M11)))))) else none
set_option maxRecDepth 100000 in
theorem CX8_drawn_0 {G : gG} {d : Nat} {Z : Option Value → gMem → Prop} (hd : 6 ≤ d) (x1 : Int32) (x2 : Int32) (M : gMem) (P : Int32 × gMem → Prop) (k0 : ∀ (r : Int32) (N : gMem), P (r, N) → Z (some (.int r)) N) (h : gOKq (fX8_drawn_0 x1 x2 M) P) : gGo G YX8_drawn d Z 0 [some (.ref 0), some (.int x1), some (.int x2), none] [] M := by
  unfold fX8_drawn_0 at h
  refine go_rn 1 (pc' := 1) (L' := [some (.ref 0), some (.int x1), some (.int x2), none]) (S' := [.ref 0]) (M' := M) okX8_drawn rfl ?_
  refine go_ck okX8_drawn rfl (gOb_c rfl) ?_
  obtain ⟨c1, h⟩ := gq_if h
  obtain ⟨r2, e3, h⟩ := gB0_ok h
  refine go_call1 ocX8_drawn rfl rfl c1 rfl (SX7_isTold (M.2.2 0) M c1 e3) (Nat.lt_of_lt_of_le (by decide) hd) ?_
  refine go_br okX8_drawn rfl (fun hp => ?_) (fun hp => ?_)
  · have h := gq_pos hp h
    refine go_rn 1 (pc' := 26) (L' := [some (.ref 0), some (.int x1), some (.int x2), none]) (S' := [.int (-2 : Int32)]) (M' := M) okX8_drawn rfl ?_
    exact go_iret (reX8_drawn _ (by decide)) rfl (k0 (-2 : Int32) M h)
  · have h := gq_neg hp h
    refine go_rn 1 (pc' := 11) (L' := [some (.ref 0), some (.int x1), some (.int x2), none]) (S' := [.int x1]) (M' := M) okX8_drawn rfl ?_
    obtain ⟨r4, e5, h⟩ := gB0_ok h
    refine go_call1 ocX8_drawn rfl rfl rfl rfl (SX8_isSeed x1 M e5) (Nat.lt_of_lt_of_le (by decide) hd) ?_
    refine go_br okX8_drawn rfl (fun hp => ?_) (fun hp => ?_)
    · have h := gq_pos hp h
      refine go_rn 1 (pc' := 26) (L' := [some (.ref 0), some (.int x1), some (.int x2), none]) (S' := [.int (-2 : Int32)]) (M' := M) okX8_drawn rfl ?_
      exact go_iret (reX8_drawn _ (by decide)) rfl (k0 (-2 : Int32) M h)
    · have h := gq_neg hp h
      refine go_rn 1 (pc' := 18) (L' := [some (.ref 0), some (.int x1), some (.int x2), none]) (S' := [.int x2]) (M' := M) okX8_drawn rfl ?_
      obtain ⟨r6, e7, h⟩ := gB0_ok h
      refine go_call1 ocX8_drawn rfl rfl rfl rfl (SX8_isEither x2 M e7) (Nat.lt_of_lt_of_le (by decide) hd) ?_
      refine go_br okX8_drawn rfl (fun hp => ?_) (fun hp => ?_)
      · have h := gq_pos hp h
        refine go_rn 1 (pc' := 26) (L' := [some (.ref 0), some (.int x1), some (.int x2), none]) (S' := [.int (-2 : Int32)]) (M' := M) okX8_drawn rfl ?_
        exact go_iret (reX8_drawn _ (by decide)) rfl (k0 (-2 : Int32) M h)
      · have h := gq_neg hp h
        refine go_rn 2 (pc' := 29) (L' := [some (.ref 0), some (.int x1), some (.int x2), none]) (S' := [.int x1, .ref 0]) (M' := M) okX8_drawn rfl ?_
        obtain ⟨r8, e9, h⟩ := gB0_ok h
        refine go_call1 ocX8_drawn rfl rfl (gOb_c rfl) rfl (SX8_drawFalseJoins x1 M e9) (Nat.lt_of_lt_of_le (by decide) hd) ?_
        refine go_rn 3 (pc' := 35) (L' := [some (.ref 0), some (.int x1), some (.int x2), some (.int r8)]) (S' := [.int (1 : Int32), .int x2]) (M' := M) okX8_drawn rfl ?_
        refine go_br okX8_drawn rfl (fun hp => ?_) (fun hp => ?_)
        · have h := gq_pos hp h
          refine go_rn 2 (pc' := 47) (L' := [some (.ref 0), some (.int x1), some (.int x2), some (.int r8)]) (S' := [.int r8]) (M' := M) okX8_drawn rfl ?_
          exact go_iret (reX8_drawn _ (by decide)) rfl (k0 r8 M h)
        · have h := gq_neg hp h
          refine go_rn 2 (pc' := 44) (L' := [some (.ref 0), some (.int x1), some (.int x2), some (.int r8)]) (S' := [.int r8, .ref 0]) (M' := M) okX8_drawn rfl ?_
          obtain ⟨r10, M11, e12, h⟩ := gBp_ok h
          refine go_call1 ocX8_drawn rfl rfl (gOb_c rfl) rfl (SX8_outAtLast r8 M e12) (Nat.lt_of_lt_of_le (by decide) hd) ?_
          exact go_iret (reX8_drawn _ (by decide)) rfl (k0 r10 M11 h)
def fX8_drawn (a1 : Int32) (a2 : Int32) (M : gMem) : Option (Int32 × gMem) := fX8_drawn_0 a1 a2 M
theorem SX8_drawn {G : gG} (a1 : Int32) (a2 : Int32) (M : gMem) {r : Int32} {N : gMem} (h : fX8_drawn a1 a2 M = some (r, N)) : gRun G YX8_drawn 6 [.ref 0, .int a1, .int a2] M (fun r' N' => r' = some (.int r) ∧ N' = N) := gRun_in (by decide +kernel) rfl (fun d hd => go_wk (CX8_drawn_0 hd a1 a2 M (fun p => p = (r, N)) (fun r N hh => by cases hh; exact ⟨rfl, rfl⟩) (gq_of h)) ⟨rfl, rfl, rfl, True.intro⟩)
def fX8_luck_38 (x1 : Int32) (x2 : Int32) (x3 : Int32) (x4 : Int32) (x5 : Int32) (M : gMem) : Option (Sum (Int32 × Int32 × gMem) (Int32 × gMem)) :=
  if x2 ≤ x5 then some (.inr (x4, M)) else gB0 (fX8_drawFalseJoins (x1 + x5) M) (fun r1 => gBp (fX8_outAtLast r1 M) (fun r3 M4 => gB0 (fX8_has r3 x3 M4) (fun r6 => if r6 = 0 then some (.inl (x4, (x5 + 1), M4)) else some (.inl ((x4 + 1), (x5 + 1), M4)))))
set_option maxRecDepth 100000 in
theorem CX8_luck_38 {G : gG} {d : Nat} {Z : Option Value → gMem → Prop} (hd : 6 ≤ d) (x1 : Int32) (x2 : Int32) (x3 : Int32) (x4 : Int32) (x5 : Int32) (M : gMem) (P : Sum (Int32 × Int32 × gMem) (Int32 × gMem) → Prop) (k0 : ∀ (r : Int32) (N : gMem), P (.inr (r, N)) → Z (some (.int r)) N) (k1 : ∀ (x4 : Int32) (x5 : Int32) (M : gMem), P (.inl (x4, x5, M)) → gGo G YX8_luck d Z 38 [some (.ref 0), some (.int x1), some (.int x2), some (.int x3), some (.int x4), some (.int x5)] [] M) (h : gOKq (fX8_luck_38 x1 x2 x3 x4 x5 M) P) : gGo G YX8_luck d Z 38 [some (.ref 0), some (.int x1), some (.int x2), some (.int x3), some (.int x4), some (.int x5)] [] M := by
  unfold fX8_luck_38 at h
  refine go_rn 2 (pc' := 41) (L' := [some (.ref 0), some (.int x1), some (.int x2), some (.int x3), some (.int x4), some (.int x5)]) (S' := [.int x2, .int x5]) (M' := M) okX8_luck rfl ?_
  refine go_br okX8_luck rfl (fun hp => ?_) (fun hp => ?_)
  · have h := gq_pos hp h
    refine go_rn 1 (pc' := 74) (L' := [some (.ref 0), some (.int x1), some (.int x2), some (.int x3), some (.int x4), some (.int x5)]) (S' := [.int x4]) (M' := M) okX8_luck rfl ?_
    exact go_iret (reX8_luck _ (by decide)) rfl (k0 x4 M h)
  · have h := gq_neg hp h
    refine go_rn 5 (pc' := 50) (L' := [some (.ref 0), some (.int x1), some (.int x2), some (.int x3), some (.int x4), some (.int x5)]) (S' := [.int (x1 + x5), .ref 0, .ref 0]) (M' := M) okX8_luck rfl ?_
    obtain ⟨r1, e2, h⟩ := gB0_ok h
    refine go_call1 ocX8_luck rfl rfl (gOb_c rfl) rfl (SX8_drawFalseJoins (x1 + x5) M e2) (Nat.lt_of_lt_of_le (by decide) hd) ?_
    obtain ⟨r3, M4, e5, h⟩ := gBp_ok h
    refine go_call1 ocX8_luck rfl rfl (gOb_c rfl) rfl (SX8_outAtLast r1 M e5) (Nat.lt_of_lt_of_le (by decide) hd) ?_
    refine go_rn 1 (pc' := 57) (L' := [some (.ref 0), some (.int x1), some (.int x2), some (.int x3), some (.int x4), some (.int x5)]) (S' := [.int x3, .int r3]) (M' := M4) okX8_luck rfl ?_
    obtain ⟨r6, e7, h⟩ := gB0_ok h
    refine go_call1 ocX8_luck rfl rfl rfl rfl (SX8_has r3 x3 M4 e7) (Nat.lt_of_lt_of_le (by decide) hd) ?_
    refine go_br okX8_luck rfl (fun hp => ?_) (fun hp => ?_)
    · have h := gq_pos hp h
      refine go_rn 2 (pc' := 38) (L' := [some (.ref 0), some (.int x1), some (.int x2), some (.int x3), some (.int x4), some (.int (x5 + 1))]) (S' := []) (M' := M4) okX8_luck rfl ?_
      exact go_wk (k1 (x4) ((x5 + 1)) M4 h) ⟨rfl, rfl, rfl, rfl, rfl, rfl, True.intro⟩
    · have h := gq_neg hp h
      refine go_rn 3 (pc' := 38) (L' := [some (.ref 0), some (.int x1), some (.int x2), some (.int x3), some (.int (x4 + 1)), some (.int (x5 + 1))]) (S' := []) (M' := M4) okX8_luck rfl ?_
      exact go_wk (k1 ((x4 + 1)) ((x5 + 1)) M4 h) ⟨rfl, rfl, rfl, rfl, rfl, rfl, True.intro⟩
def fX8_luck_38h (x1 : Int32) (x2 : Int32) (x3 : Int32) (x4 : Int32) (x5 : Int32) (M : gMem) : Option (Int32 × gMem) :=
  gLp (fun s : Int32 × Int32 × gMem => fX8_luck_38 x1 x2 x3 (s.1) (s.2.1) s.2.2) gFu (x4, x5, M)
set_option maxRecDepth 100000 in
theorem CX8_luck_38h {G : gG} {d : Nat} {Z : Option Value → gMem → Prop} (hd : 6 ≤ d) (x1 : Int32) (x2 : Int32) (x3 : Int32) (x4 : Int32) (x5 : Int32) (M : gMem) (P : Int32 × gMem → Prop) (k0 : ∀ (r : Int32) (N : gMem), P (r, N) → Z (some (.int r)) N) (h : gOKq (fX8_luck_38h x1 x2 x3 x4 x5 M) P) : gGo G YX8_luck d Z 38 [some (.ref 0), some (.int x1), some (.int x2), some (.int x3), some (.int x4), some (.int x5)] [] M :=
  gLp_go (K := fun s : Int32 × Int32 × gMem => gGo G YX8_luck d Z 38 [some (.ref 0), some (.int x1), some (.int x2), some (.int x3), some (.int s.1), some (.int s.2.1)] [] s.2.2) (P := P) (fun s hs => CX8_luck_38 hd (x1) (x2) (x3) (s.1) (s.2.1) (s.2.2) (Sum.elim (fun s : Int32 × Int32 × gMem => gGo G YX8_luck d Z 38 [some (.ref 0), some (.int x1), some (.int x2), some (.int x3), some (.int s.1), some (.int s.2.1)] [] s.2.2) P) k0 (fun x4 x5 M hh => hh) hs) gFu (x4, x5, M) h
def fX8_luck_0 (x1 : Int32) (x2 : Int32) (x3 : Int32) (M : gMem) : Option (Int32 × gMem) :=
  if gOb 7 (M.2.2 0) = true then gB0 (fX7_hasPartner (M.2.2 0) x3 M) (fun r2 => if r2 = 0 then some ((-2 : Int32), M) else gB0 (fX8_isSeed x1 M) (fun r4 => if r4 = 0 then some ((-2 : Int32), M) else if x2 < (1 : Int32) then some ((-2 : Int32), M) else if x2 ≤ (20 : Int32) then fX8_luck_38h x1 x2 x3 (0 : Int32) (0 : Int32) M else some ((-2 : Int32), M))) else none
set_option maxRecDepth 100000 in
theorem CX8_luck_0 {G : gG} {d : Nat} {Z : Option Value → gMem → Prop} (hd : 6 ≤ d) (x1 : Int32) (x2 : Int32) (x3 : Int32) (M : gMem) (P : Int32 × gMem → Prop) (k0 : ∀ (r : Int32) (N : gMem), P (r, N) → Z (some (.int r)) N) (h : gOKq (fX8_luck_0 x1 x2 x3 M) P) : gGo G YX8_luck d Z 0 [some (.ref 0), some (.int x1), some (.int x2), some (.int x3), none, none] [] M := by
  unfold fX8_luck_0 at h
  refine go_rn 1 (pc' := 1) (L' := [some (.ref 0), some (.int x1), some (.int x2), some (.int x3), none, none]) (S' := [.ref 0]) (M' := M) okX8_luck rfl ?_
  refine go_ck okX8_luck rfl (gOb_c rfl) ?_
  obtain ⟨c1, h⟩ := gq_if h
  refine go_rn 1 (pc' := 5) (L' := [some (.ref 0), some (.int x1), some (.int x2), some (.int x3), none, none]) (S' := [.int x3, .ref (M.2.2 0)]) (M' := M) okX8_luck rfl ?_
  obtain ⟨r2, e3, h⟩ := gB0_ok h
  refine go_call1 ocX8_luck rfl rfl c1 rfl (SX7_hasPartner (M.2.2 0) x3 M c1 e3) (Nat.lt_of_lt_of_le (by decide) hd) ?_
  refine go_br okX8_luck rfl (fun hp => ?_) (fun hp => ?_)
  · have h := gq_pos hp h
    refine go_rn 1 (pc' := 31) (L' := [some (.ref 0), some (.int x1), some (.int x2), some (.int x3), none, none]) (S' := [.int (-2 : Int32)]) (M' := M) okX8_luck rfl ?_
    exact go_iret (reX8_luck _ (by decide)) rfl (k0 (-2 : Int32) M h)
  · have h := gq_neg hp h
    refine go_rn 1 (pc' := 12) (L' := [some (.ref 0), some (.int x1), some (.int x2), some (.int x3), none, none]) (S' := [.int x1]) (M' := M) okX8_luck rfl ?_
    obtain ⟨r4, e5, h⟩ := gB0_ok h
    refine go_call1 ocX8_luck rfl rfl rfl rfl (SX8_isSeed x1 M e5) (Nat.lt_of_lt_of_le (by decide) hd) ?_
    refine go_br okX8_luck rfl (fun hp => ?_) (fun hp => ?_)
    · have h := gq_pos hp h
      refine go_rn 1 (pc' := 31) (L' := [some (.ref 0), some (.int x1), some (.int x2), some (.int x3), none, none]) (S' := [.int (-2 : Int32)]) (M' := M) okX8_luck rfl ?_
      exact go_iret (reX8_luck _ (by decide)) rfl (k0 (-2 : Int32) M h)
    · have h := gq_neg hp h
      refine go_rn 2 (pc' := 20) (L' := [some (.ref 0), some (.int x1), some (.int x2), some (.int x3), none, none]) (S' := [.int (1 : Int32), .int x2]) (M' := M) okX8_luck rfl ?_
      refine go_br okX8_luck rfl (fun hp => ?_) (fun hp => ?_)
      · have h := gq_pos hp h
        refine go_rn 1 (pc' := 31) (L' := [some (.ref 0), some (.int x1), some (.int x2), some (.int x3), none, none]) (S' := [.int (-2 : Int32)]) (M' := M) okX8_luck rfl ?_
        exact go_iret (reX8_luck _ (by decide)) rfl (k0 (-2 : Int32) M h)
      · have h := gq_neg hp h
        refine go_rn 2 (pc' := 26) (L' := [some (.ref 0), some (.int x1), some (.int x2), some (.int x3), none, none]) (S' := [.int (20 : Int32), .int x2]) (M' := M) okX8_luck rfl ?_
        refine go_br okX8_luck rfl (fun hp => ?_) (fun hp => ?_)
        · have h := gq_pos hp h
          refine go_rn 4 (pc' := 38) (L' := [some (.ref 0), some (.int x1), some (.int x2), some (.int x3), some (.int (0 : Int32)), some (.int (0 : Int32))]) (S' := []) (M' := M) okX8_luck rfl ?_
          exact go_wk (CX8_luck_38h hd x1 x2 x3 (0 : Int32) (0 : Int32) M P k0 h) ⟨rfl, rfl, rfl, rfl, rfl, rfl, True.intro⟩
        · have h := gq_neg hp h
          refine go_rn 1 (pc' := 31) (L' := [some (.ref 0), some (.int x1), some (.int x2), some (.int x3), none, none]) (S' := [.int (-2 : Int32)]) (M' := M) okX8_luck rfl ?_
          exact go_iret (reX8_luck _ (by decide)) rfl (k0 (-2 : Int32) M h)
def fX8_luck (a1 : Int32) (a2 : Int32) (a3 : Int32) (M : gMem) : Option (Int32 × gMem) := fX8_luck_0 a1 a2 a3 M
theorem SX8_luck {G : gG} (a1 : Int32) (a2 : Int32) (a3 : Int32) (M : gMem) {r : Int32} {N : gMem} (h : fX8_luck a1 a2 a3 M = some (r, N)) : gRun G YX8_luck 6 [.ref 0, .int a1, .int a2, .int a3] M (fun r' N' => r' = some (.int r) ∧ N' = N) := gRun_in (by decide +kernel) rfl (fun d hd => go_wk (CX8_luck_0 hd a1 a2 a3 M (fun p => p = (r, N)) (fun r N hh => by cases hh; exact ⟨rfl, rfl⟩) (gq_of h)) ⟨rfl, rfl, rfl, rfl, True.intro⟩)
def fX8_rate_0 (x1 : Int32) (M : gMem) : Option (Int32 × gMem) :=
  if gOb 7 (M.2.2 0) = true then gB0 (fX7_isTold (M.2.2 0) M) (fun r2 => if r2 = 0 then some ((-2 : Int32), M) else if x1 < 0 then some ((-2 : Int32), M) else if x1 ≤ (20 : Int32) then if gOb 7 (M.2.2 0) = true then if (M.1 ((M.2.2 0) + 10) 4) ≤ 0 then if gOb 7 (M.2.2 0) = true then if gOb 7 (M.2.2 0) = true then some ((M.1 (M.2.2 0) 3), (gSI M (M.2.2 0) 3 x1)) else none else none else some ((-5 : Int32), M) else none else some ((-2 : Int32), M)) else none
set_option maxRecDepth 100000 in
theorem CX8_rate_0 {G : gG} {d : Nat} {Z : Option Value → gMem → Prop} (hd : 1 ≤ d) (x1 : Int32) (M : gMem) (P : Int32 × gMem → Prop) (k0 : ∀ (r : Int32) (N : gMem), P (r, N) → Z (some (.int r)) N) (h : gOKq (fX8_rate_0 x1 M) P) : gGo G YX8_rate d Z 0 [some (.ref 0), some (.int x1), none] [] M := by
  unfold fX8_rate_0 at h
  refine go_rn 1 (pc' := 1) (L' := [some (.ref 0), some (.int x1), none]) (S' := [.ref 0]) (M' := M) okX8_rate rfl ?_
  refine go_ck okX8_rate rfl (gOb_c rfl) ?_
  obtain ⟨c1, h⟩ := gq_if h
  obtain ⟨r2, e3, h⟩ := gB0_ok h
  refine go_call1 ocX8_rate rfl rfl c1 rfl (SX7_isTold (M.2.2 0) M c1 e3) (Nat.lt_of_lt_of_le (by decide) hd) ?_
  refine go_br okX8_rate rfl (fun hp => ?_) (fun hp => ?_)
  · have h := gq_pos hp h
    refine go_rn 1 (pc' := 22) (L' := [some (.ref 0), some (.int x1), none]) (S' := [.int (-2 : Int32)]) (M' := M) okX8_rate rfl ?_
    exact go_iret (reX8_rate _ (by decide)) rfl (k0 (-2 : Int32) M h)
  · have h := gq_neg hp h
    refine go_rn 1 (pc' := 11) (L' := [some (.ref 0), some (.int x1), none]) (S' := [.int x1]) (M' := M) okX8_rate rfl ?_
    refine go_br okX8_rate rfl (fun hp => ?_) (fun hp => ?_)
    · have h := gq_pos hp h
      refine go_rn 1 (pc' := 22) (L' := [some (.ref 0), some (.int x1), none]) (S' := [.int (-2 : Int32)]) (M' := M) okX8_rate rfl ?_
      exact go_iret (reX8_rate _ (by decide)) rfl (k0 (-2 : Int32) M h)
    · have h := gq_neg hp h
      refine go_rn 2 (pc' := 17) (L' := [some (.ref 0), some (.int x1), none]) (S' := [.int (20 : Int32), .int x1]) (M' := M) okX8_rate rfl ?_
      refine go_br okX8_rate rfl (fun hp => ?_) (fun hp => ?_)
      · have h := gq_pos hp h
        refine go_rn 1 (pc' := 24) (L' := [some (.ref 0), some (.int x1), none]) (S' := [.ref 0]) (M' := M) okX8_rate rfl ?_
        refine go_ck okX8_rate rfl (gOb_c rfl) ?_
        obtain ⟨c4, h⟩ := gq_if h
        refine go_ck okX8_rate rfl c4 ?_
        refine go_ck okX8_rate rfl (gTa c4) ?_
        refine go_br okX8_rate rfl (fun hp => ?_) (fun hp => ?_)
        · have h := gq_pos hp h
          refine go_rn 1 (pc' := 40) (L' := [some (.ref 0), some (.int x1), none]) (S' := [.ref 0]) (M' := M) okX8_rate rfl ?_
          refine go_ck okX8_rate rfl (gOb_c rfl) ?_
          obtain ⟨c5, h⟩ := gq_if h
          refine go_ck okX8_rate rfl c5 ?_
          refine go_rn 2 (pc' := 48) (L' := [some (.ref 0), some (.int x1), some (.int (M.1 (M.2.2 0) 3))]) (S' := [.ref 0]) (M' := M) okX8_rate rfl ?_
          refine go_ck okX8_rate rfl (gOb_c rfl) ?_
          obtain ⟨c6, h⟩ := gq_if h
          refine go_rn 1 (pc' := 52) (L' := [some (.ref 0), some (.int x1), some (.int (M.1 (M.2.2 0) 3))]) (S' := [.int x1, .ref (M.2.2 0)]) (M' := M) okX8_rate rfl ?_
          refine go_ck okX8_rate rfl c6 ?_
          refine go_rn 1 (pc' := 56) (L' := [some (.ref 0), some (.int x1), some (.int (M.1 (M.2.2 0) 3))]) (S' := [.int (M.1 (M.2.2 0) 3)]) (M' := (gSI M (M.2.2 0) 3 x1)) okX8_rate rfl ?_
          exact go_iret (reX8_rate _ (by decide)) rfl (k0 (M.1 (M.2.2 0) 3) (gSI M (M.2.2 0) 3 x1) h)
        · have h := gq_neg hp h
          refine go_rn 1 (pc' := 38) (L' := [some (.ref 0), some (.int x1), none]) (S' := [.int (-5 : Int32)]) (M' := M) okX8_rate rfl ?_
          exact go_iret (reX8_rate _ (by decide)) rfl (k0 (-5 : Int32) M h)
      · have h := gq_neg hp h
        refine go_rn 1 (pc' := 22) (L' := [some (.ref 0), some (.int x1), none]) (S' := [.int (-2 : Int32)]) (M' := M) okX8_rate rfl ?_
        exact go_iret (reX8_rate _ (by decide)) rfl (k0 (-2 : Int32) M h)
def fX8_rate (a1 : Int32) (M : gMem) : Option (Int32 × gMem) := fX8_rate_0 a1 M
theorem SX8_rate {G : gG} (a1 : Int32) (M : gMem) {r : Int32} {N : gMem} (h : fX8_rate a1 M = some (r, N)) : gRun G YX8_rate 1 [.ref 0, .int a1] M (fun r' N' => r' = some (.int r) ∧ N' = N) := gRun_in (by decide +kernel) rfl (fun d hd => go_wk (CX8_rate_0 hd a1 M (fun p => p = (r, N)) (fun r N hh => by cases hh; exact ⟨rfl, rfl⟩) (gq_of h)) ⟨rfl, rfl, True.intro⟩)
def fX8_rowCount_4 (x1 : Int32) (x2 : Int32) (M : gMem) : Option (Sum (Int32 × Int32) (Int32)) :=
  if (nI (gSh 4).2) ≤ x2 then some (.inr x1) else if gIx 5 4 x2 = true then if gOb 4 (gRa 4 (Int32.toNatClampNeg x2)) = true then gB0 (fX4_isThere (gRa 4 (Int32.toNatClampNeg x2)) M) (fun r3 => if r3 = 0 then some (.inl (x1, (x2 + 1))) else some (.inl ((x1 + 1), (x2 + 1)))) else none else none
set_option maxRecDepth 100000 in
theorem CX8_rowCount_4 {G : gG} {d : Nat} {Z : Option Value → gMem → Prop} (hd : 1 ≤ d) (x1 : Int32) (x2 : Int32) (M : gMem) (P : Sum (Int32 × Int32) (Int32) → Prop) (k0 : ∀ (r : Int32), P (.inr r) → Z (some (.int r)) M) (k1 : ∀ (x1 : Int32) (x2 : Int32), P (.inl (x1, x2)) → gGo G YX8_rowCount d Z 4 [some (.ref 0), some (.int x1), some (.int x2)] [] M) (h : gOKq (fX8_rowCount_4 x1 x2 M) P) : gGo G YX8_rowCount d Z 4 [some (.ref 0), some (.int x1), some (.int x2)] [] M := by
  unfold fX8_rowCount_4 at h
  refine go_rn 2 (pc' := 6) (L' := [some (.ref 0), some (.int x1), some (.int x2)]) (S' := [.ref 0, .int x2]) (M' := M) okX8_rowCount rfl ?_
  refine go_ck okX8_rowCount rfl (gOb_c rfl) ?_
  refine go_ck okX8_rowCount rfl (gAl_c rfl) ?_
  refine go_br okX8_rowCount rfl (fun hp => ?_) (fun hp => ?_)
  · have h := gq_pos hp h
    refine go_rn 1 (pc' := 35) (L' := [some (.ref 0), some (.int x1), some (.int x2)]) (S' := [.int x1]) (M' := M) okX8_rowCount rfl ?_
    exact go_iret (reX8_rowCount _ (by decide)) rfl (k0 x1 h)
  · have h := gq_neg hp h
    refine go_rn 1 (pc' := 14) (L' := [some (.ref 0), some (.int x1), some (.int x2)]) (S' := [.ref 0]) (M' := M) okX8_rowCount rfl ?_
    refine go_ck okX8_rowCount rfl (gOb_c rfl) ?_
    refine go_rn 1 (pc' := 18) (L' := [some (.ref 0), some (.int x1), some (.int x2)]) (S' := [.int x2, .ref 4]) (M' := M) okX8_rowCount rfl ?_
    obtain ⟨c1, h⟩ := gq_if h
    refine go_ck okX8_rowCount rfl c1 ?_
    obtain ⟨c2, h⟩ := gq_if h
    obtain ⟨r3, e4, h⟩ := gB0_ok h
    refine go_call1 ocX8_rowCount rfl rfl c2 rfl (SX4_isThere (gRa 4 (Int32.toNatClampNeg x2)) M c2 e4) (Nat.lt_of_lt_of_le (by decide) hd) ?_
    refine go_br okX8_rowCount rfl (fun hp => ?_) (fun hp => ?_)
    · have h := gq_pos hp h
      refine go_rn 2 (pc' := 4) (L' := [some (.ref 0), some (.int x1), some (.int (x2 + 1))]) (S' := []) (M' := M) okX8_rowCount rfl ?_
      exact go_wk (k1 (x1) ((x2 + 1)) h) ⟨rfl, rfl, rfl, True.intro⟩
    · have h := gq_neg hp h
      refine go_rn 3 (pc' := 4) (L' := [some (.ref 0), some (.int (x1 + 1)), some (.int (x2 + 1))]) (S' := []) (M' := M) okX8_rowCount rfl ?_
      exact go_wk (k1 ((x1 + 1)) ((x2 + 1)) h) ⟨rfl, rfl, rfl, True.intro⟩
def fX8_rowCount_4h (x1 : Int32) (x2 : Int32) (M : gMem) : Option (Int32) :=
  gLp (fun s : Int32 × Int32 => fX8_rowCount_4 (s.1) (s.2) M) gFu (x1, x2)
set_option maxRecDepth 100000 in
theorem CX8_rowCount_4h {G : gG} {d : Nat} {Z : Option Value → gMem → Prop} (hd : 1 ≤ d) (x1 : Int32) (x2 : Int32) (M : gMem) (P : Int32 → Prop) (k0 : ∀ (r : Int32), P r → Z (some (.int r)) M) (h : gOKq (fX8_rowCount_4h x1 x2 M) P) : gGo G YX8_rowCount d Z 4 [some (.ref 0), some (.int x1), some (.int x2)] [] M :=
  gLp_go (K := fun s : Int32 × Int32 => gGo G YX8_rowCount d Z 4 [some (.ref 0), some (.int s.1), some (.int s.2)] [] M) (P := P) (fun s hs => CX8_rowCount_4 hd (s.1) (s.2) M (Sum.elim (fun s : Int32 × Int32 => gGo G YX8_rowCount d Z 4 [some (.ref 0), some (.int s.1), some (.int s.2)] [] M) P) k0 (fun x1 x2 hh => hh) hs) gFu (x1, x2) h
def fX8_rowCount_0 (M : gMem) : Option (Int32) :=
  fX8_rowCount_4h (0 : Int32) (0 : Int32) M
set_option maxRecDepth 100000 in
theorem CX8_rowCount_0 {G : gG} {d : Nat} {Z : Option Value → gMem → Prop} (hd : 1 ≤ d) (M : gMem) (P : Int32 → Prop) (k0 : ∀ (r : Int32), P r → Z (some (.int r)) M) (h : gOKq (fX8_rowCount_0 M) P) : gGo G YX8_rowCount d Z 0 [some (.ref 0), none, none] [] M := by
  unfold fX8_rowCount_0 at h
  refine go_rn 4 (pc' := 4) (L' := [some (.ref 0), some (.int (0 : Int32)), some (.int (0 : Int32))]) (S' := []) (M' := M) okX8_rowCount rfl ?_
  exact go_wk (CX8_rowCount_4h hd (0 : Int32) (0 : Int32) M P k0 h) ⟨rfl, rfl, rfl, True.intro⟩
def fX8_rowCount (M : gMem) : Option (Int32) := fX8_rowCount_0 M
theorem SX8_rowCount {G : gG} (M : gMem) {r : Int32} (h : fX8_rowCount M = some r) : gRun G YX8_rowCount 1 [.ref 0] M (fun r' N' => r' = some (.int r) ∧ N' = M) := gRun_in (by decide +kernel) rfl (fun d hd => go_wk (CX8_rowCount_0 hd M (fun p => p = r) (fun r hh => ⟨congrArg (fun z => some (Value.int z)) hh, rfl⟩) (gq_of h)) ⟨rfl, True.intro⟩)
def fX8_count_0 (x1 : Int32) (M : gMem) : Option (Int32) :=
  if x1 = 0 then if gOb 7 (M.2.2 0) = true then some (M.1 (M.2.2 0) 1) else none else if x1 = 1 then if gOb 7 (M.2.2 0) = true then some (M.1 (M.2.2 0) 2) else none else if x1 = 2 then if gOb 7 (M.2.2 0) = true then some (M.1 (M.2.2 0) 3) else none else if x1 = 3 then if gOb 7 (M.2.2 0) = true then some (M.1 (M.2.2 0) 4) else none else if x1 = 4 then if gOb 7 (M.2.2 0) = true then some (M.1 (M.2.2 0) 5) else none else if x1 = 5 then if gOb 7 (M.2.2 0) = true then some (M.1 (M.2.2 0) 6) else none else if x1 = 6 then if gOb 7 (M.2.2 0) = true then some (M.1 (M.2.2 0) 7) else none else if x1 = 7 then if gOb 7 (M.2.2 0) = true then some (M.1 (M.2.2 0) 8) else none else if x1 = 8 then if gOb 7 (M.2.2 0) = true then some (M.1 ((M.2.2 0) + 10) 4) else none else if x1 = 9 then if gOb 7 (M.2.2 0) = true then some (M.1 (M.2.2 0) 0) else none else if x1 = 10 then some (M.1 2 1) else if x1 = 11 then gB0 (fX8_rowCount M) (fun r11 => some r11) else some (-1 : Int32)
set_option maxRecDepth 100000 in
theorem CX8_count_0 {G : gG} {d : Nat} {Z : Option Value → gMem → Prop} (hd : 2 ≤ d) (x1 : Int32) (M : gMem) (P : Int32 → Prop) (k0 : ∀ (r : Int32), P r → Z (some (.int r)) M) (h : gOKq (fX8_count_0 x1 M) P) : gGo G YX8_count d Z 0 [some (.ref 0), some (.int x1)] [] M := by
  unfold fX8_count_0 at h
  refine go_rn 1 (pc' := 1) (L' := [some (.ref 0), some (.int x1)]) (S' := [.int x1]) (M' := M) okX8_count rfl ?_
  refine go_sw okX8_count rfl ⟨fun hp => ?_, fun hn0 => ⟨fun hp => ?_, fun hn1 => ⟨fun hp => ?_, fun hn2 => ⟨fun hp => ?_, fun hn3 => ⟨fun hp => ?_, fun hn4 => ⟨fun hp => ?_, fun hn5 => ⟨fun hp => ?_, fun hn6 => ⟨fun hp => ?_, fun hn7 => ⟨fun hp => ?_, fun hn8 => ⟨fun hp => ?_, fun hn9 => ⟨fun hp => ?_, fun hn10 => ⟨fun hp => ?_, fun hn11 => ?_⟩⟩⟩⟩⟩⟩⟩⟩⟩⟩⟩⟩
  · have h := gq_pos hp h
    refine go_rn 1 (pc' := 65) (L' := [some (.ref 0), some (.int x1)]) (S' := [.ref 0]) (M' := M) okX8_count rfl ?_
    refine go_ck okX8_count rfl (gOb_c rfl) ?_
    obtain ⟨c1, h⟩ := gq_if h
    refine go_ck okX8_count rfl c1 ?_
    exact go_iret (reX8_count _ (by decide)) rfl (k0 (M.1 (M.2.2 0) 1) h)
  · have h := gq_neg hn0 h
    have h := gq_pos hp h
    refine go_rn 1 (pc' := 73) (L' := [some (.ref 0), some (.int x1)]) (S' := [.ref 0]) (M' := M) okX8_count rfl ?_
    refine go_ck okX8_count rfl (gOb_c rfl) ?_
    obtain ⟨c2, h⟩ := gq_if h
    refine go_ck okX8_count rfl c2 ?_
    exact go_iret (reX8_count _ (by decide)) rfl (k0 (M.1 (M.2.2 0) 2) h)
  · have h := gq_neg hn0 h
    have h := gq_neg hn1 h
    have h := gq_pos hp h
    refine go_rn 1 (pc' := 81) (L' := [some (.ref 0), some (.int x1)]) (S' := [.ref 0]) (M' := M) okX8_count rfl ?_
    refine go_ck okX8_count rfl (gOb_c rfl) ?_
    obtain ⟨c3, h⟩ := gq_if h
    refine go_ck okX8_count rfl c3 ?_
    exact go_iret (reX8_count _ (by decide)) rfl (k0 (M.1 (M.2.2 0) 3) h)
  · have h := gq_neg hn0 h
    have h := gq_neg hn1 h
    have h := gq_neg hn2 h
    have h := gq_pos hp h
    refine go_rn 1 (pc' := 89) (L' := [some (.ref 0), some (.int x1)]) (S' := [.ref 0]) (M' := M) okX8_count rfl ?_
    refine go_ck okX8_count rfl (gOb_c rfl) ?_
    obtain ⟨c4, h⟩ := gq_if h
    refine go_ck okX8_count rfl c4 ?_
    exact go_iret (reX8_count _ (by decide)) rfl (k0 (M.1 (M.2.2 0) 4) h)
  · have h := gq_neg hn0 h
    have h := gq_neg hn1 h
    have h := gq_neg hn2 h
    have h := gq_neg hn3 h
    have h := gq_pos hp h
    refine go_rn 1 (pc' := 97) (L' := [some (.ref 0), some (.int x1)]) (S' := [.ref 0]) (M' := M) okX8_count rfl ?_
    refine go_ck okX8_count rfl (gOb_c rfl) ?_
    obtain ⟨c5, h⟩ := gq_if h
    refine go_ck okX8_count rfl c5 ?_
    exact go_iret (reX8_count _ (by decide)) rfl (k0 (M.1 (M.2.2 0) 5) h)
  · have h := gq_neg hn0 h
    have h := gq_neg hn1 h
    have h := gq_neg hn2 h
    have h := gq_neg hn3 h
    have h := gq_neg hn4 h
    have h := gq_pos hp h
    refine go_rn 1 (pc' := 105) (L' := [some (.ref 0), some (.int x1)]) (S' := [.ref 0]) (M' := M) okX8_count rfl ?_
    refine go_ck okX8_count rfl (gOb_c rfl) ?_
    obtain ⟨c6, h⟩ := gq_if h
    refine go_ck okX8_count rfl c6 ?_
    exact go_iret (reX8_count _ (by decide)) rfl (k0 (M.1 (M.2.2 0) 6) h)
  · have h := gq_neg hn0 h
    have h := gq_neg hn1 h
    have h := gq_neg hn2 h
    have h := gq_neg hn3 h
    have h := gq_neg hn4 h
    have h := gq_neg hn5 h
    have h := gq_pos hp h
    refine go_rn 1 (pc' := 113) (L' := [some (.ref 0), some (.int x1)]) (S' := [.ref 0]) (M' := M) okX8_count rfl ?_
    refine go_ck okX8_count rfl (gOb_c rfl) ?_
    obtain ⟨c7, h⟩ := gq_if h
    refine go_ck okX8_count rfl c7 ?_
    exact go_iret (reX8_count _ (by decide)) rfl (k0 (M.1 (M.2.2 0) 7) h)
  · have h := gq_neg hn0 h
    have h := gq_neg hn1 h
    have h := gq_neg hn2 h
    have h := gq_neg hn3 h
    have h := gq_neg hn4 h
    have h := gq_neg hn5 h
    have h := gq_neg hn6 h
    have h := gq_pos hp h
    refine go_rn 1 (pc' := 121) (L' := [some (.ref 0), some (.int x1)]) (S' := [.ref 0]) (M' := M) okX8_count rfl ?_
    refine go_ck okX8_count rfl (gOb_c rfl) ?_
    obtain ⟨c8, h⟩ := gq_if h
    refine go_ck okX8_count rfl c8 ?_
    exact go_iret (reX8_count _ (by decide)) rfl (k0 (M.1 (M.2.2 0) 8) h)
  · have h := gq_neg hn0 h
    have h := gq_neg hn1 h
    have h := gq_neg hn2 h
    have h := gq_neg hn3 h
    have h := gq_neg hn4 h
    have h := gq_neg hn5 h
    have h := gq_neg hn6 h
    have h := gq_neg hn7 h
    have h := gq_pos hp h
    refine go_rn 1 (pc' := 129) (L' := [some (.ref 0), some (.int x1)]) (S' := [.ref 0]) (M' := M) okX8_count rfl ?_
    refine go_ck okX8_count rfl (gOb_c rfl) ?_
    obtain ⟨c9, h⟩ := gq_if h
    refine go_ck okX8_count rfl c9 ?_
    refine go_ck okX8_count rfl (gTa c9) ?_
    exact go_iret (reX8_count _ (by decide)) rfl (k0 (M.1 ((M.2.2 0) + 10) 4) h)
  · have h := gq_neg hn0 h
    have h := gq_neg hn1 h
    have h := gq_neg hn2 h
    have h := gq_neg hn3 h
    have h := gq_neg hn4 h
    have h := gq_neg hn5 h
    have h := gq_neg hn6 h
    have h := gq_neg hn7 h
    have h := gq_neg hn8 h
    have h := gq_pos hp h
    refine go_rn 1 (pc' := 140) (L' := [some (.ref 0), some (.int x1)]) (S' := [.ref 0]) (M' := M) okX8_count rfl ?_
    refine go_ck okX8_count rfl (gOb_c rfl) ?_
    obtain ⟨c10, h⟩ := gq_if h
    refine go_ck okX8_count rfl c10 ?_
    exact go_iret (reX8_count _ (by decide)) rfl (k0 (M.1 (M.2.2 0) 0) h)
  · have h := gq_neg hn0 h
    have h := gq_neg hn1 h
    have h := gq_neg hn2 h
    have h := gq_neg hn3 h
    have h := gq_neg hn4 h
    have h := gq_neg hn5 h
    have h := gq_neg hn6 h
    have h := gq_neg hn7 h
    have h := gq_neg hn8 h
    have h := gq_neg hn9 h
    have h := gq_pos hp h
    refine go_rn 1 (pc' := 148) (L' := [some (.ref 0), some (.int x1)]) (S' := [.ref 0]) (M' := M) okX8_count rfl ?_
    refine go_ck okX8_count rfl (gOb_c rfl) ?_
    refine go_ck okX8_count rfl (gOb_c rfl) ?_
    refine go_ck okX8_count rfl (gOb_c rfl) ?_
    exact go_iret (reX8_count _ (by decide)) rfl (k0 (M.1 2 1) h)
  · have h := gq_neg hn0 h
    have h := gq_neg hn1 h
    have h := gq_neg hn2 h
    have h := gq_neg hn3 h
    have h := gq_neg hn4 h
    have h := gq_neg hn5 h
    have h := gq_neg hn6 h
    have h := gq_neg hn7 h
    have h := gq_neg hn8 h
    have h := gq_neg hn9 h
    have h := gq_neg hn10 h
    have h := gq_pos hp h
    refine go_rn 1 (pc' := 159) (L' := [some (.ref 0), some (.int x1)]) (S' := [.ref 0]) (M' := M) okX8_count rfl ?_
    obtain ⟨r11, e12, h⟩ := gB0_ok h
    refine go_call1 ocX8_count rfl rfl (gOb_c rfl) rfl (SX8_rowCount M e12) (Nat.lt_of_lt_of_le (by decide) hd) ?_
    exact go_iret (reX8_count _ (by decide)) rfl (k0 r11 h)
  · have h := gq_neg hn0 h
    have h := gq_neg hn1 h
    have h := gq_neg hn2 h
    have h := gq_neg hn3 h
    have h := gq_neg hn4 h
    have h := gq_neg hn5 h
    have h := gq_neg hn6 h
    have h := gq_neg hn7 h
    have h := gq_neg hn8 h
    have h := gq_neg hn9 h
    have h := gq_neg hn10 h
    have h := gq_neg hn11 h
    refine go_rn 1 (pc' := 164) (L' := [some (.ref 0), some (.int x1)]) (S' := [.int (-1 : Int32)]) (M' := M) okX8_count rfl ?_
    exact go_iret (reX8_count _ (by decide)) rfl (k0 (-1 : Int32) h)
def fX8_count (a1 : Int32) (M : gMem) : Option (Int32) := fX8_count_0 a1 M
theorem SX8_count {G : gG} (a1 : Int32) (M : gMem) {r : Int32} (h : fX8_count a1 M = some r) : gRun G YX8_count 2 [.ref 0, .int a1] M (fun r' N' => r' = some (.int r) ∧ N' = M) := gRun_in (by decide +kernel) rfl (fun d hd => go_wk (CX8_count_0 hd a1 M (fun p => p = r) (fun r hh => ⟨congrArg (fun z => some (Value.int z)) hh, rfl⟩) (gq_of h)) ⟨rfl, rfl, True.intro⟩)
def fX8_image_0 (x1 : Int32) (M : gMem) : Option (Int32 × gMem) :=
  if x1 < 0 then some ((-2 : Int32), M) else if x1 < (nI (gSh 5).2) then if gIx 6 5 x1 = true then if gOb 7 (gRa 5 (Int32.toNatClampNeg x1)) = true then if gOb 7 (M.2.2 0) = true then gB0 (fX7_copyFrom (gRa 5 (Int32.toNatClampNeg x1)) (M.2.2 0) M) (fun M4 => some ((0 : Int32), (gSI M4 0 7 ((M4.1 0 7) ||| ((1 : Int32) <<< (x1 &&& 31)))))) else none else none else none else some ((-2 : Int32), M)
set_option maxRecDepth 100000 in
theorem CX8_image_0 {G : gG} {d : Nat} {Z : Option Value → gMem → Prop} (hd : 3 ≤ d) (x1 : Int32) (M : gMem) (P : Int32 × gMem → Prop) (k0 : ∀ (r : Int32) (N : gMem), P (r, N) → Z (some (.int r)) N) (h : gOKq (fX8_image_0 x1 M) P) : gGo G YX8_image d Z 0 [some (.ref 0), some (.int x1)] [] M := by
  unfold fX8_image_0 at h
  refine go_rn 1 (pc' := 1) (L' := [some (.ref 0), some (.int x1)]) (S' := [.int x1]) (M' := M) okX8_image rfl ?_
  refine go_br okX8_image rfl (fun hp => ?_) (fun hp => ?_)
  · have h := gq_pos hp h
    refine go_rn 1 (pc' := 15) (L' := [some (.ref 0), some (.int x1)]) (S' := [.int (-2 : Int32)]) (M' := M) okX8_image rfl ?_
    exact go_iret (reX8_image _ (by decide)) rfl (k0 (-2 : Int32) M h)
  · have h := gq_neg hp h
    refine go_rn 2 (pc' := 6) (L' := [some (.ref 0), some (.int x1)]) (S' := [.ref 0, .int x1]) (M' := M) okX8_image rfl ?_
    refine go_ck okX8_image rfl (gOb_c rfl) ?_
    refine go_ck okX8_image rfl (gAl_c rfl) ?_
    refine go_br okX8_image rfl (fun hp => ?_) (fun hp => ?_)
    · have h := gq_pos hp h
      refine go_rn 1 (pc' := 17) (L' := [some (.ref 0), some (.int x1)]) (S' := [.ref 0]) (M' := M) okX8_image rfl ?_
      refine go_ck okX8_image rfl (gOb_c rfl) ?_
      refine go_rn 1 (pc' := 21) (L' := [some (.ref 0), some (.int x1)]) (S' := [.int x1, .ref 5]) (M' := M) okX8_image rfl ?_
      obtain ⟨c1, h⟩ := gq_if h
      refine go_ck okX8_image rfl c1 ?_
      obtain ⟨c2, h⟩ := gq_if h
      refine go_rn 1 (pc' := 23) (L' := [some (.ref 0), some (.int x1)]) (S' := [.ref 0, .ref (gRa 5 (Int32.toNatClampNeg x1))]) (M' := M) okX8_image rfl ?_
      refine go_ck okX8_image rfl (gOb_c rfl) ?_
      obtain ⟨c3, h⟩ := gq_if h
      obtain ⟨M4, e5, h⟩ := gB0_ok h
      refine go_call1 ocX8_image rfl rfl c2 rfl (SX7_copyFrom (gRa 5 (Int32.toNatClampNeg x1)) (M.2.2 0) M c2 c3 e5) (Nat.lt_of_lt_of_le (by decide) hd) ?_
      refine go_rn 2 (pc' := 31) (L' := [some (.ref 0), some (.int x1)]) (S' := [.ref 0, .ref 0]) (M' := M4) okX8_image rfl ?_
      refine go_ck okX8_image rfl (gOb_c rfl) ?_
      refine go_rn 4 (pc' := 38) (L' := [some (.ref 0), some (.int x1)]) (S' := [.int ((M4.1 0 7) ||| ((1 : Int32) <<< (x1 &&& 31))), .ref 0]) (M' := M4) okX8_image rfl ?_
      refine go_ck okX8_image rfl (gOb_c rfl) ?_
      refine go_rn 1 (pc' := 42) (L' := [some (.ref 0), some (.int x1)]) (S' := [.int (0 : Int32)]) (M' := (gSI M4 0 7 ((M4.1 0 7) ||| ((1 : Int32) <<< (x1 &&& 31))))) okX8_image rfl ?_
      exact go_iret (reX8_image _ (by decide)) rfl (k0 (0 : Int32) (gSI M4 0 7 ((M4.1 0 7) ||| ((1 : Int32) <<< (x1 &&& 31)))) h)
    · have h := gq_neg hp h
      refine go_rn 1 (pc' := 15) (L' := [some (.ref 0), some (.int x1)]) (S' := [.int (-2 : Int32)]) (M' := M) okX8_image rfl ?_
      exact go_iret (reX8_image _ (by decide)) rfl (k0 (-2 : Int32) M h)
def fX8_image (a1 : Int32) (M : gMem) : Option (Int32 × gMem) := fX8_image_0 a1 M
theorem SX8_image {G : gG} (a1 : Int32) (M : gMem) {r : Int32} {N : gMem} (h : fX8_image a1 M = some (r, N)) : gRun G YX8_image 3 [.ref 0, .int a1] M (fun r' N' => r' = some (.int r) ∧ N' = N) := gRun_in (by decide +kernel) rfl (fun d hd => go_wk (CX8_image_0 hd a1 M (fun p => p = (r, N)) (fun r N hh => by cases hh; exact ⟨rfl, rfl⟩) (gq_of h)) ⟨rfl, rfl, True.intro⟩)
def fX8_back_0 (x1 : Int32) (M : gMem) : Option (Int32 × gMem) :=
  if x1 < 0 then some ((-2 : Int32), M) else if x1 < (nI (gSh 5).2) then gB0 (fX8_has (M.1 0 7) x1 M) (fun r1 => if r1 = 0 then some ((-6 : Int32), M) else if gOb 7 (M.2.2 0) = true then if gIx 6 5 x1 = true then if gOb 7 (gRa 5 (Int32.toNatClampNeg x1)) = true then gB0 (fX7_copyFrom (M.2.2 0) (gRa 5 (Int32.toNatClampNeg x1)) M) (fun M6 => some ((0 : Int32), M6)) else none else none else none) else some ((-2 : Int32), M)
set_option maxRecDepth 100000 in
theorem CX8_back_0 {G : gG} {d : Nat} {Z : Option Value → gMem → Prop} (hd : 3 ≤ d) (x1 : Int32) (M : gMem) (P : Int32 × gMem → Prop) (k0 : ∀ (r : Int32) (N : gMem), P (r, N) → Z (some (.int r)) N) (h : gOKq (fX8_back_0 x1 M) P) : gGo G YX8_back d Z 0 [some (.ref 0), some (.int x1)] [] M := by
  unfold fX8_back_0 at h
  refine go_rn 1 (pc' := 1) (L' := [some (.ref 0), some (.int x1)]) (S' := [.int x1]) (M' := M) okX8_back rfl ?_
  refine go_br okX8_back rfl (fun hp => ?_) (fun hp => ?_)
  · have h := gq_pos hp h
    refine go_rn 1 (pc' := 15) (L' := [some (.ref 0), some (.int x1)]) (S' := [.int (-2 : Int32)]) (M' := M) okX8_back rfl ?_
    exact go_iret (reX8_back _ (by decide)) rfl (k0 (-2 : Int32) M h)
  · have h := gq_neg hp h
    refine go_rn 2 (pc' := 6) (L' := [some (.ref 0), some (.int x1)]) (S' := [.ref 0, .int x1]) (M' := M) okX8_back rfl ?_
    refine go_ck okX8_back rfl (gOb_c rfl) ?_
    refine go_ck okX8_back rfl (gAl_c rfl) ?_
    refine go_br okX8_back rfl (fun hp => ?_) (fun hp => ?_)
    · have h := gq_pos hp h
      refine go_rn 1 (pc' := 17) (L' := [some (.ref 0), some (.int x1)]) (S' := [.ref 0]) (M' := M) okX8_back rfl ?_
      refine go_ck okX8_back rfl (gOb_c rfl) ?_
      refine go_rn 1 (pc' := 21) (L' := [some (.ref 0), some (.int x1)]) (S' := [.int x1, .int (M.1 0 7)]) (M' := M) okX8_back rfl ?_
      obtain ⟨r1, e2, h⟩ := gB0_ok h
      refine go_call1 ocX8_back rfl rfl rfl rfl (SX8_has (M.1 0 7) x1 M e2) (Nat.lt_of_lt_of_le (by decide) hd) ?_
      refine go_br okX8_back rfl (fun hp => ?_) (fun hp => ?_)
      · have h := gq_pos hp h
        refine go_rn 1 (pc' := 29) (L' := [some (.ref 0), some (.int x1)]) (S' := [.int (-6 : Int32)]) (M' := M) okX8_back rfl ?_
        exact go_iret (reX8_back _ (by decide)) rfl (k0 (-6 : Int32) M h)
      · have h := gq_neg hp h
        refine go_rn 1 (pc' := 31) (L' := [some (.ref 0), some (.int x1)]) (S' := [.ref 0]) (M' := M) okX8_back rfl ?_
        refine go_ck okX8_back rfl (gOb_c rfl) ?_
        obtain ⟨c3, h⟩ := gq_if h
        refine go_rn 1 (pc' := 35) (L' := [some (.ref 0), some (.int x1)]) (S' := [.ref 0, .ref (M.2.2 0)]) (M' := M) okX8_back rfl ?_
        refine go_ck okX8_back rfl (gOb_c rfl) ?_
        refine go_rn 1 (pc' := 39) (L' := [some (.ref 0), some (.int x1)]) (S' := [.int x1, .ref 5, .ref (M.2.2 0)]) (M' := M) okX8_back rfl ?_
        obtain ⟨c4, h⟩ := gq_if h
        refine go_ck okX8_back rfl c4 ?_
        obtain ⟨c5, h⟩ := gq_if h
        obtain ⟨M6, e7, h⟩ := gB0_ok h
        refine go_call1 ocX8_back rfl rfl c3 rfl (SX7_copyFrom (M.2.2 0) (gRa 5 (Int32.toNatClampNeg x1)) M c3 c5 e7) (Nat.lt_of_lt_of_le (by decide) hd) ?_
        refine go_rn 1 (pc' := 44) (L' := [some (.ref 0), some (.int x1)]) (S' := [.int (0 : Int32)]) (M' := M6) okX8_back rfl ?_
        exact go_iret (reX8_back _ (by decide)) rfl (k0 (0 : Int32) M6 h)
    · have h := gq_neg hp h
      refine go_rn 1 (pc' := 15) (L' := [some (.ref 0), some (.int x1)]) (S' := [.int (-2 : Int32)]) (M' := M) okX8_back rfl ?_
      exact go_iret (reX8_back _ (by decide)) rfl (k0 (-2 : Int32) M h)
def fX8_back (a1 : Int32) (M : gMem) : Option (Int32 × gMem) := fX8_back_0 a1 M
theorem SX8_back {G : gG} (a1 : Int32) (M : gMem) {r : Int32} {N : gMem} (h : fX8_back a1 M = some (r, N)) : gRun G YX8_back 3 [.ref 0, .int a1] M (fun r' N' => r' = some (.int r) ∧ N' = N) := gRun_in (by decide +kernel) rfl (fun d hd => go_wk (CX8_back_0 hd a1 M (fun p => p = (r, N)) (fun r N hh => by cases hh; exact ⟨rfl, rfl⟩) (gq_of h)) ⟨rfl, rfl, True.intro⟩)
def fX8_row_0 (x1 : Int32) (x2 : Int32) (x3 : Int32) (M : gMem) : Option (Int32 × gMem) :=
  gB0 (fX8_slotAt x1 M) (fun r1 => gNl r1 (some ((-2 : Int32), M)) (fun o3 => if gOb 4 o3 = true then if x2 < 0 then some ((-2 : Int32), M) else if (4 : Int32) ≤ x2 then some ((-2 : Int32), M) else if x3 ≤ (60 : Int32) then if 0 ≤ x3 then gB0 (fX4_begin o3 x2 x3 M) (fun M5 => some ((0 : Int32), M5)) else some ((-3 : Int32), M) else some ((-2 : Int32), M) else none))
set_option maxRecDepth 100000 in
theorem CX8_row_0 {G : gG} {d : Nat} {Z : Option Value → gMem → Prop} (hd : 1 ≤ d) (x1 : Int32) (x2 : Int32) (x3 : Int32) (M : gMem) (P : Int32 × gMem → Prop) (k0 : ∀ (r : Int32) (N : gMem), P (r, N) → Z (some (.int r)) N) (h : gOKq (fX8_row_0 x1 x2 x3 M) P) : gGo G YX8_row d Z 0 [some (.ref 0), some (.int x1), some (.int x2), some (.int x3), none] [] M := by
  unfold fX8_row_0 at h
  refine go_rn 2 (pc' := 2) (L' := [some (.ref 0), some (.int x1), some (.int x2), some (.int x3), none]) (S' := [.int x1, .ref 0]) (M' := M) okX8_row rfl ?_
  obtain ⟨r1, e2, h⟩ := gB0_ok h
  refine go_call1 ocX8_row rfl rfl (gOb_c rfl) rfl (SX8_slotAt x1 M e2) (Nat.lt_of_lt_of_le (by decide) hd) ?_
  rcases gq_nl h with ⟨hv, hh⟩ | ⟨o3, hv, hh⟩
  · subst hv
    have h := hh
    refine go_rn 4 (pc' := 29) (L' := [some (.ref 0), some (.int x1), some (.int x2), some (.int x3), some (.null)]) (S' := [.int (-2 : Int32)]) (M' := M) okX8_row rfl ?_
    exact go_iret (reX8_row _ (by decide)) rfl (k0 (-2 : Int32) M h)
  · subst hv
    obtain ⟨c4, h⟩ := gq_if hh
    refine go_rn 4 (pc' := 13) (L' := [some (.ref 0), some (.int x1), some (.int x2), some (.int x3), some (.ref o3)]) (S' := [.int x2]) (M' := M) okX8_row rfl ?_
    refine go_br okX8_row rfl (fun hp => ?_) (fun hp => ?_)
    · have h := gq_pos hp h
      refine go_rn 1 (pc' := 29) (L' := [some (.ref 0), some (.int x1), some (.int x2), some (.int x3), some (.ref o3)]) (S' := [.int (-2 : Int32)]) (M' := M) okX8_row rfl ?_
      exact go_iret (reX8_row _ (by decide)) rfl (k0 (-2 : Int32) M h)
    · have h := gq_neg hp h
      refine go_rn 2 (pc' := 18) (L' := [some (.ref 0), some (.int x1), some (.int x2), some (.int x3), some (.ref o3)]) (S' := [.int (4 : Int32), .int x2]) (M' := M) okX8_row rfl ?_
      refine go_br okX8_row rfl (fun hp => ?_) (fun hp => ?_)
      · have h := gq_pos hp h
        refine go_rn 1 (pc' := 29) (L' := [some (.ref 0), some (.int x1), some (.int x2), some (.int x3), some (.ref o3)]) (S' := [.int (-2 : Int32)]) (M' := M) okX8_row rfl ?_
        exact go_iret (reX8_row _ (by decide)) rfl (k0 (-2 : Int32) M h)
      · have h := gq_neg hp h
        refine go_rn 2 (pc' := 24) (L' := [some (.ref 0), some (.int x1), some (.int x2), some (.int x3), some (.ref o3)]) (S' := [.int (60 : Int32), .int x3]) (M' := M) okX8_row rfl ?_
        refine go_br okX8_row rfl (fun hp => ?_) (fun hp => ?_)
        · have h := gq_pos hp h
          refine go_rn 1 (pc' := 31) (L' := [some (.ref 0), some (.int x1), some (.int x2), some (.int x3), some (.ref o3)]) (S' := [.int x3]) (M' := M) okX8_row rfl ?_
          refine go_br okX8_row rfl (fun hp => ?_) (fun hp => ?_)
          · have h := gq_pos hp h
            refine go_rn 3 (pc' := 41) (L' := [some (.ref 0), some (.int x1), some (.int x2), some (.int x3), some (.ref o3)]) (S' := [.int x3, .int x2, .ref o3]) (M' := M) okX8_row rfl ?_
            obtain ⟨M5, e6, h⟩ := gB0_ok h
            refine go_call1 ocX8_row rfl rfl c4 rfl (SX4_begin o3 x2 x3 M c4 e6) (Nat.lt_of_lt_of_le (by decide) hd) ?_
            refine go_rn 1 (pc' := 45) (L' := [some (.ref 0), some (.int x1), some (.int x2), some (.int x3), some (.ref o3)]) (S' := [.int (0 : Int32)]) (M' := M5) okX8_row rfl ?_
            exact go_iret (reX8_row _ (by decide)) rfl (k0 (0 : Int32) M5 h)
          · have h := gq_neg hp h
            refine go_rn 1 (pc' := 36) (L' := [some (.ref 0), some (.int x1), some (.int x2), some (.int x3), some (.ref o3)]) (S' := [.int (-3 : Int32)]) (M' := M) okX8_row rfl ?_
            exact go_iret (reX8_row _ (by decide)) rfl (k0 (-3 : Int32) M h)
        · have h := gq_neg hp h
          refine go_rn 1 (pc' := 29) (L' := [some (.ref 0), some (.int x1), some (.int x2), some (.int x3), some (.ref o3)]) (S' := [.int (-2 : Int32)]) (M' := M) okX8_row rfl ?_
          exact go_iret (reX8_row _ (by decide)) rfl (k0 (-2 : Int32) M h)
def fX8_row (a1 : Int32) (a2 : Int32) (a3 : Int32) (M : gMem) : Option (Int32 × gMem) := fX8_row_0 a1 a2 a3 M
theorem SX8_row {G : gG} (a1 : Int32) (a2 : Int32) (a3 : Int32) (M : gMem) {r : Int32} {N : gMem} (h : fX8_row a1 a2 a3 M = some (r, N)) : gRun G YX8_row 1 [.ref 0, .int a1, .int a2, .int a3] M (fun r' N' => r' = some (.int r) ∧ N' = N) := gRun_in (by decide +kernel) rfl (fun d hd => go_wk (CX8_row_0 hd a1 a2 a3 M (fun p => p = (r, N)) (fun r N hh => by cases hh; exact ⟨rfl, rfl⟩) (gq_of h)) ⟨rfl, rfl, rfl, rfl, True.intro⟩)
