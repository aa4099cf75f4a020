/-! exact functions of methods, and that the machine goes as they say: by program -/
def fX9_image_11 (x1 : Int32) (s0 : Int64) (s1 : Int64) (s2 : Int64) (M : gMem) : Option (Int32 × gMem) :=
  gB0 (fX9_in s2 s1 s0 M) (fun r1 => if r1 = 0 then some ((-2 : Int32), M) else gB0 (fX9_copyCity (0 : Int32) ((1 : Int32) + x1) M) (fun M3 => if gIx 3 154 x1 = true then some ((0 : Int32), (gSI M3 154 (Int32.toNatClampNeg x1) (vp_nar .boolean (1 : Int32)))) else none))
set_option maxRecDepth 100000 in
theorem CX9_image_11 {G : gG} {d : Nat} {Z : Option Value → gMem → Prop} (hd : 2 ≤ d) (x1 : Int32) (s0 : Int64) (s1 : Int64) (s2 : Int64) (M : gMem) (P : Int32 × gMem → Prop) (k0 : ∀ (r : Int32) (N : gMem), P (r, N) → Z (some (.int r)) N) (h : gOKq (fX9_image_11 x1 s0 s1 s2 M) P) : gGo G YX9_image d Z 11 [some (.ref 141), some (.int x1)] [.long s0, .long s1, .long s2] M := by
  unfold fX9_image_11 at h
  obtain ⟨r1, e2, h⟩ := gB0_ok h
  refine go_call1 ocX9_image rfl rfl rfl rfl (SX9_in s2 s1 s0 M e2) (Nat.lt_of_lt_of_le (by decide) hd) ?_
  refine go_br okX9_image rfl (fun hp => ?_) (fun hp => ?_)
  · have h := gq_pos hp h
    refine go_rn 1 (pc' := 19) (L' := [some (.ref 141), some (.int x1)]) (S' := [.int (-2 : Int32)]) (M' := M) okX9_image rfl ?_
    exact go_iret (reX9_image _ (by decide)) rfl (k0 (-2 : Int32) M h)
  · have h := gq_neg hp h
    refine go_rn 5 (pc' := 25) (L' := [some (.ref 141), some (.int x1)]) (S' := [.int ((1 : Int32) + x1), .int (0 : Int32), .ref 141]) (M' := M) okX9_image rfl ?_
    obtain ⟨M3, e4, h⟩ := gB0_ok h
    refine go_call1 ocX9_image rfl rfl (gOb_c rfl) rfl (SX9_copyCity (0 : Int32) ((1 : Int32) + x1) M e4) (Nat.lt_of_lt_of_le (by decide) hd) ?_
    refine go_rn 1 (pc' := 29) (L' := [some (.ref 141), some (.int x1)]) (S' := [.ref 141]) (M' := M3) okX9_image rfl ?_
    refine go_ck okX9_image rfl (gOb_c rfl) ?_
    refine go_rn 2 (pc' := 34) (L' := [some (.ref 141), some (.int x1)]) (S' := [.int (1 : Int32), .int x1, .ref 154]) (M' := M3) okX9_image rfl ?_
    obtain ⟨c5, h⟩ := gq_if h
    refine go_ck okX9_image rfl c5 ?_
    refine go_rn 1 (pc' := 36) (L' := [some (.ref 141), some (.int x1)]) (S' := [.int (0 : Int32)]) (M' := (gSI M3 154 (Int32.toNatClampNeg x1) (vp_nar .boolean (1 : Int32)))) okX9_image rfl ?_
    exact go_iret (reX9_image _ (by decide)) rfl (k0 (0 : Int32) (gSI M3 154 (Int32.toNatClampNeg x1) (vp_nar .boolean (1 : Int32))) h)
def fX9_image_0 (x1 : Int32) (M : gMem) : Option (Int32 × gMem) :=
  fX9_image_11 x1 (2 : Int64) (0 : Int64) (Int32.toInt64 x1) (gSI M 141 0 (0 : Int32))
set_option maxRecDepth 100000 in
theorem CX9_image_0 {G : gG} {d : Nat} {Z : Option Value → gMem → Prop} (hd : 2 ≤ d) (x1 : Int32) (M : gMem) (P : Int32 × gMem → Prop) (k0 : ∀ (r : Int32) (N : gMem), P (r, N) → Z (some (.int r)) N) (h : gOKq (fX9_image_0 x1 M) P) : gGo G YX9_image d Z 0 [some (.ref 141), some (.int x1)] [] M := by
  unfold fX9_image_0 at h
  refine go_rn 2 (pc' := 2) (L' := [some (.ref 141), some (.int x1)]) (S' := [.int (0 : Int32), .ref 141]) (M' := M) okX9_image rfl ?_
  refine go_ck okX9_image rfl (gOb_c rfl) ?_
  refine go_rn 4 (pc' := 11) (L' := [some (.ref 141), some (.int x1)]) (S' := [.long (2 : Int64), .long (0 : Int64), .long (Int32.toInt64 x1)]) (M' := (gSI M 141 0 (0 : Int32))) okX9_image rfl ?_
  exact go_wk (CX9_image_11 hd x1 (2 : Int64) (0 : Int64) (Int32.toInt64 x1) (gSI M 141 0 (0 : Int32)) P k0 h) ⟨rfl, rfl, True.intro⟩
def fX9_image (a1 : Int32) (M : gMem) : Option (Int32 × gMem) := fX9_image_0 a1 M
theorem SX9_image {G : gG} (a1 : Int32) (M : gMem) {r : Int32} {N : gMem} (h : fX9_image a1 M = some (r, N)) : gRun G YX9_image 2 [.ref 141, .int a1] M (fun r' N' => r' = some (.int r) ∧ N' = N) := gRun_in (by decide +kernel) rfl (fun d hd => go_wk (CX9_image_0 hd a1 M (fun p => p = (r, N)) (fun r N hh => by cases hh; exact ⟨rfl, rfl⟩) (gq_of h)) ⟨rfl, rfl, True.intro⟩)
def fX9_back_11 (x1 : Int32) (s0 : Int64) (s1 : Int64) (s2 : Int64) (M : gMem) : Option (Int32 × gMem) :=
  gB0 (fX9_in s2 s1 s0 M) (fun r1 => if r1 = 0 then some ((-2 : Int32), M) else if gIx 3 154 x1 = true then if (M.1 154 (Int32.toNatClampNeg x1)) = 0 then some ((-6 : Int32), M) else gB0 (fX9_copyCity ((1 : Int32) + x1) (0 : Int32) M) (fun M4 => some ((0 : Int32), M4)) else none)
set_option maxRecDepth 100000 in
theorem CX9_back_11 {G : gG} {d : Nat} {Z : Option Value → gMem → Prop} (hd : 2 ≤ d) (x1 : Int32) (s0 : Int64) (s1 : Int64) (s2 : Int64) (M : gMem) (P : Int32 × gMem → Prop) (k0 : ∀ (r : Int32) (N : gMem), P (r, N) → Z (some (.int r)) N) (h : gOKq (fX9_back_11 x1 s0 s1 s2 M) P) : gGo G YX9_back d Z 11 [some (.ref 141), some (.int x1)] [.long s0, .long s1, .long s2] M := by
  unfold fX9_back_11 at h
  obtain ⟨r1, e2, h⟩ := gB0_ok h
  refine go_call1 ocX9_back rfl rfl rfl rfl (SX9_in s2 s1 s0 M e2) (Nat.lt_of_lt_of_le (by decide) hd) ?_
  refine go_br okX9_back rfl (fun hp => ?_) (fun hp => ?_)
  · have h := gq_pos hp h
    refine go_rn 1 (pc' := 19) (L' := [some (.ref 141), some (.int x1)]) (S' := [.int (-2 : Int32)]) (M' := M) okX9_back rfl ?_
    exact go_iret (reX9_back _ (by decide)) rfl (k0 (-2 : Int32) M h)
  · have h := gq_neg hp h
    refine go_rn 1 (pc' := 21) (L' := [some (.ref 141), some (.int x1)]) (S' := [.ref 141]) (M' := M) okX9_back rfl ?_
    refine go_ck okX9_back rfl (gOb_c rfl) ?_
    refine go_rn 1 (pc' := 25) (L' := [some (.ref 141), some (.int x1)]) (S' := [.int x1, .ref 154]) (M' := M) okX9_back rfl ?_
    obtain ⟨c3, h⟩ := gq_if h
    refine go_ck okX9_back rfl c3 ?_
    refine go_br okX9_back rfl (fun hp => ?_) (fun hp => ?_)
    · have h := gq_pos hp h
      refine go_rn 1 (pc' := 31) (L' := [some (.ref 141), some (.int x1)]) (S' := [.int (-6 : Int32)]) (M' := M) okX9_back rfl ?_
      exact go_iret (reX9_back _ (by decide)) rfl (k0 (-6 : Int32) M h)
    · have h := gq_neg hp h
      refine go_rn 5 (pc' := 37) (L' := [some (.ref 141), some (.int x1)]) (S' := [.int (0 : Int32), .int ((1 : Int32) + x1), .ref 141]) (M' := M) okX9_back rfl ?_
      obtain ⟨M4, e5, h⟩ := gB0_ok h
      refine go_call1 ocX9_back rfl rfl (gOb_c rfl) rfl (SX9_copyCity ((1 : Int32) + x1) (0 : Int32) M e5) (Nat.lt_of_lt_of_le (by decide) hd) ?_
      refine go_rn 1 (pc' := 41) (L' := [some (.ref 141), some (.int x1)]) (S' := [.int (0 : Int32)]) (M' := M4) okX9_back rfl ?_
      exact go_iret (reX9_back _ (by decide)) rfl (k0 (0 : Int32) M4 h)
def fX9_back_0 (x1 : Int32) (M : gMem) : Option (Int32 × gMem) :=
  fX9_back_11 x1 (2 : Int64) (0 : Int64) (Int32.toInt64 x1) (gSI M 141 0 (0 : Int32))
set_option maxRecDepth 100000 in
theorem CX9_back_0 {G : gG} {d : Nat} {Z : Option Value → gMem → Prop} (hd : 2 ≤ d) (x1 : Int32) (M : gMem) (P : Int32 × gMem → Prop) (k0 : ∀ (r : Int32) (N : gMem), P (r, N) → Z (some (.int r)) N) (h : gOKq (fX9_back_0 x1 M) P) : gGo G YX9_back d Z 0 [some (.ref 141), some (.int x1)] [] M := by
  unfold fX9_back_0 at h
  refine go_rn 2 (pc' := 2) (L' := [some (.ref 141), some (.int x1)]) (S' := [.int (0 : Int32), .ref 141]) (M' := M) okX9_back rfl ?_
  refine go_ck okX9_back rfl (gOb_c rfl) ?_
  refine go_rn 4 (pc' := 11) (L' := [some (.ref 141), some (.int x1)]) (S' := [.long (2 : Int64), .long (0 : Int64), .long (Int32.toInt64 x1)]) (M' := (gSI M 141 0 (0 : Int32))) okX9_back rfl ?_
  exact go_wk (CX9_back_11 hd x1 (2 : Int64) (0 : Int64) (Int32.toInt64 x1) (gSI M 141 0 (0 : Int32)) P k0 h) ⟨rfl, rfl, True.intro⟩
def fX9_back (a1 : Int32) (M : gMem) : Option (Int32 × gMem) := fX9_back_0 a1 M
theorem SX9_back {G : gG} (a1 : Int32) (M : gMem) {r : Int32} {N : gMem} (h : fX9_back a1 M = some (r, N)) : gRun G YX9_back 2 [.ref 141, .int a1] M (fun r' N' => r' = some (.int r) ∧ N' = N) := gRun_in (by decide +kernel) rfl (fun d hd => go_wk (CX9_back_0 hd a1 M (fun p => p = (r, N)) (fun r N hh => by cases hh; exact ⟨rfl, rfl⟩) (gq_of h)) ⟨rfl, rfl, True.intro⟩)
