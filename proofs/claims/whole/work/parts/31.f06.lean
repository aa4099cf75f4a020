/-! exact functions of methods, and that the machine goes as they say: by program -/
def fX9_colds_24 (x1 : Int32) (x2 : Int32) (x3 : Int32) (M : gMem) : Option (Sum (Int32 × Int32) (Int32 × gMem)) :=
  gB0 (fX9_people M) (fun r1 => if r1 ≤ x3 then some (.inr (x2, M)) else if gIx 1 157 x3 = true then if (M.1 157 (Int32.toNatClampNeg x3)) = x1 then some (.inl ((x2 ||| ((1 : Int32) <<< (x3 &&& 31))), (x3 + 1))) else some (.inl ((x2 ||| (0 : Int32)), (x3 + 1))) else none)
set_option maxRecDepth 100000 in
theorem CX9_colds_24 {G : gG} {d : Nat} {Z : Option Value → gMem → Prop} (hd : 8 ≤ d) (x1 : Int32) (x2 : Int32) (x3 : Int32) (M : gMem) (P : Sum (Int32 × Int32) (Int32 × gMem) → Prop) (k0 : ∀ (r : Int32) (N : gMem), P (.inr (r, N)) → Z (some (.int r)) N) (k1 : ∀ (x2 : Int32) (x3 : Int32), P (.inl (x2, x3)) → gGo G YX9_colds d Z 24 [some (.ref 141), some (.int x1), some (.int x2), some (.int x3)] [] M) (h : gOKq (fX9_colds_24 x1 x2 x3 M) P) : gGo G YX9_colds d Z 24 [some (.ref 141), some (.int x1), some (.int x2), some (.int x3)] [] M := by
  unfold fX9_colds_24 at h
  refine go_rn 2 (pc' := 26) (L' := [some (.ref 141), some (.int x1), some (.int x2), some (.int x3)]) (S' := [.ref 141, .int x3]) (M' := M) okX9_colds rfl ?_
  obtain ⟨r1, e2, h⟩ := gB0_ok h
  refine go_call1 ocX9_colds rfl rfl (gOb_c rfl) rfl (SX9_people M e2) (Nat.lt_of_lt_of_le (by decide) hd) ?_
  refine go_br okX9_colds rfl (fun hp => ?_) (fun hp => ?_)
  · have h := gq_pos hp h
    refine go_rn 1 (pc' := 59) (L' := [some (.ref 141), some (.int x1), some (.int x2), some (.int x3)]) (S' := [.int x2]) (M' := M) okX9_colds rfl ?_
    exact go_iret (reX9_colds _ (by decide)) rfl (k0 x2 M h)
  · have h := gq_neg hp h
    refine go_rn 2 (pc' := 34) (L' := [some (.ref 141), some (.int x1), some (.int x2), some (.int x3)]) (S' := [.ref 141, .int x2]) (M' := M) okX9_colds rfl ?_
    refine go_ck okX9_colds rfl (gOb_c rfl) ?_
    refine go_rn 1 (pc' := 38) (L' := [some (.ref 141), some (.int x1), some (.int x2), some (.int x3)]) (S' := [.int x3, .ref 157, .int x2]) (M' := M) okX9_colds rfl ?_
    obtain ⟨c3, h⟩ := gq_if h
    refine go_ck okX9_colds rfl c3 ?_
    refine go_rn 1 (pc' := 40) (L' := [some (.ref 141), some (.int x1), some (.int x2), some (.int x3)]) (S' := [.int x1, .int (M.1 157 (Int32.toNatClampNeg x3)), .int x2]) (M' := M) okX9_colds rfl ?_
    refine go_br okX9_colds rfl (fun hp => ?_) (fun hp => ?_)
    · have h := gq_pos hp h
      refine go_rn 8 (pc' := 24) (L' := [some (.ref 141), some (.int x1), some (.int (x2 ||| ((1 : Int32) <<< (x3 &&& 31)))), some (.int (x3 + 1))]) (S' := []) (M' := M) okX9_colds rfl ?_
      exact go_wk (k1 ((x2 ||| ((1 : Int32) <<< (x3 &&& 31)))) ((x3 + 1)) h) ⟨rfl, rfl, rfl, rfl, True.intro⟩
    · have h := gq_neg hp h
      refine go_rn 5 (pc' := 24) (L' := [some (.ref 141), some (.int x1), some (.int (x2 ||| (0 : Int32))), some (.int (x3 + 1))]) (S' := []) (M' := M) okX9_colds rfl ?_
      exact go_wk (k1 ((x2 ||| (0 : Int32))) ((x3 + 1)) h) ⟨rfl, rfl, rfl, rfl, True.intro⟩
def fX9_colds_24h (x1 : Int32) (x2 : Int32) (x3 : Int32) (M : gMem) : Option (Int32 × gMem) :=
  gLp (fun s : Int32 × Int32 => fX9_colds_24 x1 (s.1) (s.2) M) gFu (x2, x3)
set_option maxRecDepth 100000 in
theorem CX9_colds_24h {G : gG} {d : Nat} {Z : Option Value → gMem → Prop} (hd : 8 ≤ d) (x1 : Int32) (x2 : Int32) (x3 : Int32) (M : gMem) (P : Int32 × gMem → Prop) (k0 : ∀ (r : Int32) (N : gMem), P (r, N) → Z (some (.int r)) N) (h : gOKq (fX9_colds_24h x1 x2 x3 M) P) : gGo G YX9_colds d Z 24 [some (.ref 141), some (.int x1), some (.int x2), some (.int x3)] [] M :=
  gLp_go (K := fun s : Int32 × Int32 => gGo G YX9_colds d Z 24 [some (.ref 141), some (.int x1), some (.int s.1), some (.int s.2)] [] M) (P := P) (fun s hs => CX9_colds_24 hd (x1) (s.1) (s.2) M (Sum.elim (fun s : Int32 × Int32 => gGo G YX9_colds d Z 24 [some (.ref 141), some (.int x1), some (.int s.1), some (.int s.2)] [] M) P) k0 (fun x2 x3 hh => hh) hs) gFu (x2, x3) h
def fX9_colds_7 (x1 : Int32) (s0 : Int32) (M : gMem) : Option (Int32 × gMem) :=
  gB0 (fX9_isYear s0 M) (fun r1 => if r1 = 0 then some ((-2 : Int32), M) else gB0 (fX9_laysNow M) (fun M3 => fX9_colds_24h x1 (0 : Int32) (0 : Int32) M3))
set_option maxRecDepth 100000 in
theorem CX9_colds_7 {G : gG} {d : Nat} {Z : Option Value → gMem → Prop} (hd : 8 ≤ d) (x1 : Int32) (s0 : Int32) (M : gMem) (P : Int32 × gMem → Prop) (k0 : ∀ (r : Int32) (N : gMem), P (r, N) → Z (some (.int r)) N) (h : gOKq (fX9_colds_7 x1 s0 M) P) : gGo G YX9_colds d Z 7 [some (.ref 141), some (.int x1), none, none] [.int s0, .ref 141] M := by
  unfold fX9_colds_7 at h
  obtain ⟨r1, e2, h⟩ := gB0_ok h
  refine go_call1 ocX9_colds rfl rfl (gOb_c rfl) rfl (SX9_isYear s0 M e2) (Nat.lt_of_lt_of_le (by decide) hd) ?_
  refine go_br okX9_colds rfl (fun hp => ?_) (fun hp => ?_)
  · have h := gq_pos hp h
    refine go_rn 1 (pc' := 15) (L' := [some (.ref 141), some (.int x1), none, none]) (S' := [.int (-2 : Int32)]) (M' := M) okX9_colds rfl ?_
    exact go_iret (reX9_colds _ (by decide)) rfl (k0 (-2 : Int32) M h)
  · have h := gq_neg hp h
    refine go_rn 1 (pc' := 17) (L' := [some (.ref 141), some (.int x1), none, none]) (S' := [.ref 141]) (M' := M) okX9_colds rfl ?_
    obtain ⟨M3, e4, h⟩ := gB0_ok h
    refine go_call1 ocX9_colds rfl rfl (gOb_c rfl) rfl (SX9_laysNow M e4) (Nat.lt_of_lt_of_le (by decide) hd) ?_
    refine go_rn 4 (pc' := 24) (L' := [some (.ref 141), some (.int x1), some (.int (0 : Int32)), some (.int (0 : Int32))]) (S' := []) (M' := M3) okX9_colds rfl ?_
    exact go_wk (CX9_colds_24h hd x1 (0 : Int32) (0 : Int32) M3 P k0 h) ⟨rfl, rfl, rfl, rfl, True.intro⟩
def fX9_colds_0 (x1 : Int32) (M : gMem) : Option (Int32 × gMem) :=
  fX9_colds_7 x1 x1 (gSI M 141 0 (0 : Int32))
set_option maxRecDepth 100000 in
theorem CX9_colds_0 {G : gG} {d : Nat} {Z : Option Value → gMem → Prop} (hd : 8 ≤ d) (x1 : Int32) (M : gMem) (P : Int32 × gMem → Prop) (k0 : ∀ (r : Int32) (N : gMem), P (r, N) → Z (some (.int r)) N) (h : gOKq (fX9_colds_0 x1 M) P) : gGo G YX9_colds d Z 0 [some (.ref 141), some (.int x1), none, none] [] M := by
  unfold fX9_colds_0 at h
  refine go_rn 2 (pc' := 2) (L' := [some (.ref 141), some (.int x1), none, none]) (S' := [.int (0 : Int32), .ref 141]) (M' := M) okX9_colds rfl ?_
  refine go_ck okX9_colds rfl (gOb_c rfl) ?_
  refine go_rn 2 (pc' := 7) (L' := [some (.ref 141), some (.int x1), none, none]) (S' := [.int x1, .ref 141]) (M' := (gSI M 141 0 (0 : Int32))) okX9_colds rfl ?_
  exact go_wk (CX9_colds_7 hd x1 x1 (gSI M 141 0 (0 : Int32)) P k0 h) ⟨rfl, rfl, True.intro⟩
def fX9_colds (a1 : Int32) (M : gMem) : Option (Int32 × gMem) := fX9_colds_0 a1 M
theorem SX9_colds {G : gG} (a1 : Int32) (M : gMem) {r : Int32} {N : gMem} (h : fX9_colds a1 M = some (r, N)) : gRun G YX9_colds 8 [.ref 141, .int a1] M (fun r' N' => r' = some (.int r) ∧ N' = N) := gRun_in (by decide +kernel) rfl (fun d hd => go_wk (CX9_colds_0 hd a1 M (fun p => p = (r, N)) (fun r N hh => by cases hh; exact ⟨rfl, rfl⟩) (gq_of h)) ⟨rfl, rfl, True.intro⟩)
def fX9_cold_8 (x1 : Int32) (s0 : Int64) (M : gMem) : Option (Int32 × gMem) :=
  gB0 (fX9_isPerson s0 M) (fun r1 => if r1 = 0 then some ((-2 : Int32), M) else gB0 (fX9_laysNow M) (fun M3 => if gIx 1 157 x1 = true then some ((M3.1 157 (Int32.toNatClampNeg x1)), M3) else none))
set_option maxRecDepth 100000 in
theorem CX9_cold_8 {G : gG} {d : Nat} {Z : Option Value → gMem → Prop} (hd : 8 ≤ d) (x1 : Int32) (s0 : Int64) (M : gMem) (P : Int32 × gMem → Prop) (k0 : ∀ (r : Int32) (N : gMem), P (r, N) → Z (some (.int r)) N) (h : gOKq (fX9_cold_8 x1 s0 M) P) : gGo G YX9_cold d Z 8 [some (.ref 141), some (.int x1)] [.long s0, .ref 141] M := by
  unfold fX9_cold_8 at h
  obtain ⟨r1, e2, h⟩ := gB0_ok h
  refine go_call1 ocX9_cold rfl rfl (gOb_c rfl) rfl (SX9_isPerson s0 M e2) (Nat.lt_of_lt_of_le (by decide) hd) ?_
  refine go_br okX9_cold rfl (fun hp => ?_) (fun hp => ?_)
  · have h := gq_pos hp h
    refine go_rn 1 (pc' := 16) (L' := [some (.ref 141), some (.int x1)]) (S' := [.int (-2 : Int32)]) (M' := M) okX9_cold rfl ?_
    exact go_iret (reX9_cold _ (by decide)) rfl (k0 (-2 : Int32) M h)
  · have h := gq_neg hp h
    refine go_rn 1 (pc' := 18) (L' := [some (.ref 141), some (.int x1)]) (S' := [.ref 141]) (M' := M) okX9_cold rfl ?_
    obtain ⟨M3, e4, h⟩ := gB0_ok h
    refine go_call1 ocX9_cold rfl rfl (gOb_c rfl) rfl (SX9_laysNow M e4) (Nat.lt_of_lt_of_le (by decide) hd) ?_
    refine go_rn 1 (pc' := 22) (L' := [some (.ref 141), some (.int x1)]) (S' := [.ref 141]) (M' := M3) okX9_cold rfl ?_
    refine go_ck okX9_cold rfl (gOb_c rfl) ?_
    refine go_rn 1 (pc' := 26) (L' := [some (.ref 141), some (.int x1)]) (S' := [.int x1, .ref 157]) (M' := M3) okX9_cold rfl ?_
    obtain ⟨c5, h⟩ := gq_if h
    refine go_ck okX9_cold rfl c5 ?_
    exact go_iret (reX9_cold _ (by decide)) rfl (k0 (M3.1 157 (Int32.toNatClampNeg x1)) M3 h)
def fX9_cold_0 (x1 : Int32) (M : gMem) : Option (Int32 × gMem) :=
  fX9_cold_8 x1 (Int32.toInt64 x1) (gSI M 141 0 (0 : Int32))
set_option maxRecDepth 100000 in
theorem CX9_cold_0 {G : gG} {d : Nat} {Z : Option Value → gMem → Prop} (hd : 8 ≤ d) (x1 : Int32) (M : gMem) (P : Int32 × gMem → Prop) (k0 : ∀ (r : Int32) (N : gMem), P (r, N) → Z (some (.int r)) N) (h : gOKq (fX9_cold_0 x1 M) P) : gGo G YX9_cold d Z 0 [some (.ref 141), some (.int x1)] [] M := by
  unfold fX9_cold_0 at h
  refine go_rn 2 (pc' := 2) (L' := [some (.ref 141), some (.int x1)]) (S' := [.int (0 : Int32), .ref 141]) (M' := M) okX9_cold rfl ?_
  refine go_ck okX9_cold rfl (gOb_c rfl) ?_
  refine go_rn 3 (pc' := 8) (L' := [some (.ref 141), some (.int x1)]) (S' := [.long (Int32.toInt64 x1), .ref 141]) (M' := (gSI M 141 0 (0 : Int32))) okX9_cold rfl ?_
  exact go_wk (CX9_cold_8 hd x1 (Int32.toInt64 x1) (gSI M 141 0 (0 : Int32)) P k0 h) ⟨rfl, rfl, True.intro⟩
def fX9_cold (a1 : Int32) (M : gMem) : Option (Int32 × gMem) := fX9_cold_0 a1 M
theorem SX9_cold {G : gG} (a1 : Int32) (M : gMem) {r : Int32} {N : gMem} (h : fX9_cold a1 M = some (r, N)) : gRun G YX9_cold 8 [.ref 141, .int a1] M (fun r' N' => r' = some (.int r) ∧ N' = N) := gRun_in (by decide +kernel) rfl (fun d hd => go_wk (CX9_cold_0 hd a1 M (fun p => p = (r, N)) (fun r N hh => by cases hh; exact ⟨rfl, rfl⟩) (gq_of h)) ⟨rfl, rfl, True.intro⟩)
def fX9_worth_8 (x1 : Int32) (x2 : Int32) (s0 : Int32) (s1 : Int32) (M : gMem) : Option (Int32 × gMem) :=
  gB0 (fX9_isThen s1 s0 M) (fun r1 => if r1 = 0 then some ((-10000 : Int32), M) else gB0 (fX9_laysNow M) (fun M3 => if gIx 1 158 (((12 : Int32) * x1) + x2) = true then some ((M3.1 158 (Int32.toNatClampNeg (((12 : Int32) * x1) + x2))), M3) else none))
set_option maxRecDepth 100000 in
theorem CX9_worth_8 {G : gG} {d : Nat} {Z : Option Value → gMem → Prop} (hd : 8 ≤ d) (x1 : Int32) (x2 : Int32) (s0 : Int32) (s1 : Int32) (M : gMem) (P : Int32 × gMem → Prop) (k0 : ∀ (r : Int32) (N : gMem), P (r, N) → Z (some (.int r)) N) (h : gOKq (fX9_worth_8 x1 x2 s0 s1 M) P) : gGo G YX9_worth d Z 8 [some (.ref 141), some (.int x1), some (.int x2)] [.int s0, .int s1, .ref 141] M := by
  unfold fX9_worth_8 at h
  obtain ⟨r1, e2, h⟩ := gB0_ok h
  refine go_call1 ocX9_worth rfl rfl (gOb_c rfl) rfl (SX9_isThen s1 s0 M e2) (Nat.lt_of_lt_of_le (by decide) hd) ?_
  refine go_br okX9_worth rfl (fun hp => ?_) (fun hp => ?_)
  · have h := gq_pos hp h
    refine go_rn 1 (pc' := 17) (L' := [some (.ref 141), some (.int x1), some (.int x2)]) (S' := [.int (-10000 : Int32)]) (M' := M) okX9_worth rfl ?_
    exact go_iret (reX9_worth _ (by decide)) rfl (k0 (-10000 : Int32) M h)
  · have h := gq_neg hp h
    refine go_rn 1 (pc' := 19) (L' := [some (.ref 141), some (.int x1), some (.int x2)]) (S' := [.ref 141]) (M' := M) okX9_worth rfl ?_
    obtain ⟨M3, e4, h⟩ := gB0_ok h
    refine go_call1 ocX9_worth rfl rfl (gOb_c rfl) rfl (SX9_laysNow M e4) (Nat.lt_of_lt_of_le (by decide) hd) ?_
    refine go_rn 1 (pc' := 23) (L' := [some (.ref 141), some (.int x1), some (.int x2)]) (S' := [.ref 141]) (M' := M3) okX9_worth rfl ?_
    refine go_ck okX9_worth rfl (gOb_c rfl) ?_
    refine go_rn 5 (pc' := 32) (L' := [some (.ref 141), some (.int x1), some (.int x2)]) (S' := [.int (((12 : Int32) * x1) + x2), .ref 158]) (M' := M3) okX9_worth rfl ?_
    obtain ⟨c5, h⟩ := gq_if h
    refine go_ck okX9_worth rfl c5 ?_
    exact go_iret (reX9_worth _ (by decide)) rfl (k0 (M3.1 158 (Int32.toNatClampNeg (((12 : Int32) * x1) + x2))) M3 h)
def fX9_worth_0 (x1 : Int32) (x2 : Int32) (M : gMem) : Option (Int32 × gMem) :=
  fX9_worth_8 x1 x2 x2 x1 (gSI M 141 0 (0 : Int32))
set_option maxRecDepth 100000 in
theorem CX9_worth_0 {G : gG} {d : Nat} {Z : Option Value → gMem → Prop} (hd : 8 ≤ d) (x1 : Int32) (x2 : Int32) (M : gMem) (P : Int32 × gMem → Prop) (k0 : ∀ (r : Int32) (N : gMem), P (r, N) → Z (some (.int r)) N) (h : gOKq (fX9_worth_0 x1 x2 M) P) : gGo G YX9_worth d Z 0 [some (.ref 141), some (.int x1), some (.int x2)] [] M := by
  unfold fX9_worth_0 at h
  refine go_rn 2 (pc' := 2) (L' := [some (.ref 141), some (.int x1), some (.int x2)]) (S' := [.int (0 : Int32), .ref 141]) (M' := M) okX9_worth rfl ?_
  refine go_ck okX9_worth rfl (gOb_c rfl) ?_
  refine go_rn 3 (pc' := 8) (L' := [some (.ref 141), some (.int x1), some (.int x2)]) (S' := [.int x2, .int x1, .ref 141]) (M' := (gSI M 141 0 (0 : Int32))) okX9_worth rfl ?_
  exact go_wk (CX9_worth_8 hd x1 x2 x2 x1 (gSI M 141 0 (0 : Int32)) P k0 h) ⟨rfl, rfl, rfl, True.intro⟩
def fX9_worth (a1 : Int32) (a2 : Int32) (M : gMem) : Option (Int32 × gMem) := fX9_worth_0 a1 a2 M
theorem SX9_worth {G : gG} (a1 : Int32) (a2 : Int32) (M : gMem) {r : Int32} {N : gMem} (h : fX9_worth a1 a2 M = some (r, N)) : gRun G YX9_worth 8 [.ref 141, .int a1, .int a2] M (fun r' N' => r' = some (.int r) ∧ N' = N) := gRun_in (by decide +kernel) rfl (fun d hd => go_wk (CX9_worth_0 hd a1 a2 M (fun p => p = (r, N)) (fun r N hh => by cases hh; exact ⟨rfl, rfl⟩) (gq_of h)) ⟨rfl, rfl, rfl, True.intro⟩)
def fX9_funds_8 (x1 : Int32) (x2 : Int32) (s0 : Int32) (s1 : Int32) (M : gMem) : Option (Int32 × gMem) :=
  gB0 (fX9_isThen s1 s0 M) (fun r1 => if r1 = 0 then some ((-10000 : Int32), M) else gB0 (fX9_laysNow M) (fun M3 => gB0 (fX9_isOut x1 x2 M3) (fun r5 => if r5 = 0 then gB0 (fX9_firmOf x1 x2 M3) (fun r7 => gB0 (fX9_fundsOf r7 x2 M3) (fun r9 => some (r9, M3))) else some ((-10000 : Int32), M3))))
set_option maxRecDepth 100000 in
theorem CX9_funds_8 {G : gG} {d : Nat} {Z : Option Value → gMem → Prop} (hd : 8 ≤ d) (x1 : Int32) (x2 : Int32) (s0 : Int32) (s1 : Int32) (M : gMem) (P : Int32 × gMem → Prop) (k0 : ∀ (r : Int32) (N : gMem), P (r, N) → Z (some (.int r)) N) (h : gOKq (fX9_funds_8 x1 x2 s0 s1 M) P) : gGo G YX9_funds d Z 8 [some (.ref 141), some (.int x1), some (.int x2)] [.int s0, .int s1, .ref 141] M := by
  unfold fX9_funds_8 at h
  obtain ⟨r1, e2, h⟩ := gB0_ok h
  refine go_call1 ocX9_funds rfl rfl (gOb_c rfl) rfl (SX9_isThen s1 s0 M e2) (Nat.lt_of_lt_of_le (by decide) hd) ?_
  refine go_br okX9_funds rfl (fun hp => ?_) (fun hp => ?_)
  · have h := gq_pos hp h
    refine go_rn 1 (pc' := 17) (L' := [some (.ref 141), some (.int x1), some (.int x2)]) (S' := [.int (-10000 : Int32)]) (M' := M) okX9_funds rfl ?_
    exact go_iret (reX9_funds _ (by decide)) rfl (k0 (-10000 : Int32) M h)
  · have h := gq_neg hp h
    refine go_rn 1 (pc' := 19) (L' := [some (.ref 141), some (.int x1), some (.int x2)]) (S' := [.ref 141]) (M' := M) okX9_funds rfl ?_
    obtain ⟨M3, e4, h⟩ := gB0_ok h
    refine go_call1 ocX9_funds rfl rfl (gOb_c rfl) rfl (SX9_laysNow M e4) (Nat.lt_of_lt_of_le (by decide) hd) ?_
    refine go_rn 3 (pc' := 25) (L' := [some (.ref 141), some (.int x1), some (.int x2)]) (S' := [.int x2, .int x1, .ref 141]) (M' := M3) okX9_funds rfl ?_
    obtain ⟨r5, e6, h⟩ := gB0_ok h
    refine go_call1 ocX9_funds rfl rfl (gOb_c rfl) rfl (SX9_isOut x1 x2 M3 e6) (Nat.lt_of_lt_of_le (by decide) hd) ?_
    refine go_br okX9_funds rfl (fun hp => ?_) (fun hp => ?_)
    · have h := gq_pos hp h
      refine go_rn 4 (pc' := 41) (L' := [some (.ref 141), some (.int x1), some (.int x2)]) (S' := [.int x2, .int x1, .ref 141, .ref 141]) (M' := M3) okX9_funds rfl ?_
      obtain ⟨r7, e8, h⟩ := gB0_ok h
      refine go_call1 ocX9_funds rfl rfl (gOb_c rfl) rfl (SX9_firmOf x1 x2 M3 e8) (Nat.lt_of_lt_of_le (by decide) hd) ?_
      refine go_rn 1 (pc' := 45) (L' := [some (.ref 141), some (.int x1), some (.int x2)]) (S' := [.int x2, .int r7, .ref 141]) (M' := M3) okX9_funds rfl ?_
      obtain ⟨r9, e10, h⟩ := gB0_ok h
      refine go_call1 ocX9_funds rfl rfl (gOb_c rfl) rfl (SX9_fundsOf r7 x2 M3 e10) (Nat.lt_of_lt_of_le (by decide) hd) ?_
      exact go_iret (reX9_funds _ (by decide)) rfl (k0 r9 M3 h)
    · have h := gq_neg hp h
      refine go_rn 2 (pc' := 48) (L' := [some (.ref 141), some (.int x1), some (.int x2)]) (S' := [.int (-10000 : Int32)]) (M' := M3) okX9_funds rfl ?_
      exact go_iret (reX9_funds _ (by decide)) rfl (k0 (-10000 : Int32) M3 h)
def fX9_funds_0 (x1 : Int32) (x2 : Int32) (M : gMem) : Option (Int32 × gMem) :=
  fX9_funds_8 x1 x2 x2 x1 (gSI M 141 0 (0 : Int32))
set_option maxRecDepth 100000 in
theorem CX9_funds_0 {G : gG} {d : Nat} {Z : Option Value → gMem → Prop} (hd : 8 ≤ d) (x1 : Int32) (x2 : Int32) (M : gMem) (P : Int32 × gMem → Prop) (k0 : ∀ (r : Int32) (N : gMem), P (r, N) → Z (some (.int r)) N) (h : gOKq (fX9_funds_0 x1 x2 M) P) : gGo G YX9_funds d Z 0 [some (.ref 141), some (.int x1), some (.int x2)] [] M := by
  unfold fX9_funds_0 at h
  refine go_rn 2 (pc' := 2) (L' := [some (.ref 141), some (.int x1), some (.int x2)]) (S' := [.int (0 : Int32), .ref 141]) (M' := M) okX9_funds rfl ?_
  refine go_ck okX9_funds rfl (gOb_c rfl) ?_
  refine go_rn 3 (pc' := 8) (L' := [some (.ref 141), some (.int x1), some (.int x2)]) (S' := [.int x2, .int x1, .ref 141]) (M' := (gSI M 141 0 (0 : Int32))) okX9_funds rfl ?_
  exact go_wk (CX9_funds_8 hd x1 x2 x2 x1 (gSI M 141 0 (0 : Int32)) P k0 h) ⟨rfl, rfl, rfl, True.intro⟩
def fX9_funds (a1 : Int32) (a2 : Int32) (M : gMem) : Option (Int32 × gMem) := fX9_funds_0 a1 a2 M
theorem SX9_funds {G : gG} (a1 : Int32) (a2 : Int32) (M : gMem) {r : Int32} {N : gMem} (h : fX9_funds a1 a2 M = some (r, N)) : gRun G YX9_funds 8 [.ref 141, .int a1, .int a2] M (fun r' N' => r' = some (.int r) ∧ N' = N) := gRun_in (by decide +kernel) rfl (fun d hd => go_wk (CX9_funds_0 hd a1 a2 M (fun p => p = (r, N)) (fun r N hh => by cases hh; exact ⟨rfl, rfl⟩) (gq_of h)) ⟨rfl, rfl, rfl, True.intro⟩)
def fX9_out_7 (x1 : Int32) (s0 : Int32) (M : gMem) : Option (Int32 × gMem) :=
  gB0 (fX9_isYear s0 M) (fun r1 => if r1 = 0 then some ((-2 : Int32), M) else gB0 (fX9_laysNow M) (fun M3 => gB0 (fX9_outBits x1 M3) (fun r5 => some (r5, M3))))
set_option maxRecDepth 100000 in
theorem CX9_out_7 {G : gG} {d : Nat} {Z : Option Value → gMem → Prop} (hd : 8 ≤ d) (x1 : Int32) (s0 : Int32) (M : gMem) (P : Int32 × gMem → Prop) (k0 : ∀ (r : Int32) (N : gMem), P (r, N) → Z (some (.int r)) N) (h : gOKq (fX9_out_7 x1 s0 M) P) : gGo G YX9_out d Z 7 [some (.ref 141), some (.int x1)] [.int s0, .ref 141] M := by
  unfold fX9_out_7 at h
  obtain ⟨r1, e2, h⟩ := gB0_ok h
  refine go_call1 ocX9_out rfl rfl (gOb_c rfl) rfl (SX9_isYear s0 M e2) (Nat.lt_of_lt_of_le (by decide) hd) ?_
  refine go_br okX9_out rfl (fun hp => ?_) (fun hp => ?_)
  · have h := gq_pos hp h
    refine go_rn 1 (pc' := 15) (L' := [some (.ref 141), some (.int x1)]) (S' := [.int (-2 : Int32)]) (M' := M) okX9_out rfl ?_
    exact go_iret (reX9_out _ (by decide)) rfl (k0 (-2 : Int32) M h)
  · have h := gq_neg hp h
    refine go_rn 1 (pc' := 17) (L' := [some (.ref 141), some (.int x1)]) (S' := [.ref 141]) (M' := M) okX9_out rfl ?_
    obtain ⟨M3, e4, h⟩ := gB0_ok h
    refine go_call1 ocX9_out rfl rfl (gOb_c rfl) rfl (SX9_laysNow M e4) (Nat.lt_of_lt_of_le (by decide) hd) ?_
    refine go_rn 2 (pc' := 22) (L' := [some (.ref 141), some (.int x1)]) (S' := [.int x1, .ref 141]) (M' := M3) okX9_out rfl ?_
    obtain ⟨r5, e6, h⟩ := gB0_ok h
    refine go_call1 ocX9_out rfl rfl (gOb_c rfl) rfl (SX9_outBits x1 M3 e6) (Nat.lt_of_lt_of_le (by decide) hd) ?_
    exact go_iret (reX9_out _ (by decide)) rfl (k0 r5 M3 h)
def fX9_out_0 (x1 : Int32) (M : gMem) : Option (Int32 × gMem) :=
  fX9_out_7 x1 x1 (gSI M 141 0 (0 : Int32))
set_option maxRecDepth 100000 in
theorem CX9_out_0 {G : gG} {d : Nat} {Z : Option Value → gMem → Prop} (hd : 8 ≤ d) (x1 : Int32) (M : gMem) (P : Int32 × gMem → Prop) (k0 : ∀ (r : Int32) (N : gMem), P (r, N) → Z (some (.int r)) N) (h : gOKq (fX9_out_0 x1 M) P) : gGo G YX9_out d Z 0 [some (.ref 141), some (.int x1)] [] M := by
  unfold fX9_out_0 at h
  refine go_rn 2 (pc' := 2) (L' := [some (.ref 141), some (.int x1)]) (S' := [.int (0 : Int32), .ref 141]) (M' := M) okX9_out rfl ?_
  refine go_ck okX9_out rfl (gOb_c rfl) ?_
  refine go_rn 2 (pc' := 7) (L' := [some (.ref 141), some (.int x1)]) (S' := [.int x1, .ref 141]) (M' := (gSI M 141 0 (0 : Int32))) okX9_out rfl ?_
  exact go_wk (CX9_out_7 hd x1 x1 (gSI M 141 0 (0 : Int32)) P k0 h) ⟨rfl, rfl, True.intro⟩
def fX9_out (a1 : Int32) (M : gMem) : Option (Int32 × gMem) := fX9_out_0 a1 M
theorem SX9_out {G : gG} (a1 : Int32) (M : gMem) {r : Int32} {N : gMem} (h : fX9_out a1 M = some (r, N)) : gRun G YX9_out 8 [.ref 141, .int a1] M (fun r' N' => r' = some (.int r) ∧ N' = N) := gRun_in (by decide +kernel) rfl (fun d hd => go_wk (CX9_out_0 hd a1 M (fun p => p = (r, N)) (fun r N hh => by cases hh; exact ⟨rfl, rfl⟩) (gq_of h)) ⟨rfl, rfl, True.intro⟩)
def fX9_fails_8 (x1 : Int32) (s0 : Int64) (M : gMem) : Option (Int32 × gMem) :=
  gB0 (fX9_isPerson s0 M) (fun r1 => if r1 = 0 then some ((-2 : Int32), M) else gB0 (fX9_laysNow M) (fun M3 => if gIx 1 156 x1 = true then some ((M3.1 156 (Int32.toNatClampNeg x1)), M3) else none))
set_option maxRecDepth 100000 in
theorem CX9_fails_8 {G : gG} {d : Nat} {Z : Option Value → gMem → Prop} (hd : 8 ≤ d) (x1 : Int32) (s0 : Int64) (M : gMem) (P : Int32 × gMem → Prop) (k0 : ∀ (r : Int32) (N : gMem), P (r, N) → Z (some (.int r)) N) (h : gOKq (fX9_fails_8 x1 s0 M) P) : gGo G YX9_fails d Z 8 [some (.ref 141), some (.int x1)] [.long s0, .ref 141] M := by
  unfold fX9_fails_8 at h
  obtain ⟨r1, e2, h⟩ := gB0_ok h
  refine go_call1 ocX9_fails rfl rfl (gOb_c rfl) rfl (SX9_isPerson s0 M e2) (Nat.lt_of_lt_of_le (by decide) hd) ?_
  refine go_br okX9_fails rfl (fun hp => ?_) (fun hp => ?_)
  · have h := gq_pos hp h
    refine go_rn 1 (pc' := 16) (L' := [some (.ref 141), some (.int x1)]) (S' := [.int (-2 : Int32)]) (M' := M) okX9_fails rfl ?_
    exact go_iret (reX9_fails _ (by decide)) rfl (k0 (-2 : Int32) M h)
  · have h := gq_neg hp h
    refine go_rn 1 (pc' := 18) (L' := [some (.ref 141), some (.int x1)]) (S' := [.ref 141]) (M' := M) okX9_fails rfl ?_
    obtain ⟨M3, e4, h⟩ := gB0_ok h
    refine go_call1 ocX9_fails rfl rfl (gOb_c rfl) rfl (SX9_laysNow M e4) (Nat.lt_of_lt_of_le (by decide) hd) ?_
    refine go_rn 1 (pc' := 22) (L' := [some (.ref 141), some (.int x1)]) (S' := [.ref 141]) (M' := M3) okX9_fails rfl ?_
    refine go_ck okX9_fails rfl (gOb_c rfl) ?_
    refine go_rn 1 (pc' := 26) (L' := [some (.ref 141), some (.int x1)]) (S' := [.int x1, .ref 156]) (M' := M3) okX9_fails rfl ?_
    obtain ⟨c5, h⟩ := gq_if h
    refine go_ck okX9_fails rfl c5 ?_
    exact go_iret (reX9_fails _ (by decide)) rfl (k0 (M3.1 156 (Int32.toNatClampNeg x1)) M3 h)
def fX9_fails_0 (x1 : Int32) (M : gMem) : Option (Int32 × gMem) :=
  fX9_fails_8 x1 (Int32.toInt64 x1) (gSI M 141 0 (0 : Int32))
set_option maxRecDepth 100000 in
theorem CX9_fails_0 {G : gG} {d : Nat} {Z : Option Value → gMem → Prop} (hd : 8 ≤ d) (x1 : Int32) (M : gMem) (P : Int32 × gMem → Prop) (k0 : ∀ (r : Int32) (N : gMem), P (r, N) → Z (some (.int r)) N) (h : gOKq (fX9_fails_0 x1 M) P) : gGo G YX9_fails d Z 0 [some (.ref 141), some (.int x1)] [] M := by
  unfold fX9_fails_0 at h
  refine go_rn 2 (pc' := 2) (L' := [some (.ref 141), some (.int x1)]) (S' := [.int (0 : Int32), .ref 141]) (M' := M) okX9_fails rfl ?_
  refine go_ck okX9_fails rfl (gOb_c rfl) ?_
  refine go_rn 3 (pc' := 8) (L' := [some (.ref 141), some (.int x1)]) (S' := [.long (Int32.toInt64 x1), .ref 141]) (M' := (gSI M 141 0 (0 : Int32))) okX9_fails rfl ?_
  exact go_wk (CX9_fails_8 hd x1 (Int32.toInt64 x1) (gSI M 141 0 (0 : Int32)) P k0 h) ⟨rfl, rfl, True.intro⟩
def fX9_fails (a1 : Int32) (M : gMem) : Option (Int32 × gMem) := fX9_fails_0 a1 M
theorem SX9_fails {G : gG} (a1 : Int32) (M : gMem) {r : Int32} {N : gMem} (h : fX9_fails a1 M = some (r, N)) : gRun G YX9_fails 8 [.ref 141, .int a1] M (fun r' N' => r' = some (.int r) ∧ N' = N) := gRun_in (by decide +kernel) rfl (fun d hd => go_wk (CX9_fails_0 hd a1 M (fun p => p = (r, N)) (fun r N hh => by cases hh; exact ⟨rfl, rfl⟩) (gq_of h)) ⟨rfl, rfl, True.intro⟩)
def fX9_richest_24 (x1 : Int32) (x2 : Int32) (x3 : Int32) (M : gMem) : Option (Sum (Int32 × Int32) (Int32 × gMem)) :=
  gB0 (fX9_people M) (fun r1 => if r1 ≤ x3 then some (.inr (x2, M)) else gB0 (fX9_isOut x3 x1 M) (fun r3 => if r3 = 0 then if x2 = (-1 : Int32) then some (.inl (x3, (x3 + 1))) else gB0 (fX9_firmOf x3 x1 M) (fun r5 => gB0 (fX9_fundsOf r5 x1 M) (fun r7 => gB0 (fX9_firmOf x2 x1 M) (fun r9 => gB0 (fX9_fundsOf r9 x1 M) (fun r11 => if r7 ≤ r11 then some (.inl (x2, (x3 + 1))) else some (.inl (x3, (x3 + 1))))))) else some (.inl (x2, (x3 + 1)))))
set_option maxRecDepth 100000 in
theorem CX9_richest_24 {G : gG} {d : Nat} {Z : Option Value → gMem → Prop} (hd : 8 ≤ d) (x1 : Int32) (x2 : Int32) (x3 : Int32) (M : gMem) (P : Sum (Int32 × Int32) (Int32 × gMem) → Prop) (k0 : ∀ (r : Int32) (N : gMem), P (.inr (r, N)) → Z (some (.int r)) N) (k1 : ∀ (x2 : Int32) (x3 : Int32), P (.inl (x2, x3)) → gGo G YX9_richest d Z 24 [some (.ref 141), some (.int x1), some (.int x2), some (.int x3)] [] M) (h : gOKq (fX9_richest_24 x1 x2 x3 M) P) : gGo G YX9_richest d Z 24 [some (.ref 141), some (.int x1), some (.int x2), some (.int x3)] [] M := by
  unfold fX9_richest_24 at h
  refine go_rn 2 (pc' := 26) (L' := [some (.ref 141), some (.int x1), some (.int x2), some (.int x3)]) (S' := [.ref 141, .int x3]) (M' := M) okX9_richest rfl ?_
  obtain ⟨r1, e2, h⟩ := gB0_ok h
  refine go_call1 ocX9_richest rfl rfl (gOb_c rfl) rfl (SX9_people M e2) (Nat.lt_of_lt_of_le (by decide) hd) ?_
  refine go_br okX9_richest rfl (fun hp => ?_) (fun hp => ?_)
  · have h := gq_pos hp h
    refine go_rn 1 (pc' := 80) (L' := [some (.ref 141), some (.int x1), some (.int x2), some (.int x3)]) (S' := [.int x2]) (M' := M) okX9_richest rfl ?_
    exact go_iret (reX9_richest _ (by decide)) rfl (k0 x2 M h)
  · have h := gq_neg hp h
    refine go_rn 3 (pc' := 35) (L' := [some (.ref 141), some (.int x1), some (.int x2), some (.int x3)]) (S' := [.int x1, .int x3, .ref 141]) (M' := M) okX9_richest rfl ?_
    obtain ⟨r3, e4, h⟩ := gB0_ok h
    refine go_call1 ocX9_richest rfl rfl (gOb_c rfl) rfl (SX9_isOut x3 x1 M e4) (Nat.lt_of_lt_of_le (by decide) hd) ?_
    refine go_br okX9_richest rfl (fun hp => ?_) (fun hp => ?_)
    · have h := gq_pos hp h
      refine go_rn 2 (pc' := 43) (L' := [some (.ref 141), some (.int x1), some (.int x2), some (.int x3)]) (S' := [.int (-1 : Int32), .int x2]) (M' := M) okX9_richest rfl ?_
      refine go_br okX9_richest rfl (fun hp => ?_) (fun hp => ?_)
      · have h := gq_pos hp h
        refine go_rn 4 (pc' := 24) (L' := [some (.ref 141), some (.int x1), some (.int x3), some (.int (x3 + 1))]) (S' := []) (M' := M) okX9_richest rfl ?_
        exact go_wk (k1 (x3) ((x3 + 1)) h) ⟨rfl, rfl, rfl, rfl, True.intro⟩
      · have h := gq_neg hp h
        refine go_rn 4 (pc' := 50) (L' := [some (.ref 141), some (.int x1), some (.int x2), some (.int x3)]) (S' := [.int x1, .int x3, .ref 141, .ref 141]) (M' := M) okX9_richest rfl ?_
        obtain ⟨r5, e6, h⟩ := gB0_ok h
        refine go_call1 ocX9_richest rfl rfl (gOb_c rfl) rfl (SX9_firmOf x3 x1 M e6) (Nat.lt_of_lt_of_le (by decide) hd) ?_
        refine go_rn 1 (pc' := 54) (L' := [some (.ref 141), some (.int x1), some (.int x2), some (.int x3)]) (S' := [.int x1, .int r5, .ref 141]) (M' := M) okX9_richest rfl ?_
        obtain ⟨r7, e8, h⟩ := gB0_ok h
        refine go_call1 ocX9_richest rfl rfl (gOb_c rfl) rfl (SX9_fundsOf r5 x1 M e8) (Nat.lt_of_lt_of_le (by decide) hd) ?_
        refine go_rn 4 (pc' := 61) (L' := [some (.ref 141), some (.int x1), some (.int x2), some (.int x3)]) (S' := [.int x1, .int x2, .ref 141, .ref 141, .int r7]) (M' := M) okX9_richest rfl ?_
        obtain ⟨r9, e10, h⟩ := gB0_ok h
        refine go_call1 ocX9_richest rfl rfl (gOb_c rfl) rfl (SX9_firmOf x2 x1 M e10) (Nat.lt_of_lt_of_le (by decide) hd) ?_
        refine go_rn 1 (pc' := 65) (L' := [some (.ref 141), some (.int x1), some (.int x2), some (.int x3)]) (S' := [.int x1, .int r9, .ref 141, .int r7]) (M' := M) okX9_richest rfl ?_
        obtain ⟨r11, e12, h⟩ := gB0_ok h
        refine go_call1 ocX9_richest rfl rfl (gOb_c rfl) rfl (SX9_fundsOf r9 x1 M e12) (Nat.lt_of_lt_of_le (by decide) hd) ?_
        refine go_br okX9_richest rfl (fun hp => ?_) (fun hp => ?_)
        · have h := gq_pos hp h
          refine go_rn 2 (pc' := 24) (L' := [some (.ref 141), some (.int x1), some (.int x2), some (.int (x3 + 1))]) (S' := []) (M' := M) okX9_richest rfl ?_
          exact go_wk (k1 (x2) ((x3 + 1)) h) ⟨rfl, rfl, rfl, rfl, True.intro⟩
        · have h := gq_neg hp h
          refine go_rn 4 (pc' := 24) (L' := [some (.ref 141), some (.int x1), some (.int x3), some (.int (x3 + 1))]) (S' := []) (M' := M) okX9_richest rfl ?_
          exact go_wk (k1 (x3) ((x3 + 1)) h) ⟨rfl, rfl, rfl, rfl, True.intro⟩
    · have h := gq_neg hp h
      refine go_rn 2 (pc' := 24) (L' := [some (.ref 141), some (.int x1), some (.int x2), some (.int (x3 + 1))]) (S' := []) (M' := M) okX9_richest rfl ?_
      exact go_wk (k1 (x2) ((x3 + 1)) h) ⟨rfl, rfl, rfl, rfl, True.intro⟩
def fX9_richest_24h (x1 : Int32) (x2 : Int32) (x3 : Int32) (M : gMem) : Option (Int32 × gMem) :=
  gLp (fun s : Int32 × Int32 => fX9_richest_24 x1 (s.1) (s.2) M) gFu (x2, x3)
set_option maxRecDepth 100000 in
theorem CX9_richest_24h {G : gG} {d : Nat} {Z : Option Value → gMem → Prop} (hd : 8 ≤ d) (x1 : Int32) (x2 : Int32) (x3 : Int32) (M : gMem) (P : Int32 × gMem → Prop) (k0 : ∀ (r : Int32) (N : gMem), P (r, N) → Z (some (.int r)) N) (h : gOKq (fX9_richest_24h x1 x2 x3 M) P) : gGo G YX9_richest d Z 24 [some (.ref 141), some (.int x1), some (.int x2), some (.int x3)] [] M :=
  gLp_go (K := fun s : Int32 × Int32 => gGo G YX9_richest d Z 24 [some (.ref 141), some (.int x1), some (.int s.1), some (.int s.2)] [] M) (P := P) (fun s hs => CX9_richest_24 hd (x1) (s.1) (s.2) M (Sum.elim (fun s : Int32 × Int32 => gGo G YX9_richest d Z 24 [some (.ref 141), some (.int x1), some (.int s.1), some (.int s.2)] [] M) P) k0 (fun x2 x3 hh => hh) hs) gFu (x2, x3) h
def fX9_richest_7 (x1 : Int32) (s0 : Int32) (M : gMem) : Option (Int32 × gMem) :=
  gB0 (fX9_isYear s0 M) (fun r1 => if r1 = 0 then some ((-2 : Int32), M) else gB0 (fX9_laysNow M) (fun M3 => fX9_richest_24h x1 (-1 : Int32) (0 : Int32) M3))
set_option maxRecDepth 100000 in
theorem CX9_richest_7 {G : gG} {d : Nat} {Z : Option Value → gMem → Prop} (hd : 8 ≤ d) (x1 : Int32) (s0 : Int32) (M : gMem) (P : Int32 × gMem → Prop) (k0 : ∀ (r : Int32) (N : gMem), P (r, N) → Z (some (.int r)) N) (h : gOKq (fX9_richest_7 x1 s0 M) P) : gGo G YX9_richest d Z 7 [some (.ref 141), some (.int x1), none, none] [.int s0, .ref 141] M := by
  unfold fX9_richest_7 at h
  obtain ⟨r1, e2, h⟩ := gB0_ok h
  refine go_call1 ocX9_richest rfl rfl (gOb_c rfl) rfl (SX9_isYear s0 M e2) (Nat.lt_of_lt_of_le (by decide) hd) ?_
  refine go_br okX9_richest rfl (fun hp => ?_) (fun hp => ?_)
  · have h := gq_pos hp h
    refine go_rn 1 (pc' := 15) (L' := [some (.ref 141), some (.int x1), none, none]) (S' := [.int (-2 : Int32)]) (M' := M) okX9_richest rfl ?_
    exact go_iret (reX9_richest _ (by decide)) rfl (k0 (-2 : Int32) M h)
  · have h := gq_neg hp h
    refine go_rn 1 (pc' := 17) (L' := [some (.ref 141), some (.int x1), none, none]) (S' := [.ref 141]) (M' := M) okX9_richest rfl ?_
    obtain ⟨M3, e4, h⟩ := gB0_ok h
    refine go_call1 ocX9_richest rfl rfl (gOb_c rfl) rfl (SX9_laysNow M e4) (Nat.lt_of_lt_of_le (by decide) hd) ?_
    refine go_rn 4 (pc' := 24) (L' := [some (.ref 141), some (.int x1), some (.int (-1 : Int32)), some (.int (0 : Int32))]) (S' := []) (M' := M3) okX9_richest rfl ?_
    exact go_wk (CX9_richest_24h hd x1 (-1 : Int32) (0 : Int32) M3 P k0 h) ⟨rfl, rfl, rfl, rfl, True.intro⟩
def fX9_richest_0 (x1 : Int32) (M : gMem) : Option (Int32 × gMem) :=
  fX9_richest_7 x1 x1 (gSI M 141 0 (0 : Int32))
set_option maxRecDepth 100000 in
theorem CX9_richest_0 {G : gG} {d : Nat} {Z : Option Value → gMem → Prop} (hd : 8 ≤ d) (x1 : Int32) (M : gMem) (P : Int32 × gMem → Prop) (k0 : ∀ (r : Int32) (N : gMem), P (r, N) → Z (some (.int r)) N) (h : gOKq (fX9_richest_0 x1 M) P) : gGo G YX9_richest d Z 0 [some (.ref 141), some (.int x1), none, none] [] M := by
  unfold fX9_richest_0 at h
  refine go_rn 2 (pc' := 2) (L' := [some (.ref 141), some (.int x1), none, none]) (S' := [.int (0 : Int32), .ref 141]) (M' := M) okX9_richest rfl ?_
  refine go_ck okX9_richest rfl (gOb_c rfl) ?_
  refine go_rn 2 (pc' := 7) (L' := [some (.ref 141), some (.int x1), none, none]) (S' := [.int x1, .ref 141]) (M' := (gSI M 141 0 (0 : Int32))) okX9_richest rfl ?_
  exact go_wk (CX9_richest_7 hd x1 x1 (gSI M 141 0 (0 : Int32)) P k0 h) ⟨rfl, rfl, True.intro⟩
def fX9_richest (a1 : Int32) (M : gMem) : Option (Int32 × gMem) := fX9_richest_0 a1 M
theorem SX9_richest {G : gG} (a1 : Int32) (M : gMem) {r : Int32} {N : gMem} (h : fX9_richest a1 M = some (r, N)) : gRun G YX9_richest 8 [.ref 141, .int a1] M (fun r' N' => r' = some (.int r) ∧ N' = N) := gRun_in (by decide +kernel) rfl (fun d hd => go_wk (CX9_richest_0 hd a1 M (fun p => p = (r, N)) (fun r N hh => by cases hh; exact ⟨rfl, rfl⟩) (gq_of h)) ⟨rfl, rfl, True.intro⟩)
def fX9_parts_22 (x1 : Int32) (x2 : Int32) (M : gMem) : Option (Sum (Int32) (Int32 × gMem)) :=
  gB0 (fX9_years M) (fun r1 => if r1 ≤ x2 then some (.inr ((-1 : Int32), M)) else gB0 (fX9_isToldThen x1 x2 M) (fun r3 => if r3 = 0 then some (.inr (x2, M)) else some (.inl ((x2 + 1)))))
set_option maxRecDepth 100000 in
theorem CX9_parts_22 {G : gG} {d : Nat} {Z : Option Value → gMem → Prop} (hd : 8 ≤ d) (x1 : Int32) (x2 : Int32) (M : gMem) (P : Sum (Int32) (Int32 × gMem) → Prop) (k0 : ∀ (r : Int32) (N : gMem), P (.inr (r, N)) → Z (some (.int r)) N) (k1 : ∀ (x2 : Int32), P (.inl (x2)) → gGo G YX9_parts d Z 22 [some (.ref 141), some (.int x1), some (.int x2)] [] M) (h : gOKq (fX9_parts_22 x1 x2 M) P) : gGo G YX9_parts d Z 22 [some (.ref 141), some (.int x1), some (.int x2)] [] M := by
  unfold fX9_parts_22 at h
  refine go_rn 2 (pc' := 24) (L' := [some (.ref 141), some (.int x1), some (.int x2)]) (S' := [.ref 141, .int x2]) (M' := M) okX9_parts rfl ?_
  obtain ⟨r1, e2, h⟩ := gB0_ok h
  refine go_call1 ocX9_parts rfl rfl (gOb_c rfl) rfl (SX9_years M e2) (Nat.lt_of_lt_of_le (by decide) hd) ?_
  refine go_br okX9_parts rfl (fun hp => ?_) (fun hp => ?_)
  · have h := gq_pos hp h
    refine go_rn 1 (pc' := 48) (L' := [some (.ref 141), some (.int x1), some (.int x2)]) (S' := [.int (-1 : Int32)]) (M' := M) okX9_parts rfl ?_
    exact go_iret (reX9_parts _ (by decide)) rfl (k0 (-1 : Int32) M h)
  · have h := gq_neg hp h
    refine go_rn 3 (pc' := 33) (L' := [some (.ref 141), some (.int x1), some (.int x2)]) (S' := [.int x2, .int x1, .ref 141]) (M' := M) okX9_parts rfl ?_
    obtain ⟨r3, e4, h⟩ := gB0_ok h
    refine go_call1 ocX9_parts rfl rfl (gOb_c rfl) rfl (SX9_isToldThen x1 x2 M e4) (Nat.lt_of_lt_of_le (by decide) hd) ?_
    refine go_br okX9_parts rfl (fun hp => ?_) (fun hp => ?_)
    · have h := gq_pos hp h
      refine go_rn 1 (pc' := 40) (L' := [some (.ref 141), some (.int x1), some (.int x2)]) (S' := [.int x2]) (M' := M) okX9_parts rfl ?_
      exact go_iret (reX9_parts _ (by decide)) rfl (k0 x2 M h)
    · have h := gq_neg hp h
      refine go_rn 2 (pc' := 22) (L' := [some (.ref 141), some (.int x1), some (.int (x2 + 1))]) (S' := []) (M' := M) okX9_parts rfl ?_
      exact go_wk (k1 ((x2 + 1)) h) ⟨rfl, rfl, rfl, True.intro⟩
def fX9_parts_22h (x1 : Int32) (x2 : Int32) (M : gMem) : Option (Int32 × gMem) :=
  gLp (fun s : Int32 => fX9_parts_22 x1 s M) gFu (x2)
set_option maxRecDepth 100000 in
theorem CX9_parts_22h {G : gG} {d : Nat} {Z : Option Value → gMem → Prop} (hd : 8 ≤ d) (x1 : Int32) (x2 : Int32) (M : gMem) (P : Int32 × gMem → Prop) (k0 : ∀ (r : Int32) (N : gMem), P (r, N) → Z (some (.int r)) N) (h : gOKq (fX9_parts_22h x1 x2 M) P) : gGo G YX9_parts d Z 22 [some (.ref 141), some (.int x1), some (.int x2)] [] M :=
  gLp_go (K := fun s : Int32 => gGo G YX9_parts d Z 22 [some (.ref 141), some (.int x1), some (.int s)] [] M) (P := P) (fun s hs => CX9_parts_22 hd (x1) (s) M (Sum.elim (fun s : Int32 => gGo G YX9_parts d Z 22 [some (.ref 141), some (.int x1), some (.int s)] [] M) P) k0 (fun x2 hh => hh) hs) gFu (x2) h
def fX9_parts_7 (x1 : Int32) (s0 : Int32) (M : gMem) : Option (Int32 × gMem) :=
  gB0 (fX9_isJoin s0 M) (fun r1 => if r1 = 0 then some ((-2 : Int32), M) else gB0 (fX9_laysNow M) (fun M3 => fX9_parts_22h x1 (0 : Int32) M3))
set_option maxRecDepth 100000 in
theorem CX9_parts_7 {G : gG} {d : Nat} {Z : Option Value → gMem → Prop} (hd : 8 ≤ d) (x1 : Int32) (s0 : Int32) (M : gMem) (P : Int32 × gMem → Prop) (k0 : ∀ (r : Int32) (N : gMem), P (r, N) → Z (some (.int r)) N) (h : gOKq (fX9_parts_7 x1 s0 M) P) : gGo G YX9_parts d Z 7 [some (.ref 141), some (.int x1), none] [.int s0, .ref 141] M := by
  unfold fX9_parts_7 at h
  obtain ⟨r1, e2, h⟩ := gB0_ok h
  refine go_call1 ocX9_parts rfl rfl (gOb_c rfl) rfl (SX9_isJoin s0 M e2) (Nat.lt_of_lt_of_le (by decide) hd) ?_
  refine go_br okX9_parts rfl (fun hp => ?_) (fun hp => ?_)
  · have h := gq_pos hp h
    refine go_rn 1 (pc' := 15) (L' := [some (.ref 141), some (.int x1), none]) (S' := [.int (-2 : Int32)]) (M' := M) okX9_parts rfl ?_
    exact go_iret (reX9_parts _ (by decide)) rfl (k0 (-2 : Int32) M h)
  · have h := gq_neg hp h
    refine go_rn 1 (pc' := 17) (L' := [some (.ref 141), some (.int x1), none]) (S' := [.ref 141]) (M' := M) okX9_parts rfl ?_
    obtain ⟨M3, e4, h⟩ := gB0_ok h
    refine go_call1 ocX9_parts rfl rfl (gOb_c rfl) rfl (SX9_laysNow M e4) (Nat.lt_of_lt_of_le (by decide) hd) ?_
    refine go_rn 2 (pc' := 22) (L' := [some (.ref 141), some (.int x1), some (.int (0 : Int32))]) (S' := []) (M' := M3) okX9_parts rfl ?_
    exact go_wk (CX9_parts_22h hd x1 (0 : Int32) M3 P k0 h) ⟨rfl, rfl, rfl, True.intro⟩
def fX9_parts_0 (x1 : Int32) (M : gMem) : Option (Int32 × gMem) :=
  fX9_parts_7 x1 x1 (gSI M 141 0 (0 : Int32))
set_option maxRecDepth 100000 in
theorem CX9_parts_0 {G : gG} {d : Nat} {Z : Option Value → gMem → Prop} (hd : 8 ≤ d) (x1 : Int32) (M : gMem) (P : Int32 × gMem → Prop) (k0 : ∀ (r : Int32) (N : gMem), P (r, N) → Z (some (.int r)) N) (h : gOKq (fX9_parts_0 x1 M) P) : gGo G YX9_parts d Z 0 [some (.ref 141), some (.int x1), none] [] M := by
  unfold fX9_parts_0 at h
  refine go_rn 2 (pc' := 2) (L' := [some (.ref 141), some (.int x1), none]) (S' := [.int (0 : Int32), .ref 141]) (M' := M) okX9_parts rfl ?_
  refine go_ck okX9_parts rfl (gOb_c rfl) ?_
  refine go_rn 2 (pc' := 7) (L' := [some (.ref 141), some (.int x1), none]) (S' := [.int x1, .ref 141]) (M' := (gSI M 141 0 (0 : Int32))) okX9_parts rfl ?_
  exact go_wk (CX9_parts_7 hd x1 x1 (gSI M 141 0 (0 : Int32)) P k0 h) ⟨rfl, rfl, True.intro⟩
def fX9_parts (a1 : Int32) (M : gMem) : Option (Int32 × gMem) := fX9_parts_0 a1 M
theorem SX9_parts {G : gG} (a1 : Int32) (M : gMem) {r : Int32} {N : gMem} (h : fX9_parts a1 M = some (r, N)) : gRun G YX9_parts 8 [.ref 141, .int a1] M (fun r' N' => r' = some (.int r) ∧ N' = N) := gRun_in (by decide +kernel) rfl (fun d hd => go_wk (CX9_parts_0 hd a1 M (fun p => p = (r, N)) (fun r N hh => by cases hh; exact ⟨rfl, rfl⟩) (gq_of h)) ⟨rfl, rfl, True.intro⟩)
def fX9_merger_21 (x1 : Int32) (M : gMem) : Option (Sum (Int32) (Int32 × gMem)) :=
  gB0 (fX9_years M) (fun r1 => if r1 ≤ x1 then some (.inr ((-1 : Int32), M)) else gB0 (fX9_people M) (fun r3 => if r3 ≤ 0 then some (.inl ((x1 + 1))) else gB0 (fX9_firmOf (0 : Int32) x1 M) (fun r5 => gB0 (fX9_people M) (fun r7 => if r5 = (((1 : Int32) <<< (r7 &&& 31)) - (1 : Int32)) then some (.inr (x1, M)) else some (.inl ((x1 + 1)))))))
set_option maxRecDepth 100000 in
theorem CX9_merger_21 {G : gG} {d : Nat} {Z : Option Value → gMem → Prop} (hd : 8 ≤ d) (x1 : Int32) (M : gMem) (P : Sum (Int32) (Int32 × gMem) → Prop) (k0 : ∀ (r : Int32) (N : gMem), P (.inr (r, N)) → Z (some (.int r)) N) (k1 : ∀ (x1 : Int32), P (.inl (x1)) → gGo G YX9_merger d Z 21 [some (.ref 141), some (.int x1)] [] M) (h : gOKq (fX9_merger_21 x1 M) P) : gGo G YX9_merger d Z 21 [some (.ref 141), some (.int x1)] [] M := by
  unfold fX9_merger_21 at h
  refine go_rn 2 (pc' := 23) (L' := [some (.ref 141), some (.int x1)]) (S' := [.ref 141, .int x1]) (M' := M) okX9_merger rfl ?_
  obtain ⟨r1, e2, h⟩ := gB0_ok h
  refine go_call1 ocX9_merger rfl rfl (gOb_c rfl) rfl (SX9_years M e2) (Nat.lt_of_lt_of_le (by decide) hd) ?_
  refine go_br okX9_merger rfl (fun hp => ?_) (fun hp => ?_)
  · have h := gq_pos hp h
    refine go_rn 1 (pc' := 62) (L' := [some (.ref 141), some (.int x1)]) (S' := [.int (-1 : Int32)]) (M' := M) okX9_merger rfl ?_
    exact go_iret (reX9_merger _ (by decide)) rfl (k0 (-1 : Int32) M h)
  · have h := gq_neg hp h
    refine go_rn 1 (pc' := 30) (L' := [some (.ref 141), some (.int x1)]) (S' := [.ref 141]) (M' := M) okX9_merger rfl ?_
    obtain ⟨r3, e4, h⟩ := gB0_ok h
    refine go_call1 ocX9_merger rfl rfl (gOb_c rfl) rfl (SX9_people M e4) (Nat.lt_of_lt_of_le (by decide) hd) ?_
    refine go_br okX9_merger rfl (fun hp => ?_) (fun hp => ?_)
    · have h := gq_pos hp h
      refine go_rn 2 (pc' := 21) (L' := [some (.ref 141), some (.int (x1 + 1))]) (S' := []) (M' := M) okX9_merger rfl ?_
      exact go_wk (k1 ((x1 + 1)) h) ⟨rfl, rfl, True.intro⟩
    · have h := gq_neg hp h
      refine go_rn 3 (pc' := 39) (L' := [some (.ref 141), some (.int x1)]) (S' := [.int x1, .int (0 : Int32), .ref 141]) (M' := M) okX9_merger rfl ?_
      obtain ⟨r5, e6, h⟩ := gB0_ok h
      refine go_call1 ocX9_merger rfl rfl (gOb_c rfl) rfl (SX9_firmOf (0 : Int32) x1 M e6) (Nat.lt_of_lt_of_le (by decide) hd) ?_
      refine go_rn 2 (pc' := 44) (L' := [some (.ref 141), some (.int x1)]) (S' := [.ref 141, .int (1 : Int32), .int r5]) (M' := M) okX9_merger rfl ?_
      obtain ⟨r7, e8, h⟩ := gB0_ok h
      refine go_call1 ocX9_merger rfl rfl (gOb_c rfl) rfl (SX9_people M e8) (Nat.lt_of_lt_of_le (by decide) hd) ?_
      refine go_rn 3 (pc' := 50) (L' := [some (.ref 141), some (.int x1)]) (S' := [.int (((1 : Int32) <<< (r7 &&& 31)) - (1 : Int32)), .int r5]) (M' := M) okX9_merger rfl ?_
      refine go_br okX9_merger rfl (fun hp => ?_) (fun hp => ?_)
      · have h := gq_pos hp h
        refine go_rn 1 (pc' := 54) (L' := [some (.ref 141), some (.int x1)]) (S' := [.int x1]) (M' := M) okX9_merger rfl ?_
        exact go_iret (reX9_merger _ (by decide)) rfl (k0 x1 M h)
      · have h := gq_neg hp h
        refine go_rn 2 (pc' := 21) (L' := [some (.ref 141), some (.int (x1 + 1))]) (S' := []) (M' := M) okX9_merger rfl ?_
        exact go_wk (k1 ((x1 + 1)) h) ⟨rfl, rfl, True.intro⟩
def fX9_merger_21h (x1 : Int32) (M : gMem) : Option (Int32 × gMem) :=
  gLp (fun s : Int32 => fX9_merger_21 s M) gFu (x1)
set_option maxRecDepth 100000 in
theorem CX9_merger_21h {G : gG} {d : Nat} {Z : Option Value → gMem → Prop} (hd : 8 ≤ d) (x1 : Int32) (M : gMem) (P : Int32 × gMem → Prop) (k0 : ∀ (r : Int32) (N : gMem), P (r, N) → Z (some (.int r)) N) (h : gOKq (fX9_merger_21h x1 M) P) : gGo G YX9_merger d Z 21 [some (.ref 141), some (.int x1)] [] M :=
  gLp_go (K := fun s : Int32 => gGo G YX9_merger d Z 21 [some (.ref 141), some (.int s)] [] M) (P := P) (fun s hs => CX9_merger_21 hd (s) M (Sum.elim (fun s : Int32 => gGo G YX9_merger d Z 21 [some (.ref 141), some (.int s)] [] M) P) k0 (fun x1 hh => hh) hs) gFu (x1) h
def fX9_merger_6 (M : gMem) : Option (Int32 × gMem) :=
  gB0 (fX9_isCity M) (fun r1 => if r1 = 0 then some ((-2 : Int32), M) else gB0 (fX9_laysNow M) (fun M3 => fX9_merger_21h (0 : Int32) M3))
set_option maxRecDepth 100000 in
theorem CX9_merger_6 {G : gG} {d : Nat} {Z : Option Value → gMem → Prop} (hd : 8 ≤ d) (M : gMem) (P : Int32 × gMem → Prop) (k0 : ∀ (r : Int32) (N : gMem), P (r, N) → Z (some (.int r)) N) (h : gOKq (fX9_merger_6 M) P) : gGo G YX9_merger d Z 6 [some (.ref 141), none] [.ref 141] M := by
  unfold fX9_merger_6 at h
  obtain ⟨r1, e2, h⟩ := gB0_ok h
  refine go_call1 ocX9_merger rfl rfl (gOb_c rfl) rfl (SX9_isCity M e2) (Nat.lt_of_lt_of_le (by decide) hd) ?_
  refine go_br okX9_merger rfl (fun hp => ?_) (fun hp => ?_)
  · have h := gq_pos hp h
    refine go_rn 1 (pc' := 14) (L' := [some (.ref 141), none]) (S' := [.int (-2 : Int32)]) (M' := M) okX9_merger rfl ?_
    exact go_iret (reX9_merger _ (by decide)) rfl (k0 (-2 : Int32) M h)
  · have h := gq_neg hp h
    refine go_rn 1 (pc' := 16) (L' := [some (.ref 141), none]) (S' := [.ref 141]) (M' := M) okX9_merger rfl ?_
    obtain ⟨M3, e4, h⟩ := gB0_ok h
    refine go_call1 ocX9_merger rfl rfl (gOb_c rfl) rfl (SX9_laysNow M e4) (Nat.lt_of_lt_of_le (by decide) hd) ?_
    refine go_rn 2 (pc' := 21) (L' := [some (.ref 141), some (.int (0 : Int32))]) (S' := []) (M' := M3) okX9_merger rfl ?_
    exact go_wk (CX9_merger_21h hd (0 : Int32) M3 P k0 h) ⟨rfl, rfl, True.intro⟩
def fX9_merger_0 (M : gMem) : Option (Int32 × gMem) :=
  fX9_merger_6 (gSI M 141 0 (0 : Int32))
set_option maxRecDepth 100000 in
theorem CX9_merger_0 {G : gG} {d : Nat} {Z : Option Value → gMem → Prop} (hd : 8 ≤ d) (M : gMem) (P : Int32 × gMem → Prop) (k0 : ∀ (r : Int32) (N : gMem), P (r, N) → Z (some (.int r)) N) (h : gOKq (fX9_merger_0 M) P) : gGo G YX9_merger d Z 0 [some (.ref 141), none] [] M := by
  unfold fX9_merger_0 at h
  refine go_rn 2 (pc' := 2) (L' := [some (.ref 141), none]) (S' := [.int (0 : Int32), .ref 141]) (M' := M) okX9_merger rfl ?_
  refine go_ck okX9_merger rfl (gOb_c rfl) ?_
  refine go_rn 1 (pc' := 6) (L' := [some (.ref 141), none]) (S' := [.ref 141]) (M' := (gSI M 141 0 (0 : Int32))) okX9_merger rfl ?_
  exact go_wk (CX9_merger_6 hd (gSI M 141 0 (0 : Int32)) P k0 h) ⟨rfl, True.intro⟩
def fX9_merger (M : gMem) : Option (Int32 × gMem) := fX9_merger_0 M
theorem SX9_merger {G : gG} (M : gMem) {r : Int32} {N : gMem} (h : fX9_merger M = some (r, N)) : gRun G YX9_merger 8 [.ref 141] M (fun r' N' => r' = some (.int r) ∧ N' = N) := gRun_in (by decide +kernel) rfl (fun d hd => go_wk (CX9_merger_0 hd M (fun p => p = (r, N)) (fun r N hh => by cases hh; exact ⟨rfl, rfl⟩) (gq_of h)) ⟨rfl, True.intro⟩)
def fX9_apart_23 (x1 : Int32) (x2 : Int32) (x3 : Int32) (M : gMem) : Option (Sum (Int32) (Int32 × gMem)) :=
  gB0 (fX9_years M) (fun r1 => if r1 ≤ x3 then some (.inr ((-1 : Int32), M)) else gB0 (fX9_firmOf x1 x3 M) (fun r3 => gB0 (fX9_isBit r3 x2 M) (fun r5 => if r5 = 0 then some (.inr (x3, M)) else some (.inl ((x3 + 1))))))
set_option maxRecDepth 100000 in
theorem CX9_apart_23 {G : gG} {d : Nat} {Z : Option Value → gMem → Prop} (hd : 8 ≤ d) (x1 : Int32) (x2 : Int32) (x3 : Int32) (M : gMem) (P : Sum (Int32) (Int32 × gMem) → Prop) (k0 : ∀ (r : Int32) (N : gMem), P (.inr (r, N)) → Z (some (.int r)) N) (k1 : ∀ (x3 : Int32), P (.inl (x3)) → gGo G YX9_apart d Z 23 [some (.ref 141), some (.int x1), some (.int x2), some (.int x3)] [] M) (h : gOKq (fX9_apart_23 x1 x2 x3 M) P) : gGo G YX9_apart d Z 23 [some (.ref 141), some (.int x1), some (.int x2), some (.int x3)] [] M := by
  unfold fX9_apart_23 at h
  refine go_rn 2 (pc' := 25) (L' := [some (.ref 141), some (.int x1), some (.int x2), some (.int x3)]) (S' := [.ref 141, .int x3]) (M' := M) okX9_apart rfl ?_
  obtain ⟨r1, e2, h⟩ := gB0_ok h
  refine go_call1 ocX9_apart rfl rfl (gOb_c rfl) rfl (SX9_years M e2) (Nat.lt_of_lt_of_le (by decide) hd) ?_
  refine go_br okX9_apart rfl (fun hp => ?_) (fun hp => ?_)
  · have h := gq_pos hp h
    refine go_rn 1 (pc' := 53) (L' := [some (.ref 141), some (.int x1), some (.int x2), some (.int x3)]) (S' := [.int (-1 : Int32)]) (M' := M) okX9_apart rfl ?_
    exact go_iret (reX9_apart _ (by decide)) rfl (k0 (-1 : Int32) M h)
  · have h := gq_neg hp h
    refine go_rn 3 (pc' := 34) (L' := [some (.ref 141), some (.int x1), some (.int x2), some (.int x3)]) (S' := [.int x3, .int x1, .ref 141]) (M' := M) okX9_apart rfl ?_
    obtain ⟨r3, e4, h⟩ := gB0_ok h
    refine go_call1 ocX9_apart rfl rfl (gOb_c rfl) rfl (SX9_firmOf x1 x3 M e4) (Nat.lt_of_lt_of_le (by decide) hd) ?_
    refine go_rn 1 (pc' := 38) (L' := [some (.ref 141), some (.int x1), some (.int x2), some (.int x3)]) (S' := [.int x2, .int r3]) (M' := M) okX9_apart rfl ?_
    obtain ⟨r5, e6, h⟩ := gB0_ok h
    refine go_call1 ocX9_apart rfl rfl rfl rfl (SX9_isBit r3 x2 M e6) (Nat.lt_of_lt_of_le (by decide) hd) ?_
    refine go_br okX9_apart rfl (fun hp => ?_) (fun hp => ?_)
    · have h := gq_pos hp h
      refine go_rn 1 (pc' := 45) (L' := [some (.ref 141), some (.int x1), some (.int x2), some (.int x3)]) (S' := [.int x3]) (M' := M) okX9_apart rfl ?_
      exact go_iret (reX9_apart _ (by decide)) rfl (k0 x3 M h)
    · have h := gq_neg hp h
      refine go_rn 2 (pc' := 23) (L' := [some (.ref 141), some (.int x1), some (.int x2), some (.int (x3 + 1))]) (S' := []) (M' := M) okX9_apart rfl ?_
      exact go_wk (k1 ((x3 + 1)) h) ⟨rfl, rfl, rfl, rfl, True.intro⟩
def fX9_apart_23h (x1 : Int32) (x2 : Int32) (x3 : Int32) (M : gMem) : Option (Int32 × gMem) :=
  gLp (fun s : Int32 => fX9_apart_23 x1 x2 s M) gFu (x3)
set_option maxRecDepth 100000 in
theorem CX9_apart_23h {G : gG} {d : Nat} {Z : Option Value → gMem → Prop} (hd : 8 ≤ d) (x1 : Int32) (x2 : Int32) (x3 : Int32) (M : gMem) (P : Int32 × gMem → Prop) (k0 : ∀ (r : Int32) (N : gMem), P (r, N) → Z (some (.int r)) N) (h : gOKq (fX9_apart_23h x1 x2 x3 M) P) : gGo G YX9_apart d Z 23 [some (.ref 141), some (.int x1), some (.int x2), some (.int x3)] [] M :=
  gLp_go (K := fun s : Int32 => gGo G YX9_apart d Z 23 [some (.ref 141), some (.int x1), some (.int x2), some (.int s)] [] M) (P := P) (fun s hs => CX9_apart_23 hd (x1) (x2) (s) M (Sum.elim (fun s : Int32 => gGo G YX9_apart d Z 23 [some (.ref 141), some (.int x1), some (.int x2), some (.int s)] [] M) P) k0 (fun x3 hh => hh) hs) gFu (x3) h
def fX9_apart_8 (x1 : Int32) (x2 : Int32) (s0 : Int32) (s1 : Int32) (M : gMem) : Option (Int32 × gMem) :=
  gB0 (fX9_areTwo s1 s0 M) (fun r1 => if r1 = 0 then some ((-2 : Int32), M) else gB0 (fX9_laysNow M) (fun M3 => fX9_apart_23h x1 x2 (0 : Int32) M3))
set_option maxRecDepth 100000 in
theorem CX9_apart_8 {G : gG} {d : Nat} {Z : Option Value → gMem → Prop} (hd : 8 ≤ d) (x1 : Int32) (x2 : Int32) (s0 : Int32) (s1 : Int32) (M : gMem) (P : Int32 × gMem → Prop) (k0 : ∀ (r : Int32) (N : gMem), P (r, N) → Z (some (.int r)) N) (h : gOKq (fX9_apart_8 x1 x2 s0 s1 M) P) : gGo G YX9_apart d Z 8 [some (.ref 141), some (.int x1), some (.int x2), none] [.int s0, .int s1, .ref 141] M := by
  unfold fX9_apart_8 at h
  obtain ⟨r1, e2, h⟩ := gB0_ok h
  refine go_call1 ocX9_apart rfl rfl (gOb_c rfl) rfl (SX9_areTwo s1 s0 M e2) (Nat.lt_of_lt_of_le (by decide) hd) ?_
  refine go_br okX9_apart rfl (fun hp => ?_) (fun hp => ?_)
  · have h := gq_pos hp h
    refine go_rn 1 (pc' := 16) (L' := [some (.ref 141), some (.int x1), some (.int x2), none]) (S' := [.int (-2 : Int32)]) (M' := M) okX9_apart rfl ?_
    exact go_iret (reX9_apart _ (by decide)) rfl (k0 (-2 : Int32) M h)
  · have h := gq_neg hp h
    refine go_rn 1 (pc' := 18) (L' := [some (.ref 141), some (.int x1), some (.int x2), none]) (S' := [.ref 141]) (M' := M) okX9_apart rfl ?_
    obtain ⟨M3, e4, h⟩ := gB0_ok h
    refine go_call1 ocX9_apart rfl rfl (gOb_c rfl) rfl (SX9_laysNow M e4) (Nat.lt_of_lt_of_le (by decide) hd) ?_
    refine go_rn 2 (pc' := 23) (L' := [some (.ref 141), some (.int x1), some (.int x2), some (.int (0 : Int32))]) (S' := []) (M' := M3) okX9_apart rfl ?_
    exact go_wk (CX9_apart_23h hd x1 x2 (0 : Int32) M3 P k0 h) ⟨rfl, rfl, rfl, rfl, True.intro⟩
def fX9_apart_0 (x1 : Int32) (x2 : Int32) (M : gMem) : Option (Int32 × gMem) :=
  fX9_apart_8 x1 x2 x2 x1 (gSI M 141 0 (0 : Int32))
set_option maxRecDepth 100000 in
theorem CX9_apart_0 {G : gG} {d : Nat} {Z : Option Value → gMem → Prop} (hd : 8 ≤ d) (x1 : Int32) (x2 : Int32) (M : gMem) (P : Int32 × gMem → Prop) (k0 : ∀ (r : Int32) (N : gMem), P (r, N) → Z (some (.int r)) N) (h : gOKq (fX9_apart_0 x1 x2 M) P) : gGo G YX9_apart d Z 0 [some (.ref 141), some (.int x1), some (.int x2), none] [] M := by
  unfold fX9_apart_0 at h
  refine go_rn 2 (pc' := 2) (L' := [some (.ref 141), some (.int x1), some (.int x2), none]) (S' := [.int (0 : Int32), .ref 141]) (M' := M) okX9_apart rfl ?_
  refine go_ck okX9_apart rfl (gOb_c rfl) ?_
  refine go_rn 3 (pc' := 8) (L' := [some (.ref 141), some (.int x1), some (.int x2), none]) (S' := [.int x2, .int x1, .ref 141]) (M' := (gSI M 141 0 (0 : Int32))) okX9_apart rfl ?_
  exact go_wk (CX9_apart_8 hd x1 x2 x2 x1 (gSI M 141 0 (0 : Int32)) P k0 h) ⟨rfl, rfl, rfl, True.intro⟩
def fX9_apart (a1 : Int32) (a2 : Int32) (M : gMem) : Option (Int32 × gMem) := fX9_apart_0 a1 a2 M
theorem SX9_apart {G : gG} (a1 : Int32) (a2 : Int32) (M : gMem) {r : Int32} {N : gMem} (h : fX9_apart a1 a2 M = some (r, N)) : gRun G YX9_apart 8 [.ref 141, .int a1, .int a2] M (fun r' N' => r' = some (.int r) ∧ N' = N) := gRun_in (by decide +kernel) rfl (fun d hd => go_wk (CX9_apart_0 hd a1 a2 M (fun p => p = (r, N)) (fun r N hh => by cases hh; exact ⟨rfl, rfl⟩) (gq_of h)) ⟨rfl, rfl, rfl, True.intro⟩)
def fX9_singles_24 (x1 : Int32) (x2 : Int32) (x3 : Int32) (M : gMem) : Option (Sum (Int32 × Int32) (Int32 × gMem)) :=
  gB0 (fX9_people M) (fun r1 => if r1 ≤ x3 then some (.inr (x2, M)) else gB0 (fX9_firmOf x3 x1 M) (fun r3 => if r3 = ((1 : Int32) <<< (x3 &&& 31)) then some (.inl ((x2 ||| ((1 : Int32) <<< (x3 &&& 31))), (x3 + 1))) else some (.inl ((x2 ||| (0 : Int32)), (x3 + 1)))))
set_option maxRecDepth 100000 in
theorem CX9_singles_24 {G : gG} {d : Nat} {Z : Option Value → gMem → Prop} (hd : 8 ≤ d) (x1 : Int32) (x2 : Int32) (x3 : Int32) (M : gMem) (P : Sum (Int32 × Int32) (Int32 × gMem) → Prop) (k0 : ∀ (r : Int32) (N : gMem), P (.inr (r, N)) → Z (some (.int r)) N) (k1 : ∀ (x2 : Int32) (x3 : Int32), P (.inl (x2, x3)) → gGo G YX9_singles d Z 24 [some (.ref 141), some (.int x1), some (.int x2), some (.int x3)] [] M) (h : gOKq (fX9_singles_24 x1 x2 x3 M) P) : gGo G YX9_singles d Z 24 [some (.ref 141), some (.int x1), some (.int x2), some (.int x3)] [] M := by
  unfold fX9_singles_24 at h
  refine go_rn 2 (pc' := 26) (L' := [some (.ref 141), some (.int x1), some (.int x2), some (.int x3)]) (S' := [.ref 141, .int x3]) (M' := M) okX9_singles rfl ?_
  obtain ⟨r1, e2, h⟩ := gB0_ok h
  refine go_call1 ocX9_singles rfl rfl (gOb_c rfl) rfl (SX9_people M e2) (Nat.lt_of_lt_of_le (by decide) hd) ?_
  refine go_br okX9_singles rfl (fun hp => ?_) (fun hp => ?_)
  · have h := gq_pos hp h
    refine go_rn 1 (pc' := 61) (L' := [some (.ref 141), some (.int x1), some (.int x2), some (.int x3)]) (S' := [.int x2]) (M' := M) okX9_singles rfl ?_
    exact go_iret (reX9_singles _ (by decide)) rfl (k0 x2 M h)
  · have h := gq_neg hp h
    refine go_rn 4 (pc' := 36) (L' := [some (.ref 141), some (.int x1), some (.int x2), some (.int x3)]) (S' := [.int x1, .int x3, .ref 141, .int x2]) (M' := M) okX9_singles rfl ?_
    obtain ⟨r3, e4, h⟩ := gB0_ok h
    refine go_call1 ocX9_singles rfl rfl (gOb_c rfl) rfl (SX9_firmOf x3 x1 M e4) (Nat.lt_of_lt_of_le (by decide) hd) ?_
    refine go_rn 3 (pc' := 42) (L' := [some (.ref 141), some (.int x1), some (.int x2), some (.int x3)]) (S' := [.int ((1 : Int32) <<< (x3 &&& 31)), .int r3, .int x2]) (M' := M) okX9_singles rfl ?_
    refine go_br okX9_singles rfl (fun hp => ?_) (fun hp => ?_)
    · have h := gq_pos hp h
      refine go_rn 8 (pc' := 24) (L' := [some (.ref 141), some (.int x1), some (.int (x2 ||| ((1 : Int32) <<< (x3 &&& 31)))), some (.int (x3 + 1))]) (S' := []) (M' := M) okX9_singles rfl ?_
      exact go_wk (k1 ((x2 ||| ((1 : Int32) <<< (x3 &&& 31)))) ((x3 + 1)) h) ⟨rfl, rfl, rfl, rfl, True.intro⟩
    · have h := gq_neg hp h
      refine go_rn 5 (pc' := 24) (L' := [some (.ref 141), some (.int x1), some (.int (x2 ||| (0 : Int32))), some (.int (x3 + 1))]) (S' := []) (M' := M) okX9_singles rfl ?_
      exact go_wk (k1 ((x2 ||| (0 : Int32))) ((x3 + 1)) h) ⟨rfl, rfl, rfl, rfl, True.intro⟩
def fX9_singles_24h (x1 : Int32) (x2 : Int32) (x3 : Int32) (M : gMem) : Option (Int32 × gMem) :=
  gLp (fun s : Int32 × Int32 => fX9_singles_24 x1 (s.1) (s.2) M) gFu (x2, x3)
set_option maxRecDepth 100000 in
theorem CX9_singles_24h {G : gG} {d : Nat} {Z : Option Value → gMem → Prop} (hd : 8 ≤ d) (x1 : Int32) (x2 : Int32) (x3 : Int32) (M : gMem) (P : Int32 × gMem → Prop) (k0 : ∀ (r : Int32) (N : gMem), P (r, N) → Z (some (.int r)) N) (h : gOKq (fX9_singles_24h x1 x2 x3 M) P) : gGo G YX9_singles d Z 24 [some (.ref 141), some (.int x1), some (.int x2), some (.int x3)] [] M :=
  gLp_go (K := fun s : Int32 × Int32 => gGo G YX9_singles d Z 24 [some (.ref 141), some (.int x1), some (.int s.1), some (.int s.2)] [] M) (P := P) (fun s hs => CX9_singles_24 hd (x1) (s.1) (s.2) M (Sum.elim (fun s : Int32 × Int32 => gGo G YX9_singles d Z 24 [some (.ref 141), some (.int x1), some (.int s.1), some (.int s.2)] [] M) P) k0 (fun x2 x3 hh => hh) hs) gFu (x2, x3) h
def fX9_singles_7 (x1 : Int32) (s0 : Int32) (M : gMem) : Option (Int32 × gMem) :=
  gB0 (fX9_isYear s0 M) (fun r1 => if r1 = 0 then some ((-2 : Int32), M) else gB0 (fX9_laysNow M) (fun M3 => fX9_singles_24h x1 (0 : Int32) (0 : Int32) M3))
set_option maxRecDepth 100000 in
theorem CX9_singles_7 {G : gG} {d : Nat} {Z : Option Value → gMem → Prop} (hd : 8 ≤ d) (x1 : Int32) (s0 : Int32) (M : gMem) (P : Int32 × gMem → Prop) (k0 : ∀ (r : Int32) (N : gMem), P (r, N) → Z (some (.int r)) N) (h : gOKq (fX9_singles_7 x1 s0 M) P) : gGo G YX9_singles d Z 7 [some (.ref 141), some (.int x1), none, none] [.int s0, .ref 141] M := by
  unfold fX9_singles_7 at h
  obtain ⟨r1, e2, h⟩ := gB0_ok h
  refine go_call1 ocX9_singles rfl rfl (gOb_c rfl) rfl (SX9_isYear s0 M e2) (Nat.lt_of_lt_of_le (by decide) hd) ?_
  refine go_br okX9_singles rfl (fun hp => ?_) (fun hp => ?_)
  · have h := gq_pos hp h
    refine go_rn 1 (pc' := 15) (L' := [some (.ref 141), some (.int x1), none, none]) (S' := [.int (-2 : Int32)]) (M' := M) okX9_singles rfl ?_
    exact go_iret (reX9_singles _ (by decide)) rfl (k0 (-2 : Int32) M h)
  · have h := gq_neg hp h
    refine go_rn 1 (pc' := 17) (L' := [some (.ref 141), some (.int x1), none, none]) (S' := [.ref 141]) (M' := M) okX9_singles rfl ?_
    obtain ⟨M3, e4, h⟩ := gB0_ok h
    refine go_call1 ocX9_singles rfl rfl (gOb_c rfl) rfl (SX9_laysNow M e4) (Nat.lt_of_lt_of_le (by decide) hd) ?_
    refine go_rn 4 (pc' := 24) (L' := [some (.ref 141), some (.int x1), some (.int (0 : Int32)), some (.int (0 : Int32))]) (S' := []) (M' := M3) okX9_singles rfl ?_
    exact go_wk (CX9_singles_24h hd x1 (0 : Int32) (0 : Int32) M3 P k0 h) ⟨rfl, rfl, rfl, rfl, True.intro⟩
def fX9_singles_0 (x1 : Int32) (M : gMem) : Option (Int32 × gMem) :=
  fX9_singles_7 x1 x1 (gSI M 141 0 (0 : Int32))
set_option maxRecDepth 100000 in
theorem CX9_singles_0 {G : gG} {d : Nat} {Z : Option Value → gMem → Prop} (hd : 8 ≤ d) (x1 : Int32) (M : gMem) (P : Int32 × gMem → Prop) (k0 : ∀ (r : Int32) (N : gMem), P (r, N) → Z (some (.int r)) N) (h : gOKq (fX9_singles_0 x1 M) P) : gGo G YX9_singles d Z 0 [some (.ref 141), some (.int x1), none, none] [] M := by
  unfold fX9_singles_0 at h
  refine go_rn 2 (pc' := 2) (L' := [some (.ref 141), some (.int x1), none, none]) (S' := [.int (0 : Int32), .ref 141]) (M' := M) okX9_singles rfl ?_
  refine go_ck okX9_singles rfl (gOb_c rfl) ?_
  refine go_rn 2 (pc' := 7) (L' := [some (.ref 141), some (.int x1), none, none]) (S' := [.int x1, .ref 141]) (M' := (gSI M 141 0 (0 : Int32))) okX9_singles rfl ?_
  exact go_wk (CX9_singles_7 hd x1 x1 (gSI M 141 0 (0 : Int32)) P k0 h) ⟨rfl, rfl, True.intro⟩
def fX9_singles (a1 : Int32) (M : gMem) : Option (Int32 × gMem) := fX9_singles_0 a1 M
theorem SX9_singles {G : gG} (a1 : Int32) (M : gMem) {r : Int32} {N : gMem} (h : fX9_singles a1 M = some (r, N)) : gRun G YX9_singles 8 [.ref 141, .int a1] M (fun r' N' => r' = some (.int r) ∧ N' = N) := gRun_in (by decide +kernel) rfl (fun d hd => go_wk (CX9_singles_0 hd a1 M (fun p => p = (r, N)) (fun r N hh => by cases hh; exact ⟨rfl, rfl⟩) (gq_of h)) ⟨rfl, rfl, True.intro⟩)
def fX9_total_7 (x1 : Int32) (s0 : Int32) (M : gMem) : Option (Int32 × gMem) :=
  gB0 (fX9_isYear s0 M) (fun r1 => if r1 = 0 then some ((-10000 : Int32), M) else gB0 (fX9_laysNow M) (fun M3 => gB0 (fX9_people M3) (fun r5 => gB0 (fX9_outBits x1 M3) (fun r7 => gB0 (fX9_fundsOf ((((1 : Int32) <<< (r5 &&& 31)) - (1 : Int32)) &&& (r7 ^^^ (-1 : Int32))) x1 M3) (fun r9 => some (r9, M3))))))
set_option maxRecDepth 100000 in
theorem CX9_total_7 {G : gG} {d : Nat} {Z : Option Value → gMem → Prop} (hd : 8 ≤ d) (x1 : Int32) (s0 : Int32) (M : gMem) (P : Int32 × gMem → Prop) (k0 : ∀ (r : Int32) (N : gMem), P (r, N) → Z (some (.int r)) N) (h : gOKq (fX9_total_7 x1 s0 M) P) : gGo G YX9_total d Z 7 [some (.ref 141), some (.int x1)] [.int s0, .ref 141] M := by
  unfold fX9_total_7 at h
  obtain ⟨r1, e2, h⟩ := gB0_ok h
  refine go_call1 ocX9_total rfl rfl (gOb_c rfl) rfl (SX9_isYear s0 M e2) (Nat.lt_of_lt_of_le (by decide) hd) ?_
  refine go_br okX9_total rfl (fun hp => ?_) (fun hp => ?_)
  · have h := gq_pos hp h
    refine go_rn 1 (pc' := 16) (L' := [some (.ref 141), some (.int x1)]) (S' := [.int (-10000 : Int32)]) (M' := M) okX9_total rfl ?_
    exact go_iret (reX9_total _ (by decide)) rfl (k0 (-10000 : Int32) M h)
  · have h := gq_neg hp h
    refine go_rn 1 (pc' := 18) (L' := [some (.ref 141), some (.int x1)]) (S' := [.ref 141]) (M' := M) okX9_total rfl ?_
    obtain ⟨M3, e4, h⟩ := gB0_ok h
    refine go_call1 ocX9_total rfl rfl (gOb_c rfl) rfl (SX9_laysNow M e4) (Nat.lt_of_lt_of_le (by decide) hd) ?_
    refine go_rn 3 (pc' := 24) (L' := [some (.ref 141), some (.int x1)]) (S' := [.ref 141, .int (1 : Int32), .ref 141]) (M' := M3) okX9_total rfl ?_
    obtain ⟨r5, e6, h⟩ := gB0_ok h
    refine go_call1 ocX9_total rfl rfl (gOb_c rfl) rfl (SX9_people M3 e6) (Nat.lt_of_lt_of_le (by decide) hd) ?_
    refine go_rn 5 (pc' := 32) (L' := [some (.ref 141), some (.int x1)]) (S' := [.int x1, .ref 141, .int (((1 : Int32) <<< (r5 &&& 31)) - (1 : Int32)), .ref 141]) (M' := M3) okX9_total rfl ?_
    obtain ⟨r7, e8, h⟩ := gB0_ok h
    refine go_call1 ocX9_total rfl rfl (gOb_c rfl) rfl (SX9_outBits x1 M3 e8) (Nat.lt_of_lt_of_le (by decide) hd) ?_
    refine go_rn 4 (pc' := 39) (L' := [some (.ref 141), some (.int x1)]) (S' := [.int x1, .int ((((1 : Int32) <<< (r5 &&& 31)) - (1 : Int32)) &&& (r7 ^^^ (-1 : Int32))), .ref 141]) (M' := M3) okX9_total rfl ?_
    obtain ⟨r9, e10, h⟩ := gB0_ok h
    refine go_call1 ocX9_total rfl rfl (gOb_c rfl) rfl (SX9_fundsOf ((((1 : Int32) <<< (r5 &&& 31)) - (1 : Int32)) &&& (r7 ^^^ (-1 : Int32))) x1 M3 e10) (Nat.lt_of_lt_of_le (by decide) hd) ?_
    exact go_iret (reX9_total _ (by decide)) rfl (k0 r9 M3 h)
def fX9_total_0 (x1 : Int32) (M : gMem) : Option (Int32 × gMem) :=
  fX9_total_7 x1 x1 (gSI M 141 0 (0 : Int32))
set_option maxRecDepth 100000 in
theorem CX9_total_0 {G : gG} {d : Nat} {Z : Option Value → gMem → Prop} (hd : 8 ≤ d) (x1 : Int32) (M : gMem) (P : Int32 × gMem → Prop) (k0 : ∀ (r : Int32) (N : gMem), P (r, N) → Z (some (.int r)) N) (h : gOKq (fX9_total_0 x1 M) P) : gGo G YX9_total d Z 0 [some (.ref 141), some (.int x1)] [] M := by
  unfold fX9_total_0 at h
  refine go_rn 2 (pc' := 2) (L' := [some (.ref 141), some (.int x1)]) (S' := [.int (0 : Int32), .ref 141]) (M' := M) okX9_total rfl ?_
  refine go_ck okX9_total rfl (gOb_c rfl) ?_
  refine go_rn 2 (pc' := 7) (L' := [some (.ref 141), some (.int x1)]) (S' := [.int x1, .ref 141]) (M' := (gSI M 141 0 (0 : Int32))) okX9_total rfl ?_
  exact go_wk (CX9_total_7 hd x1 x1 (gSI M 141 0 (0 : Int32)) P k0 h) ⟨rfl, rfl, True.intro⟩
def fX9_total (a1 : Int32) (M : gMem) : Option (Int32 × gMem) := fX9_total_0 a1 M
theorem SX9_total {G : gG} (a1 : Int32) (M : gMem) {r : Int32} {N : gMem} (h : fX9_total a1 M = some (r, N)) : gRun G YX9_total 8 [.ref 141, .int a1] M (fun r' N' => r' = some (.int r) ∧ N' = N) := gRun_in (by decide +kernel) rfl (fun d hd => go_wk (CX9_total_0 hd a1 M (fun p => p = (r, N)) (fun r N hh => by cases hh; exact ⟨rfl, rfl⟩) (gq_of h)) ⟨rfl, rfl, True.intro⟩)
def fX9_isThrough_16 (x2 : Int32) (s0 : Int32) (s1 : Int32) (M : gMem) : Option (Int32) :=
  gB0 (fX9_wideOf s1 s0 M) (fun r1 => if gIx 1 151 x2 = true then if (M.1 151 (Int32.toNatClampNeg x2)) < r1 then some (0 : Int32) else some (1 : Int32) else none)
set_option maxRecDepth 100000 in
theorem CX9_isThrough_16 {G : gG} {d : Nat} {Z : Option Value → gMem → Prop} (hd : 2 ≤ d) (x2 : Int32) (s0 : Int32) (s1 : Int32) (M : gMem) (P : Int32 → Prop) (k0 : ∀ (r : Int32), P r → Z (some (.int r)) M) (h : gOKq (fX9_isThrough_16 x2 s0 s1 M) P) : gGo G YX9_isThrough d Z 16 [some (.ref 141), none, some (.int x2)] [.int s0, .int s1, .ref 141] M := by
  unfold fX9_isThrough_16 at h
  obtain ⟨r1, e2, h⟩ := gB0_ok h
  refine go_call1 ocX9_isThrough rfl rfl (gOb_c rfl) rfl (SX9_wideOf s1 s0 M e2) (Nat.lt_of_lt_of_le (by decide) hd) ?_
  refine go_rn 1 (pc' := 20) (L' := [some (.ref 141), none, some (.int x2)]) (S' := [.ref 141, .int r1]) (M' := M) okX9_isThrough rfl ?_
  refine go_ck okX9_isThrough rfl (gOb_c rfl) ?_
  refine go_rn 1 (pc' := 24) (L' := [some (.ref 141), none, some (.int x2)]) (S' := [.int x2, .ref 151, .int r1]) (M' := M) okX9_isThrough rfl ?_
  obtain ⟨c3, h⟩ := gq_if h
  refine go_ck okX9_isThrough rfl c3 ?_
  refine go_br okX9_isThrough rfl (fun hp => ?_) (fun hp => ?_)
  · have h := gq_pos hp h
    refine go_rn 1 (pc' := 33) (L' := [some (.ref 141), none, some (.int x2)]) (S' := [.int (0 : Int32)]) (M' := M) okX9_isThrough rfl ?_
    exact go_zret (reX9_isThrough _ (by decide)) rfl (Or.inl rfl) (k0 (0 : Int32) h)
  · have h := gq_neg hp h
    refine go_rn 2 (pc' := 33) (L' := [some (.ref 141), none, some (.int x2)]) (S' := [.int (1 : Int32)]) (M' := M) okX9_isThrough rfl ?_
    exact go_zret (reX9_isThrough _ (by decide)) rfl (Or.inr rfl) (k0 (1 : Int32) h)
def fX9_isThrough_0 (x1 : Int32) (x2 : Int32) (M : gMem) : Option (Int32) :=
  if x1 = 0 then fX9_isThrough_16 x2 (0 : Int32) x1 M else gB0 (fX9_sizeOf x1 M) (fun r1 => fX9_isThrough_16 x2 (r1 - (1 : Int32)) x1 M)
set_option maxRecDepth 100000 in
theorem CX9_isThrough_0 {G : gG} {d : Nat} {Z : Option Value → gMem → Prop} (hd : 2 ≤ d) (x1 : Int32) (x2 : Int32) (M : gMem) (P : Int32 → Prop) (k0 : ∀ (r : Int32), P r → Z (some (.int r)) M) (h : gOKq (fX9_isThrough_0 x1 x2 M) P) : gGo G YX9_isThrough d Z 0 [some (.ref 141), some (.int x1), some (.int x2)] [] M := by
  unfold fX9_isThrough_0 at h
  refine go_rn 3 (pc' := 3) (L' := [some (.ref 141), some (.int x1), some (.int x2)]) (S' := [.int x1, .int x1, .ref 141]) (M' := M) okX9_isThrough rfl ?_
  refine go_br okX9_isThrough rfl (fun hp => ?_) (fun hp => ?_)
  · have h := gq_pos hp h
    refine go_rn 2 (pc' := 16) (L' := [some (.ref 141), some (.int x1), some (.int x2)]) (S' := [.int (0 : Int32), .int x1, .ref 141]) (M' := M) okX9_isThrough rfl ?_
    exact go_wk (CX9_isThrough_16 hd x2 (0 : Int32) x1 M P k0 h) ⟨rfl, rfl, True.intro⟩
  · have h := gq_neg hp h
    refine go_rn 1 (pc' := 11) (L' := [some (.ref 141), some (.int x1), some (.int x2)]) (S' := [.int x1, .int x1, .ref 141]) (M' := M) okX9_isThrough rfl ?_
    obtain ⟨r1, e2, h⟩ := gB0_ok h
    refine go_call1 ocX9_isThrough rfl rfl rfl rfl (SX9_sizeOf x1 M e2) (Nat.lt_of_lt_of_le (by decide) hd) ?_
    refine go_rn 2 (pc' := 16) (L' := [some (.ref 141), some (.int x1), some (.int x2)]) (S' := [.int (r1 - (1 : Int32)), .int x1, .ref 141]) (M' := M) okX9_isThrough rfl ?_
    exact go_wk (CX9_isThrough_16 hd x2 (r1 - (1 : Int32)) x1 M P k0 h) ⟨rfl, rfl, True.intro⟩
def fX9_isThrough (a1 : Int32) (a2 : Int32) (M : gMem) : Option (Int32) := fX9_isThrough_0 a1 a2 M
theorem SX9_isThrough {G : gG} (a1 : Int32) (a2 : Int32) (M : gMem) {r : Int32} (h : fX9_isThrough a1 a2 M = some r) : gRun G YX9_isThrough 2 [.ref 141, .int a1, .int a2] M (fun r' N' => r' = some (.int r) ∧ N' = M) := gRun_in (by decide +kernel) rfl (fun d hd => go_wk (CX9_isThrough_0 hd a1 a2 M (fun p => p = r) (fun r hh => ⟨congrArg (fun z => some (Value.int z)) hh, rfl⟩) (gq_of h)) ⟨rfl, rfl, rfl, True.intro⟩)
def fX9_worthOf_4 (x1 : Int32) (x2 : Int32) (x3 : Int32) (M : gMem) : Option (Sum (Int32 × Int32) (Int32)) :=
  gB0 (fX9_people M) (fun r1 => if r1 ≤ x3 then some (.inr x2) else gB0 (fX9_isBit x1 x3 M) (fun r3 => if r3 = 0 then some (.inl ((x2 + (0 : Int32)), (x3 + 1))) else if gIx 1 149 (((3 : Int32) * x3) + (1 : Int32)) = true then some (.inl ((x2 + (M.1 149 (Int32.toNatClampNeg (((3 : Int32) * x3) + (1 : Int32))))), (x3 + 1))) else none))
set_option maxRecDepth 100000 in
theorem CX9_worthOf_4 {G : gG} {d : Nat} {Z : Option Value → gMem → Prop} (hd : 1 ≤ d) (x1 : Int32) (x2 : Int32) (x3 : Int32) (M : gMem) (P : Sum (Int32 × Int32) (Int32) → Prop) (k0 : ∀ (r : Int32), P (.inr r) → Z (some (.int r)) M) (k1 : ∀ (x2 : Int32) (x3 : Int32), P (.inl (x2, x3)) → gGo G YX9_worthOf d Z 4 [some (.ref 141), some (.int x1), some (.int x2), some (.int x3)] [] M) (h : gOKq (fX9_worthOf_4 x1 x2 x3 M) P) : gGo G YX9_worthOf d Z 4 [some (.ref 141), some (.int x1), some (.int x2), some (.int x3)] [] M := by
  unfold fX9_worthOf_4 at h
  refine go_rn 2 (pc' := 6) (L' := [some (.ref 141), some (.int x1), some (.int x2), some (.int x3)]) (S' := [.ref 141, .int x3]) (M' := M) okX9_worthOf rfl ?_
  obtain ⟨r1, e2, h⟩ := gB0_ok h
  refine go_call1 ocX9_worthOf rfl rfl (gOb_c rfl) rfl (SX9_people M e2) (Nat.lt_of_lt_of_le (by decide) hd) ?_
  refine go_br okX9_worthOf rfl (fun hp => ?_) (fun hp => ?_)
  · have h := gq_pos hp h
    refine go_rn 1 (pc' := 44) (L' := [some (.ref 141), some (.int x1), some (.int x2), some (.int x3)]) (S' := [.int x2]) (M' := M) okX9_worthOf rfl ?_
    exact go_iret (reX9_worthOf _ (by decide)) rfl (k0 x2 h)
  · have h := gq_neg hp h
    refine go_rn 3 (pc' := 15) (L' := [some (.ref 141), some (.int x1), some (.int x2), some (.int x3)]) (S' := [.int x3, .int x1, .int x2]) (M' := M) okX9_worthOf rfl ?_
    obtain ⟨r3, e4, h⟩ := gB0_ok h
    refine go_call1 ocX9_worthOf rfl rfl rfl rfl (SX9_isBit x1 x3 M e4) (Nat.lt_of_lt_of_le (by decide) hd) ?_
    refine go_br okX9_worthOf rfl (fun hp => ?_) (fun hp => ?_)
    · have h := gq_pos hp h
      refine go_rn 5 (pc' := 4) (L' := [some (.ref 141), some (.int x1), some (.int (x2 + (0 : Int32))), some (.int (x3 + 1))]) (S' := []) (M' := M) okX9_worthOf rfl ?_
      exact go_wk (k1 ((x2 + (0 : Int32))) ((x3 + 1)) h) ⟨rfl, rfl, rfl, rfl, True.intro⟩
    · have h := gq_neg hp h
      refine go_rn 1 (pc' := 22) (L' := [some (.ref 141), some (.int x1), some (.int x2), some (.int x3)]) (S' := [.ref 141, .int x2]) (M' := M) okX9_worthOf rfl ?_
      refine go_ck okX9_worthOf rfl (gOb_c rfl) ?_
      refine go_rn 5 (pc' := 30) (L' := [some (.ref 141), some (.int x1), some (.int x2), some (.int x3)]) (S' := [.int (((3 : Int32) * x3) + (1 : Int32)), .ref 149, .int x2]) (M' := M) okX9_worthOf rfl ?_
      obtain ⟨c5, h⟩ := gq_if h
      refine go_ck okX9_worthOf rfl c5 ?_
      refine go_rn 5 (pc' := 4) (L' := [some (.ref 141), some (.int x1), some (.int (x2 + (M.1 149 (Int32.toNatClampNeg (((3 : Int32) * x3) + (1 : Int32)))))), some (.int (x3 + 1))]) (S' := []) (M' := M) okX9_worthOf rfl ?_
      exact go_wk (k1 ((x2 + (M.1 149 (Int32.toNatClampNeg (((3 : Int32) * x3) + (1 : Int32)))))) ((x3 + 1)) h) ⟨rfl, rfl, rfl, rfl, True.intro⟩
def fX9_worthOf_4h (x1 : Int32) (x2 : Int32) (x3 : Int32) (M : gMem) : Option (Int32) :=
  gLp (fun s : Int32 × Int32 => fX9_worthOf_4 x1 (s.1) (s.2) M) gFu (x2, x3)
set_option maxRecDepth 100000 in
theorem CX9_worthOf_4h {G : gG} {d : Nat} {Z : Option Value → gMem → Prop} (hd : 1 ≤ d) (x1 : Int32) (x2 : Int32) (x3 : Int32) (M : gMem) (P : Int32 → Prop) (k0 : ∀ (r : Int32), P r → Z (some (.int r)) M) (h : gOKq (fX9_worthOf_4h x1 x2 x3 M) P) : gGo G YX9_worthOf d Z 4 [some (.ref 141), some (.int x1), some (.int x2), some (.int x3)] [] M :=
  gLp_go (K := fun s : Int32 × Int32 => gGo G YX9_worthOf d Z 4 [some (.ref 141), some (.int x1), some (.int s.1), some (.int s.2)] [] M) (P := P) (fun s hs => CX9_worthOf_4 hd (x1) (s.1) (s.2) M (Sum.elim (fun s : Int32 × Int32 => gGo G YX9_worthOf d Z 4 [some (.ref 141), some (.int x1), some (.int s.1), some (.int s.2)] [] M) P) k0 (fun x2 x3 hh => hh) hs) gFu (x2, x3) h
def fX9_worthOf_0 (x1 : Int32) (M : gMem) : Option (Int32) :=
  fX9_worthOf_4h x1 (0 : Int32) (0 : Int32) M
set_option maxRecDepth 100000 in
theorem CX9_worthOf_0 {G : gG} {d : Nat} {Z : Option Value → gMem → Prop} (hd : 1 ≤ d) (x1 : Int32) (M : gMem) (P : Int32 → Prop) (k0 : ∀ (r : Int32), P r → Z (some (.int r)) M) (h : gOKq (fX9_worthOf_0 x1 M) P) : gGo G YX9_worthOf d Z 0 [some (.ref 141), some (.int x1), none, none] [] M := by
  unfold fX9_worthOf_0 at h
  refine go_rn 4 (pc' := 4) (L' := [some (.ref 141), some (.int x1), some (.int (0 : Int32)), some (.int (0 : Int32))]) (S' := []) (M' := M) okX9_worthOf rfl ?_
  exact go_wk (CX9_worthOf_4h hd x1 (0 : Int32) (0 : Int32) M P k0 h) ⟨rfl, rfl, rfl, rfl, True.intro⟩
def fX9_worthOf (a1 : Int32) (M : gMem) : Option (Int32) := fX9_worthOf_0 a1 M
theorem SX9_worthOf {G : gG} (a1 : Int32) (M : gMem) {r : Int32} (h : fX9_worthOf a1 M = some r) : gRun G YX9_worthOf 1 [.ref 141, .int a1] M (fun r' N' => r' = some (.int r) ∧ N' = M) := gRun_in (by decide +kernel) rfl (fun d hd => go_wk (CX9_worthOf_0 hd a1 M (fun p => p = r) (fun r hh => ⟨congrArg (fun z => some (Value.int z)) hh, rfl⟩) (gq_of h)) ⟨rfl, rfl, True.intro⟩)
def fX9_bestSet_8 (x1 : Int32) (x2 : Int32) (x3 : Int32) (M : gMem) : Option (Sum (Int32 × Int32) (Int32 × gMem)) :=
  gB0 (fX9_people M) (fun r1 => if ((1 : Int32) <<< (r1 &&& 31)) ≤ x3 then some (.inr (x2, M)) else gB0 (fX9_isThrough x3 x1 M) (fun r3 => if r3 = 0 then some (.inl (x2, (x3 + 1))) else gB0 (fX9_worthOf x3 M) (fun r5 => gB0 (fX9_worthOf x2 M) (fun r7 => if r5 ≤ r7 then some (.inl (x2, (x3 + 1))) else some (.inl (x3, (x3 + 1)))))))
set_option maxRecDepth 100000 in
theorem CX9_bestSet_8 {G : gG} {d : Nat} {Z : Option Value → gMem → Prop} (hd : 3 ≤ d) (x1 : Int32) (x2 : Int32) (x3 : Int32) (M : gMem) (P : Sum (Int32 × Int32) (Int32 × gMem) → Prop) (k0 : ∀ (r : Int32) (N : gMem), P (.inr (r, N)) → Z (some (.int r)) N) (k1 : ∀ (x2 : Int32) (x3 : Int32), P (.inl (x2, x3)) → gGo G YX9_bestSet d Z 8 [some (.ref 141), some (.int x1), some (.int x2), some (.int x3)] [] M) (h : gOKq (fX9_bestSet_8 x1 x2 x3 M) P) : gGo G YX9_bestSet d Z 8 [some (.ref 141), some (.int x1), some (.int x2), some (.int x3)] [] M := by
  unfold fX9_bestSet_8 at h
  refine go_rn 3 (pc' := 11) (L' := [some (.ref 141), some (.int x1), some (.int x2), some (.int x3)]) (S' := [.ref 141, .int (1 : Int32), .int x3]) (M' := M) okX9_bestSet rfl ?_
  obtain ⟨r1, e2, h⟩ := gB0_ok h
  refine go_call1 ocX9_bestSet rfl rfl (gOb_c rfl) rfl (SX9_people M e2) (Nat.lt_of_lt_of_le (by decide) hd) ?_
  refine go_rn 1 (pc' := 15) (L' := [some (.ref 141), some (.int x1), some (.int x2), some (.int x3)]) (S' := [.int ((1 : Int32) <<< (r1 &&& 31)), .int x3]) (M' := M) okX9_bestSet rfl ?_
  refine go_br okX9_bestSet rfl (fun hp => ?_) (fun hp => ?_)
  · have h := gq_pos hp h
    refine go_rn 1 (pc' := 49) (L' := [some (.ref 141), some (.int x1), some (.int x2), some (.int x3)]) (S' := [.int x2]) (M' := M) okX9_bestSet rfl ?_
    exact go_iret (reX9_bestSet _ (by decide)) rfl (k0 x2 M h)
  · have h := gq_neg hp h
    refine go_rn 3 (pc' := 21) (L' := [some (.ref 141), some (.int x1), some (.int x2), some (.int x3)]) (S' := [.int x1, .int x3, .ref 141]) (M' := M) okX9_bestSet rfl ?_
    obtain ⟨r3, e4, h⟩ := gB0_ok h
    refine go_call1 ocX9_bestSet rfl rfl (gOb_c rfl) rfl (SX9_isThrough x3 x1 M e4) (Nat.lt_of_lt_of_le (by decide) hd) ?_
    refine go_br okX9_bestSet rfl (fun hp => ?_) (fun hp => ?_)
    · have h := gq_pos hp h
      refine go_rn 2 (pc' := 8) (L' := [some (.ref 141), some (.int x1), some (.int x2), some (.int (x3 + 1))]) (S' := []) (M' := M) okX9_bestSet rfl ?_
      exact go_wk (k1 (x2) ((x3 + 1)) h) ⟨rfl, rfl, rfl, rfl, True.intro⟩
    · have h := gq_neg hp h
      refine go_rn 2 (pc' := 29) (L' := [some (.ref 141), some (.int x1), some (.int x2), some (.int x3)]) (S' := [.int x3, .ref 141]) (M' := M) okX9_bestSet rfl ?_
      obtain ⟨r5, e6, h⟩ := gB0_ok h
      refine go_call1 ocX9_bestSet rfl rfl (gOb_c rfl) rfl (SX9_worthOf x3 M e6) (Nat.lt_of_lt_of_le (by decide) hd) ?_
      refine go_rn 2 (pc' := 34) (L' := [some (.ref 141), some (.int x1), some (.int x2), some (.int x3)]) (S' := [.int x2, .ref 141, .int r5]) (M' := M) okX9_bestSet rfl ?_
      obtain ⟨r7, e8, h⟩ := gB0_ok h
      refine go_call1 ocX9_bestSet rfl rfl (gOb_c rfl) rfl (SX9_worthOf x2 M e8) (Nat.lt_of_lt_of_le (by decide) hd) ?_
      refine go_br okX9_bestSet rfl (fun hp => ?_) (fun hp => ?_)
      · have h := gq_pos hp h
        refine go_rn 2 (pc' := 8) (L' := [some (.ref 141), some (.int x1), some (.int x2), some (.int (x3 + 1))]) (S' := []) (M' := M) okX9_bestSet rfl ?_
        exact go_wk (k1 (x2) ((x3 + 1)) h) ⟨rfl, rfl, rfl, rfl, True.intro⟩
      · have h := gq_neg hp h
        refine go_rn 4 (pc' := 8) (L' := [some (.ref 141), some (.int x1), some (.int x3), some (.int (x3 + 1))]) (S' := []) (M' := M) okX9_bestSet rfl ?_
        exact go_wk (k1 (x3) ((x3 + 1)) h) ⟨rfl, rfl, rfl, rfl, True.intro⟩
def fX9_bestSet_8h (x1 : Int32) (x2 : Int32) (x3 : Int32) (M : gMem) : Option (Int32 × gMem) :=
  gLp (fun s : Int32 × Int32 => fX9_bestSet_8 x1 (s.1) (s.2) M) gFu (x2, x3)
set_option maxRecDepth 100000 in
theorem CX9_bestSet_8h {G : gG} {d : Nat} {Z : Option Value → gMem → Prop} (hd : 3 ≤ d) (x1 : Int32) (x2 : Int32) (x3 : Int32) (M : gMem) (P : Int32 × gMem → Prop) (k0 : ∀ (r : Int32) (N : gMem), P (r, N) → Z (some (.int r)) N) (h : gOKq (fX9_bestSet_8h x1 x2 x3 M) P) : gGo G YX9_bestSet d Z 8 [some (.ref 141), some (.int x1), some (.int x2), some (.int x3)] [] M :=
  gLp_go (K := fun s : Int32 × Int32 => gGo G YX9_bestSet d Z 8 [some (.ref 141), some (.int x1), some (.int s.1), some (.int s.2)] [] M) (P := P) (fun s hs => CX9_bestSet_8 hd (x1) (s.1) (s.2) M (Sum.elim (fun s : Int32 × Int32 => gGo G YX9_bestSet d Z 8 [some (.ref 141), some (.int x1), some (.int s.1), some (.int s.2)] [] M) P) k0 (fun x2 x3 hh => hh) hs) gFu (x2, x3) h
def fX9_bestSet_0 (x1 : Int32) (M : gMem) : Option (Int32 × gMem) :=
  gB0 (fX9_lays M) (fun M1 => fX9_bestSet_8h x1 (0 : Int32) (1 : Int32) M1)
set_option maxRecDepth 100000 in
theorem CX9_bestSet_0 {G : gG} {d : Nat} {Z : Option Value → gMem → Prop} (hd : 3 ≤ d) (x1 : Int32) (M : gMem) (P : Int32 × gMem → Prop) (k0 : ∀ (r : Int32) (N : gMem), P (r, N) → Z (some (.int r)) N) (h : gOKq (fX9_bestSet_0 x1 M) P) : gGo G YX9_bestSet d Z 0 [some (.ref 141), some (.int x1), none, none] [] M := by
  unfold fX9_bestSet_0 at h
  refine go_rn 1 (pc' := 1) (L' := [some (.ref 141), some (.int x1), none, none]) (S' := [.ref 141]) (M' := M) okX9_bestSet rfl ?_
  obtain ⟨M1, e2, h⟩ := gB0_ok h
  refine go_call1 ocX9_bestSet rfl rfl (gOb_c rfl) rfl (SX9_lays M e2) (Nat.lt_of_lt_of_le (by decide) hd) ?_
  refine go_rn 4 (pc' := 8) (L' := [some (.ref 141), some (.int x1), some (.int (0 : Int32)), some (.int (1 : Int32))]) (S' := []) (M' := M1) okX9_bestSet rfl ?_
  exact go_wk (CX9_bestSet_8h hd x1 (0 : Int32) (1 : Int32) M1 P k0 h) ⟨rfl, rfl, rfl, rfl, True.intro⟩
def fX9_bestSet (a1 : Int32) (M : gMem) : Option (Int32 × gMem) := fX9_bestSet_0 a1 M
theorem SX9_bestSet {G : gG} (a1 : Int32) (M : gMem) {r : Int32} {N : gMem} (h : fX9_bestSet a1 M = some (r, N)) : gRun G YX9_bestSet 3 [.ref 141, .int a1] M (fun r' N' => r' = some (.int r) ∧ N' = N) := gRun_in (by decide +kernel) rfl (fun d hd => go_wk (CX9_bestSet_0 hd a1 M (fun p => p = (r, N)) (fun r N hh => by cases hh; exact ⟨rfl, rfl⟩) (gq_of h)) ⟨rfl, rfl, True.intro⟩)
def fX9_best_8 (x1 : Int32) (s0 : Int64) (M : gMem) : Option (Int32 × gMem) :=
  gB0 (fX9_isDoor s0 M) (fun r1 => if r1 = 0 then some ((-2 : Int32), M) else gBp (fX9_bestSet x1 M) (fun r3 M4 => gB0 (fX9_worthOf r3 M4) (fun r6 => some (r6, M4))))
set_option maxRecDepth 100000 in
theorem CX9_best_8 {G : gG} {d : Nat} {Z : Option Value → gMem → Prop} (hd : 4 ≤ d) (x1 : Int32) (s0 : Int64) (M : gMem) (P : Int32 × gMem → Prop) (k0 : ∀ (r : Int32) (N : gMem), P (r, N) → Z (some (.int r)) N) (h : gOKq (fX9_best_8 x1 s0 M) P) : gGo G YX9_best d Z 8 [some (.ref 141), some (.int x1)] [.long s0, .ref 141] M := by
  unfold fX9_best_8 at h
  obtain ⟨r1, e2, h⟩ := gB0_ok h
  refine go_call1 ocX9_best rfl rfl (gOb_c rfl) rfl (SX9_isDoor s0 M e2) (Nat.lt_of_lt_of_le (by decide) hd) ?_
  refine go_br okX9_best rfl (fun hp => ?_) (fun hp => ?_)
  · have h := gq_pos hp h
    refine go_rn 1 (pc' := 28) (L' := [some (.ref 141), some (.int x1)]) (S' := [.int (-2 : Int32)]) (M' := M) okX9_best rfl ?_
    exact go_iret (reX9_best _ (by decide)) rfl (k0 (-2 : Int32) M h)
  · have h := gq_neg hp h
    refine go_rn 3 (pc' := 17) (L' := [some (.ref 141), some (.int x1)]) (S' := [.int x1, .ref 141, .ref 141]) (M' := M) okX9_best rfl ?_
    obtain ⟨r3, M4, e5, h⟩ := gBp_ok h
    refine go_call1 ocX9_best rfl rfl (gOb_c rfl) rfl (SX9_bestSet x1 M e5) (Nat.lt_of_lt_of_le (by decide) hd) ?_
    obtain ⟨r6, e7, h⟩ := gB0_ok h
    refine go_call1 ocX9_best rfl rfl (gOb_c rfl) rfl (SX9_worthOf r3 M4 e7) (Nat.lt_of_lt_of_le (by decide) hd) ?_
    refine go_rn 1 (pc' := 28) (L' := [some (.ref 141), some (.int x1)]) (S' := [.int r6]) (M' := M4) okX9_best rfl ?_
    exact go_iret (reX9_best _ (by decide)) rfl (k0 r6 M4 h)
def fX9_best_0 (x1 : Int32) (M : gMem) : Option (Int32 × gMem) :=
  fX9_best_8 x1 (Int32.toInt64 x1) (gSI M 141 0 (0 : Int32))
set_option maxRecDepth 100000 in
theorem CX9_best_0 {G : gG} {d : Nat} {Z : Option Value → gMem → Prop} (hd : 4 ≤ d) (x1 : Int32) (M : gMem) (P : Int32 × gMem → Prop) (k0 : ∀ (r : Int32) (N : gMem), P (r, N) → Z (some (.int r)) N) (h : gOKq (fX9_best_0 x1 M) P) : gGo G YX9_best d Z 0 [some (.ref 141), some (.int x1)] [] M := by
  unfold fX9_best_0 at h
  refine go_rn 2 (pc' := 2) (L' := [some (.ref 141), some (.int x1)]) (S' := [.int (0 : Int32), .ref 141]) (M' := M) okX9_best rfl ?_
  refine go_ck okX9_best rfl (gOb_c rfl) ?_
  refine go_rn 3 (pc' := 8) (L' := [some (.ref 141), some (.int x1)]) (S' := [.long (Int32.toInt64 x1), .ref 141]) (M' := (gSI M 141 0 (0 : Int32))) okX9_best rfl ?_
  exact go_wk (CX9_best_8 hd x1 (Int32.toInt64 x1) (gSI M 141 0 (0 : Int32)) P k0 h) ⟨rfl, rfl, True.intro⟩
def fX9_best (a1 : Int32) (M : gMem) : Option (Int32 × gMem) := fX9_best_0 a1 M
theorem SX9_best {G : gG} (a1 : Int32) (M : gMem) {r : Int32} {N : gMem} (h : fX9_best a1 M = some (r, N)) : gRun G YX9_best 4 [.ref 141, .int a1] M (fun r' N' => r' = some (.int r) ∧ N' = N) := gRun_in (by decide +kernel) rfl (fun d hd => go_wk (CX9_best_0 hd a1 M (fun p => p = (r, N)) (fun r N hh => by cases hh; exact ⟨rfl, rfl⟩) (gq_of h)) ⟨rfl, rfl, True.intro⟩)
def fX9_bests_8 (x1 : Int32) (s0 : Int64) (M : gMem) : Option (Int32 × gMem) :=
  gB0 (fX9_isDoor s0 M) (fun r1 => if r1 = 0 then some ((-2 : Int32), M) else gBp (fX9_bestSet x1 M) (fun r3 M4 => some (r3, M4)))
set_option maxRecDepth 100000 in
theorem CX9_bests_8 {G : gG} {d : Nat} {Z : Option Value → gMem → Prop} (hd : 4 ≤ d) (x1 : Int32) (s0 : Int64) (M : gMem) (P : Int32 × gMem → Prop) (k0 : ∀ (r : Int32) (N : gMem), P (r, N) → Z (some (.int r)) N) (h : gOKq (fX9_bests_8 x1 s0 M) P) : gGo G YX9_bests d Z 8 [some (.ref 141), some (.int x1)] [.long s0, .ref 141] M := by
  unfold fX9_bests_8 at h
  obtain ⟨r1, e2, h⟩ := gB0_ok h
  refine go_call1 ocX9_bests rfl rfl (gOb_c rfl) rfl (SX9_isDoor s0 M e2) (Nat.lt_of_lt_of_le (by decide) hd) ?_
  refine go_br okX9_bests rfl (fun hp => ?_) (fun hp => ?_)
  · have h := gq_pos hp h
    refine go_rn 1 (pc' := 24) (L' := [some (.ref 141), some (.int x1)]) (S' := [.int (-2 : Int32)]) (M' := M) okX9_bests rfl ?_
    exact go_iret (reX9_bests _ (by decide)) rfl (k0 (-2 : Int32) M h)
  · have h := gq_neg hp h
    refine go_rn 2 (pc' := 16) (L' := [some (.ref 141), some (.int x1)]) (S' := [.int x1, .ref 141]) (M' := M) okX9_bests rfl ?_
    obtain ⟨r3, M4, e5, h⟩ := gBp_ok h
    refine go_call1 ocX9_bests rfl rfl (gOb_c rfl) rfl (SX9_bestSet x1 M e5) (Nat.lt_of_lt_of_le (by decide) hd) ?_
    refine go_rn 1 (pc' := 24) (L' := [some (.ref 141), some (.int x1)]) (S' := [.int r3]) (M' := M4) okX9_bests rfl ?_
    exact go_iret (reX9_bests _ (by decide)) rfl (k0 r3 M4 h)
def fX9_bests_0 (x1 : Int32) (M : gMem) : Option (Int32 × gMem) :=
  fX9_bests_8 x1 (Int32.toInt64 x1) (gSI M 141 0 (0 : Int32))
set_option maxRecDepth 100000 in
theorem CX9_bests_0 {G : gG} {d : Nat} {Z : Option Value → gMem → Prop} (hd : 4 ≤ d) (x1 : Int32) (M : gMem) (P : Int32 × gMem → Prop) (k0 : ∀ (r : Int32) (N : gMem), P (r, N) → Z (some (.int r)) N) (h : gOKq (fX9_bests_0 x1 M) P) : gGo G YX9_bests d Z 0 [some (.ref 141), some (.int x1)] [] M := by
  unfold fX9_bests_0 at h
  refine go_rn 2 (pc' := 2) (L' := [some (.ref 141), some (.int x1)]) (S' := [.int (0 : Int32), .ref 141]) (M' := M) okX9_bests rfl ?_
  refine go_ck okX9_bests rfl (gOb_c rfl) ?_
  refine go_rn 3 (pc' := 8) (L' := [some (.ref 141), some (.int x1)]) (S' := [.long (Int32.toInt64 x1), .ref 141]) (M' := (gSI M 141 0 (0 : Int32))) okX9_bests rfl ?_
  exact go_wk (CX9_bests_8 hd x1 (Int32.toInt64 x1) (gSI M 141 0 (0 : Int32)) P k0 h) ⟨rfl, rfl, True.intro⟩
def fX9_bests (a1 : Int32) (M : gMem) : Option (Int32 × gMem) := fX9_bests_0 a1 M
theorem SX9_bests {G : gG} (a1 : Int32) (M : gMem) {r : Int32} {N : gMem} (h : fX9_bests a1 M = some (r, N)) : gRun G YX9_bests 4 [.ref 141, .int a1] M (fun r' N' => r' = some (.int r) ∧ N' = N) := gRun_in (by decide +kernel) rfl (fun d hd => go_wk (CX9_bests_0 hd a1 M (fun p => p = (r, N)) (fun r N hh => by cases hh; exact ⟨rfl, rfl⟩) (gq_of h)) ⟨rfl, rfl, True.intro⟩)
def fX9_laysSets_163 (x1 : Int32) (x2 : Int32) (x3 : Int32) (x4 : Int32) (s0 : Int32) (s1 : Int32) (M : gMem) : Option (Sum (Int32 × gMem) (Sum (Int32 × gMem) (gMem))) :=
  if gIx 1 159 s1 = true then some (.inl ((x4 + 1), (gSI M 159 (Int32.toNatClampNeg s1) s0))) else none
set_option maxRecDepth 100000 in
theorem CX9_laysSets_163 {G : gG} {d : Nat} {Z : Option Value → gMem → Prop} (hd : 3 ≤ d) (x1 : Int32) (x2 : Int32) (x3 : Int32) (x4 : Int32) (s0 : Int32) (s1 : Int32) (M : gMem) (P : Sum (Int32 × gMem) (Sum (Int32 × gMem) (gMem)) → Prop) (k0 : ∀ (N : gMem), P (.inr (.inr N)) → Z none N) (k1 : ∀ (x2 : Int32) (M : gMem), P (.inr (.inl (x2, M))) → gGo G YX9_laysSets d Z 20 [some (.ref 141), some (.int x1), some (.int x2), none, none, none] [] M) (k2 : ∀ (x4 : Int32) (M : gMem), P (.inl (x4, M)) → gGo G YX9_laysSets d Z 53 [some (.ref 141), some (.int x1), some (.int x2), some (.int x3), some (.int x4), none] [] M) (h : gOKq (fX9_laysSets_163 x1 x2 x3 x4 s0 s1 M) P) : gGo G YX9_laysSets d Z 163 [some (.ref 141), some (.int x1), some (.int x2), some (.int x3), some (.int x4), none] [.int s0, .int s1, .ref 159] M := by
  unfold fX9_laysSets_163 at h
  obtain ⟨c1, h⟩ := gq_if h
  refine go_ck okX9_laysSets rfl c1 ?_
  refine go_rn 2 (pc' := 53) (L' := [some (.ref 141), some (.int x1), some (.int x2), some (.int x3), some (.int (x4 + 1)), none]) (S' := []) (M' := (gSI M 159 (Int32.toNatClampNeg s1) s0)) okX9_laysSets rfl ?_
  exact go_wk (k2 ((x4 + 1)) (gSI M 159 (Int32.toNatClampNeg s1) s0) h) ⟨rfl, rfl, rfl, rfl, rfl, True.intro⟩
def fX9_laysSets_143 (x1 : Int32) (x2 : Int32) (x3 : Int32) (x4 : Int32) (x5 : Int32) (s0 : Int32) (s1 : Int32) (M : gMem) : Option (Sum (Int32 × gMem) (Sum (Int32 × gMem) (gMem))) :=
  if gIx 1 160 (x2 &&& (x4 ^^^ (-1 : Int32))) = true then if gIx 1 160 s1 = true then fX9_laysSets_163 x1 x2 x3 x4 x5 x2 (gSI M 160 (Int32.toNatClampNeg s1) (s0 + (M.1 160 (Int32.toNatClampNeg (x2 &&& (x4 ^^^ (-1 : Int32))))))) else none else none
set_option maxRecDepth 100000 in
theorem CX9_laysSets_143 {G : gG} {d : Nat} {Z : Option Value → gMem → Prop} (hd : 3 ≤ d) (x1 : Int32) (x2 : Int32) (x3 : Int32) (x4 : Int32) (x5 : Int32) (s0 : Int32) (s1 : Int32) (M : gMem) (P : Sum (Int32 × gMem) (Sum (Int32 × gMem) (gMem)) → Prop) (k0 : ∀ (N : gMem), P (.inr (.inr N)) → Z none N) (k1 : ∀ (x2 : Int32) (M : gMem), P (.inr (.inl (x2, M))) → gGo G YX9_laysSets d Z 20 [some (.ref 141), some (.int x1), some (.int x2), none, none, none] [] M) (k2 : ∀ (x4 : Int32) (M : gMem), P (.inl (x4, M)) → gGo G YX9_laysSets d Z 53 [some (.ref 141), some (.int x1), some (.int x2), some (.int x3), some (.int x4), none] [] M) (h : gOKq (fX9_laysSets_143 x1 x2 x3 x4 x5 s0 s1 M) P) : gGo G YX9_laysSets d Z 143 [some (.ref 141), some (.int x1), some (.int x2), some (.int x3), some (.int x4), some (.int x5)] [.int s0, .int s1, .ref 160] M := by
  unfold fX9_laysSets_143 at h
  refine go_rn 1 (pc' := 144) (L' := [some (.ref 141), some (.int x1), some (.int x2), some (.int x3), some (.int x4), some (.int x5)]) (S' := [.ref 141, .int s0, .int s1, .ref 160]) (M' := M) okX9_laysSets rfl ?_
  refine go_ck okX9_laysSets rfl (gOb_c rfl) ?_
  refine go_rn 5 (pc' := 153) (L' := [some (.ref 141), some (.int x1), some (.int x2), some (.int x3), some (.int x4), some (.int x5)]) (S' := [.int (x2 &&& (x4 ^^^ (-1 : Int32))), .ref 160, .int s0, .int s1, .ref 160]) (M' := M) okX9_laysSets rfl ?_
  obtain ⟨c1, h⟩ := gq_if h
  refine go_ck okX9_laysSets rfl c1 ?_
  refine go_rn 1 (pc' := 155) (L' := [some (.ref 141), some (.int x1), some (.int x2), some (.int x3), some (.int x4), some (.int x5)]) (S' := [.int (s0 + (M.1 160 (Int32.toNatClampNeg (x2 &&& (x4 ^^^ (-1 : Int32)))))), .int s1, .ref 160]) (M' := M) okX9_laysSets rfl ?_
  obtain ⟨c2, h⟩ := gq_if h
  refine go_ck okX9_laysSets rfl c2 ?_
  refine go_rn 1 (pc' := 157) (L' := [some (.ref 141), some (.int x1), some (.int x2), some (.int x3), some (.int x4), some (.int x5)]) (S' := [.ref 141]) (M' := (gSI M 160 (Int32.toNatClampNeg s1) (s0 + (M.1 160 (Int32.toNatClampNeg (x2 &&& (x4 ^^^ (-1 : Int32)))))))) okX9_laysSets rfl ?_
  refine go_ck okX9_laysSets rfl (gOb_c rfl) ?_
  refine go_rn 2 (pc' := 163) (L' := [some (.ref 141), some (.int x1), some (.int x2), some (.int x3), some (.int x4), some (.int x5)]) (S' := [.int x5, .int x2, .ref 159]) (M' := (gSI M 160 (Int32.toNatClampNeg s1) (s0 + (M.1 160 (Int32.toNatClampNeg (x2 &&& (x4 ^^^ (-1 : Int32)))))))) okX9_laysSets rfl ?_
  exact go_wk (CX9_laysSets_163 hd x1 x2 x3 x4 x5 x2 (gSI M 160 (Int32.toNatClampNeg s1) (s0 + (M.1 160 (Int32.toNatClampNeg (x2 &&& (x4 ^^^ (-1 : Int32))))))) P k0 k1 k2 h) ⟨rfl, rfl, rfl, rfl, rfl, True.intro⟩
def fX9_laysSets_53 (x1 : Int32) (x2 : Int32) (x3 : Int32) (x4 : Int32) (M : gMem) : Option (Sum (Int32 × gMem) (Sum (Int32 × gMem) (gMem))) :=
  if x2 < x4 then some (.inr (.inl ((x2 + 1), M))) else if (x4 &&& (x2 ^^^ (-1 : Int32))) = 0 then if (x4 &&& x3) = 0 then some (.inl ((x4 + 1), M)) else gB0 (fX9_isThrough x4 x1 M) (fun r1 => if r1 = 0 then some (.inl ((x4 + 1), M)) else if gIx 1 159 (x2 &&& (x4 ^^^ (-1 : Int32))) = true then if gIx 1 159 x2 = true then if ((1 : Int32) + (M.1 159 (Int32.toNatClampNeg (x2 &&& (x4 ^^^ (-1 : Int32)))))) ≤ (M.1 159 (Int32.toNatClampNeg x2)) then if gIx 1 159 x2 = true then if (M.1 159 (Int32.toNatClampNeg x2)) ≤ ((1 : Int32) + (M.1 159 (Int32.toNatClampNeg (x2 &&& (x4 ^^^ (-1 : Int32)))))) then if gIx 1 160 x2 = true then fX9_laysSets_143 x1 x2 x3 x4 ((1 : Int32) + (M.1 159 (Int32.toNatClampNeg (x2 &&& (x4 ^^^ (-1 : Int32)))))) (M.1 160 (Int32.toNatClampNeg x2)) x2 M else none else fX9_laysSets_143 x1 x2 x3 x4 ((1 : Int32) + (M.1 159 (Int32.toNatClampNeg (x2 &&& (x4 ^^^ (-1 : Int32)))))) (0 : Int32) x2 M else none else some (.inl ((x4 + 1), M)) else none else none) else some (.inl ((x4 + 1), M))
set_option maxRecDepth 100000 in
theorem CX9_laysSets_53 {G : gG} {d : Nat} {Z : Option Value → gMem → Prop} (hd : 3 ≤ d) (x1 : Int32) (x2 : Int32) (x3 : Int32) (x4 : Int32) (M : gMem) (P : Sum (Int32 × gMem) (Sum (Int32 × gMem) (gMem)) → Prop) (k0 : ∀ (N : gMem), P (.inr (.inr N)) → Z none N) (k1 : ∀ (x2 : Int32) (M : gMem), P (.inr (.inl (x2, M))) → gGo G YX9_laysSets d Z 20 [some (.ref 141), some (.int x1), some (.int x2), none, none, none] [] M) (k2 : ∀ (x4 : Int32) (M : gMem), P (.inl (x4, M)) → gGo G YX9_laysSets d Z 53 [some (.ref 141), some (.int x1), some (.int x2), some (.int x3), some (.int x4), none] [] M) (h : gOKq (fX9_laysSets_53 x1 x2 x3 x4 M) P) : gGo G YX9_laysSets d Z 53 [some (.ref 141), some (.int x1), some (.int x2), some (.int x3), some (.int x4), none] [] M := by
  unfold fX9_laysSets_53 at h
  refine go_rn 2 (pc' := 56) (L' := [some (.ref 141), some (.int x1), some (.int x2), some (.int x3), some (.int x4), none]) (S' := [.int x2, .int x4]) (M' := M) okX9_laysSets rfl ?_
  refine go_br okX9_laysSets rfl (fun hp => ?_) (fun hp => ?_)
  · have h := gq_pos hp h
    refine go_rn 2 (pc' := 20) (L' := [some (.ref 141), some (.int x1), some (.int (x2 + 1)), some (.int x3), some (.int x4), none]) (S' := []) (M' := M) okX9_laysSets rfl ?_
    exact go_wk (k1 ((x2 + 1)) M h) ⟨rfl, rfl, rfl, True.intro⟩
  · have h := gq_neg hp h
    refine go_rn 5 (pc' := 65) (L' := [some (.ref 141), some (.int x1), some (.int x2), some (.int x3), some (.int x4), none]) (S' := [.int (x4 &&& (x2 ^^^ (-1 : Int32)))]) (M' := M) okX9_laysSets rfl ?_
    refine go_br okX9_laysSets rfl (fun hp => ?_) (fun hp => ?_)
    · have h := gq_pos hp h
      refine go_rn 3 (pc' := 72) (L' := [some (.ref 141), some (.int x1), some (.int x2), some (.int x3), some (.int x4), none]) (S' := [.int (x4 &&& x3)]) (M' := M) okX9_laysSets rfl ?_
      refine go_br okX9_laysSets rfl (fun hp => ?_) (fun hp => ?_)
      · have h := gq_pos hp h
        refine go_rn 2 (pc' := 53) (L' := [some (.ref 141), some (.int x1), some (.int x2), some (.int x3), some (.int (x4 + 1)), none]) (S' := []) (M' := M) okX9_laysSets rfl ?_
        exact go_wk (k2 ((x4 + 1)) M h) ⟨rfl, rfl, rfl, rfl, rfl, True.intro⟩
      · have h := gq_neg hp h
        refine go_rn 3 (pc' := 79) (L' := [some (.ref 141), some (.int x1), some (.int x2), some (.int x3), some (.int x4), none]) (S' := [.int x1, .int x4, .ref 141]) (M' := M) okX9_laysSets rfl ?_
        obtain ⟨r1, e2, h⟩ := gB0_ok h
        refine go_call1 ocX9_laysSets rfl rfl (gOb_c rfl) rfl (SX9_isThrough x4 x1 M e2) (Nat.lt_of_lt_of_le (by decide) hd) ?_
        refine go_br okX9_laysSets rfl (fun hp => ?_) (fun hp => ?_)
        · have h := gq_pos hp h
          refine go_rn 3 (pc' := 53) (L' := [some (.ref 141), some (.int x1), some (.int x2), some (.int x3), some (.int (x4 + 1)), none]) (S' := []) (M' := M) okX9_laysSets rfl ?_
          exact go_wk (k2 ((x4 + 1)) M h) ⟨rfl, rfl, rfl, rfl, rfl, True.intro⟩
        · have h := gq_neg hp h
          refine go_rn 2 (pc' := 90) (L' := [some (.ref 141), some (.int x1), some (.int x2), some (.int x3), some (.int x4), none]) (S' := [.ref 141, .int (1 : Int32)]) (M' := M) okX9_laysSets rfl ?_
          refine go_ck okX9_laysSets rfl (gOb_c rfl) ?_
          refine go_rn 5 (pc' := 99) (L' := [some (.ref 141), some (.int x1), some (.int x2), some (.int x3), some (.int x4), none]) (S' := [.int (x2 &&& (x4 ^^^ (-1 : Int32))), .ref 159, .int (1 : Int32)]) (M' := M) okX9_laysSets rfl ?_
          obtain ⟨c3, h⟩ := gq_if h
          refine go_ck okX9_laysSets rfl c3 ?_
          refine go_rn 4 (pc' := 106) (L' := [some (.ref 141), some (.int x1), some (.int x2), some (.int x3), some (.int x4), some (.int ((1 : Int32) + (M.1 159 (Int32.toNatClampNeg (x2 &&& (x4 ^^^ (-1 : Int32)))))))]) (S' := [.ref 141, .int ((1 : Int32) + (M.1 159 (Int32.toNatClampNeg (x2 &&& (x4 ^^^ (-1 : Int32))))))]) (M' := M) okX9_laysSets rfl ?_
          refine go_ck okX9_laysSets rfl (gOb_c rfl) ?_
          refine go_rn 1 (pc' := 110) (L' := [some (.ref 141), some (.int x1), some (.int x2), some (.int x3), some (.int x4), some (.int ((1 : Int32) + (M.1 159 (Int32.toNatClampNeg (x2 &&& (x4 ^^^ (-1 : Int32)))))))]) (S' := [.int x2, .ref 159, .int ((1 : Int32) + (M.1 159 (Int32.toNatClampNeg (x2 &&& (x4 ^^^ (-1 : Int32))))))]) (M' := M) okX9_laysSets rfl ?_
          obtain ⟨c4, h⟩ := gq_if h
          refine go_ck okX9_laysSets rfl c4 ?_
          refine go_br okX9_laysSets rfl (fun hp => ?_) (fun hp => ?_)
          · have h := gq_pos hp h
            refine go_rn 1 (pc' := 118) (L' := [some (.ref 141), some (.int x1), some (.int x2), some (.int x3), some (.int x4), some (.int ((1 : Int32) + (M.1 159 (Int32.toNatClampNeg (x2 &&& (x4 ^^^ (-1 : Int32)))))))]) (S' := [.ref 141]) (M' := M) okX9_laysSets rfl ?_
            refine go_ck okX9_laysSets rfl (gOb_c rfl) ?_
            refine go_rn 3 (pc' := 125) (L' := [some (.ref 141), some (.int x1), some (.int x2), some (.int x3), some (.int x4), some (.int ((1 : Int32) + (M.1 159 (Int32.toNatClampNeg (x2 &&& (x4 ^^^ (-1 : Int32)))))))]) (S' := [.ref 141, .int ((1 : Int32) + (M.1 159 (Int32.toNatClampNeg (x2 &&& (x4 ^^^ (-1 : Int32)))))), .int x2, .ref 160]) (M' := M) okX9_laysSets rfl ?_
            refine go_ck okX9_laysSets rfl (gOb_c rfl) ?_
            refine go_rn 1 (pc' := 129) (L' := [some (.ref 141), some (.int x1), some (.int x2), some (.int x3), some (.int x4), some (.int ((1 : Int32) + (M.1 159 (Int32.toNatClampNeg (x2 &&& (x4 ^^^ (-1 : Int32)))))))]) (S' := [.int x2, .ref 159, .int ((1 : Int32) + (M.1 159 (Int32.toNatClampNeg (x2 &&& (x4 ^^^ (-1 : Int32)))))), .int x2, .ref 160]) (M' := M) okX9_laysSets rfl ?_
            obtain ⟨c5, h⟩ := gq_if h
            refine go_ck okX9_laysSets rfl c5 ?_
            refine go_br okX9_laysSets rfl (fun hp => ?_) (fun hp => ?_)
            · have h := gq_pos hp h
              refine go_rn 1 (pc' := 138) (L' := [some (.ref 141), some (.int x1), some (.int x2), some (.int x3), some (.int x4), some (.int ((1 : Int32) + (M.1 159 (Int32.toNatClampNeg (x2 &&& (x4 ^^^ (-1 : Int32)))))))]) (S' := [.ref 141, .int x2, .ref 160]) (M' := M) okX9_laysSets rfl ?_
              refine go_ck okX9_laysSets rfl (gOb_c rfl) ?_
              refine go_rn 1 (pc' := 142) (L' := [some (.ref 141), some (.int x1), some (.int x2), some (.int x3), some (.int x4), some (.int ((1 : Int32) + (M.1 159 (Int32.toNatClampNeg (x2 &&& (x4 ^^^ (-1 : Int32)))))))]) (S' := [.int x2, .ref 160, .int x2, .ref 160]) (M' := M) okX9_laysSets rfl ?_
              obtain ⟨c6, h⟩ := gq_if h
              refine go_ck okX9_laysSets rfl c6 ?_
              exact go_wk (CX9_laysSets_143 hd x1 x2 x3 x4 ((1 : Int32) + (M.1 159 (Int32.toNatClampNeg (x2 &&& (x4 ^^^ (-1 : Int32)))))) (M.1 160 (Int32.toNatClampNeg x2)) x2 M P k0 k1 k2 h) ⟨rfl, rfl, rfl, rfl, rfl, rfl, True.intro⟩
            · have h := gq_neg hp h
              refine go_rn 2 (pc' := 143) (L' := [some (.ref 141), some (.int x1), some (.int x2), some (.int x3), some (.int x4), some (.int ((1 : Int32) + (M.1 159 (Int32.toNatClampNeg (x2 &&& (x4 ^^^ (-1 : Int32)))))))]) (S' := [.int (0 : Int32), .int x2, .ref 160]) (M' := M) okX9_laysSets rfl ?_
              exact go_wk (CX9_laysSets_143 hd x1 x2 x3 x4 ((1 : Int32) + (M.1 159 (Int32.toNatClampNeg (x2 &&& (x4 ^^^ (-1 : Int32)))))) (0 : Int32) x2 M P k0 k1 k2 h) ⟨rfl, rfl, rfl, rfl, rfl, rfl, True.intro⟩
          · have h := gq_neg hp h
            refine go_rn 3 (pc' := 53) (L' := [some (.ref 141), some (.int x1), some (.int x2), some (.int x3), some (.int (x4 + 1)), some (.int ((1 : Int32) + (M.1 159 (Int32.toNatClampNeg (x2 &&& (x4 ^^^ (-1 : Int32)))))))]) (S' := []) (M' := M) okX9_laysSets rfl ?_
            exact go_wk (k2 ((x4 + 1)) M h) ⟨rfl, rfl, rfl, rfl, rfl, True.intro⟩
    · have h := gq_neg hp h
      refine go_rn 2 (pc' := 53) (L' := [some (.ref 141), some (.int x1), some (.int x2), some (.int x3), some (.int (x4 + 1)), none]) (S' := []) (M' := M) okX9_laysSets rfl ?_
      exact go_wk (k2 ((x4 + 1)) M h) ⟨rfl, rfl, rfl, rfl, rfl, True.intro⟩
def fX9_laysSets_53h (x1 : Int32) (x2 : Int32) (x3 : Int32) (x4 : Int32) (M : gMem) : Option (Sum (Int32 × gMem) (gMem)) :=
  gLp (fun s : Int32 × gMem => fX9_laysSets_53 x1 x2 x3 (s.1) s.2) gFu (x4, M)
set_option maxRecDepth 100000 in
theorem CX9_laysSets_53h {G : gG} {d : Nat} {Z : Option Value → gMem → Prop} (hd : 3 ≤ d) (x1 : Int32) (x2 : Int32) (x3 : Int32) (x4 : Int32) (M : gMem) (P : Sum (Int32 × gMem) (gMem) → Prop) (k0 : ∀ (N : gMem), P (.inr N) → Z none N) (k1 : ∀ (x2 : Int32) (M : gMem), P (.inl (x2, M)) → gGo G YX9_laysSets d Z 20 [some (.ref 141), some (.int x1), some (.int x2), none, none, none] [] M) (h : gOKq (fX9_laysSets_53h x1 x2 x3 x4 M) P) : gGo G YX9_laysSets d Z 53 [some (.ref 141), some (.int x1), some (.int x2), some (.int x3), some (.int x4), none] [] M :=
  gLp_go (K := fun s : Int32 × gMem => gGo G YX9_laysSets d Z 53 [some (.ref 141), some (.int x1), some (.int x2), some (.int x3), some (.int s.1), none] [] s.2) (P := P) (fun s hs => CX9_laysSets_53 hd (x1) (x2) (x3) (s.1) (s.2) (Sum.elim (fun s : Int32 × gMem => gGo G YX9_laysSets d Z 53 [some (.ref 141), some (.int x1), some (.int x2), some (.int x3), some (.int s.1), none] [] s.2) P) k0 k1 (fun x4 M hh => hh) hs) gFu (x4, M) h
def fX9_laysSets_44 (x1 : Int32) (x2 : Int32) (s0 : Int32) (s1 : Int32) (M : gMem) : Option (Sum (Int32 × gMem) (gMem)) :=
  if gIx 1 160 s1 = true then fX9_laysSets_53h x1 x2 (x2 &&& (-x2)) (1 : Int32) (gSI M 160 (Int32.toNatClampNeg s1) s0) else none
set_option maxRecDepth 100000 in
theorem CX9_laysSets_44 {G : gG} {d : Nat} {Z : Option Value → gMem → Prop} (hd : 3 ≤ d) (x1 : Int32) (x2 : Int32) (s0 : Int32) (s1 : Int32) (M : gMem) (P : Sum (Int32 × gMem) (gMem) → Prop) (k0 : ∀ (N : gMem), P (.inr N) → Z none N) (k1 : ∀ (x2 : Int32) (M : gMem), P (.inl (x2, M)) → gGo G YX9_laysSets d Z 20 [some (.ref 141), some (.int x1), some (.int x2), none, none, none] [] M) (h : gOKq (fX9_laysSets_44 x1 x2 s0 s1 M) P) : gGo G YX9_laysSets d Z 44 [some (.ref 141), some (.int x1), some (.int x2), none, none, none] [.int s0, .int s1, .ref 160] M := by
  unfold fX9_laysSets_44 at h
  obtain ⟨c1, h⟩ := gq_if h
  refine go_ck okX9_laysSets rfl c1 ?_
  refine go_rn 7 (pc' := 53) (L' := [some (.ref 141), some (.int x1), some (.int x2), some (.int (x2 &&& (-x2))), some (.int (1 : Int32)), none]) (S' := []) (M' := (gSI M 160 (Int32.toNatClampNeg s1) s0)) okX9_laysSets rfl ?_
  exact go_wk (CX9_laysSets_53h hd x1 x2 (x2 &&& (-x2)) (1 : Int32) (gSI M 160 (Int32.toNatClampNeg s1) s0) P k0 k1 h) ⟨rfl, rfl, rfl, rfl, rfl, True.intro⟩
def fX9_laysSets_20 (x1 : Int32) (x2 : Int32) (M : gMem) : Option (Sum (Int32 × gMem) (gMem)) :=
  gB0 (fX9_people M) (fun r1 => if ((1 : Int32) <<< (r1 &&& 31)) ≤ x2 then some (.inr M) else if gIx 1 159 x2 = true then fX9_laysSets_44 x1 x2 (0 : Int32) x2 (gSI M 159 (Int32.toNatClampNeg x2) (100000 : Int32)) else none)
set_option maxRecDepth 100000 in
theorem CX9_laysSets_20 {G : gG} {d : Nat} {Z : Option Value → gMem → Prop} (hd : 3 ≤ d) (x1 : Int32) (x2 : Int32) (M : gMem) (P : Sum (Int32 × gMem) (gMem) → Prop) (k0 : ∀ (N : gMem), P (.inr N) → Z none N) (k1 : ∀ (x2 : Int32) (M : gMem), P (.inl (x2, M)) → gGo G YX9_laysSets d Z 20 [some (.ref 141), some (.int x1), some (.int x2), none, none, none] [] M) (h : gOKq (fX9_laysSets_20 x1 x2 M) P) : gGo G YX9_laysSets d Z 20 [some (.ref 141), some (.int x1), some (.int x2), none, none, none] [] M := by
  unfold fX9_laysSets_20 at h
  refine go_rn 3 (pc' := 23) (L' := [some (.ref 141), some (.int x1), some (.int x2), none, none, none]) (S' := [.ref 141, .int (1 : Int32), .int x2]) (M' := M) okX9_laysSets rfl ?_
  obtain ⟨r1, e2, h⟩ := gB0_ok h
  refine go_call1 ocX9_laysSets rfl rfl (gOb_c rfl) rfl (SX9_people M e2) (Nat.lt_of_lt_of_le (by decide) hd) ?_
  refine go_rn 1 (pc' := 27) (L' := [some (.ref 141), some (.int x1), some (.int x2), none, none, none]) (S' := [.int ((1 : Int32) <<< (r1 &&& 31)), .int x2]) (M' := M) okX9_laysSets rfl ?_
  refine go_br okX9_laysSets rfl (fun hp => ?_) (fun hp => ?_)
  · have h := gq_pos hp h
    exact go_vret (reX9_laysSets _ (by decide)) rfl (k0 M h)
  · have h := gq_neg hp h
    refine go_rn 1 (pc' := 31) (L' := [some (.ref 141), some (.int x1), some (.int x2), none, none, none]) (S' := [.ref 141]) (M' := M) okX9_laysSets rfl ?_
    refine go_ck okX9_laysSets rfl (gOb_c rfl) ?_
    refine go_rn 2 (pc' := 37) (L' := [some (.ref 141), some (.int x1), some (.int x2), none, none, none]) (S' := [.int (100000 : Int32), .int x2, .ref 159]) (M' := M) okX9_laysSets rfl ?_
    obtain ⟨c3, h⟩ := gq_if h
    refine go_ck okX9_laysSets rfl c3 ?_
    refine go_rn 1 (pc' := 39) (L' := [some (.ref 141), some (.int x1), some (.int x2), none, none, none]) (S' := [.ref 141]) (M' := (gSI M 159 (Int32.toNatClampNeg x2) (100000 : Int32))) okX9_laysSets rfl ?_
    refine go_ck okX9_laysSets rfl (gOb_c rfl) ?_
    refine go_rn 2 (pc' := 44) (L' := [some (.ref 141), some (.int x1), some (.int x2), none, none, none]) (S' := [.int (0 : Int32), .int x2, .ref 160]) (M' := (gSI M 159 (Int32.toNatClampNeg x2) (100000 : Int32))) okX9_laysSets rfl ?_
    exact go_wk (CX9_laysSets_44 hd x1 x2 (0 : Int32) x2 (gSI M 159 (Int32.toNatClampNeg x2) (100000 : Int32)) P k0 k1 h) ⟨rfl, rfl, rfl, True.intro⟩
def fX9_laysSets_20h (x1 : Int32) (x2 : Int32) (M : gMem) : Option (gMem) :=
  gLp (fun s : Int32 × gMem => fX9_laysSets_20 x1 (s.1) s.2) gFu (x2, M)
set_option maxRecDepth 100000 in
theorem CX9_laysSets_20h {G : gG} {d : Nat} {Z : Option Value → gMem → Prop} (hd : 3 ≤ d) (x1 : Int32) (x2 : Int32) (M : gMem) (P : gMem → Prop) (k0 : ∀ (N : gMem), P N → Z none N) (h : gOKq (fX9_laysSets_20h x1 x2 M) P) : gGo G YX9_laysSets d Z 20 [some (.ref 141), some (.int x1), some (.int x2), none, none, none] [] M :=
  gLp_go (K := fun s : Int32 × gMem => gGo G YX9_laysSets d Z 20 [some (.ref 141), some (.int x1), some (.int s.1), none, none, none] [] s.2) (P := P) (fun s hs => CX9_laysSets_20 hd (x1) (s.1) (s.2) (Sum.elim (fun s : Int32 × gMem => gGo G YX9_laysSets d Z 20 [some (.ref 141), some (.int x1), some (.int s.1), none, none, none] [] s.2) P) k0 (fun x2 M hh => hh) hs) gFu (x2, M) h
def fX9_laysSets_17 (x1 : Int32) (s0 : Int32) (s1 : Int32) (M : gMem) : Option (gMem) :=
  if gIx 1 160 s1 = true then fX9_laysSets_20h x1 (1 : Int32) (gSI M 160 (Int32.toNatClampNeg s1) s0) else none
set_option maxRecDepth 100000 in
theorem CX9_laysSets_17 {G : gG} {d : Nat} {Z : Option Value → gMem → Prop} (hd : 3 ≤ d) (x1 : Int32) (s0 : Int32) (s1 : Int32) (M : gMem) (P : gMem → Prop) (k0 : ∀ (N : gMem), P N → Z none N) (h : gOKq (fX9_laysSets_17 x1 s0 s1 M) P) : gGo G YX9_laysSets d Z 17 [some (.ref 141), some (.int x1), none, none, none, none] [.int s0, .int s1, .ref 160] M := by
  unfold fX9_laysSets_17 at h
  obtain ⟨c1, h⟩ := gq_if h
  refine go_ck okX9_laysSets rfl c1 ?_
  refine go_rn 2 (pc' := 20) (L' := [some (.ref 141), some (.int x1), some (.int (1 : Int32)), none, none, none]) (S' := []) (M' := (gSI M 160 (Int32.toNatClampNeg s1) s0)) okX9_laysSets rfl ?_
  exact go_wk (CX9_laysSets_20h hd x1 (1 : Int32) (gSI M 160 (Int32.toNatClampNeg s1) s0) P k0 h) ⟨rfl, rfl, rfl, True.intro⟩
def fX9_laysSets_0 (x1 : Int32) (M : gMem) : Option (gMem) :=
  gB0 (fX9_lays M) (fun M1 => if gIx 1 159 (0 : Int32) = true then fX9_laysSets_17 x1 (1 : Int32) (0 : Int32) (gSI M1 159 (Int32.toNatClampNeg (0 : Int32)) (0 : Int32)) else none)
set_option maxRecDepth 100000 in
theorem CX9_laysSets_0 {G : gG} {d : Nat} {Z : Option Value → gMem → Prop} (hd : 3 ≤ d) (x1 : Int32) (M : gMem) (P : gMem → Prop) (k0 : ∀ (N : gMem), P N → Z none N) (h : gOKq (fX9_laysSets_0 x1 M) P) : gGo G YX9_laysSets d Z 0 [some (.ref 141), some (.int x1), none, none, none, none] [] M := by
  unfold fX9_laysSets_0 at h
  refine go_rn 1 (pc' := 1) (L' := [some (.ref 141), some (.int x1), none, none, none, none]) (S' := [.ref 141]) (M' := M) okX9_laysSets rfl ?_
  obtain ⟨M1, e2, h⟩ := gB0_ok h
  refine go_call1 ocX9_laysSets rfl rfl (gOb_c rfl) rfl (SX9_lays M e2) (Nat.lt_of_lt_of_le (by decide) hd) ?_
  refine go_rn 1 (pc' := 5) (L' := [some (.ref 141), some (.int x1), none, none, none, none]) (S' := [.ref 141]) (M' := M1) okX9_laysSets rfl ?_
  refine go_ck okX9_laysSets rfl (gOb_c rfl) ?_
  refine go_rn 2 (pc' := 10) (L' := [some (.ref 141), some (.int x1), none, none, none, none]) (S' := [.int (0 : Int32), .int (0 : Int32), .ref 159]) (M' := M1) okX9_laysSets rfl ?_
  obtain ⟨c3, h⟩ := gq_if h
  refine go_ck okX9_laysSets rfl c3 ?_
  refine go_rn 1 (pc' := 12) (L' := [some (.ref 141), some (.int x1), none, none, none, none]) (S' := [.ref 141]) (M' := (gSI M1 159 (Int32.toNatClampNeg (0 : Int32)) (0 : Int32))) okX9_laysSets rfl ?_
  refine go_ck okX9_laysSets rfl (gOb_c rfl) ?_
  refine go_rn 2 (pc' := 17) (L' := [some (.ref 141), some (.int x1), none, none, none, none]) (S' := [.int (1 : Int32), .int (0 : Int32), .ref 160]) (M' := (gSI M1 159 (Int32.toNatClampNeg (0 : Int32)) (0 : Int32))) okX9_laysSets rfl ?_
  exact go_wk (CX9_laysSets_17 hd x1 (1 : Int32) (0 : Int32) (gSI M1 159 (Int32.toNatClampNeg (0 : Int32)) (0 : Int32)) P k0 h) ⟨rfl, rfl, True.intro⟩
def fX9_laysSets (a1 : Int32) (M : gMem) : Option (gMem) := fX9_laysSets_0 a1 M
theorem SX9_laysSets {G : gG} (a1 : Int32) (M : gMem) {N : gMem} (h : fX9_laysSets a1 M = some N) : gRun G YX9_laysSets 3 [.ref 141, .int a1] M (fun r' N' => r' = none ∧ N' = N) := gRun_in (by decide +kernel) rfl (fun d hd => go_wk (CX9_laysSets_0 hd a1 M (fun p => p = N) (fun N hh => ⟨rfl, hh⟩) (gq_of h)) ⟨rfl, rfl, True.intro⟩)
def fX9_sets_8 (x1 : Int32) (s0 : Int64) (M : gMem) : Option (Int32 × gMem) :=
  gB0 (fX9_isDoor s0 M) (fun r1 => if r1 = 0 then some ((-2 : Int32), M) else gB0 (fX9_laysSets x1 M) (fun M3 => gB0 (fX9_people M3) (fun r5 => if gIx 1 159 (((1 : Int32) <<< (r5 &&& 31)) - (1 : Int32)) = true then if (M3.1 159 (Int32.toNatClampNeg (((1 : Int32) <<< (r5 &&& 31)) - (1 : Int32)))) < (100000 : Int32) then some ((M3.1 159 (Int32.toNatClampNeg (((1 : Int32) <<< (r5 &&& 31)) - (1 : Int32)))), M3) else some ((-1 : Int32), M3) else none)))
set_option maxRecDepth 100000 in
theorem CX9_sets_8 {G : gG} {d : Nat} {Z : Option Value → gMem → Prop} (hd : 4 ≤ d) (x1 : Int32) (s0 : Int64) (M : gMem) (P : Int32 × gMem → Prop) (k0 : ∀ (r : Int32) (N : gMem), P (r, N) → Z (some (.int r)) N) (h : gOKq (fX9_sets_8 x1 s0 M) P) : gGo G YX9_sets d Z 8 [some (.ref 141), some (.int x1), none] [.long s0, .ref 141] M := by
  unfold fX9_sets_8 at h
  obtain ⟨r1, e2, h⟩ := gB0_ok h
  refine go_call1 ocX9_sets rfl rfl (gOb_c rfl) rfl (SX9_isDoor s0 M e2) (Nat.lt_of_lt_of_le (by decide) hd) ?_
  refine go_br okX9_sets rfl (fun hp => ?_) (fun hp => ?_)
  · have h := gq_pos hp h
    refine go_rn 1 (pc' := 16) (L' := [some (.ref 141), some (.int x1), none]) (S' := [.int (-2 : Int32)]) (M' := M) okX9_sets rfl ?_
    exact go_iret (reX9_sets _ (by decide)) rfl (k0 (-2 : Int32) M h)
  · have h := gq_neg hp h
    refine go_rn 2 (pc' := 19) (L' := [some (.ref 141), some (.int x1), none]) (S' := [.int x1, .ref 141]) (M' := M) okX9_sets rfl ?_
    obtain ⟨M3, e4, h⟩ := gB0_ok h
    refine go_call1 ocX9_sets rfl rfl (gOb_c rfl) rfl (SX9_laysSets x1 M e4) (Nat.lt_of_lt_of_le (by decide) hd) ?_
    refine go_rn 1 (pc' := 23) (L' := [some (.ref 141), some (.int x1), none]) (S' := [.ref 141]) (M' := M3) okX9_sets rfl ?_
    refine go_ck okX9_sets rfl (gOb_c rfl) ?_
    refine go_rn 2 (pc' := 28) (L' := [some (.ref 141), some (.int x1), none]) (S' := [.ref 141, .int (1 : Int32), .ref 159]) (M' := M3) okX9_sets rfl ?_
    obtain ⟨r5, e6, h⟩ := gB0_ok h
    refine go_call1 ocX9_sets rfl rfl (gOb_c rfl) rfl (SX9_people M3 e6) (Nat.lt_of_lt_of_le (by decide) hd) ?_
    refine go_rn 3 (pc' := 34) (L' := [some (.ref 141), some (.int x1), none]) (S' := [.int (((1 : Int32) <<< (r5 &&& 31)) - (1 : Int32)), .ref 159]) (M' := M3) okX9_sets rfl ?_
    obtain ⟨c7, h⟩ := gq_if h
    refine go_ck okX9_sets rfl c7 ?_
    refine go_rn 3 (pc' := 39) (L' := [some (.ref 141), some (.int x1), some (.int (M3.1 159 (Int32.toNatClampNeg (((1 : Int32) <<< (r5 &&& 31)) - (1 : Int32)))))]) (S' := [.int (100000 : Int32), .int (M3.1 159 (Int32.toNatClampNeg (((1 : Int32) <<< (r5 &&& 31)) - (1 : Int32))))]) (M' := M3) okX9_sets rfl ?_
    refine go_br okX9_sets rfl (fun hp => ?_) (fun hp => ?_)
    · have h := gq_pos hp h
      refine go_rn 1 (pc' := 47) (L' := [some (.ref 141), some (.int x1), some (.int (M3.1 159 (Int32.toNatClampNeg (((1 : Int32) <<< (r5 &&& 31)) - (1 : Int32)))))]) (S' := [.int (M3.1 159 (Int32.toNatClampNeg (((1 : Int32) <<< (r5 &&& 31)) - (1 : Int32))))]) (M' := M3) okX9_sets rfl ?_
      exact go_iret (reX9_sets _ (by decide)) rfl (k0 (M3.1 159 (Int32.toNatClampNeg (((1 : Int32) <<< (r5 &&& 31)) - (1 : Int32)))) M3 h)
    · have h := gq_neg hp h
      refine go_rn 2 (pc' := 47) (L' := [some (.ref 141), some (.int x1), some (.int (M3.1 159 (Int32.toNatClampNeg (((1 : Int32) <<< (r5 &&& 31)) - (1 : Int32)))))]) (S' := [.int (-1 : Int32)]) (M' := M3) okX9_sets rfl ?_
      exact go_iret (reX9_sets _ (by decide)) rfl (k0 (-1 : Int32) M3 h)
def fX9_sets_0 (x1 : Int32) (M : gMem) : Option (Int32 × gMem) :=
  fX9_sets_8 x1 (Int32.toInt64 x1) (gSI M 141 0 (0 : Int32))
set_option maxRecDepth 100000 in
theorem CX9_sets_0 {G : gG} {d : Nat} {Z : Option Value → gMem → Prop} (hd : 4 ≤ d) (x1 : Int32) (M : gMem) (P : Int32 × gMem → Prop) (k0 : ∀ (r : Int32) (N : gMem), P (r, N) → Z (some (.int r)) N) (h : gOKq (fX9_sets_0 x1 M) P) : gGo G YX9_sets d Z 0 [some (.ref 141), some (.int x1), none] [] M := by
  unfold fX9_sets_0 at h
  refine go_rn 2 (pc' := 2) (L' := [some (.ref 141), some (.int x1), none]) (S' := [.int (0 : Int32), .ref 141]) (M' := M) okX9_sets rfl ?_
  refine go_ck okX9_sets rfl (gOb_c rfl) ?_
  refine go_rn 3 (pc' := 8) (L' := [some (.ref 141), some (.int x1), none]) (S' := [.long (Int32.toInt64 x1), .ref 141]) (M' := (gSI M 141 0 (0 : Int32))) okX9_sets rfl ?_
  exact go_wk (CX9_sets_8 hd x1 (Int32.toInt64 x1) (gSI M 141 0 (0 : Int32)) P k0 h) ⟨rfl, rfl, True.intro⟩
def fX9_sets (a1 : Int32) (M : gMem) : Option (Int32 × gMem) := fX9_sets_0 a1 M
theorem SX9_sets {G : gG} (a1 : Int32) (M : gMem) {r : Int32} {N : gMem} (h : fX9_sets a1 M = some (r, N)) : gRun G YX9_sets 4 [.ref 141, .int a1] M (fun r' N' => r' = some (.int r) ∧ N' = N) := gRun_in (by decide +kernel) rfl (fun d hd => go_wk (CX9_sets_0 hd a1 M (fun p => p = (r, N)) (fun r N hh => by cases hh; exact ⟨rfl, rfl⟩) (gq_of h)) ⟨rfl, rfl, True.intro⟩)
def fX9_ways_8 (x1 : Int32) (s0 : Int64) (M : gMem) : Option (Int32 × gMem) :=
  gB0 (fX9_isDoor s0 M) (fun r1 => if r1 = 0 then some ((-2 : Int32), M) else gB0 (fX9_laysSets x1 M) (fun M3 => gB0 (fX9_people M3) (fun r5 => if gIx 1 159 (((1 : Int32) <<< (r5 &&& 31)) - (1 : Int32)) = true then if (M3.1 159 (Int32.toNatClampNeg (((1 : Int32) <<< (r5 &&& 31)) - (1 : Int32)))) < (100000 : Int32) then if gIx 1 160 (((1 : Int32) <<< (r5 &&& 31)) - (1 : Int32)) = true then some ((M3.1 160 (Int32.toNatClampNeg (((1 : Int32) <<< (r5 &&& 31)) - (1 : Int32)))), M3) else none else some ((-1 : Int32), M3) else none)))
set_option maxRecDepth 100000 in
theorem CX9_ways_8 {G : gG} {d : Nat} {Z : Option Value → gMem → Prop} (hd : 4 ≤ d) (x1 : Int32) (s0 : Int64) (M : gMem) (P : Int32 × gMem → Prop) (k0 : ∀ (r : Int32) (N : gMem), P (r, N) → Z (some (.int r)) N) (h : gOKq (fX9_ways_8 x1 s0 M) P) : gGo G YX9_ways d Z 8 [some (.ref 141), some (.int x1), none] [.long s0, .ref 141] M := by
  unfold fX9_ways_8 at h
  obtain ⟨r1, e2, h⟩ := gB0_ok h
  refine go_call1 ocX9_ways rfl rfl (gOb_c rfl) rfl (SX9_isDoor s0 M e2) (Nat.lt_of_lt_of_le (by decide) hd) ?_
  refine go_br okX9_ways rfl (fun hp => ?_) (fun hp => ?_)
  · have h := gq_pos hp h
    refine go_rn 1 (pc' := 16) (L' := [some (.ref 141), some (.int x1), none]) (S' := [.int (-2 : Int32)]) (M' := M) okX9_ways rfl ?_
    exact go_iret (reX9_ways _ (by decide)) rfl (k0 (-2 : Int32) M h)
  · have h := gq_neg hp h
    refine go_rn 2 (pc' := 19) (L' := [some (.ref 141), some (.int x1), none]) (S' := [.int x1, .ref 141]) (M' := M) okX9_ways rfl ?_
    obtain ⟨M3, e4, h⟩ := gB0_ok h
    refine go_call1 ocX9_ways rfl rfl (gOb_c rfl) rfl (SX9_laysSets x1 M e4) (Nat.lt_of_lt_of_le (by decide) hd) ?_
    refine go_rn 2 (pc' := 24) (L' := [some (.ref 141), some (.int x1), none]) (S' := [.ref 141, .int (1 : Int32)]) (M' := M3) okX9_ways rfl ?_
    obtain ⟨r5, e6, h⟩ := gB0_ok h
    refine go_call1 ocX9_ways rfl rfl (gOb_c rfl) rfl (SX9_people M3 e6) (Nat.lt_of_lt_of_le (by decide) hd) ?_
    refine go_rn 5 (pc' := 32) (L' := [some (.ref 141), some (.int x1), some (.int (((1 : Int32) <<< (r5 &&& 31)) - (1 : Int32)))]) (S' := [.ref 141]) (M' := M3) okX9_ways rfl ?_
    refine go_ck okX9_ways rfl (gOb_c rfl) ?_
    refine go_rn 1 (pc' := 36) (L' := [some (.ref 141), some (.int x1), some (.int (((1 : Int32) <<< (r5 &&& 31)) - (1 : Int32)))]) (S' := [.int (((1 : Int32) <<< (r5 &&& 31)) - (1 : Int32)), .ref 159]) (M' := M3) okX9_ways rfl ?_
    obtain ⟨c7, h⟩ := gq_if h
    refine go_ck okX9_ways rfl c7 ?_
    refine go_rn 1 (pc' := 39) (L' := [some (.ref 141), some (.int x1), some (.int (((1 : Int32) <<< (r5 &&& 31)) - (1 : Int32)))]) (S' := [.int (100000 : Int32), .int (M3.1 159 (Int32.toNatClampNeg (((1 : Int32) <<< (r5 &&& 31)) - (1 : Int32))))]) (M' := M3) okX9_ways rfl ?_
    refine go_br okX9_ways rfl (fun hp => ?_) (fun hp => ?_)
    · have h := gq_pos hp h
      refine go_rn 1 (pc' := 47) (L' := [some (.ref 141), some (.int x1), some (.int (((1 : Int32) <<< (r5 &&& 31)) - (1 : Int32)))]) (S' := [.ref 141]) (M' := M3) okX9_ways rfl ?_
      refine go_ck okX9_ways rfl (gOb_c rfl) ?_
      refine go_rn 1 (pc' := 51) (L' := [some (.ref 141), some (.int x1), some (.int (((1 : Int32) <<< (r5 &&& 31)) - (1 : Int32)))]) (S' := [.int (((1 : Int32) <<< (r5 &&& 31)) - (1 : Int32)), .ref 160]) (M' := M3) okX9_ways rfl ?_
      obtain ⟨c8, h⟩ := gq_if h
      refine go_ck okX9_ways rfl c8 ?_
      exact go_iret (reX9_ways _ (by decide)) rfl (k0 (M3.1 160 (Int32.toNatClampNeg (((1 : Int32) <<< (r5 &&& 31)) - (1 : Int32)))) M3 h)
    · have h := gq_neg hp h
      refine go_rn 2 (pc' := 52) (L' := [some (.ref 141), some (.int x1), some (.int (((1 : Int32) <<< (r5 &&& 31)) - (1 : Int32)))]) (S' := [.int (-1 : Int32)]) (M' := M3) okX9_ways rfl ?_
      exact go_iret (reX9_ways _ (by decide)) rfl (k0 (-1 : Int32) M3 h)
def fX9_ways_0 (x1 : Int32) (M : gMem) : Option (Int32 × gMem) :=
  fX9_ways_8 x1 (Int32.toInt64 x1) (gSI M 141 0 (0 : Int32))
set_option maxRecDepth 100000 in
theorem CX9_ways_0 {G : gG} {d : Nat} {Z : Option Value → gMem → Prop} (hd : 4 ≤ d) (x1 : Int32) (M : gMem) (P : Int32 × gMem → Prop) (k0 : ∀ (r : Int32) (N : gMem), P (r, N) → Z (some (.int r)) N) (h : gOKq (fX9_ways_0 x1 M) P) : gGo G YX9_ways d Z 0 [some (.ref 141), some (.int x1), none] [] M := by
  unfold fX9_ways_0 at h
  refine go_rn 2 (pc' := 2) (L' := [some (.ref 141), some (.int x1), none]) (S' := [.int (0 : Int32), .ref 141]) (M' := M) okX9_ways rfl ?_
  refine go_ck okX9_ways rfl (gOb_c rfl) ?_
  refine go_rn 3 (pc' := 8) (L' := [some (.ref 141), some (.int x1), none]) (S' := [.long (Int32.toInt64 x1), .ref 141]) (M' := (gSI M 141 0 (0 : Int32))) okX9_ways rfl ?_
  exact go_wk (CX9_ways_8 hd x1 (Int32.toInt64 x1) (gSI M 141 0 (0 : Int32)) P k0 h) ⟨rfl, rfl, True.intro⟩
def fX9_ways (a1 : Int32) (M : gMem) : Option (Int32 × gMem) := fX9_ways_0 a1 M
theorem SX9_ways {G : gG} (a1 : Int32) (M : gMem) {r : Int32} {N : gMem} (h : fX9_ways a1 M = some (r, N)) : gRun G YX9_ways 4 [.ref 141, .int a1] M (fun r' N' => r' = some (.int r) ∧ N' = N) := gRun_in (by decide +kernel) rfl (fun d hd => go_wk (CX9_ways_0 hd a1 M (fun p => p = (r, N)) (fun r N hh => by cases hh; exact ⟨rfl, rfl⟩) (gq_of h)) ⟨rfl, rfl, True.intro⟩)
def fX9_valueOf_0 (x1 : Int32) (x2 : Int32) (M : gMem) : Option (Int32) :=
  gB0 (fX9_isThrough x1 x2 M) (fun r1 => if r1 = 0 then some (0 : Int32) else gB0 (fX9_worthOf x1 M) (fun r3 => some r3))
set_option maxRecDepth 100000 in
theorem CX9_valueOf_0 {G : gG} {d : Nat} {Z : Option Value → gMem → Prop} (hd : 3 ≤ d) (x1 : Int32) (x2 : Int32) (M : gMem) (P : Int32 → Prop) (k0 : ∀ (r : Int32), P r → Z (some (.int r)) M) (h : gOKq (fX9_valueOf_0 x1 x2 M) P) : gGo G YX9_valueOf d Z 0 [some (.ref 141), some (.int x1), some (.int x2)] [] M := by
  unfold fX9_valueOf_0 at h
  refine go_rn 3 (pc' := 3) (L' := [some (.ref 141), some (.int x1), some (.int x2)]) (S' := [.int x2, .int x1, .ref 141]) (M' := M) okX9_valueOf rfl ?_
  obtain ⟨r1, e2, h⟩ := gB0_ok h
  refine go_call1 ocX9_valueOf rfl rfl (gOb_c rfl) rfl (SX9_isThrough x1 x2 M e2) (Nat.lt_of_lt_of_le (by decide) hd) ?_
  refine go_br okX9_valueOf rfl (fun hp => ?_) (fun hp => ?_)
  · have h := gq_pos hp h
    refine go_rn 1 (pc' := 18) (L' := [some (.ref 141), some (.int x1), some (.int x2)]) (S' := [.int (0 : Int32)]) (M' := M) okX9_valueOf rfl ?_
    exact go_iret (reX9_valueOf _ (by decide)) rfl (k0 (0 : Int32) h)
  · have h := gq_neg hp h
    refine go_rn 2 (pc' := 11) (L' := [some (.ref 141), some (.int x1), some (.int x2)]) (S' := [.int x1, .ref 141]) (M' := M) okX9_valueOf rfl ?_
    obtain ⟨r3, e4, h⟩ := gB0_ok h
    refine go_call1 ocX9_valueOf rfl rfl (gOb_c rfl) rfl (SX9_worthOf x1 M e4) (Nat.lt_of_lt_of_le (by decide) hd) ?_
    refine go_rn 1 (pc' := 18) (L' := [some (.ref 141), some (.int x1), some (.int x2)]) (S' := [.int r3]) (M' := M) okX9_valueOf rfl ?_
    exact go_iret (reX9_valueOf _ (by decide)) rfl (k0 r3 h)
def fX9_valueOf (a1 : Int32) (a2 : Int32) (M : gMem) : Option (Int32) := fX9_valueOf_0 a1 a2 M
theorem SX9_valueOf {G : gG} (a1 : Int32) (a2 : Int32) (M : gMem) {r : Int32} (h : fX9_valueOf a1 a2 M = some r) : gRun G YX9_valueOf 3 [.ref 141, .int a1, .int a2] M (fun r' N' => r' = some (.int r) ∧ N' = M) := gRun_in (by decide +kernel) rfl (fun d hd => go_wk (CX9_valueOf_0 hd a1 a2 M (fun p => p = r) (fun r hh => ⟨congrArg (fun z => some (Value.int z)) hh, rfl⟩) (gq_of h)) ⟨rfl, rfl, rfl, True.intro⟩)
def fX9_part_9 (x0 : Int32) (x1 : Int32) (s0 : Int32) (M : gMem) : Option (Int32) :=
  gB0 (fX9_common x0 x1 M) (fun r1 => if r1 = 0 then none else some (s0 / r1))
set_option maxRecDepth 100000 in
theorem CX9_part_9 {G : gG} {d : Nat} {Z : Option Value → gMem → Prop} (hd : 61 ≤ d) (x0 : Int32) (x1 : Int32) (s0 : Int32) (M : gMem) (P : Int32 → Prop) (k0 : ∀ (r : Int32), P r → Z (some (.int r)) M) (h : gOKq (fX9_part_9 x0 x1 s0 M) P) : gGo G YX9_part d Z 9 [some (.int x0), some (.int x1), none] [.int s0] M := by
  unfold fX9_part_9 at h
  refine go_rn 2 (pc' := 11) (L' := [some (.int x0), some (.int x1), none]) (S' := [.int x1, .int x0, .int s0]) (M' := M) okX9_part rfl ?_
  obtain ⟨r1, e2, h⟩ := gB0_ok h
  refine go_call1 ocX9_part rfl rfl rfl rfl (SX9_common x0 x1 M e2) (Nat.lt_of_lt_of_le (by decide) hd) ?_
  obtain ⟨hn, h⟩ := gq_no h
  refine go_nk okX9_part rfl hn ?_
  exact go_iret (reX9_part _ (by decide)) rfl (k0 (s0 / r1) h)
def fX9_part_0 (x0 : Int32) (x1 : Int32) (x2 : Int32) (M : gMem) : Option (Int32) :=
  if x2 = 0 then fX9_part_9 x0 x1 x0 M else fX9_part_9 x0 x1 x1 M
set_option maxRecDepth 100000 in
theorem CX9_part_0 {G : gG} {d : Nat} {Z : Option Value → gMem → Prop} (hd : 61 ≤ d) (x0 : Int32) (x1 : Int32) (x2 : Int32) (M : gMem) (P : Int32 → Prop) (k0 : ∀ (r : Int32), P r → Z (some (.int r)) M) (h : gOKq (fX9_part_0 x0 x1 x2 M) P) : gGo G YX9_part d Z 0 [some (.int x0), some (.int x1), some (.int x2)] [] M := by
  unfold fX9_part_0 at h
  refine go_rn 1 (pc' := 1) (L' := [some (.int x0), some (.int x1), some (.int x2)]) (S' := [.int x2]) (M' := M) okX9_part rfl ?_
  refine go_br okX9_part rfl (fun hp => ?_) (fun hp => ?_)
  · have h := gq_pos hp h
    refine go_rn 2 (pc' := 9) (L' := [some (.int x0), some (.int x1), some (.int x2)]) (S' := [.int x0]) (M' := M) okX9_part rfl ?_
    exact go_wk (CX9_part_9 hd x0 x1 x0 M P k0 h) ⟨rfl, rfl, True.intro⟩
  · have h := gq_neg hp h
    refine go_rn 1 (pc' := 9) (L' := [some (.int x0), some (.int x1), some (.int x2)]) (S' := [.int x1]) (M' := M) okX9_part rfl ?_
    exact go_wk (CX9_part_9 hd x0 x1 x1 M P k0 h) ⟨rfl, rfl, True.intro⟩
def fX9_part (a0 : Int32) (a1 : Int32) (a2 : Int32) (M : gMem) : Option (Int32) := fX9_part_0 a0 a1 a2 M
theorem SX9_part {G : gG} (a0 : Int32) (a1 : Int32) (a2 : Int32) (M : gMem) {r : Int32} (h : fX9_part a0 a1 a2 M = some r) : gRun G YX9_part 61 [.int a0, .int a1, .int a2] M (fun r' N' => r' = some (.int r) ∧ N' = M) := gRun_in (by decide +kernel) rfl (fun d hd => go_wk (CX9_part_0 hd a0 a1 a2 M (fun p => p = r) (fun r hh => ⟨congrArg (fun z => some (Value.int z)) hh, rfl⟩) (gq_of h)) ⟨rfl, rfl, rfl, True.intro⟩)
def fX9_share_43 (x1 : Int32) (x2 : Int32) (x3 : Int32) (x4 : Int32) (x5 : Int32) (M : gMem) : Option (Sum (Int32 × Int32) (Int32 × gMem)) :=
  gB0 (fX9_people M) (fun r1 => if ((1 : Int32) <<< (r1 &&& 31)) ≤ x5 then gB0 (fX9_people M) (fun r3 => gB0 (fX9_times r3 M) (fun r5 => gB0 (fX9_part x4 r5 x3 M) (fun r7 => some (.inr (r7, M))))) else gB0 (fX9_isBit x5 x1 M) (fun r9 => if r9 = 0 then gB0 (fX9_sizeOf x5 M) (fun r11 => gB0 (fX9_times r11 M) (fun r13 => gB0 (fX9_people M) (fun r15 => gB0 (fX9_times ((r15 - r11) - (1 : Int32)) M) (fun r17 => gB0 (fX9_valueOf (x5 ||| ((1 : Int32) <<< (x1 &&& 31))) x2 M) (fun r19 => gB0 (fX9_valueOf x5 x2 M) (fun r21 => some (.inl ((x4 + ((r13 * r17) * (r19 - r21))), (x5 + 1))))))))) else some (.inl (x4, (x5 + 1)))))
set_option maxRecDepth 100000 in
theorem CX9_share_43 {G : gG} {d : Nat} {Z : Option Value → gMem → Prop} (hd : 62 ≤ d) (x1 : Int32) (x2 : Int32) (x3 : Int32) (x4 : Int32) (x5 : Int32) (M : gMem) (P : Sum (Int32 × Int32) (Int32 × gMem) → Prop) (k0 : ∀ (r : Int32) (N : gMem), P (.inr (r, N)) → Z (some (.int r)) N) (k1 : ∀ (x4 : Int32) (x5 : Int32), P (.inl (x4, x5)) → gGo G YX9_share d Z 43 [some (.ref 141), some (.int x1), some (.int x2), some (.int x3), some (.int x4), some (.int x5), none] [] M) (h : gOKq (fX9_share_43 x1 x2 x3 x4 x5 M) P) : gGo G YX9_share d Z 43 [some (.ref 141), some (.int x1), some (.int x2), some (.int x3), some (.int x4), some (.int x5), none] [] M := by
  unfold fX9_share_43 at h
  refine go_rn 3 (pc' := 47) (L' := [some (.ref 141), some (.int x1), some (.int x2), some (.int x3), some (.int x4), some (.int x5), none]) (S' := [.ref 141, .int (1 : Int32), .int x5]) (M' := M) okX9_share rfl ?_
  obtain ⟨r1, e2, h⟩ := gB0_ok h
  refine go_call1 ocX9_share rfl rfl (gOb_c rfl) rfl (SX9_people M e2) (Nat.lt_of_lt_of_le (by decide) hd) ?_
  refine go_rn 1 (pc' := 51) (L' := [some (.ref 141), some (.int x1), some (.int x2), some (.int x3), some (.int x4), some (.int x5), none]) (S' := [.int ((1 : Int32) <<< (r1 &&& 31)), .int x5]) (M' := M) okX9_share rfl ?_
  refine go_br okX9_share rfl (fun hp => ?_) (fun hp => ?_)
  · have h := gq_pos hp h
    refine go_rn 2 (pc' := 125) (L' := [some (.ref 141), some (.int x1), some (.int x2), some (.int x3), some (.int x4), some (.int x5), none]) (S' := [.ref 141, .int x4]) (M' := M) okX9_share rfl ?_
    obtain ⟨r3, e4, h⟩ := gB0_ok h
    refine go_call1 ocX9_share rfl rfl (gOb_c rfl) rfl (SX9_people M e4) (Nat.lt_of_lt_of_le (by decide) hd) ?_
    obtain ⟨r5, e6, h⟩ := gB0_ok h
    refine go_call1 ocX9_share rfl rfl rfl rfl (SX9_times r3 M e6) (Nat.lt_of_lt_of_le (by decide) hd) ?_
    refine go_rn 1 (pc' := 132) (L' := [some (.ref 141), some (.int x1), some (.int x2), some (.int x3), some (.int x4), some (.int x5), none]) (S' := [.int x3, .int r5, .int x4]) (M' := M) okX9_share rfl ?_
    obtain ⟨r7, e8, h⟩ := gB0_ok h
    refine go_call1 ocX9_share rfl rfl rfl rfl (SX9_part x4 r5 x3 M e8) (Nat.lt_of_lt_of_le (by decide) hd) ?_
    exact go_iret (reX9_share _ (by decide)) rfl (k0 r7 M h)
  · have h := gq_neg hp h
    refine go_rn 2 (pc' := 57) (L' := [some (.ref 141), some (.int x1), some (.int x2), some (.int x3), some (.int x4), some (.int x5), none]) (S' := [.int x1, .int x5]) (M' := M) okX9_share rfl ?_
    obtain ⟨r9, e10, h⟩ := gB0_ok h
    refine go_call1 ocX9_share rfl rfl rfl rfl (SX9_isBit x5 x1 M e10) (Nat.lt_of_lt_of_le (by decide) hd) ?_
    refine go_br okX9_share rfl (fun hp => ?_) (fun hp => ?_)
    · have h := gq_pos hp h
      refine go_rn 1 (pc' := 68) (L' := [some (.ref 141), some (.int x1), some (.int x2), some (.int x3), some (.int x4), some (.int x5), none]) (S' := [.int x5]) (M' := M) okX9_share rfl ?_
      obtain ⟨r11, e12, h⟩ := gB0_ok h
      refine go_call1 ocX9_share rfl rfl rfl rfl (SX9_sizeOf x5 M e12) (Nat.lt_of_lt_of_le (by decide) hd) ?_
      refine go_rn 3 (pc' := 77) (L' := [some (.ref 141), some (.int x1), some (.int x2), some (.int x3), some (.int x4), some (.int x5), some (.int r11)]) (S' := [.int r11, .int x4]) (M' := M) okX9_share rfl ?_
      obtain ⟨r13, e14, h⟩ := gB0_ok h
      refine go_call1 ocX9_share rfl rfl rfl rfl (SX9_times r11 M e14) (Nat.lt_of_lt_of_le (by decide) hd) ?_
      refine go_rn 1 (pc' := 81) (L' := [some (.ref 141), some (.int x1), some (.int x2), some (.int x3), some (.int x4), some (.int x5), some (.int r11)]) (S' := [.ref 141, .int r13, .int x4]) (M' := M) okX9_share rfl ?_
      obtain ⟨r15, e16, h⟩ := gB0_ok h
      refine go_call1 ocX9_share rfl rfl (gOb_c rfl) rfl (SX9_people M e16) (Nat.lt_of_lt_of_le (by decide) hd) ?_
      refine go_rn 4 (pc' := 89) (L' := [some (.ref 141), some (.int x1), some (.int x2), some (.int x3), some (.int x4), some (.int x5), some (.int r11)]) (S' := [.int ((r15 - r11) - (1 : Int32)), .int r13, .int x4]) (M' := M) okX9_share rfl ?_
      obtain ⟨r17, e18, h⟩ := gB0_ok h
      refine go_call1 ocX9_share rfl rfl rfl rfl (SX9_times ((r15 - r11) - (1 : Int32)) M e18) (Nat.lt_of_lt_of_le (by decide) hd) ?_
      refine go_rn 8 (pc' := 101) (L' := [some (.ref 141), some (.int x1), some (.int x2), some (.int x3), some (.int x4), some (.int x5), some (.int r11)]) (S' := [.int x2, .int (x5 ||| ((1 : Int32) <<< (x1 &&& 31))), .ref 141, .int (r13 * r17), .int x4]) (M' := M) okX9_share rfl ?_
      obtain ⟨r19, e20, h⟩ := gB0_ok h
      refine go_call1 ocX9_share rfl rfl (gOb_c rfl) rfl (SX9_valueOf (x5 ||| ((1 : Int32) <<< (x1 &&& 31))) x2 M e20) (Nat.lt_of_lt_of_le (by decide) hd) ?_
      refine go_rn 3 (pc' := 108) (L' := [some (.ref 141), some (.int x1), some (.int x2), some (.int x3), some (.int x4), some (.int x5), some (.int r11)]) (S' := [.int x2, .int x5, .ref 141, .int r19, .int (r13 * r17), .int x4]) (M' := M) okX9_share rfl ?_
      obtain ⟨r21, e22, h⟩ := gB0_ok h
      refine go_call1 ocX9_share rfl rfl (gOb_c rfl) rfl (SX9_valueOf x5 x2 M e22) (Nat.lt_of_lt_of_le (by decide) hd) ?_
      refine go_rn 6 (pc' := 43) (L' := [some (.ref 141), some (.int x1), some (.int x2), some (.int x3), some (.int (x4 + ((r13 * r17) * (r19 - r21)))), some (.int (x5 + 1)), some (.int r11)]) (S' := []) (M' := M) okX9_share rfl ?_
      exact go_wk (k1 ((x4 + ((r13 * r17) * (r19 - r21)))) ((x5 + 1)) h) ⟨rfl, rfl, rfl, rfl, rfl, rfl, True.intro⟩
    · have h := gq_neg hp h
      refine go_rn 3 (pc' := 43) (L' := [some (.ref 141), some (.int x1), some (.int x2), some (.int x3), some (.int x4), some (.int (x5 + 1)), none]) (S' := []) (M' := M) okX9_share rfl ?_
      exact go_wk (k1 (x4) ((x5 + 1)) h) ⟨rfl, rfl, rfl, rfl, rfl, rfl, True.intro⟩
def fX9_share_43h (x1 : Int32) (x2 : Int32) (x3 : Int32) (x4 : Int32) (x5 : Int32) (M : gMem) : Option (Int32 × gMem) :=
  gLp (fun s : Int32 × Int32 => fX9_share_43 x1 x2 x3 (s.1) (s.2) M) gFu (x4, x5)
set_option maxRecDepth 100000 in
theorem CX9_share_43h {G : gG} {d : Nat} {Z : Option Value → gMem → Prop} (hd : 62 ≤ d) (x1 : Int32) (x2 : Int32) (x3 : Int32) (x4 : Int32) (x5 : Int32) (M : gMem) (P : Int32 × gMem → Prop) (k0 : ∀ (r : Int32) (N : gMem), P (r, N) → Z (some (.int r)) N) (h : gOKq (fX9_share_43h x1 x2 x3 x4 x5 M) P) : gGo G YX9_share d Z 43 [some (.ref 141), some (.int x1), some (.int x2), some (.int x3), some (.int x4), some (.int x5), none] [] M :=
  gLp_go (K := fun s : Int32 × Int32 => gGo G YX9_share d Z 43 [some (.ref 141), some (.int x1), some (.int x2), some (.int x3), some (.int s.1), some (.int s.2), none] [] M) (P := P) (fun s hs => CX9_share_43 hd (x1) (x2) (x3) (s.1) (s.2) M (Sum.elim (fun s : Int32 × Int32 => gGo G YX9_share d Z 43 [some (.ref 141), some (.int x1), some (.int x2), some (.int x3), some (.int s.1), some (.int s.2), none] [] M) P) k0 (fun x4 x5 hh => hh) hs) gFu (x4, x5) h
def fX9_share_8 (x1 : Int32) (x2 : Int32) (x3 : Int32) (s0 : Int64) (M : gMem) : Option (Int32 × gMem) :=
  gB0 (fX9_isPerson s0 M) (fun r1 => if r1 = 0 then some ((-2 : Int32), M) else gB0 (fX9_isDoor (Int32.toInt64 x2) M) (fun r3 => if r3 = 0 then some ((-2 : Int32), M) else gB0 (fX9_isHalf x3 M) (fun r5 => if r5 = 0 then some ((-2 : Int32), M) else gB0 (fX9_lays M) (fun M7 => fX9_share_43h x1 x2 x3 (0 : Int32) (0 : Int32) M7))))
set_option maxRecDepth 100000 in
theorem CX9_share_8 {G : gG} {d : Nat} {Z : Option Value → gMem → Prop} (hd : 62 ≤ d) (x1 : Int32) (x2 : Int32) (x3 : Int32) (s0 : Int64) (M : gMem) (P : Int32 × gMem → Prop) (k0 : ∀ (r : Int32) (N : gMem), P (r, N) → Z (some (.int r)) N) (h : gOKq (fX9_share_8 x1 x2 x3 s0 M) P) : gGo G YX9_share d Z 8 [some (.ref 141), some (.int x1), some (.int x2), some (.int x3), none, none, none] [.long s0, .ref 141] M := by
  unfold fX9_share_8 at h
  obtain ⟨r1, e2, h⟩ := gB0_ok h
  refine go_call1 ocX9_share rfl rfl (gOb_c rfl) rfl (SX9_isPerson s0 M e2) (Nat.lt_of_lt_of_le (by decide) hd) ?_
  refine go_br okX9_share rfl (fun hp => ?_) (fun hp => ?_)
  · have h := gq_pos hp h
    refine go_rn 1 (pc' := 32) (L' := [some (.ref 141), some (.int x1), some (.int x2), some (.int x3), none, none, none]) (S' := [.int (-2 : Int32)]) (M' := M) okX9_share rfl ?_
    exact go_iret (reX9_share _ (by decide)) rfl (k0 (-2 : Int32) M h)
  · have h := gq_neg hp h
    refine go_rn 3 (pc' := 17) (L' := [some (.ref 141), some (.int x1), some (.int x2), some (.int x3), none, none, none]) (S' := [.long (Int32.toInt64 x2), .ref 141]) (M' := M) okX9_share rfl ?_
    obtain ⟨r3, e4, h⟩ := gB0_ok h
    refine go_call1 ocX9_share rfl rfl (gOb_c rfl) rfl (SX9_isDoor (Int32.toInt64 x2) M e4) (Nat.lt_of_lt_of_le (by decide) hd) ?_
    refine go_br okX9_share rfl (fun hp => ?_) (fun hp => ?_)
    · have h := gq_pos hp h
      refine go_rn 1 (pc' := 32) (L' := [some (.ref 141), some (.int x1), some (.int x2), some (.int x3), none, none, none]) (S' := [.int (-2 : Int32)]) (M' := M) okX9_share rfl ?_
      exact go_iret (reX9_share _ (by decide)) rfl (k0 (-2 : Int32) M h)
    · have h := gq_neg hp h
      refine go_rn 1 (pc' := 24) (L' := [some (.ref 141), some (.int x1), some (.int x2), some (.int x3), none, none, none]) (S' := [.int x3]) (M' := M) okX9_share rfl ?_
      obtain ⟨r5, e6, h⟩ := gB0_ok h
      refine go_call1 ocX9_share rfl rfl rfl rfl (SX9_isHalf x3 M e6) (Nat.lt_of_lt_of_le (by decide) hd) ?_
      refine go_br okX9_share rfl (fun hp => ?_) (fun hp => ?_)
      · have h := gq_pos hp h
        refine go_rn 1 (pc' := 32) (L' := [some (.ref 141), some (.int x1), some (.int x2), some (.int x3), none, none, none]) (S' := [.int (-2 : Int32)]) (M' := M) okX9_share rfl ?_
        exact go_iret (reX9_share _ (by decide)) rfl (k0 (-2 : Int32) M h)
      · have h := gq_neg hp h
        refine go_rn 1 (pc' := 34) (L' := [some (.ref 141), some (.int x1), some (.int x2), some (.int x3), none, none, none]) (S' := [.ref 141]) (M' := M) okX9_share rfl ?_
        obtain ⟨M7, e8, h⟩ := gB0_ok h
        refine go_call1 ocX9_share rfl rfl (gOb_c rfl) rfl (SX9_lays M e8) (Nat.lt_of_lt_of_le (by decide) hd) ?_
        refine go_rn 4 (pc' := 43) (L' := [some (.ref 141), some (.int x1), some (.int x2), some (.int x3), some (.int (0 : Int32)), some (.int (0 : Int32)), none]) (S' := []) (M' := M7) okX9_share rfl ?_
        exact go_wk (CX9_share_43h hd x1 x2 x3 (0 : Int32) (0 : Int32) M7 P k0 h) ⟨rfl, rfl, rfl, rfl, rfl, rfl, True.intro⟩
def fX9_share_0 (x1 : Int32) (x2 : Int32) (x3 : Int32) (M : gMem) : Option (Int32 × gMem) :=
  fX9_share_8 x1 x2 x3 (Int32.toInt64 x1) (gSI M 141 0 (0 : Int32))
set_option maxRecDepth 100000 in
theorem CX9_share_0 {G : gG} {d : Nat} {Z : Option Value → gMem → Prop} (hd : 62 ≤ d) (x1 : Int32) (x2 : Int32) (x3 : Int32) (M : gMem) (P : Int32 × gMem → Prop) (k0 : ∀ (r : Int32) (N : gMem), P (r, N) → Z (some (.int r)) N) (h : gOKq (fX9_share_0 x1 x2 x3 M) P) : gGo G YX9_share d Z 0 [some (.ref 141), some (.int x1), some (.int x2), some (.int x3), none, none, none] [] M := by
  unfold fX9_share_0 at h
  refine go_rn 2 (pc' := 2) (L' := [some (.ref 141), some (.int x1), some (.int x2), some (.int x3), none, none, none]) (S' := [.int (0 : Int32), .ref 141]) (M' := M) okX9_share rfl ?_
  refine go_ck okX9_share rfl (gOb_c rfl) ?_
  refine go_rn 3 (pc' := 8) (L' := [some (.ref 141), some (.int x1), some (.int x2), some (.int x3), none, none, none]) (S' := [.long (Int32.toInt64 x1), .ref 141]) (M' := (gSI M 141 0 (0 : Int32))) okX9_share rfl ?_
  exact go_wk (CX9_share_8 hd x1 x2 x3 (Int32.toInt64 x1) (gSI M 141 0 (0 : Int32)) P k0 h) ⟨rfl, rfl, rfl, rfl, True.intro⟩
def fX9_share (a1 : Int32) (a2 : Int32) (a3 : Int32) (M : gMem) : Option (Int32 × gMem) := fX9_share_0 a1 a2 a3 M
theorem SX9_share {G : gG} (a1 : Int32) (a2 : Int32) (a3 : Int32) (M : gMem) {r : Int32} {N : gMem} (h : fX9_share a1 a2 a3 M = some (r, N)) : gRun G YX9_share 62 [.ref 141, .int a1, .int a2, .int a3] M (fun r' N' => r' = some (.int r) ∧ N' = N) := gRun_in (by decide +kernel) rfl (fun d hd => go_wk (CX9_share_0 hd a1 a2 a3 M (fun p => p = (r, N)) (fun r N hh => by cases hh; exact ⟨rfl, rfl⟩) (gq_of h)) ⟨rfl, rfl, rfl, rfl, True.intro⟩)
def fX9_whyNotFair_0 (x1 : Int32) (x2 : Int32) (M : gMem) : Option (Int32) :=
  gB0 (fX9_isSlot x1 M) (fun r1 => if r1 = 0 then some (-2 : Int32) else gB0 (fX9_isDoor (Int32.toInt64 x2) M) (fun r3 => if r3 = 0 then some (-2 : Int32) else if gIx 1 142 x1 = true then if (M.1 142 (Int32.toNatClampNeg x1)) = (-1 : Int32) then some (-6 : Int32) else if gIx 1 143 x1 = true then gB0 (fX9_people M) (fun r7 => if (M.1 143 (Int32.toNatClampNeg x1)) = r7 then some (0 : Int32) else some (-2 : Int32)) else none else none))
set_option maxRecDepth 100000 in
theorem CX9_whyNotFair_0 {G : gG} {d : Nat} {Z : Option Value → gMem → Prop} (hd : 2 ≤ d) (x1 : Int32) (x2 : Int32) (M : gMem) (P : Int32 → Prop) (k0 : ∀ (r : Int32), P r → Z (some (.int r)) M) (h : gOKq (fX9_whyNotFair_0 x1 x2 M) P) : gGo G YX9_whyNotFair d Z 0 [some (.ref 141), some (.int x1), some (.int x2)] [] M := by
  unfold fX9_whyNotFair_0 at h
  refine go_rn 1 (pc' := 1) (L' := [some (.ref 141), some (.int x1), some (.int x2)]) (S' := [.int x1]) (M' := M) okX9_whyNotFair rfl ?_
  obtain ⟨r1, e2, h⟩ := gB0_ok h
  refine go_call1 ocX9_whyNotFair rfl rfl rfl rfl (SX9_isSlot x1 M e2) (Nat.lt_of_lt_of_le (by decide) hd) ?_
  refine go_br okX9_whyNotFair rfl (fun hp => ?_) (fun hp => ?_)
  · have h := gq_pos hp h
    refine go_rn 1 (pc' := 18) (L' := [some (.ref 141), some (.int x1), some (.int x2)]) (S' := [.int (-2 : Int32)]) (M' := M) okX9_whyNotFair rfl ?_
    exact go_iret (reX9_whyNotFair _ (by decide)) rfl (k0 (-2 : Int32) h)
  · have h := gq_neg hp h
    refine go_rn 3 (pc' := 10) (L' := [some (.ref 141), some (.int x1), some (.int x2)]) (S' := [.long (Int32.toInt64 x2), .ref 141]) (M' := M) okX9_whyNotFair rfl ?_
    obtain ⟨r3, e4, h⟩ := gB0_ok h
    refine go_call1 ocX9_whyNotFair rfl rfl (gOb_c rfl) rfl (SX9_isDoor (Int32.toInt64 x2) M e4) (Nat.lt_of_lt_of_le (by decide) hd) ?_
    refine go_br okX9_whyNotFair rfl (fun hp => ?_) (fun hp => ?_)
    · have h := gq_pos hp h
      refine go_rn 1 (pc' := 18) (L' := [some (.ref 141), some (.int x1), some (.int x2)]) (S' := [.int (-2 : Int32)]) (M' := M) okX9_whyNotFair rfl ?_
      exact go_iret (reX9_whyNotFair _ (by decide)) rfl (k0 (-2 : Int32) h)
    · have h := gq_neg hp h
      refine go_rn 1 (pc' := 20) (L' := [some (.ref 141), some (.int x1), some (.int x2)]) (S' := [.ref 141]) (M' := M) okX9_whyNotFair rfl ?_
      refine go_ck okX9_whyNotFair rfl (gOb_c rfl) ?_
      refine go_rn 1 (pc' := 24) (L' := [some (.ref 141), some (.int x1), some (.int x2)]) (S' := [.int x1, .ref 142]) (M' := M) okX9_whyNotFair rfl ?_
      obtain ⟨c5, h⟩ := gq_if h
      refine go_ck okX9_whyNotFair rfl c5 ?_
      refine go_rn 1 (pc' := 26) (L' := [some (.ref 141), some (.int x1), some (.int x2)]) (S' := [.int (-1 : Int32), .int (M.1 142 (Int32.toNatClampNeg x1))]) (M' := M) okX9_whyNotFair rfl ?_
      refine go_br okX9_whyNotFair rfl (fun hp => ?_) (fun hp => ?_)
      · have h := gq_pos hp h
        refine go_rn 1 (pc' := 31) (L' := [some (.ref 141), some (.int x1), some (.int x2)]) (S' := [.int (-6 : Int32)]) (M' := M) okX9_whyNotFair rfl ?_
        exact go_iret (reX9_whyNotFair _ (by decide)) rfl (k0 (-6 : Int32) h)
      · have h := gq_neg hp h
        refine go_rn 1 (pc' := 33) (L' := [some (.ref 141), some (.int x1), some (.int x2)]) (S' := [.ref 141]) (M' := M) okX9_whyNotFair rfl ?_
        refine go_ck okX9_whyNotFair rfl (gOb_c rfl) ?_
        refine go_rn 1 (pc' := 37) (L' := [some (.ref 141), some (.int x1), some (.int x2)]) (S' := [.int x1, .ref 143]) (M' := M) okX9_whyNotFair rfl ?_
        obtain ⟨c6, h⟩ := gq_if h
        refine go_ck okX9_whyNotFair rfl c6 ?_
        refine go_rn 1 (pc' := 39) (L' := [some (.ref 141), some (.int x1), some (.int x2)]) (S' := [.ref 141, .int (M.1 143 (Int32.toNatClampNeg x1))]) (M' := M) okX9_whyNotFair rfl ?_
        obtain ⟨r7, e8, h⟩ := gB0_ok h
        refine go_call1 ocX9_whyNotFair rfl rfl (gOb_c rfl) rfl (SX9_people M e8) (Nat.lt_of_lt_of_le (by decide) hd) ?_
        refine go_br okX9_whyNotFair rfl (fun hp => ?_) (fun hp => ?_)
        · have h := gq_pos hp h
          refine go_rn 2 (pc' := 51) (L' := [some (.ref 141), some (.int x1), some (.int x2)]) (S' := [.int (0 : Int32)]) (M' := M) okX9_whyNotFair rfl ?_
          exact go_iret (reX9_whyNotFair _ (by decide)) rfl (k0 (0 : Int32) h)
        · have h := gq_neg hp h
          refine go_rn 1 (pc' := 51) (L' := [some (.ref 141), some (.int x1), some (.int x2)]) (S' := [.int (-2 : Int32)]) (M' := M) okX9_whyNotFair rfl ?_
          exact go_iret (reX9_whyNotFair _ (by decide)) rfl (k0 (-2 : Int32) h)
def fX9_whyNotFair (a1 : Int32) (a2 : Int32) (M : gMem) : Option (Int32) := fX9_whyNotFair_0 a1 a2 M
theorem SX9_whyNotFair {G : gG} (a1 : Int32) (a2 : Int32) (M : gMem) {r : Int32} (h : fX9_whyNotFair a1 a2 M = some r) : gRun G YX9_whyNotFair 2 [.ref 141, .int a1, .int a2] M (fun r' N' => r' = some (.int r) ∧ N' = M) := gRun_in (by decide +kernel) rfl (fun d hd => go_wk (CX9_whyNotFair_0 hd a1 a2 M (fun p => p = r) (fun r hh => ⟨congrArg (fun z => some (Value.int z)) hh, rfl⟩) (gq_of h)) ⟨rfl, rfl, rfl, True.intro⟩)
def fX9_laysGiven_102 (M : gMem) : Option (gMem) :=
  some (gSJ M 141 40 ((M.2.1 141 40) &&& (4294967295 : Int64)))
set_option maxRecDepth 100000 in
theorem CX9_laysGiven_102 {G : gG} {d : Nat} {Z : Option Value → gMem → Prop} (hd : 1 ≤ d) (M : gMem) (P : gMem → Prop) (k0 : ∀ (N : gMem), P N → Z none N) (h : gOKq (fX9_laysGiven_102 M) P) : gGo G YX9_laysGiven d Z 102 [none, none, none, none] [.ref 141, .ref 141] M := by
  unfold fX9_laysGiven_102 at h
  refine go_ck okX9_laysGiven rfl (gOb_c rfl) ?_
  refine go_rn 2 (pc' := 109) (L' := [none, none, none, none]) (S' := [.long ((M.2.1 141 40) &&& (4294967295 : Int64)), .ref 141]) (M' := M) okX9_laysGiven rfl ?_
  refine go_ck okX9_laysGiven rfl (gOb_c rfl) ?_
  exact go_vret (reX9_laysGiven _ (by decide)) rfl (k0 (gSJ M 141 40 ((M.2.1 141 40) &&& (4294967295 : Int64))) h)
def fX9_laysGiven_56 (x1 : Int32) (x2 : Int32) (x3 : Int32) (M : gMem) : Option (Sum (Int32 × gMem) (gMem)) :=
  if gIx 4 144 (((60 : Int32) * x1) + x3) = true then some (.inl ((x3 + 1), (gSJ M 141 40 ((M.2.1 141 40) + ((M.2.1 144 (Int32.toNatClampNeg (((60 : Int32) * x1) + x3))) &&& (4294967295 : Int64)))))) else none
set_option maxRecDepth 100000 in
theorem CX9_laysGiven_56 {G : gG} {d : Nat} {Z : Option Value → gMem → Prop} (hd : 1 ≤ d) (x1 : Int32) (x2 : Int32) (x3 : Int32) (M : gMem) (P : Sum (Int32 × gMem) (gMem) → Prop) (k0 : ∀ (N : gMem), P (.inr N) → Z none N) (k1 : ∀ (x3 : Int32) (M : gMem), P (.inl (x3, M)) → gGo G YX9_laysGiven d Z 12 [some (.ref 141), some (.int x1), some (.int x2), some (.int x3)] [] M) (h : gOKq (fX9_laysGiven_56 x1 x2 x3 M) P) : gGo G YX9_laysGiven d Z 56 [some (.ref 141), some (.int x1), some (.int x2), some (.int x3)] [.ref 141, .ref 141] M := by
  unfold fX9_laysGiven_56 at h
  refine go_ck okX9_laysGiven rfl (gOb_c rfl) ?_
  refine go_rn 1 (pc' := 60) (L' := [some (.ref 141), some (.int x1), some (.int x2), some (.int x3)]) (S' := [.ref 141, .long (M.2.1 141 40), .ref 141]) (M' := M) okX9_laysGiven rfl ?_
  refine go_ck okX9_laysGiven rfl (gOb_c rfl) ?_
  refine go_rn 5 (pc' := 69) (L' := [some (.ref 141), some (.int x1), some (.int x2), some (.int x3)]) (S' := [.int (((60 : Int32) * x1) + x3), .ref 144, .long (M.2.1 141 40), .ref 141]) (M' := M) okX9_laysGiven rfl ?_
  obtain ⟨c1, h⟩ := gq_if h
  refine go_ck okX9_laysGiven rfl c1 ?_
  refine go_rn 3 (pc' := 75) (L' := [some (.ref 141), some (.int x1), some (.int x2), some (.int x3)]) (S' := [.long ((M.2.1 141 40) + ((M.2.1 144 (Int32.toNatClampNeg (((60 : Int32) * x1) + x3))) &&& (4294967295 : Int64))), .ref 141]) (M' := M) okX9_laysGiven rfl ?_
  refine go_ck okX9_laysGiven rfl (gOb_c rfl) ?_
  refine go_rn 2 (pc' := 12) (L' := [some (.ref 141), some (.int x1), some (.int x2), some (.int (x3 + 1))]) (S' := []) (M' := (gSJ M 141 40 ((M.2.1 141 40) + ((M.2.1 144 (Int32.toNatClampNeg (((60 : Int32) * x1) + x3))) &&& (4294967295 : Int64))))) okX9_laysGiven rfl ?_
  exact go_wk (k1 ((x3 + 1)) (gSJ M 141 40 ((M.2.1 141 40) + ((M.2.1 144 (Int32.toNatClampNeg (((60 : Int32) * x1) + x3))) &&& (4294967295 : Int64)))) h) ⟨rfl, rfl, rfl, rfl, True.intro⟩
def fX9_laysGiven_12 (x1 : Int32) (x2 : Int32) (x3 : Int32) (M : gMem) : Option (Sum (Int32 × gMem) (gMem)) :=
  gB0 (fX9_people M) (fun r1 => if r1 ≤ x3 then gEx (fX9_laysGiven_102 (gSJ M 141 39 ((M.2.1 141 39) + ((M.2.1 141 40) >>> ((32 : Int32).toInt64 &&& 63))))) else gB0 (fX9_isBit x2 x3 M) (fun r3 => if r3 = 0 then some (.inl ((x3 + 1), M)) else if gIx 4 144 (((60 : Int32) * x1) + x3) = true then fX9_laysGiven_56 x1 x2 x3 (gSJ M 141 39 ((M.2.1 141 39) + ((M.2.1 144 (Int32.toNatClampNeg (((60 : Int32) * x1) + x3))) >>> ((32 : Int32).toInt64 &&& 63)))) else none))
set_option maxRecDepth 100000 in
theorem CX9_laysGiven_12 {G : gG} {d : Nat} {Z : Option Value → gMem → Prop} (hd : 1 ≤ d) (x1 : Int32) (x2 : Int32) (x3 : Int32) (M : gMem) (P : Sum (Int32 × gMem) (gMem) → Prop) (k0 : ∀ (N : gMem), P (.inr N) → Z none N) (k1 : ∀ (x3 : Int32) (M : gMem), P (.inl (x3, M)) → gGo G YX9_laysGiven d Z 12 [some (.ref 141), some (.int x1), some (.int x2), some (.int x3)] [] M) (h : gOKq (fX9_laysGiven_12 x1 x2 x3 M) P) : gGo G YX9_laysGiven d Z 12 [some (.ref 141), some (.int x1), some (.int x2), some (.int x3)] [] M := by
  unfold fX9_laysGiven_12 at h
  refine go_rn 2 (pc' := 14) (L' := [some (.ref 141), some (.int x1), some (.int x2), some (.int x3)]) (S' := [.ref 141, .int x3]) (M' := M) okX9_laysGiven rfl ?_
  obtain ⟨r1, e2, h⟩ := gB0_ok h
  refine go_call1 ocX9_laysGiven rfl rfl (gOb_c rfl) rfl (SX9_people M e2) (Nat.lt_of_lt_of_le (by decide) hd) ?_
  refine go_br okX9_laysGiven rfl (fun hp => ?_) (fun hp => ?_)
  · have h := gq_pos hp h
    refine go_rn 2 (pc' := 86) (L' := [some (.ref 141), some (.int x1), some (.int x2), some (.int x3)]) (S' := [.ref 141, .ref 141]) (M' := M) okX9_laysGiven rfl ?_
    refine go_ck okX9_laysGiven rfl (gOb_c rfl) ?_
    refine go_rn 1 (pc' := 90) (L' := [some (.ref 141), some (.int x1), some (.int x2), some (.int x3)]) (S' := [.ref 141, .long (M.2.1 141 39), .ref 141]) (M' := M) okX9_laysGiven rfl ?_
    refine go_ck okX9_laysGiven rfl (gOb_c rfl) ?_
    refine go_rn 3 (pc' := 97) (L' := [some (.ref 141), some (.int x1), some (.int x2), some (.int x3)]) (S' := [.long ((M.2.1 141 39) + ((M.2.1 141 40) >>> ((32 : Int32).toInt64 &&& 63))), .ref 141]) (M' := M) okX9_laysGiven rfl ?_
    refine go_ck okX9_laysGiven rfl (gOb_c rfl) ?_
    refine go_rn 2 (pc' := 102) (L' := [some (.ref 141), some (.int x1), some (.int x2), some (.int x3)]) (S' := [.ref 141, .ref 141]) (M' := (gSJ M 141 39 ((M.2.1 141 39) + ((M.2.1 141 40) >>> ((32 : Int32).toInt64 &&& 63))))) okX9_laysGiven rfl ?_
    exact go_wk (CX9_laysGiven_102 hd (gSJ M 141 39 ((M.2.1 141 39) + ((M.2.1 141 40) >>> ((32 : Int32).toInt64 &&& 63)))) (fun q => P (.inr q)) k0 (gEx_ok h)) True.intro
  · have h := gq_neg hp h
    refine go_rn 2 (pc' := 22) (L' := [some (.ref 141), some (.int x1), some (.int x2), some (.int x3)]) (S' := [.int x3, .int x2]) (M' := M) okX9_laysGiven rfl ?_
    obtain ⟨r3, e4, h⟩ := gB0_ok h
    refine go_call1 ocX9_laysGiven rfl rfl rfl rfl (SX9_isBit x2 x3 M e4) (Nat.lt_of_lt_of_le (by decide) hd) ?_
    refine go_br okX9_laysGiven rfl (fun hp => ?_) (fun hp => ?_)
    · have h := gq_pos hp h
      refine go_rn 3 (pc' := 12) (L' := [some (.ref 141), some (.int x1), some (.int x2), some (.int (x3 + 1))]) (S' := []) (M' := M) okX9_laysGiven rfl ?_
      exact go_wk (k1 ((x3 + 1)) M h) ⟨rfl, rfl, rfl, rfl, True.intro⟩
    · have h := gq_neg hp h
      refine go_rn 2 (pc' := 33) (L' := [some (.ref 141), some (.int x1), some (.int x2), some (.int x3)]) (S' := [.ref 141, .ref 141]) (M' := M) okX9_laysGiven rfl ?_
      refine go_ck okX9_laysGiven rfl (gOb_c rfl) ?_
      refine go_rn 1 (pc' := 37) (L' := [some (.ref 141), some (.int x1), some (.int x2), some (.int x3)]) (S' := [.ref 141, .long (M.2.1 141 39), .ref 141]) (M' := M) okX9_laysGiven rfl ?_
      refine go_ck okX9_laysGiven rfl (gOb_c rfl) ?_
      refine go_rn 5 (pc' := 46) (L' := [some (.ref 141), some (.int x1), some (.int x2), some (.int x3)]) (S' := [.int (((60 : Int32) * x1) + x3), .ref 144, .long (M.2.1 141 39), .ref 141]) (M' := M) okX9_laysGiven rfl ?_
      obtain ⟨c5, h⟩ := gq_if h
      refine go_ck okX9_laysGiven rfl c5 ?_
      refine go_rn 3 (pc' := 51) (L' := [some (.ref 141), some (.int x1), some (.int x2), some (.int x3)]) (S' := [.long ((M.2.1 141 39) + ((M.2.1 144 (Int32.toNatClampNeg (((60 : Int32) * x1) + x3))) >>> ((32 : Int32).toInt64 &&& 63))), .ref 141]) (M' := M) okX9_laysGiven rfl ?_
      refine go_ck okX9_laysGiven rfl (gOb_c rfl) ?_
      refine go_rn 2 (pc' := 56) (L' := [some (.ref 141), some (.int x1), some (.int x2), some (.int x3)]) (S' := [.ref 141, .ref 141]) (M' := (gSJ M 141 39 ((M.2.1 141 39) + ((M.2.1 144 (Int32.toNatClampNeg (((60 : Int32) * x1) + x3))) >>> ((32 : Int32).toInt64 &&& 63))))) okX9_laysGiven rfl ?_
      exact go_wk (CX9_laysGiven_56 hd x1 x2 x3 (gSJ M 141 39 ((M.2.1 141 39) + ((M.2.1 144 (Int32.toNatClampNeg (((60 : Int32) * x1) + x3))) >>> ((32 : Int32).toInt64 &&& 63)))) P k0 k1 h) ⟨rfl, rfl, rfl, rfl, True.intro⟩
def fX9_laysGiven_12h (x1 : Int32) (x2 : Int32) (x3 : Int32) (M : gMem) : Option (gMem) :=
  gLp (fun s : Int32 × gMem => fX9_laysGiven_12 x1 x2 (s.1) s.2) gFu (x3, M)
set_option maxRecDepth 100000 in
theorem CX9_laysGiven_12h {G : gG} {d : Nat} {Z : Option Value → gMem → Prop} (hd : 1 ≤ d) (x1 : Int32) (x2 : Int32) (x3 : Int32) (M : gMem) (P : gMem → Prop) (k0 : ∀ (N : gMem), P N → Z none N) (h : gOKq (fX9_laysGiven_12h x1 x2 x3 M) P) : gGo G YX9_laysGiven d Z 12 [some (.ref 141), some (.int x1), some (.int x2), some (.int x3)] [] M :=
  gLp_go (K := fun s : Int32 × gMem => gGo G YX9_laysGiven d Z 12 [some (.ref 141), some (.int x1), some (.int x2), some (.int s.1)] [] s.2) (P := P) (fun s hs => CX9_laysGiven_12 hd (x1) (x2) (s.1) (s.2) (Sum.elim (fun s : Int32 × gMem => gGo G YX9_laysGiven d Z 12 [some (.ref 141), some (.int x1), some (.int x2), some (.int s.1)] [] s.2) P) k0 (fun x3 M hh => hh) hs) gFu (x3, M) h
def fX9_laysGiven_7 (x1 : Int32) (x2 : Int32) (s0 : Int64) (M : gMem) : Option (gMem) :=
  fX9_laysGiven_12h x1 x2 (0 : Int32) (gSJ M 141 40 s0)
set_option maxRecDepth 100000 in
theorem CX9_laysGiven_7 {G : gG} {d : Nat} {Z : Option Value → gMem → Prop} (hd : 1 ≤ d) (x1 : Int32) (x2 : Int32) (s0 : Int64) (M : gMem) (P : gMem → Prop) (k0 : ∀ (N : gMem), P N → Z none N) (h : gOKq (fX9_laysGiven_7 x1 x2 s0 M) P) : gGo G YX9_laysGiven d Z 7 [some (.ref 141), some (.int x1), some (.int x2), none] [.long s0, .ref 141] M := by
  unfold fX9_laysGiven_7 at h
  refine go_ck okX9_laysGiven rfl (gOb_c rfl) ?_
  refine go_rn 2 (pc' := 12) (L' := [some (.ref 141), some (.int x1), some (.int x2), some (.int (0 : Int32))]) (S' := []) (M' := (gSJ M 141 40 s0)) okX9_laysGiven rfl ?_
  exact go_wk (CX9_laysGiven_12h hd x1 x2 (0 : Int32) (gSJ M 141 40 s0) P k0 h) ⟨rfl, rfl, rfl, rfl, True.intro⟩
def fX9_laysGiven_0 (x1 : Int32) (x2 : Int32) (M : gMem) : Option (gMem) :=
  fX9_laysGiven_7 x1 x2 (0 : Int64) (gSJ M 141 39 (0 : Int64))
set_option maxRecDepth 100000 in
theorem CX9_laysGiven_0 {G : gG} {d : Nat} {Z : Option Value → gMem → Prop} (hd : 1 ≤ d) (x1 : Int32) (x2 : Int32) (M : gMem) (P : gMem → Prop) (k0 : ∀ (N : gMem), P N → Z none N) (h : gOKq (fX9_laysGiven_0 x1 x2 M) P) : gGo G YX9_laysGiven d Z 0 [some (.ref 141), some (.int x1), some (.int x2), none] [] M := by
  unfold fX9_laysGiven_0 at h
  refine go_rn 2 (pc' := 2) (L' := [some (.ref 141), some (.int x1), some (.int x2), none]) (S' := [.long (0 : Int64), .ref 141]) (M' := M) okX9_laysGiven rfl ?_
  refine go_ck okX9_laysGiven rfl (gOb_c rfl) ?_
  refine go_rn 2 (pc' := 7) (L' := [some (.ref 141), some (.int x1), some (.int x2), none]) (S' := [.long (0 : Int64), .ref 141]) (M' := (gSJ M 141 39 (0 : Int64))) okX9_laysGiven rfl ?_
  exact go_wk (CX9_laysGiven_7 hd x1 x2 (0 : Int64) (gSJ M 141 39 (0 : Int64)) P k0 h) ⟨rfl, rfl, rfl, True.intro⟩
def fX9_laysGiven (a1 : Int32) (a2 : Int32) (M : gMem) : Option (gMem) := fX9_laysGiven_0 a1 a2 M
theorem SX9_laysGiven {G : gG} (a1 : Int32) (a2 : Int32) (M : gMem) {N : gMem} (h : fX9_laysGiven a1 a2 M = some N) : gRun G YX9_laysGiven 1 [.ref 141, .int a1, .int a2] M (fun r' N' => r' = none ∧ N' = N) := gRun_in (by decide +kernel) rfl (fun d hd => go_wk (CX9_laysGiven_0 hd a1 a2 M (fun p => p = N) (fun N hh => ⟨rfl, hh⟩) (gq_of h)) ⟨rfl, rfl, rfl, True.intro⟩)
def fX9_isGivenLess_0 (x1 : Int32) (x2 : Int32) (x3 : Int64) (M : gMem) : Option (Int32 × gMem) :=
  gB0 (fX9_laysGiven x1 x2 M) (fun M1 => if (lg_cmp (M1.2.1 141 39) (x3 >>> ((32 : Int32).toInt64 &&& 63))) < 0 then some ((1 : Int32), M1) else if (lg_cmp (M1.2.1 141 39) (x3 >>> ((32 : Int32).toInt64 &&& 63))) = 0 then if 0 ≤ (lg_cmp (M1.2.1 141 40) (x3 &&& (4294967295 : Int64))) then some ((0 : Int32), M1) else some ((1 : Int32), M1) else some ((0 : Int32), M1))
set_option maxRecDepth 100000 in
theorem CX9_isGivenLess_0 {G : gG} {d : Nat} {Z : Option Value → gMem → Prop} (hd : 2 ≤ d) (x1 : Int32) (x2 : Int32) (x3 : Int64) (M : gMem) (P : Int32 × gMem → Prop) (k0 : ∀ (r : Int32) (N : gMem), P (r, N) → Z (some (.int r)) N) (h : gOKq (fX9_isGivenLess_0 x1 x2 x3 M) P) : gGo G YX9_isGivenLess d Z 0 [some (.ref 141), some (.int x1), some (.int x2), some (.long x3), none] [] M := by
  unfold fX9_isGivenLess_0 at h
  refine go_rn 3 (pc' := 3) (L' := [some (.ref 141), some (.int x1), some (.int x2), some (.long x3), none]) (S' := [.int x2, .int x1, .ref 141]) (M' := M) okX9_isGivenLess rfl ?_
  obtain ⟨M1, e2, h⟩ := gB0_ok h
  refine go_call1 ocX9_isGivenLess rfl rfl (gOb_c rfl) rfl (SX9_laysGiven x1 x2 M e2) (Nat.lt_of_lt_of_le (by decide) hd) ?_
  refine go_rn 1 (pc' := 7) (L' := [some (.ref 141), some (.int x1), some (.int x2), some (.long x3), none]) (S' := [.ref 141]) (M' := M1) okX9_isGivenLess rfl ?_
  refine go_ck okX9_isGivenLess rfl (gOb_c rfl) ?_
  refine go_rn 4 (pc' := 15) (L' := [some (.ref 141), some (.int x1), some (.int x2), some (.long x3), none]) (S' := [.int (lg_cmp (M1.2.1 141 39) (x3 >>> ((32 : Int32).toInt64 &&& 63)))]) (M' := M1) okX9_isGivenLess rfl ?_
  refine go_br okX9_isGivenLess rfl (fun hp => ?_) (fun hp => ?_)
  · have h := gq_pos hp h
    refine go_rn 2 (pc' := 48) (L' := [some (.ref 141), some (.int x1), some (.int x2), some (.long x3), none]) (S' := [.int (1 : Int32)]) (M' := M1) okX9_isGivenLess rfl ?_
    exact go_zret (reX9_isGivenLess _ (by decide)) rfl (Or.inr rfl) (k0 (1 : Int32) M1 h)
  · have h := gq_neg hp h
    refine go_rn 1 (pc' := 19) (L' := [some (.ref 141), some (.int x1), some (.int x2), some (.long x3), none]) (S' := [.ref 141]) (M' := M1) okX9_isGivenLess rfl ?_
    refine go_ck okX9_isGivenLess rfl (gOb_c rfl) ?_
    refine go_rn 4 (pc' := 27) (L' := [some (.ref 141), some (.int x1), some (.int x2), some (.long x3), none]) (S' := [.int (lg_cmp (M1.2.1 141 39) (x3 >>> ((32 : Int32).toInt64 &&& 63)))]) (M' := M1) okX9_isGivenLess rfl ?_
    refine go_br okX9_isGivenLess rfl (fun hp => ?_) (fun hp => ?_)
    · have h := gq_pos hp h
      refine go_rn 1 (pc' := 31) (L' := [some (.ref 141), some (.int x1), some (.int x2), some (.long x3), none]) (S' := [.ref 141]) (M' := M1) okX9_isGivenLess rfl ?_
      refine go_ck okX9_isGivenLess rfl (gOb_c rfl) ?_
      refine go_rn 4 (pc' := 40) (L' := [some (.ref 141), some (.int x1), some (.int x2), some (.long x3), none]) (S' := [.int (lg_cmp (M1.2.1 141 40) (x3 &&& (4294967295 : Int64)))]) (M' := M1) okX9_isGivenLess rfl ?_
      refine go_br okX9_isGivenLess rfl (fun hp => ?_) (fun hp => ?_)
      · have h := gq_pos hp h
        refine go_rn 1 (pc' := 48) (L' := [some (.ref 141), some (.int x1), some (.int x2), some (.long x3), none]) (S' := [.int (0 : Int32)]) (M' := M1) okX9_isGivenLess rfl ?_
        exact go_zret (reX9_isGivenLess _ (by decide)) rfl (Or.inl rfl) (k0 (0 : Int32) M1 h)
      · have h := gq_neg hp h
        refine go_rn 2 (pc' := 48) (L' := [some (.ref 141), some (.int x1), some (.int x2), some (.long x3), none]) (S' := [.int (1 : Int32)]) (M' := M1) okX9_isGivenLess rfl ?_
        exact go_zret (reX9_isGivenLess _ (by decide)) rfl (Or.inr rfl) (k0 (1 : Int32) M1 h)
    · have h := gq_neg hp h
      refine go_rn 1 (pc' := 48) (L' := [some (.ref 141), some (.int x1), some (.int x2), some (.long x3), none]) (S' := [.int (0 : Int32)]) (M' := M1) okX9_isGivenLess rfl ?_
      exact go_zret (reX9_isGivenLess _ (by decide)) rfl (Or.inl rfl) (k0 (0 : Int32) M1 h)
def fX9_isGivenLess (a1 : Int32) (a2 : Int32) (a3 : Int64) (M : gMem) : Option (Int32 × gMem) := fX9_isGivenLess_0 a1 a2 a3 M
theorem SX9_isGivenLess {G : gG} (a1 : Int32) (a2 : Int32) (a3 : Int64) (M : gMem) {r : Int32} {N : gMem} (h : fX9_isGivenLess a1 a2 a3 M = some (r, N)) : gRun G YX9_isGivenLess 2 [.ref 141, .int a1, .int a2, .long a3] M (fun r' N' => r' = some (.int r) ∧ N' = N) := gRun_in (by decide +kernel) rfl (fun d hd => go_wk (CX9_isGivenLess_0 hd a1 a2 a3 M (fun p => p = (r, N)) (fun r N hh => by cases hh; exact ⟨rfl, rfl⟩) (gq_of h)) ⟨rfl, rfl, rfl, rfl, True.intro⟩)
def fX9_isGivenJust_0 (x1 : Int32) (x2 : Int32) (x3 : Int64) (M : gMem) : Option (Int32 × gMem) :=
  gB0 (fX9_laysGiven x1 x2 M) (fun M1 => if (lg_cmp (M1.2.1 141 39) (x3 >>> ((32 : Int32).toInt64 &&& 63))) = 0 then if (lg_cmp (M1.2.1 141 40) (x3 &&& (4294967295 : Int64))) = 0 then some ((1 : Int32), M1) else some ((0 : Int32), M1) else some ((0 : Int32), M1))
set_option maxRecDepth 100000 in
theorem CX9_isGivenJust_0 {G : gG} {d : Nat} {Z : Option Value → gMem → Prop} (hd : 2 ≤ d) (x1 : Int32) (x2 : Int32) (x3 : Int64) (M : gMem) (P : Int32 × gMem → Prop) (k0 : ∀ (r : Int32) (N : gMem), P (r, N) → Z (some (.int r)) N) (h : gOKq (fX9_isGivenJust_0 x1 x2 x3 M) P) : gGo G YX9_isGivenJust d Z 0 [some (.ref 141), some (.int x1), some (.int x2), some (.long x3), none] [] M := by
  unfold fX9_isGivenJust_0 at h
  refine go_rn 3 (pc' := 3) (L' := [some (.ref 141), some (.int x1), some (.int x2), some (.long x3), none]) (S' := [.int x2, .int x1, .ref 141]) (M' := M) okX9_isGivenJust rfl ?_
  obtain ⟨M1, e2, h⟩ := gB0_ok h
  refine go_call1 ocX9_isGivenJust rfl rfl (gOb_c rfl) rfl (SX9_laysGiven x1 x2 M e2) (Nat.lt_of_lt_of_le (by decide) hd) ?_
  refine go_rn 1 (pc' := 7) (L' := [some (.ref 141), some (.int x1), some (.int x2), some (.long x3), none]) (S' := [.ref 141]) (M' := M1) okX9_isGivenJust rfl ?_
  refine go_ck okX9_isGivenJust rfl (gOb_c rfl) ?_
  refine go_rn 4 (pc' := 15) (L' := [some (.ref 141), some (.int x1), some (.int x2), some (.long x3), none]) (S' := [.int (lg_cmp (M1.2.1 141 39) (x3 >>> ((32 : Int32).toInt64 &&& 63)))]) (M' := M1) okX9_isGivenJust rfl ?_
  refine go_br okX9_isGivenJust rfl (fun hp => ?_) (fun hp => ?_)
  · have h := gq_pos hp h
    refine go_rn 1 (pc' := 19) (L' := [some (.ref 141), some (.int x1), some (.int x2), some (.long x3), none]) (S' := [.ref 141]) (M' := M1) okX9_isGivenJust rfl ?_
    refine go_ck okX9_isGivenJust rfl (gOb_c rfl) ?_
    refine go_rn 4 (pc' := 28) (L' := [some (.ref 141), some (.int x1), some (.int x2), some (.long x3), none]) (S' := [.int (lg_cmp (M1.2.1 141 40) (x3 &&& (4294967295 : Int64)))]) (M' := M1) okX9_isGivenJust rfl ?_
    refine go_br okX9_isGivenJust rfl (fun hp => ?_) (fun hp => ?_)
    · have h := gq_pos hp h
      refine go_rn 2 (pc' := 36) (L' := [some (.ref 141), some (.int x1), some (.int x2), some (.long x3), none]) (S' := [.int (1 : Int32)]) (M' := M1) okX9_isGivenJust rfl ?_
      exact go_zret (reX9_isGivenJust _ (by decide)) rfl (Or.inr rfl) (k0 (1 : Int32) M1 h)
    · have h := gq_neg hp h
      refine go_rn 1 (pc' := 36) (L' := [some (.ref 141), some (.int x1), some (.int x2), some (.long x3), none]) (S' := [.int (0 : Int32)]) (M' := M1) okX9_isGivenJust rfl ?_
      exact go_zret (reX9_isGivenJust _ (by decide)) rfl (Or.inl rfl) (k0 (0 : Int32) M1 h)
  · have h := gq_neg hp h
    refine go_rn 1 (pc' := 36) (L' := [some (.ref 141), some (.int x1), some (.int x2), some (.long x3), none]) (S' := [.int (0 : Int32)]) (M' := M1) okX9_isGivenJust rfl ?_
    exact go_zret (reX9_isGivenJust _ (by decide)) rfl (Or.inl rfl) (k0 (0 : Int32) M1 h)
def fX9_isGivenJust (a1 : Int32) (a2 : Int32) (a3 : Int64) (M : gMem) : Option (Int32 × gMem) := fX9_isGivenJust_0 a1 a2 a3 M
theorem SX9_isGivenJust {G : gG} (a1 : Int32) (a2 : Int32) (a3 : Int64) (M : gMem) {r : Int32} {N : gMem} (h : fX9_isGivenJust a1 a2 a3 M = some (r, N)) : gRun G YX9_isGivenJust 2 [.ref 141, .int a1, .int a2, .long a3] M (fun r' N' => r' = some (.int r) ∧ N' = N) := gRun_in (by decide +kernel) rfl (fun d hd => go_wk (CX9_isGivenJust_0 hd a1 a2 a3 M (fun p => p = (r, N)) (fun r N hh => by cases hh; exact ⟨rfl, rfl⟩) (gq_of h)) ⟨rfl, rfl, rfl, rfl, True.intro⟩)
def fX9_leaveOf_6 (x1 : Int32) (x2 : Int32) (x3 : Int32) (M : gMem) : Option (Sum (Int32 × gMem) (Int32 × gMem)) :=
  gB0 (fX9_people M) (fun r1 => if ((1 : Int32) <<< (r1 &&& 31)) ≤ x3 then some (.inr ((-1 : Int32), M)) else gB0 (fX9_valueOf x3 x2 M) (fun r3 => gBp (fX9_isGivenLess x1 x3 (Int32.toInt64 r3) M) (fun r5 M6 => if r5 = 0 then some (.inl ((x3 + 1), M6)) else some (.inr (x3, M6)))))
set_option maxRecDepth 100000 in
theorem CX9_leaveOf_6 {G : gG} {d : Nat} {Z : Option Value → gMem → Prop} (hd : 4 ≤ d) (x1 : Int32) (x2 : Int32) (x3 : Int32) (M : gMem) (P : Sum (Int32 × gMem) (Int32 × gMem) → Prop) (k0 : ∀ (r : Int32) (N : gMem), P (.inr (r, N)) → Z (some (.int r)) N) (k1 : ∀ (x3 : Int32) (M : gMem), P (.inl (x3, M)) → gGo G YX9_leaveOf d Z 6 [some (.ref 141), some (.int x1), some (.int x2), some (.int x3)] [] M) (h : gOKq (fX9_leaveOf_6 x1 x2 x3 M) P) : gGo G YX9_leaveOf d Z 6 [some (.ref 141), some (.int x1), some (.int x2), some (.int x3)] [] M := by
  unfold fX9_leaveOf_6 at h
  refine go_rn 3 (pc' := 9) (L' := [some (.ref 141), some (.int x1), some (.int x2), some (.int x3)]) (S' := [.ref 141, .int (1 : Int32), .int x3]) (M' := M) okX9_leaveOf rfl ?_
  obtain ⟨r1, e2, h⟩ := gB0_ok h
  refine go_call1 ocX9_leaveOf rfl rfl (gOb_c rfl) rfl (SX9_people M e2) (Nat.lt_of_lt_of_le (by decide) hd) ?_
  refine go_rn 1 (pc' := 13) (L' := [some (.ref 141), some (.int x1), some (.int x2), some (.int x3)]) (S' := [.int ((1 : Int32) <<< (r1 &&& 31)), .int x3]) (M' := M) okX9_leaveOf rfl ?_
  refine go_br okX9_leaveOf rfl (fun hp => ?_) (fun hp => ?_)
  · have h := gq_pos hp h
    refine go_rn 1 (pc' := 41) (L' := [some (.ref 141), some (.int x1), some (.int x2), some (.int x3)]) (S' := [.int (-1 : Int32)]) (M' := M) okX9_leaveOf rfl ?_
    exact go_iret (reX9_leaveOf _ (by decide)) rfl (k0 (-1 : Int32) M h)
  · have h := gq_neg hp h
    refine go_rn 6 (pc' := 22) (L' := [some (.ref 141), some (.int x1), some (.int x2), some (.int x3)]) (S' := [.int x2, .int x3, .ref 141, .int x3, .int x1, .ref 141]) (M' := M) okX9_leaveOf rfl ?_
    obtain ⟨r3, e4, h⟩ := gB0_ok h
    refine go_call1 ocX9_leaveOf rfl rfl (gOb_c rfl) rfl (SX9_valueOf x3 x2 M e4) (Nat.lt_of_lt_of_le (by decide) hd) ?_
    refine go_rn 1 (pc' := 26) (L' := [some (.ref 141), some (.int x1), some (.int x2), some (.int x3)]) (S' := [.long (Int32.toInt64 r3), .int x3, .int x1, .ref 141]) (M' := M) okX9_leaveOf rfl ?_
    obtain ⟨r5, M6, e7, h⟩ := gBp_ok h
    refine go_call1 ocX9_leaveOf rfl rfl (gOb_c rfl) rfl (SX9_isGivenLess x1 x3 (Int32.toInt64 r3) M e7) (Nat.lt_of_lt_of_le (by decide) hd) ?_
    refine go_br okX9_leaveOf rfl (fun hp => ?_) (fun hp => ?_)
    · have h := gq_pos hp h
      refine go_rn 2 (pc' := 6) (L' := [some (.ref 141), some (.int x1), some (.int x2), some (.int (x3 + 1))]) (S' := []) (M' := M6) okX9_leaveOf rfl ?_
      exact go_wk (k1 ((x3 + 1)) M6 h) ⟨rfl, rfl, rfl, rfl, True.intro⟩
    · have h := gq_neg hp h
      refine go_rn 1 (pc' := 33) (L' := [some (.ref 141), some (.int x1), some (.int x2), some (.int x3)]) (S' := [.int x3]) (M' := M6) okX9_leaveOf rfl ?_
      exact go_iret (reX9_leaveOf _ (by decide)) rfl (k0 x3 M6 h)
def fX9_leaveOf_6h (x1 : Int32) (x2 : Int32) (x3 : Int32) (M : gMem) : Option (Int32 × gMem) :=
  gLp (fun s : Int32 × gMem => fX9_leaveOf_6 x1 x2 (s.1) s.2) gFu (x3, M)
set_option maxRecDepth 100000 in
theorem CX9_leaveOf_6h {G : gG} {d : Nat} {Z : Option Value → gMem → Prop} (hd : 4 ≤ d) (x1 : Int32) (x2 : Int32) (x3 : Int32) (M : gMem) (P : Int32 × gMem → Prop) (k0 : ∀ (r : Int32) (N : gMem), P (r, N) → Z (some (.int r)) N) (h : gOKq (fX9_leaveOf_6h x1 x2 x3 M) P) : gGo G YX9_leaveOf d Z 6 [some (.ref 141), some (.int x1), some (.int x2), some (.int x3)] [] M :=
  gLp_go (K := fun s : Int32 × gMem => gGo G YX9_leaveOf d Z 6 [some (.ref 141), some (.int x1), some (.int x2), some (.int s.1)] [] s.2) (P := P) (fun s hs => CX9_leaveOf_6 hd (x1) (x2) (s.1) (s.2) (Sum.elim (fun s : Int32 × gMem => gGo G YX9_leaveOf d Z 6 [some (.ref 141), some (.int x1), some (.int x2), some (.int s.1)] [] s.2) P) k0 (fun x3 M hh => hh) hs) gFu (x3, M) h
def fX9_leaveOf_0 (x1 : Int32) (x2 : Int32) (M : gMem) : Option (Int32 × gMem) :=
  gB0 (fX9_lays M) (fun M1 => fX9_leaveOf_6h x1 x2 (0 : Int32) M1)
set_option maxRecDepth 100000 in
theorem CX9_leaveOf_0 {G : gG} {d : Nat} {Z : Option Value → gMem → Prop} (hd : 4 ≤ d) (x1 : Int32) (x2 : Int32) (M : gMem) (P : Int32 × gMem → Prop) (k0 : ∀ (r : Int32) (N : gMem), P (r, N) → Z (some (.int r)) N) (h : gOKq (fX9_leaveOf_0 x1 x2 M) P) : gGo G YX9_leaveOf d Z 0 [some (.ref 141), some (.int x1), some (.int x2), none] [] M := by
  unfold fX9_leaveOf_0 at h
  refine go_rn 1 (pc' := 1) (L' := [some (.ref 141), some (.int x1), some (.int x2), none]) (S' := [.ref 141]) (M' := M) okX9_leaveOf rfl ?_
  obtain ⟨M1, e2, h⟩ := gB0_ok h
  refine go_call1 ocX9_leaveOf rfl rfl (gOb_c rfl) rfl (SX9_lays M e2) (Nat.lt_of_lt_of_le (by decide) hd) ?_
  refine go_rn 2 (pc' := 6) (L' := [some (.ref 141), some (.int x1), some (.int x2), some (.int (0 : Int32))]) (S' := []) (M' := M1) okX9_leaveOf rfl ?_
  exact go_wk (CX9_leaveOf_6h hd x1 x2 (0 : Int32) M1 P k0 h) ⟨rfl, rfl, rfl, rfl, True.intro⟩
def fX9_leaveOf (a1 : Int32) (a2 : Int32) (M : gMem) : Option (Int32 × gMem) := fX9_leaveOf_0 a1 a2 M
theorem SX9_leaveOf {G : gG} (a1 : Int32) (a2 : Int32) (M : gMem) {r : Int32} {N : gMem} (h : fX9_leaveOf a1 a2 M = some (r, N)) : gRun G YX9_leaveOf 4 [.ref 141, .int a1, .int a2] M (fun r' N' => r' = some (.int r) ∧ N' = N) := gRun_in (by decide +kernel) rfl (fun d hd => go_wk (CX9_leaveOf_0 hd a1 a2 M (fun p => p = (r, N)) (fun r N hh => by cases hh; exact ⟨rfl, rfl⟩) (gq_of h)) ⟨rfl, rfl, rfl, True.intro⟩)
def fX9_fair_8 (x1 : Int32) (x2 : Int32) (s0 : Int32) (s1 : Int32) (M : gMem) : Option (Int32 × gMem) :=
  gB0 (fX9_whyNotFair s1 s0 M) (fun r1 => if r1 = 0 then gB0 (fX9_people M) (fun r3 => gBp (fX9_leaveOf x1 x2 M) (fun r5 M6 => if r5 = (-1 : Int32) then gB0 (fX9_valueOf (((1 : Int32) <<< (r3 &&& 31)) - (1 : Int32)) x2 M6) (fun r8 => gBp (fX9_isGivenJust x1 (((1 : Int32) <<< (r3 &&& 31)) - (1 : Int32)) (Int32.toInt64 r8) M6) (fun r10 M11 => if r10 = 0 then some ((0 : Int32), M11) else some ((1 : Int32), M11))) else some ((0 : Int32), M6))) else some (r1, M))
set_option maxRecDepth 100000 in
theorem CX9_fair_8 {G : gG} {d : Nat} {Z : Option Value → gMem → Prop} (hd : 5 ≤ d) (x1 : Int32) (x2 : Int32) (s0 : Int32) (s1 : Int32) (M : gMem) (P : Int32 × gMem → Prop) (k0 : ∀ (r : Int32) (N : gMem), P (r, N) → Z (some (.int r)) N) (h : gOKq (fX9_fair_8 x1 x2 s0 s1 M) P) : gGo G YX9_fair d Z 8 [some (.ref 141), some (.int x1), some (.int x2), none, none] [.int s0, .int s1, .ref 141] M := by
  unfold fX9_fair_8 at h
  obtain ⟨r1, e2, h⟩ := gB0_ok h
  refine go_call1 ocX9_fair rfl rfl (gOb_c rfl) rfl (SX9_whyNotFair s1 s0 M e2) (Nat.lt_of_lt_of_le (by decide) hd) ?_
  refine go_rn 2 (pc' := 13) (L' := [some (.ref 141), some (.int x1), some (.int x2), some (.int r1), none]) (S' := [.int r1]) (M' := M) okX9_fair rfl ?_
  refine go_br okX9_fair rfl (fun hp => ?_) (fun hp => ?_)
  · have h := gq_pos hp h
    refine go_rn 2 (pc' := 20) (L' := [some (.ref 141), some (.int x1), some (.int x2), some (.int r1), none]) (S' := [.ref 141, .int (1 : Int32)]) (M' := M) okX9_fair rfl ?_
    obtain ⟨r3, e4, h⟩ := gB0_ok h
    refine go_call1 ocX9_fair rfl rfl (gOb_c rfl) rfl (SX9_people M e4) (Nat.lt_of_lt_of_le (by decide) hd) ?_
    refine go_rn 7 (pc' := 31) (L' := [some (.ref 141), some (.int x1), some (.int x2), some (.int r1), some (.int (((1 : Int32) <<< (r3 &&& 31)) - (1 : Int32)))]) (S' := [.int x2, .int x1, .ref 141]) (M' := M) okX9_fair rfl ?_
    obtain ⟨r5, M6, e7, h⟩ := gBp_ok h
    refine go_call1 ocX9_fair rfl rfl (gOb_c rfl) rfl (SX9_leaveOf x1 x2 M e7) (Nat.lt_of_lt_of_le (by decide) hd) ?_
    refine go_rn 1 (pc' := 35) (L' := [some (.ref 141), some (.int x1), some (.int x2), some (.int r1), some (.int (((1 : Int32) <<< (r3 &&& 31)) - (1 : Int32)))]) (S' := [.int (-1 : Int32), .int r5]) (M' := M6) okX9_fair rfl ?_
    refine go_br okX9_fair rfl (fun hp => ?_) (fun hp => ?_)
    · have h := gq_pos hp h
      refine go_rn 6 (pc' := 46) (L' := [some (.ref 141), some (.int x1), some (.int x2), some (.int r1), some (.int (((1 : Int32) <<< (r3 &&& 31)) - (1 : Int32)))]) (S' := [.int x2, .int (((1 : Int32) <<< (r3 &&& 31)) - (1 : Int32)), .ref 141, .int (((1 : Int32) <<< (r3 &&& 31)) - (1 : Int32)), .int x1, .ref 141]) (M' := M6) okX9_fair rfl ?_
      obtain ⟨r8, e9, h⟩ := gB0_ok h
      refine go_call1 ocX9_fair rfl rfl (gOb_c rfl) rfl (SX9_valueOf (((1 : Int32) <<< (r3 &&& 31)) - (1 : Int32)) x2 M6 e9) (Nat.lt_of_lt_of_le (by decide) hd) ?_
      refine go_rn 1 (pc' := 50) (L' := [some (.ref 141), some (.int x1), some (.int x2), some (.int r1), some (.int (((1 : Int32) <<< (r3 &&& 31)) - (1 : Int32)))]) (S' := [.long (Int32.toInt64 r8), .int (((1 : Int32) <<< (r3 &&& 31)) - (1 : Int32)), .int x1, .ref 141]) (M' := M6) okX9_fair rfl ?_
      obtain ⟨r10, M11, e12, h⟩ := gBp_ok h
      refine go_call1 ocX9_fair rfl rfl (gOb_c rfl) rfl (SX9_isGivenJust x1 (((1 : Int32) <<< (r3 &&& 31)) - (1 : Int32)) (Int32.toInt64 r8) M6 e12) (Nat.lt_of_lt_of_le (by decide) hd) ?_
      refine go_br okX9_fair rfl (fun hp => ?_) (fun hp => ?_)
      · have h := gq_pos hp h
        refine go_rn 1 (pc' := 61) (L' := [some (.ref 141), some (.int x1), some (.int x2), some (.int r1), some (.int (((1 : Int32) <<< (r3 &&& 31)) - (1 : Int32)))]) (S' := [.int (0 : Int32)]) (M' := M11) okX9_fair rfl ?_
        exact go_iret (reX9_fair _ (by decide)) rfl (k0 (0 : Int32) M11 h)
      · have h := gq_neg hp h
        refine go_rn 2 (pc' := 61) (L' := [some (.ref 141), some (.int x1), some (.int x2), some (.int r1), some (.int (((1 : Int32) <<< (r3 &&& 31)) - (1 : Int32)))]) (S' := [.int (1 : Int32)]) (M' := M11) okX9_fair rfl ?_
        exact go_iret (reX9_fair _ (by decide)) rfl (k0 (1 : Int32) M11 h)
    · have h := gq_neg hp h
      refine go_rn 1 (pc' := 61) (L' := [some (.ref 141), some (.int x1), some (.int x2), some (.int r1), some (.int (((1 : Int32) <<< (r3 &&& 31)) - (1 : Int32)))]) (S' := [.int (0 : Int32)]) (M' := M6) okX9_fair rfl ?_
      exact go_iret (reX9_fair _ (by decide)) rfl (k0 (0 : Int32) M6 h)
  · have h := gq_neg hp h
    refine go_rn 1 (pc' := 17) (L' := [some (.ref 141), some (.int x1), some (.int x2), some (.int r1), none]) (S' := [.int r1]) (M' := M) okX9_fair rfl ?_
    exact go_iret (reX9_fair _ (by decide)) rfl (k0 r1 M h)
def fX9_fair_0 (x1 : Int32) (x2 : Int32) (M : gMem) : Option (Int32 × gMem) :=
  fX9_fair_8 x1 x2 x2 x1 (gSI M 141 0 (0 : Int32))
set_option maxRecDepth 100000 in
theorem CX9_fair_0 {G : gG} {d : Nat} {Z : Option Value → gMem → Prop} (hd : 5 ≤ d) (x1 : Int32) (x2 : Int32) (M : gMem) (P : Int32 × gMem → Prop) (k0 : ∀ (r : Int32) (N : gMem), P (r, N) → Z (some (.int r)) N) (h : gOKq (fX9_fair_0 x1 x2 M) P) : gGo G YX9_fair d Z 0 [some (.ref 141), some (.int x1), some (.int x2), none, none] [] M := by
  unfold fX9_fair_0 at h
  refine go_rn 2 (pc' := 2) (L' := [some (.ref 141), some (.int x1), some (.int x2), none, none]) (S' := [.int (0 : Int32), .ref 141]) (M' := M) okX9_fair rfl ?_
  refine go_ck okX9_fair rfl (gOb_c rfl) ?_
  refine go_rn 3 (pc' := 8) (L' := [some (.ref 141), some (.int x1), some (.int x2), none, none]) (S' := [.int x2, .int x1, .ref 141]) (M' := (gSI M 141 0 (0 : Int32))) okX9_fair rfl ?_
  exact go_wk (CX9_fair_8 hd x1 x2 x2 x1 (gSI M 141 0 (0 : Int32)) P k0 h) ⟨rfl, rfl, rfl, True.intro⟩
def fX9_fair (a1 : Int32) (a2 : Int32) (M : gMem) : Option (Int32 × gMem) := fX9_fair_0 a1 a2 M
theorem SX9_fair {G : gG} (a1 : Int32) (a2 : Int32) (M : gMem) {r : Int32} {N : gMem} (h : fX9_fair a1 a2 M = some (r, N)) : gRun G YX9_fair 5 [.ref 141, .int a1, .int a2] M (fun r' N' => r' = some (.int r) ∧ N' = N) := gRun_in (by decide +kernel) rfl (fun d hd => go_wk (CX9_fair_0 hd a1 a2 M (fun p => p = (r, N)) (fun r N hh => by cases hh; exact ⟨rfl, rfl⟩) (gq_of h)) ⟨rfl, rfl, rfl, True.intro⟩)
def fX9_leave_8 (x1 : Int32) (x2 : Int32) (s0 : Int32) (s1 : Int32) (M : gMem) : Option (Int32 × gMem) :=
  gB0 (fX9_whyNotFair s1 s0 M) (fun r1 => if r1 = 0 then gBp (fX9_leaveOf x1 x2 M) (fun r3 M4 => some (r3, M4)) else some (r1, M))
set_option maxRecDepth 100000 in
theorem CX9_leave_8 {G : gG} {d : Nat} {Z : Option Value → gMem → Prop} (hd : 5 ≤ d) (x1 : Int32) (x2 : Int32) (s0 : Int32) (s1 : Int32) (M : gMem) (P : Int32 × gMem → Prop) (k0 : ∀ (r : Int32) (N : gMem), P (r, N) → Z (some (.int r)) N) (h : gOKq (fX9_leave_8 x1 x2 s0 s1 M) P) : gGo G YX9_leave d Z 8 [some (.ref 141), some (.int x1), some (.int x2), none] [.int s0, .int s1, .ref 141] M := by
  unfold fX9_leave_8 at h
  obtain ⟨r1, e2, h⟩ := gB0_ok h
  refine go_call1 ocX9_leave rfl rfl (gOb_c rfl) rfl (SX9_whyNotFair s1 s0 M e2) (Nat.lt_of_lt_of_le (by decide) hd) ?_
  refine go_rn 2 (pc' := 13) (L' := [some (.ref 141), some (.int x1), some (.int x2), some (.int r1)]) (S' := [.int r1]) (M' := M) okX9_leave rfl ?_
  refine go_br okX9_leave rfl (fun hp => ?_) (fun hp => ?_)
  · have h := gq_pos hp h
    refine go_rn 3 (pc' := 23) (L' := [some (.ref 141), some (.int x1), some (.int x2), some (.int r1)]) (S' := [.int x2, .int x1, .ref 141]) (M' := M) okX9_leave rfl ?_
    obtain ⟨r3, M4, e5, h⟩ := gBp_ok h
    refine go_call1 ocX9_leave rfl rfl (gOb_c rfl) rfl (SX9_leaveOf x1 x2 M e5) (Nat.lt_of_lt_of_le (by decide) hd) ?_
    exact go_iret (reX9_leave _ (by decide)) rfl (k0 r3 M4 h)
  · have h := gq_neg hp h
    refine go_rn 2 (pc' := 26) (L' := [some (.ref 141), some (.int x1), some (.int x2), some (.int r1)]) (S' := [.int r1]) (M' := M) okX9_leave rfl ?_
    exact go_iret (reX9_leave _ (by decide)) rfl (k0 r1 M h)
def fX9_leave_0 (x1 : Int32) (x2 : Int32) (M : gMem) : Option (Int32 × gMem) :=
  fX9_leave_8 x1 x2 x2 x1 (gSI M 141 0 (0 : Int32))
set_option maxRecDepth 100000 in
theorem CX9_leave_0 {G : gG} {d : Nat} {Z : Option Value → gMem → Prop} (hd : 5 ≤ d) (x1 : Int32) (x2 : Int32) (M : gMem) (P : Int32 × gMem → Prop) (k0 : ∀ (r : Int32) (N : gMem), P (r, N) → Z (some (.int r)) N) (h : gOKq (fX9_leave_0 x1 x2 M) P) : gGo G YX9_leave d Z 0 [some (.ref 141), some (.int x1), some (.int x2), none] [] M := by
  unfold fX9_leave_0 at h
  refine go_rn 2 (pc' := 2) (L' := [some (.ref 141), some (.int x1), some (.int x2), none]) (S' := [.int (0 : Int32), .ref 141]) (M' := M) okX9_leave rfl ?_
  refine go_ck okX9_leave rfl (gOb_c rfl) ?_
  refine go_rn 3 (pc' := 8) (L' := [some (.ref 141), some (.int x1), some (.int x2), none]) (S' := [.int x2, .int x1, .ref 141]) (M' := (gSI M 141 0 (0 : Int32))) okX9_leave rfl ?_
  exact go_wk (CX9_leave_8 hd x1 x2 x2 x1 (gSI M 141 0 (0 : Int32)) P k0 h) ⟨rfl, rfl, rfl, True.intro⟩
def fX9_leave (a1 : Int32) (a2 : Int32) (M : gMem) : Option (Int32 × gMem) := fX9_leave_0 a1 a2 M
theorem SX9_leave {G : gG} (a1 : Int32) (a2 : Int32) (M : gMem) {r : Int32} {N : gMem} (h : fX9_leave a1 a2 M = some (r, N)) : gRun G YX9_leave 5 [.ref 141, .int a1, .int a2] M (fun r' N' => r' = some (.int r) ∧ N' = N) := gRun_in (by decide +kernel) rfl (fun d hd => go_wk (CX9_leave_0 hd a1 a2 M (fun p => p = (r, N)) (fun r N hh => by cases hh; exact ⟨rfl, rfl⟩) (gq_of h)) ⟨rfl, rfl, rfl, True.intro⟩)
def fX9_laysSnips_213 (x1 : Int32) (x2 : Int32) (x3 : Int32) (x4 : Int32) (s0 : Int32) (M : gMem) : Option (Sum (Int32 × gMem) (gMem)) :=
  some (.inl ((x4 + 1), (gSI M 141 42 s0)))
set_option maxRecDepth 100000 in
theorem CX9_laysSnips_213 {G : gG} {d : Nat} {Z : Option Value → gMem → Prop} (hd : 6 ≤ d) (x1 : Int32) (x2 : Int32) (x3 : Int32) (x4 : Int32) (s0 : Int32) (M : gMem) (P : Sum (Int32 × gMem) (gMem) → Prop) (k0 : ∀ (N : gMem), P (.inr N) → Z none N) (k1 : ∀ (x4 : Int32) (M : gMem), P (.inl (x4, M)) → gGo G YX9_laysSnips d Z 64 [some (.ref 141), some (.int x1), some (.int x2), some (.int x3), some (.int x4), none, none] [] M) (h : gOKq (fX9_laysSnips_213 x1 x2 x3 x4 s0 M) P) : gGo G YX9_laysSnips d Z 213 [some (.ref 141), some (.int x1), some (.int x2), some (.int x3), some (.int x4), none, none] [.int s0, .ref 141] M := by
  unfold fX9_laysSnips_213 at h
  refine go_ck okX9_laysSnips rfl (gOb_c rfl) ?_
  refine go_rn 2 (pc' := 64) (L' := [some (.ref 141), some (.int x1), some (.int x2), some (.int x3), some (.int (x4 + 1)), none, none]) (S' := []) (M' := (gSI M 141 42 s0)) okX9_laysSnips rfl ?_
  exact go_wk (k1 ((x4 + 1)) (gSI M 141 42 s0) h) ⟨rfl, rfl, rfl, rfl, rfl, True.intro⟩
def fX9_laysSnips_149 (x1 : Int32) (x2 : Int32) (x3 : Int32) (x4 : Int32) (x5 : Int32) (x6 : Int32) (M : gMem) : Option (Sum (Int32 × Int32) (Sum (Int32 × gMem) (gMem))) :=
  gB0 (fX9_joins M) (fun r1 => if r1 ≤ x6 then if (M.1 141 42) ≤ x5 then gEx (fX9_laysSnips_213 x1 x2 x3 x4 (M.1 141 42) M) else gEx (fX9_laysSnips_213 x1 x2 x3 x4 x5 M) else gB0 (fX9_isBit x4 x6 M) (fun r3 => if r3 = 0 then some (.inl ((x5 + (0 : Int32)), (x6 + 1))) else if gIx 1 150 (((3 : Int32) * x6) + (2 : Int32)) = true then some (.inl ((x5 + (M.1 150 (Int32.toNatClampNeg (((3 : Int32) * x6) + (2 : Int32))))), (x6 + 1))) else none))
set_option maxRecDepth 100000 in
theorem CX9_laysSnips_149 {G : gG} {d : Nat} {Z : Option Value → gMem → Prop} (hd : 6 ≤ d) (x1 : Int32) (x2 : Int32) (x3 : Int32) (x4 : Int32) (x5 : Int32) (x6 : Int32) (M : gMem) (P : Sum (Int32 × Int32) (Sum (Int32 × gMem) (gMem)) → Prop) (k0 : ∀ (N : gMem), P (.inr (.inr N)) → Z none N) (k1 : ∀ (x4 : Int32) (M : gMem), P (.inr (.inl (x4, M))) → gGo G YX9_laysSnips d Z 64 [some (.ref 141), some (.int x1), some (.int x2), some (.int x3), some (.int x4), none, none] [] M) (k2 : ∀ (x5 : Int32) (x6 : Int32), P (.inl (x5, x6)) → gGo G YX9_laysSnips d Z 149 [some (.ref 141), some (.int x1), some (.int x2), some (.int x3), some (.int x4), some (.int x5), some (.int x6)] [] M) (h : gOKq (fX9_laysSnips_149 x1 x2 x3 x4 x5 x6 M) P) : gGo G YX9_laysSnips d Z 149 [some (.ref 141), some (.int x1), some (.int x2), some (.int x3), some (.int x4), some (.int x5), some (.int x6)] [] M := by
  unfold fX9_laysSnips_149 at h
  refine go_rn 2 (pc' := 152) (L' := [some (.ref 141), some (.int x1), some (.int x2), some (.int x3), some (.int x4), some (.int x5), some (.int x6)]) (S' := [.ref 141, .int x6]) (M' := M) okX9_laysSnips rfl ?_
  obtain ⟨r1, e2, h⟩ := gB0_ok h
  refine go_call1 ocX9_laysSnips rfl rfl (gOb_c rfl) rfl (SX9_joins M e2) (Nat.lt_of_lt_of_le (by decide) hd) ?_
  refine go_br okX9_laysSnips rfl (fun hp => ?_) (fun hp => ?_)
  · have h := gq_pos hp h
    refine go_rn 3 (pc' := 198) (L' := [some (.ref 141), some (.int x1), some (.int x2), some (.int x3), some (.int x4), some (.int x5), some (.int x6)]) (S' := [.ref 141, .int x5, .ref 141]) (M' := M) okX9_laysSnips rfl ?_
    refine go_ck okX9_laysSnips rfl (gOb_c rfl) ?_
    refine go_br okX9_laysSnips rfl (fun hp => ?_) (fun hp => ?_)
    · have h := gq_pos hp h
      refine go_rn 1 (pc' := 210) (L' := [some (.ref 141), some (.int x1), some (.int x2), some (.int x3), some (.int x4), some (.int x5), some (.int x6)]) (S' := [.ref 141, .ref 141]) (M' := M) okX9_laysSnips rfl ?_
      refine go_ck okX9_laysSnips rfl (gOb_c rfl) ?_
      exact go_wk (CX9_laysSnips_213 hd x1 x2 x3 x4 (M.1 141 42) M (fun q => P (.inr q)) k0 k1 (gEx_ok h)) ⟨rfl, rfl, rfl, rfl, rfl, True.intro⟩
    · have h := gq_neg hp h
      refine go_rn 2 (pc' := 213) (L' := [some (.ref 141), some (.int x1), some (.int x2), some (.int x3), some (.int x4), some (.int x5), some (.int x6)]) (S' := [.int x5, .ref 141]) (M' := M) okX9_laysSnips rfl ?_
      exact go_wk (CX9_laysSnips_213 hd x1 x2 x3 x4 x5 M (fun q => P (.inr q)) k0 k1 (gEx_ok h)) ⟨rfl, rfl, rfl, rfl, rfl, True.intro⟩
  · have h := gq_neg hp h
    refine go_rn 3 (pc' := 164) (L' := [some (.ref 141), some (.int x1), some (.int x2), some (.int x3), some (.int x4), some (.int x5), some (.int x6)]) (S' := [.int x6, .int x4, .int x5]) (M' := M) okX9_laysSnips rfl ?_
    obtain ⟨r3, e4, h⟩ := gB0_ok h
    refine go_call1 ocX9_laysSnips rfl rfl rfl rfl (SX9_isBit x4 x6 M e4) (Nat.lt_of_lt_of_le (by decide) hd) ?_
    refine go_br okX9_laysSnips rfl (fun hp => ?_) (fun hp => ?_)
    · have h := gq_pos hp h
      refine go_rn 5 (pc' := 149) (L' := [some (.ref 141), some (.int x1), some (.int x2), some (.int x3), some (.int x4), some (.int (x5 + (0 : Int32))), some (.int (x6 + 1))]) (S' := []) (M' := M) okX9_laysSnips rfl ?_
      exact go_wk (k2 ((x5 + (0 : Int32))) ((x6 + 1)) h) ⟨rfl, rfl, rfl, rfl, rfl, rfl, rfl, True.intro⟩
    · have h := gq_neg hp h
      refine go_rn 1 (pc' := 171) (L' := [some (.ref 141), some (.int x1), some (.int x2), some (.int x3), some (.int x4), some (.int x5), some (.int x6)]) (S' := [.ref 141, .int x5]) (M' := M) okX9_laysSnips rfl ?_
      refine go_ck okX9_laysSnips rfl (gOb_c rfl) ?_
      refine go_rn 5 (pc' := 180) (L' := [some (.ref 141), some (.int x1), some (.int x2), some (.int x3), some (.int x4), some (.int x5), some (.int x6)]) (S' := [.int (((3 : Int32) * x6) + (2 : Int32)), .ref 150, .int x5]) (M' := M) okX9_laysSnips rfl ?_
      obtain ⟨c5, h⟩ := gq_if h
      refine go_ck okX9_laysSnips rfl c5 ?_
      refine go_rn 5 (pc' := 149) (L' := [some (.ref 141), some (.int x1), some (.int x2), some (.int x3), some (.int x4), some (.int (x5 + (M.1 150 (Int32.toNatClampNeg (((3 : Int32) * x6) + (2 : Int32)))))), some (.int (x6 + 1))]) (S' := []) (M' := M) okX9_laysSnips rfl ?_
      exact go_wk (k2 ((x5 + (M.1 150 (Int32.toNatClampNeg (((3 : Int32) * x6) + (2 : Int32)))))) ((x6 + 1)) h) ⟨rfl, rfl, rfl, rfl, rfl, rfl, rfl, True.intro⟩
def fX9_laysSnips_149h (x1 : Int32) (x2 : Int32) (x3 : Int32) (x4 : Int32) (x5 : Int32) (x6 : Int32) (M : gMem) : Option (Sum (Int32 × gMem) (gMem)) :=
  gLp (fun s : Int32 × Int32 => fX9_laysSnips_149 x1 x2 x3 x4 (s.1) (s.2) M) gFu (x5, x6)
set_option maxRecDepth 100000 in
theorem CX9_laysSnips_149h {G : gG} {d : Nat} {Z : Option Value → gMem → Prop} (hd : 6 ≤ d) (x1 : Int32) (x2 : Int32) (x3 : Int32) (x4 : Int32) (x5 : Int32) (x6 : Int32) (M : gMem) (P : Sum (Int32 × gMem) (gMem) → Prop) (k0 : ∀ (N : gMem), P (.inr N) → Z none N) (k1 : ∀ (x4 : Int32) (M : gMem), P (.inl (x4, M)) → gGo G YX9_laysSnips d Z 64 [some (.ref 141), some (.int x1), some (.int x2), some (.int x3), some (.int x4), none, none] [] M) (h : gOKq (fX9_laysSnips_149h x1 x2 x3 x4 x5 x6 M) P) : gGo G YX9_laysSnips d Z 149 [some (.ref 141), some (.int x1), some (.int x2), some (.int x3), some (.int x4), some (.int x5), some (.int x6)] [] M :=
  gLp_go (K := fun s : Int32 × Int32 => gGo G YX9_laysSnips d Z 149 [some (.ref 141), some (.int x1), some (.int x2), some (.int x3), some (.int x4), some (.int s.1), some (.int s.2)] [] M) (P := P) (fun s hs => CX9_laysSnips_149 hd (x1) (x2) (x3) (x4) (s.1) (s.2) M (Sum.elim (fun s : Int32 × Int32 => gGo G YX9_laysSnips d Z 149 [some (.ref 141), some (.int x1), some (.int x2), some (.int x3), some (.int x4), some (.int s.1), some (.int s.2)] [] M) P) k0 k1 (fun x5 x6 hh => hh) hs) gFu (x5, x6) h
def fX9_laysSnips_143 (x1 : Int32) (x2 : Int32) (x3 : Int32) (x4 : Int32) (M : gMem) : Option (Sum (Int32 × gMem) (gMem)) :=
  fX9_laysSnips_149h x1 x2 x3 x4 (0 : Int32) (0 : Int32) M
set_option maxRecDepth 100000 in
theorem CX9_laysSnips_143 {G : gG} {d : Nat} {Z : Option Value → gMem → Prop} (hd : 6 ≤ d) (x1 : Int32) (x2 : Int32) (x3 : Int32) (x4 : Int32) (M : gMem) (P : Sum (Int32 × gMem) (gMem) → Prop) (k0 : ∀ (N : gMem), P (.inr N) → Z none N) (k1 : ∀ (x4 : Int32) (M : gMem), P (.inl (x4, M)) → gGo G YX9_laysSnips d Z 64 [some (.ref 141), some (.int x1), some (.int x2), some (.int x3), some (.int x4), none, none] [] M) (h : gOKq (fX9_laysSnips_143 x1 x2 x3 x4 M) P) : gGo G YX9_laysSnips d Z 143 [some (.ref 141), some (.int x1), some (.int x2), some (.int x3), some (.int x4), none, none] [] M := by
  unfold fX9_laysSnips_143 at h
  refine go_rn 4 (pc' := 149) (L' := [some (.ref 141), some (.int x1), some (.int x2), some (.int x3), some (.int x4), some (.int (0 : Int32)), some (.int (0 : Int32))]) (S' := []) (M' := M) okX9_laysSnips rfl ?_
  exact go_wk (CX9_laysSnips_149h hd x1 x2 x3 x4 (0 : Int32) (0 : Int32) M P k0 k1 h) ⟨rfl, rfl, rfl, rfl, rfl, rfl, rfl, True.intro⟩
def fX9_laysSnips_137 (x1 : Int32) (x2 : Int32) (x3 : Int32) (x4 : Int32) (M : gMem) : Option (Sum (Int32 × gMem) (gMem)) :=
  fX9_laysSnips_143 x1 x2 x3 x4 (gSI M 141 41 x4)
set_option maxRecDepth 100000 in
theorem CX9_laysSnips_137 {G : gG} {d : Nat} {Z : Option Value → gMem → Prop} (hd : 6 ≤ d) (x1 : Int32) (x2 : Int32) (x3 : Int32) (x4 : Int32) (M : gMem) (P : Sum (Int32 × gMem) (gMem) → Prop) (k0 : ∀ (N : gMem), P (.inr N) → Z none N) (k1 : ∀ (x4 : Int32) (M : gMem), P (.inl (x4, M)) → gGo G YX9_laysSnips d Z 64 [some (.ref 141), some (.int x1), some (.int x2), some (.int x3), some (.int x4), none, none] [] M) (h : gOKq (fX9_laysSnips_137 x1 x2 x3 x4 M) P) : gGo G YX9_laysSnips d Z 137 [some (.ref 141), some (.int x1), some (.int x2), some (.int x3), some (.int x4), none, none] [] M := by
  unfold fX9_laysSnips_137 at h
  refine go_rn 2 (pc' := 140) (L' := [some (.ref 141), some (.int x1), some (.int x2), some (.int x3), some (.int x4), none, none]) (S' := [.int x4, .ref 141]) (M' := M) okX9_laysSnips rfl ?_
  refine go_ck okX9_laysSnips rfl (gOb_c rfl) ?_
  exact go_wk (CX9_laysSnips_143 hd x1 x2 x3 x4 (gSI M 141 41 x4) P k0 k1 h) ⟨rfl, rfl, rfl, rfl, rfl, True.intro⟩
def fX9_laysSnips_95 (x1 : Int32) (x2 : Int32) (x3 : Int32) (x4 : Int32) (s0 : Int32) (M : gMem) : Option (Sum (Int32 × gMem) (gMem)) :=
  gB0 (fX9_runs s0 M) (fun M1 => gB0 (fX9_firmOf x1 (0 : Int32) M1) (fun r3 => gB0 (fX9_isBit r3 x2 M1) (fun r5 => if r5 = 0 then if (M1.1 141 41) = (-1 : Int32) then fX9_laysSnips_137 x1 x2 x3 x4 M1 else gB0 (fX9_sizeOf x4 M1) (fun r7 => gB0 (fX9_sizeOf (M1.1 141 41) M1) (fun r9 => if r9 ≤ r7 then fX9_laysSnips_143 x1 x2 x3 x4 M1 else fX9_laysSnips_137 x1 x2 x3 x4 M1)) else some (.inl ((x4 + 1), M1)))))
set_option maxRecDepth 100000 in
theorem CX9_laysSnips_95 {G : gG} {d : Nat} {Z : Option Value → gMem → Prop} (hd : 6 ≤ d) (x1 : Int32) (x2 : Int32) (x3 : Int32) (x4 : Int32) (s0 : Int32) (M : gMem) (P : Sum (Int32 × gMem) (gMem) → Prop) (k0 : ∀ (N : gMem), P (.inr N) → Z none N) (k1 : ∀ (x4 : Int32) (M : gMem), P (.inl (x4, M)) → gGo G YX9_laysSnips d Z 64 [some (.ref 141), some (.int x1), some (.int x2), some (.int x3), some (.int x4), none, none] [] M) (h : gOKq (fX9_laysSnips_95 x1 x2 x3 x4 s0 M) P) : gGo G YX9_laysSnips d Z 95 [some (.ref 141), some (.int x1), some (.int x2), some (.int x3), some (.int x4), none, none] [.int s0, .ref 141] M := by
  unfold fX9_laysSnips_95 at h
  obtain ⟨M1, e2, h⟩ := gB0_ok h
  refine go_call1 ocX9_laysSnips rfl rfl (gOb_c rfl) rfl (SX9_runs s0 M e2) (Nat.lt_of_lt_of_le (by decide) hd) ?_
  refine go_rn 3 (pc' := 101) (L' := [some (.ref 141), some (.int x1), some (.int x2), some (.int x3), some (.int x4), none, none]) (S' := [.int (0 : Int32), .int x1, .ref 141]) (M' := M1) okX9_laysSnips rfl ?_
  obtain ⟨r3, e4, h⟩ := gB0_ok h
  refine go_call1 ocX9_laysSnips rfl rfl (gOb_c rfl) rfl (SX9_firmOf x1 (0 : Int32) M1 e4) (Nat.lt_of_lt_of_le (by decide) hd) ?_
  refine go_rn 1 (pc' := 105) (L' := [some (.ref 141), some (.int x1), some (.int x2), some (.int x3), some (.int x4), none, none]) (S' := [.int x2, .int r3]) (M' := M1) okX9_laysSnips rfl ?_
  obtain ⟨r5, e6, h⟩ := gB0_ok h
  refine go_call1 ocX9_laysSnips rfl rfl rfl rfl (SX9_isBit r3 x2 M1 e6) (Nat.lt_of_lt_of_le (by decide) hd) ?_
  refine go_br okX9_laysSnips rfl (fun hp => ?_) (fun hp => ?_)
  · have h := gq_pos hp h
    refine go_rn 1 (pc' := 115) (L' := [some (.ref 141), some (.int x1), some (.int x2), some (.int x3), some (.int x4), none, none]) (S' := [.ref 141]) (M' := M1) okX9_laysSnips rfl ?_
    refine go_ck okX9_laysSnips rfl (gOb_c rfl) ?_
    refine go_rn 1 (pc' := 119) (L' := [some (.ref 141), some (.int x1), some (.int x2), some (.int x3), some (.int x4), none, none]) (S' := [.int (-1 : Int32), .int (M1.1 141 41)]) (M' := M1) okX9_laysSnips rfl ?_
    refine go_br okX9_laysSnips rfl (fun hp => ?_) (fun hp => ?_)
    · have h := gq_pos hp h
      exact go_wk (CX9_laysSnips_137 hd x1 x2 x3 x4 M1 P k0 k1 h) ⟨rfl, rfl, rfl, rfl, rfl, True.intro⟩
    · have h := gq_neg hp h
      refine go_rn 1 (pc' := 124) (L' := [some (.ref 141), some (.int x1), some (.int x2), some (.int x3), some (.int x4), none, none]) (S' := [.int x4]) (M' := M1) okX9_laysSnips rfl ?_
      obtain ⟨r7, e8, h⟩ := gB0_ok h
      refine go_call1 ocX9_laysSnips rfl rfl rfl rfl (SX9_sizeOf x4 M1 e8) (Nat.lt_of_lt_of_le (by decide) hd) ?_
      refine go_rn 1 (pc' := 128) (L' := [some (.ref 141), some (.int x1), some (.int x2), some (.int x3), some (.int x4), none, none]) (S' := [.ref 141, .int r7]) (M' := M1) okX9_laysSnips rfl ?_
      refine go_ck okX9_laysSnips rfl (gOb_c rfl) ?_
      obtain ⟨r9, e10, h⟩ := gB0_ok h
      refine go_call1 ocX9_laysSnips rfl rfl rfl rfl (SX9_sizeOf (M1.1 141 41) M1 e10) (Nat.lt_of_lt_of_le (by decide) hd) ?_
      refine go_br okX9_laysSnips rfl (fun hp => ?_) (fun hp => ?_)
      · have h := gq_pos hp h
        exact go_wk (CX9_laysSnips_143 hd x1 x2 x3 x4 M1 P k0 k1 h) ⟨rfl, rfl, rfl, rfl, rfl, True.intro⟩
      · have h := gq_neg hp h
        exact go_wk (CX9_laysSnips_137 hd x1 x2 x3 x4 M1 P k0 k1 h) ⟨rfl, rfl, rfl, rfl, rfl, True.intro⟩
  · have h := gq_neg hp h
    refine go_rn 3 (pc' := 64) (L' := [some (.ref 141), some (.int x1), some (.int x2), some (.int x3), some (.int (x4 + 1)), none, none]) (S' := []) (M' := M1) okX9_laysSnips rfl ?_
    exact go_wk (k1 ((x4 + 1)) M1 h) ⟨rfl, rfl, rfl, rfl, rfl, True.intro⟩
def fX9_laysSnips_64 (x1 : Int32) (x2 : Int32) (x3 : Int32) (x4 : Int32) (M : gMem) : Option (Sum (Int32 × gMem) (gMem)) :=
  gB0 (fX9_joins M) (fun r1 => if ((1 : Int32) <<< (r1 &&& 31)) ≤ x4 then some (.inr M) else if (x4 &&& (x3 ^^^ (-1 : Int32))) = 0 then fX9_laysSnips_95 x1 x2 x3 x4 (0 : Int32) (gSI M 141 25 x4) else some (.inl ((x4 + 1), M)))
set_option maxRecDepth 100000 in
theorem CX9_laysSnips_64 {G : gG} {d : Nat} {Z : Option Value → gMem → Prop} (hd : 6 ≤ d) (x1 : Int32) (x2 : Int32) (x3 : Int32) (x4 : Int32) (M : gMem) (P : Sum (Int32 × gMem) (gMem) → Prop) (k0 : ∀ (N : gMem), P (.inr N) → Z none N) (k1 : ∀ (x4 : Int32) (M : gMem), P (.inl (x4, M)) → gGo G YX9_laysSnips d Z 64 [some (.ref 141), some (.int x1), some (.int x2), some (.int x3), some (.int x4), none, none] [] M) (h : gOKq (fX9_laysSnips_64 x1 x2 x3 x4 M) P) : gGo G YX9_laysSnips d Z 64 [some (.ref 141), some (.int x1), some (.int x2), some (.int x3), some (.int x4), none, none] [] M := by
  unfold fX9_laysSnips_64 at h
  refine go_rn 3 (pc' := 68) (L' := [some (.ref 141), some (.int x1), some (.int x2), some (.int x3), some (.int x4), none, none]) (S' := [.ref 141, .int (1 : Int32), .int x4]) (M' := M) okX9_laysSnips rfl ?_
  obtain ⟨r1, e2, h⟩ := gB0_ok h
  refine go_call1 ocX9_laysSnips rfl rfl (gOb_c rfl) rfl (SX9_joins M e2) (Nat.lt_of_lt_of_le (by decide) hd) ?_
  refine go_rn 1 (pc' := 72) (L' := [some (.ref 141), some (.int x1), some (.int x2), some (.int x3), some (.int x4), none, none]) (S' := [.int ((1 : Int32) <<< (r1 &&& 31)), .int x4]) (M' := M) okX9_laysSnips rfl ?_
  refine go_br okX9_laysSnips rfl (fun hp => ?_) (fun hp => ?_)
  · have h := gq_pos hp h
    exact go_vret (reX9_laysSnips _ (by decide)) rfl (k0 M h)
  · have h := gq_neg hp h
    refine go_rn 5 (pc' := 81) (L' := [some (.ref 141), some (.int x1), some (.int x2), some (.int x3), some (.int x4), none, none]) (S' := [.int (x4 &&& (x3 ^^^ (-1 : Int32)))]) (M' := M) okX9_laysSnips rfl ?_
    refine go_br okX9_laysSnips rfl (fun hp => ?_) (fun hp => ?_)
    · have h := gq_pos hp h
      refine go_rn 2 (pc' := 90) (L' := [some (.ref 141), some (.int x1), some (.int x2), some (.int x3), some (.int x4), none, none]) (S' := [.int x4, .ref 141]) (M' := M) okX9_laysSnips rfl ?_
      refine go_ck okX9_laysSnips rfl (gOb_c rfl) ?_
      refine go_rn 2 (pc' := 95) (L' := [some (.ref 141), some (.int x1), some (.int x2), some (.int x3), some (.int x4), none, none]) (S' := [.int (0 : Int32), .ref 141]) (M' := (gSI M 141 25 x4)) okX9_laysSnips rfl ?_
      exact go_wk (CX9_laysSnips_95 hd x1 x2 x3 x4 (0 : Int32) (gSI M 141 25 x4) P k0 k1 h) ⟨rfl, rfl, rfl, rfl, rfl, True.intro⟩
    · have h := gq_neg hp h
      refine go_rn 3 (pc' := 64) (L' := [some (.ref 141), some (.int x1), some (.int x2), some (.int x3), some (.int (x4 + 1)), none, none]) (S' := []) (M' := M) okX9_laysSnips rfl ?_
      exact go_wk (k1 ((x4 + 1)) M h) ⟨rfl, rfl, rfl, rfl, rfl, True.intro⟩
def fX9_laysSnips_64h (x1 : Int32) (x2 : Int32) (x3 : Int32) (x4 : Int32) (M : gMem) : Option (gMem) :=
  gLp (fun s : Int32 × gMem => fX9_laysSnips_64 x1 x2 x3 (s.1) s.2) gFu (x4, M)
set_option maxRecDepth 100000 in
theorem CX9_laysSnips_64h {G : gG} {d : Nat} {Z : Option Value → gMem → Prop} (hd : 6 ≤ d) (x1 : Int32) (x2 : Int32) (x3 : Int32) (x4 : Int32) (M : gMem) (P : gMem → Prop) (k0 : ∀ (N : gMem), P N → Z none N) (h : gOKq (fX9_laysSnips_64h x1 x2 x3 x4 M) P) : gGo G YX9_laysSnips d Z 64 [some (.ref 141), some (.int x1), some (.int x2), some (.int x3), some (.int x4), none, none] [] M :=
  gLp_go (K := fun s : Int32 × gMem => gGo G YX9_laysSnips d Z 64 [some (.ref 141), some (.int x1), some (.int x2), some (.int x3), some (.int s.1), none, none] [] s.2) (P := P) (fun s hs => CX9_laysSnips_64 hd (x1) (x2) (x3) (s.1) (s.2) (Sum.elim (fun s : Int32 × gMem => gGo G YX9_laysSnips d Z 64 [some (.ref 141), some (.int x1), some (.int x2), some (.int x3), some (.int s.1), none, none] [] s.2) P) k0 (fun x4 M hh => hh) hs) gFu (x4, M) h
def fX9_laysSnips_58 (x1 : Int32) (x2 : Int32) (x3 : Int32) (s0 : Int32) (M : gMem) : Option (gMem) :=
  fX9_laysSnips_64h x1 x2 x3 (0 : Int32) (gSI M 141 42 s0)
set_option maxRecDepth 100000 in
theorem CX9_laysSnips_58 {G : gG} {d : Nat} {Z : Option Value → gMem → Prop} (hd : 6 ≤ d) (x1 : Int32) (x2 : Int32) (x3 : Int32) (s0 : Int32) (M : gMem) (P : gMem → Prop) (k0 : ∀ (N : gMem), P N → Z none N) (h : gOKq (fX9_laysSnips_58 x1 x2 x3 s0 M) P) : gGo G YX9_laysSnips d Z 58 [some (.ref 141), some (.int x1), some (.int x2), some (.int x3), none, none, none] [.int s0, .ref 141] M := by
  unfold fX9_laysSnips_58 at h
  refine go_ck okX9_laysSnips rfl (gOb_c rfl) ?_
  refine go_rn 2 (pc' := 64) (L' := [some (.ref 141), some (.int x1), some (.int x2), some (.int x3), some (.int (0 : Int32)), none, none]) (S' := []) (M' := (gSI M 141 42 s0)) okX9_laysSnips rfl ?_
  exact go_wk (CX9_laysSnips_64h hd x1 x2 x3 (0 : Int32) (gSI M 141 42 s0) P k0 h) ⟨rfl, rfl, rfl, rfl, rfl, True.intro⟩
def fX9_laysSnips_14 (x1 : Int32) (x2 : Int32) (x3 : Int32) (x4 : Int32) (M : gMem) : Option (Sum (Int32 × Int32) (gMem)) :=
  gB0 (fX9_joins M) (fun r1 => if r1 ≤ x4 then gEx (fX9_laysSnips_58 x1 x2 x3 (100000 : Int32) (gSI M 141 41 (-1 : Int32))) else gB0 (fX9_isToldThen x4 (0 : Int32) M) (fun r3 => if r3 = 0 then some (.inl ((x3 ||| (0 : Int32)), (x4 + 1))) else some (.inl ((x3 ||| ((1 : Int32) <<< (x4 &&& 31))), (x4 + 1)))))
set_option maxRecDepth 100000 in
theorem CX9_laysSnips_14 {G : gG} {d : Nat} {Z : Option Value → gMem → Prop} (hd : 6 ≤ d) (x1 : Int32) (x2 : Int32) (x3 : Int32) (x4 : Int32) (M : gMem) (P : Sum (Int32 × Int32) (gMem) → Prop) (k0 : ∀ (N : gMem), P (.inr N) → Z none N) (k1 : ∀ (x3 : Int32) (x4 : Int32), P (.inl (x3, x4)) → gGo G YX9_laysSnips d Z 14 [some (.ref 141), some (.int x1), some (.int x2), some (.int x3), some (.int x4), none, none] [] M) (h : gOKq (fX9_laysSnips_14 x1 x2 x3 x4 M) P) : gGo G YX9_laysSnips d Z 14 [some (.ref 141), some (.int x1), some (.int x2), some (.int x3), some (.int x4), none, none] [] M := by
  unfold fX9_laysSnips_14 at h
  refine go_rn 2 (pc' := 17) (L' := [some (.ref 141), some (.int x1), some (.int x2), some (.int x3), some (.int x4), none, none]) (S' := [.ref 141, .int x4]) (M' := M) okX9_laysSnips rfl ?_
  obtain ⟨r1, e2, h⟩ := gB0_ok h
  refine go_call1 ocX9_laysSnips rfl rfl (gOb_c rfl) rfl (SX9_joins M e2) (Nat.lt_of_lt_of_le (by decide) hd) ?_
  refine go_br okX9_laysSnips rfl (fun hp => ?_) (fun hp => ?_)
  · have h := gq_pos hp h
    refine go_rn 2 (pc' := 52) (L' := [some (.ref 141), some (.int x1), some (.int x2), some (.int x3), some (.int x4), none, none]) (S' := [.int (-1 : Int32), .ref 141]) (M' := M) okX9_laysSnips rfl ?_
    refine go_ck okX9_laysSnips rfl (gOb_c rfl) ?_
    refine go_rn 2 (pc' := 58) (L' := [some (.ref 141), some (.int x1), some (.int x2), some (.int x3), some (.int x4), none, none]) (S' := [.int (100000 : Int32), .ref 141]) (M' := (gSI M 141 41 (-1 : Int32))) okX9_laysSnips rfl ?_
    exact go_wk (CX9_laysSnips_58 hd x1 x2 x3 (100000 : Int32) (gSI M 141 41 (-1 : Int32)) (fun q => P (.inr q)) k0 (gEx_ok h)) ⟨rfl, rfl, rfl, rfl, True.intro⟩
  · have h := gq_neg hp h
    refine go_rn 4 (pc' := 28) (L' := [some (.ref 141), some (.int x1), some (.int x2), some (.int x3), some (.int x4), none, none]) (S' := [.int (0 : Int32), .int x4, .ref 141, .int x3]) (M' := M) okX9_laysSnips rfl ?_
    obtain ⟨r3, e4, h⟩ := gB0_ok h
    refine go_call1 ocX9_laysSnips rfl rfl (gOb_c rfl) rfl (SX9_isToldThen x4 (0 : Int32) M e4) (Nat.lt_of_lt_of_le (by decide) hd) ?_
    refine go_br okX9_laysSnips rfl (fun hp => ?_) (fun hp => ?_)
    · have h := gq_pos hp h
      refine go_rn 5 (pc' := 14) (L' := [some (.ref 141), some (.int x1), some (.int x2), some (.int (x3 ||| (0 : Int32))), some (.int (x4 + 1)), none, none]) (S' := []) (M' := M) okX9_laysSnips rfl ?_
      exact go_wk (k1 ((x3 ||| (0 : Int32))) ((x4 + 1)) h) ⟨rfl, rfl, rfl, rfl, rfl, True.intro⟩
    · have h := gq_neg hp h
      refine go_rn 8 (pc' := 14) (L' := [some (.ref 141), some (.int x1), some (.int x2), some (.int (x3 ||| ((1 : Int32) <<< (x4 &&& 31)))), some (.int (x4 + 1)), none, none]) (S' := []) (M' := M) okX9_laysSnips rfl ?_
      exact go_wk (k1 ((x3 ||| ((1 : Int32) <<< (x4 &&& 31)))) ((x4 + 1)) h) ⟨rfl, rfl, rfl, rfl, rfl, True.intro⟩
def fX9_laysSnips_14h (x1 : Int32) (x2 : Int32) (x3 : Int32) (x4 : Int32) (M : gMem) : Option (gMem) :=
  gLp (fun s : Int32 × Int32 => fX9_laysSnips_14 x1 x2 (s.1) (s.2) M) gFu (x3, x4)
set_option maxRecDepth 100000 in
theorem CX9_laysSnips_14h {G : gG} {d : Nat} {Z : Option Value → gMem → Prop} (hd : 6 ≤ d) (x1 : Int32) (x2 : Int32) (x3 : Int32) (x4 : Int32) (M : gMem) (P : gMem → Prop) (k0 : ∀ (N : gMem), P N → Z none N) (h : gOKq (fX9_laysSnips_14h x1 x2 x3 x4 M) P) : gGo G YX9_laysSnips d Z 14 [some (.ref 141), some (.int x1), some (.int x2), some (.int x3), some (.int x4), none, none] [] M :=
  gLp_go (K := fun s : Int32 × Int32 => gGo G YX9_laysSnips d Z 14 [some (.ref 141), some (.int x1), some (.int x2), some (.int s.1), some (.int s.2), none, none] [] M) (P := P) (fun s hs => CX9_laysSnips_14 hd (x1) (x2) (s.1) (s.2) M (Sum.elim (fun s : Int32 × Int32 => gGo G YX9_laysSnips d Z 14 [some (.ref 141), some (.int x1), some (.int x2), some (.int s.1), some (.int s.2), none, none] [] M) P) k0 (fun x3 x4 hh => hh) hs) gFu (x3, x4) h
def fX9_laysSnips_0 (x1 : Int32) (x2 : Int32) (M : gMem) : Option (gMem) :=
  gB0 (fX9_lays M) (fun M1 => gB0 (fX9_runs (0 : Int32) M1) (fun M3 => fX9_laysSnips_14h x1 x2 (0 : Int32) (0 : Int32) M3))
set_option maxRecDepth 100000 in
theorem CX9_laysSnips_0 {G : gG} {d : Nat} {Z : Option Value → gMem → Prop} (hd : 6 ≤ d) (x1 : Int32) (x2 : Int32) (M : gMem) (P : gMem → Prop) (k0 : ∀ (N : gMem), P N → Z none N) (h : gOKq (fX9_laysSnips_0 x1 x2 M) P) : gGo G YX9_laysSnips d Z 0 [some (.ref 141), some (.int x1), some (.int x2), none, none, none, none] [] M := by
  unfold fX9_laysSnips_0 at h
  refine go_rn 1 (pc' := 1) (L' := [some (.ref 141), some (.int x1), some (.int x2), none, none, none, none]) (S' := [.ref 141]) (M' := M) okX9_laysSnips rfl ?_
  obtain ⟨M1, e2, h⟩ := gB0_ok h
  refine go_call1 ocX9_laysSnips rfl rfl (gOb_c rfl) rfl (SX9_lays M e2) (Nat.lt_of_lt_of_le (by decide) hd) ?_
  refine go_rn 2 (pc' := 6) (L' := [some (.ref 141), some (.int x1), some (.int x2), none, none, none, none]) (S' := [.int (0 : Int32), .ref 141]) (M' := M1) okX9_laysSnips rfl ?_
  obtain ⟨M3, e4, h⟩ := gB0_ok h
  refine go_call1 ocX9_laysSnips rfl rfl (gOb_c rfl) rfl (SX9_runs (0 : Int32) M1 e4) (Nat.lt_of_lt_of_le (by decide) hd) ?_
  refine go_rn 4 (pc' := 14) (L' := [some (.ref 141), some (.int x1), some (.int x2), some (.int (0 : Int32)), some (.int (0 : Int32)), none, none]) (S' := []) (M' := M3) okX9_laysSnips rfl ?_
  exact go_wk (CX9_laysSnips_14h hd x1 x2 (0 : Int32) (0 : Int32) M3 P k0 h) ⟨rfl, rfl, rfl, rfl, rfl, True.intro⟩
def fX9_laysSnips (a1 : Int32) (a2 : Int32) (M : gMem) : Option (gMem) := fX9_laysSnips_0 a1 a2 M
theorem SX9_laysSnips {G : gG} (a1 : Int32) (a2 : Int32) (M : gMem) {N : gMem} (h : fX9_laysSnips a1 a2 M = some N) : gRun G YX9_laysSnips 6 [.ref 141, .int a1, .int a2] M (fun r' N' => r' = none ∧ N' = N) := gRun_in (by decide +kernel) rfl (fun d hd => go_wk (CX9_laysSnips_0 hd a1 a2 M (fun p => p = N) (fun N hh => ⟨rfl, hh⟩) (gq_of h)) ⟨rfl, rfl, rfl, True.intro⟩)
def fX9_snips_8 (x1 : Int32) (x2 : Int32) (s0 : Int32) (s1 : Int32) (M : gMem) : Option (Int32 × gMem) :=
  gB0 (fX9_areTwo s1 s0 M) (fun r1 => if r1 = 0 then some ((-2 : Int32), M) else gB0 (fX9_laysSnips x1 x2 M) (fun M3 => if (M3.1 141 41) = (-1 : Int32) then some ((-1 : Int32), M3) else gB0 (fX9_sizeOf (M3.1 141 41) M3) (fun r5 => some (r5, M3))))
set_option maxRecDepth 100000 in
theorem CX9_snips_8 {G : gG} {d : Nat} {Z : Option Value → gMem → Prop} (hd : 7 ≤ d) (x1 : Int32) (x2 : Int32) (s0 : Int32) (s1 : Int32) (M : gMem) (P : Int32 × gMem → Prop) (k0 : ∀ (r : Int32) (N : gMem), P (r, N) → Z (some (.int r)) N) (h : gOKq (fX9_snips_8 x1 x2 s0 s1 M) P) : gGo G YX9_snips d Z 8 [some (.ref 141), some (.int x1), some (.int x2)] [.int s0, .int s1, .ref 141] M := by
  unfold fX9_snips_8 at h
  obtain ⟨r1, e2, h⟩ := gB0_ok h
  refine go_call1 ocX9_snips rfl rfl (gOb_c rfl) rfl (SX9_areTwo s1 s0 M e2) (Nat.lt_of_lt_of_le (by decide) hd) ?_
  refine go_br okX9_snips rfl (fun hp => ?_) (fun hp => ?_)
  · have h := gq_pos hp h
    refine go_rn 1 (pc' := 16) (L' := [some (.ref 141), some (.int x1), some (.int x2)]) (S' := [.int (-2 : Int32)]) (M' := M) okX9_snips rfl ?_
    exact go_iret (reX9_snips _ (by decide)) rfl (k0 (-2 : Int32) M h)
  · have h := gq_neg hp h
    refine go_rn 3 (pc' := 20) (L' := [some (.ref 141), some (.int x1), some (.int x2)]) (S' := [.int x2, .int x1, .ref 141]) (M' := M) okX9_snips rfl ?_
    obtain ⟨M3, e4, h⟩ := gB0_ok h
    refine go_call1 ocX9_snips rfl rfl (gOb_c rfl) rfl (SX9_laysSnips x1 x2 M e4) (Nat.lt_of_lt_of_le (by decide) hd) ?_
    refine go_rn 1 (pc' := 24) (L' := [some (.ref 141), some (.int x1), some (.int x2)]) (S' := [.ref 141]) (M' := M3) okX9_snips rfl ?_
    refine go_ck okX9_snips rfl (gOb_c rfl) ?_
    refine go_rn 1 (pc' := 28) (L' := [some (.ref 141), some (.int x1), some (.int x2)]) (S' := [.int (-1 : Int32), .int (M3.1 141 41)]) (M' := M3) okX9_snips rfl ?_
    refine go_br okX9_snips rfl (fun hp => ?_) (fun hp => ?_)
    · have h := gq_pos hp h
      refine go_rn 2 (pc' := 42) (L' := [some (.ref 141), some (.int x1), some (.int x2)]) (S' := [.int (-1 : Int32)]) (M' := M3) okX9_snips rfl ?_
      exact go_iret (reX9_snips _ (by decide)) rfl (k0 (-1 : Int32) M3 h)
    · have h := gq_neg hp h
      refine go_rn 1 (pc' := 36) (L' := [some (.ref 141), some (.int x1), some (.int x2)]) (S' := [.ref 141]) (M' := M3) okX9_snips rfl ?_
      refine go_ck okX9_snips rfl (gOb_c rfl) ?_
      obtain ⟨r5, e6, h⟩ := gB0_ok h
      refine go_call1 ocX9_snips rfl rfl rfl rfl (SX9_sizeOf (M3.1 141 41) M3 e6) (Nat.lt_of_lt_of_le (by decide) hd) ?_
      exact go_iret (reX9_snips _ (by decide)) rfl (k0 r5 M3 h)
def fX9_snips_0 (x1 : Int32) (x2 : Int32) (M : gMem) : Option (Int32 × gMem) :=
  fX9_snips_8 x1 x2 x2 x1 (gSI M 141 0 (0 : Int32))
set_option maxRecDepth 100000 in
theorem CX9_snips_0 {G : gG} {d : Nat} {Z : Option Value → gMem → Prop} (hd : 7 ≤ d) (x1 : Int32) (x2 : Int32) (M : gMem) (P : Int32 × gMem → Prop) (k0 : ∀ (r : Int32) (N : gMem), P (r, N) → Z (some (.int r)) N) (h : gOKq (fX9_snips_0 x1 x2 M) P) : gGo G YX9_snips d Z 0 [some (.ref 141), some (.int x1), some (.int x2)] [] M := by
  unfold fX9_snips_0 at h
  refine go_rn 2 (pc' := 2) (L' := [some (.ref 141), some (.int x1), some (.int x2)]) (S' := [.int (0 : Int32), .ref 141]) (M' := M) okX9_snips rfl ?_
  refine go_ck okX9_snips rfl (gOb_c rfl) ?_
  refine go_rn 3 (pc' := 8) (L' := [some (.ref 141), some (.int x1), some (.int x2)]) (S' := [.int x2, .int x1, .ref 141]) (M' := (gSI M 141 0 (0 : Int32))) okX9_snips rfl ?_
  exact go_wk (CX9_snips_8 hd x1 x2 x2 x1 (gSI M 141 0 (0 : Int32)) P k0 h) ⟨rfl, rfl, rfl, True.intro⟩
def fX9_snips (a1 : Int32) (a2 : Int32) (M : gMem) : Option (Int32 × gMem) := fX9_snips_0 a1 a2 M
theorem SX9_snips {G : gG} (a1 : Int32) (a2 : Int32) (M : gMem) {r : Int32} {N : gMem} (h : fX9_snips a1 a2 M = some (r, N)) : gRun G YX9_snips 7 [.ref 141, .int a1, .int a2] M (fun r' N' => r' = some (.int r) ∧ N' = N) := gRun_in (by decide +kernel) rfl (fun d hd => go_wk (CX9_snips_0 hd a1 a2 M (fun p => p = (r, N)) (fun r N hh => by cases hh; exact ⟨rfl, rfl⟩) (gq_of h)) ⟨rfl, rfl, rfl, True.intro⟩)
def fX9_snipped_8 (x1 : Int32) (x2 : Int32) (s0 : Int32) (s1 : Int32) (M : gMem) : Option (Int32 × gMem) :=
  gB0 (fX9_areTwo s1 s0 M) (fun r1 => if r1 = 0 then some ((-2 : Int32), M) else gB0 (fX9_laysSnips x1 x2 M) (fun M3 => some ((M3.1 141 41), M3)))
set_option maxRecDepth 100000 in
theorem CX9_snipped_8 {G : gG} {d : Nat} {Z : Option Value → gMem → Prop} (hd : 7 ≤ d) (x1 : Int32) (x2 : Int32) (s0 : Int32) (s1 : Int32) (M : gMem) (P : Int32 × gMem → Prop) (k0 : ∀ (r : Int32) (N : gMem), P (r, N) → Z (some (.int r)) N) (h : gOKq (fX9_snipped_8 x1 x2 s0 s1 M) P) : gGo G YX9_snipped d Z 8 [some (.ref 141), some (.int x1), some (.int x2)] [.int s0, .int s1, .ref 141] M := by
  unfold fX9_snipped_8 at h
  obtain ⟨r1, e2, h⟩ := gB0_ok h
  refine go_call1 ocX9_snipped rfl rfl (gOb_c rfl) rfl (SX9_areTwo s1 s0 M e2) (Nat.lt_of_lt_of_le (by decide) hd) ?_
  refine go_br okX9_snipped rfl (fun hp => ?_) (fun hp => ?_)
  · have h := gq_pos hp h
    refine go_rn 1 (pc' := 16) (L' := [some (.ref 141), some (.int x1), some (.int x2)]) (S' := [.int (-2 : Int32)]) (M' := M) okX9_snipped rfl ?_
    exact go_iret (reX9_snipped _ (by decide)) rfl (k0 (-2 : Int32) M h)
  · have h := gq_neg hp h
    refine go_rn 3 (pc' := 20) (L' := [some (.ref 141), some (.int x1), some (.int x2)]) (S' := [.int x2, .int x1, .ref 141]) (M' := M) okX9_snipped rfl ?_
    obtain ⟨M3, e4, h⟩ := gB0_ok h
    refine go_call1 ocX9_snipped rfl rfl (gOb_c rfl) rfl (SX9_laysSnips x1 x2 M e4) (Nat.lt_of_lt_of_le (by decide) hd) ?_
    refine go_rn 1 (pc' := 24) (L' := [some (.ref 141), some (.int x1), some (.int x2)]) (S' := [.ref 141]) (M' := M3) okX9_snipped rfl ?_
    refine go_ck okX9_snipped rfl (gOb_c rfl) ?_
    exact go_iret (reX9_snipped _ (by decide)) rfl (k0 (M3.1 141 41) M3 h)
def fX9_snipped_0 (x1 : Int32) (x2 : Int32) (M : gMem) : Option (Int32 × gMem) :=
  fX9_snipped_8 x1 x2 x2 x1 (gSI M 141 0 (0 : Int32))
set_option maxRecDepth 100000 in
theorem CX9_snipped_0 {G : gG} {d : Nat} {Z : Option Value → gMem → Prop} (hd : 7 ≤ d) (x1 : Int32) (x2 : Int32) (M : gMem) (P : Int32 × gMem → Prop) (k0 : ∀ (r : Int32) (N : gMem), P (r, N) → Z (some (.int r)) N) (h : gOKq (fX9_snipped_0 x1 x2 M) P) : gGo G YX9_snipped d Z 0 [some (.ref 141), some (.int x1), some (.int x2)] [] M := by
  unfold fX9_snipped_0 at h
  refine go_rn 2 (pc' := 2) (L' := [some (.ref 141), some (.int x1), some (.int x2)]) (S' := [.int (0 : Int32), .ref 141]) (M' := M) okX9_snipped rfl ?_
  refine go_ck okX9_snipped rfl (gOb_c rfl) ?_
  refine go_rn 3 (pc' := 8) (L' := [some (.ref 141), some (.int x1), some (.int x2)]) (S' := [.int x2, .int x1, .ref 141]) (M' := (gSI M 141 0 (0 : Int32))) okX9_snipped rfl ?_
  exact go_wk (CX9_snipped_8 hd x1 x2 x2 x1 (gSI M 141 0 (0 : Int32)) P k0 h) ⟨rfl, rfl, rfl, True.intro⟩
def fX9_snipped (a1 : Int32) (a2 : Int32) (M : gMem) : Option (Int32 × gMem) := fX9_snipped_0 a1 a2 M
theorem SX9_snipped {G : gG} (a1 : Int32) (a2 : Int32) (M : gMem) {r : Int32} {N : gMem} (h : fX9_snipped a1 a2 M = some (r, N)) : gRun G YX9_snipped 7 [.ref 141, .int a1, .int a2] M (fun r' N' => r' = some (.int r) ∧ N' = N) := gRun_in (by decide +kernel) rfl (fun d hd => go_wk (CX9_snipped_0 hd a1 a2 M (fun p => p = (r, N)) (fun r N hh => by cases hh; exact ⟨rfl, rfl⟩) (gq_of h)) ⟨rfl, rfl, rfl, True.intro⟩)
def fX9_wax_8 (x1 : Int32) (x2 : Int32) (s0 : Int32) (s1 : Int32) (M : gMem) : Option (Int32 × gMem) :=
  gB0 (fX9_areTwo s1 s0 M) (fun r1 => if r1 = 0 then some ((-2 : Int32), M) else gB0 (fX9_laysSnips x1 x2 M) (fun M3 => if (M3.1 141 41) = (-1 : Int32) then some ((-1 : Int32), M3) else some ((M3.1 141 42), M3)))
set_option maxRecDepth 100000 in
theorem CX9_wax_8 {G : gG} {d : Nat} {Z : Option Value → gMem → Prop} (hd : 7 ≤ d) (x1 : Int32) (x2 : Int32) (s0 : Int32) (s1 : Int32) (M : gMem) (P : Int32 × gMem → Prop) (k0 : ∀ (r : Int32) (N : gMem), P (r, N) → Z (some (.int r)) N) (h : gOKq (fX9_wax_8 x1 x2 s0 s1 M) P) : gGo G YX9_wax d Z 8 [some (.ref 141), some (.int x1), some (.int x2)] [.int s0, .int s1, .ref 141] M := by
  unfold fX9_wax_8 at h
  obtain ⟨r1, e2, h⟩ := gB0_ok h
  refine go_call1 ocX9_wax rfl rfl (gOb_c rfl) rfl (SX9_areTwo s1 s0 M e2) (Nat.lt_of_lt_of_le (by decide) hd) ?_
  refine go_br okX9_wax rfl (fun hp => ?_) (fun hp => ?_)
  · have h := gq_pos hp h
    refine go_rn 1 (pc' := 16) (L' := [some (.ref 141), some (.int x1), some (.int x2)]) (S' := [.int (-2 : Int32)]) (M' := M) okX9_wax rfl ?_
    exact go_iret (reX9_wax _ (by decide)) rfl (k0 (-2 : Int32) M h)
  · have h := gq_neg hp h
    refine go_rn 3 (pc' := 20) (L' := [some (.ref 141), some (.int x1), some (.int x2)]) (S' := [.int x2, .int x1, .ref 141]) (M' := M) okX9_wax rfl ?_
    obtain ⟨M3, e4, h⟩ := gB0_ok h
    refine go_call1 ocX9_wax rfl rfl (gOb_c rfl) rfl (SX9_laysSnips x1 x2 M e4) (Nat.lt_of_lt_of_le (by decide) hd) ?_
    refine go_rn 1 (pc' := 24) (L' := [some (.ref 141), some (.int x1), some (.int x2)]) (S' := [.ref 141]) (M' := M3) okX9_wax rfl ?_
    refine go_ck okX9_wax rfl (gOb_c rfl) ?_
    refine go_rn 1 (pc' := 28) (L' := [some (.ref 141), some (.int x1), some (.int x2)]) (S' := [.int (-1 : Int32), .int (M3.1 141 41)]) (M' := M3) okX9_wax rfl ?_
    refine go_br okX9_wax rfl (fun hp => ?_) (fun hp => ?_)
    · have h := gq_pos hp h
      refine go_rn 2 (pc' := 39) (L' := [some (.ref 141), some (.int x1), some (.int x2)]) (S' := [.int (-1 : Int32)]) (M' := M3) okX9_wax rfl ?_
      exact go_iret (reX9_wax _ (by decide)) rfl (k0 (-1 : Int32) M3 h)
    · have h := gq_neg hp h
      refine go_rn 1 (pc' := 36) (L' := [some (.ref 141), some (.int x1), some (.int x2)]) (S' := [.ref 141]) (M' := M3) okX9_wax rfl ?_
      refine go_ck okX9_wax rfl (gOb_c rfl) ?_
      exact go_iret (reX9_wax _ (by decide)) rfl (k0 (M3.1 141 42) M3 h)
def fX9_wax_0 (x1 : Int32) (x2 : Int32) (M : gMem) : Option (Int32 × gMem) :=
  fX9_wax_8 x1 x2 x2 x1 (gSI M 141 0 (0 : Int32))
set_option maxRecDepth 100000 in
theorem CX9_wax_0 {G : gG} {d : Nat} {Z : Option Value → gMem → Prop} (hd : 7 ≤ d) (x1 : Int32) (x2 : Int32) (M : gMem) (P : Int32 × gMem → Prop) (k0 : ∀ (r : Int32) (N : gMem), P (r, N) → Z (some (.int r)) N) (h : gOKq (fX9_wax_0 x1 x2 M) P) : gGo G YX9_wax d Z 0 [some (.ref 141), some (.int x1), some (.int x2)] [] M := by
  unfold fX9_wax_0 at h
  refine go_rn 2 (pc' := 2) (L' := [some (.ref 141), some (.int x1), some (.int x2)]) (S' := [.int (0 : Int32), .ref 141]) (M' := M) okX9_wax rfl ?_
  refine go_ck okX9_wax rfl (gOb_c rfl) ?_
  refine go_rn 3 (pc' := 8) (L' := [some (.ref 141), some (.int x1), some (.int x2)]) (S' := [.int x2, .int x1, .ref 141]) (M' := (gSI M 141 0 (0 : Int32))) okX9_wax rfl ?_
  exact go_wk (CX9_wax_8 hd x1 x2 x2 x1 (gSI M 141 0 (0 : Int32)) P k0 h) ⟨rfl, rfl, rfl, True.intro⟩
def fX9_wax (a1 : Int32) (a2 : Int32) (M : gMem) : Option (Int32 × gMem) := fX9_wax_0 a1 a2 M
theorem SX9_wax {G : gG} (a1 : Int32) (a2 : Int32) (M : gMem) {r : Int32} {N : gMem} (h : fX9_wax a1 a2 M = some (r, N)) : gRun G YX9_wax 7 [.ref 141, .int a1, .int a2] M (fun r' N' => r' = some (.int r) ∧ N' = N) := gRun_in (by decide +kernel) rfl (fun d hd => go_wk (CX9_wax_0 hd a1 a2 M (fun p => p = (r, N)) (fun r N hh => by cases hh; exact ⟨rfl, rfl⟩) (gq_of h)) ⟨rfl, rfl, rfl, True.intro⟩)
def fX9_guardsOf_51 (x1 : Int32) (x2 : Int32) (x3 : Int32) (M : gMem) : Option (Sum (Int32 × Int32 × gMem) (Int32 × gMem)) :=
  gB0 (fX9_runs_ M) (fun M1 => if gIx 1 157 x1 = true then if (M1.1 157 (Int32.toNatClampNeg x1)) = (-1 : Int32) then some (.inl (x3, (x3 + 1), M1)) else some (.inl (x2, (x3 + 1), M1)) else none)
set_option maxRecDepth 100000 in
theorem CX9_guardsOf_51 {G : gG} {d : Nat} {Z : Option Value → gMem → Prop} (hd : 7 ≤ d) (x1 : Int32) (x2 : Int32) (x3 : Int32) (M : gMem) (P : Sum (Int32 × Int32 × gMem) (Int32 × gMem) → Prop) (k0 : ∀ (r : Int32) (N : gMem), P (.inr (r, N)) → Z (some (.int r)) N) (k1 : ∀ (x2 : Int32) (x3 : Int32) (M : gMem), P (.inl (x2, x3, M)) → gGo G YX9_guardsOf d Z 4 [some (.ref 141), some (.int x1), some (.int x2), some (.int x3)] [] M) (h : gOKq (fX9_guardsOf_51 x1 x2 x3 M) P) : gGo G YX9_guardsOf d Z 51 [some (.ref 141), some (.int x1), some (.int x2), some (.int x3)] [.ref 141] M := by
  unfold fX9_guardsOf_51 at h
  obtain ⟨M1, e2, h⟩ := gB0_ok h
  refine go_call1 ocX9_guardsOf rfl rfl (gOb_c rfl) rfl (SX9_runs_ M e2) (Nat.lt_of_lt_of_le (by decide) hd) ?_
  refine go_rn 1 (pc' := 55) (L' := [some (.ref 141), some (.int x1), some (.int x2), some (.int x3)]) (S' := [.ref 141]) (M' := M1) okX9_guardsOf rfl ?_
  refine go_ck okX9_guardsOf rfl (gOb_c rfl) ?_
  refine go_rn 1 (pc' := 59) (L' := [some (.ref 141), some (.int x1), some (.int x2), some (.int x3)]) (S' := [.int x1, .ref 157]) (M' := M1) okX9_guardsOf rfl ?_
  obtain ⟨c3, h⟩ := gq_if h
  refine go_ck okX9_guardsOf rfl c3 ?_
  refine go_rn 1 (pc' := 61) (L' := [some (.ref 141), some (.int x1), some (.int x2), some (.int x3)]) (S' := [.int (-1 : Int32), .int (M1.1 157 (Int32.toNatClampNeg x1))]) (M' := M1) okX9_guardsOf rfl ?_
  refine go_br okX9_guardsOf rfl (fun hp => ?_) (fun hp => ?_)
  · have h := gq_pos hp h
    refine go_rn 4 (pc' := 4) (L' := [some (.ref 141), some (.int x1), some (.int x3), some (.int (x3 + 1))]) (S' := []) (M' := M1) okX9_guardsOf rfl ?_
    exact go_wk (k1 (x3) ((x3 + 1)) M1 h) ⟨rfl, rfl, rfl, rfl, True.intro⟩
  · have h := gq_neg hp h
    refine go_rn 2 (pc' := 4) (L' := [some (.ref 141), some (.int x1), some (.int x2), some (.int (x3 + 1))]) (S' := []) (M' := M1) okX9_guardsOf rfl ?_
    exact go_wk (k1 (x2) ((x3 + 1)) M1 h) ⟨rfl, rfl, rfl, rfl, True.intro⟩
def fX9_guardsOf_41 (x1 : Int32) (x2 : Int32) (x3 : Int32) (M : gMem) : Option (Sum (Int32 × Int32 × gMem) (Int32 × gMem)) :=
  gB0 (fX9_lays M) (fun M1 => fX9_guardsOf_51 x1 x2 x3 (gSI M1 141 27 x3))
set_option maxRecDepth 100000 in
theorem CX9_guardsOf_41 {G : gG} {d : Nat} {Z : Option Value → gMem → Prop} (hd : 7 ≤ d) (x1 : Int32) (x2 : Int32) (x3 : Int32) (M : gMem) (P : Sum (Int32 × Int32 × gMem) (Int32 × gMem) → Prop) (k0 : ∀ (r : Int32) (N : gMem), P (.inr (r, N)) → Z (some (.int r)) N) (k1 : ∀ (x2 : Int32) (x3 : Int32) (M : gMem), P (.inl (x2, x3, M)) → gGo G YX9_guardsOf d Z 4 [some (.ref 141), some (.int x1), some (.int x2), some (.int x3)] [] M) (h : gOKq (fX9_guardsOf_41 x1 x2 x3 M) P) : gGo G YX9_guardsOf d Z 41 [some (.ref 141), some (.int x1), some (.int x2), some (.int x3)] [] M := by
  unfold fX9_guardsOf_41 at h
  refine go_rn 1 (pc' := 42) (L' := [some (.ref 141), some (.int x1), some (.int x2), some (.int x3)]) (S' := [.ref 141]) (M' := M) okX9_guardsOf rfl ?_
  obtain ⟨M1, e2, h⟩ := gB0_ok h
  refine go_call1 ocX9_guardsOf rfl rfl (gOb_c rfl) rfl (SX9_lays M e2) (Nat.lt_of_lt_of_le (by decide) hd) ?_
  refine go_rn 2 (pc' := 47) (L' := [some (.ref 141), some (.int x1), some (.int x2), some (.int x3)]) (S' := [.int x3, .ref 141]) (M' := M1) okX9_guardsOf rfl ?_
  refine go_ck okX9_guardsOf rfl (gOb_c rfl) ?_
  refine go_rn 1 (pc' := 51) (L' := [some (.ref 141), some (.int x1), some (.int x2), some (.int x3)]) (S' := [.ref 141]) (M' := (gSI M1 141 27 x3)) okX9_guardsOf rfl ?_
  exact go_wk (CX9_guardsOf_51 hd x1 x2 x3 (gSI M1 141 27 x3) P k0 k1 h) ⟨rfl, rfl, rfl, rfl, True.intro⟩
def fX9_guardsOf_4 (x1 : Int32) (x2 : Int32) (x3 : Int32) (M : gMem) : Option (Sum (Int32 × Int32 × gMem) (Int32 × gMem)) :=
  gB0 (fX9_people M) (fun r1 => if ((1 : Int32) <<< (r1 &&& 31)) ≤ x3 then some (.inr (x2, M)) else gB0 (fX9_isBit x3 x1 M) (fun r3 => if r3 = 0 then if x2 = (-1 : Int32) then fX9_guardsOf_41 x1 x2 x3 M else gB0 (fX9_sizeOf x3 M) (fun r5 => gB0 (fX9_sizeOf x2 M) (fun r7 => if r5 < r7 then fX9_guardsOf_41 x1 x2 x3 M else some (.inl (x2, (x3 + 1), M)))) else some (.inl (x2, (x3 + 1), M))))
set_option maxRecDepth 100000 in
theorem CX9_guardsOf_4 {G : gG} {d : Nat} {Z : Option Value → gMem → Prop} (hd : 7 ≤ d) (x1 : Int32) (x2 : Int32) (x3 : Int32) (M : gMem) (P : Sum (Int32 × Int32 × gMem) (Int32 × gMem) → Prop) (k0 : ∀ (r : Int32) (N : gMem), P (.inr (r, N)) → Z (some (.int r)) N) (k1 : ∀ (x2 : Int32) (x3 : Int32) (M : gMem), P (.inl (x2, x3, M)) → gGo G YX9_guardsOf d Z 4 [some (.ref 141), some (.int x1), some (.int x2), some (.int x3)] [] M) (h : gOKq (fX9_guardsOf_4 x1 x2 x3 M) P) : gGo G YX9_guardsOf d Z 4 [some (.ref 141), some (.int x1), some (.int x2), some (.int x3)] [] M := by
  unfold fX9_guardsOf_4 at h
  refine go_rn 3 (pc' := 7) (L' := [some (.ref 141), some (.int x1), some (.int x2), some (.int x3)]) (S' := [.ref 141, .int (1 : Int32), .int x3]) (M' := M) okX9_guardsOf rfl ?_
  obtain ⟨r1, e2, h⟩ := gB0_ok h
  refine go_call1 ocX9_guardsOf rfl rfl (gOb_c rfl) rfl (SX9_people M e2) (Nat.lt_of_lt_of_le (by decide) hd) ?_
  refine go_rn 1 (pc' := 11) (L' := [some (.ref 141), some (.int x1), some (.int x2), some (.int x3)]) (S' := [.int ((1 : Int32) <<< (r1 &&& 31)), .int x3]) (M' := M) okX9_guardsOf rfl ?_
  refine go_br okX9_guardsOf rfl (fun hp => ?_) (fun hp => ?_)
  · have h := gq_pos hp h
    refine go_rn 1 (pc' := 73) (L' := [some (.ref 141), some (.int x1), some (.int x2), some (.int x3)]) (S' := [.int x2]) (M' := M) okX9_guardsOf rfl ?_
    exact go_iret (reX9_guardsOf _ (by decide)) rfl (k0 x2 M h)
  · have h := gq_neg hp h
    refine go_rn 2 (pc' := 16) (L' := [some (.ref 141), some (.int x1), some (.int x2), some (.int x3)]) (S' := [.int x1, .int x3]) (M' := M) okX9_guardsOf rfl ?_
    obtain ⟨r3, e4, h⟩ := gB0_ok h
    refine go_call1 ocX9_guardsOf rfl rfl rfl rfl (SX9_isBit x3 x1 M e4) (Nat.lt_of_lt_of_le (by decide) hd) ?_
    refine go_br okX9_guardsOf rfl (fun hp => ?_) (fun hp => ?_)
    · have h := gq_pos hp h
      refine go_rn 2 (pc' := 24) (L' := [some (.ref 141), some (.int x1), some (.int x2), some (.int x3)]) (S' := [.int (-1 : Int32), .int x2]) (M' := M) okX9_guardsOf rfl ?_
      refine go_br okX9_guardsOf rfl (fun hp => ?_) (fun hp => ?_)
      · have h := gq_pos hp h
        exact go_wk (CX9_guardsOf_41 hd x1 x2 x3 M P k0 k1 h) ⟨rfl, rfl, rfl, rfl, True.intro⟩
      · have h := gq_neg hp h
        refine go_rn 1 (pc' := 28) (L' := [some (.ref 141), some (.int x1), some (.int x2), some (.int x3)]) (S' := [.int x3]) (M' := M) okX9_guardsOf rfl ?_
        obtain ⟨r5, e6, h⟩ := gB0_ok h
        refine go_call1 ocX9_guardsOf rfl rfl rfl rfl (SX9_sizeOf x3 M e6) (Nat.lt_of_lt_of_le (by decide) hd) ?_
        refine go_rn 1 (pc' := 32) (L' := [some (.ref 141), some (.int x1), some (.int x2), some (.int x3)]) (S' := [.int x2, .int r5]) (M' := M) okX9_guardsOf rfl ?_
        obtain ⟨r7, e8, h⟩ := gB0_ok h
        refine go_call1 ocX9_guardsOf rfl rfl rfl rfl (SX9_sizeOf x2 M e8) (Nat.lt_of_lt_of_le (by decide) hd) ?_
        refine go_br okX9_guardsOf rfl (fun hp => ?_) (fun hp => ?_)
        · have h := gq_pos hp h
          exact go_wk (CX9_guardsOf_41 hd x1 x2 x3 M P k0 k1 h) ⟨rfl, rfl, rfl, rfl, True.intro⟩
        · have h := gq_neg hp h
          refine go_rn 3 (pc' := 4) (L' := [some (.ref 141), some (.int x1), some (.int x2), some (.int (x3 + 1))]) (S' := []) (M' := M) okX9_guardsOf rfl ?_
          exact go_wk (k1 (x2) ((x3 + 1)) M h) ⟨rfl, rfl, rfl, rfl, True.intro⟩
    · have h := gq_neg hp h
      refine go_rn 2 (pc' := 4) (L' := [some (.ref 141), some (.int x1), some (.int x2), some (.int (x3 + 1))]) (S' := []) (M' := M) okX9_guardsOf rfl ?_
      exact go_wk (k1 (x2) ((x3 + 1)) M h) ⟨rfl, rfl, rfl, rfl, True.intro⟩
def fX9_guardsOf_4h (x1 : Int32) (x2 : Int32) (x3 : Int32) (M : gMem) : Option (Int32 × gMem) :=
  gLp (fun s : Int32 × Int32 × gMem => fX9_guardsOf_4 x1 (s.1) (s.2.1) s.2.2) gFu (x2, x3, M)
set_option maxRecDepth 100000 in
theorem CX9_guardsOf_4h {G : gG} {d : Nat} {Z : Option Value → gMem → Prop} (hd : 7 ≤ d) (x1 : Int32) (x2 : Int32) (x3 : Int32) (M : gMem) (P : Int32 × gMem → Prop) (k0 : ∀ (r : Int32) (N : gMem), P (r, N) → Z (some (.int r)) N) (h : gOKq (fX9_guardsOf_4h x1 x2 x3 M) P) : gGo G YX9_guardsOf d Z 4 [some (.ref 141), some (.int x1), some (.int x2), some (.int x3)] [] M :=
  gLp_go (K := fun s : Int32 × Int32 × gMem => gGo G YX9_guardsOf d Z 4 [some (.ref 141), some (.int x1), some (.int s.1), some (.int s.2.1)] [] s.2.2) (P := P) (fun s hs => CX9_guardsOf_4 hd (x1) (s.1) (s.2.1) (s.2.2) (Sum.elim (fun s : Int32 × Int32 × gMem => gGo G YX9_guardsOf d Z 4 [some (.ref 141), some (.int x1), some (.int s.1), some (.int s.2.1)] [] s.2.2) P) k0 (fun x2 x3 M hh => hh) hs) gFu (x2, x3, M) h
def fX9_guardsOf_0 (x1 : Int32) (M : gMem) : Option (Int32 × gMem) :=
  fX9_guardsOf_4h x1 (-1 : Int32) (0 : Int32) M
set_option maxRecDepth 100000 in
theorem CX9_guardsOf_0 {G : gG} {d : Nat} {Z : Option Value → gMem → Prop} (hd : 7 ≤ d) (x1 : Int32) (M : gMem) (P : Int32 × gMem → Prop) (k0 : ∀ (r : Int32) (N : gMem), P (r, N) → Z (some (.int r)) N) (h : gOKq (fX9_guardsOf_0 x1 M) P) : gGo G YX9_guardsOf d Z 0 [some (.ref 141), some (.int x1), none, none] [] M := by
  unfold fX9_guardsOf_0 at h
  refine go_rn 4 (pc' := 4) (L' := [some (.ref 141), some (.int x1), some (.int (-1 : Int32)), some (.int (0 : Int32))]) (S' := []) (M' := M) okX9_guardsOf rfl ?_
  exact go_wk (CX9_guardsOf_4h hd x1 (-1 : Int32) (0 : Int32) M P k0 h) ⟨rfl, rfl, rfl, rfl, True.intro⟩
def fX9_guardsOf (a1 : Int32) (M : gMem) : Option (Int32 × gMem) := fX9_guardsOf_0 a1 M
theorem SX9_guardsOf {G : gG} (a1 : Int32) (M : gMem) {r : Int32} {N : gMem} (h : fX9_guardsOf a1 M = some (r, N)) : gRun G YX9_guardsOf 7 [.ref 141, .int a1] M (fun r' N' => r' = some (.int r) ∧ N' = N) := gRun_in (by decide +kernel) rfl (fun d hd => go_wk (CX9_guardsOf_0 hd a1 M (fun p => p = (r, N)) (fun r N hh => by cases hh; exact ⟨rfl, rfl⟩) (gq_of h)) ⟨rfl, rfl, True.intro⟩)
def fX9_guards_8 (x1 : Int32) (s0 : Int64) (M : gMem) : Option (Int32 × gMem) :=
  gB0 (fX9_isPerson s0 M) (fun r1 => if r1 = 0 then some ((-2 : Int32), M) else gBp (fX9_guardsOf x1 M) (fun r3 M4 => if r3 = (-1 : Int32) then some ((-1 : Int32), M4) else gB0 (fX9_sizeOf r3 M4) (fun r6 => some (r6, M4))))
set_option maxRecDepth 100000 in
theorem CX9_guards_8 {G : gG} {d : Nat} {Z : Option Value → gMem → Prop} (hd : 8 ≤ d) (x1 : Int32) (s0 : Int64) (M : gMem) (P : Int32 × gMem → Prop) (k0 : ∀ (r : Int32) (N : gMem), P (r, N) → Z (some (.int r)) N) (h : gOKq (fX9_guards_8 x1 s0 M) P) : gGo G YX9_guards d Z 8 [some (.ref 141), some (.int x1), none] [.long s0, .ref 141] M := by
  unfold fX9_guards_8 at h
  obtain ⟨r1, e2, h⟩ := gB0_ok h
  refine go_call1 ocX9_guards rfl rfl (gOb_c rfl) rfl (SX9_isPerson s0 M e2) (Nat.lt_of_lt_of_le (by decide) hd) ?_
  refine go_br okX9_guards rfl (fun hp => ?_) (fun hp => ?_)
  · have h := gq_pos hp h
    refine go_rn 1 (pc' := 16) (L' := [some (.ref 141), some (.int x1), none]) (S' := [.int (-2 : Int32)]) (M' := M) okX9_guards rfl ?_
    exact go_iret (reX9_guards _ (by decide)) rfl (k0 (-2 : Int32) M h)
  · have h := gq_neg hp h
    refine go_rn 2 (pc' := 19) (L' := [some (.ref 141), some (.int x1), none]) (S' := [.int x1, .ref 141]) (M' := M) okX9_guards rfl ?_
    obtain ⟨r3, M4, e5, h⟩ := gBp_ok h
    refine go_call1 ocX9_guards rfl rfl (gOb_c rfl) rfl (SX9_guardsOf x1 M e5) (Nat.lt_of_lt_of_le (by decide) hd) ?_
    refine go_rn 3 (pc' := 25) (L' := [some (.ref 141), some (.int x1), some (.int r3)]) (S' := [.int (-1 : Int32), .int r3]) (M' := M4) okX9_guards rfl ?_
    refine go_br okX9_guards rfl (fun hp => ?_) (fun hp => ?_)
    · have h := gq_pos hp h
      refine go_rn 2 (pc' := 36) (L' := [some (.ref 141), some (.int x1), some (.int r3)]) (S' := [.int (-1 : Int32)]) (M' := M4) okX9_guards rfl ?_
      exact go_iret (reX9_guards _ (by decide)) rfl (k0 (-1 : Int32) M4 h)
    · have h := gq_neg hp h
      refine go_rn 1 (pc' := 33) (L' := [some (.ref 141), some (.int x1), some (.int r3)]) (S' := [.int r3]) (M' := M4) okX9_guards rfl ?_
      obtain ⟨r6, e7, h⟩ := gB0_ok h
      refine go_call1 ocX9_guards rfl rfl rfl rfl (SX9_sizeOf r3 M4 e7) (Nat.lt_of_lt_of_le (by decide) hd) ?_
      exact go_iret (reX9_guards _ (by decide)) rfl (k0 r6 M4 h)
def fX9_guards_0 (x1 : Int32) (M : gMem) : Option (Int32 × gMem) :=
  fX9_guards_8 x1 (Int32.toInt64 x1) (gSI M 141 0 (0 : Int32))
set_option maxRecDepth 100000 in
theorem CX9_guards_0 {G : gG} {d : Nat} {Z : Option Value → gMem → Prop} (hd : 8 ≤ d) (x1 : Int32) (M : gMem) (P : Int32 × gMem → Prop) (k0 : ∀ (r : Int32) (N : gMem), P (r, N) → Z (some (.int r)) N) (h : gOKq (fX9_guards_0 x1 M) P) : gGo G YX9_guards d Z 0 [some (.ref 141), some (.int x1), none] [] M := by
  unfold fX9_guards_0 at h
  refine go_rn 2 (pc' := 2) (L' := [some (.ref 141), some (.int x1), none]) (S' := [.int (0 : Int32), .ref 141]) (M' := M) okX9_guards rfl ?_
  refine go_ck okX9_guards rfl (gOb_c rfl) ?_
  refine go_rn 3 (pc' := 8) (L' := [some (.ref 141), some (.int x1), none]) (S' := [.long (Int32.toInt64 x1), .ref 141]) (M' := (gSI M 141 0 (0 : Int32))) okX9_guards rfl ?_
  exact go_wk (CX9_guards_8 hd x1 (Int32.toInt64 x1) (gSI M 141 0 (0 : Int32)) P k0 h) ⟨rfl, rfl, True.intro⟩
def fX9_guards (a1 : Int32) (M : gMem) : Option (Int32 × gMem) := fX9_guards_0 a1 M
theorem SX9_guards {G : gG} (a1 : Int32) (M : gMem) {r : Int32} {N : gMem} (h : fX9_guards a1 M = some (r, N)) : gRun G YX9_guards 8 [.ref 141, .int a1] M (fun r' N' => r' = some (.int r) ∧ N' = N) := gRun_in (by decide +kernel) rfl (fun d hd => go_wk (CX9_guards_0 hd a1 M (fun p => p = (r, N)) (fun r N hh => by cases hh; exact ⟨rfl, rfl⟩) (gq_of h)) ⟨rfl, rfl, True.intro⟩)
def fX9_guarded_8 (x1 : Int32) (s0 : Int64) (M : gMem) : Option (Int32 × gMem) :=
  gB0 (fX9_isPerson s0 M) (fun r1 => if r1 = 0 then some ((-2 : Int32), M) else gBp (fX9_guardsOf x1 M) (fun r3 M4 => some (r3, M4)))
set_option maxRecDepth 100000 in
theorem CX9_guarded_8 {G : gG} {d : Nat} {Z : Option Value → gMem → Prop} (hd : 8 ≤ d) (x1 : Int32) (s0 : Int64) (M : gMem) (P : Int32 × gMem → Prop) (k0 : ∀ (r : Int32) (N : gMem), P (r, N) → Z (some (.int r)) N) (h : gOKq (fX9_guarded_8 x1 s0 M) P) : gGo G YX9_guarded d Z 8 [some (.ref 141), some (.int x1)] [.long s0, .ref 141] M := by
  unfold fX9_guarded_8 at h
  obtain ⟨r1, e2, h⟩ := gB0_ok h
  refine go_call1 ocX9_guarded rfl rfl (gOb_c rfl) rfl (SX9_isPerson s0 M e2) (Nat.lt_of_lt_of_le (by decide) hd) ?_
  refine go_br okX9_guarded rfl (fun hp => ?_) (fun hp => ?_)
  · have h := gq_pos hp h
    refine go_rn 1 (pc' := 24) (L' := [some (.ref 141), some (.int x1)]) (S' := [.int (-2 : Int32)]) (M' := M) okX9_guarded rfl ?_
    exact go_iret (reX9_guarded _ (by decide)) rfl (k0 (-2 : Int32) M h)
  · have h := gq_neg hp h
    refine go_rn 2 (pc' := 16) (L' := [some (.ref 141), some (.int x1)]) (S' := [.int x1, .ref 141]) (M' := M) okX9_guarded rfl ?_
    obtain ⟨r3, M4, e5, h⟩ := gBp_ok h
    refine go_call1 ocX9_guarded rfl rfl (gOb_c rfl) rfl (SX9_guardsOf x1 M e5) (Nat.lt_of_lt_of_le (by decide) hd) ?_
    refine go_rn 1 (pc' := 24) (L' := [some (.ref 141), some (.int x1)]) (S' := [.int r3]) (M' := M4) okX9_guarded rfl ?_
    exact go_iret (reX9_guarded _ (by decide)) rfl (k0 r3 M4 h)
def fX9_guarded_0 (x1 : Int32) (M : gMem) : Option (Int32 × gMem) :=
  fX9_guarded_8 x1 (Int32.toInt64 x1) (gSI M 141 0 (0 : Int32))
set_option maxRecDepth 100000 in
theorem CX9_guarded_0 {G : gG} {d : Nat} {Z : Option Value → gMem → Prop} (hd : 8 ≤ d) (x1 : Int32) (M : gMem) (P : Int32 × gMem → Prop) (k0 : ∀ (r : Int32) (N : gMem), P (r, N) → Z (some (.int r)) N) (h : gOKq (fX9_guarded_0 x1 M) P) : gGo G YX9_guarded d Z 0 [some (.ref 141), some (.int x1)] [] M := by
  unfold fX9_guarded_0 at h
  refine go_rn 2 (pc' := 2) (L' := [some (.ref 141), some (.int x1)]) (S' := [.int (0 : Int32), .ref 141]) (M' := M) okX9_guarded rfl ?_
  refine go_ck okX9_guarded rfl (gOb_c rfl) ?_
  refine go_rn 3 (pc' := 8) (L' := [some (.ref 141), some (.int x1)]) (S' := [.long (Int32.toInt64 x1), .ref 141]) (M' := (gSI M 141 0 (0 : Int32))) okX9_guarded rfl ?_
  exact go_wk (CX9_guarded_8 hd x1 (Int32.toInt64 x1) (gSI M 141 0 (0 : Int32)) P k0 h) ⟨rfl, rfl, True.intro⟩
def fX9_guarded (a1 : Int32) (M : gMem) : Option (Int32 × gMem) := fX9_guarded_0 a1 M
theorem SX9_guarded {G : gG} (a1 : Int32) (M : gMem) {r : Int32} {N : gMem} (h : fX9_guarded a1 M = some (r, N)) : gRun G YX9_guarded 8 [.ref 141, .int a1] M (fun r' N' => r' = some (.int r) ∧ N' = N) := gRun_in (by decide +kernel) rfl (fun d hd => go_wk (CX9_guarded_0 hd a1 M (fun p => p = (r, N)) (fun r N hh => by cases hh; exact ⟨rfl, rfl⟩) (gq_of h)) ⟨rfl, rfl, True.intro⟩)
def fX9_coldsAll_4 (x1 : Int32) (x2 : Int32) (M : gMem) : Option (Sum (Int32 × Int32) (Int32)) :=
  gB0 (fX9_people M) (fun r1 => if r1 ≤ x2 then some (.inr x1) else if gIx 1 157 x2 = true then if (M.1 157 (Int32.toNatClampNeg x2)) = (-1 : Int32) then some (.inl ((x1 + (0 : Int32)), (x2 + 1))) else some (.inl ((x1 + (1 : Int32)), (x2 + 1))) else none)
set_option maxRecDepth 100000 in
theorem CX9_coldsAll_4 {G : gG} {d : Nat} {Z : Option Value → gMem → Prop} (hd : 1 ≤ d) (x1 : Int32) (x2 : Int32) (M : gMem) (P : Sum (Int32 × Int32) (Int32) → Prop) (k0 : ∀ (r : Int32), P (.inr r) → Z (some (.int r)) M) (k1 : ∀ (x1 : Int32) (x2 : Int32), P (.inl (x1, x2)) → gGo G YX9_coldsAll d Z 4 [some (.ref 141), some (.int x1), some (.int x2)] [] M) (h : gOKq (fX9_coldsAll_4 x1 x2 M) P) : gGo G YX9_coldsAll d Z 4 [some (.ref 141), some (.int x1), some (.int x2)] [] M := by
  unfold fX9_coldsAll_4 at h
  refine go_rn 2 (pc' := 6) (L' := [some (.ref 141), some (.int x1), some (.int x2)]) (S' := [.ref 141, .int x2]) (M' := M) okX9_coldsAll rfl ?_
  obtain ⟨r1, e2, h⟩ := gB0_ok h
  refine go_call1 ocX9_coldsAll rfl rfl (gOb_c rfl) rfl (SX9_people M e2) (Nat.lt_of_lt_of_le (by decide) hd) ?_
  refine go_br okX9_coldsAll rfl (fun hp => ?_) (fun hp => ?_)
  · have h := gq_pos hp h
    refine go_rn 1 (pc' := 37) (L' := [some (.ref 141), some (.int x1), some (.int x2)]) (S' := [.int x1]) (M' := M) okX9_coldsAll rfl ?_
    exact go_iret (reX9_coldsAll _ (by decide)) rfl (k0 x1 h)
  · have h := gq_neg hp h
    refine go_rn 2 (pc' := 14) (L' := [some (.ref 141), some (.int x1), some (.int x2)]) (S' := [.ref 141, .int x1]) (M' := M) okX9_coldsAll rfl ?_
    refine go_ck okX9_coldsAll rfl (gOb_c rfl) ?_
    refine go_rn 1 (pc' := 18) (L' := [some (.ref 141), some (.int x1), some (.int x2)]) (S' := [.int x2, .ref 157, .int x1]) (M' := M) okX9_coldsAll rfl ?_
    obtain ⟨c3, h⟩ := gq_if h
    refine go_ck okX9_coldsAll rfl c3 ?_
    refine go_rn 1 (pc' := 20) (L' := [some (.ref 141), some (.int x1), some (.int x2)]) (S' := [.int (-1 : Int32), .int (M.1 157 (Int32.toNatClampNeg x2)), .int x1]) (M' := M) okX9_coldsAll rfl ?_
    refine go_br okX9_coldsAll rfl (fun hp => ?_) (fun hp => ?_)
    · have h := gq_pos hp h
      refine go_rn 6 (pc' := 4) (L' := [some (.ref 141), some (.int (x1 + (0 : Int32))), some (.int (x2 + 1))]) (S' := []) (M' := M) okX9_coldsAll rfl ?_
      exact go_wk (k1 ((x1 + (0 : Int32))) ((x2 + 1)) h) ⟨rfl, rfl, rfl, True.intro⟩
    · have h := gq_neg hp h
      refine go_rn 5 (pc' := 4) (L' := [some (.ref 141), some (.int (x1 + (1 : Int32))), some (.int (x2 + 1))]) (S' := []) (M' := M) okX9_coldsAll rfl ?_
      exact go_wk (k1 ((x1 + (1 : Int32))) ((x2 + 1)) h) ⟨rfl, rfl, rfl, True.intro⟩
def fX9_coldsAll_4h (x1 : Int32) (x2 : Int32) (M : gMem) : Option (Int32) :=
  gLp (fun s : Int32 × Int32 => fX9_coldsAll_4 (s.1) (s.2) M) gFu (x1, x2)
set_option maxRecDepth 100000 in
theorem CX9_coldsAll_4h {G : gG} {d : Nat} {Z : Option Value → gMem → Prop} (hd : 1 ≤ d) (x1 : Int32) (x2 : Int32) (M : gMem) (P : Int32 → Prop) (k0 : ∀ (r : Int32), P r → Z (some (.int r)) M) (h : gOKq (fX9_coldsAll_4h x1 x2 M) P) : gGo G YX9_coldsAll d Z 4 [some (.ref 141), some (.int x1), some (.int x2)] [] M :=
  gLp_go (K := fun s : Int32 × Int32 => gGo G YX9_coldsAll d Z 4 [some (.ref 141), some (.int s.1), some (.int s.2)] [] M) (P := P) (fun s hs => CX9_coldsAll_4 hd (s.1) (s.2) M (Sum.elim (fun s : Int32 × Int32 => gGo G YX9_coldsAll d Z 4 [some (.ref 141), some (.int s.1), some (.int s.2)] [] M) P) k0 (fun x1 x2 hh => hh) hs) gFu (x1, x2) h
def fX9_coldsAll_0 (M : gMem) : Option (Int32) :=
  fX9_coldsAll_4h (0 : Int32) (0 : Int32) M
set_option maxRecDepth 100000 in
theorem CX9_coldsAll_0 {G : gG} {d : Nat} {Z : Option Value → gMem → Prop} (hd : 1 ≤ d) (M : gMem) (P : Int32 → Prop) (k0 : ∀ (r : Int32), P r → Z (some (.int r)) M) (h : gOKq (fX9_coldsAll_0 M) P) : gGo G YX9_coldsAll d Z 0 [some (.ref 141), none, none] [] M := by
  unfold fX9_coldsAll_0 at h
  refine go_rn 4 (pc' := 4) (L' := [some (.ref 141), some (.int (0 : Int32)), some (.int (0 : Int32))]) (S' := []) (M' := M) okX9_coldsAll rfl ?_
  exact go_wk (CX9_coldsAll_4h hd (0 : Int32) (0 : Int32) M P k0 h) ⟨rfl, rfl, rfl, True.intro⟩
def fX9_coldsAll (M : gMem) : Option (Int32) := fX9_coldsAll_0 M
theorem SX9_coldsAll {G : gG} (M : gMem) {r : Int32} (h : fX9_coldsAll M = some r) : gRun G YX9_coldsAll 1 [.ref 141] M (fun r' N' => r' = some (.int r) ∧ N' = M) := gRun_in (by decide +kernel) rfl (fun d hd => go_wk (CX9_coldsAll_0 hd M (fun p => p = r) (fun r hh => ⟨congrArg (fun z => some (Value.int z)) hh, rfl⟩) (gq_of h)) ⟨rfl, True.intro⟩)
def fX9_sneezer_39 (x1 : Int32) (x2 : Int32) (x3 : Int32) (M : gMem) : Option (Sum (Int32 × Int32 × Int32 × gMem) (Int32 × gMem)) :=
  gB0 (fX9_runs_ M) (fun M1 => gB0 (fX9_coldsAll M1) (fun r3 => if x2 < r3 then gB0 (fX9_coldsAll M1) (fun r5 => some (.inl (x3, r5, (x3 + 1), M1))) else some (.inl (x1, x2, (x3 + 1), M1))))
set_option maxRecDepth 100000 in
theorem CX9_sneezer_39 {G : gG} {d : Nat} {Z : Option Value → gMem → Prop} (hd : 7 ≤ d) (x1 : Int32) (x2 : Int32) (x3 : Int32) (M : gMem) (P : Sum (Int32 × Int32 × Int32 × gMem) (Int32 × gMem) → Prop) (k0 : ∀ (r : Int32) (N : gMem), P (.inr (r, N)) → Z (some (.int r)) N) (k1 : ∀ (x1 : Int32) (x2 : Int32) (x3 : Int32) (M : gMem), P (.inl (x1, x2, x3, M)) → gGo G YX9_sneezer d Z 21 [some (.ref 141), some (.int x1), some (.int x2), some (.int x3)] [] M) (h : gOKq (fX9_sneezer_39 x1 x2 x3 M) P) : gGo G YX9_sneezer d Z 39 [some (.ref 141), some (.int x1), some (.int x2), some (.int x3)] [.ref 141] M := by
  unfold fX9_sneezer_39 at h
  obtain ⟨M1, e2, h⟩ := gB0_ok h
  refine go_call1 ocX9_sneezer rfl rfl (gOb_c rfl) rfl (SX9_runs_ M e2) (Nat.lt_of_lt_of_le (by decide) hd) ?_
  refine go_rn 1 (pc' := 43) (L' := [some (.ref 141), some (.int x1), some (.int x2), some (.int x3)]) (S' := [.ref 141]) (M' := M1) okX9_sneezer rfl ?_
  obtain ⟨r3, e4, h⟩ := gB0_ok h
  refine go_call1 ocX9_sneezer rfl rfl (gOb_c rfl) rfl (SX9_coldsAll M1 e4) (Nat.lt_of_lt_of_le (by decide) hd) ?_
  refine go_rn 1 (pc' := 47) (L' := [some (.ref 141), some (.int x1), some (.int x2), some (.int x3)]) (S' := [.int x2, .int r3]) (M' := M1) okX9_sneezer rfl ?_
  refine go_br okX9_sneezer rfl (fun hp => ?_) (fun hp => ?_)
  · have h := gq_pos hp h
    refine go_rn 3 (pc' := 56) (L' := [some (.ref 141), some (.int x3), some (.int x2), some (.int x3)]) (S' := [.ref 141]) (M' := M1) okX9_sneezer rfl ?_
    obtain ⟨r5, e6, h⟩ := gB0_ok h
    refine go_call1 ocX9_sneezer rfl rfl (gOb_c rfl) rfl (SX9_coldsAll M1 e6) (Nat.lt_of_lt_of_le (by decide) hd) ?_
    refine go_rn 3 (pc' := 21) (L' := [some (.ref 141), some (.int x3), some (.int r5), some (.int (x3 + 1))]) (S' := []) (M' := M1) okX9_sneezer rfl ?_
    exact go_wk (k1 (x3) (r5) ((x3 + 1)) M1 h) ⟨rfl, rfl, rfl, rfl, True.intro⟩
  · have h := gq_neg hp h
    refine go_rn 3 (pc' := 21) (L' := [some (.ref 141), some (.int x1), some (.int x2), some (.int (x3 + 1))]) (S' := []) (M' := M1) okX9_sneezer rfl ?_
    exact go_wk (k1 (x1) (x2) ((x3 + 1)) M1 h) ⟨rfl, rfl, rfl, rfl, True.intro⟩
def fX9_sneezer_21 (x1 : Int32) (x2 : Int32) (x3 : Int32) (M : gMem) : Option (Sum (Int32 × Int32 × Int32 × gMem) (Int32 × gMem)) :=
  gB0 (fX9_people M) (fun r1 => if r1 ≤ x3 then some (.inr (x1, M)) else gB0 (fX9_lays M) (fun M3 => fX9_sneezer_39 x1 x2 x3 (gSI M3 141 31 x3)))
set_option maxRecDepth 100000 in
theorem CX9_sneezer_21 {G : gG} {d : Nat} {Z : Option Value → gMem → Prop} (hd : 7 ≤ d) (x1 : Int32) (x2 : Int32) (x3 : Int32) (M : gMem) (P : Sum (Int32 × Int32 × Int32 × gMem) (Int32 × gMem) → Prop) (k0 : ∀ (r : Int32) (N : gMem), P (.inr (r, N)) → Z (some (.int r)) N) (k1 : ∀ (x1 : Int32) (x2 : Int32) (x3 : Int32) (M : gMem), P (.inl (x1, x2, x3, M)) → gGo G YX9_sneezer d Z 21 [some (.ref 141), some (.int x1), some (.int x2), some (.int x3)] [] M) (h : gOKq (fX9_sneezer_21 x1 x2 x3 M) P) : gGo G YX9_sneezer d Z 21 [some (.ref 141), some (.int x1), some (.int x2), some (.int x3)] [] M := by
  unfold fX9_sneezer_21 at h
  refine go_rn 2 (pc' := 23) (L' := [some (.ref 141), some (.int x1), some (.int x2), some (.int x3)]) (S' := [.ref 141, .int x3]) (M' := M) okX9_sneezer rfl ?_
  obtain ⟨r1, e2, h⟩ := gB0_ok h
  refine go_call1 ocX9_sneezer rfl rfl (gOb_c rfl) rfl (SX9_people M e2) (Nat.lt_of_lt_of_le (by decide) hd) ?_
  refine go_br okX9_sneezer rfl (fun hp => ?_) (fun hp => ?_)
  · have h := gq_pos hp h
    refine go_rn 1 (pc' := 67) (L' := [some (.ref 141), some (.int x1), some (.int x2), some (.int x3)]) (S' := [.int x1]) (M' := M) okX9_sneezer rfl ?_
    exact go_iret (reX9_sneezer _ (by decide)) rfl (k0 x1 M h)
  · have h := gq_neg hp h
    refine go_rn 1 (pc' := 30) (L' := [some (.ref 141), some (.int x1), some (.int x2), some (.int x3)]) (S' := [.ref 141]) (M' := M) okX9_sneezer rfl ?_
    obtain ⟨M3, e4, h⟩ := gB0_ok h
    refine go_call1 ocX9_sneezer rfl rfl (gOb_c rfl) rfl (SX9_lays M e4) (Nat.lt_of_lt_of_le (by decide) hd) ?_
    refine go_rn 2 (pc' := 35) (L' := [some (.ref 141), some (.int x1), some (.int x2), some (.int x3)]) (S' := [.int x3, .ref 141]) (M' := M3) okX9_sneezer rfl ?_
    refine go_ck okX9_sneezer rfl (gOb_c rfl) ?_
    refine go_rn 1 (pc' := 39) (L' := [some (.ref 141), some (.int x1), some (.int x2), some (.int x3)]) (S' := [.ref 141]) (M' := (gSI M3 141 31 x3)) okX9_sneezer rfl ?_
    exact go_wk (CX9_sneezer_39 hd x1 x2 x3 (gSI M3 141 31 x3) P k0 k1 h) ⟨rfl, rfl, rfl, rfl, True.intro⟩
def fX9_sneezer_21h (x1 : Int32) (x2 : Int32) (x3 : Int32) (M : gMem) : Option (Int32 × gMem) :=
  gLp (fun s : Int32 × Int32 × Int32 × gMem => fX9_sneezer_21 (s.1) (s.2.1) (s.2.2.1) s.2.2.2) gFu (x1, x2, x3, M)
set_option maxRecDepth 100000 in
theorem CX9_sneezer_21h {G : gG} {d : Nat} {Z : Option Value → gMem → Prop} (hd : 7 ≤ d) (x1 : Int32) (x2 : Int32) (x3 : Int32) (M : gMem) (P : Int32 × gMem → Prop) (k0 : ∀ (r : Int32) (N : gMem), P (r, N) → Z (some (.int r)) N) (h : gOKq (fX9_sneezer_21h x1 x2 x3 M) P) : gGo G YX9_sneezer d Z 21 [some (.ref 141), some (.int x1), some (.int x2), some (.int x3)] [] M :=
  gLp_go (K := fun s : Int32 × Int32 × Int32 × gMem => gGo G YX9_sneezer d Z 21 [some (.ref 141), some (.int s.1), some (.int s.2.1), some (.int s.2.2.1)] [] s.2.2.2) (P := P) (fun s hs => CX9_sneezer_21 hd (s.1) (s.2.1) (s.2.2.1) (s.2.2.2) (Sum.elim (fun s : Int32 × Int32 × Int32 × gMem => gGo G YX9_sneezer d Z 21 [some (.ref 141), some (.int s.1), some (.int s.2.1), some (.int s.2.2.1)] [] s.2.2.2) P) k0 (fun x1 x2 x3 M hh => hh) hs) gFu (x1, x2, x3, M) h
def fX9_sneezer_6 (M : gMem) : Option (Int32 × gMem) :=
  gB0 (fX9_isCity M) (fun r1 => if r1 = 0 then some ((-2 : Int32), M) else fX9_sneezer_21h (-1 : Int32) (-1 : Int32) (0 : Int32) M)
set_option maxRecDepth 100000 in
theorem CX9_sneezer_6 {G : gG} {d : Nat} {Z : Option Value → gMem → Prop} (hd : 7 ≤ d) (M : gMem) (P : Int32 × gMem → Prop) (k0 : ∀ (r : Int32) (N : gMem), P (r, N) → Z (some (.int r)) N) (h : gOKq (fX9_sneezer_6 M) P) : gGo G YX9_sneezer d Z 6 [some (.ref 141), none, none, none] [.ref 141] M := by
  unfold fX9_sneezer_6 at h
  obtain ⟨r1, e2, h⟩ := gB0_ok h
  refine go_call1 ocX9_sneezer rfl rfl (gOb_c rfl) rfl (SX9_isCity M e2) (Nat.lt_of_lt_of_le (by decide) hd) ?_
  refine go_br okX9_sneezer rfl (fun hp => ?_) (fun hp => ?_)
  · have h := gq_pos hp h
    refine go_rn 1 (pc' := 14) (L' := [some (.ref 141), none, none, none]) (S' := [.int (-2 : Int32)]) (M' := M) okX9_sneezer rfl ?_
    exact go_iret (reX9_sneezer _ (by decide)) rfl (k0 (-2 : Int32) M h)
  · have h := gq_neg hp h
    refine go_rn 6 (pc' := 21) (L' := [some (.ref 141), some (.int (-1 : Int32)), some (.int (-1 : Int32)), some (.int (0 : Int32))]) (S' := []) (M' := M) okX9_sneezer rfl ?_
    exact go_wk (CX9_sneezer_21h hd (-1 : Int32) (-1 : Int32) (0 : Int32) M P k0 h) ⟨rfl, rfl, rfl, rfl, True.intro⟩
def fX9_sneezer_0 (M : gMem) : Option (Int32 × gMem) :=
  fX9_sneezer_6 (gSI M 141 0 (0 : Int32))
set_option maxRecDepth 100000 in
theorem CX9_sneezer_0 {G : gG} {d : Nat} {Z : Option Value → gMem → Prop} (hd : 7 ≤ d) (M : gMem) (P : Int32 × gMem → Prop) (k0 : ∀ (r : Int32) (N : gMem), P (r, N) → Z (some (.int r)) N) (h : gOKq (fX9_sneezer_0 M) P) : gGo G YX9_sneezer d Z 0 [some (.ref 141), none, none, none] [] M := by
  unfold fX9_sneezer_0 at h
  refine go_rn 2 (pc' := 2) (L' := [some (.ref 141), none, none, none]) (S' := [.int (0 : Int32), .ref 141]) (M' := M) okX9_sneezer rfl ?_
  refine go_ck okX9_sneezer rfl (gOb_c rfl) ?_
  refine go_rn 1 (pc' := 6) (L' := [some (.ref 141), none, none, none]) (S' := [.ref 141]) (M' := (gSI M 141 0 (0 : Int32))) okX9_sneezer rfl ?_
  exact go_wk (CX9_sneezer_6 hd (gSI M 141 0 (0 : Int32)) P k0 h) ⟨rfl, True.intro⟩
def fX9_sneezer (M : gMem) : Option (Int32 × gMem) := fX9_sneezer_0 M
theorem SX9_sneezer {G : gG} (M : gMem) {r : Int32} {N : gMem} (h : fX9_sneezer M = some (r, N)) : gRun G YX9_sneezer 7 [.ref 141] M (fun r' N' => r' = some (.int r) ∧ N' = N) := gRun_in (by decide +kernel) rfl (fun d hd => go_wk (CX9_sneezer_0 hd M (fun p => p = (r, N)) (fun r N hh => by cases hh; exact ⟨rfl, rfl⟩) (gq_of h)) ⟨rfl, True.intro⟩)
