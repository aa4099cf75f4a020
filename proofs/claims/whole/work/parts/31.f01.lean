/-! exact functions of methods, and that the machine goes as they say: by program -/
def fX2_live_123 (x1 : Nat) (x2 : Int32) (x3 : Int32) (x4 : Int32) (M : gMem) : Option (Sum (Int32 × Int32 × gMem) (gMem)) :=
  if gIx 1 21 x4 = true then some (.inl (x3, (x4 + 1), (gSI M 14 16 ((M.1 14 16) ||| (M.1 21 (Int32.toNatClampNeg x4)))))) else none
set_option maxRecDepth 100000 in
theorem CX2_live_123 {G : gG} {d : Nat} {Z : Option Value → gMem → Prop} (hd : 4 ≤ d) (x1 : Nat) (x2 : Int32) (x3 : Int32) (x4 : Int32) (M : gMem) (o_x1 : gOb 7 x1 = true) (P : Sum (Int32 × Int32 × gMem) (gMem) → Prop) (k0 : ∀ (N : gMem), P (.inr N) → Z none N) (k1 : ∀ (x3 : Int32) (x4 : Int32) (M : gMem), P (.inl (x3, x4, M)) → gGo G YX2_live d Z 15 [some (.ref 14), some (.ref x1), some (.int x2), some (.int x3), some (.int x4), none] [] M) (h : gOKq (fX2_live_123 x1 x2 x3 x4 M) P) : gGo G YX2_live d Z 123 [some (.ref 14), some (.ref x1), some (.int x2), some (.int x3), some (.int x4), none] [.ref 14, .ref 14] M := by
  unfold fX2_live_123 at h
  refine go_ck okX2_live rfl (gOb_c rfl) ?_
  refine go_rn 1 (pc' := 127) (L' := [some (.ref 14), some (.ref x1), some (.int x2), some (.int x3), some (.int x4), none]) (S' := [.ref 14, .int (M.1 14 16), .ref 14]) (M' := M) okX2_live rfl ?_
  refine go_ck okX2_live rfl (gOb_c rfl) ?_
  refine go_rn 1 (pc' := 132) (L' := [some (.ref 14), some (.ref x1), some (.int x2), some (.int x3), some (.int x4), none]) (S' := [.int x4, .ref 21, .int (M.1 14 16), .ref 14]) (M' := M) okX2_live rfl ?_
  obtain ⟨c1, h⟩ := gq_if h
  refine go_ck okX2_live rfl c1 ?_
  refine go_rn 1 (pc' := 134) (L' := [some (.ref 14), some (.ref x1), some (.int x2), some (.int x3), some (.int x4), none]) (S' := [.int ((M.1 14 16) ||| (M.1 21 (Int32.toNatClampNeg x4))), .ref 14]) (M' := M) okX2_live rfl ?_
  refine go_ck okX2_live rfl (gOb_c rfl) ?_
  refine go_rn 2 (pc' := 15) (L' := [some (.ref 14), some (.ref x1), some (.int x2), some (.int x3), some (.int (x4 + 1)), none]) (S' := []) (M' := (gSI M 14 16 ((M.1 14 16) ||| (M.1 21 (Int32.toNatClampNeg x4))))) okX2_live rfl ?_
  exact go_wk (k1 (x3) ((x4 + 1)) (gSI M 14 16 ((M.1 14 16) ||| (M.1 21 (Int32.toNatClampNeg x4)))) h) ⟨rfl, rfl, rfl, rfl, rfl, True.intro⟩
def fX2_live_103 (x1 : Nat) (x2 : Int32) (x3 : Int32) (x4 : Int32) (s0 : Int32) (s1 : Nat) (s3 : Int32) (M : gMem) : Option (Sum (Int32 × Int32 × gMem) (gMem)) :=
  gB0 (fX2_catching s1 s0 M) (fun r1 => if gIx 1 21 s3 = true then fX2_live_123 x1 x2 x3 x4 (gSI M 21 (Int32.toNatClampNeg s3) (r1 &&& ((((M.1 14 16) ||| x3) ||| (M.1 14 2)) ^^^ (-1 : Int32)))) else none)
set_option maxRecDepth 100000 in
theorem CX2_live_103 {G : gG} {d : Nat} {Z : Option Value → gMem → Prop} (hd : 4 ≤ d) (x1 : Nat) (x2 : Int32) (x3 : Int32) (x4 : Int32) (s0 : Int32) (s1 : Nat) (s3 : Int32) (M : gMem) (o_x1 : gOb 7 x1 = true) (o_s1 : gOb 7 s1 = true) (P : Sum (Int32 × Int32 × gMem) (gMem) → Prop) (k0 : ∀ (N : gMem), P (.inr N) → Z none N) (k1 : ∀ (x3 : Int32) (x4 : Int32) (M : gMem), P (.inl (x3, x4, M)) → gGo G YX2_live d Z 15 [some (.ref 14), some (.ref x1), some (.int x2), some (.int x3), some (.int x4), none] [] M) (h : gOKq (fX2_live_103 x1 x2 x3 x4 s0 s1 s3 M) P) : gGo G YX2_live d Z 103 [some (.ref 14), some (.ref x1), some (.int x2), some (.int x3), some (.int x4), none] [.int s0, .ref s1, .ref 14, .int s3, .ref 21] M := by
  unfold fX2_live_103 at h
  obtain ⟨r1, e2, h⟩ := gB0_ok h
  refine go_call1 ocX2_live rfl rfl (gOb_c rfl) rfl (SX2_catching s1 s0 M o_s1 e2) (Nat.lt_of_lt_of_le (by decide) hd) ?_
  refine go_rn 1 (pc' := 107) (L' := [some (.ref 14), some (.ref x1), some (.int x2), some (.int x3), some (.int x4), none]) (S' := [.ref 14, .int r1, .int s3, .ref 21]) (M' := M) okX2_live rfl ?_
  refine go_ck okX2_live rfl (gOb_c rfl) ?_
  refine go_rn 3 (pc' := 113) (L' := [some (.ref 14), some (.ref x1), some (.int x2), some (.int x3), some (.int x4), none]) (S' := [.ref 14, .int ((M.1 14 16) ||| x3), .int r1, .int s3, .ref 21]) (M' := M) okX2_live rfl ?_
  refine go_ck okX2_live rfl (gOb_c rfl) ?_
  refine go_rn 4 (pc' := 120) (L' := [some (.ref 14), some (.ref x1), some (.int x2), some (.int x3), some (.int x4), none]) (S' := [.int (r1 &&& ((((M.1 14 16) ||| x3) ||| (M.1 14 2)) ^^^ (-1 : Int32))), .int s3, .ref 21]) (M' := M) okX2_live rfl ?_
  obtain ⟨c3, h⟩ := gq_if h
  refine go_ck okX2_live rfl c3 ?_
  refine go_rn 2 (pc' := 123) (L' := [some (.ref 14), some (.ref x1), some (.int x2), some (.int x3), some (.int x4), none]) (S' := [.ref 14, .ref 14]) (M' := (gSI M 21 (Int32.toNatClampNeg s3) (r1 &&& ((((M.1 14 16) ||| x3) ||| (M.1 14 2)) ^^^ (-1 : Int32))))) okX2_live rfl ?_
  exact go_wk (CX2_live_123 hd x1 x2 x3 x4 (gSI M 21 (Int32.toNatClampNeg s3) (r1 &&& ((((M.1 14 16) ||| x3) ||| (M.1 14 2)) ^^^ (-1 : Int32)))) o_x1 P k0 k1 h) ⟨rfl, rfl, rfl, rfl, rfl, True.intro⟩
def fX2_live_89 (x1 : Nat) (x2 : Int32) (x3 : Int32) (x4 : Int32) (s0 : Int32) (s1 : Int32) (s2 : Nat) (s4 : Int32) (M : gMem) : Option (Sum (Int32 × Int32 × gMem) (gMem)) :=
  gB0 (fX2_toldHeld s2 s1 s0 M) (fun r1 => if gIx 1 19 s4 = true then fX2_live_103 x1 x2 x3 x4 x4 x1 x4 (gSI M 19 (Int32.toNatClampNeg s4) r1) else none)
set_option maxRecDepth 100000 in
theorem CX2_live_89 {G : gG} {d : Nat} {Z : Option Value → gMem → Prop} (hd : 4 ≤ d) (x1 : Nat) (x2 : Int32) (x3 : Int32) (x4 : Int32) (s0 : Int32) (s1 : Int32) (s2 : Nat) (s4 : Int32) (M : gMem) (o_x1 : gOb 7 x1 = true) (o_s2 : gOb 7 s2 = true) (P : Sum (Int32 × Int32 × gMem) (gMem) → Prop) (k0 : ∀ (N : gMem), P (.inr N) → Z none N) (k1 : ∀ (x3 : Int32) (x4 : Int32) (M : gMem), P (.inl (x3, x4, M)) → gGo G YX2_live d Z 15 [some (.ref 14), some (.ref x1), some (.int x2), some (.int x3), some (.int x4), none] [] M) (h : gOKq (fX2_live_89 x1 x2 x3 x4 s0 s1 s2 s4 M) P) : gGo G YX2_live d Z 89 [some (.ref 14), some (.ref x1), some (.int x2), some (.int x3), some (.int x4), none] [.int s0, .int s1, .ref s2, .ref 14, .int s4, .ref 19] M := by
  unfold fX2_live_89 at h
  obtain ⟨r1, e2, h⟩ := gB0_ok h
  refine go_call1 ocX2_live rfl rfl (gOb_c rfl) rfl (SX2_toldHeld s2 s1 s0 M o_s2 e2) (Nat.lt_of_lt_of_le (by decide) hd) ?_
  obtain ⟨c3, h⟩ := gq_if h
  refine go_ck okX2_live rfl c3 ?_
  refine go_rn 1 (pc' := 94) (L' := [some (.ref 14), some (.ref x1), some (.int x2), some (.int x3), some (.int x4), none]) (S' := [.ref 14]) (M' := (gSI M 19 (Int32.toNatClampNeg s4) r1)) okX2_live rfl ?_
  refine go_ck okX2_live rfl (gOb_c rfl) ?_
  refine go_rn 4 (pc' := 103) (L' := [some (.ref 14), some (.ref x1), some (.int x2), some (.int x3), some (.int x4), none]) (S' := [.int x4, .ref x1, .ref 14, .int x4, .ref 21]) (M' := (gSI M 19 (Int32.toNatClampNeg s4) r1)) okX2_live rfl ?_
  exact go_wk (CX2_live_103 hd x1 x2 x3 x4 x4 x1 x4 (gSI M 19 (Int32.toNatClampNeg s4) r1) o_x1 o_x1 P k0 k1 h) ⟨rfl, rfl, rfl, rfl, rfl, True.intro⟩
def fX2_live_70 (x1 : Nat) (x2 : Int32) (x3 : Int32) (x4 : Int32) (M : gMem) : Option (Sum (Int32 × Int32 × gMem) (gMem)) :=
  if gIx 1 20 x4 = true then fX2_live_89 x1 x2 x3 x4 x3 x4 x1 x4 (gSI M 20 (Int32.toNatClampNeg x4) x3) else none
set_option maxRecDepth 100000 in
theorem CX2_live_70 {G : gG} {d : Nat} {Z : Option Value → gMem → Prop} (hd : 4 ≤ d) (x1 : Nat) (x2 : Int32) (x3 : Int32) (x4 : Int32) (M : gMem) (o_x1 : gOb 7 x1 = true) (P : Sum (Int32 × Int32 × gMem) (gMem) → Prop) (k0 : ∀ (N : gMem), P (.inr N) → Z none N) (k1 : ∀ (x3 : Int32) (x4 : Int32) (M : gMem), P (.inl (x3, x4, M)) → gGo G YX2_live d Z 15 [some (.ref 14), some (.ref x1), some (.int x2), some (.int x3), some (.int x4), none] [] M) (h : gOKq (fX2_live_70 x1 x2 x3 x4 M) P) : gGo G YX2_live d Z 70 [some (.ref 14), some (.ref x1), some (.int x2), some (.int x3), some (.int x4), none] [] M := by
  unfold fX2_live_70 at h
  refine go_rn 1 (pc' := 71) (L' := [some (.ref 14), some (.ref x1), some (.int x2), some (.int x3), some (.int x4), none]) (S' := [.ref 14]) (M' := M) okX2_live rfl ?_
  refine go_ck okX2_live rfl (gOb_c rfl) ?_
  refine go_rn 2 (pc' := 77) (L' := [some (.ref 14), some (.ref x1), some (.int x2), some (.int x3), some (.int x4), none]) (S' := [.int x3, .int x4, .ref 20]) (M' := M) okX2_live rfl ?_
  obtain ⟨c1, h⟩ := gq_if h
  refine go_ck okX2_live rfl c1 ?_
  refine go_rn 1 (pc' := 79) (L' := [some (.ref 14), some (.ref x1), some (.int x2), some (.int x3), some (.int x4), none]) (S' := [.ref 14]) (M' := (gSI M 20 (Int32.toNatClampNeg x4) x3)) okX2_live rfl ?_
  refine go_ck okX2_live rfl (gOb_c rfl) ?_
  refine go_rn 5 (pc' := 89) (L' := [some (.ref 14), some (.ref x1), some (.int x2), some (.int x3), some (.int x4), none]) (S' := [.int x3, .int x4, .ref x1, .ref 14, .int x4, .ref 19]) (M' := (gSI M 20 (Int32.toNatClampNeg x4) x3)) okX2_live rfl ?_
  exact go_wk (CX2_live_89 hd x1 x2 x3 x4 x3 x4 x1 x4 (gSI M 20 (Int32.toNatClampNeg x4) x3) o_x1 o_x1 P k0 k1 h) ⟨rfl, rfl, rfl, rfl, rfl, True.intro⟩
def fX2_live_15 (x1 : Nat) (x2 : Int32) (x3 : Int32) (x4 : Int32) (M : gMem) : Option (Sum (Int32 × Int32 × gMem) (gMem)) :=
  if x2 ≤ x4 then some (.inr M) else if (12 : Int32) ≤ x4 then some (.inr M) else gB0 (fX2_tellWorths x1 x4 M) (fun M1 => gB0 (fX2_joinUp x1 x4 x3 M1) (fun M3 => gB0 (fX2_failingIn x1 x4 M3) (fun r5 => if r5 = 0 then fX2_live_70 x1 x2 x3 x4 M3 else gB0 (fX2_joinUp x1 x4 (x3 ||| r5) M3) (fun M7 => fX2_live_70 x1 x2 (x3 ||| r5) x4 M7))))
set_option maxRecDepth 100000 in
theorem CX2_live_15 {G : gG} {d : Nat} {Z : Option Value → gMem → Prop} (hd : 4 ≤ d) (x1 : Nat) (x2 : Int32) (x3 : Int32) (x4 : Int32) (M : gMem) (o_x1 : gOb 7 x1 = true) (P : Sum (Int32 × Int32 × gMem) (gMem) → Prop) (k0 : ∀ (N : gMem), P (.inr N) → Z none N) (k1 : ∀ (x3 : Int32) (x4 : Int32) (M : gMem), P (.inl (x3, x4, M)) → gGo G YX2_live d Z 15 [some (.ref 14), some (.ref x1), some (.int x2), some (.int x3), some (.int x4), none] [] M) (h : gOKq (fX2_live_15 x1 x2 x3 x4 M) P) : gGo G YX2_live d Z 15 [some (.ref 14), some (.ref x1), some (.int x2), some (.int x3), some (.int x4), none] [] M := by
  unfold fX2_live_15 at h
  refine go_rn 2 (pc' := 18) (L' := [some (.ref 14), some (.ref x1), some (.int x2), some (.int x3), some (.int x4), none]) (S' := [.int x2, .int x4]) (M' := M) okX2_live rfl ?_
  refine go_br okX2_live rfl (fun hp => ?_) (fun hp => ?_)
  · have h := gq_pos hp h
    exact go_vret (reX2_live _ (by decide)) rfl (k0 M h)
  · have h := gq_neg hp h
    refine go_rn 2 (pc' := 25) (L' := [some (.ref 14), some (.ref x1), some (.int x2), some (.int x3), some (.int x4), none]) (S' := [.int (12 : Int32), .int x4]) (M' := M) okX2_live rfl ?_
    refine go_br okX2_live rfl (fun hp => ?_) (fun hp => ?_)
    · have h := gq_pos hp h
      exact go_vret (reX2_live _ (by decide)) rfl (k0 M h)
    · have h := gq_neg hp h
      refine go_rn 3 (pc' := 32) (L' := [some (.ref 14), some (.ref x1), some (.int x2), some (.int x3), some (.int x4), none]) (S' := [.int x4, .ref x1, .ref 14]) (M' := M) okX2_live rfl ?_
      obtain ⟨M1, e2, h⟩ := gB0_ok h
      refine go_call1 ocX2_live rfl rfl (gOb_c rfl) rfl (SX2_tellWorths x1 x4 M o_x1 e2) (Nat.lt_of_lt_of_le (by decide) hd) ?_
      refine go_rn 4 (pc' := 40) (L' := [some (.ref 14), some (.ref x1), some (.int x2), some (.int x3), some (.int x4), none]) (S' := [.int x3, .int x4, .ref x1, .ref 14]) (M' := M1) okX2_live rfl ?_
      obtain ⟨M3, e4, h⟩ := gB0_ok h
      refine go_call1 ocX2_live rfl rfl (gOb_c rfl) rfl (SX2_joinUp x1 x4 x3 M1 o_x1 e4) (Nat.lt_of_lt_of_le (by decide) hd) ?_
      refine go_rn 3 (pc' := 47) (L' := [some (.ref 14), some (.ref x1), some (.int x2), some (.int x3), some (.int x4), none]) (S' := [.int x4, .ref x1, .ref 14]) (M' := M3) okX2_live rfl ?_
      obtain ⟨r5, e6, h⟩ := gB0_ok h
      refine go_call1 ocX2_live rfl rfl (gOb_c rfl) rfl (SX2_failingIn x1 x4 M3 o_x1 e6) (Nat.lt_of_lt_of_le (by decide) hd) ?_
      refine go_rn 2 (pc' := 54) (L' := [some (.ref 14), some (.ref x1), some (.int x2), some (.int x3), some (.int x4), some (.int r5)]) (S' := [.int r5]) (M' := M3) okX2_live rfl ?_
      refine go_br okX2_live rfl (fun hp => ?_) (fun hp => ?_)
      · have h := gq_pos hp h
        exact go_wk (CX2_live_70 hd x1 x2 x3 x4 M3 o_x1 P k0 k1 h) ⟨rfl, rfl, rfl, rfl, rfl, True.intro⟩
      · have h := gq_neg hp h
        refine go_rn 8 (pc' := 67) (L' := [some (.ref 14), some (.ref x1), some (.int x2), some (.int (x3 ||| r5)), some (.int x4), some (.int r5)]) (S' := [.int (x3 ||| r5), .int x4, .ref x1, .ref 14]) (M' := M3) okX2_live rfl ?_
        obtain ⟨M7, e8, h⟩ := gB0_ok h
        refine go_call1 ocX2_live rfl rfl (gOb_c rfl) rfl (SX2_joinUp x1 x4 (x3 ||| r5) M3 o_x1 e8) (Nat.lt_of_lt_of_le (by decide) hd) ?_
        exact go_wk (CX2_live_70 hd x1 x2 (x3 ||| r5) x4 M7 o_x1 P k0 k1 h) ⟨rfl, rfl, rfl, rfl, rfl, True.intro⟩
def fX2_live_15h (x1 : Nat) (x2 : Int32) (x3 : Int32) (x4 : Int32) (M : gMem) : Option (gMem) :=
  gLp (fun s : Int32 × Int32 × gMem => fX2_live_15 x1 x2 (s.1) (s.2.1) s.2.2) gFu (x3, x4, M)
set_option maxRecDepth 100000 in
theorem CX2_live_15h {G : gG} {d : Nat} {Z : Option Value → gMem → Prop} (hd : 4 ≤ d) (x1 : Nat) (x2 : Int32) (x3 : Int32) (x4 : Int32) (M : gMem) (o_x1 : gOb 7 x1 = true) (P : gMem → Prop) (k0 : ∀ (N : gMem), P N → Z none N) (h : gOKq (fX2_live_15h x1 x2 x3 x4 M) P) : gGo G YX2_live d Z 15 [some (.ref 14), some (.ref x1), some (.int x2), some (.int x3), some (.int x4), none] [] M :=
  gLp_go (K := fun s : Int32 × Int32 × gMem => gGo G YX2_live d Z 15 [some (.ref 14), some (.ref x1), some (.int x2), some (.int s.1), some (.int s.2.1), none] [] s.2.2) (P := P) (fun s hs => CX2_live_15 hd (x1) (x2) (s.1) (s.2.1) (s.2.2) o_x1 (Sum.elim (fun s : Int32 × Int32 × gMem => gGo G YX2_live d Z 15 [some (.ref 14), some (.ref x1), some (.int x2), some (.int s.1), some (.int s.2.1), none] [] s.2.2) P) k0 (fun x3 x4 M hh => hh) hs) gFu (x3, x4, M) h
def fX2_live_0 (x1 : Nat) (x2 : Int32) (M : gMem) : Option (gMem) :=
  gB0 (fX2_gatherJoins x1 M) (fun M1 => fX2_live_15h x1 x2 (0 : Int32) (0 : Int32) (gSI M1 14 16 (0 : Int32)))
set_option maxRecDepth 100000 in
theorem CX2_live_0 {G : gG} {d : Nat} {Z : Option Value → gMem → Prop} (hd : 4 ≤ d) (x1 : Nat) (x2 : Int32) (M : gMem) (o_x1 : gOb 7 x1 = true) (P : gMem → Prop) (k0 : ∀ (N : gMem), P N → Z none N) (h : gOKq (fX2_live_0 x1 x2 M) P) : gGo G YX2_live d Z 0 [some (.ref 14), some (.ref x1), some (.int x2), none, none, none] [] M := by
  unfold fX2_live_0 at h
  refine go_rn 2 (pc' := 2) (L' := [some (.ref 14), some (.ref x1), some (.int x2), none, none, none]) (S' := [.ref x1, .ref 14]) (M' := M) okX2_live rfl ?_
  obtain ⟨M1, e2, h⟩ := gB0_ok h
  refine go_call1 ocX2_live rfl rfl (gOb_c rfl) rfl (SX2_gatherJoins x1 M o_x1 e2) (Nat.lt_of_lt_of_le (by decide) hd) ?_
  refine go_rn 4 (pc' := 9) (L' := [some (.ref 14), some (.ref x1), some (.int x2), some (.int (0 : Int32)), none, none]) (S' := [.int (0 : Int32), .ref 14]) (M' := M1) okX2_live rfl ?_
  refine go_ck okX2_live rfl (gOb_c rfl) ?_
  refine go_rn 2 (pc' := 15) (L' := [some (.ref 14), some (.ref x1), some (.int x2), some (.int (0 : Int32)), some (.int (0 : Int32)), none]) (S' := []) (M' := (gSI M1 14 16 (0 : Int32))) okX2_live rfl ?_
  exact go_wk (CX2_live_15h hd x1 x2 (0 : Int32) (0 : Int32) (gSI M1 14 16 (0 : Int32)) o_x1 P k0 h) ⟨rfl, rfl, rfl, rfl, rfl, True.intro⟩
def fX2_live (a1 : Nat) (a2 : Int32) (M : gMem) : Option (gMem) := fX2_live_0 a1 a2 M
theorem SX2_live {G : gG} (a1 : Nat) (a2 : Int32) (M : gMem) (o_a1 : gOb 7 a1 = true) {N : gMem} (h : fX2_live a1 a2 M = some N) : gRun G YX2_live 4 [.ref 14, .ref a1, .int a2] M (fun r' N' => r' = none ∧ N' = N) := gRun_in (by decide +kernel) rfl (fun d hd => go_wk (CX2_live_0 hd a1 a2 M o_a1 (fun p => p = N) (fun N hh => ⟨rfl, hh⟩) (gq_of h)) ⟨rfl, rfl, rfl, True.intro⟩)
def fX2_areTied_0 (x1 : Int32) (x2 : Int32) (x3 : Int32) (M : gMem) : Option (Int32) :=
  if gIx 7 35 x3 = true then if gIx 1 (gRa 35 (Int32.toNatClampNeg x3)) x1 = true then gB0 (fX8_has (M.1 (gRa 35 (Int32.toNatClampNeg x3)) (Int32.toNatClampNeg x1)) x2 M) (fun r3 => if r3 = 0 ∨ r3 = 1 then some r3 else none) else none else none
set_option maxRecDepth 100000 in
theorem CX2_areTied_0 {G : gG} {d : Nat} {Z : Option Value → gMem → Prop} (hd : 1 ≤ d) (x1 : Int32) (x2 : Int32) (x3 : Int32) (M : gMem) (P : Int32 → Prop) (k0 : ∀ (r : Int32), P r → Z (some (.int r)) M) (h : gOKq (fX2_areTied_0 x1 x2 x3 M) P) : gGo G YX2_areTied d Z 0 [some (.ref 14), some (.int x1), some (.int x2), some (.int x3)] [] M := by
  unfold fX2_areTied_0 at h
  refine go_rn 1 (pc' := 1) (L' := [some (.ref 14), some (.int x1), some (.int x2), some (.int x3)]) (S' := [.ref 14]) (M' := M) okX2_areTied rfl ?_
  refine go_ck okX2_areTied rfl (gOb_c rfl) ?_
  refine go_rn 1 (pc' := 5) (L' := [some (.ref 14), some (.int x1), some (.int x2), some (.int x3)]) (S' := [.int x3, .ref 35]) (M' := M) okX2_areTied rfl ?_
  obtain ⟨c1, h⟩ := gq_if h
  refine go_ck okX2_areTied rfl c1 ?_
  refine go_rn 1 (pc' := 7) (L' := [some (.ref 14), some (.int x1), some (.int x2), some (.int x3)]) (S' := [.int x1, .ref (gRa 35 (Int32.toNatClampNeg x3))]) (M' := M) okX2_areTied rfl ?_
  obtain ⟨c2, h⟩ := gq_if h
  refine go_ck okX2_areTied rfl c2 ?_
  refine go_rn 1 (pc' := 9) (L' := [some (.ref 14), some (.int x1), some (.int x2), some (.int x3)]) (S' := [.int x2, .int (M.1 (gRa 35 (Int32.toNatClampNeg x3)) (Int32.toNatClampNeg x1))]) (M' := M) okX2_areTied rfl ?_
  obtain ⟨r3, e4, h⟩ := gB0_ok h
  refine go_call1 ocX2_areTied rfl rfl rfl rfl (SX8_has (M.1 (gRa 35 (Int32.toNatClampNeg x3)) (Int32.toNatClampNeg x1)) x2 M e4) (Nat.lt_of_lt_of_le (by decide) hd) ?_
  obtain ⟨hz, h⟩ := gq_if h
  exact go_zret (reX2_areTied _ (by decide)) rfl hz (k0 r3 h)
def fX2_areTied (a1 : Int32) (a2 : Int32) (a3 : Int32) (M : gMem) : Option (Int32) := fX2_areTied_0 a1 a2 a3 M
theorem SX2_areTied {G : gG} (a1 : Int32) (a2 : Int32) (a3 : Int32) (M : gMem) {r : Int32} (h : fX2_areTied a1 a2 a3 M = some r) : gRun G YX2_areTied 1 [.ref 14, .int a1, .int a2, .int a3] M (fun r' N' => r' = some (.int r) ∧ N' = M) := gRun_in (by decide +kernel) rfl (fun d hd => go_wk (CX2_areTied_0 hd a1 a2 a3 M (fun p => p = r) (fun r hh => ⟨congrArg (fun z => some (Value.int z)) hh, rfl⟩) (gq_of h)) ⟨rfl, rfl, rfl, rfl, True.intro⟩)
def fX2_firmCount_5 (x1 : Nat) (x2 : Int32) (x3 : Int32) (x4 : Int32) (M : gMem) : Option (Sum (Int32 × Int32) (Int32)) :=
  if (M.1 x1 5) ≤ x4 then some (.inr x3) else gB0 (fX2_isFirstOfFirm x4 x2 M) (fun r1 => if r1 = 0 then some (.inl (x3, (x4 + 1))) else some (.inl ((x3 + 1), (x4 + 1))))
set_option maxRecDepth 100000 in
theorem CX2_firmCount_5 {G : gG} {d : Nat} {Z : Option Value → gMem → Prop} (hd : 2 ≤ d) (x1 : Nat) (x2 : Int32) (x3 : Int32) (x4 : Int32) (M : gMem) (o_x1 : gOb 7 x1 = true) (P : Sum (Int32 × Int32) (Int32) → Prop) (k0 : ∀ (r : Int32), P (.inr r) → Z (some (.int r)) M) (k1 : ∀ (x3 : Int32) (x4 : Int32), P (.inl (x3, x4)) → gGo G YX2_firmCount d Z 5 [some (.ref 14), some (.ref x1), some (.int x2), some (.int x3), some (.int x4)] [] M) (h : gOKq (fX2_firmCount_5 x1 x2 x3 x4 M) P) : gGo G YX2_firmCount d Z 5 [some (.ref 14), some (.ref x1), some (.int x2), some (.int x3), some (.int x4)] [] M := by
  unfold fX2_firmCount_5 at h
  refine go_rn 2 (pc' := 8) (L' := [some (.ref 14), some (.ref x1), some (.int x2), some (.int x3), some (.int x4)]) (S' := [.ref x1, .int x4]) (M' := M) okX2_firmCount rfl ?_
  refine go_ck okX2_firmCount rfl o_x1 ?_
  refine go_br okX2_firmCount rfl (fun hp => ?_) (fun hp => ?_)
  · have h := gq_pos hp h
    refine go_rn 1 (pc' := 34) (L' := [some (.ref 14), some (.ref x1), some (.int x2), some (.int x3), some (.int x4)]) (S' := [.int x3]) (M' := M) okX2_firmCount rfl ?_
    exact go_iret (reX2_firmCount _ (by decide)) rfl (k0 x3 h)
  · have h := gq_neg hp h
    refine go_rn 3 (pc' := 18) (L' := [some (.ref 14), some (.ref x1), some (.int x2), some (.int x3), some (.int x4)]) (S' := [.int x2, .int x4, .ref 14]) (M' := M) okX2_firmCount rfl ?_
    obtain ⟨r1, e2, h⟩ := gB0_ok h
    refine go_call1 ocX2_firmCount rfl rfl (gOb_c rfl) rfl (SX2_isFirstOfFirm x4 x2 M e2) (Nat.lt_of_lt_of_le (by decide) hd) ?_
    refine go_br okX2_firmCount rfl (fun hp => ?_) (fun hp => ?_)
    · have h := gq_pos hp h
      refine go_rn 2 (pc' := 5) (L' := [some (.ref 14), some (.ref x1), some (.int x2), some (.int x3), some (.int (x4 + 1))]) (S' := []) (M' := M) okX2_firmCount rfl ?_
      exact go_wk (k1 (x3) ((x4 + 1)) h) ⟨rfl, rfl, rfl, rfl, rfl, True.intro⟩
    · have h := gq_neg hp h
      refine go_rn 3 (pc' := 5) (L' := [some (.ref 14), some (.ref x1), some (.int x2), some (.int (x3 + 1)), some (.int (x4 + 1))]) (S' := []) (M' := M) okX2_firmCount rfl ?_
      exact go_wk (k1 ((x3 + 1)) ((x4 + 1)) h) ⟨rfl, rfl, rfl, rfl, rfl, True.intro⟩
def fX2_firmCount_5h (x1 : Nat) (x2 : Int32) (x3 : Int32) (x4 : Int32) (M : gMem) : Option (Int32) :=
  gLp (fun s : Int32 × Int32 => fX2_firmCount_5 x1 x2 (s.1) (s.2) M) gFu (x3, x4)
set_option maxRecDepth 100000 in
theorem CX2_firmCount_5h {G : gG} {d : Nat} {Z : Option Value → gMem → Prop} (hd : 2 ≤ d) (x1 : Nat) (x2 : Int32) (x3 : Int32) (x4 : Int32) (M : gMem) (o_x1 : gOb 7 x1 = true) (P : Int32 → Prop) (k0 : ∀ (r : Int32), P r → Z (some (.int r)) M) (h : gOKq (fX2_firmCount_5h x1 x2 x3 x4 M) P) : gGo G YX2_firmCount d Z 5 [some (.ref 14), some (.ref x1), some (.int x2), some (.int x3), some (.int x4)] [] M :=
  gLp_go (K := fun s : Int32 × Int32 => gGo G YX2_firmCount d Z 5 [some (.ref 14), some (.ref x1), some (.int x2), some (.int s.1), some (.int s.2)] [] M) (P := P) (fun s hs => CX2_firmCount_5 hd (x1) (x2) (s.1) (s.2) M o_x1 (Sum.elim (fun s : Int32 × Int32 => gGo G YX2_firmCount d Z 5 [some (.ref 14), some (.ref x1), some (.int x2), some (.int s.1), some (.int s.2)] [] M) P) k0 (fun x3 x4 hh => hh) hs) gFu (x3, x4) h
def fX2_firmCount_0 (x1 : Nat) (x2 : Int32) (M : gMem) : Option (Int32) :=
  fX2_firmCount_5h x1 x2 (0 : Int32) (0 : Int32) M
set_option maxRecDepth 100000 in
theorem CX2_firmCount_0 {G : gG} {d : Nat} {Z : Option Value → gMem → Prop} (hd : 2 ≤ d) (x1 : Nat) (x2 : Int32) (M : gMem) (o_x1 : gOb 7 x1 = true) (P : Int32 → Prop) (k0 : ∀ (r : Int32), P r → Z (some (.int r)) M) (h : gOKq (fX2_firmCount_0 x1 x2 M) P) : gGo G YX2_firmCount d Z 0 [some (.ref 14), some (.ref x1), some (.int x2), none, none] [] M := by
  unfold fX2_firmCount_0 at h
  refine go_rn 4 (pc' := 5) (L' := [some (.ref 14), some (.ref x1), some (.int x2), some (.int (0 : Int32)), some (.int (0 : Int32))]) (S' := []) (M' := M) okX2_firmCount rfl ?_
  exact go_wk (CX2_firmCount_5h hd x1 x2 (0 : Int32) (0 : Int32) M o_x1 P k0 h) ⟨rfl, rfl, rfl, rfl, rfl, True.intro⟩
def fX2_firmCount (a1 : Nat) (a2 : Int32) (M : gMem) : Option (Int32) := fX2_firmCount_0 a1 a2 M
theorem SX2_firmCount {G : gG} (a1 : Nat) (a2 : Int32) (M : gMem) (o_a1 : gOb 7 a1 = true) {r : Int32} (h : fX2_firmCount a1 a2 M = some r) : gRun G YX2_firmCount 2 [.ref 14, .ref a1, .int a2] M (fun r' N' => r' = some (.int r) ∧ N' = M) := gRun_in (by decide +kernel) rfl (fun d hd => go_wk (CX2_firmCount_0 hd a1 a2 M o_a1 (fun p => p = r) (fun r hh => ⟨congrArg (fun z => some (Value.int z)) hh, rfl⟩) (gq_of h)) ⟨rfl, rfl, rfl, True.intro⟩)
def fX2_joinsAmong_41 (x1 : Int32) (x2 : Int32) (x3 : Int32) (x4 : Int32) (s0 : Int32) (M : gMem) : Option (Sum (Int32 × Int32) (Int32)) :=
  if s0 = 0 then some (.inl (x3, (x4 + 1))) else if gIx 1 15 x4 = true then gB0 (fX8_has x1 (M.1 15 (Int32.toNatClampNeg x4)) M) (fun r2 => if r2 = 0 then some (.inl (x3, (x4 + 1))) else if gIx 1 16 x4 = true then gB0 (fX8_has x1 (M.1 16 (Int32.toNatClampNeg x4)) M) (fun r5 => if r5 = 0 then some (.inl (x3, (x4 + 1))) else some (.inl ((x3 + 1), (x4 + 1)))) else none) else none
set_option maxRecDepth 100000 in
theorem CX2_joinsAmong_41 {G : gG} {d : Nat} {Z : Option Value → gMem → Prop} (hd : 1 ≤ d) (x1 : Int32) (x2 : Int32) (x3 : Int32) (x4 : Int32) (s0 : Int32) (M : gMem) (P : Sum (Int32 × Int32) (Int32) → Prop) (k0 : ∀ (r : Int32), P (.inr r) → Z (some (.int r)) M) (k1 : ∀ (x3 : Int32) (x4 : Int32), P (.inl (x3, x4)) → gGo G YX2_joinsAmong d Z 5 [some (.ref 14), some (.int x1), some (.int x2), some (.int x3), some (.int x4), none] [] M) (h : gOKq (fX2_joinsAmong_41 x1 x2 x3 x4 s0 M) P) : gGo G YX2_joinsAmong d Z 41 [some (.ref 14), some (.int x1), some (.int x2), some (.int x3), some (.int x4), none] [.int s0] M := by
  unfold fX2_joinsAmong_41 at h
  refine go_rn 2 (pc' := 45) (L' := [some (.ref 14), some (.int x1), some (.int x2), some (.int x3), some (.int x4), some (.int s0)]) (S' := [.int s0]) (M' := M) okX2_joinsAmong rfl ?_
  refine go_br okX2_joinsAmong rfl (fun hp => ?_) (fun hp => ?_)
  · have h := gq_pos hp h
    refine go_rn 2 (pc' := 5) (L' := [some (.ref 14), some (.int x1), some (.int x2), some (.int x3), some (.int (x4 + 1)), some (.int s0)]) (S' := []) (M' := M) okX2_joinsAmong rfl ?_
    exact go_wk (k1 (x3) ((x4 + 1)) h) ⟨rfl, rfl, rfl, rfl, rfl, True.intro⟩
  · have h := gq_neg hp h
    refine go_rn 2 (pc' := 50) (L' := [some (.ref 14), some (.int x1), some (.int x2), some (.int x3), some (.int x4), some (.int s0)]) (S' := [.ref 14, .int x1]) (M' := M) okX2_joinsAmong rfl ?_
    refine go_ck okX2_joinsAmong rfl (gOb_c rfl) ?_
    refine go_rn 1 (pc' := 55) (L' := [some (.ref 14), some (.int x1), some (.int x2), some (.int x3), some (.int x4), some (.int s0)]) (S' := [.int x4, .ref 15, .int x1]) (M' := M) okX2_joinsAmong rfl ?_
    obtain ⟨c1, h⟩ := gq_if h
    refine go_ck okX2_joinsAmong rfl c1 ?_
    obtain ⟨r2, e3, h⟩ := gB0_ok h
    refine go_call1 ocX2_joinsAmong rfl rfl rfl rfl (SX8_has x1 (M.1 15 (Int32.toNatClampNeg x4)) M e3) (Nat.lt_of_lt_of_le (by decide) hd) ?_
    refine go_br okX2_joinsAmong rfl (fun hp => ?_) (fun hp => ?_)
    · have h := gq_pos hp h
      refine go_rn 2 (pc' := 5) (L' := [some (.ref 14), some (.int x1), some (.int x2), some (.int x3), some (.int (x4 + 1)), some (.int s0)]) (S' := []) (M' := M) okX2_joinsAmong rfl ?_
      exact go_wk (k1 (x3) ((x4 + 1)) h) ⟨rfl, rfl, rfl, rfl, rfl, True.intro⟩
    · have h := gq_neg hp h
      refine go_rn 2 (pc' := 64) (L' := [some (.ref 14), some (.int x1), some (.int x2), some (.int x3), some (.int x4), some (.int s0)]) (S' := [.ref 14, .int x1]) (M' := M) okX2_joinsAmong rfl ?_
      refine go_ck okX2_joinsAmong rfl (gOb_c rfl) ?_
      refine go_rn 1 (pc' := 69) (L' := [some (.ref 14), some (.int x1), some (.int x2), some (.int x3), some (.int x4), some (.int s0)]) (S' := [.int x4, .ref 16, .int x1]) (M' := M) okX2_joinsAmong rfl ?_
      obtain ⟨c4, h⟩ := gq_if h
      refine go_ck okX2_joinsAmong rfl c4 ?_
      obtain ⟨r5, e6, h⟩ := gB0_ok h
      refine go_call1 ocX2_joinsAmong rfl rfl rfl rfl (SX8_has x1 (M.1 16 (Int32.toNatClampNeg x4)) M e6) (Nat.lt_of_lt_of_le (by decide) hd) ?_
      refine go_br okX2_joinsAmong rfl (fun hp => ?_) (fun hp => ?_)
      · have h := gq_pos hp h
        refine go_rn 2 (pc' := 5) (L' := [some (.ref 14), some (.int x1), some (.int x2), some (.int x3), some (.int (x4 + 1)), some (.int s0)]) (S' := []) (M' := M) okX2_joinsAmong rfl ?_
        exact go_wk (k1 (x3) ((x4 + 1)) h) ⟨rfl, rfl, rfl, rfl, rfl, True.intro⟩
      · have h := gq_neg hp h
        refine go_rn 3 (pc' := 5) (L' := [some (.ref 14), some (.int x1), some (.int x2), some (.int (x3 + 1)), some (.int (x4 + 1)), some (.int s0)]) (S' := []) (M' := M) okX2_joinsAmong rfl ?_
        exact go_wk (k1 ((x3 + 1)) ((x4 + 1)) h) ⟨rfl, rfl, rfl, rfl, rfl, True.intro⟩
def fX2_joinsAmong_40 (x1 : Int32) (x2 : Int32) (x3 : Int32) (x4 : Int32) (M : gMem) : Option (Sum (Int32 × Int32) (Int32)) :=
  fX2_joinsAmong_41 x1 x2 x3 x4 (0 : Int32) M
set_option maxRecDepth 100000 in
theorem CX2_joinsAmong_40 {G : gG} {d : Nat} {Z : Option Value → gMem → Prop} (hd : 1 ≤ d) (x1 : Int32) (x2 : Int32) (x3 : Int32) (x4 : Int32) (M : gMem) (P : Sum (Int32 × Int32) (Int32) → Prop) (k0 : ∀ (r : Int32), P (.inr r) → Z (some (.int r)) M) (k1 : ∀ (x3 : Int32) (x4 : Int32), P (.inl (x3, x4)) → gGo G YX2_joinsAmong d Z 5 [some (.ref 14), some (.int x1), some (.int x2), some (.int x3), some (.int x4), none] [] M) (h : gOKq (fX2_joinsAmong_40 x1 x2 x3 x4 M) P) : gGo G YX2_joinsAmong d Z 40 [some (.ref 14), some (.int x1), some (.int x2), some (.int x3), some (.int x4), none] [] M := by
  unfold fX2_joinsAmong_40 at h
  refine go_rn 1 (pc' := 41) (L' := [some (.ref 14), some (.int x1), some (.int x2), some (.int x3), some (.int x4), none]) (S' := [.int (0 : Int32)]) (M' := M) okX2_joinsAmong rfl ?_
  exact go_wk (CX2_joinsAmong_41 hd x1 x2 x3 x4 (0 : Int32) M P k0 k1 h) ⟨rfl, rfl, rfl, rfl, rfl, True.intro⟩
def fX2_joinsAmong_5 (x1 : Int32) (x2 : Int32) (x3 : Int32) (x4 : Int32) (M : gMem) : Option (Sum (Int32 × Int32) (Int32)) :=
  if (M.1 14 5) ≤ x4 then some (.inr x3) else if gIx 1 17 x4 = true then if x2 < (M.1 17 (Int32.toNatClampNeg x4)) then fX2_joinsAmong_40 x1 x2 x3 x4 M else if gIx 1 18 x4 = true then if (M.1 18 (Int32.toNatClampNeg x4)) ≤ x2 then fX2_joinsAmong_40 x1 x2 x3 x4 M else fX2_joinsAmong_41 x1 x2 x3 x4 (1 : Int32) M else none else none
set_option maxRecDepth 100000 in
theorem CX2_joinsAmong_5 {G : gG} {d : Nat} {Z : Option Value → gMem → Prop} (hd : 1 ≤ d) (x1 : Int32) (x2 : Int32) (x3 : Int32) (x4 : Int32) (M : gMem) (P : Sum (Int32 × Int32) (Int32) → Prop) (k0 : ∀ (r : Int32), P (.inr r) → Z (some (.int r)) M) (k1 : ∀ (x3 : Int32) (x4 : Int32), P (.inl (x3, x4)) → gGo G YX2_joinsAmong d Z 5 [some (.ref 14), some (.int x1), some (.int x2), some (.int x3), some (.int x4), none] [] M) (h : gOKq (fX2_joinsAmong_5 x1 x2 x3 x4 M) P) : gGo G YX2_joinsAmong d Z 5 [some (.ref 14), some (.int x1), some (.int x2), some (.int x3), some (.int x4), none] [] M := by
  unfold fX2_joinsAmong_5 at h
  refine go_rn 2 (pc' := 8) (L' := [some (.ref 14), some (.int x1), some (.int x2), some (.int x3), some (.int x4), none]) (S' := [.ref 14, .int x4]) (M' := M) okX2_joinsAmong rfl ?_
  refine go_ck okX2_joinsAmong rfl (gOb_c rfl) ?_
  refine go_br okX2_joinsAmong rfl (fun hp => ?_) (fun hp => ?_)
  · have h := gq_pos hp h
    refine go_rn 1 (pc' := 86) (L' := [some (.ref 14), some (.int x1), some (.int x2), some (.int x3), some (.int x4), none]) (S' := [.int x3]) (M' := M) okX2_joinsAmong rfl ?_
    exact go_iret (reX2_joinsAmong _ (by decide)) rfl (k0 x3 h)
  · have h := gq_neg hp h
    refine go_rn 1 (pc' := 15) (L' := [some (.ref 14), some (.int x1), some (.int x2), some (.int x3), some (.int x4), none]) (S' := [.ref 14]) (M' := M) okX2_joinsAmong rfl ?_
    refine go_ck okX2_joinsAmong rfl (gOb_c rfl) ?_
    refine go_rn 1 (pc' := 20) (L' := [some (.ref 14), some (.int x1), some (.int x2), some (.int x3), some (.int x4), none]) (S' := [.int x4, .ref 17]) (M' := M) okX2_joinsAmong rfl ?_
    obtain ⟨c1, h⟩ := gq_if h
    refine go_ck okX2_joinsAmong rfl c1 ?_
    refine go_rn 1 (pc' := 22) (L' := [some (.ref 14), some (.int x1), some (.int x2), some (.int x3), some (.int x4), none]) (S' := [.int x2, .int (M.1 17 (Int32.toNatClampNeg x4))]) (M' := M) okX2_joinsAmong rfl ?_
    refine go_br okX2_joinsAmong rfl (fun hp => ?_) (fun hp => ?_)
    · have h := gq_pos hp h
      exact go_wk (CX2_joinsAmong_40 hd x1 x2 x3 x4 M P k0 k1 h) ⟨rfl, rfl, rfl, rfl, rfl, True.intro⟩
    · have h := gq_neg hp h
      refine go_rn 2 (pc' := 27) (L' := [some (.ref 14), some (.int x1), some (.int x2), some (.int x3), some (.int x4), none]) (S' := [.ref 14, .int x2]) (M' := M) okX2_joinsAmong rfl ?_
      refine go_ck okX2_joinsAmong rfl (gOb_c rfl) ?_
      refine go_rn 1 (pc' := 32) (L' := [some (.ref 14), some (.int x1), some (.int x2), some (.int x3), some (.int x4), none]) (S' := [.int x4, .ref 18, .int x2]) (M' := M) okX2_joinsAmong rfl ?_
      obtain ⟨c2, h⟩ := gq_if h
      refine go_ck okX2_joinsAmong rfl c2 ?_
      refine go_br okX2_joinsAmong rfl (fun hp => ?_) (fun hp => ?_)
      · have h := gq_pos hp h
        exact go_wk (CX2_joinsAmong_40 hd x1 x2 x3 x4 M P k0 k1 h) ⟨rfl, rfl, rfl, rfl, rfl, True.intro⟩
      · have h := gq_neg hp h
        refine go_rn 2 (pc' := 41) (L' := [some (.ref 14), some (.int x1), some (.int x2), some (.int x3), some (.int x4), none]) (S' := [.int (1 : Int32)]) (M' := M) okX2_joinsAmong rfl ?_
        exact go_wk (CX2_joinsAmong_41 hd x1 x2 x3 x4 (1 : Int32) M P k0 k1 h) ⟨rfl, rfl, rfl, rfl, rfl, True.intro⟩
def fX2_joinsAmong_5h (x1 : Int32) (x2 : Int32) (x3 : Int32) (x4 : Int32) (M : gMem) : Option (Int32) :=
  gLp (fun s : Int32 × Int32 => fX2_joinsAmong_5 x1 x2 (s.1) (s.2) M) gFu (x3, x4)
set_option maxRecDepth 100000 in
theorem CX2_joinsAmong_5h {G : gG} {d : Nat} {Z : Option Value → gMem → Prop} (hd : 1 ≤ d) (x1 : Int32) (x2 : Int32) (x3 : Int32) (x4 : Int32) (M : gMem) (P : Int32 → Prop) (k0 : ∀ (r : Int32), P r → Z (some (.int r)) M) (h : gOKq (fX2_joinsAmong_5h x1 x2 x3 x4 M) P) : gGo G YX2_joinsAmong d Z 5 [some (.ref 14), some (.int x1), some (.int x2), some (.int x3), some (.int x4), none] [] M :=
  gLp_go (K := fun s : Int32 × Int32 => gGo G YX2_joinsAmong d Z 5 [some (.ref 14), some (.int x1), some (.int x2), some (.int s.1), some (.int s.2), none] [] M) (P := P) (fun s hs => CX2_joinsAmong_5 hd (x1) (x2) (s.1) (s.2) M (Sum.elim (fun s : Int32 × Int32 => gGo G YX2_joinsAmong d Z 5 [some (.ref 14), some (.int x1), some (.int x2), some (.int s.1), some (.int s.2), none] [] M) P) k0 (fun x3 x4 hh => hh) hs) gFu (x3, x4) h
def fX2_joinsAmong_0 (x1 : Int32) (x2 : Int32) (M : gMem) : Option (Int32) :=
  fX2_joinsAmong_5h x1 x2 (0 : Int32) (0 : Int32) M
set_option maxRecDepth 100000 in
theorem CX2_joinsAmong_0 {G : gG} {d : Nat} {Z : Option Value → gMem → Prop} (hd : 1 ≤ d) (x1 : Int32) (x2 : Int32) (M : gMem) (P : Int32 → Prop) (k0 : ∀ (r : Int32), P r → Z (some (.int r)) M) (h : gOKq (fX2_joinsAmong_0 x1 x2 M) P) : gGo G YX2_joinsAmong d Z 0 [some (.ref 14), some (.int x1), some (.int x2), none, none, none] [] M := by
  unfold fX2_joinsAmong_0 at h
  refine go_rn 4 (pc' := 5) (L' := [some (.ref 14), some (.int x1), some (.int x2), some (.int (0 : Int32)), some (.int (0 : Int32)), none]) (S' := []) (M' := M) okX2_joinsAmong rfl ?_
  exact go_wk (CX2_joinsAmong_5h hd x1 x2 (0 : Int32) (0 : Int32) M P k0 h) ⟨rfl, rfl, rfl, rfl, rfl, True.intro⟩
def fX2_joinsAmong (a1 : Int32) (a2 : Int32) (M : gMem) : Option (Int32) := fX2_joinsAmong_0 a1 a2 M
theorem SX2_joinsAmong {G : gG} (a1 : Int32) (a2 : Int32) (M : gMem) {r : Int32} (h : fX2_joinsAmong a1 a2 M = some r) : gRun G YX2_joinsAmong 1 [.ref 14, .int a1, .int a2] M (fun r' N' => r' = some (.int r) ∧ N' = M) := gRun_in (by decide +kernel) rfl (fun d hd => go_wk (CX2_joinsAmong_0 hd a1 a2 M (fun p => p = r) (fun r hh => ⟨congrArg (fun z => some (Value.int z)) hh, rfl⟩) (gq_of h)) ⟨rfl, rfl, rfl, True.intro⟩)
def fX2_firmWidth_0 (x1 : Nat) (x2 : Int32) (x3 : Int32) (x4 : Int32) (M : gMem) : Option (Int32) :=
  if gIx 7 48 x2 = true then if gIx 1 (gRa 48 (Int32.toNatClampNeg x2)) x3 = true then if (M.1 (gRa 48 (Int32.toNatClampNeg x2)) (Int32.toNatClampNeg x3)) = 0 then some (0 : Int32) else gB0 (fX2_joinsAmong (M.1 (gRa 48 (Int32.toNatClampNeg x2)) (Int32.toNatClampNeg x3)) x2 M) (fun r3 => gB0 (fX7_widthOf x1 (M.1 (gRa 48 (Int32.toNatClampNeg x2)) (Int32.toNatClampNeg x3)) x4 r3 M) (fun r5 => some r5)) else none else none
set_option maxRecDepth 100000 in
theorem CX2_firmWidth_0 {G : gG} {d : Nat} {Z : Option Value → gMem → Prop} (hd : 2 ≤ d) (x1 : Nat) (x2 : Int32) (x3 : Int32) (x4 : Int32) (M : gMem) (o_x1 : gOb 7 x1 = true) (P : Int32 → Prop) (k0 : ∀ (r : Int32), P r → Z (some (.int r)) M) (h : gOKq (fX2_firmWidth_0 x1 x2 x3 x4 M) P) : gGo G YX2_firmWidth d Z 0 [some (.ref 14), some (.ref x1), some (.int x2), some (.int x3), some (.int x4), none] [] M := by
  unfold fX2_firmWidth_0 at h
  refine go_rn 1 (pc' := 1) (L' := [some (.ref 14), some (.ref x1), some (.int x2), some (.int x3), some (.int x4), none]) (S' := [.ref 14]) (M' := M) okX2_firmWidth rfl ?_
  refine go_ck okX2_firmWidth rfl (gOb_c rfl) ?_
  refine go_rn 1 (pc' := 5) (L' := [some (.ref 14), some (.ref x1), some (.int x2), some (.int x3), some (.int x4), none]) (S' := [.int x2, .ref 48]) (M' := M) okX2_firmWidth rfl ?_
  obtain ⟨c1, h⟩ := gq_if h
  refine go_ck okX2_firmWidth rfl c1 ?_
  refine go_rn 1 (pc' := 7) (L' := [some (.ref 14), some (.ref x1), some (.int x2), some (.int x3), some (.int x4), none]) (S' := [.int x3, .ref (gRa 48 (Int32.toNatClampNeg x2))]) (M' := M) okX2_firmWidth rfl ?_
  obtain ⟨c2, h⟩ := gq_if h
  refine go_ck okX2_firmWidth rfl c2 ?_
  refine go_rn 2 (pc' := 12) (L' := [some (.ref 14), some (.ref x1), some (.int x2), some (.int x3), some (.int x4), some (.int (M.1 (gRa 48 (Int32.toNatClampNeg x2)) (Int32.toNatClampNeg x3)))]) (S' := [.int (M.1 (gRa 48 (Int32.toNatClampNeg x2)) (Int32.toNatClampNeg x3))]) (M' := M) okX2_firmWidth rfl ?_
  refine go_br okX2_firmWidth rfl (fun hp => ?_) (fun hp => ?_)
  · have h := gq_pos hp h
    refine go_rn 2 (pc' := 34) (L' := [some (.ref 14), some (.ref x1), some (.int x2), some (.int x3), some (.int x4), some (.int (M.1 (gRa 48 (Int32.toNatClampNeg x2)) (Int32.toNatClampNeg x3)))]) (S' := [.int (0 : Int32)]) (M' := M) okX2_firmWidth rfl ?_
    exact go_iret (reX2_firmWidth _ (by decide)) rfl (k0 (0 : Int32) h)
  · have h := gq_neg hp h
    refine go_rn 6 (pc' := 28) (L' := [some (.ref 14), some (.ref x1), some (.int x2), some (.int x3), some (.int x4), some (.int (M.1 (gRa 48 (Int32.toNatClampNeg x2)) (Int32.toNatClampNeg x3)))]) (S' := [.int x2, .int (M.1 (gRa 48 (Int32.toNatClampNeg x2)) (Int32.toNatClampNeg x3)), .ref 14, .int x4, .int (M.1 (gRa 48 (Int32.toNatClampNeg x2)) (Int32.toNatClampNeg x3)), .ref x1]) (M' := M) okX2_firmWidth rfl ?_
    obtain ⟨r3, e4, h⟩ := gB0_ok h
    refine go_call1 ocX2_firmWidth rfl rfl (gOb_c rfl) rfl (SX2_joinsAmong (M.1 (gRa 48 (Int32.toNatClampNeg x2)) (Int32.toNatClampNeg x3)) x2 M e4) (Nat.lt_of_lt_of_le (by decide) hd) ?_
    obtain ⟨r5, e6, h⟩ := gB0_ok h
    refine go_call1 ocX2_firmWidth rfl rfl o_x1 rfl (SX7_widthOf x1 (M.1 (gRa 48 (Int32.toNatClampNeg x2)) (Int32.toNatClampNeg x3)) x4 r3 M o_x1 e6) (Nat.lt_of_lt_of_le (by decide) hd) ?_
    exact go_iret (reX2_firmWidth _ (by decide)) rfl (k0 r5 h)
def fX2_firmWidth (a1 : Nat) (a2 : Int32) (a3 : Int32) (a4 : Int32) (M : gMem) : Option (Int32) := fX2_firmWidth_0 a1 a2 a3 a4 M
theorem SX2_firmWidth {G : gG} (a1 : Nat) (a2 : Int32) (a3 : Int32) (a4 : Int32) (M : gMem) (o_a1 : gOb 7 a1 = true) {r : Int32} (h : fX2_firmWidth a1 a2 a3 a4 M = some r) : gRun G YX2_firmWidth 2 [.ref 14, .ref a1, .int a2, .int a3, .int a4] M (fun r' N' => r' = some (.int r) ∧ N' = M) := gRun_in (by decide +kernel) rfl (fun d hd => go_wk (CX2_firmWidth_0 hd a1 a2 a3 a4 M o_a1 (fun p => p = r) (fun r hh => ⟨congrArg (fun z => some (Value.int z)) hh, rfl⟩) (gq_of h)) ⟨rfl, rfl, rfl, rfl, rfl, True.intro⟩)
def fX2_doorsOf_17 (x1 : Nat) (x5 : Int32) (x6 : Int32) (x7 : Int32) (M : gMem) : Option (Sum (Int32 × Int32) (Int32)) :=
  if (M.1 x1 7) ≤ x7 then some (.inr x6) else if x5 = 0 then some (.inl (x6, (x7 + 1))) else if gIx 1 (x1 + 7) x7 = true then if (M.1 (x1 + 7) (Int32.toNatClampNeg x7)) < x5 then some (.inl (x6, (x7 + 1))) else some (.inl ((x6 ||| ((1 : Int32) <<< (x7 &&& 31))), (x7 + 1))) else none
set_option maxRecDepth 100000 in
theorem CX2_doorsOf_17 {G : gG} {d : Nat} {Z : Option Value → gMem → Prop} (hd : 3 ≤ d) (x1 : Nat) (x5 : Int32) (x6 : Int32) (x7 : Int32) (M : gMem) (o_x1 : gOb 7 x1 = true) (P : Sum (Int32 × Int32) (Int32) → Prop) (k0 : ∀ (r : Int32), P (.inr r) → Z (some (.int r)) M) (k1 : ∀ (x6 : Int32) (x7 : Int32), P (.inl (x6, x7)) → gGo G YX2_doorsOf d Z 17 [none, some (.ref x1), none, none, none, some (.int x5), some (.int x6), some (.int x7)] [] M) (h : gOKq (fX2_doorsOf_17 x1 x5 x6 x7 M) P) : gGo G YX2_doorsOf d Z 17 [none, some (.ref x1), none, none, none, some (.int x5), some (.int x6), some (.int x7)] [] M := by
  unfold fX2_doorsOf_17 at h
  refine go_rn 2 (pc' := 20) (L' := [none, some (.ref x1), none, none, none, some (.int x5), some (.int x6), some (.int x7)]) (S' := [.ref x1, .int x7]) (M' := M) okX2_doorsOf rfl ?_
  refine go_ck okX2_doorsOf rfl o_x1 ?_
  refine go_br okX2_doorsOf rfl (fun hp => ?_) (fun hp => ?_)
  · have h := gq_pos hp h
    refine go_rn 1 (pc' := 60) (L' := [none, some (.ref x1), none, none, none, some (.int x5), some (.int x6), some (.int x7)]) (S' := [.int x6]) (M' := M) okX2_doorsOf rfl ?_
    exact go_iret (reX2_doorsOf _ (by decide)) rfl (k0 x6 h)
  · have h := gq_neg hp h
    refine go_rn 1 (pc' := 28) (L' := [none, some (.ref x1), none, none, none, some (.int x5), some (.int x6), some (.int x7)]) (S' := [.int x5]) (M' := M) okX2_doorsOf rfl ?_
    refine go_br okX2_doorsOf rfl (fun hp => ?_) (fun hp => ?_)
    · have h := gq_pos hp h
      refine go_rn 2 (pc' := 17) (L' := [none, some (.ref x1), none, none, none, some (.int x5), some (.int x6), some (.int (x7 + 1))]) (S' := []) (M' := M) okX2_doorsOf rfl ?_
      exact go_wk (k1 (x6) ((x7 + 1)) h) ⟨rfl, rfl, rfl, rfl, True.intro⟩
    · have h := gq_neg hp h
      refine go_rn 2 (pc' := 34) (L' := [none, some (.ref x1), none, none, none, some (.int x5), some (.int x6), some (.int x7)]) (S' := [.ref x1, .int x5]) (M' := M) okX2_doorsOf rfl ?_
      refine go_ck okX2_doorsOf rfl o_x1 ?_
      refine go_rn 1 (pc' := 39) (L' := [none, some (.ref x1), none, none, none, some (.int x5), some (.int x6), some (.int x7)]) (S' := [.int x7, .ref (x1 + 7), .int x5]) (M' := M) okX2_doorsOf rfl ?_
      obtain ⟨c1, h⟩ := gq_if h
      refine go_ck okX2_doorsOf rfl c1 ?_
      refine go_br okX2_doorsOf rfl (fun hp => ?_) (fun hp => ?_)
      · have h := gq_pos hp h
        refine go_rn 2 (pc' := 17) (L' := [none, some (.ref x1), none, none, none, some (.int x5), some (.int x6), some (.int (x7 + 1))]) (S' := []) (M' := M) okX2_doorsOf rfl ?_
        exact go_wk (k1 (x6) ((x7 + 1)) h) ⟨rfl, rfl, rfl, rfl, True.intro⟩
      · have h := gq_neg hp h
        refine go_rn 8 (pc' := 17) (L' := [none, some (.ref x1), none, none, none, some (.int x5), some (.int (x6 ||| ((1 : Int32) <<< (x7 &&& 31)))), some (.int (x7 + 1))]) (S' := []) (M' := M) okX2_doorsOf rfl ?_
        exact go_wk (k1 ((x6 ||| ((1 : Int32) <<< (x7 &&& 31)))) ((x7 + 1)) h) ⟨rfl, rfl, rfl, rfl, True.intro⟩
def fX2_doorsOf_17h (x1 : Nat) (x5 : Int32) (x6 : Int32) (x7 : Int32) (M : gMem) : Option (Int32) :=
  gLp (fun s : Int32 × Int32 => fX2_doorsOf_17 x1 x5 (s.1) (s.2) M) gFu (x6, x7)
set_option maxRecDepth 100000 in
theorem CX2_doorsOf_17h {G : gG} {d : Nat} {Z : Option Value → gMem → Prop} (hd : 3 ≤ d) (x1 : Nat) (x5 : Int32) (x6 : Int32) (x7 : Int32) (M : gMem) (o_x1 : gOb 7 x1 = true) (P : Int32 → Prop) (k0 : ∀ (r : Int32), P r → Z (some (.int r)) M) (h : gOKq (fX2_doorsOf_17h x1 x5 x6 x7 M) P) : gGo G YX2_doorsOf d Z 17 [none, some (.ref x1), none, none, none, some (.int x5), some (.int x6), some (.int x7)] [] M :=
  gLp_go (K := fun s : Int32 × Int32 => gGo G YX2_doorsOf d Z 17 [none, some (.ref x1), none, none, none, some (.int x5), some (.int s.1), some (.int s.2)] [] M) (P := P) (fun s hs => CX2_doorsOf_17 hd (x1) (x5) (s.1) (s.2) M o_x1 (Sum.elim (fun s : Int32 × Int32 => gGo G YX2_doorsOf d Z 17 [none, some (.ref x1), none, none, none, some (.int x5), some (.int s.1), some (.int s.2)] [] M) P) k0 (fun x6 x7 hh => hh) hs) gFu (x6, x7) h
def fX2_doorsOf_0 (x1 : Nat) (x2 : Int32) (x3 : Int32) (x4 : Int32) (M : gMem) : Option (Int32) :=
  gB0 (fX2_firmWidth x1 x2 x3 x4 M) (fun r1 => fX2_doorsOf_17h x1 r1 (0 : Int32) (0 : Int32) M)
set_option maxRecDepth 100000 in
theorem CX2_doorsOf_0 {G : gG} {d : Nat} {Z : Option Value → gMem → Prop} (hd : 3 ≤ d) (x1 : Nat) (x2 : Int32) (x3 : Int32) (x4 : Int32) (M : gMem) (o_x1 : gOb 7 x1 = true) (P : Int32 → Prop) (k0 : ∀ (r : Int32), P r → Z (some (.int r)) M) (h : gOKq (fX2_doorsOf_0 x1 x2 x3 x4 M) P) : gGo G YX2_doorsOf d Z 0 [some (.ref 14), some (.ref x1), some (.int x2), some (.int x3), some (.int x4), none, none, none] [] M := by
  unfold fX2_doorsOf_0 at h
  refine go_rn 5 (pc' := 6) (L' := [some (.ref 14), some (.ref x1), some (.int x2), some (.int x3), some (.int x4), none, none, none]) (S' := [.int x4, .int x3, .int x2, .ref x1, .ref 14]) (M' := M) okX2_doorsOf rfl ?_
  obtain ⟨r1, e2, h⟩ := gB0_ok h
  refine go_call1 ocX2_doorsOf rfl rfl (gOb_c rfl) rfl (SX2_firmWidth x1 x2 x3 x4 M o_x1 e2) (Nat.lt_of_lt_of_le (by decide) hd) ?_
  refine go_rn 5 (pc' := 17) (L' := [some (.ref 14), some (.ref x1), some (.int x2), some (.int x3), some (.int x4), some (.int r1), some (.int (0 : Int32)), some (.int (0 : Int32))]) (S' := []) (M' := M) okX2_doorsOf rfl ?_
  exact go_wk (CX2_doorsOf_17h hd x1 r1 (0 : Int32) (0 : Int32) M o_x1 P k0 h) ⟨rfl, rfl, rfl, rfl, True.intro⟩
def fX2_doorsOf (a1 : Nat) (a2 : Int32) (a3 : Int32) (a4 : Int32) (M : gMem) : Option (Int32) := fX2_doorsOf_0 a1 a2 a3 a4 M
theorem SX2_doorsOf {G : gG} (a1 : Nat) (a2 : Int32) (a3 : Int32) (a4 : Int32) (M : gMem) (o_a1 : gOb 7 a1 = true) {r : Int32} (h : fX2_doorsOf a1 a2 a3 a4 M = some r) : gRun G YX2_doorsOf 3 [.ref 14, .ref a1, .int a2, .int a3, .int a4] M (fun r' N' => r' = some (.int r) ∧ N' = M) := gRun_in (by decide +kernel) rfl (fun d hd => go_wk (CX2_doorsOf_0 hd a1 a2 a3 a4 M o_a1 (fun p => p = r) (fun r hh => ⟨congrArg (fun z => some (Value.int z)) hh, rfl⟩) (gq_of h)) ⟨rfl, rfl, rfl, rfl, rfl, True.intro⟩)
def fX2_distance_25 (x2 : Int32) (x3 : Int32) (x4 : Int32) (x5 : Int32) (M : gMem) : Option (Sum (Int32 × Int32) (Int32)) :=
  if (6 : Int32) ≤ x5 then some (.inr (-1 : Int32)) else gB0 (fX8_has x4 x2 M) (fun r1 => if r1 = 0 then if gIx 7 35 x3 = true then gB0 (fX2_tiedTo (gRa 35 (Int32.toNatClampNeg x3)) x4 M) (fun r4 => some (.inl ((x4 ||| r4), (x5 + 1)))) else none else some (.inr x5))
set_option maxRecDepth 100000 in
theorem CX2_distance_25 {G : gG} {d : Nat} {Z : Option Value → gMem → Prop} (hd : 2 ≤ d) (x2 : Int32) (x3 : Int32) (x4 : Int32) (x5 : Int32) (M : gMem) (P : Sum (Int32 × Int32) (Int32) → Prop) (k0 : ∀ (r : Int32), P (.inr r) → Z (some (.int r)) M) (k1 : ∀ (x4 : Int32) (x5 : Int32), P (.inl (x4, x5)) → gGo G YX2_distance d Z 25 [some (.ref 14), none, some (.int x2), some (.int x3), some (.int x4), some (.int x5)] [] M) (h : gOKq (fX2_distance_25 x2 x3 x4 x5 M) P) : gGo G YX2_distance d Z 25 [some (.ref 14), none, some (.int x2), some (.int x3), some (.int x4), some (.int x5)] [] M := by
  unfold fX2_distance_25 at h
  refine go_rn 2 (pc' := 29) (L' := [some (.ref 14), none, some (.int x2), some (.int x3), some (.int x4), some (.int x5)]) (S' := [.int (6 : Int32), .int x5]) (M' := M) okX2_distance rfl ?_
  refine go_br okX2_distance rfl (fun hp => ?_) (fun hp => ?_)
  · have h := gq_pos hp h
    refine go_rn 1 (pc' := 67) (L' := [some (.ref 14), none, some (.int x2), some (.int x3), some (.int x4), some (.int x5)]) (S' := [.int (-1 : Int32)]) (M' := M) okX2_distance rfl ?_
    exact go_iret (reX2_distance _ (by decide)) rfl (k0 (-1 : Int32) h)
  · have h := gq_neg hp h
    refine go_rn 2 (pc' := 35) (L' := [some (.ref 14), none, some (.int x2), some (.int x3), some (.int x4), some (.int x5)]) (S' := [.int x2, .int x4]) (M' := M) okX2_distance rfl ?_
    obtain ⟨r1, e2, h⟩ := gB0_ok h
    refine go_call1 ocX2_distance rfl rfl rfl rfl (SX8_has x4 x2 M e2) (Nat.lt_of_lt_of_le (by decide) hd) ?_
    refine go_br okX2_distance rfl (fun hp => ?_) (fun hp => ?_)
    · have h := gq_pos hp h
      refine go_rn 2 (pc' := 47) (L' := [some (.ref 14), none, some (.int x2), some (.int x3), some (.int x4), some (.int x5)]) (S' := [.ref 14, .int x4]) (M' := M) okX2_distance rfl ?_
      refine go_ck okX2_distance rfl (gOb_c rfl) ?_
      refine go_rn 1 (pc' := 51) (L' := [some (.ref 14), none, some (.int x2), some (.int x3), some (.int x4), some (.int x5)]) (S' := [.int x3, .ref 35, .int x4]) (M' := M) okX2_distance rfl ?_
      obtain ⟨c3, h⟩ := gq_if h
      refine go_ck okX2_distance rfl c3 ?_
      refine go_rn 1 (pc' := 54) (L' := [some (.ref 14), none, some (.int x2), some (.int x3), some (.int x4), some (.int x5)]) (S' := [.int x4, .ref (gRa 35 (Int32.toNatClampNeg x3)), .int x4]) (M' := M) okX2_distance rfl ?_
      obtain ⟨r4, e5, h⟩ := gB0_ok h
      refine go_call1 ocX2_distance rfl rfl rfl rfl (SX2_tiedTo (gRa 35 (Int32.toNatClampNeg x3)) x4 M e5) (Nat.lt_of_lt_of_le (by decide) hd) ?_
      refine go_rn 4 (pc' := 25) (L' := [some (.ref 14), none, some (.int x2), some (.int x3), some (.int (x4 ||| r4)), some (.int (x5 + 1))]) (S' := []) (M' := M) okX2_distance rfl ?_
      exact go_wk (k1 ((x4 ||| r4)) ((x5 + 1)) h) ⟨rfl, rfl, rfl, rfl, rfl, True.intro⟩
    · have h := gq_neg hp h
      refine go_rn 1 (pc' := 43) (L' := [some (.ref 14), none, some (.int x2), some (.int x3), some (.int x4), some (.int x5)]) (S' := [.int x5]) (M' := M) okX2_distance rfl ?_
      exact go_iret (reX2_distance _ (by decide)) rfl (k0 x5 h)
def fX2_distance_25h (x2 : Int32) (x3 : Int32) (x4 : Int32) (x5 : Int32) (M : gMem) : Option (Int32) :=
  gLp (fun s : Int32 × Int32 => fX2_distance_25 x2 x3 (s.1) (s.2) M) gFu (x4, x5)
set_option maxRecDepth 100000 in
theorem CX2_distance_25h {G : gG} {d : Nat} {Z : Option Value → gMem → Prop} (hd : 2 ≤ d) (x2 : Int32) (x3 : Int32) (x4 : Int32) (x5 : Int32) (M : gMem) (P : Int32 → Prop) (k0 : ∀ (r : Int32), P r → Z (some (.int r)) M) (h : gOKq (fX2_distance_25h x2 x3 x4 x5 M) P) : gGo G YX2_distance d Z 25 [some (.ref 14), none, some (.int x2), some (.int x3), some (.int x4), some (.int x5)] [] M :=
  gLp_go (K := fun s : Int32 × Int32 => gGo G YX2_distance d Z 25 [some (.ref 14), none, some (.int x2), some (.int x3), some (.int s.1), some (.int s.2)] [] M) (P := P) (fun s hs => CX2_distance_25 hd (x2) (x3) (s.1) (s.2) M (Sum.elim (fun s : Int32 × Int32 => gGo G YX2_distance d Z 25 [some (.ref 14), none, some (.int x2), some (.int x3), some (.int s.1), some (.int s.2)] [] M) P) k0 (fun x4 x5 hh => hh) hs) gFu (x4, x5) h
def fX2_distance_0 (x1 : Int32) (x2 : Int32) (x3 : Int32) (M : gMem) : Option (Int32) :=
  if gIx 7 48 x3 = true then if gIx 1 (gRa 48 (Int32.toNatClampNeg x3)) x1 = true then gB0 (fX8_has (M.1 (gRa 48 (Int32.toNatClampNeg x3)) (Int32.toNatClampNeg x1)) x2 M) (fun r3 => if r3 = 0 then some (-1 : Int32) else fX2_distance_25h x2 x3 ((1 : Int32) <<< (x1 &&& 31)) (0 : Int32) M) else none else none
set_option maxRecDepth 100000 in
theorem CX2_distance_0 {G : gG} {d : Nat} {Z : Option Value → gMem → Prop} (hd : 2 ≤ d) (x1 : Int32) (x2 : Int32) (x3 : Int32) (M : gMem) (P : Int32 → Prop) (k0 : ∀ (r : Int32), P r → Z (some (.int r)) M) (h : gOKq (fX2_distance_0 x1 x2 x3 M) P) : gGo G YX2_distance d Z 0 [some (.ref 14), some (.int x1), some (.int x2), some (.int x3), none, none] [] M := by
  unfold fX2_distance_0 at h
  refine go_rn 1 (pc' := 1) (L' := [some (.ref 14), some (.int x1), some (.int x2), some (.int x3), none, none]) (S' := [.ref 14]) (M' := M) okX2_distance rfl ?_
  refine go_ck okX2_distance rfl (gOb_c rfl) ?_
  refine go_rn 1 (pc' := 5) (L' := [some (.ref 14), some (.int x1), some (.int x2), some (.int x3), none, none]) (S' := [.int x3, .ref 48]) (M' := M) okX2_distance rfl ?_
  obtain ⟨c1, h⟩ := gq_if h
  refine go_ck okX2_distance rfl c1 ?_
  refine go_rn 1 (pc' := 7) (L' := [some (.ref 14), some (.int x1), some (.int x2), some (.int x3), none, none]) (S' := [.int x1, .ref (gRa 48 (Int32.toNatClampNeg x3))]) (M' := M) okX2_distance rfl ?_
  obtain ⟨c2, h⟩ := gq_if h
  refine go_ck okX2_distance rfl c2 ?_
  refine go_rn 1 (pc' := 9) (L' := [some (.ref 14), some (.int x1), some (.int x2), some (.int x3), none, none]) (S' := [.int x2, .int (M.1 (gRa 48 (Int32.toNatClampNeg x3)) (Int32.toNatClampNeg x1))]) (M' := M) okX2_distance rfl ?_
  obtain ⟨r3, e4, h⟩ := gB0_ok h
  refine go_call1 ocX2_distance rfl rfl rfl rfl (SX8_has (M.1 (gRa 48 (Int32.toNatClampNeg x3)) (Int32.toNatClampNeg x1)) x2 M e4) (Nat.lt_of_lt_of_le (by decide) hd) ?_
  refine go_br okX2_distance rfl (fun hp => ?_) (fun hp => ?_)
  · have h := gq_pos hp h
    refine go_rn 1 (pc' := 16) (L' := [some (.ref 14), some (.int x1), some (.int x2), some (.int x3), none, none]) (S' := [.int (-1 : Int32)]) (M' := M) okX2_distance rfl ?_
    exact go_iret (reX2_distance _ (by decide)) rfl (k0 (-1 : Int32) h)
  · have h := gq_neg hp h
    refine go_rn 6 (pc' := 25) (L' := [some (.ref 14), some (.int x1), some (.int x2), some (.int x3), some (.int ((1 : Int32) <<< (x1 &&& 31))), some (.int (0 : Int32))]) (S' := []) (M' := M) okX2_distance rfl ?_
    exact go_wk (CX2_distance_25h hd x2 x3 ((1 : Int32) <<< (x1 &&& 31)) (0 : Int32) M P k0 h) ⟨rfl, rfl, rfl, rfl, rfl, True.intro⟩
def fX2_distance (a1 : Int32) (a2 : Int32) (a3 : Int32) (M : gMem) : Option (Int32) := fX2_distance_0 a1 a2 a3 M
theorem SX2_distance {G : gG} (a1 : Int32) (a2 : Int32) (a3 : Int32) (M : gMem) {r : Int32} (h : fX2_distance a1 a2 a3 M = some r) : gRun G YX2_distance 2 [.ref 14, .int a1, .int a2, .int a3] M (fun r' N' => r' = some (.int r) ∧ N' = M) := gRun_in (by decide +kernel) rfl (fun d hd => go_wk (CX2_distance_0 hd a1 a2 a3 M (fun p => p = r) (fun r hh => ⟨congrArg (fun z => some (Value.int z)) hh, rfl⟩) (gq_of h)) ⟨rfl, rfl, rfl, rfl, True.intro⟩)
def fX3_isBelow_0 (x0 : Int64) (x2 : Int32) (M : gMem) : Option (Int32) :=
  if (lg_cmp x0 (0 : Int64)) < 0 then some (0 : Int32) else if 0 ≤ (lg_cmp x0 (Int32.toInt64 x2)) then some (0 : Int32) else some (1 : Int32)
set_option maxRecDepth 100000 in
theorem CX3_isBelow_0 {G : gG} {d : Nat} {Z : Option Value → gMem → Prop} (hd : 0 ≤ d) (x0 : Int64) (x2 : Int32) (M : gMem) (P : Int32 → Prop) (k0 : ∀ (r : Int32), P r → Z (some (.int r)) M) (h : gOKq (fX3_isBelow_0 x0 x2 M) P) : gGo G YX3_isBelow d Z 0 [some (.long x0), none, some (.int x2)] [] M := by
  unfold fX3_isBelow_0 at h
  refine go_rn 3 (pc' := 3) (L' := [some (.long x0), none, some (.int x2)]) (S' := [.int (lg_cmp x0 (0 : Int64))]) (M' := M) okX3_isBelow rfl ?_
  refine go_br okX3_isBelow rfl (fun hp => ?_) (fun hp => ?_)
  · have h := gq_pos hp h
    refine go_rn 1 (pc' := 18) (L' := [some (.long x0), none, some (.int x2)]) (S' := [.int (0 : Int32)]) (M' := M) okX3_isBelow rfl ?_
    exact go_zret (reX3_isBelow _ (by decide)) rfl (Or.inl rfl) (k0 (0 : Int32) h)
  · have h := gq_neg hp h
    refine go_rn 4 (pc' := 10) (L' := [some (.long x0), none, some (.int x2)]) (S' := [.int (lg_cmp x0 (Int32.toInt64 x2))]) (M' := M) okX3_isBelow rfl ?_
    refine go_br okX3_isBelow rfl (fun hp => ?_) (fun hp => ?_)
    · have h := gq_pos hp h
      refine go_rn 1 (pc' := 18) (L' := [some (.long x0), none, some (.int x2)]) (S' := [.int (0 : Int32)]) (M' := M) okX3_isBelow rfl ?_
      exact go_zret (reX3_isBelow _ (by decide)) rfl (Or.inl rfl) (k0 (0 : Int32) h)
    · have h := gq_neg hp h
      refine go_rn 2 (pc' := 18) (L' := [some (.long x0), none, some (.int x2)]) (S' := [.int (1 : Int32)]) (M' := M) okX3_isBelow rfl ?_
      exact go_zret (reX3_isBelow _ (by decide)) rfl (Or.inr rfl) (k0 (1 : Int32) h)
def fX3_isBelow (a0 : Int64) (a1 : Int32) (M : gMem) : Option (Int32) := fX3_isBelow_0 a0 a1 M
theorem SX3_isBelow {G : gG} (a0 : Int64) (a1 : Int32) (M : gMem) {r : Int32} (h : fX3_isBelow a0 a1 M = some r) : gRun G YX3_isBelow 0 [.long a0, .int a1] M (fun r' N' => r' = some (.int r) ∧ N' = M) := gRun_in (by decide +kernel) rfl (fun d hd => go_wk (CX3_isBelow_0 hd a0 a1 M (fun p => p = r) (fun r hh => ⟨congrArg (fun z => some (Value.int z)) hh, rfl⟩) (gq_of h)) ⟨rfl, rfl, True.intro⟩)
def fX3_canRead_77 (x0 : Nat) (x1 : Nat) (x2 : Int32) (s0 : Int32) (M : gMem) : Option (Sum (Int32) (Int32)) :=
  if s0 = 0 then some (.inr (0 : Int32)) else some (.inl ((x2 + 3)))
set_option maxRecDepth 100000 in
theorem CX3_canRead_77 {G : gG} {d : Nat} {Z : Option Value → gMem → Prop} (hd : 1 ≤ d) (x0 : Nat) (x1 : Nat) (x2 : Int32) (s0 : Int32) (M : gMem) (o_x0 : gOb 7 x0 = true) (o_x1 : gOb 4 x1 = true) (P : Sum (Int32) (Int32) → Prop) (k0 : ∀ (r : Int32), P (.inr r) → Z (some (.int r)) M) (k1 : ∀ (x2 : Int32), P (.inl (x2)) → gGo G YX3_canRead d Z 13 [some (.ref x0), some (.ref x1), some (.int x2), none] [] M) (h : gOKq (fX3_canRead_77 x0 x1 x2 s0 M) P) : gGo G YX3_canRead d Z 77 [some (.ref x0), some (.ref x1), some (.int x2), none] [.int s0] M := by
  unfold fX3_canRead_77 at h
  refine go_rn 2 (pc' := 79) (L' := [some (.ref x0), some (.ref x1), some (.int x2), some (.int s0)]) (S' := [.int s0]) (M' := M) okX3_canRead rfl ?_
  refine go_br okX3_canRead rfl (fun hp => ?_) (fun hp => ?_)
  · have h := gq_pos hp h
    refine go_rn 1 (pc' := 83) (L' := [some (.ref x0), some (.ref x1), some (.int x2), some (.int s0)]) (S' := [.int (0 : Int32)]) (M' := M) okX3_canRead rfl ?_
    exact go_zret (reX3_canRead _ (by decide)) rfl (Or.inl rfl) (k0 (0 : Int32) h)
  · have h := gq_neg hp h
    refine go_rn 2 (pc' := 13) (L' := [some (.ref x0), some (.ref x1), some (.int (x2 + 3)), some (.int s0)]) (S' := []) (M' := M) okX3_canRead rfl ?_
    exact go_wk (k1 ((x2 + 3)) h) ⟨rfl, rfl, rfl, True.intro⟩
def fX3_canRead_76 (x0 : Nat) (x1 : Nat) (x2 : Int32) (M : gMem) : Option (Sum (Int32) (Int32)) :=
  fX3_canRead_77 x0 x1 x2 (0 : Int32) M
set_option maxRecDepth 100000 in
theorem CX3_canRead_76 {G : gG} {d : Nat} {Z : Option Value → gMem → Prop} (hd : 1 ≤ d) (x0 : Nat) (x1 : Nat) (x2 : Int32) (M : gMem) (o_x0 : gOb 7 x0 = true) (o_x1 : gOb 4 x1 = true) (P : Sum (Int32) (Int32) → Prop) (k0 : ∀ (r : Int32), P (.inr r) → Z (some (.int r)) M) (k1 : ∀ (x2 : Int32), P (.inl (x2)) → gGo G YX3_canRead d Z 13 [some (.ref x0), some (.ref x1), some (.int x2), none] [] M) (h : gOKq (fX3_canRead_76 x0 x1 x2 M) P) : gGo G YX3_canRead d Z 76 [some (.ref x0), some (.ref x1), some (.int x2), none] [] M := by
  unfold fX3_canRead_76 at h
  refine go_rn 1 (pc' := 77) (L' := [some (.ref x0), some (.ref x1), some (.int x2), none]) (S' := [.int (0 : Int32)]) (M' := M) okX3_canRead rfl ?_
  exact go_wk (CX3_canRead_77 hd x0 x1 x2 (0 : Int32) M o_x0 o_x1 P k0 k1 h) ⟨rfl, rfl, rfl, True.intro⟩
def fX3_canRead_13 (x0 : Nat) (x1 : Nat) (x2 : Int32) (M : gMem) : Option (Sum (Int32) (Int32)) :=
  if (M.1 x1 2) ≤ (x2 + (2 : Int32)) then some (.inr (1 : Int32)) else if gIx 4 (x1 + 1) x2 = true then gB0 (fX3_isBelow (M.2.1 (x1 + 1) (Int32.toNatClampNeg x2)) (M.1 x0 5) M) (fun r2 => if r2 = 0 then fX3_canRead_76 x0 x1 x2 M else if gIx 4 (x1 + 1) (x2 + (1 : Int32)) = true then gB0 (fX3_isBelow (M.2.1 (x1 + 1) (Int32.toNatClampNeg (x2 + (1 : Int32)))) (M.1 x0 7) M) (fun r5 => if r5 = 0 then fX3_canRead_76 x0 x1 x2 M else if gIx 4 (x1 + 1) (x2 + (2 : Int32)) = true then gB0 (fX3_isBelow (M.2.1 (x1 + 1) (Int32.toNatClampNeg (x2 + (2 : Int32)))) (2 : Int32) M) (fun r8 => if r8 = 0 then fX3_canRead_76 x0 x1 x2 M else fX3_canRead_77 x0 x1 x2 (1 : Int32) M) else none) else none) else none
set_option maxRecDepth 100000 in
theorem CX3_canRead_13 {G : gG} {d : Nat} {Z : Option Value → gMem → Prop} (hd : 1 ≤ d) (x0 : Nat) (x1 : Nat) (x2 : Int32) (M : gMem) (o_x0 : gOb 7 x0 = true) (o_x1 : gOb 4 x1 = true) (P : Sum (Int32) (Int32) → Prop) (k0 : ∀ (r : Int32), P (.inr r) → Z (some (.int r)) M) (k1 : ∀ (x2 : Int32), P (.inl (x2)) → gGo G YX3_canRead d Z 13 [some (.ref x0), some (.ref x1), some (.int x2), none] [] M) (h : gOKq (fX3_canRead_13 x0 x1 x2 M) P) : gGo G YX3_canRead d Z 13 [some (.ref x0), some (.ref x1), some (.int x2), none] [] M := by
  unfold fX3_canRead_13 at h
  refine go_rn 4 (pc' := 17) (L' := [some (.ref x0), some (.ref x1), some (.int x2), none]) (S' := [.ref x1, .int (x2 + (2 : Int32))]) (M' := M) okX3_canRead rfl ?_
  refine go_ck okX3_canRead rfl o_x1 ?_
  refine go_br okX3_canRead rfl (fun hp => ?_) (fun hp => ?_)
  · have h := gq_pos hp h
    refine go_rn 1 (pc' := 91) (L' := [some (.ref x0), some (.ref x1), some (.int x2), none]) (S' := [.int (1 : Int32)]) (M' := M) okX3_canRead rfl ?_
    exact go_zret (reX3_canRead _ (by decide)) rfl (Or.inr rfl) (k0 (1 : Int32) h)
  · have h := gq_neg hp h
    refine go_rn 1 (pc' := 24) (L' := [some (.ref x0), some (.ref x1), some (.int x2), none]) (S' := [.ref x1]) (M' := M) okX3_canRead rfl ?_
    refine go_ck okX3_canRead rfl o_x1 ?_
    refine go_rn 1 (pc' := 28) (L' := [some (.ref x0), some (.ref x1), some (.int x2), none]) (S' := [.int x2, .ref (x1 + 1)]) (M' := M) okX3_canRead rfl ?_
    obtain ⟨c1, h⟩ := gq_if h
    refine go_ck okX3_canRead rfl c1 ?_
    refine go_rn 1 (pc' := 30) (L' := [some (.ref x0), some (.ref x1), some (.int x2), none]) (S' := [.ref x0, .long (M.2.1 (x1 + 1) (Int32.toNatClampNeg x2))]) (M' := M) okX3_canRead rfl ?_
    refine go_ck okX3_canRead rfl o_x0 ?_
    obtain ⟨r2, e3, h⟩ := gB0_ok h
    refine go_call1 ocX3_canRead rfl rfl rfl rfl (SX3_isBelow (M.2.1 (x1 + 1) (Int32.toNatClampNeg x2)) (M.1 x0 5) M e3) (Nat.lt_of_lt_of_le (by decide) hd) ?_
    refine go_br okX3_canRead rfl (fun hp => ?_) (fun hp => ?_)
    · have h := gq_pos hp h
      exact go_wk (CX3_canRead_76 hd x0 x1 x2 M o_x0 o_x1 P k0 k1 h) ⟨rfl, rfl, rfl, True.intro⟩
    · have h := gq_neg hp h
      refine go_rn 1 (pc' := 40) (L' := [some (.ref x0), some (.ref x1), some (.int x2), none]) (S' := [.ref x1]) (M' := M) okX3_canRead rfl ?_
      refine go_ck okX3_canRead rfl o_x1 ?_
      refine go_rn 3 (pc' := 46) (L' := [some (.ref x0), some (.ref x1), some (.int x2), none]) (S' := [.int (x2 + (1 : Int32)), .ref (x1 + 1)]) (M' := M) okX3_canRead rfl ?_
      obtain ⟨c4, h⟩ := gq_if h
      refine go_ck okX3_canRead rfl c4 ?_
      refine go_rn 1 (pc' := 48) (L' := [some (.ref x0), some (.ref x1), some (.int x2), none]) (S' := [.ref x0, .long (M.2.1 (x1 + 1) (Int32.toNatClampNeg (x2 + (1 : Int32))))]) (M' := M) okX3_canRead rfl ?_
      refine go_ck okX3_canRead rfl o_x0 ?_
      obtain ⟨r5, e6, h⟩ := gB0_ok h
      refine go_call1 ocX3_canRead rfl rfl rfl rfl (SX3_isBelow (M.2.1 (x1 + 1) (Int32.toNatClampNeg (x2 + (1 : Int32)))) (M.1 x0 7) M e6) (Nat.lt_of_lt_of_le (by decide) hd) ?_
      refine go_br okX3_canRead rfl (fun hp => ?_) (fun hp => ?_)
      · have h := gq_pos hp h
        exact go_wk (CX3_canRead_76 hd x0 x1 x2 M o_x0 o_x1 P k0 k1 h) ⟨rfl, rfl, rfl, True.intro⟩
      · have h := gq_neg hp h
        refine go_rn 1 (pc' := 58) (L' := [some (.ref x0), some (.ref x1), some (.int x2), none]) (S' := [.ref x1]) (M' := M) okX3_canRead rfl ?_
        refine go_ck okX3_canRead rfl o_x1 ?_
        refine go_rn 3 (pc' := 64) (L' := [some (.ref x0), some (.ref x1), some (.int x2), none]) (S' := [.int (x2 + (2 : Int32)), .ref (x1 + 1)]) (M' := M) okX3_canRead rfl ?_
        obtain ⟨c7, h⟩ := gq_if h
        refine go_ck okX3_canRead rfl c7 ?_
        refine go_rn 1 (pc' := 66) (L' := [some (.ref x0), some (.ref x1), some (.int x2), none]) (S' := [.int (2 : Int32), .long (M.2.1 (x1 + 1) (Int32.toNatClampNeg (x2 + (2 : Int32))))]) (M' := M) okX3_canRead rfl ?_
        obtain ⟨r8, e9, h⟩ := gB0_ok h
        refine go_call1 ocX3_canRead rfl rfl rfl rfl (SX3_isBelow (M.2.1 (x1 + 1) (Int32.toNatClampNeg (x2 + (2 : Int32)))) (2 : Int32) M e9) (Nat.lt_of_lt_of_le (by decide) hd) ?_
        refine go_br okX3_canRead rfl (fun hp => ?_) (fun hp => ?_)
        · have h := gq_pos hp h
          exact go_wk (CX3_canRead_76 hd x0 x1 x2 M o_x0 o_x1 P k0 k1 h) ⟨rfl, rfl, rfl, True.intro⟩
        · have h := gq_neg hp h
          refine go_rn 2 (pc' := 77) (L' := [some (.ref x0), some (.ref x1), some (.int x2), none]) (S' := [.int (1 : Int32)]) (M' := M) okX3_canRead rfl ?_
          exact go_wk (CX3_canRead_77 hd x0 x1 x2 (1 : Int32) M o_x0 o_x1 P k0 k1 h) ⟨rfl, rfl, rfl, True.intro⟩
def fX3_canRead_13h (x0 : Nat) (x1 : Nat) (x2 : Int32) (M : gMem) : Option (Int32) :=
  gLp (fun s : Int32 => fX3_canRead_13 x0 x1 s M) gFu (x2)
set_option maxRecDepth 100000 in
theorem CX3_canRead_13h {G : gG} {d : Nat} {Z : Option Value → gMem → Prop} (hd : 1 ≤ d) (x0 : Nat) (x1 : Nat) (x2 : Int32) (M : gMem) (o_x0 : gOb 7 x0 = true) (o_x1 : gOb 4 x1 = true) (P : Int32 → Prop) (k0 : ∀ (r : Int32), P r → Z (some (.int r)) M) (h : gOKq (fX3_canRead_13h x0 x1 x2 M) P) : gGo G YX3_canRead d Z 13 [some (.ref x0), some (.ref x1), some (.int x2), none] [] M :=
  gLp_go (K := fun s : Int32 => gGo G YX3_canRead d Z 13 [some (.ref x0), some (.ref x1), some (.int s), none] [] M) (P := P) (fun s hs => CX3_canRead_13 hd (x0) (x1) (s) M o_x0 o_x1 (Sum.elim (fun s : Int32 => gGo G YX3_canRead d Z 13 [some (.ref x0), some (.ref x1), some (.int s), none] [] M) P) k0 (fun x2 hh => hh) hs) gFu (x2) h
def fX3_canRead_0 (x0 : Nat) (x1 : Nat) (M : gMem) : Option (Int32) :=
  if ((M.1 x1 2) - (M.1 x1 2) / (3 : Int32) * (3 : Int32)) = 0 then fX3_canRead_13h x0 x1 (0 : Int32) M else some (0 : Int32)
set_option maxRecDepth 100000 in
theorem CX3_canRead_0 {G : gG} {d : Nat} {Z : Option Value → gMem → Prop} (hd : 1 ≤ d) (x0 : Nat) (x1 : Nat) (M : gMem) (o_x0 : gOb 7 x0 = true) (o_x1 : gOb 4 x1 = true) (P : Int32 → Prop) (k0 : ∀ (r : Int32), P r → Z (some (.int r)) M) (h : gOKq (fX3_canRead_0 x0 x1 M) P) : gGo G YX3_canRead d Z 0 [some (.ref x0), some (.ref x1), none, none] [] M := by
  unfold fX3_canRead_0 at h
  refine go_rn 1 (pc' := 1) (L' := [some (.ref x0), some (.ref x1), none, none]) (S' := [.ref x1]) (M' := M) okX3_canRead rfl ?_
  refine go_ck okX3_canRead rfl o_x1 ?_
  refine go_rn 2 (pc' := 6) (L' := [some (.ref x0), some (.ref x1), none, none]) (S' := [.int ((M.1 x1 2) - (M.1 x1 2) / (3 : Int32) * (3 : Int32))]) (M' := M) okX3_canRead rfl ?_
  refine go_br okX3_canRead rfl (fun hp => ?_) (fun hp => ?_)
  · have h := gq_pos hp h
    refine go_rn 2 (pc' := 13) (L' := [some (.ref x0), some (.ref x1), some (.int (0 : Int32)), none]) (S' := []) (M' := M) okX3_canRead rfl ?_
    exact go_wk (CX3_canRead_13h hd x0 x1 (0 : Int32) M o_x0 o_x1 P k0 h) ⟨rfl, rfl, rfl, True.intro⟩
  · have h := gq_neg hp h
    refine go_rn 1 (pc' := 10) (L' := [some (.ref x0), some (.ref x1), none, none]) (S' := [.int (0 : Int32)]) (M' := M) okX3_canRead rfl ?_
    exact go_zret (reX3_canRead _ (by decide)) rfl (Or.inl rfl) (k0 (0 : Int32) h)
def fX3_canRead (a0 : Nat) (a1 : Nat) (M : gMem) : Option (Int32) := fX3_canRead_0 a0 a1 M
theorem SX3_canRead {G : gG} (a0 : Nat) (a1 : Nat) (M : gMem) (o_a0 : gOb 7 a0 = true) (o_a1 : gOb 4 a1 = true) {r : Int32} (h : fX3_canRead a0 a1 M = some r) : gRun G YX3_canRead 1 [.ref a0, .ref a1] M (fun r' N' => r' = some (.int r) ∧ N' = M) := gRun_in (by decide +kernel) rfl (fun d hd => go_wk (CX3_canRead_0 hd a0 a1 M o_a0 o_a1 (fun p => p = r) (fun r hh => ⟨congrArg (fun z => some (Value.int z)) hh, rfl⟩) (gq_of h)) ⟨rfl, rfl, True.intro⟩)
def fX7_hasDoor_0 (x0 : Nat) (x1 : Int32) (M : gMem) : Option (Int32) :=
  if x1 < 0 then some (0 : Int32) else if (M.1 x0 7) ≤ x1 then some (0 : Int32) else some (1 : Int32)
set_option maxRecDepth 100000 in
theorem CX7_hasDoor_0 {G : gG} {d : Nat} {Z : Option Value → gMem → Prop} (hd : 0 ≤ d) (x0 : Nat) (x1 : Int32) (M : gMem) (o_x0 : gOb 7 x0 = true) (P : Int32 → Prop) (k0 : ∀ (r : Int32), P r → Z (some (.int r)) M) (h : gOKq (fX7_hasDoor_0 x0 x1 M) P) : gGo G YX7_hasDoor d Z 0 [some (.ref x0), some (.int x1)] [] M := by
  unfold fX7_hasDoor_0 at h
  refine go_rn 1 (pc' := 1) (L' := [some (.ref x0), some (.int x1)]) (S' := [.int x1]) (M' := M) okX7_hasDoor rfl ?_
  refine go_br okX7_hasDoor rfl (fun hp => ?_) (fun hp => ?_)
  · have h := gq_pos hp h
    refine go_rn 1 (pc' := 17) (L' := [some (.ref x0), some (.int x1)]) (S' := [.int (0 : Int32)]) (M' := M) okX7_hasDoor rfl ?_
    exact go_zret (reX7_hasDoor _ (by decide)) rfl (Or.inl rfl) (k0 (0 : Int32) h)
  · have h := gq_neg hp h
    refine go_rn 2 (pc' := 6) (L' := [some (.ref x0), some (.int x1)]) (S' := [.ref x0, .int x1]) (M' := M) okX7_hasDoor rfl ?_
    refine go_ck okX7_hasDoor rfl o_x0 ?_
    refine go_br okX7_hasDoor rfl (fun hp => ?_) (fun hp => ?_)
    · have h := gq_pos hp h
      refine go_rn 1 (pc' := 17) (L' := [some (.ref x0), some (.int x1)]) (S' := [.int (0 : Int32)]) (M' := M) okX7_hasDoor rfl ?_
      exact go_zret (reX7_hasDoor _ (by decide)) rfl (Or.inl rfl) (k0 (0 : Int32) h)
    · have h := gq_neg hp h
      refine go_rn 2 (pc' := 17) (L' := [some (.ref x0), some (.int x1)]) (S' := [.int (1 : Int32)]) (M' := M) okX7_hasDoor rfl ?_
      exact go_zret (reX7_hasDoor _ (by decide)) rfl (Or.inr rfl) (k0 (1 : Int32) h)
def fX7_hasDoor (a0 : Nat) (a1 : Int32) (M : gMem) : Option (Int32) := fX7_hasDoor_0 a0 a1 M
theorem SX7_hasDoor {G : gG} (a0 : Nat) (a1 : Int32) (M : gMem) (o_a0 : gOb 7 a0 = true) {r : Int32} (h : fX7_hasDoor a0 a1 M = some r) : gRun G YX7_hasDoor 0 [.ref a0, .int a1] M (fun r' N' => r' = some (.int r) ∧ N' = M) := gRun_in (by decide +kernel) rfl (fun d hd => go_wk (CX7_hasDoor_0 hd a0 a1 M o_a0 (fun p => p = r) (fun r hh => ⟨congrArg (fun z => some (Value.int z)) hh, rfl⟩) (gq_of h)) ⟨rfl, rfl, True.intro⟩)
def fX7_hasPartner_0 (x0 : Nat) (x1 : Int32) (M : gMem) : Option (Int32) :=
  if x1 < 0 then some (0 : Int32) else if (M.1 x0 5) ≤ x1 then some (0 : Int32) else some (1 : Int32)
set_option maxRecDepth 100000 in
theorem CX7_hasPartner_0 {G : gG} {d : Nat} {Z : Option Value → gMem → Prop} (hd : 0 ≤ d) (x0 : Nat) (x1 : Int32) (M : gMem) (o_x0 : gOb 7 x0 = true) (P : Int32 → Prop) (k0 : ∀ (r : Int32), P r → Z (some (.int r)) M) (h : gOKq (fX7_hasPartner_0 x0 x1 M) P) : gGo G YX7_hasPartner d Z 0 [some (.ref x0), some (.int x1)] [] M := by
  unfold fX7_hasPartner_0 at h
  refine go_rn 1 (pc' := 1) (L' := [some (.ref x0), some (.int x1)]) (S' := [.int x1]) (M' := M) okX7_hasPartner rfl ?_
  refine go_br okX7_hasPartner rfl (fun hp => ?_) (fun hp => ?_)
  · have h := gq_pos hp h
    refine go_rn 1 (pc' := 17) (L' := [some (.ref x0), some (.int x1)]) (S' := [.int (0 : Int32)]) (M' := M) okX7_hasPartner rfl ?_
    exact go_zret (reX7_hasPartner _ (by decide)) rfl (Or.inl rfl) (k0 (0 : Int32) h)
  · have h := gq_neg hp h
    refine go_rn 2 (pc' := 6) (L' := [some (.ref x0), some (.int x1)]) (S' := [.ref x0, .int x1]) (M' := M) okX7_hasPartner rfl ?_
    refine go_ck okX7_hasPartner rfl o_x0 ?_
    refine go_br okX7_hasPartner rfl (fun hp => ?_) (fun hp => ?_)
    · have h := gq_pos hp h
      refine go_rn 1 (pc' := 17) (L' := [some (.ref x0), some (.int x1)]) (S' := [.int (0 : Int32)]) (M' := M) okX7_hasPartner rfl ?_
      exact go_zret (reX7_hasPartner _ (by decide)) rfl (Or.inl rfl) (k0 (0 : Int32) h)
    · have h := gq_neg hp h
      refine go_rn 2 (pc' := 17) (L' := [some (.ref x0), some (.int x1)]) (S' := [.int (1 : Int32)]) (M' := M) okX7_hasPartner rfl ?_
      exact go_zret (reX7_hasPartner _ (by decide)) rfl (Or.inr rfl) (k0 (1 : Int32) h)
def fX7_hasPartner (a0 : Nat) (a1 : Int32) (M : gMem) : Option (Int32) := fX7_hasPartner_0 a0 a1 M
theorem SX7_hasPartner {G : gG} (a0 : Nat) (a1 : Int32) (M : gMem) (o_a0 : gOb 7 a0 = true) {r : Int32} (h : fX7_hasPartner a0 a1 M = some r) : gRun G YX7_hasPartner 0 [.ref a0, .int a1] M (fun r' N' => r' = some (.int r) ∧ N' = M) := gRun_in (by decide +kernel) rfl (fun d hd => go_wk (CX7_hasPartner_0 hd a0 a1 M o_a0 (fun p => p = r) (fun r hh => ⟨congrArg (fun z => some (Value.int z)) hh, rfl⟩) (gq_of h)) ⟨rfl, rfl, True.intro⟩)
def fX3_agrees_93 (x0 : Nat) (x2 : Nat) (x3 : Int32) (x4 : Int32) (s0 : Int32) (s1 : Int32) (M : gMem) : Option (Sum (Int32) (Int32)) :=
  if s1 = s0 then some (.inl ((x4 + 3))) else some (.inr (0 : Int32))
set_option maxRecDepth 100000 in
theorem CX3_agrees_93 {G : gG} {d : Nat} {Z : Option Value → gMem → Prop} (hd : 4 ≤ d) (x0 : Nat) (x2 : Nat) (x3 : Int32) (x4 : Int32) (s0 : Int32) (s1 : Int32) (M : gMem) (o_x0 : gOb 7 x0 = true) (o_x2 : gOb 4 x2 = true) (P : Sum (Int32) (Int32) → Prop) (k0 : ∀ (r : Int32), P (.inr r) → Z (some (.int r)) M) (k1 : ∀ (x4 : Int32), P (.inl (x4)) → gGo G YX3_agrees d Z 3 [some (.ref x0), some (.ref 14), some (.ref x2), some (.int x3), some (.int x4), none, none, none] [] M) (h : gOKq (fX3_agrees_93 x0 x2 x3 x4 s0 s1 M) P) : gGo G YX3_agrees d Z 93 [some (.ref x0), some (.ref 14), some (.ref x2), some (.int x3), some (.int x4), none, none, none] [.int s0, .int s1] M := by
  unfold fX3_agrees_93 at h
  refine go_br okX3_agrees rfl (fun hp => ?_) (fun hp => ?_)
  · have h := gq_pos hp h
    refine go_rn 2 (pc' := 3) (L' := [some (.ref x0), some (.ref 14), some (.ref x2), some (.int x3), some (.int (x4 + 3)), none, none, none]) (S' := []) (M' := M) okX3_agrees rfl ?_
    exact go_wk (k1 ((x4 + 3)) h) ⟨rfl, rfl, rfl, rfl, rfl, True.intro⟩
  · have h := gq_neg hp h
    refine go_rn 1 (pc' := 97) (L' := [some (.ref x0), some (.ref 14), some (.ref x2), some (.int x3), some (.int x4), none, none, none]) (S' := [.int (0 : Int32)]) (M' := M) okX3_agrees rfl ?_
    exact go_zret (reX3_agrees _ (by decide)) rfl (Or.inl rfl) (k0 (0 : Int32) h)
def fX3_agrees_3 (x0 : Nat) (x2 : Nat) (x3 : Int32) (x4 : Int32) (M : gMem) : Option (Sum (Int32) (Int32)) :=
  if (M.1 x2 2) ≤ (x4 + (2 : Int32)) then some (.inr (1 : Int32)) else if gIx 4 (x2 + 1) x4 = true then if gIx 4 (x2 + 1) (x4 + (1 : Int32)) = true then gB0 (fX7_hasPartner x0 (Int64.toInt32 (M.2.1 (x2 + 1) (Int32.toNatClampNeg x4))) M) (fun r3 => if r3 = 0 then some (.inr (0 : Int32)) else gB0 (fX7_hasDoor x0 (Int64.toInt32 (M.2.1 (x2 + 1) (Int32.toNatClampNeg (x4 + (1 : Int32))))) M) (fun r5 => if r5 = 0 then some (.inr (0 : Int32)) else gB0 (fX2_doorsOf x0 (0 : Int32) (Int64.toInt32 (M.2.1 (x2 + 1) (Int32.toNatClampNeg x4))) x3 M) (fun r7 => gB0 (fX8_has r7 (Int64.toInt32 (M.2.1 (x2 + 1) (Int32.toNatClampNeg (x4 + (1 : Int32))))) M) (fun r9 => if gIx 4 (x2 + 1) (x4 + (2 : Int32)) = true then if (lg_cmp (M.2.1 (x2 + 1) (Int32.toNatClampNeg (x4 + (2 : Int32)))) (1 : Int64)) = 0 then fX3_agrees_93 x0 x2 x3 x4 (1 : Int32) r9 M else fX3_agrees_93 x0 x2 x3 x4 (0 : Int32) r9 M else none)))) else none else none
set_option maxRecDepth 100000 in
theorem CX3_agrees_3 {G : gG} {d : Nat} {Z : Option Value → gMem → Prop} (hd : 4 ≤ d) (x0 : Nat) (x2 : Nat) (x3 : Int32) (x4 : Int32) (M : gMem) (o_x0 : gOb 7 x0 = true) (o_x2 : gOb 4 x2 = true) (P : Sum (Int32) (Int32) → Prop) (k0 : ∀ (r : Int32), P (.inr r) → Z (some (.int r)) M) (k1 : ∀ (x4 : Int32), P (.inl (x4)) → gGo G YX3_agrees d Z 3 [some (.ref x0), some (.ref 14), some (.ref x2), some (.int x3), some (.int x4), none, none, none] [] M) (h : gOKq (fX3_agrees_3 x0 x2 x3 x4 M) P) : gGo G YX3_agrees d Z 3 [some (.ref x0), some (.ref 14), some (.ref x2), some (.int x3), some (.int x4), none, none, none] [] M := by
  unfold fX3_agrees_3 at h
  refine go_rn 4 (pc' := 8) (L' := [some (.ref x0), some (.ref 14), some (.ref x2), some (.int x3), some (.int x4), none, none, none]) (S' := [.ref x2, .int (x4 + (2 : Int32))]) (M' := M) okX3_agrees rfl ?_
  refine go_ck okX3_agrees rfl o_x2 ?_
  refine go_br okX3_agrees rfl (fun hp => ?_) (fun hp => ?_)
  · have h := gq_pos hp h
    refine go_rn 1 (pc' := 105) (L' := [some (.ref x0), some (.ref 14), some (.ref x2), some (.int x3), some (.int x4), none, none, none]) (S' := [.int (1 : Int32)]) (M' := M) okX3_agrees rfl ?_
    exact go_zret (reX3_agrees _ (by decide)) rfl (Or.inr rfl) (k0 (1 : Int32) h)
  · have h := gq_neg hp h
    refine go_rn 1 (pc' := 15) (L' := [some (.ref x0), some (.ref 14), some (.ref x2), some (.int x3), some (.int x4), none, none, none]) (S' := [.ref x2]) (M' := M) okX3_agrees rfl ?_
    refine go_ck okX3_agrees rfl o_x2 ?_
    refine go_rn 1 (pc' := 20) (L' := [some (.ref x0), some (.ref 14), some (.ref x2), some (.int x3), some (.int x4), none, none, none]) (S' := [.int x4, .ref (x2 + 1)]) (M' := M) okX3_agrees rfl ?_
    obtain ⟨c1, h⟩ := gq_if h
    refine go_ck okX3_agrees rfl c1 ?_
    refine go_rn 3 (pc' := 25) (L' := [some (.ref x0), some (.ref 14), some (.ref x2), some (.int x3), some (.int x4), some (.int (Int64.toInt32 (M.2.1 (x2 + 1) (Int32.toNatClampNeg x4)))), none, none]) (S' := [.ref x2]) (M' := M) okX3_agrees rfl ?_
    refine go_ck okX3_agrees rfl o_x2 ?_
    refine go_rn 3 (pc' := 32) (L' := [some (.ref x0), some (.ref 14), some (.ref x2), some (.int x3), some (.int x4), some (.int (Int64.toInt32 (M.2.1 (x2 + 1) (Int32.toNatClampNeg x4)))), none, none]) (S' := [.int (x4 + (1 : Int32)), .ref (x2 + 1)]) (M' := M) okX3_agrees rfl ?_
    obtain ⟨c2, h⟩ := gq_if h
    refine go_ck okX3_agrees rfl c2 ?_
    refine go_rn 4 (pc' := 39) (L' := [some (.ref x0), some (.ref 14), some (.ref x2), some (.int x3), some (.int x4), some (.int (Int64.toInt32 (M.2.1 (x2 + 1) (Int32.toNatClampNeg x4)))), some (.int (Int64.toInt32 (M.2.1 (x2 + 1) (Int32.toNatClampNeg (x4 + (1 : Int32)))))), none]) (S' := [.int (Int64.toInt32 (M.2.1 (x2 + 1) (Int32.toNatClampNeg x4))), .ref x0]) (M' := M) okX3_agrees rfl ?_
    obtain ⟨r3, e4, h⟩ := gB0_ok h
    refine go_call1 ocX3_agrees rfl rfl o_x0 rfl (SX7_hasPartner x0 (Int64.toInt32 (M.2.1 (x2 + 1) (Int32.toNatClampNeg x4))) M o_x0 e4) (Nat.lt_of_lt_of_le (by decide) hd) ?_
    refine go_br okX3_agrees rfl (fun hp => ?_) (fun hp => ?_)
    · have h := gq_pos hp h
      refine go_rn 1 (pc' := 55) (L' := [some (.ref x0), some (.ref 14), some (.ref x2), some (.int x3), some (.int x4), some (.int (Int64.toInt32 (M.2.1 (x2 + 1) (Int32.toNatClampNeg x4)))), some (.int (Int64.toInt32 (M.2.1 (x2 + 1) (Int32.toNatClampNeg (x4 + (1 : Int32)))))), none]) (S' := [.int (0 : Int32)]) (M' := M) okX3_agrees rfl ?_
      exact go_zret (reX3_agrees _ (by decide)) rfl (Or.inl rfl) (k0 (0 : Int32) h)
    · have h := gq_neg hp h
      refine go_rn 2 (pc' := 48) (L' := [some (.ref x0), some (.ref 14), some (.ref x2), some (.int x3), some (.int x4), some (.int (Int64.toInt32 (M.2.1 (x2 + 1) (Int32.toNatClampNeg x4)))), some (.int (Int64.toInt32 (M.2.1 (x2 + 1) (Int32.toNatClampNeg (x4 + (1 : Int32)))))), none]) (S' := [.int (Int64.toInt32 (M.2.1 (x2 + 1) (Int32.toNatClampNeg (x4 + (1 : Int32))))), .ref x0]) (M' := M) okX3_agrees rfl ?_
      obtain ⟨r5, e6, h⟩ := gB0_ok h
      refine go_call1 ocX3_agrees rfl rfl o_x0 rfl (SX7_hasDoor x0 (Int64.toInt32 (M.2.1 (x2 + 1) (Int32.toNatClampNeg (x4 + (1 : Int32))))) M o_x0 e6) (Nat.lt_of_lt_of_le (by decide) hd) ?_
      refine go_br okX3_agrees rfl (fun hp => ?_) (fun hp => ?_)
      · have h := gq_pos hp h
        refine go_rn 1 (pc' := 55) (L' := [some (.ref x0), some (.ref 14), some (.ref x2), some (.int x3), some (.int x4), some (.int (Int64.toInt32 (M.2.1 (x2 + 1) (Int32.toNatClampNeg x4)))), some (.int (Int64.toInt32 (M.2.1 (x2 + 1) (Int32.toNatClampNeg (x4 + (1 : Int32)))))), none]) (S' := [.int (0 : Int32)]) (M' := M) okX3_agrees rfl ?_
        exact go_zret (reX3_agrees _ (by decide)) rfl (Or.inl rfl) (k0 (0 : Int32) h)
      · have h := gq_neg hp h
        refine go_rn 5 (pc' := 62) (L' := [some (.ref x0), some (.ref 14), some (.ref x2), some (.int x3), some (.int x4), some (.int (Int64.toInt32 (M.2.1 (x2 + 1) (Int32.toNatClampNeg x4)))), some (.int (Int64.toInt32 (M.2.1 (x2 + 1) (Int32.toNatClampNeg (x4 + (1 : Int32)))))), none]) (S' := [.int x3, .int (Int64.toInt32 (M.2.1 (x2 + 1) (Int32.toNatClampNeg x4))), .int (0 : Int32), .ref x0, .ref 14]) (M' := M) okX3_agrees rfl ?_
        obtain ⟨r7, e8, h⟩ := gB0_ok h
        refine go_call1 ocX3_agrees rfl rfl (gOb_c rfl) rfl (SX2_doorsOf x0 (0 : Int32) (Int64.toInt32 (M.2.1 (x2 + 1) (Int32.toNatClampNeg x4))) x3 M o_x0 e8) (Nat.lt_of_lt_of_le (by decide) hd) ?_
        refine go_rn 1 (pc' := 67) (L' := [some (.ref x0), some (.ref 14), some (.ref x2), some (.int x3), some (.int x4), some (.int (Int64.toInt32 (M.2.1 (x2 + 1) (Int32.toNatClampNeg x4)))), some (.int (Int64.toInt32 (M.2.1 (x2 + 1) (Int32.toNatClampNeg (x4 + (1 : Int32)))))), none]) (S' := [.int (Int64.toInt32 (M.2.1 (x2 + 1) (Int32.toNatClampNeg (x4 + (1 : Int32))))), .int r7]) (M' := M) okX3_agrees rfl ?_
        obtain ⟨r9, e10, h⟩ := gB0_ok h
        refine go_call1 ocX3_agrees rfl rfl rfl rfl (SX8_has r7 (Int64.toInt32 (M.2.1 (x2 + 1) (Int32.toNatClampNeg (x4 + (1 : Int32))))) M e10) (Nat.lt_of_lt_of_le (by decide) hd) ?_
        refine go_rn 3 (pc' := 75) (L' := [some (.ref x0), some (.ref 14), some (.ref x2), some (.int x3), some (.int x4), some (.int (Int64.toInt32 (M.2.1 (x2 + 1) (Int32.toNatClampNeg x4)))), some (.int (Int64.toInt32 (M.2.1 (x2 + 1) (Int32.toNatClampNeg (x4 + (1 : Int32)))))), some (.int r9)]) (S' := [.ref x2, .int r9]) (M' := M) okX3_agrees rfl ?_
        refine go_ck okX3_agrees rfl o_x2 ?_
        refine go_rn 3 (pc' := 82) (L' := [some (.ref x0), some (.ref 14), some (.ref x2), some (.int x3), some (.int x4), some (.int (Int64.toInt32 (M.2.1 (x2 + 1) (Int32.toNatClampNeg x4)))), some (.int (Int64.toInt32 (M.2.1 (x2 + 1) (Int32.toNatClampNeg (x4 + (1 : Int32)))))), some (.int r9)]) (S' := [.int (x4 + (2 : Int32)), .ref (x2 + 1), .int r9]) (M' := M) okX3_agrees rfl ?_
        obtain ⟨c11, h⟩ := gq_if h
        refine go_ck okX3_agrees rfl c11 ?_
        refine go_rn 2 (pc' := 85) (L' := [some (.ref x0), some (.ref 14), some (.ref x2), some (.int x3), some (.int x4), some (.int (Int64.toInt32 (M.2.1 (x2 + 1) (Int32.toNatClampNeg x4)))), some (.int (Int64.toInt32 (M.2.1 (x2 + 1) (Int32.toNatClampNeg (x4 + (1 : Int32)))))), some (.int r9)]) (S' := [.int (lg_cmp (M.2.1 (x2 + 1) (Int32.toNatClampNeg (x4 + (2 : Int32)))) (1 : Int64)), .int r9]) (M' := M) okX3_agrees rfl ?_
        refine go_br okX3_agrees rfl (fun hp => ?_) (fun hp => ?_)
        · have h := gq_pos hp h
          refine go_rn 2 (pc' := 93) (L' := [some (.ref x0), some (.ref 14), some (.ref x2), some (.int x3), some (.int x4), some (.int (Int64.toInt32 (M.2.1 (x2 + 1) (Int32.toNatClampNeg x4)))), some (.int (Int64.toInt32 (M.2.1 (x2 + 1) (Int32.toNatClampNeg (x4 + (1 : Int32)))))), some (.int r9)]) (S' := [.int (1 : Int32), .int r9]) (M' := M) okX3_agrees rfl ?_
          exact go_wk (CX3_agrees_93 hd x0 x2 x3 x4 (1 : Int32) r9 M o_x0 o_x2 P k0 k1 h) ⟨rfl, rfl, rfl, rfl, rfl, True.intro⟩
        · have h := gq_neg hp h
          refine go_rn 1 (pc' := 93) (L' := [some (.ref x0), some (.ref 14), some (.ref x2), some (.int x3), some (.int x4), some (.int (Int64.toInt32 (M.2.1 (x2 + 1) (Int32.toNatClampNeg x4)))), some (.int (Int64.toInt32 (M.2.1 (x2 + 1) (Int32.toNatClampNeg (x4 + (1 : Int32)))))), some (.int r9)]) (S' := [.int (0 : Int32), .int r9]) (M' := M) okX3_agrees rfl ?_
          exact go_wk (CX3_agrees_93 hd x0 x2 x3 x4 (0 : Int32) r9 M o_x0 o_x2 P k0 k1 h) ⟨rfl, rfl, rfl, rfl, rfl, True.intro⟩
def fX3_agrees_3h (x0 : Nat) (x2 : Nat) (x3 : Int32) (x4 : Int32) (M : gMem) : Option (Int32) :=
  gLp (fun s : Int32 => fX3_agrees_3 x0 x2 x3 s M) gFu (x4)
set_option maxRecDepth 100000 in
theorem CX3_agrees_3h {G : gG} {d : Nat} {Z : Option Value → gMem → Prop} (hd : 4 ≤ d) (x0 : Nat) (x2 : Nat) (x3 : Int32) (x4 : Int32) (M : gMem) (o_x0 : gOb 7 x0 = true) (o_x2 : gOb 4 x2 = true) (P : Int32 → Prop) (k0 : ∀ (r : Int32), P r → Z (some (.int r)) M) (h : gOKq (fX3_agrees_3h x0 x2 x3 x4 M) P) : gGo G YX3_agrees d Z 3 [some (.ref x0), some (.ref 14), some (.ref x2), some (.int x3), some (.int x4), none, none, none] [] M :=
  gLp_go (K := fun s : Int32 => gGo G YX3_agrees d Z 3 [some (.ref x0), some (.ref 14), some (.ref x2), some (.int x3), some (.int s), none, none, none] [] M) (P := P) (fun s hs => CX3_agrees_3 hd (x0) (x2) (x3) (s) M o_x0 o_x2 (Sum.elim (fun s : Int32 => gGo G YX3_agrees d Z 3 [some (.ref x0), some (.ref 14), some (.ref x2), some (.int x3), some (.int s), none, none, none] [] M) P) k0 (fun x4 hh => hh) hs) gFu (x4) h
def fX3_agrees_0 (x0 : Nat) (x2 : Nat) (x3 : Int32) (M : gMem) : Option (Int32) :=
  fX3_agrees_3h x0 x2 x3 (0 : Int32) M
set_option maxRecDepth 100000 in
theorem CX3_agrees_0 {G : gG} {d : Nat} {Z : Option Value → gMem → Prop} (hd : 4 ≤ d) (x0 : Nat) (x2 : Nat) (x3 : Int32) (M : gMem) (o_x0 : gOb 7 x0 = true) (o_x2 : gOb 4 x2 = true) (P : Int32 → Prop) (k0 : ∀ (r : Int32), P r → Z (some (.int r)) M) (h : gOKq (fX3_agrees_0 x0 x2 x3 M) P) : gGo G YX3_agrees d Z 0 [some (.ref x0), some (.ref 14), some (.ref x2), some (.int x3), none, none, none, none] [] M := by
  unfold fX3_agrees_0 at h
  refine go_rn 2 (pc' := 3) (L' := [some (.ref x0), some (.ref 14), some (.ref x2), some (.int x3), some (.int (0 : Int32)), none, none, none]) (S' := []) (M' := M) okX3_agrees rfl ?_
  exact go_wk (CX3_agrees_3h hd x0 x2 x3 (0 : Int32) M o_x0 o_x2 P k0 h) ⟨rfl, rfl, rfl, rfl, rfl, True.intro⟩
def fX3_agrees (a0 : Nat) (a2 : Nat) (a3 : Int32) (M : gMem) : Option (Int32) := fX3_agrees_0 a0 a2 a3 M
theorem SX3_agrees {G : gG} (a0 : Nat) (a2 : Nat) (a3 : Int32) (M : gMem) (o_a0 : gOb 7 a0 = true) (o_a2 : gOb 4 a2 = true) {r : Int32} (h : fX3_agrees a0 a2 a3 M = some r) : gRun G YX3_agrees 4 [.ref a0, .ref 14, .ref a2, .int a3] M (fun r' N' => r' = some (.int r) ∧ N' = M) := gRun_in (by decide +kernel) rfl (fun d hd => go_wk (CX3_agrees_0 hd a0 a2 a3 M o_a0 o_a2 (fun p => p = r) (fun r hh => ⟨congrArg (fun z => some (Value.int z)) hh, rfl⟩) (gq_of h)) ⟨rfl, rfl, rfl, rfl, True.intro⟩)
def fX3_countThroughs_26 (x1 : Nat) (x3 : Int32) (x4 : Int32) (x5 : Int32) (M : gMem) : Option (Sum (Int32 × gMem) (Sum (Int32 × gMem) (gMem))) :=
  if (M.1 x1 7) ≤ x5 then some (.inr (.inl ((x3 + 1), M))) else gB0 (fX8_has x4 x5 M) (fun r1 => if r1 = 0 then some (.inl ((x5 + 1), M)) else if gIx 1 65 ((x3 * (5 : Int32)) + x5) = true then if gIx 1 65 ((x3 * (5 : Int32)) + x5) = true then some (.inl ((x5 + 1), (gSI M 65 (Int32.toNatClampNeg ((x3 * (5 : Int32)) + x5)) ((M.1 65 (Int32.toNatClampNeg ((x3 * (5 : Int32)) + x5))) + (1 : Int32))))) else none else none)
set_option maxRecDepth 100000 in
theorem CX3_countThroughs_26 {G : gG} {d : Nat} {Z : Option Value → gMem → Prop} (hd : 4 ≤ d) (x1 : Nat) (x3 : Int32) (x4 : Int32) (x5 : Int32) (M : gMem) (o_x1 : gOb 7 x1 = true) (P : Sum (Int32 × gMem) (Sum (Int32 × gMem) (gMem)) → Prop) (k0 : ∀ (N : gMem), P (.inr (.inr N)) → Z none N) (k1 : ∀ (x3 : Int32) (M : gMem), P (.inr (.inl (x3, M))) → gGo G YX3_countThroughs d Z 2 [some (.ref 64), some (.ref x1), some (.ref 14), some (.int x3), none, none] [] M) (k2 : ∀ (x5 : Int32) (M : gMem), P (.inl (x5, M)) → gGo G YX3_countThroughs d Z 26 [some (.ref 64), some (.ref x1), some (.ref 14), some (.int x3), some (.int x4), some (.int x5)] [] M) (h : gOKq (fX3_countThroughs_26 x1 x3 x4 x5 M) P) : gGo G YX3_countThroughs d Z 26 [some (.ref 64), some (.ref x1), some (.ref 14), some (.int x3), some (.int x4), some (.int x5)] [] M := by
  unfold fX3_countThroughs_26 at h
  refine go_rn 2 (pc' := 29) (L' := [some (.ref 64), some (.ref x1), some (.ref 14), some (.int x3), some (.int x4), some (.int x5)]) (S' := [.ref x1, .int x5]) (M' := M) okX3_countThroughs rfl ?_
  refine go_ck okX3_countThroughs rfl o_x1 ?_
  refine go_br okX3_countThroughs rfl (fun hp => ?_) (fun hp => ?_)
  · have h := gq_pos hp h
    refine go_rn 2 (pc' := 2) (L' := [some (.ref 64), some (.ref x1), some (.ref 14), some (.int (x3 + 1)), some (.int x4), some (.int x5)]) (S' := []) (M' := M) okX3_countThroughs rfl ?_
    exact go_wk (k1 ((x3 + 1)) M h) ⟨rfl, rfl, rfl, rfl, True.intro⟩
  · have h := gq_neg hp h
    refine go_rn 2 (pc' := 39) (L' := [some (.ref 64), some (.ref x1), some (.ref 14), some (.int x3), some (.int x4), some (.int x5)]) (S' := [.int x5, .int x4]) (M' := M) okX3_countThroughs rfl ?_
    obtain ⟨r1, e2, h⟩ := gB0_ok h
    refine go_call1 ocX3_countThroughs rfl rfl rfl rfl (SX8_has x4 x5 M e2) (Nat.lt_of_lt_of_le (by decide) hd) ?_
    refine go_br okX3_countThroughs rfl (fun hp => ?_) (fun hp => ?_)
    · have h := gq_pos hp h
      refine go_rn 2 (pc' := 26) (L' := [some (.ref 64), some (.ref x1), some (.ref 14), some (.int x3), some (.int x4), some (.int (x5 + 1))]) (S' := []) (M' := M) okX3_countThroughs rfl ?_
      exact go_wk (k2 ((x5 + 1)) M h) ⟨rfl, rfl, rfl, rfl, rfl, rfl, True.intro⟩
    · have h := gq_neg hp h
      refine go_rn 1 (pc' := 46) (L' := [some (.ref 64), some (.ref x1), some (.ref 14), some (.int x3), some (.int x4), some (.int x5)]) (S' := [.ref 64]) (M' := M) okX3_countThroughs rfl ?_
      refine go_ck okX3_countThroughs rfl (gOb_c rfl) ?_
      refine go_rn 6 (pc' := 56) (L' := [some (.ref 64), some (.ref x1), some (.ref 14), some (.int x3), some (.int x4), some (.int x5)]) (S' := [.int ((x3 * (5 : Int32)) + x5), .ref 65, .int ((x3 * (5 : Int32)) + x5), .ref 65]) (M' := M) okX3_countThroughs rfl ?_
      obtain ⟨c3, h⟩ := gq_if h
      refine go_ck okX3_countThroughs rfl c3 ?_
      refine go_rn 2 (pc' := 59) (L' := [some (.ref 64), some (.ref x1), some (.ref 14), some (.int x3), some (.int x4), some (.int x5)]) (S' := [.int ((M.1 65 (Int32.toNatClampNeg ((x3 * (5 : Int32)) + x5))) + (1 : Int32)), .int ((x3 * (5 : Int32)) + x5), .ref 65]) (M' := M) okX3_countThroughs rfl ?_
      obtain ⟨c4, h⟩ := gq_if h
      refine go_ck okX3_countThroughs rfl c4 ?_
      refine go_rn 2 (pc' := 26) (L' := [some (.ref 64), some (.ref x1), some (.ref 14), some (.int x3), some (.int x4), some (.int (x5 + 1))]) (S' := []) (M' := (gSI M 65 (Int32.toNatClampNeg ((x3 * (5 : Int32)) + x5)) ((M.1 65 (Int32.toNatClampNeg ((x3 * (5 : Int32)) + x5))) + (1 : Int32)))) okX3_countThroughs rfl ?_
      exact go_wk (k2 ((x5 + 1)) (gSI M 65 (Int32.toNatClampNeg ((x3 * (5 : Int32)) + x5)) ((M.1 65 (Int32.toNatClampNeg ((x3 * (5 : Int32)) + x5))) + (1 : Int32))) h) ⟨rfl, rfl, rfl, rfl, rfl, rfl, True.intro⟩
def fX3_countThroughs_26h (x1 : Nat) (x3 : Int32) (x4 : Int32) (x5 : Int32) (M : gMem) : Option (Sum (Int32 × gMem) (gMem)) :=
  gLp (fun s : Int32 × gMem => fX3_countThroughs_26 x1 x3 x4 (s.1) s.2) gFu (x5, M)
set_option maxRecDepth 100000 in
theorem CX3_countThroughs_26h {G : gG} {d : Nat} {Z : Option Value → gMem → Prop} (hd : 4 ≤ d) (x1 : Nat) (x3 : Int32) (x4 : Int32) (x5 : Int32) (M : gMem) (o_x1 : gOb 7 x1 = true) (P : Sum (Int32 × gMem) (gMem) → Prop) (k0 : ∀ (N : gMem), P (.inr N) → Z none N) (k1 : ∀ (x3 : Int32) (M : gMem), P (.inl (x3, M)) → gGo G YX3_countThroughs d Z 2 [some (.ref 64), some (.ref x1), some (.ref 14), some (.int x3), none, none] [] M) (h : gOKq (fX3_countThroughs_26h x1 x3 x4 x5 M) P) : gGo G YX3_countThroughs d Z 26 [some (.ref 64), some (.ref x1), some (.ref 14), some (.int x3), some (.int x4), some (.int x5)] [] M :=
  gLp_go (K := fun s : Int32 × gMem => gGo G YX3_countThroughs d Z 26 [some (.ref 64), some (.ref x1), some (.ref 14), some (.int x3), some (.int x4), some (.int s.1)] [] s.2) (P := P) (fun s hs => CX3_countThroughs_26 hd (x1) (x3) (x4) (s.1) (s.2) o_x1 (Sum.elim (fun s : Int32 × gMem => gGo G YX3_countThroughs d Z 26 [some (.ref 64), some (.ref x1), some (.ref 14), some (.int x3), some (.int x4), some (.int s.1)] [] s.2) P) k0 k1 (fun x5 M hh => hh) hs) gFu (x5, M) h
def fX3_countThroughs_2 (x1 : Nat) (x3 : Int32) (M : gMem) : Option (Sum (Int32 × gMem) (gMem)) :=
  if (M.1 x1 5) ≤ x3 then some (.inr M) else gB0 (fX2_doorsOf x1 (0 : Int32) x3 (M.1 x1 2) M) (fun r1 => fX3_countThroughs_26h x1 x3 r1 (0 : Int32) M)
set_option maxRecDepth 100000 in
theorem CX3_countThroughs_2 {G : gG} {d : Nat} {Z : Option Value → gMem → Prop} (hd : 4 ≤ d) (x1 : Nat) (x3 : Int32) (M : gMem) (o_x1 : gOb 7 x1 = true) (P : Sum (Int32 × gMem) (gMem) → Prop) (k0 : ∀ (N : gMem), P (.inr N) → Z none N) (k1 : ∀ (x3 : Int32) (M : gMem), P (.inl (x3, M)) → gGo G YX3_countThroughs d Z 2 [some (.ref 64), some (.ref x1), some (.ref 14), some (.int x3), none, none] [] M) (h : gOKq (fX3_countThroughs_2 x1 x3 M) P) : gGo G YX3_countThroughs d Z 2 [some (.ref 64), some (.ref x1), some (.ref 14), some (.int x3), none, none] [] M := by
  unfold fX3_countThroughs_2 at h
  refine go_rn 2 (pc' := 4) (L' := [some (.ref 64), some (.ref x1), some (.ref 14), some (.int x3), none, none]) (S' := [.ref x1, .int x3]) (M' := M) okX3_countThroughs rfl ?_
  refine go_ck okX3_countThroughs rfl o_x1 ?_
  refine go_br okX3_countThroughs rfl (fun hp => ?_) (fun hp => ?_)
  · have h := gq_pos hp h
    exact go_vret (reX3_countThroughs _ (by decide)) rfl (k0 M h)
  · have h := gq_neg hp h
    refine go_rn 5 (pc' := 15) (L' := [some (.ref 64), some (.ref x1), some (.ref 14), some (.int x3), none, none]) (S' := [.ref x1, .int x3, .int (0 : Int32), .ref x1, .ref 14]) (M' := M) okX3_countThroughs rfl ?_
    refine go_ck okX3_countThroughs rfl o_x1 ?_
    obtain ⟨r1, e2, h⟩ := gB0_ok h
    refine go_call1 ocX3_countThroughs rfl rfl (gOb_c rfl) rfl (SX2_doorsOf x1 (0 : Int32) x3 (M.1 x1 2) M o_x1 e2) (Nat.lt_of_lt_of_le (by decide) hd) ?_
    refine go_rn 3 (pc' := 26) (L' := [some (.ref 64), some (.ref x1), some (.ref 14), some (.int x3), some (.int r1), some (.int (0 : Int32))]) (S' := []) (M' := M) okX3_countThroughs rfl ?_
    exact go_wk (CX3_countThroughs_26h hd x1 x3 r1 (0 : Int32) M o_x1 P k0 k1 h) ⟨rfl, rfl, rfl, rfl, rfl, rfl, True.intro⟩
def fX3_countThroughs_2h (x1 : Nat) (x3 : Int32) (M : gMem) : Option (gMem) :=
  gLp (fun s : Int32 × gMem => fX3_countThroughs_2 x1 (s.1) s.2) gFu (x3, M)
set_option maxRecDepth 100000 in
theorem CX3_countThroughs_2h {G : gG} {d : Nat} {Z : Option Value → gMem → Prop} (hd : 4 ≤ d) (x1 : Nat) (x3 : Int32) (M : gMem) (o_x1 : gOb 7 x1 = true) (P : gMem → Prop) (k0 : ∀ (N : gMem), P N → Z none N) (h : gOKq (fX3_countThroughs_2h x1 x3 M) P) : gGo G YX3_countThroughs d Z 2 [some (.ref 64), some (.ref x1), some (.ref 14), some (.int x3), none, none] [] M :=
  gLp_go (K := fun s : Int32 × gMem => gGo G YX3_countThroughs d Z 2 [some (.ref 64), some (.ref x1), some (.ref 14), some (.int s.1), none, none] [] s.2) (P := P) (fun s hs => CX3_countThroughs_2 hd (x1) (s.1) (s.2) o_x1 (Sum.elim (fun s : Int32 × gMem => gGo G YX3_countThroughs d Z 2 [some (.ref 64), some (.ref x1), some (.ref 14), some (.int s.1), none, none] [] s.2) P) k0 (fun x3 M hh => hh) hs) gFu (x3, M) h
def fX3_countThroughs_0 (x1 : Nat) (M : gMem) : Option (gMem) :=
  fX3_countThroughs_2h x1 (0 : Int32) M
set_option maxRecDepth 100000 in
theorem CX3_countThroughs_0 {G : gG} {d : Nat} {Z : Option Value → gMem → Prop} (hd : 4 ≤ d) (x1 : Nat) (M : gMem) (o_x1 : gOb 7 x1 = true) (P : gMem → Prop) (k0 : ∀ (N : gMem), P N → Z none N) (h : gOKq (fX3_countThroughs_0 x1 M) P) : gGo G YX3_countThroughs d Z 0 [some (.ref 64), some (.ref x1), some (.ref 14), none, none, none] [] M := by
  unfold fX3_countThroughs_0 at h
  refine go_rn 2 (pc' := 2) (L' := [some (.ref 64), some (.ref x1), some (.ref 14), some (.int (0 : Int32)), none, none]) (S' := []) (M' := M) okX3_countThroughs rfl ?_
  exact go_wk (CX3_countThroughs_2h hd x1 (0 : Int32) M o_x1 P k0 h) ⟨rfl, rfl, rfl, rfl, True.intro⟩
def fX3_countThroughs (a1 : Nat) (M : gMem) : Option (gMem) := fX3_countThroughs_0 a1 M
theorem SX3_countThroughs {G : gG} (a1 : Nat) (M : gMem) (o_a1 : gOb 7 a1 = true) {N : gMem} (h : fX3_countThroughs a1 M = some N) : gRun G YX3_countThroughs 4 [.ref 64, .ref a1, .ref 14] M (fun r' N' => r' = none ∧ N' = N) := gRun_in (by decide +kernel) rfl (fun d hd => go_wk (CX3_countThroughs_0 hd a1 M o_a1 (fun p => p = N) (fun N hh => ⟨rfl, hh⟩) (gq_of h)) ⟨rfl, rfl, rfl, True.intro⟩)
def fX3_countSets_136 (x1 : Nat) (x3 : Nat) (x4 : Int32) (x5 : Int32) (s1 : Nat) (M : gMem) : Option (Sum (Int32 × gMem) (gMem)) :=
  gB0 (fX3_countThroughs s1 M) (fun M1 => some (.inl ((x5 + 1), M1)))
set_option maxRecDepth 100000 in
theorem CX3_countSets_136 {G : gG} {d : Nat} {Z : Option Value → gMem → Prop} (hd : 5 ≤ d) (x1 : Nat) (x3 : Nat) (x4 : Int32) (x5 : Int32) (s1 : Nat) (M : gMem) (o_x1 : gOb 7 x1 = true) (o_x3 : gOb 4 x3 = true) (o_s1 : gOb 7 s1 = true) (P : Sum (Int32 × gMem) (gMem) → Prop) (k0 : ∀ (N : gMem), P (.inr N) → Z none N) (k1 : ∀ (x5 : Int32) (M : gMem), P (.inl (x5, M)) → gGo G YX3_countSets d Z 55 [some (.ref 64), some (.ref x1), some (.ref 14), some (.ref x3), some (.int x4), some (.int x5)] [] M) (h : gOKq (fX3_countSets_136 x1 x3 x4 x5 s1 M) P) : gGo G YX3_countSets d Z 136 [some (.ref 64), some (.ref x1), some (.ref 14), some (.ref x3), some (.int x4), some (.int x5)] [.ref 14, .ref s1, .ref 64] M := by
  unfold fX3_countSets_136 at h
  obtain ⟨M1, e2, h⟩ := gB0_ok h
  refine go_call1 ocX3_countSets rfl rfl (gOb_c rfl) rfl (SX3_countThroughs s1 M o_s1 e2) (Nat.lt_of_lt_of_le (by decide) hd) ?_
  refine go_rn 2 (pc' := 55) (L' := [some (.ref 64), some (.ref x1), some (.ref 14), some (.ref x3), some (.int x4), some (.int (x5 + 1))]) (S' := []) (M' := M1) okX3_countSets rfl ?_
  exact go_wk (k1 ((x5 + 1)) M1 h) ⟨rfl, rfl, rfl, rfl, rfl, rfl, True.intro⟩
def fX3_countSets_124 (x1 : Nat) (x3 : Nat) (x4 : Int32) (x5 : Int32) (M : gMem) : Option (Sum (Int32 × gMem) (gMem)) :=
  fX3_countSets_136 x1 x3 x4 x5 x1 (gSI M 64 2 ((M.1 64 2) ||| x5))
set_option maxRecDepth 100000 in
theorem CX3_countSets_124 {G : gG} {d : Nat} {Z : Option Value → gMem → Prop} (hd : 5 ≤ d) (x1 : Nat) (x3 : Nat) (x4 : Int32) (x5 : Int32) (M : gMem) (o_x1 : gOb 7 x1 = true) (o_x3 : gOb 4 x3 = true) (P : Sum (Int32 × gMem) (gMem) → Prop) (k0 : ∀ (N : gMem), P (.inr N) → Z none N) (k1 : ∀ (x5 : Int32) (M : gMem), P (.inl (x5, M)) → gGo G YX3_countSets d Z 55 [some (.ref 64), some (.ref x1), some (.ref 14), some (.ref x3), some (.int x4), some (.int x5)] [] M) (h : gOKq (fX3_countSets_124 x1 x3 x4 x5 M) P) : gGo G YX3_countSets d Z 124 [some (.ref 64), some (.ref x1), some (.ref 14), some (.ref x3), some (.int x4), some (.int x5)] [.ref 64, .ref 64] M := by
  unfold fX3_countSets_124 at h
  refine go_ck okX3_countSets rfl (gOb_c rfl) ?_
  refine go_rn 2 (pc' := 130) (L' := [some (.ref 64), some (.ref x1), some (.ref 14), some (.ref x3), some (.int x4), some (.int x5)]) (S' := [.int ((M.1 64 2) ||| x5), .ref 64]) (M' := M) okX3_countSets rfl ?_
  refine go_ck okX3_countSets rfl (gOb_c rfl) ?_
  refine go_rn 3 (pc' := 136) (L' := [some (.ref 64), some (.ref x1), some (.ref 14), some (.ref x3), some (.int x4), some (.int x5)]) (S' := [.ref 14, .ref x1, .ref 64]) (M' := (gSI M 64 2 ((M.1 64 2) ||| x5))) okX3_countSets rfl ?_
  exact go_wk (CX3_countSets_136 hd x1 x3 x4 x5 x1 (gSI M 64 2 ((M.1 64 2) ||| x5)) o_x1 o_x3 o_x1 P k0 k1 h) ⟨rfl, rfl, rfl, rfl, rfl, rfl, True.intro⟩
def fX3_countSets_113 (x1 : Nat) (x3 : Nat) (x4 : Int32) (x5 : Int32) (M : gMem) : Option (Sum (Int32 × gMem) (gMem)) :=
  fX3_countSets_124 x1 x3 x4 x5 (gSI M 64 1 ((M.1 64 1) &&& x5))
set_option maxRecDepth 100000 in
theorem CX3_countSets_113 {G : gG} {d : Nat} {Z : Option Value → gMem → Prop} (hd : 5 ≤ d) (x1 : Nat) (x3 : Nat) (x4 : Int32) (x5 : Int32) (M : gMem) (o_x1 : gOb 7 x1 = true) (o_x3 : gOb 4 x3 = true) (P : Sum (Int32 × gMem) (gMem) → Prop) (k0 : ∀ (N : gMem), P (.inr N) → Z none N) (k1 : ∀ (x5 : Int32) (M : gMem), P (.inl (x5, M)) → gGo G YX3_countSets d Z 55 [some (.ref 64), some (.ref x1), some (.ref 14), some (.ref x3), some (.int x4), some (.int x5)] [] M) (h : gOKq (fX3_countSets_113 x1 x3 x4 x5 M) P) : gGo G YX3_countSets d Z 113 [some (.ref 64), some (.ref x1), some (.ref 14), some (.ref x3), some (.int x4), some (.int x5)] [.ref 64, .ref 64] M := by
  unfold fX3_countSets_113 at h
  refine go_ck okX3_countSets rfl (gOb_c rfl) ?_
  refine go_rn 2 (pc' := 119) (L' := [some (.ref 64), some (.ref x1), some (.ref 14), some (.ref x3), some (.int x4), some (.int x5)]) (S' := [.int ((M.1 64 1) &&& x5), .ref 64]) (M' := M) okX3_countSets rfl ?_
  refine go_ck okX3_countSets rfl (gOb_c rfl) ?_
  refine go_rn 2 (pc' := 124) (L' := [some (.ref 64), some (.ref x1), some (.ref 14), some (.ref x3), some (.int x4), some (.int x5)]) (S' := [.ref 64, .ref 64]) (M' := (gSI M 64 1 ((M.1 64 1) &&& x5))) okX3_countSets rfl ?_
  exact go_wk (CX3_countSets_124 hd x1 x3 x4 x5 (gSI M 64 1 ((M.1 64 1) &&& x5)) o_x1 o_x3 P k0 k1 h) ⟨rfl, rfl, rfl, rfl, rfl, rfl, True.intro⟩
def fX3_countSets_85 (x1 : Nat) (x3 : Nat) (x4 : Int32) (x5 : Int32) (s0 : Int32) (s1 : Nat) (M : gMem) : Option (Sum (Int32 × gMem) (gMem)) :=
  gB0 (fX2_live s1 s0 M) (fun M1 => gB0 (fX3_agrees x1 x3 (M1.1 x1 2) M1) (fun r3 => if r3 = 0 then some (.inl ((x5 + 1), M1)) else fX3_countSets_113 x1 x3 x4 x5 (gSI M1 64 0 ((M1.1 64 0) + (1 : Int32)))))
set_option maxRecDepth 100000 in
theorem CX3_countSets_85 {G : gG} {d : Nat} {Z : Option Value → gMem → Prop} (hd : 5 ≤ d) (x1 : Nat) (x3 : Nat) (x4 : Int32) (x5 : Int32) (s0 : Int32) (s1 : Nat) (M : gMem) (o_x1 : gOb 7 x1 = true) (o_x3 : gOb 4 x3 = true) (o_s1 : gOb 7 s1 = true) (P : Sum (Int32 × gMem) (gMem) → Prop) (k0 : ∀ (N : gMem), P (.inr N) → Z none N) (k1 : ∀ (x5 : Int32) (M : gMem), P (.inl (x5, M)) → gGo G YX3_countSets d Z 55 [some (.ref 64), some (.ref x1), some (.ref 14), some (.ref x3), some (.int x4), some (.int x5)] [] M) (h : gOKq (fX3_countSets_85 x1 x3 x4 x5 s0 s1 M) P) : gGo G YX3_countSets d Z 85 [some (.ref 64), some (.ref x1), some (.ref 14), some (.ref x3), some (.int x4), some (.int x5)] [.int s0, .ref s1, .ref 14] M := by
  unfold fX3_countSets_85 at h
  obtain ⟨M1, e2, h⟩ := gB0_ok h
  refine go_call1 ocX3_countSets rfl rfl (gOb_c rfl) rfl (SX2_live s1 s0 M o_s1 e2) (Nat.lt_of_lt_of_le (by decide) hd) ?_
  refine go_rn 4 (pc' := 92) (L' := [some (.ref 64), some (.ref x1), some (.ref 14), some (.ref x3), some (.int x4), some (.int x5)]) (S' := [.ref x1, .ref x3, .ref 14, .ref x1]) (M' := M1) okX3_countSets rfl ?_
  refine go_ck okX3_countSets rfl o_x1 ?_
  obtain ⟨r3, e4, h⟩ := gB0_ok h
  refine go_call1 ocX3_countSets rfl rfl rfl rfl (SX3_agrees x1 x3 (M1.1 x1 2) M1 o_x1 o_x3 e4) (Nat.lt_of_lt_of_le (by decide) hd) ?_
  refine go_br okX3_countSets rfl (fun hp => ?_) (fun hp => ?_)
  · have h := gq_pos hp h
    refine go_rn 2 (pc' := 55) (L' := [some (.ref 64), some (.ref x1), some (.ref 14), some (.ref x3), some (.int x4), some (.int (x5 + 1))]) (S' := []) (M' := M1) okX3_countSets rfl ?_
    exact go_wk (k1 ((x5 + 1)) M1 h) ⟨rfl, rfl, rfl, rfl, rfl, rfl, True.intro⟩
  · have h := gq_neg hp h
    refine go_rn 2 (pc' := 103) (L' := [some (.ref 64), some (.ref x1), some (.ref 14), some (.ref x3), some (.int x4), some (.int x5)]) (S' := [.ref 64, .ref 64]) (M' := M1) okX3_countSets rfl ?_
    refine go_ck okX3_countSets rfl (gOb_c rfl) ?_
    refine go_rn 2 (pc' := 108) (L' := [some (.ref 64), some (.ref x1), some (.ref 14), some (.ref x3), some (.int x4), some (.int x5)]) (S' := [.int ((M1.1 64 0) + (1 : Int32)), .ref 64]) (M' := M1) okX3_countSets rfl ?_
    refine go_ck okX3_countSets rfl (gOb_c rfl) ?_
    refine go_rn 2 (pc' := 113) (L' := [some (.ref 64), some (.ref x1), some (.ref 14), some (.ref x3), some (.int x4), some (.int x5)]) (S' := [.ref 64, .ref 64]) (M' := (gSI M1 64 0 ((M1.1 64 0) + (1 : Int32)))) okX3_countSets rfl ?_
    exact go_wk (CX3_countSets_113 hd x1 x3 x4 x5 (gSI M1 64 0 ((M1.1 64 0) + (1 : Int32))) o_x1 o_x3 P k0 k1 h) ⟨rfl, rfl, rfl, rfl, rfl, rfl, True.intro⟩
def fX3_countSets_79 (x1 : Nat) (x3 : Nat) (x4 : Int32) (x5 : Int32) (s0 : Int32) (M : gMem) : Option (Sum (Int32 × gMem) (gMem)) :=
  fX3_countSets_85 x1 x3 x4 x5 (1 : Int32) x1 (gSI M 14 0 s0)
set_option maxRecDepth 100000 in
theorem CX3_countSets_79 {G : gG} {d : Nat} {Z : Option Value → gMem → Prop} (hd : 5 ≤ d) (x1 : Nat) (x3 : Nat) (x4 : Int32) (x5 : Int32) (s0 : Int32) (M : gMem) (o_x1 : gOb 7 x1 = true) (o_x3 : gOb 4 x3 = true) (P : Sum (Int32 × gMem) (gMem) → Prop) (k0 : ∀ (N : gMem), P (.inr N) → Z none N) (k1 : ∀ (x5 : Int32) (M : gMem), P (.inl (x5, M)) → gGo G YX3_countSets d Z 55 [some (.ref 64), some (.ref x1), some (.ref 14), some (.ref x3), some (.int x4), some (.int x5)] [] M) (h : gOKq (fX3_countSets_79 x1 x3 x4 x5 s0 M) P) : gGo G YX3_countSets d Z 79 [some (.ref 64), some (.ref x1), some (.ref 14), some (.ref x3), some (.int x4), some (.int x5)] [.int s0, .ref 14] M := by
  unfold fX3_countSets_79 at h
  refine go_ck okX3_countSets rfl (gOb_c rfl) ?_
  refine go_rn 3 (pc' := 85) (L' := [some (.ref 64), some (.ref x1), some (.ref 14), some (.ref x3), some (.int x4), some (.int x5)]) (S' := [.int (1 : Int32), .ref x1, .ref 14]) (M' := (gSI M 14 0 s0)) okX3_countSets rfl ?_
  exact go_wk (CX3_countSets_85 hd x1 x3 x4 x5 (1 : Int32) x1 (gSI M 14 0 s0) o_x1 o_x3 o_x1 P k0 k1 h) ⟨rfl, rfl, rfl, rfl, rfl, rfl, True.intro⟩
def fX3_countSets_55 (x1 : Nat) (x3 : Nat) (x4 : Int32) (x5 : Int32) (M : gMem) : Option (Sum (Int32 × gMem) (gMem)) :=
  if x4 < x5 then some (.inr M) else gB0 (fX2_supposeNothing M) (fun M1 => fX3_countSets_79 x1 x3 x4 x5 (x4 &&& (x5 ^^^ (-1 : Int32))) (gSI M1 14 1 (1 : Int32)))
set_option maxRecDepth 100000 in
theorem CX3_countSets_55 {G : gG} {d : Nat} {Z : Option Value → gMem → Prop} (hd : 5 ≤ d) (x1 : Nat) (x3 : Nat) (x4 : Int32) (x5 : Int32) (M : gMem) (o_x1 : gOb 7 x1 = true) (o_x3 : gOb 4 x3 = true) (P : Sum (Int32 × gMem) (gMem) → Prop) (k0 : ∀ (N : gMem), P (.inr N) → Z none N) (k1 : ∀ (x5 : Int32) (M : gMem), P (.inl (x5, M)) → gGo G YX3_countSets d Z 55 [some (.ref 64), some (.ref x1), some (.ref 14), some (.ref x3), some (.int x4), some (.int x5)] [] M) (h : gOKq (fX3_countSets_55 x1 x3 x4 x5 M) P) : gGo G YX3_countSets d Z 55 [some (.ref 64), some (.ref x1), some (.ref 14), some (.ref x3), some (.int x4), some (.int x5)] [] M := by
  unfold fX3_countSets_55 at h
  refine go_rn 2 (pc' := 59) (L' := [some (.ref 64), some (.ref x1), some (.ref 14), some (.ref x3), some (.int x4), some (.int x5)]) (S' := [.int x4, .int x5]) (M' := M) okX3_countSets rfl ?_
  refine go_br okX3_countSets rfl (fun hp => ?_) (fun hp => ?_)
  · have h := gq_pos hp h
    exact go_vret (reX3_countSets _ (by decide)) rfl (k0 M h)
  · have h := gq_neg hp h
    refine go_rn 1 (pc' := 63) (L' := [some (.ref 64), some (.ref x1), some (.ref 14), some (.ref x3), some (.int x4), some (.int x5)]) (S' := [.ref 14]) (M' := M) okX3_countSets rfl ?_
    obtain ⟨M1, e2, h⟩ := gB0_ok h
    refine go_call1 ocX3_countSets rfl rfl (gOb_c rfl) rfl (SX2_supposeNothing M e2) (Nat.lt_of_lt_of_le (by decide) hd) ?_
    refine go_rn 2 (pc' := 68) (L' := [some (.ref 64), some (.ref x1), some (.ref 14), some (.ref x3), some (.int x4), some (.int x5)]) (S' := [.int (1 : Int32), .ref 14]) (M' := M1) okX3_countSets rfl ?_
    refine go_cc okX3_countSets rfl (gOb_c rfl) (Or.inr rfl) ?_
    refine go_rn 6 (pc' := 79) (L' := [some (.ref 64), some (.ref x1), some (.ref 14), some (.ref x3), some (.int x4), some (.int x5)]) (S' := [.int (x4 &&& (x5 ^^^ (-1 : Int32))), .ref 14]) (M' := (gSI M1 14 1 (1 : Int32))) okX3_countSets rfl ?_
    exact go_wk (CX3_countSets_79 hd x1 x3 x4 x5 (x4 &&& (x5 ^^^ (-1 : Int32))) (gSI M1 14 1 (1 : Int32)) o_x1 o_x3 P k0 k1 h) ⟨rfl, rfl, rfl, rfl, rfl, rfl, True.intro⟩
def fX3_countSets_55h (x1 : Nat) (x3 : Nat) (x4 : Int32) (x5 : Int32) (M : gMem) : Option (gMem) :=
  gLp (fun s : Int32 × gMem => fX3_countSets_55 x1 x3 x4 (s.1) s.2) gFu (x5, M)
set_option maxRecDepth 100000 in
theorem CX3_countSets_55h {G : gG} {d : Nat} {Z : Option Value → gMem → Prop} (hd : 5 ≤ d) (x1 : Nat) (x3 : Nat) (x4 : Int32) (x5 : Int32) (M : gMem) (o_x1 : gOb 7 x1 = true) (o_x3 : gOb 4 x3 = true) (P : gMem → Prop) (k0 : ∀ (N : gMem), P N → Z none N) (h : gOKq (fX3_countSets_55h x1 x3 x4 x5 M) P) : gGo G YX3_countSets d Z 55 [some (.ref 64), some (.ref x1), some (.ref 14), some (.ref x3), some (.int x4), some (.int x5)] [] M :=
  gLp_go (K := fun s : Int32 × gMem => gGo G YX3_countSets d Z 55 [some (.ref 64), some (.ref x1), some (.ref 14), some (.ref x3), some (.int x4), some (.int s.1)] [] s.2) (P := P) (fun s hs => CX3_countSets_55 hd (x1) (x3) (x4) (s.1) (s.2) o_x1 o_x3 (Sum.elim (fun s : Int32 × gMem => gGo G YX3_countSets d Z 55 [some (.ref 64), some (.ref x1), some (.ref 14), some (.ref x3), some (.int x4), some (.int s.1)] [] s.2) P) k0 (fun x5 M hh => hh) hs) gFu (x5, M) h
def fX3_countSets_28 (x1 : Nat) (x3 : Nat) (x4 : Int32) (x5 : Int32) (M : gMem) : Option (Sum (Int32 × gMem) (gMem)) :=
  if (nI (gSh 65).2) ≤ x5 then gEx (fX3_countSets_55h x1 x3 x4 (0 : Int32) M) else if gIx 1 65 x5 = true then some (.inl ((x5 + 1), (gSI M 65 (Int32.toNatClampNeg x5) (0 : Int32)))) else none
set_option maxRecDepth 100000 in
theorem CX3_countSets_28 {G : gG} {d : Nat} {Z : Option Value → gMem → Prop} (hd : 5 ≤ d) (x1 : Nat) (x3 : Nat) (x4 : Int32) (x5 : Int32) (M : gMem) (o_x1 : gOb 7 x1 = true) (o_x3 : gOb 4 x3 = true) (P : Sum (Int32 × gMem) (gMem) → Prop) (k0 : ∀ (N : gMem), P (.inr N) → Z none N) (k1 : ∀ (x5 : Int32) (M : gMem), P (.inl (x5, M)) → gGo G YX3_countSets d Z 28 [some (.ref 64), some (.ref x1), some (.ref 14), some (.ref x3), some (.int x4), some (.int x5)] [] M) (h : gOKq (fX3_countSets_28 x1 x3 x4 x5 M) P) : gGo G YX3_countSets d Z 28 [some (.ref 64), some (.ref x1), some (.ref 14), some (.ref x3), some (.int x4), some (.int x5)] [] M := by
  unfold fX3_countSets_28 at h
  refine go_rn 2 (pc' := 31) (L' := [some (.ref 64), some (.ref x1), some (.ref 14), some (.ref x3), some (.int x4), some (.int x5)]) (S' := [.ref 64, .int x5]) (M' := M) okX3_countSets rfl ?_
  refine go_ck okX3_countSets rfl (gOb_c rfl) ?_
  refine go_ck okX3_countSets rfl (gAl_c rfl) ?_
  refine go_br okX3_countSets rfl (fun hp => ?_) (fun hp => ?_)
  · have h := gq_pos hp h
    refine go_rn 2 (pc' := 55) (L' := [some (.ref 64), some (.ref x1), some (.ref 14), some (.ref x3), some (.int x4), some (.int (0 : Int32))]) (S' := []) (M' := M) okX3_countSets rfl ?_
    exact go_wk (CX3_countSets_55h hd x1 x3 x4 (0 : Int32) M o_x1 o_x3 (fun q => P (.inr q)) k0 (gEx_ok h)) ⟨rfl, rfl, rfl, rfl, rfl, rfl, True.intro⟩
  · have h := gq_neg hp h
    refine go_rn 1 (pc' := 39) (L' := [some (.ref 64), some (.ref x1), some (.ref 14), some (.ref x3), some (.int x4), some (.int x5)]) (S' := [.ref 64]) (M' := M) okX3_countSets rfl ?_
    refine go_ck okX3_countSets rfl (gOb_c rfl) ?_
    refine go_rn 2 (pc' := 45) (L' := [some (.ref 64), some (.ref x1), some (.ref 14), some (.ref x3), some (.int x4), some (.int x5)]) (S' := [.int (0 : Int32), .int x5, .ref 65]) (M' := M) okX3_countSets rfl ?_
    obtain ⟨c1, h⟩ := gq_if h
    refine go_ck okX3_countSets rfl c1 ?_
    refine go_rn 2 (pc' := 28) (L' := [some (.ref 64), some (.ref x1), some (.ref 14), some (.ref x3), some (.int x4), some (.int (x5 + 1))]) (S' := []) (M' := (gSI M 65 (Int32.toNatClampNeg x5) (0 : Int32))) okX3_countSets rfl ?_
    exact go_wk (k1 ((x5 + 1)) (gSI M 65 (Int32.toNatClampNeg x5) (0 : Int32)) h) ⟨rfl, rfl, rfl, rfl, rfl, rfl, True.intro⟩
def fX3_countSets_28h (x1 : Nat) (x3 : Nat) (x4 : Int32) (x5 : Int32) (M : gMem) : Option (gMem) :=
  gLp (fun s : Int32 × gMem => fX3_countSets_28 x1 x3 x4 (s.1) s.2) gFu (x5, M)
set_option maxRecDepth 100000 in
theorem CX3_countSets_28h {G : gG} {d : Nat} {Z : Option Value → gMem → Prop} (hd : 5 ≤ d) (x1 : Nat) (x3 : Nat) (x4 : Int32) (x5 : Int32) (M : gMem) (o_x1 : gOb 7 x1 = true) (o_x3 : gOb 4 x3 = true) (P : gMem → Prop) (k0 : ∀ (N : gMem), P N → Z none N) (h : gOKq (fX3_countSets_28h x1 x3 x4 x5 M) P) : gGo G YX3_countSets d Z 28 [some (.ref 64), some (.ref x1), some (.ref 14), some (.ref x3), some (.int x4), some (.int x5)] [] M :=
  gLp_go (K := fun s : Int32 × gMem => gGo G YX3_countSets d Z 28 [some (.ref 64), some (.ref x1), some (.ref 14), some (.ref x3), some (.int x4), some (.int s.1)] [] s.2) (P := P) (fun s hs => CX3_countSets_28 hd (x1) (x3) (x4) (s.1) (s.2) o_x1 o_x3 (Sum.elim (fun s : Int32 × gMem => gGo G YX3_countSets d Z 28 [some (.ref 64), some (.ref x1), some (.ref 14), some (.ref x3), some (.int x4), some (.int s.1)] [] s.2) P) k0 (fun x5 M hh => hh) hs) gFu (x5, M) h
def fX3_countSets_22 (x1 : Nat) (x3 : Nat) (x4 : Int32) (s0 : Int32) (M : gMem) : Option (gMem) :=
  fX3_countSets_28h x1 x3 x4 (0 : Int32) (gSI M 64 2 s0)
set_option maxRecDepth 100000 in
theorem CX3_countSets_22 {G : gG} {d : Nat} {Z : Option Value → gMem → Prop} (hd : 5 ≤ d) (x1 : Nat) (x3 : Nat) (x4 : Int32) (s0 : Int32) (M : gMem) (o_x1 : gOb 7 x1 = true) (o_x3 : gOb 4 x3 = true) (P : gMem → Prop) (k0 : ∀ (N : gMem), P N → Z none N) (h : gOKq (fX3_countSets_22 x1 x3 x4 s0 M) P) : gGo G YX3_countSets d Z 22 [some (.ref 64), some (.ref x1), some (.ref 14), some (.ref x3), some (.int x4), none] [.int s0, .ref 64] M := by
  unfold fX3_countSets_22 at h
  refine go_ck okX3_countSets rfl (gOb_c rfl) ?_
  refine go_rn 2 (pc' := 28) (L' := [some (.ref 64), some (.ref x1), some (.ref 14), some (.ref x3), some (.int x4), some (.int (0 : Int32))]) (S' := []) (M' := (gSI M 64 2 s0)) okX3_countSets rfl ?_
  exact go_wk (CX3_countSets_28h hd x1 x3 x4 (0 : Int32) (gSI M 64 2 s0) o_x1 o_x3 P k0 h) ⟨rfl, rfl, rfl, rfl, rfl, rfl, True.intro⟩
def fX3_countSets_17 (x1 : Nat) (x3 : Nat) (x4 : Int32) (s0 : Int32) (M : gMem) : Option (gMem) :=
  fX3_countSets_22 x1 x3 x4 (0 : Int32) (gSI M 64 1 s0)
set_option maxRecDepth 100000 in
theorem CX3_countSets_17 {G : gG} {d : Nat} {Z : Option Value → gMem → Prop} (hd : 5 ≤ d) (x1 : Nat) (x3 : Nat) (x4 : Int32) (s0 : Int32) (M : gMem) (o_x1 : gOb 7 x1 = true) (o_x3 : gOb 4 x3 = true) (P : gMem → Prop) (k0 : ∀ (N : gMem), P N → Z none N) (h : gOKq (fX3_countSets_17 x1 x3 x4 s0 M) P) : gGo G YX3_countSets d Z 17 [some (.ref 64), some (.ref x1), some (.ref 14), some (.ref x3), some (.int x4), none] [.int s0, .ref 64] M := by
  unfold fX3_countSets_17 at h
  refine go_ck okX3_countSets rfl (gOb_c rfl) ?_
  refine go_rn 2 (pc' := 22) (L' := [some (.ref 64), some (.ref x1), some (.ref 14), some (.ref x3), some (.int x4), none]) (S' := [.int (0 : Int32), .ref 64]) (M' := (gSI M 64 1 s0)) okX3_countSets rfl ?_
  exact go_wk (CX3_countSets_22 hd x1 x3 x4 (0 : Int32) (gSI M 64 1 s0) o_x1 o_x3 P k0 h) ⟨rfl, rfl, rfl, rfl, rfl, True.intro⟩
def fX3_countSets_0 (x1 : Nat) (x3 : Nat) (M : gMem) : Option (gMem) :=
  gB0 (fX8_allOf (M.1 x1 6) M) (fun r1 => fX3_countSets_17 x1 x3 r1 r1 (gSI M 64 0 (0 : Int32)))
set_option maxRecDepth 100000 in
theorem CX3_countSets_0 {G : gG} {d : Nat} {Z : Option Value → gMem → Prop} (hd : 5 ≤ d) (x1 : Nat) (x3 : Nat) (M : gMem) (o_x1 : gOb 7 x1 = true) (o_x3 : gOb 4 x3 = true) (P : gMem → Prop) (k0 : ∀ (N : gMem), P N → Z none N) (h : gOKq (fX3_countSets_0 x1 x3 M) P) : gGo G YX3_countSets d Z 0 [some (.ref 64), some (.ref x1), some (.ref 14), some (.ref x3), none, none] [] M := by
  unfold fX3_countSets_0 at h
  refine go_rn 1 (pc' := 1) (L' := [some (.ref 64), some (.ref x1), some (.ref 14), some (.ref x3), none, none]) (S' := [.ref x1]) (M' := M) okX3_countSets rfl ?_
  refine go_ck okX3_countSets rfl o_x1 ?_
  obtain ⟨r1, e2, h⟩ := gB0_ok h
  refine go_call1 ocX3_countSets rfl rfl rfl rfl (SX8_allOf (M.1 x1 6) M e2) (Nat.lt_of_lt_of_le (by decide) hd) ?_
  refine go_rn 3 (pc' := 11) (L' := [some (.ref 64), some (.ref x1), some (.ref 14), some (.ref x3), some (.int r1), none]) (S' := [.int (0 : Int32), .ref 64]) (M' := M) okX3_countSets rfl ?_
  refine go_ck okX3_countSets rfl (gOb_c rfl) ?_
  refine go_rn 2 (pc' := 17) (L' := [some (.ref 64), some (.ref x1), some (.ref 14), some (.ref x3), some (.int r1), none]) (S' := [.int r1, .ref 64]) (M' := (gSI M 64 0 (0 : Int32))) okX3_countSets rfl ?_
  exact go_wk (CX3_countSets_17 hd x1 x3 r1 r1 (gSI M 64 0 (0 : Int32)) o_x1 o_x3 P k0 h) ⟨rfl, rfl, rfl, rfl, rfl, True.intro⟩
def fX3_countSets (a1 : Nat) (a3 : Nat) (M : gMem) : Option (gMem) := fX3_countSets_0 a1 a3 M
theorem SX3_countSets {G : gG} (a1 : Nat) (a3 : Nat) (M : gMem) (o_a1 : gOb 7 a1 = true) (o_a3 : gOb 4 a3 = true) {N : gMem} (h : fX3_countSets a1 a3 M = some N) : gRun G YX3_countSets 5 [.ref 64, .ref a1, .ref 14, .ref a3] M (fun r' N' => r' = none ∧ N' = N) := gRun_in (by decide +kernel) rfl (fun d hd => go_wk (CX3_countSets_0 hd a1 a3 M o_a1 o_a3 (fun p => p = N) (fun N hh => ⟨rfl, hh⟩) (gq_of h)) ⟨rfl, rfl, rfl, rfl, True.intro⟩)
def fX3_leftAtWorst_19 (s0 : Int32) (M : gMem) : Option (Int32) :=
  if s0 < 0 then some (M.1 64 0) else if s0 < (nI (gSh 65).2) then if gIx 1 65 s0 = true then if gIx 1 65 s0 = true then some (gMx (M.1 65 (Int32.toNatClampNeg s0)) ((M.1 64 0) - (M.1 65 (Int32.toNatClampNeg s0)))) else none else none else some (M.1 64 0)
set_option maxRecDepth 100000 in
theorem CX3_leftAtWorst_19 {G : gG} {d : Nat} {Z : Option Value → gMem → Prop} (hd : 0 ≤ d) (s0 : Int32) (M : gMem) (P : Int32 → Prop) (k0 : ∀ (r : Int32), P r → Z (some (.int r)) M) (h : gOKq (fX3_leftAtWorst_19 s0 M) P) : gGo G YX3_leftAtWorst d Z 19 [some (.ref 64), none, none] [.int s0] M := by
  unfold fX3_leftAtWorst_19 at h
  refine go_rn 2 (pc' := 21) (L' := [some (.ref 64), none, some (.int s0)]) (S' := [.int s0]) (M' := M) okX3_leftAtWorst rfl ?_
  refine go_br okX3_leftAtWorst rfl (fun hp => ?_) (fun hp => ?_)
  · have h := gq_pos hp h
    refine go_rn 1 (pc' := 34) (L' := [some (.ref 64), none, some (.int s0)]) (S' := [.ref 64]) (M' := M) okX3_leftAtWorst rfl ?_
    refine go_ck okX3_leftAtWorst rfl (gOb_c rfl) ?_
    exact go_iret (reX3_leftAtWorst _ (by decide)) rfl (k0 (M.1 64 0) h)
  · have h := gq_neg hp h
    refine go_rn 2 (pc' := 26) (L' := [some (.ref 64), none, some (.int s0)]) (S' := [.ref 64, .int s0]) (M' := M) okX3_leftAtWorst rfl ?_
    refine go_ck okX3_leftAtWorst rfl (gOb_c rfl) ?_
    refine go_ck okX3_leftAtWorst rfl (gAl_c rfl) ?_
    refine go_br okX3_leftAtWorst rfl (fun hp => ?_) (fun hp => ?_)
    · have h := gq_pos hp h
      refine go_rn 1 (pc' := 39) (L' := [some (.ref 64), none, some (.int s0)]) (S' := [.ref 64]) (M' := M) okX3_leftAtWorst rfl ?_
      refine go_ck okX3_leftAtWorst rfl (gOb_c rfl) ?_
      refine go_rn 1 (pc' := 43) (L' := [some (.ref 64), none, some (.int s0)]) (S' := [.int s0, .ref 65]) (M' := M) okX3_leftAtWorst rfl ?_
      obtain ⟨c1, h⟩ := gq_if h
      refine go_ck okX3_leftAtWorst rfl c1 ?_
      refine go_rn 1 (pc' := 45) (L' := [some (.ref 64), none, some (.int s0)]) (S' := [.ref 64, .int (M.1 65 (Int32.toNatClampNeg s0))]) (M' := M) okX3_leftAtWorst rfl ?_
      refine go_ck okX3_leftAtWorst rfl (gOb_c rfl) ?_
      refine go_rn 1 (pc' := 49) (L' := [some (.ref 64), none, some (.int s0)]) (S' := [.ref 64, .int (M.1 64 0), .int (M.1 65 (Int32.toNatClampNeg s0))]) (M' := M) okX3_leftAtWorst rfl ?_
      refine go_ck okX3_leftAtWorst rfl (gOb_c rfl) ?_
      refine go_rn 1 (pc' := 53) (L' := [some (.ref 64), none, some (.int s0)]) (S' := [.int s0, .ref 65, .int (M.1 64 0), .int (M.1 65 (Int32.toNatClampNeg s0))]) (M' := M) okX3_leftAtWorst rfl ?_
      obtain ⟨c2, h⟩ := gq_if h
      refine go_ck okX3_leftAtWorst rfl c2 ?_
      refine go_rn 2 (pc' := 58) (L' := [some (.ref 64), none, some (.int s0)]) (S' := [.int (gMx (M.1 65 (Int32.toNatClampNeg s0)) ((M.1 64 0) - (M.1 65 (Int32.toNatClampNeg s0))))]) (M' := M) okX3_leftAtWorst rfl ?_
      exact go_iret (reX3_leftAtWorst _ (by decide)) rfl (k0 (gMx (M.1 65 (Int32.toNatClampNeg s0)) ((M.1 64 0) - (M.1 65 (Int32.toNatClampNeg s0)))) h)
    · have h := gq_neg hp h
      refine go_rn 1 (pc' := 34) (L' := [some (.ref 64), none, some (.int s0)]) (S' := [.ref 64]) (M' := M) okX3_leftAtWorst rfl ?_
      refine go_ck okX3_leftAtWorst rfl (gOb_c rfl) ?_
      exact go_iret (reX3_leftAtWorst _ (by decide)) rfl (k0 (M.1 64 0) h)
def fX3_leftAtWorst_0 (x1 : Int32) (M : gMem) : Option (Int32) :=
  if 0 ≤ x1 then fX3_leftAtWorst_19 (((x1 / (10 : Int32)) * (5 : Int32)) + (x1 - x1 / (10 : Int32) * (10 : Int32))) M else fX3_leftAtWorst_19 (-1 : Int32) M
set_option maxRecDepth 100000 in
theorem CX3_leftAtWorst_0 {G : gG} {d : Nat} {Z : Option Value → gMem → Prop} (hd : 0 ≤ d) (x1 : Int32) (M : gMem) (P : Int32 → Prop) (k0 : ∀ (r : Int32), P r → Z (some (.int r)) M) (h : gOKq (fX3_leftAtWorst_0 x1 M) P) : gGo G YX3_leftAtWorst d Z 0 [some (.ref 64), some (.int x1), none] [] M := by
  unfold fX3_leftAtWorst_0 at h
  refine go_rn 1 (pc' := 1) (L' := [some (.ref 64), some (.int x1), none]) (S' := [.int x1]) (M' := M) okX3_leftAtWorst rfl ?_
  refine go_br okX3_leftAtWorst rfl (fun hp => ?_) (fun hp => ?_)
  · have h := gq_pos hp h
    refine go_rn 9 (pc' := 19) (L' := [some (.ref 64), some (.int x1), none]) (S' := [.int (((x1 / (10 : Int32)) * (5 : Int32)) + (x1 - x1 / (10 : Int32) * (10 : Int32)))]) (M' := M) okX3_leftAtWorst rfl ?_
    exact go_wk (CX3_leftAtWorst_19 hd (((x1 / (10 : Int32)) * (5 : Int32)) + (x1 - x1 / (10 : Int32) * (10 : Int32))) M P k0 h) ⟨rfl, True.intro⟩
  · have h := gq_neg hp h
    refine go_rn 2 (pc' := 19) (L' := [some (.ref 64), some (.int x1), none]) (S' := [.int (-1 : Int32)]) (M' := M) okX3_leftAtWorst rfl ?_
    exact go_wk (CX3_leftAtWorst_19 hd (-1 : Int32) M P k0 h) ⟨rfl, True.intro⟩
def fX3_leftAtWorst (a1 : Int32) (M : gMem) : Option (Int32) := fX3_leftAtWorst_0 a1 M
theorem SX3_leftAtWorst {G : gG} (a1 : Int32) (M : gMem) {r : Int32} (h : fX3_leftAtWorst a1 M = some r) : gRun G YX3_leftAtWorst 0 [.ref 64, .int a1] M (fun r' N' => r' = some (.int r) ∧ N' = M) := gRun_in (by decide +kernel) rfl (fun d hd => go_wk (CX3_leftAtWorst_0 hd a1 M (fun p => p = r) (fun r hh => ⟨congrArg (fun z => some (Value.int z)) hh, rfl⟩) (gq_of h)) ⟨rfl, rfl, True.intro⟩)
def fX3_bestQuestion_22 (x1 : Nat) (x2 : Int32) (x3 : Int32) (x4 : Int32) (x5 : Int32) (M : gMem) : Option (Sum (Int32 × Int32 × Int32) (Sum (Int32 × Int32 × Int32) (Int32))) :=
  if (M.1 x1 7) ≤ x5 then some (.inr (.inl (x2, x3, (x4 + 1)))) else gB0 (fX3_leftAtWorst (((10 : Int32) * x4) + x5) M) (fun r1 => if x3 ≤ r1 then some (.inl (x2, x3, (x5 + 1))) else some (.inl ((((10 : Int32) * x4) + x5), r1, (x5 + 1))))
set_option maxRecDepth 100000 in
theorem CX3_bestQuestion_22 {G : gG} {d : Nat} {Z : Option Value → gMem → Prop} (hd : 1 ≤ d) (x1 : Nat) (x2 : Int32) (x3 : Int32) (x4 : Int32) (x5 : Int32) (M : gMem) (o_x1 : gOb 7 x1 = true) (P : Sum (Int32 × Int32 × Int32) (Sum (Int32 × Int32 × Int32) (Int32)) → Prop) (k0 : ∀ (r : Int32), P (.inr (.inr r)) → Z (some (.int r)) M) (k1 : ∀ (x2 : Int32) (x3 : Int32) (x4 : Int32), P (.inr (.inl (x2, x3, x4))) → gGo G YX3_bestQuestion d Z 10 [some (.ref 64), some (.ref x1), some (.int x2), some (.int x3), some (.int x4), none, none, none] [] M) (k2 : ∀ (x2 : Int32) (x3 : Int32) (x5 : Int32), P (.inl (x2, x3, x5)) → gGo G YX3_bestQuestion d Z 22 [some (.ref 64), some (.ref x1), some (.int x2), some (.int x3), some (.int x4), some (.int x5), none, none] [] M) (h : gOKq (fX3_bestQuestion_22 x1 x2 x3 x4 x5 M) P) : gGo G YX3_bestQuestion d Z 22 [some (.ref 64), some (.ref x1), some (.int x2), some (.int x3), some (.int x4), some (.int x5), none, none] [] M := by
  unfold fX3_bestQuestion_22 at h
  refine go_rn 2 (pc' := 25) (L' := [some (.ref 64), some (.ref x1), some (.int x2), some (.int x3), some (.int x4), some (.int x5), none, none]) (S' := [.ref x1, .int x5]) (M' := M) okX3_bestQuestion rfl ?_
  refine go_ck okX3_bestQuestion rfl o_x1 ?_
  refine go_br okX3_bestQuestion rfl (fun hp => ?_) (fun hp => ?_)
  · have h := gq_pos hp h
    refine go_rn 2 (pc' := 10) (L' := [some (.ref 64), some (.ref x1), some (.int x2), some (.int x3), some (.int (x4 + 1)), some (.int x5), none, none]) (S' := []) (M' := M) okX3_bestQuestion rfl ?_
    exact go_wk (k1 (x2) (x3) ((x4 + 1)) h) ⟨rfl, rfl, rfl, rfl, rfl, True.intro⟩
  · have h := gq_neg hp h
    refine go_rn 8 (pc' := 44) (L' := [some (.ref 64), some (.ref x1), some (.int x2), some (.int x3), some (.int x4), some (.int x5), some (.int (((10 : Int32) * x4) + x5)), none]) (S' := [.int (((10 : Int32) * x4) + x5), .ref 64]) (M' := M) okX3_bestQuestion rfl ?_
    obtain ⟨r1, e2, h⟩ := gB0_ok h
    refine go_call1 ocX3_bestQuestion rfl rfl (gOb_c rfl) rfl (SX3_leftAtWorst (((10 : Int32) * x4) + x5) M e2) (Nat.lt_of_lt_of_le (by decide) hd) ?_
    refine go_rn 3 (pc' := 52) (L' := [some (.ref 64), some (.ref x1), some (.int x2), some (.int x3), some (.int x4), some (.int x5), some (.int (((10 : Int32) * x4) + x5)), some (.int r1)]) (S' := [.int x3, .int r1]) (M' := M) okX3_bestQuestion rfl ?_
    refine go_br okX3_bestQuestion rfl (fun hp => ?_) (fun hp => ?_)
    · have h := gq_pos hp h
      refine go_rn 2 (pc' := 22) (L' := [some (.ref 64), some (.ref x1), some (.int x2), some (.int x3), some (.int x4), some (.int (x5 + 1)), some (.int (((10 : Int32) * x4) + x5)), some (.int r1)]) (S' := []) (M' := M) okX3_bestQuestion rfl ?_
      exact go_wk (k2 (x2) (x3) ((x5 + 1)) h) ⟨rfl, rfl, rfl, rfl, rfl, rfl, True.intro⟩
    · have h := gq_neg hp h
      refine go_rn 6 (pc' := 22) (L' := [some (.ref 64), some (.ref x1), some (.int (((10 : Int32) * x4) + x5)), some (.int r1), some (.int x4), some (.int (x5 + 1)), some (.int (((10 : Int32) * x4) + x5)), some (.int r1)]) (S' := []) (M' := M) okX3_bestQuestion rfl ?_
      exact go_wk (k2 ((((10 : Int32) * x4) + x5)) (r1) ((x5 + 1)) h) ⟨rfl, rfl, rfl, rfl, rfl, rfl, True.intro⟩
def fX3_bestQuestion_22h (x1 : Nat) (x2 : Int32) (x3 : Int32) (x4 : Int32) (x5 : Int32) (M : gMem) : Option (Sum (Int32 × Int32 × Int32) (Int32)) :=
  gLp (fun s : Int32 × Int32 × Int32 => fX3_bestQuestion_22 x1 (s.1) (s.2.1) x4 (s.2.2) M) gFu (x2, x3, x5)
set_option maxRecDepth 100000 in
theorem CX3_bestQuestion_22h {G : gG} {d : Nat} {Z : Option Value → gMem → Prop} (hd : 1 ≤ d) (x1 : Nat) (x2 : Int32) (x3 : Int32) (x4 : Int32) (x5 : Int32) (M : gMem) (o_x1 : gOb 7 x1 = true) (P : Sum (Int32 × Int32 × Int32) (Int32) → Prop) (k0 : ∀ (r : Int32), P (.inr r) → Z (some (.int r)) M) (k1 : ∀ (x2 : Int32) (x3 : Int32) (x4 : Int32), P (.inl (x2, x3, x4)) → gGo G YX3_bestQuestion d Z 10 [some (.ref 64), some (.ref x1), some (.int x2), some (.int x3), some (.int x4), none, none, none] [] M) (h : gOKq (fX3_bestQuestion_22h x1 x2 x3 x4 x5 M) P) : gGo G YX3_bestQuestion d Z 22 [some (.ref 64), some (.ref x1), some (.int x2), some (.int x3), some (.int x4), some (.int x5), none, none] [] M :=
  gLp_go (K := fun s : Int32 × Int32 × Int32 => gGo G YX3_bestQuestion d Z 22 [some (.ref 64), some (.ref x1), some (.int s.1), some (.int s.2.1), some (.int x4), some (.int s.2.2), none, none] [] M) (P := P) (fun s hs => CX3_bestQuestion_22 hd (x1) (s.1) (s.2.1) (x4) (s.2.2) M o_x1 (Sum.elim (fun s : Int32 × Int32 × Int32 => gGo G YX3_bestQuestion d Z 22 [some (.ref 64), some (.ref x1), some (.int s.1), some (.int s.2.1), some (.int x4), some (.int s.2.2), none, none] [] M) P) k0 k1 (fun x2 x3 x5 hh => hh) hs) gFu (x2, x3, x5) h
def fX3_bestQuestion_10 (x1 : Nat) (x2 : Int32) (x3 : Int32) (x4 : Int32) (M : gMem) : Option (Sum (Int32 × Int32 × Int32) (Int32)) :=
  if (M.1 x1 5) ≤ x4 then some (.inr x2) else fX3_bestQuestion_22h x1 x2 x3 x4 (0 : Int32) M
set_option maxRecDepth 100000 in
theorem CX3_bestQuestion_10 {G : gG} {d : Nat} {Z : Option Value → gMem → Prop} (hd : 1 ≤ d) (x1 : Nat) (x2 : Int32) (x3 : Int32) (x4 : Int32) (M : gMem) (o_x1 : gOb 7 x1 = true) (P : Sum (Int32 × Int32 × Int32) (Int32) → Prop) (k0 : ∀ (r : Int32), P (.inr r) → Z (some (.int r)) M) (k1 : ∀ (x2 : Int32) (x3 : Int32) (x4 : Int32), P (.inl (x2, x3, x4)) → gGo G YX3_bestQuestion d Z 10 [some (.ref 64), some (.ref x1), some (.int x2), some (.int x3), some (.int x4), none, none, none] [] M) (h : gOKq (fX3_bestQuestion_10 x1 x2 x3 x4 M) P) : gGo G YX3_bestQuestion d Z 10 [some (.ref 64), some (.ref x1), some (.int x2), some (.int x3), some (.int x4), none, none, none] [] M := by
  unfold fX3_bestQuestion_10 at h
  refine go_rn 2 (pc' := 13) (L' := [some (.ref 64), some (.ref x1), some (.int x2), some (.int x3), some (.int x4), none, none, none]) (S' := [.ref x1, .int x4]) (M' := M) okX3_bestQuestion rfl ?_
  refine go_ck okX3_bestQuestion rfl o_x1 ?_
  refine go_br okX3_bestQuestion rfl (fun hp => ?_) (fun hp => ?_)
  · have h := gq_pos hp h
    refine go_rn 1 (pc' := 74) (L' := [some (.ref 64), some (.ref x1), some (.int x2), some (.int x3), some (.int x4), none, none, none]) (S' := [.int x2]) (M' := M) okX3_bestQuestion rfl ?_
    exact go_iret (reX3_bestQuestion _ (by decide)) rfl (k0 x2 h)
  · have h := gq_neg hp h
    refine go_rn 2 (pc' := 22) (L' := [some (.ref 64), some (.ref x1), some (.int x2), some (.int x3), some (.int x4), some (.int (0 : Int32)), none, none]) (S' := []) (M' := M) okX3_bestQuestion rfl ?_
    exact go_wk (CX3_bestQuestion_22h hd x1 x2 x3 x4 (0 : Int32) M o_x1 P k0 k1 h) ⟨rfl, rfl, rfl, rfl, rfl, rfl, True.intro⟩
def fX3_bestQuestion_10h (x1 : Nat) (x2 : Int32) (x3 : Int32) (x4 : Int32) (M : gMem) : Option (Int32) :=
  gLp (fun s : Int32 × Int32 × Int32 => fX3_bestQuestion_10 x1 (s.1) (s.2.1) (s.2.2) M) gFu (x2, x3, x4)
set_option maxRecDepth 100000 in
theorem CX3_bestQuestion_10h {G : gG} {d : Nat} {Z : Option Value → gMem → Prop} (hd : 1 ≤ d) (x1 : Nat) (x2 : Int32) (x3 : Int32) (x4 : Int32) (M : gMem) (o_x1 : gOb 7 x1 = true) (P : Int32 → Prop) (k0 : ∀ (r : Int32), P r → Z (some (.int r)) M) (h : gOKq (fX3_bestQuestion_10h x1 x2 x3 x4 M) P) : gGo G YX3_bestQuestion d Z 10 [some (.ref 64), some (.ref x1), some (.int x2), some (.int x3), some (.int x4), none, none, none] [] M :=
  gLp_go (K := fun s : Int32 × Int32 × Int32 => gGo G YX3_bestQuestion d Z 10 [some (.ref 64), some (.ref x1), some (.int s.1), some (.int s.2.1), some (.int s.2.2), none, none, none] [] M) (P := P) (fun s hs => CX3_bestQuestion_10 hd (x1) (s.1) (s.2.1) (s.2.2) M o_x1 (Sum.elim (fun s : Int32 × Int32 × Int32 => gGo G YX3_bestQuestion d Z 10 [some (.ref 64), some (.ref x1), some (.int s.1), some (.int s.2.1), some (.int s.2.2), none, none, none] [] M) P) k0 (fun x2 x3 x4 hh => hh) hs) gFu (x2, x3, x4) h
def fX3_bestQuestion_0 (x1 : Nat) (M : gMem) : Option (Int32) :=
  fX3_bestQuestion_10h x1 (-1 : Int32) (M.1 64 0) (0 : Int32) M
set_option maxRecDepth 100000 in
theorem CX3_bestQuestion_0 {G : gG} {d : Nat} {Z : Option Value → gMem → Prop} (hd : 1 ≤ d) (x1 : Nat) (M : gMem) (o_x1 : gOb 7 x1 = true) (P : Int32 → Prop) (k0 : ∀ (r : Int32), P r → Z (some (.int r)) M) (h : gOKq (fX3_bestQuestion_0 x1 M) P) : gGo G YX3_bestQuestion d Z 0 [some (.ref 64), some (.ref x1), none, none, none, none, none, none] [] M := by
  unfold fX3_bestQuestion_0 at h
  refine go_rn 3 (pc' := 3) (L' := [some (.ref 64), some (.ref x1), some (.int (-1 : Int32)), none, none, none, none, none]) (S' := [.ref 64]) (M' := M) okX3_bestQuestion rfl ?_
  refine go_ck okX3_bestQuestion rfl (gOb_c rfl) ?_
  refine go_rn 3 (pc' := 10) (L' := [some (.ref 64), some (.ref x1), some (.int (-1 : Int32)), some (.int (M.1 64 0)), some (.int (0 : Int32)), none, none, none]) (S' := []) (M' := M) okX3_bestQuestion rfl ?_
  exact go_wk (CX3_bestQuestion_10h hd x1 (-1 : Int32) (M.1 64 0) (0 : Int32) M o_x1 P k0 h) ⟨rfl, rfl, rfl, rfl, rfl, True.intro⟩
def fX3_bestQuestion (a1 : Nat) (M : gMem) : Option (Int32) := fX3_bestQuestion_0 a1 M
theorem SX3_bestQuestion {G : gG} (a1 : Nat) (M : gMem) (o_a1 : gOb 7 a1 = true) {r : Int32} (h : fX3_bestQuestion a1 M = some r) : gRun G YX3_bestQuestion 1 [.ref 64, .ref a1] M (fun r' N' => r' = some (.int r) ∧ N' = M) := gRun_in (by decide +kernel) rfl (fun d hd => go_wk (CX3_bestQuestion_0 hd a1 M o_a1 (fun p => p = r) (fun r hh => ⟨congrArg (fun z => some (Value.int z)) hh, rfl⟩) (gq_of h)) ⟨rfl, rfl, True.intro⟩)
def fX4_isThere_0 (x0 : Nat) (M : gMem) : Option (Int32) :=
  if (M.1 x0 1) = (-1 : Int32) then some (0 : Int32) else some (1 : Int32)
set_option maxRecDepth 100000 in
theorem CX4_isThere_0 {G : gG} {d : Nat} {Z : Option Value → gMem → Prop} (hd : 0 ≤ d) (x0 : Nat) (M : gMem) (o_x0 : gOb 4 x0 = true) (P : Int32 → Prop) (k0 : ∀ (r : Int32), P r → Z (some (.int r)) M) (h : gOKq (fX4_isThere_0 x0 M) P) : gGo G YX4_isThere d Z 0 [some (.ref x0)] [] M := by
  unfold fX4_isThere_0 at h
  refine go_rn 1 (pc' := 1) (L' := [some (.ref x0)]) (S' := [.ref x0]) (M' := M) okX4_isThere rfl ?_
  refine go_ck okX4_isThere rfl o_x0 ?_
  refine go_rn 1 (pc' := 5) (L' := [some (.ref x0)]) (S' := [.int (-1 : Int32), .int (M.1 x0 1)]) (M' := M) okX4_isThere rfl ?_
  refine go_br okX4_isThere rfl (fun hp => ?_) (fun hp => ?_)
  · have h := gq_pos hp h
    refine go_rn 1 (pc' := 13) (L' := [some (.ref x0)]) (S' := [.int (0 : Int32)]) (M' := M) okX4_isThere rfl ?_
    exact go_zret (reX4_isThere _ (by decide)) rfl (Or.inl rfl) (k0 (0 : Int32) h)
  · have h := gq_neg hp h
    refine go_rn 2 (pc' := 13) (L' := [some (.ref x0)]) (S' := [.int (1 : Int32)]) (M' := M) okX4_isThere rfl ?_
    exact go_zret (reX4_isThere _ (by decide)) rfl (Or.inr rfl) (k0 (1 : Int32) h)
def fX4_isThere (a0 : Nat) (M : gMem) : Option (Int32) := fX4_isThere_0 a0 M
theorem SX4_isThere {G : gG} (a0 : Nat) (M : gMem) (o_a0 : gOb 4 a0 = true) {r : Int32} (h : fX4_isThere a0 M = some r) : gRun G YX4_isThere 0 [.ref a0] M (fun r' N' => r' = some (.int r) ∧ N' = M) := gRun_in (by decide +kernel) rfl (fun d hd => go_wk (CX4_isThere_0 hd a0 M o_a0 (fun p => p = r) (fun r hh => ⟨congrArg (fun z => some (Value.int z)) hh, rfl⟩) (gq_of h)) ⟨rfl, True.intro⟩)
def fX4_begin_24 (x0 : Nat) (x3 : Int32) (M : gMem) : Option (Sum (Int32 × gMem) (gMem)) :=
  if (M.1 x0 2) ≤ x3 then some (.inr M) else if gIx 4 (x0 + 1) x3 = true then some (.inl ((x3 + 1), (gSJ M (x0 + 1) (Int32.toNatClampNeg x3) (0 : Int64)))) else none
set_option maxRecDepth 100000 in
theorem CX4_begin_24 {G : gG} {d : Nat} {Z : Option Value → gMem → Prop} (hd : 0 ≤ d) (x0 : Nat) (x3 : Int32) (M : gMem) (o_x0 : gOb 4 x0 = true) (P : Sum (Int32 × gMem) (gMem) → Prop) (k0 : ∀ (N : gMem), P (.inr N) → Z none N) (k1 : ∀ (x3 : Int32) (M : gMem), P (.inl (x3, M)) → gGo G YX4_begin d Z 24 [some (.ref x0), none, none, some (.int x3)] [] M) (h : gOKq (fX4_begin_24 x0 x3 M) P) : gGo G YX4_begin d Z 24 [some (.ref x0), none, none, some (.int x3)] [] M := by
  unfold fX4_begin_24 at h
  refine go_rn 2 (pc' := 26) (L' := [some (.ref x0), none, none, some (.int x3)]) (S' := [.ref x0, .int x3]) (M' := M) okX4_begin rfl ?_
  refine go_ck okX4_begin rfl o_x0 ?_
  refine go_br okX4_begin rfl (fun hp => ?_) (fun hp => ?_)
  · have h := gq_pos hp h
    exact go_vret (reX4_begin _ (by decide)) rfl (k0 M h)
  · have h := gq_neg hp h
    refine go_rn 1 (pc' := 33) (L' := [some (.ref x0), none, none, some (.int x3)]) (S' := [.ref x0]) (M' := M) okX4_begin rfl ?_
    refine go_ck okX4_begin rfl o_x0 ?_
    refine go_rn 2 (pc' := 38) (L' := [some (.ref x0), none, none, some (.int x3)]) (S' := [.long (0 : Int64), .int x3, .ref (x0 + 1)]) (M' := M) okX4_begin rfl ?_
    obtain ⟨c1, h⟩ := gq_if h
    refine go_ck okX4_begin rfl c1 ?_
    refine go_rn 2 (pc' := 24) (L' := [some (.ref x0), none, none, some (.int (x3 + 1))]) (S' := []) (M' := (gSJ M (x0 + 1) (Int32.toNatClampNeg x3) (0 : Int64))) okX4_begin rfl ?_
    exact go_wk (k1 ((x3 + 1)) (gSJ M (x0 + 1) (Int32.toNatClampNeg x3) (0 : Int64)) h) ⟨rfl, rfl, True.intro⟩
def fX4_begin_24h (x0 : Nat) (x3 : Int32) (M : gMem) : Option (gMem) :=
  gLp (fun s : Int32 × gMem => fX4_begin_24 x0 (s.1) s.2) gFu (x3, M)
set_option maxRecDepth 100000 in
theorem CX4_begin_24h {G : gG} {d : Nat} {Z : Option Value → gMem → Prop} (hd : 0 ≤ d) (x0 : Nat) (x3 : Int32) (M : gMem) (o_x0 : gOb 4 x0 = true) (P : gMem → Prop) (k0 : ∀ (N : gMem), P N → Z none N) (h : gOKq (fX4_begin_24h x0 x3 M) P) : gGo G YX4_begin d Z 24 [some (.ref x0), none, none, some (.int x3)] [] M :=
  gLp_go (K := fun s : Int32 × gMem => gGo G YX4_begin d Z 24 [some (.ref x0), none, none, some (.int s.1)] [] s.2) (P := P) (fun s hs => CX4_begin_24 hd (x0) (s.1) (s.2) o_x0 (Sum.elim (fun s : Int32 × gMem => gGo G YX4_begin d Z 24 [some (.ref x0), none, none, some (.int s.1)] [] s.2) P) k0 (fun x3 M hh => hh) hs) gFu (x3, M) h
def fX4_begin_19 (x0 : Nat) (s0 : Int32) (s1 : Nat) (M : gMem) : Option (gMem) :=
  fX4_begin_24h x0 (0 : Int32) (gSI M s1 2 s0)
set_option maxRecDepth 100000 in
theorem CX4_begin_19 {G : gG} {d : Nat} {Z : Option Value → gMem → Prop} (hd : 0 ≤ d) (x0 : Nat) (s0 : Int32) (s1 : Nat) (M : gMem) (o_x0 : gOb 4 x0 = true) (o_s1 : gOb 4 s1 = true) (P : gMem → Prop) (k0 : ∀ (N : gMem), P N → Z none N) (h : gOKq (fX4_begin_19 x0 s0 s1 M) P) : gGo G YX4_begin d Z 19 [some (.ref x0), none, none, none] [.int s0, .ref s1] M := by
  unfold fX4_begin_19 at h
  refine go_ck okX4_begin rfl o_s1 ?_
  refine go_rn 2 (pc' := 24) (L' := [some (.ref x0), none, none, some (.int (0 : Int32))]) (S' := []) (M' := (gSI M s1 2 s0)) okX4_begin rfl ?_
  exact go_wk (CX4_begin_24h hd x0 (0 : Int32) (gSI M s1 2 s0) o_x0 P k0 h) ⟨rfl, rfl, True.intro⟩
def fX4_begin_0 (x0 : Nat) (x1 : Int32) (x2 : Int32) (M : gMem) : Option (gMem) :=
  if gAl (x0 + 1) = true then fX4_begin_19 x0 (gMx (0 : Int32) (gMn x2 (nI (gSh (x0 + 1)).2))) x0 (gSI M x0 1 x1) else none
set_option maxRecDepth 100000 in
theorem CX4_begin_0 {G : gG} {d : Nat} {Z : Option Value → gMem → Prop} (hd : 0 ≤ d) (x0 : Nat) (x1 : Int32) (x2 : Int32) (M : gMem) (o_x0 : gOb 4 x0 = true) (P : gMem → Prop) (k0 : ∀ (N : gMem), P N → Z none N) (h : gOKq (fX4_begin_0 x0 x1 x2 M) P) : gGo G YX4_begin d Z 0 [some (.ref x0), some (.int x1), some (.int x2), none] [] M := by
  unfold fX4_begin_0 at h
  refine go_rn 2 (pc' := 2) (L' := [some (.ref x0), some (.int x1), some (.int x2), none]) (S' := [.int x1, .ref x0]) (M' := M) okX4_begin rfl ?_
  refine go_ck okX4_begin rfl o_x0 ?_
  refine go_rn 4 (pc' := 9) (L' := [some (.ref x0), some (.int x1), some (.int x2), none]) (S' := [.ref x0, .int x2, .int (0 : Int32), .ref x0]) (M' := (gSI M x0 1 x1)) okX4_begin rfl ?_
  refine go_ck okX4_begin rfl o_x0 ?_
  obtain ⟨c1, h⟩ := gq_if h
  refine go_ck okX4_begin rfl c1 ?_
  refine go_rn 2 (pc' := 19) (L' := [some (.ref x0), some (.int x1), some (.int x2), none]) (S' := [.int (gMx (0 : Int32) (gMn x2 (nI (gSh (x0 + 1)).2))), .ref x0]) (M' := (gSI M x0 1 x1)) okX4_begin rfl ?_
  exact go_wk (CX4_begin_19 hd x0 (gMx (0 : Int32) (gMn x2 (nI (gSh (x0 + 1)).2))) x0 (gSI M x0 1 x1) o_x0 o_x0 P k0 h) ⟨rfl, True.intro⟩
def fX4_begin (a0 : Nat) (a1 : Int32) (a2 : Int32) (M : gMem) : Option (gMem) := fX4_begin_0 a0 a1 a2 M
theorem SX4_begin {G : gG} (a0 : Nat) (a1 : Int32) (a2 : Int32) (M : gMem) (o_a0 : gOb 4 a0 = true) {N : gMem} (h : fX4_begin a0 a1 a2 M = some N) : gRun G YX4_begin 0 [.ref a0, .int a1, .int a2] M (fun r' N' => r' = none ∧ N' = N) := gRun_in (by decide +kernel) rfl (fun d hd => go_wk (CX4_begin_0 hd a0 a1 a2 M o_a0 (fun p => p = N) (fun N hh => ⟨rfl, hh⟩) (gq_of h)) ⟨rfl, rfl, rfl, True.intro⟩)
def fX4_put_0 (x0 : Nat) (x1 : Int32) (x2 : Int64) (M : gMem) : Option (gMem) :=
  if x1 < 0 then some M else if x1 < (M.1 x0 2) then if (M.1 x0 1) = 0 then if gIx 4 (x0 + 1) x1 = true then some (gSJ M (x0 + 1) (Int32.toNatClampNeg x1) (Int32.toInt64 ((Int64.toInt32 x2).toInt8.toInt32))) else none else if (M.1 x0 1) = 1 then if gIx 4 (x0 + 1) x1 = true then some (gSJ M (x0 + 1) (Int32.toNatClampNeg x1) (Int32.toInt64 ((Int64.toInt32 x2).toInt16.toInt32))) else none else if (M.1 x0 1) = 2 then if gIx 4 (x0 + 1) x1 = true then some (gSJ M (x0 + 1) (Int32.toNatClampNeg x1) (Int32.toInt64 (Int64.toInt32 x2))) else none else if gIx 4 (x0 + 1) x1 = true then some (gSJ M (x0 + 1) (Int32.toNatClampNeg x1) x2) else none else some M
set_option maxRecDepth 100000 in
theorem CX4_put_0 {G : gG} {d : Nat} {Z : Option Value → gMem → Prop} (hd : 0 ≤ d) (x0 : Nat) (x1 : Int32) (x2 : Int64) (M : gMem) (o_x0 : gOb 4 x0 = true) (P : gMem → Prop) (k0 : ∀ (N : gMem), P N → Z none N) (h : gOKq (fX4_put_0 x0 x1 x2 M) P) : gGo G YX4_put d Z 0 [some (.ref x0), some (.int x1), some (.long x2), none] [] M := by
  unfold fX4_put_0 at h
  refine go_rn 1 (pc' := 1) (L' := [some (.ref x0), some (.int x1), some (.long x2), none]) (S' := [.int x1]) (M' := M) okX4_put rfl ?_
  refine go_br okX4_put rfl (fun hp => ?_) (fun hp => ?_)
  · have h := gq_pos hp h
    exact go_vret (reX4_put _ (by decide)) rfl (k0 M h)
  · have h := gq_neg hp h
    refine go_rn 2 (pc' := 6) (L' := [some (.ref x0), some (.int x1), some (.long x2), none]) (S' := [.ref x0, .int x1]) (M' := M) okX4_put rfl ?_
    refine go_ck okX4_put rfl o_x0 ?_
    refine go_br okX4_put rfl (fun hp => ?_) (fun hp => ?_)
    · have h := gq_pos hp h
      refine go_rn 1 (pc' := 14) (L' := [some (.ref x0), some (.int x1), some (.long x2), none]) (S' := [.ref x0]) (M' := M) okX4_put rfl ?_
      refine go_ck okX4_put rfl o_x0 ?_
      refine go_sw okX4_put rfl ⟨fun hp => ?_, fun hn0 => ⟨fun hp => ?_, fun hn1 => ⟨fun hp => ?_, fun hn2 => ?_⟩⟩⟩
      · have h := gq_pos hp h
        refine go_rn 1 (pc' := 45) (L' := [some (.ref x0), some (.int x1), some (.long x2), none]) (S' := [.ref x0]) (M' := M) okX4_put rfl ?_
        refine go_ck okX4_put rfl o_x0 ?_
        refine go_rn 5 (pc' := 53) (L' := [some (.ref x0), some (.int x1), some (.long x2), none]) (S' := [.long (Int32.toInt64 ((Int64.toInt32 x2).toInt8.toInt32)), .int x1, .ref (x0 + 1)]) (M' := M) okX4_put rfl ?_
        obtain ⟨c1, h⟩ := gq_if h
        refine go_ck okX4_put rfl c1 ?_
        refine go_rn 1 (pc' := 89) (L' := [some (.ref x0), some (.int x1), some (.long x2), none]) (S' := []) (M' := (gSJ M (x0 + 1) (Int32.toNatClampNeg x1) (Int32.toInt64 ((Int64.toInt32 x2).toInt8.toInt32)))) okX4_put rfl ?_
        exact go_vret (reX4_put _ (by decide)) rfl (k0 (gSJ M (x0 + 1) (Int32.toNatClampNeg x1) (Int32.toInt64 ((Int64.toInt32 x2).toInt8.toInt32))) h)
      · have h := gq_neg hn0 h
        have h := gq_pos hp h
        refine go_rn 1 (pc' := 58) (L' := [some (.ref x0), some (.int x1), some (.long x2), none]) (S' := [.ref x0]) (M' := M) okX4_put rfl ?_
        refine go_ck okX4_put rfl o_x0 ?_
        refine go_rn 5 (pc' := 66) (L' := [some (.ref x0), some (.int x1), some (.long x2), none]) (S' := [.long (Int32.toInt64 ((Int64.toInt32 x2).toInt16.toInt32)), .int x1, .ref (x0 + 1)]) (M' := M) okX4_put rfl ?_
        obtain ⟨c2, h⟩ := gq_if h
        refine go_ck okX4_put rfl c2 ?_
        refine go_rn 1 (pc' := 89) (L' := [some (.ref x0), some (.int x1), some (.long x2), none]) (S' := []) (M' := (gSJ M (x0 + 1) (Int32.toNatClampNeg x1) (Int32.toInt64 ((Int64.toInt32 x2).toInt16.toInt32)))) okX4_put rfl ?_
        exact go_vret (reX4_put _ (by decide)) rfl (k0 (gSJ M (x0 + 1) (Int32.toNatClampNeg x1) (Int32.toInt64 ((Int64.toInt32 x2).toInt16.toInt32))) h)
      · have h := gq_neg hn0 h
        have h := gq_neg hn1 h
        have h := gq_pos hp h
        refine go_rn 1 (pc' := 71) (L' := [some (.ref x0), some (.int x1), some (.long x2), none]) (S' := [.ref x0]) (M' := M) okX4_put rfl ?_
        refine go_ck okX4_put rfl o_x0 ?_
        refine go_rn 4 (pc' := 78) (L' := [some (.ref x0), some (.int x1), some (.long x2), none]) (S' := [.long (Int32.toInt64 (Int64.toInt32 x2)), .int x1, .ref (x0 + 1)]) (M' := M) okX4_put rfl ?_
        obtain ⟨c3, h⟩ := gq_if h
        refine go_ck okX4_put rfl c3 ?_
        refine go_rn 1 (pc' := 89) (L' := [some (.ref x0), some (.int x1), some (.long x2), none]) (S' := []) (M' := (gSJ M (x0 + 1) (Int32.toNatClampNeg x1) (Int32.toInt64 (Int64.toInt32 x2)))) okX4_put rfl ?_
        exact go_vret (reX4_put _ (by decide)) rfl (k0 (gSJ M (x0 + 1) (Int32.toNatClampNeg x1) (Int32.toInt64 (Int64.toInt32 x2))) h)
      · have h := gq_neg hn0 h
        have h := gq_neg hn1 h
        have h := gq_neg hn2 h
        refine go_rn 1 (pc' := 83) (L' := [some (.ref x0), some (.int x1), some (.long x2), none]) (S' := [.ref x0]) (M' := M) okX4_put rfl ?_
        refine go_ck okX4_put rfl o_x0 ?_
        refine go_rn 2 (pc' := 88) (L' := [some (.ref x0), some (.int x1), some (.long x2), none]) (S' := [.long x2, .int x1, .ref (x0 + 1)]) (M' := M) okX4_put rfl ?_
        obtain ⟨c4, h⟩ := gq_if h
        refine go_ck okX4_put rfl c4 ?_
        exact go_vret (reX4_put _ (by decide)) rfl (k0 (gSJ M (x0 + 1) (Int32.toNatClampNeg x1) x2) h)
    · have h := gq_neg hp h
      exact go_vret (reX4_put _ (by decide)) rfl (k0 M h)
def fX4_put (a0 : Nat) (a1 : Int32) (a2 : Int64) (M : gMem) : Option (gMem) := fX4_put_0 a0 a1 a2 M
theorem SX4_put {G : gG} (a0 : Nat) (a1 : Int32) (a2 : Int64) (M : gMem) (o_a0 : gOb 4 a0 = true) {N : gMem} (h : fX4_put a0 a1 a2 M = some N) : gRun G YX4_put 0 [.ref a0, .int a1, .long a2] M (fun r' N' => r' = none ∧ N' = N) := gRun_in (by decide +kernel) rfl (fun d hd => go_wk (CX4_put_0 hd a0 a1 a2 M o_a0 (fun p => p = N) (fun N hh => ⟨rfl, hh⟩) (gq_of h)) ⟨rfl, rfl, rfl, True.intro⟩)
def fX4_reaches_0 (x0 : Nat) (x1 : Int32) (x2 : Int32) (M : gMem) : Option (Int32) :=
  if x1 < 0 then some (0 : Int32) else if x2 < 0 then some (0 : Int32) else if (M.1 x0 2) < x1 then some (0 : Int32) else if ((M.1 x0 2) - x1) < x2 then some (0 : Int32) else some (1 : Int32)
set_option maxRecDepth 100000 in
theorem CX4_reaches_0 {G : gG} {d : Nat} {Z : Option Value → gMem → Prop} (hd : 0 ≤ d) (x0 : Nat) (x1 : Int32) (x2 : Int32) (M : gMem) (o_x0 : gOb 4 x0 = true) (P : Int32 → Prop) (k0 : ∀ (r : Int32), P r → Z (some (.int r)) M) (h : gOKq (fX4_reaches_0 x0 x1 x2 M) P) : gGo G YX4_reaches d Z 0 [some (.ref x0), some (.int x1), some (.int x2)] [] M := by
  unfold fX4_reaches_0 at h
  refine go_rn 1 (pc' := 1) (L' := [some (.ref x0), some (.int x1), some (.int x2)]) (S' := [.int x1]) (M' := M) okX4_reaches rfl ?_
  refine go_br okX4_reaches rfl (fun hp => ?_) (fun hp => ?_)
  · have h := gq_pos hp h
    refine go_rn 1 (pc' := 31) (L' := [some (.ref x0), some (.int x1), some (.int x2)]) (S' := [.int (0 : Int32)]) (M' := M) okX4_reaches rfl ?_
    exact go_zret (reX4_reaches _ (by decide)) rfl (Or.inl rfl) (k0 (0 : Int32) h)
  · have h := gq_neg hp h
    refine go_rn 1 (pc' := 5) (L' := [some (.ref x0), some (.int x1), some (.int x2)]) (S' := [.int x2]) (M' := M) okX4_reaches rfl ?_
    refine go_br okX4_reaches rfl (fun hp => ?_) (fun hp => ?_)
    · have h := gq_pos hp h
      refine go_rn 1 (pc' := 31) (L' := [some (.ref x0), some (.int x1), some (.int x2)]) (S' := [.int (0 : Int32)]) (M' := M) okX4_reaches rfl ?_
      exact go_zret (reX4_reaches _ (by decide)) rfl (Or.inl rfl) (k0 (0 : Int32) h)
    · have h := gq_neg hp h
      refine go_rn 2 (pc' := 10) (L' := [some (.ref x0), some (.int x1), some (.int x2)]) (S' := [.ref x0, .int x1]) (M' := M) okX4_reaches rfl ?_
      refine go_ck okX4_reaches rfl o_x0 ?_
      refine go_br okX4_reaches rfl (fun hp => ?_) (fun hp => ?_)
      · have h := gq_pos hp h
        refine go_rn 1 (pc' := 31) (L' := [some (.ref x0), some (.int x1), some (.int x2)]) (S' := [.int (0 : Int32)]) (M' := M) okX4_reaches rfl ?_
        exact go_zret (reX4_reaches _ (by decide)) rfl (Or.inl rfl) (k0 (0 : Int32) h)
      · have h := gq_neg hp h
        refine go_rn 2 (pc' := 18) (L' := [some (.ref x0), some (.int x1), some (.int x2)]) (S' := [.ref x0, .int x2]) (M' := M) okX4_reaches rfl ?_
        refine go_ck okX4_reaches rfl o_x0 ?_
        refine go_rn 2 (pc' := 23) (L' := [some (.ref x0), some (.int x1), some (.int x2)]) (S' := [.int ((M.1 x0 2) - x1), .int x2]) (M' := M) okX4_reaches rfl ?_
        refine go_br okX4_reaches rfl (fun hp => ?_) (fun hp => ?_)
        · have h := gq_pos hp h
          refine go_rn 1 (pc' := 31) (L' := [some (.ref x0), some (.int x1), some (.int x2)]) (S' := [.int (0 : Int32)]) (M' := M) okX4_reaches rfl ?_
          exact go_zret (reX4_reaches _ (by decide)) rfl (Or.inl rfl) (k0 (0 : Int32) h)
        · have h := gq_neg hp h
          refine go_rn 2 (pc' := 31) (L' := [some (.ref x0), some (.int x1), some (.int x2)]) (S' := [.int (1 : Int32)]) (M' := M) okX4_reaches rfl ?_
          exact go_zret (reX4_reaches _ (by decide)) rfl (Or.inr rfl) (k0 (1 : Int32) h)
def fX4_reaches (a0 : Nat) (a1 : Int32) (a2 : Int32) (M : gMem) : Option (Int32) := fX4_reaches_0 a0 a1 a2 M
theorem SX4_reaches {G : gG} (a0 : Nat) (a1 : Int32) (a2 : Int32) (M : gMem) (o_a0 : gOb 4 a0 = true) {r : Int32} (h : fX4_reaches a0 a1 a2 M = some r) : gRun G YX4_reaches 0 [.ref a0, .int a1, .int a2] M (fun r' N' => r' = some (.int r) ∧ N' = M) := gRun_in (by decide +kernel) rfl (fun d hd => go_wk (CX4_reaches_0 hd a0 a1 a2 M o_a0 (fun p => p = r) (fun r hh => ⟨congrArg (fun z => some (Value.int z)) hh, rfl⟩) (gq_of h)) ⟨rfl, rfl, rfl, True.intro⟩)
def fX5_isBlank_0 (x0 : Int32) (M : gMem) : Option (Int32) :=
  if x0 = (32 : Int32) then some (1 : Int32) else if x0 = (10 : Int32) then some (1 : Int32) else some (0 : Int32)
set_option maxRecDepth 100000 in
theorem CX5_isBlank_0 {G : gG} {d : Nat} {Z : Option Value → gMem → Prop} (hd : 0 ≤ d) (x0 : Int32) (M : gMem) (P : Int32 → Prop) (k0 : ∀ (r : Int32), P r → Z (some (.int r)) M) (h : gOKq (fX5_isBlank_0 x0 M) P) : gGo G YX5_isBlank d Z 0 [some (.int x0)] [] M := by
  unfold fX5_isBlank_0 at h
  refine go_rn 2 (pc' := 3) (L' := [some (.int x0)]) (S' := [.int (32 : Int32), .int x0]) (M' := M) okX5_isBlank rfl ?_
  refine go_br okX5_isBlank rfl (fun hp => ?_) (fun hp => ?_)
  · have h := gq_pos hp h
    refine go_rn 2 (pc' := 17) (L' := [some (.int x0)]) (S' := [.int (1 : Int32)]) (M' := M) okX5_isBlank rfl ?_
    exact go_zret (reX5_isBlank _ (by decide)) rfl (Or.inr rfl) (k0 (1 : Int32) h)
  · have h := gq_neg hp h
    refine go_rn 2 (pc' := 9) (L' := [some (.int x0)]) (S' := [.int (10 : Int32), .int x0]) (M' := M) okX5_isBlank rfl ?_
    refine go_br okX5_isBlank rfl (fun hp => ?_) (fun hp => ?_)
    · have h := gq_pos hp h
      refine go_rn 2 (pc' := 17) (L' := [some (.int x0)]) (S' := [.int (1 : Int32)]) (M' := M) okX5_isBlank rfl ?_
      exact go_zret (reX5_isBlank _ (by decide)) rfl (Or.inr rfl) (k0 (1 : Int32) h)
    · have h := gq_neg hp h
      refine go_rn 1 (pc' := 17) (L' := [some (.int x0)]) (S' := [.int (0 : Int32)]) (M' := M) okX5_isBlank rfl ?_
      exact go_zret (reX5_isBlank _ (by decide)) rfl (Or.inl rfl) (k0 (0 : Int32) h)
def fX5_isBlank (a0 : Int32) (M : gMem) : Option (Int32) := fX5_isBlank_0 a0 M
theorem SX5_isBlank {G : gG} (a0 : Int32) (M : gMem) {r : Int32} (h : fX5_isBlank a0 M = some r) : gRun G YX5_isBlank 0 [.int a0] M (fun r' N' => r' = some (.int r) ∧ N' = M) := gRun_in (by decide +kernel) rfl (fun d hd => go_wk (CX5_isBlank_0 hd a0 M (fun p => p = r) (fun r hh => ⟨congrArg (fun z => some (Value.int z)) hh, rfl⟩) (gq_of h)) ⟨rfl, True.intro⟩)
def fX5_isLetter_0 (x0 : Int32) (M : gMem) : Option (Int32) :=
  if x0 < (97 : Int32) then some (0 : Int32) else if (122 : Int32) < x0 then some (0 : Int32) else some (1 : Int32)
set_option maxRecDepth 100000 in
theorem CX5_isLetter_0 {G : gG} {d : Nat} {Z : Option Value → gMem → Prop} (hd : 0 ≤ d) (x0 : Int32) (M : gMem) (P : Int32 → Prop) (k0 : ∀ (r : Int32), P r → Z (some (.int r)) M) (h : gOKq (fX5_isLetter_0 x0 M) P) : gGo G YX5_isLetter d Z 0 [some (.int x0)] [] M := by
  unfold fX5_isLetter_0 at h
  refine go_rn 2 (pc' := 3) (L' := [some (.int x0)]) (S' := [.int (97 : Int32), .int x0]) (M' := M) okX5_isLetter rfl ?_
  refine go_br okX5_isLetter rfl (fun hp => ?_) (fun hp => ?_)
  · have h := gq_pos hp h
    refine go_rn 1 (pc' := 17) (L' := [some (.int x0)]) (S' := [.int (0 : Int32)]) (M' := M) okX5_isLetter rfl ?_
    exact go_zret (reX5_isLetter _ (by decide)) rfl (Or.inl rfl) (k0 (0 : Int32) h)
  · have h := gq_neg hp h
    refine go_rn 2 (pc' := 9) (L' := [some (.int x0)]) (S' := [.int (122 : Int32), .int x0]) (M' := M) okX5_isLetter rfl ?_
    refine go_br okX5_isLetter rfl (fun hp => ?_) (fun hp => ?_)
    · have h := gq_pos hp h
      refine go_rn 1 (pc' := 17) (L' := [some (.int x0)]) (S' := [.int (0 : Int32)]) (M' := M) okX5_isLetter rfl ?_
      exact go_zret (reX5_isLetter _ (by decide)) rfl (Or.inl rfl) (k0 (0 : Int32) h)
    · have h := gq_neg hp h
      refine go_rn 2 (pc' := 17) (L' := [some (.int x0)]) (S' := [.int (1 : Int32)]) (M' := M) okX5_isLetter rfl ?_
      exact go_zret (reX5_isLetter _ (by decide)) rfl (Or.inr rfl) (k0 (1 : Int32) h)
def fX5_isLetter (a0 : Int32) (M : gMem) : Option (Int32) := fX5_isLetter_0 a0 M
theorem SX5_isLetter {G : gG} (a0 : Int32) (M : gMem) {r : Int32} (h : fX5_isLetter a0 M = some r) : gRun G YX5_isLetter 0 [.int a0] M (fun r' N' => r' = some (.int r) ∧ N' = M) := gRun_in (by decide +kernel) rfl (fun d hd => go_wk (CX5_isLetter_0 hd a0 M (fun p => p = r) (fun r hh => ⟨congrArg (fun z => some (Value.int z)) hh, rfl⟩) (gq_of h)) ⟨rfl, True.intro⟩)
def fX5_isDigit_0 (x0 : Int32) (M : gMem) : Option (Int32) :=
  if x0 < (48 : Int32) then some (0 : Int32) else if (57 : Int32) < x0 then some (0 : Int32) else some (1 : Int32)
set_option maxRecDepth 100000 in
theorem CX5_isDigit_0 {G : gG} {d : Nat} {Z : Option Value → gMem → Prop} (hd : 0 ≤ d) (x0 : Int32) (M : gMem) (P : Int32 → Prop) (k0 : ∀ (r : Int32), P r → Z (some (.int r)) M) (h : gOKq (fX5_isDigit_0 x0 M) P) : gGo G YX5_isDigit d Z 0 [some (.int x0)] [] M := by
  unfold fX5_isDigit_0 at h
  refine go_rn 2 (pc' := 3) (L' := [some (.int x0)]) (S' := [.int (48 : Int32), .int x0]) (M' := M) okX5_isDigit rfl ?_
  refine go_br okX5_isDigit rfl (fun hp => ?_) (fun hp => ?_)
  · have h := gq_pos hp h
    refine go_rn 1 (pc' := 17) (L' := [some (.int x0)]) (S' := [.int (0 : Int32)]) (M' := M) okX5_isDigit rfl ?_
    exact go_zret (reX5_isDigit _ (by decide)) rfl (Or.inl rfl) (k0 (0 : Int32) h)
  · have h := gq_neg hp h
    refine go_rn 2 (pc' := 9) (L' := [some (.int x0)]) (S' := [.int (57 : Int32), .int x0]) (M' := M) okX5_isDigit rfl ?_
    refine go_br okX5_isDigit rfl (fun hp => ?_) (fun hp => ?_)
    · have h := gq_pos hp h
      refine go_rn 1 (pc' := 17) (L' := [some (.int x0)]) (S' := [.int (0 : Int32)]) (M' := M) okX5_isDigit rfl ?_
      exact go_zret (reX5_isDigit _ (by decide)) rfl (Or.inl rfl) (k0 (0 : Int32) h)
    · have h := gq_neg hp h
      refine go_rn 2 (pc' := 17) (L' := [some (.int x0)]) (S' := [.int (1 : Int32)]) (M' := M) okX5_isDigit rfl ?_
      exact go_zret (reX5_isDigit _ (by decide)) rfl (Or.inr rfl) (k0 (1 : Int32) h)
def fX5_isDigit (a0 : Int32) (M : gMem) : Option (Int32) := fX5_isDigit_0 a0 M
theorem SX5_isDigit {G : gG} (a0 : Int32) (M : gMem) {r : Int32} (h : fX5_isDigit a0 M = some r) : gRun G YX5_isDigit 0 [.int a0] M (fun r' N' => r' = some (.int r) ∧ N' = M) := gRun_in (by decide +kernel) rfl (fun d hd => go_wk (CX5_isDigit_0 hd a0 M (fun p => p = r) (fun r hh => ⟨congrArg (fun z => some (Value.int z)) hh, rfl⟩) (gq_of h)) ⟨rfl, True.intro⟩)
def fX5_kindOf_0 (x0 : Int32) (M : gMem) : Option (Int32) :=
  if x0 = (-1 : Int32) then some (0 : Int32) else gB0 (fX5_isLetter x0 M) (fun r1 => if r1 = 0 then gB0 (fX5_isDigit x0 M) (fun r3 => if r3 = 0 then if x0 = (59 : Int32) then some (3 : Int32) else some (4 : Int32) else some (2 : Int32)) else some (1 : Int32))
set_option maxRecDepth 100000 in
theorem CX5_kindOf_0 {G : gG} {d : Nat} {Z : Option Value → gMem → Prop} (hd : 1 ≤ d) (x0 : Int32) (M : gMem) (P : Int32 → Prop) (k0 : ∀ (r : Int32), P r → Z (some (.int r)) M) (h : gOKq (fX5_kindOf_0 x0 M) P) : gGo G YX5_kindOf d Z 0 [some (.int x0)] [] M := by
  unfold fX5_kindOf_0 at h
  refine go_rn 2 (pc' := 2) (L' := [some (.int x0)]) (S' := [.int (-1 : Int32), .int x0]) (M' := M) okX5_kindOf rfl ?_
  refine go_br okX5_kindOf rfl (fun hp => ?_) (fun hp => ?_)
  · have h := gq_pos hp h
    refine go_rn 1 (pc' := 6) (L' := [some (.int x0)]) (S' := [.int (0 : Int32)]) (M' := M) okX5_kindOf rfl ?_
    exact go_iret (reX5_kindOf _ (by decide)) rfl (k0 (0 : Int32) h)
  · have h := gq_neg hp h
    refine go_rn 1 (pc' := 8) (L' := [some (.int x0)]) (S' := [.int x0]) (M' := M) okX5_kindOf rfl ?_
    obtain ⟨r1, e2, h⟩ := gB0_ok h
    refine go_call1 ocX5_kindOf rfl rfl rfl rfl (SX5_isLetter x0 M e2) (Nat.lt_of_lt_of_le (by decide) hd) ?_
    refine go_br okX5_kindOf rfl (fun hp => ?_) (fun hp => ?_)
    · have h := gq_pos hp h
      refine go_rn 1 (pc' := 17) (L' := [some (.int x0)]) (S' := [.int x0]) (M' := M) okX5_kindOf rfl ?_
      obtain ⟨r3, e4, h⟩ := gB0_ok h
      refine go_call1 ocX5_kindOf rfl rfl rfl rfl (SX5_isDigit x0 M e4) (Nat.lt_of_lt_of_le (by decide) hd) ?_
      refine go_br okX5_kindOf rfl (fun hp => ?_) (fun hp => ?_)
      · have h := gq_pos hp h
        refine go_rn 2 (pc' := 28) (L' := [some (.int x0)]) (S' := [.int (59 : Int32), .int x0]) (M' := M) okX5_kindOf rfl ?_
        refine go_br okX5_kindOf rfl (fun hp => ?_) (fun hp => ?_)
        · have h := gq_pos hp h
          refine go_rn 2 (pc' := 36) (L' := [some (.int x0)]) (S' := [.int (3 : Int32)]) (M' := M) okX5_kindOf rfl ?_
          exact go_iret (reX5_kindOf _ (by decide)) rfl (k0 (3 : Int32) h)
        · have h := gq_neg hp h
          refine go_rn 1 (pc' := 36) (L' := [some (.int x0)]) (S' := [.int (4 : Int32)]) (M' := M) okX5_kindOf rfl ?_
          exact go_iret (reX5_kindOf _ (by decide)) rfl (k0 (4 : Int32) h)
      · have h := gq_neg hp h
        refine go_rn 1 (pc' := 24) (L' := [some (.int x0)]) (S' := [.int (2 : Int32)]) (M' := M) okX5_kindOf rfl ?_
        exact go_iret (reX5_kindOf _ (by decide)) rfl (k0 (2 : Int32) h)
    · have h := gq_neg hp h
      refine go_rn 1 (pc' := 15) (L' := [some (.int x0)]) (S' := [.int (1 : Int32)]) (M' := M) okX5_kindOf rfl ?_
      exact go_iret (reX5_kindOf _ (by decide)) rfl (k0 (1 : Int32) h)
def fX5_kindOf (a0 : Int32) (M : gMem) : Option (Int32) := fX5_kindOf_0 a0 M
theorem SX5_kindOf {G : gG} (a0 : Int32) (M : gMem) {r : Int32} (h : fX5_kindOf a0 M = some r) : gRun G YX5_kindOf 1 [.int a0] M (fun r' N' => r' = some (.int r) ∧ N' = M) := gRun_in (by decide +kernel) rfl (fun d hd => go_wk (CX5_kindOf_0 hd a0 M (fun p => p = r) (fun r hh => ⟨congrArg (fun z => some (Value.int z)) hh, rfl⟩) (gq_of h)) ⟨rfl, True.intro⟩)
def fX6_at_26 (x1 : Int32) (s0 : Int32) (M : gMem) : Option (Int32) :=
  if s0 = 0 then some (-1 : Int32) else if gIx 2 3 x1 = true then some ((M.1 3 (Int32.toNatClampNeg x1)) &&& (255 : Int32)) else none
set_option maxRecDepth 100000 in
theorem CX6_at_26 {G : gG} {d : Nat} {Z : Option Value → gMem → Prop} (hd : 0 ≤ d) (x1 : Int32) (s0 : Int32) (M : gMem) (P : Int32 → Prop) (k0 : ∀ (r : Int32), P r → Z (some (.int r)) M) (h : gOKq (fX6_at_26 x1 s0 M) P) : gGo G YX6_at d Z 26 [some (.ref 2), some (.int x1), none] [.int s0] M := by
  unfold fX6_at_26 at h
  refine go_rn 2 (pc' := 28) (L' := [some (.ref 2), some (.int x1), some (.int s0)]) (S' := [.int s0]) (M' := M) okX6_at rfl ?_
  refine go_br okX6_at rfl (fun hp => ?_) (fun hp => ?_)
  · have h := gq_pos hp h
    refine go_rn 1 (pc' := 45) (L' := [some (.ref 2), some (.int x1), some (.int s0)]) (S' := [.int (-1 : Int32)]) (M' := M) okX6_at rfl ?_
    exact go_iret (reX6_at _ (by decide)) rfl (k0 (-1 : Int32) h)
  · have h := gq_neg hp h
    refine go_rn 1 (pc' := 32) (L' := [some (.ref 2), some (.int x1), some (.int s0)]) (S' := [.ref 2]) (M' := M) okX6_at rfl ?_
    refine go_ck okX6_at rfl (gOb_c rfl) ?_
    refine go_rn 1 (pc' := 36) (L' := [some (.ref 2), some (.int x1), some (.int s0)]) (S' := [.int x1, .ref 3]) (M' := M) okX6_at rfl ?_
    obtain ⟨c1, h⟩ := gq_if h
    refine go_ck okX6_at rfl c1 ?_
    refine go_rn 3 (pc' := 45) (L' := [some (.ref 2), some (.int x1), some (.int s0)]) (S' := [.int ((M.1 3 (Int32.toNatClampNeg x1)) &&& (255 : Int32))]) (M' := M) okX6_at rfl ?_
    exact go_iret (reX6_at _ (by decide)) rfl (k0 ((M.1 3 (Int32.toNatClampNeg x1)) &&& (255 : Int32)) h)
def fX6_at_25 (x1 : Int32) (M : gMem) : Option (Int32) :=
  fX6_at_26 x1 (0 : Int32) M
set_option maxRecDepth 100000 in
theorem CX6_at_25 {G : gG} {d : Nat} {Z : Option Value → gMem → Prop} (hd : 0 ≤ d) (x1 : Int32) (M : gMem) (P : Int32 → Prop) (k0 : ∀ (r : Int32), P r → Z (some (.int r)) M) (h : gOKq (fX6_at_25 x1 M) P) : gGo G YX6_at d Z 25 [some (.ref 2), some (.int x1), none] [] M := by
  unfold fX6_at_25 at h
  refine go_rn 1 (pc' := 26) (L' := [some (.ref 2), some (.int x1), none]) (S' := [.int (0 : Int32)]) (M' := M) okX6_at rfl ?_
  exact go_wk (CX6_at_26 hd x1 (0 : Int32) M P k0 h) ⟨rfl, rfl, True.intro⟩
def fX6_at_0 (x1 : Int32) (M : gMem) : Option (Int32) :=
  if x1 < 0 then fX6_at_25 x1 M else if (M.1 2 1) ≤ x1 then fX6_at_25 x1 M else if (nI (gSh 3).2) ≤ x1 then fX6_at_25 x1 M else fX6_at_26 x1 (1 : Int32) M
set_option maxRecDepth 100000 in
theorem CX6_at_0 {G : gG} {d : Nat} {Z : Option Value → gMem → Prop} (hd : 0 ≤ d) (x1 : Int32) (M : gMem) (P : Int32 → Prop) (k0 : ∀ (r : Int32), P r → Z (some (.int r)) M) (h : gOKq (fX6_at_0 x1 M) P) : gGo G YX6_at d Z 0 [some (.ref 2), some (.int x1), none] [] M := by
  unfold fX6_at_0 at h
  refine go_rn 1 (pc' := 1) (L' := [some (.ref 2), some (.int x1), none]) (S' := [.int x1]) (M' := M) okX6_at rfl ?_
  refine go_br okX6_at rfl (fun hp => ?_) (fun hp => ?_)
  · have h := gq_pos hp h
    exact go_wk (CX6_at_25 hd x1 M P k0 h) ⟨rfl, rfl, True.intro⟩
  · have h := gq_neg hp h
    refine go_rn 2 (pc' := 6) (L' := [some (.ref 2), some (.int x1), none]) (S' := [.ref 2, .int x1]) (M' := M) okX6_at rfl ?_
    refine go_ck okX6_at rfl (gOb_c rfl) ?_
    refine go_br okX6_at rfl (fun hp => ?_) (fun hp => ?_)
    · have h := gq_pos hp h
      exact go_wk (CX6_at_25 hd x1 M P k0 h) ⟨rfl, rfl, True.intro⟩
    · have h := gq_neg hp h
      refine go_rn 2 (pc' := 14) (L' := [some (.ref 2), some (.int x1), none]) (S' := [.ref 2, .int x1]) (M' := M) okX6_at rfl ?_
      refine go_ck okX6_at rfl (gOb_c rfl) ?_
      refine go_ck okX6_at rfl (gAl_c rfl) ?_
      refine go_br okX6_at rfl (fun hp => ?_) (fun hp => ?_)
      · have h := gq_pos hp h
        exact go_wk (CX6_at_25 hd x1 M P k0 h) ⟨rfl, rfl, True.intro⟩
      · have h := gq_neg hp h
        refine go_rn 2 (pc' := 26) (L' := [some (.ref 2), some (.int x1), none]) (S' := [.int (1 : Int32)]) (M' := M) okX6_at rfl ?_
        exact go_wk (CX6_at_26 hd x1 (1 : Int32) M P k0 h) ⟨rfl, rfl, True.intro⟩
def fX6_at (a1 : Int32) (M : gMem) : Option (Int32) := fX6_at_0 a1 M
theorem SX6_at {G : gG} (a1 : Int32) (M : gMem) {r : Int32} (h : fX6_at a1 M = some r) : gRun G YX6_at 0 [.ref 2, .int a1] M (fun r' N' => r' = some (.int r) ∧ N' = M) := gRun_in (by decide +kernel) rfl (fun d hd => go_wk (CX6_at_0 hd a1 M (fun p => p = r) (fun r hh => ⟨congrArg (fun z => some (Value.int z)) hh, rfl⟩) (gq_of h)) ⟨rfl, rfl, True.intro⟩)
def fX5_readDigits_83 (M : gMem) : Option (Sum (gMem) (gMem)) :=
  some (.inl ((gSI M 1 6 ((M.1 1 6) + (1 : Int32)))))
set_option maxRecDepth 100000 in
theorem CX5_readDigits_83 {G : gG} {d : Nat} {Z : Option Value → gMem → Prop} (hd : 1 ≤ d) (M : gMem) (P : Sum (gMem) (gMem) → Prop) (k0 : ∀ (N : gMem), P (.inr N) → Z none N) (k1 : ∀ (M : gMem), P (.inl (M)) → gGo G YX5_readDigits d Z 18 [some (.ref 1)] [] M) (h : gOKq (fX5_readDigits_83 M) P) : gGo G YX5_readDigits d Z 83 [some (.ref 1)] [.ref 1, .ref 1] M := by
  unfold fX5_readDigits_83 at h
  refine go_ck okX5_readDigits rfl (gOb_c rfl) ?_
  refine go_rn 2 (pc' := 88) (L' := [some (.ref 1)]) (S' := [.int ((M.1 1 6) + (1 : Int32)), .ref 1]) (M' := M) okX5_readDigits rfl ?_
  refine go_ck okX5_readDigits rfl (gOb_c rfl) ?_
  refine go_rn 1 (pc' := 18) (L' := [some (.ref 1)]) (S' := []) (M' := (gSI M 1 6 ((M.1 1 6) + (1 : Int32)))) okX5_readDigits rfl ?_
  exact go_wk (k1 (gSI M 1 6 ((M.1 1 6) + (1 : Int32))) h) ⟨rfl, True.intro⟩
def fX5_readDigits_18 (M : gMem) : Option (Sum (gMem) (gMem)) :=
  if (M.1 2 1) ≤ (M.1 1 6) then some (.inr M) else gB0 (fX6_at (M.1 1 6) M) (fun r1 => gB0 (fX5_isDigit r1 M) (fun r3 => if r3 = 0 then some (.inr M) else gB0 (fX6_at (M.1 1 6) M) (fun r5 => fX5_readDigits_83 (gSI M 1 7 (gMn (1000 : Int32) ((((M.1 1 7) * (10 : Int32)) + r5) - (48 : Int32)))))))
set_option maxRecDepth 100000 in
theorem CX5_readDigits_18 {G : gG} {d : Nat} {Z : Option Value → gMem → Prop} (hd : 1 ≤ d) (M : gMem) (P : Sum (gMem) (gMem) → Prop) (k0 : ∀ (N : gMem), P (.inr N) → Z none N) (k1 : ∀ (M : gMem), P (.inl (M)) → gGo G YX5_readDigits d Z 18 [some (.ref 1)] [] M) (h : gOKq (fX5_readDigits_18 M) P) : gGo G YX5_readDigits d Z 18 [some (.ref 1)] [] M := by
  unfold fX5_readDigits_18 at h
  refine go_rn 1 (pc' := 19) (L' := [some (.ref 1)]) (S' := [.ref 1]) (M' := M) okX5_readDigits rfl ?_
  refine go_ck okX5_readDigits rfl (gOb_c rfl) ?_
  refine go_rn 1 (pc' := 23) (L' := [some (.ref 1)]) (S' := [.ref 1, .int (M.1 1 6)]) (M' := M) okX5_readDigits rfl ?_
  refine go_ck okX5_readDigits rfl (gOb_c rfl) ?_
  refine go_ck okX5_readDigits rfl (gOb_c rfl) ?_
  refine go_br okX5_readDigits rfl (fun hp => ?_) (fun hp => ?_)
  · have h := gq_pos hp h
    exact go_vret (reX5_readDigits _ (by decide)) rfl (k0 M h)
  · have h := gq_neg hp h
    refine go_rn 1 (pc' := 33) (L' := [some (.ref 1)]) (S' := [.ref 1]) (M' := M) okX5_readDigits rfl ?_
    refine go_ck okX5_readDigits rfl (gOb_c rfl) ?_
    refine go_rn 1 (pc' := 37) (L' := [some (.ref 1)]) (S' := [.ref 1, .ref 2]) (M' := M) okX5_readDigits rfl ?_
    refine go_ck okX5_readDigits rfl (gOb_c rfl) ?_
    obtain ⟨r1, e2, h⟩ := gB0_ok h
    refine go_call1 ocX5_readDigits rfl rfl (gOb_c rfl) rfl (SX6_at (M.1 1 6) M e2) (Nat.lt_of_lt_of_le (by decide) hd) ?_
    obtain ⟨r3, e4, h⟩ := gB0_ok h
    refine go_call1 ocX5_readDigits rfl rfl rfl rfl (SX5_isDigit r1 M e4) (Nat.lt_of_lt_of_le (by decide) hd) ?_
    refine go_br okX5_readDigits rfl (fun hp => ?_) (fun hp => ?_)
    · have h := gq_pos hp h
      exact go_vret (reX5_readDigits _ (by decide)) rfl (k0 M h)
    · have h := gq_neg hp h
      refine go_rn 3 (pc' := 54) (L' := [some (.ref 1)]) (S' := [.ref 1, .int (1000 : Int32), .ref 1]) (M' := M) okX5_readDigits rfl ?_
      refine go_ck okX5_readDigits rfl (gOb_c rfl) ?_
      refine go_rn 3 (pc' := 61) (L' := [some (.ref 1)]) (S' := [.ref 1, .int ((M.1 1 7) * (10 : Int32)), .int (1000 : Int32), .ref 1]) (M' := M) okX5_readDigits rfl ?_
      refine go_ck okX5_readDigits rfl (gOb_c rfl) ?_
      refine go_rn 1 (pc' := 65) (L' := [some (.ref 1)]) (S' := [.ref 1, .ref 2, .int ((M.1 1 7) * (10 : Int32)), .int (1000 : Int32), .ref 1]) (M' := M) okX5_readDigits rfl ?_
      refine go_ck okX5_readDigits rfl (gOb_c rfl) ?_
      obtain ⟨r5, e6, h⟩ := gB0_ok h
      refine go_call1 ocX5_readDigits rfl rfl (gOb_c rfl) rfl (SX6_at (M.1 1 6) M e6) (Nat.lt_of_lt_of_le (by decide) hd) ?_
      refine go_rn 4 (pc' := 78) (L' := [some (.ref 1)]) (S' := [.int (gMn (1000 : Int32) ((((M.1 1 7) * (10 : Int32)) + r5) - (48 : Int32))), .ref 1]) (M' := M) okX5_readDigits rfl ?_
      refine go_ck okX5_readDigits rfl (gOb_c rfl) ?_
      refine go_rn 2 (pc' := 83) (L' := [some (.ref 1)]) (S' := [.ref 1, .ref 1]) (M' := (gSI M 1 7 (gMn (1000 : Int32) ((((M.1 1 7) * (10 : Int32)) + r5) - (48 : Int32))))) okX5_readDigits rfl ?_
      exact go_wk (CX5_readDigits_83 hd (gSI M 1 7 (gMn (1000 : Int32) ((((M.1 1 7) * (10 : Int32)) + r5) - (48 : Int32)))) P k0 k1 h) ⟨rfl, True.intro⟩
def fX5_readDigits_18h (M : gMem) : Option (gMem) :=
  gLp (fun s : gMem => fX5_readDigits_18 s) gFu (M)
set_option maxRecDepth 100000 in
theorem CX5_readDigits_18h {G : gG} {d : Nat} {Z : Option Value → gMem → Prop} (hd : 1 ≤ d) (M : gMem) (P : gMem → Prop) (k0 : ∀ (N : gMem), P N → Z none N) (h : gOKq (fX5_readDigits_18h M) P) : gGo G YX5_readDigits d Z 18 [some (.ref 1)] [] M :=
  gLp_go (K := fun s : gMem => gGo G YX5_readDigits d Z 18 [some (.ref 1)] [] s) (P := P) (fun s hs => CX5_readDigits_18 hd s (Sum.elim (fun s : gMem => gGo G YX5_readDigits d Z 18 [some (.ref 1)] [] s) P) k0 (fun M hh => hh) hs) gFu (M) h
def fX5_readDigits_0 (M : gMem) : Option (gMem) :=
  gB0 (fX6_at (M.1 1 5) M) (fun r1 => fX5_readDigits_18h (gSI M 1 7 (r1 - (48 : Int32))))
set_option maxRecDepth 100000 in
theorem CX5_readDigits_0 {G : gG} {d : Nat} {Z : Option Value → gMem → Prop} (hd : 1 ≤ d) (M : gMem) (P : gMem → Prop) (k0 : ∀ (N : gMem), P N → Z none N) (h : gOKq (fX5_readDigits_0 M) P) : gGo G YX5_readDigits d Z 0 [some (.ref 1)] [] M := by
  unfold fX5_readDigits_0 at h
  refine go_rn 2 (pc' := 2) (L' := [some (.ref 1)]) (S' := [.ref 1, .ref 1]) (M' := M) okX5_readDigits rfl ?_
  refine go_ck okX5_readDigits rfl (gOb_c rfl) ?_
  refine go_rn 1 (pc' := 6) (L' := [some (.ref 1)]) (S' := [.ref 1, .ref 2, .ref 1]) (M' := M) okX5_readDigits rfl ?_
  refine go_ck okX5_readDigits rfl (gOb_c rfl) ?_
  obtain ⟨r1, e2, h⟩ := gB0_ok h
  refine go_call1 ocX5_readDigits rfl rfl (gOb_c rfl) rfl (SX6_at (M.1 1 5) M e2) (Nat.lt_of_lt_of_le (by decide) hd) ?_
  refine go_rn 2 (pc' := 15) (L' := [some (.ref 1)]) (S' := [.int (r1 - (48 : Int32)), .ref 1]) (M' := M) okX5_readDigits rfl ?_
  refine go_ck okX5_readDigits rfl (gOb_c rfl) ?_
  exact go_wk (CX5_readDigits_18h hd (gSI M 1 7 (r1 - (48 : Int32))) P k0 h) ⟨rfl, True.intro⟩
def fX5_readDigits (M : gMem) : Option (gMem) := fX5_readDigits_0 M
theorem SX5_readDigits {G : gG} (M : gMem) {N : gMem} (h : fX5_readDigits M = some N) : gRun G YX5_readDigits 1 [.ref 1] M (fun r' N' => r' = none ∧ N' = N) := gRun_in (by decide +kernel) rfl (fun d hd => go_wk (CX5_readDigits_0 hd M (fun p => p = N) (fun N hh => ⟨rfl, hh⟩) (gq_of h)) ⟨rfl, True.intro⟩)
def fX5_advance_151 (M : gMem) : Option (gMem) :=
  if (M.1 1 4) = (2 : Int32) then gB0 (fX5_readDigits M) (fun M1 => some M1) else some M
set_option maxRecDepth 100000 in
theorem CX5_advance_151 {G : gG} {d : Nat} {Z : Option Value → gMem → Prop} (hd : 2 ≤ d) (M : gMem) (P : gMem → Prop) (k0 : ∀ (N : gMem), P N → Z none N) (h : gOKq (fX5_advance_151 M) P) : gGo G YX5_advance d Z 151 [some (.ref 1)] [] M := by
  unfold fX5_advance_151 at h
  refine go_rn 1 (pc' := 152) (L' := [some (.ref 1)]) (S' := [.ref 1]) (M' := M) okX5_advance rfl ?_
  refine go_ck okX5_advance rfl (gOb_c rfl) ?_
  refine go_rn 1 (pc' := 156) (L' := [some (.ref 1)]) (S' := [.int (2 : Int32), .int (M.1 1 4)]) (M' := M) okX5_advance rfl ?_
  refine go_br okX5_advance rfl (fun hp => ?_) (fun hp => ?_)
  · have h := gq_pos hp h
    refine go_rn 1 (pc' := 160) (L' := [some (.ref 1)]) (S' := [.ref 1]) (M' := M) okX5_advance rfl ?_
    obtain ⟨M1, e2, h⟩ := gB0_ok h
    refine go_call1 ocX5_advance rfl rfl (gOb_c rfl) rfl (SX5_readDigits M e2) (Nat.lt_of_lt_of_le (by decide) hd) ?_
    exact go_vret (reX5_advance _ (by decide)) rfl (k0 M1 h)
  · have h := gq_neg hp h
    exact go_vret (reX5_advance _ (by decide)) rfl (k0 M h)
def fX5_advance_107 (M : gMem) : Option (Sum (gMem) (gMem)) :=
  if (M.1 2 1) ≤ (M.1 1 6) then gEx (fX5_advance_151 M) else gB0 (fX6_at (M.1 1 6) M) (fun r1 => gB0 (fX5_isLetter r1 M) (fun r3 => if r3 = 0 then gEx (fX5_advance_151 M) else some (.inl ((gSI M 1 6 ((M.1 1 6) + (1 : Int32)))))))
set_option maxRecDepth 100000 in
theorem CX5_advance_107 {G : gG} {d : Nat} {Z : Option Value → gMem → Prop} (hd : 2 ≤ d) (M : gMem) (P : Sum (gMem) (gMem) → Prop) (k0 : ∀ (N : gMem), P (.inr N) → Z none N) (k1 : ∀ (M : gMem), P (.inl (M)) → gGo G YX5_advance d Z 107 [some (.ref 1)] [] M) (h : gOKq (fX5_advance_107 M) P) : gGo G YX5_advance d Z 107 [some (.ref 1)] [] M := by
  unfold fX5_advance_107 at h
  refine go_rn 1 (pc' := 108) (L' := [some (.ref 1)]) (S' := [.ref 1]) (M' := M) okX5_advance rfl ?_
  refine go_ck okX5_advance rfl (gOb_c rfl) ?_
  refine go_rn 1 (pc' := 112) (L' := [some (.ref 1)]) (S' := [.ref 1, .int (M.1 1 6)]) (M' := M) okX5_advance rfl ?_
  refine go_ck okX5_advance rfl (gOb_c rfl) ?_
  refine go_ck okX5_advance rfl (gOb_c rfl) ?_
  refine go_br okX5_advance rfl (fun hp => ?_) (fun hp => ?_)
  · have h := gq_pos hp h
    exact go_wk (CX5_advance_151 hd M (fun q => P (.inr q)) k0 (gEx_ok h)) ⟨rfl, True.intro⟩
  · have h := gq_neg hp h
    refine go_rn 1 (pc' := 122) (L' := [some (.ref 1)]) (S' := [.ref 1]) (M' := M) okX5_advance rfl ?_
    refine go_ck okX5_advance rfl (gOb_c rfl) ?_
    refine go_rn 1 (pc' := 126) (L' := [some (.ref 1)]) (S' := [.ref 1, .ref 2]) (M' := M) okX5_advance rfl ?_
    refine go_ck okX5_advance rfl (gOb_c rfl) ?_
    obtain ⟨r1, e2, h⟩ := gB0_ok h
    refine go_call1 ocX5_advance rfl rfl (gOb_c rfl) rfl (SX6_at (M.1 1 6) M e2) (Nat.lt_of_lt_of_le (by decide) hd) ?_
    obtain ⟨r3, e4, h⟩ := gB0_ok h
    refine go_call1 ocX5_advance rfl rfl rfl rfl (SX5_isLetter r1 M e4) (Nat.lt_of_lt_of_le (by decide) hd) ?_
    refine go_br okX5_advance rfl (fun hp => ?_) (fun hp => ?_)
    · have h := gq_pos hp h
      exact go_wk (CX5_advance_151 hd M (fun q => P (.inr q)) k0 (gEx_ok h)) ⟨rfl, True.intro⟩
    · have h := gq_neg hp h
      refine go_rn 2 (pc' := 140) (L' := [some (.ref 1)]) (S' := [.ref 1, .ref 1]) (M' := M) okX5_advance rfl ?_
      refine go_ck okX5_advance rfl (gOb_c rfl) ?_
      refine go_rn 2 (pc' := 145) (L' := [some (.ref 1)]) (S' := [.int ((M.1 1 6) + (1 : Int32)), .ref 1]) (M' := M) okX5_advance rfl ?_
      refine go_ck okX5_advance rfl (gOb_c rfl) ?_
      refine go_rn 1 (pc' := 107) (L' := [some (.ref 1)]) (S' := []) (M' := (gSI M 1 6 ((M.1 1 6) + (1 : Int32)))) okX5_advance rfl ?_
      exact go_wk (k1 (gSI M 1 6 ((M.1 1 6) + (1 : Int32))) h) ⟨rfl, True.intro⟩
def fX5_advance_107h (M : gMem) : Option (gMem) :=
  gLp (fun s : gMem => fX5_advance_107 s) gFu (M)
set_option maxRecDepth 100000 in
theorem CX5_advance_107h {G : gG} {d : Nat} {Z : Option Value → gMem → Prop} (hd : 2 ≤ d) (M : gMem) (P : gMem → Prop) (k0 : ∀ (N : gMem), P N → Z none N) (h : gOKq (fX5_advance_107h M) P) : gGo G YX5_advance d Z 107 [some (.ref 1)] [] M :=
  gLp_go (K := fun s : gMem => gGo G YX5_advance d Z 107 [some (.ref 1)] [] s) (P := P) (fun s hs => CX5_advance_107 hd s (Sum.elim (fun s : gMem => gGo G YX5_advance d Z 107 [some (.ref 1)] [] s) P) k0 (fun M hh => hh) hs) gFu (M) h
def fX5_advance_100 (M : gMem) : Option (gMem) :=
  if (M.1 1 4) = (1 : Int32) then fX5_advance_107h M else fX5_advance_151 M
set_option maxRecDepth 100000 in
theorem CX5_advance_100 {G : gG} {d : Nat} {Z : Option Value → gMem → Prop} (hd : 2 ≤ d) (M : gMem) (P : gMem → Prop) (k0 : ∀ (N : gMem), P N → Z none N) (h : gOKq (fX5_advance_100 M) P) : gGo G YX5_advance d Z 100 [some (.ref 1)] [.ref 1] M := by
  unfold fX5_advance_100 at h
  refine go_ck okX5_advance rfl (gOb_c rfl) ?_
  refine go_rn 1 (pc' := 104) (L' := [some (.ref 1)]) (S' := [.int (1 : Int32), .int (M.1 1 4)]) (M' := M) okX5_advance rfl ?_
  refine go_br okX5_advance rfl (fun hp => ?_) (fun hp => ?_)
  · have h := gq_pos hp h
    exact go_wk (CX5_advance_107h hd M P k0 h) ⟨rfl, True.intro⟩
  · have h := gq_neg hp h
    exact go_wk (CX5_advance_151 hd M P k0 h) ⟨rfl, True.intro⟩
def fX5_advance_96 (s0 : Int32) (M : gMem) : Option (gMem) :=
  fX5_advance_100 (gSI M 1 6 s0)
set_option maxRecDepth 100000 in
theorem CX5_advance_96 {G : gG} {d : Nat} {Z : Option Value → gMem → Prop} (hd : 2 ≤ d) (s0 : Int32) (M : gMem) (P : gMem → Prop) (k0 : ∀ (N : gMem), P N → Z none N) (h : gOKq (fX5_advance_96 s0 M) P) : gGo G YX5_advance d Z 96 [some (.ref 1)] [.int s0, .ref 1] M := by
  unfold fX5_advance_96 at h
  refine go_ck okX5_advance rfl (gOb_c rfl) ?_
  refine go_rn 1 (pc' := 100) (L' := [some (.ref 1)]) (S' := [.ref 1]) (M' := (gSI M 1 6 s0)) okX5_advance rfl ?_
  exact go_wk (CX5_advance_100 hd (gSI M 1 6 s0) P k0 h) ⟨rfl, True.intro⟩
def fX5_advance_77 (M : gMem) : Option (gMem) :=
  if (M.1 1 4) = 0 then fX5_advance_96 (M.1 1 5) M else fX5_advance_96 ((M.1 1 5) + (1 : Int32)) M
set_option maxRecDepth 100000 in
theorem CX5_advance_77 {G : gG} {d : Nat} {Z : Option Value → gMem → Prop} (hd : 2 ≤ d) (M : gMem) (P : gMem → Prop) (k0 : ∀ (N : gMem), P N → Z none N) (h : gOKq (fX5_advance_77 M) P) : gGo G YX5_advance d Z 77 [some (.ref 1)] [.ref 1, .ref 1] M := by
  unfold fX5_advance_77 at h
  refine go_ck okX5_advance rfl (gOb_c rfl) ?_
  refine go_br okX5_advance rfl (fun hp => ?_) (fun hp => ?_)
  · have h := gq_pos hp h
    refine go_rn 1 (pc' := 84) (L' := [some (.ref 1)]) (S' := [.ref 1, .ref 1]) (M' := M) okX5_advance rfl ?_
    refine go_ck okX5_advance rfl (gOb_c rfl) ?_
    refine go_rn 1 (pc' := 96) (L' := [some (.ref 1)]) (S' := [.int (M.1 1 5), .ref 1]) (M' := M) okX5_advance rfl ?_
    exact go_wk (CX5_advance_96 hd (M.1 1 5) M P k0 h) ⟨rfl, True.intro⟩
  · have h := gq_neg hp h
    refine go_rn 1 (pc' := 91) (L' := [some (.ref 1)]) (S' := [.ref 1, .ref 1]) (M' := M) okX5_advance rfl ?_
    refine go_ck okX5_advance rfl (gOb_c rfl) ?_
    refine go_rn 2 (pc' := 96) (L' := [some (.ref 1)]) (S' := [.int ((M.1 1 5) + (1 : Int32)), .ref 1]) (M' := M) okX5_advance rfl ?_
    exact go_wk (CX5_advance_96 hd ((M.1 1 5) + (1 : Int32)) M P k0 h) ⟨rfl, True.intro⟩
def fX5_advance_72 (s0 : Int32) (M : gMem) : Option (gMem) :=
  fX5_advance_77 (gSI M 1 7 s0)
set_option maxRecDepth 100000 in
theorem CX5_advance_72 {G : gG} {d : Nat} {Z : Option Value → gMem → Prop} (hd : 2 ≤ d) (s0 : Int32) (M : gMem) (P : gMem → Prop) (k0 : ∀ (N : gMem), P N → Z none N) (h : gOKq (fX5_advance_72 s0 M) P) : gGo G YX5_advance d Z 72 [some (.ref 1)] [.int s0, .ref 1] M := by
  unfold fX5_advance_72 at h
  refine go_ck okX5_advance rfl (gOb_c rfl) ?_
  refine go_rn 2 (pc' := 77) (L' := [some (.ref 1)]) (S' := [.ref 1, .ref 1]) (M' := (gSI M 1 7 s0)) okX5_advance rfl ?_
  exact go_wk (CX5_advance_77 hd (gSI M 1 7 s0) P k0 h) ⟨rfl, True.intro⟩
def fX5_advance_52 (M : gMem) : Option (gMem) :=
  gB0 (fX6_at (M.1 1 5) M) (fun r1 => gB0 (fX5_kindOf r1 M) (fun r3 => fX5_advance_72 (0 : Int32) (gSI M 1 4 r3)))
set_option maxRecDepth 100000 in
theorem CX5_advance_52 {G : gG} {d : Nat} {Z : Option Value → gMem → Prop} (hd : 2 ≤ d) (M : gMem) (P : gMem → Prop) (k0 : ∀ (N : gMem), P N → Z none N) (h : gOKq (fX5_advance_52 M) P) : gGo G YX5_advance d Z 52 [some (.ref 1)] [] M := by
  unfold fX5_advance_52 at h
  refine go_rn 2 (pc' := 54) (L' := [some (.ref 1)]) (S' := [.ref 1, .ref 1]) (M' := M) okX5_advance rfl ?_
  refine go_ck okX5_advance rfl (gOb_c rfl) ?_
  refine go_rn 1 (pc' := 58) (L' := [some (.ref 1)]) (S' := [.ref 1, .ref 2, .ref 1]) (M' := M) okX5_advance rfl ?_
  refine go_ck okX5_advance rfl (gOb_c rfl) ?_
  obtain ⟨r1, e2, h⟩ := gB0_ok h
  refine go_call1 ocX5_advance rfl rfl (gOb_c rfl) rfl (SX6_at (M.1 1 5) M e2) (Nat.lt_of_lt_of_le (by decide) hd) ?_
  obtain ⟨r3, e4, h⟩ := gB0_ok h
  refine go_call1 ocX5_advance rfl rfl rfl rfl (SX5_kindOf r1 M e4) (Nat.lt_of_lt_of_le (by decide) hd) ?_
  refine go_ck okX5_advance rfl (gOb_c rfl) ?_
  refine go_rn 2 (pc' := 72) (L' := [some (.ref 1)]) (S' := [.int (0 : Int32), .ref 1]) (M' := (gSI M 1 4 r3)) okX5_advance rfl ?_
  exact go_wk (CX5_advance_72 hd (0 : Int32) (gSI M 1 4 r3) P k0 h) ⟨rfl, True.intro⟩
def fX5_advance_8 (M : gMem) : Option (Sum (gMem) (gMem)) :=
  if (M.1 2 1) ≤ (M.1 1 5) then gEx (fX5_advance_52 M) else gB0 (fX6_at (M.1 1 5) M) (fun r1 => gB0 (fX5_isBlank r1 M) (fun r3 => if r3 = 0 then gEx (fX5_advance_52 M) else some (.inl ((gSI M 1 5 ((M.1 1 5) + (1 : Int32)))))))
set_option maxRecDepth 100000 in
theorem CX5_advance_8 {G : gG} {d : Nat} {Z : Option Value → gMem → Prop} (hd : 2 ≤ d) (M : gMem) (P : Sum (gMem) (gMem) → Prop) (k0 : ∀ (N : gMem), P (.inr N) → Z none N) (k1 : ∀ (M : gMem), P (.inl (M)) → gGo G YX5_advance d Z 8 [some (.ref 1)] [] M) (h : gOKq (fX5_advance_8 M) P) : gGo G YX5_advance d Z 8 [some (.ref 1)] [] M := by
  unfold fX5_advance_8 at h
  refine go_rn 1 (pc' := 9) (L' := [some (.ref 1)]) (S' := [.ref 1]) (M' := M) okX5_advance rfl ?_
  refine go_ck okX5_advance rfl (gOb_c rfl) ?_
  refine go_rn 1 (pc' := 13) (L' := [some (.ref 1)]) (S' := [.ref 1, .int (M.1 1 5)]) (M' := M) okX5_advance rfl ?_
  refine go_ck okX5_advance rfl (gOb_c rfl) ?_
  refine go_ck okX5_advance rfl (gOb_c rfl) ?_
  refine go_br okX5_advance rfl (fun hp => ?_) (fun hp => ?_)
  · have h := gq_pos hp h
    exact go_wk (CX5_advance_52 hd M (fun q => P (.inr q)) k0 (gEx_ok h)) ⟨rfl, True.intro⟩
  · have h := gq_neg hp h
    refine go_rn 1 (pc' := 23) (L' := [some (.ref 1)]) (S' := [.ref 1]) (M' := M) okX5_advance rfl ?_
    refine go_ck okX5_advance rfl (gOb_c rfl) ?_
    refine go_rn 1 (pc' := 27) (L' := [some (.ref 1)]) (S' := [.ref 1, .ref 2]) (M' := M) okX5_advance rfl ?_
    refine go_ck okX5_advance rfl (gOb_c rfl) ?_
    obtain ⟨r1, e2, h⟩ := gB0_ok h
    refine go_call1 ocX5_advance rfl rfl (gOb_c rfl) rfl (SX6_at (M.1 1 5) M e2) (Nat.lt_of_lt_of_le (by decide) hd) ?_
    obtain ⟨r3, e4, h⟩ := gB0_ok h
    refine go_call1 ocX5_advance rfl rfl rfl rfl (SX5_isBlank r1 M e4) (Nat.lt_of_lt_of_le (by decide) hd) ?_
    refine go_br okX5_advance rfl (fun hp => ?_) (fun hp => ?_)
    · have h := gq_pos hp h
      exact go_wk (CX5_advance_52 hd M (fun q => P (.inr q)) k0 (gEx_ok h)) ⟨rfl, True.intro⟩
    · have h := gq_neg hp h
      refine go_rn 2 (pc' := 41) (L' := [some (.ref 1)]) (S' := [.ref 1, .ref 1]) (M' := M) okX5_advance rfl ?_
      refine go_ck okX5_advance rfl (gOb_c rfl) ?_
      refine go_rn 2 (pc' := 46) (L' := [some (.ref 1)]) (S' := [.int ((M.1 1 5) + (1 : Int32)), .ref 1]) (M' := M) okX5_advance rfl ?_
      refine go_ck okX5_advance rfl (gOb_c rfl) ?_
      refine go_rn 1 (pc' := 8) (L' := [some (.ref 1)]) (S' := []) (M' := (gSI M 1 5 ((M.1 1 5) + (1 : Int32)))) okX5_advance rfl ?_
      exact go_wk (k1 (gSI M 1 5 ((M.1 1 5) + (1 : Int32))) h) ⟨rfl, True.intro⟩
def fX5_advance_8h (M : gMem) : Option (gMem) :=
  gLp (fun s : gMem => fX5_advance_8 s) gFu (M)
set_option maxRecDepth 100000 in
theorem CX5_advance_8h {G : gG} {d : Nat} {Z : Option Value → gMem → Prop} (hd : 2 ≤ d) (M : gMem) (P : gMem → Prop) (k0 : ∀ (N : gMem), P N → Z none N) (h : gOKq (fX5_advance_8h M) P) : gGo G YX5_advance d Z 8 [some (.ref 1)] [] M :=
  gLp_go (K := fun s : gMem => gGo G YX5_advance d Z 8 [some (.ref 1)] [] s) (P := P) (fun s hs => CX5_advance_8 hd s (Sum.elim (fun s : gMem => gGo G YX5_advance d Z 8 [some (.ref 1)] [] s) P) k0 (fun M hh => hh) hs) gFu (M) h
def fX5_advance_0 (M : gMem) : Option (gMem) :=
  fX5_advance_8h (gSI M 1 5 (M.1 1 6))
set_option maxRecDepth 100000 in
theorem CX5_advance_0 {G : gG} {d : Nat} {Z : Option Value → gMem → Prop} (hd : 2 ≤ d) (M : gMem) (P : gMem → Prop) (k0 : ∀ (N : gMem), P N → Z none N) (h : gOKq (fX5_advance_0 M) P) : gGo G YX5_advance d Z 0 [some (.ref 1)] [] M := by
  unfold fX5_advance_0 at h
  refine go_rn 2 (pc' := 2) (L' := [some (.ref 1)]) (S' := [.ref 1, .ref 1]) (M' := M) okX5_advance rfl ?_
  refine go_ck okX5_advance rfl (gOb_c rfl) ?_
  refine go_ck okX5_advance rfl (gOb_c rfl) ?_
  exact go_wk (CX5_advance_8h hd (gSI M 1 5 (M.1 1 6)) P k0 h) ⟨rfl, True.intro⟩
def fX5_advance (M : gMem) : Option (gMem) := fX5_advance_0 M
theorem SX5_advance {G : gG} (M : gMem) {N : gMem} (h : fX5_advance M = some N) : gRun G YX5_advance 2 [.ref 1] M (fun r' N' => r' = none ∧ N' = N) := gRun_in (by decide +kernel) rfl (fun d hd => go_wk (CX5_advance_0 hd M (fun p => p = N) (fun N hh => ⟨rfl, hh⟩) (gq_of h)) ⟨rfl, True.intro⟩)
def fX5_refuse_14 (M : gMem) : Option (gMem) :=
  some (gSI M 1 3 (M.1 1 5))
set_option maxRecDepth 100000 in
theorem CX5_refuse_14 {G : gG} {d : Nat} {Z : Option Value → gMem → Prop} (hd : 0 ≤ d) (M : gMem) (P : gMem → Prop) (k0 : ∀ (N : gMem), P N → Z none N) (h : gOKq (fX5_refuse_14 M) P) : gGo G YX5_refuse d Z 14 [none, none] [.ref 1, .ref 1] M := by
  unfold fX5_refuse_14 at h
  refine go_ck okX5_refuse rfl (gOb_c rfl) ?_
  refine go_ck okX5_refuse rfl (gOb_c rfl) ?_
  exact go_vret (reX5_refuse _ (by decide)) rfl (k0 (gSI M 1 3 (M.1 1 5)) h)
def fX5_refuse_0 (x1 : Int32) (M : gMem) : Option (gMem) :=
  if (M.1 1 2) = 0 then fX5_refuse_14 (gSI M 1 2 x1) else some M
set_option maxRecDepth 100000 in
theorem CX5_refuse_0 {G : gG} {d : Nat} {Z : Option Value → gMem → Prop} (hd : 0 ≤ d) (x1 : Int32) (M : gMem) (P : gMem → Prop) (k0 : ∀ (N : gMem), P N → Z none N) (h : gOKq (fX5_refuse_0 x1 M) P) : gGo G YX5_refuse d Z 0 [some (.ref 1), some (.int x1)] [] M := by
  unfold fX5_refuse_0 at h
  refine go_rn 1 (pc' := 1) (L' := [some (.ref 1), some (.int x1)]) (S' := [.ref 1]) (M' := M) okX5_refuse rfl ?_
  refine go_ck okX5_refuse rfl (gOb_c rfl) ?_
  refine go_br okX5_refuse rfl (fun hp => ?_) (fun hp => ?_)
  · have h := gq_pos hp h
    refine go_rn 2 (pc' := 9) (L' := [some (.ref 1), some (.int x1)]) (S' := [.int x1, .ref 1]) (M' := M) okX5_refuse rfl ?_
    refine go_ck okX5_refuse rfl (gOb_c rfl) ?_
    refine go_rn 2 (pc' := 14) (L' := [some (.ref 1), some (.int x1)]) (S' := [.ref 1, .ref 1]) (M' := (gSI M 1 2 x1)) okX5_refuse rfl ?_
    exact go_wk (CX5_refuse_14 hd (gSI M 1 2 x1) P k0 h) True.intro
  · have h := gq_neg hp h
    exact go_vret (reX5_refuse _ (by decide)) rfl (k0 M h)
def fX5_refuse (a1 : Int32) (M : gMem) : Option (gMem) := fX5_refuse_0 a1 M
theorem SX5_refuse {G : gG} (a1 : Int32) (M : gMem) {N : gMem} (h : fX5_refuse a1 M = some N) : gRun G YX5_refuse 0 [.ref 1, .int a1] M (fun r' N' => r' = none ∧ N' = N) := gRun_in (by decide +kernel) rfl (fun d hd => go_wk (CX5_refuse_0 hd a1 M (fun p => p = N) (fun N hh => ⟨rfl, hh⟩) (gq_of h)) ⟨rfl, rfl, True.intro⟩)
def fX5_expectSign_13 (M : gMem) : Option (gMem) :=
  if (M.1 1 2) = 0 then gB0 (fX5_advance M) (fun M1 => some M1) else some M
set_option maxRecDepth 100000 in
theorem CX5_expectSign_13 {G : gG} {d : Nat} {Z : Option Value → gMem → Prop} (hd : 3 ≤ d) (M : gMem) (P : gMem → Prop) (k0 : ∀ (N : gMem), P N → Z none N) (h : gOKq (fX5_expectSign_13 M) P) : gGo G YX5_expectSign d Z 13 [some (.ref 1)] [] M := by
  unfold fX5_expectSign_13 at h
  refine go_rn 1 (pc' := 14) (L' := [some (.ref 1)]) (S' := [.ref 1]) (M' := M) okX5_expectSign rfl ?_
  refine go_ck okX5_expectSign rfl (gOb_c rfl) ?_
  refine go_br okX5_expectSign rfl (fun hp => ?_) (fun hp => ?_)
  · have h := gq_pos hp h
    refine go_rn 1 (pc' := 21) (L' := [some (.ref 1)]) (S' := [.ref 1]) (M' := M) okX5_expectSign rfl ?_
    obtain ⟨M1, e2, h⟩ := gB0_ok h
    refine go_call1 ocX5_expectSign rfl rfl (gOb_c rfl) rfl (SX5_advance M e2) (Nat.lt_of_lt_of_le (by decide) hd) ?_
    exact go_vret (reX5_expectSign _ (by decide)) rfl (k0 M1 h)
  · have h := gq_neg hp h
    exact go_vret (reX5_expectSign _ (by decide)) rfl (k0 M h)
def fX5_expectSign_0 (M : gMem) : Option (gMem) :=
  if (M.1 1 4) = (3 : Int32) then fX5_expectSign_13 M else gB0 (fX5_refuse (1 : Int32) M) (fun M1 => fX5_expectSign_13 M1)
set_option maxRecDepth 100000 in
theorem CX5_expectSign_0 {G : gG} {d : Nat} {Z : Option Value → gMem → Prop} (hd : 3 ≤ d) (M : gMem) (P : gMem → Prop) (k0 : ∀ (N : gMem), P N → Z none N) (h : gOKq (fX5_expectSign_0 M) P) : gGo G YX5_expectSign d Z 0 [some (.ref 1)] [] M := by
  unfold fX5_expectSign_0 at h
  refine go_rn 1 (pc' := 1) (L' := [some (.ref 1)]) (S' := [.ref 1]) (M' := M) okX5_expectSign rfl ?_
  refine go_ck okX5_expectSign rfl (gOb_c rfl) ?_
  refine go_rn 1 (pc' := 5) (L' := [some (.ref 1)]) (S' := [.int (3 : Int32), .int (M.1 1 4)]) (M' := M) okX5_expectSign rfl ?_
  refine go_br okX5_expectSign rfl (fun hp => ?_) (fun hp => ?_)
  · have h := gq_pos hp h
    exact go_wk (CX5_expectSign_13 hd M P k0 h) ⟨rfl, True.intro⟩
  · have h := gq_neg hp h
    refine go_rn 2 (pc' := 10) (L' := [some (.ref 1)]) (S' := [.int (1 : Int32), .ref 1]) (M' := M) okX5_expectSign rfl ?_
    obtain ⟨M1, e2, h⟩ := gB0_ok h
    refine go_call1 ocX5_expectSign rfl rfl (gOb_c rfl) rfl (SX5_refuse (1 : Int32) M e2) (Nat.lt_of_lt_of_le (by decide) hd) ?_
    exact go_wk (CX5_expectSign_13 hd M1 P k0 h) ⟨rfl, True.intro⟩
def fX5_expectSign (M : gMem) : Option (gMem) := fX5_expectSign_0 M
theorem SX5_expectSign {G : gG} (M : gMem) {N : gMem} (h : fX5_expectSign M = some N) : gRun G YX5_expectSign 3 [.ref 1] M (fun r' N' => r' = none ∧ N' = N) := gRun_in (by decide +kernel) rfl (fun d hd => go_wk (CX5_expectSign_0 hd M (fun p => p = N) (fun N hh => ⟨rfl, hh⟩) (gq_of h)) ⟨rfl, True.intro⟩)
def fX5_isWord_28 (x1 : Nat) (x2 : Int32) (M : gMem) : Option (Sum (Int32) (Int32)) :=
  gB0 (fJ0_length_8abf5 x1 M) (fun r1 => if r1 ≤ x2 then some (.inr (1 : Int32)) else gB0 (fX6_at ((M.1 1 5) + x2) M) (fun r3 => gB0 (fJ0_charAt_5068e x1 x2 M) (fun r5 => if r3 = r5 then some (.inl ((x2 + 1))) else some (.inr (0 : Int32)))))
set_option maxRecDepth 100000 in
theorem CX5_isWord_28 {G : gG} {d : Nat} {Z : Option Value → gMem → Prop} (hd : 4 ≤ d) (x1 : Nat) (x2 : Int32) (M : gMem) (o_x1 : gStr x1 = true) (P : Sum (Int32) (Int32) → Prop) (k0 : ∀ (r : Int32), P (.inr r) → Z (some (.int r)) M) (k1 : ∀ (x2 : Int32), P (.inl (x2)) → gGo G YX5_isWord d Z 28 [some (.ref 1), some (.ref x1), some (.int x2)] [] M) (h : gOKq (fX5_isWord_28 x1 x2 M) P) : gGo G YX5_isWord d Z 28 [some (.ref 1), some (.ref x1), some (.int x2)] [] M := by
  unfold fX5_isWord_28 at h
  refine go_rn 2 (pc' := 30) (L' := [some (.ref 1), some (.ref x1), some (.int x2)]) (S' := [.ref x1, .int x2]) (M' := M) okX5_isWord rfl ?_
  obtain ⟨r1, e2, h⟩ := gB0_ok h
  refine go_call1 ocX5_isWord rfl rfl o_x1 rfl (SJ0_length_8abf5 x1 M o_x1 e2) (Nat.lt_of_lt_of_le (by decide) hd) ?_
  refine go_br okX5_isWord rfl (fun hp => ?_) (fun hp => ?_)
  · have h := gq_pos hp h
    refine go_rn 1 (pc' := 66) (L' := [some (.ref 1), some (.ref x1), some (.int x2)]) (S' := [.int (1 : Int32)]) (M' := M) okX5_isWord rfl ?_
    exact go_zret (reX5_isWord _ (by decide)) rfl (Or.inr rfl) (k0 (1 : Int32) h)
  · have h := gq_neg hp h
    refine go_rn 1 (pc' := 37) (L' := [some (.ref 1), some (.ref x1), some (.int x2)]) (S' := [.ref 1]) (M' := M) okX5_isWord rfl ?_
    refine go_ck okX5_isWord rfl (gOb_c rfl) ?_
    refine go_rn 1 (pc' := 41) (L' := [some (.ref 1), some (.ref x1), some (.int x2)]) (S' := [.ref 1, .ref 2]) (M' := M) okX5_isWord rfl ?_
    refine go_ck okX5_isWord rfl (gOb_c rfl) ?_
    refine go_rn 2 (pc' := 46) (L' := [some (.ref 1), some (.ref x1), some (.int x2)]) (S' := [.int ((M.1 1 5) + x2), .ref 2]) (M' := M) okX5_isWord rfl ?_
    obtain ⟨r3, e4, h⟩ := gB0_ok h
    refine go_call1 ocX5_isWord rfl rfl (gOb_c rfl) rfl (SX6_at ((M.1 1 5) + x2) M e4) (Nat.lt_of_lt_of_le (by decide) hd) ?_
    refine go_rn 2 (pc' := 51) (L' := [some (.ref 1), some (.ref x1), some (.int x2)]) (S' := [.int x2, .ref x1, .int r3]) (M' := M) okX5_isWord rfl ?_
    obtain ⟨r5, e6, h⟩ := gB0_ok h
    refine go_call1 ocX5_isWord rfl rfl o_x1 rfl (SJ0_charAt_5068e x1 x2 M o_x1 e6) (Nat.lt_of_lt_of_le (by decide) hd) ?_
    refine go_br okX5_isWord rfl (fun hp => ?_) (fun hp => ?_)
    · have h := gq_pos hp h
      refine go_rn 2 (pc' := 28) (L' := [some (.ref 1), some (.ref x1), some (.int (x2 + 1))]) (S' := []) (M' := M) okX5_isWord rfl ?_
      exact go_wk (k1 ((x2 + 1)) h) ⟨rfl, rfl, rfl, True.intro⟩
    · have h := gq_neg hp h
      refine go_rn 1 (pc' := 58) (L' := [some (.ref 1), some (.ref x1), some (.int x2)]) (S' := [.int (0 : Int32)]) (M' := M) okX5_isWord rfl ?_
      exact go_zret (reX5_isWord _ (by decide)) rfl (Or.inl rfl) (k0 (0 : Int32) h)
def fX5_isWord_28h (x1 : Nat) (x2 : Int32) (M : gMem) : Option (Int32) :=
  gLp (fun s : Int32 => fX5_isWord_28 x1 s M) gFu (x2)
set_option maxRecDepth 100000 in
theorem CX5_isWord_28h {G : gG} {d : Nat} {Z : Option Value → gMem → Prop} (hd : 4 ≤ d) (x1 : Nat) (x2 : Int32) (M : gMem) (o_x1 : gStr x1 = true) (P : Int32 → Prop) (k0 : ∀ (r : Int32), P r → Z (some (.int r)) M) (h : gOKq (fX5_isWord_28h x1 x2 M) P) : gGo G YX5_isWord d Z 28 [some (.ref 1), some (.ref x1), some (.int x2)] [] M :=
  gLp_go (K := fun s : Int32 => gGo G YX5_isWord d Z 28 [some (.ref 1), some (.ref x1), some (.int s)] [] M) (P := P) (fun s hs => CX5_isWord_28 hd (x1) (s) M o_x1 (Sum.elim (fun s : Int32 => gGo G YX5_isWord d Z 28 [some (.ref 1), some (.ref x1), some (.int s)] [] M) P) k0 (fun x2 hh => hh) hs) gFu (x2) h
def fX5_isWord_0 (x1 : Nat) (M : gMem) : Option (Int32) :=
  if (M.1 1 4) = (1 : Int32) then gB0 (fJ0_length_8abf5 x1 M) (fun r1 => if ((M.1 1 6) - (M.1 1 5)) = r1 then fX5_isWord_28h x1 (0 : Int32) M else some (0 : Int32)) else some (0 : Int32)
set_option maxRecDepth 100000 in
theorem CX5_isWord_0 {G : gG} {d : Nat} {Z : Option Value → gMem → Prop} (hd : 4 ≤ d) (x1 : Nat) (M : gMem) (o_x1 : gStr x1 = true) (P : Int32 → Prop) (k0 : ∀ (r : Int32), P r → Z (some (.int r)) M) (h : gOKq (fX5_isWord_0 x1 M) P) : gGo G YX5_isWord d Z 0 [some (.ref 1), some (.ref x1), none] [] M := by
  unfold fX5_isWord_0 at h
  refine go_rn 1 (pc' := 1) (L' := [some (.ref 1), some (.ref x1), none]) (S' := [.ref 1]) (M' := M) okX5_isWord rfl ?_
  refine go_ck okX5_isWord rfl (gOb_c rfl) ?_
  refine go_rn 1 (pc' := 5) (L' := [some (.ref 1), some (.ref x1), none]) (S' := [.int (1 : Int32), .int (M.1 1 4)]) (M' := M) okX5_isWord rfl ?_
  refine go_br okX5_isWord rfl (fun hp => ?_) (fun hp => ?_)
  · have h := gq_pos hp h
    refine go_rn 1 (pc' := 9) (L' := [some (.ref 1), some (.ref x1), none]) (S' := [.ref 1]) (M' := M) okX5_isWord rfl ?_
    refine go_ck okX5_isWord rfl (gOb_c rfl) ?_
    refine go_rn 1 (pc' := 13) (L' := [some (.ref 1), some (.ref x1), none]) (S' := [.ref 1, .int (M.1 1 6)]) (M' := M) okX5_isWord rfl ?_
    refine go_ck okX5_isWord rfl (gOb_c rfl) ?_
    refine go_rn 2 (pc' := 18) (L' := [some (.ref 1), some (.ref x1), none]) (S' := [.ref x1, .int ((M.1 1 6) - (M.1 1 5))]) (M' := M) okX5_isWord rfl ?_
    obtain ⟨r1, e2, h⟩ := gB0_ok h
    refine go_call1 ocX5_isWord rfl rfl o_x1 rfl (SJ0_length_8abf5 x1 M o_x1 e2) (Nat.lt_of_lt_of_le (by decide) hd) ?_
    refine go_br okX5_isWord rfl (fun hp => ?_) (fun hp => ?_)
    · have h := gq_pos hp h
      refine go_rn 2 (pc' := 28) (L' := [some (.ref 1), some (.ref x1), some (.int (0 : Int32))]) (S' := []) (M' := M) okX5_isWord rfl ?_
      exact go_wk (CX5_isWord_28h hd x1 (0 : Int32) M o_x1 P k0 h) ⟨rfl, rfl, rfl, True.intro⟩
    · have h := gq_neg hp h
      refine go_rn 1 (pc' := 25) (L' := [some (.ref 1), some (.ref x1), none]) (S' := [.int (0 : Int32)]) (M' := M) okX5_isWord rfl ?_
      exact go_zret (reX5_isWord _ (by decide)) rfl (Or.inl rfl) (k0 (0 : Int32) h)
  · have h := gq_neg hp h
    refine go_rn 1 (pc' := 25) (L' := [some (.ref 1), some (.ref x1), none]) (S' := [.int (0 : Int32)]) (M' := M) okX5_isWord rfl ?_
    exact go_zret (reX5_isWord _ (by decide)) rfl (Or.inl rfl) (k0 (0 : Int32) h)
def fX5_isWord (a1 : Nat) (M : gMem) : Option (Int32) := fX5_isWord_0 a1 M
theorem SX5_isWord {G : gG} (a1 : Nat) (M : gMem) (o_a1 : gStr a1 = true) {r : Int32} (h : fX5_isWord a1 M = some r) : gRun G YX5_isWord 4 [.ref 1, .ref a1] M (fun r' N' => r' = some (.int r) ∧ N' = M) := gRun_in (by decide +kernel) rfl (fun d hd => go_wk (CX5_isWord_0 hd a1 M o_a1 (fun p => p = r) (fun r hh => ⟨congrArg (fun z => some (Value.int z)) hh, rfl⟩) (gq_of h)) ⟨rfl, rfl, True.intro⟩)
def fX5_expectNumber_37 (M : gMem) : Option (Int32 × gMem) :=
  if (M.1 1 2) = 0 then gB0 (fX5_advance M) (fun M1 => some ((M.1 1 7), M1)) else some ((0 : Int32), M)
set_option maxRecDepth 100000 in
theorem CX5_expectNumber_37 {G : gG} {d : Nat} {Z : Option Value → gMem → Prop} (hd : 3 ≤ d) (M : gMem) (P : Int32 × gMem → Prop) (k0 : ∀ (r : Int32) (N : gMem), P (r, N) → Z (some (.int r)) N) (h : gOKq (fX5_expectNumber_37 M) P) : gGo G YX5_expectNumber d Z 37 [some (.ref 1), none, none, none] [] M := by
  unfold fX5_expectNumber_37 at h
  refine go_rn 1 (pc' := 38) (L' := [some (.ref 1), none, none, none]) (S' := [.ref 1]) (M' := M) okX5_expectNumber rfl ?_
  refine go_ck okX5_expectNumber rfl (gOb_c rfl) ?_
  refine go_rn 2 (pc' := 43) (L' := [some (.ref 1), none, none, some (.int (M.1 1 7))]) (S' := [.ref 1]) (M' := M) okX5_expectNumber rfl ?_
  refine go_ck okX5_expectNumber rfl (gOb_c rfl) ?_
  refine go_br okX5_expectNumber rfl (fun hp => ?_) (fun hp => ?_)
  · have h := gq_pos hp h
    refine go_rn 1 (pc' := 52) (L' := [some (.ref 1), none, none, some (.int (M.1 1 7))]) (S' := [.ref 1]) (M' := M) okX5_expectNumber rfl ?_
    obtain ⟨M1, e2, h⟩ := gB0_ok h
    refine go_call1 ocX5_expectNumber rfl rfl (gOb_c rfl) rfl (SX5_advance M e2) (Nat.lt_of_lt_of_le (by decide) hd) ?_
    refine go_rn 1 (pc' := 56) (L' := [some (.ref 1), none, none, some (.int (M.1 1 7))]) (S' := [.int (M.1 1 7)]) (M' := M1) okX5_expectNumber rfl ?_
    exact go_iret (reX5_expectNumber _ (by decide)) rfl (k0 (M.1 1 7) M1 h)
  · have h := gq_neg hp h
    refine go_rn 1 (pc' := 50) (L' := [some (.ref 1), none, none, some (.int (M.1 1 7))]) (S' := [.int (0 : Int32)]) (M' := M) okX5_expectNumber rfl ?_
    exact go_iret (reX5_expectNumber _ (by decide)) rfl (k0 (0 : Int32) M h)
def fX5_expectNumber_32 (M : gMem) : Option (Int32 × gMem) :=
  gB0 (fX5_refuse (2 : Int32) M) (fun M1 => fX5_expectNumber_37 M1)
set_option maxRecDepth 100000 in
theorem CX5_expectNumber_32 {G : gG} {d : Nat} {Z : Option Value → gMem → Prop} (hd : 3 ≤ d) (M : gMem) (P : Int32 × gMem → Prop) (k0 : ∀ (r : Int32) (N : gMem), P (r, N) → Z (some (.int r)) N) (h : gOKq (fX5_expectNumber_32 M) P) : gGo G YX5_expectNumber d Z 32 [some (.ref 1), none, none, none] [] M := by
  unfold fX5_expectNumber_32 at h
  refine go_rn 2 (pc' := 34) (L' := [some (.ref 1), none, none, none]) (S' := [.int (2 : Int32), .ref 1]) (M' := M) okX5_expectNumber rfl ?_
  obtain ⟨M1, e2, h⟩ := gB0_ok h
  refine go_call1 ocX5_expectNumber rfl rfl (gOb_c rfl) rfl (SX5_refuse (2 : Int32) M e2) (Nat.lt_of_lt_of_le (by decide) hd) ?_
  exact go_wk (CX5_expectNumber_37 hd M1 P k0 h) ⟨rfl, True.intro⟩
def fX5_expectNumber_0 (x1 : Int32) (x2 : Int32) (M : gMem) : Option (Int32 × gMem) :=
  if (M.1 1 4) = (2 : Int32) then if (M.1 1 7) < x1 then fX5_expectNumber_32 M else if (M.1 1 7) ≤ x2 then fX5_expectNumber_37 M else fX5_expectNumber_32 M else gB0 (fX5_refuse (1 : Int32) M) (fun M1 => fX5_expectNumber_37 M1)
set_option maxRecDepth 100000 in
theorem CX5_expectNumber_0 {G : gG} {d : Nat} {Z : Option Value → gMem → Prop} (hd : 3 ≤ d) (x1 : Int32) (x2 : Int32) (M : gMem) (P : Int32 × gMem → Prop) (k0 : ∀ (r : Int32) (N : gMem), P (r, N) → Z (some (.int r)) N) (h : gOKq (fX5_expectNumber_0 x1 x2 M) P) : gGo G YX5_expectNumber d Z 0 [some (.ref 1), some (.int x1), some (.int x2), none] [] M := by
  unfold fX5_expectNumber_0 at h
  refine go_rn 1 (pc' := 1) (L' := [some (.ref 1), some (.int x1), some (.int x2), none]) (S' := [.ref 1]) (M' := M) okX5_expectNumber rfl ?_
  refine go_ck okX5_expectNumber rfl (gOb_c rfl) ?_
  refine go_rn 1 (pc' := 5) (L' := [some (.ref 1), some (.int x1), some (.int x2), none]) (S' := [.int (2 : Int32), .int (M.1 1 4)]) (M' := M) okX5_expectNumber rfl ?_
  refine go_br okX5_expectNumber rfl (fun hp => ?_) (fun hp => ?_)
  · have h := gq_pos hp h
    refine go_rn 1 (pc' := 17) (L' := [some (.ref 1), some (.int x1), some (.int x2), none]) (S' := [.ref 1]) (M' := M) okX5_expectNumber rfl ?_
    refine go_ck okX5_expectNumber rfl (gOb_c rfl) ?_
    refine go_rn 1 (pc' := 21) (L' := [some (.ref 1), some (.int x1), some (.int x2), none]) (S' := [.int x1, .int (M.1 1 7)]) (M' := M) okX5_expectNumber rfl ?_
    refine go_br okX5_expectNumber rfl (fun hp => ?_) (fun hp => ?_)
    · have h := gq_pos hp h
      exact go_wk (CX5_expectNumber_32 hd M P k0 h) ⟨rfl, True.intro⟩
    · have h := gq_neg hp h
      refine go_rn 1 (pc' := 25) (L' := [some (.ref 1), some (.int x1), some (.int x2), none]) (S' := [.ref 1]) (M' := M) okX5_expectNumber rfl ?_
      refine go_ck okX5_expectNumber rfl (gOb_c rfl) ?_
      refine go_rn 1 (pc' := 29) (L' := [some (.ref 1), some (.int x1), some (.int x2), none]) (S' := [.int x2, .int (M.1 1 7)]) (M' := M) okX5_expectNumber rfl ?_
      refine go_br okX5_expectNumber rfl (fun hp => ?_) (fun hp => ?_)
      · have h := gq_pos hp h
        exact go_wk (CX5_expectNumber_37 hd M P k0 h) ⟨rfl, True.intro⟩
      · have h := gq_neg hp h
        exact go_wk (CX5_expectNumber_32 hd M P k0 h) ⟨rfl, True.intro⟩
  · have h := gq_neg hp h
    refine go_rn 2 (pc' := 10) (L' := [some (.ref 1), some (.int x1), some (.int x2), none]) (S' := [.int (1 : Int32), .ref 1]) (M' := M) okX5_expectNumber rfl ?_
    obtain ⟨M1, e2, h⟩ := gB0_ok h
    refine go_call1 ocX5_expectNumber rfl rfl (gOb_c rfl) rfl (SX5_refuse (1 : Int32) M e2) (Nat.lt_of_lt_of_le (by decide) hd) ?_
    refine go_rn 1 (pc' := 37) (L' := [some (.ref 1), some (.int x1), some (.int x2), none]) (S' := []) (M' := M1) okX5_expectNumber rfl ?_
    exact go_wk (CX5_expectNumber_37 hd M1 P k0 h) ⟨rfl, True.intro⟩
def fX5_expectNumber (a1 : Int32) (a2 : Int32) (M : gMem) : Option (Int32 × gMem) := fX5_expectNumber_0 a1 a2 M
theorem SX5_expectNumber {G : gG} (a1 : Int32) (a2 : Int32) (M : gMem) {r : Int32} {N : gMem} (h : fX5_expectNumber a1 a2 M = some (r, N)) : gRun G YX5_expectNumber 3 [.ref 1, .int a1, .int a2] M (fun r' N' => r' = some (.int r) ∧ N' = N) := gRun_in (by decide +kernel) rfl (fun d hd => go_wk (CX5_expectNumber_0 hd a1 a2 M (fun p => p = (r, N)) (fun r N hh => by cases hh; exact ⟨rfl, rfl⟩) (gq_of h)) ⟨rfl, rfl, rfl, True.intro⟩)
def fX5_expectWord_13 (M : gMem) : Option (gMem) :=
  if (M.1 1 2) = 0 then gB0 (fX5_advance M) (fun M1 => some M1) else some M
set_option maxRecDepth 100000 in
theorem CX5_expectWord_13 {G : gG} {d : Nat} {Z : Option Value → gMem → Prop} (hd : 5 ≤ d) (M : gMem) (P : gMem → Prop) (k0 : ∀ (N : gMem), P N → Z none N) (h : gOKq (fX5_expectWord_13 M) P) : gGo G YX5_expectWord d Z 13 [some (.ref 1), none] [] M := by
  unfold fX5_expectWord_13 at h
  refine go_rn 1 (pc' := 14) (L' := [some (.ref 1), none]) (S' := [.ref 1]) (M' := M) okX5_expectWord rfl ?_
  refine go_ck okX5_expectWord rfl (gOb_c rfl) ?_
  refine go_br okX5_expectWord rfl (fun hp => ?_) (fun hp => ?_)
  · have h := gq_pos hp h
    refine go_rn 1 (pc' := 21) (L' := [some (.ref 1), none]) (S' := [.ref 1]) (M' := M) okX5_expectWord rfl ?_
    obtain ⟨M1, e2, h⟩ := gB0_ok h
    refine go_call1 ocX5_expectWord rfl rfl (gOb_c rfl) rfl (SX5_advance M e2) (Nat.lt_of_lt_of_le (by decide) hd) ?_
    exact go_vret (reX5_expectWord _ (by decide)) rfl (k0 M1 h)
  · have h := gq_neg hp h
    exact go_vret (reX5_expectWord _ (by decide)) rfl (k0 M h)
def fX5_expectWord_0 (x1 : Nat) (M : gMem) : Option (gMem) :=
  gB0 (fX5_isWord x1 M) (fun r1 => if r1 = 0 then gB0 (fX5_refuse (1 : Int32) M) (fun M3 => fX5_expectWord_13 M3) else fX5_expectWord_13 M)
set_option maxRecDepth 100000 in
theorem CX5_expectWord_0 {G : gG} {d : Nat} {Z : Option Value → gMem → Prop} (hd : 5 ≤ d) (x1 : Nat) (M : gMem) (o_x1 : gStr x1 = true) (P : gMem → Prop) (k0 : ∀ (N : gMem), P N → Z none N) (h : gOKq (fX5_expectWord_0 x1 M) P) : gGo G YX5_expectWord d Z 0 [some (.ref 1), some (.ref x1)] [] M := by
  unfold fX5_expectWord_0 at h
  refine go_rn 2 (pc' := 2) (L' := [some (.ref 1), some (.ref x1)]) (S' := [.ref x1, .ref 1]) (M' := M) okX5_expectWord rfl ?_
  obtain ⟨r1, e2, h⟩ := gB0_ok h
  refine go_call1 ocX5_expectWord rfl rfl (gOb_c rfl) rfl (SX5_isWord x1 M o_x1 e2) (Nat.lt_of_lt_of_le (by decide) hd) ?_
  refine go_br okX5_expectWord rfl (fun hp => ?_) (fun hp => ?_)
  · have h := gq_pos hp h
    refine go_rn 2 (pc' := 10) (L' := [some (.ref 1), some (.ref x1)]) (S' := [.int (1 : Int32), .ref 1]) (M' := M) okX5_expectWord rfl ?_
    obtain ⟨M3, e4, h⟩ := gB0_ok h
    refine go_call1 ocX5_expectWord rfl rfl (gOb_c rfl) rfl (SX5_refuse (1 : Int32) M e4) (Nat.lt_of_lt_of_le (by decide) hd) ?_
    exact go_wk (CX5_expectWord_13 hd M3 P k0 h) ⟨rfl, True.intro⟩
  · have h := gq_neg hp h
    exact go_wk (CX5_expectWord_13 hd M P k0 h) ⟨rfl, True.intro⟩
def fX5_expectWord (a1 : Nat) (M : gMem) : Option (gMem) := fX5_expectWord_0 a1 M
theorem SX5_expectWord {G : gG} (a1 : Nat) (M : gMem) (o_a1 : gStr a1 = true) {N : gMem} (h : fX5_expectWord a1 M = some N) : gRun G YX5_expectWord 5 [.ref 1, .ref a1] M (fun r' N' => r' = none ∧ N' = N) := gRun_in (by decide +kernel) rfl (fun d hd => go_wk (CX5_expectWord_0 hd a1 M o_a1 (fun p => p = N) (fun N hh => ⟨rfl, hh⟩) (gq_of h)) ⟨rfl, rfl, True.intro⟩)
def fX5_readCold_69 (M : gMem) : Option (gMem) :=
  if gOb 7 (M.2.2 1) = true then some (gSI M (M.2.2 1) 8 ((M.1 (M.2.2 1) 8) + (1 : Int32))) else none
set_option maxRecDepth 100000 in
theorem CX5_readCold_69 {G : gG} {d : Nat} {Z : Option Value → gMem → Prop} (hd : 6 ≤ d) (M : gMem) (P : gMem → Prop) (k0 : ∀ (N : gMem), P N → Z none N) (h : gOKq (fX5_readCold_69 M) P) : gGo G YX5_readCold d Z 69 [none, none] [.ref 1] M := by
  unfold fX5_readCold_69 at h
  refine go_ck okX5_readCold rfl (gOb_c rfl) ?_
  obtain ⟨c1, h⟩ := gq_if h
  refine go_rn 1 (pc' := 73) (L' := [none, none]) (S' := [.ref (M.2.2 1), .ref (M.2.2 1)]) (M' := M) okX5_readCold rfl ?_
  refine go_ck okX5_readCold rfl c1 ?_
  refine go_rn 2 (pc' := 78) (L' := [none, none]) (S' := [.int ((M.1 (M.2.2 1) 8) + (1 : Int32)), .ref (M.2.2 1)]) (M' := M) okX5_readCold rfl ?_
  refine go_ck okX5_readCold rfl c1 ?_
  exact go_vret (reX5_readCold _ (by decide)) rfl (k0 (gSI M (M.2.2 1) 8 ((M.1 (M.2.2 1) 8) + (1 : Int32))) h)
def fX5_readCold_49 (x1 : Int32) (s0 : Nat) (M : gMem) : Option (gMem) :=
  gB0 (fX5_expectWord s0 M) (fun M1 => if gOb 7 (M1.2.2 1) = true then gBp (fX5_expectNumber (0 : Int32) (11 : Int32) M1) (fun r4 M5 => if gIx 1 ((M1.2.2 1) + 9) x1 = true then fX5_readCold_69 (gSI M5 ((M1.2.2 1) + 9) (Int32.toNatClampNeg x1) r4) else none) else none)
set_option maxRecDepth 100000 in
theorem CX5_readCold_49 {G : gG} {d : Nat} {Z : Option Value → gMem → Prop} (hd : 6 ≤ d) (x1 : Int32) (s0 : Nat) (M : gMem) (o_s0 : gStr s0 = true) (P : gMem → Prop) (k0 : ∀ (N : gMem), P N → Z none N) (h : gOKq (fX5_readCold_49 x1 s0 M) P) : gGo G YX5_readCold d Z 49 [some (.ref 1), some (.int x1)] [.ref s0, .ref 1] M := by
  unfold fX5_readCold_49 at h
  obtain ⟨M1, e2, h⟩ := gB0_ok h
  refine go_call1 ocX5_readCold rfl rfl (gOb_c rfl) rfl (SX5_expectWord s0 M o_s0 e2) (Nat.lt_of_lt_of_le (by decide) hd) ?_
  refine go_rn 1 (pc' := 53) (L' := [some (.ref 1), some (.int x1)]) (S' := [.ref 1]) (M' := M1) okX5_readCold rfl ?_
  refine go_ck okX5_readCold rfl (gOb_c rfl) ?_
  obtain ⟨c3, h⟩ := gq_if h
  refine go_ck okX5_readCold rfl c3 ?_
  refine go_rn 4 (pc' := 64) (L' := [some (.ref 1), some (.int x1)]) (S' := [.int (11 : Int32), .int (0 : Int32), .ref 1, .int x1, .ref ((M1.2.2 1) + 9)]) (M' := M1) okX5_readCold rfl ?_
  obtain ⟨r4, M5, e6, h⟩ := gBp_ok h
  refine go_call1 ocX5_readCold rfl rfl (gOb_c rfl) rfl (SX5_expectNumber (0 : Int32) (11 : Int32) M1 e6) (Nat.lt_of_lt_of_le (by decide) hd) ?_
  obtain ⟨c7, h⟩ := gq_if h
  refine go_ck okX5_readCold rfl c7 ?_
  refine go_rn 1 (pc' := 69) (L' := [some (.ref 1), some (.int x1)]) (S' := [.ref 1]) (M' := (gSI M5 ((M1.2.2 1) + 9) (Int32.toNatClampNeg x1) r4)) okX5_readCold rfl ?_
  exact go_wk (CX5_readCold_69 hd (gSI M5 ((M1.2.2 1) + 9) (Int32.toNatClampNeg x1) r4) P k0 h) True.intro
def fX5_readCold_0 (M : gMem) : Option (gMem) :=
  if gOb 7 (M.2.2 1) = true then if (M.1 (M.2.2 1) 8) < (5 : Int32) then gB0 (fX5_advance M) (fun M2 => if gOb 7 (M2.2.2 1) = true then if gOb 7 (M2.2.2 1) = true then gBp (fX5_expectNumber (0 : Int32) ((M2.1 (M2.2.2 1) 5) - (1 : Int32)) M2) (fun r6 M7 => if gIx 1 ((M2.2.2 1) + 8) (M.1 (M.2.2 1) 8) = true then fX5_readCold_49 (M.1 (M.2.2 1) 8) 923 (gSI M7 ((M2.2.2 1) + 8) (Int32.toNatClampNeg (M.1 (M.2.2 1) 8)) r6) else none) else none else none) else gB0 (fX5_refuse (3 : Int32) M) (fun M10 => some M10) else none
set_option maxRecDepth 100000 in
theorem CX5_readCold_0 {G : gG} {d : Nat} {Z : Option Value → gMem → Prop} (hd : 6 ≤ d) (M : gMem) (P : gMem → Prop) (k0 : ∀ (N : gMem), P N → Z none N) (h : gOKq (fX5_readCold_0 M) P) : gGo G YX5_readCold d Z 0 [some (.ref 1), none] [] M := by
  unfold fX5_readCold_0 at h
  refine go_rn 1 (pc' := 1) (L' := [some (.ref 1), none]) (S' := [.ref 1]) (M' := M) okX5_readCold rfl ?_
  refine go_ck okX5_readCold rfl (gOb_c rfl) ?_
  obtain ⟨c1, h⟩ := gq_if h
  refine go_ck okX5_readCold rfl c1 ?_
  refine go_rn 3 (pc' := 10) (L' := [some (.ref 1), some (.int (M.1 (M.2.2 1) 8))]) (S' := [.int (5 : Int32), .int (M.1 (M.2.2 1) 8)]) (M' := M) okX5_readCold rfl ?_
  refine go_br okX5_readCold rfl (fun hp => ?_) (fun hp => ?_)
  · have h := gq_pos hp h
    refine go_rn 1 (pc' := 20) (L' := [some (.ref 1), some (.int (M.1 (M.2.2 1) 8))]) (S' := [.ref 1]) (M' := M) okX5_readCold rfl ?_
    obtain ⟨M2, e3, h⟩ := gB0_ok h
    refine go_call1 ocX5_readCold rfl rfl (gOb_c rfl) rfl (SX5_advance M e3) (Nat.lt_of_lt_of_le (by decide) hd) ?_
    refine go_rn 1 (pc' := 24) (L' := [some (.ref 1), some (.int (M.1 (M.2.2 1) 8))]) (S' := [.ref 1]) (M' := M2) okX5_readCold rfl ?_
    refine go_ck okX5_readCold rfl (gOb_c rfl) ?_
    obtain ⟨c4, h⟩ := gq_if h
    refine go_ck okX5_readCold rfl c4 ?_
    refine go_rn 4 (pc' := 34) (L' := [some (.ref 1), some (.int (M.1 (M.2.2 1) 8))]) (S' := [.ref 1, .int (0 : Int32), .ref 1, .int (M.1 (M.2.2 1) 8), .ref ((M2.2.2 1) + 8)]) (M' := M2) okX5_readCold rfl ?_
    refine go_ck okX5_readCold rfl (gOb_c rfl) ?_
    obtain ⟨c5, h⟩ := gq_if h
    refine go_ck okX5_readCold rfl c5 ?_
    refine go_rn 2 (pc' := 42) (L' := [some (.ref 1), some (.int (M.1 (M.2.2 1) 8))]) (S' := [.int ((M2.1 (M2.2.2 1) 5) - (1 : Int32)), .int (0 : Int32), .ref 1, .int (M.1 (M.2.2 1) 8), .ref ((M2.2.2 1) + 8)]) (M' := M2) okX5_readCold rfl ?_
    obtain ⟨r6, M7, e8, h⟩ := gBp_ok h
    refine go_call1 ocX5_readCold rfl rfl (gOb_c rfl) rfl (SX5_expectNumber (0 : Int32) ((M2.1 (M2.2.2 1) 5) - (1 : Int32)) M2 e8) (Nat.lt_of_lt_of_le (by decide) hd) ?_
    obtain ⟨c9, h⟩ := gq_if h
    refine go_ck okX5_readCold rfl c9 ?_
    refine go_rn 2 (pc' := 49) (L' := [some (.ref 1), some (.int (M.1 (M.2.2 1) 8))]) (S' := [.ref 923, .ref 1]) (M' := (gSI M7 ((M2.2.2 1) + 8) (Int32.toNatClampNeg (M.1 (M.2.2 1) 8)) r6)) okX5_readCold rfl ?_
    exact go_wk (CX5_readCold_49 hd (M.1 (M.2.2 1) 8) 923 (gSI M7 ((M2.2.2 1) + 8) (Int32.toNatClampNeg (M.1 (M.2.2 1) 8)) r6) rfl P k0 h) ⟨rfl, rfl, True.intro⟩
  · have h := gq_neg hp h
    refine go_rn 2 (pc' := 15) (L' := [some (.ref 1), some (.int (M.1 (M.2.2 1) 8))]) (S' := [.int (3 : Int32), .ref 1]) (M' := M) okX5_readCold rfl ?_
    obtain ⟨M10, e11, h⟩ := gB0_ok h
    refine go_call1 ocX5_readCold rfl rfl (gOb_c rfl) rfl (SX5_refuse (3 : Int32) M e11) (Nat.lt_of_lt_of_le (by decide) hd) ?_
    exact go_vret (reX5_readCold _ (by decide)) rfl (k0 M10 h)
def fX5_readCold (M : gMem) : Option (gMem) := fX5_readCold_0 M
theorem SX5_readCold {G : gG} (M : gMem) {N : gMem} (h : fX5_readCold M = some N) : gRun G YX5_readCold 6 [.ref 1] M (fun r' N' => r' = none ∧ N' = N) := gRun_in (by decide +kernel) rfl (fun d hd => go_wk (CX5_readCold_0 hd M (fun p => p = N) (fun N hh => ⟨rfl, hh⟩) (gq_of h)) ⟨rfl, True.intro⟩)
def fX5_readDoor_40 (M : gMem) : Option (gMem) :=
  if gOb 7 (M.2.2 1) = true then some (gSI M (M.2.2 1) 7 ((M.1 (M.2.2 1) 7) + (1 : Int32))) else none
set_option maxRecDepth 100000 in
theorem CX5_readDoor_40 {G : gG} {d : Nat} {Z : Option Value → gMem → Prop} (hd : 4 ≤ d) (M : gMem) (P : gMem → Prop) (k0 : ∀ (N : gMem), P N → Z none N) (h : gOKq (fX5_readDoor_40 M) P) : gGo G YX5_readDoor d Z 40 [none, none] [.ref 1] M := by
  unfold fX5_readDoor_40 at h
  refine go_ck okX5_readDoor rfl (gOb_c rfl) ?_
  obtain ⟨c1, h⟩ := gq_if h
  refine go_rn 1 (pc' := 44) (L' := [none, none]) (S' := [.ref (M.2.2 1), .ref (M.2.2 1)]) (M' := M) okX5_readDoor rfl ?_
  refine go_ck okX5_readDoor rfl c1 ?_
  refine go_rn 2 (pc' := 49) (L' := [none, none]) (S' := [.int ((M.1 (M.2.2 1) 7) + (1 : Int32)), .ref (M.2.2 1)]) (M' := M) okX5_readDoor rfl ?_
  refine go_ck okX5_readDoor rfl c1 ?_
  exact go_vret (reX5_readDoor _ (by decide)) rfl (k0 (gSI M (M.2.2 1) 7 ((M.1 (M.2.2 1) 7) + (1 : Int32))) h)
def fX5_readDoor_0 (M : gMem) : Option (gMem) :=
  if gOb 7 (M.2.2 1) = true then if (M.1 (M.2.2 1) 7) < (5 : Int32) then gB0 (fX5_advance M) (fun M2 => if gOb 7 (M2.2.2 1) = true then gBp (fX5_expectNumber (1 : Int32) (60 : Int32) M2) (fun r5 M6 => if gIx 1 ((M2.2.2 1) + 7) (M.1 (M.2.2 1) 7) = true then fX5_readDoor_40 (gSI M6 ((M2.2.2 1) + 7) (Int32.toNatClampNeg (M.1 (M.2.2 1) 7)) r5) else none) else none) else gB0 (fX5_refuse (3 : Int32) M) (fun M9 => some M9) else none
set_option maxRecDepth 100000 in
theorem CX5_readDoor_0 {G : gG} {d : Nat} {Z : Option Value → gMem → Prop} (hd : 4 ≤ d) (M : gMem) (P : gMem → Prop) (k0 : ∀ (N : gMem), P N → Z none N) (h : gOKq (fX5_readDoor_0 M) P) : gGo G YX5_readDoor d Z 0 [some (.ref 1), none] [] M := by
  unfold fX5_readDoor_0 at h
  refine go_rn 1 (pc' := 1) (L' := [some (.ref 1), none]) (S' := [.ref 1]) (M' := M) okX5_readDoor rfl ?_
  refine go_ck okX5_readDoor rfl (gOb_c rfl) ?_
  obtain ⟨c1, h⟩ := gq_if h
  refine go_ck okX5_readDoor rfl c1 ?_
  refine go_rn 3 (pc' := 10) (L' := [some (.ref 1), some (.int (M.1 (M.2.2 1) 7))]) (S' := [.int (5 : Int32), .int (M.1 (M.2.2 1) 7)]) (M' := M) okX5_readDoor rfl ?_
  refine go_br okX5_readDoor rfl (fun hp => ?_) (fun hp => ?_)
  · have h := gq_pos hp h
    refine go_rn 1 (pc' := 20) (L' := [some (.ref 1), some (.int (M.1 (M.2.2 1) 7))]) (S' := [.ref 1]) (M' := M) okX5_readDoor rfl ?_
    obtain ⟨M2, e3, h⟩ := gB0_ok h
    refine go_call1 ocX5_readDoor rfl rfl (gOb_c rfl) rfl (SX5_advance M e3) (Nat.lt_of_lt_of_le (by decide) hd) ?_
    refine go_rn 1 (pc' := 24) (L' := [some (.ref 1), some (.int (M.1 (M.2.2 1) 7))]) (S' := [.ref 1]) (M' := M2) okX5_readDoor rfl ?_
    refine go_ck okX5_readDoor rfl (gOb_c rfl) ?_
    obtain ⟨c4, h⟩ := gq_if h
    refine go_ck okX5_readDoor rfl c4 ?_
    refine go_rn 4 (pc' := 35) (L' := [some (.ref 1), some (.int (M.1 (M.2.2 1) 7))]) (S' := [.int (60 : Int32), .int (1 : Int32), .ref 1, .int (M.1 (M.2.2 1) 7), .ref ((M2.2.2 1) + 7)]) (M' := M2) okX5_readDoor rfl ?_
    obtain ⟨r5, M6, e7, h⟩ := gBp_ok h
    refine go_call1 ocX5_readDoor rfl rfl (gOb_c rfl) rfl (SX5_expectNumber (1 : Int32) (60 : Int32) M2 e7) (Nat.lt_of_lt_of_le (by decide) hd) ?_
    obtain ⟨c8, h⟩ := gq_if h
    refine go_ck okX5_readDoor rfl c8 ?_
    refine go_rn 1 (pc' := 40) (L' := [some (.ref 1), some (.int (M.1 (M.2.2 1) 7))]) (S' := [.ref 1]) (M' := (gSI M6 ((M2.2.2 1) + 7) (Int32.toNatClampNeg (M.1 (M.2.2 1) 7)) r5)) okX5_readDoor rfl ?_
    exact go_wk (CX5_readDoor_40 hd (gSI M6 ((M2.2.2 1) + 7) (Int32.toNatClampNeg (M.1 (M.2.2 1) 7)) r5) P k0 h) True.intro
  · have h := gq_neg hp h
    refine go_rn 2 (pc' := 15) (L' := [some (.ref 1), some (.int (M.1 (M.2.2 1) 7))]) (S' := [.int (3 : Int32), .ref 1]) (M' := M) okX5_readDoor rfl ?_
    obtain ⟨M9, e10, h⟩ := gB0_ok h
    refine go_call1 ocX5_readDoor rfl rfl (gOb_c rfl) rfl (SX5_refuse (3 : Int32) M e10) (Nat.lt_of_lt_of_le (by decide) hd) ?_
    exact go_vret (reX5_readDoor _ (by decide)) rfl (k0 M9 h)
def fX5_readDoor (M : gMem) : Option (gMem) := fX5_readDoor_0 M
theorem SX5_readDoor {G : gG} (M : gMem) {N : gMem} (h : fX5_readDoor M = some N) : gRun G YX5_readDoor 4 [.ref 1] M (fun r' N' => r' = none ∧ N' = N) := gRun_in (by decide +kernel) rfl (fun d hd => go_wk (CX5_readDoor_0 hd M (fun p => p = N) (fun N hh => ⟨rfl, hh⟩) (gq_of h)) ⟨rfl, True.intro⟩)
def fX5_readHead_68 (s0 : Nat) (M : gMem) : Option (gMem) :=
  gB0 (fX5_expectWord s0 M) (fun M1 => if gOb 7 (M1.2.2 1) = true then gBp (fX5_expectNumber (0 : Int32) (10 : Int32) M1) (fun r4 M5 => some (gSI M5 (M1.2.2 1) 4 r4)) else none)
set_option maxRecDepth 100000 in
theorem CX5_readHead_68 {G : gG} {d : Nat} {Z : Option Value → gMem → Prop} (hd : 6 ≤ d) (s0 : Nat) (M : gMem) (o_s0 : gStr s0 = true) (P : gMem → Prop) (k0 : ∀ (N : gMem), P N → Z none N) (h : gOKq (fX5_readHead_68 s0 M) P) : gGo G YX5_readHead d Z 68 [some (.ref 1)] [.ref s0, .ref 1] M := by
  unfold fX5_readHead_68 at h
  obtain ⟨M1, e2, h⟩ := gB0_ok h
  refine go_call1 ocX5_readHead rfl rfl (gOb_c rfl) rfl (SX5_expectWord s0 M o_s0 e2) (Nat.lt_of_lt_of_le (by decide) hd) ?_
  refine go_rn 1 (pc' := 72) (L' := [some (.ref 1)]) (S' := [.ref 1]) (M' := M1) okX5_readHead rfl ?_
  refine go_ck okX5_readHead rfl (gOb_c rfl) ?_
  obtain ⟨c3, h⟩ := gq_if h
  refine go_rn 3 (pc' := 79) (L' := [some (.ref 1)]) (S' := [.int (10 : Int32), .int (0 : Int32), .ref 1, .ref (M1.2.2 1)]) (M' := M1) okX5_readHead rfl ?_
  obtain ⟨r4, M5, e6, h⟩ := gBp_ok h
  refine go_call1 ocX5_readHead rfl rfl (gOb_c rfl) rfl (SX5_expectNumber (0 : Int32) (10 : Int32) M1 e6) (Nat.lt_of_lt_of_le (by decide) hd) ?_
  refine go_ck okX5_readHead rfl c3 ?_
  exact go_vret (reX5_readHead _ (by decide)) rfl (k0 (gSI M5 (M1.2.2 1) 4 r4) h)
def fX5_readHead_48 (s0 : Nat) (M : gMem) : Option (gMem) :=
  gB0 (fX5_expectWord s0 M) (fun M1 => if gOb 7 (M1.2.2 1) = true then gBp (fX5_expectNumber (0 : Int32) (20 : Int32) M1) (fun r4 M5 => fX5_readHead_68 914 (gSI M5 (M1.2.2 1) 3 r4)) else none)
set_option maxRecDepth 100000 in
theorem CX5_readHead_48 {G : gG} {d : Nat} {Z : Option Value → gMem → Prop} (hd : 6 ≤ d) (s0 : Nat) (M : gMem) (o_s0 : gStr s0 = true) (P : gMem → Prop) (k0 : ∀ (N : gMem), P N → Z none N) (h : gOKq (fX5_readHead_48 s0 M) P) : gGo G YX5_readHead d Z 48 [some (.ref 1)] [.ref s0, .ref 1] M := by
  unfold fX5_readHead_48 at h
  obtain ⟨M1, e2, h⟩ := gB0_ok h
  refine go_call1 ocX5_readHead rfl rfl (gOb_c rfl) rfl (SX5_expectWord s0 M o_s0 e2) (Nat.lt_of_lt_of_le (by decide) hd) ?_
  refine go_rn 1 (pc' := 52) (L' := [some (.ref 1)]) (S' := [.ref 1]) (M' := M1) okX5_readHead rfl ?_
  refine go_ck okX5_readHead rfl (gOb_c rfl) ?_
  obtain ⟨c3, h⟩ := gq_if h
  refine go_rn 3 (pc' := 59) (L' := [some (.ref 1)]) (S' := [.int (20 : Int32), .int (0 : Int32), .ref 1, .ref (M1.2.2 1)]) (M' := M1) okX5_readHead rfl ?_
  obtain ⟨r4, M5, e6, h⟩ := gBp_ok h
  refine go_call1 ocX5_readHead rfl rfl (gOb_c rfl) rfl (SX5_expectNumber (0 : Int32) (20 : Int32) M1 e6) (Nat.lt_of_lt_of_le (by decide) hd) ?_
  refine go_ck okX5_readHead rfl c3 ?_
  refine go_rn 2 (pc' := 68) (L' := [some (.ref 1)]) (S' := [.ref 914, .ref 1]) (M' := (gSI M5 (M1.2.2 1) 3 r4)) okX5_readHead rfl ?_
  exact go_wk (CX5_readHead_68 hd 914 (gSI M5 (M1.2.2 1) 3 r4) rfl P k0 h) ⟨rfl, True.intro⟩
def fX5_readHead_29 (s0 : Nat) (M : gMem) : Option (gMem) :=
  gB0 (fX5_expectWord s0 M) (fun M1 => if gOb 7 (M1.2.2 1) = true then gBp (fX5_expectNumber (0 : Int32) (3 : Int32) M1) (fun r4 M5 => fX5_readHead_48 913 (gSI M5 (M1.2.2 1) 2 r4)) else none)
set_option maxRecDepth 100000 in
theorem CX5_readHead_29 {G : gG} {d : Nat} {Z : Option Value → gMem → Prop} (hd : 6 ≤ d) (s0 : Nat) (M : gMem) (o_s0 : gStr s0 = true) (P : gMem → Prop) (k0 : ∀ (N : gMem), P N → Z none N) (h : gOKq (fX5_readHead_29 s0 M) P) : gGo G YX5_readHead d Z 29 [some (.ref 1)] [.ref s0, .ref 1] M := by
  unfold fX5_readHead_29 at h
  obtain ⟨M1, e2, h⟩ := gB0_ok h
  refine go_call1 ocX5_readHead rfl rfl (gOb_c rfl) rfl (SX5_expectWord s0 M o_s0 e2) (Nat.lt_of_lt_of_le (by decide) hd) ?_
  refine go_rn 1 (pc' := 33) (L' := [some (.ref 1)]) (S' := [.ref 1]) (M' := M1) okX5_readHead rfl ?_
  refine go_ck okX5_readHead rfl (gOb_c rfl) ?_
  obtain ⟨c3, h⟩ := gq_if h
  refine go_rn 3 (pc' := 39) (L' := [some (.ref 1)]) (S' := [.int (3 : Int32), .int (0 : Int32), .ref 1, .ref (M1.2.2 1)]) (M' := M1) okX5_readHead rfl ?_
  obtain ⟨r4, M5, e6, h⟩ := gBp_ok h
  refine go_call1 ocX5_readHead rfl rfl (gOb_c rfl) rfl (SX5_expectNumber (0 : Int32) (3 : Int32) M1 e6) (Nat.lt_of_lt_of_le (by decide) hd) ?_
  refine go_ck okX5_readHead rfl c3 ?_
  refine go_rn 2 (pc' := 48) (L' := [some (.ref 1)]) (S' := [.ref 913, .ref 1]) (M' := (gSI M5 (M1.2.2 1) 2 r4)) okX5_readHead rfl ?_
  exact go_wk (CX5_readHead_48 hd 913 (gSI M5 (M1.2.2 1) 2 r4) rfl P k0 h) ⟨rfl, True.intro⟩
def fX5_readHead_0 (M : gMem) : Option (gMem) :=
  gB0 (fX5_expectWord 910 M) (fun M1 => gB0 (fX5_expectWord 911 M1) (fun M3 => if gOb 7 (M3.2.2 1) = true then gBp (fX5_expectNumber (1 : Int32) (12 : Int32) M3) (fun r6 M7 => fX5_readHead_29 912 (gSI M7 (M3.2.2 1) 1 r6)) else none))
set_option maxRecDepth 100000 in
theorem CX5_readHead_0 {G : gG} {d : Nat} {Z : Option Value → gMem → Prop} (hd : 6 ≤ d) (M : gMem) (P : gMem → Prop) (k0 : ∀ (N : gMem), P N → Z none N) (h : gOKq (fX5_readHead_0 M) P) : gGo G YX5_readHead d Z 0 [some (.ref 1)] [] M := by
  unfold fX5_readHead_0 at h
  refine go_rn 2 (pc' := 3) (L' := [some (.ref 1)]) (S' := [.ref 910, .ref 1]) (M' := M) okX5_readHead rfl ?_
  obtain ⟨M1, e2, h⟩ := gB0_ok h
  refine go_call1 ocX5_readHead rfl rfl (gOb_c rfl) rfl (SX5_expectWord 910 M rfl e2) (Nat.lt_of_lt_of_le (by decide) hd) ?_
  refine go_rn 2 (pc' := 9) (L' := [some (.ref 1)]) (S' := [.ref 911, .ref 1]) (M' := M1) okX5_readHead rfl ?_
  obtain ⟨M3, e4, h⟩ := gB0_ok h
  refine go_call1 ocX5_readHead rfl rfl (gOb_c rfl) rfl (SX5_expectWord 911 M1 rfl e4) (Nat.lt_of_lt_of_le (by decide) hd) ?_
  refine go_rn 1 (pc' := 13) (L' := [some (.ref 1)]) (S' := [.ref 1]) (M' := M3) okX5_readHead rfl ?_
  refine go_ck okX5_readHead rfl (gOb_c rfl) ?_
  obtain ⟨c5, h⟩ := gq_if h
  refine go_rn 3 (pc' := 20) (L' := [some (.ref 1)]) (S' := [.int (12 : Int32), .int (1 : Int32), .ref 1, .ref (M3.2.2 1)]) (M' := M3) okX5_readHead rfl ?_
  obtain ⟨r6, M7, e8, h⟩ := gBp_ok h
  refine go_call1 ocX5_readHead rfl rfl (gOb_c rfl) rfl (SX5_expectNumber (1 : Int32) (12 : Int32) M3 e8) (Nat.lt_of_lt_of_le (by decide) hd) ?_
  refine go_ck okX5_readHead rfl c5 ?_
  refine go_rn 2 (pc' := 29) (L' := [some (.ref 1)]) (S' := [.ref 912, .ref 1]) (M' := (gSI M7 (M3.2.2 1) 1 r6)) okX5_readHead rfl ?_
  exact go_wk (CX5_readHead_29 hd 912 (gSI M7 (M3.2.2 1) 1 r6) rfl P k0 h) ⟨rfl, True.intro⟩
def fX5_readHead (M : gMem) : Option (gMem) := fX5_readHead_0 M
theorem SX5_readHead {G : gG} (M : gMem) {N : gMem} (h : fX5_readHead M = some N) : gRun G YX5_readHead 6 [.ref 1] M (fun r' N' => r' = none ∧ N' = N) := gRun_in (by decide +kernel) rfl (fun d hd => go_wk (CX5_readHead_0 hd M (fun p => p = N) (fun N hh => ⟨rfl, hh⟩) (gq_of h)) ⟨rfl, True.intro⟩)
def fX5_readJoin_122 (M : gMem) : Option (gMem) :=
  if gOb 7 (M.2.2 1) = true then some (gSI M (M.2.2 1) 6 ((M.1 (M.2.2 1) 6) + (1 : Int32))) else none
set_option maxRecDepth 100000 in
theorem CX5_readJoin_122 {G : gG} {d : Nat} {Z : Option Value → gMem → Prop} (hd : 6 ≤ d) (M : gMem) (P : gMem → Prop) (k0 : ∀ (N : gMem), P N → Z none N) (h : gOKq (fX5_readJoin_122 M) P) : gGo G YX5_readJoin d Z 122 [none, none] [.ref 1] M := by
  unfold fX5_readJoin_122 at h
  refine go_ck okX5_readJoin rfl (gOb_c rfl) ?_
  obtain ⟨c1, h⟩ := gq_if h
  refine go_rn 1 (pc' := 126) (L' := [none, none]) (S' := [.ref (M.2.2 1), .ref (M.2.2 1)]) (M' := M) okX5_readJoin rfl ?_
  refine go_ck okX5_readJoin rfl c1 ?_
  refine go_rn 2 (pc' := 131) (L' := [none, none]) (S' := [.int ((M.1 (M.2.2 1) 6) + (1 : Int32)), .ref (M.2.2 1)]) (M' := M) okX5_readJoin rfl ?_
  refine go_ck okX5_readJoin rfl c1 ?_
  exact go_vret (reX5_readJoin _ (by decide)) rfl (k0 (gSI M (M.2.2 1) 6 ((M.1 (M.2.2 1) 6) + (1 : Int32))) h)
def fX5_readJoin_102 (x1 : Int32) (s0 : Nat) (M : gMem) : Option (gMem) :=
  gB0 (fX5_expectWord s0 M) (fun M1 => if gOb 7 (M1.2.2 1) = true then gBp (fX5_expectNumber (1 : Int32) (9 : Int32) M1) (fun r4 M5 => if gIx 1 ((M1.2.2 1) + 6) x1 = true then fX5_readJoin_122 (gSI M5 ((M1.2.2 1) + 6) (Int32.toNatClampNeg x1) r4) else none) else none)
set_option maxRecDepth 100000 in
theorem CX5_readJoin_102 {G : gG} {d : Nat} {Z : Option Value → gMem → Prop} (hd : 6 ≤ d) (x1 : Int32) (s0 : Nat) (M : gMem) (o_s0 : gStr s0 = true) (P : gMem → Prop) (k0 : ∀ (N : gMem), P N → Z none N) (h : gOKq (fX5_readJoin_102 x1 s0 M) P) : gGo G YX5_readJoin d Z 102 [some (.ref 1), some (.int x1)] [.ref s0, .ref 1] M := by
  unfold fX5_readJoin_102 at h
  obtain ⟨M1, e2, h⟩ := gB0_ok h
  refine go_call1 ocX5_readJoin rfl rfl (gOb_c rfl) rfl (SX5_expectWord s0 M o_s0 e2) (Nat.lt_of_lt_of_le (by decide) hd) ?_
  refine go_rn 1 (pc' := 106) (L' := [some (.ref 1), some (.int x1)]) (S' := [.ref 1]) (M' := M1) okX5_readJoin rfl ?_
  refine go_ck okX5_readJoin rfl (gOb_c rfl) ?_
  obtain ⟨c3, h⟩ := gq_if h
  refine go_ck okX5_readJoin rfl c3 ?_
  refine go_rn 4 (pc' := 117) (L' := [some (.ref 1), some (.int x1)]) (S' := [.int (9 : Int32), .int (1 : Int32), .ref 1, .int x1, .ref ((M1.2.2 1) + 6)]) (M' := M1) okX5_readJoin rfl ?_
  obtain ⟨r4, M5, e6, h⟩ := gBp_ok h
  refine go_call1 ocX5_readJoin rfl rfl (gOb_c rfl) rfl (SX5_expectNumber (1 : Int32) (9 : Int32) M1 e6) (Nat.lt_of_lt_of_le (by decide) hd) ?_
  obtain ⟨c7, h⟩ := gq_if h
  refine go_ck okX5_readJoin rfl c7 ?_
  refine go_rn 1 (pc' := 122) (L' := [some (.ref 1), some (.int x1)]) (S' := [.ref 1]) (M' := (gSI M5 ((M1.2.2 1) + 6) (Int32.toNatClampNeg x1) r4)) okX5_readJoin rfl ?_
  exact go_wk (CX5_readJoin_122 hd (gSI M5 ((M1.2.2 1) + 6) (Int32.toNatClampNeg x1) r4) P k0 h) True.intro
def fX5_readJoin_76 (x1 : Int32) (M : gMem) : Option (gMem) :=
  if gOb 7 (M.2.2 1) = true then if gOb 7 (M.2.2 1) = true then gBp (fX5_expectNumber (0 : Int32) ((M.1 (M.2.2 1) 5) - (1 : Int32)) M) (fun r3 M4 => if gIx 1 ((M.2.2 1) + 5) x1 = true then fX5_readJoin_102 x1 920 (gSI M4 ((M.2.2 1) + 5) (Int32.toNatClampNeg x1) r3) else none) else none else none
set_option maxRecDepth 100000 in
theorem CX5_readJoin_76 {G : gG} {d : Nat} {Z : Option Value → gMem → Prop} (hd : 6 ≤ d) (x1 : Int32) (M : gMem) (P : gMem → Prop) (k0 : ∀ (N : gMem), P N → Z none N) (h : gOKq (fX5_readJoin_76 x1 M) P) : gGo G YX5_readJoin d Z 76 [some (.ref 1), some (.int x1)] [] M := by
  unfold fX5_readJoin_76 at h
  refine go_rn 1 (pc' := 77) (L' := [some (.ref 1), some (.int x1)]) (S' := [.ref 1]) (M' := M) okX5_readJoin rfl ?_
  refine go_ck okX5_readJoin rfl (gOb_c rfl) ?_
  obtain ⟨c1, h⟩ := gq_if h
  refine go_ck okX5_readJoin rfl c1 ?_
  refine go_rn 4 (pc' := 87) (L' := [some (.ref 1), some (.int x1)]) (S' := [.ref 1, .int (0 : Int32), .ref 1, .int x1, .ref ((M.2.2 1) + 5)]) (M' := M) okX5_readJoin rfl ?_
  refine go_ck okX5_readJoin rfl (gOb_c rfl) ?_
  obtain ⟨c2, h⟩ := gq_if h
  refine go_ck okX5_readJoin rfl c2 ?_
  refine go_rn 2 (pc' := 95) (L' := [some (.ref 1), some (.int x1)]) (S' := [.int ((M.1 (M.2.2 1) 5) - (1 : Int32)), .int (0 : Int32), .ref 1, .int x1, .ref ((M.2.2 1) + 5)]) (M' := M) okX5_readJoin rfl ?_
  obtain ⟨r3, M4, e5, h⟩ := gBp_ok h
  refine go_call1 ocX5_readJoin rfl rfl (gOb_c rfl) rfl (SX5_expectNumber (0 : Int32) ((M.1 (M.2.2 1) 5) - (1 : Int32)) M e5) (Nat.lt_of_lt_of_le (by decide) hd) ?_
  obtain ⟨c6, h⟩ := gq_if h
  refine go_ck okX5_readJoin rfl c6 ?_
  refine go_rn 2 (pc' := 102) (L' := [some (.ref 1), some (.int x1)]) (S' := [.ref 920, .ref 1]) (M' := (gSI M4 ((M.2.2 1) + 5) (Int32.toNatClampNeg x1) r3)) okX5_readJoin rfl ?_
  exact go_wk (CX5_readJoin_102 hd x1 920 (gSI M4 ((M.2.2 1) + 5) (Int32.toNatClampNeg x1) r3) rfl P k0 h) ⟨rfl, rfl, True.intro⟩
def fX5_readJoin_48 (x1 : Int32) (M : gMem) : Option (gMem) :=
  if (M.1 1 4) = (2 : Int32) then if gOb 7 (M.2.2 1) = true then if gIx 1 ((M.2.2 1) + 4) x1 = true then if (M.1 1 7) = (M.1 ((M.2.2 1) + 4) (Int32.toNatClampNeg x1)) then gB0 (fX5_refuse (2 : Int32) M) (fun M3 => fX5_readJoin_76 x1 M3) else fX5_readJoin_76 x1 M else none else none else fX5_readJoin_76 x1 M
set_option maxRecDepth 100000 in
theorem CX5_readJoin_48 {G : gG} {d : Nat} {Z : Option Value → gMem → Prop} (hd : 6 ≤ d) (x1 : Int32) (M : gMem) (P : gMem → Prop) (k0 : ∀ (N : gMem), P N → Z none N) (h : gOKq (fX5_readJoin_48 x1 M) P) : gGo G YX5_readJoin d Z 48 [some (.ref 1), some (.int x1)] [.ref 1] M := by
  unfold fX5_readJoin_48 at h
  refine go_ck okX5_readJoin rfl (gOb_c rfl) ?_
  refine go_rn 1 (pc' := 52) (L' := [some (.ref 1), some (.int x1)]) (S' := [.int (2 : Int32), .int (M.1 1 4)]) (M' := M) okX5_readJoin rfl ?_
  refine go_br okX5_readJoin rfl (fun hp => ?_) (fun hp => ?_)
  · have h := gq_pos hp h
    refine go_rn 1 (pc' := 56) (L' := [some (.ref 1), some (.int x1)]) (S' := [.ref 1]) (M' := M) okX5_readJoin rfl ?_
    refine go_ck okX5_readJoin rfl (gOb_c rfl) ?_
    refine go_rn 1 (pc' := 60) (L' := [some (.ref 1), some (.int x1)]) (S' := [.ref 1, .int (M.1 1 7)]) (M' := M) okX5_readJoin rfl ?_
    refine go_ck okX5_readJoin rfl (gOb_c rfl) ?_
    obtain ⟨c1, h⟩ := gq_if h
    refine go_ck okX5_readJoin rfl c1 ?_
    refine go_rn 1 (pc' := 67) (L' := [some (.ref 1), some (.int x1)]) (S' := [.int x1, .ref ((M.2.2 1) + 4), .int (M.1 1 7)]) (M' := M) okX5_readJoin rfl ?_
    obtain ⟨c2, h⟩ := gq_if h
    refine go_ck okX5_readJoin rfl c2 ?_
    refine go_br okX5_readJoin rfl (fun hp => ?_) (fun hp => ?_)
    · have h := gq_pos hp h
      refine go_rn 2 (pc' := 73) (L' := [some (.ref 1), some (.int x1)]) (S' := [.int (2 : Int32), .ref 1]) (M' := M) okX5_readJoin rfl ?_
      obtain ⟨M3, e4, h⟩ := gB0_ok h
      refine go_call1 ocX5_readJoin rfl rfl (gOb_c rfl) rfl (SX5_refuse (2 : Int32) M e4) (Nat.lt_of_lt_of_le (by decide) hd) ?_
      exact go_wk (CX5_readJoin_76 hd x1 M3 P k0 h) ⟨rfl, rfl, True.intro⟩
    · have h := gq_neg hp h
      exact go_wk (CX5_readJoin_76 hd x1 M P k0 h) ⟨rfl, rfl, True.intro⟩
  · have h := gq_neg hp h
    exact go_wk (CX5_readJoin_76 hd x1 M P k0 h) ⟨rfl, rfl, True.intro⟩
def fX5_readJoin_0 (M : gMem) : Option (gMem) :=
  if gOb 7 (M.2.2 1) = true then if (M.1 (M.2.2 1) 6) < (7 : Int32) then gB0 (fX5_advance M) (fun M2 => if gOb 7 (M2.2.2 1) = true then if gOb 7 (M2.2.2 1) = true then gBp (fX5_expectNumber (0 : Int32) ((M2.1 (M2.2.2 1) 5) - (1 : Int32)) M2) (fun r6 M7 => if gIx 1 ((M2.2.2 1) + 4) (M.1 (M.2.2 1) 6) = true then fX5_readJoin_48 (M.1 (M.2.2 1) 6) (gSI M7 ((M2.2.2 1) + 4) (Int32.toNatClampNeg (M.1 (M.2.2 1) 6)) r6) else none) else none else none) else gB0 (fX5_refuse (3 : Int32) M) (fun M10 => some M10) else none
set_option maxRecDepth 100000 in
theorem CX5_readJoin_0 {G : gG} {d : Nat} {Z : Option Value → gMem → Prop} (hd : 6 ≤ d) (M : gMem) (P : gMem → Prop) (k0 : ∀ (N : gMem), P N → Z none N) (h : gOKq (fX5_readJoin_0 M) P) : gGo G YX5_readJoin d Z 0 [some (.ref 1), none] [] M := by
  unfold fX5_readJoin_0 at h
  refine go_rn 1 (pc' := 1) (L' := [some (.ref 1), none]) (S' := [.ref 1]) (M' := M) okX5_readJoin rfl ?_
  refine go_ck okX5_readJoin rfl (gOb_c rfl) ?_
  obtain ⟨c1, h⟩ := gq_if h
  refine go_ck okX5_readJoin rfl c1 ?_
  refine go_rn 3 (pc' := 11) (L' := [some (.ref 1), some (.int (M.1 (M.2.2 1) 6))]) (S' := [.int (7 : Int32), .int (M.1 (M.2.2 1) 6)]) (M' := M) okX5_readJoin rfl ?_
  refine go_br okX5_readJoin rfl (fun hp => ?_) (fun hp => ?_)
  · have h := gq_pos hp h
    refine go_rn 1 (pc' := 21) (L' := [some (.ref 1), some (.int (M.1 (M.2.2 1) 6))]) (S' := [.ref 1]) (M' := M) okX5_readJoin rfl ?_
    obtain ⟨M2, e3, h⟩ := gB0_ok h
    refine go_call1 ocX5_readJoin rfl rfl (gOb_c rfl) rfl (SX5_advance M e3) (Nat.lt_of_lt_of_le (by decide) hd) ?_
    refine go_rn 1 (pc' := 25) (L' := [some (.ref 1), some (.int (M.1 (M.2.2 1) 6))]) (S' := [.ref 1]) (M' := M2) okX5_readJoin rfl ?_
    refine go_ck okX5_readJoin rfl (gOb_c rfl) ?_
    obtain ⟨c4, h⟩ := gq_if h
    refine go_ck okX5_readJoin rfl c4 ?_
    refine go_rn 4 (pc' := 35) (L' := [some (.ref 1), some (.int (M.1 (M.2.2 1) 6))]) (S' := [.ref 1, .int (0 : Int32), .ref 1, .int (M.1 (M.2.2 1) 6), .ref ((M2.2.2 1) + 4)]) (M' := M2) okX5_readJoin rfl ?_
    refine go_ck okX5_readJoin rfl (gOb_c rfl) ?_
    obtain ⟨c5, h⟩ := gq_if h
    refine go_ck okX5_readJoin rfl c5 ?_
    refine go_rn 2 (pc' := 43) (L' := [some (.ref 1), some (.int (M.1 (M.2.2 1) 6))]) (S' := [.int ((M2.1 (M2.2.2 1) 5) - (1 : Int32)), .int (0 : Int32), .ref 1, .int (M.1 (M.2.2 1) 6), .ref ((M2.2.2 1) + 4)]) (M' := M2) okX5_readJoin rfl ?_
    obtain ⟨r6, M7, e8, h⟩ := gBp_ok h
    refine go_call1 ocX5_readJoin rfl rfl (gOb_c rfl) rfl (SX5_expectNumber (0 : Int32) ((M2.1 (M2.2.2 1) 5) - (1 : Int32)) M2 e8) (Nat.lt_of_lt_of_le (by decide) hd) ?_
    obtain ⟨c9, h⟩ := gq_if h
    refine go_ck okX5_readJoin rfl c9 ?_
    refine go_rn 1 (pc' := 48) (L' := [some (.ref 1), some (.int (M.1 (M.2.2 1) 6))]) (S' := [.ref 1]) (M' := (gSI M7 ((M2.2.2 1) + 4) (Int32.toNatClampNeg (M.1 (M.2.2 1) 6)) r6)) okX5_readJoin rfl ?_
    exact go_wk (CX5_readJoin_48 hd (M.1 (M.2.2 1) 6) (gSI M7 ((M2.2.2 1) + 4) (Int32.toNatClampNeg (M.1 (M.2.2 1) 6)) r6) P k0 h) ⟨rfl, rfl, True.intro⟩
  · have h := gq_neg hp h
    refine go_rn 2 (pc' := 16) (L' := [some (.ref 1), some (.int (M.1 (M.2.2 1) 6))]) (S' := [.int (3 : Int32), .ref 1]) (M' := M) okX5_readJoin rfl ?_
    obtain ⟨M10, e11, h⟩ := gB0_ok h
    refine go_call1 ocX5_readJoin rfl rfl (gOb_c rfl) rfl (SX5_refuse (3 : Int32) M e11) (Nat.lt_of_lt_of_le (by decide) hd) ?_
    exact go_vret (reX5_readJoin _ (by decide)) rfl (k0 M10 h)
def fX5_readJoin (M : gMem) : Option (gMem) := fX5_readJoin_0 M
theorem SX5_readJoin {G : gG} (M : gMem) {N : gMem} (h : fX5_readJoin M = some N) : gRun G YX5_readJoin 6 [.ref 1] M (fun r' N' => r' = none ∧ N' = N) := gRun_in (by decide +kernel) rfl (fun d hd => go_wk (CX5_readJoin_0 hd M (fun p => p = N) (fun N hh => ⟨rfl, hh⟩) (gq_of h)) ⟨rfl, True.intro⟩)
def fX5_readPartner_91 (M : gMem) : Option (gMem) :=
  if gOb 7 (M.2.2 1) = true then some (gSI M (M.2.2 1) 5 ((M.1 (M.2.2 1) 5) + (1 : Int32))) else none
set_option maxRecDepth 100000 in
theorem CX5_readPartner_91 {G : gG} {d : Nat} {Z : Option Value → gMem → Prop} (hd : 6 ≤ d) (M : gMem) (P : gMem → Prop) (k0 : ∀ (N : gMem), P N → Z none N) (h : gOKq (fX5_readPartner_91 M) P) : gGo G YX5_readPartner d Z 91 [none, none] [.ref 1] M := by
  unfold fX5_readPartner_91 at h
  refine go_ck okX5_readPartner rfl (gOb_c rfl) ?_
  obtain ⟨c1, h⟩ := gq_if h
  refine go_rn 1 (pc' := 95) (L' := [none, none]) (S' := [.ref (M.2.2 1), .ref (M.2.2 1)]) (M' := M) okX5_readPartner rfl ?_
  refine go_ck okX5_readPartner rfl c1 ?_
  refine go_rn 2 (pc' := 100) (L' := [none, none]) (S' := [.int ((M.1 (M.2.2 1) 5) + (1 : Int32)), .ref (M.2.2 1)]) (M' := M) okX5_readPartner rfl ?_
  refine go_ck okX5_readPartner rfl c1 ?_
  exact go_vret (reX5_readPartner _ (by decide)) rfl (k0 (gSI M (M.2.2 1) 5 ((M.1 (M.2.2 1) 5) + (1 : Int32))) h)
def fX5_readPartner_71 (x1 : Int32) (s0 : Nat) (M : gMem) : Option (gMem) :=
  gB0 (fX5_expectWord s0 M) (fun M1 => if gOb 7 (M1.2.2 1) = true then gBp (fX5_expectNumber (0 : Int32) (9 : Int32) M1) (fun r4 M5 => if gIx 1 ((M1.2.2 1) + 3) x1 = true then fX5_readPartner_91 (gSI M5 ((M1.2.2 1) + 3) (Int32.toNatClampNeg x1) r4) else none) else none)
set_option maxRecDepth 100000 in
theorem CX5_readPartner_71 {G : gG} {d : Nat} {Z : Option Value → gMem → Prop} (hd : 6 ≤ d) (x1 : Int32) (s0 : Nat) (M : gMem) (o_s0 : gStr s0 = true) (P : gMem → Prop) (k0 : ∀ (N : gMem), P N → Z none N) (h : gOKq (fX5_readPartner_71 x1 s0 M) P) : gGo G YX5_readPartner d Z 71 [some (.ref 1), some (.int x1)] [.ref s0, .ref 1] M := by
  unfold fX5_readPartner_71 at h
  obtain ⟨M1, e2, h⟩ := gB0_ok h
  refine go_call1 ocX5_readPartner rfl rfl (gOb_c rfl) rfl (SX5_expectWord s0 M o_s0 e2) (Nat.lt_of_lt_of_le (by decide) hd) ?_
  refine go_rn 1 (pc' := 75) (L' := [some (.ref 1), some (.int x1)]) (S' := [.ref 1]) (M' := M1) okX5_readPartner rfl ?_
  refine go_ck okX5_readPartner rfl (gOb_c rfl) ?_
  obtain ⟨c3, h⟩ := gq_if h
  refine go_ck okX5_readPartner rfl c3 ?_
  refine go_rn 4 (pc' := 86) (L' := [some (.ref 1), some (.int x1)]) (S' := [.int (9 : Int32), .int (0 : Int32), .ref 1, .int x1, .ref ((M1.2.2 1) + 3)]) (M' := M1) okX5_readPartner rfl ?_
  obtain ⟨r4, M5, e6, h⟩ := gBp_ok h
  refine go_call1 ocX5_readPartner rfl rfl (gOb_c rfl) rfl (SX5_expectNumber (0 : Int32) (9 : Int32) M1 e6) (Nat.lt_of_lt_of_le (by decide) hd) ?_
  obtain ⟨c7, h⟩ := gq_if h
  refine go_ck okX5_readPartner rfl c7 ?_
  refine go_rn 1 (pc' := 91) (L' := [some (.ref 1), some (.int x1)]) (S' := [.ref 1]) (M' := (gSI M5 ((M1.2.2 1) + 3) (Int32.toNatClampNeg x1) r4)) okX5_readPartner rfl ?_
  exact go_wk (CX5_readPartner_91 hd (gSI M5 ((M1.2.2 1) + 3) (Int32.toNatClampNeg x1) r4) P k0 h) True.intro
def fX5_readPartner_49 (x1 : Int32) (s0 : Nat) (M : gMem) : Option (gMem) :=
  gB0 (fX5_expectWord s0 M) (fun M1 => if gOb 7 (M1.2.2 1) = true then gBp (fX5_expectNumber (0 : Int32) (99 : Int32) M1) (fun r4 M5 => if gIx 1 ((M1.2.2 1) + 2) x1 = true then fX5_readPartner_71 x1 918 (gSI M5 ((M1.2.2 1) + 2) (Int32.toNatClampNeg x1) r4) else none) else none)
set_option maxRecDepth 100000 in
theorem CX5_readPartner_49 {G : gG} {d : Nat} {Z : Option Value → gMem → Prop} (hd : 6 ≤ d) (x1 : Int32) (s0 : Nat) (M : gMem) (o_s0 : gStr s0 = true) (P : gMem → Prop) (k0 : ∀ (N : gMem), P N → Z none N) (h : gOKq (fX5_readPartner_49 x1 s0 M) P) : gGo G YX5_readPartner d Z 49 [some (.ref 1), some (.int x1)] [.ref s0, .ref 1] M := by
  unfold fX5_readPartner_49 at h
  obtain ⟨M1, e2, h⟩ := gB0_ok h
  refine go_call1 ocX5_readPartner rfl rfl (gOb_c rfl) rfl (SX5_expectWord s0 M o_s0 e2) (Nat.lt_of_lt_of_le (by decide) hd) ?_
  refine go_rn 1 (pc' := 53) (L' := [some (.ref 1), some (.int x1)]) (S' := [.ref 1]) (M' := M1) okX5_readPartner rfl ?_
  refine go_ck okX5_readPartner rfl (gOb_c rfl) ?_
  obtain ⟨c3, h⟩ := gq_if h
  refine go_ck okX5_readPartner rfl c3 ?_
  refine go_rn 4 (pc' := 64) (L' := [some (.ref 1), some (.int x1)]) (S' := [.int (99 : Int32), .int (0 : Int32), .ref 1, .int x1, .ref ((M1.2.2 1) + 2)]) (M' := M1) okX5_readPartner rfl ?_
  obtain ⟨r4, M5, e6, h⟩ := gBp_ok h
  refine go_call1 ocX5_readPartner rfl rfl (gOb_c rfl) rfl (SX5_expectNumber (0 : Int32) (99 : Int32) M1 e6) (Nat.lt_of_lt_of_le (by decide) hd) ?_
  obtain ⟨c7, h⟩ := gq_if h
  refine go_ck okX5_readPartner rfl c7 ?_
  refine go_rn 2 (pc' := 71) (L' := [some (.ref 1), some (.int x1)]) (S' := [.ref 918, .ref 1]) (M' := (gSI M5 ((M1.2.2 1) + 2) (Int32.toNatClampNeg x1) r4)) okX5_readPartner rfl ?_
  exact go_wk (CX5_readPartner_71 hd x1 918 (gSI M5 ((M1.2.2 1) + 2) (Int32.toNatClampNeg x1) r4) rfl P k0 h) ⟨rfl, rfl, True.intro⟩
def fX5_readPartner_0 (M : gMem) : Option (gMem) :=
  if gOb 7 (M.2.2 1) = true then if (M.1 (M.2.2 1) 5) < (6 : Int32) then gB0 (fX5_advance M) (fun M2 => gB0 (fX5_expectWord 916 M2) (fun M4 => if gOb 7 (M4.2.2 1) = true then gBp (fX5_expectNumber (1 : Int32) (9 : Int32) M4) (fun r7 M8 => if gIx 1 ((M4.2.2 1) + 1) (M.1 (M.2.2 1) 5) = true then fX5_readPartner_49 (M.1 (M.2.2 1) 5) 917 (gSI M8 ((M4.2.2 1) + 1) (Int32.toNatClampNeg (M.1 (M.2.2 1) 5)) r7) else none) else none)) else gB0 (fX5_refuse (3 : Int32) M) (fun M11 => some M11) else none
set_option maxRecDepth 100000 in
theorem CX5_readPartner_0 {G : gG} {d : Nat} {Z : Option Value → gMem → Prop} (hd : 6 ≤ d) (M : gMem) (P : gMem → Prop) (k0 : ∀ (N : gMem), P N → Z none N) (h : gOKq (fX5_readPartner_0 M) P) : gGo G YX5_readPartner d Z 0 [some (.ref 1), none] [] M := by
  unfold fX5_readPartner_0 at h
  refine go_rn 1 (pc' := 1) (L' := [some (.ref 1), none]) (S' := [.ref 1]) (M' := M) okX5_readPartner rfl ?_
  refine go_ck okX5_readPartner rfl (gOb_c rfl) ?_
  obtain ⟨c1, h⟩ := gq_if h
  refine go_ck okX5_readPartner rfl c1 ?_
  refine go_rn 3 (pc' := 11) (L' := [some (.ref 1), some (.int (M.1 (M.2.2 1) 5))]) (S' := [.int (6 : Int32), .int (M.1 (M.2.2 1) 5)]) (M' := M) okX5_readPartner rfl ?_
  refine go_br okX5_readPartner rfl (fun hp => ?_) (fun hp => ?_)
  · have h := gq_pos hp h
    refine go_rn 1 (pc' := 21) (L' := [some (.ref 1), some (.int (M.1 (M.2.2 1) 5))]) (S' := [.ref 1]) (M' := M) okX5_readPartner rfl ?_
    obtain ⟨M2, e3, h⟩ := gB0_ok h
    refine go_call1 ocX5_readPartner rfl rfl (gOb_c rfl) rfl (SX5_advance M e3) (Nat.lt_of_lt_of_le (by decide) hd) ?_
    refine go_rn 2 (pc' := 27) (L' := [some (.ref 1), some (.int (M.1 (M.2.2 1) 5))]) (S' := [.ref 916, .ref 1]) (M' := M2) okX5_readPartner rfl ?_
    obtain ⟨M4, e5, h⟩ := gB0_ok h
    refine go_call1 ocX5_readPartner rfl rfl (gOb_c rfl) rfl (SX5_expectWord 916 M2 rfl e5) (Nat.lt_of_lt_of_le (by decide) hd) ?_
    refine go_rn 1 (pc' := 31) (L' := [some (.ref 1), some (.int (M.1 (M.2.2 1) 5))]) (S' := [.ref 1]) (M' := M4) okX5_readPartner rfl ?_
    refine go_ck okX5_readPartner rfl (gOb_c rfl) ?_
    obtain ⟨c6, h⟩ := gq_if h
    refine go_ck okX5_readPartner rfl c6 ?_
    refine go_rn 4 (pc' := 42) (L' := [some (.ref 1), some (.int (M.1 (M.2.2 1) 5))]) (S' := [.int (9 : Int32), .int (1 : Int32), .ref 1, .int (M.1 (M.2.2 1) 5), .ref ((M4.2.2 1) + 1)]) (M' := M4) okX5_readPartner rfl ?_
    obtain ⟨r7, M8, e9, h⟩ := gBp_ok h
    refine go_call1 ocX5_readPartner rfl rfl (gOb_c rfl) rfl (SX5_expectNumber (1 : Int32) (9 : Int32) M4 e9) (Nat.lt_of_lt_of_le (by decide) hd) ?_
    obtain ⟨c10, h⟩ := gq_if h
    refine go_ck okX5_readPartner rfl c10 ?_
    refine go_rn 2 (pc' := 49) (L' := [some (.ref 1), some (.int (M.1 (M.2.2 1) 5))]) (S' := [.ref 917, .ref 1]) (M' := (gSI M8 ((M4.2.2 1) + 1) (Int32.toNatClampNeg (M.1 (M.2.2 1) 5)) r7)) okX5_readPartner rfl ?_
    exact go_wk (CX5_readPartner_49 hd (M.1 (M.2.2 1) 5) 917 (gSI M8 ((M4.2.2 1) + 1) (Int32.toNatClampNeg (M.1 (M.2.2 1) 5)) r7) rfl P k0 h) ⟨rfl, rfl, True.intro⟩
  · have h := gq_neg hp h
    refine go_rn 2 (pc' := 16) (L' := [some (.ref 1), some (.int (M.1 (M.2.2 1) 5))]) (S' := [.int (3 : Int32), .ref 1]) (M' := M) okX5_readPartner rfl ?_
    obtain ⟨M11, e12, h⟩ := gB0_ok h
    refine go_call1 ocX5_readPartner rfl rfl (gOb_c rfl) rfl (SX5_refuse (3 : Int32) M e12) (Nat.lt_of_lt_of_le (by decide) hd) ?_
    exact go_vret (reX5_readPartner _ (by decide)) rfl (k0 M11 h)
def fX5_readPartner (M : gMem) : Option (gMem) := fX5_readPartner_0 M
theorem SX5_readPartner {G : gG} (M : gMem) {N : gMem} (h : fX5_readPartner M = some N) : gRun G YX5_readPartner 6 [.ref 1] M (fun r' N' => r' = none ∧ N' = N) := gRun_in (by decide +kernel) rfl (fun d hd => go_wk (CX5_readPartner_0 hd M (fun p => p = N) (fun N hh => ⟨rfl, hh⟩) (gq_of h)) ⟨rfl, True.intro⟩)
def fX5_readLine_86 (M : gMem) : Option (gMem) :=
  gB0 (fX5_expectSign M) (fun M1 => if (M1.1 1 2) = 0 then if gOb 7 (M1.2.2 1) = true then some (gSI M1 (M1.2.2 1) 0 ((M1.1 (M1.2.2 1) 0) + (1 : Int32))) else none else some M1)
set_option maxRecDepth 100000 in
theorem CX5_readLine_86 {G : gG} {d : Nat} {Z : Option Value → gMem → Prop} (hd : 7 ≤ d) (M : gMem) (P : gMem → Prop) (k0 : ∀ (N : gMem), P N → Z none N) (h : gOKq (fX5_readLine_86 M) P) : gGo G YX5_readLine d Z 86 [some (.ref 1)] [] M := by
  unfold fX5_readLine_86 at h
  refine go_rn 1 (pc' := 87) (L' := [some (.ref 1)]) (S' := [.ref 1]) (M' := M) okX5_readLine rfl ?_
  obtain ⟨M1, e2, h⟩ := gB0_ok h
  refine go_call1 ocX5_readLine rfl rfl (gOb_c rfl) rfl (SX5_expectSign M e2) (Nat.lt_of_lt_of_le (by decide) hd) ?_
  refine go_rn 1 (pc' := 91) (L' := [some (.ref 1)]) (S' := [.ref 1]) (M' := M1) okX5_readLine rfl ?_
  refine go_ck okX5_readLine rfl (gOb_c rfl) ?_
  refine go_br okX5_readLine rfl (fun hp => ?_) (fun hp => ?_)
  · have h := gq_pos hp h
    refine go_rn 1 (pc' := 98) (L' := [some (.ref 1)]) (S' := [.ref 1]) (M' := M1) okX5_readLine rfl ?_
    refine go_ck okX5_readLine rfl (gOb_c rfl) ?_
    obtain ⟨c3, h⟩ := gq_if h
    refine go_rn 1 (pc' := 102) (L' := [some (.ref 1)]) (S' := [.ref (M1.2.2 1), .ref (M1.2.2 1)]) (M' := M1) okX5_readLine rfl ?_
    refine go_ck okX5_readLine rfl c3 ?_
    refine go_rn 2 (pc' := 107) (L' := [some (.ref 1)]) (S' := [.int ((M1.1 (M1.2.2 1) 0) + (1 : Int32)), .ref (M1.2.2 1)]) (M' := M1) okX5_readLine rfl ?_
    refine go_ck okX5_readLine rfl c3 ?_
    exact go_vret (reX5_readLine _ (by decide)) rfl (k0 (gSI M1 (M1.2.2 1) 0 ((M1.1 (M1.2.2 1) 0) + (1 : Int32))) h)
  · have h := gq_neg hp h
    exact go_vret (reX5_readLine _ (by decide)) rfl (k0 M1 h)
def fX5_readLine_0 (M : gMem) : Option (gMem) :=
  if gOb 7 (M.2.2 1) = true then if (M.1 (M.2.2 1) 0) = 0 then gB0 (fX5_readHead M) (fun M2 => fX5_readLine_86 M2) else gB0 (fX5_isWord 915 M) (fun r4 => if r4 = 0 then gB0 (fX5_isWord 919 M) (fun r6 => if r6 = 0 then gB0 (fX5_isWord 921 M) (fun r8 => if r8 = 0 then gB0 (fX5_isWord 922 M) (fun r10 => if r10 = 0 then gB0 (fX5_refuse (1 : Int32) M) (fun M12 => fX5_readLine_86 M12) else gB0 (fX5_readCold M) (fun M14 => fX5_readLine_86 M14)) else gB0 (fX5_readDoor M) (fun M16 => fX5_readLine_86 M16)) else gB0 (fX5_readJoin M) (fun M18 => fX5_readLine_86 M18)) else gB0 (fX5_readPartner M) (fun M20 => fX5_readLine_86 M20)) else none
set_option maxRecDepth 100000 in
theorem CX5_readLine_0 {G : gG} {d : Nat} {Z : Option Value → gMem → Prop} (hd : 7 ≤ d) (M : gMem) (P : gMem → Prop) (k0 : ∀ (N : gMem), P N → Z none N) (h : gOKq (fX5_readLine_0 M) P) : gGo G YX5_readLine d Z 0 [some (.ref 1)] [] M := by
  unfold fX5_readLine_0 at h
  refine go_rn 1 (pc' := 1) (L' := [some (.ref 1)]) (S' := [.ref 1]) (M' := M) okX5_readLine rfl ?_
  refine go_ck okX5_readLine rfl (gOb_c rfl) ?_
  obtain ⟨c1, h⟩ := gq_if h
  refine go_ck okX5_readLine rfl c1 ?_
  refine go_br okX5_readLine rfl (fun hp => ?_) (fun hp => ?_)
  · have h := gq_pos hp h
    refine go_rn 1 (pc' := 11) (L' := [some (.ref 1)]) (S' := [.ref 1]) (M' := M) okX5_readLine rfl ?_
    obtain ⟨M2, e3, h⟩ := gB0_ok h
    refine go_call1 ocX5_readLine rfl rfl (gOb_c rfl) rfl (SX5_readHead M e3) (Nat.lt_of_lt_of_le (by decide) hd) ?_
    refine go_rn 1 (pc' := 86) (L' := [some (.ref 1)]) (S' := []) (M' := M2) okX5_readLine rfl ?_
    exact go_wk (CX5_readLine_86 hd M2 P k0 h) ⟨rfl, True.intro⟩
  · have h := gq_neg hp h
    refine go_rn 2 (pc' := 20) (L' := [some (.ref 1)]) (S' := [.ref 915, .ref 1]) (M' := M) okX5_readLine rfl ?_
    obtain ⟨r4, e5, h⟩ := gB0_ok h
    refine go_call1 ocX5_readLine rfl rfl (gOb_c rfl) rfl (SX5_isWord 915 M rfl e5) (Nat.lt_of_lt_of_le (by decide) hd) ?_
    refine go_br okX5_readLine rfl (fun hp => ?_) (fun hp => ?_)
    · have h := gq_pos hp h
      refine go_rn 2 (pc' := 36) (L' := [some (.ref 1)]) (S' := [.ref 919, .ref 1]) (M' := M) okX5_readLine rfl ?_
      obtain ⟨r6, e7, h⟩ := gB0_ok h
      refine go_call1 ocX5_readLine rfl rfl (gOb_c rfl) rfl (SX5_isWord 919 M rfl e7) (Nat.lt_of_lt_of_le (by decide) hd) ?_
      refine go_br okX5_readLine rfl (fun hp => ?_) (fun hp => ?_)
      · have h := gq_pos hp h
        refine go_rn 2 (pc' := 52) (L' := [some (.ref 1)]) (S' := [.ref 921, .ref 1]) (M' := M) okX5_readLine rfl ?_
        obtain ⟨r8, e9, h⟩ := gB0_ok h
        refine go_call1 ocX5_readLine rfl rfl (gOb_c rfl) rfl (SX5_isWord 921 M rfl e9) (Nat.lt_of_lt_of_le (by decide) hd) ?_
        refine go_br okX5_readLine rfl (fun hp => ?_) (fun hp => ?_)
        · have h := gq_pos hp h
          refine go_rn 2 (pc' := 68) (L' := [some (.ref 1)]) (S' := [.ref 922, .ref 1]) (M' := M) okX5_readLine rfl ?_
          obtain ⟨r10, e11, h⟩ := gB0_ok h
          refine go_call1 ocX5_readLine rfl rfl (gOb_c rfl) rfl (SX5_isWord 922 M rfl e11) (Nat.lt_of_lt_of_le (by decide) hd) ?_
          refine go_br okX5_readLine rfl (fun hp => ?_) (fun hp => ?_)
          · have h := gq_pos hp h
            refine go_rn 2 (pc' := 83) (L' := [some (.ref 1)]) (S' := [.int (1 : Int32), .ref 1]) (M' := M) okX5_readLine rfl ?_
            obtain ⟨M12, e13, h⟩ := gB0_ok h
            refine go_call1 ocX5_readLine rfl rfl (gOb_c rfl) rfl (SX5_refuse (1 : Int32) M e13) (Nat.lt_of_lt_of_le (by decide) hd) ?_
            exact go_wk (CX5_readLine_86 hd M12 P k0 h) ⟨rfl, True.intro⟩
          · have h := gq_neg hp h
            refine go_rn 1 (pc' := 75) (L' := [some (.ref 1)]) (S' := [.ref 1]) (M' := M) okX5_readLine rfl ?_
            obtain ⟨M14, e15, h⟩ := gB0_ok h
            refine go_call1 ocX5_readLine rfl rfl (gOb_c rfl) rfl (SX5_readCold M e15) (Nat.lt_of_lt_of_le (by decide) hd) ?_
            refine go_rn 1 (pc' := 86) (L' := [some (.ref 1)]) (S' := []) (M' := M14) okX5_readLine rfl ?_
            exact go_wk (CX5_readLine_86 hd M14 P k0 h) ⟨rfl, True.intro⟩
        · have h := gq_neg hp h
          refine go_rn 1 (pc' := 59) (L' := [some (.ref 1)]) (S' := [.ref 1]) (M' := M) okX5_readLine rfl ?_
          obtain ⟨M16, e17, h⟩ := gB0_ok h
          refine go_call1 ocX5_readLine rfl rfl (gOb_c rfl) rfl (SX5_readDoor M e17) (Nat.lt_of_lt_of_le (by decide) hd) ?_
          refine go_rn 1 (pc' := 86) (L' := [some (.ref 1)]) (S' := []) (M' := M16) okX5_readLine rfl ?_
          exact go_wk (CX5_readLine_86 hd M16 P k0 h) ⟨rfl, True.intro⟩
      · have h := gq_neg hp h
        refine go_rn 1 (pc' := 43) (L' := [some (.ref 1)]) (S' := [.ref 1]) (M' := M) okX5_readLine rfl ?_
        obtain ⟨M18, e19, h⟩ := gB0_ok h
        refine go_call1 ocX5_readLine rfl rfl (gOb_c rfl) rfl (SX5_readJoin M e19) (Nat.lt_of_lt_of_le (by decide) hd) ?_
        refine go_rn 1 (pc' := 86) (L' := [some (.ref 1)]) (S' := []) (M' := M18) okX5_readLine rfl ?_
        exact go_wk (CX5_readLine_86 hd M18 P k0 h) ⟨rfl, True.intro⟩
    · have h := gq_neg hp h
      refine go_rn 1 (pc' := 27) (L' := [some (.ref 1)]) (S' := [.ref 1]) (M' := M) okX5_readLine rfl ?_
      obtain ⟨M20, e21, h⟩ := gB0_ok h
      refine go_call1 ocX5_readLine rfl rfl (gOb_c rfl) rfl (SX5_readPartner M e21) (Nat.lt_of_lt_of_le (by decide) hd) ?_
      refine go_rn 1 (pc' := 86) (L' := [some (.ref 1)]) (S' := []) (M' := M20) okX5_readLine rfl ?_
      exact go_wk (CX5_readLine_86 hd M20 P k0 h) ⟨rfl, True.intro⟩
def fX5_readLine (M : gMem) : Option (gMem) := fX5_readLine_0 M
theorem SX5_readLine {G : gG} (M : gMem) {N : gMem} (h : fX5_readLine M = some N) : gRun G YX5_readLine 7 [.ref 1] M (fun r' N' => r' = none ∧ N' = N) := gRun_in (by decide +kernel) rfl (fun d hd => go_wk (CX5_readLine_0 hd M (fun p => p = N) (fun N hh => ⟨rfl, hh⟩) (gq_of h)) ⟨rfl, True.intro⟩)
