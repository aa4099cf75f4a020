/-! exact functions of methods, and that the machine goes as they say: by program -/
def fX9_whyNot_46 (x1 : Int32) (x2 : Int32) (M : gMem) : Option (Sum (Int32) (Int32)) :=
  if gIx 1 143 x1 = true then if (M.1 143 (Int32.toNatClampNeg x1)) ≤ x2 then some (.inr (0 : Int32)) else if gIx 4 144 (((60 : Int32) * x1) + x2) = true then gB0 (fX9_isPerson (M.2.1 144 (Int32.toNatClampNeg (((60 : Int32) * x1) + x2))) M) (fun r3 => if r3 = 0 then some (.inr (-2 : Int32)) else if gIx 4 144 ((((60 : Int32) * x1) + x2) + (1 : Int32)) = true then gB0 (fX9_isDoor (M.2.1 144 (Int32.toNatClampNeg ((((60 : Int32) * x1) + x2) + (1 : Int32)))) M) (fun r6 => if r6 = 0 then some (.inr (-2 : Int32)) else if gIx 4 144 ((((60 : Int32) * x1) + x2) + (2 : Int32)) = true then gB0 (fX9_in (M.2.1 144 (Int32.toNatClampNeg ((((60 : Int32) * x1) + x2) + (2 : Int32)))) (0 : Int64) (1 : Int64) M) (fun r9 => if r9 = 0 then some (.inr (-2 : Int32)) else some (.inl ((x2 + 3)))) else none) else none) else none else none
set_option maxRecDepth 100000 in
theorem CX9_whyNot_46 {G : gG} {d : Nat} {Z : Option Value → gMem → Prop} (hd : 2 ≤ d) (x1 : Int32) (x2 : Int32) (M : gMem) (P : Sum (Int32) (Int32) → Prop) (k0 : ∀ (r : Int32), P (.inr r) → Z (some (.int r)) M) (k1 : ∀ (x2 : Int32), P (.inl (x2)) → gGo G YX9_whyNot d Z 46 [some (.ref 141), some (.int x1), some (.int x2), none] [] M) (h : gOKq (fX9_whyNot_46 x1 x2 M) P) : gGo G YX9_whyNot d Z 46 [some (.ref 141), some (.int x1), some (.int x2), none] [] M := by
  unfold fX9_whyNot_46 at h
  refine go_rn 2 (pc' := 48) (L' := [some (.ref 141), some (.int x1), some (.int x2), none]) (S' := [.ref 141, .int x2]) (M' := M) okX9_whyNot rfl ?_
  refine go_ck okX9_whyNot rfl (gOb_c rfl) ?_
  refine go_rn 1 (pc' := 52) (L' := [some (.ref 141), some (.int x1), some (.int x2), none]) (S' := [.int x1, .ref 143, .int x2]) (M' := M) okX9_whyNot rfl ?_
  obtain ⟨c1, h⟩ := gq_if h
  refine go_ck okX9_whyNot rfl c1 ?_
  refine go_br okX9_whyNot rfl (fun hp => ?_) (fun hp => ?_)
  · have h := gq_pos hp h
    refine go_rn 1 (pc' := 117) (L' := [some (.ref 141), some (.int x1), some (.int x2), none]) (S' := [.int (0 : Int32)]) (M' := M) okX9_whyNot rfl ?_
    exact go_iret (reX9_whyNot _ (by decide)) rfl (k0 (0 : Int32) h)
  · have h := gq_neg hp h
    refine go_rn 8 (pc' := 65) (L' := [some (.ref 141), some (.int x1), some (.int x2), some (.int (((60 : Int32) * x1) + x2))]) (S' := [.ref 141, .ref 141]) (M' := M) okX9_whyNot rfl ?_
    refine go_ck okX9_whyNot rfl (gOb_c rfl) ?_
    refine go_rn 1 (pc' := 69) (L' := [some (.ref 141), some (.int x1), some (.int x2), some (.int (((60 : Int32) * x1) + x2))]) (S' := [.int (((60 : Int32) * x1) + x2), .ref 144, .ref 141]) (M' := M) okX9_whyNot rfl ?_
    obtain ⟨c2, h⟩ := gq_if h
    refine go_ck okX9_whyNot rfl c2 ?_
    obtain ⟨r3, e4, h⟩ := gB0_ok h
    refine go_call1 ocX9_whyNot rfl rfl (gOb_c rfl) rfl (SX9_isPerson (M.2.1 144 (Int32.toNatClampNeg (((60 : Int32) * x1) + x2))) M e4) (Nat.lt_of_lt_of_le (by decide) hd) ?_
    refine go_br okX9_whyNot rfl (fun hp => ?_) (fun hp => ?_)
    · have h := gq_pos hp h
      refine go_rn 1 (pc' := 109) (L' := [some (.ref 141), some (.int x1), some (.int x2), some (.int (((60 : Int32) * x1) + x2))]) (S' := [.int (-2 : Int32)]) (M' := M) okX9_whyNot rfl ?_
      exact go_iret (reX9_whyNot _ (by decide)) rfl (k0 (-2 : Int32) h)
    · have h := gq_neg hp h
      refine go_rn 2 (pc' := 78) (L' := [some (.ref 141), some (.int x1), some (.int x2), some (.int (((60 : Int32) * x1) + x2))]) (S' := [.ref 141, .ref 141]) (M' := M) okX9_whyNot rfl ?_
      refine go_ck okX9_whyNot rfl (gOb_c rfl) ?_
      refine go_rn 3 (pc' := 84) (L' := [some (.ref 141), some (.int x1), some (.int x2), some (.int (((60 : Int32) * x1) + x2))]) (S' := [.int ((((60 : Int32) * x1) + x2) + (1 : Int32)), .ref 144, .ref 141]) (M' := M) okX9_whyNot rfl ?_
      obtain ⟨c5, h⟩ := gq_if h
      refine go_ck okX9_whyNot rfl c5 ?_
      obtain ⟨r6, e7, h⟩ := gB0_ok h
      refine go_call1 ocX9_whyNot rfl rfl (gOb_c rfl) rfl (SX9_isDoor (M.2.1 144 (Int32.toNatClampNeg ((((60 : Int32) * x1) + x2) + (1 : Int32)))) M e7) (Nat.lt_of_lt_of_le (by decide) hd) ?_
      refine go_br okX9_whyNot rfl (fun hp => ?_) (fun hp => ?_)
      · have h := gq_pos hp h
        refine go_rn 1 (pc' := 109) (L' := [some (.ref 141), some (.int x1), some (.int x2), some (.int (((60 : Int32) * x1) + x2))]) (S' := [.int (-2 : Int32)]) (M' := M) okX9_whyNot rfl ?_
        exact go_iret (reX9_whyNot _ (by decide)) rfl (k0 (-2 : Int32) h)
      · have h := gq_neg hp h
        refine go_rn 1 (pc' := 92) (L' := [some (.ref 141), some (.int x1), some (.int x2), some (.int (((60 : Int32) * x1) + x2))]) (S' := [.ref 141]) (M' := M) okX9_whyNot rfl ?_
        refine go_ck okX9_whyNot rfl (gOb_c rfl) ?_
        refine go_rn 3 (pc' := 98) (L' := [some (.ref 141), some (.int x1), some (.int x2), some (.int (((60 : Int32) * x1) + x2))]) (S' := [.int ((((60 : Int32) * x1) + x2) + (2 : Int32)), .ref 144]) (M' := M) okX9_whyNot rfl ?_
        obtain ⟨c8, h⟩ := gq_if h
        refine go_ck okX9_whyNot rfl c8 ?_
        refine go_rn 2 (pc' := 101) (L' := [some (.ref 141), some (.int x1), some (.int x2), some (.int (((60 : Int32) * x1) + x2))]) (S' := [.long (1 : Int64), .long (0 : Int64), .long (M.2.1 144 (Int32.toNatClampNeg ((((60 : Int32) * x1) + x2) + (2 : Int32))))]) (M' := M) okX9_whyNot rfl ?_
        obtain ⟨r9, e10, h⟩ := gB0_ok h
        refine go_call1 ocX9_whyNot rfl rfl rfl rfl (SX9_in (M.2.1 144 (Int32.toNatClampNeg ((((60 : Int32) * x1) + x2) + (2 : Int32)))) (0 : Int64) (1 : Int64) M e10) (Nat.lt_of_lt_of_le (by decide) hd) ?_
        refine go_br okX9_whyNot rfl (fun hp => ?_) (fun hp => ?_)
        · have h := gq_pos hp h
          refine go_rn 1 (pc' := 109) (L' := [some (.ref 141), some (.int x1), some (.int x2), some (.int (((60 : Int32) * x1) + x2))]) (S' := [.int (-2 : Int32)]) (M' := M) okX9_whyNot rfl ?_
          exact go_iret (reX9_whyNot _ (by decide)) rfl (k0 (-2 : Int32) h)
        · have h := gq_neg hp h
          refine go_rn 2 (pc' := 46) (L' := [some (.ref 141), some (.int x1), some (.int (x2 + 3)), some (.int (((60 : Int32) * x1) + x2))]) (S' := []) (M' := M) okX9_whyNot rfl ?_
          exact go_wk (k1 ((x2 + 3)) h) ⟨rfl, rfl, rfl, True.intro⟩
def fX9_whyNot_46h (x1 : Int32) (x2 : Int32) (M : gMem) : Option (Int32) :=
  gLp (fun s : Int32 => fX9_whyNot_46 x1 s M) gFu (x2)
set_option maxRecDepth 100000 in
theorem CX9_whyNot_46h {G : gG} {d : Nat} {Z : Option Value → gMem → Prop} (hd : 2 ≤ d) (x1 : Int32) (x2 : Int32) (M : gMem) (P : Int32 → Prop) (k0 : ∀ (r : Int32), P r → Z (some (.int r)) M) (h : gOKq (fX9_whyNot_46h x1 x2 M) P) : gGo G YX9_whyNot d Z 46 [some (.ref 141), some (.int x1), some (.int x2), none] [] M :=
  gLp_go (K := fun s : Int32 => gGo G YX9_whyNot d Z 46 [some (.ref 141), some (.int x1), some (.int s), none] [] M) (P := P) (fun s hs => CX9_whyNot_46 hd (x1) (s) M (Sum.elim (fun s : Int32 => gGo G YX9_whyNot d Z 46 [some (.ref 141), some (.int x1), some (.int s), none] [] M) P) k0 (fun x2 hh => hh) hs) gFu (x2) h
def fX9_whyNot_0 (x1 : Int32) (M : gMem) : Option (Int32) :=
  gB0 (fX9_isSlot x1 M) (fun r1 => if r1 = 0 then some (-2 : Int32) else gB0 (fX9_isCity M) (fun r3 => if r3 = 0 then some (-2 : Int32) else if gIx 1 142 x1 = true then if (M.1 142 (Int32.toNatClampNeg x1)) = (-1 : Int32) then some (-6 : Int32) else if gIx 1 143 x1 = true then if ((M.1 143 (Int32.toNatClampNeg x1)) - (M.1 143 (Int32.toNatClampNeg x1)) / (3 : Int32) * (3 : Int32)) = 0 then fX9_whyNot_46h x1 (0 : Int32) M else some (-2 : Int32) else none else none))
set_option maxRecDepth 100000 in
theorem CX9_whyNot_0 {G : gG} {d : Nat} {Z : Option Value → gMem → Prop} (hd : 2 ≤ d) (x1 : Int32) (M : gMem) (P : Int32 → Prop) (k0 : ∀ (r : Int32), P r → Z (some (.int r)) M) (h : gOKq (fX9_whyNot_0 x1 M) P) : gGo G YX9_whyNot d Z 0 [some (.ref 141), some (.int x1), none, none] [] M := by
  unfold fX9_whyNot_0 at h
  refine go_rn 1 (pc' := 1) (L' := [some (.ref 141), some (.int x1), none, none]) (S' := [.int x1]) (M' := M) okX9_whyNot rfl ?_
  obtain ⟨r1, e2, h⟩ := gB0_ok h
  refine go_call1 ocX9_whyNot rfl rfl rfl rfl (SX9_isSlot x1 M e2) (Nat.lt_of_lt_of_le (by decide) hd) ?_
  refine go_br okX9_whyNot rfl (fun hp => ?_) (fun hp => ?_)
  · have h := gq_pos hp h
    refine go_rn 1 (pc' := 16) (L' := [some (.ref 141), some (.int x1), none, none]) (S' := [.int (-2 : Int32)]) (M' := M) okX9_whyNot rfl ?_
    exact go_iret (reX9_whyNot _ (by decide)) rfl (k0 (-2 : Int32) h)
  · have h := gq_neg hp h
    refine go_rn 1 (pc' := 8) (L' := [some (.ref 141), some (.int x1), none, none]) (S' := [.ref 141]) (M' := M) okX9_whyNot rfl ?_
    obtain ⟨r3, e4, h⟩ := gB0_ok h
    refine go_call1 ocX9_whyNot rfl rfl (gOb_c rfl) rfl (SX9_isCity M e4) (Nat.lt_of_lt_of_le (by decide) hd) ?_
    refine go_br okX9_whyNot rfl (fun hp => ?_) (fun hp => ?_)
    · have h := gq_pos hp h
      refine go_rn 1 (pc' := 16) (L' := [some (.ref 141), some (.int x1), none, none]) (S' := [.int (-2 : Int32)]) (M' := M) okX9_whyNot rfl ?_
      exact go_iret (reX9_whyNot _ (by decide)) rfl (k0 (-2 : Int32) h)
    · have h := gq_neg hp h
      refine go_rn 1 (pc' := 18) (L' := [some (.ref 141), some (.int x1), none, none]) (S' := [.ref 141]) (M' := M) okX9_whyNot rfl ?_
      refine go_ck okX9_whyNot rfl (gOb_c rfl) ?_
      refine go_rn 1 (pc' := 22) (L' := [some (.ref 141), some (.int x1), none, none]) (S' := [.int x1, .ref 142]) (M' := M) okX9_whyNot rfl ?_
      obtain ⟨c5, h⟩ := gq_if h
      refine go_ck okX9_whyNot rfl c5 ?_
      refine go_rn 1 (pc' := 24) (L' := [some (.ref 141), some (.int x1), none, none]) (S' := [.int (-1 : Int32), .int (M.1 142 (Int32.toNatClampNeg x1))]) (M' := M) okX9_whyNot rfl ?_
      refine go_br okX9_whyNot rfl (fun hp => ?_) (fun hp => ?_)
      · have h := gq_pos hp h
        refine go_rn 1 (pc' := 29) (L' := [some (.ref 141), some (.int x1), none, none]) (S' := [.int (-6 : Int32)]) (M' := M) okX9_whyNot rfl ?_
        exact go_iret (reX9_whyNot _ (by decide)) rfl (k0 (-6 : Int32) h)
      · have h := gq_neg hp h
        refine go_rn 1 (pc' := 31) (L' := [some (.ref 141), some (.int x1), none, none]) (S' := [.ref 141]) (M' := M) okX9_whyNot rfl ?_
        refine go_ck okX9_whyNot rfl (gOb_c rfl) ?_
        refine go_rn 1 (pc' := 35) (L' := [some (.ref 141), some (.int x1), none, none]) (S' := [.int x1, .ref 143]) (M' := M) okX9_whyNot rfl ?_
        obtain ⟨c6, h⟩ := gq_if h
        refine go_ck okX9_whyNot rfl c6 ?_
        refine go_rn 2 (pc' := 38) (L' := [some (.ref 141), some (.int x1), none, none]) (S' := [.int ((M.1 143 (Int32.toNatClampNeg x1)) - (M.1 143 (Int32.toNatClampNeg x1)) / (3 : Int32) * (3 : Int32))]) (M' := M) okX9_whyNot rfl ?_
        refine go_br okX9_whyNot rfl (fun hp => ?_) (fun hp => ?_)
        · have h := gq_pos hp h
          refine go_rn 2 (pc' := 46) (L' := [some (.ref 141), some (.int x1), some (.int (0 : Int32)), none]) (S' := []) (M' := M) okX9_whyNot rfl ?_
          exact go_wk (CX9_whyNot_46h hd x1 (0 : Int32) M P k0 h) ⟨rfl, rfl, rfl, True.intro⟩
        · have h := gq_neg hp h
          refine go_rn 1 (pc' := 43) (L' := [some (.ref 141), some (.int x1), none, none]) (S' := [.int (-2 : Int32)]) (M' := M) okX9_whyNot rfl ?_
          exact go_iret (reX9_whyNot _ (by decide)) rfl (k0 (-2 : Int32) h)
def fX9_whyNot (a1 : Int32) (M : gMem) : Option (Int32) := fX9_whyNot_0 a1 M
theorem SX9_whyNot {G : gG} (a1 : Int32) (M : gMem) {r : Int32} (h : fX9_whyNot a1 M = some r) : gRun G YX9_whyNot 2 [.ref 141, .int a1] M (fun r' N' => r' = some (.int r) ∧ N' = M) := gRun_in (by decide +kernel) rfl (fun d hd => go_wk (CX9_whyNot_0 hd a1 M (fun p => p = r) (fun r hh => ⟨congrArg (fun z => some (Value.int z)) hh, rfl⟩) (gq_of h)) ⟨rfl, rfl, True.intro⟩)
def fX9_laysTrue_27 (s0 : Int32) (M : gMem) : Option (gMem) :=
  gB0 (fX9_runs s0 M) (fun M1 => some M1)
set_option maxRecDepth 100000 in
theorem CX9_laysTrue_27 {G : gG} {d : Nat} {Z : Option Value → gMem → Prop} (hd : 6 ≤ d) (s0 : Int32) (M : gMem) (P : gMem → Prop) (k0 : ∀ (N : gMem), P N → Z none N) (h : gOKq (fX9_laysTrue_27 s0 M) P) : gGo G YX9_laysTrue d Z 27 [none, none] [.int s0, .ref 141] M := by
  unfold fX9_laysTrue_27 at h
  obtain ⟨M1, e2, h⟩ := gB0_ok h
  refine go_call1 ocX9_laysTrue rfl rfl (gOb_c rfl) rfl (SX9_runs s0 M e2) (Nat.lt_of_lt_of_le (by decide) hd) ?_
  exact go_vret (reX9_laysTrue _ (by decide)) rfl (k0 M1 h)
def fX9_laysTrue_12 (x1 : Int32) (s1 : Int32) (M : gMem) : Option (gMem) :=
  gB0 (fX9_joins M) (fun r1 => fX9_laysTrue_27 (0 : Int32) (gSI M 141 25 (((s1 <<< (r1 &&& 31)) - (1 : Int32)) &&& (x1 ^^^ (-1 : Int32)))))
set_option maxRecDepth 100000 in
theorem CX9_laysTrue_12 {G : gG} {d : Nat} {Z : Option Value → gMem → Prop} (hd : 6 ≤ d) (x1 : Int32) (s1 : Int32) (M : gMem) (P : gMem → Prop) (k0 : ∀ (N : gMem), P N → Z none N) (h : gOKq (fX9_laysTrue_12 x1 s1 M) P) : gGo G YX9_laysTrue d Z 12 [some (.ref 141), some (.int x1)] [.ref 141, .int s1, .ref 141] M := by
  unfold fX9_laysTrue_12 at h
  obtain ⟨r1, e2, h⟩ := gB0_ok h
  refine go_call1 ocX9_laysTrue rfl rfl (gOb_c rfl) rfl (SX9_joins M e2) (Nat.lt_of_lt_of_le (by decide) hd) ?_
  refine go_rn 7 (pc' := 22) (L' := [some (.ref 141), some (.int x1)]) (S' := [.int (((s1 <<< (r1 &&& 31)) - (1 : Int32)) &&& (x1 ^^^ (-1 : Int32))), .ref 141]) (M' := M) okX9_laysTrue rfl ?_
  refine go_ck okX9_laysTrue rfl (gOb_c rfl) ?_
  refine go_rn 2 (pc' := 27) (L' := [some (.ref 141), some (.int x1)]) (S' := [.int (0 : Int32), .ref 141]) (M' := (gSI M 141 25 (((s1 <<< (r1 &&& 31)) - (1 : Int32)) &&& (x1 ^^^ (-1 : Int32))))) okX9_laysTrue rfl ?_
  exact go_wk (CX9_laysTrue_27 hd (0 : Int32) (gSI M 141 25 (((s1 <<< (r1 &&& 31)) - (1 : Int32)) &&& (x1 ^^^ (-1 : Int32)))) P k0 h) True.intro
def fX9_laysTrue_0 (x1 : Int32) (M : gMem) : Option (gMem) :=
  gB0 (fX9_lays M) (fun M1 => fX9_laysTrue_12 x1 (1 : Int32) (gSI M1 141 32 (0 : Int32)))
set_option maxRecDepth 100000 in
theorem CX9_laysTrue_0 {G : gG} {d : Nat} {Z : Option Value → gMem → Prop} (hd : 6 ≤ d) (x1 : Int32) (M : gMem) (P : gMem → Prop) (k0 : ∀ (N : gMem), P N → Z none N) (h : gOKq (fX9_laysTrue_0 x1 M) P) : gGo G YX9_laysTrue d Z 0 [some (.ref 141), some (.int x1)] [] M := by
  unfold fX9_laysTrue_0 at h
  refine go_rn 1 (pc' := 1) (L' := [some (.ref 141), some (.int x1)]) (S' := [.ref 141]) (M' := M) okX9_laysTrue rfl ?_
  obtain ⟨M1, e2, h⟩ := gB0_ok h
  refine go_call1 ocX9_laysTrue rfl rfl (gOb_c rfl) rfl (SX9_lays M e2) (Nat.lt_of_lt_of_le (by decide) hd) ?_
  refine go_rn 2 (pc' := 6) (L' := [some (.ref 141), some (.int x1)]) (S' := [.int (0 : Int32), .ref 141]) (M' := M1) okX9_laysTrue rfl ?_
  refine go_cc okX9_laysTrue rfl (gOb_c rfl) (Or.inl rfl) ?_
  refine go_rn 3 (pc' := 12) (L' := [some (.ref 141), some (.int x1)]) (S' := [.ref 141, .int (1 : Int32), .ref 141]) (M' := (gSI M1 141 32 (0 : Int32))) okX9_laysTrue rfl ?_
  exact go_wk (CX9_laysTrue_12 hd x1 (1 : Int32) (gSI M1 141 32 (0 : Int32)) P k0 h) ⟨rfl, rfl, True.intro⟩
def fX9_laysTrue (a1 : Int32) (M : gMem) : Option (gMem) := fX9_laysTrue_0 a1 M
theorem SX9_laysTrue {G : gG} (a1 : Int32) (M : gMem) {N : gMem} (h : fX9_laysTrue a1 M = some N) : gRun G YX9_laysTrue 6 [.ref 141, .int a1] M (fun r' N' => r' = none ∧ N' = N) := gRun_in (by decide +kernel) rfl (fun d hd => go_wk (CX9_laysTrue_0 hd a1 M (fun p => p = N) (fun N hh => ⟨rfl, hh⟩) (gq_of h)) ⟨rfl, rfl, True.intro⟩)
def fX9_isSo_58 (x1 : Int32) (x2 : Int32) (s0 : Int32) (s1 : Int32) (M : gMem) : Option (Sum (Int32) (Int32)) :=
  if s1 = s0 then some (.inl ((x2 + 3))) else some (.inr (0 : Int32))
set_option maxRecDepth 100000 in
theorem CX9_isSo_58 {G : gG} {d : Nat} {Z : Option Value → gMem → Prop} (hd : 4 ≤ d) (x1 : Int32) (x2 : Int32) (s0 : Int32) (s1 : Int32) (M : gMem) (P : Sum (Int32) (Int32) → Prop) (k0 : ∀ (r : Int32), P (.inr r) → Z (some (.int r)) M) (k1 : ∀ (x2 : Int32), P (.inl (x2)) → gGo G YX9_isSo d Z 2 [some (.ref 141), some (.int x1), some (.int x2), none] [] M) (h : gOKq (fX9_isSo_58 x1 x2 s0 s1 M) P) : gGo G YX9_isSo d Z 58 [some (.ref 141), some (.int x1), some (.int x2), none] [.int s0, .int s1] M := by
  unfold fX9_isSo_58 at h
  refine go_br okX9_isSo rfl (fun hp => ?_) (fun hp => ?_)
  · have h := gq_pos hp h
    refine go_rn 2 (pc' := 2) (L' := [some (.ref 141), some (.int x1), some (.int (x2 + 3)), none]) (S' := []) (M' := M) okX9_isSo rfl ?_
    exact go_wk (k1 ((x2 + 3)) h) ⟨rfl, rfl, rfl, True.intro⟩
  · have h := gq_neg hp h
    refine go_rn 1 (pc' := 62) (L' := [some (.ref 141), some (.int x1), some (.int x2), none]) (S' := [.int (0 : Int32)]) (M' := M) okX9_isSo rfl ?_
    exact go_zret (reX9_isSo _ (by decide)) rfl (Or.inl rfl) (k0 (0 : Int32) h)
def fX9_isSo_2 (x1 : Int32) (x2 : Int32) (M : gMem) : Option (Sum (Int32) (Int32)) :=
  if gIx 1 143 x1 = true then if (M.1 143 (Int32.toNatClampNeg x1)) ≤ x2 then some (.inr (1 : Int32)) else if gIx 4 144 (((60 : Int32) * x1) + x2) = true then if gIx 4 144 ((((60 : Int32) * x1) + x2) + (1 : Int32)) = true then gB0 (fX9_goesThrough (Int64.toInt32 (M.2.1 144 (Int32.toNatClampNeg (((60 : Int32) * x1) + x2)))) (Int64.toInt32 (M.2.1 144 (Int32.toNatClampNeg ((((60 : Int32) * x1) + x2) + (1 : Int32))))) (0 : Int32) M) (fun r4 => if gIx 4 144 ((((60 : Int32) * x1) + x2) + (2 : Int32)) = true then if (lg_cmp (M.2.1 144 (Int32.toNatClampNeg ((((60 : Int32) * x1) + x2) + (2 : Int32)))) (1 : Int64)) = 0 then fX9_isSo_58 x1 x2 (1 : Int32) r4 M else fX9_isSo_58 x1 x2 (0 : Int32) r4 M else none) else none else none else none
set_option maxRecDepth 100000 in
theorem CX9_isSo_2 {G : gG} {d : Nat} {Z : Option Value → gMem → Prop} (hd : 4 ≤ d) (x1 : Int32) (x2 : Int32) (M : gMem) (P : Sum (Int32) (Int32) → Prop) (k0 : ∀ (r : Int32), P (.inr r) → Z (some (.int r)) M) (k1 : ∀ (x2 : Int32), P (.inl (x2)) → gGo G YX9_isSo d Z 2 [some (.ref 141), some (.int x1), some (.int x2), none] [] M) (h : gOKq (fX9_isSo_2 x1 x2 M) P) : gGo G YX9_isSo d Z 2 [some (.ref 141), some (.int x1), some (.int x2), none] [] M := by
  unfold fX9_isSo_2 at h
  refine go_rn 2 (pc' := 4) (L' := [some (.ref 141), some (.int x1), some (.int x2), none]) (S' := [.ref 141, .int x2]) (M' := M) okX9_isSo rfl ?_
  refine go_ck okX9_isSo rfl (gOb_c rfl) ?_
  refine go_rn 1 (pc' := 8) (L' := [some (.ref 141), some (.int x1), some (.int x2), none]) (S' := [.int x1, .ref 143, .int x2]) (M' := M) okX9_isSo rfl ?_
  obtain ⟨c1, h⟩ := gq_if h
  refine go_ck okX9_isSo rfl c1 ?_
  refine go_br okX9_isSo rfl (fun hp => ?_) (fun hp => ?_)
  · have h := gq_pos hp h
    refine go_rn 1 (pc' := 70) (L' := [some (.ref 141), some (.int x1), some (.int x2), none]) (S' := [.int (1 : Int32)]) (M' := M) okX9_isSo rfl ?_
    exact go_zret (reX9_isSo _ (by decide)) rfl (Or.inr rfl) (k0 (1 : Int32) h)
  · have h := gq_neg hp h
    refine go_rn 8 (pc' := 21) (L' := [some (.ref 141), some (.int x1), some (.int x2), some (.int (((60 : Int32) * x1) + x2))]) (S' := [.ref 141, .ref 141]) (M' := M) okX9_isSo rfl ?_
    refine go_ck okX9_isSo rfl (gOb_c rfl) ?_
    refine go_rn 1 (pc' := 25) (L' := [some (.ref 141), some (.int x1), some (.int x2), some (.int (((60 : Int32) * x1) + x2))]) (S' := [.int (((60 : Int32) * x1) + x2), .ref 144, .ref 141]) (M' := M) okX9_isSo rfl ?_
    obtain ⟨c2, h⟩ := gq_if h
    refine go_ck okX9_isSo rfl c2 ?_
    refine go_rn 2 (pc' := 28) (L' := [some (.ref 141), some (.int x1), some (.int x2), some (.int (((60 : Int32) * x1) + x2))]) (S' := [.ref 141, .int (Int64.toInt32 (M.2.1 144 (Int32.toNatClampNeg (((60 : Int32) * x1) + x2)))), .ref 141]) (M' := M) okX9_isSo rfl ?_
    refine go_ck okX9_isSo rfl (gOb_c rfl) ?_
    refine go_rn 3 (pc' := 34) (L' := [some (.ref 141), some (.int x1), some (.int x2), some (.int (((60 : Int32) * x1) + x2))]) (S' := [.int ((((60 : Int32) * x1) + x2) + (1 : Int32)), .ref 144, .int (Int64.toInt32 (M.2.1 144 (Int32.toNatClampNeg (((60 : Int32) * x1) + x2)))), .ref 141]) (M' := M) okX9_isSo rfl ?_
    obtain ⟨c3, h⟩ := gq_if h
    refine go_ck okX9_isSo rfl c3 ?_
    refine go_rn 2 (pc' := 37) (L' := [some (.ref 141), some (.int x1), some (.int x2), some (.int (((60 : Int32) * x1) + x2))]) (S' := [.int (0 : Int32), .int (Int64.toInt32 (M.2.1 144 (Int32.toNatClampNeg ((((60 : Int32) * x1) + x2) + (1 : Int32))))), .int (Int64.toInt32 (M.2.1 144 (Int32.toNatClampNeg (((60 : Int32) * x1) + x2)))), .ref 141]) (M' := M) okX9_isSo rfl ?_
    obtain ⟨r4, e5, h⟩ := gB0_ok h
    refine go_call1 ocX9_isSo rfl rfl (gOb_c rfl) rfl (SX9_goesThrough (Int64.toInt32 (M.2.1 144 (Int32.toNatClampNeg (((60 : Int32) * x1) + x2)))) (Int64.toInt32 (M.2.1 144 (Int32.toNatClampNeg ((((60 : Int32) * x1) + x2) + (1 : Int32))))) (0 : Int32) M e5) (Nat.lt_of_lt_of_le (by decide) hd) ?_
    refine go_rn 1 (pc' := 41) (L' := [some (.ref 141), some (.int x1), some (.int x2), some (.int (((60 : Int32) * x1) + x2))]) (S' := [.ref 141, .int r4]) (M' := M) okX9_isSo rfl ?_
    refine go_ck okX9_isSo rfl (gOb_c rfl) ?_
    refine go_rn 3 (pc' := 47) (L' := [some (.ref 141), some (.int x1), some (.int x2), some (.int (((60 : Int32) * x1) + x2))]) (S' := [.int ((((60 : Int32) * x1) + x2) + (2 : Int32)), .ref 144, .int r4]) (M' := M) okX9_isSo rfl ?_
    obtain ⟨c6, h⟩ := gq_if h
    refine go_ck okX9_isSo rfl c6 ?_
    refine go_rn 2 (pc' := 50) (L' := [some (.ref 141), some (.int x1), some (.int x2), some (.int (((60 : Int32) * x1) + x2))]) (S' := [.int (lg_cmp (M.2.1 144 (Int32.toNatClampNeg ((((60 : Int32) * x1) + x2) + (2 : Int32)))) (1 : Int64)), .int r4]) (M' := M) okX9_isSo rfl ?_
    refine go_br okX9_isSo rfl (fun hp => ?_) (fun hp => ?_)
    · have h := gq_pos hp h
      refine go_rn 2 (pc' := 58) (L' := [some (.ref 141), some (.int x1), some (.int x2), some (.int (((60 : Int32) * x1) + x2))]) (S' := [.int (1 : Int32), .int r4]) (M' := M) okX9_isSo rfl ?_
      exact go_wk (CX9_isSo_58 hd x1 x2 (1 : Int32) r4 M P k0 k1 h) ⟨rfl, rfl, rfl, True.intro⟩
    · have h := gq_neg hp h
      refine go_rn 1 (pc' := 58) (L' := [some (.ref 141), some (.int x1), some (.int x2), some (.int (((60 : Int32) * x1) + x2))]) (S' := [.int (0 : Int32), .int r4]) (M' := M) okX9_isSo rfl ?_
      exact go_wk (CX9_isSo_58 hd x1 x2 (0 : Int32) r4 M P k0 k1 h) ⟨rfl, rfl, rfl, True.intro⟩
def fX9_isSo_2h (x1 : Int32) (x2 : Int32) (M : gMem) : Option (Int32) :=
  gLp (fun s : Int32 => fX9_isSo_2 x1 s M) gFu (x2)
set_option maxRecDepth 100000 in
theorem CX9_isSo_2h {G : gG} {d : Nat} {Z : Option Value → gMem → Prop} (hd : 4 ≤ d) (x1 : Int32) (x2 : Int32) (M : gMem) (P : Int32 → Prop) (k0 : ∀ (r : Int32), P r → Z (some (.int r)) M) (h : gOKq (fX9_isSo_2h x1 x2 M) P) : gGo G YX9_isSo d Z 2 [some (.ref 141), some (.int x1), some (.int x2), none] [] M :=
  gLp_go (K := fun s : Int32 => gGo G YX9_isSo d Z 2 [some (.ref 141), some (.int x1), some (.int s), none] [] M) (P := P) (fun s hs => CX9_isSo_2 hd (x1) (s) M (Sum.elim (fun s : Int32 => gGo G YX9_isSo d Z 2 [some (.ref 141), some (.int x1), some (.int s), none] [] M) P) k0 (fun x2 hh => hh) hs) gFu (x2) h
def fX9_isSo_0 (x1 : Int32) (M : gMem) : Option (Int32) :=
  fX9_isSo_2h x1 (0 : Int32) M
set_option maxRecDepth 100000 in
theorem CX9_isSo_0 {G : gG} {d : Nat} {Z : Option Value → gMem → Prop} (hd : 4 ≤ d) (x1 : Int32) (M : gMem) (P : Int32 → Prop) (k0 : ∀ (r : Int32), P r → Z (some (.int r)) M) (h : gOKq (fX9_isSo_0 x1 M) P) : gGo G YX9_isSo d Z 0 [some (.ref 141), some (.int x1), none, none] [] M := by
  unfold fX9_isSo_0 at h
  refine go_rn 2 (pc' := 2) (L' := [some (.ref 141), some (.int x1), some (.int (0 : Int32)), none]) (S' := []) (M' := M) okX9_isSo rfl ?_
  exact go_wk (CX9_isSo_2h hd x1 (0 : Int32) M P k0 h) ⟨rfl, rfl, rfl, True.intro⟩
def fX9_isSo (a1 : Int32) (M : gMem) : Option (Int32) := fX9_isSo_0 a1 M
theorem SX9_isSo {G : gG} (a1 : Int32) (M : gMem) {r : Int32} (h : fX9_isSo a1 M = some r) : gRun G YX9_isSo 4 [.ref 141, .int a1] M (fun r' N' => r' = some (.int r) ∧ N' = M) := gRun_in (by decide +kernel) rfl (fun d hd => go_wk (CX9_isSo_0 hd a1 M (fun p => p = r) (fun r hh => ⟨congrArg (fun z => some (Value.int z)) hh, rfl⟩) (gq_of h)) ⟨rfl, rfl, True.intro⟩)
def fX9_laysTrues_273 (x2 : Int32) (x3 : Int32) (s0 : Int32) (M : gMem) : Option (Sum (Int32 × gMem) (Sum (Int32 × gMem) (gMem))) :=
  some (.inl ((x3 + 1), (gSI M 141 47 s0)))
set_option maxRecDepth 100000 in
theorem CX9_laysTrues_273 {G : gG} {d : Nat} {Z : Option Value → gMem → Prop} (hd : 7 ≤ d) (x2 : Int32) (x3 : Int32) (s0 : Int32) (M : gMem) (P : Sum (Int32 × gMem) (Sum (Int32 × gMem) (gMem)) → Prop) (k0 : ∀ (N : gMem), P (.inr (.inr N)) → Z none N) (k1 : ∀ (x2 : Int32) (M : gMem), P (.inr (.inl (x2, M))) → gGo G YX9_laysTrues d Z 189 [some (.ref 141), none, some (.int x2), none, none, none] [] M) (k2 : ∀ (x3 : Int32) (M : gMem), P (.inl (x3, M)) → gGo G YX9_laysTrues d Z 199 [some (.ref 141), none, some (.int x2), some (.int x3), none, none] [] M) (h : gOKq (fX9_laysTrues_273 x2 x3 s0 M) P) : gGo G YX9_laysTrues d Z 273 [some (.ref 141), none, some (.int x2), some (.int x3), none, none] [.int s0, .ref 141] M := by
  unfold fX9_laysTrues_273 at h
  refine go_ck okX9_laysTrues rfl (gOb_c rfl) ?_
  refine go_rn 2 (pc' := 199) (L' := [some (.ref 141), none, some (.int x2), some (.int (x3 + 1)), none, none]) (S' := []) (M' := (gSI M 141 47 s0)) okX9_laysTrues rfl ?_
  exact go_wk (k2 ((x3 + 1)) (gSI M 141 47 s0) h) ⟨rfl, rfl, rfl, True.intro⟩
def fX9_laysTrues_246 (x2 : Int32) (x3 : Int32) (s0 : Int32) (M : gMem) : Option (Sum (Int32 × gMem) (Sum (Int32 × gMem) (gMem))) :=
  if s0 < (M.1 141 47) then fX9_laysTrues_273 x2 x3 s0 (gSI M 141 46 (((10 : Int32) * x2) + x3)) else some (.inl ((x3 + 1), M))
set_option maxRecDepth 100000 in
theorem CX9_laysTrues_246 {G : gG} {d : Nat} {Z : Option Value → gMem → Prop} (hd : 7 ≤ d) (x2 : Int32) (x3 : Int32) (s0 : Int32) (M : gMem) (P : Sum (Int32 × gMem) (Sum (Int32 × gMem) (gMem)) → Prop) (k0 : ∀ (N : gMem), P (.inr (.inr N)) → Z none N) (k1 : ∀ (x2 : Int32) (M : gMem), P (.inr (.inl (x2, M))) → gGo G YX9_laysTrues d Z 189 [some (.ref 141), none, some (.int x2), none, none, none] [] M) (k2 : ∀ (x3 : Int32) (M : gMem), P (.inl (x3, M)) → gGo G YX9_laysTrues d Z 199 [some (.ref 141), none, some (.int x2), some (.int x3), none, none] [] M) (h : gOKq (fX9_laysTrues_246 x2 x3 s0 M) P) : gGo G YX9_laysTrues d Z 246 [some (.ref 141), none, some (.int x2), some (.int x3), none, none] [.int s0] M := by
  unfold fX9_laysTrues_246 at h
  refine go_rn 3 (pc' := 251) (L' := [some (.ref 141), none, some (.int x2), some (.int x3), none, some (.int s0)]) (S' := [.ref 141, .int s0]) (M' := M) okX9_laysTrues rfl ?_
  refine go_ck okX9_laysTrues rfl (gOb_c rfl) ?_
  refine go_br okX9_laysTrues rfl (fun hp => ?_) (fun hp => ?_)
  · have h := gq_pos hp h
    refine go_rn 6 (pc' := 267) (L' := [some (.ref 141), none, some (.int x2), some (.int x3), none, some (.int s0)]) (S' := [.int (((10 : Int32) * x2) + x3), .ref 141]) (M' := M) okX9_laysTrues rfl ?_
    refine go_ck okX9_laysTrues rfl (gOb_c rfl) ?_
    refine go_rn 2 (pc' := 273) (L' := [some (.ref 141), none, some (.int x2), some (.int x3), none, some (.int s0)]) (S' := [.int s0, .ref 141]) (M' := (gSI M 141 46 (((10 : Int32) * x2) + x3))) okX9_laysTrues rfl ?_
    exact go_wk (CX9_laysTrues_273 hd x2 x3 s0 (gSI M 141 46 (((10 : Int32) * x2) + x3)) P k0 k1 k2 h) ⟨rfl, rfl, rfl, True.intro⟩
  · have h := gq_neg hp h
    refine go_rn 3 (pc' := 199) (L' := [some (.ref 141), none, some (.int x2), some (.int (x3 + 1)), none, some (.int s0)]) (S' := []) (M' := M) okX9_laysTrues rfl ?_
    exact go_wk (k2 ((x3 + 1)) M h) ⟨rfl, rfl, rfl, True.intro⟩
def fX9_laysTrues_199 (x2 : Int32) (x3 : Int32) (M : gMem) : Option (Sum (Int32 × gMem) (Sum (Int32 × gMem) (gMem))) :=
  if gIx 1 148 (6 : Int32) = true then if (M.1 148 (Int32.toNatClampNeg (6 : Int32))) ≤ x3 then some (.inr (.inl ((x2 + 1), M))) else if gIx 1 161 (((5 : Int32) * x2) + x3) = true then if (M.1 161 (Int32.toNatClampNeg (((5 : Int32) * x2) + x3))) ≤ ((M.1 141 43) - (M.1 161 (Int32.toNatClampNeg (((5 : Int32) * x2) + x3)))) then fX9_laysTrues_246 x2 x3 ((M.1 141 43) - (M.1 161 (Int32.toNatClampNeg (((5 : Int32) * x2) + x3)))) M else fX9_laysTrues_246 x2 x3 (M.1 161 (Int32.toNatClampNeg (((5 : Int32) * x2) + x3))) M else none else none
set_option maxRecDepth 100000 in
theorem CX9_laysTrues_199 {G : gG} {d : Nat} {Z : Option Value → gMem → Prop} (hd : 7 ≤ d) (x2 : Int32) (x3 : Int32) (M : gMem) (P : Sum (Int32 × gMem) (Sum (Int32 × gMem) (gMem)) → Prop) (k0 : ∀ (N : gMem), P (.inr (.inr N)) → Z none N) (k1 : ∀ (x2 : Int32) (M : gMem), P (.inr (.inl (x2, M))) → gGo G YX9_laysTrues d Z 189 [some (.ref 141), none, some (.int x2), none, none, none] [] M) (k2 : ∀ (x3 : Int32) (M : gMem), P (.inl (x3, M)) → gGo G YX9_laysTrues d Z 199 [some (.ref 141), none, some (.int x2), some (.int x3), none, none] [] M) (h : gOKq (fX9_laysTrues_199 x2 x3 M) P) : gGo G YX9_laysTrues d Z 199 [some (.ref 141), none, some (.int x2), some (.int x3), none, none] [] M := by
  unfold fX9_laysTrues_199 at h
  refine go_rn 2 (pc' := 201) (L' := [some (.ref 141), none, some (.int x2), some (.int x3), none, none]) (S' := [.ref 141, .int x3]) (M' := M) okX9_laysTrues rfl ?_
  refine go_ck okX9_laysTrues rfl (gOb_c rfl) ?_
  refine go_rn 1 (pc' := 206) (L' := [some (.ref 141), none, some (.int x2), some (.int x3), none, none]) (S' := [.int (6 : Int32), .ref 148, .int x3]) (M' := M) okX9_laysTrues rfl ?_
  obtain ⟨c1, h⟩ := gq_if h
  refine go_ck okX9_laysTrues rfl c1 ?_
  refine go_br okX9_laysTrues rfl (fun hp => ?_) (fun hp => ?_)
  · have h := gq_pos hp h
    refine go_rn 2 (pc' := 189) (L' := [some (.ref 141), none, some (.int (x2 + 1)), some (.int x3), none, none]) (S' := []) (M' := M) okX9_laysTrues rfl ?_
    exact go_wk (k1 ((x2 + 1)) M h) ⟨rfl, rfl, True.intro⟩
  · have h := gq_neg hp h
    refine go_rn 1 (pc' := 211) (L' := [some (.ref 141), none, some (.int x2), some (.int x3), none, none]) (S' := [.ref 141]) (M' := M) okX9_laysTrues rfl ?_
    refine go_ck okX9_laysTrues rfl (gOb_c rfl) ?_
    refine go_rn 5 (pc' := 219) (L' := [some (.ref 141), none, some (.int x2), some (.int x3), none, none]) (S' := [.int (((5 : Int32) * x2) + x3), .ref 161]) (M' := M) okX9_laysTrues rfl ?_
    obtain ⟨c2, h⟩ := gq_if h
    refine go_ck okX9_laysTrues rfl c2 ?_
    refine go_rn 3 (pc' := 225) (L' := [some (.ref 141), none, some (.int x2), some (.int x3), some (.int (M.1 161 (Int32.toNatClampNeg (((5 : Int32) * x2) + x3)))), none]) (S' := [.ref 141, .int (M.1 161 (Int32.toNatClampNeg (((5 : Int32) * x2) + x3)))]) (M' := M) okX9_laysTrues rfl ?_
    refine go_ck okX9_laysTrues rfl (gOb_c rfl) ?_
    refine go_rn 2 (pc' := 231) (L' := [some (.ref 141), none, some (.int x2), some (.int x3), some (.int (M.1 161 (Int32.toNatClampNeg (((5 : Int32) * x2) + x3)))), none]) (S' := [.int ((M.1 141 43) - (M.1 161 (Int32.toNatClampNeg (((5 : Int32) * x2) + x3)))), .int (M.1 161 (Int32.toNatClampNeg (((5 : Int32) * x2) + x3)))]) (M' := M) okX9_laysTrues rfl ?_
    refine go_br okX9_laysTrues rfl (fun hp => ?_) (fun hp => ?_)
    · have h := gq_pos hp h
      refine go_rn 1 (pc' := 240) (L' := [some (.ref 141), none, some (.int x2), some (.int x3), some (.int (M.1 161 (Int32.toNatClampNeg (((5 : Int32) * x2) + x3)))), none]) (S' := [.ref 141]) (M' := M) okX9_laysTrues rfl ?_
      refine go_ck okX9_laysTrues rfl (gOb_c rfl) ?_
      refine go_rn 2 (pc' := 246) (L' := [some (.ref 141), none, some (.int x2), some (.int x3), some (.int (M.1 161 (Int32.toNatClampNeg (((5 : Int32) * x2) + x3)))), none]) (S' := [.int ((M.1 141 43) - (M.1 161 (Int32.toNatClampNeg (((5 : Int32) * x2) + x3))))]) (M' := M) okX9_laysTrues rfl ?_
      exact go_wk (CX9_laysTrues_246 hd x2 x3 ((M.1 141 43) - (M.1 161 (Int32.toNatClampNeg (((5 : Int32) * x2) + x3)))) M P k0 k1 k2 h) ⟨rfl, rfl, rfl, True.intro⟩
    · have h := gq_neg hp h
      refine go_rn 2 (pc' := 246) (L' := [some (.ref 141), none, some (.int x2), some (.int x3), some (.int (M.1 161 (Int32.toNatClampNeg (((5 : Int32) * x2) + x3)))), none]) (S' := [.int (M.1 161 (Int32.toNatClampNeg (((5 : Int32) * x2) + x3)))]) (M' := M) okX9_laysTrues rfl ?_
      exact go_wk (CX9_laysTrues_246 hd x2 x3 (M.1 161 (Int32.toNatClampNeg (((5 : Int32) * x2) + x3))) M P k0 k1 k2 h) ⟨rfl, rfl, rfl, True.intro⟩
def fX9_laysTrues_199h (x2 : Int32) (x3 : Int32) (M : gMem) : Option (Sum (Int32 × gMem) (gMem)) :=
  gLp (fun s : Int32 × gMem => fX9_laysTrues_199 x2 (s.1) s.2) gFu (x3, M)
set_option maxRecDepth 100000 in
theorem CX9_laysTrues_199h {G : gG} {d : Nat} {Z : Option Value → gMem → Prop} (hd : 7 ≤ d) (x2 : Int32) (x3 : Int32) (M : gMem) (P : Sum (Int32 × gMem) (gMem) → Prop) (k0 : ∀ (N : gMem), P (.inr N) → Z none N) (k1 : ∀ (x2 : Int32) (M : gMem), P (.inl (x2, M)) → gGo G YX9_laysTrues d Z 189 [some (.ref 141), none, some (.int x2), none, none, none] [] M) (h : gOKq (fX9_laysTrues_199h x2 x3 M) P) : gGo G YX9_laysTrues d Z 199 [some (.ref 141), none, some (.int x2), some (.int x3), none, none] [] M :=
  gLp_go (K := fun s : Int32 × gMem => gGo G YX9_laysTrues d Z 199 [some (.ref 141), none, some (.int x2), some (.int s.1), none, none] [] s.2) (P := P) (fun s hs => CX9_laysTrues_199 hd (x2) (s.1) (s.2) (Sum.elim (fun s : Int32 × gMem => gGo G YX9_laysTrues d Z 199 [some (.ref 141), none, some (.int x2), some (.int s.1), none, none] [] s.2) P) k0 k1 (fun x3 M hh => hh) hs) gFu (x3, M) h
def fX9_laysTrues_189 (x2 : Int32) (M : gMem) : Option (Sum (Int32 × gMem) (gMem)) :=
  gB0 (fX9_people M) (fun r1 => if r1 ≤ x2 then some (.inr M) else fX9_laysTrues_199h x2 (0 : Int32) M)
set_option maxRecDepth 100000 in
theorem CX9_laysTrues_189 {G : gG} {d : Nat} {Z : Option Value → gMem → Prop} (hd : 7 ≤ d) (x2 : Int32) (M : gMem) (P : Sum (Int32 × gMem) (gMem) → Prop) (k0 : ∀ (N : gMem), P (.inr N) → Z none N) (k1 : ∀ (x2 : Int32) (M : gMem), P (.inl (x2, M)) → gGo G YX9_laysTrues d Z 189 [some (.ref 141), none, some (.int x2), none, none, none] [] M) (h : gOKq (fX9_laysTrues_189 x2 M) P) : gGo G YX9_laysTrues d Z 189 [some (.ref 141), none, some (.int x2), none, none, none] [] M := by
  unfold fX9_laysTrues_189 at h
  refine go_rn 2 (pc' := 191) (L' := [some (.ref 141), none, some (.int x2), none, none, none]) (S' := [.ref 141, .int x2]) (M' := M) okX9_laysTrues rfl ?_
  obtain ⟨r1, e2, h⟩ := gB0_ok h
  refine go_call1 ocX9_laysTrues rfl rfl (gOb_c rfl) rfl (SX9_people M e2) (Nat.lt_of_lt_of_le (by decide) hd) ?_
  refine go_br okX9_laysTrues rfl (fun hp => ?_) (fun hp => ?_)
  · have h := gq_pos hp h
    exact go_vret (reX9_laysTrues _ (by decide)) rfl (k0 M h)
  · have h := gq_neg hp h
    refine go_rn 2 (pc' := 199) (L' := [some (.ref 141), none, some (.int x2), some (.int (0 : Int32)), none, none]) (S' := []) (M' := M) okX9_laysTrues rfl ?_
    exact go_wk (CX9_laysTrues_199h hd x2 (0 : Int32) M P k0 k1 h) ⟨rfl, rfl, rfl, True.intro⟩
def fX9_laysTrues_189h (x2 : Int32) (M : gMem) : Option (gMem) :=
  gLp (fun s : Int32 × gMem => fX9_laysTrues_189 (s.1) s.2) gFu (x2, M)
set_option maxRecDepth 100000 in
theorem CX9_laysTrues_189h {G : gG} {d : Nat} {Z : Option Value → gMem → Prop} (hd : 7 ≤ d) (x2 : Int32) (M : gMem) (P : gMem → Prop) (k0 : ∀ (N : gMem), P N → Z none N) (h : gOKq (fX9_laysTrues_189h x2 M) P) : gGo G YX9_laysTrues d Z 189 [some (.ref 141), none, some (.int x2), none, none, none] [] M :=
  gLp_go (K := fun s : Int32 × gMem => gGo G YX9_laysTrues d Z 189 [some (.ref 141), none, some (.int s.1), none, none, none] [] s.2) (P := P) (fun s hs => CX9_laysTrues_189 hd (s.1) (s.2) (Sum.elim (fun s : Int32 × gMem => gGo G YX9_laysTrues d Z 189 [some (.ref 141), none, some (.int s.1), none, none, none] [] s.2) P) k0 (fun x2 M hh => hh) hs) gFu (x2, M) h
def fX9_laysTrues_181 (M : gMem) : Option (gMem) :=
  fX9_laysTrues_189h (0 : Int32) (gSI M 141 47 (M.1 141 43))
set_option maxRecDepth 100000 in
theorem CX9_laysTrues_181 {G : gG} {d : Nat} {Z : Option Value → gMem → Prop} (hd : 7 ≤ d) (M : gMem) (P : gMem → Prop) (k0 : ∀ (N : gMem), P N → Z none N) (h : gOKq (fX9_laysTrues_181 M) P) : gGo G YX9_laysTrues d Z 181 [some (.ref 141), none, none, none, none, none] [.ref 141, .ref 141] M := by
  unfold fX9_laysTrues_181 at h
  refine go_ck okX9_laysTrues rfl (gOb_c rfl) ?_
  refine go_ck okX9_laysTrues rfl (gOb_c rfl) ?_
  refine go_rn 2 (pc' := 189) (L' := [some (.ref 141), none, some (.int (0 : Int32)), none, none, none]) (S' := []) (M' := (gSI M 141 47 (M.1 141 43))) okX9_laysTrues rfl ?_
  exact go_wk (CX9_laysTrues_189h hd (0 : Int32) (gSI M 141 47 (M.1 141 43)) P k0 h) ⟨rfl, rfl, True.intro⟩
def fX9_laysTrues_154 (x1 : Int32) (x2 : Int32) (x3 : Int32) (x4 : Int32) (s0 : Int32) (s1 : Int32) (s2 : Int32) (M : gMem) : Option (Sum (Int32 × gMem) (Sum (Int32 × gMem) (Sum (Int32 × gMem) (gMem)))) :=
  if gIx 1 161 s2 = true then some (.inl ((x4 + 1), (gSI M 161 (Int32.toNatClampNeg s2) (s1 + s0)))) else none
set_option maxRecDepth 100000 in
theorem CX9_laysTrues_154 {G : gG} {d : Nat} {Z : Option Value → gMem → Prop} (hd : 7 ≤ d) (x1 : Int32) (x2 : Int32) (x3 : Int32) (x4 : Int32) (s0 : Int32) (s1 : Int32) (s2 : Int32) (M : gMem) (P : Sum (Int32 × gMem) (Sum (Int32 × gMem) (Sum (Int32 × gMem) (gMem))) → Prop) (k0 : ∀ (N : gMem), P (.inr (.inr (.inr N))) → Z none N) (k1 : ∀ (x2 : Int32) (M : gMem), P (.inr (.inr (.inl (x2, M)))) → gGo G YX9_laysTrues d Z 45 [some (.ref 141), some (.int x1), some (.int x2), none, none, none] [] M) (k2 : ∀ (x3 : Int32) (M : gMem), P (.inr (.inl (x3, M))) → gGo G YX9_laysTrues d Z 103 [some (.ref 141), some (.int x1), some (.int x2), some (.int x3), none, none] [] M) (k3 : ∀ (x4 : Int32) (M : gMem), P (.inl (x4, M)) → gGo G YX9_laysTrues d Z 114 [some (.ref 141), some (.int x1), some (.int x2), some (.int x3), some (.int x4), none] [] M) (h : gOKq (fX9_laysTrues_154 x1 x2 x3 x4 s0 s1 s2 M) P) : gGo G YX9_laysTrues d Z 154 [some (.ref 141), some (.int x1), some (.int x2), some (.int x3), some (.int x4), none] [.int s0, .int s1, .int s2, .ref 161] M := by
  unfold fX9_laysTrues_154 at h
  refine go_rn 1 (pc' := 155) (L' := [some (.ref 141), some (.int x1), some (.int x2), some (.int x3), some (.int x4), none]) (S' := [.int (s1 + s0), .int s2, .ref 161]) (M' := M) okX9_laysTrues rfl ?_
  obtain ⟨c1, h⟩ := gq_if h
  refine go_ck okX9_laysTrues rfl c1 ?_
  refine go_rn 2 (pc' := 114) (L' := [some (.ref 141), some (.int x1), some (.int x2), some (.int x3), some (.int (x4 + 1)), none]) (S' := []) (M' := (gSI M 161 (Int32.toNatClampNeg s2) (s1 + s0))) okX9_laysTrues rfl ?_
  exact go_wk (k3 ((x4 + 1)) (gSI M 161 (Int32.toNatClampNeg s2) (s1 + s0)) h) ⟨rfl, rfl, rfl, rfl, rfl, True.intro⟩
def fX9_laysTrues_114 (x1 : Int32) (x2 : Int32) (x3 : Int32) (x4 : Int32) (M : gMem) : Option (Sum (Int32 × gMem) (Sum (Int32 × gMem) (Sum (Int32 × gMem) (gMem)))) :=
  if gIx 1 148 (6 : Int32) = true then if (M.1 148 (Int32.toNatClampNeg (6 : Int32))) ≤ x4 then some (.inr (.inl ((x3 + 1), M))) else if gIx 1 161 (((5 : Int32) * x3) + x4) = true then gB0 (fX9_goesThrough x3 x4 (0 : Int32) M) (fun r3 => if r3 = 0 then fX9_laysTrues_154 x1 x2 x3 x4 (0 : Int32) (M.1 161 (Int32.toNatClampNeg (((5 : Int32) * x3) + x4))) (((5 : Int32) * x3) + x4) M else fX9_laysTrues_154 x1 x2 x3 x4 (1 : Int32) (M.1 161 (Int32.toNatClampNeg (((5 : Int32) * x3) + x4))) (((5 : Int32) * x3) + x4) M) else none else none
set_option maxRecDepth 100000 in
theorem CX9_laysTrues_114 {G : gG} {d : Nat} {Z : Option Value → gMem → Prop} (hd : 7 ≤ d) (x1 : Int32) (x2 : Int32) (x3 : Int32) (x4 : Int32) (M : gMem) (P : Sum (Int32 × gMem) (Sum (Int32 × gMem) (Sum (Int32 × gMem) (gMem))) → Prop) (k0 : ∀ (N : gMem), P (.inr (.inr (.inr N))) → Z none N) (k1 : ∀ (x2 : Int32) (M : gMem), P (.inr (.inr (.inl (x2, M)))) → gGo G YX9_laysTrues d Z 45 [some (.ref 141), some (.int x1), some (.int x2), none, none, none] [] M) (k2 : ∀ (x3 : Int32) (M : gMem), P (.inr (.inl (x3, M))) → gGo G YX9_laysTrues d Z 103 [some (.ref 141), some (.int x1), some (.int x2), some (.int x3), none, none] [] M) (k3 : ∀ (x4 : Int32) (M : gMem), P (.inl (x4, M)) → gGo G YX9_laysTrues d Z 114 [some (.ref 141), some (.int x1), some (.int x2), some (.int x3), some (.int x4), none] [] M) (h : gOKq (fX9_laysTrues_114 x1 x2 x3 x4 M) P) : gGo G YX9_laysTrues d Z 114 [some (.ref 141), some (.int x1), some (.int x2), some (.int x3), some (.int x4), none] [] M := by
  unfold fX9_laysTrues_114 at h
  refine go_rn 2 (pc' := 117) (L' := [some (.ref 141), some (.int x1), some (.int x2), some (.int x3), some (.int x4), none]) (S' := [.ref 141, .int x4]) (M' := M) okX9_laysTrues rfl ?_
  refine go_ck okX9_laysTrues rfl (gOb_c rfl) ?_
  refine go_rn 1 (pc' := 122) (L' := [some (.ref 141), some (.int x1), some (.int x2), some (.int x3), some (.int x4), none]) (S' := [.int (6 : Int32), .ref 148, .int x4]) (M' := M) okX9_laysTrues rfl ?_
  obtain ⟨c1, h⟩ := gq_if h
  refine go_ck okX9_laysTrues rfl c1 ?_
  refine go_br okX9_laysTrues rfl (fun hp => ?_) (fun hp => ?_)
  · have h := gq_pos hp h
    refine go_rn 2 (pc' := 103) (L' := [some (.ref 141), some (.int x1), some (.int x2), some (.int (x3 + 1)), some (.int x4), none]) (S' := []) (M' := M) okX9_laysTrues rfl ?_
    exact go_wk (k2 ((x3 + 1)) M h) ⟨rfl, rfl, rfl, rfl, True.intro⟩
  · have h := gq_neg hp h
    refine go_rn 1 (pc' := 127) (L' := [some (.ref 141), some (.int x1), some (.int x2), some (.int x3), some (.int x4), none]) (S' := [.ref 141]) (M' := M) okX9_laysTrues rfl ?_
    refine go_ck okX9_laysTrues rfl (gOb_c rfl) ?_
    refine go_rn 6 (pc' := 137) (L' := [some (.ref 141), some (.int x1), some (.int x2), some (.int x3), some (.int x4), none]) (S' := [.int (((5 : Int32) * x3) + x4), .ref 161, .int (((5 : Int32) * x3) + x4), .ref 161]) (M' := M) okX9_laysTrues rfl ?_
    obtain ⟨c2, h⟩ := gq_if h
    refine go_ck okX9_laysTrues rfl c2 ?_
    refine go_rn 4 (pc' := 143) (L' := [some (.ref 141), some (.int x1), some (.int x2), some (.int x3), some (.int x4), none]) (S' := [.int (0 : Int32), .int x4, .int x3, .ref 141, .int (M.1 161 (Int32.toNatClampNeg (((5 : Int32) * x3) + x4))), .int (((5 : Int32) * x3) + x4), .ref 161]) (M' := M) okX9_laysTrues rfl ?_
    obtain ⟨r3, e4, h⟩ := gB0_ok h
    refine go_call1 ocX9_laysTrues rfl rfl (gOb_c rfl) rfl (SX9_goesThrough x3 x4 (0 : Int32) M e4) (Nat.lt_of_lt_of_le (by decide) hd) ?_
    refine go_br okX9_laysTrues rfl (fun hp => ?_) (fun hp => ?_)
    · have h := gq_pos hp h
      refine go_rn 1 (pc' := 154) (L' := [some (.ref 141), some (.int x1), some (.int x2), some (.int x3), some (.int x4), none]) (S' := [.int (0 : Int32), .int (M.1 161 (Int32.toNatClampNeg (((5 : Int32) * x3) + x4))), .int (((5 : Int32) * x3) + x4), .ref 161]) (M' := M) okX9_laysTrues rfl ?_
      exact go_wk (CX9_laysTrues_154 hd x1 x2 x3 x4 (0 : Int32) (M.1 161 (Int32.toNatClampNeg (((5 : Int32) * x3) + x4))) (((5 : Int32) * x3) + x4) M P k0 k1 k2 k3 h) ⟨rfl, rfl, rfl, rfl, rfl, True.intro⟩
    · have h := gq_neg hp h
      refine go_rn 2 (pc' := 154) (L' := [some (.ref 141), some (.int x1), some (.int x2), some (.int x3), some (.int x4), none]) (S' := [.int (1 : Int32), .int (M.1 161 (Int32.toNatClampNeg (((5 : Int32) * x3) + x4))), .int (((5 : Int32) * x3) + x4), .ref 161]) (M' := M) okX9_laysTrues rfl ?_
      exact go_wk (CX9_laysTrues_154 hd x1 x2 x3 x4 (1 : Int32) (M.1 161 (Int32.toNatClampNeg (((5 : Int32) * x3) + x4))) (((5 : Int32) * x3) + x4) M P k0 k1 k2 k3 h) ⟨rfl, rfl, rfl, rfl, rfl, True.intro⟩
def fX9_laysTrues_114h (x1 : Int32) (x2 : Int32) (x3 : Int32) (x4 : Int32) (M : gMem) : Option (Sum (Int32 × gMem) (Sum (Int32 × gMem) (gMem))) :=
  gLp (fun s : Int32 × gMem => fX9_laysTrues_114 x1 x2 x3 (s.1) s.2) gFu (x4, M)
set_option maxRecDepth 100000 in
theorem CX9_laysTrues_114h {G : gG} {d : Nat} {Z : Option Value → gMem → Prop} (hd : 7 ≤ d) (x1 : Int32) (x2 : Int32) (x3 : Int32) (x4 : Int32) (M : gMem) (P : Sum (Int32 × gMem) (Sum (Int32 × gMem) (gMem)) → Prop) (k0 : ∀ (N : gMem), P (.inr (.inr N)) → Z none N) (k1 : ∀ (x2 : Int32) (M : gMem), P (.inr (.inl (x2, M))) → gGo G YX9_laysTrues d Z 45 [some (.ref 141), some (.int x1), some (.int x2), none, none, none] [] M) (k2 : ∀ (x3 : Int32) (M : gMem), P (.inl (x3, M)) → gGo G YX9_laysTrues d Z 103 [some (.ref 141), some (.int x1), some (.int x2), some (.int x3), none, none] [] M) (h : gOKq (fX9_laysTrues_114h x1 x2 x3 x4 M) P) : gGo G YX9_laysTrues d Z 114 [some (.ref 141), some (.int x1), some (.int x2), some (.int x3), some (.int x4), none] [] M :=
  gLp_go (K := fun s : Int32 × gMem => gGo G YX9_laysTrues d Z 114 [some (.ref 141), some (.int x1), some (.int x2), some (.int x3), some (.int s.1), none] [] s.2) (P := P) (fun s hs => CX9_laysTrues_114 hd (x1) (x2) (x3) (s.1) (s.2) (Sum.elim (fun s : Int32 × gMem => gGo G YX9_laysTrues d Z 114 [some (.ref 141), some (.int x1), some (.int x2), some (.int x3), some (.int s.1), none] [] s.2) P) k0 k1 k2 (fun x4 M hh => hh) hs) gFu (x4, M) h
def fX9_laysTrues_103 (x1 : Int32) (x2 : Int32) (x3 : Int32) (M : gMem) : Option (Sum (Int32 × gMem) (Sum (Int32 × gMem) (gMem))) :=
  gB0 (fX9_people M) (fun r1 => if r1 ≤ x3 then some (.inr (.inl ((x2 + 1), M))) else fX9_laysTrues_114h x1 x2 x3 (0 : Int32) M)
set_option maxRecDepth 100000 in
theorem CX9_laysTrues_103 {G : gG} {d : Nat} {Z : Option Value → gMem → Prop} (hd : 7 ≤ d) (x1 : Int32) (x2 : Int32) (x3 : Int32) (M : gMem) (P : Sum (Int32 × gMem) (Sum (Int32 × gMem) (gMem)) → Prop) (k0 : ∀ (N : gMem), P (.inr (.inr N)) → Z none N) (k1 : ∀ (x2 : Int32) (M : gMem), P (.inr (.inl (x2, M))) → gGo G YX9_laysTrues d Z 45 [some (.ref 141), some (.int x1), some (.int x2), none, none, none] [] M) (k2 : ∀ (x3 : Int32) (M : gMem), P (.inl (x3, M)) → gGo G YX9_laysTrues d Z 103 [some (.ref 141), some (.int x1), some (.int x2), some (.int x3), none, none] [] M) (h : gOKq (fX9_laysTrues_103 x1 x2 x3 M) P) : gGo G YX9_laysTrues d Z 103 [some (.ref 141), some (.int x1), some (.int x2), some (.int x3), none, none] [] M := by
  unfold fX9_laysTrues_103 at h
  refine go_rn 2 (pc' := 105) (L' := [some (.ref 141), some (.int x1), some (.int x2), some (.int x3), none, none]) (S' := [.ref 141, .int x3]) (M' := M) okX9_laysTrues rfl ?_
  obtain ⟨r1, e2, h⟩ := gB0_ok h
  refine go_call1 ocX9_laysTrues rfl rfl (gOb_c rfl) rfl (SX9_people M e2) (Nat.lt_of_lt_of_le (by decide) hd) ?_
  refine go_br okX9_laysTrues rfl (fun hp => ?_) (fun hp => ?_)
  · have h := gq_pos hp h
    refine go_rn 2 (pc' := 45) (L' := [some (.ref 141), some (.int x1), some (.int (x2 + 1)), some (.int x3), none, none]) (S' := []) (M' := M) okX9_laysTrues rfl ?_
    exact go_wk (k1 ((x2 + 1)) M h) ⟨rfl, rfl, rfl, True.intro⟩
  · have h := gq_neg hp h
    refine go_rn 2 (pc' := 114) (L' := [some (.ref 141), some (.int x1), some (.int x2), some (.int x3), some (.int (0 : Int32)), none]) (S' := []) (M' := M) okX9_laysTrues rfl ?_
    exact go_wk (CX9_laysTrues_114h hd x1 x2 x3 (0 : Int32) M P k0 k1 k2 h) ⟨rfl, rfl, rfl, rfl, rfl, True.intro⟩
def fX9_laysTrues_103h (x1 : Int32) (x2 : Int32) (x3 : Int32) (M : gMem) : Option (Sum (Int32 × gMem) (gMem)) :=
  gLp (fun s : Int32 × gMem => fX9_laysTrues_103 x1 x2 (s.1) s.2) gFu (x3, M)
set_option maxRecDepth 100000 in
theorem CX9_laysTrues_103h {G : gG} {d : Nat} {Z : Option Value → gMem → Prop} (hd : 7 ≤ d) (x1 : Int32) (x2 : Int32) (x3 : Int32) (M : gMem) (P : Sum (Int32 × gMem) (gMem) → Prop) (k0 : ∀ (N : gMem), P (.inr N) → Z none N) (k1 : ∀ (x2 : Int32) (M : gMem), P (.inl (x2, M)) → gGo G YX9_laysTrues d Z 45 [some (.ref 141), some (.int x1), some (.int x2), none, none, none] [] M) (h : gOKq (fX9_laysTrues_103h x1 x2 x3 M) P) : gGo G YX9_laysTrues d Z 103 [some (.ref 141), some (.int x1), some (.int x2), some (.int x3), none, none] [] M :=
  gLp_go (K := fun s : Int32 × gMem => gGo G YX9_laysTrues d Z 103 [some (.ref 141), some (.int x1), some (.int x2), some (.int s.1), none, none] [] s.2) (P := P) (fun s hs => CX9_laysTrues_103 hd (x1) (x2) (s.1) (s.2) (Sum.elim (fun s : Int32 × gMem => gGo G YX9_laysTrues d Z 103 [some (.ref 141), some (.int x1), some (.int x2), some (.int s.1), none, none] [] s.2) P) k0 k1 (fun x3 M hh => hh) hs) gFu (x3, M) h
def fX9_laysTrues_93 (x1 : Int32) (x2 : Int32) (M : gMem) : Option (Sum (Int32 × gMem) (gMem)) :=
  fX9_laysTrues_103h x1 x2 (0 : Int32) (gSI M 141 45 ((M.1 141 45) ||| x2))
set_option maxRecDepth 100000 in
theorem CX9_laysTrues_93 {G : gG} {d : Nat} {Z : Option Value → gMem → Prop} (hd : 7 ≤ d) (x1 : Int32) (x2 : Int32) (M : gMem) (P : Sum (Int32 × gMem) (gMem) → Prop) (k0 : ∀ (N : gMem), P (.inr N) → Z none N) (k1 : ∀ (x2 : Int32) (M : gMem), P (.inl (x2, M)) → gGo G YX9_laysTrues d Z 45 [some (.ref 141), some (.int x1), some (.int x2), none, none, none] [] M) (h : gOKq (fX9_laysTrues_93 x1 x2 M) P) : gGo G YX9_laysTrues d Z 93 [some (.ref 141), some (.int x1), some (.int x2), none, none, none] [.ref 141, .ref 141] M := by
  unfold fX9_laysTrues_93 at h
  refine go_ck okX9_laysTrues rfl (gOb_c rfl) ?_
  refine go_rn 2 (pc' := 98) (L' := [some (.ref 141), some (.int x1), some (.int x2), none, none, none]) (S' := [.int ((M.1 141 45) ||| x2), .ref 141]) (M' := M) okX9_laysTrues rfl ?_
  refine go_ck okX9_laysTrues rfl (gOb_c rfl) ?_
  refine go_rn 2 (pc' := 103) (L' := [some (.ref 141), some (.int x1), some (.int x2), some (.int (0 : Int32)), none, none]) (S' := []) (M' := (gSI M 141 45 ((M.1 141 45) ||| x2))) okX9_laysTrues rfl ?_
  exact go_wk (CX9_laysTrues_103h hd x1 x2 (0 : Int32) (gSI M 141 45 ((M.1 141 45) ||| x2)) P k0 k1 h) ⟨rfl, rfl, rfl, rfl, True.intro⟩
def fX9_laysTrues_83 (x1 : Int32) (x2 : Int32) (M : gMem) : Option (Sum (Int32 × gMem) (gMem)) :=
  fX9_laysTrues_93 x1 x2 (gSI M 141 44 ((M.1 141 44) &&& x2))
set_option maxRecDepth 100000 in
theorem CX9_laysTrues_83 {G : gG} {d : Nat} {Z : Option Value → gMem → Prop} (hd : 7 ≤ d) (x1 : Int32) (x2 : Int32) (M : gMem) (P : Sum (Int32 × gMem) (gMem) → Prop) (k0 : ∀ (N : gMem), P (.inr N) → Z none N) (k1 : ∀ (x2 : Int32) (M : gMem), P (.inl (x2, M)) → gGo G YX9_laysTrues d Z 45 [some (.ref 141), some (.int x1), some (.int x2), none, none, none] [] M) (h : gOKq (fX9_laysTrues_83 x1 x2 M) P) : gGo G YX9_laysTrues d Z 83 [some (.ref 141), some (.int x1), some (.int x2), none, none, none] [.ref 141, .ref 141] M := by
  unfold fX9_laysTrues_83 at h
  refine go_ck okX9_laysTrues rfl (gOb_c rfl) ?_
  refine go_rn 2 (pc' := 88) (L' := [some (.ref 141), some (.int x1), some (.int x2), none, none, none]) (S' := [.int ((M.1 141 44) &&& x2), .ref 141]) (M' := M) okX9_laysTrues rfl ?_
  refine go_ck okX9_laysTrues rfl (gOb_c rfl) ?_
  refine go_rn 2 (pc' := 93) (L' := [some (.ref 141), some (.int x1), some (.int x2), none, none, none]) (S' := [.ref 141, .ref 141]) (M' := (gSI M 141 44 ((M.1 141 44) &&& x2))) okX9_laysTrues rfl ?_
  exact go_wk (CX9_laysTrues_93 hd x1 x2 (gSI M 141 44 ((M.1 141 44) &&& x2)) P k0 k1 h) ⟨rfl, rfl, rfl, True.intro⟩
def fX9_laysTrues_45 (x1 : Int32) (x2 : Int32) (M : gMem) : Option (Sum (Int32 × gMem) (gMem)) :=
  gB0 (fX9_joins M) (fun r1 => if ((1 : Int32) <<< (r1 &&& 31)) ≤ x2 then gEx (fX9_laysTrues_181 (gSI M 141 46 (-1 : Int32))) else gB0 (fX9_laysTrue x2 M) (fun M3 => gB0 (fX9_isSo x1 M3) (fun r5 => if r5 = 0 then some (.inl ((x2 + 1), M3)) else fX9_laysTrues_83 x1 x2 (gSI M3 141 43 ((M3.1 141 43) + (1 : Int32))))))
set_option maxRecDepth 100000 in
theorem CX9_laysTrues_45 {G : gG} {d : Nat} {Z : Option Value → gMem → Prop} (hd : 7 ≤ d) (x1 : Int32) (x2 : Int32) (M : gMem) (P : Sum (Int32 × gMem) (gMem) → Prop) (k0 : ∀ (N : gMem), P (.inr N) → Z none N) (k1 : ∀ (x2 : Int32) (M : gMem), P (.inl (x2, M)) → gGo G YX9_laysTrues d Z 45 [some (.ref 141), some (.int x1), some (.int x2), none, none, none] [] M) (h : gOKq (fX9_laysTrues_45 x1 x2 M) P) : gGo G YX9_laysTrues d Z 45 [some (.ref 141), some (.int x1), some (.int x2), none, none, none] [] M := by
  unfold fX9_laysTrues_45 at h
  refine go_rn 3 (pc' := 48) (L' := [some (.ref 141), some (.int x1), some (.int x2), none, none, none]) (S' := [.ref 141, .int (1 : Int32), .int x2]) (M' := M) okX9_laysTrues rfl ?_
  obtain ⟨r1, e2, h⟩ := gB0_ok h
  refine go_call1 ocX9_laysTrues rfl rfl (gOb_c rfl) rfl (SX9_joins M e2) (Nat.lt_of_lt_of_le (by decide) hd) ?_
  refine go_rn 1 (pc' := 52) (L' := [some (.ref 141), some (.int x1), some (.int x2), none, none, none]) (S' := [.int ((1 : Int32) <<< (r1 &&& 31)), .int x2]) (M' := M) okX9_laysTrues rfl ?_
  refine go_br okX9_laysTrues rfl (fun hp => ?_) (fun hp => ?_)
  · have h := gq_pos hp h
    refine go_rn 2 (pc' := 176) (L' := [some (.ref 141), some (.int x1), some (.int x2), none, none, none]) (S' := [.int (-1 : Int32), .ref 141]) (M' := M) okX9_laysTrues rfl ?_
    refine go_ck okX9_laysTrues rfl (gOb_c rfl) ?_
    refine go_rn 2 (pc' := 181) (L' := [some (.ref 141), some (.int x1), some (.int x2), none, none, none]) (S' := [.ref 141, .ref 141]) (M' := (gSI M 141 46 (-1 : Int32))) okX9_laysTrues rfl ?_
    exact go_wk (CX9_laysTrues_181 hd (gSI M 141 46 (-1 : Int32)) (fun q => P (.inr q)) k0 (gEx_ok h)) ⟨rfl, True.intro⟩
  · have h := gq_neg hp h
    refine go_rn 2 (pc' := 57) (L' := [some (.ref 141), some (.int x1), some (.int x2), none, none, none]) (S' := [.int x2, .ref 141]) (M' := M) okX9_laysTrues rfl ?_
    obtain ⟨M3, e4, h⟩ := gB0_ok h
    refine go_call1 ocX9_laysTrues rfl rfl (gOb_c rfl) rfl (SX9_laysTrue x2 M e4) (Nat.lt_of_lt_of_le (by decide) hd) ?_
    refine go_rn 2 (pc' := 62) (L' := [some (.ref 141), some (.int x1), some (.int x2), none, none, none]) (S' := [.int x1, .ref 141]) (M' := M3) okX9_laysTrues rfl ?_
    obtain ⟨r5, e6, h⟩ := gB0_ok h
    refine go_call1 ocX9_laysTrues rfl rfl (gOb_c rfl) rfl (SX9_isSo x1 M3 e6) (Nat.lt_of_lt_of_le (by decide) hd) ?_
    refine go_br okX9_laysTrues rfl (fun hp => ?_) (fun hp => ?_)
    · have h := gq_pos hp h
      refine go_rn 3 (pc' := 45) (L' := [some (.ref 141), some (.int x1), some (.int (x2 + 1)), none, none, none]) (S' := []) (M' := M3) okX9_laysTrues rfl ?_
      exact go_wk (k1 ((x2 + 1)) M3 h) ⟨rfl, rfl, rfl, True.intro⟩
    · have h := gq_neg hp h
      refine go_rn 2 (pc' := 73) (L' := [some (.ref 141), some (.int x1), some (.int x2), none, none, none]) (S' := [.ref 141, .ref 141]) (M' := M3) okX9_laysTrues rfl ?_
      refine go_ck okX9_laysTrues rfl (gOb_c rfl) ?_
      refine go_rn 2 (pc' := 78) (L' := [some (.ref 141), some (.int x1), some (.int x2), none, none, none]) (S' := [.int ((M3.1 141 43) + (1 : Int32)), .ref 141]) (M' := M3) okX9_laysTrues rfl ?_
      refine go_ck okX9_laysTrues rfl (gOb_c rfl) ?_
      refine go_rn 2 (pc' := 83) (L' := [some (.ref 141), some (.int x1), some (.int x2), none, none, none]) (S' := [.ref 141, .ref 141]) (M' := (gSI M3 141 43 ((M3.1 141 43) + (1 : Int32)))) okX9_laysTrues rfl ?_
      exact go_wk (CX9_laysTrues_83 hd x1 x2 (gSI M3 141 43 ((M3.1 141 43) + (1 : Int32))) P k0 k1 h) ⟨rfl, rfl, rfl, True.intro⟩
def fX9_laysTrues_45h (x1 : Int32) (x2 : Int32) (M : gMem) : Option (gMem) :=
  gLp (fun s : Int32 × gMem => fX9_laysTrues_45 x1 (s.1) s.2) gFu (x2, M)
set_option maxRecDepth 100000 in
theorem CX9_laysTrues_45h {G : gG} {d : Nat} {Z : Option Value → gMem → Prop} (hd : 7 ≤ d) (x1 : Int32) (x2 : Int32) (M : gMem) (P : gMem → Prop) (k0 : ∀ (N : gMem), P N → Z none N) (h : gOKq (fX9_laysTrues_45h x1 x2 M) P) : gGo G YX9_laysTrues d Z 45 [some (.ref 141), some (.int x1), some (.int x2), none, none, none] [] M :=
  gLp_go (K := fun s : Int32 × gMem => gGo G YX9_laysTrues d Z 45 [some (.ref 141), some (.int x1), some (.int s.1), none, none, none] [] s.2) (P := P) (fun s hs => CX9_laysTrues_45 hd (x1) (s.1) (s.2) (Sum.elim (fun s : Int32 × gMem => gGo G YX9_laysTrues d Z 45 [some (.ref 141), some (.int x1), some (.int s.1), none, none, none] [] s.2) P) k0 (fun x2 M hh => hh) hs) gFu (x2, M) h
def fX9_laysTrues_24 (x1 : Int32) (x2 : Int32) (M : gMem) : Option (Sum (Int32 × gMem) (gMem)) :=
  if (30 : Int32) ≤ x2 then gEx (fX9_laysTrues_45h x1 (0 : Int32) M) else if gIx 1 161 x2 = true then some (.inl ((x2 + 1), (gSI M 161 (Int32.toNatClampNeg x2) (0 : Int32)))) else none
set_option maxRecDepth 100000 in
theorem CX9_laysTrues_24 {G : gG} {d : Nat} {Z : Option Value → gMem → Prop} (hd : 7 ≤ d) (x1 : Int32) (x2 : Int32) (M : gMem) (P : Sum (Int32 × gMem) (gMem) → Prop) (k0 : ∀ (N : gMem), P (.inr N) → Z none N) (k1 : ∀ (x2 : Int32) (M : gMem), P (.inl (x2, M)) → gGo G YX9_laysTrues d Z 24 [some (.ref 141), some (.int x1), some (.int x2), none, none, none] [] M) (h : gOKq (fX9_laysTrues_24 x1 x2 M) P) : gGo G YX9_laysTrues d Z 24 [some (.ref 141), some (.int x1), some (.int x2), none, none, none] [] M := by
  unfold fX9_laysTrues_24 at h
  refine go_rn 2 (pc' := 27) (L' := [some (.ref 141), some (.int x1), some (.int x2), none, none, none]) (S' := [.int (30 : Int32), .int x2]) (M' := M) okX9_laysTrues rfl ?_
  refine go_br okX9_laysTrues rfl (fun hp => ?_) (fun hp => ?_)
  · have h := gq_pos hp h
    refine go_rn 2 (pc' := 45) (L' := [some (.ref 141), some (.int x1), some (.int (0 : Int32)), none, none, none]) (S' := []) (M' := M) okX9_laysTrues rfl ?_
    exact go_wk (CX9_laysTrues_45h hd x1 (0 : Int32) M (fun q => P (.inr q)) k0 (gEx_ok h)) ⟨rfl, rfl, rfl, True.intro⟩
  · have h := gq_neg hp h
    refine go_rn 1 (pc' := 31) (L' := [some (.ref 141), some (.int x1), some (.int x2), none, none, none]) (S' := [.ref 141]) (M' := M) okX9_laysTrues rfl ?_
    refine go_ck okX9_laysTrues rfl (gOb_c rfl) ?_
    refine go_rn 2 (pc' := 36) (L' := [some (.ref 141), some (.int x1), some (.int x2), none, none, none]) (S' := [.int (0 : Int32), .int x2, .ref 161]) (M' := M) okX9_laysTrues rfl ?_
    obtain ⟨c1, h⟩ := gq_if h
    refine go_ck okX9_laysTrues rfl c1 ?_
    refine go_rn 2 (pc' := 24) (L' := [some (.ref 141), some (.int x1), some (.int (x2 + 1)), none, none, none]) (S' := []) (M' := (gSI M 161 (Int32.toNatClampNeg x2) (0 : Int32))) okX9_laysTrues rfl ?_
    exact go_wk (k1 ((x2 + 1)) (gSI M 161 (Int32.toNatClampNeg x2) (0 : Int32)) h) ⟨rfl, rfl, rfl, True.intro⟩
def fX9_laysTrues_24h (x1 : Int32) (x2 : Int32) (M : gMem) : Option (gMem) :=
  gLp (fun s : Int32 × gMem => fX9_laysTrues_24 x1 (s.1) s.2) gFu (x2, M)
set_option maxRecDepth 100000 in
theorem CX9_laysTrues_24h {G : gG} {d : Nat} {Z : Option Value → gMem → Prop} (hd : 7 ≤ d) (x1 : Int32) (x2 : Int32) (M : gMem) (P : gMem → Prop) (k0 : ∀ (N : gMem), P N → Z none N) (h : gOKq (fX9_laysTrues_24h x1 x2 M) P) : gGo G YX9_laysTrues d Z 24 [some (.ref 141), some (.int x1), some (.int x2), none, none, none] [] M :=
  gLp_go (K := fun s : Int32 × gMem => gGo G YX9_laysTrues d Z 24 [some (.ref 141), some (.int x1), some (.int s.1), none, none, none] [] s.2) (P := P) (fun s hs => CX9_laysTrues_24 hd (x1) (s.1) (s.2) (Sum.elim (fun s : Int32 × gMem => gGo G YX9_laysTrues d Z 24 [some (.ref 141), some (.int x1), some (.int s.1), none, none, none] [] s.2) P) k0 (fun x2 M hh => hh) hs) gFu (x2, M) h
def fX9_laysTrues_19 (x1 : Int32) (s0 : Int32) (M : gMem) : Option (gMem) :=
  fX9_laysTrues_24h x1 (0 : Int32) (gSI M 141 45 s0)
set_option maxRecDepth 100000 in
theorem CX9_laysTrues_19 {G : gG} {d : Nat} {Z : Option Value → gMem → Prop} (hd : 7 ≤ d) (x1 : Int32) (s0 : Int32) (M : gMem) (P : gMem → Prop) (k0 : ∀ (N : gMem), P N → Z none N) (h : gOKq (fX9_laysTrues_19 x1 s0 M) P) : gGo G YX9_laysTrues d Z 19 [some (.ref 141), some (.int x1), none, none, none, none] [.int s0, .ref 141] M := by
  unfold fX9_laysTrues_19 at h
  refine go_ck okX9_laysTrues rfl (gOb_c rfl) ?_
  refine go_rn 2 (pc' := 24) (L' := [some (.ref 141), some (.int x1), some (.int (0 : Int32)), none, none, none]) (S' := []) (M' := (gSI M 141 45 s0)) okX9_laysTrues rfl ?_
  exact go_wk (CX9_laysTrues_24h hd x1 (0 : Int32) (gSI M 141 45 s0) P k0 h) ⟨rfl, rfl, rfl, True.intro⟩
def fX9_laysTrues_8 (x1 : Int32) (s1 : Int32) (M : gMem) : Option (gMem) :=
  gB0 (fX9_joins M) (fun r1 => fX9_laysTrues_19 x1 (0 : Int32) (gSI M 141 44 ((s1 <<< (r1 &&& 31)) - (1 : Int32))))
set_option maxRecDepth 100000 in
theorem CX9_laysTrues_8 {G : gG} {d : Nat} {Z : Option Value → gMem → Prop} (hd : 7 ≤ d) (x1 : Int32) (s1 : Int32) (M : gMem) (P : gMem → Prop) (k0 : ∀ (N : gMem), P N → Z none N) (h : gOKq (fX9_laysTrues_8 x1 s1 M) P) : gGo G YX9_laysTrues d Z 8 [some (.ref 141), some (.int x1), none, none, none, none] [.ref 141, .int s1, .ref 141] M := by
  unfold fX9_laysTrues_8 at h
  obtain ⟨r1, e2, h⟩ := gB0_ok h
  refine go_call1 ocX9_laysTrues rfl rfl (gOb_c rfl) rfl (SX9_joins M e2) (Nat.lt_of_lt_of_le (by decide) hd) ?_
  refine go_rn 3 (pc' := 14) (L' := [some (.ref 141), some (.int x1), none, none, none, none]) (S' := [.int ((s1 <<< (r1 &&& 31)) - (1 : Int32)), .ref 141]) (M' := M) okX9_laysTrues rfl ?_
  refine go_ck okX9_laysTrues rfl (gOb_c rfl) ?_
  refine go_rn 2 (pc' := 19) (L' := [some (.ref 141), some (.int x1), none, none, none, none]) (S' := [.int (0 : Int32), .ref 141]) (M' := (gSI M 141 44 ((s1 <<< (r1 &&& 31)) - (1 : Int32)))) okX9_laysTrues rfl ?_
  exact go_wk (CX9_laysTrues_19 hd x1 (0 : Int32) (gSI M 141 44 ((s1 <<< (r1 &&& 31)) - (1 : Int32))) P k0 h) ⟨rfl, rfl, True.intro⟩
def fX9_laysTrues_0 (x1 : Int32) (M : gMem) : Option (gMem) :=
  fX9_laysTrues_8 x1 (1 : Int32) (gSI M 141 43 (0 : Int32))
set_option maxRecDepth 100000 in
theorem CX9_laysTrues_0 {G : gG} {d : Nat} {Z : Option Value → gMem → Prop} (hd : 7 ≤ d) (x1 : Int32) (M : gMem) (P : gMem → Prop) (k0 : ∀ (N : gMem), P N → Z none N) (h : gOKq (fX9_laysTrues_0 x1 M) P) : gGo G YX9_laysTrues d Z 0 [some (.ref 141), some (.int x1), none, none, none, none] [] M := by
  unfold fX9_laysTrues_0 at h
  refine go_rn 2 (pc' := 2) (L' := [some (.ref 141), some (.int x1), none, none, none, none]) (S' := [.int (0 : Int32), .ref 141]) (M' := M) okX9_laysTrues rfl ?_
  refine go_ck okX9_laysTrues rfl (gOb_c rfl) ?_
  refine go_rn 3 (pc' := 8) (L' := [some (.ref 141), some (.int x1), none, none, none, none]) (S' := [.ref 141, .int (1 : Int32), .ref 141]) (M' := (gSI M 141 43 (0 : Int32))) okX9_laysTrues rfl ?_
  exact go_wk (CX9_laysTrues_8 hd x1 (1 : Int32) (gSI M 141 43 (0 : Int32)) P k0 h) ⟨rfl, rfl, True.intro⟩
def fX9_laysTrues (a1 : Int32) (M : gMem) : Option (gMem) := fX9_laysTrues_0 a1 M
theorem SX9_laysTrues {G : gG} (a1 : Int32) (M : gMem) {N : gMem} (h : fX9_laysTrues a1 M = some N) : gRun G YX9_laysTrues 7 [.ref 141, .int a1] M (fun r' N' => r' = none ∧ N' = N) := gRun_in (by decide +kernel) rfl (fun d hd => go_wk (CX9_laysTrues_0 hd a1 M (fun p => p = N) (fun N hh => ⟨rfl, hh⟩) (gq_of h)) ⟨rfl, rfl, True.intro⟩)
def fX9_trues_7 (x1 : Int32) (s0 : Int32) (M : gMem) : Option (Int32 × gMem) :=
  gB0 (fX9_whyNot s0 M) (fun r1 => if r1 = 0 then gB0 (fX9_laysTrues x1 M) (fun M3 => some ((M3.1 141 43), M3)) else some (r1, M))
set_option maxRecDepth 100000 in
theorem CX9_trues_7 {G : gG} {d : Nat} {Z : Option Value → gMem → Prop} (hd : 8 ≤ d) (x1 : Int32) (s0 : Int32) (M : gMem) (P : Int32 × gMem → Prop) (k0 : ∀ (r : Int32) (N : gMem), P (r, N) → Z (some (.int r)) N) (h : gOKq (fX9_trues_7 x1 s0 M) P) : gGo G YX9_trues d Z 7 [some (.ref 141), some (.int x1), none] [.int s0, .ref 141] M := by
  unfold fX9_trues_7 at h
  obtain ⟨r1, e2, h⟩ := gB0_ok h
  refine go_call1 ocX9_trues rfl rfl (gOb_c rfl) rfl (SX9_whyNot s0 M e2) (Nat.lt_of_lt_of_le (by decide) hd) ?_
  refine go_rn 2 (pc' := 12) (L' := [some (.ref 141), some (.int x1), some (.int r1)]) (S' := [.int r1]) (M' := M) okX9_trues rfl ?_
  refine go_br okX9_trues rfl (fun hp => ?_) (fun hp => ?_)
  · have h := gq_pos hp h
    refine go_rn 2 (pc' := 19) (L' := [some (.ref 141), some (.int x1), some (.int r1)]) (S' := [.int x1, .ref 141]) (M' := M) okX9_trues rfl ?_
    obtain ⟨M3, e4, h⟩ := gB0_ok h
    refine go_call1 ocX9_trues rfl rfl (gOb_c rfl) rfl (SX9_laysTrues x1 M e4) (Nat.lt_of_lt_of_le (by decide) hd) ?_
    refine go_rn 1 (pc' := 23) (L' := [some (.ref 141), some (.int x1), some (.int r1)]) (S' := [.ref 141]) (M' := M3) okX9_trues rfl ?_
    refine go_ck okX9_trues rfl (gOb_c rfl) ?_
    exact go_iret (reX9_trues _ (by decide)) rfl (k0 (M3.1 141 43) M3 h)
  · have h := gq_neg hp h
    refine go_rn 1 (pc' := 16) (L' := [some (.ref 141), some (.int x1), some (.int r1)]) (S' := [.int r1]) (M' := M) okX9_trues rfl ?_
    exact go_iret (reX9_trues _ (by decide)) rfl (k0 r1 M h)
def fX9_trues_0 (x1 : Int32) (M : gMem) : Option (Int32 × gMem) :=
  fX9_trues_7 x1 x1 (gSI M 141 0 (0 : Int32))
set_option maxRecDepth 100000 in
theorem CX9_trues_0 {G : gG} {d : Nat} {Z : Option Value → gMem → Prop} (hd : 8 ≤ d) (x1 : Int32) (M : gMem) (P : Int32 × gMem → Prop) (k0 : ∀ (r : Int32) (N : gMem), P (r, N) → Z (some (.int r)) N) (h : gOKq (fX9_trues_0 x1 M) P) : gGo G YX9_trues d Z 0 [some (.ref 141), some (.int x1), none] [] M := by
  unfold fX9_trues_0 at h
  refine go_rn 2 (pc' := 2) (L' := [some (.ref 141), some (.int x1), none]) (S' := [.int (0 : Int32), .ref 141]) (M' := M) okX9_trues rfl ?_
  refine go_ck okX9_trues rfl (gOb_c rfl) ?_
  refine go_rn 2 (pc' := 7) (L' := [some (.ref 141), some (.int x1), none]) (S' := [.int x1, .ref 141]) (M' := (gSI M 141 0 (0 : Int32))) okX9_trues rfl ?_
  exact go_wk (CX9_trues_7 hd x1 x1 (gSI M 141 0 (0 : Int32)) P k0 h) ⟨rfl, rfl, True.intro⟩
def fX9_trues (a1 : Int32) (M : gMem) : Option (Int32 × gMem) := fX9_trues_0 a1 M
theorem SX9_trues {G : gG} (a1 : Int32) (M : gMem) {r : Int32} {N : gMem} (h : fX9_trues a1 M = some (r, N)) : gRun G YX9_trues 8 [.ref 141, .int a1] M (fun r' N' => r' = some (.int r) ∧ N' = N) := gRun_in (by decide +kernel) rfl (fun d hd => go_wk (CX9_trues_0 hd a1 M (fun p => p = (r, N)) (fun r N hh => by cases hh; exact ⟨rfl, rfl⟩) (gq_of h)) ⟨rfl, rfl, True.intro⟩)
def fX9_surely_7 (x1 : Int32) (s0 : Int32) (M : gMem) : Option (Int32 × gMem) :=
  gB0 (fX9_whyNot s0 M) (fun r1 => if r1 = 0 then gB0 (fX9_laysTrues x1 M) (fun M3 => if (M3.1 141 43) = 0 then some ((-1 : Int32), M3) else some ((M3.1 141 44), M3)) else some (r1, M))
set_option maxRecDepth 100000 in
theorem CX9_surely_7 {G : gG} {d : Nat} {Z : Option Value → gMem → Prop} (hd : 8 ≤ d) (x1 : Int32) (s0 : Int32) (M : gMem) (P : Int32 × gMem → Prop) (k0 : ∀ (r : Int32) (N : gMem), P (r, N) → Z (some (.int r)) N) (h : gOKq (fX9_surely_7 x1 s0 M) P) : gGo G YX9_surely d Z 7 [some (.ref 141), some (.int x1), none] [.int s0, .ref 141] M := by
  unfold fX9_surely_7 at h
  obtain ⟨r1, e2, h⟩ := gB0_ok h
  refine go_call1 ocX9_surely rfl rfl (gOb_c rfl) rfl (SX9_whyNot s0 M e2) (Nat.lt_of_lt_of_le (by decide) hd) ?_
  refine go_rn 2 (pc' := 12) (L' := [some (.ref 141), some (.int x1), some (.int r1)]) (S' := [.int r1]) (M' := M) okX9_surely rfl ?_
  refine go_br okX9_surely rfl (fun hp => ?_) (fun hp => ?_)
  · have h := gq_pos hp h
    refine go_rn 2 (pc' := 19) (L' := [some (.ref 141), some (.int x1), some (.int r1)]) (S' := [.int x1, .ref 141]) (M' := M) okX9_surely rfl ?_
    obtain ⟨M3, e4, h⟩ := gB0_ok h
    refine go_call1 ocX9_surely rfl rfl (gOb_c rfl) rfl (SX9_laysTrues x1 M e4) (Nat.lt_of_lt_of_le (by decide) hd) ?_
    refine go_rn 1 (pc' := 23) (L' := [some (.ref 141), some (.int x1), some (.int r1)]) (S' := [.ref 141]) (M' := M3) okX9_surely rfl ?_
    refine go_ck okX9_surely rfl (gOb_c rfl) ?_
    refine go_br okX9_surely rfl (fun hp => ?_) (fun hp => ?_)
    · have h := gq_pos hp h
      refine go_rn 2 (pc' := 37) (L' := [some (.ref 141), some (.int x1), some (.int r1)]) (S' := [.int (-1 : Int32)]) (M' := M3) okX9_surely rfl ?_
      exact go_iret (reX9_surely _ (by decide)) rfl (k0 (-1 : Int32) M3 h)
    · have h := gq_neg hp h
      refine go_rn 1 (pc' := 34) (L' := [some (.ref 141), some (.int x1), some (.int r1)]) (S' := [.ref 141]) (M' := M3) okX9_surely rfl ?_
      refine go_ck okX9_surely rfl (gOb_c rfl) ?_
      exact go_iret (reX9_surely _ (by decide)) rfl (k0 (M3.1 141 44) M3 h)
  · have h := gq_neg hp h
    refine go_rn 1 (pc' := 16) (L' := [some (.ref 141), some (.int x1), some (.int r1)]) (S' := [.int r1]) (M' := M) okX9_surely rfl ?_
    exact go_iret (reX9_surely _ (by decide)) rfl (k0 r1 M h)
def fX9_surely_0 (x1 : Int32) (M : gMem) : Option (Int32 × gMem) :=
  fX9_surely_7 x1 x1 (gSI M 141 0 (0 : Int32))
set_option maxRecDepth 100000 in
theorem CX9_surely_0 {G : gG} {d : Nat} {Z : Option Value → gMem → Prop} (hd : 8 ≤ d) (x1 : Int32) (M : gMem) (P : Int32 × gMem → Prop) (k0 : ∀ (r : Int32) (N : gMem), P (r, N) → Z (some (.int r)) N) (h : gOKq (fX9_surely_0 x1 M) P) : gGo G YX9_surely d Z 0 [some (.ref 141), some (.int x1), none] [] M := by
  unfold fX9_surely_0 at h
  refine go_rn 2 (pc' := 2) (L' := [some (.ref 141), some (.int x1), none]) (S' := [.int (0 : Int32), .ref 141]) (M' := M) okX9_surely rfl ?_
  refine go_ck okX9_surely rfl (gOb_c rfl) ?_
  refine go_rn 2 (pc' := 7) (L' := [some (.ref 141), some (.int x1), none]) (S' := [.int x1, .ref 141]) (M' := (gSI M 141 0 (0 : Int32))) okX9_surely rfl ?_
  exact go_wk (CX9_surely_7 hd x1 x1 (gSI M 141 0 (0 : Int32)) P k0 h) ⟨rfl, rfl, True.intro⟩
def fX9_surely (a1 : Int32) (M : gMem) : Option (Int32 × gMem) := fX9_surely_0 a1 M
theorem SX9_surely {G : gG} (a1 : Int32) (M : gMem) {r : Int32} {N : gMem} (h : fX9_surely a1 M = some (r, N)) : gRun G YX9_surely 8 [.ref 141, .int a1] M (fun r' N' => r' = some (.int r) ∧ N' = N) := gRun_in (by decide +kernel) rfl (fun d hd => go_wk (CX9_surely_0 hd a1 M (fun p => p = (r, N)) (fun r N hh => by cases hh; exact ⟨rfl, rfl⟩) (gq_of h)) ⟨rfl, rfl, True.intro⟩)
def fX9_never_7 (x1 : Int32) (s0 : Int32) (M : gMem) : Option (Int32 × gMem) :=
  gB0 (fX9_whyNot s0 M) (fun r1 => if r1 = 0 then gB0 (fX9_laysTrues x1 M) (fun M3 => if (M3.1 141 43) = 0 then some ((-1 : Int32), M3) else gB0 (fX9_joins M3) (fun r5 => some (((((1 : Int32) <<< (r5 &&& 31)) - (1 : Int32)) &&& ((M3.1 141 45) ^^^ (-1 : Int32))), M3))) else some (r1, M))
set_option maxRecDepth 100000 in
theorem CX9_never_7 {G : gG} {d : Nat} {Z : Option Value → gMem → Prop} (hd : 8 ≤ d) (x1 : Int32) (s0 : Int32) (M : gMem) (P : Int32 × gMem → Prop) (k0 : ∀ (r : Int32) (N : gMem), P (r, N) → Z (some (.int r)) N) (h : gOKq (fX9_never_7 x1 s0 M) P) : gGo G YX9_never d Z 7 [some (.ref 141), some (.int x1), none] [.int s0, .ref 141] M := by
  unfold fX9_never_7 at h
  obtain ⟨r1, e2, h⟩ := gB0_ok h
  refine go_call1 ocX9_never rfl rfl (gOb_c rfl) rfl (SX9_whyNot s0 M e2) (Nat.lt_of_lt_of_le (by decide) hd) ?_
  refine go_rn 2 (pc' := 12) (L' := [some (.ref 141), some (.int x1), some (.int r1)]) (S' := [.int r1]) (M' := M) okX9_never rfl ?_
  refine go_br okX9_never rfl (fun hp => ?_) (fun hp => ?_)
  · have h := gq_pos hp h
    refine go_rn 2 (pc' := 19) (L' := [some (.ref 141), some (.int x1), some (.int r1)]) (S' := [.int x1, .ref 141]) (M' := M) okX9_never rfl ?_
    obtain ⟨M3, e4, h⟩ := gB0_ok h
    refine go_call1 ocX9_never rfl rfl (gOb_c rfl) rfl (SX9_laysTrues x1 M e4) (Nat.lt_of_lt_of_le (by decide) hd) ?_
    refine go_rn 1 (pc' := 23) (L' := [some (.ref 141), some (.int x1), some (.int r1)]) (S' := [.ref 141]) (M' := M3) okX9_never rfl ?_
    refine go_ck okX9_never rfl (gOb_c rfl) ?_
    refine go_br okX9_never rfl (fun hp => ?_) (fun hp => ?_)
    · have h := gq_pos hp h
      refine go_rn 2 (pc' := 48) (L' := [some (.ref 141), some (.int x1), some (.int r1)]) (S' := [.int (-1 : Int32)]) (M' := M3) okX9_never rfl ?_
      exact go_iret (reX9_never _ (by decide)) rfl (k0 (-1 : Int32) M3 h)
    · have h := gq_neg hp h
      refine go_rn 2 (pc' := 35) (L' := [some (.ref 141), some (.int x1), some (.int r1)]) (S' := [.ref 141, .int (1 : Int32)]) (M' := M3) okX9_never rfl ?_
      obtain ⟨r5, e6, h⟩ := gB0_ok h
      refine go_call1 ocX9_never rfl rfl (gOb_c rfl) rfl (SX9_joins M3 e6) (Nat.lt_of_lt_of_le (by decide) hd) ?_
      refine go_rn 4 (pc' := 42) (L' := [some (.ref 141), some (.int x1), some (.int r1)]) (S' := [.ref 141, .int (((1 : Int32) <<< (r5 &&& 31)) - (1 : Int32))]) (M' := M3) okX9_never rfl ?_
      refine go_ck okX9_never rfl (gOb_c rfl) ?_
      refine go_rn 3 (pc' := 48) (L' := [some (.ref 141), some (.int x1), some (.int r1)]) (S' := [.int ((((1 : Int32) <<< (r5 &&& 31)) - (1 : Int32)) &&& ((M3.1 141 45) ^^^ (-1 : Int32)))]) (M' := M3) okX9_never rfl ?_
      exact go_iret (reX9_never _ (by decide)) rfl (k0 ((((1 : Int32) <<< (r5 &&& 31)) - (1 : Int32)) &&& ((M3.1 141 45) ^^^ (-1 : Int32))) M3 h)
  · have h := gq_neg hp h
    refine go_rn 1 (pc' := 16) (L' := [some (.ref 141), some (.int x1), some (.int r1)]) (S' := [.int r1]) (M' := M) okX9_never rfl ?_
    exact go_iret (reX9_never _ (by decide)) rfl (k0 r1 M h)
def fX9_never_0 (x1 : Int32) (M : gMem) : Option (Int32 × gMem) :=
  fX9_never_7 x1 x1 (gSI M 141 0 (0 : Int32))
set_option maxRecDepth 100000 in
theorem CX9_never_0 {G : gG} {d : Nat} {Z : Option Value → gMem → Prop} (hd : 8 ≤ d) (x1 : Int32) (M : gMem) (P : Int32 × gMem → Prop) (k0 : ∀ (r : Int32) (N : gMem), P (r, N) → Z (some (.int r)) N) (h : gOKq (fX9_never_0 x1 M) P) : gGo G YX9_never d Z 0 [some (.ref 141), some (.int x1), none] [] M := by
  unfold fX9_never_0 at h
  refine go_rn 2 (pc' := 2) (L' := [some (.ref 141), some (.int x1), none]) (S' := [.int (0 : Int32), .ref 141]) (M' := M) okX9_never rfl ?_
  refine go_ck okX9_never rfl (gOb_c rfl) ?_
  refine go_rn 2 (pc' := 7) (L' := [some (.ref 141), some (.int x1), none]) (S' := [.int x1, .ref 141]) (M' := (gSI M 141 0 (0 : Int32))) okX9_never rfl ?_
  exact go_wk (CX9_never_7 hd x1 x1 (gSI M 141 0 (0 : Int32)) P k0 h) ⟨rfl, rfl, True.intro⟩
def fX9_never (a1 : Int32) (M : gMem) : Option (Int32 × gMem) := fX9_never_0 a1 M
theorem SX9_never {G : gG} (a1 : Int32) (M : gMem) {r : Int32} {N : gMem} (h : fX9_never a1 M = some (r, N)) : gRun G YX9_never 8 [.ref 141, .int a1] M (fun r' N' => r' = some (.int r) ∧ N' = N) := gRun_in (by decide +kernel) rfl (fun d hd => go_wk (CX9_never_0 hd a1 M (fun p => p = (r, N)) (fun r N hh => by cases hh; exact ⟨rfl, rfl⟩) (gq_of h)) ⟨rfl, rfl, True.intro⟩)
def fX9_ask_7 (x1 : Int32) (s0 : Int32) (M : gMem) : Option (Int32 × gMem) :=
  gB0 (fX9_whyNot s0 M) (fun r1 => if r1 = 0 then gB0 (fX9_laysTrues x1 M) (fun M3 => some ((M3.1 141 46), M3)) else some (r1, M))
set_option maxRecDepth 100000 in
theorem CX9_ask_7 {G : gG} {d : Nat} {Z : Option Value → gMem → Prop} (hd : 8 ≤ d) (x1 : Int32) (s0 : Int32) (M : gMem) (P : Int32 × gMem → Prop) (k0 : ∀ (r : Int32) (N : gMem), P (r, N) → Z (some (.int r)) N) (h : gOKq (fX9_ask_7 x1 s0 M) P) : gGo G YX9_ask d Z 7 [some (.ref 141), some (.int x1), none] [.int s0, .ref 141] M := by
  unfold fX9_ask_7 at h
  obtain ⟨r1, e2, h⟩ := gB0_ok h
  refine go_call1 ocX9_ask rfl rfl (gOb_c rfl) rfl (SX9_whyNot s0 M e2) (Nat.lt_of_lt_of_le (by decide) hd) ?_
  refine go_rn 2 (pc' := 12) (L' := [some (.ref 141), some (.int x1), some (.int r1)]) (S' := [.int r1]) (M' := M) okX9_ask rfl ?_
  refine go_br okX9_ask rfl (fun hp => ?_) (fun hp => ?_)
  · have h := gq_pos hp h
    refine go_rn 2 (pc' := 19) (L' := [some (.ref 141), some (.int x1), some (.int r1)]) (S' := [.int x1, .ref 141]) (M' := M) okX9_ask rfl ?_
    obtain ⟨M3, e4, h⟩ := gB0_ok h
    refine go_call1 ocX9_ask rfl rfl (gOb_c rfl) rfl (SX9_laysTrues x1 M e4) (Nat.lt_of_lt_of_le (by decide) hd) ?_
    refine go_rn 1 (pc' := 23) (L' := [some (.ref 141), some (.int x1), some (.int r1)]) (S' := [.ref 141]) (M' := M3) okX9_ask rfl ?_
    refine go_ck okX9_ask rfl (gOb_c rfl) ?_
    exact go_iret (reX9_ask _ (by decide)) rfl (k0 (M3.1 141 46) M3 h)
  · have h := gq_neg hp h
    refine go_rn 1 (pc' := 16) (L' := [some (.ref 141), some (.int x1), some (.int r1)]) (S' := [.int r1]) (M' := M) okX9_ask rfl ?_
    exact go_iret (reX9_ask _ (by decide)) rfl (k0 r1 M h)
def fX9_ask_0 (x1 : Int32) (M : gMem) : Option (Int32 × gMem) :=
  fX9_ask_7 x1 x1 (gSI M 141 0 (0 : Int32))
set_option maxRecDepth 100000 in
theorem CX9_ask_0 {G : gG} {d : Nat} {Z : Option Value → gMem → Prop} (hd : 8 ≤ d) (x1 : Int32) (M : gMem) (P : Int32 × gMem → Prop) (k0 : ∀ (r : Int32) (N : gMem), P (r, N) → Z (some (.int r)) N) (h : gOKq (fX9_ask_0 x1 M) P) : gGo G YX9_ask d Z 0 [some (.ref 141), some (.int x1), none] [] M := by
  unfold fX9_ask_0 at h
  refine go_rn 2 (pc' := 2) (L' := [some (.ref 141), some (.int x1), none]) (S' := [.int (0 : Int32), .ref 141]) (M' := M) okX9_ask rfl ?_
  refine go_ck okX9_ask rfl (gOb_c rfl) ?_
  refine go_rn 2 (pc' := 7) (L' := [some (.ref 141), some (.int x1), none]) (S' := [.int x1, .ref 141]) (M' := (gSI M 141 0 (0 : Int32))) okX9_ask rfl ?_
  exact go_wk (CX9_ask_7 hd x1 x1 (gSI M 141 0 (0 : Int32)) P k0 h) ⟨rfl, rfl, True.intro⟩
def fX9_ask (a1 : Int32) (M : gMem) : Option (Int32 × gMem) := fX9_ask_0 a1 M
theorem SX9_ask {G : gG} (a1 : Int32) (M : gMem) {r : Int32} {N : gMem} (h : fX9_ask a1 M = some (r, N)) : gRun G YX9_ask 8 [.ref 141, .int a1] M (fun r' N' => r' = some (.int r) ∧ N' = N) := gRun_in (by decide +kernel) rfl (fun d hd => go_wk (CX9_ask_0 hd a1 M (fun p => p = (r, N)) (fun r N hh => by cases hh; exact ⟨rfl, rfl⟩) (gq_of h)) ⟨rfl, rfl, True.intro⟩)
def fX9_leaves_7 (x1 : Int32) (s0 : Int32) (M : gMem) : Option (Int32 × gMem) :=
  gB0 (fX9_whyNot s0 M) (fun r1 => if r1 = 0 then gB0 (fX9_laysTrues x1 M) (fun M3 => some ((M3.1 141 47), M3)) else some (r1, M))
set_option maxRecDepth 100000 in
theorem CX9_leaves_7 {G : gG} {d : Nat} {Z : Option Value → gMem → Prop} (hd : 8 ≤ d) (x1 : Int32) (s0 : Int32) (M : gMem) (P : Int32 × gMem → Prop) (k0 : ∀ (r : Int32) (N : gMem), P (r, N) → Z (some (.int r)) N) (h : gOKq (fX9_leaves_7 x1 s0 M) P) : gGo G YX9_leaves d Z 7 [some (.ref 141), some (.int x1), none] [.int s0, .ref 141] M := by
  unfold fX9_leaves_7 at h
  obtain ⟨r1, e2, h⟩ := gB0_ok h
  refine go_call1 ocX9_leaves rfl rfl (gOb_c rfl) rfl (SX9_whyNot s0 M e2) (Nat.lt_of_lt_of_le (by decide) hd) ?_
  refine go_rn 2 (pc' := 12) (L' := [some (.ref 141), some (.int x1), some (.int r1)]) (S' := [.int r1]) (M' := M) okX9_leaves rfl ?_
  refine go_br okX9_leaves rfl (fun hp => ?_) (fun hp => ?_)
  · have h := gq_pos hp h
    refine go_rn 2 (pc' := 19) (L' := [some (.ref 141), some (.int x1), some (.int r1)]) (S' := [.int x1, .ref 141]) (M' := M) okX9_leaves rfl ?_
    obtain ⟨M3, e4, h⟩ := gB0_ok h
    refine go_call1 ocX9_leaves rfl rfl (gOb_c rfl) rfl (SX9_laysTrues x1 M e4) (Nat.lt_of_lt_of_le (by decide) hd) ?_
    refine go_rn 1 (pc' := 23) (L' := [some (.ref 141), some (.int x1), some (.int r1)]) (S' := [.ref 141]) (M' := M3) okX9_leaves rfl ?_
    refine go_ck okX9_leaves rfl (gOb_c rfl) ?_
    exact go_iret (reX9_leaves _ (by decide)) rfl (k0 (M3.1 141 47) M3 h)
  · have h := gq_neg hp h
    refine go_rn 1 (pc' := 16) (L' := [some (.ref 141), some (.int x1), some (.int r1)]) (S' := [.int r1]) (M' := M) okX9_leaves rfl ?_
    exact go_iret (reX9_leaves _ (by decide)) rfl (k0 r1 M h)
def fX9_leaves_0 (x1 : Int32) (M : gMem) : Option (Int32 × gMem) :=
  fX9_leaves_7 x1 x1 (gSI M 141 0 (0 : Int32))
set_option maxRecDepth 100000 in
theorem CX9_leaves_0 {G : gG} {d : Nat} {Z : Option Value → gMem → Prop} (hd : 8 ≤ d) (x1 : Int32) (M : gMem) (P : Int32 × gMem → Prop) (k0 : ∀ (r : Int32) (N : gMem), P (r, N) → Z (some (.int r)) N) (h : gOKq (fX9_leaves_0 x1 M) P) : gGo G YX9_leaves d Z 0 [some (.ref 141), some (.int x1), none] [] M := by
  unfold fX9_leaves_0 at h
  refine go_rn 2 (pc' := 2) (L' := [some (.ref 141), some (.int x1), none]) (S' := [.int (0 : Int32), .ref 141]) (M' := M) okX9_leaves rfl ?_
  refine go_ck okX9_leaves rfl (gOb_c rfl) ?_
  refine go_rn 2 (pc' := 7) (L' := [some (.ref 141), some (.int x1), none]) (S' := [.int x1, .ref 141]) (M' := (gSI M 141 0 (0 : Int32))) okX9_leaves rfl ?_
  exact go_wk (CX9_leaves_7 hd x1 x1 (gSI M 141 0 (0 : Int32)) P k0 h) ⟨rfl, rfl, True.intro⟩
def fX9_leaves (a1 : Int32) (M : gMem) : Option (Int32 × gMem) := fX9_leaves_0 a1 M
theorem SX9_leaves {G : gG} (a1 : Int32) (M : gMem) {r : Int32} {N : gMem} (h : fX9_leaves a1 M = some (r, N)) : gRun G YX9_leaves 8 [.ref 141, .int a1] M (fun r' N' => r' = some (.int r) ∧ N' = N) := gRun_in (by decide +kernel) rfl (fun d hd => go_wk (CX9_leaves_0 hd a1 M (fun p => p = (r, N)) (fun r N hh => by cases hh; exact ⟨rfl, rfl⟩) (gq_of h)) ⟨rfl, rfl, True.intro⟩)
def fX9_laws_49 (x1 : Int32) (x4 : Int32) (s0 : Int32) (s2 : Int32) (M : gMem) : Option (Sum (Int32 × Int32 × gMem) (Int32 × gMem)) :=
  gB0 (fX9_isSo s0 M) (fun r1 => if r1 = 0 then some (.inl ((s2 ||| (0 : Int32)), (x4 + 1), M)) else some (.inl ((s2 ||| ((1 : Int32) <<< (x4 &&& 31))), (x4 + 1), M)))
set_option maxRecDepth 100000 in
theorem CX9_laws_49 {G : gG} {d : Nat} {Z : Option Value → gMem → Prop} (hd : 7 ≤ d) (x1 : Int32) (x4 : Int32) (s0 : Int32) (s2 : Int32) (M : gMem) (P : Sum (Int32 × Int32 × gMem) (Int32 × gMem) → Prop) (k0 : ∀ (r : Int32) (N : gMem), P (.inr (r, N)) → Z (some (.int r)) N) (k1 : ∀ (x3 : Int32) (x4 : Int32) (M : gMem), P (.inl (x3, x4, M)) → gGo G YX9_laws d Z 22 [some (.ref 141), some (.int x1), none, some (.int x3), some (.int x4)] [] M) (h : gOKq (fX9_laws_49 x1 x4 s0 s2 M) P) : gGo G YX9_laws d Z 49 [some (.ref 141), some (.int x1), none, none, some (.int x4)] [.int s0, .ref 141, .int s2] M := by
  unfold fX9_laws_49 at h
  obtain ⟨r1, e2, h⟩ := gB0_ok h
  refine go_call1 ocX9_laws rfl rfl (gOb_c rfl) rfl (SX9_isSo s0 M e2) (Nat.lt_of_lt_of_le (by decide) hd) ?_
  refine go_br okX9_laws rfl (fun hp => ?_) (fun hp => ?_)
  · have h := gq_pos hp h
    refine go_rn 5 (pc' := 22) (L' := [some (.ref 141), some (.int x1), none, some (.int (s2 ||| (0 : Int32))), some (.int (x4 + 1))]) (S' := []) (M' := M) okX9_laws rfl ?_
    exact go_wk (k1 ((s2 ||| (0 : Int32))) ((x4 + 1)) M h) ⟨rfl, rfl, rfl, rfl, True.intro⟩
  · have h := gq_neg hp h
    refine go_rn 8 (pc' := 22) (L' := [some (.ref 141), some (.int x1), none, some (.int (s2 ||| ((1 : Int32) <<< (x4 &&& 31)))), some (.int (x4 + 1))]) (S' := []) (M' := M) okX9_laws rfl ?_
    exact go_wk (k1 ((s2 ||| ((1 : Int32) <<< (x4 &&& 31)))) ((x4 + 1)) M h) ⟨rfl, rfl, rfl, rfl, True.intro⟩
def fX9_laws_22 (x1 : Int32) (x3 : Int32) (x4 : Int32) (M : gMem) : Option (Sum (Int32 × Int32 × gMem) (Int32 × gMem)) :=
  if (4 : Int32) ≤ x4 then some (.inr (x3, M)) else gB0 (fX9_joins M) (fun r1 => gB0 (fX9_laysTrue (((1 : Int32) <<< (r1 &&& 31)) - (1 : Int32)) M) (fun M3 => fX9_laws_49 x1 x4 x1 x3 (gSI M3 141 24 x4)))
set_option maxRecDepth 100000 in
theorem CX9_laws_22 {G : gG} {d : Nat} {Z : Option Value → gMem → Prop} (hd : 7 ≤ d) (x1 : Int32) (x3 : Int32) (x4 : Int32) (M : gMem) (P : Sum (Int32 × Int32 × gMem) (Int32 × gMem) → Prop) (k0 : ∀ (r : Int32) (N : gMem), P (.inr (r, N)) → Z (some (.int r)) N) (k1 : ∀ (x3 : Int32) (x4 : Int32) (M : gMem), P (.inl (x3, x4, M)) → gGo G YX9_laws d Z 22 [some (.ref 141), some (.int x1), none, some (.int x3), some (.int x4)] [] M) (h : gOKq (fX9_laws_22 x1 x3 x4 M) P) : gGo G YX9_laws d Z 22 [some (.ref 141), some (.int x1), none, some (.int x3), some (.int x4)] [] M := by
  unfold fX9_laws_22 at h
  refine go_rn 2 (pc' := 25) (L' := [some (.ref 141), some (.int x1), none, some (.int x3), some (.int x4)]) (S' := [.int (4 : Int32), .int x4]) (M' := M) okX9_laws rfl ?_
  refine go_br okX9_laws rfl (fun hp => ?_) (fun hp => ?_)
  · have h := gq_pos hp h
    refine go_rn 1 (pc' := 72) (L' := [some (.ref 141), some (.int x1), none, some (.int x3), some (.int x4)]) (S' := [.int x3]) (M' := M) okX9_laws rfl ?_
    exact go_iret (reX9_laws _ (by decide)) rfl (k0 x3 M h)
  · have h := gq_neg hp h
    refine go_rn 3 (pc' := 31) (L' := [some (.ref 141), some (.int x1), none, some (.int x3), some (.int x4)]) (S' := [.ref 141, .int (1 : Int32), .ref 141]) (M' := M) okX9_laws rfl ?_
    obtain ⟨r1, e2, h⟩ := gB0_ok h
    refine go_call1 ocX9_laws rfl rfl (gOb_c rfl) rfl (SX9_joins M e2) (Nat.lt_of_lt_of_le (by decide) hd) ?_
    refine go_rn 3 (pc' := 37) (L' := [some (.ref 141), some (.int x1), none, some (.int x3), some (.int x4)]) (S' := [.int (((1 : Int32) <<< (r1 &&& 31)) - (1 : Int32)), .ref 141]) (M' := M) okX9_laws rfl ?_
    obtain ⟨M3, e4, h⟩ := gB0_ok h
    refine go_call1 ocX9_laws rfl rfl (gOb_c rfl) rfl (SX9_laysTrue (((1 : Int32) <<< (r1 &&& 31)) - (1 : Int32)) M e4) (Nat.lt_of_lt_of_le (by decide) hd) ?_
    refine go_rn 2 (pc' := 43) (L' := [some (.ref 141), some (.int x1), none, some (.int x3), some (.int x4)]) (S' := [.int x4, .ref 141]) (M' := M3) okX9_laws rfl ?_
    refine go_ck okX9_laws rfl (gOb_c rfl) ?_
    refine go_rn 3 (pc' := 49) (L' := [some (.ref 141), some (.int x1), none, some (.int x3), some (.int x4)]) (S' := [.int x1, .ref 141, .int x3]) (M' := (gSI M3 141 24 x4)) okX9_laws rfl ?_
    exact go_wk (CX9_laws_49 hd x1 x4 x1 x3 (gSI M3 141 24 x4) P k0 k1 h) ⟨rfl, rfl, rfl, True.intro⟩
def fX9_laws_22h (x1 : Int32) (x3 : Int32) (x4 : Int32) (M : gMem) : Option (Int32 × gMem) :=
  gLp (fun s : Int32 × Int32 × gMem => fX9_laws_22 x1 (s.1) (s.2.1) s.2.2) gFu (x3, x4, M)
set_option maxRecDepth 100000 in
theorem CX9_laws_22h {G : gG} {d : Nat} {Z : Option Value → gMem → Prop} (hd : 7 ≤ d) (x1 : Int32) (x3 : Int32) (x4 : Int32) (M : gMem) (P : Int32 × gMem → Prop) (k0 : ∀ (r : Int32) (N : gMem), P (r, N) → Z (some (.int r)) N) (h : gOKq (fX9_laws_22h x1 x3 x4 M) P) : gGo G YX9_laws d Z 22 [some (.ref 141), some (.int x1), none, some (.int x3), some (.int x4)] [] M :=
  gLp_go (K := fun s : Int32 × Int32 × gMem => gGo G YX9_laws d Z 22 [some (.ref 141), some (.int x1), none, some (.int s.1), some (.int s.2.1)] [] s.2.2) (P := P) (fun s hs => CX9_laws_22 hd (x1) (s.1) (s.2.1) (s.2.2) (Sum.elim (fun s : Int32 × Int32 × gMem => gGo G YX9_laws d Z 22 [some (.ref 141), some (.int x1), none, some (.int s.1), some (.int s.2.1)] [] s.2.2) P) k0 (fun x3 x4 M hh => hh) hs) gFu (x3, x4, M) h
def fX9_laws_7 (x1 : Int32) (s0 : Int32) (M : gMem) : Option (Int32 × gMem) :=
  gB0 (fX9_whyNot s0 M) (fun r1 => if r1 = 0 then fX9_laws_22h x1 (0 : Int32) (0 : Int32) M else some (r1, M))
set_option maxRecDepth 100000 in
theorem CX9_laws_7 {G : gG} {d : Nat} {Z : Option Value → gMem → Prop} (hd : 7 ≤ d) (x1 : Int32) (s0 : Int32) (M : gMem) (P : Int32 × gMem → Prop) (k0 : ∀ (r : Int32) (N : gMem), P (r, N) → Z (some (.int r)) N) (h : gOKq (fX9_laws_7 x1 s0 M) P) : gGo G YX9_laws d Z 7 [some (.ref 141), some (.int x1), none, none, none] [.int s0, .ref 141] M := by
  unfold fX9_laws_7 at h
  obtain ⟨r1, e2, h⟩ := gB0_ok h
  refine go_call1 ocX9_laws rfl rfl (gOb_c rfl) rfl (SX9_whyNot s0 M e2) (Nat.lt_of_lt_of_le (by decide) hd) ?_
  refine go_rn 2 (pc' := 12) (L' := [some (.ref 141), some (.int x1), some (.int r1), none, none]) (S' := [.int r1]) (M' := M) okX9_laws rfl ?_
  refine go_br okX9_laws rfl (fun hp => ?_) (fun hp => ?_)
  · have h := gq_pos hp h
    refine go_rn 4 (pc' := 22) (L' := [some (.ref 141), some (.int x1), some (.int r1), some (.int (0 : Int32)), some (.int (0 : Int32))]) (S' := []) (M' := M) okX9_laws rfl ?_
    exact go_wk (CX9_laws_22h hd x1 (0 : Int32) (0 : Int32) M P k0 h) ⟨rfl, rfl, rfl, rfl, True.intro⟩
  · have h := gq_neg hp h
    refine go_rn 1 (pc' := 16) (L' := [some (.ref 141), some (.int x1), some (.int r1), none, none]) (S' := [.int r1]) (M' := M) okX9_laws rfl ?_
    exact go_iret (reX9_laws _ (by decide)) rfl (k0 r1 M h)
def fX9_laws_0 (x1 : Int32) (M : gMem) : Option (Int32 × gMem) :=
  fX9_laws_7 x1 x1 (gSI M 141 0 (0 : Int32))
set_option maxRecDepth 100000 in
theorem CX9_laws_0 {G : gG} {d : Nat} {Z : Option Value → gMem → Prop} (hd : 7 ≤ d) (x1 : Int32) (M : gMem) (P : Int32 × gMem → Prop) (k0 : ∀ (r : Int32) (N : gMem), P (r, N) → Z (some (.int r)) N) (h : gOKq (fX9_laws_0 x1 M) P) : gGo G YX9_laws d Z 0 [some (.ref 141), some (.int x1), none, none, none] [] M := by
  unfold fX9_laws_0 at h
  refine go_rn 2 (pc' := 2) (L' := [some (.ref 141), some (.int x1), none, none, none]) (S' := [.int (0 : Int32), .ref 141]) (M' := M) okX9_laws rfl ?_
  refine go_ck okX9_laws rfl (gOb_c rfl) ?_
  refine go_rn 2 (pc' := 7) (L' := [some (.ref 141), some (.int x1), none, none, none]) (S' := [.int x1, .ref 141]) (M' := (gSI M 141 0 (0 : Int32))) okX9_laws rfl ?_
  exact go_wk (CX9_laws_7 hd x1 x1 (gSI M 141 0 (0 : Int32)) P k0 h) ⟨rfl, rfl, True.intro⟩
def fX9_laws (a1 : Int32) (M : gMem) : Option (Int32 × gMem) := fX9_laws_0 a1 M
theorem SX9_laws {G : gG} (a1 : Int32) (M : gMem) {r : Int32} {N : gMem} (h : fX9_laws a1 M = some (r, N)) : gRun G YX9_laws 7 [.ref 141, .int a1] M (fun r' N' => r' = some (.int r) ∧ N' = N) := gRun_in (by decide +kernel) rfl (fun d hd => go_wk (CX9_laws_0 hd a1 M (fun p => p = (r, N)) (fun r N hh => by cases hh; exact ⟨rfl, rfl⟩) (gq_of h)) ⟨rfl, rfl, True.intro⟩)
def fX9_by_48 (x1 : Int32) (x3 : Int32) (x4 : Int32) (M : gMem) : Option (Sum (Int32 × Int32) (Int32 × gMem)) :=
  gB0 (fX9_people M) (fun r1 => if r1 ≤ x4 then some (.inr (x3, M)) else gB0 (fX9_isHead x4 (0 : Int32) M) (fun r3 => if r3 = 0 then some (.inl ((x3 + (0 : Int32)), (x4 + 1))) else gB0 (fX9_goesThrough x4 x1 (0 : Int32) M) (fun r5 => if r5 = 0 then some (.inl ((x3 + (0 : Int32)), (x4 + 1))) else some (.inl ((x3 + (1 : Int32)), (x4 + 1))))))
set_option maxRecDepth 100000 in
theorem CX9_by_48 {G : gG} {d : Nat} {Z : Option Value → gMem → Prop} (hd : 6 ≤ d) (x1 : Int32) (x3 : Int32) (x4 : Int32) (M : gMem) (P : Sum (Int32 × Int32) (Int32 × gMem) → Prop) (k0 : ∀ (r : Int32) (N : gMem), P (.inr (r, N)) → Z (some (.int r)) N) (k1 : ∀ (x3 : Int32) (x4 : Int32), P (.inl (x3, x4)) → gGo G YX9_by d Z 48 [some (.ref 141), some (.int x1), none, some (.int x3), some (.int x4)] [] M) (h : gOKq (fX9_by_48 x1 x3 x4 M) P) : gGo G YX9_by d Z 48 [some (.ref 141), some (.int x1), none, some (.int x3), some (.int x4)] [] M := by
  unfold fX9_by_48 at h
  refine go_rn 2 (pc' := 51) (L' := [some (.ref 141), some (.int x1), none, some (.int x3), some (.int x4)]) (S' := [.ref 141, .int x4]) (M' := M) okX9_by rfl ?_
  obtain ⟨r1, e2, h⟩ := gB0_ok h
  refine go_call1 ocX9_by rfl rfl (gOb_c rfl) rfl (SX9_people M e2) (Nat.lt_of_lt_of_le (by decide) hd) ?_
  refine go_br okX9_by rfl (fun hp => ?_) (fun hp => ?_)
  · have h := gq_pos hp h
    refine go_rn 1 (pc' := 93) (L' := [some (.ref 141), some (.int x1), none, some (.int x3), some (.int x4)]) (S' := [.int x3]) (M' := M) okX9_by rfl ?_
    exact go_iret (reX9_by _ (by decide)) rfl (k0 x3 M h)
  · have h := gq_neg hp h
    refine go_rn 4 (pc' := 62) (L' := [some (.ref 141), some (.int x1), none, some (.int x3), some (.int x4)]) (S' := [.int (0 : Int32), .int x4, .ref 141, .int x3]) (M' := M) okX9_by rfl ?_
    obtain ⟨r3, e4, h⟩ := gB0_ok h
    refine go_call1 ocX9_by rfl rfl (gOb_c rfl) rfl (SX9_isHead x4 (0 : Int32) M e4) (Nat.lt_of_lt_of_le (by decide) hd) ?_
    refine go_br okX9_by rfl (fun hp => ?_) (fun hp => ?_)
    · have h := gq_pos hp h
      refine go_rn 5 (pc' := 48) (L' := [some (.ref 141), some (.int x1), none, some (.int (x3 + (0 : Int32))), some (.int (x4 + 1))]) (S' := []) (M' := M) okX9_by rfl ?_
      exact go_wk (k1 ((x3 + (0 : Int32))) ((x4 + 1)) h) ⟨rfl, rfl, rfl, rfl, True.intro⟩
    · have h := gq_neg hp h
      refine go_rn 4 (pc' := 73) (L' := [some (.ref 141), some (.int x1), none, some (.int x3), some (.int x4)]) (S' := [.int (0 : Int32), .int x1, .int x4, .ref 141, .int x3]) (M' := M) okX9_by rfl ?_
      obtain ⟨r5, e6, h⟩ := gB0_ok h
      refine go_call1 ocX9_by rfl rfl (gOb_c rfl) rfl (SX9_goesThrough x4 x1 (0 : Int32) M e6) (Nat.lt_of_lt_of_le (by decide) hd) ?_
      refine go_br okX9_by rfl (fun hp => ?_) (fun hp => ?_)
      · have h := gq_pos hp h
        refine go_rn 5 (pc' := 48) (L' := [some (.ref 141), some (.int x1), none, some (.int (x3 + (0 : Int32))), some (.int (x4 + 1))]) (S' := []) (M' := M) okX9_by rfl ?_
        exact go_wk (k1 ((x3 + (0 : Int32))) ((x4 + 1)) h) ⟨rfl, rfl, rfl, rfl, True.intro⟩
      · have h := gq_neg hp h
        refine go_rn 6 (pc' := 48) (L' := [some (.ref 141), some (.int x1), none, some (.int (x3 + (1 : Int32))), some (.int (x4 + 1))]) (S' := []) (M' := M) okX9_by rfl ?_
        exact go_wk (k1 ((x3 + (1 : Int32))) ((x4 + 1)) h) ⟨rfl, rfl, rfl, rfl, True.intro⟩
def fX9_by_48h (x1 : Int32) (x3 : Int32) (x4 : Int32) (M : gMem) : Option (Int32 × gMem) :=
  gLp (fun s : Int32 × Int32 => fX9_by_48 x1 (s.1) (s.2) M) gFu (x3, x4)
set_option maxRecDepth 100000 in
theorem CX9_by_48h {G : gG} {d : Nat} {Z : Option Value → gMem → Prop} (hd : 6 ≤ d) (x1 : Int32) (x3 : Int32) (x4 : Int32) (M : gMem) (P : Int32 × gMem → Prop) (k0 : ∀ (r : Int32) (N : gMem), P (r, N) → Z (some (.int r)) N) (h : gOKq (fX9_by_48h x1 x3 x4 M) P) : gGo G YX9_by d Z 48 [some (.ref 141), some (.int x1), none, some (.int x3), some (.int x4)] [] M :=
  gLp_go (K := fun s : Int32 × Int32 => gGo G YX9_by d Z 48 [some (.ref 141), some (.int x1), none, some (.int s.1), some (.int s.2)] [] M) (P := P) (fun s hs => CX9_by_48 hd (x1) (s.1) (s.2) M (Sum.elim (fun s : Int32 × Int32 => gGo G YX9_by d Z 48 [some (.ref 141), some (.int x1), none, some (.int s.1), some (.int s.2)] [] M) P) k0 (fun x3 x4 hh => hh) hs) gFu (x3, x4) h
def fX9_by_40 (x1 : Int32) (s0 : Int32) (M : gMem) : Option (Int32 × gMem) :=
  gB0 (fX9_runs s0 M) (fun M1 => fX9_by_48h x1 (0 : Int32) (0 : Int32) M1)
set_option maxRecDepth 100000 in
theorem CX9_by_40 {G : gG} {d : Nat} {Z : Option Value → gMem → Prop} (hd : 6 ≤ d) (x1 : Int32) (s0 : Int32) (M : gMem) (P : Int32 × gMem → Prop) (k0 : ∀ (r : Int32) (N : gMem), P (r, N) → Z (some (.int r)) N) (h : gOKq (fX9_by_40 x1 s0 M) P) : gGo G YX9_by d Z 40 [some (.ref 141), some (.int x1), none, none, none] [.int s0, .ref 141] M := by
  unfold fX9_by_40 at h
  obtain ⟨M1, e2, h⟩ := gB0_ok h
  refine go_call1 ocX9_by rfl rfl (gOb_c rfl) rfl (SX9_runs s0 M e2) (Nat.lt_of_lt_of_le (by decide) hd) ?_
  refine go_rn 4 (pc' := 48) (L' := [some (.ref 141), some (.int x1), none, some (.int (0 : Int32)), some (.int (0 : Int32))]) (S' := []) (M' := M1) okX9_by rfl ?_
  exact go_wk (CX9_by_48h hd x1 (0 : Int32) (0 : Int32) M1 P k0 h) ⟨rfl, rfl, rfl, rfl, True.intro⟩
def fX9_by_8 (x1 : Int32) (x2 : Int32) (s0 : Int64) (M : gMem) : Option (Int32 × gMem) :=
  gB0 (fX9_isDoor s0 M) (fun r1 => if r1 = 0 then some ((-2 : Int32), M) else gB0 (fX9_in (Int32.toInt64 x2) (0 : Int64) (3 : Int64) M) (fun r3 => if r3 = 0 then some ((-2 : Int32), M) else gB0 (fX9_lays M) (fun M5 => fX9_by_40 x1 (0 : Int32) (gSI M5 141 24 x2))))
set_option maxRecDepth 100000 in
theorem CX9_by_8 {G : gG} {d : Nat} {Z : Option Value → gMem → Prop} (hd : 6 ≤ d) (x1 : Int32) (x2 : Int32) (s0 : Int64) (M : gMem) (P : Int32 × gMem → Prop) (k0 : ∀ (r : Int32) (N : gMem), P (r, N) → Z (some (.int r)) N) (h : gOKq (fX9_by_8 x1 x2 s0 M) P) : gGo G YX9_by d Z 8 [some (.ref 141), some (.int x1), some (.int x2), none, none] [.long s0, .ref 141] M := by
  unfold fX9_by_8 at h
  obtain ⟨r1, e2, h⟩ := gB0_ok h
  refine go_call1 ocX9_by rfl rfl (gOb_c rfl) rfl (SX9_isDoor s0 M e2) (Nat.lt_of_lt_of_le (by decide) hd) ?_
  refine go_br okX9_by rfl (fun hp => ?_) (fun hp => ?_)
  · have h := gq_pos hp h
    refine go_rn 1 (pc' := 28) (L' := [some (.ref 141), some (.int x1), some (.int x2), none, none]) (S' := [.int (-2 : Int32)]) (M' := M) okX9_by rfl ?_
    exact go_iret (reX9_by _ (by decide)) rfl (k0 (-2 : Int32) M h)
  · have h := gq_neg hp h
    refine go_rn 4 (pc' := 20) (L' := [some (.ref 141), some (.int x1), some (.int x2), none, none]) (S' := [.long (3 : Int64), .long (0 : Int64), .long (Int32.toInt64 x2)]) (M' := M) okX9_by rfl ?_
    obtain ⟨r3, e4, h⟩ := gB0_ok h
    refine go_call1 ocX9_by rfl rfl rfl rfl (SX9_in (Int32.toInt64 x2) (0 : Int64) (3 : Int64) M e4) (Nat.lt_of_lt_of_le (by decide) hd) ?_
    refine go_br okX9_by rfl (fun hp => ?_) (fun hp => ?_)
    · have h := gq_pos hp h
      refine go_rn 1 (pc' := 28) (L' := [some (.ref 141), some (.int x1), some (.int x2), none, none]) (S' := [.int (-2 : Int32)]) (M' := M) okX9_by rfl ?_
      exact go_iret (reX9_by _ (by decide)) rfl (k0 (-2 : Int32) M h)
    · have h := gq_neg hp h
      refine go_rn 1 (pc' := 30) (L' := [some (.ref 141), some (.int x1), some (.int x2), none, none]) (S' := [.ref 141]) (M' := M) okX9_by rfl ?_
      obtain ⟨M5, e6, h⟩ := gB0_ok h
      refine go_call1 ocX9_by rfl rfl (gOb_c rfl) rfl (SX9_lays M e6) (Nat.lt_of_lt_of_le (by decide) hd) ?_
      refine go_rn 2 (pc' := 35) (L' := [some (.ref 141), some (.int x1), some (.int x2), none, none]) (S' := [.int x2, .ref 141]) (M' := M5) okX9_by rfl ?_
      refine go_ck okX9_by rfl (gOb_c rfl) ?_
      refine go_rn 2 (pc' := 40) (L' := [some (.ref 141), some (.int x1), some (.int x2), none, none]) (S' := [.int (0 : Int32), .ref 141]) (M' := (gSI M5 141 24 x2)) okX9_by rfl ?_
      exact go_wk (CX9_by_40 hd x1 (0 : Int32) (gSI M5 141 24 x2) P k0 h) ⟨rfl, rfl, True.intro⟩
def fX9_by_0 (x1 : Int32) (x2 : Int32) (M : gMem) : Option (Int32 × gMem) :=
  fX9_by_8 x1 x2 (Int32.toInt64 x1) (gSI M 141 0 (0 : Int32))
set_option maxRecDepth 100000 in
theorem CX9_by_0 {G : gG} {d : Nat} {Z : Option Value → gMem → Prop} (hd : 6 ≤ d) (x1 : Int32) (x2 : Int32) (M : gMem) (P : Int32 × gMem → Prop) (k0 : ∀ (r : Int32) (N : gMem), P (r, N) → Z (some (.int r)) N) (h : gOKq (fX9_by_0 x1 x2 M) P) : gGo G YX9_by d Z 0 [some (.ref 141), some (.int x1), some (.int x2), none, none] [] M := by
  unfold fX9_by_0 at h
  refine go_rn 2 (pc' := 2) (L' := [some (.ref 141), some (.int x1), some (.int x2), none, none]) (S' := [.int (0 : Int32), .ref 141]) (M' := M) okX9_by rfl ?_
  refine go_ck okX9_by rfl (gOb_c rfl) ?_
  refine go_rn 3 (pc' := 8) (L' := [some (.ref 141), some (.int x1), some (.int x2), none, none]) (S' := [.long (Int32.toInt64 x1), .ref 141]) (M' := (gSI M 141 0 (0 : Int32))) okX9_by rfl ?_
  exact go_wk (CX9_by_8 hd x1 x2 (Int32.toInt64 x1) (gSI M 141 0 (0 : Int32)) P k0 h) ⟨rfl, rfl, rfl, True.intro⟩
def fX9_by (a1 : Int32) (a2 : Int32) (M : gMem) : Option (Int32 × gMem) := fX9_by_0 a1 a2 M
theorem SX9_by {G : gG} (a1 : Int32) (a2 : Int32) (M : gMem) {r : Int32} {N : gMem} (h : fX9_by a1 a2 M = some (r, N)) : gRun G YX9_by 6 [.ref 141, .int a1, .int a2] M (fun r' N' => r' = some (.int r) ∧ N' = N) := gRun_in (by decide +kernel) rfl (fun d hd => go_wk (CX9_by_0 hd a1 a2 M (fun p => p = (r, N)) (fun r N hh => by cases hh; exact ⟨rfl, rfl⟩) (gq_of h)) ⟨rfl, rfl, rfl, True.intro⟩)
def fX9_getsBy_18 (x1 : Int32) (x2 : Int32) (x4 : Int32) (x5 : Int32) (M : gMem) : Option (Int32 × gMem) :=
  gB0 (fX9_runs_ M) (fun M1 => gB0 (fX9_years M1) (fun r3 => if gIx 1 158 ((((12 : Int32) * x1) + r3) - (1 : Int32)) = true then if x1 = x2 then some (((M1.1 158 (Int32.toNatClampNeg ((((12 : Int32) * x1) + r3) - (1 : Int32)))) - ((3 : Int32) * x4)), M1) else some (((M1.1 158 (Int32.toNatClampNeg ((((12 : Int32) * x1) + r3) - (1 : Int32)))) - ((3 : Int32) * x5)), M1) else none))
set_option maxRecDepth 100000 in
theorem CX9_getsBy_18 {G : gG} {d : Nat} {Z : Option Value → gMem → Prop} (hd : 7 ≤ d) (x1 : Int32) (x2 : Int32) (x4 : Int32) (x5 : Int32) (M : gMem) (P : Int32 × gMem → Prop) (k0 : ∀ (r : Int32) (N : gMem), P (r, N) → Z (some (.int r)) N) (h : gOKq (fX9_getsBy_18 x1 x2 x4 x5 M) P) : gGo G YX9_getsBy d Z 18 [some (.ref 141), some (.int x1), some (.int x2), none, some (.int x4), some (.int x5)] [.ref 141] M := by
  unfold fX9_getsBy_18 at h
  obtain ⟨M1, e2, h⟩ := gB0_ok h
  refine go_call1 ocX9_getsBy rfl rfl (gOb_c rfl) rfl (SX9_runs_ M e2) (Nat.lt_of_lt_of_le (by decide) hd) ?_
  refine go_rn 1 (pc' := 22) (L' := [some (.ref 141), some (.int x1), some (.int x2), none, some (.int x4), some (.int x5)]) (S' := [.ref 141]) (M' := M1) okX9_getsBy rfl ?_
  refine go_ck okX9_getsBy rfl (gOb_c rfl) ?_
  refine go_rn 4 (pc' := 30) (L' := [some (.ref 141), some (.int x1), some (.int x2), none, some (.int x4), some (.int x5)]) (S' := [.ref 141, .int ((12 : Int32) * x1), .ref 158]) (M' := M1) okX9_getsBy rfl ?_
  obtain ⟨r3, e4, h⟩ := gB0_ok h
  refine go_call1 ocX9_getsBy rfl rfl (gOb_c rfl) rfl (SX9_years M1 e4) (Nat.lt_of_lt_of_le (by decide) hd) ?_
  refine go_rn 3 (pc' := 36) (L' := [some (.ref 141), some (.int x1), some (.int x2), none, some (.int x4), some (.int x5)]) (S' := [.int ((((12 : Int32) * x1) + r3) - (1 : Int32)), .ref 158]) (M' := M1) okX9_getsBy rfl ?_
  obtain ⟨c5, h⟩ := gq_if h
  refine go_ck okX9_getsBy rfl c5 ?_
  refine go_rn 3 (pc' := 40) (L' := [some (.ref 141), some (.int x1), some (.int x2), none, some (.int x4), some (.int x5)]) (S' := [.int x2, .int x1, .int (3 : Int32), .int (M1.1 158 (Int32.toNatClampNeg ((((12 : Int32) * x1) + r3) - (1 : Int32))))]) (M' := M1) okX9_getsBy rfl ?_
  refine go_br okX9_getsBy rfl (fun hp => ?_) (fun hp => ?_)
  · have h := gq_pos hp h
    refine go_rn 4 (pc' := 52) (L' := [some (.ref 141), some (.int x1), some (.int x2), none, some (.int x4), some (.int x5)]) (S' := [.int ((M1.1 158 (Int32.toNatClampNeg ((((12 : Int32) * x1) + r3) - (1 : Int32)))) - ((3 : Int32) * x4))]) (M' := M1) okX9_getsBy rfl ?_
    exact go_iret (reX9_getsBy _ (by decide)) rfl (k0 ((M1.1 158 (Int32.toNatClampNeg ((((12 : Int32) * x1) + r3) - (1 : Int32)))) - ((3 : Int32) * x4)) M1 h)
  · have h := gq_neg hp h
    refine go_rn 3 (pc' := 52) (L' := [some (.ref 141), some (.int x1), some (.int x2), none, some (.int x4), some (.int x5)]) (S' := [.int ((M1.1 158 (Int32.toNatClampNeg ((((12 : Int32) * x1) + r3) - (1 : Int32)))) - ((3 : Int32) * x5))]) (M' := M1) okX9_getsBy rfl ?_
    exact go_iret (reX9_getsBy _ (by decide)) rfl (k0 ((M1.1 158 (Int32.toNatClampNeg ((((12 : Int32) * x1) + r3) - (1 : Int32)))) - ((3 : Int32) * x5)) M1 h)
def fX9_getsBy_0 (x1 : Int32) (x2 : Int32) (x3 : Int32) (x4 : Int32) (x5 : Int32) (M : gMem) : Option (Int32 × gMem) :=
  gB0 (fX9_lays M) (fun M1 => fX9_getsBy_18 x1 x2 x4 x5 (gSI M1 141 26 ((x4 <<< (x2 &&& 31)) ||| (x5 <<< (x3 &&& 31)))))
set_option maxRecDepth 100000 in
theorem CX9_getsBy_0 {G : gG} {d : Nat} {Z : Option Value → gMem → Prop} (hd : 7 ≤ d) (x1 : Int32) (x2 : Int32) (x3 : Int32) (x4 : Int32) (x5 : Int32) (M : gMem) (P : Int32 × gMem → Prop) (k0 : ∀ (r : Int32) (N : gMem), P (r, N) → Z (some (.int r)) N) (h : gOKq (fX9_getsBy_0 x1 x2 x3 x4 x5 M) P) : gGo G YX9_getsBy d Z 0 [some (.ref 141), some (.int x1), some (.int x2), some (.int x3), some (.int x4), some (.int x5)] [] M := by
  unfold fX9_getsBy_0 at h
  refine go_rn 1 (pc' := 1) (L' := [some (.ref 141), some (.int x1), some (.int x2), some (.int x3), some (.int x4), some (.int x5)]) (S' := [.ref 141]) (M' := M) okX9_getsBy rfl ?_
  obtain ⟨M1, e2, h⟩ := gB0_ok h
  refine go_call1 ocX9_getsBy rfl rfl (gOb_c rfl) rfl (SX9_lays M e2) (Nat.lt_of_lt_of_le (by decide) hd) ?_
  refine go_rn 8 (pc' := 14) (L' := [some (.ref 141), some (.int x1), some (.int x2), some (.int x3), some (.int x4), some (.int x5)]) (S' := [.int ((x4 <<< (x2 &&& 31)) ||| (x5 <<< (x3 &&& 31))), .ref 141]) (M' := M1) okX9_getsBy rfl ?_
  refine go_ck okX9_getsBy rfl (gOb_c rfl) ?_
  refine go_rn 1 (pc' := 18) (L' := [some (.ref 141), some (.int x1), some (.int x2), some (.int x3), some (.int x4), some (.int x5)]) (S' := [.ref 141]) (M' := (gSI M1 141 26 ((x4 <<< (x2 &&& 31)) ||| (x5 <<< (x3 &&& 31))))) okX9_getsBy rfl ?_
  exact go_wk (CX9_getsBy_18 hd x1 x2 x4 x5 (gSI M1 141 26 ((x4 <<< (x2 &&& 31)) ||| (x5 <<< (x3 &&& 31)))) P k0 h) ⟨rfl, rfl, rfl, rfl, rfl, True.intro⟩
def fX9_getsBy (a1 : Int32) (a2 : Int32) (a3 : Int32) (a4 : Int32) (a5 : Int32) (M : gMem) : Option (Int32 × gMem) := fX9_getsBy_0 a1 a2 a3 a4 a5 M
theorem SX9_getsBy {G : gG} (a1 : Int32) (a2 : Int32) (a3 : Int32) (a4 : Int32) (a5 : Int32) (M : gMem) {r : Int32} {N : gMem} (h : fX9_getsBy a1 a2 a3 a4 a5 M = some (r, N)) : gRun G YX9_getsBy 7 [.ref 141, .int a1, .int a2, .int a3, .int a4, .int a5] M (fun r' N' => r' = some (.int r) ∧ N' = N) := gRun_in (by decide +kernel) rfl (fun d hd => go_wk (CX9_getsBy_0 hd a1 a2 a3 a4 a5 M (fun p => p = (r, N)) (fun r N hh => by cases hh; exact ⟨rfl, rfl⟩) (gq_of h)) ⟨rfl, rfl, rfl, rfl, rfl, rfl, True.intro⟩)
def fX9_rests_99 (x1 : Int32) (x2 : Int32) (x3 : Int32) (x4 : Int32) (s0 : Int32) (M : gMem) : Option (Sum (Int32 × Int32 × gMem) (Int32 × gMem)) :=
  if s0 = 0 then some (.inl ((x3 ||| (0 : Int32)), (x4 + 1), M)) else some (.inl ((x3 ||| ((1 : Int32) <<< (x4 &&& 31))), (x4 + 1), M))
set_option maxRecDepth 100000 in
theorem CX9_rests_99 {G : gG} {d : Nat} {Z : Option Value → gMem → Prop} (hd : 8 ≤ d) (x1 : Int32) (x2 : Int32) (x3 : Int32) (x4 : Int32) (s0 : Int32) (M : gMem) (P : Sum (Int32 × Int32 × gMem) (Int32 × gMem) → Prop) (k0 : ∀ (r : Int32) (N : gMem), P (.inr (r, N)) → Z (some (.int r)) N) (k1 : ∀ (x3 : Int32) (x4 : Int32) (M : gMem), P (.inl (x3, x4, M)) → gGo G YX9_rests d Z 22 [some (.ref 141), some (.int x1), some (.int x2), some (.int x3), some (.int x4), none, none, none] [] M) (h : gOKq (fX9_rests_99 x1 x2 x3 x4 s0 M) P) : gGo G YX9_rests d Z 99 [some (.ref 141), some (.int x1), some (.int x2), some (.int x3), some (.int x4), none, none, none] [.int s0] M := by
  unfold fX9_rests_99 at h
  refine go_rn 3 (pc' := 104) (L' := [some (.ref 141), some (.int x1), some (.int x2), some (.int x3), some (.int x4), none, none, some (.int s0)]) (S' := [.int s0, .int x3]) (M' := M) okX9_rests rfl ?_
  refine go_br okX9_rests rfl (fun hp => ?_) (fun hp => ?_)
  · have h := gq_pos hp h
    refine go_rn 5 (pc' := 22) (L' := [some (.ref 141), some (.int x1), some (.int x2), some (.int (x3 ||| (0 : Int32))), some (.int (x4 + 1)), none, none, some (.int s0)]) (S' := []) (M' := M) okX9_rests rfl ?_
    exact go_wk (k1 ((x3 ||| (0 : Int32))) ((x4 + 1)) M h) ⟨rfl, rfl, rfl, rfl, rfl, True.intro⟩
  · have h := gq_neg hp h
    refine go_rn 8 (pc' := 22) (L' := [some (.ref 141), some (.int x1), some (.int x2), some (.int (x3 ||| ((1 : Int32) <<< (x4 &&& 31)))), some (.int (x4 + 1)), none, none, some (.int s0)]) (S' := []) (M' := M) okX9_rests rfl ?_
    exact go_wk (k1 ((x3 ||| ((1 : Int32) <<< (x4 &&& 31)))) ((x4 + 1)) M h) ⟨rfl, rfl, rfl, rfl, rfl, True.intro⟩
def fX9_rests_98 (x1 : Int32) (x2 : Int32) (x3 : Int32) (x4 : Int32) (M : gMem) : Option (Sum (Int32 × Int32 × gMem) (Int32 × gMem)) :=
  fX9_rests_99 x1 x2 x3 x4 (0 : Int32) M
set_option maxRecDepth 100000 in
theorem CX9_rests_98 {G : gG} {d : Nat} {Z : Option Value → gMem → Prop} (hd : 8 ≤ d) (x1 : Int32) (x2 : Int32) (x3 : Int32) (x4 : Int32) (M : gMem) (P : Sum (Int32 × Int32 × gMem) (Int32 × gMem) → Prop) (k0 : ∀ (r : Int32) (N : gMem), P (.inr (r, N)) → Z (some (.int r)) N) (k1 : ∀ (x3 : Int32) (x4 : Int32) (M : gMem), P (.inl (x3, x4, M)) → gGo G YX9_rests d Z 22 [some (.ref 141), some (.int x1), some (.int x2), some (.int x3), some (.int x4), none, none, none] [] M) (h : gOKq (fX9_rests_98 x1 x2 x3 x4 M) P) : gGo G YX9_rests d Z 98 [some (.ref 141), some (.int x1), some (.int x2), some (.int x3), some (.int x4), none, none, none] [] M := by
  unfold fX9_rests_98 at h
  refine go_rn 1 (pc' := 99) (L' := [some (.ref 141), some (.int x1), some (.int x2), some (.int x3), some (.int x4), none, none, none]) (S' := [.int (0 : Int32)]) (M' := M) okX9_rests rfl ?_
  exact go_wk (CX9_rests_99 hd x1 x2 x3 x4 (0 : Int32) M P k0 k1 h) ⟨rfl, rfl, rfl, rfl, rfl, True.intro⟩
def fX9_rests_22 (x1 : Int32) (x2 : Int32) (x3 : Int32) (x4 : Int32) (M : gMem) : Option (Sum (Int32 × Int32 × gMem) (Int32 × gMem)) :=
  if (4 : Int32) ≤ x4 then some (.inr (x3, M)) else gBp (fX9_getsBy x1 x1 x2 ((1 : Int32) - (x4 - x4 / (2 : Int32) * (2 : Int32))) (x4 / (2 : Int32)) M) (fun r1 M2 => gBp (fX9_getsBy x1 x1 x2 (x4 - x4 / (2 : Int32) * (2 : Int32)) (x4 / (2 : Int32)) M2) (fun r4 M5 => if r4 < r1 then fX9_rests_98 x1 x2 x3 x4 M5 else gBp (fX9_getsBy x2 x1 x2 (x4 - x4 / (2 : Int32) * (2 : Int32)) ((1 : Int32) - (x4 / (2 : Int32))) M5) (fun r7 M8 => gBp (fX9_getsBy x2 x1 x2 (x4 - x4 / (2 : Int32) * (2 : Int32)) (x4 / (2 : Int32)) M8) (fun r10 M11 => if r10 < r7 then fX9_rests_98 x1 x2 x3 x4 M11 else fX9_rests_99 x1 x2 x3 x4 (1 : Int32) M11))))
set_option maxRecDepth 100000 in
theorem CX9_rests_22 {G : gG} {d : Nat} {Z : Option Value → gMem → Prop} (hd : 8 ≤ d) (x1 : Int32) (x2 : Int32) (x3 : Int32) (x4 : Int32) (M : gMem) (P : Sum (Int32 × Int32 × gMem) (Int32 × gMem) → Prop) (k0 : ∀ (r : Int32) (N : gMem), P (.inr (r, N)) → Z (some (.int r)) N) (k1 : ∀ (x3 : Int32) (x4 : Int32) (M : gMem), P (.inl (x3, x4, M)) → gGo G YX9_rests d Z 22 [some (.ref 141), some (.int x1), some (.int x2), some (.int x3), some (.int x4), none, none, none] [] M) (h : gOKq (fX9_rests_22 x1 x2 x3 x4 M) P) : gGo G YX9_rests d Z 22 [some (.ref 141), some (.int x1), some (.int x2), some (.int x3), some (.int x4), none, none, none] [] M := by
  unfold fX9_rests_22 at h
  refine go_rn 2 (pc' := 25) (L' := [some (.ref 141), some (.int x1), some (.int x2), some (.int x3), some (.int x4), none, none, none]) (S' := [.int (4 : Int32), .int x4]) (M' := M) okX9_rests rfl ?_
  refine go_br okX9_rests rfl (fun hp => ?_) (fun hp => ?_)
  · have h := gq_pos hp h
    refine go_rn 1 (pc' := 124) (L' := [some (.ref 141), some (.int x1), some (.int x2), some (.int x3), some (.int x4), none, none, none]) (S' := [.int x3]) (M' := M) okX9_rests rfl ?_
    exact go_iret (reX9_rests _ (by decide)) rfl (k0 x3 M h)
  · have h := gq_neg hp h
    refine go_rn 16 (pc' := 50) (L' := [some (.ref 141), some (.int x1), some (.int x2), some (.int x3), some (.int x4), some (.int (x4 - x4 / (2 : Int32) * (2 : Int32))), some (.int (x4 / (2 : Int32))), none]) (S' := [.int (x4 / (2 : Int32)), .int ((1 : Int32) - (x4 - x4 / (2 : Int32) * (2 : Int32))), .int x2, .int x1, .int x1, .ref 141]) (M' := M) okX9_rests rfl ?_
    obtain ⟨r1, M2, e3, h⟩ := gBp_ok h
    refine go_call1 ocX9_rests rfl rfl (gOb_c rfl) rfl (SX9_getsBy x1 x1 x2 ((1 : Int32) - (x4 - x4 / (2 : Int32) * (2 : Int32))) (x4 / (2 : Int32)) M e3) (Nat.lt_of_lt_of_le (by decide) hd) ?_
    refine go_rn 6 (pc' := 61) (L' := [some (.ref 141), some (.int x1), some (.int x2), some (.int x3), some (.int x4), some (.int (x4 - x4 / (2 : Int32) * (2 : Int32))), some (.int (x4 / (2 : Int32))), none]) (S' := [.int (x4 / (2 : Int32)), .int (x4 - x4 / (2 : Int32) * (2 : Int32)), .int x2, .int x1, .int x1, .ref 141, .int r1]) (M' := M2) okX9_rests rfl ?_
    obtain ⟨r4, M5, e6, h⟩ := gBp_ok h
    refine go_call1 ocX9_rests rfl rfl (gOb_c rfl) rfl (SX9_getsBy x1 x1 x2 (x4 - x4 / (2 : Int32) * (2 : Int32)) (x4 / (2 : Int32)) M2 e6) (Nat.lt_of_lt_of_le (by decide) hd) ?_
    refine go_br okX9_rests rfl (fun hp => ?_) (fun hp => ?_)
    · have h := gq_pos hp h
      exact go_wk (CX9_rests_98 hd x1 x2 x3 x4 M5 P k0 k1 h) ⟨rfl, rfl, rfl, rfl, rfl, True.intro⟩
    · have h := gq_neg hp h
      refine go_rn 8 (pc' := 77) (L' := [some (.ref 141), some (.int x1), some (.int x2), some (.int x3), some (.int x4), some (.int (x4 - x4 / (2 : Int32) * (2 : Int32))), some (.int (x4 / (2 : Int32))), none]) (S' := [.int ((1 : Int32) - (x4 / (2 : Int32))), .int (x4 - x4 / (2 : Int32) * (2 : Int32)), .int x2, .int x1, .int x2, .ref 141]) (M' := M5) okX9_rests rfl ?_
      obtain ⟨r7, M8, e9, h⟩ := gBp_ok h
      refine go_call1 ocX9_rests rfl rfl (gOb_c rfl) rfl (SX9_getsBy x2 x1 x2 (x4 - x4 / (2 : Int32) * (2 : Int32)) ((1 : Int32) - (x4 / (2 : Int32))) M5 e9) (Nat.lt_of_lt_of_le (by decide) hd) ?_
      refine go_rn 6 (pc' := 88) (L' := [some (.ref 141), some (.int x1), some (.int x2), some (.int x3), some (.int x4), some (.int (x4 - x4 / (2 : Int32) * (2 : Int32))), some (.int (x4 / (2 : Int32))), none]) (S' := [.int (x4 / (2 : Int32)), .int (x4 - x4 / (2 : Int32) * (2 : Int32)), .int x2, .int x1, .int x2, .ref 141, .int r7]) (M' := M8) okX9_rests rfl ?_
      obtain ⟨r10, M11, e12, h⟩ := gBp_ok h
      refine go_call1 ocX9_rests rfl rfl (gOb_c rfl) rfl (SX9_getsBy x2 x1 x2 (x4 - x4 / (2 : Int32) * (2 : Int32)) (x4 / (2 : Int32)) M8 e12) (Nat.lt_of_lt_of_le (by decide) hd) ?_
      refine go_br okX9_rests rfl (fun hp => ?_) (fun hp => ?_)
      · have h := gq_pos hp h
        exact go_wk (CX9_rests_98 hd x1 x2 x3 x4 M11 P k0 k1 h) ⟨rfl, rfl, rfl, rfl, rfl, True.intro⟩
      · have h := gq_neg hp h
        refine go_rn 2 (pc' := 99) (L' := [some (.ref 141), some (.int x1), some (.int x2), some (.int x3), some (.int x4), some (.int (x4 - x4 / (2 : Int32) * (2 : Int32))), some (.int (x4 / (2 : Int32))), none]) (S' := [.int (1 : Int32)]) (M' := M11) okX9_rests rfl ?_
        exact go_wk (CX9_rests_99 hd x1 x2 x3 x4 (1 : Int32) M11 P k0 k1 h) ⟨rfl, rfl, rfl, rfl, rfl, True.intro⟩
def fX9_rests_22h (x1 : Int32) (x2 : Int32) (x3 : Int32) (x4 : Int32) (M : gMem) : Option (Int32 × gMem) :=
  gLp (fun s : Int32 × Int32 × gMem => fX9_rests_22 x1 x2 (s.1) (s.2.1) s.2.2) gFu (x3, x4, M)
set_option maxRecDepth 100000 in
theorem CX9_rests_22h {G : gG} {d : Nat} {Z : Option Value → gMem → Prop} (hd : 8 ≤ d) (x1 : Int32) (x2 : Int32) (x3 : Int32) (x4 : Int32) (M : gMem) (P : Int32 × gMem → Prop) (k0 : ∀ (r : Int32) (N : gMem), P (r, N) → Z (some (.int r)) N) (h : gOKq (fX9_rests_22h x1 x2 x3 x4 M) P) : gGo G YX9_rests d Z 22 [some (.ref 141), some (.int x1), some (.int x2), some (.int x3), some (.int x4), none, none, none] [] M :=
  gLp_go (K := fun s : Int32 × Int32 × gMem => gGo G YX9_rests d Z 22 [some (.ref 141), some (.int x1), some (.int x2), some (.int s.1), some (.int s.2.1), none, none, none] [] s.2.2) (P := P) (fun s hs => CX9_rests_22 hd (x1) (x2) (s.1) (s.2.1) (s.2.2) (Sum.elim (fun s : Int32 × Int32 × gMem => gGo G YX9_rests d Z 22 [some (.ref 141), some (.int x1), some (.int x2), some (.int s.1), some (.int s.2.1), none, none, none] [] s.2.2) P) k0 (fun x3 x4 M hh => hh) hs) gFu (x3, x4, M) h
def fX9_rests_8 (x1 : Int32) (x2 : Int32) (s0 : Int32) (s1 : Int32) (M : gMem) : Option (Int32 × gMem) :=
  gB0 (fX9_areTwo s1 s0 M) (fun r1 => if r1 = 0 then some ((-2 : Int32), M) else fX9_rests_22h x1 x2 (0 : Int32) (0 : Int32) M)
set_option maxRecDepth 100000 in
theorem CX9_rests_8 {G : gG} {d : Nat} {Z : Option Value → gMem → Prop} (hd : 8 ≤ d) (x1 : Int32) (x2 : Int32) (s0 : Int32) (s1 : Int32) (M : gMem) (P : Int32 × gMem → Prop) (k0 : ∀ (r : Int32) (N : gMem), P (r, N) → Z (some (.int r)) N) (h : gOKq (fX9_rests_8 x1 x2 s0 s1 M) P) : gGo G YX9_rests d Z 8 [some (.ref 141), some (.int x1), some (.int x2), none, none, none, none, none] [.int s0, .int s1, .ref 141] M := by
  unfold fX9_rests_8 at h
  obtain ⟨r1, e2, h⟩ := gB0_ok h
  refine go_call1 ocX9_rests rfl rfl (gOb_c rfl) rfl (SX9_areTwo s1 s0 M e2) (Nat.lt_of_lt_of_le (by decide) hd) ?_
  refine go_br okX9_rests rfl (fun hp => ?_) (fun hp => ?_)
  · have h := gq_pos hp h
    refine go_rn 1 (pc' := 16) (L' := [some (.ref 141), some (.int x1), some (.int x2), none, none, none, none, none]) (S' := [.int (-2 : Int32)]) (M' := M) okX9_rests rfl ?_
    exact go_iret (reX9_rests _ (by decide)) rfl (k0 (-2 : Int32) M h)
  · have h := gq_neg hp h
    refine go_rn 4 (pc' := 22) (L' := [some (.ref 141), some (.int x1), some (.int x2), some (.int (0 : Int32)), some (.int (0 : Int32)), none, none, none]) (S' := []) (M' := M) okX9_rests rfl ?_
    exact go_wk (CX9_rests_22h hd x1 x2 (0 : Int32) (0 : Int32) M P k0 h) ⟨rfl, rfl, rfl, rfl, rfl, True.intro⟩
def fX9_rests_0 (x1 : Int32) (x2 : Int32) (M : gMem) : Option (Int32 × gMem) :=
  fX9_rests_8 x1 x2 x2 x1 (gSI M 141 0 (0 : Int32))
set_option maxRecDepth 100000 in
theorem CX9_rests_0 {G : gG} {d : Nat} {Z : Option Value → gMem → Prop} (hd : 8 ≤ d) (x1 : Int32) (x2 : Int32) (M : gMem) (P : Int32 × gMem → Prop) (k0 : ∀ (r : Int32) (N : gMem), P (r, N) → Z (some (.int r)) N) (h : gOKq (fX9_rests_0 x1 x2 M) P) : gGo G YX9_rests d Z 0 [some (.ref 141), some (.int x1), some (.int x2), none, none, none, none, none] [] M := by
  unfold fX9_rests_0 at h
  refine go_rn 2 (pc' := 2) (L' := [some (.ref 141), some (.int x1), some (.int x2), none, none, none, none, none]) (S' := [.int (0 : Int32), .ref 141]) (M' := M) okX9_rests rfl ?_
  refine go_ck okX9_rests rfl (gOb_c rfl) ?_
  refine go_rn 3 (pc' := 8) (L' := [some (.ref 141), some (.int x1), some (.int x2), none, none, none, none, none]) (S' := [.int x2, .int x1, .ref 141]) (M' := (gSI M 141 0 (0 : Int32))) okX9_rests rfl ?_
  exact go_wk (CX9_rests_8 hd x1 x2 x2 x1 (gSI M 141 0 (0 : Int32)) P k0 h) ⟨rfl, rfl, rfl, True.intro⟩
def fX9_rests (a1 : Int32) (a2 : Int32) (M : gMem) : Option (Int32 × gMem) := fX9_rests_0 a1 a2 M
theorem SX9_rests {G : gG} (a1 : Int32) (a2 : Int32) (M : gMem) {r : Int32} {N : gMem} (h : fX9_rests a1 a2 M = some (r, N)) : gRun G YX9_rests 8 [.ref 141, .int a1, .int a2] M (fun r' N' => r' = some (.int r) ∧ N' = N) := gRun_in (by decide +kernel) rfl (fun d hd => go_wk (CX9_rests_0 hd a1 a2 M (fun p => p = (r, N)) (fun r N hh => by cases hh; exact ⟨rfl, rfl⟩) (gq_of h)) ⟨rfl, rfl, rfl, True.intro⟩)
def fX9_gets_8 (x1 : Int32) (x2 : Int32) (x3 : Int32) (x4 : Int32) (s0 : Int32) (s1 : Int32) (M : gMem) : Option (Int32 × gMem) :=
  gB0 (fX9_areTwo s1 s0 M) (fun r1 => if r1 = 0 then some ((-10000 : Int32), M) else gB0 (fX9_isHalf x3 M) (fun r3 => if r3 = 0 then some ((-10000 : Int32), M) else gB0 (fX9_isHalf x4 M) (fun r5 => if r5 = 0 then some ((-10000 : Int32), M) else gBp (fX9_getsBy x1 x1 x2 x3 x4 M) (fun r7 M8 => some (r7, M8)))))
set_option maxRecDepth 100000 in
theorem CX9_gets_8 {G : gG} {d : Nat} {Z : Option Value → gMem → Prop} (hd : 8 ≤ d) (x1 : Int32) (x2 : Int32) (x3 : Int32) (x4 : Int32) (s0 : Int32) (s1 : Int32) (M : gMem) (P : Int32 × gMem → Prop) (k0 : ∀ (r : Int32) (N : gMem), P (r, N) → Z (some (.int r)) N) (h : gOKq (fX9_gets_8 x1 x2 x3 x4 s0 s1 M) P) : gGo G YX9_gets d Z 8 [some (.ref 141), some (.int x1), some (.int x2), some (.int x3), some (.int x4)] [.int s0, .int s1, .ref 141] M := by
  unfold fX9_gets_8 at h
  obtain ⟨r1, e2, h⟩ := gB0_ok h
  refine go_call1 ocX9_gets rfl rfl (gOb_c rfl) rfl (SX9_areTwo s1 s0 M e2) (Nat.lt_of_lt_of_le (by decide) hd) ?_
  refine go_br okX9_gets rfl (fun hp => ?_) (fun hp => ?_)
  · have h := gq_pos hp h
    refine go_rn 1 (pc' := 45) (L' := [some (.ref 141), some (.int x1), some (.int x2), some (.int x3), some (.int x4)]) (S' := [.int (-10000 : Int32)]) (M' := M) okX9_gets rfl ?_
    exact go_iret (reX9_gets _ (by decide)) rfl (k0 (-10000 : Int32) M h)
  · have h := gq_neg hp h
    refine go_rn 1 (pc' := 15) (L' := [some (.ref 141), some (.int x1), some (.int x2), some (.int x3), some (.int x4)]) (S' := [.int x3]) (M' := M) okX9_gets rfl ?_
    obtain ⟨r3, e4, h⟩ := gB0_ok h
    refine go_call1 ocX9_gets rfl rfl rfl rfl (SX9_isHalf x3 M e4) (Nat.lt_of_lt_of_le (by decide) hd) ?_
    refine go_br okX9_gets rfl (fun hp => ?_) (fun hp => ?_)
    · have h := gq_pos hp h
      refine go_rn 1 (pc' := 45) (L' := [some (.ref 141), some (.int x1), some (.int x2), some (.int x3), some (.int x4)]) (S' := [.int (-10000 : Int32)]) (M' := M) okX9_gets rfl ?_
      exact go_iret (reX9_gets _ (by decide)) rfl (k0 (-10000 : Int32) M h)
    · have h := gq_neg hp h
      refine go_rn 1 (pc' := 23) (L' := [some (.ref 141), some (.int x1), some (.int x2), some (.int x3), some (.int x4)]) (S' := [.int x4]) (M' := M) okX9_gets rfl ?_
      obtain ⟨r5, e6, h⟩ := gB0_ok h
      refine go_call1 ocX9_gets rfl rfl rfl rfl (SX9_isHalf x4 M e6) (Nat.lt_of_lt_of_le (by decide) hd) ?_
      refine go_br okX9_gets rfl (fun hp => ?_) (fun hp => ?_)
      · have h := gq_pos hp h
        refine go_rn 1 (pc' := 45) (L' := [some (.ref 141), some (.int x1), some (.int x2), some (.int x3), some (.int x4)]) (S' := [.int (-10000 : Int32)]) (M' := M) okX9_gets rfl ?_
        exact go_iret (reX9_gets _ (by decide)) rfl (k0 (-10000 : Int32) M h)
      · have h := gq_neg hp h
        refine go_rn 6 (pc' := 36) (L' := [some (.ref 141), some (.int x1), some (.int x2), some (.int x3), some (.int x4)]) (S' := [.int x4, .int x3, .int x2, .int x1, .int x1, .ref 141]) (M' := M) okX9_gets rfl ?_
        obtain ⟨r7, M8, e9, h⟩ := gBp_ok h
        refine go_call1 ocX9_gets rfl rfl (gOb_c rfl) rfl (SX9_getsBy x1 x1 x2 x3 x4 M e9) (Nat.lt_of_lt_of_le (by decide) hd) ?_
        refine go_rn 1 (pc' := 45) (L' := [some (.ref 141), some (.int x1), some (.int x2), some (.int x3), some (.int x4)]) (S' := [.int r7]) (M' := M8) okX9_gets rfl ?_
        exact go_iret (reX9_gets _ (by decide)) rfl (k0 r7 M8 h)
def fX9_gets_0 (x1 : Int32) (x2 : Int32) (x3 : Int32) (x4 : Int32) (M : gMem) : Option (Int32 × gMem) :=
  fX9_gets_8 x1 x2 x3 x4 x2 x1 (gSI M 141 0 (0 : Int32))
set_option maxRecDepth 100000 in
theorem CX9_gets_0 {G : gG} {d : Nat} {Z : Option Value → gMem → Prop} (hd : 8 ≤ d) (x1 : Int32) (x2 : Int32) (x3 : Int32) (x4 : Int32) (M : gMem) (P : Int32 × gMem → Prop) (k0 : ∀ (r : Int32) (N : gMem), P (r, N) → Z (some (.int r)) N) (h : gOKq (fX9_gets_0 x1 x2 x3 x4 M) P) : gGo G YX9_gets d Z 0 [some (.ref 141), some (.int x1), some (.int x2), some (.int x3), some (.int x4)] [] M := by
  unfold fX9_gets_0 at h
  refine go_rn 2 (pc' := 2) (L' := [some (.ref 141), some (.int x1), some (.int x2), some (.int x3), some (.int x4)]) (S' := [.int (0 : Int32), .ref 141]) (M' := M) okX9_gets rfl ?_
  refine go_ck okX9_gets rfl (gOb_c rfl) ?_
  refine go_rn 3 (pc' := 8) (L' := [some (.ref 141), some (.int x1), some (.int x2), some (.int x3), some (.int x4)]) (S' := [.int x2, .int x1, .ref 141]) (M' := (gSI M 141 0 (0 : Int32))) okX9_gets rfl ?_
  exact go_wk (CX9_gets_8 hd x1 x2 x3 x4 x2 x1 (gSI M 141 0 (0 : Int32)) P k0 h) ⟨rfl, rfl, rfl, rfl, rfl, True.intro⟩
def fX9_gets (a1 : Int32) (a2 : Int32) (a3 : Int32) (a4 : Int32) (M : gMem) : Option (Int32 × gMem) := fX9_gets_0 a1 a2 a3 a4 M
theorem SX9_gets {G : gG} (a1 : Int32) (a2 : Int32) (a3 : Int32) (a4 : Int32) (M : gMem) {r : Int32} {N : gMem} (h : fX9_gets a1 a2 a3 a4 M = some (r, N)) : gRun G YX9_gets 8 [.ref 141, .int a1, .int a2, .int a3, .int a4] M (fun r' N' => r' = some (.int r) ∧ N' = N) := gRun_in (by decide +kernel) rfl (fun d hd => go_wk (CX9_gets_0 hd a1 a2 a3 a4 M (fun p => p = (r, N)) (fun r N hh => by cases hh; exact ⟨rfl, rfl⟩) (gq_of h)) ⟨rfl, rfl, rfl, rfl, rfl, True.intro⟩)
def fX9_bothAtLast_0 (x1 : Int32) (x2 : Int32) (M : gMem) : Option (Int32) :=
  gB0 (fX9_years M) (fun r1 => if gIx 1 158 ((((12 : Int32) * x1) + r1) - (1 : Int32)) = true then gB0 (fX9_years M) (fun r4 => if gIx 1 158 ((((12 : Int32) * x2) + r4) - (1 : Int32)) = true then some ((M.1 158 (Int32.toNatClampNeg ((((12 : Int32) * x1) + r1) - (1 : Int32)))) + (M.1 158 (Int32.toNatClampNeg ((((12 : Int32) * x2) + r4) - (1 : Int32))))) else none) else none)
set_option maxRecDepth 100000 in
theorem CX9_bothAtLast_0 {G : gG} {d : Nat} {Z : Option Value → gMem → Prop} (hd : 1 ≤ d) (x1 : Int32) (x2 : Int32) (M : gMem) (P : Int32 → Prop) (k0 : ∀ (r : Int32), P r → Z (some (.int r)) M) (h : gOKq (fX9_bothAtLast_0 x1 x2 M) P) : gGo G YX9_bothAtLast d Z 0 [some (.ref 141), some (.int x1), some (.int x2)] [] M := by
  unfold fX9_bothAtLast_0 at h
  refine go_rn 1 (pc' := 1) (L' := [some (.ref 141), some (.int x1), some (.int x2)]) (S' := [.ref 141]) (M' := M) okX9_bothAtLast rfl ?_
  refine go_ck okX9_bothAtLast rfl (gOb_c rfl) ?_
  refine go_rn 4 (pc' := 9) (L' := [some (.ref 141), some (.int x1), some (.int x2)]) (S' := [.ref 141, .int ((12 : Int32) * x1), .ref 158]) (M' := M) okX9_bothAtLast rfl ?_
  obtain ⟨r1, e2, h⟩ := gB0_ok h
  refine go_call1 ocX9_bothAtLast rfl rfl (gOb_c rfl) rfl (SX9_years M e2) (Nat.lt_of_lt_of_le (by decide) hd) ?_
  refine go_rn 3 (pc' := 15) (L' := [some (.ref 141), some (.int x1), some (.int x2)]) (S' := [.int ((((12 : Int32) * x1) + r1) - (1 : Int32)), .ref 158]) (M' := M) okX9_bothAtLast rfl ?_
  obtain ⟨c3, h⟩ := gq_if h
  refine go_ck okX9_bothAtLast rfl c3 ?_
  refine go_rn 1 (pc' := 17) (L' := [some (.ref 141), some (.int x1), some (.int x2)]) (S' := [.ref 141, .int (M.1 158 (Int32.toNatClampNeg ((((12 : Int32) * x1) + r1) - (1 : Int32))))]) (M' := M) okX9_bothAtLast rfl ?_
  refine go_ck okX9_bothAtLast rfl (gOb_c rfl) ?_
  refine go_rn 4 (pc' := 25) (L' := [some (.ref 141), some (.int x1), some (.int x2)]) (S' := [.ref 141, .int ((12 : Int32) * x2), .ref 158, .int (M.1 158 (Int32.toNatClampNeg ((((12 : Int32) * x1) + r1) - (1 : Int32))))]) (M' := M) okX9_bothAtLast rfl ?_
  obtain ⟨r4, e5, h⟩ := gB0_ok h
  refine go_call1 ocX9_bothAtLast rfl rfl (gOb_c rfl) rfl (SX9_years M e5) (Nat.lt_of_lt_of_le (by decide) hd) ?_
  refine go_rn 3 (pc' := 31) (L' := [some (.ref 141), some (.int x1), some (.int x2)]) (S' := [.int ((((12 : Int32) * x2) + r4) - (1 : Int32)), .ref 158, .int (M.1 158 (Int32.toNatClampNeg ((((12 : Int32) * x1) + r1) - (1 : Int32))))]) (M' := M) okX9_bothAtLast rfl ?_
  obtain ⟨c6, h⟩ := gq_if h
  refine go_ck okX9_bothAtLast rfl c6 ?_
  refine go_rn 1 (pc' := 33) (L' := [some (.ref 141), some (.int x1), some (.int x2)]) (S' := [.int ((M.1 158 (Int32.toNatClampNeg ((((12 : Int32) * x1) + r1) - (1 : Int32)))) + (M.1 158 (Int32.toNatClampNeg ((((12 : Int32) * x2) + r4) - (1 : Int32)))))]) (M' := M) okX9_bothAtLast rfl ?_
  exact go_iret (reX9_bothAtLast _ (by decide)) rfl (k0 ((M.1 158 (Int32.toNatClampNeg ((((12 : Int32) * x1) + r1) - (1 : Int32)))) + (M.1 158 (Int32.toNatClampNeg ((((12 : Int32) * x2) + r4) - (1 : Int32))))) h)
def fX9_bothAtLast (a1 : Int32) (a2 : Int32) (M : gMem) : Option (Int32) := fX9_bothAtLast_0 a1 a2 M
theorem SX9_bothAtLast {G : gG} (a1 : Int32) (a2 : Int32) (M : gMem) {r : Int32} (h : fX9_bothAtLast a1 a2 M = some r) : gRun G YX9_bothAtLast 1 [.ref 141, .int a1, .int a2] M (fun r' N' => r' = some (.int r) ∧ N' = M) := gRun_in (by decide +kernel) rfl (fun d hd => go_wk (CX9_bothAtLast_0 hd a1 a2 M (fun p => p = r) (fun r hh => ⟨congrArg (fun z => some (Value.int z)) hh, rfl⟩) (gq_of h)) ⟨rfl, rfl, rfl, True.intro⟩)
def fX9_when_64 (x1 : Int32) (x2 : Int32) (x3 : Int32) (x4 : Int32) (x5 : Int32) (M : gMem) : Option (Sum (Int32 × Int32 × Int32 × gMem) (Int32 × gMem)) :=
  gB0 (fX9_runs_ M) (fun M1 => gB0 (fX9_bothAtLast x1 x2 M1) (fun r3 => if x4 < r3 then gB0 (fX9_bothAtLast x1 x2 M1) (fun r5 => some (.inl (x5, r5, (x5 + 1), M1))) else some (.inl (x3, x4, (x5 + 1), M1))))
set_option maxRecDepth 100000 in
theorem CX9_when_64 {G : gG} {d : Nat} {Z : Option Value → gMem → Prop} (hd : 8 ≤ d) (x1 : Int32) (x2 : Int32) (x3 : Int32) (x4 : Int32) (x5 : Int32) (M : gMem) (P : Sum (Int32 × Int32 × Int32 × gMem) (Int32 × gMem) → Prop) (k0 : ∀ (r : Int32) (N : gMem), P (.inr (r, N)) → Z (some (.int r)) N) (k1 : ∀ (x3 : Int32) (x4 : Int32) (x5 : Int32) (M : gMem), P (.inl (x3, x4, x5, M)) → gGo G YX9_when d Z 34 [some (.ref 141), some (.int x1), some (.int x2), some (.int x3), some (.int x4), some (.int x5)] [] M) (h : gOKq (fX9_when_64 x1 x2 x3 x4 x5 M) P) : gGo G YX9_when d Z 64 [some (.ref 141), some (.int x1), some (.int x2), some (.int x3), some (.int x4), some (.int x5)] [.ref 141] M := by
  unfold fX9_when_64 at h
  obtain ⟨M1, e2, h⟩ := gB0_ok h
  refine go_call1 ocX9_when rfl rfl (gOb_c rfl) rfl (SX9_runs_ M e2) (Nat.lt_of_lt_of_le (by decide) hd) ?_
  refine go_rn 3 (pc' := 70) (L' := [some (.ref 141), some (.int x1), some (.int x2), some (.int x3), some (.int x4), some (.int x5)]) (S' := [.int x2, .int x1, .ref 141]) (M' := M1) okX9_when rfl ?_
  obtain ⟨r3, e4, h⟩ := gB0_ok h
  refine go_call1 ocX9_when rfl rfl (gOb_c rfl) rfl (SX9_bothAtLast x1 x2 M1 e4) (Nat.lt_of_lt_of_le (by decide) hd) ?_
  refine go_rn 1 (pc' := 75) (L' := [some (.ref 141), some (.int x1), some (.int x2), some (.int x3), some (.int x4), some (.int x5)]) (S' := [.int x4, .int r3]) (M' := M1) okX9_when rfl ?_
  refine go_br okX9_when rfl (fun hp => ?_) (fun hp => ?_)
  · have h := gq_pos hp h
    refine go_rn 5 (pc' := 87) (L' := [some (.ref 141), some (.int x1), some (.int x2), some (.int x5), some (.int x4), some (.int x5)]) (S' := [.int x2, .int x1, .ref 141]) (M' := M1) okX9_when rfl ?_
    obtain ⟨r5, e6, h⟩ := gB0_ok h
    refine go_call1 ocX9_when rfl rfl (gOb_c rfl) rfl (SX9_bothAtLast x1 x2 M1 e6) (Nat.lt_of_lt_of_le (by decide) hd) ?_
    refine go_rn 3 (pc' := 34) (L' := [some (.ref 141), some (.int x1), some (.int x2), some (.int x5), some (.int r5), some (.int (x5 + 1))]) (S' := []) (M' := M1) okX9_when rfl ?_
    exact go_wk (k1 (x5) (r5) ((x5 + 1)) M1 h) ⟨rfl, rfl, rfl, rfl, rfl, rfl, True.intro⟩
  · have h := gq_neg hp h
    refine go_rn 3 (pc' := 34) (L' := [some (.ref 141), some (.int x1), some (.int x2), some (.int x3), some (.int x4), some (.int (x5 + 1))]) (S' := []) (M' := M1) okX9_when rfl ?_
    exact go_wk (k1 (x3) (x4) ((x5 + 1)) M1 h) ⟨rfl, rfl, rfl, rfl, rfl, rfl, True.intro⟩
def fX9_when_60 (x1 : Int32) (x2 : Int32) (x3 : Int32) (x4 : Int32) (x5 : Int32) (s0 : Int32) (M : gMem) : Option (Sum (Int32 × Int32 × Int32 × gMem) (Int32 × gMem)) :=
  fX9_when_64 x1 x2 x3 x4 x5 (gSI M 141 30 s0)
set_option maxRecDepth 100000 in
theorem CX9_when_60 {G : gG} {d : Nat} {Z : Option Value → gMem → Prop} (hd : 8 ≤ d) (x1 : Int32) (x2 : Int32) (x3 : Int32) (x4 : Int32) (x5 : Int32) (s0 : Int32) (M : gMem) (P : Sum (Int32 × Int32 × Int32 × gMem) (Int32 × gMem) → Prop) (k0 : ∀ (r : Int32) (N : gMem), P (.inr (r, N)) → Z (some (.int r)) N) (k1 : ∀ (x3 : Int32) (x4 : Int32) (x5 : Int32) (M : gMem), P (.inl (x3, x4, x5, M)) → gGo G YX9_when d Z 34 [some (.ref 141), some (.int x1), some (.int x2), some (.int x3), some (.int x4), some (.int x5)] [] M) (h : gOKq (fX9_when_60 x1 x2 x3 x4 x5 s0 M) P) : gGo G YX9_when d Z 60 [some (.ref 141), some (.int x1), some (.int x2), some (.int x3), some (.int x4), some (.int x5)] [.int s0, .ref 141] M := by
  unfold fX9_when_60 at h
  refine go_ck okX9_when rfl (gOb_c rfl) ?_
  refine go_rn 1 (pc' := 64) (L' := [some (.ref 141), some (.int x1), some (.int x2), some (.int x3), some (.int x4), some (.int x5)]) (S' := [.ref 141]) (M' := (gSI M 141 30 s0)) okX9_when rfl ?_
  exact go_wk (CX9_when_64 hd x1 x2 x3 x4 x5 (gSI M 141 30 s0) P k0 k1 h) ⟨rfl, rfl, rfl, rfl, rfl, rfl, True.intro⟩
def fX9_when_54 (x1 : Int32) (x2 : Int32) (x3 : Int32) (x4 : Int32) (x5 : Int32) (s0 : Int32) (M : gMem) : Option (Sum (Int32 × Int32 × Int32 × gMem) (Int32 × gMem)) :=
  fX9_when_60 x1 x2 x3 x4 x5 x5 (gSI M 141 29 s0)
set_option maxRecDepth 100000 in
theorem CX9_when_54 {G : gG} {d : Nat} {Z : Option Value → gMem → Prop} (hd : 8 ≤ d) (x1 : Int32) (x2 : Int32) (x3 : Int32) (x4 : Int32) (x5 : Int32) (s0 : Int32) (M : gMem) (P : Sum (Int32 × Int32 × Int32 × gMem) (Int32 × gMem) → Prop) (k0 : ∀ (r : Int32) (N : gMem), P (.inr (r, N)) → Z (some (.int r)) N) (k1 : ∀ (x3 : Int32) (x4 : Int32) (x5 : Int32) (M : gMem), P (.inl (x3, x4, x5, M)) → gGo G YX9_when d Z 34 [some (.ref 141), some (.int x1), some (.int x2), some (.int x3), some (.int x4), some (.int x5)] [] M) (h : gOKq (fX9_when_54 x1 x2 x3 x4 x5 s0 M) P) : gGo G YX9_when d Z 54 [some (.ref 141), some (.int x1), some (.int x2), some (.int x3), some (.int x4), some (.int x5)] [.int s0, .ref 141] M := by
  unfold fX9_when_54 at h
  refine go_ck okX9_when rfl (gOb_c rfl) ?_
  refine go_rn 2 (pc' := 60) (L' := [some (.ref 141), some (.int x1), some (.int x2), some (.int x3), some (.int x4), some (.int x5)]) (S' := [.int x5, .ref 141]) (M' := (gSI M 141 29 s0)) okX9_when rfl ?_
  exact go_wk (CX9_when_60 hd x1 x2 x3 x4 x5 x5 (gSI M 141 29 s0) P k0 k1 h) ⟨rfl, rfl, rfl, rfl, rfl, rfl, True.intro⟩
def fX9_when_34 (x1 : Int32) (x2 : Int32) (x3 : Int32) (x4 : Int32) (x5 : Int32) (M : gMem) : Option (Sum (Int32 × Int32 × Int32 × gMem) (Int32 × gMem)) :=
  gB0 (fX9_years M) (fun r1 => if r1 ≤ x5 then some (.inr (x3, M)) else gB0 (fX9_lays M) (fun M3 => fX9_when_54 x1 x2 x3 x4 x5 x2 (gSI M3 141 28 x1)))
set_option maxRecDepth 100000 in
theorem CX9_when_34 {G : gG} {d : Nat} {Z : Option Value → gMem → Prop} (hd : 8 ≤ d) (x1 : Int32) (x2 : Int32) (x3 : Int32) (x4 : Int32) (x5 : Int32) (M : gMem) (P : Sum (Int32 × Int32 × Int32 × gMem) (Int32 × gMem) → Prop) (k0 : ∀ (r : Int32) (N : gMem), P (.inr (r, N)) → Z (some (.int r)) N) (k1 : ∀ (x3 : Int32) (x4 : Int32) (x5 : Int32) (M : gMem), P (.inl (x3, x4, x5, M)) → gGo G YX9_when d Z 34 [some (.ref 141), some (.int x1), some (.int x2), some (.int x3), some (.int x4), some (.int x5)] [] M) (h : gOKq (fX9_when_34 x1 x2 x3 x4 x5 M) P) : gGo G YX9_when d Z 34 [some (.ref 141), some (.int x1), some (.int x2), some (.int x3), some (.int x4), some (.int x5)] [] M := by
  unfold fX9_when_34 at h
  refine go_rn 2 (pc' := 37) (L' := [some (.ref 141), some (.int x1), some (.int x2), some (.int x3), some (.int x4), some (.int x5)]) (S' := [.ref 141, .int x5]) (M' := M) okX9_when rfl ?_
  obtain ⟨r1, e2, h⟩ := gB0_ok h
  refine go_call1 ocX9_when rfl rfl (gOb_c rfl) rfl (SX9_years M e2) (Nat.lt_of_lt_of_le (by decide) hd) ?_
  refine go_br okX9_when rfl (fun hp => ?_) (fun hp => ?_)
  · have h := gq_pos hp h
    refine go_rn 1 (pc' := 99) (L' := [some (.ref 141), some (.int x1), some (.int x2), some (.int x3), some (.int x4), some (.int x5)]) (S' := [.int x3]) (M' := M) okX9_when rfl ?_
    exact go_iret (reX9_when _ (by decide)) rfl (k0 x3 M h)
  · have h := gq_neg hp h
    refine go_rn 1 (pc' := 44) (L' := [some (.ref 141), some (.int x1), some (.int x2), some (.int x3), some (.int x4), some (.int x5)]) (S' := [.ref 141]) (M' := M) okX9_when rfl ?_
    obtain ⟨M3, e4, h⟩ := gB0_ok h
    refine go_call1 ocX9_when rfl rfl (gOb_c rfl) rfl (SX9_lays M e4) (Nat.lt_of_lt_of_le (by decide) hd) ?_
    refine go_rn 2 (pc' := 49) (L' := [some (.ref 141), some (.int x1), some (.int x2), some (.int x3), some (.int x4), some (.int x5)]) (S' := [.int x1, .ref 141]) (M' := M3) okX9_when rfl ?_
    refine go_ck okX9_when rfl (gOb_c rfl) ?_
    refine go_rn 2 (pc' := 54) (L' := [some (.ref 141), some (.int x1), some (.int x2), some (.int x3), some (.int x4), some (.int x5)]) (S' := [.int x2, .ref 141]) (M' := (gSI M3 141 28 x1)) okX9_when rfl ?_
    exact go_wk (CX9_when_54 hd x1 x2 x3 x4 x5 x2 (gSI M3 141 28 x1) P k0 k1 h) ⟨rfl, rfl, rfl, rfl, rfl, rfl, True.intro⟩
def fX9_when_34h (x1 : Int32) (x2 : Int32) (x3 : Int32) (x4 : Int32) (x5 : Int32) (M : gMem) : Option (Int32 × gMem) :=
  gLp (fun s : Int32 × Int32 × Int32 × gMem => fX9_when_34 x1 x2 (s.1) (s.2.1) (s.2.2.1) s.2.2.2) gFu (x3, x4, x5, M)
set_option maxRecDepth 100000 in
theorem CX9_when_34h {G : gG} {d : Nat} {Z : Option Value → gMem → Prop} (hd : 8 ≤ d) (x1 : Int32) (x2 : Int32) (x3 : Int32) (x4 : Int32) (x5 : Int32) (M : gMem) (P : Int32 × gMem → Prop) (k0 : ∀ (r : Int32) (N : gMem), P (r, N) → Z (some (.int r)) N) (h : gOKq (fX9_when_34h x1 x2 x3 x4 x5 M) P) : gGo G YX9_when d Z 34 [some (.ref 141), some (.int x1), some (.int x2), some (.int x3), some (.int x4), some (.int x5)] [] M :=
  gLp_go (K := fun s : Int32 × Int32 × Int32 × gMem => gGo G YX9_when d Z 34 [some (.ref 141), some (.int x1), some (.int x2), some (.int s.1), some (.int s.2.1), some (.int s.2.2.1)] [] s.2.2.2) (P := P) (fun s hs => CX9_when_34 hd (x1) (x2) (s.1) (s.2.1) (s.2.2.1) (s.2.2.2) (Sum.elim (fun s : Int32 × Int32 × Int32 × gMem => gGo G YX9_when d Z 34 [some (.ref 141), some (.int x1), some (.int x2), some (.int s.1), some (.int s.2.1), some (.int s.2.2.1)] [] s.2.2.2) P) k0 (fun x3 x4 x5 M hh => hh) hs) gFu (x3, x4, x5, M) h
def fX9_when_8 (x1 : Int32) (x2 : Int32) (s0 : Int32) (s1 : Int32) (M : gMem) : Option (Int32 × gMem) :=
  gB0 (fX9_areTwo s1 s0 M) (fun r1 => if r1 = 0 then some ((-2 : Int32), M) else gB0 (fX9_laysNow M) (fun M3 => gB0 (fX9_bothAtLast x1 x2 M3) (fun r5 => fX9_when_34h x1 x2 (-1 : Int32) r5 (0 : Int32) M3)))
set_option maxRecDepth 100000 in
theorem CX9_when_8 {G : gG} {d : Nat} {Z : Option Value → gMem → Prop} (hd : 8 ≤ d) (x1 : Int32) (x2 : Int32) (s0 : Int32) (s1 : Int32) (M : gMem) (P : Int32 × gMem → Prop) (k0 : ∀ (r : Int32) (N : gMem), P (r, N) → Z (some (.int r)) N) (h : gOKq (fX9_when_8 x1 x2 s0 s1 M) P) : gGo G YX9_when d Z 8 [some (.ref 141), some (.int x1), some (.int x2), none, none, none] [.int s0, .int s1, .ref 141] M := by
  unfold fX9_when_8 at h
  obtain ⟨r1, e2, h⟩ := gB0_ok h
  refine go_call1 ocX9_when rfl rfl (gOb_c rfl) rfl (SX9_areTwo s1 s0 M e2) (Nat.lt_of_lt_of_le (by decide) hd) ?_
  refine go_br okX9_when rfl (fun hp => ?_) (fun hp => ?_)
  · have h := gq_pos hp h
    refine go_rn 1 (pc' := 16) (L' := [some (.ref 141), some (.int x1), some (.int x2), none, none, none]) (S' := [.int (-2 : Int32)]) (M' := M) okX9_when rfl ?_
    exact go_iret (reX9_when _ (by decide)) rfl (k0 (-2 : Int32) M h)
  · have h := gq_neg hp h
    refine go_rn 1 (pc' := 18) (L' := [some (.ref 141), some (.int x1), some (.int x2), none, none, none]) (S' := [.ref 141]) (M' := M) okX9_when rfl ?_
    obtain ⟨M3, e4, h⟩ := gB0_ok h
    refine go_call1 ocX9_when rfl rfl (gOb_c rfl) rfl (SX9_laysNow M e4) (Nat.lt_of_lt_of_le (by decide) hd) ?_
    refine go_rn 5 (pc' := 26) (L' := [some (.ref 141), some (.int x1), some (.int x2), some (.int (-1 : Int32)), none, none]) (S' := [.int x2, .int x1, .ref 141]) (M' := M3) okX9_when rfl ?_
    obtain ⟨r5, e6, h⟩ := gB0_ok h
    refine go_call1 ocX9_when rfl rfl (gOb_c rfl) rfl (SX9_bothAtLast x1 x2 M3 e6) (Nat.lt_of_lt_of_le (by decide) hd) ?_
    refine go_rn 3 (pc' := 34) (L' := [some (.ref 141), some (.int x1), some (.int x2), some (.int (-1 : Int32)), some (.int r5), some (.int (0 : Int32))]) (S' := []) (M' := M3) okX9_when rfl ?_
    exact go_wk (CX9_when_34h hd x1 x2 (-1 : Int32) r5 (0 : Int32) M3 P k0 h) ⟨rfl, rfl, rfl, rfl, rfl, rfl, True.intro⟩
def fX9_when_0 (x1 : Int32) (x2 : Int32) (M : gMem) : Option (Int32 × gMem) :=
  fX9_when_8 x1 x2 x2 x1 (gSI M 141 0 (0 : Int32))
set_option maxRecDepth 100000 in
theorem CX9_when_0 {G : gG} {d : Nat} {Z : Option Value → gMem → Prop} (hd : 8 ≤ d) (x1 : Int32) (x2 : Int32) (M : gMem) (P : Int32 × gMem → Prop) (k0 : ∀ (r : Int32) (N : gMem), P (r, N) → Z (some (.int r)) N) (h : gOKq (fX9_when_0 x1 x2 M) P) : gGo G YX9_when d Z 0 [some (.ref 141), some (.int x1), some (.int x2), none, none, none] [] M := by
  unfold fX9_when_0 at h
  refine go_rn 2 (pc' := 2) (L' := [some (.ref 141), some (.int x1), some (.int x2), none, none, none]) (S' := [.int (0 : Int32), .ref 141]) (M' := M) okX9_when rfl ?_
  refine go_ck okX9_when rfl (gOb_c rfl) ?_
  refine go_rn 3 (pc' := 8) (L' := [some (.ref 141), some (.int x1), some (.int x2), none, none, none]) (S' := [.int x2, .int x1, .ref 141]) (M' := (gSI M 141 0 (0 : Int32))) okX9_when rfl ?_
  exact go_wk (CX9_when_8 hd x1 x2 x2 x1 (gSI M 141 0 (0 : Int32)) P k0 h) ⟨rfl, rfl, rfl, True.intro⟩
def fX9_when (a1 : Int32) (a2 : Int32) (M : gMem) : Option (Int32 × gMem) := fX9_when_0 a1 a2 M
theorem SX9_when {G : gG} (a1 : Int32) (a2 : Int32) (M : gMem) {r : Int32} {N : gMem} (h : fX9_when a1 a2 M = some (r, N)) : gRun G YX9_when 8 [.ref 141, .int a1, .int a2] M (fun r' N' => r' = some (.int r) ∧ N' = N) := gRun_in (by decide +kernel) rfl (fun d hd => go_wk (CX9_when_0 hd a1 a2 M (fun p => p = (r, N)) (fun r N hh => by cases hh; exact ⟨rfl, rfl⟩) (gq_of h)) ⟨rfl, rfl, rfl, True.intro⟩)
def fX9_tens_4 (x1 : Int32) (x2 : Int32) (M : gMem) : Option (Sum (Int32 × Int32) (Int32)) :=
  gB0 (fX9_joins M) (fun r1 => if r1 ≤ x2 then some (.inr x1) else some (.inl ((x1 * (10 : Int32)), (x2 + 1))))
set_option maxRecDepth 100000 in
theorem CX9_tens_4 {G : gG} {d : Nat} {Z : Option Value → gMem → Prop} (hd : 1 ≤ d) (x1 : Int32) (x2 : Int32) (M : gMem) (P : Sum (Int32 × Int32) (Int32) → Prop) (k0 : ∀ (r : Int32), P (.inr r) → Z (some (.int r)) M) (k1 : ∀ (x1 : Int32) (x2 : Int32), P (.inl (x1, x2)) → gGo G YX9_tens d Z 4 [some (.ref 141), some (.int x1), some (.int x2)] [] M) (h : gOKq (fX9_tens_4 x1 x2 M) P) : gGo G YX9_tens d Z 4 [some (.ref 141), some (.int x1), some (.int x2)] [] M := by
  unfold fX9_tens_4 at h
  refine go_rn 2 (pc' := 6) (L' := [some (.ref 141), some (.int x1), some (.int x2)]) (S' := [.ref 141, .int x2]) (M' := M) okX9_tens rfl ?_
  obtain ⟨r1, e2, h⟩ := gB0_ok h
  refine go_call1 ocX9_tens rfl rfl (gOb_c rfl) rfl (SX9_joins M e2) (Nat.lt_of_lt_of_le (by decide) hd) ?_
  refine go_br okX9_tens rfl (fun hp => ?_) (fun hp => ?_)
  · have h := gq_pos hp h
    refine go_rn 1 (pc' := 24) (L' := [some (.ref 141), some (.int x1), some (.int x2)]) (S' := [.int x1]) (M' := M) okX9_tens rfl ?_
    exact go_iret (reX9_tens _ (by decide)) rfl (k0 x1 h)
  · have h := gq_neg hp h
    refine go_rn 6 (pc' := 4) (L' := [some (.ref 141), some (.int (x1 * (10 : Int32))), some (.int (x2 + 1))]) (S' := []) (M' := M) okX9_tens rfl ?_
    exact go_wk (k1 ((x1 * (10 : Int32))) ((x2 + 1)) h) ⟨rfl, rfl, rfl, True.intro⟩
def fX9_tens_4h (x1 : Int32) (x2 : Int32) (M : gMem) : Option (Int32) :=
  gLp (fun s : Int32 × Int32 => fX9_tens_4 (s.1) (s.2) M) gFu (x1, x2)
set_option maxRecDepth 100000 in
theorem CX9_tens_4h {G : gG} {d : Nat} {Z : Option Value → gMem → Prop} (hd : 1 ≤ d) (x1 : Int32) (x2 : Int32) (M : gMem) (P : Int32 → Prop) (k0 : ∀ (r : Int32), P r → Z (some (.int r)) M) (h : gOKq (fX9_tens_4h x1 x2 M) P) : gGo G YX9_tens d Z 4 [some (.ref 141), some (.int x1), some (.int x2)] [] M :=
  gLp_go (K := fun s : Int32 × Int32 => gGo G YX9_tens d Z 4 [some (.ref 141), some (.int s.1), some (.int s.2)] [] M) (P := P) (fun s hs => CX9_tens_4 hd (s.1) (s.2) M (Sum.elim (fun s : Int32 × Int32 => gGo G YX9_tens d Z 4 [some (.ref 141), some (.int s.1), some (.int s.2)] [] M) P) k0 (fun x1 x2 hh => hh) hs) gFu (x1, x2) h
def fX9_tens_0 (M : gMem) : Option (Int32) :=
  fX9_tens_4h (1 : Int32) (0 : Int32) M
set_option maxRecDepth 100000 in
theorem CX9_tens_0 {G : gG} {d : Nat} {Z : Option Value → gMem → Prop} (hd : 1 ≤ d) (M : gMem) (P : Int32 → Prop) (k0 : ∀ (r : Int32), P r → Z (some (.int r)) M) (h : gOKq (fX9_tens_0 M) P) : gGo G YX9_tens d Z 0 [some (.ref 141), none, none] [] M := by
  unfold fX9_tens_0 at h
  refine go_rn 4 (pc' := 4) (L' := [some (.ref 141), some (.int (1 : Int32)), some (.int (0 : Int32))]) (S' := []) (M' := M) okX9_tens rfl ?_
  exact go_wk (CX9_tens_4h hd (1 : Int32) (0 : Int32) M P k0 h) ⟨rfl, rfl, rfl, True.intro⟩
def fX9_tens (M : gMem) : Option (Int32) := fX9_tens_0 M
theorem SX9_tens {G : gG} (M : gMem) {r : Int32} (h : fX9_tens M = some r) : gRun G YX9_tens 1 [.ref 141] M (fun r' N' => r' = some (.int r) ∧ N' = M) := gRun_in (by decide +kernel) rfl (fun d hd => go_wk (CX9_tens_0 hd M (fun p => p = r) (fun r hh => ⟨congrArg (fun z => some (Value.int z)) hh, rfl⟩) (gq_of h)) ⟨rfl, True.intro⟩)
def fX9_weightOf_91 (x1 : Int32) (x2 : Int32) (x3 : Int32) (x4 : Int32) (x5 : Int32) (x6 : Int32) (s0 : Int32) (M : gMem) : Option (Sum (Int32 × Int32 × gMem) (Int32 × gMem)) :=
  gB0 (fX9_runs s0 M) (fun M1 => if x1 = 0 then gB0 (fX9_firmOf x2 (0 : Int32) M1) (fun r3 => gB0 (fX9_isBit r3 x3 M1) (fun r5 => if r5 = 0 then some (.inl ((x4 + (x6 * (0 : Int32))), (x5 + 1), M1)) else some (.inl ((x4 + (x6 * (1 : Int32))), (x5 + 1), M1)))) else if x1 = (1 : Int32) then gB0 (fX9_goesThrough x2 x3 (0 : Int32) M1) (fun r7 => if r7 = 0 then some (.inl ((x4 + (x6 * (0 : Int32))), (x5 + 1), M1)) else some (.inl ((x4 + (x6 * (1 : Int32))), (x5 + 1), M1))) else gB0 (fX9_firmsAt (0 : Int32) M1) (fun r9 => some (.inl ((x4 + (x6 * r9)), (x5 + 1), M1))))
set_option maxRecDepth 100000 in
theorem CX9_weightOf_91 {G : gG} {d : Nat} {Z : Option Value → gMem → Prop} (hd : 6 ≤ d) (x1 : Int32) (x2 : Int32) (x3 : Int32) (x4 : Int32) (x5 : Int32) (x6 : Int32) (s0 : Int32) (M : gMem) (P : Sum (Int32 × Int32 × gMem) (Int32 × gMem) → Prop) (k0 : ∀ (r : Int32) (N : gMem), P (.inr (r, N)) → Z (some (.int r)) N) (k1 : ∀ (x4 : Int32) (x5 : Int32) (M : gMem), P (.inl (x4, x5, M)) → gGo G YX9_weightOf d Z 10 [some (.ref 141), some (.int x1), some (.int x2), some (.int x3), some (.int x4), some (.int x5), none, none] [] M) (h : gOKq (fX9_weightOf_91 x1 x2 x3 x4 x5 x6 s0 M) P) : gGo G YX9_weightOf d Z 91 [some (.ref 141), some (.int x1), some (.int x2), some (.int x3), some (.int x4), some (.int x5), some (.int x6), none] [.int s0, .ref 141] M := by
  unfold fX9_weightOf_91 at h
  obtain ⟨M1, e2, h⟩ := gB0_ok h
  refine go_call1 ocX9_weightOf rfl rfl (gOb_c rfl) rfl (SX9_runs s0 M e2) (Nat.lt_of_lt_of_le (by decide) hd) ?_
  refine go_rn 3 (pc' := 99) (L' := [some (.ref 141), some (.int x1), some (.int x2), some (.int x3), some (.int x4), some (.int x5), some (.int x6), none]) (S' := [.int x1, .int x6, .int x4]) (M' := M1) okX9_weightOf rfl ?_
  refine go_br okX9_weightOf rfl (fun hp => ?_) (fun hp => ?_)
  · have h := gq_pos hp h
    refine go_rn 3 (pc' := 105) (L' := [some (.ref 141), some (.int x1), some (.int x2), some (.int x3), some (.int x4), some (.int x5), some (.int x6), none]) (S' := [.int (0 : Int32), .int x2, .ref 141, .int x6, .int x4]) (M' := M1) okX9_weightOf rfl ?_
    obtain ⟨r3, e4, h⟩ := gB0_ok h
    refine go_call1 ocX9_weightOf rfl rfl (gOb_c rfl) rfl (SX9_firmOf x2 (0 : Int32) M1 e4) (Nat.lt_of_lt_of_le (by decide) hd) ?_
    refine go_rn 1 (pc' := 109) (L' := [some (.ref 141), some (.int x1), some (.int x2), some (.int x3), some (.int x4), some (.int x5), some (.int x6), none]) (S' := [.int x3, .int r3, .int x6, .int x4]) (M' := M1) okX9_weightOf rfl ?_
    obtain ⟨r5, e6, h⟩ := gB0_ok h
    refine go_call1 ocX9_weightOf rfl rfl rfl rfl (SX9_isBit r3 x3 M1 e6) (Nat.lt_of_lt_of_le (by decide) hd) ?_
    refine go_br okX9_weightOf rfl (fun hp => ?_) (fun hp => ?_)
    · have h := gq_pos hp h
      refine go_rn 7 (pc' := 10) (L' := [some (.ref 141), some (.int x1), some (.int x2), some (.int x3), some (.int (x4 + (x6 * (0 : Int32)))), some (.int (x5 + 1)), some (.int x6), none]) (S' := []) (M' := M1) okX9_weightOf rfl ?_
      exact go_wk (k1 ((x4 + (x6 * (0 : Int32)))) ((x5 + 1)) M1 h) ⟨rfl, rfl, rfl, rfl, rfl, rfl, True.intro⟩
    · have h := gq_neg hp h
      refine go_rn 7 (pc' := 10) (L' := [some (.ref 141), some (.int x1), some (.int x2), some (.int x3), some (.int (x4 + (x6 * (1 : Int32)))), some (.int (x5 + 1)), some (.int x6), none]) (S' := []) (M' := M1) okX9_weightOf rfl ?_
      exact go_wk (k1 ((x4 + (x6 * (1 : Int32)))) ((x5 + 1)) M1 h) ⟨rfl, rfl, rfl, rfl, rfl, rfl, True.intro⟩
  · have h := gq_neg hp h
    refine go_rn 2 (pc' := 125) (L' := [some (.ref 141), some (.int x1), some (.int x2), some (.int x3), some (.int x4), some (.int x5), some (.int x6), none]) (S' := [.int (1 : Int32), .int x1, .int x6, .int x4]) (M' := M1) okX9_weightOf rfl ?_
    refine go_br okX9_weightOf rfl (fun hp => ?_) (fun hp => ?_)
    · have h := gq_pos hp h
      refine go_rn 4 (pc' := 132) (L' := [some (.ref 141), some (.int x1), some (.int x2), some (.int x3), some (.int x4), some (.int x5), some (.int x6), none]) (S' := [.int (0 : Int32), .int x3, .int x2, .ref 141, .int x6, .int x4]) (M' := M1) okX9_weightOf rfl ?_
      obtain ⟨r7, e8, h⟩ := gB0_ok h
      refine go_call1 ocX9_weightOf rfl rfl (gOb_c rfl) rfl (SX9_goesThrough x2 x3 (0 : Int32) M1 e8) (Nat.lt_of_lt_of_le (by decide) hd) ?_
      refine go_br okX9_weightOf rfl (fun hp => ?_) (fun hp => ?_)
      · have h := gq_pos hp h
        refine go_rn 7 (pc' := 10) (L' := [some (.ref 141), some (.int x1), some (.int x2), some (.int x3), some (.int (x4 + (x6 * (0 : Int32)))), some (.int (x5 + 1)), some (.int x6), none]) (S' := []) (M' := M1) okX9_weightOf rfl ?_
        exact go_wk (k1 ((x4 + (x6 * (0 : Int32)))) ((x5 + 1)) M1 h) ⟨rfl, rfl, rfl, rfl, rfl, rfl, True.intro⟩
      · have h := gq_neg hp h
        refine go_rn 7 (pc' := 10) (L' := [some (.ref 141), some (.int x1), some (.int x2), some (.int x3), some (.int (x4 + (x6 * (1 : Int32)))), some (.int (x5 + 1)), some (.int x6), none]) (S' := []) (M' := M1) okX9_weightOf rfl ?_
        exact go_wk (k1 ((x4 + (x6 * (1 : Int32)))) ((x5 + 1)) M1 h) ⟨rfl, rfl, rfl, rfl, rfl, rfl, True.intro⟩
    · have h := gq_neg hp h
      refine go_rn 2 (pc' := 148) (L' := [some (.ref 141), some (.int x1), some (.int x2), some (.int x3), some (.int x4), some (.int x5), some (.int x6), none]) (S' := [.int (0 : Int32), .ref 141, .int x6, .int x4]) (M' := M1) okX9_weightOf rfl ?_
      obtain ⟨r9, e10, h⟩ := gB0_ok h
      refine go_call1 ocX9_weightOf rfl rfl (gOb_c rfl) rfl (SX9_firmsAt (0 : Int32) M1 e10) (Nat.lt_of_lt_of_le (by decide) hd) ?_
      refine go_rn 5 (pc' := 10) (L' := [some (.ref 141), some (.int x1), some (.int x2), some (.int x3), some (.int (x4 + (x6 * r9))), some (.int (x5 + 1)), some (.int x6), none]) (S' := []) (M' := M1) okX9_weightOf rfl ?_
      exact go_wk (k1 ((x4 + (x6 * r9))) ((x5 + 1)) M1 h) ⟨rfl, rfl, rfl, rfl, rfl, rfl, True.intro⟩
def fX9_weightOf_27 (x1 : Int32) (x2 : Int32) (x3 : Int32) (x4 : Int32) (x5 : Int32) (x6 : Int32) (x7 : Int32) (M : gMem) : Option (Sum (Int32 × Int32) (Sum (Int32 × Int32 × gMem) (Int32 × gMem))) :=
  gB0 (fX9_joins M) (fun r1 => if r1 ≤ x7 then if x6 = 0 then some (.inr (.inl (x4, (x5 + 1), M))) else gEx (fX9_weightOf_91 x1 x2 x3 x4 x5 x6 (0 : Int32) (gSI M 141 25 x5)) else gB0 (fX9_isBit x5 x7 M) (fun r3 => if r3 = 0 then if gIx 1 148 (3 : Int32) = true then some (.inl ((x6 * ((10 : Int32) - (M.1 148 (Int32.toNatClampNeg (3 : Int32))))), (x7 + 1))) else none else if gIx 1 148 (3 : Int32) = true then some (.inl ((x6 * (M.1 148 (Int32.toNatClampNeg (3 : Int32)))), (x7 + 1))) else none))
set_option maxRecDepth 100000 in
theorem CX9_weightOf_27 {G : gG} {d : Nat} {Z : Option Value → gMem → Prop} (hd : 6 ≤ d) (x1 : Int32) (x2 : Int32) (x3 : Int32) (x4 : Int32) (x5 : Int32) (x6 : Int32) (x7 : Int32) (M : gMem) (P : Sum (Int32 × Int32) (Sum (Int32 × Int32 × gMem) (Int32 × gMem)) → Prop) (k0 : ∀ (r : Int32) (N : gMem), P (.inr (.inr (r, N))) → Z (some (.int r)) N) (k1 : ∀ (x4 : Int32) (x5 : Int32) (M : gMem), P (.inr (.inl (x4, x5, M))) → gGo G YX9_weightOf d Z 10 [some (.ref 141), some (.int x1), some (.int x2), some (.int x3), some (.int x4), some (.int x5), none, none] [] M) (k2 : ∀ (x6 : Int32) (x7 : Int32), P (.inl (x6, x7)) → gGo G YX9_weightOf d Z 27 [some (.ref 141), some (.int x1), some (.int x2), some (.int x3), some (.int x4), some (.int x5), some (.int x6), some (.int x7)] [] M) (h : gOKq (fX9_weightOf_27 x1 x2 x3 x4 x5 x6 x7 M) P) : gGo G YX9_weightOf d Z 27 [some (.ref 141), some (.int x1), some (.int x2), some (.int x3), some (.int x4), some (.int x5), some (.int x6), some (.int x7)] [] M := by
  unfold fX9_weightOf_27 at h
  refine go_rn 2 (pc' := 30) (L' := [some (.ref 141), some (.int x1), some (.int x2), some (.int x3), some (.int x4), some (.int x5), some (.int x6), some (.int x7)]) (S' := [.ref 141, .int x7]) (M' := M) okX9_weightOf rfl ?_
  obtain ⟨r1, e2, h⟩ := gB0_ok h
  refine go_call1 ocX9_weightOf rfl rfl (gOb_c rfl) rfl (SX9_joins M e2) (Nat.lt_of_lt_of_le (by decide) hd) ?_
  refine go_br okX9_weightOf rfl (fun hp => ?_) (fun hp => ?_)
  · have h := gq_pos hp h
    refine go_rn 1 (pc' := 77) (L' := [some (.ref 141), some (.int x1), some (.int x2), some (.int x3), some (.int x4), some (.int x5), some (.int x6), some (.int x7)]) (S' := [.int x6]) (M' := M) okX9_weightOf rfl ?_
    refine go_br okX9_weightOf rfl (fun hp => ?_) (fun hp => ?_)
    · have h := gq_pos hp h
      refine go_rn 3 (pc' := 10) (L' := [some (.ref 141), some (.int x1), some (.int x2), some (.int x3), some (.int x4), some (.int (x5 + 1)), some (.int x6), some (.int x7)]) (S' := []) (M' := M) okX9_weightOf rfl ?_
      exact go_wk (k1 (x4) ((x5 + 1)) M h) ⟨rfl, rfl, rfl, rfl, rfl, rfl, True.intro⟩
    · have h := gq_neg hp h
      refine go_rn 2 (pc' := 86) (L' := [some (.ref 141), some (.int x1), some (.int x2), some (.int x3), some (.int x4), some (.int x5), some (.int x6), some (.int x7)]) (S' := [.int x5, .ref 141]) (M' := M) okX9_weightOf rfl ?_
      refine go_ck okX9_weightOf rfl (gOb_c rfl) ?_
      refine go_rn 2 (pc' := 91) (L' := [some (.ref 141), some (.int x1), some (.int x2), some (.int x3), some (.int x4), some (.int x5), some (.int x6), some (.int x7)]) (S' := [.int (0 : Int32), .ref 141]) (M' := (gSI M 141 25 x5)) okX9_weightOf rfl ?_
      exact go_wk (CX9_weightOf_91 hd x1 x2 x3 x4 x5 x6 (0 : Int32) (gSI M 141 25 x5) (fun q => P (.inr q)) k0 k1 (gEx_ok h)) ⟨rfl, rfl, rfl, rfl, rfl, rfl, rfl, True.intro⟩
  · have h := gq_neg hp h
    refine go_rn 3 (pc' := 42) (L' := [some (.ref 141), some (.int x1), some (.int x2), some (.int x3), some (.int x4), some (.int x5), some (.int x6), some (.int x7)]) (S' := [.int x7, .int x5, .int x6]) (M' := M) okX9_weightOf rfl ?_
    obtain ⟨r3, e4, h⟩ := gB0_ok h
    refine go_call1 ocX9_weightOf rfl rfl rfl rfl (SX9_isBit x5 x7 M e4) (Nat.lt_of_lt_of_le (by decide) hd) ?_
    refine go_br okX9_weightOf rfl (fun hp => ?_) (fun hp => ?_)
    · have h := gq_pos hp h
      refine go_rn 2 (pc' := 60) (L' := [some (.ref 141), some (.int x1), some (.int x2), some (.int x3), some (.int x4), some (.int x5), some (.int x6), some (.int x7)]) (S' := [.ref 141, .int (10 : Int32), .int x6]) (M' := M) okX9_weightOf rfl ?_
      refine go_ck okX9_weightOf rfl (gOb_c rfl) ?_
      refine go_rn 1 (pc' := 64) (L' := [some (.ref 141), some (.int x1), some (.int x2), some (.int x3), some (.int x4), some (.int x5), some (.int x6), some (.int x7)]) (S' := [.int (3 : Int32), .ref 148, .int (10 : Int32), .int x6]) (M' := M) okX9_weightOf rfl ?_
      obtain ⟨c5, h⟩ := gq_if h
      refine go_ck okX9_weightOf rfl c5 ?_
      refine go_rn 5 (pc' := 27) (L' := [some (.ref 141), some (.int x1), some (.int x2), some (.int x3), some (.int x4), some (.int x5), some (.int (x6 * ((10 : Int32) - (M.1 148 (Int32.toNatClampNeg (3 : Int32)))))), some (.int (x7 + 1))]) (S' := []) (M' := M) okX9_weightOf rfl ?_
      exact go_wk (k2 ((x6 * ((10 : Int32) - (M.1 148 (Int32.toNatClampNeg (3 : Int32)))))) ((x7 + 1)) h) ⟨rfl, rfl, rfl, rfl, rfl, rfl, rfl, rfl, True.intro⟩
    · have h := gq_neg hp h
      refine go_rn 1 (pc' := 49) (L' := [some (.ref 141), some (.int x1), some (.int x2), some (.int x3), some (.int x4), some (.int x5), some (.int x6), some (.int x7)]) (S' := [.ref 141, .int x6]) (M' := M) okX9_weightOf rfl ?_
      refine go_ck okX9_weightOf rfl (gOb_c rfl) ?_
      refine go_rn 1 (pc' := 53) (L' := [some (.ref 141), some (.int x1), some (.int x2), some (.int x3), some (.int x4), some (.int x5), some (.int x6), some (.int x7)]) (S' := [.int (3 : Int32), .ref 148, .int x6]) (M' := M) okX9_weightOf rfl ?_
      obtain ⟨c6, h⟩ := gq_if h
      refine go_ck okX9_weightOf rfl c6 ?_
      refine go_rn 5 (pc' := 27) (L' := [some (.ref 141), some (.int x1), some (.int x2), some (.int x3), some (.int x4), some (.int x5), some (.int (x6 * (M.1 148 (Int32.toNatClampNeg (3 : Int32))))), some (.int (x7 + 1))]) (S' := []) (M' := M) okX9_weightOf rfl ?_
      exact go_wk (k2 ((x6 * (M.1 148 (Int32.toNatClampNeg (3 : Int32))))) ((x7 + 1)) h) ⟨rfl, rfl, rfl, rfl, rfl, rfl, rfl, rfl, True.intro⟩
def fX9_weightOf_27h (x1 : Int32) (x2 : Int32) (x3 : Int32) (x4 : Int32) (x5 : Int32) (x6 : Int32) (x7 : Int32) (M : gMem) : Option (Sum (Int32 × Int32 × gMem) (Int32 × gMem)) :=
  gLp (fun s : Int32 × Int32 => fX9_weightOf_27 x1 x2 x3 x4 x5 (s.1) (s.2) M) gFu (x6, x7)
set_option maxRecDepth 100000 in
theorem CX9_weightOf_27h {G : gG} {d : Nat} {Z : Option Value → gMem → Prop} (hd : 6 ≤ d) (x1 : Int32) (x2 : Int32) (x3 : Int32) (x4 : Int32) (x5 : Int32) (x6 : Int32) (x7 : Int32) (M : gMem) (P : Sum (Int32 × Int32 × gMem) (Int32 × gMem) → Prop) (k0 : ∀ (r : Int32) (N : gMem), P (.inr (r, N)) → Z (some (.int r)) N) (k1 : ∀ (x4 : Int32) (x5 : Int32) (M : gMem), P (.inl (x4, x5, M)) → gGo G YX9_weightOf d Z 10 [some (.ref 141), some (.int x1), some (.int x2), some (.int x3), some (.int x4), some (.int x5), none, none] [] M) (h : gOKq (fX9_weightOf_27h x1 x2 x3 x4 x5 x6 x7 M) P) : gGo G YX9_weightOf d Z 27 [some (.ref 141), some (.int x1), some (.int x2), some (.int x3), some (.int x4), some (.int x5), some (.int x6), some (.int x7)] [] M :=
  gLp_go (K := fun s : Int32 × Int32 => gGo G YX9_weightOf d Z 27 [some (.ref 141), some (.int x1), some (.int x2), some (.int x3), some (.int x4), some (.int x5), some (.int s.1), some (.int s.2)] [] M) (P := P) (fun s hs => CX9_weightOf_27 hd (x1) (x2) (x3) (x4) (x5) (s.1) (s.2) M (Sum.elim (fun s : Int32 × Int32 => gGo G YX9_weightOf d Z 27 [some (.ref 141), some (.int x1), some (.int x2), some (.int x3), some (.int x4), some (.int x5), some (.int s.1), some (.int s.2)] [] M) P) k0 k1 (fun x6 x7 hh => hh) hs) gFu (x6, x7) h
def fX9_weightOf_10 (x1 : Int32) (x2 : Int32) (x3 : Int32) (x4 : Int32) (x5 : Int32) (M : gMem) : Option (Sum (Int32 × Int32 × gMem) (Int32 × gMem)) :=
  gB0 (fX9_joins M) (fun r1 => if ((1 : Int32) <<< (r1 &&& 31)) ≤ x5 then some (.inr (x4, M)) else fX9_weightOf_27h x1 x2 x3 x4 x5 (1 : Int32) (0 : Int32) M)
set_option maxRecDepth 100000 in
theorem CX9_weightOf_10 {G : gG} {d : Nat} {Z : Option Value → gMem → Prop} (hd : 6 ≤ d) (x1 : Int32) (x2 : Int32) (x3 : Int32) (x4 : Int32) (x5 : Int32) (M : gMem) (P : Sum (Int32 × Int32 × gMem) (Int32 × gMem) → Prop) (k0 : ∀ (r : Int32) (N : gMem), P (.inr (r, N)) → Z (some (.int r)) N) (k1 : ∀ (x4 : Int32) (x5 : Int32) (M : gMem), P (.inl (x4, x5, M)) → gGo G YX9_weightOf d Z 10 [some (.ref 141), some (.int x1), some (.int x2), some (.int x3), some (.int x4), some (.int x5), none, none] [] M) (h : gOKq (fX9_weightOf_10 x1 x2 x3 x4 x5 M) P) : gGo G YX9_weightOf d Z 10 [some (.ref 141), some (.int x1), some (.int x2), some (.int x3), some (.int x4), some (.int x5), none, none] [] M := by
  unfold fX9_weightOf_10 at h
  refine go_rn 3 (pc' := 14) (L' := [some (.ref 141), some (.int x1), some (.int x2), some (.int x3), some (.int x4), some (.int x5), none, none]) (S' := [.ref 141, .int (1 : Int32), .int x5]) (M' := M) okX9_weightOf rfl ?_
  obtain ⟨r1, e2, h⟩ := gB0_ok h
  refine go_call1 ocX9_weightOf rfl rfl (gOb_c rfl) rfl (SX9_joins M e2) (Nat.lt_of_lt_of_le (by decide) hd) ?_
  refine go_rn 1 (pc' := 18) (L' := [some (.ref 141), some (.int x1), some (.int x2), some (.int x3), some (.int x4), some (.int x5), none, none]) (S' := [.int ((1 : Int32) <<< (r1 &&& 31)), .int x5]) (M' := M) okX9_weightOf rfl ?_
  refine go_br okX9_weightOf rfl (fun hp => ?_) (fun hp => ?_)
  · have h := gq_pos hp h
    refine go_rn 1 (pc' := 163) (L' := [some (.ref 141), some (.int x1), some (.int x2), some (.int x3), some (.int x4), some (.int x5), none, none]) (S' := [.int x4]) (M' := M) okX9_weightOf rfl ?_
    exact go_iret (reX9_weightOf _ (by decide)) rfl (k0 x4 M h)
  · have h := gq_neg hp h
    refine go_rn 4 (pc' := 27) (L' := [some (.ref 141), some (.int x1), some (.int x2), some (.int x3), some (.int x4), some (.int x5), some (.int (1 : Int32)), some (.int (0 : Int32))]) (S' := []) (M' := M) okX9_weightOf rfl ?_
    exact go_wk (CX9_weightOf_27h hd x1 x2 x3 x4 x5 (1 : Int32) (0 : Int32) M P k0 k1 h) ⟨rfl, rfl, rfl, rfl, rfl, rfl, rfl, rfl, True.intro⟩
def fX9_weightOf_10h (x1 : Int32) (x2 : Int32) (x3 : Int32) (x4 : Int32) (x5 : Int32) (M : gMem) : Option (Int32 × gMem) :=
  gLp (fun s : Int32 × Int32 × gMem => fX9_weightOf_10 x1 x2 x3 (s.1) (s.2.1) s.2.2) gFu (x4, x5, M)
set_option maxRecDepth 100000 in
theorem CX9_weightOf_10h {G : gG} {d : Nat} {Z : Option Value → gMem → Prop} (hd : 6 ≤ d) (x1 : Int32) (x2 : Int32) (x3 : Int32) (x4 : Int32) (x5 : Int32) (M : gMem) (P : Int32 × gMem → Prop) (k0 : ∀ (r : Int32) (N : gMem), P (r, N) → Z (some (.int r)) N) (h : gOKq (fX9_weightOf_10h x1 x2 x3 x4 x5 M) P) : gGo G YX9_weightOf d Z 10 [some (.ref 141), some (.int x1), some (.int x2), some (.int x3), some (.int x4), some (.int x5), none, none] [] M :=
  gLp_go (K := fun s : Int32 × Int32 × gMem => gGo G YX9_weightOf d Z 10 [some (.ref 141), some (.int x1), some (.int x2), some (.int x3), some (.int s.1), some (.int s.2.1), none, none] [] s.2.2) (P := P) (fun s hs => CX9_weightOf_10 hd (x1) (x2) (x3) (s.1) (s.2.1) (s.2.2) (Sum.elim (fun s : Int32 × Int32 × gMem => gGo G YX9_weightOf d Z 10 [some (.ref 141), some (.int x1), some (.int x2), some (.int x3), some (.int s.1), some (.int s.2.1), none, none] [] s.2.2) P) k0 (fun x4 x5 M hh => hh) hs) gFu (x4, x5, M) h
def fX9_weightOf_0 (x1 : Int32) (x2 : Int32) (x3 : Int32) (M : gMem) : Option (Int32 × gMem) :=
  gB0 (fX9_lays M) (fun M1 => fX9_weightOf_10h x1 x2 x3 (0 : Int32) (0 : Int32) M1)
set_option maxRecDepth 100000 in
theorem CX9_weightOf_0 {G : gG} {d : Nat} {Z : Option Value → gMem → Prop} (hd : 6 ≤ d) (x1 : Int32) (x2 : Int32) (x3 : Int32) (M : gMem) (P : Int32 × gMem → Prop) (k0 : ∀ (r : Int32) (N : gMem), P (r, N) → Z (some (.int r)) N) (h : gOKq (fX9_weightOf_0 x1 x2 x3 M) P) : gGo G YX9_weightOf d Z 0 [some (.ref 141), some (.int x1), some (.int x2), some (.int x3), none, none, none, none] [] M := by
  unfold fX9_weightOf_0 at h
  refine go_rn 1 (pc' := 1) (L' := [some (.ref 141), some (.int x1), some (.int x2), some (.int x3), none, none, none, none]) (S' := [.ref 141]) (M' := M) okX9_weightOf rfl ?_
  obtain ⟨M1, e2, h⟩ := gB0_ok h
  refine go_call1 ocX9_weightOf rfl rfl (gOb_c rfl) rfl (SX9_lays M e2) (Nat.lt_of_lt_of_le (by decide) hd) ?_
  refine go_rn 4 (pc' := 10) (L' := [some (.ref 141), some (.int x1), some (.int x2), some (.int x3), some (.int (0 : Int32)), some (.int (0 : Int32)), none, none]) (S' := []) (M' := M1) okX9_weightOf rfl ?_
  exact go_wk (CX9_weightOf_10h hd x1 x2 x3 (0 : Int32) (0 : Int32) M1 P k0 h) ⟨rfl, rfl, rfl, rfl, rfl, rfl, True.intro⟩
def fX9_weightOf (a1 : Int32) (a2 : Int32) (a3 : Int32) (M : gMem) : Option (Int32 × gMem) := fX9_weightOf_0 a1 a2 a3 M
theorem SX9_weightOf {G : gG} (a1 : Int32) (a2 : Int32) (a3 : Int32) (M : gMem) {r : Int32} {N : gMem} (h : fX9_weightOf a1 a2 a3 M = some (r, N)) : gRun G YX9_weightOf 6 [.ref 141, .int a1, .int a2, .int a3] M (fun r' N' => r' = some (.int r) ∧ N' = N) := gRun_in (by decide +kernel) rfl (fun d hd => go_wk (CX9_weightOf_0 hd a1 a2 a3 M (fun p => p = (r, N)) (fun r N hh => by cases hh; exact ⟨rfl, rfl⟩) (gq_of h)) ⟨rfl, rfl, rfl, rfl, True.intro⟩)
def fX9_chance_8 (x1 : Int32) (x2 : Int32) (x3 : Int32) (s0 : Int32) (s1 : Int32) (M : gMem) : Option (Int32 × gMem) :=
  gB0 (fX9_areTwo s1 s0 M) (fun r1 => if r1 = 0 then some ((-2 : Int32), M) else gB0 (fX9_isHalf x3 M) (fun r3 => if r3 = 0 then some ((-2 : Int32), M) else gBp (fX9_weightOf (0 : Int32) x1 x2 M) (fun r5 M6 => gB0 (fX9_tens M6) (fun r8 => gB0 (fX9_part r5 r8 x3 M6) (fun r10 => some (r10, M6))))))
set_option maxRecDepth 100000 in
theorem CX9_chance_8 {G : gG} {d : Nat} {Z : Option Value → gMem → Prop} (hd : 62 ≤ d) (x1 : Int32) (x2 : Int32) (x3 : Int32) (s0 : Int32) (s1 : Int32) (M : gMem) (P : Int32 × gMem → Prop) (k0 : ∀ (r : Int32) (N : gMem), P (r, N) → Z (some (.int r)) N) (h : gOKq (fX9_chance_8 x1 x2 x3 s0 s1 M) P) : gGo G YX9_chance d Z 8 [some (.ref 141), some (.int x1), some (.int x2), some (.int x3)] [.int s0, .int s1, .ref 141] M := by
  unfold fX9_chance_8 at h
  obtain ⟨r1, e2, h⟩ := gB0_ok h
  refine go_call1 ocX9_chance rfl rfl (gOb_c rfl) rfl (SX9_areTwo s1 s0 M e2) (Nat.lt_of_lt_of_le (by decide) hd) ?_
  refine go_br okX9_chance rfl (fun hp => ?_) (fun hp => ?_)
  · have h := gq_pos hp h
    refine go_rn 1 (pc' := 41) (L' := [some (.ref 141), some (.int x1), some (.int x2), some (.int x3)]) (S' := [.int (-2 : Int32)]) (M' := M) okX9_chance rfl ?_
    exact go_iret (reX9_chance _ (by decide)) rfl (k0 (-2 : Int32) M h)
  · have h := gq_neg hp h
    refine go_rn 1 (pc' := 15) (L' := [some (.ref 141), some (.int x1), some (.int x2), some (.int x3)]) (S' := [.int x3]) (M' := M) okX9_chance rfl ?_
    obtain ⟨r3, e4, h⟩ := gB0_ok h
    refine go_call1 ocX9_chance rfl rfl rfl rfl (SX9_isHalf x3 M e4) (Nat.lt_of_lt_of_le (by decide) hd) ?_
    refine go_br okX9_chance rfl (fun hp => ?_) (fun hp => ?_)
    · have h := gq_pos hp h
      refine go_rn 1 (pc' := 41) (L' := [some (.ref 141), some (.int x1), some (.int x2), some (.int x3)]) (S' := [.int (-2 : Int32)]) (M' := M) okX9_chance rfl ?_
      exact go_iret (reX9_chance _ (by decide)) rfl (k0 (-2 : Int32) M h)
    · have h := gq_neg hp h
      refine go_rn 4 (pc' := 25) (L' := [some (.ref 141), some (.int x1), some (.int x2), some (.int x3)]) (S' := [.int x2, .int x1, .int (0 : Int32), .ref 141]) (M' := M) okX9_chance rfl ?_
      obtain ⟨r5, M6, e7, h⟩ := gBp_ok h
      refine go_call1 ocX9_chance rfl rfl (gOb_c rfl) rfl (SX9_weightOf (0 : Int32) x1 x2 M e7) (Nat.lt_of_lt_of_le (by decide) hd) ?_
      refine go_rn 1 (pc' := 29) (L' := [some (.ref 141), some (.int x1), some (.int x2), some (.int x3)]) (S' := [.ref 141, .int r5]) (M' := M6) okX9_chance rfl ?_
      obtain ⟨r8, e9, h⟩ := gB0_ok h
      refine go_call1 ocX9_chance rfl rfl (gOb_c rfl) rfl (SX9_tens M6 e9) (Nat.lt_of_lt_of_le (by decide) hd) ?_
      refine go_rn 1 (pc' := 33) (L' := [some (.ref 141), some (.int x1), some (.int x2), some (.int x3)]) (S' := [.int x3, .int r8, .int r5]) (M' := M6) okX9_chance rfl ?_
      obtain ⟨r10, e11, h⟩ := gB0_ok h
      refine go_call1 ocX9_chance rfl rfl rfl rfl (SX9_part r5 r8 x3 M6 e11) (Nat.lt_of_lt_of_le (by decide) hd) ?_
      refine go_rn 1 (pc' := 41) (L' := [some (.ref 141), some (.int x1), some (.int x2), some (.int x3)]) (S' := [.int r10]) (M' := M6) okX9_chance rfl ?_
      exact go_iret (reX9_chance _ (by decide)) rfl (k0 r10 M6 h)
def fX9_chance_0 (x1 : Int32) (x2 : Int32) (x3 : Int32) (M : gMem) : Option (Int32 × gMem) :=
  fX9_chance_8 x1 x2 x3 x2 x1 (gSI M 141 0 (0 : Int32))
set_option maxRecDepth 100000 in
theorem CX9_chance_0 {G : gG} {d : Nat} {Z : Option Value → gMem → Prop} (hd : 62 ≤ d) (x1 : Int32) (x2 : Int32) (x3 : Int32) (M : gMem) (P : Int32 × gMem → Prop) (k0 : ∀ (r : Int32) (N : gMem), P (r, N) → Z (some (.int r)) N) (h : gOKq (fX9_chance_0 x1 x2 x3 M) P) : gGo G YX9_chance d Z 0 [some (.ref 141), some (.int x1), some (.int x2), some (.int x3)] [] M := by
  unfold fX9_chance_0 at h
  refine go_rn 2 (pc' := 2) (L' := [some (.ref 141), some (.int x1), some (.int x2), some (.int x3)]) (S' := [.int (0 : Int32), .ref 141]) (M' := M) okX9_chance rfl ?_
  refine go_ck okX9_chance rfl (gOb_c rfl) ?_
  refine go_rn 3 (pc' := 8) (L' := [some (.ref 141), some (.int x1), some (.int x2), some (.int x3)]) (S' := [.int x2, .int x1, .ref 141]) (M' := (gSI M 141 0 (0 : Int32))) okX9_chance rfl ?_
  exact go_wk (CX9_chance_8 hd x1 x2 x3 x2 x1 (gSI M 141 0 (0 : Int32)) P k0 h) ⟨rfl, rfl, rfl, rfl, True.intro⟩
def fX9_chance (a1 : Int32) (a2 : Int32) (a3 : Int32) (M : gMem) : Option (Int32 × gMem) := fX9_chance_0 a1 a2 a3 M
theorem SX9_chance {G : gG} (a1 : Int32) (a2 : Int32) (a3 : Int32) (M : gMem) {r : Int32} {N : gMem} (h : fX9_chance a1 a2 a3 M = some (r, N)) : gRun G YX9_chance 62 [.ref 141, .int a1, .int a2, .int a3] M (fun r' N' => r' = some (.int r) ∧ N' = N) := gRun_in (by decide +kernel) rfl (fun d hd => go_wk (CX9_chance_0 hd a1 a2 a3 M (fun p => p = (r, N)) (fun r N hh => by cases hh; exact ⟨rfl, rfl⟩) (gq_of h)) ⟨rfl, rfl, rfl, rfl, True.intro⟩)
def fX9_through_8 (x1 : Int32) (x2 : Int32) (x3 : Int32) (s0 : Int64) (M : gMem) : Option (Int32 × gMem) :=
  gB0 (fX9_isPerson s0 M) (fun r1 => if r1 = 0 then some ((-2 : Int32), M) else gB0 (fX9_isDoor (Int32.toInt64 x2) M) (fun r3 => if r3 = 0 then some ((-2 : Int32), M) else gB0 (fX9_isHalf x3 M) (fun r5 => if r5 = 0 then some ((-2 : Int32), M) else gBp (fX9_weightOf (1 : Int32) x1 x2 M) (fun r7 M8 => gB0 (fX9_tens M8) (fun r10 => gB0 (fX9_part r7 r10 x3 M8) (fun r12 => some (r12, M8)))))))
set_option maxRecDepth 100000 in
theorem CX9_through_8 {G : gG} {d : Nat} {Z : Option Value → gMem → Prop} (hd : 62 ≤ d) (x1 : Int32) (x2 : Int32) (x3 : Int32) (s0 : Int64) (M : gMem) (P : Int32 × gMem → Prop) (k0 : ∀ (r : Int32) (N : gMem), P (r, N) → Z (some (.int r)) N) (h : gOKq (fX9_through_8 x1 x2 x3 s0 M) P) : gGo G YX9_through d Z 8 [some (.ref 141), some (.int x1), some (.int x2), some (.int x3)] [.long s0, .ref 141] M := by
  unfold fX9_through_8 at h
  obtain ⟨r1, e2, h⟩ := gB0_ok h
  refine go_call1 ocX9_through rfl rfl (gOb_c rfl) rfl (SX9_isPerson s0 M e2) (Nat.lt_of_lt_of_le (by decide) hd) ?_
  refine go_br okX9_through rfl (fun hp => ?_) (fun hp => ?_)
  · have h := gq_pos hp h
    refine go_rn 1 (pc' := 50) (L' := [some (.ref 141), some (.int x1), some (.int x2), some (.int x3)]) (S' := [.int (-2 : Int32)]) (M' := M) okX9_through rfl ?_
    exact go_iret (reX9_through _ (by decide)) rfl (k0 (-2 : Int32) M h)
  · have h := gq_neg hp h
    refine go_rn 3 (pc' := 17) (L' := [some (.ref 141), some (.int x1), some (.int x2), some (.int x3)]) (S' := [.long (Int32.toInt64 x2), .ref 141]) (M' := M) okX9_through rfl ?_
    obtain ⟨r3, e4, h⟩ := gB0_ok h
    refine go_call1 ocX9_through rfl rfl (gOb_c rfl) rfl (SX9_isDoor (Int32.toInt64 x2) M e4) (Nat.lt_of_lt_of_le (by decide) hd) ?_
    refine go_br okX9_through rfl (fun hp => ?_) (fun hp => ?_)
    · have h := gq_pos hp h
      refine go_rn 1 (pc' := 50) (L' := [some (.ref 141), some (.int x1), some (.int x2), some (.int x3)]) (S' := [.int (-2 : Int32)]) (M' := M) okX9_through rfl ?_
      exact go_iret (reX9_through _ (by decide)) rfl (k0 (-2 : Int32) M h)
    · have h := gq_neg hp h
      refine go_rn 1 (pc' := 24) (L' := [some (.ref 141), some (.int x1), some (.int x2), some (.int x3)]) (S' := [.int x3]) (M' := M) okX9_through rfl ?_
      obtain ⟨r5, e6, h⟩ := gB0_ok h
      refine go_call1 ocX9_through rfl rfl rfl rfl (SX9_isHalf x3 M e6) (Nat.lt_of_lt_of_le (by decide) hd) ?_
      refine go_br okX9_through rfl (fun hp => ?_) (fun hp => ?_)
      · have h := gq_pos hp h
        refine go_rn 1 (pc' := 50) (L' := [some (.ref 141), some (.int x1), some (.int x2), some (.int x3)]) (S' := [.int (-2 : Int32)]) (M' := M) okX9_through rfl ?_
        exact go_iret (reX9_through _ (by decide)) rfl (k0 (-2 : Int32) M h)
      · have h := gq_neg hp h
        refine go_rn 4 (pc' := 34) (L' := [some (.ref 141), some (.int x1), some (.int x2), some (.int x3)]) (S' := [.int x2, .int x1, .int (1 : Int32), .ref 141]) (M' := M) okX9_through rfl ?_
        obtain ⟨r7, M8, e9, h⟩ := gBp_ok h
        refine go_call1 ocX9_through rfl rfl (gOb_c rfl) rfl (SX9_weightOf (1 : Int32) x1 x2 M e9) (Nat.lt_of_lt_of_le (by decide) hd) ?_
        refine go_rn 1 (pc' := 38) (L' := [some (.ref 141), some (.int x1), some (.int x2), some (.int x3)]) (S' := [.ref 141, .int r7]) (M' := M8) okX9_through rfl ?_
        obtain ⟨r10, e11, h⟩ := gB0_ok h
        refine go_call1 ocX9_through rfl rfl (gOb_c rfl) rfl (SX9_tens M8 e11) (Nat.lt_of_lt_of_le (by decide) hd) ?_
        refine go_rn 1 (pc' := 42) (L' := [some (.ref 141), some (.int x1), some (.int x2), some (.int x3)]) (S' := [.int x3, .int r10, .int r7]) (M' := M8) okX9_through rfl ?_
        obtain ⟨r12, e13, h⟩ := gB0_ok h
        refine go_call1 ocX9_through rfl rfl rfl rfl (SX9_part r7 r10 x3 M8 e13) (Nat.lt_of_lt_of_le (by decide) hd) ?_
        refine go_rn 1 (pc' := 50) (L' := [some (.ref 141), some (.int x1), some (.int x2), some (.int x3)]) (S' := [.int r12]) (M' := M8) okX9_through rfl ?_
        exact go_iret (reX9_through _ (by decide)) rfl (k0 r12 M8 h)
def fX9_through_0 (x1 : Int32) (x2 : Int32) (x3 : Int32) (M : gMem) : Option (Int32 × gMem) :=
  fX9_through_8 x1 x2 x3 (Int32.toInt64 x1) (gSI M 141 0 (0 : Int32))
set_option maxRecDepth 100000 in
theorem CX9_through_0 {G : gG} {d : Nat} {Z : Option Value → gMem → Prop} (hd : 62 ≤ d) (x1 : Int32) (x2 : Int32) (x3 : Int32) (M : gMem) (P : Int32 × gMem → Prop) (k0 : ∀ (r : Int32) (N : gMem), P (r, N) → Z (some (.int r)) N) (h : gOKq (fX9_through_0 x1 x2 x3 M) P) : gGo G YX9_through d Z 0 [some (.ref 141), some (.int x1), some (.int x2), some (.int x3)] [] M := by
  unfold fX9_through_0 at h
  refine go_rn 2 (pc' := 2) (L' := [some (.ref 141), some (.int x1), some (.int x2), some (.int x3)]) (S' := [.int (0 : Int32), .ref 141]) (M' := M) okX9_through rfl ?_
  refine go_ck okX9_through rfl (gOb_c rfl) ?_
  refine go_rn 3 (pc' := 8) (L' := [some (.ref 141), some (.int x1), some (.int x2), some (.int x3)]) (S' := [.long (Int32.toInt64 x1), .ref 141]) (M' := (gSI M 141 0 (0 : Int32))) okX9_through rfl ?_
  exact go_wk (CX9_through_8 hd x1 x2 x3 (Int32.toInt64 x1) (gSI M 141 0 (0 : Int32)) P k0 h) ⟨rfl, rfl, rfl, rfl, True.intro⟩
def fX9_through (a1 : Int32) (a2 : Int32) (a3 : Int32) (M : gMem) : Option (Int32 × gMem) := fX9_through_0 a1 a2 a3 M
theorem SX9_through {G : gG} (a1 : Int32) (a2 : Int32) (a3 : Int32) (M : gMem) {r : Int32} {N : gMem} (h : fX9_through a1 a2 a3 M = some (r, N)) : gRun G YX9_through 62 [.ref 141, .int a1, .int a2, .int a3] M (fun r' N' => r' = some (.int r) ∧ N' = N) := gRun_in (by decide +kernel) rfl (fun d hd => go_wk (CX9_through_0 hd a1 a2 a3 M (fun p => p = (r, N)) (fun r N hh => by cases hh; exact ⟨rfl, rfl⟩) (gq_of h)) ⟨rfl, rfl, rfl, rfl, True.intro⟩)
def fX9_mean_6 (x1 : Int32) (M : gMem) : Option (Int32 × gMem) :=
  gB0 (fX9_isCity M) (fun r1 => if r1 = 0 then some ((-2 : Int32), M) else gB0 (fX9_isHalf x1 M) (fun r3 => if r3 = 0 then some ((-2 : Int32), M) else gBp (fX9_weightOf (2 : Int32) (0 : Int32) (0 : Int32) M) (fun r5 M6 => gB0 (fX9_tens M6) (fun r8 => gB0 (fX9_part r5 r8 x1 M6) (fun r10 => some (r10, M6))))))
set_option maxRecDepth 100000 in
theorem CX9_mean_6 {G : gG} {d : Nat} {Z : Option Value → gMem → Prop} (hd : 62 ≤ d) (x1 : Int32) (M : gMem) (P : Int32 × gMem → Prop) (k0 : ∀ (r : Int32) (N : gMem), P (r, N) → Z (some (.int r)) N) (h : gOKq (fX9_mean_6 x1 M) P) : gGo G YX9_mean d Z 6 [some (.ref 141), some (.int x1)] [.ref 141] M := by
  unfold fX9_mean_6 at h
  obtain ⟨r1, e2, h⟩ := gB0_ok h
  refine go_call1 ocX9_mean rfl rfl (gOb_c rfl) rfl (SX9_isCity M e2) (Nat.lt_of_lt_of_le (by decide) hd) ?_
  refine go_br okX9_mean rfl (fun hp => ?_) (fun hp => ?_)
  · have h := gq_pos hp h
    refine go_rn 1 (pc' := 39) (L' := [some (.ref 141), some (.int x1)]) (S' := [.int (-2 : Int32)]) (M' := M) okX9_mean rfl ?_
    exact go_iret (reX9_mean _ (by decide)) rfl (k0 (-2 : Int32) M h)
  · have h := gq_neg hp h
    refine go_rn 1 (pc' := 13) (L' := [some (.ref 141), some (.int x1)]) (S' := [.int x1]) (M' := M) okX9_mean rfl ?_
    obtain ⟨r3, e4, h⟩ := gB0_ok h
    refine go_call1 ocX9_mean rfl rfl rfl rfl (SX9_isHalf x1 M e4) (Nat.lt_of_lt_of_le (by decide) hd) ?_
    refine go_br okX9_mean rfl (fun hp => ?_) (fun hp => ?_)
    · have h := gq_pos hp h
      refine go_rn 1 (pc' := 39) (L' := [some (.ref 141), some (.int x1)]) (S' := [.int (-2 : Int32)]) (M' := M) okX9_mean rfl ?_
      exact go_iret (reX9_mean _ (by decide)) rfl (k0 (-2 : Int32) M h)
    · have h := gq_neg hp h
      refine go_rn 4 (pc' := 23) (L' := [some (.ref 141), some (.int x1)]) (S' := [.int (0 : Int32), .int (0 : Int32), .int (2 : Int32), .ref 141]) (M' := M) okX9_mean rfl ?_
      obtain ⟨r5, M6, e7, h⟩ := gBp_ok h
      refine go_call1 ocX9_mean rfl rfl (gOb_c rfl) rfl (SX9_weightOf (2 : Int32) (0 : Int32) (0 : Int32) M e7) (Nat.lt_of_lt_of_le (by decide) hd) ?_
      refine go_rn 1 (pc' := 27) (L' := [some (.ref 141), some (.int x1)]) (S' := [.ref 141, .int r5]) (M' := M6) okX9_mean rfl ?_
      obtain ⟨r8, e9, h⟩ := gB0_ok h
      refine go_call1 ocX9_mean rfl rfl (gOb_c rfl) rfl (SX9_tens M6 e9) (Nat.lt_of_lt_of_le (by decide) hd) ?_
      refine go_rn 1 (pc' := 31) (L' := [some (.ref 141), some (.int x1)]) (S' := [.int x1, .int r8, .int r5]) (M' := M6) okX9_mean rfl ?_
      obtain ⟨r10, e11, h⟩ := gB0_ok h
      refine go_call1 ocX9_mean rfl rfl rfl rfl (SX9_part r5 r8 x1 M6 e11) (Nat.lt_of_lt_of_le (by decide) hd) ?_
      refine go_rn 1 (pc' := 39) (L' := [some (.ref 141), some (.int x1)]) (S' := [.int r10]) (M' := M6) okX9_mean rfl ?_
      exact go_iret (reX9_mean _ (by decide)) rfl (k0 r10 M6 h)
def fX9_mean_0 (x1 : Int32) (M : gMem) : Option (Int32 × gMem) :=
  fX9_mean_6 x1 (gSI M 141 0 (0 : Int32))
set_option maxRecDepth 100000 in
theorem CX9_mean_0 {G : gG} {d : Nat} {Z : Option Value → gMem → Prop} (hd : 62 ≤ d) (x1 : Int32) (M : gMem) (P : Int32 × gMem → Prop) (k0 : ∀ (r : Int32) (N : gMem), P (r, N) → Z (some (.int r)) N) (h : gOKq (fX9_mean_0 x1 M) P) : gGo G YX9_mean d Z 0 [some (.ref 141), some (.int x1)] [] M := by
  unfold fX9_mean_0 at h
  refine go_rn 2 (pc' := 2) (L' := [some (.ref 141), some (.int x1)]) (S' := [.int (0 : Int32), .ref 141]) (M' := M) okX9_mean rfl ?_
  refine go_ck okX9_mean rfl (gOb_c rfl) ?_
  refine go_rn 1 (pc' := 6) (L' := [some (.ref 141), some (.int x1)]) (S' := [.ref 141]) (M' := (gSI M 141 0 (0 : Int32))) okX9_mean rfl ?_
  exact go_wk (CX9_mean_6 hd x1 (gSI M 141 0 (0 : Int32)) P k0 h) ⟨rfl, rfl, True.intro⟩
def fX9_mean (a1 : Int32) (M : gMem) : Option (Int32 × gMem) := fX9_mean_0 a1 M
theorem SX9_mean {G : gG} (a1 : Int32) (M : gMem) {r : Int32} {N : gMem} (h : fX9_mean a1 M = some (r, N)) : gRun G YX9_mean 62 [.ref 141, .int a1] M (fun r' N' => r' = some (.int r) ∧ N' = N) := gRun_in (by decide +kernel) rfl (fun d hd => go_wk (CX9_mean_0 hd a1 M (fun p => p = (r, N)) (fun r N hh => by cases hh; exact ⟨rfl, rfl⟩) (gq_of h)) ⟨rfl, rfl, True.intro⟩)
def fX9_draws_65 (x3 : Int64) (x5 : Int32) (s0 : Int32) (s1 : Int32) (M : gMem) : Option (Sum (Int64 × Int32 × gMem) (gMem)) :=
  some (.inl (x3, (x5 + 1), (gSI M 141 25 (s1 ||| s0))))
set_option maxRecDepth 100000 in
theorem CX9_draws_65 {G : gG} {d : Nat} {Z : Option Value → gMem → Prop} (hd : 7 ≤ d) (x3 : Int64) (x5 : Int32) (s0 : Int32) (s1 : Int32) (M : gMem) (P : Sum (Int64 × Int32 × gMem) (gMem) → Prop) (k0 : ∀ (N : gMem), P (.inr N) → Z none N) (k1 : ∀ (x3 : Int64) (x5 : Int32) (M : gMem), P (.inl (x3, x5, M)) → gGo G YX9_draws d Z 9 [some (.ref 141), none, none, some (.long x3), none, some (.int x5)] [] M) (h : gOKq (fX9_draws_65 x3 x5 s0 s1 M) P) : gGo G YX9_draws d Z 65 [some (.ref 141), none, none, some (.long x3), none, some (.int x5)] [.int s0, .int s1, .ref 141] M := by
  unfold fX9_draws_65 at h
  refine go_rn 1 (pc' := 66) (L' := [some (.ref 141), none, none, some (.long x3), none, some (.int x5)]) (S' := [.int (s1 ||| s0), .ref 141]) (M' := M) okX9_draws rfl ?_
  refine go_ck okX9_draws rfl (gOb_c rfl) ?_
  refine go_rn 2 (pc' := 9) (L' := [some (.ref 141), none, none, some (.long x3), none, some (.int (x5 + 1))]) (S' := []) (M' := (gSI M 141 25 (s1 ||| s0))) okX9_draws rfl ?_
  exact go_wk (k1 (x3) ((x5 + 1)) (gSI M 141 25 (s1 ||| s0)) h) ⟨rfl, rfl, rfl, True.intro⟩
def fX9_draws_42 (x3 : Int64) (x5 : Int32) (s0 : Int64) (s1 : Int32) (M : gMem) : Option (Sum (Int64 × Int32 × gMem) (gMem)) :=
  if gIx 1 148 (3 : Int32) = true then if 0 ≤ (lg_cmp (s0 - s0 / (10 : Int64) * (10 : Int64)) (Int32.toInt64 (M.1 148 (Int32.toNatClampNeg (3 : Int32))))) then fX9_draws_65 x3 x5 (0 : Int32) s1 M else fX9_draws_65 x3 x5 ((1 : Int32) <<< (x5 &&& 31)) s1 M else none
set_option maxRecDepth 100000 in
theorem CX9_draws_42 {G : gG} {d : Nat} {Z : Option Value → gMem → Prop} (hd : 7 ≤ d) (x3 : Int64) (x5 : Int32) (s0 : Int64) (s1 : Int32) (M : gMem) (P : Sum (Int64 × Int32 × gMem) (gMem) → Prop) (k0 : ∀ (N : gMem), P (.inr N) → Z none N) (k1 : ∀ (x3 : Int64) (x5 : Int32) (M : gMem), P (.inl (x3, x5, M)) → gGo G YX9_draws d Z 9 [some (.ref 141), none, none, some (.long x3), none, some (.int x5)] [] M) (h : gOKq (fX9_draws_42 x3 x5 s0 s1 M) P) : gGo G YX9_draws d Z 42 [some (.ref 141), none, none, some (.long x3), none, some (.int x5)] [.long s0, .int s1, .ref 141] M := by
  unfold fX9_draws_42 at h
  refine go_rn 3 (pc' := 47) (L' := [some (.ref 141), none, none, some (.long x3), none, some (.int x5)]) (S' := [.ref 141, .long (s0 - s0 / (10 : Int64) * (10 : Int64)), .int s1, .ref 141]) (M' := M) okX9_draws rfl ?_
  refine go_ck okX9_draws rfl (gOb_c rfl) ?_
  refine go_rn 1 (pc' := 51) (L' := [some (.ref 141), none, none, some (.long x3), none, some (.int x5)]) (S' := [.int (3 : Int32), .ref 148, .long (s0 - s0 / (10 : Int64) * (10 : Int64)), .int s1, .ref 141]) (M' := M) okX9_draws rfl ?_
  obtain ⟨c1, h⟩ := gq_if h
  refine go_ck okX9_draws rfl c1 ?_
  refine go_rn 2 (pc' := 54) (L' := [some (.ref 141), none, none, some (.long x3), none, some (.int x5)]) (S' := [.int (lg_cmp (s0 - s0 / (10 : Int64) * (10 : Int64)) (Int32.toInt64 (M.1 148 (Int32.toNatClampNeg (3 : Int32))))), .int s1, .ref 141]) (M' := M) okX9_draws rfl ?_
  refine go_br okX9_draws rfl (fun hp => ?_) (fun hp => ?_)
  · have h := gq_pos hp h
    refine go_rn 1 (pc' := 65) (L' := [some (.ref 141), none, none, some (.long x3), none, some (.int x5)]) (S' := [.int (0 : Int32), .int s1, .ref 141]) (M' := M) okX9_draws rfl ?_
    exact go_wk (CX9_draws_65 hd x3 x5 (0 : Int32) s1 M P k0 k1 h) ⟨rfl, rfl, rfl, True.intro⟩
  · have h := gq_neg hp h
    refine go_rn 4 (pc' := 65) (L' := [some (.ref 141), none, none, some (.long x3), none, some (.int x5)]) (S' := [.int ((1 : Int32) <<< (x5 &&& 31)), .int s1, .ref 141]) (M' := M) okX9_draws rfl ?_
    exact go_wk (CX9_draws_65 hd x3 x5 ((1 : Int32) <<< (x5 &&& 31)) s1 M P k0 k1 h) ⟨rfl, rfl, rfl, True.intro⟩
def fX9_draws_9 (x3 : Int64) (x5 : Int32) (M : gMem) : Option (Sum (Int64 × Int32 × gMem) (gMem)) :=
  gB0 (fX9_joins M) (fun r1 => if r1 ≤ x5 then gB0 (fX9_runs_ M) (fun M3 => some (.inr M3)) else fX9_draws_42 ((((1103515245 : Int64) * x3) + (12345 : Int64)) - (((1103515245 : Int64) * x3) + (12345 : Int64)) / (2147483648 : Int64) * (2147483648 : Int64)) x5 (((((1103515245 : Int64) * x3) + (12345 : Int64)) - (((1103515245 : Int64) * x3) + (12345 : Int64)) / (2147483648 : Int64) * (2147483648 : Int64)) / (65536 : Int64)) (M.1 141 25) M)
set_option maxRecDepth 100000 in
theorem CX9_draws_9 {G : gG} {d : Nat} {Z : Option Value → gMem → Prop} (hd : 7 ≤ d) (x3 : Int64) (x5 : Int32) (M : gMem) (P : Sum (Int64 × Int32 × gMem) (gMem) → Prop) (k0 : ∀ (N : gMem), P (.inr N) → Z none N) (k1 : ∀ (x3 : Int64) (x5 : Int32) (M : gMem), P (.inl (x3, x5, M)) → gGo G YX9_draws d Z 9 [some (.ref 141), none, none, some (.long x3), none, some (.int x5)] [] M) (h : gOKq (fX9_draws_9 x3 x5 M) P) : gGo G YX9_draws d Z 9 [some (.ref 141), none, none, some (.long x3), none, some (.int x5)] [] M := by
  unfold fX9_draws_9 at h
  refine go_rn 2 (pc' := 12) (L' := [some (.ref 141), none, none, some (.long x3), none, some (.int x5)]) (S' := [.ref 141, .int x5]) (M' := M) okX9_draws rfl ?_
  obtain ⟨r1, e2, h⟩ := gB0_ok h
  refine go_call1 ocX9_draws rfl rfl (gOb_c rfl) rfl (SX9_joins M e2) (Nat.lt_of_lt_of_le (by decide) hd) ?_
  refine go_br okX9_draws rfl (fun hp => ?_) (fun hp => ?_)
  · have h := gq_pos hp h
    refine go_rn 1 (pc' := 76) (L' := [some (.ref 141), none, none, some (.long x3), none, some (.int x5)]) (S' := [.ref 141]) (M' := M) okX9_draws rfl ?_
    obtain ⟨M3, e4, h⟩ := gB0_ok h
    refine go_call1 ocX9_draws rfl rfl (gOb_c rfl) rfl (SX9_runs_ M e4) (Nat.lt_of_lt_of_le (by decide) hd) ?_
    exact go_vret (reX9_draws _ (by decide)) rfl (k0 M3 h)
  · have h := gq_neg hp h
    refine go_rn 10 (pc' := 34) (L' := [some (.ref 141), none, none, some (.long ((((1103515245 : Int64) * x3) + (12345 : Int64)) - (((1103515245 : Int64) * x3) + (12345 : Int64)) / (2147483648 : Int64) * (2147483648 : Int64))), none, some (.int x5)]) (S' := [.ref 141, .ref 141]) (M' := M) okX9_draws rfl ?_
    refine go_ck okX9_draws rfl (gOb_c rfl) ?_
    refine go_rn 3 (pc' := 42) (L' := [some (.ref 141), none, none, some (.long ((((1103515245 : Int64) * x3) + (12345 : Int64)) - (((1103515245 : Int64) * x3) + (12345 : Int64)) / (2147483648 : Int64) * (2147483648 : Int64))), none, some (.int x5)]) (S' := [.long (((((1103515245 : Int64) * x3) + (12345 : Int64)) - (((1103515245 : Int64) * x3) + (12345 : Int64)) / (2147483648 : Int64) * (2147483648 : Int64)) / (65536 : Int64)), .int (M.1 141 25), .ref 141]) (M' := M) okX9_draws rfl ?_
    exact go_wk (CX9_draws_42 hd ((((1103515245 : Int64) * x3) + (12345 : Int64)) - (((1103515245 : Int64) * x3) + (12345 : Int64)) / (2147483648 : Int64) * (2147483648 : Int64)) x5 (((((1103515245 : Int64) * x3) + (12345 : Int64)) - (((1103515245 : Int64) * x3) + (12345 : Int64)) / (2147483648 : Int64) * (2147483648 : Int64)) / (65536 : Int64)) (M.1 141 25) M P k0 k1 h) ⟨rfl, rfl, rfl, True.intro⟩
def fX9_draws_9h (x3 : Int64) (x5 : Int32) (M : gMem) : Option (gMem) :=
  gLp (fun s : Int64 × Int32 × gMem => fX9_draws_9 (s.1) (s.2.1) s.2.2) gFu (x3, x5, M)
set_option maxRecDepth 100000 in
theorem CX9_draws_9h {G : gG} {d : Nat} {Z : Option Value → gMem → Prop} (hd : 7 ≤ d) (x3 : Int64) (x5 : Int32) (M : gMem) (P : gMem → Prop) (k0 : ∀ (N : gMem), P N → Z none N) (h : gOKq (fX9_draws_9h x3 x5 M) P) : gGo G YX9_draws d Z 9 [some (.ref 141), none, none, some (.long x3), none, some (.int x5)] [] M :=
  gLp_go (K := fun s : Int64 × Int32 × gMem => gGo G YX9_draws d Z 9 [some (.ref 141), none, none, some (.long s.1), none, some (.int s.2.1)] [] s.2.2) (P := P) (fun s hs => CX9_draws_9 hd (s.1) (s.2.1) (s.2.2) (Sum.elim (fun s : Int64 × Int32 × gMem => gGo G YX9_draws d Z 9 [some (.ref 141), none, none, some (.long s.1), none, some (.int s.2.1)] [] s.2.2) P) k0 (fun x3 x5 M hh => hh) hs) gFu (x3, x5, M) h
def fX9_draws_0 (x1 : Int64) (M : gMem) : Option (gMem) :=
  gB0 (fX9_lays M) (fun M1 => fX9_draws_9h x1 (0 : Int32) M1)
set_option maxRecDepth 100000 in
theorem CX9_draws_0 {G : gG} {d : Nat} {Z : Option Value → gMem → Prop} (hd : 7 ≤ d) (x1 : Int64) (M : gMem) (P : gMem → Prop) (k0 : ∀ (N : gMem), P N → Z none N) (h : gOKq (fX9_draws_0 x1 M) P) : gGo G YX9_draws d Z 0 [some (.ref 141), some (.long x1), none, none, none, none] [] M := by
  unfold fX9_draws_0 at h
  refine go_rn 1 (pc' := 1) (L' := [some (.ref 141), some (.long x1), none, none, none, none]) (S' := [.ref 141]) (M' := M) okX9_draws rfl ?_
  obtain ⟨M1, e2, h⟩ := gB0_ok h
  refine go_call1 ocX9_draws rfl rfl (gOb_c rfl) rfl (SX9_lays M e2) (Nat.lt_of_lt_of_le (by decide) hd) ?_
  refine go_rn 4 (pc' := 9) (L' := [some (.ref 141), some (.long x1), none, some (.long x1), none, some (.int (0 : Int32))]) (S' := []) (M' := M1) okX9_draws rfl ?_
  exact go_wk (CX9_draws_9h hd x1 (0 : Int32) M1 P k0 h) ⟨rfl, rfl, rfl, True.intro⟩
def fX9_draws (a1 : Int64) (M : gMem) : Option (gMem) := fX9_draws_0 a1 M
theorem SX9_draws {G : gG} (a1 : Int64) (M : gMem) {N : gMem} (h : fX9_draws a1 M = some N) : gRun G YX9_draws 7 [.ref 141, .long a1] M (fun r' N' => r' = none ∧ N' = N) := gRun_in (by decide +kernel) rfl (fun d hd => go_wk (CX9_draws_0 hd a1 M (fun p => p = N) (fun N hh => ⟨rfl, hh⟩) (gq_of h)) ⟨rfl, rfl, True.intro⟩)
def fX9_isSeed_0 (x0 : Int32) (M : gMem) : Option (Int32) :=
  gB0 (fX9_in (Int32.toInt64 x0) (0 : Int64) (2000000000 : Int64) M) (fun r1 => if r1 = 0 ∨ r1 = 1 then some r1 else none)
set_option maxRecDepth 100000 in
theorem CX9_isSeed_0 {G : gG} {d : Nat} {Z : Option Value → gMem → Prop} (hd : 1 ≤ d) (x0 : Int32) (M : gMem) (P : Int32 → Prop) (k0 : ∀ (r : Int32), P r → Z (some (.int r)) M) (h : gOKq (fX9_isSeed_0 x0 M) P) : gGo G YX9_isSeed d Z 0 [some (.int x0)] [] M := by
  unfold fX9_isSeed_0 at h
  refine go_rn 4 (pc' := 6) (L' := [some (.int x0)]) (S' := [.long (2000000000 : Int64), .long (0 : Int64), .long (Int32.toInt64 x0)]) (M' := M) okX9_isSeed rfl ?_
  obtain ⟨r1, e2, h⟩ := gB0_ok h
  refine go_call1 ocX9_isSeed rfl rfl rfl rfl (SX9_in (Int32.toInt64 x0) (0 : Int64) (2000000000 : Int64) M e2) (Nat.lt_of_lt_of_le (by decide) hd) ?_
  obtain ⟨hz, h⟩ := gq_if h
  exact go_zret (reX9_isSeed _ (by decide)) rfl hz (k0 r1 h)
def fX9_isSeed (a0 : Int32) (M : gMem) : Option (Int32) := fX9_isSeed_0 a0 M
theorem SX9_isSeed {G : gG} (a0 : Int32) (M : gMem) {r : Int32} (h : fX9_isSeed a0 M = some r) : gRun G YX9_isSeed 1 [.int a0] M (fun r' N' => r' = some (.int r) ∧ N' = M) := gRun_in (by decide +kernel) rfl (fun d hd => go_wk (CX9_isSeed_0 hd a0 M (fun p => p = r) (fun r hh => ⟨congrArg (fun z => some (Value.int z)) hh, rfl⟩) (gq_of h)) ⟨rfl, True.intro⟩)
def fX9_drawn_6 (x1 : Int32) (x2 : Int32) (M : gMem) : Option (Int32 × gMem) :=
  gB0 (fX9_isCity M) (fun r1 => if r1 = 0 then some ((-2 : Int32), M) else gB0 (fX9_isSeed x1 M) (fun r3 => if r3 = 0 then some ((-2 : Int32), M) else gB0 (fX9_isHalf x2 M) (fun r5 => if r5 = 0 then some ((-2 : Int32), M) else gB0 (fX9_draws (Int32.toInt64 x1) M) (fun M7 => if x2 = 0 then gB0 (fX9_years M7) (fun r9 => gB0 (fX9_outBits (r9 - (1 : Int32)) M7) (fun r11 => some (r11, M7))) else some ((M7.1 141 25), M7)))))
set_option maxRecDepth 100000 in
theorem CX9_drawn_6 {G : gG} {d : Nat} {Z : Option Value → gMem → Prop} (hd : 8 ≤ d) (x1 : Int32) (x2 : Int32) (M : gMem) (P : Int32 × gMem → Prop) (k0 : ∀ (r : Int32) (N : gMem), P (r, N) → Z (some (.int r)) N) (h : gOKq (fX9_drawn_6 x1 x2 M) P) : gGo G YX9_drawn d Z 6 [some (.ref 141), some (.int x1), some (.int x2)] [.ref 141] M := by
  unfold fX9_drawn_6 at h
  obtain ⟨r1, e2, h⟩ := gB0_ok h
  refine go_call1 ocX9_drawn rfl rfl (gOb_c rfl) rfl (SX9_isCity M e2) (Nat.lt_of_lt_of_le (by decide) hd) ?_
  refine go_br okX9_drawn rfl (fun hp => ?_) (fun hp => ?_)
  · have h := gq_pos hp h
    refine go_rn 1 (pc' := 28) (L' := [some (.ref 141), some (.int x1), some (.int x2)]) (S' := [.int (-2 : Int32)]) (M' := M) okX9_drawn rfl ?_
    exact go_iret (reX9_drawn _ (by decide)) rfl (k0 (-2 : Int32) M h)
  · have h := gq_neg hp h
    refine go_rn 1 (pc' := 13) (L' := [some (.ref 141), some (.int x1), some (.int x2)]) (S' := [.int x1]) (M' := M) okX9_drawn rfl ?_
    obtain ⟨r3, e4, h⟩ := gB0_ok h
    refine go_call1 ocX9_drawn rfl rfl rfl rfl (SX9_isSeed x1 M e4) (Nat.lt_of_lt_of_le (by decide) hd) ?_
    refine go_br okX9_drawn rfl (fun hp => ?_) (fun hp => ?_)
    · have h := gq_pos hp h
      refine go_rn 1 (pc' := 28) (L' := [some (.ref 141), some (.int x1), some (.int x2)]) (S' := [.int (-2 : Int32)]) (M' := M) okX9_drawn rfl ?_
      exact go_iret (reX9_drawn _ (by decide)) rfl (k0 (-2 : Int32) M h)
    · have h := gq_neg hp h
      refine go_rn 1 (pc' := 20) (L' := [some (.ref 141), some (.int x1), some (.int x2)]) (S' := [.int x2]) (M' := M) okX9_drawn rfl ?_
      obtain ⟨r5, e6, h⟩ := gB0_ok h
      refine go_call1 ocX9_drawn rfl rfl rfl rfl (SX9_isHalf x2 M e6) (Nat.lt_of_lt_of_le (by decide) hd) ?_
      refine go_br okX9_drawn rfl (fun hp => ?_) (fun hp => ?_)
      · have h := gq_pos hp h
        refine go_rn 1 (pc' := 28) (L' := [some (.ref 141), some (.int x1), some (.int x2)]) (S' := [.int (-2 : Int32)]) (M' := M) okX9_drawn rfl ?_
        exact go_iret (reX9_drawn _ (by decide)) rfl (k0 (-2 : Int32) M h)
      · have h := gq_neg hp h
        refine go_rn 3 (pc' := 32) (L' := [some (.ref 141), some (.int x1), some (.int x2)]) (S' := [.long (Int32.toInt64 x1), .ref 141]) (M' := M) okX9_drawn rfl ?_
        obtain ⟨M7, e8, h⟩ := gB0_ok h
        refine go_call1 ocX9_drawn rfl rfl (gOb_c rfl) rfl (SX9_draws (Int32.toInt64 x1) M e8) (Nat.lt_of_lt_of_le (by decide) hd) ?_
        refine go_rn 1 (pc' := 36) (L' := [some (.ref 141), some (.int x1), some (.int x2)]) (S' := [.int x2]) (M' := M7) okX9_drawn rfl ?_
        refine go_br okX9_drawn rfl (fun hp => ?_) (fun hp => ?_)
        · have h := gq_pos hp h
          refine go_rn 2 (pc' := 41) (L' := [some (.ref 141), some (.int x1), some (.int x2)]) (S' := [.ref 141, .ref 141]) (M' := M7) okX9_drawn rfl ?_
          obtain ⟨r9, e10, h⟩ := gB0_ok h
          refine go_call1 ocX9_drawn rfl rfl (gOb_c rfl) rfl (SX9_years M7 e10) (Nat.lt_of_lt_of_le (by decide) hd) ?_
          refine go_rn 2 (pc' := 46) (L' := [some (.ref 141), some (.int x1), some (.int x2)]) (S' := [.int (r9 - (1 : Int32)), .ref 141]) (M' := M7) okX9_drawn rfl ?_
          obtain ⟨r11, e12, h⟩ := gB0_ok h
          refine go_call1 ocX9_drawn rfl rfl (gOb_c rfl) rfl (SX9_outBits (r9 - (1 : Int32)) M7 e12) (Nat.lt_of_lt_of_le (by decide) hd) ?_
          refine go_rn 1 (pc' := 56) (L' := [some (.ref 141), some (.int x1), some (.int x2)]) (S' := [.int r11]) (M' := M7) okX9_drawn rfl ?_
          exact go_iret (reX9_drawn _ (by decide)) rfl (k0 r11 M7 h)
        · have h := gq_neg hp h
          refine go_rn 1 (pc' := 53) (L' := [some (.ref 141), some (.int x1), some (.int x2)]) (S' := [.ref 141]) (M' := M7) okX9_drawn rfl ?_
          refine go_ck okX9_drawn rfl (gOb_c rfl) ?_
          exact go_iret (reX9_drawn _ (by decide)) rfl (k0 (M7.1 141 25) M7 h)
def fX9_drawn_0 (x1 : Int32) (x2 : Int32) (M : gMem) : Option (Int32 × gMem) :=
  fX9_drawn_6 x1 x2 (gSI M 141 0 (0 : Int32))
set_option maxRecDepth 100000 in
theorem CX9_drawn_0 {G : gG} {d : Nat} {Z : Option Value → gMem → Prop} (hd : 8 ≤ d) (x1 : Int32) (x2 : Int32) (M : gMem) (P : Int32 × gMem → Prop) (k0 : ∀ (r : Int32) (N : gMem), P (r, N) → Z (some (.int r)) N) (h : gOKq (fX9_drawn_0 x1 x2 M) P) : gGo G YX9_drawn d Z 0 [some (.ref 141), some (.int x1), some (.int x2)] [] M := by
  unfold fX9_drawn_0 at h
  refine go_rn 2 (pc' := 2) (L' := [some (.ref 141), some (.int x1), some (.int x2)]) (S' := [.int (0 : Int32), .ref 141]) (M' := M) okX9_drawn rfl ?_
  refine go_ck okX9_drawn rfl (gOb_c rfl) ?_
  refine go_rn 1 (pc' := 6) (L' := [some (.ref 141), some (.int x1), some (.int x2)]) (S' := [.ref 141]) (M' := (gSI M 141 0 (0 : Int32))) okX9_drawn rfl ?_
  exact go_wk (CX9_drawn_6 hd x1 x2 (gSI M 141 0 (0 : Int32)) P k0 h) ⟨rfl, rfl, rfl, True.intro⟩
def fX9_drawn (a1 : Int32) (a2 : Int32) (M : gMem) : Option (Int32 × gMem) := fX9_drawn_0 a1 a2 M
theorem SX9_drawn {G : gG} (a1 : Int32) (a2 : Int32) (M : gMem) {r : Int32} {N : gMem} (h : fX9_drawn a1 a2 M = some (r, N)) : gRun G YX9_drawn 8 [.ref 141, .int a1, .int a2] M (fun r' N' => r' = some (.int r) ∧ N' = N) := gRun_in (by decide +kernel) rfl (fun d hd => go_wk (CX9_drawn_0 hd a1 a2 M (fun p => p = (r, N)) (fun r N hh => by cases hh; exact ⟨rfl, rfl⟩) (gq_of h)) ⟨rfl, rfl, rfl, True.intro⟩)
def fX9_luck_42 (x1 : Int32) (x2 : Int32) (x3 : Int32) (x4 : Int32) (x5 : Int32) (M : gMem) : Option (Sum (Int32 × Int32 × gMem) (Int32 × gMem)) :=
  if x2 ≤ x5 then some (.inr (x4, M)) else gB0 (fX9_draws ((Int32.toInt64 x1) + (Int32.toInt64 x5)) M) (fun M1 => gB0 (fX9_years M1) (fun r3 => gB0 (fX9_isOut x3 (r3 - (1 : Int32)) M1) (fun r5 => if r5 = 0 then some (.inl ((x4 + (0 : Int32)), (x5 + 1), M1)) else some (.inl ((x4 + (1 : Int32)), (x5 + 1), M1)))))
set_option maxRecDepth 100000 in
theorem CX9_luck_42 {G : gG} {d : Nat} {Z : Option Value → gMem → Prop} (hd : 8 ≤ d) (x1 : Int32) (x2 : Int32) (x3 : Int32) (x4 : Int32) (x5 : Int32) (M : gMem) (P : Sum (Int32 × Int32 × gMem) (Int32 × gMem) → Prop) (k0 : ∀ (r : Int32) (N : gMem), P (.inr (r, N)) → Z (some (.int r)) N) (k1 : ∀ (x4 : Int32) (x5 : Int32) (M : gMem), P (.inl (x4, x5, M)) → gGo G YX9_luck d Z 42 [some (.ref 141), some (.int x1), some (.int x2), some (.int x3), some (.int x4), some (.int x5)] [] M) (h : gOKq (fX9_luck_42 x1 x2 x3 x4 x5 M) P) : gGo G YX9_luck d Z 42 [some (.ref 141), some (.int x1), some (.int x2), some (.int x3), some (.int x4), some (.int x5)] [] M := by
  unfold fX9_luck_42 at h
  refine go_rn 2 (pc' := 45) (L' := [some (.ref 141), some (.int x1), some (.int x2), some (.int x3), some (.int x4), some (.int x5)]) (S' := [.int x2, .int x5]) (M' := M) okX9_luck rfl ?_
  refine go_br okX9_luck rfl (fun hp => ?_) (fun hp => ?_)
  · have h := gq_pos hp h
    refine go_rn 1 (pc' := 90) (L' := [some (.ref 141), some (.int x1), some (.int x2), some (.int x3), some (.int x4), some (.int x5)]) (S' := [.int x4]) (M' := M) okX9_luck rfl ?_
    exact go_iret (reX9_luck _ (by decide)) rfl (k0 x4 M h)
  · have h := gq_neg hp h
    refine go_rn 6 (pc' := 55) (L' := [some (.ref 141), some (.int x1), some (.int x2), some (.int x3), some (.int x4), some (.int x5)]) (S' := [.long ((Int32.toInt64 x1) + (Int32.toInt64 x5)), .ref 141]) (M' := M) okX9_luck rfl ?_
    obtain ⟨M1, e2, h⟩ := gB0_ok h
    refine go_call1 ocX9_luck rfl rfl (gOb_c rfl) rfl (SX9_draws ((Int32.toInt64 x1) + (Int32.toInt64 x5)) M e2) (Nat.lt_of_lt_of_le (by decide) hd) ?_
    refine go_rn 4 (pc' := 63) (L' := [some (.ref 141), some (.int x1), some (.int x2), some (.int x3), some (.int x4), some (.int x5)]) (S' := [.ref 141, .int x3, .ref 141, .int x4]) (M' := M1) okX9_luck rfl ?_
    obtain ⟨r3, e4, h⟩ := gB0_ok h
    refine go_call1 ocX9_luck rfl rfl (gOb_c rfl) rfl (SX9_years M1 e4) (Nat.lt_of_lt_of_le (by decide) hd) ?_
    refine go_rn 2 (pc' := 68) (L' := [some (.ref 141), some (.int x1), some (.int x2), some (.int x3), some (.int x4), some (.int x5)]) (S' := [.int (r3 - (1 : Int32)), .int x3, .ref 141, .int x4]) (M' := M1) okX9_luck rfl ?_
    obtain ⟨r5, e6, h⟩ := gB0_ok h
    refine go_call1 ocX9_luck rfl rfl (gOb_c rfl) rfl (SX9_isOut x3 (r3 - (1 : Int32)) M1 e6) (Nat.lt_of_lt_of_le (by decide) hd) ?_
    refine go_br okX9_luck rfl (fun hp => ?_) (fun hp => ?_)
    · have h := gq_pos hp h
      refine go_rn 5 (pc' := 42) (L' := [some (.ref 141), some (.int x1), some (.int x2), some (.int x3), some (.int (x4 + (0 : Int32))), some (.int (x5 + 1))]) (S' := []) (M' := M1) okX9_luck rfl ?_
      exact go_wk (k1 ((x4 + (0 : Int32))) ((x5 + 1)) M1 h) ⟨rfl, rfl, rfl, rfl, rfl, rfl, True.intro⟩
    · have h := gq_neg hp h
      refine go_rn 6 (pc' := 42) (L' := [some (.ref 141), some (.int x1), some (.int x2), some (.int x3), some (.int (x4 + (1 : Int32))), some (.int (x5 + 1))]) (S' := []) (M' := M1) okX9_luck rfl ?_
      exact go_wk (k1 ((x4 + (1 : Int32))) ((x5 + 1)) M1 h) ⟨rfl, rfl, rfl, rfl, rfl, rfl, True.intro⟩
def fX9_luck_42h (x1 : Int32) (x2 : Int32) (x3 : Int32) (x4 : Int32) (x5 : Int32) (M : gMem) : Option (Int32 × gMem) :=
  gLp (fun s : Int32 × Int32 × gMem => fX9_luck_42 x1 x2 x3 (s.1) (s.2.1) s.2.2) gFu (x4, x5, M)
set_option maxRecDepth 100000 in
theorem CX9_luck_42h {G : gG} {d : Nat} {Z : Option Value → gMem → Prop} (hd : 8 ≤ d) (x1 : Int32) (x2 : Int32) (x3 : Int32) (x4 : Int32) (x5 : Int32) (M : gMem) (P : Int32 × gMem → Prop) (k0 : ∀ (r : Int32) (N : gMem), P (r, N) → Z (some (.int r)) N) (h : gOKq (fX9_luck_42h x1 x2 x3 x4 x5 M) P) : gGo G YX9_luck d Z 42 [some (.ref 141), some (.int x1), some (.int x2), some (.int x3), some (.int x4), some (.int x5)] [] M :=
  gLp_go (K := fun s : Int32 × Int32 × gMem => gGo G YX9_luck d Z 42 [some (.ref 141), some (.int x1), some (.int x2), some (.int x3), some (.int s.1), some (.int s.2.1)] [] s.2.2) (P := P) (fun s hs => CX9_luck_42 hd (x1) (x2) (x3) (s.1) (s.2.1) (s.2.2) (Sum.elim (fun s : Int32 × Int32 × gMem => gGo G YX9_luck d Z 42 [some (.ref 141), some (.int x1), some (.int x2), some (.int x3), some (.int s.1), some (.int s.2.1)] [] s.2.2) P) k0 (fun x4 x5 M hh => hh) hs) gFu (x4, x5, M) h
def fX9_luck_6 (x1 : Int32) (x2 : Int32) (x3 : Int32) (s0 : Int32) (M : gMem) : Option (Int32 × gMem) :=
  gB0 (fX9_isSeed s0 M) (fun r1 => if r1 = 0 then some ((-2 : Int32), M) else gB0 (fX9_in (Int32.toInt64 x2) (1 : Int64) (20 : Int64) M) (fun r3 => if r3 = 0 then some ((-2 : Int32), M) else gB0 (fX9_isPerson (Int32.toInt64 x3) M) (fun r5 => if r5 = 0 then some ((-2 : Int32), M) else fX9_luck_42h x1 x2 x3 (0 : Int32) (0 : Int32) M)))
set_option maxRecDepth 100000 in
theorem CX9_luck_6 {G : gG} {d : Nat} {Z : Option Value → gMem → Prop} (hd : 8 ≤ d) (x1 : Int32) (x2 : Int32) (x3 : Int32) (s0 : Int32) (M : gMem) (P : Int32 × gMem → Prop) (k0 : ∀ (r : Int32) (N : gMem), P (r, N) → Z (some (.int r)) N) (h : gOKq (fX9_luck_6 x1 x2 x3 s0 M) P) : gGo G YX9_luck d Z 6 [some (.ref 141), some (.int x1), some (.int x2), some (.int x3), none, none] [.int s0] M := by
  unfold fX9_luck_6 at h
  obtain ⟨r1, e2, h⟩ := gB0_ok h
  refine go_call1 ocX9_luck rfl rfl rfl rfl (SX9_isSeed s0 M e2) (Nat.lt_of_lt_of_le (by decide) hd) ?_
  refine go_br okX9_luck rfl (fun hp => ?_) (fun hp => ?_)
  · have h := gq_pos hp h
    refine go_rn 1 (pc' := 35) (L' := [some (.ref 141), some (.int x1), some (.int x2), some (.int x3), none, none]) (S' := [.int (-2 : Int32)]) (M' := M) okX9_luck rfl ?_
    exact go_iret (reX9_luck _ (by decide)) rfl (k0 (-2 : Int32) M h)
  · have h := gq_neg hp h
    refine go_rn 4 (pc' := 18) (L' := [some (.ref 141), some (.int x1), some (.int x2), some (.int x3), none, none]) (S' := [.long (20 : Int64), .long (1 : Int64), .long (Int32.toInt64 x2)]) (M' := M) okX9_luck rfl ?_
    obtain ⟨r3, e4, h⟩ := gB0_ok h
    refine go_call1 ocX9_luck rfl rfl rfl rfl (SX9_in (Int32.toInt64 x2) (1 : Int64) (20 : Int64) M e4) (Nat.lt_of_lt_of_le (by decide) hd) ?_
    refine go_br okX9_luck rfl (fun hp => ?_) (fun hp => ?_)
    · have h := gq_pos hp h
      refine go_rn 1 (pc' := 35) (L' := [some (.ref 141), some (.int x1), some (.int x2), some (.int x3), none, none]) (S' := [.int (-2 : Int32)]) (M' := M) okX9_luck rfl ?_
      exact go_iret (reX9_luck _ (by decide)) rfl (k0 (-2 : Int32) M h)
    · have h := gq_neg hp h
      refine go_rn 3 (pc' := 27) (L' := [some (.ref 141), some (.int x1), some (.int x2), some (.int x3), none, none]) (S' := [.long (Int32.toInt64 x3), .ref 141]) (M' := M) okX9_luck rfl ?_
      obtain ⟨r5, e6, h⟩ := gB0_ok h
      refine go_call1 ocX9_luck rfl rfl (gOb_c rfl) rfl (SX9_isPerson (Int32.toInt64 x3) M e6) (Nat.lt_of_lt_of_le (by decide) hd) ?_
      refine go_br okX9_luck rfl (fun hp => ?_) (fun hp => ?_)
      · have h := gq_pos hp h
        refine go_rn 1 (pc' := 35) (L' := [some (.ref 141), some (.int x1), some (.int x2), some (.int x3), none, none]) (S' := [.int (-2 : Int32)]) (M' := M) okX9_luck rfl ?_
        exact go_iret (reX9_luck _ (by decide)) rfl (k0 (-2 : Int32) M h)
      · have h := gq_neg hp h
        refine go_rn 4 (pc' := 42) (L' := [some (.ref 141), some (.int x1), some (.int x2), some (.int x3), some (.int (0 : Int32)), some (.int (0 : Int32))]) (S' := []) (M' := M) okX9_luck rfl ?_
        exact go_wk (CX9_luck_42h hd x1 x2 x3 (0 : Int32) (0 : Int32) M P k0 h) ⟨rfl, rfl, rfl, rfl, rfl, rfl, True.intro⟩
def fX9_luck_0 (x1 : Int32) (x2 : Int32) (x3 : Int32) (M : gMem) : Option (Int32 × gMem) :=
  fX9_luck_6 x1 x2 x3 x1 (gSI M 141 0 (0 : Int32))
set_option maxRecDepth 100000 in
theorem CX9_luck_0 {G : gG} {d : Nat} {Z : Option Value → gMem → Prop} (hd : 8 ≤ d) (x1 : Int32) (x2 : Int32) (x3 : Int32) (M : gMem) (P : Int32 × gMem → Prop) (k0 : ∀ (r : Int32) (N : gMem), P (r, N) → Z (some (.int r)) N) (h : gOKq (fX9_luck_0 x1 x2 x3 M) P) : gGo G YX9_luck d Z 0 [some (.ref 141), some (.int x1), some (.int x2), some (.int x3), none, none] [] M := by
  unfold fX9_luck_0 at h
  refine go_rn 2 (pc' := 2) (L' := [some (.ref 141), some (.int x1), some (.int x2), some (.int x3), none, none]) (S' := [.int (0 : Int32), .ref 141]) (M' := M) okX9_luck rfl ?_
  refine go_ck okX9_luck rfl (gOb_c rfl) ?_
  refine go_rn 1 (pc' := 6) (L' := [some (.ref 141), some (.int x1), some (.int x2), some (.int x3), none, none]) (S' := [.int x1]) (M' := (gSI M 141 0 (0 : Int32))) okX9_luck rfl ?_
  exact go_wk (CX9_luck_6 hd x1 x2 x3 x1 (gSI M 141 0 (0 : Int32)) P k0 h) ⟨rfl, rfl, rfl, rfl, True.intro⟩
def fX9_luck (a1 : Int32) (a2 : Int32) (a3 : Int32) (M : gMem) : Option (Int32 × gMem) := fX9_luck_0 a1 a2 a3 M
theorem SX9_luck {G : gG} (a1 : Int32) (a2 : Int32) (a3 : Int32) (M : gMem) {r : Int32} {N : gMem} (h : fX9_luck a1 a2 a3 M = some (r, N)) : gRun G YX9_luck 8 [.ref 141, .int a1, .int a2, .int a3] M (fun r' N' => r' = some (.int r) ∧ N' = N) := gRun_in (by decide +kernel) rfl (fun d hd => go_wk (CX9_luck_0 hd a1 a2 a3 M (fun p => p = (r, N)) (fun r N hh => by cases hh; exact ⟨rfl, rfl⟩) (gq_of h)) ⟨rfl, rfl, rfl, rfl, True.intro⟩)
def fX9_does_57 (s0 : Int32) (s2 : Int32) (M : gMem) : Option (gMem) :=
  if gIx 1 148 s0 = true then if gIx 1 148 s2 = true then some (gSI M 148 (Int32.toNatClampNeg s2) ((M.1 148 (Int32.toNatClampNeg s0)) + (1 : Int32))) else none else none
set_option maxRecDepth 100000 in
theorem CX9_does_57 {G : gG} {d : Nat} {Z : Option Value → gMem → Prop} (hd : 0 ≤ d) (s0 : Int32) (s2 : Int32) (M : gMem) (P : gMem → Prop) (k0 : ∀ (N : gMem), P N → Z none N) (h : gOKq (fX9_does_57 s0 s2 M) P) : gGo G YX9_does d Z 57 [none, none, none, none, none, none] [.int s0, .ref 148, .int s2, .ref 148] M := by
  unfold fX9_does_57 at h
  obtain ⟨c1, h⟩ := gq_if h
  refine go_ck okX9_does rfl c1 ?_
  refine go_rn 2 (pc' := 60) (L' := [none, none, none, none, none, none]) (S' := [.int ((M.1 148 (Int32.toNatClampNeg s0)) + (1 : Int32)), .int s2, .ref 148]) (M' := M) okX9_does rfl ?_
  obtain ⟨c2, h⟩ := gq_if h
  refine go_ck okX9_does rfl c2 ?_
  exact go_vret (reX9_does _ (by decide)) rfl (k0 (gSI M 148 (Int32.toNatClampNeg s2) ((M.1 148 (Int32.toNatClampNeg s0)) + (1 : Int32))) h)
def fX9_does_49 (s0 : Int32) (s1 : Int32) (M : gMem) : Option (gMem) :=
  if gIx 1 153 s1 = true then fX9_does_57 (8 : Int32) (8 : Int32) (gSI M 153 (Int32.toNatClampNeg s1) s0) else none
set_option maxRecDepth 100000 in
theorem CX9_does_49 {G : gG} {d : Nat} {Z : Option Value → gMem → Prop} (hd : 0 ≤ d) (s0 : Int32) (s1 : Int32) (M : gMem) (P : gMem → Prop) (k0 : ∀ (N : gMem), P N → Z none N) (h : gOKq (fX9_does_49 s0 s1 M) P) : gGo G YX9_does d Z 49 [some (.ref 141), none, none, none, none, none] [.int s0, .int s1, .ref 153] M := by
  unfold fX9_does_49 at h
  obtain ⟨c1, h⟩ := gq_if h
  refine go_ck okX9_does rfl c1 ?_
  refine go_rn 1 (pc' := 51) (L' := [some (.ref 141), none, none, none, none, none]) (S' := [.ref 141]) (M' := (gSI M 153 (Int32.toNatClampNeg s1) s0)) okX9_does rfl ?_
  refine go_ck okX9_does rfl (gOb_c rfl) ?_
  refine go_rn 2 (pc' := 57) (L' := [some (.ref 141), none, none, none, none, none]) (S' := [.int (8 : Int32), .ref 148, .int (8 : Int32), .ref 148]) (M' := (gSI M 153 (Int32.toNatClampNeg s1) s0)) okX9_does rfl ?_
  exact go_wk (CX9_does_57 hd (8 : Int32) (8 : Int32) (gSI M 153 (Int32.toNatClampNeg s1) s0) P k0 h) True.intro
def fX9_does_38 (x4 : Int32) (x5 : Int32) (s0 : Int32) (s1 : Int32) (M : gMem) : Option (gMem) :=
  if gIx 1 153 s1 = true then fX9_does_49 x4 (x5 + (3 : Int32)) (gSI M 153 (Int32.toNatClampNeg s1) s0) else none
set_option maxRecDepth 100000 in
theorem CX9_does_38 {G : gG} {d : Nat} {Z : Option Value → gMem → Prop} (hd : 0 ≤ d) (x4 : Int32) (x5 : Int32) (s0 : Int32) (s1 : Int32) (M : gMem) (P : gMem → Prop) (k0 : ∀ (N : gMem), P N → Z none N) (h : gOKq (fX9_does_38 x4 x5 s0 s1 M) P) : gGo G YX9_does d Z 38 [some (.ref 141), none, none, none, some (.int x4), some (.int x5)] [.int s0, .int s1, .ref 153] M := by
  unfold fX9_does_38 at h
  obtain ⟨c1, h⟩ := gq_if h
  refine go_ck okX9_does rfl c1 ?_
  refine go_rn 1 (pc' := 40) (L' := [some (.ref 141), none, none, none, some (.int x4), some (.int x5)]) (S' := [.ref 141]) (M' := (gSI M 153 (Int32.toNatClampNeg s1) s0)) okX9_does rfl ?_
  refine go_ck okX9_does rfl (gOb_c rfl) ?_
  refine go_rn 4 (pc' := 49) (L' := [some (.ref 141), none, none, none, some (.int x4), some (.int x5)]) (S' := [.int x4, .int (x5 + (3 : Int32)), .ref 153]) (M' := (gSI M 153 (Int32.toNatClampNeg s1) s0)) okX9_does rfl ?_
  exact go_wk (CX9_does_49 hd x4 (x5 + (3 : Int32)) (gSI M 153 (Int32.toNatClampNeg s1) s0) P k0 h) ⟨rfl, True.intro⟩
def fX9_does_28 (x3 : Int32) (x4 : Int32) (x5 : Int32) (s0 : Int32) (s1 : Int32) (M : gMem) : Option (gMem) :=
  if gIx 1 153 s1 = true then fX9_does_38 x4 x5 x3 (x5 + (2 : Int32)) (gSI M 153 (Int32.toNatClampNeg s1) s0) else none
set_option maxRecDepth 100000 in
theorem CX9_does_28 {G : gG} {d : Nat} {Z : Option Value → gMem → Prop} (hd : 0 ≤ d) (x3 : Int32) (x4 : Int32) (x5 : Int32) (s0 : Int32) (s1 : Int32) (M : gMem) (P : gMem → Prop) (k0 : ∀ (N : gMem), P N → Z none N) (h : gOKq (fX9_does_28 x3 x4 x5 s0 s1 M) P) : gGo G YX9_does d Z 28 [some (.ref 141), none, none, some (.int x3), some (.int x4), some (.int x5)] [.int s0, .int s1, .ref 153] M := by
  unfold fX9_does_28 at h
  obtain ⟨c1, h⟩ := gq_if h
  refine go_ck okX9_does rfl c1 ?_
  refine go_rn 1 (pc' := 30) (L' := [some (.ref 141), none, none, some (.int x3), some (.int x4), some (.int x5)]) (S' := [.ref 141]) (M' := (gSI M 153 (Int32.toNatClampNeg s1) s0)) okX9_does rfl ?_
  refine go_ck okX9_does rfl (gOb_c rfl) ?_
  refine go_rn 4 (pc' := 38) (L' := [some (.ref 141), none, none, some (.int x3), some (.int x4), some (.int x5)]) (S' := [.int x3, .int (x5 + (2 : Int32)), .ref 153]) (M' := (gSI M 153 (Int32.toNatClampNeg s1) s0)) okX9_does rfl ?_
  exact go_wk (CX9_does_38 hd x4 x5 x3 (x5 + (2 : Int32)) (gSI M 153 (Int32.toNatClampNeg s1) s0) P k0 h) ⟨rfl, rfl, rfl, True.intro⟩
def fX9_does_0 (x1 : Int32) (x2 : Int32) (x3 : Int32) (x4 : Int32) (M : gMem) : Option (gMem) :=
  if gIx 1 148 (8 : Int32) = true then if gIx 1 153 ((4 : Int32) * (M.1 148 (Int32.toNatClampNeg (8 : Int32)))) = true then fX9_does_28 x3 x4 ((4 : Int32) * (M.1 148 (Int32.toNatClampNeg (8 : Int32)))) x2 (((4 : Int32) * (M.1 148 (Int32.toNatClampNeg (8 : Int32)))) + (1 : Int32)) (gSI M 153 (Int32.toNatClampNeg ((4 : Int32) * (M.1 148 (Int32.toNatClampNeg (8 : Int32))))) x1) else none else none
set_option maxRecDepth 100000 in
theorem CX9_does_0 {G : gG} {d : Nat} {Z : Option Value → gMem → Prop} (hd : 0 ≤ d) (x1 : Int32) (x2 : Int32) (x3 : Int32) (x4 : Int32) (M : gMem) (P : gMem → Prop) (k0 : ∀ (N : gMem), P N → Z none N) (h : gOKq (fX9_does_0 x1 x2 x3 x4 M) P) : gGo G YX9_does d Z 0 [some (.ref 141), some (.int x1), some (.int x2), some (.int x3), some (.int x4), none] [] M := by
  unfold fX9_does_0 at h
  refine go_rn 2 (pc' := 2) (L' := [some (.ref 141), some (.int x1), some (.int x2), some (.int x3), some (.int x4), none]) (S' := [.ref 141, .int (4 : Int32)]) (M' := M) okX9_does rfl ?_
  refine go_ck okX9_does rfl (gOb_c rfl) ?_
  refine go_rn 1 (pc' := 7) (L' := [some (.ref 141), some (.int x1), some (.int x2), some (.int x3), some (.int x4), none]) (S' := [.int (8 : Int32), .ref 148, .int (4 : Int32)]) (M' := M) okX9_does rfl ?_
  obtain ⟨c1, h⟩ := gq_if h
  refine go_ck okX9_does rfl c1 ?_
  refine go_rn 3 (pc' := 12) (L' := [some (.ref 141), some (.int x1), some (.int x2), some (.int x3), some (.int x4), some (.int ((4 : Int32) * (M.1 148 (Int32.toNatClampNeg (8 : Int32)))))]) (S' := [.ref 141]) (M' := M) okX9_does rfl ?_
  refine go_ck okX9_does rfl (gOb_c rfl) ?_
  refine go_rn 2 (pc' := 18) (L' := [some (.ref 141), some (.int x1), some (.int x2), some (.int x3), some (.int x4), some (.int ((4 : Int32) * (M.1 148 (Int32.toNatClampNeg (8 : Int32)))))]) (S' := [.int x1, .int ((4 : Int32) * (M.1 148 (Int32.toNatClampNeg (8 : Int32)))), .ref 153]) (M' := M) okX9_does rfl ?_
  obtain ⟨c2, h⟩ := gq_if h
  refine go_ck okX9_does rfl c2 ?_
  refine go_rn 1 (pc' := 20) (L' := [some (.ref 141), some (.int x1), some (.int x2), some (.int x3), some (.int x4), some (.int ((4 : Int32) * (M.1 148 (Int32.toNatClampNeg (8 : Int32)))))]) (S' := [.ref 141]) (M' := (gSI M 153 (Int32.toNatClampNeg ((4 : Int32) * (M.1 148 (Int32.toNatClampNeg (8 : Int32))))) x1)) okX9_does rfl ?_
  refine go_ck okX9_does rfl (gOb_c rfl) ?_
  refine go_rn 4 (pc' := 28) (L' := [some (.ref 141), some (.int x1), some (.int x2), some (.int x3), some (.int x4), some (.int ((4 : Int32) * (M.1 148 (Int32.toNatClampNeg (8 : Int32)))))]) (S' := [.int x2, .int (((4 : Int32) * (M.1 148 (Int32.toNatClampNeg (8 : Int32)))) + (1 : Int32)), .ref 153]) (M' := (gSI M 153 (Int32.toNatClampNeg ((4 : Int32) * (M.1 148 (Int32.toNatClampNeg (8 : Int32))))) x1)) okX9_does rfl ?_
  exact go_wk (CX9_does_28 hd x3 x4 ((4 : Int32) * (M.1 148 (Int32.toNatClampNeg (8 : Int32)))) x2 (((4 : Int32) * (M.1 148 (Int32.toNatClampNeg (8 : Int32)))) + (1 : Int32)) (gSI M 153 (Int32.toNatClampNeg ((4 : Int32) * (M.1 148 (Int32.toNatClampNeg (8 : Int32))))) x1) P k0 h) ⟨rfl, rfl, rfl, rfl, True.intro⟩
def fX9_does (a1 : Int32) (a2 : Int32) (a3 : Int32) (a4 : Int32) (M : gMem) : Option (gMem) := fX9_does_0 a1 a2 a3 a4 M
theorem SX9_does {G : gG} (a1 : Int32) (a2 : Int32) (a3 : Int32) (a4 : Int32) (M : gMem) {N : gMem} (h : fX9_does a1 a2 a3 a4 M = some N) : gRun G YX9_does 0 [.ref 141, .int a1, .int a2, .int a3, .int a4] M (fun r' N' => r' = none ∧ N' = N) := gRun_in (by decide +kernel) rfl (fun d hd => go_wk (CX9_does_0 hd a1 a2 a3 a4 M (fun p => p = N) (fun N hh => ⟨rfl, hh⟩) (gq_of h)) ⟨rfl, rfl, rfl, rfl, rfl, True.intro⟩)
def fX9_weld_8 (x1 : Int32) (x2 : Int32) (x3 : Int32) (x4 : Int32) (s0 : Int32) (s1 : Int32) (M : gMem) : Option (Int32 × gMem) :=
  gB0 (fX9_areTwo s1 s0 M) (fun r1 => if r1 = 0 then some ((-2 : Int32), M) else gB0 (fX9_isYear x3 M) (fun r3 => if r3 = 0 then some ((-2 : Int32), M) else gB0 (fX9_in (Int32.toInt64 x4) (1 : Int64) (9 : Int64) M) (fun r5 => if r5 = 0 then some ((-2 : Int32), M) else if gIx 1 148 (8 : Int32) = true then if (M.1 148 (Int32.toNatClampNeg (8 : Int32))) = (30 : Int32) then some ((-5 : Int32), M) else gB0 (fX9_does x1 x2 x3 x4 M) (fun M8 => gB0 (fX9_laysNow M8) (fun M10 => if gIx 1 155 ((((36 : Int32) * x3) + ((6 : Int32) * x1)) + x2) = true then if (M10.1 155 (Int32.toNatClampNeg ((((36 : Int32) * x3) + ((6 : Int32) * x1)) + x2))) ≤ 0 then some ((0 : Int32), M10) else some ((1 : Int32), M10) else none)) else none)))
set_option maxRecDepth 100000 in
theorem CX9_weld_8 {G : gG} {d : Nat} {Z : Option Value → gMem → Prop} (hd : 8 ≤ d) (x1 : Int32) (x2 : Int32) (x3 : Int32) (x4 : Int32) (s0 : Int32) (s1 : Int32) (M : gMem) (P : Int32 × gMem → Prop) (k0 : ∀ (r : Int32) (N : gMem), P (r, N) → Z (some (.int r)) N) (h : gOKq (fX9_weld_8 x1 x2 x3 x4 s0 s1 M) P) : gGo G YX9_weld d Z 8 [some (.ref 141), some (.int x1), some (.int x2), some (.int x3), some (.int x4)] [.int s0, .int s1, .ref 141] M := by
  unfold fX9_weld_8 at h
  obtain ⟨r1, e2, h⟩ := gB0_ok h
  refine go_call1 ocX9_weld rfl rfl (gOb_c rfl) rfl (SX9_areTwo s1 s0 M e2) (Nat.lt_of_lt_of_le (by decide) hd) ?_
  refine go_br okX9_weld rfl (fun hp => ?_) (fun hp => ?_)
  · have h := gq_pos hp h
    refine go_rn 1 (pc' := 37) (L' := [some (.ref 141), some (.int x1), some (.int x2), some (.int x3), some (.int x4)]) (S' := [.int (-2 : Int32)]) (M' := M) okX9_weld rfl ?_
    exact go_iret (reX9_weld _ (by decide)) rfl (k0 (-2 : Int32) M h)
  · have h := gq_neg hp h
    refine go_rn 2 (pc' := 16) (L' := [some (.ref 141), some (.int x1), some (.int x2), some (.int x3), some (.int x4)]) (S' := [.int x3, .ref 141]) (M' := M) okX9_weld rfl ?_
    obtain ⟨r3, e4, h⟩ := gB0_ok h
    refine go_call1 ocX9_weld rfl rfl (gOb_c rfl) rfl (SX9_isYear x3 M e4) (Nat.lt_of_lt_of_le (by decide) hd) ?_
    refine go_br okX9_weld rfl (fun hp => ?_) (fun hp => ?_)
    · have h := gq_pos hp h
      refine go_rn 1 (pc' := 37) (L' := [some (.ref 141), some (.int x1), some (.int x2), some (.int x3), some (.int x4)]) (S' := [.int (-2 : Int32)]) (M' := M) okX9_weld rfl ?_
      exact go_iret (reX9_weld _ (by decide)) rfl (k0 (-2 : Int32) M h)
    · have h := gq_neg hp h
      refine go_rn 4 (pc' := 29) (L' := [some (.ref 141), some (.int x1), some (.int x2), some (.int x3), some (.int x4)]) (S' := [.long (9 : Int64), .long (1 : Int64), .long (Int32.toInt64 x4)]) (M' := M) okX9_weld rfl ?_
      obtain ⟨r5, e6, h⟩ := gB0_ok h
      refine go_call1 ocX9_weld rfl rfl rfl rfl (SX9_in (Int32.toInt64 x4) (1 : Int64) (9 : Int64) M e6) (Nat.lt_of_lt_of_le (by decide) hd) ?_
      refine go_br okX9_weld rfl (fun hp => ?_) (fun hp => ?_)
      · have h := gq_pos hp h
        refine go_rn 1 (pc' := 37) (L' := [some (.ref 141), some (.int x1), some (.int x2), some (.int x3), some (.int x4)]) (S' := [.int (-2 : Int32)]) (M' := M) okX9_weld rfl ?_
        exact go_iret (reX9_weld _ (by decide)) rfl (k0 (-2 : Int32) M h)
      · have h := gq_neg hp h
        refine go_rn 1 (pc' := 39) (L' := [some (.ref 141), some (.int x1), some (.int x2), some (.int x3), some (.int x4)]) (S' := [.ref 141]) (M' := M) okX9_weld rfl ?_
        refine go_ck okX9_weld rfl (gOb_c rfl) ?_
        refine go_rn 1 (pc' := 44) (L' := [some (.ref 141), some (.int x1), some (.int x2), some (.int x3), some (.int x4)]) (S' := [.int (8 : Int32), .ref 148]) (M' := M) okX9_weld rfl ?_
        obtain ⟨c7, h⟩ := gq_if h
        refine go_ck okX9_weld rfl c7 ?_
        refine go_rn 1 (pc' := 47) (L' := [some (.ref 141), some (.int x1), some (.int x2), some (.int x3), some (.int x4)]) (S' := [.int (30 : Int32), .int (M.1 148 (Int32.toNatClampNeg (8 : Int32)))]) (M' := M) okX9_weld rfl ?_
        refine go_br okX9_weld rfl (fun hp => ?_) (fun hp => ?_)
        · have h := gq_pos hp h
          refine go_rn 1 (pc' := 52) (L' := [some (.ref 141), some (.int x1), some (.int x2), some (.int x3), some (.int x4)]) (S' := [.int (-5 : Int32)]) (M' := M) okX9_weld rfl ?_
          exact go_iret (reX9_weld _ (by decide)) rfl (k0 (-5 : Int32) M h)
        · have h := gq_neg hp h
          refine go_rn 5 (pc' := 59) (L' := [some (.ref 141), some (.int x1), some (.int x2), some (.int x3), some (.int x4)]) (S' := [.int x4, .int x3, .int x2, .int x1, .ref 141]) (M' := M) okX9_weld rfl ?_
          obtain ⟨M8, e9, h⟩ := gB0_ok h
          refine go_call1 ocX9_weld rfl rfl (gOb_c rfl) rfl (SX9_does x1 x2 x3 x4 M e9) (Nat.lt_of_lt_of_le (by decide) hd) ?_
          refine go_rn 1 (pc' := 63) (L' := [some (.ref 141), some (.int x1), some (.int x2), some (.int x3), some (.int x4)]) (S' := [.ref 141]) (M' := M8) okX9_weld rfl ?_
          obtain ⟨M10, e11, h⟩ := gB0_ok h
          refine go_call1 ocX9_weld rfl rfl (gOb_c rfl) rfl (SX9_laysNow M8 e11) (Nat.lt_of_lt_of_le (by decide) hd) ?_
          refine go_rn 1 (pc' := 67) (L' := [some (.ref 141), some (.int x1), some (.int x2), some (.int x3), some (.int x4)]) (S' := [.ref 141]) (M' := M10) okX9_weld rfl ?_
          refine go_ck okX9_weld rfl (gOb_c rfl) ?_
          refine go_rn 9 (pc' := 81) (L' := [some (.ref 141), some (.int x1), some (.int x2), some (.int x3), some (.int x4)]) (S' := [.int ((((36 : Int32) * x3) + ((6 : Int32) * x1)) + x2), .ref 155]) (M' := M10) okX9_weld rfl ?_
          obtain ⟨c12, h⟩ := gq_if h
          refine go_ck okX9_weld rfl c12 ?_
          refine go_br okX9_weld rfl (fun hp => ?_) (fun hp => ?_)
          · have h := gq_pos hp h
            refine go_rn 1 (pc' := 90) (L' := [some (.ref 141), some (.int x1), some (.int x2), some (.int x3), some (.int x4)]) (S' := [.int (0 : Int32)]) (M' := M10) okX9_weld rfl ?_
            exact go_iret (reX9_weld _ (by decide)) rfl (k0 (0 : Int32) M10 h)
          · have h := gq_neg hp h
            refine go_rn 2 (pc' := 90) (L' := [some (.ref 141), some (.int x1), some (.int x2), some (.int x3), some (.int x4)]) (S' := [.int (1 : Int32)]) (M' := M10) okX9_weld rfl ?_
            exact go_iret (reX9_weld _ (by decide)) rfl (k0 (1 : Int32) M10 h)
def fX9_weld_0 (x1 : Int32) (x2 : Int32) (x3 : Int32) (x4 : Int32) (M : gMem) : Option (Int32 × gMem) :=
  fX9_weld_8 x1 x2 x3 x4 x2 x1 (gSI M 141 0 (0 : Int32))
set_option maxRecDepth 100000 in
theorem CX9_weld_0 {G : gG} {d : Nat} {Z : Option Value → gMem → Prop} (hd : 8 ≤ d) (x1 : Int32) (x2 : Int32) (x3 : Int32) (x4 : Int32) (M : gMem) (P : Int32 × gMem → Prop) (k0 : ∀ (r : Int32) (N : gMem), P (r, N) → Z (some (.int r)) N) (h : gOKq (fX9_weld_0 x1 x2 x3 x4 M) P) : gGo G YX9_weld d Z 0 [some (.ref 141), some (.int x1), some (.int x2), some (.int x3), some (.int x4)] [] M := by
  unfold fX9_weld_0 at h
  refine go_rn 2 (pc' := 2) (L' := [some (.ref 141), some (.int x1), some (.int x2), some (.int x3), some (.int x4)]) (S' := [.int (0 : Int32), .ref 141]) (M' := M) okX9_weld rfl ?_
  refine go_ck okX9_weld rfl (gOb_c rfl) ?_
  refine go_rn 3 (pc' := 8) (L' := [some (.ref 141), some (.int x1), some (.int x2), some (.int x3), some (.int x4)]) (S' := [.int x2, .int x1, .ref 141]) (M' := (gSI M 141 0 (0 : Int32))) okX9_weld rfl ?_
  exact go_wk (CX9_weld_8 hd x1 x2 x3 x4 x2 x1 (gSI M 141 0 (0 : Int32)) P k0 h) ⟨rfl, rfl, rfl, rfl, rfl, True.intro⟩
def fX9_weld (a1 : Int32) (a2 : Int32) (a3 : Int32) (a4 : Int32) (M : gMem) : Option (Int32 × gMem) := fX9_weld_0 a1 a2 a3 a4 M
theorem SX9_weld {G : gG} (a1 : Int32) (a2 : Int32) (a3 : Int32) (a4 : Int32) (M : gMem) {r : Int32} {N : gMem} (h : fX9_weld a1 a2 a3 a4 M = some (r, N)) : gRun G YX9_weld 8 [.ref 141, .int a1, .int a2, .int a3, .int a4] M (fun r' N' => r' = some (.int r) ∧ N' = N) := gRun_in (by decide +kernel) rfl (fun d hd => go_wk (CX9_weld_0 hd a1 a2 a3 a4 M (fun p => p = (r, N)) (fun r N hh => by cases hh; exact ⟨rfl, rfl⟩) (gq_of h)) ⟨rfl, rfl, rfl, rfl, rfl, True.intro⟩)
def fX9_snip_68 (x1 : Int32) (x2 : Int32) (x3 : Int32) (s0 : Int32) (M : gMem) : Option (Int32 × gMem) :=
  gB0 (fX9_does x1 x2 x3 (0 : Int32) M) (fun M1 => some (s0, M1))
set_option maxRecDepth 100000 in
theorem CX9_snip_68 {G : gG} {d : Nat} {Z : Option Value → gMem → Prop} (hd : 8 ≤ d) (x1 : Int32) (x2 : Int32) (x3 : Int32) (s0 : Int32) (M : gMem) (P : Int32 × gMem → Prop) (k0 : ∀ (r : Int32) (N : gMem), P (r, N) → Z (some (.int r)) N) (h : gOKq (fX9_snip_68 x1 x2 x3 s0 M) P) : gGo G YX9_snip d Z 68 [some (.ref 141), some (.int x1), some (.int x2), some (.int x3), none] [.int s0] M := by
  unfold fX9_snip_68 at h
  refine go_rn 6 (pc' := 75) (L' := [some (.ref 141), some (.int x1), some (.int x2), some (.int x3), some (.int s0)]) (S' := [.int (0 : Int32), .int x3, .int x2, .int x1, .ref 141]) (M' := M) okX9_snip rfl ?_
  obtain ⟨M1, e2, h⟩ := gB0_ok h
  refine go_call1 ocX9_snip rfl rfl (gOb_c rfl) rfl (SX9_does x1 x2 x3 (0 : Int32) M e2) (Nat.lt_of_lt_of_le (by decide) hd) ?_
  refine go_rn 1 (pc' := 80) (L' := [some (.ref 141), some (.int x1), some (.int x2), some (.int x3), some (.int s0)]) (S' := [.int s0]) (M' := M1) okX9_snip rfl ?_
  exact go_iret (reX9_snip _ (by decide)) rfl (k0 s0 M1 h)
def fX9_snip_8 (x1 : Int32) (x2 : Int32) (x3 : Int32) (s0 : Int32) (s1 : Int32) (M : gMem) : Option (Int32 × gMem) :=
  gB0 (fX9_areTwo s1 s0 M) (fun r1 => if r1 = 0 then some ((-2 : Int32), M) else gB0 (fX9_isYear x3 M) (fun r3 => if r3 = 0 then some ((-2 : Int32), M) else if gIx 1 148 (8 : Int32) = true then if (M.1 148 (Int32.toNatClampNeg (8 : Int32))) = (30 : Int32) then some ((-5 : Int32), M) else gB0 (fX9_laysNow M) (fun M6 => if gIx 1 155 ((((36 : Int32) * x3) + ((6 : Int32) * x1)) + x2) = true then if (M6.1 155 (Int32.toNatClampNeg ((((36 : Int32) * x3) + ((6 : Int32) * x1)) + x2))) ≤ 0 then fX9_snip_68 x1 x2 x3 (0 : Int32) M6 else fX9_snip_68 x1 x2 x3 (1 : Int32) M6 else none) else none))
set_option maxRecDepth 100000 in
theorem CX9_snip_8 {G : gG} {d : Nat} {Z : Option Value → gMem → Prop} (hd : 8 ≤ d) (x1 : Int32) (x2 : Int32) (x3 : Int32) (s0 : Int32) (s1 : Int32) (M : gMem) (P : Int32 × gMem → Prop) (k0 : ∀ (r : Int32) (N : gMem), P (r, N) → Z (some (.int r)) N) (h : gOKq (fX9_snip_8 x1 x2 x3 s0 s1 M) P) : gGo G YX9_snip d Z 8 [some (.ref 141), some (.int x1), some (.int x2), some (.int x3), none] [.int s0, .int s1, .ref 141] M := by
  unfold fX9_snip_8 at h
  obtain ⟨r1, e2, h⟩ := gB0_ok h
  refine go_call1 ocX9_snip rfl rfl (gOb_c rfl) rfl (SX9_areTwo s1 s0 M e2) (Nat.lt_of_lt_of_le (by decide) hd) ?_
  refine go_br okX9_snip rfl (fun hp => ?_) (fun hp => ?_)
  · have h := gq_pos hp h
    refine go_rn 1 (pc' := 24) (L' := [some (.ref 141), some (.int x1), some (.int x2), some (.int x3), none]) (S' := [.int (-2 : Int32)]) (M' := M) okX9_snip rfl ?_
    exact go_iret (reX9_snip _ (by decide)) rfl (k0 (-2 : Int32) M h)
  · have h := gq_neg hp h
    refine go_rn 2 (pc' := 16) (L' := [some (.ref 141), some (.int x1), some (.int x2), some (.int x3), none]) (S' := [.int x3, .ref 141]) (M' := M) okX9_snip rfl ?_
    obtain ⟨r3, e4, h⟩ := gB0_ok h
    refine go_call1 ocX9_snip rfl rfl (gOb_c rfl) rfl (SX9_isYear x3 M e4) (Nat.lt_of_lt_of_le (by decide) hd) ?_
    refine go_br okX9_snip rfl (fun hp => ?_) (fun hp => ?_)
    · have h := gq_pos hp h
      refine go_rn 1 (pc' := 24) (L' := [some (.ref 141), some (.int x1), some (.int x2), some (.int x3), none]) (S' := [.int (-2 : Int32)]) (M' := M) okX9_snip rfl ?_
      exact go_iret (reX9_snip _ (by decide)) rfl (k0 (-2 : Int32) M h)
    · have h := gq_neg hp h
      refine go_rn 1 (pc' := 26) (L' := [some (.ref 141), some (.int x1), some (.int x2), some (.int x3), none]) (S' := [.ref 141]) (M' := M) okX9_snip rfl ?_
      refine go_ck okX9_snip rfl (gOb_c rfl) ?_
      refine go_rn 1 (pc' := 31) (L' := [some (.ref 141), some (.int x1), some (.int x2), some (.int x3), none]) (S' := [.int (8 : Int32), .ref 148]) (M' := M) okX9_snip rfl ?_
      obtain ⟨c5, h⟩ := gq_if h
      refine go_ck okX9_snip rfl c5 ?_
      refine go_rn 1 (pc' := 34) (L' := [some (.ref 141), some (.int x1), some (.int x2), some (.int x3), none]) (S' := [.int (30 : Int32), .int (M.1 148 (Int32.toNatClampNeg (8 : Int32)))]) (M' := M) okX9_snip rfl ?_
      refine go_br okX9_snip rfl (fun hp => ?_) (fun hp => ?_)
      · have h := gq_pos hp h
        refine go_rn 1 (pc' := 39) (L' := [some (.ref 141), some (.int x1), some (.int x2), some (.int x3), none]) (S' := [.int (-5 : Int32)]) (M' := M) okX9_snip rfl ?_
        exact go_iret (reX9_snip _ (by decide)) rfl (k0 (-5 : Int32) M h)
      · have h := gq_neg hp h
        refine go_rn 1 (pc' := 41) (L' := [some (.ref 141), some (.int x1), some (.int x2), some (.int x3), none]) (S' := [.ref 141]) (M' := M) okX9_snip rfl ?_
        obtain ⟨M6, e7, h⟩ := gB0_ok h
        refine go_call1 ocX9_snip rfl rfl (gOb_c rfl) rfl (SX9_laysNow M e7) (Nat.lt_of_lt_of_le (by decide) hd) ?_
        refine go_rn 1 (pc' := 45) (L' := [some (.ref 141), some (.int x1), some (.int x2), some (.int x3), none]) (S' := [.ref 141]) (M' := M6) okX9_snip rfl ?_
        refine go_ck okX9_snip rfl (gOb_c rfl) ?_
        refine go_rn 9 (pc' := 59) (L' := [some (.ref 141), some (.int x1), some (.int x2), some (.int x3), none]) (S' := [.int ((((36 : Int32) * x3) + ((6 : Int32) * x1)) + x2), .ref 155]) (M' := M6) okX9_snip rfl ?_
        obtain ⟨c8, h⟩ := gq_if h
        refine go_ck okX9_snip rfl c8 ?_
        refine go_br okX9_snip rfl (fun hp => ?_) (fun hp => ?_)
        · have h := gq_pos hp h
          refine go_rn 1 (pc' := 68) (L' := [some (.ref 141), some (.int x1), some (.int x2), some (.int x3), none]) (S' := [.int (0 : Int32)]) (M' := M6) okX9_snip rfl ?_
          exact go_wk (CX9_snip_68 hd x1 x2 x3 (0 : Int32) M6 P k0 h) ⟨rfl, rfl, rfl, rfl, True.intro⟩
        · have h := gq_neg hp h
          refine go_rn 2 (pc' := 68) (L' := [some (.ref 141), some (.int x1), some (.int x2), some (.int x3), none]) (S' := [.int (1 : Int32)]) (M' := M6) okX9_snip rfl ?_
          exact go_wk (CX9_snip_68 hd x1 x2 x3 (1 : Int32) M6 P k0 h) ⟨rfl, rfl, rfl, rfl, True.intro⟩
def fX9_snip_0 (x1 : Int32) (x2 : Int32) (x3 : Int32) (M : gMem) : Option (Int32 × gMem) :=
  fX9_snip_8 x1 x2 x3 x2 x1 (gSI M 141 0 (0 : Int32))
set_option maxRecDepth 100000 in
theorem CX9_snip_0 {G : gG} {d : Nat} {Z : Option Value → gMem → Prop} (hd : 8 ≤ d) (x1 : Int32) (x2 : Int32) (x3 : Int32) (M : gMem) (P : Int32 × gMem → Prop) (k0 : ∀ (r : Int32) (N : gMem), P (r, N) → Z (some (.int r)) N) (h : gOKq (fX9_snip_0 x1 x2 x3 M) P) : gGo G YX9_snip d Z 0 [some (.ref 141), some (.int x1), some (.int x2), some (.int x3), none] [] M := by
  unfold fX9_snip_0 at h
  refine go_rn 2 (pc' := 2) (L' := [some (.ref 141), some (.int x1), some (.int x2), some (.int x3), none]) (S' := [.int (0 : Int32), .ref 141]) (M' := M) okX9_snip rfl ?_
  refine go_ck okX9_snip rfl (gOb_c rfl) ?_
  refine go_rn 3 (pc' := 8) (L' := [some (.ref 141), some (.int x1), some (.int x2), some (.int x3), none]) (S' := [.int x2, .int x1, .ref 141]) (M' := (gSI M 141 0 (0 : Int32))) okX9_snip rfl ?_
  exact go_wk (CX9_snip_8 hd x1 x2 x3 x2 x1 (gSI M 141 0 (0 : Int32)) P k0 h) ⟨rfl, rfl, rfl, rfl, True.intro⟩
def fX9_snip (a1 : Int32) (a2 : Int32) (a3 : Int32) (M : gMem) : Option (Int32 × gMem) := fX9_snip_0 a1 a2 a3 M
theorem SX9_snip {G : gG} (a1 : Int32) (a2 : Int32) (a3 : Int32) (M : gMem) {r : Int32} {N : gMem} (h : fX9_snip a1 a2 a3 M = some (r, N)) : gRun G YX9_snip 8 [.ref 141, .int a1, .int a2, .int a3] M (fun r' N' => r' = some (.int r) ∧ N' = N) := gRun_in (by decide +kernel) rfl (fun d hd => go_wk (CX9_snip_0 hd a1 a2 a3 M (fun p => p = (r, N)) (fun r N hh => by cases hh; exact ⟨rfl, rfl⟩) (gq_of h)) ⟨rfl, rfl, rfl, rfl, True.intro⟩)
def fX9_undo_45 (s0 : Int32) (M : gMem) : Option (Int32 × gMem) :=
  if gIx 1 148 s0 = true then some ((M.1 148 (Int32.toNatClampNeg s0)), M) else none
set_option maxRecDepth 100000 in
theorem CX9_undo_45 {G : gG} {d : Nat} {Z : Option Value → gMem → Prop} (hd : 1 ≤ d) (s0 : Int32) (M : gMem) (P : Int32 × gMem → Prop) (k0 : ∀ (r : Int32) (N : gMem), P (r, N) → Z (some (.int r)) N) (h : gOKq (fX9_undo_45 s0 M) P) : gGo G YX9_undo d Z 45 [none] [.int s0, .ref 148] M := by
  unfold fX9_undo_45 at h
  obtain ⟨c1, h⟩ := gq_if h
  refine go_ck okX9_undo rfl c1 ?_
  exact go_iret (reX9_undo _ (by decide)) rfl (k0 (M.1 148 (Int32.toNatClampNeg s0)) M h)
def fX9_undo_6 (M : gMem) : Option (Int32 × gMem) :=
  gB0 (fX9_isCity M) (fun r1 => if r1 = 0 then some ((-2 : Int32), M) else if gIx 1 148 (8 : Int32) = true then if (M.1 148 (Int32.toNatClampNeg (8 : Int32))) = 0 then some ((-5 : Int32), M) else if gIx 1 148 (8 : Int32) = true then if gIx 1 148 (8 : Int32) = true then fX9_undo_45 (8 : Int32) (gSI M 148 (Int32.toNatClampNeg (8 : Int32)) ((M.1 148 (Int32.toNatClampNeg (8 : Int32))) - (1 : Int32))) else none else none else none)
set_option maxRecDepth 100000 in
theorem CX9_undo_6 {G : gG} {d : Nat} {Z : Option Value → gMem → Prop} (hd : 1 ≤ d) (M : gMem) (P : Int32 × gMem → Prop) (k0 : ∀ (r : Int32) (N : gMem), P (r, N) → Z (some (.int r)) N) (h : gOKq (fX9_undo_6 M) P) : gGo G YX9_undo d Z 6 [some (.ref 141)] [.ref 141] M := by
  unfold fX9_undo_6 at h
  obtain ⟨r1, e2, h⟩ := gB0_ok h
  refine go_call1 ocX9_undo rfl rfl (gOb_c rfl) rfl (SX9_isCity M e2) (Nat.lt_of_lt_of_le (by decide) hd) ?_
  refine go_br okX9_undo rfl (fun hp => ?_) (fun hp => ?_)
  · have h := gq_pos hp h
    refine go_rn 1 (pc' := 14) (L' := [some (.ref 141)]) (S' := [.int (-2 : Int32)]) (M' := M) okX9_undo rfl ?_
    exact go_iret (reX9_undo _ (by decide)) rfl (k0 (-2 : Int32) M h)
  · have h := gq_neg hp h
    refine go_rn 1 (pc' := 16) (L' := [some (.ref 141)]) (S' := [.ref 141]) (M' := M) okX9_undo rfl ?_
    refine go_ck okX9_undo rfl (gOb_c rfl) ?_
    refine go_rn 1 (pc' := 21) (L' := [some (.ref 141)]) (S' := [.int (8 : Int32), .ref 148]) (M' := M) okX9_undo rfl ?_
    obtain ⟨c3, h⟩ := gq_if h
    refine go_ck okX9_undo rfl c3 ?_
    refine go_br okX9_undo rfl (fun hp => ?_) (fun hp => ?_)
    · have h := gq_pos hp h
      refine go_rn 1 (pc' := 27) (L' := [some (.ref 141)]) (S' := [.int (-5 : Int32)]) (M' := M) okX9_undo rfl ?_
      exact go_iret (reX9_undo _ (by decide)) rfl (k0 (-5 : Int32) M h)
    · have h := gq_neg hp h
      refine go_rn 1 (pc' := 29) (L' := [some (.ref 141)]) (S' := [.ref 141]) (M' := M) okX9_undo rfl ?_
      refine go_ck okX9_undo rfl (gOb_c rfl) ?_
      refine go_rn 2 (pc' := 35) (L' := [some (.ref 141)]) (S' := [.int (8 : Int32), .ref 148, .int (8 : Int32), .ref 148]) (M' := M) okX9_undo rfl ?_
      obtain ⟨c4, h⟩ := gq_if h
      refine go_ck okX9_undo rfl c4 ?_
      refine go_rn 2 (pc' := 38) (L' := [some (.ref 141)]) (S' := [.int ((M.1 148 (Int32.toNatClampNeg (8 : Int32))) - (1 : Int32)), .int (8 : Int32), .ref 148]) (M' := M) okX9_undo rfl ?_
      obtain ⟨c5, h⟩ := gq_if h
      refine go_ck okX9_undo rfl c5 ?_
      refine go_rn 1 (pc' := 40) (L' := [some (.ref 141)]) (S' := [.ref 141]) (M' := (gSI M 148 (Int32.toNatClampNeg (8 : Int32)) ((M.1 148 (Int32.toNatClampNeg (8 : Int32))) - (1 : Int32)))) okX9_undo rfl ?_
      refine go_ck okX9_undo rfl (gOb_c rfl) ?_
      refine go_rn 1 (pc' := 45) (L' := [some (.ref 141)]) (S' := [.int (8 : Int32), .ref 148]) (M' := (gSI M 148 (Int32.toNatClampNeg (8 : Int32)) ((M.1 148 (Int32.toNatClampNeg (8 : Int32))) - (1 : Int32)))) okX9_undo rfl ?_
      exact go_wk (CX9_undo_45 hd (8 : Int32) (gSI M 148 (Int32.toNatClampNeg (8 : Int32)) ((M.1 148 (Int32.toNatClampNeg (8 : Int32))) - (1 : Int32))) P k0 h) True.intro
def fX9_undo_0 (M : gMem) : Option (Int32 × gMem) :=
  fX9_undo_6 (gSI M 141 0 (0 : Int32))
set_option maxRecDepth 100000 in
theorem CX9_undo_0 {G : gG} {d : Nat} {Z : Option Value → gMem → Prop} (hd : 1 ≤ d) (M : gMem) (P : Int32 × gMem → Prop) (k0 : ∀ (r : Int32) (N : gMem), P (r, N) → Z (some (.int r)) N) (h : gOKq (fX9_undo_0 M) P) : gGo G YX9_undo d Z 0 [some (.ref 141)] [] M := by
  unfold fX9_undo_0 at h
  refine go_rn 2 (pc' := 2) (L' := [some (.ref 141)]) (S' := [.int (0 : Int32), .ref 141]) (M' := M) okX9_undo rfl ?_
  refine go_ck okX9_undo rfl (gOb_c rfl) ?_
  refine go_rn 1 (pc' := 6) (L' := [some (.ref 141)]) (S' := [.ref 141]) (M' := (gSI M 141 0 (0 : Int32))) okX9_undo rfl ?_
  exact go_wk (CX9_undo_6 hd (gSI M 141 0 (0 : Int32)) P k0 h) ⟨rfl, True.intro⟩
def fX9_undo (M : gMem) : Option (Int32 × gMem) := fX9_undo_0 M
theorem SX9_undo {G : gG} (M : gMem) {r : Int32} {N : gMem} (h : fX9_undo M = some (r, N)) : gRun G YX9_undo 1 [.ref 141] M (fun r' N' => r' = some (.int r) ∧ N' = N) := gRun_in (by decide +kernel) rfl (fun d hd => go_wk (CX9_undo_0 hd M (fun p => p = (r, N)) (fun r N hh => by cases hh; exact ⟨rfl, rfl⟩) (gq_of h)) ⟨rfl, True.intro⟩)
def fX9_anew_6 (M : gMem) : Option (Int32 × gMem) :=
  gB0 (fX9_isCity M) (fun r1 => if r1 = 0 then some ((-2 : Int32), M) else if gIx 1 148 (8 : Int32) = true then if gIx 1 148 (8 : Int32) = true then some ((M.1 148 (Int32.toNatClampNeg (8 : Int32))), (gSI M 148 (Int32.toNatClampNeg (8 : Int32)) (0 : Int32))) else none else none)
set_option maxRecDepth 100000 in
theorem CX9_anew_6 {G : gG} {d : Nat} {Z : Option Value → gMem → Prop} (hd : 1 ≤ d) (M : gMem) (P : Int32 × gMem → Prop) (k0 : ∀ (r : Int32) (N : gMem), P (r, N) → Z (some (.int r)) N) (h : gOKq (fX9_anew_6 M) P) : gGo G YX9_anew d Z 6 [some (.ref 141), none] [.ref 141] M := by
  unfold fX9_anew_6 at h
  obtain ⟨r1, e2, h⟩ := gB0_ok h
  refine go_call1 ocX9_anew rfl rfl (gOb_c rfl) rfl (SX9_isCity M e2) (Nat.lt_of_lt_of_le (by decide) hd) ?_
  refine go_br okX9_anew rfl (fun hp => ?_) (fun hp => ?_)
  · have h := gq_pos hp h
    refine go_rn 1 (pc' := 14) (L' := [some (.ref 141), none]) (S' := [.int (-2 : Int32)]) (M' := M) okX9_anew rfl ?_
    exact go_iret (reX9_anew _ (by decide)) rfl (k0 (-2 : Int32) M h)
  · have h := gq_neg hp h
    refine go_rn 1 (pc' := 16) (L' := [some (.ref 141), none]) (S' := [.ref 141]) (M' := M) okX9_anew rfl ?_
    refine go_ck okX9_anew rfl (gOb_c rfl) ?_
    refine go_rn 1 (pc' := 21) (L' := [some (.ref 141), none]) (S' := [.int (8 : Int32), .ref 148]) (M' := M) okX9_anew rfl ?_
    obtain ⟨c3, h⟩ := gq_if h
    refine go_ck okX9_anew rfl c3 ?_
    refine go_rn 2 (pc' := 24) (L' := [some (.ref 141), some (.int (M.1 148 (Int32.toNatClampNeg (8 : Int32))))]) (S' := [.ref 141]) (M' := M) okX9_anew rfl ?_
    refine go_ck okX9_anew rfl (gOb_c rfl) ?_
    refine go_rn 2 (pc' := 30) (L' := [some (.ref 141), some (.int (M.1 148 (Int32.toNatClampNeg (8 : Int32))))]) (S' := [.int (0 : Int32), .int (8 : Int32), .ref 148]) (M' := M) okX9_anew rfl ?_
    obtain ⟨c4, h⟩ := gq_if h
    refine go_ck okX9_anew rfl c4 ?_
    refine go_rn 1 (pc' := 32) (L' := [some (.ref 141), some (.int (M.1 148 (Int32.toNatClampNeg (8 : Int32))))]) (S' := [.int (M.1 148 (Int32.toNatClampNeg (8 : Int32)))]) (M' := (gSI M 148 (Int32.toNatClampNeg (8 : Int32)) (0 : Int32))) okX9_anew rfl ?_
    exact go_iret (reX9_anew _ (by decide)) rfl (k0 (M.1 148 (Int32.toNatClampNeg (8 : Int32))) (gSI M 148 (Int32.toNatClampNeg (8 : Int32)) (0 : Int32)) h)
def fX9_anew_0 (M : gMem) : Option (Int32 × gMem) :=
  fX9_anew_6 (gSI M 141 0 (0 : Int32))
set_option maxRecDepth 100000 in
theorem CX9_anew_0 {G : gG} {d : Nat} {Z : Option Value → gMem → Prop} (hd : 1 ≤ d) (M : gMem) (P : Int32 × gMem → Prop) (k0 : ∀ (r : Int32) (N : gMem), P (r, N) → Z (some (.int r)) N) (h : gOKq (fX9_anew_0 M) P) : gGo G YX9_anew d Z 0 [some (.ref 141), none] [] M := by
  unfold fX9_anew_0 at h
  refine go_rn 2 (pc' := 2) (L' := [some (.ref 141), none]) (S' := [.int (0 : Int32), .ref 141]) (M' := M) okX9_anew rfl ?_
  refine go_ck okX9_anew rfl (gOb_c rfl) ?_
  refine go_rn 1 (pc' := 6) (L' := [some (.ref 141), none]) (S' := [.ref 141]) (M' := (gSI M 141 0 (0 : Int32))) okX9_anew rfl ?_
  exact go_wk (CX9_anew_6 hd (gSI M 141 0 (0 : Int32)) P k0 h) ⟨rfl, True.intro⟩
def fX9_anew (M : gMem) : Option (Int32 × gMem) := fX9_anew_0 M
theorem SX9_anew {G : gG} (M : gMem) {r : Int32} {N : gMem} (h : fX9_anew M = some (r, N)) : gRun G YX9_anew 1 [.ref 141] M (fun r' N' => r' = some (.int r) ∧ N' = N) := gRun_in (by decide +kernel) rfl (fun d hd => go_wk (CX9_anew_0 hd M (fun p => p = (r, N)) (fun r N hh => by cases hh; exact ⟨rfl, rfl⟩) (gq_of h)) ⟨rfl, True.intro⟩)
def fX9_rate_6 (x1 : Int32) (M : gMem) : Option (Int32 × gMem) :=
  gB0 (fX9_isCity M) (fun r1 => if r1 = 0 then some ((-2 : Int32), M) else gB0 (fX9_in (Int32.toInt64 x1) (0 : Int64) (20 : Int64) M) (fun r3 => if r3 = 0 then some ((-2 : Int32), M) else if gIx 1 148 (8 : Int32) = true then if (M.1 148 (Int32.toNatClampNeg (8 : Int32))) ≤ 0 then if gIx 1 148 (2 : Int32) = true then if gIx 1 148 (2 : Int32) = true then some ((M.1 148 (Int32.toNatClampNeg (2 : Int32))), (gSI M 148 (Int32.toNatClampNeg (2 : Int32)) x1)) else none else none else some ((-5 : Int32), M) else none))
set_option maxRecDepth 100000 in
theorem CX9_rate_6 {G : gG} {d : Nat} {Z : Option Value → gMem → Prop} (hd : 1 ≤ d) (x1 : Int32) (M : gMem) (P : Int32 × gMem → Prop) (k0 : ∀ (r : Int32) (N : gMem), P (r, N) → Z (some (.int r)) N) (h : gOKq (fX9_rate_6 x1 M) P) : gGo G YX9_rate d Z 6 [some (.ref 141), some (.int x1), none] [.ref 141] M := by
  unfold fX9_rate_6 at h
  obtain ⟨r1, e2, h⟩ := gB0_ok h
  refine go_call1 ocX9_rate rfl rfl (gOb_c rfl) rfl (SX9_isCity M e2) (Nat.lt_of_lt_of_le (by decide) hd) ?_
  refine go_br okX9_rate rfl (fun hp => ?_) (fun hp => ?_)
  · have h := gq_pos hp h
    refine go_rn 1 (pc' := 26) (L' := [some (.ref 141), some (.int x1), none]) (S' := [.int (-2 : Int32)]) (M' := M) okX9_rate rfl ?_
    exact go_iret (reX9_rate _ (by decide)) rfl (k0 (-2 : Int32) M h)
  · have h := gq_neg hp h
    refine go_rn 4 (pc' := 18) (L' := [some (.ref 141), some (.int x1), none]) (S' := [.long (20 : Int64), .long (0 : Int64), .long (Int32.toInt64 x1)]) (M' := M) okX9_rate rfl ?_
    obtain ⟨r3, e4, h⟩ := gB0_ok h
    refine go_call1 ocX9_rate rfl rfl rfl rfl (SX9_in (Int32.toInt64 x1) (0 : Int64) (20 : Int64) M e4) (Nat.lt_of_lt_of_le (by decide) hd) ?_
    refine go_br okX9_rate rfl (fun hp => ?_) (fun hp => ?_)
    · have h := gq_pos hp h
      refine go_rn 1 (pc' := 26) (L' := [some (.ref 141), some (.int x1), none]) (S' := [.int (-2 : Int32)]) (M' := M) okX9_rate rfl ?_
      exact go_iret (reX9_rate _ (by decide)) rfl (k0 (-2 : Int32) M h)
    · have h := gq_neg hp h
      refine go_rn 1 (pc' := 28) (L' := [some (.ref 141), some (.int x1), none]) (S' := [.ref 141]) (M' := M) okX9_rate rfl ?_
      refine go_ck okX9_rate rfl (gOb_c rfl) ?_
      refine go_rn 1 (pc' := 33) (L' := [some (.ref 141), some (.int x1), none]) (S' := [.int (8 : Int32), .ref 148]) (M' := M) okX9_rate rfl ?_
      obtain ⟨c5, h⟩ := gq_if h
      refine go_ck okX9_rate rfl c5 ?_
      refine go_br okX9_rate rfl (fun hp => ?_) (fun hp => ?_)
      · have h := gq_pos hp h
        refine go_rn 1 (pc' := 41) (L' := [some (.ref 141), some (.int x1), none]) (S' := [.ref 141]) (M' := M) okX9_rate rfl ?_
        refine go_ck okX9_rate rfl (gOb_c rfl) ?_
        refine go_rn 1 (pc' := 45) (L' := [some (.ref 141), some (.int x1), none]) (S' := [.int (2 : Int32), .ref 148]) (M' := M) okX9_rate rfl ?_
        obtain ⟨c6, h⟩ := gq_if h
        refine go_ck okX9_rate rfl c6 ?_
        refine go_rn 2 (pc' := 48) (L' := [some (.ref 141), some (.int x1), some (.int (M.1 148 (Int32.toNatClampNeg (2 : Int32))))]) (S' := [.ref 141]) (M' := M) okX9_rate rfl ?_
        refine go_ck okX9_rate rfl (gOb_c rfl) ?_
        refine go_rn 2 (pc' := 53) (L' := [some (.ref 141), some (.int x1), some (.int (M.1 148 (Int32.toNatClampNeg (2 : Int32))))]) (S' := [.int x1, .int (2 : Int32), .ref 148]) (M' := M) okX9_rate rfl ?_
        obtain ⟨c7, h⟩ := gq_if h
        refine go_ck okX9_rate rfl c7 ?_
        refine go_rn 1 (pc' := 55) (L' := [some (.ref 141), some (.int x1), some (.int (M.1 148 (Int32.toNatClampNeg (2 : Int32))))]) (S' := [.int (M.1 148 (Int32.toNatClampNeg (2 : Int32)))]) (M' := (gSI M 148 (Int32.toNatClampNeg (2 : Int32)) x1)) okX9_rate rfl ?_
        exact go_iret (reX9_rate _ (by decide)) rfl (k0 (M.1 148 (Int32.toNatClampNeg (2 : Int32))) (gSI M 148 (Int32.toNatClampNeg (2 : Int32)) x1) h)
      · have h := gq_neg hp h
        refine go_rn 1 (pc' := 39) (L' := [some (.ref 141), some (.int x1), none]) (S' := [.int (-5 : Int32)]) (M' := M) okX9_rate rfl ?_
        exact go_iret (reX9_rate _ (by decide)) rfl (k0 (-5 : Int32) M h)
def fX9_rate_0 (x1 : Int32) (M : gMem) : Option (Int32 × gMem) :=
  fX9_rate_6 x1 (gSI M 141 0 (0 : Int32))
set_option maxRecDepth 100000 in
theorem CX9_rate_0 {G : gG} {d : Nat} {Z : Option Value → gMem → Prop} (hd : 1 ≤ d) (x1 : Int32) (M : gMem) (P : Int32 × gMem → Prop) (k0 : ∀ (r : Int32) (N : gMem), P (r, N) → Z (some (.int r)) N) (h : gOKq (fX9_rate_0 x1 M) P) : gGo G YX9_rate d Z 0 [some (.ref 141), some (.int x1), none] [] M := by
  unfold fX9_rate_0 at h
  refine go_rn 2 (pc' := 2) (L' := [some (.ref 141), some (.int x1), none]) (S' := [.int (0 : Int32), .ref 141]) (M' := M) okX9_rate rfl ?_
  refine go_ck okX9_rate rfl (gOb_c rfl) ?_
  refine go_rn 1 (pc' := 6) (L' := [some (.ref 141), some (.int x1), none]) (S' := [.ref 141]) (M' := (gSI M 141 0 (0 : Int32))) okX9_rate rfl ?_
  exact go_wk (CX9_rate_6 hd x1 (gSI M 141 0 (0 : Int32)) P k0 h) ⟨rfl, rfl, True.intro⟩
def fX9_rate (a1 : Int32) (M : gMem) : Option (Int32 × gMem) := fX9_rate_0 a1 M
theorem SX9_rate {G : gG} (a1 : Int32) (M : gMem) {r : Int32} {N : gMem} (h : fX9_rate a1 M = some (r, N)) : gRun G YX9_rate 1 [.ref 141, .int a1] M (fun r' N' => r' = some (.int r) ∧ N' = N) := gRun_in (by decide +kernel) rfl (fun d hd => go_wk (CX9_rate_0 hd a1 M (fun p => p = (r, N)) (fun r N hh => by cases hh; exact ⟨rfl, rfl⟩) (gq_of h)) ⟨rfl, rfl, True.intro⟩)
def fX9_count_66 (x2 : Int32) (x3 : Int32) (M : gMem) : Option (Sum (Int32 × Int32) (Int32 × gMem)) :=
  if (4 : Int32) ≤ x3 then some (.inr (x2, M)) else if gIx 1 142 x3 = true then if (M.1 142 (Int32.toNatClampNeg x3)) = (-1 : Int32) then some (.inl ((x2 + (0 : Int32)), (x3 + 1))) else some (.inl ((x2 + (1 : Int32)), (x3 + 1))) else none
set_option maxRecDepth 100000 in
theorem CX9_count_66 {G : gG} {d : Nat} {Z : Option Value → gMem → Prop} (hd : 1 ≤ d) (x2 : Int32) (x3 : Int32) (M : gMem) (P : Sum (Int32 × Int32) (Int32 × gMem) → Prop) (k0 : ∀ (r : Int32) (N : gMem), P (.inr (r, N)) → Z (some (.int r)) N) (k1 : ∀ (x2 : Int32) (x3 : Int32), P (.inl (x2, x3)) → gGo G YX9_count d Z 66 [some (.ref 141), none, some (.int x2), some (.int x3)] [] M) (h : gOKq (fX9_count_66 x2 x3 M) P) : gGo G YX9_count d Z 66 [some (.ref 141), none, some (.int x2), some (.int x3)] [] M := by
  unfold fX9_count_66 at h
  refine go_rn 2 (pc' := 68) (L' := [some (.ref 141), none, some (.int x2), some (.int x3)]) (S' := [.int (4 : Int32), .int x3]) (M' := M) okX9_count rfl ?_
  refine go_br okX9_count rfl (fun hp => ?_) (fun hp => ?_)
  · have h := gq_pos hp h
    refine go_rn 1 (pc' := 96) (L' := [some (.ref 141), none, some (.int x2), some (.int x3)]) (S' := [.int x2]) (M' := M) okX9_count rfl ?_
    exact go_iret (reX9_count _ (by decide)) rfl (k0 x2 M h)
  · have h := gq_neg hp h
    refine go_rn 2 (pc' := 73) (L' := [some (.ref 141), none, some (.int x2), some (.int x3)]) (S' := [.ref 141, .int x2]) (M' := M) okX9_count rfl ?_
    refine go_ck okX9_count rfl (gOb_c rfl) ?_
    refine go_rn 1 (pc' := 77) (L' := [some (.ref 141), none, some (.int x2), some (.int x3)]) (S' := [.int x3, .ref 142, .int x2]) (M' := M) okX9_count rfl ?_
    obtain ⟨c1, h⟩ := gq_if h
    refine go_ck okX9_count rfl c1 ?_
    refine go_rn 1 (pc' := 79) (L' := [some (.ref 141), none, some (.int x2), some (.int x3)]) (S' := [.int (-1 : Int32), .int (M.1 142 (Int32.toNatClampNeg x3)), .int x2]) (M' := M) okX9_count rfl ?_
    refine go_br okX9_count rfl (fun hp => ?_) (fun hp => ?_)
    · have h := gq_pos hp h
      refine go_rn 6 (pc' := 66) (L' := [some (.ref 141), none, some (.int (x2 + (0 : Int32))), some (.int (x3 + 1))]) (S' := []) (M' := M) okX9_count rfl ?_
      exact go_wk (k1 ((x2 + (0 : Int32))) ((x3 + 1)) h) ⟨rfl, rfl, rfl, True.intro⟩
    · have h := gq_neg hp h
      refine go_rn 5 (pc' := 66) (L' := [some (.ref 141), none, some (.int (x2 + (1 : Int32))), some (.int (x3 + 1))]) (S' := []) (M' := M) okX9_count rfl ?_
      exact go_wk (k1 ((x2 + (1 : Int32))) ((x3 + 1)) h) ⟨rfl, rfl, rfl, True.intro⟩
def fX9_count_66h (x2 : Int32) (x3 : Int32) (M : gMem) : Option (Int32 × gMem) :=
  gLp (fun s : Int32 × Int32 => fX9_count_66 (s.1) (s.2) M) gFu (x2, x3)
set_option maxRecDepth 100000 in
theorem CX9_count_66h {G : gG} {d : Nat} {Z : Option Value → gMem → Prop} (hd : 1 ≤ d) (x2 : Int32) (x3 : Int32) (M : gMem) (P : Int32 × gMem → Prop) (k0 : ∀ (r : Int32) (N : gMem), P (r, N) → Z (some (.int r)) N) (h : gOKq (fX9_count_66h x2 x3 M) P) : gGo G YX9_count d Z 66 [some (.ref 141), none, some (.int x2), some (.int x3)] [] M :=
  gLp_go (K := fun s : Int32 × Int32 => gGo G YX9_count d Z 66 [some (.ref 141), none, some (.int s.1), some (.int s.2)] [] M) (P := P) (fun s hs => CX9_count_66 hd (s.1) (s.2) M (Sum.elim (fun s : Int32 × Int32 => gGo G YX9_count d Z 66 [some (.ref 141), none, some (.int s.1), some (.int s.2)] [] M) P) k0 (fun x2 x3 hh => hh) hs) gFu (x2, x3) h
def fX9_count_11 (x1 : Int32) (s0 : Int64) (s1 : Int64) (s2 : Int64) (M : gMem) : Option (Int32 × gMem) :=
  gB0 (fX9_in s2 s1 s0 M) (fun r1 => if r1 = 0 then if x1 = 9 then if gIx 1 147 (0 : Int32) = true then some ((M.1 147 (Int32.toNatClampNeg (0 : Int32))), M) else none else if x1 = 10 then some ((M.1 141 6), M) else if x1 = 11 then fX9_count_66h (0 : Int32) (0 : Int32) M else some ((-1 : Int32), M) else if gIx 1 148 x1 = true then some ((M.1 148 (Int32.toNatClampNeg x1)), M) else none)
set_option maxRecDepth 100000 in
theorem CX9_count_11 {G : gG} {d : Nat} {Z : Option Value → gMem → Prop} (hd : 1 ≤ d) (x1 : Int32) (s0 : Int64) (s1 : Int64) (s2 : Int64) (M : gMem) (P : Int32 × gMem → Prop) (k0 : ∀ (r : Int32) (N : gMem), P (r, N) → Z (some (.int r)) N) (h : gOKq (fX9_count_11 x1 s0 s1 s2 M) P) : gGo G YX9_count d Z 11 [some (.ref 141), some (.int x1), none, none] [.long s0, .long s1, .long s2] M := by
  unfold fX9_count_11 at h
  obtain ⟨r1, e2, h⟩ := gB0_ok h
  refine go_call1 ocX9_count rfl rfl rfl rfl (SX9_in s2 s1 s0 M e2) (Nat.lt_of_lt_of_le (by decide) hd) ?_
  refine go_br okX9_count rfl (fun hp => ?_) (fun hp => ?_)
  · have h := gq_pos hp h
    refine go_rn 3 (pc' := 27) (L' := [some (.ref 141), some (.int x1), some (.int (0 : Int32)), none]) (S' := [.int x1]) (M' := M) okX9_count rfl ?_
    refine go_sw okX9_count rfl ⟨fun hp => ?_, fun hn0 => ⟨fun hp => ?_, fun hn1 => ⟨fun hp => ?_, fun hn2 => ?_⟩⟩⟩
    · have h := gq_pos hp h
      refine go_rn 1 (pc' := 53) (L' := [some (.ref 141), some (.int x1), some (.int (0 : Int32)), none]) (S' := [.ref 141]) (M' := M) okX9_count rfl ?_
      refine go_ck okX9_count rfl (gOb_c rfl) ?_
      refine go_rn 1 (pc' := 57) (L' := [some (.ref 141), some (.int x1), some (.int (0 : Int32)), none]) (S' := [.int (0 : Int32), .ref 147]) (M' := M) okX9_count rfl ?_
      obtain ⟨c3, h⟩ := gq_if h
      refine go_ck okX9_count rfl c3 ?_
      exact go_iret (reX9_count _ (by decide)) rfl (k0 (M.1 147 (Int32.toNatClampNeg (0 : Int32))) M h)
    · have h := gq_neg hn0 h
      have h := gq_pos hp h
      refine go_rn 1 (pc' := 60) (L' := [some (.ref 141), some (.int x1), some (.int (0 : Int32)), none]) (S' := [.ref 141]) (M' := M) okX9_count rfl ?_
      refine go_ck okX9_count rfl (gOb_c rfl) ?_
      exact go_iret (reX9_count _ (by decide)) rfl (k0 (M.1 141 6) M h)
    · have h := gq_neg hn0 h
      have h := gq_neg hn1 h
      have h := gq_pos hp h
      refine go_rn 2 (pc' := 66) (L' := [some (.ref 141), some (.int x1), some (.int (0 : Int32)), some (.int (0 : Int32))]) (S' := []) (M' := M) okX9_count rfl ?_
      exact go_wk (CX9_count_66h hd (0 : Int32) (0 : Int32) M P k0 h) ⟨rfl, rfl, rfl, True.intro⟩
    · have h := gq_neg hn0 h
      have h := gq_neg hn1 h
      have h := gq_neg hn2 h
      refine go_rn 1 (pc' := 98) (L' := [some (.ref 141), some (.int x1), some (.int (0 : Int32)), none]) (S' := [.int (-1 : Int32)]) (M' := M) okX9_count rfl ?_
      exact go_iret (reX9_count _ (by decide)) rfl (k0 (-1 : Int32) M h)
  · have h := gq_neg hp h
    refine go_rn 1 (pc' := 18) (L' := [some (.ref 141), some (.int x1), none, none]) (S' := [.ref 141]) (M' := M) okX9_count rfl ?_
    refine go_ck okX9_count rfl (gOb_c rfl) ?_
    refine go_rn 1 (pc' := 22) (L' := [some (.ref 141), some (.int x1), none, none]) (S' := [.int x1, .ref 148]) (M' := M) okX9_count rfl ?_
    obtain ⟨c4, h⟩ := gq_if h
    refine go_ck okX9_count rfl c4 ?_
    exact go_iret (reX9_count _ (by decide)) rfl (k0 (M.1 148 (Int32.toNatClampNeg x1)) M h)
def fX9_count_0 (x1 : Int32) (M : gMem) : Option (Int32 × gMem) :=
  fX9_count_11 x1 (8 : Int64) (0 : Int64) (Int32.toInt64 x1) (gSI M 141 0 (0 : Int32))
set_option maxRecDepth 100000 in
theorem CX9_count_0 {G : gG} {d : Nat} {Z : Option Value → gMem → Prop} (hd : 1 ≤ d) (x1 : Int32) (M : gMem) (P : Int32 × gMem → Prop) (k0 : ∀ (r : Int32) (N : gMem), P (r, N) → Z (some (.int r)) N) (h : gOKq (fX9_count_0 x1 M) P) : gGo G YX9_count d Z 0 [some (.ref 141), some (.int x1), none, none] [] M := by
  unfold fX9_count_0 at h
  refine go_rn 2 (pc' := 2) (L' := [some (.ref 141), some (.int x1), none, none]) (S' := [.int (0 : Int32), .ref 141]) (M' := M) okX9_count rfl ?_
  refine go_ck okX9_count rfl (gOb_c rfl) ?_
  refine go_rn 4 (pc' := 11) (L' := [some (.ref 141), some (.int x1), none, none]) (S' := [.long (8 : Int64), .long (0 : Int64), .long (Int32.toInt64 x1)]) (M' := (gSI M 141 0 (0 : Int32))) okX9_count rfl ?_
  exact go_wk (CX9_count_11 hd x1 (8 : Int64) (0 : Int64) (Int32.toInt64 x1) (gSI M 141 0 (0 : Int32)) P k0 h) ⟨rfl, rfl, True.intro⟩
def fX9_count (a1 : Int32) (M : gMem) : Option (Int32 × gMem) := fX9_count_0 a1 M
theorem SX9_count {G : gG} (a1 : Int32) (M : gMem) {r : Int32} {N : gMem} (h : fX9_count a1 M = some (r, N)) : gRun G YX9_count 1 [.ref 141, .int a1] M (fun r' N' => r' = some (.int r) ∧ N' = N) := gRun_in (by decide +kernel) rfl (fun d hd => go_wk (CX9_count_0 hd a1 M (fun p => p = (r, N)) (fun r N hh => by cases hh; exact ⟨rfl, rfl⟩) (gq_of h)) ⟨rfl, rfl, True.intro⟩)
