/-! exact functions of methods, and that the machine goes as they say: by program -/
def fX9_isHolding_45 (x1 : Int32) (x2 : Int32) (x3 : Int32) (x5 : Int32) (x6 : Int32) (x7 : Int32) (M : gMem) : Option (Sum (Int32) (Int32)) :=
  if gIx 1 148 (8 : Int32) = true then if (M.1 148 (Int32.toNatClampNeg (8 : Int32))) ≤ x7 then some (.inr (1 : Int32)) else if (M.1 141 32) = 0 then some (.inr (1 : Int32)) else if gIx 1 153 (((4 : Int32) * x7) + (2 : Int32)) = true then if gIx 1 153 (((4 : Int32) * x7) + (3 : Int32)) = true then if (M.1 153 (Int32.toNatClampNeg (((4 : Int32) * x7) + (3 : Int32)))) = 0 then gB0 (fX9_isPair x7 x1 x2 M) (fun r4 => if r4 = 0 then some (.inl ((x7 + 1))) else if x6 < (M.1 153 (Int32.toNatClampNeg (((4 : Int32) * x7) + (2 : Int32)))) then some (.inl ((x7 + 1))) else if x3 < (M.1 153 (Int32.toNatClampNeg (((4 : Int32) * x7) + (2 : Int32)))) then some (.inr (0 : Int32)) else if (M.1 153 (Int32.toNatClampNeg (((4 : Int32) * x7) + (2 : Int32)))) = x3 then if x7 ≤ x5 then some (.inl ((x7 + 1))) else some (.inr (0 : Int32)) else some (.inl ((x7 + 1)))) else some (.inl ((x7 + 1))) else none else none else none
set_option maxRecDepth 100000 in
theorem CX9_isHolding_45 {G : gG} {d : Nat} {Z : Option Value → gMem → Prop} (hd : 1 ≤ d) (x1 : Int32) (x2 : Int32) (x3 : Int32) (x5 : Int32) (x6 : Int32) (x7 : Int32) (M : gMem) (P : Sum (Int32) (Int32) → Prop) (k0 : ∀ (r : Int32), P (.inr r) → Z (some (.int r)) M) (k1 : ∀ (x7 : Int32), P (.inl (x7)) → gGo G YX9_isHolding d Z 45 [some (.ref 141), some (.int x1), some (.int x2), some (.int x3), none, some (.int x5), some (.int x6), some (.int x7), none] [] M) (h : gOKq (fX9_isHolding_45 x1 x2 x3 x5 x6 x7 M) P) : gGo G YX9_isHolding d Z 45 [some (.ref 141), some (.int x1), some (.int x2), some (.int x3), none, some (.int x5), some (.int x6), some (.int x7), none] [] M := by
  unfold fX9_isHolding_45 at h
  refine go_rn 2 (pc' := 48) (L' := [some (.ref 141), some (.int x1), some (.int x2), some (.int x3), none, some (.int x5), some (.int x6), some (.int x7), none]) (S' := [.ref 141, .int x7]) (M' := M) okX9_isHolding rfl ?_
  refine go_ck okX9_isHolding rfl (gOb_c rfl) ?_
  refine go_rn 1 (pc' := 53) (L' := [some (.ref 141), some (.int x1), some (.int x2), some (.int x3), none, some (.int x5), some (.int x6), some (.int x7), none]) (S' := [.int (8 : Int32), .ref 148, .int x7]) (M' := M) okX9_isHolding rfl ?_
  obtain ⟨c1, h⟩ := gq_if h
  refine go_ck okX9_isHolding rfl c1 ?_
  refine go_br okX9_isHolding rfl (fun hp => ?_) (fun hp => ?_)
  · have h := gq_pos hp h
    refine go_rn 1 (pc' := 137) (L' := [some (.ref 141), some (.int x1), some (.int x2), some (.int x3), none, some (.int x5), some (.int x6), some (.int x7), none]) (S' := [.int (1 : Int32)]) (M' := M) okX9_isHolding rfl ?_
    exact go_zret (reX9_isHolding _ (by decide)) rfl (Or.inr rfl) (k0 (1 : Int32) h)
  · have h := gq_neg hp h
    refine go_rn 1 (pc' := 58) (L' := [some (.ref 141), some (.int x1), some (.int x2), some (.int x3), none, some (.int x5), some (.int x6), some (.int x7), none]) (S' := [.ref 141]) (M' := M) okX9_isHolding rfl ?_
    refine go_ck okX9_isHolding rfl (gOb_c rfl) ?_
    refine go_br okX9_isHolding rfl (fun hp => ?_) (fun hp => ?_)
    · have h := gq_pos hp h
      refine go_rn 1 (pc' := 137) (L' := [some (.ref 141), some (.int x1), some (.int x2), some (.int x3), none, some (.int x5), some (.int x6), some (.int x7), none]) (S' := [.int (1 : Int32)]) (M' := M) okX9_isHolding rfl ?_
      exact go_zret (reX9_isHolding _ (by decide)) rfl (Or.inr rfl) (k0 (1 : Int32) h)
    · have h := gq_neg hp h
      refine go_rn 1 (pc' := 65) (L' := [some (.ref 141), some (.int x1), some (.int x2), some (.int x3), none, some (.int x5), some (.int x6), some (.int x7), none]) (S' := [.ref 141]) (M' := M) okX9_isHolding rfl ?_
      refine go_ck okX9_isHolding rfl (gOb_c rfl) ?_
      refine go_rn 5 (pc' := 74) (L' := [some (.ref 141), some (.int x1), some (.int x2), some (.int x3), none, some (.int x5), some (.int x6), some (.int x7), none]) (S' := [.int (((4 : Int32) * x7) + (2 : Int32)), .ref 153]) (M' := M) okX9_isHolding rfl ?_
      obtain ⟨c2, h⟩ := gq_if h
      refine go_ck okX9_isHolding rfl c2 ?_
      refine go_rn 2 (pc' := 78) (L' := [some (.ref 141), some (.int x1), some (.int x2), some (.int x3), none, some (.int x5), some (.int x6), some (.int x7), some (.int (M.1 153 (Int32.toNatClampNeg (((4 : Int32) * x7) + (2 : Int32)))))]) (S' := [.ref 141]) (M' := M) okX9_isHolding rfl ?_
      refine go_ck okX9_isHolding rfl (gOb_c rfl) ?_
      refine go_rn 5 (pc' := 87) (L' := [some (.ref 141), some (.int x1), some (.int x2), some (.int x3), none, some (.int x5), some (.int x6), some (.int x7), some (.int (M.1 153 (Int32.toNatClampNeg (((4 : Int32) * x7) + (2 : Int32)))))]) (S' := [.int (((4 : Int32) * x7) + (3 : Int32)), .ref 153]) (M' := M) okX9_isHolding rfl ?_
      obtain ⟨c3, h⟩ := gq_if h
      refine go_ck okX9_isHolding rfl c3 ?_
      refine go_br okX9_isHolding rfl (fun hp => ?_) (fun hp => ?_)
      · have h := gq_pos hp h
        refine go_rn 4 (pc' := 96) (L' := [some (.ref 141), some (.int x1), some (.int x2), some (.int x3), none, some (.int x5), some (.int x6), some (.int x7), some (.int (M.1 153 (Int32.toNatClampNeg (((4 : Int32) * x7) + (2 : Int32)))))]) (S' := [.int x2, .int x1, .int x7, .ref 141]) (M' := M) okX9_isHolding rfl ?_
        obtain ⟨r4, e5, h⟩ := gB0_ok h
        refine go_call1 ocX9_isHolding rfl rfl (gOb_c rfl) rfl (SX9_isPair x7 x1 x2 M e5) (Nat.lt_of_lt_of_le (by decide) hd) ?_
        refine go_br okX9_isHolding rfl (fun hp => ?_) (fun hp => ?_)
        · have h := gq_pos hp h
          refine go_rn 2 (pc' := 45) (L' := [some (.ref 141), some (.int x1), some (.int x2), some (.int x3), none, some (.int x5), some (.int x6), some (.int (x7 + 1)), some (.int (M.1 153 (Int32.toNatClampNeg (((4 : Int32) * x7) + (2 : Int32)))))]) (S' := []) (M' := M) okX9_isHolding rfl ?_
          exact go_wk (k1 ((x7 + 1)) h) ⟨rfl, rfl, rfl, rfl, rfl, rfl, rfl, True.intro⟩
        · have h := gq_neg hp h
          refine go_rn 2 (pc' := 106) (L' := [some (.ref 141), some (.int x1), some (.int x2), some (.int x3), none, some (.int x5), some (.int x6), some (.int x7), some (.int (M.1 153 (Int32.toNatClampNeg (((4 : Int32) * x7) + (2 : Int32)))))]) (S' := [.int x6, .int (M.1 153 (Int32.toNatClampNeg (((4 : Int32) * x7) + (2 : Int32))))]) (M' := M) okX9_isHolding rfl ?_
          refine go_br okX9_isHolding rfl (fun hp => ?_) (fun hp => ?_)
          · have h := gq_pos hp h
            refine go_rn 2 (pc' := 45) (L' := [some (.ref 141), some (.int x1), some (.int x2), some (.int x3), none, some (.int x5), some (.int x6), some (.int (x7 + 1)), some (.int (M.1 153 (Int32.toNatClampNeg (((4 : Int32) * x7) + (2 : Int32)))))]) (S' := []) (M' := M) okX9_isHolding rfl ?_
            exact go_wk (k1 ((x7 + 1)) h) ⟨rfl, rfl, rfl, rfl, rfl, rfl, rfl, True.intro⟩
          · have h := gq_neg hp h
            refine go_rn 2 (pc' := 112) (L' := [some (.ref 141), some (.int x1), some (.int x2), some (.int x3), none, some (.int x5), some (.int x6), some (.int x7), some (.int (M.1 153 (Int32.toNatClampNeg (((4 : Int32) * x7) + (2 : Int32)))))]) (S' := [.int x3, .int (M.1 153 (Int32.toNatClampNeg (((4 : Int32) * x7) + (2 : Int32))))]) (M' := M) okX9_isHolding rfl ?_
            refine go_br okX9_isHolding rfl (fun hp => ?_) (fun hp => ?_)
            · have h := gq_pos hp h
              refine go_rn 1 (pc' := 129) (L' := [some (.ref 141), some (.int x1), some (.int x2), some (.int x3), none, some (.int x5), some (.int x6), some (.int x7), some (.int (M.1 153 (Int32.toNatClampNeg (((4 : Int32) * x7) + (2 : Int32)))))]) (S' := [.int (0 : Int32)]) (M' := M) okX9_isHolding rfl ?_
              exact go_zret (reX9_isHolding _ (by decide)) rfl (Or.inl rfl) (k0 (0 : Int32) h)
            · have h := gq_neg hp h
              refine go_rn 2 (pc' := 118) (L' := [some (.ref 141), some (.int x1), some (.int x2), some (.int x3), none, some (.int x5), some (.int x6), some (.int x7), some (.int (M.1 153 (Int32.toNatClampNeg (((4 : Int32) * x7) + (2 : Int32)))))]) (S' := [.int x3, .int (M.1 153 (Int32.toNatClampNeg (((4 : Int32) * x7) + (2 : Int32))))]) (M' := M) okX9_isHolding rfl ?_
              refine go_br okX9_isHolding rfl (fun hp => ?_) (fun hp => ?_)
              · have h := gq_pos hp h
                refine go_rn 2 (pc' := 125) (L' := [some (.ref 141), some (.int x1), some (.int x2), some (.int x3), none, some (.int x5), some (.int x6), some (.int x7), some (.int (M.1 153 (Int32.toNatClampNeg (((4 : Int32) * x7) + (2 : Int32)))))]) (S' := [.int x5, .int x7]) (M' := M) okX9_isHolding rfl ?_
                refine go_br okX9_isHolding rfl (fun hp => ?_) (fun hp => ?_)
                · have h := gq_pos hp h
                  refine go_rn 2 (pc' := 45) (L' := [some (.ref 141), some (.int x1), some (.int x2), some (.int x3), none, some (.int x5), some (.int x6), some (.int (x7 + 1)), some (.int (M.1 153 (Int32.toNatClampNeg (((4 : Int32) * x7) + (2 : Int32)))))]) (S' := []) (M' := M) okX9_isHolding rfl ?_
                  exact go_wk (k1 ((x7 + 1)) h) ⟨rfl, rfl, rfl, rfl, rfl, rfl, rfl, True.intro⟩
                · have h := gq_neg hp h
                  refine go_rn 1 (pc' := 129) (L' := [some (.ref 141), some (.int x1), some (.int x2), some (.int x3), none, some (.int x5), some (.int x6), some (.int x7), some (.int (M.1 153 (Int32.toNatClampNeg (((4 : Int32) * x7) + (2 : Int32)))))]) (S' := [.int (0 : Int32)]) (M' := M) okX9_isHolding rfl ?_
                  exact go_zret (reX9_isHolding _ (by decide)) rfl (Or.inl rfl) (k0 (0 : Int32) h)
              · have h := gq_neg hp h
                refine go_rn 2 (pc' := 45) (L' := [some (.ref 141), some (.int x1), some (.int x2), some (.int x3), none, some (.int x5), some (.int x6), some (.int (x7 + 1)), some (.int (M.1 153 (Int32.toNatClampNeg (((4 : Int32) * x7) + (2 : Int32)))))]) (S' := []) (M' := M) okX9_isHolding rfl ?_
                exact go_wk (k1 ((x7 + 1)) h) ⟨rfl, rfl, rfl, rfl, rfl, rfl, rfl, True.intro⟩
      · have h := gq_neg hp h
        refine go_rn 2 (pc' := 45) (L' := [some (.ref 141), some (.int x1), some (.int x2), some (.int x3), none, some (.int x5), some (.int x6), some (.int (x7 + 1)), some (.int (M.1 153 (Int32.toNatClampNeg (((4 : Int32) * x7) + (2 : Int32)))))]) (S' := []) (M' := M) okX9_isHolding rfl ?_
        exact go_wk (k1 ((x7 + 1)) h) ⟨rfl, rfl, rfl, rfl, rfl, rfl, rfl, True.intro⟩
def fX9_isHolding_45h (x1 : Int32) (x2 : Int32) (x3 : Int32) (x5 : Int32) (x6 : Int32) (x7 : Int32) (M : gMem) : Option (Int32) :=
  gLp (fun s : Int32 => fX9_isHolding_45 x1 x2 x3 x5 x6 s M) gFu (x7)
set_option maxRecDepth 100000 in
theorem CX9_isHolding_45h {G : gG} {d : Nat} {Z : Option Value → gMem → Prop} (hd : 1 ≤ d) (x1 : Int32) (x2 : Int32) (x3 : Int32) (x5 : Int32) (x6 : Int32) (x7 : Int32) (M : gMem) (P : Int32 → Prop) (k0 : ∀ (r : Int32), P r → Z (some (.int r)) M) (h : gOKq (fX9_isHolding_45h x1 x2 x3 x5 x6 x7 M) P) : gGo G YX9_isHolding d Z 45 [some (.ref 141), some (.int x1), some (.int x2), some (.int x3), none, some (.int x5), some (.int x6), some (.int x7), none] [] M :=
  gLp_go (K := fun s : Int32 => gGo G YX9_isHolding d Z 45 [some (.ref 141), some (.int x1), some (.int x2), some (.int x3), none, some (.int x5), some (.int x6), some (.int s), none] [] M) (P := P) (fun s hs => CX9_isHolding_45 hd (x1) (x2) (x3) (x5) (x6) (s) M (Sum.elim (fun s : Int32 => gGo G YX9_isHolding d Z 45 [some (.ref 141), some (.int x1), some (.int x2), some (.int x3), none, some (.int x5), some (.int x6), some (.int s), none] [] M) P) k0 (fun x7 hh => hh) hs) gFu (x7) h
def fX9_isHolding_0 (x1 : Int32) (x2 : Int32) (x3 : Int32) (x4 : Int32) (x5 : Int32) (x6 : Int32) (M : gMem) : Option (Int32) :=
  gB0 (fX9_in (Int32.toInt64 x6) (Int32.toInt64 x3) (Int32.toInt64 ((x3 + x4) - (1 : Int32))) M) (fun r1 => if r1 = 0 then some (0 : Int32) else gB0 (fX9_isBit (M.1 141 26) x1 M) (fun r3 => if r3 = 0 then gB0 (fX9_isBit (M.1 141 26) x2 M) (fun r5 => if r5 = 0 then fX9_isHolding_45h x1 x2 x3 x5 x6 (0 : Int32) M else some (0 : Int32)) else some (0 : Int32)))
set_option maxRecDepth 100000 in
theorem CX9_isHolding_0 {G : gG} {d : Nat} {Z : Option Value → gMem → Prop} (hd : 1 ≤ d) (x1 : Int32) (x2 : Int32) (x3 : Int32) (x4 : Int32) (x5 : Int32) (x6 : Int32) (M : gMem) (P : Int32 → Prop) (k0 : ∀ (r : Int32), P r → Z (some (.int r)) M) (h : gOKq (fX9_isHolding_0 x1 x2 x3 x4 x5 x6 M) P) : gGo G YX9_isHolding d Z 0 [some (.ref 141), some (.int x1), some (.int x2), some (.int x3), some (.int x4), some (.int x5), some (.int x6), none, none] [] M := by
  unfold fX9_isHolding_0 at h
  refine go_rn 10 (pc' := 12) (L' := [some (.ref 141), some (.int x1), some (.int x2), some (.int x3), some (.int x4), some (.int x5), some (.int x6), none, none]) (S' := [.long (Int32.toInt64 ((x3 + x4) - (1 : Int32))), .long (Int32.toInt64 x3), .long (Int32.toInt64 x6)]) (M' := M) okX9_isHolding rfl ?_
  obtain ⟨r1, e2, h⟩ := gB0_ok h
  refine go_call1 ocX9_isHolding rfl rfl rfl rfl (SX9_in (Int32.toInt64 x6) (Int32.toInt64 x3) (Int32.toInt64 ((x3 + x4) - (1 : Int32))) M e2) (Nat.lt_of_lt_of_le (by decide) hd) ?_
  refine go_br okX9_isHolding rfl (fun hp => ?_) (fun hp => ?_)
  · have h := gq_pos hp h
    refine go_rn 1 (pc' := 41) (L' := [some (.ref 141), some (.int x1), some (.int x2), some (.int x3), some (.int x4), some (.int x5), some (.int x6), none, none]) (S' := [.int (0 : Int32)]) (M' := M) okX9_isHolding rfl ?_
    exact go_zret (reX9_isHolding _ (by decide)) rfl (Or.inl rfl) (k0 (0 : Int32) h)
  · have h := gq_neg hp h
    refine go_rn 1 (pc' := 19) (L' := [some (.ref 141), some (.int x1), some (.int x2), some (.int x3), some (.int x4), some (.int x5), some (.int x6), none, none]) (S' := [.ref 141]) (M' := M) okX9_isHolding rfl ?_
    refine go_ck okX9_isHolding rfl (gOb_c rfl) ?_
    refine go_rn 1 (pc' := 23) (L' := [some (.ref 141), some (.int x1), some (.int x2), some (.int x3), some (.int x4), some (.int x5), some (.int x6), none, none]) (S' := [.int x1, .int (M.1 141 26)]) (M' := M) okX9_isHolding rfl ?_
    obtain ⟨r3, e4, h⟩ := gB0_ok h
    refine go_call1 ocX9_isHolding rfl rfl rfl rfl (SX9_isBit (M.1 141 26) x1 M e4) (Nat.lt_of_lt_of_le (by decide) hd) ?_
    refine go_br okX9_isHolding rfl (fun hp => ?_) (fun hp => ?_)
    · have h := gq_pos hp h
      refine go_rn 1 (pc' := 30) (L' := [some (.ref 141), some (.int x1), some (.int x2), some (.int x3), some (.int x4), some (.int x5), some (.int x6), none, none]) (S' := [.ref 141]) (M' := M) okX9_isHolding rfl ?_
      refine go_ck okX9_isHolding rfl (gOb_c rfl) ?_
      refine go_rn 1 (pc' := 34) (L' := [some (.ref 141), some (.int x1), some (.int x2), some (.int x3), some (.int x4), some (.int x5), some (.int x6), none, none]) (S' := [.int x2, .int (M.1 141 26)]) (M' := M) okX9_isHolding rfl ?_
      obtain ⟨r5, e6, h⟩ := gB0_ok h
      refine go_call1 ocX9_isHolding rfl rfl rfl rfl (SX9_isBit (M.1 141 26) x2 M e6) (Nat.lt_of_lt_of_le (by decide) hd) ?_
      refine go_br okX9_isHolding rfl (fun hp => ?_) (fun hp => ?_)
      · have h := gq_pos hp h
        refine go_rn 2 (pc' := 45) (L' := [some (.ref 141), some (.int x1), some (.int x2), some (.int x3), some (.int x4), some (.int x5), some (.int x6), some (.int (0 : Int32)), none]) (S' := []) (M' := M) okX9_isHolding rfl ?_
        exact go_wk (CX9_isHolding_45h hd x1 x2 x3 x5 x6 (0 : Int32) M P k0 h) ⟨rfl, rfl, rfl, rfl, rfl, rfl, rfl, True.intro⟩
      · have h := gq_neg hp h
        refine go_rn 1 (pc' := 41) (L' := [some (.ref 141), some (.int x1), some (.int x2), some (.int x3), some (.int x4), some (.int x5), some (.int x6), none, none]) (S' := [.int (0 : Int32)]) (M' := M) okX9_isHolding rfl ?_
        exact go_zret (reX9_isHolding _ (by decide)) rfl (Or.inl rfl) (k0 (0 : Int32) h)
    · have h := gq_neg hp h
      refine go_rn 1 (pc' := 41) (L' := [some (.ref 141), some (.int x1), some (.int x2), some (.int x3), some (.int x4), some (.int x5), some (.int x6), none, none]) (S' := [.int (0 : Int32)]) (M' := M) okX9_isHolding rfl ?_
      exact go_zret (reX9_isHolding _ (by decide)) rfl (Or.inl rfl) (k0 (0 : Int32) h)
def fX9_isHolding (a1 : Int32) (a2 : Int32) (a3 : Int32) (a4 : Int32) (a5 : Int32) (a6 : Int32) (M : gMem) : Option (Int32) := fX9_isHolding_0 a1 a2 a3 a4 a5 a6 M
theorem SX9_isHolding {G : gG} (a1 : Int32) (a2 : Int32) (a3 : Int32) (a4 : Int32) (a5 : Int32) (a6 : Int32) (M : gMem) {r : Int32} (h : fX9_isHolding a1 a2 a3 a4 a5 a6 M = some r) : gRun G YX9_isHolding 1 [.ref 141, .int a1, .int a2, .int a3, .int a4, .int a5, .int a6] M (fun r' N' => r' = some (.int r) ∧ N' = M) := gRun_in (by decide +kernel) rfl (fun d hd => go_wk (CX9_isHolding_0 hd a1 a2 a3 a4 a5 a6 M (fun p => p = r) (fun r hh => ⟨congrArg (fun z => some (Value.int z)) hh, rfl⟩) (gq_of h)) ⟨rfl, rfl, rfl, rfl, rfl, rfl, rfl, True.intro⟩)
def fX9_isTold_0 (x1 : Int32) (x2 : Int32) (M : gMem) : Option (Int32) :=
  gB0 (fX9_isBit (M.1 141 25) x1 M) (fun r1 => if r1 = 0 then if gIx 1 150 ((3 : Int32) * x1) = true then if gIx 1 150 (((3 : Int32) * x1) + (1 : Int32)) = true then if gIx 1 150 (((3 : Int32) * x1) + (2 : Int32)) = true then gB0 (fX9_isHolding (M.1 150 (Int32.toNatClampNeg ((3 : Int32) * x1))) (M.1 150 (Int32.toNatClampNeg (((3 : Int32) * x1) + (1 : Int32)))) (0 : Int32) (M.1 150 (Int32.toNatClampNeg (((3 : Int32) * x1) + (2 : Int32)))) (-1 : Int32) x2 M) (fun r6 => if r6 = 0 then some (0 : Int32) else some (1 : Int32)) else none else none else none else some (0 : Int32))
set_option maxRecDepth 100000 in
theorem CX9_isTold_0 {G : gG} {d : Nat} {Z : Option Value → gMem → Prop} (hd : 2 ≤ d) (x1 : Int32) (x2 : Int32) (M : gMem) (P : Int32 → Prop) (k0 : ∀ (r : Int32), P r → Z (some (.int r)) M) (h : gOKq (fX9_isTold_0 x1 x2 M) P) : gGo G YX9_isTold d Z 0 [some (.ref 141), some (.int x1), some (.int x2)] [] M := by
  unfold fX9_isTold_0 at h
  refine go_rn 1 (pc' := 1) (L' := [some (.ref 141), some (.int x1), some (.int x2)]) (S' := [.ref 141]) (M' := M) okX9_isTold rfl ?_
  refine go_ck okX9_isTold rfl (gOb_c rfl) ?_
  refine go_rn 1 (pc' := 5) (L' := [some (.ref 141), some (.int x1), some (.int x2)]) (S' := [.int x1, .int (M.1 141 25)]) (M' := M) okX9_isTold rfl ?_
  obtain ⟨r1, e2, h⟩ := gB0_ok h
  refine go_call1 ocX9_isTold rfl rfl rfl rfl (SX9_isBit (M.1 141 25) x1 M e2) (Nat.lt_of_lt_of_le (by decide) hd) ?_
  refine go_br okX9_isTold rfl (fun hp => ?_) (fun hp => ?_)
  · have h := gq_pos hp h
    refine go_rn 2 (pc' := 13) (L' := [some (.ref 141), some (.int x1), some (.int x2)]) (S' := [.ref 141, .ref 141]) (M' := M) okX9_isTold rfl ?_
    refine go_ck okX9_isTold rfl (gOb_c rfl) ?_
    refine go_rn 3 (pc' := 19) (L' := [some (.ref 141), some (.int x1), some (.int x2)]) (S' := [.int ((3 : Int32) * x1), .ref 150, .ref 141]) (M' := M) okX9_isTold rfl ?_
    obtain ⟨c3, h⟩ := gq_if h
    refine go_ck okX9_isTold rfl c3 ?_
    refine go_rn 1 (pc' := 21) (L' := [some (.ref 141), some (.int x1), some (.int x2)]) (S' := [.ref 141, .int (M.1 150 (Int32.toNatClampNeg ((3 : Int32) * x1))), .ref 141]) (M' := M) okX9_isTold rfl ?_
    refine go_ck okX9_isTold rfl (gOb_c rfl) ?_
    refine go_rn 5 (pc' := 29) (L' := [some (.ref 141), some (.int x1), some (.int x2)]) (S' := [.int (((3 : Int32) * x1) + (1 : Int32)), .ref 150, .int (M.1 150 (Int32.toNatClampNeg ((3 : Int32) * x1))), .ref 141]) (M' := M) okX9_isTold rfl ?_
    obtain ⟨c4, h⟩ := gq_if h
    refine go_ck okX9_isTold rfl c4 ?_
    refine go_rn 2 (pc' := 32) (L' := [some (.ref 141), some (.int x1), some (.int x2)]) (S' := [.ref 141, .int (0 : Int32), .int (M.1 150 (Int32.toNatClampNeg (((3 : Int32) * x1) + (1 : Int32)))), .int (M.1 150 (Int32.toNatClampNeg ((3 : Int32) * x1))), .ref 141]) (M' := M) okX9_isTold rfl ?_
    refine go_ck okX9_isTold rfl (gOb_c rfl) ?_
    refine go_rn 5 (pc' := 40) (L' := [some (.ref 141), some (.int x1), some (.int x2)]) (S' := [.int (((3 : Int32) * x1) + (2 : Int32)), .ref 150, .int (0 : Int32), .int (M.1 150 (Int32.toNatClampNeg (((3 : Int32) * x1) + (1 : Int32)))), .int (M.1 150 (Int32.toNatClampNeg ((3 : Int32) * x1))), .ref 141]) (M' := M) okX9_isTold rfl ?_
    obtain ⟨c5, h⟩ := gq_if h
    refine go_ck okX9_isTold rfl c5 ?_
    refine go_rn 2 (pc' := 43) (L' := [some (.ref 141), some (.int x1), some (.int x2)]) (S' := [.int x2, .int (-1 : Int32), .int (M.1 150 (Int32.toNatClampNeg (((3 : Int32) * x1) + (2 : Int32)))), .int (0 : Int32), .int (M.1 150 (Int32.toNatClampNeg (((3 : Int32) * x1) + (1 : Int32)))), .int (M.1 150 (Int32.toNatClampNeg ((3 : Int32) * x1))), .ref 141]) (M' := M) okX9_isTold rfl ?_
    obtain ⟨r6, e7, h⟩ := gB0_ok h
    refine go_call1 ocX9_isTold rfl rfl (gOb_c rfl) rfl (SX9_isHolding (M.1 150 (Int32.toNatClampNeg ((3 : Int32) * x1))) (M.1 150 (Int32.toNatClampNeg (((3 : Int32) * x1) + (1 : Int32)))) (0 : Int32) (M.1 150 (Int32.toNatClampNeg (((3 : Int32) * x1) + (2 : Int32)))) (-1 : Int32) x2 M e7) (Nat.lt_of_lt_of_le (by decide) hd) ?_
    refine go_br okX9_isTold rfl (fun hp => ?_) (fun hp => ?_)
    · have h := gq_pos hp h
      refine go_rn 1 (pc' := 54) (L' := [some (.ref 141), some (.int x1), some (.int x2)]) (S' := [.int (0 : Int32)]) (M' := M) okX9_isTold rfl ?_
      exact go_zret (reX9_isTold _ (by decide)) rfl (Or.inl rfl) (k0 (0 : Int32) h)
    · have h := gq_neg hp h
      refine go_rn 2 (pc' := 54) (L' := [some (.ref 141), some (.int x1), some (.int x2)]) (S' := [.int (1 : Int32)]) (M' := M) okX9_isTold rfl ?_
      exact go_zret (reX9_isTold _ (by decide)) rfl (Or.inr rfl) (k0 (1 : Int32) h)
  · have h := gq_neg hp h
    refine go_rn 1 (pc' := 54) (L' := [some (.ref 141), some (.int x1), some (.int x2)]) (S' := [.int (0 : Int32)]) (M' := M) okX9_isTold rfl ?_
    exact go_zret (reX9_isTold _ (by decide)) rfl (Or.inl rfl) (k0 (0 : Int32) h)
def fX9_isTold (a1 : Int32) (a2 : Int32) (M : gMem) : Option (Int32) := fX9_isTold_0 a1 a2 M
theorem SX9_isTold {G : gG} (a1 : Int32) (a2 : Int32) (M : gMem) {r : Int32} (h : fX9_isTold a1 a2 M = some r) : gRun G YX9_isTold 2 [.ref 141, .int a1, .int a2] M (fun r' N' => r' = some (.int r) ∧ N' = M) := gRun_in (by decide +kernel) rfl (fun d hd => go_wk (CX9_isTold_0 hd a1 a2 M (fun p => p = r) (fun r hh => ⟨congrArg (fun z => some (Value.int z)) hh, rfl⟩) (gq_of h)) ⟨rfl, rfl, rfl, True.intro⟩)
def fX9_isOut_0 (x1 : Int32) (x2 : Int32) (M : gMem) : Option (Int32) :=
  if gIx 1 156 x1 = true then if (M.1 156 (Int32.toNatClampNeg x1)) = (-1 : Int32) then some (0 : Int32) else if gIx 1 156 x1 = true then if x2 < (M.1 156 (Int32.toNatClampNeg x1)) then some (0 : Int32) else some (1 : Int32) else none else none
set_option maxRecDepth 100000 in
theorem CX9_isOut_0 {G : gG} {d : Nat} {Z : Option Value → gMem → Prop} (hd : 0 ≤ d) (x1 : Int32) (x2 : Int32) (M : gMem) (P : Int32 → Prop) (k0 : ∀ (r : Int32), P r → Z (some (.int r)) M) (h : gOKq (fX9_isOut_0 x1 x2 M) P) : gGo G YX9_isOut d Z 0 [some (.ref 141), some (.int x1), some (.int x2)] [] M := by
  unfold fX9_isOut_0 at h
  refine go_rn 1 (pc' := 1) (L' := [some (.ref 141), some (.int x1), some (.int x2)]) (S' := [.ref 141]) (M' := M) okX9_isOut rfl ?_
  refine go_ck okX9_isOut rfl (gOb_c rfl) ?_
  refine go_rn 1 (pc' := 5) (L' := [some (.ref 141), some (.int x1), some (.int x2)]) (S' := [.int x1, .ref 156]) (M' := M) okX9_isOut rfl ?_
  obtain ⟨c1, h⟩ := gq_if h
  refine go_ck okX9_isOut rfl c1 ?_
  refine go_rn 1 (pc' := 7) (L' := [some (.ref 141), some (.int x1), some (.int x2)]) (S' := [.int (-1 : Int32), .int (M.1 156 (Int32.toNatClampNeg x1))]) (M' := M) okX9_isOut rfl ?_
  refine go_br okX9_isOut rfl (fun hp => ?_) (fun hp => ?_)
  · have h := gq_pos hp h
    refine go_rn 1 (pc' := 25) (L' := [some (.ref 141), some (.int x1), some (.int x2)]) (S' := [.int (0 : Int32)]) (M' := M) okX9_isOut rfl ?_
    exact go_zret (reX9_isOut _ (by decide)) rfl (Or.inl rfl) (k0 (0 : Int32) h)
  · have h := gq_neg hp h
    refine go_rn 1 (pc' := 11) (L' := [some (.ref 141), some (.int x1), some (.int x2)]) (S' := [.ref 141]) (M' := M) okX9_isOut rfl ?_
    refine go_ck okX9_isOut rfl (gOb_c rfl) ?_
    refine go_rn 1 (pc' := 15) (L' := [some (.ref 141), some (.int x1), some (.int x2)]) (S' := [.int x1, .ref 156]) (M' := M) okX9_isOut rfl ?_
    obtain ⟨c2, h⟩ := gq_if h
    refine go_ck okX9_isOut rfl c2 ?_
    refine go_rn 1 (pc' := 17) (L' := [some (.ref 141), some (.int x1), some (.int x2)]) (S' := [.int x2, .int (M.1 156 (Int32.toNatClampNeg x1))]) (M' := M) okX9_isOut rfl ?_
    refine go_br okX9_isOut rfl (fun hp => ?_) (fun hp => ?_)
    · have h := gq_pos hp h
      refine go_rn 1 (pc' := 25) (L' := [some (.ref 141), some (.int x1), some (.int x2)]) (S' := [.int (0 : Int32)]) (M' := M) okX9_isOut rfl ?_
      exact go_zret (reX9_isOut _ (by decide)) rfl (Or.inl rfl) (k0 (0 : Int32) h)
    · have h := gq_neg hp h
      refine go_rn 2 (pc' := 25) (L' := [some (.ref 141), some (.int x1), some (.int x2)]) (S' := [.int (1 : Int32)]) (M' := M) okX9_isOut rfl ?_
      exact go_zret (reX9_isOut _ (by decide)) rfl (Or.inr rfl) (k0 (1 : Int32) h)
def fX9_isOut (a1 : Int32) (a2 : Int32) (M : gMem) : Option (Int32) := fX9_isOut_0 a1 a2 M
theorem SX9_isOut {G : gG} (a1 : Int32) (a2 : Int32) (M : gMem) {r : Int32} (h : fX9_isOut a1 a2 M = some r) : gRun G YX9_isOut 0 [.ref 141, .int a1, .int a2] M (fun r' N' => r' = some (.int r) ∧ N' = M) := gRun_in (by decide +kernel) rfl (fun d hd => go_wk (CX9_isOut_0 hd a1 a2 M (fun p => p = r) (fun r hh => ⟨congrArg (fun z => some (Value.int z)) hh, rfl⟩) (gq_of h)) ⟨rfl, rfl, rfl, True.intro⟩)
def fX9_tiesTwo_55 (s0 : Int32) (s2 : Int32) (M : gMem) : Option (gMem) :=
  if gIx 1 155 s0 = true then if gIx 1 155 s2 = true then some (gSI M 155 (Int32.toNatClampNeg s2) ((M.1 155 (Int32.toNatClampNeg s0)) + (1 : Int32))) else none else none
set_option maxRecDepth 100000 in
theorem CX9_tiesTwo_55 {G : gG} {d : Nat} {Z : Option Value → gMem → Prop} (hd : 1 ≤ d) (s0 : Int32) (s2 : Int32) (M : gMem) (P : gMem → Prop) (k0 : ∀ (N : gMem), P N → Z none N) (h : gOKq (fX9_tiesTwo_55 s0 s2 M) P) : gGo G YX9_tiesTwo d Z 55 [none, none, none, none] [.int s0, .ref 155, .int s2, .ref 155] M := by
  unfold fX9_tiesTwo_55 at h
  obtain ⟨c1, h⟩ := gq_if h
  refine go_ck okX9_tiesTwo rfl c1 ?_
  refine go_rn 2 (pc' := 58) (L' := [none, none, none, none]) (S' := [.int ((M.1 155 (Int32.toNatClampNeg s0)) + (1 : Int32)), .int s2, .ref 155]) (M' := M) okX9_tiesTwo rfl ?_
  obtain ⟨c2, h⟩ := gq_if h
  refine go_ck okX9_tiesTwo rfl c2 ?_
  exact go_vret (reX9_tiesTwo _ (by decide)) rfl (k0 (gSI M 155 (Int32.toNatClampNeg s2) ((M.1 155 (Int32.toNatClampNeg s0)) + (1 : Int32))) h)
def fX9_tiesTwo_0 (x1 : Int32) (x2 : Int32) (x3 : Int32) (M : gMem) : Option (gMem) :=
  gB0 (fX9_isOut x1 x3 M) (fun r1 => if r1 = 0 then gB0 (fX9_isOut x2 x3 M) (fun r3 => if r3 = 0 then if gIx 1 155 ((((36 : Int32) * x3) + ((6 : Int32) * x1)) + x2) = true then if gIx 1 155 ((((36 : Int32) * x3) + ((6 : Int32) * x1)) + x2) = true then fX9_tiesTwo_55 ((((36 : Int32) * x3) + ((6 : Int32) * x2)) + x1) ((((36 : Int32) * x3) + ((6 : Int32) * x2)) + x1) (gSI M 155 (Int32.toNatClampNeg ((((36 : Int32) * x3) + ((6 : Int32) * x1)) + x2)) ((M.1 155 (Int32.toNatClampNeg ((((36 : Int32) * x3) + ((6 : Int32) * x1)) + x2))) + (1 : Int32))) else none else none else some M) else some M)
set_option maxRecDepth 100000 in
theorem CX9_tiesTwo_0 {G : gG} {d : Nat} {Z : Option Value → gMem → Prop} (hd : 1 ≤ d) (x1 : Int32) (x2 : Int32) (x3 : Int32) (M : gMem) (P : gMem → Prop) (k0 : ∀ (N : gMem), P N → Z none N) (h : gOKq (fX9_tiesTwo_0 x1 x2 x3 M) P) : gGo G YX9_tiesTwo d Z 0 [some (.ref 141), some (.int x1), some (.int x2), some (.int x3)] [] M := by
  unfold fX9_tiesTwo_0 at h
  refine go_rn 3 (pc' := 3) (L' := [some (.ref 141), some (.int x1), some (.int x2), some (.int x3)]) (S' := [.int x3, .int x1, .ref 141]) (M' := M) okX9_tiesTwo rfl ?_
  obtain ⟨r1, e2, h⟩ := gB0_ok h
  refine go_call1 ocX9_tiesTwo rfl rfl (gOb_c rfl) rfl (SX9_isOut x1 x3 M e2) (Nat.lt_of_lt_of_le (by decide) hd) ?_
  refine go_br okX9_tiesTwo rfl (fun hp => ?_) (fun hp => ?_)
  · have h := gq_pos hp h
    refine go_rn 3 (pc' := 12) (L' := [some (.ref 141), some (.int x1), some (.int x2), some (.int x3)]) (S' := [.int x3, .int x2, .ref 141]) (M' := M) okX9_tiesTwo rfl ?_
    obtain ⟨r3, e4, h⟩ := gB0_ok h
    refine go_call1 ocX9_tiesTwo rfl rfl (gOb_c rfl) rfl (SX9_isOut x2 x3 M e4) (Nat.lt_of_lt_of_le (by decide) hd) ?_
    refine go_br okX9_tiesTwo rfl (fun hp => ?_) (fun hp => ?_)
    · have h := gq_pos hp h
      refine go_rn 1 (pc' := 20) (L' := [some (.ref 141), some (.int x1), some (.int x2), some (.int x3)]) (S' := [.ref 141]) (M' := M) okX9_tiesTwo rfl ?_
      refine go_ck okX9_tiesTwo rfl (gOb_c rfl) ?_
      refine go_rn 10 (pc' := 35) (L' := [some (.ref 141), some (.int x1), some (.int x2), some (.int x3)]) (S' := [.int ((((36 : Int32) * x3) + ((6 : Int32) * x1)) + x2), .ref 155, .int ((((36 : Int32) * x3) + ((6 : Int32) * x1)) + x2), .ref 155]) (M' := M) okX9_tiesTwo rfl ?_
      obtain ⟨c5, h⟩ := gq_if h
      refine go_ck okX9_tiesTwo rfl c5 ?_
      refine go_rn 2 (pc' := 38) (L' := [some (.ref 141), some (.int x1), some (.int x2), some (.int x3)]) (S' := [.int ((M.1 155 (Int32.toNatClampNeg ((((36 : Int32) * x3) + ((6 : Int32) * x1)) + x2))) + (1 : Int32)), .int ((((36 : Int32) * x3) + ((6 : Int32) * x1)) + x2), .ref 155]) (M' := M) okX9_tiesTwo rfl ?_
      obtain ⟨c6, h⟩ := gq_if h
      refine go_ck okX9_tiesTwo rfl c6 ?_
      refine go_rn 1 (pc' := 40) (L' := [some (.ref 141), some (.int x1), some (.int x2), some (.int x3)]) (S' := [.ref 141]) (M' := (gSI M 155 (Int32.toNatClampNeg ((((36 : Int32) * x3) + ((6 : Int32) * x1)) + x2)) ((M.1 155 (Int32.toNatClampNeg ((((36 : Int32) * x3) + ((6 : Int32) * x1)) + x2))) + (1 : Int32)))) okX9_tiesTwo rfl ?_
      refine go_ck okX9_tiesTwo rfl (gOb_c rfl) ?_
      refine go_rn 10 (pc' := 55) (L' := [some (.ref 141), some (.int x1), some (.int x2), some (.int x3)]) (S' := [.int ((((36 : Int32) * x3) + ((6 : Int32) * x2)) + x1), .ref 155, .int ((((36 : Int32) * x3) + ((6 : Int32) * x2)) + x1), .ref 155]) (M' := (gSI M 155 (Int32.toNatClampNeg ((((36 : Int32) * x3) + ((6 : Int32) * x1)) + x2)) ((M.1 155 (Int32.toNatClampNeg ((((36 : Int32) * x3) + ((6 : Int32) * x1)) + x2))) + (1 : Int32)))) okX9_tiesTwo rfl ?_
      exact go_wk (CX9_tiesTwo_55 hd ((((36 : Int32) * x3) + ((6 : Int32) * x2)) + x1) ((((36 : Int32) * x3) + ((6 : Int32) * x2)) + x1) (gSI M 155 (Int32.toNatClampNeg ((((36 : Int32) * x3) + ((6 : Int32) * x1)) + x2)) ((M.1 155 (Int32.toNatClampNeg ((((36 : Int32) * x3) + ((6 : Int32) * x1)) + x2))) + (1 : Int32))) P k0 h) True.intro
    · have h := gq_neg hp h
      exact go_vret (reX9_tiesTwo _ (by decide)) rfl (k0 M h)
  · have h := gq_neg hp h
    exact go_vret (reX9_tiesTwo _ (by decide)) rfl (k0 M h)
def fX9_tiesTwo (a1 : Int32) (a2 : Int32) (a3 : Int32) (M : gMem) : Option (gMem) := fX9_tiesTwo_0 a1 a2 a3 M
theorem SX9_tiesTwo {G : gG} (a1 : Int32) (a2 : Int32) (a3 : Int32) (M : gMem) {N : gMem} (h : fX9_tiesTwo a1 a2 a3 M = some N) : gRun G YX9_tiesTwo 1 [.ref 141, .int a1, .int a2, .int a3] M (fun r' N' => r' = none ∧ N' = N) := gRun_in (by decide +kernel) rfl (fun d hd => go_wk (CX9_tiesTwo_0 hd a1 a2 a3 M (fun p => p = N) (fun N hh => ⟨rfl, hh⟩) (gq_of h)) ⟨rfl, rfl, rfl, rfl, True.intro⟩)
def fX9_laysTies_183 (x1 : Int32) (M : gMem) : Option (gMem) :=
  if (M.1 141 30) = (-1 : Int32) then some M else gB0 (fX9_isHolding (M.1 141 28) (M.1 141 29) (M.1 141 30) (9 : Int32) (100000 : Int32) x1 M) (fun r1 => if r1 = 0 then some M else gB0 (fX9_tiesTwo (M.1 141 28) (M.1 141 29) x1 M) (fun M3 => some M3))
set_option maxRecDepth 100000 in
theorem CX9_laysTies_183 {G : gG} {d : Nat} {Z : Option Value → gMem → Prop} (hd : 3 ≤ d) (x1 : Int32) (M : gMem) (P : gMem → Prop) (k0 : ∀ (N : gMem), P N → Z none N) (h : gOKq (fX9_laysTies_183 x1 M) P) : gGo G YX9_laysTies d Z 183 [some (.ref 141), some (.int x1), none] [] M := by
  unfold fX9_laysTies_183 at h
  refine go_rn 1 (pc' := 184) (L' := [some (.ref 141), some (.int x1), none]) (S' := [.ref 141]) (M' := M) okX9_laysTies rfl ?_
  refine go_ck okX9_laysTies rfl (gOb_c rfl) ?_
  refine go_rn 1 (pc' := 188) (L' := [some (.ref 141), some (.int x1), none]) (S' := [.int (-1 : Int32), .int (M.1 141 30)]) (M' := M) okX9_laysTies rfl ?_
  refine go_br okX9_laysTies rfl (fun hp => ?_) (fun hp => ?_)
  · have h := gq_pos hp h
    exact go_vret (reX9_laysTies _ (by decide)) rfl (k0 M h)
  · have h := gq_neg hp h
    refine go_rn 2 (pc' := 193) (L' := [some (.ref 141), some (.int x1), none]) (S' := [.ref 141, .ref 141]) (M' := M) okX9_laysTies rfl ?_
    refine go_ck okX9_laysTies rfl (gOb_c rfl) ?_
    refine go_rn 1 (pc' := 197) (L' := [some (.ref 141), some (.int x1), none]) (S' := [.ref 141, .int (M.1 141 28), .ref 141]) (M' := M) okX9_laysTies rfl ?_
    refine go_ck okX9_laysTies rfl (gOb_c rfl) ?_
    refine go_rn 1 (pc' := 201) (L' := [some (.ref 141), some (.int x1), none]) (S' := [.ref 141, .int (M.1 141 29), .int (M.1 141 28), .ref 141]) (M' := M) okX9_laysTies rfl ?_
    refine go_ck okX9_laysTies rfl (gOb_c rfl) ?_
    refine go_rn 3 (pc' := 209) (L' := [some (.ref 141), some (.int x1), none]) (S' := [.int x1, .int (100000 : Int32), .int (9 : Int32), .int (M.1 141 30), .int (M.1 141 29), .int (M.1 141 28), .ref 141]) (M' := M) okX9_laysTies rfl ?_
    obtain ⟨r1, e2, h⟩ := gB0_ok h
    refine go_call1 ocX9_laysTies rfl rfl (gOb_c rfl) rfl (SX9_isHolding (M.1 141 28) (M.1 141 29) (M.1 141 30) (9 : Int32) (100000 : Int32) x1 M e2) (Nat.lt_of_lt_of_le (by decide) hd) ?_
    refine go_br okX9_laysTies rfl (fun hp => ?_) (fun hp => ?_)
    · have h := gq_pos hp h
      exact go_vret (reX9_laysTies _ (by decide)) rfl (k0 M h)
    · have h := gq_neg hp h
      refine go_rn 2 (pc' := 217) (L' := [some (.ref 141), some (.int x1), none]) (S' := [.ref 141, .ref 141]) (M' := M) okX9_laysTies rfl ?_
      refine go_ck okX9_laysTies rfl (gOb_c rfl) ?_
      refine go_rn 1 (pc' := 221) (L' := [some (.ref 141), some (.int x1), none]) (S' := [.ref 141, .int (M.1 141 28), .ref 141]) (M' := M) okX9_laysTies rfl ?_
      refine go_ck okX9_laysTies rfl (gOb_c rfl) ?_
      refine go_rn 1 (pc' := 225) (L' := [some (.ref 141), some (.int x1), none]) (S' := [.int x1, .int (M.1 141 29), .int (M.1 141 28), .ref 141]) (M' := M) okX9_laysTies rfl ?_
      obtain ⟨M3, e4, h⟩ := gB0_ok h
      refine go_call1 ocX9_laysTies rfl rfl (gOb_c rfl) rfl (SX9_tiesTwo (M.1 141 28) (M.1 141 29) x1 M e4) (Nat.lt_of_lt_of_le (by decide) hd) ?_
      exact go_vret (reX9_laysTies _ (by decide)) rfl (k0 M3 h)
def fX9_laysTies_76 (x1 : Int32) (x2 : Int32) (M : gMem) : Option (Sum (Int32 × gMem) (gMem)) :=
  if gIx 1 148 (8 : Int32) = true then if (M.1 148 (Int32.toNatClampNeg (8 : Int32))) ≤ x2 then gEx (fX9_laysTies_183 x1 M) else if (M.1 141 32) = 0 then gEx (fX9_laysTies_183 x1 M) else if gIx 1 153 (((4 : Int32) * x2) + (3 : Int32)) = true then if (M.1 153 (Int32.toNatClampNeg (((4 : Int32) * x2) + (3 : Int32)))) ≤ 0 then some (.inl ((x2 + 1), M)) else if gIx 1 153 ((4 : Int32) * x2) = true then if gIx 1 153 (((4 : Int32) * x2) + (1 : Int32)) = true then if gIx 1 153 (((4 : Int32) * x2) + (2 : Int32)) = true then if gIx 1 153 (((4 : Int32) * x2) + (3 : Int32)) = true then gB0 (fX9_isHolding (M.1 153 (Int32.toNatClampNeg ((4 : Int32) * x2))) (M.1 153 (Int32.toNatClampNeg (((4 : Int32) * x2) + (1 : Int32)))) (M.1 153 (Int32.toNatClampNeg (((4 : Int32) * x2) + (2 : Int32)))) (M.1 153 (Int32.toNatClampNeg (((4 : Int32) * x2) + (3 : Int32)))) x2 x1 M) (fun r7 => if r7 = 0 then some (.inl ((x2 + 1), M)) else if gIx 1 153 ((4 : Int32) * x2) = true then if gIx 1 153 (((4 : Int32) * x2) + (1 : Int32)) = true then gB0 (fX9_tiesTwo (M.1 153 (Int32.toNatClampNeg ((4 : Int32) * x2))) (M.1 153 (Int32.toNatClampNeg (((4 : Int32) * x2) + (1 : Int32)))) x1 M) (fun M11 => some (.inl ((x2 + 1), M11))) else none else none) else none else none else none else none else none else none
set_option maxRecDepth 100000 in
theorem CX9_laysTies_76 {G : gG} {d : Nat} {Z : Option Value → gMem → Prop} (hd : 3 ≤ d) (x1 : Int32) (x2 : Int32) (M : gMem) (P : Sum (Int32 × gMem) (gMem) → Prop) (k0 : ∀ (N : gMem), P (.inr N) → Z none N) (k1 : ∀ (x2 : Int32) (M : gMem), P (.inl (x2, M)) → gGo G YX9_laysTies d Z 76 [some (.ref 141), some (.int x1), some (.int x2)] [] M) (h : gOKq (fX9_laysTies_76 x1 x2 M) P) : gGo G YX9_laysTies d Z 76 [some (.ref 141), some (.int x1), some (.int x2)] [] M := by
  unfold fX9_laysTies_76 at h
  refine go_rn 2 (pc' := 78) (L' := [some (.ref 141), some (.int x1), some (.int x2)]) (S' := [.ref 141, .int x2]) (M' := M) okX9_laysTies rfl ?_
  refine go_ck okX9_laysTies rfl (gOb_c rfl) ?_
  refine go_rn 1 (pc' := 83) (L' := [some (.ref 141), some (.int x1), some (.int x2)]) (S' := [.int (8 : Int32), .ref 148, .int x2]) (M' := M) okX9_laysTies rfl ?_
  obtain ⟨c1, h⟩ := gq_if h
  refine go_ck okX9_laysTies rfl c1 ?_
  refine go_br okX9_laysTies rfl (fun hp => ?_) (fun hp => ?_)
  · have h := gq_pos hp h
    exact go_wk (CX9_laysTies_183 hd x1 M (fun q => P (.inr q)) k0 (gEx_ok h)) ⟨rfl, rfl, True.intro⟩
  · have h := gq_neg hp h
    refine go_rn 1 (pc' := 88) (L' := [some (.ref 141), some (.int x1), some (.int x2)]) (S' := [.ref 141]) (M' := M) okX9_laysTies rfl ?_
    refine go_ck okX9_laysTies rfl (gOb_c rfl) ?_
    refine go_br okX9_laysTies rfl (fun hp => ?_) (fun hp => ?_)
    · have h := gq_pos hp h
      exact go_wk (CX9_laysTies_183 hd x1 M (fun q => P (.inr q)) k0 (gEx_ok h)) ⟨rfl, rfl, True.intro⟩
    · have h := gq_neg hp h
      refine go_rn 1 (pc' := 95) (L' := [some (.ref 141), some (.int x1), some (.int x2)]) (S' := [.ref 141]) (M' := M) okX9_laysTies rfl ?_
      refine go_ck okX9_laysTies rfl (gOb_c rfl) ?_
      refine go_rn 5 (pc' := 103) (L' := [some (.ref 141), some (.int x1), some (.int x2)]) (S' := [.int (((4 : Int32) * x2) + (3 : Int32)), .ref 153]) (M' := M) okX9_laysTies rfl ?_
      obtain ⟨c2, h⟩ := gq_if h
      refine go_ck okX9_laysTies rfl c2 ?_
      refine go_br okX9_laysTies rfl (fun hp => ?_) (fun hp => ?_)
      · have h := gq_pos hp h
        refine go_rn 2 (pc' := 76) (L' := [some (.ref 141), some (.int x1), some (.int (x2 + 1))]) (S' := []) (M' := M) okX9_laysTies rfl ?_
        exact go_wk (k1 ((x2 + 1)) M h) ⟨rfl, rfl, rfl, True.intro⟩
      · have h := gq_neg hp h
        refine go_rn 2 (pc' := 109) (L' := [some (.ref 141), some (.int x1), some (.int x2)]) (S' := [.ref 141, .ref 141]) (M' := M) okX9_laysTies rfl ?_
        refine go_ck okX9_laysTies rfl (gOb_c rfl) ?_
        refine go_rn 3 (pc' := 115) (L' := [some (.ref 141), some (.int x1), some (.int x2)]) (S' := [.int ((4 : Int32) * x2), .ref 153, .ref 141]) (M' := M) okX9_laysTies rfl ?_
        obtain ⟨c3, h⟩ := gq_if h
        refine go_ck okX9_laysTies rfl c3 ?_
        refine go_rn 1 (pc' := 117) (L' := [some (.ref 141), some (.int x1), some (.int x2)]) (S' := [.ref 141, .int (M.1 153 (Int32.toNatClampNeg ((4 : Int32) * x2))), .ref 141]) (M' := M) okX9_laysTies rfl ?_
        refine go_ck okX9_laysTies rfl (gOb_c rfl) ?_
        refine go_rn 5 (pc' := 125) (L' := [some (.ref 141), some (.int x1), some (.int x2)]) (S' := [.int (((4 : Int32) * x2) + (1 : Int32)), .ref 153, .int (M.1 153 (Int32.toNatClampNeg ((4 : Int32) * x2))), .ref 141]) (M' := M) okX9_laysTies rfl ?_
        obtain ⟨c4, h⟩ := gq_if h
        refine go_ck okX9_laysTies rfl c4 ?_
        refine go_rn 1 (pc' := 127) (L' := [some (.ref 141), some (.int x1), some (.int x2)]) (S' := [.ref 141, .int (M.1 153 (Int32.toNatClampNeg (((4 : Int32) * x2) + (1 : Int32)))), .int (M.1 153 (Int32.toNatClampNeg ((4 : Int32) * x2))), .ref 141]) (M' := M) okX9_laysTies rfl ?_
        refine go_ck okX9_laysTies rfl (gOb_c rfl) ?_
        refine go_rn 5 (pc' := 135) (L' := [some (.ref 141), some (.int x1), some (.int x2)]) (S' := [.int (((4 : Int32) * x2) + (2 : Int32)), .ref 153, .int (M.1 153 (Int32.toNatClampNeg (((4 : Int32) * x2) + (1 : Int32)))), .int (M.1 153 (Int32.toNatClampNeg ((4 : Int32) * x2))), .ref 141]) (M' := M) okX9_laysTies rfl ?_
        obtain ⟨c5, h⟩ := gq_if h
        refine go_ck okX9_laysTies rfl c5 ?_
        refine go_rn 1 (pc' := 137) (L' := [some (.ref 141), some (.int x1), some (.int x2)]) (S' := [.ref 141, .int (M.1 153 (Int32.toNatClampNeg (((4 : Int32) * x2) + (2 : Int32)))), .int (M.1 153 (Int32.toNatClampNeg (((4 : Int32) * x2) + (1 : Int32)))), .int (M.1 153 (Int32.toNatClampNeg ((4 : Int32) * x2))), .ref 141]) (M' := M) okX9_laysTies rfl ?_
        refine go_ck okX9_laysTies rfl (gOb_c rfl) ?_
        refine go_rn 5 (pc' := 145) (L' := [some (.ref 141), some (.int x1), some (.int x2)]) (S' := [.int (((4 : Int32) * x2) + (3 : Int32)), .ref 153, .int (M.1 153 (Int32.toNatClampNeg (((4 : Int32) * x2) + (2 : Int32)))), .int (M.1 153 (Int32.toNatClampNeg (((4 : Int32) * x2) + (1 : Int32)))), .int (M.1 153 (Int32.toNatClampNeg ((4 : Int32) * x2))), .ref 141]) (M' := M) okX9_laysTies rfl ?_
        obtain ⟨c6, h⟩ := gq_if h
        refine go_ck okX9_laysTies rfl c6 ?_
        refine go_rn 2 (pc' := 148) (L' := [some (.ref 141), some (.int x1), some (.int x2)]) (S' := [.int x1, .int x2, .int (M.1 153 (Int32.toNatClampNeg (((4 : Int32) * x2) + (3 : Int32)))), .int (M.1 153 (Int32.toNatClampNeg (((4 : Int32) * x2) + (2 : Int32)))), .int (M.1 153 (Int32.toNatClampNeg (((4 : Int32) * x2) + (1 : Int32)))), .int (M.1 153 (Int32.toNatClampNeg ((4 : Int32) * x2))), .ref 141]) (M' := M) okX9_laysTies rfl ?_
        obtain ⟨r7, e8, h⟩ := gB0_ok h
        refine go_call1 ocX9_laysTies rfl rfl (gOb_c rfl) rfl (SX9_isHolding (M.1 153 (Int32.toNatClampNeg ((4 : Int32) * x2))) (M.1 153 (Int32.toNatClampNeg (((4 : Int32) * x2) + (1 : Int32)))) (M.1 153 (Int32.toNatClampNeg (((4 : Int32) * x2) + (2 : Int32)))) (M.1 153 (Int32.toNatClampNeg (((4 : Int32) * x2) + (3 : Int32)))) x2 x1 M e8) (Nat.lt_of_lt_of_le (by decide) hd) ?_
        refine go_br okX9_laysTies rfl (fun hp => ?_) (fun hp => ?_)
        · have h := gq_pos hp h
          refine go_rn 2 (pc' := 76) (L' := [some (.ref 141), some (.int x1), some (.int (x2 + 1))]) (S' := []) (M' := M) okX9_laysTies rfl ?_
          exact go_wk (k1 ((x2 + 1)) M h) ⟨rfl, rfl, rfl, True.intro⟩
        · have h := gq_neg hp h
          refine go_rn 2 (pc' := 156) (L' := [some (.ref 141), some (.int x1), some (.int x2)]) (S' := [.ref 141, .ref 141]) (M' := M) okX9_laysTies rfl ?_
          refine go_ck okX9_laysTies rfl (gOb_c rfl) ?_
          refine go_rn 3 (pc' := 162) (L' := [some (.ref 141), some (.int x1), some (.int x2)]) (S' := [.int ((4 : Int32) * x2), .ref 153, .ref 141]) (M' := M) okX9_laysTies rfl ?_
          obtain ⟨c9, h⟩ := gq_if h
          refine go_ck okX9_laysTies rfl c9 ?_
          refine go_rn 1 (pc' := 164) (L' := [some (.ref 141), some (.int x1), some (.int x2)]) (S' := [.ref 141, .int (M.1 153 (Int32.toNatClampNeg ((4 : Int32) * x2))), .ref 141]) (M' := M) okX9_laysTies rfl ?_
          refine go_ck okX9_laysTies rfl (gOb_c rfl) ?_
          refine go_rn 5 (pc' := 172) (L' := [some (.ref 141), some (.int x1), some (.int x2)]) (S' := [.int (((4 : Int32) * x2) + (1 : Int32)), .ref 153, .int (M.1 153 (Int32.toNatClampNeg ((4 : Int32) * x2))), .ref 141]) (M' := M) okX9_laysTies rfl ?_
          obtain ⟨c10, h⟩ := gq_if h
          refine go_ck okX9_laysTies rfl c10 ?_
          refine go_rn 1 (pc' := 174) (L' := [some (.ref 141), some (.int x1), some (.int x2)]) (S' := [.int x1, .int (M.1 153 (Int32.toNatClampNeg (((4 : Int32) * x2) + (1 : Int32)))), .int (M.1 153 (Int32.toNatClampNeg ((4 : Int32) * x2))), .ref 141]) (M' := M) okX9_laysTies rfl ?_
          obtain ⟨M11, e12, h⟩ := gB0_ok h
          refine go_call1 ocX9_laysTies rfl rfl (gOb_c rfl) rfl (SX9_tiesTwo (M.1 153 (Int32.toNatClampNeg ((4 : Int32) * x2))) (M.1 153 (Int32.toNatClampNeg (((4 : Int32) * x2) + (1 : Int32)))) x1 M e12) (Nat.lt_of_lt_of_le (by decide) hd) ?_
          refine go_rn 2 (pc' := 76) (L' := [some (.ref 141), some (.int x1), some (.int (x2 + 1))]) (S' := []) (M' := M11) okX9_laysTies rfl ?_
          exact go_wk (k1 ((x2 + 1)) M11 h) ⟨rfl, rfl, rfl, True.intro⟩
def fX9_laysTies_76h (x1 : Int32) (x2 : Int32) (M : gMem) : Option (gMem) :=
  gLp (fun s : Int32 × gMem => fX9_laysTies_76 x1 (s.1) s.2) gFu (x2, M)
set_option maxRecDepth 100000 in
theorem CX9_laysTies_76h {G : gG} {d : Nat} {Z : Option Value → gMem → Prop} (hd : 3 ≤ d) (x1 : Int32) (x2 : Int32) (M : gMem) (P : gMem → Prop) (k0 : ∀ (N : gMem), P N → Z none N) (h : gOKq (fX9_laysTies_76h x1 x2 M) P) : gGo G YX9_laysTies d Z 76 [some (.ref 141), some (.int x1), some (.int x2)] [] M :=
  gLp_go (K := fun s : Int32 × gMem => gGo G YX9_laysTies d Z 76 [some (.ref 141), some (.int x1), some (.int s.1)] [] s.2) (P := P) (fun s hs => CX9_laysTies_76 hd (x1) (s.1) (s.2) (Sum.elim (fun s : Int32 × gMem => gGo G YX9_laysTies d Z 76 [some (.ref 141), some (.int x1), some (.int s.1)] [] s.2) P) k0 (fun x2 M hh => hh) hs) gFu (x2, M) h
def fX9_laysTies_28 (x1 : Int32) (x2 : Int32) (M : gMem) : Option (Sum (Int32 × gMem) (gMem)) :=
  gB0 (fX9_joins M) (fun r1 => if r1 ≤ x2 then gEx (fX9_laysTies_76h x1 (0 : Int32) M) else gB0 (fX9_isTold x2 x1 M) (fun r3 => if r3 = 0 then some (.inl ((x2 + 1), M)) else if gIx 1 150 ((3 : Int32) * x2) = true then if gIx 1 150 (((3 : Int32) * x2) + (1 : Int32)) = true then gB0 (fX9_tiesTwo (M.1 150 (Int32.toNatClampNeg ((3 : Int32) * x2))) (M.1 150 (Int32.toNatClampNeg (((3 : Int32) * x2) + (1 : Int32)))) x1 M) (fun M7 => some (.inl ((x2 + 1), M7))) else none else none))
set_option maxRecDepth 100000 in
theorem CX9_laysTies_28 {G : gG} {d : Nat} {Z : Option Value → gMem → Prop} (hd : 3 ≤ d) (x1 : Int32) (x2 : Int32) (M : gMem) (P : Sum (Int32 × gMem) (gMem) → Prop) (k0 : ∀ (N : gMem), P (.inr N) → Z none N) (k1 : ∀ (x2 : Int32) (M : gMem), P (.inl (x2, M)) → gGo G YX9_laysTies d Z 28 [some (.ref 141), some (.int x1), some (.int x2)] [] M) (h : gOKq (fX9_laysTies_28 x1 x2 M) P) : gGo G YX9_laysTies d Z 28 [some (.ref 141), some (.int x1), some (.int x2)] [] M := by
  unfold fX9_laysTies_28 at h
  refine go_rn 2 (pc' := 30) (L' := [some (.ref 141), some (.int x1), some (.int x2)]) (S' := [.ref 141, .int x2]) (M' := M) okX9_laysTies rfl ?_
  obtain ⟨r1, e2, h⟩ := gB0_ok h
  refine go_call1 ocX9_laysTies rfl rfl (gOb_c rfl) rfl (SX9_joins M e2) (Nat.lt_of_lt_of_le (by decide) hd) ?_
  refine go_br okX9_laysTies rfl (fun hp => ?_) (fun hp => ?_)
  · have h := gq_pos hp h
    refine go_rn 2 (pc' := 76) (L' := [some (.ref 141), some (.int x1), some (.int (0 : Int32))]) (S' := []) (M' := M) okX9_laysTies rfl ?_
    exact go_wk (CX9_laysTies_76h hd x1 (0 : Int32) M (fun q => P (.inr q)) k0 (gEx_ok h)) ⟨rfl, rfl, rfl, True.intro⟩
  · have h := gq_neg hp h
    refine go_rn 3 (pc' := 39) (L' := [some (.ref 141), some (.int x1), some (.int x2)]) (S' := [.int x1, .int x2, .ref 141]) (M' := M) okX9_laysTies rfl ?_
    obtain ⟨r3, e4, h⟩ := gB0_ok h
    refine go_call1 ocX9_laysTies rfl rfl (gOb_c rfl) rfl (SX9_isTold x2 x1 M e4) (Nat.lt_of_lt_of_le (by decide) hd) ?_
    refine go_br okX9_laysTies rfl (fun hp => ?_) (fun hp => ?_)
    · have h := gq_pos hp h
      refine go_rn 2 (pc' := 28) (L' := [some (.ref 141), some (.int x1), some (.int (x2 + 1))]) (S' := []) (M' := M) okX9_laysTies rfl ?_
      exact go_wk (k1 ((x2 + 1)) M h) ⟨rfl, rfl, rfl, True.intro⟩
    · have h := gq_neg hp h
      refine go_rn 2 (pc' := 47) (L' := [some (.ref 141), some (.int x1), some (.int x2)]) (S' := [.ref 141, .ref 141]) (M' := M) okX9_laysTies rfl ?_
      refine go_ck okX9_laysTies rfl (gOb_c rfl) ?_
      refine go_rn 3 (pc' := 53) (L' := [some (.ref 141), some (.int x1), some (.int x2)]) (S' := [.int ((3 : Int32) * x2), .ref 150, .ref 141]) (M' := M) okX9_laysTies rfl ?_
      obtain ⟨c5, h⟩ := gq_if h
      refine go_ck okX9_laysTies rfl c5 ?_
      refine go_rn 1 (pc' := 55) (L' := [some (.ref 141), some (.int x1), some (.int x2)]) (S' := [.ref 141, .int (M.1 150 (Int32.toNatClampNeg ((3 : Int32) * x2))), .ref 141]) (M' := M) okX9_laysTies rfl ?_
      refine go_ck okX9_laysTies rfl (gOb_c rfl) ?_
      refine go_rn 5 (pc' := 63) (L' := [some (.ref 141), some (.int x1), some (.int x2)]) (S' := [.int (((3 : Int32) * x2) + (1 : Int32)), .ref 150, .int (M.1 150 (Int32.toNatClampNeg ((3 : Int32) * x2))), .ref 141]) (M' := M) okX9_laysTies rfl ?_
      obtain ⟨c6, h⟩ := gq_if h
      refine go_ck okX9_laysTies rfl c6 ?_
      refine go_rn 1 (pc' := 65) (L' := [some (.ref 141), some (.int x1), some (.int x2)]) (S' := [.int x1, .int (M.1 150 (Int32.toNatClampNeg (((3 : Int32) * x2) + (1 : Int32)))), .int (M.1 150 (Int32.toNatClampNeg ((3 : Int32) * x2))), .ref 141]) (M' := M) okX9_laysTies rfl ?_
      obtain ⟨M7, e8, h⟩ := gB0_ok h
      refine go_call1 ocX9_laysTies rfl rfl (gOb_c rfl) rfl (SX9_tiesTwo (M.1 150 (Int32.toNatClampNeg ((3 : Int32) * x2))) (M.1 150 (Int32.toNatClampNeg (((3 : Int32) * x2) + (1 : Int32)))) x1 M e8) (Nat.lt_of_lt_of_le (by decide) hd) ?_
      refine go_rn 2 (pc' := 28) (L' := [some (.ref 141), some (.int x1), some (.int (x2 + 1))]) (S' := []) (M' := M7) okX9_laysTies rfl ?_
      exact go_wk (k1 ((x2 + 1)) M7 h) ⟨rfl, rfl, rfl, True.intro⟩
def fX9_laysTies_28h (x1 : Int32) (x2 : Int32) (M : gMem) : Option (gMem) :=
  gLp (fun s : Int32 × gMem => fX9_laysTies_28 x1 (s.1) s.2) gFu (x2, M)
set_option maxRecDepth 100000 in
theorem CX9_laysTies_28h {G : gG} {d : Nat} {Z : Option Value → gMem → Prop} (hd : 3 ≤ d) (x1 : Int32) (x2 : Int32) (M : gMem) (P : gMem → Prop) (k0 : ∀ (N : gMem), P N → Z none N) (h : gOKq (fX9_laysTies_28h x1 x2 M) P) : gGo G YX9_laysTies d Z 28 [some (.ref 141), some (.int x1), some (.int x2)] [] M :=
  gLp_go (K := fun s : Int32 × gMem => gGo G YX9_laysTies d Z 28 [some (.ref 141), some (.int x1), some (.int s.1)] [] s.2) (P := P) (fun s hs => CX9_laysTies_28 hd (x1) (s.1) (s.2) (Sum.elim (fun s : Int32 × gMem => gGo G YX9_laysTies d Z 28 [some (.ref 141), some (.int x1), some (.int s.1)] [] s.2) P) k0 (fun x2 M hh => hh) hs) gFu (x2, M) h
def fX9_laysTies_2 (x1 : Int32) (x2 : Int32) (M : gMem) : Option (Sum (Int32 × gMem) (gMem)) :=
  if (36 : Int32) ≤ x2 then gEx (fX9_laysTies_28h x1 (0 : Int32) M) else if gIx 1 155 (((36 : Int32) * x1) + x2) = true then some (.inl ((x2 + 1), (gSI M 155 (Int32.toNatClampNeg (((36 : Int32) * x1) + x2)) (0 : Int32)))) else none
set_option maxRecDepth 100000 in
theorem CX9_laysTies_2 {G : gG} {d : Nat} {Z : Option Value → gMem → Prop} (hd : 3 ≤ d) (x1 : Int32) (x2 : Int32) (M : gMem) (P : Sum (Int32 × gMem) (gMem) → Prop) (k0 : ∀ (N : gMem), P (.inr N) → Z none N) (k1 : ∀ (x2 : Int32) (M : gMem), P (.inl (x2, M)) → gGo G YX9_laysTies d Z 2 [some (.ref 141), some (.int x1), some (.int x2)] [] M) (h : gOKq (fX9_laysTies_2 x1 x2 M) P) : gGo G YX9_laysTies d Z 2 [some (.ref 141), some (.int x1), some (.int x2)] [] M := by
  unfold fX9_laysTies_2 at h
  refine go_rn 2 (pc' := 5) (L' := [some (.ref 141), some (.int x1), some (.int x2)]) (S' := [.int (36 : Int32), .int x2]) (M' := M) okX9_laysTies rfl ?_
  refine go_br okX9_laysTies rfl (fun hp => ?_) (fun hp => ?_)
  · have h := gq_pos hp h
    refine go_rn 2 (pc' := 28) (L' := [some (.ref 141), some (.int x1), some (.int (0 : Int32))]) (S' := []) (M' := M) okX9_laysTies rfl ?_
    exact go_wk (CX9_laysTies_28h hd x1 (0 : Int32) M (fun q => P (.inr q)) k0 (gEx_ok h)) ⟨rfl, rfl, rfl, True.intro⟩
  · have h := gq_neg hp h
    refine go_rn 1 (pc' := 9) (L' := [some (.ref 141), some (.int x1), some (.int x2)]) (S' := [.ref 141]) (M' := M) okX9_laysTies rfl ?_
    refine go_ck okX9_laysTies rfl (gOb_c rfl) ?_
    refine go_rn 6 (pc' := 19) (L' := [some (.ref 141), some (.int x1), some (.int x2)]) (S' := [.int (0 : Int32), .int (((36 : Int32) * x1) + x2), .ref 155]) (M' := M) okX9_laysTies rfl ?_
    obtain ⟨c1, h⟩ := gq_if h
    refine go_ck okX9_laysTies rfl c1 ?_
    refine go_rn 2 (pc' := 2) (L' := [some (.ref 141), some (.int x1), some (.int (x2 + 1))]) (S' := []) (M' := (gSI M 155 (Int32.toNatClampNeg (((36 : Int32) * x1) + x2)) (0 : Int32))) okX9_laysTies rfl ?_
    exact go_wk (k1 ((x2 + 1)) (gSI M 155 (Int32.toNatClampNeg (((36 : Int32) * x1) + x2)) (0 : Int32)) h) ⟨rfl, rfl, rfl, True.intro⟩
def fX9_laysTies_2h (x1 : Int32) (x2 : Int32) (M : gMem) : Option (gMem) :=
  gLp (fun s : Int32 × gMem => fX9_laysTies_2 x1 (s.1) s.2) gFu (x2, M)
set_option maxRecDepth 100000 in
theorem CX9_laysTies_2h {G : gG} {d : Nat} {Z : Option Value → gMem → Prop} (hd : 3 ≤ d) (x1 : Int32) (x2 : Int32) (M : gMem) (P : gMem → Prop) (k0 : ∀ (N : gMem), P N → Z none N) (h : gOKq (fX9_laysTies_2h x1 x2 M) P) : gGo G YX9_laysTies d Z 2 [some (.ref 141), some (.int x1), some (.int x2)] [] M :=
  gLp_go (K := fun s : Int32 × gMem => gGo G YX9_laysTies d Z 2 [some (.ref 141), some (.int x1), some (.int s.1)] [] s.2) (P := P) (fun s hs => CX9_laysTies_2 hd (x1) (s.1) (s.2) (Sum.elim (fun s : Int32 × gMem => gGo G YX9_laysTies d Z 2 [some (.ref 141), some (.int x1), some (.int s.1)] [] s.2) P) k0 (fun x2 M hh => hh) hs) gFu (x2, M) h
def fX9_laysTies_0 (x1 : Int32) (M : gMem) : Option (gMem) :=
  fX9_laysTies_2h x1 (0 : Int32) M
set_option maxRecDepth 100000 in
theorem CX9_laysTies_0 {G : gG} {d : Nat} {Z : Option Value → gMem → Prop} (hd : 3 ≤ d) (x1 : Int32) (M : gMem) (P : gMem → Prop) (k0 : ∀ (N : gMem), P N → Z none N) (h : gOKq (fX9_laysTies_0 x1 M) P) : gGo G YX9_laysTies d Z 0 [some (.ref 141), some (.int x1), none] [] M := by
  unfold fX9_laysTies_0 at h
  refine go_rn 2 (pc' := 2) (L' := [some (.ref 141), some (.int x1), some (.int (0 : Int32))]) (S' := []) (M' := M) okX9_laysTies rfl ?_
  exact go_wk (CX9_laysTies_2h hd x1 (0 : Int32) M P k0 h) ⟨rfl, rfl, rfl, True.intro⟩
def fX9_laysTies (a1 : Int32) (M : gMem) : Option (gMem) := fX9_laysTies_0 a1 M
theorem SX9_laysTies {G : gG} (a1 : Int32) (M : gMem) {N : gMem} (h : fX9_laysTies a1 M = some N) : gRun G YX9_laysTies 3 [.ref 141, .int a1] M (fun r' N' => r' = none ∧ N' = N) := gRun_in (by decide +kernel) rfl (fun d hd => go_wk (CX9_laysTies_0 hd a1 M (fun p => p = N) (fun N hh => ⟨rfl, hh⟩) (gq_of h)) ⟨rfl, rfl, True.intro⟩)
def fX9_firmOf_42 (x2 : Int32) (x3 : Int32) (x4 : Int32) (x5 : Int32) (x6 : Int32) (M : gMem) : Option (Sum (Int32 × Int32) (Sum (Int32 × Int32) (Sum (Int32 × Int32) (Int32)))) :=
  gB0 (fX9_people M) (fun r1 => if r1 ≤ x6 then some (.inr (.inl (x3, (x5 + 1)))) else gB0 (fX9_isBit x3 x5 M) (fun r3 => if r3 = 0 then some (.inl (x3, (x6 + 1))) else if gIx 1 155 ((((36 : Int32) * x2) + ((6 : Int32) * x5)) + x6) = true then if (M.1 155 (Int32.toNatClampNeg ((((36 : Int32) * x2) + ((6 : Int32) * x5)) + x6))) ≤ 0 then some (.inl (x3, (x6 + 1))) else some (.inl ((x3 ||| ((1 : Int32) <<< (x6 &&& 31))), (x6 + 1))) else none))
set_option maxRecDepth 100000 in
theorem CX9_firmOf_42 {G : gG} {d : Nat} {Z : Option Value → gMem → Prop} (hd : 1 ≤ d) (x2 : Int32) (x3 : Int32) (x4 : Int32) (x5 : Int32) (x6 : Int32) (M : gMem) (P : Sum (Int32 × Int32) (Sum (Int32 × Int32) (Sum (Int32 × Int32) (Int32))) → Prop) (k0 : ∀ (r : Int32), P (.inr (.inr (.inr r))) → Z (some (.int r)) M) (k1 : ∀ (x3 : Int32) (x4 : Int32), P (.inr (.inr (.inl (x3, x4)))) → gGo G YX9_firmOf d Z 18 [some (.ref 141), none, some (.int x2), some (.int x3), some (.int x4), none, none] [] M) (k2 : ∀ (x3 : Int32) (x5 : Int32), P (.inr (.inl (x3, x5))) → gGo G YX9_firmOf d Z 30 [some (.ref 141), none, some (.int x2), some (.int x3), some (.int x4), some (.int x5), none] [] M) (k3 : ∀ (x3 : Int32) (x6 : Int32), P (.inl (x3, x6)) → gGo G YX9_firmOf d Z 42 [some (.ref 141), none, some (.int x2), some (.int x3), some (.int x4), some (.int x5), some (.int x6)] [] M) (h : gOKq (fX9_firmOf_42 x2 x3 x4 x5 x6 M) P) : gGo G YX9_firmOf d Z 42 [some (.ref 141), none, some (.int x2), some (.int x3), some (.int x4), some (.int x5), some (.int x6)] [] M := by
  unfold fX9_firmOf_42 at h
  refine go_rn 2 (pc' := 45) (L' := [some (.ref 141), none, some (.int x2), some (.int x3), some (.int x4), some (.int x5), some (.int x6)]) (S' := [.ref 141, .int x6]) (M' := M) okX9_firmOf rfl ?_
  obtain ⟨r1, e2, h⟩ := gB0_ok h
  refine go_call1 ocX9_firmOf rfl rfl (gOb_c rfl) rfl (SX9_people M e2) (Nat.lt_of_lt_of_le (by decide) hd) ?_
  refine go_br okX9_firmOf rfl (fun hp => ?_) (fun hp => ?_)
  · have h := gq_pos hp h
    refine go_rn 2 (pc' := 30) (L' := [some (.ref 141), none, some (.int x2), some (.int x3), some (.int x4), some (.int (x5 + 1)), some (.int x6)]) (S' := []) (M' := M) okX9_firmOf rfl ?_
    exact go_wk (k2 (x3) ((x5 + 1)) h) ⟨rfl, rfl, rfl, rfl, rfl, True.intro⟩
  · have h := gq_neg hp h
    refine go_rn 2 (pc' := 54) (L' := [some (.ref 141), none, some (.int x2), some (.int x3), some (.int x4), some (.int x5), some (.int x6)]) (S' := [.int x5, .int x3]) (M' := M) okX9_firmOf rfl ?_
    obtain ⟨r3, e4, h⟩ := gB0_ok h
    refine go_call1 ocX9_firmOf rfl rfl rfl rfl (SX9_isBit x3 x5 M e4) (Nat.lt_of_lt_of_le (by decide) hd) ?_
    refine go_br okX9_firmOf rfl (fun hp => ?_) (fun hp => ?_)
    · have h := gq_pos hp h
      refine go_rn 2 (pc' := 42) (L' := [some (.ref 141), none, some (.int x2), some (.int x3), some (.int x4), some (.int x5), some (.int (x6 + 1))]) (S' := []) (M' := M) okX9_firmOf rfl ?_
      exact go_wk (k3 (x3) ((x6 + 1)) h) ⟨rfl, rfl, rfl, rfl, rfl, rfl, True.intro⟩
    · have h := gq_neg hp h
      refine go_rn 1 (pc' := 61) (L' := [some (.ref 141), none, some (.int x2), some (.int x3), some (.int x4), some (.int x5), some (.int x6)]) (S' := [.ref 141]) (M' := M) okX9_firmOf rfl ?_
      refine go_ck okX9_firmOf rfl (gOb_c rfl) ?_
      refine go_rn 9 (pc' := 77) (L' := [some (.ref 141), none, some (.int x2), some (.int x3), some (.int x4), some (.int x5), some (.int x6)]) (S' := [.int ((((36 : Int32) * x2) + ((6 : Int32) * x5)) + x6), .ref 155]) (M' := M) okX9_firmOf rfl ?_
      obtain ⟨c5, h⟩ := gq_if h
      refine go_ck okX9_firmOf rfl c5 ?_
      refine go_br okX9_firmOf rfl (fun hp => ?_) (fun hp => ?_)
      · have h := gq_pos hp h
        refine go_rn 2 (pc' := 42) (L' := [some (.ref 141), none, some (.int x2), some (.int x3), some (.int x4), some (.int x5), some (.int (x6 + 1))]) (S' := []) (M' := M) okX9_firmOf rfl ?_
        exact go_wk (k3 (x3) ((x6 + 1)) h) ⟨rfl, rfl, rfl, rfl, rfl, rfl, True.intro⟩
      · have h := gq_neg hp h
        refine go_rn 8 (pc' := 42) (L' := [some (.ref 141), none, some (.int x2), some (.int (x3 ||| ((1 : Int32) <<< (x6 &&& 31)))), some (.int x4), some (.int x5), some (.int (x6 + 1))]) (S' := []) (M' := M) okX9_firmOf rfl ?_
        exact go_wk (k3 ((x3 ||| ((1 : Int32) <<< (x6 &&& 31)))) ((x6 + 1)) h) ⟨rfl, rfl, rfl, rfl, rfl, rfl, True.intro⟩
def fX9_firmOf_42h (x2 : Int32) (x3 : Int32) (x4 : Int32) (x5 : Int32) (x6 : Int32) (M : gMem) : Option (Sum (Int32 × Int32) (Sum (Int32 × Int32) (Int32))) :=
  gLp (fun s : Int32 × Int32 => fX9_firmOf_42 x2 (s.1) x4 x5 (s.2) M) gFu (x3, x6)
set_option maxRecDepth 100000 in
theorem CX9_firmOf_42h {G : gG} {d : Nat} {Z : Option Value → gMem → Prop} (hd : 1 ≤ d) (x2 : Int32) (x3 : Int32) (x4 : Int32) (x5 : Int32) (x6 : Int32) (M : gMem) (P : Sum (Int32 × Int32) (Sum (Int32 × Int32) (Int32)) → Prop) (k0 : ∀ (r : Int32), P (.inr (.inr r)) → Z (some (.int r)) M) (k1 : ∀ (x3 : Int32) (x4 : Int32), P (.inr (.inl (x3, x4))) → gGo G YX9_firmOf d Z 18 [some (.ref 141), none, some (.int x2), some (.int x3), some (.int x4), none, none] [] M) (k2 : ∀ (x3 : Int32) (x5 : Int32), P (.inl (x3, x5)) → gGo G YX9_firmOf d Z 30 [some (.ref 141), none, some (.int x2), some (.int x3), some (.int x4), some (.int x5), none] [] M) (h : gOKq (fX9_firmOf_42h x2 x3 x4 x5 x6 M) P) : gGo G YX9_firmOf d Z 42 [some (.ref 141), none, some (.int x2), some (.int x3), some (.int x4), some (.int x5), some (.int x6)] [] M :=
  gLp_go (K := fun s : Int32 × Int32 => gGo G YX9_firmOf d Z 42 [some (.ref 141), none, some (.int x2), some (.int s.1), some (.int x4), some (.int x5), some (.int s.2)] [] M) (P := P) (fun s hs => CX9_firmOf_42 hd (x2) (s.1) (x4) (x5) (s.2) M (Sum.elim (fun s : Int32 × Int32 => gGo G YX9_firmOf d Z 42 [some (.ref 141), none, some (.int x2), some (.int s.1), some (.int x4), some (.int x5), some (.int s.2)] [] M) P) k0 k1 k2 (fun x3 x6 hh => hh) hs) gFu (x3, x6) h
def fX9_firmOf_30 (x2 : Int32) (x3 : Int32) (x4 : Int32) (x5 : Int32) (M : gMem) : Option (Sum (Int32 × Int32) (Sum (Int32 × Int32) (Int32))) :=
  gB0 (fX9_people M) (fun r1 => if r1 ≤ x5 then some (.inr (.inl (x3, (x4 + 1)))) else fX9_firmOf_42h x2 x3 x4 x5 (0 : Int32) M)
set_option maxRecDepth 100000 in
theorem CX9_firmOf_30 {G : gG} {d : Nat} {Z : Option Value → gMem → Prop} (hd : 1 ≤ d) (x2 : Int32) (x3 : Int32) (x4 : Int32) (x5 : Int32) (M : gMem) (P : Sum (Int32 × Int32) (Sum (Int32 × Int32) (Int32)) → Prop) (k0 : ∀ (r : Int32), P (.inr (.inr r)) → Z (some (.int r)) M) (k1 : ∀ (x3 : Int32) (x4 : Int32), P (.inr (.inl (x3, x4))) → gGo G YX9_firmOf d Z 18 [some (.ref 141), none, some (.int x2), some (.int x3), some (.int x4), none, none] [] M) (k2 : ∀ (x3 : Int32) (x5 : Int32), P (.inl (x3, x5)) → gGo G YX9_firmOf d Z 30 [some (.ref 141), none, some (.int x2), some (.int x3), some (.int x4), some (.int x5), none] [] M) (h : gOKq (fX9_firmOf_30 x2 x3 x4 x5 M) P) : gGo G YX9_firmOf d Z 30 [some (.ref 141), none, some (.int x2), some (.int x3), some (.int x4), some (.int x5), none] [] M := by
  unfold fX9_firmOf_30 at h
  refine go_rn 2 (pc' := 33) (L' := [some (.ref 141), none, some (.int x2), some (.int x3), some (.int x4), some (.int x5), none]) (S' := [.ref 141, .int x5]) (M' := M) okX9_firmOf rfl ?_
  obtain ⟨r1, e2, h⟩ := gB0_ok h
  refine go_call1 ocX9_firmOf rfl rfl (gOb_c rfl) rfl (SX9_people M e2) (Nat.lt_of_lt_of_le (by decide) hd) ?_
  refine go_br okX9_firmOf rfl (fun hp => ?_) (fun hp => ?_)
  · have h := gq_pos hp h
    refine go_rn 2 (pc' := 18) (L' := [some (.ref 141), none, some (.int x2), some (.int x3), some (.int (x4 + 1)), some (.int x5), none]) (S' := []) (M' := M) okX9_firmOf rfl ?_
    exact go_wk (k1 (x3) ((x4 + 1)) h) ⟨rfl, rfl, rfl, rfl, True.intro⟩
  · have h := gq_neg hp h
    refine go_rn 2 (pc' := 42) (L' := [some (.ref 141), none, some (.int x2), some (.int x3), some (.int x4), some (.int x5), some (.int (0 : Int32))]) (S' := []) (M' := M) okX9_firmOf rfl ?_
    exact go_wk (CX9_firmOf_42h hd x2 x3 x4 x5 (0 : Int32) M P k0 k1 k2 h) ⟨rfl, rfl, rfl, rfl, rfl, rfl, True.intro⟩
def fX9_firmOf_30h (x2 : Int32) (x3 : Int32) (x4 : Int32) (x5 : Int32) (M : gMem) : Option (Sum (Int32 × Int32) (Int32)) :=
  gLp (fun s : Int32 × Int32 => fX9_firmOf_30 x2 (s.1) x4 (s.2) M) gFu (x3, x5)
set_option maxRecDepth 100000 in
theorem CX9_firmOf_30h {G : gG} {d : Nat} {Z : Option Value → gMem → Prop} (hd : 1 ≤ d) (x2 : Int32) (x3 : Int32) (x4 : Int32) (x5 : Int32) (M : gMem) (P : Sum (Int32 × Int32) (Int32) → Prop) (k0 : ∀ (r : Int32), P (.inr r) → Z (some (.int r)) M) (k1 : ∀ (x3 : Int32) (x4 : Int32), P (.inl (x3, x4)) → gGo G YX9_firmOf d Z 18 [some (.ref 141), none, some (.int x2), some (.int x3), some (.int x4), none, none] [] M) (h : gOKq (fX9_firmOf_30h x2 x3 x4 x5 M) P) : gGo G YX9_firmOf d Z 30 [some (.ref 141), none, some (.int x2), some (.int x3), some (.int x4), some (.int x5), none] [] M :=
  gLp_go (K := fun s : Int32 × Int32 => gGo G YX9_firmOf d Z 30 [some (.ref 141), none, some (.int x2), some (.int s.1), some (.int x4), some (.int s.2), none] [] M) (P := P) (fun s hs => CX9_firmOf_30 hd (x2) (s.1) (x4) (s.2) M (Sum.elim (fun s : Int32 × Int32 => gGo G YX9_firmOf d Z 30 [some (.ref 141), none, some (.int x2), some (.int s.1), some (.int x4), some (.int s.2), none] [] M) P) k0 k1 (fun x3 x5 hh => hh) hs) gFu (x3, x5) h
def fX9_firmOf_18 (x2 : Int32) (x3 : Int32) (x4 : Int32) (M : gMem) : Option (Sum (Int32 × Int32) (Int32)) :=
  gB0 (fX9_people M) (fun r1 => if r1 ≤ x4 then some (.inr x3) else fX9_firmOf_30h x2 x3 x4 (0 : Int32) M)
set_option maxRecDepth 100000 in
theorem CX9_firmOf_18 {G : gG} {d : Nat} {Z : Option Value → gMem → Prop} (hd : 1 ≤ d) (x2 : Int32) (x3 : Int32) (x4 : Int32) (M : gMem) (P : Sum (Int32 × Int32) (Int32) → Prop) (k0 : ∀ (r : Int32), P (.inr r) → Z (some (.int r)) M) (k1 : ∀ (x3 : Int32) (x4 : Int32), P (.inl (x3, x4)) → gGo G YX9_firmOf d Z 18 [some (.ref 141), none, some (.int x2), some (.int x3), some (.int x4), none, none] [] M) (h : gOKq (fX9_firmOf_18 x2 x3 x4 M) P) : gGo G YX9_firmOf d Z 18 [some (.ref 141), none, some (.int x2), some (.int x3), some (.int x4), none, none] [] M := by
  unfold fX9_firmOf_18 at h
  refine go_rn 2 (pc' := 21) (L' := [some (.ref 141), none, some (.int x2), some (.int x3), some (.int x4), none, none]) (S' := [.ref 141, .int x4]) (M' := M) okX9_firmOf rfl ?_
  obtain ⟨r1, e2, h⟩ := gB0_ok h
  refine go_call1 ocX9_firmOf rfl rfl (gOb_c rfl) rfl (SX9_people M e2) (Nat.lt_of_lt_of_le (by decide) hd) ?_
  refine go_br okX9_firmOf rfl (fun hp => ?_) (fun hp => ?_)
  · have h := gq_pos hp h
    refine go_rn 1 (pc' := 107) (L' := [some (.ref 141), none, some (.int x2), some (.int x3), some (.int x4), none, none]) (S' := [.int x3]) (M' := M) okX9_firmOf rfl ?_
    exact go_iret (reX9_firmOf _ (by decide)) rfl (k0 x3 h)
  · have h := gq_neg hp h
    refine go_rn 2 (pc' := 30) (L' := [some (.ref 141), none, some (.int x2), some (.int x3), some (.int x4), some (.int (0 : Int32)), none]) (S' := []) (M' := M) okX9_firmOf rfl ?_
    exact go_wk (CX9_firmOf_30h hd x2 x3 x4 (0 : Int32) M P k0 k1 h) ⟨rfl, rfl, rfl, rfl, rfl, True.intro⟩
def fX9_firmOf_18h (x2 : Int32) (x3 : Int32) (x4 : Int32) (M : gMem) : Option (Int32) :=
  gLp (fun s : Int32 × Int32 => fX9_firmOf_18 x2 (s.1) (s.2) M) gFu (x3, x4)
set_option maxRecDepth 100000 in
theorem CX9_firmOf_18h {G : gG} {d : Nat} {Z : Option Value → gMem → Prop} (hd : 1 ≤ d) (x2 : Int32) (x3 : Int32) (x4 : Int32) (M : gMem) (P : Int32 → Prop) (k0 : ∀ (r : Int32), P r → Z (some (.int r)) M) (h : gOKq (fX9_firmOf_18h x2 x3 x4 M) P) : gGo G YX9_firmOf d Z 18 [some (.ref 141), none, some (.int x2), some (.int x3), some (.int x4), none, none] [] M :=
  gLp_go (K := fun s : Int32 × Int32 => gGo G YX9_firmOf d Z 18 [some (.ref 141), none, some (.int x2), some (.int s.1), some (.int s.2), none, none] [] M) (P := P) (fun s hs => CX9_firmOf_18 hd (x2) (s.1) (s.2) M (Sum.elim (fun s : Int32 × Int32 => gGo G YX9_firmOf d Z 18 [some (.ref 141), none, some (.int x2), some (.int s.1), some (.int s.2), none, none] [] M) P) k0 (fun x3 x4 hh => hh) hs) gFu (x3, x4) h
def fX9_firmOf_0 (x1 : Int32) (x2 : Int32) (M : gMem) : Option (Int32) :=
  gB0 (fX9_isOut x1 x2 M) (fun r1 => if r1 = 0 then fX9_firmOf_18h x2 ((1 : Int32) <<< (x1 &&& 31)) (0 : Int32) M else some (0 : Int32))
set_option maxRecDepth 100000 in
theorem CX9_firmOf_0 {G : gG} {d : Nat} {Z : Option Value → gMem → Prop} (hd : 1 ≤ d) (x1 : Int32) (x2 : Int32) (M : gMem) (P : Int32 → Prop) (k0 : ∀ (r : Int32), P r → Z (some (.int r)) M) (h : gOKq (fX9_firmOf_0 x1 x2 M) P) : gGo G YX9_firmOf d Z 0 [some (.ref 141), some (.int x1), some (.int x2), none, none, none, none] [] M := by
  unfold fX9_firmOf_0 at h
  refine go_rn 3 (pc' := 3) (L' := [some (.ref 141), some (.int x1), some (.int x2), none, none, none, none]) (S' := [.int x2, .int x1, .ref 141]) (M' := M) okX9_firmOf rfl ?_
  obtain ⟨r1, e2, h⟩ := gB0_ok h
  refine go_call1 ocX9_firmOf rfl rfl (gOb_c rfl) rfl (SX9_isOut x1 x2 M e2) (Nat.lt_of_lt_of_le (by decide) hd) ?_
  refine go_br okX9_firmOf rfl (fun hp => ?_) (fun hp => ?_)
  · have h := gq_pos hp h
    refine go_rn 6 (pc' := 18) (L' := [some (.ref 141), some (.int x1), some (.int x2), some (.int ((1 : Int32) <<< (x1 &&& 31))), some (.int (0 : Int32)), none, none]) (S' := []) (M' := M) okX9_firmOf rfl ?_
    exact go_wk (CX9_firmOf_18h hd x2 ((1 : Int32) <<< (x1 &&& 31)) (0 : Int32) M P k0 h) ⟨rfl, rfl, rfl, rfl, True.intro⟩
  · have h := gq_neg hp h
    refine go_rn 1 (pc' := 10) (L' := [some (.ref 141), some (.int x1), some (.int x2), none, none, none, none]) (S' := [.int (0 : Int32)]) (M' := M) okX9_firmOf rfl ?_
    exact go_iret (reX9_firmOf _ (by decide)) rfl (k0 (0 : Int32) h)
def fX9_firmOf (a1 : Int32) (a2 : Int32) (M : gMem) : Option (Int32) := fX9_firmOf_0 a1 a2 M
theorem SX9_firmOf {G : gG} (a1 : Int32) (a2 : Int32) (M : gMem) {r : Int32} (h : fX9_firmOf a1 a2 M = some r) : gRun G YX9_firmOf 1 [.ref 141, .int a1, .int a2] M (fun r' N' => r' = some (.int r) ∧ N' = M) := gRun_in (by decide +kernel) rfl (fun d hd => go_wk (CX9_firmOf_0 hd a1 a2 M (fun p => p = r) (fun r hh => ⟨congrArg (fun z => some (Value.int z)) hh, rfl⟩) (gq_of h)) ⟨rfl, rfl, rfl, True.intro⟩)
def fX9_fundsOf_5 (x1 : Int32) (x2 : Int32) (x3 : Int32) (x4 : Int32) (M : gMem) : Option (Sum (Int32 × Int32) (Int32)) :=
  gB0 (fX9_people M) (fun r1 => if r1 ≤ x4 then some (.inr x3) else gB0 (fX9_isBit x1 x4 M) (fun r3 => if r3 = 0 then some (.inl ((x3 + (0 : Int32)), (x4 + 1))) else if gIx 1 158 (((12 : Int32) * x4) + x2) = true then some (.inl ((x3 + (M.1 158 (Int32.toNatClampNeg (((12 : Int32) * x4) + x2)))), (x4 + 1))) else none))
set_option maxRecDepth 100000 in
theorem CX9_fundsOf_5 {G : gG} {d : Nat} {Z : Option Value → gMem → Prop} (hd : 1 ≤ d) (x1 : Int32) (x2 : Int32) (x3 : Int32) (x4 : Int32) (M : gMem) (P : Sum (Int32 × Int32) (Int32) → Prop) (k0 : ∀ (r : Int32), P (.inr r) → Z (some (.int r)) M) (k1 : ∀ (x3 : Int32) (x4 : Int32), P (.inl (x3, x4)) → gGo G YX9_fundsOf d Z 5 [some (.ref 141), some (.int x1), some (.int x2), some (.int x3), some (.int x4)] [] M) (h : gOKq (fX9_fundsOf_5 x1 x2 x3 x4 M) P) : gGo G YX9_fundsOf d Z 5 [some (.ref 141), some (.int x1), some (.int x2), some (.int x3), some (.int x4)] [] M := by
  unfold fX9_fundsOf_5 at h
  refine go_rn 2 (pc' := 8) (L' := [some (.ref 141), some (.int x1), some (.int x2), some (.int x3), some (.int x4)]) (S' := [.ref 141, .int x4]) (M' := M) okX9_fundsOf rfl ?_
  obtain ⟨r1, e2, h⟩ := gB0_ok h
  refine go_call1 ocX9_fundsOf rfl rfl (gOb_c rfl) rfl (SX9_people M e2) (Nat.lt_of_lt_of_le (by decide) hd) ?_
  refine go_br okX9_fundsOf rfl (fun hp => ?_) (fun hp => ?_)
  · have h := gq_pos hp h
    refine go_rn 1 (pc' := 49) (L' := [some (.ref 141), some (.int x1), some (.int x2), some (.int x3), some (.int x4)]) (S' := [.int x3]) (M' := M) okX9_fundsOf rfl ?_
    exact go_iret (reX9_fundsOf _ (by decide)) rfl (k0 x3 h)
  · have h := gq_neg hp h
    refine go_rn 3 (pc' := 18) (L' := [some (.ref 141), some (.int x1), some (.int x2), some (.int x3), some (.int x4)]) (S' := [.int x4, .int x1, .int x3]) (M' := M) okX9_fundsOf rfl ?_
    obtain ⟨r3, e4, h⟩ := gB0_ok h
    refine go_call1 ocX9_fundsOf rfl rfl rfl rfl (SX9_isBit x1 x4 M e4) (Nat.lt_of_lt_of_le (by decide) hd) ?_
    refine go_br okX9_fundsOf rfl (fun hp => ?_) (fun hp => ?_)
    · have h := gq_pos hp h
      refine go_rn 5 (pc' := 5) (L' := [some (.ref 141), some (.int x1), some (.int x2), some (.int (x3 + (0 : Int32))), some (.int (x4 + 1))]) (S' := []) (M' := M) okX9_fundsOf rfl ?_
      exact go_wk (k1 ((x3 + (0 : Int32))) ((x4 + 1)) h) ⟨rfl, rfl, rfl, rfl, rfl, True.intro⟩
    · have h := gq_neg hp h
      refine go_rn 1 (pc' := 25) (L' := [some (.ref 141), some (.int x1), some (.int x2), some (.int x3), some (.int x4)]) (S' := [.ref 141, .int x3]) (M' := M) okX9_fundsOf rfl ?_
      refine go_ck okX9_fundsOf rfl (gOb_c rfl) ?_
      refine go_rn 5 (pc' := 35) (L' := [some (.ref 141), some (.int x1), some (.int x2), some (.int x3), some (.int x4)]) (S' := [.int (((12 : Int32) * x4) + x2), .ref 158, .int x3]) (M' := M) okX9_fundsOf rfl ?_
      obtain ⟨c5, h⟩ := gq_if h
      refine go_ck okX9_fundsOf rfl c5 ?_
      refine go_rn 5 (pc' := 5) (L' := [some (.ref 141), some (.int x1), some (.int x2), some (.int (x3 + (M.1 158 (Int32.toNatClampNeg (((12 : Int32) * x4) + x2))))), some (.int (x4 + 1))]) (S' := []) (M' := M) okX9_fundsOf rfl ?_
      exact go_wk (k1 ((x3 + (M.1 158 (Int32.toNatClampNeg (((12 : Int32) * x4) + x2))))) ((x4 + 1)) h) ⟨rfl, rfl, rfl, rfl, rfl, True.intro⟩
def fX9_fundsOf_5h (x1 : Int32) (x2 : Int32) (x3 : Int32) (x4 : Int32) (M : gMem) : Option (Int32) :=
  gLp (fun s : Int32 × Int32 => fX9_fundsOf_5 x1 x2 (s.1) (s.2) M) gFu (x3, x4)
set_option maxRecDepth 100000 in
theorem CX9_fundsOf_5h {G : gG} {d : Nat} {Z : Option Value → gMem → Prop} (hd : 1 ≤ d) (x1 : Int32) (x2 : Int32) (x3 : Int32) (x4 : Int32) (M : gMem) (P : Int32 → Prop) (k0 : ∀ (r : Int32), P r → Z (some (.int r)) M) (h : gOKq (fX9_fundsOf_5h x1 x2 x3 x4 M) P) : gGo G YX9_fundsOf d Z 5 [some (.ref 141), some (.int x1), some (.int x2), some (.int x3), some (.int x4)] [] M :=
  gLp_go (K := fun s : Int32 × Int32 => gGo G YX9_fundsOf d Z 5 [some (.ref 141), some (.int x1), some (.int x2), some (.int s.1), some (.int s.2)] [] M) (P := P) (fun s hs => CX9_fundsOf_5 hd (x1) (x2) (s.1) (s.2) M (Sum.elim (fun s : Int32 × Int32 => gGo G YX9_fundsOf d Z 5 [some (.ref 141), some (.int x1), some (.int x2), some (.int s.1), some (.int s.2)] [] M) P) k0 (fun x3 x4 hh => hh) hs) gFu (x3, x4) h
def fX9_fundsOf_0 (x1 : Int32) (x2 : Int32) (M : gMem) : Option (Int32) :=
  fX9_fundsOf_5h x1 x2 (0 : Int32) (0 : Int32) M
set_option maxRecDepth 100000 in
theorem CX9_fundsOf_0 {G : gG} {d : Nat} {Z : Option Value → gMem → Prop} (hd : 1 ≤ d) (x1 : Int32) (x2 : Int32) (M : gMem) (P : Int32 → Prop) (k0 : ∀ (r : Int32), P r → Z (some (.int r)) M) (h : gOKq (fX9_fundsOf_0 x1 x2 M) P) : gGo G YX9_fundsOf d Z 0 [some (.ref 141), some (.int x1), some (.int x2), none, none] [] M := by
  unfold fX9_fundsOf_0 at h
  refine go_rn 4 (pc' := 5) (L' := [some (.ref 141), some (.int x1), some (.int x2), some (.int (0 : Int32)), some (.int (0 : Int32))]) (S' := []) (M' := M) okX9_fundsOf rfl ?_
  exact go_wk (CX9_fundsOf_5h hd x1 x2 (0 : Int32) (0 : Int32) M P k0 h) ⟨rfl, rfl, rfl, rfl, rfl, True.intro⟩
def fX9_fundsOf (a1 : Int32) (a2 : Int32) (M : gMem) : Option (Int32) := fX9_fundsOf_0 a1 a2 M
theorem SX9_fundsOf {G : gG} (a1 : Int32) (a2 : Int32) (M : gMem) {r : Int32} (h : fX9_fundsOf a1 a2 M = some r) : gRun G YX9_fundsOf 1 [.ref 141, .int a1, .int a2] M (fun r' N' => r' = some (.int r) ∧ N' = M) := gRun_in (by decide +kernel) rfl (fun d hd => go_wk (CX9_fundsOf_0 hd a1 a2 M (fun p => p = r) (fun r hh => ⟨congrArg (fun z => some (Value.int z)) hh, rfl⟩) (gq_of h)) ⟨rfl, rfl, rfl, True.intro⟩)
def fX9_isToldCold_2 (x1 : Int32) (x2 : Int32) (x3 : Int32) (M : gMem) : Option (Sum (Int32) (Int32)) :=
  if gIx 1 148 (7 : Int32) = true then if (M.1 148 (Int32.toNatClampNeg (7 : Int32))) ≤ x3 then if (M.1 141 31) = x1 then if x2 = 0 then some (.inr (1 : Int32)) else some (.inr (0 : Int32)) else some (.inr (0 : Int32)) else if gIx 1 152 ((2 : Int32) * x3) = true then if (M.1 152 (Int32.toNatClampNeg ((2 : Int32) * x3))) = x1 then if gIx 1 152 (((2 : Int32) * x3) + (1 : Int32)) = true then if (M.1 152 (Int32.toNatClampNeg (((2 : Int32) * x3) + (1 : Int32)))) = x2 then some (.inr (1 : Int32)) else some (.inl ((x3 + 1))) else none else some (.inl ((x3 + 1))) else none else none
set_option maxRecDepth 100000 in
theorem CX9_isToldCold_2 {G : gG} {d : Nat} {Z : Option Value → gMem → Prop} (hd : 0 ≤ d) (x1 : Int32) (x2 : Int32) (x3 : Int32) (M : gMem) (P : Sum (Int32) (Int32) → Prop) (k0 : ∀ (r : Int32), P (.inr r) → Z (some (.int r)) M) (k1 : ∀ (x3 : Int32), P (.inl (x3)) → gGo G YX9_isToldCold d Z 2 [some (.ref 141), some (.int x1), some (.int x2), some (.int x3)] [] M) (h : gOKq (fX9_isToldCold_2 x1 x2 x3 M) P) : gGo G YX9_isToldCold d Z 2 [some (.ref 141), some (.int x1), some (.int x2), some (.int x3)] [] M := by
  unfold fX9_isToldCold_2 at h
  refine go_rn 2 (pc' := 4) (L' := [some (.ref 141), some (.int x1), some (.int x2), some (.int x3)]) (S' := [.ref 141, .int x3]) (M' := M) okX9_isToldCold rfl ?_
  refine go_ck okX9_isToldCold rfl (gOb_c rfl) ?_
  refine go_rn 1 (pc' := 9) (L' := [some (.ref 141), some (.int x1), some (.int x2), some (.int x3)]) (S' := [.int (7 : Int32), .ref 148, .int x3]) (M' := M) okX9_isToldCold rfl ?_
  obtain ⟨c1, h⟩ := gq_if h
  refine go_ck okX9_isToldCold rfl c1 ?_
  refine go_br okX9_isToldCold rfl (fun hp => ?_) (fun hp => ?_)
  · have h := gq_pos hp h
    refine go_rn 1 (pc' := 48) (L' := [some (.ref 141), some (.int x1), some (.int x2), some (.int x3)]) (S' := [.ref 141]) (M' := M) okX9_isToldCold rfl ?_
    refine go_ck okX9_isToldCold rfl (gOb_c rfl) ?_
    refine go_rn 1 (pc' := 52) (L' := [some (.ref 141), some (.int x1), some (.int x2), some (.int x3)]) (S' := [.int x1, .int (M.1 141 31)]) (M' := M) okX9_isToldCold rfl ?_
    refine go_br okX9_isToldCold rfl (fun hp => ?_) (fun hp => ?_)
    · have h := gq_pos hp h
      refine go_rn 1 (pc' := 56) (L' := [some (.ref 141), some (.int x1), some (.int x2), some (.int x3)]) (S' := [.int x2]) (M' := M) okX9_isToldCold rfl ?_
      refine go_br okX9_isToldCold rfl (fun hp => ?_) (fun hp => ?_)
      · have h := gq_pos hp h
        refine go_rn 2 (pc' := 64) (L' := [some (.ref 141), some (.int x1), some (.int x2), some (.int x3)]) (S' := [.int (1 : Int32)]) (M' := M) okX9_isToldCold rfl ?_
        exact go_zret (reX9_isToldCold _ (by decide)) rfl (Or.inr rfl) (k0 (1 : Int32) h)
      · have h := gq_neg hp h
        refine go_rn 1 (pc' := 64) (L' := [some (.ref 141), some (.int x1), some (.int x2), some (.int x3)]) (S' := [.int (0 : Int32)]) (M' := M) okX9_isToldCold rfl ?_
        exact go_zret (reX9_isToldCold _ (by decide)) rfl (Or.inl rfl) (k0 (0 : Int32) h)
    · have h := gq_neg hp h
      refine go_rn 1 (pc' := 64) (L' := [some (.ref 141), some (.int x1), some (.int x2), some (.int x3)]) (S' := [.int (0 : Int32)]) (M' := M) okX9_isToldCold rfl ?_
      exact go_zret (reX9_isToldCold _ (by decide)) rfl (Or.inl rfl) (k0 (0 : Int32) h)
  · have h := gq_neg hp h
    refine go_rn 1 (pc' := 14) (L' := [some (.ref 141), some (.int x1), some (.int x2), some (.int x3)]) (S' := [.ref 141]) (M' := M) okX9_isToldCold rfl ?_
    refine go_ck okX9_isToldCold rfl (gOb_c rfl) ?_
    refine go_rn 3 (pc' := 20) (L' := [some (.ref 141), some (.int x1), some (.int x2), some (.int x3)]) (S' := [.int ((2 : Int32) * x3), .ref 152]) (M' := M) okX9_isToldCold rfl ?_
    obtain ⟨c2, h⟩ := gq_if h
    refine go_ck okX9_isToldCold rfl c2 ?_
    refine go_rn 1 (pc' := 22) (L' := [some (.ref 141), some (.int x1), some (.int x2), some (.int x3)]) (S' := [.int x1, .int (M.1 152 (Int32.toNatClampNeg ((2 : Int32) * x3)))]) (M' := M) okX9_isToldCold rfl ?_
    refine go_br okX9_isToldCold rfl (fun hp => ?_) (fun hp => ?_)
    · have h := gq_pos hp h
      refine go_rn 1 (pc' := 26) (L' := [some (.ref 141), some (.int x1), some (.int x2), some (.int x3)]) (S' := [.ref 141]) (M' := M) okX9_isToldCold rfl ?_
      refine go_ck okX9_isToldCold rfl (gOb_c rfl) ?_
      refine go_rn 5 (pc' := 34) (L' := [some (.ref 141), some (.int x1), some (.int x2), some (.int x3)]) (S' := [.int (((2 : Int32) * x3) + (1 : Int32)), .ref 152]) (M' := M) okX9_isToldCold rfl ?_
      obtain ⟨c3, h⟩ := gq_if h
      refine go_ck okX9_isToldCold rfl c3 ?_
      refine go_rn 1 (pc' := 36) (L' := [some (.ref 141), some (.int x1), some (.int x2), some (.int x3)]) (S' := [.int x2, .int (M.1 152 (Int32.toNatClampNeg (((2 : Int32) * x3) + (1 : Int32))))]) (M' := M) okX9_isToldCold rfl ?_
      refine go_br okX9_isToldCold rfl (fun hp => ?_) (fun hp => ?_)
      · have h := gq_pos hp h
        refine go_rn 1 (pc' := 40) (L' := [some (.ref 141), some (.int x1), some (.int x2), some (.int x3)]) (S' := [.int (1 : Int32)]) (M' := M) okX9_isToldCold rfl ?_
        exact go_zret (reX9_isToldCold _ (by decide)) rfl (Or.inr rfl) (k0 (1 : Int32) h)
      · have h := gq_neg hp h
        refine go_rn 2 (pc' := 2) (L' := [some (.ref 141), some (.int x1), some (.int x2), some (.int (x3 + 1))]) (S' := []) (M' := M) okX9_isToldCold rfl ?_
        exact go_wk (k1 ((x3 + 1)) h) ⟨rfl, rfl, rfl, rfl, True.intro⟩
    · have h := gq_neg hp h
      refine go_rn 2 (pc' := 2) (L' := [some (.ref 141), some (.int x1), some (.int x2), some (.int (x3 + 1))]) (S' := []) (M' := M) okX9_isToldCold rfl ?_
      exact go_wk (k1 ((x3 + 1)) h) ⟨rfl, rfl, rfl, rfl, True.intro⟩
def fX9_isToldCold_2h (x1 : Int32) (x2 : Int32) (x3 : Int32) (M : gMem) : Option (Int32) :=
  gLp (fun s : Int32 => fX9_isToldCold_2 x1 x2 s M) gFu (x3)
set_option maxRecDepth 100000 in
theorem CX9_isToldCold_2h {G : gG} {d : Nat} {Z : Option Value → gMem → Prop} (hd : 0 ≤ d) (x1 : Int32) (x2 : Int32) (x3 : Int32) (M : gMem) (P : Int32 → Prop) (k0 : ∀ (r : Int32), P r → Z (some (.int r)) M) (h : gOKq (fX9_isToldCold_2h x1 x2 x3 M) P) : gGo G YX9_isToldCold d Z 2 [some (.ref 141), some (.int x1), some (.int x2), some (.int x3)] [] M :=
  gLp_go (K := fun s : Int32 => gGo G YX9_isToldCold d Z 2 [some (.ref 141), some (.int x1), some (.int x2), some (.int s)] [] M) (P := P) (fun s hs => CX9_isToldCold_2 hd (x1) (x2) (s) M (Sum.elim (fun s : Int32 => gGo G YX9_isToldCold d Z 2 [some (.ref 141), some (.int x1), some (.int x2), some (.int s)] [] M) P) k0 (fun x3 hh => hh) hs) gFu (x3) h
def fX9_isToldCold_0 (x1 : Int32) (x2 : Int32) (M : gMem) : Option (Int32) :=
  fX9_isToldCold_2h x1 x2 (0 : Int32) M
set_option maxRecDepth 100000 in
theorem CX9_isToldCold_0 {G : gG} {d : Nat} {Z : Option Value → gMem → Prop} (hd : 0 ≤ d) (x1 : Int32) (x2 : Int32) (M : gMem) (P : Int32 → Prop) (k0 : ∀ (r : Int32), P r → Z (some (.int r)) M) (h : gOKq (fX9_isToldCold_0 x1 x2 M) P) : gGo G YX9_isToldCold d Z 0 [some (.ref 141), some (.int x1), some (.int x2), none] [] M := by
  unfold fX9_isToldCold_0 at h
  refine go_rn 2 (pc' := 2) (L' := [some (.ref 141), some (.int x1), some (.int x2), some (.int (0 : Int32))]) (S' := []) (M' := M) okX9_isToldCold rfl ?_
  exact go_wk (CX9_isToldCold_2h hd x1 x2 (0 : Int32) M P k0 h) ⟨rfl, rfl, rfl, rfl, True.intro⟩
def fX9_isToldCold (a1 : Int32) (a2 : Int32) (M : gMem) : Option (Int32) := fX9_isToldCold_0 a1 a2 M
theorem SX9_isToldCold {G : gG} (a1 : Int32) (a2 : Int32) (M : gMem) {r : Int32} (h : fX9_isToldCold a1 a2 M = some r) : gRun G YX9_isToldCold 0 [.ref 141, .int a1, .int a2] M (fun r' N' => r' = some (.int r) ∧ N' = M) := gRun_in (by decide +kernel) rfl (fun d hd => go_wk (CX9_isToldCold_0 hd a1 a2 M (fun p => p = r) (fun r hh => ⟨congrArg (fun z => some (Value.int z)) hh, rfl⟩) (gq_of h)) ⟨rfl, rfl, rfl, True.intro⟩)
def fX9_isCaught_2 (x1 : Int32) (x2 : Int32) (x3 : Int32) (M : gMem) : Option (Sum (Int32) (Int32)) :=
  gB0 (fX9_people M) (fun r1 => if r1 ≤ x3 then some (.inr (0 : Int32)) else if x2 ≤ 0 then some (.inl ((x3 + 1))) else if gIx 1 157 x3 = true then if (M.1 157 (Int32.toNatClampNeg x3)) = (x2 - (1 : Int32)) then if gIx 1 155 ((((36 : Int32) * (x2 - (1 : Int32))) + ((6 : Int32) * x1)) + x3) = true then if (M.1 155 (Int32.toNatClampNeg ((((36 : Int32) * (x2 - (1 : Int32))) + ((6 : Int32) * x1)) + x3))) ≤ 0 then some (.inl ((x3 + 1))) else some (.inr (1 : Int32)) else none else some (.inl ((x3 + 1))) else none)
set_option maxRecDepth 100000 in
theorem CX9_isCaught_2 {G : gG} {d : Nat} {Z : Option Value → gMem → Prop} (hd : 1 ≤ d) (x1 : Int32) (x2 : Int32) (x3 : Int32) (M : gMem) (P : Sum (Int32) (Int32) → Prop) (k0 : ∀ (r : Int32), P (.inr r) → Z (some (.int r)) M) (k1 : ∀ (x3 : Int32), P (.inl (x3)) → gGo G YX9_isCaught d Z 2 [some (.ref 141), some (.int x1), some (.int x2), some (.int x3)] [] M) (h : gOKq (fX9_isCaught_2 x1 x2 x3 M) P) : gGo G YX9_isCaught d Z 2 [some (.ref 141), some (.int x1), some (.int x2), some (.int x3)] [] M := by
  unfold fX9_isCaught_2 at h
  refine go_rn 2 (pc' := 4) (L' := [some (.ref 141), some (.int x1), some (.int x2), some (.int x3)]) (S' := [.ref 141, .int x3]) (M' := M) okX9_isCaught rfl ?_
  obtain ⟨r1, e2, h⟩ := gB0_ok h
  refine go_call1 ocX9_isCaught rfl rfl (gOb_c rfl) rfl (SX9_people M e2) (Nat.lt_of_lt_of_le (by decide) hd) ?_
  refine go_br okX9_isCaught rfl (fun hp => ?_) (fun hp => ?_)
  · have h := gq_pos hp h
    refine go_rn 1 (pc' := 56) (L' := [some (.ref 141), some (.int x1), some (.int x2), some (.int x3)]) (S' := [.int (0 : Int32)]) (M' := M) okX9_isCaught rfl ?_
    exact go_zret (reX9_isCaught _ (by decide)) rfl (Or.inl rfl) (k0 (0 : Int32) h)
  · have h := gq_neg hp h
    refine go_rn 1 (pc' := 11) (L' := [some (.ref 141), some (.int x1), some (.int x2), some (.int x3)]) (S' := [.int x2]) (M' := M) okX9_isCaught rfl ?_
    refine go_br okX9_isCaught rfl (fun hp => ?_) (fun hp => ?_)
    · have h := gq_pos hp h
      refine go_rn 2 (pc' := 2) (L' := [some (.ref 141), some (.int x1), some (.int x2), some (.int (x3 + 1))]) (S' := []) (M' := M) okX9_isCaught rfl ?_
      exact go_wk (k1 ((x3 + 1)) h) ⟨rfl, rfl, rfl, rfl, True.intro⟩
    · have h := gq_neg hp h
      refine go_rn 1 (pc' := 15) (L' := [some (.ref 141), some (.int x1), some (.int x2), some (.int x3)]) (S' := [.ref 141]) (M' := M) okX9_isCaught rfl ?_
      refine go_ck okX9_isCaught rfl (gOb_c rfl) ?_
      refine go_rn 1 (pc' := 19) (L' := [some (.ref 141), some (.int x1), some (.int x2), some (.int x3)]) (S' := [.int x3, .ref 157]) (M' := M) okX9_isCaught rfl ?_
      obtain ⟨c3, h⟩ := gq_if h
      refine go_ck okX9_isCaught rfl c3 ?_
      refine go_rn 3 (pc' := 23) (L' := [some (.ref 141), some (.int x1), some (.int x2), some (.int x3)]) (S' := [.int (x2 - (1 : Int32)), .int (M.1 157 (Int32.toNatClampNeg x3))]) (M' := M) okX9_isCaught rfl ?_
      refine go_br okX9_isCaught rfl (fun hp => ?_) (fun hp => ?_)
      · have h := gq_pos hp h
        refine go_rn 1 (pc' := 27) (L' := [some (.ref 141), some (.int x1), some (.int x2), some (.int x3)]) (S' := [.ref 141]) (M' := M) okX9_isCaught rfl ?_
        refine go_ck okX9_isCaught rfl (gOb_c rfl) ?_
        refine go_rn 11 (pc' := 43) (L' := [some (.ref 141), some (.int x1), some (.int x2), some (.int x3)]) (S' := [.int ((((36 : Int32) * (x2 - (1 : Int32))) + ((6 : Int32) * x1)) + x3), .ref 155]) (M' := M) okX9_isCaught rfl ?_
        obtain ⟨c4, h⟩ := gq_if h
        refine go_ck okX9_isCaught rfl c4 ?_
        refine go_br okX9_isCaught rfl (fun hp => ?_) (fun hp => ?_)
        · have h := gq_pos hp h
          refine go_rn 2 (pc' := 2) (L' := [some (.ref 141), some (.int x1), some (.int x2), some (.int (x3 + 1))]) (S' := []) (M' := M) okX9_isCaught rfl ?_
          exact go_wk (k1 ((x3 + 1)) h) ⟨rfl, rfl, rfl, rfl, True.intro⟩
        · have h := gq_neg hp h
          refine go_rn 1 (pc' := 48) (L' := [some (.ref 141), some (.int x1), some (.int x2), some (.int x3)]) (S' := [.int (1 : Int32)]) (M' := M) okX9_isCaught rfl ?_
          exact go_zret (reX9_isCaught _ (by decide)) rfl (Or.inr rfl) (k0 (1 : Int32) h)
      · have h := gq_neg hp h
        refine go_rn 2 (pc' := 2) (L' := [some (.ref 141), some (.int x1), some (.int x2), some (.int (x3 + 1))]) (S' := []) (M' := M) okX9_isCaught rfl ?_
        exact go_wk (k1 ((x3 + 1)) h) ⟨rfl, rfl, rfl, rfl, True.intro⟩
def fX9_isCaught_2h (x1 : Int32) (x2 : Int32) (x3 : Int32) (M : gMem) : Option (Int32) :=
  gLp (fun s : Int32 => fX9_isCaught_2 x1 x2 s M) gFu (x3)
set_option maxRecDepth 100000 in
theorem CX9_isCaught_2h {G : gG} {d : Nat} {Z : Option Value → gMem → Prop} (hd : 1 ≤ d) (x1 : Int32) (x2 : Int32) (x3 : Int32) (M : gMem) (P : Int32 → Prop) (k0 : ∀ (r : Int32), P r → Z (some (.int r)) M) (h : gOKq (fX9_isCaught_2h x1 x2 x3 M) P) : gGo G YX9_isCaught d Z 2 [some (.ref 141), some (.int x1), some (.int x2), some (.int x3)] [] M :=
  gLp_go (K := fun s : Int32 => gGo G YX9_isCaught d Z 2 [some (.ref 141), some (.int x1), some (.int x2), some (.int s)] [] M) (P := P) (fun s hs => CX9_isCaught_2 hd (x1) (x2) (s) M (Sum.elim (fun s : Int32 => gGo G YX9_isCaught d Z 2 [some (.ref 141), some (.int x1), some (.int x2), some (.int s)] [] M) P) k0 (fun x3 hh => hh) hs) gFu (x3) h
def fX9_isCaught_0 (x1 : Int32) (x2 : Int32) (M : gMem) : Option (Int32) :=
  fX9_isCaught_2h x1 x2 (0 : Int32) M
set_option maxRecDepth 100000 in
theorem CX9_isCaught_0 {G : gG} {d : Nat} {Z : Option Value → gMem → Prop} (hd : 1 ≤ d) (x1 : Int32) (x2 : Int32) (M : gMem) (P : Int32 → Prop) (k0 : ∀ (r : Int32), P r → Z (some (.int r)) M) (h : gOKq (fX9_isCaught_0 x1 x2 M) P) : gGo G YX9_isCaught d Z 0 [some (.ref 141), some (.int x1), some (.int x2), none] [] M := by
  unfold fX9_isCaught_0 at h
  refine go_rn 2 (pc' := 2) (L' := [some (.ref 141), some (.int x1), some (.int x2), some (.int (0 : Int32))]) (S' := []) (M' := M) okX9_isCaught rfl ?_
  exact go_wk (CX9_isCaught_2h hd x1 x2 (0 : Int32) M P k0 h) ⟨rfl, rfl, rfl, rfl, True.intro⟩
def fX9_isCaught (a1 : Int32) (a2 : Int32) (M : gMem) : Option (Int32) := fX9_isCaught_0 a1 a2 M
theorem SX9_isCaught {G : gG} (a1 : Int32) (a2 : Int32) (M : gMem) {r : Int32} (h : fX9_isCaught a1 a2 M = some r) : gRun G YX9_isCaught 1 [.ref 141, .int a1, .int a2] M (fun r' N' => r' = some (.int r) ∧ N' = M) := gRun_in (by decide +kernel) rfl (fun d hd => go_wk (CX9_isCaught_0 hd a1 a2 M (fun p => p = r) (fun r hh => ⟨congrArg (fun z => some (Value.int z)) hh, rfl⟩) (gq_of h)) ⟨rfl, rfl, rfl, True.intro⟩)
def fX9_year_225 (x1 : Int32) (x3 : Int32) (s0 : Int32) (M : gMem) : Option (Sum (Int32 × gMem) (gMem)) :=
  if gIx 1 158 (((12 : Int32) * x3) + x1) = true then if gIx 1 158 ((((12 : Int32) * x3) + x1) + (1 : Int32)) = true then some (.inl ((x3 + 1), (gSI M 158 (Int32.toNatClampNeg ((((12 : Int32) * x3) + x1) + (1 : Int32))) ((M.1 158 (Int32.toNatClampNeg (((12 : Int32) * x3) + x1))) + s0)))) else none else none
set_option maxRecDepth 100000 in
theorem CX9_year_225 {G : gG} {d : Nat} {Z : Option Value → gMem → Prop} (hd : 4 ≤ d) (x1 : Int32) (x3 : Int32) (s0 : Int32) (M : gMem) (P : Sum (Int32 × gMem) (gMem) → Prop) (k0 : ∀ (N : gMem), P (.inr N) → Z none N) (k1 : ∀ (x3 : Int32) (M : gMem), P (.inl (x3, M)) → gGo G YX9_year d Z 165 [some (.ref 141), some (.int x1), none, some (.int x3), none] [] M) (h : gOKq (fX9_year_225 x1 x3 s0 M) P) : gGo G YX9_year d Z 225 [some (.ref 141), some (.int x1), none, some (.int x3), none] [.int s0] M := by
  unfold fX9_year_225 at h
  refine go_rn 2 (pc' := 228) (L' := [some (.ref 141), some (.int x1), none, some (.int x3), some (.int s0)]) (S' := [.ref 141]) (M' := M) okX9_year rfl ?_
  refine go_ck okX9_year rfl (gOb_c rfl) ?_
  refine go_rn 8 (pc' := 240) (L' := [some (.ref 141), some (.int x1), none, some (.int x3), some (.int s0)]) (S' := [.ref 141, .int ((((12 : Int32) * x3) + x1) + (1 : Int32)), .ref 158]) (M' := M) okX9_year rfl ?_
  refine go_ck okX9_year rfl (gOb_c rfl) ?_
  refine go_rn 5 (pc' := 249) (L' := [some (.ref 141), some (.int x1), none, some (.int x3), some (.int s0)]) (S' := [.int (((12 : Int32) * x3) + x1), .ref 158, .int ((((12 : Int32) * x3) + x1) + (1 : Int32)), .ref 158]) (M' := M) okX9_year rfl ?_
  obtain ⟨c1, h⟩ := gq_if h
  refine go_ck okX9_year rfl c1 ?_
  refine go_rn 2 (pc' := 253) (L' := [some (.ref 141), some (.int x1), none, some (.int x3), some (.int s0)]) (S' := [.int ((M.1 158 (Int32.toNatClampNeg (((12 : Int32) * x3) + x1))) + s0), .int ((((12 : Int32) * x3) + x1) + (1 : Int32)), .ref 158]) (M' := M) okX9_year rfl ?_
  obtain ⟨c2, h⟩ := gq_if h
  refine go_ck okX9_year rfl c2 ?_
  refine go_rn 2 (pc' := 165) (L' := [some (.ref 141), some (.int x1), none, some (.int (x3 + 1)), some (.int s0)]) (S' := []) (M' := (gSI M 158 (Int32.toNatClampNeg ((((12 : Int32) * x3) + x1) + (1 : Int32))) ((M.1 158 (Int32.toNatClampNeg (((12 : Int32) * x3) + x1))) + s0))) okX9_year rfl ?_
  exact go_wk (k1 ((x3 + 1)) (gSI M 158 (Int32.toNatClampNeg ((((12 : Int32) * x3) + x1) + (1 : Int32))) ((M.1 158 (Int32.toNatClampNeg (((12 : Int32) * x3) + x1))) + s0)) h) ⟨rfl, rfl, rfl, True.intro⟩
def fX9_year_224 (x1 : Int32) (x3 : Int32) (s0 : Int32) (s1 : Int32) (M : gMem) : Option (Sum (Int32 × gMem) (gMem)) :=
  fX9_year_225 x1 x3 (s1 - s0) M
set_option maxRecDepth 100000 in
theorem CX9_year_224 {G : gG} {d : Nat} {Z : Option Value → gMem → Prop} (hd : 4 ≤ d) (x1 : Int32) (x3 : Int32) (s0 : Int32) (s1 : Int32) (M : gMem) (P : Sum (Int32 × gMem) (gMem) → Prop) (k0 : ∀ (N : gMem), P (.inr N) → Z none N) (k1 : ∀ (x3 : Int32) (M : gMem), P (.inl (x3, M)) → gGo G YX9_year d Z 165 [some (.ref 141), some (.int x1), none, some (.int x3), none] [] M) (h : gOKq (fX9_year_224 x1 x3 s0 s1 M) P) : gGo G YX9_year d Z 224 [some (.ref 141), some (.int x1), none, some (.int x3), none] [.int s0, .int s1] M := by
  unfold fX9_year_224 at h
  refine go_rn 1 (pc' := 225) (L' := [some (.ref 141), some (.int x1), none, some (.int x3), none]) (S' := [.int (s1 - s0)]) (M' := M) okX9_year rfl ?_
  exact go_wk (CX9_year_225 hd x1 x3 (s1 - s0) M P k0 k1 h) ⟨rfl, rfl, rfl, True.intro⟩
def fX9_year_165 (x1 : Int32) (x3 : Int32) (M : gMem) : Option (Sum (Int32 × gMem) (gMem)) :=
  gB0 (fX9_people M) (fun r1 => if r1 ≤ x3 then some (.inr M) else if (12 : Int32) ≤ (x1 + (1 : Int32)) then some (.inr M) else gB0 (fX9_isOut x3 x1 M) (fun r3 => if r3 = 0 then if gIx 1 149 (((3 : Int32) * x3) + (2 : Int32)) = true then if gIx 1 157 x3 = true then if (M.1 157 (Int32.toNatClampNeg x3)) = x1 then if gIx 1 148 (2 : Int32) = true then fX9_year_224 x1 x3 (M.1 148 (Int32.toNatClampNeg (2 : Int32))) (M.1 149 (Int32.toNatClampNeg (((3 : Int32) * x3) + (2 : Int32)))) M else none else fX9_year_224 x1 x3 (0 : Int32) (M.1 149 (Int32.toNatClampNeg (((3 : Int32) * x3) + (2 : Int32)))) M else none else none else fX9_year_225 x1 x3 (0 : Int32) M))
set_option maxRecDepth 100000 in
theorem CX9_year_165 {G : gG} {d : Nat} {Z : Option Value → gMem → Prop} (hd : 4 ≤ d) (x1 : Int32) (x3 : Int32) (M : gMem) (P : Sum (Int32 × gMem) (gMem) → Prop) (k0 : ∀ (N : gMem), P (.inr N) → Z none N) (k1 : ∀ (x3 : Int32) (M : gMem), P (.inl (x3, M)) → gGo G YX9_year d Z 165 [some (.ref 141), some (.int x1), none, some (.int x3), none] [] M) (h : gOKq (fX9_year_165 x1 x3 M) P) : gGo G YX9_year d Z 165 [some (.ref 141), some (.int x1), none, some (.int x3), none] [] M := by
  unfold fX9_year_165 at h
  refine go_rn 2 (pc' := 167) (L' := [some (.ref 141), some (.int x1), none, some (.int x3), none]) (S' := [.ref 141, .int x3]) (M' := M) okX9_year rfl ?_
  obtain ⟨r1, e2, h⟩ := gB0_ok h
  refine go_call1 ocX9_year rfl rfl (gOb_c rfl) rfl (SX9_people M e2) (Nat.lt_of_lt_of_le (by decide) hd) ?_
  refine go_br okX9_year rfl (fun hp => ?_) (fun hp => ?_)
  · have h := gq_pos hp h
    exact go_vret (reX9_year _ (by decide)) rfl (k0 M h)
  · have h := gq_neg hp h
    refine go_rn 4 (pc' := 178) (L' := [some (.ref 141), some (.int x1), none, some (.int x3), none]) (S' := [.int (12 : Int32), .int (x1 + (1 : Int32))]) (M' := M) okX9_year rfl ?_
    refine go_br okX9_year rfl (fun hp => ?_) (fun hp => ?_)
    · have h := gq_pos hp h
      exact go_vret (reX9_year _ (by decide)) rfl (k0 M h)
    · have h := gq_neg hp h
      refine go_rn 3 (pc' := 184) (L' := [some (.ref 141), some (.int x1), none, some (.int x3), none]) (S' := [.int x1, .int x3, .ref 141]) (M' := M) okX9_year rfl ?_
      obtain ⟨r3, e4, h⟩ := gB0_ok h
      refine go_call1 ocX9_year rfl rfl (gOb_c rfl) rfl (SX9_isOut x3 x1 M e4) (Nat.lt_of_lt_of_le (by decide) hd) ?_
      refine go_br okX9_year rfl (fun hp => ?_) (fun hp => ?_)
      · have h := gq_pos hp h
        refine go_rn 1 (pc' := 195) (L' := [some (.ref 141), some (.int x1), none, some (.int x3), none]) (S' := [.ref 141]) (M' := M) okX9_year rfl ?_
        refine go_ck okX9_year rfl (gOb_c rfl) ?_
        refine go_rn 5 (pc' := 203) (L' := [some (.ref 141), some (.int x1), none, some (.int x3), none]) (S' := [.int (((3 : Int32) * x3) + (2 : Int32)), .ref 149]) (M' := M) okX9_year rfl ?_
        obtain ⟨c5, h⟩ := gq_if h
        refine go_ck okX9_year rfl c5 ?_
        refine go_rn 1 (pc' := 205) (L' := [some (.ref 141), some (.int x1), none, some (.int x3), none]) (S' := [.ref 141, .int (M.1 149 (Int32.toNatClampNeg (((3 : Int32) * x3) + (2 : Int32))))]) (M' := M) okX9_year rfl ?_
        refine go_ck okX9_year rfl (gOb_c rfl) ?_
        refine go_rn 1 (pc' := 209) (L' := [some (.ref 141), some (.int x1), none, some (.int x3), none]) (S' := [.int x3, .ref 157, .int (M.1 149 (Int32.toNatClampNeg (((3 : Int32) * x3) + (2 : Int32))))]) (M' := M) okX9_year rfl ?_
        obtain ⟨c6, h⟩ := gq_if h
        refine go_ck okX9_year rfl c6 ?_
        refine go_rn 1 (pc' := 211) (L' := [some (.ref 141), some (.int x1), none, some (.int x3), none]) (S' := [.int x1, .int (M.1 157 (Int32.toNatClampNeg x3)), .int (M.1 149 (Int32.toNatClampNeg (((3 : Int32) * x3) + (2 : Int32))))]) (M' := M) okX9_year rfl ?_
        refine go_br okX9_year rfl (fun hp => ?_) (fun hp => ?_)
        · have h := gq_pos hp h
          refine go_rn 1 (pc' := 215) (L' := [some (.ref 141), some (.int x1), none, some (.int x3), none]) (S' := [.ref 141, .int (M.1 149 (Int32.toNatClampNeg (((3 : Int32) * x3) + (2 : Int32))))]) (M' := M) okX9_year rfl ?_
          refine go_ck okX9_year rfl (gOb_c rfl) ?_
          refine go_rn 1 (pc' := 219) (L' := [some (.ref 141), some (.int x1), none, some (.int x3), none]) (S' := [.int (2 : Int32), .ref 148, .int (M.1 149 (Int32.toNatClampNeg (((3 : Int32) * x3) + (2 : Int32))))]) (M' := M) okX9_year rfl ?_
          obtain ⟨c7, h⟩ := gq_if h
          refine go_ck okX9_year rfl c7 ?_
          refine go_rn 1 (pc' := 224) (L' := [some (.ref 141), some (.int x1), none, some (.int x3), none]) (S' := [.int (M.1 148 (Int32.toNatClampNeg (2 : Int32))), .int (M.1 149 (Int32.toNatClampNeg (((3 : Int32) * x3) + (2 : Int32))))]) (M' := M) okX9_year rfl ?_
          exact go_wk (CX9_year_224 hd x1 x3 (M.1 148 (Int32.toNatClampNeg (2 : Int32))) (M.1 149 (Int32.toNatClampNeg (((3 : Int32) * x3) + (2 : Int32)))) M P k0 k1 h) ⟨rfl, rfl, rfl, True.intro⟩
        · have h := gq_neg hp h
          refine go_rn 1 (pc' := 224) (L' := [some (.ref 141), some (.int x1), none, some (.int x3), none]) (S' := [.int (0 : Int32), .int (M.1 149 (Int32.toNatClampNeg (((3 : Int32) * x3) + (2 : Int32))))]) (M' := M) okX9_year rfl ?_
          exact go_wk (CX9_year_224 hd x1 x3 (0 : Int32) (M.1 149 (Int32.toNatClampNeg (((3 : Int32) * x3) + (2 : Int32)))) M P k0 k1 h) ⟨rfl, rfl, rfl, True.intro⟩
      · have h := gq_neg hp h
        refine go_rn 2 (pc' := 225) (L' := [some (.ref 141), some (.int x1), none, some (.int x3), none]) (S' := [.int (0 : Int32)]) (M' := M) okX9_year rfl ?_
        exact go_wk (CX9_year_225 hd x1 x3 (0 : Int32) M P k0 k1 h) ⟨rfl, rfl, rfl, True.intro⟩
def fX9_year_165h (x1 : Int32) (x3 : Int32) (M : gMem) : Option (gMem) :=
  gLp (fun s : Int32 × gMem => fX9_year_165 x1 (s.1) s.2) gFu (x3, M)
set_option maxRecDepth 100000 in
theorem CX9_year_165h {G : gG} {d : Nat} {Z : Option Value → gMem → Prop} (hd : 4 ≤ d) (x1 : Int32) (x3 : Int32) (M : gMem) (P : gMem → Prop) (k0 : ∀ (N : gMem), P N → Z none N) (h : gOKq (fX9_year_165h x1 x3 M) P) : gGo G YX9_year d Z 165 [some (.ref 141), some (.int x1), none, some (.int x3), none] [] M :=
  gLp_go (K := fun s : Int32 × gMem => gGo G YX9_year d Z 165 [some (.ref 141), some (.int x1), none, some (.int s.1), none] [] s.2) (P := P) (fun s hs => CX9_year_165 hd (x1) (s.1) (s.2) (Sum.elim (fun s : Int32 × gMem => gGo G YX9_year d Z 165 [some (.ref 141), some (.int x1), none, some (.int s.1), none] [] s.2) P) k0 (fun x3 M hh => hh) hs) gFu (x3, M) h
def fX9_year_150 (x1 : Int32) (x3 : Int32) (M : gMem) : Option (Sum (Int32 × gMem) (gMem)) :=
  if gIx 1 157 x3 = true then some (.inl ((x3 + 1), (gSI M 157 (Int32.toNatClampNeg x3) x1))) else none
set_option maxRecDepth 100000 in
theorem CX9_year_150 {G : gG} {d : Nat} {Z : Option Value → gMem → Prop} (hd : 4 ≤ d) (x1 : Int32) (x3 : Int32) (M : gMem) (P : Sum (Int32 × gMem) (gMem) → Prop) (k0 : ∀ (N : gMem), P (.inr N) → Z none N) (k1 : ∀ (x3 : Int32) (M : gMem), P (.inl (x3, M)) → gGo G YX9_year d Z 94 [some (.ref 141), some (.int x1), none, some (.int x3), none] [] M) (h : gOKq (fX9_year_150 x1 x3 M) P) : gGo G YX9_year d Z 150 [some (.ref 141), some (.int x1), none, some (.int x3), none] [] M := by
  unfold fX9_year_150 at h
  refine go_rn 1 (pc' := 151) (L' := [some (.ref 141), some (.int x1), none, some (.int x3), none]) (S' := [.ref 141]) (M' := M) okX9_year rfl ?_
  refine go_ck okX9_year rfl (gOb_c rfl) ?_
  refine go_rn 2 (pc' := 156) (L' := [some (.ref 141), some (.int x1), none, some (.int x3), none]) (S' := [.int x1, .int x3, .ref 157]) (M' := M) okX9_year rfl ?_
  obtain ⟨c1, h⟩ := gq_if h
  refine go_ck okX9_year rfl c1 ?_
  refine go_rn 2 (pc' := 94) (L' := [some (.ref 141), some (.int x1), none, some (.int (x3 + 1)), none]) (S' := []) (M' := (gSI M 157 (Int32.toNatClampNeg x3) x1)) okX9_year rfl ?_
  exact go_wk (k1 ((x3 + 1)) (gSI M 157 (Int32.toNatClampNeg x3) x1) h) ⟨rfl, rfl, rfl, True.intro⟩
def fX9_year_94 (x1 : Int32) (x3 : Int32) (M : gMem) : Option (Sum (Int32 × gMem) (gMem)) :=
  gB0 (fX9_people M) (fun r1 => if r1 ≤ x3 then gEx (fX9_year_165h x1 (0 : Int32) M) else gB0 (fX9_isOut x3 x1 M) (fun r3 => if r3 = 0 then gB0 (fX9_isBit (M.1 141 27) x3 M) (fun r5 => if r5 = 0 then if gIx 1 157 x3 = true then if (M.1 157 (Int32.toNatClampNeg x3)) = (-1 : Int32) then gB0 (fX9_isToldCold x3 x1 M) (fun r8 => if r8 = 0 then gB0 (fX9_isCaught x3 x1 M) (fun r10 => if r10 = 0 then some (.inl ((x3 + 1), M)) else fX9_year_150 x1 x3 M) else fX9_year_150 x1 x3 M) else some (.inl ((x3 + 1), M)) else none else some (.inl ((x3 + 1), M))) else some (.inl ((x3 + 1), M))))
set_option maxRecDepth 100000 in
theorem CX9_year_94 {G : gG} {d : Nat} {Z : Option Value → gMem → Prop} (hd : 4 ≤ d) (x1 : Int32) (x3 : Int32) (M : gMem) (P : Sum (Int32 × gMem) (gMem) → Prop) (k0 : ∀ (N : gMem), P (.inr N) → Z none N) (k1 : ∀ (x3 : Int32) (M : gMem), P (.inl (x3, M)) → gGo G YX9_year d Z 94 [some (.ref 141), some (.int x1), none, some (.int x3), none] [] M) (h : gOKq (fX9_year_94 x1 x3 M) P) : gGo G YX9_year d Z 94 [some (.ref 141), some (.int x1), none, some (.int x3), none] [] M := by
  unfold fX9_year_94 at h
  refine go_rn 2 (pc' := 96) (L' := [some (.ref 141), some (.int x1), none, some (.int x3), none]) (S' := [.ref 141, .int x3]) (M' := M) okX9_year rfl ?_
  obtain ⟨r1, e2, h⟩ := gB0_ok h
  refine go_call1 ocX9_year rfl rfl (gOb_c rfl) rfl (SX9_people M e2) (Nat.lt_of_lt_of_le (by decide) hd) ?_
  refine go_br okX9_year rfl (fun hp => ?_) (fun hp => ?_)
  · have h := gq_pos hp h
    refine go_rn 2 (pc' := 165) (L' := [some (.ref 141), some (.int x1), none, some (.int (0 : Int32)), none]) (S' := []) (M' := M) okX9_year rfl ?_
    exact go_wk (CX9_year_165h hd x1 (0 : Int32) M (fun q => P (.inr q)) k0 (gEx_ok h)) ⟨rfl, rfl, rfl, True.intro⟩
  · have h := gq_neg hp h
    refine go_rn 3 (pc' := 105) (L' := [some (.ref 141), some (.int x1), none, some (.int x3), none]) (S' := [.int x1, .int x3, .ref 141]) (M' := M) okX9_year rfl ?_
    obtain ⟨r3, e4, h⟩ := gB0_ok h
    refine go_call1 ocX9_year rfl rfl (gOb_c rfl) rfl (SX9_isOut x3 x1 M e4) (Nat.lt_of_lt_of_le (by decide) hd) ?_
    refine go_br okX9_year rfl (fun hp => ?_) (fun hp => ?_)
    · have h := gq_pos hp h
      refine go_rn 1 (pc' := 112) (L' := [some (.ref 141), some (.int x1), none, some (.int x3), none]) (S' := [.ref 141]) (M' := M) okX9_year rfl ?_
      refine go_ck okX9_year rfl (gOb_c rfl) ?_
      refine go_rn 1 (pc' := 116) (L' := [some (.ref 141), some (.int x1), none, some (.int x3), none]) (S' := [.int x3, .int (M.1 141 27)]) (M' := M) okX9_year rfl ?_
      obtain ⟨r5, e6, h⟩ := gB0_ok h
      refine go_call1 ocX9_year rfl rfl rfl rfl (SX9_isBit (M.1 141 27) x3 M e6) (Nat.lt_of_lt_of_le (by decide) hd) ?_
      refine go_br okX9_year rfl (fun hp => ?_) (fun hp => ?_)
      · have h := gq_pos hp h
        refine go_rn 1 (pc' := 123) (L' := [some (.ref 141), some (.int x1), none, some (.int x3), none]) (S' := [.ref 141]) (M' := M) okX9_year rfl ?_
        refine go_ck okX9_year rfl (gOb_c rfl) ?_
        refine go_rn 1 (pc' := 127) (L' := [some (.ref 141), some (.int x1), none, some (.int x3), none]) (S' := [.int x3, .ref 157]) (M' := M) okX9_year rfl ?_
        obtain ⟨c7, h⟩ := gq_if h
        refine go_ck okX9_year rfl c7 ?_
        refine go_rn 1 (pc' := 129) (L' := [some (.ref 141), some (.int x1), none, some (.int x3), none]) (S' := [.int (-1 : Int32), .int (M.1 157 (Int32.toNatClampNeg x3))]) (M' := M) okX9_year rfl ?_
        refine go_br okX9_year rfl (fun hp => ?_) (fun hp => ?_)
        · have h := gq_pos hp h
          refine go_rn 3 (pc' := 135) (L' := [some (.ref 141), some (.int x1), none, some (.int x3), none]) (S' := [.int x1, .int x3, .ref 141]) (M' := M) okX9_year rfl ?_
          obtain ⟨r8, e9, h⟩ := gB0_ok h
          refine go_call1 ocX9_year rfl rfl (gOb_c rfl) rfl (SX9_isToldCold x3 x1 M e9) (Nat.lt_of_lt_of_le (by decide) hd) ?_
          refine go_br okX9_year rfl (fun hp => ?_) (fun hp => ?_)
          · have h := gq_pos hp h
            refine go_rn 3 (pc' := 144) (L' := [some (.ref 141), some (.int x1), none, some (.int x3), none]) (S' := [.int x1, .int x3, .ref 141]) (M' := M) okX9_year rfl ?_
            obtain ⟨r10, e11, h⟩ := gB0_ok h
            refine go_call1 ocX9_year rfl rfl (gOb_c rfl) rfl (SX9_isCaught x3 x1 M e11) (Nat.lt_of_lt_of_le (by decide) hd) ?_
            refine go_br okX9_year rfl (fun hp => ?_) (fun hp => ?_)
            · have h := gq_pos hp h
              refine go_rn 2 (pc' := 94) (L' := [some (.ref 141), some (.int x1), none, some (.int (x3 + 1)), none]) (S' := []) (M' := M) okX9_year rfl ?_
              exact go_wk (k1 ((x3 + 1)) M h) ⟨rfl, rfl, rfl, True.intro⟩
            · have h := gq_neg hp h
              exact go_wk (CX9_year_150 hd x1 x3 M P k0 k1 h) ⟨rfl, rfl, rfl, True.intro⟩
          · have h := gq_neg hp h
            exact go_wk (CX9_year_150 hd x1 x3 M P k0 k1 h) ⟨rfl, rfl, rfl, True.intro⟩
        · have h := gq_neg hp h
          refine go_rn 2 (pc' := 94) (L' := [some (.ref 141), some (.int x1), none, some (.int (x3 + 1)), none]) (S' := []) (M' := M) okX9_year rfl ?_
          exact go_wk (k1 ((x3 + 1)) M h) ⟨rfl, rfl, rfl, True.intro⟩
      · have h := gq_neg hp h
        refine go_rn 2 (pc' := 94) (L' := [some (.ref 141), some (.int x1), none, some (.int (x3 + 1)), none]) (S' := []) (M' := M) okX9_year rfl ?_
        exact go_wk (k1 ((x3 + 1)) M h) ⟨rfl, rfl, rfl, True.intro⟩
    · have h := gq_neg hp h
      refine go_rn 2 (pc' := 94) (L' := [some (.ref 141), some (.int x1), none, some (.int (x3 + 1)), none]) (S' := []) (M' := M) okX9_year rfl ?_
      exact go_wk (k1 ((x3 + 1)) M h) ⟨rfl, rfl, rfl, True.intro⟩
def fX9_year_94h (x1 : Int32) (x3 : Int32) (M : gMem) : Option (gMem) :=
  gLp (fun s : Int32 × gMem => fX9_year_94 x1 (s.1) s.2) gFu (x3, M)
set_option maxRecDepth 100000 in
theorem CX9_year_94h {G : gG} {d : Nat} {Z : Option Value → gMem → Prop} (hd : 4 ≤ d) (x1 : Int32) (x3 : Int32) (M : gMem) (P : gMem → Prop) (k0 : ∀ (N : gMem), P N → Z none N) (h : gOKq (fX9_year_94h x1 x3 M) P) : gGo G YX9_year d Z 94 [some (.ref 141), some (.int x1), none, some (.int x3), none] [] M :=
  gLp_go (K := fun s : Int32 × gMem => gGo G YX9_year d Z 94 [some (.ref 141), some (.int x1), none, some (.int s.1), none] [] s.2) (P := P) (fun s hs => CX9_year_94 hd (x1) (s.1) (s.2) (Sum.elim (fun s : Int32 × gMem => gGo G YX9_year d Z 94 [some (.ref 141), some (.int x1), none, some (.int s.1), none] [] s.2) P) k0 (fun x3 M hh => hh) hs) gFu (x3, M) h
def fX9_year_92 (x1 : Int32) (M : gMem) : Option (gMem) :=
  fX9_year_94h x1 (0 : Int32) M
set_option maxRecDepth 100000 in
theorem CX9_year_92 {G : gG} {d : Nat} {Z : Option Value → gMem → Prop} (hd : 4 ≤ d) (x1 : Int32) (M : gMem) (P : gMem → Prop) (k0 : ∀ (N : gMem), P N → Z none N) (h : gOKq (fX9_year_92 x1 M) P) : gGo G YX9_year d Z 92 [some (.ref 141), some (.int x1), none, none, none] [] M := by
  unfold fX9_year_92 at h
  refine go_rn 2 (pc' := 94) (L' := [some (.ref 141), some (.int x1), none, some (.int (0 : Int32)), none]) (S' := []) (M' := M) okX9_year rfl ?_
  exact go_wk (CX9_year_94h hd x1 (0 : Int32) M P k0 h) ⟨rfl, rfl, rfl, True.intro⟩
def fX9_year_54 (x1 : Int32) (x2 : Int32) (x3 : Int32) (M : gMem) : Option (Sum (Int32 × gMem) (gMem)) :=
  gB0 (fX9_people M) (fun r1 => if r1 ≤ x3 then if x2 = 0 then gEx (fX9_year_92 x1 M) else gB0 (fX9_laysTies x1 M) (fun M3 => gEx (fX9_year_92 x1 M3)) else gB0 (fX9_isBit x2 x3 M) (fun r5 => if r5 = 0 then some (.inl ((x3 + 1), M)) else if gIx 1 156 x3 = true then some (.inl ((x3 + 1), (gSI M 156 (Int32.toNatClampNeg x3) x1))) else none))
set_option maxRecDepth 100000 in
theorem CX9_year_54 {G : gG} {d : Nat} {Z : Option Value → gMem → Prop} (hd : 4 ≤ d) (x1 : Int32) (x2 : Int32) (x3 : Int32) (M : gMem) (P : Sum (Int32 × gMem) (gMem) → Prop) (k0 : ∀ (N : gMem), P (.inr N) → Z none N) (k1 : ∀ (x3 : Int32) (M : gMem), P (.inl (x3, M)) → gGo G YX9_year d Z 54 [some (.ref 141), some (.int x1), some (.int x2), some (.int x3), none] [] M) (h : gOKq (fX9_year_54 x1 x2 x3 M) P) : gGo G YX9_year d Z 54 [some (.ref 141), some (.int x1), some (.int x2), some (.int x3), none] [] M := by
  unfold fX9_year_54 at h
  refine go_rn 2 (pc' := 56) (L' := [some (.ref 141), some (.int x1), some (.int x2), some (.int x3), none]) (S' := [.ref 141, .int x3]) (M' := M) okX9_year rfl ?_
  obtain ⟨r1, e2, h⟩ := gB0_ok h
  refine go_call1 ocX9_year rfl rfl (gOb_c rfl) rfl (SX9_people M e2) (Nat.lt_of_lt_of_le (by decide) hd) ?_
  refine go_br okX9_year rfl (fun hp => ?_) (fun hp => ?_)
  · have h := gq_pos hp h
    refine go_rn 1 (pc' := 84) (L' := [some (.ref 141), some (.int x1), some (.int x2), some (.int x3), none]) (S' := [.int x2]) (M' := M) okX9_year rfl ?_
    refine go_br okX9_year rfl (fun hp => ?_) (fun hp => ?_)
    · have h := gq_pos hp h
      exact go_wk (CX9_year_92 hd x1 M (fun q => P (.inr q)) k0 (gEx_ok h)) ⟨rfl, rfl, True.intro⟩
    · have h := gq_neg hp h
      refine go_rn 2 (pc' := 89) (L' := [some (.ref 141), some (.int x1), some (.int x2), some (.int x3), none]) (S' := [.int x1, .ref 141]) (M' := M) okX9_year rfl ?_
      obtain ⟨M3, e4, h⟩ := gB0_ok h
      refine go_call1 ocX9_year rfl rfl (gOb_c rfl) rfl (SX9_laysTies x1 M e4) (Nat.lt_of_lt_of_le (by decide) hd) ?_
      exact go_wk (CX9_year_92 hd x1 M3 (fun q => P (.inr q)) k0 (gEx_ok h)) ⟨rfl, rfl, True.intro⟩
  · have h := gq_neg hp h
    refine go_rn 2 (pc' := 64) (L' := [some (.ref 141), some (.int x1), some (.int x2), some (.int x3), none]) (S' := [.int x3, .int x2]) (M' := M) okX9_year rfl ?_
    obtain ⟨r5, e6, h⟩ := gB0_ok h
    refine go_call1 ocX9_year rfl rfl rfl rfl (SX9_isBit x2 x3 M e6) (Nat.lt_of_lt_of_le (by decide) hd) ?_
    refine go_br okX9_year rfl (fun hp => ?_) (fun hp => ?_)
    · have h := gq_pos hp h
      refine go_rn 2 (pc' := 54) (L' := [some (.ref 141), some (.int x1), some (.int x2), some (.int (x3 + 1)), none]) (S' := []) (M' := M) okX9_year rfl ?_
      exact go_wk (k1 ((x3 + 1)) M h) ⟨rfl, rfl, rfl, rfl, True.intro⟩
    · have h := gq_neg hp h
      refine go_rn 1 (pc' := 71) (L' := [some (.ref 141), some (.int x1), some (.int x2), some (.int x3), none]) (S' := [.ref 141]) (M' := M) okX9_year rfl ?_
      refine go_ck okX9_year rfl (gOb_c rfl) ?_
      refine go_rn 2 (pc' := 76) (L' := [some (.ref 141), some (.int x1), some (.int x2), some (.int x3), none]) (S' := [.int x1, .int x3, .ref 156]) (M' := M) okX9_year rfl ?_
      obtain ⟨c7, h⟩ := gq_if h
      refine go_ck okX9_year rfl c7 ?_
      refine go_rn 2 (pc' := 54) (L' := [some (.ref 141), some (.int x1), some (.int x2), some (.int (x3 + 1)), none]) (S' := []) (M' := (gSI M 156 (Int32.toNatClampNeg x3) x1)) okX9_year rfl ?_
      exact go_wk (k1 ((x3 + 1)) (gSI M 156 (Int32.toNatClampNeg x3) x1) h) ⟨rfl, rfl, rfl, rfl, True.intro⟩
def fX9_year_54h (x1 : Int32) (x2 : Int32) (x3 : Int32) (M : gMem) : Option (gMem) :=
  gLp (fun s : Int32 × gMem => fX9_year_54 x1 x2 (s.1) s.2) gFu (x3, M)
set_option maxRecDepth 100000 in
theorem CX9_year_54h {G : gG} {d : Nat} {Z : Option Value → gMem → Prop} (hd : 4 ≤ d) (x1 : Int32) (x2 : Int32) (x3 : Int32) (M : gMem) (P : gMem → Prop) (k0 : ∀ (N : gMem), P N → Z none N) (h : gOKq (fX9_year_54h x1 x2 x3 M) P) : gGo G YX9_year d Z 54 [some (.ref 141), some (.int x1), some (.int x2), some (.int x3), none] [] M :=
  gLp_go (K := fun s : Int32 × gMem => gGo G YX9_year d Z 54 [some (.ref 141), some (.int x1), some (.int x2), some (.int s.1), none] [] s.2) (P := P) (fun s hs => CX9_year_54 hd (x1) (x2) (s.1) (s.2) (Sum.elim (fun s : Int32 × gMem => gGo G YX9_year d Z 54 [some (.ref 141), some (.int x1), some (.int x2), some (.int s.1), none] [] s.2) P) k0 (fun x3 M hh => hh) hs) gFu (x3, M) h
def fX9_year_9 (x1 : Int32) (x2 : Int32) (x3 : Int32) (M : gMem) : Option (Sum (Int32 × Int32) (gMem)) :=
  gB0 (fX9_people M) (fun r1 => if r1 ≤ x3 then gEx (fX9_year_54h x1 x2 (0 : Int32) M) else gB0 (fX9_isOut x3 x1 M) (fun r3 => if r3 = 0 then gB0 (fX9_firmOf x3 x1 M) (fun r5 => gB0 (fX9_fundsOf r5 x1 M) (fun r7 => if 0 ≤ r7 then some (.inl (x2, (x3 + 1))) else some (.inl ((x2 ||| ((1 : Int32) <<< (x3 &&& 31))), (x3 + 1))))) else some (.inl (x2, (x3 + 1)))))
set_option maxRecDepth 100000 in
theorem CX9_year_9 {G : gG} {d : Nat} {Z : Option Value → gMem → Prop} (hd : 4 ≤ d) (x1 : Int32) (x2 : Int32) (x3 : Int32) (M : gMem) (P : Sum (Int32 × Int32) (gMem) → Prop) (k0 : ∀ (N : gMem), P (.inr N) → Z none N) (k1 : ∀ (x2 : Int32) (x3 : Int32), P (.inl (x2, x3)) → gGo G YX9_year d Z 9 [some (.ref 141), some (.int x1), some (.int x2), some (.int x3), none] [] M) (h : gOKq (fX9_year_9 x1 x2 x3 M) P) : gGo G YX9_year d Z 9 [some (.ref 141), some (.int x1), some (.int x2), some (.int x3), none] [] M := by
  unfold fX9_year_9 at h
  refine go_rn 2 (pc' := 11) (L' := [some (.ref 141), some (.int x1), some (.int x2), some (.int x3), none]) (S' := [.ref 141, .int x3]) (M' := M) okX9_year rfl ?_
  obtain ⟨r1, e2, h⟩ := gB0_ok h
  refine go_call1 ocX9_year rfl rfl (gOb_c rfl) rfl (SX9_people M e2) (Nat.lt_of_lt_of_le (by decide) hd) ?_
  refine go_br okX9_year rfl (fun hp => ?_) (fun hp => ?_)
  · have h := gq_pos hp h
    refine go_rn 2 (pc' := 54) (L' := [some (.ref 141), some (.int x1), some (.int x2), some (.int (0 : Int32)), none]) (S' := []) (M' := M) okX9_year rfl ?_
    exact go_wk (CX9_year_54h hd x1 x2 (0 : Int32) M (fun q => P (.inr q)) k0 (gEx_ok h)) ⟨rfl, rfl, rfl, rfl, True.intro⟩
  · have h := gq_neg hp h
    refine go_rn 3 (pc' := 20) (L' := [some (.ref 141), some (.int x1), some (.int x2), some (.int x3), none]) (S' := [.int x1, .int x3, .ref 141]) (M' := M) okX9_year rfl ?_
    obtain ⟨r3, e4, h⟩ := gB0_ok h
    refine go_call1 ocX9_year rfl rfl (gOb_c rfl) rfl (SX9_isOut x3 x1 M e4) (Nat.lt_of_lt_of_le (by decide) hd) ?_
    refine go_br okX9_year rfl (fun hp => ?_) (fun hp => ?_)
    · have h := gq_pos hp h
      refine go_rn 4 (pc' := 30) (L' := [some (.ref 141), some (.int x1), some (.int x2), some (.int x3), none]) (S' := [.int x1, .int x3, .ref 141, .ref 141]) (M' := M) okX9_year rfl ?_
      obtain ⟨r5, e6, h⟩ := gB0_ok h
      refine go_call1 ocX9_year rfl rfl (gOb_c rfl) rfl (SX9_firmOf x3 x1 M e6) (Nat.lt_of_lt_of_le (by decide) hd) ?_
      refine go_rn 1 (pc' := 34) (L' := [some (.ref 141), some (.int x1), some (.int x2), some (.int x3), none]) (S' := [.int x1, .int r5, .ref 141]) (M' := M) okX9_year rfl ?_
      obtain ⟨r7, e8, h⟩ := gB0_ok h
      refine go_call1 ocX9_year rfl rfl (gOb_c rfl) rfl (SX9_fundsOf r5 x1 M e8) (Nat.lt_of_lt_of_le (by decide) hd) ?_
      refine go_br okX9_year rfl (fun hp => ?_) (fun hp => ?_)
      · have h := gq_pos hp h
        refine go_rn 2 (pc' := 9) (L' := [some (.ref 141), some (.int x1), some (.int x2), some (.int (x3 + 1)), none]) (S' := []) (M' := M) okX9_year rfl ?_
        exact go_wk (k1 (x2) ((x3 + 1)) h) ⟨rfl, rfl, rfl, rfl, True.intro⟩
      · have h := gq_neg hp h
        refine go_rn 8 (pc' := 9) (L' := [some (.ref 141), some (.int x1), some (.int (x2 ||| ((1 : Int32) <<< (x3 &&& 31)))), some (.int (x3 + 1)), none]) (S' := []) (M' := M) okX9_year rfl ?_
        exact go_wk (k1 ((x2 ||| ((1 : Int32) <<< (x3 &&& 31)))) ((x3 + 1)) h) ⟨rfl, rfl, rfl, rfl, True.intro⟩
    · have h := gq_neg hp h
      refine go_rn 2 (pc' := 9) (L' := [some (.ref 141), some (.int x1), some (.int x2), some (.int (x3 + 1)), none]) (S' := []) (M' := M) okX9_year rfl ?_
      exact go_wk (k1 (x2) ((x3 + 1)) h) ⟨rfl, rfl, rfl, rfl, True.intro⟩
def fX9_year_9h (x1 : Int32) (x2 : Int32) (x3 : Int32) (M : gMem) : Option (gMem) :=
  gLp (fun s : Int32 × Int32 => fX9_year_9 x1 (s.1) (s.2) M) gFu (x2, x3)
set_option maxRecDepth 100000 in
theorem CX9_year_9h {G : gG} {d : Nat} {Z : Option Value → gMem → Prop} (hd : 4 ≤ d) (x1 : Int32) (x2 : Int32) (x3 : Int32) (M : gMem) (P : gMem → Prop) (k0 : ∀ (N : gMem), P N → Z none N) (h : gOKq (fX9_year_9h x1 x2 x3 M) P) : gGo G YX9_year d Z 9 [some (.ref 141), some (.int x1), some (.int x2), some (.int x3), none] [] M :=
  gLp_go (K := fun s : Int32 × Int32 => gGo G YX9_year d Z 9 [some (.ref 141), some (.int x1), some (.int s.1), some (.int s.2), none] [] M) (P := P) (fun s hs => CX9_year_9 hd (x1) (s.1) (s.2) M (Sum.elim (fun s : Int32 × Int32 => gGo G YX9_year d Z 9 [some (.ref 141), some (.int x1), some (.int s.1), some (.int s.2), none] [] M) P) k0 (fun x2 x3 hh => hh) hs) gFu (x2, x3) h
def fX9_year_0 (x1 : Int32) (M : gMem) : Option (gMem) :=
  gB0 (fX9_laysTies x1 M) (fun M1 => fX9_year_9h x1 (0 : Int32) (0 : Int32) M1)
set_option maxRecDepth 100000 in
theorem CX9_year_0 {G : gG} {d : Nat} {Z : Option Value → gMem → Prop} (hd : 4 ≤ d) (x1 : Int32) (M : gMem) (P : gMem → Prop) (k0 : ∀ (N : gMem), P N → Z none N) (h : gOKq (fX9_year_0 x1 M) P) : gGo G YX9_year d Z 0 [some (.ref 141), some (.int x1), none, none, none] [] M := by
  unfold fX9_year_0 at h
  refine go_rn 2 (pc' := 2) (L' := [some (.ref 141), some (.int x1), none, none, none]) (S' := [.int x1, .ref 141]) (M' := M) okX9_year rfl ?_
  obtain ⟨M1, e2, h⟩ := gB0_ok h
  refine go_call1 ocX9_year rfl rfl (gOb_c rfl) rfl (SX9_laysTies x1 M e2) (Nat.lt_of_lt_of_le (by decide) hd) ?_
  refine go_rn 4 (pc' := 9) (L' := [some (.ref 141), some (.int x1), some (.int (0 : Int32)), some (.int (0 : Int32)), none]) (S' := []) (M' := M1) okX9_year rfl ?_
  exact go_wk (CX9_year_9h hd x1 (0 : Int32) (0 : Int32) M1 P k0 h) ⟨rfl, rfl, rfl, rfl, True.intro⟩
def fX9_year (a1 : Int32) (M : gMem) : Option (gMem) := fX9_year_0 a1 M
theorem SX9_year {G : gG} (a1 : Int32) (M : gMem) {N : gMem} (h : fX9_year a1 M = some N) : gRun G YX9_year 4 [.ref 141, .int a1] M (fun r' N' => r' = none ∧ N' = N) := gRun_in (by decide +kernel) rfl (fun d hd => go_wk (CX9_year_0 hd a1 M (fun p => p = N) (fun N hh => ⟨rfl, hh⟩) (gq_of h)) ⟨rfl, rfl, True.intro⟩)
def fX9_runs_51 (x1 : Int32) (x2 : Int32) (M : gMem) : Option (Sum (Int32 × gMem) (gMem)) :=
  if x1 < x2 then some (.inr M) else gB0 (fX9_year x2 M) (fun M1 => some (.inl ((x2 + 1), M1)))
set_option maxRecDepth 100000 in
theorem CX9_runs_51 {G : gG} {d : Nat} {Z : Option Value → gMem → Prop} (hd : 5 ≤ d) (x1 : Int32) (x2 : Int32) (M : gMem) (P : Sum (Int32 × gMem) (gMem) → Prop) (k0 : ∀ (N : gMem), P (.inr N) → Z none N) (k1 : ∀ (x2 : Int32) (M : gMem), P (.inl (x2, M)) → gGo G YX9_runs d Z 51 [some (.ref 141), some (.int x1), some (.int x2)] [] M) (h : gOKq (fX9_runs_51 x1 x2 M) P) : gGo G YX9_runs d Z 51 [some (.ref 141), some (.int x1), some (.int x2)] [] M := by
  unfold fX9_runs_51 at h
  refine go_rn 2 (pc' := 53) (L' := [some (.ref 141), some (.int x1), some (.int x2)]) (S' := [.int x1, .int x2]) (M' := M) okX9_runs rfl ?_
  refine go_br okX9_runs rfl (fun hp => ?_) (fun hp => ?_)
  · have h := gq_pos hp h
    exact go_vret (reX9_runs _ (by decide)) rfl (k0 M h)
  · have h := gq_neg hp h
    refine go_rn 2 (pc' := 58) (L' := [some (.ref 141), some (.int x1), some (.int x2)]) (S' := [.int x2, .ref 141]) (M' := M) okX9_runs rfl ?_
    obtain ⟨M1, e2, h⟩ := gB0_ok h
    refine go_call1 ocX9_runs rfl rfl (gOb_c rfl) rfl (SX9_year x2 M e2) (Nat.lt_of_lt_of_le (by decide) hd) ?_
    refine go_rn 2 (pc' := 51) (L' := [some (.ref 141), some (.int x1), some (.int (x2 + 1))]) (S' := []) (M' := M1) okX9_runs rfl ?_
    exact go_wk (k1 ((x2 + 1)) M1 h) ⟨rfl, rfl, rfl, True.intro⟩
def fX9_runs_51h (x1 : Int32) (x2 : Int32) (M : gMem) : Option (gMem) :=
  gLp (fun s : Int32 × gMem => fX9_runs_51 x1 (s.1) s.2) gFu (x2, M)
set_option maxRecDepth 100000 in
theorem CX9_runs_51h {G : gG} {d : Nat} {Z : Option Value → gMem → Prop} (hd : 5 ≤ d) (x1 : Int32) (x2 : Int32) (M : gMem) (P : gMem → Prop) (k0 : ∀ (N : gMem), P N → Z none N) (h : gOKq (fX9_runs_51h x1 x2 M) P) : gGo G YX9_runs d Z 51 [some (.ref 141), some (.int x1), some (.int x2)] [] M :=
  gLp_go (K := fun s : Int32 × gMem => gGo G YX9_runs d Z 51 [some (.ref 141), some (.int x1), some (.int s.1)] [] s.2) (P := P) (fun s hs => CX9_runs_51 hd (x1) (s.1) (s.2) (Sum.elim (fun s : Int32 × gMem => gGo G YX9_runs d Z 51 [some (.ref 141), some (.int x1), some (.int s.1)] [] s.2) P) k0 (fun x2 M hh => hh) hs) gFu (x2, M) h
def fX9_runs_41 (x1 : Int32) (x2 : Int32) (s0 : Int32) (s2 : Int32) (M : gMem) : Option (Sum (Int32 × gMem) (gMem)) :=
  if gIx 1 149 s0 = true then if gIx 1 158 s2 = true then some (.inl ((x2 + 1), (gSI M 158 (Int32.toNatClampNeg s2) (M.1 149 (Int32.toNatClampNeg s0))))) else none else none
set_option maxRecDepth 100000 in
theorem CX9_runs_41 {G : gG} {d : Nat} {Z : Option Value → gMem → Prop} (hd : 5 ≤ d) (x1 : Int32) (x2 : Int32) (s0 : Int32) (s2 : Int32) (M : gMem) (P : Sum (Int32 × gMem) (gMem) → Prop) (k0 : ∀ (N : gMem), P (.inr N) → Z none N) (k1 : ∀ (x2 : Int32) (M : gMem), P (.inl (x2, M)) → gGo G YX9_runs d Z 2 [some (.ref 141), some (.int x1), some (.int x2)] [] M) (h : gOKq (fX9_runs_41 x1 x2 s0 s2 M) P) : gGo G YX9_runs d Z 41 [some (.ref 141), some (.int x1), some (.int x2)] [.int s0, .ref 149, .int s2, .ref 158] M := by
  unfold fX9_runs_41 at h
  obtain ⟨c1, h⟩ := gq_if h
  refine go_ck okX9_runs rfl c1 ?_
  obtain ⟨c2, h⟩ := gq_if h
  refine go_ck okX9_runs rfl c2 ?_
  refine go_rn 2 (pc' := 2) (L' := [some (.ref 141), some (.int x1), some (.int (x2 + 1))]) (S' := []) (M' := (gSI M 158 (Int32.toNatClampNeg s2) (M.1 149 (Int32.toNatClampNeg s0)))) okX9_runs rfl ?_
  exact go_wk (k1 ((x2 + 1)) (gSI M 158 (Int32.toNatClampNeg s2) (M.1 149 (Int32.toNatClampNeg s0))) h) ⟨rfl, rfl, rfl, True.intro⟩
def fX9_runs_23 (x1 : Int32) (x2 : Int32) (s0 : Int32) (s1 : Int32) (M : gMem) : Option (Sum (Int32 × gMem) (gMem)) :=
  if gIx 1 157 s1 = true then fX9_runs_41 x1 x2 (((3 : Int32) * x2) + (1 : Int32)) ((12 : Int32) * x2) (gSI M 157 (Int32.toNatClampNeg s1) s0) else none
set_option maxRecDepth 100000 in
theorem CX9_runs_23 {G : gG} {d : Nat} {Z : Option Value → gMem → Prop} (hd : 5 ≤ d) (x1 : Int32) (x2 : Int32) (s0 : Int32) (s1 : Int32) (M : gMem) (P : Sum (Int32 × gMem) (gMem) → Prop) (k0 : ∀ (N : gMem), P (.inr N) → Z none N) (k1 : ∀ (x2 : Int32) (M : gMem), P (.inl (x2, M)) → gGo G YX9_runs d Z 2 [some (.ref 141), some (.int x1), some (.int x2)] [] M) (h : gOKq (fX9_runs_23 x1 x2 s0 s1 M) P) : gGo G YX9_runs d Z 23 [some (.ref 141), some (.int x1), some (.int x2)] [.int s0, .int s1, .ref 157] M := by
  unfold fX9_runs_23 at h
  obtain ⟨c1, h⟩ := gq_if h
  refine go_ck okX9_runs rfl c1 ?_
  refine go_rn 1 (pc' := 25) (L' := [some (.ref 141), some (.int x1), some (.int x2)]) (S' := [.ref 141]) (M' := (gSI M 157 (Int32.toNatClampNeg s1) s0)) okX9_runs rfl ?_
  refine go_ck okX9_runs rfl (gOb_c rfl) ?_
  refine go_rn 4 (pc' := 33) (L' := [some (.ref 141), some (.int x1), some (.int x2)]) (S' := [.ref 141, .int ((12 : Int32) * x2), .ref 158]) (M' := (gSI M 157 (Int32.toNatClampNeg s1) s0)) okX9_runs rfl ?_
  refine go_ck okX9_runs rfl (gOb_c rfl) ?_
  refine go_rn 5 (pc' := 41) (L' := [some (.ref 141), some (.int x1), some (.int x2)]) (S' := [.int (((3 : Int32) * x2) + (1 : Int32)), .ref 149, .int ((12 : Int32) * x2), .ref 158]) (M' := (gSI M 157 (Int32.toNatClampNeg s1) s0)) okX9_runs rfl ?_
  exact go_wk (CX9_runs_41 hd x1 x2 (((3 : Int32) * x2) + (1 : Int32)) ((12 : Int32) * x2) (gSI M 157 (Int32.toNatClampNeg s1) s0) P k0 k1 h) ⟨rfl, rfl, rfl, True.intro⟩
def fX9_runs_2 (x1 : Int32) (x2 : Int32) (M : gMem) : Option (Sum (Int32 × gMem) (gMem)) :=
  gB0 (fX9_people M) (fun r1 => if r1 ≤ x2 then gEx (fX9_runs_51h x1 (0 : Int32) M) else if gIx 1 156 x2 = true then fX9_runs_23 x1 x2 (-1 : Int32) x2 (gSI M 156 (Int32.toNatClampNeg x2) (-1 : Int32)) else none)
set_option maxRecDepth 100000 in
theorem CX9_runs_2 {G : gG} {d : Nat} {Z : Option Value → gMem → Prop} (hd : 5 ≤ d) (x1 : Int32) (x2 : Int32) (M : gMem) (P : Sum (Int32 × gMem) (gMem) → Prop) (k0 : ∀ (N : gMem), P (.inr N) → Z none N) (k1 : ∀ (x2 : Int32) (M : gMem), P (.inl (x2, M)) → gGo G YX9_runs d Z 2 [some (.ref 141), some (.int x1), some (.int x2)] [] M) (h : gOKq (fX9_runs_2 x1 x2 M) P) : gGo G YX9_runs d Z 2 [some (.ref 141), some (.int x1), some (.int x2)] [] M := by
  unfold fX9_runs_2 at h
  refine go_rn 2 (pc' := 4) (L' := [some (.ref 141), some (.int x1), some (.int x2)]) (S' := [.ref 141, .int x2]) (M' := M) okX9_runs rfl ?_
  obtain ⟨r1, e2, h⟩ := gB0_ok h
  refine go_call1 ocX9_runs rfl rfl (gOb_c rfl) rfl (SX9_people M e2) (Nat.lt_of_lt_of_le (by decide) hd) ?_
  refine go_br okX9_runs rfl (fun hp => ?_) (fun hp => ?_)
  · have h := gq_pos hp h
    refine go_rn 2 (pc' := 51) (L' := [some (.ref 141), some (.int x1), some (.int (0 : Int32))]) (S' := []) (M' := M) okX9_runs rfl ?_
    exact go_wk (CX9_runs_51h hd x1 (0 : Int32) M (fun q => P (.inr q)) k0 (gEx_ok h)) ⟨rfl, rfl, rfl, True.intro⟩
  · have h := gq_neg hp h
    refine go_rn 1 (pc' := 11) (L' := [some (.ref 141), some (.int x1), some (.int x2)]) (S' := [.ref 141]) (M' := M) okX9_runs rfl ?_
    refine go_ck okX9_runs rfl (gOb_c rfl) ?_
    refine go_rn 2 (pc' := 16) (L' := [some (.ref 141), some (.int x1), some (.int x2)]) (S' := [.int (-1 : Int32), .int x2, .ref 156]) (M' := M) okX9_runs rfl ?_
    obtain ⟨c3, h⟩ := gq_if h
    refine go_ck okX9_runs rfl c3 ?_
    refine go_rn 1 (pc' := 18) (L' := [some (.ref 141), some (.int x1), some (.int x2)]) (S' := [.ref 141]) (M' := (gSI M 156 (Int32.toNatClampNeg x2) (-1 : Int32))) okX9_runs rfl ?_
    refine go_ck okX9_runs rfl (gOb_c rfl) ?_
    refine go_rn 2 (pc' := 23) (L' := [some (.ref 141), some (.int x1), some (.int x2)]) (S' := [.int (-1 : Int32), .int x2, .ref 157]) (M' := (gSI M 156 (Int32.toNatClampNeg x2) (-1 : Int32))) okX9_runs rfl ?_
    exact go_wk (CX9_runs_23 hd x1 x2 (-1 : Int32) x2 (gSI M 156 (Int32.toNatClampNeg x2) (-1 : Int32)) P k0 k1 h) ⟨rfl, rfl, rfl, True.intro⟩
def fX9_runs_2h (x1 : Int32) (x2 : Int32) (M : gMem) : Option (gMem) :=
  gLp (fun s : Int32 × gMem => fX9_runs_2 x1 (s.1) s.2) gFu (x2, M)
set_option maxRecDepth 100000 in
theorem CX9_runs_2h {G : gG} {d : Nat} {Z : Option Value → gMem → Prop} (hd : 5 ≤ d) (x1 : Int32) (x2 : Int32) (M : gMem) (P : gMem → Prop) (k0 : ∀ (N : gMem), P N → Z none N) (h : gOKq (fX9_runs_2h x1 x2 M) P) : gGo G YX9_runs d Z 2 [some (.ref 141), some (.int x1), some (.int x2)] [] M :=
  gLp_go (K := fun s : Int32 × gMem => gGo G YX9_runs d Z 2 [some (.ref 141), some (.int x1), some (.int s.1)] [] s.2) (P := P) (fun s hs => CX9_runs_2 hd (x1) (s.1) (s.2) (Sum.elim (fun s : Int32 × gMem => gGo G YX9_runs d Z 2 [some (.ref 141), some (.int x1), some (.int s.1)] [] s.2) P) k0 (fun x2 M hh => hh) hs) gFu (x2, M) h
def fX9_runs_0 (x1 : Int32) (M : gMem) : Option (gMem) :=
  fX9_runs_2h x1 (0 : Int32) M
set_option maxRecDepth 100000 in
theorem CX9_runs_0 {G : gG} {d : Nat} {Z : Option Value → gMem → Prop} (hd : 5 ≤ d) (x1 : Int32) (M : gMem) (P : gMem → Prop) (k0 : ∀ (N : gMem), P N → Z none N) (h : gOKq (fX9_runs_0 x1 M) P) : gGo G YX9_runs d Z 0 [some (.ref 141), some (.int x1), none] [] M := by
  unfold fX9_runs_0 at h
  refine go_rn 2 (pc' := 2) (L' := [some (.ref 141), some (.int x1), some (.int (0 : Int32))]) (S' := []) (M' := M) okX9_runs rfl ?_
  exact go_wk (CX9_runs_2h hd x1 (0 : Int32) M P k0 h) ⟨rfl, rfl, rfl, True.intro⟩
def fX9_runs (a1 : Int32) (M : gMem) : Option (gMem) := fX9_runs_0 a1 M
theorem SX9_runs {G : gG} (a1 : Int32) (M : gMem) {N : gMem} (h : fX9_runs a1 M = some N) : gRun G YX9_runs 5 [.ref 141, .int a1] M (fun r' N' => r' = none ∧ N' = N) := gRun_in (by decide +kernel) rfl (fun d hd => go_wk (CX9_runs_0 hd a1 M (fun p => p = N) (fun N hh => ⟨rfl, hh⟩) (gq_of h)) ⟨rfl, rfl, True.intro⟩)
def fX9_runs__0 (M : gMem) : Option (gMem) :=
  gB0 (fX9_years M) (fun r1 => gB0 (fX9_runs (r1 - (1 : Int32)) M) (fun M3 => some M3))
set_option maxRecDepth 100000 in
theorem CX9_runs__0 {G : gG} {d : Nat} {Z : Option Value → gMem → Prop} (hd : 6 ≤ d) (M : gMem) (P : gMem → Prop) (k0 : ∀ (N : gMem), P N → Z none N) (h : gOKq (fX9_runs__0 M) P) : gGo G YX9_runs_ d Z 0 [some (.ref 141)] [] M := by
  unfold fX9_runs__0 at h
  refine go_rn 2 (pc' := 2) (L' := [some (.ref 141)]) (S' := [.ref 141, .ref 141]) (M' := M) okX9_runs_ rfl ?_
  obtain ⟨r1, e2, h⟩ := gB0_ok h
  refine go_call1 ocX9_runs_ rfl rfl (gOb_c rfl) rfl (SX9_years M e2) (Nat.lt_of_lt_of_le (by decide) hd) ?_
  refine go_rn 2 (pc' := 7) (L' := [some (.ref 141)]) (S' := [.int (r1 - (1 : Int32)), .ref 141]) (M' := M) okX9_runs_ rfl ?_
  obtain ⟨M3, e4, h⟩ := gB0_ok h
  refine go_call1 ocX9_runs_ rfl rfl (gOb_c rfl) rfl (SX9_runs (r1 - (1 : Int32)) M e4) (Nat.lt_of_lt_of_le (by decide) hd) ?_
  exact go_vret (reX9_runs_ _ (by decide)) rfl (k0 M3 h)
def fX9_runs_ (M : gMem) : Option (gMem) := fX9_runs__0 M
theorem SX9_runs_ {G : gG} (M : gMem) {N : gMem} (h : fX9_runs_ M = some N) : gRun G YX9_runs_ 6 [.ref 141] M (fun r' N' => r' = none ∧ N' = N) := gRun_in (by decide +kernel) rfl (fun d hd => go_wk (CX9_runs__0 hd M (fun p => p = N) (fun N hh => ⟨rfl, hh⟩) (gq_of h)) ⟨rfl, True.intro⟩)
def fX9_laysNow_0 (M : gMem) : Option (gMem) :=
  gB0 (fX9_lays M) (fun M1 => gB0 (fX9_runs_ M1) (fun M3 => some M3))
set_option maxRecDepth 100000 in
theorem CX9_laysNow_0 {G : gG} {d : Nat} {Z : Option Value → gMem → Prop} (hd : 7 ≤ d) (M : gMem) (P : gMem → Prop) (k0 : ∀ (N : gMem), P N → Z none N) (h : gOKq (fX9_laysNow_0 M) P) : gGo G YX9_laysNow d Z 0 [some (.ref 141)] [] M := by
  unfold fX9_laysNow_0 at h
  refine go_rn 1 (pc' := 1) (L' := [some (.ref 141)]) (S' := [.ref 141]) (M' := M) okX9_laysNow rfl ?_
  obtain ⟨M1, e2, h⟩ := gB0_ok h
  refine go_call1 ocX9_laysNow rfl rfl (gOb_c rfl) rfl (SX9_lays M e2) (Nat.lt_of_lt_of_le (by decide) hd) ?_
  refine go_rn 1 (pc' := 5) (L' := [some (.ref 141)]) (S' := [.ref 141]) (M' := M1) okX9_laysNow rfl ?_
  obtain ⟨M3, e4, h⟩ := gB0_ok h
  refine go_call1 ocX9_laysNow rfl rfl (gOb_c rfl) rfl (SX9_runs_ M1 e4) (Nat.lt_of_lt_of_le (by decide) hd) ?_
  exact go_vret (reX9_laysNow _ (by decide)) rfl (k0 M3 h)
def fX9_laysNow (M : gMem) : Option (gMem) := fX9_laysNow_0 M
theorem SX9_laysNow {G : gG} (M : gMem) {N : gMem} (h : fX9_laysNow M = some N) : gRun G YX9_laysNow 7 [.ref 141] M (fun r' N' => r' = none ∧ N' = N) := gRun_in (by decide +kernel) rfl (fun d hd => go_wk (CX9_laysNow_0 hd M (fun p => p = N) (fun N hh => ⟨rfl, hh⟩) (gq_of h)) ⟨rfl, True.intro⟩)
def fX9_outBits_4 (x1 : Int32) (x2 : Int32) (x3 : Int32) (M : gMem) : Option (Sum (Int32 × Int32) (Int32)) :=
  gB0 (fX9_people M) (fun r1 => if r1 ≤ x3 then some (.inr x2) else gB0 (fX9_isOut x3 x1 M) (fun r3 => if r3 = 0 then some (.inl ((x2 ||| (0 : Int32)), (x3 + 1))) else some (.inl ((x2 ||| ((1 : Int32) <<< (x3 &&& 31))), (x3 + 1)))))
set_option maxRecDepth 100000 in
theorem CX9_outBits_4 {G : gG} {d : Nat} {Z : Option Value → gMem → Prop} (hd : 1 ≤ d) (x1 : Int32) (x2 : Int32) (x3 : Int32) (M : gMem) (P : Sum (Int32 × Int32) (Int32) → Prop) (k0 : ∀ (r : Int32), P (.inr r) → Z (some (.int r)) M) (k1 : ∀ (x2 : Int32) (x3 : Int32), P (.inl (x2, x3)) → gGo G YX9_outBits d Z 4 [some (.ref 141), some (.int x1), some (.int x2), some (.int x3)] [] M) (h : gOKq (fX9_outBits_4 x1 x2 x3 M) P) : gGo G YX9_outBits d Z 4 [some (.ref 141), some (.int x1), some (.int x2), some (.int x3)] [] M := by
  unfold fX9_outBits_4 at h
  refine go_rn 2 (pc' := 6) (L' := [some (.ref 141), some (.int x1), some (.int x2), some (.int x3)]) (S' := [.ref 141, .int x3]) (M' := M) okX9_outBits rfl ?_
  obtain ⟨r1, e2, h⟩ := gB0_ok h
  refine go_call1 ocX9_outBits rfl rfl (gOb_c rfl) rfl (SX9_people M e2) (Nat.lt_of_lt_of_le (by decide) hd) ?_
  refine go_br okX9_outBits rfl (fun hp => ?_) (fun hp => ?_)
  · have h := gq_pos hp h
    refine go_rn 1 (pc' := 38) (L' := [some (.ref 141), some (.int x1), some (.int x2), some (.int x3)]) (S' := [.int x2]) (M' := M) okX9_outBits rfl ?_
    exact go_iret (reX9_outBits _ (by decide)) rfl (k0 x2 h)
  · have h := gq_neg hp h
    refine go_rn 4 (pc' := 16) (L' := [some (.ref 141), some (.int x1), some (.int x2), some (.int x3)]) (S' := [.int x1, .int x3, .ref 141, .int x2]) (M' := M) okX9_outBits rfl ?_
    obtain ⟨r3, e4, h⟩ := gB0_ok h
    refine go_call1 ocX9_outBits rfl rfl (gOb_c rfl) rfl (SX9_isOut x3 x1 M e4) (Nat.lt_of_lt_of_le (by decide) hd) ?_
    refine go_br okX9_outBits rfl (fun hp => ?_) (fun hp => ?_)
    · have h := gq_pos hp h
      refine go_rn 5 (pc' := 4) (L' := [some (.ref 141), some (.int x1), some (.int (x2 ||| (0 : Int32))), some (.int (x3 + 1))]) (S' := []) (M' := M) okX9_outBits rfl ?_
      exact go_wk (k1 ((x2 ||| (0 : Int32))) ((x3 + 1)) h) ⟨rfl, rfl, rfl, rfl, True.intro⟩
    · have h := gq_neg hp h
      refine go_rn 8 (pc' := 4) (L' := [some (.ref 141), some (.int x1), some (.int (x2 ||| ((1 : Int32) <<< (x3 &&& 31)))), some (.int (x3 + 1))]) (S' := []) (M' := M) okX9_outBits rfl ?_
      exact go_wk (k1 ((x2 ||| ((1 : Int32) <<< (x3 &&& 31)))) ((x3 + 1)) h) ⟨rfl, rfl, rfl, rfl, True.intro⟩
def fX9_outBits_4h (x1 : Int32) (x2 : Int32) (x3 : Int32) (M : gMem) : Option (Int32) :=
  gLp (fun s : Int32 × Int32 => fX9_outBits_4 x1 (s.1) (s.2) M) gFu (x2, x3)
set_option maxRecDepth 100000 in
theorem CX9_outBits_4h {G : gG} {d : Nat} {Z : Option Value → gMem → Prop} (hd : 1 ≤ d) (x1 : Int32) (x2 : Int32) (x3 : Int32) (M : gMem) (P : Int32 → Prop) (k0 : ∀ (r : Int32), P r → Z (some (.int r)) M) (h : gOKq (fX9_outBits_4h x1 x2 x3 M) P) : gGo G YX9_outBits d Z 4 [some (.ref 141), some (.int x1), some (.int x2), some (.int x3)] [] M :=
  gLp_go (K := fun s : Int32 × Int32 => gGo G YX9_outBits d Z 4 [some (.ref 141), some (.int x1), some (.int s.1), some (.int s.2)] [] M) (P := P) (fun s hs => CX9_outBits_4 hd (x1) (s.1) (s.2) M (Sum.elim (fun s : Int32 × Int32 => gGo G YX9_outBits d Z 4 [some (.ref 141), some (.int x1), some (.int s.1), some (.int s.2)] [] M) P) k0 (fun x2 x3 hh => hh) hs) gFu (x2, x3) h
def fX9_outBits_0 (x1 : Int32) (M : gMem) : Option (Int32) :=
  fX9_outBits_4h x1 (0 : Int32) (0 : Int32) M
set_option maxRecDepth 100000 in
theorem CX9_outBits_0 {G : gG} {d : Nat} {Z : Option Value → gMem → Prop} (hd : 1 ≤ d) (x1 : Int32) (M : gMem) (P : Int32 → Prop) (k0 : ∀ (r : Int32), P r → Z (some (.int r)) M) (h : gOKq (fX9_outBits_0 x1 M) P) : gGo G YX9_outBits d Z 0 [some (.ref 141), some (.int x1), none, none] [] M := by
  unfold fX9_outBits_0 at h
  refine go_rn 4 (pc' := 4) (L' := [some (.ref 141), some (.int x1), some (.int (0 : Int32)), some (.int (0 : Int32))]) (S' := []) (M' := M) okX9_outBits rfl ?_
  exact go_wk (CX9_outBits_4h hd x1 (0 : Int32) (0 : Int32) M P k0 h) ⟨rfl, rfl, rfl, rfl, True.intro⟩
def fX9_outBits (a1 : Int32) (M : gMem) : Option (Int32) := fX9_outBits_0 a1 M
theorem SX9_outBits {G : gG} (a1 : Int32) (M : gMem) {r : Int32} (h : fX9_outBits a1 M = some r) : gRun G YX9_outBits 1 [.ref 141, .int a1] M (fun r' N' => r' = some (.int r) ∧ N' = M) := gRun_in (by decide +kernel) rfl (fun d hd => go_wk (CX9_outBits_0 hd a1 M (fun p => p = r) (fun r hh => ⟨congrArg (fun z => some (Value.int z)) hh, rfl⟩) (gq_of h)) ⟨rfl, rfl, True.intro⟩)
def fX9_wideOf_8 (x1 : Int32) (x2 : Int32) (x3 : Int32) (x4 : Int32) (x5 : Int32) (M : gMem) : Option (Sum (Int32 × Int32 × Int32) (Int32)) :=
  gB0 (fX9_people M) (fun r1 => if r1 ≤ x5 then if x1 = 0 then some (.inr x3) else if (M.1 141 24) = 0 then some (.inr x3) else if (M.1 141 24) = (1 : Int32) then some (.inr x4) else if (M.1 141 24) = (2 : Int32) then gB0 (fX9_sizeOf x1 M) (fun r3 => some (.inr ((2 : Int32) * r3))) else if (x3 - x2) ≤ (1 : Int32) then some (.inr (1 : Int32)) else some (.inr (x3 - x2)) else gB0 (fX9_isBit x1 x5 M) (fun r5 => if r5 = 0 then some (.inl (x3, x4, (x5 + 1))) else if gIx 1 149 ((3 : Int32) * x5) = true then if gIx 1 149 ((3 : Int32) * x5) = true then if (M.1 149 (Int32.toNatClampNeg ((3 : Int32) * x5))) ≤ x4 then some (.inl ((x3 + (M.1 149 (Int32.toNatClampNeg ((3 : Int32) * x5)))), x4, (x5 + 1))) else if gIx 1 149 ((3 : Int32) * x5) = true then some (.inl ((x3 + (M.1 149 (Int32.toNatClampNeg ((3 : Int32) * x5)))), (M.1 149 (Int32.toNatClampNeg ((3 : Int32) * x5))), (x5 + 1))) else none else none else none))
set_option maxRecDepth 100000 in
theorem CX9_wideOf_8 {G : gG} {d : Nat} {Z : Option Value → gMem → Prop} (hd : 1 ≤ d) (x1 : Int32) (x2 : Int32) (x3 : Int32) (x4 : Int32) (x5 : Int32) (M : gMem) (P : Sum (Int32 × Int32 × Int32) (Int32) → Prop) (k0 : ∀ (r : Int32), P (.inr r) → Z (some (.int r)) M) (k1 : ∀ (x3 : Int32) (x4 : Int32) (x5 : Int32), P (.inl (x3, x4, x5)) → gGo G YX9_wideOf d Z 8 [some (.ref 141), some (.int x1), some (.int x2), some (.int x3), some (.int x4), some (.int x5)] [] M) (h : gOKq (fX9_wideOf_8 x1 x2 x3 x4 x5 M) P) : gGo G YX9_wideOf d Z 8 [some (.ref 141), some (.int x1), some (.int x2), some (.int x3), some (.int x4), some (.int x5)] [] M := by
  unfold fX9_wideOf_8 at h
  refine go_rn 2 (pc' := 11) (L' := [some (.ref 141), some (.int x1), some (.int x2), some (.int x3), some (.int x4), some (.int x5)]) (S' := [.ref 141, .int x5]) (M' := M) okX9_wideOf rfl ?_
  obtain ⟨r1, e2, h⟩ := gB0_ok h
  refine go_call1 ocX9_wideOf rfl rfl (gOb_c rfl) rfl (SX9_people M e2) (Nat.lt_of_lt_of_le (by decide) hd) ?_
  refine go_br okX9_wideOf rfl (fun hp => ?_) (fun hp => ?_)
  · have h := gq_pos hp h
    refine go_rn 1 (pc' := 78) (L' := [some (.ref 141), some (.int x1), some (.int x2), some (.int x3), some (.int x4), some (.int x5)]) (S' := [.int x1]) (M' := M) okX9_wideOf rfl ?_
    refine go_br okX9_wideOf rfl (fun hp => ?_) (fun hp => ?_)
    · have h := gq_pos hp h
      refine go_rn 1 (pc' := 89) (L' := [some (.ref 141), some (.int x1), some (.int x2), some (.int x3), some (.int x4), some (.int x5)]) (S' := [.int x3]) (M' := M) okX9_wideOf rfl ?_
      exact go_iret (reX9_wideOf _ (by decide)) rfl (k0 x3 h)
    · have h := gq_neg hp h
      refine go_rn 1 (pc' := 82) (L' := [some (.ref 141), some (.int x1), some (.int x2), some (.int x3), some (.int x4), some (.int x5)]) (S' := [.ref 141]) (M' := M) okX9_wideOf rfl ?_
      refine go_ck okX9_wideOf rfl (gOb_c rfl) ?_
      refine go_br okX9_wideOf rfl (fun hp => ?_) (fun hp => ?_)
      · have h := gq_pos hp h
        refine go_rn 1 (pc' := 89) (L' := [some (.ref 141), some (.int x1), some (.int x2), some (.int x3), some (.int x4), some (.int x5)]) (S' := [.int x3]) (M' := M) okX9_wideOf rfl ?_
        exact go_iret (reX9_wideOf _ (by decide)) rfl (k0 x3 h)
      · have h := gq_neg hp h
        refine go_rn 1 (pc' := 91) (L' := [some (.ref 141), some (.int x1), some (.int x2), some (.int x3), some (.int x4), some (.int x5)]) (S' := [.ref 141]) (M' := M) okX9_wideOf rfl ?_
        refine go_ck okX9_wideOf rfl (gOb_c rfl) ?_
        refine go_rn 1 (pc' := 95) (L' := [some (.ref 141), some (.int x1), some (.int x2), some (.int x3), some (.int x4), some (.int x5)]) (S' := [.int (1 : Int32), .int (M.1 141 24)]) (M' := M) okX9_wideOf rfl ?_
        refine go_br okX9_wideOf rfl (fun hp => ?_) (fun hp => ?_)
        · have h := gq_pos hp h
          refine go_rn 1 (pc' := 100) (L' := [some (.ref 141), some (.int x1), some (.int x2), some (.int x3), some (.int x4), some (.int x5)]) (S' := [.int x4]) (M' := M) okX9_wideOf rfl ?_
          exact go_iret (reX9_wideOf _ (by decide)) rfl (k0 x4 h)
        · have h := gq_neg hp h
          refine go_rn 1 (pc' := 102) (L' := [some (.ref 141), some (.int x1), some (.int x2), some (.int x3), some (.int x4), some (.int x5)]) (S' := [.ref 141]) (M' := M) okX9_wideOf rfl ?_
          refine go_ck okX9_wideOf rfl (gOb_c rfl) ?_
          refine go_rn 1 (pc' := 106) (L' := [some (.ref 141), some (.int x1), some (.int x2), some (.int x3), some (.int x4), some (.int x5)]) (S' := [.int (2 : Int32), .int (M.1 141 24)]) (M' := M) okX9_wideOf rfl ?_
          refine go_br okX9_wideOf rfl (fun hp => ?_) (fun hp => ?_)
          · have h := gq_pos hp h
            refine go_rn 2 (pc' := 111) (L' := [some (.ref 141), some (.int x1), some (.int x2), some (.int x3), some (.int x4), some (.int x5)]) (S' := [.int x1, .int (2 : Int32)]) (M' := M) okX9_wideOf rfl ?_
            obtain ⟨r3, e4, h⟩ := gB0_ok h
            refine go_call1 ocX9_wideOf rfl rfl rfl rfl (SX9_sizeOf x1 M e4) (Nat.lt_of_lt_of_le (by decide) hd) ?_
            refine go_rn 1 (pc' := 115) (L' := [some (.ref 141), some (.int x1), some (.int x2), some (.int x3), some (.int x4), some (.int x5)]) (S' := [.int ((2 : Int32) * r3)]) (M' := M) okX9_wideOf rfl ?_
            exact go_iret (reX9_wideOf _ (by decide)) rfl (k0 ((2 : Int32) * r3) h)
          · have h := gq_neg hp h
            refine go_rn 4 (pc' := 120) (L' := [some (.ref 141), some (.int x1), some (.int x2), some (.int x3), some (.int x4), some (.int x5)]) (S' := [.int (1 : Int32), .int (x3 - x2)]) (M' := M) okX9_wideOf rfl ?_
            refine go_br okX9_wideOf rfl (fun hp => ?_) (fun hp => ?_)
            · have h := gq_pos hp h
              refine go_rn 1 (pc' := 130) (L' := [some (.ref 141), some (.int x1), some (.int x2), some (.int x3), some (.int x4), some (.int x5)]) (S' := [.int (1 : Int32)]) (M' := M) okX9_wideOf rfl ?_
              exact go_iret (reX9_wideOf _ (by decide)) rfl (k0 (1 : Int32) h)
            · have h := gq_neg hp h
              refine go_rn 4 (pc' := 130) (L' := [some (.ref 141), some (.int x1), some (.int x2), some (.int x3), some (.int x4), some (.int x5)]) (S' := [.int (x3 - x2)]) (M' := M) okX9_wideOf rfl ?_
              exact go_iret (reX9_wideOf _ (by decide)) rfl (k0 (x3 - x2) h)
  · have h := gq_neg hp h
    refine go_rn 2 (pc' := 20) (L' := [some (.ref 141), some (.int x1), some (.int x2), some (.int x3), some (.int x4), some (.int x5)]) (S' := [.int x5, .int x1]) (M' := M) okX9_wideOf rfl ?_
    obtain ⟨r5, e6, h⟩ := gB0_ok h
    refine go_call1 ocX9_wideOf rfl rfl rfl rfl (SX9_isBit x1 x5 M e6) (Nat.lt_of_lt_of_le (by decide) hd) ?_
    refine go_br okX9_wideOf rfl (fun hp => ?_) (fun hp => ?_)
    · have h := gq_pos hp h
      refine go_rn 3 (pc' := 8) (L' := [some (.ref 141), some (.int x1), some (.int x2), some (.int x3), some (.int x4), some (.int (x5 + 1))]) (S' := []) (M' := M) okX9_wideOf rfl ?_
      exact go_wk (k1 (x3) (x4) ((x5 + 1)) h) ⟨rfl, rfl, rfl, rfl, rfl, rfl, True.intro⟩
    · have h := gq_neg hp h
      refine go_rn 2 (pc' := 31) (L' := [some (.ref 141), some (.int x1), some (.int x2), some (.int x3), some (.int x4), some (.int x5)]) (S' := [.ref 141, .int x3]) (M' := M) okX9_wideOf rfl ?_
      refine go_ck okX9_wideOf rfl (gOb_c rfl) ?_
      refine go_rn 3 (pc' := 38) (L' := [some (.ref 141), some (.int x1), some (.int x2), some (.int x3), some (.int x4), some (.int x5)]) (S' := [.int ((3 : Int32) * x5), .ref 149, .int x3]) (M' := M) okX9_wideOf rfl ?_
      obtain ⟨c7, h⟩ := gq_if h
      refine go_ck okX9_wideOf rfl c7 ?_
      refine go_rn 3 (pc' := 42) (L' := [some (.ref 141), some (.int x1), some (.int x2), some (.int (x3 + (M.1 149 (Int32.toNatClampNeg ((3 : Int32) * x5))))), some (.int x4), some (.int x5)]) (S' := [.ref 141]) (M' := M) okX9_wideOf rfl ?_
      refine go_ck okX9_wideOf rfl (gOb_c rfl) ?_
      refine go_rn 3 (pc' := 49) (L' := [some (.ref 141), some (.int x1), some (.int x2), some (.int (x3 + (M.1 149 (Int32.toNatClampNeg ((3 : Int32) * x5))))), some (.int x4), some (.int x5)]) (S' := [.int ((3 : Int32) * x5), .ref 149]) (M' := M) okX9_wideOf rfl ?_
      obtain ⟨c8, h⟩ := gq_if h
      refine go_ck okX9_wideOf rfl c8 ?_
      refine go_rn 1 (pc' := 52) (L' := [some (.ref 141), some (.int x1), some (.int x2), some (.int (x3 + (M.1 149 (Int32.toNatClampNeg ((3 : Int32) * x5))))), some (.int x4), some (.int x5)]) (S' := [.int x4, .int (M.1 149 (Int32.toNatClampNeg ((3 : Int32) * x5)))]) (M' := M) okX9_wideOf rfl ?_
      refine go_br okX9_wideOf rfl (fun hp => ?_) (fun hp => ?_)
      · have h := gq_pos hp h
        refine go_rn 4 (pc' := 8) (L' := [some (.ref 141), some (.int x1), some (.int x2), some (.int (x3 + (M.1 149 (Int32.toNatClampNeg ((3 : Int32) * x5))))), some (.int x4), some (.int (x5 + 1))]) (S' := []) (M' := M) okX9_wideOf rfl ?_
        exact go_wk (k1 ((x3 + (M.1 149 (Int32.toNatClampNeg ((3 : Int32) * x5))))) (x4) ((x5 + 1)) h) ⟨rfl, rfl, rfl, rfl, rfl, rfl, True.intro⟩
      · have h := gq_neg hp h
        refine go_rn 1 (pc' := 56) (L' := [some (.ref 141), some (.int x1), some (.int x2), some (.int (x3 + (M.1 149 (Int32.toNatClampNeg ((3 : Int32) * x5))))), some (.int x4), some (.int x5)]) (S' := [.ref 141]) (M' := M) okX9_wideOf rfl ?_
        refine go_ck okX9_wideOf rfl (gOb_c rfl) ?_
        refine go_rn 3 (pc' := 63) (L' := [some (.ref 141), some (.int x1), some (.int x2), some (.int (x3 + (M.1 149 (Int32.toNatClampNeg ((3 : Int32) * x5))))), some (.int x4), some (.int x5)]) (S' := [.int ((3 : Int32) * x5), .ref 149]) (M' := M) okX9_wideOf rfl ?_
        obtain ⟨c9, h⟩ := gq_if h
        refine go_ck okX9_wideOf rfl c9 ?_
        refine go_rn 4 (pc' := 8) (L' := [some (.ref 141), some (.int x1), some (.int x2), some (.int (x3 + (M.1 149 (Int32.toNatClampNeg ((3 : Int32) * x5))))), some (.int (M.1 149 (Int32.toNatClampNeg ((3 : Int32) * x5)))), some (.int (x5 + 1))]) (S' := []) (M' := M) okX9_wideOf rfl ?_
        exact go_wk (k1 ((x3 + (M.1 149 (Int32.toNatClampNeg ((3 : Int32) * x5))))) ((M.1 149 (Int32.toNatClampNeg ((3 : Int32) * x5)))) ((x5 + 1)) h) ⟨rfl, rfl, rfl, rfl, rfl, rfl, True.intro⟩
def fX9_wideOf_8h (x1 : Int32) (x2 : Int32) (x3 : Int32) (x4 : Int32) (x5 : Int32) (M : gMem) : Option (Int32) :=
  gLp (fun s : Int32 × Int32 × Int32 => fX9_wideOf_8 x1 x2 (s.1) (s.2.1) (s.2.2) M) gFu (x3, x4, x5)
set_option maxRecDepth 100000 in
theorem CX9_wideOf_8h {G : gG} {d : Nat} {Z : Option Value → gMem → Prop} (hd : 1 ≤ d) (x1 : Int32) (x2 : Int32) (x3 : Int32) (x4 : Int32) (x5 : Int32) (M : gMem) (P : Int32 → Prop) (k0 : ∀ (r : Int32), P r → Z (some (.int r)) M) (h : gOKq (fX9_wideOf_8h x1 x2 x3 x4 x5 M) P) : gGo G YX9_wideOf d Z 8 [some (.ref 141), some (.int x1), some (.int x2), some (.int x3), some (.int x4), some (.int x5)] [] M :=
  gLp_go (K := fun s : Int32 × Int32 × Int32 => gGo G YX9_wideOf d Z 8 [some (.ref 141), some (.int x1), some (.int x2), some (.int s.1), some (.int s.2.1), some (.int s.2.2)] [] M) (P := P) (fun s hs => CX9_wideOf_8 hd (x1) (x2) (s.1) (s.2.1) (s.2.2) M (Sum.elim (fun s : Int32 × Int32 × Int32 => gGo G YX9_wideOf d Z 8 [some (.ref 141), some (.int x1), some (.int x2), some (.int s.1), some (.int s.2.1), some (.int s.2.2)] [] M) P) k0 (fun x3 x4 x5 hh => hh) hs) gFu (x3, x4, x5) h
def fX9_wideOf_0 (x1 : Int32) (x2 : Int32) (M : gMem) : Option (Int32) :=
  fX9_wideOf_8h x1 x2 (0 : Int32) (0 : Int32) (0 : Int32) M
set_option maxRecDepth 100000 in
theorem CX9_wideOf_0 {G : gG} {d : Nat} {Z : Option Value → gMem → Prop} (hd : 1 ≤ d) (x1 : Int32) (x2 : Int32) (M : gMem) (P : Int32 → Prop) (k0 : ∀ (r : Int32), P r → Z (some (.int r)) M) (h : gOKq (fX9_wideOf_0 x1 x2 M) P) : gGo G YX9_wideOf d Z 0 [some (.ref 141), some (.int x1), some (.int x2), none, none, none] [] M := by
  unfold fX9_wideOf_0 at h
  refine go_rn 6 (pc' := 8) (L' := [some (.ref 141), some (.int x1), some (.int x2), some (.int (0 : Int32)), some (.int (0 : Int32)), some (.int (0 : Int32))]) (S' := []) (M' := M) okX9_wideOf rfl ?_
  exact go_wk (CX9_wideOf_8h hd x1 x2 (0 : Int32) (0 : Int32) (0 : Int32) M P k0 h) ⟨rfl, rfl, rfl, rfl, rfl, rfl, True.intro⟩
def fX9_wideOf (a1 : Int32) (a2 : Int32) (M : gMem) : Option (Int32) := fX9_wideOf_0 a1 a2 M
theorem SX9_wideOf {G : gG} (a1 : Int32) (a2 : Int32) (M : gMem) {r : Int32} (h : fX9_wideOf a1 a2 M = some r) : gRun G YX9_wideOf 1 [.ref 141, .int a1, .int a2] M (fun r' N' => r' = some (.int r) ∧ N' = M) := gRun_in (by decide +kernel) rfl (fun d hd => go_wk (CX9_wideOf_0 hd a1 a2 M (fun p => p = r) (fun r hh => ⟨congrArg (fun z => some (Value.int z)) hh, rfl⟩) (gq_of h)) ⟨rfl, rfl, rfl, True.intro⟩)
def fX9_joinsIn_20 (x1 : Int32) (x2 : Int32) (x3 : Int32) (x4 : Int32) (x5 : Int32) (M : gMem) : Option (Sum (Int32 × Int32) (Sum (Int32 × Int32) (Int32))) :=
  gB0 (fX9_people M) (fun r1 => if r1 ≤ x5 then some (.inr (.inl (x3, (x4 + 1)))) else gB0 (fX9_isBit x1 x4 M) (fun r3 => if r3 = 0 then some (.inl ((x3 + (0 : Int32)), (x5 + 1))) else gB0 (fX9_isBit x1 x5 M) (fun r5 => if r5 = 0 then some (.inl ((x3 + (0 : Int32)), (x5 + 1))) else if gIx 1 155 ((((36 : Int32) * x2) + ((6 : Int32) * x4)) + x5) = true then some (.inl ((x3 + (M.1 155 (Int32.toNatClampNeg ((((36 : Int32) * x2) + ((6 : Int32) * x4)) + x5)))), (x5 + 1))) else none)))
set_option maxRecDepth 100000 in
theorem CX9_joinsIn_20 {G : gG} {d : Nat} {Z : Option Value → gMem → Prop} (hd : 1 ≤ d) (x1 : Int32) (x2 : Int32) (x3 : Int32) (x4 : Int32) (x5 : Int32) (M : gMem) (P : Sum (Int32 × Int32) (Sum (Int32 × Int32) (Int32)) → Prop) (k0 : ∀ (r : Int32), P (.inr (.inr r)) → Z (some (.int r)) M) (k1 : ∀ (x3 : Int32) (x4 : Int32), P (.inr (.inl (x3, x4))) → gGo G YX9_joinsIn d Z 5 [some (.ref 141), some (.int x1), some (.int x2), some (.int x3), some (.int x4), none] [] M) (k2 : ∀ (x3 : Int32) (x5 : Int32), P (.inl (x3, x5)) → gGo G YX9_joinsIn d Z 20 [some (.ref 141), some (.int x1), some (.int x2), some (.int x3), some (.int x4), some (.int x5)] [] M) (h : gOKq (fX9_joinsIn_20 x1 x2 x3 x4 x5 M) P) : gGo G YX9_joinsIn d Z 20 [some (.ref 141), some (.int x1), some (.int x2), some (.int x3), some (.int x4), some (.int x5)] [] M := by
  unfold fX9_joinsIn_20 at h
  refine go_rn 2 (pc' := 23) (L' := [some (.ref 141), some (.int x1), some (.int x2), some (.int x3), some (.int x4), some (.int x5)]) (S' := [.ref 141, .int x5]) (M' := M) okX9_joinsIn rfl ?_
  obtain ⟨r1, e2, h⟩ := gB0_ok h
  refine go_call1 ocX9_joinsIn rfl rfl (gOb_c rfl) rfl (SX9_people M e2) (Nat.lt_of_lt_of_le (by decide) hd) ?_
  refine go_br okX9_joinsIn rfl (fun hp => ?_) (fun hp => ?_)
  · have h := gq_pos hp h
    refine go_rn 2 (pc' := 5) (L' := [some (.ref 141), some (.int x1), some (.int x2), some (.int x3), some (.int (x4 + 1)), some (.int x5)]) (S' := []) (M' := M) okX9_joinsIn rfl ?_
    exact go_wk (k1 (x3) ((x4 + 1)) h) ⟨rfl, rfl, rfl, rfl, rfl, True.intro⟩
  · have h := gq_neg hp h
    refine go_rn 3 (pc' := 33) (L' := [some (.ref 141), some (.int x1), some (.int x2), some (.int x3), some (.int x4), some (.int x5)]) (S' := [.int x4, .int x1, .int x3]) (M' := M) okX9_joinsIn rfl ?_
    obtain ⟨r3, e4, h⟩ := gB0_ok h
    refine go_call1 ocX9_joinsIn rfl rfl rfl rfl (SX9_isBit x1 x4 M e4) (Nat.lt_of_lt_of_le (by decide) hd) ?_
    refine go_br okX9_joinsIn rfl (fun hp => ?_) (fun hp => ?_)
    · have h := gq_pos hp h
      refine go_rn 5 (pc' := 20) (L' := [some (.ref 141), some (.int x1), some (.int x2), some (.int (x3 + (0 : Int32))), some (.int x4), some (.int (x5 + 1))]) (S' := []) (M' := M) okX9_joinsIn rfl ?_
      exact go_wk (k2 ((x3 + (0 : Int32))) ((x5 + 1)) h) ⟨rfl, rfl, rfl, rfl, rfl, rfl, True.intro⟩
    · have h := gq_neg hp h
      refine go_rn 2 (pc' := 42) (L' := [some (.ref 141), some (.int x1), some (.int x2), some (.int x3), some (.int x4), some (.int x5)]) (S' := [.int x5, .int x1, .int x3]) (M' := M) okX9_joinsIn rfl ?_
      obtain ⟨r5, e6, h⟩ := gB0_ok h
      refine go_call1 ocX9_joinsIn rfl rfl rfl rfl (SX9_isBit x1 x5 M e6) (Nat.lt_of_lt_of_le (by decide) hd) ?_
      refine go_br okX9_joinsIn rfl (fun hp => ?_) (fun hp => ?_)
      · have h := gq_pos hp h
        refine go_rn 5 (pc' := 20) (L' := [some (.ref 141), some (.int x1), some (.int x2), some (.int (x3 + (0 : Int32))), some (.int x4), some (.int (x5 + 1))]) (S' := []) (M' := M) okX9_joinsIn rfl ?_
        exact go_wk (k2 ((x3 + (0 : Int32))) ((x5 + 1)) h) ⟨rfl, rfl, rfl, rfl, rfl, rfl, True.intro⟩
      · have h := gq_neg hp h
        refine go_rn 1 (pc' := 49) (L' := [some (.ref 141), some (.int x1), some (.int x2), some (.int x3), some (.int x4), some (.int x5)]) (S' := [.ref 141, .int x3]) (M' := M) okX9_joinsIn rfl ?_
        refine go_ck okX9_joinsIn rfl (gOb_c rfl) ?_
        refine go_rn 9 (pc' := 65) (L' := [some (.ref 141), some (.int x1), some (.int x2), some (.int x3), some (.int x4), some (.int x5)]) (S' := [.int ((((36 : Int32) * x2) + ((6 : Int32) * x4)) + x5), .ref 155, .int x3]) (M' := M) okX9_joinsIn rfl ?_
        obtain ⟨c7, h⟩ := gq_if h
        refine go_ck okX9_joinsIn rfl c7 ?_
        refine go_rn 5 (pc' := 20) (L' := [some (.ref 141), some (.int x1), some (.int x2), some (.int (x3 + (M.1 155 (Int32.toNatClampNeg ((((36 : Int32) * x2) + ((6 : Int32) * x4)) + x5))))), some (.int x4), some (.int (x5 + 1))]) (S' := []) (M' := M) okX9_joinsIn rfl ?_
        exact go_wk (k2 ((x3 + (M.1 155 (Int32.toNatClampNeg ((((36 : Int32) * x2) + ((6 : Int32) * x4)) + x5))))) ((x5 + 1)) h) ⟨rfl, rfl, rfl, rfl, rfl, rfl, True.intro⟩
def fX9_joinsIn_20h (x1 : Int32) (x2 : Int32) (x3 : Int32) (x4 : Int32) (x5 : Int32) (M : gMem) : Option (Sum (Int32 × Int32) (Int32)) :=
  gLp (fun s : Int32 × Int32 => fX9_joinsIn_20 x1 x2 (s.1) x4 (s.2) M) gFu (x3, x5)
set_option maxRecDepth 100000 in
theorem CX9_joinsIn_20h {G : gG} {d : Nat} {Z : Option Value → gMem → Prop} (hd : 1 ≤ d) (x1 : Int32) (x2 : Int32) (x3 : Int32) (x4 : Int32) (x5 : Int32) (M : gMem) (P : Sum (Int32 × Int32) (Int32) → Prop) (k0 : ∀ (r : Int32), P (.inr r) → Z (some (.int r)) M) (k1 : ∀ (x3 : Int32) (x4 : Int32), P (.inl (x3, x4)) → gGo G YX9_joinsIn d Z 5 [some (.ref 141), some (.int x1), some (.int x2), some (.int x3), some (.int x4), none] [] M) (h : gOKq (fX9_joinsIn_20h x1 x2 x3 x4 x5 M) P) : gGo G YX9_joinsIn d Z 20 [some (.ref 141), some (.int x1), some (.int x2), some (.int x3), some (.int x4), some (.int x5)] [] M :=
  gLp_go (K := fun s : Int32 × Int32 => gGo G YX9_joinsIn d Z 20 [some (.ref 141), some (.int x1), some (.int x2), some (.int s.1), some (.int x4), some (.int s.2)] [] M) (P := P) (fun s hs => CX9_joinsIn_20 hd (x1) (x2) (s.1) (x4) (s.2) M (Sum.elim (fun s : Int32 × Int32 => gGo G YX9_joinsIn d Z 20 [some (.ref 141), some (.int x1), some (.int x2), some (.int s.1), some (.int x4), some (.int s.2)] [] M) P) k0 k1 (fun x3 x5 hh => hh) hs) gFu (x3, x5) h
def fX9_joinsIn_5 (x1 : Int32) (x2 : Int32) (x3 : Int32) (x4 : Int32) (M : gMem) : Option (Sum (Int32 × Int32) (Int32)) :=
  gB0 (fX9_people M) (fun r1 => if r1 ≤ x4 then some (.inr x3) else fX9_joinsIn_20h x1 x2 x3 x4 (x4 + (1 : Int32)) M)
set_option maxRecDepth 100000 in
theorem CX9_joinsIn_5 {G : gG} {d : Nat} {Z : Option Value → gMem → Prop} (hd : 1 ≤ d) (x1 : Int32) (x2 : Int32) (x3 : Int32) (x4 : Int32) (M : gMem) (P : Sum (Int32 × Int32) (Int32) → Prop) (k0 : ∀ (r : Int32), P (.inr r) → Z (some (.int r)) M) (k1 : ∀ (x3 : Int32) (x4 : Int32), P (.inl (x3, x4)) → gGo G YX9_joinsIn d Z 5 [some (.ref 141), some (.int x1), some (.int x2), some (.int x3), some (.int x4), none] [] M) (h : gOKq (fX9_joinsIn_5 x1 x2 x3 x4 M) P) : gGo G YX9_joinsIn d Z 5 [some (.ref 141), some (.int x1), some (.int x2), some (.int x3), some (.int x4), none] [] M := by
  unfold fX9_joinsIn_5 at h
  refine go_rn 2 (pc' := 8) (L' := [some (.ref 141), some (.int x1), some (.int x2), some (.int x3), some (.int x4), none]) (S' := [.ref 141, .int x4]) (M' := M) okX9_joinsIn rfl ?_
  obtain ⟨r1, e2, h⟩ := gB0_ok h
  refine go_call1 ocX9_joinsIn rfl rfl (gOb_c rfl) rfl (SX9_people M e2) (Nat.lt_of_lt_of_le (by decide) hd) ?_
  refine go_br okX9_joinsIn rfl (fun hp => ?_) (fun hp => ?_)
  · have h := gq_pos hp h
    refine go_rn 1 (pc' := 85) (L' := [some (.ref 141), some (.int x1), some (.int x2), some (.int x3), some (.int x4), none]) (S' := [.int x3]) (M' := M) okX9_joinsIn rfl ?_
    exact go_iret (reX9_joinsIn _ (by decide)) rfl (k0 x3 h)
  · have h := gq_neg hp h
    refine go_rn 4 (pc' := 20) (L' := [some (.ref 141), some (.int x1), some (.int x2), some (.int x3), some (.int x4), some (.int (x4 + (1 : Int32)))]) (S' := []) (M' := M) okX9_joinsIn rfl ?_
    exact go_wk (CX9_joinsIn_20h hd x1 x2 x3 x4 (x4 + (1 : Int32)) M P k0 k1 h) ⟨rfl, rfl, rfl, rfl, rfl, rfl, True.intro⟩
def fX9_joinsIn_5h (x1 : Int32) (x2 : Int32) (x3 : Int32) (x4 : Int32) (M : gMem) : Option (Int32) :=
  gLp (fun s : Int32 × Int32 => fX9_joinsIn_5 x1 x2 (s.1) (s.2) M) gFu (x3, x4)
set_option maxRecDepth 100000 in
theorem CX9_joinsIn_5h {G : gG} {d : Nat} {Z : Option Value → gMem → Prop} (hd : 1 ≤ d) (x1 : Int32) (x2 : Int32) (x3 : Int32) (x4 : Int32) (M : gMem) (P : Int32 → Prop) (k0 : ∀ (r : Int32), P r → Z (some (.int r)) M) (h : gOKq (fX9_joinsIn_5h x1 x2 x3 x4 M) P) : gGo G YX9_joinsIn d Z 5 [some (.ref 141), some (.int x1), some (.int x2), some (.int x3), some (.int x4), none] [] M :=
  gLp_go (K := fun s : Int32 × Int32 => gGo G YX9_joinsIn d Z 5 [some (.ref 141), some (.int x1), some (.int x2), some (.int s.1), some (.int s.2), none] [] M) (P := P) (fun s hs => CX9_joinsIn_5 hd (x1) (x2) (s.1) (s.2) M (Sum.elim (fun s : Int32 × Int32 => gGo G YX9_joinsIn d Z 5 [some (.ref 141), some (.int x1), some (.int x2), some (.int s.1), some (.int s.2), none] [] M) P) k0 (fun x3 x4 hh => hh) hs) gFu (x3, x4) h
def fX9_joinsIn_0 (x1 : Int32) (x2 : Int32) (M : gMem) : Option (Int32) :=
  fX9_joinsIn_5h x1 x2 (0 : Int32) (0 : Int32) M
set_option maxRecDepth 100000 in
theorem CX9_joinsIn_0 {G : gG} {d : Nat} {Z : Option Value → gMem → Prop} (hd : 1 ≤ d) (x1 : Int32) (x2 : Int32) (M : gMem) (P : Int32 → Prop) (k0 : ∀ (r : Int32), P r → Z (some (.int r)) M) (h : gOKq (fX9_joinsIn_0 x1 x2 M) P) : gGo G YX9_joinsIn d Z 0 [some (.ref 141), some (.int x1), some (.int x2), none, none, none] [] M := by
  unfold fX9_joinsIn_0 at h
  refine go_rn 4 (pc' := 5) (L' := [some (.ref 141), some (.int x1), some (.int x2), some (.int (0 : Int32)), some (.int (0 : Int32)), none]) (S' := []) (M' := M) okX9_joinsIn rfl ?_
  exact go_wk (CX9_joinsIn_5h hd x1 x2 (0 : Int32) (0 : Int32) M P k0 h) ⟨rfl, rfl, rfl, rfl, rfl, True.intro⟩
def fX9_joinsIn (a1 : Int32) (a2 : Int32) (M : gMem) : Option (Int32) := fX9_joinsIn_0 a1 a2 M
theorem SX9_joinsIn {G : gG} (a1 : Int32) (a2 : Int32) (M : gMem) {r : Int32} (h : fX9_joinsIn a1 a2 M = some r) : gRun G YX9_joinsIn 1 [.ref 141, .int a1, .int a2] M (fun r' N' => r' = some (.int r) ∧ N' = M) := gRun_in (by decide +kernel) rfl (fun d hd => go_wk (CX9_joinsIn_0 hd a1 a2 M (fun p => p = r) (fun r hh => ⟨congrArg (fun z => some (Value.int z)) hh, rfl⟩) (gq_of h)) ⟨rfl, rfl, rfl, True.intro⟩)
def fX9_wideThen_0 (x1 : Int32) (x2 : Int32) (M : gMem) : Option (Int32) :=
  gB0 (fX9_firmOf x1 x2 M) (fun r1 => gB0 (fX9_joinsIn r1 x2 M) (fun r3 => gB0 (fX9_wideOf r1 r3 M) (fun r5 => some r5)))
set_option maxRecDepth 100000 in
theorem CX9_wideThen_0 {G : gG} {d : Nat} {Z : Option Value → gMem → Prop} (hd : 2 ≤ d) (x1 : Int32) (x2 : Int32) (M : gMem) (P : Int32 → Prop) (k0 : ∀ (r : Int32), P r → Z (some (.int r)) M) (h : gOKq (fX9_wideThen_0 x1 x2 M) P) : gGo G YX9_wideThen d Z 0 [some (.ref 141), some (.int x1), some (.int x2), none] [] M := by
  unfold fX9_wideThen_0 at h
  refine go_rn 3 (pc' := 3) (L' := [some (.ref 141), some (.int x1), some (.int x2), none]) (S' := [.int x2, .int x1, .ref 141]) (M' := M) okX9_wideThen rfl ?_
  obtain ⟨r1, e2, h⟩ := gB0_ok h
  refine go_call1 ocX9_wideThen rfl rfl (gOb_c rfl) rfl (SX9_firmOf x1 x2 M e2) (Nat.lt_of_lt_of_le (by decide) hd) ?_
  refine go_rn 6 (pc' := 12) (L' := [some (.ref 141), some (.int x1), some (.int x2), some (.int r1)]) (S' := [.int x2, .int r1, .ref 141, .int r1, .ref 141]) (M' := M) okX9_wideThen rfl ?_
  obtain ⟨r3, e4, h⟩ := gB0_ok h
  refine go_call1 ocX9_wideThen rfl rfl (gOb_c rfl) rfl (SX9_joinsIn r1 x2 M e4) (Nat.lt_of_lt_of_le (by decide) hd) ?_
  obtain ⟨r5, e6, h⟩ := gB0_ok h
  refine go_call1 ocX9_wideThen rfl rfl (gOb_c rfl) rfl (SX9_wideOf r1 r3 M e6) (Nat.lt_of_lt_of_le (by decide) hd) ?_
  exact go_iret (reX9_wideThen _ (by decide)) rfl (k0 r5 h)
def fX9_wideThen (a1 : Int32) (a2 : Int32) (M : gMem) : Option (Int32) := fX9_wideThen_0 a1 a2 M
theorem SX9_wideThen {G : gG} (a1 : Int32) (a2 : Int32) (M : gMem) {r : Int32} (h : fX9_wideThen a1 a2 M = some r) : gRun G YX9_wideThen 2 [.ref 141, .int a1, .int a2] M (fun r' N' => r' = some (.int r) ∧ N' = M) := gRun_in (by decide +kernel) rfl (fun d hd => go_wk (CX9_wideThen_0 hd a1 a2 M (fun p => p = r) (fun r hh => ⟨congrArg (fun z => some (Value.int z)) hh, rfl⟩) (gq_of h)) ⟨rfl, rfl, rfl, True.intro⟩)
def fX9_goesThrough_0 (x1 : Int32) (x2 : Int32) (x3 : Int32) (M : gMem) : Option (Int32) :=
  gB0 (fX9_isOut x1 x3 M) (fun r1 => if r1 = 0 then gB0 (fX9_wideThen x1 x3 M) (fun r3 => if gIx 1 151 x2 = true then if (M.1 151 (Int32.toNatClampNeg x2)) < r3 then some (0 : Int32) else some (1 : Int32) else none) else some (0 : Int32))
set_option maxRecDepth 100000 in
theorem CX9_goesThrough_0 {G : gG} {d : Nat} {Z : Option Value → gMem → Prop} (hd : 3 ≤ d) (x1 : Int32) (x2 : Int32) (x3 : Int32) (M : gMem) (P : Int32 → Prop) (k0 : ∀ (r : Int32), P r → Z (some (.int r)) M) (h : gOKq (fX9_goesThrough_0 x1 x2 x3 M) P) : gGo G YX9_goesThrough d Z 0 [some (.ref 141), some (.int x1), some (.int x2), some (.int x3)] [] M := by
  unfold fX9_goesThrough_0 at h
  refine go_rn 3 (pc' := 3) (L' := [some (.ref 141), some (.int x1), some (.int x2), some (.int x3)]) (S' := [.int x3, .int x1, .ref 141]) (M' := M) okX9_goesThrough rfl ?_
  obtain ⟨r1, e2, h⟩ := gB0_ok h
  refine go_call1 ocX9_goesThrough rfl rfl (gOb_c rfl) rfl (SX9_isOut x1 x3 M e2) (Nat.lt_of_lt_of_le (by decide) hd) ?_
  refine go_br okX9_goesThrough rfl (fun hp => ?_) (fun hp => ?_)
  · have h := gq_pos hp h
    refine go_rn 3 (pc' := 12) (L' := [some (.ref 141), some (.int x1), some (.int x2), some (.int x3)]) (S' := [.int x3, .int x1, .ref 141]) (M' := M) okX9_goesThrough rfl ?_
    obtain ⟨r3, e4, h⟩ := gB0_ok h
    refine go_call1 ocX9_goesThrough rfl rfl (gOb_c rfl) rfl (SX9_wideThen x1 x3 M e4) (Nat.lt_of_lt_of_le (by decide) hd) ?_
    refine go_rn 1 (pc' := 16) (L' := [some (.ref 141), some (.int x1), some (.int x2), some (.int x3)]) (S' := [.ref 141, .int r3]) (M' := M) okX9_goesThrough rfl ?_
    refine go_ck okX9_goesThrough rfl (gOb_c rfl) ?_
    refine go_rn 1 (pc' := 20) (L' := [some (.ref 141), some (.int x1), some (.int x2), some (.int x3)]) (S' := [.int x2, .ref 151, .int r3]) (M' := M) okX9_goesThrough rfl ?_
    obtain ⟨c5, h⟩ := gq_if h
    refine go_ck okX9_goesThrough rfl c5 ?_
    refine go_br okX9_goesThrough rfl (fun hp => ?_) (fun hp => ?_)
    · have h := gq_pos hp h
      refine go_rn 1 (pc' := 29) (L' := [some (.ref 141), some (.int x1), some (.int x2), some (.int x3)]) (S' := [.int (0 : Int32)]) (M' := M) okX9_goesThrough rfl ?_
      exact go_zret (reX9_goesThrough _ (by decide)) rfl (Or.inl rfl) (k0 (0 : Int32) h)
    · have h := gq_neg hp h
      refine go_rn 2 (pc' := 29) (L' := [some (.ref 141), some (.int x1), some (.int x2), some (.int x3)]) (S' := [.int (1 : Int32)]) (M' := M) okX9_goesThrough rfl ?_
      exact go_zret (reX9_goesThrough _ (by decide)) rfl (Or.inr rfl) (k0 (1 : Int32) h)
  · have h := gq_neg hp h
    refine go_rn 1 (pc' := 29) (L' := [some (.ref 141), some (.int x1), some (.int x2), some (.int x3)]) (S' := [.int (0 : Int32)]) (M' := M) okX9_goesThrough rfl ?_
    exact go_zret (reX9_goesThrough _ (by decide)) rfl (Or.inl rfl) (k0 (0 : Int32) h)
def fX9_goesThrough (a1 : Int32) (a2 : Int32) (a3 : Int32) (M : gMem) : Option (Int32) := fX9_goesThrough_0 a1 a2 a3 M
theorem SX9_goesThrough {G : gG} (a1 : Int32) (a2 : Int32) (a3 : Int32) (M : gMem) {r : Int32} (h : fX9_goesThrough a1 a2 a3 M = some r) : gRun G YX9_goesThrough 3 [.ref 141, .int a1, .int a2, .int a3] M (fun r' N' => r' = some (.int r) ∧ N' = M) := gRun_in (by decide +kernel) rfl (fun d hd => go_wk (CX9_goesThrough_0 hd a1 a2 a3 M (fun p => p = r) (fun r hh => ⟨congrArg (fun z => some (Value.int z)) hh, rfl⟩) (gq_of h)) ⟨rfl, rfl, rfl, rfl, True.intro⟩)
def fX9_isHead_0 (x1 : Int32) (x2 : Int32) (M : gMem) : Option (Int32) :=
  gB0 (fX9_firmOf x1 x2 M) (fun r1 => if r1 = 0 then some (0 : Int32) else if (r1 &&& (((1 : Int32) <<< (x1 &&& 31)) - (1 : Int32))) = 0 then some (1 : Int32) else some (0 : Int32))
set_option maxRecDepth 100000 in
theorem CX9_isHead_0 {G : gG} {d : Nat} {Z : Option Value → gMem → Prop} (hd : 2 ≤ d) (x1 : Int32) (x2 : Int32) (M : gMem) (P : Int32 → Prop) (k0 : ∀ (r : Int32), P r → Z (some (.int r)) M) (h : gOKq (fX9_isHead_0 x1 x2 M) P) : gGo G YX9_isHead d Z 0 [some (.ref 141), some (.int x1), some (.int x2), none] [] M := by
  unfold fX9_isHead_0 at h
  refine go_rn 3 (pc' := 3) (L' := [some (.ref 141), some (.int x1), some (.int x2), none]) (S' := [.int x2, .int x1, .ref 141]) (M' := M) okX9_isHead rfl ?_
  obtain ⟨r1, e2, h⟩ := gB0_ok h
  refine go_call1 ocX9_isHead rfl rfl (gOb_c rfl) rfl (SX9_firmOf x1 x2 M e2) (Nat.lt_of_lt_of_le (by decide) hd) ?_
  refine go_rn 2 (pc' := 8) (L' := [some (.ref 141), some (.int x1), some (.int x2), some (.int r1)]) (S' := [.int r1]) (M' := M) okX9_isHead rfl ?_
  refine go_br okX9_isHead rfl (fun hp => ?_) (fun hp => ?_)
  · have h := gq_pos hp h
    refine go_rn 1 (pc' := 26) (L' := [some (.ref 141), some (.int x1), some (.int x2), some (.int r1)]) (S' := [.int (0 : Int32)]) (M' := M) okX9_isHead rfl ?_
    exact go_zret (reX9_isHead _ (by decide)) rfl (Or.inl rfl) (k0 (0 : Int32) h)
  · have h := gq_neg hp h
    refine go_rn 7 (pc' := 18) (L' := [some (.ref 141), some (.int x1), some (.int x2), some (.int r1)]) (S' := [.int (r1 &&& (((1 : Int32) <<< (x1 &&& 31)) - (1 : Int32)))]) (M' := M) okX9_isHead rfl ?_
    refine go_br okX9_isHead rfl (fun hp => ?_) (fun hp => ?_)
    · have h := gq_pos hp h
      refine go_rn 2 (pc' := 26) (L' := [some (.ref 141), some (.int x1), some (.int x2), some (.int r1)]) (S' := [.int (1 : Int32)]) (M' := M) okX9_isHead rfl ?_
      exact go_zret (reX9_isHead _ (by decide)) rfl (Or.inr rfl) (k0 (1 : Int32) h)
    · have h := gq_neg hp h
      refine go_rn 1 (pc' := 26) (L' := [some (.ref 141), some (.int x1), some (.int x2), some (.int r1)]) (S' := [.int (0 : Int32)]) (M' := M) okX9_isHead rfl ?_
      exact go_zret (reX9_isHead _ (by decide)) rfl (Or.inl rfl) (k0 (0 : Int32) h)
def fX9_isHead (a1 : Int32) (a2 : Int32) (M : gMem) : Option (Int32) := fX9_isHead_0 a1 a2 M
theorem SX9_isHead {G : gG} (a1 : Int32) (a2 : Int32) (M : gMem) {r : Int32} (h : fX9_isHead a1 a2 M = some r) : gRun G YX9_isHead 2 [.ref 141, .int a1, .int a2] M (fun r' N' => r' = some (.int r) ∧ N' = M) := gRun_in (by decide +kernel) rfl (fun d hd => go_wk (CX9_isHead_0 hd a1 a2 M (fun p => p = r) (fun r hh => ⟨congrArg (fun z => some (Value.int z)) hh, rfl⟩) (gq_of h)) ⟨rfl, rfl, rfl, True.intro⟩)
def fX9_partner_8 (x1 : Int32) (x2 : Int32) (s0 : Int64) (M : gMem) : Option (Int32 × gMem) :=
  gB0 (fX9_isPerson s0 M) (fun r1 => if r1 = 0 then some ((-2 : Int32), M) else gB0 (fX9_in (Int32.toInt64 x2) (0 : Int64) (2 : Int64) M) (fun r3 => if r3 = 0 then some ((-2 : Int32), M) else if gIx 1 149 (((3 : Int32) * x1) + x2) = true then some ((M.1 149 (Int32.toNatClampNeg (((3 : Int32) * x1) + x2))), M) else none))
set_option maxRecDepth 100000 in
theorem CX9_partner_8 {G : gG} {d : Nat} {Z : Option Value → gMem → Prop} (hd : 2 ≤ d) (x1 : Int32) (x2 : Int32) (s0 : Int64) (M : gMem) (P : Int32 × gMem → Prop) (k0 : ∀ (r : Int32) (N : gMem), P (r, N) → Z (some (.int r)) N) (h : gOKq (fX9_partner_8 x1 x2 s0 M) P) : gGo G YX9_partner d Z 8 [some (.ref 141), some (.int x1), some (.int x2)] [.long s0, .ref 141] M := by
  unfold fX9_partner_8 at h
  obtain ⟨r1, e2, h⟩ := gB0_ok h
  refine go_call1 ocX9_partner rfl rfl (gOb_c rfl) rfl (SX9_isPerson s0 M e2) (Nat.lt_of_lt_of_le (by decide) hd) ?_
  refine go_br okX9_partner rfl (fun hp => ?_) (fun hp => ?_)
  · have h := gq_pos hp h
    refine go_rn 1 (pc' := 41) (L' := [some (.ref 141), some (.int x1), some (.int x2)]) (S' := [.int (-2 : Int32)]) (M' := M) okX9_partner rfl ?_
    exact go_iret (reX9_partner _ (by decide)) rfl (k0 (-2 : Int32) M h)
  · have h := gq_neg hp h
    refine go_rn 4 (pc' := 20) (L' := [some (.ref 141), some (.int x1), some (.int x2)]) (S' := [.long (2 : Int64), .long (0 : Int64), .long (Int32.toInt64 x2)]) (M' := M) okX9_partner rfl ?_
    obtain ⟨r3, e4, h⟩ := gB0_ok h
    refine go_call1 ocX9_partner rfl rfl rfl rfl (SX9_in (Int32.toInt64 x2) (0 : Int64) (2 : Int64) M e4) (Nat.lt_of_lt_of_le (by decide) hd) ?_
    refine go_br okX9_partner rfl (fun hp => ?_) (fun hp => ?_)
    · have h := gq_pos hp h
      refine go_rn 1 (pc' := 41) (L' := [some (.ref 141), some (.int x1), some (.int x2)]) (S' := [.int (-2 : Int32)]) (M' := M) okX9_partner rfl ?_
      exact go_iret (reX9_partner _ (by decide)) rfl (k0 (-2 : Int32) M h)
    · have h := gq_neg hp h
      refine go_rn 1 (pc' := 27) (L' := [some (.ref 141), some (.int x1), some (.int x2)]) (S' := [.ref 141]) (M' := M) okX9_partner rfl ?_
      refine go_ck okX9_partner rfl (gOb_c rfl) ?_
      refine go_rn 5 (pc' := 35) (L' := [some (.ref 141), some (.int x1), some (.int x2)]) (S' := [.int (((3 : Int32) * x1) + x2), .ref 149]) (M' := M) okX9_partner rfl ?_
      obtain ⟨c5, h⟩ := gq_if h
      refine go_ck okX9_partner rfl c5 ?_
      refine go_rn 1 (pc' := 41) (L' := [some (.ref 141), some (.int x1), some (.int x2)]) (S' := [.int (M.1 149 (Int32.toNatClampNeg (((3 : Int32) * x1) + x2)))]) (M' := M) okX9_partner rfl ?_
      exact go_iret (reX9_partner _ (by decide)) rfl (k0 (M.1 149 (Int32.toNatClampNeg (((3 : Int32) * x1) + x2))) M h)
def fX9_partner_0 (x1 : Int32) (x2 : Int32) (M : gMem) : Option (Int32 × gMem) :=
  fX9_partner_8 x1 x2 (Int32.toInt64 x1) (gSI M 141 0 (0 : Int32))
set_option maxRecDepth 100000 in
theorem CX9_partner_0 {G : gG} {d : Nat} {Z : Option Value → gMem → Prop} (hd : 2 ≤ d) (x1 : Int32) (x2 : Int32) (M : gMem) (P : Int32 × gMem → Prop) (k0 : ∀ (r : Int32) (N : gMem), P (r, N) → Z (some (.int r)) N) (h : gOKq (fX9_partner_0 x1 x2 M) P) : gGo G YX9_partner d Z 0 [some (.ref 141), some (.int x1), some (.int x2)] [] M := by
  unfold fX9_partner_0 at h
  refine go_rn 2 (pc' := 2) (L' := [some (.ref 141), some (.int x1), some (.int x2)]) (S' := [.int (0 : Int32), .ref 141]) (M' := M) okX9_partner rfl ?_
  refine go_ck okX9_partner rfl (gOb_c rfl) ?_
  refine go_rn 3 (pc' := 8) (L' := [some (.ref 141), some (.int x1), some (.int x2)]) (S' := [.long (Int32.toInt64 x1), .ref 141]) (M' := (gSI M 141 0 (0 : Int32))) okX9_partner rfl ?_
  exact go_wk (CX9_partner_8 hd x1 x2 (Int32.toInt64 x1) (gSI M 141 0 (0 : Int32)) P k0 h) ⟨rfl, rfl, rfl, True.intro⟩
def fX9_partner (a1 : Int32) (a2 : Int32) (M : gMem) : Option (Int32 × gMem) := fX9_partner_0 a1 a2 M
theorem SX9_partner {G : gG} (a1 : Int32) (a2 : Int32) (M : gMem) {r : Int32} {N : gMem} (h : fX9_partner a1 a2 M = some (r, N)) : gRun G YX9_partner 2 [.ref 141, .int a1, .int a2] M (fun r' N' => r' = some (.int r) ∧ N' = N) := gRun_in (by decide +kernel) rfl (fun d hd => go_wk (CX9_partner_0 hd a1 a2 M (fun p => p = (r, N)) (fun r N hh => by cases hh; exact ⟨rfl, rfl⟩) (gq_of h)) ⟨rfl, rfl, rfl, True.intro⟩)
def fX9_join_7 (x1 : Int32) (x2 : Int32) (s0 : Int32) (M : gMem) : Option (Int32 × gMem) :=
  gB0 (fX9_isJoin s0 M) (fun r1 => if r1 = 0 then some ((-2 : Int32), M) else gB0 (fX9_in (Int32.toInt64 x2) (0 : Int64) (2 : Int64) M) (fun r3 => if r3 = 0 then some ((-2 : Int32), M) else if gIx 1 150 (((3 : Int32) * x1) + x2) = true then some ((M.1 150 (Int32.toNatClampNeg (((3 : Int32) * x1) + x2))), M) else none))
set_option maxRecDepth 100000 in
theorem CX9_join_7 {G : gG} {d : Nat} {Z : Option Value → gMem → Prop} (hd : 2 ≤ d) (x1 : Int32) (x2 : Int32) (s0 : Int32) (M : gMem) (P : Int32 × gMem → Prop) (k0 : ∀ (r : Int32) (N : gMem), P (r, N) → Z (some (.int r)) N) (h : gOKq (fX9_join_7 x1 x2 s0 M) P) : gGo G YX9_join d Z 7 [some (.ref 141), some (.int x1), some (.int x2)] [.int s0, .ref 141] M := by
  unfold fX9_join_7 at h
  obtain ⟨r1, e2, h⟩ := gB0_ok h
  refine go_call1 ocX9_join rfl rfl (gOb_c rfl) rfl (SX9_isJoin s0 M e2) (Nat.lt_of_lt_of_le (by decide) hd) ?_
  refine go_br okX9_join rfl (fun hp => ?_) (fun hp => ?_)
  · have h := gq_pos hp h
    refine go_rn 1 (pc' := 40) (L' := [some (.ref 141), some (.int x1), some (.int x2)]) (S' := [.int (-2 : Int32)]) (M' := M) okX9_join rfl ?_
    exact go_iret (reX9_join _ (by decide)) rfl (k0 (-2 : Int32) M h)
  · have h := gq_neg hp h
    refine go_rn 4 (pc' := 19) (L' := [some (.ref 141), some (.int x1), some (.int x2)]) (S' := [.long (2 : Int64), .long (0 : Int64), .long (Int32.toInt64 x2)]) (M' := M) okX9_join rfl ?_
    obtain ⟨r3, e4, h⟩ := gB0_ok h
    refine go_call1 ocX9_join rfl rfl rfl rfl (SX9_in (Int32.toInt64 x2) (0 : Int64) (2 : Int64) M e4) (Nat.lt_of_lt_of_le (by decide) hd) ?_
    refine go_br okX9_join rfl (fun hp => ?_) (fun hp => ?_)
    · have h := gq_pos hp h
      refine go_rn 1 (pc' := 40) (L' := [some (.ref 141), some (.int x1), some (.int x2)]) (S' := [.int (-2 : Int32)]) (M' := M) okX9_join rfl ?_
      exact go_iret (reX9_join _ (by decide)) rfl (k0 (-2 : Int32) M h)
    · have h := gq_neg hp h
      refine go_rn 1 (pc' := 26) (L' := [some (.ref 141), some (.int x1), some (.int x2)]) (S' := [.ref 141]) (M' := M) okX9_join rfl ?_
      refine go_ck okX9_join rfl (gOb_c rfl) ?_
      refine go_rn 5 (pc' := 34) (L' := [some (.ref 141), some (.int x1), some (.int x2)]) (S' := [.int (((3 : Int32) * x1) + x2), .ref 150]) (M' := M) okX9_join rfl ?_
      obtain ⟨c5, h⟩ := gq_if h
      refine go_ck okX9_join rfl c5 ?_
      refine go_rn 1 (pc' := 40) (L' := [some (.ref 141), some (.int x1), some (.int x2)]) (S' := [.int (M.1 150 (Int32.toNatClampNeg (((3 : Int32) * x1) + x2)))]) (M' := M) okX9_join rfl ?_
      exact go_iret (reX9_join _ (by decide)) rfl (k0 (M.1 150 (Int32.toNatClampNeg (((3 : Int32) * x1) + x2))) M h)
def fX9_join_0 (x1 : Int32) (x2 : Int32) (M : gMem) : Option (Int32 × gMem) :=
  fX9_join_7 x1 x2 x1 (gSI M 141 0 (0 : Int32))
set_option maxRecDepth 100000 in
theorem CX9_join_0 {G : gG} {d : Nat} {Z : Option Value → gMem → Prop} (hd : 2 ≤ d) (x1 : Int32) (x2 : Int32) (M : gMem) (P : Int32 × gMem → Prop) (k0 : ∀ (r : Int32) (N : gMem), P (r, N) → Z (some (.int r)) N) (h : gOKq (fX9_join_0 x1 x2 M) P) : gGo G YX9_join d Z 0 [some (.ref 141), some (.int x1), some (.int x2)] [] M := by
  unfold fX9_join_0 at h
  refine go_rn 2 (pc' := 2) (L' := [some (.ref 141), some (.int x1), some (.int x2)]) (S' := [.int (0 : Int32), .ref 141]) (M' := M) okX9_join rfl ?_
  refine go_ck okX9_join rfl (gOb_c rfl) ?_
  refine go_rn 2 (pc' := 7) (L' := [some (.ref 141), some (.int x1), some (.int x2)]) (S' := [.int x1, .ref 141]) (M' := (gSI M 141 0 (0 : Int32))) okX9_join rfl ?_
  exact go_wk (CX9_join_7 hd x1 x2 x1 (gSI M 141 0 (0 : Int32)) P k0 h) ⟨rfl, rfl, rfl, True.intro⟩
def fX9_join (a1 : Int32) (a2 : Int32) (M : gMem) : Option (Int32 × gMem) := fX9_join_0 a1 a2 M
theorem SX9_join {G : gG} (a1 : Int32) (a2 : Int32) (M : gMem) {r : Int32} {N : gMem} (h : fX9_join a1 a2 M = some (r, N)) : gRun G YX9_join 2 [.ref 141, .int a1, .int a2] M (fun r' N' => r' = some (.int r) ∧ N' = N) := gRun_in (by decide +kernel) rfl (fun d hd => go_wk (CX9_join_0 hd a1 a2 M (fun p => p = (r, N)) (fun r N hh => by cases hh; exact ⟨rfl, rfl⟩) (gq_of h)) ⟨rfl, rfl, rfl, True.intro⟩)
def fX9_door_8 (x1 : Int32) (s0 : Int64) (M : gMem) : Option (Int32 × gMem) :=
  gB0 (fX9_isDoor s0 M) (fun r1 => if r1 = 0 then some ((-2 : Int32), M) else if gIx 1 151 x1 = true then some ((M.1 151 (Int32.toNatClampNeg x1)), M) else none)
set_option maxRecDepth 100000 in
theorem CX9_door_8 {G : gG} {d : Nat} {Z : Option Value → gMem → Prop} (hd : 2 ≤ d) (x1 : Int32) (s0 : Int64) (M : gMem) (P : Int32 × gMem → Prop) (k0 : ∀ (r : Int32) (N : gMem), P (r, N) → Z (some (.int r)) N) (h : gOKq (fX9_door_8 x1 s0 M) P) : gGo G YX9_door d Z 8 [some (.ref 141), some (.int x1)] [.long s0, .ref 141] M := by
  unfold fX9_door_8 at h
  obtain ⟨r1, e2, h⟩ := gB0_ok h
  refine go_call1 ocX9_door rfl rfl (gOb_c rfl) rfl (SX9_isDoor s0 M e2) (Nat.lt_of_lt_of_le (by decide) hd) ?_
  refine go_br okX9_door rfl (fun hp => ?_) (fun hp => ?_)
  · have h := gq_pos hp h
    refine go_rn 1 (pc' := 25) (L' := [some (.ref 141), some (.int x1)]) (S' := [.int (-2 : Int32)]) (M' := M) okX9_door rfl ?_
    exact go_iret (reX9_door _ (by decide)) rfl (k0 (-2 : Int32) M h)
  · have h := gq_neg hp h
    refine go_rn 1 (pc' := 15) (L' := [some (.ref 141), some (.int x1)]) (S' := [.ref 141]) (M' := M) okX9_door rfl ?_
    refine go_ck okX9_door rfl (gOb_c rfl) ?_
    refine go_rn 1 (pc' := 19) (L' := [some (.ref 141), some (.int x1)]) (S' := [.int x1, .ref 151]) (M' := M) okX9_door rfl ?_
    obtain ⟨c3, h⟩ := gq_if h
    refine go_ck okX9_door rfl c3 ?_
    refine go_rn 1 (pc' := 25) (L' := [some (.ref 141), some (.int x1)]) (S' := [.int (M.1 151 (Int32.toNatClampNeg x1))]) (M' := M) okX9_door rfl ?_
    exact go_iret (reX9_door _ (by decide)) rfl (k0 (M.1 151 (Int32.toNatClampNeg x1)) M h)
def fX9_door_0 (x1 : Int32) (M : gMem) : Option (Int32 × gMem) :=
  fX9_door_8 x1 (Int32.toInt64 x1) (gSI M 141 0 (0 : Int32))
set_option maxRecDepth 100000 in
theorem CX9_door_0 {G : gG} {d : Nat} {Z : Option Value → gMem → Prop} (hd : 2 ≤ d) (x1 : Int32) (M : gMem) (P : Int32 × gMem → Prop) (k0 : ∀ (r : Int32) (N : gMem), P (r, N) → Z (some (.int r)) N) (h : gOKq (fX9_door_0 x1 M) P) : gGo G YX9_door d Z 0 [some (.ref 141), some (.int x1)] [] M := by
  unfold fX9_door_0 at h
  refine go_rn 2 (pc' := 2) (L' := [some (.ref 141), some (.int x1)]) (S' := [.int (0 : Int32), .ref 141]) (M' := M) okX9_door rfl ?_
  refine go_ck okX9_door rfl (gOb_c rfl) ?_
  refine go_rn 3 (pc' := 8) (L' := [some (.ref 141), some (.int x1)]) (S' := [.long (Int32.toInt64 x1), .ref 141]) (M' := (gSI M 141 0 (0 : Int32))) okX9_door rfl ?_
  exact go_wk (CX9_door_8 hd x1 (Int32.toInt64 x1) (gSI M 141 0 (0 : Int32)) P k0 h) ⟨rfl, rfl, True.intro⟩
def fX9_door (a1 : Int32) (M : gMem) : Option (Int32 × gMem) := fX9_door_0 a1 M
theorem SX9_door {G : gG} (a1 : Int32) (M : gMem) {r : Int32} {N : gMem} (h : fX9_door a1 M = some (r, N)) : gRun G YX9_door 2 [.ref 141, .int a1] M (fun r' N' => r' = some (.int r) ∧ N' = N) := gRun_in (by decide +kernel) rfl (fun d hd => go_wk (CX9_door_0 hd a1 M (fun p => p = (r, N)) (fun r N hh => by cases hh; exact ⟨rfl, rfl⟩) (gq_of h)) ⟨rfl, rfl, True.intro⟩)
def fX9_isToldThen_0 (x1 : Int32) (x2 : Int32) (M : gMem) : Option (Int32) :=
  gB0 (fX9_isTold x1 x2 M) (fun r1 => if r1 = 0 then some (0 : Int32) else if gIx 1 150 ((3 : Int32) * x1) = true then gB0 (fX9_isOut (M.1 150 (Int32.toNatClampNeg ((3 : Int32) * x1))) x2 M) (fun r4 => if r4 = 0 then if gIx 1 150 (((3 : Int32) * x1) + (1 : Int32)) = true then gB0 (fX9_isOut (M.1 150 (Int32.toNatClampNeg (((3 : Int32) * x1) + (1 : Int32)))) x2 M) (fun r7 => if r7 = 0 then some (1 : Int32) else some (0 : Int32)) else none else some (0 : Int32)) else none)
set_option maxRecDepth 100000 in
theorem CX9_isToldThen_0 {G : gG} {d : Nat} {Z : Option Value → gMem → Prop} (hd : 3 ≤ d) (x1 : Int32) (x2 : Int32) (M : gMem) (P : Int32 → Prop) (k0 : ∀ (r : Int32), P r → Z (some (.int r)) M) (h : gOKq (fX9_isToldThen_0 x1 x2 M) P) : gGo G YX9_isToldThen d Z 0 [some (.ref 141), some (.int x1), some (.int x2)] [] M := by
  unfold fX9_isToldThen_0 at h
  refine go_rn 3 (pc' := 3) (L' := [some (.ref 141), some (.int x1), some (.int x2)]) (S' := [.int x2, .int x1, .ref 141]) (M' := M) okX9_isToldThen rfl ?_
  obtain ⟨r1, e2, h⟩ := gB0_ok h
  refine go_call1 ocX9_isToldThen rfl rfl (gOb_c rfl) rfl (SX9_isTold x1 x2 M e2) (Nat.lt_of_lt_of_le (by decide) hd) ?_
  refine go_br okX9_isToldThen rfl (fun hp => ?_) (fun hp => ?_)
  · have h := gq_pos hp h
    refine go_rn 1 (pc' := 48) (L' := [some (.ref 141), some (.int x1), some (.int x2)]) (S' := [.int (0 : Int32)]) (M' := M) okX9_isToldThen rfl ?_
    exact go_zret (reX9_isToldThen _ (by decide)) rfl (Or.inl rfl) (k0 (0 : Int32) h)
  · have h := gq_neg hp h
    refine go_rn 2 (pc' := 11) (L' := [some (.ref 141), some (.int x1), some (.int x2)]) (S' := [.ref 141, .ref 141]) (M' := M) okX9_isToldThen rfl ?_
    refine go_ck okX9_isToldThen rfl (gOb_c rfl) ?_
    refine go_rn 3 (pc' := 17) (L' := [some (.ref 141), some (.int x1), some (.int x2)]) (S' := [.int ((3 : Int32) * x1), .ref 150, .ref 141]) (M' := M) okX9_isToldThen rfl ?_
    obtain ⟨c3, h⟩ := gq_if h
    refine go_ck okX9_isToldThen rfl c3 ?_
    refine go_rn 1 (pc' := 19) (L' := [some (.ref 141), some (.int x1), some (.int x2)]) (S' := [.int x2, .int (M.1 150 (Int32.toNatClampNeg ((3 : Int32) * x1))), .ref 141]) (M' := M) okX9_isToldThen rfl ?_
    obtain ⟨r4, e5, h⟩ := gB0_ok h
    refine go_call1 ocX9_isToldThen rfl rfl (gOb_c rfl) rfl (SX9_isOut (M.1 150 (Int32.toNatClampNeg ((3 : Int32) * x1))) x2 M e5) (Nat.lt_of_lt_of_le (by decide) hd) ?_
    refine go_br okX9_isToldThen rfl (fun hp => ?_) (fun hp => ?_)
    · have h := gq_pos hp h
      refine go_rn 2 (pc' := 27) (L' := [some (.ref 141), some (.int x1), some (.int x2)]) (S' := [.ref 141, .ref 141]) (M' := M) okX9_isToldThen rfl ?_
      refine go_ck okX9_isToldThen rfl (gOb_c rfl) ?_
      refine go_rn 5 (pc' := 35) (L' := [some (.ref 141), some (.int x1), some (.int x2)]) (S' := [.int (((3 : Int32) * x1) + (1 : Int32)), .ref 150, .ref 141]) (M' := M) okX9_isToldThen rfl ?_
      obtain ⟨c6, h⟩ := gq_if h
      refine go_ck okX9_isToldThen rfl c6 ?_
      refine go_rn 1 (pc' := 37) (L' := [some (.ref 141), some (.int x1), some (.int x2)]) (S' := [.int x2, .int (M.1 150 (Int32.toNatClampNeg (((3 : Int32) * x1) + (1 : Int32)))), .ref 141]) (M' := M) okX9_isToldThen rfl ?_
      obtain ⟨r7, e8, h⟩ := gB0_ok h
      refine go_call1 ocX9_isToldThen rfl rfl (gOb_c rfl) rfl (SX9_isOut (M.1 150 (Int32.toNatClampNeg (((3 : Int32) * x1) + (1 : Int32)))) x2 M e8) (Nat.lt_of_lt_of_le (by decide) hd) ?_
      refine go_br okX9_isToldThen rfl (fun hp => ?_) (fun hp => ?_)
      · have h := gq_pos hp h
        refine go_rn 2 (pc' := 48) (L' := [some (.ref 141), some (.int x1), some (.int x2)]) (S' := [.int (1 : Int32)]) (M' := M) okX9_isToldThen rfl ?_
        exact go_zret (reX9_isToldThen _ (by decide)) rfl (Or.inr rfl) (k0 (1 : Int32) h)
      · have h := gq_neg hp h
        refine go_rn 1 (pc' := 48) (L' := [some (.ref 141), some (.int x1), some (.int x2)]) (S' := [.int (0 : Int32)]) (M' := M) okX9_isToldThen rfl ?_
        exact go_zret (reX9_isToldThen _ (by decide)) rfl (Or.inl rfl) (k0 (0 : Int32) h)
    · have h := gq_neg hp h
      refine go_rn 1 (pc' := 48) (L' := [some (.ref 141), some (.int x1), some (.int x2)]) (S' := [.int (0 : Int32)]) (M' := M) okX9_isToldThen rfl ?_
      exact go_zret (reX9_isToldThen _ (by decide)) rfl (Or.inl rfl) (k0 (0 : Int32) h)
def fX9_isToldThen (a1 : Int32) (a2 : Int32) (M : gMem) : Option (Int32) := fX9_isToldThen_0 a1 a2 M
theorem SX9_isToldThen {G : gG} (a1 : Int32) (a2 : Int32) (M : gMem) {r : Int32} (h : fX9_isToldThen a1 a2 M = some r) : gRun G YX9_isToldThen 3 [.ref 141, .int a1, .int a2] M (fun r' N' => r' = some (.int r) ∧ N' = M) := gRun_in (by decide +kernel) rfl (fun d hd => go_wk (CX9_isToldThen_0 hd a1 a2 M (fun p => p = r) (fun r hh => ⟨congrArg (fun z => some (Value.int z)) hh, rfl⟩) (gq_of h)) ⟨rfl, rfl, rfl, True.intro⟩)
def fX9_holds_24 (x1 : Int32) (x2 : Int32) (x3 : Int32) (M : gMem) : Option (Sum (Int32 × Int32) (Int32 × gMem)) :=
  gB0 (fX9_joins M) (fun r1 => if r1 ≤ x3 then some (.inr (x2, M)) else gB0 (fX9_isToldThen x3 x1 M) (fun r3 => if r3 = 0 then some (.inl ((x2 ||| (0 : Int32)), (x3 + 1))) else some (.inl ((x2 ||| ((1 : Int32) <<< (x3 &&& 31))), (x3 + 1)))))
set_option maxRecDepth 100000 in
theorem CX9_holds_24 {G : gG} {d : Nat} {Z : Option Value → gMem → Prop} (hd : 8 ≤ d) (x1 : Int32) (x2 : Int32) (x3 : Int32) (M : gMem) (P : Sum (Int32 × Int32) (Int32 × gMem) → Prop) (k0 : ∀ (r : Int32) (N : gMem), P (.inr (r, N)) → Z (some (.int r)) N) (k1 : ∀ (x2 : Int32) (x3 : Int32), P (.inl (x2, x3)) → gGo G YX9_holds d Z 24 [some (.ref 141), some (.int x1), some (.int x2), some (.int x3)] [] M) (h : gOKq (fX9_holds_24 x1 x2 x3 M) P) : gGo G YX9_holds d Z 24 [some (.ref 141), some (.int x1), some (.int x2), some (.int x3)] [] M := by
  unfold fX9_holds_24 at h
  refine go_rn 2 (pc' := 26) (L' := [some (.ref 141), some (.int x1), some (.int x2), some (.int x3)]) (S' := [.ref 141, .int x3]) (M' := M) okX9_holds rfl ?_
  obtain ⟨r1, e2, h⟩ := gB0_ok h
  refine go_call1 ocX9_holds rfl rfl (gOb_c rfl) rfl (SX9_joins M e2) (Nat.lt_of_lt_of_le (by decide) hd) ?_
  refine go_br okX9_holds rfl (fun hp => ?_) (fun hp => ?_)
  · have h := gq_pos hp h
    refine go_rn 1 (pc' := 58) (L' := [some (.ref 141), some (.int x1), some (.int x2), some (.int x3)]) (S' := [.int x2]) (M' := M) okX9_holds rfl ?_
    exact go_iret (reX9_holds _ (by decide)) rfl (k0 x2 M h)
  · have h := gq_neg hp h
    refine go_rn 4 (pc' := 36) (L' := [some (.ref 141), some (.int x1), some (.int x2), some (.int x3)]) (S' := [.int x1, .int x3, .ref 141, .int x2]) (M' := M) okX9_holds rfl ?_
    obtain ⟨r3, e4, h⟩ := gB0_ok h
    refine go_call1 ocX9_holds rfl rfl (gOb_c rfl) rfl (SX9_isToldThen x3 x1 M e4) (Nat.lt_of_lt_of_le (by decide) hd) ?_
    refine go_br okX9_holds rfl (fun hp => ?_) (fun hp => ?_)
    · have h := gq_pos hp h
      refine go_rn 5 (pc' := 24) (L' := [some (.ref 141), some (.int x1), some (.int (x2 ||| (0 : Int32))), some (.int (x3 + 1))]) (S' := []) (M' := M) okX9_holds rfl ?_
      exact go_wk (k1 ((x2 ||| (0 : Int32))) ((x3 + 1)) h) ⟨rfl, rfl, rfl, rfl, True.intro⟩
    · have h := gq_neg hp h
      refine go_rn 8 (pc' := 24) (L' := [some (.ref 141), some (.int x1), some (.int (x2 ||| ((1 : Int32) <<< (x3 &&& 31)))), some (.int (x3 + 1))]) (S' := []) (M' := M) okX9_holds rfl ?_
      exact go_wk (k1 ((x2 ||| ((1 : Int32) <<< (x3 &&& 31)))) ((x3 + 1)) h) ⟨rfl, rfl, rfl, rfl, True.intro⟩
def fX9_holds_24h (x1 : Int32) (x2 : Int32) (x3 : Int32) (M : gMem) : Option (Int32 × gMem) :=
  gLp (fun s : Int32 × Int32 => fX9_holds_24 x1 (s.1) (s.2) M) gFu (x2, x3)
set_option maxRecDepth 100000 in
theorem CX9_holds_24h {G : gG} {d : Nat} {Z : Option Value → gMem → Prop} (hd : 8 ≤ d) (x1 : Int32) (x2 : Int32) (x3 : Int32) (M : gMem) (P : Int32 × gMem → Prop) (k0 : ∀ (r : Int32) (N : gMem), P (r, N) → Z (some (.int r)) N) (h : gOKq (fX9_holds_24h x1 x2 x3 M) P) : gGo G YX9_holds d Z 24 [some (.ref 141), some (.int x1), some (.int x2), some (.int x3)] [] M :=
  gLp_go (K := fun s : Int32 × Int32 => gGo G YX9_holds d Z 24 [some (.ref 141), some (.int x1), some (.int s.1), some (.int s.2)] [] M) (P := P) (fun s hs => CX9_holds_24 hd (x1) (s.1) (s.2) M (Sum.elim (fun s : Int32 × Int32 => gGo G YX9_holds d Z 24 [some (.ref 141), some (.int x1), some (.int s.1), some (.int s.2)] [] M) P) k0 (fun x2 x3 hh => hh) hs) gFu (x2, x3) h
def fX9_holds_7 (x1 : Int32) (s0 : Int32) (M : gMem) : Option (Int32 × gMem) :=
  gB0 (fX9_isYear s0 M) (fun r1 => if r1 = 0 then some ((-2 : Int32), M) else gB0 (fX9_laysNow M) (fun M3 => fX9_holds_24h x1 (0 : Int32) (0 : Int32) M3))
set_option maxRecDepth 100000 in
theorem CX9_holds_7 {G : gG} {d : Nat} {Z : Option Value → gMem → Prop} (hd : 8 ≤ d) (x1 : Int32) (s0 : Int32) (M : gMem) (P : Int32 × gMem → Prop) (k0 : ∀ (r : Int32) (N : gMem), P (r, N) → Z (some (.int r)) N) (h : gOKq (fX9_holds_7 x1 s0 M) P) : gGo G YX9_holds d Z 7 [some (.ref 141), some (.int x1), none, none] [.int s0, .ref 141] M := by
  unfold fX9_holds_7 at h
  obtain ⟨r1, e2, h⟩ := gB0_ok h
  refine go_call1 ocX9_holds rfl rfl (gOb_c rfl) rfl (SX9_isYear s0 M e2) (Nat.lt_of_lt_of_le (by decide) hd) ?_
  refine go_br okX9_holds rfl (fun hp => ?_) (fun hp => ?_)
  · have h := gq_pos hp h
    refine go_rn 1 (pc' := 15) (L' := [some (.ref 141), some (.int x1), none, none]) (S' := [.int (-2 : Int32)]) (M' := M) okX9_holds rfl ?_
    exact go_iret (reX9_holds _ (by decide)) rfl (k0 (-2 : Int32) M h)
  · have h := gq_neg hp h
    refine go_rn 1 (pc' := 17) (L' := [some (.ref 141), some (.int x1), none, none]) (S' := [.ref 141]) (M' := M) okX9_holds rfl ?_
    obtain ⟨M3, e4, h⟩ := gB0_ok h
    refine go_call1 ocX9_holds rfl rfl (gOb_c rfl) rfl (SX9_laysNow M e4) (Nat.lt_of_lt_of_le (by decide) hd) ?_
    refine go_rn 4 (pc' := 24) (L' := [some (.ref 141), some (.int x1), some (.int (0 : Int32)), some (.int (0 : Int32))]) (S' := []) (M' := M3) okX9_holds rfl ?_
    exact go_wk (CX9_holds_24h hd x1 (0 : Int32) (0 : Int32) M3 P k0 h) ⟨rfl, rfl, rfl, rfl, True.intro⟩
def fX9_holds_0 (x1 : Int32) (M : gMem) : Option (Int32 × gMem) :=
  fX9_holds_7 x1 x1 (gSI M 141 0 (0 : Int32))
set_option maxRecDepth 100000 in
theorem CX9_holds_0 {G : gG} {d : Nat} {Z : Option Value → gMem → Prop} (hd : 8 ≤ d) (x1 : Int32) (M : gMem) (P : Int32 × gMem → Prop) (k0 : ∀ (r : Int32) (N : gMem), P (r, N) → Z (some (.int r)) N) (h : gOKq (fX9_holds_0 x1 M) P) : gGo G YX9_holds d Z 0 [some (.ref 141), some (.int x1), none, none] [] M := by
  unfold fX9_holds_0 at h
  refine go_rn 2 (pc' := 2) (L' := [some (.ref 141), some (.int x1), none, none]) (S' := [.int (0 : Int32), .ref 141]) (M' := M) okX9_holds rfl ?_
  refine go_ck okX9_holds rfl (gOb_c rfl) ?_
  refine go_rn 2 (pc' := 7) (L' := [some (.ref 141), some (.int x1), none, none]) (S' := [.int x1, .ref 141]) (M' := (gSI M 141 0 (0 : Int32))) okX9_holds rfl ?_
  exact go_wk (CX9_holds_7 hd x1 x1 (gSI M 141 0 (0 : Int32)) P k0 h) ⟨rfl, rfl, True.intro⟩
def fX9_holds (a1 : Int32) (M : gMem) : Option (Int32 × gMem) := fX9_holds_0 a1 M
theorem SX9_holds {G : gG} (a1 : Int32) (M : gMem) {r : Int32} {N : gMem} (h : fX9_holds a1 M = some (r, N)) : gRun G YX9_holds 8 [.ref 141, .int a1] M (fun r' N' => r' = some (.int r) ∧ N' = N) := gRun_in (by decide +kernel) rfl (fun d hd => go_wk (CX9_holds_0 hd a1 M (fun p => p = (r, N)) (fun r N hh => by cases hh; exact ⟨rfl, rfl⟩) (gq_of h)) ⟨rfl, rfl, True.intro⟩)
def fX9_tied_8 (x1 : Int32) (x2 : Int32) (x3 : Int32) (s0 : Int32) (s1 : Int32) (M : gMem) : Option (Int32 × gMem) :=
  gB0 (fX9_areTwo s1 s0 M) (fun r1 => if r1 = 0 then some ((-2 : Int32), M) else gB0 (fX9_isYear x3 M) (fun r3 => if r3 = 0 then some ((-2 : Int32), M) else gB0 (fX9_laysNow M) (fun M5 => if gIx 1 155 ((((36 : Int32) * x3) + ((6 : Int32) * x1)) + x2) = true then if (M5.1 155 (Int32.toNatClampNeg ((((36 : Int32) * x3) + ((6 : Int32) * x1)) + x2))) ≤ 0 then some ((0 : Int32), M5) else some ((1 : Int32), M5) else none)))
set_option maxRecDepth 100000 in
theorem CX9_tied_8 {G : gG} {d : Nat} {Z : Option Value → gMem → Prop} (hd : 8 ≤ d) (x1 : Int32) (x2 : Int32) (x3 : Int32) (s0 : Int32) (s1 : Int32) (M : gMem) (P : Int32 × gMem → Prop) (k0 : ∀ (r : Int32) (N : gMem), P (r, N) → Z (some (.int r)) N) (h : gOKq (fX9_tied_8 x1 x2 x3 s0 s1 M) P) : gGo G YX9_tied d Z 8 [some (.ref 141), some (.int x1), some (.int x2), some (.int x3)] [.int s0, .int s1, .ref 141] M := by
  unfold fX9_tied_8 at h
  obtain ⟨r1, e2, h⟩ := gB0_ok h
  refine go_call1 ocX9_tied rfl rfl (gOb_c rfl) rfl (SX9_areTwo s1 s0 M e2) (Nat.lt_of_lt_of_le (by decide) hd) ?_
  refine go_br okX9_tied rfl (fun hp => ?_) (fun hp => ?_)
  · have h := gq_pos hp h
    refine go_rn 1 (pc' := 24) (L' := [some (.ref 141), some (.int x1), some (.int x2), some (.int x3)]) (S' := [.int (-2 : Int32)]) (M' := M) okX9_tied rfl ?_
    exact go_iret (reX9_tied _ (by decide)) rfl (k0 (-2 : Int32) M h)
  · have h := gq_neg hp h
    refine go_rn 2 (pc' := 16) (L' := [some (.ref 141), some (.int x1), some (.int x2), some (.int x3)]) (S' := [.int x3, .ref 141]) (M' := M) okX9_tied rfl ?_
    obtain ⟨r3, e4, h⟩ := gB0_ok h
    refine go_call1 ocX9_tied rfl rfl (gOb_c rfl) rfl (SX9_isYear x3 M e4) (Nat.lt_of_lt_of_le (by decide) hd) ?_
    refine go_br okX9_tied rfl (fun hp => ?_) (fun hp => ?_)
    · have h := gq_pos hp h
      refine go_rn 1 (pc' := 24) (L' := [some (.ref 141), some (.int x1), some (.int x2), some (.int x3)]) (S' := [.int (-2 : Int32)]) (M' := M) okX9_tied rfl ?_
      exact go_iret (reX9_tied _ (by decide)) rfl (k0 (-2 : Int32) M h)
    · have h := gq_neg hp h
      refine go_rn 1 (pc' := 26) (L' := [some (.ref 141), some (.int x1), some (.int x2), some (.int x3)]) (S' := [.ref 141]) (M' := M) okX9_tied rfl ?_
      obtain ⟨M5, e6, h⟩ := gB0_ok h
      refine go_call1 ocX9_tied rfl rfl (gOb_c rfl) rfl (SX9_laysNow M e6) (Nat.lt_of_lt_of_le (by decide) hd) ?_
      refine go_rn 1 (pc' := 30) (L' := [some (.ref 141), some (.int x1), some (.int x2), some (.int x3)]) (S' := [.ref 141]) (M' := M5) okX9_tied rfl ?_
      refine go_ck okX9_tied rfl (gOb_c rfl) ?_
      refine go_rn 9 (pc' := 44) (L' := [some (.ref 141), some (.int x1), some (.int x2), some (.int x3)]) (S' := [.int ((((36 : Int32) * x3) + ((6 : Int32) * x1)) + x2), .ref 155]) (M' := M5) okX9_tied rfl ?_
      obtain ⟨c7, h⟩ := gq_if h
      refine go_ck okX9_tied rfl c7 ?_
      refine go_br okX9_tied rfl (fun hp => ?_) (fun hp => ?_)
      · have h := gq_pos hp h
        refine go_rn 1 (pc' := 53) (L' := [some (.ref 141), some (.int x1), some (.int x2), some (.int x3)]) (S' := [.int (0 : Int32)]) (M' := M5) okX9_tied rfl ?_
        exact go_iret (reX9_tied _ (by decide)) rfl (k0 (0 : Int32) M5 h)
      · have h := gq_neg hp h
        refine go_rn 2 (pc' := 53) (L' := [some (.ref 141), some (.int x1), some (.int x2), some (.int x3)]) (S' := [.int (1 : Int32)]) (M' := M5) okX9_tied rfl ?_
        exact go_iret (reX9_tied _ (by decide)) rfl (k0 (1 : Int32) M5 h)
def fX9_tied_0 (x1 : Int32) (x2 : Int32) (x3 : Int32) (M : gMem) : Option (Int32 × gMem) :=
  fX9_tied_8 x1 x2 x3 x2 x1 (gSI M 141 0 (0 : Int32))
set_option maxRecDepth 100000 in
theorem CX9_tied_0 {G : gG} {d : Nat} {Z : Option Value → gMem → Prop} (hd : 8 ≤ d) (x1 : Int32) (x2 : Int32) (x3 : Int32) (M : gMem) (P : Int32 × gMem → Prop) (k0 : ∀ (r : Int32) (N : gMem), P (r, N) → Z (some (.int r)) N) (h : gOKq (fX9_tied_0 x1 x2 x3 M) P) : gGo G YX9_tied d Z 0 [some (.ref 141), some (.int x1), some (.int x2), some (.int x3)] [] M := by
  unfold fX9_tied_0 at h
  refine go_rn 2 (pc' := 2) (L' := [some (.ref 141), some (.int x1), some (.int x2), some (.int x3)]) (S' := [.int (0 : Int32), .ref 141]) (M' := M) okX9_tied rfl ?_
  refine go_ck okX9_tied rfl (gOb_c rfl) ?_
  refine go_rn 3 (pc' := 8) (L' := [some (.ref 141), some (.int x1), some (.int x2), some (.int x3)]) (S' := [.int x2, .int x1, .ref 141]) (M' := (gSI M 141 0 (0 : Int32))) okX9_tied rfl ?_
  exact go_wk (CX9_tied_8 hd x1 x2 x3 x2 x1 (gSI M 141 0 (0 : Int32)) P k0 h) ⟨rfl, rfl, rfl, rfl, True.intro⟩
def fX9_tied (a1 : Int32) (a2 : Int32) (a3 : Int32) (M : gMem) : Option (Int32 × gMem) := fX9_tied_0 a1 a2 a3 M
theorem SX9_tied {G : gG} (a1 : Int32) (a2 : Int32) (a3 : Int32) (M : gMem) {r : Int32} {N : gMem} (h : fX9_tied a1 a2 a3 M = some (r, N)) : gRun G YX9_tied 8 [.ref 141, .int a1, .int a2, .int a3] M (fun r' N' => r' = some (.int r) ∧ N' = N) := gRun_in (by decide +kernel) rfl (fun d hd => go_wk (CX9_tied_0 hd a1 a2 a3 M (fun p => p = (r, N)) (fun r N hh => by cases hh; exact ⟨rfl, rfl⟩) (gq_of h)) ⟨rfl, rfl, rfl, rfl, True.intro⟩)
def fX9_firm_8 (x1 : Int32) (x2 : Int32) (s0 : Int32) (s1 : Int32) (M : gMem) : Option (Int32 × gMem) :=
  gB0 (fX9_isThen s1 s0 M) (fun r1 => if r1 = 0 then some ((-2 : Int32), M) else gB0 (fX9_laysNow M) (fun M3 => gB0 (fX9_firmOf x1 x2 M3) (fun r5 => some (r5, M3))))
set_option maxRecDepth 100000 in
theorem CX9_firm_8 {G : gG} {d : Nat} {Z : Option Value → gMem → Prop} (hd : 8 ≤ d) (x1 : Int32) (x2 : Int32) (s0 : Int32) (s1 : Int32) (M : gMem) (P : Int32 × gMem → Prop) (k0 : ∀ (r : Int32) (N : gMem), P (r, N) → Z (some (.int r)) N) (h : gOKq (fX9_firm_8 x1 x2 s0 s1 M) P) : gGo G YX9_firm d Z 8 [some (.ref 141), some (.int x1), some (.int x2)] [.int s0, .int s1, .ref 141] M := by
  unfold fX9_firm_8 at h
  obtain ⟨r1, e2, h⟩ := gB0_ok h
  refine go_call1 ocX9_firm rfl rfl (gOb_c rfl) rfl (SX9_isThen s1 s0 M e2) (Nat.lt_of_lt_of_le (by decide) hd) ?_
  refine go_br okX9_firm rfl (fun hp => ?_) (fun hp => ?_)
  · have h := gq_pos hp h
    refine go_rn 1 (pc' := 16) (L' := [some (.ref 141), some (.int x1), some (.int x2)]) (S' := [.int (-2 : Int32)]) (M' := M) okX9_firm rfl ?_
    exact go_iret (reX9_firm _ (by decide)) rfl (k0 (-2 : Int32) M h)
  · have h := gq_neg hp h
    refine go_rn 1 (pc' := 18) (L' := [some (.ref 141), some (.int x1), some (.int x2)]) (S' := [.ref 141]) (M' := M) okX9_firm rfl ?_
    obtain ⟨M3, e4, h⟩ := gB0_ok h
    refine go_call1 ocX9_firm rfl rfl (gOb_c rfl) rfl (SX9_laysNow M e4) (Nat.lt_of_lt_of_le (by decide) hd) ?_
    refine go_rn 3 (pc' := 24) (L' := [some (.ref 141), some (.int x1), some (.int x2)]) (S' := [.int x2, .int x1, .ref 141]) (M' := M3) okX9_firm rfl ?_
    obtain ⟨r5, e6, h⟩ := gB0_ok h
    refine go_call1 ocX9_firm rfl rfl (gOb_c rfl) rfl (SX9_firmOf x1 x2 M3 e6) (Nat.lt_of_lt_of_le (by decide) hd) ?_
    exact go_iret (reX9_firm _ (by decide)) rfl (k0 r5 M3 h)
def fX9_firm_0 (x1 : Int32) (x2 : Int32) (M : gMem) : Option (Int32 × gMem) :=
  fX9_firm_8 x1 x2 x2 x1 (gSI M 141 0 (0 : Int32))
set_option maxRecDepth 100000 in
theorem CX9_firm_0 {G : gG} {d : Nat} {Z : Option Value → gMem → Prop} (hd : 8 ≤ d) (x1 : Int32) (x2 : Int32) (M : gMem) (P : Int32 × gMem → Prop) (k0 : ∀ (r : Int32) (N : gMem), P (r, N) → Z (some (.int r)) N) (h : gOKq (fX9_firm_0 x1 x2 M) P) : gGo G YX9_firm d Z 0 [some (.ref 141), some (.int x1), some (.int x2)] [] M := by
  unfold fX9_firm_0 at h
  refine go_rn 2 (pc' := 2) (L' := [some (.ref 141), some (.int x1), some (.int x2)]) (S' := [.int (0 : Int32), .ref 141]) (M' := M) okX9_firm rfl ?_
  refine go_ck okX9_firm rfl (gOb_c rfl) ?_
  refine go_rn 3 (pc' := 8) (L' := [some (.ref 141), some (.int x1), some (.int x2)]) (S' := [.int x2, .int x1, .ref 141]) (M' := (gSI M 141 0 (0 : Int32))) okX9_firm rfl ?_
  exact go_wk (CX9_firm_8 hd x1 x2 x2 x1 (gSI M 141 0 (0 : Int32)) P k0 h) ⟨rfl, rfl, rfl, True.intro⟩
def fX9_firm (a1 : Int32) (a2 : Int32) (M : gMem) : Option (Int32 × gMem) := fX9_firm_0 a1 a2 M
theorem SX9_firm {G : gG} (a1 : Int32) (a2 : Int32) (M : gMem) {r : Int32} {N : gMem} (h : fX9_firm a1 a2 M = some (r, N)) : gRun G YX9_firm 8 [.ref 141, .int a1, .int a2] M (fun r' N' => r' = some (.int r) ∧ N' = N) := gRun_in (by decide +kernel) rfl (fun d hd => go_wk (CX9_firm_0 hd a1 a2 M (fun p => p = (r, N)) (fun r N hh => by cases hh; exact ⟨rfl, rfl⟩) (gq_of h)) ⟨rfl, rfl, rfl, True.intro⟩)
def fX9_firmsAt_4 (x1 : Int32) (x2 : Int32) (x3 : Int32) (M : gMem) : Option (Sum (Int32 × Int32) (Int32)) :=
  gB0 (fX9_people M) (fun r1 => if r1 ≤ x3 then some (.inr x2) else gB0 (fX9_isHead x3 x1 M) (fun r3 => if r3 = 0 then some (.inl ((x2 + (0 : Int32)), (x3 + 1))) else some (.inl ((x2 + (1 : Int32)), (x3 + 1)))))
set_option maxRecDepth 100000 in
theorem CX9_firmsAt_4 {G : gG} {d : Nat} {Z : Option Value → gMem → Prop} (hd : 3 ≤ d) (x1 : Int32) (x2 : Int32) (x3 : Int32) (M : gMem) (P : Sum (Int32 × Int32) (Int32) → Prop) (k0 : ∀ (r : Int32), P (.inr r) → Z (some (.int r)) M) (k1 : ∀ (x2 : Int32) (x3 : Int32), P (.inl (x2, x3)) → gGo G YX9_firmsAt d Z 4 [some (.ref 141), some (.int x1), some (.int x2), some (.int x3)] [] M) (h : gOKq (fX9_firmsAt_4 x1 x2 x3 M) P) : gGo G YX9_firmsAt d Z 4 [some (.ref 141), some (.int x1), some (.int x2), some (.int x3)] [] M := by
  unfold fX9_firmsAt_4 at h
  refine go_rn 2 (pc' := 6) (L' := [some (.ref 141), some (.int x1), some (.int x2), some (.int x3)]) (S' := [.ref 141, .int x3]) (M' := M) okX9_firmsAt rfl ?_
  obtain ⟨r1, e2, h⟩ := gB0_ok h
  refine go_call1 ocX9_firmsAt rfl rfl (gOb_c rfl) rfl (SX9_people M e2) (Nat.lt_of_lt_of_le (by decide) hd) ?_
  refine go_br okX9_firmsAt rfl (fun hp => ?_) (fun hp => ?_)
  · have h := gq_pos hp h
    refine go_rn 1 (pc' := 36) (L' := [some (.ref 141), some (.int x1), some (.int x2), some (.int x3)]) (S' := [.int x2]) (M' := M) okX9_firmsAt rfl ?_
    exact go_iret (reX9_firmsAt _ (by decide)) rfl (k0 x2 h)
  · have h := gq_neg hp h
    refine go_rn 4 (pc' := 16) (L' := [some (.ref 141), some (.int x1), some (.int x2), some (.int x3)]) (S' := [.int x1, .int x3, .ref 141, .int x2]) (M' := M) okX9_firmsAt rfl ?_
    obtain ⟨r3, e4, h⟩ := gB0_ok h
    refine go_call1 ocX9_firmsAt rfl rfl (gOb_c rfl) rfl (SX9_isHead x3 x1 M e4) (Nat.lt_of_lt_of_le (by decide) hd) ?_
    refine go_br okX9_firmsAt rfl (fun hp => ?_) (fun hp => ?_)
    · have h := gq_pos hp h
      refine go_rn 5 (pc' := 4) (L' := [some (.ref 141), some (.int x1), some (.int (x2 + (0 : Int32))), some (.int (x3 + 1))]) (S' := []) (M' := M) okX9_firmsAt rfl ?_
      exact go_wk (k1 ((x2 + (0 : Int32))) ((x3 + 1)) h) ⟨rfl, rfl, rfl, rfl, True.intro⟩
    · have h := gq_neg hp h
      refine go_rn 6 (pc' := 4) (L' := [some (.ref 141), some (.int x1), some (.int (x2 + (1 : Int32))), some (.int (x3 + 1))]) (S' := []) (M' := M) okX9_firmsAt rfl ?_
      exact go_wk (k1 ((x2 + (1 : Int32))) ((x3 + 1)) h) ⟨rfl, rfl, rfl, rfl, True.intro⟩
def fX9_firmsAt_4h (x1 : Int32) (x2 : Int32) (x3 : Int32) (M : gMem) : Option (Int32) :=
  gLp (fun s : Int32 × Int32 => fX9_firmsAt_4 x1 (s.1) (s.2) M) gFu (x2, x3)
set_option maxRecDepth 100000 in
theorem CX9_firmsAt_4h {G : gG} {d : Nat} {Z : Option Value → gMem → Prop} (hd : 3 ≤ d) (x1 : Int32) (x2 : Int32) (x3 : Int32) (M : gMem) (P : Int32 → Prop) (k0 : ∀ (r : Int32), P r → Z (some (.int r)) M) (h : gOKq (fX9_firmsAt_4h x1 x2 x3 M) P) : gGo G YX9_firmsAt d Z 4 [some (.ref 141), some (.int x1), some (.int x2), some (.int x3)] [] M :=
  gLp_go (K := fun s : Int32 × Int32 => gGo G YX9_firmsAt d Z 4 [some (.ref 141), some (.int x1), some (.int s.1), some (.int s.2)] [] M) (P := P) (fun s hs => CX9_firmsAt_4 hd (x1) (s.1) (s.2) M (Sum.elim (fun s : Int32 × Int32 => gGo G YX9_firmsAt d Z 4 [some (.ref 141), some (.int x1), some (.int s.1), some (.int s.2)] [] M) P) k0 (fun x2 x3 hh => hh) hs) gFu (x2, x3) h
def fX9_firmsAt_0 (x1 : Int32) (M : gMem) : Option (Int32) :=
  fX9_firmsAt_4h x1 (0 : Int32) (0 : Int32) M
set_option maxRecDepth 100000 in
theorem CX9_firmsAt_0 {G : gG} {d : Nat} {Z : Option Value → gMem → Prop} (hd : 3 ≤ d) (x1 : Int32) (M : gMem) (P : Int32 → Prop) (k0 : ∀ (r : Int32), P r → Z (some (.int r)) M) (h : gOKq (fX9_firmsAt_0 x1 M) P) : gGo G YX9_firmsAt d Z 0 [some (.ref 141), some (.int x1), none, none] [] M := by
  unfold fX9_firmsAt_0 at h
  refine go_rn 4 (pc' := 4) (L' := [some (.ref 141), some (.int x1), some (.int (0 : Int32)), some (.int (0 : Int32))]) (S' := []) (M' := M) okX9_firmsAt rfl ?_
  exact go_wk (CX9_firmsAt_4h hd x1 (0 : Int32) (0 : Int32) M P k0 h) ⟨rfl, rfl, rfl, rfl, True.intro⟩
def fX9_firmsAt (a1 : Int32) (M : gMem) : Option (Int32) := fX9_firmsAt_0 a1 M
theorem SX9_firmsAt {G : gG} (a1 : Int32) (M : gMem) {r : Int32} (h : fX9_firmsAt a1 M = some r) : gRun G YX9_firmsAt 3 [.ref 141, .int a1] M (fun r' N' => r' = some (.int r) ∧ N' = M) := gRun_in (by decide +kernel) rfl (fun d hd => go_wk (CX9_firmsAt_0 hd a1 M (fun p => p = r) (fun r hh => ⟨congrArg (fun z => some (Value.int z)) hh, rfl⟩) (gq_of h)) ⟨rfl, rfl, True.intro⟩)
def fX9_firms_7 (x1 : Int32) (s0 : Int32) (M : gMem) : Option (Int32 × gMem) :=
  gB0 (fX9_isYear s0 M) (fun r1 => if r1 = 0 then some ((-2 : Int32), M) else gB0 (fX9_laysNow M) (fun M3 => gB0 (fX9_firmsAt x1 M3) (fun r5 => some (r5, M3))))
set_option maxRecDepth 100000 in
theorem CX9_firms_7 {G : gG} {d : Nat} {Z : Option Value → gMem → Prop} (hd : 8 ≤ d) (x1 : Int32) (s0 : Int32) (M : gMem) (P : Int32 × gMem → Prop) (k0 : ∀ (r : Int32) (N : gMem), P (r, N) → Z (some (.int r)) N) (h : gOKq (fX9_firms_7 x1 s0 M) P) : gGo G YX9_firms d Z 7 [some (.ref 141), some (.int x1)] [.int s0, .ref 141] M := by
  unfold fX9_firms_7 at h
  obtain ⟨r1, e2, h⟩ := gB0_ok h
  refine go_call1 ocX9_firms rfl rfl (gOb_c rfl) rfl (SX9_isYear s0 M e2) (Nat.lt_of_lt_of_le (by decide) hd) ?_
  refine go_br okX9_firms rfl (fun hp => ?_) (fun hp => ?_)
  · have h := gq_pos hp h
    refine go_rn 1 (pc' := 15) (L' := [some (.ref 141), some (.int x1)]) (S' := [.int (-2 : Int32)]) (M' := M) okX9_firms rfl ?_
    exact go_iret (reX9_firms _ (by decide)) rfl (k0 (-2 : Int32) M h)
  · have h := gq_neg hp h
    refine go_rn 1 (pc' := 17) (L' := [some (.ref 141), some (.int x1)]) (S' := [.ref 141]) (M' := M) okX9_firms rfl ?_
    obtain ⟨M3, e4, h⟩ := gB0_ok h
    refine go_call1 ocX9_firms rfl rfl (gOb_c rfl) rfl (SX9_laysNow M e4) (Nat.lt_of_lt_of_le (by decide) hd) ?_
    refine go_rn 2 (pc' := 22) (L' := [some (.ref 141), some (.int x1)]) (S' := [.int x1, .ref 141]) (M' := M3) okX9_firms rfl ?_
    obtain ⟨r5, e6, h⟩ := gB0_ok h
    refine go_call1 ocX9_firms rfl rfl (gOb_c rfl) rfl (SX9_firmsAt x1 M3 e6) (Nat.lt_of_lt_of_le (by decide) hd) ?_
    exact go_iret (reX9_firms _ (by decide)) rfl (k0 r5 M3 h)
def fX9_firms_0 (x1 : Int32) (M : gMem) : Option (Int32 × gMem) :=
  fX9_firms_7 x1 x1 (gSI M 141 0 (0 : Int32))
set_option maxRecDepth 100000 in
theorem CX9_firms_0 {G : gG} {d : Nat} {Z : Option Value → gMem → Prop} (hd : 8 ≤ d) (x1 : Int32) (M : gMem) (P : Int32 × gMem → Prop) (k0 : ∀ (r : Int32) (N : gMem), P (r, N) → Z (some (.int r)) N) (h : gOKq (fX9_firms_0 x1 M) P) : gGo G YX9_firms d Z 0 [some (.ref 141), some (.int x1)] [] M := by
  unfold fX9_firms_0 at h
  refine go_rn 2 (pc' := 2) (L' := [some (.ref 141), some (.int x1)]) (S' := [.int (0 : Int32), .ref 141]) (M' := M) okX9_firms rfl ?_
  refine go_ck okX9_firms rfl (gOb_c rfl) ?_
  refine go_rn 2 (pc' := 7) (L' := [some (.ref 141), some (.int x1)]) (S' := [.int x1, .ref 141]) (M' := (gSI M 141 0 (0 : Int32))) okX9_firms rfl ?_
  exact go_wk (CX9_firms_7 hd x1 x1 (gSI M 141 0 (0 : Int32)) P k0 h) ⟨rfl, rfl, True.intro⟩
def fX9_firms (a1 : Int32) (M : gMem) : Option (Int32 × gMem) := fX9_firms_0 a1 M
theorem SX9_firms {G : gG} (a1 : Int32) (M : gMem) {r : Int32} {N : gMem} (h : fX9_firms a1 M = some (r, N)) : gRun G YX9_firms 8 [.ref 141, .int a1] M (fun r' N' => r' = some (.int r) ∧ N' = N) := gRun_in (by decide +kernel) rfl (fun d hd => go_wk (CX9_firms_0 hd a1 M (fun p => p = (r, N)) (fun r N hh => by cases hh; exact ⟨rfl, rfl⟩) (gq_of h)) ⟨rfl, rfl, True.intro⟩)
def fX9_wide_8 (x1 : Int32) (x2 : Int32) (s0 : Int32) (s1 : Int32) (M : gMem) : Option (Int32 × gMem) :=
  gB0 (fX9_isThen s1 s0 M) (fun r1 => if r1 = 0 then some ((-2 : Int32), M) else gB0 (fX9_laysNow M) (fun M3 => gB0 (fX9_wideThen x1 x2 M3) (fun r5 => some (r5, M3))))
set_option maxRecDepth 100000 in
theorem CX9_wide_8 {G : gG} {d : Nat} {Z : Option Value → gMem → Prop} (hd : 8 ≤ d) (x1 : Int32) (x2 : Int32) (s0 : Int32) (s1 : Int32) (M : gMem) (P : Int32 × gMem → Prop) (k0 : ∀ (r : Int32) (N : gMem), P (r, N) → Z (some (.int r)) N) (h : gOKq (fX9_wide_8 x1 x2 s0 s1 M) P) : gGo G YX9_wide d Z 8 [some (.ref 141), some (.int x1), some (.int x2)] [.int s0, .int s1, .ref 141] M := by
  unfold fX9_wide_8 at h
  obtain ⟨r1, e2, h⟩ := gB0_ok h
  refine go_call1 ocX9_wide rfl rfl (gOb_c rfl) rfl (SX9_isThen s1 s0 M e2) (Nat.lt_of_lt_of_le (by decide) hd) ?_
  refine go_br okX9_wide rfl (fun hp => ?_) (fun hp => ?_)
  · have h := gq_pos hp h
    refine go_rn 1 (pc' := 16) (L' := [some (.ref 141), some (.int x1), some (.int x2)]) (S' := [.int (-2 : Int32)]) (M' := M) okX9_wide rfl ?_
    exact go_iret (reX9_wide _ (by decide)) rfl (k0 (-2 : Int32) M h)
  · have h := gq_neg hp h
    refine go_rn 1 (pc' := 18) (L' := [some (.ref 141), some (.int x1), some (.int x2)]) (S' := [.ref 141]) (M' := M) okX9_wide rfl ?_
    obtain ⟨M3, e4, h⟩ := gB0_ok h
    refine go_call1 ocX9_wide rfl rfl (gOb_c rfl) rfl (SX9_laysNow M e4) (Nat.lt_of_lt_of_le (by decide) hd) ?_
    refine go_rn 3 (pc' := 24) (L' := [some (.ref 141), some (.int x1), some (.int x2)]) (S' := [.int x2, .int x1, .ref 141]) (M' := M3) okX9_wide rfl ?_
    obtain ⟨r5, e6, h⟩ := gB0_ok h
    refine go_call1 ocX9_wide rfl rfl (gOb_c rfl) rfl (SX9_wideThen x1 x2 M3 e6) (Nat.lt_of_lt_of_le (by decide) hd) ?_
    exact go_iret (reX9_wide _ (by decide)) rfl (k0 r5 M3 h)
def fX9_wide_0 (x1 : Int32) (x2 : Int32) (M : gMem) : Option (Int32 × gMem) :=
  fX9_wide_8 x1 x2 x2 x1 (gSI M 141 0 (0 : Int32))
set_option maxRecDepth 100000 in
theorem CX9_wide_0 {G : gG} {d : Nat} {Z : Option Value → gMem → Prop} (hd : 8 ≤ d) (x1 : Int32) (x2 : Int32) (M : gMem) (P : Int32 × gMem → Prop) (k0 : ∀ (r : Int32) (N : gMem), P (r, N) → Z (some (.int r)) N) (h : gOKq (fX9_wide_0 x1 x2 M) P) : gGo G YX9_wide d Z 0 [some (.ref 141), some (.int x1), some (.int x2)] [] M := by
  unfold fX9_wide_0 at h
  refine go_rn 2 (pc' := 2) (L' := [some (.ref 141), some (.int x1), some (.int x2)]) (S' := [.int (0 : Int32), .ref 141]) (M' := M) okX9_wide rfl ?_
  refine go_ck okX9_wide rfl (gOb_c rfl) ?_
  refine go_rn 3 (pc' := 8) (L' := [some (.ref 141), some (.int x1), some (.int x2)]) (S' := [.int x2, .int x1, .ref 141]) (M' := (gSI M 141 0 (0 : Int32))) okX9_wide rfl ?_
  exact go_wk (CX9_wide_8 hd x1 x2 x2 x1 (gSI M 141 0 (0 : Int32)) P k0 h) ⟨rfl, rfl, rfl, True.intro⟩
def fX9_wide (a1 : Int32) (a2 : Int32) (M : gMem) : Option (Int32 × gMem) := fX9_wide_0 a1 a2 M
theorem SX9_wide {G : gG} (a1 : Int32) (a2 : Int32) (M : gMem) {r : Int32} {N : gMem} (h : fX9_wide a1 a2 M = some (r, N)) : gRun G YX9_wide 8 [.ref 141, .int a1, .int a2] M (fun r' N' => r' = some (.int r) ∧ N' = N) := gRun_in (by decide +kernel) rfl (fun d hd => go_wk (CX9_wide_0 hd a1 a2 M (fun p => p = (r, N)) (fun r N hh => by cases hh; exact ⟨rfl, rfl⟩) (gq_of h)) ⟨rfl, rfl, rfl, True.intro⟩)
def fX9_passes_26 (x1 : Int32) (x2 : Int32) (x3 : Int32) (x4 : Int32) (M : gMem) : Option (Sum (Int32 × Int32) (Int32 × gMem)) :=
  if gIx 1 148 (6 : Int32) = true then if (M.1 148 (Int32.toNatClampNeg (6 : Int32))) ≤ x4 then some (.inr (x3, M)) else gB0 (fX9_goesThrough x1 x4 x2 M) (fun r2 => if r2 = 0 then some (.inl ((x3 ||| (0 : Int32)), (x4 + 1))) else some (.inl ((x3 ||| ((1 : Int32) <<< (x4 &&& 31))), (x4 + 1)))) else none
set_option maxRecDepth 100000 in
theorem CX9_passes_26 {G : gG} {d : Nat} {Z : Option Value → gMem → Prop} (hd : 8 ≤ d) (x1 : Int32) (x2 : Int32) (x3 : Int32) (x4 : Int32) (M : gMem) (P : Sum (Int32 × Int32) (Int32 × gMem) → Prop) (k0 : ∀ (r : Int32) (N : gMem), P (.inr (r, N)) → Z (some (.int r)) N) (k1 : ∀ (x3 : Int32) (x4 : Int32), P (.inl (x3, x4)) → gGo G YX9_passes d Z 26 [some (.ref 141), some (.int x1), some (.int x2), some (.int x3), some (.int x4)] [] M) (h : gOKq (fX9_passes_26 x1 x2 x3 x4 M) P) : gGo G YX9_passes d Z 26 [some (.ref 141), some (.int x1), some (.int x2), some (.int x3), some (.int x4)] [] M := by
  unfold fX9_passes_26 at h
  refine go_rn 2 (pc' := 29) (L' := [some (.ref 141), some (.int x1), some (.int x2), some (.int x3), some (.int x4)]) (S' := [.ref 141, .int x4]) (M' := M) okX9_passes rfl ?_
  refine go_ck okX9_passes rfl (gOb_c rfl) ?_
  refine go_rn 1 (pc' := 34) (L' := [some (.ref 141), some (.int x1), some (.int x2), some (.int x3), some (.int x4)]) (S' := [.int (6 : Int32), .ref 148, .int x4]) (M' := M) okX9_passes rfl ?_
  obtain ⟨c1, h⟩ := gq_if h
  refine go_ck okX9_passes rfl c1 ?_
  refine go_br okX9_passes rfl (fun hp => ?_) (fun hp => ?_)
  · have h := gq_pos hp h
    refine go_rn 1 (pc' := 67) (L' := [some (.ref 141), some (.int x1), some (.int x2), some (.int x3), some (.int x4)]) (S' := [.int x3]) (M' := M) okX9_passes rfl ?_
    exact go_iret (reX9_passes _ (by decide)) rfl (k0 x3 M h)
  · have h := gq_neg hp h
    refine go_rn 5 (pc' := 44) (L' := [some (.ref 141), some (.int x1), some (.int x2), some (.int x3), some (.int x4)]) (S' := [.int x2, .int x4, .int x1, .ref 141, .int x3]) (M' := M) okX9_passes rfl ?_
    obtain ⟨r2, e3, h⟩ := gB0_ok h
    refine go_call1 ocX9_passes rfl rfl (gOb_c rfl) rfl (SX9_goesThrough x1 x4 x2 M e3) (Nat.lt_of_lt_of_le (by decide) hd) ?_
    refine go_br okX9_passes rfl (fun hp => ?_) (fun hp => ?_)
    · have h := gq_pos hp h
      refine go_rn 5 (pc' := 26) (L' := [some (.ref 141), some (.int x1), some (.int x2), some (.int (x3 ||| (0 : Int32))), some (.int (x4 + 1))]) (S' := []) (M' := M) okX9_passes rfl ?_
      exact go_wk (k1 ((x3 ||| (0 : Int32))) ((x4 + 1)) h) ⟨rfl, rfl, rfl, rfl, rfl, True.intro⟩
    · have h := gq_neg hp h
      refine go_rn 8 (pc' := 26) (L' := [some (.ref 141), some (.int x1), some (.int x2), some (.int (x3 ||| ((1 : Int32) <<< (x4 &&& 31)))), some (.int (x4 + 1))]) (S' := []) (M' := M) okX9_passes rfl ?_
      exact go_wk (k1 ((x3 ||| ((1 : Int32) <<< (x4 &&& 31)))) ((x4 + 1)) h) ⟨rfl, rfl, rfl, rfl, rfl, True.intro⟩
def fX9_passes_26h (x1 : Int32) (x2 : Int32) (x3 : Int32) (x4 : Int32) (M : gMem) : Option (Int32 × gMem) :=
  gLp (fun s : Int32 × Int32 => fX9_passes_26 x1 x2 (s.1) (s.2) M) gFu (x3, x4)
set_option maxRecDepth 100000 in
theorem CX9_passes_26h {G : gG} {d : Nat} {Z : Option Value → gMem → Prop} (hd : 8 ≤ d) (x1 : Int32) (x2 : Int32) (x3 : Int32) (x4 : Int32) (M : gMem) (P : Int32 × gMem → Prop) (k0 : ∀ (r : Int32) (N : gMem), P (r, N) → Z (some (.int r)) N) (h : gOKq (fX9_passes_26h x1 x2 x3 x4 M) P) : gGo G YX9_passes d Z 26 [some (.ref 141), some (.int x1), some (.int x2), some (.int x3), some (.int x4)] [] M :=
  gLp_go (K := fun s : Int32 × Int32 => gGo G YX9_passes d Z 26 [some (.ref 141), some (.int x1), some (.int x2), some (.int s.1), some (.int s.2)] [] M) (P := P) (fun s hs => CX9_passes_26 hd (x1) (x2) (s.1) (s.2) M (Sum.elim (fun s : Int32 × Int32 => gGo G YX9_passes d Z 26 [some (.ref 141), some (.int x1), some (.int x2), some (.int s.1), some (.int s.2)] [] M) P) k0 (fun x3 x4 hh => hh) hs) gFu (x3, x4) h
def fX9_passes_8 (x1 : Int32) (x2 : Int32) (s0 : Int32) (s1 : Int32) (M : gMem) : Option (Int32 × gMem) :=
  gB0 (fX9_isThen s1 s0 M) (fun r1 => if r1 = 0 then some ((-2 : Int32), M) else gB0 (fX9_laysNow M) (fun M3 => fX9_passes_26h x1 x2 (0 : Int32) (0 : Int32) M3))
set_option maxRecDepth 100000 in
theorem CX9_passes_8 {G : gG} {d : Nat} {Z : Option Value → gMem → Prop} (hd : 8 ≤ d) (x1 : Int32) (x2 : Int32) (s0 : Int32) (s1 : Int32) (M : gMem) (P : Int32 × gMem → Prop) (k0 : ∀ (r : Int32) (N : gMem), P (r, N) → Z (some (.int r)) N) (h : gOKq (fX9_passes_8 x1 x2 s0 s1 M) P) : gGo G YX9_passes d Z 8 [some (.ref 141), some (.int x1), some (.int x2), none, none] [.int s0, .int s1, .ref 141] M := by
  unfold fX9_passes_8 at h
  obtain ⟨r1, e2, h⟩ := gB0_ok h
  refine go_call1 ocX9_passes rfl rfl (gOb_c rfl) rfl (SX9_isThen s1 s0 M e2) (Nat.lt_of_lt_of_le (by decide) hd) ?_
  refine go_br okX9_passes rfl (fun hp => ?_) (fun hp => ?_)
  · have h := gq_pos hp h
    refine go_rn 1 (pc' := 16) (L' := [some (.ref 141), some (.int x1), some (.int x2), none, none]) (S' := [.int (-2 : Int32)]) (M' := M) okX9_passes rfl ?_
    exact go_iret (reX9_passes _ (by decide)) rfl (k0 (-2 : Int32) M h)
  · have h := gq_neg hp h
    refine go_rn 1 (pc' := 18) (L' := [some (.ref 141), some (.int x1), some (.int x2), none, none]) (S' := [.ref 141]) (M' := M) okX9_passes rfl ?_
    obtain ⟨M3, e4, h⟩ := gB0_ok h
    refine go_call1 ocX9_passes rfl rfl (gOb_c rfl) rfl (SX9_laysNow M e4) (Nat.lt_of_lt_of_le (by decide) hd) ?_
    refine go_rn 4 (pc' := 26) (L' := [some (.ref 141), some (.int x1), some (.int x2), some (.int (0 : Int32)), some (.int (0 : Int32))]) (S' := []) (M' := M3) okX9_passes rfl ?_
    exact go_wk (CX9_passes_26h hd x1 x2 (0 : Int32) (0 : Int32) M3 P k0 h) ⟨rfl, rfl, rfl, rfl, rfl, True.intro⟩
def fX9_passes_0 (x1 : Int32) (x2 : Int32) (M : gMem) : Option (Int32 × gMem) :=
  fX9_passes_8 x1 x2 x2 x1 (gSI M 141 0 (0 : Int32))
set_option maxRecDepth 100000 in
theorem CX9_passes_0 {G : gG} {d : Nat} {Z : Option Value → gMem → Prop} (hd : 8 ≤ d) (x1 : Int32) (x2 : Int32) (M : gMem) (P : Int32 × gMem → Prop) (k0 : ∀ (r : Int32) (N : gMem), P (r, N) → Z (some (.int r)) N) (h : gOKq (fX9_passes_0 x1 x2 M) P) : gGo G YX9_passes d Z 0 [some (.ref 141), some (.int x1), some (.int x2), none, none] [] M := by
  unfold fX9_passes_0 at h
  refine go_rn 2 (pc' := 2) (L' := [some (.ref 141), some (.int x1), some (.int x2), none, none]) (S' := [.int (0 : Int32), .ref 141]) (M' := M) okX9_passes rfl ?_
  refine go_ck okX9_passes rfl (gOb_c rfl) ?_
  refine go_rn 3 (pc' := 8) (L' := [some (.ref 141), some (.int x1), some (.int x2), none, none]) (S' := [.int x2, .int x1, .ref 141]) (M' := (gSI M 141 0 (0 : Int32))) okX9_passes rfl ?_
  exact go_wk (CX9_passes_8 hd x1 x2 x2 x1 (gSI M 141 0 (0 : Int32)) P k0 h) ⟨rfl, rfl, rfl, True.intro⟩
def fX9_passes (a1 : Int32) (a2 : Int32) (M : gMem) : Option (Int32 × gMem) := fX9_passes_0 a1 a2 M
theorem SX9_passes {G : gG} (a1 : Int32) (a2 : Int32) (M : gMem) {r : Int32} {N : gMem} (h : fX9_passes a1 a2 M = some (r, N)) : gRun G YX9_passes 8 [.ref 141, .int a1, .int a2] M (fun r' N' => r' = some (.int r) ∧ N' = N) := gRun_in (by decide +kernel) rfl (fun d hd => go_wk (CX9_passes_0 hd a1 a2 M (fun p => p = (r, N)) (fun r N hh => by cases hh; exact ⟨rfl, rfl⟩) (gq_of h)) ⟨rfl, rfl, rfl, True.intro⟩)
def fX9_largest_24 (x1 : Int32) (x2 : Int32) (x3 : Int32) (M : gMem) : Option (Sum (Int32 × Int32) (Int32 × gMem)) :=
  gB0 (fX9_people M) (fun r1 => if r1 ≤ x3 then some (.inr (x2, M)) else gB0 (fX9_firmOf x3 x1 M) (fun r3 => gB0 (fX9_sizeOf r3 M) (fun r5 => if r5 ≤ x2 then some (.inl (x2, (x3 + 1))) else gB0 (fX9_firmOf x3 x1 M) (fun r7 => gB0 (fX9_sizeOf r7 M) (fun r9 => some (.inl (r9, (x3 + 1))))))))
set_option maxRecDepth 100000 in
theorem CX9_largest_24 {G : gG} {d : Nat} {Z : Option Value → gMem → Prop} (hd : 8 ≤ d) (x1 : Int32) (x2 : Int32) (x3 : Int32) (M : gMem) (P : Sum (Int32 × Int32) (Int32 × gMem) → Prop) (k0 : ∀ (r : Int32) (N : gMem), P (.inr (r, N)) → Z (some (.int r)) N) (k1 : ∀ (x2 : Int32) (x3 : Int32), P (.inl (x2, x3)) → gGo G YX9_largest d Z 24 [some (.ref 141), some (.int x1), some (.int x2), some (.int x3)] [] M) (h : gOKq (fX9_largest_24 x1 x2 x3 M) P) : gGo G YX9_largest d Z 24 [some (.ref 141), some (.int x1), some (.int x2), some (.int x3)] [] M := by
  unfold fX9_largest_24 at h
  refine go_rn 2 (pc' := 26) (L' := [some (.ref 141), some (.int x1), some (.int x2), some (.int x3)]) (S' := [.ref 141, .int x3]) (M' := M) okX9_largest rfl ?_
  obtain ⟨r1, e2, h⟩ := gB0_ok h
  refine go_call1 ocX9_largest rfl rfl (gOb_c rfl) rfl (SX9_people M e2) (Nat.lt_of_lt_of_le (by decide) hd) ?_
  refine go_br okX9_largest rfl (fun hp => ?_) (fun hp => ?_)
  · have h := gq_pos hp h
    refine go_rn 1 (pc' := 66) (L' := [some (.ref 141), some (.int x1), some (.int x2), some (.int x3)]) (S' := [.int x2]) (M' := M) okX9_largest rfl ?_
    exact go_iret (reX9_largest _ (by decide)) rfl (k0 x2 M h)
  · have h := gq_neg hp h
    refine go_rn 3 (pc' := 35) (L' := [some (.ref 141), some (.int x1), some (.int x2), some (.int x3)]) (S' := [.int x1, .int x3, .ref 141]) (M' := M) okX9_largest rfl ?_
    obtain ⟨r3, e4, h⟩ := gB0_ok h
    refine go_call1 ocX9_largest rfl rfl (gOb_c rfl) rfl (SX9_firmOf x3 x1 M e4) (Nat.lt_of_lt_of_le (by decide) hd) ?_
    obtain ⟨r5, e6, h⟩ := gB0_ok h
    refine go_call1 ocX9_largest rfl rfl rfl rfl (SX9_sizeOf r3 M e6) (Nat.lt_of_lt_of_le (by decide) hd) ?_
    refine go_rn 1 (pc' := 42) (L' := [some (.ref 141), some (.int x1), some (.int x2), some (.int x3)]) (S' := [.int x2, .int r5]) (M' := M) okX9_largest rfl ?_
    refine go_br okX9_largest rfl (fun hp => ?_) (fun hp => ?_)
    · have h := gq_pos hp h
      refine go_rn 4 (pc' := 24) (L' := [some (.ref 141), some (.int x1), some (.int x2), some (.int (x3 + 1))]) (S' := []) (M' := M) okX9_largest rfl ?_
      exact go_wk (k1 (x2) ((x3 + 1)) h) ⟨rfl, rfl, rfl, rfl, True.intro⟩
    · have h := gq_neg hp h
      refine go_rn 3 (pc' := 48) (L' := [some (.ref 141), some (.int x1), some (.int x2), some (.int x3)]) (S' := [.int x1, .int x3, .ref 141]) (M' := M) okX9_largest rfl ?_
      obtain ⟨r7, e8, h⟩ := gB0_ok h
      refine go_call1 ocX9_largest rfl rfl (gOb_c rfl) rfl (SX9_firmOf x3 x1 M e8) (Nat.lt_of_lt_of_le (by decide) hd) ?_
      obtain ⟨r9, e10, h⟩ := gB0_ok h
      refine go_call1 ocX9_largest rfl rfl rfl rfl (SX9_sizeOf r7 M e10) (Nat.lt_of_lt_of_le (by decide) hd) ?_
      refine go_rn 4 (pc' := 24) (L' := [some (.ref 141), some (.int x1), some (.int r9), some (.int (x3 + 1))]) (S' := []) (M' := M) okX9_largest rfl ?_
      exact go_wk (k1 (r9) ((x3 + 1)) h) ⟨rfl, rfl, rfl, rfl, True.intro⟩
def fX9_largest_24h (x1 : Int32) (x2 : Int32) (x3 : Int32) (M : gMem) : Option (Int32 × gMem) :=
  gLp (fun s : Int32 × Int32 => fX9_largest_24 x1 (s.1) (s.2) M) gFu (x2, x3)
set_option maxRecDepth 100000 in
theorem CX9_largest_24h {G : gG} {d : Nat} {Z : Option Value → gMem → Prop} (hd : 8 ≤ d) (x1 : Int32) (x2 : Int32) (x3 : Int32) (M : gMem) (P : Int32 × gMem → Prop) (k0 : ∀ (r : Int32) (N : gMem), P (r, N) → Z (some (.int r)) N) (h : gOKq (fX9_largest_24h x1 x2 x3 M) P) : gGo G YX9_largest d Z 24 [some (.ref 141), some (.int x1), some (.int x2), some (.int x3)] [] M :=
  gLp_go (K := fun s : Int32 × Int32 => gGo G YX9_largest d Z 24 [some (.ref 141), some (.int x1), some (.int s.1), some (.int s.2)] [] M) (P := P) (fun s hs => CX9_largest_24 hd (x1) (s.1) (s.2) M (Sum.elim (fun s : Int32 × Int32 => gGo G YX9_largest d Z 24 [some (.ref 141), some (.int x1), some (.int s.1), some (.int s.2)] [] M) P) k0 (fun x2 x3 hh => hh) hs) gFu (x2, x3) h
def fX9_largest_7 (x1 : Int32) (s0 : Int32) (M : gMem) : Option (Int32 × gMem) :=
  gB0 (fX9_isYear s0 M) (fun r1 => if r1 = 0 then some ((-2 : Int32), M) else gB0 (fX9_laysNow M) (fun M3 => fX9_largest_24h x1 (0 : Int32) (0 : Int32) M3))
set_option maxRecDepth 100000 in
theorem CX9_largest_7 {G : gG} {d : Nat} {Z : Option Value → gMem → Prop} (hd : 8 ≤ d) (x1 : Int32) (s0 : Int32) (M : gMem) (P : Int32 × gMem → Prop) (k0 : ∀ (r : Int32) (N : gMem), P (r, N) → Z (some (.int r)) N) (h : gOKq (fX9_largest_7 x1 s0 M) P) : gGo G YX9_largest d Z 7 [some (.ref 141), some (.int x1), none, none] [.int s0, .ref 141] M := by
  unfold fX9_largest_7 at h
  obtain ⟨r1, e2, h⟩ := gB0_ok h
  refine go_call1 ocX9_largest rfl rfl (gOb_c rfl) rfl (SX9_isYear s0 M e2) (Nat.lt_of_lt_of_le (by decide) hd) ?_
  refine go_br okX9_largest rfl (fun hp => ?_) (fun hp => ?_)
  · have h := gq_pos hp h
    refine go_rn 1 (pc' := 15) (L' := [some (.ref 141), some (.int x1), none, none]) (S' := [.int (-2 : Int32)]) (M' := M) okX9_largest rfl ?_
    exact go_iret (reX9_largest _ (by decide)) rfl (k0 (-2 : Int32) M h)
  · have h := gq_neg hp h
    refine go_rn 1 (pc' := 17) (L' := [some (.ref 141), some (.int x1), none, none]) (S' := [.ref 141]) (M' := M) okX9_largest rfl ?_
    obtain ⟨M3, e4, h⟩ := gB0_ok h
    refine go_call1 ocX9_largest rfl rfl (gOb_c rfl) rfl (SX9_laysNow M e4) (Nat.lt_of_lt_of_le (by decide) hd) ?_
    refine go_rn 4 (pc' := 24) (L' := [some (.ref 141), some (.int x1), some (.int (0 : Int32)), some (.int (0 : Int32))]) (S' := []) (M' := M3) okX9_largest rfl ?_
    exact go_wk (CX9_largest_24h hd x1 (0 : Int32) (0 : Int32) M3 P k0 h) ⟨rfl, rfl, rfl, rfl, True.intro⟩
def fX9_largest_0 (x1 : Int32) (M : gMem) : Option (Int32 × gMem) :=
  fX9_largest_7 x1 x1 (gSI M 141 0 (0 : Int32))
set_option maxRecDepth 100000 in
theorem CX9_largest_0 {G : gG} {d : Nat} {Z : Option Value → gMem → Prop} (hd : 8 ≤ d) (x1 : Int32) (M : gMem) (P : Int32 × gMem → Prop) (k0 : ∀ (r : Int32) (N : gMem), P (r, N) → Z (some (.int r)) N) (h : gOKq (fX9_largest_0 x1 M) P) : gGo G YX9_largest d Z 0 [some (.ref 141), some (.int x1), none, none] [] M := by
  unfold fX9_largest_0 at h
  refine go_rn 2 (pc' := 2) (L' := [some (.ref 141), some (.int x1), none, none]) (S' := [.int (0 : Int32), .ref 141]) (M' := M) okX9_largest rfl ?_
  refine go_ck okX9_largest rfl (gOb_c rfl) ?_
  refine go_rn 2 (pc' := 7) (L' := [some (.ref 141), some (.int x1), none, none]) (S' := [.int x1, .ref 141]) (M' := (gSI M 141 0 (0 : Int32))) okX9_largest rfl ?_
  exact go_wk (CX9_largest_7 hd x1 x1 (gSI M 141 0 (0 : Int32)) P k0 h) ⟨rfl, rfl, True.intro⟩
def fX9_largest (a1 : Int32) (M : gMem) : Option (Int32 × gMem) := fX9_largest_0 a1 M
theorem SX9_largest {G : gG} (a1 : Int32) (M : gMem) {r : Int32} {N : gMem} (h : fX9_largest a1 M = some (r, N)) : gRun G YX9_largest 8 [.ref 141, .int a1] M (fun r' N' => r' = some (.int r) ∧ N' = N) := gRun_in (by decide +kernel) rfl (fun d hd => go_wk (CX9_largest_0 hd a1 M (fun p => p = (r, N)) (fun r N hh => by cases hh; exact ⟨rfl, rfl⟩) (gq_of h)) ⟨rfl, rfl, True.intro⟩)
def fX9_hairs_98 (x2 : Int32) (x3 : Int32) (x4 : Int32) (x5 : Int32) (x6 : Int32) (x7 : Int32) (x8 : Int32) (M : gMem) : Option (Sum (Int32 × Int32) (Sum (Int32 × Int32) (Sum (Int32 × Int32) (Int32 × gMem)))) :=
  gB0 (fX9_people M) (fun r1 => if r1 ≤ x8 then some (.inr (.inl (x6, (x7 + 1)))) else gB0 (fX9_isBit x4 x7 M) (fun r3 => if r3 = 0 then some (.inl (x6, (x8 + 1))) else if gIx 1 155 ((((36 : Int32) * x3) + ((6 : Int32) * x7)) + x8) = true then if (M.1 155 (Int32.toNatClampNeg ((((36 : Int32) * x3) + ((6 : Int32) * x7)) + x8))) ≤ 0 then some (.inl (x6, (x8 + 1))) else some (.inl ((x6 ||| ((1 : Int32) <<< (x8 &&& 31))), (x8 + 1))) else none))
set_option maxRecDepth 100000 in
theorem CX9_hairs_98 {G : gG} {d : Nat} {Z : Option Value → gMem → Prop} (hd : 8 ≤ d) (x2 : Int32) (x3 : Int32) (x4 : Int32) (x5 : Int32) (x6 : Int32) (x7 : Int32) (x8 : Int32) (M : gMem) (P : Sum (Int32 × Int32) (Sum (Int32 × Int32) (Sum (Int32 × Int32) (Int32 × gMem))) → Prop) (k0 : ∀ (r : Int32) (N : gMem), P (.inr (.inr (.inr (r, N)))) → Z (some (.int r)) N) (k1 : ∀ (x4 : Int32) (x5 : Int32), P (.inr (.inr (.inl (x4, x5)))) → gGo G YX9_hairs d Z 58 [some (.ref 141), none, some (.int x2), some (.int x3), some (.int x4), some (.int x5), none, none, none] [] M) (k2 : ∀ (x6 : Int32) (x7 : Int32), P (.inr (.inl (x6, x7))) → gGo G YX9_hairs d Z 86 [some (.ref 141), none, some (.int x2), some (.int x3), some (.int x4), some (.int x5), some (.int x6), some (.int x7), none] [] M) (k3 : ∀ (x6 : Int32) (x8 : Int32), P (.inl (x6, x8)) → gGo G YX9_hairs d Z 98 [some (.ref 141), none, some (.int x2), some (.int x3), some (.int x4), some (.int x5), some (.int x6), some (.int x7), some (.int x8)] [] M) (h : gOKq (fX9_hairs_98 x2 x3 x4 x5 x6 x7 x8 M) P) : gGo G YX9_hairs d Z 98 [some (.ref 141), none, some (.int x2), some (.int x3), some (.int x4), some (.int x5), some (.int x6), some (.int x7), some (.int x8)] [] M := by
  unfold fX9_hairs_98 at h
  refine go_rn 2 (pc' := 101) (L' := [some (.ref 141), none, some (.int x2), some (.int x3), some (.int x4), some (.int x5), some (.int x6), some (.int x7), some (.int x8)]) (S' := [.ref 141, .int x8]) (M' := M) okX9_hairs rfl ?_
  obtain ⟨r1, e2, h⟩ := gB0_ok h
  refine go_call1 ocX9_hairs rfl rfl (gOb_c rfl) rfl (SX9_people M e2) (Nat.lt_of_lt_of_le (by decide) hd) ?_
  refine go_br okX9_hairs rfl (fun hp => ?_) (fun hp => ?_)
  · have h := gq_pos hp h
    refine go_rn 2 (pc' := 86) (L' := [some (.ref 141), none, some (.int x2), some (.int x3), some (.int x4), some (.int x5), some (.int x6), some (.int (x7 + 1)), some (.int x8)]) (S' := []) (M' := M) okX9_hairs rfl ?_
    exact go_wk (k2 (x6) ((x7 + 1)) h) ⟨rfl, rfl, rfl, rfl, rfl, rfl, rfl, True.intro⟩
  · have h := gq_neg hp h
    refine go_rn 2 (pc' := 111) (L' := [some (.ref 141), none, some (.int x2), some (.int x3), some (.int x4), some (.int x5), some (.int x6), some (.int x7), some (.int x8)]) (S' := [.int x7, .int x4]) (M' := M) okX9_hairs rfl ?_
    obtain ⟨r3, e4, h⟩ := gB0_ok h
    refine go_call1 ocX9_hairs rfl rfl rfl rfl (SX9_isBit x4 x7 M e4) (Nat.lt_of_lt_of_le (by decide) hd) ?_
    refine go_br okX9_hairs rfl (fun hp => ?_) (fun hp => ?_)
    · have h := gq_pos hp h
      refine go_rn 2 (pc' := 98) (L' := [some (.ref 141), none, some (.int x2), some (.int x3), some (.int x4), some (.int x5), some (.int x6), some (.int x7), some (.int (x8 + 1))]) (S' := []) (M' := M) okX9_hairs rfl ?_
      exact go_wk (k3 (x6) ((x8 + 1)) h) ⟨rfl, rfl, rfl, rfl, rfl, rfl, rfl, rfl, True.intro⟩
    · have h := gq_neg hp h
      refine go_rn 1 (pc' := 118) (L' := [some (.ref 141), none, some (.int x2), some (.int x3), some (.int x4), some (.int x5), some (.int x6), some (.int x7), some (.int x8)]) (S' := [.ref 141]) (M' := M) okX9_hairs rfl ?_
      refine go_ck okX9_hairs rfl (gOb_c rfl) ?_
      refine go_rn 9 (pc' := 134) (L' := [some (.ref 141), none, some (.int x2), some (.int x3), some (.int x4), some (.int x5), some (.int x6), some (.int x7), some (.int x8)]) (S' := [.int ((((36 : Int32) * x3) + ((6 : Int32) * x7)) + x8), .ref 155]) (M' := M) okX9_hairs rfl ?_
      obtain ⟨c5, h⟩ := gq_if h
      refine go_ck okX9_hairs rfl c5 ?_
      refine go_br okX9_hairs rfl (fun hp => ?_) (fun hp => ?_)
      · have h := gq_pos hp h
        refine go_rn 2 (pc' := 98) (L' := [some (.ref 141), none, some (.int x2), some (.int x3), some (.int x4), some (.int x5), some (.int x6), some (.int x7), some (.int (x8 + 1))]) (S' := []) (M' := M) okX9_hairs rfl ?_
        exact go_wk (k3 (x6) ((x8 + 1)) h) ⟨rfl, rfl, rfl, rfl, rfl, rfl, rfl, rfl, True.intro⟩
      · have h := gq_neg hp h
        refine go_rn 8 (pc' := 98) (L' := [some (.ref 141), none, some (.int x2), some (.int x3), some (.int x4), some (.int x5), some (.int (x6 ||| ((1 : Int32) <<< (x8 &&& 31)))), some (.int x7), some (.int (x8 + 1))]) (S' := []) (M' := M) okX9_hairs rfl ?_
        exact go_wk (k3 ((x6 ||| ((1 : Int32) <<< (x8 &&& 31)))) ((x8 + 1)) h) ⟨rfl, rfl, rfl, rfl, rfl, rfl, rfl, rfl, True.intro⟩
def fX9_hairs_98h (x2 : Int32) (x3 : Int32) (x4 : Int32) (x5 : Int32) (x6 : Int32) (x7 : Int32) (x8 : Int32) (M : gMem) : Option (Sum (Int32 × Int32) (Sum (Int32 × Int32) (Int32 × gMem))) :=
  gLp (fun s : Int32 × Int32 => fX9_hairs_98 x2 x3 x4 x5 (s.1) x7 (s.2) M) gFu (x6, x8)
set_option maxRecDepth 100000 in
theorem CX9_hairs_98h {G : gG} {d : Nat} {Z : Option Value → gMem → Prop} (hd : 8 ≤ d) (x2 : Int32) (x3 : Int32) (x4 : Int32) (x5 : Int32) (x6 : Int32) (x7 : Int32) (x8 : Int32) (M : gMem) (P : Sum (Int32 × Int32) (Sum (Int32 × Int32) (Int32 × gMem)) → Prop) (k0 : ∀ (r : Int32) (N : gMem), P (.inr (.inr (r, N))) → Z (some (.int r)) N) (k1 : ∀ (x4 : Int32) (x5 : Int32), P (.inr (.inl (x4, x5))) → gGo G YX9_hairs d Z 58 [some (.ref 141), none, some (.int x2), some (.int x3), some (.int x4), some (.int x5), none, none, none] [] M) (k2 : ∀ (x6 : Int32) (x7 : Int32), P (.inl (x6, x7)) → gGo G YX9_hairs d Z 86 [some (.ref 141), none, some (.int x2), some (.int x3), some (.int x4), some (.int x5), some (.int x6), some (.int x7), none] [] M) (h : gOKq (fX9_hairs_98h x2 x3 x4 x5 x6 x7 x8 M) P) : gGo G YX9_hairs d Z 98 [some (.ref 141), none, some (.int x2), some (.int x3), some (.int x4), some (.int x5), some (.int x6), some (.int x7), some (.int x8)] [] M :=
  gLp_go (K := fun s : Int32 × Int32 => gGo G YX9_hairs d Z 98 [some (.ref 141), none, some (.int x2), some (.int x3), some (.int x4), some (.int x5), some (.int s.1), some (.int x7), some (.int s.2)] [] M) (P := P) (fun s hs => CX9_hairs_98 hd (x2) (x3) (x4) (x5) (s.1) (x7) (s.2) M (Sum.elim (fun s : Int32 × Int32 => gGo G YX9_hairs d Z 98 [some (.ref 141), none, some (.int x2), some (.int x3), some (.int x4), some (.int x5), some (.int s.1), some (.int x7), some (.int s.2)] [] M) P) k0 k1 k2 (fun x6 x8 hh => hh) hs) gFu (x6, x8) h
def fX9_hairs_86 (x2 : Int32) (x3 : Int32) (x4 : Int32) (x5 : Int32) (x6 : Int32) (x7 : Int32) (M : gMem) : Option (Sum (Int32 × Int32) (Sum (Int32 × Int32) (Int32 × gMem))) :=
  gB0 (fX9_people M) (fun r1 => if r1 ≤ x7 then some (.inr (.inl (x6, (x5 + 1)))) else fX9_hairs_98h x2 x3 x4 x5 x6 x7 (0 : Int32) M)
set_option maxRecDepth 100000 in
theorem CX9_hairs_86 {G : gG} {d : Nat} {Z : Option Value → gMem → Prop} (hd : 8 ≤ d) (x2 : Int32) (x3 : Int32) (x4 : Int32) (x5 : Int32) (x6 : Int32) (x7 : Int32) (M : gMem) (P : Sum (Int32 × Int32) (Sum (Int32 × Int32) (Int32 × gMem)) → Prop) (k0 : ∀ (r : Int32) (N : gMem), P (.inr (.inr (r, N))) → Z (some (.int r)) N) (k1 : ∀ (x4 : Int32) (x5 : Int32), P (.inr (.inl (x4, x5))) → gGo G YX9_hairs d Z 58 [some (.ref 141), none, some (.int x2), some (.int x3), some (.int x4), some (.int x5), none, none, none] [] M) (k2 : ∀ (x6 : Int32) (x7 : Int32), P (.inl (x6, x7)) → gGo G YX9_hairs d Z 86 [some (.ref 141), none, some (.int x2), some (.int x3), some (.int x4), some (.int x5), some (.int x6), some (.int x7), none] [] M) (h : gOKq (fX9_hairs_86 x2 x3 x4 x5 x6 x7 M) P) : gGo G YX9_hairs d Z 86 [some (.ref 141), none, some (.int x2), some (.int x3), some (.int x4), some (.int x5), some (.int x6), some (.int x7), none] [] M := by
  unfold fX9_hairs_86 at h
  refine go_rn 2 (pc' := 89) (L' := [some (.ref 141), none, some (.int x2), some (.int x3), some (.int x4), some (.int x5), some (.int x6), some (.int x7), none]) (S' := [.ref 141, .int x7]) (M' := M) okX9_hairs rfl ?_
  obtain ⟨r1, e2, h⟩ := gB0_ok h
  refine go_call1 ocX9_hairs rfl rfl (gOb_c rfl) rfl (SX9_people M e2) (Nat.lt_of_lt_of_le (by decide) hd) ?_
  refine go_br okX9_hairs rfl (fun hp => ?_) (fun hp => ?_)
  · have h := gq_pos hp h
    refine go_rn 4 (pc' := 58) (L' := [some (.ref 141), none, some (.int x2), some (.int x3), some (.int x6), some (.int (x5 + 1)), some (.int x6), some (.int x7), none]) (S' := []) (M' := M) okX9_hairs rfl ?_
    exact go_wk (k1 (x6) ((x5 + 1)) h) ⟨rfl, rfl, rfl, rfl, rfl, True.intro⟩
  · have h := gq_neg hp h
    refine go_rn 2 (pc' := 98) (L' := [some (.ref 141), none, some (.int x2), some (.int x3), some (.int x4), some (.int x5), some (.int x6), some (.int x7), some (.int (0 : Int32))]) (S' := []) (M' := M) okX9_hairs rfl ?_
    exact go_wk (CX9_hairs_98h hd x2 x3 x4 x5 x6 x7 (0 : Int32) M P k0 k1 k2 h) ⟨rfl, rfl, rfl, rfl, rfl, rfl, rfl, rfl, True.intro⟩
def fX9_hairs_86h (x2 : Int32) (x3 : Int32) (x4 : Int32) (x5 : Int32) (x6 : Int32) (x7 : Int32) (M : gMem) : Option (Sum (Int32 × Int32) (Int32 × gMem)) :=
  gLp (fun s : Int32 × Int32 => fX9_hairs_86 x2 x3 x4 x5 (s.1) (s.2) M) gFu (x6, x7)
set_option maxRecDepth 100000 in
theorem CX9_hairs_86h {G : gG} {d : Nat} {Z : Option Value → gMem → Prop} (hd : 8 ≤ d) (x2 : Int32) (x3 : Int32) (x4 : Int32) (x5 : Int32) (x6 : Int32) (x7 : Int32) (M : gMem) (P : Sum (Int32 × Int32) (Int32 × gMem) → Prop) (k0 : ∀ (r : Int32) (N : gMem), P (.inr (r, N)) → Z (some (.int r)) N) (k1 : ∀ (x4 : Int32) (x5 : Int32), P (.inl (x4, x5)) → gGo G YX9_hairs d Z 58 [some (.ref 141), none, some (.int x2), some (.int x3), some (.int x4), some (.int x5), none, none, none] [] M) (h : gOKq (fX9_hairs_86h x2 x3 x4 x5 x6 x7 M) P) : gGo G YX9_hairs d Z 86 [some (.ref 141), none, some (.int x2), some (.int x3), some (.int x4), some (.int x5), some (.int x6), some (.int x7), none] [] M :=
  gLp_go (K := fun s : Int32 × Int32 => gGo G YX9_hairs d Z 86 [some (.ref 141), none, some (.int x2), some (.int x3), some (.int x4), some (.int x5), some (.int s.1), some (.int s.2), none] [] M) (P := P) (fun s hs => CX9_hairs_86 hd (x2) (x3) (x4) (x5) (s.1) (s.2) M (Sum.elim (fun s : Int32 × Int32 => gGo G YX9_hairs d Z 86 [some (.ref 141), none, some (.int x2), some (.int x3), some (.int x4), some (.int x5), some (.int s.1), some (.int s.2), none] [] M) P) k0 k1 (fun x6 x7 hh => hh) hs) gFu (x6, x7) h
def fX9_hairs_58 (x2 : Int32) (x3 : Int32) (x4 : Int32) (x5 : Int32) (M : gMem) : Option (Sum (Int32 × Int32) (Int32 × gMem)) :=
  gB0 (fX9_people M) (fun r1 => if r1 ≤ x5 then some (.inr ((-1 : Int32), M)) else gB0 (fX9_isBit x4 x2 M) (fun r3 => if r3 = 0 then fX9_hairs_86h x2 x3 x4 x5 x4 (0 : Int32) M else some (.inr (x5, M))))
set_option maxRecDepth 100000 in
theorem CX9_hairs_58 {G : gG} {d : Nat} {Z : Option Value → gMem → Prop} (hd : 8 ≤ d) (x2 : Int32) (x3 : Int32) (x4 : Int32) (x5 : Int32) (M : gMem) (P : Sum (Int32 × Int32) (Int32 × gMem) → Prop) (k0 : ∀ (r : Int32) (N : gMem), P (.inr (r, N)) → Z (some (.int r)) N) (k1 : ∀ (x4 : Int32) (x5 : Int32), P (.inl (x4, x5)) → gGo G YX9_hairs d Z 58 [some (.ref 141), none, some (.int x2), some (.int x3), some (.int x4), some (.int x5), none, none, none] [] M) (h : gOKq (fX9_hairs_58 x2 x3 x4 x5 M) P) : gGo G YX9_hairs d Z 58 [some (.ref 141), none, some (.int x2), some (.int x3), some (.int x4), some (.int x5), none, none, none] [] M := by
  unfold fX9_hairs_58 at h
  refine go_rn 2 (pc' := 61) (L' := [some (.ref 141), none, some (.int x2), some (.int x3), some (.int x4), some (.int x5), none, none, none]) (S' := [.ref 141, .int x5]) (M' := M) okX9_hairs rfl ?_
  obtain ⟨r1, e2, h⟩ := gB0_ok h
  refine go_call1 ocX9_hairs rfl rfl (gOb_c rfl) rfl (SX9_people M e2) (Nat.lt_of_lt_of_le (by decide) hd) ?_
  refine go_br okX9_hairs rfl (fun hp => ?_) (fun hp => ?_)
  · have h := gq_pos hp h
    refine go_rn 1 (pc' := 170) (L' := [some (.ref 141), none, some (.int x2), some (.int x3), some (.int x4), some (.int x5), none, none, none]) (S' := [.int (-1 : Int32)]) (M' := M) okX9_hairs rfl ?_
    exact go_iret (reX9_hairs _ (by decide)) rfl (k0 (-1 : Int32) M h)
  · have h := gq_neg hp h
    refine go_rn 2 (pc' := 70) (L' := [some (.ref 141), none, some (.int x2), some (.int x3), some (.int x4), some (.int x5), none, none, none]) (S' := [.int x2, .int x4]) (M' := M) okX9_hairs rfl ?_
    obtain ⟨r3, e4, h⟩ := gB0_ok h
    refine go_call1 ocX9_hairs rfl rfl rfl rfl (SX9_isBit x4 x2 M e4) (Nat.lt_of_lt_of_le (by decide) hd) ?_
    refine go_br okX9_hairs rfl (fun hp => ?_) (fun hp => ?_)
    · have h := gq_pos hp h
      refine go_rn 4 (pc' := 86) (L' := [some (.ref 141), none, some (.int x2), some (.int x3), some (.int x4), some (.int x5), some (.int x4), some (.int (0 : Int32)), none]) (S' := []) (M' := M) okX9_hairs rfl ?_
      exact go_wk (CX9_hairs_86h hd x2 x3 x4 x5 x4 (0 : Int32) M P k0 k1 h) ⟨rfl, rfl, rfl, rfl, rfl, rfl, rfl, True.intro⟩
    · have h := gq_neg hp h
      refine go_rn 1 (pc' := 78) (L' := [some (.ref 141), none, some (.int x2), some (.int x3), some (.int x4), some (.int x5), none, none, none]) (S' := [.int x5]) (M' := M) okX9_hairs rfl ?_
      exact go_iret (reX9_hairs _ (by decide)) rfl (k0 x5 M h)
def fX9_hairs_58h (x2 : Int32) (x3 : Int32) (x4 : Int32) (x5 : Int32) (M : gMem) : Option (Int32 × gMem) :=
  gLp (fun s : Int32 × Int32 => fX9_hairs_58 x2 x3 (s.1) (s.2) M) gFu (x4, x5)
set_option maxRecDepth 100000 in
theorem CX9_hairs_58h {G : gG} {d : Nat} {Z : Option Value → gMem → Prop} (hd : 8 ≤ d) (x2 : Int32) (x3 : Int32) (x4 : Int32) (x5 : Int32) (M : gMem) (P : Int32 × gMem → Prop) (k0 : ∀ (r : Int32) (N : gMem), P (r, N) → Z (some (.int r)) N) (h : gOKq (fX9_hairs_58h x2 x3 x4 x5 M) P) : gGo G YX9_hairs d Z 58 [some (.ref 141), none, some (.int x2), some (.int x3), some (.int x4), some (.int x5), none, none, none] [] M :=
  gLp_go (K := fun s : Int32 × Int32 => gGo G YX9_hairs d Z 58 [some (.ref 141), none, some (.int x2), some (.int x3), some (.int s.1), some (.int s.2), none, none, none] [] M) (P := P) (fun s hs => CX9_hairs_58 hd (x2) (x3) (s.1) (s.2) M (Sum.elim (fun s : Int32 × Int32 => gGo G YX9_hairs d Z 58 [some (.ref 141), none, some (.int x2), some (.int x3), some (.int s.1), some (.int s.2), none, none, none] [] M) P) k0 (fun x4 x5 hh => hh) hs) gFu (x4, x5) h
def fX9_hairs_8 (x1 : Int32) (x2 : Int32) (x3 : Int32) (s0 : Int64) (M : gMem) : Option (Int32 × gMem) :=
  gB0 (fX9_isPerson s0 M) (fun r1 => if r1 = 0 then some ((-2 : Int32), M) else gB0 (fX9_isThen x2 x3 M) (fun r3 => if r3 = 0 then some ((-2 : Int32), M) else gB0 (fX9_laysNow M) (fun M5 => gB0 (fX9_isOut x1 x3 M5) (fun r7 => if r7 = 0 then gB0 (fX9_isOut x2 x3 M5) (fun r9 => if r9 = 0 then fX9_hairs_58h x2 x3 ((1 : Int32) <<< (x1 &&& 31)) (0 : Int32) M5 else some ((-1 : Int32), M5)) else some ((-1 : Int32), M5)))))
set_option maxRecDepth 100000 in
theorem CX9_hairs_8 {G : gG} {d : Nat} {Z : Option Value → gMem → Prop} (hd : 8 ≤ d) (x1 : Int32) (x2 : Int32) (x3 : Int32) (s0 : Int64) (M : gMem) (P : Int32 × gMem → Prop) (k0 : ∀ (r : Int32) (N : gMem), P (r, N) → Z (some (.int r)) N) (h : gOKq (fX9_hairs_8 x1 x2 x3 s0 M) P) : gGo G YX9_hairs d Z 8 [some (.ref 141), some (.int x1), some (.int x2), some (.int x3), none, none, none, none, none] [.long s0, .ref 141] M := by
  unfold fX9_hairs_8 at h
  obtain ⟨r1, e2, h⟩ := gB0_ok h
  refine go_call1 ocX9_hairs rfl rfl (gOb_c rfl) rfl (SX9_isPerson s0 M e2) (Nat.lt_of_lt_of_le (by decide) hd) ?_
  refine go_br okX9_hairs rfl (fun hp => ?_) (fun hp => ?_)
  · have h := gq_pos hp h
    refine go_rn 1 (pc' := 25) (L' := [some (.ref 141), some (.int x1), some (.int x2), some (.int x3), none, none, none, none, none]) (S' := [.int (-2 : Int32)]) (M' := M) okX9_hairs rfl ?_
    exact go_iret (reX9_hairs _ (by decide)) rfl (k0 (-2 : Int32) M h)
  · have h := gq_neg hp h
    refine go_rn 3 (pc' := 17) (L' := [some (.ref 141), some (.int x1), some (.int x2), some (.int x3), none, none, none, none, none]) (S' := [.int x3, .int x2, .ref 141]) (M' := M) okX9_hairs rfl ?_
    obtain ⟨r3, e4, h⟩ := gB0_ok h
    refine go_call1 ocX9_hairs rfl rfl (gOb_c rfl) rfl (SX9_isThen x2 x3 M e4) (Nat.lt_of_lt_of_le (by decide) hd) ?_
    refine go_br okX9_hairs rfl (fun hp => ?_) (fun hp => ?_)
    · have h := gq_pos hp h
      refine go_rn 1 (pc' := 25) (L' := [some (.ref 141), some (.int x1), some (.int x2), some (.int x3), none, none, none, none, none]) (S' := [.int (-2 : Int32)]) (M' := M) okX9_hairs rfl ?_
      exact go_iret (reX9_hairs _ (by decide)) rfl (k0 (-2 : Int32) M h)
    · have h := gq_neg hp h
      refine go_rn 1 (pc' := 27) (L' := [some (.ref 141), some (.int x1), some (.int x2), some (.int x3), none, none, none, none, none]) (S' := [.ref 141]) (M' := M) okX9_hairs rfl ?_
      obtain ⟨M5, e6, h⟩ := gB0_ok h
      refine go_call1 ocX9_hairs rfl rfl (gOb_c rfl) rfl (SX9_laysNow M e6) (Nat.lt_of_lt_of_le (by decide) hd) ?_
      refine go_rn 3 (pc' := 33) (L' := [some (.ref 141), some (.int x1), some (.int x2), some (.int x3), none, none, none, none, none]) (S' := [.int x3, .int x1, .ref 141]) (M' := M5) okX9_hairs rfl ?_
      obtain ⟨r7, e8, h⟩ := gB0_ok h
      refine go_call1 ocX9_hairs rfl rfl (gOb_c rfl) rfl (SX9_isOut x1 x3 M5 e8) (Nat.lt_of_lt_of_le (by decide) hd) ?_
      refine go_br okX9_hairs rfl (fun hp => ?_) (fun hp => ?_)
      · have h := gq_pos hp h
        refine go_rn 3 (pc' := 42) (L' := [some (.ref 141), some (.int x1), some (.int x2), some (.int x3), none, none, none, none, none]) (S' := [.int x3, .int x2, .ref 141]) (M' := M5) okX9_hairs rfl ?_
        obtain ⟨r9, e10, h⟩ := gB0_ok h
        refine go_call1 ocX9_hairs rfl rfl (gOb_c rfl) rfl (SX9_isOut x2 x3 M5 e10) (Nat.lt_of_lt_of_le (by decide) hd) ?_
        refine go_br okX9_hairs rfl (fun hp => ?_) (fun hp => ?_)
        · have h := gq_pos hp h
          refine go_rn 6 (pc' := 58) (L' := [some (.ref 141), some (.int x1), some (.int x2), some (.int x3), some (.int ((1 : Int32) <<< (x1 &&& 31))), some (.int (0 : Int32)), none, none, none]) (S' := []) (M' := M5) okX9_hairs rfl ?_
          exact go_wk (CX9_hairs_58h hd x2 x3 ((1 : Int32) <<< (x1 &&& 31)) (0 : Int32) M5 P k0 h) ⟨rfl, rfl, rfl, rfl, rfl, True.intro⟩
        · have h := gq_neg hp h
          refine go_rn 1 (pc' := 49) (L' := [some (.ref 141), some (.int x1), some (.int x2), some (.int x3), none, none, none, none, none]) (S' := [.int (-1 : Int32)]) (M' := M5) okX9_hairs rfl ?_
          exact go_iret (reX9_hairs _ (by decide)) rfl (k0 (-1 : Int32) M5 h)
      · have h := gq_neg hp h
        refine go_rn 1 (pc' := 49) (L' := [some (.ref 141), some (.int x1), some (.int x2), some (.int x3), none, none, none, none, none]) (S' := [.int (-1 : Int32)]) (M' := M5) okX9_hairs rfl ?_
        exact go_iret (reX9_hairs _ (by decide)) rfl (k0 (-1 : Int32) M5 h)
def fX9_hairs_0 (x1 : Int32) (x2 : Int32) (x3 : Int32) (M : gMem) : Option (Int32 × gMem) :=
  fX9_hairs_8 x1 x2 x3 (Int32.toInt64 x1) (gSI M 141 0 (0 : Int32))
set_option maxRecDepth 100000 in
theorem CX9_hairs_0 {G : gG} {d : Nat} {Z : Option Value → gMem → Prop} (hd : 8 ≤ d) (x1 : Int32) (x2 : Int32) (x3 : Int32) (M : gMem) (P : Int32 × gMem → Prop) (k0 : ∀ (r : Int32) (N : gMem), P (r, N) → Z (some (.int r)) N) (h : gOKq (fX9_hairs_0 x1 x2 x3 M) P) : gGo G YX9_hairs d Z 0 [some (.ref 141), some (.int x1), some (.int x2), some (.int x3), none, none, none, none, none] [] M := by
  unfold fX9_hairs_0 at h
  refine go_rn 2 (pc' := 2) (L' := [some (.ref 141), some (.int x1), some (.int x2), some (.int x3), none, none, none, none, none]) (S' := [.int (0 : Int32), .ref 141]) (M' := M) okX9_hairs rfl ?_
  refine go_ck okX9_hairs rfl (gOb_c rfl) ?_
  refine go_rn 3 (pc' := 8) (L' := [some (.ref 141), some (.int x1), some (.int x2), some (.int x3), none, none, none, none, none]) (S' := [.long (Int32.toInt64 x1), .ref 141]) (M' := (gSI M 141 0 (0 : Int32))) okX9_hairs rfl ?_
  exact go_wk (CX9_hairs_8 hd x1 x2 x3 (Int32.toInt64 x1) (gSI M 141 0 (0 : Int32)) P k0 h) ⟨rfl, rfl, rfl, rfl, True.intro⟩
def fX9_hairs (a1 : Int32) (a2 : Int32) (a3 : Int32) (M : gMem) : Option (Int32 × gMem) := fX9_hairs_0 a1 a2 a3 M
theorem SX9_hairs {G : gG} (a1 : Int32) (a2 : Int32) (a3 : Int32) (M : gMem) {r : Int32} {N : gMem} (h : fX9_hairs a1 a2 a3 M = some (r, N)) : gRun G YX9_hairs 8 [.ref 141, .int a1, .int a2, .int a3] M (fun r' N' => r' = some (.int r) ∧ N' = N) := gRun_in (by decide +kernel) rfl (fun d hd => go_wk (CX9_hairs_0 hd a1 a2 a3 M (fun p => p = (r, N)) (fun r N hh => by cases hh; exact ⟨rfl, rfl⟩) (gq_of h)) ⟨rfl, rfl, rfl, rfl, True.intro⟩)
