/-! exact functions of methods, and that the machine goes as they say: by program -/
def fX8_write_0 (x1 : Int32) (x2 : Int32) (x3 : Int64) (M : gMem) : Option (Int32 × gMem) :=
  gB0 (fX8_slotAt x1 M) (fun r1 => gNl r1 (some ((-2 : Int32), M)) (fun o3 => if gOb 4 o3 = true then gB0 (fX4_isThere o3 M) (fun r5 => if r5 = 0 then some ((-6 : Int32), M) else if x2 < 0 then some ((-7 : Int32), M) else if x2 < (M.1 o3 2) then gB0 (fX4_put o3 x2 x3 M) (fun M7 => some ((0 : Int32), M7)) else some ((-7 : Int32), M)) else none))
set_option maxRecDepth 100000 in
theorem CX8_write_0 {G : gG} {d : Nat} {Z : Option Value → gMem → Prop} (hd : 1 ≤ d) (x1 : Int32) (x2 : Int32) (x3 : Int64) (M : gMem) (P : Int32 × gMem → Prop) (k0 : ∀ (r : Int32) (N : gMem), P (r, N) → Z (some (.int r)) N) (h : gOKq (fX8_write_0 x1 x2 x3 M) P) : gGo G YX8_write d Z 0 [some (.ref 0), some (.int x1), some (.int x2), some (.long x3), none, none] [] M := by
  unfold fX8_write_0 at h
  refine go_rn 2 (pc' := 2) (L' := [some (.ref 0), some (.int x1), some (.int x2), some (.long x3), none, none]) (S' := [.int x1, .ref 0]) (M' := M) okX8_write rfl ?_
  obtain ⟨r1, e2, h⟩ := gB0_ok h
  refine go_call1 ocX8_write rfl rfl (gOb_c rfl) rfl (SX8_slotAt x1 M e2) (Nat.lt_of_lt_of_le (by decide) hd) ?_
  rcases gq_nl h with ⟨hv, hh⟩ | ⟨o3, hv, hh⟩
  · subst hv
    have h := hh
    refine go_rn 4 (pc' := 14) (L' := [some (.ref 0), some (.int x1), some (.int x2), some (.long x3), none, some (.null)]) (S' := [.int (-2 : Int32)]) (M' := M) okX8_write rfl ?_
    exact go_iret (reX8_write _ (by decide)) rfl (k0 (-2 : Int32) M h)
  · subst hv
    obtain ⟨c4, h⟩ := gq_if hh
    refine go_rn 4 (pc' := 17) (L' := [some (.ref 0), some (.int x1), some (.int x2), some (.long x3), none, some (.ref o3)]) (S' := [.ref o3]) (M' := M) okX8_write rfl ?_
    obtain ⟨r5, e6, h⟩ := gB0_ok h
    refine go_call1 ocX8_write rfl rfl c4 rfl (SX4_isThere o3 M c4 e6) (Nat.lt_of_lt_of_le (by decide) hd) ?_
    refine go_br okX8_write rfl (fun hp => ?_) (fun hp => ?_)
    · have h := gq_pos hp h
      refine go_rn 1 (pc' := 25) (L' := [some (.ref 0), some (.int x1), some (.int x2), some (.long x3), none, some (.ref o3)]) (S' := [.int (-6 : Int32)]) (M' := M) okX8_write rfl ?_
      exact go_iret (reX8_write _ (by decide)) rfl (k0 (-6 : Int32) M h)
    · have h := gq_neg hp h
      refine go_rn 1 (pc' := 27) (L' := [some (.ref 0), some (.int x1), some (.int x2), some (.long x3), none, some (.ref o3)]) (S' := [.int x2]) (M' := M) okX8_write rfl ?_
      refine go_br okX8_write rfl (fun hp => ?_) (fun hp => ?_)
      · have h := gq_pos hp h
        refine go_rn 1 (pc' := 41) (L' := [some (.ref 0), some (.int x1), some (.int x2), some (.long x3), none, some (.ref o3)]) (S' := [.int (-7 : Int32)]) (M' := M) okX8_write rfl ?_
        exact go_iret (reX8_write _ (by decide)) rfl (k0 (-7 : Int32) M h)
      · have h := gq_neg hp h
        refine go_rn 2 (pc' := 33) (L' := [some (.ref 0), some (.int x1), some (.int x2), some (.long x3), none, some (.ref o3)]) (S' := [.ref o3, .int x2]) (M' := M) okX8_write rfl ?_
        refine go_ck okX8_write rfl c4 ?_
        refine go_br okX8_write rfl (fun hp => ?_) (fun hp => ?_)
        · have h := gq_pos hp h
          refine go_rn 3 (pc' := 46) (L' := [some (.ref 0), some (.int x1), some (.int x2), some (.long x3), none, some (.ref o3)]) (S' := [.long x3, .int x2, .ref o3]) (M' := M) okX8_write rfl ?_
          obtain ⟨M7, e8, h⟩ := gB0_ok h
          refine go_call1 ocX8_write rfl rfl c4 rfl (SX4_put o3 x2 x3 M c4 e8) (Nat.lt_of_lt_of_le (by decide) hd) ?_
          refine go_rn 1 (pc' := 50) (L' := [some (.ref 0), some (.int x1), some (.int x2), some (.long x3), none, some (.ref o3)]) (S' := [.int (0 : Int32)]) (M' := M7) okX8_write rfl ?_
          exact go_iret (reX8_write _ (by decide)) rfl (k0 (0 : Int32) M7 h)
        · have h := gq_neg hp h
          refine go_rn 1 (pc' := 41) (L' := [some (.ref 0), some (.int x1), some (.int x2), some (.long x3), none, some (.ref o3)]) (S' := [.int (-7 : Int32)]) (M' := M) okX8_write rfl ?_
          exact go_iret (reX8_write _ (by decide)) rfl (k0 (-7 : Int32) M h)
def fX8_write (a1 : Int32) (a2 : Int32) (a3 : Int64) (M : gMem) : Option (Int32 × gMem) := fX8_write_0 a1 a2 a3 M
theorem SX8_write {G : gG} (a1 : Int32) (a2 : Int32) (a3 : Int64) (M : gMem) {r : Int32} {N : gMem} (h : fX8_write a1 a2 a3 M = some (r, N)) : gRun G YX8_write 1 [.ref 0, .int a1, .int a2, .long a3] M (fun r' N' => r' = some (.int r) ∧ N' = N) := gRun_in (by decide +kernel) rfl (fun d hd => go_wk (CX8_write_0 hd a1 a2 a3 M (fun p => p = (r, N)) (fun r N hh => by cases hh; exact ⟨rfl, rfl⟩) (gq_of h)) ⟨rfl, rfl, rfl, rfl, True.intro⟩)
def fX8_paste_0 (x1 : Int32) (x2 : Int32) (x3 : Int32) (x4 : Int32) (x5 : Int32) (M : gMem) : Option (Int32 × gMem) :=
  gB0 (fX8_slotAt x1 M) (fun r1 => gNl r1 (gB0 (fX8_slotAt x3 M) (fun r3 => gNl r3 (some ((-2 : Int32), M)) (fun o5 => if gOb 4 o5 = true then some ((-2 : Int32), M) else none))) (fun o7 => if gOb 4 o7 = true then gB0 (fX8_slotAt x3 M) (fun r9 => gNl r9 (some ((-2 : Int32), M)) (fun o11 => if gOb 4 o11 = true then gB0 (fX4_isThere o7 M) (fun r13 => if r13 = 0 then some ((-6 : Int32), M) else gB0 (fX4_isThere o11 M) (fun r15 => if r15 = 0 then some ((-6 : Int32), M) else if (M.1 o7 1) = (M.1 o11 1) then gB0 (fX4_reaches o7 x2 x5 M) (fun r17 => if r17 = 0 then some ((-7 : Int32), M) else gB0 (fX4_reaches o11 x4 x5 M) (fun r19 => if r19 = 0 then some ((-7 : Int32), M) else if gAr 4 (o7 + 1) = true ∧ gAr 4 (o11 + 1) = true ∧ 0 ≤ Int32.toInt x5 ∧ 0 ≤ Int32.toInt x4 ∧ 0 ≤ Int32.toInt x2 ∧ Int32.toInt x2 + Int32.toInt x5 ≤ ((gSh (o7 + 1)).2 : Int) ∧ Int32.toInt x4 + Int32.toInt x5 ≤ ((gSh (o11 + 1)).2 : Int) then some ((0 : Int32), (gCJ M (o11 + 1) (va_cpy (M.2.1 (o7 + 1)) (M.2.1 (o11 + 1)) (Int32.toNatClampNeg x2) (Int32.toNatClampNeg x4) (Int32.toNatClampNeg x5)))) else none)) else some ((-8 : Int32), M))) else none)) else none))
set_option maxRecDepth 100000 in
theorem CX8_paste_0 {G : gG} {d : Nat} {Z : Option Value → gMem → Prop} (hd : 1 ≤ d) (x1 : Int32) (x2 : Int32) (x3 : Int32) (x4 : Int32) (x5 : Int32) (M : gMem) (P : Int32 × gMem → Prop) (k0 : ∀ (r : Int32) (N : gMem), P (r, N) → Z (some (.int r)) N) (h : gOKq (fX8_paste_0 x1 x2 x3 x4 x5 M) P) : gGo G YX8_paste d Z 0 [some (.ref 0), some (.int x1), some (.int x2), some (.int x3), some (.int x4), some (.int x5), none, none] [] M := by
  unfold fX8_paste_0 at h
  refine go_rn 2 (pc' := 2) (L' := [some (.ref 0), some (.int x1), some (.int x2), some (.int x3), some (.int x4), some (.int x5), none, none]) (S' := [.int x1, .ref 0]) (M' := M) okX8_paste rfl ?_
  obtain ⟨r1, e2, h⟩ := gB0_ok h
  refine go_call1 ocX8_paste rfl rfl (gOb_c rfl) rfl (SX8_slotAt x1 M e2) (Nat.lt_of_lt_of_le (by decide) hd) ?_
  rcases gq_nl h with ⟨hv, hh⟩ | ⟨o7, hv, hh⟩
  · subst hv
    have h := hh
    refine go_rn 3 (pc' := 9) (L' := [some (.ref 0), some (.int x1), some (.int x2), some (.int x3), some (.int x4), some (.int x5), some (.null), none]) (S' := [.int x3, .ref 0]) (M' := M) okX8_paste rfl ?_
    obtain ⟨r3, e4, h⟩ := gB0_ok h
    refine go_call1 ocX8_paste rfl rfl (gOb_c rfl) rfl (SX8_slotAt x3 M e4) (Nat.lt_of_lt_of_le (by decide) hd) ?_
    rcases gq_nl h with ⟨hv, hh⟩ | ⟨o5, hv, hh⟩
    · subst hv
      have h := hh
      refine go_rn 4 (pc' := 26) (L' := [some (.ref 0), some (.int x1), some (.int x2), some (.int x3), some (.int x4), some (.int x5), some (.null), some (.null)]) (S' := [.int (-2 : Int32)]) (M' := M) okX8_paste rfl ?_
      exact go_iret (reX8_paste _ (by decide)) rfl (k0 (-2 : Int32) M h)
    · subst hv
      obtain ⟨c6, h⟩ := gq_if hh
      refine go_rn 4 (pc' := 26) (L' := [some (.ref 0), some (.int x1), some (.int x2), some (.int x3), some (.int x4), some (.int x5), some (.null), some (.ref o5)]) (S' := [.int (-2 : Int32)]) (M' := M) okX8_paste rfl ?_
      exact go_iret (reX8_paste _ (by decide)) rfl (k0 (-2 : Int32) M h)
  · subst hv
    obtain ⟨c8, h⟩ := gq_if hh
    refine go_rn 3 (pc' := 9) (L' := [some (.ref 0), some (.int x1), some (.int x2), some (.int x3), some (.int x4), some (.int x5), some (.ref o7), none]) (S' := [.int x3, .ref 0]) (M' := M) okX8_paste rfl ?_
    obtain ⟨r9, e10, h⟩ := gB0_ok h
    refine go_call1 ocX8_paste rfl rfl (gOb_c rfl) rfl (SX8_slotAt x3 M e10) (Nat.lt_of_lt_of_le (by decide) hd) ?_
    rcases gq_nl h with ⟨hv, hh⟩ | ⟨o11, hv, hh⟩
    · subst hv
      have h := hh
      refine go_rn 6 (pc' := 26) (L' := [some (.ref 0), some (.int x1), some (.int x2), some (.int x3), some (.int x4), some (.int x5), some (.ref o7), some (.null)]) (S' := [.int (-2 : Int32)]) (M' := M) okX8_paste rfl ?_
      exact go_iret (reX8_paste _ (by decide)) rfl (k0 (-2 : Int32) M h)
    · subst hv
      obtain ⟨c12, h⟩ := gq_if hh
      refine go_rn 6 (pc' := 29) (L' := [some (.ref 0), some (.int x1), some (.int x2), some (.int x3), some (.int x4), some (.int x5), some (.ref o7), some (.ref o11)]) (S' := [.ref o7]) (M' := M) okX8_paste rfl ?_
      obtain ⟨r13, e14, h⟩ := gB0_ok h
      refine go_call1 ocX8_paste rfl rfl c8 rfl (SX4_isThere o7 M c8 e14) (Nat.lt_of_lt_of_le (by decide) hd) ?_
      refine go_br okX8_paste rfl (fun hp => ?_) (fun hp => ?_)
      · have h := gq_pos hp h
        refine go_rn 1 (pc' := 45) (L' := [some (.ref 0), some (.int x1), some (.int x2), some (.int x3), some (.int x4), some (.int x5), some (.ref o7), some (.ref o11)]) (S' := [.int (-6 : Int32)]) (M' := M) okX8_paste rfl ?_
        exact go_iret (reX8_paste _ (by decide)) rfl (k0 (-6 : Int32) M h)
      · have h := gq_neg hp h
        refine go_rn 1 (pc' := 37) (L' := [some (.ref 0), some (.int x1), some (.int x2), some (.int x3), some (.int x4), some (.int x5), some (.ref o7), some (.ref o11)]) (S' := [.ref o11]) (M' := M) okX8_paste rfl ?_
        obtain ⟨r15, e16, h⟩ := gB0_ok h
        refine go_call1 ocX8_paste rfl rfl c12 rfl (SX4_isThere o11 M c12 e16) (Nat.lt_of_lt_of_le (by decide) hd) ?_
        refine go_br okX8_paste rfl (fun hp => ?_) (fun hp => ?_)
        · have h := gq_pos hp h
          refine go_rn 1 (pc' := 45) (L' := [some (.ref 0), some (.int x1), some (.int x2), some (.int x3), some (.int x4), some (.int x5), some (.ref o7), some (.ref o11)]) (S' := [.int (-6 : Int32)]) (M' := M) okX8_paste rfl ?_
          exact go_iret (reX8_paste _ (by decide)) rfl (k0 (-6 : Int32) M h)
        · have h := gq_neg hp h
          refine go_rn 1 (pc' := 48) (L' := [some (.ref 0), some (.int x1), some (.int x2), some (.int x3), some (.int x4), some (.int x5), some (.ref o7), some (.ref o11)]) (S' := [.ref o7]) (M' := M) okX8_paste rfl ?_
          refine go_ck okX8_paste rfl c8 ?_
          refine go_rn 1 (pc' := 53) (L' := [some (.ref 0), some (.int x1), some (.int x2), some (.int x3), some (.int x4), some (.int x5), some (.ref o7), some (.ref o11)]) (S' := [.ref o11, .int (M.1 o7 1)]) (M' := M) okX8_paste rfl ?_
          refine go_ck okX8_paste rfl c12 ?_
          refine go_br okX8_paste rfl (fun hp => ?_) (fun hp => ?_)
          · have h := gq_pos hp h
            refine go_rn 3 (pc' := 67) (L' := [some (.ref 0), some (.int x1), some (.int x2), some (.int x3), some (.int x4), some (.int x5), some (.ref o7), some (.ref o11)]) (S' := [.int x5, .int x2, .ref o7]) (M' := M) okX8_paste rfl ?_
            obtain ⟨r17, e18, h⟩ := gB0_ok h
            refine go_call1 ocX8_paste rfl rfl c8 rfl (SX4_reaches o7 x2 x5 M c8 e18) (Nat.lt_of_lt_of_le (by decide) hd) ?_
            refine go_br okX8_paste rfl (fun hp => ?_) (fun hp => ?_)
            · have h := gq_pos hp h
              refine go_rn 1 (pc' := 87) (L' := [some (.ref 0), some (.int x1), some (.int x2), some (.int x3), some (.int x4), some (.int x5), some (.ref o7), some (.ref o11)]) (S' := [.int (-7 : Int32)]) (M' := M) okX8_paste rfl ?_
              exact go_iret (reX8_paste _ (by decide)) rfl (k0 (-7 : Int32) M h)
            · have h := gq_neg hp h
              refine go_rn 3 (pc' := 79) (L' := [some (.ref 0), some (.int x1), some (.int x2), some (.int x3), some (.int x4), some (.int x5), some (.ref o7), some (.ref o11)]) (S' := [.int x5, .int x4, .ref o11]) (M' := M) okX8_paste rfl ?_
              obtain ⟨r19, e20, h⟩ := gB0_ok h
              refine go_call1 ocX8_paste rfl rfl c12 rfl (SX4_reaches o11 x4 x5 M c12 e20) (Nat.lt_of_lt_of_le (by decide) hd) ?_
              refine go_br okX8_paste rfl (fun hp => ?_) (fun hp => ?_)
              · have h := gq_pos hp h
                refine go_rn 1 (pc' := 87) (L' := [some (.ref 0), some (.int x1), some (.int x2), some (.int x3), some (.int x4), some (.int x5), some (.ref o7), some (.ref o11)]) (S' := [.int (-7 : Int32)]) (M' := M) okX8_paste rfl ?_
                exact go_iret (reX8_paste _ (by decide)) rfl (k0 (-7 : Int32) M h)
              · have h := gq_neg hp h
                refine go_rn 1 (pc' := 90) (L' := [some (.ref 0), some (.int x1), some (.int x2), some (.int x3), some (.int x4), some (.int x5), some (.ref o7), some (.ref o11)]) (S' := [.ref o7]) (M' := M) okX8_paste rfl ?_
                refine go_ck okX8_paste rfl c8 ?_
                refine go_rn 2 (pc' := 96) (L' := [some (.ref 0), some (.int x1), some (.int x2), some (.int x3), some (.int x4), some (.int x5), some (.ref o7), some (.ref o11)]) (S' := [.ref o11, .int x2, .ref (o7 + 1)]) (M' := M) okX8_paste rfl ?_
                refine go_ck okX8_paste rfl c12 ?_
                refine go_rn 2 (pc' := 103) (L' := [some (.ref 0), some (.int x1), some (.int x2), some (.int x3), some (.int x4), some (.int x5), some (.ref o7), some (.ref o11)]) (S' := [.int x5, .int x4, .ref (o11 + 1), .int x2, .ref (o7 + 1)]) (M' := M) okX8_paste rfl ?_
                obtain ⟨c21, h⟩ := gq_if h
                refine go_ck okX8_paste rfl ⟨rfl, c21⟩ ?_
                refine go_rn 1 (pc' := 107) (L' := [some (.ref 0), some (.int x1), some (.int x2), some (.int x3), some (.int x4), some (.int x5), some (.ref o7), some (.ref o11)]) (S' := [.int (0 : Int32)]) (M' := (gCJ M (o11 + 1) (va_cpy (M.2.1 (o7 + 1)) (M.2.1 (o11 + 1)) (Int32.toNatClampNeg x2) (Int32.toNatClampNeg x4) (Int32.toNatClampNeg x5)))) okX8_paste rfl ?_
                exact go_iret (reX8_paste _ (by decide)) rfl (k0 (0 : Int32) (gCJ M (o11 + 1) (va_cpy (M.2.1 (o7 + 1)) (M.2.1 (o11 + 1)) (Int32.toNatClampNeg x2) (Int32.toNatClampNeg x4) (Int32.toNatClampNeg x5))) h)
          · have h := gq_neg hp h
            refine go_rn 1 (pc' := 61) (L' := [some (.ref 0), some (.int x1), some (.int x2), some (.int x3), some (.int x4), some (.int x5), some (.ref o7), some (.ref o11)]) (S' := [.int (-8 : Int32)]) (M' := M) okX8_paste rfl ?_
            exact go_iret (reX8_paste _ (by decide)) rfl (k0 (-8 : Int32) M h)
def fX8_paste (a1 : Int32) (a2 : Int32) (a3 : Int32) (a4 : Int32) (a5 : Int32) (M : gMem) : Option (Int32 × gMem) := fX8_paste_0 a1 a2 a3 a4 a5 M
theorem SX8_paste {G : gG} (a1 : Int32) (a2 : Int32) (a3 : Int32) (a4 : Int32) (a5 : Int32) (M : gMem) {r : Int32} {N : gMem} (h : fX8_paste a1 a2 a3 a4 a5 M = some (r, N)) : gRun G YX8_paste 1 [.ref 0, .int a1, .int a2, .int a3, .int a4, .int a5] M (fun r' N' => r' = some (.int r) ∧ N' = N) := gRun_in (by decide +kernel) rfl (fun d hd => go_wk (CX8_paste_0 hd a1 a2 a3 a4 a5 M (fun p => p = (r, N)) (fun r N hh => by cases hh; exact ⟨rfl, rfl⟩) (gq_of h)) ⟨rfl, rfl, rfl, rfl, rfl, rfl, True.intro⟩)
def fX9_in_0 (x0 : Int64) (x2 : Int64) (x4 : Int64) (M : gMem) : Option (Int32) :=
  if (lg_cmp x0 x2) < 0 then some (0 : Int32) else if 0 < (lg_cmp x0 x4) then some (0 : Int32) else some (1 : Int32)
set_option maxRecDepth 100000 in
theorem CX9_in_0 {G : gG} {d : Nat} {Z : Option Value → gMem → Prop} (hd : 0 ≤ d) (x0 : Int64) (x2 : Int64) (x4 : Int64) (M : gMem) (P : Int32 → Prop) (k0 : ∀ (r : Int32), P r → Z (some (.int r)) M) (h : gOKq (fX9_in_0 x0 x2 x4 M) P) : gGo G YX9_in d Z 0 [some (.long x0), none, some (.long x2), none, some (.long x4), none] [] M := by
  unfold fX9_in_0 at h
  refine go_rn 3 (pc' := 3) (L' := [some (.long x0), none, some (.long x2), none, some (.long x4), none]) (S' := [.int (lg_cmp x0 x2)]) (M' := M) okX9_in rfl ?_
  refine go_br okX9_in rfl (fun hp => ?_) (fun hp => ?_)
  · have h := gq_pos hp h
    refine go_rn 1 (pc' := 18) (L' := [some (.long x0), none, some (.long x2), none, some (.long x4), none]) (S' := [.int (0 : Int32)]) (M' := M) okX9_in rfl ?_
    exact go_zret (reX9_in _ (by decide)) rfl (Or.inl rfl) (k0 (0 : Int32) h)
  · have h := gq_neg hp h
    refine go_rn 3 (pc' := 10) (L' := [some (.long x0), none, some (.long x2), none, some (.long x4), none]) (S' := [.int (lg_cmp x0 x4)]) (M' := M) okX9_in rfl ?_
    refine go_br okX9_in rfl (fun hp => ?_) (fun hp => ?_)
    · have h := gq_pos hp h
      refine go_rn 1 (pc' := 18) (L' := [some (.long x0), none, some (.long x2), none, some (.long x4), none]) (S' := [.int (0 : Int32)]) (M' := M) okX9_in rfl ?_
      exact go_zret (reX9_in _ (by decide)) rfl (Or.inl rfl) (k0 (0 : Int32) h)
    · have h := gq_neg hp h
      refine go_rn 2 (pc' := 18) (L' := [some (.long x0), none, some (.long x2), none, some (.long x4), none]) (S' := [.int (1 : Int32)]) (M' := M) okX9_in rfl ?_
      exact go_zret (reX9_in _ (by decide)) rfl (Or.inr rfl) (k0 (1 : Int32) h)
def fX9_in (a0 : Int64) (a1 : Int64) (a2 : Int64) (M : gMem) : Option (Int32) := fX9_in_0 a0 a1 a2 M
theorem SX9_in {G : gG} (a0 : Int64) (a1 : Int64) (a2 : Int64) (M : gMem) {r : Int32} (h : fX9_in a0 a1 a2 M = some r) : gRun G YX9_in 0 [.long a0, .long a1, .long a2] M (fun r' N' => r' = some (.int r) ∧ N' = M) := gRun_in (by decide +kernel) rfl (fun d hd => go_wk (CX9_in_0 hd a0 a1 a2 M (fun p => p = r) (fun r hh => ⟨congrArg (fun z => some (Value.int z)) hh, rfl⟩) (gq_of h)) ⟨rfl, rfl, rfl, True.intro⟩)
def fX9_isSlot_0 (x0 : Int32) (M : gMem) : Option (Int32) :=
  gB0 (fX9_in (Int32.toInt64 x0) (0 : Int64) (3 : Int64) M) (fun r1 => if r1 = 0 ∨ r1 = 1 then some r1 else none)
set_option maxRecDepth 100000 in
theorem CX9_isSlot_0 {G : gG} {d : Nat} {Z : Option Value → gMem → Prop} (hd : 1 ≤ d) (x0 : Int32) (M : gMem) (P : Int32 → Prop) (k0 : ∀ (r : Int32), P r → Z (some (.int r)) M) (h : gOKq (fX9_isSlot_0 x0 M) P) : gGo G YX9_isSlot d Z 0 [some (.int x0)] [] M := by
  unfold fX9_isSlot_0 at h
  refine go_rn 4 (pc' := 6) (L' := [some (.int x0)]) (S' := [.long (3 : Int64), .long (0 : Int64), .long (Int32.toInt64 x0)]) (M' := M) okX9_isSlot rfl ?_
  obtain ⟨r1, e2, h⟩ := gB0_ok h
  refine go_call1 ocX9_isSlot rfl rfl rfl rfl (SX9_in (Int32.toInt64 x0) (0 : Int64) (3 : Int64) M e2) (Nat.lt_of_lt_of_le (by decide) hd) ?_
  obtain ⟨hz, h⟩ := gq_if h
  exact go_zret (reX9_isSlot _ (by decide)) rfl hz (k0 r1 h)
def fX9_isSlot (a0 : Int32) (M : gMem) : Option (Int32) := fX9_isSlot_0 a0 M
theorem SX9_isSlot {G : gG} (a0 : Int32) (M : gMem) {r : Int32} (h : fX9_isSlot a0 M = some r) : gRun G YX9_isSlot 1 [.int a0] M (fun r' N' => r' = some (.int r) ∧ N' = M) := gRun_in (by decide +kernel) rfl (fun d hd => go_wk (CX9_isSlot_0 hd a0 M (fun p => p = r) (fun r hh => ⟨congrArg (fun z => some (Value.int z)) hh, rfl⟩) (gq_of h)) ⟨rfl, True.intro⟩)
def fX9_row_57 (x1 : Int32) (x3 : Int32) (x4 : Int32) (M : gMem) : Option (Sum (Int32 × gMem) (Int32 × gMem)) :=
  if x3 ≤ x4 then some (.inr ((0 : Int32), M)) else if gIx 4 144 (((60 : Int32) * x1) + x4) = true then some (.inl ((x4 + 1), (gSJ M 144 (Int32.toNatClampNeg (((60 : Int32) * x1) + x4)) (0 : Int64)))) else none
set_option maxRecDepth 100000 in
theorem CX9_row_57 {G : gG} {d : Nat} {Z : Option Value → gMem → Prop} (hd : 2 ≤ d) (x1 : Int32) (x3 : Int32) (x4 : Int32) (M : gMem) (P : Sum (Int32 × gMem) (Int32 × gMem) → Prop) (k0 : ∀ (r : Int32) (N : gMem), P (.inr (r, N)) → Z (some (.int r)) N) (k1 : ∀ (x4 : Int32) (M : gMem), P (.inl (x4, M)) → gGo G YX9_row d Z 57 [some (.ref 141), some (.int x1), none, some (.int x3), some (.int x4)] [] M) (h : gOKq (fX9_row_57 x1 x3 x4 M) P) : gGo G YX9_row d Z 57 [some (.ref 141), some (.int x1), none, some (.int x3), some (.int x4)] [] M := by
  unfold fX9_row_57 at h
  refine go_rn 2 (pc' := 60) (L' := [some (.ref 141), some (.int x1), none, some (.int x3), some (.int x4)]) (S' := [.int x3, .int x4]) (M' := M) okX9_row rfl ?_
  refine go_br okX9_row rfl (fun hp => ?_) (fun hp => ?_)
  · have h := gq_pos hp h
    refine go_rn 1 (pc' := 83) (L' := [some (.ref 141), some (.int x1), none, some (.int x3), some (.int x4)]) (S' := [.int (0 : Int32)]) (M' := M) okX9_row rfl ?_
    exact go_iret (reX9_row _ (by decide)) rfl (k0 (0 : Int32) M h)
  · have h := gq_neg hp h
    refine go_rn 1 (pc' := 64) (L' := [some (.ref 141), some (.int x1), none, some (.int x3), some (.int x4)]) (S' := [.ref 141]) (M' := M) okX9_row rfl ?_
    refine go_ck okX9_row rfl (gOb_c rfl) ?_
    refine go_rn 6 (pc' := 75) (L' := [some (.ref 141), some (.int x1), none, some (.int x3), some (.int x4)]) (S' := [.long (0 : Int64), .int (((60 : Int32) * x1) + x4), .ref 144]) (M' := M) okX9_row rfl ?_
    obtain ⟨c1, h⟩ := gq_if h
    refine go_ck okX9_row rfl c1 ?_
    refine go_rn 2 (pc' := 57) (L' := [some (.ref 141), some (.int x1), none, some (.int x3), some (.int (x4 + 1))]) (S' := []) (M' := (gSJ M 144 (Int32.toNatClampNeg (((60 : Int32) * x1) + x4)) (0 : Int64))) okX9_row rfl ?_
    exact go_wk (k1 ((x4 + 1)) (gSJ M 144 (Int32.toNatClampNeg (((60 : Int32) * x1) + x4)) (0 : Int64)) h) ⟨rfl, rfl, rfl, rfl, True.intro⟩
def fX9_row_57h (x1 : Int32) (x3 : Int32) (x4 : Int32) (M : gMem) : Option (Int32 × gMem) :=
  gLp (fun s : Int32 × gMem => fX9_row_57 x1 x3 (s.1) s.2) gFu (x4, M)
set_option maxRecDepth 100000 in
theorem CX9_row_57h {G : gG} {d : Nat} {Z : Option Value → gMem → Prop} (hd : 2 ≤ d) (x1 : Int32) (x3 : Int32) (x4 : Int32) (M : gMem) (P : Int32 × gMem → Prop) (k0 : ∀ (r : Int32) (N : gMem), P (r, N) → Z (some (.int r)) N) (h : gOKq (fX9_row_57h x1 x3 x4 M) P) : gGo G YX9_row d Z 57 [some (.ref 141), some (.int x1), none, some (.int x3), some (.int x4)] [] M :=
  gLp_go (K := fun s : Int32 × gMem => gGo G YX9_row d Z 57 [some (.ref 141), some (.int x1), none, some (.int x3), some (.int s.1)] [] s.2) (P := P) (fun s hs => CX9_row_57 hd (x1) (x3) (s.1) (s.2) (Sum.elim (fun s : Int32 × gMem => gGo G YX9_row d Z 57 [some (.ref 141), some (.int x1), none, some (.int x3), some (.int s.1)] [] s.2) P) k0 (fun x4 M hh => hh) hs) gFu (x4, M) h
def fX9_row_53 (x1 : Int32) (x3 : Int32) (s0 : Int32) (s1 : Int32) (M : gMem) : Option (Int32 × gMem) :=
  if gIx 1 143 s1 = true then fX9_row_57h x1 x3 (0 : Int32) (gSI M 143 (Int32.toNatClampNeg s1) s0) else none
set_option maxRecDepth 100000 in
theorem CX9_row_53 {G : gG} {d : Nat} {Z : Option Value → gMem → Prop} (hd : 2 ≤ d) (x1 : Int32) (x3 : Int32) (s0 : Int32) (s1 : Int32) (M : gMem) (P : Int32 × gMem → Prop) (k0 : ∀ (r : Int32) (N : gMem), P (r, N) → Z (some (.int r)) N) (h : gOKq (fX9_row_53 x1 x3 s0 s1 M) P) : gGo G YX9_row d Z 53 [some (.ref 141), some (.int x1), none, some (.int x3), none] [.int s0, .int s1, .ref 143] M := by
  unfold fX9_row_53 at h
  obtain ⟨c1, h⟩ := gq_if h
  refine go_ck okX9_row rfl c1 ?_
  refine go_rn 2 (pc' := 57) (L' := [some (.ref 141), some (.int x1), none, some (.int x3), some (.int (0 : Int32))]) (S' := []) (M' := (gSI M 143 (Int32.toNatClampNeg s1) s0)) okX9_row rfl ?_
  exact go_wk (CX9_row_57h hd x1 x3 (0 : Int32) (gSI M 143 (Int32.toNatClampNeg s1) s0) P k0 h) ⟨rfl, rfl, rfl, rfl, True.intro⟩
def fX9_row_6 (x1 : Int32) (x2 : Int32) (x3 : Int32) (s0 : Int32) (M : gMem) : Option (Int32 × gMem) :=
  gB0 (fX9_isSlot s0 M) (fun r1 => if r1 = 0 then some ((-2 : Int32), M) else gB0 (fX9_in (Int32.toInt64 x2) (0 : Int64) (3 : Int64) M) (fun r3 => if r3 = 0 then some ((-2 : Int32), M) else if x3 ≤ (60 : Int32) then if 0 ≤ x3 then if gIx 1 142 x1 = true then fX9_row_53 x1 x3 x3 x1 (gSI M 142 (Int32.toNatClampNeg x1) x2) else none else some ((-3 : Int32), M) else some ((-2 : Int32), M)))
set_option maxRecDepth 100000 in
theorem CX9_row_6 {G : gG} {d : Nat} {Z : Option Value → gMem → Prop} (hd : 2 ≤ d) (x1 : Int32) (x2 : Int32) (x3 : Int32) (s0 : Int32) (M : gMem) (P : Int32 × gMem → Prop) (k0 : ∀ (r : Int32) (N : gMem), P (r, N) → Z (some (.int r)) N) (h : gOKq (fX9_row_6 x1 x2 x3 s0 M) P) : gGo G YX9_row d Z 6 [some (.ref 141), some (.int x1), some (.int x2), some (.int x3), none] [.int s0] M := by
  unfold fX9_row_6 at h
  obtain ⟨r1, e2, h⟩ := gB0_ok h
  refine go_call1 ocX9_row rfl rfl rfl rfl (SX9_isSlot s0 M e2) (Nat.lt_of_lt_of_le (by decide) hd) ?_
  refine go_br okX9_row rfl (fun hp => ?_) (fun hp => ?_)
  · have h := gq_pos hp h
    refine go_rn 1 (pc' := 32) (L' := [some (.ref 141), some (.int x1), some (.int x2), some (.int x3), none]) (S' := [.int (-2 : Int32)]) (M' := M) okX9_row rfl ?_
    exact go_iret (reX9_row _ (by decide)) rfl (k0 (-2 : Int32) M h)
  · have h := gq_neg hp h
    refine go_rn 4 (pc' := 18) (L' := [some (.ref 141), some (.int x1), some (.int x2), some (.int x3), none]) (S' := [.long (3 : Int64), .long (0 : Int64), .long (Int32.toInt64 x2)]) (M' := M) okX9_row rfl ?_
    obtain ⟨r3, e4, h⟩ := gB0_ok h
    refine go_call1 ocX9_row rfl rfl rfl rfl (SX9_in (Int32.toInt64 x2) (0 : Int64) (3 : Int64) M e4) (Nat.lt_of_lt_of_le (by decide) hd) ?_
    refine go_br okX9_row rfl (fun hp => ?_) (fun hp => ?_)
    · have h := gq_pos hp h
      refine go_rn 1 (pc' := 32) (L' := [some (.ref 141), some (.int x1), some (.int x2), some (.int x3), none]) (S' := [.int (-2 : Int32)]) (M' := M) okX9_row rfl ?_
      exact go_iret (reX9_row _ (by decide)) rfl (k0 (-2 : Int32) M h)
    · have h := gq_neg hp h
      refine go_rn 2 (pc' := 27) (L' := [some (.ref 141), some (.int x1), some (.int x2), some (.int x3), none]) (S' := [.int (60 : Int32), .int x3]) (M' := M) okX9_row rfl ?_
      refine go_br okX9_row rfl (fun hp => ?_) (fun hp => ?_)
      · have h := gq_pos hp h
        refine go_rn 1 (pc' := 34) (L' := [some (.ref 141), some (.int x1), some (.int x2), some (.int x3), none]) (S' := [.int x3]) (M' := M) okX9_row rfl ?_
        refine go_br okX9_row rfl (fun hp => ?_) (fun hp => ?_)
        · have h := gq_pos hp h
          refine go_rn 1 (pc' := 41) (L' := [some (.ref 141), some (.int x1), some (.int x2), some (.int x3), none]) (S' := [.ref 141]) (M' := M) okX9_row rfl ?_
          refine go_ck okX9_row rfl (gOb_c rfl) ?_
          refine go_rn 2 (pc' := 46) (L' := [some (.ref 141), some (.int x1), some (.int x2), some (.int x3), none]) (S' := [.int x2, .int x1, .ref 142]) (M' := M) okX9_row rfl ?_
          obtain ⟨c5, h⟩ := gq_if h
          refine go_ck okX9_row rfl c5 ?_
          refine go_rn 1 (pc' := 48) (L' := [some (.ref 141), some (.int x1), some (.int x2), some (.int x3), none]) (S' := [.ref 141]) (M' := (gSI M 142 (Int32.toNatClampNeg x1) x2)) okX9_row rfl ?_
          refine go_ck okX9_row rfl (gOb_c rfl) ?_
          refine go_rn 2 (pc' := 53) (L' := [some (.ref 141), some (.int x1), some (.int x2), some (.int x3), none]) (S' := [.int x3, .int x1, .ref 143]) (M' := (gSI M 142 (Int32.toNatClampNeg x1) x2)) okX9_row rfl ?_
          exact go_wk (CX9_row_53 hd x1 x3 x3 x1 (gSI M 142 (Int32.toNatClampNeg x1) x2) P k0 h) ⟨rfl, rfl, rfl, True.intro⟩
        · have h := gq_neg hp h
          refine go_rn 1 (pc' := 39) (L' := [some (.ref 141), some (.int x1), some (.int x2), some (.int x3), none]) (S' := [.int (-3 : Int32)]) (M' := M) okX9_row rfl ?_
          exact go_iret (reX9_row _ (by decide)) rfl (k0 (-3 : Int32) M h)
      · have h := gq_neg hp h
        refine go_rn 1 (pc' := 32) (L' := [some (.ref 141), some (.int x1), some (.int x2), some (.int x3), none]) (S' := [.int (-2 : Int32)]) (M' := M) okX9_row rfl ?_
        exact go_iret (reX9_row _ (by decide)) rfl (k0 (-2 : Int32) M h)
def fX9_row_0 (x1 : Int32) (x2 : Int32) (x3 : Int32) (M : gMem) : Option (Int32 × gMem) :=
  fX9_row_6 x1 x2 x3 x1 (gSI M 141 0 (0 : Int32))
set_option maxRecDepth 100000 in
theorem CX9_row_0 {G : gG} {d : Nat} {Z : Option Value → gMem → Prop} (hd : 2 ≤ d) (x1 : Int32) (x2 : Int32) (x3 : Int32) (M : gMem) (P : Int32 × gMem → Prop) (k0 : ∀ (r : Int32) (N : gMem), P (r, N) → Z (some (.int r)) N) (h : gOKq (fX9_row_0 x1 x2 x3 M) P) : gGo G YX9_row d Z 0 [some (.ref 141), some (.int x1), some (.int x2), some (.int x3), none] [] M := by
  unfold fX9_row_0 at h
  refine go_rn 2 (pc' := 2) (L' := [some (.ref 141), some (.int x1), some (.int x2), some (.int x3), none]) (S' := [.int (0 : Int32), .ref 141]) (M' := M) okX9_row rfl ?_
  refine go_ck okX9_row rfl (gOb_c rfl) ?_
  refine go_rn 1 (pc' := 6) (L' := [some (.ref 141), some (.int x1), some (.int x2), some (.int x3), none]) (S' := [.int x1]) (M' := (gSI M 141 0 (0 : Int32))) okX9_row rfl ?_
  exact go_wk (CX9_row_6 hd x1 x2 x3 x1 (gSI M 141 0 (0 : Int32)) P k0 h) ⟨rfl, rfl, rfl, rfl, True.intro⟩
def fX9_row (a1 : Int32) (a2 : Int32) (a3 : Int32) (M : gMem) : Option (Int32 × gMem) := fX9_row_0 a1 a2 a3 M
theorem SX9_row {G : gG} (a1 : Int32) (a2 : Int32) (a3 : Int32) (M : gMem) {r : Int32} {N : gMem} (h : fX9_row a1 a2 a3 M = some (r, N)) : gRun G YX9_row 2 [.ref 141, .int a1, .int a2, .int a3] M (fun r' N' => r' = some (.int r) ∧ N' = N) := gRun_in (by decide +kernel) rfl (fun d hd => go_wk (CX9_row_0 hd a1 a2 a3 M (fun p => p = (r, N)) (fun r N hh => by cases hh; exact ⟨rfl, rfl⟩) (gq_of h)) ⟨rfl, rfl, rfl, rfl, True.intro⟩)
def fX9_cut_0 (x0 : Int64) (x2 : Int32) (M : gMem) : Option (Int64) :=
  if x2 = 0 then some (Int32.toInt64 ((Int64.toInt32 x0).toInt8.toInt32)) else if x2 = (1 : Int32) then some (Int32.toInt64 ((Int64.toInt32 x0).toInt16.toInt32)) else if x2 = (2 : Int32) then some (Int32.toInt64 (Int64.toInt32 x0)) else some x0
set_option maxRecDepth 100000 in
theorem CX9_cut_0 {G : gG} {d : Nat} {Z : Option Value → gMem → Prop} (hd : 0 ≤ d) (x0 : Int64) (x2 : Int32) (M : gMem) (P : Int64 → Prop) (k0 : ∀ (r : Int64), P r → Z (some (.long r)) M) (h : gOKq (fX9_cut_0 x0 x2 M) P) : gGo G YX9_cut d Z 0 [some (.long x0), none, some (.int x2)] [] M := by
  unfold fX9_cut_0 at h
  refine go_rn 1 (pc' := 1) (L' := [some (.long x0), none, some (.int x2)]) (S' := [.int x2]) (M' := M) okX9_cut rfl ?_
  refine go_br okX9_cut rfl (fun hp => ?_) (fun hp => ?_)
  · have h := gq_pos hp h
    refine go_rn 5 (pc' := 35) (L' := [some (.long x0), none, some (.int x2)]) (S' := [.long (Int32.toInt64 ((Int64.toInt32 x0).toInt8.toInt32))]) (M' := M) okX9_cut rfl ?_
    exact go_lret (reX9_cut _ (by decide)) rfl (k0 (Int32.toInt64 ((Int64.toInt32 x0).toInt8.toInt32)) h)
  · have h := gq_neg hp h
    refine go_rn 2 (pc' := 13) (L' := [some (.long x0), none, some (.int x2)]) (S' := [.int (1 : Int32), .int x2]) (M' := M) okX9_cut rfl ?_
    refine go_br okX9_cut rfl (fun hp => ?_) (fun hp => ?_)
    · have h := gq_pos hp h
      refine go_rn 5 (pc' := 35) (L' := [some (.long x0), none, some (.int x2)]) (S' := [.long (Int32.toInt64 ((Int64.toInt32 x0).toInt16.toInt32))]) (M' := M) okX9_cut rfl ?_
      exact go_lret (reX9_cut _ (by decide)) rfl (k0 (Int32.toInt64 ((Int64.toInt32 x0).toInt16.toInt32)) h)
    · have h := gq_neg hp h
      refine go_rn 2 (pc' := 25) (L' := [some (.long x0), none, some (.int x2)]) (S' := [.int (2 : Int32), .int x2]) (M' := M) okX9_cut rfl ?_
      refine go_br okX9_cut rfl (fun hp => ?_) (fun hp => ?_)
      · have h := gq_pos hp h
        refine go_rn 4 (pc' := 35) (L' := [some (.long x0), none, some (.int x2)]) (S' := [.long (Int32.toInt64 (Int64.toInt32 x0))]) (M' := M) okX9_cut rfl ?_
        exact go_lret (reX9_cut _ (by decide)) rfl (k0 (Int32.toInt64 (Int64.toInt32 x0)) h)
      · have h := gq_neg hp h
        refine go_rn 1 (pc' := 35) (L' := [some (.long x0), none, some (.int x2)]) (S' := [.long x0]) (M' := M) okX9_cut rfl ?_
        exact go_lret (reX9_cut _ (by decide)) rfl (k0 x0 h)
def fX9_cut (a0 : Int64) (a1 : Int32) (M : gMem) : Option (Int64) := fX9_cut_0 a0 a1 M
theorem SX9_cut {G : gG} (a0 : Int64) (a1 : Int32) (M : gMem) {r : Int64} (h : fX9_cut a0 a1 M = some r) : gRun G YX9_cut 0 [.long a0, .int a1] M (fun r' N' => r' = some (.long r) ∧ N' = M) := gRun_in (by decide +kernel) rfl (fun d hd => go_wk (CX9_cut_0 hd a0 a1 M (fun p => p = r) (fun r hh => ⟨congrArg (fun z => some (Value.long z)) hh, rfl⟩) (gq_of h)) ⟨rfl, rfl, True.intro⟩)
def fX9_write_6 (x1 : Int32) (x2 : Int32) (x3 : Int64) (s0 : Int32) (M : gMem) : Option (Int32 × gMem) :=
  gB0 (fX9_isSlot s0 M) (fun r1 => if r1 = 0 then some ((-2 : Int32), M) else if gIx 1 142 x1 = true then if (M.1 142 (Int32.toNatClampNeg x1)) = (-1 : Int32) then some ((-6 : Int32), M) else if gIx 1 143 x1 = true then gB0 (fX9_in (Int32.toInt64 x2) (0 : Int64) (Int32.toInt64 ((M.1 143 (Int32.toNatClampNeg x1)) - (1 : Int32))) M) (fun r5 => if r5 = 0 then some ((-7 : Int32), M) else if gIx 1 142 x1 = true then gB0 (fX9_cut x3 (M.1 142 (Int32.toNatClampNeg x1)) M) (fun r8 => if gIx 4 144 (((60 : Int32) * x1) + x2) = true then some ((0 : Int32), (gSJ M 144 (Int32.toNatClampNeg (((60 : Int32) * x1) + x2)) r8)) else none) else none) else none else none)
set_option maxRecDepth 100000 in
theorem CX9_write_6 {G : gG} {d : Nat} {Z : Option Value → gMem → Prop} (hd : 2 ≤ d) (x1 : Int32) (x2 : Int32) (x3 : Int64) (s0 : Int32) (M : gMem) (P : Int32 × gMem → Prop) (k0 : ∀ (r : Int32) (N : gMem), P (r, N) → Z (some (.int r)) N) (h : gOKq (fX9_write_6 x1 x2 x3 s0 M) P) : gGo G YX9_write d Z 6 [some (.ref 141), some (.int x1), some (.int x2), some (.long x3), none] [.int s0] M := by
  unfold fX9_write_6 at h
  obtain ⟨r1, e2, h⟩ := gB0_ok h
  refine go_call1 ocX9_write rfl rfl rfl rfl (SX9_isSlot s0 M e2) (Nat.lt_of_lt_of_le (by decide) hd) ?_
  refine go_br okX9_write rfl (fun hp => ?_) (fun hp => ?_)
  · have h := gq_pos hp h
    refine go_rn 1 (pc' := 14) (L' := [some (.ref 141), some (.int x1), some (.int x2), some (.long x3), none]) (S' := [.int (-2 : Int32)]) (M' := M) okX9_write rfl ?_
    exact go_iret (reX9_write _ (by decide)) rfl (k0 (-2 : Int32) M h)
  · have h := gq_neg hp h
    refine go_rn 1 (pc' := 16) (L' := [some (.ref 141), some (.int x1), some (.int x2), some (.long x3), none]) (S' := [.ref 141]) (M' := M) okX9_write rfl ?_
    refine go_ck okX9_write rfl (gOb_c rfl) ?_
    refine go_rn 1 (pc' := 20) (L' := [some (.ref 141), some (.int x1), some (.int x2), some (.long x3), none]) (S' := [.int x1, .ref 142]) (M' := M) okX9_write rfl ?_
    obtain ⟨c3, h⟩ := gq_if h
    refine go_ck okX9_write rfl c3 ?_
    refine go_rn 1 (pc' := 22) (L' := [some (.ref 141), some (.int x1), some (.int x2), some (.long x3), none]) (S' := [.int (-1 : Int32), .int (M.1 142 (Int32.toNatClampNeg x1))]) (M' := M) okX9_write rfl ?_
    refine go_br okX9_write rfl (fun hp => ?_) (fun hp => ?_)
    · have h := gq_pos hp h
      refine go_rn 1 (pc' := 27) (L' := [some (.ref 141), some (.int x1), some (.int x2), some (.long x3), none]) (S' := [.int (-6 : Int32)]) (M' := M) okX9_write rfl ?_
      exact go_iret (reX9_write _ (by decide)) rfl (k0 (-6 : Int32) M h)
    · have h := gq_neg hp h
      refine go_rn 4 (pc' := 32) (L' := [some (.ref 141), some (.int x1), some (.int x2), some (.long x3), none]) (S' := [.ref 141, .long (0 : Int64), .long (Int32.toInt64 x2)]) (M' := M) okX9_write rfl ?_
      refine go_ck okX9_write rfl (gOb_c rfl) ?_
      refine go_rn 1 (pc' := 36) (L' := [some (.ref 141), some (.int x1), some (.int x2), some (.long x3), none]) (S' := [.int x1, .ref 143, .long (0 : Int64), .long (Int32.toInt64 x2)]) (M' := M) okX9_write rfl ?_
      obtain ⟨c4, h⟩ := gq_if h
      refine go_ck okX9_write rfl c4 ?_
      refine go_rn 3 (pc' := 40) (L' := [some (.ref 141), some (.int x1), some (.int x2), some (.long x3), none]) (S' := [.long (Int32.toInt64 ((M.1 143 (Int32.toNatClampNeg x1)) - (1 : Int32))), .long (0 : Int64), .long (Int32.toInt64 x2)]) (M' := M) okX9_write rfl ?_
      obtain ⟨r5, e6, h⟩ := gB0_ok h
      refine go_call1 ocX9_write rfl rfl rfl rfl (SX9_in (Int32.toInt64 x2) (0 : Int64) (Int32.toInt64 ((M.1 143 (Int32.toNatClampNeg x1)) - (1 : Int32))) M e6) (Nat.lt_of_lt_of_le (by decide) hd) ?_
      refine go_br okX9_write rfl (fun hp => ?_) (fun hp => ?_)
      · have h := gq_pos hp h
        refine go_rn 1 (pc' := 48) (L' := [some (.ref 141), some (.int x1), some (.int x2), some (.long x3), none]) (S' := [.int (-7 : Int32)]) (M' := M) okX9_write rfl ?_
        exact go_iret (reX9_write _ (by decide)) rfl (k0 (-7 : Int32) M h)
      · have h := gq_neg hp h
        refine go_rn 1 (pc' := 50) (L' := [some (.ref 141), some (.int x1), some (.int x2), some (.long x3), none]) (S' := [.ref 141]) (M' := M) okX9_write rfl ?_
        refine go_ck okX9_write rfl (gOb_c rfl) ?_
        refine go_rn 7 (pc' := 61) (L' := [some (.ref 141), some (.int x1), some (.int x2), some (.long x3), none]) (S' := [.ref 141, .long x3, .int (((60 : Int32) * x1) + x2), .ref 144]) (M' := M) okX9_write rfl ?_
        refine go_ck okX9_write rfl (gOb_c rfl) ?_
        refine go_rn 1 (pc' := 65) (L' := [some (.ref 141), some (.int x1), some (.int x2), some (.long x3), none]) (S' := [.int x1, .ref 142, .long x3, .int (((60 : Int32) * x1) + x2), .ref 144]) (M' := M) okX9_write rfl ?_
        obtain ⟨c7, h⟩ := gq_if h
        refine go_ck okX9_write rfl c7 ?_
        obtain ⟨r8, e9, h⟩ := gB0_ok h
        refine go_call1 ocX9_write rfl rfl rfl rfl (SX9_cut x3 (M.1 142 (Int32.toNatClampNeg x1)) M e9) (Nat.lt_of_lt_of_le (by decide) hd) ?_
        obtain ⟨c10, h⟩ := gq_if h
        refine go_ck okX9_write rfl c10 ?_
        refine go_rn 1 (pc' := 71) (L' := [some (.ref 141), some (.int x1), some (.int x2), some (.long x3), none]) (S' := [.int (0 : Int32)]) (M' := (gSJ M 144 (Int32.toNatClampNeg (((60 : Int32) * x1) + x2)) r8)) okX9_write rfl ?_
        exact go_iret (reX9_write _ (by decide)) rfl (k0 (0 : Int32) (gSJ M 144 (Int32.toNatClampNeg (((60 : Int32) * x1) + x2)) r8) h)
def fX9_write_0 (x1 : Int32) (x2 : Int32) (x3 : Int64) (M : gMem) : Option (Int32 × gMem) :=
  fX9_write_6 x1 x2 x3 x1 (gSI M 141 0 (0 : Int32))
set_option maxRecDepth 100000 in
theorem CX9_write_0 {G : gG} {d : Nat} {Z : Option Value → gMem → Prop} (hd : 2 ≤ d) (x1 : Int32) (x2 : Int32) (x3 : Int64) (M : gMem) (P : Int32 × gMem → Prop) (k0 : ∀ (r : Int32) (N : gMem), P (r, N) → Z (some (.int r)) N) (h : gOKq (fX9_write_0 x1 x2 x3 M) P) : gGo G YX9_write d Z 0 [some (.ref 141), some (.int x1), some (.int x2), some (.long x3), none] [] M := by
  unfold fX9_write_0 at h
  refine go_rn 2 (pc' := 2) (L' := [some (.ref 141), some (.int x1), some (.int x2), some (.long x3), none]) (S' := [.int (0 : Int32), .ref 141]) (M' := M) okX9_write rfl ?_
  refine go_ck okX9_write rfl (gOb_c rfl) ?_
  refine go_rn 1 (pc' := 6) (L' := [some (.ref 141), some (.int x1), some (.int x2), some (.long x3), none]) (S' := [.int x1]) (M' := (gSI M 141 0 (0 : Int32))) okX9_write rfl ?_
  exact go_wk (CX9_write_6 hd x1 x2 x3 x1 (gSI M 141 0 (0 : Int32)) P k0 h) ⟨rfl, rfl, rfl, rfl, True.intro⟩
def fX9_write (a1 : Int32) (a2 : Int32) (a3 : Int64) (M : gMem) : Option (Int32 × gMem) := fX9_write_0 a1 a2 a3 M
theorem SX9_write {G : gG} (a1 : Int32) (a2 : Int32) (a3 : Int64) (M : gMem) {r : Int32} {N : gMem} (h : fX9_write a1 a2 a3 M = some (r, N)) : gRun G YX9_write 2 [.ref 141, .int a1, .int a2, .long a3] M (fun r' N' => r' = some (.int r) ∧ N' = N) := gRun_in (by decide +kernel) rfl (fun d hd => go_wk (CX9_write_0 hd a1 a2 a3 M (fun p => p = (r, N)) (fun r N hh => by cases hh; exact ⟨rfl, rfl⟩) (gq_of h)) ⟨rfl, rfl, rfl, rfl, True.intro⟩)
def fX9_paste_155 (x3 : Int32) (x4 : Int32) (x5 : Int32) (x6 : Int32) (M : gMem) : Option (Sum (Int32 × gMem) (Int32 × gMem)) :=
  if x5 ≤ x6 then some (.inr ((0 : Int32), M)) else if gIx 4 145 x6 = true then if gIx 4 144 ((((60 : Int32) * x3) + x4) + x6) = true then some (.inl ((x6 + 1), (gSJ M 144 (Int32.toNatClampNeg ((((60 : Int32) * x3) + x4) + x6)) (M.2.1 145 (Int32.toNatClampNeg x6))))) else none else none
set_option maxRecDepth 100000 in
theorem CX9_paste_155 {G : gG} {d : Nat} {Z : Option Value → gMem → Prop} (hd : 2 ≤ d) (x3 : Int32) (x4 : Int32) (x5 : Int32) (x6 : Int32) (M : gMem) (P : Sum (Int32 × gMem) (Int32 × gMem) → Prop) (k0 : ∀ (r : Int32) (N : gMem), P (.inr (r, N)) → Z (some (.int r)) N) (k1 : ∀ (x6 : Int32) (M : gMem), P (.inl (x6, M)) → gGo G YX9_paste d Z 155 [some (.ref 141), none, none, some (.int x3), some (.int x4), some (.int x5), some (.int x6)] [] M) (h : gOKq (fX9_paste_155 x3 x4 x5 x6 M) P) : gGo G YX9_paste d Z 155 [some (.ref 141), none, none, some (.int x3), some (.int x4), some (.int x5), some (.int x6)] [] M := by
  unfold fX9_paste_155 at h
  refine go_rn 2 (pc' := 159) (L' := [some (.ref 141), none, none, some (.int x3), some (.int x4), some (.int x5), some (.int x6)]) (S' := [.int x5, .int x6]) (M' := M) okX9_paste rfl ?_
  refine go_br okX9_paste rfl (fun hp => ?_) (fun hp => ?_)
  · have h := gq_pos hp h
    refine go_rn 1 (pc' := 191) (L' := [some (.ref 141), none, none, some (.int x3), some (.int x4), some (.int x5), some (.int x6)]) (S' := [.int (0 : Int32)]) (M' := M) okX9_paste rfl ?_
    exact go_iret (reX9_paste _ (by decide)) rfl (k0 (0 : Int32) M h)
  · have h := gq_neg hp h
    refine go_rn 1 (pc' := 163) (L' := [some (.ref 141), none, none, some (.int x3), some (.int x4), some (.int x5), some (.int x6)]) (S' := [.ref 141]) (M' := M) okX9_paste rfl ?_
    refine go_ck okX9_paste rfl (gOb_c rfl) ?_
    refine go_rn 8 (pc' := 177) (L' := [some (.ref 141), none, none, some (.int x3), some (.int x4), some (.int x5), some (.int x6)]) (S' := [.ref 141, .int ((((60 : Int32) * x3) + x4) + x6), .ref 144]) (M' := M) okX9_paste rfl ?_
    refine go_ck okX9_paste rfl (gOb_c rfl) ?_
    refine go_rn 1 (pc' := 182) (L' := [some (.ref 141), none, none, some (.int x3), some (.int x4), some (.int x5), some (.int x6)]) (S' := [.int x6, .ref 145, .int ((((60 : Int32) * x3) + x4) + x6), .ref 144]) (M' := M) okX9_paste rfl ?_
    obtain ⟨c1, h⟩ := gq_if h
    refine go_ck okX9_paste rfl c1 ?_
    obtain ⟨c2, h⟩ := gq_if h
    refine go_ck okX9_paste rfl c2 ?_
    refine go_rn 2 (pc' := 155) (L' := [some (.ref 141), none, none, some (.int x3), some (.int x4), some (.int x5), some (.int (x6 + 1))]) (S' := []) (M' := (gSJ M 144 (Int32.toNatClampNeg ((((60 : Int32) * x3) + x4) + x6)) (M.2.1 145 (Int32.toNatClampNeg x6)))) okX9_paste rfl ?_
    exact go_wk (k1 ((x6 + 1)) (gSJ M 144 (Int32.toNatClampNeg ((((60 : Int32) * x3) + x4) + x6)) (M.2.1 145 (Int32.toNatClampNeg x6))) h) ⟨rfl, rfl, rfl, rfl, rfl, True.intro⟩
def fX9_paste_155h (x3 : Int32) (x4 : Int32) (x5 : Int32) (x6 : Int32) (M : gMem) : Option (Int32 × gMem) :=
  gLp (fun s : Int32 × gMem => fX9_paste_155 x3 x4 x5 (s.1) s.2) gFu (x6, M)
set_option maxRecDepth 100000 in
theorem CX9_paste_155h {G : gG} {d : Nat} {Z : Option Value → gMem → Prop} (hd : 2 ≤ d) (x3 : Int32) (x4 : Int32) (x5 : Int32) (x6 : Int32) (M : gMem) (P : Int32 × gMem → Prop) (k0 : ∀ (r : Int32) (N : gMem), P (r, N) → Z (some (.int r)) N) (h : gOKq (fX9_paste_155h x3 x4 x5 x6 M) P) : gGo G YX9_paste d Z 155 [some (.ref 141), none, none, some (.int x3), some (.int x4), some (.int x5), some (.int x6)] [] M :=
  gLp_go (K := fun s : Int32 × gMem => gGo G YX9_paste d Z 155 [some (.ref 141), none, none, some (.int x3), some (.int x4), some (.int x5), some (.int s.1)] [] s.2) (P := P) (fun s hs => CX9_paste_155 hd (x3) (x4) (x5) (s.1) (s.2) (Sum.elim (fun s : Int32 × gMem => gGo G YX9_paste d Z 155 [some (.ref 141), none, none, some (.int x3), some (.int x4), some (.int x5), some (.int s.1)] [] s.2) P) k0 (fun x6 M hh => hh) hs) gFu (x6, M) h
def fX9_paste_118 (x1 : Int32) (x2 : Int32) (x3 : Int32) (x4 : Int32) (x5 : Int32) (x6 : Int32) (M : gMem) : Option (Sum (Int32 × gMem) (Int32 × gMem)) :=
  if x5 ≤ x6 then gEx (fX9_paste_155h x3 x4 x5 (0 : Int32) M) else if gIx 4 144 ((((60 : Int32) * x1) + x2) + x6) = true then if gIx 4 145 x6 = true then some (.inl ((x6 + 1), (gSJ M 145 (Int32.toNatClampNeg x6) (M.2.1 144 (Int32.toNatClampNeg ((((60 : Int32) * x1) + x2) + x6)))))) else none else none
set_option maxRecDepth 100000 in
theorem CX9_paste_118 {G : gG} {d : Nat} {Z : Option Value → gMem → Prop} (hd : 2 ≤ d) (x1 : Int32) (x2 : Int32) (x3 : Int32) (x4 : Int32) (x5 : Int32) (x6 : Int32) (M : gMem) (P : Sum (Int32 × gMem) (Int32 × gMem) → Prop) (k0 : ∀ (r : Int32) (N : gMem), P (.inr (r, N)) → Z (some (.int r)) N) (k1 : ∀ (x6 : Int32) (M : gMem), P (.inl (x6, M)) → gGo G YX9_paste d Z 118 [some (.ref 141), some (.int x1), some (.int x2), some (.int x3), some (.int x4), some (.int x5), some (.int x6)] [] M) (h : gOKq (fX9_paste_118 x1 x2 x3 x4 x5 x6 M) P) : gGo G YX9_paste d Z 118 [some (.ref 141), some (.int x1), some (.int x2), some (.int x3), some (.int x4), some (.int x5), some (.int x6)] [] M := by
  unfold fX9_paste_118 at h
  refine go_rn 2 (pc' := 122) (L' := [some (.ref 141), some (.int x1), some (.int x2), some (.int x3), some (.int x4), some (.int x5), some (.int x6)]) (S' := [.int x5, .int x6]) (M' := M) okX9_paste rfl ?_
  refine go_br okX9_paste rfl (fun hp => ?_) (fun hp => ?_)
  · have h := gq_pos hp h
    refine go_rn 2 (pc' := 155) (L' := [some (.ref 141), some (.int x1), some (.int x2), some (.int x3), some (.int x4), some (.int x5), some (.int (0 : Int32))]) (S' := []) (M' := M) okX9_paste rfl ?_
    exact go_wk (CX9_paste_155h hd x3 x4 x5 (0 : Int32) M (fun q => P (.inr q)) k0 (gEx_ok h)) ⟨rfl, rfl, rfl, rfl, rfl, True.intro⟩
  · have h := gq_neg hp h
    refine go_rn 1 (pc' := 126) (L' := [some (.ref 141), some (.int x1), some (.int x2), some (.int x3), some (.int x4), some (.int x5), some (.int x6)]) (S' := [.ref 141]) (M' := M) okX9_paste rfl ?_
    refine go_ck okX9_paste rfl (gOb_c rfl) ?_
    refine go_rn 2 (pc' := 132) (L' := [some (.ref 141), some (.int x1), some (.int x2), some (.int x3), some (.int x4), some (.int x5), some (.int x6)]) (S' := [.ref 141, .int x6, .ref 145]) (M' := M) okX9_paste rfl ?_
    refine go_ck okX9_paste rfl (gOb_c rfl) ?_
    refine go_rn 7 (pc' := 144) (L' := [some (.ref 141), some (.int x1), some (.int x2), some (.int x3), some (.int x4), some (.int x5), some (.int x6)]) (S' := [.int ((((60 : Int32) * x1) + x2) + x6), .ref 144, .int x6, .ref 145]) (M' := M) okX9_paste rfl ?_
    obtain ⟨c1, h⟩ := gq_if h
    refine go_ck okX9_paste rfl c1 ?_
    obtain ⟨c2, h⟩ := gq_if h
    refine go_ck okX9_paste rfl c2 ?_
    refine go_rn 2 (pc' := 118) (L' := [some (.ref 141), some (.int x1), some (.int x2), some (.int x3), some (.int x4), some (.int x5), some (.int (x6 + 1))]) (S' := []) (M' := (gSJ M 145 (Int32.toNatClampNeg x6) (M.2.1 144 (Int32.toNatClampNeg ((((60 : Int32) * x1) + x2) + x6))))) okX9_paste rfl ?_
    exact go_wk (k1 ((x6 + 1)) (gSJ M 145 (Int32.toNatClampNeg x6) (M.2.1 144 (Int32.toNatClampNeg ((((60 : Int32) * x1) + x2) + x6)))) h) ⟨rfl, rfl, rfl, rfl, rfl, rfl, rfl, True.intro⟩
def fX9_paste_118h (x1 : Int32) (x2 : Int32) (x3 : Int32) (x4 : Int32) (x5 : Int32) (x6 : Int32) (M : gMem) : Option (Int32 × gMem) :=
  gLp (fun s : Int32 × gMem => fX9_paste_118 x1 x2 x3 x4 x5 (s.1) s.2) gFu (x6, M)
set_option maxRecDepth 100000 in
theorem CX9_paste_118h {G : gG} {d : Nat} {Z : Option Value → gMem → Prop} (hd : 2 ≤ d) (x1 : Int32) (x2 : Int32) (x3 : Int32) (x4 : Int32) (x5 : Int32) (x6 : Int32) (M : gMem) (P : Int32 × gMem → Prop) (k0 : ∀ (r : Int32) (N : gMem), P (r, N) → Z (some (.int r)) N) (h : gOKq (fX9_paste_118h x1 x2 x3 x4 x5 x6 M) P) : gGo G YX9_paste d Z 118 [some (.ref 141), some (.int x1), some (.int x2), some (.int x3), some (.int x4), some (.int x5), some (.int x6)] [] M :=
  gLp_go (K := fun s : Int32 × gMem => gGo G YX9_paste d Z 118 [some (.ref 141), some (.int x1), some (.int x2), some (.int x3), some (.int x4), some (.int x5), some (.int s.1)] [] s.2) (P := P) (fun s hs => CX9_paste_118 hd (x1) (x2) (x3) (x4) (x5) (s.1) (s.2) (Sum.elim (fun s : Int32 × gMem => gGo G YX9_paste d Z 118 [some (.ref 141), some (.int x1), some (.int x2), some (.int x3), some (.int x4), some (.int x5), some (.int s.1)] [] s.2) P) k0 (fun x6 M hh => hh) hs) gFu (x6, M) h
def fX9_paste_6 (x1 : Int32) (x2 : Int32) (x3 : Int32) (x4 : Int32) (x5 : Int32) (s0 : Int32) (M : gMem) : Option (Int32 × gMem) :=
  gB0 (fX9_isSlot s0 M) (fun r1 => if r1 = 0 then some ((-2 : Int32), M) else gB0 (fX9_isSlot x3 M) (fun r3 => if r3 = 0 then some ((-2 : Int32), M) else if gIx 1 142 x1 = true then if (M.1 142 (Int32.toNatClampNeg x1)) = (-1 : Int32) then some ((-6 : Int32), M) else if gIx 1 142 x3 = true then if (M.1 142 (Int32.toNatClampNeg x3)) = (-1 : Int32) then some ((-6 : Int32), M) else if gIx 1 142 x1 = true then if gIx 1 142 x3 = true then if (M.1 142 (Int32.toNatClampNeg x1)) = (M.1 142 (Int32.toNatClampNeg x3)) then if x2 < 0 then some ((-7 : Int32), M) else if x4 < 0 then some ((-7 : Int32), M) else if x5 < 0 then some ((-7 : Int32), M) else if gIx 1 143 x1 = true then if 0 < (lg_cmp ((Int32.toInt64 x2) + (Int32.toInt64 x5)) (Int32.toInt64 (M.1 143 (Int32.toNatClampNeg x1)))) then some ((-7 : Int32), M) else if gIx 1 143 x3 = true then if (lg_cmp ((Int32.toInt64 x4) + (Int32.toInt64 x5)) (Int32.toInt64 (M.1 143 (Int32.toNatClampNeg x3)))) ≤ 0 then fX9_paste_118h x1 x2 x3 x4 x5 (0 : Int32) M else some ((-7 : Int32), M) else none else none else some ((-8 : Int32), M) else none else none else none else none))
set_option maxRecDepth 100000 in
theorem CX9_paste_6 {G : gG} {d : Nat} {Z : Option Value → gMem → Prop} (hd : 2 ≤ d) (x1 : Int32) (x2 : Int32) (x3 : Int32) (x4 : Int32) (x5 : Int32) (s0 : Int32) (M : gMem) (P : Int32 × gMem → Prop) (k0 : ∀ (r : Int32) (N : gMem), P (r, N) → Z (some (.int r)) N) (h : gOKq (fX9_paste_6 x1 x2 x3 x4 x5 s0 M) P) : gGo G YX9_paste d Z 6 [some (.ref 141), some (.int x1), some (.int x2), some (.int x3), some (.int x4), some (.int x5), none] [.int s0] M := by
  unfold fX9_paste_6 at h
  obtain ⟨r1, e2, h⟩ := gB0_ok h
  refine go_call1 ocX9_paste rfl rfl rfl rfl (SX9_isSlot s0 M e2) (Nat.lt_of_lt_of_le (by decide) hd) ?_
  refine go_br okX9_paste rfl (fun hp => ?_) (fun hp => ?_)
  · have h := gq_pos hp h
    refine go_rn 1 (pc' := 21) (L' := [some (.ref 141), some (.int x1), some (.int x2), some (.int x3), some (.int x4), some (.int x5), none]) (S' := [.int (-2 : Int32)]) (M' := M) okX9_paste rfl ?_
    exact go_iret (reX9_paste _ (by decide)) rfl (k0 (-2 : Int32) M h)
  · have h := gq_neg hp h
    refine go_rn 1 (pc' := 13) (L' := [some (.ref 141), some (.int x1), some (.int x2), some (.int x3), some (.int x4), some (.int x5), none]) (S' := [.int x3]) (M' := M) okX9_paste rfl ?_
    obtain ⟨r3, e4, h⟩ := gB0_ok h
    refine go_call1 ocX9_paste rfl rfl rfl rfl (SX9_isSlot x3 M e4) (Nat.lt_of_lt_of_le (by decide) hd) ?_
    refine go_br okX9_paste rfl (fun hp => ?_) (fun hp => ?_)
    · have h := gq_pos hp h
      refine go_rn 1 (pc' := 21) (L' := [some (.ref 141), some (.int x1), some (.int x2), some (.int x3), some (.int x4), some (.int x5), none]) (S' := [.int (-2 : Int32)]) (M' := M) okX9_paste rfl ?_
      exact go_iret (reX9_paste _ (by decide)) rfl (k0 (-2 : Int32) M h)
    · have h := gq_neg hp h
      refine go_rn 1 (pc' := 23) (L' := [some (.ref 141), some (.int x1), some (.int x2), some (.int x3), some (.int x4), some (.int x5), none]) (S' := [.ref 141]) (M' := M) okX9_paste rfl ?_
      refine go_ck okX9_paste rfl (gOb_c rfl) ?_
      refine go_rn 1 (pc' := 27) (L' := [some (.ref 141), some (.int x1), some (.int x2), some (.int x3), some (.int x4), some (.int x5), none]) (S' := [.int x1, .ref 142]) (M' := M) okX9_paste rfl ?_
      obtain ⟨c5, h⟩ := gq_if h
      refine go_ck okX9_paste rfl c5 ?_
      refine go_rn 1 (pc' := 29) (L' := [some (.ref 141), some (.int x1), some (.int x2), some (.int x3), some (.int x4), some (.int x5), none]) (S' := [.int (-1 : Int32), .int (M.1 142 (Int32.toNatClampNeg x1))]) (M' := M) okX9_paste rfl ?_
      refine go_br okX9_paste rfl (fun hp => ?_) (fun hp => ?_)
      · have h := gq_pos hp h
        refine go_rn 1 (pc' := 44) (L' := [some (.ref 141), some (.int x1), some (.int x2), some (.int x3), some (.int x4), some (.int x5), none]) (S' := [.int (-6 : Int32)]) (M' := M) okX9_paste rfl ?_
        exact go_iret (reX9_paste _ (by decide)) rfl (k0 (-6 : Int32) M h)
      · have h := gq_neg hp h
        refine go_rn 1 (pc' := 33) (L' := [some (.ref 141), some (.int x1), some (.int x2), some (.int x3), some (.int x4), some (.int x5), none]) (S' := [.ref 141]) (M' := M) okX9_paste rfl ?_
        refine go_ck okX9_paste rfl (gOb_c rfl) ?_
        refine go_rn 1 (pc' := 37) (L' := [some (.ref 141), some (.int x1), some (.int x2), some (.int x3), some (.int x4), some (.int x5), none]) (S' := [.int x3, .ref 142]) (M' := M) okX9_paste rfl ?_
        obtain ⟨c6, h⟩ := gq_if h
        refine go_ck okX9_paste rfl c6 ?_
        refine go_rn 1 (pc' := 39) (L' := [some (.ref 141), some (.int x1), some (.int x2), some (.int x3), some (.int x4), some (.int x5), none]) (S' := [.int (-1 : Int32), .int (M.1 142 (Int32.toNatClampNeg x3))]) (M' := M) okX9_paste rfl ?_
        refine go_br okX9_paste rfl (fun hp => ?_) (fun hp => ?_)
        · have h := gq_pos hp h
          refine go_rn 1 (pc' := 44) (L' := [some (.ref 141), some (.int x1), some (.int x2), some (.int x3), some (.int x4), some (.int x5), none]) (S' := [.int (-6 : Int32)]) (M' := M) okX9_paste rfl ?_
          exact go_iret (reX9_paste _ (by decide)) rfl (k0 (-6 : Int32) M h)
        · have h := gq_neg hp h
          refine go_rn 1 (pc' := 46) (L' := [some (.ref 141), some (.int x1), some (.int x2), some (.int x3), some (.int x4), some (.int x5), none]) (S' := [.ref 141]) (M' := M) okX9_paste rfl ?_
          refine go_ck okX9_paste rfl (gOb_c rfl) ?_
          refine go_rn 1 (pc' := 50) (L' := [some (.ref 141), some (.int x1), some (.int x2), some (.int x3), some (.int x4), some (.int x5), none]) (S' := [.int x1, .ref 142]) (M' := M) okX9_paste rfl ?_
          obtain ⟨c7, h⟩ := gq_if h
          refine go_ck okX9_paste rfl c7 ?_
          refine go_rn 1 (pc' := 52) (L' := [some (.ref 141), some (.int x1), some (.int x2), some (.int x3), some (.int x4), some (.int x5), none]) (S' := [.ref 141, .int (M.1 142 (Int32.toNatClampNeg x1))]) (M' := M) okX9_paste rfl ?_
          refine go_ck okX9_paste rfl (gOb_c rfl) ?_
          refine go_rn 1 (pc' := 56) (L' := [some (.ref 141), some (.int x1), some (.int x2), some (.int x3), some (.int x4), some (.int x5), none]) (S' := [.int x3, .ref 142, .int (M.1 142 (Int32.toNatClampNeg x1))]) (M' := M) okX9_paste rfl ?_
          obtain ⟨c8, h⟩ := gq_if h
          refine go_ck okX9_paste rfl c8 ?_
          refine go_br okX9_paste rfl (fun hp => ?_) (fun hp => ?_)
          · have h := gq_pos hp h
            refine go_rn 1 (pc' := 64) (L' := [some (.ref 141), some (.int x1), some (.int x2), some (.int x3), some (.int x4), some (.int x5), none]) (S' := [.int x2]) (M' := M) okX9_paste rfl ?_
            refine go_br okX9_paste rfl (fun hp => ?_) (fun hp => ?_)
            · have h := gq_pos hp h
              refine go_rn 1 (pc' := 114) (L' := [some (.ref 141), some (.int x1), some (.int x2), some (.int x3), some (.int x4), some (.int x5), none]) (S' := [.int (-7 : Int32)]) (M' := M) okX9_paste rfl ?_
              exact go_iret (reX9_paste _ (by decide)) rfl (k0 (-7 : Int32) M h)
            · have h := gq_neg hp h
              refine go_rn 1 (pc' := 69) (L' := [some (.ref 141), some (.int x1), some (.int x2), some (.int x3), some (.int x4), some (.int x5), none]) (S' := [.int x4]) (M' := M) okX9_paste rfl ?_
              refine go_br okX9_paste rfl (fun hp => ?_) (fun hp => ?_)
              · have h := gq_pos hp h
                refine go_rn 1 (pc' := 114) (L' := [some (.ref 141), some (.int x1), some (.int x2), some (.int x3), some (.int x4), some (.int x5), none]) (S' := [.int (-7 : Int32)]) (M' := M) okX9_paste rfl ?_
                exact go_iret (reX9_paste _ (by decide)) rfl (k0 (-7 : Int32) M h)
              · have h := gq_neg hp h
                refine go_rn 1 (pc' := 74) (L' := [some (.ref 141), some (.int x1), some (.int x2), some (.int x3), some (.int x4), some (.int x5), none]) (S' := [.int x5]) (M' := M) okX9_paste rfl ?_
                refine go_br okX9_paste rfl (fun hp => ?_) (fun hp => ?_)
                · have h := gq_pos hp h
                  refine go_rn 1 (pc' := 114) (L' := [some (.ref 141), some (.int x1), some (.int x2), some (.int x3), some (.int x4), some (.int x5), none]) (S' := [.int (-7 : Int32)]) (M' := M) okX9_paste rfl ?_
                  exact go_iret (reX9_paste _ (by decide)) rfl (k0 (-7 : Int32) M h)
                · have h := gq_neg hp h
                  refine go_rn 6 (pc' := 84) (L' := [some (.ref 141), some (.int x1), some (.int x2), some (.int x3), some (.int x4), some (.int x5), none]) (S' := [.ref 141, .long ((Int32.toInt64 x2) + (Int32.toInt64 x5))]) (M' := M) okX9_paste rfl ?_
                  refine go_ck okX9_paste rfl (gOb_c rfl) ?_
                  refine go_rn 1 (pc' := 88) (L' := [some (.ref 141), some (.int x1), some (.int x2), some (.int x3), some (.int x4), some (.int x5), none]) (S' := [.int x1, .ref 143, .long ((Int32.toInt64 x2) + (Int32.toInt64 x5))]) (M' := M) okX9_paste rfl ?_
                  obtain ⟨c9, h⟩ := gq_if h
                  refine go_ck okX9_paste rfl c9 ?_
                  refine go_rn 2 (pc' := 91) (L' := [some (.ref 141), some (.int x1), some (.int x2), some (.int x3), some (.int x4), some (.int x5), none]) (S' := [.int (lg_cmp ((Int32.toInt64 x2) + (Int32.toInt64 x5)) (Int32.toInt64 (M.1 143 (Int32.toNatClampNeg x1))))]) (M' := M) okX9_paste rfl ?_
                  refine go_br okX9_paste rfl (fun hp => ?_) (fun hp => ?_)
                  · have h := gq_pos hp h
                    refine go_rn 1 (pc' := 114) (L' := [some (.ref 141), some (.int x1), some (.int x2), some (.int x3), some (.int x4), some (.int x5), none]) (S' := [.int (-7 : Int32)]) (M' := M) okX9_paste rfl ?_
                    exact go_iret (reX9_paste _ (by decide)) rfl (k0 (-7 : Int32) M h)
                  · have h := gq_neg hp h
                    refine go_rn 6 (pc' := 102) (L' := [some (.ref 141), some (.int x1), some (.int x2), some (.int x3), some (.int x4), some (.int x5), none]) (S' := [.ref 141, .long ((Int32.toInt64 x4) + (Int32.toInt64 x5))]) (M' := M) okX9_paste rfl ?_
                    refine go_ck okX9_paste rfl (gOb_c rfl) ?_
                    refine go_rn 1 (pc' := 106) (L' := [some (.ref 141), some (.int x1), some (.int x2), some (.int x3), some (.int x4), some (.int x5), none]) (S' := [.int x3, .ref 143, .long ((Int32.toInt64 x4) + (Int32.toInt64 x5))]) (M' := M) okX9_paste rfl ?_
                    obtain ⟨c10, h⟩ := gq_if h
                    refine go_ck okX9_paste rfl c10 ?_
                    refine go_rn 2 (pc' := 109) (L' := [some (.ref 141), some (.int x1), some (.int x2), some (.int x3), some (.int x4), some (.int x5), none]) (S' := [.int (lg_cmp ((Int32.toInt64 x4) + (Int32.toInt64 x5)) (Int32.toInt64 (M.1 143 (Int32.toNatClampNeg x3))))]) (M' := M) okX9_paste rfl ?_
                    refine go_br okX9_paste rfl (fun hp => ?_) (fun hp => ?_)
                    · have h := gq_pos hp h
                      refine go_rn 2 (pc' := 118) (L' := [some (.ref 141), some (.int x1), some (.int x2), some (.int x3), some (.int x4), some (.int x5), some (.int (0 : Int32))]) (S' := []) (M' := M) okX9_paste rfl ?_
                      exact go_wk (CX9_paste_118h hd x1 x2 x3 x4 x5 (0 : Int32) M P k0 h) ⟨rfl, rfl, rfl, rfl, rfl, rfl, rfl, True.intro⟩
                    · have h := gq_neg hp h
                      refine go_rn 1 (pc' := 114) (L' := [some (.ref 141), some (.int x1), some (.int x2), some (.int x3), some (.int x4), some (.int x5), none]) (S' := [.int (-7 : Int32)]) (M' := M) okX9_paste rfl ?_
                      exact go_iret (reX9_paste _ (by decide)) rfl (k0 (-7 : Int32) M h)
          · have h := gq_neg hp h
            refine go_rn 1 (pc' := 62) (L' := [some (.ref 141), some (.int x1), some (.int x2), some (.int x3), some (.int x4), some (.int x5), none]) (S' := [.int (-8 : Int32)]) (M' := M) okX9_paste rfl ?_
            exact go_iret (reX9_paste _ (by decide)) rfl (k0 (-8 : Int32) M h)
def fX9_paste_0 (x1 : Int32) (x2 : Int32) (x3 : Int32) (x4 : Int32) (x5 : Int32) (M : gMem) : Option (Int32 × gMem) :=
  fX9_paste_6 x1 x2 x3 x4 x5 x1 (gSI M 141 0 (0 : Int32))
set_option maxRecDepth 100000 in
theorem CX9_paste_0 {G : gG} {d : Nat} {Z : Option Value → gMem → Prop} (hd : 2 ≤ d) (x1 : Int32) (x2 : Int32) (x3 : Int32) (x4 : Int32) (x5 : Int32) (M : gMem) (P : Int32 × gMem → Prop) (k0 : ∀ (r : Int32) (N : gMem), P (r, N) → Z (some (.int r)) N) (h : gOKq (fX9_paste_0 x1 x2 x3 x4 x5 M) P) : gGo G YX9_paste d Z 0 [some (.ref 141), some (.int x1), some (.int x2), some (.int x3), some (.int x4), some (.int x5), none] [] M := by
  unfold fX9_paste_0 at h
  refine go_rn 2 (pc' := 2) (L' := [some (.ref 141), some (.int x1), some (.int x2), some (.int x3), some (.int x4), some (.int x5), none]) (S' := [.int (0 : Int32), .ref 141]) (M' := M) okX9_paste rfl ?_
  refine go_ck okX9_paste rfl (gOb_c rfl) ?_
  refine go_rn 1 (pc' := 6) (L' := [some (.ref 141), some (.int x1), some (.int x2), some (.int x3), some (.int x4), some (.int x5), none]) (S' := [.int x1]) (M' := (gSI M 141 0 (0 : Int32))) okX9_paste rfl ?_
  exact go_wk (CX9_paste_6 hd x1 x2 x3 x4 x5 x1 (gSI M 141 0 (0 : Int32)) P k0 h) ⟨rfl, rfl, rfl, rfl, rfl, rfl, True.intro⟩
def fX9_paste (a1 : Int32) (a2 : Int32) (a3 : Int32) (a4 : Int32) (a5 : Int32) (M : gMem) : Option (Int32 × gMem) := fX9_paste_0 a1 a2 a3 a4 a5 M
theorem SX9_paste {G : gG} (a1 : Int32) (a2 : Int32) (a3 : Int32) (a4 : Int32) (a5 : Int32) (M : gMem) {r : Int32} {N : gMem} (h : fX9_paste a1 a2 a3 a4 a5 M = some (r, N)) : gRun G YX9_paste 2 [.ref 141, .int a1, .int a2, .int a3, .int a4, .int a5] M (fun r' N' => r' = some (.int r) ∧ N' = N) := gRun_in (by decide +kernel) rfl (fun d hd => go_wk (CX9_paste_0 hd a1 a2 a3 a4 a5 M (fun p => p = (r, N)) (fun r N hh => by cases hh; exact ⟨rfl, rfl⟩) (gq_of h)) ⟨rfl, rfl, rfl, rfl, rfl, rfl, True.intro⟩)
def fX9_four_22 (x1 : Int32) (x2 : Int32) (M : gMem) : Option (Sum (Int32 × gMem) (gMem)) :=
  some (.inl ((x2 + (-8)), (gSI M 141 6 ((M.1 141 6) + (1 : Int32)))))
set_option maxRecDepth 100000 in
theorem CX9_four_22 {G : gG} {d : Nat} {Z : Option Value → gMem → Prop} (hd : 0 ≤ d) (x1 : Int32) (x2 : Int32) (M : gMem) (P : Sum (Int32 × gMem) (gMem) → Prop) (k0 : ∀ (N : gMem), P (.inr N) → Z none N) (k1 : ∀ (x2 : Int32) (M : gMem), P (.inl (x2, M)) → gGo G YX9_four d Z 3 [some (.ref 141), some (.int x1), some (.int x2)] [] M) (h : gOKq (fX9_four_22 x1 x2 M) P) : gGo G YX9_four d Z 22 [some (.ref 141), some (.int x1), some (.int x2)] [.ref 141, .ref 141] M := by
  unfold fX9_four_22 at h
  refine go_ck okX9_four rfl (gOb_c rfl) ?_
  refine go_rn 2 (pc' := 27) (L' := [some (.ref 141), some (.int x1), some (.int x2)]) (S' := [.int ((M.1 141 6) + (1 : Int32)), .ref 141]) (M' := M) okX9_four rfl ?_
  refine go_ck okX9_four rfl (gOb_c rfl) ?_
  refine go_rn 2 (pc' := 3) (L' := [some (.ref 141), some (.int x1), some (.int (x2 + (-8)))]) (S' := []) (M' := (gSI M 141 6 ((M.1 141 6) + (1 : Int32)))) okX9_four rfl ?_
  exact go_wk (k1 ((x2 + (-8))) (gSI M 141 6 ((M.1 141 6) + (1 : Int32))) h) ⟨rfl, rfl, rfl, True.intro⟩
def fX9_four_3 (x1 : Int32) (x2 : Int32) (M : gMem) : Option (Sum (Int32 × gMem) (gMem)) :=
  if x2 < 0 then some (.inr M) else if gIx 2 146 (M.1 141 6) = true then fX9_four_22 x1 x2 (gSI M 146 (Int32.toNatClampNeg (M.1 141 6)) (vp_nar .byte ((x1 >>> (x2 &&& 31)).toInt8.toInt32))) else none
set_option maxRecDepth 100000 in
theorem CX9_four_3 {G : gG} {d : Nat} {Z : Option Value → gMem → Prop} (hd : 0 ≤ d) (x1 : Int32) (x2 : Int32) (M : gMem) (P : Sum (Int32 × gMem) (gMem) → Prop) (k0 : ∀ (N : gMem), P (.inr N) → Z none N) (k1 : ∀ (x2 : Int32) (M : gMem), P (.inl (x2, M)) → gGo G YX9_four d Z 3 [some (.ref 141), some (.int x1), some (.int x2)] [] M) (h : gOKq (fX9_four_3 x1 x2 M) P) : gGo G YX9_four d Z 3 [some (.ref 141), some (.int x1), some (.int x2)] [] M := by
  unfold fX9_four_3 at h
  refine go_rn 1 (pc' := 4) (L' := [some (.ref 141), some (.int x1), some (.int x2)]) (S' := [.int x2]) (M' := M) okX9_four rfl ?_
  refine go_br okX9_four rfl (fun hp => ?_) (fun hp => ?_)
  · have h := gq_pos hp h
    exact go_vret (reX9_four _ (by decide)) rfl (k0 M h)
  · have h := gq_neg hp h
    refine go_rn 1 (pc' := 8) (L' := [some (.ref 141), some (.int x1), some (.int x2)]) (S' := [.ref 141]) (M' := M) okX9_four rfl ?_
    refine go_ck okX9_four rfl (gOb_c rfl) ?_
    refine go_rn 1 (pc' := 12) (L' := [some (.ref 141), some (.int x1), some (.int x2)]) (S' := [.ref 141, .ref 146]) (M' := M) okX9_four rfl ?_
    refine go_ck okX9_four rfl (gOb_c rfl) ?_
    refine go_rn 4 (pc' := 19) (L' := [some (.ref 141), some (.int x1), some (.int x2)]) (S' := [.int ((x1 >>> (x2 &&& 31)).toInt8.toInt32), .int (M.1 141 6), .ref 146]) (M' := M) okX9_four rfl ?_
    obtain ⟨c1, h⟩ := gq_if h
    refine go_ck okX9_four rfl c1 ?_
    refine go_rn 2 (pc' := 22) (L' := [some (.ref 141), some (.int x1), some (.int x2)]) (S' := [.ref 141, .ref 141]) (M' := (gSI M 146 (Int32.toNatClampNeg (M.1 141 6)) (vp_nar .byte ((x1 >>> (x2 &&& 31)).toInt8.toInt32)))) okX9_four rfl ?_
    exact go_wk (CX9_four_22 hd x1 x2 (gSI M 146 (Int32.toNatClampNeg (M.1 141 6)) (vp_nar .byte ((x1 >>> (x2 &&& 31)).toInt8.toInt32))) P k0 k1 h) ⟨rfl, rfl, rfl, True.intro⟩
def fX9_four_3h (x1 : Int32) (x2 : Int32) (M : gMem) : Option (gMem) :=
  gLp (fun s : Int32 × gMem => fX9_four_3 x1 (s.1) s.2) gFu (x2, M)
set_option maxRecDepth 100000 in
theorem CX9_four_3h {G : gG} {d : Nat} {Z : Option Value → gMem → Prop} (hd : 0 ≤ d) (x1 : Int32) (x2 : Int32) (M : gMem) (P : gMem → Prop) (k0 : ∀ (N : gMem), P N → Z none N) (h : gOKq (fX9_four_3h x1 x2 M) P) : gGo G YX9_four d Z 3 [some (.ref 141), some (.int x1), some (.int x2)] [] M :=
  gLp_go (K := fun s : Int32 × gMem => gGo G YX9_four d Z 3 [some (.ref 141), some (.int x1), some (.int s.1)] [] s.2) (P := P) (fun s hs => CX9_four_3 hd (x1) (s.1) (s.2) (Sum.elim (fun s : Int32 × gMem => gGo G YX9_four d Z 3 [some (.ref 141), some (.int x1), some (.int s.1)] [] s.2) P) k0 (fun x2 M hh => hh) hs) gFu (x2, M) h
def fX9_four_0 (x1 : Int32) (M : gMem) : Option (gMem) :=
  fX9_four_3h x1 (24 : Int32) M
set_option maxRecDepth 100000 in
theorem CX9_four_0 {G : gG} {d : Nat} {Z : Option Value → gMem → Prop} (hd : 0 ≤ d) (x1 : Int32) (M : gMem) (P : gMem → Prop) (k0 : ∀ (N : gMem), P N → Z none N) (h : gOKq (fX9_four_0 x1 M) P) : gGo G YX9_four d Z 0 [some (.ref 141), some (.int x1), none] [] M := by
  unfold fX9_four_0 at h
  refine go_rn 2 (pc' := 3) (L' := [some (.ref 141), some (.int x1), some (.int (24 : Int32))]) (S' := []) (M' := M) okX9_four rfl ?_
  exact go_wk (CX9_four_3h hd x1 (24 : Int32) M P k0 h) ⟨rfl, rfl, rfl, True.intro⟩
def fX9_four (a1 : Int32) (M : gMem) : Option (gMem) := fX9_four_0 a1 M
theorem SX9_four {G : gG} (a1 : Int32) (M : gMem) {N : gMem} (h : fX9_four a1 M = some N) : gRun G YX9_four 0 [.ref 141, .int a1] M (fun r' N' => r' = none ∧ N' = N) := gRun_in (by decide +kernel) rfl (fun d hd => go_wk (CX9_four_0 hd a1 M (fun p => p = N) (fun N hh => ⟨rfl, hh⟩) (gq_of h)) ⟨rfl, rfl, True.intro⟩)
def fX9_feed_6 (x1 : Int32) (x2 : Int32) (x3 : Int32) (x4 : Int32) (x5 : Int32) (M : gMem) : Option (Int32 × gMem) :=
  if ((M.1 141 6) + (20 : Int32)) ≤ (800 : Int32) then gB0 (fX9_four x1 M) (fun M1 => gB0 (fX9_four x2 M1) (fun M3 => gB0 (fX9_four x3 M3) (fun M5 => gB0 (fX9_four x4 M5) (fun M7 => gB0 (fX9_four x5 M7) (fun M9 => some ((M9.1 141 6), M9)))))) else some ((-1 : Int32), M)
set_option maxRecDepth 100000 in
theorem CX9_feed_6 {G : gG} {d : Nat} {Z : Option Value → gMem → Prop} (hd : 1 ≤ d) (x1 : Int32) (x2 : Int32) (x3 : Int32) (x4 : Int32) (x5 : Int32) (M : gMem) (P : Int32 × gMem → Prop) (k0 : ∀ (r : Int32) (N : gMem), P (r, N) → Z (some (.int r)) N) (h : gOKq (fX9_feed_6 x1 x2 x3 x4 x5 M) P) : gGo G YX9_feed d Z 6 [some (.ref 141), some (.int x1), some (.int x2), some (.int x3), some (.int x4), some (.int x5)] [.ref 141] M := by
  unfold fX9_feed_6 at h
  refine go_ck okX9_feed rfl (gOb_c rfl) ?_
  refine go_rn 3 (pc' := 15) (L' := [some (.ref 141), some (.int x1), some (.int x2), some (.int x3), some (.int x4), some (.int x5)]) (S' := [.int (800 : Int32), .int ((M.1 141 6) + (20 : Int32))]) (M' := M) okX9_feed rfl ?_
  refine go_br okX9_feed rfl (fun hp => ?_) (fun hp => ?_)
  · have h := gq_pos hp h
    refine go_rn 2 (pc' := 22) (L' := [some (.ref 141), some (.int x1), some (.int x2), some (.int x3), some (.int x4), some (.int x5)]) (S' := [.int x1, .ref 141]) (M' := M) okX9_feed rfl ?_
    obtain ⟨M1, e2, h⟩ := gB0_ok h
    refine go_call1 ocX9_feed rfl rfl (gOb_c rfl) rfl (SX9_four x1 M e2) (Nat.lt_of_lt_of_le (by decide) hd) ?_
    refine go_rn 2 (pc' := 27) (L' := [some (.ref 141), some (.int x1), some (.int x2), some (.int x3), some (.int x4), some (.int x5)]) (S' := [.int x2, .ref 141]) (M' := M1) okX9_feed rfl ?_
    obtain ⟨M3, e4, h⟩ := gB0_ok h
    refine go_call1 ocX9_feed rfl rfl (gOb_c rfl) rfl (SX9_four x2 M1 e4) (Nat.lt_of_lt_of_le (by decide) hd) ?_
    refine go_rn 2 (pc' := 32) (L' := [some (.ref 141), some (.int x1), some (.int x2), some (.int x3), some (.int x4), some (.int x5)]) (S' := [.int x3, .ref 141]) (M' := M3) okX9_feed rfl ?_
    obtain ⟨M5, e6, h⟩ := gB0_ok h
    refine go_call1 ocX9_feed rfl rfl (gOb_c rfl) rfl (SX9_four x3 M3 e6) (Nat.lt_of_lt_of_le (by decide) hd) ?_
    refine go_rn 2 (pc' := 38) (L' := [some (.ref 141), some (.int x1), some (.int x2), some (.int x3), some (.int x4), some (.int x5)]) (S' := [.int x4, .ref 141]) (M' := M5) okX9_feed rfl ?_
    obtain ⟨M7, e8, h⟩ := gB0_ok h
    refine go_call1 ocX9_feed rfl rfl (gOb_c rfl) rfl (SX9_four x4 M5 e8) (Nat.lt_of_lt_of_le (by decide) hd) ?_
    refine go_rn 2 (pc' := 44) (L' := [some (.ref 141), some (.int x1), some (.int x2), some (.int x3), some (.int x4), some (.int x5)]) (S' := [.int x5, .ref 141]) (M' := M7) okX9_feed rfl ?_
    obtain ⟨M9, e10, h⟩ := gB0_ok h
    refine go_call1 ocX9_feed rfl rfl (gOb_c rfl) rfl (SX9_four x5 M7 e10) (Nat.lt_of_lt_of_le (by decide) hd) ?_
    refine go_rn 1 (pc' := 48) (L' := [some (.ref 141), some (.int x1), some (.int x2), some (.int x3), some (.int x4), some (.int x5)]) (S' := [.ref 141]) (M' := M9) okX9_feed rfl ?_
    refine go_ck okX9_feed rfl (gOb_c rfl) ?_
    exact go_iret (reX9_feed _ (by decide)) rfl (k0 (M9.1 141 6) M9 h)
  · have h := gq_neg hp h
    refine go_rn 1 (pc' := 19) (L' := [some (.ref 141), some (.int x1), some (.int x2), some (.int x3), some (.int x4), some (.int x5)]) (S' := [.int (-1 : Int32)]) (M' := M) okX9_feed rfl ?_
    exact go_iret (reX9_feed _ (by decide)) rfl (k0 (-1 : Int32) M h)
def fX9_feed_0 (x1 : Int32) (x2 : Int32) (x3 : Int32) (x4 : Int32) (x5 : Int32) (M : gMem) : Option (Int32 × gMem) :=
  fX9_feed_6 x1 x2 x3 x4 x5 (gSI M 141 0 (0 : Int32))
set_option maxRecDepth 100000 in
theorem CX9_feed_0 {G : gG} {d : Nat} {Z : Option Value → gMem → Prop} (hd : 1 ≤ d) (x1 : Int32) (x2 : Int32) (x3 : Int32) (x4 : Int32) (x5 : Int32) (M : gMem) (P : Int32 × gMem → Prop) (k0 : ∀ (r : Int32) (N : gMem), P (r, N) → Z (some (.int r)) N) (h : gOKq (fX9_feed_0 x1 x2 x3 x4 x5 M) P) : gGo G YX9_feed d Z 0 [some (.ref 141), some (.int x1), some (.int x2), some (.int x3), some (.int x4), some (.int x5)] [] M := by
  unfold fX9_feed_0 at h
  refine go_rn 2 (pc' := 2) (L' := [some (.ref 141), some (.int x1), some (.int x2), some (.int x3), some (.int x4), some (.int x5)]) (S' := [.int (0 : Int32), .ref 141]) (M' := M) okX9_feed rfl ?_
  refine go_ck okX9_feed rfl (gOb_c rfl) ?_
  refine go_rn 1 (pc' := 6) (L' := [some (.ref 141), some (.int x1), some (.int x2), some (.int x3), some (.int x4), some (.int x5)]) (S' := [.ref 141]) (M' := (gSI M 141 0 (0 : Int32))) okX9_feed rfl ?_
  exact go_wk (CX9_feed_6 hd x1 x2 x3 x4 x5 (gSI M 141 0 (0 : Int32)) P k0 h) ⟨rfl, rfl, rfl, rfl, rfl, rfl, True.intro⟩
def fX9_feed (a1 : Int32) (a2 : Int32) (a3 : Int32) (a4 : Int32) (a5 : Int32) (M : gMem) : Option (Int32 × gMem) := fX9_feed_0 a1 a2 a3 a4 a5 M
theorem SX9_feed {G : gG} (a1 : Int32) (a2 : Int32) (a3 : Int32) (a4 : Int32) (a5 : Int32) (M : gMem) {r : Int32} {N : gMem} (h : fX9_feed a1 a2 a3 a4 a5 M = some (r, N)) : gRun G YX9_feed 1 [.ref 141, .int a1, .int a2, .int a3, .int a4, .int a5] M (fun r' N' => r' = some (.int r) ∧ N' = N) := gRun_in (by decide +kernel) rfl (fun d hd => go_wk (CX9_feed_0 hd a1 a2 a3 a4 a5 M (fun p => p = (r, N)) (fun r N hh => by cases hh; exact ⟨rfl, rfl⟩) (gq_of h)) ⟨rfl, rfl, rfl, rfl, rfl, rfl, True.intro⟩)
def fX9_end_9 (x1 : Int32) (s1 : Int64) (s2 : Int64) (M : gMem) : Option (Int32 × gMem) :=
  gB0 (fX9_in s2 s1 (Int32.toInt64 (M.1 141 6)) M) (fun r1 => if r1 = 0 then some ((-1 : Int32), M) else some (x1, (gSI M 141 6 x1)))
set_option maxRecDepth 100000 in
theorem CX9_end_9 {G : gG} {d : Nat} {Z : Option Value → gMem → Prop} (hd : 1 ≤ d) (x1 : Int32) (s1 : Int64) (s2 : Int64) (M : gMem) (P : Int32 × gMem → Prop) (k0 : ∀ (r : Int32) (N : gMem), P (r, N) → Z (some (.int r)) N) (h : gOKq (fX9_end_9 x1 s1 s2 M) P) : gGo G YX9_end d Z 9 [some (.ref 141), some (.int x1)] [.ref 141, .long s1, .long s2] M := by
  unfold fX9_end_9 at h
  refine go_ck okX9_end rfl (gOb_c rfl) ?_
  refine go_rn 1 (pc' := 13) (L' := [some (.ref 141), some (.int x1)]) (S' := [.long (Int32.toInt64 (M.1 141 6)), .long s1, .long s2]) (M' := M) okX9_end rfl ?_
  obtain ⟨r1, e2, h⟩ := gB0_ok h
  refine go_call1 ocX9_end rfl rfl rfl rfl (SX9_in s2 s1 (Int32.toInt64 (M.1 141 6)) M e2) (Nat.lt_of_lt_of_le (by decide) hd) ?_
  refine go_br okX9_end rfl (fun hp => ?_) (fun hp => ?_)
  · have h := gq_pos hp h
    refine go_rn 1 (pc' := 20) (L' := [some (.ref 141), some (.int x1)]) (S' := [.int (-1 : Int32)]) (M' := M) okX9_end rfl ?_
    exact go_iret (reX9_end _ (by decide)) rfl (k0 (-1 : Int32) M h)
  · have h := gq_neg hp h
    refine go_rn 2 (pc' := 23) (L' := [some (.ref 141), some (.int x1)]) (S' := [.int x1, .ref 141]) (M' := M) okX9_end rfl ?_
    refine go_ck okX9_end rfl (gOb_c rfl) ?_
    refine go_rn 1 (pc' := 27) (L' := [some (.ref 141), some (.int x1)]) (S' := [.int x1]) (M' := (gSI M 141 6 x1)) okX9_end rfl ?_
    exact go_iret (reX9_end _ (by decide)) rfl (k0 x1 (gSI M 141 6 x1) h)
def fX9_end_0 (x1 : Int32) (M : gMem) : Option (Int32 × gMem) :=
  fX9_end_9 x1 (0 : Int64) (Int32.toInt64 x1) (gSI M 141 0 (0 : Int32))
set_option maxRecDepth 100000 in
theorem CX9_end_0 {G : gG} {d : Nat} {Z : Option Value → gMem → Prop} (hd : 1 ≤ d) (x1 : Int32) (M : gMem) (P : Int32 × gMem → Prop) (k0 : ∀ (r : Int32) (N : gMem), P (r, N) → Z (some (.int r)) N) (h : gOKq (fX9_end_0 x1 M) P) : gGo G YX9_end d Z 0 [some (.ref 141), some (.int x1)] [] M := by
  unfold fX9_end_0 at h
  refine go_rn 2 (pc' := 2) (L' := [some (.ref 141), some (.int x1)]) (S' := [.int (0 : Int32), .ref 141]) (M' := M) okX9_end rfl ?_
  refine go_ck okX9_end rfl (gOb_c rfl) ?_
  refine go_rn 4 (pc' := 9) (L' := [some (.ref 141), some (.int x1)]) (S' := [.ref 141, .long (0 : Int64), .long (Int32.toInt64 x1)]) (M' := (gSI M 141 0 (0 : Int32))) okX9_end rfl ?_
  exact go_wk (CX9_end_9 hd x1 (0 : Int64) (Int32.toInt64 x1) (gSI M 141 0 (0 : Int32)) P k0 h) ⟨rfl, rfl, True.intro⟩
def fX9_end (a1 : Int32) (M : gMem) : Option (Int32 × gMem) := fX9_end_0 a1 M
theorem SX9_end {G : gG} (a1 : Int32) (M : gMem) {r : Int32} {N : gMem} (h : fX9_end a1 M = some (r, N)) : gRun G YX9_end 1 [.ref 141, .int a1] M (fun r' N' => r' = some (.int r) ∧ N' = N) := gRun_in (by decide +kernel) rfl (fun d hd => go_wk (CX9_end_0 hd a1 M (fun p => p = (r, N)) (fun r N hh => by cases hh; exact ⟨rfl, rfl⟩) (gq_of h)) ⟨rfl, rfl, True.intro⟩)
def fX9_isByte_0 (x1 : Int32) (x2 : Int32) (x3 : Int32) (M : gMem) : Option (Int32) :=
  if (M.1 141 6) ≤ x1 then some (0 : Int32) else if gIx 2 146 x1 = true then if (M.1 146 (Int32.toNatClampNeg x1)) < x2 then some (0 : Int32) else if gIx 2 146 x1 = true then if x3 < (M.1 146 (Int32.toNatClampNeg x1)) then some (0 : Int32) else some (1 : Int32) else none else none
set_option maxRecDepth 100000 in
theorem CX9_isByte_0 {G : gG} {d : Nat} {Z : Option Value → gMem → Prop} (hd : 0 ≤ d) (x1 : Int32) (x2 : Int32) (x3 : Int32) (M : gMem) (P : Int32 → Prop) (k0 : ∀ (r : Int32), P r → Z (some (.int r)) M) (h : gOKq (fX9_isByte_0 x1 x2 x3 M) P) : gGo G YX9_isByte d Z 0 [some (.ref 141), some (.int x1), some (.int x2), some (.int x3)] [] M := by
  unfold fX9_isByte_0 at h
  refine go_rn 2 (pc' := 2) (L' := [some (.ref 141), some (.int x1), some (.int x2), some (.int x3)]) (S' := [.ref 141, .int x1]) (M' := M) okX9_isByte rfl ?_
  refine go_ck okX9_isByte rfl (gOb_c rfl) ?_
  refine go_br okX9_isByte rfl (fun hp => ?_) (fun hp => ?_)
  · have h := gq_pos hp h
    refine go_rn 1 (pc' := 33) (L' := [some (.ref 141), some (.int x1), some (.int x2), some (.int x3)]) (S' := [.int (0 : Int32)]) (M' := M) okX9_isByte rfl ?_
    exact go_zret (reX9_isByte _ (by decide)) rfl (Or.inl rfl) (k0 (0 : Int32) h)
  · have h := gq_neg hp h
    refine go_rn 1 (pc' := 9) (L' := [some (.ref 141), some (.int x1), some (.int x2), some (.int x3)]) (S' := [.ref 141]) (M' := M) okX9_isByte rfl ?_
    refine go_ck okX9_isByte rfl (gOb_c rfl) ?_
    refine go_rn 1 (pc' := 13) (L' := [some (.ref 141), some (.int x1), some (.int x2), some (.int x3)]) (S' := [.int x1, .ref 146]) (M' := M) okX9_isByte rfl ?_
    obtain ⟨c1, h⟩ := gq_if h
    refine go_ck okX9_isByte rfl c1 ?_
    refine go_rn 1 (pc' := 15) (L' := [some (.ref 141), some (.int x1), some (.int x2), some (.int x3)]) (S' := [.int x2, .int (M.1 146 (Int32.toNatClampNeg x1))]) (M' := M) okX9_isByte rfl ?_
    refine go_br okX9_isByte rfl (fun hp => ?_) (fun hp => ?_)
    · have h := gq_pos hp h
      refine go_rn 1 (pc' := 33) (L' := [some (.ref 141), some (.int x1), some (.int x2), some (.int x3)]) (S' := [.int (0 : Int32)]) (M' := M) okX9_isByte rfl ?_
      exact go_zret (reX9_isByte _ (by decide)) rfl (Or.inl rfl) (k0 (0 : Int32) h)
    · have h := gq_neg hp h
      refine go_rn 1 (pc' := 19) (L' := [some (.ref 141), some (.int x1), some (.int x2), some (.int x3)]) (S' := [.ref 141]) (M' := M) okX9_isByte rfl ?_
      refine go_ck okX9_isByte rfl (gOb_c rfl) ?_
      refine go_rn 1 (pc' := 23) (L' := [some (.ref 141), some (.int x1), some (.int x2), some (.int x3)]) (S' := [.int x1, .ref 146]) (M' := M) okX9_isByte rfl ?_
      obtain ⟨c2, h⟩ := gq_if h
      refine go_ck okX9_isByte rfl c2 ?_
      refine go_rn 1 (pc' := 25) (L' := [some (.ref 141), some (.int x1), some (.int x2), some (.int x3)]) (S' := [.int x3, .int (M.1 146 (Int32.toNatClampNeg x1))]) (M' := M) okX9_isByte rfl ?_
      refine go_br okX9_isByte rfl (fun hp => ?_) (fun hp => ?_)
      · have h := gq_pos hp h
        refine go_rn 1 (pc' := 33) (L' := [some (.ref 141), some (.int x1), some (.int x2), some (.int x3)]) (S' := [.int (0 : Int32)]) (M' := M) okX9_isByte rfl ?_
        exact go_zret (reX9_isByte _ (by decide)) rfl (Or.inl rfl) (k0 (0 : Int32) h)
      · have h := gq_neg hp h
        refine go_rn 2 (pc' := 33) (L' := [some (.ref 141), some (.int x1), some (.int x2), some (.int x3)]) (S' := [.int (1 : Int32)]) (M' := M) okX9_isByte rfl ?_
        exact go_zret (reX9_isByte _ (by decide)) rfl (Or.inr rfl) (k0 (1 : Int32) h)
def fX9_isByte (a1 : Int32) (a2 : Int32) (a3 : Int32) (M : gMem) : Option (Int32) := fX9_isByte_0 a1 a2 a3 M
theorem SX9_isByte {G : gG} (a1 : Int32) (a2 : Int32) (a3 : Int32) (M : gMem) {r : Int32} (h : fX9_isByte a1 a2 a3 M = some r) : gRun G YX9_isByte 0 [.ref 141, .int a1, .int a2, .int a3] M (fun r' N' => r' = some (.int r) ∧ N' = M) := gRun_in (by decide +kernel) rfl (fun d hd => go_wk (CX9_isByte_0 hd a1 a2 a3 M (fun p => p = r) (fun r hh => ⟨congrArg (fun z => some (Value.int z)) hh, rfl⟩) (gq_of h)) ⟨rfl, rfl, rfl, rfl, True.intro⟩)
def fX9_next_299 (M : gMem) : Option (gMem) :=
  some (gSI M 141 7 ((M.1 141 7) + (1 : Int32)))
set_option maxRecDepth 100000 in
theorem CX9_next_299 {G : gG} {d : Nat} {Z : Option Value → gMem → Prop} (hd : 1 ≤ d) (M : gMem) (P : gMem → Prop) (k0 : ∀ (N : gMem), P N → Z none N) (h : gOKq (fX9_next_299 M) P) : gGo G YX9_next d Z 299 [none, none] [.ref 141, .ref 141] M := by
  unfold fX9_next_299 at h
  refine go_ck okX9_next rfl (gOb_c rfl) ?_
  refine go_rn 2 (pc' := 304) (L' := [none, none]) (S' := [.int ((M.1 141 7) + (1 : Int32)), .ref 141]) (M' := M) okX9_next rfl ?_
  refine go_ck okX9_next rfl (gOb_c rfl) ?_
  exact go_vret (reX9_next _ (by decide)) rfl (k0 (gSI M 141 7 ((M.1 141 7) + (1 : Int32))) h)
def fX9_next_294 (s0 : Int32) (M : gMem) : Option (gMem) :=
  fX9_next_299 (gSI M 141 8 s0)
set_option maxRecDepth 100000 in
theorem CX9_next_294 {G : gG} {d : Nat} {Z : Option Value → gMem → Prop} (hd : 1 ≤ d) (s0 : Int32) (M : gMem) (P : gMem → Prop) (k0 : ∀ (N : gMem), P N → Z none N) (h : gOKq (fX9_next_294 s0 M) P) : gGo G YX9_next d Z 294 [some (.ref 141), none] [.int s0, .ref 141] M := by
  unfold fX9_next_294 at h
  refine go_ck okX9_next rfl (gOb_c rfl) ?_
  refine go_rn 2 (pc' := 299) (L' := [some (.ref 141), none]) (S' := [.ref 141, .ref 141]) (M' := (gSI M 141 8 s0)) okX9_next rfl ?_
  exact go_wk (CX9_next_299 hd (gSI M 141 8 s0) P k0 h) True.intro
def fX9_next_263 (M : gMem) : Option (Sum (gMem) (gMem)) :=
  some (.inl ((gSI M 141 7 ((M.1 141 7) + (1 : Int32)))))
set_option maxRecDepth 100000 in
theorem CX9_next_263 {G : gG} {d : Nat} {Z : Option Value → gMem → Prop} (hd : 1 ≤ d) (M : gMem) (P : Sum (gMem) (gMem) → Prop) (k0 : ∀ (N : gMem), P (.inr N) → Z none N) (k1 : ∀ (M : gMem), P (.inl (M)) → gGo G YX9_next d Z 208 [some (.ref 141), none] [] M) (h : gOKq (fX9_next_263 M) P) : gGo G YX9_next d Z 263 [some (.ref 141), none] [.ref 141, .ref 141] M := by
  unfold fX9_next_263 at h
  refine go_ck okX9_next rfl (gOb_c rfl) ?_
  refine go_rn 2 (pc' := 268) (L' := [some (.ref 141), none]) (S' := [.int ((M.1 141 7) + (1 : Int32)), .ref 141]) (M' := M) okX9_next rfl ?_
  refine go_ck okX9_next rfl (gOb_c rfl) ?_
  refine go_rn 1 (pc' := 208) (L' := [some (.ref 141), none]) (S' := []) (M' := (gSI M 141 7 ((M.1 141 7) + (1 : Int32)))) okX9_next rfl ?_
  exact go_wk (k1 (gSI M 141 7 ((M.1 141 7) + (1 : Int32))) h) ⟨rfl, True.intro⟩
def fX9_next_258 (s0 : Int32) (M : gMem) : Option (Sum (gMem) (gMem)) :=
  fX9_next_263 (gSI M 141 10 s0)
set_option maxRecDepth 100000 in
theorem CX9_next_258 {G : gG} {d : Nat} {Z : Option Value → gMem → Prop} (hd : 1 ≤ d) (s0 : Int32) (M : gMem) (P : Sum (gMem) (gMem) → Prop) (k0 : ∀ (N : gMem), P (.inr N) → Z none N) (k1 : ∀ (M : gMem), P (.inl (M)) → gGo G YX9_next d Z 208 [some (.ref 141), none] [] M) (h : gOKq (fX9_next_258 s0 M) P) : gGo G YX9_next d Z 258 [some (.ref 141), none] [.int s0, .ref 141] M := by
  unfold fX9_next_258 at h
  refine go_ck okX9_next rfl (gOb_c rfl) ?_
  refine go_rn 2 (pc' := 263) (L' := [some (.ref 141), none]) (S' := [.ref 141, .ref 141]) (M' := (gSI M 141 10 s0)) okX9_next rfl ?_
  exact go_wk (CX9_next_263 hd (gSI M 141 10 s0) P k0 k1 h) ⟨rfl, True.intro⟩
def fX9_next_208 (M : gMem) : Option (Sum (gMem) (gMem)) :=
  gB0 (fX9_isByte (M.1 141 7) (48 : Int32) (57 : Int32) M) (fun r1 => if r1 = 0 then some (.inr M) else if (M.1 141 10) ≤ (100000 : Int32) then if gIx 2 146 (M.1 141 7) = true then fX9_next_258 ((((10 : Int32) * (M.1 141 10)) + (M.1 146 (Int32.toNatClampNeg (M.1 141 7)))) - (48 : Int32)) M else none else fX9_next_258 (1000000 : Int32) M)
set_option maxRecDepth 100000 in
theorem CX9_next_208 {G : gG} {d : Nat} {Z : Option Value → gMem → Prop} (hd : 1 ≤ d) (M : gMem) (P : Sum (gMem) (gMem) → Prop) (k0 : ∀ (N : gMem), P (.inr N) → Z none N) (k1 : ∀ (M : gMem), P (.inl (M)) → gGo G YX9_next d Z 208 [some (.ref 141), none] [] M) (h : gOKq (fX9_next_208 M) P) : gGo G YX9_next d Z 208 [some (.ref 141), none] [] M := by
  unfold fX9_next_208 at h
  refine go_rn 2 (pc' := 210) (L' := [some (.ref 141), none]) (S' := [.ref 141, .ref 141]) (M' := M) okX9_next rfl ?_
  refine go_ck okX9_next rfl (gOb_c rfl) ?_
  refine go_rn 2 (pc' := 217) (L' := [some (.ref 141), none]) (S' := [.int (57 : Int32), .int (48 : Int32), .int (M.1 141 7), .ref 141]) (M' := M) okX9_next rfl ?_
  obtain ⟨r1, e2, h⟩ := gB0_ok h
  refine go_call1 ocX9_next rfl rfl (gOb_c rfl) rfl (SX9_isByte (M.1 141 7) (48 : Int32) (57 : Int32) M e2) (Nat.lt_of_lt_of_le (by decide) hd) ?_
  refine go_br okX9_next rfl (fun hp => ?_) (fun hp => ?_)
  · have h := gq_pos hp h
    exact go_vret (reX9_next _ (by decide)) rfl (k0 M h)
  · have h := gq_neg hp h
    refine go_rn 2 (pc' := 225) (L' := [some (.ref 141), none]) (S' := [.ref 141, .ref 141]) (M' := M) okX9_next rfl ?_
    refine go_ck okX9_next rfl (gOb_c rfl) ?_
    refine go_rn 1 (pc' := 230) (L' := [some (.ref 141), none]) (S' := [.int (100000 : Int32), .int (M.1 141 10), .ref 141]) (M' := M) okX9_next rfl ?_
    refine go_br okX9_next rfl (fun hp => ?_) (fun hp => ?_)
    · have h := gq_pos hp h
      refine go_rn 2 (pc' := 241) (L' := [some (.ref 141), none]) (S' := [.ref 141, .int (10 : Int32), .ref 141]) (M' := M) okX9_next rfl ?_
      refine go_ck okX9_next rfl (gOb_c rfl) ?_
      refine go_rn 2 (pc' := 246) (L' := [some (.ref 141), none]) (S' := [.ref 141, .int ((10 : Int32) * (M.1 141 10)), .ref 141]) (M' := M) okX9_next rfl ?_
      refine go_ck okX9_next rfl (gOb_c rfl) ?_
      refine go_rn 1 (pc' := 250) (L' := [some (.ref 141), none]) (S' := [.ref 141, .ref 146, .int ((10 : Int32) * (M.1 141 10)), .ref 141]) (M' := M) okX9_next rfl ?_
      refine go_ck okX9_next rfl (gOb_c rfl) ?_
      obtain ⟨c3, h⟩ := gq_if h
      refine go_ck okX9_next rfl c3 ?_
      refine go_rn 3 (pc' := 258) (L' := [some (.ref 141), none]) (S' := [.int ((((10 : Int32) * (M.1 141 10)) + (M.1 146 (Int32.toNatClampNeg (M.1 141 7)))) - (48 : Int32)), .ref 141]) (M' := M) okX9_next rfl ?_
      exact go_wk (CX9_next_258 hd ((((10 : Int32) * (M.1 141 10)) + (M.1 146 (Int32.toNatClampNeg (M.1 141 7)))) - (48 : Int32)) M P k0 k1 h) ⟨rfl, True.intro⟩
    · have h := gq_neg hp h
      refine go_rn 2 (pc' := 258) (L' := [some (.ref 141), none]) (S' := [.int (1000000 : Int32), .ref 141]) (M' := M) okX9_next rfl ?_
      exact go_wk (CX9_next_258 hd (1000000 : Int32) M P k0 k1 h) ⟨rfl, True.intro⟩
def fX9_next_208h (M : gMem) : Option (gMem) :=
  gLp (fun s : gMem => fX9_next_208 s) gFu (M)
set_option maxRecDepth 100000 in
theorem CX9_next_208h {G : gG} {d : Nat} {Z : Option Value → gMem → Prop} (hd : 1 ≤ d) (M : gMem) (P : gMem → Prop) (k0 : ∀ (N : gMem), P N → Z none N) (h : gOKq (fX9_next_208h M) P) : gGo G YX9_next d Z 208 [some (.ref 141), none] [] M :=
  gLp_go (K := fun s : gMem => gGo G YX9_next d Z 208 [some (.ref 141), none] [] s) (P := P) (fun s hs => CX9_next_208 hd s (Sum.elim (fun s : gMem => gGo G YX9_next d Z 208 [some (.ref 141), none] [] s) P) k0 (fun M hh => hh) hs) gFu (M) h
def fX9_next_169 (x1 : Int32) (M : gMem) : Option (Sum (Int32 × gMem) (gMem)) :=
  some (.inl ((x1 + 1), (gSI M 141 7 ((M.1 141 7) + (1 : Int32)))))
set_option maxRecDepth 100000 in
theorem CX9_next_169 {G : gG} {d : Nat} {Z : Option Value → gMem → Prop} (hd : 1 ≤ d) (x1 : Int32) (M : gMem) (P : Sum (Int32 × gMem) (gMem) → Prop) (k0 : ∀ (N : gMem), P (.inr N) → Z none N) (k1 : ∀ (x1 : Int32) (M : gMem), P (.inl (x1, M)) → gGo G YX9_next d Z 102 [some (.ref 141), some (.int x1)] [] M) (h : gOKq (fX9_next_169 x1 M) P) : gGo G YX9_next d Z 169 [some (.ref 141), some (.int x1)] [] M := by
  unfold fX9_next_169 at h
  refine go_rn 2 (pc' := 171) (L' := [some (.ref 141), some (.int x1)]) (S' := [.ref 141, .ref 141]) (M' := M) okX9_next rfl ?_
  refine go_ck okX9_next rfl (gOb_c rfl) ?_
  refine go_rn 2 (pc' := 176) (L' := [some (.ref 141), some (.int x1)]) (S' := [.int ((M.1 141 7) + (1 : Int32)), .ref 141]) (M' := M) okX9_next rfl ?_
  refine go_ck okX9_next rfl (gOb_c rfl) ?_
  refine go_rn 2 (pc' := 102) (L' := [some (.ref 141), some (.int (x1 + 1))]) (S' := []) (M' := (gSI M 141 7 ((M.1 141 7) + (1 : Int32)))) okX9_next rfl ?_
  exact go_wk (k1 ((x1 + 1)) (gSI M 141 7 ((M.1 141 7) + (1 : Int32))) h) ⟨rfl, rfl, True.intro⟩
def fX9_next_166 (x1 : Int32) (s0 : Int64) (M : gMem) : Option (Sum (Int32 × gMem) (gMem)) :=
  fX9_next_169 x1 (gSJ M 141 11 s0)
set_option maxRecDepth 100000 in
theorem CX9_next_166 {G : gG} {d : Nat} {Z : Option Value → gMem → Prop} (hd : 1 ≤ d) (x1 : Int32) (s0 : Int64) (M : gMem) (P : Sum (Int32 × gMem) (gMem) → Prop) (k0 : ∀ (N : gMem), P (.inr N) → Z none N) (k1 : ∀ (x1 : Int32) (M : gMem), P (.inl (x1, M)) → gGo G YX9_next d Z 102 [some (.ref 141), some (.int x1)] [] M) (h : gOKq (fX9_next_166 x1 s0 M) P) : gGo G YX9_next d Z 166 [some (.ref 141), some (.int x1)] [.long s0, .ref 141] M := by
  unfold fX9_next_166 at h
  refine go_ck okX9_next rfl (gOb_c rfl) ?_
  exact go_wk (CX9_next_169 hd x1 (gSJ M 141 11 s0) P k0 k1 h) ⟨rfl, rfl, True.intro⟩
def fX9_next_153 (x1 : Int32) (s0 : Int64) (M : gMem) : Option (Sum (Int32 × gMem) (gMem)) :=
  if x1 ≤ (11 : Int32) then fX9_next_169 x1 (gSJ M 141 11 s0) else fX9_next_166 x1 (-1 : Int64) (gSJ M 141 11 s0)
set_option maxRecDepth 100000 in
theorem CX9_next_153 {G : gG} {d : Nat} {Z : Option Value → gMem → Prop} (hd : 1 ≤ d) (x1 : Int32) (s0 : Int64) (M : gMem) (P : Sum (Int32 × gMem) (gMem) → Prop) (k0 : ∀ (N : gMem), P (.inr N) → Z none N) (k1 : ∀ (x1 : Int32) (M : gMem), P (.inl (x1, M)) → gGo G YX9_next d Z 102 [some (.ref 141), some (.int x1)] [] M) (h : gOKq (fX9_next_153 x1 s0 M) P) : gGo G YX9_next d Z 153 [some (.ref 141), some (.int x1)] [.long s0, .ref 141] M := by
  unfold fX9_next_153 at h
  refine go_ck okX9_next rfl (gOb_c rfl) ?_
  refine go_rn 2 (pc' := 159) (L' := [some (.ref 141), some (.int x1)]) (S' := [.int (11 : Int32), .int x1]) (M' := (gSJ M 141 11 s0)) okX9_next rfl ?_
  refine go_br okX9_next rfl (fun hp => ?_) (fun hp => ?_)
  · have h := gq_pos hp h
    exact go_wk (CX9_next_169 hd x1 (gSJ M 141 11 s0) P k0 k1 h) ⟨rfl, rfl, True.intro⟩
  · have h := gq_neg hp h
    refine go_rn 2 (pc' := 166) (L' := [some (.ref 141), some (.int x1)]) (S' := [.long (-1 : Int64), .ref 141]) (M' := (gSJ M 141 11 s0)) okX9_next rfl ?_
    exact go_wk (CX9_next_166 hd x1 (-1 : Int64) (gSJ M 141 11 s0) P k0 k1 h) ⟨rfl, rfl, True.intro⟩
def fX9_next_102 (x1 : Int32) (M : gMem) : Option (Sum (Int32 × gMem) (gMem)) :=
  gB0 (fX9_isByte (M.1 141 7) (97 : Int32) (122 : Int32) M) (fun r1 => if r1 = 0 then some (.inr M) else if x1 ≤ (11 : Int32) then if gIx 2 146 (M.1 141 7) = true then fX9_next_153 x1 ((((27 : Int64) * (M.2.1 141 11)) + (Int32.toInt64 (M.1 146 (Int32.toNatClampNeg (M.1 141 7))))) - (96 : Int64)) M else none else fX9_next_153 x1 (-1 : Int64) M)
set_option maxRecDepth 100000 in
theorem CX9_next_102 {G : gG} {d : Nat} {Z : Option Value → gMem → Prop} (hd : 1 ≤ d) (x1 : Int32) (M : gMem) (P : Sum (Int32 × gMem) (gMem) → Prop) (k0 : ∀ (N : gMem), P (.inr N) → Z none N) (k1 : ∀ (x1 : Int32) (M : gMem), P (.inl (x1, M)) → gGo G YX9_next d Z 102 [some (.ref 141), some (.int x1)] [] M) (h : gOKq (fX9_next_102 x1 M) P) : gGo G YX9_next d Z 102 [some (.ref 141), some (.int x1)] [] M := by
  unfold fX9_next_102 at h
  refine go_rn 2 (pc' := 104) (L' := [some (.ref 141), some (.int x1)]) (S' := [.ref 141, .ref 141]) (M' := M) okX9_next rfl ?_
  refine go_ck okX9_next rfl (gOb_c rfl) ?_
  refine go_rn 2 (pc' := 111) (L' := [some (.ref 141), some (.int x1)]) (S' := [.int (122 : Int32), .int (97 : Int32), .int (M.1 141 7), .ref 141]) (M' := M) okX9_next rfl ?_
  obtain ⟨r1, e2, h⟩ := gB0_ok h
  refine go_call1 ocX9_next rfl rfl (gOb_c rfl) rfl (SX9_isByte (M.1 141 7) (97 : Int32) (122 : Int32) M e2) (Nat.lt_of_lt_of_le (by decide) hd) ?_
  refine go_br okX9_next rfl (fun hp => ?_) (fun hp => ?_)
  · have h := gq_pos hp h
    refine go_rn 1 (pc' := 307) (L' := [some (.ref 141), some (.int x1)]) (S' := []) (M' := M) okX9_next rfl ?_
    exact go_vret (reX9_next _ (by decide)) rfl (k0 M h)
  · have h := gq_neg hp h
    refine go_rn 3 (pc' := 121) (L' := [some (.ref 141), some (.int x1)]) (S' := [.int (11 : Int32), .int x1, .ref 141]) (M' := M) okX9_next rfl ?_
    refine go_br okX9_next rfl (fun hp => ?_) (fun hp => ?_)
    · have h := gq_pos hp h
      refine go_rn 2 (pc' := 134) (L' := [some (.ref 141), some (.int x1)]) (S' := [.ref 141, .long (27 : Int64), .ref 141]) (M' := M) okX9_next rfl ?_
      refine go_ck okX9_next rfl (gOb_c rfl) ?_
      refine go_rn 2 (pc' := 139) (L' := [some (.ref 141), some (.int x1)]) (S' := [.ref 141, .long ((27 : Int64) * (M.2.1 141 11)), .ref 141]) (M' := M) okX9_next rfl ?_
      refine go_ck okX9_next rfl (gOb_c rfl) ?_
      refine go_rn 1 (pc' := 143) (L' := [some (.ref 141), some (.int x1)]) (S' := [.ref 141, .ref 146, .long ((27 : Int64) * (M.2.1 141 11)), .ref 141]) (M' := M) okX9_next rfl ?_
      refine go_ck okX9_next rfl (gOb_c rfl) ?_
      obtain ⟨c3, h⟩ := gq_if h
      refine go_ck okX9_next rfl c3 ?_
      refine go_rn 4 (pc' := 153) (L' := [some (.ref 141), some (.int x1)]) (S' := [.long ((((27 : Int64) * (M.2.1 141 11)) + (Int32.toInt64 (M.1 146 (Int32.toNatClampNeg (M.1 141 7))))) - (96 : Int64)), .ref 141]) (M' := M) okX9_next rfl ?_
      exact go_wk (CX9_next_153 hd x1 ((((27 : Int64) * (M.2.1 141 11)) + (Int32.toInt64 (M.1 146 (Int32.toNatClampNeg (M.1 141 7))))) - (96 : Int64)) M P k0 k1 h) ⟨rfl, rfl, True.intro⟩
    · have h := gq_neg hp h
      refine go_rn 2 (pc' := 153) (L' := [some (.ref 141), some (.int x1)]) (S' := [.long (-1 : Int64), .ref 141]) (M' := M) okX9_next rfl ?_
      exact go_wk (CX9_next_153 hd x1 (-1 : Int64) M P k0 k1 h) ⟨rfl, rfl, True.intro⟩
def fX9_next_102h (x1 : Int32) (M : gMem) : Option (gMem) :=
  gLp (fun s : Int32 × gMem => fX9_next_102 (s.1) s.2) gFu (x1, M)
set_option maxRecDepth 100000 in
theorem CX9_next_102h {G : gG} {d : Nat} {Z : Option Value → gMem → Prop} (hd : 1 ≤ d) (x1 : Int32) (M : gMem) (P : gMem → Prop) (k0 : ∀ (N : gMem), P N → Z none N) (h : gOKq (fX9_next_102h x1 M) P) : gGo G YX9_next d Z 102 [some (.ref 141), some (.int x1)] [] M :=
  gLp_go (K := fun s : Int32 × gMem => gGo G YX9_next d Z 102 [some (.ref 141), some (.int s.1)] [] s.2) (P := P) (fun s hs => CX9_next_102 hd (s.1) (s.2) (Sum.elim (fun s : Int32 × gMem => gGo G YX9_next d Z 102 [some (.ref 141), some (.int s.1)] [] s.2) P) k0 (fun x1 M hh => hh) hs) gFu (x1, M) h
def fX9_next_62 (M : gMem) : Option (gMem) :=
  if (M.1 141 7) = (M.1 141 6) then some (gSI M 141 8 (0 : Int32)) else gB0 (fX9_isByte (M.1 141 7) (97 : Int32) (122 : Int32) M) (fun r1 => if r1 = 0 then gB0 (fX9_isByte (M.1 141 7) (48 : Int32) (57 : Int32) M) (fun r3 => if r3 = 0 then if gIx 2 146 (M.1 141 7) = true then if (M.1 146 (Int32.toNatClampNeg (M.1 141 7))) = (59 : Int32) then fX9_next_294 (3 : Int32) M else fX9_next_294 (4 : Int32) M else none else fX9_next_208h (gSI M 141 8 (2 : Int32))) else fX9_next_102h (0 : Int32) (gSI M 141 8 (1 : Int32)))
set_option maxRecDepth 100000 in
theorem CX9_next_62 {G : gG} {d : Nat} {Z : Option Value → gMem → Prop} (hd : 1 ≤ d) (M : gMem) (P : gMem → Prop) (k0 : ∀ (N : gMem), P N → Z none N) (h : gOKq (fX9_next_62 M) P) : gGo G YX9_next d Z 62 [some (.ref 141), none] [.ref 141] M := by
  unfold fX9_next_62 at h
  refine go_ck okX9_next rfl (gOb_c rfl) ?_
  refine go_rn 1 (pc' := 66) (L' := [some (.ref 141), none]) (S' := [.ref 141, .int (M.1 141 7)]) (M' := M) okX9_next rfl ?_
  refine go_ck okX9_next rfl (gOb_c rfl) ?_
  refine go_br okX9_next rfl (fun hp => ?_) (fun hp => ?_)
  · have h := gq_pos hp h
    refine go_rn 2 (pc' := 74) (L' := [some (.ref 141), none]) (S' := [.int (0 : Int32), .ref 141]) (M' := M) okX9_next rfl ?_
    refine go_ck okX9_next rfl (gOb_c rfl) ?_
    refine go_rn 1 (pc' := 307) (L' := [some (.ref 141), none]) (S' := []) (M' := (gSI M 141 8 (0 : Int32))) okX9_next rfl ?_
    exact go_vret (reX9_next _ (by decide)) rfl (k0 (gSI M 141 8 (0 : Int32)) h)
  · have h := gq_neg hp h
    refine go_rn 2 (pc' := 82) (L' := [some (.ref 141), none]) (S' := [.ref 141, .ref 141]) (M' := M) okX9_next rfl ?_
    refine go_ck okX9_next rfl (gOb_c rfl) ?_
    refine go_rn 2 (pc' := 89) (L' := [some (.ref 141), none]) (S' := [.int (122 : Int32), .int (97 : Int32), .int (M.1 141 7), .ref 141]) (M' := M) okX9_next rfl ?_
    obtain ⟨r1, e2, h⟩ := gB0_ok h
    refine go_call1 ocX9_next rfl rfl (gOb_c rfl) rfl (SX9_isByte (M.1 141 7) (97 : Int32) (122 : Int32) M e2) (Nat.lt_of_lt_of_le (by decide) hd) ?_
    refine go_br okX9_next rfl (fun hp => ?_) (fun hp => ?_)
    · have h := gq_pos hp h
      refine go_rn 2 (pc' := 190) (L' := [some (.ref 141), none]) (S' := [.ref 141, .ref 141]) (M' := M) okX9_next rfl ?_
      refine go_ck okX9_next rfl (gOb_c rfl) ?_
      refine go_rn 2 (pc' := 197) (L' := [some (.ref 141), none]) (S' := [.int (57 : Int32), .int (48 : Int32), .int (M.1 141 7), .ref 141]) (M' := M) okX9_next rfl ?_
      obtain ⟨r3, e4, h⟩ := gB0_ok h
      refine go_call1 ocX9_next rfl rfl (gOb_c rfl) rfl (SX9_isByte (M.1 141 7) (48 : Int32) (57 : Int32) M e4) (Nat.lt_of_lt_of_le (by decide) hd) ?_
      refine go_br okX9_next rfl (fun hp => ?_) (fun hp => ?_)
      · have h := gq_pos hp h
        refine go_rn 2 (pc' := 276) (L' := [some (.ref 141), none]) (S' := [.ref 141, .ref 141]) (M' := M) okX9_next rfl ?_
        refine go_ck okX9_next rfl (gOb_c rfl) ?_
        refine go_rn 1 (pc' := 280) (L' := [some (.ref 141), none]) (S' := [.ref 141, .ref 146, .ref 141]) (M' := M) okX9_next rfl ?_
        refine go_ck okX9_next rfl (gOb_c rfl) ?_
        obtain ⟨c5, h⟩ := gq_if h
        refine go_ck okX9_next rfl c5 ?_
        refine go_rn 1 (pc' := 286) (L' := [some (.ref 141), none]) (S' := [.int (59 : Int32), .int (M.1 146 (Int32.toNatClampNeg (M.1 141 7))), .ref 141]) (M' := M) okX9_next rfl ?_
        refine go_br okX9_next rfl (fun hp => ?_) (fun hp => ?_)
        · have h := gq_pos hp h
          refine go_rn 2 (pc' := 294) (L' := [some (.ref 141), none]) (S' := [.int (3 : Int32), .ref 141]) (M' := M) okX9_next rfl ?_
          exact go_wk (CX9_next_294 hd (3 : Int32) M P k0 h) ⟨rfl, True.intro⟩
        · have h := gq_neg hp h
          refine go_rn 1 (pc' := 294) (L' := [some (.ref 141), none]) (S' := [.int (4 : Int32), .ref 141]) (M' := M) okX9_next rfl ?_
          exact go_wk (CX9_next_294 hd (4 : Int32) M P k0 h) ⟨rfl, True.intro⟩
      · have h := gq_neg hp h
        refine go_rn 2 (pc' := 205) (L' := [some (.ref 141), none]) (S' := [.int (2 : Int32), .ref 141]) (M' := M) okX9_next rfl ?_
        refine go_ck okX9_next rfl (gOb_c rfl) ?_
        exact go_wk (CX9_next_208h hd (gSI M 141 8 (2 : Int32)) P k0 h) ⟨rfl, True.intro⟩
    · have h := gq_neg hp h
      refine go_rn 2 (pc' := 97) (L' := [some (.ref 141), none]) (S' := [.int (1 : Int32), .ref 141]) (M' := M) okX9_next rfl ?_
      refine go_ck okX9_next rfl (gOb_c rfl) ?_
      refine go_rn 2 (pc' := 102) (L' := [some (.ref 141), some (.int (0 : Int32))]) (S' := []) (M' := (gSI M 141 8 (1 : Int32))) okX9_next rfl ?_
      exact go_wk (CX9_next_102h hd (0 : Int32) (gSI M 141 8 (1 : Int32)) P k0 h) ⟨rfl, rfl, True.intro⟩
def fX9_next_58 (s0 : Int64) (M : gMem) : Option (gMem) :=
  fX9_next_62 (gSJ M 141 11 s0)
set_option maxRecDepth 100000 in
theorem CX9_next_58 {G : gG} {d : Nat} {Z : Option Value → gMem → Prop} (hd : 1 ≤ d) (s0 : Int64) (M : gMem) (P : gMem → Prop) (k0 : ∀ (N : gMem), P N → Z none N) (h : gOKq (fX9_next_58 s0 M) P) : gGo G YX9_next d Z 58 [some (.ref 141), none] [.long s0, .ref 141] M := by
  unfold fX9_next_58 at h
  refine go_ck okX9_next rfl (gOb_c rfl) ?_
  refine go_rn 1 (pc' := 62) (L' := [some (.ref 141), none]) (S' := [.ref 141]) (M' := (gSJ M 141 11 s0)) okX9_next rfl ?_
  exact go_wk (CX9_next_62 hd (gSJ M 141 11 s0) P k0 h) ⟨rfl, True.intro⟩
def fX9_next_53 (s0 : Int32) (M : gMem) : Option (gMem) :=
  fX9_next_58 (0 : Int64) (gSI M 141 10 s0)
set_option maxRecDepth 100000 in
theorem CX9_next_53 {G : gG} {d : Nat} {Z : Option Value → gMem → Prop} (hd : 1 ≤ d) (s0 : Int32) (M : gMem) (P : gMem → Prop) (k0 : ∀ (N : gMem), P N → Z none N) (h : gOKq (fX9_next_53 s0 M) P) : gGo G YX9_next d Z 53 [some (.ref 141), none] [.int s0, .ref 141] M := by
  unfold fX9_next_53 at h
  refine go_ck okX9_next rfl (gOb_c rfl) ?_
  refine go_rn 2 (pc' := 58) (L' := [some (.ref 141), none]) (S' := [.long (0 : Int64), .ref 141]) (M' := (gSI M 141 10 s0)) okX9_next rfl ?_
  exact go_wk (CX9_next_58 hd (0 : Int64) (gSI M 141 10 s0) P k0 h) ⟨rfl, True.intro⟩
def fX9_next_30 (M : gMem) : Option (Sum (gMem) (gMem)) :=
  some (.inl ((gSI M 141 7 ((M.1 141 7) + (1 : Int32)))))
set_option maxRecDepth 100000 in
theorem CX9_next_30 {G : gG} {d : Nat} {Z : Option Value → gMem → Prop} (hd : 1 ≤ d) (M : gMem) (P : Sum (gMem) (gMem) → Prop) (k0 : ∀ (N : gMem), P (.inr N) → Z none N) (k1 : ∀ (M : gMem), P (.inl (M)) → gGo G YX9_next d Z 0 [some (.ref 141), none] [] M) (h : gOKq (fX9_next_30 M) P) : gGo G YX9_next d Z 30 [some (.ref 141), none] [] M := by
  unfold fX9_next_30 at h
  refine go_rn 2 (pc' := 32) (L' := [some (.ref 141), none]) (S' := [.ref 141, .ref 141]) (M' := M) okX9_next rfl ?_
  refine go_ck okX9_next rfl (gOb_c rfl) ?_
  refine go_rn 2 (pc' := 37) (L' := [some (.ref 141), none]) (S' := [.int ((M.1 141 7) + (1 : Int32)), .ref 141]) (M' := M) okX9_next rfl ?_
  refine go_ck okX9_next rfl (gOb_c rfl) ?_
  refine go_rn 1 (pc' := 0) (L' := [some (.ref 141), none]) (S' := []) (M' := (gSI M 141 7 ((M.1 141 7) + (1 : Int32)))) okX9_next rfl ?_
  exact go_wk (k1 (gSI M 141 7 ((M.1 141 7) + (1 : Int32))) h) ⟨rfl, True.intro⟩
def fX9_next_0 (M : gMem) : Option (Sum (gMem) (gMem)) :=
  gB0 (fX9_isByte (M.1 141 7) (32 : Int32) (32 : Int32) M) (fun r1 => if r1 = 0 then gB0 (fX9_isByte (M.1 141 7) (10 : Int32) (10 : Int32) M) (fun r3 => if r3 = 0 then gEx (fX9_next_53 (0 : Int32) (gSI M 141 9 (M.1 141 7))) else fX9_next_30 M) else fX9_next_30 M)
set_option maxRecDepth 100000 in
theorem CX9_next_0 {G : gG} {d : Nat} {Z : Option Value → gMem → Prop} (hd : 1 ≤ d) (M : gMem) (P : Sum (gMem) (gMem) → Prop) (k0 : ∀ (N : gMem), P (.inr N) → Z none N) (k1 : ∀ (M : gMem), P (.inl (M)) → gGo G YX9_next d Z 0 [some (.ref 141), none] [] M) (h : gOKq (fX9_next_0 M) P) : gGo G YX9_next d Z 0 [some (.ref 141), none] [] M := by
  unfold fX9_next_0 at h
  refine go_rn 2 (pc' := 2) (L' := [some (.ref 141), none]) (S' := [.ref 141, .ref 141]) (M' := M) okX9_next rfl ?_
  refine go_ck okX9_next rfl (gOb_c rfl) ?_
  refine go_rn 2 (pc' := 9) (L' := [some (.ref 141), none]) (S' := [.int (32 : Int32), .int (32 : Int32), .int (M.1 141 7), .ref 141]) (M' := M) okX9_next rfl ?_
  obtain ⟨r1, e2, h⟩ := gB0_ok h
  refine go_call1 ocX9_next rfl rfl (gOb_c rfl) rfl (SX9_isByte (M.1 141 7) (32 : Int32) (32 : Int32) M e2) (Nat.lt_of_lt_of_le (by decide) hd) ?_
  refine go_br okX9_next rfl (fun hp => ?_) (fun hp => ?_)
  · have h := gq_pos hp h
    refine go_rn 2 (pc' := 17) (L' := [some (.ref 141), none]) (S' := [.ref 141, .ref 141]) (M' := M) okX9_next rfl ?_
    refine go_ck okX9_next rfl (gOb_c rfl) ?_
    refine go_rn 2 (pc' := 24) (L' := [some (.ref 141), none]) (S' := [.int (10 : Int32), .int (10 : Int32), .int (M.1 141 7), .ref 141]) (M' := M) okX9_next rfl ?_
    obtain ⟨r3, e4, h⟩ := gB0_ok h
    refine go_call1 ocX9_next rfl rfl (gOb_c rfl) rfl (SX9_isByte (M.1 141 7) (10 : Int32) (10 : Int32) M e4) (Nat.lt_of_lt_of_le (by decide) hd) ?_
    refine go_br okX9_next rfl (fun hp => ?_) (fun hp => ?_)
    · have h := gq_pos hp h
      refine go_rn 2 (pc' := 45) (L' := [some (.ref 141), none]) (S' := [.ref 141, .ref 141]) (M' := M) okX9_next rfl ?_
      refine go_ck okX9_next rfl (gOb_c rfl) ?_
      refine go_ck okX9_next rfl (gOb_c rfl) ?_
      refine go_rn 2 (pc' := 53) (L' := [some (.ref 141), none]) (S' := [.int (0 : Int32), .ref 141]) (M' := (gSI M 141 9 (M.1 141 7))) okX9_next rfl ?_
      exact go_wk (CX9_next_53 hd (0 : Int32) (gSI M 141 9 (M.1 141 7)) (fun q => P (.inr q)) k0 (gEx_ok h)) ⟨rfl, True.intro⟩
    · have h := gq_neg hp h
      exact go_wk (CX9_next_30 hd M P k0 k1 h) ⟨rfl, True.intro⟩
  · have h := gq_neg hp h
    exact go_wk (CX9_next_30 hd M P k0 k1 h) ⟨rfl, True.intro⟩
def fX9_next_0h (M : gMem) : Option (gMem) :=
  gLp (fun s : gMem => fX9_next_0 s) gFu (M)
set_option maxRecDepth 100000 in
theorem CX9_next_0h {G : gG} {d : Nat} {Z : Option Value → gMem → Prop} (hd : 1 ≤ d) (M : gMem) (P : gMem → Prop) (k0 : ∀ (N : gMem), P N → Z none N) (h : gOKq (fX9_next_0h M) P) : gGo G YX9_next d Z 0 [some (.ref 141), none] [] M :=
  gLp_go (K := fun s : gMem => gGo G YX9_next d Z 0 [some (.ref 141), none] [] s) (P := P) (fun s hs => CX9_next_0 hd s (Sum.elim (fun s : gMem => gGo G YX9_next d Z 0 [some (.ref 141), none] [] s) P) k0 (fun M hh => hh) hs) gFu (M) h
def fX9_next (M : gMem) : Option (gMem) := fX9_next_0h M
theorem SX9_next {G : gG} (M : gMem) {N : gMem} (h : fX9_next M = some N) : gRun G YX9_next 1 [.ref 141] M (fun r' N' => r' = none ∧ N' = N) := gRun_in (by decide +kernel) rfl (fun d hd => go_wk (CX9_next_0h hd M (fun p => p = N) (fun N hh => ⟨rfl, hh⟩) (gq_of h)) ⟨rfl, True.intro⟩)
def fX9_isGood_0 (M : gMem) : Option (Int32) :=
  if (M.1 141 12) = 0 then some (1 : Int32) else some (0 : Int32)
set_option maxRecDepth 100000 in
theorem CX9_isGood_0 {G : gG} {d : Nat} {Z : Option Value → gMem → Prop} (hd : 0 ≤ d) (M : gMem) (P : Int32 → Prop) (k0 : ∀ (r : Int32), P r → Z (some (.int r)) M) (h : gOKq (fX9_isGood_0 M) P) : gGo G YX9_isGood d Z 0 [some (.ref 141)] [] M := by
  unfold fX9_isGood_0 at h
  refine go_rn 1 (pc' := 1) (L' := [some (.ref 141)]) (S' := [.ref 141]) (M' := M) okX9_isGood rfl ?_
  refine go_ck okX9_isGood rfl (gOb_c rfl) ?_
  refine go_br okX9_isGood rfl (fun hp => ?_) (fun hp => ?_)
  · have h := gq_pos hp h
    refine go_rn 2 (pc' := 12) (L' := [some (.ref 141)]) (S' := [.int (1 : Int32)]) (M' := M) okX9_isGood rfl ?_
    exact go_zret (reX9_isGood _ (by decide)) rfl (Or.inr rfl) (k0 (1 : Int32) h)
  · have h := gq_neg hp h
    refine go_rn 1 (pc' := 12) (L' := [some (.ref 141)]) (S' := [.int (0 : Int32)]) (M' := M) okX9_isGood rfl ?_
    exact go_zret (reX9_isGood _ (by decide)) rfl (Or.inl rfl) (k0 (0 : Int32) h)
def fX9_isGood (M : gMem) : Option (Int32) := fX9_isGood_0 M
theorem SX9_isGood {G : gG} (M : gMem) {r : Int32} (h : fX9_isGood M = some r) : gRun G YX9_isGood 0 [.ref 141] M (fun r' N' => r' = some (.int r) ∧ N' = M) := gRun_in (by decide +kernel) rfl (fun d hd => go_wk (CX9_isGood_0 hd M (fun p => p = r) (fun r hh => ⟨congrArg (fun z => some (Value.int z)) hh, rfl⟩) (gq_of h)) ⟨rfl, True.intro⟩)
def fX9_errs_15 (M : gMem) : Option (gMem) :=
  some (gSI M 141 13 (M.1 141 9))
set_option maxRecDepth 100000 in
theorem CX9_errs_15 {G : gG} {d : Nat} {Z : Option Value → gMem → Prop} (hd : 0 ≤ d) (M : gMem) (P : gMem → Prop) (k0 : ∀ (N : gMem), P N → Z none N) (h : gOKq (fX9_errs_15 M) P) : gGo G YX9_errs d Z 15 [none, none] [.ref 141, .ref 141] M := by
  unfold fX9_errs_15 at h
  refine go_ck okX9_errs rfl (gOb_c rfl) ?_
  refine go_ck okX9_errs rfl (gOb_c rfl) ?_
  exact go_vret (reX9_errs _ (by decide)) rfl (k0 (gSI M 141 13 (M.1 141 9)) h)
def fX9_errs_0 (x1 : Int32) (M : gMem) : Option (gMem) :=
  if (M.1 141 12) = 0 then fX9_errs_15 (gSI M 141 12 x1) else some M
set_option maxRecDepth 100000 in
theorem CX9_errs_0 {G : gG} {d : Nat} {Z : Option Value → gMem → Prop} (hd : 0 ≤ d) (x1 : Int32) (M : gMem) (P : gMem → Prop) (k0 : ∀ (N : gMem), P N → Z none N) (h : gOKq (fX9_errs_0 x1 M) P) : gGo G YX9_errs d Z 0 [some (.ref 141), some (.int x1)] [] M := by
  unfold fX9_errs_0 at h
  refine go_rn 1 (pc' := 1) (L' := [some (.ref 141), some (.int x1)]) (S' := [.ref 141]) (M' := M) okX9_errs rfl ?_
  refine go_ck okX9_errs rfl (gOb_c rfl) ?_
  refine go_br okX9_errs rfl (fun hp => ?_) (fun hp => ?_)
  · have h := gq_pos hp h
    refine go_rn 2 (pc' := 10) (L' := [some (.ref 141), some (.int x1)]) (S' := [.int x1, .ref 141]) (M' := M) okX9_errs rfl ?_
    refine go_ck okX9_errs rfl (gOb_c rfl) ?_
    refine go_rn 2 (pc' := 15) (L' := [some (.ref 141), some (.int x1)]) (S' := [.ref 141, .ref 141]) (M' := (gSI M 141 12 x1)) okX9_errs rfl ?_
    exact go_wk (CX9_errs_15 hd (gSI M 141 12 x1) P k0 h) True.intro
  · have h := gq_neg hp h
    exact go_vret (reX9_errs _ (by decide)) rfl (k0 M h)
def fX9_errs (a1 : Int32) (M : gMem) : Option (gMem) := fX9_errs_0 a1 M
theorem SX9_errs {G : gG} (a1 : Int32) (M : gMem) {N : gMem} (h : fX9_errs a1 M = some N) : gRun G YX9_errs 0 [.ref 141, .int a1] M (fun r' N' => r' = none ∧ N' = N) := gRun_in (by decide +kernel) rfl (fun d hd => go_wk (CX9_errs_0 hd a1 M (fun p => p = N) (fun N hh => ⟨rfl, hh⟩) (gq_of h)) ⟨rfl, rfl, True.intro⟩)
def fX9_is_0 (x1 : Int64) (M : gMem) : Option (Int32) :=
  if (M.1 141 12) = 0 then if (M.1 141 8) = (1 : Int32) then if (lg_cmp (M.2.1 141 11) x1) = 0 then some (1 : Int32) else some (0 : Int32) else some (0 : Int32) else some (0 : Int32)
set_option maxRecDepth 100000 in
theorem CX9_is_0 {G : gG} {d : Nat} {Z : Option Value → gMem → Prop} (hd : 0 ≤ d) (x1 : Int64) (M : gMem) (P : Int32 → Prop) (k0 : ∀ (r : Int32), P r → Z (some (.int r)) M) (h : gOKq (fX9_is_0 x1 M) P) : gGo G YX9_is d Z 0 [some (.ref 141), some (.long x1), none] [] M := by
  unfold fX9_is_0 at h
  refine go_rn 1 (pc' := 1) (L' := [some (.ref 141), some (.long x1), none]) (S' := [.ref 141]) (M' := M) okX9_is rfl ?_
  refine go_ck okX9_is rfl (gOb_c rfl) ?_
  refine go_br okX9_is rfl (fun hp => ?_) (fun hp => ?_)
  · have h := gq_pos hp h
    refine go_rn 1 (pc' := 8) (L' := [some (.ref 141), some (.long x1), none]) (S' := [.ref 141]) (M' := M) okX9_is rfl ?_
    refine go_ck okX9_is rfl (gOb_c rfl) ?_
    refine go_rn 1 (pc' := 12) (L' := [some (.ref 141), some (.long x1), none]) (S' := [.int (1 : Int32), .int (M.1 141 8)]) (M' := M) okX9_is rfl ?_
    refine go_br okX9_is rfl (fun hp => ?_) (fun hp => ?_)
    · have h := gq_pos hp h
      refine go_rn 1 (pc' := 16) (L' := [some (.ref 141), some (.long x1), none]) (S' := [.ref 141]) (M' := M) okX9_is rfl ?_
      refine go_ck okX9_is rfl (gOb_c rfl) ?_
      refine go_rn 2 (pc' := 21) (L' := [some (.ref 141), some (.long x1), none]) (S' := [.int (lg_cmp (M.2.1 141 11) x1)]) (M' := M) okX9_is rfl ?_
      refine go_br okX9_is rfl (fun hp => ?_) (fun hp => ?_)
      · have h := gq_pos hp h
        refine go_rn 2 (pc' := 29) (L' := [some (.ref 141), some (.long x1), none]) (S' := [.int (1 : Int32)]) (M' := M) okX9_is rfl ?_
        exact go_zret (reX9_is _ (by decide)) rfl (Or.inr rfl) (k0 (1 : Int32) h)
      · have h := gq_neg hp h
        refine go_rn 1 (pc' := 29) (L' := [some (.ref 141), some (.long x1), none]) (S' := [.int (0 : Int32)]) (M' := M) okX9_is rfl ?_
        exact go_zret (reX9_is _ (by decide)) rfl (Or.inl rfl) (k0 (0 : Int32) h)
    · have h := gq_neg hp h
      refine go_rn 1 (pc' := 29) (L' := [some (.ref 141), some (.long x1), none]) (S' := [.int (0 : Int32)]) (M' := M) okX9_is rfl ?_
      exact go_zret (reX9_is _ (by decide)) rfl (Or.inl rfl) (k0 (0 : Int32) h)
  · have h := gq_neg hp h
    refine go_rn 1 (pc' := 29) (L' := [some (.ref 141), some (.long x1), none]) (S' := [.int (0 : Int32)]) (M' := M) okX9_is rfl ?_
    exact go_zret (reX9_is _ (by decide)) rfl (Or.inl rfl) (k0 (0 : Int32) h)
def fX9_is (a1 : Int64) (M : gMem) : Option (Int32) := fX9_is_0 a1 M
theorem SX9_is {G : gG} (a1 : Int64) (M : gMem) {r : Int32} (h : fX9_is a1 M = some r) : gRun G YX9_is 0 [.ref 141, .long a1] M (fun r' N' => r' = some (.int r) ∧ N' = M) := gRun_in (by decide +kernel) rfl (fun d hd => go_wk (CX9_is_0 hd a1 M (fun p => p = r) (fun r hh => ⟨congrArg (fun z => some (Value.int z)) hh, rfl⟩) (gq_of h)) ⟨rfl, rfl, True.intro⟩)
def fX9_takes_0 (x1 : Int64) (M : gMem) : Option (Int32 × gMem) :=
  gB0 (fX9_is x1 M) (fun r1 => if r1 = 0 then some ((0 : Int32), M) else gB0 (fX9_next M) (fun M3 => some ((1 : Int32), M3)))
set_option maxRecDepth 100000 in
theorem CX9_takes_0 {G : gG} {d : Nat} {Z : Option Value → gMem → Prop} (hd : 2 ≤ d) (x1 : Int64) (M : gMem) (P : Int32 × gMem → Prop) (k0 : ∀ (r : Int32) (N : gMem), P (r, N) → Z (some (.int r)) N) (h : gOKq (fX9_takes_0 x1 M) P) : gGo G YX9_takes d Z 0 [some (.ref 141), some (.long x1), none] [] M := by
  unfold fX9_takes_0 at h
  refine go_rn 2 (pc' := 2) (L' := [some (.ref 141), some (.long x1), none]) (S' := [.long x1, .ref 141]) (M' := M) okX9_takes rfl ?_
  obtain ⟨r1, e2, h⟩ := gB0_ok h
  refine go_call1 ocX9_takes rfl rfl (gOb_c rfl) rfl (SX9_is x1 M e2) (Nat.lt_of_lt_of_le (by decide) hd) ?_
  refine go_br okX9_takes rfl (fun hp => ?_) (fun hp => ?_)
  · have h := gq_pos hp h
    refine go_rn 1 (pc' := 9) (L' := [some (.ref 141), some (.long x1), none]) (S' := [.int (0 : Int32)]) (M' := M) okX9_takes rfl ?_
    exact go_zret (reX9_takes _ (by decide)) rfl (Or.inl rfl) (k0 (0 : Int32) M h)
  · have h := gq_neg hp h
    refine go_rn 1 (pc' := 11) (L' := [some (.ref 141), some (.long x1), none]) (S' := [.ref 141]) (M' := M) okX9_takes rfl ?_
    obtain ⟨M3, e4, h⟩ := gB0_ok h
    refine go_call1 ocX9_takes rfl rfl (gOb_c rfl) rfl (SX9_next M e4) (Nat.lt_of_lt_of_le (by decide) hd) ?_
    refine go_rn 1 (pc' := 15) (L' := [some (.ref 141), some (.long x1), none]) (S' := [.int (1 : Int32)]) (M' := M3) okX9_takes rfl ?_
    exact go_zret (reX9_takes _ (by decide)) rfl (Or.inr rfl) (k0 (1 : Int32) M3 h)
def fX9_takes (a1 : Int64) (M : gMem) : Option (Int32 × gMem) := fX9_takes_0 a1 M
theorem SX9_takes {G : gG} (a1 : Int64) (M : gMem) {r : Int32} {N : gMem} (h : fX9_takes a1 M = some (r, N)) : gRun G YX9_takes 2 [.ref 141, .long a1] M (fun r' N' => r' = some (.int r) ∧ N' = N) := gRun_in (by decide +kernel) rfl (fun d hd => go_wk (CX9_takes_0 hd a1 M (fun p => p = (r, N)) (fun r N hh => by cases hh; exact ⟨rfl, rfl⟩) (gq_of h)) ⟨rfl, rfl, True.intro⟩)
def fX9_asks_0 (x1 : Int64) (M : gMem) : Option (gMem) :=
  gBp (fX9_takes x1 M) (fun r1 M2 => if r1 = 0 then gB0 (fX9_errs (1 : Int32) M2) (fun M4 => some M4) else some M2)
set_option maxRecDepth 100000 in
theorem CX9_asks_0 {G : gG} {d : Nat} {Z : Option Value → gMem → Prop} (hd : 3 ≤ d) (x1 : Int64) (M : gMem) (P : gMem → Prop) (k0 : ∀ (N : gMem), P N → Z none N) (h : gOKq (fX9_asks_0 x1 M) P) : gGo G YX9_asks d Z 0 [some (.ref 141), some (.long x1), none] [] M := by
  unfold fX9_asks_0 at h
  refine go_rn 2 (pc' := 2) (L' := [some (.ref 141), some (.long x1), none]) (S' := [.long x1, .ref 141]) (M' := M) okX9_asks rfl ?_
  obtain ⟨r1, M2, e3, h⟩ := gBp_ok h
  refine go_call1 ocX9_asks rfl rfl (gOb_c rfl) rfl (SX9_takes x1 M e3) (Nat.lt_of_lt_of_le (by decide) hd) ?_
  refine go_br okX9_asks rfl (fun hp => ?_) (fun hp => ?_)
  · have h := gq_pos hp h
    refine go_rn 2 (pc' := 10) (L' := [some (.ref 141), some (.long x1), none]) (S' := [.int (1 : Int32), .ref 141]) (M' := M2) okX9_asks rfl ?_
    obtain ⟨M4, e5, h⟩ := gB0_ok h
    refine go_call1 ocX9_asks rfl rfl (gOb_c rfl) rfl (SX9_errs (1 : Int32) M2 e5) (Nat.lt_of_lt_of_le (by decide) hd) ?_
    exact go_vret (reX9_asks _ (by decide)) rfl (k0 M4 h)
  · have h := gq_neg hp h
    exact go_vret (reX9_asks _ (by decide)) rfl (k0 M2 h)
def fX9_asks (a1 : Int64) (M : gMem) : Option (gMem) := fX9_asks_0 a1 M
theorem SX9_asks {G : gG} (a1 : Int64) (M : gMem) {N : gMem} (h : fX9_asks a1 M = some N) : gRun G YX9_asks 3 [.ref 141, .long a1] M (fun r' N' => r' = none ∧ N' = N) := gRun_in (by decide +kernel) rfl (fun d hd => go_wk (CX9_asks_0 hd a1 M (fun p => p = N) (fun N hh => ⟨rfl, hh⟩) (gq_of h)) ⟨rfl, rfl, True.intro⟩)
def fX9_number_0 (x1 : Int32) (x2 : Int32) (M : gMem) : Option (Int32 × gMem) :=
  if (M.1 141 12) = 0 then if (M.1 141 8) = (2 : Int32) then gB0 (fX9_in (Int32.toInt64 (M.1 141 10)) (Int32.toInt64 x1) (Int32.toInt64 x2) M) (fun r1 => if r1 = 0 then gB0 (fX9_errs (2 : Int32) M) (fun M3 => some (x1, M3)) else gB0 (fX9_next M) (fun M5 => some ((M.1 141 10), M5))) else gB0 (fX9_errs (1 : Int32) M) (fun M7 => some (x1, M7)) else some (x1, M)
set_option maxRecDepth 100000 in
theorem CX9_number_0 {G : gG} {d : Nat} {Z : Option Value → gMem → Prop} (hd : 2 ≤ d) (x1 : Int32) (x2 : Int32) (M : gMem) (P : Int32 × gMem → Prop) (k0 : ∀ (r : Int32) (N : gMem), P (r, N) → Z (some (.int r)) N) (h : gOKq (fX9_number_0 x1 x2 M) P) : gGo G YX9_number d Z 0 [some (.ref 141), some (.int x1), some (.int x2), none] [] M := by
  unfold fX9_number_0 at h
  refine go_rn 1 (pc' := 1) (L' := [some (.ref 141), some (.int x1), some (.int x2), none]) (S' := [.ref 141]) (M' := M) okX9_number rfl ?_
  refine go_ck okX9_number rfl (gOb_c rfl) ?_
  refine go_br okX9_number rfl (fun hp => ?_) (fun hp => ?_)
  · have h := gq_pos hp h
    refine go_rn 1 (pc' := 10) (L' := [some (.ref 141), some (.int x1), some (.int x2), none]) (S' := [.ref 141]) (M' := M) okX9_number rfl ?_
    refine go_ck okX9_number rfl (gOb_c rfl) ?_
    refine go_rn 1 (pc' := 14) (L' := [some (.ref 141), some (.int x1), some (.int x2), none]) (S' := [.int (2 : Int32), .int (M.1 141 8)]) (M' := M) okX9_number rfl ?_
    refine go_br okX9_number rfl (fun hp => ?_) (fun hp => ?_)
    · have h := gq_pos hp h
      refine go_rn 1 (pc' := 25) (L' := [some (.ref 141), some (.int x1), some (.int x2), none]) (S' := [.ref 141]) (M' := M) okX9_number rfl ?_
      refine go_ck okX9_number rfl (gOb_c rfl) ?_
      refine go_rn 5 (pc' := 33) (L' := [some (.ref 141), some (.int x1), some (.int x2), none]) (S' := [.long (Int32.toInt64 x2), .long (Int32.toInt64 x1), .long (Int32.toInt64 (M.1 141 10))]) (M' := M) okX9_number rfl ?_
      obtain ⟨r1, e2, h⟩ := gB0_ok h
      refine go_call1 ocX9_number rfl rfl rfl rfl (SX9_in (Int32.toInt64 (M.1 141 10)) (Int32.toInt64 x1) (Int32.toInt64 x2) M e2) (Nat.lt_of_lt_of_le (by decide) hd) ?_
      refine go_br okX9_number rfl (fun hp => ?_) (fun hp => ?_)
      · have h := gq_pos hp h
        refine go_rn 2 (pc' := 41) (L' := [some (.ref 141), some (.int x1), some (.int x2), none]) (S' := [.int (2 : Int32), .ref 141]) (M' := M) okX9_number rfl ?_
        obtain ⟨M3, e4, h⟩ := gB0_ok h
        refine go_call1 ocX9_number rfl rfl (gOb_c rfl) rfl (SX9_errs (2 : Int32) M e4) (Nat.lt_of_lt_of_le (by decide) hd) ?_
        refine go_rn 1 (pc' := 45) (L' := [some (.ref 141), some (.int x1), some (.int x2), none]) (S' := [.int x1]) (M' := M3) okX9_number rfl ?_
        exact go_iret (reX9_number _ (by decide)) rfl (k0 x1 M3 h)
      · have h := gq_neg hp h
        refine go_rn 1 (pc' := 47) (L' := [some (.ref 141), some (.int x1), some (.int x2), none]) (S' := [.ref 141]) (M' := M) okX9_number rfl ?_
        refine go_ck okX9_number rfl (gOb_c rfl) ?_
        refine go_rn 2 (pc' := 52) (L' := [some (.ref 141), some (.int x1), some (.int x2), some (.int (M.1 141 10))]) (S' := [.ref 141]) (M' := M) okX9_number rfl ?_
        obtain ⟨M5, e6, h⟩ := gB0_ok h
        refine go_call1 ocX9_number rfl rfl (gOb_c rfl) rfl (SX9_next M e6) (Nat.lt_of_lt_of_le (by decide) hd) ?_
        refine go_rn 1 (pc' := 56) (L' := [some (.ref 141), some (.int x1), some (.int x2), some (.int (M.1 141 10))]) (S' := [.int (M.1 141 10)]) (M' := M5) okX9_number rfl ?_
        exact go_iret (reX9_number _ (by decide)) rfl (k0 (M.1 141 10) M5 h)
    · have h := gq_neg hp h
      refine go_rn 2 (pc' := 19) (L' := [some (.ref 141), some (.int x1), some (.int x2), none]) (S' := [.int (1 : Int32), .ref 141]) (M' := M) okX9_number rfl ?_
      obtain ⟨M7, e8, h⟩ := gB0_ok h
      refine go_call1 ocX9_number rfl rfl (gOb_c rfl) rfl (SX9_errs (1 : Int32) M e8) (Nat.lt_of_lt_of_le (by decide) hd) ?_
      refine go_rn 1 (pc' := 23) (L' := [some (.ref 141), some (.int x1), some (.int x2), none]) (S' := [.int x1]) (M' := M7) okX9_number rfl ?_
      exact go_iret (reX9_number _ (by decide)) rfl (k0 x1 M7 h)
  · have h := gq_neg hp h
    refine go_rn 1 (pc' := 8) (L' := [some (.ref 141), some (.int x1), some (.int x2), none]) (S' := [.int x1]) (M' := M) okX9_number rfl ?_
    exact go_iret (reX9_number _ (by decide)) rfl (k0 x1 M h)
def fX9_number (a1 : Int32) (a2 : Int32) (M : gMem) : Option (Int32 × gMem) := fX9_number_0 a1 a2 M
theorem SX9_number {G : gG} (a1 : Int32) (a2 : Int32) (M : gMem) {r : Int32} {N : gMem} (h : fX9_number a1 a2 M = some (r, N)) : gRun G YX9_number 2 [.ref 141, .int a1, .int a2] M (fun r' N' => r' = some (.int r) ∧ N' = N) := gRun_in (by decide +kernel) rfl (fun d hd => go_wk (CX9_number_0 hd a1 a2 M (fun p => p = (r, N)) (fun r N hh => by cases hh; exact ⟨rfl, rfl⟩) (gq_of h)) ⟨rfl, rfl, rfl, True.intro⟩)
def fX9_number__0 (x1 : Int64) (x3 : Int32) (x4 : Int32) (M : gMem) : Option (Int32 × gMem) :=
  gB0 (fX9_asks x1 M) (fun M1 => gBp (fX9_number x3 x4 M1) (fun r3 M4 => some (r3, M4)))
set_option maxRecDepth 100000 in
theorem CX9_number__0 {G : gG} {d : Nat} {Z : Option Value → gMem → Prop} (hd : 4 ≤ d) (x1 : Int64) (x3 : Int32) (x4 : Int32) (M : gMem) (P : Int32 × gMem → Prop) (k0 : ∀ (r : Int32) (N : gMem), P (r, N) → Z (some (.int r)) N) (h : gOKq (fX9_number__0 x1 x3 x4 M) P) : gGo G YX9_number_ d Z 0 [some (.ref 141), some (.long x1), none, some (.int x3), some (.int x4)] [] M := by
  unfold fX9_number__0 at h
  refine go_rn 2 (pc' := 2) (L' := [some (.ref 141), some (.long x1), none, some (.int x3), some (.int x4)]) (S' := [.long x1, .ref 141]) (M' := M) okX9_number_ rfl ?_
  obtain ⟨M1, e2, h⟩ := gB0_ok h
  refine go_call1 ocX9_number_ rfl rfl (gOb_c rfl) rfl (SX9_asks x1 M e2) (Nat.lt_of_lt_of_le (by decide) hd) ?_
  refine go_rn 3 (pc' := 9) (L' := [some (.ref 141), some (.long x1), none, some (.int x3), some (.int x4)]) (S' := [.int x4, .int x3, .ref 141]) (M' := M1) okX9_number_ rfl ?_
  obtain ⟨r3, M4, e5, h⟩ := gBp_ok h
  refine go_call1 ocX9_number_ rfl rfl (gOb_c rfl) rfl (SX9_number x3 x4 M1 e5) (Nat.lt_of_lt_of_le (by decide) hd) ?_
  exact go_iret (reX9_number_ _ (by decide)) rfl (k0 r3 M4 h)
def fX9_number_ (a1 : Int64) (a2 : Int32) (a3 : Int32) (M : gMem) : Option (Int32 × gMem) := fX9_number__0 a1 a2 a3 M
theorem SX9_number_ {G : gG} (a1 : Int64) (a2 : Int32) (a3 : Int32) (M : gMem) {r : Int32} {N : gMem} (h : fX9_number_ a1 a2 a3 M = some (r, N)) : gRun G YX9_number_ 4 [.ref 141, .long a1, .int a2, .int a3] M (fun r' N' => r' = some (.int r) ∧ N' = N) := gRun_in (by decide +kernel) rfl (fun d hd => go_wk (CX9_number__0 hd a1 a2 a3 M (fun p => p = (r, N)) (fun r N hh => by cases hh; exact ⟨rfl, rfl⟩) (gq_of h)) ⟨rfl, rfl, rfl, rfl, True.intro⟩)
def fX9_ends_13 (M : gMem) : Option (gMem) :=
  if (M.1 141 12) = 0 then gB0 (fX9_next M) (fun M1 => some M1) else some M
set_option maxRecDepth 100000 in
theorem CX9_ends_13 {G : gG} {d : Nat} {Z : Option Value → gMem → Prop} (hd : 2 ≤ d) (M : gMem) (P : gMem → Prop) (k0 : ∀ (N : gMem), P N → Z none N) (h : gOKq (fX9_ends_13 M) P) : gGo G YX9_ends d Z 13 [some (.ref 141)] [] M := by
  unfold fX9_ends_13 at h
  refine go_rn 1 (pc' := 14) (L' := [some (.ref 141)]) (S' := [.ref 141]) (M' := M) okX9_ends rfl ?_
  refine go_ck okX9_ends rfl (gOb_c rfl) ?_
  refine go_br okX9_ends rfl (fun hp => ?_) (fun hp => ?_)
  · have h := gq_pos hp h
    refine go_rn 1 (pc' := 21) (L' := [some (.ref 141)]) (S' := [.ref 141]) (M' := M) okX9_ends rfl ?_
    obtain ⟨M1, e2, h⟩ := gB0_ok h
    refine go_call1 ocX9_ends rfl rfl (gOb_c rfl) rfl (SX9_next M e2) (Nat.lt_of_lt_of_le (by decide) hd) ?_
    exact go_vret (reX9_ends _ (by decide)) rfl (k0 M1 h)
  · have h := gq_neg hp h
    exact go_vret (reX9_ends _ (by decide)) rfl (k0 M h)
def fX9_ends_0 (M : gMem) : Option (gMem) :=
  if (M.1 141 8) = (3 : Int32) then fX9_ends_13 M else gB0 (fX9_errs (1 : Int32) M) (fun M1 => fX9_ends_13 M1)
set_option maxRecDepth 100000 in
theorem CX9_ends_0 {G : gG} {d : Nat} {Z : Option Value → gMem → Prop} (hd : 2 ≤ d) (M : gMem) (P : gMem → Prop) (k0 : ∀ (N : gMem), P N → Z none N) (h : gOKq (fX9_ends_0 M) P) : gGo G YX9_ends d Z 0 [some (.ref 141)] [] M := by
  unfold fX9_ends_0 at h
  refine go_rn 1 (pc' := 1) (L' := [some (.ref 141)]) (S' := [.ref 141]) (M' := M) okX9_ends rfl ?_
  refine go_ck okX9_ends rfl (gOb_c rfl) ?_
  refine go_rn 1 (pc' := 5) (L' := [some (.ref 141)]) (S' := [.int (3 : Int32), .int (M.1 141 8)]) (M' := M) okX9_ends rfl ?_
  refine go_br okX9_ends rfl (fun hp => ?_) (fun hp => ?_)
  · have h := gq_pos hp h
    exact go_wk (CX9_ends_13 hd M P k0 h) ⟨rfl, True.intro⟩
  · have h := gq_neg hp h
    refine go_rn 2 (pc' := 10) (L' := [some (.ref 141)]) (S' := [.int (1 : Int32), .ref 141]) (M' := M) okX9_ends rfl ?_
    obtain ⟨M1, e2, h⟩ := gB0_ok h
    refine go_call1 ocX9_ends rfl rfl (gOb_c rfl) rfl (SX9_errs (1 : Int32) M e2) (Nat.lt_of_lt_of_le (by decide) hd) ?_
    exact go_wk (CX9_ends_13 hd M1 P k0 h) ⟨rfl, True.intro⟩
def fX9_ends (M : gMem) : Option (gMem) := fX9_ends_0 M
theorem SX9_ends {G : gG} (M : gMem) {N : gMem} (h : fX9_ends M = some N) : gRun G YX9_ends 2 [.ref 141] M (fun r' N' => r' = none ∧ N' = N) := gRun_in (by decide +kernel) rfl (fun d hd => go_wk (CX9_ends_0 hd M (fun p => p = N) (fun N hh => ⟨rfl, hh⟩) (gq_of h)) ⟨rfl, True.intro⟩)
def fX9_begins_16 (M : gMem) : Option (gMem) :=
  gB0 (fX9_next M) (fun M1 => some M1)
set_option maxRecDepth 100000 in
theorem CX9_begins_16 {G : gG} {d : Nat} {Z : Option Value → gMem → Prop} (hd : 2 ≤ d) (M : gMem) (P : gMem → Prop) (k0 : ∀ (N : gMem), P N → Z none N) (h : gOKq (fX9_begins_16 M) P) : gGo G YX9_begins d Z 16 [none] [.ref 141] M := by
  unfold fX9_begins_16 at h
  obtain ⟨M1, e2, h⟩ := gB0_ok h
  refine go_call1 ocX9_begins rfl rfl (gOb_c rfl) rfl (SX9_next M e2) (Nat.lt_of_lt_of_le (by decide) hd) ?_
  exact go_vret (reX9_begins _ (by decide)) rfl (k0 M1 h)
def fX9_begins_12 (s0 : Int32) (M : gMem) : Option (gMem) :=
  fX9_begins_16 (gSI M 141 7 s0)
set_option maxRecDepth 100000 in
theorem CX9_begins_12 {G : gG} {d : Nat} {Z : Option Value → gMem → Prop} (hd : 2 ≤ d) (s0 : Int32) (M : gMem) (P : gMem → Prop) (k0 : ∀ (N : gMem), P N → Z none N) (h : gOKq (fX9_begins_12 s0 M) P) : gGo G YX9_begins d Z 12 [some (.ref 141)] [.int s0, .ref 141] M := by
  unfold fX9_begins_12 at h
  refine go_ck okX9_begins rfl (gOb_c rfl) ?_
  refine go_rn 1 (pc' := 16) (L' := [some (.ref 141)]) (S' := [.ref 141]) (M' := (gSI M 141 7 s0)) okX9_begins rfl ?_
  exact go_wk (CX9_begins_16 hd (gSI M 141 7 s0) P k0 h) True.intro
def fX9_begins_7 (s0 : Int32) (M : gMem) : Option (gMem) :=
  fX9_begins_12 (0 : Int32) (gSI M 141 13 s0)
set_option maxRecDepth 100000 in
theorem CX9_begins_7 {G : gG} {d : Nat} {Z : Option Value → gMem → Prop} (hd : 2 ≤ d) (s0 : Int32) (M : gMem) (P : gMem → Prop) (k0 : ∀ (N : gMem), P N → Z none N) (h : gOKq (fX9_begins_7 s0 M) P) : gGo G YX9_begins d Z 7 [some (.ref 141)] [.int s0, .ref 141] M := by
  unfold fX9_begins_7 at h
  refine go_ck okX9_begins rfl (gOb_c rfl) ?_
  refine go_rn 2 (pc' := 12) (L' := [some (.ref 141)]) (S' := [.int (0 : Int32), .ref 141]) (M' := (gSI M 141 13 s0)) okX9_begins rfl ?_
  exact go_wk (CX9_begins_12 hd (0 : Int32) (gSI M 141 13 s0) P k0 h) ⟨rfl, True.intro⟩
def fX9_begins_0 (M : gMem) : Option (gMem) :=
  fX9_begins_7 (-1 : Int32) (gSI M 141 12 (0 : Int32))
set_option maxRecDepth 100000 in
theorem CX9_begins_0 {G : gG} {d : Nat} {Z : Option Value → gMem → Prop} (hd : 2 ≤ d) (M : gMem) (P : gMem → Prop) (k0 : ∀ (N : gMem), P N → Z none N) (h : gOKq (fX9_begins_0 M) P) : gGo G YX9_begins d Z 0 [some (.ref 141)] [] M := by
  unfold fX9_begins_0 at h
  refine go_rn 2 (pc' := 2) (L' := [some (.ref 141)]) (S' := [.int (0 : Int32), .ref 141]) (M' := M) okX9_begins rfl ?_
  refine go_ck okX9_begins rfl (gOb_c rfl) ?_
  refine go_rn 2 (pc' := 7) (L' := [some (.ref 141)]) (S' := [.int (-1 : Int32), .ref 141]) (M' := (gSI M 141 12 (0 : Int32))) okX9_begins rfl ?_
  exact go_wk (CX9_begins_7 hd (-1 : Int32) (gSI M 141 12 (0 : Int32)) P k0 h) ⟨rfl, True.intro⟩
def fX9_begins (M : gMem) : Option (gMem) := fX9_begins_0 M
theorem SX9_begins {G : gG} (M : gMem) {N : gMem} (h : fX9_begins M = some N) : gRun G YX9_begins 2 [.ref 141] M (fun r' N' => r' = none ∧ N' = N) := gRun_in (by decide +kernel) rfl (fun d hd => go_wk (CX9_begins_0 hd M (fun p => p = N) (fun N hh => ⟨rfl, hh⟩) (gq_of h)) ⟨rfl, True.intro⟩)
def fX9_isOver_29 (s0 : Int32) (M : gMem) : Option (gMem) :=
  some (gSI M 141 15 s0)
set_option maxRecDepth 100000 in
theorem CX9_isOver_29 {G : gG} {d : Nat} {Z : Option Value → gMem → Prop} (hd : 0 ≤ d) (s0 : Int32) (M : gMem) (P : gMem → Prop) (k0 : ∀ (N : gMem), P N → Z none N) (h : gOKq (fX9_isOver_29 s0 M) P) : gGo G YX9_isOver d Z 29 [none] [.int s0, .ref 141] M := by
  unfold fX9_isOver_29 at h
  refine go_ck okX9_isOver rfl (gOb_c rfl) ?_
  exact go_vret (reX9_isOver _ (by decide)) rfl (k0 (gSI M 141 15 s0) h)
def fX9_isOver_15 (M : gMem) : Option (gMem) :=
  if (M.1 141 12) = 0 then fX9_isOver_29 (-1 : Int32) M else fX9_isOver_29 (M.1 141 13) M
set_option maxRecDepth 100000 in
theorem CX9_isOver_15 {G : gG} {d : Nat} {Z : Option Value → gMem → Prop} (hd : 0 ≤ d) (M : gMem) (P : gMem → Prop) (k0 : ∀ (N : gMem), P N → Z none N) (h : gOKq (fX9_isOver_15 M) P) : gGo G YX9_isOver d Z 15 [some (.ref 141)] [.ref 141, .ref 141] M := by
  unfold fX9_isOver_15 at h
  refine go_ck okX9_isOver rfl (gOb_c rfl) ?_
  refine go_br okX9_isOver rfl (fun hp => ?_) (fun hp => ?_)
  · have h := gq_pos hp h
    refine go_rn 2 (pc' := 29) (L' := [some (.ref 141)]) (S' := [.int (-1 : Int32), .ref 141]) (M' := M) okX9_isOver rfl ?_
    exact go_wk (CX9_isOver_29 hd (-1 : Int32) M P k0 h) True.intro
  · have h := gq_neg hp h
    refine go_rn 1 (pc' := 26) (L' := [some (.ref 141)]) (S' := [.ref 141, .ref 141]) (M' := M) okX9_isOver rfl ?_
    refine go_ck okX9_isOver rfl (gOb_c rfl) ?_
    exact go_wk (CX9_isOver_29 hd (M.1 141 13) M P k0 h) True.intro
def fX9_isOver_7 (M : gMem) : Option (gMem) :=
  fX9_isOver_15 (gSI M 141 14 (M.1 141 12))
set_option maxRecDepth 100000 in
theorem CX9_isOver_7 {G : gG} {d : Nat} {Z : Option Value → gMem → Prop} (hd : 0 ≤ d) (M : gMem) (P : gMem → Prop) (k0 : ∀ (N : gMem), P N → Z none N) (h : gOKq (fX9_isOver_7 M) P) : gGo G YX9_isOver d Z 7 [some (.ref 141)] [.ref 141, .ref 141] M := by
  unfold fX9_isOver_7 at h
  refine go_ck okX9_isOver rfl (gOb_c rfl) ?_
  refine go_ck okX9_isOver rfl (gOb_c rfl) ?_
  refine go_rn 2 (pc' := 15) (L' := [some (.ref 141)]) (S' := [.ref 141, .ref 141]) (M' := (gSI M 141 14 (M.1 141 12))) okX9_isOver rfl ?_
  exact go_wk (CX9_isOver_15 hd (gSI M 141 14 (M.1 141 12)) P k0 h) ⟨rfl, True.intro⟩
def fX9_isOver_0 (M : gMem) : Option (gMem) :=
  fX9_isOver_7 (gSI M 141 6 (0 : Int32))
set_option maxRecDepth 100000 in
theorem CX9_isOver_0 {G : gG} {d : Nat} {Z : Option Value → gMem → Prop} (hd : 0 ≤ d) (M : gMem) (P : gMem → Prop) (k0 : ∀ (N : gMem), P N → Z none N) (h : gOKq (fX9_isOver_0 M) P) : gGo G YX9_isOver d Z 0 [some (.ref 141)] [] M := by
  unfold fX9_isOver_0 at h
  refine go_rn 2 (pc' := 2) (L' := [some (.ref 141)]) (S' := [.int (0 : Int32), .ref 141]) (M' := M) okX9_isOver rfl ?_
  refine go_ck okX9_isOver rfl (gOb_c rfl) ?_
  refine go_rn 2 (pc' := 7) (L' := [some (.ref 141)]) (S' := [.ref 141, .ref 141]) (M' := (gSI M 141 6 (0 : Int32))) okX9_isOver rfl ?_
  exact go_wk (CX9_isOver_7 hd (gSI M 141 6 (0 : Int32)) P k0 h) ⟨rfl, True.intro⟩
def fX9_isOver (M : gMem) : Option (gMem) := fX9_isOver_0 M
theorem SX9_isOver {G : gG} (M : gMem) {N : gMem} (h : fX9_isOver M = some N) : gRun G YX9_isOver 0 [.ref 141] M (fun r' N' => r' = none ∧ N' = N) := gRun_in (by decide +kernel) rfl (fun d hd => go_wk (CX9_isOver_0 hd M (fun p => p = N) (fun N hh => ⟨rfl, hh⟩) (gq_of h)) ⟨rfl, True.intro⟩)
def fX9_fault_10 (M : gMem) : Option (Int32 × gMem) :=
  some ((M.1 141 14), M)
set_option maxRecDepth 100000 in
theorem CX9_fault_10 {G : gG} {d : Nat} {Z : Option Value → gMem → Prop} (hd : 0 ≤ d) (M : gMem) (P : Int32 × gMem → Prop) (k0 : ∀ (r : Int32) (N : gMem), P (r, N) → Z (some (.int r)) N) (h : gOKq (fX9_fault_10 M) P) : gGo G YX9_fault d Z 10 [none, none] [.ref 141] M := by
  unfold fX9_fault_10 at h
  refine go_ck okX9_fault rfl (gOb_c rfl) ?_
  refine go_rn 1 (pc' := 29) (L' := [none, none]) (S' := [.int (M.1 141 14)]) (M' := M) okX9_fault rfl ?_
  exact go_iret (reX9_fault _ (by decide)) rfl (k0 (M.1 141 14) M h)
def fX9_fault_22 (M : gMem) : Option (Int32 × gMem) :=
  some ((M.1 141 15), M)
set_option maxRecDepth 100000 in
theorem CX9_fault_22 {G : gG} {d : Nat} {Z : Option Value → gMem → Prop} (hd : 0 ≤ d) (M : gMem) (P : Int32 × gMem → Prop) (k0 : ∀ (r : Int32) (N : gMem), P (r, N) → Z (some (.int r)) N) (h : gOKq (fX9_fault_22 M) P) : gGo G YX9_fault d Z 22 [none, none] [.ref 141] M := by
  unfold fX9_fault_22 at h
  refine go_ck okX9_fault rfl (gOb_c rfl) ?_
  refine go_rn 1 (pc' := 29) (L' := [none, none]) (S' := [.int (M.1 141 15)]) (M' := M) okX9_fault rfl ?_
  exact go_iret (reX9_fault _ (by decide)) rfl (k0 (M.1 141 15) M h)
def fX9_fault_0 (x1 : Int32) (M : gMem) : Option (Int32 × gMem) :=
  if x1 = 0 then fX9_fault_10 (gSI M 141 0 (0 : Int32)) else if x1 = (1 : Int32) then fX9_fault_22 (gSI M 141 0 (0 : Int32)) else some ((-1 : Int32), (gSI M 141 0 (0 : Int32)))
set_option maxRecDepth 100000 in
theorem CX9_fault_0 {G : gG} {d : Nat} {Z : Option Value → gMem → Prop} (hd : 0 ≤ d) (x1 : Int32) (M : gMem) (P : Int32 × gMem → Prop) (k0 : ∀ (r : Int32) (N : gMem), P (r, N) → Z (some (.int r)) N) (h : gOKq (fX9_fault_0 x1 M) P) : gGo G YX9_fault d Z 0 [some (.ref 141), some (.int x1)] [] M := by
  unfold fX9_fault_0 at h
  refine go_rn 2 (pc' := 2) (L' := [some (.ref 141), some (.int x1)]) (S' := [.int (0 : Int32), .ref 141]) (M' := M) okX9_fault rfl ?_
  refine go_ck okX9_fault rfl (gOb_c rfl) ?_
  refine go_rn 1 (pc' := 6) (L' := [some (.ref 141), some (.int x1)]) (S' := [.int x1]) (M' := (gSI M 141 0 (0 : Int32))) okX9_fault rfl ?_
  refine go_br okX9_fault rfl (fun hp => ?_) (fun hp => ?_)
  · have h := gq_pos hp h
    refine go_rn 1 (pc' := 10) (L' := [some (.ref 141), some (.int x1)]) (S' := [.ref 141]) (M' := (gSI M 141 0 (0 : Int32))) okX9_fault rfl ?_
    exact go_wk (CX9_fault_10 hd (gSI M 141 0 (0 : Int32)) P k0 h) True.intro
  · have h := gq_neg hp h
    refine go_rn 2 (pc' := 18) (L' := [some (.ref 141), some (.int x1)]) (S' := [.int (1 : Int32), .int x1]) (M' := (gSI M 141 0 (0 : Int32))) okX9_fault rfl ?_
    refine go_br okX9_fault rfl (fun hp => ?_) (fun hp => ?_)
    · have h := gq_pos hp h
      refine go_rn 1 (pc' := 22) (L' := [some (.ref 141), some (.int x1)]) (S' := [.ref 141]) (M' := (gSI M 141 0 (0 : Int32))) okX9_fault rfl ?_
      exact go_wk (CX9_fault_22 hd (gSI M 141 0 (0 : Int32)) P k0 h) True.intro
    · have h := gq_neg hp h
      refine go_rn 1 (pc' := 29) (L' := [some (.ref 141), some (.int x1)]) (S' := [.int (-1 : Int32)]) (M' := (gSI M 141 0 (0 : Int32))) okX9_fault rfl ?_
      exact go_iret (reX9_fault _ (by decide)) rfl (k0 (-1 : Int32) (gSI M 141 0 (0 : Int32)) h)
def fX9_fault (a1 : Int32) (M : gMem) : Option (Int32 × gMem) := fX9_fault_0 a1 M
theorem SX9_fault {G : gG} (a1 : Int32) (M : gMem) {r : Int32} {N : gMem} (h : fX9_fault a1 M = some (r, N)) : gRun G YX9_fault 0 [.ref 141, .int a1] M (fun r' N' => r' = some (.int r) ∧ N' = N) := gRun_in (by decide +kernel) rfl (fun d hd => go_wk (CX9_fault_0 hd a1 M (fun p => p = (r, N)) (fun r N hh => by cases hh; exact ⟨rfl, rfl⟩) (gq_of h)) ⟨rfl, rfl, True.intro⟩)
def fX9_hasRead_0 (x1 : Int32) (M : gMem) : Option (Int32) :=
  if gIx 1 148 ((36 : Int32) + x1) = true then some (M.1 148 (Int32.toNatClampNeg ((36 : Int32) + x1))) else none
set_option maxRecDepth 100000 in
theorem CX9_hasRead_0 {G : gG} {d : Nat} {Z : Option Value → gMem → Prop} (hd : 0 ≤ d) (x1 : Int32) (M : gMem) (P : Int32 → Prop) (k0 : ∀ (r : Int32), P r → Z (some (.int r)) M) (h : gOKq (fX9_hasRead_0 x1 M) P) : gGo G YX9_hasRead d Z 0 [some (.ref 141), some (.int x1)] [] M := by
  unfold fX9_hasRead_0 at h
  refine go_rn 1 (pc' := 1) (L' := [some (.ref 141), some (.int x1)]) (S' := [.ref 141]) (M' := M) okX9_hasRead rfl ?_
  refine go_ck okX9_hasRead rfl (gOb_c rfl) ?_
  refine go_rn 3 (pc' := 8) (L' := [some (.ref 141), some (.int x1)]) (S' := [.int ((36 : Int32) + x1), .ref 148]) (M' := M) okX9_hasRead rfl ?_
  obtain ⟨c1, h⟩ := gq_if h
  refine go_ck okX9_hasRead rfl c1 ?_
  exact go_iret (reX9_hasRead _ (by decide)) rfl (k0 (M.1 148 (Int32.toNatClampNeg ((36 : Int32) + x1))) h)
def fX9_hasRead (a1 : Int32) (M : gMem) : Option (Int32) := fX9_hasRead_0 a1 M
theorem SX9_hasRead {G : gG} (a1 : Int32) (M : gMem) {r : Int32} (h : fX9_hasRead a1 M = some r) : gRun G YX9_hasRead 0 [.ref 141, .int a1] M (fun r' N' => r' = some (.int r) ∧ N' = M) := gRun_in (by decide +kernel) rfl (fun d hd => go_wk (CX9_hasRead_0 hd a1 M (fun p => p = r) (fun r hh => ⟨congrArg (fun z => some (Value.int z)) hh, rfl⟩) (gq_of h)) ⟨rfl, rfl, True.intro⟩)
def fX9_tells_0 (x1 : Int32) (x2 : Int32) (M : gMem) : Option (gMem) :=
  if gIx 1 148 ((36 : Int32) + x1) = true then some (gSI M 148 (Int32.toNatClampNeg ((36 : Int32) + x1)) x2) else none
set_option maxRecDepth 100000 in
theorem CX9_tells_0 {G : gG} {d : Nat} {Z : Option Value → gMem → Prop} (hd : 0 ≤ d) (x1 : Int32) (x2 : Int32) (M : gMem) (P : gMem → Prop) (k0 : ∀ (N : gMem), P N → Z none N) (h : gOKq (fX9_tells_0 x1 x2 M) P) : gGo G YX9_tells d Z 0 [some (.ref 141), some (.int x1), some (.int x2)] [] M := by
  unfold fX9_tells_0 at h
  refine go_rn 1 (pc' := 1) (L' := [some (.ref 141), some (.int x1), some (.int x2)]) (S' := [.ref 141]) (M' := M) okX9_tells rfl ?_
  refine go_ck okX9_tells rfl (gOb_c rfl) ?_
  refine go_rn 4 (pc' := 9) (L' := [some (.ref 141), some (.int x1), some (.int x2)]) (S' := [.int x2, .int ((36 : Int32) + x1), .ref 148]) (M' := M) okX9_tells rfl ?_
  obtain ⟨c1, h⟩ := gq_if h
  refine go_ck okX9_tells rfl c1 ?_
  exact go_vret (reX9_tells _ (by decide)) rfl (k0 (gSI M 148 (Int32.toNatClampNeg ((36 : Int32) + x1)) x2) h)
def fX9_tells (a1 : Int32) (a2 : Int32) (M : gMem) : Option (gMem) := fX9_tells_0 a1 a2 M
theorem SX9_tells {G : gG} (a1 : Int32) (a2 : Int32) (M : gMem) {N : gMem} (h : fX9_tells a1 a2 M = some N) : gRun G YX9_tells 0 [.ref 141, .int a1, .int a2] M (fun r' N' => r' = none ∧ N' = N) := gRun_in (by decide +kernel) rfl (fun d hd => go_wk (CX9_tells_0 hd a1 a2 M (fun p => p = N) (fun N hh => ⟨rfl, hh⟩) (gq_of h)) ⟨rfl, rfl, rfl, True.intro⟩)
def fX9_partnerLine_67 (s0 : Int32) (s2 : Int32) (M : gMem) : Option (gMem) :=
  gB0 (fX9_hasRead s0 M) (fun r1 => gB0 (fX9_tells s2 (r1 + (1 : Int32)) M) (fun M3 => some M3))
set_option maxRecDepth 100000 in
theorem CX9_partnerLine_67 {G : gG} {d : Nat} {Z : Option Value → gMem → Prop} (hd : 5 ≤ d) (s0 : Int32) (s2 : Int32) (M : gMem) (P : gMem → Prop) (k0 : ∀ (N : gMem), P N → Z none N) (h : gOKq (fX9_partnerLine_67 s0 s2 M) P) : gGo G YX9_partnerLine d Z 67 [none, none] [.int s0, .ref 141, .int s2, .ref 141] M := by
  unfold fX9_partnerLine_67 at h
  obtain ⟨r1, e2, h⟩ := gB0_ok h
  refine go_call1 ocX9_partnerLine rfl rfl (gOb_c rfl) rfl (SX9_hasRead s0 M e2) (Nat.lt_of_lt_of_le (by decide) hd) ?_
  refine go_rn 2 (pc' := 72) (L' := [none, none]) (S' := [.int (r1 + (1 : Int32)), .int s2, .ref 141]) (M' := M) okX9_partnerLine rfl ?_
  obtain ⟨M3, e4, h⟩ := gB0_ok h
  refine go_call1 ocX9_partnerLine rfl rfl (gOb_c rfl) rfl (SX9_tells s2 (r1 + (1 : Int32)) M e4) (Nat.lt_of_lt_of_le (by decide) hd) ?_
  exact go_vret (reX9_partnerLine _ (by decide)) rfl (k0 M3 h)
def fX9_partnerLine_59 (s0 : Int32) (s1 : Int32) (s2 : Int64) (s4 : Int32) (M : gMem) : Option (gMem) :=
  gBp (fX9_number_ s2 s1 s0 M) (fun r1 M2 => if gIx 1 149 s4 = true then fX9_partnerLine_67 (4 : Int32) (4 : Int32) (gSI M2 149 (Int32.toNatClampNeg s4) r1) else none)
set_option maxRecDepth 100000 in
theorem CX9_partnerLine_59 {G : gG} {d : Nat} {Z : Option Value → gMem → Prop} (hd : 5 ≤ d) (s0 : Int32) (s1 : Int32) (s2 : Int64) (s4 : Int32) (M : gMem) (P : gMem → Prop) (k0 : ∀ (N : gMem), P N → Z none N) (h : gOKq (fX9_partnerLine_59 s0 s1 s2 s4 M) P) : gGo G YX9_partnerLine d Z 59 [some (.ref 141), none] [.int s0, .int s1, .long s2, .ref 141, .int s4, .ref 149] M := by
  unfold fX9_partnerLine_59 at h
  obtain ⟨r1, M2, e3, h⟩ := gBp_ok h
  refine go_call1 ocX9_partnerLine rfl rfl (gOb_c rfl) rfl (SX9_number_ s2 s1 s0 M e3) (Nat.lt_of_lt_of_le (by decide) hd) ?_
  obtain ⟨c4, h⟩ := gq_if h
  refine go_ck okX9_partnerLine rfl c4 ?_
  refine go_rn 4 (pc' := 67) (L' := [some (.ref 141), none]) (S' := [.int (4 : Int32), .ref 141, .int (4 : Int32), .ref 141]) (M' := (gSI M2 149 (Int32.toNatClampNeg s4) r1)) okX9_partnerLine rfl ?_
  exact go_wk (CX9_partnerLine_67 hd (4 : Int32) (4 : Int32) (gSI M2 149 (Int32.toNatClampNeg s4) r1) P k0 h) True.intro
def fX9_partnerLine_41 (x1 : Int32) (s0 : Int32) (s1 : Int32) (s2 : Int64) (s4 : Int32) (M : gMem) : Option (gMem) :=
  gBp (fX9_number_ s2 s1 s0 M) (fun r1 M2 => if gIx 1 149 s4 = true then fX9_partnerLine_59 (9 : Int32) (0 : Int32) (3746728 : Int64) (x1 + (2 : Int32)) (gSI M2 149 (Int32.toNatClampNeg s4) r1) else none)
set_option maxRecDepth 100000 in
theorem CX9_partnerLine_41 {G : gG} {d : Nat} {Z : Option Value → gMem → Prop} (hd : 5 ≤ d) (x1 : Int32) (s0 : Int32) (s1 : Int32) (s2 : Int64) (s4 : Int32) (M : gMem) (P : gMem → Prop) (k0 : ∀ (N : gMem), P N → Z none N) (h : gOKq (fX9_partnerLine_41 x1 s0 s1 s2 s4 M) P) : gGo G YX9_partnerLine d Z 41 [some (.ref 141), some (.int x1)] [.int s0, .int s1, .long s2, .ref 141, .int s4, .ref 149] M := by
  unfold fX9_partnerLine_41 at h
  obtain ⟨r1, M2, e3, h⟩ := gBp_ok h
  refine go_call1 ocX9_partnerLine rfl rfl (gOb_c rfl) rfl (SX9_number_ s2 s1 s0 M e3) (Nat.lt_of_lt_of_le (by decide) hd) ?_
  obtain ⟨c4, h⟩ := gq_if h
  refine go_ck okX9_partnerLine rfl c4 ?_
  refine go_rn 1 (pc' := 46) (L' := [some (.ref 141), some (.int x1)]) (S' := [.ref 141]) (M' := (gSI M2 149 (Int32.toNatClampNeg s4) r1)) okX9_partnerLine rfl ?_
  refine go_ck okX9_partnerLine rfl (gOb_c rfl) ?_
  refine go_rn 7 (pc' := 59) (L' := [some (.ref 141), some (.int x1)]) (S' := [.int (9 : Int32), .int (0 : Int32), .long (3746728 : Int64), .ref 141, .int (x1 + (2 : Int32)), .ref 149]) (M' := (gSI M2 149 (Int32.toNatClampNeg s4) r1)) okX9_partnerLine rfl ?_
  exact go_wk (CX9_partnerLine_59 hd (9 : Int32) (0 : Int32) (3746728 : Int64) (x1 + (2 : Int32)) (gSI M2 149 (Int32.toNatClampNeg s4) r1) P k0 h) ⟨rfl, True.intro⟩
def fX9_partnerLine_0 (M : gMem) : Option (gMem) :=
  gB0 (fX9_hasRead (4 : Int32) M) (fun r1 => gBp (fX9_number_ (459383 : Int64) (1 : Int32) (9 : Int32) M) (fun r3 M4 => if gIx 1 149 ((3 : Int32) * ((24 : Int32) + r1)) = true then fX9_partnerLine_41 ((3 : Int32) * ((24 : Int32) + r1)) (99 : Int32) (0 : Int32) (12532058 : Int64) (((3 : Int32) * ((24 : Int32) + r1)) + (1 : Int32)) (gSI M4 149 (Int32.toNatClampNeg ((3 : Int32) * ((24 : Int32) + r1))) r3) else none))
set_option maxRecDepth 100000 in
theorem CX9_partnerLine_0 {G : gG} {d : Nat} {Z : Option Value → gMem → Prop} (hd : 5 ≤ d) (M : gMem) (P : gMem → Prop) (k0 : ∀ (N : gMem), P N → Z none N) (h : gOKq (fX9_partnerLine_0 M) P) : gGo G YX9_partnerLine d Z 0 [some (.ref 141), none] [] M := by
  unfold fX9_partnerLine_0 at h
  refine go_rn 4 (pc' := 5) (L' := [some (.ref 141), none]) (S' := [.int (4 : Int32), .ref 141, .int (24 : Int32), .int (3 : Int32)]) (M' := M) okX9_partnerLine rfl ?_
  obtain ⟨r1, e2, h⟩ := gB0_ok h
  refine go_call1 ocX9_partnerLine rfl rfl (gOb_c rfl) rfl (SX9_hasRead (4 : Int32) M e2) (Nat.lt_of_lt_of_le (by decide) hd) ?_
  refine go_rn 4 (pc' := 12) (L' := [some (.ref 141), some (.int ((3 : Int32) * ((24 : Int32) + r1)))]) (S' := [.ref 141]) (M' := M) okX9_partnerLine rfl ?_
  refine go_ck okX9_partnerLine rfl (gOb_c rfl) ?_
  refine go_rn 5 (pc' := 23) (L' := [some (.ref 141), some (.int ((3 : Int32) * ((24 : Int32) + r1)))]) (S' := [.int (9 : Int32), .int (1 : Int32), .long (459383 : Int64), .ref 141, .int ((3 : Int32) * ((24 : Int32) + r1)), .ref 149]) (M' := M) okX9_partnerLine rfl ?_
  obtain ⟨r3, M4, e5, h⟩ := gBp_ok h
  refine go_call1 ocX9_partnerLine rfl rfl (gOb_c rfl) rfl (SX9_number_ (459383 : Int64) (1 : Int32) (9 : Int32) M e5) (Nat.lt_of_lt_of_le (by decide) hd) ?_
  obtain ⟨c6, h⟩ := gq_if h
  refine go_ck okX9_partnerLine rfl c6 ?_
  refine go_rn 1 (pc' := 28) (L' := [some (.ref 141), some (.int ((3 : Int32) * ((24 : Int32) + r1)))]) (S' := [.ref 141]) (M' := (gSI M4 149 (Int32.toNatClampNeg ((3 : Int32) * ((24 : Int32) + r1))) r3)) okX9_partnerLine rfl ?_
  refine go_ck okX9_partnerLine rfl (gOb_c rfl) ?_
  refine go_rn 7 (pc' := 41) (L' := [some (.ref 141), some (.int ((3 : Int32) * ((24 : Int32) + r1)))]) (S' := [.int (99 : Int32), .int (0 : Int32), .long (12532058 : Int64), .ref 141, .int (((3 : Int32) * ((24 : Int32) + r1)) + (1 : Int32)), .ref 149]) (M' := (gSI M4 149 (Int32.toNatClampNeg ((3 : Int32) * ((24 : Int32) + r1))) r3)) okX9_partnerLine rfl ?_
  exact go_wk (CX9_partnerLine_41 hd ((3 : Int32) * ((24 : Int32) + r1)) (99 : Int32) (0 : Int32) (12532058 : Int64) (((3 : Int32) * ((24 : Int32) + r1)) + (1 : Int32)) (gSI M4 149 (Int32.toNatClampNeg ((3 : Int32) * ((24 : Int32) + r1))) r3) P k0 h) ⟨rfl, rfl, True.intro⟩
def fX9_partnerLine (M : gMem) : Option (gMem) := fX9_partnerLine_0 M
theorem SX9_partnerLine {G : gG} (M : gMem) {N : gMem} (h : fX9_partnerLine M = some N) : gRun G YX9_partnerLine 5 [.ref 141] M (fun r' N' => r' = none ∧ N' = N) := gRun_in (by decide +kernel) rfl (fun d hd => go_wk (CX9_partnerLine_0 hd M (fun p => p = N) (fun N hh => ⟨rfl, hh⟩) (gq_of h)) ⟨rfl, True.intro⟩)
def fX9_personHere_0 (M : gMem) : Option (Int32 × gMem) :=
  gB0 (fX9_hasRead (4 : Int32) M) (fun r1 => gBp (fX9_number (0 : Int32) (r1 - (1 : Int32)) M) (fun r3 M4 => some (r3, M4)))
set_option maxRecDepth 100000 in
theorem CX9_personHere_0 {G : gG} {d : Nat} {Z : Option Value → gMem → Prop} (hd : 3 ≤ d) (M : gMem) (P : Int32 × gMem → Prop) (k0 : ∀ (r : Int32) (N : gMem), P (r, N) → Z (some (.int r)) N) (h : gOKq (fX9_personHere_0 M) P) : gGo G YX9_personHere d Z 0 [some (.ref 141)] [] M := by
  unfold fX9_personHere_0 at h
  refine go_rn 4 (pc' := 4) (L' := [some (.ref 141)]) (S' := [.int (4 : Int32), .ref 141, .int (0 : Int32), .ref 141]) (M' := M) okX9_personHere rfl ?_
  obtain ⟨r1, e2, h⟩ := gB0_ok h
  refine go_call1 ocX9_personHere rfl rfl (gOb_c rfl) rfl (SX9_hasRead (4 : Int32) M e2) (Nat.lt_of_lt_of_le (by decide) hd) ?_
  refine go_rn 2 (pc' := 9) (L' := [some (.ref 141)]) (S' := [.int (r1 - (1 : Int32)), .int (0 : Int32), .ref 141]) (M' := M) okX9_personHere rfl ?_
  obtain ⟨r3, M4, e5, h⟩ := gBp_ok h
  refine go_call1 ocX9_personHere rfl rfl (gOb_c rfl) rfl (SX9_number (0 : Int32) (r1 - (1 : Int32)) M e5) (Nat.lt_of_lt_of_le (by decide) hd) ?_
  exact go_iret (reX9_personHere _ (by decide)) rfl (k0 r3 M4 h)
def fX9_personHere (M : gMem) : Option (Int32 × gMem) := fX9_personHere_0 M
theorem SX9_personHere {G : gG} (M : gMem) {r : Int32} {N : gMem} (h : fX9_personHere M = some (r, N)) : gRun G YX9_personHere 3 [.ref 141] M (fun r' N' => r' = some (.int r) ∧ N' = N) := gRun_in (by decide +kernel) rfl (fun d hd => go_wk (CX9_personHere_0 hd M (fun p => p = (r, N)) (fun r N hh => by cases hh; exact ⟨rfl, rfl⟩) (gq_of h)) ⟨rfl, True.intro⟩)
def fX9_joinLine_88 (s0 : Int32) (s2 : Int32) (M : gMem) : Option (gMem) :=
  gB0 (fX9_hasRead s0 M) (fun r1 => gB0 (fX9_tells s2 (r1 + (1 : Int32)) M) (fun M3 => some M3))
set_option maxRecDepth 100000 in
theorem CX9_joinLine_88 {G : gG} {d : Nat} {Z : Option Value → gMem → Prop} (hd : 5 ≤ d) (s0 : Int32) (s2 : Int32) (M : gMem) (P : gMem → Prop) (k0 : ∀ (N : gMem), P N → Z none N) (h : gOKq (fX9_joinLine_88 s0 s2 M) P) : gGo G YX9_joinLine d Z 88 [none, none] [.int s0, .ref 141, .int s2, .ref 141] M := by
  unfold fX9_joinLine_88 at h
  obtain ⟨r1, e2, h⟩ := gB0_ok h
  refine go_call1 ocX9_joinLine rfl rfl (gOb_c rfl) rfl (SX9_hasRead s0 M e2) (Nat.lt_of_lt_of_le (by decide) hd) ?_
  refine go_rn 2 (pc' := 93) (L' := [none, none]) (S' := [.int (r1 + (1 : Int32)), .int s2, .ref 141]) (M' := M) okX9_joinLine rfl ?_
  obtain ⟨M3, e4, h⟩ := gB0_ok h
  refine go_call1 ocX9_joinLine rfl rfl (gOb_c rfl) rfl (SX9_tells s2 (r1 + (1 : Int32)) M e4) (Nat.lt_of_lt_of_le (by decide) hd) ?_
  exact go_vret (reX9_joinLine _ (by decide)) rfl (k0 M3 h)
def fX9_joinLine_80 (s0 : Int32) (s1 : Int32) (s2 : Int64) (s4 : Int32) (M : gMem) : Option (gMem) :=
  gBp (fX9_number_ s2 s1 s0 M) (fun r1 M2 => if gIx 1 150 s4 = true then fX9_joinLine_88 (5 : Int32) (5 : Int32) (gSI M2 150 (Int32.toNatClampNeg s4) r1) else none)
set_option maxRecDepth 100000 in
theorem CX9_joinLine_80 {G : gG} {d : Nat} {Z : Option Value → gMem → Prop} (hd : 5 ≤ d) (s0 : Int32) (s1 : Int32) (s2 : Int64) (s4 : Int32) (M : gMem) (P : gMem → Prop) (k0 : ∀ (N : gMem), P N → Z none N) (h : gOKq (fX9_joinLine_80 s0 s1 s2 s4 M) P) : gGo G YX9_joinLine d Z 80 [some (.ref 141), none] [.int s0, .int s1, .long s2, .ref 141, .int s4, .ref 150] M := by
  unfold fX9_joinLine_80 at h
  obtain ⟨r1, M2, e3, h⟩ := gBp_ok h
  refine go_call1 ocX9_joinLine rfl rfl (gOb_c rfl) rfl (SX9_number_ s2 s1 s0 M e3) (Nat.lt_of_lt_of_le (by decide) hd) ?_
  obtain ⟨c4, h⟩ := gq_if h
  refine go_ck okX9_joinLine rfl c4 ?_
  refine go_rn 4 (pc' := 88) (L' := [some (.ref 141), none]) (S' := [.int (5 : Int32), .ref 141, .int (5 : Int32), .ref 141]) (M' := (gSI M2 150 (Int32.toNatClampNeg s4) r1)) okX9_joinLine rfl ?_
  exact go_wk (CX9_joinLine_88 hd (5 : Int32) (5 : Int32) (gSI M2 150 (Int32.toNatClampNeg s4) r1) P k0 h) True.intro
def fX9_joinLine_54 (x1 : Int32) (M : gMem) : Option (gMem) :=
  gBp (fX9_personHere M) (fun r1 M2 => if gIx 1 150 (x1 + (1 : Int32)) = true then fX9_joinLine_80 (9 : Int32) (1 : Int32) (16818 : Int64) (x1 + (2 : Int32)) (gSI M2 150 (Int32.toNatClampNeg (x1 + (1 : Int32))) r1) else none)
set_option maxRecDepth 100000 in
theorem CX9_joinLine_54 {G : gG} {d : Nat} {Z : Option Value → gMem → Prop} (hd : 5 ≤ d) (x1 : Int32) (M : gMem) (P : gMem → Prop) (k0 : ∀ (N : gMem), P N → Z none N) (h : gOKq (fX9_joinLine_54 x1 M) P) : gGo G YX9_joinLine d Z 54 [some (.ref 141), some (.int x1)] [] M := by
  unfold fX9_joinLine_54 at h
  refine go_rn 1 (pc' := 55) (L' := [some (.ref 141), some (.int x1)]) (S' := [.ref 141]) (M' := M) okX9_joinLine rfl ?_
  refine go_ck okX9_joinLine rfl (gOb_c rfl) ?_
  refine go_rn 4 (pc' := 62) (L' := [some (.ref 141), some (.int x1)]) (S' := [.ref 141, .int (x1 + (1 : Int32)), .ref 150]) (M' := M) okX9_joinLine rfl ?_
  obtain ⟨r1, M2, e3, h⟩ := gBp_ok h
  refine go_call1 ocX9_joinLine rfl rfl (gOb_c rfl) rfl (SX9_personHere M e3) (Nat.lt_of_lt_of_le (by decide) hd) ?_
  obtain ⟨c4, h⟩ := gq_if h
  refine go_ck okX9_joinLine rfl c4 ?_
  refine go_rn 1 (pc' := 67) (L' := [some (.ref 141), some (.int x1)]) (S' := [.ref 141]) (M' := (gSI M2 150 (Int32.toNatClampNeg (x1 + (1 : Int32))) r1)) okX9_joinLine rfl ?_
  refine go_ck okX9_joinLine rfl (gOb_c rfl) ?_
  refine go_rn 7 (pc' := 80) (L' := [some (.ref 141), some (.int x1)]) (S' := [.int (9 : Int32), .int (1 : Int32), .long (16818 : Int64), .ref 141, .int (x1 + (2 : Int32)), .ref 150]) (M' := (gSI M2 150 (Int32.toNatClampNeg (x1 + (1 : Int32))) r1)) okX9_joinLine rfl ?_
  exact go_wk (CX9_joinLine_80 hd (9 : Int32) (1 : Int32) (16818 : Int64) (x1 + (2 : Int32)) (gSI M2 150 (Int32.toNatClampNeg (x1 + (1 : Int32))) r1) P k0 h) ⟨rfl, True.intro⟩
def fX9_joinLine_22 (x1 : Int32) (M : gMem) : Option (gMem) :=
  if (M.1 141 12) = 0 then if (M.1 141 8) = (2 : Int32) then if gIx 1 150 x1 = true then if (M.1 141 10) = (M.1 150 (Int32.toNatClampNeg x1)) then gB0 (fX9_errs (2 : Int32) M) (fun M2 => fX9_joinLine_54 x1 M2) else fX9_joinLine_54 x1 M else none else fX9_joinLine_54 x1 M else fX9_joinLine_54 x1 M
set_option maxRecDepth 100000 in
theorem CX9_joinLine_22 {G : gG} {d : Nat} {Z : Option Value → gMem → Prop} (hd : 5 ≤ d) (x1 : Int32) (M : gMem) (P : gMem → Prop) (k0 : ∀ (N : gMem), P N → Z none N) (h : gOKq (fX9_joinLine_22 x1 M) P) : gGo G YX9_joinLine d Z 22 [some (.ref 141), some (.int x1)] [.ref 141] M := by
  unfold fX9_joinLine_22 at h
  refine go_ck okX9_joinLine rfl (gOb_c rfl) ?_
  refine go_br okX9_joinLine rfl (fun hp => ?_) (fun hp => ?_)
  · have h := gq_pos hp h
    refine go_rn 1 (pc' := 29) (L' := [some (.ref 141), some (.int x1)]) (S' := [.ref 141]) (M' := M) okX9_joinLine rfl ?_
    refine go_ck okX9_joinLine rfl (gOb_c rfl) ?_
    refine go_rn 1 (pc' := 33) (L' := [some (.ref 141), some (.int x1)]) (S' := [.int (2 : Int32), .int (M.1 141 8)]) (M' := M) okX9_joinLine rfl ?_
    refine go_br okX9_joinLine rfl (fun hp => ?_) (fun hp => ?_)
    · have h := gq_pos hp h
      refine go_rn 1 (pc' := 37) (L' := [some (.ref 141), some (.int x1)]) (S' := [.ref 141]) (M' := M) okX9_joinLine rfl ?_
      refine go_ck okX9_joinLine rfl (gOb_c rfl) ?_
      refine go_rn 1 (pc' := 41) (L' := [some (.ref 141), some (.int x1)]) (S' := [.ref 141, .int (M.1 141 10)]) (M' := M) okX9_joinLine rfl ?_
      refine go_ck okX9_joinLine rfl (gOb_c rfl) ?_
      refine go_rn 1 (pc' := 45) (L' := [some (.ref 141), some (.int x1)]) (S' := [.int x1, .ref 150, .int (M.1 141 10)]) (M' := M) okX9_joinLine rfl ?_
      obtain ⟨c1, h⟩ := gq_if h
      refine go_ck okX9_joinLine rfl c1 ?_
      refine go_br okX9_joinLine rfl (fun hp => ?_) (fun hp => ?_)
      · have h := gq_pos hp h
        refine go_rn 2 (pc' := 51) (L' := [some (.ref 141), some (.int x1)]) (S' := [.int (2 : Int32), .ref 141]) (M' := M) okX9_joinLine rfl ?_
        obtain ⟨M2, e3, h⟩ := gB0_ok h
        refine go_call1 ocX9_joinLine rfl rfl (gOb_c rfl) rfl (SX9_errs (2 : Int32) M e3) (Nat.lt_of_lt_of_le (by decide) hd) ?_
        exact go_wk (CX9_joinLine_54 hd x1 M2 P k0 h) ⟨rfl, rfl, True.intro⟩
      · have h := gq_neg hp h
        exact go_wk (CX9_joinLine_54 hd x1 M P k0 h) ⟨rfl, rfl, True.intro⟩
    · have h := gq_neg hp h
      exact go_wk (CX9_joinLine_54 hd x1 M P k0 h) ⟨rfl, rfl, True.intro⟩
  · have h := gq_neg hp h
    exact go_wk (CX9_joinLine_54 hd x1 M P k0 h) ⟨rfl, rfl, True.intro⟩
def fX9_joinLine_0 (M : gMem) : Option (gMem) :=
  gB0 (fX9_hasRead (5 : Int32) M) (fun r1 => gBp (fX9_personHere M) (fun r3 M4 => if gIx 1 150 ((3 : Int32) * ((28 : Int32) + r1)) = true then fX9_joinLine_22 ((3 : Int32) * ((28 : Int32) + r1)) (gSI M4 150 (Int32.toNatClampNeg ((3 : Int32) * ((28 : Int32) + r1))) r3) else none))
set_option maxRecDepth 100000 in
theorem CX9_joinLine_0 {G : gG} {d : Nat} {Z : Option Value → gMem → Prop} (hd : 5 ≤ d) (M : gMem) (P : gMem → Prop) (k0 : ∀ (N : gMem), P N → Z none N) (h : gOKq (fX9_joinLine_0 M) P) : gGo G YX9_joinLine d Z 0 [some (.ref 141), none] [] M := by
  unfold fX9_joinLine_0 at h
  refine go_rn 4 (pc' := 5) (L' := [some (.ref 141), none]) (S' := [.int (5 : Int32), .ref 141, .int (28 : Int32), .int (3 : Int32)]) (M' := M) okX9_joinLine rfl ?_
  obtain ⟨r1, e2, h⟩ := gB0_ok h
  refine go_call1 ocX9_joinLine rfl rfl (gOb_c rfl) rfl (SX9_hasRead (5 : Int32) M e2) (Nat.lt_of_lt_of_le (by decide) hd) ?_
  refine go_rn 4 (pc' := 12) (L' := [some (.ref 141), some (.int ((3 : Int32) * ((28 : Int32) + r1)))]) (S' := [.ref 141]) (M' := M) okX9_joinLine rfl ?_
  refine go_ck okX9_joinLine rfl (gOb_c rfl) ?_
  refine go_rn 2 (pc' := 17) (L' := [some (.ref 141), some (.int ((3 : Int32) * ((28 : Int32) + r1)))]) (S' := [.ref 141, .int ((3 : Int32) * ((28 : Int32) + r1)), .ref 150]) (M' := M) okX9_joinLine rfl ?_
  obtain ⟨r3, M4, e5, h⟩ := gBp_ok h
  refine go_call1 ocX9_joinLine rfl rfl (gOb_c rfl) rfl (SX9_personHere M e5) (Nat.lt_of_lt_of_le (by decide) hd) ?_
  obtain ⟨c6, h⟩ := gq_if h
  refine go_ck okX9_joinLine rfl c6 ?_
  refine go_rn 1 (pc' := 22) (L' := [some (.ref 141), some (.int ((3 : Int32) * ((28 : Int32) + r1)))]) (S' := [.ref 141]) (M' := (gSI M4 150 (Int32.toNatClampNeg ((3 : Int32) * ((28 : Int32) + r1))) r3)) okX9_joinLine rfl ?_
  exact go_wk (CX9_joinLine_22 hd ((3 : Int32) * ((28 : Int32) + r1)) (gSI M4 150 (Int32.toNatClampNeg ((3 : Int32) * ((28 : Int32) + r1))) r3) P k0 h) ⟨rfl, rfl, True.intro⟩
def fX9_joinLine (M : gMem) : Option (gMem) := fX9_joinLine_0 M
theorem SX9_joinLine {G : gG} (M : gMem) {N : gMem} (h : fX9_joinLine M = some N) : gRun G YX9_joinLine 5 [.ref 141] M (fun r' N' => r' = none ∧ N' = N) := gRun_in (by decide +kernel) rfl (fun d hd => go_wk (CX9_joinLine_0 hd M (fun p => p = N) (fun N hh => ⟨rfl, hh⟩) (gq_of h)) ⟨rfl, True.intro⟩)
def fX9_doorLine_27 (s0 : Int32) (s2 : Int32) (M : gMem) : Option (gMem) :=
  gB0 (fX9_hasRead s0 M) (fun r1 => gB0 (fX9_tells s2 (r1 + (1 : Int32)) M) (fun M3 => some M3))
set_option maxRecDepth 100000 in
theorem CX9_doorLine_27 {G : gG} {d : Nat} {Z : Option Value → gMem → Prop} (hd : 3 ≤ d) (s0 : Int32) (s2 : Int32) (M : gMem) (P : gMem → Prop) (k0 : ∀ (N : gMem), P N → Z none N) (h : gOKq (fX9_doorLine_27 s0 s2 M) P) : gGo G YX9_doorLine d Z 27 [none] [.int s0, .ref 141, .int s2, .ref 141] M := by
  unfold fX9_doorLine_27 at h
  obtain ⟨r1, e2, h⟩ := gB0_ok h
  refine go_call1 ocX9_doorLine rfl rfl (gOb_c rfl) rfl (SX9_hasRead s0 M e2) (Nat.lt_of_lt_of_le (by decide) hd) ?_
  refine go_rn 2 (pc' := 32) (L' := [none]) (S' := [.int (r1 + (1 : Int32)), .int s2, .ref 141]) (M' := M) okX9_doorLine rfl ?_
  obtain ⟨M3, e4, h⟩ := gB0_ok h
  refine go_call1 ocX9_doorLine rfl rfl (gOb_c rfl) rfl (SX9_tells s2 (r1 + (1 : Int32)) M e4) (Nat.lt_of_lt_of_le (by decide) hd) ?_
  exact go_vret (reX9_doorLine _ (by decide)) rfl (k0 M3 h)
def fX9_doorLine_0 (M : gMem) : Option (gMem) :=
  gB0 (fX9_hasRead (6 : Int32) M) (fun r1 => gBp (fX9_number (1 : Int32) (60 : Int32) M) (fun r3 M4 => if gIx 1 151 ((20 : Int32) + r1) = true then fX9_doorLine_27 (6 : Int32) (6 : Int32) (gSI M4 151 (Int32.toNatClampNeg ((20 : Int32) + r1)) r3) else none))
set_option maxRecDepth 100000 in
theorem CX9_doorLine_0 {G : gG} {d : Nat} {Z : Option Value → gMem → Prop} (hd : 3 ≤ d) (M : gMem) (P : gMem → Prop) (k0 : ∀ (N : gMem), P N → Z none N) (h : gOKq (fX9_doorLine_0 M) P) : gGo G YX9_doorLine d Z 0 [some (.ref 141)] [] M := by
  unfold fX9_doorLine_0 at h
  refine go_rn 1 (pc' := 1) (L' := [some (.ref 141)]) (S' := [.ref 141]) (M' := M) okX9_doorLine rfl ?_
  refine go_ck okX9_doorLine rfl (gOb_c rfl) ?_
  refine go_rn 3 (pc' := 9) (L' := [some (.ref 141)]) (S' := [.int (6 : Int32), .ref 141, .int (20 : Int32), .ref 151]) (M' := M) okX9_doorLine rfl ?_
  obtain ⟨r1, e2, h⟩ := gB0_ok h
  refine go_call1 ocX9_doorLine rfl rfl (gOb_c rfl) rfl (SX9_hasRead (6 : Int32) M e2) (Nat.lt_of_lt_of_le (by decide) hd) ?_
  refine go_rn 4 (pc' := 17) (L' := [some (.ref 141)]) (S' := [.int (60 : Int32), .int (1 : Int32), .ref 141, .int ((20 : Int32) + r1), .ref 151]) (M' := M) okX9_doorLine rfl ?_
  obtain ⟨r3, M4, e5, h⟩ := gBp_ok h
  refine go_call1 ocX9_doorLine rfl rfl (gOb_c rfl) rfl (SX9_number (1 : Int32) (60 : Int32) M e5) (Nat.lt_of_lt_of_le (by decide) hd) ?_
  obtain ⟨c6, h⟩ := gq_if h
  refine go_ck okX9_doorLine rfl c6 ?_
  refine go_rn 4 (pc' := 27) (L' := [some (.ref 141)]) (S' := [.int (6 : Int32), .ref 141, .int (6 : Int32), .ref 141]) (M' := (gSI M4 151 (Int32.toNatClampNeg ((20 : Int32) + r1)) r3)) okX9_doorLine rfl ?_
  exact go_wk (CX9_doorLine_27 hd (6 : Int32) (6 : Int32) (gSI M4 151 (Int32.toNatClampNeg ((20 : Int32) + r1)) r3) P k0 h) True.intro
def fX9_doorLine (M : gMem) : Option (gMem) := fX9_doorLine_0 M
theorem SX9_doorLine {G : gG} (M : gMem) {N : gMem} (h : fX9_doorLine M = some N) : gRun G YX9_doorLine 3 [.ref 141] M (fun r' N' => r' = none ∧ N' = N) := gRun_in (by decide +kernel) rfl (fun d hd => go_wk (CX9_doorLine_0 hd M (fun p => p = N) (fun N hh => ⟨rfl, hh⟩) (gq_of h)) ⟨rfl, True.intro⟩)
def fX9_coldLine_46 (s0 : Int32) (s2 : Int32) (M : gMem) : Option (gMem) :=
  gB0 (fX9_hasRead s0 M) (fun r1 => gB0 (fX9_tells s2 (r1 + (1 : Int32)) M) (fun M3 => some M3))
set_option maxRecDepth 100000 in
theorem CX9_coldLine_46 {G : gG} {d : Nat} {Z : Option Value → gMem → Prop} (hd : 5 ≤ d) (s0 : Int32) (s2 : Int32) (M : gMem) (P : gMem → Prop) (k0 : ∀ (N : gMem), P N → Z none N) (h : gOKq (fX9_coldLine_46 s0 s2 M) P) : gGo G YX9_coldLine d Z 46 [none, none] [.int s0, .ref 141, .int s2, .ref 141] M := by
  unfold fX9_coldLine_46 at h
  obtain ⟨r1, e2, h⟩ := gB0_ok h
  refine go_call1 ocX9_coldLine rfl rfl (gOb_c rfl) rfl (SX9_hasRead s0 M e2) (Nat.lt_of_lt_of_le (by decide) hd) ?_
  refine go_rn 2 (pc' := 51) (L' := [none, none]) (S' := [.int (r1 + (1 : Int32)), .int s2, .ref 141]) (M' := M) okX9_coldLine rfl ?_
  obtain ⟨M3, e4, h⟩ := gB0_ok h
  refine go_call1 ocX9_coldLine rfl rfl (gOb_c rfl) rfl (SX9_tells s2 (r1 + (1 : Int32)) M e4) (Nat.lt_of_lt_of_le (by decide) hd) ?_
  exact go_vret (reX9_coldLine _ (by decide)) rfl (k0 M3 h)
def fX9_coldLine_36 (s0 : Int32) (s1 : Int32) (s2 : Int64) (s4 : Int32) (M : gMem) : Option (gMem) :=
  gBp (fX9_number_ s2 s1 s0 M) (fun r1 M2 => if gIx 1 152 s4 = true then fX9_coldLine_46 (7 : Int32) (7 : Int32) (gSI M2 152 (Int32.toNatClampNeg s4) r1) else none)
set_option maxRecDepth 100000 in
theorem CX9_coldLine_36 {G : gG} {d : Nat} {Z : Option Value → gMem → Prop} (hd : 5 ≤ d) (s0 : Int32) (s1 : Int32) (s2 : Int64) (s4 : Int32) (M : gMem) (P : gMem → Prop) (k0 : ∀ (N : gMem), P N → Z none N) (h : gOKq (fX9_coldLine_36 s0 s1 s2 s4 M) P) : gGo G YX9_coldLine d Z 36 [some (.ref 141), none] [.int s0, .int s1, .long s2, .ref 141, .int s4, .ref 152] M := by
  unfold fX9_coldLine_36 at h
  obtain ⟨r1, M2, e3, h⟩ := gBp_ok h
  refine go_call1 ocX9_coldLine rfl rfl (gOb_c rfl) rfl (SX9_number_ s2 s1 s0 M e3) (Nat.lt_of_lt_of_le (by decide) hd) ?_
  obtain ⟨c4, h⟩ := gq_if h
  refine go_ck okX9_coldLine rfl c4 ?_
  refine go_rn 4 (pc' := 46) (L' := [some (.ref 141), none]) (S' := [.int (7 : Int32), .ref 141, .int (7 : Int32), .ref 141]) (M' := (gSI M2 152 (Int32.toNatClampNeg s4) r1)) okX9_coldLine rfl ?_
  exact go_wk (CX9_coldLine_46 hd (7 : Int32) (7 : Int32) (gSI M2 152 (Int32.toNatClampNeg s4) r1) P k0 h) True.intro
def fX9_coldLine_0 (M : gMem) : Option (gMem) :=
  gB0 (fX9_hasRead (7 : Int32) M) (fun r1 => gBp (fX9_personHere M) (fun r3 M4 => if gIx 1 152 ((2 : Int32) * ((20 : Int32) + r1)) = true then fX9_coldLine_36 (11 : Int32) (0 : Int32) (47 : Int64) (((2 : Int32) * ((20 : Int32) + r1)) + (1 : Int32)) (gSI M4 152 (Int32.toNatClampNeg ((2 : Int32) * ((20 : Int32) + r1))) r3) else none))
set_option maxRecDepth 100000 in
theorem CX9_coldLine_0 {G : gG} {d : Nat} {Z : Option Value → gMem → Prop} (hd : 5 ≤ d) (M : gMem) (P : gMem → Prop) (k0 : ∀ (N : gMem), P N → Z none N) (h : gOKq (fX9_coldLine_0 M) P) : gGo G YX9_coldLine d Z 0 [some (.ref 141), none] [] M := by
  unfold fX9_coldLine_0 at h
  refine go_rn 4 (pc' := 6) (L' := [some (.ref 141), none]) (S' := [.int (7 : Int32), .ref 141, .int (20 : Int32), .int (2 : Int32)]) (M' := M) okX9_coldLine rfl ?_
  obtain ⟨r1, e2, h⟩ := gB0_ok h
  refine go_call1 ocX9_coldLine rfl rfl (gOb_c rfl) rfl (SX9_hasRead (7 : Int32) M e2) (Nat.lt_of_lt_of_le (by decide) hd) ?_
  refine go_rn 4 (pc' := 13) (L' := [some (.ref 141), some (.int ((2 : Int32) * ((20 : Int32) + r1)))]) (S' := [.ref 141]) (M' := M) okX9_coldLine rfl ?_
  refine go_ck okX9_coldLine rfl (gOb_c rfl) ?_
  refine go_rn 2 (pc' := 18) (L' := [some (.ref 141), some (.int ((2 : Int32) * ((20 : Int32) + r1)))]) (S' := [.ref 141, .int ((2 : Int32) * ((20 : Int32) + r1)), .ref 152]) (M' := M) okX9_coldLine rfl ?_
  obtain ⟨r3, M4, e5, h⟩ := gBp_ok h
  refine go_call1 ocX9_coldLine rfl rfl (gOb_c rfl) rfl (SX9_personHere M e5) (Nat.lt_of_lt_of_le (by decide) hd) ?_
  obtain ⟨c6, h⟩ := gq_if h
  refine go_ck okX9_coldLine rfl c6 ?_
  refine go_rn 1 (pc' := 23) (L' := [some (.ref 141), some (.int ((2 : Int32) * ((20 : Int32) + r1)))]) (S' := [.ref 141]) (M' := (gSI M4 152 (Int32.toNatClampNeg ((2 : Int32) * ((20 : Int32) + r1))) r3)) okX9_coldLine rfl ?_
  refine go_ck okX9_coldLine rfl (gOb_c rfl) ?_
  refine go_rn 7 (pc' := 36) (L' := [some (.ref 141), some (.int ((2 : Int32) * ((20 : Int32) + r1)))]) (S' := [.int (11 : Int32), .int (0 : Int32), .long (47 : Int64), .ref 141, .int (((2 : Int32) * ((20 : Int32) + r1)) + (1 : Int32)), .ref 152]) (M' := (gSI M4 152 (Int32.toNatClampNeg ((2 : Int32) * ((20 : Int32) + r1))) r3)) okX9_coldLine rfl ?_
  exact go_wk (CX9_coldLine_36 hd (11 : Int32) (0 : Int32) (47 : Int64) (((2 : Int32) * ((20 : Int32) + r1)) + (1 : Int32)) (gSI M4 152 (Int32.toNatClampNeg ((2 : Int32) * ((20 : Int32) + r1))) r3) P k0 h) ⟨rfl, True.intro⟩
def fX9_coldLine (M : gMem) : Option (gMem) := fX9_coldLine_0 M
theorem SX9_coldLine {G : gG} (M : gMem) {N : gMem} (h : fX9_coldLine M = some N) : gRun G YX9_coldLine 5 [.ref 141] M (fun r' N' => r' = none ∧ N' = N) := gRun_in (by decide +kernel) rfl (fun d hd => go_wk (CX9_coldLine_0 hd M (fun p => p = N) (fun N hh => ⟨rfl, hh⟩) (gq_of h)) ⟨rfl, True.intro⟩)
def fX9_isRoom_33 (x1 : Int32) (M : gMem) : Option (Int32 × gMem) :=
  if x1 = 0 then some ((0 : Int32), M) else if (M.1 141 12) = 0 then some ((1 : Int32), M) else some ((0 : Int32), M)
set_option maxRecDepth 100000 in
theorem CX9_isRoom_33 {G : gG} {d : Nat} {Z : Option Value → gMem → Prop} (hd : 2 ≤ d) (x1 : Int32) (M : gMem) (P : Int32 × gMem → Prop) (k0 : ∀ (r : Int32) (N : gMem), P (r, N) → Z (some (.int r)) N) (h : gOKq (fX9_isRoom_33 x1 M) P) : gGo G YX9_isRoom d Z 33 [some (.ref 141), some (.int x1), none, none] [] M := by
  unfold fX9_isRoom_33 at h
  refine go_rn 1 (pc' := 34) (L' := [some (.ref 141), some (.int x1), none, none]) (S' := [.int x1]) (M' := M) okX9_isRoom rfl ?_
  refine go_br okX9_isRoom rfl (fun hp => ?_) (fun hp => ?_)
  · have h := gq_pos hp h
    refine go_rn 1 (pc' := 49) (L' := [some (.ref 141), some (.int x1), none, none]) (S' := [.int (0 : Int32)]) (M' := M) okX9_isRoom rfl ?_
    exact go_zret (reX9_isRoom _ (by decide)) rfl (Or.inl rfl) (k0 (0 : Int32) M h)
  · have h := gq_neg hp h
    refine go_rn 1 (pc' := 38) (L' := [some (.ref 141), some (.int x1), none, none]) (S' := [.ref 141]) (M' := M) okX9_isRoom rfl ?_
    refine go_ck okX9_isRoom rfl (gOb_c rfl) ?_
    refine go_br okX9_isRoom rfl (fun hp => ?_) (fun hp => ?_)
    · have h := gq_pos hp h
      refine go_rn 2 (pc' := 49) (L' := [some (.ref 141), some (.int x1), none, none]) (S' := [.int (1 : Int32)]) (M' := M) okX9_isRoom rfl ?_
      exact go_zret (reX9_isRoom _ (by decide)) rfl (Or.inr rfl) (k0 (1 : Int32) M h)
    · have h := gq_neg hp h
      refine go_rn 1 (pc' := 49) (L' := [some (.ref 141), some (.int x1), none, none]) (S' := [.int (0 : Int32)]) (M' := M) okX9_isRoom rfl ?_
      exact go_zret (reX9_isRoom _ (by decide)) rfl (Or.inl rfl) (k0 (0 : Int32) M h)
def fX9_isRoom_18 (x1 : Int32) (M : gMem) : Option (Int32 × gMem) :=
  if x1 = 0 then fX9_isRoom_33 x1 M else if (M.1 141 12) = 0 then gB0 (fX9_next M) (fun M1 => fX9_isRoom_33 x1 M1) else fX9_isRoom_33 x1 M
set_option maxRecDepth 100000 in
theorem CX9_isRoom_18 {G : gG} {d : Nat} {Z : Option Value → gMem → Prop} (hd : 2 ≤ d) (x1 : Int32) (M : gMem) (P : Int32 × gMem → Prop) (k0 : ∀ (r : Int32) (N : gMem), P (r, N) → Z (some (.int r)) N) (h : gOKq (fX9_isRoom_18 x1 M) P) : gGo G YX9_isRoom d Z 18 [some (.ref 141), some (.int x1), none, none] [] M := by
  unfold fX9_isRoom_18 at h
  refine go_rn 1 (pc' := 19) (L' := [some (.ref 141), some (.int x1), none, none]) (S' := [.int x1]) (M' := M) okX9_isRoom rfl ?_
  refine go_br okX9_isRoom rfl (fun hp => ?_) (fun hp => ?_)
  · have h := gq_pos hp h
    exact go_wk (CX9_isRoom_33 hd x1 M P k0 h) ⟨rfl, rfl, True.intro⟩
  · have h := gq_neg hp h
    refine go_rn 1 (pc' := 23) (L' := [some (.ref 141), some (.int x1), none, none]) (S' := [.ref 141]) (M' := M) okX9_isRoom rfl ?_
    refine go_ck okX9_isRoom rfl (gOb_c rfl) ?_
    refine go_br okX9_isRoom rfl (fun hp => ?_) (fun hp => ?_)
    · have h := gq_pos hp h
      refine go_rn 1 (pc' := 30) (L' := [some (.ref 141), some (.int x1), none, none]) (S' := [.ref 141]) (M' := M) okX9_isRoom rfl ?_
      obtain ⟨M1, e2, h⟩ := gB0_ok h
      refine go_call1 ocX9_isRoom rfl rfl (gOb_c rfl) rfl (SX9_next M e2) (Nat.lt_of_lt_of_le (by decide) hd) ?_
      exact go_wk (CX9_isRoom_33 hd x1 M1 P k0 h) ⟨rfl, rfl, True.intro⟩
    · have h := gq_neg hp h
      exact go_wk (CX9_isRoom_33 hd x1 M P k0 h) ⟨rfl, rfl, True.intro⟩
def fX9_isRoom_0 (x1 : Int32) (x2 : Int32) (x3 : Int32) (M : gMem) : Option (Int32 × gMem) :=
  if x1 = 0 then fX9_isRoom_18 x1 M else gB0 (fX9_hasRead x2 M) (fun r1 => if r1 = x3 then gB0 (fX9_errs (3 : Int32) M) (fun M3 => fX9_isRoom_18 x1 M3) else fX9_isRoom_18 x1 M)
set_option maxRecDepth 100000 in
theorem CX9_isRoom_0 {G : gG} {d : Nat} {Z : Option Value → gMem → Prop} (hd : 2 ≤ d) (x1 : Int32) (x2 : Int32) (x3 : Int32) (M : gMem) (P : Int32 × gMem → Prop) (k0 : ∀ (r : Int32) (N : gMem), P (r, N) → Z (some (.int r)) N) (h : gOKq (fX9_isRoom_0 x1 x2 x3 M) P) : gGo G YX9_isRoom d Z 0 [some (.ref 141), some (.int x1), some (.int x2), some (.int x3)] [] M := by
  unfold fX9_isRoom_0 at h
  refine go_rn 1 (pc' := 1) (L' := [some (.ref 141), some (.int x1), some (.int x2), some (.int x3)]) (S' := [.int x1]) (M' := M) okX9_isRoom rfl ?_
  refine go_br okX9_isRoom rfl (fun hp => ?_) (fun hp => ?_)
  · have h := gq_pos hp h
    exact go_wk (CX9_isRoom_18 hd x1 M P k0 h) ⟨rfl, rfl, True.intro⟩
  · have h := gq_neg hp h
    refine go_rn 2 (pc' := 6) (L' := [some (.ref 141), some (.int x1), some (.int x2), some (.int x3)]) (S' := [.int x2, .ref 141]) (M' := M) okX9_isRoom rfl ?_
    obtain ⟨r1, e2, h⟩ := gB0_ok h
    refine go_call1 ocX9_isRoom rfl rfl (gOb_c rfl) rfl (SX9_hasRead x2 M e2) (Nat.lt_of_lt_of_le (by decide) hd) ?_
    refine go_rn 1 (pc' := 10) (L' := [some (.ref 141), some (.int x1), some (.int x2), some (.int x3)]) (S' := [.int x3, .int r1]) (M' := M) okX9_isRoom rfl ?_
    refine go_br okX9_isRoom rfl (fun hp => ?_) (fun hp => ?_)
    · have h := gq_pos hp h
      refine go_rn 2 (pc' := 15) (L' := [some (.ref 141), some (.int x1), some (.int x2), some (.int x3)]) (S' := [.int (3 : Int32), .ref 141]) (M' := M) okX9_isRoom rfl ?_
      obtain ⟨M3, e4, h⟩ := gB0_ok h
      refine go_call1 ocX9_isRoom rfl rfl (gOb_c rfl) rfl (SX9_errs (3 : Int32) M e4) (Nat.lt_of_lt_of_le (by decide) hd) ?_
      exact go_wk (CX9_isRoom_18 hd x1 M3 P k0 h) ⟨rfl, rfl, True.intro⟩
    · have h := gq_neg hp h
      exact go_wk (CX9_isRoom_18 hd x1 M P k0 h) ⟨rfl, rfl, True.intro⟩
def fX9_isRoom (a1 : Int32) (a2 : Int32) (a3 : Int32) (M : gMem) : Option (Int32 × gMem) := fX9_isRoom_0 a1 a2 a3 M
theorem SX9_isRoom {G : gG} (a1 : Int32) (a2 : Int32) (a3 : Int32) (M : gMem) {r : Int32} {N : gMem} (h : fX9_isRoom a1 a2 a3 M = some (r, N)) : gRun G YX9_isRoom 2 [.ref 141, .int a1, .int a2, .int a3] M (fun r' N' => r' = some (.int r) ∧ N' = N) := gRun_in (by decide +kernel) rfl (fun d hd => go_wk (CX9_isRoom_0 hd a1 a2 a3 M (fun p => p = (r, N)) (fun r N hh => by cases hh; exact ⟨rfl, rfl⟩) (gq_of h)) ⟨rfl, rfl, rfl, rfl, True.intro⟩)
def fX9_lineHere_117 (M : gMem) : Option (gMem) :=
  if (M.1 141 12) = 0 then gB0 (fX9_errs (1 : Int32) M) (fun M1 => some M1) else some M
set_option maxRecDepth 100000 in
theorem CX9_lineHere_117 {G : gG} {d : Nat} {Z : Option Value → gMem → Prop} (hd : 6 ≤ d) (M : gMem) (P : gMem → Prop) (k0 : ∀ (N : gMem), P N → Z none N) (h : gOKq (fX9_lineHere_117 M) P) : gGo G YX9_lineHere d Z 117 [some (.ref 141)] [] M := by
  unfold fX9_lineHere_117 at h
  refine go_rn 1 (pc' := 118) (L' := [some (.ref 141)]) (S' := [.ref 141]) (M' := M) okX9_lineHere rfl ?_
  refine go_ck okX9_lineHere rfl (gOb_c rfl) ?_
  refine go_br okX9_lineHere rfl (fun hp => ?_) (fun hp => ?_)
  · have h := gq_pos hp h
    refine go_rn 2 (pc' := 126) (L' := [some (.ref 141)]) (S' := [.int (1 : Int32), .ref 141]) (M' := M) okX9_lineHere rfl ?_
    obtain ⟨M1, e2, h⟩ := gB0_ok h
    refine go_call1 ocX9_lineHere rfl rfl (gOb_c rfl) rfl (SX9_errs (1 : Int32) M e2) (Nat.lt_of_lt_of_le (by decide) hd) ?_
    exact go_vret (reX9_lineHere _ (by decide)) rfl (k0 M1 h)
  · have h := gq_neg hp h
    exact go_vret (reX9_lineHere _ (by decide)) rfl (k0 M h)
def fX9_lineHere_86 (M : gMem) : Option (gMem) :=
  if (M.1 141 12) = 0 then gB0 (fX9_is (70312 : Int64) M) (fun r1 => gBp (fX9_isRoom r1 (7 : Int32) (5 : Int32) M) (fun r3 M4 => if r3 = 0 then fX9_lineHere_117 M4 else gB0 (fX9_coldLine M4) (fun M6 => some M6))) else fX9_lineHere_117 M
set_option maxRecDepth 100000 in
theorem CX9_lineHere_86 {G : gG} {d : Nat} {Z : Option Value → gMem → Prop} (hd : 6 ≤ d) (M : gMem) (P : gMem → Prop) (k0 : ∀ (N : gMem), P N → Z none N) (h : gOKq (fX9_lineHere_86 M) P) : gGo G YX9_lineHere d Z 86 [some (.ref 141)] [] M := by
  unfold fX9_lineHere_86 at h
  refine go_rn 1 (pc' := 87) (L' := [some (.ref 141)]) (S' := [.ref 141]) (M' := M) okX9_lineHere rfl ?_
  refine go_ck okX9_lineHere rfl (gOb_c rfl) ?_
  refine go_br okX9_lineHere rfl (fun hp => ?_) (fun hp => ?_)
  · have h := gq_pos hp h
    refine go_rn 3 (pc' := 98) (L' := [some (.ref 141)]) (S' := [.long (70312 : Int64), .ref 141, .ref 141]) (M' := M) okX9_lineHere rfl ?_
    obtain ⟨r1, e2, h⟩ := gB0_ok h
    refine go_call1 ocX9_lineHere rfl rfl (gOb_c rfl) rfl (SX9_is (70312 : Int64) M e2) (Nat.lt_of_lt_of_le (by decide) hd) ?_
    refine go_rn 2 (pc' := 104) (L' := [some (.ref 141)]) (S' := [.int (5 : Int32), .int (7 : Int32), .int r1, .ref 141]) (M' := M) okX9_lineHere rfl ?_
    obtain ⟨r3, M4, e5, h⟩ := gBp_ok h
    refine go_call1 ocX9_lineHere rfl rfl (gOb_c rfl) rfl (SX9_isRoom r1 (7 : Int32) (5 : Int32) M e5) (Nat.lt_of_lt_of_le (by decide) hd) ?_
    refine go_br okX9_lineHere rfl (fun hp => ?_) (fun hp => ?_)
    · have h := gq_pos hp h
      exact go_wk (CX9_lineHere_117 hd M4 P k0 h) ⟨rfl, True.intro⟩
    · have h := gq_neg hp h
      refine go_rn 1 (pc' := 111) (L' := [some (.ref 141)]) (S' := [.ref 141]) (M' := M4) okX9_lineHere rfl ?_
      obtain ⟨M6, e7, h⟩ := gB0_ok h
      refine go_call1 ocX9_lineHere rfl rfl (gOb_c rfl) rfl (SX9_coldLine M4 e7) (Nat.lt_of_lt_of_le (by decide) hd) ?_
      refine go_rn 1 (pc' := 129) (L' := [some (.ref 141)]) (S' := []) (M' := M6) okX9_lineHere rfl ?_
      exact go_vret (reX9_lineHere _ (by decide)) rfl (k0 M6 h)
  · have h := gq_neg hp h
    exact go_wk (CX9_lineHere_117 hd M P k0 h) ⟨rfl, True.intro⟩
def fX9_lineHere_55 (M : gMem) : Option (gMem) :=
  if (M.1 141 12) = 0 then gB0 (fX9_is (90090 : Int64) M) (fun r1 => gBp (fX9_isRoom r1 (6 : Int32) (5 : Int32) M) (fun r3 M4 => if r3 = 0 then fX9_lineHere_86 M4 else gB0 (fX9_doorLine M4) (fun M6 => some M6))) else fX9_lineHere_86 M
set_option maxRecDepth 100000 in
theorem CX9_lineHere_55 {G : gG} {d : Nat} {Z : Option Value → gMem → Prop} (hd : 6 ≤ d) (M : gMem) (P : gMem → Prop) (k0 : ∀ (N : gMem), P N → Z none N) (h : gOKq (fX9_lineHere_55 M) P) : gGo G YX9_lineHere d Z 55 [some (.ref 141)] [] M := by
  unfold fX9_lineHere_55 at h
  refine go_rn 1 (pc' := 56) (L' := [some (.ref 141)]) (S' := [.ref 141]) (M' := M) okX9_lineHere rfl ?_
  refine go_ck okX9_lineHere rfl (gOb_c rfl) ?_
  refine go_br okX9_lineHere rfl (fun hp => ?_) (fun hp => ?_)
  · have h := gq_pos hp h
    refine go_rn 3 (pc' := 67) (L' := [some (.ref 141)]) (S' := [.long (90090 : Int64), .ref 141, .ref 141]) (M' := M) okX9_lineHere rfl ?_
    obtain ⟨r1, e2, h⟩ := gB0_ok h
    refine go_call1 ocX9_lineHere rfl rfl (gOb_c rfl) rfl (SX9_is (90090 : Int64) M e2) (Nat.lt_of_lt_of_le (by decide) hd) ?_
    refine go_rn 2 (pc' := 73) (L' := [some (.ref 141)]) (S' := [.int (5 : Int32), .int (6 : Int32), .int r1, .ref 141]) (M' := M) okX9_lineHere rfl ?_
    obtain ⟨r3, M4, e5, h⟩ := gBp_ok h
    refine go_call1 ocX9_lineHere rfl rfl (gOb_c rfl) rfl (SX9_isRoom r1 (6 : Int32) (5 : Int32) M e5) (Nat.lt_of_lt_of_le (by decide) hd) ?_
    refine go_br okX9_lineHere rfl (fun hp => ?_) (fun hp => ?_)
    · have h := gq_pos hp h
      exact go_wk (CX9_lineHere_86 hd M4 P k0 h) ⟨rfl, True.intro⟩
    · have h := gq_neg hp h
      refine go_rn 1 (pc' := 80) (L' := [some (.ref 141)]) (S' := [.ref 141]) (M' := M4) okX9_lineHere rfl ?_
      obtain ⟨M6, e7, h⟩ := gB0_ok h
      refine go_call1 ocX9_lineHere rfl rfl (gOb_c rfl) rfl (SX9_doorLine M4 e7) (Nat.lt_of_lt_of_le (by decide) hd) ?_
      refine go_rn 1 (pc' := 129) (L' := [some (.ref 141)]) (S' := []) (M' := M6) okX9_lineHere rfl ?_
      exact go_vret (reX9_lineHere _ (by decide)) rfl (k0 M6 h)
  · have h := gq_neg hp h
    exact go_wk (CX9_lineHere_86 hd M P k0 h) ⟨rfl, True.intro⟩
def fX9_lineHere_0 (M : gMem) : Option (gMem) :=
  gB0 (fX9_is (6223046688 : Int64) M) (fun r1 => gBp (fX9_isRoom r1 (4 : Int32) (6 : Int32) M) (fun r3 M4 => if r3 = 0 then if (M4.1 141 12) = 0 then gB0 (fX9_is (208022 : Int64) M4) (fun r6 => gBp (fX9_isRoom r6 (5 : Int32) (7 : Int32) M4) (fun r8 M9 => if r8 = 0 then fX9_lineHere_55 M9 else gB0 (fX9_joinLine M9) (fun M11 => some M11))) else fX9_lineHere_55 M4 else gB0 (fX9_partnerLine M4) (fun M13 => some M13)))
set_option maxRecDepth 100000 in
theorem CX9_lineHere_0 {G : gG} {d : Nat} {Z : Option Value → gMem → Prop} (hd : 6 ≤ d) (M : gMem) (P : gMem → Prop) (k0 : ∀ (N : gMem), P N → Z none N) (h : gOKq (fX9_lineHere_0 M) P) : gGo G YX9_lineHere d Z 0 [some (.ref 141)] [] M := by
  unfold fX9_lineHere_0 at h
  refine go_rn 3 (pc' := 5) (L' := [some (.ref 141)]) (S' := [.long (6223046688 : Int64), .ref 141, .ref 141]) (M' := M) okX9_lineHere rfl ?_
  obtain ⟨r1, e2, h⟩ := gB0_ok h
  refine go_call1 ocX9_lineHere rfl rfl (gOb_c rfl) rfl (SX9_is (6223046688 : Int64) M e2) (Nat.lt_of_lt_of_le (by decide) hd) ?_
  refine go_rn 2 (pc' := 11) (L' := [some (.ref 141)]) (S' := [.int (6 : Int32), .int (4 : Int32), .int r1, .ref 141]) (M' := M) okX9_lineHere rfl ?_
  obtain ⟨r3, M4, e5, h⟩ := gBp_ok h
  refine go_call1 ocX9_lineHere rfl rfl (gOb_c rfl) rfl (SX9_isRoom r1 (4 : Int32) (6 : Int32) M e5) (Nat.lt_of_lt_of_le (by decide) hd) ?_
  refine go_br okX9_lineHere rfl (fun hp => ?_) (fun hp => ?_)
  · have h := gq_pos hp h
    refine go_rn 1 (pc' := 25) (L' := [some (.ref 141)]) (S' := [.ref 141]) (M' := M4) okX9_lineHere rfl ?_
    refine go_ck okX9_lineHere rfl (gOb_c rfl) ?_
    refine go_br okX9_lineHere rfl (fun hp => ?_) (fun hp => ?_)
    · have h := gq_pos hp h
      refine go_rn 3 (pc' := 36) (L' := [some (.ref 141)]) (S' := [.long (208022 : Int64), .ref 141, .ref 141]) (M' := M4) okX9_lineHere rfl ?_
      obtain ⟨r6, e7, h⟩ := gB0_ok h
      refine go_call1 ocX9_lineHere rfl rfl (gOb_c rfl) rfl (SX9_is (208022 : Int64) M4 e7) (Nat.lt_of_lt_of_le (by decide) hd) ?_
      refine go_rn 2 (pc' := 42) (L' := [some (.ref 141)]) (S' := [.int (7 : Int32), .int (5 : Int32), .int r6, .ref 141]) (M' := M4) okX9_lineHere rfl ?_
      obtain ⟨r8, M9, e10, h⟩ := gBp_ok h
      refine go_call1 ocX9_lineHere rfl rfl (gOb_c rfl) rfl (SX9_isRoom r6 (5 : Int32) (7 : Int32) M4 e10) (Nat.lt_of_lt_of_le (by decide) hd) ?_
      refine go_br okX9_lineHere rfl (fun hp => ?_) (fun hp => ?_)
      · have h := gq_pos hp h
        exact go_wk (CX9_lineHere_55 hd M9 P k0 h) ⟨rfl, True.intro⟩
      · have h := gq_neg hp h
        refine go_rn 1 (pc' := 49) (L' := [some (.ref 141)]) (S' := [.ref 141]) (M' := M9) okX9_lineHere rfl ?_
        obtain ⟨M11, e12, h⟩ := gB0_ok h
        refine go_call1 ocX9_lineHere rfl rfl (gOb_c rfl) rfl (SX9_joinLine M9 e12) (Nat.lt_of_lt_of_le (by decide) hd) ?_
        refine go_rn 1 (pc' := 129) (L' := [some (.ref 141)]) (S' := []) (M' := M11) okX9_lineHere rfl ?_
        exact go_vret (reX9_lineHere _ (by decide)) rfl (k0 M11 h)
    · have h := gq_neg hp h
      exact go_wk (CX9_lineHere_55 hd M4 P k0 h) ⟨rfl, True.intro⟩
  · have h := gq_neg hp h
    refine go_rn 1 (pc' := 18) (L' := [some (.ref 141)]) (S' := [.ref 141]) (M' := M4) okX9_lineHere rfl ?_
    obtain ⟨M13, e14, h⟩ := gB0_ok h
    refine go_call1 ocX9_lineHere rfl rfl (gOb_c rfl) rfl (SX9_partnerLine M4 e14) (Nat.lt_of_lt_of_le (by decide) hd) ?_
    refine go_rn 1 (pc' := 129) (L' := [some (.ref 141)]) (S' := []) (M' := M13) okX9_lineHere rfl ?_
    exact go_vret (reX9_lineHere _ (by decide)) rfl (k0 M13 h)
def fX9_lineHere (M : gMem) : Option (gMem) := fX9_lineHere_0 M
theorem SX9_lineHere {G : gG} (M : gMem) {N : gMem} (h : fX9_lineHere M = some N) : gRun G YX9_lineHere 6 [.ref 141] M (fun r' N' => r' = none ∧ N' = N) := gRun_in (by decide +kernel) rfl (fun d hd => go_wk (CX9_lineHere_0 hd M (fun p => p = N) (fun N hh => ⟨rfl, hh⟩) (gq_of h)) ⟨rfl, True.intro⟩)
def fX9_clears_9 (x1 : Int32) (M : gMem) : Option (Sum (Int32 × gMem) (gMem)) :=
  if (9 : Int32) ≤ x1 then some (.inr M) else gB0 (fX9_tells x1 (0 : Int32) M) (fun M1 => some (.inl ((x1 + 1), M1)))
set_option maxRecDepth 100000 in
theorem CX9_clears_9 {G : gG} {d : Nat} {Z : Option Value → gMem → Prop} (hd : 1 ≤ d) (x1 : Int32) (M : gMem) (P : Sum (Int32 × gMem) (gMem) → Prop) (k0 : ∀ (N : gMem), P (.inr N) → Z none N) (k1 : ∀ (x1 : Int32) (M : gMem), P (.inl (x1, M)) → gGo G YX9_clears d Z 9 [some (.ref 141), some (.int x1)] [] M) (h : gOKq (fX9_clears_9 x1 M) P) : gGo G YX9_clears d Z 9 [some (.ref 141), some (.int x1)] [] M := by
  unfold fX9_clears_9 at h
  refine go_rn 2 (pc' := 12) (L' := [some (.ref 141), some (.int x1)]) (S' := [.int (9 : Int32), .int x1]) (M' := M) okX9_clears rfl ?_
  refine go_br okX9_clears rfl (fun hp => ?_) (fun hp => ?_)
  · have h := gq_pos hp h
    exact go_vret (reX9_clears _ (by decide)) rfl (k0 M h)
  · have h := gq_neg hp h
    refine go_rn 3 (pc' := 18) (L' := [some (.ref 141), some (.int x1)]) (S' := [.int (0 : Int32), .int x1, .ref 141]) (M' := M) okX9_clears rfl ?_
    obtain ⟨M1, e2, h⟩ := gB0_ok h
    refine go_call1 ocX9_clears rfl rfl (gOb_c rfl) rfl (SX9_tells x1 (0 : Int32) M e2) (Nat.lt_of_lt_of_le (by decide) hd) ?_
    refine go_rn 2 (pc' := 9) (L' := [some (.ref 141), some (.int (x1 + 1))]) (S' := []) (M' := M1) okX9_clears rfl ?_
    exact go_wk (k1 ((x1 + 1)) M1 h) ⟨rfl, rfl, True.intro⟩
def fX9_clears_9h (x1 : Int32) (M : gMem) : Option (gMem) :=
  gLp (fun s : Int32 × gMem => fX9_clears_9 (s.1) s.2) gFu (x1, M)
set_option maxRecDepth 100000 in
theorem CX9_clears_9h {G : gG} {d : Nat} {Z : Option Value → gMem → Prop} (hd : 1 ≤ d) (x1 : Int32) (M : gMem) (P : gMem → Prop) (k0 : ∀ (N : gMem), P N → Z none N) (h : gOKq (fX9_clears_9h x1 M) P) : gGo G YX9_clears d Z 9 [some (.ref 141), some (.int x1)] [] M :=
  gLp_go (K := fun s : Int32 × gMem => gGo G YX9_clears d Z 9 [some (.ref 141), some (.int s.1)] [] s.2) (P := P) (fun s hs => CX9_clears_9 hd (s.1) (s.2) (Sum.elim (fun s : Int32 × gMem => gGo G YX9_clears d Z 9 [some (.ref 141), some (.int s.1)] [] s.2) P) k0 (fun x1 M hh => hh) hs) gFu (x1, M) h
def fX9_clears_0 (M : gMem) : Option (gMem) :=
  if gIx 1 147 (4 : Int32) = true then fX9_clears_9h (0 : Int32) (gSI M 147 (Int32.toNatClampNeg (4 : Int32)) (0 : Int32)) else none
set_option maxRecDepth 100000 in
theorem CX9_clears_0 {G : gG} {d : Nat} {Z : Option Value → gMem → Prop} (hd : 1 ≤ d) (M : gMem) (P : gMem → Prop) (k0 : ∀ (N : gMem), P N → Z none N) (h : gOKq (fX9_clears_0 M) P) : gGo G YX9_clears d Z 0 [some (.ref 141), none] [] M := by
  unfold fX9_clears_0 at h
  refine go_rn 1 (pc' := 1) (L' := [some (.ref 141), none]) (S' := [.ref 141]) (M' := M) okX9_clears rfl ?_
  refine go_ck okX9_clears rfl (gOb_c rfl) ?_
  refine go_rn 2 (pc' := 6) (L' := [some (.ref 141), none]) (S' := [.int (0 : Int32), .int (4 : Int32), .ref 147]) (M' := M) okX9_clears rfl ?_
  obtain ⟨c1, h⟩ := gq_if h
  refine go_ck okX9_clears rfl c1 ?_
  refine go_rn 2 (pc' := 9) (L' := [some (.ref 141), some (.int (0 : Int32))]) (S' := []) (M' := (gSI M 147 (Int32.toNatClampNeg (4 : Int32)) (0 : Int32))) okX9_clears rfl ?_
  exact go_wk (CX9_clears_9h hd (0 : Int32) (gSI M 147 (Int32.toNatClampNeg (4 : Int32)) (0 : Int32)) P k0 h) ⟨rfl, rfl, True.intro⟩
def fX9_clears (M : gMem) : Option (gMem) := fX9_clears_0 M
theorem SX9_clears {G : gG} (M : gMem) {N : gMem} (h : fX9_clears M = some N) : gRun G YX9_clears 1 [.ref 141] M (fun r' N' => r' = none ∧ N' = N) := gRun_in (by decide +kernel) rfl (fun d hd => go_wk (CX9_clears_0 hd M (fun p => p = N) (fun N hh => ⟨rfl, hh⟩) (gq_of h)) ⟨rfl, True.intro⟩)
def fX9_copyRow_3 (x0 : Nat) (x1 : Int32) (x2 : Int32) (x3 : Int32) (x4 : Int32) (M : gMem) : Option (Sum (Int32 × gMem) (gMem)) :=
  if x1 ≤ x4 then some (.inr M) else if gIx 1 x0 ((x1 * x2) + x4) = true then if gIx 1 x0 ((x1 * x3) + x4) = true then some (.inl ((x4 + 1), (gSI M x0 (Int32.toNatClampNeg ((x1 * x3) + x4)) (M.1 x0 (Int32.toNatClampNeg ((x1 * x2) + x4)))))) else none else none
set_option maxRecDepth 100000 in
theorem CX9_copyRow_3 {G : gG} {d : Nat} {Z : Option Value → gMem → Prop} (hd : 0 ≤ d) (x0 : Nat) (x1 : Int32) (x2 : Int32) (x3 : Int32) (x4 : Int32) (M : gMem) (P : Sum (Int32 × gMem) (gMem) → Prop) (k0 : ∀ (N : gMem), P (.inr N) → Z none N) (k1 : ∀ (x4 : Int32) (M : gMem), P (.inl (x4, M)) → gGo G YX9_copyRow d Z 3 [some (.ref x0), some (.int x1), some (.int x2), some (.int x3), some (.int x4)] [] M) (h : gOKq (fX9_copyRow_3 x0 x1 x2 x3 x4 M) P) : gGo G YX9_copyRow d Z 3 [some (.ref x0), some (.int x1), some (.int x2), some (.int x3), some (.int x4)] [] M := by
  unfold fX9_copyRow_3 at h
  refine go_rn 2 (pc' := 6) (L' := [some (.ref x0), some (.int x1), some (.int x2), some (.int x3), some (.int x4)]) (S' := [.int x1, .int x4]) (M' := M) okX9_copyRow rfl ?_
  refine go_br okX9_copyRow rfl (fun hp => ?_) (fun hp => ?_)
  · have h := gq_pos hp h
    exact go_vret (reX9_copyRow _ (by decide)) rfl (k0 M h)
  · have h := gq_neg hp h
    refine go_rn 12 (pc' := 23) (L' := [some (.ref x0), some (.int x1), some (.int x2), some (.int x3), some (.int x4)]) (S' := [.int ((x1 * x2) + x4), .ref x0, .int ((x1 * x3) + x4), .ref x0]) (M' := M) okX9_copyRow rfl ?_
    obtain ⟨c1, h⟩ := gq_if h
    refine go_ck okX9_copyRow rfl c1 ?_
    obtain ⟨c2, h⟩ := gq_if h
    refine go_ck okX9_copyRow rfl c2 ?_
    refine go_rn 2 (pc' := 3) (L' := [some (.ref x0), some (.int x1), some (.int x2), some (.int x3), some (.int (x4 + 1))]) (S' := []) (M' := (gSI M x0 (Int32.toNatClampNeg ((x1 * x3) + x4)) (M.1 x0 (Int32.toNatClampNeg ((x1 * x2) + x4))))) okX9_copyRow rfl ?_
    exact go_wk (k1 ((x4 + 1)) (gSI M x0 (Int32.toNatClampNeg ((x1 * x3) + x4)) (M.1 x0 (Int32.toNatClampNeg ((x1 * x2) + x4)))) h) ⟨rfl, rfl, rfl, rfl, rfl, True.intro⟩
def fX9_copyRow_3h (x0 : Nat) (x1 : Int32) (x2 : Int32) (x3 : Int32) (x4 : Int32) (M : gMem) : Option (gMem) :=
  gLp (fun s : Int32 × gMem => fX9_copyRow_3 x0 x1 x2 x3 (s.1) s.2) gFu (x4, M)
set_option maxRecDepth 100000 in
theorem CX9_copyRow_3h {G : gG} {d : Nat} {Z : Option Value → gMem → Prop} (hd : 0 ≤ d) (x0 : Nat) (x1 : Int32) (x2 : Int32) (x3 : Int32) (x4 : Int32) (M : gMem) (P : gMem → Prop) (k0 : ∀ (N : gMem), P N → Z none N) (h : gOKq (fX9_copyRow_3h x0 x1 x2 x3 x4 M) P) : gGo G YX9_copyRow d Z 3 [some (.ref x0), some (.int x1), some (.int x2), some (.int x3), some (.int x4)] [] M :=
  gLp_go (K := fun s : Int32 × gMem => gGo G YX9_copyRow d Z 3 [some (.ref x0), some (.int x1), some (.int x2), some (.int x3), some (.int s.1)] [] s.2) (P := P) (fun s hs => CX9_copyRow_3 hd (x0) (x1) (x2) (x3) (s.1) (s.2) (Sum.elim (fun s : Int32 × gMem => gGo G YX9_copyRow d Z 3 [some (.ref x0), some (.int x1), some (.int x2), some (.int x3), some (.int s.1)] [] s.2) P) k0 (fun x4 M hh => hh) hs) gFu (x4, M) h
def fX9_copyRow_0 (x0 : Nat) (x1 : Int32) (x2 : Int32) (x3 : Int32) (M : gMem) : Option (gMem) :=
  fX9_copyRow_3h x0 x1 x2 x3 (0 : Int32) M
set_option maxRecDepth 100000 in
theorem CX9_copyRow_0 {G : gG} {d : Nat} {Z : Option Value → gMem → Prop} (hd : 0 ≤ d) (x0 : Nat) (x1 : Int32) (x2 : Int32) (x3 : Int32) (M : gMem) (P : gMem → Prop) (k0 : ∀ (N : gMem), P N → Z none N) (h : gOKq (fX9_copyRow_0 x0 x1 x2 x3 M) P) : gGo G YX9_copyRow d Z 0 [some (.ref x0), some (.int x1), some (.int x2), some (.int x3), none] [] M := by
  unfold fX9_copyRow_0 at h
  refine go_rn 2 (pc' := 3) (L' := [some (.ref x0), some (.int x1), some (.int x2), some (.int x3), some (.int (0 : Int32))]) (S' := []) (M' := M) okX9_copyRow rfl ?_
  exact go_wk (CX9_copyRow_3h hd x0 x1 x2 x3 (0 : Int32) M P k0 h) ⟨rfl, rfl, rfl, rfl, rfl, True.intro⟩
def fX9_copyRow (a0 : Nat) (a1 : Int32) (a2 : Int32) (a3 : Int32) (M : gMem) : Option (gMem) := fX9_copyRow_0 a0 a1 a2 a3 M
theorem SX9_copyRow {G : gG} (a0 : Nat) (a1 : Int32) (a2 : Int32) (a3 : Int32) (M : gMem) {N : gMem} (h : fX9_copyRow a0 a1 a2 a3 M = some N) : gRun G YX9_copyRow 0 [.ref a0, .int a1, .int a2, .int a3] M (fun r' N' => r' = none ∧ N' = N) := gRun_in (by decide +kernel) rfl (fun d hd => go_wk (CX9_copyRow_0 hd a0 a1 a2 a3 M (fun p => p = N) (fun N hh => ⟨rfl, hh⟩) (gq_of h)) ⟨rfl, rfl, rfl, rfl, True.intro⟩)
def fX9_copyCity_0 (x1 : Int32) (x2 : Int32) (M : gMem) : Option (gMem) :=
  gB0 (fX9_copyRow 147 (1 : Int32) x1 x2 M) (fun M1 => gB0 (fX9_copyRow 148 (9 : Int32) x1 x2 M1) (fun M3 => gB0 (fX9_copyRow 149 (18 : Int32) x1 x2 M3) (fun M5 => gB0 (fX9_copyRow 150 (21 : Int32) x1 x2 M5) (fun M7 => gB0 (fX9_copyRow 151 (5 : Int32) x1 x2 M7) (fun M9 => gB0 (fX9_copyRow 152 (10 : Int32) x1 x2 M9) (fun M11 => gB0 (fX9_copyRow 153 (120 : Int32) x1 x2 M11) (fun M13 => some M13)))))))
set_option maxRecDepth 100000 in
theorem CX9_copyCity_0 {G : gG} {d : Nat} {Z : Option Value → gMem → Prop} (hd : 1 ≤ d) (x1 : Int32) (x2 : Int32) (M : gMem) (P : gMem → Prop) (k0 : ∀ (N : gMem), P N → Z none N) (h : gOKq (fX9_copyCity_0 x1 x2 M) P) : gGo G YX9_copyCity d Z 0 [some (.ref 141), some (.int x1), some (.int x2)] [] M := by
  unfold fX9_copyCity_0 at h
  refine go_rn 1 (pc' := 1) (L' := [some (.ref 141), some (.int x1), some (.int x2)]) (S' := [.ref 141]) (M' := M) okX9_copyCity rfl ?_
  refine go_ck okX9_copyCity rfl (gOb_c rfl) ?_
  refine go_rn 3 (pc' := 7) (L' := [some (.ref 141), some (.int x1), some (.int x2)]) (S' := [.int x2, .int x1, .int (1 : Int32), .ref 147]) (M' := M) okX9_copyCity rfl ?_
  obtain ⟨M1, e2, h⟩ := gB0_ok h
  refine go_call1 ocX9_copyCity rfl rfl rfl rfl (SX9_copyRow 147 (1 : Int32) x1 x2 M e2) (Nat.lt_of_lt_of_le (by decide) hd) ?_
  refine go_rn 1 (pc' := 11) (L' := [some (.ref 141), some (.int x1), some (.int x2)]) (S' := [.ref 141]) (M' := M1) okX9_copyCity rfl ?_
  refine go_ck okX9_copyCity rfl (gOb_c rfl) ?_
  refine go_rn 3 (pc' := 18) (L' := [some (.ref 141), some (.int x1), some (.int x2)]) (S' := [.int x2, .int x1, .int (9 : Int32), .ref 148]) (M' := M1) okX9_copyCity rfl ?_
  obtain ⟨M3, e4, h⟩ := gB0_ok h
  refine go_call1 ocX9_copyCity rfl rfl rfl rfl (SX9_copyRow 148 (9 : Int32) x1 x2 M1 e4) (Nat.lt_of_lt_of_le (by decide) hd) ?_
  refine go_rn 1 (pc' := 22) (L' := [some (.ref 141), some (.int x1), some (.int x2)]) (S' := [.ref 141]) (M' := M3) okX9_copyCity rfl ?_
  refine go_ck okX9_copyCity rfl (gOb_c rfl) ?_
  refine go_rn 3 (pc' := 29) (L' := [some (.ref 141), some (.int x1), some (.int x2)]) (S' := [.int x2, .int x1, .int (18 : Int32), .ref 149]) (M' := M3) okX9_copyCity rfl ?_
  obtain ⟨M5, e6, h⟩ := gB0_ok h
  refine go_call1 ocX9_copyCity rfl rfl rfl rfl (SX9_copyRow 149 (18 : Int32) x1 x2 M3 e6) (Nat.lt_of_lt_of_le (by decide) hd) ?_
  refine go_rn 1 (pc' := 33) (L' := [some (.ref 141), some (.int x1), some (.int x2)]) (S' := [.ref 141]) (M' := M5) okX9_copyCity rfl ?_
  refine go_ck okX9_copyCity rfl (gOb_c rfl) ?_
  refine go_rn 3 (pc' := 40) (L' := [some (.ref 141), some (.int x1), some (.int x2)]) (S' := [.int x2, .int x1, .int (21 : Int32), .ref 150]) (M' := M5) okX9_copyCity rfl ?_
  obtain ⟨M7, e8, h⟩ := gB0_ok h
  refine go_call1 ocX9_copyCity rfl rfl rfl rfl (SX9_copyRow 150 (21 : Int32) x1 x2 M5 e8) (Nat.lt_of_lt_of_le (by decide) hd) ?_
  refine go_rn 1 (pc' := 44) (L' := [some (.ref 141), some (.int x1), some (.int x2)]) (S' := [.ref 141]) (M' := M7) okX9_copyCity rfl ?_
  refine go_ck okX9_copyCity rfl (gOb_c rfl) ?_
  refine go_rn 3 (pc' := 50) (L' := [some (.ref 141), some (.int x1), some (.int x2)]) (S' := [.int x2, .int x1, .int (5 : Int32), .ref 151]) (M' := M7) okX9_copyCity rfl ?_
  obtain ⟨M9, e10, h⟩ := gB0_ok h
  refine go_call1 ocX9_copyCity rfl rfl rfl rfl (SX9_copyRow 151 (5 : Int32) x1 x2 M7 e10) (Nat.lt_of_lt_of_le (by decide) hd) ?_
  refine go_rn 1 (pc' := 54) (L' := [some (.ref 141), some (.int x1), some (.int x2)]) (S' := [.ref 141]) (M' := M9) okX9_copyCity rfl ?_
  refine go_ck okX9_copyCity rfl (gOb_c rfl) ?_
  refine go_rn 3 (pc' := 61) (L' := [some (.ref 141), some (.int x1), some (.int x2)]) (S' := [.int x2, .int x1, .int (10 : Int32), .ref 152]) (M' := M9) okX9_copyCity rfl ?_
  obtain ⟨M11, e12, h⟩ := gB0_ok h
  refine go_call1 ocX9_copyCity rfl rfl rfl rfl (SX9_copyRow 152 (10 : Int32) x1 x2 M9 e12) (Nat.lt_of_lt_of_le (by decide) hd) ?_
  refine go_rn 1 (pc' := 65) (L' := [some (.ref 141), some (.int x1), some (.int x2)]) (S' := [.ref 141]) (M' := M11) okX9_copyCity rfl ?_
  refine go_ck okX9_copyCity rfl (gOb_c rfl) ?_
  refine go_rn 3 (pc' := 72) (L' := [some (.ref 141), some (.int x1), some (.int x2)]) (S' := [.int x2, .int x1, .int (120 : Int32), .ref 153]) (M' := M11) okX9_copyCity rfl ?_
  obtain ⟨M13, e14, h⟩ := gB0_ok h
  refine go_call1 ocX9_copyCity rfl rfl rfl rfl (SX9_copyRow 153 (120 : Int32) x1 x2 M11 e14) (Nat.lt_of_lt_of_le (by decide) hd) ?_
  exact go_vret (reX9_copyCity _ (by decide)) rfl (k0 M13 h)
def fX9_copyCity (a1 : Int32) (a2 : Int32) (M : gMem) : Option (gMem) := fX9_copyCity_0 a1 a2 M
theorem SX9_copyCity {G : gG} (a1 : Int32) (a2 : Int32) (M : gMem) {N : gMem} (h : fX9_copyCity a1 a2 M = some N) : gRun G YX9_copyCity 1 [.ref 141, .int a1, .int a2] M (fun r' N' => r' = none ∧ N' = N) := gRun_in (by decide +kernel) rfl (fun d hd => go_wk (CX9_copyCity_0 hd a1 a2 M (fun p => p = N) (fun N hh => ⟨rfl, hh⟩) (gq_of h)) ⟨rfl, rfl, rfl, True.intro⟩)
def fX9_city_133 (M : gMem) : Option (Int32 × gMem) :=
  gB0 (fX9_isOver M) (fun M1 => if (M1.1 141 12) = 0 then gB0 (fX9_copyCity (4 : Int32) (0 : Int32) M1) (fun M3 => if gIx 1 147 (0 : Int32) = true then some ((M3.1 147 (Int32.toNatClampNeg (0 : Int32))), M3) else none) else some ((-4 : Int32), M1))
set_option maxRecDepth 100000 in
theorem CX9_city_133 {G : gG} {d : Nat} {Z : Option Value → gMem → Prop} (hd : 7 ≤ d) (M : gMem) (P : Int32 × gMem → Prop) (k0 : ∀ (r : Int32) (N : gMem), P (r, N) → Z (some (.int r)) N) (h : gOKq (fX9_city_133 M) P) : gGo G YX9_city d Z 133 [some (.ref 141)] [] M := by
  unfold fX9_city_133 at h
  refine go_rn 1 (pc' := 134) (L' := [some (.ref 141)]) (S' := [.ref 141]) (M' := M) okX9_city rfl ?_
  obtain ⟨M1, e2, h⟩ := gB0_ok h
  refine go_call1 ocX9_city rfl rfl (gOb_c rfl) rfl (SX9_isOver M e2) (Nat.lt_of_lt_of_le (by decide) hd) ?_
  refine go_rn 1 (pc' := 138) (L' := [some (.ref 141)]) (S' := [.ref 141]) (M' := M1) okX9_city rfl ?_
  refine go_ck okX9_city rfl (gOb_c rfl) ?_
  refine go_br okX9_city rfl (fun hp => ?_) (fun hp => ?_)
  · have h := gq_pos hp h
    refine go_rn 3 (pc' := 150) (L' := [some (.ref 141)]) (S' := [.int (0 : Int32), .int (4 : Int32), .ref 141]) (M' := M1) okX9_city rfl ?_
    obtain ⟨M3, e4, h⟩ := gB0_ok h
    refine go_call1 ocX9_city rfl rfl (gOb_c rfl) rfl (SX9_copyCity (4 : Int32) (0 : Int32) M1 e4) (Nat.lt_of_lt_of_le (by decide) hd) ?_
    refine go_rn 1 (pc' := 154) (L' := [some (.ref 141)]) (S' := [.ref 141]) (M' := M3) okX9_city rfl ?_
    refine go_ck okX9_city rfl (gOb_c rfl) ?_
    refine go_rn 1 (pc' := 158) (L' := [some (.ref 141)]) (S' := [.int (0 : Int32), .ref 147]) (M' := M3) okX9_city rfl ?_
    obtain ⟨c5, h⟩ := gq_if h
    refine go_ck okX9_city rfl c5 ?_
    exact go_iret (reX9_city _ (by decide)) rfl (k0 (M3.1 147 (Int32.toNatClampNeg (0 : Int32))) M3 h)
  · have h := gq_neg hp h
    refine go_rn 1 (pc' := 146) (L' := [some (.ref 141)]) (S' := [.int (-4 : Int32)]) (M' := M1) okX9_city rfl ?_
    exact go_iret (reX9_city _ (by decide)) rfl (k0 (-4 : Int32) M1 h)
def fX9_city_120 (M : gMem) : Option (Sum (gMem) (Int32 × gMem)) :=
  if gIx 1 147 (4 : Int32) = true then if gIx 1 147 (4 : Int32) = true then some (.inl ((gSI M 147 (Int32.toNatClampNeg (4 : Int32)) ((M.1 147 (Int32.toNatClampNeg (4 : Int32))) + (1 : Int32))))) else none else none
set_option maxRecDepth 100000 in
theorem CX9_city_120 {G : gG} {d : Nat} {Z : Option Value → gMem → Prop} (hd : 7 ≤ d) (M : gMem) (P : Sum (gMem) (Int32 × gMem) → Prop) (k0 : ∀ (r : Int32) (N : gMem), P (.inr (r, N)) → Z (some (.int r)) N) (k1 : ∀ (M : gMem), P (.inl (M)) → gGo G YX9_city d Z 13 [some (.ref 141)] [] M) (h : gOKq (fX9_city_120 M) P) : gGo G YX9_city d Z 120 [some (.ref 141)] [] M := by
  unfold fX9_city_120 at h
  refine go_rn 1 (pc' := 121) (L' := [some (.ref 141)]) (S' := [.ref 141]) (M' := M) okX9_city rfl ?_
  refine go_ck okX9_city rfl (gOb_c rfl) ?_
  refine go_rn 2 (pc' := 126) (L' := [some (.ref 141)]) (S' := [.int (4 : Int32), .ref 147, .int (4 : Int32), .ref 147]) (M' := M) okX9_city rfl ?_
  obtain ⟨c1, h⟩ := gq_if h
  refine go_ck okX9_city rfl c1 ?_
  refine go_rn 2 (pc' := 129) (L' := [some (.ref 141)]) (S' := [.int ((M.1 147 (Int32.toNatClampNeg (4 : Int32))) + (1 : Int32)), .int (4 : Int32), .ref 147]) (M' := M) okX9_city rfl ?_
  obtain ⟨c2, h⟩ := gq_if h
  refine go_ck okX9_city rfl c2 ?_
  refine go_rn 1 (pc' := 13) (L' := [some (.ref 141)]) (S' := []) (M' := (gSI M 147 (Int32.toNatClampNeg (4 : Int32)) ((M.1 147 (Int32.toNatClampNeg (4 : Int32))) + (1 : Int32)))) okX9_city rfl ?_
  exact go_wk (k1 (gSI M 147 (Int32.toNatClampNeg (4 : Int32)) ((M.1 147 (Int32.toNatClampNeg (4 : Int32))) + (1 : Int32))) h) ⟨rfl, True.intro⟩
def fX9_city_109 (M : gMem) : Option (Sum (gMem) (Int32 × gMem)) :=
  gB0 (fX9_isGood M) (fun r1 => if r1 = 0 then fX9_city_120 M else gB0 (fX9_ends M) (fun M3 => fX9_city_120 M3))
set_option maxRecDepth 100000 in
theorem CX9_city_109 {G : gG} {d : Nat} {Z : Option Value → gMem → Prop} (hd : 7 ≤ d) (M : gMem) (P : Sum (gMem) (Int32 × gMem) → Prop) (k0 : ∀ (r : Int32) (N : gMem), P (.inr (r, N)) → Z (some (.int r)) N) (k1 : ∀ (M : gMem), P (.inl (M)) → gGo G YX9_city d Z 13 [some (.ref 141)] [] M) (h : gOKq (fX9_city_109 M) P) : gGo G YX9_city d Z 109 [some (.ref 141)] [] M := by
  unfold fX9_city_109 at h
  refine go_rn 1 (pc' := 110) (L' := [some (.ref 141)]) (S' := [.ref 141]) (M' := M) okX9_city rfl ?_
  obtain ⟨r1, e2, h⟩ := gB0_ok h
  refine go_call1 ocX9_city rfl rfl (gOb_c rfl) rfl (SX9_isGood M e2) (Nat.lt_of_lt_of_le (by decide) hd) ?_
  refine go_br okX9_city rfl (fun hp => ?_) (fun hp => ?_)
  · have h := gq_pos hp h
    exact go_wk (CX9_city_120 hd M P k0 k1 h) ⟨rfl, True.intro⟩
  · have h := gq_neg hp h
    refine go_rn 1 (pc' := 117) (L' := [some (.ref 141)]) (S' := [.ref 141]) (M' := M) okX9_city rfl ?_
    obtain ⟨M3, e4, h⟩ := gB0_ok h
    refine go_call1 ocX9_city rfl rfl (gOb_c rfl) rfl (SX9_ends M e4) (Nat.lt_of_lt_of_le (by decide) hd) ?_
    exact go_wk (CX9_city_120 hd M3 P k0 k1 h) ⟨rfl, True.intro⟩
def fX9_city_13 (M : gMem) : Option (Sum (gMem) (Int32 × gMem)) :=
  gB0 (fX9_isGood M) (fun r1 => if r1 = 0 then gEx (fX9_city_133 M) else if (M.1 141 8) = 0 then gEx (fX9_city_133 M) else if gIx 1 147 (4 : Int32) = true then if (M.1 147 (Int32.toNatClampNeg (4 : Int32))) = 0 then gB0 (fX9_asks (66175 : Int64) M) (fun M4 => gBp (fX9_number_ (13385674 : Int64) (1 : Int32) (12 : Int32) M4) (fun r6 M7 => gB0 (fX9_tells (0 : Int32) r6 M7) (fun M9 => gBp (fX9_number_ (8798 : Int64) (0 : Int32) (3 : Int32) M9) (fun r11 M12 => gB0 (fX9_tells (1 : Int32) r11 M12) (fun M14 => gBp (fX9_number_ (10349251 : Int64) (0 : Int32) (20 : Int32) M14) (fun r16 M17 => gB0 (fX9_tells (2 : Int32) r16 M17) (fun M19 => gBp (fX9_number_ (298288 : Int64) (0 : Int32) (10 : Int32) M19) (fun r21 M22 => gB0 (fX9_tells (3 : Int32) r21 M22) (fun M24 => fX9_city_109 M24))))))))) else gB0 (fX9_lineHere M) (fun M26 => fX9_city_109 M26) else none)
set_option maxRecDepth 100000 in
theorem CX9_city_13 {G : gG} {d : Nat} {Z : Option Value → gMem → Prop} (hd : 7 ≤ d) (M : gMem) (P : Sum (gMem) (Int32 × gMem) → Prop) (k0 : ∀ (r : Int32) (N : gMem), P (.inr (r, N)) → Z (some (.int r)) N) (k1 : ∀ (M : gMem), P (.inl (M)) → gGo G YX9_city d Z 13 [some (.ref 141)] [] M) (h : gOKq (fX9_city_13 M) P) : gGo G YX9_city d Z 13 [some (.ref 141)] [] M := by
  unfold fX9_city_13 at h
  refine go_rn 1 (pc' := 14) (L' := [some (.ref 141)]) (S' := [.ref 141]) (M' := M) okX9_city rfl ?_
  obtain ⟨r1, e2, h⟩ := gB0_ok h
  refine go_call1 ocX9_city rfl rfl (gOb_c rfl) rfl (SX9_isGood M e2) (Nat.lt_of_lt_of_le (by decide) hd) ?_
  refine go_br okX9_city rfl (fun hp => ?_) (fun hp => ?_)
  · have h := gq_pos hp h
    exact go_wk (CX9_city_133 hd M (fun q => P (.inr q)) k0 (gEx_ok h)) ⟨rfl, True.intro⟩
  · have h := gq_neg hp h
    refine go_rn 1 (pc' := 21) (L' := [some (.ref 141)]) (S' := [.ref 141]) (M' := M) okX9_city rfl ?_
    refine go_ck okX9_city rfl (gOb_c rfl) ?_
    refine go_br okX9_city rfl (fun hp => ?_) (fun hp => ?_)
    · have h := gq_pos hp h
      exact go_wk (CX9_city_133 hd M (fun q => P (.inr q)) k0 (gEx_ok h)) ⟨rfl, True.intro⟩
    · have h := gq_neg hp h
      refine go_rn 1 (pc' := 28) (L' := [some (.ref 141)]) (S' := [.ref 141]) (M' := M) okX9_city rfl ?_
      refine go_ck okX9_city rfl (gOb_c rfl) ?_
      refine go_rn 1 (pc' := 32) (L' := [some (.ref 141)]) (S' := [.int (4 : Int32), .ref 147]) (M' := M) okX9_city rfl ?_
      obtain ⟨c3, h⟩ := gq_if h
      refine go_ck okX9_city rfl c3 ?_
      refine go_br okX9_city rfl (fun hp => ?_) (fun hp => ?_)
      · have h := gq_pos hp h
        refine go_rn 2 (pc' := 40) (L' := [some (.ref 141)]) (S' := [.long (66175 : Int64), .ref 141]) (M' := M) okX9_city rfl ?_
        obtain ⟨M4, e5, h⟩ := gB0_ok h
        refine go_call1 ocX9_city rfl rfl (gOb_c rfl) rfl (SX9_asks (66175 : Int64) M e5) (Nat.lt_of_lt_of_le (by decide) hd) ?_
        refine go_rn 6 (pc' := 52) (L' := [some (.ref 141)]) (S' := [.int (12 : Int32), .int (1 : Int32), .long (13385674 : Int64), .ref 141, .int (0 : Int32), .ref 141]) (M' := M4) okX9_city rfl ?_
        obtain ⟨r6, M7, e8, h⟩ := gBp_ok h
        refine go_call1 ocX9_city rfl rfl (gOb_c rfl) rfl (SX9_number_ (13385674 : Int64) (1 : Int32) (12 : Int32) M4 e8) (Nat.lt_of_lt_of_le (by decide) hd) ?_
        obtain ⟨M9, e10, h⟩ := gB0_ok h
        refine go_call1 ocX9_city rfl rfl (gOb_c rfl) rfl (SX9_tells (0 : Int32) r6 M7 e10) (Nat.lt_of_lt_of_le (by decide) hd) ?_
        refine go_rn 6 (pc' := 66) (L' := [some (.ref 141)]) (S' := [.int (3 : Int32), .int (0 : Int32), .long (8798 : Int64), .ref 141, .int (1 : Int32), .ref 141]) (M' := M9) okX9_city rfl ?_
        obtain ⟨r11, M12, e13, h⟩ := gBp_ok h
        refine go_call1 ocX9_city rfl rfl (gOb_c rfl) rfl (SX9_number_ (8798 : Int64) (0 : Int32) (3 : Int32) M9 e13) (Nat.lt_of_lt_of_le (by decide) hd) ?_
        obtain ⟨M14, e15, h⟩ := gB0_ok h
        refine go_call1 ocX9_city rfl rfl (gOb_c rfl) rfl (SX9_tells (1 : Int32) r11 M12 e15) (Nat.lt_of_lt_of_le (by decide) hd) ?_
        refine go_rn 6 (pc' := 81) (L' := [some (.ref 141)]) (S' := [.int (20 : Int32), .int (0 : Int32), .long (10349251 : Int64), .ref 141, .int (2 : Int32), .ref 141]) (M' := M14) okX9_city rfl ?_
        obtain ⟨r16, M17, e18, h⟩ := gBp_ok h
        refine go_call1 ocX9_city rfl rfl (gOb_c rfl) rfl (SX9_number_ (10349251 : Int64) (0 : Int32) (20 : Int32) M14 e18) (Nat.lt_of_lt_of_le (by decide) hd) ?_
        obtain ⟨M19, e20, h⟩ := gB0_ok h
        refine go_call1 ocX9_city rfl rfl (gOb_c rfl) rfl (SX9_tells (2 : Int32) r16 M17 e20) (Nat.lt_of_lt_of_le (by decide) hd) ?_
        refine go_rn 6 (pc' := 96) (L' := [some (.ref 141)]) (S' := [.int (10 : Int32), .int (0 : Int32), .long (298288 : Int64), .ref 141, .int (3 : Int32), .ref 141]) (M' := M19) okX9_city rfl ?_
        obtain ⟨r21, M22, e23, h⟩ := gBp_ok h
        refine go_call1 ocX9_city rfl rfl (gOb_c rfl) rfl (SX9_number_ (298288 : Int64) (0 : Int32) (10 : Int32) M19 e23) (Nat.lt_of_lt_of_le (by decide) hd) ?_
        obtain ⟨M24, e25, h⟩ := gB0_ok h
        refine go_call1 ocX9_city rfl rfl (gOb_c rfl) rfl (SX9_tells (3 : Int32) r21 M22 e25) (Nat.lt_of_lt_of_le (by decide) hd) ?_
        refine go_rn 1 (pc' := 109) (L' := [some (.ref 141)]) (S' := []) (M' := M24) okX9_city rfl ?_
        exact go_wk (CX9_city_109 hd M24 P k0 k1 h) ⟨rfl, True.intro⟩
      · have h := gq_neg hp h
        refine go_rn 1 (pc' := 106) (L' := [some (.ref 141)]) (S' := [.ref 141]) (M' := M) okX9_city rfl ?_
        obtain ⟨M26, e27, h⟩ := gB0_ok h
        refine go_call1 ocX9_city rfl rfl (gOb_c rfl) rfl (SX9_lineHere M e27) (Nat.lt_of_lt_of_le (by decide) hd) ?_
        exact go_wk (CX9_city_109 hd M26 P k0 k1 h) ⟨rfl, True.intro⟩
def fX9_city_13h (M : gMem) : Option (Int32 × gMem) :=
  gLp (fun s : gMem => fX9_city_13 s) gFu (M)
set_option maxRecDepth 100000 in
theorem CX9_city_13h {G : gG} {d : Nat} {Z : Option Value → gMem → Prop} (hd : 7 ≤ d) (M : gMem) (P : Int32 × gMem → Prop) (k0 : ∀ (r : Int32) (N : gMem), P (r, N) → Z (some (.int r)) N) (h : gOKq (fX9_city_13h M) P) : gGo G YX9_city d Z 13 [some (.ref 141)] [] M :=
  gLp_go (K := fun s : gMem => gGo G YX9_city d Z 13 [some (.ref 141)] [] s) (P := P) (fun s hs => CX9_city_13 hd s (Sum.elim (fun s : gMem => gGo G YX9_city d Z 13 [some (.ref 141)] [] s) P) k0 (fun M hh => hh) hs) gFu (M) h
def fX9_city_6 (M : gMem) : Option (Int32 × gMem) :=
  gB0 (fX9_clears M) (fun M1 => gB0 (fX9_begins M1) (fun M3 => fX9_city_13h M3))
set_option maxRecDepth 100000 in
theorem CX9_city_6 {G : gG} {d : Nat} {Z : Option Value → gMem → Prop} (hd : 7 ≤ d) (M : gMem) (P : Int32 × gMem → Prop) (k0 : ∀ (r : Int32) (N : gMem), P (r, N) → Z (some (.int r)) N) (h : gOKq (fX9_city_6 M) P) : gGo G YX9_city d Z 6 [some (.ref 141)] [.ref 141] M := by
  unfold fX9_city_6 at h
  obtain ⟨M1, e2, h⟩ := gB0_ok h
  refine go_call1 ocX9_city rfl rfl (gOb_c rfl) rfl (SX9_clears M e2) (Nat.lt_of_lt_of_le (by decide) hd) ?_
  refine go_rn 1 (pc' := 10) (L' := [some (.ref 141)]) (S' := [.ref 141]) (M' := M1) okX9_city rfl ?_
  obtain ⟨M3, e4, h⟩ := gB0_ok h
  refine go_call1 ocX9_city rfl rfl (gOb_c rfl) rfl (SX9_begins M1 e4) (Nat.lt_of_lt_of_le (by decide) hd) ?_
  exact go_wk (CX9_city_13h hd M3 P k0 h) ⟨rfl, True.intro⟩
def fX9_city_0 (M : gMem) : Option (Int32 × gMem) :=
  fX9_city_6 (gSI M 141 0 (0 : Int32))
set_option maxRecDepth 100000 in
theorem CX9_city_0 {G : gG} {d : Nat} {Z : Option Value → gMem → Prop} (hd : 7 ≤ d) (M : gMem) (P : Int32 × gMem → Prop) (k0 : ∀ (r : Int32) (N : gMem), P (r, N) → Z (some (.int r)) N) (h : gOKq (fX9_city_0 M) P) : gGo G YX9_city d Z 0 [some (.ref 141)] [] M := by
  unfold fX9_city_0 at h
  refine go_rn 2 (pc' := 2) (L' := [some (.ref 141)]) (S' := [.int (0 : Int32), .ref 141]) (M' := M) okX9_city rfl ?_
  refine go_ck okX9_city rfl (gOb_c rfl) ?_
  refine go_rn 1 (pc' := 6) (L' := [some (.ref 141)]) (S' := [.ref 141]) (M' := (gSI M 141 0 (0 : Int32))) okX9_city rfl ?_
  exact go_wk (CX9_city_6 hd (gSI M 141 0 (0 : Int32)) P k0 h) ⟨rfl, True.intro⟩
def fX9_city (M : gMem) : Option (Int32 × gMem) := fX9_city_0 M
theorem SX9_city {G : gG} (M : gMem) {r : Int32} {N : gMem} (h : fX9_city M = some (r, N)) : gRun G YX9_city 7 [.ref 141] M (fun r' N' => r' = some (.int r) ∧ N' = N) := gRun_in (by decide +kernel) rfl (fun d hd => go_wk (CX9_city_0 hd M (fun p => p = (r, N)) (fun r N hh => by cases hh; exact ⟨rfl, rfl⟩) (gq_of h)) ⟨rfl, True.intro⟩)
def fX9_isCity_0 (M : gMem) : Option (Int32) :=
  if gIx 1 147 (0 : Int32) = true then if (M.1 147 (Int32.toNatClampNeg (0 : Int32))) ≤ 0 then some (0 : Int32) else some (1 : Int32) else none
set_option maxRecDepth 100000 in
theorem CX9_isCity_0 {G : gG} {d : Nat} {Z : Option Value → gMem → Prop} (hd : 0 ≤ d) (M : gMem) (P : Int32 → Prop) (k0 : ∀ (r : Int32), P r → Z (some (.int r)) M) (h : gOKq (fX9_isCity_0 M) P) : gGo G YX9_isCity d Z 0 [some (.ref 141)] [] M := by
  unfold fX9_isCity_0 at h
  refine go_rn 1 (pc' := 1) (L' := [some (.ref 141)]) (S' := [.ref 141]) (M' := M) okX9_isCity rfl ?_
  refine go_ck okX9_isCity rfl (gOb_c rfl) ?_
  refine go_rn 1 (pc' := 5) (L' := [some (.ref 141)]) (S' := [.int (0 : Int32), .ref 147]) (M' := M) okX9_isCity rfl ?_
  obtain ⟨c1, h⟩ := gq_if h
  refine go_ck okX9_isCity rfl c1 ?_
  refine go_br okX9_isCity rfl (fun hp => ?_) (fun hp => ?_)
  · have h := gq_pos hp h
    refine go_rn 1 (pc' := 14) (L' := [some (.ref 141)]) (S' := [.int (0 : Int32)]) (M' := M) okX9_isCity rfl ?_
    exact go_zret (reX9_isCity _ (by decide)) rfl (Or.inl rfl) (k0 (0 : Int32) h)
  · have h := gq_neg hp h
    refine go_rn 2 (pc' := 14) (L' := [some (.ref 141)]) (S' := [.int (1 : Int32)]) (M' := M) okX9_isCity rfl ?_
    exact go_zret (reX9_isCity _ (by decide)) rfl (Or.inr rfl) (k0 (1 : Int32) h)
def fX9_isCity (M : gMem) : Option (Int32) := fX9_isCity_0 M
theorem SX9_isCity {G : gG} (M : gMem) {r : Int32} (h : fX9_isCity M = some r) : gRun G YX9_isCity 0 [.ref 141] M (fun r' N' => r' = some (.int r) ∧ N' = M) := gRun_in (by decide +kernel) rfl (fun d hd => go_wk (CX9_isCity_0 hd M (fun p => p = r) (fun r hh => ⟨congrArg (fun z => some (Value.int z)) hh, rfl⟩) (gq_of h)) ⟨rfl, True.intro⟩)
def fX9_years_0 (M : gMem) : Option (Int32) :=
  if gIx 1 148 (0 : Int32) = true then some (M.1 148 (Int32.toNatClampNeg (0 : Int32))) else none
set_option maxRecDepth 100000 in
theorem CX9_years_0 {G : gG} {d : Nat} {Z : Option Value → gMem → Prop} (hd : 0 ≤ d) (M : gMem) (P : Int32 → Prop) (k0 : ∀ (r : Int32), P r → Z (some (.int r)) M) (h : gOKq (fX9_years_0 M) P) : gGo G YX9_years d Z 0 [some (.ref 141)] [] M := by
  unfold fX9_years_0 at h
  refine go_rn 1 (pc' := 1) (L' := [some (.ref 141)]) (S' := [.ref 141]) (M' := M) okX9_years rfl ?_
  refine go_ck okX9_years rfl (gOb_c rfl) ?_
  refine go_rn 1 (pc' := 5) (L' := [some (.ref 141)]) (S' := [.int (0 : Int32), .ref 148]) (M' := M) okX9_years rfl ?_
  obtain ⟨c1, h⟩ := gq_if h
  refine go_ck okX9_years rfl c1 ?_
  exact go_iret (reX9_years _ (by decide)) rfl (k0 (M.1 148 (Int32.toNatClampNeg (0 : Int32))) h)
def fX9_years (M : gMem) : Option (Int32) := fX9_years_0 M
theorem SX9_years {G : gG} (M : gMem) {r : Int32} (h : fX9_years M = some r) : gRun G YX9_years 0 [.ref 141] M (fun r' N' => r' = some (.int r) ∧ N' = M) := gRun_in (by decide +kernel) rfl (fun d hd => go_wk (CX9_years_0 hd M (fun p => p = r) (fun r hh => ⟨congrArg (fun z => some (Value.int z)) hh, rfl⟩) (gq_of h)) ⟨rfl, True.intro⟩)
def fX9_people_0 (M : gMem) : Option (Int32) :=
  if gIx 1 148 (4 : Int32) = true then some (M.1 148 (Int32.toNatClampNeg (4 : Int32))) else none
set_option maxRecDepth 100000 in
theorem CX9_people_0 {G : gG} {d : Nat} {Z : Option Value → gMem → Prop} (hd : 0 ≤ d) (M : gMem) (P : Int32 → Prop) (k0 : ∀ (r : Int32), P r → Z (some (.int r)) M) (h : gOKq (fX9_people_0 M) P) : gGo G YX9_people d Z 0 [some (.ref 141)] [] M := by
  unfold fX9_people_0 at h
  refine go_rn 1 (pc' := 1) (L' := [some (.ref 141)]) (S' := [.ref 141]) (M' := M) okX9_people rfl ?_
  refine go_ck okX9_people rfl (gOb_c rfl) ?_
  refine go_rn 1 (pc' := 5) (L' := [some (.ref 141)]) (S' := [.int (4 : Int32), .ref 148]) (M' := M) okX9_people rfl ?_
  obtain ⟨c1, h⟩ := gq_if h
  refine go_ck okX9_people rfl c1 ?_
  exact go_iret (reX9_people _ (by decide)) rfl (k0 (M.1 148 (Int32.toNatClampNeg (4 : Int32))) h)
def fX9_people (M : gMem) : Option (Int32) := fX9_people_0 M
theorem SX9_people {G : gG} (M : gMem) {r : Int32} (h : fX9_people M = some r) : gRun G YX9_people 0 [.ref 141] M (fun r' N' => r' = some (.int r) ∧ N' = M) := gRun_in (by decide +kernel) rfl (fun d hd => go_wk (CX9_people_0 hd M (fun p => p = r) (fun r hh => ⟨congrArg (fun z => some (Value.int z)) hh, rfl⟩) (gq_of h)) ⟨rfl, True.intro⟩)
def fX9_joins_0 (M : gMem) : Option (Int32) :=
  if gIx 1 148 (5 : Int32) = true then some (M.1 148 (Int32.toNatClampNeg (5 : Int32))) else none
set_option maxRecDepth 100000 in
theorem CX9_joins_0 {G : gG} {d : Nat} {Z : Option Value → gMem → Prop} (hd : 0 ≤ d) (M : gMem) (P : Int32 → Prop) (k0 : ∀ (r : Int32), P r → Z (some (.int r)) M) (h : gOKq (fX9_joins_0 M) P) : gGo G YX9_joins d Z 0 [some (.ref 141)] [] M := by
  unfold fX9_joins_0 at h
  refine go_rn 1 (pc' := 1) (L' := [some (.ref 141)]) (S' := [.ref 141]) (M' := M) okX9_joins rfl ?_
  refine go_ck okX9_joins rfl (gOb_c rfl) ?_
  refine go_rn 1 (pc' := 5) (L' := [some (.ref 141)]) (S' := [.int (5 : Int32), .ref 148]) (M' := M) okX9_joins rfl ?_
  obtain ⟨c1, h⟩ := gq_if h
  refine go_ck okX9_joins rfl c1 ?_
  exact go_iret (reX9_joins _ (by decide)) rfl (k0 (M.1 148 (Int32.toNatClampNeg (5 : Int32))) h)
def fX9_joins (M : gMem) : Option (Int32) := fX9_joins_0 M
theorem SX9_joins {G : gG} (M : gMem) {r : Int32} (h : fX9_joins M = some r) : gRun G YX9_joins 0 [.ref 141] M (fun r' N' => r' = some (.int r) ∧ N' = M) := gRun_in (by decide +kernel) rfl (fun d hd => go_wk (CX9_joins_0 hd M (fun p => p = r) (fun r hh => ⟨congrArg (fun z => some (Value.int z)) hh, rfl⟩) (gq_of h)) ⟨rfl, True.intro⟩)
def fX9_isPerson_0 (x1 : Int64) (M : gMem) : Option (Int32) :=
  gB0 (fX9_people M) (fun r1 => gB0 (fX9_in x1 (0 : Int64) ((Int32.toInt64 r1) - (1 : Int64)) M) (fun r3 => if r3 = 0 ∨ r3 = 1 then some r3 else none))
set_option maxRecDepth 100000 in
theorem CX9_isPerson_0 {G : gG} {d : Nat} {Z : Option Value → gMem → Prop} (hd : 1 ≤ d) (x1 : Int64) (M : gMem) (P : Int32 → Prop) (k0 : ∀ (r : Int32), P r → Z (some (.int r)) M) (h : gOKq (fX9_isPerson_0 x1 M) P) : gGo G YX9_isPerson d Z 0 [some (.ref 141), some (.long x1), none] [] M := by
  unfold fX9_isPerson_0 at h
  refine go_rn 3 (pc' := 3) (L' := [some (.ref 141), some (.long x1), none]) (S' := [.ref 141, .long (0 : Int64), .long x1]) (M' := M) okX9_isPerson rfl ?_
  obtain ⟨r1, e2, h⟩ := gB0_ok h
  refine go_call1 ocX9_isPerson rfl rfl (gOb_c rfl) rfl (SX9_people M e2) (Nat.lt_of_lt_of_le (by decide) hd) ?_
  refine go_rn 3 (pc' := 9) (L' := [some (.ref 141), some (.long x1), none]) (S' := [.long ((Int32.toInt64 r1) - (1 : Int64)), .long (0 : Int64), .long x1]) (M' := M) okX9_isPerson rfl ?_
  obtain ⟨r3, e4, h⟩ := gB0_ok h
  refine go_call1 ocX9_isPerson rfl rfl rfl rfl (SX9_in x1 (0 : Int64) ((Int32.toInt64 r1) - (1 : Int64)) M e4) (Nat.lt_of_lt_of_le (by decide) hd) ?_
  obtain ⟨hz, h⟩ := gq_if h
  exact go_zret (reX9_isPerson _ (by decide)) rfl hz (k0 r3 h)
def fX9_isPerson (a1 : Int64) (M : gMem) : Option (Int32) := fX9_isPerson_0 a1 M
theorem SX9_isPerson {G : gG} (a1 : Int64) (M : gMem) {r : Int32} (h : fX9_isPerson a1 M = some r) : gRun G YX9_isPerson 1 [.ref 141, .long a1] M (fun r' N' => r' = some (.int r) ∧ N' = M) := gRun_in (by decide +kernel) rfl (fun d hd => go_wk (CX9_isPerson_0 hd a1 M (fun p => p = r) (fun r hh => ⟨congrArg (fun z => some (Value.int z)) hh, rfl⟩) (gq_of h)) ⟨rfl, rfl, True.intro⟩)
def fX9_areTwo_0 (x1 : Int32) (x2 : Int32) (M : gMem) : Option (Int32) :=
  gB0 (fX9_isPerson (Int32.toInt64 x1) M) (fun r1 => if r1 = 0 then some (0 : Int32) else gB0 (fX9_isPerson (Int32.toInt64 x2) M) (fun r3 => if r3 = 0 then some (0 : Int32) else if x1 = x2 then some (0 : Int32) else some (1 : Int32)))
set_option maxRecDepth 100000 in
theorem CX9_areTwo_0 {G : gG} {d : Nat} {Z : Option Value → gMem → Prop} (hd : 2 ≤ d) (x1 : Int32) (x2 : Int32) (M : gMem) (P : Int32 → Prop) (k0 : ∀ (r : Int32), P r → Z (some (.int r)) M) (h : gOKq (fX9_areTwo_0 x1 x2 M) P) : gGo G YX9_areTwo d Z 0 [some (.ref 141), some (.int x1), some (.int x2)] [] M := by
  unfold fX9_areTwo_0 at h
  refine go_rn 3 (pc' := 3) (L' := [some (.ref 141), some (.int x1), some (.int x2)]) (S' := [.long (Int32.toInt64 x1), .ref 141]) (M' := M) okX9_areTwo rfl ?_
  obtain ⟨r1, e2, h⟩ := gB0_ok h
  refine go_call1 ocX9_areTwo rfl rfl (gOb_c rfl) rfl (SX9_isPerson (Int32.toInt64 x1) M e2) (Nat.lt_of_lt_of_le (by decide) hd) ?_
  refine go_br okX9_areTwo rfl (fun hp => ?_) (fun hp => ?_)
  · have h := gq_pos hp h
    refine go_rn 1 (pc' := 28) (L' := [some (.ref 141), some (.int x1), some (.int x2)]) (S' := [.int (0 : Int32)]) (M' := M) okX9_areTwo rfl ?_
    exact go_zret (reX9_areTwo _ (by decide)) rfl (Or.inl rfl) (k0 (0 : Int32) h)
  · have h := gq_neg hp h
    refine go_rn 3 (pc' := 12) (L' := [some (.ref 141), some (.int x1), some (.int x2)]) (S' := [.long (Int32.toInt64 x2), .ref 141]) (M' := M) okX9_areTwo rfl ?_
    obtain ⟨r3, e4, h⟩ := gB0_ok h
    refine go_call1 ocX9_areTwo rfl rfl (gOb_c rfl) rfl (SX9_isPerson (Int32.toInt64 x2) M e4) (Nat.lt_of_lt_of_le (by decide) hd) ?_
    refine go_br okX9_areTwo rfl (fun hp => ?_) (fun hp => ?_)
    · have h := gq_pos hp h
      refine go_rn 1 (pc' := 28) (L' := [some (.ref 141), some (.int x1), some (.int x2)]) (S' := [.int (0 : Int32)]) (M' := M) okX9_areTwo rfl ?_
      exact go_zret (reX9_areTwo _ (by decide)) rfl (Or.inl rfl) (k0 (0 : Int32) h)
    · have h := gq_neg hp h
      refine go_rn 2 (pc' := 20) (L' := [some (.ref 141), some (.int x1), some (.int x2)]) (S' := [.int x2, .int x1]) (M' := M) okX9_areTwo rfl ?_
      refine go_br okX9_areTwo rfl (fun hp => ?_) (fun hp => ?_)
      · have h := gq_pos hp h
        refine go_rn 1 (pc' := 28) (L' := [some (.ref 141), some (.int x1), some (.int x2)]) (S' := [.int (0 : Int32)]) (M' := M) okX9_areTwo rfl ?_
        exact go_zret (reX9_areTwo _ (by decide)) rfl (Or.inl rfl) (k0 (0 : Int32) h)
      · have h := gq_neg hp h
        refine go_rn 2 (pc' := 28) (L' := [some (.ref 141), some (.int x1), some (.int x2)]) (S' := [.int (1 : Int32)]) (M' := M) okX9_areTwo rfl ?_
        exact go_zret (reX9_areTwo _ (by decide)) rfl (Or.inr rfl) (k0 (1 : Int32) h)
def fX9_areTwo (a1 : Int32) (a2 : Int32) (M : gMem) : Option (Int32) := fX9_areTwo_0 a1 a2 M
theorem SX9_areTwo {G : gG} (a1 : Int32) (a2 : Int32) (M : gMem) {r : Int32} (h : fX9_areTwo a1 a2 M = some r) : gRun G YX9_areTwo 2 [.ref 141, .int a1, .int a2] M (fun r' N' => r' = some (.int r) ∧ N' = M) := gRun_in (by decide +kernel) rfl (fun d hd => go_wk (CX9_areTwo_0 hd a1 a2 M (fun p => p = r) (fun r hh => ⟨congrArg (fun z => some (Value.int z)) hh, rfl⟩) (gq_of h)) ⟨rfl, rfl, rfl, True.intro⟩)
def fX9_isJoin_0 (x1 : Int32) (M : gMem) : Option (Int32) :=
  gB0 (fX9_joins M) (fun r1 => gB0 (fX9_in (Int32.toInt64 x1) (0 : Int64) (Int32.toInt64 (r1 - (1 : Int32))) M) (fun r3 => if r3 = 0 ∨ r3 = 1 then some r3 else none))
set_option maxRecDepth 100000 in
theorem CX9_isJoin_0 {G : gG} {d : Nat} {Z : Option Value → gMem → Prop} (hd : 1 ≤ d) (x1 : Int32) (M : gMem) (P : Int32 → Prop) (k0 : ∀ (r : Int32), P r → Z (some (.int r)) M) (h : gOKq (fX9_isJoin_0 x1 M) P) : gGo G YX9_isJoin d Z 0 [some (.ref 141), some (.int x1)] [] M := by
  unfold fX9_isJoin_0 at h
  refine go_rn 4 (pc' := 4) (L' := [some (.ref 141), some (.int x1)]) (S' := [.ref 141, .long (0 : Int64), .long (Int32.toInt64 x1)]) (M' := M) okX9_isJoin rfl ?_
  obtain ⟨r1, e2, h⟩ := gB0_ok h
  refine go_call1 ocX9_isJoin rfl rfl (gOb_c rfl) rfl (SX9_joins M e2) (Nat.lt_of_lt_of_le (by decide) hd) ?_
  refine go_rn 3 (pc' := 10) (L' := [some (.ref 141), some (.int x1)]) (S' := [.long (Int32.toInt64 (r1 - (1 : Int32))), .long (0 : Int64), .long (Int32.toInt64 x1)]) (M' := M) okX9_isJoin rfl ?_
  obtain ⟨r3, e4, h⟩ := gB0_ok h
  refine go_call1 ocX9_isJoin rfl rfl rfl rfl (SX9_in (Int32.toInt64 x1) (0 : Int64) (Int32.toInt64 (r1 - (1 : Int32))) M e4) (Nat.lt_of_lt_of_le (by decide) hd) ?_
  obtain ⟨hz, h⟩ := gq_if h
  exact go_zret (reX9_isJoin _ (by decide)) rfl hz (k0 r3 h)
def fX9_isJoin (a1 : Int32) (M : gMem) : Option (Int32) := fX9_isJoin_0 a1 M
theorem SX9_isJoin {G : gG} (a1 : Int32) (M : gMem) {r : Int32} (h : fX9_isJoin a1 M = some r) : gRun G YX9_isJoin 1 [.ref 141, .int a1] M (fun r' N' => r' = some (.int r) ∧ N' = M) := gRun_in (by decide +kernel) rfl (fun d hd => go_wk (CX9_isJoin_0 hd a1 M (fun p => p = r) (fun r hh => ⟨congrArg (fun z => some (Value.int z)) hh, rfl⟩) (gq_of h)) ⟨rfl, rfl, True.intro⟩)
def fX9_isDoor_0 (x1 : Int64) (M : gMem) : Option (Int32) :=
  if gIx 1 148 (6 : Int32) = true then gB0 (fX9_in x1 (0 : Int64) ((Int32.toInt64 (M.1 148 (Int32.toNatClampNeg (6 : Int32)))) - (1 : Int64)) M) (fun r2 => if r2 = 0 ∨ r2 = 1 then some r2 else none) else none
set_option maxRecDepth 100000 in
theorem CX9_isDoor_0 {G : gG} {d : Nat} {Z : Option Value → gMem → Prop} (hd : 1 ≤ d) (x1 : Int64) (M : gMem) (P : Int32 → Prop) (k0 : ∀ (r : Int32), P r → Z (some (.int r)) M) (h : gOKq (fX9_isDoor_0 x1 M) P) : gGo G YX9_isDoor d Z 0 [some (.ref 141), some (.long x1), none] [] M := by
  unfold fX9_isDoor_0 at h
  refine go_rn 3 (pc' := 3) (L' := [some (.ref 141), some (.long x1), none]) (S' := [.ref 141, .long (0 : Int64), .long x1]) (M' := M) okX9_isDoor rfl ?_
  refine go_ck okX9_isDoor rfl (gOb_c rfl) ?_
  refine go_rn 1 (pc' := 8) (L' := [some (.ref 141), some (.long x1), none]) (S' := [.int (6 : Int32), .ref 148, .long (0 : Int64), .long x1]) (M' := M) okX9_isDoor rfl ?_
  obtain ⟨c1, h⟩ := gq_if h
  refine go_ck okX9_isDoor rfl c1 ?_
  refine go_rn 3 (pc' := 12) (L' := [some (.ref 141), some (.long x1), none]) (S' := [.long ((Int32.toInt64 (M.1 148 (Int32.toNatClampNeg (6 : Int32)))) - (1 : Int64)), .long (0 : Int64), .long x1]) (M' := M) okX9_isDoor rfl ?_
  obtain ⟨r2, e3, h⟩ := gB0_ok h
  refine go_call1 ocX9_isDoor rfl rfl rfl rfl (SX9_in x1 (0 : Int64) ((Int32.toInt64 (M.1 148 (Int32.toNatClampNeg (6 : Int32)))) - (1 : Int64)) M e3) (Nat.lt_of_lt_of_le (by decide) hd) ?_
  obtain ⟨hz, h⟩ := gq_if h
  exact go_zret (reX9_isDoor _ (by decide)) rfl hz (k0 r2 h)
def fX9_isDoor (a1 : Int64) (M : gMem) : Option (Int32) := fX9_isDoor_0 a1 M
theorem SX9_isDoor {G : gG} (a1 : Int64) (M : gMem) {r : Int32} (h : fX9_isDoor a1 M = some r) : gRun G YX9_isDoor 1 [.ref 141, .long a1] M (fun r' N' => r' = some (.int r) ∧ N' = M) := gRun_in (by decide +kernel) rfl (fun d hd => go_wk (CX9_isDoor_0 hd a1 M (fun p => p = r) (fun r hh => ⟨congrArg (fun z => some (Value.int z)) hh, rfl⟩) (gq_of h)) ⟨rfl, rfl, True.intro⟩)
def fX9_isYear_0 (x1 : Int32) (M : gMem) : Option (Int32) :=
  gB0 (fX9_years M) (fun r1 => gB0 (fX9_in (Int32.toInt64 x1) (0 : Int64) (Int32.toInt64 (r1 - (1 : Int32))) M) (fun r3 => if r3 = 0 ∨ r3 = 1 then some r3 else none))
set_option maxRecDepth 100000 in
theorem CX9_isYear_0 {G : gG} {d : Nat} {Z : Option Value → gMem → Prop} (hd : 1 ≤ d) (x1 : Int32) (M : gMem) (P : Int32 → Prop) (k0 : ∀ (r : Int32), P r → Z (some (.int r)) M) (h : gOKq (fX9_isYear_0 x1 M) P) : gGo G YX9_isYear d Z 0 [some (.ref 141), some (.int x1)] [] M := by
  unfold fX9_isYear_0 at h
  refine go_rn 4 (pc' := 4) (L' := [some (.ref 141), some (.int x1)]) (S' := [.ref 141, .long (0 : Int64), .long (Int32.toInt64 x1)]) (M' := M) okX9_isYear rfl ?_
  obtain ⟨r1, e2, h⟩ := gB0_ok h
  refine go_call1 ocX9_isYear rfl rfl (gOb_c rfl) rfl (SX9_years M e2) (Nat.lt_of_lt_of_le (by decide) hd) ?_
  refine go_rn 3 (pc' := 10) (L' := [some (.ref 141), some (.int x1)]) (S' := [.long (Int32.toInt64 (r1 - (1 : Int32))), .long (0 : Int64), .long (Int32.toInt64 x1)]) (M' := M) okX9_isYear rfl ?_
  obtain ⟨r3, e4, h⟩ := gB0_ok h
  refine go_call1 ocX9_isYear rfl rfl rfl rfl (SX9_in (Int32.toInt64 x1) (0 : Int64) (Int32.toInt64 (r1 - (1 : Int32))) M e4) (Nat.lt_of_lt_of_le (by decide) hd) ?_
  obtain ⟨hz, h⟩ := gq_if h
  exact go_zret (reX9_isYear _ (by decide)) rfl hz (k0 r3 h)
def fX9_isYear (a1 : Int32) (M : gMem) : Option (Int32) := fX9_isYear_0 a1 M
theorem SX9_isYear {G : gG} (a1 : Int32) (M : gMem) {r : Int32} (h : fX9_isYear a1 M = some r) : gRun G YX9_isYear 1 [.ref 141, .int a1] M (fun r' N' => r' = some (.int r) ∧ N' = M) := gRun_in (by decide +kernel) rfl (fun d hd => go_wk (CX9_isYear_0 hd a1 M (fun p => p = r) (fun r hh => ⟨congrArg (fun z => some (Value.int z)) hh, rfl⟩) (gq_of h)) ⟨rfl, rfl, True.intro⟩)
def fX9_isThen_0 (x1 : Int32) (x2 : Int32) (M : gMem) : Option (Int32) :=
  gB0 (fX9_isPerson (Int32.toInt64 x1) M) (fun r1 => if r1 = 0 then some (0 : Int32) else gB0 (fX9_isYear x2 M) (fun r3 => if r3 = 0 then some (0 : Int32) else some (1 : Int32)))
set_option maxRecDepth 100000 in
theorem CX9_isThen_0 {G : gG} {d : Nat} {Z : Option Value → gMem → Prop} (hd : 2 ≤ d) (x1 : Int32) (x2 : Int32) (M : gMem) (P : Int32 → Prop) (k0 : ∀ (r : Int32), P r → Z (some (.int r)) M) (h : gOKq (fX9_isThen_0 x1 x2 M) P) : gGo G YX9_isThen d Z 0 [some (.ref 141), some (.int x1), some (.int x2)] [] M := by
  unfold fX9_isThen_0 at h
  refine go_rn 3 (pc' := 3) (L' := [some (.ref 141), some (.int x1), some (.int x2)]) (S' := [.long (Int32.toInt64 x1), .ref 141]) (M' := M) okX9_isThen rfl ?_
  obtain ⟨r1, e2, h⟩ := gB0_ok h
  refine go_call1 ocX9_isThen rfl rfl (gOb_c rfl) rfl (SX9_isPerson (Int32.toInt64 x1) M e2) (Nat.lt_of_lt_of_le (by decide) hd) ?_
  refine go_br okX9_isThen rfl (fun hp => ?_) (fun hp => ?_)
  · have h := gq_pos hp h
    refine go_rn 1 (pc' := 22) (L' := [some (.ref 141), some (.int x1), some (.int x2)]) (S' := [.int (0 : Int32)]) (M' := M) okX9_isThen rfl ?_
    exact go_zret (reX9_isThen _ (by decide)) rfl (Or.inl rfl) (k0 (0 : Int32) h)
  · have h := gq_neg hp h
    refine go_rn 2 (pc' := 11) (L' := [some (.ref 141), some (.int x1), some (.int x2)]) (S' := [.int x2, .ref 141]) (M' := M) okX9_isThen rfl ?_
    obtain ⟨r3, e4, h⟩ := gB0_ok h
    refine go_call1 ocX9_isThen rfl rfl (gOb_c rfl) rfl (SX9_isYear x2 M e4) (Nat.lt_of_lt_of_le (by decide) hd) ?_
    refine go_br okX9_isThen rfl (fun hp => ?_) (fun hp => ?_)
    · have h := gq_pos hp h
      refine go_rn 1 (pc' := 22) (L' := [some (.ref 141), some (.int x1), some (.int x2)]) (S' := [.int (0 : Int32)]) (M' := M) okX9_isThen rfl ?_
      exact go_zret (reX9_isThen _ (by decide)) rfl (Or.inl rfl) (k0 (0 : Int32) h)
    · have h := gq_neg hp h
      refine go_rn 2 (pc' := 22) (L' := [some (.ref 141), some (.int x1), some (.int x2)]) (S' := [.int (1 : Int32)]) (M' := M) okX9_isThen rfl ?_
      exact go_zret (reX9_isThen _ (by decide)) rfl (Or.inr rfl) (k0 (1 : Int32) h)
def fX9_isThen (a1 : Int32) (a2 : Int32) (M : gMem) : Option (Int32) := fX9_isThen_0 a1 a2 M
theorem SX9_isThen {G : gG} (a1 : Int32) (a2 : Int32) (M : gMem) {r : Int32} (h : fX9_isThen a1 a2 M = some r) : gRun G YX9_isThen 2 [.ref 141, .int a1, .int a2] M (fun r' N' => r' = some (.int r) ∧ N' = M) := gRun_in (by decide +kernel) rfl (fun d hd => go_wk (CX9_isThen_0 hd a1 a2 M (fun p => p = r) (fun r hh => ⟨congrArg (fun z => some (Value.int z)) hh, rfl⟩) (gq_of h)) ⟨rfl, rfl, rfl, True.intro⟩)
def fX9_isHalf_0 (x0 : Int32) (M : gMem) : Option (Int32) :=
  gB0 (fX9_in (Int32.toInt64 x0) (0 : Int64) (1 : Int64) M) (fun r1 => if r1 = 0 ∨ r1 = 1 then some r1 else none)
set_option maxRecDepth 100000 in
theorem CX9_isHalf_0 {G : gG} {d : Nat} {Z : Option Value → gMem → Prop} (hd : 1 ≤ d) (x0 : Int32) (M : gMem) (P : Int32 → Prop) (k0 : ∀ (r : Int32), P r → Z (some (.int r)) M) (h : gOKq (fX9_isHalf_0 x0 M) P) : gGo G YX9_isHalf d Z 0 [some (.int x0)] [] M := by
  unfold fX9_isHalf_0 at h
  refine go_rn 4 (pc' := 4) (L' := [some (.int x0)]) (S' := [.long (1 : Int64), .long (0 : Int64), .long (Int32.toInt64 x0)]) (M' := M) okX9_isHalf rfl ?_
  obtain ⟨r1, e2, h⟩ := gB0_ok h
  refine go_call1 ocX9_isHalf rfl rfl rfl rfl (SX9_in (Int32.toInt64 x0) (0 : Int64) (1 : Int64) M e2) (Nat.lt_of_lt_of_le (by decide) hd) ?_
  obtain ⟨hz, h⟩ := gq_if h
  exact go_zret (reX9_isHalf _ (by decide)) rfl hz (k0 r1 h)
def fX9_isHalf (a0 : Int32) (M : gMem) : Option (Int32) := fX9_isHalf_0 a0 M
theorem SX9_isHalf {G : gG} (a0 : Int32) (M : gMem) {r : Int32} (h : fX9_isHalf a0 M = some r) : gRun G YX9_isHalf 1 [.int a0] M (fun r' N' => r' = some (.int r) ∧ N' = M) := gRun_in (by decide +kernel) rfl (fun d hd => go_wk (CX9_isHalf_0 hd a0 M (fun p => p = r) (fun r hh => ⟨congrArg (fun z => some (Value.int z)) hh, rfl⟩) (gq_of h)) ⟨rfl, True.intro⟩)
def fX9_isBit_0 (x0 : Int32) (x1 : Int32) (M : gMem) : Option (Int32) :=
  if ((x0 >>> (x1 &&& 31)) &&& (1 : Int32)) = (1 : Int32) then some (1 : Int32) else some (0 : Int32)
set_option maxRecDepth 100000 in
theorem CX9_isBit_0 {G : gG} {d : Nat} {Z : Option Value → gMem → Prop} (hd : 0 ≤ d) (x0 : Int32) (x1 : Int32) (M : gMem) (P : Int32 → Prop) (k0 : ∀ (r : Int32), P r → Z (some (.int r)) M) (h : gOKq (fX9_isBit_0 x0 x1 M) P) : gGo G YX9_isBit d Z 0 [some (.int x0), some (.int x1)] [] M := by
  unfold fX9_isBit_0 at h
  refine go_rn 6 (pc' := 6) (L' := [some (.int x0), some (.int x1)]) (S' := [.int (1 : Int32), .int ((x0 >>> (x1 &&& 31)) &&& (1 : Int32))]) (M' := M) okX9_isBit rfl ?_
  refine go_br okX9_isBit rfl (fun hp => ?_) (fun hp => ?_)
  · have h := gq_pos hp h
    refine go_rn 2 (pc' := 14) (L' := [some (.int x0), some (.int x1)]) (S' := [.int (1 : Int32)]) (M' := M) okX9_isBit rfl ?_
    exact go_zret (reX9_isBit _ (by decide)) rfl (Or.inr rfl) (k0 (1 : Int32) h)
  · have h := gq_neg hp h
    refine go_rn 1 (pc' := 14) (L' := [some (.int x0), some (.int x1)]) (S' := [.int (0 : Int32)]) (M' := M) okX9_isBit rfl ?_
    exact go_zret (reX9_isBit _ (by decide)) rfl (Or.inl rfl) (k0 (0 : Int32) h)
def fX9_isBit (a0 : Int32) (a1 : Int32) (M : gMem) : Option (Int32) := fX9_isBit_0 a0 a1 M
theorem SX9_isBit {G : gG} (a0 : Int32) (a1 : Int32) (M : gMem) {r : Int32} (h : fX9_isBit a0 a1 M = some r) : gRun G YX9_isBit 0 [.int a0, .int a1] M (fun r' N' => r' = some (.int r) ∧ N' = M) := gRun_in (by decide +kernel) rfl (fun d hd => go_wk (CX9_isBit_0 hd a0 a1 M (fun p => p = r) (fun r hh => ⟨congrArg (fun z => some (Value.int z)) hh, rfl⟩) (gq_of h)) ⟨rfl, rfl, True.intro⟩)
def fX9_sizeOf_4 (x1 : Int32) (x2 : Int32) (M : gMem) : Option (Sum (Int32 × Int32) (Int32)) :=
  if x2 = 0 then some (.inr x1) else some (.inl ((x1 + 1), (x2 &&& (x2 - (1 : Int32)))))
set_option maxRecDepth 100000 in
theorem CX9_sizeOf_4 {G : gG} {d : Nat} {Z : Option Value → gMem → Prop} (hd : 0 ≤ d) (x1 : Int32) (x2 : Int32) (M : gMem) (P : Sum (Int32 × Int32) (Int32) → Prop) (k0 : ∀ (r : Int32), P (.inr r) → Z (some (.int r)) M) (k1 : ∀ (x1 : Int32) (x2 : Int32), P (.inl (x1, x2)) → gGo G YX9_sizeOf d Z 4 [none, some (.int x1), some (.int x2)] [] M) (h : gOKq (fX9_sizeOf_4 x1 x2 M) P) : gGo G YX9_sizeOf d Z 4 [none, some (.int x1), some (.int x2)] [] M := by
  unfold fX9_sizeOf_4 at h
  refine go_rn 1 (pc' := 5) (L' := [none, some (.int x1), some (.int x2)]) (S' := [.int x2]) (M' := M) okX9_sizeOf rfl ?_
  refine go_br okX9_sizeOf rfl (fun hp => ?_) (fun hp => ?_)
  · have h := gq_pos hp h
    refine go_rn 1 (pc' := 21) (L' := [none, some (.int x1), some (.int x2)]) (S' := [.int x1]) (M' := M) okX9_sizeOf rfl ?_
    exact go_iret (reX9_sizeOf _ (by decide)) rfl (k0 x1 h)
  · have h := gq_neg hp h
    refine go_rn 8 (pc' := 4) (L' := [none, some (.int (x1 + 1)), some (.int (x2 &&& (x2 - (1 : Int32))))]) (S' := []) (M' := M) okX9_sizeOf rfl ?_
    exact go_wk (k1 ((x1 + 1)) ((x2 &&& (x2 - (1 : Int32)))) h) ⟨rfl, rfl, True.intro⟩
def fX9_sizeOf_4h (x1 : Int32) (x2 : Int32) (M : gMem) : Option (Int32) :=
  gLp (fun s : Int32 × Int32 => fX9_sizeOf_4 (s.1) (s.2) M) gFu (x1, x2)
set_option maxRecDepth 100000 in
theorem CX9_sizeOf_4h {G : gG} {d : Nat} {Z : Option Value → gMem → Prop} (hd : 0 ≤ d) (x1 : Int32) (x2 : Int32) (M : gMem) (P : Int32 → Prop) (k0 : ∀ (r : Int32), P r → Z (some (.int r)) M) (h : gOKq (fX9_sizeOf_4h x1 x2 M) P) : gGo G YX9_sizeOf d Z 4 [none, some (.int x1), some (.int x2)] [] M :=
  gLp_go (K := fun s : Int32 × Int32 => gGo G YX9_sizeOf d Z 4 [none, some (.int s.1), some (.int s.2)] [] M) (P := P) (fun s hs => CX9_sizeOf_4 hd (s.1) (s.2) M (Sum.elim (fun s : Int32 × Int32 => gGo G YX9_sizeOf d Z 4 [none, some (.int s.1), some (.int s.2)] [] M) P) k0 (fun x1 x2 hh => hh) hs) gFu (x1, x2) h
def fX9_sizeOf_0 (x0 : Int32) (M : gMem) : Option (Int32) :=
  fX9_sizeOf_4h (0 : Int32) x0 M
set_option maxRecDepth 100000 in
theorem CX9_sizeOf_0 {G : gG} {d : Nat} {Z : Option Value → gMem → Prop} (hd : 0 ≤ d) (x0 : Int32) (M : gMem) (P : Int32 → Prop) (k0 : ∀ (r : Int32), P r → Z (some (.int r)) M) (h : gOKq (fX9_sizeOf_0 x0 M) P) : gGo G YX9_sizeOf d Z 0 [some (.int x0), none, none] [] M := by
  unfold fX9_sizeOf_0 at h
  refine go_rn 4 (pc' := 4) (L' := [some (.int x0), some (.int (0 : Int32)), some (.int x0)]) (S' := []) (M' := M) okX9_sizeOf rfl ?_
  exact go_wk (CX9_sizeOf_4h hd (0 : Int32) x0 M P k0 h) ⟨rfl, rfl, True.intro⟩
def fX9_sizeOf (a0 : Int32) (M : gMem) : Option (Int32) := fX9_sizeOf_0 a0 M
theorem SX9_sizeOf {G : gG} (a0 : Int32) (M : gMem) {r : Int32} (h : fX9_sizeOf a0 M = some r) : gRun G YX9_sizeOf 0 [.int a0] M (fun r' N' => r' = some (.int r) ∧ N' = M) := gRun_in (by decide +kernel) rfl (fun d hd => go_wk (CX9_sizeOf_0 hd a0 M (fun p => p = r) (fun r hh => ⟨congrArg (fun z => some (Value.int z)) hh, rfl⟩) (gq_of h)) ⟨rfl, True.intro⟩)
def fX9_lays_37 (s0 : Int32) (M : gMem) : Option (gMem) :=
  if s0 = 0 ∨ s0 = 1 then some (gSI M 141 32 s0) else none
set_option maxRecDepth 100000 in
theorem CX9_lays_37 {G : gG} {d : Nat} {Z : Option Value → gMem → Prop} (hd : 0 ≤ d) (s0 : Int32) (M : gMem) (P : gMem → Prop) (k0 : ∀ (N : gMem), P N → Z none N) (h : gOKq (fX9_lays_37 s0 M) P) : gGo G YX9_lays d Z 37 [none] [.int s0, .ref 141] M := by
  unfold fX9_lays_37 at h
  obtain ⟨hz, h⟩ := gq_if h
  refine go_cc okX9_lays rfl (gOb_c rfl) hz ?_
  exact go_vret (reX9_lays _ (by decide)) rfl (k0 (gSI M 141 32 s0) h)
def fX9_lays_32 (s0 : Int32) (M : gMem) : Option (gMem) :=
  fX9_lays_37 (1 : Int32) (gSI M 141 31 s0)
set_option maxRecDepth 100000 in
theorem CX9_lays_32 {G : gG} {d : Nat} {Z : Option Value → gMem → Prop} (hd : 0 ≤ d) (s0 : Int32) (M : gMem) (P : gMem → Prop) (k0 : ∀ (N : gMem), P N → Z none N) (h : gOKq (fX9_lays_32 s0 M) P) : gGo G YX9_lays d Z 32 [some (.ref 141)] [.int s0, .ref 141] M := by
  unfold fX9_lays_32 at h
  refine go_ck okX9_lays rfl (gOb_c rfl) ?_
  refine go_rn 2 (pc' := 37) (L' := [some (.ref 141)]) (S' := [.int (1 : Int32), .ref 141]) (M' := (gSI M 141 31 s0)) okX9_lays rfl ?_
  exact go_wk (CX9_lays_37 hd (1 : Int32) (gSI M 141 31 s0) P k0 h) True.intro
def fX9_lays_27 (s0 : Int32) (M : gMem) : Option (gMem) :=
  fX9_lays_32 (-1 : Int32) (gSI M 141 30 s0)
set_option maxRecDepth 100000 in
theorem CX9_lays_27 {G : gG} {d : Nat} {Z : Option Value → gMem → Prop} (hd : 0 ≤ d) (s0 : Int32) (M : gMem) (P : gMem → Prop) (k0 : ∀ (N : gMem), P N → Z none N) (h : gOKq (fX9_lays_27 s0 M) P) : gGo G YX9_lays d Z 27 [some (.ref 141)] [.int s0, .ref 141] M := by
  unfold fX9_lays_27 at h
  refine go_ck okX9_lays rfl (gOb_c rfl) ?_
  refine go_rn 2 (pc' := 32) (L' := [some (.ref 141)]) (S' := [.int (-1 : Int32), .ref 141]) (M' := (gSI M 141 30 s0)) okX9_lays rfl ?_
  exact go_wk (CX9_lays_32 hd (-1 : Int32) (gSI M 141 30 s0) P k0 h) ⟨rfl, True.intro⟩
def fX9_lays_22 (s0 : Int32) (M : gMem) : Option (gMem) :=
  fX9_lays_27 (-1 : Int32) (gSI M 141 27 s0)
set_option maxRecDepth 100000 in
theorem CX9_lays_22 {G : gG} {d : Nat} {Z : Option Value → gMem → Prop} (hd : 0 ≤ d) (s0 : Int32) (M : gMem) (P : gMem → Prop) (k0 : ∀ (N : gMem), P N → Z none N) (h : gOKq (fX9_lays_22 s0 M) P) : gGo G YX9_lays d Z 22 [some (.ref 141)] [.int s0, .ref 141] M := by
  unfold fX9_lays_22 at h
  refine go_ck okX9_lays rfl (gOb_c rfl) ?_
  refine go_rn 2 (pc' := 27) (L' := [some (.ref 141)]) (S' := [.int (-1 : Int32), .ref 141]) (M' := (gSI M 141 27 s0)) okX9_lays rfl ?_
  exact go_wk (CX9_lays_27 hd (-1 : Int32) (gSI M 141 27 s0) P k0 h) ⟨rfl, True.intro⟩
def fX9_lays_17 (s0 : Int32) (M : gMem) : Option (gMem) :=
  fX9_lays_22 (0 : Int32) (gSI M 141 26 s0)
set_option maxRecDepth 100000 in
theorem CX9_lays_17 {G : gG} {d : Nat} {Z : Option Value → gMem → Prop} (hd : 0 ≤ d) (s0 : Int32) (M : gMem) (P : gMem → Prop) (k0 : ∀ (N : gMem), P N → Z none N) (h : gOKq (fX9_lays_17 s0 M) P) : gGo G YX9_lays d Z 17 [some (.ref 141)] [.int s0, .ref 141] M := by
  unfold fX9_lays_17 at h
  refine go_ck okX9_lays rfl (gOb_c rfl) ?_
  refine go_rn 2 (pc' := 22) (L' := [some (.ref 141)]) (S' := [.int (0 : Int32), .ref 141]) (M' := (gSI M 141 26 s0)) okX9_lays rfl ?_
  exact go_wk (CX9_lays_22 hd (0 : Int32) (gSI M 141 26 s0) P k0 h) ⟨rfl, True.intro⟩
def fX9_lays_12 (s0 : Int32) (M : gMem) : Option (gMem) :=
  fX9_lays_17 (0 : Int32) (gSI M 141 25 s0)
set_option maxRecDepth 100000 in
theorem CX9_lays_12 {G : gG} {d : Nat} {Z : Option Value → gMem → Prop} (hd : 0 ≤ d) (s0 : Int32) (M : gMem) (P : gMem → Prop) (k0 : ∀ (N : gMem), P N → Z none N) (h : gOKq (fX9_lays_12 s0 M) P) : gGo G YX9_lays d Z 12 [some (.ref 141)] [.int s0, .ref 141] M := by
  unfold fX9_lays_12 at h
  refine go_ck okX9_lays rfl (gOb_c rfl) ?_
  refine go_rn 2 (pc' := 17) (L' := [some (.ref 141)]) (S' := [.int (0 : Int32), .ref 141]) (M' := (gSI M 141 25 s0)) okX9_lays rfl ?_
  exact go_wk (CX9_lays_17 hd (0 : Int32) (gSI M 141 25 s0) P k0 h) ⟨rfl, True.intro⟩
def fX9_lays_0 (M : gMem) : Option (gMem) :=
  if gIx 1 148 (1 : Int32) = true then fX9_lays_12 (0 : Int32) (gSI M 141 24 (M.1 148 (Int32.toNatClampNeg (1 : Int32)))) else none
set_option maxRecDepth 100000 in
theorem CX9_lays_0 {G : gG} {d : Nat} {Z : Option Value → gMem → Prop} (hd : 0 ≤ d) (M : gMem) (P : gMem → Prop) (k0 : ∀ (N : gMem), P N → Z none N) (h : gOKq (fX9_lays_0 M) P) : gGo G YX9_lays d Z 0 [some (.ref 141)] [] M := by
  unfold fX9_lays_0 at h
  refine go_rn 2 (pc' := 2) (L' := [some (.ref 141)]) (S' := [.ref 141, .ref 141]) (M' := M) okX9_lays rfl ?_
  refine go_ck okX9_lays rfl (gOb_c rfl) ?_
  refine go_rn 1 (pc' := 6) (L' := [some (.ref 141)]) (S' := [.int (1 : Int32), .ref 148, .ref 141]) (M' := M) okX9_lays rfl ?_
  obtain ⟨c1, h⟩ := gq_if h
  refine go_ck okX9_lays rfl c1 ?_
  refine go_ck okX9_lays rfl (gOb_c rfl) ?_
  refine go_rn 2 (pc' := 12) (L' := [some (.ref 141)]) (S' := [.int (0 : Int32), .ref 141]) (M' := (gSI M 141 24 (M.1 148 (Int32.toNatClampNeg (1 : Int32))))) okX9_lays rfl ?_
  exact go_wk (CX9_lays_12 hd (0 : Int32) (gSI M 141 24 (M.1 148 (Int32.toNatClampNeg (1 : Int32)))) P k0 h) ⟨rfl, True.intro⟩
def fX9_lays (M : gMem) : Option (gMem) := fX9_lays_0 M
theorem SX9_lays {G : gG} (M : gMem) {N : gMem} (h : fX9_lays M = some N) : gRun G YX9_lays 0 [.ref 141] M (fun r' N' => r' = none ∧ N' = N) := gRun_in (by decide +kernel) rfl (fun d hd => go_wk (CX9_lays_0 hd M (fun p => p = N) (fun N hh => ⟨rfl, hh⟩) (gq_of h)) ⟨rfl, True.intro⟩)
def fX9_isPair_26 (x1 : Int32) (x2 : Int32) (x3 : Int32) (M : gMem) : Option (Int32) :=
  if gIx 1 153 ((4 : Int32) * x1) = true then if (M.1 153 (Int32.toNatClampNeg ((4 : Int32) * x1))) = x3 then if gIx 1 153 (((4 : Int32) * x1) + (1 : Int32)) = true then if (M.1 153 (Int32.toNatClampNeg (((4 : Int32) * x1) + (1 : Int32)))) = x2 then some (1 : Int32) else some (0 : Int32) else none else some (0 : Int32) else none
set_option maxRecDepth 100000 in
theorem CX9_isPair_26 {G : gG} {d : Nat} {Z : Option Value → gMem → Prop} (hd : 0 ≤ d) (x1 : Int32) (x2 : Int32) (x3 : Int32) (M : gMem) (P : Int32 → Prop) (k0 : ∀ (r : Int32), P r → Z (some (.int r)) M) (h : gOKq (fX9_isPair_26 x1 x2 x3 M) P) : gGo G YX9_isPair d Z 26 [some (.ref 141), some (.int x1), some (.int x2), some (.int x3)] [] M := by
  unfold fX9_isPair_26 at h
  refine go_rn 1 (pc' := 27) (L' := [some (.ref 141), some (.int x1), some (.int x2), some (.int x3)]) (S' := [.ref 141]) (M' := M) okX9_isPair rfl ?_
  refine go_ck okX9_isPair rfl (gOb_c rfl) ?_
  refine go_rn 3 (pc' := 33) (L' := [some (.ref 141), some (.int x1), some (.int x2), some (.int x3)]) (S' := [.int ((4 : Int32) * x1), .ref 153]) (M' := M) okX9_isPair rfl ?_
  obtain ⟨c1, h⟩ := gq_if h
  refine go_ck okX9_isPair rfl c1 ?_
  refine go_rn 1 (pc' := 35) (L' := [some (.ref 141), some (.int x1), some (.int x2), some (.int x3)]) (S' := [.int x3, .int (M.1 153 (Int32.toNatClampNeg ((4 : Int32) * x1)))]) (M' := M) okX9_isPair rfl ?_
  refine go_br okX9_isPair rfl (fun hp => ?_) (fun hp => ?_)
  · have h := gq_pos hp h
    refine go_rn 1 (pc' := 39) (L' := [some (.ref 141), some (.int x1), some (.int x2), some (.int x3)]) (S' := [.ref 141]) (M' := M) okX9_isPair rfl ?_
    refine go_ck okX9_isPair rfl (gOb_c rfl) ?_
    refine go_rn 5 (pc' := 47) (L' := [some (.ref 141), some (.int x1), some (.int x2), some (.int x3)]) (S' := [.int (((4 : Int32) * x1) + (1 : Int32)), .ref 153]) (M' := M) okX9_isPair rfl ?_
    obtain ⟨c2, h⟩ := gq_if h
    refine go_ck okX9_isPair rfl c2 ?_
    refine go_rn 1 (pc' := 49) (L' := [some (.ref 141), some (.int x1), some (.int x2), some (.int x3)]) (S' := [.int x2, .int (M.1 153 (Int32.toNatClampNeg (((4 : Int32) * x1) + (1 : Int32))))]) (M' := M) okX9_isPair rfl ?_
    refine go_br okX9_isPair rfl (fun hp => ?_) (fun hp => ?_)
    · have h := gq_pos hp h
      refine go_rn 2 (pc' := 57) (L' := [some (.ref 141), some (.int x1), some (.int x2), some (.int x3)]) (S' := [.int (1 : Int32)]) (M' := M) okX9_isPair rfl ?_
      exact go_zret (reX9_isPair _ (by decide)) rfl (Or.inr rfl) (k0 (1 : Int32) h)
    · have h := gq_neg hp h
      refine go_rn 1 (pc' := 57) (L' := [some (.ref 141), some (.int x1), some (.int x2), some (.int x3)]) (S' := [.int (0 : Int32)]) (M' := M) okX9_isPair rfl ?_
      exact go_zret (reX9_isPair _ (by decide)) rfl (Or.inl rfl) (k0 (0 : Int32) h)
  · have h := gq_neg hp h
    refine go_rn 1 (pc' := 57) (L' := [some (.ref 141), some (.int x1), some (.int x2), some (.int x3)]) (S' := [.int (0 : Int32)]) (M' := M) okX9_isPair rfl ?_
    exact go_zret (reX9_isPair _ (by decide)) rfl (Or.inl rfl) (k0 (0 : Int32) h)
def fX9_isPair_0 (x1 : Int32) (x2 : Int32) (x3 : Int32) (M : gMem) : Option (Int32) :=
  if gIx 1 153 ((4 : Int32) * x1) = true then if (M.1 153 (Int32.toNatClampNeg ((4 : Int32) * x1))) = x2 then if gIx 1 153 (((4 : Int32) * x1) + (1 : Int32)) = true then if (M.1 153 (Int32.toNatClampNeg (((4 : Int32) * x1) + (1 : Int32)))) = x3 then some (1 : Int32) else fX9_isPair_26 x1 x2 x3 M else none else fX9_isPair_26 x1 x2 x3 M else none
set_option maxRecDepth 100000 in
theorem CX9_isPair_0 {G : gG} {d : Nat} {Z : Option Value → gMem → Prop} (hd : 0 ≤ d) (x1 : Int32) (x2 : Int32) (x3 : Int32) (M : gMem) (P : Int32 → Prop) (k0 : ∀ (r : Int32), P r → Z (some (.int r)) M) (h : gOKq (fX9_isPair_0 x1 x2 x3 M) P) : gGo G YX9_isPair d Z 0 [some (.ref 141), some (.int x1), some (.int x2), some (.int x3)] [] M := by
  unfold fX9_isPair_0 at h
  refine go_rn 1 (pc' := 1) (L' := [some (.ref 141), some (.int x1), some (.int x2), some (.int x3)]) (S' := [.ref 141]) (M' := M) okX9_isPair rfl ?_
  refine go_ck okX9_isPair rfl (gOb_c rfl) ?_
  refine go_rn 3 (pc' := 7) (L' := [some (.ref 141), some (.int x1), some (.int x2), some (.int x3)]) (S' := [.int ((4 : Int32) * x1), .ref 153]) (M' := M) okX9_isPair rfl ?_
  obtain ⟨c1, h⟩ := gq_if h
  refine go_ck okX9_isPair rfl c1 ?_
  refine go_rn 1 (pc' := 9) (L' := [some (.ref 141), some (.int x1), some (.int x2), some (.int x3)]) (S' := [.int x2, .int (M.1 153 (Int32.toNatClampNeg ((4 : Int32) * x1)))]) (M' := M) okX9_isPair rfl ?_
  refine go_br okX9_isPair rfl (fun hp => ?_) (fun hp => ?_)
  · have h := gq_pos hp h
    refine go_rn 1 (pc' := 13) (L' := [some (.ref 141), some (.int x1), some (.int x2), some (.int x3)]) (S' := [.ref 141]) (M' := M) okX9_isPair rfl ?_
    refine go_ck okX9_isPair rfl (gOb_c rfl) ?_
    refine go_rn 5 (pc' := 21) (L' := [some (.ref 141), some (.int x1), some (.int x2), some (.int x3)]) (S' := [.int (((4 : Int32) * x1) + (1 : Int32)), .ref 153]) (M' := M) okX9_isPair rfl ?_
    obtain ⟨c2, h⟩ := gq_if h
    refine go_ck okX9_isPair rfl c2 ?_
    refine go_rn 1 (pc' := 23) (L' := [some (.ref 141), some (.int x1), some (.int x2), some (.int x3)]) (S' := [.int x3, .int (M.1 153 (Int32.toNatClampNeg (((4 : Int32) * x1) + (1 : Int32))))]) (M' := M) okX9_isPair rfl ?_
    refine go_br okX9_isPair rfl (fun hp => ?_) (fun hp => ?_)
    · have h := gq_pos hp h
      refine go_rn 2 (pc' := 57) (L' := [some (.ref 141), some (.int x1), some (.int x2), some (.int x3)]) (S' := [.int (1 : Int32)]) (M' := M) okX9_isPair rfl ?_
      exact go_zret (reX9_isPair _ (by decide)) rfl (Or.inr rfl) (k0 (1 : Int32) h)
    · have h := gq_neg hp h
      exact go_wk (CX9_isPair_26 hd x1 x2 x3 M P k0 h) ⟨rfl, rfl, rfl, rfl, True.intro⟩
  · have h := gq_neg hp h
    exact go_wk (CX9_isPair_26 hd x1 x2 x3 M P k0 h) ⟨rfl, rfl, rfl, rfl, True.intro⟩
def fX9_isPair (a1 : Int32) (a2 : Int32) (a3 : Int32) (M : gMem) : Option (Int32) := fX9_isPair_0 a1 a2 a3 M
theorem SX9_isPair {G : gG} (a1 : Int32) (a2 : Int32) (a3 : Int32) (M : gMem) {r : Int32} (h : fX9_isPair a1 a2 a3 M = some r) : gRun G YX9_isPair 0 [.ref 141, .int a1, .int a2, .int a3] M (fun r' N' => r' = some (.int r) ∧ N' = M) := gRun_in (by decide +kernel) rfl (fun d hd => go_wk (CX9_isPair_0 hd a1 a2 a3 M (fun p => p = r) (fun r hh => ⟨congrArg (fun z => some (Value.int z)) hh, rfl⟩) (gq_of h)) ⟨rfl, rfl, rfl, rfl, True.intro⟩)
