/-! Instructions that read or write the world. -/
def gMv (M : gMem) (k o j : Nat) : Value := match gTy k j with
  | .int => .int (M.1 o j)
  | .boolean => .int (M.1 o j)
  | .long => .long (M.2.1 o j)
  | _ => .ref (gRf M k o j)
theorem gMv_rl (G : gG) (M : gMem) (k o j : Nat) : gRl G (gMv M k o j) = gFv G M k o j := by
  unfold gMv gFv
  generalize gTy k j = z
  cases z <;> rfl
def gOb0 (k o : Nat) : Bool := Nat.beq (gSh o).1 0 && (Nat.beq (gSh o).2 k && Nat.blt o gN)
/-- gOb0 under a lock: it isn't unfolded, nor looked into -/
def gObL (n : Nat) (k : Nat) (o : Nat) : Bool := if n = 0 then gOb0 k o else gObL (n / 2) k o
termination_by n
decreasing_by omega
def gOb (k : Nat) (o : Nat) : Bool := gObL 1 k o
theorem gOb_eq (k : Nat) (o : Nat) : gOb k o = gOb0 k o := by
  unfold gOb
  rw [gObL, if_neg (by decide), gObL, if_pos (by decide)]
theorem gOb_c {k o : Nat} (h : gOb0 k o = true) : gOb k o = true := (gOb_eq k o).trans h
theorem gOb_sh {k o : Nat} (h : gOb k o = true) : gSh o = (0, k) ∧ o < gN := by
  rw [gOb_eq] at h
  simp only [gOb0, Bool.and_eq_true, Nat.beq_eq, Nat.blt_eq] at h
  exact ⟨Prod.ext h.1 h.2.1, h.2.2⟩
def gAr0 (t a : Nat) : Bool := Nat.beq (gSh a).1 t && Nat.blt a gN
/-- gAr0 under a lock: it isn't unfolded, nor looked into -/
def gArL (n : Nat) (t : Nat) (a : Nat) : Bool := if n = 0 then gAr0 t a else gArL (n / 2) t a
termination_by n
decreasing_by omega
def gAr (t : Nat) (a : Nat) : Bool := gArL 1 t a
theorem gAr_eq (t : Nat) (a : Nat) : gAr t a = gAr0 t a := by
  unfold gAr
  rw [gArL, if_neg (by decide), gArL, if_pos (by decide)]
theorem gAr_c {t a : Nat} (h : gAr0 t a = true) : gAr t a = true := (gAr_eq t a).trans h
theorem gAr_sh {t a : Nat} (h : gAr t a = true) : gSh a = (t, (gSh a).2) ∧ a < gN := by
  rw [gAr_eq] at h
  simp only [gAr0, Bool.and_eq_true, Nat.beq_eq, Nat.blt_eq] at h
  exact ⟨Prod.ext h.1 rfl, h.2⟩
def gIx0 (t a : Nat) (i : Int32) : Bool := gAr0 t a && (decide (0 ≤ i.toInt) && decide (i.toInt < ((gSh a).2 : Int)))
/-- gIx0 under a lock: it isn't unfolded, nor looked into -/
def gIxL (n : Nat) (t : Nat) (a : Nat) (i : Int32) : Bool := if n = 0 then gIx0 t a i else gIxL (n / 2) t a i
termination_by n
decreasing_by omega
def gIx (t : Nat) (a : Nat) (i : Int32) : Bool := gIxL 1 t a i
theorem gIx_eq (t : Nat) (a : Nat) (i : Int32) : gIx t a i = gIx0 t a i := by
  unfold gIx
  rw [gIxL, if_neg (by decide), gIxL, if_pos (by decide)]
theorem gIx_sh {t a : Nat} {i : Int32} (h : gIx t a i = true) : gSh a = (t, (gSh a).2) ∧ a < gN ∧ vp_in i (gSh a).2 := by
  rw [gIx_eq] at h
  simp only [gIx0, Bool.and_eq_true, decide_eq_true_eq] at h
  obtain ⟨h1, h2, h3⟩ := h
  exact ⟨(gAr_sh (gAr_c h1)).1, (gAr_sh (gAr_c h1)).2, vp_in_iff.mpr ⟨h2, h3⟩⟩
theorem gIx_of {t a n j : Nat} {i : Int32} (hs : gSh a = (t, n)) (ha : a < gN) (hi : i = nI j) (hj : j < n) (hn : n < 2 ^ 31) : gIx t a i = true := by
  have h : i.toInt = (j : Int) := by rw [hi]; exact nI_toInt (by omega)
  rw [gIx_eq]
  unfold gIx0 gAr0
  rw [hs, h]
  simp only [Bool.and_eq_true, decide_eq_true_eq, Nat.beq_eq, Nat.blt_eq]
  exact ⟨⟨trivial, ha⟩, by omega, by omega⟩
theorem gCl_ob {G : gG} {M : gMem} {o k : Nat} (h : gSh o = (0, k)) : gCl G M o = .inr (k, (List.range (gNf k)).map (gFv G M k o)) := by
  unfold gCl; rw [h]; rfl
theorem gCl_1 {G : gG} {M : gMem} {o n : Nat} (h : gSh o = (1, n)) : gCl G M o = .inl (G.2.1 0, n, .inl (M.1 o)) := by
  unfold gCl; rw [h]; rfl
theorem gCl_2 {G : gG} {M : gMem} {o n : Nat} (h : gSh o = (2, n)) : gCl G M o = .inl (G.2.1 1, n, .inl (M.1 o)) := by
  unfold gCl; rw [h]; rfl
theorem gCl_3 {G : gG} {M : gMem} {o n : Nat} (h : gSh o = (3, n)) : gCl G M o = .inl (G.2.1 2, n, .inl (M.1 o)) := by
  unfold gCl; rw [h]; rfl
theorem gCl_4 {G : gG} {M : gMem} {o n : Nat} (h : gSh o = (4, n)) : gCl G M o = .inl (G.2.1 3, n, .inr (.inl (M.2.1 o))) := by
  unfold gCl; rw [h]; rfl
theorem gCl_5 {G : gG} {M : gMem} {o n : Nat} (h : gSh o = (5, n)) : gCl G M o = .inl (G.2.1 4, n, .inr (.inr (.inr (.inr (fun i => some (G.2.2 (gRa o i))))))) := by
  unfold gCl; rw [h]; rfl
theorem gCl_6 {G : gG} {M : gMem} {o n : Nat} (h : gSh o = (6, n)) : gCl G M o = .inl (G.2.1 5, n, .inr (.inr (.inr (.inr (fun i => some (G.2.2 (gRa o i))))))) := by
  unfold gCl; rw [h]; rfl
theorem gCl_7 {G : gG} {M : gMem} {o n : Nat} (h : gSh o = (7, n)) : gCl G M o = .inl (G.2.1 6, n, .inr (.inr (.inr (.inr (fun i => some (G.2.2 (gRa o i))))))) := by
  unfold gCl; rw [h]; rfl
section GHP
variable {own : String} {cc : ByteArray} {nL pc : Nat}
def i_get (k j t : Nat) : gStp := fun L S M => match S with
  | .ref o :: S => if gOb k o = true then some (t, L, gMv M k o j :: S, M) else none
  | _ => none
theorem sn_get {k j index : Nat} (hc : gCk k) (hj : j < gNf k) (hd : decode cc pc = .ok (.getfield index, 3)) (hw : Cond.fieldLink own index ((gC k).2.1 j).1 ((gC k).2.1 j).2.1 ((gC k).2.1 j).2.2.1 ∈ gT) : gSn own cc nL pc (i_get k j (pc + 3)) := by
  intro p l e R s m args below meth c cells slots Q G C L S M pc' L' S' M' hf kk H locs ls hP hS hl
  unfold i_get at hf
  split at hf
  · next o S =>
    split at hf
    · next ho =>
      cases hf
      obtain ⟨h1, h2⟩ := gOb_sh ho
      have hk := kk H locs ls hP hS hl
      rw [List.map_cons, gMv_rl] at hk
      exact va_get C.1 C.2.1 (ref := ((gC k).2.1 j).1) C.2.2.2.2.1 hc.2.1 C.2.2.2.1 C.2.2.2.2.2.1 hP o (by rw [gWs_at h2, gCl_ob h1]) hc.1 j hj (C.2.2.2.2.1 _ hw) (fun x h => h) (gFs_at hj) hd hk
    · cases hf
  · cases hf
theorem sn_getN {k j index : Nat} {host : String} (hc : gCk k) (hj : j < gNf k) (hd : decode cc pc = .ok (.getfield index, 3)) (hw : Cond.fieldLinkNest own index ((gC k).2.1 j).1 ((gC k).2.1 j).2.1 ((gC k).2.1 j).2.2.1 host ∈ gNsf) : gSn own cc nL pc (i_get k j (pc + 3)) := by
  intro p l e R s m args below meth c cells slots Q G C L S M pc' L' S' M' hf kk H locs ls hP hS hl
  unfold i_get at hf
  split at hf
  · next o S =>
    split at hf
    · next ho =>
      cases hf
      obtain ⟨h1, h2⟩ := gOb_sh ho
      have hk := kk H locs ls hP hS hl
      rw [List.map_cons, gMv_rl] at hk
      exact va_getN C.1 C.2.1 (ref := ((gC k).2.1 j).1) C.2.2.2.2.1 hc.2.1 C.2.2.2.1 C.2.2.2.2.2.1 hP o (by rw [gWs_at h2, gCl_ob h1]) hc.1 j hj (va_Nw.use rfl (C.2.2.2.2.2.2.2.1.2.2.2.1 _ hw)) (fun x h => h) (gFs_at hj) hd hk
    · cases hf
  · cases hf
/-- a write into a field of an object -/
theorem gPut {p : Program} {l : Launch} {e : Env} {R : Room} {s : State} {m : MethodId} {args : Array Value} {below : List Frame} {meth : Method} {c : Code} {cells slots : Nat} {Q : State → Prop} {G : gG} {M M' : gMem} {k j o index : Nat} {v : Value} {ty : FieldType} {H : Heap} {locs : List Loc} {ls : Array Slot} {rest : List Value}
    (C : gCx own cc nL p R s m args c cells slots G) (hc : gCk k) (hj : j < gNf k) (hfin : ((gC k).2.1 j).2.2.2 = false) (hty : parseFieldDescriptor ((gC k).2.1 j).2.2.1 = some ty) (hn : narrow ty v = v) (hfit : fits ty v = true) (hd : decode cc pc = .ok (.putfield index, 3)) (hw : Cond.fieldLink own index ((gC k).2.1 j).1 ((gC k).2.1 j).2.1 ((gC k).2.1 j).2.2.1 ∈ gT)
    (h1 : gSh o = (0, k)) (h2 : o < gN) (hP : va_P G.1 vwCl (gWs G M) H) (hS : va_S (gA G) s.heap H locs)
    (hv : gFv G M' k o j = v) (hi : ∀ i, i ≠ j → gFv G M' k o i = gFv G M k o i) (hq : ∀ q, q ≠ o → gCl G M' q = gCl G M q)
    (kk : ∀ (H1 : Heap) (locs1 : List Loc), va_P G.1 vwCl (gWs G M') H1 → va_S (gA G) s.heap H1 locs1 → W p l e R s m args below meth c H1 locs1 cells slots Q (F0 m (pc + 3) ls rest)) : W p l e R s m args below meth c H locs cells slots Q (F0 m pc ls (v :: .ref (G.2.2 o) :: rest)) := by
  refine va_put C.1 C.2.1 (ref := ((gC k).2.1 j).1) C.2.2.2.2.1 hc.2.1 (gTy k) hc.2.2.1 hc.2.2.2 C.2.2.2.1 C.2.2.2.2.2.1 hP (gWs_D C.2.2.2.2.2.2.1) hS o (by rw [gWs_at h2, gCl_ob h1]) hc.1 j hj (C.2.2.2.2.1 _ hw) (fun x h => h) hfin hty hn hfit (by simp; exact hj) hd (fun H1 locs1 hP1 hD1 hS1 => ?_)
  rw [gFs_set hv hi, gWs_set (by rw [gCl_ob h1]) hq] at hP1
  exact kk H1 locs1 hP1 hS1
theorem gFv_I {G : gG} {M : gMem} {k o j i : Nat} {x : Int32} (h : i ≠ j) : gFv G (gSI M o j x) k o i = gFv G M k o i := by
  unfold gFv
  rw [gSI_0]
  have e : upd (M.1 o) j x i = M.1 o i := pk_un h
  rw [e]
  split <;> rfl
theorem gFv_J {G : gG} {M : gMem} {k o j i : Nat} {x : Int64} (h : i ≠ j) : gFv G (gSJ M o j x) k o i = gFv G M k o i := by
  unfold gFv
  rw [gSJ_0]
  have e : vp_updL (M.2.1 o) j x i = M.2.1 o i := pk_uLn h
  rw [e]
  split <;> rfl
theorem gCl_I {G : gG} {M : gMem} {o j q : Nat} {x : Int32} (h : q ≠ o) : gCl G (gSI M o j x) q = gCl G M q := gCl_ne (gSI_1 h) rfl (fun k j _ => gRf_T rfl k q j)
theorem gCl_J {G : gG} {M : gMem} {o j q : Nat} {x : Int64} (h : q ≠ o) : gCl G (gSJ M o j x) q = gCl G M q := gCl_ne rfl (gSJ_1 h) (fun k j _ => gRf_T rfl k q j)
def i_putI (k j t : Nat) : gStp := fun L S M => match S with
  | .int x :: .ref o :: S => if gOb k o = true then some (t, L, S, gSI M o j x) else none
  | _ => none
def i_putZ (k j t : Nat) : gStp := fun L S M => match S with
  | .int x :: .ref o :: S => if gOb k o = true then (if x = 0 ∨ x = 1 then some (t, L, S, gSI M o j x) else none) else none
  | _ => none
def i_putJ (k j t : Nat) : gStp := fun L S M => match S with
  | .long x :: .ref o :: S => if gOb k o = true then some (t, L, S, gSJ M o j x) else none
  | _ => none
theorem sn_putI {k j index : Nat} (hc : gCk k) (hj : j < gNf k) (ht : gTy k j = .int) (hfin : ((gC k).2.1 j).2.2.2 = false) (hd : decode cc pc = .ok (.putfield index, 3)) (hw : Cond.fieldLink own index ((gC k).2.1 j).1 ((gC k).2.1 j).2.1 ((gC k).2.1 j).2.2.1 ∈ gT) : gSn own cc nL pc (i_putI k j (pc + 3)) := by
  intro p l e R s m args below meth c cells slots Q G C L S M pc' L' S' M' hf kk H locs ls hP hS hl
  unfold i_putI at hf
  split at hf
  · next x o S =>
    split at hf
    · next ho =>
      cases hf
      obtain ⟨h1, h2⟩ := gOb_sh ho
      exact gPut C hc hj hfin ((hc.2.2.1 j hj).trans (by rw [ht])) rfl rfl hd hw h1 h2 hP hS (M' := gSI M o j x) (by unfold gFv; rw [ht, gSI_0]; show Value.int (upd (M.1 o) j x j) = _; rw [pk_us]; rfl) (fun i h => gFv_I h) (fun q h => gCl_I h) (fun H1 locs1 hP1 hS1 => kk H1 locs1 ls hP1 hS1 hl)
    · cases hf
  · cases hf
theorem sn_putZ {k j index : Nat} (hc : gCk k) (hj : j < gNf k) (ht : gTy k j = .boolean) (hfin : ((gC k).2.1 j).2.2.2 = false) (hd : decode cc pc = .ok (.putfield index, 3)) (hw : Cond.fieldLink own index ((gC k).2.1 j).1 ((gC k).2.1 j).2.1 ((gC k).2.1 j).2.2.1 ∈ gT) : gSn own cc nL pc (i_putZ k j (pc + 3)) := by
  intro p l e R s m args below meth c cells slots Q G C L S M pc' L' S' M' hf kk H locs ls hP hS hl
  unfold i_putZ at hf
  split at hf
  · next x o S =>
    split at hf
    · next ho =>
      split at hf
      · next hx =>
        cases hf
        obtain ⟨h1, h2⟩ := gOb_sh ho
        exact gPut C hc hj hfin ((hc.2.2.1 j hj).trans (by rw [ht])) (by rcases hx with rfl | rfl <;> rfl) (by rcases hx with rfl | rfl <;> rfl) hd hw h1 h2 hP hS (M' := gSI M o j x) (by unfold gFv; rw [ht, gSI_0]; show Value.int (upd (M.1 o) j x j) = _; rw [pk_us]; rfl) (fun i h => gFv_I h) (fun q h => gCl_I h) (fun H1 locs1 hP1 hS1 => kk H1 locs1 ls hP1 hS1 hl)
      · cases hf
    · cases hf
  · cases hf
theorem sn_putJ {k j index : Nat} (hc : gCk k) (hj : j < gNf k) (ht : gTy k j = .long) (hfin : ((gC k).2.1 j).2.2.2 = false) (hd : decode cc pc = .ok (.putfield index, 3)) (hw : Cond.fieldLink own index ((gC k).2.1 j).1 ((gC k).2.1 j).2.1 ((gC k).2.1 j).2.2.1 ∈ gT) : gSn own cc nL pc (i_putJ k j (pc + 3)) := by
  intro p l e R s m args below meth c cells slots Q G C L S M pc' L' S' M' hf kk H locs ls hP hS hl
  unfold i_putJ at hf
  split at hf
  · next x o S =>
    split at hf
    · next ho =>
      cases hf
      obtain ⟨h1, h2⟩ := gOb_sh ho
      exact gPut C hc hj hfin ((hc.2.2.1 j hj).trans (by rw [ht])) rfl rfl hd hw h1 h2 hP hS (M' := gSJ M o j x) (by unfold gFv; rw [ht, gSJ_0]; show Value.long (vp_updL (M.2.1 o) j x j) = _; rw [pk_uLs]; rfl) (fun i h => gFv_J h) (fun q h => gCl_J h) (fun H1 locs1 hP1 hS1 => kk H1 locs1 ls hP1 hS1 hl)
    · cases hf
  · cases hf
/-- the two towns that change places: of the reader (5, 1), of the class itself (8, 0) -/
def i_putT (k w t : Nat) : gStp := fun L S M => match S with
  | .ref x :: .ref o :: S => if gOb k o = true then (if gOb 7 x = true then some (t, L, S, gST M w x) else none) else none
  | _ => none
theorem gSh_out {q : Nat} (h : gN ≤ q) : gSh q = (9, 0) := by
  have b : ∀ n, n ≤ 162 → Nat.blt q n = false := fun n hn => Bool.eq_false_iff.mpr (fun g => by rw [Nat.blt_eq] at g; unfold gN at h; omega)
  unfold gSh
  rw [b 22 (by decide), b 61 (by decide), b 66 (by decide), b 141 (by decide)]
  simp only [cond_false]
  rw [List.getD_eq_getElem?_getD, List.getElem?_eq_none (by unfold gN at h; show 21 ≤ q - 141; omega)]
  rfl
theorem gSh_uniq (k : Nat) (hk : k = 5 ∨ k = 8) : ∀ o, o < gN → gSh o = (0, k) → o = (if k = 5 then 1 else 0) := by
  rcases hk with rfl | rfl
  · decide +kernel
  · decide +kernel
theorem sn_putT5 {index : Nat} (hd : decode cc pc = .ok (.putfield index, 3)) (hw : Cond.fieldLink own index ((gC 5).2.1 1).1 ((gC 5).2.1 1).2.1 ((gC 5).2.1 1).2.2.1 ∈ gT) : gSn own cc nL pc (i_putT 5 1 (pc + 3)) := by
  intro p l e R s m args below meth c cells slots Q G C L S M pc' L' S' M' hf kk H locs ls hP hS hl
  unfold i_putT at hf
  split at hf
  · next x o S =>
    split at hf
    · next ho =>
      split at hf
      · next hx =>
        cases hf
        obtain ⟨h1, h2⟩ := gOb_sh ho
        have ho1 : o = 1 := gSh_uniq 5 (Or.inl rfl) o h2 h1
        refine gPut C ck_5 (by decide) rfl (ck_5.2.2.1 1 (by decide)) rfl rfl hd hw h1 h2 hP hS (M' := gST M 1 x) rfl (fun i hi => ?_) (fun q hq => gCl_ne rfl rfl (fun k j hk => ?_)) (fun H1 locs1 hP1 hS1 => kk H1 locs1 ls hP1 hS1 hl)
        · match i, hi with
          | 0, _ => rfl
          | 2, _ => rfl
          | 3, _ => rfl
          | 4, _ => rfl
          | 5, _ => rfl
          | 6, _ => rfl
          | n + 7, _ => rfl
        · match k, hk with
          | 0, _ => rfl
          | 1, _ => rfl
          | 2, _ => rfl
          | 3, _ => rfl
          | 4, _ => rfl
          | 5, hk =>
            by_cases hqn : q < gN
            · exact absurd ((gSh_uniq 5 (Or.inl rfl) q hqn hk).trans ho1.symm) hq
            · rw [gSh_out (Nat.not_lt.mp hqn)] at hk
              cases hk
          | 6, _ => rfl
          | 7, _ => rfl
          | 8, _ => rfl
          | n + 9, _ => rfl
      · cases hf
    · cases hf
  · cases hf
theorem sn_putT8 {index : Nat} (hd : decode cc pc = .ok (.putfield index, 3)) (hw : Cond.fieldLink own index ((gC 8).2.1 6).1 ((gC 8).2.1 6).2.1 ((gC 8).2.1 6).2.2.1 ∈ gT) : gSn own cc nL pc (i_putT 8 0 (pc + 3)) := by
  intro p l e R s m args below meth c cells slots Q G C L S M pc' L' S' M' hf kk H locs ls hP hS hl
  unfold i_putT at hf
  split at hf
  · next x o S =>
    split at hf
    · next ho =>
      split at hf
      · next hx =>
        cases hf
        obtain ⟨h1, h2⟩ := gOb_sh ho
        have ho1 : o = 0 := gSh_uniq 8 (Or.inr rfl) o h2 h1
        refine gPut C ck_8 (by decide) rfl (ck_8.2.2.1 6 (by decide)) rfl rfl hd hw h1 h2 hP hS (M' := gST M 0 x) rfl (fun i hi => ?_) (fun q hq => gCl_ne rfl rfl (fun k j hk => ?_)) (fun H1 locs1 hP1 hS1 => kk H1 locs1 ls hP1 hS1 hl)
        · match i, hi with
          | 0, _ => rfl
          | 1, _ => rfl
          | 2, _ => rfl
          | 3, _ => rfl
          | 4, _ => rfl
          | 5, _ => rfl
          | n + 7, _ => rfl
        · match k, hk with
          | 0, _ => rfl
          | 1, _ => rfl
          | 2, _ => rfl
          | 3, _ => rfl
          | 4, _ => rfl
          | 5, _ => rfl
          | 6, _ => rfl
          | 7, _ => rfl
          | 8, hk =>
            by_cases hqn : q < gN
            · exact absurd ((gSh_uniq 8 (Or.inr rfl) q hqn hk).trans ho1.symm) hq
            · rw [gSh_out (Nat.not_lt.mp hqn)] at hk
              cases hk
          | n + 9, _ => rfl
      · cases hf
    · cases hf
  · cases hf
end GHP
