/-! Rows, statics, Math, copies, switches. -/
section GAR
variable {own : String} {cc : ByteArray} {nL pc : Nat}
def i_iald (t : Nat) : gStp := fun L S M => match S with
  | .int i :: .ref a :: S => if gIx 1 a i = true then some (t, L, .int (M.1 a i.toNatClampNeg) :: S, M) else none
  | _ => none
theorem sn_iald (hd : decode cc pc = .ok (.iaload, 1)) : gSn own cc nL pc (i_iald (pc + 1)) := by
  intro p l e R s m args below meth c cells slots Q G C L S M pc' L' S' M' hf kk H locs ls hP hS hl
  unfold i_iald at hf
  split at hf
  · next i a S =>
    split at hf
    · next ho =>
      cases hf
      obtain ⟨h1, h2, h3⟩ := gIx_sh ho
      exact va_iald C.1 C.2.1 C.2.2.2.2.2.1 hP a 0 ((gWs_at h2).trans (by rw [gCl_1 h1])) rfl h3 hd (kk H locs ls hP hS hl)
    · cases hf
  · cases hf
def i_bald (t : Nat) : gStp := fun L S M => match S with
  | .int i :: .ref a :: S => if gIx 2 a i = true then some (t, L, .int (M.1 a i.toNatClampNeg) :: S, M) else none
  | _ => none
theorem sn_bald (hd : decode cc pc = .ok (.baload, 1)) : gSn own cc nL pc (i_bald (pc + 1)) := by
  intro p l e R s m args below meth c cells slots Q G C L S M pc' L' S' M' hf kk H locs ls hP hS hl
  unfold i_bald at hf
  split at hf
  · next i a S =>
    split at hf
    · next ho =>
      cases hf
      obtain ⟨h1, h2, h3⟩ := gIx_sh ho
      exact va_bald C.1 C.2.1 C.2.2.2.2.2.1 hP a 1 ((gWs_at h2).trans (by rw [gCl_2 h1])) rfl h3 hd (kk H locs ls hP hS hl)
    · cases hf
  · cases hf
def i_zald (t : Nat) : gStp := fun L S M => match S with
  | .int i :: .ref a :: S => if gIx 3 a i = true then some (t, L, .int (M.1 a i.toNatClampNeg) :: S, M) else none
  | _ => none
theorem sn_zald (hd : decode cc pc = .ok (.baload, 1)) : gSn own cc nL pc (i_zald (pc + 1)) := by
  intro p l e R s m args below meth c cells slots Q G C L S M pc' L' S' M' hf kk H locs ls hP hS hl
  unfold i_zald at hf
  split at hf
  · next i a S =>
    split at hf
    · next ho =>
      cases hf
      obtain ⟨h1, h2, h3⟩ := gIx_sh ho
      exact va_zald C.1 C.2.1 C.2.2.2.2.2.1 hP a 2 ((gWs_at h2).trans (by rw [gCl_3 h1])) rfl h3 hd (kk H locs ls hP hS hl)
    · cases hf
  · cases hf
def i_lald (t : Nat) : gStp := fun L S M => match S with
  | .int i :: .ref a :: S => if gIx 4 a i = true then some (t, L, .long (M.2.1 a i.toNatClampNeg) :: S, M) else none
  | _ => none
theorem sn_lald (hd : decode cc pc = .ok (.laload, 1)) : gSn own cc nL pc (i_lald (pc + 1)) := by
  intro p l e R s m args below meth c cells slots Q G C L S M pc' L' S' M' hf kk H locs ls hP hS hl
  unfold i_lald at hf
  split at hf
  · next i a S =>
    split at hf
    · next ho =>
      cases hf
      obtain ⟨h1, h2, h3⟩ := gIx_sh ho
      exact va_lald C.1 C.2.1 C.2.2.2.2.2.1 hP a 3 ((gWs_at h2).trans (by rw [gCl_4 h1])) rfl h3 hd (kk H locs ls hP hS hl)
    · cases hf
  · cases hf
def i_iast (t : Nat) : gStp := fun L S M => match S with
  | .int x :: .int i :: .ref a :: S => if gIx 1 a i = true then some (t, L, S, gSI M a i.toNatClampNeg x) else none
  | _ => none
theorem sn_iast (hd : decode cc pc = .ok (.iastore, 1)) : gSn own cc nL pc (i_iast (pc + 1)) := by
  intro p l e R s m args below meth c cells slots Q G C L S M pc' L' S' M' hf kk H locs ls hP hS hl
  unfold i_iast at hf
  split at hf
  · next x i a S =>
    split at hf
    · next ho =>
      cases hf
      obtain ⟨h1, h2, h3⟩ := gIx_sh ho
      refine va_iast C.1 C.2.1 C.2.2.2.2.2.1 hP (gWs_D C.2.2.2.2.2.2.1) hS a 0 ((gWs_at h2).trans (by rw [gCl_1 h1])) rfl h3 hd (fun H1 locs1 hP1 hD1 hS1 => ?_)
      refine kk H1 locs1 ls ?_ hS1 hl
      rwa [gWs_set (G := G) (M := M) (M' := gSI M a i.toNatClampNeg x) (by rw [gCl_1 h1, gSI_0]) (fun q h => gCl_I h)] at hP1
    · cases hf
  · cases hf
def i_bast (t : Nat) : gStp := fun L S M => match S with
  | .int x :: .int i :: .ref a :: S => if gIx 2 a i = true then some (t, L, S, gSI M a i.toNatClampNeg (vp_nar .byte x)) else none
  | _ => none
theorem sn_bast (hd : decode cc pc = .ok (.bastore, 1)) : gSn own cc nL pc (i_bast (pc + 1)) := by
  intro p l e R s m args below meth c cells slots Q G C L S M pc' L' S' M' hf kk H locs ls hP hS hl
  unfold i_bast at hf
  split at hf
  · next x i a S =>
    split at hf
    · next ho =>
      cases hf
      obtain ⟨h1, h2, h3⟩ := gIx_sh ho
      refine va_bast C.1 C.2.1 C.2.2.2.2.2.1 hP (gWs_D C.2.2.2.2.2.2.1) hS a 1 ((gWs_at h2).trans (by rw [gCl_2 h1])) rfl h3 hd (fun H1 locs1 hP1 hD1 hS1 => ?_)
      refine kk H1 locs1 ls ?_ hS1 hl
      rwa [gWs_set (G := G) (M := M) (M' := gSI M a i.toNatClampNeg (vp_nar .byte x)) (by rw [gCl_2 h1, gSI_0]) (fun q h => gCl_I h)] at hP1
    · cases hf
  · cases hf
def i_zast (t : Nat) : gStp := fun L S M => match S with
  | .int x :: .int i :: .ref a :: S => if gIx 3 a i = true then some (t, L, S, gSI M a i.toNatClampNeg (vp_nar .boolean x)) else none
  | _ => none
theorem sn_zast (hd : decode cc pc = .ok (.bastore, 1)) : gSn own cc nL pc (i_zast (pc + 1)) := by
  intro p l e R s m args below meth c cells slots Q G C L S M pc' L' S' M' hf kk H locs ls hP hS hl
  unfold i_zast at hf
  split at hf
  · next x i a S =>
    split at hf
    · next ho =>
      cases hf
      obtain ⟨h1, h2, h3⟩ := gIx_sh ho
      refine va_zast C.1 C.2.1 C.2.2.2.2.2.1 hP (gWs_D C.2.2.2.2.2.2.1) hS a 2 ((gWs_at h2).trans (by rw [gCl_3 h1])) rfl h3 hd (fun H1 locs1 hP1 hD1 hS1 => ?_)
      refine kk H1 locs1 ls ?_ hS1 hl
      rwa [gWs_set (G := G) (M := M) (M' := gSI M a i.toNatClampNeg (vp_nar .boolean x)) (by rw [gCl_3 h1, gSI_0]) (fun q h => gCl_I h)] at hP1
    · cases hf
  · cases hf
def i_last (t : Nat) : gStp := fun L S M => match S with
  | .long x :: .int i :: .ref a :: S => if gIx 4 a i = true then some (t, L, S, gSJ M a i.toNatClampNeg x) else none
  | _ => none
theorem sn_last (hd : decode cc pc = .ok (.lastore, 1)) : gSn own cc nL pc (i_last (pc + 1)) := by
  intro p l e R s m args below meth c cells slots Q G C L S M pc' L' S' M' hf kk H locs ls hP hS hl
  unfold i_last at hf
  split at hf
  · next x i a S =>
    split at hf
    · next ho =>
      cases hf
      obtain ⟨h1, h2, h3⟩ := gIx_sh ho
      refine va_last C.1 C.2.1 C.2.2.2.2.2.1 hP (gWs_D C.2.2.2.2.2.2.1) hS a 3 ((gWs_at h2).trans (by rw [gCl_4 h1])) rfl h3 hd (fun H1 locs1 hP1 hD1 hS1 => ?_)
      refine kk H1 locs1 ls ?_ hS1 hl
      rwa [gWs_set (G := G) (M := M) (M' := gSJ M a i.toNatClampNeg x) (by rw [gCl_4 h1, gSJ_0]) (fun q h => gCl_J h)] at hP1
    · cases hf
  · cases hf
def i_aald5 (t : Nat) : gStp := fun L S M => match S with
  | .int i :: .ref a :: S => if gIx 5 a i = true then some (t, L, .ref (gRa a i.toNatClampNeg) :: S, M) else none
  | _ => none
theorem sn_aald5 (hd : decode cc pc = .ok (.aaload, 1)) : gSn own cc nL pc (i_aald5 (pc + 1)) := by
  intro p l e R s m args below meth c cells slots Q G C L S M pc' L' S' M' hf kk H locs ls hP hS hl
  unfold i_aald5 at hf
  split at hf
  · next i a S =>
    split at hf
    · next ho =>
      cases hf
      obtain ⟨h1, h2, h3⟩ := gIx_sh ho
      have hlt : i.toNatClampNeg < (gSh a).2 := Nat.not_le.mp fun q => h3 (Or.inr q)
      have hc : H[G.2.2 a]? = some (vp_cell (G.2.1 4) ((gSh a).2, .inr (.inr (.inr (.inr (fun i => some (G.2.2 (gRa a i)))))))) := by
        have h0 := hP a _ (gWs_at h2)
        rw [gCl_5 h1] at h0
        exact h0
      exact W.aald (v := .ref (G.2.2 (gRa a i.toNatClampNeg))) (ty := .object RX4) C.1 C.2.1 hc ((C.2.2.2.2.2.1.2 4 _ rfl).1 _ (fun j => va_rf (some (G.2.2 (gRa a j))))) rfl (fun q => by cases q) (by show ¬ (i < 0 ∨ (arrV _ _ _).slots.size ≤ _); rw [arrV_size]; exact h3) (by show (arrV _ _ _).slots[_]? = _; rw [arrV_read _ _ hlt]; rfl) rfl rfl hd (kk H locs ls hP hS hl)
    · cases hf
  · cases hf
def i_aald6 (t : Nat) : gStp := fun L S M => match S with
  | .int i :: .ref a :: S => if gIx 6 a i = true then some (t, L, .ref (gRa a i.toNatClampNeg) :: S, M) else none
  | _ => none
theorem sn_aald6 (hd : decode cc pc = .ok (.aaload, 1)) : gSn own cc nL pc (i_aald6 (pc + 1)) := by
  intro p l e R s m args below meth c cells slots Q G C L S M pc' L' S' M' hf kk H locs ls hP hS hl
  unfold i_aald6 at hf
  split at hf
  · next i a S =>
    split at hf
    · next ho =>
      cases hf
      obtain ⟨h1, h2, h3⟩ := gIx_sh ho
      have hlt : i.toNatClampNeg < (gSh a).2 := Nat.not_le.mp fun q => h3 (Or.inr q)
      have hc : H[G.2.2 a]? = some (vp_cell (G.2.1 5) ((gSh a).2, .inr (.inr (.inr (.inr (fun i => some (G.2.2 (gRa a i)))))))) := by
        have h0 := hP a _ (gWs_at h2)
        rw [gCl_6 h1] at h0
        exact h0
      exact W.aald (v := .ref (G.2.2 (gRa a i.toNatClampNeg))) (ty := .object RX7) C.1 C.2.1 hc ((C.2.2.2.2.2.1.2 5 _ rfl).1 _ (fun j => va_rf (some (G.2.2 (gRa a j))))) rfl (fun q => by cases q) (by show ¬ (i < 0 ∨ (arrV _ _ _).slots.size ≤ _); rw [arrV_size]; exact h3) (by show (arrV _ _ _).slots[_]? = _; rw [arrV_read _ _ hlt]; rfl) rfl rfl hd (kk H locs ls hP hS hl)
    · cases hf
  · cases hf
def i_aald7 (t : Nat) : gStp := fun L S M => match S with
  | .int i :: .ref a :: S => if gIx 7 a i = true then some (t, L, .ref (gRa a i.toNatClampNeg) :: S, M) else none
  | _ => none
theorem sn_aald7 (hd : decode cc pc = .ok (.aaload, 1)) : gSn own cc nL pc (i_aald7 (pc + 1)) := by
  intro p l e R s m args below meth c cells slots Q G C L S M pc' L' S' M' hf kk H locs ls hP hS hl
  unfold i_aald7 at hf
  split at hf
  · next i a S =>
    split at hf
    · next ho =>
      cases hf
      obtain ⟨h1, h2, h3⟩ := gIx_sh ho
      have hlt : i.toNatClampNeg < (gSh a).2 := Nat.not_le.mp fun q => h3 (Or.inr q)
      have hc : H[G.2.2 a]? = some (vp_cell (G.2.1 6) ((gSh a).2, .inr (.inr (.inr (.inr (fun i => some (G.2.2 (gRa a i)))))))) := by
        have h0 := hP a _ (gWs_at h2)
        rw [gCl_7 h1] at h0
        exact h0
      exact W.aald (v := .ref (G.2.2 (gRa a i.toNatClampNeg))) (ty := .array .int) C.1 C.2.1 hc ((C.2.2.2.2.2.1.2 6 _ rfl).1 _ (fun j => va_rf (some (G.2.2 (gRa a j))))) rfl (fun q => by cases q) (by show ¬ (i < 0 ∨ (arrV _ _ _).slots.size ≤ _); rw [arrV_size]; exact h3) (by show (arrV _ _ _).slots[_]? = _; rw [arrV_read _ _ hlt]; rfl) rfl rfl hd (kk H locs ls hP hS hl)
    · cases hf
  · cases hf
def gAl0 (a : Nat) : Bool := Nat.blt 0 (gSh a).1 && (Nat.blt (gSh a).1 8 && Nat.blt a gN)
/-- gAl0 under a lock: it isn't unfolded, nor looked into -/
def gAlL (n : Nat) (a : Nat) : Bool := if n = 0 then gAl0 a else gAlL (n / 2) a
termination_by n
decreasing_by omega
def gAl (a : Nat) : Bool := gAlL 1 a
theorem gAl_eq (a : Nat) : gAl a = gAl0 a := by
  unfold gAl
  rw [gAlL, if_neg (by decide), gAlL, if_pos (by decide)]
theorem gAl_c {a : Nat} (h : gAl0 a = true) : gAl a = true := (gAl_eq a).trans h
def i_alen (t : Nat) : gStp := fun L S M => match S with
  | .ref a :: S => if gAl a = true then some (t, L, .int (nI (gSh a).2) :: S, M) else none
  | _ => none
theorem sn_alen (hd : decode cc pc = .ok (.arraylength, 1)) : gSn own cc nL pc (i_alen (pc + 1)) := by
  intro p l e R s m args below meth c cells slots Q G C L S M pc' L' S' M' hf kk H locs ls hP hS hl
  unfold i_alen at hf
  split at hf
  · next a S =>
    split at hf
    · next ho =>
      cases hf
      rw [gAl_eq] at ho
      simp only [gAl0, Bool.and_eq_true, Nat.blt_eq] at ho
      obtain ⟨h0, h8, h2⟩ := ho
      have hk := kk H locs ls hP hS hl
      generalize hs : gSh a = z at h0 h8 hk
      obtain ⟨t, n⟩ := z
      match t, h0, h8 with
      | 1, _, _ => exact va_alen (x := (n, .inl (M.1 a))) C.1 C.2.1 C.2.2.2.2.2.1 hP a 0 ((gWs_at h2).trans (by rw [gCl_1 hs])) rfl rfl hd hk
      | 2, _, _ => exact va_alen (x := (n, .inl (M.1 a))) C.1 C.2.1 C.2.2.2.2.2.1 hP a 1 ((gWs_at h2).trans (by rw [gCl_2 hs])) rfl rfl hd hk
      | 3, _, _ => exact va_alen (x := (n, .inl (M.1 a))) C.1 C.2.1 C.2.2.2.2.2.1 hP a 2 ((gWs_at h2).trans (by rw [gCl_3 hs])) rfl rfl hd hk
      | 4, _, _ => exact va_alen (x := (n, .inr (.inl (M.2.1 a)))) C.1 C.2.1 C.2.2.2.2.2.1 hP a 3 ((gWs_at h2).trans (by rw [gCl_4 hs])) rfl rfl hd hk
      | 5, _, _ => exact va_alen (x := (n, .inr (.inr (.inr (.inr (fun i => some (G.2.2 (gRa a i)))))))) C.1 C.2.1 C.2.2.2.2.2.1 hP a 4 ((gWs_at h2).trans (by rw [gCl_5 hs])) rfl rfl hd hk
      | 6, _, _ => exact va_alen (x := (n, .inr (.inr (.inr (.inr (fun i => some (G.2.2 (gRa a i)))))))) C.1 C.2.1 C.2.2.2.2.2.1 hP a 5 ((gWs_at h2).trans (by rw [gCl_6 hs])) rfl rfl hd hk
      | 7, _, _ => exact va_alen (x := (n, .inr (.inr (.inr (.inr (fun i => some (G.2.2 (gRa a i)))))))) C.1 C.2.1 C.2.2.2.2.2.1 hP a 6 ((gWs_at h2).trans (by rw [gCl_7 hs])) rfl rfl hd hk
    · cases hf
  · cases hf
/-- the table of factorials: row 900 -/
def i_fac (t : Nat) : gStp := fun L S M => some (t, L, .ref 900 :: S, M)
theorem sn_fac {index : Nat} (hd : decode cc pc = .ok (.getstatic index, 3)) (hw : Cond.fieldLink own index "WaxedPartners" "FACTORIALS" "[I" ∈ gT) : gSn own cc nL pc (i_fac (pc + 3)) := by
  intro p l e R s m args below meth c cells slots Q G C L S M pc' L' S' M' hf kk H locs ls hP hS hl
  cases hf
  exact va_gets C.1 C.2.1 C.2.2.2.2.2.2.2.1.1 hS C.2.2.2.1 (C.2.2.2.2.1 _ hw) (fun x h => h) hd (kk H locs ls hP hS hl)
def i_fald (t : Nat) : gStp := fun L S M => match S with
  | .int i :: .ref a :: S => if Nat.beq a 900 = true ∧ 0 ≤ i.toInt ∧ i.toInt < 7 then some (t, L, .int (gFac i.toNatClampNeg) :: S, M) else none
  | _ => none
theorem sn_fald (hd : decode cc pc = .ok (.iaload, 1)) : gSn own cc nL pc (i_fald (pc + 1)) := by
  intro p l e R s m args below meth c cells slots Q G C L S M pc' L' S' M' hf kk H locs ls hP hS hl
  unfold i_fald at hf
  split at hf
  · next i a S =>
    split at hf
    · next ho =>
      cases hf
      obtain ⟨h1, h2, h3⟩ := ho
      have ha : a = 900 := Nat.eq_of_beq_eq_true h1
      subst ha
      exact va_ti C.1 C.2.1 C.2.2.2.2.2.2.2.1.2.1 hS (vp_in_iff.mpr ⟨h2, h3⟩) rfl hd (kk H locs ls hP hS hl)
    · cases hf
  · cases hf
theorem gCat_sum (G : gG) (S : List Value) : ((S.map (gRl G)).map fun v => v.category).sum = (S.map fun v => v.category).sum := by
  induction S with
  | nil => rfl
  | cons v S ih => simp only [List.map_cons, List.sum_cons, gRl_cat, ih]
theorem gCat_le (S : List Value) (h : S.length ≤ 12) : (S.map fun v => v.category).sum ≤ 24 := by
  have key : ∀ (S : List Value), (S.map fun v => v.category).sum ≤ 2 * S.length := by
    intro S
    induction S with
    | nil => exact Nat.le_refl _
    | cons v S ih =>
      have hv : v.category ≤ 2 := by rcases lv_cat v with e | e <;> omega
      simp only [List.map_cons, List.sum_cons, List.length_cons]
      omega
  have := key S
  omega
def i_max (t : Nat) : gStp := fun L S M => match S with
  | .int y :: .int x :: S => if Nat.ble S.length 12 = true then some (t, L, .int (if x < y then y else x) :: S, M) else none
  | _ => none
def i_min (t : Nat) : gStp := fun L S M => match S with
  | .int y :: .int x :: S => if Nat.ble S.length 12 = true then some (t, L, .int (if y < x then y else x) :: S, M) else none
  | _ => none
def i_labs (t : Nat) : gStp := fun L S M => match S with
  | .long x :: S => if Nat.ble S.length 12 = true then some (t, L, .long (if 0 < x then x else -x) :: S, M) else none
  | _ => none
theorem sn_max {index : Nat} (hd : decode cc pc = .ok (.invokestatic index, 3)) (h1 : Cond.methodLink own index Lib.Math.max.name ∈ gT) (h2 : Cond.static Lib.Math.max.name ∈ gT) (h3 : Cond.initialized "java/lang/Math" ∈ gT) (h4 : Cond.code Lib.Math.max.name Lib.Math.max.code 2 (some .int) ∈ gT) : gSn own cc nL pc (i_max (pc + 3)) := by
  intro p l e R s m args below meth c cells slots Q G C L S M pc' L' S' M' hf kk H locs ls hP hS hl
  unfold i_max at hf
  split at hf
  · split at hf
    · next hlen =>
      cases hf
      obtain ⟨r1, r2, r3, r4⟩ := C.2.2.2.2.2.2.2.2
      have hts := C.2.2.2.2.1
      refine va_mmax C.1 C.2.1 (C.2.2.1.trans hl.1.symm) C.2.2.2.1 (hts _ h1) (hts _ h2) (hts _ h3) (hts _ h4) r1 ?_ r3 r4 hd (kk H locs ls hP hS hl)
      rw [gCat_sum]
      have := gCat_le _ (Nat.le_of_ble_eq_true hlen)
      omega
    · cases hf
  · cases hf
theorem sn_min {index : Nat} (hd : decode cc pc = .ok (.invokestatic index, 3)) (h1 : Cond.methodLink own index Lib.Math.min.name ∈ gT) (h2 : Cond.static Lib.Math.min.name ∈ gT) (h3 : Cond.initialized "java/lang/Math" ∈ gT) (h4 : Cond.code Lib.Math.min.name Lib.Math.min.code 2 (some .int) ∈ gT) : gSn own cc nL pc (i_min (pc + 3)) := by
  intro p l e R s m args below meth c cells slots Q G C L S M pc' L' S' M' hf kk H locs ls hP hS hl
  unfold i_min at hf
  split at hf
  · split at hf
    · next hlen =>
      cases hf
      obtain ⟨r1, r2, r3, r4⟩ := C.2.2.2.2.2.2.2.2
      have hts := C.2.2.2.2.1
      refine va_mmin C.1 C.2.1 (C.2.2.1.trans hl.1.symm) C.2.2.2.1 (hts _ h1) (hts _ h2) (hts _ h3) (hts _ h4) r1 ?_ r3 r4 hd (kk H locs ls hP hS hl)
      rw [gCat_sum]
      have := gCat_le _ (Nat.le_of_ble_eq_true hlen)
      omega
    · cases hf
  · cases hf
theorem sn_labs {index : Nat} (hd : decode cc pc = .ok (.invokestatic index, 3)) (h1 : Cond.methodLink own index Lib.MathLoose.abs_long.x ∈ gT) (h2 : Cond.static Lib.MathLoose.abs_long.x ∈ gT) (h3 : Cond.initialized "java/lang/Math" ∈ gT) (h4 : Cond.code Lib.MathLoose.abs_long.x Lib.MathLoose.abs_long.code 2 (some .long) ∈ gT) : gSn own cc nL pc (i_labs (pc + 3)) := by
  intro p l e R s m args below meth c cells slots Q G C L S M pc' L' S' M' hf kk H locs ls hP hS hl
  unfold i_labs at hf
  split at hf
  · split at hf
    · next hlen =>
      cases hf
      obtain ⟨r1, r2, r3, r4⟩ := C.2.2.2.2.2.2.2.2
      have hts := C.2.2.2.2.1
      refine va_mabs_long C.1 C.2.1 (C.2.2.1.trans hl.1.symm) C.2.2.2.1 (hts _ h1) (hts _ h2) (hts _ h3) (hts _ h4) r1 ?_ r3 r4 hd (kk H locs ls hP hS hl)
      rw [gCat_sum]
      have := gCat_le _ (Nat.le_of_ble_eq_true hlen)
      omega
    · cases hf
  · cases hf
def gCI (M : gMem) (o : Nat) (f : Nat → Int32) : gMem := (fun a => if a = o then f else M.1 a, M.2)
def gCJ (M : gMem) (o : Nat) (f : Nat → Int64) : gMem := (M.1, fun a => if a = o then f else M.2.1 a, M.2.2)
theorem gCI_0 {M : gMem} {o : Nat} {f : Nat → Int32} : (gCI M o f).1 o = f := if_pos rfl
theorem gCI_1 {M : gMem} {o q : Nat} {f : Nat → Int32} (h : q ≠ o) : (gCI M o f).1 q = M.1 q := if_neg h
theorem gCJ_0 {M : gMem} {o : Nat} {f : Nat → Int64} : (gCJ M o f).2.1 o = f := if_pos rfl
theorem gCJ_1 {M : gMem} {o q : Nat} {f : Nat → Int64} (h : q ≠ o) : (gCJ M o f).2.1 q = M.2.1 q := if_neg h
def i_cpyi (t : Nat) : gStp := fun L S M => match S with
  | .int n :: .int dp :: .ref a1 :: .int sp :: .ref a0 :: S => if Nat.ble S.length 12 = true ∧ gAr 1 a0 = true ∧ gAr 1 a1 = true ∧ 0 ≤ n.toInt ∧ 0 ≤ dp.toInt ∧ 0 ≤ sp.toInt ∧ sp.toInt + n.toInt ≤ ((gSh a0).2 : Int) ∧ dp.toInt + n.toInt ≤ ((gSh a1).2 : Int) then some (t, L, S, gCI M a1 (va_cpy (M.1 a0) (M.1 a1) sp.toNatClampNeg dp.toNatClampNeg n.toNatClampNeg)) else none
  | _ => none
theorem sn_cpyi {index : Nat} (hd : decode cc pc = .ok (.invokestatic index, 3)) (h1 : Cond.methodLink own index arraycopyName ∈ gT) (h2 : Cond.native arraycopyName ∈ gT) (h3 : Cond.static arraycopyName ∈ gT) (h4 : Cond.initialized "java/lang/System" ∈ gT) : gSn own cc nL pc (i_cpyi (pc + 3)) := by
  intro p l e R s m args below meth c cells slots Q G C L S M pc' L' S' M' hf kk H locs ls hP hS hl
  unfold i_cpyi at hf
  split at hf
  · next n dp a1 sp a0 S =>
    split at hf
    · next ho =>
      cases hf
      obtain ⟨hlen, g0, g1, e1, e2, e3, e4, e5⟩ := ho
      obtain ⟨s0, n0⟩ := gAr_sh g0
      obtain ⟨s1, n1⟩ := gAr_sh g1
      obtain ⟨r1, r2, r3, r4⟩ := C.2.2.2.2.2.2.2.2
      have hts := C.2.2.2.2.1
      have nn : ∀ z : Int32, 0 ≤ z.toInt → ¬ z < 0 ∧ z.toInt = (z.toNatClampNeg : Int) := fun z hz => by
        refine ⟨fun h => ?_, ?_⟩
        · rw [Int32.lt_iff_toInt_lt, Int32.toInt_zero] at h
          omega
        · show z.toInt = ((z.toInt.toNat : Nat) : Int)
          omega
      have q1 := nn n e1
      have q2 := nn dp e2
      have q3 := nn sp e3
      refine va_copyi C.1 C.2.1 (C.2.2.1.trans hl.1.symm) C.2.2.2.1 (hts _ h1) (hts _ h2) (hts _ h3) (hts _ h4) C.2.2.2.2.2.1 hP (gWs_D C.2.2.2.2.2.2.1) hS a0 a1 0 0 ((gWs_at n0).trans (by rw [gCl_1 s0])) ((gWs_at n1).trans (by rw [gCl_1 s1])) rfl rfl rfl q3.1 q2.1 q1.1 (by omega) (by omega) (fun _ _ => rfl) r1 ?_ hd (fun H1 locs1 hP1 hD1 hS1 => ?_)
      · rw [gCat_sum]
        have := gCat_le _ (Nat.le_of_ble_eq_true hlen)
        have : nativeFrameWords "java/lang/System" "arraycopy" 5 = 7 := by decide +kernel
        omega
      · refine kk H1 locs1 ls ?_ hS1 hl
        rwa [gWs_set (G := G) (M := M) (M' := gCI M a1 (va_cpy (M.1 a0) (M.1 a1) sp.toNatClampNeg dp.toNatClampNeg n.toNatClampNeg)) (by rw [gCl_1 s1, gCI_0]) (fun q h => gCl_ne (gCI_1 h) rfl (fun k j _ => gRf_T rfl k q j))] at hP1
    · cases hf
  · cases hf
def i_cpyl (t : Nat) : gStp := fun L S M => match S with
  | .int n :: .int dp :: .ref a1 :: .int sp :: .ref a0 :: S => if Nat.ble S.length 12 = true ∧ gAr 4 a0 = true ∧ gAr 4 a1 = true ∧ 0 ≤ n.toInt ∧ 0 ≤ dp.toInt ∧ 0 ≤ sp.toInt ∧ sp.toInt + n.toInt ≤ ((gSh a0).2 : Int) ∧ dp.toInt + n.toInt ≤ ((gSh a1).2 : Int) then some (t, L, S, gCJ M a1 (va_cpy (M.2.1 a0) (M.2.1 a1) sp.toNatClampNeg dp.toNatClampNeg n.toNatClampNeg)) else none
  | _ => none
theorem sn_cpyl {index : Nat} (hd : decode cc pc = .ok (.invokestatic index, 3)) (h1 : Cond.methodLink own index arraycopyName ∈ gT) (h2 : Cond.native arraycopyName ∈ gT) (h3 : Cond.static arraycopyName ∈ gT) (h4 : Cond.initialized "java/lang/System" ∈ gT) : gSn own cc nL pc (i_cpyl (pc + 3)) := by
  intro p l e R s m args below meth c cells slots Q G C L S M pc' L' S' M' hf kk H locs ls hP hS hl
  unfold i_cpyl at hf
  split at hf
  · next n dp a1 sp a0 S =>
    split at hf
    · next ho =>
      cases hf
      obtain ⟨hlen, g0, g1, e1, e2, e3, e4, e5⟩ := ho
      obtain ⟨s0, n0⟩ := gAr_sh g0
      obtain ⟨s1, n1⟩ := gAr_sh g1
      obtain ⟨r1, r2, r3, r4⟩ := C.2.2.2.2.2.2.2.2
      have hts := C.2.2.2.2.1
      have nn : ∀ z : Int32, 0 ≤ z.toInt → ¬ z < 0 ∧ z.toInt = (z.toNatClampNeg : Int) := fun z hz => by
        refine ⟨fun h => ?_, ?_⟩
        · rw [Int32.lt_iff_toInt_lt, Int32.toInt_zero] at h
          omega
        · show z.toInt = ((z.toInt.toNat : Nat) : Int)
          omega
      have q1 := nn n e1
      have q2 := nn dp e2
      have q3 := nn sp e3
      refine va_copyl C.1 C.2.1 (C.2.2.1.trans hl.1.symm) C.2.2.2.1 (hts _ h1) (hts _ h2) (hts _ h3) (hts _ h4) C.2.2.2.2.2.1 hP (gWs_D C.2.2.2.2.2.2.1) hS a0 a1 3 3 ((gWs_at n0).trans (by rw [gCl_4 s0])) ((gWs_at n1).trans (by rw [gCl_4 s1])) rfl rfl rfl q3.1 q2.1 q1.1 (by omega) (by omega) (fun _ _ => rfl) r1 ?_ hd (fun H1 locs1 hP1 hD1 hS1 => ?_)
      · rw [gCat_sum]
        have := gCat_le _ (Nat.le_of_ble_eq_true hlen)
        have : nativeFrameWords "java/lang/System" "arraycopy" 5 = 7 := by decide +kernel
        omega
      · refine kk H1 locs1 ls ?_ hS1 hl
        rwa [gWs_set (G := G) (M := M) (M' := gCJ M a1 (va_cpy (M.2.1 a0) (M.2.1 a1) sp.toNatClampNeg dp.toNatClampNeg n.toNatClampNeg)) (by rw [gCl_4 s1, gCJ_0]) (fun q h => gCl_ne rfl (gCJ_1 h) (fun k j _ => gRf_T rfl k q j))] at hP1
    · cases hf
  · cases hf
def gSw (x : Int32) (L : gLoc) (S : List Value) (M : gMem) (d : Nat) : List (Int32 × Nat) → gRes
  | [] => some (d, L, S, M)
  | q :: r => if x = q.1 then some (q.2, L, S, M) else gSw x L S M d r
def i_sw (ts : List (Int32 × Nat)) (d : Nat) : gStp := fun L S M => match S with
  | .int x :: S => gSw x L S M d ts
  | _ => none
theorem gSw_cases {x : Int32} {L : gLoc} {S : List Value} {M : gMem} {d : Nat} : ∀ {ts : List (Int32 × Nat)} {r : Nat × gLoc × List Value × gMem}, gSw x L S M d ts = some r → ((∃ (i : Nat) (q : Int32 × Nat), ts[i]? = some q ∧ x = q.1 ∧ r = (q.2, L, S, M)) ∨ ((∀ q ∈ ts, x ≠ q.1) ∧ r = (d, L, S, M)))
  | [], r, h => Or.inr ⟨fun q hq => absurd hq List.not_mem_nil, by unfold gSw at h; cases h; rfl⟩
  | q :: ts, r, h => by
    unfold gSw at h
    split at h
    · next e =>
      cases h
      exact Or.inl ⟨0, q, rfl, e, rfl⟩
    · next e =>
      rcases gSw_cases h with ⟨i, q', h1, h2, h3⟩ | ⟨h1, h2⟩
      · exact Or.inl ⟨i + 1, q', h1, h2, h3⟩
      · exact Or.inr ⟨fun q' hq => by
          rcases List.mem_cons.mp hq with rfl | hq
          · exact e
          · exact h1 q' hq, h2⟩
def gTbl (pc : Nat) (lo hi : Int) (offs : Array Int) (ts : List (Int32 × Nat)) : Bool := decide ((ts.length : Int) = hi - lo + 1) && (List.range ts.length).all (fun i => match ts[i]?, offs[i]? with
  | some q, some o => decide (q.1.toInt = lo + (i : Int)) && decide ((pc : Int) + o = (q.2 : Int))
  | _, _ => false)
theorem sn_tsw {dflt lo hi : Int} {offs : Array Int} {len : Nat} {ts : List (Int32 × Nat)} {d : Nat} (hd : decode cc pc = .ok (.tableswitch dflt lo hi offs, len)) (h : gTbl pc lo hi offs ts = true) (hdf : (pc : Int) + dflt = (d : Int)) : gSn own cc nL pc (i_sw ts d) := by
  intro p l e R s m args below meth c cells slots Q G C L S M pc' L' S' M' hf kk H locs ls hP hS hl
  unfold i_sw at hf
  split at hf
  · next x S =>
    simp only [gTbl, Bool.and_eq_true, decide_eq_true_eq, List.all_eq_true, List.mem_range] at h
    obtain ⟨hl1, hl2⟩ := h
    have row : ∀ i, i < ts.length → ∃ q o, ts[i]? = some q ∧ offs[i]? = some o ∧ q.1.toInt = lo + (i : Int) ∧ (pc : Int) + o = (q.2 : Int) := fun i hi => by
      have h2 := hl2 i hi
      split at h2
      · next q o hq ho =>
        simp only [Bool.and_eq_true, decide_eq_true_eq] at h2
        exact ⟨q, o, hq, ho, h2.1, h2.2⟩
      · cases h2
    rcases gSw_cases hf with ⟨i, q, h1, h2, h3⟩ | ⟨h1, h3⟩
    · cases h3
      have hi : i < ts.length := (List.getElem?_eq_some_iff.mp h1).1
      obtain ⟨q', o, g1, g2, g3, g4⟩ := row i hi
      cases h1.symm.trans g1
      subst h2
      exact lv_tableIn C.1 C.2.1 hd (by omega) (by omega) (by rw [show (q.1.toInt - lo).toNat = i by omega]; exact g2) g4 (kk H locs ls hP hS hl)
    · cases h3
      refine lv_tableOut C.1 C.2.1 hd ?_ hdf (kk H locs ls hP hS hl)
      by_cases ha : x.toInt < lo
      · exact Or.inl ha
      · refine Or.inr (Int.not_le.mp fun hb => ?_)
        obtain ⟨q', o, g1, g2, g3, g4⟩ := row (x.toInt - lo).toNat (by omega)
        exact h1 q' (List.mem_of_getElem? g1) (Int32.toInt_inj.mp (by rw [g3]; omega))
  · cases hf
def gLkp (pc : Nat) : List (Int × Int) → List (Int32 × Nat) → Bool
  | [], [] => true
  | a :: r, q :: ts => decide (q.1.toInt = a.1) && (decide ((pc : Int) + a.2 = (q.2 : Int)) && gLkp pc r ts)
  | _, _ => false
theorem gLkp_off {dflt : Int} {x : Int32} {d : Nat} (hdf : (pc : Int) + dflt = (d : Int)) {L : gLoc} {S : List Value} {M : gMem} {pc' : Nat} {L' : gLoc} {S' : List Value} {M' : gMem} : ∀ (ps : List (Int × Int)) (ts : List (Int32 × Nat)), gLkp pc ps ts = true → gSw x L S M d ts = some (pc', L', S', M') → (pc : Int) + Op.lookupswitch.offset ps dflt x.toInt = (pc' : Int) ∧ L' = L ∧ S' = S ∧ M' = M
  | [], [], _, h => by
    unfold gSw at h
    cases h
    exact ⟨hdf, rfl, rfl, rfl⟩
  | a :: r, q :: ts, hk, h => by
    simp only [gLkp, Bool.and_eq_true, decide_eq_true_eq] at hk
    obtain ⟨k1, k2, k3⟩ := hk
    obtain ⟨a1, a2⟩ := a
    rw [Op.lookupswitch.offset_cons]
    unfold gSw at h
    split at h
    · next e =>
      cases h
      refine ⟨?_, rfl, rfl, rfl⟩
      have : a1 = x.toInt := by rw [e]; exact k1.symm
      simp [this]
      exact k2
    · next e =>
      have hne : ¬ a1 = x.toInt := fun g => e (Int32.toInt_inj.mp (by rw [k1]; exact g.symm))
      have hne' : ¬ x.toInt = a1 := fun g => hne g.symm
      have := gLkp_off hdf r ts k3 h
      simp [hne, hne']
      exact this
  | [], _ :: _, hk, _ => by cases hk
  | _ :: _, [], hk, _ => by cases hk
theorem sn_lsw {dflt : Int} {ps : Array (Int × Int)} {len : Nat} {ts : List (Int32 × Nat)} {d : Nat} (hd : decode cc pc = .ok (.lookupswitch dflt ps, len)) (hp : (ps.toList.zip (ps.toList.drop 1)).all (fun (a, next) => a.1 < next.1) = true) (h : gLkp pc ps.toList ts = true) (hdf : (pc : Int) + dflt = (d : Int)) : gSn own cc nL pc (i_sw ts d) := by
  intro p l e R s m args below meth c cells slots Q G C L S M pc' L' S' M' hf kk H locs ls hP hS hl
  unfold i_sw at hf
  split at hf
  · next x S =>
    obtain ⟨h1, rfl, rfl, rfl⟩ := gLkp_off hdf _ _ h hf
    exact lv_lookup C.1 C.2.1 hd hp rfl h1 (kk H locs ls hP hS hl)
  · cases hf
end GAR
