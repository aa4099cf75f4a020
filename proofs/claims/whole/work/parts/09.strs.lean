/-! Strings that are constants: text i is object 910 + i, its bytes row 930 + i. -/
def gSar (o : Nat) : Bool := Nat.ble 930 o && Nat.blt o 944
section GSS
variable {own : String} {cc : ByteArray} {nL pc : Nat}
theorem sn_ldcS {index : Nat} (i : Nat) (hi : i < 14) (hx : gTxi i = index) (hown : own = "WaxedPartners$Reader") (hd : decode cc pc = .ok (.ldc index, 2)) : gSn own cc nL pc (i_push (.ref (910 + i)) (pc + 2)) := by
  intro p l e R s m args below meth c cells slots Q G C L S M pc' L' S' M' hf kk H locs ls hP hS hl
  cases hf
  subst hown
  subst hx
  exact va_ldcS C.1 C.2.1 C.2.2.2.1 (C.2.2.2.2.2.2.2.1.2.2.2.2.2.2.2 i hi) hd (kk H locs ls hP hS hl)
def i_gval (t : Nat) : gStp := fun L S M => match S with
  | .ref o :: S => if gStr o = true then some (t, L, .ref (o + 20) :: S, M) else none
  | _ => none
def i_gcod (t : Nat) : gStp := fun L S M => match S with
  | .ref o :: S => if gStr o = true then some (t, L, .int 0 :: S, M) else none
  | _ => none
theorem gStr_at {o : Nat} (h : gStr o = true) : ∃ i, i < 14 ∧ o = 910 + i := by
  simp only [gStr, Bool.and_eq_true, Nat.ble_eq, Nat.blt_eq] at h
  exact ⟨o - 910, by omega, by omega⟩
theorem gSar_at {o : Nat} (h : gSar o = true) : ∃ i, i < 14 ∧ o = 930 + i := by
  simp only [gSar, Bool.and_eq_true, Nat.ble_eq, Nat.blt_eq] at h
  exact ⟨o - 930, by omega, by omega⟩
theorem sn_gval {index : Nat} (hd : decode cc pc = .ok (.getfield index, 3)) (hw : Cond.fieldLink own index "java/lang/String" "value" "[B" ∈ gT) : gSn own cc nL pc (i_gval (pc + 3)) := by
  intro p l e R s m args below meth c cells slots Q G C L S M pc' L' S' M' hf kk H locs ls hP hS hl
  unfold i_gval at hf
  split at hf
  · next o S =>
    split at hf
    · next ho =>
      cases hf
      obtain ⟨i, hi, rfl⟩ := gStr_at ho
      have hk := kk H locs ls hP hS hl
      rw [show 910 + i + 20 = 930 + i by omega] at hk
      exact vk_getf C.1 C.2.1 (C.2.2.2.2.2.2.2.1.2.2.2.2.2.2.1.1 i hi).2.2.1 hS C.2.2.2.1 (C.2.2.2.2.1 _ hw) (fun x h => h) hd hk
    · cases hf
  · cases hf
theorem sn_gcod {index : Nat} (hd : decode cc pc = .ok (.getfield index, 3)) (hw : Cond.fieldLink own index "java/lang/String" "coder" "B" ∈ gT) : gSn own cc nL pc (i_gcod (pc + 3)) := by
  intro p l e R s m args below meth c cells slots Q G C L S M pc' L' S' M' hf kk H locs ls hP hS hl
  unfold i_gcod at hf
  split at hf
  · next o S =>
    split at hf
    · next ho =>
      cases hf
      obtain ⟨i, hi, rfl⟩ := gStr_at ho
      exact vk_getf C.1 C.2.1 (C.2.2.2.2.2.2.2.1.2.2.2.2.2.2.1.1 i hi).2.1 hS C.2.2.2.1 (C.2.2.2.2.1 _ hw) (fun x h => h) hd (kk H locs ls hP hS hl)
    · cases hf
  · cases hf
def i_salen (t : Nat) : gStp := fun L S M => match S with
  | .ref o :: S => if gSar o = true then some (t, L, .int (nI (gTxl.getD (o - 930) 0)) :: S, M) else none
  | _ => none
theorem sn_salen (hd : decode cc pc = .ok (.arraylength, 1)) : gSn own cc nL pc (i_salen (pc + 1)) := by
  intro p l e R s m args below meth c cells slots Q G C L S M pc' L' S' M' hf kk H locs ls hP hS hl
  unfold i_salen at hf
  split at hf
  · next o S =>
    split at hf
    · next ho =>
      cases hf
      obtain ⟨i, hi, rfl⟩ := gSar_at ho
      have hk := kk H locs ls hP hS hl
      rw [show 930 + i - 930 = i by omega] at hk
      obtain ⟨cell, h1, h2, h3, h4, h5, h6, h7⟩ := (C.2.2.2.2.2.2.2.1.2.2.2.2.2.2.1.1 i hi).2.2.2
      exact W.alen C.1 C.2.1 (by rw [hS.2.1 _ (Array.getElem?_eq_some_iff.mp h1).1 h7]; exact h1) h2 h5 rfl rfl hd hk
    · cases hf
  · cases hf
def i_sbald (t : Nat) : gStp := fun L S M => match S with
  | .int j :: .ref o :: S => if gSar o = true ∧ 0 ≤ j.toInt ∧ j.toInt < (gTxl.getD (o - 930) 0 : Int) then some (t, L, .int ((gTxb.getD (o - 930) []).getD j.toNatClampNeg 0) :: S, M) else none
  | _ => none
theorem sn_sbald (hd : decode cc pc = .ok (.baload, 1)) : gSn own cc nL pc (i_sbald (pc + 1)) := by
  intro p l e R s m args below meth c cells slots Q G C L S M pc' L' S' M' hf kk H locs ls hP hS hl
  unfold i_sbald at hf
  split at hf
  · next j o S =>
    split at hf
    · next ho =>
      cases hf
      obtain ⟨ho, h2, h3⟩ := ho
      obtain ⟨i, hi, rfl⟩ := gSar_at ho
      have hk := kk H locs ls hP hS hl
      rw [show 930 + i - 930 = i by omega] at hk h3
      exact va_tb C.1 C.2.1 (C.2.2.2.2.2.2.2.1.2.2.2.2.2.2.1.1 i hi).2.2.2 hS (vp_in_iff.mpr ⟨h2, h3⟩) rfl hd hk
    · cases hf
  · cases hf
def i_cstr (t : Nat) : gStp := fun L S M => some (t, L, .int 1 :: S, M)
theorem sn_cstr {index : Nat} (hd : decode cc pc = .ok (.getstatic index, 3)) (hw : Cond.fieldLink own index "java/lang/String" "COMPACT_STRINGS" "Z" ∈ gT) : gSn own cc nL pc (i_cstr (pc + 3)) := by
  intro p l e R s m args below meth c cells slots Q G C L S M pc' L' S' M' hf kk H locs ls hP hS hl
  cases hf
  exact va_gets C.1 C.2.1 C.2.2.2.2.2.2.2.1.2.2.2.2.1 hS C.2.2.2.1 (C.2.2.2.2.1 _ hw) (fun x h => h) hd (kk H locs ls hP hS hl)
theorem sn_i2c (hd : decode cc pc = .ok (.i2c, 1)) : gSn own cc nL pc (i_i (fun x => (x.toUInt32 % 65536).toInt32) (pc + 1)) := by
  intro p l e R s m args below meth c cells slots Q G C L S M pc' L' S' M' hf k H locs ls hP hS hl
  unfold i_i at hf
  split at hf
  · cases hf
    exact lv_i2c C.1 C.2.1 hd rfl (k H locs ls hP hS hl)
  · cases hf
end GSS
theorem go_nret {G : gG} {Y : gY} {d : Nat} {Z : Option Value → gMem → Prop} {pc : Nat} {L : gLoc} {M : gMem} {x : Int32} {ty : FieldType} (hd : decode Y.2.1 pc = .ok (.ireturn, 1)) (hr : Y.2.2.2 = some ty) (hn : narrow ty (.int x) = .int x) (hz : Z (some (.int x)) M) : gGo G Y d Z pc L [.int x] M :=
  fun p l e s m args below meth c C hret hlk H locs ls hP hS hl => W.zret C.1 C.2.1 (hret.trans hr) hn (fun t ht hW => ⟨⟨some (.int x), M, rfl, hz, by rw [ht]; exact hP⟩, hS.F ht⟩) hS.2.2 hd hlk
/-- the formatter of messages: null, or object 950 -/
theorem go_sio {G : gG} {Y : gY} {d : Nat} {Z : Option Value → gMem → Prop} {pc index : Nat} {L : gLoc} {S : List Value} {M : gMem} (hd : decode Y.2.1 pc = .ok (.getstatic index, 3)) (hw : Cond.fieldLink Y.1.cls index "jdk/internal/util/Preconditions" "SIOOBE_FORMATTER" "Ljava/util/function/BiFunction;" ∈ gT) (hN : gGo G Y d Z (pc + 3) L (.null :: S) M) (hR : gGo G Y d Z (pc + 3) L (.ref 950 :: S) M) : gGo G Y d Z pc L S M := by
  intro p l e s m args below meth c C hret hlk H locs ls hP hS hl
  rcases C.2.2.2.2.2.2.2.1.2.2.2.2.2.1 with h | h
  · exact va_gets C.1 C.2.1 h hS C.2.2.2.1 (C.2.2.2.2.1 _ hw) (fun x h => h) hd (hN p l e s m args below meth c C hret hlk H locs ls hP hS hl)
  · exact va_gets C.1 C.2.1 h hS C.2.2.2.1 (C.2.2.2.2.1 _ hw) (fun x h => h) hd (hR p l e s m args below meth c C hret hlk H locs ls hP hS hl)
