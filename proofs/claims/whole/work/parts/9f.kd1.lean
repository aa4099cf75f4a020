/-! Constructors: the reference's. -/
def wModel (cA : Nat → ClassId) (f : Nat → Nat) : va_W := (f 0, .inr (9, [.int 0, .ref (f 1), .ref (f 2), .ref (f 3), .ref (f 4), .ref (f 5), .int 0, .int 0, .int 0, .int 0, .int 0, .long 0, .int 0, .int 0, .int 0, .int (-1), .ref (f 6), .ref (f 7), .ref (f 8), .ref (f 9), .ref (f 10), .ref (f 11), .ref (f 12), .ref (f 13), .int 0, .int 0, .int 0, .int 0, .int 0, .int 0, .int 0, .int 0, .int 0, .ref (f 14), .ref (f 15), .ref (f 16), .ref (f 17), .ref (f 18), .ref (f 19), .long 0, .long 0, .int 0, .int 0, .int 0, .int 0, .int 0, .int 0, .int 0, .ref (f 20)])) :: (([(f 1, .inl (cA 0, 4, .inl (upd (upd (upd (upd (fun _ => 0) 0 (-1)) 1 (-1)) 2 (-1)) 3 (-1))))] : va_W) ++ ([(f 2, .inl (cA 0, (4, .inl (fun _ => 0))))] : va_W) ++ ([(f 3, .inl (cA 3, (240, .inr (.inl (fun _ => 0)))))] : va_W) ++ ([(f 4, .inl (cA 3, (60, .inr (.inl (fun _ => 0)))))] : va_W) ++ ([(f 5, .inl (cA 1, (800, .inl (fun _ => 0))))] : va_W) ++ ([(f 6, .inl (cA 0, (5, .inl (fun _ => 0))))] : va_W) ++ ([(f 7, .inl (cA 0, (45, .inl (fun _ => 0))))] : va_W) ++ ([(f 8, .inl (cA 0, (90, .inl (fun _ => 0))))] : va_W) ++ ([(f 9, .inl (cA 0, (105, .inl (fun _ => 0))))] : va_W) ++ ([(f 10, .inl (cA 0, (25, .inl (fun _ => 0))))] : va_W) ++ ([(f 11, .inl (cA 0, (50, .inl (fun _ => 0))))] : va_W) ++ ([(f 12, .inl (cA 0, (600, .inl (fun _ => 0))))] : va_W) ++ ([(f 13, .inl (cA 2, (3, .inl (fun _ => 0))))] : va_W) ++ ([(f 14, .inl (cA 0, (432, .inl (fun _ => 0))))] : va_W) ++ ([(f 15, .inl (cA 0, (6, .inl (fun _ => 0))))] : va_W) ++ ([(f 16, .inl (cA 0, (6, .inl (fun _ => 0))))] : va_W) ++ ([(f 17, .inl (cA 0, (72, .inl (fun _ => 0))))] : va_W) ++ ([(f 18, .inl (cA 0, (64, .inl (fun _ => 0))))] : va_W) ++ ([(f 19, .inl (cA 0, (64, .inl (fun _ => 0))))] : va_W) ++ ([(f 20, .inl (cA 0, (30, .inl (fun _ => 0))))] : va_W))
theorem dfX9 : ∀ j, j < gNf 9 → defaultValue (gTy 9 j) = vp_V [.int 0, .null, .null, .null, .null, .null, .int 0, .int 0, .int 0, .int 0, .int 0, .long 0, .int 0, .int 0, .int 0, .int 0, .null, .null, .null, .null, .null, .null, .null, .null, .int 0, .int 0, .int 0, .int 0, .int 0, .int 0, .int 0, .int 0, .int 0, .null, .null, .null, .null, .null, .null, .long 0, .long 0, .int 0, .int 0, .int 0, .int 0, .int 0, .int 0, .int 0, .null] j := by decide +kernel
section KC9
variable {p : Program} {l : Launch} {e : Env} {s : State} {m : MethodId} {args : Array Value} {below : List Frame} {meth : Method} {c : Code} {D : va_G} {cA : Nat → ClassId} {h0 : Nat} {A : Nat → Prop} {Q : State → Prop} {ls : Array Slot}
variable {fs : List Value} {R : va_W} {cells slots : Nat}
theorem cX9_c0 (C : kCx "WaxedPartnersModel" cX9_init 2 p s m args c D cA) (hA : ∀ q, s.heap.size ≤ q → A q) (hin : meth.name = "<init>") (hl : lv_has ls 2 [(0, .ref h0)]) (hfs : fs.length = 49)  (k : ∀  (ls : Array Slot), lv_has ls 2 [(0, .ref h0)] → kW p l e (kRm 2 20 2705) s m args below meth c D A Q cells slots 4 ls [] ((h0, .inr (9, fs)) :: (R))) : kW p l e (kRm 2 20 2705) s m args below meth c D A Q cells slots 0 ls [] ((h0, .inr (9, fs)) :: (R)) := by
  refine k_al C (lv_at hl 0 rfl) rfl (show decode cX9_init 0 = .ok (.aload_n 0, 1) by decide +kernel) ?_
  refine k_obj C wd_5_216 kObjI kObjC hl.1 (show decode cX9_init 1 = .ok (.invokespecial 1, 3) by decide +kernel) ⟨Nat.le_of_ble_eq_true rfl, Nat.le_of_ble_eq_true rfl⟩ ?_
  exact k  ls hl
theorem cX9_c1 (C : kCx "WaxedPartnersModel" cX9_init 2 p s m args c D cA) (hA : ∀ q, s.heap.size ≤ q → A q) (hin : meth.name = "<init>") (hl : lv_has ls 2 [(0, .ref h0)]) (hfs : fs.length = 49) (hc : cells + 1 ≤ (kRm 2 20 2705).cells) (hs : slots + 4 ≤ (kRm 2 20 2705).slots) (k : ∀ (q1 : Nat) (ls : Array Slot), lv_has ls 2 [(0, .ref h0)] → kW p l e (kRm 2 20 2705) s m args below meth c D A Q (cells + 1) (slots + 4) 11 ls [] ((h0, .inr (9, fs.set 1 (.ref q1))) :: (R ++ [(q1, .inl (cA 0, (4, .inl (fun _ => 0))))]))) : kW p l e (kRm 2 20 2705) s m args below meth c D A Q cells slots 4 ls [] ((h0, .inr (9, fs)) :: (R)) := by
  refine k_al C (lv_at hl 0 rfl) rfl (show decode cX9_init 4 = .ok (.aload_n 0, 1) by decide +kernel) ?_
  refine k_ic (v := 4) C (show decode cX9_init 5 = .ok (.iconst 4, 1) by decide +kernel) (by decide) ?_
  refine k_na (atype := .int) (ty := .int) (i := 0) (N' := 4) (a0 := (4, .inl (fun _ => 0))) C hA wd_1_84 rfl rfl (fun _ h => h) (fun _ => rfl) (by decide) (by decide) (by decide) hc hs (show decode cX9_init 6 = .ok (.newarray .int, 2) by decide +kernel) (fun q1 => ?_)
  refine k_eq (X2 := (h0, .inr (9, fs)) :: (R ++ [(q1, .inl (cA 0, (4, .inl (fun _ => 0))))])) rfl ?_
  refine k_pf (j := 1) (ty := (.array .int)) C ck_9 (by decide) wd_5_218 rfl hin rfl (by decide +kernel) rfl rfl (by rw [hfs]; decide) (show decode cX9_init 8 = .ok (.putfield 7, 3) by decide +kernel) ?_
  exact k q1 ls hl
theorem cX9_c2 (C : kCx "WaxedPartnersModel" cX9_init 2 p s m args c D cA) (hA : ∀ q, s.heap.size ≤ q → A q) (hin : meth.name = "<init>") (hl : lv_has ls 2 [(0, .ref h0)]) (hfs : fs.length = 49) (hc : cells + 1 ≤ (kRm 2 20 2705).cells) (hs : slots + 4 ≤ (kRm 2 20 2705).slots) (k : ∀ (q2 : Nat) (ls : Array Slot), lv_has ls 2 [(0, .ref h0)] → kW p l e (kRm 2 20 2705) s m args below meth c D A Q (cells + 1) (slots + 4) 18 ls [] ((h0, .inr (9, fs.set 2 (.ref q2))) :: (R ++ [(q2, .inl (cA 0, (4, .inl (fun _ => 0))))]))) : kW p l e (kRm 2 20 2705) s m args below meth c D A Q cells slots 11 ls [] ((h0, .inr (9, fs)) :: (R)) := by
  refine k_al C (lv_at hl 0 rfl) rfl (show decode cX9_init 11 = .ok (.aload_n 0, 1) by decide +kernel) ?_
  refine k_ic (v := 4) C (show decode cX9_init 12 = .ok (.iconst 4, 1) by decide +kernel) (by decide) ?_
  refine k_na (atype := .int) (ty := .int) (i := 0) (N' := 4) (a0 := (4, .inl (fun _ => 0))) C hA wd_1_84 rfl rfl (fun _ h => h) (fun _ => rfl) (by decide) (by decide) (by decide) hc hs (show decode cX9_init 13 = .ok (.newarray .int, 2) by decide +kernel) (fun q2 => ?_)
  refine k_eq (X2 := (h0, .inr (9, fs)) :: (R ++ [(q2, .inl (cA 0, (4, .inl (fun _ => 0))))])) rfl ?_
  refine k_pf (j := 2) (ty := (.array .int)) C ck_9 (by decide) wd_5_219 rfl hin rfl (by decide +kernel) rfl rfl (by rw [hfs]; decide) (show decode cX9_init 15 = .ok (.putfield 13, 3) by decide +kernel) ?_
  exact k q2 ls hl
theorem cX9_c3 (C : kCx "WaxedPartnersModel" cX9_init 2 p s m args c D cA) (hA : ∀ q, s.heap.size ≤ q → A q) (hin : meth.name = "<init>") (hl : lv_has ls 2 [(0, .ref h0)]) (hfs : fs.length = 49) (hc : cells + 1 ≤ (kRm 2 20 2705).cells) (hs : slots + 240 ≤ (kRm 2 20 2705).slots) (k : ∀ (q3 : Nat) (ls : Array Slot), lv_has ls 2 [(0, .ref h0)] → kW p l e (kRm 2 20 2705) s m args below meth c D A Q (cells + 1) (slots + 240) 27 ls [] ((h0, .inr (9, fs.set 3 (.ref q3))) :: (R ++ [(q3, .inl (cA 3, (240, .inr (.inl (fun _ => 0)))))]))) : kW p l e (kRm 2 20 2705) s m args below meth c D A Q cells slots 18 ls [] ((h0, .inr (9, fs)) :: (R)) := by
  refine k_al C (lv_at hl 0 rfl) rfl (show decode cX9_init 18 = .ok (.aload_n 0, 1) by decide +kernel) ?_
  refine k_sp (v := 240) C (show decode cX9_init 19 = .ok (.sipush 240, 3) by decide +kernel) (by decide) ?_
  refine k_na (atype := .long) (ty := .long) (i := 3) (N' := 240) (a0 := (240, .inr (.inl (fun _ => 0)))) C hA wd_2_10 rfl rfl (fun _ h => h) (fun _ => rfl) (by decide) (by decide) (by decide) hc hs (show decode cX9_init 22 = .ok (.newarray .long, 2) by decide +kernel) (fun q3 => ?_)
  refine k_eq (X2 := (h0, .inr (9, fs)) :: (R ++ [(q3, .inl (cA 3, (240, .inr (.inl (fun _ => 0)))))])) rfl ?_
  refine k_pf (j := 3) (ty := (.array .long)) C ck_9 (by decide) wd_5_220 rfl hin rfl (by decide +kernel) rfl rfl (by rw [hfs]; decide) (show decode cX9_init 24 = .ok (.putfield 16, 3) by decide +kernel) ?_
  exact k q3 ls hl
theorem cX9_c4 (C : kCx "WaxedPartnersModel" cX9_init 2 p s m args c D cA) (hA : ∀ q, s.heap.size ≤ q → A q) (hin : meth.name = "<init>") (hl : lv_has ls 2 [(0, .ref h0)]) (hfs : fs.length = 49) (hc : cells + 1 ≤ (kRm 2 20 2705).cells) (hs : slots + 60 ≤ (kRm 2 20 2705).slots) (k : ∀ (q4 : Nat) (ls : Array Slot), lv_has ls 2 [(0, .ref h0)] → kW p l e (kRm 2 20 2705) s m args below meth c D A Q (cells + 1) (slots + 60) 35 ls [] ((h0, .inr (9, fs.set 4 (.ref q4))) :: (R ++ [(q4, .inl (cA 3, (60, .inr (.inl (fun _ => 0)))))]))) : kW p l e (kRm 2 20 2705) s m args below meth c D A Q cells slots 27 ls [] ((h0, .inr (9, fs)) :: (R)) := by
  refine k_al C (lv_at hl 0 rfl) rfl (show decode cX9_init 27 = .ok (.aload_n 0, 1) by decide +kernel) ?_
  refine k_bp (v := 60) C (show decode cX9_init 28 = .ok (.bipush 60, 2) by decide +kernel) (by decide) ?_
  refine k_na (atype := .long) (ty := .long) (i := 3) (N' := 60) (a0 := (60, .inr (.inl (fun _ => 0)))) C hA wd_2_10 rfl rfl (fun _ h => h) (fun _ => rfl) (by decide) (by decide) (by decide) hc hs (show decode cX9_init 30 = .ok (.newarray .long, 2) by decide +kernel) (fun q4 => ?_)
  refine k_eq (X2 := (h0, .inr (9, fs)) :: (R ++ [(q4, .inl (cA 3, (60, .inr (.inl (fun _ => 0)))))])) rfl ?_
  refine k_pf (j := 4) (ty := (.array .long)) C ck_9 (by decide) wd_5_221 rfl hin rfl (by decide +kernel) rfl rfl (by rw [hfs]; decide) (show decode cX9_init 32 = .ok (.putfield 20, 3) by decide +kernel) ?_
  exact k q4 ls hl
theorem cX9_c5 (C : kCx "WaxedPartnersModel" cX9_init 2 p s m args c D cA) (hA : ∀ q, s.heap.size ≤ q → A q) (hin : meth.name = "<init>") (hl : lv_has ls 2 [(0, .ref h0)]) (hfs : fs.length = 49) (hc : cells + 1 ≤ (kRm 2 20 2705).cells) (hs : slots + 800 ≤ (kRm 2 20 2705).slots) (k : ∀ (q5 : Nat) (ls : Array Slot), lv_has ls 2 [(0, .ref h0)] → kW p l e (kRm 2 20 2705) s m args below meth c D A Q (cells + 1) (slots + 800) 44 ls [] ((h0, .inr (9, fs.set 5 (.ref q5))) :: (R ++ [(q5, .inl (cA 1, (800, .inl (fun _ => 0))))]))) : kW p l e (kRm 2 20 2705) s m args below meth c D A Q cells slots 35 ls [] ((h0, .inr (9, fs)) :: (R)) := by
  refine k_al C (lv_at hl 0 rfl) rfl (show decode cX9_init 35 = .ok (.aload_n 0, 1) by decide +kernel) ?_
  refine k_sp (v := 800) C (show decode cX9_init 36 = .ok (.sipush 800, 3) by decide +kernel) (by decide) ?_
  refine k_na (atype := .byte) (ty := .byte) (i := 1) (N' := 800) (a0 := (800, .inl (fun _ => 0))) C hA wd_1_48 rfl rfl (fun _ h => h) (fun _ => rfl) (by decide) (by decide) (by decide) hc hs (show decode cX9_init 39 = .ok (.newarray .byte, 2) by decide +kernel) (fun q5 => ?_)
  refine k_eq (X2 := (h0, .inr (9, fs)) :: (R ++ [(q5, .inl (cA 1, (800, .inl (fun _ => 0))))])) rfl ?_
  refine k_pf (j := 5) (ty := (.array .byte)) C ck_9 (by decide) wd_5_222 rfl hin rfl (by decide +kernel) rfl rfl (by rw [hfs]; decide) (show decode cX9_init 41 = .ok (.putfield 23, 3) by decide +kernel) ?_
  exact k q5 ls hl
theorem cX9_c6 (C : kCx "WaxedPartnersModel" cX9_init 2 p s m args c D cA) (hA : ∀ q, s.heap.size ≤ q → A q) (hin : meth.name = "<init>") (hl : lv_has ls 2 [(0, .ref h0)]) (hfs : fs.length = 49)  (k : ∀  (ls : Array Slot), lv_has ls 2 [(0, .ref h0)] → kW p l e (kRm 2 20 2705) s m args below meth c D A Q cells slots 49 ls [] ((h0, .inr (9, fs.set 15 (.int (-1)))) :: (R))) : kW p l e (kRm 2 20 2705) s m args below meth c D A Q cells slots 44 ls [] ((h0, .inr (9, fs)) :: (R)) := by
  refine k_al C (lv_at hl 0 rfl) rfl (show decode cX9_init 44 = .ok (.aload_n 0, 1) by decide +kernel) ?_
  refine k_ic (v := (-1)) C (show decode cX9_init 45 = .ok (.iconst (-1), 1) by decide +kernel) (by decide) ?_
  refine k_pp (j := 15) (ty := .int) C ck_9 (by decide) wd_5_232 rfl (by decide +kernel) rfl rfl (by rw [hfs]; decide) (show decode cX9_init 46 = .ok (.putfield 27, 3) by decide +kernel) ?_
  exact k  ls hl
theorem cX9_c7 (C : kCx "WaxedPartnersModel" cX9_init 2 p s m args c D cA) (hA : ∀ q, s.heap.size ≤ q → A q) (hin : meth.name = "<init>") (hl : lv_has ls 2 [(0, .ref h0)]) (hfs : fs.length = 49) (hc : cells + 1 ≤ (kRm 2 20 2705).cells) (hs : slots + 5 ≤ (kRm 2 20 2705).slots) (k : ∀ (q6 : Nat) (ls : Array Slot), lv_has ls 2 [(0, .ref h0)] → kW p l e (kRm 2 20 2705) s m args below meth c D A Q (cells + 1) (slots + 5) 56 ls [] ((h0, .inr (9, fs.set 16 (.ref q6))) :: (R ++ [(q6, .inl (cA 0, (5, .inl (fun _ => 0))))]))) : kW p l e (kRm 2 20 2705) s m args below meth c D A Q cells slots 49 ls [] ((h0, .inr (9, fs)) :: (R)) := by
  refine k_al C (lv_at hl 0 rfl) rfl (show decode cX9_init 49 = .ok (.aload_n 0, 1) by decide +kernel) ?_
  refine k_ic (v := 5) C (show decode cX9_init 50 = .ok (.iconst 5, 1) by decide +kernel) (by decide) ?_
  refine k_na (atype := .int) (ty := .int) (i := 0) (N' := 5) (a0 := (5, .inl (fun _ => 0))) C hA wd_1_84 rfl rfl (fun _ h => h) (fun _ => rfl) (by decide) (by decide) (by decide) hc hs (show decode cX9_init 51 = .ok (.newarray .int, 2) by decide +kernel) (fun q6 => ?_)
  refine k_eq (X2 := (h0, .inr (9, fs)) :: (R ++ [(q6, .inl (cA 0, (5, .inl (fun _ => 0))))])) rfl ?_
  refine k_pf (j := 16) (ty := (.array .int)) C ck_9 (by decide) wd_5_233 rfl hin rfl (by decide +kernel) rfl rfl (by rw [hfs]; decide) (show decode cX9_init 53 = .ok (.putfield 31, 3) by decide +kernel) ?_
  exact k q6 ls hl
theorem cX9_c8 (C : kCx "WaxedPartnersModel" cX9_init 2 p s m args c D cA) (hA : ∀ q, s.heap.size ≤ q → A q) (hin : meth.name = "<init>") (hl : lv_has ls 2 [(0, .ref h0)]) (hfs : fs.length = 49) (hc : cells + 1 ≤ (kRm 2 20 2705).cells) (hs : slots + 45 ≤ (kRm 2 20 2705).slots) (k : ∀ (q7 : Nat) (ls : Array Slot), lv_has ls 2 [(0, .ref h0)] → kW p l e (kRm 2 20 2705) s m args below meth c D A Q (cells + 1) (slots + 45) 64 ls [] ((h0, .inr (9, fs.set 17 (.ref q7))) :: (R ++ [(q7, .inl (cA 0, (45, .inl (fun _ => 0))))]))) : kW p l e (kRm 2 20 2705) s m args below meth c D A Q cells slots 56 ls [] ((h0, .inr (9, fs)) :: (R)) := by
  refine k_al C (lv_at hl 0 rfl) rfl (show decode cX9_init 56 = .ok (.aload_n 0, 1) by decide +kernel) ?_
  refine k_bp (v := 45) C (show decode cX9_init 57 = .ok (.bipush 45, 2) by decide +kernel) (by decide) ?_
  refine k_na (atype := .int) (ty := .int) (i := 0) (N' := 45) (a0 := (45, .inl (fun _ => 0))) C hA wd_1_84 rfl rfl (fun _ h => h) (fun _ => rfl) (by decide) (by decide) (by decide) hc hs (show decode cX9_init 59 = .ok (.newarray .int, 2) by decide +kernel) (fun q7 => ?_)
  refine k_eq (X2 := (h0, .inr (9, fs)) :: (R ++ [(q7, .inl (cA 0, (45, .inl (fun _ => 0))))])) rfl ?_
  refine k_pf (j := 17) (ty := (.array .int)) C ck_9 (by decide) wd_5_234 rfl hin rfl (by decide +kernel) rfl rfl (by rw [hfs]; decide) (show decode cX9_init 61 = .ok (.putfield 34, 3) by decide +kernel) ?_
  exact k q7 ls hl
theorem cX9_c9 (C : kCx "WaxedPartnersModel" cX9_init 2 p s m args c D cA) (hA : ∀ q, s.heap.size ≤ q → A q) (hin : meth.name = "<init>") (hl : lv_has ls 2 [(0, .ref h0)]) (hfs : fs.length = 49) (hc : cells + 1 ≤ (kRm 2 20 2705).cells) (hs : slots + 90 ≤ (kRm 2 20 2705).slots) (k : ∀ (q8 : Nat) (ls : Array Slot), lv_has ls 2 [(0, .ref h0)] → kW p l e (kRm 2 20 2705) s m args below meth c D A Q (cells + 1) (slots + 90) 72 ls [] ((h0, .inr (9, fs.set 18 (.ref q8))) :: (R ++ [(q8, .inl (cA 0, (90, .inl (fun _ => 0))))]))) : kW p l e (kRm 2 20 2705) s m args below meth c D A Q cells slots 64 ls [] ((h0, .inr (9, fs)) :: (R)) := by
  refine k_al C (lv_at hl 0 rfl) rfl (show decode cX9_init 64 = .ok (.aload_n 0, 1) by decide +kernel) ?_
  refine k_bp (v := 90) C (show decode cX9_init 65 = .ok (.bipush 90, 2) by decide +kernel) (by decide) ?_
  refine k_na (atype := .int) (ty := .int) (i := 0) (N' := 90) (a0 := (90, .inl (fun _ => 0))) C hA wd_1_84 rfl rfl (fun _ h => h) (fun _ => rfl) (by decide) (by decide) (by decide) hc hs (show decode cX9_init 67 = .ok (.newarray .int, 2) by decide +kernel) (fun q8 => ?_)
  refine k_eq (X2 := (h0, .inr (9, fs)) :: (R ++ [(q8, .inl (cA 0, (90, .inl (fun _ => 0))))])) rfl ?_
  refine k_pf (j := 18) (ty := (.array .int)) C ck_9 (by decide) wd_5_235 rfl hin rfl (by decide +kernel) rfl rfl (by rw [hfs]; decide) (show decode cX9_init 69 = .ok (.putfield 37, 3) by decide +kernel) ?_
  exact k q8 ls hl
theorem cX9_c10 (C : kCx "WaxedPartnersModel" cX9_init 2 p s m args c D cA) (hA : ∀ q, s.heap.size ≤ q → A q) (hin : meth.name = "<init>") (hl : lv_has ls 2 [(0, .ref h0)]) (hfs : fs.length = 49) (hc : cells + 1 ≤ (kRm 2 20 2705).cells) (hs : slots + 105 ≤ (kRm 2 20 2705).slots) (k : ∀ (q9 : Nat) (ls : Array Slot), lv_has ls 2 [(0, .ref h0)] → kW p l e (kRm 2 20 2705) s m args below meth c D A Q (cells + 1) (slots + 105) 80 ls [] ((h0, .inr (9, fs.set 19 (.ref q9))) :: (R ++ [(q9, .inl (cA 0, (105, .inl (fun _ => 0))))]))) : kW p l e (kRm 2 20 2705) s m args below meth c D A Q cells slots 72 ls [] ((h0, .inr (9, fs)) :: (R)) := by
  refine k_al C (lv_at hl 0 rfl) rfl (show decode cX9_init 72 = .ok (.aload_n 0, 1) by decide +kernel) ?_
  refine k_bp (v := 105) C (show decode cX9_init 73 = .ok (.bipush 105, 2) by decide +kernel) (by decide) ?_
  refine k_na (atype := .int) (ty := .int) (i := 0) (N' := 105) (a0 := (105, .inl (fun _ => 0))) C hA wd_1_84 rfl rfl (fun _ h => h) (fun _ => rfl) (by decide) (by decide) (by decide) hc hs (show decode cX9_init 75 = .ok (.newarray .int, 2) by decide +kernel) (fun q9 => ?_)
  refine k_eq (X2 := (h0, .inr (9, fs)) :: (R ++ [(q9, .inl (cA 0, (105, .inl (fun _ => 0))))])) rfl ?_
  refine k_pf (j := 19) (ty := (.array .int)) C ck_9 (by decide) wd_5_236 rfl hin rfl (by decide +kernel) rfl rfl (by rw [hfs]; decide) (show decode cX9_init 77 = .ok (.putfield 40, 3) by decide +kernel) ?_
  exact k q9 ls hl
theorem cX9_c11 (C : kCx "WaxedPartnersModel" cX9_init 2 p s m args c D cA) (hA : ∀ q, s.heap.size ≤ q → A q) (hin : meth.name = "<init>") (hl : lv_has ls 2 [(0, .ref h0)]) (hfs : fs.length = 49) (hc : cells + 1 ≤ (kRm 2 20 2705).cells) (hs : slots + 25 ≤ (kRm 2 20 2705).slots) (k : ∀ (q10 : Nat) (ls : Array Slot), lv_has ls 2 [(0, .ref h0)] → kW p l e (kRm 2 20 2705) s m args below meth c D A Q (cells + 1) (slots + 25) 88 ls [] ((h0, .inr (9, fs.set 20 (.ref q10))) :: (R ++ [(q10, .inl (cA 0, (25, .inl (fun _ => 0))))]))) : kW p l e (kRm 2 20 2705) s m args below meth c D A Q cells slots 80 ls [] ((h0, .inr (9, fs)) :: (R)) := by
  refine k_al C (lv_at hl 0 rfl) rfl (show decode cX9_init 80 = .ok (.aload_n 0, 1) by decide +kernel) ?_
  refine k_bp (v := 25) C (show decode cX9_init 81 = .ok (.bipush 25, 2) by decide +kernel) (by decide) ?_
  refine k_na (atype := .int) (ty := .int) (i := 0) (N' := 25) (a0 := (25, .inl (fun _ => 0))) C hA wd_1_84 rfl rfl (fun _ h => h) (fun _ => rfl) (by decide) (by decide) (by decide) hc hs (show decode cX9_init 83 = .ok (.newarray .int, 2) by decide +kernel) (fun q10 => ?_)
  refine k_eq (X2 := (h0, .inr (9, fs)) :: (R ++ [(q10, .inl (cA 0, (25, .inl (fun _ => 0))))])) rfl ?_
  refine k_pf (j := 20) (ty := (.array .int)) C ck_9 (by decide) wd_5_237 rfl hin rfl (by decide +kernel) rfl rfl (by rw [hfs]; decide) (show decode cX9_init 85 = .ok (.putfield 43, 3) by decide +kernel) ?_
  exact k q10 ls hl
theorem cX9_c12 (C : kCx "WaxedPartnersModel" cX9_init 2 p s m args c D cA) (hA : ∀ q, s.heap.size ≤ q → A q) (hin : meth.name = "<init>") (hl : lv_has ls 2 [(0, .ref h0)]) (hfs : fs.length = 49) (hc : cells + 1 ≤ (kRm 2 20 2705).cells) (hs : slots + 50 ≤ (kRm 2 20 2705).slots) (k : ∀ (q11 : Nat) (ls : Array Slot), lv_has ls 2 [(0, .ref h0)] → kW p l e (kRm 2 20 2705) s m args below meth c D A Q (cells + 1) (slots + 50) 96 ls [] ((h0, .inr (9, fs.set 21 (.ref q11))) :: (R ++ [(q11, .inl (cA 0, (50, .inl (fun _ => 0))))]))) : kW p l e (kRm 2 20 2705) s m args below meth c D A Q cells slots 88 ls [] ((h0, .inr (9, fs)) :: (R)) := by
  refine k_al C (lv_at hl 0 rfl) rfl (show decode cX9_init 88 = .ok (.aload_n 0, 1) by decide +kernel) ?_
  refine k_bp (v := 50) C (show decode cX9_init 89 = .ok (.bipush 50, 2) by decide +kernel) (by decide) ?_
  refine k_na (atype := .int) (ty := .int) (i := 0) (N' := 50) (a0 := (50, .inl (fun _ => 0))) C hA wd_1_84 rfl rfl (fun _ h => h) (fun _ => rfl) (by decide) (by decide) (by decide) hc hs (show decode cX9_init 91 = .ok (.newarray .int, 2) by decide +kernel) (fun q11 => ?_)
  refine k_eq (X2 := (h0, .inr (9, fs)) :: (R ++ [(q11, .inl (cA 0, (50, .inl (fun _ => 0))))])) rfl ?_
  refine k_pf (j := 21) (ty := (.array .int)) C ck_9 (by decide) wd_5_238 rfl hin rfl (by decide +kernel) rfl rfl (by rw [hfs]; decide) (show decode cX9_init 93 = .ok (.putfield 46, 3) by decide +kernel) ?_
  exact k q11 ls hl
theorem cX9_c13 (C : kCx "WaxedPartnersModel" cX9_init 2 p s m args c D cA) (hA : ∀ q, s.heap.size ≤ q → A q) (hin : meth.name = "<init>") (hl : lv_has ls 2 [(0, .ref h0)]) (hfs : fs.length = 49) (hc : cells + 1 ≤ (kRm 2 20 2705).cells) (hs : slots + 600 ≤ (kRm 2 20 2705).slots) (k : ∀ (q12 : Nat) (ls : Array Slot), lv_has ls 2 [(0, .ref h0)] → kW p l e (kRm 2 20 2705) s m args below meth c D A Q (cells + 1) (slots + 600) 105 ls [] ((h0, .inr (9, fs.set 22 (.ref q12))) :: (R ++ [(q12, .inl (cA 0, (600, .inl (fun _ => 0))))]))) : kW p l e (kRm 2 20 2705) s m args below meth c D A Q cells slots 96 ls [] ((h0, .inr (9, fs)) :: (R)) := by
  refine k_al C (lv_at hl 0 rfl) rfl (show decode cX9_init 96 = .ok (.aload_n 0, 1) by decide +kernel) ?_
  refine k_sp (v := 600) C (show decode cX9_init 97 = .ok (.sipush 600, 3) by decide +kernel) (by decide) ?_
  refine k_na (atype := .int) (ty := .int) (i := 0) (N' := 600) (a0 := (600, .inl (fun _ => 0))) C hA wd_1_84 rfl rfl (fun _ h => h) (fun _ => rfl) (by decide) (by decide) (by decide) hc hs (show decode cX9_init 100 = .ok (.newarray .int, 2) by decide +kernel) (fun q12 => ?_)
  refine k_eq (X2 := (h0, .inr (9, fs)) :: (R ++ [(q12, .inl (cA 0, (600, .inl (fun _ => 0))))])) rfl ?_
  refine k_pf (j := 22) (ty := (.array .int)) C ck_9 (by decide) wd_5_239 rfl hin rfl (by decide +kernel) rfl rfl (by rw [hfs]; decide) (show decode cX9_init 102 = .ok (.putfield 49, 3) by decide +kernel) ?_
  exact k q12 ls hl
theorem cX9_c14 (C : kCx "WaxedPartnersModel" cX9_init 2 p s m args c D cA) (hA : ∀ q, s.heap.size ≤ q → A q) (hin : meth.name = "<init>") (hl : lv_has ls 2 [(0, .ref h0)]) (hfs : fs.length = 49) (hc : cells + 1 ≤ (kRm 2 20 2705).cells) (hs : slots + 3 ≤ (kRm 2 20 2705).slots) (k : ∀ (q13 : Nat) (ls : Array Slot), lv_has ls 2 [(0, .ref h0)] → kW p l e (kRm 2 20 2705) s m args below meth c D A Q (cells + 1) (slots + 3) 112 ls [] ((h0, .inr (9, fs.set 23 (.ref q13))) :: (R ++ [(q13, .inl (cA 2, (3, .inl (fun _ => 0))))]))) : kW p l e (kRm 2 20 2705) s m args below meth c D A Q cells slots 105 ls [] ((h0, .inr (9, fs)) :: (R)) := by
  refine k_al C (lv_at hl 0 rfl) rfl (show decode cX9_init 105 = .ok (.aload_n 0, 1) by decide +kernel) ?_
  refine k_ic (v := 3) C (show decode cX9_init 106 = .ok (.iconst 3, 1) by decide +kernel) (by decide) ?_
  refine k_na (atype := .boolean) (ty := .boolean) (i := 2) (N' := 3) (a0 := (3, .inl (fun _ => 0))) C hA wd_6_125 rfl rfl (fun _ h => h) (fun _ => rfl) (by decide) (by decide) (by decide) hc hs (show decode cX9_init 107 = .ok (.newarray .boolean, 2) by decide +kernel) (fun q13 => ?_)
  refine k_eq (X2 := (h0, .inr (9, fs)) :: (R ++ [(q13, .inl (cA 2, (3, .inl (fun _ => 0))))])) rfl ?_
  refine k_pf (j := 23) (ty := (.array .boolean)) C ck_9 (by decide) wd_6_0 rfl hin rfl (by decide +kernel) rfl rfl (by rw [hfs]; decide) (show decode cX9_init 109 = .ok (.putfield 52, 3) by decide +kernel) ?_
  exact k q13 ls hl
theorem cX9_c15 (C : kCx "WaxedPartnersModel" cX9_init 2 p s m args c D cA) (hA : ∀ q, s.heap.size ≤ q → A q) (hin : meth.name = "<init>") (hl : lv_has ls 2 [(0, .ref h0)]) (hfs : fs.length = 49) (hc : cells + 1 ≤ (kRm 2 20 2705).cells) (hs : slots + 432 ≤ (kRm 2 20 2705).slots) (k : ∀ (q14 : Nat) (ls : Array Slot), lv_has ls 2 [(0, .ref h0)] → kW p l e (kRm 2 20 2705) s m args below meth c D A Q (cells + 1) (slots + 432) 121 ls [] ((h0, .inr (9, fs.set 33 (.ref q14))) :: (R ++ [(q14, .inl (cA 0, (432, .inl (fun _ => 0))))]))) : kW p l e (kRm 2 20 2705) s m args below meth c D A Q cells slots 112 ls [] ((h0, .inr (9, fs)) :: (R)) := by
  refine k_al C (lv_at hl 0 rfl) rfl (show decode cX9_init 112 = .ok (.aload_n 0, 1) by decide +kernel) ?_
  refine k_sp (v := 432) C (show decode cX9_init 113 = .ok (.sipush 432, 3) by decide +kernel) (by decide) ?_
  refine k_na (atype := .int) (ty := .int) (i := 0) (N' := 432) (a0 := (432, .inl (fun _ => 0))) C hA wd_1_84 rfl rfl (fun _ h => h) (fun _ => rfl) (by decide) (by decide) (by decide) hc hs (show decode cX9_init 116 = .ok (.newarray .int, 2) by decide +kernel) (fun q14 => ?_)
  refine k_eq (X2 := (h0, .inr (9, fs)) :: (R ++ [(q14, .inl (cA 0, (432, .inl (fun _ => 0))))])) rfl ?_
  refine k_pf (j := 33) (ty := (.array .int)) C ck_9 (by decide) wd_6_10 rfl hin rfl (by decide +kernel) rfl rfl (by rw [hfs]; decide) (show decode cX9_init 118 = .ok (.putfield 56, 3) by decide +kernel) ?_
  exact k q14 ls hl
theorem cX9_c16 (C : kCx "WaxedPartnersModel" cX9_init 2 p s m args c D cA) (hA : ∀ q, s.heap.size ≤ q → A q) (hin : meth.name = "<init>") (hl : lv_has ls 2 [(0, .ref h0)]) (hfs : fs.length = 49) (hc : cells + 1 ≤ (kRm 2 20 2705).cells) (hs : slots + 6 ≤ (kRm 2 20 2705).slots) (k : ∀ (q15 : Nat) (ls : Array Slot), lv_has ls 2 [(0, .ref h0)] → kW p l e (kRm 2 20 2705) s m args below meth c D A Q (cells + 1) (slots + 6) 129 ls [] ((h0, .inr (9, fs.set 34 (.ref q15))) :: (R ++ [(q15, .inl (cA 0, (6, .inl (fun _ => 0))))]))) : kW p l e (kRm 2 20 2705) s m args below meth c D A Q cells slots 121 ls [] ((h0, .inr (9, fs)) :: (R)) := by
  refine k_al C (lv_at hl 0 rfl) rfl (show decode cX9_init 121 = .ok (.aload_n 0, 1) by decide +kernel) ?_
  refine k_bp (v := 6) C (show decode cX9_init 122 = .ok (.bipush 6, 2) by decide +kernel) (by decide) ?_
  refine k_na (atype := .int) (ty := .int) (i := 0) (N' := 6) (a0 := (6, .inl (fun _ => 0))) C hA wd_1_84 rfl rfl (fun _ h => h) (fun _ => rfl) (by decide) (by decide) (by decide) hc hs (show decode cX9_init 124 = .ok (.newarray .int, 2) by decide +kernel) (fun q15 => ?_)
  refine k_eq (X2 := (h0, .inr (9, fs)) :: (R ++ [(q15, .inl (cA 0, (6, .inl (fun _ => 0))))])) rfl ?_
  refine k_pf (j := 34) (ty := (.array .int)) C ck_9 (by decide) wd_6_11 rfl hin rfl (by decide +kernel) rfl rfl (by rw [hfs]; decide) (show decode cX9_init 126 = .ok (.putfield 59, 3) by decide +kernel) ?_
  exact k q15 ls hl
theorem cX9_c17 (C : kCx "WaxedPartnersModel" cX9_init 2 p s m args c D cA) (hA : ∀ q, s.heap.size ≤ q → A q) (hin : meth.name = "<init>") (hl : lv_has ls 2 [(0, .ref h0)]) (hfs : fs.length = 49) (hc : cells + 1 ≤ (kRm 2 20 2705).cells) (hs : slots + 6 ≤ (kRm 2 20 2705).slots) (k : ∀ (q16 : Nat) (ls : Array Slot), lv_has ls 2 [(0, .ref h0)] → kW p l e (kRm 2 20 2705) s m args below meth c D A Q (cells + 1) (slots + 6) 137 ls [] ((h0, .inr (9, fs.set 35 (.ref q16))) :: (R ++ [(q16, .inl (cA 0, (6, .inl (fun _ => 0))))]))) : kW p l e (kRm 2 20 2705) s m args below meth c D A Q cells slots 129 ls [] ((h0, .inr (9, fs)) :: (R)) := by
  refine k_al C (lv_at hl 0 rfl) rfl (show decode cX9_init 129 = .ok (.aload_n 0, 1) by decide +kernel) ?_
  refine k_bp (v := 6) C (show decode cX9_init 130 = .ok (.bipush 6, 2) by decide +kernel) (by decide) ?_
  refine k_na (atype := .int) (ty := .int) (i := 0) (N' := 6) (a0 := (6, .inl (fun _ => 0))) C hA wd_1_84 rfl rfl (fun _ h => h) (fun _ => rfl) (by decide) (by decide) (by decide) hc hs (show decode cX9_init 132 = .ok (.newarray .int, 2) by decide +kernel) (fun q16 => ?_)
  refine k_eq (X2 := (h0, .inr (9, fs)) :: (R ++ [(q16, .inl (cA 0, (6, .inl (fun _ => 0))))])) rfl ?_
  refine k_pf (j := 35) (ty := (.array .int)) C ck_9 (by decide) wd_6_12 rfl hin rfl (by decide +kernel) rfl rfl (by rw [hfs]; decide) (show decode cX9_init 134 = .ok (.putfield 62, 3) by decide +kernel) ?_
  exact k q16 ls hl
theorem cX9_c18 (C : kCx "WaxedPartnersModel" cX9_init 2 p s m args c D cA) (hA : ∀ q, s.heap.size ≤ q → A q) (hin : meth.name = "<init>") (hl : lv_has ls 2 [(0, .ref h0)]) (hfs : fs.length = 49) (hc : cells + 1 ≤ (kRm 2 20 2705).cells) (hs : slots + 72 ≤ (kRm 2 20 2705).slots) (k : ∀ (q17 : Nat) (ls : Array Slot), lv_has ls 2 [(0, .ref h0)] → kW p l e (kRm 2 20 2705) s m args below meth c D A Q (cells + 1) (slots + 72) 145 ls [] ((h0, .inr (9, fs.set 36 (.ref q17))) :: (R ++ [(q17, .inl (cA 0, (72, .inl (fun _ => 0))))]))) : kW p l e (kRm 2 20 2705) s m args below meth c D A Q cells slots 137 ls [] ((h0, .inr (9, fs)) :: (R)) := by
  refine k_al C (lv_at hl 0 rfl) rfl (show decode cX9_init 137 = .ok (.aload_n 0, 1) by decide +kernel) ?_
  refine k_bp (v := 72) C (show decode cX9_init 138 = .ok (.bipush 72, 2) by decide +kernel) (by decide) ?_
  refine k_na (atype := .int) (ty := .int) (i := 0) (N' := 72) (a0 := (72, .inl (fun _ => 0))) C hA wd_1_84 rfl rfl (fun _ h => h) (fun _ => rfl) (by decide) (by decide) (by decide) hc hs (show decode cX9_init 140 = .ok (.newarray .int, 2) by decide +kernel) (fun q17 => ?_)
  refine k_eq (X2 := (h0, .inr (9, fs)) :: (R ++ [(q17, .inl (cA 0, (72, .inl (fun _ => 0))))])) rfl ?_
  refine k_pf (j := 36) (ty := (.array .int)) C ck_9 (by decide) wd_6_13 rfl hin rfl (by decide +kernel) rfl rfl (by rw [hfs]; decide) (show decode cX9_init 142 = .ok (.putfield 65, 3) by decide +kernel) ?_
  exact k q17 ls hl
theorem cX9_c19 (C : kCx "WaxedPartnersModel" cX9_init 2 p s m args c D cA) (hA : ∀ q, s.heap.size ≤ q → A q) (hin : meth.name = "<init>") (hl : lv_has ls 2 [(0, .ref h0)]) (hfs : fs.length = 49) (hc : cells + 1 ≤ (kRm 2 20 2705).cells) (hs : slots + 64 ≤ (kRm 2 20 2705).slots) (k : ∀ (q18 : Nat) (ls : Array Slot), lv_has ls 2 [(0, .ref h0)] → kW p l e (kRm 2 20 2705) s m args below meth c D A Q (cells + 1) (slots + 64) 153 ls [] ((h0, .inr (9, fs.set 37 (.ref q18))) :: (R ++ [(q18, .inl (cA 0, (64, .inl (fun _ => 0))))]))) : kW p l e (kRm 2 20 2705) s m args below meth c D A Q cells slots 145 ls [] ((h0, .inr (9, fs)) :: (R)) := by
  refine k_al C (lv_at hl 0 rfl) rfl (show decode cX9_init 145 = .ok (.aload_n 0, 1) by decide +kernel) ?_
  refine k_bp (v := 64) C (show decode cX9_init 146 = .ok (.bipush 64, 2) by decide +kernel) (by decide) ?_
  refine k_na (atype := .int) (ty := .int) (i := 0) (N' := 64) (a0 := (64, .inl (fun _ => 0))) C hA wd_1_84 rfl rfl (fun _ h => h) (fun _ => rfl) (by decide) (by decide) (by decide) hc hs (show decode cX9_init 148 = .ok (.newarray .int, 2) by decide +kernel) (fun q18 => ?_)
  refine k_eq (X2 := (h0, .inr (9, fs)) :: (R ++ [(q18, .inl (cA 0, (64, .inl (fun _ => 0))))])) rfl ?_
  refine k_pf (j := 37) (ty := (.array .int)) C ck_9 (by decide) wd_6_14 rfl hin rfl (by decide +kernel) rfl rfl (by rw [hfs]; decide) (show decode cX9_init 150 = .ok (.putfield 68, 3) by decide +kernel) ?_
  exact k q18 ls hl
theorem cX9_c20 (C : kCx "WaxedPartnersModel" cX9_init 2 p s m args c D cA) (hA : ∀ q, s.heap.size ≤ q → A q) (hin : meth.name = "<init>") (hl : lv_has ls 2 [(0, .ref h0)]) (hfs : fs.length = 49) (hc : cells + 1 ≤ (kRm 2 20 2705).cells) (hs : slots + 64 ≤ (kRm 2 20 2705).slots) (k : ∀ (q19 : Nat) (ls : Array Slot), lv_has ls 2 [(0, .ref h0)] → kW p l e (kRm 2 20 2705) s m args below meth c D A Q (cells + 1) (slots + 64) 161 ls [] ((h0, .inr (9, fs.set 38 (.ref q19))) :: (R ++ [(q19, .inl (cA 0, (64, .inl (fun _ => 0))))]))) : kW p l e (kRm 2 20 2705) s m args below meth c D A Q cells slots 153 ls [] ((h0, .inr (9, fs)) :: (R)) := by
  refine k_al C (lv_at hl 0 rfl) rfl (show decode cX9_init 153 = .ok (.aload_n 0, 1) by decide +kernel) ?_
  refine k_bp (v := 64) C (show decode cX9_init 154 = .ok (.bipush 64, 2) by decide +kernel) (by decide) ?_
  refine k_na (atype := .int) (ty := .int) (i := 0) (N' := 64) (a0 := (64, .inl (fun _ => 0))) C hA wd_1_84 rfl rfl (fun _ h => h) (fun _ => rfl) (by decide) (by decide) (by decide) hc hs (show decode cX9_init 156 = .ok (.newarray .int, 2) by decide +kernel) (fun q19 => ?_)
  refine k_eq (X2 := (h0, .inr (9, fs)) :: (R ++ [(q19, .inl (cA 0, (64, .inl (fun _ => 0))))])) rfl ?_
  refine k_pf (j := 38) (ty := (.array .int)) C ck_9 (by decide) wd_6_15 rfl hin rfl (by decide +kernel) rfl rfl (by rw [hfs]; decide) (show decode cX9_init 158 = .ok (.putfield 71, 3) by decide +kernel) ?_
  exact k q19 ls hl
theorem cX9_c21 (C : kCx "WaxedPartnersModel" cX9_init 2 p s m args c D cA) (hA : ∀ q, s.heap.size ≤ q → A q) (hin : meth.name = "<init>") (hl : lv_has ls 2 [(0, .ref h0)]) (hfs : fs.length = 49) (hc : cells + 1 ≤ (kRm 2 20 2705).cells) (hs : slots + 30 ≤ (kRm 2 20 2705).slots) (k : ∀ (q20 : Nat) (ls : Array Slot), lv_has ls 2 [(0, .ref h0)] → kW p l e (kRm 2 20 2705) s m args below meth c D A Q (cells + 1) (slots + 30) 169 ls [] ((h0, .inr (9, fs.set 48 (.ref q20))) :: (R ++ [(q20, .inl (cA 0, (30, .inl (fun _ => 0))))]))) : kW p l e (kRm 2 20 2705) s m args below meth c D A Q cells slots 161 ls [] ((h0, .inr (9, fs)) :: (R)) := by
  refine k_al C (lv_at hl 0 rfl) rfl (show decode cX9_init 161 = .ok (.aload_n 0, 1) by decide +kernel) ?_
  refine k_bp (v := 30) C (show decode cX9_init 162 = .ok (.bipush 30, 2) by decide +kernel) (by decide) ?_
  refine k_na (atype := .int) (ty := .int) (i := 0) (N' := 30) (a0 := (30, .inl (fun _ => 0))) C hA wd_1_84 rfl rfl (fun _ h => h) (fun _ => rfl) (by decide) (by decide) (by decide) hc hs (show decode cX9_init 164 = .ok (.newarray .int, 2) by decide +kernel) (fun q20 => ?_)
  refine k_eq (X2 := (h0, .inr (9, fs)) :: (R ++ [(q20, .inl (cA 0, (30, .inl (fun _ => 0))))])) rfl ?_
  refine k_pf (j := 48) (ty := (.array .int)) C ck_9 (by decide) wd_6_25 rfl hin rfl (by decide +kernel) rfl rfl (by rw [hfs]; decide) (show decode cX9_init 166 = .ok (.putfield 74, 3) by decide +kernel) ?_
  exact k q20 ls hl
theorem cX9_c22 (C : kCx "WaxedPartnersModel" cX9_init 2 p s m args c D cA) (hA : ∀ q, s.heap.size ≤ q → A q) (hin : meth.name = "<init>") (hl : lv_has ls 2 [(0, .ref h0)]) (hfs : fs.length = 49) {q1 : Nat} {f1 : Nat → Int32} (hf1 : fs[1]? = some (.ref q1)) (hR : R[0]? = some (q1, .inl (cA 0, 4, .inl f1))) (k : ∀  (ls : Array Slot), lv_has ls 2 [(1, .int 1), (0, .ref h0)] → kW p l e (kRm 2 20 2705) s m args below meth c D A Q cells slots 171 ls [] ((h0, .inr (9, fs)) :: (R.set 0 (q1, .inl (cA 0, 4, .inl (upd f1 0 (-1))))))) : kW p l e (kRm 2 20 2705) s m args below meth c D A Q cells slots 169 ls [] ((h0, .inr (9, fs)) :: (R)) := by
  refine k_ic (v := 0) C (show decode cX9_init 169 = .ok (.iconst 0, 1) by decide +kernel) (by decide) ?_
  refine k_is (lv' := [(1, .int 0), (0, .ref h0)]) C hl (show decode cX9_init 170 = .ok (.istore_n 1, 1) by decide +kernel) rfl (by decide) rfl (fun ls hl => ?_)
  refine k_il C (lv_at hl 0 rfl) rfl (show decode cX9_init 171 = .ok (.iload_n 1, 1) by decide +kernel) ?_
  refine k_ic (v := 4) C (show decode cX9_init 172 = .ok (.iconst 4, 1) by decide +kernel) (by decide) ?_
  refine k_ge0 (tgt := 189) C (show decode cX9_init 173 = .ok (.if_icmp .ge 16, 3) by decide +kernel) (by decide) (by decide) ?_
  refine k_al C (lv_at hl 1 rfl) rfl (show decode cX9_init 176 = .ok (.aload_n 0, 1) by decide +kernel) ?_
  refine k_gf (j := 1) (v := .ref q1) C ck_9 (by decide) wd_5_218 hf1 (show decode cX9_init 177 = .ok (.getfield 7, 3) by decide +kernel) ?_
  refine k_il C (lv_at hl 0 rfl) rfl (show decode cX9_init 180 = .ok (.iload_n 1, 1) by decide +kernel) ?_
  refine k_ic (v := (-1)) C (show decode cX9_init 181 = .ok (.iconst (-1), 1) by decide +kernel) (by decide) ?_
  refine k_ia (q0 := 1) (t0 := 0) C (k_atC hR) rfl (pk_in 0 4 (by decide)) (show decode cX9_init 182 = .ok (.iastore, 1) by decide +kernel) ?_
  refine k_eq (X2 := (h0, .inr (9, fs)) :: (R.set 0 (q1, .inl (cA 0, 4, .inl (upd f1 0 (-1)))))) rfl ?_
  refine k_ii (v := 1) (lv' := [(1, .int 1), (0, .ref h0)]) C hl (k0 := 0) rfl (show decode cX9_init 183 = .ok (.iinc 1 1, 3) by decide +kernel) (by decide) (by decide) rfl (fun ls hl => ?_)
  refine k_gt (tgt := 171) C (show decode cX9_init 186 = .ok (.goto (-15), 3) by decide +kernel) (by decide) ?_
  exact k  ls hl
theorem cX9_c23 (C : kCx "WaxedPartnersModel" cX9_init 2 p s m args c D cA) (hA : ∀ q, s.heap.size ≤ q → A q) (hin : meth.name = "<init>") (hl : lv_has ls 2 [(1, .int 1), (0, .ref h0)]) (hfs : fs.length = 49) {q1 : Nat} {f1 : Nat → Int32} (hf1 : fs[1]? = some (.ref q1)) (hR : R[0]? = some (q1, .inl (cA 0, 4, .inl f1))) (k : ∀  (ls : Array Slot), lv_has ls 2 [(1, .int 2), (0, .ref h0)] → kW p l e (kRm 2 20 2705) s m args below meth c D A Q cells slots 171 ls [] ((h0, .inr (9, fs)) :: (R.set 0 (q1, .inl (cA 0, 4, .inl (upd f1 1 (-1))))))) : kW p l e (kRm 2 20 2705) s m args below meth c D A Q cells slots 171 ls [] ((h0, .inr (9, fs)) :: (R)) := by
  refine k_il C (lv_at hl 0 rfl) rfl (show decode cX9_init 171 = .ok (.iload_n 1, 1) by decide +kernel) ?_
  refine k_ic (v := 4) C (show decode cX9_init 172 = .ok (.iconst 4, 1) by decide +kernel) (by decide) ?_
  refine k_ge0 (tgt := 189) C (show decode cX9_init 173 = .ok (.if_icmp .ge 16, 3) by decide +kernel) (by decide) (by decide) ?_
  refine k_al C (lv_at hl 1 rfl) rfl (show decode cX9_init 176 = .ok (.aload_n 0, 1) by decide +kernel) ?_
  refine k_gf (j := 1) (v := .ref q1) C ck_9 (by decide) wd_5_218 hf1 (show decode cX9_init 177 = .ok (.getfield 7, 3) by decide +kernel) ?_
  refine k_il C (lv_at hl 0 rfl) rfl (show decode cX9_init 180 = .ok (.iload_n 1, 1) by decide +kernel) ?_
  refine k_ic (v := (-1)) C (show decode cX9_init 181 = .ok (.iconst (-1), 1) by decide +kernel) (by decide) ?_
  refine k_ia (q0 := 1) (t0 := 0) C (k_atC hR) rfl (pk_in 1 4 (by decide)) (show decode cX9_init 182 = .ok (.iastore, 1) by decide +kernel) ?_
  refine k_eq (X2 := (h0, .inr (9, fs)) :: (R.set 0 (q1, .inl (cA 0, 4, .inl (upd f1 1 (-1)))))) rfl ?_
  refine k_ii (v := 2) (lv' := [(1, .int 2), (0, .ref h0)]) C hl (k0 := 0) rfl (show decode cX9_init 183 = .ok (.iinc 1 1, 3) by decide +kernel) (by decide) (by decide) rfl (fun ls hl => ?_)
  refine k_gt (tgt := 171) C (show decode cX9_init 186 = .ok (.goto (-15), 3) by decide +kernel) (by decide) ?_
  exact k  ls hl
theorem cX9_c24 (C : kCx "WaxedPartnersModel" cX9_init 2 p s m args c D cA) (hA : ∀ q, s.heap.size ≤ q → A q) (hin : meth.name = "<init>") (hl : lv_has ls 2 [(1, .int 2), (0, .ref h0)]) (hfs : fs.length = 49) {q1 : Nat} {f1 : Nat → Int32} (hf1 : fs[1]? = some (.ref q1)) (hR : R[0]? = some (q1, .inl (cA 0, 4, .inl f1))) (k : ∀  (ls : Array Slot), lv_has ls 2 [(1, .int 3), (0, .ref h0)] → kW p l e (kRm 2 20 2705) s m args below meth c D A Q cells slots 171 ls [] ((h0, .inr (9, fs)) :: (R.set 0 (q1, .inl (cA 0, 4, .inl (upd f1 2 (-1))))))) : kW p l e (kRm 2 20 2705) s m args below meth c D A Q cells slots 171 ls [] ((h0, .inr (9, fs)) :: (R)) := by
  refine k_il C (lv_at hl 0 rfl) rfl (show decode cX9_init 171 = .ok (.iload_n 1, 1) by decide +kernel) ?_
  refine k_ic (v := 4) C (show decode cX9_init 172 = .ok (.iconst 4, 1) by decide +kernel) (by decide) ?_
  refine k_ge0 (tgt := 189) C (show decode cX9_init 173 = .ok (.if_icmp .ge 16, 3) by decide +kernel) (by decide) (by decide) ?_
  refine k_al C (lv_at hl 1 rfl) rfl (show decode cX9_init 176 = .ok (.aload_n 0, 1) by decide +kernel) ?_
  refine k_gf (j := 1) (v := .ref q1) C ck_9 (by decide) wd_5_218 hf1 (show decode cX9_init 177 = .ok (.getfield 7, 3) by decide +kernel) ?_
  refine k_il C (lv_at hl 0 rfl) rfl (show decode cX9_init 180 = .ok (.iload_n 1, 1) by decide +kernel) ?_
  refine k_ic (v := (-1)) C (show decode cX9_init 181 = .ok (.iconst (-1), 1) by decide +kernel) (by decide) ?_
  refine k_ia (q0 := 1) (t0 := 0) C (k_atC hR) rfl (pk_in 2 4 (by decide)) (show decode cX9_init 182 = .ok (.iastore, 1) by decide +kernel) ?_
  refine k_eq (X2 := (h0, .inr (9, fs)) :: (R.set 0 (q1, .inl (cA 0, 4, .inl (upd f1 2 (-1)))))) rfl ?_
  refine k_ii (v := 3) (lv' := [(1, .int 3), (0, .ref h0)]) C hl (k0 := 0) rfl (show decode cX9_init 183 = .ok (.iinc 1 1, 3) by decide +kernel) (by decide) (by decide) rfl (fun ls hl => ?_)
  refine k_gt (tgt := 171) C (show decode cX9_init 186 = .ok (.goto (-15), 3) by decide +kernel) (by decide) ?_
  exact k  ls hl
theorem cX9_c25 (C : kCx "WaxedPartnersModel" cX9_init 2 p s m args c D cA) (hA : ∀ q, s.heap.size ≤ q → A q) (hin : meth.name = "<init>") (hl : lv_has ls 2 [(1, .int 3), (0, .ref h0)]) (hfs : fs.length = 49) {q1 : Nat} {f1 : Nat → Int32} (hf1 : fs[1]? = some (.ref q1)) (hR : R[0]? = some (q1, .inl (cA 0, 4, .inl f1))) (k : ∀  (ls : Array Slot), lv_has ls 2 [(1, .int 4), (0, .ref h0)] → kW p l e (kRm 2 20 2705) s m args below meth c D A Q cells slots 171 ls [] ((h0, .inr (9, fs)) :: (R.set 0 (q1, .inl (cA 0, 4, .inl (upd f1 3 (-1))))))) : kW p l e (kRm 2 20 2705) s m args below meth c D A Q cells slots 171 ls [] ((h0, .inr (9, fs)) :: (R)) := by
  refine k_il C (lv_at hl 0 rfl) rfl (show decode cX9_init 171 = .ok (.iload_n 1, 1) by decide +kernel) ?_
  refine k_ic (v := 4) C (show decode cX9_init 172 = .ok (.iconst 4, 1) by decide +kernel) (by decide) ?_
  refine k_ge0 (tgt := 189) C (show decode cX9_init 173 = .ok (.if_icmp .ge 16, 3) by decide +kernel) (by decide) (by decide) ?_
  refine k_al C (lv_at hl 1 rfl) rfl (show decode cX9_init 176 = .ok (.aload_n 0, 1) by decide +kernel) ?_
  refine k_gf (j := 1) (v := .ref q1) C ck_9 (by decide) wd_5_218 hf1 (show decode cX9_init 177 = .ok (.getfield 7, 3) by decide +kernel) ?_
  refine k_il C (lv_at hl 0 rfl) rfl (show decode cX9_init 180 = .ok (.iload_n 1, 1) by decide +kernel) ?_
  refine k_ic (v := (-1)) C (show decode cX9_init 181 = .ok (.iconst (-1), 1) by decide +kernel) (by decide) ?_
  refine k_ia (q0 := 1) (t0 := 0) C (k_atC hR) rfl (pk_in 3 4 (by decide)) (show decode cX9_init 182 = .ok (.iastore, 1) by decide +kernel) ?_
  refine k_eq (X2 := (h0, .inr (9, fs)) :: (R.set 0 (q1, .inl (cA 0, 4, .inl (upd f1 3 (-1)))))) rfl ?_
  refine k_ii (v := 4) (lv' := [(1, .int 4), (0, .ref h0)]) C hl (k0 := 0) rfl (show decode cX9_init 183 = .ok (.iinc 1 1, 3) by decide +kernel) (by decide) (by decide) rfl (fun ls hl => ?_)
  refine k_gt (tgt := 171) C (show decode cX9_init 186 = .ok (.goto (-15), 3) by decide +kernel) (by decide) ?_
  exact k  ls hl
end KC9
