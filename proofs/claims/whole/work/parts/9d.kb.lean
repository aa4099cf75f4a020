/-! Constructors: words, heads, rows of loops. -/
def kPk : List (Nat × (Nat → Nat)) → Nat → Nat
  | [], _ => 0
  | (n, g) :: r, i => bif Nat.blt i n then g i else kPk r (i - n)
def k_12 (r : Nat → Nat) : Nat → Option Nat := fun i => match i with
  | 0 => some (r 0)
  | 1 => some (r 1)
  | 2 => some (r 2)
  | 3 => some (r 3)
  | 4 => some (r 4)
  | 5 => some (r 5)
  | 6 => some (r 6)
  | 7 => some (r 7)
  | 8 => some (r 8)
  | 9 => some (r 9)
  | 10 => some (r 10)
  | 11 => some (r 11)
  | _ => none
theorem k12_eq (r : Nat → Nat) : (fun i => if i < 12 then some (r i) else none) = k_12 r := funext (fun i => by
  match i with
  | 0 => rfl
  | 1 => rfl
  | 2 => rfl
  | 3 => rfl
  | 4 => rfl
  | 5 => rfl
  | 6 => rfl
  | 7 => rfl
  | 8 => rfl
  | 9 => rfl
  | 10 => rfl
  | 11 => rfl
  | n + 12 =>
    show (if n + 12 < 12 then some (r (n + 12)) else none) = none
    rw [if_neg (by omega)])
def wMn (cA : Nat → ClassId) (q : Nat) (r : Nat → Nat) : va_W := (q, .inl (cA 6, 12, .inr (.inr (.inr (.inr (k_12 r)))))) :: (List.range 12).map (fun i => (r i, .inl (cA 0, 6, .inl (fun _ => 0))))
section KWT
variable {p : Program} {l : Launch} {e : Env} {R : Room} {s : State} {m : MethodId} {args : Array Value} {below : List Frame} {meth : Method} {c : Code} {D : va_G} {cA : Nat → ClassId} {A : Nat → Prop} {Q : State → Prop}
variable {own : String} {cc : ByteArray} {nL cells slots pc : Nat} {ls : Array Slot} {st : List Value} {X : va_W}
theorem k_cs {c2 s2 : Nat} (hc : cells = c2) (hs : slots = s2) (k : kW p l e R s m args below meth c D A Q c2 s2 pc ls st X) : kW p l e R s m args below meth c D A Q cells slots pc ls st X := by
  subst hc; subst hs; exact k
theorem k_eq {X2 : va_W} (h : X = X2) (k : kW p l e R s m args below meth c D A Q cells slots pc ls st X2) : kW p l e R s m args below meth c D A Q cells slots pc ls st X := by
  subst h; exact k
theorem k_ln {q0 t0 a : Nat} {cB : ClassId} {x : vp_A} {ty : FieldType} {v : Int32} (C : kCx own cc nL p s m args c D cA) (ha : X[q0]? = some (a, .inl (cB, x))) (ht : (kTys cA)[t0]? = some (cB, ty)) (hv : Int32.ofNat x.1 = v) (d : decode cc pc = .ok (.arraylength, 1)) (k : kW p l e R s m args below meth c D A Q cells slots (pc + 1) ls (.int v :: st) X) : kW p l e R s m args below meth c D A Q cells slots pc ls (.ref a :: st) X :=
  fun H locs hP hD hS => va_alen C.1 C.2.1 C.2.2.2.2.2.1 hP q0 t0 ha ht hv d (k H locs hP hD hS)
theorem k_ge1 {x y : Int32} {off : Int} {tgt : Nat} (C : kCx own cc nL p s m args c D cA) (d : decode cc pc = .ok (.if_icmp .ge off, 3)) (ht : (pc : Int) + off = (tgt : Int)) (hxy : y ≤ x) (k : kW p l e R s m args below meth c D A Q cells slots tgt ls st X) : kW p l e R s m args below meth c D A Q cells slots pc ls (.int y :: .int x :: st) X :=
  fun H locs hP hD hS => lv_icmp_ge C.1 C.2.1 d ht (fun _ => k H locs hP hD hS) (fun h => absurd hxy h)
theorem k_ge0 {x y : Int32} {off : Int} {tgt : Nat} (C : kCx own cc nL p s m args c D cA) (d : decode cc pc = .ok (.if_icmp .ge off, 3)) (ht : (pc : Int) + off = (tgt : Int)) (hxy : ¬ y ≤ x) (k : kW p l e R s m args below meth c D A Q cells slots (pc + 3) ls st X) : kW p l e R s m args below meth c D A Q cells slots pc ls (.int y :: .int x :: st) X :=
  fun H locs hP hD hS => lv_icmp_ge C.1 C.2.1 d ht (fun h => absurd h hxy) (fun _ => k H locs hP hD hS)
theorem k_is {k0 : Fin 4} {i : Nat} {x : Int32} {lv lv' : List (Nat × Value)} (C : kCx own cc nL p s m args c D cA) (h : lv_has ls nL lv) (d : decode cc pc = .ok (.istore_n k0, 1)) (hi : (k0 : Nat) = i) (hn : i < nL) (hlv : (i, Value.int x) :: lv.filter (fun q => !(q.1 == i) && !(q.1 + 1 == i && q.2.category == 2)) = lv') (k : ∀ ls' : Array Slot, lv_has ls' nL lv' → kW p l e R s m args below meth c D A Q cells slots (pc + 1) ls' st X) : kW p l e R s m args below meth c D A Q cells slots pc ls (.int x :: st) X :=
  fun H locs hP hD hS => lv_istore_n C.1 C.2.1 d hi h hn hlv (fun ls' h' => k ls' h' H locs hP hD hS)
theorem k_ii {i k0 : Nat} {n : Int} {x v : Int32} {lv lv' : List (Nat × Value)} (C : kCx own cc nL p s m args c D cA) (h : lv_has ls nL lv) (hk : lv[k0]? = some (i, .int x)) (d : decode cc pc = .ok (.iinc i n, 3)) (hv : x + Int32.ofInt n = v) (hn : i < nL) (hlv : (i, Value.int v) :: lv.filter (fun q => !(q.1 == i) && !(q.1 + 1 == i && q.2.category == 2)) = lv') (k : ∀ ls' : Array Slot, lv_has ls' nL lv' → kW p l e R s m args below meth c D A Q cells slots (pc + 3) ls' st X) : kW p l e R s m args below meth c D A Q cells slots pc ls st X :=
  fun H locs hP hD hS => lv_iinc C.1 C.2.1 d h hk hv hn hlv (fun ls' h' => k ls' h' H locs hP hD hS)
theorem k_as {q0 t0 qk ci a n v : Nat} {cB : ClassId} {r : vw_C} {vs : List Value} {f : Nat → Option Nat} {i : Int32} (C : kCx own cc nL p s m args c D cA) (ha : X[q0]? = some (a, .inl (cB, n, .inr (.inr (.inr (.inr f)))))) (ht : (kTys cA)[t0]? = some (cB, .object r.1)) (hv : X[qk]? = some (v, .inr (ci, vs))) (hc : vwCl[ci]? = some r) (hin : vp_in i n) (d : decode cc pc = .ok (.aastore, 1)) (k : kW p l e R s m args below meth c D A Q cells slots (pc + 1) ls st (X.set q0 (a, .inl (cB, n, .inr (.inr (.inr (.inr (va_up f i.toNatClampNeg (some v))))))))) : kW p l e R s m args below meth c D A Q cells slots pc ls (.ref v :: .int i :: .ref a :: st) X :=
  fun H locs hP hD hS => va_astq C.1 C.2.1 C.2.2.2.2.2.1 hP hD hS q0 t0 qk ci ha ht hv hc hin d (fun H1 locs1 hP1 hD1 hS1 => k H1 locs1 hP1 hD1 hS1)
theorem k_ia {q0 t0 a n : Nat} {cB : ClassId} {f : Nat → Int32} {i x : Int32} (C : kCx own cc nL p s m args c D cA) (ha : X[q0]? = some (a, .inl (cB, n, .inl f))) (ht : (kTys cA)[t0]? = some (cB, .int)) (hin : vp_in i n) (d : decode cc pc = .ok (.iastore, 1)) (k : kW p l e R s m args below meth c D A Q cells slots (pc + 1) ls st (X.set q0 (a, .inl (cB, n, .inl (upd f i.toNatClampNeg x))))) : kW p l e R s m args below meth c D A Q cells slots pc ls (.int x :: .int i :: .ref a :: st) X :=
  fun H locs hP hD hS => va_iast C.1 C.2.1 C.2.2.2.2.2.1 hP hD hS q0 t0 ha ht hin d (fun H1 locs1 hP1 hD1 hS1 => k H1 locs1 hP1 hD1 hS1)
end KWT
theorem wd_1_60 : Cond.methodLink "WaxedPartners$Acts" 3 ⟨"java/lang/Object", "<init>", "()V"⟩ ∈ gT := gT_in (tb_1 _ (List.mem_of_getElem? (i := 60) (by decide +kernel))) rfl
theorem wd_1_84 : Cond.arrayClass .int ∈ gT := gT_in (tb_1 _ (List.mem_of_getElem? (i := 84) (by decide +kernel))) rfl
theorem wd_1_54 : Cond.methodLink "WaxedPartners$Town" 3 ⟨"java/lang/Object", "<init>", "()V"⟩ ∈ gT := gT_in (tb_1 _ (List.mem_of_getElem? (i := 54) (by decide +kernel))) rfl
theorem wd_1_55 : Cond.classLink "WaxedPartners$Town" 39 "WaxedPartners$Acts" ∈ gT := gT_in (tb_1 _ (List.mem_of_getElem? (i := 55) (by decide +kernel))) rfl
theorem wd_1_56 : Cond.instantiable "WaxedPartners$Acts" 5 ∈ gT := gT_in (tb_1 _ (List.mem_of_getElem? (i := 56) (by decide +kernel))) rfl
theorem wd_1_57 : Cond.methodLinkNest "WaxedPartners$Town" 41 ⟨"WaxedPartners$Acts", "<init>", "()V"⟩ "WaxedPartners" ∈ gNst := List.mem_filter.mpr ⟨tb_1 _ (List.mem_of_getElem? (i := 57) (by decide +kernel)), rfl⟩
theorem wd_1_58 : Cond.instanceMethod ⟨"WaxedPartners$Acts", "<init>", "()V"⟩ ∈ gT := gT_in (tb_1 _ (List.mem_of_getElem? (i := 58) (by decide +kernel))) rfl
theorem wd_1_38 : Cond.methodLink "WaxedPartners$Tape" 3 ⟨"java/lang/Object", "<init>", "()V"⟩ ∈ gT := gT_in (tb_1 _ (List.mem_of_getElem? (i := 38) (by decide +kernel))) rfl
theorem wd_1_48 : Cond.arrayClass .byte ∈ gT := gT_in (tb_1 _ (List.mem_of_getElem? (i := 48) (by decide +kernel))) rfl
theorem wd_1_32 : Cond.methodLink "WaxedPartners$Reader" 3 ⟨"java/lang/Object", "<init>", "()V"⟩ ∈ gT := gT_in (tb_1 _ (List.mem_of_getElem? (i := 32) (by decide +kernel))) rfl
theorem wd_1_33 : Cond.classLink "WaxedPartners$Reader" 9 "WaxedPartners$Tape" ∈ gT := gT_in (tb_1 _ (List.mem_of_getElem? (i := 33) (by decide +kernel))) rfl
theorem wd_1_34 : Cond.instantiable "WaxedPartners$Tape" 2 ∈ gT := gT_in (tb_1 _ (List.mem_of_getElem? (i := 34) (by decide +kernel))) rfl
theorem wd_1_35 : Cond.methodLinkNest "WaxedPartners$Reader" 11 ⟨"WaxedPartners$Tape", "<init>", "()V"⟩ "WaxedPartners" ∈ gNst := List.mem_filter.mpr ⟨tb_1 _ (List.mem_of_getElem? (i := 35) (by decide +kernel)), rfl⟩
theorem wd_1_36 : Cond.instanceMethod ⟨"WaxedPartners$Tape", "<init>", "()V"⟩ ∈ gT := gT_in (tb_1 _ (List.mem_of_getElem? (i := 36) (by decide +kernel))) rfl
theorem wd_1_49 : Cond.classLink "WaxedPartners$Reader" 18 "WaxedPartners$Town" ∈ gT := gT_in (tb_1 _ (List.mem_of_getElem? (i := 49) (by decide +kernel))) rfl
theorem wd_1_50 : Cond.instantiable "WaxedPartners$Town" 19 ∈ gT := gT_in (tb_1 _ (List.mem_of_getElem? (i := 50) (by decide +kernel))) rfl
theorem wd_1_51 : Cond.methodLinkNest "WaxedPartners$Reader" 20 ⟨"WaxedPartners$Town", "<init>", "()V"⟩ "WaxedPartners" ∈ gNst := List.mem_filter.mpr ⟨tb_1 _ (List.mem_of_getElem? (i := 51) (by decide +kernel)), rfl⟩
theorem wd_1_52 : Cond.instanceMethod ⟨"WaxedPartners$Town", "<init>", "()V"⟩ ∈ gT := gT_in (tb_1 _ (List.mem_of_getElem? (i := 52) (by decide +kernel))) rfl
theorem wd_1_234 : Cond.methodLink "WaxedPartners$Numbers" 3 ⟨"java/lang/Object", "<init>", "()V"⟩ ∈ gT := gT_in (tb_1 _ (List.mem_of_getElem? (i := 234) (by decide +kernel))) rfl
theorem wd_2_10 : Cond.arrayClass .long ∈ gT := gT_in (tb_2 _ (List.mem_of_getElem? (i := 10) (by decide +kernel))) rfl
theorem wd_2_19 : Cond.methodLink "WaxedPartners$Decade" 3 ⟨"java/lang/Object", "<init>", "()V"⟩ ∈ gT := gT_in (tb_2 _ (List.mem_of_getElem? (i := 19) (by decide +kernel))) rfl
theorem wd_2_20 : Cond.classLink "WaxedPartners$Decade" 33 "[[I" ∈ gT := gT_in (tb_2 _ (List.mem_of_getElem? (i := 20) (by decide +kernel))) rfl
theorem wd_2_92 : Cond.methodLink "WaxedPartners$Crowd" 3 ⟨"java/lang/Object", "<init>", "()V"⟩ ∈ gT := gT_in (tb_2 _ (List.mem_of_getElem? (i := 92) (by decide +kernel))) rfl
theorem wd_2_107 : Cond.methodLink "WaxedPartners$Gum" 3 ⟨"java/lang/Object", "<init>", "()V"⟩ ∈ gT := gT_in (tb_2 _ (List.mem_of_getElem? (i := 107) (by decide +kernel))) rfl
theorem wd_1_24 : Cond.methodLink "WaxedPartners" 1 ⟨"java/lang/Object", "<init>", "()V"⟩ ∈ gT := gT_in (tb_1 _ (List.mem_of_getElem? (i := 24) (by decide +kernel))) rfl
theorem wd_1_27 : Cond.classLink "WaxedPartners" 7 "WaxedPartners$Reader" ∈ gT := gT_in (tb_1 _ (List.mem_of_getElem? (i := 27) (by decide +kernel))) rfl
theorem wd_1_28 : Cond.instantiable "WaxedPartners$Reader" 8 ∈ gT := gT_in (tb_1 _ (List.mem_of_getElem? (i := 28) (by decide +kernel))) rfl
theorem wd_1_29 : Cond.methodLinkNest "WaxedPartners" 9 ⟨"WaxedPartners$Reader", "<init>", "()V"⟩ "WaxedPartners" ∈ gNst := List.mem_filter.mpr ⟨tb_1 _ (List.mem_of_getElem? (i := 29) (by decide +kernel)), rfl⟩
theorem wd_1_30 : Cond.instanceMethod ⟨"WaxedPartners$Reader", "<init>", "()V"⟩ ∈ gT := gT_in (tb_1 _ (List.mem_of_getElem? (i := 30) (by decide +kernel))) rfl
theorem wd_1_228 : Cond.classLink "WaxedPartners" 16 "WaxedPartners$Numbers" ∈ gT := gT_in (tb_1 _ (List.mem_of_getElem? (i := 228) (by decide +kernel))) rfl
theorem wd_1_230 : Cond.instantiable "WaxedPartners$Numbers" 3 ∈ gT := gT_in (tb_1 _ (List.mem_of_getElem? (i := 230) (by decide +kernel))) rfl
theorem wd_1_231 : Cond.methodLinkNest "WaxedPartners" 22 ⟨"WaxedPartners$Numbers", "<init>", "()V"⟩ "WaxedPartners" ∈ gNst := List.mem_filter.mpr ⟨tb_1 _ (List.mem_of_getElem? (i := 231) (by decide +kernel)), rfl⟩
theorem wd_1_232 : Cond.instanceMethod ⟨"WaxedPartners$Numbers", "<init>", "()V"⟩ ∈ gT := gT_in (tb_1 _ (List.mem_of_getElem? (i := 232) (by decide +kernel))) rfl
theorem wd_2_11 : Cond.classLink "WaxedPartners" 23 "WaxedPartners$Town" ∈ gT := gT_in (tb_2 _ (List.mem_of_getElem? (i := 11) (by decide +kernel))) rfl
theorem wd_2_13 : Cond.methodLinkNest "WaxedPartners" 29 ⟨"WaxedPartners$Town", "<init>", "()V"⟩ "WaxedPartners" ∈ gNst := List.mem_filter.mpr ⟨tb_2 _ (List.mem_of_getElem? (i := 13) (by decide +kernel)), rfl⟩
theorem wd_2_14 : Cond.classLink "WaxedPartners" 30 "WaxedPartners$Decade" ∈ gT := gT_in (tb_2 _ (List.mem_of_getElem? (i := 14) (by decide +kernel))) rfl
theorem wd_2_15 : Cond.instantiable "WaxedPartners$Decade" 17 ∈ gT := gT_in (tb_2 _ (List.mem_of_getElem? (i := 15) (by decide +kernel))) rfl
theorem wd_2_16 : Cond.methodLinkNest "WaxedPartners" 32 ⟨"WaxedPartners$Decade", "<init>", "()V"⟩ "WaxedPartners" ∈ gNst := List.mem_filter.mpr ⟨tb_2 _ (List.mem_of_getElem? (i := 16) (by decide +kernel)), rfl⟩
theorem wd_2_17 : Cond.instanceMethod ⟨"WaxedPartners$Decade", "<init>", "()V"⟩ ∈ gT := gT_in (tb_2 _ (List.mem_of_getElem? (i := 17) (by decide +kernel))) rfl
theorem wd_2_87 : Cond.classLink "WaxedPartners" 37 "WaxedPartners$Crowd" ∈ gT := gT_in (tb_2 _ (List.mem_of_getElem? (i := 87) (by decide +kernel))) rfl
theorem wd_2_88 : Cond.instantiable "WaxedPartners$Crowd" 2 ∈ gT := gT_in (tb_2 _ (List.mem_of_getElem? (i := 88) (by decide +kernel))) rfl
theorem wd_2_89 : Cond.methodLinkNest "WaxedPartners" 39 ⟨"WaxedPartners$Crowd", "<init>", "()V"⟩ "WaxedPartners" ∈ gNst := List.mem_filter.mpr ⟨tb_2 _ (List.mem_of_getElem? (i := 89) (by decide +kernel)), rfl⟩
theorem wd_2_90 : Cond.instanceMethod ⟨"WaxedPartners$Crowd", "<init>", "()V"⟩ ∈ gT := gT_in (tb_2 _ (List.mem_of_getElem? (i := 90) (by decide +kernel))) rfl
theorem wd_2_102 : Cond.classLink "WaxedPartners" 44 "WaxedPartners$Gum" ∈ gT := gT_in (tb_2 _ (List.mem_of_getElem? (i := 102) (by decide +kernel))) rfl
theorem wd_2_103 : Cond.instantiable "WaxedPartners$Gum" 4 ∈ gT := gT_in (tb_2 _ (List.mem_of_getElem? (i := 103) (by decide +kernel))) rfl
theorem wd_2_104 : Cond.methodLinkNest "WaxedPartners" 46 ⟨"WaxedPartners$Gum", "<init>", "()V"⟩ "WaxedPartners" ∈ gNst := List.mem_filter.mpr ⟨tb_2 _ (List.mem_of_getElem? (i := 104) (by decide +kernel)), rfl⟩
theorem wd_2_105 : Cond.instanceMethod ⟨"WaxedPartners$Gum", "<init>", "()V"⟩ ∈ gT := gT_in (tb_2 _ (List.mem_of_getElem? (i := 105) (by decide +kernel))) rfl
theorem wd_5_216 : Cond.methodLink "WaxedPartnersModel" 1 ⟨"java/lang/Object", "<init>", "()V"⟩ ∈ gT := gT_in (tb_5 _ (List.mem_of_getElem? (i := 216) (by decide +kernel))) rfl
theorem wd_6_125 : Cond.arrayClass .boolean ∈ gT := gT_in (tb_6 _ (List.mem_of_getElem? (i := 125) (by decide +kernel))) rfl
theorem wd_1_59 : Cond.code ⟨"WaxedPartners$Acts", "<init>", "()V"⟩ prog_2_method_1_code 1 none ∈ gT := gT_in (tb_1 _ (List.mem_of_getElem? (i := 59) (by decide +kernel))) rfl
theorem wd_2_91 : Cond.code ⟨"WaxedPartners$Crowd", "<init>", "()V"⟩ prog_3_method_1_code 1 none ∈ gT := gT_in (tb_2 _ (List.mem_of_getElem? (i := 91) (by decide +kernel))) rfl
theorem wd_2_18 : Cond.code ⟨"WaxedPartners$Decade", "<init>", "()V"⟩ prog_4_method_1_code 1 none ∈ gT := gT_in (tb_2 _ (List.mem_of_getElem? (i := 18) (by decide +kernel))) rfl
theorem wd_2_106 : Cond.code ⟨"WaxedPartners$Gum", "<init>", "()V"⟩ prog_5_method_1_code 1 none ∈ gT := gT_in (tb_2 _ (List.mem_of_getElem? (i := 106) (by decide +kernel))) rfl
theorem wd_1_233 : Cond.code ⟨"WaxedPartners$Numbers", "<init>", "()V"⟩ prog_6_method_1_code 1 none ∈ gT := gT_in (tb_1 _ (List.mem_of_getElem? (i := 233) (by decide +kernel))) rfl
theorem wd_1_31 : Cond.code ⟨"WaxedPartners$Reader", "<init>", "()V"⟩ prog_7_method_1_code 1 none ∈ gT := gT_in (tb_1 _ (List.mem_of_getElem? (i := 31) (by decide +kernel))) rfl
theorem wd_1_37 : Cond.code ⟨"WaxedPartners$Tape", "<init>", "()V"⟩ prog_8_method_1_code 1 none ∈ gT := gT_in (tb_1 _ (List.mem_of_getElem? (i := 37) (by decide +kernel))) rfl
theorem wd_1_53 : Cond.code ⟨"WaxedPartners$Town", "<init>", "()V"⟩ prog_9_method_1_code 1 none ∈ gT := gT_in (tb_1 _ (List.mem_of_getElem? (i := 53) (by decide +kernel))) rfl
theorem wd_1_23 : Cond.code ⟨"WaxedPartners", "<init>", "()V"⟩ prog_1_method_1_code 2 none ∈ gT := gT_in (tb_1 _ (List.mem_of_getElem? (i := 23) (by decide +kernel))) rfl
theorem wd_5_215 : Cond.code ⟨"WaxedPartnersModel", "<init>", "()V"⟩ prog_11_method_1_code 2 none ∈ gT := gT_in (tb_5 _ (List.mem_of_getElem? (i := 215) (by decide +kernel))) rfl
theorem wd_1_25 : Cond.instanceMethod ⟨"java/lang/Object", "<init>", "()V"⟩ ∈ gT := gT_in (tb_1 _ (List.mem_of_getElem? (i := 25) (by decide +kernel))) rfl
theorem wd_1_26 : Cond.code ⟨"java/lang/Object", "<init>", "()V"⟩ object_method_1_code 1 none ∈ gT := gT_in (tb_1 _ (List.mem_of_getElem? (i := 26) (by decide +kernel))) rfl
def YX0_init : gY := (yX0_init, cX0_init, 1, none)
theorem cal_X0_init : gCal YX0_init 0 := ⟨wd_1_59, wd_1_5, by decide, by decide +kernel, by decide +kernel, by decide +kernel⟩
def YX1_init : gY := (yX1_init, cX1_init, 1, none)
theorem cal_X1_init : gCal YX1_init 0 := ⟨wd_2_91, wd_1_8, by decide, by decide +kernel, by decide +kernel, by decide +kernel⟩
def YX2_init : gY := (yX2_init, cX2_init, 1, none)
theorem cal_X2_init : gCal YX2_init 0 := ⟨wd_2_18, wd_1_7, by decide, by decide +kernel, by decide +kernel, by decide +kernel⟩
def YX3_init : gY := (yX3_init, cX3_init, 1, none)
theorem cal_X3_init : gCal YX3_init 0 := ⟨wd_2_106, wd_1_9, by decide, by decide +kernel, by decide +kernel, by decide +kernel⟩
def YX4_init : gY := (yX4_init, cX4_init, 1, none)
theorem cal_X4_init : gCal YX4_init 0 := ⟨wd_1_233, wd_1_6, by decide, by decide +kernel, by decide +kernel, by decide +kernel⟩
def YX5_init : gY := (yX5_init, cX5_init, 1, none)
theorem cal_X5_init : gCal YX5_init 0 := ⟨wd_1_31, wd_1_2, by decide, by decide +kernel, by decide +kernel, by decide +kernel⟩
def YX6_init : gY := (yX6_init, cX6_init, 1, none)
theorem cal_X6_init : gCal YX6_init 0 := ⟨wd_1_37, wd_1_3, by decide, by decide +kernel, by decide +kernel, by decide +kernel⟩
def YX7_init : gY := (yX7_init, cX7_init, 1, none)
theorem cal_X7_init : gCal YX7_init 0 := ⟨wd_1_53, wd_1_4, by decide, by decide +kernel, by decide +kernel, by decide +kernel⟩
def YX8_init : gY := (yX8_init, cX8_init, 2, none)
theorem cal_X8_init : gCal YX8_init 0 := ⟨wd_1_23, wd_1_1, by decide, by decide +kernel, by decide +kernel, by decide +kernel⟩
def YX9_init : gY := (yX9_init, cX9_init, 2, none)
theorem cal_X9_init : gCal YX9_init 0 := ⟨wd_5_215, wd_1_10, by decide, by decide +kernel, by decide +kernel, by decide +kernel⟩
theorem kObjI : Cond.instanceMethod objectInit ∈ gT := wd_1_25
theorem kObjC : Cond.code objectInit ⟨#[0xb1]⟩ 1 none ∈ gT := wd_1_26
