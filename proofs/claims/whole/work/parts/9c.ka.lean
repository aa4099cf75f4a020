/-! Constructors: worlds that grow. -/
def kTys (cA : Nat → ClassId) : List (ClassId × FieldType) := [(cA 0, .int), (cA 1, .byte), (cA 2, .boolean), (cA 3, .long), (cA 4, .object RX4), (cA 5, .object RX7), (cA 6, .array .int)]
theorem va_AOA_moved {t : FieldType} {u U : State} (hvm : u.vm.Alike U.vm) (h : va_AOA t u) : va_AOA t U := by
  have h1 : (Cond.arrayOver (.array t)).before #[] (u.setVm U.vm) = true := by rw [Cond.arrayOver_setVmC hvm]; exact h
  unfold va_AOA
  simp only [Cond.before, Cond.holds, Cond.value] at h1 ⊢
  exact h1
def kZ (U : State) : Prop := (∀ w ∈ gNst, va_Nw w U) ∧ va_AO RX4 U ∧ va_AO RX7 U ∧ va_AOA .int U
theorem kZ_moved {u U : State} (hvm : u.vm.Alike U.vm) (hw : ∀ w, w ∈ gNst → va_Nw w u → va_Nw w U) (h : kZ u) : kZ U := ⟨fun w hm => hw w hm (h.1 w hm), va_AO.moved hvm h.2.1, va_AO.moved hvm h.2.2.1, va_AOA_moved hvm h.2.2.2⟩
theorem kj {A0 : Nat → Prop} {D : va_G} {cl : List vw_C} {X wc w1 : va_W} {H H1 : Heap} (hP : va_P D cl (X ++ wc) H) (hD : va_D A0 (X ++ wc)) (hk : ∀ q : Nat, q < H.size → ¬ va_A wc H.size q → H1[q]? = H[q]?) (hF : ∀ q, va_A wc H.size q → A0 q) (hP1 : va_P D cl w1 H1) (hD1 : va_D (va_A wc H.size) w1) : va_P D cl (X ++ w1) H1 ∧ va_D A0 (X ++ w1) := by
  have hX : ∀ (k : Nat) (q : Nat × va_E), X[k]? = some q → (X ++ wc)[k]? = some q := fun k q h => by rw [List.getElem?_append_left (List.getElem?_eq_some_iff.mp h).1]; exact h
  have apart : ∀ (k : Nat) (q : Nat × va_E), X[k]? = some q → q.1 < H.size ∧ ¬ va_A wc H.size q.1 := by
    intro k q hq
    have hl := (hP k q (hX k q hq)).lt
    refine ⟨hl, fun h => ?_⟩
    rcases h with ⟨k2, e, h⟩ | h
    · have h4 : (X ++ wc)[X.length + k2]? = some (q.1, e) := by rw [List.getElem?_append_right (by omega), Nat.add_sub_cancel_left]; exact h
      have e1 := hD.1 k (X.length + k2) q (q.1, e) (hX k q hq) h4 rfl
      have e2 := (List.getElem?_eq_some_iff.mp hq).1
      omega
    · omega
  have hDX : va_D A0 X := ⟨fun i j p q hi hj => hD.1 i j p q (hX i p hi) (hX j q hj), fun k q hk => hD.2 k q (hX k q hk)⟩
  exact ⟨va_P.app (fun k q hq => (hP k q (hX k q hq)).kept (hk q.1 (apart k q hq).1 (apart k q hq).2)) hP1, va_D.app hDX (hD1.weaken (fun k q _ h => hF q.1 h)) (fun i j x y hx hy hxy => (apart i x hx).2 (by rw [hxy]; exact hD1.2 j y hy))⟩
theorem k_last {D : va_G} {cl : List vw_C} {X : va_W} {q : Nat} {d : va_E} {H : Heap} (h : va_P D cl (X ++ [(q, d)]) H) : va_P D cl [(q, d)] H := fun k x hx => by
  have hk : k < 1 := (List.getElem?_eq_some_iff.mp hx).1
  refine h (X.length + k) x ?_
  rw [List.getElem?_append_right (by omega), Nat.add_sub_cancel_left]; exact hx
theorem k_lastD {A : Nat → Prop} {X : va_W} {q : Nat} {d : va_E} (h : va_D A (X ++ [(q, d)])) : va_D (fun _ => True) [(q, d)] := ⟨fun i j p r hi hj _ => by
  have h1 := (List.getElem?_eq_some_iff.mp hi).1
  have h2 := (List.getElem?_eq_some_iff.mp hj).1
  simp only [List.length_singleton] at h1 h2
  omega, fun _ _ _ => trivial⟩
/-- a constructor's start, and its end -/
def kPre (D : va_G) (cA : Nat → ClassId) (h0 sz : Nat) (d : va_E) (U : State) : Prop := U.heap.size = sz ∧ va_P D vwCl [(h0, d)] U.heap ∧ va_K D vwCl (kTys cA) U ∧ va_D (fun _ => True) [(h0, d)] ∧ kZ U
def kQ (D : va_G) (cA : Nat → ClassId) (h0 sz : Nat) (d : va_E) (wX : (Nat → ClassId) → (Nat → Nat) → va_W) : Array Value → State → Outcome → State → Prop :=
  va_Qv (fun f : Nat → Nat => f 0 = h0) (fun f t => va_P D vwCl (wX cA f) t.heap ∧ va_D (va_A [(h0, d)] sz) (wX cA f)) (va_A [(h0, d)] sz)
def kRm (n mc ms : Nat) : Room := { frames := n, cells := mc, slots := ms, locals := 64 * n }
def kMet (Y : gY) (n mc ms : Nat) (d : va_E) (wX : (Nat → ClassId) → (Nat → Nat) → va_W) : Prop :=
  ∀ (l : Launch) (D : va_G) (cA : Nat → ClassId) (h0 sz : Nat), Met l Y.1 (gWd Y) (kRm n mc ms) (va_Pc [.ref h0] (kPre D cA h0 sz d)) (kQ D cA h0 sz d wX) mc ms (va_A [(h0, d)] sz)
theorem kPre_blind {D : va_G} {cA : Nat → ClassId} {h0 sz : Nat} {d : va_E} : FrameBlind (va_Pc [.ref h0] (kPre D cA h0 sz d)) := by
  intro a U g mk h
  obtain ⟨e, h1, hP, hK, hD, hZ⟩ := h
  exact ⟨e, h1, hP, va_K.moved (u := U) (U := U.calling g mk a) (Vm.Alike.refl U.vm) hK, hD, kZ_moved (u := U) (U := U.calling g mk a) (Vm.Alike.refl U.vm) (gNw_same rfl) hZ⟩
def kCx (own : String) (cc : ByteArray) (nL : Nat) (p : Program) (s : State) (m : MethodId) (args : Array Value) (c : Code) (D : va_G) (cA : Nat → ClassId) : Prop :=
  p.tables.exec = Jvm.exec ∧ c.code = cc ∧ c.maxLocals = nL ∧ s.vm.findClass own = some m.cls ∧ (∀ w ∈ gT, w.before args s = true) ∧ va_K D vwCl (kTys cA) s ∧ kZ s
/-- at pc, over the world X -/
def kW (p : Program) (l : Launch) (e : Env) (R : Room) (s : State) (m : MethodId) (args : Array Value) (below : List Frame) (meth : Method) (c : Code) (D : va_G) (A : Nat → Prop) (Q : State → Prop) (cells slots pc : Nat) (ls : Array Slot) (st : List Value) (X : va_W) : Prop :=
  ∀ (H : Heap) (locs : List Loc), va_P D vwCl X H → va_D A X → va_S A s.heap H locs → W p l e R s m args below meth c H locs cells slots Q (F0 m pc ls st)
section KWS
variable {p : Program} {l : Launch} {e : Env} {R : Room} {s : State} {m : MethodId} {args : Array Value} {below : List Frame} {meth : Method} {c : Code} {D : va_G} {cA : Nat → ClassId} {A : Nat → Prop} {Q : State → Prop}
variable {own : String} {cc : ByteArray} {nL cells slots pc : Nat} {ls : Array Slot} {st : List Value} {X : va_W}
theorem k_al {h0 i : Nat} {k0 : Fin 4} (C : kCx own cc nL p s m args c D cA) (hl : ls[i]? = some (.val (.ref h0))) (hi : (k0 : Nat) = i) (d : decode cc pc = .ok (.aload_n k0, 1)) (k : kW p l e R s m args below meth c D A Q cells slots (pc + 1) ls (.ref h0 :: st) X) : kW p l e R s m args below meth c D A Q cells slots pc ls st X :=
  fun H locs hP hD hS => lv_aload_n C.1 C.2.1 d hi hl (k H locs hP hD hS)
theorem k_il {x : Int32} {i : Nat} {k0 : Fin 4} (C : kCx own cc nL p s m args c D cA) (hl : ls[i]? = some (.val (.int x))) (hi : (k0 : Nat) = i) (d : decode cc pc = .ok (.iload_n k0, 1)) (k : kW p l e R s m args below meth c D A Q cells slots (pc + 1) ls (.int x :: st) X) : kW p l e R s m args below meth c D A Q cells slots pc ls st X :=
  fun H locs hP hD hS => lv_iload_n C.1 C.2.1 d hi hl (k H locs hP hD hS)
theorem k_ic {n : Int} {v : Int32} (C : kCx own cc nL p s m args c D cA) (d : decode cc pc = .ok (.iconst n, 1)) (hv : Int32.ofInt n = v) (k : kW p l e R s m args below meth c D A Q cells slots (pc + 1) ls (.int v :: st) X) : kW p l e R s m args below meth c D A Q cells slots pc ls st X :=
  fun H locs hP hD hS => lv_iconst C.1 C.2.1 d hv (k H locs hP hD hS)
theorem k_bp {n : Int} {v : Int32} (C : kCx own cc nL p s m args c D cA) (d : decode cc pc = .ok (.bipush n, 2)) (hv : (Int8.ofInt n).toInt32 = v) (k : kW p l e R s m args below meth c D A Q cells slots (pc + 2) ls (.int v :: st) X) : kW p l e R s m args below meth c D A Q cells slots pc ls st X :=
  fun H locs hP hD hS => lv_bipush C.1 C.2.1 d hv (k H locs hP hD hS)
theorem k_sp {n : Int} {v : Int32} (C : kCx own cc nL p s m args c D cA) (d : decode cc pc = .ok (.sipush n, 3)) (hv : (Int16.ofInt n).toInt32 = v) (k : kW p l e R s m args below meth c D A Q cells slots (pc + 3) ls (.int v :: st) X) : kW p l e R s m args below meth c D A Q cells slots pc ls st X :=
  fun H locs hP hD hS => lv_sipush C.1 C.2.1 d hv (k H locs hP hD hS)
theorem k_gt {off : Int} {tgt : Nat} (C : kCx own cc nL p s m args c D cA) (d : decode cc pc = .ok (.goto off, 3)) (ht : (pc : Int) + off = (tgt : Int)) (k : kW p l e R s m args below meth c D A Q cells slots tgt ls st X) : kW p l e R s m args below meth c D A Q cells slots pc ls st X :=
  fun H locs hP hD hS => lv_goto C.1 C.2.1 d ht (k H locs hP hD hS)
/-- Object.<init> -/
theorem k_obj {h0 idx : Nat} (C : kCx own cc nL p s m args c D cA) (h1 : Cond.methodLink own idx objectInit ∈ gT) (h2 : Cond.instanceMethod objectInit ∈ gT) (h3 : Cond.code objectInit ⟨#[0xb1]⟩ 1 none ∈ gT) (hz : ls.size = nL) (d : decode cc pc = .ok (.invokespecial idx, 3)) (hR : 1 ≤ R.frames ∧ 12 ≤ R.locals) (k : kW p l e R s m args below meth c D A Q cells slots (pc + 3) ls [] X) : kW p l e R s m args below meth c D A Q cells slots pc ls [.ref h0] X :=
  fun H locs hP hD hS => W.objInit C.1 C.2.1 C.2.2.2.1 (C.2.2.2.2.1 _ h1) (C.2.2.2.2.1 _ h2) (C.2.2.2.2.1 _ h3) rfl (by rw [C.2.2.1]; exact hz) rfl d hR.1 hR.2 (k H locs hP hD hS)
/-- a new row of numbers -/
theorem k_na {atype : ArrayType} {ty : FieldType} {i N' : Nat} {n : Int32} {a0 : vp_A} (C : kCx own cc nL p s m args c D cA) (hA : ∀ q, s.heap.size ≤ q → A q) (hw : Cond.arrayClass (newarray.typeOf atype) ∈ gT) (hty : newarray.typeOf atype = ty) (hi : (kTys cA)[i]? = some (cA i, ty)) (hra : ∀ c : ClassId, va_RA s c ty → s.vm.findClass ("[" ++ ty.toString) = some c)
    (ha : ∀ cB : ClassId, vp_cell cB a0 = arrV cB N' (fun _ => defaultValue ty)) (hn : ¬ n < 0) (hN : n.toNatClampNeg = N') (hbytes : N' * componentBytes ty ≤ 536870912) (hcells : cells + 1 ≤ R.cells) (hslots : slots + N' ≤ R.slots) (d : decode cc pc = .ok (.newarray atype, 2))
    (k : ∀ q : Nat, kW p l e R s m args below meth c D A Q (cells + 1) (slots + N') (pc + 2) ls (.ref q :: st) (X ++ [(q, .inl (cA i, a0))])) : kW p l e R s m args below meth c D A Q cells slots pc ls (.int n :: st) X := by
  intro H locs hP hD hS
  refine va_newa C.1 C.2.1 (C.2.2.2.2.1 _ hw) hty C.2.2.2.2.2.1 hP hD hS hA ha hn hN hbytes hcells hslots d (fun q cB H1 hK1 hP1 hD1 hS1 => ?_)
  have e1 := hra _ (C.2.2.2.2.2.1.2 i _ hi).2
  have e2 := hra _ (hK1.2 7 (cB, ty) rfl).2
  have e : cB = cA i := Option.some.inj (e2.symm.trans e1)
  subst e
  exact k q H1 locs hP1 hD1 hS1
/-- a new row of references -/
theorem k_nq {E : String} {i idx N' : Nat} {n : Int32} (C : kCx own cc nL p s m args c D cA) (hA : ∀ q, s.heap.size ≤ q → A q) (hcl : Cond.classLink own idx E ∈ gT) (hover : va_AO E s) (hi : (kTys cA)[i]? = some (cA i, .object E)) (hn : ¬ n < 0) (hN : n.toNatClampNeg = N') (hbytes : N' * 4 ≤ 536870912) (hcells : cells + 1 ≤ R.cells) (hslots : slots + N' ≤ R.slots) (d : decode cc pc = .ok (.anewarray idx, 3))
    (k : ∀ q : Nat, kW p l e R s m args below meth c D A Q (cells + 1) (slots + N') (pc + 3) ls (.ref q :: st) (X ++ [(q, .inl (cA i, N', .inr (.inr (.inr (.inr (fun _ => none))))))])) : kW p l e R s m args below meth c D A Q cells slots pc ls (.int n :: st) X := by
  intro H locs hP hD hS
  refine va_newq C.1 C.2.1 C.2.2.2.1 (C.2.2.2.2.1 _ hcl) hover C.2.2.2.2.2.1 hP hD hS hA hn hN hbytes hcells hslots d (fun q cB H1 hK1 hP1 hD1 hS1 => ?_)
  obtain ⟨_, _, _, _, _, e1⟩ := (C.2.2.2.2.2.1.2 i _ hi).2
  obtain ⟨_, _, _, _, _, e2⟩ := (hK1.2 7 (cB, .object E) rfl).2
  have e : cB = cA i := Option.some.inj (e2.symm.trans e1)
  subst e
  exact k q H1 locs hP1 hD1 hS1
/-- a new int[12][6] -/
theorem k_mn {idx : Nat} (C : kCx own cc nL p s m args c D cA) (hA : ∀ q, s.heap.size ≤ q → A q) (hcl : Cond.classLink own idx "[[I" ∈ gT) (hw : Cond.arrayClass .int ∈ gT) (hcells : cells + 13 ≤ R.cells) (hslots : slots + 84 ≤ R.slots) (d : decode cc pc = .ok (.multianewarray idx 2, 4))
    (k : ∀ (q : Nat) (r : Nat → Nat), kW p l e R s m args below meth c D A Q (cells + 13) (slots + 84) (pc + 4) ls (.ref q :: st) (X ++ ((q, .inl (cA 6, 12, .inr (.inr (.inr (.inr (fun i => if i < 12 then some (r i) else none)))))) :: (List.range 12).map (fun i => (r i, .inl (cA 0, 6, .inl (fun _ => 0))))))) : kW p l e R s m args below meth c D A Q cells slots pc ls (.int 6 :: .int 12 :: st) X := by
  intro H locs hP hD hS
  have hX : X ++ va_pl [] (fun _ => .inr (0, [])) = X := by unfold va_pl; rw [List.map_nil, List.append_nil]
  have hI : s.vm.findClass (FieldType.array .int).toString = some (cA 0) := (C.2.2.2.2.2.1.2 0 (cA 0, .int) rfl).2
  refine va_mna (X := X) (L := []) (f := fun _ => .inr (0, [])) (ty := .int) (cy := cA 0) (N' := 12) (K' := 6) (z := (6, .inl (fun _ => 0))) C.1 C.2.1 C.2.2.2.1 (C.2.2.2.2.1 _ hcl) C.2.2.2.2.2.2.2.2.2 (C.2.2.2.2.1 _ hw) hI C.2.2.2.2.2.1 (by rw [hX]; exact hP) (by rw [hX]; exact hD) hS hA (by decide) (by decide) (by decide) (by decide) (by decide) (by decide) (by decide) rfl rfl (by omega) (by omega) (fun c => ?_) d (fun q r cB H1 hr _ hK1 hP1 hD1 hS1 => ?_)
  · rw [show vp_cell c (6, .inl (fun _ => 0)) = arrV c 6 (fun _ => .int 0) from rfl, ← arrV_new]; rfl
  · have e1 := (C.2.2.2.2.2.1.2 6 (cA 6, .array .int) rfl).2
    have e2 := (hK1.2 7 (cB, .array .int) rfl).2
    have e : cB = cA 6 := Option.some.inj (e2.symm.trans e1)
    subst e
    have hrow : va_pl ([] ++ (List.range 12).map r) (vr_up (fun _ => .inr (0, [])) ((List.range 12).map r) (.inl (cA 0, 6, .inl (fun _ => 0)))) = (List.range 12).map (fun i => (r i, .inl (cA 0, 6, .inl (fun _ => 0)))) := by
      unfold va_pl
      rw [List.nil_append, List.map_map]
      refine List.map_congr_left (fun i hi => ?_)
      show (r i, vr_up _ _ _ (r i)) = _
      rw [vr_up_in (List.mem_map.mpr ⟨i, hi, rfl⟩)]
    rw [hrow, List.append_assoc] at hP1 hD1
    exact k q r H1 locs hP1 hD1 hS1
/-- a field of the one that is made: final, or not -/
theorem k_pf {h0 ci j idx : Nat} {fs : List Value} {v : Value} {ty : FieldType} (C : kCx own cc nL p s m args c D cA) (hck : gCk ci) (hj : j < gNf ci) (hw : Cond.fieldLink own idx ((gC ci).2.1 j).1 ((gC ci).2.1 j).2.1 ((gC ci).2.1 j).2.2.1 ∈ gT) (hfin : ((gC ci).2.1 j).2.2.2 = true) (hin2 : meth.name = "<init>") (hdecl : ((gC ci).2.1 j).1 = own) (hty : parseFieldDescriptor ((gC ci).2.1 j).2.2.1 = some ty) (hn : narrow ty v = v) (hfit : fits ty v = true) (hl : j < fs.length) (d : decode cc pc = .ok (.putfield idx, 3))
    (k : kW p l e R s m args below meth c D A Q cells slots (pc + 3) ls st ((h0, .inr (ci, fs.set j v)) :: X)) : kW p l e R s m args below meth c D A Q cells slots pc ls (v :: .ref h0 :: st) ((h0, .inr (ci, fs)) :: X) :=
  fun H locs hP hD hS => va_putF C.1 C.2.1 (ref := ((gC ci).2.1 j).1) C.2.2.2.2.1 hck.2.1 (gTy ci) hck.2.2.1 hck.2.2.2 C.2.2.2.1 C.2.2.2.2.2.1 hP hD hS 0 rfl hck.1 j hj (C.2.2.2.2.1 _ hw) (fun x h => h) hfin hin2 hdecl hty hn hfit hl d (fun H1 locs1 hP1 hD1 hS1 => k H1 locs1 hP1 hD1 hS1)
theorem k_pp {h0 ci j idx : Nat} {fs : List Value} {v : Value} {ty : FieldType} (C : kCx own cc nL p s m args c D cA) (hck : gCk ci) (hj : j < gNf ci) (hw : Cond.fieldLink own idx ((gC ci).2.1 j).1 ((gC ci).2.1 j).2.1 ((gC ci).2.1 j).2.2.1 ∈ gT) (hfin : ((gC ci).2.1 j).2.2.2 = false) (hty : parseFieldDescriptor ((gC ci).2.1 j).2.2.1 = some ty) (hn : narrow ty v = v) (hfit : fits ty v = true) (hl : j < fs.length) (d : decode cc pc = .ok (.putfield idx, 3))
    (k : kW p l e R s m args below meth c D A Q cells slots (pc + 3) ls st ((h0, .inr (ci, fs.set j v)) :: X)) : kW p l e R s m args below meth c D A Q cells slots pc ls (v :: .ref h0 :: st) ((h0, .inr (ci, fs)) :: X) :=
  fun H locs hP hD hS => va_put C.1 C.2.1 (ref := ((gC ci).2.1 j).1) C.2.2.2.2.1 hck.2.1 (gTy ci) hck.2.2.1 hck.2.2.2 C.2.2.2.1 C.2.2.2.2.2.1 hP hD hS 0 rfl hck.1 j hj (C.2.2.2.2.1 _ hw) (fun x h => h) hfin hty hn hfit hl d (fun H1 locs1 hP1 hD1 hS1 => k H1 locs1 hP1 hD1 hS1)
theorem k_gf {h0 ci j idx : Nat} {fs : List Value} {v : Value} (C : kCx own cc nL p s m args c D cA) (hck : gCk ci) (hj : j < gNf ci) (hw : Cond.fieldLink own idx ((gC ci).2.1 j).1 ((gC ci).2.1 j).2.1 ((gC ci).2.1 j).2.2.1 ∈ gT) (hv : fs[j]? = some v) (d : decode cc pc = .ok (.getfield idx, 3))
    (k : kW p l e R s m args below meth c D A Q cells slots (pc + 3) ls (v :: st) ((h0, .inr (ci, fs)) :: X)) : kW p l e R s m args below meth c D A Q cells slots pc ls (.ref h0 :: st) ((h0, .inr (ci, fs)) :: X) :=
  fun H locs hP hD hS => va_get C.1 C.2.1 (ref := ((gC ci).2.1 j).1) C.2.2.2.2.1 hck.2.1 C.2.2.2.1 C.2.2.2.2.2.1 hP 0 rfl hck.1 j hj (C.2.2.2.2.1 _ hw) (fun x h => h) hv d (k H locs hP hD hS)
/-- new, dup, <init> (a nest mate's) -/
theorem k_nw {ci idx1 idx2 n mc ms : Nat} {fs : List Value} {Y' : gY} {wX : (Nat → ClassId) → (Nat → Nat) → va_W} {host : String} (C : kCx own cc nL p s m args c D cA) (hA : ∀ q, s.heap.size ≤ q → A q) (hck : gCk ci) (hcl : Cond.classLink own idx1 (gC ci).1 ∈ gT) (hinst : Cond.instantiable (gC ci).1 (gNf ci) ∈ gT) (hini : Cond.initialized (gC ci).1 ∈ gT) (hfs : ∀ j, j < gNf ci → defaultValue (gTy ci j) = vp_V fs j)
    (hM : kMet Y' n mc ms (.inr (ci, fs)) wX) (hcal : gCal Y' 0) (hY : Y'.1.name = "<init>") (hret : Y'.2.2.2 = none) (hnest : Cond.methodLinkNest own idx2 Y'.1 host ∈ gNst) (hin : Cond.instanceMethod Y'.1 ∈ gT) (hR : n + 1 ≤ R.frames ∧ 64 * (n + 1) ≤ R.locals) (hcells : cells + 1 + mc ≤ R.cells) (hslots : slots + gNf ci + ms ≤ R.slots) (hz : ls.size = nL) (hst : ((Value.ref 0 :: st).map fun v => v.category).sum ≤ 8)
    (d1 : decode cc pc = .ok (.new idx1, 3)) (d2 : decode cc (pc + 3) = .ok (.dup, 1)) (d3 : decode cc (pc + 4) = .ok (.invokespecial idx2, 3))
    (k : ∀ f : Nat → Nat, kW p l e R s m args below meth c D A Q (cells + 1 + mc) (slots + gNf ci + ms) (pc + 7) ls (.ref (f 0) :: st) (X ++ wX cA f)) : kW p l e R s m args below meth c D A Q cells slots pc ls st X := by
  obtain ⟨c1, c2, c3, c4⟩ := hcal
  intro H locs hP hD hS
  have hts := C.2.2.2.2.1
  refine va_new (ci := ci) (fs := fs) C.1 C.2.1 hts hck.2.1 (gTy ci) hck.2.2.1 C.2.2.2.1 (hts _ hcl) (hts _ hinst) (hts _ hini) C.2.2.2.2.2.1 hP hD hS hA hck.1 hfs (by omega) (by omega) d1 (fun q H1 hP1 hD1 hS1 => ?_)
  refine lv_dup C.1 C.2.1 d2 rfl ?_
  have hF : ∀ x, va_A [(q, .inr (ci, fs))] H1.size x → A x := fun x hx => by
    rcases hx with ⟨k2, e2, h⟩ | h
    · have hk2 : k2 < 1 := (List.getElem?_eq_some_iff.mp h).1
      refine hD1.2 (X.length + k2) (x, e2) ?_
      rw [List.getElem?_append_right (by omega), Nat.add_sub_cancel_left]; exact h
    · exact hA x (Nat.le_trans hS1.1 h)
  refine va_callv (va_runIN (host := host) (As := []) (rest := .ref q :: st) ⟨C.1, C.2.1, C.2.2.1, C.2.2.2.1, hts⟩ (hM l D cA q H1.size) ⟨va_cnB (ret := none) (bytes := Y'.2.1) (maxL := Y'.2.2.1) 0 hts (gWd_good c1) (by unfold gWd; rw [hret]) rfl rfl (C.2.2.2.2.2.2.1 _ hnest) (hts _ c2) c4 ⟨hR.1, by show 8 + (Y'.2.2.1 + 11) + 64 * n ≤ _; omega⟩, hY, hts _ hin⟩ ⟨kPre_blind, fun U hU hW => ⟨rfl, by rw [hU], by rw [hU]; exact k_last hP1, va_K.moved hW.alike C.2.2.2.2.2.1, k_lastD hD1, kZ_moved hW.alike (gNw_warm hW) C.2.2.2.2.2.2⟩⟩ rfl rfl hz rfl (lv_room (st := .ref q :: st) hst) d3 ⟨hcells, hslots⟩) hS1 (fun x _ h => hF x h) hF (fun f t H2 locs2 ht hvm hw hB hz1 hk1 hS2 => ?_)
  obtain ⟨hP2, hD2⟩ := hB
  rw [ht] at hP2
  obtain ⟨hP3, hD3⟩ := kj hP1 hD1 hk1 hF hP2 hD2
  have hk := k f H2 locs2 hP3 hD3 hS2
  rw [show f 0 = q from hw] at hk
  exact hk
end KWS
/-- a constructor out of its body -/
theorem kMet_of {Y : gY} {n mc ms : Nat} {d : va_E} {wX : (Nat → ClassId) → (Nat → Nat) → va_W} (hy : plainFor Y.1 = true) (hL : 1 ≤ Y.2.2.1) (hY : Y.1.name = "<init>")
    (h : ∀ (p : Program) (l : Launch) (e : Env) (s : State) (m : MethodId) (args : Array Value) (below : List Frame) (meth : Method) (c : Code) (D : va_G) (cA : Nat → ClassId) (h0 : Nat) (A : Nat → Prop), kCx Y.1.cls Y.2.1 Y.2.2.1 p s m args c D cA → meth.sig.returnType = Y.2.2.2 → meth.locks = false → meth.name = "<init>" → (∀ q, s.heap.size ≤ q → A q) → A = va_A [(h0, d)] s.heap.size →
      ∀ ls : Array Slot, lv_has ls Y.2.2.1 [(0, .ref h0)] → kW p l e (kRm n mc ms) s m args below meth c D A (MQ below (kQ D cA h0 s.heap.size d wX) args s mc ms A) 0 0 0 ls [] [(h0, d)]) : kMet Y n mc ms d wX := by
  intro l D cA h0 sz
  refine gMet (cc := Y.2.1) (maxL := Y.2.2.1) (ret := Y.2.2.2) hy rfl ?_
  intro p e s m args below meth c s₁ B hml hv
  obtain ⟨rfl, hsz, hP, hK, hD0, hZ⟩ := hv
  have hx := B.exec
  have hb := B.bytes
  have hr := B.returns
  have hts := atoms_spec (ws := gWd Y) B.pre
  have hown : s.vm.findClass Y.1.cls = some m.cls := findClass_of_methodNamed B.named
  have hlocks := B.notSynchronized
  have hin : meth.name = Y.1.name := (name_of_methodNamed B.named B.method).1
  subst hsz
  have hl := lv_entry ([.ref h0]) (n := Y.2.2.1) hL
  rw [lg_entry_eq]
  generalize (lg_sl ([.ref h0]) ++ List.replicate (Y.2.2.1 - (lg_sl ([.ref h0])).length) Slot.unset).toArray = ls at hl ⊢
  exact h p l e s m _ below meth c D cA h0 _ ⟨hx, hb, hml, hown, fun w hw => hts w (List.mem_cons_of_mem _ hw), hK, hZ⟩ hr hlocks (hin.trans hY) (fun q h => Or.inr h) rfl ls hl s.heap [] hP (hD0.self (sz := s.heap.size)) va_S.rf
theorem k_ret {p : Program} {l : Launch} {e : Env} {R : Room} {s : State} {m : MethodId} {args : Array Value} {below : List Frame} {meth : Method} {c : Code} {D : va_G} {cA : Nat → ClassId} {A : Nat → Prop} {own : String} {cc : ByteArray} {nL pc mc ms h0 : Nat} {ls : Array Slot} {X : va_W} {d : va_E} {wX : (Nat → ClassId) → (Nat → Nat) → va_W} (f : Nat → Nat) (C : kCx own cc nL p s m args c D cA) (hr : meth.sig.returnType = none) (hlk : meth.locks = false) (hA : A = va_A [(h0, d)] s.heap.size) (hd : decode cc pc = .ok (.return_, 1)) (h0f : f 0 = h0) (hX : X = wX cA f) : kW p l e R s m args below meth c D A (MQ below (kQ D cA h0 s.heap.size d wX) args s mc ms A) mc ms pc ls [] X := by
  intro H locs hP hD hS
  subst hX
  subst hA
  exact W.vret C.1 C.2.1 hr (fun t ht hW => ⟨⟨f, rfl, h0f, by rw [ht]; exact hP, hD⟩, hS.F ht⟩) hS.2.2 hd hlk
