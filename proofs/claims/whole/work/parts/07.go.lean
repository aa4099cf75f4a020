/-! Runs of whole methods over the small machine. -/
abbrev gY : Type := MethodName × ByteArray × Nat × Option FieldType
def gRm (d : Nat) : Room := { frames := d + 1, cells := 0, slots := 0, locals := 64 * (d + 1) }
def gPre (G : gG) (M : gMem) (U : State) : Prop := va_P G.1 vwCl (gWs G M) U.heap ∧ va_K G.1 vwCl (gTys G) U ∧ gInj G ∧ gZ G U
def gQ (G : gG) (Z : Option Value → gMem → Prop) : Array Value → State → Outcome → State → Prop := fun _ st oc t => (∃ (r : Option Value) (M' : gMem), oc = .returned (r.map (gRl G)) ∧ Z r M' ∧ va_P G.1 vwCl (gWs G M') t.heap) ∧ va_F (gA G) st t
def gWd (Y : gY) : List Cond := .code Y.1 Y.2.1 Y.2.2.1 Y.2.2.2 :: gT
/-- method Y, called with vs over the memory M, returns r and leaves M' with Z r M' -/
def gRun (G : gG) (Y : gY) (d : Nat) (vs : List Value) (M : gMem) (Z : Option Value → gMem → Prop) : Prop := ∀ (l : Launch) (d' : Nat), d ≤ d' → Met l Y.1 (gWd Y) (gRm d') (va_Pc (vs.map (gRl G)) (gPre G M)) (gQ G Z) 0 0 (gA G)
def gGo (G : gG) (Y : gY) (d : Nat) (Z : Option Value → gMem → Prop) (pc : Nat) (L : gLoc) (S : List Value) (M : gMem) : Prop :=
  ∀ (p : Program) (l : Launch) (e : Env) (s : State) (m : MethodId) (args : Array Value) (below : List Frame) (meth : Method) (c : Code), gCx Y.1.cls Y.2.1 Y.2.2.1 p (gRm d) s m args c 0 0 G → meth.sig.returnType = Y.2.2.2 → meth.locks = false →
  gW Y.2.2.1 p l e (gRm d) s m args below meth c 0 0 (MQ below (gQ G Z) args s 0 0 (gA G)) G pc L S M
theorem gZ_moved {G : gG} {u U : State} (hvm : u.vm.Alike U.vm) (hw : ∀ w, w ∈ gNst → va_Nw w u → va_Nw w U) (hw2 : ∀ w, w ∈ gNsf → va_Nw w u → va_Nw w U) (hw3 : ∀ (own tx : String) (k a : Nat), vk_R own k tx a u → vk_R own k tx a U) (hq : ∀ a : Nat, a < u.heap.size → ¬ gA G a → U.heap[a]? = u.heap[a]?) (h : gZ G u) : gZ G U := by
  obtain ⟨h1, h2, h3, h4, h5, h6, h7, h8⟩ := h
  exact ⟨(va_Z.moved hvm h1).kept hq, (va_T.moved hvm h2).kept hq, fun w hm => hw w hm (h3 w hm), fun w hm => hw2 w hm (h4 w hm), (va_Z.moved hvm h5).kept hq, h6.elim (fun h => Or.inl ((va_Z.moved hvm h).kept hq)) (fun h => Or.inr ((va_Z.moved hvm h).kept hq)), (vk_S.moved hvm h7).kept hq, fun i hi => hw3 _ _ _ _ (h8 i hi)⟩
theorem gNw_warm {s U : State} (hW : s.WarmedH U.vm) (w : Cond) (hm : w ∈ gNst) (h : va_Nw w s) : va_Nw w U := by
  have hf := (List.mem_filter.mp hm).2
  cases w with
  | methodLinkNest a i x g => exact va_Nw.warmM hW h
  | _ => simp at hf
theorem gNf_warm {s U : State} (hW : s.WarmedH U.vm) (w : Cond) (hm : w ∈ gNsf) (h : va_Nw w s) : va_Nw w U := by
  have hf := (List.mem_filter.mp hm).2
  cases w with
  | fieldLinkNest a i b n d g => exact va_Nw.warmF hW h
  | _ => simp at hf
theorem gNw_same {u U : State} (hv : u.vm = U.vm) (w : Cond) (hm : w ∈ gNst) (h : va_Nw w u) : va_Nw w U := by
  have hf := (List.mem_filter.mp hm).2
  cases w with
  | methodLinkNest a i x g => exact va_Nw.same rfl hv h
  | _ => simp at hf
theorem gNf_same {u U : State} (hv : u.vm = U.vm) (w : Cond) (hm : w ∈ gNsf) (h : va_Nw w u) : va_Nw w U := by
  have hf := (List.mem_filter.mp hm).2
  cases w with
  | fieldLinkNest a i b n d g => exact va_Nw.same rfl hv h
  | _ => simp at hf
theorem gPre_blind {G : gG} {M : gMem} {vs : List Value} : FrameBlind (va_Pc (vs.map (gRl G)) (gPre G M)) := by
  intro a U g mk h
  obtain ⟨e, hP, hK, hJ, hZ⟩ := h
  exact ⟨e, hP, va_K.moved (u := U) (U := U.calling g mk a) (Vm.Alike.refl U.vm) hK, hJ, gZ_moved (u := U) (U := U.calling g mk a) (Vm.Alike.refl U.vm) (gNw_same rfl) (gNf_same rfl) (fun _ _ _ _ h => vk_R.same rfl h) (fun _ _ _ => rfl) hZ⟩
/-- the locals at a method's start -/
def gEn : Nat → List Value → gLoc
  | n, [] => List.replicate n none
  | n, v :: vs => match v with
    | .long x => some (.long x) :: none :: gEn (n - 2) vs
    | .double x => some (.double x) :: none :: gEn (n - 2) vs
    | v => some v :: gEn (n - 1) vs
theorem gEn_at {G : gG} : ∀ (vs : List Value) (n k i : Nat) (v : Value), (gEn n vs)[i]? = some (some v) → (k + i, gRl G v) ∈ lv_args k (vs.map (gRl G))
  | [], n, k, i, v, h => by
    simp only [gEn] at h
    exact absurd (List.eq_of_mem_replicate (List.mem_of_getElem? h)) (by simp)
  | w :: vs, n, k, i, v, h => by
    have two : ∀ m, w.category = 2 → (some w :: none :: gEn m vs)[i]? = some (some v) → (k + i, gRl G v) ∈ lv_args k ((w :: vs).map (gRl G)) := by
      intro m hc h
      show _ ∈ (k, gRl G w) :: lv_args (if (gRl G w).category = 2 then k + 2 else k + 1) (vs.map (gRl G))
      rw [gRl_cat, if_pos hc]
      match i, h with
      | 0, h => cases h; exact List.mem_cons_self
      | 1, h => cases h
      | i + 2, h =>
        refine List.mem_cons_of_mem _ ?_
        have := gEn_at (G := G) vs m (k + 2) i v (by simpa using h)
        rwa [show k + (i + 2) = k + 2 + i by omega]
    have one : ∀ m, ¬ w.category = 2 → (some w :: gEn m vs)[i]? = some (some v) → (k + i, gRl G v) ∈ lv_args k ((w :: vs).map (gRl G)) := by
      intro m hc h
      show _ ∈ (k, gRl G w) :: lv_args (if (gRl G w).category = 2 then k + 2 else k + 1) (vs.map (gRl G))
      rw [gRl_cat, if_neg hc]
      match i, h with
      | 0, h => cases h; exact List.mem_cons_self
      | i + 1, h =>
        refine List.mem_cons_of_mem _ ?_
        have := gEn_at (G := G) vs m (k + 1) i v (by simpa using h)
        rwa [show k + (i + 1) = k + 1 + i by omega]
    cases w with
    | long x => exact two _ rfl h
    | double x => exact two _ rfl h
    | int x => exact one _ (fun q => absurd (show (1 : Nat) = 2 from q) (by decide)) h
    | float x => exact one _ (fun q => absurd (show (1 : Nat) = 2 from q) (by decide)) h
    | ref x => exact one _ (fun q => absurd (show (1 : Nat) = 2 from q) (by decide)) h
    | null => exact one _ (fun q => absurd (show (1 : Nat) = 2 from q) (by decide)) h
    | _ => exact one _ (fun q => absurd (show (1 : Nat) = 2 from q) (by decide)) h
theorem gMet {l : Launch} {y : MethodName} {ws ws' : List Cond} {rm : Room} {Pc : Array Value → State → Prop} {Qc : Array Value → State → Outcome → State → Prop} {mc ms : Nat} {free : Addr → Prop} {cc : ByteArray} {maxL : Nat} {ret : Option FieldType}
    (hy : plainFor y = true) (hw : ws = Cond.code y cc maxL ret :: ws')
    (body : ∀ p e s m args below meth c s₁, BodyLoose p l y (headSpec ws rm) cc maxL ret e s m args below meth c s₁ → c.maxLocals = maxL → Pc args s →
      W p l e (headSpec ws rm).room s m args below meth c s.heap [] 0 0 (MQ below Qc args s mc ms free) (entryFrame m args maxL)) : Met l y ws rm Pc Qc mc ms free := by
  refine MetFree.of_bodySF (code := cc) (maxLocals := maxL) (ret := ret) hy ?_ ?_
  · intro args s m h hn
    obtain ⟨meth, c, h1, h2, h3, h4, h5, h6, -, -⟩ := Cond.code_spec hn (atoms_spec (ws := ws) h _ (by rw [hw]; exact List.mem_cons_self))
    exact ⟨meth, c, h1, h2, h3, h4, h5, h6⟩
  · intro p e s m args below meth c s₁ B hml hP _
    have hh0 : s₁.heap = s.heap := by rw [B.state]; rfl
    obtain ⟨t, a1, o, b1, b2, b3⟩ := body p e s m args below meth c s₁ B hml hP s₁ hh0 (Stand.of_body B)
    exact ⟨t, o, a1, b1, b2, ⟨b3.1, b3.2⟩⟩
theorem gRun_of {G : gG} {Y : gY} {d : Nat} {vs : List Value} {M : gMem} {Z : Option Value → gMem → Prop} (hy : plainFor Y.1 = true) (hn : (lg_sl (vs.map (gRl G))).length ≤ Y.2.2.1) (h : ∀ d', d ≤ d' → gGo G Y d' Z 0 (gEn Y.2.2.1 vs) [] M) : gRun G Y d vs M Z := by
  intro l d' hd
  refine gMet (cc := Y.2.1) (maxL := Y.2.2.1) (ret := Y.2.2.2) hy rfl ?_
  intro p e s m args below meth c s₁ B hml hv
  obtain ⟨rfl, hP, hK, hJ, hZ⟩ := hv
  have hx := B.exec
  have hb := B.bytes
  have hr := B.returns
  have hts := atoms_spec (ws := gWd Y) B.pre
  have hown : s.vm.findClass Y.1.cls = some m.cls := findClass_of_methodNamed B.named
  have hlocks := B.notSynchronized
  have hl := lv_entry (vs.map (gRl G)) (n := Y.2.2.1) hn
  rw [lg_entry_eq]
  generalize (lg_sl (vs.map (gRl G)) ++ List.replicate (Y.2.2.1 - (lg_sl (vs.map (gRl G))).length) Slot.unset).toArray = ls at hl ⊢
  refine h d' hd p l e s m _ below meth c ⟨hx, hb, hml, hown, fun w hw => hts w (List.mem_cons_of_mem _ hw), hK, hJ, hZ, by show 1 ≤ d' + 1; omega, by show 64 ≤ 64 * (d' + 1); omega, Nat.le_refl _, Nat.le_refl _⟩ hr hlocks s.heap [] ls hP va_S.rf ⟨hl.1, hl.2.1, fun i v hi => ?_⟩
  have := gEn_at (G := G) vs Y.2.2.1 0 i v hi
  rw [Nat.zero_add] at this
  exact hl.2.2 _ this
/-- one step of a method whose rows are known -/
def gAt (tbl : List (Nat × gStp)) (pc : Nat) : gStp := match tbl with
  | [] => fun _ _ _ => none
  | q :: r => bif Nat.beq q.1 pc then q.2 else gAt r pc
def gOk (Y : gY) (tbl : List (Nat × gStp)) : Prop := ∀ q ∈ tbl, gSn Y.1.cls Y.2.1 Y.2.2.1 q.1 q.2
theorem gAt_ok {own : String} {cc : ByteArray} {nL : Nat} : ∀ {tbl : List (Nat × gStp)}, (∀ q ∈ tbl, gSn own cc nL q.1 q.2) → ∀ pc, gSn own cc nL pc (gAt tbl pc)
  | [], _, pc => by
    intro p l e R s m args below meth c cells slots Q G C L S M pc' L' S' M' hf
    cases hf
  | q :: r, h, pc => by
    unfold gAt
    by_cases e : q.1 = pc
    · subst e
      rw [show Nat.beq q.1 q.1 = true from Nat.beq_refl _]
      exact h q List.mem_cons_self
    · rw [show Nat.beq q.1 pc = false from Bool.eq_false_iff.mpr (fun g => e (Nat.eq_of_beq_eq_true g))]
      exact gAt_ok (fun x hx => h x (List.mem_cons_of_mem _ hx)) pc
section GGO
variable {G : gG} {Y : gY} {d : Nat} {Z : Option Value → gMem → Prop} {pc : Nat} {L : gLoc} {S : List Value} {M : gMem} {tbl : List (Nat × gStp)}
theorem go_st {pc' : Nat} {L' : gLoc} {S' : List Value} {M' : gMem} (ok : gOk Y tbl) (h : gAt tbl pc L S M = some (pc', L', S', M')) (k : gGo G Y d Z pc' L' S' M') : gGo G Y d Z pc L S M :=
  fun p l e s m args below meth c C hr hlk => gAt_ok ok pc p l e (gRm d) s m args below meth c 0 0 _ G C L S M pc' L' S' M' h (k p l e s m args below meth c C hr hlk)
/-- a result that hangs on conditions -/
def gGr (G : gG) (Y : gY) (d : Nat) (Z : Option Value → gMem → Prop) (r : gRes) : Prop := match r with
  | some (pc', L', S', M') => gGo G Y d Z pc' L' S' M'
  | none => False
theorem go_r (ok : gOk Y tbl) {r : gRes} (h : gAt tbl pc L S M = r) (k : gGr G Y d Z r) : gGo G Y d Z pc L S M := by
  match r, h, k with
  | some (pc', L', S', M'), h, k => exact go_st ok h k
theorem gr_if {P : Prop} [inst : Decidable P] {a b : gRes} (ha : P → gGr G Y d Z a) (hb : ¬ P → gGr G Y d Z b) : gGr G Y d Z (ite P a b) := by
  by_cases h : P
  · rw [if_pos h]; exact ha h
  · rw [if_neg h]; exact hb h
/-- a branch: two ways -/
theorem go_br {P : Prop} [inst : Decidable P] {pc1 pc2 : Nat} {L1 L2 : gLoc} {S1 S2 : List Value} {M1 M2 : gMem} (ok : gOk Y tbl) (h : gAt tbl pc L S M = ite P (some (pc1, L1, S1, M1)) (some (pc2, L2, S2, M2))) (ha : P → gGo G Y d Z pc1 L1 S1 M1) (hb : ¬ P → gGo G Y d Z pc2 L2 S2 M2) : gGo G Y d Z pc L S M :=
  go_r ok h (gr_if ha hb)
/-- a check that holds -/
theorem go_ck {P : Prop} [inst : Decidable P] {pc1 : Nat} {L1 : gLoc} {S1 : List Value} {M1 : gMem} (ok : gOk Y tbl) (h : gAt tbl pc L S M = ite P (some (pc1, L1, S1, M1)) none) (hp : P) (ha : gGo G Y d Z pc1 L1 S1 M1) : gGo G Y d Z pc L S M :=
  go_r ok h (by rw [if_pos hp]; exact ha)
/-- a check that must not hold -/
theorem go_nk {P : Prop} [inst : Decidable P] {pc1 : Nat} {L1 : gLoc} {S1 : List Value} {M1 : gMem} (ok : gOk Y tbl) (h : gAt tbl pc L S M = ite P none (some (pc1, L1, S1, M1))) (hp : ¬ P) (ha : gGo G Y d Z pc1 L1 S1 M1) : gGo G Y d Z pc L S M :=
  go_r ok h (by rw [if_neg hp]; exact ha)
theorem go_eq {S2 : List Value} {M2 : gMem} {L2 : gLoc} (k : gGo G Y d Z pc L2 S2 M2) (hL : L = L2) (hS : S = S2) (hM : M = M2) : gGo G Y d Z pc L S M := by
  subst hL; subst hS; subst hM; exact k
theorem go_iret {x : Int32} (hd : decode Y.2.1 pc = .ok (.ireturn, 1)) (hr : Y.2.2.2 = some .int) (hz : Z (some (.int x)) M) : gGo G Y d Z pc L [.int x] M :=
  fun p l e s m args below meth c C hret hlk H locs ls hP hS hl => W.iret C.1 C.2.1 (hret.trans hr) (fun t ht hW => ⟨⟨some (.int x), M, rfl, hz, by rw [ht]; exact hP⟩, hS.F ht⟩) hS.2.2 hd hlk
theorem go_zret {x : Int32} (hd : decode Y.2.1 pc = .ok (.ireturn, 1)) (hr : Y.2.2.2 = some .boolean) (hx : x = 0 ∨ x = 1) (hz : Z (some (.int x)) M) : gGo G Y d Z pc L [.int x] M :=
  fun p l e s m args below meth c C hret hlk H locs ls hP hS hl => W.zret C.1 C.2.1 (hret.trans hr) (by rcases hx with rfl | rfl <;> rfl) (fun t ht hW => ⟨⟨some (.int x), M, rfl, hz, by rw [ht]; exact hP⟩, hS.F ht⟩) hS.2.2 hd hlk
theorem go_lret {x : Int64} (hd : decode Y.2.1 pc = .ok (.lreturn, 1)) (hr : Y.2.2.2 = some .long) (hz : Z (some (.long x)) M) : gGo G Y d Z pc L [.long x] M :=
  fun p l e s m args below meth c C hret hlk H locs ls hP hS hl => W.lret C.1 C.2.1 (hret.trans hr) (fun t ht hW => ⟨⟨some (.long x), M, rfl, hz, by rw [ht]; exact hP⟩, hS.F ht⟩) hS.2.2 hd hlk
theorem go_vret (hd : decode Y.2.1 pc = .ok (.return_, 1)) (hr : Y.2.2.2 = none) (hz : Z none M) : gGo G Y d Z pc L [] M :=
  fun p l e s m args below meth c C hret hlk H locs ls hP hS hl => W.vret C.1 C.2.1 (hret.trans hr) (fun t ht hW => ⟨⟨none, M, rfl, hz, by rw [ht]; exact hP⟩, hS.F ht⟩) hS.2.2 hd hlk
theorem go_aret {C0 : String} {v : Value} (hd : decode Y.2.1 pc = .ok (.areturn, 1)) (hr : Y.2.2.2 = some (.object C0)) (hv : v = .null ∨ ∃ a, v = .ref a) (hz : Z (some v) M) : gGo G Y d Z pc L [v] M :=
  fun p l e s m args below meth c C hret hlk H locs ls hP hS hl => W.aret (v := gRl G v) C.1 C.2.1 (hret.trans hr) (Or.inl ⟨_, rfl⟩) (hv.elim (fun h => Or.inl (by rw [h]; rfl)) (fun h => h.elim fun a h => Or.inr ⟨G.2.2 a, by rw [h]; rfl⟩)) (fun t ht hW => ⟨⟨some v, M, rfl, hz, by rw [ht]; exact hP⟩, hS.F ht⟩) hS.2.2 hd hlk
end GGO
