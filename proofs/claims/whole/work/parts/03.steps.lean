/-! One instruction: its step over the small machine, and that the real one goes with it. -/
/-- statics and texts that nobody writes -/
def gFac : Nat → Int32 := fun j => match j with
  | 0 => 1
  | 1 => 1
  | 2 => 2
  | 3 => 6
  | 4 => 24
  | 5 => 120
  | _ => 720
/-- the texts that the Reader knows: pool index, text, length, bytes -/
def gTxs : List (Nat × String × Nat × List Int32) := [(84, "city", 4, [99, 105, 116, 121]), (90, "years", 5, [121, 101, 97, 114, 115]), (98, "law", 3, [108, 97, 119]), (102, "slump", 5, [115, 108, 117, 109, 112]), (106, "odds", 4, [111, 100, 100, 115]), (53, "partner", 7, [112, 97, 114, 116, 110, 101, 114]), (113, "wide", 4, [119, 105, 100, 101]), (119, "worth", 5, [119, 111, 114, 116, 104]), (124, "gains", 5, [103, 97, 105, 110, 115]), (62, "join", 4, [106, 111, 105, 110]), (140, "wax", 3, [119, 97, 120]), (67, "door", 4, [100, 111, 111, 114]), (72, "cold", 4, [99, 111, 108, 100]), (157, "at", 2, [97, 116])]
def gTxi (i : Nat) : Nat := (gTxs.map (·.1)).getD i 0
def gTxt (i : Nat) : String := (gTxs.map (·.2.1)).getD i ""
def gTxl : List Nat := gTxs.map (·.2.2.1)
def gTxb : List (List Int32) := gTxs.map (·.2.2.2)
def gZs (G : gG) (s : State) : Prop :=
  va_Z "java/lang/String" "COMPACT_STRINGS" "Z" (.int 1) (gA G) s s.heap ∧ (va_Z "jdk/internal/util/Preconditions" "SIOOBE_FORMATTER" "Ljava/util/function/BiFunction;" .null (gA G) s s.heap ∨ va_Z "jdk/internal/util/Preconditions" "SIOOBE_FORMATTER" "Ljava/util/function/BiFunction;" (.ref (G.2.2 950)) (gA G) s s.heap) ∧
  vk_S 14 gTxl gTxb (fun i => G.2.2 (910 + i)) (fun i => G.2.2 (930 + i)) (gA G) s s.heap ∧ ∀ i, i < 14 → vk_R "WaxedPartners$Reader" (gTxi i) (gTxt i) (G.2.2 (910 + i)) s
def gZ (G : gG) (s : State) : Prop :=
  va_Z "WaxedPartners" "FACTORIALS" "[I" (.ref (G.2.2 900)) (gA G) s s.heap ∧ va_T .int (G.2.2 900) 7 (fun j => .int (gFac j)) (gA G) s s.heap ∧
  (∀ w ∈ gNst, va_Nw w s) ∧ (∀ w ∈ gNsf, va_Nw w s) ∧ gZs G s
def gHs (G : gG) (ls : Array Slot) (nL : Nat) (L : gLoc) : Prop := ls.size = nL ∧ lv_wf ls ∧ ∀ (i : Nat) (v : Value), L[i]? = some (some v) → ls[i]? = some (.val (gRl G v))
def gLl (G : gG) (L : gLoc) : List (Nat × Value) := (List.range L.length).filterMap (fun i => match L[i]? with
  | some (some v) => some (i, gRl G v)
  | _ => none)
theorem gLl_mem {G : gG} {L : gLoc} {i : Nat} {w : Value} : (i, w) ∈ gLl G L ↔ ∃ v, L[i]? = some (some v) ∧ w = gRl G v := by
  unfold gLl
  rw [List.mem_filterMap]
  constructor
  · rintro ⟨a, -, h⟩
    split at h
    · next v hv =>
      cases h
      exact ⟨v, hv, rfl⟩
    · cases h
  · rintro ⟨v, h, rfl⟩
    refine ⟨i, List.mem_range.mpr (List.getElem?_eq_some_iff.mp h).1, ?_⟩
    rw [h]
theorem gHs_lv {G : gG} {ls : Array Slot} {nL : Nat} {L : gLoc} (h : gHs G ls nL L) : lv_has ls nL (gLl G L) := by
  refine ⟨h.1, h.2.1, fun q hq => ?_⟩
  obtain ⟨i, w⟩ := q
  obtain ⟨v, hv, rfl⟩ := gLl_mem.mp hq
  exact h.2.2 i v hv
theorem gRl_cat (G : gG) (v : Value) : (gRl G v).category = v.category := by cases v <;> rfl
/-- a place written, the first half of a long before it lost -/
def gP1 (L : gLoc) (i : Nat) (v : Value) : gLoc := match i with
  | 0 => L.set 0 (some v)
  | j + 1 => match L[j]? with
    | some (some (.long _)) => (L.set j none).set (j + 1) (some v)
    | some (some (.double _)) => (L.set j none).set (j + 1) (some v)
    | _ => L.set (j + 1) (some v)
def gP2 (L : gLoc) (i : Nat) (v : Value) : gLoc := (gP1 L i v).set (i + 1) none
theorem gP1_at {L : gLoc} {i k : Nat} {v w : Value} (h : (gP1 L i v)[k]? = some (some w)) : (k = i ∧ w = v) ∨ (k ≠ i ∧ L[k]? = some (some w) ∧ ∀ j, i = j + 1 → k = j → w.category ≠ 2) := by
  have hset : ∀ {L : gLoc}, (L.set i (some v))[k]? = some (some w) → (k = i ∧ w = v) ∨ (k ≠ i ∧ L[k]? = some (some w)) := by
    intro L h
    rw [List.getElem?_set] at h
    by_cases e : i = k
    · rw [if_pos e] at h
      split at h
      · cases h; exact Or.inl ⟨e.symm, rfl⟩
      · cases h
    · rw [if_neg e] at h
      exact Or.inr ⟨fun q => e q.symm, h⟩
  unfold gP1 at h
  split at h
  · rcases hset h with g | ⟨g1, g2⟩
    · exact Or.inl g
    · exact Or.inr ⟨g1, g2, fun j q => by cases q⟩
  · next j =>
    have hcl : ((L.set j none).set (j + 1) (some v))[k]? = some (some w) → (k = j + 1 ∧ w = v) ∨ (k ≠ j + 1 ∧ L[k]? = some (some w) ∧ ∀ j', j + 1 = j' + 1 → k = j' → w.category ≠ 2) := by
      intro h
      rcases hset h with g | ⟨g1, g2⟩
      · exact Or.inl g
      · rw [List.getElem?_set] at g2
        by_cases e : j = k
        · rw [if_pos e] at g2
          split at g2 <;> cases g2
        · rw [if_neg e] at g2
          exact Or.inr ⟨g1, g2, fun j' q q2 => by cases q; exact absurd q2.symm e⟩
    split at h
    · exact hcl h
    · exact hcl h
    · next hx hy =>
      rcases hset h with g | ⟨g1, g2⟩
      · exact Or.inl g
      · exact Or.inr ⟨g1, g2, fun j' q q2 hw => by
          cases q
          subst q2
          cases w with
          | long x => exact hx x g2
          | double x => exact hy x g2
          | _ => cases hw⟩
theorem gHs_1 {G : gG} {ls' : Array Slot} {nL : Nat} {L : gLoc} {i : Nat} {v : Value} (hv : v.category = 1) (h : lv_has ls' nL ((i, gRl G v) :: (gLl G L).filter (fun q => !(q.1 == i) && !(q.1 + 1 == i && q.2.category == 2)))) : gHs G ls' nL (gP1 L i v) := by
  refine ⟨h.1, h.2.1, fun k w hk => ?_⟩
  rcases gP1_at hk with ⟨rfl, rfl⟩ | ⟨h1, h2, h3⟩
  · exact h.2.2 (k, gRl G w) List.mem_cons_self
  · refine h.2.2 (k, gRl G w) (List.mem_cons_of_mem _ (List.mem_filter.mpr ⟨gLl_mem.mpr ⟨w, h2, rfl⟩, ?_⟩))
    simp only [gRl_cat, Bool.and_eq_true, Bool.not_eq_true', beq_eq_false_iff_ne, ne_eq, Bool.and_eq_false_iff]
    refine ⟨h1, ?_⟩
    by_cases e : k + 1 = i
    · exact Or.inr (h3 k e.symm rfl)
    · exact Or.inl e
theorem lv_mem {ls : Array Slot} {nL : Nat} {l l' : List (Nat × Value)} (h : lv_has ls nL l) (hs : ∀ q ∈ l', q ∈ l) : lv_has ls nL l' := ⟨h.1, h.2.1, fun q hq => h.2.2 q (hs q hq)⟩
theorem gHs_2 {G : gG} {ls' : Array Slot} {nL : Nat} {L : gLoc} {i : Nat} {v : Value} (h : lv_has ls' nL ((i, gRl G v) :: (gLl G L).filter (fun q => !(q.1 == i) && (!(q.1 == i + 1) && !(q.1 + 1 == i && q.2.category == 2))))) : gHs G ls' nL (gP2 L i v) := by
  refine ⟨h.1, h.2.1, fun k w hk => ?_⟩
  unfold gP2 at hk
  rw [List.getElem?_set] at hk
  by_cases e : i + 1 = k
  · rw [if_pos e] at hk
    split at hk <;> cases hk
  · rw [if_neg e] at hk
    rcases gP1_at hk with ⟨rfl, rfl⟩ | ⟨h1, h2, h3⟩
    · exact h.2.2 (k, gRl G w) List.mem_cons_self
    · refine h.2.2 (k, gRl G w) (List.mem_cons_of_mem _ (List.mem_filter.mpr ⟨gLl_mem.mpr ⟨w, h2, rfl⟩, ?_⟩))
      simp only [gRl_cat, Bool.and_eq_true, Bool.not_eq_true', beq_eq_false_iff_ne, ne_eq, Bool.and_eq_false_iff]
      refine ⟨h1, fun q => e q.symm, ?_⟩
      by_cases e : k + 1 = i
      · exact Or.inr (h3 k e.symm rfl)
      · exact Or.inl e
/-- what stays in a method's body -/
def gCx (own : String) (cc : ByteArray) (nL : Nat) (p : Program) (R : Room) (s : State) (m : MethodId) (args : Array Value) (c : Code) (cells slots : Nat) (G : gG) : Prop :=
  p.tables.exec = Jvm.exec ∧ c.code = cc ∧ c.maxLocals = nL ∧ s.vm.findClass own = some m.cls ∧ (∀ w ∈ gT, w.before args s = true) ∧ va_K G.1 vwCl (gTys G) s ∧ gInj G ∧ gZ G s ∧ (1 ≤ R.frames ∧ 64 ≤ R.locals ∧ cells ≤ R.cells ∧ slots ≤ R.slots)
def gW (nL : Nat) (p : Program) (l : Launch) (e : Env) (R : Room) (s : State) (m : MethodId) (args : Array Value) (below : List Frame) (meth : Method) (c : Code) (cells slots : Nat) (Q : State → Prop) (G : gG) (pc : Nat) (L : gLoc) (S : List Value) (M : gMem) : Prop :=
  ∀ (H : Heap) (locs : List Loc) (ls : Array Slot), va_P G.1 vwCl (gWs G M) H → va_S (gA G) s.heap H locs → gHs G ls nL L → W p l e R s m args below meth c H locs cells slots Q (F0 m pc ls (S.map (gRl G)))
def gSn (own : String) (cc : ByteArray) (nL : Nat) (pc : Nat) (f : gStp) : Prop :=
  ∀ (p : Program) (l : Launch) (e : Env) (R : Room) (s : State) (m : MethodId) (args : Array Value) (below : List Frame) (meth : Method) (c : Code) (cells slots : Nat) (Q : State → Prop) (G : gG), gCx own cc nL p R s m args c cells slots G →
  ∀ (L : gLoc) (S : List Value) (M : gMem) (pc' : Nat) (L' : gLoc) (S' : List Value) (M' : gMem), f L S M = some (pc', L', S', M') → gW nL p l e R s m args below meth c cells slots Q G pc' L' S' M' → gW nL p l e R s m args below meth c cells slots Q G pc L S M
section GST
variable {own : String} {cc : ByteArray} {nL pc : Nat}
def i_push (v : Value) (t : Nat) : gStp := fun L S M => some (t, L, v :: S, M)
theorem sn_iconst {n : Int} {v : Int32} (hd : decode cc pc = .ok (.iconst n, 1)) (hv : Int32.ofInt n = v) : gSn own cc nL pc (i_push (.int v) (pc + 1)) := by
  intro p l e R s m args below meth c cells slots Q G C L S M pc' L' S' M' hf k H locs ls hP hS hl
  cases hf
  exact lv_iconst C.1 C.2.1 hd hv (k H locs ls hP hS hl)
theorem sn_bipush {n : Int} {v : Int32} (hd : decode cc pc = .ok (.bipush n, 2)) (hv : (Int8.ofInt n).toInt32 = v) : gSn own cc nL pc (i_push (.int v) (pc + 2)) := by
  intro p l e R s m args below meth c cells slots Q G C L S M pc' L' S' M' hf k H locs ls hP hS hl
  cases hf
  exact lv_bipush C.1 C.2.1 hd hv (k H locs ls hP hS hl)
theorem sn_sipush {n : Int} {v : Int32} (hd : decode cc pc = .ok (.sipush n, 3)) (hv : (Int16.ofInt n).toInt32 = v) : gSn own cc nL pc (i_push (.int v) (pc + 3)) := by
  intro p l e R s m args below meth c cells slots Q G C L S M pc' L' S' M' hf k H locs ls hP hS hl
  cases hf
  exact lv_sipush C.1 C.2.1 hd hv (k H locs ls hP hS hl)
theorem sn_lconst {n : Fin 2} {v : Int64} (hd : decode cc pc = .ok (.lconst n, 1)) (hv : Int64.ofNat (n : Nat) = v) : gSn own cc nL pc (i_push (.long v) (pc + 1)) := by
  intro p l e R s m args below meth c cells slots Q G C L S M pc' L' S' M' hf k H locs ls hP hS hl
  cases hf
  exact lv_lconst C.1 C.2.1 hd hv (k H locs ls hP hS hl)
theorem sn_null (hd : decode cc pc = .ok (.aconst_null, 1)) : gSn own cc nL pc (i_push .null (pc + 1)) := by
  intro p l e R s m args below meth c cells slots Q G C L S M pc' L' S' M' hf k H locs ls hP hS hl
  cases hf
  exact lv_null C.1 C.2.1 hd (k H locs ls hP hS hl)
theorem sn_ldc {index : Nat} {v : Int32} (hd : decode cc pc = .ok (.ldc index, 2)) (hc : Jvm.Cond.constant own index v ∈ gT) : gSn own cc nL pc (i_push (.int v) (pc + 2)) := by
  intro p l e R s m args below meth c cells slots Q G C L S M pc' L' S' M' hf k H locs ls hP hS hl
  cases hf
  exact lv_ldc C.1 C.2.1 C.2.2.2.1 (C.2.2.2.2.1 _ hc) hd (k H locs ls hP hS hl)
theorem sn_ldcw {index : Nat} {v : Int32} (hd : decode cc pc = .ok (.ldc_w index, 3)) (hc : Jvm.Cond.constant own index v ∈ gT) : gSn own cc nL pc (i_push (.int v) (pc + 3)) := by
  intro p l e R s m args below meth c cells slots Q G C L S M pc' L' S' M' hf k H locs ls hP hS hl
  cases hf
  exact lv_ldcw C.1 C.2.1 C.2.2.2.1 (C.2.2.2.2.1 _ hc) hd (k H locs ls hP hS hl)
theorem sn_ldc2 {index : Nat} {v : Int64} (hd : decode cc pc = .ok (.ldc2_w index, 3)) (hc : Jvm.Cond.constantLong own index v ∈ gT) : gSn own cc nL pc (i_push (.long v) (pc + 3)) := by
  intro p l e R s m args below meth c cells slots Q G C L S M pc' L' S' M' hf k H locs ls hP hS hl
  cases hf
  exact lv_ldc2 C.1 C.2.1 C.2.2.2.1 (C.2.2.2.2.1 _ hc) hd (k H locs ls hP hS hl)
def i_iload (i t : Nat) : gStp := fun L S M => match L[i]? with
  | some (some (.int x)) => some (t, L, .int x :: S, M)
  | _ => none
def i_lload (i t : Nat) : gStp := fun L S M => match L[i]? with
  | some (some (.long x)) => some (t, L, .long x :: S, M)
  | _ => none
def i_aload (i t : Nat) : gStp := fun L S M => match L[i]? with
  | some (some (.ref x)) => some (t, L, .ref x :: S, M)
  | some (some .null) => some (t, L, .null :: S, M)
  | _ => none
theorem sn_iload_n {k : Fin 4} {i : Nat} (hd : decode cc pc = .ok (.iload_n k, 1)) (hi : (k : Nat) = i) : gSn own cc nL pc (i_iload i (pc + 1)) := by
  intro p l e R s m args below meth c cells slots Q G C L S M pc' L' S' M' hf k H locs ls hP hS hl
  unfold i_iload at hf
  split at hf
  · next x hx =>
    cases hf
    exact lv_iload_n C.1 C.2.1 hd hi (hl.2.2 i _ hx) (k H locs ls hP hS hl)
  · cases hf
theorem sn_iload {i : Nat} (hd : decode cc pc = .ok (.iload i, 2)) : gSn own cc nL pc (i_iload i (pc + 2)) := by
  intro p l e R s m args below meth c cells slots Q G C L S M pc' L' S' M' hf k H locs ls hP hS hl
  unfold i_iload at hf
  split at hf
  · next x hx =>
    cases hf
    exact lv_iload C.1 C.2.1 hd (hl.2.2 i _ hx) (k H locs ls hP hS hl)
  · cases hf
theorem sn_lload_n {k : Fin 4} {i : Nat} (hd : decode cc pc = .ok (.lload_n k, 1)) (hi : (k : Nat) = i) : gSn own cc nL pc (i_lload i (pc + 1)) := by
  intro p l e R s m args below meth c cells slots Q G C L S M pc' L' S' M' hf k H locs ls hP hS hl
  unfold i_lload at hf
  split at hf
  · next x hx =>
    cases hf
    exact lv_lload_n C.1 C.2.1 hd hi (hl.2.2 i _ hx) (k H locs ls hP hS hl)
  · cases hf
theorem sn_lload {i : Nat} (hd : decode cc pc = .ok (.lload i, 2)) : gSn own cc nL pc (i_lload i (pc + 2)) := by
  intro p l e R s m args below meth c cells slots Q G C L S M pc' L' S' M' hf k H locs ls hP hS hl
  unfold i_lload at hf
  split at hf
  · next x hx =>
    cases hf
    exact lv_lload C.1 C.2.1 hd (hl.2.2 i _ hx) (k H locs ls hP hS hl)
  · cases hf
theorem sn_aload_n {k : Fin 4} {i : Nat} (hd : decode cc pc = .ok (.aload_n k, 1)) (hi : (k : Nat) = i) : gSn own cc nL pc (i_aload i (pc + 1)) := by
  intro p l e R s m args below meth c cells slots Q G C L S M pc' L' S' M' hf k H locs ls hP hS hl
  unfold i_aload at hf
  split at hf
  · next x hx =>
    cases hf
    exact lv_aload_n C.1 C.2.1 hd hi (hl.2.2 i _ hx) (k H locs ls hP hS hl)
  · next hx =>
    cases hf
    exact lv_aload_nN C.1 C.2.1 hd hi (hl.2.2 i _ hx) (k H locs ls hP hS hl)
  · cases hf
theorem sn_aload {i : Nat} (hd : decode cc pc = .ok (.aload i, 2)) : gSn own cc nL pc (i_aload i (pc + 2)) := by
  intro p l e R s m args below meth c cells slots Q G C L S M pc' L' S' M' hf k H locs ls hP hS hl
  unfold i_aload at hf
  split at hf
  · next x hx =>
    cases hf
    exact lv_aload C.1 C.2.1 hd (hl.2.2 i _ hx) (k H locs ls hP hS hl)
  · next hx =>
    cases hf
    exact lv_aloadN C.1 C.2.1 hd (hl.2.2 i _ hx) (k H locs ls hP hS hl)
  · cases hf
def i_istore (i t : Nat) : gStp := fun L S M => match S with
  | .int x :: S => some (t, gP1 L i (.int x), S, M)
  | _ => none
def i_lstore (i t : Nat) : gStp := fun L S M => match S with
  | .long x :: S => some (t, gP2 L i (.long x), S, M)
  | _ => none
def i_astore (i t : Nat) : gStp := fun L S M => match S with
  | .ref x :: S => some (t, gP1 L i (.ref x), S, M)
  | .null :: S => some (t, gP1 L i .null, S, M)
  | _ => none
theorem sn_istore_n {k : Fin 4} {i : Nat} (hd : decode cc pc = .ok (.istore_n k, 1)) (hi : (k : Nat) = i) (hn : i < nL) : gSn own cc nL pc (i_istore i (pc + 1)) := by
  intro p l e R s m args below meth c cells slots Q G C L S M pc' L' S' M' hf k H locs ls hP hS hl
  unfold i_istore at hf
  split at hf
  · next x S =>
    cases hf
    exact lv_istore_n C.1 C.2.1 hd hi (gHs_lv hl) hn rfl (fun ls' h => k H locs ls' hP hS (gHs_1 rfl h))
  · cases hf
theorem sn_istore {i : Nat} (hd : decode cc pc = .ok (.istore i, 2)) (hn : i < nL) : gSn own cc nL pc (i_istore i (pc + 2)) := by
  intro p l e R s m args below meth c cells slots Q G C L S M pc' L' S' M' hf k H locs ls hP hS hl
  unfold i_istore at hf
  split at hf
  · next x S =>
    cases hf
    exact lv_istore C.1 C.2.1 hd (gHs_lv hl) hn rfl (fun ls' h => k H locs ls' hP hS (gHs_1 rfl h))
  · cases hf
theorem sn_lstore_n {k : Fin 4} {i : Nat} (hd : decode cc pc = .ok (.lstore_n k, 1)) (hi : (k : Nat) = i) (hn : i + 1 < nL) : gSn own cc nL pc (i_lstore i (pc + 1)) := by
  intro p l e R s m args below meth c cells slots Q G C L S M pc' L' S' M' hf k H locs ls hP hS hl
  unfold i_lstore at hf
  split at hf
  · next x S =>
    cases hf
    exact lv_lstore_n C.1 C.2.1 hd hi (gHs_lv hl) hn rfl (fun ls' h => k H locs ls' hP hS (gHs_2 h))
  · cases hf
theorem sn_lstore {i : Nat} (hd : decode cc pc = .ok (.lstore i, 2)) (hn : i + 1 < nL) : gSn own cc nL pc (i_lstore i (pc + 2)) := by
  intro p l e R s m args below meth c cells slots Q G C L S M pc' L' S' M' hf k H locs ls hP hS hl
  unfold i_lstore at hf
  split at hf
  · next x S =>
    cases hf
    exact lv_lstore C.1 C.2.1 hd (gHs_lv hl) hn rfl (fun ls' h => k H locs ls' hP hS (gHs_2 h))
  · cases hf
theorem sn_astore_n {k : Fin 4} {i : Nat} (hd : decode cc pc = .ok (.astore_n k, 1)) (hi : (k : Nat) = i) (hn : i < nL) : gSn own cc nL pc (i_astore i (pc + 1)) := by
  intro p l e R s m args below meth c cells slots Q G C L S M pc' L' S' M' hf k H locs ls hP hS hl
  unfold i_astore at hf
  split at hf
  · next x S =>
    cases hf
    exact lv_astore_n C.1 C.2.1 hd hi (gHs_lv hl) hn rfl (fun ls' h => k H locs ls' hP hS (gHs_1 (v := .ref x) rfl h))
  · next S =>
    cases hf
    exact lv_astore_nN C.1 C.2.1 hd hi (gHs_lv hl) hn rfl (fun ls' h => k H locs ls' hP hS (gHs_1 (v := .null) rfl h))
  · cases hf
theorem sn_astore {i : Nat} (hd : decode cc pc = .ok (.astore i, 2)) (hn : i < nL) : gSn own cc nL pc (i_astore i (pc + 2)) := by
  intro p l e R s m args below meth c cells slots Q G C L S M pc' L' S' M' hf k H locs ls hP hS hl
  unfold i_astore at hf
  split at hf
  · next x S =>
    cases hf
    exact lv_astore C.1 C.2.1 hd (gHs_lv hl) hn rfl (fun ls' h => k H locs ls' hP hS (gHs_1 (v := .ref x) rfl h))
  · next S =>
    cases hf
    exact lv_astoreN C.1 C.2.1 hd (gHs_lv hl) hn rfl (fun ls' h => k H locs ls' hP hS (gHs_1 (v := .null) rfl h))
  · cases hf
def i_iinc (i : Nat) (d : Int32) (t : Nat) : gStp := fun L S M => match L[i]? with
  | some (some (.int x)) => some (t, gP1 L i (.int (x + d)), S, M)
  | _ => none
theorem sn_iinc {i : Nat} {n : Int} {d : Int32} (hd : decode cc pc = .ok (.iinc i n, 3)) (hn : i < nL) (hv : Int32.ofInt n = d) : gSn own cc nL pc (i_iinc i d (pc + 3)) := by
  intro p l e R s m args below meth c cells slots Q G C L S M pc' L' S' M' hf k H locs ls hP hS hl
  unfold i_iinc at hf
  split at hf
  · next x hx =>
    cases hf
    obtain ⟨j, hj⟩ : ∃ j, (gLl G L)[j]? = some (i, Value.int x) := List.getElem?_of_mem (gLl_mem.mpr ⟨.int x, hx, rfl⟩)
    exact lv_iinc C.1 C.2.1 hd (gHs_lv hl) hj (v := x + d) (by rw [hv]) hn rfl (fun ls' h => k H locs ls' hP hS (gHs_1 (v := .int (x + d)) rfl h))
  · cases hf
def i_ii (f : Int32 → Int32 → Int32) (t : Nat) : gStp := fun L S M => match S with
  | .int y :: .int x :: S => some (t, L, .int (f x y) :: S, M)
  | _ => none
def i_ll (f : Int64 → Int64 → Int64) (t : Nat) : gStp := fun L S M => match S with
  | .long y :: .long x :: S => some (t, L, .long (f x y) :: S, M)
  | _ => none
def i_li (f : Int64 → Int32 → Int64) (t : Nat) : gStp := fun L S M => match S with
  | .int y :: .long x :: S => some (t, L, .long (f x y) :: S, M)
  | _ => none
def i_i (f : Int32 → Int32) (t : Nat) : gStp := fun L S M => match S with
  | .int x :: S => some (t, L, .int (f x) :: S, M)
  | _ => none
theorem sn_iadd (hd : decode cc pc = .ok (.iadd, 1)) : gSn own cc nL pc (i_ii (fun x y => x + y) (pc + 1)) := by
  intro p l e R s m args below meth c cells slots Q G C L S M pc' L' S' M' hf k H locs ls hP hS hl
  unfold i_ii at hf
  split at hf
  · cases hf
    exact lv_iadd C.1 C.2.1 hd (k H locs ls hP hS hl)
  · cases hf
theorem sn_isub (hd : decode cc pc = .ok (.isub, 1)) : gSn own cc nL pc (i_ii (fun x y => x - y) (pc + 1)) := by
  intro p l e R s m args below meth c cells slots Q G C L S M pc' L' S' M' hf k H locs ls hP hS hl
  unfold i_ii at hf
  split at hf
  · cases hf
    exact lv_isub C.1 C.2.1 hd (k H locs ls hP hS hl)
  · cases hf
theorem sn_imul (hd : decode cc pc = .ok (.imul, 1)) : gSn own cc nL pc (i_ii (fun x y => x * y) (pc + 1)) := by
  intro p l e R s m args below meth c cells slots Q G C L S M pc' L' S' M' hf k H locs ls hP hS hl
  unfold i_ii at hf
  split at hf
  · cases hf
    exact lv_imul C.1 C.2.1 hd (k H locs ls hP hS hl)
  · cases hf
theorem sn_iand (hd : decode cc pc = .ok (.iand, 1)) : gSn own cc nL pc (i_ii (fun x y => x &&& y) (pc + 1)) := by
  intro p l e R s m args below meth c cells slots Q G C L S M pc' L' S' M' hf k H locs ls hP hS hl
  unfold i_ii at hf
  split at hf
  · cases hf
    exact lv_iand C.1 C.2.1 hd (k H locs ls hP hS hl)
  · cases hf
theorem sn_ior (hd : decode cc pc = .ok (.ior, 1)) : gSn own cc nL pc (i_ii (fun x y => x ||| y) (pc + 1)) := by
  intro p l e R s m args below meth c cells slots Q G C L S M pc' L' S' M' hf k H locs ls hP hS hl
  unfold i_ii at hf
  split at hf
  · cases hf
    exact lv_ior C.1 C.2.1 hd (k H locs ls hP hS hl)
  · cases hf
theorem sn_ixor (hd : decode cc pc = .ok (.ixor, 1)) : gSn own cc nL pc (i_ii (fun x y => x ^^^ y) (pc + 1)) := by
  intro p l e R s m args below meth c cells slots Q G C L S M pc' L' S' M' hf k H locs ls hP hS hl
  unfold i_ii at hf
  split at hf
  · cases hf
    exact lv_ixor C.1 C.2.1 hd (k H locs ls hP hS hl)
  · cases hf
theorem sn_ishl (hd : decode cc pc = .ok (.ishl, 1)) : gSn own cc nL pc (i_ii (fun x y => x <<< (y &&& 31)) (pc + 1)) := by
  intro p l e R s m args below meth c cells slots Q G C L S M pc' L' S' M' hf k H locs ls hP hS hl
  unfold i_ii at hf
  split at hf
  · cases hf
    exact lv_ishl C.1 C.2.1 hd (k H locs ls hP hS hl)
  · cases hf
theorem sn_ishr (hd : decode cc pc = .ok (.ishr, 1)) : gSn own cc nL pc (i_ii (fun x y => x >>> (y &&& 31)) (pc + 1)) := by
  intro p l e R s m args below meth c cells slots Q G C L S M pc' L' S' M' hf k H locs ls hP hS hl
  unfold i_ii at hf
  split at hf
  · cases hf
    exact lv_ishr C.1 C.2.1 hd (k H locs ls hP hS hl)
  · cases hf
theorem sn_ladd (hd : decode cc pc = .ok (.ladd, 1)) : gSn own cc nL pc (i_ll (fun x y => x + y) (pc + 1)) := by
  intro p l e R s m args below meth c cells slots Q G C L S M pc' L' S' M' hf k H locs ls hP hS hl
  unfold i_ll at hf
  split at hf
  · cases hf
    exact lv_ladd C.1 C.2.1 hd (k H locs ls hP hS hl)
  · cases hf
theorem sn_lsub (hd : decode cc pc = .ok (.lsub, 1)) : gSn own cc nL pc (i_ll (fun x y => x - y) (pc + 1)) := by
  intro p l e R s m args below meth c cells slots Q G C L S M pc' L' S' M' hf k H locs ls hP hS hl
  unfold i_ll at hf
  split at hf
  · cases hf
    exact lv_lsub C.1 C.2.1 hd (k H locs ls hP hS hl)
  · cases hf
theorem sn_lmul (hd : decode cc pc = .ok (.lmul, 1)) : gSn own cc nL pc (i_ll (fun x y => x * y) (pc + 1)) := by
  intro p l e R s m args below meth c cells slots Q G C L S M pc' L' S' M' hf k H locs ls hP hS hl
  unfold i_ll at hf
  split at hf
  · cases hf
    exact lv_lmul C.1 C.2.1 hd (k H locs ls hP hS hl)
  · cases hf
theorem sn_land (hd : decode cc pc = .ok (.land, 1)) : gSn own cc nL pc (i_ll (fun x y => x &&& y) (pc + 1)) := by
  intro p l e R s m args below meth c cells slots Q G C L S M pc' L' S' M' hf k H locs ls hP hS hl
  unfold i_ll at hf
  split at hf
  · cases hf
    exact lv_land C.1 C.2.1 hd (k H locs ls hP hS hl)
  · cases hf
theorem sn_lor (hd : decode cc pc = .ok (.lor, 1)) : gSn own cc nL pc (i_ll (fun x y => x ||| y) (pc + 1)) := by
  intro p l e R s m args below meth c cells slots Q G C L S M pc' L' S' M' hf k H locs ls hP hS hl
  unfold i_ll at hf
  split at hf
  · cases hf
    exact lv_lor C.1 C.2.1 hd (k H locs ls hP hS hl)
  · cases hf
theorem sn_lshl (hd : decode cc pc = .ok (.lshl, 1)) : gSn own cc nL pc (i_li (fun x y => x <<< (y.toInt64 &&& 63)) (pc + 1)) := by
  intro p l e R s m args below meth c cells slots Q G C L S M pc' L' S' M' hf k H locs ls hP hS hl
  unfold i_li at hf
  split at hf
  · cases hf
    exact lv_lshl C.1 C.2.1 hd rfl (k H locs ls hP hS hl)
  · cases hf
theorem sn_lshr (hd : decode cc pc = .ok (.lshr, 1)) : gSn own cc nL pc (i_li (fun x y => x >>> (y.toInt64 &&& 63)) (pc + 1)) := by
  intro p l e R s m args below meth c cells slots Q G C L S M pc' L' S' M' hf k H locs ls hP hS hl
  unfold i_li at hf
  split at hf
  · cases hf
    exact lv_lshr C.1 C.2.1 hd rfl (k H locs ls hP hS hl)
  · cases hf
theorem sn_ineg (hd : decode cc pc = .ok (.ineg, 1)) : gSn own cc nL pc (i_i (fun x => -x) (pc + 1)) := by
  intro p l e R s m args below meth c cells slots Q G C L S M pc' L' S' M' hf k H locs ls hP hS hl
  unfold i_i at hf
  split at hf
  · cases hf
    exact lv_ineg C.1 C.2.1 hd (k H locs ls hP hS hl)
  · cases hf
theorem sn_i2b (hd : decode cc pc = .ok (.i2b, 1)) : gSn own cc nL pc (i_i (fun x => x.toInt8.toInt32) (pc + 1)) := by
  intro p l e R s m args below meth c cells slots Q G C L S M pc' L' S' M' hf k H locs ls hP hS hl
  unfold i_i at hf
  split at hf
  · cases hf
    exact lv_i2b C.1 C.2.1 hd rfl (k H locs ls hP hS hl)
  · cases hf
theorem sn_i2s (hd : decode cc pc = .ok (.i2s, 1)) : gSn own cc nL pc (i_i (fun x => x.toInt16.toInt32) (pc + 1)) := by
  intro p l e R s m args below meth c cells slots Q G C L S M pc' L' S' M' hf k H locs ls hP hS hl
  unfold i_i at hf
  split at hf
  · cases hf
    exact lv_i2s C.1 C.2.1 hd rfl (k H locs ls hP hS hl)
  · cases hf
def i_i2l (t : Nat) : gStp := fun L S M => match S with
  | .int x :: S => some (t, L, .long x.toInt64 :: S, M)
  | _ => none
theorem sn_i2l (hd : decode cc pc = .ok (.i2l, 1)) : gSn own cc nL pc (i_i2l (pc + 1)) := by
  intro p l e R s m args below meth c cells slots Q G C L S M pc' L' S' M' hf k H locs ls hP hS hl
  unfold i_i2l at hf
  split at hf
  · cases hf
    exact lv_i2l C.1 C.2.1 hd rfl (k H locs ls hP hS hl)
  · cases hf
def i_l2i (t : Nat) : gStp := fun L S M => match S with
  | .long x :: S => some (t, L, .int x.toInt32 :: S, M)
  | _ => none
theorem sn_l2i (hd : decode cc pc = .ok (.l2i, 1)) : gSn own cc nL pc (i_l2i (pc + 1)) := by
  intro p l e R s m args below meth c cells slots Q G C L S M pc' L' S' M' hf k H locs ls hP hS hl
  unfold i_l2i at hf
  split at hf
  · cases hf
    exact lv_l2i C.1 C.2.1 hd rfl (k H locs ls hP hS hl)
  · cases hf
def i_lcmp (t : Nat) : gStp := fun L S M => match S with
  | .long y :: .long x :: S => some (t, L, .int (lg_cmp x y) :: S, M)
  | _ => none
theorem sn_lcmp (hd : decode cc pc = .ok (.lcmp, 1)) : gSn own cc nL pc (i_lcmp (pc + 1)) := by
  intro p l e R s m args below meth c cells slots Q G C L S M pc' L' S' M' hf k H locs ls hP hS hl
  unfold i_lcmp at hf
  split at hf
  · cases hf
    exact W.lcmp C.1 C.2.1 hd (k H locs ls hP hS hl)
  · cases hf
def i_idiv (f : Int32 → Int32 → Int32) (t : Nat) : gStp := fun L S M => match S with
  | .int y :: .int x :: S => if y = 0 then none else some (t, L, .int (f x y) :: S, M)
  | _ => none
def i_ldiv (f : Int64 → Int64 → Int64) (t : Nat) : gStp := fun L S M => match S with
  | .long y :: .long x :: S => if y = 0 then none else some (t, L, .long (f x y) :: S, M)
  | _ => none
theorem sn_idiv (hd : decode cc pc = .ok (.idiv, 1)) : gSn own cc nL pc (i_idiv (fun x y => x / y) (pc + 1)) := by
  intro p l e R s m args below meth c cells slots Q G C L S M pc' L' S' M' hf k H locs ls hP hS hl
  unfold i_idiv at hf
  split at hf
  · split at hf
    · cases hf
    · next hne =>
      cases hf
      exact lv_idiv C.1 C.2.1 hd hne (k H locs ls hP hS hl)
  · cases hf
theorem sn_irem (hd : decode cc pc = .ok (.irem, 1)) : gSn own cc nL pc (i_idiv (fun x y => x - x / y * y) (pc + 1)) := by
  intro p l e R s m args below meth c cells slots Q G C L S M pc' L' S' M' hf k H locs ls hP hS hl
  unfold i_idiv at hf
  split at hf
  · split at hf
    · cases hf
    · next hne =>
      cases hf
      exact lv_irem C.1 C.2.1 hd hne (k H locs ls hP hS hl)
  · cases hf
theorem sn_ldiv (hd : decode cc pc = .ok (.ldiv, 1)) : gSn own cc nL pc (i_ldiv (fun x y => x / y) (pc + 1)) := by
  intro p l e R s m args below meth c cells slots Q G C L S M pc' L' S' M' hf k H locs ls hP hS hl
  unfold i_ldiv at hf
  split at hf
  · split at hf
    · cases hf
    · next hne =>
      cases hf
      exact lv_ldiv C.1 C.2.1 hd hne (k H locs ls hP hS hl)
  · cases hf
theorem sn_lrem (hd : decode cc pc = .ok (.lrem, 1)) : gSn own cc nL pc (i_ldiv (fun x y => x - x / y * y) (pc + 1)) := by
  intro p l e R s m args below meth c cells slots Q G C L S M pc' L' S' M' hf k H locs ls hP hS hl
  unfold i_ldiv at hf
  split at hf
  · split at hf
    · cases hf
    · next hne =>
      cases hf
      exact lv_lrem C.1 C.2.1 hd hne (k H locs ls hP hS hl)
  · cases hf
def i_dup (t : Nat) : gStp := fun L S M => match S with
  | v :: S => if v.category = 1 then some (t, L, v :: v :: S, M) else none
  | _ => none
theorem sn_dup (hd : decode cc pc = .ok (.dup, 1)) : gSn own cc nL pc (i_dup (pc + 1)) := by
  intro p l e R s m args below meth c cells slots Q G C L S M pc' L' S' M' hf k H locs ls hP hS hl
  unfold i_dup at hf
  split at hf
  · next v S =>
    split at hf
    · next hc =>
      cases hf
      exact lv_dup C.1 C.2.1 hd (by rw [gRl_cat]; exact hc) (k H locs ls hP hS hl)
    · cases hf
  · cases hf
def i_dup2 (t : Nat) : gStp := fun L S M => match S with
  | v :: w :: S => if v.category = 1 ∧ w.category = 1 then some (t, L, v :: w :: v :: w :: S, M) else none
  | _ => none
theorem sn_dup2 (hd : decode cc pc = .ok (.dup2, 1)) : gSn own cc nL pc (i_dup2 (pc + 1)) := by
  intro p l e R s m args below meth c cells slots Q G C L S M pc' L' S' M' hf k H locs ls hP hS hl
  unfold i_dup2 at hf
  split at hf
  · next v w S =>
    split at hf
    · next hc =>
      cases hf
      exact lv_dup2_11 C.1 C.2.1 hd (by rw [gRl_cat]; exact hc.1) (by rw [gRl_cat]; exact hc.2) (k H locs ls hP hS hl)
    · cases hf
  · cases hf
def i_pop (t : Nat) : gStp := fun L S M => match S with
  | v :: S => if v.category = 1 then some (t, L, S, M) else none
  | _ => none
theorem sn_pop (hd : decode cc pc = .ok (.pop, 1)) : gSn own cc nL pc (i_pop (pc + 1)) := by
  intro p l e R s m args below meth c cells slots Q G C L S M pc' L' S' M' hf k H locs ls hP hS hl
  unfold i_pop at hf
  split at hf
  · next v S =>
    split at hf
    · next hc =>
      cases hf
      exact lv_pop C.1 C.2.1 hd (by rw [gRl_cat]; exact hc) (k H locs ls hP hS hl)
    · cases hf
  · cases hf
def i_goto (t : Nat) : gStp := fun L S M => some (t, L, S, M)
theorem sn_goto {off : Int} {tgt : Nat} (hd : decode cc pc = .ok (.goto off, 3)) (ht : (pc : Int) + off = (tgt : Int)) : gSn own cc nL pc (i_goto tgt) := by
  intro p l e R s m args below meth c cells slots Q G C L S M pc' L' S' M' hf k H locs ls hP hS hl
  cases hf
  exact lv_goto C.1 C.2.1 hd ht (k H locs ls hP hS hl)
def i_if_eq (t t2 : Nat) : gStp := fun L S M => match S with
  | .int x :: S => if x = 0 then some (t, L, S, M) else some (t2, L, S, M)
  | _ => none
theorem sn_if_eq {off : Int} {tgt : Nat} (hd : decode cc pc = .ok (.ifCond .eq off, 3)) (ht : (pc : Int) + off = (tgt : Int)) : gSn own cc nL pc (i_if_eq tgt (pc + 3)) := by
  intro p l e R s m args below meth c cells slots Q G C L S M pc' L' S' M' hf k H locs ls hP hS hl
  unfold i_if_eq at hf
  split at hf
  · split at hf
    · next h =>
      cases hf
      exact lv_if_eq C.1 C.2.1 hd ht (fun _ => k H locs ls hP hS hl) (fun g => absurd h g)
    · next h =>
      cases hf
      exact lv_if_eq C.1 C.2.1 hd ht (fun g => absurd g h) (fun _ => k H locs ls hP hS hl)
  · cases hf
def i_ic_eq (t t2 : Nat) : gStp := fun L S M => match S with
  | .int y :: .int x :: S => if x = y then some (t, L, S, M) else some (t2, L, S, M)
  | _ => none
theorem sn_ic_eq {off : Int} {tgt : Nat} (hd : decode cc pc = .ok (.if_icmp .eq off, 3)) (ht : (pc : Int) + off = (tgt : Int)) : gSn own cc nL pc (i_ic_eq tgt (pc + 3)) := by
  intro p l e R s m args below meth c cells slots Q G C L S M pc' L' S' M' hf k H locs ls hP hS hl
  unfold i_ic_eq at hf
  split at hf
  · split at hf
    · next h =>
      cases hf
      exact lv_icmp_eq C.1 C.2.1 hd ht (fun _ => k H locs ls hP hS hl) (fun g => absurd h g)
    · next h =>
      cases hf
      exact lv_icmp_eq C.1 C.2.1 hd ht (fun g => absurd g h) (fun _ => k H locs ls hP hS hl)
  · cases hf
def i_if_ne (t t2 : Nat) : gStp := fun L S M => match S with
  | .int x :: S => if x = 0 then some (t2, L, S, M) else some (t, L, S, M)
  | _ => none
theorem sn_if_ne {off : Int} {tgt : Nat} (hd : decode cc pc = .ok (.ifCond .ne off, 3)) (ht : (pc : Int) + off = (tgt : Int)) : gSn own cc nL pc (i_if_ne tgt (pc + 3)) := by
  intro p l e R s m args below meth c cells slots Q G C L S M pc' L' S' M' hf k H locs ls hP hS hl
  unfold i_if_ne at hf
  split at hf
  · split at hf
    · next h =>
      cases hf
      exact lv_if_ne C.1 C.2.1 hd ht (fun g => absurd h g) (fun _ => k H locs ls hP hS hl)
    · next h =>
      cases hf
      exact lv_if_ne C.1 C.2.1 hd ht (fun _ => k H locs ls hP hS hl) (fun g => absurd g h)
  · cases hf
def i_ic_ne (t t2 : Nat) : gStp := fun L S M => match S with
  | .int y :: .int x :: S => if x = y then some (t2, L, S, M) else some (t, L, S, M)
  | _ => none
theorem sn_ic_ne {off : Int} {tgt : Nat} (hd : decode cc pc = .ok (.if_icmp .ne off, 3)) (ht : (pc : Int) + off = (tgt : Int)) : gSn own cc nL pc (i_ic_ne tgt (pc + 3)) := by
  intro p l e R s m args below meth c cells slots Q G C L S M pc' L' S' M' hf k H locs ls hP hS hl
  unfold i_ic_ne at hf
  split at hf
  · split at hf
    · next h =>
      cases hf
      exact lv_icmp_ne C.1 C.2.1 hd ht (fun g => absurd h g) (fun _ => k H locs ls hP hS hl)
    · next h =>
      cases hf
      exact lv_icmp_ne C.1 C.2.1 hd ht (fun _ => k H locs ls hP hS hl) (fun g => absurd g h)
  · cases hf
def i_if_lt (t t2 : Nat) : gStp := fun L S M => match S with
  | .int x :: S => if x < 0 then some (t, L, S, M) else some (t2, L, S, M)
  | _ => none
theorem sn_if_lt {off : Int} {tgt : Nat} (hd : decode cc pc = .ok (.ifCond .lt off, 3)) (ht : (pc : Int) + off = (tgt : Int)) : gSn own cc nL pc (i_if_lt tgt (pc + 3)) := by
  intro p l e R s m args below meth c cells slots Q G C L S M pc' L' S' M' hf k H locs ls hP hS hl
  unfold i_if_lt at hf
  split at hf
  · split at hf
    · next h =>
      cases hf
      exact lv_if_lt C.1 C.2.1 hd ht (fun _ => k H locs ls hP hS hl) (fun g => absurd h g)
    · next h =>
      cases hf
      exact lv_if_lt C.1 C.2.1 hd ht (fun g => absurd g h) (fun _ => k H locs ls hP hS hl)
  · cases hf
def i_ic_lt (t t2 : Nat) : gStp := fun L S M => match S with
  | .int y :: .int x :: S => if x < y then some (t, L, S, M) else some (t2, L, S, M)
  | _ => none
theorem sn_ic_lt {off : Int} {tgt : Nat} (hd : decode cc pc = .ok (.if_icmp .lt off, 3)) (ht : (pc : Int) + off = (tgt : Int)) : gSn own cc nL pc (i_ic_lt tgt (pc + 3)) := by
  intro p l e R s m args below meth c cells slots Q G C L S M pc' L' S' M' hf k H locs ls hP hS hl
  unfold i_ic_lt at hf
  split at hf
  · split at hf
    · next h =>
      cases hf
      exact lv_icmp_lt C.1 C.2.1 hd ht (fun _ => k H locs ls hP hS hl) (fun g => absurd h g)
    · next h =>
      cases hf
      exact lv_icmp_lt C.1 C.2.1 hd ht (fun g => absurd g h) (fun _ => k H locs ls hP hS hl)
  · cases hf
def i_if_ge (t t2 : Nat) : gStp := fun L S M => match S with
  | .int x :: S => if 0 ≤ x then some (t, L, S, M) else some (t2, L, S, M)
  | _ => none
theorem sn_if_ge {off : Int} {tgt : Nat} (hd : decode cc pc = .ok (.ifCond .ge off, 3)) (ht : (pc : Int) + off = (tgt : Int)) : gSn own cc nL pc (i_if_ge tgt (pc + 3)) := by
  intro p l e R s m args below meth c cells slots Q G C L S M pc' L' S' M' hf k H locs ls hP hS hl
  unfold i_if_ge at hf
  split at hf
  · split at hf
    · next h =>
      cases hf
      exact lv_if_ge C.1 C.2.1 hd ht (fun _ => k H locs ls hP hS hl) (fun g => absurd h g)
    · next h =>
      cases hf
      exact lv_if_ge C.1 C.2.1 hd ht (fun g => absurd g h) (fun _ => k H locs ls hP hS hl)
  · cases hf
def i_ic_ge (t t2 : Nat) : gStp := fun L S M => match S with
  | .int y :: .int x :: S => if y ≤ x then some (t, L, S, M) else some (t2, L, S, M)
  | _ => none
theorem sn_ic_ge {off : Int} {tgt : Nat} (hd : decode cc pc = .ok (.if_icmp .ge off, 3)) (ht : (pc : Int) + off = (tgt : Int)) : gSn own cc nL pc (i_ic_ge tgt (pc + 3)) := by
  intro p l e R s m args below meth c cells slots Q G C L S M pc' L' S' M' hf k H locs ls hP hS hl
  unfold i_ic_ge at hf
  split at hf
  · split at hf
    · next h =>
      cases hf
      exact lv_icmp_ge C.1 C.2.1 hd ht (fun _ => k H locs ls hP hS hl) (fun g => absurd h g)
    · next h =>
      cases hf
      exact lv_icmp_ge C.1 C.2.1 hd ht (fun g => absurd g h) (fun _ => k H locs ls hP hS hl)
  · cases hf
def i_if_gt (t t2 : Nat) : gStp := fun L S M => match S with
  | .int x :: S => if 0 < x then some (t, L, S, M) else some (t2, L, S, M)
  | _ => none
theorem sn_if_gt {off : Int} {tgt : Nat} (hd : decode cc pc = .ok (.ifCond .gt off, 3)) (ht : (pc : Int) + off = (tgt : Int)) : gSn own cc nL pc (i_if_gt tgt (pc + 3)) := by
  intro p l e R s m args below meth c cells slots Q G C L S M pc' L' S' M' hf k H locs ls hP hS hl
  unfold i_if_gt at hf
  split at hf
  · split at hf
    · next h =>
      cases hf
      exact lv_if_gt C.1 C.2.1 hd ht (fun _ => k H locs ls hP hS hl) (fun g => absurd h g)
    · next h =>
      cases hf
      exact lv_if_gt C.1 C.2.1 hd ht (fun g => absurd g h) (fun _ => k H locs ls hP hS hl)
  · cases hf
def i_ic_gt (t t2 : Nat) : gStp := fun L S M => match S with
  | .int y :: .int x :: S => if y < x then some (t, L, S, M) else some (t2, L, S, M)
  | _ => none
theorem sn_ic_gt {off : Int} {tgt : Nat} (hd : decode cc pc = .ok (.if_icmp .gt off, 3)) (ht : (pc : Int) + off = (tgt : Int)) : gSn own cc nL pc (i_ic_gt tgt (pc + 3)) := by
  intro p l e R s m args below meth c cells slots Q G C L S M pc' L' S' M' hf k H locs ls hP hS hl
  unfold i_ic_gt at hf
  split at hf
  · split at hf
    · next h =>
      cases hf
      exact lv_icmp_gt C.1 C.2.1 hd ht (fun _ => k H locs ls hP hS hl) (fun g => absurd h g)
    · next h =>
      cases hf
      exact lv_icmp_gt C.1 C.2.1 hd ht (fun g => absurd g h) (fun _ => k H locs ls hP hS hl)
  · cases hf
def i_if_le (t t2 : Nat) : gStp := fun L S M => match S with
  | .int x :: S => if x ≤ 0 then some (t, L, S, M) else some (t2, L, S, M)
  | _ => none
theorem sn_if_le {off : Int} {tgt : Nat} (hd : decode cc pc = .ok (.ifCond .le off, 3)) (ht : (pc : Int) + off = (tgt : Int)) : gSn own cc nL pc (i_if_le tgt (pc + 3)) := by
  intro p l e R s m args below meth c cells slots Q G C L S M pc' L' S' M' hf k H locs ls hP hS hl
  unfold i_if_le at hf
  split at hf
  · split at hf
    · next h =>
      cases hf
      exact lv_if_le C.1 C.2.1 hd ht (fun _ => k H locs ls hP hS hl) (fun g => absurd h g)
    · next h =>
      cases hf
      exact lv_if_le C.1 C.2.1 hd ht (fun g => absurd g h) (fun _ => k H locs ls hP hS hl)
  · cases hf
def i_ic_le (t t2 : Nat) : gStp := fun L S M => match S with
  | .int y :: .int x :: S => if x ≤ y then some (t, L, S, M) else some (t2, L, S, M)
  | _ => none
theorem sn_ic_le {off : Int} {tgt : Nat} (hd : decode cc pc = .ok (.if_icmp .le off, 3)) (ht : (pc : Int) + off = (tgt : Int)) : gSn own cc nL pc (i_ic_le tgt (pc + 3)) := by
  intro p l e R s m args below meth c cells slots Q G C L S M pc' L' S' M' hf k H locs ls hP hS hl
  unfold i_ic_le at hf
  split at hf
  · split at hf
    · next h =>
      cases hf
      exact lv_icmp_le C.1 C.2.1 hd ht (fun _ => k H locs ls hP hS hl) (fun g => absurd h g)
    · next h =>
      cases hf
      exact lv_icmp_le C.1 C.2.1 hd ht (fun g => absurd g h) (fun _ => k H locs ls hP hS hl)
  · cases hf
def i_ifnull (t t2 : Nat) : gStp := fun L S M => match S with
  | .null :: S => some (t, L, S, M)
  | .ref _ :: S => some (t2, L, S, M)
  | _ => none
theorem sn_ifnull {off : Int} {tgt : Nat} (hd : decode cc pc = .ok (.ifnull off, 3)) (ht : (pc : Int) + off = (tgt : Int)) : gSn own cc nL pc (i_ifnull tgt (pc + 3)) := by
  intro p l e R s m args below meth c cells slots Q G C L S M pc' L' S' M' hf k H locs ls hP hS hl
  unfold i_ifnull at hf
  split at hf
  · cases hf
    exact lv_ifnullN C.1 C.2.1 hd ht (k H locs ls hP hS hl)
  · cases hf
    exact lv_ifnull C.1 C.2.1 hd (k H locs ls hP hS hl)
  · cases hf
theorem sn_ifnonnull {off : Int} {tgt : Nat} (hd : decode cc pc = .ok (.ifnonnull off, 3)) (ht : (pc : Int) + off = (tgt : Int)) : gSn own cc nL pc (i_ifnull (pc + 3) tgt) := by
  intro p l e R s m args below meth c cells slots Q G C L S M pc' L' S' M' hf k H locs ls hP hS hl
  unfold i_ifnull at hf
  split at hf
  · cases hf
    exact lv_ifnonnullN C.1 C.2.1 hd (k H locs ls hP hS hl)
  · cases hf
    exact lv_ifnonnull C.1 C.2.1 hd ht (k H locs ls hP hS hl)
  · cases hf
end GST
