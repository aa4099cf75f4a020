/-! Calls. -/
def gStr (o : Nat) : Bool := Nat.ble 910 o && Nat.blt o 924
def gRcv (k : Option Nat) (vs : List Value) : Bool := match k with
  | none => true
  | some c => match vs with
    | .ref o :: _ => bif Nat.beq c 100 then gStr o else gOb c o
    | _ => false
section GCL
variable {p : Program} {l : Launch} {e : Env} {R : Room} {s : State} {m : MethodId} {args : Array Value} {below : List Frame} {meth : Method} {c : Code} {H : Heap} {locs : List Loc} {cells slots : Nat} {Q : State → Prop}
variable {pc : Nat} {ls : Array Slot} {rest st0 : List Value} {a : Array Value} {G : gG} {Z : Option Value → gMem → Prop}
theorem gCall (hr : va_Run p l e R s m args below meth c H locs cells slots 0 0 (F0 m pc ls st0) rest (gQ G Z a) (gA G)) (hS : va_S (gA G) s.heap H locs)
    (kk : ∀ (r : Option Value) (M' : gMem) (H1 : Heap) (locs1 : List Loc), Z r M' → va_P G.1 vwCl (gWs G M') H1 → va_S (gA G) s.heap H1 locs1 → W p l e R s m args below meth c H1 locs1 cells slots Q (F0 m (pc + 3) ls ((r.map (gRl G)).toList ++ rest))) : W p l e R s m args below meth c H locs cells slots Q (F0 m pc ls st0) := by
  intro T hT X
  obtain ⟨v, st₀, t, T', L, h0, X', hL, e1, e2, ⟨⟨r, M', hv, hz0, hP⟩, hz, hk⟩, st⟩ := hr T hT X
  cases hv
  rw [h0] at hz hk
  obtain ⟨t2, a1, b1⟩ := kk r M' T'.heap (locs ++ L) hz0 (by rw [e1]; exact hP) ⟨Nat.le_trans hS.1 (by rw [e1]; exact hz), fun q h1 h2 => by rw [e1, hk q (Nat.lt_of_lt_of_le h1 hS.1) h2]; exact hS.2.1 q h1 h2, fun q hq => by
      rcases List.mem_append.mp hq with h | h
      · exact hS.2.2 q h
      · exact hL q h⟩ T' rfl X'
  exact ⟨t2, st t2 a1, b1⟩
theorem gPre_at {U : State} {M : gMem} (hK : va_K G.1 vwCl (gTys G) s) (hJ : gInj G) (hZ : gZ G s) (hP : va_P G.1 vwCl (gWs G M) H) (hS : va_S (gA G) s.heap H locs) (hU : U.heap = H) (hW : s.WarmedH U.vm) : gPre G M U :=
  ⟨by rw [hU]; exact hP, va_K.moved hW.alike hK, hJ, gZ_moved hW.alike (gNw_warm hW) (gNf_warm hW) (fun _ _ _ _ h => vk_R.warm hW h) (fun q h1 h2 => by rw [hU]; exact hS.2.1 q h1 h2) hZ⟩
end GCL
/-- at pc of Y stands a call of Y', with n values off the stack, the first an object of class k -/
def gEdge (Y : gY) (pc : Nat) (Y' : gY) (n : Nat) (k : Option Nat) : Prop :=
  ∀ (p : Program) (l : Launch) (e : Env) (R : Room) (s : State) (m : MethodId) (args : Array Value) (below : List Frame) (meth : Method) (c : Code) (cells slots : Nat) (Q : State → Prop) (G : gG), gCx Y.1.cls Y.2.1 Y.2.2.1 p R s m args c cells slots G →
  ∀ (L : gLoc) (S : List Value) (M : gMem) (vs : List Value) (Z' : Option Value → gMem → Prop) (dc : Nat), dc + 2 ≤ R.frames → 64 * (dc + 2) ≤ R.locals → gRcv k vs = true → vs.length = n → Nat.ble (S.map fun v => v.category).sum 8 = true → gRun G Y' dc vs M Z' →
  (∀ r M', Z' r M' → gW Y.2.2.1 p l e R s m args below meth c cells slots Q G (pc + 3) L (r.toList ++ S) M') → gW Y.2.2.1 p l e R s m args below meth c cells slots Q G pc L (vs.reverse ++ S) M
theorem gWd_good {Y : gY} (h : Cond.code Y.1 Y.2.1 Y.2.2.1 Y.2.2.2 ∈ gT) : GoodIn gT (gWd Y) := by
  intro w hw
  have hm : w ∈ gT := by
    rcases List.mem_cons.mp hw with rfl | hw
    · exact h
    · exact hw
  exact ⟨hm, good_of_word (gT_good hm)⟩
theorem gGood_app {ws : List Cond} {Y : gY} (h : Cond.code Y.1 Y.2.1 Y.2.2.1 Y.2.2.2 ∈ gT) (hw : ∀ w ∈ ws, w ∈ gT) : GoodIn gT (ws ++ gWd Y) := by
  intro w hm
  rcases List.mem_append.mp hm with hm | hm
  · exact ⟨hw w hm, good_of_word (gT_good (hw w hm))⟩
  · exact gWd_good h w hm
theorem gStk {G : gG} {vs S : List Value} : (vs.reverse ++ S).map (gRl G) = (vs.map (gRl G)).reverse ++ S.map (gRl G) := by simp
theorem gRet {G : gG} {r : Option Value} {S : List Value} : (r.map (gRl G)).toList ++ S.map (gRl G) = (r.toList ++ S).map (gRl G) := by cases r <;> rfl
theorem gRm_ok {R : Room} {dc nL : Nat} (h1 : dc + 2 ≤ R.frames) (h2 : 64 * (dc + 2) ≤ R.locals) (h3 : nL ≤ 40) : (gRm dc).frames + 1 ≤ R.frames ∧ 8 + (nL + 11) + (gRm dc).locals ≤ R.locals := by
  refine ⟨by show dc + 1 + 1 ≤ _; omega, ?_⟩
  show 8 + (nL + 11) + 64 * (dc + 1) ≤ _
  omega
/-- what every call wants of the called one -/
def gCal (Y' : gY) (np : Nat) : Prop := Cond.code Y'.1 Y'.2.1 Y'.2.2.1 Y'.2.2.2 ∈ gT ∧ Cond.initialized Y'.1.cls ∈ gT ∧ Y'.2.2.1 ≤ 40 ∧ (Y'.1.cls ≠ "java/lang/invoke/MethodHandle" ∧ Y'.1.cls ≠ "java/lang/invoke/VarHandle" ∧ (parseMethodDescriptor Y'.1.desc).map (fun d => d.parameters.length) = some np)
theorem gEdge_V {Y Y' : gY} {pc index np k : Nat} (hc : gCal Y' np) (hk : gCk k) (hkc : (gC k).1 = Y'.1.cls) (hd : decode Y.2.1 pc = .ok (.invokevirtual index, 3)) (h1 : Cond.methodLink Y.1.cls index Y'.1 ∈ gT) (h2 : Cond.instanceMethod Y'.1 ∈ gT) (h3 : Cond.selects Y'.1.cls Y'.1 Y'.1 ∈ gT) : gEdge Y pc Y' (np + 1) (some k) := by
  intro p l e R s m args below meth c cells slots Q G C L S M vs Z' dc hf hl2 hrc hn hs hr kk H locs ls hP hS hl
  obtain ⟨c1, c2, c3, c4⟩ := hc
  match vs, hrc with
  | .ref o :: vs, hrc =>
    have hk100 : Nat.beq k 100 = false := Bool.eq_false_iff.mpr (fun g => by
      have e := Nat.eq_of_beq_eq_true g
      subst e
      have := hk.1
      cases this)
    have hrc' : (bif Nat.beq k 100 then gStr o else gOb k o) = true := hrc
    rw [hk100] at hrc'
    obtain ⟨o1, o2⟩ := gOb_sh hrc'
    have hts := C.2.2.2.2.1
    rw [gStk]
    refine gCall (G := G) (Z := Z') (va_runV (ws := gWd Y') (As := vs.map (gRl G)) (b := G.2.2 o) ⟨C.1, C.2.1, C.2.2.1, C.2.2.2.1, hts⟩ (hr l dc (Nat.le_refl _)) (cwV (C := Y'.1.cls) np hts (gGood_app c1 ?_) rfl rfl rfl ⟨rfl, c4⟩ (gRm_ok hf hl2 c3)) ⟨gPre_blind, ?_, fun U hU hW => ⟨rfl, gPre_at C.2.2.2.2.2.1 C.2.2.2.2.2.2.1 C.2.2.2.2.2.2.2.1 hP hS hU hW⟩⟩ rfl ?_ hl.1 ?_ (lv_room ?_) hd ⟨C.2.2.2.2.2.2.2.2.2.2.1, C.2.2.2.2.2.2.2.2.2.2.2⟩) hS (rest := S.map (gRl G)) (fun r M' H1 locs1 hz hP1 hS1 => ?_)
    · intro w hw
      simp only [List.mem_cons, List.not_mem_nil, or_false] at hw
      rcases hw with rfl | rfl | rfl | rfl
      · exact h1
      · exact h2
      · exact h3
      · exact c2
    · obtain ⟨cell, r1, r2, r3⟩ := va_recv C.2.2.2.2.2.1 hP hk.1 ((gWs_at o2).trans (by rw [gCl_ob o1]))
      exact ⟨cell, r1, r2, by rw [← hkc]; exact r3⟩
    · have := hn
      simp only [List.length_cons] at this
      rw [List.length_map]
      omega
    · show (List.map (gRl G) (.ref o :: vs)).reverse ++ _ = _
      simp [gRl]
    · rw [gCat_sum]
      exact Nat.le_of_ble_eq_true hs
    · rw [gRet]
      exact kk r M' hz H1 locs1 ls hP1 hS1 hl
theorem gEdge_Str {Y Y' : gY} {pc index np : Nat} (hc : gCal Y' np) (hkc : "java/lang/String" = Y'.1.cls) (hd : decode Y.2.1 pc = .ok (.invokevirtual index, 3)) (h1 : Cond.methodLink Y.1.cls index Y'.1 ∈ gT) (h2 : Cond.instanceMethod Y'.1 ∈ gT) (h3 : Cond.selects Y'.1.cls Y'.1 Y'.1 ∈ gT) : gEdge Y pc Y' (np + 1) (some 100) := by
  intro p l e R s m args below meth c cells slots Q G C L S M vs Z' dc hf hl2 hrc hn hs hr kk H locs ls hP hS hl
  obtain ⟨c1, c2, c3, c4⟩ := hc
  match vs, hrc with
  | .ref o :: vs, hrc =>
    have hrc' : gStr o = true := hrc
    simp only [gStr, Bool.and_eq_true, Nat.ble_eq, Nat.blt_eq] at hrc'
    have hts := C.2.2.2.2.1
    rw [gStk]
    refine gCall (G := G) (Z := Z') (va_runV (ws := gWd Y') (As := vs.map (gRl G)) (b := G.2.2 o) ⟨C.1, C.2.1, C.2.2.1, C.2.2.2.1, hts⟩ (hr l dc (Nat.le_refl _)) (cwV (C := Y'.1.cls) np hts (gGood_app c1 ?_) rfl rfl rfl ⟨rfl, c4⟩ (gRm_ok hf hl2 c3)) ⟨gPre_blind, ?_, fun U hU hW => ⟨rfl, gPre_at C.2.2.2.2.2.1 C.2.2.2.2.2.2.1 C.2.2.2.2.2.2.2.1 hP hS hU hW⟩⟩ rfl ?_ hl.1 ?_ (lv_room ?_) hd ⟨C.2.2.2.2.2.2.2.2.2.2.1, C.2.2.2.2.2.2.2.2.2.2.2⟩) hS (rest := S.map (gRl G)) (fun r M' H1 locs1 hz hP1 hS1 => ?_)
    · intro w hw
      simp only [List.mem_cons, List.not_mem_nil, or_false] at hw
      rcases hw with rfl | rfl | rfl | rfl
      · exact h1
      · exact h2
      · exact h3
      · exact c2
    · obtain ⟨cell, r1, r2, r3⟩ := vk_recv C.2.2.2.2.2.2.2.1.2.2.2.2.2.2.1 (i := o - 910) (by omega) hS
      have e : 910 + (o - 910) = o := Nat.add_sub_cancel' hrc'.1
      rw [e] at r1
      exact ⟨cell, r1, r2, by rw [← hkc]; exact r3⟩
    · have := hn
      simp only [List.length_cons] at this
      rw [List.length_map]
      omega
    · show (List.map (gRl G) (.ref o :: vs)).reverse ++ _ = _
      simp [gRl]
    · rw [gCat_sum]
      exact Nat.le_of_ble_eq_true hs
    · rw [gRet]
      exact kk r M' hz H1 locs1 ls hP1 hS1 hl
theorem gEdge_S {Y Y' : gY} {pc index np : Nat} (hc : gCal Y' np) (hd : decode Y.2.1 pc = .ok (.invokestatic index, 3)) (h1 : Cond.methodLink Y.1.cls index Y'.1 ∈ gT) (h2 : Cond.static Y'.1 ∈ gT) : gEdge Y pc Y' np none := by
  intro p l e R s m args below meth c cells slots Q G C L S M vs Z' dc hf hl2 hrc hn hs hr kk H locs ls hP hS hl
  obtain ⟨c1, c2, c3, c4⟩ := hc
  have hts := C.2.2.2.2.1
  rw [gStk]
  refine gCall (G := G) (Z := Z') (va_runS (ws := gWd Y') (As := vs.map (gRl G)) ⟨C.1, C.2.1, C.2.2.1, C.2.2.2.1, hts⟩ (hr l dc (Nat.le_refl _)) (va_cwS np hts (gGood_app c1 ?_) rfl rfl rfl c4 (gRm_ok hf hl2 c3)) ⟨gPre_blind, fun U hU hW => ⟨rfl, gPre_at C.2.2.2.2.2.1 C.2.2.2.2.2.2.1 C.2.2.2.2.2.2.2.1 hP hS hU hW⟩⟩ rfl ?_ hl.1 rfl (lv_room ?_) hd ⟨C.2.2.2.2.2.2.2.2.2.2.1, C.2.2.2.2.2.2.2.2.2.2.2⟩) hS (rest := S.map (gRl G)) (fun r M' H1 locs1 hz hP1 hS1 => ?_)
  · intro w hw
    simp only [List.mem_cons, List.not_mem_nil, or_false] at hw
    rcases hw with rfl | rfl | rfl
    · exact h1
    · exact h2
    · exact c2
  · rw [List.length_map]
    exact hn
  · rw [gCat_sum]
    exact Nat.le_of_ble_eq_true hs
  · rw [gRet]
    exact kk r M' hz H1 locs1 ls hP1 hS1 hl
theorem gEdge_SN {Y Y' : gY} {pc index np : Nat} {host : String} (hc : gCal Y' np) (hd : decode Y.2.1 pc = .ok (.invokestatic index, 3)) (h1 : Cond.methodLinkNest Y.1.cls index Y'.1 host ∈ gNst) (h2 : Cond.static Y'.1 ∈ gT) : gEdge Y pc Y' np none := by
  intro p l e R s m args below meth c cells slots Q G C L S M vs Z' dc hf hl2 hrc hn hs hr kk H locs ls hP hS hl
  obtain ⟨c1, c2, c3, c4⟩ := hc
  have hts := C.2.2.2.2.1
  rw [gStk]
  refine gCall (G := G) (Z := Z') (va_runSN (host := host) (ws := gWd Y') (As := vs.map (gRl G)) ⟨C.1, C.2.1, C.2.2.1, C.2.2.2.1, hts⟩ (hr l dc (Nat.le_refl _)) ⟨va_cnB np hts (gWd_good c1) rfl rfl rfl (C.2.2.2.2.2.2.2.1.2.2.1 _ h1) (hts _ c2) c4 (gRm_ok hf hl2 c3), hts _ h2, trivial⟩ ⟨gPre_blind, fun U hU hW => ⟨rfl, gPre_at C.2.2.2.2.2.1 C.2.2.2.2.2.2.1 C.2.2.2.2.2.2.2.1 hP hS hU hW⟩⟩ rfl ?_ hl.1 rfl (lv_room ?_) hd ⟨C.2.2.2.2.2.2.2.2.2.2.1, C.2.2.2.2.2.2.2.2.2.2.2⟩) hS (rest := S.map (gRl G)) (fun r M' H1 locs1 hz hP1 hS1 => ?_)
  · rw [List.length_map]
    exact hn
  · rw [gCat_sum]
    exact Nat.le_of_ble_eq_true hs
  · rw [gRet]
    exact kk r M' hz H1 locs1 ls hP1 hS1 hl
abbrev gCT : Type := List (Nat × gY × Nat × Option Nat)
def gOkC (Y : gY) (ct : gCT) : Prop := ∀ q ∈ ct, gEdge Y q.1 q.2.1 q.2.2.1 q.2.2.2
def gCAt (ct : gCT) (pc : Nat) : Option (gY × Nat × Option Nat) := match ct with
  | [] => none
  | q :: r => bif Nat.beq q.1 pc then some q.2 else gCAt r pc
theorem gCAt_mem {pc : Nat} {x : gY × Nat × Option Nat} : ∀ {ct : gCT}, gCAt ct pc = some x → (pc, x) ∈ ct
  | [], h => by cases h
  | q :: r, h => by
    unfold gCAt at h
    by_cases e : q.1 = pc
    · subst e
      rw [show Nat.beq q.1 q.1 = true from Nat.beq_refl _] at h
      cases h
      exact List.mem_cons_self
    · rw [show Nat.beq q.1 pc = false from Bool.eq_false_iff.mpr (fun g => e (Nat.eq_of_beq_eq_true g))] at h
      exact List.mem_cons_of_mem _ (gCAt_mem h)
/-- n values off the stack, in the order in which they were put -/
def gTk : Nat → List Value → List Value → Option (List Value × List Value)
  | 0, acc, st => some (acc, st)
  | n + 1, acc, v :: st => gTk n (v :: acc) st
  | _ + 1, _, [] => none
theorem gTk_eq : ∀ {n : Nat} {acc st vs rest : List Value}, gTk n acc st = some (vs, rest) → ∃ ws, vs = ws ++ acc ∧ st = ws.reverse ++ rest ∧ ws.length = n
  | 0, acc, st, vs, rest, h => by
    unfold gTk at h
    cases h
    exact ⟨[], rfl, rfl, rfl⟩
  | n + 1, acc, v :: st, vs, rest, h => by
    unfold gTk at h
    obtain ⟨ws, h1, h2, h3⟩ := gTk_eq h
    exact ⟨ws ++ [v], by rw [h1]; simp, by rw [h2]; simp, by simp [h3]⟩
  | n + 1, acc, [], vs, rest, h => by cases h
section GGC
variable {G : gG} {Y : gY} {d : Nat} {Z : Option Value → gMem → Prop} {pc : Nat} {L : gLoc} {S : List Value} {M : gMem} {ct : gCT}
theorem go_call {Y' : gY} {n : Nat} {k : Option Nat} {vs rest : List Value} {dc : Nat} {Z' : Option Value → gMem → Prop} (ok : gOkC Y ct) (h : gCAt ct pc = some (Y', n, k)) (ht : gTk n [] S = some (vs, rest)) (hk : gRcv k vs = true) (hs : Nat.ble (rest.map fun v => v.category).sum 8 = true) (hr : gRun G Y' dc vs M Z') (hd : dc < d)
    (kk : ∀ r M', Z' r M' → gGo G Y d Z (pc + 3) L (r.toList ++ rest) M') : gGo G Y d Z pc L S M := by
  obtain ⟨ws, h1, h2, h3⟩ := gTk_eq ht
  rw [List.append_nil] at h1
  subst h1
  subst h2
  exact fun p l e s m args below meth c C hret hlk => ok _ (gCAt_mem h) p l e (gRm d) s m args below meth c 0 0 _ G C L rest M vs Z' dc (by show dc + 2 ≤ d + 1; omega) (by show 64 * (dc + 2) ≤ 64 * (d + 1); omega) hk h3 hs hr (fun r M' hz => kk r M' hz p l e s m args below meth c C hret hlk)
/-- a call that answers just one thing -/
theorem go_call1 {Y' : gY} {n : Nat} {k : Option Nat} {vs rest : List Value} {dc : Nat} {r : Option Value} {M' : gMem} (ok : gOkC Y ct) (h : gCAt ct pc = some (Y', n, k)) (ht : gTk n [] S = some (vs, rest)) (hk : gRcv k vs = true) (hs : Nat.ble (rest.map fun v => v.category).sum 8 = true) (hr : gRun G Y' dc vs M (fun r' N' => r' = r ∧ N' = M')) (hd : dc < d)
    (kk : gGo G Y d Z (pc + 3) L (r.toList ++ rest) M') : gGo G Y d Z pc L S M :=
  go_call ok h ht hk hs hr hd (fun r' N' hz => by obtain ⟨rfl, rfl⟩ := hz; exact kk)
end GGC
theorem gRun_mono {G : gG} {Y : gY} {d d2 : Nat} {vs : List Value} {M : gMem} {Z : Option Value → gMem → Prop} (h : gRun G Y d vs M Z) (hd : d ≤ d2) : gRun G Y d2 vs M Z := fun l d' hd' => h l d' (Nat.le_trans hd hd')
